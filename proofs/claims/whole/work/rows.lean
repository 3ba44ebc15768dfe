section
/-! CORE: a light logic over the kit. The heap is a partial map from addresses to (kind, values); kinds below 100 are objects of the class of that number, the others arrays. mx_Runs: from here the method comes to its return with r and the heap fin; mx_Ok: it comes to one with Q. -/
abbrev mx_M : Type := MethodName × ByteArray × Nat × Option FieldType
abbrev mx_S : Type := List Cond × List vw_C × (Nat → Option FieldType) × List Cond × List String
abbrev mx_G : Type := (Nat → ClassId) × (Nat → Nat → Nat) × (Nat → ClassId) × Heap
abbrev mx_E : Type := Nat × List Value
abbrev mx_H : Type := (Nat → Option mx_E) × Nat × Nat
def mx_cell (S : mx_S) (G : mx_G) (a : Nat) (x : mx_E) (H : Heap) : Prop :=
  if x.1 < 100 then ∃ r : vw_C, S.2.1[x.1]? = some r ∧ x.2.length = r.2.2 ∧ t_OB a (G.1 x.1) r.2.2 (G.2.1 x.1) H (vp_V x.2)
  else ∃ cell : Cell, H[a]? = some cell ∧ cell.cls = G.2.2.1 x.1 ∧ cell.vm ≠ .unknown ∧ (∀ k, cell.vm ≠ .statics k) ∧ cell.slots = x.2.toArray
theorem mx_cell.kept {S : mx_S} {G : mx_G} {a : Nat} {x : mx_E} {H H1 : Heap} (h : mx_cell S G a x H) (h1 : H1[a]? = H[a]?) : mx_cell S G a x H1 := by
  unfold mx_cell at h ⊢
  by_cases hk : x.1 < 100
  · rw [if_pos hk] at h ⊢
    obtain ⟨r, q1, q2, q3⟩ := h
    exact ⟨r, q1, q2, q3.kept h1⟩
  · rw [if_neg hk] at h ⊢
    obtain ⟨cell, q1, q2⟩ := h
    exact ⟨cell, by rw [h1]; exact q1, q2⟩
theorem mx_cell.lt {S : mx_S} {G : mx_G} {a : Nat} {x : mx_E} {H : Heap} (h : mx_cell S G a x H) : a < H.size := by
  unfold mx_cell at h
  by_cases hk : x.1 < 100
  · rw [if_pos hk] at h
    obtain ⟨r, q1, q2, cell, q3, -⟩ := h
    exact (Array.getElem?_eq_some_iff.mp q3).1
  · rw [if_neg hk] at h
    obtain ⟨cell, q1, q2⟩ := h
    exact (Array.getElem?_eq_some_iff.mp q1).1
theorem mx_cell.obj {S : mx_S} {G : mx_G} {a ci : Nat} {fs : List Value} {H : Heap} (hk : ci < 100) (h : mx_cell S G a (ci, fs) H) : ∃ r : vw_C, S.2.1[ci]? = some r ∧ fs.length = r.2.2 ∧ t_OB a (G.1 ci) r.2.2 (G.2.1 ci) H (vp_V fs) := by
  unfold mx_cell at h
  rw [if_pos hk] at h
  exact h
theorem mx_cell.arr {S : mx_S} {G : mx_G} {a k : Nat} {vs : List Value} {H : Heap} (hk : ¬ k < 100) (h : mx_cell S G a (k, vs) H) : ∃ cell : Cell, H[a]? = some cell ∧ cell.cls = G.2.2.1 k ∧ cell.vm ≠ .unknown ∧ (∀ k, cell.vm ≠ .statics k) ∧ cell.slots = vs.toArray := by
  unfold mx_cell at h
  rw [if_neg hk] at h
  exact h
theorem mx_cell.ofObj {S : mx_S} {G : mx_G} {a ci : Nat} {fs : List Value} {H : Heap} {r : vw_C} (hk : ci < 100) (h1 : S.2.1[ci]? = some r) (h2 : fs.length = r.2.2) (h3 : t_OB a (G.1 ci) r.2.2 (G.2.1 ci) H (vp_V fs)) : mx_cell S G a (ci, fs) H := by
  unfold mx_cell
  rw [if_pos hk]
  exact ⟨r, h1, h2, h3⟩
theorem mx_cell.ofArr {S : mx_S} {G : mx_G} {a k : Nat} {vs : List Value} {H : Heap} {cell : Cell} (hk : ¬ k < 100) (h1 : H[a]? = some cell) (h2 : cell.cls = G.2.2.1 k) (h3 : cell.vm ≠ .unknown) (h4 : ∀ k, cell.vm ≠ .statics k) (h5 : cell.slots = vs.toArray) : mx_cell S G a (k, vs) H := by
  unfold mx_cell
  rw [if_neg hk]
  exact ⟨cell, h1, h2, h3, h4, h5⟩
def mx_R (S : mx_S) (G : mx_G) (hs : mx_H) (H : Heap) : Prop :=
  H.size = hs.2.1 ∧ (∀ (a : Nat) (x : mx_E), hs.1 a = some x → mx_cell S G a x H ∧ (x.1 ≠ 101 → G.2.2.2.size ≤ a)) ∧ (∀ q : Nat, q < G.2.2.2.size → H[q]? = G.2.2.2[q]?) ∧ G.2.2.2.size ≤ H.size
/-- the heap with the cell a changed -/
def mx_st (hs : mx_H) (a : Nat) (x : mx_E) : mx_H := (fun q => if q = a then some x else hs.1 q, hs.2)
/-- the heap with a new cell of n slots -/
def mx_nw (hs : mx_H) (x : mx_E) (n : Nat) : mx_H := (fun q => if q = hs.2.1 then some x else hs.1 q, hs.2.1 + 1, hs.2.2 + n)
theorem mx_R.st {S : mx_S} {G : mx_G} {hs : mx_H} {H H1 : Heap} {a : Nat} {x : mx_E} (h : mx_R S G hs H) (hb : G.2.2.2.size ≤ a) (hc : mx_cell S G a x H1) (hz : H1.size = H.size) (ho : ∀ q : Nat, q ≠ a → H1[q]? = H[q]?) : mx_R S G (mx_st hs a x) H1 := by
  refine ⟨hz.trans h.1, fun b y hy => ?_, fun q hq => ?_, by rw [hz]; exact h.2.2.2⟩
  · by_cases hba : b = a
    · subst hba
      simp only [mx_st, if_true] at hy
      cases hy
      exact ⟨hc, fun _ => hb⟩
    · simp only [mx_st, if_neg hba] at hy
      exact ⟨(h.2.1 b y hy).1.kept (ho b hba), (h.2.1 b y hy).2⟩
  · rw [ho q (by omega)]
    exact h.2.2.1 q hq
theorem mx_R.nw {S : mx_S} {G : mx_G} {hs : mx_H} {H H1 : Heap} {x : mx_E} {n : Nat} (h : mx_R S G hs H) (hc : mx_cell S G H.size x H1) (hz : H1.size = H.size + 1) (ho : ∀ q : Nat, q < H.size → H1[q]? = H[q]?) : mx_R S G (mx_nw hs x n) H1 := by
  have hb := h.2.2.2
  refine ⟨by rw [hz, h.1]; rfl, fun b y hy => ?_, fun q hq => ?_, by omega⟩
  · by_cases hba : b = hs.2.1
    · simp only [mx_nw, if_pos hba] at hy
      cases hy
      rw [hba, ← h.1]
      exact ⟨hc, fun _ => hb⟩
    · simp only [mx_nw, if_neg hba] at hy
      have := h.2.1 b y hy
      exact ⟨this.1.kept (ho b this.1.lt), this.2⟩
  · rw [ho q (by omega)]
    exact h.2.2.1 q hq
def mx_okc (ws : List Cond) (q : vw_C) : Prop := (∀ w ∈ u_ws q.1 q.2.1 q.2.2, w ∈ ws) ∧ (∀ a, a < q.2.2 → ∀ b, b < q.2.2 → a ≠ b → (q.2.1 a).2.1 ≠ (q.2.1 b).2.1) ∧ ∀ k, k < q.2.2 → (parseFieldDescriptor (q.2.1 k).2.2.1).isSome = true
def mx_nest : Cond → Bool
  | .fieldLinkNest .. => true
  | .methodLinkNest .. => true
  | _ => false
def mx_okS (S : mx_S) : Prop := (∀ (ci : Nat) (q : vw_C), S.2.1[ci]? = some q → mx_okc S.1 q) ∧ (∀ w ∈ S.1, goodWord w = true) ∧ S.2.1.length ≤ 100 ∧ (∀ w ∈ S.2.2.2.1, mx_nest w = true) ∧ ∀ (k : Nat) (ty : FieldType), S.2.2.1 k = some ty → ¬ k < 100
def mx_AK (U : State) (c : ClassId) (k : Nat) (ty : FieldType) : Prop := ∃ (kA : Class) (comp : ClassId), U.vm.classes[c]? = some kA ∧ kA.kind = .array comp ty ∧ (k ≠ 101 → U.vm.findClass ("[" ++ ty.toString) = some c) ∧ ∀ C, ty = .object C → U.vm.findClass C = some comp
def mx_K (S : mx_S) (G : mx_G) (U : State) : Prop := mx_okS S ∧ (∀ (c : Nat) (q : vw_C), S.2.1[c]? = some q → u_Kn U q.1 q.2.1 q.2.2 (G.1 c) (G.2.1 c)) ∧ (∀ (k : Nat) (ty : FieldType), S.2.2.1 k = some ty → mx_AK U (G.2.2.1 k) k ty) ∧ (∀ w ∈ S.2.2.2.1, va_Nw w U) ∧ ∀ C ∈ S.2.2.2.2, va_AO C U
theorem mx_AK.moved {u U : State} {c : ClassId} {k : Nat} {ty : FieldType} (hvm : u.vm.Alike U.vm) (h : mx_AK u c k ty) : mx_AK U c k ty := by
  obtain ⟨kA, comp, h1, h2, h3, h4⟩ := h
  obtain ⟨k', hk', he⟩ := hvm.2.2 _ _ h1
  exact ⟨k', comp, hk', by rw [he]; exact h2, fun hk => by rw [hvm.findClass]; exact h3 hk, fun C hC => by rw [hvm.findClass]; exact h4 C hC⟩
theorem mx_AK.arr {U : State} {c : ClassId} {k : Nat} {ty : FieldType} (h : mx_AK U c k ty) {cell : Cell} (hc : cell.cls = c) (hs : ∀ k, cell.vm ≠ .statics k) : U.isArrayOf cell ty := by
  obtain ⟨kA, comp, h1, h2, -⟩ := h
  exact ⟨hs, kA, by rw [hc]; exact h1, comp, h2⟩
def mx_Fix (S : mx_S) (M : mx_M) (p : Program) (s : State) (m : MethodId) (args : Array Value) (meth : Method) (c : Code) : Prop :=
  p.tables.exec = Jvm.exec ∧ c.code = M.2.1 ∧ c.maxLocals = M.2.2.1 ∧ meth.sig.returnType = M.2.2.2 ∧ meth.locks = false ∧ s.vm.findClass M.1.cls = some m.cls ∧ meth.name = M.1.name ∧ ∀ w ∈ S.1, w.before args s = true
def mx_ret (M : mx_M) (pc : Nat) (r : Option Value) : Prop :=
  (∃ (v : Int32) (ty : FieldType), r = some (.int v) ∧ M.2.2.2 = some ty ∧ narrow ty (.int v) = .int v ∧ decode M.2.1 pc = .ok (.ireturn, 1)) ∨
  (∃ v : Int64, r = some (.long v) ∧ M.2.2.2 = some .long ∧ decode M.2.1 pc = .ok (.lreturn, 1)) ∨
  (r = none ∧ M.2.2.2 = none ∧ decode M.2.1 pc = .ok (.return_, 1)) ∨
  (∃ (v : Value) (ty : FieldType), r = some v ∧ M.2.2.2 = some ty ∧ ((∃ n, ty = .object n) ∨ ∃ t, ty = .array t) ∧ (v = .null ∨ ∃ a, v = .ref a) ∧ decode M.2.1 pc = .ok (.areturn, 1))
def mx_Runs (S : mx_S) (l : Launch) (G : mx_G) (d : Nat) (M : mx_M) (pc : Nat) (lv : List (Nat × Value)) (st : List Value) (hs : mx_H) (r : Option Value) (fin : mx_H) : Prop :=
  hs.2.1 ≤ fin.2.1 ∧ hs.2.2 ≤ fin.2.2 ∧ ∀ (p : Program) (e : Env) (R : Room) (s : State) (m : MethodId) (args : Array Value) (below : List Frame) (meth : Method) (c : Code) (H : Heap) (locs : List Loc) (cells slots : Nat) (ls : Array Slot) (Q : State → Prop),
    mx_Fix S M p s m args meth c → mx_K S G s → mx_R S G hs H → lv_has ls M.2.2.1 lv → (∀ q ∈ locs, G.2.2.2.size ≤ q.base) → d ≤ R.frames → 48 * d ≤ R.locals → cells + (fin.2.1 - hs.2.1) ≤ R.cells → slots + (fin.2.2 - hs.2.2) ≤ R.slots →
    (∀ (pc' : Nat) (ls' : Array Slot) (H' : Heap) (locs' : List Loc), mx_R S G fin H' → (∀ q ∈ locs', G.2.2.2.size ≤ q.base) → mx_ret M pc' r → W p l e R s m args below meth c H' locs' (cells + (fin.2.1 - hs.2.1)) (slots + (fin.2.2 - hs.2.2)) Q (F0 m pc' ls' r.toList)) →
    W p l e R s m args below meth c H locs cells slots Q (F0 m pc ls st)
def mx_Ok (S : mx_S) (l : Launch) (G : mx_G) (d : Nat) (M : mx_M) (pc : Nat) (lv : List (Nat × Value)) (st : List Value) (hs : mx_H) (Q : Option Value → mx_H → Prop) : Prop := ∃ (r : Option Value) (fin : mx_H), mx_Runs S l G d M pc lv st hs r fin ∧ Q r fin
/-- a call of a method on these arguments -/
def mx_C (S : mx_S) (l : Launch) (G : mx_G) (d : Nat) (M : mx_M) (args : List Value) (hs : mx_H) (Q : Option Value → mx_H → Prop) : Prop := mx_Ok S l G d M 0 (lv_args 0 args) [] hs Q
section MXA
variable {S : mx_S} {l : Launch} {G : mx_G} {d pc pc' : Nat} {M : mx_M} {lv lv' : List (Nat × Value)} {st st' : List Value} {hs : mx_H} {r : Option Value} {fin : mx_H} {Q : Option Value → mx_H → Prop}
theorem mx_Ok.mono {Q' : Option Value → mx_H → Prop} (h : mx_Ok S l G d M pc lv st hs Q) (hq : ∀ r fin, Q r fin → Q' r fin) : mx_Ok S l G d M pc lv st hs Q' := by
  obtain ⟨r, fin, h1, h2⟩ := h
  exact ⟨r, fin, h1, hq r fin h2⟩
/-- an instruction that touches neither heap nor locals -/
theorem mx_go (f : ∀ (p : Program) (e : Env) (R : Room) (s : State) (m : MethodId) (args : Array Value) (below : List Frame) (meth : Method) (c : Code) (H : Heap) (locs : List Loc) (cells slots : Nat) (ls : Array Slot) (Q : State → Prop), mx_Fix S M p s m args meth c → mx_K S G s → mx_R S G hs H → lv_has ls M.2.2.1 lv → W p l e R s m args below meth c H locs cells slots Q (F0 m pc' ls st') → W p l e R s m args below meth c H locs cells slots Q (F0 m pc ls st))
    (k : mx_Ok S l G d M pc' lv st' hs Q) : mx_Ok S l G d M pc lv st hs Q := by
  obtain ⟨r, fin, ⟨h1, h2, h3⟩, hq⟩ := k
  exact ⟨r, fin, ⟨h1, h2, fun p e R s m args below meth c H locs cells slots ls Q' hF hK hR hl hlo hd hld hc hsl kk => f p e R s m args below meth c H locs cells slots ls Q' hF hK hR hl (h3 p e R s m args below meth c H locs cells slots ls Q' hF hK hR hl hlo hd hld hc hsl kk)⟩, hq⟩
/-- an instruction that writes a local -/
theorem mx_goL (f : ∀ (p : Program) (e : Env) (R : Room) (s : State) (m : MethodId) (args : Array Value) (below : List Frame) (meth : Method) (c : Code) (H : Heap) (locs : List Loc) (cells slots : Nat) (ls : Array Slot) (Q : State → Prop), mx_Fix S M p s m args meth c → lv_has ls M.2.2.1 lv → (∀ ls' : Array Slot, lv_has ls' M.2.2.1 lv' → W p l e R s m args below meth c H locs cells slots Q (F0 m pc' ls' st')) → W p l e R s m args below meth c H locs cells slots Q (F0 m pc ls st))
    (k : mx_Ok S l G d M pc' lv' st' hs Q) : mx_Ok S l G d M pc lv st hs Q := by
  obtain ⟨r, fin, ⟨h1, h2, h3⟩, hq⟩ := k
  exact ⟨r, fin, ⟨h1, h2, fun p e R s m args below meth c H locs cells slots ls Q' hF hK hR hl hlo hd hld hc hsl kk => f p e R s m args below meth c H locs cells slots ls Q' hF hl (fun ls' hl' => h3 p e R s m args below meth c H locs cells slots ls' Q' hF hK hR hl' hlo hd hld hc hsl kk)⟩, hq⟩
theorem mx_sub (ks : List Nat) (hl : lv_pick lv ks = lv') (k : mx_Ok S l G d M pc lv' st hs Q) : mx_Ok S l G d M pc lv st hs Q :=
  mx_goL (fun _ _ _ _ _ _ _ _ _ _ _ _ _ _ _ _ h kk => kk _ (lv_sub h ks hl)) k
/-- the end -/
theorem mx_end (hr : mx_ret M pc r) (hst : st = r.toList) (hq : Q r hs) : mx_Ok S l G d M pc lv st hs Q := by
  subst hst
  refine ⟨r, hs, ⟨Nat.le_refl _, Nat.le_refl _, fun p e R s m args below meth c H locs cells slots ls Q' hF hK hR hl hlo hd hld hc hsl kk => ?_⟩, hq⟩
  have h := kk pc ls H locs hR hlo hr
  rw [Nat.sub_self, Nat.sub_self, Nat.add_zero, Nat.add_zero] at h
  exact h
def mx_Q (S : mx_S) (G : mx_G) (r : Option Value) (fin : mx_H) : Array Value → State → Outcome → State → Prop := fun _ _ o t => o = .returned r ∧ mx_R S G fin t.heap
def mx_ws (S : mx_S) (M : mx_M) : List Cond := Cond.code M.1 M.2.1 M.2.2.1 M.2.2.2 :: S.1
abbrev mx_rm (d mc ms : Nat) : Room := { frames := d, cells := mc, slots := ms, locals := 48 * d }
theorem mx_leave {p : Program} {e : Env} {R : Room} {s : State} {m : MethodId} {args : Array Value} {below : List Frame} {meth : Method} {c : Code} {H : Heap} {locs : List Loc} {cells slots : Nat} {ls : Array Slot} (hF : mx_Fix S M p s m args meth c) (hR : mx_R S G fin H) (hlo : ∀ q ∈ locs, G.2.2.2.size ≤ q.base) (hr : mx_ret M pc r) :
    W p l e R s m args below meth c H locs cells slots (MQ below (mx_Q S G r fin) args s cells slots (fun q => G.2.2.2.size ≤ q)) (F0 m pc ls r.toList) := by
  obtain ⟨hx, hb, hml, hret, hlocks, -⟩ := hF
  have hq : ∀ t : State, t.heap = H → s.WarmedH t.vm → mx_Q S G r fin args s (.returned r) t := fun t ht _ => ⟨rfl, by rw [ht]; exact hR⟩
  rcases hr with ⟨v, ty, rfl, h2, h3, h4⟩ | ⟨v, rfl, h2, h4⟩ | ⟨rfl, h2, h4⟩ | ⟨v, ty, rfl, h2, h3, h5, h4⟩
  · exact W.zret hx hb (hret.trans h2) h3 hq hlo h4 hlocks
  · exact W.lret hx hb (hret.trans h2) hq hlo h4 hlocks
  · exact W.vret hx hb (hret.trans h2) hq hlo h4 hlocks
  · exact W.aret hx hb (hret.trans h2) h3 h5 hq hlo h4 hlocks
theorem mx_met {av : List Value} (hy : plainName M.1.cls = true) (hav : (lg_sl av).length ≤ M.2.2.1) (h : mx_Runs S l G d M 0 (lv_args 0 av) [] hs r fin) :
    Met l M.1 (mx_ws S M) (mx_rm d (fin.2.1 - hs.2.1) (fin.2.2 - hs.2.2)) (va_Pc av (fun U => mx_K S G U ∧ mx_R S G hs U.heap)) (mx_Q S G r fin) (fin.2.1 - hs.2.1) (fin.2.2 - hs.2.2) (fun q => G.2.2.2.size ≤ q) := by
  refine Met.ofW (cc := M.2.1) (maxL := M.2.2.1) (ret := M.2.2.2) hy rfl ?_
  intro p e s m args below meth c s₁ B hml hv
  obtain ⟨rfl, hK, hR⟩ := hv
  have hts := atoms_spec (ws := mx_ws S M) B.pre
  have hF : mx_Fix S M p s m av.toArray meth c := ⟨B.exec, B.bytes, hml, B.returns, B.notSynchronized, findClass_of_methodNamed B.named, (name_of_methodNamed B.named B.method).1, fun w hw => hts w (List.mem_cons_of_mem _ hw)⟩
  have hl := lv_entry av (n := M.2.2.1) hav
  rw [lg_entry_eq]
  generalize (lg_sl av ++ List.replicate (M.2.2.1 - (lg_sl av).length) Slot.unset).toArray = ls at hl ⊢
  refine h.2.2 p e _ s m _ below meth c s.heap [] 0 0 ls _ hF hK hR hl (fun _ h => by cases h) (Nat.le_refl _) (Nat.le_refl _) (by rw [Nat.zero_add]; exact Nat.le_refl _) (by rw [Nat.zero_add]; exact Nat.le_refl _) ?_
  intro pc' ls' H' locs' hR' hlo' hr'
  rw [Nat.zero_add, Nat.zero_add]
  exact mx_leave hF hR' hlo' hr'
/-- behind a call -/
theorem mx_after {p : Program} {e : Env} {R : Room} {s : State} {m : MethodId} {args : Array Value} {below : List Frame} {meth : Method} {c : Code} {H : Heap} {locs : List Loc} {cells slots mc ms : Nat} {ls : Array Slot} {QQ : State → Prop} {rest : List Value} {a : Array Value} {hs1 : mx_H} {r1 : Option Value}
    (hr : va_Run p l e R s m args below meth c H locs cells slots mc ms (F0 m pc ls st) rest (mx_Q S G r1 hs1 a) (fun q => G.2.2.2.size ≤ q)) (hlo : ∀ q ∈ locs, G.2.2.2.size ≤ q.base)
    (kk : ∀ (H1 : Heap) (locs1 : List Loc), mx_R S G hs1 H1 → (∀ q ∈ locs1, G.2.2.2.size ≤ q.base) → W p l e R s m args below meth c H1 locs1 (cells + mc) (slots + ms) QQ (F0 m (pc + 3) ls (r1.toList ++ rest))) : W p l e R s m args below meth c H locs cells slots QQ (F0 m pc ls st) := by
  intro T hT X
  obtain ⟨v, st₀, t, T', L, h0, X', hL, e1, e2, ⟨hv, hR⟩, st⟩ := hr T hT X
  cases hv
  obtain ⟨t2, a1, b1⟩ := kk T'.heap (locs ++ L) (by rw [e1]; exact hR) (fun q hq => by
      rcases List.mem_append.mp hq with h | h
      · exact hlo q h
      · exact hL q h) T' rfl X'
  exact ⟨t2, st t2 a1, b1⟩
theorem mx_K.warm {s U : State} (hW : s.WarmedH U.vm) (h : mx_K S G s) : mx_K S G U := by
  obtain ⟨h0, h1, h2, h3, h4⟩ := h
  refine ⟨h0, fun c q hq => u_Kn_moved hW.alike (h1 c q hq), fun k ty hk => (h2 k ty hk).moved hW.alike, fun w hw => ?_, fun C hC => (h4 C hC).moved hW.alike⟩
  have hx := h3 w hw
  have hy := h0.2.2.2.1 w hw
  cases w <;> first | exact va_Nw.warmF hW hx | exact va_Nw.warmM hW hx | (exact absurd hy (by decide)) | (cases hy)
theorem mx_K.calling {U : State} {g : JFrame} {mk : MethodId} {a : Array Value} (h : mx_K S G U) : mx_K S G (U.calling g mk a) := by
  obtain ⟨h0, h1, h2, h3, h4⟩ := h
  have hA : U.vm.Alike (U.calling g mk a).vm := Vm.Alike.refl U.vm
  refine ⟨h0, fun c q hq => u_Kn_moved hA (h1 c q hq), fun k ty hk => (h2 k ty hk).moved hA, fun w hw => ?_, fun C hC => (h4 C hC).moved hA⟩
  have hx := h3 w hw
  have hy := h0.2.2.2.1 w hw
  exact va_Nw.same (by cases w <;> first | rfl | (exact absurd hy (by decide)) | (cases hy)) (rfl : U.vm = (U.calling g mk a).vm) hx
end MXA
end
section
/-! RULES: an instruction, a row, over mx_Ok. -/
def mx_okM (S : mx_S) (Y : mx_M) (n : Nat) : Prop := plainName Y.1.cls = true ∧ (Y.1.cls ≠ "java/lang/invoke/MethodHandle" ∧ Y.1.cls ≠ "java/lang/invoke/VarHandle" ∧ (parseMethodDescriptor Y.1.desc).map (fun d => d.parameters.length) = some n) ∧ Y.2.2.1 ≤ 29 ∧ Cond.code Y.1 Y.2.1 Y.2.2.1 Y.2.2.2 ∈ S.1 ∧ Cond.initialized Y.1.cls ∈ S.1
theorem mx_goodIn {S : mx_S} {Y : mx_M} {n : Nat} (h : mx_okS S) (hY : mx_okM S Y n) : GoodIn S.1 (mx_ws S Y) := by
  intro w hw
  have hin : w ∈ S.1 := by
    rcases List.mem_cons.mp hw with rfl | hw
    · exact hY.2.2.2.1
    · exact hw
  exact ⟨hin, good_of_word (h.2.1 w hin)⟩
section MXC
variable {S : mx_S} {l : Launch} {G : mx_G} {d pc : Nat} {M Y : mx_M} {lv : List (Nat × Value)} {st : List Value} {hs : mx_H} {Q Q1 : Option Value → mx_H → Prop} {idx n b ci : Nat} {As rest fs : List Value} {q : vw_C} {host : String}
theorem mx_blind (S : mx_S) (G : mx_G) (hs : mx_H) (av : List Value) : FrameBlind (va_Pc av (fun U => mx_K S G U ∧ mx_R S G hs U.heap)) := fun _ _ _ _ q => ⟨q.1, mx_K.calling q.2.1, q.2.2⟩
theorem mx_invV (hd : decode M.2.1 pc = .ok (.invokevirtual idx, 3)) (hY : mx_okM S Y n) (hlink : Cond.methodLink M.1.cls idx Y.1 ∈ S.1) (hins : Cond.instanceMethod Y.1 ∈ S.1) (hsel : Cond.selects Y.1.cls Y.1 Y.1 ∈ S.1) (hst : st = As.reverse ++ .ref b :: rest) (hn : As.length = n) (hrest : (rest.map fun v => v.category).sum ≤ 8) (hav : (lg_sl (.ref b :: As)).length ≤ Y.2.2.1) (hcell : hs.1 b = some (ci, fs)) (hq : S.2.1[ci]? = some q) (hqc : q.1 = Y.1.cls)
    (h1 : mx_C S l G d Y (.ref b :: As) hs Q1) (k : ∀ r1 hs1, Q1 r1 hs1 → mx_Ok S l G (d + 1) M (pc + 3) lv (r1.toList ++ rest) hs1 Q) : mx_Ok S l G (d + 1) M pc lv st hs Q := by
  obtain ⟨r1, hs1, hr1, hq1⟩ := h1
  obtain ⟨r, fin, hr2, hqf⟩ := k r1 hs1 hq1
  have a1 := hr1.1
  have a2 := hr1.2.1
  have a3 := hr2.1
  have a4 := hr2.2.1
  refine ⟨r, fin, ⟨by omega, by omega, fun p e R s m args below meth c H locs cells slots ls Q' hF hK hR hl hlo hfr hld hc hsl kk => ?_⟩, hqf⟩
  have hML : Y.2.2.1 ≤ 29 := hY.2.2.1
  have hci : ci < 100 := Nat.lt_of_lt_of_le (List.getElem?_eq_some_iff.mp hq).1 hK.1.2.2.1
  have hts := hF.2.2.2.2.2.2.2
  have hrecv : ∃ cellB : Cell, H[b]? = some cellB ∧ cellB.vm.isStatics = false ∧ s.vm.findClass Y.1.cls = some cellB.cls := by
    obtain ⟨r', hr', -, cell, g1, g2, g3, -⟩ := ((hR.2.1 b _ hcell).1).obj hci
    cases hr'.symm.trans hq
    exact ⟨cell, g1, by rw [g3]; rfl, by rw [g2, ← hqc]; exact (hK.2.1 ci _ hq).2.1⟩
  subst hst
  refine mx_after (hs1 := hs1) (r1 := r1) (va_runV (As := As) (rest := rest) (nL := M.2.2.1) (cc := M.2.1) (Ts := S.1) (own := M.1.cls) (C := Y.1.cls) (b := b) ⟨hF.1, hF.2.1, hF.2.2.1, hF.2.2.2.2.2.1, hts⟩ (mx_met hY.1 hav hr1) ⟨callB_of n hts (mx_goodIn hK.1 hY) rfl rfl rfl (hts _ hY.2.2.2.2) (hts _ hlink) hY.2.1 ⟨hfr, by show 8 + (_ + 11) + 48 * d ≤ _; omega⟩, hts _ hins, hts _ hsel⟩ ⟨mx_blind S G hs _, hrecv, fun U hU hW => ⟨rfl, mx_K.warm hW hK, by rw [hU]; exact hR⟩⟩ rfl hn hl.1 rfl (lv_room hrest) hd ⟨by omega, by omega⟩) hlo (fun H1 locs1 hR1 hlo1 => ?_)
  refine hr2.2.2 p e R s m args below meth c H1 locs1 _ _ ls Q' hF hK hR1 hl hlo1 hfr hld (by omega) (by omega) (fun pc' ls' H' locs' hR' hlo' hr' => ?_)
  have e1 : cells + (hs1.2.1 - hs.2.1) + (fin.2.1 - hs1.2.1) = cells + (fin.2.1 - hs.2.1) := by omega
  have e2 : slots + (hs1.2.2 - hs.2.2) + (fin.2.2 - hs1.2.2) = slots + (fin.2.2 - hs.2.2) := by omega
  rw [e1, e2]
  exact kk pc' ls' H' locs' hR' hlo' hr'
theorem mx_invVN (hd : decode M.2.1 pc = .ok (.invokevirtual idx, 3)) (hY : mx_okM S Y n) (hlink : Cond.methodLinkNest M.1.cls idx Y.1 host ∈ S.2.2.2.1) (hins : Cond.instanceMethod Y.1 ∈ S.1) (hsel : Cond.selects Y.1.cls Y.1 Y.1 ∈ S.1) (hst : st = As.reverse ++ .ref b :: rest) (hn : As.length = n) (hrest : (rest.map fun v => v.category).sum ≤ 8) (hav : (lg_sl (.ref b :: As)).length ≤ Y.2.2.1) (hcell : hs.1 b = some (ci, fs)) (hq : S.2.1[ci]? = some q) (hqc : q.1 = Y.1.cls)
    (h1 : mx_C S l G d Y (.ref b :: As) hs Q1) (k : ∀ r1 hs1, Q1 r1 hs1 → mx_Ok S l G (d + 1) M (pc + 3) lv (r1.toList ++ rest) hs1 Q) : mx_Ok S l G (d + 1) M pc lv st hs Q := by
  obtain ⟨r1, hs1, hr1, hq1⟩ := h1
  obtain ⟨r, fin, hr2, hqf⟩ := k r1 hs1 hq1
  have a1 := hr1.1
  have a2 := hr1.2.1
  have a3 := hr2.1
  have a4 := hr2.2.1
  refine ⟨r, fin, ⟨by omega, by omega, fun p e R s m args below meth c H locs cells slots ls Q' hF hK hR hl hlo hfr hld hc hsl kk => ?_⟩, hqf⟩
  have hML : Y.2.2.1 ≤ 29 := hY.2.2.1
  have hci : ci < 100 := Nat.lt_of_lt_of_le (List.getElem?_eq_some_iff.mp hq).1 hK.1.2.2.1
  have hts := hF.2.2.2.2.2.2.2
  have hrecv : ∃ cellB : Cell, H[b]? = some cellB ∧ cellB.vm.isStatics = false ∧ s.vm.findClass Y.1.cls = some cellB.cls := by
    obtain ⟨r', hr', -, cell, g1, g2, g3, -⟩ := ((hR.2.1 b _ hcell).1).obj hci
    cases hr'.symm.trans hq
    exact ⟨cell, g1, by rw [g3]; rfl, by rw [g2, ← hqc]; exact (hK.2.1 ci _ hq).2.1⟩
  subst hst
  refine mx_after (hs1 := hs1) (r1 := r1) (va_runVN (As := As) (rest := rest) (nL := M.2.2.1) (cc := M.2.1) (Ts := S.1) (own := M.1.cls) (C := Y.1.cls) (b := b) ⟨hF.1, hF.2.1, hF.2.2.1, hF.2.2.2.2.2.1, hts⟩ (mx_met hY.1 hav hr1) ⟨va_cnB n hts (mx_goodIn hK.1 hY) rfl rfl rfl (hK.2.2.2.1 _ hlink) (hts _ hY.2.2.2.2) hY.2.1 ⟨hfr, by show 8 + (_ + 11) + 48 * d ≤ _; omega⟩, hts _ hins, hts _ hsel⟩ ⟨mx_blind S G hs _, hrecv, fun U hU hW => ⟨rfl, mx_K.warm hW hK, by rw [hU]; exact hR⟩⟩ rfl hn hl.1 rfl (lv_room hrest) hd ⟨by omega, by omega⟩) hlo (fun H1 locs1 hR1 hlo1 => ?_)
  refine hr2.2.2 p e R s m args below meth c H1 locs1 _ _ ls Q' hF hK hR1 hl hlo1 hfr hld (by omega) (by omega) (fun pc' ls' H' locs' hR' hlo' hr' => ?_)
  have e1 : cells + (hs1.2.1 - hs.2.1) + (fin.2.1 - hs1.2.1) = cells + (fin.2.1 - hs.2.1) := by omega
  have e2 : slots + (hs1.2.2 - hs.2.2) + (fin.2.2 - hs1.2.2) = slots + (fin.2.2 - hs.2.2) := by omega
  rw [e1, e2]
  exact kk pc' ls' H' locs' hR' hlo' hr'
theorem mx_invS (hd : decode M.2.1 pc = .ok (.invokestatic idx, 3)) (hY : mx_okM S Y n) (hlink : Cond.methodLink M.1.cls idx Y.1 ∈ S.1) (hstat : Cond.static Y.1 ∈ S.1) (hst : st = As.reverse ++ rest) (hn : As.length = n) (hrest : (rest.map fun v => v.category).sum ≤ 8) (hav : (lg_sl (As)).length ≤ Y.2.2.1)
    (h1 : mx_C S l G d Y (As) hs Q1) (k : ∀ r1 hs1, Q1 r1 hs1 → mx_Ok S l G (d + 1) M (pc + 3) lv (r1.toList ++ rest) hs1 Q) : mx_Ok S l G (d + 1) M pc lv st hs Q := by
  obtain ⟨r1, hs1, hr1, hq1⟩ := h1
  obtain ⟨r, fin, hr2, hqf⟩ := k r1 hs1 hq1
  have a1 := hr1.1
  have a2 := hr1.2.1
  have a3 := hr2.1
  have a4 := hr2.2.1
  refine ⟨r, fin, ⟨by omega, by omega, fun p e R s m args below meth c H locs cells slots ls Q' hF hK hR hl hlo hfr hld hc hsl kk => ?_⟩, hqf⟩
  have hML : Y.2.2.1 ≤ 29 := hY.2.2.1
  have hts := hF.2.2.2.2.2.2.2
  subst hst
  refine mx_after (hs1 := hs1) (r1 := r1) (va_runS (As := As) (rest := rest) (nL := M.2.2.1) (cc := M.2.1) (Ts := S.1) (own := M.1.cls) ⟨hF.1, hF.2.1, hF.2.2.1, hF.2.2.2.2.2.1, hts⟩ (mx_met hY.1 hav hr1) ⟨callB_of n hts (mx_goodIn hK.1 hY) rfl rfl rfl (hts _ hY.2.2.2.2) (hts _ hlink) hY.2.1 ⟨hfr, by show 8 + (_ + 11) + 48 * d ≤ _; omega⟩, hts _ hstat⟩ ⟨mx_blind S G hs _, fun U hU hW => ⟨rfl, mx_K.warm hW hK, by rw [hU]; exact hR⟩⟩ rfl hn hl.1 rfl (lv_room hrest) hd ⟨by omega, by omega⟩) hlo (fun H1 locs1 hR1 hlo1 => ?_)
  refine hr2.2.2 p e R s m args below meth c H1 locs1 _ _ ls Q' hF hK hR1 hl hlo1 hfr hld (by omega) (by omega) (fun pc' ls' H' locs' hR' hlo' hr' => ?_)
  have e1 : cells + (hs1.2.1 - hs.2.1) + (fin.2.1 - hs1.2.1) = cells + (fin.2.1 - hs.2.1) := by omega
  have e2 : slots + (hs1.2.2 - hs.2.2) + (fin.2.2 - hs1.2.2) = slots + (fin.2.2 - hs.2.2) := by omega
  rw [e1, e2]
  exact kk pc' ls' H' locs' hR' hlo' hr'
theorem mx_invSN (hd : decode M.2.1 pc = .ok (.invokestatic idx, 3)) (hY : mx_okM S Y n) (hlink : Cond.methodLinkNest M.1.cls idx Y.1 host ∈ S.2.2.2.1) (hstat : Cond.static Y.1 ∈ S.1) (hst : st = As.reverse ++ rest) (hn : As.length = n) (hrest : (rest.map fun v => v.category).sum ≤ 8) (hav : (lg_sl (As)).length ≤ Y.2.2.1)
    (h1 : mx_C S l G d Y (As) hs Q1) (k : ∀ r1 hs1, Q1 r1 hs1 → mx_Ok S l G (d + 1) M (pc + 3) lv (r1.toList ++ rest) hs1 Q) : mx_Ok S l G (d + 1) M pc lv st hs Q := by
  obtain ⟨r1, hs1, hr1, hq1⟩ := h1
  obtain ⟨r, fin, hr2, hqf⟩ := k r1 hs1 hq1
  have a1 := hr1.1
  have a2 := hr1.2.1
  have a3 := hr2.1
  have a4 := hr2.2.1
  refine ⟨r, fin, ⟨by omega, by omega, fun p e R s m args below meth c H locs cells slots ls Q' hF hK hR hl hlo hfr hld hc hsl kk => ?_⟩, hqf⟩
  have hML : Y.2.2.1 ≤ 29 := hY.2.2.1
  have hts := hF.2.2.2.2.2.2.2
  subst hst
  refine mx_after (hs1 := hs1) (r1 := r1) (va_runSN (As := As) (rest := rest) (nL := M.2.2.1) (cc := M.2.1) (Ts := S.1) (own := M.1.cls) ⟨hF.1, hF.2.1, hF.2.2.1, hF.2.2.2.2.2.1, hts⟩ (mx_met hY.1 hav hr1) ⟨va_cnB n hts (mx_goodIn hK.1 hY) rfl rfl rfl (hK.2.2.2.1 _ hlink) (hts _ hY.2.2.2.2) hY.2.1 ⟨hfr, by show 8 + (_ + 11) + 48 * d ≤ _; omega⟩, hts _ hstat, trivial⟩ ⟨mx_blind S G hs _, fun U hU hW => ⟨rfl, mx_K.warm hW hK, by rw [hU]; exact hR⟩⟩ rfl hn hl.1 rfl (lv_room hrest) hd ⟨by omega, by omega⟩) hlo (fun H1 locs1 hR1 hlo1 => ?_)
  refine hr2.2.2 p e R s m args below meth c H1 locs1 _ _ ls Q' hF hK hR1 hl hlo1 hfr hld (by omega) (by omega) (fun pc' ls' H' locs' hR' hlo' hr' => ?_)
  have e1 : cells + (hs1.2.1 - hs.2.1) + (fin.2.1 - hs1.2.1) = cells + (fin.2.1 - hs.2.1) := by omega
  have e2 : slots + (hs1.2.2 - hs.2.2) + (fin.2.2 - hs1.2.2) = slots + (fin.2.2 - hs.2.2) := by omega
  rw [e1, e2]
  exact kk pc' ls' H' locs' hR' hlo' hr'
theorem mx_invI {y0 : MethodName} {by0 : ByteArray} {mL0 : Nat} (hYe : Y = (y0, by0, mL0, none)) (hd : decode M.2.1 pc = .ok (.invokespecial idx, 3)) (hY : mx_okM S Y n) (hlink : Cond.methodLink M.1.cls idx Y.1 ∈ S.1) (hins : Cond.instanceMethod Y.1 ∈ S.1) (hy1 : Y.1.name = "<init>") (hst : st = As.reverse ++ .ref b :: rest) (hn : As.length = n) (hrest : (rest.map fun v => v.category).sum ≤ 8) (hav : (lg_sl (.ref b :: As)).length ≤ Y.2.2.1)
    (h1 : mx_C S l G d Y (.ref b :: As) hs Q1) (k : ∀ r1 hs1, Q1 r1 hs1 → mx_Ok S l G (d + 1) M (pc + 3) lv (r1.toList ++ rest) hs1 Q) : mx_Ok S l G (d + 1) M pc lv st hs Q := by
  subst hYe
  obtain ⟨r1, hs1, hr1, hq1⟩ := h1
  obtain ⟨r, fin, hr2, hqf⟩ := k r1 hs1 hq1
  have a1 := hr1.1
  have a2 := hr1.2.1
  have a3 := hr2.1
  have a4 := hr2.2.1
  refine ⟨r, fin, ⟨by omega, by omega, fun p e R s m args below meth c H locs cells slots ls Q' hF hK hR hl hlo hfr hld hc hsl kk => ?_⟩, hqf⟩
  have hML : (y0, by0, mL0, (none : Option FieldType)).2.2.1 ≤ 29 := hY.2.2.1
  have hts := hF.2.2.2.2.2.2.2
  subst hst
  refine mx_after (hs1 := hs1) (r1 := r1) (va_runI (As := As) (rest := rest) (nL := M.2.2.1) (cc := M.2.1) (Ts := S.1) (own := M.1.cls) (b := b) ⟨hF.1, hF.2.1, hF.2.2.1, hF.2.2.2.2.2.1, hts⟩ (mx_met hY.1 hav hr1) ⟨callB_of n hts (mx_goodIn hK.1 hY) rfl rfl rfl (hts _ hY.2.2.2.2) (hts _ hlink) hY.2.1 ⟨hfr, by show 8 + (_ + 11) + 48 * d ≤ _; omega⟩, hy1, hts _ hins⟩ ⟨mx_blind S G hs _, fun U hU hW => ⟨rfl, mx_K.warm hW hK, by rw [hU]; exact hR⟩⟩ rfl hn hl.1 rfl (lv_room hrest) hd ⟨by omega, by omega⟩) hlo (fun H1 locs1 hR1 hlo1 => ?_)
  refine hr2.2.2 p e R s m args below meth c H1 locs1 _ _ ls Q' hF hK hR1 hl hlo1 hfr hld (by omega) (by omega) (fun pc' ls' H' locs' hR' hlo' hr' => ?_)
  have e1 : cells + (hs1.2.1 - hs.2.1) + (fin.2.1 - hs1.2.1) = cells + (fin.2.1 - hs.2.1) := by omega
  have e2 : slots + (hs1.2.2 - hs.2.2) + (fin.2.2 - hs1.2.2) = slots + (fin.2.2 - hs.2.2) := by omega
  rw [e1, e2]
  exact kk pc' ls' H' locs' hR' hlo' hr'
theorem mx_invIN {y0 : MethodName} {by0 : ByteArray} {mL0 : Nat} (hYe : Y = (y0, by0, mL0, none)) (hd : decode M.2.1 pc = .ok (.invokespecial idx, 3)) (hY : mx_okM S Y n) (hlink : Cond.methodLinkNest M.1.cls idx Y.1 host ∈ S.2.2.2.1) (hins : Cond.instanceMethod Y.1 ∈ S.1) (hy1 : Y.1.name = "<init>") (hst : st = As.reverse ++ .ref b :: rest) (hn : As.length = n) (hrest : (rest.map fun v => v.category).sum ≤ 8) (hav : (lg_sl (.ref b :: As)).length ≤ Y.2.2.1)
    (h1 : mx_C S l G d Y (.ref b :: As) hs Q1) (k : ∀ r1 hs1, Q1 r1 hs1 → mx_Ok S l G (d + 1) M (pc + 3) lv (r1.toList ++ rest) hs1 Q) : mx_Ok S l G (d + 1) M pc lv st hs Q := by
  subst hYe
  obtain ⟨r1, hs1, hr1, hq1⟩ := h1
  obtain ⟨r, fin, hr2, hqf⟩ := k r1 hs1 hq1
  have a1 := hr1.1
  have a2 := hr1.2.1
  have a3 := hr2.1
  have a4 := hr2.2.1
  refine ⟨r, fin, ⟨by omega, by omega, fun p e R s m args below meth c H locs cells slots ls Q' hF hK hR hl hlo hfr hld hc hsl kk => ?_⟩, hqf⟩
  have hML : (y0, by0, mL0, (none : Option FieldType)).2.2.1 ≤ 29 := hY.2.2.1
  have hts := hF.2.2.2.2.2.2.2
  subst hst
  refine mx_after (hs1 := hs1) (r1 := r1) (va_runIN (As := As) (rest := rest) (nL := M.2.2.1) (cc := M.2.1) (Ts := S.1) (own := M.1.cls) (b := b) ⟨hF.1, hF.2.1, hF.2.2.1, hF.2.2.2.2.2.1, hts⟩ (mx_met hY.1 hav hr1) ⟨va_cnB n hts (mx_goodIn hK.1 hY) rfl rfl rfl (hK.2.2.2.1 _ hlink) (hts _ hY.2.2.2.2) hY.2.1 ⟨hfr, by show 8 + (_ + 11) + 48 * d ≤ _; omega⟩, hy1, hts _ hins⟩ ⟨mx_blind S G hs _, fun U hU hW => ⟨rfl, mx_K.warm hW hK, by rw [hU]; exact hR⟩⟩ rfl hn hl.1 rfl (lv_room hrest) hd ⟨by omega, by omega⟩) hlo (fun H1 locs1 hR1 hlo1 => ?_)
  refine hr2.2.2 p e R s m args below meth c H1 locs1 _ _ ls Q' hF hK hR1 hl hlo1 hfr hld (by omega) (by omega) (fun pc' ls' H' locs' hR' hlo' hr' => ?_)
  have e1 : cells + (hs1.2.1 - hs.2.1) + (fin.2.1 - hs1.2.1) = cells + (fin.2.1 - hs.2.1) := by omega
  have e2 : slots + (hs1.2.2 - hs.2.2) + (fin.2.2 - hs1.2.2) = slots + (fin.2.2 - hs.2.2) := by omega
  rw [e1, e2]
  exact kk pc' ls' H' locs' hR' hlo' hr'
end MXC
section MXI
variable {S : mx_S} {l : Launch} {G : mx_G} {d pc pc2 tgt : Nat} {M : mx_M} {lv lv2 : List (Nat × Value)} {st : List Value} {hs : mx_H} {Q : Option Value → mx_H → Prop} {off : Int}
theorem mx_iconst {n : Int} {v : Int32} (hd : decode M.2.1 pc = .ok (.iconst n, 1) ∧ pc + 1 = pc2) (hv : Int32.ofInt n = v) (k : mx_Ok S l G d M pc2 lv (.int v :: st) hs Q) : mx_Ok S l G d M pc lv (st) hs Q := by
  obtain ⟨hd, rfl⟩ := hd
  exact mx_go (fun _ _ _ _ _ _ _ _ _ _ _ _ _ _ _ hF _ _ hl w => lv_iconst hF.1 hF.2.1 hd hv w) k
theorem mx_bipush {n : Int} {v : Int32} (hd : decode M.2.1 pc = .ok (.bipush n, 2) ∧ pc + 2 = pc2) (hv : (Int8.ofInt n).toInt32 = v) (k : mx_Ok S l G d M pc2 lv (.int v :: st) hs Q) : mx_Ok S l G d M pc lv (st) hs Q := by
  obtain ⟨hd, rfl⟩ := hd
  exact mx_go (fun _ _ _ _ _ _ _ _ _ _ _ _ _ _ _ hF _ _ hl w => lv_bipush hF.1 hF.2.1 hd hv w) k
theorem mx_sipush {n : Int} {v : Int32} (hd : decode M.2.1 pc = .ok (.sipush n, 3) ∧ pc + 3 = pc2) (hv : (Int16.ofInt n).toInt32 = v) (k : mx_Ok S l G d M pc2 lv (.int v :: st) hs Q) : mx_Ok S l G d M pc lv (st) hs Q := by
  obtain ⟨hd, rfl⟩ := hd
  exact mx_go (fun _ _ _ _ _ _ _ _ _ _ _ _ _ _ _ hF _ _ hl w => lv_sipush hF.1 hF.2.1 hd hv w) k
theorem mx_lconst {n : Fin 2} {v : Int64} (hd : decode M.2.1 pc = .ok (.lconst n, 1) ∧ pc + 1 = pc2) (hv : Int64.ofNat (n : Nat) = v) (k : mx_Ok S l G d M pc2 lv (.long v :: st) hs Q) : mx_Ok S l G d M pc lv (st) hs Q := by
  obtain ⟨hd, rfl⟩ := hd
  exact mx_go (fun _ _ _ _ _ _ _ _ _ _ _ _ _ _ _ hF _ _ hl w => lv_lconst hF.1 hF.2.1 hd hv w) k
theorem mx_null  (hd : decode M.2.1 pc = .ok (.aconst_null, 1) ∧ pc + 1 = pc2)  (k : mx_Ok S l G d M pc2 lv (.null :: st) hs Q) : mx_Ok S l G d M pc lv (st) hs Q := by
  obtain ⟨hd, rfl⟩ := hd
  exact mx_go (fun _ _ _ _ _ _ _ _ _ _ _ _ _ _ _ hF _ _ hl w => lv_null hF.1 hF.2.1 hd w) k
theorem mx_ldc {ix : Nat} {v : Int32} (hd : decode M.2.1 pc = .ok (.ldc ix, 2) ∧ pc + 2 = pc2) (hc : Cond.constant M.1.cls ix v ∈ S.1) (k : mx_Ok S l G d M pc2 lv (.int v :: st) hs Q) : mx_Ok S l G d M pc lv (st) hs Q := by
  obtain ⟨hd, rfl⟩ := hd
  exact mx_go (fun _ _ _ _ _ _ _ _ _ _ _ _ _ _ _ hF _ _ hl w => lv_ldc hF.1 hF.2.1 hF.2.2.2.2.2.1 (hF.2.2.2.2.2.2.2 _ hc) hd w) k
theorem mx_ldcw {ix : Nat} {v : Int32} (hd : decode M.2.1 pc = .ok (.ldc_w ix, 3) ∧ pc + 3 = pc2) (hc : Cond.constant M.1.cls ix v ∈ S.1) (k : mx_Ok S l G d M pc2 lv (.int v :: st) hs Q) : mx_Ok S l G d M pc lv (st) hs Q := by
  obtain ⟨hd, rfl⟩ := hd
  exact mx_go (fun _ _ _ _ _ _ _ _ _ _ _ _ _ _ _ hF _ _ hl w => lv_ldcw hF.1 hF.2.1 hF.2.2.2.2.2.1 (hF.2.2.2.2.2.2.2 _ hc) hd w) k
theorem mx_ldc2 {ix : Nat} {v : Int64} (hd : decode M.2.1 pc = .ok (.ldc2_w ix, 3) ∧ pc + 3 = pc2) (hc : Cond.constantLong M.1.cls ix v ∈ S.1) (k : mx_Ok S l G d M pc2 lv (.long v :: st) hs Q) : mx_Ok S l G d M pc lv (st) hs Q := by
  obtain ⟨hd, rfl⟩ := hd
  exact mx_go (fun _ _ _ _ _ _ _ _ _ _ _ _ _ _ _ hF _ _ hl w => lv_ldc2 hF.1 hF.2.1 hF.2.2.2.2.2.1 (hF.2.2.2.2.2.2.2 _ hc) hd w) k
theorem mx_iload_n {q : Fin 4} {i : Nat} {x : Int32} (hd : decode M.2.1 pc = .ok (.iload_n q, 1) ∧ pc + 1 = pc2) (hi : (q : Nat) = i) (j : Nat) (hj : lv[j]? = some (i, .int x)) (k : mx_Ok S l G d M pc2 lv (.int x :: st) hs Q) : mx_Ok S l G d M pc lv (st) hs Q := by
  obtain ⟨hd, rfl⟩ := hd
  exact mx_go (fun _ _ _ _ _ _ _ _ _ _ _ _ _ _ _ hF _ _ hl w => lv_iload_n hF.1 hF.2.1 hd hi (lv_at hl j hj) w) k
theorem mx_iload {i : Nat} {x : Int32} (hd : decode M.2.1 pc = .ok (.iload i, 2) ∧ pc + 2 = pc2) (j : Nat) (hj : lv[j]? = some (i, .int x)) (k : mx_Ok S l G d M pc2 lv (.int x :: st) hs Q) : mx_Ok S l G d M pc lv (st) hs Q := by
  obtain ⟨hd, rfl⟩ := hd
  exact mx_go (fun _ _ _ _ _ _ _ _ _ _ _ _ _ _ _ hF _ _ hl w => lv_iload hF.1 hF.2.1 hd (lv_at hl j hj) w) k
theorem mx_lload_n {q : Fin 4} {i : Nat} {x : Int64} (hd : decode M.2.1 pc = .ok (.lload_n q, 1) ∧ pc + 1 = pc2) (hi : (q : Nat) = i) (j : Nat) (hj : lv[j]? = some (i, .long x)) (k : mx_Ok S l G d M pc2 lv (.long x :: st) hs Q) : mx_Ok S l G d M pc lv (st) hs Q := by
  obtain ⟨hd, rfl⟩ := hd
  exact mx_go (fun _ _ _ _ _ _ _ _ _ _ _ _ _ _ _ hF _ _ hl w => lv_lload_n hF.1 hF.2.1 hd hi (lv_at hl j hj) w) k
theorem mx_lload {i : Nat} {x : Int64} (hd : decode M.2.1 pc = .ok (.lload i, 2) ∧ pc + 2 = pc2) (j : Nat) (hj : lv[j]? = some (i, .long x)) (k : mx_Ok S l G d M pc2 lv (.long x :: st) hs Q) : mx_Ok S l G d M pc lv (st) hs Q := by
  obtain ⟨hd, rfl⟩ := hd
  exact mx_go (fun _ _ _ _ _ _ _ _ _ _ _ _ _ _ _ hF _ _ hl w => lv_lload hF.1 hF.2.1 hd (lv_at hl j hj) w) k
theorem mx_aload_nR {q : Fin 4} {i : Nat} {x : Nat} (hd : decode M.2.1 pc = .ok (.aload_n q, 1) ∧ pc + 1 = pc2) (hi : (q : Nat) = i) (j : Nat) (hj : lv[j]? = some (i, .ref x)) (k : mx_Ok S l G d M pc2 lv (.ref x :: st) hs Q) : mx_Ok S l G d M pc lv (st) hs Q := by
  obtain ⟨hd, rfl⟩ := hd
  exact mx_go (fun _ _ _ _ _ _ _ _ _ _ _ _ _ _ _ hF _ _ hl w => lv_aload_n hF.1 hF.2.1 hd hi (lv_at hl j hj) w) k
theorem mx_aload_n {q : Fin 4} {i : Nat} {v : Value} (hd : decode M.2.1 pc = .ok (.aload_n q, 1) ∧ pc + 1 = pc2) (hi : (q : Nat) = i) (j : Nat) (hj : lv[j]? = some (i, v)) (hv : v = .null ∨ ∃ x, v = .ref x) (k : mx_Ok S l G d M pc2 lv (v :: st) hs Q) : mx_Ok S l G d M pc lv (st) hs Q := by
  obtain ⟨hd, rfl⟩ := hd
  rcases hv with rfl | ⟨x, rfl⟩
  · exact mx_go (fun _ _ _ _ _ _ _ _ _ _ _ _ _ _ _ hF _ _ hl w => lv_aload_nN hF.1 hF.2.1 hd hi (lv_at hl j hj) w) k
  · exact mx_go (fun _ _ _ _ _ _ _ _ _ _ _ _ _ _ _ hF _ _ hl w => lv_aload_n hF.1 hF.2.1 hd hi (lv_at hl j hj) w) k
theorem mx_aloadR {i : Nat} {x : Nat} (hd : decode M.2.1 pc = .ok (.aload i, 2) ∧ pc + 2 = pc2) (j : Nat) (hj : lv[j]? = some (i, .ref x)) (k : mx_Ok S l G d M pc2 lv (.ref x :: st) hs Q) : mx_Ok S l G d M pc lv (st) hs Q := by
  obtain ⟨hd, rfl⟩ := hd
  exact mx_go (fun _ _ _ _ _ _ _ _ _ _ _ _ _ _ _ hF _ _ hl w => lv_aload hF.1 hF.2.1 hd (lv_at hl j hj) w) k
theorem mx_aload {i : Nat} {v : Value} (hd : decode M.2.1 pc = .ok (.aload i, 2) ∧ pc + 2 = pc2) (j : Nat) (hj : lv[j]? = some (i, v)) (hv : v = .null ∨ ∃ x, v = .ref x) (k : mx_Ok S l G d M pc2 lv (v :: st) hs Q) : mx_Ok S l G d M pc lv (st) hs Q := by
  obtain ⟨hd, rfl⟩ := hd
  rcases hv with rfl | ⟨x, rfl⟩
  · exact mx_go (fun _ _ _ _ _ _ _ _ _ _ _ _ _ _ _ hF _ _ hl w => lv_aloadN hF.1 hF.2.1 hd (lv_at hl j hj) w) k
  · exact mx_go (fun _ _ _ _ _ _ _ _ _ _ _ _ _ _ _ hF _ _ hl w => lv_aload hF.1 hF.2.1 hd (lv_at hl j hj) w) k
theorem mx_istore_n {q : Fin 4} {i : Nat} {x : Int32} (hd : decode M.2.1 pc = .ok (.istore_n q, 1) ∧ pc + 1 = pc2) (hi : (q : Nat) = i) (hn : i < M.2.2.1) (h2 : (i, Value.int x) :: lv.filter (fun q => !(q.1 == i) && !(q.1 + 1 == i && q.2.category == 2)) = lv2) (k : mx_Ok S l G d M pc2 lv2 (st) hs Q) : mx_Ok S l G d M pc lv (.int x :: st) hs Q := by
  obtain ⟨hd, rfl⟩ := hd
  exact mx_goL (fun _ _ _ _ _ _ _ _ _ _ _ _ _ _ _ hF hl w => lv_istore_n hF.1 hF.2.1 hd hi hl hn h2 w) k
theorem mx_istore {i : Nat} {x : Int32} (hd : decode M.2.1 pc = .ok (.istore i, 2) ∧ pc + 2 = pc2) (hn : i < M.2.2.1) (h2 : (i, Value.int x) :: lv.filter (fun q => !(q.1 == i) && !(q.1 + 1 == i && q.2.category == 2)) = lv2) (k : mx_Ok S l G d M pc2 lv2 (st) hs Q) : mx_Ok S l G d M pc lv (.int x :: st) hs Q := by
  obtain ⟨hd, rfl⟩ := hd
  exact mx_goL (fun _ _ _ _ _ _ _ _ _ _ _ _ _ _ _ hF hl w => lv_istore hF.1 hF.2.1 hd hl hn h2 w) k
theorem mx_lstore_n {q : Fin 4} {i : Nat} {x : Int64} (hd : decode M.2.1 pc = .ok (.lstore_n q, 1) ∧ pc + 1 = pc2) (hi : (q : Nat) = i) (hn : i + 1 < M.2.2.1) (h2 : (i, Value.long x) :: lv.filter (fun q => !(q.1 == i) && (!(q.1 == i + 1) && !(q.1 + 1 == i && q.2.category == 2))) = lv2) (k : mx_Ok S l G d M pc2 lv2 (st) hs Q) : mx_Ok S l G d M pc lv (.long x :: st) hs Q := by
  obtain ⟨hd, rfl⟩ := hd
  exact mx_goL (fun _ _ _ _ _ _ _ _ _ _ _ _ _ _ _ hF hl w => lv_lstore_n hF.1 hF.2.1 hd hi hl hn h2 w) k
theorem mx_lstore {i : Nat} {x : Int64} (hd : decode M.2.1 pc = .ok (.lstore i, 2) ∧ pc + 2 = pc2) (hn : i + 1 < M.2.2.1) (h2 : (i, Value.long x) :: lv.filter (fun q => !(q.1 == i) && (!(q.1 == i + 1) && !(q.1 + 1 == i && q.2.category == 2))) = lv2) (k : mx_Ok S l G d M pc2 lv2 (st) hs Q) : mx_Ok S l G d M pc lv (.long x :: st) hs Q := by
  obtain ⟨hd, rfl⟩ := hd
  exact mx_goL (fun _ _ _ _ _ _ _ _ _ _ _ _ _ _ _ hF hl w => lv_lstore hF.1 hF.2.1 hd hl hn h2 w) k
theorem mx_astore_n {q : Fin 4} {i : Nat} {v : Value} (hd : decode M.2.1 pc = .ok (.astore_n q, 1) ∧ pc + 1 = pc2) (hi : (q : Nat) = i) (hn : i < M.2.2.1) (h2 : (i, v) :: lv.filter (fun q => !(q.1 == i) && !(q.1 + 1 == i && q.2.category == 2)) = lv2) (hv : v = .null ∨ ∃ x, v = .ref x) (k : mx_Ok S l G d M pc2 lv2 (st) hs Q) : mx_Ok S l G d M pc lv (v :: st) hs Q := by
  obtain ⟨hd, rfl⟩ := hd
  rcases hv with rfl | ⟨x, rfl⟩
  · exact mx_goL (fun _ _ _ _ _ _ _ _ _ _ _ _ _ _ _ hF hl w => lv_astore_nN hF.1 hF.2.1 hd hi hl hn h2 w) k
  · exact mx_goL (fun _ _ _ _ _ _ _ _ _ _ _ _ _ _ _ hF hl w => lv_astore_n hF.1 hF.2.1 hd hi hl hn h2 w) k
theorem mx_astore {i : Nat} {v : Value} (hd : decode M.2.1 pc = .ok (.astore i, 2) ∧ pc + 2 = pc2) (hn : i < M.2.2.1) (h2 : (i, v) :: lv.filter (fun q => !(q.1 == i) && !(q.1 + 1 == i && q.2.category == 2)) = lv2) (hv : v = .null ∨ ∃ x, v = .ref x) (k : mx_Ok S l G d M pc2 lv2 (st) hs Q) : mx_Ok S l G d M pc lv (v :: st) hs Q := by
  obtain ⟨hd, rfl⟩ := hd
  rcases hv with rfl | ⟨x, rfl⟩
  · exact mx_goL (fun _ _ _ _ _ _ _ _ _ _ _ _ _ _ _ hF hl w => lv_astoreN hF.1 hF.2.1 hd hl hn h2 w) k
  · exact mx_goL (fun _ _ _ _ _ _ _ _ _ _ _ _ _ _ _ hF hl w => lv_astore hF.1 hF.2.1 hd hl hn h2 w) k
theorem mx_iinc {i : Nat} {n : Int} {x v : Int32} (hd : decode M.2.1 pc = .ok (.iinc i n, 3) ∧ pc + 3 = pc2) (j : Nat) (hj : lv[j]? = some (i, .int x)) (hv : x + Int32.ofInt n = v) (hn : i < M.2.2.1) (h2 : (i, Value.int v) :: lv.filter (fun q => !(q.1 == i) && !(q.1 + 1 == i && q.2.category == 2)) = lv2) (k : mx_Ok S l G d M pc2 lv2 (st) hs Q) : mx_Ok S l G d M pc lv (st) hs Q := by
  obtain ⟨hd, rfl⟩ := hd
  exact mx_goL (fun _ _ _ _ _ _ _ _ _ _ _ _ _ _ _ hF hl w => lv_iinc hF.1 hF.2.1 hd hl hj hv hn h2 w) k
theorem mx_iadd {x y : Int32} (hd : decode M.2.1 pc = .ok (.iadd, 1) ∧ pc + 1 = pc2)  (k : mx_Ok S l G d M pc2 lv (.int (x + y) :: st) hs Q) : mx_Ok S l G d M pc lv (.int y :: .int x :: st) hs Q := by
  obtain ⟨hd, rfl⟩ := hd
  exact mx_go (fun _ _ _ _ _ _ _ _ _ _ _ _ _ _ _ hF _ _ hl w => lv_iadd hF.1 hF.2.1 hd w) k
theorem mx_isub {x y : Int32} (hd : decode M.2.1 pc = .ok (.isub, 1) ∧ pc + 1 = pc2)  (k : mx_Ok S l G d M pc2 lv (.int (x - y) :: st) hs Q) : mx_Ok S l G d M pc lv (.int y :: .int x :: st) hs Q := by
  obtain ⟨hd, rfl⟩ := hd
  exact mx_go (fun _ _ _ _ _ _ _ _ _ _ _ _ _ _ _ hF _ _ hl w => lv_isub hF.1 hF.2.1 hd w) k
theorem mx_imul {x y : Int32} (hd : decode M.2.1 pc = .ok (.imul, 1) ∧ pc + 1 = pc2)  (k : mx_Ok S l G d M pc2 lv (.int (x * y) :: st) hs Q) : mx_Ok S l G d M pc lv (.int y :: .int x :: st) hs Q := by
  obtain ⟨hd, rfl⟩ := hd
  exact mx_go (fun _ _ _ _ _ _ _ _ _ _ _ _ _ _ _ hF _ _ hl w => lv_imul hF.1 hF.2.1 hd w) k
theorem mx_iand {x y : Int32} (hd : decode M.2.1 pc = .ok (.iand, 1) ∧ pc + 1 = pc2)  (k : mx_Ok S l G d M pc2 lv (.int (x &&& y) :: st) hs Q) : mx_Ok S l G d M pc lv (.int y :: .int x :: st) hs Q := by
  obtain ⟨hd, rfl⟩ := hd
  exact mx_go (fun _ _ _ _ _ _ _ _ _ _ _ _ _ _ _ hF _ _ hl w => lv_iand hF.1 hF.2.1 hd w) k
theorem mx_ior {x y : Int32} (hd : decode M.2.1 pc = .ok (.ior, 1) ∧ pc + 1 = pc2)  (k : mx_Ok S l G d M pc2 lv (.int (x ||| y) :: st) hs Q) : mx_Ok S l G d M pc lv (.int y :: .int x :: st) hs Q := by
  obtain ⟨hd, rfl⟩ := hd
  exact mx_go (fun _ _ _ _ _ _ _ _ _ _ _ _ _ _ _ hF _ _ hl w => lv_ior hF.1 hF.2.1 hd w) k
theorem mx_ixor {x y : Int32} (hd : decode M.2.1 pc = .ok (.ixor, 1) ∧ pc + 1 = pc2)  (k : mx_Ok S l G d M pc2 lv (.int (x ^^^ y) :: st) hs Q) : mx_Ok S l G d M pc lv (.int y :: .int x :: st) hs Q := by
  obtain ⟨hd, rfl⟩ := hd
  exact mx_go (fun _ _ _ _ _ _ _ _ _ _ _ _ _ _ _ hF _ _ hl w => lv_ixor hF.1 hF.2.1 hd w) k
theorem mx_ishl {x y : Int32} (hd : decode M.2.1 pc = .ok (.ishl, 1) ∧ pc + 1 = pc2)  (k : mx_Ok S l G d M pc2 lv (.int (x <<< (y &&& 31)) :: st) hs Q) : mx_Ok S l G d M pc lv (.int y :: .int x :: st) hs Q := by
  obtain ⟨hd, rfl⟩ := hd
  exact mx_go (fun _ _ _ _ _ _ _ _ _ _ _ _ _ _ _ hF _ _ hl w => lv_ishl hF.1 hF.2.1 hd w) k
theorem mx_ishr {x y : Int32} (hd : decode M.2.1 pc = .ok (.ishr, 1) ∧ pc + 1 = pc2)  (k : mx_Ok S l G d M pc2 lv (.int (x >>> (y &&& 31)) :: st) hs Q) : mx_Ok S l G d M pc lv (.int y :: .int x :: st) hs Q := by
  obtain ⟨hd, rfl⟩ := hd
  exact mx_go (fun _ _ _ _ _ _ _ _ _ _ _ _ _ _ _ hF _ _ hl w => lv_ishr hF.1 hF.2.1 hd w) k
theorem mx_ladd {x y : Int64} (hd : decode M.2.1 pc = .ok (.ladd, 1) ∧ pc + 1 = pc2)  (k : mx_Ok S l G d M pc2 lv (.long (x + y) :: st) hs Q) : mx_Ok S l G d M pc lv (.long y :: .long x :: st) hs Q := by
  obtain ⟨hd, rfl⟩ := hd
  exact mx_go (fun _ _ _ _ _ _ _ _ _ _ _ _ _ _ _ hF _ _ hl w => lv_ladd hF.1 hF.2.1 hd w) k
theorem mx_lsub {x y : Int64} (hd : decode M.2.1 pc = .ok (.lsub, 1) ∧ pc + 1 = pc2)  (k : mx_Ok S l G d M pc2 lv (.long (x - y) :: st) hs Q) : mx_Ok S l G d M pc lv (.long y :: .long x :: st) hs Q := by
  obtain ⟨hd, rfl⟩ := hd
  exact mx_go (fun _ _ _ _ _ _ _ _ _ _ _ _ _ _ _ hF _ _ hl w => lv_lsub hF.1 hF.2.1 hd w) k
theorem mx_lmul {x y : Int64} (hd : decode M.2.1 pc = .ok (.lmul, 1) ∧ pc + 1 = pc2)  (k : mx_Ok S l G d M pc2 lv (.long (x * y) :: st) hs Q) : mx_Ok S l G d M pc lv (.long y :: .long x :: st) hs Q := by
  obtain ⟨hd, rfl⟩ := hd
  exact mx_go (fun _ _ _ _ _ _ _ _ _ _ _ _ _ _ _ hF _ _ hl w => lv_lmul hF.1 hF.2.1 hd w) k
theorem mx_land {x y : Int64} (hd : decode M.2.1 pc = .ok (.land, 1) ∧ pc + 1 = pc2)  (k : mx_Ok S l G d M pc2 lv (.long (x &&& y) :: st) hs Q) : mx_Ok S l G d M pc lv (.long y :: .long x :: st) hs Q := by
  obtain ⟨hd, rfl⟩ := hd
  exact mx_go (fun _ _ _ _ _ _ _ _ _ _ _ _ _ _ _ hF _ _ hl w => lv_land hF.1 hF.2.1 hd w) k
theorem mx_lor {x y : Int64} (hd : decode M.2.1 pc = .ok (.lor, 1) ∧ pc + 1 = pc2)  (k : mx_Ok S l G d M pc2 lv (.long (x ||| y) :: st) hs Q) : mx_Ok S l G d M pc lv (.long y :: .long x :: st) hs Q := by
  obtain ⟨hd, rfl⟩ := hd
  exact mx_go (fun _ _ _ _ _ _ _ _ _ _ _ _ _ _ _ hF _ _ hl w => lv_lor hF.1 hF.2.1 hd w) k
theorem mx_lxor {x y : Int64} (hd : decode M.2.1 pc = .ok (.lxor, 1) ∧ pc + 1 = pc2)  (k : mx_Ok S l G d M pc2 lv (.long (x ^^^ y) :: st) hs Q) : mx_Ok S l G d M pc lv (.long y :: .long x :: st) hs Q := by
  obtain ⟨hd, rfl⟩ := hd
  exact mx_go (fun _ _ _ _ _ _ _ _ _ _ _ _ _ _ _ hF _ _ hl w => lv_lxor hF.1 hF.2.1 hd w) k
theorem mx_ineg {x : Int32} (hd : decode M.2.1 pc = .ok (.ineg, 1) ∧ pc + 1 = pc2)  (k : mx_Ok S l G d M pc2 lv (.int (-x) :: st) hs Q) : mx_Ok S l G d M pc lv (.int x :: st) hs Q := by
  obtain ⟨hd, rfl⟩ := hd
  exact mx_go (fun _ _ _ _ _ _ _ _ _ _ _ _ _ _ _ hF _ _ hl w => lv_ineg hF.1 hF.2.1 hd w) k
theorem mx_idiv {x y : Int32} (hd : decode M.2.1 pc = .ok (.idiv, 1) ∧ pc + 1 = pc2) (hne : ¬ y = 0) (k : mx_Ok S l G d M pc2 lv (.int (x / y) :: st) hs Q) : mx_Ok S l G d M pc lv (.int y :: .int x :: st) hs Q := by
  obtain ⟨hd, rfl⟩ := hd
  exact mx_go (fun _ _ _ _ _ _ _ _ _ _ _ _ _ _ _ hF _ _ hl w => lv_idiv hF.1 hF.2.1 hd hne w) k
theorem mx_irem {x y : Int32} (hd : decode M.2.1 pc = .ok (.irem, 1) ∧ pc + 1 = pc2) (hne : ¬ y = 0) (k : mx_Ok S l G d M pc2 lv (.int (x - x / y * y) :: st) hs Q) : mx_Ok S l G d M pc lv (.int y :: .int x :: st) hs Q := by
  obtain ⟨hd, rfl⟩ := hd
  exact mx_go (fun _ _ _ _ _ _ _ _ _ _ _ _ _ _ _ hF _ _ hl w => lv_irem hF.1 hF.2.1 hd hne w) k
theorem mx_i2l {x : Int32} (hd : decode M.2.1 pc = .ok (.i2l, 1) ∧ pc + 1 = pc2)  (k : mx_Ok S l G d M pc2 lv (.long x.toInt64 :: st) hs Q) : mx_Ok S l G d M pc lv (.int x :: st) hs Q := by
  obtain ⟨hd, rfl⟩ := hd
  exact mx_go (fun _ _ _ _ _ _ _ _ _ _ _ _ _ _ _ hF _ _ hl w => lv_i2l hF.1 hF.2.1 hd rfl w) k
theorem mx_l2i {x : Int64} (hd : decode M.2.1 pc = .ok (.l2i, 1) ∧ pc + 1 = pc2)  (k : mx_Ok S l G d M pc2 lv (.int x.toInt32 :: st) hs Q) : mx_Ok S l G d M pc lv (.long x :: st) hs Q := by
  obtain ⟨hd, rfl⟩ := hd
  exact mx_go (fun _ _ _ _ _ _ _ _ _ _ _ _ _ _ _ hF _ _ hl w => lv_l2i hF.1 hF.2.1 hd rfl w) k
theorem mx_i2c {x : Int32} (hd : decode M.2.1 pc = .ok (.i2c, 1) ∧ pc + 1 = pc2)  (k : mx_Ok S l G d M pc2 lv (.int (x.toUInt32 % 65536).toInt32 :: st) hs Q) : mx_Ok S l G d M pc lv (.int x :: st) hs Q := by
  obtain ⟨hd, rfl⟩ := hd
  exact mx_go (fun _ _ _ _ _ _ _ _ _ _ _ _ _ _ _ hF _ _ hl w => lv_i2c hF.1 hF.2.1 hd rfl w) k
theorem mx_i2b {x : Int32} (hd : decode M.2.1 pc = .ok (.i2b, 1) ∧ pc + 1 = pc2)  (k : mx_Ok S l G d M pc2 lv (.int x.toInt8.toInt32 :: st) hs Q) : mx_Ok S l G d M pc lv (.int x :: st) hs Q := by
  obtain ⟨hd, rfl⟩ := hd
  exact mx_go (fun _ _ _ _ _ _ _ _ _ _ _ _ _ _ _ hF _ _ hl w => lv_i2b hF.1 hF.2.1 hd rfl w) k
theorem mx_iushr {x y : Int32} (hd : decode M.2.1 pc = .ok (.iushr, 1) ∧ pc + 1 = pc2)  (k : mx_Ok S l G d M pc2 lv (.int (x.toUInt32 >>> (y.toUInt32 &&& Int32.toUInt32 31)).toInt32 :: st) hs Q) : mx_Ok S l G d M pc lv (.int y :: .int x :: st) hs Q := by
  obtain ⟨hd, rfl⟩ := hd
  exact mx_go (fun _ _ _ _ _ _ _ _ _ _ _ _ _ _ _ hF _ _ hl w => lv_iushr hF.1 hF.2.1 hd rfl w) k
theorem mx_lushr {x : Int64} {y : Int32} (hd : decode M.2.1 pc = .ok (.lushr, 1) ∧ pc + 1 = pc2)  (k : mx_Ok S l G d M pc2 lv (.long (x.toUInt64 >>> (y.toInt64.toUInt64 &&& Int64.toUInt64 63)).toInt64 :: st) hs Q) : mx_Ok S l G d M pc lv (.int y :: .long x :: st) hs Q := by
  obtain ⟨hd, rfl⟩ := hd
  exact mx_go (fun _ _ _ _ _ _ _ _ _ _ _ _ _ _ _ hF _ _ hl w => lv_lushr hF.1 hF.2.1 hd rfl w) k
theorem mx_lshl {x : Int64} {y : Int32} (hd : decode M.2.1 pc = .ok (.lshl, 1) ∧ pc + 1 = pc2)  (k : mx_Ok S l G d M pc2 lv (.long (x <<< (y.toInt64 &&& 63)) :: st) hs Q) : mx_Ok S l G d M pc lv (.int y :: .long x :: st) hs Q := by
  obtain ⟨hd, rfl⟩ := hd
  exact mx_go (fun _ _ _ _ _ _ _ _ _ _ _ _ _ _ _ hF _ _ hl w => lv_lshl hF.1 hF.2.1 hd rfl w) k
theorem mx_lshr {x : Int64} {y : Int32} (hd : decode M.2.1 pc = .ok (.lshr, 1) ∧ pc + 1 = pc2)  (k : mx_Ok S l G d M pc2 lv (.long (x >>> (y.toInt64 &&& 63)) :: st) hs Q) : mx_Ok S l G d M pc lv (.int y :: .long x :: st) hs Q := by
  obtain ⟨hd, rfl⟩ := hd
  exact mx_go (fun _ _ _ _ _ _ _ _ _ _ _ _ _ _ _ hF _ _ hl w => lv_lshr hF.1 hF.2.1 hd rfl w) k
theorem mx_lcmp {x y : Int64} (hd : decode M.2.1 pc = .ok (.lcmp, 1) ∧ pc + 1 = pc2)  (k : mx_Ok S l G d M pc2 lv (.int (lg_cmp x y) :: st) hs Q) : mx_Ok S l G d M pc lv (.long y :: .long x :: st) hs Q := by
  obtain ⟨hd, rfl⟩ := hd
  exact mx_go (fun _ _ _ _ _ _ _ _ _ _ _ _ _ _ _ hF _ _ hl w => W.lcmp hF.1 hF.2.1 hd w) k
theorem mx_dup {v : Value} (hd : decode M.2.1 pc = .ok (.dup, 1) ∧ pc + 1 = pc2) (hv : v.category = 1) (k : mx_Ok S l G d M pc2 lv (v :: v :: st) hs Q) : mx_Ok S l G d M pc lv (v :: st) hs Q := by
  obtain ⟨hd, rfl⟩ := hd
  exact mx_go (fun _ _ _ _ _ _ _ _ _ _ _ _ _ _ _ hF _ _ hl w => lv_dup hF.1 hF.2.1 hd hv w) k
theorem mx_pop {v : Value} (hd : decode M.2.1 pc = .ok (.pop, 1) ∧ pc + 1 = pc2) (hv : v.category = 1) (k : mx_Ok S l G d M pc2 lv (st) hs Q) : mx_Ok S l G d M pc lv (v :: st) hs Q := by
  obtain ⟨hd, rfl⟩ := hd
  exact mx_go (fun _ _ _ _ _ _ _ _ _ _ _ _ _ _ _ hF _ _ hl w => lv_pop hF.1 hF.2.1 hd hv w) k
theorem mx_pop2 {v : Value} (hd : decode M.2.1 pc = .ok (.pop2, 1) ∧ pc + 1 = pc2) (hv : v.category = 2) (k : mx_Ok S l G d M pc2 lv (st) hs Q) : mx_Ok S l G d M pc lv (v :: st) hs Q := by
  obtain ⟨hd, rfl⟩ := hd
  exact mx_go (fun _ _ _ _ _ _ _ _ _ _ _ _ _ _ _ hF _ _ hl w => lv_pop2_2 hF.1 hF.2.1 hd hv w) k
theorem mx_dup_x1 {v w9 : Value} (hd : decode M.2.1 pc = .ok (.dup_x1, 1) ∧ pc + 1 = pc2) (hv : v.category = 1) (hw : w9.category = 1) (k : mx_Ok S l G d M pc2 lv (v :: w9 :: v :: st) hs Q) : mx_Ok S l G d M pc lv (v :: w9 :: st) hs Q := by
  obtain ⟨hd, rfl⟩ := hd
  exact mx_go (fun _ _ _ _ _ _ _ _ _ _ _ _ _ _ _ hF _ _ hl w => lv_dup_x1 hF.1 hF.2.1 hd hv hw w) k
theorem mx_dup_x2 {v w9 u9 : Value} (hd : decode M.2.1 pc = .ok (.dup_x2, 1) ∧ pc + 1 = pc2) (hv : v.category = 1) (hw : w9.category = 1) (hu : u9.category = 1) (k : mx_Ok S l G d M pc2 lv (v :: w9 :: u9 :: v :: st) hs Q) : mx_Ok S l G d M pc lv (v :: w9 :: u9 :: st) hs Q := by
  obtain ⟨hd, rfl⟩ := hd
  exact mx_go (fun _ _ _ _ _ _ _ _ _ _ _ _ _ _ _ hF _ _ hl w => lv_dup_x2 hF.1 hF.2.1 hd hv hw hu w) k
theorem mx_dup2 {v w9 : Value} (hd : decode M.2.1 pc = .ok (.dup2, 1) ∧ pc + 1 = pc2) (hv : v.category = 1) (hw : w9.category = 1) (k : mx_Ok S l G d M pc2 lv (v :: w9 :: v :: w9 :: st) hs Q) : mx_Ok S l G d M pc lv (v :: w9 :: st) hs Q := by
  obtain ⟨hd, rfl⟩ := hd
  exact mx_go (fun _ _ _ _ _ _ _ _ _ _ _ _ _ _ _ hF _ _ hl w => lv_dup2_11 hF.1 hF.2.1 hd hv hw w) k
theorem mx_dup2L {v : Value} (hd : decode M.2.1 pc = .ok (.dup2, 1) ∧ pc + 1 = pc2) (hv : v.category = 2) (k : mx_Ok S l G d M pc2 lv (v :: v :: st) hs Q) : mx_Ok S l G d M pc lv (v :: st) hs Q := by
  obtain ⟨hd, rfl⟩ := hd
  exact mx_go (fun _ _ _ _ _ _ _ _ _ _ _ _ _ _ _ hF _ _ hl w => lv_dup2_2 hF.1 hF.2.1 hd hv w) k
theorem mx_icmp_eq {x y : Int32} (hd : decode M.2.1 pc = .ok (.if_icmp .eq off, 3) ∧ pc + 3 = pc2 ∧ (pc : Int) + off = (tgt : Int)) (kt : x = y → mx_Ok S l G d M tgt lv (st) hs Q) (kf : ¬ (x = y) → mx_Ok S l G d M pc2 lv (st) hs Q) : mx_Ok S l G d M pc lv (.int y :: .int x :: st) hs Q := by
  obtain ⟨hd, rfl, ht⟩ := hd
  by_cases hc : x = y
  · exact mx_go (fun _ _ _ _ _ _ _ _ _ _ _ _ _ _ _ hF _ _ hl w => lv_icmp_eq hF.1 hF.2.1 hd ht (fun _ => w) (fun h => absurd hc h)) (kt hc)
  · exact mx_go (fun _ _ _ _ _ _ _ _ _ _ _ _ _ _ _ hF _ _ hl w => lv_icmp_eq hF.1 hF.2.1 hd ht (fun h => absurd h hc) (fun _ => w)) (kf hc)
theorem mx_if_eq {x : Int32} (hd : decode M.2.1 pc = .ok (.ifCond .eq off, 3) ∧ pc + 3 = pc2 ∧ (pc : Int) + off = (tgt : Int)) (kt : x = 0 → mx_Ok S l G d M tgt lv (st) hs Q) (kf : ¬ (x = 0) → mx_Ok S l G d M pc2 lv (st) hs Q) : mx_Ok S l G d M pc lv (.int x :: st) hs Q := by
  obtain ⟨hd, rfl, ht⟩ := hd
  by_cases hc : x = 0
  · exact mx_go (fun _ _ _ _ _ _ _ _ _ _ _ _ _ _ _ hF _ _ hl w => lv_if_eq hF.1 hF.2.1 hd ht (fun _ => w) (fun h => absurd hc h)) (kt hc)
  · exact mx_go (fun _ _ _ _ _ _ _ _ _ _ _ _ _ _ _ hF _ _ hl w => lv_if_eq hF.1 hF.2.1 hd ht (fun h => absurd h hc) (fun _ => w)) (kf hc)
theorem mx_icmp_ne {x y : Int32} (hd : decode M.2.1 pc = .ok (.if_icmp .ne off, 3) ∧ pc + 3 = pc2 ∧ (pc : Int) + off = (tgt : Int)) (kt : ¬ x = y → mx_Ok S l G d M tgt lv (st) hs Q) (kf : ¬ (¬ x = y) → mx_Ok S l G d M pc2 lv (st) hs Q) : mx_Ok S l G d M pc lv (.int y :: .int x :: st) hs Q := by
  obtain ⟨hd, rfl, ht⟩ := hd
  by_cases hc : ¬ x = y
  · exact mx_go (fun _ _ _ _ _ _ _ _ _ _ _ _ _ _ _ hF _ _ hl w => lv_icmp_ne hF.1 hF.2.1 hd ht (fun _ => w) (fun h => absurd h hc)) (kt hc)
  · exact mx_go (fun _ _ _ _ _ _ _ _ _ _ _ _ _ _ _ hF _ _ hl w => lv_icmp_ne hF.1 hF.2.1 hd ht (fun h => absurd h hc) (fun _ => w)) (kf hc)
theorem mx_if_ne {x : Int32} (hd : decode M.2.1 pc = .ok (.ifCond .ne off, 3) ∧ pc + 3 = pc2 ∧ (pc : Int) + off = (tgt : Int)) (kt : ¬ x = 0 → mx_Ok S l G d M tgt lv (st) hs Q) (kf : ¬ (¬ x = 0) → mx_Ok S l G d M pc2 lv (st) hs Q) : mx_Ok S l G d M pc lv (.int x :: st) hs Q := by
  obtain ⟨hd, rfl, ht⟩ := hd
  by_cases hc : ¬ x = 0
  · exact mx_go (fun _ _ _ _ _ _ _ _ _ _ _ _ _ _ _ hF _ _ hl w => lv_if_ne hF.1 hF.2.1 hd ht (fun _ => w) (fun h => absurd h hc)) (kt hc)
  · exact mx_go (fun _ _ _ _ _ _ _ _ _ _ _ _ _ _ _ hF _ _ hl w => lv_if_ne hF.1 hF.2.1 hd ht (fun h => absurd h hc) (fun _ => w)) (kf hc)
theorem mx_icmp_lt {x y : Int32} (hd : decode M.2.1 pc = .ok (.if_icmp .lt off, 3) ∧ pc + 3 = pc2 ∧ (pc : Int) + off = (tgt : Int)) (kt : x < y → mx_Ok S l G d M tgt lv (st) hs Q) (kf : ¬ (x < y) → mx_Ok S l G d M pc2 lv (st) hs Q) : mx_Ok S l G d M pc lv (.int y :: .int x :: st) hs Q := by
  obtain ⟨hd, rfl, ht⟩ := hd
  by_cases hc : x < y
  · exact mx_go (fun _ _ _ _ _ _ _ _ _ _ _ _ _ _ _ hF _ _ hl w => lv_icmp_lt hF.1 hF.2.1 hd ht (fun _ => w) (fun h => absurd hc h)) (kt hc)
  · exact mx_go (fun _ _ _ _ _ _ _ _ _ _ _ _ _ _ _ hF _ _ hl w => lv_icmp_lt hF.1 hF.2.1 hd ht (fun h => absurd h hc) (fun _ => w)) (kf hc)
theorem mx_if_lt {x : Int32} (hd : decode M.2.1 pc = .ok (.ifCond .lt off, 3) ∧ pc + 3 = pc2 ∧ (pc : Int) + off = (tgt : Int)) (kt : x < 0 → mx_Ok S l G d M tgt lv (st) hs Q) (kf : ¬ (x < 0) → mx_Ok S l G d M pc2 lv (st) hs Q) : mx_Ok S l G d M pc lv (.int x :: st) hs Q := by
  obtain ⟨hd, rfl, ht⟩ := hd
  by_cases hc : x < 0
  · exact mx_go (fun _ _ _ _ _ _ _ _ _ _ _ _ _ _ _ hF _ _ hl w => lv_if_lt hF.1 hF.2.1 hd ht (fun _ => w) (fun h => absurd hc h)) (kt hc)
  · exact mx_go (fun _ _ _ _ _ _ _ _ _ _ _ _ _ _ _ hF _ _ hl w => lv_if_lt hF.1 hF.2.1 hd ht (fun h => absurd h hc) (fun _ => w)) (kf hc)
theorem mx_icmp_ge {x y : Int32} (hd : decode M.2.1 pc = .ok (.if_icmp .ge off, 3) ∧ pc + 3 = pc2 ∧ (pc : Int) + off = (tgt : Int)) (kt : y ≤ x → mx_Ok S l G d M tgt lv (st) hs Q) (kf : ¬ (y ≤ x) → mx_Ok S l G d M pc2 lv (st) hs Q) : mx_Ok S l G d M pc lv (.int y :: .int x :: st) hs Q := by
  obtain ⟨hd, rfl, ht⟩ := hd
  by_cases hc : y ≤ x
  · exact mx_go (fun _ _ _ _ _ _ _ _ _ _ _ _ _ _ _ hF _ _ hl w => lv_icmp_ge hF.1 hF.2.1 hd ht (fun _ => w) (fun h => absurd hc h)) (kt hc)
  · exact mx_go (fun _ _ _ _ _ _ _ _ _ _ _ _ _ _ _ hF _ _ hl w => lv_icmp_ge hF.1 hF.2.1 hd ht (fun h => absurd h hc) (fun _ => w)) (kf hc)
theorem mx_if_ge {x : Int32} (hd : decode M.2.1 pc = .ok (.ifCond .ge off, 3) ∧ pc + 3 = pc2 ∧ (pc : Int) + off = (tgt : Int)) (kt : 0 ≤ x → mx_Ok S l G d M tgt lv (st) hs Q) (kf : ¬ (0 ≤ x) → mx_Ok S l G d M pc2 lv (st) hs Q) : mx_Ok S l G d M pc lv (.int x :: st) hs Q := by
  obtain ⟨hd, rfl, ht⟩ := hd
  by_cases hc : 0 ≤ x
  · exact mx_go (fun _ _ _ _ _ _ _ _ _ _ _ _ _ _ _ hF _ _ hl w => lv_if_ge hF.1 hF.2.1 hd ht (fun _ => w) (fun h => absurd hc h)) (kt hc)
  · exact mx_go (fun _ _ _ _ _ _ _ _ _ _ _ _ _ _ _ hF _ _ hl w => lv_if_ge hF.1 hF.2.1 hd ht (fun h => absurd h hc) (fun _ => w)) (kf hc)
theorem mx_icmp_gt {x y : Int32} (hd : decode M.2.1 pc = .ok (.if_icmp .gt off, 3) ∧ pc + 3 = pc2 ∧ (pc : Int) + off = (tgt : Int)) (kt : y < x → mx_Ok S l G d M tgt lv (st) hs Q) (kf : ¬ (y < x) → mx_Ok S l G d M pc2 lv (st) hs Q) : mx_Ok S l G d M pc lv (.int y :: .int x :: st) hs Q := by
  obtain ⟨hd, rfl, ht⟩ := hd
  by_cases hc : y < x
  · exact mx_go (fun _ _ _ _ _ _ _ _ _ _ _ _ _ _ _ hF _ _ hl w => lv_icmp_gt hF.1 hF.2.1 hd ht (fun _ => w) (fun h => absurd hc h)) (kt hc)
  · exact mx_go (fun _ _ _ _ _ _ _ _ _ _ _ _ _ _ _ hF _ _ hl w => lv_icmp_gt hF.1 hF.2.1 hd ht (fun h => absurd h hc) (fun _ => w)) (kf hc)
theorem mx_if_gt {x : Int32} (hd : decode M.2.1 pc = .ok (.ifCond .gt off, 3) ∧ pc + 3 = pc2 ∧ (pc : Int) + off = (tgt : Int)) (kt : 0 < x → mx_Ok S l G d M tgt lv (st) hs Q) (kf : ¬ (0 < x) → mx_Ok S l G d M pc2 lv (st) hs Q) : mx_Ok S l G d M pc lv (.int x :: st) hs Q := by
  obtain ⟨hd, rfl, ht⟩ := hd
  by_cases hc : 0 < x
  · exact mx_go (fun _ _ _ _ _ _ _ _ _ _ _ _ _ _ _ hF _ _ hl w => lv_if_gt hF.1 hF.2.1 hd ht (fun _ => w) (fun h => absurd hc h)) (kt hc)
  · exact mx_go (fun _ _ _ _ _ _ _ _ _ _ _ _ _ _ _ hF _ _ hl w => lv_if_gt hF.1 hF.2.1 hd ht (fun h => absurd h hc) (fun _ => w)) (kf hc)
theorem mx_icmp_le {x y : Int32} (hd : decode M.2.1 pc = .ok (.if_icmp .le off, 3) ∧ pc + 3 = pc2 ∧ (pc : Int) + off = (tgt : Int)) (kt : x ≤ y → mx_Ok S l G d M tgt lv (st) hs Q) (kf : ¬ (x ≤ y) → mx_Ok S l G d M pc2 lv (st) hs Q) : mx_Ok S l G d M pc lv (.int y :: .int x :: st) hs Q := by
  obtain ⟨hd, rfl, ht⟩ := hd
  by_cases hc : x ≤ y
  · exact mx_go (fun _ _ _ _ _ _ _ _ _ _ _ _ _ _ _ hF _ _ hl w => lv_icmp_le hF.1 hF.2.1 hd ht (fun _ => w) (fun h => absurd hc h)) (kt hc)
  · exact mx_go (fun _ _ _ _ _ _ _ _ _ _ _ _ _ _ _ hF _ _ hl w => lv_icmp_le hF.1 hF.2.1 hd ht (fun h => absurd h hc) (fun _ => w)) (kf hc)
theorem mx_if_le {x : Int32} (hd : decode M.2.1 pc = .ok (.ifCond .le off, 3) ∧ pc + 3 = pc2 ∧ (pc : Int) + off = (tgt : Int)) (kt : x ≤ 0 → mx_Ok S l G d M tgt lv (st) hs Q) (kf : ¬ (x ≤ 0) → mx_Ok S l G d M pc2 lv (st) hs Q) : mx_Ok S l G d M pc lv (.int x :: st) hs Q := by
  obtain ⟨hd, rfl, ht⟩ := hd
  by_cases hc : x ≤ 0
  · exact mx_go (fun _ _ _ _ _ _ _ _ _ _ _ _ _ _ _ hF _ _ hl w => lv_if_le hF.1 hF.2.1 hd ht (fun _ => w) (fun h => absurd hc h)) (kt hc)
  · exact mx_go (fun _ _ _ _ _ _ _ _ _ _ _ _ _ _ _ hF _ _ hl w => lv_if_le hF.1 hF.2.1 hd ht (fun h => absurd h hc) (fun _ => w)) (kf hc)
theorem mx_goto (hd : decode M.2.1 pc = .ok (.goto off, 3) ∧ pc + 3 = pc2 ∧ (pc : Int) + off = (tgt : Int)) (k : mx_Ok S l G d M tgt lv (st) hs Q) : mx_Ok S l G d M pc lv (st) hs Q := by
  obtain ⟨hd, -, ht⟩ := hd
  exact mx_go (fun _ _ _ _ _ _ _ _ _ _ _ _ _ _ _ hF _ _ hl w => lv_goto hF.1 hF.2.1 hd ht w) k
theorem mx_ifnull {v : Value} (hd : decode M.2.1 pc = .ok (.ifnull off, 3) ∧ pc + 3 = pc2 ∧ (pc : Int) + off = (tgt : Int)) (hv : v = .null ∨ ∃ x, v = .ref x) (kt : v = .null → mx_Ok S l G d M tgt lv (st) hs Q) (kf : ∀ x, v = .ref x → mx_Ok S l G d M pc2 lv (st) hs Q) : mx_Ok S l G d M pc lv (v :: st) hs Q := by
  obtain ⟨hd, rfl, ht⟩ := hd
  rcases hv with rfl | ⟨x, rfl⟩
  · exact mx_go (fun _ _ _ _ _ _ _ _ _ _ _ _ _ _ _ hF _ _ hl w => lv_ifnullN hF.1 hF.2.1 hd ht w) (kt rfl)
  · exact mx_go (fun _ _ _ _ _ _ _ _ _ _ _ _ _ _ _ hF _ _ hl w => lv_ifnull hF.1 hF.2.1 hd w) (kf x rfl)
theorem mx_ifnonnull {v : Value} (hd : decode M.2.1 pc = .ok (.ifnonnull off, 3) ∧ pc + 3 = pc2 ∧ (pc : Int) + off = (tgt : Int)) (hv : v = .null ∨ ∃ x, v = .ref x) (kt : ∀ x, v = .ref x → mx_Ok S l G d M tgt lv (st) hs Q) (kf : v = .null → mx_Ok S l G d M pc2 lv (st) hs Q) : mx_Ok S l G d M pc lv (v :: st) hs Q := by
  obtain ⟨hd, rfl, ht⟩ := hd
  rcases hv with rfl | ⟨x, rfl⟩
  · exact mx_go (fun _ _ _ _ _ _ _ _ _ _ _ _ _ _ _ hF _ _ hl w => lv_ifnonnullN hF.1 hF.2.1 hd w) (kf rfl)
  · exact mx_go (fun _ _ _ _ _ _ _ _ _ _ _ _ _ _ _ hF _ _ hl w => lv_ifnonnull hF.1 hF.2.1 hd ht w) (kt x rfl)
theorem mx_lookup {dflt o : Int} {ps : Array (Int × Int)} {n : Nat} {x : Int32} (hd : decode M.2.1 pc = .ok (.lookupswitch dflt ps, n)) (hp : (ps.toList.zip (ps.toList.drop 1)).all (fun (a, next) => a.1 < next.1) = true) (ho : Op.lookupswitch.offset ps.toList dflt x.toInt = o) (ht : (pc : Int) + o = (tgt : Int)) (k : mx_Ok S l G d M tgt lv (st) hs Q) : mx_Ok S l G d M pc lv (.int x :: st) hs Q := mx_go (fun _ _ _ _ _ _ _ _ _ _ _ _ _ _ _ hF _ _ hl w => lv_lookup hF.1 hF.2.1 hd hp ho ht w) k
theorem mx_tableOut {dflt lo hi : Int} {offs : Array Int} {n : Nat} {x : Int32} (hd : decode M.2.1 pc = .ok (.tableswitch dflt lo hi offs, n)) (h : x.toInt < lo ∨ hi < x.toInt) (ht : (pc : Int) + dflt = (tgt : Int)) (k : mx_Ok S l G d M tgt lv (st) hs Q) : mx_Ok S l G d M pc lv (.int x :: st) hs Q := mx_go (fun _ _ _ _ _ _ _ _ _ _ _ _ _ _ _ hF _ _ hl w => lv_tableOut hF.1 hF.2.1 hd h ht w) k
theorem mx_tableIn {dflt lo hi o : Int} {offs : Array Int} {n : Nat} {x : Int32} (hd : decode M.2.1 pc = .ok (.tableswitch dflt lo hi offs, n)) (h1 : ¬ x.toInt < lo) (h2 : ¬ hi < x.toInt) (ho : offs[(x.toInt - lo).toNat]? = some o) (ht : (pc : Int) + o = (tgt : Int)) (k : mx_Ok S l G d M tgt lv (st) hs Q) : mx_Ok S l G d M pc lv (.int x :: st) hs Q := mx_go (fun _ _ _ _ _ _ _ _ _ _ _ _ _ _ _ hF _ _ hl w => lv_tableIn hF.1 hF.2.1 hd h1 h2 ho ht w) k
theorem mx_ireturn {v : Int32} {ty : FieldType} (hd : decode M.2.1 pc = .ok (.ireturn, 1)) (hr : M.2.2.2 = some ty) (hn : narrow ty (.int v) = .int v) (k : Q (some (.int v)) hs) : mx_Ok S l G d M pc lv ([.int v]) hs Q := mx_end (Or.inl ⟨v, ty, rfl, hr, hn, hd⟩) rfl k
theorem mx_lreturn {v : Int64} (hd : decode M.2.1 pc = .ok (.lreturn, 1)) (hr : M.2.2.2 = some .long) (k : Q (some (.long v)) hs) : mx_Ok S l G d M pc lv ([.long v]) hs Q := mx_end (Or.inr (Or.inl ⟨v, rfl, hr, hd⟩)) rfl k
theorem mx_return  (hd : decode M.2.1 pc = .ok (.return_, 1)) (hr : M.2.2.2 = none) (k : Q (none) hs) : mx_Ok S l G d M pc lv ([]) hs Q := mx_end (Or.inr (Or.inr (Or.inl ⟨rfl, hr, hd⟩))) rfl k
theorem mx_areturn {v : Value} {ty : FieldType} (hd : decode M.2.1 pc = .ok (.areturn, 1)) (hr : M.2.2.2 = some ty) (ht : (∃ n, ty = .object n) ∨ ∃ t, ty = .array t) (hv : v = .null ∨ ∃ a, v = .ref a) (k : Q (some v) hs) : mx_Ok S l G d M pc lv ([v]) hs Q := mx_end (Or.inr (Or.inr (Or.inr ⟨v, ty, rfl, hr, ht, hv, hd⟩))) rfl k
end MXI
end
section
/-! RULES that read or write the heap. -/
section MXH
variable {S : mx_S} {l : Launch} {G : mx_G} {d pc pc2 : Nat} {M : mx_M} {lv : List (Nat × Value)} {st : List Value} {hs : mx_H} {Q : Option Value → mx_H → Prop} {ix a ci k : Nat} {fs vs : List Value} {q : vw_C} {v : Value} {ty : FieldType} {host : String} {i : Int32}
theorem mx_kin {s : State} (h : mx_K S G s) (hq : S.2.1[ci]? = some q) : ci < 100 := Nat.lt_of_lt_of_le (List.getElem?_eq_some_iff.mp hq).1 h.1.2.2.1
theorem mx_P1 {H : Heap} {s : State} (hK : mx_K S G s) (hR : mx_R S G hs H) (hc : hs.1 a = some (ci, fs)) (hq : S.2.1[ci]? = some q) : va_P (G.1, G.2.1) S.2.1 [(a, .inr (ci, fs))] H := by
  obtain ⟨r, h1, h2, h3⟩ := ((hR.2.1 a _ hc).1).obj (mx_kin hK hq)
  intro k x hx
  have hk : k < 1 := (List.getElem?_eq_some_iff.mp hx).1
  rw [show k = 0 by omega] at hx
  cases hx
  exact ⟨r, h1, h3⟩
theorem mx_K1 {s : State} (hK : mx_K S G s) : va_K (G.1, G.2.1) S.2.1 [] s := ⟨hK.2.1, fun k q h => by simp at h⟩
theorem mx_get (hd : decode M.2.1 pc = .ok (.getfield ix, 3) ∧ pc + 3 = pc2) (hq : S.2.1[ci]? = some q) (hk : k < q.2.2) (hlink : Cond.fieldLink M.1.cls ix (q.2.1 k).1 (q.2.1 k).2.1 (q.2.1 k).2.2.1 ∈ S.1) (hc : hs.1 a = some (ci, fs)) (hv : fs[k]? = some v) (kk : mx_Ok S l G d M pc2 lv (v :: st) hs Q) : mx_Ok S l G d M pc lv (.ref a :: st) hs Q := by
  obtain ⟨hd, rfl⟩ := hd
  exact mx_go (fun _ _ _ _ _ _ _ _ _ _ _ _ _ _ _ hF hK hR hl w => va_get (D := (G.1, G.2.1)) (ci := ci) (v := v) (C := q.1) (T := q.2.1) (N := q.2.2) hF.1 hF.2.1 hF.2.2.2.2.2.2.2 (hK.1.1 ci q hq).1 hF.2.2.2.2.2.1 (mx_K1 hK) (mx_P1 hK hR hc hq) 0 rfl hq k hk (hF.2.2.2.2.2.2.2 _ hlink) (fun _ h9 => h9) hv hd w) kk
theorem mx_getN (hd : decode M.2.1 pc = .ok (.getfield ix, 3) ∧ pc + 3 = pc2) (hq : S.2.1[ci]? = some q) (hk : k < q.2.2) (hlink : Cond.fieldLinkNest M.1.cls ix (q.2.1 k).1 (q.2.1 k).2.1 (q.2.1 k).2.2.1 host ∈ S.2.2.2.1) (hc : hs.1 a = some (ci, fs)) (hv : fs[k]? = some v) (kk : mx_Ok S l G d M pc2 lv (v :: st) hs Q) : mx_Ok S l G d M pc lv (.ref a :: st) hs Q := by
  obtain ⟨hd, rfl⟩ := hd
  exact mx_go (fun _ _ _ _ _ _ _ _ _ _ _ _ _ _ _ hF hK hR hl w => va_getN (D := (G.1, G.2.1)) (ci := ci) (v := v) (C := q.1) (T := q.2.1) (N := q.2.2) (host := host) hF.1 hF.2.1 hF.2.2.2.2.2.2.2 (hK.1.1 ci q hq).1 hF.2.2.2.2.2.1 (mx_K1 hK) (mx_P1 hK hR hc hq) 0 rfl hq k hk (va_Nw.use rfl (hK.2.2.2.1 _ hlink)) (fun _ h9 => h9) hv hd w) kk
/-- a step that changes the cell a, and no other -/
theorem mx_goS {st' : List Value} {x x0 : mx_E} (hc : hs.1 a = some x0) (hx : x0.1 ≠ 101)
    (f : ∀ (p : Program) (e : Env) (R : Room) (s : State) (m : MethodId) (args : Array Value) (below : List Frame) (meth : Method) (c : Code) (H : Heap) (locs : List Loc) (cells slots : Nat) (ls : Array Slot) (Q : State → Prop), mx_Fix S M p s m args meth c → mx_K S G s → mx_R S G hs H → lv_has ls M.2.2.1 lv → 
      (∀ (H1 : Heap) (locs1 : List Loc), mx_cell S G a x H1 → H1.size = H.size → (∀ q : Nat, q ≠ a → H1[q]? = H[q]?) → (∀ y ∈ locs1, y ∈ locs ∨ y.base = a) → W p l e R s m args below meth c H1 locs1 cells slots Q (F0 m pc2 ls st')) → 1 ≤ d → d ≤ R.frames → 48 * d ≤ R.locals → W p l e R s m args below meth c H locs cells slots Q (F0 m pc ls st))
    (hd1 : 1 ≤ d) (kk : mx_Ok S l G d M pc2 lv st' (mx_st hs a x) Q) : mx_Ok S l G d M pc lv st hs Q := by
  obtain ⟨r, fin, ⟨h1, h2, h3⟩, hq⟩ := kk
  refine ⟨r, fin, ⟨h1, h2, fun p e R s m args below meth c H locs cells slots ls Q' hF hK hR hl hlo hd hld hcc hsl kk => ?_⟩, hq⟩
  have hb := (hR.2.1 a _ hc).2 hx
  refine f p e R s m args below meth c H locs cells slots ls Q' hF hK hR hl (fun H1 locs1 e1 e2 e3 e4 => ?_) hd1 hd hld
  exact h3 p e R s m args below meth c H1 locs1 cells slots ls Q' hF hK (hR.st hb e1 e2 e3) hl (fun y hy => by
    rcases e4 y hy with h | h
    · exact hlo y h
    · rw [h]; exact hb) hd hld hcc hsl kk
theorem mx_putC {s : State} {args : Array Value} {H1 : Heap} {cell : Cell} {f : Nat} (hK : mx_K S G s) (hts : ∀ w ∈ S.1, w.before args s = true) (hq : S.2.1[ci]? = some q) (hk : k < q.2.2) (hlen : fs.length = q.2.2) (q2 : cell.cls = G.1 ci) (q3 : cell.vm = .none) (q4 : ∀ j, j < q.2.2 → cell.slots[G.2.1 ci j]? = some (vp_V fs j)) (hf : f = G.2.1 ci k) (e1 : H1[a]? = some (cell.setSlot f v)) : mx_cell S G a (ci, fs.set k v) H1 := by
  subst hf
  have hall : ∀ j, ∃ t, j < q.2.2 → parseFieldDescriptor (q.2.1 j).2.2.1 = some t := fun j => by
    by_cases hj : j < q.2.2
    · obtain ⟨t, ht⟩ := Option.isSome_iff_exists.mp ((hK.1.1 ci q hq).2.2 j hj)
      exact ⟨t, fun _ => ht⟩
    · exact ⟨.int, fun h => absurd h hj⟩
  have hap := va_apart (own := q.1) (N := q.2.2) (T := q.2.1) (C := q.1) hts (hK.1.1 ci q hq).1 (fun j => Classical.choose (hall j)) (fun j hj => Classical.choose_spec (hall j) hj) (hK.1.1 ci q hq).2.1 (mx_K1 hK) hq
  exact mx_cell.ofObj (mx_kin hK hq) hq (by rw [List.length_set]; exact hlen) (t_OB.to (V := updV (vp_V fs) k v) ⟨_, e1, q2, q3, t_set q4 hap hk v⟩ (fun j _ => vp_updV_set (by omega) v j))
theorem mx_put (hd : decode M.2.1 pc = .ok (.putfield ix, 3) ∧ pc + 3 = pc2) (hq : S.2.1[ci]? = some q) (hk : k < q.2.2) (hlink : Cond.fieldLink M.1.cls ix (q.2.1 k).1 (q.2.1 k).2.1 (q.2.1 k).2.2.1 ∈ S.1) (hfin : (q.2.1 k).2.2.2 = false) (hty : parseFieldDescriptor (q.2.1 k).2.2.1 = some ty) (hn : narrow ty v = v) (hfit : fits ty v = true) (hd1 : 1 ≤ d) (hc : hs.1 a = some (ci, fs)) (kk : mx_Ok S l G d M pc2 lv st (mx_st hs a (ci, fs.set k v)) Q) : mx_Ok S l G d M pc lv (v :: .ref a :: st) hs Q := by
  obtain ⟨hd, rfl⟩ := hd
  by_cases hci : ci = 101
  · obtain ⟨r, fin, ⟨h1, h2, h3⟩, hqf⟩ := kk
    refine ⟨r, fin, ⟨h1, h2, fun p e R s m args below meth c H locs cells slots ls Q' hF hK hR hl hlo hd hld hcc hsl kk => ?_⟩, hqf⟩
    have := mx_kin hK hq
    omega
  refine mx_goS hc hci (fun p e R s m args below meth c H locs cells slots ls Q' hF hK hR hl w _ _ _ => ?_) hd1 kk
  have hts := hF.2.2.2.2.2.2.2
  obtain ⟨r, h1, hlen, cell, q1, q2, q3, q4⟩ := ((hR.2.1 a _ hc).1).obj (mx_kin hK hq)
  cases h1.symm.trans hq
  obtain ⟨hS, hfc, kC, hkC, hkind⟩ := hK.2.1 ci _ hq
  obtain ⟨cf, kf, fi, f, hi, hsl⟩ := hS k hk
  have hlay := hts _ ((hK.1.1 ci q hq).1 _ (u_in_lay hk))
  unfold u_lay at hlay
  rw [if_neg (by rw [hfin]; decide)] at hlay
  have hst := (u_facts hfc hkC (u_lays hts (hK.1.1 ci q hq).1 hk) hi).1
  have h6 := u_store hfc hkC hkind hlay hi hty hn hfit
  refine W.putK hF.1 hF.2.1 (f := f) ⟨hF.2.2.2.2.2.1, hts _ hlink, ⟨_, _, _, hi⟩, hst⟩ (by rw [q2]; exact h6) q1 q3 (by rw [hsl]; exact k2_hasslot (q4 k hk)) rfl rfl hd fun H' e1 e2 e3 => ?_
  refine w H' _ (mx_putC hK hts hq hk hlen q2 q3 q4 hsl e1) e2 e3 (fun y hy => ?_)
  rcases List.mem_append.mp hy with h | h
  · exact Or.inl h
  · rw [List.mem_singleton.mp h]; exact Or.inr rfl
theorem mx_putN (hd : decode M.2.1 pc = .ok (.putfield ix, 3) ∧ pc + 3 = pc2) (hq : S.2.1[ci]? = some q) (hk : k < q.2.2) (hlink : Cond.fieldLinkNest M.1.cls ix (q.2.1 k).1 (q.2.1 k).2.1 (q.2.1 k).2.2.1 host ∈ S.2.2.2.1) (hfin : (q.2.1 k).2.2.2 = false) (hty : parseFieldDescriptor (q.2.1 k).2.2.1 = some ty) (hn : narrow ty v = v) (hfit : fits ty v = true) (hd1 : 1 ≤ d) (hc : hs.1 a = some (ci, fs)) (kk : mx_Ok S l G d M pc2 lv st (mx_st hs a (ci, fs.set k v)) Q) : mx_Ok S l G d M pc lv (v :: .ref a :: st) hs Q := by
  obtain ⟨hd, rfl⟩ := hd
  by_cases hci : ci = 101
  · obtain ⟨r, fin, ⟨h1, h2, h3⟩, hqf⟩ := kk
    refine ⟨r, fin, ⟨h1, h2, fun p e R s m args below meth c H locs cells slots ls Q' hF hK hR hl hlo hd hld hcc hsl kk => ?_⟩, hqf⟩
    have := mx_kin hK hq
    omega
  refine mx_goS hc hci (fun p e R s m args below meth c H locs cells slots ls Q' hF hK hR hl w _ _ _ => ?_) hd1 kk
  have hts := hF.2.2.2.2.2.2.2
  obtain ⟨r, h1, hlen, cell, q1, q2, q3, q4⟩ := ((hR.2.1 a _ hc).1).obj (mx_kin hK hq)
  cases h1.symm.trans hq
  obtain ⟨hS, hfc, kC, hkC, hkind⟩ := hK.2.1 ci _ hq
  obtain ⟨cf, kf, fi, f, hi, hsl⟩ := hS k hk
  have hlay := hts _ ((hK.1.1 ci q hq).1 _ (u_in_lay hk))
  unfold u_lay at hlay
  rw [if_neg (by rw [hfin]; decide)] at hlay
  have hst := (u_facts hfc hkC (u_lays hts (hK.1.1 ci q hq).1 hk) hi).1
  have h6 := u_store hfc hkC hkind hlay hi hty hn hfit
  refine va_WputK hF.1 hF.2.1 (f := f) hF.2.2.2.2.2.1 (va_Nw.use rfl (hK.2.2.2.1 _ hlink)) hi hst (by rw [q2]; exact h6) q1 q3 (by rw [hsl]; exact k2_hasslot (q4 k hk)) rfl rfl hd fun H' e1 e2 e3 => ?_
  refine w H' _ (mx_putC hK hts hq hk hlen q2 q3 q4 hsl e1) e2 e3 (fun y hy => ?_)
  rcases List.mem_append.mp hy with h | h
  · exact Or.inl h
  · rw [List.mem_singleton.mp h]; exact Or.inr rfl
/-- a final field, in its own constructor -/
theorem mx_putF (hd : decode M.2.1 pc = .ok (.putfield ix, 3) ∧ pc + 3 = pc2) (hq : S.2.1[ci]? = some q) (hk : k < q.2.2) (hlink : Cond.fieldLink M.1.cls ix (q.2.1 k).1 (q.2.1 k).2.1 (q.2.1 k).2.2.1 ∈ S.1) (hfin : (q.2.1 k).2.2.2 = true) (hin : M.1.name = "<init>") (hdecl : (q.2.1 k).1 = M.1.cls) (hty : parseFieldDescriptor (q.2.1 k).2.2.1 = some ty) (hn : narrow ty v = v) (hfit : fits ty v = true) (hd1 : 1 ≤ d) (hc : hs.1 a = some (ci, fs)) (kk : mx_Ok S l G d M pc2 lv st (mx_st hs a (ci, fs.set k v)) Q) : mx_Ok S l G d M pc lv (v :: .ref a :: st) hs Q := by
  obtain ⟨hd, rfl⟩ := hd
  by_cases hci : ci = 101
  · obtain ⟨r, fin, ⟨h1, h2, h3⟩, hqf⟩ := kk
    refine ⟨r, fin, ⟨h1, h2, fun p e R s m args below meth c H locs cells slots ls Q' hF hK hR hl hlo hd hld hcc hsl kk => ?_⟩, hqf⟩
    have := mx_kin hK hq
    omega
  refine mx_goS hc hci (fun p e R s m args below meth c H locs cells slots ls Q' hF hK hR hl w _ _ _ => ?_) hd1 kk
  have hts := hF.2.2.2.2.2.2.2
  have hown := hF.2.2.2.2.2.1
  obtain ⟨r, h1, hlen, cell, q1, q2, q3, q4⟩ := ((hR.2.1 a _ hc).1).obj (mx_kin hK hq)
  cases h1.symm.trans hq
  obtain ⟨hS, hfc, kC, hkC, hkind⟩ := hK.2.1 ci _ hq
  obtain ⟨cf, kf, fi, f, hi, hsl⟩ := hS k hk
  have hlay := hts _ ((hK.1.1 ci q hq).1 _ (u_in_lay hk))
  unfold u_lay at hlay
  rw [if_pos hfin] at hlay
  have hst := (u_facts hfc hkC (u_lays hts (hK.1.1 ci q hq).1 hk) hi).1
  have hcf : m.cls = cf := by
    obtain ⟨_, _, c', _, _, _, -, -, hf', -, -, -, hown2, -⟩ := Cond.laysFinal_spec hlay
    have e1 : c' = cf := by have := hi.symm.trans hf'; simp at this; exact this.1.symm
    rw [hdecl] at hown2
    rw [← e1]; exact Option.some.inj (hown.symm.trans hown2)
  have h6 := u_fits hfc hkC hkind (Or.inr hlay) hi hty hn hfit
  refine W.putFinK hF.1 hF.2.1 hown (hts _ hlink) hi hst hcf (hF.2.2.2.2.2.2.1.trans hin) (by rw [q2]; exact h6) q1 q3 (by rw [hsl]; exact k2_hasslot (q4 k hk)) rfl rfl hd fun H' e1 e2 e3 => ?_
  refine w H' _ (mx_putC hK hts hq hk hlen q2 q3 q4 hsl e1) e2 e3 (fun y hy => ?_)
  rcases List.mem_append.mp hy with h | h
  · exact Or.inl h
  · rw [List.mem_singleton.mp h]; exact Or.inr rfl
/-- a step that makes a cell of n slots -/
theorem mx_goN {st' : List Value} {x : mx_E} {n : Nat}
    (f : ∀ (p : Program) (e : Env) (R : Room) (s : State) (m : MethodId) (args : Array Value) (below : List Frame) (meth : Method) (c : Code) (H : Heap) (locs : List Loc) (cells slots : Nat) (ls : Array Slot) (Q : State → Prop), mx_Fix S M p s m args meth c → mx_K S G s → mx_R S G hs H → lv_has ls M.2.2.1 lv → cells + 1 ≤ R.cells → slots + n ≤ R.slots → H.size = hs.2.1 →
      (∀ H1 : Heap, mx_cell S G H.size x H1 → H1.size = H.size + 1 → (∀ q : Nat, q < H.size → H1[q]? = H[q]?) → W p l e R s m args below meth c H1 locs (cells + 1) (slots + n) Q (F0 m pc2 ls st')) → W p l e R s m args below meth c H locs cells slots Q (F0 m pc ls st))
    (kk : mx_Ok S l G d M pc2 lv st' (mx_nw hs x n) Q) : mx_Ok S l G d M pc lv st hs Q := by
  obtain ⟨r, fin, ⟨h1, h2, h3⟩, hq⟩ := kk
  have h1' : hs.2.1 + 1 ≤ fin.2.1 := h1
  have h2' : hs.2.2 + n ≤ fin.2.2 := h2
  refine ⟨r, fin, ⟨by omega, by omega, fun p e R s m args below meth c H locs cells slots ls Q' hF hK hR hl hlo hd hld hcc hsl kk => ?_⟩, hq⟩
  refine f p e R s m args below meth c H locs cells slots ls Q' hF hK hR hl (by omega) (by omega) hR.1 (fun H1 e1 e2 e3 => ?_)
  have g1 : cells + 1 + (fin.2.1 - (hs.2.1 + 1)) = cells + (fin.2.1 - hs.2.1) := by omega
  have g2 : slots + n + (fin.2.2 - (hs.2.2 + n)) = slots + (fin.2.2 - hs.2.2) := by omega
  refine h3 p e R s m args below meth c H1 locs (cells + 1) (slots + n) ls Q' hF hK (hR.nw e1 e2 e3) hl hlo hd hld (by show cells + 1 + (fin.2.1 - (hs.2.1 + 1)) ≤ _; rw [g1]; exact hcc) (by show slots + n + (fin.2.2 - (hs.2.2 + n)) ≤ _; rw [g2]; exact hsl) (fun pc' ls' H' locs' r1 r2 r3 => ?_)
  show W p l e R s m args below meth c H' locs' (cells + 1 + (fin.2.1 - (hs.2.1 + 1))) (slots + n + (fin.2.2 - (hs.2.2 + n))) Q' _
  rw [g1, g2]
  exact kk pc' ls' H' locs' r1 r2 r3
theorem mx_new {n : Nat} (hd : decode M.2.1 pc = .ok (.new ix, 3) ∧ pc + 3 = pc2) (hq : S.2.1[ci]? = some q) (hcl : Cond.classLink M.1.cls ix q.1 ∈ S.1) (hins : Cond.instantiable q.1 q.2.2 ∈ S.1) (hini : Cond.initialized q.1 ∈ S.1) (hnn : q.2.2 = n) (hlen : fs.length = q.2.2) (hdf : ∀ j, j < q.2.2 → (parseFieldDescriptor (q.2.1 j).2.2.1).map defaultValue = fs[j]?) (kk : mx_Ok S l G d M pc2 lv (.ref hs.2.1 :: st) (mx_nw hs (ci, fs) n) Q) : mx_Ok S l G d M pc lv st hs Q := by
  obtain ⟨hd, rfl⟩ := hd
  subst hnn
  refine mx_goN (fun p e R s m args below meth c H locs cells slots ls Q' hF hK hR hl hc1 hs1 hz w => ?_) kk
  have hts := hF.2.2.2.2.2.2.2
  have hKn := hK.2.1 ci _ hq
  have hall : ∀ j, ∃ t, j < q.2.2 → parseFieldDescriptor (q.2.1 j).2.2.1 = some t := fun j => by
    by_cases hj : j < q.2.2
    · obtain ⟨t, ht⟩ := Option.isSome_iff_exists.mp ((hK.1.1 ci q hq).2.2 j hj)
      exact ⟨t, fun _ => ht⟩
    · exact ⟨.int, fun h => absurd h hj⟩
  refine W.newcK hF.1 hF.2.1 hF.2.2.2.2.2.1 (hts _ hcl) (hts _ hins) (hts _ hini) rfl hd hc1 hs1 hKn.2.1 hz fun H1 kC hkC e1 z1 o1 => ?_
  rw [← hz] at e1 z1 o1 w ⊢
  refine w H1 (mx_cell.ofObj (mx_kin hK hq) hq hlen ?_) z1 o1
  refine (u_born (fun j => Classical.choose (hall j)) hts (hK.1.1 ci q hq).1 hKn hkC e1 (fun j hj => Classical.choose_spec (hall j) hj)).to (fun j hj => ?_)
  have h9 := hdf j hj
  rw [Classical.choose_spec (hall j) hj] at h9
  simp only [vp_V, List.getD_eq_getElem?_getD, ← h9, Option.map_some, Option.getD_some]
theorem mx_newa {atype : ArrayType} {n : Int32} {N : Nat} {dv : Value} (hd : decode M.2.1 pc = .ok (.newarray atype, 2) ∧ pc + 2 = pc2) (hk : S.2.2.1 k = some ty) (hty : newarray.typeOf atype = ty) (hdv : defaultValue ty = dv) (hk1 : k ≠ 101) (harr : Cond.arrayClass ty ∈ S.1) (hn : ¬ n < 0) (hN : n.toNatClampNeg = N) (hby : N * componentBytes ty ≤ 536870912) (kk : mx_Ok S l G d M pc2 lv (.ref hs.2.1 :: st) (mx_nw hs (k, List.replicate N dv) N) Q) : mx_Ok S l G d M pc lv (.int n :: st) hs Q := by
  obtain ⟨hd, rfl⟩ := hd
  subst hdv
  subst hty
  subst hN
  refine mx_goN (fun p e R s m args below meth c H locs cells slots ls Q' hF hK hR hl hc1 hs1 hz w => ?_) kk
  have hts := hF.2.2.2.2.2.2.2
  refine W.newa hF.1 hF.2.1 (hts _ harr) rfl hd rfl hn hby hc1 hs1 fun cA kA comp h1 h2 h3 => ?_
  obtain ⟨kA', comp', g1, g2, g3, -⟩ := hK.2.2.1 k _ hk
  have hcA : cA = G.2.2.1 k := Option.some.inj (h1.symm.trans (g3 hk1))
  subst hcA
  rw [← hz] at w
  refine w _ (mx_cell.ofArr (hK.1.2.2.2.2 k _ hk) (cell := { cls := G.2.2.1 k, slots := Array.replicate n.toNatClampNeg (defaultValue (newarray.typeOf atype)), vm := .none }) (by simp) rfl (fun h => by cases h) (fun _ h => by cases h) (by simp)) (by simp) (fun y hy => ?_)
  rw [Array.getElem?_push, if_neg (Nat.ne_of_lt hy)]
theorem mx_anewa {C : String} {n : Int32} {N : Nat} (hd : decode M.2.1 pc = .ok (.anewarray ix, 3) ∧ pc + 3 = pc2) (hk : S.2.2.1 k = some (.object C)) (hk1 : k ≠ 101) (hcl : Cond.classLink M.1.cls ix C ∈ S.1) (hao : C ∈ S.2.2.2.2) (hn : ¬ n < 0) (hN : n.toNatClampNeg = N) (hby : N * 4 ≤ 536870912) (kk : mx_Ok S l G d M pc2 lv (.ref hs.2.1 :: st) (mx_nw hs (k, List.replicate N .null) N) Q) : mx_Ok S l G d M pc lv (.int n :: st) hs Q := by
  obtain ⟨hd, rfl⟩ := hd
  subst hN
  refine mx_goN (fun p e R s m args below meth c H locs cells slots ls Q' hF hK hR hl hc1 hs1 hz w => ?_) kk
  have hts := hF.2.2.2.2.2.2.2
  refine W.anew hF.1 hF.2.1 hF.2.2.2.2.2.1 (hts _ hcl) (va_AO.use (hK.2.2.2.2 C hao)) rfl hd rfl hn hby hc1 hs1 fun cA kA comp h1 h2 h3 h4 => ?_
  obtain ⟨kA', comp', g1, g2, g3, -⟩ := hK.2.2.1 k _ hk
  have hcA : cA = G.2.2.1 k := Option.some.inj (h1.symm.trans (g3 hk1))
  subst hcA
  rw [← hz] at w
  refine w _ (mx_cell.ofArr (hK.1.2.2.2.2 k _ hk) (cell := { cls := G.2.2.1 k, slots := Array.replicate n.toNatClampNeg .null, vm := .none }) (by simp) rfl (fun h => by cases h) (fun _ h => by cases h) (by simp)) (by simp) (fun y hy => ?_)
  rw [Array.getElem?_push, if_neg (Nat.ne_of_lt hy)]
theorem mx_alen (hd : decode M.2.1 pc = .ok (.arraylength, 1) ∧ pc + 1 = pc2) (hk : S.2.2.1 k = some ty) (hc : hs.1 a = some (k, vs)) (kk : mx_Ok S l G d M pc2 lv (.int (Int32.ofNat vs.length) :: st) hs Q) : mx_Ok S l G d M pc lv (.ref a :: st) hs Q := by
  obtain ⟨hd, rfl⟩ := hd
  refine mx_go (fun p e R s m args below meth c H locs cells slots ls Q' hF hK hR hl w => ?_) kk
  obtain ⟨cell, e1, e2, e3, e4, e5⟩ := ((hR.2.1 a _ hc).1).arr (hK.1.2.2.2.2 k _ hk)
  exact W.alen (n := Int32.ofNat vs.length) hF.1 hF.2.1 e1 ((hK.2.2.1 k _ hk).arr e2 e4) (by rw [e5]; simp) rfl rfl hd w
theorem mx_iald (hd : decode M.2.1 pc = .ok (.iaload, 1) ∧ pc + 1 = pc2) (hk : S.2.2.1 k = some .int) (hc : hs.1 a = some (k, vs)) (hi : ¬ i < 0) (hv : vs[i.toNatClampNeg]? = some v) (kk : mx_Ok S l G d M pc2 lv (v :: st) hs Q) : mx_Ok S l G d M pc lv (.int i :: .ref a :: st) hs Q := by
  obtain ⟨hd, rfl⟩ := hd
  refine mx_go (fun p e R s m args below meth c H locs cells slots ls Q' hF hK hR hl w => ?_) kk
  obtain ⟨cell, e1, e2, e3, e4, e5⟩ := ((hR.2.1 a _ hc).1).arr (hK.1.2.2.2.2 k _ hk)
  have hlt : i.toNatClampNeg < vs.length := (List.getElem?_eq_some_iff.mp hv).1
  exact W.iald (v := v) hF.1 hF.2.1 e1 ((hK.2.2.1 k _ hk).arr e2 e4) e3 (by rw [e5]; simp only [List.size_toArray]; exact fun h => h.elim hi (by omega)) (by rw [e5]; simp only [List.getElem?_toArray]; exact hv) rfl rfl hd w
theorem mx_lald (hd : decode M.2.1 pc = .ok (.laload, 1) ∧ pc + 1 = pc2) (hk : S.2.2.1 k = some .long) (hc : hs.1 a = some (k, vs)) (hi : ¬ i < 0) (hv : vs[i.toNatClampNeg]? = some v) (kk : mx_Ok S l G d M pc2 lv (v :: st) hs Q) : mx_Ok S l G d M pc lv (.int i :: .ref a :: st) hs Q := by
  obtain ⟨hd, rfl⟩ := hd
  refine mx_go (fun p e R s m args below meth c H locs cells slots ls Q' hF hK hR hl w => ?_) kk
  obtain ⟨cell, e1, e2, e3, e4, e5⟩ := ((hR.2.1 a _ hc).1).arr (hK.1.2.2.2.2 k _ hk)
  have hlt : i.toNatClampNeg < vs.length := (List.getElem?_eq_some_iff.mp hv).1
  exact W.lald (v := v) hF.1 hF.2.1 e1 ((hK.2.2.1 k _ hk).arr e2 e4) e3 (by rw [e5]; simp only [List.size_toArray]; exact fun h => h.elim hi (by omega)) (by rw [e5]; simp only [List.getElem?_toArray]; exact hv) rfl rfl hd w
theorem mx_zald (hd : decode M.2.1 pc = .ok (.baload, 1) ∧ pc + 1 = pc2) (hk : S.2.2.1 k = some .boolean) (hc : hs.1 a = some (k, vs)) (hi : ¬ i < 0) (hv : vs[i.toNatClampNeg]? = some v) (kk : mx_Ok S l G d M pc2 lv (v :: st) hs Q) : mx_Ok S l G d M pc lv (.int i :: .ref a :: st) hs Q := by
  obtain ⟨hd, rfl⟩ := hd
  refine mx_go (fun p e R s m args below meth c H locs cells slots ls Q' hF hK hR hl w => ?_) kk
  obtain ⟨cell, e1, e2, e3, e4, e5⟩ := ((hR.2.1 a _ hc).1).arr (hK.1.2.2.2.2 k _ hk)
  have hlt : i.toNatClampNeg < vs.length := (List.getElem?_eq_some_iff.mp hv).1
  exact W.zald (v := v) hF.1 hF.2.1 e1 ((hK.2.2.1 k _ hk).arr e2 e4) e3 (by rw [e5]; simp only [List.size_toArray]; exact fun h => h.elim hi (by omega)) (by rw [e5]; simp only [List.getElem?_toArray]; exact hv) rfl rfl hd w
theorem mx_cald (hd : decode M.2.1 pc = .ok (.caload, 1) ∧ pc + 1 = pc2) (hk : S.2.2.1 k = some .char) (hc : hs.1 a = some (k, vs)) (hi : ¬ i < 0) (hv : vs[i.toNatClampNeg]? = some v) (kk : mx_Ok S l G d M pc2 lv (v :: st) hs Q) : mx_Ok S l G d M pc lv (.int i :: .ref a :: st) hs Q := by
  obtain ⟨hd, rfl⟩ := hd
  refine mx_go (fun p e R s m args below meth c H locs cells slots ls Q' hF hK hR hl w => ?_) kk
  obtain ⟨cell, e1, e2, e3, e4, e5⟩ := ((hR.2.1 a _ hc).1).arr (hK.1.2.2.2.2 k _ hk)
  have hlt : i.toNatClampNeg < vs.length := (List.getElem?_eq_some_iff.mp hv).1
  exact W.cald (v := v) hF.1 hF.2.1 e1 ((hK.2.2.1 k _ hk).arr e2 e4) e3 (by rw [e5]; simp only [List.size_toArray]; exact fun h => h.elim hi (by omega)) (by rw [e5]; simp only [List.getElem?_toArray]; exact hv) rfl rfl hd w
theorem mx_bald (hd : decode M.2.1 pc = .ok (.baload, 1) ∧ pc + 1 = pc2) (hk : S.2.2.1 k = some .byte) (hc : hs.1 a = some (k, vs)) (hi : ¬ i < 0) (hv : vs[i.toNatClampNeg]? = some v) (kk : mx_Ok S l G d M pc2 lv (v :: st) hs Q) : mx_Ok S l G d M pc lv (.int i :: .ref a :: st) hs Q := by
  obtain ⟨hd, rfl⟩ := hd
  refine mx_go (fun p e R s m args below meth c H locs cells slots ls Q' hF hK hR hl w => ?_) kk
  obtain ⟨cell, e1, e2, e3, e4, e5⟩ := ((hR.2.1 a _ hc).1).arr (hK.1.2.2.2.2 k _ hk)
  have hlt : i.toNatClampNeg < vs.length := (List.getElem?_eq_some_iff.mp hv).1
  exact W.bald (v := v) hF.1 hF.2.1 e1 ((hK.2.2.1 k _ hk).arr e2 e4) e3 (by rw [e5]; simp only [List.size_toArray]; exact fun h => h.elim hi (by omega)) (by rw [e5]; simp only [List.getElem?_toArray]; exact hv) rfl rfl hd w
theorem mx_aald {C : String} (hd : decode M.2.1 pc = .ok (.aaload, 1) ∧ pc + 1 = pc2) (hk : S.2.2.1 k = some (.object C)) (hc : hs.1 a = some (k, vs)) (hi : ¬ i < 0) (hv : vs[i.toNatClampNeg]? = some v) (kk : mx_Ok S l G d M pc2 lv (v :: st) hs Q) : mx_Ok S l G d M pc lv (.int i :: .ref a :: st) hs Q := by
  obtain ⟨hd, rfl⟩ := hd
  refine mx_go (fun p e R s m args below meth c H locs cells slots ls Q' hF hK hR hl w => ?_) kk
  obtain ⟨cell, e1, e2, e3, e4, e5⟩ := ((hR.2.1 a _ hc).1).arr (hK.1.2.2.2.2 k _ hk)
  have hlt : i.toNatClampNeg < vs.length := (List.getElem?_eq_some_iff.mp hv).1
  exact W.aald (v := v) (ty := .object C) hF.1 hF.2.1 e1 ((hK.2.2.1 k _ hk).arr e2 e4) rfl e3 (by rw [e5]; simp only [List.size_toArray]; exact fun h => h.elim hi (by omega)) (by rw [e5]; simp only [List.getElem?_toArray]; exact hv) rfl rfl hd w
theorem mx_setA {H1 : Heap} {cell : Cell} {j : Nat} (hk : ¬ k < 100) (e2 : cell.cls = G.2.2.1 k) (e3 : cell.vm ≠ .unknown) (e4 : ∀ k, cell.vm ≠ .statics k) (e5 : cell.slots = vs.toArray) (e : H1[a]? = some (cell.setSlot j v)) : mx_cell S G a (k, vs.set j v) H1 := by
  refine mx_cell.ofArr hk e e2 e3 e4 ?_
  show cell.slots.setIfInBounds j v = _
  rw [e5]
  simp
theorem mx_iast {x : Int32} (hd : decode M.2.1 pc = .ok (.iastore, 1) ∧ pc + 1 = pc2) (hk : S.2.2.1 k = some .int) (hk1 : k ≠ 101) (hd1 : 1 ≤ d) (hc : hs.1 a = some (k, vs)) (hi : ¬ i < 0) (hlt : i.toNatClampNeg < vs.length) (kk : mx_Ok S l G d M pc2 lv st (mx_st hs a (k, vs.set i.toNatClampNeg (.int x))) Q) : mx_Ok S l G d M pc lv (.int x :: .int i :: .ref a :: st) hs Q := by
  obtain ⟨hd, rfl⟩ := hd
  refine mx_goS hc hk1 (fun p e R s m args below meth c H locs cells slots ls Q' hF hK hR hl w _ _ _ => ?_) hd1 kk
  obtain ⟨cell, e1, e2, e3, e4, e5⟩ := ((hR.2.1 a _ hc).1).arr (hK.1.2.2.2.2 k _ hk)
  refine W.iast hF.1 hF.2.1 e1 ((hK.2.2.1 k _ hk).arr e2 e4) e3 (by rw [e5]; simp only [List.size_toArray]; exact fun h => h.elim hi (by omega)) rfl rfl hd fun H1 e z oq => ?_
  refine w H1 _ (mx_setA (hK.1.2.2.2.2 k _ hk) e2 e3 e4 e5 e) z oq (fun y hy => ?_)
  rcases List.mem_append.mp hy with h | h
  · exact Or.inl h
  · rw [List.mem_singleton.mp h]; exact Or.inr rfl
theorem mx_zast {x : Int32} (hd : decode M.2.1 pc = .ok (.bastore, 1) ∧ pc + 1 = pc2) (hk : S.2.2.1 k = some .boolean) (hk1 : k ≠ 101) (hd1 : 1 ≤ d) (hx : x = 0 ∨ x = 1) (hc : hs.1 a = some (k, vs)) (hi : ¬ i < 0) (hlt : i.toNatClampNeg < vs.length) (kk : mx_Ok S l G d M pc2 lv st (mx_st hs a (k, vs.set i.toNatClampNeg (.int x))) Q) : mx_Ok S l G d M pc lv (.int x :: .int i :: .ref a :: st) hs Q := by
  obtain ⟨hd, rfl⟩ := hd
  have hnx : narrow .boolean (.int x) = .int x := by rcases hx with rfl | rfl <;> rfl
  refine mx_goS hc hk1 (fun p e R s m args below meth c H locs cells slots ls Q' hF hK hR hl w _ _ _ => ?_) hd1 kk
  obtain ⟨cell, e1, e2, e3, e4, e5⟩ := ((hR.2.1 a _ hc).1).arr (hK.1.2.2.2.2 k _ hk)
  refine W.zast hF.1 hF.2.1 e1 ((hK.2.2.1 k _ hk).arr e2 e4) e3 (by rw [e5]; simp only [List.size_toArray]; exact fun h => h.elim hi (by omega)) rfl rfl hd fun H1 e z oq => ?_
  rw [hnx] at e
  refine w H1 _ (mx_setA (hK.1.2.2.2.2 k _ hk) e2 e3 e4 e5 e) z oq (fun y hy => ?_)
  rcases List.mem_append.mp hy with h | h
  · exact Or.inl h
  · rw [List.mem_singleton.mp h]; exact Or.inr rfl
theorem mx_last {x : Int64} (hd : decode M.2.1 pc = .ok (.lastore, 1) ∧ pc + 1 = pc2) (hk : S.2.2.1 k = some .long) (hk1 : k ≠ 101) (hd1 : 1 ≤ d) (hc : hs.1 a = some (k, vs)) (hi : ¬ i < 0) (hlt : i.toNatClampNeg < vs.length) (kk : mx_Ok S l G d M pc2 lv st (mx_st hs a (k, vs.set i.toNatClampNeg (.long x))) Q) : mx_Ok S l G d M pc lv (.long x :: .int i :: .ref a :: st) hs Q := by
  obtain ⟨hd, rfl⟩ := hd
  refine mx_goS hc hk1 (fun p e R s m args below meth c H locs cells slots ls Q' hF hK hR hl w _ _ _ => ?_) hd1 kk
  obtain ⟨cell, e1, e2, e3, e4, e5⟩ := ((hR.2.1 a _ hc).1).arr (hK.1.2.2.2.2 k _ hk)
  refine W.last hF.1 hF.2.1 e1 ((hK.2.2.1 k _ hk).arr e2 e4) e3 (by rw [e5]; simp only [List.size_toArray]; exact fun h => h.elim hi (by omega)) rfl rfl hd fun H1 e z oq => ?_
  refine w H1 _ (mx_setA (hK.1.2.2.2.2 k _ hk) e2 e3 e4 e5 e) z oq (fun y hy => ?_)
  rcases List.mem_append.mp hy with h | h
  · exact Or.inl h
  · rw [List.mem_singleton.mp h]; exact Or.inr rfl
theorem mx_aastR {b : Nat} (hd : decode M.2.1 pc = .ok (.aastore, 1) ∧ pc + 1 = pc2) (hq : S.2.1[ci]? = some q) (hk : S.2.2.1 k = some (.object q.1)) (hk1 : k ≠ 101) (hd1 : 1 ≤ d) (hc : hs.1 a = some (k, vs)) (hi : ¬ i < 0) (hlt : i.toNatClampNeg < vs.length) (hb : hs.1 b = some (ci, fs)) (kk : mx_Ok S l G d M pc2 lv st (mx_st hs a (k, vs.set i.toNatClampNeg (.ref b))) Q) : mx_Ok S l G d M pc lv (.ref b :: .int i :: .ref a :: st) hs Q := by
  obtain ⟨hd, rfl⟩ := hd
  refine mx_goS hc hk1 (fun p e R s m args below meth c H locs cells slots ls Q' hF hK hR hl w _ _ _ => ?_) hd1 kk
  obtain ⟨cell, e1, e2, e3, e4, e5⟩ := ((hR.2.1 a _ hc).1).arr (hK.1.2.2.2.2 k _ hk)
  obtain ⟨r', hr', -, cellV, g1, g2, g3, -⟩ := ((hR.2.1 b _ hb).1).obj (mx_kin hK hq)
  have hcls := (hK.2.1 ci q hq).2
  obtain ⟨kA, comp, k1, k2, -, k3⟩ := hK.2.2.1 k _ hk
  have hcomp : comp = G.1 ci := Option.some.inj ((k3 _ rfl).symm.trans hcls.1)
  subst hcomp
  obtain ⟨kC, hkC, -⟩ := hcls.2
  refine W.aast hF.1 hF.2.1 e1 e4 e3 (by rw [e2]; exact k1) k2 rfl hkC ⟨hi, by rw [e5]; simp only [List.size_toArray]; exact hlt⟩ g1 (fun q h => by rw [g3] at h; cases h) (by rw [g2]; exact hkC) (by rw [g2]; exact va_assign hcls) rfl rfl hd fun H1 e z oq => ?_
  refine w H1 _ (mx_setA (hK.1.2.2.2.2 k _ hk) e2 e3 e4 e5 e) z oq (fun y hy => ?_)
  rcases List.mem_append.mp hy with h | h
  · exact Or.inl h
  · rw [List.mem_singleton.mp h]; exact Or.inr rfl
theorem mx_mmax {x y : Int32} (hd : decode M.2.1 pc = .ok (.invokestatic ix, 3) ∧ pc + 3 = pc2) (hlink : Cond.methodLink M.1.cls ix Lib.Math.max.name ∈ S.1) (hstat : Cond.static Lib.Math.max.name ∈ S.1) (hini : Cond.initialized "java/lang/Math" ∈ S.1) (hcode : Cond.code Lib.Math.max.name Lib.Math.max.code 2 (some .int) ∈ S.1) (hrest : (st.map fun v => v.category).sum ≤ 8) (kk : mx_Ok S l G (d + 1) M pc2 lv (.int (if x < y then y else x) :: st) hs Q) : mx_Ok S l G (d + 1) M pc lv (.int y :: .int x :: st) hs Q := by
  obtain ⟨hd, rfl⟩ := hd
  obtain ⟨r, fin, ⟨h1, h2, h3⟩, hq⟩ := kk
  refine ⟨r, fin, ⟨h1, h2, fun p e R s m args below meth c H locs cells slots ls Q' hF hK hR hl hlo hd' hld hcc hsl kk => ?_⟩, hq⟩
  have hts := hF.2.2.2.2.2.2.2
  exact va_mmax hF.1 hF.2.1 (hF.2.2.1.trans hl.1.symm) hF.2.2.2.2.2.1 (hts _ hlink) (hts _ hstat) (hts _ hini) (hts _ hcode) (by omega) (by omega) (by omega) (by omega) hd (h3 p e R s m args below meth c H locs cells slots ls Q' hF hK hR hl hlo hd' hld hcc hsl kk)
theorem mx_objInit (hd : decode M.2.1 pc = .ok (.invokespecial ix, 3) ∧ pc + 3 = pc2) (hlink : Cond.methodLink M.1.cls ix objectInit ∈ S.1) (hins : Cond.instanceMethod objectInit ∈ S.1) (hcode : Cond.code objectInit ⟨#[0xb1]⟩ 1 none ∈ S.1) (hrest : (st.map fun v => v.category).sum ≤ 8) (kk : mx_Ok S l G (d + 1) M pc2 lv st hs Q) : mx_Ok S l G (d + 1) M pc lv (.ref a :: st) hs Q := by
  obtain ⟨hd, rfl⟩ := hd
  obtain ⟨r, fin, ⟨h1, h2, h3⟩, hq⟩ := kk
  refine ⟨r, fin, ⟨h1, h2, fun p e R s m args below meth c H locs cells slots ls Q' hF hK hR hl hlo hd' hld hcc hsl kk => ?_⟩, hq⟩
  have hts := hF.2.2.2.2.2.2.2
  refine W.objInit hF.1 hF.2.1 hF.2.2.2.2.2.1 (hts _ hlink) (hts _ hins) (hts _ hcode) rfl (hl.1.trans hF.2.2.1.symm) rfl hd (by omega) (by show 2 * 0 + _ + 12 ≤ _; omega) ?_
  exact h3 p e R s m args below meth c H locs cells slots ls Q' hF hK hR hl hlo hd' hld hcc hsl kk
def mx_f (hs : mx_H) (a ci k : Nat) (v : Value) : Prop := ∃ fs : List Value, hs.1 a = some (ci, fs) ∧ fs[k]? = some v
theorem mx_nz {x : Int32} (h : x = 0 ∨ x = 1) : narrow .boolean (.int x) = .int x := by rcases h with rfl | rfl <;> rfl
theorem mx_fz {x : Int32} (h : x = 0 ∨ x = 1) : fits .boolean (.int x) = true := by rcases h with rfl | rfl <;> rfl
theorem mx_na {C : String} (h : v = .null ∨ ∃ x, v = .ref x) : narrow (.object C) v = v := by rcases h with rfl | ⟨x, rfl⟩ <;> rfl
theorem mx_fa {C : String} (h : v = .null ∨ ∃ x, v = .ref x) : fits (.object C) v = true := by rcases h with rfl | ⟨x, rfl⟩ <;> rfl
end MXH
end
section
/-! System.arraycopy of numbers -/
def mx_cpy (src dst : List Value) (sp dp n : Nat) : List Value := dst.take dp ++ ((src.drop sp).take n ++ dst.drop (dp + n))
theorem mx_cpy_get {src dst : List Value} {sp dp n : Nat} (h1 : sp + n ≤ src.length) (h2 : dp + n ≤ dst.length) (j : Nat) : (mx_cpy src dst sp dp n)[j]? = if dp ≤ j ∧ j < dp + n then src[sp + (j - dp)]? else dst[j]? := by
  unfold mx_cpy
  have l1 : (dst.take dp).length = dp := by rw [List.length_take]; omega
  have l2 : ((src.drop sp).take n).length = n := by rw [List.length_take, List.length_drop]; omega
  by_cases ha : j < dp
  · rw [if_neg (by omega), List.getElem?_append_left (by omega), List.getElem?_take, if_pos ha]
  · rw [List.getElem?_append_right (by omega), l1]
    by_cases hb : j < dp + n
    · rw [if_pos (by omega), List.getElem?_append_left (by omega), List.getElem?_take, if_pos (by omega), List.getElem?_drop]
    · rw [if_neg (by omega), List.getElem?_append_right (by omega), l2, List.getElem?_drop]
      congr 1
      omega
theorem mx_cpy_len {src dst : List Value} {sp dp n : Nat} (h1 : sp + n ≤ src.length) (h2 : dp + n ≤ dst.length) : (mx_cpy src dst sp dp n).length = dst.length := by
  unfold mx_cpy
  rw [List.length_append, List.length_append, List.length_take, List.length_take, List.length_drop, List.length_drop]
  omega
theorem mx_copied {cs cd : Cell} {vs0 vs1 : List Value} {sp dp n : Nat} (e0 : cs.slots = vs0.toArray) (e1 : cd.slots = vs1.toArray) (h1 : sp + n ≤ vs0.length) (h2 : dp + n ≤ vs1.length) : (cd.storeRun dp (cs.stretch sp n)).slots = (mx_cpy vs0 vs1 sp dp n).toArray := by
  have hl : (cs.stretch sp n).length = n := by unfold Cell.stretch; simp
  have hsz : cd.slots.size = vs1.length := by rw [e1]; simp
  apply Array.ext_getElem?
  intro j
  rw [Cell.storeRun_get _ _ _ _ (by rw [hl, hsz]; exact h2), hl, show (mx_cpy vs0 vs1 sp dp n).toArray[j]? = (mx_cpy vs0 vs1 sp dp n)[j]? by simp, mx_cpy_get h1 h2]
  by_cases hj : dp ≤ j ∧ j < dp + n
  · rw [if_pos hj, if_pos hj]
    unfold Cell.stretch
    rw [List.getElem?_map, List.getElem?_range (by omega)]
    simp only [Option.map_some]
    rw [e0]
    have hlt : sp + (j - dp) < vs0.length := by omega
    simp [Array.getD, hlt]
  · rw [if_neg hj, if_neg hj, e1, List.getElem?_toArray]
theorem mx_copy {S : mx_S} {l : Launch} {G : mx_G} {d pc pc2 : Nat} {M : mx_M} {lv : List (Nat × Value)} {st : List Value} {hs : mx_H} {Q : Option Value → mx_H → Prop} {ix a0 a1 k0 k1 N SP DP : Nat} {vs0 vs1 : List Value} {ty : FieldType} {sp dp n : Int32}
    (hd : decode M.2.1 pc = .ok (.invokestatic ix, 3) ∧ pc + 3 = pc2) (hlink : Cond.methodLink M.1.cls ix arraycopyName ∈ S.1) (hnat : Cond.native arraycopyName ∈ S.1) (hstat : Cond.static arraycopyName ∈ S.1) (hini : Cond.initialized "java/lang/System" ∈ S.1) (hk0 : S.2.2.1 k0 = some ty) (hk1 : S.2.2.1 k1 = some ty) (hprim : refKind ty = false) (hk : k1 ≠ 101) (hrest : (st.map fun v => v.category).sum ≤ 8)
    (hc0 : hs.1 a0 = some (k0, vs0)) (hc1 : hs.1 a1 = some (k1, vs1)) (hsp : ¬ sp < 0) (hdp : ¬ dp < 0) (hn : ¬ n < 0) (eS : sp.toNatClampNeg = SP) (eD : dp.toNatClampNeg = DP) (eN : n.toNatClampNeg = N) (h1 : SP + N ≤ vs0.length) (h2 : DP + N ≤ vs1.length) (hfit : ∀ v ∈ vs0, fits ty v = true ∧ ∀ x, v ≠ .ref x)
    (kk : mx_Ok S l G (d + 1) M pc2 lv st (mx_st hs a1 (k1, mx_cpy vs0 vs1 SP DP N)) Q) : mx_Ok S l G (d + 1) M pc lv (.int n :: .int dp :: .ref a1 :: .int sp :: .ref a0 :: st) hs Q := by
  obtain ⟨hd, rfl⟩ := hd
  subst eS
  subst eD
  subst eN
  have nn : ∀ z : Int32, ¬ z < 0 → z.toInt = (z.toNatClampNeg : Int) := by
    intro z hz
    have hz0 : (0 : Int) ≤ z.toInt := by
      have := Int32.not_lt.mp hz
      simpa using Int32.le_iff_toInt_le.mp this
    show z.toInt = ((z.toInt.toNat : Nat) : Int)
    omega
  refine mx_goS hc1 hk (fun p e R s m args below meth c H locs cells slots ls Q' hF hK hR hl w _ hfr hlo => ?_) (by omega) kk
  have hts := hF.2.2.2.2.2.2.2
  obtain ⟨cs, e1, e2, e3, e4, e5⟩ := ((hR.2.1 a0 _ hc0).1).arr (hK.1.2.2.2.2 k0 _ hk0)
  obtain ⟨cd, f1, f2, f3, f4, f5⟩ := ((hR.2.1 a1 _ hc1).1).arr (hK.1.2.2.2.2 k1 _ hk1)
  obtain ⟨ks, sc, g1, g2, -⟩ := hK.2.2.1 k0 _ hk0
  obtain ⟨kd, dc, g3, g4, -⟩ := hK.2.2.1 k1 _ hk1
  intro T hT X
  obtain ⟨vm', X', step⟩ := X.arraycopy hF.1 hF.2.2.2.2.2.1 (hts _ hlink) (hts _ hnat) (hts _ hstat) (hts _ hini) (src := a0) (dst := a1) (cs := cs) (cd := cd) (srcPos := sp) (destPos := dp) (n := n) (by rw [hT]; exact e1) (by rw [hT]; exact f1) e4 f4 e3 f3 (by rw [e2]; exact g1) (by rw [f2]; exact g3) g2 g4 (by simp [hprim]) hsp hdp hn
    (by rw [nn sp hsp, nn n hn, e5]; simp only [List.size_toArray]; omega) (by rw [nn dp hdp, nn n hn, f5]; simp only [List.size_toArray]; omega)
    (fun vm₁ _ i hi => by
      have hlt : sp.toNatClampNeg + i < vs0.length := by omega
      have ev : cs.slots.getD (sp.toNatClampNeg + i) .null = vs0[sp.toNatClampNeg + i] := by rw [e5]; simp [Array.getD, hlt]
      rw [ev]
      obtain ⟨t1, t2⟩ := hfit _ (List.getElem_mem hlt)
      refine ⟨t1, ?_⟩
      generalize vs0[sp.toNatClampNeg + i] = v at t2 ⊢
      cases v <;> first | exact trivial | (exact absurd rfl (t2 _)))
    (g := F0 m pc ls (.int n :: .int dp :: .ref a1 :: .int sp :: .ref a0 :: st)) rfl (hl.1.trans hF.2.2.1.symm) (rest := st) rfl (by rw [hF.2.1]; exact hd) (by omega) (by show 2 * 0 + _ + (18 : Nat) ≤ _; omega)
  have hla : a1 < T.heap.size := by rw [hT]; exact (Array.getElem?_eq_some_iff.mp f1).1
  obtain ⟨t, b1, b2⟩ := w _ _ (mx_cell.ofArr (hK.1.2.2.2.2 k1 _ hk1) (heapAt_setCell_self (s := T.setVm vm') (copied cs cd sp dp n) hla) ((Cell.storeRun_facts _ _ _).1.trans f2) (by rw [show (copied cs cd sp dp n).vm = cd.vm from (Cell.storeRun_facts _ _ _).2.1]; exact f3) (by rw [show (copied cs cd sp dp n).vm = cd.vm from (Cell.storeRun_facts _ _ _).2.1]; exact f4) (mx_copied e5 f5 h1 h2)) (by rw [size_setCell]; show T.heap.size = _; rw [hT]) (fun y hy => by rw [heapAt_setCell_ne _ (Ne.symm hy)]; show T.heap[y]? = _; rw [hT]) (fun y hy => by
      rcases List.mem_append.mp hy with h | h
      · exact Or.inl h
      · obtain ⟨z, -, hz⟩ := List.mem_map.mp h
        rw [← hz]
        exact Or.inr rfl) ((T.setVm vm').setCell a1 (copied cs cd sp dp n)) rfl X'
  exact ⟨t, step t b1, b2⟩
end
section
/-! PURE: characters, reading of a text (where its EXPRESSION ends, or its bad place), its height. -/
def lz_dg (c : Int32) : Bool := decide (48 ≤ c) && decide (c ≤ 57)
def lz_lt (c : Int32) : Bool := decide (97 ≤ c) && decide (c < 105)
def lz_pa (c : Int32) : Nat := if c = 33 ∨ c = 79 then 1 else if c = 43 ∨ c = 45 ∨ c = 42 ∨ c = 60 ∨ c = 84 then 2 else if c = 63 then 3 else 0
def lz_cd (t : List Int32) (i : Nat) : Int32 := t.getD i 0
/-- n EXPRESSIONS one behind another -/
def lz_ps (f : Nat → Bool × Nat) : Nat → Nat → Bool × Nat
  | 0, p => (true, p)
  | n + 1, p => if (f p).1 = true then lz_ps f n (f p).2 else f p
/-- at most n EXPRESSIONS, then the sign that ends the list -/
def lz_ls (f : Nat → Bool × Nat) (t : List Int32) : Nat → Nat → Bool × Nat
  | 0, p => if lz_cd t p = 41 then (true, p + 1) else (false, p)
  | n + 1, p => if lz_cd t p = 41 then (true, p + 1) else if (f p).1 = true then lz_ls f t n (f p).2 else f p
/-- the EXPRESSION of depth at most k that begins at p: its end, or the bad place -/
def lz_rd (t : List Int32) : Nat → Nat → Bool × Nat
  | 0, p => (false, p)
  | k + 1, p =>
    if t.length ≤ p then (false, p)
    else if (lz_dg (lz_cd t p) || lz_lt (lz_cd t p)) = true then (true, p + 1)
    else if lz_cd t p = 68 then
      if lz_dg (lz_cd t (p + 1)) = false then (false, p + 1)
      else if ¬ lz_cd t (p + 2) = 40 then (false, p + 2)
      else lz_ls (lz_rd t k) t 4 (p + 3)
    else if lz_pa (lz_cd t p) = 0 ∨ k = 0 then (false, p)
    else lz_ps (lz_rd t k) (lz_pa (lz_cd t p)) (p + 1)
def lz_hp (f : Nat → Bool × Nat) (h : Nat → Nat) : Nat → Nat → Nat
  | 0, _ => 0
  | n + 1, p => max (h p) (lz_hp f h n (f p).2)
def lz_hl (f : Nat → Bool × Nat) (h : Nat → Nat) (t : List Int32) : Nat → Nat → Nat
  | 0, _ => 0
  | n + 1, p => if lz_cd t p = 41 then 0 else max (h p) (lz_hl f h t n (f p).2)
/-- the height of the EXPRESSION at p, of depth at most k -/
def lz_ht (t : List Int32) : Nat → Nat → Nat
  | 0, _ => 0
  | k + 1, p =>
    if (lz_dg (lz_cd t p) || lz_lt (lz_cd t p)) = true then 1
    else if lz_cd t p = 68 then 1 + lz_hl (lz_rd t k) (lz_ht t k) t 4 (p + 3)
    else 1 + lz_hp (lz_rd t k) (lz_ht t k) (lz_pa (lz_cd t p)) (p + 1)
/-- the whole line: its end and height, or its bad place -/
def lz_line (t : List Int32) : Bool × Nat :=
  if (lz_rd t 8 0).1 = true then (if (lz_rd t 8 0).2 < t.length then (false, (lz_rd t 8 0).2) else (true, lz_ht t 8 0)) else (false, (lz_rd t 8 0).2)
theorem lz_cd_out {t : List Int32} {i : Nat} (h : t.length ≤ i) : lz_cd t i = 0 := by
  unfold lz_cd
  rw [List.getD_eq_getElem?_getD, List.getElem?_eq_none h]
  rfl
theorem lz_cd_in {t : List Int32} {i : Nat} (h : lz_cd t i ≠ 0) : i < t.length := by
  rcases Nat.lt_or_ge i t.length with q | q
  · exact q
  · exact absurd (lz_cd_out q) h
theorem lz_ps_b {f : Nat → Bool × Nat} {L : Nat} (hf : ∀ p e, f p = (true, e) → p < e ∧ e ≤ L) : ∀ (n p e : Nat), p ≤ L → lz_ps f n p = (true, e) → p + n ≤ e ∧ e ≤ L := by
  intro n
  induction n with
  | zero =>
    intro p e hp h
    simp only [lz_ps, Prod.mk.injEq, true_and] at h
    omega
  | succ n ih =>
    intro p e hp h
    unfold lz_ps at h
    by_cases hc : (f p).1 = true
    · rw [if_pos hc] at h
      have h1 := hf p (f p).2 (Prod.ext hc rfl)
      have h2 := ih _ _ h1.2 h
      omega
    · rw [if_neg hc] at h
      rw [h] at hc
      exact absurd rfl hc
theorem lz_ls_b {f : Nat → Bool × Nat} {t : List Int32} (hf : ∀ p e, f p = (true, e) → p < e ∧ e ≤ t.length) : ∀ (n p e : Nat), lz_ls f t n p = (true, e) → p < e ∧ e ≤ t.length := by
  intro n
  induction n with
  | zero =>
    intro p e h
    unfold lz_ls at h
    by_cases hc : lz_cd t p = 41
    · rw [if_pos hc] at h
      have : p < t.length := lz_cd_in (by rw [hc]; decide)
      simp only [Prod.mk.injEq, true_and] at h
      omega
    · rw [if_neg hc] at h
      cases h
  | succ n ih =>
    intro p e h
    unfold lz_ls at h
    by_cases hc : lz_cd t p = 41
    · rw [if_pos hc] at h
      have : p < t.length := lz_cd_in (by rw [hc]; decide)
      simp only [Prod.mk.injEq, true_and] at h
      omega
    · rw [if_neg hc] at h
      by_cases hd : (f p).1 = true
      · rw [if_pos hd] at h
        have h1 := hf p (f p).2 (Prod.ext hd rfl)
        have h2 := ih _ _ h
        omega
      · rw [if_neg hd] at h
        rw [h] at hd
        exact absurd rfl hd
theorem lz_rd_b {t : List Int32} : ∀ (k p e : Nat), lz_rd t k p = (true, e) → p < e ∧ e ≤ t.length := by
  intro k
  induction k with
  | zero =>
    intro p e h
    simp [lz_rd] at h
  | succ k ih =>
    intro p e h
    unfold lz_rd at h
    by_cases h1 : t.length ≤ p
    · rw [if_pos h1] at h
      cases h
    rw [if_neg h1] at h
    by_cases h2 : (lz_dg (lz_cd t p) || lz_lt (lz_cd t p)) = true
    · rw [if_pos h2] at h
      simp only [Prod.mk.injEq, true_and] at h
      omega
    rw [if_neg h2] at h
    by_cases h3 : lz_cd t p = 68
    · rw [if_pos h3] at h
      by_cases h4 : lz_dg (lz_cd t (p + 1)) = false
      · rw [if_pos h4] at h
        cases h
      rw [if_neg h4] at h
      by_cases h5 : ¬ lz_cd t (p + 2) = 40
      · rw [if_pos h5] at h
        cases h
      rw [if_neg h5] at h
      have := lz_ls_b ih _ _ _ h
      omega
    rw [if_neg h3] at h
    by_cases h4 : lz_pa (lz_cd t p) = 0 ∨ k = 0
    · rw [if_pos h4] at h
      cases h
    rw [if_neg h4] at h
    have := lz_ps_b ih _ _ _ (by omega) h
    omega
theorem lz_ps_m {f g : Nat → Bool × Nat} (hf : ∀ p e, f p = (true, e) → g p = (true, e)) : ∀ (n p e : Nat), lz_ps f n p = (true, e) → lz_ps g n p = (true, e) := by
  intro n
  induction n with
  | zero =>
    intro p e h
    exact h
  | succ n ih =>
    intro p e h
    unfold lz_ps at h ⊢
    by_cases hc : (f p).1 = true
    · rw [if_pos hc] at h
      have h1 := hf p (f p).2 (Prod.ext hc rfl)
      rw [h1, if_pos rfl]
      exact ih _ _ h
    · rw [if_neg hc] at h
      rw [h] at hc
      exact absurd rfl hc
theorem lz_ls_m {f g : Nat → Bool × Nat} {t : List Int32} (hf : ∀ p e, f p = (true, e) → g p = (true, e)) : ∀ (n p e : Nat), lz_ls f t n p = (true, e) → lz_ls g t n p = (true, e) := by
  intro n
  induction n with
  | zero =>
    intro p e h
    exact h
  | succ n ih =>
    intro p e h
    unfold lz_ls at h ⊢
    by_cases hq : lz_cd t p = 41
    · rw [if_pos hq] at h ⊢
      exact h
    rw [if_neg hq] at h ⊢
    by_cases hc : (f p).1 = true
    · rw [if_pos hc] at h
      have h1 := hf p (f p).2 (Prod.ext hc rfl)
      rw [h1, if_pos rfl]
      exact ih _ _ h
    · rw [if_neg hc] at h
      rw [h] at hc
      exact absurd rfl hc
theorem lz_rd_m1 {t : List Int32} : ∀ (k p e : Nat), lz_rd t k p = (true, e) → lz_rd t (k + 1) p = (true, e) := by
  intro k
  induction k with
  | zero =>
    intro p e h
    simp [lz_rd] at h
  | succ k ih =>
    intro p e h
    unfold lz_rd at h
    rw [lz_rd]
    by_cases h1 : t.length ≤ p
    · rw [if_pos h1] at h
      cases h
    rw [if_neg h1] at h ⊢
    by_cases h2 : (lz_dg (lz_cd t p) || lz_lt (lz_cd t p)) = true
    · rw [if_pos h2] at h ⊢
      exact h
    rw [if_neg h2] at h ⊢
    by_cases h3 : lz_cd t p = 68
    · rw [if_pos h3] at h ⊢
      by_cases h4 : lz_dg (lz_cd t (p + 1)) = false
      · rw [if_pos h4] at h
        cases h
      rw [if_neg h4] at h ⊢
      by_cases h5 : ¬ lz_cd t (p + 2) = 40
      · rw [if_pos h5] at h
        cases h
      rw [if_neg h5] at h ⊢
      exact lz_ls_m ih _ _ _ h
    rw [if_neg h3] at h ⊢
    by_cases h4 : lz_pa (lz_cd t p) = 0 ∨ k = 0
    · rw [if_pos h4] at h
      cases h
    rw [if_neg h4] at h
    rw [if_neg (by omega)]
    exact lz_ps_m ih _ _ _ h
theorem lz_rd_m {t : List Int32} {k j p e : Nat} (hk : k ≤ j) (h : lz_rd t k p = (true, e)) : lz_rd t j p = (true, e) := by
  induction j with
  | zero =>
    have : k = 0 := by omega
    subst this
    exact h
  | succ j ih =>
    by_cases hq : k = j + 1
    · subst hq
      exact h
    · exact lz_rd_m1 _ _ _ (ih (by omega))
theorem lz_ps_z {f : Nat → Bool × Nat} {t : List Int32} (hf : ∀ p e, f p = (true, e) → lz_cd t (e - 1) ≠ 68) : ∀ (n p e : Nat), lz_cd t (p - 1) ≠ 68 ∨ 0 < n → lz_ps f n p = (true, e) → lz_cd t (e - 1) ≠ 68 := by
  intro n
  induction n with
  | zero =>
    intro p e hp h
    simp only [lz_ps, Prod.mk.injEq, true_and] at h
    subst h
    rcases hp with hp | hp
    · exact hp
    · exact absurd hp (Nat.lt_irrefl 0)
  | succ n ih =>
    intro p e hp h
    unfold lz_ps at h
    by_cases hc : (f p).1 = true
    · rw [if_pos hc] at h
      have h1 := hf p (f p).2 (Prod.ext hc rfl)
      exact ih _ _ (Or.inl h1) h
    · rw [if_neg hc] at h
      rw [h] at hc
      exact absurd rfl hc
theorem lz_ls_z {f : Nat → Bool × Nat} {t : List Int32} : ∀ (n p e : Nat), (∀ p e, f p = (true, e) → True) → lz_ls f t n p = (true, e) → lz_cd t (e - 1) = 41 := by
  intro n
  induction n with
  | zero =>
    intro p e _ h
    unfold lz_ls at h
    by_cases hc : lz_cd t p = 41
    · rw [if_pos hc] at h
      simp only [Prod.mk.injEq, true_and] at h
      subst h
      exact hc
    · rw [if_neg hc] at h
      cases h
  | succ n ih =>
    intro p e hf h
    unfold lz_ls at h
    by_cases hc : lz_cd t p = 41
    · rw [if_pos hc] at h
      simp only [Prod.mk.injEq, true_and] at h
      subst h
      exact hc
    · rw [if_neg hc] at h
      by_cases hd : (f p).1 = true
      · rw [if_pos hd] at h
        exact ih _ _ hf h
      · rw [if_neg hd] at h
        rw [h] at hd
        exact absurd rfl hd
/-- the last character of an EXPRESSION is no D -/
theorem lz_rd_z {t : List Int32} : ∀ (k p e : Nat), lz_rd t k p = (true, e) → lz_cd t (e - 1) ≠ 68 := by
  intro k
  induction k with
  | zero =>
    intro p e h
    simp [lz_rd] at h
  | succ k ih =>
    intro p e h
    unfold lz_rd at h
    by_cases h1 : t.length ≤ p
    · rw [if_pos h1] at h
      cases h
    rw [if_neg h1] at h
    by_cases h2 : (lz_dg (lz_cd t p) || lz_lt (lz_cd t p)) = true
    · rw [if_pos h2] at h
      simp only [Prod.mk.injEq, true_and] at h
      subst h
      intro h3
      rw [Nat.add_sub_cancel] at h3
      rw [h3] at h2
      exact absurd h2 (by decide)
    rw [if_neg h2] at h
    by_cases h3 : lz_cd t p = 68
    · rw [if_pos h3] at h
      by_cases h4 : lz_dg (lz_cd t (p + 1)) = false
      · rw [if_pos h4] at h
        cases h
      rw [if_neg h4] at h
      by_cases h5 : ¬ lz_cd t (p + 2) = 40
      · rw [if_pos h5] at h
        cases h
      rw [if_neg h5] at h
      rw [lz_ls_z _ _ _ (fun _ _ _ => trivial) h]
      decide
    rw [if_neg h3] at h
    by_cases h4 : lz_pa (lz_cd t p) = 0 ∨ k = 0
    · rw [if_pos h4] at h
      cases h
    rw [if_neg h4] at h
    exact lz_ps_z ih _ _ _ (Or.inr (by omega)) h
end
section
/-! PURE: VALUES and THE STORE. A VALUE is a long: a NUMBER as it is, PLAN j (from 0) as lz_pv j. -/
abbrev lz_P : Type := Int32 × List Int64 × Bool × Int32 × Bool
abbrev lz_S : Type := (Nat → lz_P) × Nat × (Nat → Int32) × Nat
def lz_b (x : Bool) : Int32 := if x = true then 1 else 0
theorem lz_b0 {x : Bool} : lz_b x = 0 ↔ x = false := by cases x <;> decide
theorem lz_b1 {x : Bool} : ¬ lz_b x = 0 ↔ x = true := by cases x <;> decide
theorem lz_b01 (x : Bool) : lz_b x = 0 ∨ lz_b x = 1 := by cases x <;> decide
def lz_bad (v : Int64) : Bool := decide (v < -1000000000000)
def lz_pl (v : Int64) : Bool := decide (1000000000000 < v)
def lz_pv (j : Nat) : Int64 := 1000000000000 + lN (j + 1)
def lz_ix (v : Int64) : Nat := (Int64.toInt32 (v - 1000000000000)).toNatClampNeg - 1
def lz_V (n : Nat) (v : Int64) : Prop := (∃ x : Int32, v = x.toInt64) ∨ ∃ j : Nat, j < n ∧ v = lz_pv j
theorem lz_pv_i {j : Nat} : Int64.toInt32 (lz_pv j - 1000000000000) = nI (j + 1) := by
  unfold lz_pv
  rw [Int64.add_comm, Int64.add_sub_cancel, lN_i]
theorem lz_pv_ix {j : Nat} (h : j < 2 ^ 30) : lz_ix (lz_pv j) = j := by
  unfold lz_ix
  rw [lz_pv_i, nI_clamp (by omega)]
  rfl
theorem lz_pv_T {j : Nat} (h : j < 2 ^ 30) : (lz_pv j).toInt = 1000000000000 + (j + 1 : Nat) := by
  unfold lz_pv
  rw [show (1000000000000 : Int64) = lN 1000000000000 from rfl, lN_add, pk_lT (by omega)]
  omega
theorem lz_pv_pl {j : Nat} (h : j < 2 ^ 30) : lz_pl (lz_pv j) = true := by
  unfold lz_pl
  rw [decide_eq_true_iff, Int64.lt_iff_toInt_lt, lz_pv_T h, show (1000000000000 : Int64).toInt = 1000000000000 from rfl]
  omega
theorem lz_pv_bad {j : Nat} (h : j < 2 ^ 30) : lz_bad (lz_pv j) = false := by
  unfold lz_bad
  rw [decide_eq_false_iff_not, Int64.lt_iff_toInt_lt, lz_pv_T h, show (-1000000000000 : Int64).toInt = -1000000000000 from rfl]
  omega
theorem lz_n_pl (x : Int32) : lz_pl x.toInt64 = false := by
  unfold lz_pl
  have h := Int32.toInt_lt x
  rw [decide_eq_false_iff_not, Int64.lt_iff_toInt_lt, Int32.toInt_toInt64, show (1000000000000 : Int64).toInt = 1000000000000 from rfl]
  omega
theorem lz_n_bad (x : Int32) : lz_bad x.toInt64 = false := by
  unfold lz_bad
  have h := Int32.le_toInt x
  rw [decide_eq_false_iff_not, Int64.lt_iff_toInt_lt, Int32.toInt_toInt64, show (-1000000000000 : Int64).toInt = -1000000000000 from rfl]
  omega
theorem lz_V.bad {n : Nat} {v : Int64} (hn : n ≤ 2 ^ 30) (h : lz_V n v) : lz_bad v = false := by
  rcases h with ⟨x, rfl⟩ | ⟨j, hj, rfl⟩
  · exact lz_n_bad x
  · exact lz_pv_bad (by omega)
theorem lz_V.mono {n m : Nat} {v : Int64} (hn : n ≤ m) (h : lz_V n v) : lz_V m v := by
  rcases h with h | ⟨j, hj, h⟩
  · exact Or.inl h
  · exact Or.inr ⟨j, by omega, h⟩
theorem lz_V_pv {n j : Nat} {v : Int64} (h : lz_V n v) (hj : j < 2 ^ 30) (hn : n ≤ 2 ^ 30) (e : v = lz_pv j) : j < n := by
  rcases h with ⟨x, hx⟩ | ⟨i, hi, hx⟩
  · have h1 := lz_n_pl x
    rw [← hx, e, lz_pv_pl hj] at h1
    cases h1
  · have h1 := congrArg Int64.toInt (e.symm.trans hx)
    rw [lz_pv_T hj, lz_pv_T (by omega)] at h1
    omega
def lz_setP (S : lz_S) (i : Nat) (x : lz_P) : lz_S := (fun j => if j = i then x else S.1 j, S.2)
def lz_okP (i : Nat) (p : lz_P) : Prop := p.2.1.length ≤ 4 ∧ (∀ v ∈ p.2.1, lz_V i v) ∧ (∃ m : Nat, m < 10 ∧ p.1 = nI m) ∧ (p.2.2.1 = false → p.2.2.2.1 = 0)
def lz_okS (S : lz_S) : Prop := S.2.1 ≤ 30 ∧ (∀ i, i < S.2.1 → lz_okP i (S.1 i)) ∧ ∀ b, b < 10 → ∃ k : Nat, k ≤ 4 ∧ S.2.2.1 b = nI k
/-- what a VALUE is as a PART -/
def lz_rp (S : lz_S) (v : Int64) : Int32 := if lz_pl v = true then (S.1 (lz_ix v)).2.2.2.1 else v.toInt32
def lz_sum (S : lz_S) (vs : List Int64) : Int32 := vs.foldl (fun a v => a + lz_rp S v) 0
def lz_prod (S : lz_S) (vs : List Int64) : Int32 := vs.foldl (fun a v => a * lz_rp S v) 1
def lz_mx (a b : Int32) : Int32 := if a < b then b else a
def lz_great (S : lz_S) : List Int64 → Int32
  | [] => 0
  | v :: vs => vs.foldl (fun a v => lz_mx a (lz_rp S v)) (lz_rp S v)
def lz_out (S : lz_S) (k : Int32) (vs : List Int64) : Int32 := if k = 1 then lz_prod S vs else if k = 2 then lz_great S vs else if k = 3 then nI vs.length else lz_sum S vs
/-- PLAN j is built, its INPUTS being built -/
def lz_fin (S : lz_S) (j : Nat) : Int64 × lz_S :=
  if S.2.2.1 (S.1 j).1.toNatClampNeg = 4 ∨ (S.2.2.1 (S.1 j).1.toNatClampNeg = 3 ∧ ¬ lz_great S (S.1 j).2.1 < 100) then (-1000000000007, S)
  else ((lz_out S (S.2.2.1 (S.1 j).1.toNatClampNeg) (S.1 j).2.1).toInt64, ((lz_setP S j ((S.1 j).1, (S.1 j).2.1, true, lz_out S (S.2.2.1 (S.1 j).1.toNatClampNeg) (S.1 j).2.1, (S.1 j).2.2.2.2)).1, S.2.1, S.2.2.1, S.2.2.2 + 1))
def lz_bi (g : lz_S → Int64 → Int64 × lz_S) : List Int64 → lz_S → Int64 × lz_S
  | [], S => (0, S)
  | v :: vs, S => if lz_bad (g S v).1 = true then g S v else lz_bi g vs (g S v).2
/-- a VALUE as a PART, built if it is a PLAN -/
def lz_pt : Nat → lz_S → Int64 → Int64 × lz_S
  | 0, S, v => (v, S)
  | f + 1, S, v =>
    if lz_pl v = false then (v, S)
    else if (S.1 (lz_ix v)).2.2.1 = true then ((S.1 (lz_ix v)).2.2.2.1.toInt64, S)
    else if lz_bad (lz_bi (lz_pt f) (S.1 (lz_ix v)).2.1 S).1 = true then lz_bi (lz_pt f) (S.1 (lz_ix v)).2.1 S
    else lz_fin (lz_bi (lz_pt f) (S.1 (lz_ix v)).2.1 S).2 (lz_ix v)
/-- two stores that differ in what is built alone -/
def lz_sm (S T : lz_S) : Prop := T.2.1 = S.2.1 ∧ T.2.2.1 = S.2.2.1 ∧ ∀ j, (T.1 j).1 = (S.1 j).1 ∧ (T.1 j).2.1 = (S.1 j).2.1 ∧ (T.1 j).2.2.2.2 = (S.1 j).2.2.2.2
theorem lz_sm.rf {S : lz_S} : lz_sm S S := ⟨rfl, rfl, fun _ => ⟨rfl, rfl, rfl⟩⟩
theorem lz_sm.tr {S T U : lz_S} (h : lz_sm S T) (k : lz_sm T U) : lz_sm S U := ⟨k.1.trans h.1, k.2.1.trans h.2.1, fun j => ⟨(k.2.2 j).1.trans (h.2.2 j).1, (k.2.2 j).2.1.trans (h.2.2 j).2.1, (k.2.2 j).2.2.trans (h.2.2 j).2.2⟩⟩
theorem lz_fin_sm (S : lz_S) (j : Nat) : lz_sm S (lz_fin S j).2 := by
  unfold lz_fin
  split
  · exact lz_sm.rf
  · refine ⟨rfl, rfl, fun i => ?_⟩
    simp only [lz_setP]
    by_cases h : i = j
    · subst h
      simp
    · simp [h]
theorem lz_bi_sm {g : lz_S → Int64 → Int64 × lz_S} (hg : ∀ S v, lz_sm S (g S v).2) : ∀ (vs : List Int64) (S : lz_S), lz_sm S (lz_bi g vs S).2 := by
  intro vs
  induction vs with
  | nil => exact fun S => lz_sm.rf
  | cons v vs ih =>
    intro S
    unfold lz_bi
    split
    · exact hg S v
    · exact (hg S v).tr (ih _)
theorem lz_pt_sm : ∀ (f : Nat) (S : lz_S) (v : Int64), lz_sm S (lz_pt f S v).2 := by
  intro f
  induction f with
  | zero => exact fun S v => lz_sm.rf
  | succ f ih =>
    intro S v
    unfold lz_pt
    split
    · exact lz_sm.rf
    split
    · exact lz_sm.rf
    split
    · exact lz_bi_sm ih _ _
    · exact (lz_bi_sm ih _ _).tr (lz_fin_sm _ _)
theorem lz_fin_ok {S : lz_S} (j : Nat) (h : lz_okS S) : lz_okS (lz_fin S j).2 := by
  unfold lz_fin
  split
  · exact h
  · refine ⟨h.1, fun i hi => ?_, h.2.2⟩
    simp only [lz_setP]
    by_cases hij : i = j
    · subst hij
      rw [if_pos rfl]
      obtain ⟨q1, q2, q3, -⟩ := h.2.1 i hi
      exact ⟨q1, q2, q3, fun h => by cases h⟩
    · rw [if_neg hij]
      exact h.2.1 i hi
theorem lz_bi_ok {g : lz_S → Int64 → Int64 × lz_S} (hg : ∀ S v, lz_okS S → lz_okS (g S v).2) : ∀ (vs : List Int64) (S : lz_S), lz_okS S → lz_okS (lz_bi g vs S).2 := by
  intro vs
  induction vs with
  | nil => exact fun S h => h
  | cons v vs ih =>
    intro S h
    unfold lz_bi
    split
    · exact hg S v h
    · exact ih _ (hg S v h)
theorem lz_pt_ok : ∀ (f : Nat) (S : lz_S) (v : Int64), lz_okS S → lz_okS (lz_pt f S v).2 := by
  intro f
  induction f with
  | zero => exact fun S v h => h
  | succ f ih =>
    intro S v h
    unfold lz_pt
    split
    · exact h
    split
    · exact h
    split
    · exact lz_bi_ok ih _ _ h
    · exact lz_fin_ok _ (lz_bi_ok ih _ _ h)
/-- a NUMBER, or BROKEN -/
def lz_nb (v : Int64) : Prop := (∃ x : Int32, v = x.toInt64) ∨ v = -1000000000007
theorem lz_fin_nb (S : lz_S) (j : Nat) : lz_nb (lz_fin S j).1 := by
  unfold lz_fin
  split
  · exact Or.inr rfl
  · exact Or.inl ⟨_, rfl⟩
theorem lz_bi_nb {g : lz_S → Int64 → Int64 × lz_S} {n : Nat} (hg : ∀ S v, lz_V n v → lz_nb (g S v).1) : ∀ (vs : List Int64) (S : lz_S), (∀ v ∈ vs, lz_V n v) → lz_nb (lz_bi g vs S).1 := by
  intro vs
  induction vs with
  | nil => exact fun S _ => Or.inl ⟨0, rfl⟩
  | cons v vs ih =>
    intro S h
    unfold lz_bi
    split
    · exact hg S v (h v List.mem_cons_self)
    · exact ih _ (fun v hv => h v (List.mem_cons_of_mem _ hv))
/-- the first of n numbers from i on that p names -/
def lz_fi (p : Nat → Bool) : Nat → Nat → Option Nat
  | 0, _ => none
  | n + 1, i => if p i = true then some i else lz_fi p n (i + 1)
def lz_al (S : lz_S) (mk : Int32) (vs : List Int64) (i : Nat) : Bool := decide ((S.1 i).1 = mk ∧ (S.1 i).2.1 = vs)
/-- the PLAN with that builder and those INPUTS, which comes into THE STORE if it isn't there -/
def lz_of (S : lz_S) (mk : Int32) (vs : List Int64) : Int64 × lz_S :=
  match lz_fi (lz_al S mk vs) S.2.1 0 with
  | some i => (lz_pv i, S)
  | none => if 30 ≤ S.2.1 then (-1000000000009, S) else (lz_pv S.2.1, (fun j => if j = S.2.1 then (mk, vs, false, 0, false) else S.1 j, S.2.1 + 1, S.2.2))
theorem lz_fi_lt {p : Nat → Bool} : ∀ (n i j : Nat), lz_fi p n i = some j → i ≤ j ∧ j < i + n ∧ p j = true := by
  intro n
  induction n with
  | zero =>
    intro i j h
    cases h
  | succ n ih =>
    intro i j h
    unfold lz_fi at h
    by_cases hp : p i = true
    · rw [if_pos hp] at h
      cases h
      exact ⟨Nat.le_refl _, by omega, hp⟩
    · rw [if_neg hp] at h
      obtain ⟨h1, h2, h3⟩ := ih _ _ h
      exact ⟨by omega, by omega, h3⟩
theorem lz_pt_nb : ∀ (f : Nat) {S : lz_S} {v : Int64}, lz_okS S → lz_V S.2.1 v → (∀ j, j < 30 → v = lz_pv j → j < f) → lz_nb (lz_pt f S v).1 := by
  intro f
  induction f with
  | zero =>
    intro S v h hV hj
    rcases hV with ⟨x, rfl⟩ | ⟨j, hj1, rfl⟩
    · exact Or.inl ⟨x, rfl⟩
    · exact absurd (hj j (by have := h.1; omega) rfl) (by omega)
  | succ f ih =>
    intro S v h hV hj
    unfold lz_pt
    rcases hV with ⟨x, rfl⟩ | ⟨j, hj1, rfl⟩
    · rw [if_pos (lz_n_pl x)]
      exact Or.inl ⟨x, rfl⟩
    have hn := h.1
    rw [if_neg (by rw [lz_pv_pl (by omega)]; decide), lz_pv_ix (by omega)]
    split
    · exact Or.inl ⟨_, rfl⟩
    split
    · have hjf := hj j (by omega) rfl
      have hB : ∀ (vs : List Int64) (U : lz_S), lz_okS U → lz_sm S U → (∀ v ∈ vs, lz_V j v) → lz_nb (lz_bi (lz_pt f) vs U).1 := by
        intro vs
        induction vs with
        | nil => exact fun U _ _ _ => Or.inl ⟨0, rfl⟩
        | cons v vs ihv =>
          intro U hU hs hv
          have hvj := hv v List.mem_cons_self
          unfold lz_bi
          split
          · exact ih hU (by rw [hs.1]; exact hvj.mono (by omega)) (fun i hi e => by have := lz_V_pv hvj (by omega) (by omega) e; omega)
          · exact ihv _ (lz_pt_ok f U v hU) (hs.tr (lz_pt_sm f U v)) (fun x hx => hv x (List.mem_cons_of_mem _ hx))
      exact hB _ _ h lz_sm.rf (h.2.1 j hj1).2.1
    · exact lz_fin_nb _ _
end
section
/-! PURE: WORKING OUT. A state: names (bound, being worked out, VALUE kept), STEPS, FAILURES, THE STORE. A failure is NONE plus its code. -/
abbrev lz_W : Type := (Nat → Bool × Bool × Int64) × Nat × Nat × lz_S
abbrev lz_F : Type := List Int32 → Nat → lz_W → Int64 × lz_W
def lz_nd (t : List Int32) (p : Nat) : Nat := (lz_rd t 8 p).2
def lz_setN (w : lz_W) (i : Nat) (x : Bool × Bool × Int64) : lz_W := (fun j => if j = i then x else w.1 j, w.2)
def lz_name (f : lz_F) (T : Nat → List Int32) (i : Nat) (w : lz_W) : Int64 × lz_W :=
  if (w.1 i).1 = false then (-1000000000004, w)
  else if (w.1 i).2.1 = true then (-1000000000008, w)
  else if ¬ (w.1 i).2.2 = -1000000000000 then ((w.1 i).2.2, w)
  else
    let r := f (T i) 0 (lz_setN w i ((w.1 i).1, true, (w.1 i).2.2))
    (r.1, lz_setN r.2 i ((r.2.1 i).1, false, if lz_bad r.1 = true then (r.2.1 i).2.2 else r.1))
def lz_comb (c x y : Int32) : Int32 := if c = 43 then x + y else if c = 45 then x - y else if c = 42 then x * y else if x < y then 1 else 0
def lz_pair (f : lz_F) (t : List Int32) (p : Nat) (w : lz_W) : Int64 × lz_W :=
  let r := f t (p + 1) w
  if lz_bad r.1 = true then r
  else
    let q := f t (lz_nd t (p + 1)) r.2
    if lz_bad q.1 = true then q
    else if (lz_pl r.1 || lz_pl q.1) = true then (-1000000000005, q.2)
    else ((lz_comb (lz_cd t p) r.1.toInt32 q.1.toInt32).toInt64, q.2)
def lz_choice (f : lz_F) (t : List Int32) (p : Nat) (w : lz_W) : Int64 × lz_W :=
  let r := f t (p + 1) w
  if lz_bad r.1 = true then r
  else if lz_pl r.1 = true then (-1000000000005, r.2)
  else f t (if ¬ r.1 = 0 then lz_nd t (p + 1) else lz_nd t (lz_nd t (p + 1))) r.2
def lz_abort (f : lz_F) (t : List Int32) (p : Nat) (w : lz_W) : Int64 × lz_W :=
  let r := f t (p + 1) w
  if lz_bad r.1 = true then r else (-1000000000006, r.2)
def lz_good (v : Int64) : Bool := decide (v = -1000000000004) || decide (v = -1000000000005) || decide (v = -1000000000006) || decide (v = -1000000000007)
def lz_try (f : lz_F) (t : List Int32) (p : Nat) (w : lz_W) : Int64 × lz_W :=
  let r := f t (p + 1) w
  if lz_good r.1 = false then r else f t (lz_nd t (p + 1)) (r.2.1, r.2.2.1, r.2.2.2.1 + 1, r.2.2.2.2)
/-- the list of a D: what it came to, the INPUTS, the state -/
def lz_list (f : lz_F) (t : List Int32) : Nat → Nat → List Int64 → lz_W → Int64 × List Int64 × lz_W
  | 0, _, vs, w => (0, vs, w)
  | n + 1, p, vs, w =>
    if lz_cd t p = 41 then (0, vs, w)
    else if lz_bad (f t p w).1 = true then ((f t p w).1, vs, (f t p w).2)
    else lz_list f t n (lz_nd t p) (vs ++ [(f t p w).1]) (f t p w).2
def lz_plan (f : lz_F) (t : List Int32) (p : Nat) (w : lz_W) : Int64 × lz_W :=
  let r := lz_list f t 4 (p + 3) [] w
  if lz_bad r.1 = true then (r.1, r.2.2)
  else ((lz_of r.2.2.2.2.2 (lz_cd t (p + 1) - 48) r.2.1).1, (r.2.2.1, r.2.2.2.1, r.2.2.2.2.1, (lz_of r.2.2.2.2.2 (lz_cd t (p + 1) - 48) r.2.1).2))
def lz_result (f : lz_F) (t : List Int32) (p : Nat) (w : lz_W) : Int64 × lz_W :=
  let r := f t (p + 1) w
  if lz_bad r.1 = true then r
  else if lz_pl r.1 = true then ((lz_pt 30 r.2.2.2.2 r.1).1, (r.2.1, r.2.2.1, r.2.2.2.1, (lz_pt 30 r.2.2.2.2 r.1).2))
  else (-1000000000005, r.2)
def lz_body (f : lz_F) (T : Nat → List Int32) (t : List Int32) (p : Nat) (w : lz_W) : Int64 × lz_W :=
  let c := lz_cd t p
  if lz_dg c = true then ((c - 48).toInt64, w)
  else if lz_lt c = true then lz_name f T (c - 97).toNatClampNeg w
  else if c = 63 then lz_choice f t p w
  else if c = 33 then lz_abort f t p w
  else if c = 84 then lz_try f t p w
  else if c = 68 then lz_plan f t p w
  else if c = 79 then lz_result f t p w
  else lz_pair f t p w
/-- an EXPRESSION is worked out; n: more than the STEPS that are left -/
def lz_ev (T : Nat → List Int32) : Nat → lz_F
  | 0, _, _, w => (-1000000000010, w)
  | n + 1, t, p, w => if 200 ≤ w.2.1 then (-1000000000010, w) else lz_body (lz_ev T n) T t p (w.1, w.2.1 + 1, w.2.2)
def lz_okW (T : Nat → List Int32) (w : lz_W) : Prop := (∀ i, i < 8 → ((w.1 i).1 = true → lz_rd (T i) 8 0 = (true, (T i).length)) ∧ ((w.1 i).2.2 = -1000000000000 ∨ lz_V w.2.2.2.2.1 (w.1 i).2.2)) ∧ lz_okS w.2.2.2
/-- what a working out leaves as it was, and what it is -/
def lz_st (T : Nat → List Int32) (c : Nat) (w : lz_W) (r : Int64 × lz_W) : Prop :=
  lz_okW T r.2 ∧ w.2.2.2.2.1 ≤ r.2.2.2.2.2.1 ∧ (lz_bad r.1 = true ∨ lz_V r.2.2.2.2.2.1 r.1) ∧ w.2.1 ≤ r.2.2.1 ∧ r.2.2.2.1 + w.2.1 ≤ w.2.2.1 + r.2.2.1 + c ∧ (∀ i, (r.2.1 i).1 = (w.1 i).1 ∧ (r.2.1 i).2.1 = (w.1 i).2.1) ∧ r.2.2.1 ≤ max 200 w.2.1
def lz_b' (x : Bool) : Nat := if x = true then 1 else 0
end
section
/-! PURE: what working out leaves as it was. -/
theorem lz_rd_op {t : List Int32} {k p e : Nat} (h : lz_rd t (k + 1) p = (true, e)) (hd : lz_dg (lz_cd t p) = false) (hl : lz_lt (lz_cd t p) = false) (h68 : ¬ lz_cd t p = 68) : lz_pa (lz_cd t p) ≠ 0 ∧ k ≠ 0 ∧ lz_ps (lz_rd t k) (lz_pa (lz_cd t p)) (p + 1) = (true, e) := by
  unfold lz_rd at h
  by_cases h1 : t.length ≤ p
  · rw [if_pos h1] at h
    cases h
  rw [if_neg h1, if_neg (by rw [hd, hl]; decide), if_neg h68] at h
  by_cases h4 : lz_pa (lz_cd t p) = 0 ∨ k = 0
  · rw [if_pos h4] at h
    cases h
  rw [if_neg h4] at h
  exact ⟨fun z => h4 (Or.inl z), fun z => h4 (Or.inr z), h⟩
theorem lz_rd_D {t : List Int32} {k p e : Nat} (h : lz_rd t (k + 1) p = (true, e)) (h68 : lz_cd t p = 68) : lz_dg (lz_cd t (p + 1)) = true ∧ lz_cd t (p + 2) = 40 ∧ lz_ls (lz_rd t k) t 4 (p + 3) = (true, e) := by
  unfold lz_rd at h
  by_cases h1 : t.length ≤ p
  · rw [if_pos h1] at h
    cases h
  rw [if_neg h1, if_neg (by rw [h68]; decide), if_pos h68] at h
  by_cases h4 : lz_dg (lz_cd t (p + 1)) = false
  · rw [if_pos h4] at h
    cases h
  rw [if_neg h4] at h
  by_cases h5 : ¬ lz_cd t (p + 2) = 40
  · rw [if_pos h5] at h
    cases h
  rw [if_neg h5] at h
  exact ⟨by simpa using h4, Decidable.not_not.mp h5, h⟩
theorem lz_ps_s {f : Nat → Bool × Nat} {n p e : Nat} (h : lz_ps f (n + 1) p = (true, e)) : f p = (true, (f p).2) ∧ lz_ps f n (f p).2 = (true, e) := by
  unfold lz_ps at h
  by_cases hc : (f p).1 = true
  · rw [if_pos hc] at h
    exact ⟨Prod.ext hc rfl, h⟩
  · rw [if_neg hc] at h
    rw [h] at hc
    exact absurd rfl hc
theorem lz_ps_0 {f : Nat → Bool × Nat} {p e : Nat} (h : lz_ps f 0 p = (true, e)) : p = e := by
  simp only [lz_ps, Prod.mk.injEq, true_and] at h
  exact h
theorem lz_ls_s {f : Nat → Bool × Nat} {t : List Int32} {n p e : Nat} (h : lz_ls f t (n + 1) p = (true, e)) (hc : ¬ lz_cd t p = 41) : f p = (true, (f p).2) ∧ lz_ls f t n (f p).2 = (true, e) := by
  unfold lz_ls at h
  rw [if_neg hc] at h
  by_cases hd : (f p).1 = true
  · rw [if_pos hd] at h
    exact ⟨Prod.ext hd rfl, h⟩
  · rw [if_neg hd] at h
    rw [h] at hd
    exact absurd rfl hd
theorem lz_nd_eq {t : List Int32} {k p e : Nat} (hk : k ≤ 8) (h : lz_rd t k p = (true, e)) : lz_nd t p = e := by
  unfold lz_nd
  rw [lz_rd_m hk h]
theorem lz_rd_nd {t : List Int32} {k p : Nat} (hk : k ≤ 8) (h : lz_rd t k p = (true, (lz_rd t k p).2)) : lz_rd t k p = (true, lz_nd t p) := by
  rw [lz_nd_eq hk h]
  exact h
section EVO
variable {T : Nat → List Int32}
theorem lz_st.rf {w : lz_W} {v : Int64} (h : lz_okW T w) (hv : lz_bad v = true ∨ lz_V w.2.2.2.2.1 v) : lz_st T 0 w (v, w) := ⟨h, Nat.le_refl _, hv, Nat.le_refl _, Nat.le_refl _, fun _ => ⟨rfl, rfl⟩, by omega⟩
theorem lz_st.tr {w : lz_W} {r q : Int64 × lz_W} (h : lz_st T 0 w r) (k : lz_st T 0 r.2 q) : lz_st T 0 w q := by
  obtain ⟨h1, h2, h3, h4, h5, h6, h7⟩ := h
  obtain ⟨k1, k2, k3, k4, k5, k6, k7⟩ := k
  exact ⟨k1, by omega, k3, by omega, by omega, fun i => ⟨(k6 i).1.trans (h6 i).1, (k6 i).2.trans (h6 i).2⟩, by omega⟩
/-- another VALUE at the end -/
theorem lz_st.val {w : lz_W} {r : Int64 × lz_W} {v : Int64} (h : lz_st T 0 w r) (hv : lz_bad v = true ∨ lz_V r.2.2.2.2.2.1 v) : lz_st T 0 w (v, r.2) := ⟨h.1, h.2.1, hv, h.2.2.2⟩
theorem lz_okW.mono {w : lz_W} {S : lz_S} (h : lz_okW T w) (hS : lz_okS S) (hn : w.2.2.2.2.1 ≤ S.2.1) : lz_okW T (w.1, w.2.1, w.2.2.1, S) := ⟨fun i hi => ⟨(h.1 i hi).1, (h.1 i hi).2.imp id (fun z => z.mono hn)⟩, hS⟩
def lz_fok (T : Nat → List Int32) (f : lz_F) : Prop := ∀ (t : List Int32) (p k e : Nat) (w : lz_W), k ≤ 8 → lz_rd t k p = (true, e) → lz_okW T w → lz_st T 0 w (f t p w)
theorem lz_name_st {f : lz_F} (hf : lz_fok T f) {i : Nat} (hi : i < 8) {w : lz_W} (hw : lz_okW T w) : lz_st T 0 w (lz_name f T i w) := by
  unfold lz_name
  by_cases h1 : (w.1 i).1 = false
  · rw [if_pos h1]
    exact lz_st.rf hw (Or.inl (by decide))
  rw [if_neg h1]
  by_cases h2 : (w.1 i).2.1 = true
  · rw [if_pos h2]
    exact lz_st.rf hw (Or.inl (by decide))
  rw [if_neg h2]
  by_cases h3 : ¬ (w.1 i).2.2 = -1000000000000
  · rw [if_pos h3]
    exact lz_st.rf hw (Or.inr ((hw.1 i hi).2.resolve_left h3))
  rw [if_neg h3]
  have hb : (w.1 i).1 = true := by simpa using h1
  obtain ⟨w1, ew⟩ : ∃ w1, w1 = lz_setN w i ((w.1 i).1, true, (w.1 i).2.2) := ⟨_, rfl⟩
  have hw1 : lz_okW T w1 := by
    subst ew
    refine ⟨fun j hj => ?_, hw.2⟩
    by_cases hij : j = i
    · subst hij
      simp only [lz_setN, if_true]
      exact hw.1 j hj
    · simp only [lz_setN, if_neg hij]
      exact hw.1 j hj
  have g := hf (T i) 0 8 _ w1 (Nat.le_refl _) ((hw.1 i hi).1 hb) hw1
  rw [← ew]
  simp only
  obtain ⟨r, er⟩ : ∃ r, r = f (T i) 0 w1 := ⟨_, rfl⟩
  rw [← er] at g ⊢
  obtain ⟨g1, g2, g3, g4, g5, g6, g7⟩ := g
  have e1 : w1.2 = w.2 := by rw [ew]; rfl
  refine ⟨⟨fun j hj => ?_, g1.2⟩, ?_, g3, ?_, ?_, fun j => ?_, ?_⟩
  · by_cases hij : j = i
    · subst hij
      simp only [lz_setN, if_true]
      refine ⟨(g1.1 j hj).1, ?_⟩
      by_cases hbad : lz_bad r.1 = true
      · rw [if_pos hbad]
        exact (g1.1 j hj).2
      · rw [if_neg hbad]
        exact Or.inr (g3.resolve_left hbad)
    · simp only [lz_setN, if_neg hij]
      exact g1.1 j hj
  · rw [← e1]
    exact g2
  · rw [← e1]
    exact g4
  · rw [← e1]
    exact g5
  · by_cases hij : j = i
    · subst hij
      simp only [lz_setN, if_true]
      refine ⟨(g6 j).1.trans ?_, ?_⟩
      · rw [ew]
        simp [lz_setN]
      · exact (Bool.eq_false_iff.mpr h2).symm
    · simp only [lz_setN, if_neg hij]
      rw [ew] at g6
      have := g6 j
      simp only [lz_setN, if_neg hij] at this
      exact this
  · rw [← e1]
    exact g7
theorem lz_st.up {w : lz_W} {r : Int64 × lz_W} (h : lz_st T 0 w r) : lz_st T 1 w r := ⟨h.1, h.2.1, h.2.2.1, h.2.2.2.1, by have := h.2.2.2.2.1; omega, h.2.2.2.2.2⟩
theorem lz_st.step {w : lz_W} {r : Int64 × lz_W} (h : lz_st T 1 (w.1, w.2.1 + 1, w.2.2) r) (hs : ¬ 200 ≤ w.2.1) : lz_st T 0 w r := by
  obtain ⟨h1, h2, h3, h4, h5, h6, h7⟩ := h
  simp only at h2 h4 h5 h6 h7
  exact ⟨h1, h2, h3, by omega, by omega, h6, by omega⟩
theorem lz_of_st {S : lz_S} (h : lz_okS S) {m : Nat} (hm : m < 10) {vs : List Int64} (hl : vs.length ≤ 4) (hv : ∀ v ∈ vs, lz_V S.2.1 v) : lz_okS (lz_of S (nI m) vs).2 ∧ S.2.1 ≤ (lz_of S (nI m) vs).2.2.1 ∧ (lz_bad (lz_of S (nI m) vs).1 = true ∨ lz_V (lz_of S (nI m) vs).2.2.1 (lz_of S (nI m) vs).1) := by
  unfold lz_of
  cases hf : lz_fi (lz_al S (nI m) vs) S.2.1 0 with
  | some i =>
    have := lz_fi_lt _ _ _ hf
    exact ⟨h, Nat.le_refl _, Or.inr (Or.inr ⟨i, by omega, rfl⟩)⟩
  | none =>
    by_cases h30 : 30 ≤ S.2.1
    · simp only [if_pos h30]
      exact ⟨h, Nat.le_refl _, Or.inl (by decide)⟩
    · simp only [if_neg h30]
      refine ⟨⟨by show S.2.1 + 1 ≤ 30; omega, fun i hi => ?_, h.2.2⟩, Nat.le_succ _, Or.inr (Or.inr ⟨S.2.1, Nat.lt_succ_self _, rfl⟩)⟩
      have hi : i < S.2.1 + 1 := hi
      by_cases hi2 : i = S.2.1
      · simp only [if_pos hi2]
        subst hi2
        exact ⟨hl, hv, ⟨m, hm, rfl⟩, fun _ => rfl⟩
      · simp only [if_neg hi2]
        exact h.2.1 i (by omega)
theorem lz_dg_n {c : Int32} (h : lz_dg c = true) : ∃ m : Nat, m < 10 ∧ c - 48 = nI m ∧ c = nI (m + 48) := by
  unfold lz_dg at h
  simp only [Bool.and_eq_true, decide_eq_true_eq] at h
  obtain ⟨j, hj, e⟩ := nI_of2 (x := c) (M := 57) (n := 57) rfl (fun z => by
    have h1 := Int32.le_iff_toInt_le.mp h.1
    have h2 := Int32.lt_iff_toInt_lt.mp z
    rw [show (48 : Int32).toInt = 48 from rfl] at h1
    rw [show (0 : Int32).toInt = 0 from rfl] at h2
    omega) h.2
  subst e
  have h48 : 48 ≤ j := (nI_leI (a := 48) (by omega) (by omega)).mp h.1
  exact ⟨j - 48, by omega, pk_sub (b := 48) h48, by rw [show j - 48 + 48 = j by omega]⟩
theorem lz_lt_n {c : Int32} (h : lz_lt c = true) : ∃ m : Nat, m < 8 ∧ c - 97 = nI m ∧ c = nI (m + 97) := by
  unfold lz_lt at h
  simp only [Bool.and_eq_true, decide_eq_true_eq] at h
  obtain ⟨j, hj, e⟩ := nI_of2 (x := c) (M := 105) (n := 105) rfl (fun z => by
    have h1 := Int32.le_iff_toInt_le.mp h.1
    have h2 := Int32.lt_iff_toInt_lt.mp z
    rw [show (97 : Int32).toInt = 97 from rfl] at h1
    rw [show (0 : Int32).toInt = 0 from rfl] at h2
    omega) (Int32.le_of_lt h.2)
  subst e
  have h97 : 97 ≤ j := (nI_leI (a := 97) (by omega) (by omega)).mp h.1
  have h105 : j < 105 := (nI_ltI (b := 105) (by omega) (by omega)).mp h.2
  exact ⟨j - 97, by omega, pk_sub (b := 97) h97, by rw [show j - 97 + 97 = j by omega]⟩
theorem lz_list_st {f : lz_F} (hf : lz_fok T f) {t : List Int32} {k : Nat} (hk : k ≤ 8) : ∀ (n p e : Nat) (vs : List Int64) (w : lz_W), lz_ls (lz_rd t k) t n p = (true, e) → vs.length + n ≤ 4 → (∀ v ∈ vs, lz_V w.2.2.2.2.1 v) → lz_okW T w →
    lz_st T 0 w (-1000000000010, (lz_list f t n p vs w).2.2) ∧ (lz_list f t n p vs w).2.1.length ≤ 4 ∧ (∀ v ∈ (lz_list f t n p vs w).2.1, lz_V (lz_list f t n p vs w).2.2.2.2.2.2.1 v) := by
  intro n
  induction n with
  | zero =>
    intro p e vs w h hl hv hw
    exact ⟨lz_st.rf hw (Or.inl (by decide)), hl, hv⟩
  | succ n ih =>
    intro p e vs w h hl hv hw
    unfold lz_list
    by_cases hc : lz_cd t p = 41
    · rw [if_pos hc]
      exact ⟨lz_st.rf hw (Or.inl (by decide)), by simp only; omega, hv⟩
    rw [if_neg hc]
    obtain ⟨g1, g2⟩ := lz_ls_s h hc
    have s1 := hf t p k _ w hk g1 hw
    have hmono : ∀ v ∈ vs, lz_V (f t p w).2.2.2.2.2.1 v := fun v hx => (hv v hx).mono s1.2.1
    by_cases hb : lz_bad (f t p w).1 = true
    · rw [if_pos hb]
      exact ⟨s1.val (Or.inl (by decide)), by simp only; omega, hmono⟩
    rw [if_neg hb]
    rw [← lz_nd_eq hk g1] at g2
    obtain ⟨q1, q2, q3⟩ := ih (lz_nd t p) e (vs ++ [(f t p w).1]) (f t p w).2 g2 (by rw [List.length_append]; simp only [List.length_cons, List.length_nil]; omega) (fun v hx => by
      rcases List.mem_append.mp hx with z | z
      · exact hmono v z
      · rw [List.mem_singleton.mp z]
        exact s1.2.2.1.resolve_left hb) s1.1
    exact ⟨s1.tr q1, q2, q3⟩
theorem lz_body_st {f : lz_F} (hf : lz_fok T f) {t : List Int32} {p k e : Nat} {w : lz_W} (hk : k ≤ 8) (h : lz_rd t k p = (true, e)) (hw : lz_okW T w) (h84 : ¬ lz_cd t p = 84) : lz_st T 0 w (lz_body f T t p w) := by
  obtain ⟨k, rfl⟩ : ∃ k', k = k' + 1 := by
    cases k with
    | zero =>
      simp [lz_rd] at h
    | succ k => exact ⟨k, rfl⟩
  unfold lz_body
  simp only
  by_cases h1 : lz_dg (lz_cd t p) = true
  · rw [if_pos h1]
    exact lz_st.rf hw (Or.inr (Or.inl ⟨_, rfl⟩))
  rw [if_neg h1]
  by_cases h2 : lz_lt (lz_cd t p) = true
  · rw [if_pos h2]
    obtain ⟨m, m1, m2, -⟩ := lz_lt_n h2
    rw [m2, nI_clamp (by omega)]
    exact lz_name_st hf m1 hw
  rw [if_neg h2]
  have h1' : lz_dg (lz_cd t p) = false := by simpa using h1
  have h2' : lz_lt (lz_cd t p) = false := by simpa using h2
  have hk' : k ≤ 8 := by omega
  by_cases h68 : lz_cd t p = 68
  · rw [h68, if_neg (by decide), if_neg (by decide), if_neg (by decide), if_pos rfl]
    obtain ⟨g1, g2, g3⟩ := lz_rd_D h h68
    obtain ⟨m, m1, m2, -⟩ := lz_dg_n g1
    obtain ⟨q1, q2, q3⟩ := lz_list_st hf hk' 4 (p + 3) e [] w g3 (by simp) (fun v hv => by cases hv) hw
    unfold lz_plan
    simp only
    by_cases hb : lz_bad (lz_list f t 4 (p + 3) [] w).1 = true
    · rw [if_pos hb]
      exact q1.val (Or.inl hb)
    rw [if_neg hb, m2]
    obtain ⟨z1, z2, z3⟩ := lz_of_st q1.1.2 m1 q2 q3
    obtain ⟨a1, a2, a3, a4, a5, a6, a7⟩ := q1
    exact ⟨a1.mono z1 z2, Nat.le_trans a2 z2, z3, a4, a5, a6, a7⟩
  obtain ⟨g1, g2, g3⟩ := lz_rd_op h h1' h2' h68
  obtain ⟨n, hn⟩ : ∃ n, lz_pa (lz_cd t p) = n + 1 := ⟨lz_pa (lz_cd t p) - 1, by omega⟩
  rw [hn] at g3
  obtain ⟨f1, f2⟩ := lz_ps_s g3
  rw [← lz_nd_eq hk' f1] at f2
  have s1 := hf t (p + 1) k _ w hk' f1 hw
  by_cases h63 : lz_cd t p = 63
  · rw [if_pos h63]
    unfold lz_choice
    simp only
    by_cases hb : lz_bad (f t (p + 1) w).1 = true
    · rw [if_pos hb]
      exact s1
    rw [if_neg hb]
    by_cases hp : lz_pl (f t (p + 1) w).1 = true
    · rw [if_pos hp]
      exact s1.val (Or.inl (by decide))
    rw [if_neg hp]
    have hn3 : n = 2 := by
      rw [h63] at hn
      have : lz_pa 63 = 3 := by decide
      omega
    subst hn3
    obtain ⟨f3, f4⟩ := lz_ps_s f2
    by_cases hz : ¬ (f t (p + 1) w).1 = 0
    · rw [if_pos hz]
      exact s1.tr (hf t _ k _ _ hk' f3 s1.1)
    · rw [if_neg hz]
      rw [← lz_nd_eq hk' f3] at f4
      obtain ⟨f5, f6⟩ := lz_ps_s f4
      exact s1.tr (hf t _ k _ _ hk' f5 s1.1)
  rw [if_neg h63]
  by_cases h33 : lz_cd t p = 33
  · rw [if_pos h33]
    unfold lz_abort
    simp only
    by_cases hb : lz_bad (f t (p + 1) w).1 = true
    · rw [if_pos hb]
      exact s1
    rw [if_neg hb]
    exact s1.val (Or.inl (by decide))
  rw [if_neg h33]
  rw [if_neg h84, if_neg h68]
  by_cases h79 : lz_cd t p = 79
  · rw [if_pos h79]
    unfold lz_result
    simp only
    by_cases hb : lz_bad (f t (p + 1) w).1 = true
    · rw [if_pos hb]
      exact s1
    rw [if_neg hb]
    by_cases hp : lz_pl (f t (p + 1) w).1 = true
    · rw [if_pos hp]
      obtain ⟨a1, a2, a3, a4, a5, a6, a7⟩ := s1
      have e1 := (lz_pt_sm 30 (f t (p + 1) w).2.2.2.2 (f t (p + 1) w).1).1
      refine ⟨a1.mono (lz_pt_ok _ _ _ a1.2) (Nat.le_of_eq e1.symm), ?_, ?_, a4, a5, a6, a7⟩
      · show _ ≤ (lz_pt 30 (f t (p + 1) w).2.2.2.2 (f t (p + 1) w).1).2.2.1
        rw [e1]
        exact a2
      · rcases lz_pt_nb 30 a1.2 (a3.resolve_left hb) (fun j hj _ => hj) with ⟨x, ex⟩ | ex
        · exact Or.inr (Or.inl ⟨x, ex⟩)
        · refine Or.inl ?_
          show lz_bad (lz_pt 30 (f t (p + 1) w).2.2.2.2 (f t (p + 1) w).1).1 = true
          rw [ex]
          decide
    · rw [if_neg hp]
      exact s1.val (Or.inl (by decide))
  rw [if_neg h79]
  unfold lz_pair
  simp only
  by_cases hb : lz_bad (f t (p + 1) w).1 = true
  · rw [if_pos hb]
    exact s1
  rw [if_neg hb]
  have hn3 : n = 1 := by
    unfold lz_pa at hn g1
    by_cases c1 : lz_cd t p = 33 ∨ lz_cd t p = 79
    · rcases c1 with c1 | c1
      · exact absurd c1 h33
      · exact absurd c1 h79
    rw [if_neg c1] at hn g1
    by_cases c2 : lz_cd t p = 43 ∨ lz_cd t p = 45 ∨ lz_cd t p = 42 ∨ lz_cd t p = 60 ∨ lz_cd t p = 84
    · rw [if_pos c2] at hn
      omega
    · rw [if_neg c2, if_neg h63] at g1
      exact absurd rfl g1
  subst hn3
  obtain ⟨f3, f4⟩ := lz_ps_s f2
  have s2 := s1.tr (hf t _ k _ _ hk' f3 s1.1)
  by_cases hb2 : lz_bad (f t (lz_nd t (p + 1)) (f t (p + 1) w).2).1 = true
  · rw [if_pos hb2]
    exact s2
  rw [if_neg hb2]
  split
  · exact s2.val (Or.inl (by decide))
  · exact s2.val (Or.inr (Or.inl ⟨_, rfl⟩))
theorem lz_body_stT {f : lz_F} (hf : lz_fok T f) {t : List Int32} {p k e : Nat} {w : lz_W} (hk : k ≤ 8) (h : lz_rd t k p = (true, e)) (hw : lz_okW T w) (h84 : lz_cd t p = 84) : lz_st T 1 w (lz_body f T t p w) := by
  obtain ⟨k, rfl⟩ : ∃ k', k = k' + 1 := by
    cases k with
    | zero =>
      simp [lz_rd] at h
    | succ k => exact ⟨k, rfl⟩
  have hk' : k ≤ 8 := by omega
  obtain ⟨g1, g2, g3⟩ := lz_rd_op h (by rw [h84]; decide) (by rw [h84]; decide) (by rw [h84]; decide)
  rw [h84, show lz_pa 84 = 2 from by decide] at g3
  obtain ⟨f1, f2⟩ := lz_ps_s g3
  rw [← lz_nd_eq hk' f1] at f2
  obtain ⟨f3, f4⟩ := lz_ps_s f2
  have s1 := hf t (p + 1) k _ w hk' f1 hw
  unfold lz_body
  simp only
  rw [h84, if_neg (by decide), if_neg (by decide), if_neg (by decide), if_neg (by decide), if_pos rfl]
  unfold lz_try
  simp only
  by_cases hb : lz_good (f t (p + 1) w).1 = false
  · rw [if_pos hb]
    exact s1.up
  rw [if_neg hb]
  have s2 := hf t _ k _ ((f t (p + 1) w).2.1, (f t (p + 1) w).2.2.1, (f t (p + 1) w).2.2.2.1 + 1, (f t (p + 1) w).2.2.2.2) hk' f3 s1.1
  obtain ⟨a1, a2, a3, a4, a5, a6, a7⟩ := s1
  obtain ⟨b1, b2, b3, b4, b5, b6, b7⟩ := s2
  simp only at b2 b4 b5 b6 b7
  exact ⟨b1, by omega, b3, by omega, by omega, fun i => ⟨(b6 i).1.trans (a6 i).1, (b6 i).2.trans (a6 i).2⟩, by omega⟩
theorem lz_ev_ok : ∀ n, lz_fok T (lz_ev T n) := by
  intro n
  induction n with
  | zero =>
    intro t p k e w hk h hw
    exact lz_st.rf hw (Or.inl (by decide))
  | succ n ih =>
    intro t p k e w hk h hw
    unfold lz_ev
    by_cases hs : 200 ≤ w.2.1
    · rw [if_pos hs]
      exact lz_st.rf hw (Or.inl (by decide))
    · rw [if_neg hs]
      by_cases h84 : lz_cd t p = 84
      · exact (lz_body_stT ih hk h hw h84).step hs
      · exact (lz_body_st ih hk h hw h84).up.step hs
end EVO
end
