/-! CORE: a light logic over the kit. The heap is a partial map from addresses to (kind, values); kinds below 100 are objects of the class of that number, the others arrays. mx_Runs: from here the method comes to its return with r and the heap fin; mx_Ok: it comes to one with Q. -/
abbrev mx_M : Type := MethodName × ByteArray × Nat × Option FieldType
abbrev mx_S : Type := List Cond × List vw_C × (Nat → Option FieldType) × List Cond × List String
abbrev mx_G : Type := (Nat → ClassId) × (Nat → Nat → Nat) × (Nat → ClassId) × Heap
abbrev mx_E : Type := Nat × List Value
abbrev mx_H : Type := (Nat → Option mx_E) × Nat × Nat
def mx_cell (S : mx_S) (G : mx_G) (a : Nat) (x : mx_E) (H : Heap) : Prop :=
  if x.1 < 100 then ∃ r : vw_C, S.2.1[x.1]? = some r ∧ x.2.length = r.2.2 ∧ t_OB a (G.1 x.1) r.2.2 (G.2.1 x.1) H (vp_V x.2)
  else ∃ cell : Cell, H[a]? = some cell ∧ cell.cls = G.2.2.1 x.1 ∧ cell.vm ≠ .unknown ∧ (∀ k, cell.vm ≠ .statics k) ∧ cell.slots = x.2.toArray
theorem mx_cell.kept {S : mx_S} {G : mx_G} {a : Nat} {x : mx_E} {H H1 : Heap} (h : mx_cell S G a x H) (h1 : H1[a]? = H[a]?) : mx_cell S G a x H1 := by
  unfold mx_cell at h ⊢
  by_cases hk : x.1 < 100
  · rw [if_pos hk] at h ⊢
    obtain ⟨r, q1, q2, q3⟩ := h
    exact ⟨r, q1, q2, q3.kept h1⟩
  · rw [if_neg hk] at h ⊢
    obtain ⟨cell, q1, q2⟩ := h
    exact ⟨cell, by rw [h1]; exact q1, q2⟩
theorem mx_cell.lt {S : mx_S} {G : mx_G} {a : Nat} {x : mx_E} {H : Heap} (h : mx_cell S G a x H) : a < H.size := by
  unfold mx_cell at h
  by_cases hk : x.1 < 100
  · rw [if_pos hk] at h
    obtain ⟨r, q1, q2, cell, q3, -⟩ := h
    exact (Array.getElem?_eq_some_iff.mp q3).1
  · rw [if_neg hk] at h
    obtain ⟨cell, q1, q2⟩ := h
    exact (Array.getElem?_eq_some_iff.mp q1).1
theorem mx_cell.obj {S : mx_S} {G : mx_G} {a ci : Nat} {fs : List Value} {H : Heap} (hk : ci < 100) (h : mx_cell S G a (ci, fs) H) : ∃ r : vw_C, S.2.1[ci]? = some r ∧ fs.length = r.2.2 ∧ t_OB a (G.1 ci) r.2.2 (G.2.1 ci) H (vp_V fs) := by
  unfold mx_cell at h
  rw [if_pos hk] at h
  exact h
theorem mx_cell.arr {S : mx_S} {G : mx_G} {a k : Nat} {vs : List Value} {H : Heap} (hk : ¬ k < 100) (h : mx_cell S G a (k, vs) H) : ∃ cell : Cell, H[a]? = some cell ∧ cell.cls = G.2.2.1 k ∧ cell.vm ≠ .unknown ∧ (∀ k, cell.vm ≠ .statics k) ∧ cell.slots = vs.toArray := by
  unfold mx_cell at h
  rw [if_neg hk] at h
  exact h
theorem mx_cell.ofObj {S : mx_S} {G : mx_G} {a ci : Nat} {fs : List Value} {H : Heap} {r : vw_C} (hk : ci < 100) (h1 : S.2.1[ci]? = some r) (h2 : fs.length = r.2.2) (h3 : t_OB a (G.1 ci) r.2.2 (G.2.1 ci) H (vp_V fs)) : mx_cell S G a (ci, fs) H := by
  unfold mx_cell
  rw [if_pos hk]
  exact ⟨r, h1, h2, h3⟩
theorem mx_cell.ofArr {S : mx_S} {G : mx_G} {a k : Nat} {vs : List Value} {H : Heap} {cell : Cell} (hk : ¬ k < 100) (h1 : H[a]? = some cell) (h2 : cell.cls = G.2.2.1 k) (h3 : cell.vm ≠ .unknown) (h4 : ∀ k, cell.vm ≠ .statics k) (h5 : cell.slots = vs.toArray) : mx_cell S G a (k, vs) H := by
  unfold mx_cell
  rw [if_neg hk]
  exact ⟨cell, h1, h2, h3, h4, h5⟩
def mx_R (S : mx_S) (G : mx_G) (hs : mx_H) (H : Heap) : Prop :=
  H.size = hs.2.1 ∧ (∀ (a : Nat) (x : mx_E), hs.1 a = some x → mx_cell S G a x H ∧ (x.1 ≠ 101 → G.2.2.2.size ≤ a)) ∧ (∀ q : Nat, q < G.2.2.2.size → H[q]? = G.2.2.2[q]?) ∧ G.2.2.2.size ≤ H.size
/-- the heap with the cell a changed -/
def mx_st (hs : mx_H) (a : Nat) (x : mx_E) : mx_H := (fun q => if q = a then some x else hs.1 q, hs.2)
/-- the heap with a new cell of n slots -/
def mx_nw (hs : mx_H) (x : mx_E) (n : Nat) : mx_H := (fun q => if q = hs.2.1 then some x else hs.1 q, hs.2.1 + 1, hs.2.2 + n)
theorem mx_R.st {S : mx_S} {G : mx_G} {hs : mx_H} {H H1 : Heap} {a : Nat} {x : mx_E} (h : mx_R S G hs H) (hb : G.2.2.2.size ≤ a) (hc : mx_cell S G a x H1) (hz : H1.size = H.size) (ho : ∀ q : Nat, q ≠ a → H1[q]? = H[q]?) : mx_R S G (mx_st hs a x) H1 := by
  refine ⟨hz.trans h.1, fun b y hy => ?_, fun q hq => ?_, by rw [hz]; exact h.2.2.2⟩
  · by_cases hba : b = a
    · subst hba
      simp only [mx_st, if_true] at hy
      cases hy
      exact ⟨hc, fun _ => hb⟩
    · simp only [mx_st, if_neg hba] at hy
      exact ⟨(h.2.1 b y hy).1.kept (ho b hba), (h.2.1 b y hy).2⟩
  · rw [ho q (by omega)]
    exact h.2.2.1 q hq
theorem mx_R.nw {S : mx_S} {G : mx_G} {hs : mx_H} {H H1 : Heap} {x : mx_E} {n : Nat} (h : mx_R S G hs H) (hc : mx_cell S G H.size x H1) (hz : H1.size = H.size + 1) (ho : ∀ q : Nat, q < H.size → H1[q]? = H[q]?) : mx_R S G (mx_nw hs x n) H1 := by
  have hb := h.2.2.2
  refine ⟨by rw [hz, h.1]; rfl, fun b y hy => ?_, fun q hq => ?_, by omega⟩
  · by_cases hba : b = hs.2.1
    · simp only [mx_nw, if_pos hba] at hy
      cases hy
      rw [hba, ← h.1]
      exact ⟨hc, fun _ => hb⟩
    · simp only [mx_nw, if_neg hba] at hy
      have := h.2.1 b y hy
      exact ⟨this.1.kept (ho b this.1.lt), this.2⟩
  · rw [ho q (by omega)]
    exact h.2.2.1 q hq
def mx_okc (ws : List Cond) (q : vw_C) : Prop := (∀ w ∈ u_ws q.1 q.2.1 q.2.2, w ∈ ws) ∧ (∀ a, a < q.2.2 → ∀ b, b < q.2.2 → a ≠ b → (q.2.1 a).2.1 ≠ (q.2.1 b).2.1) ∧ ∀ k, k < q.2.2 → (parseFieldDescriptor (q.2.1 k).2.2.1).isSome = true
def mx_nest : Cond → Bool
  | .fieldLinkNest .. => true
  | .methodLinkNest .. => true
  | _ => false
def mx_okS (S : mx_S) : Prop := (∀ (ci : Nat) (q : vw_C), S.2.1[ci]? = some q → mx_okc S.1 q) ∧ (∀ w ∈ S.1, goodWord w = true) ∧ S.2.1.length ≤ 100 ∧ (∀ w ∈ S.2.2.2.1, mx_nest w = true) ∧ ∀ (k : Nat) (ty : FieldType), S.2.2.1 k = some ty → ¬ k < 100
def mx_AK (U : State) (c : ClassId) (k : Nat) (ty : FieldType) : Prop := ∃ (kA : Class) (comp : ClassId), U.vm.classes[c]? = some kA ∧ kA.kind = .array comp ty ∧ (k ≠ 101 → U.vm.findClass ("[" ++ ty.toString) = some c) ∧ ∀ C, ty = .object C → U.vm.findClass C = some comp
def mx_K (S : mx_S) (G : mx_G) (U : State) : Prop := mx_okS S ∧ (∀ (c : Nat) (q : vw_C), S.2.1[c]? = some q → u_Kn U q.1 q.2.1 q.2.2 (G.1 c) (G.2.1 c)) ∧ (∀ (k : Nat) (ty : FieldType), S.2.2.1 k = some ty → mx_AK U (G.2.2.1 k) k ty) ∧ (∀ w ∈ S.2.2.2.1, va_Nw w U) ∧ ∀ C ∈ S.2.2.2.2, va_AO C U
theorem mx_AK.moved {u U : State} {c : ClassId} {k : Nat} {ty : FieldType} (hvm : u.vm.Alike U.vm) (h : mx_AK u c k ty) : mx_AK U c k ty := by
  obtain ⟨kA, comp, h1, h2, h3, h4⟩ := h
  obtain ⟨k', hk', he⟩ := hvm.2.2 _ _ h1
  exact ⟨k', comp, hk', by rw [he]; exact h2, fun hk => by rw [hvm.findClass]; exact h3 hk, fun C hC => by rw [hvm.findClass]; exact h4 C hC⟩
theorem mx_AK.arr {U : State} {c : ClassId} {k : Nat} {ty : FieldType} (h : mx_AK U c k ty) {cell : Cell} (hc : cell.cls = c) (hs : ∀ k, cell.vm ≠ .statics k) : U.isArrayOf cell ty := by
  obtain ⟨kA, comp, h1, h2, -⟩ := h
  exact ⟨hs, kA, by rw [hc]; exact h1, comp, h2⟩
def mx_Fix (S : mx_S) (M : mx_M) (p : Program) (s : State) (m : MethodId) (args : Array Value) (meth : Method) (c : Code) : Prop :=
  p.tables.exec = Jvm.exec ∧ c.code = M.2.1 ∧ c.maxLocals = M.2.2.1 ∧ meth.sig.returnType = M.2.2.2 ∧ meth.locks = false ∧ s.vm.findClass M.1.cls = some m.cls ∧ meth.name = M.1.name ∧ ∀ w ∈ S.1, w.before args s = true
def mx_ret (M : mx_M) (pc : Nat) (r : Option Value) : Prop :=
  (∃ (v : Int32) (ty : FieldType), r = some (.int v) ∧ M.2.2.2 = some ty ∧ narrow ty (.int v) = .int v ∧ decode M.2.1 pc = .ok (.ireturn, 1)) ∨
  (∃ v : Int64, r = some (.long v) ∧ M.2.2.2 = some .long ∧ decode M.2.1 pc = .ok (.lreturn, 1)) ∨
  (r = none ∧ M.2.2.2 = none ∧ decode M.2.1 pc = .ok (.return_, 1)) ∨
  (∃ (v : Value) (ty : FieldType), r = some v ∧ M.2.2.2 = some ty ∧ ((∃ n, ty = .object n) ∨ ∃ t, ty = .array t) ∧ (v = .null ∨ ∃ a, v = .ref a) ∧ decode M.2.1 pc = .ok (.areturn, 1))
def mx_Runs (S : mx_S) (l : Launch) (G : mx_G) (d : Nat) (M : mx_M) (pc : Nat) (lv : List (Nat × Value)) (st : List Value) (hs : mx_H) (r : Option Value) (fin : mx_H) : Prop :=
  hs.2.1 ≤ fin.2.1 ∧ hs.2.2 ≤ fin.2.2 ∧ ∀ (p : Program) (e : Env) (R : Room) (s : State) (m : MethodId) (args : Array Value) (below : List Frame) (meth : Method) (c : Code) (H : Heap) (locs : List Loc) (cells slots : Nat) (ls : Array Slot) (Q : State → Prop),
    mx_Fix S M p s m args meth c → mx_K S G s → mx_R S G hs H → lv_has ls M.2.2.1 lv → (∀ q ∈ locs, G.2.2.2.size ≤ q.base) → d ≤ R.frames → 48 * d ≤ R.locals → cells + (fin.2.1 - hs.2.1) ≤ R.cells → slots + (fin.2.2 - hs.2.2) ≤ R.slots →
    (∀ (pc' : Nat) (ls' : Array Slot) (H' : Heap) (locs' : List Loc), mx_R S G fin H' → (∀ q ∈ locs', G.2.2.2.size ≤ q.base) → mx_ret M pc' r → W p l e R s m args below meth c H' locs' (cells + (fin.2.1 - hs.2.1)) (slots + (fin.2.2 - hs.2.2)) Q (F0 m pc' ls' r.toList)) →
    W p l e R s m args below meth c H locs cells slots Q (F0 m pc ls st)
def mx_Ok (S : mx_S) (l : Launch) (G : mx_G) (d : Nat) (M : mx_M) (pc : Nat) (lv : List (Nat × Value)) (st : List Value) (hs : mx_H) (Q : Option Value → mx_H → Prop) : Prop := ∃ (r : Option Value) (fin : mx_H), mx_Runs S l G d M pc lv st hs r fin ∧ Q r fin
/-- a call of a method on these arguments -/
def mx_C (S : mx_S) (l : Launch) (G : mx_G) (d : Nat) (M : mx_M) (args : List Value) (hs : mx_H) (Q : Option Value → mx_H → Prop) : Prop := mx_Ok S l G d M 0 (lv_args 0 args) [] hs Q
section MXA
variable {S : mx_S} {l : Launch} {G : mx_G} {d pc pc' : Nat} {M : mx_M} {lv lv' : List (Nat × Value)} {st st' : List Value} {hs : mx_H} {r : Option Value} {fin : mx_H} {Q : Option Value → mx_H → Prop}
theorem mx_Ok.mono {Q' : Option Value → mx_H → Prop} (h : mx_Ok S l G d M pc lv st hs Q) (hq : ∀ r fin, Q r fin → Q' r fin) : mx_Ok S l G d M pc lv st hs Q' := by
  obtain ⟨r, fin, h1, h2⟩ := h
  exact ⟨r, fin, h1, hq r fin h2⟩
/-- an instruction that touches neither heap nor locals -/
theorem mx_go (f : ∀ (p : Program) (e : Env) (R : Room) (s : State) (m : MethodId) (args : Array Value) (below : List Frame) (meth : Method) (c : Code) (H : Heap) (locs : List Loc) (cells slots : Nat) (ls : Array Slot) (Q : State → Prop), mx_Fix S M p s m args meth c → mx_K S G s → mx_R S G hs H → lv_has ls M.2.2.1 lv → W p l e R s m args below meth c H locs cells slots Q (F0 m pc' ls st') → W p l e R s m args below meth c H locs cells slots Q (F0 m pc ls st))
    (k : mx_Ok S l G d M pc' lv st' hs Q) : mx_Ok S l G d M pc lv st hs Q := by
  obtain ⟨r, fin, ⟨h1, h2, h3⟩, hq⟩ := k
  exact ⟨r, fin, ⟨h1, h2, fun p e R s m args below meth c H locs cells slots ls Q' hF hK hR hl hlo hd hld hc hsl kk => f p e R s m args below meth c H locs cells slots ls Q' hF hK hR hl (h3 p e R s m args below meth c H locs cells slots ls Q' hF hK hR hl hlo hd hld hc hsl kk)⟩, hq⟩
/-- an instruction that writes a local -/
theorem mx_goL (f : ∀ (p : Program) (e : Env) (R : Room) (s : State) (m : MethodId) (args : Array Value) (below : List Frame) (meth : Method) (c : Code) (H : Heap) (locs : List Loc) (cells slots : Nat) (ls : Array Slot) (Q : State → Prop), mx_Fix S M p s m args meth c → lv_has ls M.2.2.1 lv → (∀ ls' : Array Slot, lv_has ls' M.2.2.1 lv' → W p l e R s m args below meth c H locs cells slots Q (F0 m pc' ls' st')) → W p l e R s m args below meth c H locs cells slots Q (F0 m pc ls st))
    (k : mx_Ok S l G d M pc' lv' st' hs Q) : mx_Ok S l G d M pc lv st hs Q := by
  obtain ⟨r, fin, ⟨h1, h2, h3⟩, hq⟩ := k
  exact ⟨r, fin, ⟨h1, h2, fun p e R s m args below meth c H locs cells slots ls Q' hF hK hR hl hlo hd hld hc hsl kk => f p e R s m args below meth c H locs cells slots ls Q' hF hl (fun ls' hl' => h3 p e R s m args below meth c H locs cells slots ls' Q' hF hK hR hl' hlo hd hld hc hsl kk)⟩, hq⟩
theorem mx_sub (ks : List Nat) (hl : lv_pick lv ks = lv') (k : mx_Ok S l G d M pc lv' st hs Q) : mx_Ok S l G d M pc lv st hs Q :=
  mx_goL (fun _ _ _ _ _ _ _ _ _ _ _ _ _ _ _ _ h kk => kk _ (lv_sub h ks hl)) k
/-- the end -/
theorem mx_end (hr : mx_ret M pc r) (hst : st = r.toList) (hq : Q r hs) : mx_Ok S l G d M pc lv st hs Q := by
  subst hst
  refine ⟨r, hs, ⟨Nat.le_refl _, Nat.le_refl _, fun p e R s m args below meth c H locs cells slots ls Q' hF hK hR hl hlo hd hld hc hsl kk => ?_⟩, hq⟩
  have h := kk pc ls H locs hR hlo hr
  rw [Nat.sub_self, Nat.sub_self, Nat.add_zero, Nat.add_zero] at h
  exact h
def mx_Q (S : mx_S) (G : mx_G) (r : Option Value) (fin : mx_H) : Array Value → State → Outcome → State → Prop := fun _ _ o t => o = .returned r ∧ mx_R S G fin t.heap
def mx_ws (S : mx_S) (M : mx_M) : List Cond := Cond.code M.1 M.2.1 M.2.2.1 M.2.2.2 :: S.1
abbrev mx_rm (d mc ms : Nat) : Room := { frames := d, cells := mc, slots := ms, locals := 48 * d }
theorem mx_leave {p : Program} {e : Env} {R : Room} {s : State} {m : MethodId} {args : Array Value} {below : List Frame} {meth : Method} {c : Code} {H : Heap} {locs : List Loc} {cells slots : Nat} {ls : Array Slot} (hF : mx_Fix S M p s m args meth c) (hR : mx_R S G fin H) (hlo : ∀ q ∈ locs, G.2.2.2.size ≤ q.base) (hr : mx_ret M pc r) :
    W p l e R s m args below meth c H locs cells slots (MQ below (mx_Q S G r fin) args s cells slots (fun q => G.2.2.2.size ≤ q)) (F0 m pc ls r.toList) := by
  obtain ⟨hx, hb, hml, hret, hlocks, -⟩ := hF
  have hq : ∀ t : State, t.heap = H → s.WarmedH t.vm → mx_Q S G r fin args s (.returned r) t := fun t ht _ => ⟨rfl, by rw [ht]; exact hR⟩
  rcases hr with ⟨v, ty, rfl, h2, h3, h4⟩ | ⟨v, rfl, h2, h4⟩ | ⟨rfl, h2, h4⟩ | ⟨v, ty, rfl, h2, h3, h5, h4⟩
  · exact W.zret hx hb (hret.trans h2) h3 hq hlo h4 hlocks
  · exact W.lret hx hb (hret.trans h2) hq hlo h4 hlocks
  · exact W.vret hx hb (hret.trans h2) hq hlo h4 hlocks
  · exact W.aret hx hb (hret.trans h2) h3 h5 hq hlo h4 hlocks
theorem mx_met {av : List Value} (hy : plainName M.1.cls = true) (hav : (lg_sl av).length ≤ M.2.2.1) (h : mx_Runs S l G d M 0 (lv_args 0 av) [] hs r fin) :
    Met l M.1 (mx_ws S M) (mx_rm d (fin.2.1 - hs.2.1) (fin.2.2 - hs.2.2)) (va_Pc av (fun U => mx_K S G U ∧ mx_R S G hs U.heap)) (mx_Q S G r fin) (fin.2.1 - hs.2.1) (fin.2.2 - hs.2.2) (fun q => G.2.2.2.size ≤ q) := by
  refine Met.ofW (cc := M.2.1) (maxL := M.2.2.1) (ret := M.2.2.2) hy rfl ?_
  intro p e s m args below meth c s₁ B hml hv
  obtain ⟨rfl, hK, hR⟩ := hv
  have hts := atoms_spec (ws := mx_ws S M) B.pre
  have hF : mx_Fix S M p s m av.toArray meth c := ⟨B.exec, B.bytes, hml, B.returns, B.notSynchronized, findClass_of_methodNamed B.named, (name_of_methodNamed B.named B.method).1, fun w hw => hts w (List.mem_cons_of_mem _ hw)⟩
  have hl := lv_entry av (n := M.2.2.1) hav
  rw [lg_entry_eq]
  generalize (lg_sl av ++ List.replicate (M.2.2.1 - (lg_sl av).length) Slot.unset).toArray = ls at hl ⊢
  refine h.2.2 p e _ s m _ below meth c s.heap [] 0 0 ls _ hF hK hR hl (fun _ h => by cases h) (Nat.le_refl _) (Nat.le_refl _) (by rw [Nat.zero_add]; exact Nat.le_refl _) (by rw [Nat.zero_add]; exact Nat.le_refl _) ?_
  intro pc' ls' H' locs' hR' hlo' hr'
  rw [Nat.zero_add, Nat.zero_add]
  exact mx_leave hF hR' hlo' hr'
/-- behind a call -/
theorem mx_after {p : Program} {e : Env} {R : Room} {s : State} {m : MethodId} {args : Array Value} {below : List Frame} {meth : Method} {c : Code} {H : Heap} {locs : List Loc} {cells slots mc ms : Nat} {ls : Array Slot} {QQ : State → Prop} {rest : List Value} {a : Array Value} {hs1 : mx_H} {r1 : Option Value}
    (hr : va_Run p l e R s m args below meth c H locs cells slots mc ms (F0 m pc ls st) rest (mx_Q S G r1 hs1 a) (fun q => G.2.2.2.size ≤ q)) (hlo : ∀ q ∈ locs, G.2.2.2.size ≤ q.base)
    (kk : ∀ (H1 : Heap) (locs1 : List Loc), mx_R S G hs1 H1 → (∀ q ∈ locs1, G.2.2.2.size ≤ q.base) → W p l e R s m args below meth c H1 locs1 (cells + mc) (slots + ms) QQ (F0 m (pc + 3) ls (r1.toList ++ rest))) : W p l e R s m args below meth c H locs cells slots QQ (F0 m pc ls st) := by
  intro T hT X
  obtain ⟨v, st₀, t, T', L, h0, X', hL, e1, e2, ⟨hv, hR⟩, st⟩ := hr T hT X
  cases hv
  obtain ⟨t2, a1, b1⟩ := kk T'.heap (locs ++ L) (by rw [e1]; exact hR) (fun q hq => by
      rcases List.mem_append.mp hq with h | h
      · exact hlo q h
      · exact hL q h) T' rfl X'
  exact ⟨t2, st t2 a1, b1⟩
theorem mx_K.warm {s U : State} (hW : s.WarmedH U.vm) (h : mx_K S G s) : mx_K S G U := by
  obtain ⟨h0, h1, h2, h3, h4⟩ := h
  refine ⟨h0, fun c q hq => u_Kn_moved hW.alike (h1 c q hq), fun k ty hk => (h2 k ty hk).moved hW.alike, fun w hw => ?_, fun C hC => (h4 C hC).moved hW.alike⟩
  have hx := h3 w hw
  have hy := h0.2.2.2.1 w hw
  cases w <;> first | exact va_Nw.warmF hW hx | exact va_Nw.warmM hW hx | (exact absurd hy (by decide)) | (cases hy)
theorem mx_K.calling {U : State} {g : JFrame} {mk : MethodId} {a : Array Value} (h : mx_K S G U) : mx_K S G (U.calling g mk a) := by
  obtain ⟨h0, h1, h2, h3, h4⟩ := h
  have hA : U.vm.Alike (U.calling g mk a).vm := Vm.Alike.refl U.vm
  refine ⟨h0, fun c q hq => u_Kn_moved hA (h1 c q hq), fun k ty hk => (h2 k ty hk).moved hA, fun w hw => ?_, fun C hC => (h4 C hC).moved hA⟩
  have hx := h3 w hw
  have hy := h0.2.2.2.1 w hw
  exact va_Nw.same (by cases w <;> first | rfl | (exact absurd hy (by decide)) | (cases hy)) (rfl : U.vm = (U.calling g mk a).vm) hx
end MXA
