/-! RULES that read or write the heap. -/
section MXH
variable {S : mx_S} {l : Launch} {G : mx_G} {d pc pc2 : Nat} {M : mx_M} {lv : List (Nat × Value)} {st : List Value} {hs : mx_H} {Q : Option Value → mx_H → Prop} {ix a ci k : Nat} {fs vs : List Value} {q : vw_C} {v : Value} {ty : FieldType} {host : String} {i : Int32}
theorem mx_kin {s : State} (h : mx_K S G s) (hq : S.2.1[ci]? = some q) : ci < 100 := Nat.lt_of_lt_of_le (List.getElem?_eq_some_iff.mp hq).1 h.1.2.2.1
theorem mx_P1 {H : Heap} {s : State} (hK : mx_K S G s) (hR : mx_R S G hs H) (hc : hs.1 a = some (ci, fs)) (hq : S.2.1[ci]? = some q) : va_P (G.1, G.2.1) S.2.1 [(a, .inr (ci, fs))] H := by
  obtain ⟨r, h1, h2, h3⟩ := ((hR.2.1 a _ hc).1).obj (mx_kin hK hq)
  intro k x hx
  have hk : k < 1 := (List.getElem?_eq_some_iff.mp hx).1
  rw [show k = 0 by omega] at hx
  cases hx
  exact ⟨r, h1, h3⟩
theorem mx_K1 {s : State} (hK : mx_K S G s) : va_K (G.1, G.2.1) S.2.1 [] s := ⟨hK.2.1, fun k q h => by simp at h⟩
theorem mx_get (hd : decode M.2.1 pc = .ok (.getfield ix, 3) ∧ pc + 3 = pc2) (hq : S.2.1[ci]? = some q) (hk : k < q.2.2) (hlink : Cond.fieldLink M.1.cls ix (q.2.1 k).1 (q.2.1 k).2.1 (q.2.1 k).2.2.1 ∈ S.1) (hc : hs.1 a = some (ci, fs)) (hv : fs[k]? = some v) (kk : mx_Ok S l G d M pc2 lv (v :: st) hs Q) : mx_Ok S l G d M pc lv (.ref a :: st) hs Q := by
  obtain ⟨hd, rfl⟩ := hd
  exact mx_go (fun _ _ _ _ _ _ _ _ _ _ _ _ _ _ _ hF hK hR hl w => va_get (D := (G.1, G.2.1)) (ci := ci) (v := v) (C := q.1) (T := q.2.1) (N := q.2.2) hF.1 hF.2.1 hF.2.2.2.2.2.2.2 (hK.1.1 ci q hq).1 hF.2.2.2.2.2.1 (mx_K1 hK) (mx_P1 hK hR hc hq) 0 rfl hq k hk (hF.2.2.2.2.2.2.2 _ hlink) (fun _ h9 => h9) hv hd w) kk
theorem mx_getN (hd : decode M.2.1 pc = .ok (.getfield ix, 3) ∧ pc + 3 = pc2) (hq : S.2.1[ci]? = some q) (hk : k < q.2.2) (hlink : Cond.fieldLinkNest M.1.cls ix (q.2.1 k).1 (q.2.1 k).2.1 (q.2.1 k).2.2.1 host ∈ S.2.2.2.1) (hc : hs.1 a = some (ci, fs)) (hv : fs[k]? = some v) (kk : mx_Ok S l G d M pc2 lv (v :: st) hs Q) : mx_Ok S l G d M pc lv (.ref a :: st) hs Q := by
  obtain ⟨hd, rfl⟩ := hd
  exact mx_go (fun _ _ _ _ _ _ _ _ _ _ _ _ _ _ _ hF hK hR hl w => va_getN (D := (G.1, G.2.1)) (ci := ci) (v := v) (C := q.1) (T := q.2.1) (N := q.2.2) (host := host) hF.1 hF.2.1 hF.2.2.2.2.2.2.2 (hK.1.1 ci q hq).1 hF.2.2.2.2.2.1 (mx_K1 hK) (mx_P1 hK hR hc hq) 0 rfl hq k hk (va_Nw.use rfl (hK.2.2.2.1 _ hlink)) (fun _ h9 => h9) hv hd w) kk
/-- a step that changes the cell a, and no other -/
theorem mx_goS {st' : List Value} {x x0 : mx_E} (hc : hs.1 a = some x0) (hx : x0.1 ≠ 101)
    (f : ∀ (p : Program) (e : Env) (R : Room) (s : State) (m : MethodId) (args : Array Value) (below : List Frame) (meth : Method) (c : Code) (H : Heap) (locs : List Loc) (cells slots : Nat) (ls : Array Slot) (Q : State → Prop), mx_Fix S M p s m args meth c → mx_K S G s → mx_R S G hs H → lv_has ls M.2.2.1 lv → 
      (∀ (H1 : Heap) (locs1 : List Loc), mx_cell S G a x H1 → H1.size = H.size → (∀ q : Nat, q ≠ a → H1[q]? = H[q]?) → (∀ y ∈ locs1, y ∈ locs ∨ y.base = a) → W p l e R s m args below meth c H1 locs1 cells slots Q (F0 m pc2 ls st')) → 1 ≤ d → d ≤ R.frames → 48 * d ≤ R.locals → W p l e R s m args below meth c H locs cells slots Q (F0 m pc ls st))
    (hd1 : 1 ≤ d) (kk : mx_Ok S l G d M pc2 lv st' (mx_st hs a x) Q) : mx_Ok S l G d M pc lv st hs Q := by
  obtain ⟨r, fin, ⟨h1, h2, h3⟩, hq⟩ := kk
  refine ⟨r, fin, ⟨h1, h2, fun p e R s m args below meth c H locs cells slots ls Q' hF hK hR hl hlo hd hld hcc hsl kk => ?_⟩, hq⟩
  have hb := (hR.2.1 a _ hc).2 hx
  refine f p e R s m args below meth c H locs cells slots ls Q' hF hK hR hl (fun H1 locs1 e1 e2 e3 e4 => ?_) hd1 hd hld
  exact h3 p e R s m args below meth c H1 locs1 cells slots ls Q' hF hK (hR.st hb e1 e2 e3) hl (fun y hy => by
    rcases e4 y hy with h | h
    · exact hlo y h
    · rw [h]; exact hb) hd hld hcc hsl kk
theorem mx_putC {s : State} {args : Array Value} {H1 : Heap} {cell : Cell} {f : Nat} (hK : mx_K S G s) (hts : ∀ w ∈ S.1, w.before args s = true) (hq : S.2.1[ci]? = some q) (hk : k < q.2.2) (hlen : fs.length = q.2.2) (q2 : cell.cls = G.1 ci) (q3 : cell.vm = .none) (q4 : ∀ j, j < q.2.2 → cell.slots[G.2.1 ci j]? = some (vp_V fs j)) (hf : f = G.2.1 ci k) (e1 : H1[a]? = some (cell.setSlot f v)) : mx_cell S G a (ci, fs.set k v) H1 := by
  subst hf
  have hall : ∀ j, ∃ t, j < q.2.2 → parseFieldDescriptor (q.2.1 j).2.2.1 = some t := fun j => by
    by_cases hj : j < q.2.2
    · obtain ⟨t, ht⟩ := Option.isSome_iff_exists.mp ((hK.1.1 ci q hq).2.2 j hj)
      exact ⟨t, fun _ => ht⟩
    · exact ⟨.int, fun h => absurd h hj⟩
  have hap := va_apart (own := q.1) (N := q.2.2) (T := q.2.1) (C := q.1) hts (hK.1.1 ci q hq).1 (fun j => Classical.choose (hall j)) (fun j hj => Classical.choose_spec (hall j) hj) (hK.1.1 ci q hq).2.1 (mx_K1 hK) hq
  exact mx_cell.ofObj (mx_kin hK hq) hq (by rw [List.length_set]; exact hlen) (t_OB.to (V := updV (vp_V fs) k v) ⟨_, e1, q2, q3, t_set q4 hap hk v⟩ (fun j _ => vp_updV_set (by omega) v j))
theorem mx_put (hd : decode M.2.1 pc = .ok (.putfield ix, 3) ∧ pc + 3 = pc2) (hq : S.2.1[ci]? = some q) (hk : k < q.2.2) (hlink : Cond.fieldLink M.1.cls ix (q.2.1 k).1 (q.2.1 k).2.1 (q.2.1 k).2.2.1 ∈ S.1) (hfin : (q.2.1 k).2.2.2 = false) (hty : parseFieldDescriptor (q.2.1 k).2.2.1 = some ty) (hn : narrow ty v = v) (hfit : fits ty v = true) (hd1 : 1 ≤ d) (hc : hs.1 a = some (ci, fs)) (kk : mx_Ok S l G d M pc2 lv st (mx_st hs a (ci, fs.set k v)) Q) : mx_Ok S l G d M pc lv (v :: .ref a :: st) hs Q := by
  obtain ⟨hd, rfl⟩ := hd
  by_cases hci : ci = 101
  · obtain ⟨r, fin, ⟨h1, h2, h3⟩, hqf⟩ := kk
    refine ⟨r, fin, ⟨h1, h2, fun p e R s m args below meth c H locs cells slots ls Q' hF hK hR hl hlo hd hld hcc hsl kk => ?_⟩, hqf⟩
    have := mx_kin hK hq
    omega
  refine mx_goS hc hci (fun p e R s m args below meth c H locs cells slots ls Q' hF hK hR hl w _ _ _ => ?_) hd1 kk
  have hts := hF.2.2.2.2.2.2.2
  obtain ⟨r, h1, hlen, cell, q1, q2, q3, q4⟩ := ((hR.2.1 a _ hc).1).obj (mx_kin hK hq)
  cases h1.symm.trans hq
  obtain ⟨hS, hfc, kC, hkC, hkind⟩ := hK.2.1 ci _ hq
  obtain ⟨cf, kf, fi, f, hi, hsl⟩ := hS k hk
  have hlay := hts _ ((hK.1.1 ci q hq).1 _ (u_in_lay hk))
  unfold u_lay at hlay
  rw [if_neg (by rw [hfin]; decide)] at hlay
  have hst := (u_facts hfc hkC (u_lays hts (hK.1.1 ci q hq).1 hk) hi).1
  have h6 := u_store hfc hkC hkind hlay hi hty hn hfit
  refine W.putK hF.1 hF.2.1 (f := f) ⟨hF.2.2.2.2.2.1, hts _ hlink, ⟨_, _, _, hi⟩, hst⟩ (by rw [q2]; exact h6) q1 q3 (by rw [hsl]; exact k2_hasslot (q4 k hk)) rfl rfl hd fun H' e1 e2 e3 => ?_
  refine w H' _ (mx_putC hK hts hq hk hlen q2 q3 q4 hsl e1) e2 e3 (fun y hy => ?_)
  rcases List.mem_append.mp hy with h | h
  · exact Or.inl h
  · rw [List.mem_singleton.mp h]; exact Or.inr rfl
theorem mx_putN (hd : decode M.2.1 pc = .ok (.putfield ix, 3) ∧ pc + 3 = pc2) (hq : S.2.1[ci]? = some q) (hk : k < q.2.2) (hlink : Cond.fieldLinkNest M.1.cls ix (q.2.1 k).1 (q.2.1 k).2.1 (q.2.1 k).2.2.1 host ∈ S.2.2.2.1) (hfin : (q.2.1 k).2.2.2 = false) (hty : parseFieldDescriptor (q.2.1 k).2.2.1 = some ty) (hn : narrow ty v = v) (hfit : fits ty v = true) (hd1 : 1 ≤ d) (hc : hs.1 a = some (ci, fs)) (kk : mx_Ok S l G d M pc2 lv st (mx_st hs a (ci, fs.set k v)) Q) : mx_Ok S l G d M pc lv (v :: .ref a :: st) hs Q := by
  obtain ⟨hd, rfl⟩ := hd
  by_cases hci : ci = 101
  · obtain ⟨r, fin, ⟨h1, h2, h3⟩, hqf⟩ := kk
    refine ⟨r, fin, ⟨h1, h2, fun p e R s m args below meth c H locs cells slots ls Q' hF hK hR hl hlo hd hld hcc hsl kk => ?_⟩, hqf⟩
    have := mx_kin hK hq
    omega
  refine mx_goS hc hci (fun p e R s m args below meth c H locs cells slots ls Q' hF hK hR hl w _ _ _ => ?_) hd1 kk
  have hts := hF.2.2.2.2.2.2.2
  obtain ⟨r, h1, hlen, cell, q1, q2, q3, q4⟩ := ((hR.2.1 a _ hc).1).obj (mx_kin hK hq)
  cases h1.symm.trans hq
  obtain ⟨hS, hfc, kC, hkC, hkind⟩ := hK.2.1 ci _ hq
  obtain ⟨cf, kf, fi, f, hi, hsl⟩ := hS k hk
  have hlay := hts _ ((hK.1.1 ci q hq).1 _ (u_in_lay hk))
  unfold u_lay at hlay
  rw [if_neg (by rw [hfin]; decide)] at hlay
  have hst := (u_facts hfc hkC (u_lays hts (hK.1.1 ci q hq).1 hk) hi).1
  have h6 := u_store hfc hkC hkind hlay hi hty hn hfit
  refine va_WputK hF.1 hF.2.1 (f := f) hF.2.2.2.2.2.1 (va_Nw.use rfl (hK.2.2.2.1 _ hlink)) hi hst (by rw [q2]; exact h6) q1 q3 (by rw [hsl]; exact k2_hasslot (q4 k hk)) rfl rfl hd fun H' e1 e2 e3 => ?_
  refine w H' _ (mx_putC hK hts hq hk hlen q2 q3 q4 hsl e1) e2 e3 (fun y hy => ?_)
  rcases List.mem_append.mp hy with h | h
  · exact Or.inl h
  · rw [List.mem_singleton.mp h]; exact Or.inr rfl
/-- a final field, in its own constructor -/
theorem mx_putF (hd : decode M.2.1 pc = .ok (.putfield ix, 3) ∧ pc + 3 = pc2) (hq : S.2.1[ci]? = some q) (hk : k < q.2.2) (hlink : Cond.fieldLink M.1.cls ix (q.2.1 k).1 (q.2.1 k).2.1 (q.2.1 k).2.2.1 ∈ S.1) (hfin : (q.2.1 k).2.2.2 = true) (hin : M.1.name = "<init>") (hdecl : (q.2.1 k).1 = M.1.cls) (hty : parseFieldDescriptor (q.2.1 k).2.2.1 = some ty) (hn : narrow ty v = v) (hfit : fits ty v = true) (hd1 : 1 ≤ d) (hc : hs.1 a = some (ci, fs)) (kk : mx_Ok S l G d M pc2 lv st (mx_st hs a (ci, fs.set k v)) Q) : mx_Ok S l G d M pc lv (v :: .ref a :: st) hs Q := by
  obtain ⟨hd, rfl⟩ := hd
  by_cases hci : ci = 101
  · obtain ⟨r, fin, ⟨h1, h2, h3⟩, hqf⟩ := kk
    refine ⟨r, fin, ⟨h1, h2, fun p e R s m args below meth c H locs cells slots ls Q' hF hK hR hl hlo hd hld hcc hsl kk => ?_⟩, hqf⟩
    have := mx_kin hK hq
    omega
  refine mx_goS hc hci (fun p e R s m args below meth c H locs cells slots ls Q' hF hK hR hl w _ _ _ => ?_) hd1 kk
  have hts := hF.2.2.2.2.2.2.2
  have hown := hF.2.2.2.2.2.1
  obtain ⟨r, h1, hlen, cell, q1, q2, q3, q4⟩ := ((hR.2.1 a _ hc).1).obj (mx_kin hK hq)
  cases h1.symm.trans hq
  obtain ⟨hS, hfc, kC, hkC, hkind⟩ := hK.2.1 ci _ hq
  obtain ⟨cf, kf, fi, f, hi, hsl⟩ := hS k hk
  have hlay := hts _ ((hK.1.1 ci q hq).1 _ (u_in_lay hk))
  unfold u_lay at hlay
  rw [if_pos hfin] at hlay
  have hst := (u_facts hfc hkC (u_lays hts (hK.1.1 ci q hq).1 hk) hi).1
  have hcf : m.cls = cf := by
    obtain ⟨_, _, c', _, _, _, -, -, hf', -, -, -, hown2, -⟩ := Cond.laysFinal_spec hlay
    have e1 : c' = cf := by have := hi.symm.trans hf'; simp at this; exact this.1.symm
    rw [hdecl] at hown2
    rw [← e1]; exact Option.some.inj (hown.symm.trans hown2)
  have h6 := u_fits hfc hkC hkind (Or.inr hlay) hi hty hn hfit
  refine W.putFinK hF.1 hF.2.1 hown (hts _ hlink) hi hst hcf (hF.2.2.2.2.2.2.1.trans hin) (by rw [q2]; exact h6) q1 q3 (by rw [hsl]; exact k2_hasslot (q4 k hk)) rfl rfl hd fun H' e1 e2 e3 => ?_
  refine w H' _ (mx_putC hK hts hq hk hlen q2 q3 q4 hsl e1) e2 e3 (fun y hy => ?_)
  rcases List.mem_append.mp hy with h | h
  · exact Or.inl h
  · rw [List.mem_singleton.mp h]; exact Or.inr rfl
/-- a step that makes a cell of n slots -/
theorem mx_goN {st' : List Value} {x : mx_E} {n : Nat}
    (f : ∀ (p : Program) (e : Env) (R : Room) (s : State) (m : MethodId) (args : Array Value) (below : List Frame) (meth : Method) (c : Code) (H : Heap) (locs : List Loc) (cells slots : Nat) (ls : Array Slot) (Q : State → Prop), mx_Fix S M p s m args meth c → mx_K S G s → mx_R S G hs H → lv_has ls M.2.2.1 lv → cells + 1 ≤ R.cells → slots + n ≤ R.slots → H.size = hs.2.1 →
      (∀ H1 : Heap, mx_cell S G H.size x H1 → H1.size = H.size + 1 → (∀ q : Nat, q < H.size → H1[q]? = H[q]?) → W p l e R s m args below meth c H1 locs (cells + 1) (slots + n) Q (F0 m pc2 ls st')) → W p l e R s m args below meth c H locs cells slots Q (F0 m pc ls st))
    (kk : mx_Ok S l G d M pc2 lv st' (mx_nw hs x n) Q) : mx_Ok S l G d M pc lv st hs Q := by
  obtain ⟨r, fin, ⟨h1, h2, h3⟩, hq⟩ := kk
  have h1' : hs.2.1 + 1 ≤ fin.2.1 := h1
  have h2' : hs.2.2 + n ≤ fin.2.2 := h2
  refine ⟨r, fin, ⟨by omega, by omega, fun p e R s m args below meth c H locs cells slots ls Q' hF hK hR hl hlo hd hld hcc hsl kk => ?_⟩, hq⟩
  refine f p e R s m args below meth c H locs cells slots ls Q' hF hK hR hl (by omega) (by omega) hR.1 (fun H1 e1 e2 e3 => ?_)
  have g1 : cells + 1 + (fin.2.1 - (hs.2.1 + 1)) = cells + (fin.2.1 - hs.2.1) := by omega
  have g2 : slots + n + (fin.2.2 - (hs.2.2 + n)) = slots + (fin.2.2 - hs.2.2) := by omega
  refine h3 p e R s m args below meth c H1 locs (cells + 1) (slots + n) ls Q' hF hK (hR.nw e1 e2 e3) hl hlo hd hld (by show cells + 1 + (fin.2.1 - (hs.2.1 + 1)) ≤ _; rw [g1]; exact hcc) (by show slots + n + (fin.2.2 - (hs.2.2 + n)) ≤ _; rw [g2]; exact hsl) (fun pc' ls' H' locs' r1 r2 r3 => ?_)
  show W p l e R s m args below meth c H' locs' (cells + 1 + (fin.2.1 - (hs.2.1 + 1))) (slots + n + (fin.2.2 - (hs.2.2 + n))) Q' _
  rw [g1, g2]
  exact kk pc' ls' H' locs' r1 r2 r3
theorem mx_new {n : Nat} (hd : decode M.2.1 pc = .ok (.new ix, 3) ∧ pc + 3 = pc2) (hq : S.2.1[ci]? = some q) (hcl : Cond.classLink M.1.cls ix q.1 ∈ S.1) (hins : Cond.instantiable q.1 q.2.2 ∈ S.1) (hini : Cond.initialized q.1 ∈ S.1) (hnn : q.2.2 = n) (hlen : fs.length = q.2.2) (hdf : ∀ j, j < q.2.2 → (parseFieldDescriptor (q.2.1 j).2.2.1).map defaultValue = fs[j]?) (kk : mx_Ok S l G d M pc2 lv (.ref hs.2.1 :: st) (mx_nw hs (ci, fs) n) Q) : mx_Ok S l G d M pc lv st hs Q := by
  obtain ⟨hd, rfl⟩ := hd
  subst hnn
  refine mx_goN (fun p e R s m args below meth c H locs cells slots ls Q' hF hK hR hl hc1 hs1 hz w => ?_) kk
  have hts := hF.2.2.2.2.2.2.2
  have hKn := hK.2.1 ci _ hq
  have hall : ∀ j, ∃ t, j < q.2.2 → parseFieldDescriptor (q.2.1 j).2.2.1 = some t := fun j => by
    by_cases hj : j < q.2.2
    · obtain ⟨t, ht⟩ := Option.isSome_iff_exists.mp ((hK.1.1 ci q hq).2.2 j hj)
      exact ⟨t, fun _ => ht⟩
    · exact ⟨.int, fun h => absurd h hj⟩
  refine W.newcK hF.1 hF.2.1 hF.2.2.2.2.2.1 (hts _ hcl) (hts _ hins) (hts _ hini) rfl hd hc1 hs1 hKn.2.1 hz fun H1 kC hkC e1 z1 o1 => ?_
  rw [← hz] at e1 z1 o1 w ⊢
  refine w H1 (mx_cell.ofObj (mx_kin hK hq) hq hlen ?_) z1 o1
  refine (u_born (fun j => Classical.choose (hall j)) hts (hK.1.1 ci q hq).1 hKn hkC e1 (fun j hj => Classical.choose_spec (hall j) hj)).to (fun j hj => ?_)
  have h9 := hdf j hj
  rw [Classical.choose_spec (hall j) hj] at h9
  simp only [vp_V, List.getD_eq_getElem?_getD, ← h9, Option.map_some, Option.getD_some]
theorem mx_newa {atype : ArrayType} {n : Int32} {N : Nat} {dv : Value} (hd : decode M.2.1 pc = .ok (.newarray atype, 2) ∧ pc + 2 = pc2) (hk : S.2.2.1 k = some ty) (hty : newarray.typeOf atype = ty) (hdv : defaultValue ty = dv) (hk1 : k ≠ 101) (harr : Cond.arrayClass ty ∈ S.1) (hn : ¬ n < 0) (hN : n.toNatClampNeg = N) (hby : N * componentBytes ty ≤ 536870912) (kk : mx_Ok S l G d M pc2 lv (.ref hs.2.1 :: st) (mx_nw hs (k, List.replicate N dv) N) Q) : mx_Ok S l G d M pc lv (.int n :: st) hs Q := by
  obtain ⟨hd, rfl⟩ := hd
  subst hdv
  subst hty
  subst hN
  refine mx_goN (fun p e R s m args below meth c H locs cells slots ls Q' hF hK hR hl hc1 hs1 hz w => ?_) kk
  have hts := hF.2.2.2.2.2.2.2
  refine W.newa hF.1 hF.2.1 (hts _ harr) rfl hd rfl hn hby hc1 hs1 fun cA kA comp h1 h2 h3 => ?_
  obtain ⟨kA', comp', g1, g2, g3, -⟩ := hK.2.2.1 k _ hk
  have hcA : cA = G.2.2.1 k := Option.some.inj (h1.symm.trans (g3 hk1))
  subst hcA
  rw [← hz] at w
  refine w _ (mx_cell.ofArr (hK.1.2.2.2.2 k _ hk) (cell := { cls := G.2.2.1 k, slots := Array.replicate n.toNatClampNeg (defaultValue (newarray.typeOf atype)), vm := .none }) (by simp) rfl (fun h => by cases h) (fun _ h => by cases h) (by simp)) (by simp) (fun y hy => ?_)
  rw [Array.getElem?_push, if_neg (Nat.ne_of_lt hy)]
theorem mx_anewa {C : String} {n : Int32} {N : Nat} (hd : decode M.2.1 pc = .ok (.anewarray ix, 3) ∧ pc + 3 = pc2) (hk : S.2.2.1 k = some (.object C)) (hk1 : k ≠ 101) (hcl : Cond.classLink M.1.cls ix C ∈ S.1) (hao : C ∈ S.2.2.2.2) (hn : ¬ n < 0) (hN : n.toNatClampNeg = N) (hby : N * 4 ≤ 536870912) (kk : mx_Ok S l G d M pc2 lv (.ref hs.2.1 :: st) (mx_nw hs (k, List.replicate N .null) N) Q) : mx_Ok S l G d M pc lv (.int n :: st) hs Q := by
  obtain ⟨hd, rfl⟩ := hd
  subst hN
  refine mx_goN (fun p e R s m args below meth c H locs cells slots ls Q' hF hK hR hl hc1 hs1 hz w => ?_) kk
  have hts := hF.2.2.2.2.2.2.2
  refine W.anew hF.1 hF.2.1 hF.2.2.2.2.2.1 (hts _ hcl) (va_AO.use (hK.2.2.2.2 C hao)) rfl hd rfl hn hby hc1 hs1 fun cA kA comp h1 h2 h3 h4 => ?_
  obtain ⟨kA', comp', g1, g2, g3, -⟩ := hK.2.2.1 k _ hk
  have hcA : cA = G.2.2.1 k := Option.some.inj (h1.symm.trans (g3 hk1))
  subst hcA
  rw [← hz] at w
  refine w _ (mx_cell.ofArr (hK.1.2.2.2.2 k _ hk) (cell := { cls := G.2.2.1 k, slots := Array.replicate n.toNatClampNeg .null, vm := .none }) (by simp) rfl (fun h => by cases h) (fun _ h => by cases h) (by simp)) (by simp) (fun y hy => ?_)
  rw [Array.getElem?_push, if_neg (Nat.ne_of_lt hy)]
theorem mx_alen (hd : decode M.2.1 pc = .ok (.arraylength, 1) ∧ pc + 1 = pc2) (hk : S.2.2.1 k = some ty) (hc : hs.1 a = some (k, vs)) (kk : mx_Ok S l G d M pc2 lv (.int (Int32.ofNat vs.length) :: st) hs Q) : mx_Ok S l G d M pc lv (.ref a :: st) hs Q := by
  obtain ⟨hd, rfl⟩ := hd
  refine mx_go (fun p e R s m args below meth c H locs cells slots ls Q' hF hK hR hl w => ?_) kk
  obtain ⟨cell, e1, e2, e3, e4, e5⟩ := ((hR.2.1 a _ hc).1).arr (hK.1.2.2.2.2 k _ hk)
  exact W.alen (n := Int32.ofNat vs.length) hF.1 hF.2.1 e1 ((hK.2.2.1 k _ hk).arr e2 e4) (by rw [e5]; simp) rfl rfl hd w
theorem mx_iald (hd : decode M.2.1 pc = .ok (.iaload, 1) ∧ pc + 1 = pc2) (hk : S.2.2.1 k = some .int) (hc : hs.1 a = some (k, vs)) (hi : ¬ i < 0) (hv : vs[i.toNatClampNeg]? = some v) (kk : mx_Ok S l G d M pc2 lv (v :: st) hs Q) : mx_Ok S l G d M pc lv (.int i :: .ref a :: st) hs Q := by
  obtain ⟨hd, rfl⟩ := hd
  refine mx_go (fun p e R s m args below meth c H locs cells slots ls Q' hF hK hR hl w => ?_) kk
  obtain ⟨cell, e1, e2, e3, e4, e5⟩ := ((hR.2.1 a _ hc).1).arr (hK.1.2.2.2.2 k _ hk)
  have hlt : i.toNatClampNeg < vs.length := (List.getElem?_eq_some_iff.mp hv).1
  exact W.iald (v := v) hF.1 hF.2.1 e1 ((hK.2.2.1 k _ hk).arr e2 e4) e3 (by rw [e5]; simp only [List.size_toArray]; exact fun h => h.elim hi (by omega)) (by rw [e5]; simp only [List.getElem?_toArray]; exact hv) rfl rfl hd w
theorem mx_lald (hd : decode M.2.1 pc = .ok (.laload, 1) ∧ pc + 1 = pc2) (hk : S.2.2.1 k = some .long) (hc : hs.1 a = some (k, vs)) (hi : ¬ i < 0) (hv : vs[i.toNatClampNeg]? = some v) (kk : mx_Ok S l G d M pc2 lv (v :: st) hs Q) : mx_Ok S l G d M pc lv (.int i :: .ref a :: st) hs Q := by
  obtain ⟨hd, rfl⟩ := hd
  refine mx_go (fun p e R s m args below meth c H locs cells slots ls Q' hF hK hR hl w => ?_) kk
  obtain ⟨cell, e1, e2, e3, e4, e5⟩ := ((hR.2.1 a _ hc).1).arr (hK.1.2.2.2.2 k _ hk)
  have hlt : i.toNatClampNeg < vs.length := (List.getElem?_eq_some_iff.mp hv).1
  exact W.lald (v := v) hF.1 hF.2.1 e1 ((hK.2.2.1 k _ hk).arr e2 e4) e3 (by rw [e5]; simp only [List.size_toArray]; exact fun h => h.elim hi (by omega)) (by rw [e5]; simp only [List.getElem?_toArray]; exact hv) rfl rfl hd w
theorem mx_zald (hd : decode M.2.1 pc = .ok (.baload, 1) ∧ pc + 1 = pc2) (hk : S.2.2.1 k = some .boolean) (hc : hs.1 a = some (k, vs)) (hi : ¬ i < 0) (hv : vs[i.toNatClampNeg]? = some v) (kk : mx_Ok S l G d M pc2 lv (v :: st) hs Q) : mx_Ok S l G d M pc lv (.int i :: .ref a :: st) hs Q := by
  obtain ⟨hd, rfl⟩ := hd
  refine mx_go (fun p e R s m args below meth c H locs cells slots ls Q' hF hK hR hl w => ?_) kk
  obtain ⟨cell, e1, e2, e3, e4, e5⟩ := ((hR.2.1 a _ hc).1).arr (hK.1.2.2.2.2 k _ hk)
  have hlt : i.toNatClampNeg < vs.length := (List.getElem?_eq_some_iff.mp hv).1
  exact W.zald (v := v) hF.1 hF.2.1 e1 ((hK.2.2.1 k _ hk).arr e2 e4) e3 (by rw [e5]; simp only [List.size_toArray]; exact fun h => h.elim hi (by omega)) (by rw [e5]; simp only [List.getElem?_toArray]; exact hv) rfl rfl hd w
theorem mx_cald (hd : decode M.2.1 pc = .ok (.caload, 1) ∧ pc + 1 = pc2) (hk : S.2.2.1 k = some .char) (hc : hs.1 a = some (k, vs)) (hi : ¬ i < 0) (hv : vs[i.toNatClampNeg]? = some v) (kk : mx_Ok S l G d M pc2 lv (v :: st) hs Q) : mx_Ok S l G d M pc lv (.int i :: .ref a :: st) hs Q := by
  obtain ⟨hd, rfl⟩ := hd
  refine mx_go (fun p e R s m args below meth c H locs cells slots ls Q' hF hK hR hl w => ?_) kk
  obtain ⟨cell, e1, e2, e3, e4, e5⟩ := ((hR.2.1 a _ hc).1).arr (hK.1.2.2.2.2 k _ hk)
  have hlt : i.toNatClampNeg < vs.length := (List.getElem?_eq_some_iff.mp hv).1
  exact W.cald (v := v) hF.1 hF.2.1 e1 ((hK.2.2.1 k _ hk).arr e2 e4) e3 (by rw [e5]; simp only [List.size_toArray]; exact fun h => h.elim hi (by omega)) (by rw [e5]; simp only [List.getElem?_toArray]; exact hv) rfl rfl hd w
theorem mx_bald (hd : decode M.2.1 pc = .ok (.baload, 1) ∧ pc + 1 = pc2) (hk : S.2.2.1 k = some .byte) (hc : hs.1 a = some (k, vs)) (hi : ¬ i < 0) (hv : vs[i.toNatClampNeg]? = some v) (kk : mx_Ok S l G d M pc2 lv (v :: st) hs Q) : mx_Ok S l G d M pc lv (.int i :: .ref a :: st) hs Q := by
  obtain ⟨hd, rfl⟩ := hd
  refine mx_go (fun p e R s m args below meth c H locs cells slots ls Q' hF hK hR hl w => ?_) kk
  obtain ⟨cell, e1, e2, e3, e4, e5⟩ := ((hR.2.1 a _ hc).1).arr (hK.1.2.2.2.2 k _ hk)
  have hlt : i.toNatClampNeg < vs.length := (List.getElem?_eq_some_iff.mp hv).1
  exact W.bald (v := v) hF.1 hF.2.1 e1 ((hK.2.2.1 k _ hk).arr e2 e4) e3 (by rw [e5]; simp only [List.size_toArray]; exact fun h => h.elim hi (by omega)) (by rw [e5]; simp only [List.getElem?_toArray]; exact hv) rfl rfl hd w
theorem mx_aald {C : String} (hd : decode M.2.1 pc = .ok (.aaload, 1) ∧ pc + 1 = pc2) (hk : S.2.2.1 k = some (.object C)) (hc : hs.1 a = some (k, vs)) (hi : ¬ i < 0) (hv : vs[i.toNatClampNeg]? = some v) (kk : mx_Ok S l G d M pc2 lv (v :: st) hs Q) : mx_Ok S l G d M pc lv (.int i :: .ref a :: st) hs Q := by
  obtain ⟨hd, rfl⟩ := hd
  refine mx_go (fun p e R s m args below meth c H locs cells slots ls Q' hF hK hR hl w => ?_) kk
  obtain ⟨cell, e1, e2, e3, e4, e5⟩ := ((hR.2.1 a _ hc).1).arr (hK.1.2.2.2.2 k _ hk)
  have hlt : i.toNatClampNeg < vs.length := (List.getElem?_eq_some_iff.mp hv).1
  exact W.aald (v := v) (ty := .object C) hF.1 hF.2.1 e1 ((hK.2.2.1 k _ hk).arr e2 e4) rfl e3 (by rw [e5]; simp only [List.size_toArray]; exact fun h => h.elim hi (by omega)) (by rw [e5]; simp only [List.getElem?_toArray]; exact hv) rfl rfl hd w
theorem mx_setA {H1 : Heap} {cell : Cell} {j : Nat} (hk : ¬ k < 100) (e2 : cell.cls = G.2.2.1 k) (e3 : cell.vm ≠ .unknown) (e4 : ∀ k, cell.vm ≠ .statics k) (e5 : cell.slots = vs.toArray) (e : H1[a]? = some (cell.setSlot j v)) : mx_cell S G a (k, vs.set j v) H1 := by
  refine mx_cell.ofArr hk e e2 e3 e4 ?_
  show cell.slots.setIfInBounds j v = _
  rw [e5]
  simp
theorem mx_iast {x : Int32} (hd : decode M.2.1 pc = .ok (.iastore, 1) ∧ pc + 1 = pc2) (hk : S.2.2.1 k = some .int) (hk1 : k ≠ 101) (hd1 : 1 ≤ d) (hc : hs.1 a = some (k, vs)) (hi : ¬ i < 0) (hlt : i.toNatClampNeg < vs.length) (kk : mx_Ok S l G d M pc2 lv st (mx_st hs a (k, vs.set i.toNatClampNeg (.int x))) Q) : mx_Ok S l G d M pc lv (.int x :: .int i :: .ref a :: st) hs Q := by
  obtain ⟨hd, rfl⟩ := hd
  refine mx_goS hc hk1 (fun p e R s m args below meth c H locs cells slots ls Q' hF hK hR hl w _ _ _ => ?_) hd1 kk
  obtain ⟨cell, e1, e2, e3, e4, e5⟩ := ((hR.2.1 a _ hc).1).arr (hK.1.2.2.2.2 k _ hk)
  refine W.iast hF.1 hF.2.1 e1 ((hK.2.2.1 k _ hk).arr e2 e4) e3 (by rw [e5]; simp only [List.size_toArray]; exact fun h => h.elim hi (by omega)) rfl rfl hd fun H1 e z oq => ?_
  refine w H1 _ (mx_setA (hK.1.2.2.2.2 k _ hk) e2 e3 e4 e5 e) z oq (fun y hy => ?_)
  rcases List.mem_append.mp hy with h | h
  · exact Or.inl h
  · rw [List.mem_singleton.mp h]; exact Or.inr rfl
theorem mx_zast {x : Int32} (hd : decode M.2.1 pc = .ok (.bastore, 1) ∧ pc + 1 = pc2) (hk : S.2.2.1 k = some .boolean) (hk1 : k ≠ 101) (hd1 : 1 ≤ d) (hx : x = 0 ∨ x = 1) (hc : hs.1 a = some (k, vs)) (hi : ¬ i < 0) (hlt : i.toNatClampNeg < vs.length) (kk : mx_Ok S l G d M pc2 lv st (mx_st hs a (k, vs.set i.toNatClampNeg (.int x))) Q) : mx_Ok S l G d M pc lv (.int x :: .int i :: .ref a :: st) hs Q := by
  obtain ⟨hd, rfl⟩ := hd
  have hnx : narrow .boolean (.int x) = .int x := by rcases hx with rfl | rfl <;> rfl
  refine mx_goS hc hk1 (fun p e R s m args below meth c H locs cells slots ls Q' hF hK hR hl w _ _ _ => ?_) hd1 kk
  obtain ⟨cell, e1, e2, e3, e4, e5⟩ := ((hR.2.1 a _ hc).1).arr (hK.1.2.2.2.2 k _ hk)
  refine W.zast hF.1 hF.2.1 e1 ((hK.2.2.1 k _ hk).arr e2 e4) e3 (by rw [e5]; simp only [List.size_toArray]; exact fun h => h.elim hi (by omega)) rfl rfl hd fun H1 e z oq => ?_
  rw [hnx] at e
  refine w H1 _ (mx_setA (hK.1.2.2.2.2 k _ hk) e2 e3 e4 e5 e) z oq (fun y hy => ?_)
  rcases List.mem_append.mp hy with h | h
  · exact Or.inl h
  · rw [List.mem_singleton.mp h]; exact Or.inr rfl
theorem mx_last {x : Int64} (hd : decode M.2.1 pc = .ok (.lastore, 1) ∧ pc + 1 = pc2) (hk : S.2.2.1 k = some .long) (hk1 : k ≠ 101) (hd1 : 1 ≤ d) (hc : hs.1 a = some (k, vs)) (hi : ¬ i < 0) (hlt : i.toNatClampNeg < vs.length) (kk : mx_Ok S l G d M pc2 lv st (mx_st hs a (k, vs.set i.toNatClampNeg (.long x))) Q) : mx_Ok S l G d M pc lv (.long x :: .int i :: .ref a :: st) hs Q := by
  obtain ⟨hd, rfl⟩ := hd
  refine mx_goS hc hk1 (fun p e R s m args below meth c H locs cells slots ls Q' hF hK hR hl w _ _ _ => ?_) hd1 kk
  obtain ⟨cell, e1, e2, e3, e4, e5⟩ := ((hR.2.1 a _ hc).1).arr (hK.1.2.2.2.2 k _ hk)
  refine W.last hF.1 hF.2.1 e1 ((hK.2.2.1 k _ hk).arr e2 e4) e3 (by rw [e5]; simp only [List.size_toArray]; exact fun h => h.elim hi (by omega)) rfl rfl hd fun H1 e z oq => ?_
  refine w H1 _ (mx_setA (hK.1.2.2.2.2 k _ hk) e2 e3 e4 e5 e) z oq (fun y hy => ?_)
  rcases List.mem_append.mp hy with h | h
  · exact Or.inl h
  · rw [List.mem_singleton.mp h]; exact Or.inr rfl
theorem mx_aastR {b : Nat} (hd : decode M.2.1 pc = .ok (.aastore, 1) ∧ pc + 1 = pc2) (hq : S.2.1[ci]? = some q) (hk : S.2.2.1 k = some (.object q.1)) (hk1 : k ≠ 101) (hd1 : 1 ≤ d) (hc : hs.1 a = some (k, vs)) (hi : ¬ i < 0) (hlt : i.toNatClampNeg < vs.length) (hb : hs.1 b = some (ci, fs)) (kk : mx_Ok S l G d M pc2 lv st (mx_st hs a (k, vs.set i.toNatClampNeg (.ref b))) Q) : mx_Ok S l G d M pc lv (.ref b :: .int i :: .ref a :: st) hs Q := by
  obtain ⟨hd, rfl⟩ := hd
  refine mx_goS hc hk1 (fun p e R s m args below meth c H locs cells slots ls Q' hF hK hR hl w _ _ _ => ?_) hd1 kk
  obtain ⟨cell, e1, e2, e3, e4, e5⟩ := ((hR.2.1 a _ hc).1).arr (hK.1.2.2.2.2 k _ hk)
  obtain ⟨r', hr', -, cellV, g1, g2, g3, -⟩ := ((hR.2.1 b _ hb).1).obj (mx_kin hK hq)
  have hcls := (hK.2.1 ci q hq).2
  obtain ⟨kA, comp, k1, k2, -, k3⟩ := hK.2.2.1 k _ hk
  have hcomp : comp = G.1 ci := Option.some.inj ((k3 _ rfl).symm.trans hcls.1)
  subst hcomp
  obtain ⟨kC, hkC, -⟩ := hcls.2
  refine W.aast hF.1 hF.2.1 e1 e4 e3 (by rw [e2]; exact k1) k2 rfl hkC ⟨hi, by rw [e5]; simp only [List.size_toArray]; exact hlt⟩ g1 (fun q h => by rw [g3] at h; cases h) (by rw [g2]; exact hkC) (by rw [g2]; exact va_assign hcls) rfl rfl hd fun H1 e z oq => ?_
  refine w H1 _ (mx_setA (hK.1.2.2.2.2 k _ hk) e2 e3 e4 e5 e) z oq (fun y hy => ?_)
  rcases List.mem_append.mp hy with h | h
  · exact Or.inl h
  · rw [List.mem_singleton.mp h]; exact Or.inr rfl
theorem mx_mmax {x y : Int32} (hd : decode M.2.1 pc = .ok (.invokestatic ix, 3) ∧ pc + 3 = pc2) (hlink : Cond.methodLink M.1.cls ix Lib.Math.max.name ∈ S.1) (hstat : Cond.static Lib.Math.max.name ∈ S.1) (hini : Cond.initialized "java/lang/Math" ∈ S.1) (hcode : Cond.code Lib.Math.max.name Lib.Math.max.code 2 (some .int) ∈ S.1) (hrest : (st.map fun v => v.category).sum ≤ 8) (kk : mx_Ok S l G (d + 1) M pc2 lv (.int (if x < y then y else x) :: st) hs Q) : mx_Ok S l G (d + 1) M pc lv (.int y :: .int x :: st) hs Q := by
  obtain ⟨hd, rfl⟩ := hd
  obtain ⟨r, fin, ⟨h1, h2, h3⟩, hq⟩ := kk
  refine ⟨r, fin, ⟨h1, h2, fun p e R s m args below meth c H locs cells slots ls Q' hF hK hR hl hlo hd' hld hcc hsl kk => ?_⟩, hq⟩
  have hts := hF.2.2.2.2.2.2.2
  exact va_mmax hF.1 hF.2.1 (hF.2.2.1.trans hl.1.symm) hF.2.2.2.2.2.1 (hts _ hlink) (hts _ hstat) (hts _ hini) (hts _ hcode) (by omega) (by omega) (by omega) (by omega) hd (h3 p e R s m args below meth c H locs cells slots ls Q' hF hK hR hl hlo hd' hld hcc hsl kk)
theorem mx_objInit (hd : decode M.2.1 pc = .ok (.invokespecial ix, 3) ∧ pc + 3 = pc2) (hlink : Cond.methodLink M.1.cls ix objectInit ∈ S.1) (hins : Cond.instanceMethod objectInit ∈ S.1) (hcode : Cond.code objectInit ⟨#[0xb1]⟩ 1 none ∈ S.1) (hrest : (st.map fun v => v.category).sum ≤ 8) (kk : mx_Ok S l G (d + 1) M pc2 lv st hs Q) : mx_Ok S l G (d + 1) M pc lv (.ref a :: st) hs Q := by
  obtain ⟨hd, rfl⟩ := hd
  obtain ⟨r, fin, ⟨h1, h2, h3⟩, hq⟩ := kk
  refine ⟨r, fin, ⟨h1, h2, fun p e R s m args below meth c H locs cells slots ls Q' hF hK hR hl hlo hd' hld hcc hsl kk => ?_⟩, hq⟩
  have hts := hF.2.2.2.2.2.2.2
  refine W.objInit hF.1 hF.2.1 hF.2.2.2.2.2.1 (hts _ hlink) (hts _ hins) (hts _ hcode) rfl (hl.1.trans hF.2.2.1.symm) rfl hd (by omega) (by show 2 * 0 + _ + 12 ≤ _; omega) ?_
  exact h3 p e R s m args below meth c H locs cells slots ls Q' hF hK hR hl hlo hd' hld hcc hsl kk
def mx_f (hs : mx_H) (a ci k : Nat) (v : Value) : Prop := ∃ fs : List Value, hs.1 a = some (ci, fs) ∧ fs[k]? = some v
theorem mx_nz {x : Int32} (h : x = 0 ∨ x = 1) : narrow .boolean (.int x) = .int x := by rcases h with rfl | rfl <;> rfl
theorem mx_fz {x : Int32} (h : x = 0 ∨ x = 1) : fits .boolean (.int x) = true := by rcases h with rfl | rfl <;> rfl
theorem mx_na {C : String} (h : v = .null ∨ ∃ x, v = .ref x) : narrow (.object C) v = v := by rcases h with rfl | ⟨x, rfl⟩ <;> rfl
theorem mx_fa {C : String} (h : v = .null ∨ ∃ x, v = .ref x) : fits (.object C) v = true := by rcases h with rfl | ⟨x, rfl⟩ <;> rfl
end MXH
