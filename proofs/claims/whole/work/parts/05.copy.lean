/-! System.arraycopy of numbers -/
def mx_cpy (src dst : List Value) (sp dp n : Nat) : List Value := dst.take dp ++ ((src.drop sp).take n ++ dst.drop (dp + n))
theorem mx_cpy_get {src dst : List Value} {sp dp n : Nat} (h1 : sp + n ≤ src.length) (h2 : dp + n ≤ dst.length) (j : Nat) : (mx_cpy src dst sp dp n)[j]? = if dp ≤ j ∧ j < dp + n then src[sp + (j - dp)]? else dst[j]? := by
  unfold mx_cpy
  have l1 : (dst.take dp).length = dp := by rw [List.length_take]; omega
  have l2 : ((src.drop sp).take n).length = n := by rw [List.length_take, List.length_drop]; omega
  by_cases ha : j < dp
  · rw [if_neg (by omega), List.getElem?_append_left (by omega), List.getElem?_take, if_pos ha]
  · rw [List.getElem?_append_right (by omega), l1]
    by_cases hb : j < dp + n
    · rw [if_pos (by omega), List.getElem?_append_left (by omega), List.getElem?_take, if_pos (by omega), List.getElem?_drop]
    · rw [if_neg (by omega), List.getElem?_append_right (by omega), l2, List.getElem?_drop]
      congr 1
      omega
theorem mx_cpy_len {src dst : List Value} {sp dp n : Nat} (h1 : sp + n ≤ src.length) (h2 : dp + n ≤ dst.length) : (mx_cpy src dst sp dp n).length = dst.length := by
  unfold mx_cpy
  rw [List.length_append, List.length_append, List.length_take, List.length_take, List.length_drop, List.length_drop]
  omega
theorem mx_copied {cs cd : Cell} {vs0 vs1 : List Value} {sp dp n : Nat} (e0 : cs.slots = vs0.toArray) (e1 : cd.slots = vs1.toArray) (h1 : sp + n ≤ vs0.length) (h2 : dp + n ≤ vs1.length) : (cd.storeRun dp (cs.stretch sp n)).slots = (mx_cpy vs0 vs1 sp dp n).toArray := by
  have hl : (cs.stretch sp n).length = n := by unfold Cell.stretch; simp
  have hsz : cd.slots.size = vs1.length := by rw [e1]; simp
  apply Array.ext_getElem?
  intro j
  rw [Cell.storeRun_get _ _ _ _ (by rw [hl, hsz]; exact h2), hl, show (mx_cpy vs0 vs1 sp dp n).toArray[j]? = (mx_cpy vs0 vs1 sp dp n)[j]? by simp, mx_cpy_get h1 h2]
  by_cases hj : dp ≤ j ∧ j < dp + n
  · rw [if_pos hj, if_pos hj]
    unfold Cell.stretch
    rw [List.getElem?_map, List.getElem?_range (by omega)]
    simp only [Option.map_some]
    rw [e0]
    have hlt : sp + (j - dp) < vs0.length := by omega
    simp [Array.getD, hlt]
  · rw [if_neg hj, if_neg hj, e1, List.getElem?_toArray]
theorem mx_copy {S : mx_S} {l : Launch} {G : mx_G} {d pc pc2 : Nat} {M : mx_M} {lv : List (Nat × Value)} {st : List Value} {hs : mx_H} {Q : Option Value → mx_H → Prop} {ix a0 a1 k0 k1 N SP DP : Nat} {vs0 vs1 : List Value} {ty : FieldType} {sp dp n : Int32}
    (hd : decode M.2.1 pc = .ok (.invokestatic ix, 3) ∧ pc + 3 = pc2) (hlink : Cond.methodLink M.1.cls ix arraycopyName ∈ S.1) (hnat : Cond.native arraycopyName ∈ S.1) (hstat : Cond.static arraycopyName ∈ S.1) (hini : Cond.initialized "java/lang/System" ∈ S.1) (hk0 : S.2.2.1 k0 = some ty) (hk1 : S.2.2.1 k1 = some ty) (hprim : refKind ty = false) (hk : k1 ≠ 101) (hrest : (st.map fun v => v.category).sum ≤ 8)
    (hc0 : hs.1 a0 = some (k0, vs0)) (hc1 : hs.1 a1 = some (k1, vs1)) (hsp : ¬ sp < 0) (hdp : ¬ dp < 0) (hn : ¬ n < 0) (eS : sp.toNatClampNeg = SP) (eD : dp.toNatClampNeg = DP) (eN : n.toNatClampNeg = N) (h1 : SP + N ≤ vs0.length) (h2 : DP + N ≤ vs1.length) (hfit : ∀ v ∈ vs0, fits ty v = true ∧ ∀ x, v ≠ .ref x)
    (kk : mx_Ok S l G (d + 1) M pc2 lv st (mx_st hs a1 (k1, mx_cpy vs0 vs1 SP DP N)) Q) : mx_Ok S l G (d + 1) M pc lv (.int n :: .int dp :: .ref a1 :: .int sp :: .ref a0 :: st) hs Q := by
  obtain ⟨hd, rfl⟩ := hd
  subst eS
  subst eD
  subst eN
  have nn : ∀ z : Int32, ¬ z < 0 → z.toInt = (z.toNatClampNeg : Int) := by
    intro z hz
    have hz0 : (0 : Int) ≤ z.toInt := by
      have := Int32.not_lt.mp hz
      simpa using Int32.le_iff_toInt_le.mp this
    show z.toInt = ((z.toInt.toNat : Nat) : Int)
    omega
  refine mx_goS hc1 hk (fun p e R s m args below meth c H locs cells slots ls Q' hF hK hR hl w _ hfr hlo => ?_) (by omega) kk
  have hts := hF.2.2.2.2.2.2.2
  obtain ⟨cs, e1, e2, e3, e4, e5⟩ := ((hR.2.1 a0 _ hc0).1).arr (hK.1.2.2.2.2 k0 _ hk0)
  obtain ⟨cd, f1, f2, f3, f4, f5⟩ := ((hR.2.1 a1 _ hc1).1).arr (hK.1.2.2.2.2 k1 _ hk1)
  obtain ⟨ks, sc, g1, g2, -⟩ := hK.2.2.1 k0 _ hk0
  obtain ⟨kd, dc, g3, g4, -⟩ := hK.2.2.1 k1 _ hk1
  intro T hT X
  obtain ⟨vm', X', step⟩ := X.arraycopy hF.1 hF.2.2.2.2.2.1 (hts _ hlink) (hts _ hnat) (hts _ hstat) (hts _ hini) (src := a0) (dst := a1) (cs := cs) (cd := cd) (srcPos := sp) (destPos := dp) (n := n) (by rw [hT]; exact e1) (by rw [hT]; exact f1) e4 f4 e3 f3 (by rw [e2]; exact g1) (by rw [f2]; exact g3) g2 g4 (by simp [hprim]) hsp hdp hn
    (by rw [nn sp hsp, nn n hn, e5]; simp only [List.size_toArray]; omega) (by rw [nn dp hdp, nn n hn, f5]; simp only [List.size_toArray]; omega)
    (fun vm₁ _ i hi => by
      have hlt : sp.toNatClampNeg + i < vs0.length := by omega
      have ev : cs.slots.getD (sp.toNatClampNeg + i) .null = vs0[sp.toNatClampNeg + i] := by rw [e5]; simp [Array.getD, hlt]
      rw [ev]
      obtain ⟨t1, t2⟩ := hfit _ (List.getElem_mem hlt)
      refine ⟨t1, ?_⟩
      generalize vs0[sp.toNatClampNeg + i] = v at t2 ⊢
      cases v <;> first | exact trivial | (exact absurd rfl (t2 _)))
    (g := F0 m pc ls (.int n :: .int dp :: .ref a1 :: .int sp :: .ref a0 :: st)) rfl (hl.1.trans hF.2.2.1.symm) (rest := st) rfl (by rw [hF.2.1]; exact hd) (by omega) (by show 2 * 0 + _ + (18 : Nat) ≤ _; omega)
  have hla : a1 < T.heap.size := by rw [hT]; exact (Array.getElem?_eq_some_iff.mp f1).1
  obtain ⟨t, b1, b2⟩ := w _ _ (mx_cell.ofArr (hK.1.2.2.2.2 k1 _ hk1) (heapAt_setCell_self (s := T.setVm vm') (copied cs cd sp dp n) hla) ((Cell.storeRun_facts _ _ _).1.trans f2) (by rw [show (copied cs cd sp dp n).vm = cd.vm from (Cell.storeRun_facts _ _ _).2.1]; exact f3) (by rw [show (copied cs cd sp dp n).vm = cd.vm from (Cell.storeRun_facts _ _ _).2.1]; exact f4) (mx_copied e5 f5 h1 h2)) (by rw [size_setCell]; show T.heap.size = _; rw [hT]) (fun y hy => by rw [heapAt_setCell_ne _ (Ne.symm hy)]; show T.heap[y]? = _; rw [hT]) (fun y hy => by
      rcases List.mem_append.mp hy with h | h
      · exact Or.inl h
      · obtain ⟨z, -, hz⟩ := List.mem_map.mp h
        rw [← hz]
        exact Or.inr rfl) ((T.setVm vm').setCell a1 (copied cs cd sp dp n)) rfl X'
  exact ⟨t, step t b1, b2⟩
