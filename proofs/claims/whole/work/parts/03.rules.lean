/-! RULES: an instruction, a row, over mx_Ok. -/
def mx_okM (S : mx_S) (Y : mx_M) (n : Nat) : Prop := plainName Y.1.cls = true ∧ (Y.1.cls ≠ "java/lang/invoke/MethodHandle" ∧ Y.1.cls ≠ "java/lang/invoke/VarHandle" ∧ (parseMethodDescriptor Y.1.desc).map (fun d => d.parameters.length) = some n) ∧ Y.2.2.1 ≤ 29 ∧ Cond.code Y.1 Y.2.1 Y.2.2.1 Y.2.2.2 ∈ S.1 ∧ Cond.initialized Y.1.cls ∈ S.1
theorem mx_goodIn {S : mx_S} {Y : mx_M} {n : Nat} (h : mx_okS S) (hY : mx_okM S Y n) : GoodIn S.1 (mx_ws S Y) := by
  intro w hw
  have hin : w ∈ S.1 := by
    rcases List.mem_cons.mp hw with rfl | hw
    · exact hY.2.2.2.1
    · exact hw
  exact ⟨hin, good_of_word (h.2.1 w hin)⟩
section MXC
variable {S : mx_S} {l : Launch} {G : mx_G} {d pc : Nat} {M Y : mx_M} {lv : List (Nat × Value)} {st : List Value} {hs : mx_H} {Q Q1 : Option Value → mx_H → Prop} {idx n b ci : Nat} {As rest fs : List Value} {q : vw_C} {host : String}
theorem mx_blind (S : mx_S) (G : mx_G) (hs : mx_H) (av : List Value) : FrameBlind (va_Pc av (fun U => mx_K S G U ∧ mx_R S G hs U.heap)) := fun _ _ _ _ q => ⟨q.1, mx_K.calling q.2.1, q.2.2⟩
theorem mx_invV (hd : decode M.2.1 pc = .ok (.invokevirtual idx, 3)) (hY : mx_okM S Y n) (hlink : Cond.methodLink M.1.cls idx Y.1 ∈ S.1) (hins : Cond.instanceMethod Y.1 ∈ S.1) (hsel : Cond.selects Y.1.cls Y.1 Y.1 ∈ S.1) (hst : st = As.reverse ++ .ref b :: rest) (hn : As.length = n) (hrest : (rest.map fun v => v.category).sum ≤ 8) (hav : (lg_sl (.ref b :: As)).length ≤ Y.2.2.1) (hcell : hs.1 b = some (ci, fs)) (hq : S.2.1[ci]? = some q) (hqc : q.1 = Y.1.cls)
    (h1 : mx_C S l G d Y (.ref b :: As) hs Q1) (k : ∀ r1 hs1, Q1 r1 hs1 → mx_Ok S l G (d + 1) M (pc + 3) lv (r1.toList ++ rest) hs1 Q) : mx_Ok S l G (d + 1) M pc lv st hs Q := by
  obtain ⟨r1, hs1, hr1, hq1⟩ := h1
  obtain ⟨r, fin, hr2, hqf⟩ := k r1 hs1 hq1
  have a1 := hr1.1
  have a2 := hr1.2.1
  have a3 := hr2.1
  have a4 := hr2.2.1
  refine ⟨r, fin, ⟨by omega, by omega, fun p e R s m args below meth c H locs cells slots ls Q' hF hK hR hl hlo hfr hld hc hsl kk => ?_⟩, hqf⟩
  have hML : Y.2.2.1 ≤ 29 := hY.2.2.1
  have hci : ci < 100 := Nat.lt_of_lt_of_le (List.getElem?_eq_some_iff.mp hq).1 hK.1.2.2.1
  have hts := hF.2.2.2.2.2.2.2
  have hrecv : ∃ cellB : Cell, H[b]? = some cellB ∧ cellB.vm.isStatics = false ∧ s.vm.findClass Y.1.cls = some cellB.cls := by
    obtain ⟨r', hr', -, cell, g1, g2, g3, -⟩ := ((hR.2.1 b _ hcell).1).obj hci
    cases hr'.symm.trans hq
    exact ⟨cell, g1, by rw [g3]; rfl, by rw [g2, ← hqc]; exact (hK.2.1 ci _ hq).2.1⟩
  subst hst
  refine mx_after (hs1 := hs1) (r1 := r1) (va_runV (As := As) (rest := rest) (nL := M.2.2.1) (cc := M.2.1) (Ts := S.1) (own := M.1.cls) (C := Y.1.cls) (b := b) ⟨hF.1, hF.2.1, hF.2.2.1, hF.2.2.2.2.2.1, hts⟩ (mx_met hY.1 hav hr1) ⟨callB_of n hts (mx_goodIn hK.1 hY) rfl rfl rfl (hts _ hY.2.2.2.2) (hts _ hlink) hY.2.1 ⟨hfr, by show 8 + (_ + 11) + 48 * d ≤ _; omega⟩, hts _ hins, hts _ hsel⟩ ⟨mx_blind S G hs _, hrecv, fun U hU hW => ⟨rfl, mx_K.warm hW hK, by rw [hU]; exact hR⟩⟩ rfl hn hl.1 rfl (lv_room hrest) hd ⟨by omega, by omega⟩) hlo (fun H1 locs1 hR1 hlo1 => ?_)
  refine hr2.2.2 p e R s m args below meth c H1 locs1 _ _ ls Q' hF hK hR1 hl hlo1 hfr hld (by omega) (by omega) (fun pc' ls' H' locs' hR' hlo' hr' => ?_)
  have e1 : cells + (hs1.2.1 - hs.2.1) + (fin.2.1 - hs1.2.1) = cells + (fin.2.1 - hs.2.1) := by omega
  have e2 : slots + (hs1.2.2 - hs.2.2) + (fin.2.2 - hs1.2.2) = slots + (fin.2.2 - hs.2.2) := by omega
  rw [e1, e2]
  exact kk pc' ls' H' locs' hR' hlo' hr'
theorem mx_invVN (hd : decode M.2.1 pc = .ok (.invokevirtual idx, 3)) (hY : mx_okM S Y n) (hlink : Cond.methodLinkNest M.1.cls idx Y.1 host ∈ S.2.2.2.1) (hins : Cond.instanceMethod Y.1 ∈ S.1) (hsel : Cond.selects Y.1.cls Y.1 Y.1 ∈ S.1) (hst : st = As.reverse ++ .ref b :: rest) (hn : As.length = n) (hrest : (rest.map fun v => v.category).sum ≤ 8) (hav : (lg_sl (.ref b :: As)).length ≤ Y.2.2.1) (hcell : hs.1 b = some (ci, fs)) (hq : S.2.1[ci]? = some q) (hqc : q.1 = Y.1.cls)
    (h1 : mx_C S l G d Y (.ref b :: As) hs Q1) (k : ∀ r1 hs1, Q1 r1 hs1 → mx_Ok S l G (d + 1) M (pc + 3) lv (r1.toList ++ rest) hs1 Q) : mx_Ok S l G (d + 1) M pc lv st hs Q := by
  obtain ⟨r1, hs1, hr1, hq1⟩ := h1
  obtain ⟨r, fin, hr2, hqf⟩ := k r1 hs1 hq1
  have a1 := hr1.1
  have a2 := hr1.2.1
  have a3 := hr2.1
  have a4 := hr2.2.1
  refine ⟨r, fin, ⟨by omega, by omega, fun p e R s m args below meth c H locs cells slots ls Q' hF hK hR hl hlo hfr hld hc hsl kk => ?_⟩, hqf⟩
  have hML : Y.2.2.1 ≤ 29 := hY.2.2.1
  have hci : ci < 100 := Nat.lt_of_lt_of_le (List.getElem?_eq_some_iff.mp hq).1 hK.1.2.2.1
  have hts := hF.2.2.2.2.2.2.2
  have hrecv : ∃ cellB : Cell, H[b]? = some cellB ∧ cellB.vm.isStatics = false ∧ s.vm.findClass Y.1.cls = some cellB.cls := by
    obtain ⟨r', hr', -, cell, g1, g2, g3, -⟩ := ((hR.2.1 b _ hcell).1).obj hci
    cases hr'.symm.trans hq
    exact ⟨cell, g1, by rw [g3]; rfl, by rw [g2, ← hqc]; exact (hK.2.1 ci _ hq).2.1⟩
  subst hst
  refine mx_after (hs1 := hs1) (r1 := r1) (va_runVN (As := As) (rest := rest) (nL := M.2.2.1) (cc := M.2.1) (Ts := S.1) (own := M.1.cls) (C := Y.1.cls) (b := b) ⟨hF.1, hF.2.1, hF.2.2.1, hF.2.2.2.2.2.1, hts⟩ (mx_met hY.1 hav hr1) ⟨va_cnB n hts (mx_goodIn hK.1 hY) rfl rfl rfl (hK.2.2.2.1 _ hlink) (hts _ hY.2.2.2.2) hY.2.1 ⟨hfr, by show 8 + (_ + 11) + 48 * d ≤ _; omega⟩, hts _ hins, hts _ hsel⟩ ⟨mx_blind S G hs _, hrecv, fun U hU hW => ⟨rfl, mx_K.warm hW hK, by rw [hU]; exact hR⟩⟩ rfl hn hl.1 rfl (lv_room hrest) hd ⟨by omega, by omega⟩) hlo (fun H1 locs1 hR1 hlo1 => ?_)
  refine hr2.2.2 p e R s m args below meth c H1 locs1 _ _ ls Q' hF hK hR1 hl hlo1 hfr hld (by omega) (by omega) (fun pc' ls' H' locs' hR' hlo' hr' => ?_)
  have e1 : cells + (hs1.2.1 - hs.2.1) + (fin.2.1 - hs1.2.1) = cells + (fin.2.1 - hs.2.1) := by omega
  have e2 : slots + (hs1.2.2 - hs.2.2) + (fin.2.2 - hs1.2.2) = slots + (fin.2.2 - hs.2.2) := by omega
  rw [e1, e2]
  exact kk pc' ls' H' locs' hR' hlo' hr'
theorem mx_invS (hd : decode M.2.1 pc = .ok (.invokestatic idx, 3)) (hY : mx_okM S Y n) (hlink : Cond.methodLink M.1.cls idx Y.1 ∈ S.1) (hstat : Cond.static Y.1 ∈ S.1) (hst : st = As.reverse ++ rest) (hn : As.length = n) (hrest : (rest.map fun v => v.category).sum ≤ 8) (hav : (lg_sl (As)).length ≤ Y.2.2.1)
    (h1 : mx_C S l G d Y (As) hs Q1) (k : ∀ r1 hs1, Q1 r1 hs1 → mx_Ok S l G (d + 1) M (pc + 3) lv (r1.toList ++ rest) hs1 Q) : mx_Ok S l G (d + 1) M pc lv st hs Q := by
  obtain ⟨r1, hs1, hr1, hq1⟩ := h1
  obtain ⟨r, fin, hr2, hqf⟩ := k r1 hs1 hq1
  have a1 := hr1.1
  have a2 := hr1.2.1
  have a3 := hr2.1
  have a4 := hr2.2.1
  refine ⟨r, fin, ⟨by omega, by omega, fun p e R s m args below meth c H locs cells slots ls Q' hF hK hR hl hlo hfr hld hc hsl kk => ?_⟩, hqf⟩
  have hML : Y.2.2.1 ≤ 29 := hY.2.2.1
  have hts := hF.2.2.2.2.2.2.2
  subst hst
  refine mx_after (hs1 := hs1) (r1 := r1) (va_runS (As := As) (rest := rest) (nL := M.2.2.1) (cc := M.2.1) (Ts := S.1) (own := M.1.cls) ⟨hF.1, hF.2.1, hF.2.2.1, hF.2.2.2.2.2.1, hts⟩ (mx_met hY.1 hav hr1) ⟨callB_of n hts (mx_goodIn hK.1 hY) rfl rfl rfl (hts _ hY.2.2.2.2) (hts _ hlink) hY.2.1 ⟨hfr, by show 8 + (_ + 11) + 48 * d ≤ _; omega⟩, hts _ hstat⟩ ⟨mx_blind S G hs _, fun U hU hW => ⟨rfl, mx_K.warm hW hK, by rw [hU]; exact hR⟩⟩ rfl hn hl.1 rfl (lv_room hrest) hd ⟨by omega, by omega⟩) hlo (fun H1 locs1 hR1 hlo1 => ?_)
  refine hr2.2.2 p e R s m args below meth c H1 locs1 _ _ ls Q' hF hK hR1 hl hlo1 hfr hld (by omega) (by omega) (fun pc' ls' H' locs' hR' hlo' hr' => ?_)
  have e1 : cells + (hs1.2.1 - hs.2.1) + (fin.2.1 - hs1.2.1) = cells + (fin.2.1 - hs.2.1) := by omega
  have e2 : slots + (hs1.2.2 - hs.2.2) + (fin.2.2 - hs1.2.2) = slots + (fin.2.2 - hs.2.2) := by omega
  rw [e1, e2]
  exact kk pc' ls' H' locs' hR' hlo' hr'
theorem mx_invSN (hd : decode M.2.1 pc = .ok (.invokestatic idx, 3)) (hY : mx_okM S Y n) (hlink : Cond.methodLinkNest M.1.cls idx Y.1 host ∈ S.2.2.2.1) (hstat : Cond.static Y.1 ∈ S.1) (hst : st = As.reverse ++ rest) (hn : As.length = n) (hrest : (rest.map fun v => v.category).sum ≤ 8) (hav : (lg_sl (As)).length ≤ Y.2.2.1)
    (h1 : mx_C S l G d Y (As) hs Q1) (k : ∀ r1 hs1, Q1 r1 hs1 → mx_Ok S l G (d + 1) M (pc + 3) lv (r1.toList ++ rest) hs1 Q) : mx_Ok S l G (d + 1) M pc lv st hs Q := by
  obtain ⟨r1, hs1, hr1, hq1⟩ := h1
  obtain ⟨r, fin, hr2, hqf⟩ := k r1 hs1 hq1
  have a1 := hr1.1
  have a2 := hr1.2.1
  have a3 := hr2.1
  have a4 := hr2.2.1
  refine ⟨r, fin, ⟨by omega, by omega, fun p e R s m args below meth c H locs cells slots ls Q' hF hK hR hl hlo hfr hld hc hsl kk => ?_⟩, hqf⟩
  have hML : Y.2.2.1 ≤ 29 := hY.2.2.1
  have hts := hF.2.2.2.2.2.2.2
  subst hst
  refine mx_after (hs1 := hs1) (r1 := r1) (va_runSN (As := As) (rest := rest) (nL := M.2.2.1) (cc := M.2.1) (Ts := S.1) (own := M.1.cls) ⟨hF.1, hF.2.1, hF.2.2.1, hF.2.2.2.2.2.1, hts⟩ (mx_met hY.1 hav hr1) ⟨va_cnB n hts (mx_goodIn hK.1 hY) rfl rfl rfl (hK.2.2.2.1 _ hlink) (hts _ hY.2.2.2.2) hY.2.1 ⟨hfr, by show 8 + (_ + 11) + 48 * d ≤ _; omega⟩, hts _ hstat, trivial⟩ ⟨mx_blind S G hs _, fun U hU hW => ⟨rfl, mx_K.warm hW hK, by rw [hU]; exact hR⟩⟩ rfl hn hl.1 rfl (lv_room hrest) hd ⟨by omega, by omega⟩) hlo (fun H1 locs1 hR1 hlo1 => ?_)
  refine hr2.2.2 p e R s m args below meth c H1 locs1 _ _ ls Q' hF hK hR1 hl hlo1 hfr hld (by omega) (by omega) (fun pc' ls' H' locs' hR' hlo' hr' => ?_)
  have e1 : cells + (hs1.2.1 - hs.2.1) + (fin.2.1 - hs1.2.1) = cells + (fin.2.1 - hs.2.1) := by omega
  have e2 : slots + (hs1.2.2 - hs.2.2) + (fin.2.2 - hs1.2.2) = slots + (fin.2.2 - hs.2.2) := by omega
  rw [e1, e2]
  exact kk pc' ls' H' locs' hR' hlo' hr'
theorem mx_invI {y0 : MethodName} {by0 : ByteArray} {mL0 : Nat} (hYe : Y = (y0, by0, mL0, none)) (hd : decode M.2.1 pc = .ok (.invokespecial idx, 3)) (hY : mx_okM S Y n) (hlink : Cond.methodLink M.1.cls idx Y.1 ∈ S.1) (hins : Cond.instanceMethod Y.1 ∈ S.1) (hy1 : Y.1.name = "<init>") (hst : st = As.reverse ++ .ref b :: rest) (hn : As.length = n) (hrest : (rest.map fun v => v.category).sum ≤ 8) (hav : (lg_sl (.ref b :: As)).length ≤ Y.2.2.1)
    (h1 : mx_C S l G d Y (.ref b :: As) hs Q1) (k : ∀ r1 hs1, Q1 r1 hs1 → mx_Ok S l G (d + 1) M (pc + 3) lv (r1.toList ++ rest) hs1 Q) : mx_Ok S l G (d + 1) M pc lv st hs Q := by
  subst hYe
  obtain ⟨r1, hs1, hr1, hq1⟩ := h1
  obtain ⟨r, fin, hr2, hqf⟩ := k r1 hs1 hq1
  have a1 := hr1.1
  have a2 := hr1.2.1
  have a3 := hr2.1
  have a4 := hr2.2.1
  refine ⟨r, fin, ⟨by omega, by omega, fun p e R s m args below meth c H locs cells slots ls Q' hF hK hR hl hlo hfr hld hc hsl kk => ?_⟩, hqf⟩
  have hML : (y0, by0, mL0, (none : Option FieldType)).2.2.1 ≤ 29 := hY.2.2.1
  have hts := hF.2.2.2.2.2.2.2
  subst hst
  refine mx_after (hs1 := hs1) (r1 := r1) (va_runI (As := As) (rest := rest) (nL := M.2.2.1) (cc := M.2.1) (Ts := S.1) (own := M.1.cls) (b := b) ⟨hF.1, hF.2.1, hF.2.2.1, hF.2.2.2.2.2.1, hts⟩ (mx_met hY.1 hav hr1) ⟨callB_of n hts (mx_goodIn hK.1 hY) rfl rfl rfl (hts _ hY.2.2.2.2) (hts _ hlink) hY.2.1 ⟨hfr, by show 8 + (_ + 11) + 48 * d ≤ _; omega⟩, hy1, hts _ hins⟩ ⟨mx_blind S G hs _, fun U hU hW => ⟨rfl, mx_K.warm hW hK, by rw [hU]; exact hR⟩⟩ rfl hn hl.1 rfl (lv_room hrest) hd ⟨by omega, by omega⟩) hlo (fun H1 locs1 hR1 hlo1 => ?_)
  refine hr2.2.2 p e R s m args below meth c H1 locs1 _ _ ls Q' hF hK hR1 hl hlo1 hfr hld (by omega) (by omega) (fun pc' ls' H' locs' hR' hlo' hr' => ?_)
  have e1 : cells + (hs1.2.1 - hs.2.1) + (fin.2.1 - hs1.2.1) = cells + (fin.2.1 - hs.2.1) := by omega
  have e2 : slots + (hs1.2.2 - hs.2.2) + (fin.2.2 - hs1.2.2) = slots + (fin.2.2 - hs.2.2) := by omega
  rw [e1, e2]
  exact kk pc' ls' H' locs' hR' hlo' hr'
theorem mx_invIN {y0 : MethodName} {by0 : ByteArray} {mL0 : Nat} (hYe : Y = (y0, by0, mL0, none)) (hd : decode M.2.1 pc = .ok (.invokespecial idx, 3)) (hY : mx_okM S Y n) (hlink : Cond.methodLinkNest M.1.cls idx Y.1 host ∈ S.2.2.2.1) (hins : Cond.instanceMethod Y.1 ∈ S.1) (hy1 : Y.1.name = "<init>") (hst : st = As.reverse ++ .ref b :: rest) (hn : As.length = n) (hrest : (rest.map fun v => v.category).sum ≤ 8) (hav : (lg_sl (.ref b :: As)).length ≤ Y.2.2.1)
    (h1 : mx_C S l G d Y (.ref b :: As) hs Q1) (k : ∀ r1 hs1, Q1 r1 hs1 → mx_Ok S l G (d + 1) M (pc + 3) lv (r1.toList ++ rest) hs1 Q) : mx_Ok S l G (d + 1) M pc lv st hs Q := by
  subst hYe
  obtain ⟨r1, hs1, hr1, hq1⟩ := h1
  obtain ⟨r, fin, hr2, hqf⟩ := k r1 hs1 hq1
  have a1 := hr1.1
  have a2 := hr1.2.1
  have a3 := hr2.1
  have a4 := hr2.2.1
  refine ⟨r, fin, ⟨by omega, by omega, fun p e R s m args below meth c H locs cells slots ls Q' hF hK hR hl hlo hfr hld hc hsl kk => ?_⟩, hqf⟩
  have hML : (y0, by0, mL0, (none : Option FieldType)).2.2.1 ≤ 29 := hY.2.2.1
  have hts := hF.2.2.2.2.2.2.2
  subst hst
  refine mx_after (hs1 := hs1) (r1 := r1) (va_runIN (As := As) (rest := rest) (nL := M.2.2.1) (cc := M.2.1) (Ts := S.1) (own := M.1.cls) (b := b) ⟨hF.1, hF.2.1, hF.2.2.1, hF.2.2.2.2.2.1, hts⟩ (mx_met hY.1 hav hr1) ⟨va_cnB n hts (mx_goodIn hK.1 hY) rfl rfl rfl (hK.2.2.2.1 _ hlink) (hts _ hY.2.2.2.2) hY.2.1 ⟨hfr, by show 8 + (_ + 11) + 48 * d ≤ _; omega⟩, hy1, hts _ hins⟩ ⟨mx_blind S G hs _, fun U hU hW => ⟨rfl, mx_K.warm hW hK, by rw [hU]; exact hR⟩⟩ rfl hn hl.1 rfl (lv_room hrest) hd ⟨by omega, by omega⟩) hlo (fun H1 locs1 hR1 hlo1 => ?_)
  refine hr2.2.2 p e R s m args below meth c H1 locs1 _ _ ls Q' hF hK hR1 hl hlo1 hfr hld (by omega) (by omega) (fun pc' ls' H' locs' hR' hlo' hr' => ?_)
  have e1 : cells + (hs1.2.1 - hs.2.1) + (fin.2.1 - hs1.2.1) = cells + (fin.2.1 - hs.2.1) := by omega
  have e2 : slots + (hs1.2.2 - hs.2.2) + (fin.2.2 - hs1.2.2) = slots + (fin.2.2 - hs.2.2) := by omega
  rw [e1, e2]
  exact kk pc' ls' H' locs' hR' hlo' hr'
end MXC
section MXI
variable {S : mx_S} {l : Launch} {G : mx_G} {d pc pc2 tgt : Nat} {M : mx_M} {lv lv2 : List (Nat × Value)} {st : List Value} {hs : mx_H} {Q : Option Value → mx_H → Prop} {off : Int}
theorem mx_iconst {n : Int} {v : Int32} (hd : decode M.2.1 pc = .ok (.iconst n, 1) ∧ pc + 1 = pc2) (hv : Int32.ofInt n = v) (k : mx_Ok S l G d M pc2 lv (.int v :: st) hs Q) : mx_Ok S l G d M pc lv (st) hs Q := by
  obtain ⟨hd, rfl⟩ := hd
  exact mx_go (fun _ _ _ _ _ _ _ _ _ _ _ _ _ _ _ hF _ _ hl w => lv_iconst hF.1 hF.2.1 hd hv w) k
theorem mx_bipush {n : Int} {v : Int32} (hd : decode M.2.1 pc = .ok (.bipush n, 2) ∧ pc + 2 = pc2) (hv : (Int8.ofInt n).toInt32 = v) (k : mx_Ok S l G d M pc2 lv (.int v :: st) hs Q) : mx_Ok S l G d M pc lv (st) hs Q := by
  obtain ⟨hd, rfl⟩ := hd
  exact mx_go (fun _ _ _ _ _ _ _ _ _ _ _ _ _ _ _ hF _ _ hl w => lv_bipush hF.1 hF.2.1 hd hv w) k
theorem mx_sipush {n : Int} {v : Int32} (hd : decode M.2.1 pc = .ok (.sipush n, 3) ∧ pc + 3 = pc2) (hv : (Int16.ofInt n).toInt32 = v) (k : mx_Ok S l G d M pc2 lv (.int v :: st) hs Q) : mx_Ok S l G d M pc lv (st) hs Q := by
  obtain ⟨hd, rfl⟩ := hd
  exact mx_go (fun _ _ _ _ _ _ _ _ _ _ _ _ _ _ _ hF _ _ hl w => lv_sipush hF.1 hF.2.1 hd hv w) k
theorem mx_lconst {n : Fin 2} {v : Int64} (hd : decode M.2.1 pc = .ok (.lconst n, 1) ∧ pc + 1 = pc2) (hv : Int64.ofNat (n : Nat) = v) (k : mx_Ok S l G d M pc2 lv (.long v :: st) hs Q) : mx_Ok S l G d M pc lv (st) hs Q := by
  obtain ⟨hd, rfl⟩ := hd
  exact mx_go (fun _ _ _ _ _ _ _ _ _ _ _ _ _ _ _ hF _ _ hl w => lv_lconst hF.1 hF.2.1 hd hv w) k
theorem mx_null  (hd : decode M.2.1 pc = .ok (.aconst_null, 1) ∧ pc + 1 = pc2)  (k : mx_Ok S l G d M pc2 lv (.null :: st) hs Q) : mx_Ok S l G d M pc lv (st) hs Q := by
  obtain ⟨hd, rfl⟩ := hd
  exact mx_go (fun _ _ _ _ _ _ _ _ _ _ _ _ _ _ _ hF _ _ hl w => lv_null hF.1 hF.2.1 hd w) k
theorem mx_ldc {ix : Nat} {v : Int32} (hd : decode M.2.1 pc = .ok (.ldc ix, 2) ∧ pc + 2 = pc2) (hc : Cond.constant M.1.cls ix v ∈ S.1) (k : mx_Ok S l G d M pc2 lv (.int v :: st) hs Q) : mx_Ok S l G d M pc lv (st) hs Q := by
  obtain ⟨hd, rfl⟩ := hd
  exact mx_go (fun _ _ _ _ _ _ _ _ _ _ _ _ _ _ _ hF _ _ hl w => lv_ldc hF.1 hF.2.1 hF.2.2.2.2.2.1 (hF.2.2.2.2.2.2.2 _ hc) hd w) k
theorem mx_ldcw {ix : Nat} {v : Int32} (hd : decode M.2.1 pc = .ok (.ldc_w ix, 3) ∧ pc + 3 = pc2) (hc : Cond.constant M.1.cls ix v ∈ S.1) (k : mx_Ok S l G d M pc2 lv (.int v :: st) hs Q) : mx_Ok S l G d M pc lv (st) hs Q := by
  obtain ⟨hd, rfl⟩ := hd
  exact mx_go (fun _ _ _ _ _ _ _ _ _ _ _ _ _ _ _ hF _ _ hl w => lv_ldcw hF.1 hF.2.1 hF.2.2.2.2.2.1 (hF.2.2.2.2.2.2.2 _ hc) hd w) k
theorem mx_ldc2 {ix : Nat} {v : Int64} (hd : decode M.2.1 pc = .ok (.ldc2_w ix, 3) ∧ pc + 3 = pc2) (hc : Cond.constantLong M.1.cls ix v ∈ S.1) (k : mx_Ok S l G d M pc2 lv (.long v :: st) hs Q) : mx_Ok S l G d M pc lv (st) hs Q := by
  obtain ⟨hd, rfl⟩ := hd
  exact mx_go (fun _ _ _ _ _ _ _ _ _ _ _ _ _ _ _ hF _ _ hl w => lv_ldc2 hF.1 hF.2.1 hF.2.2.2.2.2.1 (hF.2.2.2.2.2.2.2 _ hc) hd w) k
theorem mx_iload_n {q : Fin 4} {i : Nat} {x : Int32} (hd : decode M.2.1 pc = .ok (.iload_n q, 1) ∧ pc + 1 = pc2) (hi : (q : Nat) = i) (j : Nat) (hj : lv[j]? = some (i, .int x)) (k : mx_Ok S l G d M pc2 lv (.int x :: st) hs Q) : mx_Ok S l G d M pc lv (st) hs Q := by
  obtain ⟨hd, rfl⟩ := hd
  exact mx_go (fun _ _ _ _ _ _ _ _ _ _ _ _ _ _ _ hF _ _ hl w => lv_iload_n hF.1 hF.2.1 hd hi (lv_at hl j hj) w) k
theorem mx_iload {i : Nat} {x : Int32} (hd : decode M.2.1 pc = .ok (.iload i, 2) ∧ pc + 2 = pc2) (j : Nat) (hj : lv[j]? = some (i, .int x)) (k : mx_Ok S l G d M pc2 lv (.int x :: st) hs Q) : mx_Ok S l G d M pc lv (st) hs Q := by
  obtain ⟨hd, rfl⟩ := hd
  exact mx_go (fun _ _ _ _ _ _ _ _ _ _ _ _ _ _ _ hF _ _ hl w => lv_iload hF.1 hF.2.1 hd (lv_at hl j hj) w) k
theorem mx_lload_n {q : Fin 4} {i : Nat} {x : Int64} (hd : decode M.2.1 pc = .ok (.lload_n q, 1) ∧ pc + 1 = pc2) (hi : (q : Nat) = i) (j : Nat) (hj : lv[j]? = some (i, .long x)) (k : mx_Ok S l G d M pc2 lv (.long x :: st) hs Q) : mx_Ok S l G d M pc lv (st) hs Q := by
  obtain ⟨hd, rfl⟩ := hd
  exact mx_go (fun _ _ _ _ _ _ _ _ _ _ _ _ _ _ _ hF _ _ hl w => lv_lload_n hF.1 hF.2.1 hd hi (lv_at hl j hj) w) k
theorem mx_lload {i : Nat} {x : Int64} (hd : decode M.2.1 pc = .ok (.lload i, 2) ∧ pc + 2 = pc2) (j : Nat) (hj : lv[j]? = some (i, .long x)) (k : mx_Ok S l G d M pc2 lv (.long x :: st) hs Q) : mx_Ok S l G d M pc lv (st) hs Q := by
  obtain ⟨hd, rfl⟩ := hd
  exact mx_go (fun _ _ _ _ _ _ _ _ _ _ _ _ _ _ _ hF _ _ hl w => lv_lload hF.1 hF.2.1 hd (lv_at hl j hj) w) k
theorem mx_aload_nR {q : Fin 4} {i : Nat} {x : Nat} (hd : decode M.2.1 pc = .ok (.aload_n q, 1) ∧ pc + 1 = pc2) (hi : (q : Nat) = i) (j : Nat) (hj : lv[j]? = some (i, .ref x)) (k : mx_Ok S l G d M pc2 lv (.ref x :: st) hs Q) : mx_Ok S l G d M pc lv (st) hs Q := by
  obtain ⟨hd, rfl⟩ := hd
  exact mx_go (fun _ _ _ _ _ _ _ _ _ _ _ _ _ _ _ hF _ _ hl w => lv_aload_n hF.1 hF.2.1 hd hi (lv_at hl j hj) w) k
theorem mx_aload_n {q : Fin 4} {i : Nat} {v : Value} (hd : decode M.2.1 pc = .ok (.aload_n q, 1) ∧ pc + 1 = pc2) (hi : (q : Nat) = i) (j : Nat) (hj : lv[j]? = some (i, v)) (hv : v = .null ∨ ∃ x, v = .ref x) (k : mx_Ok S l G d M pc2 lv (v :: st) hs Q) : mx_Ok S l G d M pc lv (st) hs Q := by
  obtain ⟨hd, rfl⟩ := hd
  rcases hv with rfl | ⟨x, rfl⟩
  · exact mx_go (fun _ _ _ _ _ _ _ _ _ _ _ _ _ _ _ hF _ _ hl w => lv_aload_nN hF.1 hF.2.1 hd hi (lv_at hl j hj) w) k
  · exact mx_go (fun _ _ _ _ _ _ _ _ _ _ _ _ _ _ _ hF _ _ hl w => lv_aload_n hF.1 hF.2.1 hd hi (lv_at hl j hj) w) k
theorem mx_aloadR {i : Nat} {x : Nat} (hd : decode M.2.1 pc = .ok (.aload i, 2) ∧ pc + 2 = pc2) (j : Nat) (hj : lv[j]? = some (i, .ref x)) (k : mx_Ok S l G d M pc2 lv (.ref x :: st) hs Q) : mx_Ok S l G d M pc lv (st) hs Q := by
  obtain ⟨hd, rfl⟩ := hd
  exact mx_go (fun _ _ _ _ _ _ _ _ _ _ _ _ _ _ _ hF _ _ hl w => lv_aload hF.1 hF.2.1 hd (lv_at hl j hj) w) k
theorem mx_aload {i : Nat} {v : Value} (hd : decode M.2.1 pc = .ok (.aload i, 2) ∧ pc + 2 = pc2) (j : Nat) (hj : lv[j]? = some (i, v)) (hv : v = .null ∨ ∃ x, v = .ref x) (k : mx_Ok S l G d M pc2 lv (v :: st) hs Q) : mx_Ok S l G d M pc lv (st) hs Q := by
  obtain ⟨hd, rfl⟩ := hd
  rcases hv with rfl | ⟨x, rfl⟩
  · exact mx_go (fun _ _ _ _ _ _ _ _ _ _ _ _ _ _ _ hF _ _ hl w => lv_aloadN hF.1 hF.2.1 hd (lv_at hl j hj) w) k
  · exact mx_go (fun _ _ _ _ _ _ _ _ _ _ _ _ _ _ _ hF _ _ hl w => lv_aload hF.1 hF.2.1 hd (lv_at hl j hj) w) k
theorem mx_istore_n {q : Fin 4} {i : Nat} {x : Int32} (hd : decode M.2.1 pc = .ok (.istore_n q, 1) ∧ pc + 1 = pc2) (hi : (q : Nat) = i) (hn : i < M.2.2.1) (h2 : (i, Value.int x) :: lv.filter (fun q => !(q.1 == i) && !(q.1 + 1 == i && q.2.category == 2)) = lv2) (k : mx_Ok S l G d M pc2 lv2 (st) hs Q) : mx_Ok S l G d M pc lv (.int x :: st) hs Q := by
  obtain ⟨hd, rfl⟩ := hd
  exact mx_goL (fun _ _ _ _ _ _ _ _ _ _ _ _ _ _ _ hF hl w => lv_istore_n hF.1 hF.2.1 hd hi hl hn h2 w) k
theorem mx_istore {i : Nat} {x : Int32} (hd : decode M.2.1 pc = .ok (.istore i, 2) ∧ pc + 2 = pc2) (hn : i < M.2.2.1) (h2 : (i, Value.int x) :: lv.filter (fun q => !(q.1 == i) && !(q.1 + 1 == i && q.2.category == 2)) = lv2) (k : mx_Ok S l G d M pc2 lv2 (st) hs Q) : mx_Ok S l G d M pc lv (.int x :: st) hs Q := by
  obtain ⟨hd, rfl⟩ := hd
  exact mx_goL (fun _ _ _ _ _ _ _ _ _ _ _ _ _ _ _ hF hl w => lv_istore hF.1 hF.2.1 hd hl hn h2 w) k
theorem mx_lstore_n {q : Fin 4} {i : Nat} {x : Int64} (hd : decode M.2.1 pc = .ok (.lstore_n q, 1) ∧ pc + 1 = pc2) (hi : (q : Nat) = i) (hn : i + 1 < M.2.2.1) (h2 : (i, Value.long x) :: lv.filter (fun q => !(q.1 == i) && (!(q.1 == i + 1) && !(q.1 + 1 == i && q.2.category == 2))) = lv2) (k : mx_Ok S l G d M pc2 lv2 (st) hs Q) : mx_Ok S l G d M pc lv (.long x :: st) hs Q := by
  obtain ⟨hd, rfl⟩ := hd
  exact mx_goL (fun _ _ _ _ _ _ _ _ _ _ _ _ _ _ _ hF hl w => lv_lstore_n hF.1 hF.2.1 hd hi hl hn h2 w) k
theorem mx_lstore {i : Nat} {x : Int64} (hd : decode M.2.1 pc = .ok (.lstore i, 2) ∧ pc + 2 = pc2) (hn : i + 1 < M.2.2.1) (h2 : (i, Value.long x) :: lv.filter (fun q => !(q.1 == i) && (!(q.1 == i + 1) && !(q.1 + 1 == i && q.2.category == 2))) = lv2) (k : mx_Ok S l G d M pc2 lv2 (st) hs Q) : mx_Ok S l G d M pc lv (.long x :: st) hs Q := by
  obtain ⟨hd, rfl⟩ := hd
  exact mx_goL (fun _ _ _ _ _ _ _ _ _ _ _ _ _ _ _ hF hl w => lv_lstore hF.1 hF.2.1 hd hl hn h2 w) k
theorem mx_astore_n {q : Fin 4} {i : Nat} {v : Value} (hd : decode M.2.1 pc = .ok (.astore_n q, 1) ∧ pc + 1 = pc2) (hi : (q : Nat) = i) (hn : i < M.2.2.1) (h2 : (i, v) :: lv.filter (fun q => !(q.1 == i) && !(q.1 + 1 == i && q.2.category == 2)) = lv2) (hv : v = .null ∨ ∃ x, v = .ref x) (k : mx_Ok S l G d M pc2 lv2 (st) hs Q) : mx_Ok S l G d M pc lv (v :: st) hs Q := by
  obtain ⟨hd, rfl⟩ := hd
  rcases hv with rfl | ⟨x, rfl⟩
  · exact mx_goL (fun _ _ _ _ _ _ _ _ _ _ _ _ _ _ _ hF hl w => lv_astore_nN hF.1 hF.2.1 hd hi hl hn h2 w) k
  · exact mx_goL (fun _ _ _ _ _ _ _ _ _ _ _ _ _ _ _ hF hl w => lv_astore_n hF.1 hF.2.1 hd hi hl hn h2 w) k
theorem mx_astore {i : Nat} {v : Value} (hd : decode M.2.1 pc = .ok (.astore i, 2) ∧ pc + 2 = pc2) (hn : i < M.2.2.1) (h2 : (i, v) :: lv.filter (fun q => !(q.1 == i) && !(q.1 + 1 == i && q.2.category == 2)) = lv2) (hv : v = .null ∨ ∃ x, v = .ref x) (k : mx_Ok S l G d M pc2 lv2 (st) hs Q) : mx_Ok S l G d M pc lv (v :: st) hs Q := by
  obtain ⟨hd, rfl⟩ := hd
  rcases hv with rfl | ⟨x, rfl⟩
  · exact mx_goL (fun _ _ _ _ _ _ _ _ _ _ _ _ _ _ _ hF hl w => lv_astoreN hF.1 hF.2.1 hd hl hn h2 w) k
  · exact mx_goL (fun _ _ _ _ _ _ _ _ _ _ _ _ _ _ _ hF hl w => lv_astore hF.1 hF.2.1 hd hl hn h2 w) k
theorem mx_iinc {i : Nat} {n : Int} {x v : Int32} (hd : decode M.2.1 pc = .ok (.iinc i n, 3) ∧ pc + 3 = pc2) (j : Nat) (hj : lv[j]? = some (i, .int x)) (hv : x + Int32.ofInt n = v) (hn : i < M.2.2.1) (h2 : (i, Value.int v) :: lv.filter (fun q => !(q.1 == i) && !(q.1 + 1 == i && q.2.category == 2)) = lv2) (k : mx_Ok S l G d M pc2 lv2 (st) hs Q) : mx_Ok S l G d M pc lv (st) hs Q := by
  obtain ⟨hd, rfl⟩ := hd
  exact mx_goL (fun _ _ _ _ _ _ _ _ _ _ _ _ _ _ _ hF hl w => lv_iinc hF.1 hF.2.1 hd hl hj hv hn h2 w) k
theorem mx_iadd {x y : Int32} (hd : decode M.2.1 pc = .ok (.iadd, 1) ∧ pc + 1 = pc2)  (k : mx_Ok S l G d M pc2 lv (.int (x + y) :: st) hs Q) : mx_Ok S l G d M pc lv (.int y :: .int x :: st) hs Q := by
  obtain ⟨hd, rfl⟩ := hd
  exact mx_go (fun _ _ _ _ _ _ _ _ _ _ _ _ _ _ _ hF _ _ hl w => lv_iadd hF.1 hF.2.1 hd w) k
theorem mx_isub {x y : Int32} (hd : decode M.2.1 pc = .ok (.isub, 1) ∧ pc + 1 = pc2)  (k : mx_Ok S l G d M pc2 lv (.int (x - y) :: st) hs Q) : mx_Ok S l G d M pc lv (.int y :: .int x :: st) hs Q := by
  obtain ⟨hd, rfl⟩ := hd
  exact mx_go (fun _ _ _ _ _ _ _ _ _ _ _ _ _ _ _ hF _ _ hl w => lv_isub hF.1 hF.2.1 hd w) k
theorem mx_imul {x y : Int32} (hd : decode M.2.1 pc = .ok (.imul, 1) ∧ pc + 1 = pc2)  (k : mx_Ok S l G d M pc2 lv (.int (x * y) :: st) hs Q) : mx_Ok S l G d M pc lv (.int y :: .int x :: st) hs Q := by
  obtain ⟨hd, rfl⟩ := hd
  exact mx_go (fun _ _ _ _ _ _ _ _ _ _ _ _ _ _ _ hF _ _ hl w => lv_imul hF.1 hF.2.1 hd w) k
theorem mx_iand {x y : Int32} (hd : decode M.2.1 pc = .ok (.iand, 1) ∧ pc + 1 = pc2)  (k : mx_Ok S l G d M pc2 lv (.int (x &&& y) :: st) hs Q) : mx_Ok S l G d M pc lv (.int y :: .int x :: st) hs Q := by
  obtain ⟨hd, rfl⟩ := hd
  exact mx_go (fun _ _ _ _ _ _ _ _ _ _ _ _ _ _ _ hF _ _ hl w => lv_iand hF.1 hF.2.1 hd w) k
theorem mx_ior {x y : Int32} (hd : decode M.2.1 pc = .ok (.ior, 1) ∧ pc + 1 = pc2)  (k : mx_Ok S l G d M pc2 lv (.int (x ||| y) :: st) hs Q) : mx_Ok S l G d M pc lv (.int y :: .int x :: st) hs Q := by
  obtain ⟨hd, rfl⟩ := hd
  exact mx_go (fun _ _ _ _ _ _ _ _ _ _ _ _ _ _ _ hF _ _ hl w => lv_ior hF.1 hF.2.1 hd w) k
theorem mx_ixor {x y : Int32} (hd : decode M.2.1 pc = .ok (.ixor, 1) ∧ pc + 1 = pc2)  (k : mx_Ok S l G d M pc2 lv (.int (x ^^^ y) :: st) hs Q) : mx_Ok S l G d M pc lv (.int y :: .int x :: st) hs Q := by
  obtain ⟨hd, rfl⟩ := hd
  exact mx_go (fun _ _ _ _ _ _ _ _ _ _ _ _ _ _ _ hF _ _ hl w => lv_ixor hF.1 hF.2.1 hd w) k
theorem mx_ishl {x y : Int32} (hd : decode M.2.1 pc = .ok (.ishl, 1) ∧ pc + 1 = pc2)  (k : mx_Ok S l G d M pc2 lv (.int (x <<< (y &&& 31)) :: st) hs Q) : mx_Ok S l G d M pc lv (.int y :: .int x :: st) hs Q := by
  obtain ⟨hd, rfl⟩ := hd
  exact mx_go (fun _ _ _ _ _ _ _ _ _ _ _ _ _ _ _ hF _ _ hl w => lv_ishl hF.1 hF.2.1 hd w) k
theorem mx_ishr {x y : Int32} (hd : decode M.2.1 pc = .ok (.ishr, 1) ∧ pc + 1 = pc2)  (k : mx_Ok S l G d M pc2 lv (.int (x >>> (y &&& 31)) :: st) hs Q) : mx_Ok S l G d M pc lv (.int y :: .int x :: st) hs Q := by
  obtain ⟨hd, rfl⟩ := hd
  exact mx_go (fun _ _ _ _ _ _ _ _ _ _ _ _ _ _ _ hF _ _ hl w => lv_ishr hF.1 hF.2.1 hd w) k
theorem mx_ladd {x y : Int64} (hd : decode M.2.1 pc = .ok (.ladd, 1) ∧ pc + 1 = pc2)  (k : mx_Ok S l G d M pc2 lv (.long (x + y) :: st) hs Q) : mx_Ok S l G d M pc lv (.long y :: .long x :: st) hs Q := by
  obtain ⟨hd, rfl⟩ := hd
  exact mx_go (fun _ _ _ _ _ _ _ _ _ _ _ _ _ _ _ hF _ _ hl w => lv_ladd hF.1 hF.2.1 hd w) k
theorem mx_lsub {x y : Int64} (hd : decode M.2.1 pc = .ok (.lsub, 1) ∧ pc + 1 = pc2)  (k : mx_Ok S l G d M pc2 lv (.long (x - y) :: st) hs Q) : mx_Ok S l G d M pc lv (.long y :: .long x :: st) hs Q := by
  obtain ⟨hd, rfl⟩ := hd
  exact mx_go (fun _ _ _ _ _ _ _ _ _ _ _ _ _ _ _ hF _ _ hl w => lv_lsub hF.1 hF.2.1 hd w) k
theorem mx_lmul {x y : Int64} (hd : decode M.2.1 pc = .ok (.lmul, 1) ∧ pc + 1 = pc2)  (k : mx_Ok S l G d M pc2 lv (.long (x * y) :: st) hs Q) : mx_Ok S l G d M pc lv (.long y :: .long x :: st) hs Q := by
  obtain ⟨hd, rfl⟩ := hd
  exact mx_go (fun _ _ _ _ _ _ _ _ _ _ _ _ _ _ _ hF _ _ hl w => lv_lmul hF.1 hF.2.1 hd w) k
theorem mx_land {x y : Int64} (hd : decode M.2.1 pc = .ok (.land, 1) ∧ pc + 1 = pc2)  (k : mx_Ok S l G d M pc2 lv (.long (x &&& y) :: st) hs Q) : mx_Ok S l G d M pc lv (.long y :: .long x :: st) hs Q := by
  obtain ⟨hd, rfl⟩ := hd
  exact mx_go (fun _ _ _ _ _ _ _ _ _ _ _ _ _ _ _ hF _ _ hl w => lv_land hF.1 hF.2.1 hd w) k
theorem mx_lor {x y : Int64} (hd : decode M.2.1 pc = .ok (.lor, 1) ∧ pc + 1 = pc2)  (k : mx_Ok S l G d M pc2 lv (.long (x ||| y) :: st) hs Q) : mx_Ok S l G d M pc lv (.long y :: .long x :: st) hs Q := by
  obtain ⟨hd, rfl⟩ := hd
  exact mx_go (fun _ _ _ _ _ _ _ _ _ _ _ _ _ _ _ hF _ _ hl w => lv_lor hF.1 hF.2.1 hd w) k
theorem mx_lxor {x y : Int64} (hd : decode M.2.1 pc = .ok (.lxor, 1) ∧ pc + 1 = pc2)  (k : mx_Ok S l G d M pc2 lv (.long (x ^^^ y) :: st) hs Q) : mx_Ok S l G d M pc lv (.long y :: .long x :: st) hs Q := by
  obtain ⟨hd, rfl⟩ := hd
  exact mx_go (fun _ _ _ _ _ _ _ _ _ _ _ _ _ _ _ hF _ _ hl w => lv_lxor hF.1 hF.2.1 hd w) k
theorem mx_ineg {x : Int32} (hd : decode M.2.1 pc = .ok (.ineg, 1) ∧ pc + 1 = pc2)  (k : mx_Ok S l G d M pc2 lv (.int (-x) :: st) hs Q) : mx_Ok S l G d M pc lv (.int x :: st) hs Q := by
  obtain ⟨hd, rfl⟩ := hd
  exact mx_go (fun _ _ _ _ _ _ _ _ _ _ _ _ _ _ _ hF _ _ hl w => lv_ineg hF.1 hF.2.1 hd w) k
theorem mx_idiv {x y : Int32} (hd : decode M.2.1 pc = .ok (.idiv, 1) ∧ pc + 1 = pc2) (hne : ¬ y = 0) (k : mx_Ok S l G d M pc2 lv (.int (x / y) :: st) hs Q) : mx_Ok S l G d M pc lv (.int y :: .int x :: st) hs Q := by
  obtain ⟨hd, rfl⟩ := hd
  exact mx_go (fun _ _ _ _ _ _ _ _ _ _ _ _ _ _ _ hF _ _ hl w => lv_idiv hF.1 hF.2.1 hd hne w) k
theorem mx_irem {x y : Int32} (hd : decode M.2.1 pc = .ok (.irem, 1) ∧ pc + 1 = pc2) (hne : ¬ y = 0) (k : mx_Ok S l G d M pc2 lv (.int (x - x / y * y) :: st) hs Q) : mx_Ok S l G d M pc lv (.int y :: .int x :: st) hs Q := by
  obtain ⟨hd, rfl⟩ := hd
  exact mx_go (fun _ _ _ _ _ _ _ _ _ _ _ _ _ _ _ hF _ _ hl w => lv_irem hF.1 hF.2.1 hd hne w) k
theorem mx_i2l {x : Int32} (hd : decode M.2.1 pc = .ok (.i2l, 1) ∧ pc + 1 = pc2)  (k : mx_Ok S l G d M pc2 lv (.long x.toInt64 :: st) hs Q) : mx_Ok S l G d M pc lv (.int x :: st) hs Q := by
  obtain ⟨hd, rfl⟩ := hd
  exact mx_go (fun _ _ _ _ _ _ _ _ _ _ _ _ _ _ _ hF _ _ hl w => lv_i2l hF.1 hF.2.1 hd rfl w) k
theorem mx_l2i {x : Int64} (hd : decode M.2.1 pc = .ok (.l2i, 1) ∧ pc + 1 = pc2)  (k : mx_Ok S l G d M pc2 lv (.int x.toInt32 :: st) hs Q) : mx_Ok S l G d M pc lv (.long x :: st) hs Q := by
  obtain ⟨hd, rfl⟩ := hd
  exact mx_go (fun _ _ _ _ _ _ _ _ _ _ _ _ _ _ _ hF _ _ hl w => lv_l2i hF.1 hF.2.1 hd rfl w) k
theorem mx_i2c {x : Int32} (hd : decode M.2.1 pc = .ok (.i2c, 1) ∧ pc + 1 = pc2)  (k : mx_Ok S l G d M pc2 lv (.int (x.toUInt32 % 65536).toInt32 :: st) hs Q) : mx_Ok S l G d M pc lv (.int x :: st) hs Q := by
  obtain ⟨hd, rfl⟩ := hd
  exact mx_go (fun _ _ _ _ _ _ _ _ _ _ _ _ _ _ _ hF _ _ hl w => lv_i2c hF.1 hF.2.1 hd rfl w) k
theorem mx_i2b {x : Int32} (hd : decode M.2.1 pc = .ok (.i2b, 1) ∧ pc + 1 = pc2)  (k : mx_Ok S l G d M pc2 lv (.int x.toInt8.toInt32 :: st) hs Q) : mx_Ok S l G d M pc lv (.int x :: st) hs Q := by
  obtain ⟨hd, rfl⟩ := hd
  exact mx_go (fun _ _ _ _ _ _ _ _ _ _ _ _ _ _ _ hF _ _ hl w => lv_i2b hF.1 hF.2.1 hd rfl w) k
theorem mx_iushr {x y : Int32} (hd : decode M.2.1 pc = .ok (.iushr, 1) ∧ pc + 1 = pc2)  (k : mx_Ok S l G d M pc2 lv (.int (x.toUInt32 >>> (y.toUInt32 &&& Int32.toUInt32 31)).toInt32 :: st) hs Q) : mx_Ok S l G d M pc lv (.int y :: .int x :: st) hs Q := by
  obtain ⟨hd, rfl⟩ := hd
  exact mx_go (fun _ _ _ _ _ _ _ _ _ _ _ _ _ _ _ hF _ _ hl w => lv_iushr hF.1 hF.2.1 hd rfl w) k
theorem mx_lushr {x : Int64} {y : Int32} (hd : decode M.2.1 pc = .ok (.lushr, 1) ∧ pc + 1 = pc2)  (k : mx_Ok S l G d M pc2 lv (.long (x.toUInt64 >>> (y.toInt64.toUInt64 &&& Int64.toUInt64 63)).toInt64 :: st) hs Q) : mx_Ok S l G d M pc lv (.int y :: .long x :: st) hs Q := by
  obtain ⟨hd, rfl⟩ := hd
  exact mx_go (fun _ _ _ _ _ _ _ _ _ _ _ _ _ _ _ hF _ _ hl w => lv_lushr hF.1 hF.2.1 hd rfl w) k
theorem mx_lshl {x : Int64} {y : Int32} (hd : decode M.2.1 pc = .ok (.lshl, 1) ∧ pc + 1 = pc2)  (k : mx_Ok S l G d M pc2 lv (.long (x <<< (y.toInt64 &&& 63)) :: st) hs Q) : mx_Ok S l G d M pc lv (.int y :: .long x :: st) hs Q := by
  obtain ⟨hd, rfl⟩ := hd
  exact mx_go (fun _ _ _ _ _ _ _ _ _ _ _ _ _ _ _ hF _ _ hl w => lv_lshl hF.1 hF.2.1 hd rfl w) k
theorem mx_lshr {x : Int64} {y : Int32} (hd : decode M.2.1 pc = .ok (.lshr, 1) ∧ pc + 1 = pc2)  (k : mx_Ok S l G d M pc2 lv (.long (x >>> (y.toInt64 &&& 63)) :: st) hs Q) : mx_Ok S l G d M pc lv (.int y :: .long x :: st) hs Q := by
  obtain ⟨hd, rfl⟩ := hd
  exact mx_go (fun _ _ _ _ _ _ _ _ _ _ _ _ _ _ _ hF _ _ hl w => lv_lshr hF.1 hF.2.1 hd rfl w) k
theorem mx_lcmp {x y : Int64} (hd : decode M.2.1 pc = .ok (.lcmp, 1) ∧ pc + 1 = pc2)  (k : mx_Ok S l G d M pc2 lv (.int (lg_cmp x y) :: st) hs Q) : mx_Ok S l G d M pc lv (.long y :: .long x :: st) hs Q := by
  obtain ⟨hd, rfl⟩ := hd
  exact mx_go (fun _ _ _ _ _ _ _ _ _ _ _ _ _ _ _ hF _ _ hl w => W.lcmp hF.1 hF.2.1 hd w) k
theorem mx_dup {v : Value} (hd : decode M.2.1 pc = .ok (.dup, 1) ∧ pc + 1 = pc2) (hv : v.category = 1) (k : mx_Ok S l G d M pc2 lv (v :: v :: st) hs Q) : mx_Ok S l G d M pc lv (v :: st) hs Q := by
  obtain ⟨hd, rfl⟩ := hd
  exact mx_go (fun _ _ _ _ _ _ _ _ _ _ _ _ _ _ _ hF _ _ hl w => lv_dup hF.1 hF.2.1 hd hv w) k
theorem mx_pop {v : Value} (hd : decode M.2.1 pc = .ok (.pop, 1) ∧ pc + 1 = pc2) (hv : v.category = 1) (k : mx_Ok S l G d M pc2 lv (st) hs Q) : mx_Ok S l G d M pc lv (v :: st) hs Q := by
  obtain ⟨hd, rfl⟩ := hd
  exact mx_go (fun _ _ _ _ _ _ _ _ _ _ _ _ _ _ _ hF _ _ hl w => lv_pop hF.1 hF.2.1 hd hv w) k
theorem mx_pop2 {v : Value} (hd : decode M.2.1 pc = .ok (.pop2, 1) ∧ pc + 1 = pc2) (hv : v.category = 2) (k : mx_Ok S l G d M pc2 lv (st) hs Q) : mx_Ok S l G d M pc lv (v :: st) hs Q := by
  obtain ⟨hd, rfl⟩ := hd
  exact mx_go (fun _ _ _ _ _ _ _ _ _ _ _ _ _ _ _ hF _ _ hl w => lv_pop2_2 hF.1 hF.2.1 hd hv w) k
theorem mx_dup_x1 {v w9 : Value} (hd : decode M.2.1 pc = .ok (.dup_x1, 1) ∧ pc + 1 = pc2) (hv : v.category = 1) (hw : w9.category = 1) (k : mx_Ok S l G d M pc2 lv (v :: w9 :: v :: st) hs Q) : mx_Ok S l G d M pc lv (v :: w9 :: st) hs Q := by
  obtain ⟨hd, rfl⟩ := hd
  exact mx_go (fun _ _ _ _ _ _ _ _ _ _ _ _ _ _ _ hF _ _ hl w => lv_dup_x1 hF.1 hF.2.1 hd hv hw w) k
theorem mx_dup_x2 {v w9 u9 : Value} (hd : decode M.2.1 pc = .ok (.dup_x2, 1) ∧ pc + 1 = pc2) (hv : v.category = 1) (hw : w9.category = 1) (hu : u9.category = 1) (k : mx_Ok S l G d M pc2 lv (v :: w9 :: u9 :: v :: st) hs Q) : mx_Ok S l G d M pc lv (v :: w9 :: u9 :: st) hs Q := by
  obtain ⟨hd, rfl⟩ := hd
  exact mx_go (fun _ _ _ _ _ _ _ _ _ _ _ _ _ _ _ hF _ _ hl w => lv_dup_x2 hF.1 hF.2.1 hd hv hw hu w) k
theorem mx_dup2 {v w9 : Value} (hd : decode M.2.1 pc = .ok (.dup2, 1) ∧ pc + 1 = pc2) (hv : v.category = 1) (hw : w9.category = 1) (k : mx_Ok S l G d M pc2 lv (v :: w9 :: v :: w9 :: st) hs Q) : mx_Ok S l G d M pc lv (v :: w9 :: st) hs Q := by
  obtain ⟨hd, rfl⟩ := hd
  exact mx_go (fun _ _ _ _ _ _ _ _ _ _ _ _ _ _ _ hF _ _ hl w => lv_dup2_11 hF.1 hF.2.1 hd hv hw w) k
theorem mx_dup2L {v : Value} (hd : decode M.2.1 pc = .ok (.dup2, 1) ∧ pc + 1 = pc2) (hv : v.category = 2) (k : mx_Ok S l G d M pc2 lv (v :: v :: st) hs Q) : mx_Ok S l G d M pc lv (v :: st) hs Q := by
  obtain ⟨hd, rfl⟩ := hd
  exact mx_go (fun _ _ _ _ _ _ _ _ _ _ _ _ _ _ _ hF _ _ hl w => lv_dup2_2 hF.1 hF.2.1 hd hv w) k
theorem mx_icmp_eq {x y : Int32} (hd : decode M.2.1 pc = .ok (.if_icmp .eq off, 3) ∧ pc + 3 = pc2 ∧ (pc : Int) + off = (tgt : Int)) (kt : x = y → mx_Ok S l G d M tgt lv (st) hs Q) (kf : ¬ (x = y) → mx_Ok S l G d M pc2 lv (st) hs Q) : mx_Ok S l G d M pc lv (.int y :: .int x :: st) hs Q := by
  obtain ⟨hd, rfl, ht⟩ := hd
  by_cases hc : x = y
  · exact mx_go (fun _ _ _ _ _ _ _ _ _ _ _ _ _ _ _ hF _ _ hl w => lv_icmp_eq hF.1 hF.2.1 hd ht (fun _ => w) (fun h => absurd hc h)) (kt hc)
  · exact mx_go (fun _ _ _ _ _ _ _ _ _ _ _ _ _ _ _ hF _ _ hl w => lv_icmp_eq hF.1 hF.2.1 hd ht (fun h => absurd h hc) (fun _ => w)) (kf hc)
theorem mx_if_eq {x : Int32} (hd : decode M.2.1 pc = .ok (.ifCond .eq off, 3) ∧ pc + 3 = pc2 ∧ (pc : Int) + off = (tgt : Int)) (kt : x = 0 → mx_Ok S l G d M tgt lv (st) hs Q) (kf : ¬ (x = 0) → mx_Ok S l G d M pc2 lv (st) hs Q) : mx_Ok S l G d M pc lv (.int x :: st) hs Q := by
  obtain ⟨hd, rfl, ht⟩ := hd
  by_cases hc : x = 0
  · exact mx_go (fun _ _ _ _ _ _ _ _ _ _ _ _ _ _ _ hF _ _ hl w => lv_if_eq hF.1 hF.2.1 hd ht (fun _ => w) (fun h => absurd hc h)) (kt hc)
  · exact mx_go (fun _ _ _ _ _ _ _ _ _ _ _ _ _ _ _ hF _ _ hl w => lv_if_eq hF.1 hF.2.1 hd ht (fun h => absurd h hc) (fun _ => w)) (kf hc)
theorem mx_icmp_ne {x y : Int32} (hd : decode M.2.1 pc = .ok (.if_icmp .ne off, 3) ∧ pc + 3 = pc2 ∧ (pc : Int) + off = (tgt : Int)) (kt : ¬ x = y → mx_Ok S l G d M tgt lv (st) hs Q) (kf : ¬ (¬ x = y) → mx_Ok S l G d M pc2 lv (st) hs Q) : mx_Ok S l G d M pc lv (.int y :: .int x :: st) hs Q := by
  obtain ⟨hd, rfl, ht⟩ := hd
  by_cases hc : ¬ x = y
  · exact mx_go (fun _ _ _ _ _ _ _ _ _ _ _ _ _ _ _ hF _ _ hl w => lv_icmp_ne hF.1 hF.2.1 hd ht (fun _ => w) (fun h => absurd h hc)) (kt hc)
  · exact mx_go (fun _ _ _ _ _ _ _ _ _ _ _ _ _ _ _ hF _ _ hl w => lv_icmp_ne hF.1 hF.2.1 hd ht (fun h => absurd h hc) (fun _ => w)) (kf hc)
theorem mx_if_ne {x : Int32} (hd : decode M.2.1 pc = .ok (.ifCond .ne off, 3) ∧ pc + 3 = pc2 ∧ (pc : Int) + off = (tgt : Int)) (kt : ¬ x = 0 → mx_Ok S l G d M tgt lv (st) hs Q) (kf : ¬ (¬ x = 0) → mx_Ok S l G d M pc2 lv (st) hs Q) : mx_Ok S l G d M pc lv (.int x :: st) hs Q := by
  obtain ⟨hd, rfl, ht⟩ := hd
  by_cases hc : ¬ x = 0
  · exact mx_go (fun _ _ _ _ _ _ _ _ _ _ _ _ _ _ _ hF _ _ hl w => lv_if_ne hF.1 hF.2.1 hd ht (fun _ => w) (fun h => absurd h hc)) (kt hc)
  · exact mx_go (fun _ _ _ _ _ _ _ _ _ _ _ _ _ _ _ hF _ _ hl w => lv_if_ne hF.1 hF.2.1 hd ht (fun h => absurd h hc) (fun _ => w)) (kf hc)
theorem mx_icmp_lt {x y : Int32} (hd : decode M.2.1 pc = .ok (.if_icmp .lt off, 3) ∧ pc + 3 = pc2 ∧ (pc : Int) + off = (tgt : Int)) (kt : x < y → mx_Ok S l G d M tgt lv (st) hs Q) (kf : ¬ (x < y) → mx_Ok S l G d M pc2 lv (st) hs Q) : mx_Ok S l G d M pc lv (.int y :: .int x :: st) hs Q := by
  obtain ⟨hd, rfl, ht⟩ := hd
  by_cases hc : x < y
  · exact mx_go (fun _ _ _ _ _ _ _ _ _ _ _ _ _ _ _ hF _ _ hl w => lv_icmp_lt hF.1 hF.2.1 hd ht (fun _ => w) (fun h => absurd hc h)) (kt hc)
  · exact mx_go (fun _ _ _ _ _ _ _ _ _ _ _ _ _ _ _ hF _ _ hl w => lv_icmp_lt hF.1 hF.2.1 hd ht (fun h => absurd h hc) (fun _ => w)) (kf hc)
theorem mx_if_lt {x : Int32} (hd : decode M.2.1 pc = .ok (.ifCond .lt off, 3) ∧ pc + 3 = pc2 ∧ (pc : Int) + off = (tgt : Int)) (kt : x < 0 → mx_Ok S l G d M tgt lv (st) hs Q) (kf : ¬ (x < 0) → mx_Ok S l G d M pc2 lv (st) hs Q) : mx_Ok S l G d M pc lv (.int x :: st) hs Q := by
  obtain ⟨hd, rfl, ht⟩ := hd
  by_cases hc : x < 0
  · exact mx_go (fun _ _ _ _ _ _ _ _ _ _ _ _ _ _ _ hF _ _ hl w => lv_if_lt hF.1 hF.2.1 hd ht (fun _ => w) (fun h => absurd hc h)) (kt hc)
  · exact mx_go (fun _ _ _ _ _ _ _ _ _ _ _ _ _ _ _ hF _ _ hl w => lv_if_lt hF.1 hF.2.1 hd ht (fun h => absurd h hc) (fun _ => w)) (kf hc)
theorem mx_icmp_ge {x y : Int32} (hd : decode M.2.1 pc = .ok (.if_icmp .ge off, 3) ∧ pc + 3 = pc2 ∧ (pc : Int) + off = (tgt : Int)) (kt : y ≤ x → mx_Ok S l G d M tgt lv (st) hs Q) (kf : ¬ (y ≤ x) → mx_Ok S l G d M pc2 lv (st) hs Q) : mx_Ok S l G d M pc lv (.int y :: .int x :: st) hs Q := by
  obtain ⟨hd, rfl, ht⟩ := hd
  by_cases hc : y ≤ x
  · exact mx_go (fun _ _ _ _ _ _ _ _ _ _ _ _ _ _ _ hF _ _ hl w => lv_icmp_ge hF.1 hF.2.1 hd ht (fun _ => w) (fun h => absurd hc h)) (kt hc)
  · exact mx_go (fun _ _ _ _ _ _ _ _ _ _ _ _ _ _ _ hF _ _ hl w => lv_icmp_ge hF.1 hF.2.1 hd ht (fun h => absurd h hc) (fun _ => w)) (kf hc)
theorem mx_if_ge {x : Int32} (hd : decode M.2.1 pc = .ok (.ifCond .ge off, 3) ∧ pc + 3 = pc2 ∧ (pc : Int) + off = (tgt : Int)) (kt : 0 ≤ x → mx_Ok S l G d M tgt lv (st) hs Q) (kf : ¬ (0 ≤ x) → mx_Ok S l G d M pc2 lv (st) hs Q) : mx_Ok S l G d M pc lv (.int x :: st) hs Q := by
  obtain ⟨hd, rfl, ht⟩ := hd
  by_cases hc : 0 ≤ x
  · exact mx_go (fun _ _ _ _ _ _ _ _ _ _ _ _ _ _ _ hF _ _ hl w => lv_if_ge hF.1 hF.2.1 hd ht (fun _ => w) (fun h => absurd hc h)) (kt hc)
  · exact mx_go (fun _ _ _ _ _ _ _ _ _ _ _ _ _ _ _ hF _ _ hl w => lv_if_ge hF.1 hF.2.1 hd ht (fun h => absurd h hc) (fun _ => w)) (kf hc)
theorem mx_icmp_gt {x y : Int32} (hd : decode M.2.1 pc = .ok (.if_icmp .gt off, 3) ∧ pc + 3 = pc2 ∧ (pc : Int) + off = (tgt : Int)) (kt : y < x → mx_Ok S l G d M tgt lv (st) hs Q) (kf : ¬ (y < x) → mx_Ok S l G d M pc2 lv (st) hs Q) : mx_Ok S l G d M pc lv (.int y :: .int x :: st) hs Q := by
  obtain ⟨hd, rfl, ht⟩ := hd
  by_cases hc : y < x
  · exact mx_go (fun _ _ _ _ _ _ _ _ _ _ _ _ _ _ _ hF _ _ hl w => lv_icmp_gt hF.1 hF.2.1 hd ht (fun _ => w) (fun h => absurd hc h)) (kt hc)
  · exact mx_go (fun _ _ _ _ _ _ _ _ _ _ _ _ _ _ _ hF _ _ hl w => lv_icmp_gt hF.1 hF.2.1 hd ht (fun h => absurd h hc) (fun _ => w)) (kf hc)
theorem mx_if_gt {x : Int32} (hd : decode M.2.1 pc = .ok (.ifCond .gt off, 3) ∧ pc + 3 = pc2 ∧ (pc : Int) + off = (tgt : Int)) (kt : 0 < x → mx_Ok S l G d M tgt lv (st) hs Q) (kf : ¬ (0 < x) → mx_Ok S l G d M pc2 lv (st) hs Q) : mx_Ok S l G d M pc lv (.int x :: st) hs Q := by
  obtain ⟨hd, rfl, ht⟩ := hd
  by_cases hc : 0 < x
  · exact mx_go (fun _ _ _ _ _ _ _ _ _ _ _ _ _ _ _ hF _ _ hl w => lv_if_gt hF.1 hF.2.1 hd ht (fun _ => w) (fun h => absurd hc h)) (kt hc)
  · exact mx_go (fun _ _ _ _ _ _ _ _ _ _ _ _ _ _ _ hF _ _ hl w => lv_if_gt hF.1 hF.2.1 hd ht (fun h => absurd h hc) (fun _ => w)) (kf hc)
theorem mx_icmp_le {x y : Int32} (hd : decode M.2.1 pc = .ok (.if_icmp .le off, 3) ∧ pc + 3 = pc2 ∧ (pc : Int) + off = (tgt : Int)) (kt : x ≤ y → mx_Ok S l G d M tgt lv (st) hs Q) (kf : ¬ (x ≤ y) → mx_Ok S l G d M pc2 lv (st) hs Q) : mx_Ok S l G d M pc lv (.int y :: .int x :: st) hs Q := by
  obtain ⟨hd, rfl, ht⟩ := hd
  by_cases hc : x ≤ y
  · exact mx_go (fun _ _ _ _ _ _ _ _ _ _ _ _ _ _ _ hF _ _ hl w => lv_icmp_le hF.1 hF.2.1 hd ht (fun _ => w) (fun h => absurd hc h)) (kt hc)
  · exact mx_go (fun _ _ _ _ _ _ _ _ _ _ _ _ _ _ _ hF _ _ hl w => lv_icmp_le hF.1 hF.2.1 hd ht (fun h => absurd h hc) (fun _ => w)) (kf hc)
theorem mx_if_le {x : Int32} (hd : decode M.2.1 pc = .ok (.ifCond .le off, 3) ∧ pc + 3 = pc2 ∧ (pc : Int) + off = (tgt : Int)) (kt : x ≤ 0 → mx_Ok S l G d M tgt lv (st) hs Q) (kf : ¬ (x ≤ 0) → mx_Ok S l G d M pc2 lv (st) hs Q) : mx_Ok S l G d M pc lv (.int x :: st) hs Q := by
  obtain ⟨hd, rfl, ht⟩ := hd
  by_cases hc : x ≤ 0
  · exact mx_go (fun _ _ _ _ _ _ _ _ _ _ _ _ _ _ _ hF _ _ hl w => lv_if_le hF.1 hF.2.1 hd ht (fun _ => w) (fun h => absurd hc h)) (kt hc)
  · exact mx_go (fun _ _ _ _ _ _ _ _ _ _ _ _ _ _ _ hF _ _ hl w => lv_if_le hF.1 hF.2.1 hd ht (fun h => absurd h hc) (fun _ => w)) (kf hc)
theorem mx_goto (hd : decode M.2.1 pc = .ok (.goto off, 3) ∧ pc + 3 = pc2 ∧ (pc : Int) + off = (tgt : Int)) (k : mx_Ok S l G d M tgt lv (st) hs Q) : mx_Ok S l G d M pc lv (st) hs Q := by
  obtain ⟨hd, -, ht⟩ := hd
  exact mx_go (fun _ _ _ _ _ _ _ _ _ _ _ _ _ _ _ hF _ _ hl w => lv_goto hF.1 hF.2.1 hd ht w) k
theorem mx_ifnull {v : Value} (hd : decode M.2.1 pc = .ok (.ifnull off, 3) ∧ pc + 3 = pc2 ∧ (pc : Int) + off = (tgt : Int)) (hv : v = .null ∨ ∃ x, v = .ref x) (kt : v = .null → mx_Ok S l G d M tgt lv (st) hs Q) (kf : ∀ x, v = .ref x → mx_Ok S l G d M pc2 lv (st) hs Q) : mx_Ok S l G d M pc lv (v :: st) hs Q := by
  obtain ⟨hd, rfl, ht⟩ := hd
  rcases hv with rfl | ⟨x, rfl⟩
  · exact mx_go (fun _ _ _ _ _ _ _ _ _ _ _ _ _ _ _ hF _ _ hl w => lv_ifnullN hF.1 hF.2.1 hd ht w) (kt rfl)
  · exact mx_go (fun _ _ _ _ _ _ _ _ _ _ _ _ _ _ _ hF _ _ hl w => lv_ifnull hF.1 hF.2.1 hd w) (kf x rfl)
theorem mx_ifnonnull {v : Value} (hd : decode M.2.1 pc = .ok (.ifnonnull off, 3) ∧ pc + 3 = pc2 ∧ (pc : Int) + off = (tgt : Int)) (hv : v = .null ∨ ∃ x, v = .ref x) (kt : ∀ x, v = .ref x → mx_Ok S l G d M tgt lv (st) hs Q) (kf : v = .null → mx_Ok S l G d M pc2 lv (st) hs Q) : mx_Ok S l G d M pc lv (v :: st) hs Q := by
  obtain ⟨hd, rfl, ht⟩ := hd
  rcases hv with rfl | ⟨x, rfl⟩
  · exact mx_go (fun _ _ _ _ _ _ _ _ _ _ _ _ _ _ _ hF _ _ hl w => lv_ifnonnullN hF.1 hF.2.1 hd w) (kf rfl)
  · exact mx_go (fun _ _ _ _ _ _ _ _ _ _ _ _ _ _ _ hF _ _ hl w => lv_ifnonnull hF.1 hF.2.1 hd ht w) (kt x rfl)
theorem mx_lookup {dflt o : Int} {ps : Array (Int × Int)} {n : Nat} {x : Int32} (hd : decode M.2.1 pc = .ok (.lookupswitch dflt ps, n)) (hp : (ps.toList.zip (ps.toList.drop 1)).all (fun (a, next) => a.1 < next.1) = true) (ho : Op.lookupswitch.offset ps.toList dflt x.toInt = o) (ht : (pc : Int) + o = (tgt : Int)) (k : mx_Ok S l G d M tgt lv (st) hs Q) : mx_Ok S l G d M pc lv (.int x :: st) hs Q := mx_go (fun _ _ _ _ _ _ _ _ _ _ _ _ _ _ _ hF _ _ hl w => lv_lookup hF.1 hF.2.1 hd hp ho ht w) k
theorem mx_tableOut {dflt lo hi : Int} {offs : Array Int} {n : Nat} {x : Int32} (hd : decode M.2.1 pc = .ok (.tableswitch dflt lo hi offs, n)) (h : x.toInt < lo ∨ hi < x.toInt) (ht : (pc : Int) + dflt = (tgt : Int)) (k : mx_Ok S l G d M tgt lv (st) hs Q) : mx_Ok S l G d M pc lv (.int x :: st) hs Q := mx_go (fun _ _ _ _ _ _ _ _ _ _ _ _ _ _ _ hF _ _ hl w => lv_tableOut hF.1 hF.2.1 hd h ht w) k
theorem mx_tableIn {dflt lo hi o : Int} {offs : Array Int} {n : Nat} {x : Int32} (hd : decode M.2.1 pc = .ok (.tableswitch dflt lo hi offs, n)) (h1 : ¬ x.toInt < lo) (h2 : ¬ hi < x.toInt) (ho : offs[(x.toInt - lo).toNat]? = some o) (ht : (pc : Int) + o = (tgt : Int)) (k : mx_Ok S l G d M tgt lv (st) hs Q) : mx_Ok S l G d M pc lv (.int x :: st) hs Q := mx_go (fun _ _ _ _ _ _ _ _ _ _ _ _ _ _ _ hF _ _ hl w => lv_tableIn hF.1 hF.2.1 hd h1 h2 ho ht w) k
theorem mx_ireturn {v : Int32} {ty : FieldType} (hd : decode M.2.1 pc = .ok (.ireturn, 1)) (hr : M.2.2.2 = some ty) (hn : narrow ty (.int v) = .int v) (k : Q (some (.int v)) hs) : mx_Ok S l G d M pc lv ([.int v]) hs Q := mx_end (Or.inl ⟨v, ty, rfl, hr, hn, hd⟩) rfl k
theorem mx_lreturn {v : Int64} (hd : decode M.2.1 pc = .ok (.lreturn, 1)) (hr : M.2.2.2 = some .long) (k : Q (some (.long v)) hs) : mx_Ok S l G d M pc lv ([.long v]) hs Q := mx_end (Or.inr (Or.inl ⟨v, rfl, hr, hd⟩)) rfl k
theorem mx_return  (hd : decode M.2.1 pc = .ok (.return_, 1)) (hr : M.2.2.2 = none) (k : Q (none) hs) : mx_Ok S l G d M pc lv ([]) hs Q := mx_end (Or.inr (Or.inr (Or.inl ⟨rfl, hr, hd⟩))) rfl k
theorem mx_areturn {v : Value} {ty : FieldType} (hd : decode M.2.1 pc = .ok (.areturn, 1)) (hr : M.2.2.2 = some ty) (ht : (∃ n, ty = .object n) ∨ ∃ t, ty = .array t) (hv : v = .null ∨ ∃ a, v = .ref a) (k : Q (some v) hs) : mx_Ok S l G d M pc lv ([v]) hs Q := mx_end (Or.inr (Or.inr (Or.inr ⟨v, ty, rfl, hr, ht, hv, hd⟩))) rfl k
end MXI
