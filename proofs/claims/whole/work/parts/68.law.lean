/-! THE LAW: its loop. -/
def mx_cut (hs : mx_H) : mx_H := (fun q => if q < hs.2.1 then hs.1 q else none, hs.2)
theorem mx_Ok.cut {S : mx_S} {l : Launch} {G : mx_G} {d pc : Nat} {M : mx_M} {lv : List (Nat × Value)} {st : List Value} {hs : mx_H} {Q : Option Value → mx_H → Prop} (h : mx_Ok S l G d M pc lv st hs Q) : mx_Ok S l G d M pc lv st hs (fun v fin => ∃ fin0, fin = mx_cut fin0 ∧ Q v fin0) := by
  obtain ⟨r, fin, ⟨h1, h2, h3⟩, hq⟩ := h
  refine ⟨r, mx_cut fin, ⟨h1, h2, fun p e R s m args below meth c H locs cells slots ls Q' hF hK hR hl hlo hd hld hc hsl kk => h3 p e R s m args below meth c H locs cells slots ls Q' hF hK hR hl hlo hd hld hc hsl (fun pc' ls' H' locs' hR' hlo' hr' => kk pc' ls' H' locs' ⟨hR'.1, fun a x hx => hR'.2.1 a x ?_, hR'.2.2⟩ hlo' hr')⟩, fin, rfl, hq⟩
  have hx : (if a < fin.2.1 then fin.1 a else none) = some x := hx
  by_cases h : a < fin.2.1
  · rw [if_pos h] at hx
    exact hx
  · rw [if_neg h] at hx
    cases hx
def LI (b0 bx r : Nat) (vs : List Value) (Z1 Z2 i : Nat) (hs : mx_H) (o : lz_O) (m : rm_M) : Prop := hs.1 b0 = some (101, vs) ∧ lb_ob hs bx o ∧ rm_ob hs r m ∧ rx m o ∧ hs.2.1 ≤ Z1 + 20 * i ∧ hs.2.2 ≤ Z2 + 100 * i
section LAW
variable {l : Launch} {G : mx_G} {d b0 bx r Z1 Z2 i L : Nat} {hs hs2 hs3 : mx_H} {o o2 : lz_O} {m m2 : rm_M} {vs : List Value} {xs : Nat → Int32} {Q : Option Value → mx_H → Prop} {M : mx_M} {args : List Value} {Q0 : Option Value → rm_M → Prop}
theorem r_call (h : mr_C l G r d M args m Q0) (hob : rm_ob hs r m) (hw : mx_wf hs) (k : ∀ v hs2 m2, rm_ob hs2 r m2 → mx_fr rm_k0 hs hs2 → hs2.2 = hs.2 → mx_wf hs2 → Q0 v m2 → Q v hs2) : mx_C mx_S0 l G d M (.ref r :: args) hs Q := by
  refine mx_Ok.mono (h hs hob).cut ?_
  rintro v fin ⟨f0, rfl, m2, a1, a2, a3, a4⟩
  have lt : ∀ q x, hs.1 q = some x → q < f0.2.1 := fun q x hq => by rw [a3]; exact hw q x hq
  have hc : ∀ q, q < f0.2.1 → (mx_cut f0).1 q = f0.1 q := fun q hq => if_pos hq
  refine k v _ m2 ⟨?_, fun j hj hj0 => ?_⟩ ⟨fun q x hq hp => ?_, a2.2⟩ a3 (fun q x hq => ?_) a4
  · rw [hc _ (lt r _ hob.1)]
    exact a1.1
  · rw [hc _ (lt _ _ (hob.2 j hj hj0))]
    exact a1.2 j hj hj0
  · rw [hc _ (lt q x hq)]
    exact a2.1 q x hq hp
  · have hq : (if q < f0.2.1 then f0.1 q else none) = some x := hq
    by_cases h : q < f0.2.1
    · exact h
    · rw [if_neg h] at hq
      cases hq
theorem lb_ob.fr (h : lb_ob hs bx o) (f : mx_fr rm_k0 hs hs2) (hw : mx_wf hs2) : lb_ob hs2 bx o := by
  obtain ⟨A, wq, L, es, dp, bq, h1, h2, ⟨k1, k2, k3, k4, k5, ⟨u1, ⟨ps, u2, u3, u4⟩, ⟨ks, u5, u6, u7⟩, u8, u9, u10, u11, u12⟩, k7, k8⟩, h4, h5⟩ := h
  refine ⟨A, wq, L, es, dp, bq, f.1 _ _ h1 rfl, h2.fr f rfl rfl, ⟨f.1 _ _ k1 rfl, f.1 _ _ k2 rfl, fun i hi => f.1 _ _ (k3 i hi) rfl, f.1 _ _ k4 rfl, k5, ⟨f.1 _ _ u1 rfl, ⟨ps, f.1 _ _ u2 rfl, u3, u4⟩, ⟨ks, f.1 _ _ u5 rfl, u6, u7⟩, fun i hi => ⟨f.1 _ _ (u8 i hi).1 rfl, f.1 _ _ (u8 i hi).2 rfl⟩, u9, u10, u11, hw⟩, k7, k8⟩, fun i hi => ?_, h5⟩
  obtain ⟨es, dp, bp, t1, t2⟩ := h4 i hi
  exact ⟨es, dp, bp, t1.fr f rfl rfl, t2⟩
theorem lb_ob.wf (h : lb_ob hs bx o) : mx_wf hs := by
  obtain ⟨A, wq, L, es, dp, bq, h1, h2, h3, h4⟩ := h
  exact h3.sto.wf
theorem lb_ob.hd (h : lb_ob hs bx o) : ∃ fs, hs.1 bx = some (0, fs) := by
  obtain ⟨A, wq, L, es, dp, bq, h1, h2⟩ := h
  exact ⟨_, h1⟩
theorem rm_lbk : ∀ j, j < 36 → rm_kd j ≠ 0 → lb_k0 (rm_kd j) = true := by decide
theorem rm_ob.fr (h : rm_ob hs r m) (f : mx_fr lb_k0 hs hs2) : rm_ob hs2 r m := ⟨f.1 _ _ h.1 rfl, fun j hj hj0 => f.1 _ _ (h.2 j hj hj0) (rm_lbk j hj hj0)⟩
theorem LI.cl (I : LI b0 bx r vs Z1 Z2 i hs o m) (R : lb_R hs bx o o2 hs2) : hs2.1 b0 = some (101, vs) ∧ lb_ob hs2 bx o2 ∧ rm_ob hs2 r m ∧ mx_wf hs2 ∧ hs2.2.1 ≤ Z1 + 20 * (i + 3) ∧ hs2.2.2 ≤ Z2 + 100 * (i + 3) := by
  obtain ⟨i1, i2, i3, i4, i5, i6⟩ := I
  obtain ⟨r1, r2, r3, r4⟩ := R
  have := r1.size
  exact ⟨r2.1 _ _ i1 rfl, r1, i3.fr r2, r1.wf, by omega, by omega⟩
theorem LI.rf (I : LI b0 bx r vs Z1 Z2 i hs o m) (R : lb_R hs bx o o2 hs2) (h1 : rm_ob hs3 r m2) (h2 : mx_fr rm_k0 hs2 hs3) (h3 : hs3.2 = hs2.2) (h4 : mx_wf hs3) (h5 : rx m2 o2) : LI b0 bx r vs Z1 Z2 (i + 3) hs3 o2 m2 := by
  obtain ⟨q1, q2, q3, q4, q5, q6⟩ := I.cl R
  exact ⟨h2.1 _ _ q1 rfl, q2.fr h2 h4, h1, h5, by rw [h3]; exact q5, by rw [h3]; exact q6⟩

theorem lw_104 (I : LI b0 bx r vs Z1 Z2 i hs o m) (hv : ∀ j, j < L → vs[j]? = some (.int (xs j))) (hL : L < 2000) (hi : i + 3 ≤ L) (kn : ∀ hs3 o2 m2, LI b0 bx r vs Z1 Z2 (i + 3) hs3 o2 m2 → mx_Ok mx_S0 l G 251 mm_LW_law 494 [(0, .ref b0), (1, .ref bx), (2, .ref r), (3, .int (nI i))] [] hs3 Q) : mx_Ok mx_S0 l G 251 mm_LW_law 104 [(0, .ref b0), (1, .ref bx), (2, .ref r), (3, .int (nI i))] [] hs Q := by
  have a1 : ¬ nI i + 1 < 0 := by rw [nI_1]; exact nI_pos (by omega)
  have g1 : vs[Int32.toNatClampNeg (nI i + 1)]? = some (.int (xs (i + 1))) := by rw [nI_1, nI_clamp (by omega)]; exact hv _ (by omega)
  have e2 : nI i + 2 = nI (i + 2) := by rw [show (2 : Int32) = nI 2 from rfl, nI_add]
  have a2 : ¬ nI i + 2 < 0 := by rw [e2]; exact nI_pos (by omega)
  have g2 : vs[Int32.toNatClampNeg (nI i + 2)]? = some (.int (xs (i + 2))) := by rw [e2, nI_clamp (by omega)]; exact hv _ (by omega)
  refine wp_LW_law_104 (d := 250) _ _ _ _ ⟨vs, xs (i + 1), I.1, a1, g1, I.2.1.hd, c_type (d := 246) I.2.1 (fun hs2 R => ?_)⟩
  obtain ⟨q1, q2, q3, q4, -, -⟩ := I.cl R
  refine ⟨_, rfl, vs, xs (i + 1), q1, a1, g1, ⟨_, q3.1⟩, r_call (r_type (d := 248) (Q := fun v m2 => v = some (.int (so_type (xs (i + 1)) o).1) ∧ rx m2 (so_type (xs (i + 1)) o).2) I.2.2.2.1 (fun m2 h => ⟨rfl, h⟩)) q3 q4 (fun v hs3 m2 p1 p2 p3 p4 p5 => ⟨_, p5.1, fun _ => kn hs3 _ m2 (I.rf R p1 p2 p3 p4 p5.2), fun z => absurd rfl z⟩)⟩
theorem lw_127 (I : LI b0 bx r vs Z1 Z2 i hs o m) (hv : ∀ j, j < L → vs[j]? = some (.int (xs j))) (hL : L < 2000) (hi : i + 3 ≤ L) (kn : ∀ hs3 o2 m2, LI b0 bx r vs Z1 Z2 (i + 3) hs3 o2 m2 → mx_Ok mx_S0 l G 251 mm_LW_law 494 [(0, .ref b0), (1, .ref bx), (2, .ref r), (3, .int (nI i))] [] hs3 Q) : mx_Ok mx_S0 l G 251 mm_LW_law 127 [(0, .ref b0), (1, .ref bx), (2, .ref r), (3, .int (nI i))] [] hs Q := by
  have a1 : ¬ nI i + 1 < 0 := by rw [nI_1]; exact nI_pos (by omega)
  have g1 : vs[Int32.toNatClampNeg (nI i + 1)]? = some (.int (xs (i + 1))) := by rw [nI_1, nI_clamp (by omega)]; exact hv _ (by omega)
  have e2 : nI i + 2 = nI (i + 2) := by rw [show (2 : Int32) = nI 2 from rfl, nI_add]
  have a2 : ¬ nI i + 2 < 0 := by rw [e2]; exact nI_pos (by omega)
  have g2 : vs[Int32.toNatClampNeg (nI i + 2)]? = some (.int (xs (i + 2))) := by rw [e2, nI_clamp (by omega)]; exact hv _ (by omega)
  refine wp_LW_law_127 (d := 250) _ _ _ _ ⟨vs, xs (i + 1), I.1, a1, g1, vs, xs (i + 2), I.1, a2, g2, I.2.1.hd, c_types (d := 246) I.2.1 (fun hs2 R => ?_)⟩
  obtain ⟨q1, q2, q3, q4, -, -⟩ := I.cl R
  refine ⟨_, rfl, vs, xs (i + 1), q1, a1, g1, vs, xs (i + 2), q1, a2, g2, ⟨_, q3.1⟩, r_call (r_types (d := 247) (Q := fun v m2 => v = some (.int (so_types (((Int32.toInt64 (xs (i + 1))) <<< (Int32.toInt64 32 &&& 63)) ||| ((Int32.toInt64 (xs (i + 2))) &&& 4294967295)) 8 o).1) ∧ rx m2 (so_types (((Int32.toInt64 (xs (i + 1))) <<< (Int32.toInt64 32 &&& 63)) ||| ((Int32.toInt64 (xs (i + 2))) &&& 4294967295)) 8 o).2) I.2.2.2.1 (fun m2 h => ⟨rfl, h⟩)) q3 q4 (fun v hs3 m2 p1 p2 p3 p4 p5 => ⟨_, p5.1, fun _ => kn hs3 _ m2 (I.rf R p1 p2 p3 p4 p5.2), fun z => absurd rfl z⟩)⟩
theorem lw_180 (I : LI b0 bx r vs Z1 Z2 i hs o m) (hv : ∀ j, j < L → vs[j]? = some (.int (xs j))) (hL : L < 2000) (hi : i + 3 ≤ L) (kn : ∀ hs3 o2 m2, LI b0 bx r vs Z1 Z2 (i + 3) hs3 o2 m2 → mx_Ok mx_S0 l G 251 mm_LW_law 494 [(0, .ref b0), (1, .ref bx), (2, .ref r), (3, .int (nI i))] [] hs3 Q) : mx_Ok mx_S0 l G 251 mm_LW_law 180 [(0, .ref b0), (1, .ref bx), (2, .ref r), (3, .int (nI i))] [] hs Q := by
  have a1 : ¬ nI i + 1 < 0 := by rw [nI_1]; exact nI_pos (by omega)
  have g1 : vs[Int32.toNatClampNeg (nI i + 1)]? = some (.int (xs (i + 1))) := by rw [nI_1, nI_clamp (by omega)]; exact hv _ (by omega)
  have e2 : nI i + 2 = nI (i + 2) := by rw [show (2 : Int32) = nI 2 from rfl, nI_add]
  have a2 : ¬ nI i + 2 < 0 := by rw [e2]; exact nI_pos (by omega)
  have g2 : vs[Int32.toNatClampNeg (nI i + 2)]? = some (.int (xs (i + 2))) := by rw [e2, nI_clamp (by omega)]; exact hv _ (by omega)
  refine wp_LW_law_180 (d := 250) _ _ _ _ ⟨vs, xs (i + 1), I.1, a1, g1, I.2.1.hd, c_define (d := 250) (by decide) I.2.1 (fun hs2 R => ?_)⟩
  obtain ⟨q1, q2, q3, q4, -, -⟩ := I.cl R
  refine ⟨_, rfl, vs, xs (i + 1), q1, a1, g1, ⟨_, q3.1⟩, r_call (r_define (d := 246) (Q := fun v m2 => v = some (.int (so_define (xs (i + 1)) o).1) ∧ rx m2 (so_define (xs (i + 1)) o).2) I.2.2.2.1 (fun m2 h => ⟨rfl, h⟩)) q3 q4 (fun v hs3 m2 p1 p2 p3 p4 p5 => ⟨_, p5.1, fun _ => kn hs3 _ m2 (I.rf R p1 p2 p3 p4 p5.2), fun z => absurd rfl z⟩)⟩
theorem lw_203 (I : LI b0 bx r vs Z1 Z2 i hs o m) (hv : ∀ j, j < L → vs[j]? = some (.int (xs j))) (hL : L < 2000) (hi : i + 3 ≤ L) (kn : ∀ hs3 o2 m2, LI b0 bx r vs Z1 Z2 (i + 3) hs3 o2 m2 → mx_Ok mx_S0 l G 251 mm_LW_law 494 [(0, .ref b0), (1, .ref bx), (2, .ref r), (3, .int (nI i))] [] hs3 Q) : mx_Ok mx_S0 l G 251 mm_LW_law 203 [(0, .ref b0), (1, .ref bx), (2, .ref r), (3, .int (nI i))] [] hs Q := by
  have a1 : ¬ nI i + 1 < 0 := by rw [nI_1]; exact nI_pos (by omega)
  have g1 : vs[Int32.toNatClampNeg (nI i + 1)]? = some (.int (xs (i + 1))) := by rw [nI_1, nI_clamp (by omega)]; exact hv _ (by omega)
  have e2 : nI i + 2 = nI (i + 2) := by rw [show (2 : Int32) = nI 2 from rfl, nI_add]
  have a2 : ¬ nI i + 2 < 0 := by rw [e2]; exact nI_pos (by omega)
  have g2 : vs[Int32.toNatClampNeg (nI i + 2)]? = some (.int (xs (i + 2))) := by rw [e2, nI_clamp (by omega)]; exact hv _ (by omega)
  refine wp_LW_law_203 (d := 250) _ _ _ _ ⟨vs, xs (i + 1), I.1, a1, g1, I.2.1.hd, c_undefine (d := 247) I.2.1 (fun hs2 R => ?_)⟩
  obtain ⟨q1, q2, q3, q4, -, -⟩ := I.cl R
  refine ⟨_, rfl, vs, xs (i + 1), q1, a1, g1, ⟨_, q3.1⟩, r_call (r_undefine (d := 248) (Q := fun v m2 => v = some (.int (so_undefine (xs (i + 1)) o).1) ∧ rx m2 (so_undefine (xs (i + 1)) o).2) I.2.2.2.1 (fun m2 h => ⟨rfl, h⟩)) q3 q4 (fun v hs3 m2 p1 p2 p3 p4 p5 => ⟨_, p5.1, fun _ => kn hs3 _ m2 (I.rf R p1 p2 p3 p4 p5.2), fun z => absurd rfl z⟩)⟩
theorem lw_226 (I : LI b0 bx r vs Z1 Z2 i hs o m) (hv : ∀ j, j < L → vs[j]? = some (.int (xs j))) (hL : L < 2000) (hi : i + 3 ≤ L) (kn : ∀ hs3 o2 m2, LI b0 bx r vs Z1 Z2 (i + 3) hs3 o2 m2 → mx_Ok mx_S0 l G 251 mm_LW_law 494 [(0, .ref b0), (1, .ref bx), (2, .ref r), (3, .int (nI i))] [] hs3 Q) : mx_Ok mx_S0 l G 251 mm_LW_law 226 [(0, .ref b0), (1, .ref bx), (2, .ref r), (3, .int (nI i))] [] hs Q := by
  have a1 : ¬ nI i + 1 < 0 := by rw [nI_1]; exact nI_pos (by omega)
  have g1 : vs[Int32.toNatClampNeg (nI i + 1)]? = some (.int (xs (i + 1))) := by rw [nI_1, nI_clamp (by omega)]; exact hv _ (by omega)
  have e2 : nI i + 2 = nI (i + 2) := by rw [show (2 : Int32) = nI 2 from rfl, nI_add]
  have a2 : ¬ nI i + 2 < 0 := by rw [e2]; exact nI_pos (by omega)
  have g2 : vs[Int32.toNatClampNeg (nI i + 2)]? = some (.int (xs (i + 2))) := by rw [e2, nI_clamp (by omega)]; exact hv _ (by omega)
  refine wp_LW_law_226 (d := 250) _ _ _ _ ⟨vs, xs (i + 1), I.1, a1, g1, I.2.1.hd, c_force (d := 250) (by decide) I.2.1 (fun hs2 R => ?_)⟩
  obtain ⟨q1, q2, q3, q4, -, -⟩ := I.cl R
  refine ⟨_, rfl, vs, xs (i + 1), q1, a1, g1, ⟨_, q3.1⟩, r_call (r_force (d := 240) (Q := fun v m2 => v = some (.int (so_force (xs (i + 1)) o).1) ∧ rx m2 (so_force (xs (i + 1)) o).2) I.2.2.2.1 (fun m2 h => ⟨rfl, h⟩)) q3 q4 (fun v hs3 m2 p1 p2 p3 p4 p5 => ⟨_, p5.1, fun _ => kn hs3 _ m2 (I.rf R p1 p2 p3 p4 p5.2), fun z => absurd rfl z⟩)⟩
theorem lw_249 (I : LI b0 bx r vs Z1 Z2 i hs o m) (hv : ∀ j, j < L → vs[j]? = some (.int (xs j))) (hL : L < 2000) (hi : i + 3 ≤ L) (kn : ∀ hs3 o2 m2, LI b0 bx r vs Z1 Z2 (i + 3) hs3 o2 m2 → mx_Ok mx_S0 l G 251 mm_LW_law 494 [(0, .ref b0), (1, .ref bx), (2, .ref r), (3, .int (nI i))] [] hs3 Q) : mx_Ok mx_S0 l G 251 mm_LW_law 249 [(0, .ref b0), (1, .ref bx), (2, .ref r), (3, .int (nI i))] [] hs Q := by
  have a1 : ¬ nI i + 1 < 0 := by rw [nI_1]; exact nI_pos (by omega)
  have g1 : vs[Int32.toNatClampNeg (nI i + 1)]? = some (.int (xs (i + 1))) := by rw [nI_1, nI_clamp (by omega)]; exact hv _ (by omega)
  have e2 : nI i + 2 = nI (i + 2) := by rw [show (2 : Int32) = nI 2 from rfl, nI_add]
  have a2 : ¬ nI i + 2 < 0 := by rw [e2]; exact nI_pos (by omega)
  have g2 : vs[Int32.toNatClampNeg (nI i + 2)]? = some (.int (xs (i + 2))) := by rw [e2, nI_clamp (by omega)]; exact hv _ (by omega)
  refine wp_LW_law_249 (d := 250) _ _ _ _ ⟨I.2.1.hd, c_show (d := 250) (by decide) I.2.1 (fun hs2 R => ?_)⟩
  obtain ⟨q1, q2, q3, q4, -, -⟩ := I.cl R
  refine ⟨_, rfl, ⟨_, q3.1⟩, r_call (r_show (d := 240) (Q := fun v m2 => v = some (.int (so_show o).1) ∧ rx m2 (so_show o).2) I.2.2.2.1 (fun m2 h => ⟨rfl, h⟩)) q3 q4 (fun v hs3 m2 p1 p2 p3 p4 p5 => ⟨_, p5.1, fun _ => kn hs3 _ m2 (I.rf R p1 p2 p3 p4 p5.2), fun z => absurd rfl z⟩)⟩
theorem lw_262 (I : LI b0 bx r vs Z1 Z2 i hs o m) (hv : ∀ j, j < L → vs[j]? = some (.int (xs j))) (hL : L < 2000) (hi : i + 3 ≤ L) (kn : ∀ hs3 o2 m2, LI b0 bx r vs Z1 Z2 (i + 3) hs3 o2 m2 → mx_Ok mx_S0 l G 251 mm_LW_law 494 [(0, .ref b0), (1, .ref bx), (2, .ref r), (3, .int (nI i))] [] hs3 Q) : mx_Ok mx_S0 l G 251 mm_LW_law 262 [(0, .ref b0), (1, .ref bx), (2, .ref r), (3, .int (nI i))] [] hs Q := by
  have a1 : ¬ nI i + 1 < 0 := by rw [nI_1]; exact nI_pos (by omega)
  have g1 : vs[Int32.toNatClampNeg (nI i + 1)]? = some (.int (xs (i + 1))) := by rw [nI_1, nI_clamp (by omega)]; exact hv _ (by omega)
  have e2 : nI i + 2 = nI (i + 2) := by rw [show (2 : Int32) = nI 2 from rfl, nI_add]
  have a2 : ¬ nI i + 2 < 0 := by rw [e2]; exact nI_pos (by omega)
  have g2 : vs[Int32.toNatClampNeg (nI i + 2)]? = some (.int (xs (i + 2))) := by rw [e2, nI_clamp (by omega)]; exact hv _ (by omega)
  have R := lb_R.rf I.2.1
  refine wp_LW_law_262 (d := 250) _ _ _ _ ⟨vs, xs (i + 1), I.1, a1, g1, I.2.1.hd, c_value (d := 248) I.2.1 ?_⟩
  obtain ⟨q1, q2, q3, q4, -, -⟩ := I.cl R
  refine ⟨_, rfl, vs, xs (i + 1), q1, a1, g1, ⟨_, q3.1⟩, r_call (r_value (d := 249) (Q := fun v m2 => v = some (.long (so_value (xs (i + 1)) o)) ∧ rx m2 o) I.2.2.2.1 ⟨rfl, I.2.2.2.1⟩) q3 q4 (fun v hs3 m2 p1 p2 p3 p4 p5 => ⟨_, p5.1, fun _ => kn hs3 _ m2 (I.rf R p1 p2 p3 p4 p5.2), fun z => absurd rfl z⟩)⟩
theorem lw_286 (I : LI b0 bx r vs Z1 Z2 i hs o m) (hv : ∀ j, j < L → vs[j]? = some (.int (xs j))) (hL : L < 2000) (hi : i + 3 ≤ L) (kn : ∀ hs3 o2 m2, LI b0 bx r vs Z1 Z2 (i + 3) hs3 o2 m2 → mx_Ok mx_S0 l G 251 mm_LW_law 494 [(0, .ref b0), (1, .ref bx), (2, .ref r), (3, .int (nI i))] [] hs3 Q) : mx_Ok mx_S0 l G 251 mm_LW_law 286 [(0, .ref b0), (1, .ref bx), (2, .ref r), (3, .int (nI i))] [] hs Q := by
  have a1 : ¬ nI i + 1 < 0 := by rw [nI_1]; exact nI_pos (by omega)
  have g1 : vs[Int32.toNatClampNeg (nI i + 1)]? = some (.int (xs (i + 1))) := by rw [nI_1, nI_clamp (by omega)]; exact hv _ (by omega)
  have e2 : nI i + 2 = nI (i + 2) := by rw [show (2 : Int32) = nI 2 from rfl, nI_add]
  have a2 : ¬ nI i + 2 < 0 := by rw [e2]; exact nI_pos (by omega)
  have g2 : vs[Int32.toNatClampNeg (nI i + 2)]? = some (.int (xs (i + 2))) := by rw [e2, nI_clamp (by omega)]; exact hv _ (by omega)
  refine wp_LW_law_286 (d := 250) _ _ _ _ ⟨vs, xs (i + 1), I.1, a1, g1, vs, xs (i + 2), I.1, a2, g2, I.2.1.hd, c_builder (d := 249) I.2.1 (fun hs2 R => ?_)⟩
  obtain ⟨q1, q2, q3, q4, -, -⟩ := I.cl R
  refine ⟨_, rfl, vs, xs (i + 1), q1, a1, g1, vs, xs (i + 2), q1, a2, g2, ⟨_, q3.1⟩, r_call (r_builder (d := 249) (Q := fun v m2 => v = some (.int (so_builder (xs (i + 1)) (xs (i + 2)) o).1) ∧ rx m2 (so_builder (xs (i + 1)) (xs (i + 2)) o).2) I.2.2.2.1 (fun m2 h => ⟨rfl, h⟩)) q3 q4 (fun v hs3 m2 p1 p2 p3 p4 p5 => ⟨_, p5.1, fun _ => kn hs3 _ m2 (I.rf R p1 p2 p3 p4 p5.2), fun z => absurd rfl z⟩)⟩
theorem lw_319 (I : LI b0 bx r vs Z1 Z2 i hs o m) (hv : ∀ j, j < L → vs[j]? = some (.int (xs j))) (hL : L < 2000) (hi : i + 3 ≤ L) (kn : ∀ hs3 o2 m2, LI b0 bx r vs Z1 Z2 (i + 3) hs3 o2 m2 → mx_Ok mx_S0 l G 251 mm_LW_law 494 [(0, .ref b0), (1, .ref bx), (2, .ref r), (3, .int (nI i))] [] hs3 Q) : mx_Ok mx_S0 l G 251 mm_LW_law 319 [(0, .ref b0), (1, .ref bx), (2, .ref r), (3, .int (nI i))] [] hs Q := by
  have a1 : ¬ nI i + 1 < 0 := by rw [nI_1]; exact nI_pos (by omega)
  have g1 : vs[Int32.toNatClampNeg (nI i + 1)]? = some (.int (xs (i + 1))) := by rw [nI_1, nI_clamp (by omega)]; exact hv _ (by omega)
  have e2 : nI i + 2 = nI (i + 2) := by rw [show (2 : Int32) = nI 2 from rfl, nI_add]
  have a2 : ¬ nI i + 2 < 0 := by rw [e2]; exact nI_pos (by omega)
  have g2 : vs[Int32.toNatClampNeg (nI i + 2)]? = some (.int (xs (i + 2))) := by rw [e2, nI_clamp (by omega)]; exact hv _ (by omega)
  refine wp_LW_law_319 (d := 250) _ _ _ _ ⟨vs, xs (i + 1), I.1, a1, g1, I.2.1.hd, c_build (d := 250) (by decide) I.2.1 (fun hs2 R => ?_)⟩
  obtain ⟨q1, q2, q3, q4, -, -⟩ := I.cl R
  refine ⟨_, rfl, vs, xs (i + 1), q1, a1, g1, ⟨_, q3.1⟩, r_call (r_build (d := 245) (Q := fun v m2 => v = some (.int (so_build (xs (i + 1)) o).1) ∧ rx m2 (so_build (xs (i + 1)) o).2) I.2.2.2.1 (fun m2 h => ⟨rfl, h⟩)) q3 q4 (fun v hs3 m2 p1 p2 p3 p4 p5 => ⟨_, p5.1, fun _ => kn hs3 _ m2 (I.rf R p1 p2 p3 p4 p5.2), fun z => absurd rfl z⟩)⟩
theorem lw_391 (I : LI b0 bx r vs Z1 Z2 i hs o m) (hv : ∀ j, j < L → vs[j]? = some (.int (xs j))) (hL : L < 2000) (hi : i + 3 ≤ L) (kn : ∀ hs3 o2 m2, LI b0 bx r vs Z1 Z2 (i + 3) hs3 o2 m2 → mx_Ok mx_S0 l G 251 mm_LW_law 494 [(0, .ref b0), (1, .ref bx), (2, .ref r), (3, .int (nI i))] [] hs3 Q) : mx_Ok mx_S0 l G 251 mm_LW_law 391 [(0, .ref b0), (1, .ref bx), (2, .ref r), (3, .int (nI i))] [] hs Q := by
  have a1 : ¬ nI i + 1 < 0 := by rw [nI_1]; exact nI_pos (by omega)
  have g1 : vs[Int32.toNatClampNeg (nI i + 1)]? = some (.int (xs (i + 1))) := by rw [nI_1, nI_clamp (by omega)]; exact hv _ (by omega)
  have e2 : nI i + 2 = nI (i + 2) := by rw [show (2 : Int32) = nI 2 from rfl, nI_add]
  have a2 : ¬ nI i + 2 < 0 := by rw [e2]; exact nI_pos (by omega)
  have g2 : vs[Int32.toNatClampNeg (nI i + 2)]? = some (.int (xs (i + 2))) := by rw [e2, nI_clamp (by omega)]; exact hv _ (by omega)
  refine wp_LW_law_391 (d := 250) _ _ _ _ ⟨I.2.1.hd, c_collect (d := 245) I.2.1 (fun hs2 R => ?_)⟩
  obtain ⟨q1, q2, q3, q4, -, -⟩ := I.cl R
  refine ⟨_, rfl, ⟨_, q3.1⟩, r_call (r_collect (d := 248) (Q := fun v m2 => v = some (.int (so_collect o).1) ∧ rx m2 (so_collect o).2) I.2.2.2.1 (fun m2 h => ⟨rfl, h⟩)) q3 q4 (fun v hs3 m2 p1 p2 p3 p4 p5 => ⟨_, p5.1, fun _ => kn hs3 _ m2 (I.rf R p1 p2 p3 p4 p5.2), fun z => absurd rfl z⟩)⟩
theorem lw_404 (I : LI b0 bx r vs Z1 Z2 i hs o m) (hv : ∀ j, j < L → vs[j]? = some (.int (xs j))) (hL : L < 2000) (hi : i + 3 ≤ L) (kn : ∀ hs3 o2 m2, LI b0 bx r vs Z1 Z2 (i + 3) hs3 o2 m2 → mx_Ok mx_S0 l G 251 mm_LW_law 494 [(0, .ref b0), (1, .ref bx), (2, .ref r), (3, .int (nI i))] [] hs3 Q) : mx_Ok mx_S0 l G 251 mm_LW_law 404 [(0, .ref b0), (1, .ref bx), (2, .ref r), (3, .int (nI i))] [] hs Q := by
  have a1 : ¬ nI i + 1 < 0 := by rw [nI_1]; exact nI_pos (by omega)
  have g1 : vs[Int32.toNatClampNeg (nI i + 1)]? = some (.int (xs (i + 1))) := by rw [nI_1, nI_clamp (by omega)]; exact hv _ (by omega)
  have e2 : nI i + 2 = nI (i + 2) := by rw [show (2 : Int32) = nI 2 from rfl, nI_add]
  have a2 : ¬ nI i + 2 < 0 := by rw [e2]; exact nI_pos (by omega)
  have g2 : vs[Int32.toNatClampNeg (nI i + 2)]? = some (.int (xs (i + 2))) := by rw [e2, nI_clamp (by omega)]; exact hv _ (by omega)
  have R := lb_R.rf I.2.1
  refine wp_LW_law_404 (d := 250) _ _ _ _ ⟨vs, xs (i + 1), I.1, a1, g1, vs, xs (i + 2), I.1, a2, g2, I.2.1.hd, c_input (d := 247) I.2.1 ?_⟩
  obtain ⟨q1, q2, q3, q4, -, -⟩ := I.cl R
  refine ⟨_, rfl, vs, xs (i + 1), q1, a1, g1, vs, xs (i + 2), q1, a2, g2, ⟨_, q3.1⟩, r_call (r_input (d := 248) (Q := fun v m2 => v = some (.long (so_input (xs (i + 1)) (xs (i + 2)) o)) ∧ rx m2 o) I.2.2.2.1 ⟨rfl, I.2.2.2.1⟩) q3 q4 (fun v hs3 m2 p1 p2 p3 p4 p5 => ⟨_, p5.1, fun _ => kn hs3 _ m2 (I.rf R p1 p2 p3 p4 p5.2), fun z => absurd rfl z⟩)⟩
theorem lw_438 (I : LI b0 bx r vs Z1 Z2 i hs o m) (hv : ∀ j, j < L → vs[j]? = some (.int (xs j))) (hL : L < 2000) (hi : i + 3 ≤ L) (kn : ∀ hs3 o2 m2, LI b0 bx r vs Z1 Z2 (i + 3) hs3 o2 m2 → mx_Ok mx_S0 l G 251 mm_LW_law 494 [(0, .ref b0), (1, .ref bx), (2, .ref r), (3, .int (nI i))] [] hs3 Q) : mx_Ok mx_S0 l G 251 mm_LW_law 438 [(0, .ref b0), (1, .ref bx), (2, .ref r), (3, .int (nI i))] [] hs Q := by
  have a1 : ¬ nI i + 1 < 0 := by rw [nI_1]; exact nI_pos (by omega)
  have g1 : vs[Int32.toNatClampNeg (nI i + 1)]? = some (.int (xs (i + 1))) := by rw [nI_1, nI_clamp (by omega)]; exact hv _ (by omega)
  have e2 : nI i + 2 = nI (i + 2) := by rw [show (2 : Int32) = nI 2 from rfl, nI_add]
  have a2 : ¬ nI i + 2 < 0 := by rw [e2]; exact nI_pos (by omega)
  have g2 : vs[Int32.toNatClampNeg (nI i + 2)]? = some (.int (xs (i + 2))) := by rw [e2, nI_clamp (by omega)]; exact hv _ (by omega)
  have R := lb_R.rf I.2.1
  refine wp_LW_law_438 (d := 250) _ _ _ _ ⟨vs, xs (i + 1), I.1, a1, g1, vs, xs (i + 2), I.1, a2, g2, I.2.1.hd, c_plan (d := 247) I.2.1 ?_⟩
  obtain ⟨q1, q2, q3, q4, -, -⟩ := I.cl R
  refine ⟨_, rfl, vs, xs (i + 1), q1, a1, g1, vs, xs (i + 2), q1, a2, g2, ⟨_, q3.1⟩, r_call (r_plan (d := 248) (Q := fun v m2 => v = some (.int (so_plan (xs (i + 1)) (xs (i + 2)) o)) ∧ rx m2 o) I.2.2.2.1 ⟨rfl, I.2.2.2.1⟩) q3 q4 (fun v hs3 m2 p1 p2 p3 p4 p5 => ⟨_, p5.1, fun _ => kn hs3 _ m2 (I.rf R p1 p2 p3 p4 p5.2), fun z => absurd rfl z⟩)⟩
theorem lw_471 (I : LI b0 bx r vs Z1 Z2 i hs o m) (hv : ∀ j, j < L → vs[j]? = some (.int (xs j))) (hL : L < 2000) (hi : i + 3 ≤ L) (kn : ∀ hs3 o2 m2, LI b0 bx r vs Z1 Z2 (i + 3) hs3 o2 m2 → mx_Ok mx_S0 l G 251 mm_LW_law 494 [(0, .ref b0), (1, .ref bx), (2, .ref r), (3, .int (nI i))] [] hs3 Q) : mx_Ok mx_S0 l G 251 mm_LW_law 471 [(0, .ref b0), (1, .ref bx), (2, .ref r), (3, .int (nI i))] [] hs Q := by
  have a1 : ¬ nI i + 1 < 0 := by rw [nI_1]; exact nI_pos (by omega)
  have g1 : vs[Int32.toNatClampNeg (nI i + 1)]? = some (.int (xs (i + 1))) := by rw [nI_1, nI_clamp (by omega)]; exact hv _ (by omega)
  have e2 : nI i + 2 = nI (i + 2) := by rw [show (2 : Int32) = nI 2 from rfl, nI_add]
  have a2 : ¬ nI i + 2 < 0 := by rw [e2]; exact nI_pos (by omega)
  have g2 : vs[Int32.toNatClampNeg (nI i + 2)]? = some (.int (xs (i + 2))) := by rw [e2, nI_clamp (by omega)]; exact hv _ (by omega)
  have R := lb_R.rf I.2.1
  refine wp_LW_law_471 (d := 250) _ _ _ _ ⟨vs, xs (i + 1), I.1, a1, g1, I.2.1.hd, c_count (d := 248) I.2.1 ?_⟩
  obtain ⟨q1, q2, q3, q4, -, -⟩ := I.cl R
  refine ⟨_, rfl, vs, xs (i + 1), q1, a1, g1, ⟨_, q3.1⟩, r_call (r_count (d := 249) (Q := fun v m2 => v = some (.int (so_count (xs (i + 1)) o)) ∧ rx m2 o) I.2.2.2.1 ⟨rfl, I.2.2.2.1⟩) q3 q4 (fun v hs3 m2 p1 p2 p3 p4 p5 => ⟨_, p5.1, fun _ => kn hs3 _ m2 (I.rf R p1 p2 p3 p4 p5.2), fun z => absurd rfl z⟩)⟩
theorem lw_342 (I : LI b0 bx r vs Z1 Z2 i hs o m) (hv : ∀ j, j < L → vs[j]? = some (.int (xs j))) (hL : L < 2000) (hi : i + 3 ≤ L) (kn : ∀ hs3 o2 m2, LI b0 bx r vs Z1 Z2 (i + 3) hs3 o2 m2 → mx_Ok mx_S0 l G 251 mm_LW_law 494 [(0, .ref b0), (1, .ref bx), (2, .ref r), (3, .int (nI i))] [] hs3 Q) : mx_Ok mx_S0 l G 251 mm_LW_law 342 [(0, .ref b0), (1, .ref bx), (2, .ref r), (3, .int (nI i))] [] hs Q := by
  have a1 : ¬ nI i + 1 < 0 := by rw [nI_1]; exact nI_pos (by omega)
  have g1 : vs[Int32.toNatClampNeg (nI i + 1)]? = some (.int (xs (i + 1))) := by rw [nI_1, nI_clamp (by omega)]; exact hv _ (by omega)
  have e2 : nI i + 2 = nI (i + 2) := by rw [show (2 : Int32) = nI 2 from rfl, nI_add]
  have a2 : ¬ nI i + 2 < 0 := by rw [e2]; exact nI_pos (by omega)
  have g2 : vs[Int32.toNatClampNeg (nI i + 2)]? = some (.int (xs (i + 2))) := by rw [e2, nI_clamp (by omega)]; exact hv _ (by omega)
  have W : ∀ on : Bool, (xs (i + 2) = 0 → on = false) → (¬ xs (i + 2) = 0 → on = true) → mx_Ok mx_S0 l G 251 mm_LW_law 361 [(0, .ref b0), (1, .ref bx), (2, .ref r), (3, .int (nI i))] [.int (lz_b on), .int (xs (i + 1)), .ref bx] hs Q := by
    intro on h0 h1
    refine wp_LW_law_361 (d := 250) _ _ _ _ _ _ _ ⟨I.2.1.hd, c_root (d := 247) (on := on) I.2.1 (fun hs2 R => ?_)⟩
    obtain ⟨q1, q2, q3, q4, -, -⟩ := I.cl R
    have W2 : mx_Ok mx_S0 l G 251 mm_LW_law 383 [(0, .ref b0), (1, .ref bx), (2, .ref r), (3, .int (nI i))] [.int (lz_b on), .int (xs (i + 1)), .ref r, .int (so_root (xs (i + 1)) on o).1] hs2 Q := wp_LW_law_383 (d := 250) _ _ _ _ _ _ _ _ ⟨⟨_, q3.1⟩, r_call (r_root (d := 248) (Q := fun v m2 => v = some (.int (so_root (xs (i + 1)) on o).1) ∧ rx m2 (so_root (xs (i + 1)) on o).2) I.2.2.2.1 (fun m2 h => ⟨rfl, h⟩)) q3 q4 (fun v hs3 m2 p1 p2 p3 p4 p5 => ⟨_, p5.1, fun _ => kn hs3 _ m2 (I.rf R p1 p2 p3 p4 p5.2), fun z => absurd rfl z⟩)⟩
    refine ⟨_, rfl, vs, xs (i + 1), q1, a1, g1, vs, xs (i + 2), q1, a2, g2, fun z => ?_, fun z => ?_⟩
    · rw [h0 z] at W2
      rw [h0 z]
      exact W2
    · rw [h1 z] at W2
      rw [h1 z]
      exact W2
  refine wp_LW_law_342 (d := 250) _ _ _ _ ⟨vs, xs (i + 1), I.1, a1, g1, vs, xs (i + 2), I.1, a2, g2, fun z => W false (fun _ => rfl) (fun c => absurd z c), fun z => W true (fun c => absurd c z) (fun _ => rfl)⟩
def lw_Qf (Z1 Z2 L : Nat) : Option Value → mx_H → Prop := fun v fin => v = some (.int 1) ∧ fin.2.1 ≤ Z1 + 20 * L ∧ fin.2.2 ≤ Z2 + 100 * L
theorem lw_loop (hv : ∀ j, j < L → vs[j]? = some (.int (xs j))) (hvl : vs.length = L) (hL : L < 2000) : ∀ (n i : Nat) (hs : mx_H) (o : lz_O) (m : rm_M), L ≤ i + n → i ≤ L → LI b0 bx r vs Z1 Z2 i hs o m → mx_Ok mx_S0 l G 251 mm_LW_law 18 [(0, .ref b0), (1, .ref bx), (2, .ref r), (3, .int (nI i))] [] hs (lw_Qf Z1 Z2 L) := by
  have key : ∀ i, i ≤ L → ¬ (Int32.ofNat vs.length - 3) < nI i → i + 3 ≤ L := by
    intro i hiL c
    rw [hvl] at c
    by_cases h3 : 3 ≤ L
    · have e : Int32.ofNat L - 3 = nI (L - 3) := pk_sub (a := L) (b := 3) h3
      rw [e] at c
      rcases Nat.lt_or_ge (L - 3) i with q | q
      · exact absurd (nI_lt q (by omega)) c
      · omega
    · exfalso
      have h0 : (0 : Int32) ≤ nI i := Int32.not_lt.mp (nI_pos (by omega))
      rcases (show L = 0 ∨ L = 1 ∨ L = 2 by omega) with rfl | rfl | rfl
      · exact c (Int32.lt_of_lt_of_le (by decide) h0)
      · exact c (Int32.lt_of_lt_of_le (by decide) h0)
      · exact c (Int32.lt_of_lt_of_le (by decide) h0)
  intro n
  induction n with
  | zero =>
    intro i hs o m h1 h2 I
    obtain ⟨j1, j2, j3, j4, j5, j6⟩ := I
    refine wp_LW_law_18 (d := 250) _ _ _ _ ⟨vs, j1, fun c => ⟨rfl, by omega, by omega⟩, fun c => ?_⟩
    have := key i h2 c
    omega
  | succ n ih =>
    intro i hs o m h1 h2 I
    have j5 := I.2.2.2.2.1
    have j6 := I.2.2.2.2.2
    refine wp_LW_law_18 (d := 250) _ _ _ _ ⟨vs, I.1, fun c => ⟨rfl, by omega, by omega⟩, fun c => ?_⟩
    have hi := key i h2 c
    have kn : ∀ hs3 o2 m2, LI b0 bx r vs Z1 Z2 (i + 3) hs3 o2 m2 → mx_Ok mx_S0 l G 251 mm_LW_law 494 [(0, .ref b0), (1, .ref bx), (2, .ref r), (3, .int (nI i))] [] hs3 (lw_Qf Z1 Z2 L) := by
      intro hs3 o2 m2 I3
      refine wp_LW_law_494 (d := 250) _ _ _ _ ?_
      rw [show nI i + 3 = nI (i + 3) by rw [show (3 : Int32) = nI 3 from rfl, nI_add]]
      exact ih (i + 3) hs3 o2 m2 (by omega) hi I3
    have g0 : vs[Int32.toNatClampNeg (nI i)]? = some (.int (xs i)) := by rw [nI_clamp (by omega)]; exact hv _ (by omega)
    refine ⟨vs, xs i, I.1, nI_pos (by omega), g0, ?_⟩
    exact ⟨fun _ => lw_104 I hv hL hi kn, fun _ => lw_127 I hv hL hi kn, fun _ => lw_180 I hv hL hi kn, fun _ => lw_203 I hv hL hi kn, fun _ => lw_226 I hv hL hi kn, fun _ => lw_249 I hv hL hi kn, fun _ => lw_262 I hv hL hi kn, fun _ => lw_286 I hv hL hi kn, fun _ => lw_319 I hv hL hi kn, fun _ => lw_342 I hv hL hi kn, fun _ => lw_391 I hv hL hi kn, fun _ => lw_404 I hv hL hi kn, fun _ => lw_438 I hv hL hi kn, fun _ => lw_471 I hv hL hi kn, fun _ _ _ _ _ _ _ _ _ _ _ _ _ _ => kn hs o m ⟨I.1, I.2.1, I.2.2.1, I.2.2.2.1, by omega, by omega⟩⟩
theorem lw_all (hsc : hs.1 b0 = some (101, vs)) (hw : mx_wf hs) (hv : ∀ j, j < L → vs[j]? = some (.int (xs j))) (hvl : vs.length = L) (hL : L < 2000) : mx_Ok mx_S0 l G 251 mm_LW_law 0 [(0, .ref b0)] [] hs (lw_Qf (hs.2.1 + 68) (hs.2.2 + 4000) L) := by
  refine wp_LW_law_0 (d := 250) _ (fun hs1 e1 => ?_)
  have w1 : mx_wf hs1 := by rw [e1]; exact hw.nw
  have b1 : b0 < hs.2.1 := hw _ _ hsc
  have c1 : hs1.1 hs.2.1 = some (0, [.null, .null, .null, .long 0, .int 0]) := by rw [e1, mx_nw_eq]
  have z1 : hs1.2 = (hs.2.1 + 1, hs.2.2 + 5) := by rw [e1]; rfl
  have s1 : hs1.1 b0 = some (101, vs) := by rw [e1, mx_nw_ne _ _ _ (by omega)]; exact hsc
  refine c_Init (d := 246) c1 (by rw [z1]) w1 (fun hs3 o1 o2 o3 o4 o5 => ⟨rfl, fun hs4 e4 => ?_⟩)
  have w4 : mx_wf hs4 := by rw [e4]; exact o5.nw
  have c4 : hs4.1 hs3.2.1 = some (6, ri_0) := by rw [e4, mx_nw_eq]
  have z4 : hs4.2 = (hs3.2.1 + 1, hs3.2.2 + 36) := by rw [e4]; rfl
  have z41 : hs4.2.1 = hs3.2.1 + 1 := by rw [z4]
  have z42 : hs4.2.2 = hs3.2.2 + 36 := by rw [z4]
  have z12 : hs1.2.2 = hs.2.2 + 5 := by rw [z1]
  have f4 : mx_fr rm_k0 hs3 hs4 := by rw [e4]; exact mx_fr.nw o5
  refine r_Init (d := 249) c4 z41 w4 (fun hs6 p1 p2 p3 p4 p5 => ⟨rfl, ?_⟩)
  have f6 : mx_fr rm_k0 hs3 hs6 := ⟨fun q x hq hp => by rw [p2 q (o5 q x hq)]; exact f4.1 q x hq hp, by omega⟩
  refine lw_loop hv hvl hL L 0 hs6 so_0 rm_0 (by omega) (Nat.zero_le _) ⟨?_, o1.fr f6 p5, p1, rx_0, by omega, by omega⟩
  refine f6.1 _ _ ?_ rfl
  rw [o2 b0 b1]
  exact s1
end LAW
