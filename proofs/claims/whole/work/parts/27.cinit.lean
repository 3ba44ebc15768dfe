/-! THE CLASS's constructors. -/
section CIN
variable {l : Launch} {G : mx_G} {d : Nat} {hs : mx_H} {Q : Option Value → mx_H → Prop}
theorem c_TextInit {a : Nat} (ha : hs.1 a = some (1, [.null, .null, .int 0, .int 0, .int 0])) (hz : hs.2.1 = a + 1) (hw : mx_wf hs) (k : ∀ hs2, lb_tx hs2 a [] (List.replicate 24 0) 0 0 → (∀ q, q < a → hs2.1 q = hs.1 q) → hs2.2 = (a + 3, hs.2.2 + 48) → mx_wf hs2 → Q none hs2) : mx_C mx_S0 l G (d + 1) mm_LBText_init [.ref a] hs Q := by
  refine wp_LBText_init_0 _ (fun hs1 e1 => ?_)
  have w1 : mx_wf hs1 := by rw [e1]; exact hw.nw
  have a1 : hs1.1 a = some (1, [.null, .null, .int 0, .int 0, .int 0]) := by rw [e1, mx_nw_ne _ _ _ (by omega)]; exact ha
  have b1 : hs1.1 (a + 1) = some (100, List.replicate 24 (Value.int 0)) := by rw [e1, ← hz, mx_nw_eq]
  have z1 : hs1.2 = (a + 2, hs.2.2 + 24) := by rw [e1]; show (hs.2.1 + 1, hs.2.2 + 24) = _; rw [hz]
  refine ⟨_, a1, fun hs2 e2 => ?_⟩
  have w2 : mx_wf hs2 := by rw [e2]; exact w1.st a1
  have a2 : hs2.1 a = some (1, [.ref hs.2.1, .null, .int 0, .int 0, .int 0]) := by rw [e2, mx_st_eq]; rfl
  have b2 : hs2.1 (a + 1) = some (100, List.replicate 24 (Value.int 0)) := by rw [e2, mx_st_ne _ _ (by omega)]; exact b1
  have z2 : hs2.2 = (a + 2, hs.2.2 + 24) := by rw [e2]; exact z1
  have z21 : hs2.2.1 = a + 2 := by rw [z2]
  intro hs3 e3
  have w3 : mx_wf hs3 := by rw [e3]; exact w2.nw
  have a3 : hs3.1 a = some (1, [.ref hs.2.1, .null, .int 0, .int 0, .int 0]) := by rw [e3, mx_nw_ne _ _ _ (by omega)]; exact a2
  have b3 : hs3.1 (a + 1) = some (100, List.replicate 24 (Value.int 0)) := by rw [e3, mx_nw_ne _ _ _ (by omega)]; exact b2
  have c3 : hs3.1 (a + 2) = some (100, List.replicate 24 (Value.int 0)) := by rw [e3, ← z21, mx_nw_eq]
  have z3 : hs3.2 = (a + 3, hs.2.2 + 48) := by rw [e3]; show (hs2.2.1 + 1, hs2.2.2 + 24) = _; rw [z2]
  refine ⟨_, a3, fun hs4 e4 => ?_⟩
  refine k hs4 ⟨List.replicate 24 0, ?_, ?_, ?_, by simp, by simp, by simp, by simp, by omega⟩ (fun q hq => ?_) ?_ ?_
  · rw [e4, mx_st_eq, hz, z21]
    rfl
  · rw [e4, mx_st_ne _ _ (by omega), b3]
    rfl
  · rw [e4, mx_st_ne _ _ (by omega), c3]
    rfl
  · rw [e4, mx_st_ne _ _ (by omega), e3, mx_nw_ne _ _ _ (by omega), e2, mx_st_ne _ _ (by omega), e1, mx_nw_ne _ _ _ (by omega)]
  · rw [e4]
    exact z3
  · rw [e4]
    exact w3.st a3
theorem c_NameInit {a : Nat} (ha : hs.1 a = some (2, [.null, .int 0, .int 0, .long 0])) (hz : hs.2.1 = a + 1) (hw : mx_wf hs) (k : ∀ hs2, lb_tx hs2 (a + 1) [] (List.replicate 24 0) 0 0 → hs2.1 a = some (2, [.ref (a + 1), .int 0, .int 0, .long (-1000000000000)]) → (∀ q, q < a → hs2.1 q = hs.1 q) → hs2.2 = (a + 4, hs.2.2 + 53) → mx_wf hs2 → Q none hs2) : mx_C mx_S0 l G (d + 2) mm_LBName_init [.ref a] hs Q := by
  refine wp_LBName_init_0 _ (fun hs1 e1 => ?_)
  have w1 : mx_wf hs1 := by rw [e1]; exact hw.nw
  have a1 : hs1.1 a = some (2, [.null, .int 0, .int 0, .long 0]) := by rw [e1, mx_nw_ne _ _ _ (by omega)]; exact ha
  have b1 : hs1.1 hs.2.1 = some (1, [.null, .null, .int 0, .int 0, .int 0]) := by rw [e1, mx_nw_eq]
  have z1 : hs1.2 = (a + 2, hs.2.2 + 5) := by rw [e1]; show (hs.2.1 + 1, hs.2.2 + 5) = _; rw [hz]
  rw [hz] at b1 ⊢
  refine c_TextInit b1 (by rw [z1]) w1 (fun hs2 g1 g2 g3 g4 => ⟨rfl, _, (g2 a (by omega)).trans a1, fun hs3 e3 => ?_⟩)
  have a3 : hs3.1 a = some (2, [.ref (a + 1), .int 0, .int 0, .long 0]) := by rw [e3, mx_st_eq]; rfl
  refine ⟨_, a3, fun hs4 e4 => ?_⟩
  have k1 : mx_kp hs2 hs4 a 1 := by
    rw [e4, e3]
    exact (mx_kp.st (b := a) (by omega) (by omega)).tr (mx_kp.st (b := a) (by omega) (by omega))
  refine k hs4 (g1.kp k1 (by omega)) ?_ (fun q hq => ?_) ?_ ?_
  · rw [e4, mx_st_eq]
    rfl
  · rw [k1.1 q (by omega), g2 q (by omega), e1, mx_nw_ne _ _ _ (by omega)]
  · rw [k1.2, g3, z1]
  · rw [e4, e3]
    exact (g4.st ((g2 a (by omega)).trans a1)).st (mx_st_eq _ _ _)
theorem c_StoreInit {a : Nat} (ha : hs.1 a = some (4, [.null, .null, .int 0, .int 0])) (hz : hs.2.1 = a + 1) (hw : mx_wf hs) (k : ∀ hs2, lb_st hs2 a (fun _ => 0) (fun _ => 0) (fun _ => (0, [], false, 0, false), 0, fun _ => 0, 0) → (∀ q, q < a → hs2.1 q = hs.1 q) → hs2.2 = (a + 3, hs.2.2 + 40) → Q none hs2) : mx_C mx_S0 l G (d + 1) mm_LBStore_init [.ref a] hs Q := by
  refine wp_LBStore_init_0 _ (fun hs1 e1 => ?_)
  have w1 : mx_wf hs1 := by rw [e1]; exact hw.nw
  have a1 : hs1.1 a = some (4, [.null, .null, .int 0, .int 0]) := by rw [e1, mx_nw_ne _ _ _ (by omega)]; exact ha
  have b1 : hs1.1 (a + 1) = some (113, List.replicate 30 Value.null) := by rw [e1, ← hz, mx_nw_eq]
  have z1 : hs1.2 = (a + 2, hs.2.2 + 30) := by rw [e1]; show (hs.2.1 + 1, hs.2.2 + 30) = _; rw [hz]
  refine ⟨_, a1, fun hs2 e2 => ?_⟩
  have w2 : mx_wf hs2 := by rw [e2]; exact w1.st a1
  have a2 : hs2.1 a = some (4, [.ref hs.2.1, .null, .int 0, .int 0]) := by rw [e2, mx_st_eq]; rfl
  have b2 : hs2.1 (a + 1) = some (113, List.replicate 30 Value.null) := by rw [e2, mx_st_ne _ _ (by omega)]; exact b1
  have z2 : hs2.2 = (a + 2, hs.2.2 + 30) := by rw [e2]; exact z1
  have z21 : hs2.2.1 = a + 2 := by rw [z2]
  intro hs3 e3
  have w3 : mx_wf hs3 := by rw [e3]; exact w2.nw
  have a3 : hs3.1 a = some (4, [.ref hs.2.1, .null, .int 0, .int 0]) := by rw [e3, mx_nw_ne _ _ _ (by omega)]; exact a2
  have b3 : hs3.1 (a + 1) = some (113, List.replicate 30 Value.null) := by rw [e3, mx_nw_ne _ _ _ (by omega)]; exact b2
  have c3 : hs3.1 (a + 2) = some (100, List.replicate 10 (Value.int 0)) := by rw [e3, ← z21, mx_nw_eq]
  have z3 : hs3.2 = (a + 3, hs.2.2 + 40) := by rw [e3]; show (hs2.2.1 + 1, hs2.2.2 + 10) = _; rw [z2]
  refine ⟨_, a3, fun hs4 e4 => ?_⟩
  refine k hs4 ⟨?_, ⟨List.replicate 30 Value.null, ?_, by simp, fun i hi => absurd hi (Nat.not_lt_zero i)⟩, ⟨List.replicate 10 0, ?_, by simp, fun i hi => ?_⟩, fun i hi => absurd hi (Nat.not_lt_zero i), fun i hi => absurd hi (Nat.not_lt_zero i), fun i j _ hj => absurd hj (Nat.not_lt_zero j), ⟨Nat.zero_le _, fun i hi => absurd hi (Nat.not_lt_zero i), fun b hb => ⟨0, by omega, rfl⟩⟩, ?_⟩ (fun q hq => ?_) ?_
  · rw [e4, mx_st_eq, hz, z21]
    rfl
  · rw [e4, mx_st_ne _ _ (by omega), b3]
  · rw [e4, mx_st_ne _ _ (by omega), c3]
    rfl
  · rw [List.getElem?_replicate, if_pos hi]
  · rw [e4]
    exact w3.st a3
  · rw [e4, mx_st_ne _ _ (by omega), e3, mx_nw_ne _ _ _ (by omega), e2, mx_st_ne _ _ (by omega), e1, mx_nw_ne _ _ _ (by omega)]
  · rw [e4]
    exact z3
theorem c_WorkerInit {a s : Nat} (ha : hs.1 a = some (5, [.null, .null, .null, .int 0, .int 0])) (hz : hs.2.1 = a + 1) (hw : mx_wf hs) (k : ∀ hs2, hs2.1 a = some (5, [.ref (a + 1), .ref s, .ref (a + 34), .int 0, .int 0]) → hs2.1 (a + 1) = some (112, (List.range 8).map (fun i => Value.ref (a + 2 + 4 * i))) → (∀ i, i < 8 → hs2.1 (a + 2 + 4 * i) = some (2, [.ref (a + 3 + 4 * i), .int 0, .int 0, .long (-1000000000000)]) ∧ lb_tx hs2 (a + 3 + 4 * i) [] (List.replicate 24 0) 0 0) → hs2.1 (a + 34) = some (102, (List.replicate 292 (0 : Int64)).map Value.long) → (∀ q, q < a → hs2.1 q = hs.1 q) → hs2.2 = (a + 35, hs.2.2 + 756) → mx_wf hs2 → Q none hs2) : mx_C mx_S0 l G (d + 3) mm_LBWorker_init [.ref a, .ref s] hs Q := by
  refine wp_LBWorker_init_0 _ _ ⟨_, ha, fun hs1 e1 => ?_⟩
  have w1 : mx_wf hs1 := by rw [e1]; exact hw.st ha
  have a1 : hs1.1 a = some (5, [.null, .ref s, .null, .int 0, .int 0]) := by rw [e1, mx_st_eq]; rfl
  have z1 : hs1.2 = hs.2 := by rw [e1]; rfl
  have o1 : ∀ q, q < a → hs1.1 q = hs.1 q := fun q hq => by rw [e1, mx_st_ne _ _ (by omega)]
  intro hs2 e2
  have z11 : hs1.2.1 = a + 1 := by rw [z1, hz]
  have w2 : mx_wf hs2 := by rw [e2]; exact w1.nw
  have a2 : hs2.1 a = some (5, [.null, .ref s, .null, .int 0, .int 0]) := by rw [e2, mx_nw_ne _ _ _ (by omega)]; exact a1
  have b2 : hs2.1 (a + 1) = some (112, List.replicate 8 Value.null) := by rw [e2, ← z11, mx_nw_eq]
  have z2 : hs2.2 = (a + 2, hs.2.2 + 8) := by rw [e2]; show (hs1.2.1 + 1, hs1.2.2 + 8) = _; rw [z1, hz]
  have o2 : ∀ q, q < a → hs2.1 q = hs.1 q := fun q hq => by rw [e2, mx_nw_ne _ _ _ (by omega)]; exact o1 q hq
  refine ⟨_, a2, fun hs3 e3 => ?_⟩
  rw [z11] at e3
  have W : ∀ (n i : Nat) (hs4 : mx_H) (vs : List Value), i + n = 8 → hs4.1 a = some (5, [.ref (a + 1), .ref s, .null, .int 0, .int 0]) → hs4.1 (a + 1) = some (112, vs) → vs.length = 8 → (∀ j, j < i → vs[j]? = some (.ref (a + 2 + 4 * j))) → (∀ j, j < i → hs4.1 (a + 2 + 4 * j) = some (2, [.ref (a + 3 + 4 * j), .int 0, .int 0, .long (-1000000000000)]) ∧ lb_tx hs4 (a + 3 + 4 * j) [] (List.replicate 24 0) 0 0) → (∀ q, q < a → hs4.1 q = hs.1 q) → hs4.2 = (a + 2 + 4 * i, hs.2.2 + 8 + 57 * i) → mx_wf hs4 → mx_Ok mx_S0 l G (d + 3) mm_LBWorker_init 20 [(0, .ref a), (2, .int (nI i))] [] hs4 Q := by
    intro n
    induction n with
    | zero =>
      intro i hs4 vs hi q1 q2 q3 q4 q5 q6 q7 q8
      have hi8 : i = 8 := by omega
      subst hi8
      refine wp_LBWorker_init_20 _ _ ⟨fun _ hs5 e5 => ?_, fun c => absurd (by decide) c⟩
      have z41 : hs4.2.1 = a + 34 := by rw [q7]
      have a5 : hs5.1 a = some (5, [.ref (a + 1), .ref s, .null, .int 0, .int 0]) := by rw [e5, mx_nw_ne _ _ _ (by omega)]; exact q1
      refine ⟨_, a5, fun hs6 e6 => ?_⟩
      have h6 : ∀ q, q ≠ a → q ≠ a + 34 → hs6.1 q = hs4.1 q := fun q x1 x2 => by rw [e6, mx_st_ne _ _ x1, e5, mx_nw_ne _ _ _ (by omega)]
      have evs : vs = (List.range 8).map (fun i => Value.ref (a + 2 + 4 * i)) := by
        apply List.ext_getElem?
        intro j
        rcases Nat.lt_or_ge j 8 with x | x
        · rw [q4 j x, List.getElem?_map, List.getElem?_range x]
          rfl
        · rw [List.getElem?_eq_none (by omega), List.getElem?_eq_none (by simp; omega)]
      refine k hs6 ?_ ?_ (fun j hj => ?_) ?_ (fun q hq => ?_) ?_ ?_
      · rw [e6, mx_st_eq, z41]
        rfl
      · rw [h6 _ (by omega) (by omega), q2, evs]
      · obtain ⟨u1, u2⟩ := q5 j hj
        refine ⟨by rw [h6 _ (by omega) (by omega)]; exact u1, ?_⟩
        obtain ⟨cs, v0, v1, v2, v3⟩ := u2
        exact ⟨cs, by rw [h6 _ (by omega) (by omega)]; exact v0, by rw [h6 _ (by omega) (by omega)]; exact v1, by rw [h6 _ (by omega) (by omega)]; exact v2, v3⟩
      · rw [e6, mx_st_ne _ _ (by omega), e5, ← z41, mx_nw_eq, List.map_replicate]
      · rw [h6 _ (by omega) (by omega)]
        exact q6 q hq
      · rw [e6]
        show hs5.2 = _
        rw [e5]
        show (hs4.2.1 + 1, hs4.2.2 + 292) = _
        rw [q7]
      · rw [e6]
        refine mx_wf.st ?_ a5
        rw [e5]
        exact q8.nw
    | succ n ih =>
      intro i hs4 vs hi q1 q2 q3 q4 q5 q6 q7 q8
      refine wp_LBWorker_init_20 _ _ ⟨fun c => absurd c (nI_ge (b := 8) (by omega) (by omega)), fun _ => ⟨_, ⟨_, q1, rfl⟩, fun hs5 e5 => ?_⟩⟩
      have z41 : hs4.2.1 = a + 2 + 4 * i := by rw [q7]
      have w5 : mx_wf hs5 := by rw [e5]; exact q8.nw
      have a5 : hs5.1 (a + 2 + 4 * i) = some (2, [.null, .int 0, .int 0, .long 0]) := by rw [e5, ← z41, mx_nw_eq]
      have o5 : ∀ q, q < a + 2 + 4 * i → hs5.1 q = hs4.1 q := fun q hq => by rw [e5, mx_nw_ne _ _ _ (by omega)]
      have z5 : hs5.2 = (a + 3 + 4 * i, hs.2.2 + 12 + 57 * i) := by
        rw [e5]
        show (hs4.2.1 + 1, hs4.2.2 + 4) = _
        rw [q7]
        exact Prod.ext (by simp only; omega) (by simp only; omega)
      rw [z41]
      refine c_NameInit a5 (by rw [z5]; simp only; omega) w5 (fun hs6 g1 g2 g3 g4 g5 => ⟨rfl, ?_⟩)
      have o6 : ∀ q, q < a + 2 + 4 * i → hs6.1 q = hs4.1 q := fun q hq => (g3 q hq).trans (o5 q hq)
      refine ⟨_, (o6 _ (by omega)).trans q2, nI_pos (by omega), by rw [nI_clamp (by omega)]; omega, ⟨_, g2⟩, fun hs7 e7 => ?_⟩
      rw [nI_clamp (by omega)] at e7
      rw [nI_1 i]
      have k7 : mx_kp hs6 hs7 (a + 1) 1 := by
        rw [e7]
        exact mx_kp.st (by omega) (by omega)
      refine ih (i + 1) hs7 (vs.set i (.ref (a + 2 + 4 * i))) (by omega) ?_ ?_ (by rw [List.length_set]; exact q3) (fun j hj => ?_) (fun j hj => ?_) (fun q hq => ?_) ?_ ?_
      · rw [k7.1 _ (by omega), o6 _ (by omega)]
        exact q1
      · rw [e7, mx_st_eq]
      · by_cases hj2 : j = i
        · subst hj2
          rw [List.getElem?_set_self (by omega)]
        · rw [List.getElem?_set_ne (by omega)]
          exact q4 j (by omega)
      · by_cases hj2 : j = i
        · subst hj2
          refine ⟨?_, ?_⟩
          · rw [k7.1 _ (by omega), g2, show a + 2 + 4 * j + 1 = a + 3 + 4 * j by omega]
          · have := g1.kp k7 (by omega)
            rw [show a + 2 + 4 * j + 1 = a + 3 + 4 * j by omega] at this
            exact this
        · obtain ⟨u1, u2⟩ := q5 j (by omega)
          refine ⟨by rw [k7.1 _ (by omega), o6 _ (by omega)]; exact u1, ?_⟩
          obtain ⟨cs, v0, v1, v2, v3⟩ := u2
          exact ⟨cs, by rw [k7.1 _ (by omega), o6 _ (by omega)]; exact v0, by rw [k7.1 _ (by omega), o6 _ (by omega)]; exact v1, by rw [k7.1 _ (by omega), o6 _ (by omega)]; exact v2, v3⟩
      · rw [k7.1 _ (by omega), o6 _ (by omega)]
        exact q6 q hq
      · rw [k7.2, g4, z5]
        exact Prod.ext (by simp only; omega) (by simp only; omega)
      · rw [e7]
        exact g5.st ((o6 _ (by omega)).trans q2)
  refine W 8 0 hs3 (List.replicate 8 .null) rfl ?_ ?_ (by simp) (fun j hj => absurd hj (Nat.not_lt_zero j)) (fun j hj => absurd hj (Nat.not_lt_zero j)) (fun q hq => ?_) ?_ ?_
  · rw [e3, mx_st_eq]
    rfl
  · rw [e3, mx_st_ne _ _ (by omega)]
    exact b2
  · rw [e3, mx_st_ne _ _ (by omega)]
    exact o2 q hq
  · rw [e3]
    exact z2
  · rw [e3]
    exact w2.st a2
end CIN
