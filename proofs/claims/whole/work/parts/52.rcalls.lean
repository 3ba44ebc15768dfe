/-! THE REFERENCE's simple calls, continued: value, builder, root, input, plan, count. -/
section RCA
variable {l : Launch} {G : mx_G} {r d : Nat} {m : rm_M} {Q : Option Value → rm_M → Prop} {o : lz_O}
theorem r_value {x : Int32} (h : rx m o) (k : Q (some (.long (so_value x o))) m) : mr_C l G r (d + 1) mm_RM_value [.int x] m Q := by
  obtain ⟨h1, h2, h3, h4, h5, h6, h7⟩ := h
  obtain ⟨w1, w2, w3, w4, w5, w6⟩ := h6
  unfold so_value at k
  refine wr_value_0 _ ⟨fun z => wr_value_19 ?_, fun z => ⟨fun y => wr_value_19 ?_, fun y => ?_⟩⟩
  · rw [if_neg (fun e => by rw [e] at z; exact absurd z (by decide)), if_pos (so_no_t (Or.inl z))] at k
    exact k
  · have h8 : 8 ≤ x := Int32.le_of_lt y
    rw [if_neg (fun e => by rw [e] at y; exact absurd y (by decide)), if_pos (so_no_t (Or.inr h8))] at k
    exact k
  · obtain ⟨j, hj, rfl⟩ := nI_of2 (x := x) (M := 8) (n := 8) rfl z (Int32.not_lt.mp y)
    rw [nI_clamp (by omega)]
    refine ⟨z, by omega, ?_⟩
    by_cases hj8 : j = 8
    · subst hj8
      rw [if_pos (show nI 8 = 8 from rfl)] at k
      refine ⟨fun q => ⟨z, by omega, ?_⟩, fun q => wr_value_19 ?_⟩
      · rw [h4] at q
        have q := lz_b1.mp q
        rw [decide_eq_true_iff] at q
        rw [h5 q]
        exact k
      · rw [h4] at q
        have q := lz_b0.mp (Decidable.not_not.mp q)
        rw [decide_eq_false_iff_not, Decidable.not_not] at q
        rw [q] at k
        exact k
    · have hj9 : j < 8 := by omega
      have hne : ¬ nI j = 8 := fun e => hj8 ((nI_eq (b := 8) (by omega) (by omega)).mp e)
      rw [if_neg hne, if_neg (by rw [so_no_f hj9 rfl]; decide), nI_clamp (by omega)] at k
      obtain ⟨a1, a2, a3, a4⟩ := w1 j hj9
      refine ⟨fun q => ⟨z, by omega, ?_⟩, fun q => wr_value_19 ?_⟩
      · rw [a3] at q
        have q := lz_b1.mp q
        rw [decide_eq_true_iff] at q
        rw [a4 q]
        exact k
      · rw [a3] at q
        have q := lz_b0.mp (Decidable.not_not.mp q)
        rw [decide_eq_false_iff_not, Decidable.not_not] at q
        rw [q] at k
        exact k
theorem r_builder {x y : Int32} (h : rx m o) (k : ∀ m2, rx m2 (so_builder x y o).2 → Q (some (.int (so_builder x y o).1)) m2) : mr_C l G r (d + 1) mm_RM_builder [.int x, .int y] m Q := by
  unfold so_builder at k
  have h9 : ∀ x : Int32, 9 < x → 10 ≤ x := by
    intro x z
    have h1 := Int32.lt_iff_toInt_lt.mp z
    refine Int32.le_iff_toInt_le.mpr ?_
    rw [show (9 : Int32).toInt = 9 from rfl] at h1
    rw [show (10 : Int32).toInt = 10 from rfl]
    omega
  refine wr_builder_0 _ _ ⟨fun z => ?_, fun z1 => ⟨fun z => ?_, fun z2 => ⟨fun z => ?_, fun z3 => ⟨fun z4 => ?_, fun z => ?_⟩⟩⟩⟩
  · rw [if_pos (Or.inl z)] at k
    exact k m h
  · rw [if_pos (Or.inr (Or.inl (h9 x z)))] at k
    exact k m h
  · rw [if_pos (Or.inr (Or.inr (Or.inl z)))] at k
    exact k m h
  · obtain ⟨j, hj, rfl⟩ := nI_of2 (x := x) (M := 9) (n := 9) rfl z1 (Int32.not_lt.mp z2)
    obtain ⟨q, q1, q2⟩ := nI_of2 (x := y) (M := 4) (n := 4) rfl z3 z4
    rw [if_neg (by
      rintro (u | u | u | u)
      · exact z1 u
      · exact nI_ge (a := j) (b := 10) (by omega) (by omega) u
      · exact z3 u
      · exact u z4), nI_clamp (by omega)] at k
    refine ⟨z1, by rw [nI_clamp (by omega)]; omega, fun m1 e1 => ?_⟩
    rw [nI_clamp (by omega)] at e1
    obtain ⟨h1, h2, h3, h4, h5, h6, h7⟩ := h
    obtain ⟨w1, w2, w3, w4, w5, w6⟩ := h6
    obtain ⟨s1, s2, s3, s4, s5, s6⟩ := w5
    have c1 : ∀ q i, q ≠ 31 → m1.1 q i = m.1 q i := fun q i hq => by
      rw [e1]
      simp only [rs_i]
      rw [if_neg (by omega)]
    have c2 : m1.2 = m.2 := by rw [e1]; rfl
    have hokS : lz_okS (o.2.2.2.2.2.2.2.1, o.2.2.2.2.2.2.2.2.1, fun i => if i = j then y else o.2.2.2.2.2.2.2.2.2.1 i, o.2.2.2.2.2.2.2.2.2.2) := by
      refine ⟨s6.1, s6.2.1, fun i hi => ?_⟩
      by_cases hij : i = j
      · simp only [if_pos hij]
        exact ⟨q, q1, q2⟩
      · simp only [if_neg hij]
        exact s6.2.2 i hi
    refine k m1 ⟨⟨h1.1, fun i hi => (c1 _ _ (by omega)).trans (h1.2 i hi)⟩, (c1 _ _ (by omega)).trans h2, by rw [c2]; exact h3, (c1 _ _ (by omega)).trans h4, fun z => by rw [c2]; exact h5 z, ⟨fun n hn => ?_, fun n hn z => ⟨(w2 n hn z).1, fun i hi => (c1 _ _ (by omega)).trans ((w2 n hn z).2 i hi)⟩, by rw [c2]; exact w3, by rw [c2]; exact w4, ⟨by rw [c2]; exact s1, by rw [c2]; exact s2, fun i hi => ?_, fun p hp hp2 => ?_, fun b hb => ?_, hokS⟩, ⟨w6.1, hokS⟩⟩, h7⟩
    · obtain ⟨a1, a2, a3, a4⟩ := w1 n hn
      exact ⟨(c1 _ _ (by omega)).trans a1, (c1 _ _ (by omega)).trans a2, (c1 _ _ (by omega)).trans a3, fun z => by rw [c2]; exact a4 z⟩
    · obtain ⟨a1, a2, a3, a4, a5, a6⟩ := s3 i hi
      exact ⟨(c1 _ _ (by omega)).trans a1, (c1 _ _ (by omega)).trans a2, fun j hj => by rw [c2]; exact a3 j hj, (c1 _ _ (by omega)).trans a4, fun z => (c1 _ _ (by omega)).trans (a5 z), (c1 _ _ (by omega)).trans a6⟩
    · rw [c1 27 _ (by omega), c1 29 _ (by omega)]
      exact s4 p hp hp2
    · rw [e1]
      show (if 31 = 31 ∧ b = j then y else m.1 31 b) = if b = j then y else o.2.2.2.2.2.2.2.2.2.1 b
      by_cases hbj : b = j
      · rw [if_pos ⟨rfl, hbj⟩, if_pos hbj]
      · rw [if_neg (fun z => hbj z.2), if_neg hbj]
        exact s5 b hb
  · rw [if_pos (Or.inr (Or.inr (Or.inr z)))] at k
    exact k m h
theorem r_root {x : Int32} {on : Bool} (h : rx m o) (k : ∀ m2, rx m2 (so_root x on o).2 → Q (some (.int (so_root x on o).1)) m2) : mr_C l G r (d + 2) mm_RM_root [.int x, .int (lz_b on)] m Q := by
  obtain ⟨h1, h2, h3, h4, h5, h6, h7⟩ := id h
  obtain ⟨w1, w2, w3, w4, w5, w6⟩ := h6
  have hz : lz_sz o ≤ 30 := w5.2.2.2.2.2.1
  unfold so_root at k
  refine wr_root_0 _ _ (r_noPlan w5 (fun j hj e => ⟨_, rfl, fun _ => ?_, fun y => absurd rfl y⟩) (fun z => ⟨_, rfl, fun y => absurd y (by decide), fun _ => ?_⟩))
  · subst e
    have hj : j < lz_sz o := hj
    rw [if_neg (by rw [so_np_f hz hj]; decide), lz_nI1 (by omega)] at k
    simp only at k
    refine ⟨nI_pos (by omega), by rw [nI_clamp (by omega)]; omega, lz_b01 on, fun m1 e1 => ?_⟩
    rw [nI_clamp (by omega)] at e1
    obtain ⟨s1, s2, s3, s4, s5, s6⟩ := w5
    have c1 : ∀ q i, q ≠ 29 → m1.1 q i = m.1 q i := fun q i hq => by
      rw [e1]
      simp only [rs_i]
      rw [if_neg (by omega)]
    have c2 : m1.2 = m.2 := by rw [e1]; rfl
    have c3 : ∀ i, m1.1 29 i = if i = j + 1 then lz_b on else m.1 29 i := fun i => by
      rw [e1]
      simp [rs_i]
    have hokS : lz_okS (lz_setP (lz_sto o) j (((lz_sto o).1 j).1, ((lz_sto o).1 j).2.1, ((lz_sto o).1 j).2.2.1, ((lz_sto o).1 j).2.2.2.1, on)) := by
      refine ⟨s6.1, fun i hi => ?_, s6.2.2⟩
      by_cases hij : i = j
      · subst hij
        simp only [lz_setP, if_true]
        exact s6.2.1 i hi
      · simp only [lz_setP, if_neg hij]
        exact s6.2.1 i hi
    refine k m1 ⟨⟨h1.1, fun i hi => (c1 _ _ (by omega)).trans (h1.2 i hi)⟩, (c1 _ _ (by omega)).trans h2, by rw [c2]; exact h3, (c1 _ _ (by omega)).trans h4, fun z => by rw [c2]; exact h5 z, ⟨fun n hn => ?_, fun n hn z => ⟨(w2 n hn z).1, fun i hi => (c1 _ _ (by omega)).trans ((w2 n hn z).2 i hi)⟩, by rw [c2]; exact w3, by rw [c2]; exact w4, ⟨by rw [c2]; exact s1, by rw [c2]; exact s2, fun i hi => ?_, fun p hp hp2 => ?_, fun b hb => (c1 _ _ (by omega)).trans (s5 b hb), hokS⟩, ⟨w6.1, hokS⟩⟩, h7⟩
    · obtain ⟨a1, a2, a3, a4⟩ := w1 n hn
      exact ⟨(c1 _ _ (by omega)).trans a1, (c1 _ _ (by omega)).trans a2, (c1 _ _ (by omega)).trans a3, fun z => by rw [c2]; exact a4 z⟩
    · obtain ⟨a1, a2, a3, a4, a5, a6⟩ := s3 i hi
      by_cases hij : i = j
      · subst hij
        simp only [lz_setP, if_true]
        exact ⟨(c1 _ _ (by omega)).trans a1, (c1 _ _ (by omega)).trans a2, fun j hj => by rw [c2]; exact a3 j hj, (c1 _ _ (by omega)).trans a4, fun z => (c1 _ _ (by omega)).trans (a5 z), by rw [c3, if_pos rfl]⟩
      · simp only [lz_setP, if_neg hij]
        exact ⟨(c1 _ _ (by omega)).trans a1, (c1 _ _ (by omega)).trans a2, fun j hj => by rw [c2]; exact a3 j hj, (c1 _ _ (by omega)).trans a4, fun z => (c1 _ _ (by omega)).trans (a5 z), by rw [c3, if_neg (by omega)]; exact a6⟩
    · have hp : lz_sz o < p := hp
      rw [c1 27 _ (by omega), c3, if_neg (by omega)]
      exact s4 p hp hp2
  · rw [if_pos (so_np_t z)] at k
    exact k m h
theorem r_input {x y : Int32} (h : rx m o) (k : Q (some (.long (so_input x y o))) m) : mr_C l G r (d + 2) mm_RM_input [.int x, .int y] m Q := by
  obtain ⟨h1, h2, h3, h4, h5, h6, h7⟩ := id h
  obtain ⟨w1, w2, w3, w4, w5, w6⟩ := h6
  have hz : lz_sz o ≤ 30 := w5.2.2.2.2.2.1
  unfold so_input at k
  refine wr_input_0 _ _ (r_noPlan w5 (fun j hj e => ⟨_, rfl, fun y => absurd rfl y, fun _ => ?_⟩) (fun z => ⟨_, rfl, fun _ => wr_input_22 ?_, fun y => absurd (by decide) y⟩))
  · subst e
    have hj : j < lz_sz o := hj
    rw [if_neg (by rw [so_np_f hz hj]; decide), lz_nI1 (by omega)] at k
    obtain ⟨s1, s2, s3, s4, s5, s6⟩ := w5
    obtain ⟨a1, a2, a3, a4, a5, a6⟩ := s3 j hj
    have hl := (s6.2.1 j hj).1
    refine ⟨fun z => wr_input_22 ?_, fun z => ⟨nI_pos (by omega), by rw [nI_clamp (by omega)]; omega, fun q => ?_, fun q => wr_input_22 ?_⟩⟩
    · rw [if_pos z] at k
      exact k
    · rw [nI_clamp (by omega), a2] at q
      have q : y < nI ((lz_sto o).1 j).2.1.length := q
      rw [if_neg z, if_pos q] at k
      obtain ⟨i, hi, rfl⟩ := nI_of z
      have hlt : i < ((lz_sto o).1 j).2.1.length := (nI_ltI hi (by show ((lz_sto o).1 j).2.1.length < _; unfold lz_sto; omega)).mp q
      have hl2 : ((lz_sto o).1 j).2.1.length ≤ 4 := hl
      have e4 : nI (j + 1) * 4 + nI i = nI ((j + 1) * 4 + i) := by
        rw [show nI (j + 1) * 4 = nI ((j + 1) * 4) from pk_mul (j + 1) 4, nI_add]
      rw [e4]
      have g := a3 i hlt
      rw [nI_clamp hi, List.getD_eq_getElem?_getD] at k
      have g : ((lz_sto o).1 j).2.1[i]? = some (m.2.1 26 ((j + 1) * 4 + i)) := g
      rw [g] at k
      exact ⟨nI_pos (by omega), by rw [nI_clamp (by omega)]; omega, by rw [nI_clamp (by omega)]; exact k⟩
    · rw [nI_clamp (by omega), a2] at q
      have q : ¬ y < nI ((lz_sto o).1 j).2.1.length := q
      rw [if_neg z, if_neg q] at k
      exact k
  · rw [if_pos (so_np_t z)] at k
    exact k
theorem r_plan {x y : Int32} (h : rx m o) (k : Q (some (.int (so_plan x y o))) m) : mr_C l G r (d + 2) mm_RM_plan [.int x, .int y] m Q := by
  obtain ⟨h1, h2, h3, h4, h5, h6, h7⟩ := id h
  obtain ⟨w1, w2, w3, w4, w5, w6⟩ := h6
  have hz : lz_sz o ≤ 30 := w5.2.2.2.2.2.1
  unfold so_plan at k
  refine wr_plan_0 _ _ (r_noPlan w5 (fun j hj e => ⟨_, rfl, fun y => absurd rfl y, fun _ => ?_⟩) (fun z => ⟨_, rfl, fun _ => ?_, fun y => absurd (by decide) y⟩))
  · subst e
    have hj : j < lz_sz o := hj
    rw [if_neg (by rw [so_np_f hz hj]; decide), lz_nI1 (by omega)] at k
    simp only at k
    obtain ⟨s1, s2, s3, s4, s5, s6⟩ := w5
    obtain ⟨a1, a2, a3, a4, a5, a6⟩ := s3 j hj
    have hlt : Int32.toNatClampNeg (nI (j + 1)) < 31 := by rw [nI_clamp (by omega)]; omega
    have hc : Int32.toNatClampNeg (nI (j + 1)) = j + 1 := nI_clamp (by omega)
    have hbad : (y < 0 ∨ ¬ y ≤ 4) → Q (some (.int (-1))) m := by
      intro q
      rw [if_neg (fun e => by subst e; exact q.elim (by decide) (by decide)), if_neg (fun e => by subst e; exact q.elim (by decide) (by decide)), if_neg (fun e => by subst e; exact q.elim (by decide) (by decide)), if_neg (fun e => by subst e; exact q.elim (by decide) (by decide)), if_neg (fun e => by subst e; exact q.elim (by decide) (by decide))] at k
      exact k
    refine ⟨fun z => hbad (Or.inl z), fun z => ⟨fun y4 => ⟨fun y0 => ⟨fun y1 => ⟨fun y2 => ⟨fun y3 => ⟨nI_pos (by omega), hlt, ?_⟩, fun y3 => ⟨nI_pos (by omega), hlt, ?_⟩⟩, fun y2 => ⟨nI_pos (by omega), hlt, ?_⟩⟩, fun y1 => ⟨nI_pos (by omega), hlt, ?_⟩⟩, fun y0 => ⟨nI_pos (by omega), hlt, ?_⟩⟩, fun y4 => hbad (Or.inr y4)⟩⟩
    · have y4' : y = 4 := by
        obtain ⟨i, hi, rfl⟩ := nI_of2 (x := y) (M := 4) (n := 4) rfl z y4
        rcases (show i = 0 ∨ i = 1 ∨ i = 2 ∨ i = 3 ∨ i = 4 by omega) with rfl | rfl | rfl | rfl | rfl
        · exact absurd rfl y0
        · exact absurd rfl y1
        · exact absurd rfl y2
        · exact absurd rfl y3
        · rfl
      subst y4'
      rw [hc, a6]
      refine ⟨fun q => ?_, fun q => ?_⟩
      · have q : lz_b ((lz_sto o).1 j).2.2.2.2 = 0 := q
        rw [if_neg (by decide), if_neg (by decide), if_neg (by decide), if_neg (by decide), if_pos rfl, q] at k
        exact k
      · have q : ¬ lz_b ((lz_sto o).1 j).2.2.2.2 = 0 := q
        rw [if_neg (by decide), if_neg (by decide), if_neg (by decide), if_neg (by decide), if_pos rfl, lz_b1.mp q] at k
        exact k
    · have y3 := Decidable.not_not.mp y3
      subst y3
      rw [if_neg (by decide), if_neg (by decide), if_neg (by decide), if_pos rfl] at k
      rw [hc, a4]
      refine ⟨fun q => ?_, fun q => ⟨nI_pos (by omega), by omega, ?_⟩⟩
      · have q := lz_b0.mp q
        rw [show ((lz_sto o).1 j).2.2.2.1 = 0 from (s6.2.1 j hj).2.2.2 q] at k
        exact k
      · rw [a5 (lz_b1.mp q)]
        exact k
    · have y2 := Decidable.not_not.mp y2
      subst y2
      rw [hc, a4]
      refine ⟨fun q => ?_, fun q => ?_⟩
      · have q : lz_b ((lz_sto o).1 j).2.2.1 = 0 := q
        rw [if_neg (by decide), if_neg (by decide), if_pos rfl, q] at k
        exact k
      · have q : ¬ lz_b ((lz_sto o).1 j).2.2.1 = 0 := q
        rw [if_neg (by decide), if_neg (by decide), if_pos rfl, lz_b1.mp q] at k
        exact k
    · have y1 := Decidable.not_not.mp y1
      subst y1
      rw [hc, a2]
      exact k
    · have y0 := Decidable.not_not.mp y0
      subst y0
      rw [hc, a1]
      exact k
  · rw [if_pos (so_np_t z)] at k
    exact k
theorem r_count {x : Int32} (h : rx m o) (k : Q (some (.int (so_count x o))) m) : mr_C l G r (d + 1) mm_RM_count [.int x] m Q := by
  obtain ⟨h1, h2, h3, h4, h5, h6, h7⟩ := id h
  obtain ⟨w1, w2, w3, w4, w5, w6⟩ := h6
  unfold so_count at k
  have W : ∀ (g : Nat → Bool) (y : Int32), (y = 6 ∧ ∀ n, n < 8 → m.1 4 n = lz_b (g n)) ∨ (¬ y = 6 ∧ ∀ n, n < 8 → m.1 3 n = lz_b (g n)) → Q (some (.int (nI (lz_cnt g 8)))) m → ∀ (n i : Nat), i + n = 8 → mr_Ok l G r (d + 1) mm_RM_count 80 [(0, .ref r), (1, .int y), (2, .int (nI (lz_cnt g i))), (3, .int (nI i))] [] m Q := by
    intro g y hg kk n
    induction n with
    | zero =>
      intro i hi
      have : i = 8 := by omega
      subst this
      exact wr_count_80 _ _ _ ⟨fun _ => kk, fun c => absurd (by decide) c⟩
    | succ n ih =>
      intro i hi
      have hnext : ∀ u : Nat, u = lz_cnt g (i + 1) → mr_Ok l G r (d + 1) mm_RM_count 116 [(0, .ref r), (1, .int y), (2, .int (nI u)), (3, .int (nI i))] [] m Q := by
        intro u eu
        refine wr_count_116 _ _ _ ?_
        rw [nI_1, eu]
        exact ih (i + 1) (by omega)
      have hstep : ∀ e : Int32, e = lz_b (g i) → (e = 0 → mr_Ok l G r (d + 1) mm_RM_count 116 [(0, .ref r), (1, .int y), (2, .int (nI (lz_cnt g i))), (3, .int (nI i))] [] m Q) ∧ (¬ e = 0 → mr_Ok l G r (d + 1) mm_RM_count 113 [(0, .ref r), (1, .int y), (2, .int (nI (lz_cnt g i))), (3, .int (nI i))] [] m Q) := by
        intro e ee
        refine ⟨fun z => hnext _ ?_, fun z => wr_count_113 _ _ _ ?_⟩
        · rw [ee] at z
          rw [lz_cnt, lz_b0.mp z]
          rfl
        · rw [ee] at z
          rw [nI_1]
          refine hnext _ ?_
          rw [lz_cnt, lz_b1.mp z]
          rfl
      have hi8 : i < 8 := by omega
      have hc : Int32.toNatClampNeg (nI i) = i := nI_clamp (by omega)
      refine wr_count_80 _ _ _ ⟨fun c => absurd c (nI_ge (b := 8) (by omega) (by omega)), fun _ => ⟨fun z => ⟨nI_pos (by omega), by rw [hc]; omega, ?_⟩, fun z => ⟨nI_pos (by omega), by rw [hc]; omega, ?_⟩⟩⟩
      · rcases hg with ⟨g1, g2⟩ | ⟨g1, g2⟩
        · exact absurd g1 z
        · rw [hc]
          exact hstep _ (g2 i hi8)
      · rcases hg with ⟨g1, g2⟩ | ⟨g1, g2⟩
        · rw [hc]
          exact hstep _ (g2 i hi8)
        · exact absurd g1 z
  refine wr_count_0 _ ⟨fun z0 => ⟨fun z1 => ⟨fun z2 => ⟨fun z3 => ⟨fun z4 => ⟨fun z5 => ⟨fun z6 => wr_count_78 _ _ ?_, fun z6 => ⟨fun z7 => wr_count_78 _ _ ?_, fun z7 => ?_⟩⟩, fun z => ?_⟩, fun z => ⟨by decide, by decide, ?_⟩⟩, fun z => ?_⟩, fun z => ?_⟩, fun z => ?_⟩, fun z => ?_⟩
  · subst z6
    exact W (fun i => (o.2.2.2.2.1 i).1) 6 (Or.inl ⟨rfl, fun n hn => (w1 n hn).1⟩) k 8 0 rfl
  · subst z7
    exact W (fun i => decide (¬ (o.2.2.2.2.1 i).2.2 = -1000000000000)) 7 (Or.inr ⟨by decide, fun n hn => (w1 n hn).2.2.1⟩) k 8 0 rfl
  · rw [if_neg z0, if_neg z1, if_neg z2, if_neg z3, if_neg z4, if_neg z5, if_neg z6, if_neg z7] at k
    exact k
  · have z := Decidable.not_not.mp z
    subst z
    rw [h3]
    exact k
  · have z := Decidable.not_not.mp z
    subst z
    rw [lz_c8, h2]
    exact k
  · have z := Decidable.not_not.mp z
    subst z
    rw [w4]
    exact k
  · have z := Decidable.not_not.mp z
    subst z
    rw [w3]
    exact k
  · have z := Decidable.not_not.mp z
    subst z
    rw [w5.2.1]
    exact k
  · have z := Decidable.not_not.mp z
    subst z
    rw [w5.1]
    exact k
end RCA
