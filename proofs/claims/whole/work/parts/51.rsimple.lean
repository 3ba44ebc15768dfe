/-! THE REFERENCE's simple calls. -/
/-- the parts of the memory that the working state reads stand as they were -/
def rw_ (m m' : rm_M) : Prop := (∀ k i, (k = 4 ∨ k = 5 ∨ k = 24 ∨ k = 25 ∨ k = 27 ∨ k = 28 ∨ k = 29 ∨ k = 31) → m'.1 k i = m.1 k i) ∧ (∀ i, i < 192 → m'.1 0 i = m.1 0 i) ∧ (∀ i, i < 8 → m'.1 3 i = m.1 3 i ∧ m'.2.1 2 i = m.2.1 2 i) ∧ (∀ i, m'.2.1 26 i = m.2.1 26 i) ∧ ∀ k, (k = 20 ∨ k = 21 ∨ k = 34 ∨ k = 35) → m'.2.2.1 k = m.2.2.1 k
theorem rx_S.w {m m' : rm_M} {S : lz_S} (h : rx_S m S) (q1 : ∀ k i, (k = 24 ∨ k = 25 ∨ k = 27 ∨ k = 28 ∨ k = 29 ∨ k = 31) → m'.1 k i = m.1 k i) (q2 : ∀ i, m'.2.1 26 i = m.2.1 26 i) (q3 : ∀ k, (k = 34 ∨ k = 35) → m'.2.2.1 k = m.2.2.1 k) : rx_S m' S := by
  obtain ⟨h1, h2, h3, h4, h5, h6⟩ := h
  refine ⟨(q3 _ (by simp)).trans h1, (q3 _ (by simp)).trans h2, fun i hi => ?_, fun p hp hp2 => ?_, fun b hb => (q1 _ _ (by simp)).trans (h5 b hb), h6⟩
  · obtain ⟨a1, a2, a3, a4, a5, a6⟩ := h3 i hi
    exact ⟨(q1 _ _ (by simp)).trans a1, (q1 _ _ (by simp)).trans a2, fun j hj => by rw [q2]; exact a3 j hj, (q1 _ _ (by simp)).trans a4, fun z => (q1 _ _ (by simp)).trans (a5 z), (q1 _ _ (by simp)).trans a6⟩
  · rw [q1 27 _ (by simp), q1 29 _ (by simp)]
    exact h4 p hp hp2
theorem rx_W.w {m m' : rm_M} {T : Nat → List Int32} {w : lz_W} (h : rx_W m T w) (q : rw_ m m') : rx_W m' T w := by
  obtain ⟨h1, h2, h3, h4, h5, h6⟩ := h
  obtain ⟨q1, q2, q3, q4, q5⟩ := q
  refine ⟨fun n hn => ?_, fun n hn z => ⟨(h2 n hn z).1, fun i hi => ?_⟩, (q5 _ (by simp)).trans h3, (q5 _ (by simp)).trans h4, h5.w (fun k i hk => q1 k i (by omega)) q4 (fun k hk => q5 k (by omega)), h6⟩
  · obtain ⟨a1, a2, a3, a4⟩ := h1 n hn
    exact ⟨(q1 _ _ (by simp)).trans a1, (q1 _ _ (by simp)).trans a2, (q3 n hn).1.trans a3, fun z => (q3 n hn).2.trans (a4 z)⟩
  · have := (h2 n hn z).1
    rw [q2 _ (by omega)]
    exact (h2 n hn z).2 i hi
section RSI
variable {l : Launch} {G : mx_G} {r d : Nat} {m : rm_M} {Q : Option Value → rm_M → Prop} {o : lz_O}
theorem lz_c8 : Int32.toNatClampNeg 8 = 8 := rfl
theorem r_type {c : Int32} (h : rx m o) (k : ∀ m2, rx m2 (so_type c o).2 → Q (some (.int (so_type c o).1)) m2) : mr_C l G r (d + 2) mm_RM_type [.int c] m Q := by
  obtain ⟨h1, h2, h3, h4, h5, h6, h7⟩ := id h
  unfold so_type at k
  have kin : lz_bl c = true → mr_Ok l G r (d + 2) mm_RM_type 44 [(0, .ref r), (1, .int c)] [] m Q := by
    intro hb
    rw [if_neg (by rw [hb]; decide)] at k
    have e8 : m.1 1 (Int32.toNatClampNeg 8) = nI o.1.length := h2
    have hl := h1.1
    refine wr_type_44 _ ⟨by decide, by decide, fun z => ?_, fun z => ?_⟩
    · rw [e8] at z
      have hlt : o.1.length < 24 := by
        rcases Nat.lt_or_ge o.1.length 24 with q | q
        · exact q
        · exact absurd (by rw [show o.1.length = 24 by omega]; rfl) z
      rw [if_neg (by omega)] at k
      have e192 : (192 : Int32) + nI o.1.length = nI (192 + o.1.length) := nI_add 192 _
      rw [e8, e192]
      refine ⟨by decide, by decide, nI_pos (by omega), by rw [nI_clamp (by omega)]; omega, fun m1 e1 => ⟨by decide, by decide, by decide, by decide, fun m2 e2 => ⟨by decide, by decide, ?_⟩⟩⟩
      rw [nI_clamp (by omega)] at e1
      rw [lz_c8] at e2 ⊢
      have a1 : m1.1 1 8 = nI o.1.length := by rw [e1]; exact h2
      rw [a1, nI_1] at e2
      have a2 : m2.1 1 8 = nI (o.1.length + 1) := by rw [e2]; simp [rs_i]
      rw [a2]
      have a3 : ∀ i, m2.1 0 i = if i = 192 + o.1.length then c else m.1 0 i := by
        intro i
        rw [e2, e1]
        simp [rs_i]
      refine k m2 ⟨⟨?_, fun i hi => ?_⟩, ?_, ?_, ?_, ?_, ?_, h7⟩
      · simp only [List.length_append, List.length_cons, List.length_nil]
        omega
      · have hi : i < o.1.length + 1 := by simpa using hi
        rw [a3]
        by_cases hi2 : i = o.1.length
        · subst hi2
          rw [if_pos (by omega)]
          unfold lz_cd
          simp
        · rw [if_neg (by omega), h1.2 i (by omega)]
          unfold lz_cd
          rw [List.getD_eq_getElem?_getD, List.getD_eq_getElem?_getD, List.getElem?_append_left (by omega)]
      · rw [a2]
        simp
      · rw [e2, e1]
        exact h3
      · rw [e2, e1]
        exact h4
      · rw [e2, e1]
        exact h5
      · refine h6.w ⟨fun k i hk => ?_, fun i hi => ?_, fun i hi => ?_, fun i => ?_, fun k hk => ?_⟩
        · rw [e2, e1]
          simp only [rs_i]
          rw [if_neg (by omega), if_neg (by omega)]
        · rw [a3, if_neg (by omega)]
        · rw [e2, e1]
          exact ⟨rfl, rfl⟩
        · rw [e2, e1]
          rfl
        · rw [e2, e1]
          rfl
    · rw [e8] at z
      have z := Decidable.not_not.mp z
      have hlen : o.1.length = 24 := (nI_eq (b := 24) (by omega) (by omega)).mp z
      rw [if_pos (by omega)] at k
      exact k m h
  refine wr_type_0 _ (r_digit ⟨_, rfl, fun z => kin ?_, fun z => r_name ⟨_, rfl, fun y => kin ?_, fun y => r_wants ⟨_, rfl, fun x => kin ?_, fun x => ⟨fun u => kin ?_, fun u => ⟨fun v => kin ?_, fun v => ⟨fun s => kin ?_, fun s => ?_⟩⟩⟩⟩⟩⟩)
  · unfold lz_bl
    rw [lz_b1.mp z]
    rfl
  · unfold lz_bl
    rw [lz_b1.mp y]
    simp
  · have : 0 < lz_pa c := by
      rcases Nat.eq_zero_or_pos (lz_pa c) with q | q
      · rw [q] at x
        exact absurd rfl x
      · exact q
    unfold lz_bl
    simp [this]
  · unfold lz_bl
    simp [u]
  · unfold lz_bl
    simp [v]
  · unfold lz_bl
    simp [s]
  · have e3 : lz_pa c = 0 := by
      have hle := lz_pa_le c
      rcases Nat.eq_zero_or_pos (lz_pa c) with q | q
      · exact q
      · exact absurd (Decidable.not_not.mp x) (nI_ne0 q (by omega))
    have e : lz_bl c = false := by
      unfold lz_bl
      simp [lz_b0.mp (Decidable.not_not.mp z), lz_b0.mp (Decidable.not_not.mp y), e3, u, v, s]
    rw [if_pos e] at k
    exact k m h
theorem r_types {e : Int64} (h : rx m o) (k : ∀ m2, rx m2 (so_types e 8 o).2 → Q (some (.int (so_types e 8 o).1)) m2) : mr_C l G r (d + 3) mm_RM_types [.long e] m Q := by
  have W : ∀ (n : Nat) (m1 : rm_M) (o1 : lz_O), n ≤ 8 → rx m1 o1 → so_types e n o1 = so_types e 8 o → mr_Ok l G r (d + 3) mm_RM_types 3 [(0, .ref r), (1, .long e), (3, .int (nI (8 * n) - 8))] [] m1 Q := by
    intro n
    induction n with
    | zero =>
      intro m1 o1 hn h1 ho
      refine wr_types_3 _ _ ⟨fun _ => ⟨by decide, by decide, ?_⟩, fun c => absurd (by decide) c⟩
      rw [lz_c8, h1.2.1]
      rw [← ho] at k
      exact k m1 h1
    | succ n ih =>
      intro m1 o1 hn h1 ho
      have e8 : nI (8 * (n + 1)) - 8 = nI (8 * n) := by
        rw [show 8 * (n + 1) = 8 * n + 8 by omega]
        exact pk_sub (a := 8 * n + 8) (b := 8) (by omega)
      rw [e8]
      have em : nI (8 * n) + (-8) = nI (8 * n) - 8 := by
        rw [Int32.sub_eq_add_neg]
      rw [so_types] at ho
      refine wr_types_3 _ _ ⟨fun c => absurd c (nI_pos (by omega)), fun _ => ⟨fun z => ?_, fun z => ?_⟩⟩
      · rw [if_neg (show ¬ so_by e n = 0 from z)] at ho
        refine r_type (c := so_by e n) h1 (fun m2 h2 => ⟨_, rfl, wr_types_32 _ _ _ ⟨fun y => ?_, fun y => ?_⟩⟩)
        · rw [if_neg (Int32.not_lt.mpr y)] at ho
          rw [em]
          exact ih m2 _ (by omega) h2 ho
        · rw [if_pos (Int32.not_le.mp y)] at ho
          rw [← ho] at k
          exact k m2 h2
      · rw [if_pos (show so_by e n = 0 from Decidable.not_not.mp z)] at ho
        refine wr_types_32 _ _ _ ⟨fun _ => ?_, fun y => absurd (by decide) y⟩
        rw [em]
        exact ih m1 o1 (by omega) h1 ho
  exact wr_types_0 _ (W 8 m o (Nat.le_refl _) h rfl)
theorem r_forget (k : ∀ m2, (∀ q i, m2.1 q i = if q = 3 ∧ i < 8 then 0 else m.1 q i) → m2.2 = m.2 → Q none m2) : mr_C l G r (d + 1) mm_RM_forget [] m Q := by
  have W : ∀ (n i : Nat) (m1 : rm_M), i + n = 8 → (∀ q j, m1.1 q j = if q = 3 ∧ j < i then 0 else m.1 q j) → m1.2 = m.2 → mr_Ok l G r (d + 1) mm_RM_forget 2 [(0, .ref r), (1, .int (nI i))] [] m1 Q := by
    intro n
    induction n with
    | zero =>
      intro i m1 hi h1 h2
      have : i = 8 := by omega
      subst this
      exact wr_forget_2 _ ⟨fun _ => k m1 h1 h2, fun c => absurd (by decide) c⟩
    | succ n ih =>
      intro i m1 hi h1 h2
      refine wr_forget_2 _ ⟨fun c => absurd c (nI_ge (b := 8) (by omega) (by omega)), fun _ => ⟨nI_pos (by omega), by rw [nI_clamp (by omega)]; omega, fun m2 e2 => ?_⟩⟩
      rw [nI_clamp (by omega)] at e2
      rw [nI_1]
      refine ih (i + 1) m2 (by omega) (fun q j => ?_) (by rw [e2]; exact h2)
      rw [e2]
      show (if q = 3 ∧ j = i then (0 : Int32) else m1.1 q j) = _
      by_cases hq : q = 3 ∧ j = i
      · rw [if_pos hq, if_pos (by omega)]
      · rw [if_neg hq, h1]
        by_cases hq2 : q = 3 ∧ j < i
        · rw [if_pos hq2, if_pos (by omega)]
        · rw [if_neg hq2, if_neg (by omega)]
  exact wr_forget_0 (W 8 0 m rfl (fun q j => by rw [if_neg (by omega)]) rfl)
theorem r_nonum {x : Int32} : (x < 0 ∨ ¬ x ≤ 7) ↔ so_no x = true := by
  unfold so_no
  simp only [Bool.or_eq_true, decide_eq_true_eq]
  refine or_congr Iff.rfl ⟨fun h => ?_, fun h h2 => ?_⟩
  · have h1 := Int32.lt_iff_toInt_lt.mp (Int32.not_le.mp h)
    refine Int32.le_iff_toInt_le.mpr ?_
    rw [show (7 : Int32).toInt = 7 from rfl] at h1
    rw [show (8 : Int32).toInt = 8 from rfl]
    omega
  · have h1 := Int32.le_iff_toInt_le.mp h
    have h3 := Int32.le_iff_toInt_le.mp h2
    rw [show (7 : Int32).toInt = 7 from rfl] at h3
    rw [show (8 : Int32).toInt = 8 from rfl] at h1
    omega
theorem so_no_n {x : Int32} (h : ¬ so_no x = true) : ∃ j : Nat, j < 8 ∧ x = nI j := by
  rcases pk_ix x (n := 8) (by decide) with q | q | ⟨j, q1, q2⟩
  · exact absurd (so_no_t (Or.inl q)) h
  · exact absurd (so_no_t (Or.inr q)) h
  · exact ⟨j, q1, q2⟩
theorem r_undefine {x : Int32} (h : rx m o) (k : ∀ m2, rx m2 (so_undefine x o).2 → Q (some (.int (so_undefine x o).1)) m2) : mr_C l G r (d + 2) mm_RM_undefine [.int x] m Q := by
  unfold so_undefine at k
  refine wr_undefine_0 _ ⟨fun z => ?_, fun z => ⟨fun y => ?_, fun y => ?_⟩⟩
  · rw [if_pos (r_nonum.mp (Or.inl z))] at k
    exact k m h
  · rw [if_pos (r_nonum.mp (Or.inr (Int32.not_le.mpr y)))] at k
    exact k m h
  · have hn : ¬ so_no x = true := fun q => (r_nonum.mpr q).elim z (fun q2 => q2 (Int32.not_lt.mp y))
    rw [if_neg hn] at k
    obtain ⟨j, hj, rfl⟩ := so_no_n hn
    rw [nI_clamp (by omega)] at k ⊢
    obtain ⟨h1, h2, h3, h4, h5, h6, h7⟩ := id h
    obtain ⟨w1, w2, w3, w4, w5, w6⟩ := h6
    refine ⟨z, by omega, fun x => ?_, fun x => ?_⟩
    · rw [(w1 j hj).1] at x
      rw [if_neg (by rw [lz_b1.mp x]; decide)] at k
      refine ⟨z, by omega, fun m1 e1 => r_forget (fun m2 e2 e3 => ⟨rfl, k m2 ?_⟩)⟩
      have s1 : ∀ q i, m2.1 q i = if q = 3 ∧ i < 8 then 0 else if q = 4 ∧ i = j then 0 else m.1 q i := by
        intro q i
        rw [e2, e1]
        rfl
      have s2 : m2.2 = m.2 := by rw [e3, e1]; rfl
      refine ⟨⟨h1.1, fun i hi => ?_⟩, ?_, ?_, ?_, fun q => ?_, ⟨fun n hn => ?_, fun n hn q => ⟨?_, fun i hi => ?_⟩, ?_, ?_, w5.w (fun k i hk => ?_) (fun i => by rw [s2]) (fun k hk => by rw [s2]), ⟨fun n hn => ⟨fun q => ?_, Or.inl rfl⟩, w6.2⟩⟩, fun i hi => ?_, h7.2⟩
      · rw [s1, if_neg (by omega), if_neg (by omega)]
        exact h1.2 i hi
      · rw [s1, if_neg (by omega), if_neg (by omega)]
        exact h2
      · rw [s2]
        exact h3
      · rw [s1, if_neg (by omega), if_neg (by omega)]
        exact h4
      · rw [s2]
        exact h5 q
      · refine ⟨?_, ?_, ?_, fun q => absurd rfl q⟩
        · rw [s1, if_neg (by omega)]
          by_cases hnj : n = j
          · subst hnj
            simp [lz_fg, lz_setN, lz_b]
          · rw [if_neg (by omega)]
            simp only [lz_fg, lz_setN, if_neg hnj]
            exact (w1 n hn).1
        · rw [s1, if_neg (by omega), if_neg (by omega)]
          by_cases hnj : n = j
          · subst hnj
            simp only [lz_fg, lz_setN, if_true]
            exact (w1 n hj).2.1
          · simp only [lz_fg, lz_setN, if_neg hnj]
            exact (w1 n hn).2.1
        · rw [s1, if_pos ⟨rfl, hn⟩]
          rfl
      · by_cases hnj : n = j
        · subst hnj
          simp only [lz_fg, lz_setN, if_true] at q
          cases q
        · simp only [lz_fg, lz_setN, if_neg hnj] at q
          exact (w2 n hn q).1
      · rw [s1, if_neg (by omega), if_neg (by omega)]
        by_cases hnj : n = j
        · subst hnj
          simp only [lz_fg, lz_setN, if_true] at q
          cases q
        · simp only [lz_fg, lz_setN, if_neg hnj] at q
          exact (w2 n hn q).2 i hi
      · rw [s2]
        exact w3
      · rw [s2]
        exact w4
      · rw [s1, if_neg (by omega), if_neg (by omega)]
      · by_cases hnj : n = j
        · subst hnj
          simp only [lz_fg, lz_setN, if_true] at q
          cases q
        · simp only [lz_fg, lz_setN, if_neg hnj] at q
          exact (w6.1 n hn).1 q
      · by_cases hij : i = j
        · subst hij
          simp only [lz_fg, lz_setN, if_true]
          exact h7.1 i hi
        · simp only [lz_fg, lz_setN, if_neg hij]
          exact h7.1 i hi
    · rw [(w1 j hj).1] at x
      rw [if_pos (lz_b0.mp (Decidable.not_not.mp x))] at k
      exact k m h
end RSI
