/-! THE REFERENCE: syntax, define. -/
section RDF
variable {l : Launch} {G : mx_G} {r d : Nat} {m : rm_M} {Q : Option Value → rm_M → Prop} {o : lz_O}
theorem r_syntax (h : rx m o) (k1 : (lz_line o.1).1 = true → lz_rd o.1 8 0 = (true, o.1.length) → ∀ m2, rx m2 o → m2.2.2.1 7 = nI (lz_line o.1).2 → Q (some (.int 0)) m2) (k0 : (lz_line o.1).1 = false → ∀ m2, rx m2 (o.1, nI (lz_line o.1).2, o.2.2) → Q (some (.int 1)) m2) : mr_C l G r (d + 3) mm_RM_syntax [] m Q := by
  refine wr_syntax_0 (r_badPlace h.1 h.2.1 (fun z y m2 q e => ⟨_, rfl, fun _ => wr_syntax_14 _ ⟨fun _ => k1 z y m2 (h.q q) e, fun c => absurd (by decide) c⟩, fun c => absurd (by decide) c⟩) (fun z m2 q hb => ⟨_, rfl, fun c => absurd c (nI_pos (by omega)), fun c m3 e3 => wr_syntax_14 _ ⟨fun c => absurd c (nI_pos (by omega)), fun _ => k0 z m3 ?_⟩⟩))
  have h2 := h.q q
  obtain ⟨h1, h2, h3, h4, h5, h6, h7⟩ := h2
  rw [e3]
  refine ⟨h1, h2, ?_, h4, h5, h6.w ⟨fun _ _ _ => rfl, fun _ _ => rfl, fun _ _ => ⟨rfl, rfl⟩, fun _ => rfl, fun k hk => ?_⟩, h7⟩
  · simp [rs_s]
  · simp only [rs_s]
    rw [if_neg (by omega)]
theorem r_define {x : Int32} (h : rx m o) (k : ∀ m2, rx m2 (so_define x o).2 → Q (some (.int (so_define x o).1)) m2) : mr_C l G r (d + 4) mm_RM_define [.int x] m Q := by
  unfold so_define at k
  -- the line is emptied
  have kend : ∀ (m1 : rm_M) (o1 : lz_O) (y : Int32), rx m1 o1 → (∀ m2, rx m2 ([], o1.2) → m2.2.2.1 7 = m1.2.2.1 7 → (y = 0 → Q (some (.int (m2.2.2.1 7))) m2) ∧ (¬ y = 0 → Q (some (.int (-3))) m2)) → mr_Ok l G r (d + 4) mm_RM_define 80 [(0, .ref r), (2, .int y)] [] m1 Q := by
    intro m1 o1 y h1 kk
    refine wr_define_80 _ ⟨by decide, by decide, fun m2 e2 => kk m2 ?_ (by rw [e2]; rfl)⟩
    rw [lz_c8] at e2
    obtain ⟨a1, a2, a3, a4, a5, a6, a7⟩ := h1
    rw [e2]
    refine ⟨⟨by simp, fun i hi => absurd hi (by simp)⟩, by simp [rs_i]; rfl, a3, a4, a5, a6.w ⟨fun k i hk => ?_, fun i hi => rfl, fun i hi => ⟨rfl, rfl⟩, fun _ => rfl, fun _ _ => rfl⟩, a7⟩
    simp only [rs_i]
    rw [if_neg (by omega)]
  refine wr_define_0 _ ⟨fun z => ?_, fun z => ⟨fun y => ?_, fun y => ?_⟩⟩
  · rw [if_pos (r_nonum.mp (Or.inl z))] at k
    exact k m h
  · have hn : ¬ so_no x = true := fun q => (r_nonum.mpr q).elim z (fun q2 => q2 y)
    rw [if_neg hn] at k
    obtain ⟨j, hj, rfl⟩ := so_no_n hn
    rw [nI_clamp (by omega)] at k
    refine r_syntax h (fun zl zr m1 h1 e7 => ⟨_, rfl, fun c => absurd rfl c, fun _ => ?_⟩) (fun zl m1 h1 => ⟨_, rfl, fun _ => kend m1 _ _ h1 (fun m2 h2 _ => ⟨fun c => absurd c (by decide), fun _ => ?_⟩), fun c => absurd (by decide) c⟩)
    · rw [if_neg (by rw [zl]; decide)] at k
      have hlen := h1.1.1
      -- the copy
      have W : ∀ (n i : Nat) (m2 : rm_M), i + n = 24 → (∀ q, m2.1 0 q = if j * 24 ≤ q ∧ q < j * 24 + i then m1.1 0 (192 + (q - j * 24)) else m1.1 0 q) → (∀ k q, k ≠ 0 → m2.1 k q = m1.1 k q) → m2.2 = m1.2 → mr_Ok l G r (d + 4) mm_RM_define 23 [(0, .ref r), (1, .int (nI j)), (2, .int 0), (3, .int (nI i))] [] m2 Q := by
        intro n
        induction n with
        | zero =>
          intro i m2 hi c1 c2 c3
          have : i = 24 := by omega
          subst this
          refine wr_define_23 _ _ _ ⟨fun _ => ⟨by decide, by decide, nI_pos (by omega), by rw [nI_clamp (by omega)]; omega, fun m3 e3 => ⟨nI_pos (by omega), by rw [nI_clamp (by omega)]; omega, fun m4 e4 => r_forget (fun m5 e5 e6 => ⟨rfl, ?_⟩)⟩⟩, fun c => absurd (by decide) c⟩
          rw [nI_clamp (by omega)] at e3 e4
          obtain ⟨h1a, h2, h3, h4, h5, h6, h7⟩ := h1
          obtain ⟨w1, w2, w3, w4, w5, w6⟩ := h6
          have s1 : ∀ q i, m5.1 q i = if q = 3 ∧ i < 8 then 0 else if q = 4 ∧ i = j then 1 else if q = 1 ∧ i = j then m2.1 1 8 else m2.1 q i := by
            intro q i
            rw [e5, e4, e3]
            rfl
          have s2 : m5.2 = m1.2 := by rw [e6, e4, e3]; exact c3
          have tx : ∀ q, q < 192 → m5.1 0 q = if j * 24 ≤ q ∧ q < j * 24 + 24 then m1.1 0 (192 + (q - j * 24)) else m1.1 0 q := by
            intro q _
            rw [s1, if_neg (by omega), if_neg (by omega), if_neg (by omega)]
            exact c1 q
          have tx2 : ∀ q, 192 ≤ q → m5.1 0 q = m1.1 0 q := by
            intro q hq
            rw [s1, if_neg (by omega), if_neg (by omega), if_neg (by omega), c1, if_neg (by omega)]
          refine kend m5 (o.1, o.2.1, o.2.2.1, lz_setT o.2.2.2.1 j o.1, lz_fg (lz_setN o.2.2.2.2 j (true, (o.2.2.2.2.1 j).2.1, (o.2.2.2.2.1 j).2.2))) 0 ⟨⟨h1a.1, fun i hi => ?_⟩, ?_, ?_, ?_, fun q => ?_, ⟨fun n hn => ?_, fun n hn q => ⟨?_, fun i hi => ?_⟩, ?_, ?_, w5.w (fun k i hk => ?_) (fun i => by rw [s2]) (fun k hk => by rw [s2]), ⟨fun n hn => ⟨fun q => ?_, Or.inl rfl⟩, w6.2⟩⟩, fun i hi => ?_, h7.2⟩ (fun m6 h6 e7' => ⟨fun _ => ?_, fun c => absurd rfl c⟩)
          · rw [tx2 _ (by omega)]
            exact h1a.2 i hi
          · rw [s1, if_neg (by omega), if_neg (by omega), if_neg (by omega), c2 1 8 (by omega)]
            exact h2
          · rw [s2]
            exact h3
          · rw [s1, if_neg (by omega), if_neg (by omega), if_neg (by omega), c2 3 8 (by omega)]
            exact h4
          · rw [s2]
            exact h5 q
          · refine ⟨?_, ?_, ?_, fun q => absurd rfl q⟩
            · rw [s1, if_neg (by omega)]
              by_cases hnj : n = j
              · subst hnj
                simp [lz_fg, lz_setN, lz_b]
              · rw [if_neg (by omega), if_neg (by omega), c2 4 n (by omega)]
                simp only [lz_fg, lz_setN, if_neg hnj]
                exact (w1 n hn).1
            · rw [s1, if_neg (by omega), if_neg (by omega), if_neg (by omega), c2 5 n (by omega)]
              by_cases hnj : n = j
              · subst hnj
                simp only [lz_fg, lz_setN, if_true]
                exact (w1 n hj).2.1
              · simp only [lz_fg, lz_setN, if_neg hnj]
                exact (w1 n hn).2.1
            · rw [s1, if_pos ⟨rfl, hn⟩]
              rfl
          · by_cases hnj : n = j
            · simp only [lz_setT, if_pos hnj]
              exact hlen
            · simp only [lz_fg, lz_setN, if_neg hnj] at q
              simp only [lz_setT, if_neg hnj]
              exact (w2 n hn q).1
          · by_cases hnj : n = j
            · subst hnj
              simp only [lz_setT, if_true] at hi ⊢
              rw [tx _ (by omega), if_pos (by omega), show n * 24 + i - n * 24 = i by omega]
              exact h1a.2 i hi
            · simp only [lz_fg, lz_setN, if_neg hnj] at q
              simp only [lz_setT, if_neg hnj] at hi ⊢
              have hl2 := (w2 n hn q).1
              rw [tx _ (by omega), if_neg (by omega)]
              exact (w2 n hn q).2 i hi
          · rw [s2]
            exact w3
          · rw [s2]
            exact w4
          · rw [s1, if_neg (by omega), if_neg (by omega), if_neg (by omega), c2 k i (by omega)]
          · by_cases hnj : n = j
            · simp only [lz_setT, if_pos hnj]
              exact zr
            · simp only [lz_fg, lz_setN, if_neg hnj] at q
              simp only [lz_setT, if_neg hnj]
              exact (w6.1 n hn).1 q
          · by_cases hij : i = j
            · subst hij
              simp only [lz_fg, lz_setN, if_true]
              exact h7.1 i hi
            · simp only [lz_fg, lz_setN, if_neg hij]
              exact h7.1 i hi
          · rw [e7', s2, e7]
            exact k m6 h6
        | succ n ih =>
          intro i m2 hi c1 c2 c3
          refine wr_define_23 _ _ _ ⟨fun c => absurd c (nI_ge (b := 24) (by omega) (by omega)), fun _ => ?_⟩
          rw [show (192 : Int32) + nI i = nI (192 + i) from nI_add 192 i, show nI j * 24 = nI (j * 24) from pk_mul j 24, nI_add]
          refine ⟨nI_pos (by omega), by rw [nI_clamp (by omega)]; omega, nI_pos (by omega), by rw [nI_clamp (by omega)]; omega, fun m3 e3 => ?_⟩
          rw [nI_clamp (by omega), nI_clamp (by omega)] at e3
          rw [nI_1]
          refine ih (i + 1) m3 (by omega) (fun q => ?_) (fun k q hk => ?_) (by rw [e3]; exact c3)
          · rw [e3]
            show (if 0 = 0 ∧ q = j * 24 + i then m2.1 0 (192 + i) else m2.1 0 q) = _
            by_cases hq : q = j * 24 + i
            · rw [if_pos ⟨rfl, hq⟩, if_pos (by omega), c1, if_neg (by omega), hq, show j * 24 + i - j * 24 = i by omega]
            · rw [if_neg (fun z => hq z.2), c1]
              by_cases hq2 : j * 24 ≤ q ∧ q < j * 24 + i
              · rw [if_pos hq2, if_pos (by omega)]
              · rw [if_neg hq2, if_neg (by omega)]
          · rw [e3]
            simp only [rs_i]
            rw [if_neg (by omega)]
            exact c2 k q hk
      exact W 24 0 m1 rfl (fun q => by rw [if_neg (by omega)]) (fun _ _ _ => rfl) rfl
    · rw [if_pos zl] at k
      exact k m2 h2
  · rw [if_pos (r_nonum.mp (Or.inr y))] at k
    exact k m h
end RDF
