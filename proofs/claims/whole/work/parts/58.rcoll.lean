/-! THE REFERENCE: build, collect. -/
section RCL
variable {l : Launch} {G : mx_G} {r d : Nat} {m : rm_M} {Q : Option Value → rm_M → Prop} {o : lz_O}
/-- the object's other parts under building -/
theorem rx.u {m2 : rm_M} {S2 : lz_S} (h : rx m o) (u : ru m m2) (h2 : rx_S m2 S2) (hz : lz_sz o ≤ S2.2.1) : rx m2 (o.1, o.2.1, o.2.2.1, o.2.2.2.1, o.2.2.2.2.1, o.2.2.2.2.2.1, o.2.2.2.2.2.2.1, S2) := by
  obtain ⟨a1, a2, a3, a4, a5, a6, a7⟩ := h
  obtain ⟨w1, w2, w3, w4, w5, w6⟩ := a6
  have c : ∀ k i, (k = 0 ∨ k = 1 ∨ k = 3 ∨ k = 4 ∨ k = 5) → m2.1 k i = m.1 k i := fun k i hk => u.1 k i (by omega) (by omega) (by omega) (by omega)
  refine ⟨⟨a1.1, fun i hi => (c _ _ (by simp)).trans (a1.2 i hi)⟩, (c _ _ (by simp)).trans a2, (u.2.2.1 6 (by omega)).trans a3, (c _ _ (by simp)).trans a4, fun z => by rw [u.2.1]; exact a5 z, ⟨fun n hn => ?_, fun n hn z => ⟨(w2 n hn z).1, fun i hi => (c _ _ (by simp)).trans ((w2 n hn z).2 i hi)⟩, (u.2.2.1 20 (by omega)).trans w3, (u.2.2.1 21 (by omega)).trans w4, h2, w6.mono h2.2.2.2.2.2 hz⟩, a7⟩
  obtain ⟨b1, b2, b3, b4⟩ := w1 n hn
  exact ⟨(c _ _ (by simp)).trans b1, (c _ _ (by simp)).trans b2, (c _ _ (by simp)).trans b3, fun z => by rw [u.2.1]; exact b4 z⟩
theorem r_build {x : Int32} (h : rx m o) (k : ∀ m2, rx m2 (so_build x o).2 → Q (some (.int (so_build x o).1)) m2) : mr_C l G r (d + 5) mm_RM_build [.int x] m Q := by
  have hh := h
  obtain ⟨h1, h2, h3, h4, h5, h6, h7⟩ := id h
  obtain ⟨w1, w2, w3, w4, w5, w6⟩ := h6
  have hz : lz_sz o ≤ 30 := w5.2.2.2.2.2.1
  unfold so_build at k
  refine wr_build_0 _ (r_noPlan w5 (fun j hj e => ⟨_, rfl, fun _ => ⟨fun z => ?_, fun z => ?_⟩, fun y => absurd rfl y⟩) (fun z => ⟨_, rfl, fun y => absurd y (by decide), fun _ => ?_⟩))
  · subst e
    have hj : j < lz_sz o := hj
    rw [w4] at z
    have hf := h7.2.2
    have hlt : o.2.2.2.2.2.2.1 < 30 := (nI_ltI (b := 30) (by omega) (by omega)).mp z
    rw [if_neg (by rw [so_np_f hz hj]; decide), if_neg (by omega), lz_nI1 (by omega)] at k
    simp only at k
    have hsm := (lz_pt_sm 30 (lz_sto o) (lz_pv j)).1
    refine r_construct (S := lz_sto o) w5 hj (fun zb m2 hm2 hu => ⟨_, rfl, fun c => absurd c (by decide), fun _ => ?_⟩) (fun zb m2 hm2 hu => ⟨_, rfl, fun _ m3 e3 => ?_, fun c => absurd rfl c⟩)
    · unfold so_ans at k
      rw [if_neg (by rw [zb]; decide)] at k
      exact k m2 (hh.u hu hm2 (Nat.le_of_eq hsm.symm))
    · have hbr : (lz_pt 30 (lz_sto o) (lz_pv j)).1 = -1000000000007 := by
        rcases lz_pt_nb 30 w5.2.2.2.2.2 (Or.inr ⟨j, hj, rfl⟩) (fun q hq _ => hq) with ⟨y, hy⟩ | hy
        · rw [show (lz_pt 30 (lz_sto o) (lz_pv j)).1 = y.toInt64 from hy, lz_n_bad] at zb
          cases zb
        · exact hy
      unfold so_ans at k
      rw [if_pos zb, hbr] at k
      have g := hh.u hu hm2 (Nat.le_of_eq hsm.symm)
      rw [(hu.2.2.1 21 (by omega)).trans w4, nI_1] at e3
      refine k m3 ?_
      obtain ⟨a1, a2, a3, a4, a5, a6, a7⟩ := g
      rw [e3]
      refine ⟨a1, a2, a3, a4, a5, ⟨a6.1, a6.2.1, a6.2.2.1, by simp [rs_s], a6.2.2.2.2.1.w (fun _ _ _ => rfl) (fun _ => rfl) (fun k hk => ?_), a6.2.2.2.2.2⟩, a7.1, a7.2.1, by show o.2.2.2.2.2.2.1 + 1 ≤ 230; omega⟩
      simp only [rs_s]
      rw [if_neg (by omega)]
  · subst e
    have hj : j < lz_sz o := hj
    rw [w4] at z
    have hf := h7.2.2
    have hge : 30 ≤ o.2.2.2.2.2.2.1 := by
      rcases Nat.lt_or_ge o.2.2.2.2.2.2.1 30 with q | q
      · exact absurd (nI_lt (b := 30) q (by omega)) z
      · exact q
    rw [if_neg (by rw [so_np_f hz hj]; decide), if_pos hge] at k
    exact k m h
  · rw [if_pos (so_np_t z)] at k
    exact k m h
/-- what collect changes -/
def rv (m0 m : rm_M) : Prop := (∀ k i, k ≠ 27 → k ≠ 30 → m.1 k i = m0.1 k i) ∧ m.2 = m0.2
theorem r_collect (h : rx m o) (k : ∀ m2, rx m2 (so_collect o).2 → Q (some (.int (so_collect o).1)) m2) : mr_C l G r (d + 2) mm_RM_collect [] m Q := by
  obtain ⟨h1, h2, h3, h4, h5, h6, h7⟩ := id h
  obtain ⟨w1, w2, w3, w4, w5, w6⟩ := h6
  obtain ⟨S, eS⟩ : ∃ S, S = lz_sto o := ⟨_, rfl⟩
  have w5 : rx_S m S := by rw [eS]; exact w5
  have hz : S.2.1 ≤ 30 := w5.2.2.2.2.2.1
  unfold so_collect at k
  rw [show lz_sz o = S.2.1 by rw [eS]; rfl, ← eS] at k
  -- the second loop: PLANS i - 1 down
  have L2 : ∀ (i : Nat) (c : Nat) (m1 : rm_M) (W1 : Nat → Bool) (S1 : lz_S), i ≤ S.2.1 → S1.2.1 = S.2.1 → rx_S m1 S1 → rv m m1 → (∀ q, q < S.2.1 → m1.1 30 (q + 1) = lz_b (W1 q)) → (lz_sw S.2.1 (fun i => (S.1 i).2.2.2.2) S).1 = c + (lz_sw i W1 S1).1 → (lz_sw S.2.1 (fun i => (S.1 i).2.2.2.2) S).2 = (lz_sw i W1 S1).2 → mr_Ok l G r (d + 2) mm_RM_collect 35 [(0, .ref r), (1, .int (nI c)), (2, .int (nI i))] [] m1 Q := by
    intro i
    induction i with
    | zero =>
      intro c m1 W1 S1 hi e1 hS1 hv hW f1 f2
      refine wr_collect_35 _ _ ⟨fun _ => ?_, fun z => absurd (by decide) z⟩
      simp only [lz_sw, Nat.add_zero] at f1 f2
      rw [f1, f2] at k
      refine k m1 ?_
      have c1 : ∀ k i, (k = 0 ∨ k = 1 ∨ k = 3 ∨ k = 4 ∨ k = 5) → m1.1 k i = m.1 k i := fun k i hk => hv.1 k i (by omega) (by omega)
      have hle : lz_sz o ≤ S1.2.1 := by rw [e1, eS]; exact Nat.le_refl _
      refine ⟨⟨h1.1, fun i hi => (c1 _ _ (by simp)).trans (h1.2 i hi)⟩, (c1 _ _ (by simp)).trans h2, by rw [hv.2]; exact h3, (c1 _ _ (by simp)).trans h4, fun z => by rw [hv.2]; exact h5 z, ⟨fun n hn => ?_, fun n hn z => ⟨(w2 n hn z).1, fun i hi => (c1 _ _ (by simp)).trans ((w2 n hn z).2 i hi)⟩, by rw [hv.2]; exact w3, by rw [hv.2]; exact w4, hS1, w6.mono hS1.2.2.2.2.2 hle⟩, h7⟩
      obtain ⟨b1, b2, b3, b4⟩ := w1 n hn
      exact ⟨(c1 _ _ (by simp)).trans b1, (c1 _ _ (by simp)).trans b2, (c1 _ _ (by simp)).trans b3, fun z => by rw [hv.2]; exact b4 z⟩
    | succ i ih =>
      intro c m1 W1 S1 hi e1 hS1 hv hW f1 f2
      have hi1 : i < S1.2.1 := by omega
      have hc1 : Int32.toNatClampNeg (nI (i + 1)) = i + 1 := nI_clamp (by omega)
      have hl := (hS1.2.2.2.2.2.2.1 i hi1).1
      have hVs := (hS1.2.2.2.2.2.2.1 i hi1).2.1
      have hnext : ∀ (c' : Nat) (m2 : rm_M) (W2 : Nat → Bool) (S2 : lz_S), S2.2.1 = S.2.1 → rx_S m2 S2 → rv m m2 → (∀ q, q < S.2.1 → m2.1 30 (q + 1) = lz_b (W2 q)) → (lz_sw S.2.1 (fun i => (S.1 i).2.2.2.2) S).1 = c' + (lz_sw i W2 S2).1 → (lz_sw S.2.1 (fun i => (S.1 i).2.2.2.2) S).2 = (lz_sw i W2 S2).2 → mr_Ok l G r (d + 2) mm_RM_collect 133 [(0, .ref r), (1, .int (nI c')), (2, .int (nI (i + 1)))] [] m2 Q := by
        intro c' m2 W2 S2 g1 g2 g3 g4 g5 g6
        refine wr_collect_133 _ _ ?_
        rw [pk_m1]
        exact ih c' m2 W2 S2 (by omega) g1 g2 g3 g4 g5 g6
      rw [lz_sw] at f1 f2
      -- the inner loop
      have L3 : ∀ (n q : Nat) (m2 : rm_M) (W2 : Nat → Bool), q + n = (S1.1 i).2.1.length → rx_S m2 S1 → rv m m2 → (∀ q, q < S.2.1 → m2.1 30 (q + 1) = lz_b (W2 q)) → W2 i = W1 i → (W1 i = false → W2 = W1) → (W1 i = true → ((S1.1 i).2.1.drop q).foldl lz_mk1 W2 = lz_mk W1 (S1.1 i).2.1) → mr_Ok l G r (d + 2) mm_RM_collect 42 [(0, .ref r), (1, .int (nI c)), (2, .int (nI (i + 1))), (3, .int (nI q))] [] m2 Q := by
        intro n
        induction n with
        | zero =>
          intro q m2 W2 hq g1 g2 g3 g4 g5 g6
          obtain ⟨a1, a2, a3, a4, a5, a6⟩ := g1.2.2.1 i hi1
          rw [List.drop_eq_nil_of_le (by omega)] at g6
          refine wr_collect_42 _ _ _ ⟨nI_pos (by omega), by rw [hc1]; omega, fun _ => ⟨nI_pos (by omega), by rw [hc1]; omega, fun z => ?_, fun z => ⟨nI_pos (by omega), by rw [hc1]; omega, fun y => ?_, fun y => ⟨nI_pos (by omega), by rw [hc1]; omega, fun m3 e3 => ?_⟩⟩⟩, fun z => absurd ?_ z⟩
          · rw [hc1, a4] at z
            have z := lz_b0.mp z
            by_cases hw : W1 i = true
            · rw [if_pos hw] at f1 f2
              exact hnext c m2 W2 S1 e1 g1 g2 g3 (by rw [show W2 = lz_mk W1 (S1.1 i).2.1 from g6 hw]; exact f1) (by rw [show W2 = lz_mk W1 (S1.1 i).2.1 from g6 hw]; exact f2)
            · rw [if_neg hw, if_neg (by rw [z]; decide)] at f1 f2
              have hw : W1 i = false := by simpa using hw
              exact hnext c m2 W2 S1 e1 g1 g2 g3 (by rw [g5 hw]; exact f1) (by rw [g5 hw]; exact f2)
          · rw [hc1, g3 i (by omega), g4] at y
            have hw := lz_b1.mp y
            rw [if_pos hw] at f1 f2
            exact hnext c m2 W2 S1 e1 g1 g2 g3 (by rw [show W2 = lz_mk W1 (S1.1 i).2.1 from g6 hw]; exact f1) (by rw [show W2 = lz_mk W1 (S1.1 i).2.1 from g6 hw]; exact f2)
          · rw [hc1, g3 i (by omega), g4] at y
            have hw := lz_b0.mp (Decidable.not_not.mp y)
            rw [hc1, a4] at z
            have z := lz_b1.mp z
            rw [if_neg (by rw [hw]; decide), if_pos z] at f1 f2
            rw [hc1] at e3
            rw [nI_1]
            have c27 : ∀ q, m3.1 27 q = if q = i + 1 then 0 else m2.1 27 q := by
              intro q
              rw [e3]
              simp [rs_i]
            have cne : ∀ k q, k ≠ 27 → m3.1 k q = m2.1 k q := by
              intro k q hk
              rw [e3]
              simp only [rs_i]
              rw [if_neg (by omega)]
            have c2 : m3.2 = m2.2 := by rw [e3]; rfl
            obtain ⟨s1, s2, s3, s4, s5, s6⟩ := g1
            have hok : lz_okS (lz_setP S1 i ((S1.1 i).1, (S1.1 i).2.1, false, 0, (S1.1 i).2.2.2.2)) := by
              refine ⟨s6.1, fun j hj => ?_, s6.2.2⟩
              by_cases hij : j = i
              · subst hij
                simp only [lz_setP, if_true]
                obtain ⟨u1, u2, u3, -⟩ := s6.2.1 j hj
                exact ⟨u1, u2, u3, fun _ => rfl⟩
              · simp only [lz_setP, if_neg hij]
                exact s6.2.1 j hj
            refine hnext (c + 1) m3 W2 (lz_setP S1 i ((S1.1 i).1, (S1.1 i).2.1, false, 0, (S1.1 i).2.2.2.2)) e1 ⟨by rw [c2]; exact s1, by rw [c2]; exact s2, fun j hj => ?_, fun p hp hp2 => ?_, fun b hb => (cne _ _ (by omega)).trans (s5 b hb), hok⟩ ⟨fun k q hk1 hk2 => (cne k q hk1).trans (g2.1 k q hk1 hk2), c2.trans g2.2⟩ (fun q hq => (cne _ _ (by omega)).trans (g3 q hq)) (by rw [g5 hw, f1]; omega) (by rw [g5 hw]; exact f2)
            · obtain ⟨b1, b2, b3, b4, b5, b6⟩ := s3 j hj
              by_cases hij : j = i
              · subst hij
                simp only [lz_setP, if_true]
                exact ⟨(cne _ _ (by omega)).trans b1, (cne _ _ (by omega)).trans b2, fun q hq => by rw [c2]; exact b3 q hq, by rw [c27, if_pos rfl]; rfl, fun z => (by cases z), (cne _ _ (by omega)).trans b6⟩
              · simp only [lz_setP, if_neg hij]
                exact ⟨(cne _ _ (by omega)).trans b1, (cne _ _ (by omega)).trans b2, fun q hq => by rw [c2]; exact b3 q hq, by rw [c27, if_neg (by omega)]; exact b4, fun z => (cne _ _ (by omega)).trans (b5 z), (cne _ _ (by omega)).trans b6⟩
            · have hp : S1.2.1 < p := hp
              rw [c27, if_neg (by omega), cne 29 _ (by omega)]
              exact s4 p hp hp2
          · rw [hc1, a2]
            exact nI_le (by omega) (by omega)
        | succ n ihn =>
          intro q m2 W2 hq g1 g2 g3 g4 g5 g6
          obtain ⟨a1, a2, a3, a4, a5, a6⟩ := g1.2.2.1 i hi1
          have hlt : q < (S1.1 i).2.1.length := by omega
          obtain ⟨p1, p2, p3⟩ := g1.ip hi1 hlt
          obtain ⟨v, ev⟩ : ∃ v, v = m2.2.1 26 ((i + 1) * 4 + q) := ⟨_, rfl⟩
          rw [← ev] at p3
          have hV : lz_V i v := hVs v (List.mem_of_getElem? p3)
          rw [lz_drop p3] at g6
          have hgo : ∀ (m3 : rm_M) (W3 : Nat → Bool), rx_S m3 S1 → rv m m3 → (∀ q, q < S.2.1 → m3.1 30 (q + 1) = lz_b (W3 q)) → W3 i = W1 i → (W1 i = false → W3 = W1) → (W1 i = true → W3 = lz_mk1 W2 v) → mr_Ok l G r (d + 2) mm_RM_collect 99 [(0, .ref r), (1, .int (nI c)), (2, .int (nI (i + 1))), (3, .int (nI q))] [] m3 Q := by
            intro m3 W3 u1 u2 u3 u4 u5 u6
            refine wr_collect_99 _ _ _ ?_
            rw [nI_1]
            exact ihn (q + 1) m3 W3 (by omega) u1 u2 u3 u4 u5 (fun z => by rw [u6 z]; exact g6 z)
          refine wr_collect_42 _ _ _ ⟨nI_pos (by omega), by rw [hc1]; omega, fun z => absurd z ?_, fun _ => ⟨nI_pos (by omega), by rw [hc1]; omega, fun z => ?_, fun z => ?_⟩⟩
          · rw [hc1, a2]
            exact nI_ge (by omega) (by omega)
          · rw [hc1, g3 i (by omega), g4] at z
            have hw := lz_b0.mp z
            exact hgo m2 W2 g1 g2 g3 g4 g5 (fun z => by rw [hw] at z; cases z)
          · rw [hc1, g3 i (by omega), g4] at z
            have hw := lz_b1.mp z
            rw [p1]
            refine ⟨nI_pos (by omega), by rw [nI_clamp (by omega)]; omega, ?_⟩
            rw [nI_clamp (by omega), ← ev]
            refine r_isNumber (n := i) (by omega) hV ⟨_, rfl, fun y => ?_, fun y => ⟨nI_pos (by omega), by omega, ?_⟩⟩
            · have y := lz_b1.mp y
              refine hgo m2 W2 g1 g2 g3 g4 g5 (fun _ => ?_)
              funext s
              unfold lz_mk1
              rw [if_neg (by
                rintro ⟨u, -⟩
                rw [u] at y
                cases y)]
            · have y := lz_b0.mp (Decidable.not_not.mp y)
              rcases hV with ⟨x, hx⟩ | ⟨j, hj, hx⟩
              · rw [hx, lz_n_pl] at y
                cases y
              rw [← ev, hx, lz_pv_i]
              have hcj : Int32.toNatClampNeg (nI (j + 1)) = j + 1 := nI_clamp (by omega)
              refine ⟨nI_pos (by omega), by rw [hcj]; omega, fun m3 e3 => ?_⟩
              rw [hcj] at e3
              refine hgo m3 (lz_mk1 W2 v) (g1.w (fun k i hk => ?_) (fun _ => by rw [e3]; rfl) (fun _ _ => by rw [e3]; rfl)) ⟨fun k q hk1 hk2 => ?_, by rw [e3]; exact g2.2⟩ (fun s hs => ?_) ?_ (fun u => by rw [hw] at u; cases u) (fun _ => rfl)
              · rw [e3]
                simp only [rs_i]
                rw [if_neg (by omega)]
              · rw [e3]
                simp only [rs_i]
                rw [if_neg (by omega)]
                exact g2.1 k q hk1 hk2
              · rw [e3]
                show (if 30 = 30 ∧ s + 1 = j + 1 then (1 : Int32) else m2.1 30 (s + 1)) = _
                unfold lz_mk1
                rw [hx, lz_pv_pl (by omega), lz_pv_ix (by omega)]
                by_cases hsj : s = j
                · rw [if_pos ⟨rfl, by omega⟩, if_pos ⟨rfl, hsj⟩]
                  rfl
                · rw [if_neg (by omega), if_neg (fun u => hsj u.2)]
                  exact g3 s hs
              · unfold lz_mk1
                rw [hx, lz_pv_pl (by omega), lz_pv_ix (by omega), if_neg (by omega)]
                exact g4
      refine wr_collect_35 _ _ ⟨fun z => absurd z (nI_nlt (b := 1) (by omega) (by omega)), fun _ => ?_⟩
      exact L3 _ 0 m1 W1 (Nat.zero_add _) hS1 hv hW rfl (fun _ => rfl) (fun _ => rfl)
  -- the first loop
  have L1 : ∀ (n i : Nat) (m1 : rm_M), i + n = S.2.1 → (∀ k q, k ≠ 30 → m1.1 k q = m.1 k q) → m1.2 = m.2 → (∀ q, q < i → m1.1 30 (q + 1) = lz_b (S.1 q).2.2.2.2) → mr_Ok l G r (d + 2) mm_RM_collect 4 [(0, .ref r), (1, .int 0), (2, .int (nI (i + 1)))] [] m1 Q := by
    intro n
    induction n with
    | zero =>
      intro i m1 hi c1 c2 c3
      have e34 : m1.2.2.1 34 = nI S.2.1 := by rw [c2]; exact w5.1
      refine wr_collect_4 _ _ ⟨fun _ => ?_, fun z => absurd ?_ z⟩
      · rw [e34]
        exact L2 S.2.1 0 m1 (fun i => (S.1 i).2.2.2.2) S (Nat.le_refl _) rfl (w5.w (fun k i hk => c1 k i (by omega)) (fun _ => by rw [c2]) (fun _ _ => by rw [c2])) ⟨fun k q _ h30 => c1 k q h30, c2⟩ (fun q hq => c3 q (by omega)) (by rw [Nat.zero_add]) rfl
      · rw [e34]
        exact nI_lt (by omega) (by omega)
    | succ n ih =>
      intro i m1 hi c1 c2 c3
      have e34 : m1.2.2.1 34 = nI S.2.1 := by rw [c2]; exact w5.1
      have hc1 : Int32.toNatClampNeg (nI (i + 1)) = i + 1 := nI_clamp (by omega)
      have e29 : m1.1 29 (i + 1) = lz_b (S.1 i).2.2.2.2 := (c1 29 _ (by omega)).trans (w5.2.2.1 i (by omega)).2.2.2.2.2
      refine wr_collect_4 _ _ ⟨fun z => ?_, fun _ => ⟨nI_pos (by omega), by rw [hc1]; omega, nI_pos (by omega), by rw [hc1]; omega, ?_, fun m2 e2 => ?_⟩⟩
      · rw [e34] at z
        exact absurd z (nI_nlt (by omega) (by omega))
      · rw [hc1, e29]
        exact lz_b01 _
      · rw [hc1, e29] at e2
        rw [nI_1]
        refine ih (i + 1) m2 (by omega) (fun k q hk => ?_) (by rw [e2]; exact c2) (fun q hq => ?_)
        · rw [e2]
          simp only [rs_i]
          rw [if_neg (by omega)]
          exact c1 k q hk
        · rw [e2]
          show (if 30 = 30 ∧ q + 1 = i + 1 then lz_b (S.1 i).2.2.2.2 else m1.1 30 (q + 1)) = _
          by_cases hqi : q = i
          · rw [if_pos ⟨rfl, by omega⟩, hqi]
          · rw [if_neg (by omega)]
            exact c3 q (by omega)
  exact wr_collect_0 (L1 S.2.1 0 m (Nat.zero_add _) (fun _ _ _ => rfl) rfl (fun q hq => absurd hq (Nat.not_lt_zero _)))
end RCL
