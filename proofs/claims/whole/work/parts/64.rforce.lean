/-! THE REFERENCE: force and show. -/
section RFO
variable {l : Launch} {G : mx_G} {r d : Nat} {m : rm_M} {Q : Option Value → rm_M → Prop} {o : lz_O} {T : Nat → List Int32} {w : lz_W}
theorem fcd.code {v : Int64} {x : Int32} (h : fcd v x) : x = Int64.toInt32 (v - (-1000000000000)) := by
  rcases h with ⟨rfl, rfl⟩ | ⟨rfl, rfl⟩ | ⟨rfl, rfl⟩ | ⟨rfl, rfl⟩ | ⟨rfl, rfl⟩ | ⟨rfl, rfl⟩ | ⟨rfl, rfl⟩ <;> decide
theorem r_work {s k e N : Nat} {t : List Int32} (hs : s ≤ 9) (hk : k ≤ 8) (hr : lz_rd t k 0 = (true, e)) (hx : rx_t m s t) (hW : rx_W m T w) (hby : ∀ i, i < 8 → (w.1 i).2.1 = false) (hN : 200 ≤ N)
    (k0 : lz_bad (lz_ev T N t 0 (w.1, 0, w.2.2)).1 = false → ∀ m2, rn m m2 → rx_W m2 T (lz_ev T N t 0 (w.1, 0, w.2.2)).2 → m2.2.2.2 = (lz_ev T N t 0 (w.1, 0, w.2.2)).1 → Q (some (.int 0)) m2)
    (k1 : lz_bad (lz_ev T N t 0 (w.1, 0, w.2.2)).1 = true → ∀ m2 x, rn m m2 → rx_W m2 T ((lz_ev T N t 0 (w.1, 0, w.2.2)).2.1, (lz_ev T N t 0 (w.1, 0, w.2.2)).2.2.1, (lz_ev T N t 0 (w.1, 0, w.2.2)).2.2.2.1 + 1, (lz_ev T N t 0 (w.1, 0, w.2.2)).2.2.2.2) → ¬ x = 0 → x = Int64.toInt32 ((lz_ev T N t 0 (w.1, 0, w.2.2)).1 - (-1000000000000)) → Q (some (.int x)) m2) : mr_C l G r (d + 9) mm_RM_work [.int (nI s), .int 0] m Q := by
  refine wr_work_0 (d := d + 8) _ _ (fun m1 e1 m2 e2 m3 e3 => mr_Ok.up (d := d + 7) ?_ (by omega))
  have hms : ms m T m3 (w.1, 0, w.2.2) 0 := by
    obtain ⟨v1, v2, v3, v4, v5, v6⟩ := hW
    rw [e3, e2, e1]
    exact ⟨⟨fun _ => rfl, fun _ => rfl, rfl, rfl, rfl⟩, ⟨v1, v2, by simp [rs_s]; rfl, v4, v5, v6⟩, by simp [rs_s]; rfl⟩
  have hx3 : rx_t m3 s t := by rw [e3, e2, e1]; exact hx
  refine rEv (m0 := m) (T := T) N t s 0 k e 0 m3 (w.1, 0, w.2.2) hs hk hr hx3 hms (by show 200 ≤ 0 + N; omega) (by show 0 ≤ 200; omega) (by omega) (by rw [e3]; simp [rs_s]) ⟨fun z m4 a1 a2 a3 a4 _ => ?_, fun z m4 a1 a2 _ => ?_⟩
  · refine wr_work_21 (d := d + 8) ⟨fun _ => ⟨fun _ => wr_work_117 ?_, fun q => absurd a2 q⟩, fun q => absurd ?_ q⟩
    · rw [a2]
      exact k0 z m4 a1.1 a1.2.1 a4
    · rw [a1.2.2]
      exact Int32.le_refl _
  · unfold rF
    rw [if_pos rfl]
    refine wr_work_21 (d := d + 8) ⟨fun _ => ⟨fun q => absurd q a2.nz, fun _ m5 e5 => wr_work_117 ?_⟩, fun q => absurd ?_ q⟩
    · obtain ⟨⟨u1, u2, u3, u4, u5⟩, ⟨v1, v2, v3, v4, v5, v6⟩, v7⟩ := a1
      have e22 : m5.2.2.1 22 = m4.2.2.1 22 := by rw [e5]; rfl
      rw [e22]
      refine k1 z m5 _ (by rw [e5]; exact ⟨u1, u2, u3, u4, u5⟩) ?_ a2.nz a2.code
      rw [e5]
      refine ⟨v1, v2, v3, ?_, v5, v6⟩
      simp [rs_s]
      rw [v4, nI_1]
    · rw [a1.2.2]
      exact Int32.le_refl _
theorem rx.wk {m2 : rm_M} {w' : lz_W} (h : rx m o) (a : rn m m2) (b : rx_W m2 o.2.2.2.1 w') (c : ∀ i, i < 8 → (w'.1 i).2.1 = false) (e : w'.2.1 ≤ 200) (f : w'.2.2.1 ≤ 230) : rx m2 (o.1, o.2.1, o.2.2.1, o.2.2.2.1, w') := by
  obtain ⟨h1, h2, h3, h4, h5, h6, h7⟩ := h
  exact ⟨⟨h1.1, fun i hi => (a.1 _).trans (h1.2 i hi)⟩, (a.2.1 8).trans h2, a.2.2.2.2.trans h3, a.2.2.1.trans h4, fun z => a.2.2.2.1.trans (h5 z), b, c, e, f⟩
theorem lz_rd_1 {n : Nat} (hn : n < 8) : lz_rd [nI (n + 97)] 8 0 = (true, 1) := by
  have h : lz_lt (lz_cd [nI (n + 97)] 0) = true := (lz_lt_c hn).1
  rw [lz_rd, if_neg (by simp), if_pos (by rw [h, Bool.or_true])]
theorem lz_ev_1 {n N : Nat} (hn : n < 8) : lz_ev T (N + 1) [nI (n + 97)] 0 (w.1, 0, w.2.2) = lz_name (lz_ev T N) T n (w.1, 1, w.2.2) := by
  have h : lz_cd [nI (n + 97)] 0 = nI (n + 97) := rfl
  have hd : lz_dg (nI (n + 97)) = false := by
    unfold lz_dg
    rw [decide_eq_false (show ¬ nI (n + 97) ≤ 57 from fun z => absurd ((nI_leI (a := n + 97) (b := 57) (by omega) (by omega)).mp z) (by omega)), Bool.and_false]
  obtain ⟨hl, e97⟩ := lz_lt_c hn
  rw [lz_ev, if_neg (by show ¬ 200 ≤ 0; omega)]
  unfold lz_body
  simp only [h, hd, hl, Bool.false_eq_true, if_false, if_true]
  rw [e97, nI_clamp (by omega)]
theorem r_force {x : Int32} (h : rx m o) (k : ∀ m2, rx m2 (so_force x o).2 → Q (some (.int (so_force x o).1)) m2) : mr_C l G r (d + 10) mm_RM_force [.int x] m Q := by
  have hf := h.2.2.2.2.2.2.2.2
  have h21 : m.2.2.1 21 = nI o.2.2.2.2.2.2.1 := h.2.2.2.2.2.1.2.2.2.1
  have hno : so_no x = true → so_force x o = (-1, o) := fun z => by unfold so_force; rw [if_pos z]
  refine wr_force_0 (d := d + 9) _ ⟨fun c => ?_, fun c => ⟨fun c2 => ?_, fun c2 => ?_⟩⟩
  · rw [hno (r_nonum.mp (Or.inl c))] at k
    exact k m h
  · have hn : so_no x = false := by
      cases q : so_no x
      · rfl
      · exact absurd (r_nonum.mpr q) (fun q => q.elim c (fun q => q c2))
    obtain ⟨n, hn8, rfl⟩ := nI_of2 (x := x) (M := 7) (n := 7) rfl c c2
    rw [h21]
    refine ⟨fun c3 => ⟨by decide, by decide, fun m1 e1 => ?_⟩, fun c3 => ?_⟩
    · have c30 : ¬ 30 ≤ o.2.2.2.2.2.2.1 := fun q => (nI_nlt (a := o.2.2.2.2.2.2.1) (b := 30) (by omega) (by omega)) c3
      have e97 : (97 : Int32) + nI n = nI (n + 97) := by rw [show (97 : Int32) = nI 97 from rfl, nI_add, Nat.add_comm]
      rw [e97, show Int32.toNatClampNeg 216 = 216 from rfl] at e1
      have g0 : ∀ i, ¬ i = 216 → m1.1 0 i = m.1 0 i := fun i hi => by rw [e1]; simp only [rs_i]; rw [if_neg (fun q => hi q.2)]
      have g1 : ∀ k i, ¬ k = 0 → m1.1 k i = m.1 k i := fun k i hk => by rw [e1]; simp only [rs_i]; rw [if_neg (fun q => hk q.1)]
      have g2 : m1.2 = m.2 := by rw [e1]; rfl
      have hx9 : rx_t m1 9 [nI (n + 97)] := ⟨by simp, fun i hi => by
        have : i = 0 := by simp at hi; omega
        subst this
        rw [e1]
        simp [rs_i]
        rfl⟩
      have h1 : rx m1 o := by
        obtain ⟨h1, h2, h3, h4, h5, ⟨v1, v2, v3, v4, v5, v6⟩, h7⟩ := h
        refine ⟨⟨h1.1, fun i hi => (g0 _ (by have := h1.1; omega)).trans (h1.2 i hi)⟩, (g1 _ _ (by omega)).trans h2, by rw [g2]; exact h3, (g1 _ _ (by omega)).trans h4, fun z => by rw [g2]; exact h5 z, ⟨fun j hj => ?_, fun j hj z => ⟨(v2 j hj z).1, fun i hi => (g0 _ (by have := (v2 j hj z).1; omega)).trans ((v2 j hj z).2 i hi)⟩, by rw [g2]; exact v3, by rw [g2]; exact v4, v5.w (fun k i hk => g1 k i (by omega)) (fun i => by rw [g2]) (fun k _ => by rw [g2]), v6⟩, h7⟩
        obtain ⟨b1, b2, b3, b4⟩ := v1 j hj
        exact ⟨(g1 _ _ (by omega)).trans b1, (g1 _ _ (by omega)).trans b2, (g1 _ _ (by omega)).trans b3, fun z => by rw [g2]; exact b4 z⟩
      have hW := h1.2.2.2.2.2.1
      have hst := lz_ev_ok (T := o.2.2.2.1) 201 [nI (n + 97)] 0 8 1 (o.2.2.2.2.1, 0, o.2.2.2.2.2.2) (Nat.le_refl _) (lz_rd_1 (by omega)) hW.2.2.2.2.2
      have hev := lz_ev_1 (T := o.2.2.2.1) (w := o.2.2.2.2) (n := n) (N := 200) (by omega)
      unfold so_force at k
      rw [if_neg (by rw [hn]; decide), if_neg c30, nI_clamp (by omega), ← hev] at k
      obtain ⟨q1, q2, q3, q4, q5, q6, q7⟩ := hst
      have q5 : (lz_ev o.2.2.2.1 201 [nI (n + 97)] 0 (o.2.2.2.2.1, 0, o.2.2.2.2.2.2)).2.2.2.1 + 0 ≤ o.2.2.2.2.2.2.1 + (lz_ev o.2.2.2.1 201 [nI (n + 97)] 0 (o.2.2.2.2.1, 0, o.2.2.2.2.2.2)).2.2.1 + 0 := q5
      have q7 : (lz_ev o.2.2.2.1 201 [nI (n + 97)] 0 (o.2.2.2.2.1, 0, o.2.2.2.2.2.2)).2.2.1 ≤ max 200 0 := q7
      generalize hR : lz_ev o.2.2.2.1 201 [nI (n + 97)] 0 (o.2.2.2.2.1, 0, o.2.2.2.2.2.2) = R at *
      refine r_work (s := 9) (N := 201) (by omega) (Nat.le_refl _) (lz_rd_1 (n := n) (by omega)) hx9 hW h1.2.2.2.2.2.2.1 (by omega) (fun z m2 a1 a2 a3 => ⟨_, rfl, ?_⟩) (fun z m2 x a1 a2 a3 a4 => ⟨_, rfl, ?_⟩)
      · rw [hR] at z a2
        simp only [so_ans, z, Bool.false_eq_true, if_false] at k
        exact k m2 (h1.wk a1 a2 (fun i hi => (q6 i).2.trans (h1.2.2.2.2.2.2.1 i hi)) (by omega) (by omega))
      · rw [hR] at z a2 a4
        simp only [so_ans, z, if_true] at k
        rw [a4]
        exact k m2 (h1.wk a1 a2 (fun i hi => (q6 i).2.trans (h1.2.2.2.2.2.2.1 i hi)) (by show R.2.2.1 ≤ 200; omega) (by show R.2.2.2.1 + 1 ≤ 230; omega))
    · have c30 : 30 ≤ o.2.2.2.2.2.2.1 := Nat.le_of_not_lt (fun q => c3 (nI_lt (b := 30) q (by omega)))
      unfold so_force at k
      rw [if_neg (by rw [hn]; decide), if_pos c30] at k
      exact k m h
  · rw [hno (r_nonum.mp (Or.inr c2))] at k
    exact k m h
theorem rx.nil {m2 : rm_M} (h : rx m o) (e : m2 = rs_i m 1 8 0) : rx m2 ([], o.2) := by
  have g1 : ∀ k i, ¬ k = 1 → m2.1 k i = m.1 k i := fun k i hk => by rw [e]; simp only [rs_i]; rw [if_neg (fun q => hk q.1)]
  have g2 : m2.2 = m.2 := by rw [e]; rfl
  obtain ⟨h1, h2, h3, h4, h5, ⟨v1, v2, v3, v4, v5, v6⟩, h7⟩ := h
  refine ⟨⟨Nat.zero_le _, fun i hi => absurd hi (Nat.not_lt_zero _)⟩, by rw [e]; simp [rs_i]; rfl, by rw [g2]; exact h3, (g1 _ _ (by omega)).trans h4, fun z => by rw [g2]; exact h5 z, ⟨fun j hj => ?_, fun j hj z => ⟨(v2 j hj z).1, fun i hi => (g1 _ _ (by omega)).trans ((v2 j hj z).2 i hi)⟩, by rw [g2]; exact v3, by rw [g2]; exact v4, v5.w (fun k i hk => g1 k i (by omega)) (fun i => by rw [g2]) (fun k _ => by rw [g2]), v6⟩, h7⟩
  obtain ⟨b1, b2, b3, b4⟩ := v1 j hj
  exact ⟨(g1 _ _ (by omega)).trans b1, (g1 _ _ (by omega)).trans b2, (g1 _ _ (by omega)).trans b3, fun z => by rw [g2]; exact b4 z⟩
theorem r_show (h : rx m o) (k : ∀ m2, rx m2 (so_show o).2 → Q (some (.int (so_show o).1)) m2) : mr_C l G r (d + 10) mm_RM_show [] m Q := by
  have hc8 : Int32.toNatClampNeg 8 = 8 := rfl
  refine wr_show_0 (d := d + 9) ?_
  rw [hc8]
  refine r_syntax (d := d + 6) h (fun hl hr m2 h2 _ => ⟨_, rfl, by decide, by omega, fun m4 e4 => ⟨fun _ => ?_, fun z => absurd rfl z⟩⟩) (fun hl m2 h2 => ⟨_, rfl, by decide, by omega, fun m4 e4 => ⟨fun z => absurd z (by decide), fun _ => ?_⟩⟩)
  · have hf := h2.2.2.2.2.2.2.2.2
    have h4 := h2.nil e4
    have h21 : m4.2.2.1 21 = nI o.2.2.2.2.2.2.1 := h4.2.2.2.2.2.1.2.2.2.1
    rw [h21]
    unfold so_show at k
    rw [if_neg (by rw [hl]; decide)] at k
    refine ⟨fun c3 => ?_, fun c3 => ?_⟩
    · have c30 : ¬ 30 ≤ o.2.2.2.2.2.2.1 := fun q => (nI_nlt (a := o.2.2.2.2.2.2.1) (b := 30) (by omega) (by omega)) c3
      rw [if_neg c30] at k
      have hx8 : rx_t m4 8 o.1 := ⟨h2.1.1, fun i hi => by rw [e4]; exact h2.1.2 i hi⟩
      have hW := h4.2.2.2.2.2.1
      have hst := lz_ev_ok (T := o.2.2.2.1) 200 o.1 0 8 _ (o.2.2.2.2.1, 0, o.2.2.2.2.2.2) (Nat.le_refl _) hr hW.2.2.2.2.2
      obtain ⟨q1, q2, q3, q4, q5, q6, q7⟩ := hst
      have q5 : (lz_ev o.2.2.2.1 200 o.1 0 (o.2.2.2.2.1, 0, o.2.2.2.2.2.2)).2.2.2.1 + 0 ≤ o.2.2.2.2.2.2.1 + (lz_ev o.2.2.2.1 200 o.1 0 (o.2.2.2.2.1, 0, o.2.2.2.2.2.2)).2.2.1 + 0 := q5
      have q7 : (lz_ev o.2.2.2.1 200 o.1 0 (o.2.2.2.2.1, 0, o.2.2.2.2.2.2)).2.2.1 ≤ max 200 0 := q7
      refine r_work (s := 8) (N := 200) (by omega) (Nat.le_refl _) hr hx8 hW h4.2.2.2.2.2.2.1 (Nat.le_refl _) (fun z m5 a1 a2 a3 => ⟨_, rfl, fun c => absurd rfl c, fun _ => ⟨by decide, by decide, fun m6 e6 => wr_show_55 _ ⟨fun c => absurd rfl c, fun _ => ⟨by decide, by decide, fun m7 e7 => ?_⟩⟩⟩⟩) (fun z m5 x a1 a2 a3 a4 => ⟨_, rfl, fun _ => wr_show_55 _ ⟨fun _ => ?_, fun c => absurd a3 c⟩, fun c => absurd a3 c⟩)
      · change lz_bad (lz_ev o.2.2.2.1 200 o.1 0 (o.2.2.2.2.1, 0, o.2.2.2.2.2.2)).1 = false at z
        change rx_W m5 o.2.2.2.1 (lz_ev o.2.2.2.1 200 o.1 0 (o.2.2.2.2.1, 0, o.2.2.2.2.2.2)).2 at a2
        change m5.2.2.2 = (lz_ev o.2.2.2.1 200 o.1 0 (o.2.2.2.2.1, 0, o.2.2.2.2.2.2)).1 at a3
        have h5 := h4.wk a1 a2 (fun i hi => (q6 i).2.trans (h4.2.2.2.2.2.2.1 i hi)) (by omega) (by omega)
        generalize lz_ev o.2.2.2.1 200 o.1 0 (o.2.2.2.2.1, 0, o.2.2.2.2.2.2) = R at *
        simp only [so_ans, z, Bool.false_eq_true, if_false] at k
        have hv := (q3.resolve_left (by rw [z]; decide)).no q1.2.1
        rw [a3] at e6
        rw [hc8] at e7
        have g1 : ∀ k i, ¬ (k = 3 ∧ i = 8) → m7.1 k i = m5.1 k i := fun k i hk => by rw [e7, e6]; simp only [rs_i, rs_l]; rw [if_neg hk]
        have g2 : ∀ k i, ¬ (k = 2 ∧ i = 8) → m7.2.1 k i = m5.2.1 k i := fun k i hk => by rw [e7, e6]; simp only [rs_i, rs_l]; rw [if_neg hk]
        have g3 : m7.2.2.1 = m5.2.2.1 := by rw [e7, e6]; rfl
        refine k m7 ?_
        obtain ⟨y1, y2, y3, y4, y5, ⟨v1, v2, v3, v4, v5, v6⟩, y7⟩ := h5
        refine ⟨⟨y1.1, fun i hi => (g1 _ _ (by omega)).trans (y1.2 i hi)⟩, (g1 _ _ (by omega)).trans y2, by rw [g3]; exact y3, ?_, fun _ => ?_, ⟨fun j hj => ?_, fun j hj z => ⟨(v2 j hj z).1, fun i hi => (g1 _ _ (by omega)).trans ((v2 j hj z).2 i hi)⟩, by rw [g3]; exact v3, by rw [g3]; exact v4, v5.w (fun k i hk => g1 k i (by omega)) (fun i => g2 _ _ (by omega)) (fun k _ => by rw [g3]), v6⟩, y7⟩
        · rw [e7]
          simp [rs_i, hv, lz_b]
        · rw [e7, e6]
          simp [rs_i, rs_l]
        · obtain ⟨b1, b2, b3, b4⟩ := v1 j hj
          exact ⟨(g1 _ _ (by omega)).trans b1, (g1 _ _ (by omega)).trans b2, (g1 _ _ (by omega)).trans b3, fun z => (g2 _ _ (by omega)).trans (b4 z)⟩
      · change lz_bad (lz_ev o.2.2.2.1 200 o.1 0 (o.2.2.2.2.1, 0, o.2.2.2.2.2.2)).1 = true at z
        simp only [so_ans, z, if_true] at k
        rw [a4]
        exact k m5 (h4.wk a1 a2 (fun i hi => (q6 i).2.trans (h4.2.2.2.2.2.2.1 i hi)) (by show (lz_ev o.2.2.2.1 200 o.1 0 (o.2.2.2.2.1, 0, o.2.2.2.2.2.2)).2.2.1 ≤ 200; omega) (by show (lz_ev o.2.2.2.1 200 o.1 0 (o.2.2.2.2.1, 0, o.2.2.2.2.2.2)).2.2.2.1 + 1 ≤ 230; omega))
    · have c30 : 30 ≤ o.2.2.2.2.2.2.1 := Nat.le_of_not_lt (fun q => c3 (nI_lt (b := 30) q (by omega)))
      rw [if_pos c30] at k
      exact k m4 h4
  · have h4 := h2.nil e4
    unfold so_show at k
    rw [if_pos hl] at k
    exact k m4 h4
end RFO
