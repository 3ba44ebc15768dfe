/-! THE CLASS works an EXPRESSION out: names, and all kinds together. -/
section CW3
variable {l : Launch} {G : mx_G} {d b a n o k p e : Nat} {hs : mx_H} {Q : Option Value → mx_H → Prop} {A : Nat → Nat} {wq : Nat → Int32} {L : List Int64} {w : lz_W} {T : Nat → List Int32} {t : List Int32} {f : lz_F}
theorem c_workPlan (hF : lb_WF l G b T f n) (hfo : lz_fok T f) (hk : k + 1 ≤ 8) (hr : lz_rd t (k + 1) p = (true, e)) (hc : lz_cd t p = 68) (h : lb_pre hs b T A wq L w a t n (d + 2) o (k + 1)) (kk : ∀ hs2, lb_post hs b T L w o (lz_plan f t p w) hs2 → Q (some (.long (lz_plan f t p w).1)) hs2) : mx_C mx_S0 l G (d + 1) mm_LBWorker_workPlan [.ref (b + 7), .ref a, .int (nI p), .int (nI o)] hs Q := by
  have h1 := h.child hk
  obtain ⟨g1, g2, g3⟩ := lz_rd_D hr hc
  obtain ⟨mk, m1, m2, -⟩ := lz_dg_n g1
  have hb := lz_rd_b _ _ _ hr
  have htl := h.2.2.1.len
  have hbz := lz_bz_le w
  have ho := h.2.2.2.2.2.1
  have hd := h.2.2.2.2.2.2
  unfold lz_plan at kk
  simp only at kk
  rw [m2] at kk
  refine wp_LBWorker_workPlan_0 _ _ _ _ ?_
  rw [show nI o * 4 = nI (4 * o) by rw [Nat.mul_comm]; exact pk_mul o 4, show nI p + 3 = nI (p + 3) from nI_add p 3]
  exact lb_wp_loop hF hfo hk m1 m2 (by omega) (by omega) (by omega) 4 (p + 3) [] hs A wq L w rfl g3 (by rw [show p + 3 - 1 = p + 2 by omega, g2]; decide) h1 (fun i hi => absurd hi (Nat.not_lt_zero i)) (fun v hv => by cases hv) kk
theorem c_workName {i : Nat} (hF : lb_WF l G b T f n) (hfo : lz_fok T f) (hi : i < 8) (hw : lb_wk hs b T A wq L w) (hts : lb_ts hs b T w) (hn : 200 ≤ w.2.1 + n) (h200 : w.2.1 ≤ 200) (ho : o ≤ 8 * lz_bz w + 8) (hd : 2 * (73 - o) + 48 ≤ d + 2) (kk : ∀ hs2, lb_post hs b T L w o (lz_name f T i w) hs2 → Q (some (.long (lz_name f T i w).1)) hs2) : mx_C mx_S0 l G (d + 1) mm_LBWorker_workName [.ref (b + 7), .int (nI i), .int (nI o)] hs Q := by
  obtain ⟨d, rfl⟩ : ∃ d', d = d' + 45 := ⟨d - 45, by omega⟩
  have hbz := lz_bz_le w
  have hnm := hw.name hi
  have pz : ∀ v : Int64, lb_post hs b T L w o (v, w) hs := fun v => ⟨A, wq, L, hw, mx_fr.rf, fun _ _ => rfl, by simp, by simp⟩
  unfold lz_name at kk
  refine wp_LBWorker_workName_0 _ _ _ ⟨_, ⟨_, hw.at, rfl⟩, _, _, hw.2.1, nI_pos (by omega), by rw [nI_clamp (by omega)]; exact lb_names hi, _, ⟨_, hnm, rfl⟩, fun z => ⟨_, ⟨_, hnm, rfl⟩, fun y => ⟨_, ⟨_, hnm, rfl⟩, fun x => ⟨_, hnm, fun hs1 e1 => ?_⟩, fun x => ⟨_, ⟨_, hnm, rfl⟩, ?_⟩⟩, fun y => ?_⟩, fun z => ?_⟩
  · have hb := lz_b1.mp z
    have hy := lz_b0.mp y
    rw [if_neg (by rw [hb]; decide), if_neg (by rw [hy]; decide), if_neg (not_not_intro x)] at kk
    have hok := hw.ok.1 i hi
    have hw1 : lb_wk hs1 b T A wq L (lz_setN w i ((w.1 i).1, true, (w.1 i).2.2)) := by
      rw [e1]
      exact hw.nset hi (x := ((w.1 i).1, true, (w.1 i).2.2)) hok
    have fr1 : mx_fr lb_kw hs hs1 := by
      rw [e1]
      exact mx_fr.st hnm rfl
    have z1 : hs1.2 = hs.2 := by
      rw [e1]
      rfl
    obtain ⟨w1, ew1⟩ : ∃ w1, w1 = lz_setN w i ((w.1 i).1, true, (w.1 i).2.2) := ⟨_, rfl⟩
    rw [← ew1] at hw1 kk
    have ew2 : w1.2 = w.2 := by rw [ew1]; rfl
    have ebz : lz_bz w1 = lz_bz w + 1 := by
      rw [ew1]
      exact lz_bz_set hi hy ((w.1 i).1, 0) (true, (w.1 i).2.2)
    have hb1 : ∀ j, j < 8 → (w1.1 j).1 = (w.1 j).1 := fun j hj => by
      rw [ew1]
      by_cases hij : j = i
      · subst hij
        simp [lz_setN]
      · simp [lz_setN, hij]
    have hts1 : lb_ts hs1 b T w1 := hts.fr fr1 hb1
    have hg := hok.1 hb
    have tg1 : lb_tg hs1 (b + 10 + 4 * i) (T i) := by
      obtain ⟨es, dp, bp, u1, u2⟩ := hts1 i hi
      exact ⟨es, dp, bp, u1, u2 (by rw [hb1 i hi]; exact hb)⟩
    refine ⟨_, ⟨_, hw1.name hi, rfl⟩, ⟨_, hw1.at⟩, ?_⟩
    rw [nI_1 o]
    have s1 := hfo (T i) 0 8 _ w1 (Nat.le_refl _) hg hw1.ok
    simp only at kk
    refine hF _ hs1 A wq L w1 (b + 10 + 4 * i) (T i) 0 8 _ (o + 1) _ (Nat.le_refl _) hg (Or.inl rfl) ⟨hw1, hts1, tg1, by rw [ew2]; exact hn, by rw [ew2]; exact h200, by rw [ebz]; omega, by omega⟩ (fun hs2 g => ⟨_, rfl, ?_⟩)
    obtain ⟨A2, wq2, L2, g1, g2, g3, g4, g5⟩ := g
    obtain ⟨r, er⟩ : ∃ r, r = f (T i) 0 w1 := ⟨_, rfl⟩
    rw [← er] at kk g1 g4 g5 s1 ⊢
    have hnm2 := g1.name hi
    refine ⟨_, hnm2, fun hs3 e3 => ?_⟩
    have hok2 := g1.ok.1 i hi
    have hw3 : lb_wk hs3 b T A2 wq2 L2 (lz_setN r.2 i ((r.2.1 i).1, false, (r.2.1 i).2.2)) := by
      rw [e3]
      exact g1.nset hi (x := ((r.2.1 i).1, false, (r.2.1 i).2.2)) hok2
    have fr3 : mx_fr lb_kw hs2 hs3 := by
      rw [e3]
      exact mx_fr.st hnm2 rfl
    have z3 : hs3.2 = hs2.2 := by
      rw [e3]
      rfl
    rw [ew2] at g4 g5
    refine c_isFailure ⟨_, rfl, fun y2 => ?_, fun y2 => ?_⟩
    · have hbad := lz_b1.mp y2
      rw [if_pos hbad] at kk
      exact kk hs3 ⟨A2, wq2, L2, hw3, fr1.tr (g2.tr fr3), fun j hj => g3 j (by omega), by rw [z3, g4, z1]; rfl, by rw [z3]; rw [z1] at g5; exact g5⟩
    · have hbad := lz_b0.mp (Decidable.not_not.mp y2)
      rw [if_neg (by rw [hbad]; decide)] at kk
      have hnm3 := hw3.name hi
      refine ⟨_, hnm3, fun hs4 e4 => ?_⟩
      have hV := s1.2.2.1.resolve_left (by rw [hbad]; decide)
      have hx3 : (lz_setN r.2 i ((r.2.1 i).1, false, (r.2.1 i).2.2)).1 i = ((r.2.1 i).1, false, (r.2.1 i).2.2) := by simp [lz_setN]
      rw [hx3] at e4
      have hw4 : lb_wk hs4 b T A2 wq2 L2 (lz_setN r.2 i ((r.2.1 i).1, false, r.1)) := by
        have := hw3.nset hi (x := ((r.2.1 i).1, false, r.1)) ⟨hok2.1, Or.inr hV⟩
        have e5 : lz_setN (lz_setN r.2 i ((r.2.1 i).1, false, (r.2.1 i).2.2)) i ((r.2.1 i).1, false, r.1) = lz_setN r.2 i ((r.2.1 i).1, false, r.1) := by
          refine Prod.ext (funext fun j => ?_) rfl
          simp only [lz_setN]
          by_cases hij : j = i
          · rw [if_pos hij, if_pos hij]
          · rw [if_neg hij, if_neg hij, if_neg hij]
        rw [e5] at this
        rw [e4]
        exact this
      have fr4 : mx_fr lb_kw hs3 hs4 := by
        rw [e4]
        exact mx_fr.st hnm3 rfl
      have z4 : hs4.2 = hs3.2 := by
        rw [e4]
        rfl
      exact kk hs4 ⟨A2, wq2, L2, hw4, fr1.tr (g2.tr (fr3.tr fr4)), fun j hj => g3 j (by omega), by rw [z4, z3, g4, z1]; rfl, by rw [z4, z3]; rw [z1] at g5; exact g5⟩
  · rw [if_neg (by rw [lz_b1.mp z]; decide), if_neg (by rw [lz_b0.mp y]; decide), if_pos x] at kk
    exact kk hs (pz _)
  · rw [if_neg (by rw [lz_b1.mp z]; decide), if_pos (lz_b1.mp y)] at kk
    exact kk hs (pz _)
  · rw [if_pos (lz_b0.mp (Decidable.not_not.mp z))] at kk
    exact kk hs (pz _)
theorem lb_work0 : lb_WF l G b T (lz_ev T 0) 0 := by
  intro d hs A wq L w a t p k e o Q hk hr hz h kk
  obtain ⟨h1, h2, h3, h4, h5, h6, h7⟩ := h
  obtain ⟨d, rfl⟩ : ∃ d', d = d' + 1 := ⟨d - 1, by omega⟩
  refine wp_LBWorker_work_0 _ _ _ _ ⟨_, ⟨_, h1.at, rfl⟩, fun _ => kk hs ⟨A, wq, L, h1, mx_fr.rf, fun _ _ => rfl, by simp [lz_ev], by simp [lz_ev]⟩, fun c => absurd (nI_le (a := 200) (by omega) (by omega)) c⟩
theorem lb_workS (ih : lb_WF l G b T (lz_ev T n) n) : lb_WF l G b T (lz_ev T (n + 1)) (n + 1) := by
  intro d hs A wq L w a t p k e o Q hk hr hz h kk
  have hd48 := h.2.2.2.2.2.2
  obtain ⟨d, rfl⟩ : ∃ d', d = d' + 2 := ⟨d - 2, by omega⟩
  have hfo := lz_ev_ok (T := T) n
  have hbz := lz_bz_le w
  have ho := h.2.2.2.2.2.1
  have htl := h.2.2.1.len
  have hb := lz_rd_b _ _ _ hr
  obtain ⟨k, rfl⟩ : ∃ k', k = k' + 1 := by
    cases k with
    | zero =>
      simp [lz_rd] at hr
    | succ k => exact ⟨k, rfl⟩
  refine wp_LBWorker_work_0 _ _ _ _ ⟨_, ⟨_, h.1.at, rfl⟩, fun c => ?_, fun c => ⟨fun _ => ⟨_, ⟨_, h.1.at, rfl⟩, _, h.1.at, fun hs1 e1 => ?_⟩, fun c2 => absurd (nI_le (b := 72) (by omega) (by omega)) c2⟩⟩
  · have : 200 ≤ w.2.1 := (nI_leI (a := 200) (by omega) (by have := h.2.2.2.2.1; omega)).mp c
    unfold lz_ev at kk
    rw [if_pos this] at kk
    exact kk hs ⟨A, wq, L, h.1, mx_fr.rf, fun _ _ => rfl, by simp, by simp⟩
  have hlt : ¬ 200 ≤ w.2.1 := fun q => c (nI_le (a := 200) q (by have := h.2.2.2.2.1; omega))
  unfold lz_ev at kk
  rw [if_neg hlt] at kk
  rw [nI_1 w.2.1] at e1
  obtain ⟨w1, ew⟩ : ∃ w1 : lz_W, w1 = (w.1, w.2.1 + 1, w.2.2) := ⟨_, rfl⟩
  rw [← ew] at kk
  have hw1 : lb_wk hs1 b T A wq L w1 := by
    rw [e1, ew]
    exact h.1.nums (w.2.1 + 1) w.2.2.1
  have fr1 : mx_fr lb_kw hs hs1 := by
    rw [e1]
    exact mx_fr.st h.1.at rfl
  have z1 : hs1.2 = hs.2 := by
    rw [e1]
    rfl
  have h1 : lb_pre hs1 b T A wq L w1 a t n (d + 2) o (k + 1) := by
    obtain ⟨q1, q2, q3, q4, q5, q6, q7⟩ := h
    rw [ew] at hw1 ⊢
    exact ⟨hw1, q2.fr fr1 (fun _ _ => rfl), q3.fr fr1, by show 200 ≤ w.2.1 + 1 + n; omega, by show w.2.1 + 1 ≤ 200; omega, q6, q7⟩
  have hst : lz_st T 1 w1 (lz_body (lz_ev T n) T t p w1) := by
    by_cases h84 : lz_cd t p = 84
    · exact lz_body_stT hfo hk hr hw1.ok h84
    · exact (lz_body_st hfo hk hr hw1.ok h84).up
  have kk1 : ∀ hs2, lb_post hs1 b T L w1 o (lz_body (lz_ev T n) T t p w1) hs2 → Q (some (.long (lz_body (lz_ev T n) T t p w1).1)) hs2 := fun hs2 g => kk hs2 (lb_post.tr (r := (0, w1)) (o2 := o) fr1 (fun _ _ => rfl) (by rw [z1, ew]; simp) (by rw [z1, ew]; simp) (Nat.le_refl _) (by rw [ew]; exact Nat.le_refl _) hst.2.1 g)
  clear kk
  unfold lz_body at kk1
  simp only at kk1
  obtain ⟨d, rfl⟩ : ∃ d', d = d' + 46 := ⟨d - 46, by omega⟩
  refine ⟨h1.2.2.1.at, c_codeT h1.2.2.1 (by omega) ⟨_, rfl, c_isDigit ⟨_, rfl, fun y => c_isLetter ⟨_, rfl, fun x => ?_, fun x => ?_⟩, fun y => ?_⟩⟩⟩
  · have y := lz_b0.mp y
    have x := lz_b0.mp x
    rw [if_neg (by rw [y]; decide), if_neg (by rw [x]; decide)] at kk1
    refine ⟨fun c1 => ⟨⟨_, hw1.at⟩, ?_⟩, fun c1 => ⟨⟨_, hw1.at⟩, ?_⟩, fun c1 => ⟨⟨_, hw1.at⟩, ?_⟩, fun c1 => ⟨⟨_, hw1.at⟩, ?_⟩, fun c1 => ⟨⟨_, hw1.at⟩, ?_⟩, fun c1 c2 c3 c4 c5 => ⟨⟨_, hw1.at⟩, ?_⟩⟩
    · obtain ⟨g1, g2, g3⟩ := lz_rd_op hr y x (by rw [c1]; decide)
      rw [c1, show lz_pa 33 = 1 by decide] at g3
      obtain ⟨f1, f2⟩ := lz_ps_s g3
      rw [if_neg (by rw [c1]; decide), if_pos c1] at kk1
      exact c_workAbort ih hfo hk f1 (by rw [c1]; decide) h1 (fun hs2 g => ⟨_, rfl, kk1 hs2 g⟩)
    · obtain ⟨g1, g2, g3⟩ := lz_rd_op hr y x (by rw [c1]; decide)
      rw [c1, show lz_pa 63 = 3 by decide] at g3
      obtain ⟨f1, f2⟩ := lz_ps_s g3
      obtain ⟨f3, f4⟩ := lz_ps_s f2
      obtain ⟨f5, f6⟩ := lz_ps_s f4
      rw [if_pos c1] at kk1
      exact c_workChoice ih hfo hk f1 f3 f5 (by rw [c1]; decide) h1 (fun hs2 g => ⟨_, rfl, kk1 hs2 g⟩)
    · rw [if_neg (by rw [c1]; decide), if_neg (by rw [c1]; decide), if_neg (by rw [c1]; decide), if_pos c1] at kk1
      exact c_workPlan ih hfo hk hr c1 h1 (fun hs2 g => ⟨_, rfl, kk1 hs2 g⟩)
    · obtain ⟨g1, g2, g3⟩ := lz_rd_op hr y x (by rw [c1]; decide)
      rw [c1, show lz_pa 79 = 1 by decide] at g3
      obtain ⟨f1, f2⟩ := lz_ps_s g3
      rw [if_neg (by rw [c1]; decide), if_neg (by rw [c1]; decide), if_neg (by rw [c1]; decide), if_neg (by rw [c1]; decide), if_pos c1] at kk1
      exact c_workResult ih hfo hk f1 (by rw [c1]; decide) h1 (fun hs2 g => ⟨_, rfl, kk1 hs2 g⟩)
    · obtain ⟨g1, g2, g3⟩ := lz_rd_op hr y x (by rw [c1]; decide)
      rw [c1, show lz_pa 84 = 2 by decide] at g3
      obtain ⟨f1, f2⟩ := lz_ps_s g3
      obtain ⟨f3, f4⟩ := lz_ps_s f2
      rw [if_neg (by rw [c1]; decide), if_neg (by rw [c1]; decide), if_pos c1] at kk1
      exact c_workTry ih hfo hk f1 (e := (lz_rd t k (lz_rd t k (p + 1)).2).2) f3 (by rw [c1]; decide) h1 (fun hs2 g => ⟨_, rfl, kk1 hs2 g⟩)
    · obtain ⟨g1, g2, g3⟩ := lz_rd_op hr y x c3
      rw [if_neg c2, if_neg c1, if_neg c5, if_neg c3, if_neg c4] at kk1
      have hpa : lz_pa (lz_cd t p) = 2 := by
        unfold lz_pa at g1 ⊢
        rw [if_neg (by rintro (q | q) <;> contradiction)] at g1 ⊢
        by_cases c6 : lz_cd t p = 43 ∨ lz_cd t p = 45 ∨ lz_cd t p = 42 ∨ lz_cd t p = 60 ∨ lz_cd t p = 84
        · rw [if_pos c6]
        · rw [if_neg c6, if_neg c2] at g1
          exact absurd rfl g1
      rw [hpa] at g3
      obtain ⟨f1, f2⟩ := lz_ps_s g3
      obtain ⟨f3, f4⟩ := lz_ps_s f2
      exact c_workPair ih hfo hk f1 (e := (lz_rd t k (lz_rd t k (p + 1)).2).2) f3 c3 (by omega) h1 (fun hs2 g => ⟨_, rfl, kk1 hs2 g⟩)
  · have y := lz_b0.mp y
    have x := lz_b1.mp x
    rw [if_neg (by rw [y]; decide), if_pos x] at kk1
    obtain ⟨m, m1, m2, -⟩ := lz_lt_n x
    rw [m2, nI_clamp (by omega)] at kk1
    refine ⟨⟨_, hw1.at⟩, ?_⟩
    rw [m2]
    obtain ⟨q1, q2, q3, q4, q5, q6, q7⟩ := h1
    exact c_workName ih hfo m1 q1 q2 q4 q5 (by omega) q7 (fun hs2 g => ⟨_, rfl, kk1 hs2 g⟩)
  · have y := lz_b1.mp y
    rw [if_pos y] at kk1
    exact kk1 hs1 ⟨A, wq, L, hw1, mx_fr.rf, fun _ _ => rfl, by simp, by simp⟩
theorem lb_work (n : Nat) : lb_WF l G b T (lz_ev T n) n := by
  induction n with
  | zero => exact lb_work0
  | succ n ih => exact lb_workS ih
end CW3
