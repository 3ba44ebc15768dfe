/-! THE CLASS's calls: define, undefine, force, show. -/
section CO2
variable {l : Launch} {G : mx_G} {d b : Nat} {hs : mx_H} {Q : Option Value → mx_H → Prop} {o : lz_O}
theorem lb_k0_w {k : Nat} (h : lb_k0 k = true) : lb_kw k = true := by
  unfold lb_k0 at h
  unfold lb_kw
  simp only [Bool.and_eq_true, Bool.not_eq_true', beq_eq_false_iff_ne, Nat.blt_eq, ne_eq, decide_eq_false_iff_not, Bool.not_eq_eq_eq_not, Bool.not_true] at h ⊢
  have h6 : ¬ k < 6 := by
    intro z
    have := h.1.1.1.1
    rw [Nat.blt_eq.mpr z] at this
    cases this
  refine ⟨⟨⟨⟨⟨?_, ?_⟩, ?_⟩, ?_⟩, ?_⟩, ?_⟩ <;> omega
theorem lb_k0_t {k : Nat} (h : lb_k0 k = true) : lb_kt k = true := by
  unfold lb_k0 at h
  unfold lb_kt
  simp only [Bool.and_eq_true, Bool.not_eq_true', beq_eq_false_iff_ne, ne_eq] at h ⊢
  have h6 : ¬ k < 6 := by
    intro z
    have := h.1.1.1.1
    rw [Nat.blt_eq.mpr z] at this
    cases this
  refine ⟨⟨?_, ?_⟩, ?_⟩ <;> omega
theorem lb_k0_k {k : Nat} (h : lb_k0 k = true) : lb_kk k = true := by
  have := lb_k0_t h
  unfold lb_kt at this
  unfold lb_kk
  simp only [Bool.and_eq_true] at this
  exact this.1.2
theorem c_define {x : Int32} (hd : 29 ≤ d) (h : lb_ob hs b o) (k : ∀ hs2, lb_R hs b o (so_define x o).2 hs2 → Q (some (.int (so_define x o).1)) hs2) : mx_C mx_S0 l G d mm_LB_define [.ref b, .int x] hs Q := by
  obtain ⟨d, rfl⟩ : ∃ d', d = d' + 29 := ⟨d - 29, by omega⟩
  unfold so_define at k
  refine wp_LB_define_0 _ _ (c_isNameNumber (fun j hj e => ⟨_, rfl, fun _ => ⟨⟨_, h.at⟩, ?_⟩, fun y => absurd (by decide) y⟩) (fun y => ⟨_, rfl, fun y2 => absurd rfl y2, fun _ => ?_⟩))
  · subst e
    rw [if_neg (by rw [so_no_f hj rfl]; decide), nI_clamp (by omega)] at k
    refine c_readLine (d := d + 28) (by omega) h (fun hs2 es dp bq z g1 g2 g3 g4 g5 _ => ⟨_, rfl, fun _ => ?_, fun y => absurd (by decide) y⟩) (fun hs2 z g1 => ⟨_, rfl, fun y => absurd rfl y, fun _ => ?_⟩)
    · rw [if_neg (by rw [z]; decide)] at k
      obtain ⟨A, wq, L, es0, dp0, bq0, h1, h2, h3, h4, h5, h6, h7⟩ := g1
      refine ⟨_, ⟨_, h1, rfl⟩, _, ⟨_, g3.at, rfl⟩, _, ⟨_, h1, rfl⟩, _, ⟨_, h1, rfl⟩, ⟨_, h3.at⟩, c_bind hj h3 h4 g3 g4 g5 (fun hs3 q1 q2 q3 q4 q5 => ⟨rfl, ?_⟩)⟩
      have ob3 : lb_ob hs3 b (o.1, o.2.1, o.2.2.1, lz_setT o.2.2.2.1 j o.1, lz_fg (lz_setN o.2.2.2.2 j (true, (o.2.2.2.2.1 j).2.1, (o.2.2.2.2.1 j).2.2))) := by
        refine ⟨A, wq, L, es, _, bq, q4.1 _ _ h1 rfl, q3, q1, q2, fun i hi => ?_, h6, h7⟩
        by_cases hij : i = j
        · subst hij
          simp only [lz_fg, lz_setN, if_true]
          exact h5 i hi
        · simp only [lz_fg, lz_setN, if_neg hij]
          exact h5 i hi
      have R3 : lb_R hs b o (o.1, o.2.1, o.2.2.1, lz_setT o.2.2.2.1 j o.1, lz_fg (lz_setN o.2.2.2.2 j (true, (o.2.2.2.2.1 j).2.1, (o.2.2.2.2.1 j).2.2))) hs3 := ⟨ob3, g2.2.1.tr (q4.mono (fun _ z => lb_k0_t z)), by rw [q5]; exact g2.2.2.1, by rw [q5]; exact g2.2.2.2⟩
      refine ⟨_, ⟨_, ob3.at, rfl⟩, ⟨_, q3.at⟩, c_clearL ob3 (fun hs4 R4 => ⟨rfl, k hs4 (R3.tr R4 (Nat.le_refl _) (Nat.le_refl _))⟩)⟩
    · rw [if_pos z] at k
      exact k hs2 g1
  · rw [if_pos (so_no_t y)] at k
    exact k hs (lb_R.rf h)
theorem c_undefine {x : Int32} (h : lb_ob hs b o) (k : ∀ hs2, lb_R hs b o (so_undefine x o).2 hs2 → Q (some (.int (so_undefine x o).1)) hs2) : mx_C mx_S0 l G (d + 3) mm_LB_undefine [.ref b, .int x] hs Q := by
  unfold so_undefine at k
  have hR := lb_R.rf h
  refine wp_LB_undefine_0 _ _ (c_isNameNumber (fun j hj e => ⟨_, rfl, fun y => absurd y (by decide), fun _ => ?_⟩) (fun y => ⟨_, rfl, fun _ => ?_, fun y2 => absurd rfl y2⟩))
  · subst e
    rw [if_neg (by rw [so_no_f hj rfl]; decide), nI_clamp (by omega)] at k
    obtain ⟨A, wq, L, es0, dp0, bq0, h1, h2, h3, h4, h5, h6, h7⟩ := h
    refine ⟨_, ⟨_, h1, rfl⟩, _, ⟨_, h3.at, rfl⟩, _, _, h3.2.1, nI_pos (by omega), by rw [nI_clamp (by omega)]; exact lb_names hj, _, ⟨_, h3.name hj, rfl⟩, fun z => ⟨_, ⟨_, h1, rfl⟩, ⟨_, h3.at⟩, c_unbind hj h3 h4 (fun hs2 q1 q2 q3 q4 => ⟨rfl, ?_⟩)⟩, fun z => ?_⟩
    · rw [if_neg (by rw [lz_b1.mp z]; decide)] at k
      refine k hs2 ⟨⟨A, wq, L, es0, dp0, bq0, q3.1 _ _ h1 rfl, h2.fr q3 rfl rfl, q1, q2, fun i hi => ?_, h6, h7⟩, q3.mono (fun _ z => lb_k0_k z), by rw [q4]; show _ = hs.2.1 + 2 * (lz_sz o - lz_sz o); omega, by rw [q4]; exact Nat.le_add_right _ _⟩
      by_cases hij : i = j
      · subst hij
        simp only [lz_fg, lz_setN, if_true]
        exact h5 i hi
      · simp only [lz_fg, lz_setN, if_neg hij]
        exact h5 i hi
    · rw [if_pos (lz_b0.mp (Decidable.not_not.mp z))] at k
      exact k hs hR
  · rw [if_pos (so_no_t y)] at k
    exact k hs hR
theorem lz_bz0 {w : lz_W} (h : ∀ i, i < 8 → (w.1 i).2.1 = false) : lz_bz w = 0 := by
  unfold lz_bz
  rw [h 0 (by omega), h 1 (by omega), h 2 (by omega), h 3 (by omega), h 4 (by omega), h 5 (by omega), h 6 (by omega), h 7 (by omega)]
  rfl
/-- the answer of a working out, as the call's -/
theorem lb_answer {v : Int64} {w2 : lz_W} {hs2 : mx_H} {A2 : Nat → Nat} {wq2 : Nat → Int32} {L2 : List Int64} {T : Nat → List Int32} (g1 : lb_wk hs2 b T A2 wq2 L2 w2) (k : ∀ hs3, lb_wk hs3 b T A2 wq2 L2 (so_ans v w2).2 → mx_fr lb_kw hs2 hs3 → hs3.2 = hs2.2 → Q (some (.int (so_ans v w2).1)) hs3) : mx_C mx_S0 l G (d + 2) mm_LBWorker_answerOf [.ref (b + 7), .long v] hs2 Q := by
  unfold so_ans at k
  refine c_answerOf g1 (fun z => ?_) (fun z hs3 q1 q2 q3 => ?_)
  · rw [if_neg (by rw [z]; decide)] at k
    exact k hs2 g1 mx_fr.rf rfl
  · rw [if_pos z] at k
    exact k hs3 q1 q2 q3
theorem so_ans_eq (v : Int64) (w : lz_W) : (so_ans v w).2.1 = w.1 ∧ (so_ans v w).2.2.1 = w.2.1 ∧ (so_ans v w).2.2.2.1 ≤ w.2.2.1 + 1 ∧ (so_ans v w).2.2.2.2 = w.2.2.2 := by
  unfold so_ans
  split
  · exact ⟨rfl, rfl, Nat.le_refl _, rfl⟩
  · exact ⟨rfl, rfl, Nat.le_succ _, rfl⟩
theorem c_force {x : Int32} (hd : 200 ≤ d) (h : lb_ob hs b o) (k : ∀ hs2, lb_R hs b o (so_force x o).2 hs2 → Q (some (.int (so_force x o).1)) hs2) : mx_C mx_S0 l G d mm_LB_force [.ref b, .int x] hs Q := by
  obtain ⟨d, rfl⟩ : ∃ d', d = d' + 200 := ⟨d - 200, by omega⟩
  unfold so_force at k
  have hR := lb_R.rf h
  refine wp_LB_force_0 _ _ (c_isNameNumber (fun j hj e => ⟨_, rfl, fun _ => ?_, fun y => absurd (by decide) y⟩) (fun y => ⟨_, rfl, fun y2 => absurd rfl y2, fun _ => ?_⟩))
  · subst e
    rw [if_neg (by rw [so_no_f hj rfl]; decide), nI_clamp (by omega)] at k
    obtain ⟨A, wq, L, es0, dp0, bq0, h1, h2, h3, h4, h5, h6, h7⟩ := h
    refine ⟨_, ⟨_, h1, rfl⟩, ⟨_, h3.at⟩, c_isClosed h3 (by omega) ⟨_, rfl, fun z => ?_, fun z => ?_⟩⟩
    · have hz : ¬ 30 ≤ o.2.2.2.2.2.2.1 := by
        have := lz_b0.mp z
        simpa using this
      rw [if_neg hz] at k
      refine ⟨_, ⟨_, h1, rfl⟩, _, ⟨_, h1, rfl⟩, ⟨_, h3.at⟩, ?_⟩
      refine wp_LBWorker_workOutName_0 _ _ ⟨_, h3.at, fun hs1 e1 => ?_⟩
      have h31 : lb_wk hs1 b o.2.2.2.1 A wq L (o.2.2.2.2.1, 1, o.2.2.2.2.2.2) := by
        rw [e1]
        exact h3.nums 1 o.2.2.2.2.2.2.1
      have fr1 : mx_fr lb_kw hs hs1 := by
        rw [e1]
        exact mx_fr.st h3.at rfl
      have z1 : hs1.2 = hs.2 := by
        rw [e1]
        rfl
      refine ⟨⟨_, h31.at⟩, ?_⟩
      have st := lz_name_st (lz_ev_ok (T := o.2.2.2.1) 200) hj h31.ok
      simp only at k
      refine c_workName (o := 1) (n := 200) (lb_work 200) (lz_ev_ok 200) hj h31 (h4.fr fr1 (fun _ _ => rfl)) (by simp) (by simp) (by omega) (by omega) (fun hs2 g => ⟨_, rfl, ⟨_, rfl, ?_⟩⟩)
      obtain ⟨A2, wq2, L2, g1, g2, g3, g4, g5⟩ := g
      refine ⟨⟨_, g1.at⟩, lb_answer g1 (fun hs3 q1 q2 q3 => ⟨_, rfl, k hs3 ?_⟩)⟩
      have ea := so_ans_eq (lz_name (lz_ev o.2.2.2.1 200) o.2.2.2.1 j (o.2.2.2.2.1, 1, o.2.2.2.2.2.2)).1 (lz_name (lz_ev o.2.2.2.1 200) o.2.2.2.1 j (o.2.2.2.2.1, 1, o.2.2.2.2.2.2)).2
      obtain ⟨s1, s2, s3, s4, s5, s6, s7⟩ := st
      have fr : mx_fr lb_kw hs hs3 := fr1.tr (g2.tr q2)
      simp only at s2 s4 s5 s6 s7 g4 g5
      refine ⟨⟨A2, wq2, L2, es0, dp0, bq0, fr.1 _ _ h1 rfl, h2.fr fr rfl rfl, q1, h4.fr fr (fun i hi => ?_), fun i hi => ?_, ?_, ?_⟩, fr.mono (fun _ z => lb_k0_w z), ?_, ?_⟩
      · show ((so_ans _ _).2.1 i).1 = _
        rw [ea.1]
        exact (s6 i).1
      · show ((so_ans _ _).2.1 i).2.1 = _
        rw [ea.1]
        exact (s6 i).2.trans (h5 i hi)
      · show (so_ans _ _).2.2.1 ≤ 200
        rw [ea.2.1]
        omega
      · show (so_ans _ _).2.2.2.1 ≤ 230
        have := ea.2.2.1
        omega
      · show hs3.2.1 = hs.2.1 + 2 * ((so_ans _ _).2.2.2.2.2.1 - o.2.2.2.2.2.2.2.2.1)
        rw [ea.2.2.2, q3, ← z1]
        exact g4
      · show hs3.2.2 ≤ hs.2.2 + 10 * ((so_ans _ _).2.2.2.2.2.1 - o.2.2.2.2.2.2.2.2.1)
        rw [ea.2.2.2, q3, ← z1]
        exact g5
    · have hz : 30 ≤ o.2.2.2.2.2.2.1 := by
        have := lz_b1.mp z
        simpa using this
      rw [if_pos hz] at k
      exact k hs hR
  · rw [if_pos (so_no_t y)] at k
    exact k hs hR
end CO2
