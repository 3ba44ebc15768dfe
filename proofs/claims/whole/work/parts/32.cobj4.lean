/-! THE CLASS's calls: show, builder, build, root. -/
section CO4
variable {l : Launch} {G : mx_G} {d b : Nat} {hs : mx_H} {Q : Option Value → mx_H → Prop} {o : lz_O}
theorem c_show (hd : 200 ≤ d) (h : lb_ob hs b o) (k : ∀ hs2, lb_R hs b o (so_show o).2 hs2 → Q (some (.int (so_show o).1)) hs2) : mx_C mx_S0 l G d mm_LB_show [.ref b] hs Q := by
  obtain ⟨d, rfl⟩ : ∃ d', d = d' + 200 := ⟨d - 200, by omega⟩
  unfold so_show at k
  refine wp_LB_show_0 _ ⟨⟨_, h.at⟩, c_readLine (d := d + 199) (by omega) h (fun hs2 es dp bq z g1 g2 g3 g4 g5 _ => ⟨_, rfl, fun _ => ?_, fun y => absurd (by decide) y⟩) (fun hs2 z g1 => ⟨_, rfl, fun y => absurd rfl y, fun _ => ?_⟩)⟩
  · rw [if_neg (by rw [z]; decide)] at k
    have ob2 := g1
    obtain ⟨A, wq, L, es0, dp0, bq0, h1, h2, h3, h4, h5, h6, h7⟩ := g1
    refine ⟨_, ⟨_, h1, rfl⟩, ⟨_, h3.at⟩, c_isClosed h3 (by omega) ⟨_, rfl, fun z2 => ?_, fun z2 => ?_⟩⟩
    · have hz : ¬ 30 ≤ o.2.2.2.2.2.2.1 := by
        have := lz_b0.mp z2
        simpa using this
      rw [if_neg hz] at k
      simp only at k
      refine ⟨_, ⟨_, h1, rfl⟩, _, ⟨_, h1, rfl⟩, ⟨_, h3.at⟩, ?_⟩
      refine wp_LBWorker_workOutText_0 _ _ ⟨_, h3.at, fun hs3 e3 => ?_⟩
      have h31 : lb_wk hs3 b o.2.2.2.1 A wq L (o.2.2.2.2.1, 0, o.2.2.2.2.2.2) := by
        rw [e3]
        exact h3.nums 0 o.2.2.2.2.2.2.1
      have fr1 : mx_fr lb_kw hs2 hs3 := by
        rw [e3]
        exact mx_fr.st h3.at rfl
      have z1 : hs3.2 = hs2.2 := by
        rw [e3]
        rfl
      refine ⟨⟨_, h31.at⟩, ?_⟩
      have st := lz_ev_ok (T := o.2.2.2.1) 200 o.1 0 8 _ (o.2.2.2.2.1, 0, o.2.2.2.2.2.2) (Nat.le_refl _) g4 h31.ok
      refine lb_work (l := l) (G := G) (b := b) (T := o.2.2.2.1) 200 _ hs3 A wq L (o.2.2.2.2.1, 0, o.2.2.2.2.2.2) (b + 1) o.1 0 8 _ 1 _ (Nat.le_refl _) g4 (Or.inl rfl) ⟨h31, h4.fr fr1 (fun _ _ => rfl), ⟨es, _, bq, g3.fr fr1 rfl rfl, g5⟩, by simp, by simp, by omega, by omega⟩ (fun hs4 g => ⟨_, rfl, ⟨_, rfl, ?_⟩⟩)
      obtain ⟨A2, wq2, L2, q1, q2, q3, q4, q5⟩ := g
      obtain ⟨r, er⟩ : ∃ r, r = lz_ev o.2.2.2.1 200 o.1 0 (o.2.2.2.2.1, 0, o.2.2.2.2.2.2) := ⟨_, rfl⟩
      rw [← er] at st q1 q4 q5 k ⊢
      obtain ⟨s1, s2, s3, s4, s5, s6, s7⟩ := st
      simp only at s2 s4 s5 s6 s7 q4 q5
      have fr4 : mx_fr lb_kw hs2 hs4 := fr1.tr q2
      have ob4 : lb_ob hs4 b (o.1, o.2.1, o.2.2.1, o.2.2.2.1, r.2) := ⟨A2, wq2, L2, es, _, bq, fr4.1 _ _ h1 rfl, g3.fr fr4 rfl rfl, q1, h4.fr fr4 (fun i _ => (s6 i).1), fun i hi => (s6 i).2.trans (h5 i hi), by show r.2.2.1 ≤ 200; omega, by show r.2.2.2.1 ≤ 230; omega⟩
      have R4 : lb_R hs2 b o (o.1, o.2.1, o.2.2.1, o.2.2.2.1, r.2) hs4 := ⟨ob4, fr4.mono (fun _ z => lb_k0_w z), by rw [← z1]; exact q4, by rw [← z1]; exact q5⟩
      obtain ⟨es4, dp4, bq4, t4⟩ := ob4.tx
      refine ⟨_, ⟨_, ob4.at, rfl⟩, ⟨_, t4.at⟩, c_clearL ob4 (fun hs5 R5 => ⟨rfl, ?_⟩)⟩
      have R25 : lb_R hs b o ([], o.2.1, o.2.2.1, o.2.2.2.1, r.2) hs5 := g2.tr (R4.tr R5 s2 (Nat.le_refl _)) (Nat.le_refl _) s2
      have kw : ∀ (hs6 : mx_H) (v : Int64), lb_R hs5 b ([], o.2.1, o.2.2.1, o.2.2.2.1, r.2) ([], o.2.1, v, o.2.2.2.1, r.2) hs6 → v = (if lz_bad r.1 = true then o.2.2.1 else r.1) → mx_Ok mx_S0 l G (d + 200) mm_LB_show 61 [(0, .ref b), (1, .long r.1)] [] hs6 Q := by
        intro hs6 v R6 ev
        have ob6 := R6.1
        obtain ⟨A5, wq5, L5, es5, dp5, bq5, u1, u2, u3, u4, u5, u6, u7⟩ := ob6
        have ea := so_ans_eq r.1 r.2
        refine wp_LB_show_61 _ _ ⟨_, ⟨_, u1, rfl⟩, ⟨_, u3.at⟩, lb_answer u3 (fun hs7 p1 p2 p3 => ⟨_, rfl, ?_⟩)⟩
        have R7 : lb_R hs6 b ([], o.2.1, v, o.2.2.2.1, r.2) ([], o.2.1, v, o.2.2.2.1, (so_ans r.1 r.2).2) hs7 := by
          refine ⟨⟨A5, wq5, L5, es5, dp5, bq5, p2.1 _ _ u1 rfl, u2.fr p2 rfl rfl, p1, u4.fr p2 (fun i hi => ?_), fun i hi => ?_, ?_, ?_⟩, p2.mono (fun _ z => lb_k0_w z), ?_, ?_⟩
          · show ((so_ans _ _).2.1 i).1 = _
            rw [ea.1]
          · show ((so_ans _ _).2.1 i).2.1 = _
            rw [ea.1]
            exact u5 i hi
          · show (so_ans _ _).2.2.1 ≤ 200
            rw [ea.2.1]
            exact u6
          · show (so_ans _ _).2.2.2.1 ≤ 230
            have := ea.2.2.1
            omega
          · show hs7.2.1 = hs6.2.1 + 2 * ((so_ans _ _).2.2.2.2.2.1 - r.2.2.2.2.2.1)
            rw [ea.2.2.2, p3]
            omega
          · rw [p3]
            exact Nat.le_add_right _ _
        have esz : lz_sz ([], o.2.1, v, o.2.2.2.1, (so_ans r.1 r.2).2) = lz_sz ([], o.2.1, v, o.2.2.2.1, r.2) := by
          show (so_ans _ _).2.2.2.2.2.1 = r.2.2.2.2.2.1
          rw [ea.2.2.2]
        rw [← ev] at k
        exact k hs7 (R25.tr (R6.tr R7 (Nat.le_refl _) (Nat.le_of_eq esz.symm)) s2 (Nat.le_of_eq esz.symm))
      refine c_isFailure ⟨_, rfl, fun y => ?_, fun y => ⟨_, R5.1.at, fun hs6 e6 => ?_⟩⟩
      · exact kw hs5 o.2.2.1 (lb_R.rf R5.1) (by rw [if_pos (lz_b1.mp y)])
      · exact kw hs6 r.1 (R5.1.own _ _ e6) (by rw [if_neg (by rw [lz_b0.mp (Decidable.not_not.mp y)]; decide)])
    · have hz : 30 ≤ o.2.2.2.2.2.2.1 := by
        have := lz_b1.mp z2
        simpa using this
      rw [if_pos hz] at k
      obtain ⟨es4, dp4, bq4, t4⟩ := ob2.tx
      exact ⟨_, ⟨_, ob2.at, rfl⟩, ⟨_, t4.at⟩, c_clearL ob2 (fun hs3 R3 => ⟨rfl, k hs3 (g2.tr R3 (Nat.le_refl _) (Nat.le_refl _))⟩)⟩
  · rw [if_pos z] at k
    exact k hs2 g1
theorem c_builder {x y : Int32} (h : lb_ob hs b o) (k : ∀ hs2, lb_R hs b o (so_builder x y o).2 hs2 → Q (some (.int (so_builder x y o).1)) hs2) : mx_C mx_S0 l G (d + 1) mm_LB_builder [.ref b, .int x, .int y] hs Q := by
  have hR := lb_R.rf h
  unfold so_builder at k
  refine wp_LB_builder_0 _ _ _ ⟨fun z => ?_, fun z1 => ⟨fun z => ?_, fun z2 => ⟨fun z => ?_, fun z3 => ⟨fun z4 => ?_, fun z => ?_⟩⟩⟩⟩
  · rw [if_pos (Or.inl z)] at k
    exact k hs hR
  · rw [if_pos (Or.inr (Or.inl z))] at k
    exact k hs hR
  · rw [if_pos (Or.inr (Or.inr (Or.inl z)))] at k
    exact k hs hR
  · rw [if_neg (by rintro (q | q | q | q) <;> contradiction)] at k
    rcases pk_ix x (n := 10) (by decide) with q | q | ⟨j, q1, q2⟩
    · exact absurd q z1
    · exact absurd q z2
    obtain ⟨m, m1, m2⟩ := nI_of2 (x := y) (M := 4) (n := 4) rfl z3 z4
    subst q2
    rw [nI_clamp (by omega)] at k
    obtain ⟨A, wq, L, es0, dp0, bq0, h1, h2, h3, h4, h5, h6, h7⟩ := h
    obtain ⟨u1, u2, u3, u4, u5, u6, u7, u8⟩ := h3
    obtain ⟨g1, ⟨ps, g2, g3⟩, ⟨ks, g4, g5, g6⟩, g7, g8, g9, g10, g11⟩ := u6
    refine ⟨_, ⟨_, h1, rfl⟩, _, ⟨_, g1, rfl⟩, _, g4, nI_pos (by omega), by rw [nI_clamp (by omega), List.length_map]; omega, fun hs2 e2 => ?_⟩
    rw [nI_clamp (by omega), ← List.map_set] at e2
    have kp : mx_kp hs hs2 (b + 6) 1 := by
      rw [e2]
      exact mx_kp.st (by omega) (by omega)
    have fr : mx_fr lb_k0 hs hs2 := by
      rw [e2]
      exact mx_fr.st g4 rfl
    have hS : lb_st hs2 (b + 4) A wq (o.2.2.2.2.2.2.2.1, o.2.2.2.2.2.2.2.2.1, fun i => if i = j then y else o.2.2.2.2.2.2.2.2.2.1 i, o.2.2.2.2.2.2.2.2.2.2) := by
      refine ⟨(kp.1 _ (by omega)).trans g1, ⟨ps, (kp.1 _ (by omega)).trans g2, g3⟩, ⟨ks.set j y, by rw [e2]; exact mx_st_eq _ _ _, by rw [List.length_set]; exact g5, fun i hi => ?_⟩, fun i hi => ?_, g8, g9, ⟨g10.1, g10.2.1, fun i hi => ?_⟩, ?_⟩
      · by_cases hij : i = j
        · subst hij
          rw [List.getElem?_set_self (by omega)]
          simp
        · rw [List.getElem?_set_ne (by omega)]
          simp only [if_neg hij]
          exact g6 i hi
      · have := u7 i hi
        rw [kp.1 _ (by omega), kp.1 _ (by omega)]
        exact g7 i hi
      · by_cases hij : i = j
        · simp only [if_pos hij]
          exact ⟨m, m1, m2⟩
        · simp only [if_neg hij]
          exact g10.2.2 i hi
      · rw [e2]
        exact g11.st g4
    refine k hs2 ⟨⟨A, wq, L, es0, dp0, bq0, (kp.1 _ (by omega)).trans h1, h2.kp kp (by omega), ⟨(kp.1 _ (by omega)).trans u1, (kp.1 _ (by omega)).trans u2, fun i hi => (kp.1 _ (by omega)).trans (u3 i hi), (kp.1 _ (by omega)).trans u4, u5, hS, u7, ⟨u8.1, hS.ok⟩⟩, fun i hi => ?_, h5, h6, h7⟩, fr, by rw [kp.2]; show _ = hs.2.1 + 2 * (lz_sz o - lz_sz o); omega, by rw [kp.2]; exact Nat.le_add_right _ _⟩
    obtain ⟨es3, dp3, bp3, v1, v2⟩ := h4 i hi
    exact ⟨es3, dp3, bp3, v1.kp kp (by omega), v2⟩
  · rw [if_pos (Or.inr (Or.inr (Or.inr z)))] at k
    exact k hs hR
end CO4
