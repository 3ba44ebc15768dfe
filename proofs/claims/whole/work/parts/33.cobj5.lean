/-! THE CLASS's calls: build, root. -/
section CO5
variable {l : Launch} {G : mx_G} {d b : Nat} {hs : mx_H} {Q : Option Value → mx_H → Prop} {o : lz_O}
/-- the Store is changed, the rest stands -/
theorem lb_ob.sto (hh : lb_ob hs b o) {hs2 : mx_H} {S2 : lz_S} {A : Nat → Nat} {wq wq2 : Nat → Int32} {L : List Int64} (h3 : lb_wk hs b o.2.2.2.1 A wq L o.2.2.2.2) (fr : mx_fr lb_kb hs hs2) (hz : hs2.2 = hs.2) (hS : lb_st hs2 (b + 4) A wq2 S2) (hsz : S2.2.1 = lz_sz o) : lb_R hs b o (o.1, o.2.1, o.2.2.1, o.2.2.2.1, o.2.2.2.2.1, o.2.2.2.2.2.1, o.2.2.2.2.2.2.1, S2) hs2 ∧ lb_wk hs2 b o.2.2.2.1 A wq2 L (o.2.2.2.2.1, o.2.2.2.2.2.1, o.2.2.2.2.2.2.1, S2) := by
  obtain ⟨u1, u2, u3, u4, u5, u6, u7, u8⟩ := h3
  have hw : lb_wk hs2 b o.2.2.2.1 A wq2 L (o.2.2.2.2.1, o.2.2.2.2.2.1, o.2.2.2.2.2.2.1, S2) := ⟨fr.1 _ _ u1 rfl, fr.1 _ _ u2 rfl, fun i hi => fr.1 _ _ (u3 i hi) rfl, fr.1 _ _ u4 rfl, u5, hS, fun i hi => u7 i (by have hi : i < S2.2.1 := hi; rw [hsz] at hi; exact hi), u8.mono hS.ok (Nat.le_of_eq hsz.symm)⟩
  obtain ⟨A0, wq0, L0, es0, dp0, bq0, h1, h2, -, h4, h5, h6, h7⟩ := hh
  refine ⟨⟨⟨A, wq2, L, es0, dp0, bq0, fr.1 _ _ h1 rfl, h2.fr fr rfl rfl, hw, fun i hi => ?_, h5, h6, h7⟩, fr.mono (fun k hk => ?_), ?_, ?_⟩, hw⟩
  · obtain ⟨es3, dp3, bp3, v1, v2⟩ := h4 i hi
    exact ⟨es3, dp3, bp3, v1.fr fr rfl rfl, v2⟩
  · have := lb_k0_w hk
    unfold lb_kw at this
    unfold lb_kb
    simp only [Bool.and_eq_true] at this ⊢
    exact ⟨this.1.1.1.1.2, this.1.1.1.2⟩
  · show hs2.2.1 = hs.2.1 + 2 * (S2.2.1 - lz_sz o)
    rw [hz, hsz]
    omega
  · rw [hz]
    exact Nat.le_add_right _ _
theorem c_build {x : Int32} (hd : 60 ≤ d) (h : lb_ob hs b o) (k : ∀ hs2, lb_R hs b o (so_build x o).2 hs2 → Q (some (.int (so_build x o).1)) hs2) : mx_C mx_S0 l G d mm_LB_build [.ref b, .int x] hs Q := by
  obtain ⟨d, rfl⟩ : ∃ d', d = d' + 60 := ⟨d - 60, by omega⟩
  have hsz := h.size
  have hR := lb_R.rf h
  have hh := h
  obtain ⟨A, wq, L, es0, dp0, bq0, h1, h2, h3, h4, h5, h6, h7⟩ := h
  unfold so_build at k
  refine wp_LB_build_0 _ _ ⟨_, ⟨_, h1, rfl⟩, ⟨_, h3.sto.at⟩, c_planAt h3.sto (fun z => ⟨_, rfl, Or.inl rfl, fun _ => ?_, fun _ e => by cases e⟩) (fun j hj e => ⟨_, rfl, Or.inr ⟨_, rfl⟩, fun e => (by cases e), fun a ea => ?_⟩)⟩
  · rw [if_pos (so_np_t z)] at k
    exact k hs hR
  · cases ea
    subst e
    have hj : j < lz_sz o := hj
    rw [if_neg (by rw [so_np_f hsz hj]; decide), lz_nI1 (by omega)] at k
    refine ⟨_, ⟨_, h1, rfl⟩, ⟨_, h3.at⟩, c_isClosed h3 (by omega) ⟨_, rfl, fun z => ?_, fun z => ?_⟩⟩
    · have hz : ¬ 30 ≤ o.2.2.2.2.2.2.1 := by
        have := lz_b0.mp z
        simpa using this
      rw [if_neg hz] at k
      simp only at k
      refine ⟨_, ⟨_, h1, rfl⟩, _, ⟨_, h1, rfl⟩, ⟨_, h3.sto.at⟩, ?_⟩
      rw [show (1000000000000 : Int64) + (nI (j + 1)).toInt64 = lz_pv j by rw [nI_l (by omega)]; rfl]
      refine c_partOf h3.sto (Or.inr ⟨j, hj, rfl⟩) (by omega) (fun hs2 g1 g2 g3 => ⟨_, rfl, ?_⟩)
      obtain ⟨R2, w2⟩ := hh.sto h3 g2 g3 g1 (lz_pt_sm 30 _ _).1
      refine ⟨⟨_, w2.at⟩, lb_answer w2 (fun hs3 q1 q2 q3 => ⟨_, rfl, k hs3 ?_⟩)⟩
      have ea := so_ans_eq (lz_pt 30 (lz_sto o) (lz_pv j)).1 (o.2.2.2.2.1, o.2.2.2.2.2.1, o.2.2.2.2.2.2.1, (lz_pt 30 (lz_sto o) (lz_pv j)).2)
      have ez : lz_sz (o.1, o.2.1, o.2.2.1, o.2.2.2.1, (so_ans (lz_pt 30 (lz_sto o) (lz_pv j)).1 (o.2.2.2.2.1, o.2.2.2.2.2.1, o.2.2.2.2.2.2.1, (lz_pt 30 (lz_sto o) (lz_pv j)).2)).2) = lz_sz o := by
        show (so_ans _ _).2.2.2.2.2.1 = _
        rw [ea.2.2.2]
        exact (lz_pt_sm 30 _ _).1
      have fr3 : mx_fr lb_k0 hs hs3 := R2.2.1.tr (q2.mono (fun _ z => lb_k0_w z))
      obtain ⟨A9, wq9, L9, es9, dp9, bq9, v1, v2, v3, v4, v5, v6, v7⟩ := R2.1
      refine ⟨⟨A, wq, L, es9, dp9, bq9, q2.1 _ _ v1 rfl, v2.fr q2 rfl rfl, q1, v4.fr q2 (fun i hi => ?_), fun i hi => ?_, ?_, ?_⟩, fr3, ?_, ?_⟩
      · show ((so_ans _ _).2.1 i).1 = _
        rw [ea.1]
      · show ((so_ans _ _).2.1 i).2.1 = _
        rw [ea.1]
        exact h5 i hi
      · show (so_ans _ _).2.2.1 ≤ 200
        rw [ea.2.1]
        exact h6
      · show (so_ans _ _).2.2.2.1 ≤ 230
        have := ea.2.2.1
        simp only at this
        omega
      · rw [q3, g3, ez]
        omega
      · rw [q3, g3]
        exact Nat.le_add_right _ _
    · have hz : 30 ≤ o.2.2.2.2.2.2.1 := by
        have := lz_b1.mp z
        simpa using this
      rw [if_pos hz] at k
      exact k hs hR
theorem c_root {x : Int32} {on : Bool} (h : lb_ob hs b o) (k : ∀ hs2, lb_R hs b o (so_root x on o).2 hs2 → Q (some (.int (so_root x on o).1)) hs2) : mx_C mx_S0 l G (d + 3) mm_LB_root [.ref b, .int x, .int (lz_b on)] hs Q := by
  have hsz := h.size
  have hR := lb_R.rf h
  have hh := h
  obtain ⟨A, wq, L, es0, dp0, bq0, h1, h2, h3, h4, h5, h6, h7⟩ := h
  unfold so_root at k
  refine wp_LB_root_0 _ _ _ ⟨_, ⟨_, h1, rfl⟩, ⟨_, h3.sto.at⟩, c_planAt h3.sto (fun z => ⟨_, rfl, Or.inl rfl, fun _ => ?_, fun _ e => by cases e⟩) (fun j hj e => ⟨_, rfl, Or.inr ⟨_, rfl⟩, fun e => (by cases e), fun a ea => ⟨lz_b01 on, ?_⟩⟩)⟩
  · rw [if_pos (so_np_t z)] at k
    exact k hs hR
  · cases ea
    subst e
    have hj : j < lz_sz o := hj
    rw [if_neg (by rw [so_np_f hsz hj]; decide), lz_nI1 (by omega)] at k
    simp only at k
    obtain ⟨p1, p2⟩ := h3.sto.plan hj
    refine ⟨_, p1, fun hs2 e2 => ?_⟩
    have ok := h3.sto.ok.2.1 j hj
    have hS := h3.sto.upd hj (p := (((lz_sto o).1 j).1, ((lz_sto o).1 j).2.1, ((lz_sto o).1 j).2.2.1, ((lz_sto o).1 j).2.2.2.1, on)) (w := wq j) rfl ⟨ok.1, ok.2.1, ok.2.2.1, ok.2.2.2⟩
    have e3 : hs2 = mx_st hs (A j + 1) (lb_pc (A j) (((lz_sto o).1 j).1, ((lz_sto o).1 j).2.1, ((lz_sto o).1 j).2.2.1, ((lz_sto o).1 j).2.2.2.1, on) (wq j)) := e2
    rw [← e3] at hS
    exact k hs2 (hh.sto h3 (by rw [e3]; exact mx_fr.st p1 rfl) (by rw [e3]; rfl) hS rfl).1
end CO5
