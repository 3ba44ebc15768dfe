/-! THE REFERENCE works an EXPRESSION out: names, and all kinds. -/
section RNA
variable {l : Launch} {G : mx_G} {r d : Nat} {m0 m : rm_M} {T : Nat → List Int32} {w : lz_W} {F : Nat} {Q R : Option Value → rm_M → Prop}
theorem rP_n {n s a q : Nat} (hn8 : n < 8) (h19 : m.2.2.1 19 = nI (F + 1)) (hF : F < 99) (hfr : fr m F (nI (n + 97)) s a q) (hq : q ≤ 4) (k0 : q ≠ 0 → r129 l G r d F (nI (n + 97)) (nI s) 0 m Q) (k1 : q = 0 → r129 l G r d F (nI (n + 97)) (nI s) 1 m Q) : rP l G r d m Q := by
  have hl := (lz_lt_c hn8).1
  refine rP_go h19 hF hfr.1 hfr.2.1 (fun _ => ⟨fun z => k0 ?_, fun z => k1 ?_⟩) (fun z => ?_) (fun z => ?_) (fun z => by rw [hl] at z; cases z)
  · rw [hfr.2.2.2] at z
    rintro rfl
    exact z rfl
  · rw [hfr.2.2.2] at z
    exact (nI_eq (b := 0) (by omega) (by omega)).mp z
  · rw [z] at hl
    exact absurd hl (by decide)
  · rcases z with z | z <;> (rw [z] at hl; exact absurd hl (by decide))
theorem rName {f : lz_F} {N s p n : Nat} {t : List Int32} (ih : rE l G r d m0 T f N Q) (hfo : lz_fok T f) (hn8 : n < 8) (hx : rx_t m s t) (hs : s ≤ 9) (hp : p < t.length) (hm : ms m0 T m w F) (hn : 200 ≤ w.2.1 + N) (h2 : w.2.1 ≤ 200) (hb : F + 1 ≤ 9 * lz_bz w + 8) (h22 : m.2.2.1 22 = 0) (h17 : m.2.2.1 17 = 0) (K : rK l G r d m0 T F m Q (lz_name f T n w))
    (kv : ∀ x m10, ¬ x = 0 → rL l G r d m10 Q → R (some (.int x)) m10) (kp : ∀ m10, mr_Ok l G r (d + 7) mm_RM_begin 82 [(0, .ref r), (1, .int (nI s)), (2, .int (nI p)), (3, .int (nI (n + 97)))] [] m10 (fun v m' => v = none ∧ rL l G r d m' Q) → R (some (.int 0)) m10) : mr_C l G r (d + 6) mm_RM_enter [.int (nI n)] m R := by
  have hF : F < 99 := by have := lz_bz_le w; omega
  have hc : Int32.toNatClampNeg (nI n) = n := nI_clamp (by omega)
  obtain ⟨b1, b2, b3, b4⟩ := hm.2.1.1 n hn8
  have hok := hm.2.1.2.2.2.2.2
  have hfail : ∀ (v : Int64) (x : Int32), fcd v x → lz_bad v = true → lz_name f T n w = (v, w) → ∀ m1, m1 = rs_s m 22 x → mr_Ok l G r (d + 6) mm_RM_enter 33 [(0, .ref r), (1, .int (nI n))] [] m1 R := by
    intro v x hv hbv e m1 e1
    have e22 : m1.2.2.1 22 = x := by rw [e1]; simp [rs_s]
    rw [e] at K
    refine wr_enter_33 _ ⟨fun z => absurd (e22.symm.trans z) hv.nz, fun _ => kv 1 m1 (by decide) (K.fl hbv hF (by rw [e1]; exact hm.q (rq.ss rfl) hm.2.2) (by rw [e22]; exact hv) (by rw [e1]; exact ⟨fun _ _ _ _ _ => rfl, fun _ _ => rfl⟩))⟩
  refine wr_enter_0 _ ?_
  rw [hc, b1, b2]
  refine ⟨nI_pos (by omega), by omega, fun z => ⟨nI_pos (by omega), by omega, fun y => ?_, fun y => ?_⟩, fun z => ?_⟩
  · have hbd := lz_b1.mp z
    have hby := lz_b0.mp y
    refine wr_enter_33 _ ⟨fun _ => ?_, fun z => absurd h22 z⟩
    rw [hc, b3]
    refine ⟨nI_pos (by omega), by omega, fun z => ?_, fun z => ?_⟩
    · have hk : (w.1 n).2.2 = -1000000000000 := by simpa using lz_b0.mp z
      refine ⟨nI_pos (by omega), by omega, fun m1 e1 => wr_enter_71 _ ?_⟩
      have e3 : m1.1 3 n = 0 := by rw [e1, ← z, ← b3]; rfl
      rw [hc, e3]
      refine ⟨nI_pos (by omega), by omega, Or.inl rfl, kp m1 ?_⟩
      obtain ⟨w1, ew1⟩ : ∃ w1, w1 = lz_setN w n ((w.1 n).1, true, (w.1 n).2.2) := ⟨_, rfl⟩
      have EN : lz_name f T n w = ((f (T n) 0 w1).1, lz_setN (f (T n) 0 w1).2 n (((f (T n) 0 w1).2.1 n).1, false, if lz_bad (f (T n) 0 w1).1 = true then ((f (T n) 0 w1).2.1 n).2.2 else (f (T n) 0 w1).1)) := by
        unfold lz_name
        rw [if_neg (by rw [hbd]; decide), if_neg (by rw [hby]; decide), if_neg (not_not_intro hk), ew1]
      rw [EN] at K
      obtain ⟨hm1, g1⟩ : ms m0 T m1 w1 F ∧ fq F m m1 := by
        rw [ew1]
        refine hm.n hn8 rfl (hok.1 n hn8).2 (fun k i h5 _ => by rw [e1]; simp only [rs_i]; rw [if_neg h5]) (by rw [e1]; simp [rs_i, lz_b]) (by rw [e3]; simp [hk, lz_b]) (fun _ _ _ => by rw [e1]; rfl) (fun q => absurd hk q) (by rw [e1]; rfl)
      have ew2 : w1.2 = w.2 := by rw [ew1]; rfl
      have ebz : lz_bz w1 = lz_bz w + 1 := by
        rw [ew1]
        exact lz_bz_set hn8 hby ((w.1 n).1, 0) (true, (w.1 n).2.2)
      have hrd := (hok.1 n hn8).1 hbd
      have s1 := hfo (T n) 0 8 _ w1 (Nat.le_refl _) hrd hm1.2.1.2.2.2.2.2
      have h68 : ¬ nI (n + 97) = 68 := fun q => by have := (nI_eq (b := 68) (by omega) (by omega)).mp q; omega
      refine rPush hm1 hF (hx.n hm.1 hm1.1) hs hp (fun q => absurd q h68) (by rw [e1]; exact h22) (fun m2 a1 a2 a3 a4 _ => ?_)
      rw [if_neg h68] at a4
      refine rP_n hn8 a1.2.2 hF a4 (by omega) (fun q => absurd rfl q) (fun _ => ?_)
      refine r129_moren hn8 hF (fun m3 e3 => ?_)
      have q3 : rq m2 m3 := by rw [e3]; exact rq.ii rfl
      have hm3 : ms m0 T m3 w1 (F + 1) := a1.q q3 (by rw [e3]; exact a1.2.2)
      have g3 : fq F m2 m3 := by
        rw [e3]
        exact ⟨fun k j h1 h2 h3 => by simp only [rs_i]; rw [if_neg (by omega)], fun _ _ => rfl⟩
      have a5 : fr m3 F (nI (n + 97)) s 0 0 := ⟨by rw [e3]; exact a4.1, by rw [e3]; exact a4.2.1, by rw [e3]; simp [rs_i]; rfl, by rw [e3]; exact a4.2.2.2⟩
      refine ih (T n) n 0 8 _ (F + 1) m3 w1 (by omega) (Nat.le_refl _) hrd (hm3.2.1.2.1 n hn8 (by rw [ew1]; simp [lz_setN]; exact hbd)) hm3 (by rw [ew2]; exact hn) (by rw [ew2]; exact h2) (by rw [ebz]; omega) (by rw [e3]; exact a2) ⟨fun z m4 c1 c2 c3 c4 c5 => ?_, fun z m4 c1 c2 c3 => ?_⟩
      · have V1 := s1.2.2.1.resolve_left (by rw [z]; decide)
        have n30 : (f (T n) 0 w1).2.2.2.2.2.1 ≤ 30 := s1.1.2.1
        have a6 := a5.up c5
        rw [if_neg (by rw [z]; decide)] at K
        refine rL_val c1.2.2 hF c2 c3 a6.2.2.2 (by omega) (fun m5 e5 => ?_)
        have hm5 : ms m0 T m5 (f (T n) 0 w1).2 (F + 1) := c1.q (rq.tr (m2 := rs_l m4 18 (F * 4 + 0) m4.2.2.2) (rq.ll (by decide) (by decide)) (by rw [e5]; exact rq.ii rfl)) (by rw [e5]; exact c1.2.2)
        have g5 : fq F m4 m5 := by
          rw [e5]
          exact ⟨fun k j h1 h2 h3 => by simp only [rs_i, rs_l]; rw [if_neg (by omega)], fun i hi => by simp only [rs_i, rs_l]; rw [if_neg (by omega)]⟩
        have v5 : m5.2.1 18 (F * 4) = (f (T n) 0 w1).1 := by
          rw [e5]
          simp [rs_i, rs_l]
          exact c4
        have a7 : fr m5 F (nI (n + 97)) s 0 1 := ⟨by rw [e5]; exact a6.1, by rw [e5]; exact a6.2.1, by rw [e5]; exact a6.2.2.1, by rw [e5]; simp [rs_i]⟩
        refine rP_n hn8 hm5.2.2 hF a7 (by omega) (fun _ => ?_) (fun q => absurd q (by decide))
        have hab : ∀ c : Int32, lz_lt c = false → nI (n + 97) = c → False := fun c h1 h2 => by rw [← h2, (lz_lt_c hn8).1] at h1; cases h1
        refine r129_done hm5.2.2 hF (fun n' hn' en m6 e6 => ?_) (fun q => (hab _ (by decide) q).elim) (fun q => (hab _ (by decide) q).elim) (fun q => (hab _ (by decide) q).elim) (fun q => (hab _ (by decide) q).elim) (fun q => (hab _ (by decide) q).elim) (fun q => by rw [(lz_lt_c hn8).1] at q; cases q)
        have : n' = n := by have := (nI_eq (by omega) (by omega)).mp en; omega
        subst this
        rw [v5] at e6
        have hv0 := V1.no n30
        obtain ⟨d1, d2⟩ := (rdn.ms hm5).n (m2 := m6) hn8 (x := (((f (T n') 0 w1).2.1 n').1, false, (f (T n') 0 w1).1)) rfl (Or.inr V1) (fun k i h5 h3 => by rw [e6]; simp only [rs_i, rs_l]; rw [if_neg h5, if_neg h3]) (by rw [e6]; simp [rs_i, lz_b]) (by rw [e6]; simp [rs_i, lz_b, hv0]) (fun k i h => by rw [e6]; simp only [rs_i, rs_l]; rw [if_neg h]) (fun _ => by rw [e6]; simp [rs_i, rs_l]) (by rw [e6]; rfl)
        exact K.ok z d1 (by rw [e6]; show m5.2.2.1 22 = 0; rw [e5]; exact c2) (by rw [e6]; exact rdn.p (m := m5) (F := F)) (by rw [e6]; exact v5) (g1.tr (a3.tr (g3.tr ((c5.mono (by omega)).tr (g5.tr (rdn.f.tr d2))))))
      · have a6 := a5.up c3
        rw [if_pos z] at K
        unfold rF
        rw [if_neg (Nat.succ_ne_zero F)]
        refine rU_name c1.2.2 hF hn8 a6.1 (fun m5 e5 => ?_)
        have hm4 : ms m0 T (rs_s m4 19 (nI F)) (f (T n) 0 w1).2 F := c1.q (rq.ss rfl) (by simp [rs_s])
        obtain ⟨u1, u2, u3, u4⟩ := hm4.2.1.1 n hn8
        obtain ⟨d1, d2⟩ := hm4.n (m2 := m5) hn8 (x := (((f (T n) 0 w1).2.1 n).1, false, ((f (T n) 0 w1).2.1 n).2.2)) rfl ((s1.1.1 n hn8).2) (fun k i h5 h3 => by rw [e5]; simp only [rs_i]; rw [if_neg h5]) (by rw [e5]; simp [rs_i, lz_b]) (by rw [e5]; exact u3) (fun k i h => by rw [e5]; rfl) (fun q => by rw [e5]; exact u4 q) (by rw [e5]; rfl)
        exact K.2 z m5 d1 (by rw [e5]; exact c2) (g1.tr (a3.tr (g3.tr ((c3.mono (by omega)).tr (fq.tr (m2 := rs_s m4 19 (nI F)) ⟨fun _ _ _ _ _ => rfl, fun _ _ => rfl⟩ d2)))))
    · have hk : ¬ (w.1 n).2.2 = -1000000000000 := by simpa using lz_b1.mp z
      have hV := (hok.1 n hn8).2.resolve_left hk
      have n30 : w.2.2.2.2.1 ≤ 30 := hok.2.1
      rw [show lz_name f T n w = ((w.1 n).2.2, w) by unfold lz_name; rw [if_neg (by rw [hbd]; decide), if_neg (by rw [hby]; decide), if_pos hk]] at K
      refine ⟨nI_pos (by omega), by omega, fun m1 e1 => wr_enter_71 _ ?_⟩
      have e3 : m1.1 3 n = 1 := by rw [e1]; show m.1 3 n = 1; rw [b3]; simp [hk, lz_b]
      rw [hc, e3]
      refine ⟨nI_pos (by omega), by omega, Or.inr rfl, kv 1 m1 (by decide) ?_⟩
      exact K.ok (hV.bad (by omega)) (by rw [e1]; exact hm.q rq.rr hm.2.2) (by rw [e1]; exact h22) (by rw [e1]; exact h17) (by rw [e1]; exact b4 hk) (by rw [e1]; exact ⟨fun _ _ _ _ _ => rfl, fun _ _ => rfl⟩)
  · have hbd := lz_b1.mp z
    have hby := lz_b1.mp y
    exact hfail (-1000000000008) (-8) (Or.inr (Or.inr (Or.inr (Or.inr (Or.inl ⟨rfl, rfl⟩))))) (by decide) (by unfold lz_name; rw [if_neg (by rw [hbd]; decide), if_pos hby])
  · have hbd := lz_b0.mp (Decidable.not_not.mp z)
    exact hfail (-1000000000004) (-4) (Or.inl ⟨rfl, rfl⟩) (by decide) (by unfold lz_name; rw [if_pos hbd])
theorem rOver {s p : Nat} (hF : F < 99) (hm : ms m0 T m w F) (h : w.2.1 = 200) (K : rK l G r d m0 T F m Q (-1000000000010, w)) : rB l G r d (nI s) (nI p) m Q := by
  refine wr_begin_0 (d := d + 6) _ _ (fun m1 e1 => ⟨fun z => absurd ?_ z, fun _ m2 e2 => ⟨rfl, ?_⟩⟩)
  · rw [e1]
    show m.2.2.1 20 = 200
    rw [hm.2.1.2.2.1, h]
    rfl
  · have hm1 : ms m0 T m1 w F := by rw [e1]; exact hm.q (rq.ss rfl) hm.2.2
    exact K.fl (show lz_bad (-1000000000010) = true by decide) hF (by rw [e2]; exact hm1.q (rq.ss rfl) hm1.2.2) (Or.inr (Or.inr (Or.inr (Or.inr (Or.inr (Or.inr ⟨rfl, by rw [e2]; simp [rs_s]⟩)))))) (by rw [e2, e1]; exact ⟨fun _ _ _ _ _ => rfl, fun _ _ => rfl⟩)
theorem rEv : ∀ N, rE l G r d m0 T (lz_ev T N) N Q := by
  intro N
  induction N with
  | zero =>
    intro t s p k e F m w hs hk hr hx hm hn h2 hb h22 K
    exact rOver (by have := lz_bz_le w; omega) hm (by omega) K
  | succ N ih =>
    intro t s p k e F m w hs hk hr hx hm hn h2 hb h22 K
    have hbz := lz_bz_le w
    unfold lz_ev at K
    by_cases h200 : 200 ≤ w.2.1
    · rw [if_pos h200] at K
      exact rOver (by omega) hm (by omega) K
    rw [if_neg h200] at K
    obtain ⟨k, rfl⟩ : ∃ k', k = k' + 1 := by
      cases k with
      | zero =>
        simp [lz_rd] at hr
      | succ k => exact ⟨k, rfl⟩
    have hfo := lz_ev_ok (T := T) N
    obtain ⟨hp, hcase⟩ := lz_rd_cases hr
    refine wr_begin_0 (d := d + 6) _ _ (fun m1 e1 => ⟨fun _ m2 e2 => ?_, fun z => absurd ?_ z⟩)
    · have hx2 : rx_t m2 s t := by rw [e2, e1]; exact hx
      have e20 : m1.2.2.1 20 = nI w.2.1 := by rw [e1]; exact hm.2.1.2.2.1
      rw [e20, nI_1] at e2
      have hm2 : ms m0 T m2 (w.1, w.2.1 + 1, w.2.2) F := by
        obtain ⟨⟨u1, u2, u3, u4, u5⟩, ⟨v1, v2, v3, v4, v5, v6⟩, v7⟩ := hm
        rw [e2, e1]
        exact ⟨⟨u1, u2, u3, u4, u5⟩, ⟨v1, v2, by simp [rs_s], v4, v5, v6⟩, v7⟩
      have h222 : m2.2.2.1 22 = 0 := by rw [e2, e1]; exact h22
      have h172 : m2.2.2.1 17 = 0 := by rw [e2, e1]; simp [rs_s]
      have K := K.go (m1 := m2) (by rw [e2, e1]; exact ⟨fun _ _ _ _ _ => rfl, fun _ _ => rfl⟩)
      have hn2 : 200 ≤ (w.1, w.2.1 + 1, w.2.2).2.1 + N := by show 200 ≤ w.2.1 + 1 + N; omega
      have h22' : (w.1, w.2.1 + 1, w.2.2).2.1 ≤ 200 := by show w.2.1 + 1 ≤ 200; omega
      have hb2 : F + 1 + k ≤ 9 * lz_bz (w.1, w.2.1 + 1, w.2.2) + 8 := by
        have : lz_bz (w.1, w.2.1 + 1, w.2.2) = lz_bz w := lz_bz_eq (fun _ => rfl)
        omega
      obtain ⟨i1, i2, i3⟩ := rb_ix hx2 hs hp
      refine ⟨i1, i2, ?_⟩
      rw [i3]
      generalize (w.1, w.2.1 + 1, w.2.2) = w2 at K hm2 hn2 h22' hb2
      refine r_digit (d := d + 5) ⟨_, rfl, fun zd => r_name (d := d + 5) ⟨_, rfl, fun zl => ?_, fun zl => ?_⟩, fun zd m3 e3 => ⟨rfl, ?_⟩⟩
      · have zd := lz_b0.mp zd
        have zl := lz_b0.mp zl
        rcases hcase with ⟨q, -⟩ | ⟨q, q1, q2, q3⟩ | ⟨-, q1, q2, q3⟩
        · rw [zd, zl] at q
          cases q
        · rw [show lz_body (lz_ev T N) T t p w2 = lz_plan (lz_ev T N) t p w2 by unfold lz_body; simp only [zd, zl, Bool.false_eq_true, if_false]; rw [if_neg (by rw [q]; decide), if_neg (by rw [q]; decide), if_neg (by rw [q]; decide), if_pos q]] at K
          rw [q]
          exact rPlan ih hfo hx2 hs (by omega) hp hm2 hn2 h22' hb2 h222 q1 q3 K
        · by_cases c33 : lz_cd t p = 33
          · rw [show lz_body (lz_ev T N) T t p w2 = lz_abort (lz_ev T N) t p w2 by unfold lz_body; simp only [zd, zl, Bool.false_eq_true, if_false]; rw [if_neg (by rw [c33]; decide), if_pos c33]] at K
            rw [c33] at q3 ⊢
            rw [show lz_pa 33 = 1 by decide] at q3
            exact rAbort ih hfo hx2 hs (by omega) hp hm2 hn2 h22' hb2 h222 q3 K
          by_cases c79 : lz_cd t p = 79
          · rw [show lz_body (lz_ev T N) T t p w2 = lz_result (lz_ev T N) t p w2 by unfold lz_body; simp only [zd, zl, Bool.false_eq_true, if_false]; rw [if_neg (by rw [c79]; decide), if_neg (by rw [c79]; decide), if_neg (by rw [c79]; decide), if_neg (by rw [c79]; decide), if_pos c79]] at K
            rw [c79] at q3 ⊢
            rw [show lz_pa 79 = 1 by decide] at q3
            exact rResult ih hfo hx2 hs (by omega) hp hm2 hn2 h22' hb2 h222 q3 K
          by_cases c84 : lz_cd t p = 84
          · rw [show lz_body (lz_ev T N) T t p w2 = lz_try (lz_ev T N) t p w2 by unfold lz_body; simp only [zd, zl, Bool.false_eq_true, if_false]; rw [if_neg (by rw [c84]; decide), if_neg (by rw [c84]; decide), if_pos c84]] at K
            rw [c84] at q3 ⊢
            rw [show lz_pa 84 = 2 by decide] at q3
            exact rTry ih hfo hx2 hs (by omega) hp hm2 hn2 h22' hb2 h222 q3 K
          by_cases c63 : lz_cd t p = 63
          · rw [show lz_body (lz_ev T N) T t p w2 = lz_choice (lz_ev T N) t p w2 by unfold lz_body; simp only [zd, zl, Bool.false_eq_true, if_false]; rw [if_pos c63]] at K
            rw [c63] at q3 ⊢
            rw [show lz_pa 63 = 3 by decide] at q3
            exact rChoice ih hfo hx2 hs (by omega) hp hm2 hn2 h22' hb2 h222 q3 K
          have hpa : lz_pa (lz_cd t p) = 2 := by
            unfold lz_pa at q2 ⊢
            rw [if_neg (fun q => q.elim c33 c79)] at q2 ⊢
            by_cases c2 : lz_cd t p = 43 ∨ lz_cd t p = 45 ∨ lz_cd t p = 42 ∨ lz_cd t p = 60 ∨ lz_cd t p = 84
            · rw [if_pos c2]
            · rw [if_neg c2, if_neg c63] at q2
              exact absurd rfl q2
          rw [show lz_body (lz_ev T N) T t p w2 = lz_pair (lz_ev T N) t p w2 by unfold lz_body; simp only [zd, zl, q1, c33, c79, c84, c63, Bool.false_eq_true, if_false]] at K
          rw [hpa] at q3
          exact rPair ih hfo rfl zl q1 c63 c84 c33 c79 hpa hx2 hs (by omega) hp q3 hm2 hn2 h22' hb2 h222 K
      · have zd := lz_b0.mp zd
        have zl := lz_b1.mp zl
        obtain ⟨n, n1, n2, n3⟩ := lz_lt_n zl
        rw [show lz_body (lz_ev T N) T t p w2 = lz_name (lz_ev T N) T n w2 by unfold lz_body; simp only [zd, zl, Bool.false_eq_true, if_false, if_true]; rw [n2, nI_clamp (by omega)]] at K
        rw [n2, n3]
        refine rName ih hfo n1 hx2 hs hp hm2 hn2 h22' (by omega) h222 h172 K (fun x m10 hx0 h => ⟨x, rfl, fun z => absurd z hx0, fun _ => ⟨rfl, h⟩⟩) (fun m10 h => ⟨0, rfl, fun _ => h, fun z => absurd rfl z⟩)
      · have zd := lz_b1.mp zd
        rw [show lz_body (lz_ev T N) T t p w2 = ((lz_cd t p - 48).toInt64, w2) by unfold lz_body; simp only [zd, if_true]] at K
        exact K.ok (lz_n_bad _) (by rw [e3]; exact hm2.q rq.rr hm2.2.2) (by rw [e3]; exact h222) (by rw [e3]; exact h172) (by rw [e3]; rfl) (by rw [e3]; exact ⟨fun _ _ _ _ _ => rfl, fun _ _ => rfl⟩)
    · rw [e1]
      show ¬ m.2.2.1 20 = 200
      rw [hm.2.1.2.2.1]
      intro q
      have := (nI_eq (b := 200) (by omega) (by omega)).mp q
      omega
end RNA
