/-! THE CLASS works an EXPRESSION out: the kinds of EXPRESSION. -/
section CW2
variable {l : Launch} {G : mx_G} {d b a n o k p e : Nat} {hs : mx_H} {Q : Option Value → mx_H → Prop} {A : Nat → Nat} {wq : Nat → Int32} {L : List Int64} {w : lz_W} {T : Nat → List Int32} {t : List Int32} {f : lz_F}
theorem lb_tg.at (h : lb_tg hs a t) : ∃ fs, hs.1 a = some (1, fs) := by
  obtain ⟨es, dp, bp, h1, -⟩ := h
  exact ⟨_, h1.at⟩
theorem lb_tg.len (h : lb_tg hs a t) : t.length ≤ 24 := by
  obtain ⟨es, dp, bp, h1, -⟩ := h
  exact h1.len.1
theorem c_codeT (h : lb_tg hs a t) (hp : p < 2 ^ 31) (k : Q (some (.int (lz_cd t p))) hs) : mx_C mx_S0 l G (d + 1) mm_LBText_codeAt [.ref a, .int (nI p)] hs Q := by
  obtain ⟨es, dp, bp, h1, -⟩ := h
  exact c_codeAt h1 hp k
theorem c_endT (h : lb_tg hs a t) {q m : Nat} (hk : k ≤ 8) (hr : lz_rd t k q = (true, m)) (hz : q = 0 ∨ lz_cd t (q - 1) ≠ 68) (kk : Q (some (.int (nI m))) hs) : mx_C mx_S0 l G (d + 1) mm_LBText_endOf [.ref a, .int (nI q)] hs Q := by
  obtain ⟨es, dp, bp, h1, h2⟩ := h
  have hb := lz_rd_b _ _ _ hr
  exact c_endOf h1 (by omega) (h2 q (Nat.zero_le _) (by omega) hz m (lz_rd_m hk hr)) kk
theorem lb_pre.child (h : lb_pre hs b T A wq L w a t n (d + 2) o (k + 1)) (hk : k + 1 ≤ 8) : lb_pre hs b T A wq L w a t n d (o + 1) k := by
  obtain ⟨h1, h2, h3, h4, h5, h6, h7⟩ := h
  have := lz_bz_le w
  exact ⟨h1, h2, h3, h4, h5, by omega, by omega⟩
theorem lb_pre.next {c : Nat} {r : Int64 × lz_W} {hs2 : mx_H} {A2 : Nat → Nat} {wq2 : Nat → Int32} {L2 : List Int64} (h : lb_pre hs b T A wq L w a t n d o k) (s : lz_st T c w r) (h2 : lb_wk hs2 b T A2 wq2 L2 r.2) (hf : mx_fr lb_kw hs hs2) : lb_pre hs2 b T A2 wq2 L2 r.2 a t n d o k := by
  obtain ⟨g1, g2, g3, g4, g5, g6, g7⟩ := h
  obtain ⟨s1, s2, s3, s4, s5, s6, s7⟩ := s
  refine ⟨h2, g2.fr hf (fun i _ => (s6 i).1), g3.fr hf, by omega, by omega, ?_, g7⟩
  rw [lz_bz_eq (fun i => (s6 i).2)]
  exact g6
theorem c_workAbort (hF : lb_WF l G b T f n) (hfo : lz_fok T f) (hk : k + 1 ≤ 8) (hr : lz_rd t k (p + 1) = (true, e)) (hc : lz_cd t p ≠ 68) (h : lb_pre hs b T A wq L w a t n (d + 2) o (k + 1)) (kk : ∀ hs2, lb_post hs b T L w o (lz_abort f t p w) hs2 → Q (some (.long (lz_abort f t p w).1)) hs2) : mx_C mx_S0 l G (d + 1) mm_LBWorker_workAbort [.ref (b + 7), .ref a, .int (nI p), .int (nI o)] hs Q := by
  have h1 := h.child hk
  obtain ⟨d, rfl⟩ : ∃ d', d = d' + 45 := ⟨d - 45, by have := h.2.2.2.2.2.2; omega⟩
  have s1 := hfo t (p + 1) k e w (by omega) hr h.1.ok
  refine wp_LBWorker_workAbort_0 _ _ _ _ ⟨⟨_, h.1.at⟩, ?_⟩
  rw [nI_1 p, nI_1 o]
  refine hF _ hs A wq L w a t (p + 1) k e (o + 1) _ (by omega) hr (Or.inr hc) h1 (fun hs2 g => ⟨_, rfl, ?_⟩)
  obtain ⟨A2, wq2, L2, g1, g2, g3, g4, g5⟩ := g
  unfold lz_abort at kk
  simp only at kk
  refine c_isFailure ⟨_, rfl, fun z => ?_, fun z => ?_⟩
  · rw [if_neg (by rw [lz_b0.mp z]; decide)] at kk
    exact kk hs2 ⟨A2, wq2, L2, g1, g2, fun i hi => g3 i (by omega), g4, g5⟩
  · rw [if_pos (lz_b1.mp z)] at kk
    exact kk hs2 ⟨A2, wq2, L2, g1, g2, fun i hi => g3 i (by omega), g4, g5⟩
theorem c_workPair {m : Nat} (hF : lb_WF l G b T f n) (hfo : lz_fok T f) (hk : k + 1 ≤ 8) (hr : lz_rd t k (p + 1) = (true, m)) (hr2 : lz_rd t k m = (true, e)) (hc : lz_cd t p ≠ 68) (hp : p < 2 ^ 30) (h : lb_pre hs b T A wq L w a t n (d + 2) o (k + 1)) (kk : ∀ hs2, lb_post hs b T L w o (lz_pair f t p w) hs2 → Q (some (.long (lz_pair f t p w).1)) hs2) : mx_C mx_S0 l G (d + 1) mm_LBWorker_workPair [.ref (b + 7), .ref a, .int (nI p), .int (nI o)] hs Q := by
  have h1 := h.child hk
  obtain ⟨d, rfl⟩ : ∃ d', d = d' + 45 := ⟨d - 45, by have := h.2.2.2.2.2.2; omega⟩
  have s1 := hfo t (p + 1) k m w (by omega) hr h.1.ok
  refine wp_LBWorker_workPair_0 _ _ _ _ ⟨⟨_, h.1.at⟩, ?_⟩
  rw [nI_1 p, nI_1 o]
  refine hF _ hs A wq L w a t (p + 1) k m (o + 1) _ (by omega) hr (Or.inr hc) h1 (fun hs2 g => ⟨_, rfl, ?_⟩)
  obtain ⟨A2, wq2, L2, g1, g2, g3, g4, g5⟩ := g
  unfold lz_pair at kk
  simp only at kk
  refine c_isFailure ⟨_, rfl, fun z => ?_, fun z => ?_⟩
  · rw [if_neg (by rw [lz_b0.mp z]; decide), lz_nd_eq (by omega) hr] at kk
    have h2 := h1.next s1 g1 g2
    have s2 := hfo t m k e _ (by omega) hr2 s1.1
    refine ⟨h2.2.2.1.at, c_endT h2.2.2.1 (by omega) hr (Or.inr hc) ⟨_, rfl, ⟨_, h2.1.at⟩, ?_⟩⟩
    refine hF _ hs2 A2 wq2 L2 _ a t m k e (o + 1) _ (by omega) hr2 (Or.inr (lz_rd_z _ _ _ hr)) h2 (fun hs3 g' => ⟨_, rfl, ?_⟩)
    have gp := lb_post.tr (o := o) g2 (fun i hi => g3 i (by omega)) g4 g5 (by omega) s1.2.1 s2.2.1 g'
    refine c_isFailure ⟨_, rfl, fun y => ?_, fun y => ?_⟩
    · rw [if_neg (by rw [lz_b0.mp y]; decide)] at kk
      have tg3 : lb_tg hs3 a t := by
        obtain ⟨A3, wq3, L3, k1, k2, -⟩ := g'
        exact h2.2.2.1.fr k2
      refine c_isPlan ⟨_, rfl, fun x => ?_, fun x => c_isPlan ⟨_, rfl, fun u => ⟨tg3.at, c_codeT tg3 (by omega) ⟨_, rfl, c_combine ⟨_, rfl, ?_⟩⟩⟩, fun u => ?_⟩⟩
      · rw [if_pos (by rw [lz_b1.mp x]; rfl)] at kk
        exact kk hs3 gp
      · rw [if_neg (by rw [lz_b0.mp (Decidable.not_not.mp x), lz_b0.mp u]; decide)] at kk
        exact kk hs3 gp
      · rw [if_pos (by rw [lz_b1.mp u]; simp)] at kk
        exact kk hs3 gp
    · rw [if_pos (lz_b1.mp y)] at kk
      exact kk hs3 gp
  · rw [if_pos (lz_b1.mp z)] at kk
    exact kk hs2 ⟨A2, wq2, L2, g1, g2, fun i hi => g3 i (by omega), g4, g5⟩
theorem c_workChoice {m m2 : Nat} (hF : lb_WF l G b T f n) (hfo : lz_fok T f) (hk : k + 1 ≤ 8) (hr : lz_rd t k (p + 1) = (true, m)) (hr2 : lz_rd t k m = (true, m2)) (hr3 : lz_rd t k m2 = (true, e)) (hc : lz_cd t p ≠ 68) (h : lb_pre hs b T A wq L w a t n (d + 2) o (k + 1)) (kk : ∀ hs2, lb_post hs b T L w o (lz_choice f t p w) hs2 → Q (some (.long (lz_choice f t p w).1)) hs2) : mx_C mx_S0 l G (d + 1) mm_LBWorker_workChoice [.ref (b + 7), .ref a, .int (nI p), .int (nI o)] hs Q := by
  have h1 := h.child hk
  obtain ⟨d, rfl⟩ : ∃ d', d = d' + 45 := ⟨d - 45, by have := h.2.2.2.2.2.2; omega⟩
  have s1 := hfo t (p + 1) k m w (by omega) hr h.1.ok
  refine wp_LBWorker_workChoice_0 _ _ _ _ ⟨⟨_, h.1.at⟩, ?_⟩
  rw [nI_1 p, nI_1 o]
  refine hF _ hs A wq L w a t (p + 1) k m (o + 1) _ (by omega) hr (Or.inr hc) h1 (fun hs2 g => ⟨_, rfl, ?_⟩)
  obtain ⟨A2, wq2, L2, g1, g2, g3, g4, g5⟩ := g
  unfold lz_choice at kk
  simp only at kk
  refine c_isFailure ⟨_, rfl, fun z => ?_, fun z => ?_⟩
  · rw [if_neg (by rw [lz_b0.mp z]; decide)] at kk
    have h2 := h1.next s1 g1 g2
    have hlast : ∀ q e', lz_rd t k q = (true, e') → lz_cd t (q - 1) ≠ 68 → (∀ hs3, lb_post hs b T L w o (f t q (f t (p + 1) w).2) hs3 → Q (some (.long (f t q (f t (p + 1) w).2).1)) hs3) → mx_Ok mx_S0 l G (d + 45 + 1) mm_LBWorker_workChoice 65 [(3, .int (nI o))] [.int (nI q), .ref a, .ref (b + 7)] hs2 Q := by
      intro q e' hq hz k3
      have s2 := hfo t q k e' _ (by omega) hq s1.1
      refine wp_LBWorker_workChoice_65 _ _ _ _ ⟨⟨_, h2.1.at⟩, ?_⟩
      rw [nI_1 o]
      exact hF _ hs2 A2 wq2 L2 _ a t q k e' (o + 1) _ (by omega) hq (Or.inr hz) h2 (fun hs3 g' => ⟨_, rfl, k3 hs3 (lb_post.tr (o := o) g2 (fun i hi => g3 i (by omega)) g4 g5 (by omega) s1.2.1 s2.2.1 g')⟩)
    refine c_isPlan ⟨_, rfl, fun x => ?_, fun x => ?_⟩
    · rw [if_neg (by rw [lz_b0.mp x]; decide), lz_nd_eq (by omega) hr, lz_nd_eq (by omega) hr2] at kk
      refine ⟨h2.2.2.1.at, c_endT h2.2.2.1 (by omega) hr (Or.inr hc) ⟨_, rfl, fun y => ⟨h2.2.2.1.at, c_endT h2.2.2.1 (by omega) hr2 (Or.inr (lz_rd_z _ _ _ hr)) ⟨_, rfl, ?_⟩⟩, fun y => ?_⟩⟩
      · rw [if_neg (not_not_intro y)] at kk
        exact hlast m2 e hr3 (lz_rd_z _ _ _ hr2) kk
      · rw [if_pos y] at kk
        exact hlast m m2 hr2 (lz_rd_z _ _ _ hr) kk
    · rw [if_pos (lz_b1.mp x)] at kk
      exact kk hs2 ⟨A2, wq2, L2, g1, g2, fun i hi => g3 i (by omega), g4, g5⟩
  · rw [if_pos (lz_b1.mp z)] at kk
    exact kk hs2 ⟨A2, wq2, L2, g1, g2, fun i hi => g3 i (by omega), g4, g5⟩
theorem c_workTry {m : Nat} (hF : lb_WF l G b T f n) (hfo : lz_fok T f) (hk : k + 1 ≤ 8) (hr : lz_rd t k (p + 1) = (true, m)) (hr2 : lz_rd t k m = (true, e)) (hc : lz_cd t p ≠ 68) (h : lb_pre hs b T A wq L w a t n (d + 2) o (k + 1)) (kk : ∀ hs2, lb_post hs b T L w o (lz_try f t p w) hs2 → Q (some (.long (lz_try f t p w).1)) hs2) : mx_C mx_S0 l G (d + 1) mm_LBWorker_workTry [.ref (b + 7), .ref a, .int (nI p), .int (nI o)] hs Q := by
  have h1 := h.child hk
  obtain ⟨d, rfl⟩ : ∃ d', d = d' + 45 := ⟨d - 45, by have := h.2.2.2.2.2.2; omega⟩
  have s1 := hfo t (p + 1) k m w (by omega) hr h.1.ok
  refine wp_LBWorker_workTry_0 _ _ _ _ ⟨⟨_, h.1.at⟩, ?_⟩
  rw [nI_1 p, nI_1 o]
  refine hF _ hs A wq L w a t (p + 1) k m (o + 1) _ (by omega) hr (Or.inr hc) h1 (fun hs2 g => ⟨_, rfl, ?_⟩)
  obtain ⟨A2, wq2, L2, g1, g2, g3, g4, g5⟩ := g
  unfold lz_try at kk
  simp only at kk
  refine c_canBeMadeGood ⟨_, rfl, fun z => ?_, fun z => ?_⟩
  · rw [if_neg (by rw [lz_b1.mp z]; decide), lz_nd_eq (by omega) hr] at kk
    have h2 := h1.next s1 g1 g2
    have s2 := hfo t m k e ((f t (p + 1) w).2.1, (f t (p + 1) w).2.2.1, (f t (p + 1) w).2.2.2.1 + 1, (f t (p + 1) w).2.2.2.2) (by omega) hr2 s1.1
    refine ⟨_, ⟨_, h2.1.at, rfl⟩, _, h2.1.at, fun hs3 e3 => ?_⟩
    rw [nI_1 (f t (p + 1) w).2.2.2.1] at e3
    have g1' : lb_wk hs3 b T A2 wq2 L2 ((f t (p + 1) w).2.1, (f t (p + 1) w).2.2.1, (f t (p + 1) w).2.2.2.1 + 1, (f t (p + 1) w).2.2.2.2) := by
      rw [e3]
      exact g1.nums _ _
    have fr3 : mx_fr lb_kw hs2 hs3 := by
      rw [e3]
      exact mx_fr.st h2.1.at rfl
    have z3 : hs3.2 = hs2.2 := by
      rw [e3]
      rfl
    have h3 : lb_pre hs3 b T A2 wq2 L2 ((f t (p + 1) w).2.1, (f t (p + 1) w).2.2.1, (f t (p + 1) w).2.2.2.1 + 1, (f t (p + 1) w).2.2.2.2) a t n (d + 45) (o + 1) k := by
      obtain ⟨q1, q2, q3, q4, q5, q6, q7⟩ := h2
      exact ⟨g1', q2.fr fr3 (fun _ _ => rfl), q3.fr fr3, q4, q5, q6, q7⟩
    refine ⟨h3.2.2.1.at, c_endT h3.2.2.1 (by omega) hr (Or.inr hc) ⟨_, rfl, ⟨_, h3.1.at⟩, ?_⟩⟩
    refine hF _ hs3 A2 wq2 L2 _ a t m k e (o + 1) _ (by omega) hr2 (Or.inr (lz_rd_z _ _ _ hr)) h3 (fun hs4 g' => ⟨_, rfl, kk hs4 ?_⟩)
    exact lb_post.tr (r := (0, ((f t (p + 1) w).2.1, (f t (p + 1) w).2.2.1, (f t (p + 1) w).2.2.2.1 + 1, (f t (p + 1) w).2.2.2.2))) (o := o) (g2.tr fr3) (fun i hi => g3 i (by omega)) (by rw [z3]; exact g4) (by rw [z3]; exact g5) (by omega) s1.2.1 s2.2.1 g'
  · rw [if_pos (lz_b0.mp (Decidable.not_not.mp z))] at kk
    exact kk hs2 ⟨A2, wq2, L2, g1, g2, fun i hi => g3 i (by omega), g4, g5⟩
theorem c_workResult (hF : lb_WF l G b T f n) (hfo : lz_fok T f) (hk : k + 1 ≤ 8) (hr : lz_rd t k (p + 1) = (true, e)) (hc : lz_cd t p ≠ 68) (h : lb_pre hs b T A wq L w a t n (d + 2) o (k + 1)) (kk : ∀ hs2, lb_post hs b T L w o (lz_result f t p w) hs2 → Q (some (.long (lz_result f t p w).1)) hs2) : mx_C mx_S0 l G (d + 1) mm_LBWorker_workResult [.ref (b + 7), .ref a, .int (nI p), .int (nI o)] hs Q := by
  have h1 := h.child hk
  obtain ⟨d, rfl⟩ : ∃ d', d = d' + 45 := ⟨d - 45, by have := h.2.2.2.2.2.2; omega⟩
  have s1 := hfo t (p + 1) k e w (by omega) hr h.1.ok
  refine wp_LBWorker_workResult_0 _ _ _ _ ⟨⟨_, h.1.at⟩, ?_⟩
  rw [nI_1 p, nI_1 o]
  refine hF _ hs A wq L w a t (p + 1) k e (o + 1) _ (by omega) hr (Or.inr hc) h1 (fun hs2 g => ⟨_, rfl, ?_⟩)
  obtain ⟨A2, wq2, L2, g1, g2, g3, g4, g5⟩ := g
  unfold lz_result at kk
  simp only at kk
  refine c_isFailure ⟨_, rfl, fun z => ?_, fun z => ?_⟩
  · have hb := lz_b0.mp z
    rw [if_neg (by rw [hb]; decide)] at kk
    refine c_isPlan ⟨_, rfl, fun x => ?_, fun x => ?_⟩
    · rw [if_neg (by rw [lz_b0.mp x]; decide)] at kk
      exact kk hs2 ⟨A2, wq2, L2, g1, g2, fun i hi => g3 i (by omega), g4, g5⟩
    · rw [if_pos (lz_b1.mp x)] at kk
      have hV : lz_V (f t (p + 1) w).2.2.2.2.2.1 (f t (p + 1) w).1 := s1.2.2.1.resolve_left (by rw [hb]; decide)
      refine ⟨_, ⟨_, g1.at, rfl⟩, ⟨_, g1.sto.at⟩, c_partOf g1.sto hV (by omega) (fun hs3 q1 q2 q3 => ⟨_, rfl, kk hs3 ⟨A2, wq2, L2, ?_, g2.tr (q2.mono ?_), fun i hi => g3 i (by omega), ?_, ?_⟩⟩)⟩
      · have e1 := (lz_pt_sm 30 (f t (p + 1) w).2.2.2.2 (f t (p + 1) w).1).1
        obtain ⟨u1, u2, u3, u4, u5, u6, u7, u8⟩ := g1
        exact ⟨q2.1 _ _ u1 rfl, q2.1 _ _ u2 rfl, fun i hi => q2.1 _ _ (u3 i hi) rfl, q2.1 _ _ u4 rfl, u5, q1, fun i hi => u7 i (by rw [← e1]; exact hi), u8.mono q1.ok (Nat.le_of_eq e1.symm)⟩
      · intro k' hk'
        unfold lb_kw at hk'
        unfold lb_kb
        simp only [Bool.and_eq_true] at hk' ⊢
        exact ⟨hk'.1.1.1.1.2, hk'.1.1.1.2⟩
      · show hs3.2.1 = hs.2.1 + 2 * ((lz_pt 30 (f t (p + 1) w).2.2.2.2 (f t (p + 1) w).1).2.2.1 - w.2.2.2.2.1)
        rw [(lz_pt_sm 30 (f t (p + 1) w).2.2.2.2 (f t (p + 1) w).1).1, q3]
        exact g4
      · show hs3.2.2 ≤ hs.2.2 + 10 * ((lz_pt 30 (f t (p + 1) w).2.2.2.2 (f t (p + 1) w).1).2.2.1 - w.2.2.2.2.1)
        rw [(lz_pt_sm 30 (f t (p + 1) w).2.2.2.2 (f t (p + 1) w).1).1, q3]
        exact g5
  · rw [if_pos (lz_b1.mp z)] at kk
    exact kk hs2 ⟨A2, wq2, L2, g1, g2, fun i hi => g3 i (by omega), g4, g5⟩
/-- the list of a D -/
theorem lb_wp_loop (hF : lb_WF l G b T f n) (hfo : lz_fok T f) (hk : k + 1 ≤ 8) {mk : Nat} (hmk : mk < 10) (hcd : lz_cd t (p + 1) - 48 = nI mk) (hp : p < 2 ^ 20) (ho : o ≤ 72) (hd : 46 ≤ d) : ∀ (m q : Nat) (vs : List Int64) (hs : mx_H) (A : Nat → Nat) (wq : Nat → Int32) (L : List Int64) (w : lz_W), m + vs.length = 4 → lz_ls (lz_rd t k) t m q = (true, e) → lz_cd t (q - 1) ≠ 68 → lb_pre hs b T A wq L w a t n d (o + 1) k → (∀ i, i < vs.length → L[4 * o + i]? = vs[i]?) → (∀ v ∈ vs, lz_V w.2.2.2.2.1 v) →
    (∀ hs2, lb_post hs b T L w o (if lz_bad (lz_list f t m q vs w).1 = true then ((lz_list f t m q vs w).1, (lz_list f t m q vs w).2.2) else ((lz_of (lz_list f t m q vs w).2.2.2.2.2 (nI mk) (lz_list f t m q vs w).2.1).1, ((lz_list f t m q vs w).2.2.1, (lz_list f t m q vs w).2.2.2.1, (lz_list f t m q vs w).2.2.2.2.1, (lz_of (lz_list f t m q vs w).2.2.2.2.2 (nI mk) (lz_list f t m q vs w).2.1).2))) hs2 → Q (some (.long (if lz_bad (lz_list f t m q vs w).1 = true then ((lz_list f t m q vs w).1, (lz_list f t m q vs w).2.2) else ((lz_of (lz_list f t m q vs w).2.2.2.2.2 (nI mk) (lz_list f t m q vs w).2.1).1, ((lz_list f t m q vs w).2.2.1, (lz_list f t m q vs w).2.2.2.1, (lz_list f t m q vs w).2.2.2.2.1, (lz_of (lz_list f t m q vs w).2.2.2.2.2 (nI mk) (lz_list f t m q vs w).2.1).2))).1)) hs2) →
    mx_Ok mx_S0 l G (d + 1) mm_LBWorker_workPlan 13 [(0, .ref (b + 7)), (1, .ref a), (2, .int (nI p)), (3, .int (nI o)), (4, .int (nI (4 * o))), (5, .int (nI vs.length)), (6, .int (nI q))] [] hs Q := by
  have hend : ∀ (vs : List Int64) (hs : mx_H) (A : Nat → Nat) (wq : Nat → Int32) (L : List Int64) (w : lz_W), vs.length ≤ 4 → lb_pre hs b T A wq L w a t n d (o + 1) k → (∀ i, i < vs.length → L[4 * o + i]? = vs[i]?) → (∀ v ∈ vs, lz_V w.2.2.2.2.1 v) → (∀ hs2, lb_post hs b T L w o ((lz_of w.2.2.2 (nI mk) vs).1, (w.1, w.2.1, w.2.2.1, (lz_of w.2.2.2 (nI mk) vs).2)) hs2 → Q (some (.long (lz_of w.2.2.2 (nI mk) vs).1)) hs2) → mx_Ok mx_S0 l G (d + 1) mm_LBWorker_workPlan 79 [(0, .ref (b + 7)), (1, .ref a), (2, .int (nI p)), (4, .int (nI (4 * o))), (5, .int (nI vs.length))] [] hs Q := by
    intro vs hs A wq L w hvl h hL hV kk
    obtain ⟨d, rfl⟩ : ∃ d', d = d' + 2 := ⟨d - 2, by omega⟩
    obtain ⟨u1, u2, u3, u4, u5, u6, u7, u8⟩ := h.1
    have evs : (L.drop (4 * o)).take vs.length = vs := by
      apply List.ext_getElem?
      intro i
      rw [List.getElem?_take]
      by_cases hi : i < vs.length
      · rw [if_pos hi, List.getElem?_drop]
        exact hL i hi
      · rw [if_neg hi, List.getElem?_eq_none (by omega)]
    refine wp_LBWorker_workPlan_79 _ _ _ _ _ ⟨_, ⟨_, u1, rfl⟩, h.2.2.1.at, ?_⟩
    rw [nI_1 p]
    refine c_codeT h.2.2.1 (by omega) ⟨_, rfl, _, ⟨_, u1, rfl⟩, ⟨_, u6.at⟩, ?_⟩
    rw [hcd]
    have z := lz_of_st u6.ok hmk hvl hV
    refine c_planOf u6 u4 (by omega) (by omega) hvl hmk (by rw [evs]; exact hV) ?_
    rw [evs]
    intro hs2 A2 wq2 q1 q2 q3 q4 q5
    refine ⟨_, rfl, kk hs2 ⟨A2, wq2, L, ⟨q2.1 _ _ u1 rfl, q2.1 _ _ u2 rfl, fun i hi => q2.1 _ _ (u3 i hi) rfl, q2.1 _ _ u4 rfl, u5, q1, fun i hi => ?_, u8.mono z.1 z.2.1⟩, q2.mono ?_, fun _ _ => rfl, q3, q4⟩⟩
    · have w41 := u6.wf _ _ u4
      rcases q5 i hi with ⟨x1, x2⟩ | x
      · rw [x2]
        exact u7 i x1
      · omega
    · intro k' hk'
      unfold lb_kw at hk'
      unfold lb_kn
      simp only [Bool.and_eq_true] at hk' ⊢
      exact ⟨hk'.1.1.1.2, hk'.2⟩
  intro m
  induction m with
  | zero =>
    intro q vs hs A wq L w hm hr hz h hL hV kk
    rw [lz_list, if_neg (show ¬ lz_bad 0 = true by decide)] at kk
    refine wp_LBWorker_workPlan_13 _ _ _ _ _ _ _ ⟨fun _ => hend vs hs A wq L w (by omega) h hL hV kk, fun c => absurd (nI_le (a := 4) (by omega) (by omega)) c⟩
  | succ m ih =>
    intro q vs hs A wq L w hm hr hz h hL hV kk
    have htl := h.2.2.1.len
    have hb := lz_ls_b (lz_rd_b k) _ _ _ hr
    obtain ⟨d, rfl⟩ : ∃ d', d = d' + 2 := ⟨d - 2, by omega⟩
    refine wp_LBWorker_workPlan_13 _ _ _ _ _ _ _ ⟨fun c => absurd c (nI_ge (b := 4) (by omega) (by omega)), fun _ => ⟨h.2.2.1.at, c_codeT h.2.2.1 (by omega) ⟨_, rfl, fun c => ?_, fun c => ⟨⟨_, h.1.at⟩, ?_⟩⟩⟩⟩
    · rw [lz_list, if_pos c, if_neg (show ¬ lz_bad 0 = true by decide)] at kk
      exact hend vs hs A wq L w (by omega) h hL hV kk
    rw [nI_1 o]
    obtain ⟨g1, g2⟩ := lz_ls_s hr c
    have s1 := hfo t q k _ w (by omega) g1 h.1.ok
    refine hF _ hs A wq L w a t q k _ (o + 1) _ (by omega) g1 (Or.inr hz) h (fun hs2 g => ⟨_, rfl, ?_⟩)
    obtain ⟨A2, wq2, L2, p1, p2, p3, p4, p5⟩ := g
    rw [lz_list, if_neg c] at kk
    refine c_isFailure ⟨_, rfl, fun z => ?_, fun z => ?_⟩
    · have hbad := lz_b0.mp z
      rw [if_neg (show ¬ lz_bad (f t q w).1 = true by rw [hbad]; decide)] at kk
      have h2 := h.next s1 p1 p2
      have hL2 := p1.2.2.2.2.1
      refine ⟨_, ⟨_, p1.at, rfl⟩, _, p1.2.2.2.1, by rw [nI_add]; exact nI_pos (by omega), by rw [nI_add, nI_clamp (by omega), List.length_map]; omega, fun hs3 e3 => ?_⟩
      rw [nI_add, nI_clamp (by omega), ← List.map_set] at e3
      have p1' : lb_wk hs3 b T A2 wq2 (L2.set (4 * o + vs.length) (f t q w).1) (f t q w).2 := by
        rw [e3]
        exact p1.lset _ _
      have fr3 : mx_fr lb_kw hs2 hs3 := by
        rw [e3]
        exact mx_fr.st p1.2.2.2.1 rfl
      have z3 : hs3.2 = hs2.2 := by
        rw [e3]
        rfl
      have h3 : lb_pre hs3 b T A2 wq2 (L2.set (4 * o + vs.length) (f t q w).1) (f t q w).2 a t n (d + 2) (o + 1) k := by
        obtain ⟨q1, q2, q3, q4, q5, q6, q7⟩ := h2
        exact ⟨p1', q2.fr fr3 (fun _ _ => rfl), q3.fr fr3, q4, q5, q6, q7⟩
      refine ⟨h3.2.2.1.at, c_endT h3.2.2.1 (by omega) g1 (Or.inr hz) ⟨_, rfl, ?_⟩⟩
      rw [nI_1 vs.length, show vs.length + 1 = (vs ++ [(f t q w).1]).length by simp]
      rw [lz_nd_eq (by omega) g1] at kk
      have hbq := lz_rd_b _ _ _ g1
      refine ih (lz_rd t k q).2 (vs ++ [(f t q w).1]) hs3 A2 wq2 _ _ (by simp; omega) g2 (lz_rd_z _ _ _ g1) h3 (fun i hi => ?_) (fun v hv => ?_) (fun hs4 g' => kk hs4 ?_)
      · have hi : i < vs.length + 1 := by simpa using hi
        by_cases hi2 : i = vs.length
        · subst hi2
          rw [List.getElem?_set_self (by omega), List.getElem?_append_right (Nat.le_refl _), Nat.sub_self]
          rfl
        · rw [List.getElem?_set_ne (by omega), List.getElem?_append_left (by omega), p3 _ (by omega)]
          exact hL i (by omega)
      · rcases List.mem_append.mp hv with y | y
        · exact (hV v y).mono s1.2.1
        · rw [List.mem_singleton.mp y]
          exact s1.2.2.1.resolve_left (by rw [hbad]; decide)
      · have gm : (f t q w).2.2.2.2.2.1 ≤ (if lz_bad (lz_list f t m (lz_rd t k q).2 (vs ++ [(f t q w).1]) (f t q w).2).1 = true then ((lz_list f t m (lz_rd t k q).2 (vs ++ [(f t q w).1]) (f t q w).2).1, (lz_list f t m (lz_rd t k q).2 (vs ++ [(f t q w).1]) (f t q w).2).2.2) else ((lz_of (lz_list f t m (lz_rd t k q).2 (vs ++ [(f t q w).1]) (f t q w).2).2.2.2.2.2 (nI mk) (lz_list f t m (lz_rd t k q).2 (vs ++ [(f t q w).1]) (f t q w).2).2.1).1, ((lz_list f t m (lz_rd t k q).2 (vs ++ [(f t q w).1]) (f t q w).2).2.2.1, (lz_list f t m (lz_rd t k q).2 (vs ++ [(f t q w).1]) (f t q w).2).2.2.2.1, (lz_list f t m (lz_rd t k q).2 (vs ++ [(f t q w).1]) (f t q w).2).2.2.2.2.1, (lz_of (lz_list f t m (lz_rd t k q).2 (vs ++ [(f t q w).1]) (f t q w).2).2.2.2.2.2 (nI mk) (lz_list f t m (lz_rd t k q).2 (vs ++ [(f t q w).1]) (f t q w).2).2.1).2))).2.2.2.2.2.1 := by
          obtain ⟨q1, q2, q3⟩ := lz_list_st hfo (t := t) (k := k) (by omega) m (lz_rd t k q).2 e (vs ++ [(f t q w).1]) (f t q w).2 g2 (by simp; omega) (fun v hv => by
            rcases List.mem_append.mp hv with y | y
            · exact (hV v y).mono s1.2.1
            · rw [List.mem_singleton.mp y]
              exact s1.2.2.1.resolve_left (by rw [hbad]; decide)) s1.1
          split
          · exact q1.2.1
          · exact Nat.le_trans q1.2.1 (lz_of_st q1.1.2 hmk q2 q3).2.1
        exact lb_post.tr (r := f t q w) (o := o) (o2 := o) (p2.tr fr3) (fun i hi => by rw [List.getElem?_set_ne (by omega)]; exact p3 i (by omega)) (by rw [z3]; exact p4) (by rw [z3]; exact p5) (Nat.le_refl _) s1.2.1 gm g'
    · have hbad := lz_b1.mp z
      rw [if_pos hbad] at kk
      simp only [if_pos hbad] at kk
      exact kk hs2 ⟨A2, wq2, L2, p1, p2, fun i hi => p3 i (by omega), p4, p5⟩
end CW2
