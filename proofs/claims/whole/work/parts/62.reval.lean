/-! THE REFERENCE works an EXPRESSION out. -/
def fcd (v : Int64) (x : Int32) : Prop := (v = -1000000000004 ∧ x = -4) ∨ (v = -1000000000005 ∧ x = -5) ∨ (v = -1000000000006 ∧ x = -6) ∨ (v = -1000000000007 ∧ x = -7) ∨ (v = -1000000000008 ∧ x = -8) ∨ (v = -1000000000009 ∧ x = -9) ∨ (v = -1000000000010 ∧ x = -10)
theorem fcd.nz {v : Int64} {x : Int32} (h : fcd v x) : ¬ x = 0 := by
  rcases h with ⟨-, rfl⟩ | ⟨-, rfl⟩ | ⟨-, rfl⟩ | ⟨-, rfl⟩ | ⟨-, rfl⟩ | ⟨-, rfl⟩ | ⟨-, rfl⟩ <;> decide
theorem fcd.good {v : Int64} {x : Int32} (h : fcd v x) (g : lz_good v = true) : ¬ -4 < x ∧ ¬ x < -7 := by
  rcases h with ⟨rfl, rfl⟩ | ⟨rfl, rfl⟩ | ⟨rfl, rfl⟩ | ⟨rfl, rfl⟩ | ⟨rfl, rfl⟩ | ⟨rfl, rfl⟩ | ⟨rfl, rfl⟩ <;> first | decide | exact absurd g (by decide)
theorem fcd.hard {v : Int64} {x : Int32} (h : fcd v x) (g : lz_good v = false) : x < -7 ∨ -4 < x := by
  rcases h with ⟨rfl, rfl⟩ | ⟨rfl, rfl⟩ | ⟨rfl, rfl⟩ | ⟨rfl, rfl⟩ | ⟨rfl, rfl⟩ | ⟨rfl, rfl⟩ | ⟨rfl, rfl⟩ <;> first | decide | exact absurd g (by decide)
theorem lz_V.no {n : Nat} {v : Int64} (hn : n ≤ 30) (h : lz_V n v) : ¬ v = -1000000000000 := by
  rintro rfl
  rcases h with ⟨x, hx⟩ | ⟨j, hj, hx⟩
  · have := congrArg Int64.toInt hx
    rw [Int32.toInt_toInt64] at this
    have h1 := Int32.le_toInt x
    rw [show (-1000000000000 : Int64).toInt = -1000000000000 from rfl] at this
    simp at h1
    omega
  · have := congrArg Int64.toInt hx
    rw [lz_pv_T (by omega)] at this
    rw [show (-1000000000000 : Int64).toInt = -1000000000000 from rfl] at this
    omega
def fr (m : rm_M) (F : Nat) (c : Int32) (s a q : Nat) : Prop := m.1 12 F = c ∧ m.1 13 F = nI s ∧ m.1 14 F = nI a ∧ m.1 15 F = nI q
theorem fr.up {m m' : rm_M} {F : Nat} {c : Int32} {s a q : Nat} (h : fr m F c s a q) (g : fq (F + 1) m m') : fr m' F c s a q := ⟨(g.1 12 F (by omega) (by omega) (by omega)).trans h.1, (g.1 13 F (by omega) (by omega) (by omega)).trans h.2.1, (g.1 14 F (by omega) (by omega) (by omega)).trans h.2.2.1, (g.1 15 F (by omega) (by omega) (by omega)).trans h.2.2.2⟩
section REV
variable {l : Launch} {G : mx_G} {r d : Nat} {m0 m : rm_M} {T : Nat → List Int32} {w : lz_W} {F : Nat} {Q : Option Value → rm_M → Prop}
/-- what goes on behind a working out -/
def rK (l : Launch) (G : mx_G) (r d : Nat) (m0 : rm_M) (T : Nat → List Int32) (F : Nat) (m : rm_M) (Q : Option Value → rm_M → Prop) (x : Int64 × lz_W) : Prop :=
  (lz_bad x.1 = false → ∀ m2, ms m0 T m2 x.2 F → m2.2.2.1 22 = 0 → m2.2.2.1 17 = 0 → m2.2.2.2 = x.1 → fq F m m2 → rL l G r d m2 Q) ∧
  (lz_bad x.1 = true → ∀ m2, ms m0 T m2 x.2 F → fcd x.1 (m2.2.2.1 22) → fq F m m2 → rF l G r d F m2 Q)
theorem rK.go {m1 : rm_M} {x : Int64 × lz_W} (h : rK l G r d m0 T F m Q x) (g : fq F m m1) : rK l G r d m0 T F m1 Q x := ⟨fun z m2 a b c e k => h.1 z m2 a b c e (g.tr k), fun z m2 a b k => h.2 z m2 a b (g.tr k)⟩
theorem rK.fl {m1 : rm_M} {x : Int64 × lz_W} (h : rK l G r d m0 T F m Q x) (z : lz_bad x.1 = true) (hF : F < 99) (a : ms m0 T m1 x.2 F) (b : fcd x.1 (m1.2.2.1 22)) (g : fq F m m1) : rL l G r d m1 Q := (h.2 z m1 a b g).toL a.2.2 (by omega) b.nz
def rE (l : Launch) (G : mx_G) (r d : Nat) (m0 : rm_M) (T : Nat → List Int32) (f : lz_F) (N : Nat) (Q : Option Value → rm_M → Prop) : Prop :=
  ∀ (t : List Int32) (s p k e F : Nat) (m : rm_M) (w : lz_W), s ≤ 9 → k ≤ 8 → lz_rd t k p = (true, e) → rx_t m s t → ms m0 T m w F → 200 ≤ w.2.1 + N → w.2.1 ≤ 200 → F + k ≤ 9 * lz_bz w + 8 → m.2.2.1 22 = 0 → rK l G r d m0 T F m Q (f t p w) → rB l G r d (nI s) (nI p) m Q
theorem rSub {f : lz_F} {N : Nat} {c : Int32} {s a e k q : Nat} {t : List Int32} (ih : rE l G r d m0 T f N Q) (hc : lz_lt c = false) (hF : F < 99) (hfr : fr m F c s a q) (hq : q < 4) (hx : rx_t m s t) (hs : s ≤ 9) (hk : k ≤ 8) (hr : lz_rd t k a = (true, e)) (hm : ms m0 T m w (F + 1)) (hn : 200 ≤ w.2.1 + N) (h2 : w.2.1 ≤ 200) (hb : F + 1 + k ≤ 9 * lz_bz w + 8) (h22 : m.2.2.1 22 = 0)
    (ks : lz_bad (f t a w).1 = false → ∀ m3, ms m0 T m3 (f t a w).2 (F + 1) → m3.2.2.1 22 = 0 → fq F m m3 → fr m3 F c s e (q + 1) → m3.2.1 18 (F * 4 + q) = (f t a w).1 → (∀ i, i < q → m3.2.1 18 (F * 4 + i) = m.2.1 18 (F * 4 + i)) → m3.1 16 F = m.1 16 F → rP l G r d m3 Q)
    (kf : lz_bad (f t a w).1 = true → ∀ m3, ms m0 T m3 (f t a w).2 (F + 1) → fcd (f t a w).1 (m3.2.2.1 22) → fq F m m3 → fr m3 F c s e q → rU l G r d m3 Q) : r129 l G r d F c (nI s) 1 m Q := by
  obtain ⟨f1, f2, f3, f4⟩ := hfr
  refine r129_more hc hF hx hs hk hr f3 (fun m1 e1 => ?_)
  have q1 : rq m m1 := by rw [e1]; exact rq.ii rfl
  have g1 : fq F m m1 := by
    rw [e1]
    exact ⟨fun k j h1 h2 h3 => by simp only [rs_i]; rw [if_neg (by omega)], fun _ _ => rfl⟩
  have hm1 : ms m0 T m1 w (F + 1) := hm.q q1 (by rw [e1]; exact hm.2.2)
  have a1 : fr m1 F c s e q := ⟨by rw [e1]; exact f1, by rw [e1]; exact f2, by rw [e1]; simp [rs_i], by rw [e1]; exact f4⟩
  refine ih t s a k e (F + 1) m1 w hs hk hr (hx.q q1) hm1 hn h2 hb (by rw [e1]; exact h22) ⟨fun z m2 b1 b2 b3 b4 b5 => ?_, fun z m2 b1 b2 b3 => ?_⟩
  · have a2 := a1.up b5
    refine rL_val b1.2.2 hF b2 b3 a2.2.2.2 hq (fun m3 e3 => ks z m3 (b1.q (rq.tr (m2 := rs_l m2 18 (F * 4 + q) m2.2.2.2) (rq.ll (by decide) (by decide)) (by rw [e3]; exact rq.ii rfl)) (by rw [e3]; exact b1.2.2)) (by rw [e3]; exact b2) (g1.tr ((b5.mono (by omega)).tr ?_)) ⟨by rw [e3]; exact a2.1, by rw [e3]; exact a2.2.1, by rw [e3]; exact a2.2.2.1, by rw [e3]; simp [rs_i]⟩ (by rw [e3]; simp [rs_i, rs_l]; exact b4) (fun i hi => ?_) ?_)
    · rw [e3]
      refine ⟨fun k j h1 h2 h3 => by simp only [rs_i, rs_l]; rw [if_neg (by omega)], fun i hi => by simp only [rs_i, rs_l]; rw [if_neg (by omega)]⟩
    · rw [e3]
      simp only [rs_i, rs_l]
      rw [if_neg (by omega), b5.2 _ (by omega), e1]
      rfl
    · rw [e3]
      show m2.1 16 F = _
      rw [b5.1 16 F (by omega) (by omega) (by omega), e1]
      rfl
  · unfold rF
    rw [if_neg (Nat.succ_ne_zero F)]
    exact kf z m2 b1 b2 (g1.tr (b3.mono (by omega))) (a1.up b3)
theorem rFail {c : Int32} (hF : F < 99) (hm : ms m0 T m w (F + 1)) (hc : m.1 12 F = c) (hn : lz_lt c = false) (hT : c = 84 → ¬ m.1 15 F = 0 ∨ m.2.2.1 22 < -7 ∨ -4 < m.2.2.1 22) (k : ∀ m2, ms m0 T m2 w F → m2.2.2.1 22 = m.2.2.1 22 → fq F m m2 → rF l G r d F m2 Q) : rU l G r d m Q :=
  rU_pass hm.2.2 hF hc hn hT (fun m1 e1 => k m1 (by rw [e1]; exact hm.q (rq.ss rfl) (by simp [rs_s])) (by rw [e1]; rfl) (by rw [e1]; exact ⟨fun _ _ _ _ _ => rfl, fun _ _ => rfl⟩))
theorem rPush {c : Int32} {s p : Nat} {t : List Int32} (hm : ms m0 T m w F) (hF : F < 99) (hx : rx_t m s t) (hs : s ≤ 9) (hp : p < t.length) (hD : c = 68 → p + 1 < t.length) (h22 : m.2.2.1 22 = 0) (k : ∀ m1, ms m0 T m1 w (F + 1) → m1.2.2.1 22 = 0 → fq F m m1 → fr m1 F c s (p + if c = 68 then 3 else 1) 0 → (c = 68 → m1.1 16 F = lz_cd t (p + 1) - 48) → rP l G r d m1 Q) : mr_Ok l G r (d + 7) mm_RM_begin 82 [(0, .ref r), (1, .int (nI s)), (2, .int (nI p)), (3, .int c)] [] m (fun v m' => v = none ∧ rL l G r d m' Q) :=
  r_lay (d := d + 6) hm.2.2 hF hx hs hp hD h22 (fun m1 q1 q2 q3 q4 q5 q6 q7 q8 q9 q10 => ⟨rfl, rL_push q2 hF q3 q4 (k m1 (hm.q q1 q2) q3 q5 ⟨q6, q7, q8, q9⟩ q10)⟩)
theorem rP_op {c : Int32} {s a q : Nat} (h19 : m.2.2.1 19 = nI (F + 1)) (hF : F < 99) (hfr : fr m F c s a q) (hq : q ≤ 4) (hl : lz_lt c = false) (h68 : ¬ c = 68) (h63 : ¬ c = 63) (h84 : ¬ c = 84) (k0 : lz_pa c ≤ q → r129 l G r d F c (nI s) 0 m Q) (k1 : q < lz_pa c → r129 l G r d F c (nI s) 1 m Q) : rP l G r d m Q := by
  have := lz_pa_le c
  refine rP_go h19 hF hfr.1 hfr.2.1 (fun z => by rw [hl] at z; cases z) (fun z => absurd z h68) (fun z => z.elim (fun z => absurd z h63) (fun z => absurd z h84)) (fun _ _ _ _ => ⟨fun z => k0 ?_, fun z => k1 ?_⟩)
  · rw [hfr.2.2.2] at z
    exact (nI_leI (by omega) (by omega)).mp z
  · rw [hfr.2.2.2] at z
    exact Nat.lt_of_not_le (fun y => z (nI_le y (by omega)))
theorem rP_q {c : Int32} {s a q : Nat} (h19 : m.2.2.1 19 = nI (F + 1)) (hF : F < 99) (hfr : fr m F c s a q) (hq : q ≤ 4) (hc : c = 63 ∨ c = 84) (k0 : q ≠ 0 → r129 l G r d F c (nI s) 0 m Q) (k1 : q = 0 → r129 l G r d F c (nI s) 1 m Q) : rP l G r d m Q := by
  refine rP_go h19 hF hfr.1 hfr.2.1 (fun z => by rcases hc with rfl | rfl <;> exact absurd z (by decide)) (fun z => by rcases hc with rfl | rfl <;> exact absurd z (by decide)) (fun _ => ⟨fun z => k0 ?_, fun z => k1 ?_⟩) (fun _ _ h1 h2 => hc.elim (fun z => absurd z h1) (fun z => absurd z h2))
  · rw [hfr.2.2.2] at z
    rintro rfl
    exact z rfl
  · rw [hfr.2.2.2] at z
    exact (nI_eq (b := 0) (by omega) (by omega)).mp z
theorem rdn.q : rq m (rdn m F) := rq.tr (m2 := rs_s (rs_s m 19 (nI F)) 17 0) (rq.tr (m2 := rs_s m 19 (nI F)) (rq.ss rfl) (rq.ss rfl)) rq.rr
theorem rdn.f {K : Nat} : fq K m (rdn m F) := ⟨fun _ _ _ _ _ => rfl, fun _ _ => rfl⟩
theorem rdn.ms (h : ms m0 T m w (F + 1)) : ms m0 T (rdn m F) w F := h.q rdn.q (by simp [rdn, rs_s, rs_r])
theorem rdn.x (h : m.2.2.1 22 = 0) : (rdn m F).2.2.1 22 = 0 := h
theorem rdn.p : (rdn m F).2.2.1 17 = 0 := by simp [rdn, rs_s, rs_r]
theorem r129_dn {c s : Int32} (hl : lz_lt c = false) (hf : m.2.2.1 19 = nI (F + 1)) (hF : F < 99)
    (kq : c = 63 → mr_C l G r (d + 7) mm_RM_isNumber [.long (m.2.1 18 (F * 4))] (rdn m F) (fun r12 m13 => ∃ x14 : Int32, r12 = some (.int x14) ∧ ((¬ x14 = 0 → ((m13.2.2.2 = 0 → (mr_C l G r (d + 7) mm_RM_behind [.int s, .int (m13.1 14 F)] m13 (fun r15 m16 => ∃ x17 : Int32, r15 = some (.int x17) ∧ rB l G r d s x17 m16 Q))) ∧ (¬ (m13.2.2.2 = 0) → rB l G r d s (m13.1 14 F) m13 Q))) ∧ (¬ (¬ x14 = 0) → ∀ m18, m18 = rs_s m13 22 (-5) → rL l G r d m18 Q))))
    (kD : c = 68 → mr_C l G r (d + 7) mm_RM_describe [.int (nI F)] (rdn m F) (fun v m' => v = none ∧ rL l G r d m' Q))
    (kO : c = 79 → mr_C l G r (d + 7) mm_RM_order [.int (nI F)] (rdn m F) (fun v m' => v = none ∧ rL l G r d m' Q))
    (kT : c = 84 → rL l G r d (rdn m F) Q)
    (k33 : c = 33 → ∀ m1, m1 = rs_l (rdn m F) 18 (F * 4 + 1) 0 → mr_C l G r (d + 7) mm_RM_operate [.int (nI F)] m1 (fun v m' => v = none ∧ rL l G r d m' Q))
    (ko : ¬ c = 63 → ¬ c = 68 → ¬ c = 79 → ¬ c = 84 → ¬ c = 33 → mr_C l G r (d + 7) mm_RM_operate [.int (nI F)] (rdn m F) (fun v m' => v = none ∧ rL l G r d m' Q)) : r129 l G r d F c s 0 m Q :=
  r129_done hf hF (fun n hn e => by rw [e, (lz_lt_c hn).1] at hl; cases hl) kq kD kO kT k33 (fun _ => ko)
theorem rK.ok {m1 : rm_M} {v : Int64} {w1 : lz_W} (h : rK l G r d m0 T F m Q (v, w1)) (z : lz_bad v = false) (a : ms m0 T m1 w1 F) (b : m1.2.2.1 22 = 0) (c : m1.2.2.1 17 = 0) (e : m1.2.2.2 = v) (g : fq F m m1) : rL l G r d m1 Q := h.1 z m1 a b c e g
/-- two EXPRESSIONS and a sign -/
theorem rPair {f : lz_F} {N : Nat} {c : Int32} {s p e k : Nat} {t : List Int32} (ih : rE l G r d m0 T f N Q) (hfo : lz_fok T f) (hcd : lz_cd t p = c) (hl : lz_lt c = false) (h68 : ¬ c = 68) (h63 : ¬ c = 63) (h84 : ¬ c = 84) (h33 : ¬ c = 33) (h79 : ¬ c = 79) (hpa : lz_pa c = 2) (hx : rx_t m s t) (hs : s ≤ 9) (hk : k ≤ 8) (hp : p < t.length) (hr : lz_ps (lz_rd t k) 2 (p + 1) = (true, e)) (hm : ms m0 T m w F) (hn : 200 ≤ w.2.1 + N) (h2 : w.2.1 ≤ 200) (hb : F + 1 + k ≤ 9 * lz_bz w + 8) (h22 : m.2.2.1 22 = 0) (K : rK l G r d m0 T F m Q (lz_pair f t p w)) : mr_Ok l G r (d + 7) mm_RM_begin 82 [(0, .ref r), (1, .int (nI s)), (2, .int (nI p)), (3, .int c)] [] m (fun v m' => v = none ∧ rL l G r d m' Q) := by
  have hF : F < 99 := by have := lz_bz_le w; omega
  obtain ⟨r1, r2⟩ := lz_ps_s hr
  generalize (lz_rd t k (p + 1)).2 = e1 at r1 r2
  obtain ⟨r3, r4⟩ := lz_ps_s r2
  generalize (lz_rd t k e1).2 = e2 at r3 r4
  have hw : lz_okW T w := hm.2.1.2.2.2.2.2
  have s1 := hfo t (p + 1) k e1 w hk r1 hw
  have hnd := lz_nd_eq hk r1
  refine rPush hm hF hx hs hp (fun z => absurd z h68) h22 (fun m1 a1 a2 a3 a4 _ => ?_)
  rw [if_neg h68] at a4
  refine rP_op a1.2.2 hF a4 (by omega) hl h68 h63 h84 (fun z => by omega) (fun _ => ?_)
  refine rSub ih hl hF a4 (by omega) (hx.n hm.1 a1.1) hs hk r1 a1 hn h2 hb a2 (fun z m2 b1 b2 b3 b4 b5 b6 b7 => ?_) (fun z m2 b1 b2 b3 b4 => ?_)
  · have V1 := s1.2.2.1.resolve_left (by rw [z]; decide)
    have s2 := hfo t e1 k e2 (f t (p + 1) w).2 hk r3 s1.1
    refine rP_op b1.2.2 hF b4 (by omega) hl h68 h63 h84 (fun z => by omega) (fun _ => ?_)
    refine rSub ih hl hF b4 (by omega) (hx.n hm.1 b1.1) hs hk r3 b1 (by have := s1.2.2.2.1; omega) (by have := s1.2.2.2.2.2.2; omega) (by rw [lz_bz_eq (fun i => (s1.2.2.2.2.2.1 i).2)]; exact hb) b2 (fun z' m3 c1 c2 c3 c4 c5 c6 c7 => ?_) (fun z' m3 c1 c2 c3 c4 => ?_)
    · have V2 := s2.2.2.1.resolve_left (by rw [z']; decide)
      refine rP_op c1.2.2 hF c4 (by omega) hl h68 h63 h84 (fun _ => ?_) (fun z => by omega)
      refine r129_dn hl c1.2.2 hF (fun z => absurd z h63) (fun z => absurd z h68) (fun z => absurd z h79) (fun z => absurd z h84) (fun z => absurd z h33) (fun _ _ _ _ _ => ?_)
      have n30 : (f t e1 (f t (p + 1) w).2).2.2.2.2.2.1 ≤ 30 := s2.1.2.1
      have gg : fq F m (rdn m3 F) := a3.tr (b3.tr (c3.tr rdn.f))
      refine r_operate (d := d + 5) hF (show (rdn m3 F).1 12 F = c from c4.1) h33 (show (rdn m3 F).2.1 18 (F * 4) = _ from (c6 0 (by omega)).trans b5) (show (rdn m3 F).2.1 18 (F * 4 + 1) = _ from c5) n30 (V1.mono s2.2.1) V2 (fun y m4 e4 => ⟨rfl, ?_⟩) (fun y m4 e4 => ⟨rfl, ?_⟩)
      · rw [show lz_pair f t p w = (-1000000000005, (f t e1 (f t (p + 1) w).2).2) by simp only [lz_pair, hnd, z, z', y, Bool.false_eq_true, if_false, if_true]] at K
        refine K.fl (show lz_bad (-1000000000005) = true by decide) hF (by rw [e4]; exact (rdn.ms c1).q (rq.ss rfl) (rdn.ms c1).2.2) (Or.inr (Or.inl ⟨rfl, by rw [e4]; simp [rs_s]⟩)) (gg.tr (m3 := m4) (by rw [e4]; exact ⟨fun _ _ _ _ _ => rfl, fun _ _ => rfl⟩))
      · rw [show lz_pair f t p w = ((lz_comb c (f t (p + 1) w).1.toInt32 (f t e1 (f t (p + 1) w).2).1.toInt32).toInt64, (f t e1 (f t (p + 1) w).2).2) by simp only [lz_pair, hnd, hcd, z, z', y, Bool.false_eq_true, if_false]] at K
        refine K.ok (lz_n_bad _) (by rw [e4]; exact (rdn.ms c1).q rq.rr (rdn.ms c1).2.2) (by rw [e4]; exact rdn.x (F := F) c2) (by rw [e4]; exact rdn.p (m := m3) (F := F)) (by rw [e4]; rfl) (gg.tr (m3 := m4) (by rw [e4]; exact ⟨fun _ _ _ _ _ => rfl, fun _ _ => rfl⟩))
    · rw [show lz_pair f t p w = f t e1 (f t (p + 1) w).2 by simp only [lz_pair, hnd, z, z', Bool.false_eq_true, if_false, if_true]] at K
      exact rFail hF c1 c4.1 hl (fun z => absurd z h84) (fun m4 d1 d2 d3 => K.2 z' m4 d1 (by rw [d2]; exact c2) (a3.tr (b3.tr (c3.tr d3))))
  · rw [show lz_pair f t p w = f t (p + 1) w by simp only [lz_pair, z, if_true]] at K
    exact rFail hF b1 b4.1 hl (fun z => absurd z h84) (fun m4 d1 d2 d3 => K.2 z m4 d1 (by rw [d2]; exact b2) (a3.tr (b3.tr d3)))
/-- one EXPRESSION, and ! -/
theorem rAbort {f : lz_F} {N : Nat} {s p e k : Nat} {t : List Int32} (ih : rE l G r d m0 T f N Q) (hfo : lz_fok T f) (hx : rx_t m s t) (hs : s ≤ 9) (hk : k ≤ 8) (hp : p < t.length) (hm : ms m0 T m w F) (hn : 200 ≤ w.2.1 + N) (h2 : w.2.1 ≤ 200) (hb : F + 1 + k ≤ 9 * lz_bz w + 8) (h22 : m.2.2.1 22 = 0) (hr : lz_ps (lz_rd t k) 1 (p + 1) = (true, e)) (K : rK l G r d m0 T F m Q (lz_abort f t p w)) : mr_Ok l G r (d + 7) mm_RM_begin 82 [(0, .ref r), (1, .int (nI s)), (2, .int (nI p)), (3, .int 33)] [] m (fun v m' => v = none ∧ rL l G r d m' Q) := by
  have hF : F < 99 := by have := lz_bz_le w; omega
  have hl : lz_lt 33 = false := by decide
  obtain ⟨r1, r2⟩ := lz_ps_s hr
  generalize (lz_rd t k (p + 1)).2 = e1 at r1 r2
  refine rPush hm hF hx hs hp (fun z => absurd z (by decide)) h22 (fun m1 a1 a2 a3 a4 _ => ?_)
  rw [if_neg (by decide)] at a4
  refine rP_op a1.2.2 hF a4 (by omega) hl (by decide) (by decide) (by decide) (fun z => absurd z (by decide)) (fun _ => ?_)
  refine rSub ih hl hF a4 (by omega) (hx.n hm.1 a1.1) hs hk r1 a1 hn h2 hb a2 (fun z m2 b1 b2 b3 b4 b5 b6 b7 => ?_) (fun z m2 b1 b2 b3 b4 => ?_)
  · refine rP_op b1.2.2 hF b4 (by omega) hl (by decide) (by decide) (by decide) (fun _ => ?_) (fun z => absurd z (by decide))
    refine r129_dn hl b1.2.2 hF (fun z => absurd z (by decide)) (fun z => absurd z (by decide)) (fun z => absurd z (by decide)) (fun z => absurd z (by decide)) (fun _ m3 e3 => ?_) (fun _ _ _ _ z => absurd rfl z)
    have c1 : ms m0 T m3 (f t (p + 1) w).2 F := by rw [e3]; exact (rdn.ms b1).q (rq.ll (by decide) (by decide)) (rdn.ms b1).2.2
    have g3 : fq F m m3 := a3.tr (b3.tr (rdn.f.tr (m3 := m3) (by rw [e3]; exact ⟨fun _ _ _ _ _ => rfl, fun i hi => by simp only [rs_l]; rw [if_neg (by omega)]⟩)))
    refine r_operate33 (d := d + 5) hF (by rw [e3]; exact b4.1) (fun m4 e4 => ⟨rfl, ?_⟩)
    rw [show lz_abort f t p w = (-1000000000006, (f t (p + 1) w).2) by simp only [lz_abort, z, Bool.false_eq_true, if_false]] at K
    exact K.fl (show lz_bad (-1000000000006) = true by decide) hF (by rw [e4]; exact c1.q (rq.ss rfl) c1.2.2) (Or.inr (Or.inr (Or.inl ⟨rfl, by rw [e4]; simp [rs_s]⟩))) (g3.tr (m3 := m4) (by rw [e4]; exact ⟨fun _ _ _ _ _ => rfl, fun _ _ => rfl⟩))
  · rw [show lz_abort f t p w = f t (p + 1) w by simp only [lz_abort, z, if_true]] at K
    exact rFail hF b1 b4.1 hl (fun z => absurd z (by decide)) (fun m4 d1 d2 d3 => K.2 z m4 d1 (by rw [d2]; exact b2) (a3.tr (b3.tr d3)))
/-- O -/
theorem rResult {f : lz_F} {N : Nat} {s p e k : Nat} {t : List Int32} (ih : rE l G r d m0 T f N Q) (hfo : lz_fok T f) (hx : rx_t m s t) (hs : s ≤ 9) (hk : k ≤ 8) (hp : p < t.length) (hm : ms m0 T m w F) (hn : 200 ≤ w.2.1 + N) (h2 : w.2.1 ≤ 200) (hb : F + 1 + k ≤ 9 * lz_bz w + 8) (h22 : m.2.2.1 22 = 0) (hr : lz_ps (lz_rd t k) 1 (p + 1) = (true, e)) (K : rK l G r d m0 T F m Q (lz_result f t p w)) : mr_Ok l G r (d + 7) mm_RM_begin 82 [(0, .ref r), (1, .int (nI s)), (2, .int (nI p)), (3, .int 79)] [] m (fun v m' => v = none ∧ rL l G r d m' Q) := by
  have hF : F < 99 := by have := lz_bz_le w; omega
  have hl : lz_lt 79 = false := by decide
  obtain ⟨r1, r2⟩ := lz_ps_s hr
  generalize (lz_rd t k (p + 1)).2 = e1 at r1 r2
  have s1 := hfo t (p + 1) k e1 w hk r1 hm.2.1.2.2.2.2.2
  refine rPush hm hF hx hs hp (fun z => absurd z (by decide)) h22 (fun m1 a1 a2 a3 a4 _ => ?_)
  rw [if_neg (by decide)] at a4
  refine rP_op a1.2.2 hF a4 (by omega) hl (by decide) (by decide) (by decide) (fun z => absurd z (by decide)) (fun _ => ?_)
  refine rSub ih hl hF a4 (by omega) (hx.n hm.1 a1.1) hs hk r1 a1 hn h2 hb a2 (fun z m2 b1 b2 b3 b4 b5 b6 b7 => ?_) (fun z m2 b1 b2 b3 b4 => ?_)
  · have V1 := s1.2.2.1.resolve_left (by rw [z]; decide)
    refine rP_op b1.2.2 hF b4 (by omega) hl (by decide) (by decide) (by decide) (fun _ => ?_) (fun z => absurd z (by decide))
    refine r129_dn hl b1.2.2 hF (fun z => absurd z (by decide)) (fun z => absurd z (by decide)) (fun _ => ?_) (fun z => absurd z (by decide)) (fun z => absurd z (by decide)) (fun _ _ z => absurd rfl z)
    have gg : fq F m (rdn m2 F) := a3.tr (b3.tr rdn.f)
    refine r_order (d := d + 2) (rdn.ms b1) hF (show (rdn m2 F).2.1 18 (F * 4) = _ from b5) V1 (rdn.x b2) rdn.p (fun y m3 e3 => ⟨rfl, ?_⟩) (fun y z3 m3 c1 c2 c3 c4 c5 => ⟨rfl, ?_⟩) (fun y z3 m3 c1 c2 c3 => ⟨rfl, ?_⟩)
    · rw [show lz_result f t p w = (-1000000000005, (f t (p + 1) w).2) by simp only [lz_result, z, y, Bool.false_eq_true, if_false]] at K
      exact K.fl (show lz_bad (-1000000000005) = true by decide) hF (by rw [e3]; exact (rdn.ms b1).q (rq.ss rfl) (rdn.ms b1).2.2) (Or.inr (Or.inl ⟨rfl, by rw [e3]; simp [rs_s]⟩)) (gg.tr (m3 := m3) (by rw [e3]; exact ⟨fun _ _ _ _ _ => rfl, fun _ _ => rfl⟩))
    · rw [show lz_result f t p w = ((lz_pt 30 (f t (p + 1) w).2.2.2.2 (f t (p + 1) w).1).1, ((f t (p + 1) w).2.1, (f t (p + 1) w).2.2.1, (f t (p + 1) w).2.2.2.1, (lz_pt 30 (f t (p + 1) w).2.2.2.2 (f t (p + 1) w).1).2)) by simp only [lz_result, z, y, Bool.false_eq_true, if_false, if_true]] at K
      exact K.ok z3 c1 c3 c4 c5 (gg.tr c2)
    · rw [show lz_result f t p w = ((lz_pt 30 (f t (p + 1) w).2.2.2.2 (f t (p + 1) w).1).1, ((f t (p + 1) w).2.1, (f t (p + 1) w).2.2.1, (f t (p + 1) w).2.2.2.1, (lz_pt 30 (f t (p + 1) w).2.2.2.2 (f t (p + 1) w).1).2)) by simp only [lz_result, z, y, Bool.false_eq_true, if_false, if_true]] at K
      have h7 : (lz_pt 30 (f t (p + 1) w).2.2.2.2 (f t (p + 1) w).1).1 = -1000000000007 := by
        rcases lz_pt_nb 30 s1.1.2 V1 (fun j hj _ => hj) with ⟨x, ex⟩ | ex
        · rw [ex, lz_n_bad] at z3
          cases z3
        · exact ex
      exact K.fl z3 hF c1 (Or.inr (Or.inr (Or.inr (Or.inl ⟨h7, c3⟩)))) (gg.tr c2)
  · rw [show lz_result f t p w = f t (p + 1) w by simp only [lz_result, z, if_true]] at K
    exact rFail hF b1 b4.1 hl (fun z => absurd z (by decide)) (fun m4 d1 d2 d3 => K.2 z m4 d1 (by rw [d2]; exact b2) (a3.tr (b3.tr d3)))
/-- ? -/
theorem rChoice {f : lz_F} {N : Nat} {s p e k : Nat} {t : List Int32} (ih : rE l G r d m0 T f N Q) (hfo : lz_fok T f) (hx : rx_t m s t) (hs : s ≤ 9) (hk : k ≤ 8) (hp : p < t.length) (hm : ms m0 T m w F) (hn : 200 ≤ w.2.1 + N) (h2 : w.2.1 ≤ 200) (hb : F + 1 + k ≤ 9 * lz_bz w + 8) (h22 : m.2.2.1 22 = 0) (hr : lz_ps (lz_rd t k) 3 (p + 1) = (true, e)) (K : rK l G r d m0 T F m Q (lz_choice f t p w)) : mr_Ok l G r (d + 7) mm_RM_begin 82 [(0, .ref r), (1, .int (nI s)), (2, .int (nI p)), (3, .int 63)] [] m (fun v m' => v = none ∧ rL l G r d m' Q) := by
  have hF : F < 99 := by have := lz_bz_le w; omega
  have hl : lz_lt 63 = false := by decide
  obtain ⟨r1, r2⟩ := lz_ps_s hr
  generalize (lz_rd t k (p + 1)).2 = e1 at r1 r2
  obtain ⟨r3, r4⟩ := lz_ps_s r2
  generalize (lz_rd t k e1).2 = e2 at r3 r4
  obtain ⟨r5, r6⟩ := lz_ps_s r4
  generalize (lz_rd t k e2).2 = e3 at r5 r6
  have hnd := lz_nd_eq hk r1
  have hnd2 := lz_nd_eq hk r3
  have s1 := hfo t (p + 1) k e1 w hk r1 hm.2.1.2.2.2.2.2
  refine rPush hm hF hx hs hp (fun z => absurd z (by decide)) h22 (fun m1 a1 a2 a3 a4 _ => ?_)
  rw [if_neg (by decide)] at a4
  refine rP_q a1.2.2 hF a4 (by omega) (Or.inl rfl) (fun z => absurd rfl z) (fun _ => ?_)
  refine rSub ih hl hF a4 (by omega) (hx.n hm.1 a1.1) hs hk r1 a1 hn h2 hb a2 (fun z m2 b1 b2 b3 b4 b5 b6 b7 => ?_) (fun z m2 b1 b2 b3 b4 => ?_)
  · have V1 := s1.2.2.1.resolve_left (by rw [z]; decide)
    have n30 : (f t (p + 1) w).2.2.2.2.2.1 ≤ 30 := s1.1.2.1
    have gg : fq F m (rdn m2 F) := a3.tr (b3.tr rdn.f)
    have hx2 : rx_t (rdn m2 F) s t := hx.n hm.1 (rdn.ms b1).1
    have hm2 := rdn.ms b1
    have n2 : 200 ≤ (f t (p + 1) w).2.2.1 + N := by have := s1.2.2.2.1; omega
    have n3 : (f t (p + 1) w).2.2.1 ≤ 200 := by have := s1.2.2.2.2.2.2; omega
    have n4 : F + k ≤ 9 * lz_bz (f t (p + 1) w).2 + 8 := by rw [lz_bz_eq (fun i => (s1.2.2.2.2.2.1 i).2)]; omega
    refine rP_q b1.2.2 hF b4 (by omega) (Or.inl rfl) (fun _ => ?_) (fun z => absurd z (by decide))
    refine r129_dn hl b1.2.2 hF (fun _ => ?_) (fun z => absurd z (by decide)) (fun z => absurd z (by decide)) (fun z => absurd z (by decide)) (fun z => absurd z (by decide)) (fun z => absurd rfl z)
    have b50 : m2.2.1 18 (F * 4) = (f t (p + 1) w).1 := b5
    rw [b50]
    refine r_isNumber (d := d + 6) (n := (f t (p + 1) w).2.2.2.2.2.1) (by omega) V1 ⟨_, rfl, fun u => ⟨fun y => ?_, fun y => ?_⟩, fun u m3 e3 => ?_⟩
    · have u : lz_pl (f t (p + 1) w).1 = false := by simpa using lz_b1.mp u
      have y : (f t (p + 1) w).1 = 0 := b50.symm.trans y
      rw [show (rdn m2 F).1 14 F = nI e1 from b4.2.2.1]
      rw [show lz_choice f t p w = f t e2 (f t (p + 1) w).2 by simp only [lz_choice, hnd, hnd2, z, u, Bool.false_eq_true, if_false]; rw [if_neg (fun q => q y)]] at K
      refine r_behind (d := d + 5) hx2 hs hk r3 ⟨_, rfl, ?_⟩
      exact ih t s e2 k e3 F (rdn m2 F) _ hs hk r5 hx2 hm2 n2 n3 n4 (rdn.x b2) (K.go gg)
    · have u : lz_pl (f t (p + 1) w).1 = false := by simpa using lz_b1.mp u
      have y : ¬ (f t (p + 1) w).1 = 0 := fun q => y (b50.trans q)
      rw [show (rdn m2 F).1 14 F = nI e1 from b4.2.2.1]
      rw [show lz_choice f t p w = f t e1 (f t (p + 1) w).2 by simp only [lz_choice, hnd, hnd2, z, u, Bool.false_eq_true, if_false]; rw [if_pos y]] at K
      exact ih t s e1 k e2 F (rdn m2 F) _ hs hk r3 hx2 hm2 n2 n3 n4 (rdn.x b2) (K.go gg)
    · have u : lz_pl (f t (p + 1) w).1 = true := by simpa using lz_b0.mp (Decidable.not_not.mp u)
      rw [show lz_choice f t p w = (-1000000000005, (f t (p + 1) w).2) by simp only [lz_choice, z, u, Bool.false_eq_true, if_false, if_true]] at K
      exact K.fl (show lz_bad (-1000000000005) = true by decide) hF (by rw [e3]; exact hm2.q (rq.ss rfl) hm2.2.2) (Or.inr (Or.inl ⟨rfl, by rw [e3]; simp [rs_s]⟩)) (gg.tr (m3 := m3) (by rw [e3]; exact ⟨fun _ _ _ _ _ => rfl, fun _ _ => rfl⟩))
  · rw [show lz_choice f t p w = f t (p + 1) w by simp only [lz_choice, z, if_true]] at K
    exact rFail hF b1 b4.1 hl (fun z => absurd z (by decide)) (fun m4 d1 d2 d3 => K.2 z m4 d1 (by rw [d2]; exact b2) (a3.tr (b3.tr d3)))
/-- T -/
theorem rTry {f : lz_F} {N : Nat} {s p e k : Nat} {t : List Int32} (ih : rE l G r d m0 T f N Q) (hfo : lz_fok T f) (hx : rx_t m s t) (hs : s ≤ 9) (hk : k ≤ 8) (hp : p < t.length) (hm : ms m0 T m w F) (hn : 200 ≤ w.2.1 + N) (h2 : w.2.1 ≤ 200) (hb : F + 1 + k ≤ 9 * lz_bz w + 8) (h22 : m.2.2.1 22 = 0) (hr : lz_ps (lz_rd t k) 2 (p + 1) = (true, e)) (K : rK l G r d m0 T F m Q (lz_try f t p w)) : mr_Ok l G r (d + 7) mm_RM_begin 82 [(0, .ref r), (1, .int (nI s)), (2, .int (nI p)), (3, .int 84)] [] m (fun v m' => v = none ∧ rL l G r d m' Q) := by
  have hF : F < 99 := by have := lz_bz_le w; omega
  have hl : lz_lt 84 = false := by decide
  obtain ⟨r1, r2⟩ := lz_ps_s hr
  generalize (lz_rd t k (p + 1)).2 = e1 at r1 r2
  obtain ⟨r3, r4⟩ := lz_ps_s r2
  generalize (lz_rd t k e1).2 = e2 at r3 r4
  have hnd := lz_nd_eq hk r1
  have s1 := hfo t (p + 1) k e1 w hk r1 hm.2.1.2.2.2.2.2
  refine rPush hm hF hx hs hp (fun z => absurd z (by decide)) h22 (fun m1 a1 a2 a3 a4 _ => ?_)
  rw [if_neg (by decide)] at a4
  refine rP_q a1.2.2 hF a4 (by omega) (Or.inr rfl) (fun z => absurd rfl z) (fun _ => ?_)
  refine rSub ih hl hF a4 (by omega) (hx.n hm.1 a1.1) hs hk r1 a1 hn h2 hb a2 (fun z m2 b1 b2 b3 b4 b5 b6 b7 => ?_) (fun z m2 b1 b2 b3 b4 => ?_)
  · have V1 := s1.2.2.1.resolve_left (by rw [z]; decide)
    have gg : fq F m (rdn m2 F) := a3.tr (b3.tr rdn.f)
    have hg : lz_good (f t (p + 1) w).1 = false := by
      cases q : lz_good (f t (p + 1) w).1
      · rfl
      · unfold lz_good at q
        simp only [Bool.or_eq_true, decide_eq_true_eq] at q
        rcases q with ((q | q) | q) | q <;> (rw [q] at z; exact absurd z (by decide))
    rw [show lz_try f t p w = f t (p + 1) w by simp only [lz_try, hg, if_true]] at K
    refine rP_q b1.2.2 hF b4 (by omega) (Or.inr rfl) (fun _ => ?_) (fun z => absurd z (by decide))
    refine r129_dn hl b1.2.2 hF (fun z => absurd z (by decide)) (fun z => absurd z (by decide)) (fun z => absurd z (by decide)) (fun _ => ?_) (fun z => absurd z (by decide)) (fun _ _ _ z => absurd rfl z)
    exact K.1 z _ (rdn.ms b1) (rdn.x b2) rdn.p b5 gg
  · cases hg : lz_good (f t (p + 1) w).1
    · rw [show lz_try f t p w = f t (p + 1) w by simp only [lz_try, hg, if_true]] at K
      exact rFail hF b1 b4.1 hl (fun _ => Or.inr (b2.hard hg)) (fun m4 d1 d2 d3 => K.2 z m4 d1 (by rw [d2]; exact b2) (a3.tr (b3.tr d3)))
    · obtain ⟨g4, g7⟩ := b2.good hg
      rw [show lz_try f t p w = f t e1 ((f t (p + 1) w).2.1, (f t (p + 1) w).2.2.1, (f t (p + 1) w).2.2.2.1 + 1, (f t (p + 1) w).2.2.2.2) by simp only [lz_try, hg, hnd, Bool.true_eq_false, if_false]] at K
      refine rU_catch b1.2.2 hF b4.1 b4.2.2.2 g4 g7 b4.2.1 b4.2.2.1 (fun m3 e3 => ?_)
      have c1 : ms m0 T m3 ((f t (p + 1) w).2.1, (f t (p + 1) w).2.2.1, (f t (p + 1) w).2.2.2.1 + 1, (f t (p + 1) w).2.2.2.2) F := by
        obtain ⟨⟨u1, u2, u3, u4, u5⟩, ⟨v1, v2, v3, v4, v5, v6⟩, v7⟩ := b1
        rw [e3]
        refine ⟨⟨u1, u2, u3, u4, u5⟩, ⟨v1, v2, v3, ?_, v5, v6⟩, ?_⟩
        · simp [rs_s]
          rw [v4, nI_1]
        · simp [rs_s]
      refine ih t s e1 k e2 F m3 _ hs hk r3 (hx.n hm.1 c1.1) c1 (by have := s1.2.2.2.1; show 200 ≤ (f t (p + 1) w).2.2.1 + N; omega) (by have := s1.2.2.2.2.2.2; show (f t (p + 1) w).2.2.1 ≤ 200; omega) ?_ (by rw [e3]; simp [rs_s]) (K.go (a3.tr (b3.tr (m3 := m3) (by rw [e3]; exact ⟨fun _ _ _ _ _ => rfl, fun _ _ => rfl⟩))))
      have := lz_bz_eq (w := w) (w' := ((f t (p + 1) w).2.1, (f t (p + 1) w).2.2.1, (f t (p + 1) w).2.2.2.1 + 1, (f t (p + 1) w).2.2.2.2)) (fun i => (s1.2.2.2.2.2.1 i).2)
      rw [this]
      omega
/-- describing leaves the machine's frames -/
theorem ms.de {m2 : rm_M} {S2 : lz_S} {K : Nat} (h : ms m0 T m w F) (u : rd_ m m2) (h2 : rx_S m2 S2) (hz : w.2.2.2.2.1 ≤ S2.2.1) : ms m0 T m2 (w.1, w.2.1, w.2.2.1, S2) F ∧ fq K m m2 := by
  obtain ⟨⟨a1, a2, a3, a4, a5⟩, ⟨w1, w2, w3, w4, w5, w6⟩, c⟩ := h
  have g : ∀ k i, k ≠ 24 → k ≠ 25 → m2.1 k i = m.1 k i := u.1
  refine ⟨⟨⟨fun i => (g 0 i (by omega) (by omega)).trans (a1 i), fun i => (g 1 i (by omega) (by omega)).trans (a2 i), (g 3 8 (by omega) (by omega)).trans a3, (u.2.1 2 8 (by omega)).trans a4, (u.2.2 6 (by omega)).trans a5⟩, ⟨fun n hn => ?_, fun n hn z => ⟨(w2 n hn z).1, fun i hi => (g _ _ (by omega) (by omega)).trans ((w2 n hn z).2 i hi)⟩, (u.2.2 20 (by omega)).trans w3, (u.2.2 21 (by omega)).trans w4, h2, w6.mono h2.2.2.2.2.2 hz⟩, (u.2.2 19 (by omega)).trans c⟩, ⟨fun k j h1 h2 _ => g k j (by omega) (by omega), fun i _ => u.2.1 18 i (by omega)⟩⟩
  obtain ⟨b1, b2, b3, b4⟩ := w1 n hn
  exact ⟨(g _ _ (by omega) (by omega)).trans b1, (g _ _ (by omega) (by omega)).trans b2, (g _ _ (by omega) (by omega)).trans b3, fun z => (u.2.1 2 n (by omega)).trans (b4 z)⟩
theorem rP_D {s a q : Nat} {t : List Int32} (h19 : m.2.2.1 19 = nI (F + 1)) (hF : F < 99) (hfr : fr m F 68 s a q) (hx : rx_t m s t) (hs : s ≤ 9) (ha : a < t.length) (k0 : lz_cd t a = 41 → r129 l G r d F 68 (nI s) 0 m Q) (k1 : ¬ lz_cd t a = 41 → r129 l G r d F 68 (nI s) 1 m Q) : rP l G r d m Q := by
  obtain ⟨i1, i2, i3⟩ := rb_ix hx hs ha
  refine rP_go h19 hF hfr.1 hfr.2.1 (fun z => absurd z (by decide)) (fun _ => ?_) (fun z => z.elim (fun z => absurd z (by decide)) (fun z => absurd z (by decide))) (fun _ z => absurd rfl z)
  rw [hfr.2.2.1, i3]
  exact ⟨i1, i2, k0, k1⟩
theorem rList {f : lz_F} {N : Nat} {s k : Nat} {e : Nat} {t : List Int32} {mk : Int32} {m9 : rm_M} (ih : rE l G r d m0 T f N Q) (hfo : lz_fok T f) (hs : s ≤ 9) (hk : k ≤ 8) (hF : F < 99) : ∀ (n a : Nat) (vs : List Int64) (m : rm_M) (w : lz_W), vs.length + n = 4 → lz_ls (lz_rd t k) t n a = (true, e) → rx_t m s t → ms m0 T m w (F + 1) → m.2.2.1 22 = 0 → fq F m9 m → fr m F 68 s a vs.length → m.1 16 F = mk → (∀ i, i < vs.length → vs[i]? = some (m.2.1 18 (F * 4 + i))) → (∀ v ∈ vs, lz_V w.2.2.2.2.1 v) → 200 ≤ w.2.1 + N → w.2.1 ≤ 200 → F + 1 + k ≤ 9 * lz_bz w + 8 →
    (lz_bad (lz_list f t n a vs w).1 = false → ∀ m2, ms m0 T m2 (lz_list f t n a vs w).2.2 (F + 1) → m2.2.2.1 22 = 0 → fq F m9 m2 → m2.1 15 F = nI (lz_list f t n a vs w).2.1.length → m2.1 16 F = mk → (∀ i, i < (lz_list f t n a vs w).2.1.length → (lz_list f t n a vs w).2.1[i]? = some (m2.2.1 18 (F * 4 + i))) → (∀ v ∈ (lz_list f t n a vs w).2.1, lz_V (lz_list f t n a vs w).2.2.2.2.2.2.1 v) → (lz_list f t n a vs w).2.1.length ≤ 4 → r129 l G r d F 68 (nI s) 0 m2 Q) →
    (lz_bad (lz_list f t n a vs w).1 = true → ∀ m2, ms m0 T m2 (lz_list f t n a vs w).2.2 (F + 1) → fcd (lz_list f t n a vs w).1 (m2.2.2.1 22) → fq F m9 m2 → m2.1 12 F = 68 → rU l G r d m2 Q) → rP l G r d m Q := by
  intro n
  induction n with
  | zero =>
    intro a vs m w hv hr hx hm h22 hq hfr h16 hvs hV hn h2 hb ks kf
    have h41 : lz_cd t a = 41 := by
      unfold lz_ls at hr
      by_cases q : lz_cd t a = 41
      · exact q
      · rw [if_neg q] at hr
        cases hr
    have ha : a < t.length := Nat.lt_of_not_le (fun q => by rw [lz_cd_out q] at h41; exact absurd h41 (by decide))
    refine rP_D hm.2.2 hF hfr hx hs ha (fun _ => ?_) (fun z => absurd h41 z)
    exact ks (show lz_bad 0 = false by decide) m hm h22 hq hfr.2.2.2 h16 hvs hV (by show vs.length ≤ 4; omega)
  | succ n ihn =>
    intro a vs m w hv hr hx hm h22 hq hfr h16 hvs hV hn h2 hb ks kf
    by_cases h41 : lz_cd t a = 41
    · have ha : a < t.length := Nat.lt_of_not_le (fun q => by rw [lz_cd_out q] at h41; exact absurd h41 (by decide))
      rw [lz_list, if_pos h41] at ks
      refine rP_D hm.2.2 hF hfr hx hs ha (fun _ => ?_) (fun z => absurd h41 z)
      exact ks (show lz_bad 0 = false by decide) m hm h22 hq hfr.2.2.2 h16 hvs hV (by show vs.length ≤ 4; omega)
    · obtain ⟨r1, r2⟩ := lz_ls_s hr h41
      generalize (lz_rd t k a).2 = e1 at r1 r2
      have hnd := lz_nd_eq hk r1
      have ha : a < t.length := by have := lz_rd_b _ _ _ r1; omega
      have s1 := hfo t a k e1 w hk r1 hm.2.1.2.2.2.2.2
      rw [lz_list, if_neg h41, hnd] at ks kf
      refine rP_D hm.2.2 hF hfr hx hs ha (fun z => absurd z h41) (fun _ => ?_)
      refine rSub ih (by decide) hF hfr (by omega) hx hs hk r1 hm hn h2 hb h22 (fun z m2 b1 b2 b3 b4 b5 b6 b7 => ?_) (fun z m2 b1 b2 b3 b4 => ?_)
      · have V1 := s1.2.2.1.resolve_left (by rw [z]; decide)
        rw [if_neg (by rw [z]; decide)] at ks kf
        refine ihn e1 (vs ++ [(f t a w).1]) m2 _ (by simp; omega) r2 (hx.n hm.1 b1.1) b1 b2 (hq.tr b3) (by rw [List.length_append]; exact b4) (b7.trans h16) (fun i hi => ?_) (fun v hv => ?_) (by have := s1.2.2.2.1; omega) (by have := s1.2.2.2.2.2.2; omega) (by rw [lz_bz_eq (fun i => (s1.2.2.2.2.2.1 i).2)]; exact hb) ks kf
        · simp only [List.length_append, List.length_cons, List.length_nil] at hi
          by_cases hi2 : i < vs.length
          · rw [List.getElem?_append_left hi2, hvs i hi2, b6 i hi2]
          · have : i = vs.length := by omega
            subst this
            rw [List.getElem?_append_right (Nat.le_refl _), Nat.sub_self, b5]
            rfl
        · rcases List.mem_append.mp hv with q | q
          · exact (hV v q).mono s1.2.1
          · rw [List.mem_singleton.mp q]
            exact V1
      · rw [if_pos z] at kf
        exact kf z m2 b1 b2 (hq.tr b3) b4.1
/-- D -/
theorem rPlan {f : lz_F} {N : Nat} {s p e k : Nat} {t : List Int32} (ih : rE l G r d m0 T f N Q) (hfo : lz_fok T f) (hx : rx_t m s t) (hs : s ≤ 9) (hk : k ≤ 8) (hp : p < t.length) (hm : ms m0 T m w F) (hn : 200 ≤ w.2.1 + N) (h2 : w.2.1 ≤ 200) (hb : F + 1 + k ≤ 9 * lz_bz w + 8) (h22 : m.2.2.1 22 = 0) (hd : lz_dg (lz_cd t (p + 1)) = true) (hr : lz_ls (lz_rd t k) t 4 (p + 3) = (true, e)) (K : rK l G r d m0 T F m Q (lz_plan f t p w)) : mr_Ok l G r (d + 7) mm_RM_begin 82 [(0, .ref r), (1, .int (nI s)), (2, .int (nI p)), (3, .int 68)] [] m (fun v m' => v = none ∧ rL l G r d m' Q) := by
  have hF : F < 99 := by have := lz_bz_le w; omega
  have hl : lz_lt 68 = false := by decide
  obtain ⟨mk, k1, k2, k3⟩ := lz_dg_n hd
  have hp1 : p + 1 < t.length := Nat.lt_of_not_le (fun q => by rw [lz_cd_out q] at hd; exact absurd hd (by decide))
  refine rPush hm hF hx hs hp (fun _ => hp1) h22 (fun m1 a1 a2 a3 a4 a5 => ?_)
  rw [if_pos rfl] at a4
  have a5 := (a5 rfl).trans k2
  refine rList ih hfo hs hk hF 4 (p + 3) [] m1 w rfl hr (hx.n hm.1 a1.1) a1 a2 a3 a4 a5 (fun i hi => absurd hi (Nat.not_lt_zero _)) (fun v hv => absurd hv List.not_mem_nil) hn h2 hb (fun z m2 b1 b2 b3 b4 b5 b6 b7 b8 => ?_) (fun z m2 b1 b2 b3 b4 => ?_)
  · rw [show lz_plan f t p w = ((lz_of (lz_list f t 4 (p + 3) [] w).2.2.2.2.2 (nI mk) (lz_list f t 4 (p + 3) [] w).2.1).1, ((lz_list f t 4 (p + 3) [] w).2.2.1, (lz_list f t 4 (p + 3) [] w).2.2.2.1, (lz_list f t 4 (p + 3) [] w).2.2.2.2.1, (lz_of (lz_list f t 4 (p + 3) [] w).2.2.2.2.2 (nI mk) (lz_list f t 4 (p + 3) [] w).2.1).2)) by simp only [lz_plan, z, k2, Bool.false_eq_true, if_false]] at K
    have hm2 := rdn.ms b1
    have gg : fq F m (rdn m2 F) := b3.tr rdn.f
    have hok := lz_of_st hm2.2.1.2.2.2.2.1.2.2.2.2.2 k1 b8 b7
    refine r129_dn hl b1.2.2 hF (fun z => absurd z (by decide)) (fun _ => ?_) (fun z => absurd z (by decide)) (fun z => absurd z (by decide)) (fun z => absurd z (by decide)) (fun _ z => absurd rfl z)
    refine r_describe (d := d + 5) hm2.2.1.2.2.2.2.1 hF k1 (show (rdn m2 F).1 16 F = _ from b5) b8 (show (rdn m2 F).1 15 F = _ from b4) (fun i hi => b6 i hi) b7 (fun z3 m3 c1 c2 c3 => ⟨rfl, ?_⟩) (fun z3 y1 y2 m3 e3 => ⟨rfl, ?_⟩)
    · obtain ⟨d1, d2⟩ := hm2.de (K := F) c2 c1 hok.2.1
      exact K.ok z3 d1 ((c2.2.2 22 (by omega)).trans (rdn.x b2)) ((c2.2.2 17 (by omega)).trans rdn.p) c3 (gg.tr d2)
    · rw [y1] at K
      exact K.fl z3 hF (by rw [e3]; exact hm2.q (rq.ss rfl) hm2.2.2) (Or.inr (Or.inr (Or.inr (Or.inr (Or.inr (Or.inl ⟨y2, by rw [e3]; simp [rs_s]⟩)))))) (gg.tr (m3 := m3) (by rw [e3]; exact ⟨fun _ _ _ _ _ => rfl, fun _ _ => rfl⟩))
  · rw [show lz_plan f t p w = ((lz_list f t 4 (p + 3) [] w).1, (lz_list f t 4 (p + 3) [] w).2.2) by simp only [lz_plan, z, if_true]] at K
    exact rFail hF b1 b4 hl (fun z => absurd z (by decide)) (fun m4 d1 d2 d3 => K.2 z m4 d1 (by rw [d2]; exact b2) (b3.tr d3))
/-- a name's marks -/
theorem ms.n {m2 : rm_M} {n : Nat} {x : Bool × Bool × Int64} (h : ms m0 T m w F) (hn : n < 8) (hx1 : x.1 = (w.1 n).1) (hx2 : x.2.2 = -1000000000000 ∨ lz_V w.2.2.2.2.1 x.2.2)
    (g : ∀ k i, ¬ (k = 5 ∧ i = n) → ¬ (k = 3 ∧ i = n) → m2.1 k i = m.1 k i) (g5 : m2.1 5 n = lz_b x.2.1) (g3 : m2.1 3 n = lz_b (decide (¬ x.2.2 = -1000000000000))) (gl : ∀ k i, ¬ (k = 2 ∧ i = n) → m2.2.1 k i = m.2.1 k i) (g2 : ¬ x.2.2 = -1000000000000 → m2.2.1 2 n = x.2.2) (gs : m2.2.2.1 = m.2.2.1) : ms m0 T m2 (lz_setN w n x) F ∧ fq F m m2 := by
  obtain ⟨⟨a1, a2, a3, a4, a5⟩, ⟨w1, w2, w3, w4, w5, w6⟩, c⟩ := h
  have e1 : ∀ j, ((lz_setN w n x).1 j).1 = (w.1 j).1 := fun j => by
    by_cases hj : j = n
    · subst hj
      simp [lz_setN, hx1]
    · simp [lz_setN, hj]
  refine ⟨⟨⟨fun i => (g 0 i (by omega) (by omega)).trans (a1 i), fun i => (g 1 i (by omega) (by omega)).trans (a2 i), (g 3 8 (by omega) (by omega)).trans a3, (gl 2 8 (by omega)).trans a4, by rw [gs]; exact a5⟩, ⟨fun j hj => ?_, fun j hj z => ⟨(w2 j hj (by rw [← e1]; exact z)).1, fun i hi => (g _ _ (by omega) (by omega)).trans ((w2 j hj (by rw [← e1]; exact z)).2 i hi)⟩, by rw [gs]; exact w3, by rw [gs]; exact w4, w5.w (fun k i hk => ?_) (fun i => gl 26 i (by omega)) (fun k hk => by rw [gs]), ⟨fun j hj => ?_, w6.2⟩⟩, by rw [gs]; exact c⟩, ⟨fun k j h1 h2 _ => g k j (by omega) (by omega), fun i _ => gl 18 i (by omega)⟩⟩
  · obtain ⟨b1, b2, b3, b4⟩ := w1 j hj
    by_cases hjn : j = n
    · subst hjn
      refine ⟨by rw [g 4 _ (by omega) (by omega), b1, e1], ?_, ?_, fun z => ?_⟩
      · rw [g5]
        simp [lz_setN]
      · rw [g3]
        simp [lz_setN]
      · simp [lz_setN] at z ⊢
        exact g2 z
    · refine ⟨by rw [g 4 _ (by omega) (by omega), b1, e1], ?_, ?_, fun z => ?_⟩
      · rw [g 5 _ (by omega) (by omega), b2]
        simp [lz_setN, hjn]
      · rw [g 3 _ (by omega) (by omega), b3]
        simp [lz_setN, hjn]
      · simp [lz_setN, hjn] at z ⊢
        rw [gl 2 _ (by omega)]
        exact b4 z
  · exact g k i (by omega) (by omega)
  · rw [e1]
    refine ⟨(w6.1 j hj).1, ?_⟩
    by_cases hjn : j = n
    · subst hjn
      simp only [lz_setN, if_true]
      exact hx2
    · simp only [lz_setN, if_neg hjn]
      exact (w6.1 j hj).2
end REV
