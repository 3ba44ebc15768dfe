/-! THE REFERENCE: operate, order, describe. -/
theorem lz_pt_val {f j : Nat} {S : lz_S} (hj : j < 30) (h : lz_bad (lz_pt (f + 1) S (lz_pv j)).1 = false) : (lz_pt (f + 1) S (lz_pv j)).1 = ((lz_pt (f + 1) S (lz_pv j)).2.1 j).2.2.2.1.toInt64 := by
  rw [lz_pt, if_neg (by rw [lz_pv_pl (by omega)]; decide), lz_pv_ix (by omega)] at h ⊢
  by_cases h1 : (S.1 j).2.2.1 = true
  · rw [if_pos h1]
  rw [if_neg h1] at h ⊢
  by_cases h2 : lz_bad (lz_bi (lz_pt f) (S.1 j).2.1 S).1 = true
  · rw [if_pos h2] at h
    rw [h] at h2
    cases h2
  rw [if_neg h2] at h ⊢
  unfold lz_fin at h ⊢
  split
  · rename_i hc
    rw [if_pos hc] at h
    exact absurd h (show ¬ lz_bad (-1000000000007) = false by decide)
  · simp [lz_setP]
section ROP
variable {l : Launch} {G : mx_G} {r d : Nat} {m0 m : rm_M} {T : Nat → List Int32} {w : lz_W} {F K n : Nat} {Q : Option Value → rm_M → Prop}
theorem r_operate33 (hF : F < 99) (hc : m.1 12 F = 33) (k : ∀ m1, m1 = rs_s m 22 (-6) → Q none m1) : mr_C l G r (d + 2) mm_RM_operate [.int (nI F)] m Q := by
  have e4 : nI F * 4 = nI (F * 4) := pk_mul F 4
  refine wr_operate_0 _ ?_
  rw [e4, nI_1, nI_clamp (by omega), nI_clamp (by omega), nI_clamp (by omega), hc]
  exact ⟨nI_pos (by omega), by omega, nI_pos (by omega), by omega, nI_pos (by omega), by omega, fun z => absurd rfl z, fun _ => k⟩
theorem r_operate {c : Int32} {a b : Int64} (hF : F < 99) (hc : m.1 12 F = c) (h33 : ¬ c = 33) (ha : m.2.1 18 (F * 4) = a) (hb : m.2.1 18 (F * 4 + 1) = b) (hn : n ≤ 30) (hVa : lz_V n a) (hVb : lz_V n b) (k5 : (lz_pl a || lz_pl b) = true → ∀ m1, m1 = rs_s m 22 (-5) → Q none m1) (k : (lz_pl a || lz_pl b) = false → ∀ m1, m1 = rs_r m (lz_comb c a.toInt32 b.toInt32).toInt64 → Q none m1) : mr_C l G r (d + 2) mm_RM_operate [.int (nI F)] m Q := by
  have e4 : nI F * 4 = nI (F * 4) := pk_mul F 4
  have h62 : (lz_pl a || lz_pl b) = true → mr_Ok l G r (d + 2) mm_RM_operate 62 [(0, .ref r)] [] m Q := fun z => wr_operate_62 (k5 z)
  refine wr_operate_0 _ ?_
  rw [e4, nI_1, nI_clamp (by omega), nI_clamp (by omega), nI_clamp (by omega), hc, ha, hb]
  refine ⟨nI_pos (by omega), by omega, nI_pos (by omega), by omega, nI_pos (by omega), by omega, fun _ => r_isNumber (n := n) (by omega) hVa ⟨_, rfl, fun z => h62 ?_, fun z => r_isNumber (n := n) (by omega) hVb ⟨_, rfl, fun y => ?_, fun y => h62 ?_⟩⟩, fun z => absurd h33 z⟩
  · have z := lz_b0.mp z
    cases q : lz_pl a
    · rw [q] at z
      cases z
    · rfl
  · have z := lz_b1.mp z
    have y := lz_b1.mp y
    have pa : lz_pl a = false := by
      cases q : lz_pl a
      · rfl
      · rw [q] at z
        cases z
    have pb : lz_pl b = false := by
      cases q : lz_pl b
      · rfl
      · rw [q] at y
        cases y
    have k := k (by rw [pa, pb]; rfl)
    have na : ∃ x : Int32, a = x.toInt64 := by
      rcases hVa with h | ⟨j, hj, h⟩
      · exact h
      · rw [h, lz_pv_pl (by omega)] at pa
        cases pa
    have nb : ∃ x : Int32, b = x.toInt64 := by
      rcases hVb with h | ⟨j, hj, h⟩
      · exact h
      · rw [h, lz_pv_pl (by omega)] at pb
        cases pb
    obtain ⟨x, rfl⟩ := na
    obtain ⟨y', rfl⟩ := nb
    rw [Int32.toInt32_toInt64, Int32.toInt32_toInt64] at k
    unfold lz_comb at k
    refine ⟨fun c43 => ⟨fun c45 => ⟨fun c42 => ⟨fun u => wr_operate_144 _ ?_, fun u => wr_operate_144 _ ?_⟩, fun c42 => ?_⟩, fun c45 => ?_⟩, fun c43 => ?_⟩
    · have u : y' ≤ x := by
        have := Int64.le_iff_toInt_le.mp u
        rw [Int32.toInt_toInt64, Int32.toInt_toInt64] at this
        exact Int32.le_iff_toInt_le.mpr this
      rw [if_neg c43, if_neg c45, if_neg c42, if_neg (Int32.not_lt.mpr u)] at k
      exact k
    · have u : x < y' := by
        refine Int32.not_le.mp (fun v => u ?_)
        refine Int64.le_iff_toInt_le.mpr ?_
        rw [Int32.toInt_toInt64, Int32.toInt_toInt64]
        exact Int32.le_iff_toInt_le.mp v
      rw [if_neg c43, if_neg c45, if_neg c42, if_pos u] at k
      exact k
    · rw [if_neg c43, if_neg c45, if_pos (Decidable.not_not.mp c42)] at k
      rw [Int64.toInt32_mul, Int32.toInt32_toInt64, Int32.toInt32_toInt64]
      exact k
    · rw [if_neg c43, if_pos (Decidable.not_not.mp c45)] at k
      rw [Int64.toInt32_sub, Int32.toInt32_toInt64, Int32.toInt32_toInt64]
      exact k
    · rw [if_pos (Decidable.not_not.mp c43)] at k
      rw [Int64.toInt32_add, Int32.toInt32_toInt64, Int32.toInt32_toInt64]
      exact k
  · have y := lz_b0.mp (Decidable.not_not.mp y)
    cases q : lz_pl b
    · rw [q] at y
      cases y
    · cases lz_pl a <;> rfl
/-- building leaves the machine's frames -/
theorem ms.u {m2 : rm_M} {S2 : lz_S} (h : ms m0 T m w F) (u : ru m m2) (h2 : rx_S m2 S2) (hz : w.2.2.2.2.1 ≤ S2.2.1) : ms m0 T m2 (w.1, w.2.1, w.2.2.1, S2) F ∧ fq K m m2 := by
  obtain ⟨⟨a1, a2, a3, a4, a5⟩, ⟨w1, w2, w3, w4, w5, w6⟩, c⟩ := h
  have g : ∀ k i, k ≠ 27 → k ≠ 28 → k ≠ 32 → k ≠ 33 → m2.1 k i = m.1 k i := u.1
  refine ⟨⟨⟨fun i => (g 0 i (by omega) (by omega) (by omega) (by omega)).trans (a1 i), fun i => (g 1 i (by omega) (by omega) (by omega) (by omega)).trans (a2 i), (g 3 8 (by omega) (by omega) (by omega) (by omega)).trans a3, by rw [u.2.1]; exact a4, (u.2.2.1 6 (by omega)).trans a5⟩, ⟨fun n hn => ?_, fun n hn z => ⟨(w2 n hn z).1, fun i hi => (g _ _ (by omega) (by omega) (by omega) (by omega)).trans ((w2 n hn z).2 i hi)⟩, (u.2.2.1 20 (by omega)).trans w3, (u.2.2.1 21 (by omega)).trans w4, h2, w6.mono h2.2.2.2.2.2 hz⟩, (u.2.2.1 19 (by omega)).trans c⟩, ⟨fun k j h1 h2 _ => g k j (by omega) (by omega) (by omega) (by omega), fun i _ => by rw [u.2.1]⟩⟩
  obtain ⟨b1, b2, b3, b4⟩ := w1 n hn
  exact ⟨(g _ _ (by omega) (by omega) (by omega) (by omega)).trans b1, (g _ _ (by omega) (by omega) (by omega) (by omega)).trans b2, (g _ _ (by omega) (by omega) (by omega) (by omega)).trans b3, fun z => by rw [u.2.1]; exact b4 z⟩
theorem r_order {v : Int64} (h : ms m0 T m w K) (hF : F < 99) (hv : m.2.1 18 (F * 4) = v) (hV : lz_V w.2.2.2.2.1 v) (h22 : m.2.2.1 22 = 0) (h17 : m.2.2.1 17 = 0)
    (k5 : lz_pl v = false → ∀ m1, m1 = rs_s m 22 (-5) → Q none m1)
    (k1 : lz_pl v = true → lz_bad (lz_pt 30 w.2.2.2 v).1 = false → ∀ m1, ms m0 T m1 (w.1, w.2.1, w.2.2.1, (lz_pt 30 w.2.2.2 v).2) K → fq K m m1 → m1.2.2.1 22 = 0 → m1.2.2.1 17 = 0 → m1.2.2.2 = (lz_pt 30 w.2.2.2 v).1 → Q none m1)
    (k7 : lz_pl v = true → lz_bad (lz_pt 30 w.2.2.2 v).1 = true → ∀ m1, ms m0 T m1 (w.1, w.2.1, w.2.2.1, (lz_pt 30 w.2.2.2 v).2) K → fq K m m1 → m1.2.2.1 22 = -7 → Q none m1) : mr_C l G r (d + 5) mm_RM_order [.int (nI F)] m Q := by
  have e4 : nI F * 4 = nI (F * 4) := pk_mul F 4
  have hS := h.2.1.2.2.2.2.1
  have hz : w.2.2.2.2.1 ≤ 30 := hS.2.2.2.2.2.1
  refine wr_order_0 _ ?_
  rw [e4, nI_clamp (by omega), hv]
  refine ⟨nI_pos (by omega), by omega, r_isNumber (n := w.2.2.2.2.1) (by omega) hV ⟨_, rfl, fun z => ?_, fun z => ?_⟩⟩
  · have z := lz_b0.mp z
    have hp : lz_pl v = true := by
      cases q : lz_pl v
      · rw [q] at z
        cases z
      · rfl
    have hpl : ∃ j, j < w.2.2.2.2.1 ∧ v = lz_pv j := by
      rcases hV with ⟨x, hx⟩ | hx
      · rw [hx, lz_n_pl] at hp
        cases hp
      · exact hx
    obtain ⟨j, hj, rfl⟩ := hpl
    have hsm := (lz_pt_sm 30 w.2.2.2 (lz_pv j)).1
    rw [lz_pv_i]
    refine r_construct hS hj (fun zb m2 hm2 hu => ⟨_, rfl, fun _ => ?_, fun c => absurd (by decide) c⟩) (fun zb m2 hm2 hu => ⟨_, rfl, fun c => absurd rfl c, fun _ m3 e3 => ?_⟩)
    · obtain ⟨g1, g2⟩ := h.u (K := K) hu hm2 (Nat.le_of_eq hsm.symm)
      rw [nI_clamp (by omega)]
      refine ⟨nI_pos (by omega), by omega, fun m3 e3 => ?_⟩
      have hb := lz_pt_b (f := 29) (by omega) zb
      have hval := lz_pt_val (f := 29) (by omega) zb
      rw [(hm2.2.2.1 j (by rw [hsm]; exact hj)).2.2.2.2.1 hb, ← hval] at e3
      refine k1 hp zb m3 (by rw [e3]; exact g1.q rq.rr g1.2.2) (by rw [e3]; exact g2.tr ⟨fun _ _ _ _ _ => rfl, fun _ _ => rfl⟩) (by rw [e3]; exact (hu.2.2.1 22 (by omega)).trans h22) (by rw [e3]; exact (hu.2.2.1 17 (by omega)).trans h17) (by rw [e3]; rfl)
    · obtain ⟨g1, g2⟩ := h.u (K := K) hu hm2 (Nat.le_of_eq hsm.symm)
      exact k7 hp zb m3 (by rw [e3]; exact g1.q (rq.ss rfl) g1.2.2) (by rw [e3]; exact g2.tr ⟨fun _ _ _ _ _ => rfl, fun _ _ => rfl⟩) (by rw [e3]; simp [rs_s])
  · have z := lz_b1.mp z
    have hp : lz_pl v = false := by
      cases q : lz_pl v
      · rfl
      · rw [q] at z
        cases z
    exact k5 hp
/-- what describe changes -/
def rd_ (m m1 : rm_M) : Prop := (∀ k i, k ≠ 24 → k ≠ 25 → m1.1 k i = m.1 k i) ∧ (∀ k i, k ≠ 26 → m1.2.1 k i = m.2.1 k i) ∧ ∀ k, k ≠ 34 → m1.2.2.1 k = m.2.2.1 k
theorem r_describe {S : lz_S} (hS : rx_S m S) (hF : F < 99) {mk : Nat} (hmk : mk < 10) (hd : m.1 16 F = nI mk) {vs : List Int64} (hl : vs.length ≤ 4) (hp : m.1 15 F = nI vs.length) (hvs : ∀ i, i < vs.length → vs[i]? = some (m.2.1 18 (F * 4 + i))) (hV : ∀ v ∈ vs, lz_V S.2.1 v)
    (k1 : lz_bad (lz_of S (nI mk) vs).1 = false → ∀ m1, rx_S m1 (lz_of S (nI mk) vs).2 → rd_ m m1 → m1.2.2.2 = (lz_of S (nI mk) vs).1 → Q none m1)
    (k9 : lz_bad (lz_of S (nI mk) vs).1 = true → (lz_of S (nI mk) vs).2 = S → (lz_of S (nI mk) vs).1 = -1000000000009 → ∀ m1, m1 = rs_s m 22 (-9) → Q none m1) : mr_C l G r (d + 2) mm_RM_describe [.int (nI F)] m Q := by
  have hz : S.2.1 ≤ 30 := hS.2.2.2.2.2.1
  have hcF : Int32.toNatClampNeg (nI F) = F := nI_clamp (by omega)
  have hok := lz_of_st hS.2.2.2.2.2 hmk hl hV
  unfold lz_of at k1 k9 hok
  have W : ∀ (c i : Nat), i + c = S.2.1 → lz_fi (lz_al S (nI mk) vs) c i = lz_fi (lz_al S (nI mk) vs) S.2.1 0 → mr_Ok l G r (d + 2) mm_RM_describe 2 [(0, .ref r), (1, .int (nI F)), (2, .int (nI (i + 1)))] [] m Q := by
    intro c
    induction c with
    | zero =>
      intro i hi hf
      rw [← hf] at k1 k9 hok
      simp only [lz_fi] at k1 k9 hok
      refine wr_describe_2 _ _ ⟨fun _ => ⟨fun z m1 e1 => ?_, fun z => ?_⟩, fun z => absurd ?_ z⟩
      · rw [hS.1] at z
        have hlt : ¬ 30 ≤ S.2.1 := fun q => z (by rw [show S.2.1 = 30 by omega]; rfl)
        rw [if_neg hlt] at k1 hok
        rw [hS.1, nI_1] at e1
        have f1 : m1.2.2.1 34 = nI (S.2.1 + 1) := by rw [e1]; simp [rs_s]
        have hc1 : Int32.toNatClampNeg (m1.2.2.1 34) = S.2.1 + 1 := by rw [f1, nI_clamp (by omega)]
        refine ⟨nI_pos (by omega), by rw [hcF]; omega, by rw [f1]; exact nI_pos (by omega), by rw [hc1]; omega, fun m2 e2 => ?_⟩
        rw [hc1, hcF] at e2
        have f2 : m2.2.2.1 34 = nI (S.2.1 + 1) := by rw [e2]; exact f1
        have hc2 : Int32.toNatClampNeg (m2.2.2.1 34) = S.2.1 + 1 := by rw [f2, nI_clamp (by omega)]
        refine ⟨nI_pos (by omega), by rw [hcF]; omega, by rw [f2]; exact nI_pos (by omega), by rw [hc2]; omega, fun m3 e3 => ?_⟩
        rw [hc2, hcF] at e3
        have d1 : m1.1 16 F = nI mk := by rw [e1]; exact hd
        have d2 : m2.1 15 F = nI vs.length := by rw [e2, e1]; exact hp
        rw [d1] at e2
        rw [d2] at e3
        have q1 : ∀ k i, k ≠ 24 → k ≠ 25 → m3.1 k i = m.1 k i := by
          intro k i h1 h2
          rw [e3, e2, e1]
          simp only [rs_i, rs_s]
          rw [if_neg (by omega), if_neg (by omega)]
        have q24 : ∀ i, m3.1 24 i = if i = S.2.1 + 1 then nI mk else m.1 24 i := by
          intro i
          rw [e3, e2, e1]
          simp [rs_i, rs_s]
        have q25 : ∀ i, m3.1 25 i = if i = S.2.1 + 1 then nI vs.length else m.1 25 i := by
          intro i
          rw [e3, e2, e1]
          simp [rs_i, rs_s]
        have q34 : m3.2.2.1 34 = nI (S.2.1 + 1) := by rw [e3]; exact f2
        have qs : ∀ k, k ≠ 34 → m3.2.2.1 k = m.2.2.1 k := by
          intro k hk
          rw [e3, e2, e1]
          simp only [rs_i, rs_s]
          rw [if_neg hk]
        have ql : m3.2.1 = m.2.1 := by rw [e3, e2, e1]; rfl
        -- the INPUTS are copied
        have C : ∀ (c i : Nat) (m4 : rm_M), i + c = vs.length → m4.1 = m3.1 → m4.2.2 = m3.2.2 → (∀ k q, k ≠ 26 → m4.2.1 k q = m.2.1 k q) → (∀ q, m4.2.1 26 q = if (S.2.1 + 1) * 4 ≤ q ∧ q < (S.2.1 + 1) * 4 + i then m.2.1 18 (F * 4 + (q - (S.2.1 + 1) * 4)) else m.2.1 26 q) → mr_Ok l G r (d + 2) mm_RM_describe 177 [(0, .ref r), (1, .int (nI F)), (2, .int (nI i))] [] m4 Q := by
          intro c
          induction c with
          | zero =>
            intro i m4 hi a1 a2 a3 a4
            have g34 : m4.2.2.1 34 = nI (S.2.1 + 1) := by rw [a2]; exact q34
            refine wr_describe_177 _ _ ⟨nI_pos (by omega), by rw [hcF]; omega, fun _ m5 e5 => ?_, fun z => absurd ?_ z⟩
            · rw [g34, show (1000000000000 : Int64) + (nI (S.2.1 + 1)).toInt64 = lz_pv S.2.1 by rw [nI_l (by omega)]; rfl] at e5
              have b1 : m5.1 = m3.1 := by rw [e5]; exact a1
              have b2 : m5.2.2.1 = m3.2.2.1 := by rw [e5]; show m4.2.2.1 = _; rw [a2]
              have b3 : m5.2.1 = m4.2.1 := by rw [e5]; rfl
              obtain ⟨s1, s2, s3, s4, s5, s6⟩ := hS
              refine k1 (lz_pv_bad (by omega)) m5 ⟨by rw [b2]; exact q34, by rw [b2, qs 35 (by omega)]; exact s2, fun j hj => ?_, fun p hp1 hp2 => ?_, fun b hb => by rw [b1, q1 31 _ (by omega) (by omega)]; exact s5 b hb, hok.1⟩ ⟨fun k i h1 h2 => by rw [b1]; exact q1 k i h1 h2, fun k i h1 => by rw [b3]; exact a3 k i h1, fun k h1 => by rw [b2]; exact qs k h1⟩ (by rw [e5]; rfl)
              · have hj : j < S.2.1 + 1 := hj
                by_cases hjs : j = S.2.1
                · subst hjs
                  simp only [if_true]
                  obtain ⟨z1, z2⟩ := s4 (S.2.1 + 1) (by omega) (by omega)
                  refine ⟨by rw [b1, q24, if_pos rfl], by rw [b1, q25, if_pos rfl], fun i' hi' => ?_, by rw [b1, q1 27 _ (by omega) (by omega), z1]; rfl, fun z => (by cases z), by rw [b1, q1 29 _ (by omega) (by omega), z2]; rfl⟩
                  have hi' : i' < vs.length := hi'
                  rw [b3, a4, if_pos (by omega), show (S.2.1 + 1) * 4 + i' - (S.2.1 + 1) * 4 = i' by omega]
                  exact hvs i' hi'
                · simp only [if_neg hjs]
                  have hjl : j < S.2.1 := by omega
                  obtain ⟨c1, c2, c3, c4, c5, c6⟩ := s3 j hjl
                  have hlj := (s6.2.1 j hjl).1
                  refine ⟨by rw [b1, q24, if_neg (by omega)]; exact c1, by rw [b1, q25, if_neg (by omega)]; exact c2, fun i' hi' => ?_, by rw [b1, q1 27 _ (by omega) (by omega)]; exact c4, fun z => by rw [b1, q1 28 _ (by omega) (by omega)]; exact c5 z, by rw [b1, q1 29 _ (by omega) (by omega)]; exact c6⟩
                  rw [b3, a4, if_neg (by omega)]
                  exact c3 i' hi'
              · have hp1 : S.2.1 + 1 < p := hp1
                rw [b1, q1 27 _ (by omega) (by omega), q1 29 _ (by omega) (by omega)]
                exact s4 p (by omega) hp2
            · rw [hcF, a1, q1 15 _ (by omega) (by omega), hp]
              exact nI_le (by omega) (by omega)
          | succ c ih =>
            intro i m4 hi a1 a2 a3 a4
            have g34 : m4.2.2.1 34 = nI (S.2.1 + 1) := by rw [a2]; exact q34
            refine wr_describe_177 _ _ ⟨nI_pos (by omega), by rw [hcF]; omega, fun z => absurd z ?_, fun _ => ?_⟩
            · rw [hcF, a1, q1 15 _ (by omega) (by omega), hp]
              exact nI_ge (by omega) (by omega)
            · rw [g34, show nI F * 4 = nI (F * 4) from pk_mul F 4, show nI (S.2.1 + 1) * 4 = nI ((S.2.1 + 1) * 4) from pk_mul (S.2.1 + 1) 4, nI_add, nI_add, nI_clamp (by omega), nI_clamp (by omega)]
              refine ⟨nI_pos (by omega), by omega, nI_pos (by omega), by omega, fun m5 e5 => ?_⟩
              rw [nI_1]
              refine ih (i + 1) m5 (by omega) (by rw [e5]; exact a1) (by rw [e5]; exact a2) (fun k q hk => ?_) (fun q => ?_)
              · rw [e5]
                simp only [rs_l]
                rw [if_neg (by omega)]
                exact a3 k q hk
              · rw [e5]
                show (if 26 = 26 ∧ q = (S.2.1 + 1) * 4 + i then m4.2.1 18 (F * 4 + i) else m4.2.1 26 q) = _
                by_cases hq : q = (S.2.1 + 1) * 4 + i
                · rw [if_pos ⟨rfl, hq⟩, if_pos (by omega), a3 18 _ (by omega), hq, show (S.2.1 + 1) * 4 + i - (S.2.1 + 1) * 4 = i by omega]
                · rw [if_neg (fun z => hq z.2), a4]
                  by_cases hq2 : (S.2.1 + 1) * 4 ≤ q ∧ q < (S.2.1 + 1) * 4 + i
                  · rw [if_pos hq2, if_pos (by omega)]
                  · rw [if_neg hq2, if_neg (by omega)]
        exact C vs.length 0 m3 (Nat.zero_add _) rfl rfl (fun k q _ => by rw [ql]) (fun q => by rw [if_neg (by omega), ql])
      · have z := Decidable.not_not.mp z
        rw [hS.1] at z
        have hge : 30 ≤ S.2.1 := Nat.le_of_eq ((nI_eq (b := 30) (by omega) (by omega)).mp z).symm
        rw [if_pos hge] at k9
        exact k9 (show lz_bad (-1000000000009) = true by decide) rfl rfl
      · rw [hS.1]
        exact nI_lt (by omega) (by omega)
    | succ c ih =>
      intro i hi hf
      have hi1 : i < S.2.1 := by omega
      obtain ⟨a1, a2, a3, a4, a5, a6⟩ := hS.2.2.1 i hi1
      have hli := (hS.2.2.2.2.2.2.1 i hi1).1
      have hci : Int32.toNatClampNeg (nI (i + 1)) = i + 1 := nI_clamp (by omega)
      -- the end of one comparison
      have h98 : ∀ b : Bool, b = lz_al S (nI mk) vs i → mr_Ok l G r (d + 2) mm_RM_describe 98 [(0, .ref r), (1, .int (nI F)), (2, .int (nI (i + 1))), (3, .int (lz_b b))] [] m Q := by
        intro b eb
        refine wr_describe_98 _ _ _ ⟨fun z => ?_, fun z m1 e1 => ?_⟩
        · rw [nI_1]
          rw [lz_fi, if_neg (by rw [← eb, lz_b0.mp z]; decide)] at hf
          exact ih (i + 1) (by omega) hf
        · rw [lz_fi, if_pos (by rw [← eb]; exact lz_b1.mp z)] at hf
          rw [← hf] at k1
          rw [show (1000000000000 : Int64) + (nI (i + 1)).toInt64 = lz_pv i by rw [nI_l (by omega)]; rfl] at e1
          exact k1 (lz_pv_bad (by omega)) m1 (by rw [e1]; exact hS.w (fun _ _ _ => rfl) (fun _ => rfl) (fun _ _ => rfl)) (by rw [e1]; exact ⟨fun _ _ _ _ => rfl, fun _ _ _ => rfl, fun _ _ => rfl⟩) (by rw [e1]; rfl)
      -- the comparison of the INPUTS
      have h49 : ∀ (b : Bool), (b = false → lz_al S (nI mk) vs i = false) → (b = true → (S.1 i).1 = nI mk ∧ (S.1 i).2.1.length = vs.length) → ∀ (c q : Nat), q + c = vs.length → (b = true → ∀ q', q' < q → (S.1 i).2.1[q']? = vs[q']?) → mr_Ok l G r (d + 2) mm_RM_describe 49 [(0, .ref r), (1, .int (nI F)), (2, .int (nI (i + 1))), (3, .int (lz_b b)), (4, .int (nI q))] [] m Q := by
        intro b hb0 hb1 c
        have hfalse : b = false → mr_Ok l G r (d + 2) mm_RM_describe 98 [(0, .ref r), (1, .int (nI F)), (2, .int (nI (i + 1))), (3, .int (lz_b b))] [] m Q := fun z => h98 b (by rw [z, hb0 z])
        induction c with
        | zero =>
          intro q hq he
          refine wr_describe_49 _ _ _ _ ⟨nI_pos (by omega), by rw [hcF]; omega, fun _ => ?_, fun z => absurd ?_ z⟩
          · cases hb : b
            · rw [← hb]
              exact hfalse hb
            · rw [← hb]
              refine h98 b ?_
              obtain ⟨u1, u2⟩ := hb1 hb
              rw [hb]
              unfold lz_al
              rw [decide_eq_true]
              refine ⟨u1, ?_⟩
              apply List.ext_getElem?
              intro q'
              rcases Nat.lt_or_ge q' vs.length with z | z
              · exact he hb q' (by omega)
              · rw [List.getElem?_eq_none (by omega), List.getElem?_eq_none (by omega)]
          · rw [hcF, hp]
            exact nI_le (by omega) (by omega)
        | succ c ihc =>
          intro q hq he
          refine wr_describe_49 _ _ _ _ ⟨nI_pos (by omega), by rw [hcF]; omega, fun z => absurd z ?_, fun _ => ⟨fun z => hfalse (lz_b0.mp z), fun z => ?_⟩⟩
          · rw [hcF, hp]
            exact nI_ge (by omega) (by omega)
          · have z := lz_b1.mp z
            obtain ⟨u1, u2⟩ := hb1 z
            rw [show nI F * 4 = nI (F * 4) from pk_mul F 4, show nI (i + 1) * 4 = nI ((i + 1) * 4) from pk_mul (i + 1) 4, nI_add, nI_add, nI_clamp (by omega), nI_clamp (by omega)]
            have g1 := a3 q (by omega)
            have g2 := hvs q (by omega)
            refine ⟨nI_pos (by omega), by omega, nI_pos (by omega), by omega, fun y => wr_describe_92 _ _ _ _ ?_, fun y => wr_describe_92 _ _ _ _ ?_⟩
            · rw [nI_1]
              refine ihc (q + 1) (by omega) (fun zb q' hq' => ?_)
              by_cases hqq : q' = q
              · rw [hqq, g1, g2, y]
              · exact he zb q' (by omega)
            · have hal : lz_al S (nI mk) vs i = false := by
                unfold lz_al
                rw [decide_eq_false]
                rintro ⟨-, e⟩
                rw [e, g2] at g1
                exact y (Option.some.inj g1).symm
              have e98 := h98 false hal.symm
              rw [nI_1]
              have e98 : mr_Ok l G r (d + 2) mm_RM_describe 98 [(0, .ref r), (1, .int (nI F)), (2, .int (nI (i + 1))), (3, .int 0)] [] m Q := e98
              exact wr_describe_49 _ _ _ _ ⟨nI_pos (by omega), by rw [hcF]; omega, fun _ => e98, fun _ => ⟨fun _ => e98, fun u => absurd rfl u⟩⟩
      have h44 : lz_al S (nI mk) vs i = false → mr_Ok l G r (d + 2) mm_RM_describe 44 [(0, .ref r), (1, .int (nI F)), (2, .int (nI (i + 1)))] [] m Q := fun z => wr_describe_44 _ _ (wr_describe_45 _ _ _ (h49 false (fun _ => z) (fun u => by cases u) vs.length 0 (Nat.zero_add _) (fun u => by cases u)))
      refine wr_describe_2 _ _ ⟨fun z => ?_, fun _ => ⟨nI_pos (by omega), by rw [hci]; omega, nI_pos (by omega), by rw [hcF]; omega, fun z => h44 ?_, fun z => ⟨nI_pos (by omega), by rw [hci]; omega, nI_pos (by omega), by rw [hcF]; omega, fun y => h44 ?_, fun y => wr_describe_45 _ _ _ ?_⟩⟩⟩
      · rw [hS.1] at z
        exact absurd z (nI_nlt (by omega) (by omega))
      · rw [hci, hcF, a1, hd] at z
        unfold lz_al
        rw [decide_eq_false (fun u => z u.1)]
      · rw [hci, hcF, a2, hp] at y
        unfold lz_al
        rw [decide_eq_false (fun u => y (by rw [u.2]))]
      · have z := Decidable.not_not.mp z
        have y := Decidable.not_not.mp y
        rw [hci, hcF, a1, hd] at z
        rw [hci, hcF, a2, hp] at y
        have y := (nI_eq (by omega) (by omega)).mp y
        exact h49 true (fun u => by cases u) (fun _ => ⟨z, y⟩) vs.length 0 (Nat.zero_add _) (fun _ q' hq' => absurd hq' (Nat.not_lt_zero _))
  exact wr_describe_0 _ (W S.2.1 0 (Nat.zero_add _) rfl)
end ROP
