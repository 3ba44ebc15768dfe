/-! THE REFERENCE: a step of the latest frame. -/
section RPR
variable {l : Launch} {G : mx_G} {r d : Nat} {m0 m : rm_M} {T : Nat → List Int32} {w : lz_W} {F : Nat} {Q : Option Value → rm_M → Prop}
abbrev r129 (l : Launch) (G : mx_G) (r d F : Nat) (c s : Int32) (x : Int32) (m : rm_M) (Q : Option Value → rm_M → Prop) : Prop := mr_Ok l G r (d + 8) mm_RM_proceed 129 [(0, .ref r), (1, .int (nI F)), (2, .int c), (3, .int s)] [.int x] m (fun v m' => v = none ∧ rL l G r d m' Q)
abbrev rB (l : Launch) (G : mx_G) (r d : Nat) (s a : Int32) (m : rm_M) (Q : Option Value → rm_M → Prop) : Prop := mr_C l G r (d + 7) mm_RM_begin [.int s, .int a] m (fun v m' => v = none ∧ rL l G r d m' Q)
theorem lz_lt_c {n : Nat} (hn : n < 8) : lz_lt (nI (n + 97)) = true ∧ nI (n + 97) - 97 = nI n := by
  refine ⟨?_, ?_⟩
  · unfold lz_lt
    rw [decide_eq_true (show (97 : Int32) ≤ nI (n + 97) from nI_le (a := 97) (by omega) (by omega)), decide_eq_true (show nI (n + 97) < 105 from nI_lt (b := 105) (by omega) (by omega))]
    rfl
  · have := pk_sub (a := n + 97) (b := 97) (by omega)
    rw [show n + 97 - 97 = n by omega] at this
    exact this
theorem r129_more {c : Int32} {s a e k : Nat} {t : List Int32} (hc : lz_lt c = false) (hF : F < 99) (hx : rx_t m s t) (hs : s ≤ 9) (hk : k ≤ 8) (hr : lz_rd t k a = (true, e)) (ha : m.1 14 F = nI a) (kk : ∀ m1, m1 = rs_i m 14 F (nI e) → rB l G r d (nI s) (nI a) m1 Q) : r129 l G r d F c (nI s) 1 m Q := by
  have hcF : Int32.toNatClampNeg (nI F) = F := nI_clamp (by omega)
  refine wr_proceed_129 _ _ _ _ ⟨fun z => absurd z (by decide), fun _ => r_name ⟨_, rfl, fun _ => ⟨nI_pos (by omega), by rw [hcF]; omega, ?_⟩, fun z => absurd (by rw [hc]; rfl) z⟩⟩
  rw [hcF, ha]
  refine wr_proceed_154 _ _ _ _ (r_name ⟨_, rfl, fun _ => ?_, fun z => absurd (by rw [hc]; rfl) z⟩)
  refine wr_proceed_172 _ _ _ _ _ (r_name ⟨_, rfl, fun _ => r_behind hx hs hk hr ⟨_, rfl, ?_⟩, fun z => absurd (by rw [hc]; rfl) z⟩)
  refine wr_proceed_198 _ _ _ _ ⟨nI_pos (by omega), by rw [hcF]; omega, fun m1 e1 => ?_⟩
  rw [hcF] at e1
  exact (kk m1 e1).mono (fun v m' q => ⟨q.1, rfl, q.2⟩)
theorem r129_moren {n : Nat} {s : Int32} (hn : n < 8) (hF : F < 99) (kk : ∀ m1, m1 = rs_i m 14 F 0 → rB l G r d (nI n) (nI 0) m1 Q) : r129 l G r d F (nI (n + 97)) s 1 m Q := by
  have hcF : Int32.toNatClampNeg (nI F) = F := nI_clamp (by omega)
  obtain ⟨hc, e97⟩ := lz_lt_c hn
  refine wr_proceed_129 _ _ _ _ ⟨fun z => absurd z (by decide), fun _ => r_name ⟨_, rfl, fun z => absurd z (by rw [hc]; decide), fun _ => ?_⟩⟩
  refine wr_proceed_154 _ _ _ _ (r_name ⟨_, rfl, fun z => absurd z (by rw [hc]; decide), fun _ => ?_⟩)
  rw [e97]
  refine wr_proceed_172 _ _ _ _ _ (r_name ⟨_, rfl, fun z => absurd z (by rw [hc]; decide), fun _ => ?_⟩)
  refine wr_proceed_198 _ _ _ _ ⟨nI_pos (by omega), by rw [hcF]; omega, fun m1 e1 => ?_⟩
  rw [hcF] at e1
  exact (kk m1 e1).mono (fun v m' q => ⟨q.1, rfl, q.2⟩)
/-- the memory as a frame has ended -/
def rdn (m : rm_M) (F : Nat) : rm_M := rs_r (rs_s (rs_s m 19 (nI F)) 17 0) (m.2.1 18 (F * 4))
theorem r129_done {c s : Int32} (hf : m.2.2.1 19 = nI (F + 1)) (hF : F < 99)
    (kn : ∀ n, n < 8 → c = nI (n + 97) → ∀ m1, m1 = rs_i (rs_i (rs_l (rdn m F) 2 n (m.2.1 18 (F * 4))) 3 n 1) 5 n 0 → rL l G r d m1 Q)
    (kq : c = 63 → mr_C l G r (d + 7) mm_RM_isNumber [.long (m.2.1 18 (F * 4))] (rdn m F) (fun r12 m13 => ∃ x14 : Int32, r12 = some (.int x14) ∧ ((¬ x14 = 0 → ((m13.2.2.2 = 0 → (mr_C l G r (d + 7) mm_RM_behind [.int s, .int (m13.1 14 F)] m13 (fun r15 m16 => ∃ x17 : Int32, r15 = some (.int x17) ∧ rB l G r d s x17 m16 Q))) ∧ (¬ (m13.2.2.2 = 0) → rB l G r d s (m13.1 14 F) m13 Q))) ∧ (¬ (¬ x14 = 0) → ∀ m18, m18 = rs_s m13 22 (-5) → rL l G r d m18 Q))))
    (kD : c = 68 → mr_C l G r (d + 7) mm_RM_describe [.int (nI F)] (rdn m F) (fun v m' => v = none ∧ rL l G r d m' Q))
    (kO : c = 79 → mr_C l G r (d + 7) mm_RM_order [.int (nI F)] (rdn m F) (fun v m' => v = none ∧ rL l G r d m' Q))
    (kT : c = 84 → rL l G r d (rdn m F) Q)
    (k33 : c = 33 → ∀ m1, m1 = rs_l (rdn m F) 18 (F * 4 + 1) 0 → mr_C l G r (d + 7) mm_RM_operate [.int (nI F)] m1 (fun v m' => v = none ∧ rL l G r d m' Q))
    (ko : lz_lt c = false → ¬ c = 63 → ¬ c = 68 → ¬ c = 79 → ¬ c = 84 → ¬ c = 33 → mr_C l G r (d + 7) mm_RM_operate [.int (nI F)] (rdn m F) (fun v m' => v = none ∧ rL l G r d m' Q)) : r129 l G r d F c s 0 m Q := by
  have hcF : Int32.toNatClampNeg (nI F) = F := nI_clamp (by omega)
  have e4 : nI F * 4 = nI (F * 4) := pk_mul F 4
  refine wr_proceed_129 _ _ _ _ ⟨fun _ m1 e1 m2 e2 => ?_, fun z => absurd rfl z⟩
  rw [e4]
  refine ⟨nI_pos (by omega), by rw [nI_clamp (by omega)]; omega, fun m3 e3 => ?_⟩
  rw [nI_clamp (by omega)] at e3
  have e30 : m3 = rdn m F := by
    rw [e3, e2, e1, hf, nI_pred]
    rfl
  have hv : m3.2.2.2 = m.2.1 18 (F * 4) := by rw [e30]; rfl
  have w : ∀ {v : Option Value} {m' : rm_M}, (v = none ∧ rL l G r d m' Q) → v = none ∧ ((none : Option Value) = none ∧ rL l G r d m' Q) := fun q => ⟨q.1, rfl, q.2⟩
  refine r_name ⟨_, rfl, fun z => ⟨fun c63 => ⟨fun c68 => ⟨fun c79 => ⟨fun c84 => ⟨rfl, by rw [e30]; exact kT c84⟩, fun c84 => ⟨fun c33 => wr_proceed_393 _ ?_, fun c33 => ?_⟩⟩, fun c79 => ?_⟩, fun c68 => ?_⟩, fun c63 => ?_⟩, fun z => ?_⟩
  · rw [e30]
    exact (ko (lz_b0.mp z) c63 c68 c79 c84 c33).mono (fun v m' q => w q)
  · rw [show nI (F * 4) + 1 = nI (F * 4 + 1) from nI_1 _]
    refine ⟨nI_pos (by omega), by rw [nI_clamp (by omega)]; omega, fun m7 e7 => wr_proceed_393 _ ?_⟩
    rw [nI_clamp (by omega), e30] at e7
    exact (k33 (Decidable.not_not.mp c33) m7 e7).mono (fun v m' q => w q)
  · rw [e30]
    exact (kO (Decidable.not_not.mp c79)).mono (fun v m' q => w q)
  · rw [e30]
    exact (kD (Decidable.not_not.mp c68)).mono (fun v m' q => w q)
  · rw [hv, e30]
    refine (kq (Decidable.not_not.mp c63)).mono (fun v m' q => ?_)
    obtain ⟨x14, e14, q1, q2⟩ := q
    refine ⟨x14, e14, fun u => ⟨fun y => ⟨nI_pos (by omega), by rw [hcF]; omega, ?_⟩, fun y => ⟨nI_pos (by omega), by rw [hcF]; omega, wr_proceed_336 _ _ ?_⟩⟩, fun u m18 e18 => ⟨rfl, q2 u m18 e18⟩⟩
    · rw [hcF]
      refine ((q1 u).1 y).mono (fun v m' q => ?_)
      obtain ⟨x17, e17, q3⟩ := q
      exact ⟨x17, e17, wr_proceed_336 _ _ (q3.mono (fun v m' q => w q))⟩
    · rw [hcF]
      exact ((q1 u).2 y).mono (fun v m' q => w q)
  · obtain ⟨n, n1, n2, n3⟩ := lz_lt_n (lz_b1.mp z)
    rw [n2, nI_clamp (by omega)]
    refine ⟨nI_pos (by omega), by omega, fun m19 e19 => ⟨nI_pos (by omega), by omega, fun m20 e20 => ⟨nI_pos (by omega), by omega, fun m21 e21 => ⟨rfl, kn n n1 n3 m21 ?_⟩⟩⟩⟩
    rw [e21, e20, e19, hv, e30]
/-- proceed's first rows -/
theorem rP_go {c s : Int32} (hf : m.2.2.1 19 = nI (F + 1)) (hF : F < 99) (hc : m.1 12 F = c) (hs : m.1 13 F = s)
    (kn : lz_lt c = true → (¬ m.1 15 F = 0 → r129 l G r d F c s 0 m Q) ∧ (m.1 15 F = 0 → r129 l G r d F c s 1 m Q))
    (kD : c = 68 → ¬ (s * 24 + m.1 14 F) < 0 ∧ Int32.toNatClampNeg (s * 24 + m.1 14 F) < 240 ∧ (m.1 0 (Int32.toNatClampNeg (s * 24 + m.1 14 F)) = 41 → r129 l G r d F c s 0 m Q) ∧ (¬ m.1 0 (Int32.toNatClampNeg (s * 24 + m.1 14 F)) = 41 → r129 l G r d F c s 1 m Q))
    (kq : c = 63 ∨ c = 84 → (¬ m.1 15 F = 0 → r129 l G r d F c s 0 m Q) ∧ (m.1 15 F = 0 → r129 l G r d F c s 1 m Q))
    (ko : lz_lt c = false → ¬ c = 68 → ¬ c = 63 → ¬ c = 84 → (nI (lz_pa c) ≤ m.1 15 F → r129 l G r d F c s 0 m Q) ∧ (¬ nI (lz_pa c) ≤ m.1 15 F → r129 l G r d F c s 1 m Q)) : rP l G r d m Q := by
  have hcF : Int32.toNatClampNeg (nI F) = F := nI_clamp (by omega)
  have e1 : m.2.2.1 19 - 1 = nI F := by rw [hf, nI_pred]
  refine wr_work_93 (wr_proceed_0 ?_)
  rw [e1, hcF, hc, hs]
  have hq : c = 63 ∨ c = 84 → mr_Ok l G r (d + 8) mm_RM_proceed 93 [(0, .ref r), (1, .int (nI F)), (2, .int c), (3, .int s)] [] m (fun v m' => v = none ∧ rL l G r d m' Q) := by
    intro h
    refine wr_proceed_93 _ _ _ ⟨nI_pos (by omega), by rw [hcF]; omega, fun z => ?_, fun z => ?_⟩
    · rw [hcF] at z
      exact (kq h).1 z
    · rw [hcF] at z
      exact (kq h).2 (Decidable.not_not.mp z)
  refine ⟨nI_pos (by omega), by omega, nI_pos (by omega), by omega, r_name ⟨_, rfl, fun z => ⟨fun c68 => ⟨fun c63 => hq (Or.inl c63), fun c63 => ⟨fun c84 => ⟨nI_pos (by omega), by omega, r_wants ⟨_, rfl, fun y => ?_, fun y => ?_⟩⟩, fun c84 => hq (Or.inr (Decidable.not_not.mp c84))⟩⟩, fun c68 => ⟨nI_pos (by omega), by omega, ?_⟩⟩, fun z => ⟨nI_pos (by omega), by omega, fun y => ?_, fun y => ?_⟩⟩⟩
  · exact (ko (lz_b0.mp z) c68 c63 c84).1 y
  · exact (ko (lz_b0.mp z) c68 c63 c84).2 y
  · exact kD (Decidable.not_not.mp c68)
  · exact (kn (lz_b1.mp z)).1 y
  · exact (kn (lz_b1.mp z)).2 (Decidable.not_not.mp y)
/-- begin lays a frame -/
theorem r_lay {c : Int32} {s p : Nat} {t : List Int32} (hf : m.2.2.1 19 = nI F) (hF : F < 99) (hx : rx_t m s t) (hs : s ≤ 9) (hp : p < t.length) (hD : c = 68 → p + 1 < t.length) (hx22 : m.2.2.1 22 = 0)
    (k : ∀ m1, rq m m1 → m1.2.2.1 19 = nI (F + 1) → m1.2.2.1 22 = 0 → m1.2.2.1 17 = 1 → fq F m m1 → m1.1 12 F = c → m1.1 13 F = nI s → m1.1 14 F = nI (p + if c = 68 then 3 else 1) → m1.1 15 F = 0 → (c = 68 → m1.1 16 F = lz_cd t (p + 1) - 48) → Q none m1) : mr_Ok l G r (d + 1) mm_RM_begin 82 [(0, .ref r), (1, .int (nI s)), (2, .int (nI p)), (3, .int c)] [] m Q := by
  have hcF : Int32.toNatClampNeg (nI F) = F := nI_clamp (by omega)
  have hlen := hx.1
  have h165 : ∀ m5, rq m m5 → m5.2.2.1 = m.2.2.1 → fq F m m5 → m5.1 12 F = c → m5.1 13 F = nI s → m5.1 14 F = nI (p + if c = 68 then 3 else 1) → m5.1 15 F = 0 → (c = 68 → m5.1 16 F = lz_cd t (p + 1) - 48) → mr_Ok l G r (d + 1) mm_RM_begin 165 [(0, .ref r)] [] m5 Q := by
    intro m5 q1 q2 q3 q4 q5 q6 q7 q8
    refine wr_begin_165 (fun m6 e6 m7 e7 => ?_)
    rw [show m5.2.2.1 19 = nI F by rw [q2]; exact hf, nI_1] at e6
    refine k m7 (q1.tr (rq.tr (m2 := m6) (by rw [e6]; exact rq.ss rfl) (by rw [e7]; exact rq.ss rfl))) (by rw [e7, e6]; simp [rs_s]) (by rw [e7, e6]; simp [rs_s]; rw [q2]; exact hx22) (by rw [e7]; simp [rs_s]) (q3.tr ⟨fun _ _ _ _ _ => by rw [e7, e6]; rfl, fun _ _ => by rw [e7, e6]; rfl⟩) (by rw [e7, e6]; exact q4) (by rw [e7, e6]; exact q5) (by rw [e7, e6]; exact q6) (by rw [e7, e6]; exact q7) (fun z => by rw [e7, e6]; exact q8 z)
  refine wr_begin_82 _ _ _ ?_
  rw [hf, hcF]
  refine ⟨nI_pos (by omega), by omega, fun m1 e1 => ?_⟩
  have f1 : m1.2.2.1 19 = nI F := by rw [e1]; exact hf
  rw [f1, hcF]
  refine ⟨nI_pos (by omega), by omega, fun m2 e2 => ?_⟩
  have f2 : m2.2.2.1 19 = nI F := by rw [e2]; exact f1
  have h122 : ∀ x : Nat, (x = if c = 68 then 3 else 1) → mr_Ok l G r (d + 1) mm_RM_begin 122 [(0, .ref r), (1, .int (nI s)), (2, .int (nI p)), (3, .int c)] [.int (nI x), .int (nI p), .int (nI F), .ref (r + 12)] m2 Q := by
    intro x ex
    refine wr_begin_122 _ _ _ _ _ _ ?_
    rw [nI_add, hcF]
    refine ⟨nI_pos (by omega), by omega, fun m3 e3 => ?_⟩
    have f3 : m3.2.2.1 19 = nI F := by rw [e3]; exact f2
    rw [f3, hcF]
    refine ⟨nI_pos (by omega), by omega, fun m4 e4 => ?_⟩
    have c12 : m4.1 12 F = c := by rw [e4, e3, e2, e1]; simp [rs_i]
    have c13 : m4.1 13 F = nI s := by rw [e4, e3, e2]; simp [rs_i]
    have c14 : m4.1 14 F = nI (p + if c = 68 then 3 else 1) := by rw [e4, e3, ← ex]; simp [rs_i]
    have c15 : m4.1 15 F = 0 := by rw [e4]; simp [rs_i]
    have q4 : rq m m4 := rq.tr (m2 := m1) (by rw [e1]; exact rq.ii rfl) (rq.tr (m2 := m2) (by rw [e2]; exact rq.ii rfl) (rq.tr (m2 := m3) (by rw [e3]; exact rq.ii rfl) (by rw [e4]; exact rq.ii rfl)))
    have g4 : fq F m m4 := by
      refine ⟨fun k j h1 h2 h3 => ?_, fun i hi => by rw [e4, e3, e2, e1]; rfl⟩
      rw [e4, e3, e2, e1]
      simp only [rs_i]
      rw [if_neg (by omega), if_neg (by omega), if_neg (by omega), if_neg (by omega)]
    have s4 : m4.2.2.1 = m.2.2.1 := by rw [e4, e3, e2, e1]; rfl
    refine ⟨fun z => h165 m4 q4 s4 g4 c12 c13 c14 c15 (fun u => absurd u z), fun z => ?_⟩
    have z := Decidable.not_not.mp z
    have hp1 := hD z
    obtain ⟨a1, a2, a3⟩ := rb_ix (hx.q q4) hs hp1
    rw [show nI s * 24 + nI p + 1 = nI s * 24 + nI (p + 1) by rw [Int32.add_assoc, nI_1]]
    have f4 : m4.2.2.1 19 = nI F := by rw [s4]; exact hf
    rw [f4, hcF]
    refine ⟨a1, a2, nI_pos (by omega), by omega, fun m5 e5 => ?_⟩
    rw [a3] at e5
    refine h165 m5 (q4.tr (by rw [e5]; exact rq.ii rfl)) (by rw [e5]; exact s4) (g4.tr ⟨fun k j h1 h2 h3 => ?_, fun _ _ => by rw [e5]; rfl⟩) (by rw [e5]; exact c12) (by rw [e5]; exact c13) (by rw [e5]; exact c14) (by rw [e5]; exact c15) (fun _ => by rw [e5]; simp [rs_i])
    rw [e5]
    simp only [rs_i]
    rw [if_neg (by omega)]
  rw [f2]
  refine ⟨fun z => h122 1 (by rw [if_neg z]), fun z => h122 3 (by rw [if_pos (Decidable.not_not.mp z)])⟩
end RPR
