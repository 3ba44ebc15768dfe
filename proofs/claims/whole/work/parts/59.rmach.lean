/-! THE REFERENCE works an EXPRESSION out with a stack of its own: the pieces. -/
theorem mx_Ok.up {S : mx_S} {l : Launch} {G : mx_G} {d d' pc : Nat} {M : mx_M} {lv : List (Nat × Value)} {st : List Value} {hs : mx_H} {Q : Option Value → mx_H → Prop} (h : mx_Ok S l G d M pc lv st hs Q) (hd : d ≤ d') : mx_Ok S l G d' M pc lv st hs Q := by
  obtain ⟨r, fin, ⟨h1, h2, h3⟩, hq⟩ := h
  exact ⟨r, fin, ⟨h1, h2, fun p e R s m args below meth c H locs cells slots ls Q' hF hK hR hl hlo hfr hld hc hsl kk => h3 p e R s m args below meth c H locs cells slots ls Q' hF hK hR hl hlo (Nat.le_trans hd hfr) (Nat.le_trans (Nat.mul_le_mul_left 48 hd) hld) hc hsl kk⟩, hq⟩
theorem mr_Ok.up {l : Launch} {G : mx_G} {r d d' pc : Nat} {M : mx_M} {lv : List (Nat × Value)} {st : List Value} {m : rm_M} {Q : Option Value → rm_M → Prop} (h : mr_Ok l G r d M pc lv st m Q) (hd : d ≤ d') : mr_Ok l G r d' M pc lv st m Q := fun hs h9 => (h hs h9).up hd
/-- what working out never changes -/
def rn (m0 m : rm_M) : Prop := (∀ i, m.1 0 i = m0.1 0 i) ∧ (∀ i, m.1 1 i = m0.1 1 i) ∧ m.1 3 8 = m0.1 3 8 ∧ m.2.1 2 8 = m0.2.1 2 8 ∧ m.2.2.1 6 = m0.2.2.1 6
def ms (m0 : rm_M) (T : Nat → List Int32) (m : rm_M) (w : lz_W) (F : Nat) : Prop := rn m0 m ∧ rx_W m T w ∧ m.2.2.1 19 = nI F
/-- the frames below F stand as they were -/
def fq (F : Nat) (m m' : rm_M) : Prop := (∀ k j, 12 ≤ k → k ≤ 16 → j < F → m'.1 k j = m.1 k j) ∧ ∀ i, i < 4 * F → m'.2.1 18 i = m.2.1 18 i
theorem fq.rf {F : Nat} {m : rm_M} : fq F m m := ⟨fun _ _ _ _ _ => rfl, fun _ _ => rfl⟩
theorem fq.tr {F : Nat} {m1 m2 m3 : rm_M} (h : fq F m1 m2) (k : fq F m2 m3) : fq F m1 m3 := ⟨fun a b c1 c2 c3 => (k.1 a b c1 c2 c3).trans (h.1 a b c1 c2 c3), fun a b => (k.2 a b).trans (h.2 a b)⟩
theorem fq.mono {F F' : Nat} {m m' : rm_M} (h : fq F' m m') (hF : F ≤ F') : fq F m m' := ⟨fun a b c1 c2 c3 => h.1 a b c1 c2 (by omega), fun a b => h.2 a (by omega)⟩
/-- a change of scratch -/
def rk (m m' : rm_M) : Prop := rq m m'
theorem ms.q {m0 m m' : rm_M} {T : Nat → List Int32} {w : lz_W} {F F' : Nat} (h : ms m0 T m w F) (q : rq m m') (hF : m'.2.2.1 19 = nI F') : ms m0 T m' w F' := by
  obtain ⟨⟨a1, a2, a3, a4, a5⟩, b, c⟩ := h
  exact ⟨⟨fun i => (q.1 0 i rfl).trans (a1 i), fun i => (q.1 1 i rfl).trans (a2 i), (q.1 3 8 rfl).trans a3, (q.2.1 2 8 (Or.inl rfl)).trans a4, (q.2.2 6 rfl).trans a5⟩, b.q q, hF⟩
theorem rx_t.n {m0 m m' : rm_M} {s : Nat} {t : List Int32} (h : rx_t m s t) (a : rn m0 m) (b : rn m0 m') : rx_t m' s t := ⟨h.1, fun i hi => ((b.1 _).trans (a.1 _).symm).trans (h.2 i hi)⟩
section RMA
variable {l : Launch} {G : mx_G} {r d : Nat} {m0 m : rm_M} {T : Nat → List Int32} {w : lz_W} {F : Nat} {Q : Option Value → rm_M → Prop}
abbrev rL (l : Launch) (G : mx_G) (r d : Nat) (m : rm_M) (Q : Option Value → rm_M → Prop) : Prop := mr_Ok l G r (d + 9) mm_RM_work 21 [(0, .ref r)] [] m Q
abbrev rP (l : Launch) (G : mx_G) (r d : Nat) (m : rm_M) (Q : Option Value → rm_M → Prop) : Prop := mr_Ok l G r (d + 9) mm_RM_work 93 [(0, .ref r)] [] m Q
abbrev rU (l : Launch) (G : mx_G) (r d : Nat) (m : rm_M) (Q : Option Value → rm_M → Prop) : Prop := mr_Ok l G r (d + 8) mm_RM_unwind 2 [(0, .ref r), (1, .int 0)] [] m (fun v m' => v = none ∧ rL l G r d m' Q)
def rF (l : Launch) (G : mx_G) (r d F : Nat) (m : rm_M) (Q : Option Value → rm_M → Prop) : Prop := if F = 0 then rL l G r d m Q else rU l G r d m Q
theorem rF.toL (h : rF l G r d F m Q) (hf : m.2.2.1 19 = nI F) (hF : F < 100) (hx : ¬ m.2.2.1 22 = 0) : rL l G r d m Q := by
  unfold rF at h
  by_cases h0 : F = 0
  · rw [if_pos h0] at h
    exact h
  · rw [if_neg h0] at h
    refine wr_work_21 ⟨fun c => ?_, fun _ => ⟨fun c => absurd c hx, fun _ => wr_unwind_0 h⟩⟩
    rw [hf] at c
    exact absurd c (nI_nle (by omega) (by omega))
theorem rF.toU (h : rF l G r d F m Q) (hf : m.2.2.1 19 = nI F) : rU l G r d m Q := by
  unfold rF at h
  by_cases h0 : F = 0
  · rw [if_pos h0] at h
    refine wr_unwind_2 _ ⟨fun _ => wr_unwind_85 _ ⟨fun c => absurd rfl c, fun _ => ⟨rfl, h⟩⟩, fun c => absurd ?_ c⟩
    rw [hf, h0]
    exact Int32.le_refl _
  · rw [if_neg h0] at h
    exact h
/-- a frame that catches nothing is passed -/
theorem rU_pass {c : Int32} (hf : m.2.2.1 19 = nI (F + 1)) (hF : F < 99) (hc : m.1 12 F = c) (hn : lz_lt c = false) (hT : c = 84 → ¬ m.1 15 F = 0 ∨ m.2.2.1 22 < -7 ∨ -4 < m.2.2.1 22) (k : ∀ m1, m1 = rs_s m 19 (nI F) → rF l G r d F m1 Q) : rU l G r d m Q := by
  refine wr_unwind_2 _ ⟨fun z => ?_, fun _ => ⟨fun z => absurd rfl z, fun _ m1 e1 => ?_⟩⟩
  · rw [hf] at z
    exact absurd z (nI_nle (by omega) (by omega))
  · rw [hf, nI_pred] at e1
    have e19 : m1.2.2.1 19 = nI F := by rw [e1]; simp [rs_s]
    have hc1 : Int32.toNatClampNeg (m1.2.2.1 19) = F := by rw [e19, nI_clamp (by omega)]
    have e12 : m1.1 12 F = c := by rw [e1]; exact hc
    have kend : mr_Ok l G r (d + 8) mm_RM_unwind 80 [(0, .ref r)] [] m1 (fun v m' => v = none ∧ rL l G r d m' Q) := wr_unwind_80 (wr_unwind_81 _ ((k m1 e1).toU e19))
    refine ⟨by rw [e19]; exact nI_pos (by omega), by rw [hc1]; omega, ?_⟩
    rw [hc1, e12]
    refine r_name ⟨_, rfl, fun _ => ?_, fun z => absurd (by rw [hn]; rfl) z⟩
    refine wr_unwind_51 _ ⟨fun _ => kend, fun z => ⟨by rw [e19]; exact nI_pos (by omega), by rw [hc1]; omega, fun _ => kend, fun y => ?_⟩⟩
    have z := Decidable.not_not.mp z
    have y := Decidable.not_not.mp y
    rw [hc1] at y
    have y : m.1 15 F = 0 := by rw [e1] at y; exact y
    have e22 : m1.2.2.1 22 = m.2.2.1 22 := by rw [e1]; rfl
    refine wr_mild_0 ⟨fun _ => ⟨_, rfl, fun _ => kend, fun c => absurd rfl c⟩, fun q1 => ⟨fun _ => ⟨_, rfl, fun _ => kend, fun c => absurd rfl c⟩, fun q2 => ?_⟩⟩
    exfalso
    rw [e22] at q1 q2
    rcases hT z with u | u | u
    · exact u y
    · exact q2 u
    · exact q1 u
/-- a name's frame is passed: it isn't being worked out any more -/
theorem rU_name {n : Nat} (hf : m.2.2.1 19 = nI (F + 1)) (hF : F < 99) (hn : n < 8) (hc : m.1 12 F = nI (n + 97)) (k : ∀ m1, m1 = rs_i (rs_s m 19 (nI F)) 5 n 0 → rF l G r d F m1 Q) : rU l G r d m Q := by
  refine wr_unwind_2 _ ⟨fun z => ?_, fun _ => ⟨fun z => absurd rfl z, fun _ m1 e1 => ?_⟩⟩
  · rw [hf] at z
    exact absurd z (nI_nle (by omega) (by omega))
  · rw [hf, nI_pred] at e1
    have e19 : m1.2.2.1 19 = nI F := by rw [e1]; simp [rs_s]
    have hc1 : Int32.toNatClampNeg (m1.2.2.1 19) = F := by rw [e19, nI_clamp (by omega)]
    have e12 : m1.1 12 F = nI (n + 97) := by rw [e1]; exact hc
    have hlt : lz_lt (nI (n + 97)) = true := by
      unfold lz_lt
      rw [decide_eq_true (show (97 : Int32) ≤ nI (n + 97) from nI_le (a := 97) (by omega) (by omega)), decide_eq_true (show nI (n + 97) < 105 from nI_lt (b := 105) (by omega) (by omega))]
      rfl
    have e97 : nI (n + 97) - 97 = nI n := by
      have := pk_sub (a := n + 97) (b := 97) (by omega)
      rw [show n + 97 - 97 = n by omega] at this
      exact this
    refine ⟨by rw [e19]; exact nI_pos (by omega), by rw [hc1]; omega, ?_⟩
    rw [hc1, e12]
    refine r_name ⟨_, rfl, fun z => absurd z (by rw [hlt]; decide), fun _ => ?_⟩
    rw [e97]
    refine ⟨nI_pos (by omega), by rw [nI_clamp (by omega)]; omega, fun m2 e2 => ?_⟩
    rw [nI_clamp (by omega)] at e2
    have e219 : m2.2.2.1 19 = nI F := by rw [e2]; exact e19
    refine wr_unwind_51 _ ⟨fun _ => wr_unwind_80 (wr_unwind_81 _ ((k m2 (by rw [e2, e1])).toU e219)), fun z => absurd ?_ z⟩
    intro z
    have := (nI_eq (b := 84) (by omega) (by omega)).mp z
    omega
/-- T catches -/
theorem rU_catch {a s : Int32} (hf : m.2.2.1 19 = nI (F + 1)) (hF : F < 99) (hc : m.1 12 F = 84) (hp : m.1 15 F = 0) (h4 : ¬ -4 < m.2.2.1 22) (h7 : ¬ m.2.2.1 22 < -7) (hs : m.1 13 F = s) (ha : m.1 14 F = a) (k : ∀ m1, m1 = rs_s (rs_s (rs_s m 19 (nI F)) 21 (m.2.2.1 21 + 1)) 22 0 → mr_C l G r (d + 7) mm_RM_begin [.int s, .int a] m1 (fun v m' => v = none ∧ rL l G r d m' Q)) : rU l G r d m Q := by
  refine wr_unwind_2 _ ⟨fun z => ?_, fun _ => ⟨fun z => absurd rfl z, fun _ m1 e1 => ?_⟩⟩
  · rw [hf] at z
    exact absurd z (nI_nle (by omega) (by omega))
  · rw [hf, nI_pred] at e1
    have e19 : m1.2.2.1 19 = nI F := by rw [e1]; simp [rs_s]
    have hc1 : Int32.toNatClampNeg (m1.2.2.1 19) = F := by rw [e19, nI_clamp (by omega)]
    have e12 : m1.1 12 F = 84 := by rw [e1]; exact hc
    have e22 : m1.2.2.1 22 = m.2.2.1 22 := by rw [e1]; rfl
    have e21 : m1.2.2.1 21 = m.2.2.1 21 := by rw [e1]; rfl
    refine ⟨by rw [e19]; exact nI_pos (by omega), by rw [hc1]; omega, ?_⟩
    rw [hc1, e12]
    refine r_name ⟨_, rfl, fun _ => ?_, fun z => absurd (by decide) z⟩
    refine wr_unwind_51 _ ⟨fun z => absurd rfl z, fun z => ⟨by rw [e19]; exact nI_pos (by omega), by rw [hc1]; omega, fun y => absurd ?_ y, fun _ => wr_mild_0 ⟨fun y => ?_, fun _ => ⟨fun y => ?_, fun _ => ⟨_, rfl, fun c => absurd c (by decide), fun _ => wr_unwind_81 _ ?_⟩⟩⟩⟩⟩
    · rw [hc1, e1]
      exact hp
    · rw [e22] at y
      exact absurd y h4
    · rw [e22] at y
      exact absurd y h7
    · have hend : mr_Ok l G r (d + 8) mm_RM_unwind 85 [(0, .ref r), (1, .int 1)] [] m1 (fun v m' => v = none ∧ rL l G r d m' Q) := by
        refine wr_unwind_85 _ ⟨fun _ m2 e2 m3 e3 => ?_, fun z => absurd (by decide) z⟩
        have e319 : m3.2.2.1 19 = nI F := by rw [e3, e2]; exact e19
        have hc3 : Int32.toNatClampNeg (m3.2.2.1 19) = F := by rw [e319, nI_clamp (by omega)]
        refine ⟨by rw [e319]; exact nI_pos (by omega), by rw [hc3]; omega, by rw [e319]; exact nI_pos (by omega), by rw [hc3]; omega, ?_⟩
        rw [hc3, show m3.1 13 F = s by rw [e3, e2, e1]; exact hs, show m3.1 14 F = a by rw [e3, e2, e1]; exact ha]
        rw [e21] at e2
        exact (k m3 (by rw [e3, e2, e1])).mono (fun v m' q => ⟨q.1, rfl, q.2⟩)
      refine wr_unwind_2 _ ⟨fun _ => hend, fun _ => ⟨fun _ => hend, fun z => absurd (by decide) z⟩⟩
/-- the loop's head, a frame just laid -/
theorem rL_push (hf : m.2.2.1 19 = nI (F + 1)) (hF : F < 99) (hx : m.2.2.1 22 = 0) (hp : m.2.2.1 17 = 1) (k : rP l G r d m Q) : rL l G r d m Q := by
  refine wr_work_21 ⟨fun c => ?_, fun _ => ⟨fun _ => ⟨fun _ => k, fun z => absurd ?_ z⟩, fun z => absurd hx z⟩⟩
  · rw [hf] at c
    exact absurd c (nI_nle (by omega) (by omega))
  · rw [hp]
    decide
/-- the loop's head, a VALUE for the latest frame -/
theorem rL_val {q : Nat} (hf : m.2.2.1 19 = nI (F + 1)) (hF : F < 99) (hx : m.2.2.1 22 = 0) (hp : m.2.2.1 17 = 0) (hq : m.1 15 F = nI q) (hq4 : q < 4) (k : ∀ m1, m1 = rs_i (rs_l m 18 (F * 4 + q) m.2.2.2) 15 F (nI (q + 1)) → rP l G r d m1 Q) : rL l G r d m Q := by
  have e1 : m.2.2.1 19 - 1 = nI F := by rw [hf, nI_pred]
  have hc : Int32.toNatClampNeg (nI F) = F := nI_clamp (by omega)
  have e4 : m.2.2.1 19 * 4 - 4 + m.1 15 F = nI (F * 4 + q) := by
    rw [hf, show nI (F + 1) * 4 = nI ((F + 1) * 4) from pk_mul (F + 1) 4, show nI ((F + 1) * 4) - 4 = nI ((F + 1) * 4 - 4) from pk_sub (b := 4) (by omega), hq, nI_add, show (F + 1) * 4 - 4 + q = F * 4 + q by omega]
  refine wr_work_21 ⟨fun c => ?_, fun _ => ⟨fun _ => ⟨fun z => absurd hp z, fun _ => ?_⟩, fun z => absurd hx z⟩⟩
  · rw [hf] at c
    exact absurd c (nI_nle (by omega) (by omega))
  · rw [e1, hc, e4]
    refine ⟨nI_pos (by omega), by omega, nI_pos (by omega), by rw [nI_clamp (by omega)]; omega, fun m2 e2 => ?_⟩
    rw [nI_clamp (by omega)] at e2
    have e21 : m2.2.2.1 19 - 1 = nI F := by rw [e2]; exact e1
    rw [e21, hc]
    refine ⟨nI_pos (by omega), by omega, nI_pos (by omega), by omega, fun m3 e3 => k m3 ?_⟩
    rw [show m2.1 15 F = nI q by rw [e2]; exact hq, nI_1] at e3
    rw [e3, e2]
end RMA
