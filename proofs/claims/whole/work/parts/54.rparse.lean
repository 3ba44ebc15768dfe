/-! THE REFERENCE reads the line: a stack of what is still wanted; (true, n): a list with n in it, (false, n): n are wanted. -/
def rp_st (m : rm_M) : List (Bool × Nat) → Prop
  | [] => True
  | x :: s => m.1 9 (s.length + 1) = lz_b x.1 ∧ (x.1 = true → m.1 10 (s.length + 1) = nI x.2) ∧ (x.1 = false → m.1 8 (s.length + 1) = nI x.2 ∧ 1 ≤ x.2 ∧ x.2 ≤ 3) ∧ rp_st m s
def rp_cm : List (Bool × Nat) → List (Bool × Nat)
  | [] => []
  | x :: s => if x.1 = true then (true, x.2 + 1) :: s else if x.2 ≤ 1 then rp_cm s else (false, x.2 - 1) :: s
theorem rp_st.keep {m m' : rm_M} : ∀ (s : List (Bool × Nat)), rp_st m s → (∀ k i, (k = 8 ∨ k = 9 ∨ k = 10) → i ≤ s.length → m'.1 k i = m.1 k i) → rp_st m' s := by
  intro s
  induction s with
  | nil => exact fun _ _ => trivial
  | cons x s ih =>
    intro h q
    obtain ⟨h1, h2, h3, h4⟩ := h
    exact ⟨(q _ _ (by simp) (Nat.le_refl _)).trans h1, fun z => (q _ _ (by simp) (Nat.le_refl _)).trans (h2 z), fun z => ⟨(q _ _ (by simp) (Nat.le_refl _)).trans (h3 z).1, (h3 z).2⟩, ih h4 (fun k i hk hi => q k i hk (by simp; omega))⟩
theorem rp_cm_len : ∀ s : List (Bool × Nat), (rp_cm s).length ≤ s.length := by
  intro s
  induction s with
  | nil => exact Nat.le_refl _
  | cons x s ih =>
    unfold rp_cm
    split
    · exact Nat.le_refl _
    split
    · simp
      omega
    · exact Nat.le_refl _
/-- m: the memory now; m0: at the reading's beginning; D: the greatest depth so far -/
def rp_I (m0 m : rm_M) (D : Nat) (st : List (Bool × Nat)) : Prop := rq m0 m ∧ rp_st m st ∧ m.2.2.1 11 = nI st.length ∧ m.2.2.1 7 = nI D ∧ st.length ≤ 9 ∧ D ≤ 8
theorem lz_hp_le {f : Nat → Bool × Nat} {h : Nat → Nat} {k : Nat} (hh : ∀ p, h p ≤ k) : ∀ n p, lz_hp f h n p ≤ k := by
  intro n
  induction n with
  | zero => exact fun _ => Nat.zero_le _
  | succ n ih =>
    intro p
    unfold lz_hp
    exact Nat.max_le.mpr ⟨hh p, ih _⟩
theorem lz_hl_le {f : Nat → Bool × Nat} {h : Nat → Nat} {t : List Int32} {k : Nat} (hh : ∀ p, h p ≤ k) : ∀ n p, lz_hl f h t n p ≤ k := by
  intro n
  induction n with
  | zero => exact fun _ => Nat.zero_le _
  | succ n ih =>
    intro p
    unfold lz_hl
    split
    · exact Nat.zero_le _
    · exact Nat.max_le.mpr ⟨hh p, ih _⟩
theorem lz_ht_le {t : List Int32} : ∀ k p, lz_ht t k p ≤ k := by
  intro k
  induction k with
  | zero => exact fun _ => Nat.le_refl _
  | succ k ih =>
    intro p
    unfold lz_ht
    split
    · omega
    split
    · have := lz_hl_le (f := lz_rd t k) (t := t) ih 4 (p + 3)
      omega
    · have := lz_hp_le (f := lz_rd t k) ih (lz_pa (lz_cd t p)) (p + 1)
      omega
theorem lz_ps_bad {f : Nat → Bool × Nat} {L : Nat} (hf : ∀ p, p ≤ L → ((f p).1 = false → (f p).2 ≤ L) ∧ ((f p).1 = true → (f p).2 ≤ L)) : ∀ n p, p ≤ L → (lz_ps f n p).2 ≤ L := by
  intro n
  induction n with
  | zero => exact fun p hp => hp
  | succ n ih =>
    intro p hp
    unfold lz_ps
    by_cases hc : (f p).1 = true
    · rw [if_pos hc]
      exact ih _ ((hf p hp).2 hc)
    · rw [if_neg hc]
      exact (hf p hp).1 (by simpa using hc)
theorem lz_ls_bad {f : Nat → Bool × Nat} {t : List Int32} (hf : ∀ p, p ≤ t.length → ((f p).1 = false → (f p).2 ≤ t.length) ∧ ((f p).1 = true → (f p).2 ≤ t.length)) : ∀ n p, p ≤ t.length → (lz_ls f t n p).2 ≤ t.length := by
  intro n
  induction n with
  | zero =>
    intro p hp
    unfold lz_ls
    by_cases hc : lz_cd t p = 41
    · rw [if_pos hc]
      have := lz_cd_in (t := t) (i := p) (by rw [hc]; decide)
      exact this
    · rw [if_neg hc]
      exact hp
  | succ n ih =>
    intro p hp
    unfold lz_ls
    by_cases hc : lz_cd t p = 41
    · rw [if_pos hc]
      have := lz_cd_in (t := t) (i := p) (by rw [hc]; decide)
      exact this
    rw [if_neg hc]
    by_cases hd : (f p).1 = true
    · rw [if_pos hd]
      exact ih _ ((hf p hp).2 hd)
    · rw [if_neg hd]
      exact (hf p hp).1 (by simpa using hd)
theorem lz_rd_le {t : List Int32} : ∀ k p, p ≤ t.length → (lz_rd t k p).2 ≤ t.length := by
  intro k
  induction k with
  | zero => exact fun p hp => hp
  | succ k ih =>
    intro p hp
    unfold lz_rd
    by_cases h1 : t.length ≤ p
    · rw [if_pos h1]
      exact hp
    rw [if_neg h1]
    split
    · show p + 1 ≤ _
      omega
    split
    · split
      · show p + 1 ≤ _
        omega
      · rename_i h4
        have hp1 : p + 1 < t.length := lz_cd_in (fun q => h4 (by rw [q]; decide))
        split
        · show p + 2 ≤ _
          omega
        · rename_i h5
          have hp2 : p + 2 < t.length := lz_cd_in (fun q => h5 (by rw [q]; decide))
          exact lz_ls_bad (fun q hq => ⟨fun _ => ih q hq, fun _ => ih q hq⟩) 4 (p + 3) (by omega)
    split
    · exact hp
    · exact lz_ps_bad (fun q hq => ⟨fun _ => ih q hq, fun _ => ih q hq⟩) _ (p + 1) (by omega)
theorem lz_rd_bad {t : List Int32} (k p : Nat) (_ : (lz_rd t k p).1 = false) (hp : p ≤ t.length ∧ t.length ≤ 24) : (lz_rd t k p).2 ≤ 24 := Nat.le_trans (lz_rd_le k p hp.1) hp.2
section RPA
variable {l : Launch} {G : mx_G} {r d : Nat} {m0 m : rm_M} {Q : Option Value → rm_M → Prop} {t : List Int32}
theorem r_complete {D : Nat} : ∀ (st : List (Bool × Nat)) (m : rm_M), rp_I m0 m D st → (∀ m2, rp_I m0 m2 D (rp_cm st) → Q none m2) → mr_Ok l G r (d + 1) mm_RM_complete 2 [(0, .ref r), (1, .int 1)] [] m Q := by
  intro st
  induction st with
  | nil =>
    intro m h k
    refine wr_complete_2 _ ⟨fun c => absurd c (by decide), fun _ => ⟨fun _ => k m h, fun c => absurd ?_ c⟩⟩
    rw [h.2.2.1]
    exact Int32.le_refl _
  | cons x s ih =>
    intro m h k
    obtain ⟨q1, q2, q3, q4, q5, q6⟩ := h
    obtain ⟨a1, a2, a3, a4⟩ := q2
    have q5' : s.length + 1 ≤ 9 := q5
    have q3' : m.2.2.1 11 = nI (s.length + 1) := q3
    have hc : Int32.toNatClampNeg (m.2.2.1 11) = s.length + 1 := by rw [q3', nI_clamp (by omega)]
    have hneg : ¬ m.2.2.1 11 < 0 := by rw [q3']; exact nI_pos (by omega)
    refine wr_complete_2 _ ⟨fun c => absurd c (by decide), fun _ => ⟨fun c => ?_, fun _ => ⟨hneg, by rw [hc]; omega, fun z => ⟨hneg, by rw [hc]; omega, hneg, by rw [hc]; omega, fun m1 e1 => ?_⟩, fun z => ⟨hneg, by rw [hc]; omega, hneg, by rw [hc]; omega, fun m1 e1 => ?_⟩⟩⟩⟩
    · rw [q3'] at c
      exact absurd c (nI_nle (by omega) (by omega))
    · rw [hc, a1] at z
      have hb := lz_b0.mp z
      obtain ⟨b1, b2, b3⟩ := a3 hb
      rw [hc, b1] at e1
      have e11 : m1.2.2.1 11 = nI (s.length + 1) := by rw [e1]; exact q3'
      have hc1 : Int32.toNatClampNeg (m1.2.2.1 11) = s.length + 1 := by rw [e11, nI_clamp (by omega)]
      have eb : nI x.2 - 1 = nI (x.2 - 1) := by
        obtain ⟨y, hy⟩ : ∃ y, x.2 = y + 1 := ⟨x.2 - 1, by omega⟩
        rw [hy, nI_pred]
        rfl
      rw [eb] at e1
      have r1 : m1.1 8 (s.length + 1) = nI (x.2 - 1) := by rw [e1]; simp [rs_i]
      have keep1 : rp_st m1 s := a4.keep s (fun k i hk hi => by
        rw [e1]
        simp only [rs_i]
        rw [if_neg (by omega)])
      have rq1 : rq m0 m1 := q1.tr (by rw [e1]; exact rq.ii rfl)
      refine ⟨by rw [e11]; exact nI_pos (by omega), by rw [hc1]; omega, fun y => ?_, fun y m2 e2 => ?_⟩
      · rw [hc1, r1] at y
        have hx1 : ¬ x.2 ≤ 1 := fun z => y (by rw [show x.2 - 1 = 0 by omega]; rfl)
        refine wr_complete_2 _ ⟨fun _ => k m1 ?_, fun c => absurd rfl c⟩
        unfold rp_cm
        rw [if_neg (by rw [hb]; decide), if_neg hx1]
        refine ⟨rq1, ⟨?_, fun z => (by cases z), fun _ => ⟨r1, by simp only; omega, by simp only; omega⟩, keep1⟩, e11, by rw [e1]; exact q4, q5, q6⟩
        rw [e1]
        simp only [rs_i]
        rw [if_neg (by omega), a1, hb]
      · have y := Decidable.not_not.mp y
        rw [hc1, r1] at y
        have hx1 : x.2 ≤ 1 := by
          rcases Nat.lt_or_ge 1 x.2 with z | z
          · exact absurd y (nI_ne0 (by omega) (by omega))
          · exact z
        rw [e11, nI_pred] at e2
        have keep2 : rp_st m2 s := keep1.keep s (fun k i hk hi => by rw [e2]; rfl)
        refine ih m2 ⟨rq1.tr (by rw [e2]; exact rq.ss rfl), keep2, by rw [e2]; simp [rs_s], by rw [e2, e1]; exact q4, by omega, q6⟩ (fun m3 h3 => k m3 ?_)
        unfold rp_cm
        rw [if_neg (by rw [hb]; decide), if_pos hx1]
        exact h3
    · rw [hc, a1] at z
      have hb := lz_b1.mp z
      have b1 := a2 hb
      rw [hc, b1, nI_1] at e1
      refine wr_complete_2 _ ⟨fun _ => k m1 ?_, fun c => absurd rfl c⟩
      unfold rp_cm
      rw [if_pos hb]
      refine ⟨q1.tr (by rw [e1]; exact rq.ii rfl), ⟨?_, fun _ => (by rw [e1]; simp [rs_i]), fun z => (by cases z), a4.keep s (fun k i hk hi => ?_)⟩, by rw [e1]; exact q3', by rw [e1]; exact q4, q5, q6⟩
      · rw [e1]
        simp only [rs_i]
        rw [if_neg (by omega), a1, hb]
      · rw [e1]
        simp only [rs_i]
        rw [if_neg (by omega)]
theorem r_deeper {D : Nat} {st : List (Bool × Nat)} {b : Bool} {n : Nat} (h : rp_I m0 m D st) (hl : st.length ≤ 8) (hn : n ≤ 3) (hb : b = false → 1 ≤ n) (hb2 : b = true → n = 0) (k : ∀ m2, rp_I m0 m2 D ((b, n) :: st) → Q none m2) : mr_C l G r (d + 1) mm_RM_deeper [.int (nI n), .int (lz_b b)] m Q := by
  obtain ⟨q1, q2, q3, q4, q5, q6⟩ := h
  refine wr_deeper_0 _ _ (fun m1 e1 => ?_)
  rw [q3, nI_1] at e1
  have e11 : m1.2.2.1 11 = nI (st.length + 1) := by rw [e1]; simp [rs_s]
  have hc : Int32.toNatClampNeg (m1.2.2.1 11) = st.length + 1 := by rw [e11, nI_clamp (by omega)]
  have hneg : ¬ m1.2.2.1 11 < 0 := by rw [e11]; exact nI_pos (by omega)
  refine ⟨hneg, by rw [hc]; omega, fun m2 e2 => ?_⟩
  rw [hc] at e2
  have e12 : m2.2.2.1 11 = m1.2.2.1 11 := by rw [e2]; rfl
  refine ⟨by rw [e12]; exact hneg, by rw [e12, hc]; omega, lz_b01 b, fun m3 e3 => ?_⟩
  rw [e12, hc] at e3
  have e13 : m3.2.2.1 11 = m1.2.2.1 11 := by rw [e3]; exact e12
  refine ⟨by rw [e13]; exact hneg, by rw [e13, hc]; omega, fun m4 e4 => ?_⟩
  rw [e13, hc] at e4
  refine k m4 ⟨q1.tr (rq.tr (m2 := m1) (by rw [e1]; exact rq.ss rfl) (rq.tr (m2 := m2) (by rw [e2]; exact rq.ii rfl) (rq.tr (m2 := m3) (by rw [e3]; exact rq.ii rfl) (by rw [e4]; exact rq.ii rfl)))), ⟨?_, fun z => ?_, fun z => ⟨?_, hb z, hn⟩, q2.keep st (fun k i hk hi => ?_)⟩, ?_, ?_, by simp; omega, q6⟩
  · rw [e4, e3]
    simp [rs_i]
  · rw [e4, hb2 z]
    simp [rs_i]
    rfl
  · rw [e4, e3, e2]
    simp [rs_i]
  · rw [e4, e3, e2, e1]
    simp only [rs_i, rs_s]
    rw [if_neg (by omega), if_neg (by omega), if_neg (by omega)]
  · rw [e4, e3, e2]
    exact e11
  · rw [e4, e3, e2, e1]
    exact q4
/-- the loop's head -/
abbrev rp_L (l : Launch) (G : mx_G) (r d : Nat) (m : rm_M) (s p : Nat) (Q : Option Value → rm_M → Prop) : Prop := mr_Ok l G r (d + 2) mm_RM_badPlace 20 [(0, .ref r), (1, .int (nI s)), (2, .int (nI p))] [] m Q
/-- the line has come to its end, and something is wanted -/
theorem rp_end (hx : rx_t m0 8 t) (hz : m0.1 1 8 = nI t.length) {D s p : Nat} {st : List (Bool × Nat)} (h : rp_I m0 m D st) (hst : st ≠ []) (hp : p = t.length) (k : ∀ m2, rq m0 m2 → Q (some (.int (nI t.length))) m2) : rp_L l G r d m s p Q := by
  have hlen := hx.1
  have e8 : m.1 1 (Int32.toNatClampNeg 8) = nI t.length := (h.1.1 1 8 rfl).trans hz
  have hl : 0 < st.length := List.length_pos_iff.mpr hst
  refine wr_badPlace_20 _ _ ⟨by decide, by decide, fun _ => ⟨fun _ => ⟨by decide, by decide, ?_⟩, fun c => absurd ?_ c⟩, fun c => absurd ?_ c⟩
  · rw [e8]
    exact k m h.1
  · rw [h.2.2.1]
    exact nI_ne0 hl (by have := h.2.2.2.2.1; omega)
  · rw [e8, hp]
    exact Int32.le_refl _
theorem rp_ch (hx : rx_t m0 8 t) (q : rq m0 m) {p : Nat} (hp : p < t.length) : ¬ (192 + nI p : Int32) < 0 ∧ Int32.toNatClampNeg (192 + nI p) < 240 ∧ m.1 0 (Int32.toNatClampNeg (192 + nI p)) = lz_cd t p := by
  have hlen := hx.1
  rw [show (192 : Int32) + nI p = nI (192 + p) from nI_add 192 p, nI_clamp (by omega)]
  exact ⟨nI_pos (by omega), by omega, (q.1 0 _ rfl).trans (hx.2 p hp)⟩
/-- a character, something being wanted, no name of a PLAN being read -/
theorem rp_go (hx : rx_t m0 8 t) (hz : m0.1 1 8 = nI t.length) {D p : Nat} {st : List (Bool × Nat)} (h : rp_I m0 m D st) (hst : st ≠ []) (hp : p < t.length) (hlist : ∀ n s, st = (true, n) :: s → ¬ lz_cd t p = 41) (k : mr_Ok l G r (d + 2) mm_RM_badPlace 130 [(0, .ref r), (1, .int 0), (2, .int (nI p)), (3, .int (lz_cd t p))] [] m Q) : rp_L l G r d m 0 p Q := by
  have hlen := hx.1
  have e8 : m.1 1 (Int32.toNatClampNeg 8) = nI t.length := (h.1.1 1 8 rfl).trans hz
  obtain ⟨a1, a2, a3⟩ := rp_ch hx h.1 hp
  have hl : 0 < st.length := List.length_pos_iff.mpr hst
  have hl9 := h.2.2.2.2.1
  have hlv : m.2.2.1 11 = nI st.length := h.2.2.1
  have hc : Int32.toNatClampNeg (m.2.2.1 11) = st.length := by rw [hlv, nI_clamp (by omega)]
  refine wr_badPlace_20 _ _ ⟨by decide, by decide, fun c => ?_, fun _ => ⟨a1, a2, fun _ => ⟨fun _ => ⟨fun _ => ⟨by rw [hlv]; exact nI_pos (by omega), by rw [hc]; omega, fun _ => ?_, fun z => ⟨fun _ => ?_, fun y => ?_⟩⟩, fun z => absurd (by decide) z⟩, fun z => absurd (by decide) z⟩, fun z => absurd ?_ z⟩⟩
  · rw [e8] at c
    exact absurd c (nI_ge hp (by omega))
  · rw [a3]
    exact k
  · rw [a3]
    exact k
  · exfalso
    rw [a3] at y
    cases st with
    | nil => exact hst rfl
    | cons x s =>
      obtain ⟨b, n⟩ := x
      have hb := h.2.1.1
      rw [hc] at z
      have z : ¬ m.1 9 (s.length + 1) = 0 := z
      rw [hb] at z
      have z := lz_b1.mp z
      simp only at z
      subst z
      exact hlist n s rfl (Decidable.not_not.mp y)
  · rw [hlv]
    exact nI_ne0 hl (by omega)
def rp_E (l : Launch) (G : mx_G) (r d : Nat) (m0 : rm_M) (t : List Int32) (k : Nat) : Prop := ∀ (p D : Nat) (st : List (Bool × Nat)) (m : rm_M) (Q : Option Value → rm_M → Prop), k + st.length = 9 → st ≠ [] → p ≤ t.length → (∀ n s, st = (true, n) :: s → n < 4 ∧ ¬ lz_cd t p = 41) → rp_I m0 m D st →
  ((lz_rd t k p).1 = true → ∀ m2, rp_I m0 m2 (max D (8 - k + lz_ht t k p)) (rp_cm st) → rp_L l G r d m2 0 (lz_rd t k p).2 Q) →
  ((lz_rd t k p).1 = false → ∀ m2, rq m0 m2 → Q (some (.int (nI (lz_rd t k p).2))) m2) → rp_L l G r d m 0 p Q
/-- the parts of a sign -/
theorem rp_ps {k : Nat} (ih : rp_E l G r d m0 t k) : ∀ (n p D : Nat) (st : List (Bool × Nat)) (m : rm_M), 1 ≤ n → k + st.length = 8 → p ≤ t.length → rp_I m0 m D ((false, n) :: st) →
    ((lz_ps (lz_rd t k) n p).1 = true → ∀ m2, rp_I m0 m2 (max D (8 - k + lz_hp (lz_rd t k) (lz_ht t k) n p)) (rp_cm st) → rp_L l G r d m2 0 (lz_ps (lz_rd t k) n p).2 Q) →
    ((lz_ps (lz_rd t k) n p).1 = false → ∀ m2, rq m0 m2 → Q (some (.int (nI (lz_ps (lz_rd t k) n p).2))) m2) → rp_L l G r d m 0 p Q := by
  intro n
  induction n with
  | zero =>
    intro p D st m h1
    exact absurd h1 (by omega)
  | succ n ihn =>
    intro p D st m _ hk hp h hs hf
    refine ih p D _ m Q (by simp; omega) (by simp) hp (fun _ _ e => by cases e) h (fun z m2 h2 => ?_) (fun z m2 h2 => ?_)
    · have hb := lz_rd_b (t := t) k p _ (Prod.ext z rfl)
      rw [lz_ps, if_pos z] at hs hf
      by_cases hn : n = 0
      · subst hn
        unfold rp_cm at h2
        rw [if_neg (by decide), if_pos (by simp)] at h2
        refine hs rfl m2 ?_
        simp only [lz_hp]
        rw [Nat.max_eq_left (Nat.zero_le _)]
        exact h2
      · unfold rp_cm at h2
        rw [if_neg (show ¬ false = true by decide), if_neg (by simp; omega)] at h2
        refine ihn _ _ st m2 (by omega) hk hb.2 h2 (fun y m3 h3 => hs y m3 ?_) hf
        rw [lz_hp]
        rw [show max D (8 - k + max (lz_ht t k p) (lz_hp (lz_rd t k) (lz_ht t k) n (lz_rd t k p).2)) = max (max D (8 - k + lz_ht t k p)) (8 - k + lz_hp (lz_rd t k) (lz_ht t k) n (lz_rd t k p).2) by omega]
        exact h3
    · rw [lz_ps, if_neg (by rw [z]; decide)] at hf
      exact hf z m2 h2
/-- the list of a D -/
theorem rp_ls (hx : rx_t m0 8 t) (hz : m0.1 1 8 = nI t.length) {k : Nat} (ih : rp_E l G r d m0 t k) : ∀ (n p D : Nat) (st : List (Bool × Nat)) (m : rm_M), n ≤ 4 → k + st.length = 8 → p ≤ t.length → rp_I m0 m D ((true, 4 - n) :: st) → 8 - k ≤ D →
    ((lz_ls (lz_rd t k) t n p).1 = true → ∀ m2, rp_I m0 m2 (max D (8 - k + lz_hl (lz_rd t k) (lz_ht t k) t n p)) (rp_cm st) → rp_L l G r d m2 0 (lz_ls (lz_rd t k) t n p).2 Q) →
    ((lz_ls (lz_rd t k) t n p).1 = false → ∀ m2, rq m0 m2 → Q (some (.int (nI (lz_ls (lz_rd t k) t n p).2))) m2) → rp_L l G r d m 0 p Q := by
  have hlen := hx.1
  have hclose : ∀ (p n D : Nat) (st : List (Bool × Nat)) (m : rm_M), k + st.length = 8 → rp_I m0 m D ((true, n) :: st) → lz_cd t p = 41 → (∀ m2, rp_I m0 m2 D (rp_cm st) → rp_L l G r d m2 0 (p + 1) Q) → rp_L l G r d m 0 p Q := by
    intro p n D st m hk h hc kk
    have hp : p < t.length := lz_cd_in (by rw [hc]; decide)
    have e8 : m.1 1 (Int32.toNatClampNeg 8) = nI t.length := (h.1.1 1 8 rfl).trans hz
    obtain ⟨a1, a2, a3⟩ := rp_ch hx h.1 hp
    have hlv : m.2.2.1 11 = nI (st.length + 1) := h.2.2.1
    have hcl : Int32.toNatClampNeg (m.2.2.1 11) = st.length + 1 := by rw [hlv, nI_clamp (by omega)]
    refine wr_badPlace_20 _ _ ⟨by decide, by decide, fun c => ?_, fun _ => ⟨a1, a2, fun _ => ⟨fun _ => ⟨fun _ => ⟨by rw [hlv]; exact nI_pos (by omega), by rw [hcl]; omega, fun z => ?_, fun z => ⟨fun y => ?_, fun y m1 e1 => ?_⟩⟩, fun z => absurd (by decide) z⟩, fun z => absurd (by decide) z⟩, fun z => absurd ?_ z⟩⟩
    · rw [e8] at c
      exact absurd c (nI_ge hp (by omega))
    · exfalso
      rw [hcl, h.2.1.1] at z
      exact absurd z (show ¬ lz_b true = 0 by decide)
    · exact absurd (a3.trans hc) y
    · rw [hlv, nI_pred] at e1
      have h1 : rp_I m0 m1 D st := ⟨h.1.tr (by rw [e1]; exact rq.ss rfl), h.2.1.2.2.2.keep st (fun k i hk hi => by rw [e1]; rfl), by rw [e1]; simp [rs_s], by rw [e1]; exact h.2.2.2.1, by omega, h.2.2.2.2.2⟩
      refine wr_complete_0 (r_complete st m1 h1 (fun m2 h2 => ⟨rfl, wr_badPlace_251 _ _ ?_⟩))
      rw [nI_1]
      exact kk m2 h2
    · rw [hlv]
      exact nI_ne0 (by omega) (by omega)
  intro n
  induction n with
  | zero =>
    intro p D st m hn hk hp h hD hs hf
    by_cases hc : lz_cd t p = 41
    · rw [lz_ls, if_pos hc] at hs
      refine hclose p _ D st m hk h hc (fun m2 h2 => hs rfl m2 ?_)
      simp only [lz_hl]
      rw [show max D (8 - k + 0) = D by omega]
      exact h2
    · rw [lz_ls, if_neg hc] at hf
      rcases Nat.lt_or_ge p t.length with hpl | hpl
      · refine rp_go hx hz h (by simp) hpl (fun _ _ _ => hc) ?_
        have hlv : m.2.2.1 11 = nI (st.length + 1) := h.2.2.1
        have hcl : Int32.toNatClampNeg (m.2.2.1 11) = st.length + 1 := by rw [hlv, nI_clamp (by omega)]
        refine wr_badPlace_130 _ _ _ ⟨fun _ => hf rfl m h.1, fun _ => ⟨by rw [hlv]; exact nI_pos (by omega), by rw [hcl]; omega, fun z => ?_, fun z => ⟨by rw [hlv]; exact nI_pos (by omega), by rw [hcl]; omega, fun y => ?_, fun _ => hf rfl m h.1⟩⟩⟩
        · exfalso
          rw [hcl, h.2.1.1] at z
          exact absurd z (show ¬ lz_b true = 0 by decide)
        · exfalso
          rw [hcl, h.2.1.2.1 rfl] at y
          exact y rfl
      · have : p = t.length := by omega
        subst this
        exact rp_end hx hz h (by simp) rfl (hf rfl)
  | succ n ihn =>
    intro p D st m hn hk hp h hD hs hf
    by_cases hc : lz_cd t p = 41
    · rw [lz_ls, if_pos hc] at hs
      refine hclose p _ D st m hk h hc (fun m2 h2 => hs rfl m2 ?_)
      simp only [lz_hl, if_pos hc]
      rw [show max D (8 - k + 0) = D by omega]
      exact h2
    · refine ih p D _ m Q (by simp; omega) (by simp) hp (fun n' s' e => by cases e; exact ⟨by omega, hc⟩) h (fun z m2 h2 => ?_) (fun z m2 h2 => ?_)
      · have hb := lz_rd_b (t := t) k p _ (Prod.ext z rfl)
        rw [lz_ls, if_neg hc, if_pos z] at hs hf
        unfold rp_cm at h2
        rw [if_pos rfl] at h2
        have h2 : rp_I m0 m2 (max D (8 - k + lz_ht t k p)) ((true, 4 - n) :: st) := by
          rw [show 4 - n = 4 - (n + 1) + 1 by omega]
          exact h2
        refine ihn _ _ st m2 (by omega) hk hb.2 h2 (by omega) (fun y m3 h3 => hs y m3 ?_) hf
        rw [lz_hl, if_neg hc]
        rw [show max D (8 - k + max (lz_ht t k p) (lz_hl (lz_rd t k) (lz_ht t k) t n (lz_rd t k p).2)) = max (max D (8 - k + lz_ht t k p)) (8 - k + lz_hl (lz_rd t k) (lz_ht t k) t n (lz_rd t k p).2) by omega]
        exact h3
      · rw [lz_ls, if_neg hc, if_neg (by rw [z]; decide)] at hf
        exact hf z m2 h2
/-- a character, while a D is being read -/
theorem rp_s1 (hx : rx_t m0 8 t) (hz : m0.1 1 8 = nI t.length) {D p : Nat} {st : List (Bool × Nat)} (h : rp_I m0 m D st) (hst : st ≠ []) (hp : p ≤ t.length) (k1 : lz_dg (lz_cd t p) = true → rp_L l G r d m 2 (p + 1) Q) (k0 : lz_dg (lz_cd t p) = false → ∀ m2, rq m0 m2 → Q (some (.int (nI p))) m2) : rp_L l G r d m 1 p Q := by
  have hlen := hx.1
  rcases Nat.lt_or_ge p t.length with hpl | hpl
  · have e8 : m.1 1 (Int32.toNatClampNeg 8) = nI t.length := (h.1.1 1 8 rfl).trans hz
    obtain ⟨a1, a2, a3⟩ := rp_ch hx h.1 hpl
    have hl : 0 < st.length := List.length_pos_iff.mpr hst
    have hl9 := h.2.2.2.2.1
    refine wr_badPlace_20 _ _ ⟨by decide, by decide, fun c => ?_, fun _ => ⟨a1, a2, fun _ => ⟨fun z => absurd rfl z, fun _ => ?_⟩, fun z => absurd ?_ z⟩⟩
    · rw [e8] at c
      exact absurd c (nI_ge hpl (by omega))
    · rw [a3]
      refine r_digit ⟨_, rfl, fun z => wr_badPlace_251 _ _ ?_, fun z => k0 (lz_b0.mp (Decidable.not_not.mp z)) m h.1⟩
      rw [nI_1]
      exact k1 (lz_b1.mp z)
    · rw [h.2.2.1]
      exact nI_ne0 hl (by omega)
  · have : p = t.length := by omega
    subst this
    exact rp_end hx hz h hst rfl (k0 (by rw [lz_cd_out (Nat.le_refl _)]; decide))
theorem rp_s2 (hx : rx_t m0 8 t) (hz : m0.1 1 8 = nI t.length) {D p : Nat} {st : List (Bool × Nat)} (h : rp_I m0 m D st) (hst : st ≠ []) (hl8 : st.length ≤ 8) (hp : p ≤ t.length) (k1 : lz_cd t p = 40 → ∀ m2, rp_I m0 m2 D ((true, 0) :: st) → rp_L l G r d m2 0 (p + 1) Q) (k0 : ¬ lz_cd t p = 40 → ∀ m2, rq m0 m2 → Q (some (.int (nI p))) m2) : rp_L l G r d m 2 p Q := by
  have hlen := hx.1
  rcases Nat.lt_or_ge p t.length with hpl | hpl
  · have e8 : m.1 1 (Int32.toNatClampNeg 8) = nI t.length := (h.1.1 1 8 rfl).trans hz
    obtain ⟨a1, a2, a3⟩ := rp_ch hx h.1 hpl
    have hl : 0 < st.length := List.length_pos_iff.mpr hst
    have hl9 := h.2.2.2.2.1
    refine wr_badPlace_20 _ _ ⟨by decide, by decide, fun c => ?_, fun _ => ⟨a1, a2, fun _ => ⟨fun _ => ⟨fun z => absurd rfl z, fun _ => ⟨fun z => ?_, fun z => k0 (by rw [← a3]; exact z) m h.1⟩⟩, fun z => absurd (by decide) z⟩, fun z => absurd ?_ z⟩⟩
    · rw [e8] at c
      exact absurd c (nI_ge hpl (by omega))
    · refine r_deeper (n := 0) (b := true) h hl8 (by omega) (fun z => by cases z) (fun _ => rfl) (fun m2 h2 => ⟨rfl, wr_badPlace_251 _ _ ?_⟩)
      rw [nI_1]
      exact k1 (by rw [← a3]; exact z) m2 h2
    · rw [h.2.2.1]
      exact nI_ne0 hl (by omega)
  · have : p = t.length := by omega
    subst this
    exact rp_end hx hz h hst rfl (k0 (by rw [lz_cd_out (Nat.le_refl _)]; decide))
theorem rp_e (hx : rx_t m0 8 t) (hz : m0.1 1 8 = nI t.length) : ∀ k, k ≤ 8 → rp_E l G r d m0 t k := by
  have hlen := hx.1
  intro k
  induction k with
  | zero =>
    intro _ p D st m Q hk hst hp hl h hs hf
    rcases Nat.lt_or_ge p t.length with hpl | hpl
    · refine rp_go hx hz h hst hpl (fun n s e => (hl n s e).2) ?_
      refine wr_badPlace_130 _ _ _ ⟨fun _ => hf rfl m h.1, fun c => absurd ?_ c⟩
      rw [h.2.2.1]
      exact nI_lt (a := 8) (by omega) (by omega)
    · have : p = t.length := by omega
      subst this
      exact rp_end hx hz h hst rfl (hf rfl)
  | succ k ih =>
    intro hk8 p D st m Q hk hst hp hl h hs hf
    rcases Nat.lt_or_ge p t.length with hpl | hpl
    · have hlv : m.2.2.1 11 = nI st.length := h.2.2.1
      have hD := h.2.2.2.2.2
      have hcl : Int32.toNatClampNeg (m.2.2.1 11) = st.length := by rw [hlv, nI_clamp (by omega)]
      have hneg : ¬ m.2.2.1 11 < 0 := by rw [hlv]; exact nI_pos (by omega)
      have hnl : ¬ t.length ≤ p := by omega
      -- behind the depth's count
      have h185 : ∀ m1, rp_I m0 m1 (max D (8 - k)) st → mr_Ok l G r (d + 2) mm_RM_badPlace 185 [(0, .ref r), (1, .int 0), (2, .int (nI p)), (3, .int (lz_cd t p))] [] m1 Q := by
        intro m1 h1
        have hlv1 : m1.2.2.1 11 = nI st.length := h1.2.2.1
        have hleaf : (lz_dg (lz_cd t p) || lz_lt (lz_cd t p)) = true → mr_Ok l G r (d + 2) mm_RM_badPlace 212 [(0, .ref r), (1, .int 0), (2, .int (nI p))] [] m1 Q := by
          intro hd
          have e : lz_rd t (k + 1) p = (true, p + 1) := by rw [lz_rd, if_neg hnl, if_pos hd]
          have eh : lz_ht t (k + 1) p = 1 := by rw [lz_ht, if_pos hd]
          rw [e, eh] at hs
          refine wr_badPlace_212 _ _ (wr_complete_0 (r_complete st m1 h1 (fun m2 h2 => ⟨rfl, wr_badPlace_251 _ _ ?_⟩)))
          rw [nI_1]
          refine hs rfl m2 ?_
          rw [show max D (8 - (k + 1) + 1) = max D (8 - k) by omega]
          exact h2
        refine wr_badPlace_185 _ _ _ ⟨fun c68 => r_digit ⟨_, rfl, fun z => hleaf (by rw [lz_b1.mp z]; rfl), fun z => r_name ⟨_, rfl, fun y => ?_, fun y => hleaf (by rw [lz_b1.mp y]; simp)⟩⟩, fun c68 => wr_badPlace_251 _ _ ?_⟩
        · have z := lz_b0.mp (Decidable.not_not.mp z)
          have y := lz_b0.mp y
          have h3 : ¬ (lz_dg (lz_cd t p) || lz_lt (lz_cd t p)) = true := by rw [z, y]; decide
          have hle := lz_pa_le (lz_cd t p)
          refine r_wants ⟨_, rfl, fun x => ?_, fun x => ⟨fun u => ?_, fun u => r_wants ⟨_, rfl, ?_⟩⟩⟩
          · have hz0 : lz_pa (lz_cd t p) = 0 := by
              rcases Nat.eq_zero_or_pos (lz_pa (lz_cd t p)) with q | q
              · exact q
              · exact absurd x (nI_nle q (by omega))
            have e : lz_rd t (k + 1) p = (false, p) := by rw [lz_rd, if_neg hnl, if_neg h3, if_neg c68, if_pos (Or.inl hz0)]
            rw [e] at hf
            exact hf rfl m1 h1.1
          · rw [hlv1] at u
            have : 8 ≤ st.length := (nI_leI (a := 8) (by omega) (by omega)).mp u
            have e : lz_rd t (k + 1) p = (false, p) := by rw [lz_rd, if_neg hnl, if_neg h3, if_neg c68, if_pos (Or.inr (by omega))]
            rw [e] at hf
            exact hf rfl m1 h1.1
          · rw [hlv1] at u
            have hL : ¬ 8 ≤ st.length := fun q => u (nI_le (a := 8) q (by omega))
            have hz0 : lz_pa (lz_cd t p) ≠ 0 := fun q => x (by rw [q]; decide)
            have e : lz_rd t (k + 1) p = lz_ps (lz_rd t k) (lz_pa (lz_cd t p)) (p + 1) := by rw [lz_rd, if_neg hnl, if_neg h3, if_neg c68, if_neg (by omega)]
            have eh : lz_ht t (k + 1) p = 1 + lz_hp (lz_rd t k) (lz_ht t k) (lz_pa (lz_cd t p)) (p + 1) := by rw [lz_ht, if_neg h3, if_neg c68]
            rw [e, eh] at hs
            rw [e] at hf
            refine r_deeper (n := lz_pa (lz_cd t p)) (b := false) h1 (by omega) hle (fun _ => by omega) (fun z => by cases z) (fun m2 h2 => ⟨rfl, wr_badPlace_251 _ _ ?_⟩)
            rw [nI_1]
            refine rp_ps (ih (by omega)) _ (p + 1) _ st m2 (by omega) (by omega) (by omega) h2 (fun v m3 h3 => hs v m3 ?_) hf
            rw [show max D (8 - (k + 1) + (1 + lz_hp (lz_rd t k) (lz_ht t k) (lz_pa (lz_cd t p)) (p + 1))) = max (max D (8 - k)) (8 - k + lz_hp (lz_rd t k) (lz_ht t k) (lz_pa (lz_cd t p)) (p + 1)) by omega]
            exact h3
        · have c68 := Decidable.not_not.mp c68
          have h3 : ¬ (lz_dg (lz_cd t p) || lz_lt (lz_cd t p)) = true := by rw [c68]; decide
          have eh : lz_ht t (k + 1) p = 1 + lz_hl (lz_rd t k) (lz_ht t k) t 4 (p + 3) := by rw [lz_ht, if_neg h3, if_pos c68]
          rw [eh] at hs
          rw [nI_1]
          rw [lz_rd, if_neg hnl, if_neg h3, if_pos c68] at hs hf
          refine rp_s1 hx hz h1 hst (by omega) (fun hd1 => ?_) (fun hd1 m2 h2 => ?_)
          · have hp1 : p + 1 < t.length := lz_cd_in (fun q => by rw [q] at hd1; exact absurd hd1 (by decide))
            rw [if_neg (by rw [hd1]; decide)] at hs hf
            refine rp_s2 hx hz h1 hst (by omega) (by omega) (fun h40 m2 h2 => ?_) (fun h40 m2 h2 => ?_)
            · rw [if_neg (not_not_intro h40)] at hs hf
              have hp2 : p + 2 < t.length := lz_cd_in (by rw [h40]; decide)
              refine rp_ls hx hz (ih (by omega)) 4 (p + 3) _ st m2 (Nat.le_refl _) (by omega) (by omega) h2 (by omega) (fun v m3 h3 => hs v m3 ?_) hf
              rw [show max D (8 - (k + 1) + (1 + lz_hl (lz_rd t k) (lz_ht t k) t 4 (p + 3))) = max (max D (8 - k)) (8 - k + lz_hl (lz_rd t k) (lz_ht t k) t 4 (p + 3)) by omega]
              exact h3
            · rw [if_pos h40] at hf
              exact hf rfl m2 h2
          · rw [if_pos hd1] at hf
            exact hf rfl m2 h2
      have h166 : mr_Ok l G r (d + 2) mm_RM_badPlace 166 [(0, .ref r), (1, .int 0), (2, .int (nI p)), (3, .int (lz_cd t p))] [] m Q := by
        refine wr_badPlace_166 _ _ _ ⟨fun z => h185 m ?_, fun z m1 e1 => h185 m1 ?_⟩
        · rw [hlv, h.2.2.2.1] at z
          have : st.length ≤ D := (nI_leI (by omega) (by omega)).mp z
          rw [show max D (8 - k) = D by omega]
          exact h
        · rw [hlv, h.2.2.2.1] at z
          have : ¬ st.length ≤ D := fun q => z (nI_le q (by omega))
          rw [show max D (8 - k) = st.length by omega]
          rw [hlv] at e1
          exact ⟨h.1.tr (by rw [e1]; exact rq.ss rfl), h.2.1.keep st (fun k i hk hi => by rw [e1]; rfl), by rw [e1]; exact hlv, by rw [e1]; simp [rs_s], h.2.2.2.2.1, by omega⟩
      refine rp_go hx hz h hst hpl (fun n s e => (hl n s e).2) ?_
      refine wr_badPlace_130 _ _ _ ⟨fun z => ?_, fun _ => ⟨hneg, by rw [hcl]; omega, fun _ => h166, fun z => ⟨hneg, by rw [hcl]; omega, fun _ => h166, fun y => ?_⟩⟩⟩
      · rw [hlv] at z
        exact absurd z (nI_nlt (b := st.length) (a := 8) (by omega) (by omega))
      · exfalso
        cases st with
        | nil => exact hst rfl
        | cons x s =>
          obtain ⟨b, n⟩ := x
          rw [hcl] at z y
          have z : ¬ m.1 9 (s.length + 1) = 0 := z
          rw [h.2.1.1] at z
          have z := lz_b1.mp z
          simp only at z
          subst z
          have hn := (hl n s rfl).1
          have y := Decidable.not_not.mp y
          have y : m.1 10 (s.length + 1) = 4 := y
          rw [h.2.1.2.1 rfl] at y
          have := (nI_eq (b := 4) (by simp only; omega) (by omega)).mp y
          simp only at this
          omega
    · have : p = t.length := by omega
      subst this
      have e : lz_rd t (k + 1) t.length = (false, t.length) := by rw [lz_rd, if_pos (Nat.le_refl _)]
      rw [e] at hf
      exact rp_end hx hz h hst rfl (hf rfl)
theorem r_badPlace (hx : rx_t m 8 t) (hz : m.1 1 8 = nI t.length) (k1 : (lz_line t).1 = true → lz_rd t 8 0 = (true, t.length) → ∀ m2, rq m m2 → m2.2.2.1 7 = nI (lz_line t).2 → Q (some (.int (-1))) m2) (k0 : (lz_line t).1 = false → ∀ m2, rq m m2 → (lz_line t).2 ≤ 24 → Q (some (.int (nI (lz_line t).2))) m2) : mr_C l G r (d + 2) mm_RM_badPlace [] m Q := by
  have hlen := hx.1
  refine wr_badPlace_0 (fun m1 e1 m2 e2 => ?_)
  have h2 : rp_I m m2 0 [] := ⟨rq.tr (m2 := m1) (by rw [e1]; exact rq.ss rfl) (by rw [e2]; exact rq.ss rfl), trivial, by rw [e2, e1]; rfl, by rw [e2]; rfl, by simp, by omega⟩
  refine r_deeper (n := 1) (b := false) h2 (by simp) (by omega) (fun _ => by omega) (fun z => by cases z) (fun m3 h3 => ⟨rfl, ?_⟩)
  refine rp_e (l := l) (G := G) (r := r) (d := d) hx hz 8 (Nat.le_refl _) 0 0 _ m3 Q rfl (by simp) (Nat.zero_le _) (fun _ _ e => by cases e) h3 (fun z m4 h4 => ?_) (fun z m4 h4 => ?_)
  · have hb := lz_rd_b (t := t) 8 0 (lz_rd t 8 0).2 (Prod.ext z rfl)
    have h4 : rp_I m m4 (lz_ht t 8 0) [] := by
      unfold rp_cm at h4
      rw [if_neg (by decide), if_pos (by simp)] at h4
      rw [show max 0 (8 - 8 + lz_ht t 8 0) = lz_ht t 8 0 by omega] at h4
      exact h4
    have e8 : m4.1 1 (Int32.toNatClampNeg 8) = nI t.length := (h4.1.1 1 8 rfl).trans hz
    have hl0 : m4.2.2.1 11 = 0 := h4.2.2.1
    rcases Nat.lt_or_ge (lz_rd t 8 0).2 t.length with hlt | hge
    · have e : lz_line t = (false, (lz_rd t 8 0).2) := by unfold lz_line; rw [if_pos z, if_pos hlt]
      obtain ⟨a1, a2, a3⟩ := rp_ch hx h4.1 hlt
      refine wr_badPlace_20 _ _ ⟨by decide, by decide, fun c => ?_, fun _ => ⟨a1, a2, fun c => absurd hl0 c, fun _ => ?_⟩⟩
      · rw [e8] at c
        exact absurd c (nI_ge hlt (by omega))
      · rw [e] at k0
        exact k0 rfl m4 h4.1 (by simp only; omega)
    · have e : lz_line t = (true, lz_ht t 8 0) := by unfold lz_line; rw [if_pos z, if_neg (by omega)]
      have e5 : (lz_rd t 8 0).2 = t.length := by omega
      refine wr_badPlace_20 _ _ ⟨by decide, by decide, fun _ => ⟨fun c => absurd hl0 c, fun _ => ?_⟩, fun c => absurd ?_ c⟩
      · rw [e] at k1
        exact k1 rfl (Prod.ext z e5) m4 h4.1 h4.2.2.2.1
      · rw [e8, e5]
        exact Int32.le_refl _
  · have e : lz_line t = (false, (lz_rd t 8 0).2) := by unfold lz_line; rw [if_neg (by rw [z]; decide)]
    rw [e] at k0
    refine k0 rfl m4 h4 ?_
    simp only
    exact lz_rd_bad _ _ z ⟨Nat.zero_le _, hlen⟩
end RPA
