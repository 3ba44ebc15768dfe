/-! THE REFERENCE: behind, the end of an EXPRESSION. -/
section RBH
variable {l : Launch} {G : mx_G} {r d : Nat} {m : rm_M} {Q : Option Value → rm_M → Prop} {t : List Int32} {s : Nat}
theorem rb_ix {m : rm_M} {s : Nat} {t : List Int32} (h : rx_t m s t) (hs : s ≤ 9) {p : Nat} (hp : p < t.length) : ¬ (nI s * 24 + nI p) < 0 ∧ Int32.toNatClampNeg (nI s * 24 + nI p) < 240 ∧ m.1 0 (Int32.toNatClampNeg (nI s * 24 + nI p)) = lz_cd t p := by
  have h24 := h.1
  rw [show nI s * 24 = nI (s * 24) from pk_mul s 24, nI_add, nI_clamp (by omega)]
  exact ⟨nI_pos (by omega), by omega, h.2 p hp⟩
/-- a character within brackets that is no bracket -/
theorem rb_ch (h : rx_t m s t) (hs : s ≤ 9) {p j : Nat} {w c : Int32} (hp : p < t.length) (h40 : ¬ lz_cd t p = 40) (h41 : ¬ lz_cd t p = 41) (k : mr_Ok l G r (d + 1) mm_RM_behind 39 [(0, .ref r), (1, .int (nI s)), (3, .int w), (4, .int (nI (p + 1))), (5, .int c), (6, .int (nI (j + 1)))] [] m Q) (hj : j < 100) : mr_Ok l G r (d + 1) mm_RM_behind 39 [(0, .ref r), (1, .int (nI s)), (3, .int w), (4, .int (nI p)), (5, .int c), (6, .int (nI (j + 1)))] [] m Q := by
  obtain ⟨e1, e2, e3⟩ := rb_ix h hs hp
  refine wr_behind_39 _ _ _ _ _ ⟨fun z => absurd z (nI_nle (by omega) (by omega)), fun _ => ⟨e1, e2, fun _ => ⟨fun _ => wr_behind_83 _ _ _ _ _ _ ?_, fun z => absurd ?_ z⟩, fun z => absurd ?_ z⟩⟩
  · rw [nI_1, Int32.add_zero]
    exact k
  · rw [e3]
    exact h41
  · rw [e3]
    exact h40
theorem rb_open (h : rx_t m s t) (hs : s ≤ 9) {p j : Nat} {w c : Int32} (hp : p < t.length) (h40 : lz_cd t p = 40) (k : mr_Ok l G r (d + 1) mm_RM_behind 39 [(0, .ref r), (1, .int (nI s)), (3, .int w), (4, .int (nI (p + 1))), (5, .int c), (6, .int (nI (j + 2)))] [] m Q) (hj : j < 100) : mr_Ok l G r (d + 1) mm_RM_behind 39 [(0, .ref r), (1, .int (nI s)), (3, .int w), (4, .int (nI p)), (5, .int c), (6, .int (nI (j + 1)))] [] m Q := by
  obtain ⟨e1, e2, e3⟩ := rb_ix h hs hp
  refine wr_behind_39 _ _ _ _ _ ⟨fun z => absurd z (nI_nle (by omega) (by omega)), fun _ => ⟨e1, e2, fun z => absurd (e3.trans h40) z, fun _ => wr_behind_83 _ _ _ _ _ _ ?_⟩⟩
  rw [nI_1, nI_1]
  exact k
theorem rb_close (h : rx_t m s t) (hs : s ≤ 9) {p j : Nat} {w c : Int32} (hp : p < t.length) (h41 : lz_cd t p = 41) (k : mr_Ok l G r (d + 1) mm_RM_behind 39 [(0, .ref r), (1, .int (nI s)), (3, .int w), (4, .int (nI (p + 1))), (5, .int c), (6, .int (nI j))] [] m Q) (hj : j < 100) : mr_Ok l G r (d + 1) mm_RM_behind 39 [(0, .ref r), (1, .int (nI s)), (3, .int w), (4, .int (nI p)), (5, .int c), (6, .int (nI (j + 1)))] [] m Q := by
  obtain ⟨e1, e2, e3⟩ := rb_ix h hs hp
  refine wr_behind_39 _ _ _ _ _ ⟨fun z => absurd z (nI_nle (by omega) (by omega)), fun _ => ⟨e1, e2, fun _ => ⟨fun z => absurd (e3.trans h41) z, fun _ => wr_behind_83 _ _ _ _ _ _ ?_⟩, fun z => absurd ?_ z⟩⟩
  · rw [nI_1, pk_m1]
    exact k
  · rw [e3, h41]
    decide
/-- the brackets of an EXPRESSION are even -/
def rb_In (l : Launch) (G : mx_G) (r d : Nat) (m : rm_M) (s : Nat) (t : List Int32) (k : Nat) : Prop := ∀ (p e j : Nat) (w c : Int32) (Q : Option Value → rm_M → Prop), lz_rd t k p = (true, e) → j + k < 90 → mr_Ok l G r (d + 1) mm_RM_behind 39 [(0, .ref r), (1, .int (nI s)), (3, .int w), (4, .int (nI e)), (5, .int c), (6, .int (nI (j + 1)))] [] m Q → mr_Ok l G r (d + 1) mm_RM_behind 39 [(0, .ref r), (1, .int (nI s)), (3, .int w), (4, .int (nI p)), (5, .int c), (6, .int (nI (j + 1)))] [] m Q
theorem rb_ps {k : Nat} (ih : rb_In l G r d m s t k) {j : Nat} {w c : Int32} (hj : j + k < 90) : ∀ (n p e : Nat), lz_ps (lz_rd t k) n p = (true, e) → mr_Ok l G r (d + 1) mm_RM_behind 39 [(0, .ref r), (1, .int (nI s)), (3, .int w), (4, .int (nI e)), (5, .int c), (6, .int (nI (j + 1)))] [] m Q → mr_Ok l G r (d + 1) mm_RM_behind 39 [(0, .ref r), (1, .int (nI s)), (3, .int w), (4, .int (nI p)), (5, .int c), (6, .int (nI (j + 1)))] [] m Q := by
  intro n
  induction n with
  | zero =>
    intro p e h k
    rw [lz_ps_0 h]
    exact k
  | succ n ihn =>
    intro p e h k
    obtain ⟨f1, f2⟩ := lz_ps_s h
    exact ih p _ j w c Q f1 hj (ihn _ _ f2 k)
theorem rb_ls (hx : rx_t m s t) (hs : s ≤ 9) {k : Nat} (ih : rb_In l G r d m s t k) {j : Nat} {w c : Int32} (hj : j + k < 90) : ∀ (n p e : Nat), lz_ls (lz_rd t k) t n p = (true, e) → mr_Ok l G r (d + 1) mm_RM_behind 39 [(0, .ref r), (1, .int (nI s)), (3, .int w), (4, .int (nI e)), (5, .int c), (6, .int (nI j))] [] m Q → mr_Ok l G r (d + 1) mm_RM_behind 39 [(0, .ref r), (1, .int (nI s)), (3, .int w), (4, .int (nI p)), (5, .int c), (6, .int (nI (j + 1)))] [] m Q := by
  intro n
  induction n with
  | zero =>
    intro p e h k
    unfold lz_ls at h
    by_cases hc : lz_cd t p = 41
    · rw [if_pos hc] at h
      simp only [Prod.mk.injEq, true_and] at h
      subst h
      exact rb_close hx hs (lz_cd_in (by rw [hc]; decide)) hc k (by omega)
    · rw [if_neg hc] at h
      cases h
  | succ n ihn =>
    intro p e h k
    by_cases hc : lz_cd t p = 41
    · unfold lz_ls at h
      rw [if_pos hc] at h
      simp only [Prod.mk.injEq, true_and] at h
      subst h
      exact rb_close hx hs (lz_cd_in (by rw [hc]; decide)) hc k (by omega)
    · obtain ⟨f1, f2⟩ := lz_ls_s h hc
      exact ih p _ j w c Q f1 (by omega) (ihn _ _ f2 k)
theorem lz_rd_cases {t : List Int32} {k p e : Nat} (h : lz_rd t (k + 1) p = (true, e)) : p < t.length ∧ (((lz_dg (lz_cd t p) || lz_lt (lz_cd t p)) = true ∧ e = p + 1) ∨ (lz_cd t p = 68 ∧ lz_dg (lz_cd t (p + 1)) = true ∧ lz_cd t (p + 2) = 40 ∧ lz_ls (lz_rd t k) t 4 (p + 3) = (true, e)) ∨ ((lz_dg (lz_cd t p) || lz_lt (lz_cd t p)) = false ∧ ¬ lz_cd t p = 68 ∧ lz_pa (lz_cd t p) ≠ 0 ∧ lz_ps (lz_rd t k) (lz_pa (lz_cd t p)) (p + 1) = (true, e))) := by
  have hb := lz_rd_b _ _ _ h
  refine ⟨by omega, ?_⟩
  by_cases h1 : (lz_dg (lz_cd t p) || lz_lt (lz_cd t p)) = true
  · left
    refine ⟨h1, ?_⟩
    rw [lz_rd, if_neg (by omega), if_pos h1] at h
    simp only [Prod.mk.injEq, true_and] at h
    omega
  · by_cases h68 : lz_cd t p = 68
    · right
      left
      exact ⟨h68, lz_rd_D h h68⟩
    · right
      right
      have h1 : (lz_dg (lz_cd t p) || lz_lt (lz_cd t p)) = false := by simpa using h1
      have hd : lz_dg (lz_cd t p) = false := by
        cases q : lz_dg (lz_cd t p)
        · rfl
        · rw [q] at h1
          cases h1
      have hl : lz_lt (lz_cd t p) = false := by
        rw [hd] at h1
        exact h1
      obtain ⟨a1, a2, a3⟩ := lz_rd_op h hd hl h68
      exact ⟨h1, h68, a1, a3⟩
theorem lz_dg40 {c : Int32} (h : lz_dg c = true) : ¬ c = 40 ∧ ¬ c = 41 := ⟨fun e => by subst e; exact absurd h (by decide), fun e => by subst e; exact absurd h (by decide)⟩
theorem rb_in (hx : rx_t m s t) (hs : s ≤ 9) : ∀ k, rb_In l G r d m s t k := by
  intro k
  induction k with
  | zero =>
    intro p e j w c Q h
    simp [lz_rd] at h
  | succ k ih =>
    intro p e j w c Q h hj kk
    obtain ⟨hp, hc⟩ := lz_rd_cases h
    rcases hc with ⟨h1, rfl⟩ | ⟨h1, h2, h3, h4⟩ | ⟨h1, h2, h3, h4⟩
    · exact rb_ch hx hs hp (fun z => by rw [z] at h1; exact absurd h1 (by decide)) (fun z => by rw [z] at h1; exact absurd h1 (by decide)) kk (by omega)
    · have hp2 : p + 2 < t.length := lz_cd_in (by rw [h3]; decide)
      refine rb_ch hx hs hp (by rw [h1]; decide) (by rw [h1]; decide) ?_ (by omega)
      refine rb_ch hx hs (by omega) (lz_dg40 h2).1 (lz_dg40 h2).2 ?_ (by omega)
      refine rb_open hx hs hp2 h3 ?_ (by omega)
      exact rb_ls hx hs ih (j := j + 1) (by omega) 4 _ _ h4 kk
    · refine rb_ch hx hs hp (fun z => h3 (by rw [z]; decide)) (fun z => h3 (by rw [z]; decide)) ?_ (by omega)
      exact rb_ps ih (by omega) _ _ _ h4 kk
/-- an EXPRESSION is passed, one is wanted less -/
def rb_Out (l : Launch) (G : mx_G) (r d : Nat) (m : rm_M) (s : Nat) (t : List Int32) (k : Nat) : Prop := ∀ (p e w : Nat) (Q : Option Value → rm_M → Prop), lz_rd t k p = (true, e) → w + 3 * k < 200 → mr_Ok l G r (d + 2) mm_RM_behind 5 [(0, .ref r), (1, .int (nI s)), (3, .int (nI w)), (4, .int (nI e))] [] m Q → mr_Ok l G r (d + 2) mm_RM_behind 5 [(0, .ref r), (1, .int (nI s)), (3, .int (nI (w + 1))), (4, .int (nI p))] [] m Q
theorem rb_ops {k : Nat} (ih : rb_Out l G r d m s t k) : ∀ (n p e w : Nat), lz_ps (lz_rd t k) n p = (true, e) → w + n + 3 * k < 200 → mr_Ok l G r (d + 2) mm_RM_behind 5 [(0, .ref r), (1, .int (nI s)), (3, .int (nI w)), (4, .int (nI e))] [] m Q → mr_Ok l G r (d + 2) mm_RM_behind 5 [(0, .ref r), (1, .int (nI s)), (3, .int (nI (w + n))), (4, .int (nI p))] [] m Q := by
  intro n
  induction n with
  | zero =>
    intro p e w h _ k
    rw [lz_ps_0 h]
    exact k
  | succ n ihn =>
    intro p e w h hw k
    obtain ⟨f1, f2⟩ := lz_ps_s h
    exact ih p _ (w + n) Q f1 (by omega) (ihn _ _ w f2 (by omega) k)
theorem rb_out (hx : rx_t m s t) (hs : s ≤ 9) : ∀ k, k ≤ 8 → rb_Out l G r d m s t k := by
  intro k
  induction k with
  | zero =>
    intro _ p e w Q h
    simp [lz_rd] at h
  | succ k ih =>
    intro hk8 p e w Q h hw kk
    obtain ⟨hp, hc⟩ := lz_rd_cases h
    obtain ⟨e1, e2, e3⟩ := rb_ix hx hs hp
    have fin : ∀ (q : Nat) (c : Int32), mr_Ok l G r (d + 2) mm_RM_behind 5 [(0, .ref r), (1, .int (nI s)), (3, .int (nI (w + lz_pa c))), (4, .int (nI q))] [] m Q → mr_Ok l G r (d + 2) mm_RM_behind 92 [(0, .ref r), (1, .int (nI s)), (3, .int (nI (w + 1))), (4, .int (nI q)), (5, .int c)] [] m Q := by
      intro q c kq
      refine wr_behind_92 _ _ _ _ (r_wants ⟨_, rfl, ?_⟩)
      rw [show nI (w + 1) + (nI (lz_pa c) - 1) = nI (w + lz_pa c) by
        rw [Int32.sub_eq_add_neg, Int32.add_comm (nI (lz_pa c)), ← Int32.add_assoc, pk_m1, nI_add]]
      exact kq
    rcases hc with ⟨h1, rfl⟩ | ⟨h1, h2, h3, h4⟩ | ⟨h1, h2, h3, h4⟩
    · refine wr_behind_5 _ _ _ ⟨fun z => absurd z (nI_nle (by omega) (by omega)), fun _ => ⟨e1, e2, fun z => ?_, fun z => absurd ?_ z⟩⟩
      · rw [nI_1, e3]
        have hpa : lz_pa (lz_cd t p) = 0 := by
          have h68 : ¬ lz_cd t p = 68 := by rw [← e3]; exact z
          unfold lz_pa
          rw [if_neg (by rintro (q | q) <;> (rw [q] at h1; exact absurd h1 (by decide))), if_neg (by rintro (q | q | q | q | q) <;> (rw [q] at h1; exact absurd h1 (by decide))), if_neg (by intro q; rw [q] at h1; exact absurd h1 (by decide))]
        refine fin _ _ ?_
        rw [hpa]
        exact kk
      · rw [e3]
        intro q
        rw [q] at h1
        exact absurd h1 (by decide)
    · refine wr_behind_5 _ _ _ ⟨fun z => absurd z (nI_nle (by omega) (by omega)), fun _ => ⟨e1, e2, fun z => absurd (e3.trans h1) z, fun _ => ?_⟩⟩
      rw [nI_1, show nI (p + 1) + 2 = nI (p + 3) from nI_add (p + 1) 2, e3]
      refine rb_ls hx hs (rb_in hx hs k) (j := 0) (by omega) 4 _ _ h4 ?_
      refine wr_behind_39 _ _ _ _ _ ⟨fun _ => ?_, fun z => absurd (by decide) z⟩
      refine fin _ _ ?_
      rw [h1, show lz_pa 68 = 0 by decide]
      exact kk
    · refine wr_behind_5 _ _ _ ⟨fun z => absurd z (nI_nle (by omega) (by omega)), fun _ => ⟨e1, e2, fun _ => ?_, fun z => absurd ?_ z⟩⟩
      · rw [nI_1, e3]
        have hle := lz_pa_le (lz_cd t p)
        exact fin _ _ (rb_ops (ih (by omega)) _ _ _ w h4 (by omega) kk)
      · rw [e3]
        exact h2
theorem r_behind (hx : rx_t m s t) (hs : s ≤ 9) {k p e : Nat} (hk : k ≤ 8) (h : lz_rd t k p = (true, e)) (kk : Q (some (.int (nI e))) m) : mr_C l G r (d + 2) mm_RM_behind [.int (nI s), .int (nI p)] m Q := by
  refine wr_behind_0 _ _ ?_
  refine rb_out hx hs k hk p e 0 Q h (by omega) ?_
  exact wr_behind_5 _ _ _ ⟨fun _ => kk, fun z => absurd (by decide) z⟩
end RBH
