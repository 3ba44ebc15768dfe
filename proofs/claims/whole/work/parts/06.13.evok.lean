/-! PURE: what working out leaves as it was. -/
theorem lz_rd_op {t : List Int32} {k p e : Nat} (h : lz_rd t (k + 1) p = (true, e)) (hd : lz_dg (lz_cd t p) = false) (hl : lz_lt (lz_cd t p) = false) (h68 : ¬ lz_cd t p = 68) : lz_pa (lz_cd t p) ≠ 0 ∧ k ≠ 0 ∧ lz_ps (lz_rd t k) (lz_pa (lz_cd t p)) (p + 1) = (true, e) := by
  unfold lz_rd at h
  by_cases h1 : t.length ≤ p
  · rw [if_pos h1] at h
    cases h
  rw [if_neg h1, if_neg (by rw [hd, hl]; decide), if_neg h68] at h
  by_cases h4 : lz_pa (lz_cd t p) = 0 ∨ k = 0
  · rw [if_pos h4] at h
    cases h
  rw [if_neg h4] at h
  exact ⟨fun z => h4 (Or.inl z), fun z => h4 (Or.inr z), h⟩
theorem lz_rd_D {t : List Int32} {k p e : Nat} (h : lz_rd t (k + 1) p = (true, e)) (h68 : lz_cd t p = 68) : lz_dg (lz_cd t (p + 1)) = true ∧ lz_cd t (p + 2) = 40 ∧ lz_ls (lz_rd t k) t 4 (p + 3) = (true, e) := by
  unfold lz_rd at h
  by_cases h1 : t.length ≤ p
  · rw [if_pos h1] at h
    cases h
  rw [if_neg h1, if_neg (by rw [h68]; decide), if_pos h68] at h
  by_cases h4 : lz_dg (lz_cd t (p + 1)) = false
  · rw [if_pos h4] at h
    cases h
  rw [if_neg h4] at h
  by_cases h5 : ¬ lz_cd t (p + 2) = 40
  · rw [if_pos h5] at h
    cases h
  rw [if_neg h5] at h
  exact ⟨by simpa using h4, Decidable.not_not.mp h5, h⟩
theorem lz_ps_s {f : Nat → Bool × Nat} {n p e : Nat} (h : lz_ps f (n + 1) p = (true, e)) : f p = (true, (f p).2) ∧ lz_ps f n (f p).2 = (true, e) := by
  unfold lz_ps at h
  by_cases hc : (f p).1 = true
  · rw [if_pos hc] at h
    exact ⟨Prod.ext hc rfl, h⟩
  · rw [if_neg hc] at h
    rw [h] at hc
    exact absurd rfl hc
theorem lz_ps_0 {f : Nat → Bool × Nat} {p e : Nat} (h : lz_ps f 0 p = (true, e)) : p = e := by
  simp only [lz_ps, Prod.mk.injEq, true_and] at h
  exact h
theorem lz_ls_s {f : Nat → Bool × Nat} {t : List Int32} {n p e : Nat} (h : lz_ls f t (n + 1) p = (true, e)) (hc : ¬ lz_cd t p = 41) : f p = (true, (f p).2) ∧ lz_ls f t n (f p).2 = (true, e) := by
  unfold lz_ls at h
  rw [if_neg hc] at h
  by_cases hd : (f p).1 = true
  · rw [if_pos hd] at h
    exact ⟨Prod.ext hd rfl, h⟩
  · rw [if_neg hd] at h
    rw [h] at hd
    exact absurd rfl hd
theorem lz_nd_eq {t : List Int32} {k p e : Nat} (hk : k ≤ 8) (h : lz_rd t k p = (true, e)) : lz_nd t p = e := by
  unfold lz_nd
  rw [lz_rd_m hk h]
theorem lz_rd_nd {t : List Int32} {k p : Nat} (hk : k ≤ 8) (h : lz_rd t k p = (true, (lz_rd t k p).2)) : lz_rd t k p = (true, lz_nd t p) := by
  rw [lz_nd_eq hk h]
  exact h
section EVO
variable {T : Nat → List Int32}
theorem lz_st.rf {w : lz_W} {v : Int64} (h : lz_okW T w) (hv : lz_bad v = true ∨ lz_V w.2.2.2.2.1 v) : lz_st T 0 w (v, w) := ⟨h, Nat.le_refl _, hv, Nat.le_refl _, Nat.le_refl _, fun _ => ⟨rfl, rfl⟩, Nat.le_max_right _ _⟩
theorem lz_st.tr {w : lz_W} {r q : Int64 × lz_W} (h : lz_st T 0 w r) (k : lz_st T 0 r.2 q) : lz_st T 0 w q := by
  obtain ⟨h1, h2, h3, h4, h5, h6, h7⟩ := h
  obtain ⟨k1, k2, k3, k4, k5, k6, k7⟩ := k
  exact ⟨k1, by omega, k3, by omega, by omega, fun i => ⟨(k6 i).1.trans (h6 i).1, (k6 i).2.trans (h6 i).2⟩, by omega⟩
/-- another VALUE at the end -/
theorem lz_st.val {w : lz_W} {r : Int64 × lz_W} {v : Int64} (h : lz_st T 0 w r) (hv : lz_bad v = true ∨ lz_V r.2.2.2.2.2.1 v) : lz_st T 0 w (v, r.2) := ⟨h.1, h.2.1, hv, h.2.2.2⟩
theorem lz_okW.mono {w : lz_W} {S : lz_S} (h : lz_okW T w) (hS : lz_okS S) (hn : w.2.2.2.2.1 ≤ S.2.1) : lz_okW T (w.1, w.2.1, w.2.2.1, S) := ⟨fun i hi => ⟨(h.1 i hi).1, (h.1 i hi).2.imp id (fun z => z.mono hn)⟩, hS⟩
def lz_fok (T : Nat → List Int32) (f : lz_F) : Prop := ∀ (t : List Int32) (p k e : Nat) (w : lz_W), k ≤ 8 → lz_rd t k p = (true, e) → lz_okW T w → lz_st T 0 w (f t p w)
theorem lz_name_st {f : lz_F} (hf : lz_fok T f) {i : Nat} (hi : i < 8) {w : lz_W} (hw : lz_okW T w) : lz_st T 0 w (lz_name f T i w) := by
  unfold lz_name
  by_cases h1 : (w.1 i).1 = false
  · rw [if_pos h1]
    exact lz_st.rf hw (Or.inl (by decide))
  rw [if_neg h1]
  by_cases h2 : (w.1 i).2.1 = true
  · rw [if_pos h2]
    exact lz_st.rf hw (Or.inl (by decide))
  rw [if_neg h2]
  by_cases h3 : ¬ (w.1 i).2.2 = -1000000000000
  · rw [if_pos h3]
    exact lz_st.rf hw (Or.inr ((hw.1 i hi).2.resolve_left h3))
  rw [if_neg h3]
  have hb : (w.1 i).1 = true := by simpa using h1
  obtain ⟨w1, ew⟩ : ∃ w1, w1 = lz_setN w i ((w.1 i).1, true, (w.1 i).2.2) := ⟨_, rfl⟩
  have hw1 : lz_okW T w1 := by
    subst ew
    refine ⟨fun j hj => ?_, hw.2⟩
    by_cases hij : j = i
    · subst hij
      simp only [lz_setN, if_true]
      exact hw.1 j hj
    · simp only [lz_setN, if_neg hij]
      exact hw.1 j hj
  have g := hf (T i) 0 8 _ w1 (Nat.le_refl _) ((hw.1 i hi).1 hb) hw1
  rw [← ew]
  simp only
  obtain ⟨r, er⟩ : ∃ r, r = f (T i) 0 w1 := ⟨_, rfl⟩
  rw [← er] at g ⊢
  obtain ⟨g1, g2, g3, g4, g5, g6, g7⟩ := g
  have e1 : w1.2 = w.2 := by rw [ew]; rfl
  refine ⟨⟨fun j hj => ?_, g1.2⟩, ?_, g3, ?_, ?_, fun j => ?_, ?_⟩
  · by_cases hij : j = i
    · subst hij
      simp only [lz_setN, if_true]
      refine ⟨(g1.1 j hj).1, ?_⟩
      by_cases hbad : lz_bad r.1 = true
      · rw [if_pos hbad]
        exact (g1.1 j hj).2
      · rw [if_neg hbad]
        exact Or.inr (g3.resolve_left hbad)
    · simp only [lz_setN, if_neg hij]
      exact g1.1 j hj
  · rw [← e1]
    exact g2
  · rw [← e1]
    exact g4
  · rw [← e1]
    exact g5
  · by_cases hij : j = i
    · subst hij
      simp only [lz_setN, if_true]
      refine ⟨(g6 j).1.trans ?_, ?_⟩
      · rw [ew]
        simp [lz_setN]
      · exact (Bool.eq_false_iff.mpr h2).symm
    · simp only [lz_setN, if_neg hij]
      rw [ew] at g6
      have := g6 j
      simp only [lz_setN, if_neg hij] at this
      exact this
  · rw [← e1]
    exact g7
theorem lz_st.up {w : lz_W} {r : Int64 × lz_W} (h : lz_st T 0 w r) : lz_st T 1 w r := ⟨h.1, h.2.1, h.2.2.1, h.2.2.2.1, by have := h.2.2.2.2.1; omega, h.2.2.2.2.2⟩
theorem lz_st.step {w : lz_W} {r : Int64 × lz_W} (h : lz_st T 1 (w.1, w.2.1 + 1, w.2.2) r) (hs : ¬ 200 ≤ w.2.1) : lz_st T 0 w r := by
  obtain ⟨h1, h2, h3, h4, h5, h6, h7⟩ := h
  simp only at h2 h4 h5 h6 h7
  exact ⟨h1, h2, h3, by omega, by omega, h6, by omega⟩
theorem lz_of_st {S : lz_S} (h : lz_okS S) {m : Nat} (hm : m < 10) {vs : List Int64} (hl : vs.length ≤ 4) (hv : ∀ v ∈ vs, lz_V S.2.1 v) : lz_okS (lz_of S (nI m) vs).2 ∧ S.2.1 ≤ (lz_of S (nI m) vs).2.2.1 ∧ (lz_bad (lz_of S (nI m) vs).1 = true ∨ lz_V (lz_of S (nI m) vs).2.2.1 (lz_of S (nI m) vs).1) := by
  unfold lz_of
  cases hf : lz_fi (lz_al S (nI m) vs) S.2.1 0 with
  | some i =>
    have hi : i < S.2.1 := by
      have := (lz_fi_lt _ _ _ hf).2.1
      omega
    exact ⟨h, Nat.le_refl _, Or.inr (Or.inr ⟨i, hi, rfl⟩)⟩
  | none =>
    by_cases h30 : 30 ≤ S.2.1
    · simp only [if_pos h30]
      exact ⟨h, Nat.le_refl _, Or.inl (by decide)⟩
    · simp only [if_neg h30]
      refine ⟨⟨by show S.2.1 + 1 ≤ 30; omega, fun i hi => ?_, h.2.2⟩, Nat.le_succ _, Or.inr (Or.inr ⟨S.2.1, Nat.lt_succ_self _, rfl⟩)⟩
      have hi : i < S.2.1 + 1 := hi
      by_cases hi2 : i = S.2.1
      · simp only [if_pos hi2]
        subst hi2
        exact ⟨hl, hv, ⟨m, hm, rfl⟩, fun _ => rfl⟩
      · simp only [if_neg hi2]
        exact h.2.1 i (by omega)
theorem lz_dg_n {c : Int32} (h : lz_dg c = true) : ∃ m : Nat, m < 10 ∧ c - 48 = nI m ∧ c = nI (m + 48) := by
  unfold lz_dg at h
  simp only [Bool.and_eq_true, decide_eq_true_eq] at h
  obtain ⟨j, hj, e⟩ := nI_of2 (x := c) (M := 57) (n := 57) rfl (fun z => by
    have h1 := Int32.le_iff_toInt_le.mp h.1
    have h2 := Int32.lt_iff_toInt_lt.mp z
    rw [show (48 : Int32).toInt = 48 from rfl] at h1
    rw [show (0 : Int32).toInt = 0 from rfl] at h2
    omega) h.2
  subst e
  have h48 : 48 ≤ j := (nI_leI (a := 48) (by omega) (by omega)).mp h.1
  exact ⟨j - 48, by omega, pk_sub (b := 48) h48, by rw [show j - 48 + 48 = j by omega]⟩
theorem lz_lt_n {c : Int32} (h : lz_lt c = true) : ∃ m : Nat, m < 8 ∧ c - 97 = nI m ∧ c = nI (m + 97) := by
  unfold lz_lt at h
  simp only [Bool.and_eq_true, decide_eq_true_eq] at h
  obtain ⟨j, hj, e⟩ := nI_of2 (x := c) (M := 105) (n := 105) rfl (fun z => by
    have h1 := Int32.le_iff_toInt_le.mp h.1
    have h2 := Int32.lt_iff_toInt_lt.mp z
    rw [show (97 : Int32).toInt = 97 from rfl] at h1
    rw [show (0 : Int32).toInt = 0 from rfl] at h2
    omega) (Int32.le_of_lt h.2)
  subst e
  have h97 : 97 ≤ j := (nI_leI (a := 97) (by omega) (by omega)).mp h.1
  have h105 : j < 105 := (nI_ltI (b := 105) (by omega) (by omega)).mp h.2
  exact ⟨j - 97, by omega, pk_sub (b := 97) h97, by rw [show j - 97 + 97 = j by omega]⟩
theorem lz_list_st {f : lz_F} (hf : lz_fok T f) {t : List Int32} {k : Nat} (hk : k ≤ 8) : ∀ (n p e : Nat) (vs : List Int64) (w : lz_W), lz_ls (lz_rd t k) t n p = (true, e) → vs.length + n ≤ 4 → (∀ v ∈ vs, lz_V w.2.2.2.2.1 v) → lz_okW T w →
    lz_st T 0 w (-1000000000010, (lz_list f t n p vs w).2.2) ∧ (lz_list f t n p vs w).2.1.length ≤ 4 ∧ (∀ v ∈ (lz_list f t n p vs w).2.1, lz_V (lz_list f t n p vs w).2.2.2.2.2.2.1 v) := by
  intro n
  induction n with
  | zero =>
    intro p e vs w h hl hv hw
    exact ⟨lz_st.rf hw (Or.inl (by decide)), hl, hv⟩
  | succ n ih =>
    intro p e vs w h hl hv hw
    unfold lz_list
    by_cases hc : lz_cd t p = 41
    · rw [if_pos hc]
      exact ⟨lz_st.rf hw (Or.inl (by decide)), by simp only; omega, hv⟩
    rw [if_neg hc]
    obtain ⟨g1, g2⟩ := lz_ls_s h hc
    have s1 := hf t p k _ w hk g1 hw
    have hmono : ∀ v ∈ vs, lz_V (f t p w).2.2.2.2.2.1 v := fun v hx => (hv v hx).mono s1.2.1
    by_cases hb : lz_bad (f t p w).1 = true
    · rw [if_pos hb]
      exact ⟨s1.val (Or.inl (by decide)), by simp only; omega, hmono⟩
    rw [if_neg hb]
    rw [← lz_nd_eq hk g1] at g2
    obtain ⟨q1, q2, q3⟩ := ih (lz_nd t p) e (vs ++ [(f t p w).1]) (f t p w).2 g2 (by rw [List.length_append]; simp only [List.length_cons, List.length_nil]; omega) (fun v hx => by
      rcases List.mem_append.mp hx with z | z
      · exact hmono v z
      · rw [List.mem_singleton.mp z]
        exact s1.2.2.1.resolve_left hb) s1.1
    exact ⟨s1.tr q1, q2, q3⟩
theorem lz_body_st {f : lz_F} (hf : lz_fok T f) {t : List Int32} {p k e : Nat} {w : lz_W} (hk : k ≤ 8) (h : lz_rd t k p = (true, e)) (hw : lz_okW T w) (h84 : ¬ lz_cd t p = 84) : lz_st T 0 w (lz_body f T t p w) := by
  obtain ⟨k, rfl⟩ : ∃ k', k = k' + 1 := by
    cases k with
    | zero =>
      simp [lz_rd] at h
    | succ k => exact ⟨k, rfl⟩
  unfold lz_body
  simp only
  by_cases h1 : lz_dg (lz_cd t p) = true
  · rw [if_pos h1]
    exact lz_st.rf hw (Or.inr (Or.inl ⟨_, rfl⟩))
  rw [if_neg h1]
  by_cases h2 : lz_lt (lz_cd t p) = true
  · rw [if_pos h2]
    obtain ⟨m, m1, m2, -⟩ := lz_lt_n h2
    rw [m2, nI_clamp (by omega)]
    exact lz_name_st hf m1 hw
  rw [if_neg h2]
  have h1' : lz_dg (lz_cd t p) = false := by simpa using h1
  have h2' : lz_lt (lz_cd t p) = false := by simpa using h2
  have hk' : k ≤ 8 := by omega
  by_cases h68 : lz_cd t p = 68
  · rw [h68, if_neg (by decide), if_neg (by decide), if_neg (by decide), if_pos rfl]
    obtain ⟨g1, g2, g3⟩ := lz_rd_D h h68
    obtain ⟨m, m1, m2, -⟩ := lz_dg_n g1
    obtain ⟨q1, q2, q3⟩ := lz_list_st hf hk' 4 (p + 3) e [] w g3 (by simp) (fun v hv => by cases hv) hw
    unfold lz_plan
    simp only
    by_cases hb : lz_bad (lz_list f t 4 (p + 3) [] w).1 = true
    · rw [if_pos hb]
      exact q1.val (Or.inl hb)
    rw [if_neg hb, m2]
    obtain ⟨z1, z2, z3⟩ := lz_of_st q1.1.2 m1 q2 q3
    obtain ⟨a1, a2, a3, a4, a5, a6, a7⟩ := q1
    exact ⟨a1.mono z1 z2, Nat.le_trans a2 z2, z3, a4, a5, a6, a7⟩
  obtain ⟨g1, g2, g3⟩ := lz_rd_op h h1' h2' h68
  obtain ⟨n, hn⟩ : ∃ n, lz_pa (lz_cd t p) = n + 1 := ⟨lz_pa (lz_cd t p) - 1, by omega⟩
  rw [hn] at g3
  obtain ⟨f1, f2⟩ := lz_ps_s g3
  rw [← lz_nd_eq hk' f1] at f2
  have s1 := hf t (p + 1) k _ w hk' f1 hw
  by_cases h63 : lz_cd t p = 63
  · rw [if_pos h63]
    unfold lz_choice
    simp only
    by_cases hb : lz_bad (f t (p + 1) w).1 = true
    · rw [if_pos hb]
      exact s1
    rw [if_neg hb]
    by_cases hp : lz_pl (f t (p + 1) w).1 = true
    · rw [if_pos hp]
      exact s1.val (Or.inl (by decide))
    rw [if_neg hp]
    have hn3 : n = 2 := by
      rw [h63] at hn
      have : lz_pa 63 = 3 := by decide
      omega
    subst hn3
    obtain ⟨f3, f4⟩ := lz_ps_s f2
    by_cases hz : ¬ (f t (p + 1) w).1 = 0
    · rw [if_pos hz]
      exact s1.tr (hf t _ k _ _ hk' f3 s1.1)
    · rw [if_neg hz]
      rw [← lz_nd_eq hk' f3] at f4
      obtain ⟨f5, f6⟩ := lz_ps_s f4
      exact s1.tr (hf t _ k _ _ hk' f5 s1.1)
  rw [if_neg h63]
  by_cases h33 : lz_cd t p = 33
  · rw [if_pos h33]
    unfold lz_abort
    simp only
    by_cases hb : lz_bad (f t (p + 1) w).1 = true
    · rw [if_pos hb]
      exact s1
    rw [if_neg hb]
    exact s1.val (Or.inl (by decide))
  rw [if_neg h33]
  rw [if_neg h84, if_neg h68]
  by_cases h79 : lz_cd t p = 79
  · rw [if_pos h79]
    unfold lz_result
    simp only
    by_cases hb : lz_bad (f t (p + 1) w).1 = true
    · rw [if_pos hb]
      exact s1
    rw [if_neg hb]
    by_cases hp : lz_pl (f t (p + 1) w).1 = true
    · rw [if_pos hp]
      obtain ⟨a1, a2, a3, a4, a5, a6, a7⟩ := s1
      have e1 := (lz_pt_sm 30 (f t (p + 1) w).2.2.2.2 (f t (p + 1) w).1).1
      refine ⟨a1.mono (lz_pt_ok _ _ _ a1.2) (Nat.le_of_eq e1.symm), ?_, ?_, a4, a5, a6, a7⟩
      · show _ ≤ (lz_pt 30 (f t (p + 1) w).2.2.2.2 (f t (p + 1) w).1).2.2.1
        rw [e1]
        exact a2
      · rcases lz_pt_nb 30 a1.2 (a3.resolve_left hb) (fun j hj _ => hj) with ⟨x, ex⟩ | ex
        · exact Or.inr (Or.inl ⟨x, ex⟩)
        · refine Or.inl ?_
          show lz_bad (lz_pt 30 (f t (p + 1) w).2.2.2.2 (f t (p + 1) w).1).1 = true
          rw [ex]
          decide
    · rw [if_neg hp]
      exact s1.val (Or.inl (by decide))
  rw [if_neg h79]
  unfold lz_pair
  simp only
  by_cases hb : lz_bad (f t (p + 1) w).1 = true
  · rw [if_pos hb]
    exact s1
  rw [if_neg hb]
  have hn3 : n = 1 := by
    unfold lz_pa at hn g1
    by_cases c1 : lz_cd t p = 33 ∨ lz_cd t p = 79
    · rcases c1 with c1 | c1
      · exact absurd c1 h33
      · exact absurd c1 h79
    rw [if_neg c1] at hn g1
    by_cases c2 : lz_cd t p = 43 ∨ lz_cd t p = 45 ∨ lz_cd t p = 42 ∨ lz_cd t p = 60 ∨ lz_cd t p = 84
    · rw [if_pos c2] at hn
      omega
    · rw [if_neg c2, if_neg h63] at g1
      exact absurd rfl g1
  subst hn3
  obtain ⟨f3, f4⟩ := lz_ps_s f2
  have s2 := s1.tr (hf t _ k _ _ hk' f3 s1.1)
  by_cases hb2 : lz_bad (f t (lz_nd t (p + 1)) (f t (p + 1) w).2).1 = true
  · rw [if_pos hb2]
    exact s2
  rw [if_neg hb2]
  split
  · exact s2.val (Or.inl (by decide))
  · exact s2.val (Or.inr (Or.inl ⟨_, rfl⟩))
theorem lz_body_stT {f : lz_F} (hf : lz_fok T f) {t : List Int32} {p k e : Nat} {w : lz_W} (hk : k ≤ 8) (h : lz_rd t k p = (true, e)) (hw : lz_okW T w) (h84 : lz_cd t p = 84) : lz_st T 1 w (lz_body f T t p w) := by
  obtain ⟨k, rfl⟩ : ∃ k', k = k' + 1 := by
    cases k with
    | zero =>
      simp [lz_rd] at h
    | succ k => exact ⟨k, rfl⟩
  have hk' : k ≤ 8 := by omega
  obtain ⟨g1, g2, g3⟩ := lz_rd_op h (by rw [h84]; decide) (by rw [h84]; decide) (by rw [h84]; decide)
  rw [h84, show lz_pa 84 = 2 from by decide] at g3
  obtain ⟨f1, f2⟩ := lz_ps_s g3
  rw [← lz_nd_eq hk' f1] at f2
  obtain ⟨f3, f4⟩ := lz_ps_s f2
  have s1 := hf t (p + 1) k _ w hk' f1 hw
  unfold lz_body
  simp only
  rw [h84, if_neg (by decide), if_neg (by decide), if_neg (by decide), if_neg (by decide), if_pos rfl]
  unfold lz_try
  simp only
  by_cases hb : lz_good (f t (p + 1) w).1 = false
  · rw [if_pos hb]
    exact s1.up
  rw [if_neg hb]
  have s2 := hf t _ k _ ((f t (p + 1) w).2.1, (f t (p + 1) w).2.2.1, (f t (p + 1) w).2.2.2.1 + 1, (f t (p + 1) w).2.2.2.2) hk' f3 s1.1
  obtain ⟨a1, a2, a3, a4, a5, a6, a7⟩ := s1
  obtain ⟨b1, b2, b3, b4, b5, b6, b7⟩ := s2
  simp only at b2 b4 b5 b6 b7
  exact ⟨b1, by omega, b3, by omega, by omega, fun i => ⟨(b6 i).1.trans (a6 i).1, (b6 i).2.trans (a6 i).2⟩, by omega⟩
theorem lz_ev_ok : ∀ n, lz_fok T (lz_ev T n) := by
  intro n
  induction n with
  | zero =>
    intro t p k e w hk h hw
    exact lz_st.rf hw (Or.inl (by decide))
  | succ n ih =>
    intro t p k e w hk h hw
    unfold lz_ev
    by_cases hs : 200 ≤ w.2.1
    · rw [if_pos hs]
      exact lz_st.rf hw (Or.inl (by decide))
    · rw [if_neg hs]
      by_cases h84 : lz_cd t p = 84
      · exact (lz_body_stT (w := (w.1, w.2.1 + 1, w.2.2)) ih hk h hw h84).step hs
      · exact (lz_body_st (w := (w.1, w.2.1 + 1, w.2.2)) ih hk h hw h84).up.step hs
end EVO
