/-! THE CLASS, its Text: contracts over mx_C, in continuation form. -/
theorem lz_pa_le (c : Int32) : lz_pa c ≤ 3 := by
  unfold lz_pa
  split
  · decide
  split
  · decide
  split
  · decide
  · decide
theorem mx_st_eq (hs : mx_H) (a : Nat) (x : mx_E) : (mx_st hs a x).1 a = some x := by simp [mx_st]
theorem mx_st_ne (hs : mx_H) {a q : Nat} (x : mx_E) (h : q ≠ a) : (mx_st hs a x).1 q = hs.1 q := by simp [mx_st, h]
theorem mx_nw_eq (hs : mx_H) (x : mx_E) (n : Nat) : (mx_nw hs x n).1 hs.2.1 = some x := by simp [mx_nw]
theorem mx_nw_ne (hs : mx_H) {q : Nat} (x : mx_E) (n : Nat) (h : q ≠ hs.2.1) : (mx_nw hs x n).1 q = hs.1 q := by simp [mx_nw, h]
/-- nothing has changed but cells of [a, a + n) -/
def mx_kp (hs hs' : mx_H) (a n : Nat) : Prop := (∀ q, q < a ∨ a + n ≤ q → hs'.1 q = hs.1 q) ∧ hs'.2 = hs.2
theorem mx_kp.rf {hs : mx_H} {a n : Nat} : mx_kp hs hs a n := ⟨fun _ _ => rfl, rfl⟩
theorem mx_kp.tr {h1 h2 h3 : mx_H} {a n : Nat} (p : mx_kp h1 h2 a n) (q : mx_kp h2 h3 a n) : mx_kp h1 h3 a n := ⟨fun x hx => (q.1 x hx).trans (p.1 x hx), q.2.trans p.2⟩
theorem mx_kp.st {hs : mx_H} {a n b : Nat} {x : mx_E} (h : a ≤ b) (h2 : b < a + n) : mx_kp hs (mx_st hs b x) a n := ⟨fun q hq => mx_st_ne hs x (by omega), rfl⟩
def lb_tx (hs : mx_H) (a : Nat) (t es : List Int32) (dp : Nat) (bp : Int32) : Prop := ∃ cs : List Int32, hs.1 a = some (1, [.ref (a + 1), .ref (a + 2), .int (nI t.length), .int (nI dp), .int bp]) ∧ hs.1 (a + 1) = some (100, cs.map Value.int) ∧ hs.1 (a + 2) = some (100, es.map Value.int) ∧ cs.length = 24 ∧ es.length = 24 ∧ t.length ≤ 24 ∧ cs.take t.length = t ∧ dp ≤ 8
theorem lb_tx.at {hs : mx_H} {a : Nat} {t es : List Int32} {dp : Nat} {bp : Int32} (h : lb_tx hs a t es dp bp) : hs.1 a = some (1, [.ref (a + 1), .ref (a + 2), .int (nI t.length), .int (nI dp), .int bp]) := by
  obtain ⟨cs, h0, -⟩ := h
  exact h0
theorem lb_tx.len {hs : mx_H} {a : Nat} {t es : List Int32} {dp : Nat} {bp : Int32} (h : lb_tx hs a t es dp bp) : t.length ≤ 24 ∧ es.length = 24 := by
  obtain ⟨cs, -, -, -, -, h4, h5, -⟩ := h
  exact ⟨h5, h4⟩
theorem lb_tx.kp {hs hs' : mx_H} {a b n : Nat} {t es : List Int32} {dp : Nat} {bp : Int32} (h : lb_tx hs a t es dp bp) (k : mx_kp hs hs' b n) (hb : a + 3 ≤ b ∨ b + n ≤ a) : lb_tx hs' a t es dp bp := by
  obtain ⟨cs, h0, h1, h2, h3⟩ := h
  exact ⟨cs, (k.1 _ (by omega)).trans h0, (k.1 _ (by omega)).trans h1, (k.1 _ (by omega)).trans h2, h3⟩
theorem lz_mapget {cs : List Int32} {i : Nat} {x : Int32} (h : cs[i]? = some x) : (cs.map Value.int)[i]? = some (.int x) := by
  rw [List.getElem?_map, h]
  rfl
theorem lz_cd_get {t : List Int32} {i : Nat} (h : i < t.length) : t[i]? = some (lz_cd t i) := by
  unfold lz_cd
  rw [List.getD_eq_getElem?_getD, List.getElem?_eq_getElem h]
  rfl
theorem lz_take_get {cs t : List Int32} {i : Nat} (h : cs.take t.length = t) (hi : i < t.length) : cs[i]? = some (lz_cd t i) := by
  have h1 : (cs.take t.length)[i]? = t[i]? := by rw [h]
  rw [List.getElem?_take, if_pos hi] at h1
  rw [h1]
  exact lz_cd_get hi
section CST
variable {l : Launch} {G : mx_G} {d : Nat} {hs : mx_H} {Q : Option Value → mx_H → Prop}
theorem c_isDigit {c : Int32} (k : Q (some (.int (lz_b (lz_dg c)))) hs) : mx_C mx_S0 l G (d + 1) mm_LB_isDigit [.int c] hs Q := by
  refine wp_LB_isDigit_0 _ ⟨fun h => ?_, fun h => ⟨fun h2 => ?_, fun h2 => ?_⟩⟩
  · have e : lz_dg c = false := by unfold lz_dg; simp [Int32.not_le.mpr h]
    rw [e] at k
    exact k
  · have e : lz_dg c = false := by unfold lz_dg; simp [Int32.not_le.mpr h2]
    rw [e] at k
    exact k
  · have e : lz_dg c = true := by unfold lz_dg; simp [Int32.not_lt.mp h, Int32.not_lt.mp h2]
    rw [e] at k
    exact k
theorem c_isLetter {c : Int32} (k : Q (some (.int (lz_b (lz_lt c)))) hs) : mx_C mx_S0 l G (d + 1) mm_LB_isLetter [.int c] hs Q := by
  refine wp_LB_isLetter_0 _ ⟨fun h => ?_, fun h => ⟨fun h2 => ?_, fun h2 => ?_⟩⟩
  · have e : lz_lt c = false := by unfold lz_lt; simp [Int32.not_le.mpr h]
    rw [e] at k
    exact k
  · have e : lz_lt c = false := by unfold lz_lt; simp [Int32.not_lt.mpr h2]
    rw [e] at k
    exact k
  · have e : lz_lt c = true := by unfold lz_lt; simp [Int32.not_lt.mp h, Int32.not_le.mp h2]
    rw [e] at k
    exact k
theorem c_isNameNumber {c : Int32} (k1 : ∀ j : Nat, j < 8 → c = nI j → Q (some (.int 1)) hs) (k0 : (c < 0 ∨ 8 ≤ c) → Q (some (.int 0)) hs) : mx_C mx_S0 l G (d + 1) mm_LB_isNameNumber [.int c] hs Q := by
  refine wp_LB_isNameNumber_0 _ ⟨fun h => k0 (Or.inl h), fun h => ⟨fun h2 => k0 (Or.inr h2), fun h2 => ?_⟩⟩
  rcases pk_ix c (n := 8) (by decide) with q | q | ⟨j, q1, q2⟩
  · exact absurd q h
  · exact absurd q h2
  · exact k1 j q1 q2
theorem c_partsAfter {c : Int32} (k : Q (some (.int (nI (lz_pa c)))) hs) : mx_C mx_S0 l G (d + 1) mm_LB_partsAfter [.int c] hs Q := by
  refine wp_LB_partsAfter_0 _ ⟨fun h => ?_, fun h => ?_, fun h => ?_, fun h => ?_, fun h => ?_, fun h => ?_, fun h => ?_, fun h => ?_, fun h1 h2 h3 h4 h5 h6 h7 h8 => ?_⟩
  all_goals first
    | (subst h; exact k)
    | (have e : lz_pa c = 0 := by unfold lz_pa; rw [if_neg (by rintro (q | q) <;> contradiction), if_neg (by rintro (q | q | q | q | q) <;> contradiction), if_neg h6]
       rw [e] at k
       exact k)
theorem c_isFailure {v : Int64} (k : Q (some (.int (lz_b (lz_bad v)))) hs) : mx_C mx_S0 l G (d + 1) mm_LB_isFailure [.long v] hs Q := by
  refine wp_LB_isFailure_0 _ ⟨fun h => ?_, fun h => ?_⟩
  · have e : lz_bad v = false := by unfold lz_bad; simp [Int64.not_lt.mpr h]
    rw [e] at k
    exact k
  · have e : lz_bad v = true := by unfold lz_bad; simp [Int64.not_le.mp h]
    rw [e] at k
    exact k
theorem c_isPlan {v : Int64} (k : Q (some (.int (lz_b (lz_pl v)))) hs) : mx_C mx_S0 l G (d + 1) mm_LB_isPlan [.long v] hs Q := by
  refine wp_LB_isPlan_0 _ ⟨fun h => ?_, fun h => ?_⟩
  · have e : lz_pl v = false := by unfold lz_pl; simp [Int64.not_lt.mpr h]
    rw [e] at k
    exact k
  · have e : lz_pl v = true := by unfold lz_pl; simp [Int64.not_le.mp h]
    rw [e] at k
    exact k
/-- a character that belongs to a line -/
def lz_bl (c : Int32) : Bool := lz_dg c || lz_lt c || decide (0 < lz_pa c) || decide (c = 68) || decide (c = 40) || decide (c = 41)
theorem c_belongs {c : Int32} (k : Q (some (.int (lz_b (lz_bl c)))) hs) : mx_C mx_S0 l G (d + 2) mm_LBText_belongs [.int c] hs Q := by
  have k1 : lz_bl c = true → mx_Ok mx_S0 l G (d + 2) mm_LBText_belongs 39 [] [] hs Q := fun h => wp_LBText_belongs_39 (by rw [h] at k; exact k)
  refine wp_LBText_belongs_0 _ (c_isDigit ⟨_, rfl, fun h => ?_, fun h => c_isLetter ⟨_, rfl, fun h2 => ?_, fun h2 => c_partsAfter ⟨_, rfl, fun h3 => ?_, fun h3 => ⟨fun h4 => ?_, fun h4 => ⟨fun h5 => ?_, fun h5 => ⟨fun h6 => ?_, fun h6 => ?_⟩⟩⟩⟩⟩⟩)
  · exact k1 (by unfold lz_bl; rw [lz_b1.mp h]; rfl)
  · exact k1 (by unfold lz_bl; rw [lz_b1.mp h2]; simp)
  · have : 0 < lz_pa c := by
      rcases Nat.eq_zero_or_pos (lz_pa c) with q | q
      · rw [q] at h3
        exact absurd h3 (by decide)
      · exact q
    exact k1 (by unfold lz_bl; simp [this])
  · exact k1 (by unfold lz_bl; simp [h4])
  · exact k1 (by unfold lz_bl; simp [h5])
  · have e1 : lz_dg c = false := by
      cases q : lz_dg c
      · rfl
      · rw [q] at h
        exact absurd (by decide) h
    have e2 : lz_lt c = false := by
      cases q : lz_lt c
      · rfl
      · rw [q] at h2
        exact absurd (by decide) h2
    have e3 : lz_pa c = 0 := by
      have hle := lz_pa_le c
      rcases Nat.eq_zero_or_pos (lz_pa c) with q | q
      · exact q
      · exact absurd (nI_lt (a := 0) q (by omega)) h3
    have e : lz_bl c = false := by unfold lz_bl; simp [e1, e2, e3, h4, h5, h6]
    rw [e] at k
    exact k
  · exact k1 (by unfold lz_bl; simp [Decidable.not_not.mp h6])
theorem c_codeAt {a p : Nat} {t es : List Int32} {dp : Nat} {bp : Int32} (hT : lb_tx hs a t es dp bp) (hp : p < 2 ^ 31) (k : Q (some (.int (lz_cd t p))) hs) : mx_C mx_S0 l G (d + 1) mm_LBText_codeAt [.ref a, .int (nI p)] hs Q := by
  obtain ⟨cs, h0, h1, h2, h3, h4, h5, h6, h7⟩ := hT
  refine wp_LBText_codeAt_0 _ _ ⟨fun c => absurd c (nI_pos hp), fun _ => ⟨_, ⟨_, h0, rfl⟩, fun c => ?_, fun c => ?_⟩⟩
  · rw [nI_leI (by omega) hp] at c
    rw [lz_cd_out c] at k
    exact k
  · rw [nI_leI (by omega) hp] at c
    refine ⟨_, ⟨_, h0, rfl⟩, _, _, h1, nI_pos hp, ?_, k⟩
    rw [nI_clamp hp]
    exact lz_mapget (lz_take_get h6 (by omega))
theorem c_endOf {a p : Nat} {t es : List Int32} {dp : Nat} {bp : Int32} {e : Int32} (hT : lb_tx hs a t es dp bp) (hp : p < t.length) (he : es[p]? = some e) (k : Q (some (.int e)) hs) : mx_C mx_S0 l G (d + 1) mm_LBText_endOf [.ref a, .int (nI p)] hs Q := by
  obtain ⟨cs, h0, h1, h2, h3, h4, h5, h6, h7⟩ := hT
  have hp2 : p < 2 ^ 31 := by omega
  refine wp_LBText_endOf_0 _ _ ⟨fun c => absurd c (nI_pos hp2), fun _ => ⟨_, ⟨_, h0, rfl⟩, fun c => ?_, fun c => ?_⟩⟩
  · rw [nI_leI (by omega) hp2] at c
    omega
  · refine ⟨_, ⟨_, h0, rfl⟩, _, _, h2, nI_pos hp2, ?_, k⟩
    rw [nI_clamp hp2]
    exact lz_mapget he
theorem c_badAt {a : Nat} {t es : List Int32} {dp : Nat} {bp b : Int32} (hT : lb_tx hs a t es dp bp) (k : ∀ hs', lb_tx hs' a t es dp b → mx_kp hs hs' a 3 → Q (some (.int (-1))) hs') : mx_C mx_S0 l G (d + 1) mm_LBText_badAt [.ref a, .int b] hs Q := by
  obtain ⟨cs, h0, h1, h2, h3⟩ := hT
  refine wp_LBText_badAt_0 _ _ ⟨_, h0, fun hs2 e => ?_⟩
  subst e
  exact k _ ⟨cs, mx_st_eq _ _ _, (mx_st_ne _ _ (by omega)).trans h1, (mx_st_ne _ _ (by omega)).trans h2, h3⟩ (mx_kp.st (by omega) (by omega))
theorem c_clear {a : Nat} {t es : List Int32} {dp : Nat} {bp : Int32} (hT : lb_tx hs a t es dp bp) (k : ∀ hs', lb_tx hs' a [] es dp bp → mx_kp hs hs' a 3 → Q none hs') : mx_C mx_S0 l G (d + 1) mm_LBText_clear [.ref a] hs Q := by
  obtain ⟨cs, h0, h1, h2, h3, h4, h5, h6, h7⟩ := hT
  refine wp_LBText_clear_0 _ ⟨_, h0, fun hs2 e => ?_⟩
  subst e
  exact k _ ⟨cs, mx_st_eq _ _ _, (mx_st_ne _ _ (by omega)).trans h1, (mx_st_ne _ _ (by omega)).trans h2, h3, h4, by simp, by simp, h7⟩ (mx_kp.st (by omega) (by omega))
theorem c_append {a : Nat} {t es : List Int32} {dp : Nat} {bp c : Int32} (hT : lb_tx hs a t es dp bp) (k0 : lz_bl c = false → Q (some (.int (-1))) hs) (k1 : lz_bl c = true → t.length = 24 → Q (some (.int (-2))) hs) (k2 : lz_bl c = true → t.length < 24 → ∀ hs', lb_tx hs' a (t ++ [c]) es dp bp → mx_kp hs hs' a 3 → Q (some (.int (nI (t.length + 1)))) hs') : mx_C mx_S0 l G (d + 3) mm_LBText_append [.ref a, .int c] hs Q := by
  obtain ⟨cs, h0, h1, h2, h3, h4, h5, h6, h7⟩ := hT
  refine wp_LBText_append_0 _ _ (c_belongs ⟨_, rfl, fun h => ⟨_, ⟨_, h0, rfl⟩, fun q => ?_, fun q => ?_⟩, fun h => ?_⟩)
  · have hn : t.length < 24 := by
      rcases Nat.lt_or_ge t.length 24 with z | z
      · exact z
      · exact absurd q (nI_nlt (b := 24) z (by omega))
    refine ⟨_, ⟨_, h0, rfl⟩, _, ⟨_, h0, rfl⟩, _, h1, nI_pos (by omega), by rw [nI_clamp (by omega), List.length_map]; omega, fun hs2 e2 => ?_⟩
    subst e2
    have g0 := (mx_st_ne hs (q := a) (a := a + 1) (100, (cs.map Value.int).set (Int32.toNatClampNeg (nI t.length)) (.int c)) (by omega)).trans h0
    refine ⟨_, ⟨_, g0, rfl⟩, _, g0, fun hs3 e3 => ?_⟩
    subst e3
    refine ⟨_, ⟨_, mx_st_eq _ _ _, rfl⟩, ?_⟩
    refine (nI_1 t.length) ▸ k2 (lz_b1.mp h) hn _ ⟨cs.set t.length c, ?_, ?_, ?_, ?_, h4, ?_, ?_, h7⟩ (mx_kp.tr (mx_kp.st (b := a + 1) (by omega) (by omega)) (mx_kp.st (b := a) (by omega) (by omega)))
    · rw [mx_st_eq]
      simp only [List.length_append, List.length_cons, List.length_nil, Nat.zero_add, ← nI_1]
      rfl
    · rw [mx_st_ne _ _ (by omega), mx_st_eq, nI_clamp (by omega), List.map_set]
    · rw [mx_st_ne _ _ (by omega), mx_st_ne _ _ (by omega)]
      exact h2
    · rw [List.length_set]
      exact h3
    · simp only [List.length_append, List.length_cons, List.length_nil]
      omega
    · simp only [List.length_append, List.length_cons, List.length_nil, Nat.zero_add]
      rw [List.take_succ_eq_append_getElem (by rw [List.length_set]; omega), List.take_set_of_le (Nat.le_refl _), h6]
      simp
  · have hn : t.length = 24 := by
      rcases Nat.lt_or_ge t.length 24 with z | z
      · exact absurd (nI_lt (b := 24) z (by omega)) q
      · omega
    exact k1 (lz_b1.mp h) hn
  · exact k0 (lz_b0.mp (Decidable.not_not.mp h))
end CST
