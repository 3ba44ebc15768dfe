/-! PURE: characters, reading of a text (where its EXPRESSION ends, or its bad place), its height. -/
def lz_dg (c : Int32) : Bool := decide (48 ≤ c) && decide (c ≤ 57)
def lz_lt (c : Int32) : Bool := decide (97 ≤ c) && decide (c < 105)
def lz_pa (c : Int32) : Nat := if c = 33 ∨ c = 79 then 1 else if c = 43 ∨ c = 45 ∨ c = 42 ∨ c = 60 ∨ c = 84 then 2 else if c = 63 then 3 else 0
def lz_cd (t : List Int32) (i : Nat) : Int32 := t.getD i 0
/-- n EXPRESSIONS one behind another -/
def lz_ps (f : Nat → Bool × Nat) : Nat → Nat → Bool × Nat
  | 0, p => (true, p)
  | n + 1, p => if (f p).1 = true then lz_ps f n (f p).2 else f p
/-- at most n EXPRESSIONS, then the sign that ends the list -/
def lz_ls (f : Nat → Bool × Nat) (t : List Int32) : Nat → Nat → Bool × Nat
  | 0, p => if lz_cd t p = 41 then (true, p + 1) else (false, p)
  | n + 1, p => if lz_cd t p = 41 then (true, p + 1) else if (f p).1 = true then lz_ls f t n (f p).2 else f p
/-- the EXPRESSION of depth at most k that begins at p: its end, or the bad place -/
def lz_rd (t : List Int32) : Nat → Nat → Bool × Nat
  | 0, p => (false, p)
  | k + 1, p =>
    if t.length ≤ p then (false, p)
    else if (lz_dg (lz_cd t p) || lz_lt (lz_cd t p)) = true then (true, p + 1)
    else if lz_cd t p = 68 then
      if lz_dg (lz_cd t (p + 1)) = false then (false, p + 1)
      else if ¬ lz_cd t (p + 2) = 40 then (false, p + 2)
      else lz_ls (lz_rd t k) t 4 (p + 3)
    else if lz_pa (lz_cd t p) = 0 ∨ k = 0 then (false, p)
    else lz_ps (lz_rd t k) (lz_pa (lz_cd t p)) (p + 1)
def lz_hp (f : Nat → Bool × Nat) (h : Nat → Nat) : Nat → Nat → Nat
  | 0, _ => 0
  | n + 1, p => max (h p) (lz_hp f h n (f p).2)
def lz_hl (f : Nat → Bool × Nat) (h : Nat → Nat) (t : List Int32) : Nat → Nat → Nat
  | 0, _ => 0
  | n + 1, p => if lz_cd t p = 41 then 0 else max (h p) (lz_hl f h t n (f p).2)
/-- the height of the EXPRESSION at p, of depth at most k -/
def lz_ht (t : List Int32) : Nat → Nat → Nat
  | 0, _ => 0
  | k + 1, p =>
    if (lz_dg (lz_cd t p) || lz_lt (lz_cd t p)) = true then 1
    else if lz_cd t p = 68 then 1 + lz_hl (lz_rd t k) (lz_ht t k) t 4 (p + 3)
    else 1 + lz_hp (lz_rd t k) (lz_ht t k) (lz_pa (lz_cd t p)) (p + 1)
/-- the whole line: its end and height, or its bad place -/
def lz_line (t : List Int32) : Bool × Nat :=
  if (lz_rd t 8 0).1 = true then (if (lz_rd t 8 0).2 < t.length then (false, (lz_rd t 8 0).2) else (true, lz_ht t 8 0)) else (false, (lz_rd t 8 0).2)
theorem lz_cd_out {t : List Int32} {i : Nat} (h : t.length ≤ i) : lz_cd t i = 0 := by
  unfold lz_cd
  rw [List.getD_eq_getElem?_getD, List.getElem?_eq_none h]
  rfl
theorem lz_cd_in {t : List Int32} {i : Nat} (h : lz_cd t i ≠ 0) : i < t.length := by
  rcases Nat.lt_or_ge i t.length with q | q
  · exact q
  · exact absurd (lz_cd_out q) h
theorem lz_ps_b {f : Nat → Bool × Nat} {L : Nat} (hf : ∀ p e, f p = (true, e) → p < e ∧ e ≤ L) : ∀ (n p e : Nat), p ≤ L → lz_ps f n p = (true, e) → p + n ≤ e ∧ e ≤ L := by
  intro n
  induction n with
  | zero =>
    intro p e hp h
    simp only [lz_ps, Prod.mk.injEq, true_and] at h
    omega
  | succ n ih =>
    intro p e hp h
    unfold lz_ps at h
    by_cases hc : (f p).1 = true
    · rw [if_pos hc] at h
      have h1 := hf p (f p).2 (Prod.ext hc rfl)
      have h2 := ih _ _ h1.2 h
      omega
    · rw [if_neg hc] at h
      rw [h] at hc
      exact absurd rfl hc
theorem lz_ls_b {f : Nat → Bool × Nat} {t : List Int32} (hf : ∀ p e, f p = (true, e) → p < e ∧ e ≤ t.length) : ∀ (n p e : Nat), lz_ls f t n p = (true, e) → p < e ∧ e ≤ t.length := by
  intro n
  induction n with
  | zero =>
    intro p e h
    unfold lz_ls at h
    by_cases hc : lz_cd t p = 41
    · rw [if_pos hc] at h
      have : p < t.length := lz_cd_in (by rw [hc]; decide)
      simp only [Prod.mk.injEq, true_and] at h
      omega
    · rw [if_neg hc] at h
      cases h
  | succ n ih =>
    intro p e h
    unfold lz_ls at h
    by_cases hc : lz_cd t p = 41
    · rw [if_pos hc] at h
      have : p < t.length := lz_cd_in (by rw [hc]; decide)
      simp only [Prod.mk.injEq, true_and] at h
      omega
    · rw [if_neg hc] at h
      by_cases hd : (f p).1 = true
      · rw [if_pos hd] at h
        have h1 := hf p (f p).2 (Prod.ext hd rfl)
        have h2 := ih _ _ h
        omega
      · rw [if_neg hd] at h
        rw [h] at hd
        exact absurd rfl hd
theorem lz_rd_b {t : List Int32} : ∀ (k p e : Nat), lz_rd t k p = (true, e) → p < e ∧ e ≤ t.length := by
  intro k
  induction k with
  | zero =>
    intro p e h
    simp [lz_rd] at h
  | succ k ih =>
    intro p e h
    unfold lz_rd at h
    by_cases h1 : t.length ≤ p
    · rw [if_pos h1] at h
      cases h
    rw [if_neg h1] at h
    by_cases h2 : (lz_dg (lz_cd t p) || lz_lt (lz_cd t p)) = true
    · rw [if_pos h2] at h
      simp only [Prod.mk.injEq, true_and] at h
      omega
    rw [if_neg h2] at h
    by_cases h3 : lz_cd t p = 68
    · rw [if_pos h3] at h
      by_cases h4 : lz_dg (lz_cd t (p + 1)) = false
      · rw [if_pos h4] at h
        cases h
      rw [if_neg h4] at h
      by_cases h5 : ¬ lz_cd t (p + 2) = 40
      · rw [if_pos h5] at h
        cases h
      rw [if_neg h5] at h
      have := lz_ls_b ih _ _ _ h
      omega
    rw [if_neg h3] at h
    by_cases h4 : lz_pa (lz_cd t p) = 0 ∨ k = 0
    · rw [if_pos h4] at h
      cases h
    rw [if_neg h4] at h
    have := lz_ps_b ih _ _ _ (by omega) h
    omega
theorem lz_ps_m {f g : Nat → Bool × Nat} (hf : ∀ p e, f p = (true, e) → g p = (true, e)) : ∀ (n p e : Nat), lz_ps f n p = (true, e) → lz_ps g n p = (true, e) := by
  intro n
  induction n with
  | zero =>
    intro p e h
    exact h
  | succ n ih =>
    intro p e h
    unfold lz_ps at h ⊢
    by_cases hc : (f p).1 = true
    · rw [if_pos hc] at h
      have h1 := hf p (f p).2 (Prod.ext hc rfl)
      rw [h1, if_pos rfl]
      exact ih _ _ h
    · rw [if_neg hc] at h
      rw [h] at hc
      exact absurd rfl hc
theorem lz_ls_m {f g : Nat → Bool × Nat} {t : List Int32} (hf : ∀ p e, f p = (true, e) → g p = (true, e)) : ∀ (n p e : Nat), lz_ls f t n p = (true, e) → lz_ls g t n p = (true, e) := by
  intro n
  induction n with
  | zero =>
    intro p e h
    exact h
  | succ n ih =>
    intro p e h
    unfold lz_ls at h ⊢
    by_cases hq : lz_cd t p = 41
    · rw [if_pos hq] at h ⊢
      exact h
    rw [if_neg hq] at h ⊢
    by_cases hc : (f p).1 = true
    · rw [if_pos hc] at h
      have h1 := hf p (f p).2 (Prod.ext hc rfl)
      rw [h1, if_pos rfl]
      exact ih _ _ h
    · rw [if_neg hc] at h
      rw [h] at hc
      exact absurd rfl hc
theorem lz_rd_m1 {t : List Int32} : ∀ (k p e : Nat), lz_rd t k p = (true, e) → lz_rd t (k + 1) p = (true, e) := by
  intro k
  induction k with
  | zero =>
    intro p e h
    simp [lz_rd] at h
  | succ k ih =>
    intro p e h
    unfold lz_rd at h
    rw [lz_rd]
    by_cases h1 : t.length ≤ p
    · rw [if_pos h1] at h
      cases h
    rw [if_neg h1] at h ⊢
    by_cases h2 : (lz_dg (lz_cd t p) || lz_lt (lz_cd t p)) = true
    · rw [if_pos h2] at h ⊢
      exact h
    rw [if_neg h2] at h ⊢
    by_cases h3 : lz_cd t p = 68
    · rw [if_pos h3] at h ⊢
      by_cases h4 : lz_dg (lz_cd t (p + 1)) = false
      · rw [if_pos h4] at h
        cases h
      rw [if_neg h4] at h ⊢
      by_cases h5 : ¬ lz_cd t (p + 2) = 40
      · rw [if_pos h5] at h
        cases h
      rw [if_neg h5] at h ⊢
      exact lz_ls_m ih _ _ _ h
    rw [if_neg h3] at h ⊢
    by_cases h4 : lz_pa (lz_cd t p) = 0 ∨ k = 0
    · rw [if_pos h4] at h
      cases h
    rw [if_neg h4] at h
    rw [if_neg (by omega)]
    exact lz_ps_m ih _ _ _ h
theorem lz_rd_m {t : List Int32} {k j p e : Nat} (hk : k ≤ j) (h : lz_rd t k p = (true, e)) : lz_rd t j p = (true, e) := by
  induction j with
  | zero =>
    have : k = 0 := by omega
    subst this
    exact h
  | succ j ih =>
    by_cases hq : k = j + 1
    · subst hq
      exact h
    · exact lz_rd_m1 _ _ _ (ih (by omega))
theorem lz_ps_z {f : Nat → Bool × Nat} {t : List Int32} (hf : ∀ p e, f p = (true, e) → lz_cd t (e - 1) ≠ 68) : ∀ (n p e : Nat), lz_cd t (p - 1) ≠ 68 ∨ 0 < n → lz_ps f n p = (true, e) → lz_cd t (e - 1) ≠ 68 := by
  intro n
  induction n with
  | zero =>
    intro p e hp h
    simp only [lz_ps, Prod.mk.injEq, true_and] at h
    subst h
    rcases hp with hp | hp
    · exact hp
    · exact absurd hp (Nat.lt_irrefl 0)
  | succ n ih =>
    intro p e hp h
    unfold lz_ps at h
    by_cases hc : (f p).1 = true
    · rw [if_pos hc] at h
      have h1 := hf p (f p).2 (Prod.ext hc rfl)
      exact ih _ _ (Or.inl h1) h
    · rw [if_neg hc] at h
      rw [h] at hc
      exact absurd rfl hc
theorem lz_ls_z {f : Nat → Bool × Nat} {t : List Int32} : ∀ (n p e : Nat), (∀ p e, f p = (true, e) → True) → lz_ls f t n p = (true, e) → lz_cd t (e - 1) = 41 := by
  intro n
  induction n with
  | zero =>
    intro p e _ h
    unfold lz_ls at h
    by_cases hc : lz_cd t p = 41
    · rw [if_pos hc] at h
      simp only [Prod.mk.injEq, true_and] at h
      subst h
      exact hc
    · rw [if_neg hc] at h
      cases h
  | succ n ih =>
    intro p e hf h
    unfold lz_ls at h
    by_cases hc : lz_cd t p = 41
    · rw [if_pos hc] at h
      simp only [Prod.mk.injEq, true_and] at h
      subst h
      exact hc
    · rw [if_neg hc] at h
      by_cases hd : (f p).1 = true
      · rw [if_pos hd] at h
        exact ih _ _ hf h
      · rw [if_neg hd] at h
        rw [h] at hd
        exact absurd rfl hd
/-- the last character of an EXPRESSION is no D -/
theorem lz_rd_z {t : List Int32} : ∀ (k p e : Nat), lz_rd t k p = (true, e) → lz_cd t (e - 1) ≠ 68 := by
  intro k
  induction k with
  | zero =>
    intro p e h
    simp [lz_rd] at h
  | succ k ih =>
    intro p e h
    unfold lz_rd at h
    by_cases h1 : t.length ≤ p
    · rw [if_pos h1] at h
      cases h
    rw [if_neg h1] at h
    by_cases h2 : (lz_dg (lz_cd t p) || lz_lt (lz_cd t p)) = true
    · rw [if_pos h2] at h
      simp only [Prod.mk.injEq, true_and] at h
      subst h
      intro h3
      rw [Nat.add_sub_cancel] at h3
      rw [h3] at h2
      exact absurd h2 (by decide)
    rw [if_neg h2] at h
    by_cases h3 : lz_cd t p = 68
    · rw [if_pos h3] at h
      by_cases h4 : lz_dg (lz_cd t (p + 1)) = false
      · rw [if_pos h4] at h
        cases h
      rw [if_neg h4] at h
      by_cases h5 : ¬ lz_cd t (p + 2) = 40
      · rw [if_pos h5] at h
        cases h
      rw [if_neg h5] at h
      rw [lz_ls_z _ _ _ (fun _ _ _ => trivial) h]
      decide
    rw [if_neg h3] at h
    by_cases h4 : lz_pa (lz_cd t p) = 0 ∨ k = 0
    · rw [if_pos h4] at h
      cases h
    rw [if_neg h4] at h
    exact lz_ps_z ih _ _ _ (Or.inr (by omega)) h
