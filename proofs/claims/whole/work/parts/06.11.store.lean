/-! PURE: VALUES and THE STORE. A VALUE is a long: a NUMBER as it is, PLAN j (from 0) as lz_pv j. -/
abbrev lz_P : Type := Int32 × List Int64 × Bool × Int32 × Bool
abbrev lz_S : Type := (Nat → lz_P) × Nat × (Nat → Int32) × Nat
def lz_b (x : Bool) : Int32 := if x = true then 1 else 0
theorem lz_b0 {x : Bool} : lz_b x = 0 ↔ x = false := by cases x <;> decide
theorem lz_b1 {x : Bool} : ¬ lz_b x = 0 ↔ x = true := by cases x <;> decide
theorem lz_b01 (x : Bool) : lz_b x = 0 ∨ lz_b x = 1 := by cases x <;> decide
def lz_bad (v : Int64) : Bool := decide (v < -1000000000000)
def lz_pl (v : Int64) : Bool := decide (1000000000000 < v)
def lz_pv (j : Nat) : Int64 := 1000000000000 + lN (j + 1)
def lz_ix (v : Int64) : Nat := (Int64.toInt32 (v - 1000000000000)).toNatClampNeg - 1
def lz_V (n : Nat) (v : Int64) : Prop := (∃ x : Int32, v = x.toInt64) ∨ ∃ j : Nat, j < n ∧ v = lz_pv j
theorem lz_pv_i {j : Nat} : Int64.toInt32 (lz_pv j - 1000000000000) = nI (j + 1) := by
  unfold lz_pv
  rw [Int64.add_comm, Int64.add_sub_cancel, lN_i]
theorem lz_pv_ix {j : Nat} (h : j < 2 ^ 30) : lz_ix (lz_pv j) = j := by
  unfold lz_ix
  rw [lz_pv_i, nI_clamp (by omega)]
  rfl
theorem lz_pv_T {j : Nat} (h : j < 2 ^ 30) : (lz_pv j).toInt = 1000000000000 + (j + 1 : Nat) := by
  unfold lz_pv
  rw [show (1000000000000 : Int64) = lN 1000000000000 from rfl, lN_add, pk_lT (by omega)]
  omega
theorem lz_pv_pl {j : Nat} (h : j < 2 ^ 30) : lz_pl (lz_pv j) = true := by
  unfold lz_pl
  rw [decide_eq_true_iff, Int64.lt_iff_toInt_lt, lz_pv_T h, show (1000000000000 : Int64).toInt = 1000000000000 from rfl]
  omega
theorem lz_pv_bad {j : Nat} (h : j < 2 ^ 30) : lz_bad (lz_pv j) = false := by
  unfold lz_bad
  rw [decide_eq_false_iff_not, Int64.lt_iff_toInt_lt, lz_pv_T h, show (-1000000000000 : Int64).toInt = -1000000000000 from rfl]
  omega
theorem lz_n_pl (x : Int32) : lz_pl x.toInt64 = false := by
  unfold lz_pl
  have h := Int32.toInt_lt x
  rw [decide_eq_false_iff_not, Int64.lt_iff_toInt_lt, Int32.toInt_toInt64, show (1000000000000 : Int64).toInt = 1000000000000 from rfl]
  omega
theorem lz_n_bad (x : Int32) : lz_bad x.toInt64 = false := by
  unfold lz_bad
  have h := Int32.le_toInt x
  rw [decide_eq_false_iff_not, Int64.lt_iff_toInt_lt, Int32.toInt_toInt64, show (-1000000000000 : Int64).toInt = -1000000000000 from rfl]
  omega
theorem lz_V.bad {n : Nat} {v : Int64} (hn : n ≤ 2 ^ 30) (h : lz_V n v) : lz_bad v = false := by
  rcases h with ⟨x, rfl⟩ | ⟨j, hj, rfl⟩
  · exact lz_n_bad x
  · exact lz_pv_bad (by omega)
theorem lz_V.mono {n m : Nat} {v : Int64} (hn : n ≤ m) (h : lz_V n v) : lz_V m v := by
  rcases h with h | ⟨j, hj, h⟩
  · exact Or.inl h
  · exact Or.inr ⟨j, by omega, h⟩
theorem lz_V_pv {n j : Nat} {v : Int64} (h : lz_V n v) (hj : j < 2 ^ 30) (hn : n ≤ 2 ^ 30) (e : v = lz_pv j) : j < n := by
  rcases h with ⟨x, hx⟩ | ⟨i, hi, hx⟩
  · have h1 := lz_n_pl x
    rw [← hx, e, lz_pv_pl hj] at h1
    cases h1
  · have h1 := congrArg Int64.toInt (e.symm.trans hx)
    rw [lz_pv_T hj, lz_pv_T (by omega)] at h1
    omega
def lz_setP (S : lz_S) (i : Nat) (x : lz_P) : lz_S := (fun j => if j = i then x else S.1 j, S.2)
def lz_okP (i : Nat) (p : lz_P) : Prop := p.2.1.length ≤ 4 ∧ (∀ v ∈ p.2.1, lz_V i v) ∧ (∃ m : Nat, m < 10 ∧ p.1 = nI m) ∧ (p.2.2.1 = false → p.2.2.2.1 = 0)
def lz_okS (S : lz_S) : Prop := S.2.1 ≤ 30 ∧ (∀ i, i < S.2.1 → lz_okP i (S.1 i)) ∧ ∀ b, b < 10 → ∃ k : Nat, k ≤ 4 ∧ S.2.2.1 b = nI k
/-- what a VALUE is as a PART -/
def lz_rp (S : lz_S) (v : Int64) : Int32 := if lz_pl v = true then (S.1 (lz_ix v)).2.2.2.1 else v.toInt32
def lz_sum (S : lz_S) (vs : List Int64) : Int32 := vs.foldl (fun a v => a + lz_rp S v) 0
def lz_prod (S : lz_S) (vs : List Int64) : Int32 := vs.foldl (fun a v => a * lz_rp S v) 1
def lz_mx (a b : Int32) : Int32 := if a < b then b else a
def lz_great (S : lz_S) : List Int64 → Int32
  | [] => 0
  | v :: vs => vs.foldl (fun a v => lz_mx a (lz_rp S v)) (lz_rp S v)
def lz_out (S : lz_S) (k : Int32) (vs : List Int64) : Int32 := if k = 1 then lz_prod S vs else if k = 2 then lz_great S vs else if k = 3 then nI vs.length else lz_sum S vs
/-- PLAN j is built, its INPUTS being built -/
def lz_fin (S : lz_S) (j : Nat) : Int64 × lz_S :=
  if S.2.2.1 (S.1 j).1.toNatClampNeg = 4 ∨ (S.2.2.1 (S.1 j).1.toNatClampNeg = 3 ∧ ¬ lz_great S (S.1 j).2.1 < 100) then (-1000000000007, S)
  else ((lz_out S (S.2.2.1 (S.1 j).1.toNatClampNeg) (S.1 j).2.1).toInt64, ((lz_setP S j ((S.1 j).1, (S.1 j).2.1, true, lz_out S (S.2.2.1 (S.1 j).1.toNatClampNeg) (S.1 j).2.1, (S.1 j).2.2.2.2)).1, S.2.1, S.2.2.1, S.2.2.2 + 1))
def lz_bi (g : lz_S → Int64 → Int64 × lz_S) : List Int64 → lz_S → Int64 × lz_S
  | [], S => (0, S)
  | v :: vs, S => if lz_bad (g S v).1 = true then g S v else lz_bi g vs (g S v).2
/-- a VALUE as a PART, built if it is a PLAN -/
def lz_pt : Nat → lz_S → Int64 → Int64 × lz_S
  | 0, S, v => (v, S)
  | f + 1, S, v =>
    if lz_pl v = false then (v, S)
    else if (S.1 (lz_ix v)).2.2.1 = true then ((S.1 (lz_ix v)).2.2.2.1.toInt64, S)
    else if lz_bad (lz_bi (lz_pt f) (S.1 (lz_ix v)).2.1 S).1 = true then lz_bi (lz_pt f) (S.1 (lz_ix v)).2.1 S
    else lz_fin (lz_bi (lz_pt f) (S.1 (lz_ix v)).2.1 S).2 (lz_ix v)
/-- two stores that differ in what is built alone -/
def lz_sm (S T : lz_S) : Prop := T.2.1 = S.2.1 ∧ T.2.2.1 = S.2.2.1 ∧ ∀ j, (T.1 j).1 = (S.1 j).1 ∧ (T.1 j).2.1 = (S.1 j).2.1 ∧ (T.1 j).2.2.2.2 = (S.1 j).2.2.2.2
theorem lz_sm.rf {S : lz_S} : lz_sm S S := ⟨rfl, rfl, fun _ => ⟨rfl, rfl, rfl⟩⟩
theorem lz_sm.tr {S T U : lz_S} (h : lz_sm S T) (k : lz_sm T U) : lz_sm S U := ⟨k.1.trans h.1, k.2.1.trans h.2.1, fun j => ⟨(k.2.2 j).1.trans (h.2.2 j).1, (k.2.2 j).2.1.trans (h.2.2 j).2.1, (k.2.2 j).2.2.trans (h.2.2 j).2.2⟩⟩
theorem lz_fin_sm (S : lz_S) (j : Nat) : lz_sm S (lz_fin S j).2 := by
  unfold lz_fin
  split
  · exact lz_sm.rf
  · refine ⟨rfl, rfl, fun i => ?_⟩
    simp only [lz_setP]
    by_cases h : i = j
    · subst h
      simp
    · simp [h]
theorem lz_bi_sm {g : lz_S → Int64 → Int64 × lz_S} (hg : ∀ S v, lz_sm S (g S v).2) : ∀ (vs : List Int64) (S : lz_S), lz_sm S (lz_bi g vs S).2 := by
  intro vs
  induction vs with
  | nil => exact fun S => lz_sm.rf
  | cons v vs ih =>
    intro S
    unfold lz_bi
    split
    · exact hg S v
    · exact (hg S v).tr (ih _)
theorem lz_pt_sm : ∀ (f : Nat) (S : lz_S) (v : Int64), lz_sm S (lz_pt f S v).2 := by
  intro f
  induction f with
  | zero => exact fun S v => lz_sm.rf
  | succ f ih =>
    intro S v
    unfold lz_pt
    split
    · exact lz_sm.rf
    split
    · exact lz_sm.rf
    split
    · exact lz_bi_sm ih _ _
    · exact (lz_bi_sm ih _ _).tr (lz_fin_sm _ _)
theorem lz_fin_ok {S : lz_S} (j : Nat) (h : lz_okS S) : lz_okS (lz_fin S j).2 := by
  unfold lz_fin
  split
  · exact h
  · refine ⟨h.1, fun i hi => ?_, h.2.2⟩
    simp only [lz_setP]
    by_cases hij : i = j
    · subst hij
      rw [if_pos rfl]
      obtain ⟨q1, q2, q3, -⟩ := h.2.1 i hi
      exact ⟨q1, q2, q3, fun h => by cases h⟩
    · rw [if_neg hij]
      exact h.2.1 i hi
theorem lz_bi_ok {g : lz_S → Int64 → Int64 × lz_S} (hg : ∀ S v, lz_okS S → lz_okS (g S v).2) : ∀ (vs : List Int64) (S : lz_S), lz_okS S → lz_okS (lz_bi g vs S).2 := by
  intro vs
  induction vs with
  | nil => exact fun S h => h
  | cons v vs ih =>
    intro S h
    unfold lz_bi
    split
    · exact hg S v h
    · exact ih _ (hg S v h)
theorem lz_pt_ok : ∀ (f : Nat) (S : lz_S) (v : Int64), lz_okS S → lz_okS (lz_pt f S v).2 := by
  intro f
  induction f with
  | zero => exact fun S v h => h
  | succ f ih =>
    intro S v h
    unfold lz_pt
    split
    · exact h
    split
    · exact h
    split
    · exact lz_bi_ok ih _ _ h
    · exact lz_fin_ok _ (lz_bi_ok ih _ _ h)
/-- a NUMBER, or BROKEN -/
def lz_nb (v : Int64) : Prop := (∃ x : Int32, v = x.toInt64) ∨ v = -1000000000007
theorem lz_fin_nb (S : lz_S) (j : Nat) : lz_nb (lz_fin S j).1 := by
  unfold lz_fin
  split
  · exact Or.inr rfl
  · exact Or.inl ⟨_, rfl⟩
theorem lz_bi_nb {g : lz_S → Int64 → Int64 × lz_S} {n : Nat} (hg : ∀ S v, lz_V n v → lz_nb (g S v).1) : ∀ (vs : List Int64) (S : lz_S), (∀ v ∈ vs, lz_V n v) → lz_nb (lz_bi g vs S).1 := by
  intro vs
  induction vs with
  | nil => exact fun S _ => Or.inl ⟨0, rfl⟩
  | cons v vs ih =>
    intro S h
    unfold lz_bi
    split
    · exact hg S v (h v List.mem_cons_self)
    · exact ih _ (fun v hv => h v (List.mem_cons_of_mem _ hv))
/-- the first of n numbers from i on that p names -/
def lz_fi (p : Nat → Bool) : Nat → Nat → Option Nat
  | 0, _ => none
  | n + 1, i => if p i = true then some i else lz_fi p n (i + 1)
def lz_al (S : lz_S) (mk : Int32) (vs : List Int64) (i : Nat) : Bool := decide ((S.1 i).1 = mk ∧ (S.1 i).2.1 = vs)
/-- the PLAN with that builder and those INPUTS, which comes into THE STORE if it isn't there -/
def lz_of (S : lz_S) (mk : Int32) (vs : List Int64) : Int64 × lz_S :=
  match lz_fi (lz_al S mk vs) S.2.1 0 with
  | some i => (lz_pv i, S)
  | none => if 30 ≤ S.2.1 then (-1000000000009, S) else (lz_pv S.2.1, (fun j => if j = S.2.1 then (mk, vs, false, 0, false) else S.1 j, S.2.1 + 1, S.2.2))
theorem lz_fi_lt {p : Nat → Bool} : ∀ (n i j : Nat), lz_fi p n i = some j → i ≤ j ∧ j < i + n ∧ p j = true := by
  intro n
  induction n with
  | zero =>
    intro i j h
    cases h
  | succ n ih =>
    intro i j h
    unfold lz_fi at h
    by_cases hp : p i = true
    · rw [if_pos hp] at h
      cases h
      exact ⟨Nat.le_refl _, by omega, hp⟩
    · rw [if_neg hp] at h
      obtain ⟨h1, h2, h3⟩ := ih _ _ h
      exact ⟨by omega, by omega, h3⟩
theorem lz_pt_nb : ∀ (f : Nat) {S : lz_S} {v : Int64}, lz_okS S → lz_V S.2.1 v → (∀ j, j < 30 → v = lz_pv j → j < f) → lz_nb (lz_pt f S v).1 := by
  intro f
  induction f with
  | zero =>
    intro S v h hV hj
    rcases hV with ⟨x, rfl⟩ | ⟨j, hj1, rfl⟩
    · exact Or.inl ⟨x, rfl⟩
    · exact absurd (hj j (by have := h.1; omega) rfl) (by omega)
  | succ f ih =>
    intro S v h hV hj
    unfold lz_pt
    rcases hV with ⟨x, rfl⟩ | ⟨j, hj1, rfl⟩
    · rw [if_pos (lz_n_pl x)]
      exact Or.inl ⟨x, rfl⟩
    have hn := h.1
    rw [if_neg (by rw [lz_pv_pl (by omega)]; decide), lz_pv_ix (by omega)]
    split
    · exact Or.inl ⟨_, rfl⟩
    split
    · have hjf := hj j (by omega) rfl
      have hB : ∀ (vs : List Int64) (U : lz_S), lz_okS U → lz_sm S U → (∀ v ∈ vs, lz_V j v) → lz_nb (lz_bi (lz_pt f) vs U).1 := by
        intro vs
        induction vs with
        | nil => exact fun U _ _ _ => Or.inl ⟨0, rfl⟩
        | cons v vs ihv =>
          intro U hU hs hv
          have hvj := hv v List.mem_cons_self
          unfold lz_bi
          split
          · exact ih hU (by rw [hs.1]; exact hvj.mono (by omega)) (fun i hi e => by have := lz_V_pv hvj (by omega) (by omega) e; omega)
          · exact ihv _ (lz_pt_ok f U v hU) (hs.tr (lz_pt_sm f U v)) (fun x hx => hv x (List.mem_cons_of_mem _ hx))
      exact hB _ _ h lz_sm.rf (h.2.1 j hj1).2.1
    · exact lz_fin_nb _ _
