/-! THE REFERENCE: small methods; what its memory says of the document's state. -/
section RBA
variable {l : Launch} {G : mx_G} {r d : Nat} {m : rm_M} {Q : Option Value → rm_M → Prop}
theorem r_digit {c : Int32} (k : Q (some (.int (lz_b (lz_dg c)))) m) : mr_C l G r (d + 1) mm_RM_digit [.int c] m Q := by
  refine wr_digit_0 _ ⟨fun h => ?_, fun h => ⟨fun h2 => ?_, fun h2 => ?_⟩⟩
  · have e : lz_dg c = false := by unfold lz_dg; simp [Int32.not_le.mpr h]
    rw [e] at k
    exact k
  · have e : lz_dg c = false := by unfold lz_dg; simp [Int32.not_le.mpr h2]
    rw [e] at k
    exact k
  · have e : lz_dg c = true := by unfold lz_dg; simp [Int32.not_lt.mp h, Int32.not_lt.mp h2]
    rw [e] at k
    exact k
theorem r_name {c : Int32} (k : Q (some (.int (lz_b (lz_lt c)))) m) : mr_C l G r (d + 1) mm_RM_name [.int c] m Q := by
  refine wr_name_0 _ ⟨fun h => ?_, fun h => ⟨fun h2 => ?_, fun h2 => ?_⟩⟩
  · have e : lz_lt c = false := by unfold lz_lt; simp [Int32.not_le.mpr h]
    rw [e] at k
    exact k
  · have h3 : ¬ c < 105 := fun z => by
      have h4 := Int32.lt_iff_toInt_lt.mp h2
      have h5 := Int32.lt_iff_toInt_lt.mp z
      rw [show (104 : Int32).toInt = 104 from rfl] at h4
      rw [show (105 : Int32).toInt = 105 from rfl] at h5
      omega
    have e : lz_lt c = false := by unfold lz_lt; simp [h3]
    rw [e] at k
    exact k
  · have h3 : c < 105 := by
      have h4 := Int32.le_iff_toInt_le.mp (Int32.not_lt.mp h2)
      refine Int32.lt_iff_toInt_lt.mpr ?_
      rw [show (104 : Int32).toInt = 104 from rfl] at h4
      rw [show (105 : Int32).toInt = 105 from rfl]
      omega
    have e : lz_lt c = true := by unfold lz_lt; simp [Int32.not_lt.mp h, h3]
    rw [e] at k
    exact k
theorem r_wants {c : Int32} (k : Q (some (.int (nI (lz_pa c)))) m) : mr_C l G r (d + 1) mm_RM_wants [.int c] m Q := by
  have k1 : c = 33 ∨ c = 79 → mr_Ok l G r (d + 1) mm_RM_wants 54 [] [] m Q := fun h => wr_wants_54 (by
    rcases h with h | h
    · subst h
      exact k
    · subst h
      exact k)
  refine wr_wants_0 _ ⟨fun h => ?_, fun h1 => ⟨fun h => ?_, fun h2 => ⟨fun h => ?_, fun h3 => ⟨fun h => ?_, fun h4 => ⟨fun h5 => ⟨fun h6 => ⟨fun h => k1 (Or.inl h), fun h7 => ⟨fun h8 => ?_, fun h8 => k1 (Or.inr (Decidable.not_not.mp h8))⟩⟩, fun h => ?_⟩, fun h => ?_⟩⟩⟩⟩⟩
  · subst h
    exact k
  · subst h
    exact k
  · subst h
    exact k
  · subst h
    exact k
  · have e : lz_pa c = 0 := by
      unfold lz_pa
      rw [if_neg (by rintro (q | q) <;> contradiction), if_neg (by rintro (q | q | q | q | q) <;> contradiction), if_neg h6]
    rw [e] at k
    exact k
  · have h := Decidable.not_not.mp h
    subst h
    exact k
  · have h := Decidable.not_not.mp h
    subst h
    exact k
theorem lz_V_num {n : Nat} {v : Int64} (hn : n ≤ 2 ^ 29) (h : lz_V n v) : lz_pl v = decide (500000000000 ≤ v) := by
  rcases h with ⟨x, rfl⟩ | ⟨j, hj, rfl⟩
  · rw [lz_n_pl, decide_eq_false]
    have h := Int32.toInt_lt x
    rw [Int64.le_iff_toInt_le, Int32.toInt_toInt64, show (500000000000 : Int64).toInt = 500000000000 from rfl]
    omega
  · rw [lz_pv_pl (by omega), decide_eq_true]
    rw [Int64.le_iff_toInt_le, lz_pv_T (by omega), show (500000000000 : Int64).toInt = 500000000000 from rfl]
    omega
theorem r_isNumber {n : Nat} {v : Int64} (hn : n ≤ 2 ^ 29) (hV : lz_V n v) (k : Q (some (.int (lz_b (!lz_pl v)))) m) : mr_C l G r (d + 1) mm_RM_isNumber [.long v] m Q := by
  rw [lz_V_num hn hV] at k
  refine wr_isNumber_0 _ ⟨fun h => ?_, fun h => ?_⟩
  · rw [decide_eq_true h] at k
    exact k
  · rw [decide_eq_false h] at k
    exact k
/-- the parts of the memory that last -/
def rq_i : Nat → Bool := fun k => k == 0 || k == 1 || k == 3 || k == 4 || k == 5 || k == 24 || k == 25 || k == 27 || k == 28 || k == 29 || k == 31
def rq_s : Nat → Bool := fun k => k == 6 || k == 20 || k == 21 || k == 34 || k == 35
def rq (m m' : rm_M) : Prop := (∀ k i, rq_i k = true → m'.1 k i = m.1 k i) ∧ (∀ k i, (k = 2 ∨ k = 26) → m'.2.1 k i = m.2.1 k i) ∧ ∀ k, rq_s k = true → m'.2.2.1 k = m.2.2.1 k
theorem rq.rf {m : rm_M} : rq m m := ⟨fun _ _ _ => rfl, fun _ _ _ => rfl, fun _ _ => rfl⟩
theorem rq.tr {m1 m2 m3 : rm_M} (h : rq m1 m2) (k : rq m2 m3) : rq m1 m3 := ⟨fun a b c => (k.1 a b c).trans (h.1 a b c), fun a b c => (k.2.1 a b c).trans (h.2.1 a b c), fun a b => (k.2.2 a b).trans (h.2.2 a b)⟩
theorem rq.ii {m : rm_M} {k i : Nat} {v : Int32} (h : rq_i k = false) : rq m (rs_i m k i v) := by
  refine ⟨fun k' i' h' => ?_, fun _ _ _ => rfl, fun _ _ => rfl⟩
  show (if k' = k ∧ i' = i then v else m.1 k' i') = _
  rw [if_neg]
  rintro ⟨rfl, -⟩
  rw [h] at h'
  cases h'
theorem rq.ll {m : rm_M} {k i : Nat} {v : Int64} (h : k ≠ 2) (h2 : k ≠ 26) : rq m (rs_l m k i v) := by
  refine ⟨fun _ _ _ => rfl, fun k' i' h' => ?_, fun _ _ => rfl⟩
  show (if k' = k ∧ i' = i then v else m.2.1 k' i') = _
  rw [if_neg]
  rintro ⟨rfl, -⟩
  rcases h' with h' | h'
  · exact h h'
  · exact h2 h'
theorem rq.ss {m : rm_M} {k : Nat} {v : Int32} (h : rq_s k = false) : rq m (rs_s m k v) := by
  refine ⟨fun _ _ _ => rfl, fun _ _ _ => rfl, fun k' h' => ?_⟩
  show (if k' = k then v else m.2.2.1 k') = _
  rw [if_neg]
  rintro rfl
  rw [h] at h'
  cases h'
theorem rq.rr {m : rm_M} {v : Int64} : rq m (rs_r m v) := ⟨fun _ _ _ => rfl, fun _ _ _ => rfl, fun _ _ => rfl⟩
def rx_S (m : rm_M) (S : lz_S) : Prop := m.2.2.1 34 = nI S.2.1 ∧ m.2.2.1 35 = nI S.2.2.2 ∧
  (∀ i, i < S.2.1 → m.1 24 (i + 1) = (S.1 i).1 ∧ m.1 25 (i + 1) = nI (S.1 i).2.1.length ∧ (∀ j, j < (S.1 i).2.1.length → (S.1 i).2.1[j]? = some (m.2.1 26 ((i + 1) * 4 + j))) ∧ m.1 27 (i + 1) = lz_b (S.1 i).2.2.1 ∧ ((S.1 i).2.2.1 = true → m.1 28 (i + 1) = (S.1 i).2.2.2.1) ∧ m.1 29 (i + 1) = lz_b (S.1 i).2.2.2.2) ∧
  (∀ p, S.2.1 < p → p ≤ 30 → m.1 27 p = 0 ∧ m.1 29 p = 0) ∧ (∀ b, b < 10 → m.1 31 b = S.2.2.1 b) ∧ lz_okS S
def rx_N (m : rm_M) (w : lz_W) : Prop := ∀ n, n < 8 → m.1 4 n = lz_b (w.1 n).1 ∧ m.1 5 n = lz_b (w.1 n).2.1 ∧ m.1 3 n = lz_b (decide (¬ (w.1 n).2.2 = -1000000000000)) ∧ (¬ (w.1 n).2.2 = -1000000000000 → m.2.1 2 n = (w.1 n).2.2)
def rx_t (m : rm_M) (s : Nat) (t : List Int32) : Prop := t.length ≤ 24 ∧ ∀ i, i < t.length → m.1 0 (s * 24 + i) = lz_cd t i
def rx_W (m : rm_M) (T : Nat → List Int32) (w : lz_W) : Prop := rx_N m w ∧ (∀ n, n < 8 → (w.1 n).1 = true → rx_t m n (T n)) ∧ m.2.2.1 20 = nI w.2.1 ∧ m.2.2.1 21 = nI w.2.2.1 ∧ rx_S m w.2.2.2 ∧ lz_okW T w
def rx (m : rm_M) (o : lz_O) : Prop := rx_t m 8 o.1 ∧ m.1 1 8 = nI o.1.length ∧ m.2.2.1 6 = o.2.1 ∧ m.1 3 8 = lz_b (decide (¬ o.2.2.1 = -1000000000000)) ∧ (¬ o.2.2.1 = -1000000000000 → m.2.1 2 8 = o.2.2.1) ∧ rx_W m o.2.2.2.1 o.2.2.2.2 ∧ (∀ i, i < 8 → (o.2.2.2.2.1 i).2.1 = false) ∧ o.2.2.2.2.2.1 ≤ 200 ∧ o.2.2.2.2.2.2.1 ≤ 230
theorem rx_S.q {m m' : rm_M} {S : lz_S} (h : rx_S m S) (q : rq m m') : rx_S m' S := by
  obtain ⟨h1, h2, h3, h4, h5, h6⟩ := h
  refine ⟨(q.2.2 _ rfl).trans h1, (q.2.2 _ rfl).trans h2, fun i hi => ?_, fun p hp hp2 => ?_, fun b hb => (q.1 _ _ rfl).trans (h5 b hb), h6⟩
  · obtain ⟨a1, a2, a3, a4, a5, a6⟩ := h3 i hi
    exact ⟨(q.1 _ _ rfl).trans a1, (q.1 _ _ rfl).trans a2, fun j hj => by rw [q.2.1 26 _ (Or.inr rfl)]; exact a3 j hj, (q.1 _ _ rfl).trans a4, fun z => (q.1 _ _ rfl).trans (a5 z), (q.1 _ _ rfl).trans a6⟩
  · rw [q.1 27 _ rfl, q.1 29 _ rfl]
    exact h4 p hp hp2
theorem rx_N.q {m m' : rm_M} {w : lz_W} (h : rx_N m w) (q : rq m m') : rx_N m' w := by
  intro n hn
  obtain ⟨a1, a2, a3, a4⟩ := h n hn
  exact ⟨(q.1 _ _ rfl).trans a1, (q.1 _ _ rfl).trans a2, (q.1 _ _ rfl).trans a3, fun z => (q.2.1 _ _ (Or.inl rfl)).trans (a4 z)⟩
theorem rx_t.q {m m' : rm_M} {s : Nat} {t : List Int32} (h : rx_t m s t) (q : rq m m') : rx_t m' s t := ⟨h.1, fun i hi => (q.1 _ _ rfl).trans (h.2 i hi)⟩
theorem rx_W.q {m m' : rm_M} {T : Nat → List Int32} {w : lz_W} (h : rx_W m T w) (q : rq m m') : rx_W m' T w := by
  obtain ⟨h1, h2, h3, h4, h5, h6⟩ := h
  exact ⟨h1.q q, fun n hn z => (h2 n hn z).q q, (q.2.2 _ rfl).trans h3, (q.2.2 _ rfl).trans h4, h5.q q, h6⟩
theorem rx.q {m m' : rm_M} {o : lz_O} (h : rx m o) (q : rq m m') : rx m' o := by
  obtain ⟨h1, h2, h3, h4, h5, h6, h7⟩ := h
  exact ⟨h1.q q, (q.1 _ _ rfl).trans h2, (q.2.2 _ rfl).trans h3, (q.1 _ _ rfl).trans h4, fun z => (q.2.1 _ _ (Or.inl rfl)).trans (h5 z), h6.q q, h7⟩
theorem r_noPlan {S : lz_S} (h : rx_S m S) {x : Int32} (k0 : ∀ j, j < S.2.1 → x = nI (j + 1) → Q (some (.int 0)) m) (k1 : (x < 1 ∨ nI S.2.1 < x) → Q (some (.int 1)) m) : mr_C l G r (d + 1) mm_RM_noPlan [.int x] m Q := by
  have hn := h.2.2.2.2.2.1
  refine wr_noPlan_0 _ ⟨fun c => wr_noPlan_13 (k1 (Or.inl c)), fun c => ⟨fun c2 => ?_, fun c2 => wr_noPlan_13 (k1 (Or.inr ?_))⟩⟩
  · rw [h.1] at c2
    have c0 : ¬ x < 0 := fun q => c (by
      have : x.toInt < (0 : Int32).toInt := Int32.lt_iff_toInt_lt.mp q
      exact Int32.lt_iff_toInt_lt.mpr (by simp at this ⊢; omega))
    obtain ⟨j, hj, rfl⟩ := nI_of c0
    have hj0 : ¬ j < 1 := fun q => c (nI_lt (b := 1) q (by omega))
    have hj1 : j ≤ S.2.1 := (nI_leI hj (by omega)).mp c2
    exact k0 (j - 1) (by omega) (by rw [show j - 1 + 1 = j by omega])
  · rw [h.1] at c2
    exact Int32.not_le.mp c2
end RBA
