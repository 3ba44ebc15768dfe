/-! THE CLASS, its Store. s: the Store's cell; A i: the cell of PLAN i's INPUTS, the PLAN's own cell is the next one. -/
/-- the cells of the kinds P stand as they were -/
def mx_fr (P : Nat → Bool) (hs hs' : mx_H) : Prop := (∀ q x, hs.1 q = some x → P x.1 = true → hs'.1 q = some x) ∧ hs.2.1 ≤ hs'.2.1
def mx_wf (hs : mx_H) : Prop := ∀ q x, hs.1 q = some x → q < hs.2.1
theorem mx_fr.rf {P : Nat → Bool} {hs : mx_H} : mx_fr P hs hs := ⟨fun _ _ h _ => h, Nat.le_refl _⟩
theorem mx_fr.tr {P : Nat → Bool} {h1 h2 h3 : mx_H} (p : mx_fr P h1 h2) (q : mx_fr P h2 h3) : mx_fr P h1 h3 := ⟨fun a x hx hp => q.1 a x (p.1 a x hx hp) hp, Nat.le_trans p.2 q.2⟩
theorem mx_fr.st {P : Nat → Bool} {hs : mx_H} {a : Nat} {x y : mx_E} (h : hs.1 a = some y) (hy : P y.1 = false) : mx_fr P hs (mx_st hs a x) := by
  refine ⟨fun q z hz hp => ?_, Nat.le_refl _⟩
  by_cases hq : q = a
  · subst hq
    rw [h] at hz
    cases hz
    rw [hy] at hp
    cases hp
  · rw [mx_st_ne _ _ hq]
    exact hz
theorem mx_fr.nw {P : Nat → Bool} {hs : mx_H} {x : mx_E} {n : Nat} (h : mx_wf hs) : mx_fr P hs (mx_nw hs x n) := by
  refine ⟨fun q z hz hp => ?_, Nat.le_succ _⟩
  rw [mx_nw_ne _ _ _ (Nat.ne_of_lt (h q z hz))]
  exact hz
theorem mx_wf.st {hs : mx_H} {a : Nat} {x y : mx_E} (h : mx_wf hs) (ha : hs.1 a = some y) : mx_wf (mx_st hs a x) := by
  intro q z hz
  by_cases hq : q = a
  · subst hq
    exact h _ _ ha
  · rw [mx_st_ne _ _ hq] at hz
    exact h q z hz
theorem mx_wf.nw {hs : mx_H} {x : mx_E} {n : Nat} (h : mx_wf hs) : mx_wf (mx_nw hs x n) := by
  intro q z hz
  show q < hs.2.1 + 1
  by_cases hq : q = hs.2.1
  · omega
  · rw [mx_nw_ne _ _ _ hq] at hz
    have := h q z hz
    omega
/-- the cell of a PLAN -/
def lb_pc (a : Nat) (p : lz_P) (w : Int32) : mx_E := (3, [.int p.1, .ref a, .int (lz_b p.2.2.1), .int (lz_b p.2.2.2.2), .int w, .int p.2.2.2.1])
def lb_st (hs : mx_H) (s : Nat) (A : Nat → Nat) (wq : Nat → Int32) (S : lz_S) : Prop :=
  hs.1 s = some (4, [.ref (s + 1), .ref (s + 2), .int (nI S.2.1), .int (nI S.2.2.2)]) ∧
  (∃ ps : List Value, hs.1 (s + 1) = some (113, ps) ∧ ps.length = 30 ∧ ∀ i, i < S.2.1 → ps[i]? = some (.ref (A i + 1))) ∧
  (∃ ks : List Int32, hs.1 (s + 2) = some (100, ks.map Value.int) ∧ ks.length = 10 ∧ ∀ i, i < 10 → ks[i]? = some (S.2.2.1 i)) ∧
  (∀ i, i < S.2.1 → hs.1 (A i + 1) = some (lb_pc (A i) (S.1 i) (wq i)) ∧ hs.1 (A i) = some (102, (S.1 i).2.1.map Value.long)) ∧
  (∀ i, i < S.2.1 → s + 3 ≤ A i) ∧ (∀ i j, i < j → j < S.2.1 → A i + 2 ≤ A j) ∧ lz_okS S ∧ mx_wf hs
section CSTO
variable {l : Launch} {G : mx_G} {d s : Nat} {hs : mx_H} {Q : Option Value → mx_H → Prop} {A : Nat → Nat} {wq : Nat → Int32} {S : lz_S}
theorem lb_st.at (h : lb_st hs s A wq S) : hs.1 s = some (4, [.ref (s + 1), .ref (s + 2), .int (nI S.2.1), .int (nI S.2.2.2)]) := h.1
theorem lb_st.ok (h : lb_st hs s A wq S) : lz_okS S := h.2.2.2.2.2.2.1
theorem lb_st.wf (h : lb_st hs s A wq S) : mx_wf hs := h.2.2.2.2.2.2.2
theorem lb_st.plan (h : lb_st hs s A wq S) {i : Nat} (hi : i < S.2.1) : hs.1 (A i + 1) = some (lb_pc (A i) (S.1 i) (wq i)) ∧ hs.1 (A i) = some (102, (S.1 i).2.1.map Value.long) := h.2.2.2.1 i hi
/-- a PLAN's cell is changed, its INPUTS stay -/
theorem lb_st.upd (h : lb_st hs s A wq S) {i : Nat} (hi : i < S.2.1) {p : lz_P} {w : Int32} (hp : p.2.1 = (S.1 i).2.1) (hk : lz_okP i p) : lb_st (mx_st hs (A i + 1) (lb_pc (A i) p w)) s A (fun j => if j = i then w else wq j) (lz_setP S i p) := by
  obtain ⟨h1, ⟨ps, h2, h3⟩, ⟨ks, h4, h5⟩, h6, h7, h8, h9, h10⟩ := h
  have hA := h7 i hi
  refine ⟨?_, ⟨ps, ?_, h3⟩, ⟨ks, ?_, h5⟩, fun j hj => ?_, h7, h8, ⟨h9.1, fun j hj => ?_, h9.2.2⟩, h10.st (h6 i hi).1⟩
  · rw [mx_st_ne _ _ (by omega)]
    exact h1
  · rw [mx_st_ne _ _ (by omega)]
    exact h2
  · rw [mx_st_ne _ _ (by omega)]
    exact h4
  · by_cases hij : j = i
    · subst hij
      simp only [lz_setP, if_true]
      refine ⟨mx_st_eq _ _ _, ?_⟩
      rw [mx_st_ne _ _ (by omega), hp]
      exact (h6 j hj).2
    · simp only [lz_setP, if_neg hij]
      have hne : A j + 2 ≤ A i ∨ A i + 2 ≤ A j := by
        rcases Nat.lt_or_ge j i with q | q
        · exact Or.inl (h8 j i q hi)
        · exact Or.inr (h8 i j (by omega) hj)
      rw [mx_st_ne _ _ (by omega), mx_st_ne _ _ (by omega)]
      exact h6 j hj
  · by_cases hij : j = i
    · subst hij
      simp only [lz_setP, if_true]
      exact hk
    · simp only [lz_setP, if_neg hij]
      exact h9.2.1 j hj
/-- the count of BUILDS is changed -/
theorem lb_st.cnt (h : lb_st hs s A wq S) (n : Nat) : lb_st (mx_st hs s (4, [.ref (s + 1), .ref (s + 2), .int (nI S.2.1), .int (nI n)])) s A wq (S.1, S.2.1, S.2.2.1, n) := by
  obtain ⟨h1, ⟨ps, h2, h3⟩, ⟨ks, h4, h5⟩, h6, h7, h8, h9, h10⟩ := h
  refine ⟨mx_st_eq _ _ _, ⟨ps, ?_, h3⟩, ⟨ks, ?_, h5⟩, fun j hj => ?_, h7, h8, h9, h10.st h1⟩
  · rw [mx_st_ne _ _ (by omega)]
    exact h2
  · rw [mx_st_ne _ _ (by omega)]
    exact h4
  · have := h7 j hj
    rw [mx_st_ne _ _ (by omega), mx_st_ne _ _ (by omega)]
    exact h6 j hj
theorem lz_longs {vs : List Int64} {i : Nat} {v : Int64} (h : vs[i]? = some v) : (vs.map Value.long)[i]? = some (.long v) := by
  rw [List.getElem?_map, h]
  rfl
theorem c_planAt (h : lb_st hs s A wq S) {m : Int32} (k0 : (m < 1 ∨ nI S.2.1 < m) → Q (some .null) hs) (k1 : ∀ j, j < S.2.1 → m = nI (j + 1) → Q (some (.ref (A j + 1))) hs) : mx_C mx_S0 l G (d + 1) mm_LBStore_planAt [.ref s, .int m] hs Q := by
  have hn := h.ok.1
  obtain ⟨h1, ⟨ps, h2, h3, h4⟩, -⟩ := h
  refine wp_LBStore_planAt_0 _ _ ⟨fun c => k0 (Or.inl c), fun c => ⟨_, ⟨_, h1, rfl⟩, fun c2 => k0 (Or.inr c2), fun c2 => ?_⟩⟩
  obtain ⟨j, hj, rfl⟩ : ∃ j : Nat, j < S.2.1 ∧ m = nI (j + 1) := by
    have c0 : ¬ m < 0 := fun q => c (by
      have : m.toInt < (0 : Int32).toInt := Int32.lt_iff_toInt_lt.mp q
      exact Int32.lt_iff_toInt_lt.mpr (by simp at this ⊢; omega))
    obtain ⟨j, hj, rfl⟩ := nI_of c0
    have hj0 : ¬ j < 1 := fun q => c (nI_lt (b := 1) q (by omega))
    have hj1 : ¬ S.2.1 < j := fun q => c2 (nI_lt q hj)
    exact ⟨j - 1, by omega, by rw [show j - 1 + 1 = j by omega]⟩
  refine ⟨_, ⟨_, h1, rfl⟩, _, _, h2, ?_, ?_, k1 j hj rfl⟩
  · rw [nI_pred]
    exact nI_pos (by omega)
  · rw [nI_pred, nI_clamp (by omega)]
    exact h4 j hj
theorem c_planIn (h : lb_st hs s A wq S) {v : Int64} (hV : lz_V S.2.1 v) (k0 : ∀ x : Int32, v = x.toInt64 → Q (some .null) hs) (k1 : ∀ j, j < S.2.1 → v = lz_pv j → Q (some (.ref (A j + 1))) hs) : mx_C mx_S0 l G (d + 2) mm_LBStore_planIn [.ref s, .long v] hs Q := by
  have hn := h.ok.1
  rcases hV with ⟨x, rfl⟩ | ⟨j, hj, rfl⟩
  · refine wp_LBStore_planIn_0 _ _ (c_isPlan ⟨_, rfl, fun _ => k0 x rfl, fun c => absurd (by rw [lz_n_pl]; rfl) c⟩)
  · refine wp_LBStore_planIn_0 _ _ (c_isPlan ⟨_, rfl, fun c => ?_, fun _ => c_numberOf ⟨_, rfl, ⟨_, h.at⟩, ?_⟩⟩)
    · rw [lz_pv_pl (by omega)] at c
      exact absurd c (by decide)
    · rw [lz_pv_i]
      refine c_planAt h (fun c => ?_) (fun i hi e => ⟨_, rfl, Or.inr ⟨_, rfl⟩, ?_⟩)
      · exfalso
        rcases c with c | c
        · exact nI_nlt (a := j + 1) (b := 1) (by omega) (by omega) c
        · exact nI_nlt (a := S.2.1) (b := j + 1) (by omega) (by omega) c
      · have : i = j := by
          have := (nI_eq (by omega) (by omega)).mp e
          omega
        subst this
        exact k1 i hi rfl
theorem c_readyPart (h : lb_st hs s A wq S) {v : Int64} (hV : lz_V S.2.1 v) (k : Q (some (.int (lz_rp S v))) hs) : mx_C mx_S0 l G (d + 3) mm_LBStore_readyPart [.ref s, .long v] hs Q := by
  have hn := h.ok.1
  refine wp_LBStore_readyPart_0 _ _ ⟨⟨_, h.at⟩, c_planIn h hV (fun x e => ⟨_, rfl, Or.inl rfl, fun _ => ?_, fun a e => by cases e⟩) (fun j hj e => ⟨_, rfl, Or.inr ⟨_, rfl⟩, fun e => (by cases e), fun a ea => ?_⟩)⟩
  · subst e
    unfold lz_rp at k
    rw [if_neg (by rw [lz_n_pl]; decide)] at k
    exact k
  · cases ea
    subst e
    unfold lz_rp at k
    rw [if_pos (lz_pv_pl (by omega)), lz_pv_ix (by omega)] at k
    exact ⟨_, ⟨_, (h.plan hj).1, rfl⟩, k⟩
theorem lz_drop {vs : List Int64} {i : Nat} {v : Int64} (h : vs[i]? = some v) : vs.drop i = v :: vs.drop (i + 1) := by
  obtain ⟨h1, h2⟩ := List.getElem?_eq_some_iff.mp h
  rw [List.drop_eq_getElem_cons h1, h2]
theorem c_sumOf (h : lb_st hs s A wq S) {j : Nat} (hj : j < S.2.1) (k : Q (some (.int (lz_sum S (S.1 j).2.1))) hs) : mx_C mx_S0 l G (d + 4) mm_LBStore_sumOf [.ref s, .ref (A j + 1)] hs Q := by
  have hn := h.ok.1
  obtain ⟨q1, q2, -⟩ := h.ok.2.1 j hj
  obtain ⟨p1, p2⟩ := h.plan hj
  have L : ∀ (n i : Nat) (x : Int32), i + n = (S.1 j).2.1.length → ((S.1 j).2.1.drop i).foldl (fun a v => a + lz_rp S v) x = lz_sum S (S.1 j).2.1 → mx_Ok mx_S0 l G (d + 4) mm_LBStore_sumOf 4 [(0, .ref s), (1, .ref (A j + 1)), (2, .int x), (3, .int (nI i))] [] hs Q := by
    intro n
    induction n with
    | zero =>
      intro i x hi hx
      refine wp_LBStore_sumOf_4 _ _ _ _ ⟨_, ⟨_, p1, rfl⟩, _, p2, fun _ => ?_, fun c => absurd ?_ c⟩
      · rw [List.drop_eq_nil_of_le (by omega)] at hx
        rw [show x = lz_sum S (S.1 j).2.1 from hx]
        exact k
      · rw [List.length_map]
        exact nI_le (by omega) (by omega)
    | succ n ih =>
      intro i x hi hx
      have hlt : i < (S.1 j).2.1.length := by omega
      have hv : (S.1 j).2.1[i]? = some ((S.1 j).2.1[i]) := List.getElem?_eq_getElem hlt
      refine wp_LBStore_sumOf_4 _ _ _ _ ⟨_, ⟨_, p1, rfl⟩, _, p2, fun c => absurd c ?_, fun _ => ⟨_, ⟨_, p1, rfl⟩, _, _, p2, nI_pos (by omega), by rw [nI_clamp (by omega)]; exact lz_longs hv, ⟨_, h.at⟩, c_readyPart h ((q2 _ (List.getElem_mem hlt)).mono (by omega)) ⟨_, rfl, ?_⟩⟩⟩
      · rw [List.length_map]
        exact nI_ge (by omega) (by omega)
      · rw [nI_1]
        rw [lz_drop hv] at hx
        exact ih (i + 1) _ (by omega) hx
  exact wp_LBStore_sumOf_0 _ _ (L _ 0 0 (Nat.zero_add _) rfl)
theorem c_productOf (h : lb_st hs s A wq S) {j : Nat} (hj : j < S.2.1) (k : Q (some (.int (lz_prod S (S.1 j).2.1))) hs) : mx_C mx_S0 l G (d + 4) mm_LBStore_productOf [.ref s, .ref (A j + 1)] hs Q := by
  have hn := h.ok.1
  obtain ⟨q1, q2, -⟩ := h.ok.2.1 j hj
  obtain ⟨p1, p2⟩ := h.plan hj
  have L : ∀ (n i : Nat) (x : Int32), i + n = (S.1 j).2.1.length → ((S.1 j).2.1.drop i).foldl (fun a v => a * lz_rp S v) x = lz_prod S (S.1 j).2.1 → mx_Ok mx_S0 l G (d + 4) mm_LBStore_productOf 4 [(0, .ref s), (1, .ref (A j + 1)), (2, .int x), (3, .int (nI i))] [] hs Q := by
    intro n
    induction n with
    | zero =>
      intro i x hi hx
      refine wp_LBStore_productOf_4 _ _ _ _ ⟨_, ⟨_, p1, rfl⟩, _, p2, fun _ => ?_, fun c => absurd ?_ c⟩
      · rw [List.drop_eq_nil_of_le (by omega)] at hx
        rw [show x = lz_prod S (S.1 j).2.1 from hx]
        exact k
      · rw [List.length_map]
        exact nI_le (by omega) (by omega)
    | succ n ih =>
      intro i x hi hx
      have hlt : i < (S.1 j).2.1.length := by omega
      have hv : (S.1 j).2.1[i]? = some ((S.1 j).2.1[i]) := List.getElem?_eq_getElem hlt
      refine wp_LBStore_productOf_4 _ _ _ _ ⟨_, ⟨_, p1, rfl⟩, _, p2, fun c => absurd c ?_, fun _ => ⟨_, ⟨_, p1, rfl⟩, _, _, p2, nI_pos (by omega), by rw [nI_clamp (by omega)]; exact lz_longs hv, ⟨_, h.at⟩, c_readyPart h ((q2 _ (List.getElem_mem hlt)).mono (by omega)) ⟨_, rfl, ?_⟩⟩⟩
      · rw [List.length_map]
        exact nI_ge (by omega) (by omega)
      · rw [nI_1]
        rw [lz_drop hv] at hx
        exact ih (i + 1) _ (by omega) hx
  exact wp_LBStore_productOf_0 _ _ (L _ 0 1 (Nat.zero_add _) rfl)
theorem c_greatestOf (h : lb_st hs s A wq S) {j : Nat} (hj : j < S.2.1) (k : Q (some (.int (lz_great S (S.1 j).2.1))) hs) : mx_C mx_S0 l G (d + 4) mm_LBStore_greatestOf [.ref s, .ref (A j + 1)] hs Q := by
  have hn := h.ok.1
  obtain ⟨q1, q2, -⟩ := h.ok.2.1 j hj
  obtain ⟨p1, p2⟩ := h.plan hj
  have L : ∀ (n i : Nat) (x : Int32), i + n = (S.1 j).2.1.length → ((S.1 j).2.1.drop i).foldl (fun a v => lz_mx a (lz_rp S v)) x = lz_great S (S.1 j).2.1 → mx_Ok mx_S0 l G (d + 4) mm_LBStore_greatestOf 23 [(0, .ref s), (1, .ref (A j + 1)), (2, .int x), (3, .int (nI i))] [] hs Q := by
    intro n
    induction n with
    | zero =>
      intro i x hi hx
      refine wp_LBStore_greatestOf_23 _ _ _ _ ⟨_, ⟨_, p1, rfl⟩, _, p2, fun _ => ?_, fun c => absurd ?_ c⟩
      · rw [List.drop_eq_nil_of_le (by omega)] at hx
        rw [show x = lz_great S (S.1 j).2.1 from hx]
        exact k
      · rw [List.length_map]
        exact nI_le (by omega) (by omega)
    | succ n ih =>
      intro i x hi hx
      have hlt : i < (S.1 j).2.1.length := by omega
      have hv : (S.1 j).2.1[i]? = some ((S.1 j).2.1[i]) := List.getElem?_eq_getElem hlt
      refine wp_LBStore_greatestOf_23 _ _ _ _ ⟨_, ⟨_, p1, rfl⟩, _, p2, fun c => absurd c ?_, fun _ => ⟨_, ⟨_, p1, rfl⟩, _, _, p2, nI_pos (by omega), by rw [nI_clamp (by omega)]; exact lz_longs hv, ⟨_, h.at⟩, c_readyPart h ((q2 _ (List.getElem_mem hlt)).mono (by omega)) ⟨_, rfl, ?_⟩⟩⟩
      · rw [List.length_map]
        exact nI_ge (by omega) (by omega)
      · rw [nI_1]
        rw [lz_drop hv] at hx
        exact ih (i + 1) _ (by omega) hx
  refine wp_LBStore_greatestOf_0 _ _ ⟨_, ⟨_, p1, rfl⟩, _, p2, fun c => ?_, fun c => ?_⟩
  · cases hvs : (S.1 j).2.1 with
    | nil =>
      rw [hvs] at c
      exact absurd rfl c
    | cons v vs =>
      have hv : (S.1 j).2.1[0]? = some v := by rw [hvs]; rfl
      refine ⟨_, ⟨_, p1, rfl⟩, _, _, p2, by decide, lz_longs hv, ⟨_, h.at⟩, c_readyPart h ((q2 v (by rw [hvs]; exact List.mem_cons_self)).mono (by omega)) ⟨_, rfl, ?_⟩⟩
      refine L (vs.length) 1 _ (by rw [hvs, List.length_cons]; omega) ?_
      rw [hvs]
      rfl
  · have c := Decidable.not_not.mp c
    rw [List.length_map] at c
    have hz : (S.1 j).2.1 = [] := by
      rcases Nat.eq_zero_or_pos (S.1 j).2.1.length with q | q
      · exact List.eq_nil_of_length_eq_zero q
      · exact absurd c (nI_ne0 q (by omega))
    rw [hz] at k
    exact k
theorem c_outcome (h : lb_st hs s A wq S) {j : Nat} (hj : j < S.2.1) {m : Int32} (k : Q (some (.int (lz_out S m (S.1 j).2.1))) hs) : mx_C mx_S0 l G (d + 5) mm_LBStore_outcome [.ref s, .ref (A j + 1), .int m] hs Q := by
  obtain ⟨p1, p2⟩ := h.plan hj
  unfold lz_out at k
  refine wp_LBStore_outcome_0 _ _ _ ⟨fun c => ⟨⟨_, h.at⟩, c_productOf h hj ⟨_, rfl, ?_⟩⟩, fun c => ⟨⟨_, h.at⟩, c_greatestOf h hj ⟨_, rfl, ?_⟩⟩, fun c => ⟨_, ⟨_, p1, rfl⟩, _, p2, ?_⟩, fun c1 c2 c3 => ⟨⟨_, h.at⟩, c_sumOf h hj ⟨_, rfl, ?_⟩⟩⟩
  · rw [if_pos c] at k
    exact k
  · subst c
    exact k
  · subst c
    rw [List.length_map]
    exact k
  · rw [if_neg c1, if_neg c2, if_neg c3] at k
    exact k
/-- the kinds that building leaves -/
def lb_kb : Nat → Bool := fun k => !(k == 3) && !(k == 4)
theorem mx_st_st (hs : mx_H) (a : Nat) (x y : mx_E) : mx_st (mx_st hs a x) a y = mx_st hs a y := by
  refine Prod.ext (funext fun q => ?_) rfl
  simp only [mx_st]
  by_cases h : q = a
  · rw [if_pos h, if_pos h]
  · rw [if_neg h, if_neg h, if_neg h]
theorem lz_wq (wq : Nat → Int32) (j : Nat) : (fun i => if i = j then wq j else wq i) = wq := by
  funext i
  by_cases h : i = j
  · rw [if_pos h, h]
  · rw [if_neg h]
theorem lz_setP_eq (S : lz_S) (j : Nat) (p : lz_P) : (lz_setP S j p).1 j = p := by simp [lz_setP]
theorem c_finish (h : lb_st hs s A wq S) {j : Nat} (hj : j < S.2.1) (k : ∀ hs2, lb_st hs2 s A wq (lz_fin S j).2 → mx_fr lb_kb hs hs2 → hs2.2 = hs.2 → Q (some (.long (lz_fin S j).1)) hs2) : mx_C mx_S0 l G (d + 6) mm_LBStore_finish [.ref s, .ref (A j + 1)] hs Q := by
  have hn := h.ok.1
  obtain ⟨q1, q2, ⟨m, q3, q4⟩, q5⟩ := h.ok.2.1 j hj
  obtain ⟨p1, p2⟩ := h.plan hj
  obtain ⟨ks, g1, g2, g3⟩ := h.2.2.1
  have em : (S.1 j).1.toNatClampNeg = m := by rw [q4, nI_clamp (by omega)]
  unfold lz_fin at k
  rw [em] at k
  have hgo : ¬ (S.2.2.1 m = 4 ∨ (S.2.2.1 m = 3 ∧ ¬ lz_great S (S.1 j).2.1 < 100)) → mx_Ok mx_S0 l G (d + 6) mm_LBStore_finish 34 [(0, .ref s), (1, .ref (A j + 1)), (2, .int (S.2.2.1 m))] [] hs Q := by
    intro hc
    rw [if_neg hc] at k
    obtain ⟨P, eP⟩ : ∃ P : lz_P, P = ((S.1 j).1, (S.1 j).2.1, true, lz_out S (S.2.2.1 m) (S.1 j).2.1, (S.1 j).2.2.2.2) := ⟨_, rfl⟩
    rw [← eP] at k
    refine wp_LBStore_finish_34 _ _ _ ⟨⟨_, h.at⟩, c_outcome h hj ⟨_, rfl, _, p1, fun hs2 e2 => ?_⟩⟩
    subst e2
    refine ⟨_, mx_st_eq _ _ _, fun hs3 e3 => ?_⟩
    have f3 : hs3 = mx_st hs (A j + 1) (lb_pc (A j) P (wq j)) := by
      rw [e3, mx_st_st, eP]
      rfl
    have h3 : lb_st hs3 s A wq (lz_setP S j P) := by
      have := h.upd hj (p := P) (w := wq j) (by rw [eP]) (by rw [eP]; exact ⟨q1, q2, ⟨m, q3, q4⟩, fun h => by cases h⟩)
      rw [lz_wq] at this
      rw [f3]
      exact this
    refine ⟨_, ⟨_, h3.at, rfl⟩, _, h3.at, fun hs4 e4 => ?_⟩
    rw [nI_1] at e4
    have h4 : lb_st hs4 s A wq ((lz_setP S j P).1, S.2.1, S.2.2.1, S.2.2.2 + 1) := by
      rw [e4]
      exact h3.cnt (S.2.2.2 + 1)
    have p5 := (h4.plan hj).1
    rw [show ((lz_setP S j P).1, S.2.1, S.2.2.1, S.2.2.2 + 1).1 j = P from lz_setP_eq S j P] at p5
    refine ⟨_, ⟨_, p5, rfl⟩, ?_⟩
    have k := k hs4 h4 (mx_fr.tr (h2 := hs3) (by rw [f3]; exact mx_fr.st p1 rfl) (by rw [e4]; exact mx_fr.st h3.at rfl)) (by rw [e4, f3]; rfl)
    rw [eP]
    exact k
  refine wp_LBStore_finish_0 _ _ ⟨_, ⟨_, h.at, rfl⟩, _, ⟨_, p1, rfl⟩, _, _, g1, by rw [q4]; exact nI_pos (by omega), by rw [em]; exact lz_mapget (g3 m q3), fun c => ?_, fun c => ⟨fun c2 => hgo (by rintro (x | ⟨x, -⟩) <;> contradiction), fun c2 => ⟨⟨_, h.at⟩, c_greatestOf h hj ⟨_, rfl, fun c3 => hgo (by rintro (x | ⟨-, x⟩) <;> contradiction), fun c3 => ?_⟩⟩⟩⟩
  · rw [if_pos (Or.inl c)] at k
    exact k hs h mx_fr.rf rfl
  · rw [if_pos (Or.inr ⟨Decidable.not_not.mp c2, c3⟩)] at k
    exact k hs h mx_fr.rf rfl
/-- a VALUE as a PART: its contract -/
def lb_PT (l : Launch) (G : mx_G) (s : Nat) (A : Nat → Nat) (f : Nat) : Prop := ∀ (d : Nat) (hs : mx_H) (wq : Nat → Int32) (S : lz_S) (v : Int64) (B : Nat) (Q : Option Value → mx_H → Prop), f + 8 ≤ d → lb_st hs s A wq S → lz_V S.2.1 v → B < 2 ^ 31 → (∀ j, j < 30 → v = lz_pv j → j < f ∧ j + 1 < B) → (∀ hs2, lb_st hs2 s A wq (lz_pt f S v).2 → mx_fr lb_kb hs hs2 → hs2.2 = hs.2 → Q (some (.long (lz_pt f S v).1)) hs2) → mx_C mx_S0 l G d mm_LBStore_partOf [.ref s, .long v, .int (nI B)] hs Q
theorem lb_pt_num {x : Int32} {v : Int64} {f : Nat} {S : lz_S} (h : v = x.toInt64) : lz_pt f S v = (v, S) := by
  cases f with
  | zero => rfl
  | succ f =>
    rw [lz_pt, if_pos (by rw [h]; exact lz_n_pl x)]
theorem lb_pt (f : Nat) : lb_PT l G s A f := by
  induction f with
  | zero =>
    intro d hs wq S v B Q hd h hV hB hj k
    obtain ⟨d0, rfl⟩ : ∃ d0, d = d0 + 3 := ⟨d - 3, by omega⟩
    refine wp_LBStore_partOf_0 _ _ _ ⟨⟨_, h.at⟩, c_planIn h hV (fun x e => ⟨_, rfl, Or.inl rfl, fun _ => k hs h mx_fr.rf rfl, fun a e => by cases e⟩) (fun j hjn e => absurd (hj j (by have := h.ok.1; omega) e).1 (by omega))⟩
  | succ f ih =>
    intro d hs wq S v B Q hd h hV hB hj k
    obtain ⟨d0, rfl⟩ : ∃ d0, d = d0 + 7 := ⟨d - 7, by omega⟩
    have hn := h.ok.1
    refine wp_LBStore_partOf_0 _ _ _ ⟨⟨_, h.at⟩, c_planIn h hV (fun x e => ⟨_, rfl, Or.inl rfl, fun _ => ?_, fun a e => by cases e⟩) (fun j hjn e => ⟨_, rfl, Or.inr ⟨_, rfl⟩, fun e => (by cases e), fun a ea => ?_⟩)⟩
    · rw [lb_pt_num e] at k
      exact k hs h mx_fr.rf rfl
    · cases ea
      obtain ⟨j1, j2⟩ := hj j (by omega) e
      obtain ⟨p1, p2⟩ := h.plan hjn
      subst e
      rw [lz_pt, if_neg (by rw [lz_pv_pl (by omega)]; decide), lz_pv_ix (by omega)] at k
      refine ⟨_, ⟨_, p1, rfl⟩, fun c => c_numberOf ⟨_, rfl, fun _ => ?_, fun c2 => ?_⟩, fun c => ⟨_, ⟨_, p1, rfl⟩, ?_⟩⟩
      · rw [lz_pv_i]
        rw [if_neg (by rw [lz_b0.mp c]; decide)] at k
        have L : ∀ (n i : Nat) (hs1 : mx_H) (T : lz_S), i + n = (S.1 j).2.1.length → lb_st hs1 s A wq T → lz_sm S T → mx_fr lb_kb hs hs1 → hs1.2 = hs.2 → lz_bi (lz_pt f) ((S.1 j).2.1.drop i) T = lz_bi (lz_pt f) (S.1 j).2.1 S → mx_Ok mx_S0 l G (d0 + 7) mm_LBStore_partOf 48 [(0, .ref s), (4, .ref (A j + 1)), (5, .int (nI (j + 1))), (6, .int (nI i))] [] hs1 Q := by
          intro n
          induction n with
          | zero =>
            intro i hs1 T hi h1 hsm hfr hsz hbi
            have hjT : j < T.2.1 := by rw [hsm.1]; exact hjn
            obtain ⟨t1, t2⟩ := h1.plan hjT
            rw [List.drop_eq_nil_of_le (by omega)] at hbi
            rw [← hbi, if_neg (by show ¬ lz_bad 0 = true; decide)] at k
            refine wp_LBStore_partOf_48 _ _ _ _ ⟨_, ⟨_, t1, rfl⟩, _, t2, fun _ => ⟨⟨_, h1.at⟩, c_finish h1 hjT (fun hs2 g1 g2 g3 => ⟨_, rfl, k hs2 g1 (hfr.tr g2) (g3.trans hsz)⟩)⟩, fun c => absurd ?_ c⟩
            rw [List.length_map, (hsm.2.2 j).2.1]
            have := (h.ok.2.1 j hjn).1
            exact nI_le (by omega) (by omega)
          | succ n ihn =>
            intro i hs1 T hi h1 hsm hfr hsz hbi
            have hjT : j < T.2.1 := by rw [hsm.1]; exact hjn
            obtain ⟨t1, t2⟩ := h1.plan hjT
            have hlen := (h.ok.2.1 j hjn).1
            have hlt : i < (S.1 j).2.1.length := by omega
            have hv : (S.1 j).2.1[i]? = some ((S.1 j).2.1[i]) := List.getElem?_eq_getElem hlt
            have hvT : (T.1 j).2.1[i]? = some ((S.1 j).2.1[i]) := by rw [(hsm.2.2 j).2.1]; exact hv
            have hvV := (h.ok.2.1 j hjn).2.1 _ (List.getElem_mem hlt)
            obtain ⟨w, ew⟩ : ∃ w, w = (S.1 j).2.1[i] := ⟨_, rfl⟩
            rw [← ew] at hv hvT hvV
            rw [lz_drop hv] at hbi
            refine wp_LBStore_partOf_48 _ _ _ _ ⟨_, ⟨_, t1, rfl⟩, _, t2, fun c => absurd c ?_, fun _ => ⟨_, ⟨_, t1, rfl⟩, _, _, t2, nI_pos (by omega), by rw [nI_clamp (by omega)]; exact lz_longs hvT, ⟨_, h1.at⟩, ?_⟩⟩
            · rw [List.length_map, (hsm.2.2 j).2.1]
              exact nI_ge (by omega) (by omega)
            · refine ih (d0 + 6) hs1 wq T w (j + 1) _ (by omega) h1 (by rw [hsm.1]; exact hvV.mono (by omega)) (by omega) (fun i' hi' e' => ?_) (fun hs2 g1 g2 g3 => ⟨_, rfl, c_isFailure ⟨_, rfl, fun c => ?_, fun c => ?_⟩⟩)
              · have := lz_V_pv hvV (by omega) (by omega) e'
                omega
              · rw [nI_1]
                rw [lz_bi, if_neg (by rw [lz_b0.mp c]; decide)] at hbi
                exact ihn (i + 1) hs2 _ (by omega) g1 (hsm.tr (lz_pt_sm f T w)) (hfr.tr g2) (g3.trans hsz) hbi
              · rw [lz_bi, if_pos (lz_b1.mp c)] at hbi
                rw [← hbi, if_pos (lz_b1.mp c)] at k
                exact k hs2 g1 (hfr.tr g2) (g3.trans hsz)
        exact L _ 0 hs S (Nat.zero_add _) h lz_sm.rf mx_fr.rf rfl rfl
      · exfalso
        rw [lz_pv_i] at c2
        exact c2 (nI_lt (by omega) hB)
      · rw [if_pos (lz_b1.mp c)] at k
        exact k hs h mx_fr.rf rfl
theorem c_resultOf (h : lb_st hs s A wq S) {v : Int64} (hV : lz_V S.2.1 v) (hd : 40 ≤ d) (k : ∀ hs2, lb_st hs2 s A wq (lz_pt 30 S v).2 → mx_fr lb_kb hs hs2 → hs2.2 = hs.2 → Q (some (.long (lz_pt 30 S v).1)) hs2) : mx_C mx_S0 l G d mm_LBStore_resultOf [.ref s, .long v] hs Q := by
  obtain ⟨d0, rfl⟩ : ∃ d0, d = d0 + 1 := ⟨d - 1, by omega⟩
  have hn := h.ok.1
  refine wp_LBStore_resultOf_0 _ _ ⟨_, ⟨_, h.at, rfl⟩, ⟨_, h.at⟩, ?_⟩
  rw [nI_1]
  refine lb_pt (l := l) (G := G) (s := s) (A := A) 30 d0 hs wq S v (S.2.1 + 1) _ (by omega) h hV (by omega) (fun j hj e => ?_) (fun hs2 g1 g2 g3 => ⟨_, rfl, k hs2 g1 g2 g3⟩)
  have := lz_V_pv hV (by omega) (by omega) e
  omega
end CSTO
