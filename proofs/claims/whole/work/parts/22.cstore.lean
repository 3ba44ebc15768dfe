/-! THE CLASS, its Store. s: the Store's cell; A i: the cell of PLAN i's INPUTS, the PLAN's own cell is the next one. -/
/-- the cells of the kinds P stand as they were -/
def mx_fr (P : Nat → Bool) (hs hs' : mx_H) : Prop := (∀ q x, hs.1 q = some x → P x.1 = true → hs'.1 q = some x) ∧ hs.2.1 ≤ hs'.2.1
def mx_wf (hs : mx_H) : Prop := ∀ q x, hs.1 q = some x → q < hs.2.1
theorem mx_fr.rf {P : Nat → Bool} {hs : mx_H} : mx_fr P hs hs := ⟨fun _ _ h _ => h, Nat.le_refl _⟩
theorem mx_fr.tr {P : Nat → Bool} {h1 h2 h3 : mx_H} (p : mx_fr P h1 h2) (q : mx_fr P h2 h3) : mx_fr P h1 h3 := ⟨fun a x hx hp => q.1 a x (p.1 a x hx hp) hp, Nat.le_trans p.2 q.2⟩
theorem mx_fr.st {P : Nat → Bool} {hs : mx_H} {a : Nat} {x y : mx_E} (h : hs.1 a = some y) (hy : P y.1 = false) : mx_fr P hs (mx_st hs a x) := by
  refine ⟨fun q z hz hp => ?_, Nat.le_refl _⟩
  by_cases hq : q = a
  · subst hq
    rw [h] at hz
    cases hz
    rw [hy] at hp
    cases hp
  · rw [mx_st_ne _ _ hq]
    exact hz
theorem mx_fr.nw {P : Nat → Bool} {hs : mx_H} {x : mx_E} {n : Nat} (h : mx_wf hs) : mx_fr P hs (mx_nw hs x n) := by
  refine ⟨fun q z hz hp => ?_, Nat.le_succ _⟩
  rw [mx_nw_ne _ _ _ (Nat.ne_of_lt (h q z hz))]
  exact hz
theorem mx_wf.st {hs : mx_H} {a : Nat} {x y : mx_E} (h : mx_wf hs) (ha : hs.1 a = some y) : mx_wf (mx_st hs a x) := by
  intro q z hz
  by_cases hq : q = a
  · subst hq
    exact h _ _ ha
  · rw [mx_st_ne _ _ hq] at hz
    exact h q z hz
theorem mx_wf.nw {hs : mx_H} {x : mx_E} {n : Nat} (h : mx_wf hs) : mx_wf (mx_nw hs x n) := by
  intro q z hz
  show q < hs.2.1 + 1
  by_cases hq : q = hs.2.1
  · omega
  · rw [mx_nw_ne _ _ _ hq] at hz
    have := h q z hz
    omega
/-- the cell of a PLAN -/
def lb_pc (a : Nat) (p : lz_P) (w : Int32) : mx_E := (3, [.int p.1, .ref a, .int (lz_b p.2.2.1), .int (lz_b p.2.2.2.2), .int w, .int p.2.2.2.1])
def lb_st (hs : mx_H) (s : Nat) (A : Nat → Nat) (wq : Nat → Int32) (S : lz_S) : Prop :=
  hs.1 s = some (4, [.ref (s + 1), .ref (s + 2), .int (nI S.2.1), .int (nI S.2.2.2)]) ∧
  (∃ ps : List Value, hs.1 (s + 1) = some (113, ps) ∧ ps.length = 30 ∧ ∀ i, i < S.2.1 → ps[i]? = some (.ref (A i + 1))) ∧
  (∃ ks : List Int32, hs.1 (s + 2) = some (100, ks.map Value.int) ∧ ks.length = 10 ∧ ∀ i, i < 10 → ks[i]? = some (S.2.2.1 i)) ∧
  (∀ i, i < S.2.1 → hs.1 (A i + 1) = some (lb_pc (A i) (S.1 i) (wq i)) ∧ hs.1 (A i) = some (102, (S.1 i).2.1.map Value.long)) ∧
  (∀ i, i < S.2.1 → s + 3 ≤ A i) ∧ (∀ i j, i < j → j < S.2.1 → A i + 2 ≤ A j) ∧ lz_okS S ∧ mx_wf hs
section CSTO
variable {l : Launch} {G : mx_G} {d s : Nat} {hs : mx_H} {Q : Option Value → mx_H → Prop} {A : Nat → Nat} {wq : Nat → Int32} {S : lz_S}
theorem lb_st.at (h : lb_st hs s A wq S) : hs.1 s = some (4, [.ref (s + 1), .ref (s + 2), .int (nI S.2.1), .int (nI S.2.2.2)]) := h.1
theorem lb_st.ok (h : lb_st hs s A wq S) : lz_okS S := h.2.2.2.2.2.2.1
theorem lb_st.wf (h : lb_st hs s A wq S) : mx_wf hs := h.2.2.2.2.2.2.2
theorem lb_st.plan (h : lb_st hs s A wq S) {i : Nat} (hi : i < S.2.1) : hs.1 (A i + 1) = some (lb_pc (A i) (S.1 i) (wq i)) ∧ hs.1 (A i) = some (102, (S.1 i).2.1.map Value.long) := h.2.2.2.1 i hi
/-- a PLAN's cell is changed, its INPUTS stay -/
theorem lb_st.upd (h : lb_st hs s A wq S) {i : Nat} (hi : i < S.2.1) {p : lz_P} {w : Int32} (hp : p.2.1 = (S.1 i).2.1) (hk : lz_okP i p) : lb_st (mx_st hs (A i + 1) (lb_pc (A i) p w)) s A (fun j => if j = i then w else wq j) (lz_setP S i p) := by
  obtain ⟨h1, ⟨ps, h2, h3⟩, ⟨ks, h4, h5⟩, h6, h7, h8, h9, h10⟩ := h
  have hA := h7 i hi
  refine ⟨?_, ⟨ps, ?_, h3⟩, ⟨ks, ?_, h5⟩, fun j hj => ?_, h7, h8, ⟨h9.1, fun j hj => ?_, h9.2.2⟩, h10.st (h6 i hi).1⟩
  · rw [mx_st_ne _ _ (by omega)]
    exact h1
  · rw [mx_st_ne _ _ (by omega)]
    exact h2
  · rw [mx_st_ne _ _ (by omega)]
    exact h4
  · by_cases hij : j = i
    · subst hij
      simp only [lz_setP, if_true]
      refine ⟨mx_st_eq _ _ _, ?_⟩
      rw [mx_st_ne _ _ (by omega), hp]
      exact (h6 j hj).2
    · simp only [lz_setP, if_neg hij]
      have hne : A j + 2 ≤ A i ∨ A i + 2 ≤ A j := by
        rcases Nat.lt_or_ge j i with q | q
        · exact Or.inl (h8 j i q hi)
        · exact Or.inr (h8 i j (by omega) hj)
      rw [mx_st_ne _ _ (by omega), mx_st_ne _ _ (by omega)]
      exact h6 j hj
  · by_cases hij : j = i
    · subst hij
      simp only [lz_setP, if_true]
      exact hk
    · simp only [lz_setP, if_neg hij]
      exact h9.2.1 j hj
/-- the count of BUILDS is changed -/
theorem lb_st.cnt (h : lb_st hs s A wq S) (n : Nat) : lb_st (mx_st hs s (4, [.ref (s + 1), .ref (s + 2), .int (nI S.2.1), .int (nI n)])) s A wq (S.1, S.2.1, S.2.2.1, n) := by
  obtain ⟨h1, ⟨ps, h2, h3⟩, ⟨ks, h4, h5⟩, h6, h7, h8, h9, h10⟩ := h
  refine ⟨mx_st_eq _ _ _, ⟨ps, ?_, h3⟩, ⟨ks, ?_, h5⟩, fun j hj => ?_, h7, h8, h9, h10.st h1⟩
  · rw [mx_st_ne _ _ (by omega)]
    exact h2
  · rw [mx_st_ne _ _ (by omega)]
    exact h4
  · have := h7 j hj
    rw [mx_st_ne _ _ (by omega), mx_st_ne _ _ (by omega)]
    exact h6 j hj
theorem lz_longs {vs : List Int64} {i : Nat} {v : Int64} (h : vs[i]? = some v) : (vs.map Value.long)[i]? = some (.long v) := by
  rw [List.getElem?_map, h]
  rfl
theorem lz_pv_s {j : Nat} : lz_pv j - 1000000000000 = lN (j + 1) := by
  unfold lz_pv
  rw [Int64.add_comm, Int64.add_sub_cancel]
theorem c_planIn0 (h : lb_st hs s A wq S) {v : Int64} (k0 : (∀ j, j < S.2.1 → v ≠ lz_pv j) → Q (some .null) hs) (k1 : ∀ j, j < S.2.1 → v = lz_pv j → Q (some (.ref (A j + 1))) hs) : mx_C mx_S0 l G (d + 1) mm_LBStore_planIn [.ref s, .long v] hs Q := by
  have hn := h.ok.1
  obtain ⟨h1, ⟨ps, h2, h3, h4⟩, -⟩ := h
  refine wp_LBStore_planIn_0 _ _ ⟨fun c => k0 (fun j hj e => ?_), fun c => ⟨_, ⟨_, h1, rfl⟩, fun c2 => k0 (fun j hj e => ?_), fun c2 => ?_⟩⟩
  · rw [e, lz_pv_s] at c
    have := (lN_lt (a := j + 1) (b := 1) (by omega) (by omega)).mp c
    omega
  · rw [e, lz_pv_s, nI_l (by omega)] at c2
    have := (lN_lt (a := S.2.1) (b := j + 1) (by omega) (by omega)).mp c2
    omega
  · obtain ⟨j, hj, e⟩ : ∃ j : Nat, j < S.2.1 ∧ v = lz_pv j := by
      have c0 : ¬ v - 1000000000000 < 0 := fun q => c (by
        have q1 := Int64.lt_iff_toInt_lt.mp q
        rw [show (0 : Int64).toInt = 0 from rfl] at q1
        refine Int64.lt_iff_toInt_lt.mpr ?_
        rw [show (1 : Int64).toInt = 1 from rfl]
        omega)
      obtain ⟨m, hm, em⟩ := pk_lOf c0
      rw [em] at c c2
      have m1 : ¬ m < 1 := fun q => c ((pk_lLT (a := m) (b := 1) hm (by omega)).mpr q)
      have m2 : ¬ S.2.1 < m := fun q => c2 (by rw [nI_l (by omega)]; exact (pk_lLT (by omega) hm).mpr q)
      refine ⟨m - 1, by omega, ?_⟩
      unfold lz_pv
      rw [show m - 1 + 1 = m by omega, ← em, Int64.add_comm, Int64.sub_add_cancel]
    subst e
    refine ⟨_, ⟨_, h1, rfl⟩, _, _, h2, ?_, ?_, k1 j hj rfl⟩
    · rw [lz_pv_i, nI_pred]
      exact nI_pos (by omega)
    · rw [lz_pv_i, nI_pred, nI_clamp (by omega)]
      exact h4 j hj
theorem c_planIn (h : lb_st hs s A wq S) {v : Int64} (hV : lz_V S.2.1 v) (k0 : ∀ x : Int32, v = x.toInt64 → Q (some .null) hs) (k1 : ∀ j, j < S.2.1 → v = lz_pv j → Q (some (.ref (A j + 1))) hs) : mx_C mx_S0 l G (d + 1) mm_LBStore_planIn [.ref s, .long v] hs Q := by
  refine c_planIn0 h (fun c => ?_) k1
  rcases hV with ⟨x, e⟩ | ⟨j, hj, e⟩
  · exact k0 x e
  · exact absurd e (c j hj)
theorem c_planAt (h : lb_st hs s A wq S) {m : Int32} (k0 : (m < 1 ∨ nI S.2.1 < m) → Q (some .null) hs) (k1 : ∀ j, j < S.2.1 → m = nI (j + 1) → Q (some (.ref (A j + 1))) hs) : mx_C mx_S0 l G (d + 2) mm_LBStore_planAt [.ref s, .int m] hs Q := by
  have hn := h.ok.1
  refine wp_LBStore_planAt_0 _ _ ⟨⟨_, h.at⟩, c_planIn0 h (fun c => ⟨_, rfl, Or.inl rfl, k0 ?_⟩) (fun j hj e => ⟨_, rfl, Or.inr ⟨_, rfl⟩, k1 j hj ?_⟩)⟩
  · by_cases q : m < 1
    · exact Or.inl q
    · by_cases q2 : nI S.2.1 < m
      · exact Or.inr q2
      · exfalso
        have c0 : ¬ m < 0 := fun z => q (by
          have z1 : m.toInt < (0 : Int32).toInt := Int32.lt_iff_toInt_lt.mp z
          exact Int32.lt_iff_toInt_lt.mpr (by simp at z1 ⊢; omega))
        obtain ⟨j, hj, rfl⟩ := nI_of c0
        have hj0 : ¬ j < 1 := fun z => q (nI_lt (b := 1) z (by omega))
        have hj1 : ¬ S.2.1 < j := fun z => q2 (nI_lt z hj)
        refine c (j - 1) (by omega) ?_
        unfold lz_pv
        rw [show j - 1 + 1 = j by omega, nI_l hj]
  · have e2 : Int64.toInt32 (1000000000000 + m.toInt64 - 1000000000000) = nI (j + 1) := by rw [e, lz_pv_i]
    rw [Int64.add_comm, Int64.add_sub_cancel, Int32.toInt32_toInt64] at e2
    exact e2
theorem lz_drop {vs : List Int64} {i : Nat} {v : Int64} (h : vs[i]? = some v) : vs.drop i = v :: vs.drop (i + 1) := by
  obtain ⟨h1, h2⟩ := List.getElem?_eq_some_iff.mp h
  rw [List.drop_eq_getElem_cons h1, h2]
/-- the kinds that building leaves -/
def lb_kb : Nat → Bool := fun k => !(k == 3) && !(k == 4)
theorem mx_st_st (hs : mx_H) (a : Nat) (x y : mx_E) : mx_st (mx_st hs a x) a y = mx_st hs a y := by
  refine Prod.ext (funext fun q => ?_) rfl
  simp only [mx_st]
  by_cases h : q = a
  · rw [if_pos h, if_pos h]
  · rw [if_neg h, if_neg h, if_neg h]
theorem lz_wq (wq : Nat → Int32) (j : Nat) : (fun i => if i = j then wq j else wq i) = wq := by
  funext i
  by_cases h : i = j
  · rw [if_pos h, h]
  · rw [if_neg h]
theorem lz_setP_eq (S : lz_S) (j : Nat) (p : lz_P) : (lz_setP S j p).1 j = p := by simp [lz_setP]
theorem c_finishWith (h : lb_st hs s A wq S) {j : Nat} (hj : j < S.2.1) {x : Int32} (k : ∀ hs2, lb_st hs2 s A wq ((lz_setP S j ((S.1 j).1, (S.1 j).2.1, true, x, (S.1 j).2.2.2.2)).1, S.2.1, S.2.2.1, S.2.2.2 + 1) → mx_fr lb_kb hs hs2 → hs2.2 = hs.2 → Q (some (.int x)) hs2) : mx_C mx_S0 l G (d + 1) mm_LBStore_finishWith [.ref s, .ref (A j + 1), .int x] hs Q := by
  obtain ⟨q1, q2, ⟨m, q3, q4⟩, q5⟩ := h.ok.2.1 j hj
  obtain ⟨p1, p2⟩ := h.plan hj
  obtain ⟨P, eP⟩ : ∃ P : lz_P, P = ((S.1 j).1, (S.1 j).2.1, true, x, (S.1 j).2.2.2.2) := ⟨_, rfl⟩
  rw [← eP] at k
  refine wp_LBStore_finishWith_0 _ _ _ ⟨_, p1, fun hs2 e2 => ?_⟩
  subst e2
  refine ⟨_, mx_st_eq _ _ _, fun hs3 e3 => ?_⟩
  have f3 : hs3 = mx_st hs (A j + 1) (lb_pc (A j) P (wq j)) := by
    rw [e3, mx_st_st, eP]
    rfl
  have h3 : lb_st hs3 s A wq (lz_setP S j P) := by
    have := h.upd hj (p := P) (w := wq j) (by rw [eP]) (by rw [eP]; exact ⟨q1, q2, ⟨m, q3, q4⟩, fun h => by cases h⟩)
    rw [lz_wq] at this
    rw [f3]
    exact this
  refine ⟨_, ⟨_, h3.at, rfl⟩, _, h3.at, fun hs4 e4 => ?_⟩
  rw [nI_1] at e4
  have h4 : lb_st hs4 s A wq ((lz_setP S j P).1, S.2.1, S.2.2.1, S.2.2.2 + 1) := by
    rw [e4]
    exact h3.cnt (S.2.2.2 + 1)
  exact k hs4 h4 (mx_fr.tr (h2 := hs3) (by rw [f3]; exact mx_fr.st p1 rfl) (by rw [e4]; exact mx_fr.st h3.at rfl)) (by rw [e4, f3]; rfl)
theorem c_finish (h : lb_st hs s A wq S) {j : Nat} (hj : j < S.2.1) (k : ∀ hs2, lb_st hs2 s A wq (lz_fin S j).2 → mx_fr lb_kb hs hs2 → hs2.2 = hs.2 → Q (some (.long (lz_fin S j).1)) hs2) : mx_C mx_S0 l G (d + 2) mm_LBStore_finish [.ref s, .ref (A j + 1)] hs Q := by
  have hn := h.ok.1
  obtain ⟨q1, q2, ⟨m, q3, q4⟩, q5⟩ := h.ok.2.1 j hj
  obtain ⟨p1, p2⟩ := h.plan hj
  obtain ⟨ks, g1, g2, g3⟩ := h.2.2.1
  obtain ⟨kd, kd1, kd2⟩ := h.ok.2.2 m q3
  have em : (S.1 j).1.toNatClampNeg = m := by rw [q4, nI_clamp (by omega)]
  unfold lz_fin at k
  rw [em] at k
  have hgo : ∀ x : Int32, ¬ (S.2.2.1 m = 4 ∨ (S.2.2.1 m = 3 ∧ ¬ lz_great S (S.1 j).2.1 < 100)) → lz_out S (S.2.2.1 m) (S.1 j).2.1 = x → mx_C mx_S0 l G (d + 1) mm_LBStore_finishWith [.ref s, .ref (A j + 1), .int x] hs (fun (r : Option Value) (hs2 : mx_H) => ∃ x2 : Int32, r = some (.int x2) ∧ Q (some (.long (Int32.toInt64 x2))) hs2) := by
    intro x hc ex
    rw [if_neg hc, ex] at k
    exact c_finishWith h hj (fun hs2 u1 u2 u3 => ⟨_, rfl, k hs2 u1 u2 u3⟩)
  have L : ∀ (n i : Nat) (x y z : Int32), i + n = (S.1 j).2.1.length → ((S.1 j).2.1.drop i).foldl (fun a v => a + lz_rp S v) x = lz_sum S (S.1 j).2.1 → ((S.1 j).2.1.drop i).foldl (fun a v => a * lz_rp S v) y = lz_prod S (S.1 j).2.1 → ((i = 0 ∧ z = 0) ∨ (0 < i ∧ ((S.1 j).2.1.drop i).foldl (fun a v => lz_mx a (lz_rp S v)) z = lz_great S (S.1 j).2.1)) → mx_Ok mx_S0 l G (d + 2) mm_LBStore_finish 10 [(0, .ref s), (1, .ref (A j + 1)), (2, .int x), (3, .int y), (4, .int z), (5, .int (nI i))] [] hs Q := by
    intro n
    induction n with
    | zero =>
      intro i x y z hi hx hy hz
      rw [List.drop_eq_nil_of_le (by omega)] at hx hy hz
      have ex : lz_sum S (S.1 j).2.1 = x := hx.symm
      have ey : lz_prod S (S.1 j).2.1 = y := hy.symm
      have ez : lz_great S (S.1 j).2.1 = z := by
        rcases hz with ⟨z1, z2⟩ | ⟨-, z2⟩
        · have hnil : (S.1 j).2.1 = [] := List.eq_nil_of_length_eq_zero (by omega)
          rw [hnil, z2]
          rfl
        · exact z2.symm
      refine wp_LBStore_finish_10 _ _ _ _ _ _ ⟨_, ⟨_, p1, rfl⟩, _, p2, fun _ => ⟨_, ⟨_, h.at, rfl⟩, _, ⟨_, p1, rfl⟩, _, _, g1, by rw [q4]; exact nI_pos (by omega), by rw [em]; exact lz_mapget (g3 m q3), fun c => ⟨⟨_, h.at⟩, hgo _ ?_ ?_⟩, fun c => ⟨⟨_, h.at⟩, hgo _ ?_ ?_⟩, fun c => ⟨⟨_, h.at⟩, hgo _ ?_ ?_⟩, fun c => ⟨fun c2 => ?_, fun c2 => ⟨_, ⟨_, p1, rfl⟩, _, p2, ⟨_, h.at⟩, hgo _ ?_ ?_⟩⟩, fun c0 c1 c2 c3 => ?_⟩, fun c => absurd ?_ c⟩
      · rw [c]
        rintro (w | ⟨w, -⟩) <;> exact absurd w (by decide)
      · rw [c, ← ex]
        rfl
      · rw [c]
        rintro (w | ⟨w, -⟩) <;> exact absurd w (by decide)
      · rw [c, ← ey]
        rfl
      · rw [c]
        rintro (w | ⟨w, -⟩) <;> exact absurd w (by decide)
      · rw [c, ← ez]
        rfl
      · rw [if_pos (Or.inr ⟨c, by rw [ez]; exact Int32.not_lt.mpr c2⟩)] at k
        exact k hs h mx_fr.rf rfl
      · rintro (w | ⟨-, w⟩)
        · rw [c] at w
          exact absurd w (by decide)
        · rw [ez] at w
          exact w (Int32.not_le.mp c2)
      · rw [c, List.length_map]
        rfl
      · have h4 : S.2.2.1 m = 4 := by
          rw [kd2] at c0 c1 c2 c3 ⊢
          rcases (show kd = 0 ∨ kd = 1 ∨ kd = 2 ∨ kd = 3 ∨ kd = 4 by omega) with rfl | rfl | rfl | rfl | rfl
          · exact absurd rfl c0
          · exact absurd rfl c1
          · exact absurd rfl c2
          · exact absurd rfl c3
          · rfl
        rw [if_pos (Or.inl h4)] at k
        exact k hs h mx_fr.rf rfl
      · rw [List.length_map]
        exact nI_le (by omega) (by omega)
    | succ n ih =>
      intro i x y z hi hx hy hz
      have hlt : i < (S.1 j).2.1.length := by omega
      have hv : (S.1 j).2.1[i]? = some ((S.1 j).2.1[i]) := List.getElem?_eq_getElem hlt
      have hvV := q2 _ (List.getElem_mem hlt)
      obtain ⟨v, ev⟩ : ∃ v, v = (S.1 j).2.1[i] := ⟨_, rfl⟩
      rw [← ev] at hv hvV
      rw [lz_drop hv] at hx hy
      have hstep : mx_Ok mx_S0 l G (d + 2) mm_LBStore_finish 54 [(0, .ref s), (1, .ref (A j + 1)), (2, .int x), (3, .int y), (4, .int z), (5, .int (nI i))] [.int (lz_rp S v)] hs Q := by
        refine wp_LBStore_finish_54 _ _ _ _ _ _ _ ⟨fun c => wp_LBStore_finish_83 _ _ _ _ _ _ ?_, fun c => wp_LBStore_finish_83 _ _ _ _ _ _ ?_⟩
        · rw [nI_1]
          refine ih (i + 1) _ _ _ (by omega) hx hy (Or.inr ⟨by omega, ?_⟩)
          rcases hz with ⟨z1, -⟩ | ⟨-, z2⟩
          · subst z1
            exact absurd rfl c
          · rw [lz_drop hv] at z2
            exact z2
        · have i0 : i = 0 := by
            rcases Nat.eq_zero_or_pos i with w | w
            · exact w
            · exact absurd (nI_ne0 w (by omega)) c
          rw [nI_1]
          refine ih (i + 1) _ _ _ (by omega) hx hy (Or.inr ⟨by omega, ?_⟩)
          subst i0
          have e1 : (S.1 j).2.1 = v :: (S.1 j).2.1.drop 1 := by
            have w := lz_drop hv
            rw [List.drop_zero] at w
            exact w
          exact (congrArg (lz_great S) e1).symm
      refine wp_LBStore_finish_10 _ _ _ _ _ _ ⟨_, ⟨_, p1, rfl⟩, _, p2, fun c => absurd c ?_, fun _ => ⟨_, ⟨_, p1, rfl⟩, _, _, p2, nI_pos (by omega), by rw [nI_clamp (by omega)]; exact lz_longs hv, ⟨_, h.at⟩, c_planIn h (hvV.mono (by omega)) (fun x0 e => ⟨_, rfl, Or.inl rfl, fun _ => ⟨_, ⟨_, p1, rfl⟩, _, _, p2, nI_pos (by omega), by rw [nI_clamp (by omega)]; exact lz_longs hv, ?_⟩, fun a e => by cases e⟩) (fun m2 hm2 e => ⟨_, rfl, Or.inr ⟨_, rfl⟩, fun e => (by cases e), fun a ea => ?_⟩)⟩⟩
      · rw [List.length_map]
        exact nI_ge (by omega) (by omega)
      · have er : lz_rp S v = Int64.toInt32 v := by
          unfold lz_rp
          rw [if_neg (by rw [e, lz_n_pl]; decide)]
        rw [er] at hstep
        exact hstep
      · cases ea
        have er : lz_rp S v = (S.1 m2).2.2.2.1 := by
          unfold lz_rp
          rw [e, if_pos (lz_pv_pl (by omega)), lz_pv_ix (by omega)]
        rw [er] at hstep
        exact ⟨_, ⟨_, (h.plan hm2).1, rfl⟩, hstep⟩
  exact wp_LBStore_finish_0 _ _ (L _ 0 0 1 0 (Nat.zero_add _) rfl rfl (Or.inl ⟨rfl, rfl⟩))
/-- a VALUE as a PART: its contract. B: the levels that are left -/
def lb_PT (l : Launch) (G : mx_G) (s : Nat) (A : Nat → Nat) (f : Nat) : Prop := ∀ (d : Nat) (hs : mx_H) (wq : Nat → Int32) (S : lz_S) (v : Int64) (B : Nat) (Q : Option Value → mx_H → Prop), f + 8 ≤ d → lb_st hs s A wq S → lz_V S.2.1 v → B < 2 ^ 31 → (∀ j, j < 30 → v = lz_pv j → j < f ∧ j < B) → (∀ hs2, lb_st hs2 s A wq (lz_pt f S v).2 → mx_fr lb_kb hs hs2 → hs2.2 = hs.2 → Q (some (.long (lz_pt f S v).1)) hs2) → mx_C mx_S0 l G d mm_LBStore_partOf [.ref s, .long v, .int (nI B)] hs Q
theorem lb_pt_num {x : Int32} {v : Int64} {f : Nat} {S : lz_S} (h : v = x.toInt64) : lz_pt f S v = (v, S) := by
  cases f with
  | zero => rfl
  | succ f =>
    rw [lz_pt, if_pos (by rw [h]; exact lz_n_pl x)]
theorem lb_pt (f : Nat) : lb_PT l G s A f := by
  induction f with
  | zero =>
    intro d hs wq S v B Q hd h hV hB hj k
    obtain ⟨d0, rfl⟩ : ∃ d0, d = d0 + 3 := ⟨d - 3, by omega⟩
    refine wp_LBStore_partOf_0 _ _ _ ⟨⟨_, h.at⟩, c_planIn h hV (fun x e => ⟨_, rfl, Or.inl rfl, fun _ => k hs h mx_fr.rf rfl, fun a e => by cases e⟩) (fun j hjn e => absurd (hj j (by have := h.ok.1; omega) e).1 (by omega))⟩
  | succ f ih =>
    intro d hs wq S v B Q hd h hV hB hj k
    obtain ⟨d0, rfl⟩ : ∃ d0, d = d0 + 7 := ⟨d - 7, by omega⟩
    have hn := h.ok.1
    refine wp_LBStore_partOf_0 _ _ _ ⟨⟨_, h.at⟩, c_planIn h hV (fun x e => ⟨_, rfl, Or.inl rfl, fun _ => ?_, fun a e => by cases e⟩) (fun j hjn e => ⟨_, rfl, Or.inr ⟨_, rfl⟩, fun e => (by cases e), fun a ea => ?_⟩)⟩
    · rw [lb_pt_num e] at k
      exact k hs h mx_fr.rf rfl
    · cases ea
      obtain ⟨j1, j2⟩ := hj j (by omega) e
      obtain ⟨p1, p2⟩ := h.plan hjn
      obtain ⟨C, rfl⟩ : ∃ C, B = C + 1 := ⟨B - 1, by omega⟩
      subst e
      rw [lz_pt, if_neg (by rw [lz_pv_pl (by omega)]; decide), lz_pv_ix (by omega)] at k
      refine ⟨_, ⟨_, p1, rfl⟩, fun c => ⟨fun _ => ?_, fun c2 => ?_⟩, fun c => ⟨_, ⟨_, p1, rfl⟩, ?_⟩⟩
      · rw [if_neg (by rw [lz_b0.mp c]; decide)] at k
        have L : ∀ (n i : Nat) (hs1 : mx_H) (T : lz_S), i + n = (S.1 j).2.1.length → lb_st hs1 s A wq T → lz_sm S T → mx_fr lb_kb hs hs1 → hs1.2 = hs.2 → lz_bi (lz_pt f) ((S.1 j).2.1.drop i) T = lz_bi (lz_pt f) (S.1 j).2.1 S → mx_Ok mx_S0 l G (d0 + 7) mm_LBStore_partOf 40 [(0, .ref s), (3, .int (nI (C + 1))), (4, .ref (A j + 1)), (5, .int (nI i))] [] hs1 Q := by
          intro n
          induction n with
          | zero =>
            intro i hs1 T hi h1 hsm hfr hsz hbi
            have hjT : j < T.2.1 := by rw [hsm.1]; exact hjn
            obtain ⟨t1, t2⟩ := h1.plan hjT
            rw [List.drop_eq_nil_of_le (by omega)] at hbi
            rw [← hbi, if_neg (by show ¬ lz_bad 0 = true; decide)] at k
            refine wp_LBStore_partOf_40 _ _ _ _ ⟨_, ⟨_, t1, rfl⟩, _, t2, fun _ => ⟨⟨_, h1.at⟩, c_finish h1 hjT (fun hs2 g1 g2 g3 => ⟨_, rfl, k hs2 g1 (hfr.tr g2) (g3.trans hsz)⟩)⟩, fun c => absurd ?_ c⟩
            rw [List.length_map, (hsm.2.2 j).2.1]
            have := (h.ok.2.1 j hjn).1
            exact nI_le (by omega) (by omega)
          | succ n ihn =>
            intro i hs1 T hi h1 hsm hfr hsz hbi
            have hjT : j < T.2.1 := by rw [hsm.1]; exact hjn
            obtain ⟨t1, t2⟩ := h1.plan hjT
            have hlen := (h.ok.2.1 j hjn).1
            have hlt : i < (S.1 j).2.1.length := by omega
            have hv : (S.1 j).2.1[i]? = some ((S.1 j).2.1[i]) := List.getElem?_eq_getElem hlt
            have hvT : (T.1 j).2.1[i]? = some ((S.1 j).2.1[i]) := by rw [(hsm.2.2 j).2.1]; exact hv
            have hvV := (h.ok.2.1 j hjn).2.1 _ (List.getElem_mem hlt)
            obtain ⟨w, ew⟩ : ∃ w, w = (S.1 j).2.1[i] := ⟨_, rfl⟩
            rw [← ew] at hv hvT hvV
            rw [lz_drop hv] at hbi
            refine wp_LBStore_partOf_40 _ _ _ _ ⟨_, ⟨_, t1, rfl⟩, _, t2, fun c => absurd c ?_, fun _ => ⟨_, ⟨_, t1, rfl⟩, _, _, t2, nI_pos (by omega), by rw [nI_clamp (by omega)]; exact lz_longs hvT, ⟨_, h1.at⟩, ?_⟩⟩
            · rw [List.length_map, (hsm.2.2 j).2.1]
              exact nI_ge (by omega) (by omega)
            · rw [nI_pred]
              refine ih (d0 + 6) hs1 wq T w C _ (by omega) h1 (by rw [hsm.1]; exact hvV.mono (by omega)) (by omega) (fun i' hi' e' => ?_) (fun hs2 g1 g2 g3 => ⟨_, rfl, c_isFailure ⟨_, rfl, fun c => ?_, fun c => ?_⟩⟩)
              · have := lz_V_pv hvV (by omega) (by omega) e'
                omega
              · rw [nI_1]
                rw [lz_bi, if_neg (by rw [lz_b0.mp c]; decide)] at hbi
                exact ihn (i + 1) hs2 _ (by omega) g1 (hsm.tr (lz_pt_sm f T w)) (hfr.tr g2) (g3.trans hsz) hbi
              · rw [lz_bi, if_pos (lz_b1.mp c)] at hbi
                rw [← hbi, if_pos (lz_b1.mp c)] at k
                exact k hs2 g1 (hfr.tr g2) (g3.trans hsz)
        exact L _ 0 hs S (Nat.zero_add _) h lz_sm.rf mx_fr.rf rfl rfl
      · exact absurd (nI_lt (a := 0) (b := C + 1) (by omega) hB) c2
      · rw [if_pos (lz_b1.mp c)] at k
        exact k hs h mx_fr.rf rfl
theorem c_partOf (h : lb_st hs s A wq S) {v : Int64} (hV : lz_V S.2.1 v) (hd : 40 ≤ d) (k : ∀ hs2, lb_st hs2 s A wq (lz_pt 30 S v).2 → mx_fr lb_kb hs hs2 → hs2.2 = hs.2 → Q (some (.long (lz_pt 30 S v).1)) hs2) : mx_C mx_S0 l G d mm_LBStore_partOf [.ref s, .long v, .int 30] hs Q :=
  lb_pt (l := l) (G := G) (s := s) (A := A) 30 d hs wq S v 30 _ (by omega) h hV (by omega) (fun j hj _ => ⟨hj, hj⟩) k
end CSTO
