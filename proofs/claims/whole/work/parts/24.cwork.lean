/-! THE CLASS works an EXPRESSION out. b: the cell of the LazyBuilder; its Worker is b + 7. -/
def lb_nc (b i : Nat) (x : Bool × Bool × Int64) : List Value := [.ref (b + 10 + 4 * i), .int (lz_b x.1), .int (lz_b x.2.1), .long x.2.2]
def lb_wk (hs : mx_H) (b : Nat) (T : Nat → List Int32) (A : Nat → Nat) (wq : Nat → Int32) (L : List Int64) (w : lz_W) : Prop :=
  hs.1 (b + 7) = some (5, [.ref (b + 8), .ref (b + 4), .ref (b + 41), .int (nI w.2.1), .int (nI w.2.2.1)]) ∧
  hs.1 (b + 8) = some (112, (List.range 8).map (fun i => Value.ref (b + 9 + 4 * i))) ∧
  (∀ i, i < 8 → hs.1 (b + 9 + 4 * i) = some (2, lb_nc b i (w.1 i))) ∧
  hs.1 (b + 41) = some (102, L.map Value.long) ∧ L.length = 292 ∧
  lb_st hs (b + 4) A wq w.2.2.2 ∧ (∀ i, i < w.2.2.2.2.1 → b + 42 ≤ A i) ∧ lz_okW T w
def lb_ts (hs : mx_H) (b : Nat) (T : Nat → List Int32) (w : lz_W) : Prop := ∀ i, i < 8 → ∃ es dp bp, lb_tx hs (b + 10 + 4 * i) (T i) es dp bp ∧ ((w.1 i).1 = true → lz_EO (T i) es 0 (T i).length)
def lb_tg (hs : mx_H) (a : Nat) (t : List Int32) : Prop := ∃ es dp bp, lb_tx hs a t es dp bp ∧ lz_EO t es 0 t.length
/-- the kinds that working out leaves -/
def lb_kw : Nat → Bool := fun k => !(k == 2) && !(k == 3) && !(k == 4) && !(k == 5) && !(k == 102) && !(k == 113)
theorem lb_tx.fr {hs hs' : mx_H} {a : Nat} {t es : List Int32} {dp : Nat} {bp : Int32} {P : Nat → Bool} (h : lb_tx hs a t es dp bp) (f : mx_fr P hs hs') (p1 : P 1 = true) (p2 : P 100 = true) : lb_tx hs' a t es dp bp := by
  obtain ⟨cs, h0, h1, h2, h3⟩ := h
  exact ⟨cs, f.1 _ _ h0 p1, f.1 _ _ h1 p2, f.1 _ _ h2 p2, h3⟩
theorem lb_tg.fr {hs hs' : mx_H} {a : Nat} {t : List Int32} (h : lb_tg hs a t) (f : mx_fr lb_kw hs hs') : lb_tg hs' a t := by
  obtain ⟨es, dp, bp, h1, h2⟩ := h
  exact ⟨es, dp, bp, h1.fr f rfl rfl, h2⟩
theorem lb_ts.fr {hs hs' : mx_H} {b : Nat} {T : Nat → List Int32} {w w' : lz_W} (h : lb_ts hs b T w) (f : mx_fr lb_kw hs hs') (e : ∀ i, i < 8 → (w'.1 i).1 = (w.1 i).1) : lb_ts hs' b T w' := by
  intro i hi
  obtain ⟨es, dp, bp, h1, h2⟩ := h i hi
  exact ⟨es, dp, bp, h1.fr f rfl rfl, fun z => h2 (by rw [← e i hi]; exact z)⟩
theorem mx_fr.mono {P P' : Nat → Bool} {hs hs' : mx_H} (h : mx_fr P hs hs') (hp : ∀ k, P' k = true → P k = true) : mx_fr P' hs hs' := ⟨fun q x hx hk => h.1 q x hx (hp _ hk), h.2⟩
/-- how many names are being worked out -/
def lz_bz (w : lz_W) : Nat := (lz_b' (w.1 0).2.1) + (lz_b' (w.1 1).2.1) + (lz_b' (w.1 2).2.1) + (lz_b' (w.1 3).2.1) + (lz_b' (w.1 4).2.1) + (lz_b' (w.1 5).2.1) + (lz_b' (w.1 6).2.1) + (lz_b' (w.1 7).2.1)
theorem lz_bz_set {w : lz_W} {i : Nat} (hi : i < 8) (h : (w.1 i).2.1 = false) (x y : Bool × Int64) : lz_bz (lz_setN w i (x.1, true, y.2)) = lz_bz w + 1 := by
  rcases (show i = 0 ∨ i = 1 ∨ i = 2 ∨ i = 3 ∨ i = 4 ∨ i = 5 ∨ i = 6 ∨ i = 7 by omega) with rfl | rfl | rfl | rfl | rfl | rfl | rfl | rfl <;> (simp [lz_bz, lz_setN, h, lz_b']; try omega)
theorem lz_bz_le (w : lz_W) : lz_bz w ≤ 8 := by
  have h : ∀ x : Bool, lz_b' x ≤ 1 := by intro x; cases x <;> decide
  have h0 := h (w.1 0).2.1
  have h1 := h (w.1 1).2.1
  have h2 := h (w.1 2).2.1
  have h3 := h (w.1 3).2.1
  have h4 := h (w.1 4).2.1
  have h5 := h (w.1 5).2.1
  have h6 := h (w.1 6).2.1
  have h7 := h (w.1 7).2.1
  unfold lz_bz
  omega
theorem lz_bz_eq {w w' : lz_W} (h : ∀ i, (w'.1 i).2.1 = (w.1 i).2.1) : lz_bz w' = lz_bz w := by
  unfold lz_bz
  rw [h 0, h 1, h 2, h 3, h 4, h 5, h 6, h 7]
/-- before: n: the fuel, d: the frames left, o: how many stand open, k: the depth allowed -/
def lb_pre (hs : mx_H) (b : Nat) (T : Nat → List Int32) (A : Nat → Nat) (wq : Nat → Int32) (L : List Int64) (w : lz_W) (a : Nat) (t : List Int32) (n d o k : Nat) : Prop :=
  lb_wk hs b T A wq L w ∧ lb_ts hs b T w ∧ lb_tg hs a t ∧ 200 ≤ w.2.1 + n ∧ w.2.1 ≤ 200 ∧ o ≤ 8 * lz_bz w + (9 - k) ∧ 2 * (73 - o) + 48 ≤ d
/-- behind -/
def lb_post (hs : mx_H) (b : Nat) (T : Nat → List Int32) (L : List Int64) (w : lz_W) (o : Nat) (r : Int64 × lz_W) (hs2 : mx_H) : Prop :=
  ∃ (A2 : Nat → Nat) (wq2 : Nat → Int32) (L2 : List Int64), lb_wk hs2 b T A2 wq2 L2 r.2 ∧ mx_fr lb_kw hs hs2 ∧ (∀ i, i < 4 * o → L2[i]? = L[i]?) ∧ hs2.2.1 = hs.2.1 + 2 * (r.2.2.2.2.2.1 - w.2.2.2.2.1) ∧ hs2.2.2 ≤ hs.2.2 + 10 * (r.2.2.2.2.2.1 - w.2.2.2.2.1)
def lb_WF (l : Launch) (G : mx_G) (b : Nat) (T : Nat → List Int32) (f : lz_F) (n : Nat) : Prop := ∀ (d : Nat) (hs : mx_H) (A : Nat → Nat) (wq : Nat → Int32) (L : List Int64) (w : lz_W) (a : Nat) (t : List Int32) (p k e o : Nat) (Q : Option Value → mx_H → Prop), k ≤ 8 → lz_rd t k p = (true, e) → (p = 0 ∨ lz_cd t (p - 1) ≠ 68) → lb_pre hs b T A wq L w a t n d o k →
  (∀ hs2, lb_post hs b T L w o (f t p w) hs2 → Q (some (.long (f t p w).1)) hs2) → mx_C mx_S0 l G d mm_LBWorker_work [.ref (b + 7), .ref a, .int (nI p), .int (nI o)] hs Q
section CWK
variable {l : Launch} {G : mx_G} {d b a n o k p e : Nat} {hs : mx_H} {Q : Option Value → mx_H → Prop} {A : Nat → Nat} {wq : Nat → Int32} {L : List Int64} {w : lz_W} {T : Nat → List Int32} {t : List Int32} {f : lz_F}
theorem lb_wk.at (h : lb_wk hs b T A wq L w) : hs.1 (b + 7) = some (5, [.ref (b + 8), .ref (b + 4), .ref (b + 41), .int (nI w.2.1), .int (nI w.2.2.1)]) := h.1
theorem lb_wk.sto (h : lb_wk hs b T A wq L w) : lb_st hs (b + 4) A wq w.2.2.2 := h.2.2.2.2.2.1
theorem lb_wk.ok (h : lb_wk hs b T A wq L w) : lz_okW T w := h.2.2.2.2.2.2.2
theorem lb_wk.name (h : lb_wk hs b T A wq L w) {i : Nat} (hi : i < 8) : hs.1 (b + 9 + 4 * i) = some (2, lb_nc b i (w.1 i)) := h.2.2.1 i hi
/-- the Store's cells under a change outside of them -/
theorem lb_st.out {s : Nat} {S : lz_S} {c : Nat} {x y : mx_E} (h : lb_st hs s A wq S) (hc : hs.1 c = some y) (h1 : c ≠ s) (h2 : c ≠ s + 1) (h3 : c ≠ s + 2) (h4 : ∀ i, i < S.2.1 → c ≠ A i ∧ c ≠ A i + 1) : lb_st (mx_st hs c x) s A wq S := by
  obtain ⟨g1, ⟨ps, g2, g3⟩, ⟨ks, g4, g5⟩, g6, g7, g8, g9, g10⟩ := h
  refine ⟨by rw [mx_st_ne _ _ (Ne.symm h1)]; exact g1, ⟨ps, by rw [mx_st_ne _ _ (Ne.symm h2)]; exact g2, g3⟩, ⟨ks, by rw [mx_st_ne _ _ (Ne.symm h3)]; exact g4, g5⟩, fun i hi => ?_, g7, g8, g9, g10.st hc⟩
  rw [mx_st_ne _ _ (Ne.symm (h4 i hi).2), mx_st_ne _ _ (Ne.symm (h4 i hi).1)]
  exact g6 i hi
/-- the Worker's numbers are changed -/
theorem lb_wk.nums (h : lb_wk hs b T A wq L w) (x y : Nat) : lb_wk (mx_st hs (b + 7) (5, [.ref (b + 8), .ref (b + 4), .ref (b + 41), .int (nI x), .int (nI y)])) b T A wq L (w.1, x, y, w.2.2.2) := by
  obtain ⟨h1, h2, h3, h4, h5, h6, h7, h8⟩ := h
  refine ⟨mx_st_eq _ _ _, by rw [mx_st_ne _ _ (by omega)]; exact h2, fun i hi => by rw [mx_st_ne _ _ (by omega)]; exact h3 i hi, by rw [mx_st_ne _ _ (by omega)]; exact h4, h5, h6.out h1 (by omega) (by omega) (by omega) (fun i hi => by have := h7 i hi; omega), h7, h8⟩
/-- a name's cell is changed -/
theorem lb_wk.nset (h : lb_wk hs b T A wq L w) {i : Nat} (hi : i < 8) {x : Bool × Bool × Int64} (hx : (x.1 = true → lz_rd (T i) 8 0 = (true, (T i).length)) ∧ (x.2.2 = -1000000000000 ∨ lz_V w.2.2.2.2.1 x.2.2)) : lb_wk (mx_st hs (b + 9 + 4 * i) (2, lb_nc b i x)) b T A wq L (lz_setN w i x) := by
  have hc := h.name hi
  obtain ⟨h1, h2, h3, h4, h5, h6, h7, h8⟩ := h
  refine ⟨by rw [mx_st_ne _ _ (by omega)]; exact h1, by rw [mx_st_ne _ _ (by omega)]; exact h2, fun j hj => ?_, by rw [mx_st_ne _ _ (by omega)]; exact h4, h5, h6.out hc (by omega) (by omega) (by omega) (fun j hj => by have := h7 j hj; omega), h7, ⟨fun j hj => ?_, h8.2⟩⟩
  · by_cases hij : j = i
    · subst hij
      simp only [lz_setN, if_true]
      exact mx_st_eq _ _ _
    · simp only [lz_setN, if_neg hij]
      rw [mx_st_ne _ _ (by omega)]
      exact h3 j hj
  · by_cases hij : j = i
    · subst hij
      simp only [lz_setN, if_true]
      exact hx
    · simp only [lz_setN, if_neg hij]
      exact h8.1 j hj
/-- a place of the lists is changed -/
theorem lb_wk.lset (h : lb_wk hs b T A wq L w) (i : Nat) (v : Int64) : lb_wk (mx_st hs (b + 41) (102, (L.set i v).map Value.long)) b T A wq (L.set i v) w := by
  obtain ⟨h1, h2, h3, h4, h5, h6, h7, h8⟩ := h
  refine ⟨by rw [mx_st_ne _ _ (by omega)]; exact h1, by rw [mx_st_ne _ _ (by omega)]; exact h2, fun i hi => by rw [mx_st_ne _ _ (by omega)]; exact h3 i hi, mx_st_eq _ _ _, by rw [List.length_set]; exact h5, h6.out h4 (by omega) (by omega) (by omega) (fun i hi => by have := h7 i hi; omega), h7, h8⟩
/-- a name's array place -/
theorem lb_names {i : Nat} (hi : i < 8) : ((List.range 8).map (fun i => Value.ref (b + 9 + 4 * i)))[i]? = some (.ref (b + 9 + 4 * i)) := by
  rw [List.getElem?_map, List.getElem?_range hi]
  rfl
theorem lb_post.tr {o2 : Nat} {r q : Int64 × lz_W} {hs2 hs3 : mx_H} {L2 : List Int64} (h1 : mx_fr lb_kw hs hs2) (h2 : ∀ i, i < 4 * o → L2[i]? = L[i]?) (h3 : hs2.2.1 = hs.2.1 + 2 * (r.2.2.2.2.2.1 - w.2.2.2.2.1)) (h4 : hs2.2.2 ≤ hs.2.2 + 10 * (r.2.2.2.2.2.1 - w.2.2.2.2.1)) (ho : o ≤ o2) (hm : w.2.2.2.2.1 ≤ r.2.2.2.2.2.1) (hm2 : r.2.2.2.2.2.1 ≤ q.2.2.2.2.2.1) (k : lb_post hs2 b T L2 r.2 o2 q hs3) : lb_post hs b T L w o q hs3 := by
  obtain ⟨A3, wq3, L3, k1, k2, k3, k4, k5⟩ := k
  exact ⟨A3, wq3, L3, k1, h1.tr k2, fun i hi => (k3 i (by omega)).trans (h2 i hi), by omega, by omega⟩
theorem c_combine {c x y : Int32} (k : Q (some (.int (lz_comb c x y))) hs) : mx_C mx_S0 l G (d + 1) mm_LBWorker_combine [.int c, .int x, .int y] hs Q := by
  unfold lz_comb at k
  have hlt : ¬ c = 43 → ¬ c = 45 → ¬ c = 42 → mx_Ok mx_S0 l G (d + 1) mm_LBWorker_combine 44 [(1, .int x), (2, .int y)] [] hs Q := by
    intro c1 c2 c3
    rw [if_neg c1, if_neg c2, if_neg c3] at k
    refine wp_LBWorker_combine_44 _ _ ⟨fun z => ?_, fun z => ?_⟩
    · rw [if_neg (Int32.not_lt.mpr z)] at k
      exact k
    · rw [if_pos (Int32.not_le.mp z)] at k
      exact k
  refine wp_LBWorker_combine_0 _ _ _ ⟨fun z => ?_, fun z => ?_, fun z => hlt (by rw [z]; decide) (by rw [z]; decide) (by rw [z]; decide), fun z => ?_, fun z1 z2 z3 z4 => hlt z2 z4 z1⟩
  · subst z
    exact k
  · subst z
    exact k
  · subst z
    exact k
theorem c_canBeMadeGood {v : Int64} (k : Q (some (.int (lz_b (lz_good v)))) hs) : mx_C mx_S0 l G (d + 1) mm_LBWorker_canBeMadeGood [.long v] hs Q := by
  have hg : lz_good v = true → mx_Ok mx_S0 l G (d + 1) mm_LBWorker_canBeMadeGood 32 [] [] hs Q := fun z => wp_LBWorker_canBeMadeGood_32 (by rw [z] at k; exact k)
  refine wp_LBWorker_canBeMadeGood_0 _ ⟨fun z => hg (by rw [z]; decide), fun z1 => ⟨fun z => hg (by rw [z]; decide), fun z2 => ⟨fun z => hg (by rw [z]; decide), fun z3 => ⟨fun z4 => ?_, fun z => hg (by rw [Decidable.not_not.mp z]; decide)⟩⟩⟩⟩
  have e : lz_good v = false := by unfold lz_good; simp [z1, z2, z3, z4]
  rw [e] at k
  exact k
theorem c_isClosed (h : lb_wk hs b T A wq L w) (hf : w.2.2.1 < 2 ^ 31) (k : Q (some (.int (lz_b (decide (30 ≤ w.2.2.1))))) hs) : mx_C mx_S0 l G (d + 1) mm_LBWorker_isClosed [.ref (b + 7)] hs Q := by
  refine wp_LBWorker_isClosed_0 _ ⟨_, ⟨_, h.at, rfl⟩, fun z => ?_, fun z => ?_⟩
  · have : w.2.2.1 < 30 := (nI_ltI (b := 30) hf (by omega)).mp z
    rw [decide_eq_false (by omega)] at k
    exact k
  · have : ¬ w.2.2.1 < 30 := fun q => z ((nI_ltI (b := 30) hf (by omega)).mpr q)
    rw [decide_eq_true (by omega)] at k
    exact k
theorem c_answerOf (h : lb_wk hs b T A wq L w) {v : Int64} (k0 : lz_bad v = false → Q (some (.int 0)) hs) (k1 : lz_bad v = true → ∀ hs2, lb_wk hs2 b T A wq L (w.1, w.2.1, w.2.2.1 + 1, w.2.2.2) → mx_fr lb_kw hs hs2 → hs2.2 = hs.2 → Q (some (.int (Int64.toInt32 (v - (-1000000000000))))) hs2) : mx_C mx_S0 l G (d + 2) mm_LBWorker_answerOf [.ref (b + 7), .long v] hs Q := by
  refine wp_LBWorker_answerOf_0 _ _ (c_isFailure ⟨_, rfl, fun z => ⟨_, ⟨_, h.at, rfl⟩, _, h.at, fun hs2 e2 => ?_⟩, fun z => k0 (lz_b0.mp (Decidable.not_not.mp z))⟩)
  rw [nI_1] at e2
  refine k1 (lz_b1.mp z) hs2 ?_ ?_ ?_
  · rw [e2]
    exact h.nums w.2.1 (w.2.2.1 + 1)
  · rw [e2]
    exact mx_fr.st h.at rfl
  · rw [e2]
    rfl
end CWK
