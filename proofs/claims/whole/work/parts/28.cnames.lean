/-! THE CLASS: names are bound, forgotten, counted. -/
section CNM
variable {l : Launch} {G : mx_G} {d b : Nat} {hs : mx_H} {Q : Option Value → mx_H → Prop} {A : Nat → Nat} {wq : Nat → Int32} {L : List Int64} {w : lz_W} {T : Nat → List Int32} {t : List Int32}
theorem lz_c24 : Int32.toNatClampNeg 24 = 24 := rfl
theorem lz_c0 : Int32.toNatClampNeg 0 = 0 := rfl
theorem lz_cp24 {x y : List Value} (hx : x.length = 24) (hy : y.length = 24) : mx_cpy x y 0 0 24 = x := by
  unfold mx_cpy
  rw [List.take_zero, List.nil_append, List.drop_zero, List.take_of_length_le (by omega), List.drop_eq_nil_of_le (by omega), List.append_nil]
theorem lz_fitI {cs : List Int32} : ∀ v ∈ cs.map Value.int, fits .int v = true ∧ ∀ x, v ≠ .ref x := by
  intro v hv
  obtain ⟨x, -, rfl⟩ := List.mem_map.mp hv
  exact ⟨rfl, fun _ z => by cases z⟩
theorem c_copyFrom {a c : Nat} {t t2 es es2 : List Int32} {dp dp2 : Nat} {bp bp2 : Int32} (h : lb_tx hs a t es dp bp) (h2 : lb_tx hs c t2 es2 dp2 bp2) (hac : a + 3 ≤ c ∨ c + 3 ≤ a) (k : ∀ hs2, lb_tx hs2 a t2 es2 dp2 bp → mx_kp hs hs2 a 3 → Q none hs2) : mx_C mx_S0 l G (d + 1) mm_LBText_copyFrom [.ref a, .ref c] hs Q := by
  obtain ⟨cs, h0, h1, h2', h3, h4, h5, h6, h7⟩ := h
  obtain ⟨cs2, g0, g1, g2, g3, g4, g5, g6, g7⟩ := h2
  refine wp_LBText_copyFrom_0 _ _ ⟨_, ⟨_, g0, rfl⟩, _, ⟨_, h0, rfl⟩, _, _, g1, h1, by decide, by decide, by decide, by rw [lz_c24, lz_c0, List.length_map]; omega, by rw [lz_c24, lz_c0, List.length_map]; omega, lz_fitI, fun hs1 e1 => ?_⟩
  rw [lz_c24, lz_c0, lz_cp24 (by rw [List.length_map]; exact g3) (by rw [List.length_map]; exact h3)] at e1
  have o1 : ∀ q, q ≠ a + 1 → hs1.1 q = hs.1 q := fun q hq => by rw [e1, mx_st_ne _ _ hq]
  refine ⟨_, ⟨_, (o1 _ (by omega)).trans g0, rfl⟩, _, ⟨_, (o1 _ (by omega)).trans h0, rfl⟩, _, _, (o1 _ (by omega)).trans g2, (o1 _ (by omega)).trans h2', by decide, by decide, by decide, by rw [lz_c24, lz_c0, List.length_map]; omega, by rw [lz_c24, lz_c0, List.length_map]; omega, lz_fitI, fun hs2 e2 => ?_⟩
  rw [lz_c24, lz_c0, lz_cp24 (by rw [List.length_map]; exact g4) (by rw [List.length_map]; exact h4)] at e2
  have o2 : ∀ q, q ≠ a + 1 → q ≠ a + 2 → hs2.1 q = hs.1 q := fun q x y => by rw [e2, mx_st_ne _ _ y]; exact o1 q x
  refine ⟨_, ⟨_, (o2 _ (by omega) (by omega)).trans g0, rfl⟩, _, (o2 _ (by omega) (by omega)).trans h0, fun hs3 e3 => ?_⟩
  have o3 : ∀ q, q ≠ a → q ≠ a + 1 → q ≠ a + 2 → hs3.1 q = hs.1 q := fun q z x y => by rw [e3, mx_st_ne _ _ z]; exact o2 q x y
  refine ⟨_, ⟨_, (o3 _ (by omega) (by omega) (by omega)).trans g0, rfl⟩, _, by rw [e3]; exact mx_st_eq _ _ _, fun hs4 e4 => ?_⟩
  have o4 : ∀ q, q ≠ a → q ≠ a + 1 → q ≠ a + 2 → hs4.1 q = hs.1 q := fun q z x y => by rw [e4, mx_st_ne _ _ z]; exact o3 q z x y
  refine k hs4 ⟨cs2, ?_, ?_, ?_, g3, g4, g5, g6, g7⟩ ⟨fun q hq => o4 q (by omega) (by omega) (by omega), ?_⟩
  · rw [e4, mx_st_eq]
    rfl
  · rw [e4, mx_st_ne _ _ (by omega), e3, mx_st_ne _ _ (by omega), e2, mx_st_ne _ _ (by omega), e1, mx_st_eq]
  · rw [e4, mx_st_ne _ _ (by omega), e3, mx_st_ne _ _ (by omega), e2, mx_st_eq]
  · rw [e4, e3, e2, e1]
    rfl
/-- all VALUES kept are forgotten -/
def lz_fg (w : lz_W) : lz_W := (fun i => ((w.1 i).1, (w.1 i).2.1, -1000000000000), w.2)
/-- a Name's cells and those of its Text lie in [b + 9, b + 41): the kinds that a name's change leaves -/
def lb_kk : Nat → Bool := fun k => !(k == 2)
theorem c_forgetValues (h : lb_wk hs b T A wq L w) (k : ∀ hs2, lb_wk hs2 b T A wq L (lz_fg w) → mx_fr lb_kk hs hs2 → hs2.2 = hs.2 → Q none hs2) : mx_C mx_S0 l G (d + 1) mm_LBWorker_forgetValues [.ref (b + 7)] hs Q := by
  have W : ∀ (n i : Nat) (hs1 : mx_H) (u : lz_W), i + n = 8 → lb_wk hs1 b T A wq L u → u.2 = w.2 → (∀ j, u.1 j = if j < i then ((w.1 j).1, (w.1 j).2.1, -1000000000000) else w.1 j) → mx_fr lb_kk hs hs1 → hs1.2 = hs.2 → mx_Ok mx_S0 l G (d + 1) mm_LBWorker_forgetValues 2 [(0, .ref (b + 7)), (1, .int (nI i))] [] hs1 Q := by
    intro n
    induction n with
    | zero =>
      intro i hs1 u hi h1 hu hj hf hz
      have hi8 : i = 8 := by omega
      subst hi8
      refine wp_LBWorker_forgetValues_2 _ _ ⟨fun _ => k hs1 ?_ hf hz, fun c => absurd (by decide) c⟩
      obtain ⟨q1, q2, q3, q4, q5, q6, q7, q8⟩ := h1
      rw [hu] at q1 q6 q7
      refine ⟨q1, q2, fun i hi => ?_, q4, q5, q6, q7, ⟨fun i hi => ?_, ?_⟩⟩
      · rw [q3 i hi, hj i, if_pos hi]
        rfl
      · refine ⟨(h.ok.1 i hi).1, Or.inl rfl⟩
      · exact h.ok.2
    | succ n ih =>
      intro i hs1 u hi h1 hu hj hf hz
      have hi8 : i < 8 := by omega
      have hui : u.1 i = w.1 i := by rw [hj i, if_neg (by omega)]
      refine wp_LBWorker_forgetValues_2 _ _ ⟨fun c => absurd c (nI_ge (b := 8) (by omega) (by omega)), fun _ => ⟨_, ⟨_, h1.at, rfl⟩, _, _, h1.2.1, nI_pos (by omega), by rw [nI_clamp (by omega)]; exact lb_names hi8, _, h1.name hi8, fun hs2 e2 => ?_⟩⟩
      rw [nI_1 i]
      refine ih (i + 1) hs2 (lz_setN u i ((u.1 i).1, (u.1 i).2.1, -1000000000000)) (by omega) ?_ hu (fun j => ?_) ?_ ?_
      · rw [e2]
        exact h1.nset hi8 (x := ((u.1 i).1, (u.1 i).2.1, -1000000000000)) ⟨(h1.ok.1 i hi8).1, Or.inl rfl⟩
      · simp only [lz_setN]
        by_cases hji : j = i
        · rw [if_pos hji, if_pos (by omega), hji, hui]
        · rw [if_neg hji, hj j]
          by_cases hlt : j < i
          · rw [if_pos hlt, if_pos (by omega)]
          · rw [if_neg hlt, if_neg (by omega)]
      · rw [e2]
        exact hf.tr (mx_fr.st (h1.name hi8) rfl)
      · rw [e2]
        exact hz
  exact wp_LBWorker_forgetValues_0 _ (W 8 0 hs w rfl h rfl (fun j => by rw [if_neg (Nat.not_lt_zero j)]) mx_fr.rf rfl)
def lz_cnt (g : Nat → Bool) : Nat → Nat
  | 0 => 0
  | n + 1 => lz_cnt g n + lz_b' (g n)
theorem lz_cnt_le (g : Nat → Bool) : ∀ n, lz_cnt g n ≤ n := by
  intro n
  induction n with
  | zero => exact Nat.le_refl _
  | succ n ih =>
    have : lz_b' (g n) ≤ 1 := by cases g n <;> decide
    unfold lz_cnt
    omega
theorem lz_bn (x : Bool) (n : Nat) : nI n + lz_b x = nI (n + lz_b' x) := by
  cases x
  · exact nI_add n 0
  · exact nI_add n 1
theorem c_namesBound (h : lb_wk hs b T A wq L w) (k : Q (some (.int (nI (lz_cnt (fun i => (w.1 i).1) 8)))) hs) : mx_C mx_S0 l G (d + 1) mm_LBWorker_namesBound [.ref (b + 7)] hs Q := by
  have W : ∀ (n i : Nat), i + n = 8 → mx_Ok mx_S0 l G (d + 1) mm_LBWorker_namesBound 4 [(0, .ref (b + 7)), (1, .int (nI (lz_cnt (fun i => (w.1 i).1) i))), (2, .int (nI i))] [] hs Q := by
    intro n
    induction n with
    | zero =>
      intro i hi
      have hi8 : i = 8 := by omega
      subst hi8
      exact wp_LBWorker_namesBound_4 _ _ _ ⟨fun _ => k, fun c => absurd (by decide) c⟩
    | succ n ih =>
      intro i hi
      have hi8 : i < 8 := by omega
      have hx : ∀ x : Int32, x = lz_b (w.1 i).1 → mx_Ok mx_S0 l G (d + 1) mm_LBWorker_namesBound 28 [(0, .ref (b + 7)), (2, .int (nI i))] [.int x, .int (nI (lz_cnt (fun i => (w.1 i).1) i))] hs Q := by
        intro x ex
        refine wp_LBWorker_namesBound_28 _ _ _ _ ?_
        rw [ex, lz_bn, nI_1]
        exact ih (i + 1) (by omega)
      refine wp_LBWorker_namesBound_4 _ _ _ ⟨fun c => absurd c (nI_ge (b := 8) (by omega) (by omega)), fun _ => ⟨_, ⟨_, h.at, rfl⟩, _, _, h.2.1, nI_pos (by omega), by rw [nI_clamp (by omega)]; exact lb_names hi8, _, ⟨_, h.name hi8, rfl⟩, fun z => hx 0 z.symm, fun z => hx 1 (by rw [lz_b1.mp z]; rfl)⟩⟩
  exact wp_LBWorker_namesBound_0 _ (W 8 0 rfl)
theorem c_namesKept (h : lb_wk hs b T A wq L w) (k : Q (some (.int (nI (lz_cnt (fun i => decide (¬ (w.1 i).2.2 = -1000000000000)) 8)))) hs) : mx_C mx_S0 l G (d + 1) mm_LBWorker_namesKept [.ref (b + 7)] hs Q := by
  have W : ∀ (n i : Nat), i + n = 8 → mx_Ok mx_S0 l G (d + 1) mm_LBWorker_namesKept 4 [(0, .ref (b + 7)), (1, .int (nI (lz_cnt (fun i => decide (¬ (w.1 i).2.2 = -1000000000000)) i))), (2, .int (nI i))] [] hs Q := by
    intro n
    induction n with
    | zero =>
      intro i hi
      have hi8 : i = 8 := by omega
      subst hi8
      exact wp_LBWorker_namesKept_4 _ _ _ ⟨fun _ => k, fun c => absurd (by decide) c⟩
    | succ n ih =>
      intro i hi
      have hi8 : i < 8 := by omega
      have hx : ∀ x : Int32, x = lz_b (decide (¬ (w.1 i).2.2 = -1000000000000)) → mx_Ok mx_S0 l G (d + 1) mm_LBWorker_namesKept 32 [(0, .ref (b + 7)), (2, .int (nI i))] [.int x, .int (nI (lz_cnt (fun i => decide (¬ (w.1 i).2.2 = -1000000000000)) i))] hs Q := by
        intro x ex
        refine wp_LBWorker_namesKept_32 _ _ _ _ ?_
        rw [ex, lz_bn, nI_1]
        exact ih (i + 1) (by omega)
      refine wp_LBWorker_namesKept_4 _ _ _ ⟨fun c => absurd c (nI_ge (b := 8) (by omega) (by omega)), fun _ => ⟨_, ⟨_, h.at, rfl⟩, _, _, h.2.1, nI_pos (by omega), by rw [nI_clamp (by omega)]; exact lb_names hi8, _, ⟨_, h.name hi8, rfl⟩, fun z => hx 0 (by rw [decide_eq_false (not_not_intro z)]; rfl), fun z => hx 1 (by rw [decide_eq_true z]; rfl)⟩⟩
  exact wp_LBWorker_namesKept_0 _ (W 8 0 rfl)
theorem lb_st.kp {s a n : Nat} {S : lz_S} {hs1 : mx_H} (h : lb_st hs s A wq S) (k : mx_kp hs hs1 a n) (h1 : s + 3 ≤ a ∨ a + n ≤ s) (h2 : ∀ i, i < S.2.1 → a + n ≤ A i ∨ A i + 2 ≤ a) (h3 : a + n ≤ hs.2.1) : lb_st hs1 s A wq S := by
  obtain ⟨g1, ⟨ps, g2, g3⟩, ⟨ks, g4, g5⟩, g6, g7, g8, g9, g10⟩ := h
  refine ⟨(k.1 _ (by omega)).trans g1, ⟨ps, (k.1 _ (by omega)).trans g2, g3⟩, ⟨ks, (k.1 _ (by omega)).trans g4, g5⟩, fun i hi => ?_, g7, g8, g9, fun q x hq => ?_⟩
  · have := h2 i hi
    rw [k.1 _ (by omega), k.1 _ (by omega)]
    exact g6 i hi
  · rw [k.2]
    rcases Nat.lt_or_ge q (a + n) with z | z
    · omega
    · rw [k.1 _ (Or.inr z)] at hq
      exact g10 q x hq
theorem lb_wk.kp {a n : Nat} {hs1 : mx_H} (h : lb_wk hs b T A wq L w) (k : mx_kp hs hs1 a n) (h7 : b + 8 < a ∨ a + n ≤ b + 4) (hn : ∀ i, i < 8 → b + 9 + 4 * i < a ∨ a + n ≤ b + 9 + 4 * i) (h41 : a + n ≤ b + 41) : lb_wk hs1 b T A wq L w := by
  have hz := h.sto.wf _ _ h.2.2.2.1
  obtain ⟨q1, q2, q3, q4, q5, q6, q7, q8⟩ := h
  exact ⟨(k.1 _ (by omega)).trans q1, (k.1 _ (by omega)).trans q2, fun i hi => (k.1 _ (by have := hn i hi; omega)).trans (q3 i hi), (k.1 _ (by omega)).trans q4, q5, q6.kp k (by omega) (fun i hi => by have := q7 i hi; omega) (by omega), q7, q8⟩
theorem lb_tx.kpfr {hs hs' : mx_H} {a : Nat} {t es : List Int32} {dp : Nat} {bp : Int32} {P : Nat → Bool} (h : lb_tx hs a t es dp bp) (k : mx_kp hs hs' a 3) (p1 : P 1 = false) (p2 : P 100 = false) : mx_fr P hs hs' := by
  obtain ⟨cs, h0, h1, h2, h3⟩ := h
  refine ⟨fun q x hq hp => ?_, by rw [k.2]; exact Nat.le_refl _⟩
  by_cases c0 : q = a
  · rw [c0, h0] at hq
    cases hq
    rw [p1] at hp
    cases hp
  by_cases c1 : q = a + 1
  · rw [c1, h1] at hq
    cases hq
    rw [p2] at hp
    cases hp
  by_cases c2 : q = a + 2
  · rw [c2, h2] at hq
    cases hq
    rw [p2] at hp
    cases hp
  rw [k.1 q (by omega)]
  exact hq
/-- the kinds that binding leaves -/
def lb_kt : Nat → Bool := fun k => !(k == 1) && !(k == 2) && !(k == 100)
def lz_setT (T : Nat → List Int32) (i : Nat) (t : List Int32) : Nat → List Int32 := fun j => if j = i then t else T j
theorem c_bind {es : List Int32} {dp : Nat} {bq : Int32} {i : Nat} (hi : i < 8) (hw : lb_wk hs b T A wq L w) (hts : lb_ts hs b T w) (hl : lb_tx hs (b + 1) t es dp bq) (hg : lz_rd t 8 0 = (true, t.length)) (he : lz_EO t es 0 t.length)
    (k : ∀ hs2, lb_wk hs2 b (lz_setT T i t) A wq L (lz_fg (lz_setN w i (true, (w.1 i).2.1, (w.1 i).2.2))) → lb_ts hs2 b (lz_setT T i t) (lz_fg (lz_setN w i (true, (w.1 i).2.1, (w.1 i).2.2))) → lb_tx hs2 (b + 1) t es dp bq → mx_fr lb_kt hs hs2 → hs2.2 = hs.2 → Q none hs2) : mx_C mx_S0 l G (d + 2) mm_LBWorker_bind [.ref (b + 7), .int (nI i), .ref (b + 1)] hs Q := by
  have hnm := hw.name hi
  obtain ⟨es0, dp0, bp0, t0, -⟩ := hts i hi
  refine wp_LBWorker_bind_0 _ _ _ ⟨_, ⟨_, hw.at, rfl⟩, _, _, hw.2.1, nI_pos (by omega), by rw [nI_clamp (by omega)]; exact lb_names hi, _, ⟨_, hnm, rfl⟩, ⟨_, t0.at⟩, c_copyFrom t0 hl (by omega) (fun hs1 g1 g2 => ⟨rfl, ?_⟩)⟩
  have hw1 : lb_wk hs1 b T A wq L w := hw.kp g2 (by omega) (fun j hj => by omega) (by omega)
  have hl1 : lb_tx hs1 (b + 1) t es dp bq := hl.kp g2 (by omega)
  refine ⟨_, ⟨_, hw1.at, rfl⟩, _, _, hw1.2.1, nI_pos (by omega), by rw [nI_clamp (by omega)]; exact lb_names hi, _, hw1.name hi, fun hs2 e2 => ?_⟩
  have k2 : mx_kp hs1 hs2 (b + 9 + 4 * i) 1 := by
    rw [e2]
    exact mx_kp.st (by omega) (by omega)
  have hw2 : lb_wk hs2 b (lz_setT T i t) A wq L (lz_setN w i (true, (w.1 i).2.1, (w.1 i).2.2)) := by
    obtain ⟨q1, q2, q3, q4, q5, q6, q7, q8⟩ := hw1
    have hc := q3 i hi
    rw [e2]
    refine ⟨by rw [mx_st_ne _ _ (by omega)]; exact q1, by rw [mx_st_ne _ _ (by omega)]; exact q2, fun j hj => ?_, by rw [mx_st_ne _ _ (by omega)]; exact q4, q5, q6.out hc (by omega) (by omega) (by omega) (fun j hj => by have := q7 j hj; omega), q7, ⟨fun j hj => ?_, q8.2⟩⟩
    · by_cases hij : j = i
      · subst hij
        simp only [lz_setN, if_true]
        exact mx_st_eq _ _ _
      · simp only [lz_setN, if_neg hij]
        rw [mx_st_ne _ _ (by omega)]
        exact q3 j hj
    · by_cases hij : j = i
      · subst hij
        simp only [lz_setN, lz_setT, if_true]
        exact ⟨fun _ => hg, (q8.1 j hj).2⟩
      · simp only [lz_setN, lz_setT, if_neg hij]
        exact q8.1 j hj
  refine ⟨⟨_, hw2.at⟩, c_forgetValues hw2 (fun hs3 f1 f2 f3 => ⟨rfl, ?_⟩)⟩
  have hkeep : mx_fr lb_kt hs hs3 := by
    refine (t0.kpfr g2 rfl rfl).tr (mx_fr.tr ?_ (f2.mono ?_))
    · rw [e2]
      exact mx_fr.st (hw1.name hi) rfl
    · intro k' hk'
      unfold lb_kt at hk'
      unfold lb_kk
      simp only [Bool.and_eq_true] at hk'
      exact hk'.1.2
  refine k hs3 f1 (fun j hj => ?_) ((hl1.kp k2 (by omega)).fr f2 rfl rfl) hkeep (by rw [f3, k2.2, g2.2])
  by_cases hij : j = i
  · subst hij
    refine ⟨es, dp, bp0, ?_, fun _ => ?_⟩
    · simp only [lz_setT, if_true]
      exact (g1.kp k2 (by omega)).fr f2 rfl rfl
    · simp only [lz_setT, if_true]
      exact he
  · obtain ⟨es3, dp3, bp3, u1, u2⟩ := hts j hj
    refine ⟨es3, dp3, bp3, ?_, fun z => ?_⟩
    · simp only [lz_setT, if_neg hij]
      exact (((u1.kp g2 (by omega)).kp k2 (by omega))).fr f2 rfl rfl
    · simp only [lz_setT, if_neg hij]
      simp only [lz_fg, lz_setN, if_neg hij] at z
      exact u2 z
theorem c_unbind {i : Nat} (hi : i < 8) (hw : lb_wk hs b T A wq L w) (hts : lb_ts hs b T w)
    (k : ∀ hs2, lb_wk hs2 b T A wq L (lz_fg (lz_setN w i (false, (w.1 i).2.1, (w.1 i).2.2))) → lb_ts hs2 b T (lz_fg (lz_setN w i (false, (w.1 i).2.1, (w.1 i).2.2))) → mx_fr lb_kk hs hs2 → hs2.2 = hs.2 → Q none hs2) : mx_C mx_S0 l G (d + 2) mm_LBWorker_unbind [.ref (b + 7), .int (nI i)] hs Q := by
  have hnm := hw.name hi
  refine wp_LBWorker_unbind_0 _ _ ⟨_, ⟨_, hw.at, rfl⟩, _, _, hw.2.1, nI_pos (by omega), by rw [nI_clamp (by omega)]; exact lb_names hi, _, hnm, fun hs2 e2 => ?_⟩
  have hw2 : lb_wk hs2 b T A wq L (lz_setN w i (false, (w.1 i).2.1, (w.1 i).2.2)) := by
    rw [e2]
    exact hw.nset hi (x := (false, (w.1 i).2.1, (w.1 i).2.2)) ⟨fun z => (by cases z), (hw.ok.1 i hi).2⟩
  have fr2 : mx_fr lb_kk hs hs2 := by
    rw [e2]
    exact mx_fr.st hnm rfl
  refine ⟨⟨_, hw2.at⟩, c_forgetValues hw2 (fun hs3 f1 f2 f3 => ⟨rfl, k hs3 f1 (fun j hj => ?_) (fr2.tr f2) (by rw [f3, e2]; rfl)⟩)⟩
  obtain ⟨es3, dp3, bp3, u1, u2⟩ := hts j hj
  refine ⟨es3, dp3, bp3, u1.fr (fr2.tr f2) rfl rfl, fun z => ?_⟩
  by_cases hij : j = i
  · subst hij
    simp only [lz_fg, lz_setN, if_true] at z
    cases z
  · simp only [lz_fg, lz_setN, if_neg hij] at z
    exact u2 z
end CNM
