/-! THE CLASS's object: line, latest bad place, what was shown, the names' texts, the working state. -/
abbrev lz_O : Type := List Int32 × Int32 × Int64 × (Nat → List Int32) × lz_W
def lb_ob (hs : mx_H) (b : Nat) (o : lz_O) : Prop := ∃ (A : Nat → Nat) (wq : Nat → Int32) (L : List Int64) (es : List Int32) (dp : Nat) (bq : Int32),
  hs.1 b = some (0, [.ref (b + 1), .ref (b + 4), .ref (b + 7), .long o.2.2.1, .int o.2.1]) ∧ lb_tx hs (b + 1) o.1 es dp bq ∧ lb_wk hs b o.2.2.2.1 A wq L o.2.2.2.2 ∧ lb_ts hs b o.2.2.2.1 o.2.2.2.2 ∧ (∀ i, i < 8 → (o.2.2.2.2.1 i).2.1 = false) ∧ o.2.2.2.2.2.1 ≤ 200 ∧ o.2.2.2.2.2.2.1 ≤ 230
/-- the kinds that are not the class's -/
def lb_k0 : Nat → Bool := fun k => !(Nat.blt k 6) && !(k == 100) && !(k == 102) && !(k == 112) && !(k == 113)
def lz_sz (o : lz_O) : Nat := o.2.2.2.2.2.2.2.2.1
/-- behind a call -/
def lb_R (hs : mx_H) (b : Nat) (o o2 : lz_O) (hs2 : mx_H) : Prop := lb_ob hs2 b o2 ∧ mx_fr lb_k0 hs hs2 ∧ hs2.2.1 = hs.2.1 + 2 * (lz_sz o2 - lz_sz o) ∧ hs2.2.2 ≤ hs.2.2 + 10 * (lz_sz o2 - lz_sz o)
theorem lb_R.rf {hs : mx_H} {b : Nat} {o : lz_O} (h : lb_ob hs b o) : lb_R hs b o o hs := ⟨h, mx_fr.rf, by simp, by simp⟩
def so_type (c : Int32) (o : lz_O) : Int32 × lz_O := if lz_bl c = false then (-1, o) else if 24 ≤ o.1.length then (-2, o) else (nI (o.1.length + 1), (o.1 ++ [c], o.2))
def so_by (e : Int64) (n : Nat) : Int32 := (Int64.toInt32 ((Int64.toUInt64 e >>> ((Int32.toInt64 (nI (8 * n))).toUInt64 &&& Int64.toUInt64 63)).toInt64)) &&& 255
def so_types (e : Int64) : Nat → lz_O → Int32 × lz_O
  | 0, o => (nI o.1.length, o)
  | n + 1, o => if so_by e n = 0 then so_types e n o else if (so_type (so_by e n) o).1 < 0 then so_type (so_by e n) o else so_types e n (so_type (so_by e n) o).2
def so_ans (v : Int64) (w : lz_W) : Int32 × lz_W := if lz_bad v = true then (Int64.toInt32 (v - (-1000000000000)), (w.1, w.2.1, w.2.2.1 + 1, w.2.2.2)) else (0, w)
def so_no (x : Int32) : Bool := decide (x < 0) || decide (8 ≤ x)
def so_define (x : Int32) (o : lz_O) : Int32 × lz_O :=
  if so_no x = true then (-1, o)
  else if (lz_line o.1).1 = false then (-3, ([], nI (lz_line o.1).2, o.2.2))
  else (nI (lz_line o.1).2, ([], o.2.1, o.2.2.1, lz_setT o.2.2.2.1 x.toNatClampNeg o.1, lz_fg (lz_setN o.2.2.2.2 x.toNatClampNeg (true, (o.2.2.2.2.1 x.toNatClampNeg).2.1, (o.2.2.2.2.1 x.toNatClampNeg).2.2))))
def so_undefine (x : Int32) (o : lz_O) : Int32 × lz_O :=
  if so_no x = true then (-1, o)
  else if (o.2.2.2.2.1 x.toNatClampNeg).1 = false then (-1, o)
  else (0, (o.1, o.2.1, o.2.2.1, o.2.2.2.1, lz_fg (lz_setN o.2.2.2.2 x.toNatClampNeg (false, (o.2.2.2.2.1 x.toNatClampNeg).2.1, (o.2.2.2.2.1 x.toNatClampNeg).2.2))))
def so_force (x : Int32) (o : lz_O) : Int32 × lz_O :=
  if so_no x = true then (-1, o)
  else if 30 ≤ o.2.2.2.2.2.2.1 then (-11, o)
  else
    let r := lz_name (lz_ev o.2.2.2.1 200) o.2.2.2.1 x.toNatClampNeg (o.2.2.2.2.1, 1, o.2.2.2.2.2.2)
    ((so_ans r.1 r.2).1, (o.1, o.2.1, o.2.2.1, o.2.2.2.1, (so_ans r.1 r.2).2))
def so_show (o : lz_O) : Int32 × lz_O :=
  if (lz_line o.1).1 = false then (-3, ([], nI (lz_line o.1).2, o.2.2))
  else if 30 ≤ o.2.2.2.2.2.2.1 then (-11, ([], o.2))
  else
    let r := lz_ev o.2.2.2.1 200 o.1 0 (o.2.2.2.2.1, 0, o.2.2.2.2.2.2)
    ((so_ans r.1 r.2).1, ([], o.2.1, (if lz_bad r.1 = true then o.2.2.1 else r.1), o.2.2.2.1, (so_ans r.1 r.2).2))
def so_value (x : Int32) (o : lz_O) : Int64 := if x = 8 then o.2.2.1 else if so_no x = true then -1000000000000 else (o.2.2.2.2.1 x.toNatClampNeg).2.2
section COB
variable {l : Launch} {G : mx_G} {d b : Nat} {hs : mx_H} {Q : Option Value → mx_H → Prop} {o : lz_O}
theorem so_no_f {x : Int32} {j : Nat} (hj : j < 8) (h : x = nI j) : so_no x = false := by
  subst h
  unfold so_no
  rw [decide_eq_false (nI_pos (by omega)), decide_eq_false (show ¬ (8 : Int32) ≤ nI j from fun z => nI_ge (a := j) (b := 8) hj (by omega) z)]
  rfl
theorem so_no_t {x : Int32} (h : x < 0 ∨ 8 ≤ x) : so_no x = true := by
  unfold so_no
  rcases h with h | h
  · rw [decide_eq_true h]
    rfl
  · rw [decide_eq_true h]
    simp
/-- the line's Text is changed -/
theorem lb_ob.line (h : lb_ob hs b o) {hs2 : mx_H} {t es : List Int32} {dp : Nat} {bq : Int32} (k : mx_kp hs hs2 (b + 1) 3) (ht : lb_tx hs2 (b + 1) t es dp bq) : lb_R hs b o (t, o.2) hs2 := by
  obtain ⟨A, wq, L, es0, dp0, bq0, h1, h2, h3, h4, h5, h6, h7⟩ := h
  have fr : mx_fr lb_k0 hs hs2 := h2.kpfr k rfl rfl
  refine ⟨⟨A, wq, L, es, dp, bq, (k.1 _ (by omega)).trans h1, ht, h3.kp k (by omega) (fun i hi => by omega) (by omega), fun i hi => ?_, h5, h6, h7⟩, fr, by rw [k.2]; show _ = hs.2.1 + 2 * (lz_sz o - lz_sz o); omega, by rw [k.2]; exact Nat.le_add_right _ _⟩
  obtain ⟨es3, dp3, bp3, u1, u2⟩ := h4 i hi
  exact ⟨es3, dp3, bp3, u1.kp k (by omega), u2⟩
theorem c_type {c : Int32} (h : lb_ob hs b o) (k : ∀ hs2, lb_R hs b o (so_type c o).2 hs2 → Q (some (.int (so_type c o).1)) hs2) : mx_C mx_S0 l G (d + 4) mm_LB_type [.ref b, .int c] hs Q := by
  have hR := lb_R.rf h
  have hh := h
  obtain ⟨A, wq, L, es, dp, bq, h1, h2, h3⟩ := h
  have hlen := h2.len.1
  unfold so_type at k
  refine wp_LB_type_0 _ _ ⟨_, ⟨_, h1, rfl⟩, ⟨_, h2.at⟩, c_append h2 (fun z => ⟨_, rfl, ?_⟩) (fun z y => ⟨_, rfl, ?_⟩) (fun z y hs2 g1 g2 => ⟨_, rfl, ?_⟩)⟩
  · rw [if_pos z] at k
    exact k hs hR
  · rw [if_neg (by rw [z]; decide), if_pos (by omega)] at k
    exact k hs hR
  · rw [if_neg (by rw [z]; decide), if_neg (by omega)] at k
    exact k hs2 (hh.line g2 g1)
theorem c_value {x : Int32} (h : lb_ob hs b o) (k : Q (some (.long (so_value x o))) hs) : mx_C mx_S0 l G (d + 2) mm_LB_value [.ref b, .int x] hs Q := by
  obtain ⟨A, wq, L, es, dp, bq, h1, h2, h3, -⟩ := h
  unfold so_value at k
  refine wp_LB_value_0 _ _ ⟨fun z => ?_, fun z => ?_⟩
  · rw [if_neg z] at k
    refine c_isNameNumber (fun j hj e => ⟨_, rfl, fun y => absurd y (by decide), fun _ => ?_⟩) (fun y => ⟨_, rfl, fun _ => ?_, fun y2 => absurd rfl y2⟩)
    · subst e
      rw [if_neg (by rw [so_no_f hj rfl]; decide), nI_clamp (by omega)] at k
      exact ⟨_, ⟨_, h1, rfl⟩, _, ⟨_, h3.at, rfl⟩, _, _, h3.2.1, nI_pos (by omega), by rw [nI_clamp (by omega)]; exact lb_names hj, _, ⟨_, h3.name hj, rfl⟩, k⟩
    · rw [if_pos (so_no_t y)] at k
      exact k
  · rw [if_pos (Decidable.not_not.mp z)] at k
    exact ⟨_, ⟨_, h1, rfl⟩, k⟩
/-- the object's own numbers are changed -/
theorem lb_ob.own (h : lb_ob hs b o) {hs2 : mx_H} (v : Int64) (x : Int32) (e : hs2 = mx_st hs b (0, [.ref (b + 1), .ref (b + 4), .ref (b + 7), .long v, .int x])) : lb_R hs b o (o.1, x, v, o.2.2.2) hs2 := by
  obtain ⟨A, wq, L, es0, dp0, bq0, h1, h2, h3, h4, h5, h6, h7⟩ := h
  have k : mx_kp hs hs2 b 1 := by
    rw [e]
    exact mx_kp.st (Nat.le_refl _) (by omega)
  have fr : mx_fr lb_k0 hs hs2 := by
    rw [e]
    exact mx_fr.st h1 rfl
  refine ⟨⟨A, wq, L, es0, dp0, bq0, by rw [e]; exact mx_st_eq _ _ _, h2.kp k (by omega), h3.kp k (by omega) (fun i hi => by omega) (by omega), fun i hi => ?_, h5, h6, h7⟩, fr, by rw [k.2]; show _ = hs.2.1 + 2 * (lz_sz o - lz_sz o); omega, by rw [k.2]; exact Nat.le_add_right _ _⟩
  obtain ⟨es3, dp3, bp3, u1, u2⟩ := h4 i hi
  exact ⟨es3, dp3, bp3, u1.kp k (by omega), u2⟩
theorem lb_R.tr {o1 o2 : lz_O} {hs1 hs2 : mx_H} (h : lb_R hs b o o1 hs1) (k : lb_R hs1 b o1 o2 hs2) (m1 : lz_sz o ≤ lz_sz o1) (m2 : lz_sz o1 ≤ lz_sz o2) : lb_R hs b o o2 hs2 := by
  obtain ⟨-, h2, h3, h4⟩ := h
  obtain ⟨k1, k2, k3, k4⟩ := k
  exact ⟨k1, h2.tr k2, by omega, by omega⟩
theorem lb_ob.at (h : lb_ob hs b o) : hs.1 b = some (0, [.ref (b + 1), .ref (b + 4), .ref (b + 7), .long o.2.2.1, .int o.2.1]) := by
  obtain ⟨A, wq, L, es, dp, bq, h1, -⟩ := h
  exact h1
theorem lb_ob.tx (h : lb_ob hs b o) : ∃ es dp bq, lb_tx hs (b + 1) o.1 es dp bq := by
  obtain ⟨A, wq, L, es, dp, bq, -, h2, -⟩ := h
  exact ⟨es, dp, bq, h2⟩
theorem c_clearL (h : lb_ob hs b o) (k : ∀ hs2, lb_R hs b o ([], o.2) hs2 → Q none hs2) : mx_C mx_S0 l G (d + 1) mm_LBText_clear [.ref (b + 1)] hs Q := by
  obtain ⟨es, dp, bq, h2⟩ := h.tx
  exact c_clear h2 (fun hs2 g1 g2 => k hs2 (h.line g2 g1))
theorem c_types {e : Int64} (h : lb_ob hs b o) (k : ∀ hs2, lb_R hs b o (so_types e 8 o).2 hs2 → Q (some (.int (so_types e 8 o).1)) hs2) : mx_C mx_S0 l G (d + 4) mm_LB_types [.ref b, .long e] hs Q := by
  have W : ∀ (n : Nat) (hs1 : mx_H) (o1 : lz_O), n ≤ 8 → lb_R hs b o o1 hs1 → lz_sz o1 = lz_sz o → so_types e n o1 = so_types e 8 o → mx_Ok mx_S0 l G (d + 4) mm_LB_types 3 [(0, .ref b), (1, .long e), (3, .int (nI (8 * n) - 8))] [] hs1 Q := by
    intro n
    induction n with
    | zero =>
      intro hs1 o1 hn h1 hsz ho
      refine wp_LB_types_3 _ _ _ ⟨fun _ => ?_, fun c => absurd (by decide) c⟩
      obtain ⟨es, dp, bq, h2⟩ := h1.1.tx
      refine ⟨_, ⟨_, h1.1.at, rfl⟩, _, ⟨_, h2.at, rfl⟩, ?_⟩
      rw [← ho] at k
      exact k hs1 h1
    | succ n ih =>
      intro hs1 o1 hn h1 hsz ho
      have e8 : nI (8 * (n + 1)) - 8 = nI (8 * n) := by
        rw [show 8 * (n + 1) = 8 * n + 8 by omega]
        exact pk_sub (a := 8 * n + 8) (b := 8) (by omega)
      rw [e8]
      have em : nI (8 * n) + (-8) = nI (8 * n) - 8 := by
        rw [Int32.sub_eq_add_neg]
      have hnext : ∀ (hs2 : mx_H) (o2 : lz_O), lb_R hs b o o2 hs2 → lz_sz o2 = lz_sz o → so_types e n o2 = so_types e 8 o → mx_Ok mx_S0 l G (d + 4) mm_LB_types 41 [(0, .ref b), (1, .long e), (3, .int (nI (8 * n)))] [] hs2 Q := by
        intro hs2 o2 g1 g2 g3
        refine wp_LB_types_41 _ _ _ ?_
        rw [em]
        exact ih hs2 o2 (by omega) g1 g2 g3
      rw [so_types] at ho
      refine wp_LB_types_3 _ _ _ ⟨fun c => absurd c (nI_pos (by omega)), fun _ => ⟨fun z => ?_, fun z => ?_⟩⟩
      · rw [if_pos (show so_by e n = 0 from z)] at ho
        exact hnext hs1 o1 h1 hsz ho
      · rw [if_neg (show ¬ so_by e n = 0 from z)] at ho
        obtain ⟨es, dp, bq, h2⟩ := h1.1.tx
        have hlen := h2.len.1
        refine ⟨_, ⟨_, h1.1.at, rfl⟩, ⟨_, h2.at⟩, ?_⟩
        have ht : ∀ hs2, lb_R hs1 b o1 (so_type (so_by e n) o1).2 hs2 → lz_sz (so_type (so_by e n) o1).2 = lz_sz o1 → (0 ≤ (so_type (so_by e n) o1).1 → mx_Ok mx_S0 l G (d + 4) mm_LB_types 41 [(0, .ref b), (1, .long e), (3, .int (nI (8 * n)))] [] hs2 Q) ∧ (¬ 0 ≤ (so_type (so_by e n) o1).1 → Q (some (.int (so_type (so_by e n) o1).1)) hs2) := by
          intro hs2 g1 g2
          refine ⟨fun y => ?_, fun y => ?_⟩
          · rw [if_neg (Int32.not_lt.mpr y)] at ho
            exact hnext hs2 _ (h1.tr g1 (Nat.le_of_eq hsz.symm) (Nat.le_of_eq g2.symm)) (g2.trans hsz) ho
          · rw [if_pos (Int32.not_le.mp y)] at ho
            rw [← ho] at k
            exact k hs2 (h1.tr g1 (Nat.le_of_eq hsz.symm) (Nat.le_of_eq g2.symm))
        unfold so_type at ht
        refine c_append h2 (fun x => ⟨_, rfl, ?_⟩) (fun x y => ⟨_, rfl, ?_⟩) (fun x y hs2 g1 g2 => ⟨_, rfl, ?_⟩)
        · rw [if_pos (show lz_bl (so_by e n) = false from x)] at ht
          exact ht hs1 (lb_R.rf h1.1) rfl
        · rw [if_neg (show ¬ lz_bl (so_by e n) = false by rw [show lz_bl (so_by e n) = true from x]; decide), if_pos (by omega)] at ht
          exact ht hs1 (lb_R.rf h1.1) rfl
        · rw [if_neg (show ¬ lz_bl (so_by e n) = false by rw [show lz_bl (so_by e n) = true from x]; decide), if_neg (by omega)] at ht
          exact ht hs2 (h1.1.line g2 g1) rfl
  exact wp_LB_types_0 _ _ (W 8 hs o (Nat.le_refl _) (lb_R.rf h) rfl rfl)
theorem c_readLine (hd : 28 ≤ d) (h : lb_ob hs b o)
    (k1 : ∀ hs2 es dp bq, (lz_line o.1).1 = true → lb_ob hs2 b o → lb_R hs b o o hs2 → lb_tx hs2 (b + 1) o.1 es (lz_line o.1).2 bq → lz_rd o.1 8 0 = (true, o.1.length) → lz_EO o.1 es 0 o.1.length → dp = (lz_line o.1).2 → Q (some (.int 1)) hs2)
    (k0 : ∀ hs2, (lz_line o.1).1 = false → lb_R hs b o ([], nI (lz_line o.1).2, o.2.2) hs2 → Q (some (.int 0)) hs2) : mx_C mx_S0 l G d mm_LB_readLine [.ref b] hs Q := by
  obtain ⟨d, rfl⟩ : ∃ d', d = d' + 28 := ⟨d - 28, by omega⟩
  obtain ⟨es, dp, bq, h2⟩ := h.tx
  refine wp_LB_readLine_0 _ ⟨_, ⟨_, h.at, rfl⟩, ⟨_, h2.at⟩, c_read (d := d + 27) (by omega) h2 (fun hs2 es2 bp2 z g1 g2 g3 g4 => ⟨_, rfl, fun y => absurd y (by decide), fun _ => ?_⟩) (fun hs2 es2 D2 z g1 g2 => ⟨_, rfl, fun _ => ?_, fun y => absurd rfl y⟩)⟩
  · have R := h.line g2 g1
    exact k1 hs2 es2 _ bp2 z R.1 R g1 g3 g4 rfl
  · have R := h.line g2 g1
    refine ⟨_, ⟨_, R.1.at, rfl⟩, _, ⟨_, g1.at, rfl⟩, _, R.1.at, fun hs3 e3 => ?_⟩
    have R3 := R.1.own _ _ e3
    refine ⟨_, ⟨_, R3.1.at, rfl⟩, ?_⟩
    obtain ⟨es3, dp3, bq3, h3⟩ := R3.1.tx
    refine ⟨⟨_, h3.at⟩, c_clearL R3.1 (fun hs4 R4 => ⟨rfl, k0 hs4 z ?_⟩)⟩
    exact (R.tr R3 (Nat.le_refl _) (Nat.le_refl _)).tr R4 (Nat.le_refl _) (Nat.le_refl _)
end COB
