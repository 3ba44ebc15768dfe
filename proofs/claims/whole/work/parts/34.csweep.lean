/-! THE CLASS: collect. -/
def lz_mk1 (W : Nat → Bool) (v : Int64) : Nat → Bool := fun i => if lz_pl v = true ∧ i = lz_ix v then true else W i
def lz_mk (W : Nat → Bool) (vs : List Int64) : Nat → Bool := vs.foldl lz_mk1 W
/-- from the latest down: what is wanted wants its INPUTS, what isn't is BUILT no more -/
def lz_sw : Nat → (Nat → Bool) → lz_S → Nat × lz_S
  | 0, _, S => (0, S)
  | i + 1, W, S =>
    if W i = true then lz_sw i (lz_mk W (S.1 i).2.1) S
    else if (S.1 i).2.2.1 = true then ((lz_sw i W (lz_setP S i ((S.1 i).1, (S.1 i).2.1, false, 0, (S.1 i).2.2.2.2))).1 + 1, (lz_sw i W (lz_setP S i ((S.1 i).1, (S.1 i).2.1, false, 0, (S.1 i).2.2.2.2))).2)
    else lz_sw i W S
def so_collect (o : lz_O) : Int32 × lz_O :=
  (nI (lz_sw (lz_sz o) (fun i => ((lz_sto o).1 i).2.2.2.2) (lz_sto o)).1, (o.1, o.2.1, o.2.2.1, o.2.2.2.1, o.2.2.2.2.1, o.2.2.2.2.2.1, o.2.2.2.2.2.2.1, (lz_sw (lz_sz o) (fun i => ((lz_sto o).1 i).2.2.2.2) (lz_sto o)).2))
section CSW
variable {l : Launch} {G : mx_G} {d s b : Nat} {hs : mx_H} {Q : Option Value → mx_H → Prop} {A : Nat → Nat} {wq : Nat → Int32} {S : lz_S} {o : lz_O}
theorem lz_setP_id (S : lz_S) (i : Nat) : lz_setP S i (S.1 i) = S := by
  refine Prod.ext (funext fun j => ?_) rfl
  simp only [lz_setP]
  by_cases h : j = i
  · rw [if_pos h, h]
  · rw [if_neg h]
theorem c_wantInputs (h : lb_st hs s A wq S) {j : Nat} (hj : j < S.2.1) {W : Nat → Bool} (hW : ∀ i, i < S.2.1 → wq i = lz_b (W i)) (k : ∀ hs2 wq2, lb_st hs2 s A wq2 S → (∀ i, i < S.2.1 → wq2 i = lz_b (lz_mk W (S.1 j).2.1 i)) → mx_fr lb_kb hs hs2 → hs2.2 = hs.2 → Q none hs2) : mx_C mx_S0 l G (d + 3) mm_LBStore_wantInputs [.ref s, .ref (A j + 1)] hs Q := by
  have hn := h.ok.1
  obtain ⟨q1, q2, q3⟩ := h.ok.2.1 j hj
  have Lo : ∀ (n i : Nat) (hs1 : mx_H) (wq1 : Nat → Int32) (W1 : Nat → Bool), i + n = (S.1 j).2.1.length → lb_st hs1 s A wq1 S → (∀ q, q < S.2.1 → wq1 q = lz_b (W1 q)) → ((S.1 j).2.1.drop i).foldl lz_mk1 W1 = lz_mk W (S.1 j).2.1 → mx_fr lb_kb hs hs1 → hs1.2 = hs.2 → mx_Ok mx_S0 l G (d + 3) mm_LBStore_wantInputs 2 [(0, .ref s), (1, .ref (A j + 1)), (2, .int (nI i))] [] hs1 Q := by
    intro n
    induction n with
    | zero =>
      intro i hs1 wq1 W1 hi h1 hW1 hf fr hz
      obtain ⟨p1, p2⟩ := h1.plan hj
      refine wp_LBStore_wantInputs_2 _ _ _ ⟨_, ⟨_, p1, rfl⟩, _, p2, fun _ => ?_, fun c => absurd ?_ c⟩
      · rw [List.drop_eq_nil_of_le (by omega)] at hf
        refine k hs1 wq1 h1 (fun q hq => ?_) fr hz
        rw [← hf]
        exact hW1 q hq
      · rw [List.length_map]
        exact nI_le (by omega) (by omega)
    | succ n ih =>
      intro i hs1 wq1 W1 hi h1 hW1 hf fr hz
      obtain ⟨p1, p2⟩ := h1.plan hj
      have hlt : i < (S.1 j).2.1.length := by omega
      have hv : (S.1 j).2.1[i]? = some ((S.1 j).2.1[i]) := List.getElem?_eq_getElem hlt
      have hvV := q2 _ (List.getElem_mem hlt)
      obtain ⟨v, ev⟩ : ∃ v, v = (S.1 j).2.1[i] := ⟨_, rfl⟩
      rw [← ev] at hv hvV
      rw [lz_drop hv] at hf
      have hnext : ∀ (hs2 : mx_H) (wq2 : Nat → Int32), lb_st hs2 s A wq2 S → (∀ q, q < S.2.1 → wq2 q = lz_b (lz_mk1 W1 v q)) → mx_fr lb_kb hs hs2 → hs2.2 = hs.2 → mx_Ok mx_S0 l G (d + 3) mm_LBStore_wantInputs 31 [(0, .ref s), (1, .ref (A j + 1)), (2, .int (nI i))] [] hs2 Q := by
        intro hs2 wq2 g1 g2 g3 g4
        refine wp_LBStore_wantInputs_31 _ _ _ ?_
        rw [nI_1]
        exact ih (i + 1) hs2 wq2 (lz_mk1 W1 v) (by omega) g1 g2 hf g3 g4
      refine wp_LBStore_wantInputs_2 _ _ _ ⟨_, ⟨_, p1, rfl⟩, _, p2, fun c => absurd c ?_, fun _ => ⟨_, ⟨_, p1, rfl⟩, _, _, p2, nI_pos (by omega), by rw [nI_clamp (by omega)]; exact lz_longs hv, ⟨_, h1.at⟩, c_planIn h1 (hvV.mono (by omega)) (fun x e => ⟨_, rfl, Or.inl rfl, fun _ => ?_, fun _ e => by cases e⟩) (fun m hm e => ⟨_, rfl, Or.inr ⟨_, rfl⟩, fun e => (by cases e), fun a ea => ?_⟩)⟩⟩
      · rw [List.length_map]
        exact nI_ge (by omega) (by omega)
      · refine hnext hs1 wq1 h1 (fun q hq => ?_) fr hz
        rw [hW1 q hq]
        unfold lz_mk1
        rw [if_neg (by rw [e, lz_n_pl]; rintro ⟨z, -⟩; cases z)]
      · cases ea
        obtain ⟨m1, m2⟩ := h1.plan hm
        refine ⟨_, m1, fun hs2 e2 => ?_⟩
        have hS := h1.upd hm (p := S.1 m) (w := 1) rfl (h1.ok.2.1 m hm)
        rw [lz_setP_id] at hS
        have e3 : hs2 = mx_st hs1 (A m + 1) (lb_pc (A m) (S.1 m) 1) := e2
        rw [← e3] at hS
        refine hnext hs2 _ hS (fun q hq => ?_) (fr.tr (by rw [e3]; exact mx_fr.st m1 rfl)) (by rw [e3]; exact hz)
        unfold lz_mk1
        rw [e, lz_pv_pl (by omega), lz_pv_ix (by omega)]
        by_cases hqm : q = m
        · simp [hqm, lz_b]
        · simp [hqm]
          exact hW1 q hq
  exact wp_LBStore_wantInputs_0 _ _ (Lo _ 0 hs wq W (Nat.zero_add _) h hW rfl mx_fr.rf rfl)
theorem lz_sw_le : ∀ (n : Nat) (W : Nat → Bool) (S : lz_S), (lz_sw n W S).1 ≤ n := by
  intro n
  induction n with
  | zero => exact fun _ _ => Nat.le_refl _
  | succ n ih =>
    intro W S
    unfold lz_sw
    split
    · exact Nat.le_succ_of_le (ih _ _)
    split
    · exact Nat.succ_le_succ (ih _ _)
    · exact Nat.le_succ_of_le (ih _ _)
theorem c_sweep (h : lb_st hs s A wq S) (k : ∀ hs2 wq2, lb_st hs2 s A wq2 (lz_sw S.2.1 (fun i => (S.1 i).2.2.2.2) S).2 → (lz_sw S.2.1 (fun i => (S.1 i).2.2.2.2) S).2.2.1 = S.2.1 → mx_fr lb_kb hs hs2 → hs2.2 = hs.2 → Q (some (.int (nI (lz_sw S.2.1 (fun i => (S.1 i).2.2.2.2) S).1))) hs2) : mx_C mx_S0 l G (d + 4) mm_LBStore_sweep [.ref s] hs Q := by
  have hn := h.ok.1
  -- the second loop
  have L2 : ∀ (i : Nat) (c : Nat) (hs1 : mx_H) (wq1 : Nat → Int32) (W1 : Nat → Bool) (S1 : lz_S), i ≤ S.2.1 → S1.2.1 = S.2.1 → c ≤ 60 → lb_st hs1 s A wq1 S1 → (∀ q, q < S.2.1 → wq1 q = lz_b (W1 q)) → (lz_sw S.2.1 (fun i => (S.1 i).2.2.2.2) S).1 = c + (lz_sw i W1 S1).1 → (lz_sw S.2.1 (fun i => (S.1 i).2.2.2.2) S).2 = (lz_sw i W1 S1).2 → mx_fr lb_kb hs hs1 → hs1.2 = hs.2 → mx_Ok mx_S0 l G (d + 4) mm_LBStore_sweep 43 [(0, .ref s), (1, .int (nI c)), (2, .int (nI i - 1))] [] hs1 Q := by
    intro i
    induction i with
    | zero =>
      intro c hs1 wq1 W1 S1 hi e1 hc h1 hW1 f1 f2 fr hz
      refine wp_LBStore_sweep_43 _ _ _ ⟨fun _ => ?_, fun z => absurd (by decide) z⟩
      simp only [lz_sw, Nat.add_zero] at f1 f2
      rw [f1, f2] at k
      exact k hs1 wq1 h1 e1 fr hz
    | succ i ih =>
      intro c hs1 wq1 W1 S1 hi e1 hc h1 hW1 f1 f2 fr hz
      rw [nI_pred]
      have hi1 : i < S1.2.1 := by omega
      obtain ⟨ps, g2, g3, g4⟩ := h1.2.1
      obtain ⟨p1, p2⟩ := h1.plan hi1
      have hnext : ∀ (c' : Nat) (hs2 : mx_H) (wq2 : Nat → Int32) (W2 : Nat → Bool) (S2 : lz_S), S2.2.1 = S.2.1 → c' ≤ 60 → lb_st hs2 s A wq2 S2 → (∀ q, q < S.2.1 → wq2 q = lz_b (W2 q)) → (lz_sw S.2.1 (fun i => (S.1 i).2.2.2.2) S).1 = c' + (lz_sw i W2 S2).1 → (lz_sw S.2.1 (fun i => (S.1 i).2.2.2.2) S).2 = (lz_sw i W2 S2).2 → mx_fr lb_kb hs hs2 → hs2.2 = hs.2 → mx_Ok mx_S0 l G (d + 4) mm_LBStore_sweep 107 [(0, .ref s), (1, .int (nI c')), (2, .int (nI i))] [] hs2 Q := by
        intro c' hs2 wq2 W2 S2 v1 v2 v3 v4 v5 v6 v7 v8
        refine wp_LBStore_sweep_107 _ _ _ ?_
        rw [← Int32.sub_eq_add_neg]
        exact ih c' hs2 wq2 W2 S2 (by omega) v1 v2 v3 v4 v5 v6 v7 v8
      have arr : ∀ {hs9 : mx_H}, hs9.1 (s + 1) = hs1.1 (s + 1) → hs9.1 (s + 1) = some (113, ps) := fun e => e.trans g2
      have gi : ps[Int32.toNatClampNeg (nI i)]? = some (.ref (A i + 1)) := by rw [nI_clamp (by omega)]; exact g4 i hi1
      refine wp_LBStore_sweep_43 _ _ _ ⟨fun z => absurd z (nI_pos (by omega)), fun _ => ⟨_, ⟨_, h1.at, rfl⟩, _, _, g2, nI_pos (by omega), gi, _, ⟨_, p1, rfl⟩, fun z => ⟨_, ⟨_, h1.at, rfl⟩, _, _, g2, nI_pos (by omega), gi, _, ⟨_, p1, rfl⟩, fun y => ?_, fun y => ⟨_, ⟨_, h1.at, rfl⟩, _, _, g2, nI_pos (by omega), gi, _, p1, fun hs2 e2 => ?_⟩⟩, fun z => ⟨_, ⟨_, h1.at, rfl⟩, _, _, g2, nI_pos (by omega), gi, ⟨_, h1.at⟩, ?_⟩⟩⟩
      · rw [hW1 i (by omega)] at z
        rw [lz_sw] at f1 f2
        rw [if_neg (by rw [lz_b0.mp z]; decide), if_neg (by rw [lz_b0.mp y]; decide)] at f1 f2
        exact hnext c hs1 wq1 W1 S1 e1 hc h1 hW1 f1 f2 fr hz
      · rw [hW1 i (by omega)] at z
        rw [lz_sw] at f1 f2
        rw [if_neg (by rw [lz_b0.mp z]; decide), if_pos (lz_b1.mp y)] at f1 f2
        have hA := h1.2.2.2.2.1 i hi1
        have a2 : hs2.1 s = hs1.1 s := by rw [e2, mx_st_ne _ _ (by omega)]
        have b2 : hs2.1 (s + 1) = hs1.1 (s + 1) := by rw [e2, mx_st_ne _ _ (by omega)]
        refine ⟨_, ⟨_, a2.trans h1.at, rfl⟩, _, _, arr b2, nI_pos (by omega), gi, _, by rw [e2]; exact mx_st_eq _ _ _, fun hs3 e3 => ?_⟩
        have e4 : hs3 = mx_st hs1 (A i + 1) (lb_pc (A i) ((S1.1 i).1, (S1.1 i).2.1, false, 0, (S1.1 i).2.2.2.2) (wq1 i)) := by
          rw [e3, e2, mx_st_st]
          rfl
        have ok := h1.ok.2.1 i hi1
        have hS := h1.upd hi1 (p := ((S1.1 i).1, (S1.1 i).2.1, false, 0, (S1.1 i).2.2.2.2)) (w := wq1 i) rfl ⟨ok.1, ok.2.1, ok.2.2.1, fun _ => rfl⟩
        rw [lz_wq, ← e4] at hS
        rw [nI_1]
        exact hnext (c + 1) hs3 wq1 W1 (lz_setP S1 i ((S1.1 i).1, (S1.1 i).2.1, false, 0, (S1.1 i).2.2.2.2)) e1 (by have := lz_sw_le S.2.1 (fun i => (S.1 i).2.2.2.2) S; omega) hS hW1 (by rw [f1]; omega) f2 (fr.tr (by rw [e4]; exact mx_fr.st p1 rfl)) (by rw [e4]; exact hz)
      · rw [hW1 i (by omega)] at z
        rw [lz_sw] at f1 f2
        rw [if_pos (lz_b1.mp z)] at f1 f2
        refine c_wantInputs h1 hi1 (W := W1) (fun q hq => hW1 q (by omega)) (fun hs2 wq2 v1 v2 v3 v4 => ⟨rfl, ?_⟩)
        exact hnext c hs2 wq2 _ S1 e1 hc v1 (fun q hq => v2 q (by omega)) f1 f2 (fr.tr v3) (v4.trans hz)
  -- the first loop
  have L1 : ∀ (n i : Nat) (hs1 : mx_H) (wq1 : Nat → Int32), i + n = S.2.1 → lb_st hs1 s A wq1 S → (∀ q, q < i → wq1 q = lz_b (S.1 q).2.2.2.2) → mx_fr lb_kb hs hs1 → hs1.2 = hs.2 → mx_Ok mx_S0 l G (d + 4) mm_LBStore_sweep 2 [(0, .ref s), (1, .int (nI i))] [] hs1 Q := by
    intro n
    induction n with
    | zero =>
      intro i hs1 wq1 hi h1 hw fr hz
      refine wp_LBStore_sweep_2 _ _ ⟨_, ⟨_, h1.at, rfl⟩, fun _ => ⟨_, ⟨_, h1.at, rfl⟩, ?_⟩, fun c => absurd (nI_le (by omega) (by omega)) c⟩
      exact L2 S.2.1 0 hs1 wq1 (fun i => (S.1 i).2.2.2.2) S (Nat.le_refl _) rfl (by omega) h1 (fun q hq => hw q (by omega)) (by rw [Nat.zero_add]) rfl fr hz
    | succ n ih =>
      intro i hs1 wq1 hi h1 hw fr hz
      have hi1 : i < S.2.1 := by omega
      obtain ⟨ps, g2, g3, g4⟩ := h1.2.1
      obtain ⟨p1, p2⟩ := h1.plan hi1
      have gi : ps[Int32.toNatClampNeg (nI i)]? = some (.ref (A i + 1)) := by rw [nI_clamp (by omega)]; exact g4 i hi1
      refine wp_LBStore_sweep_2 _ _ ⟨_, ⟨_, h1.at, rfl⟩, fun c => absurd c (nI_ge (by omega) (by omega)), fun _ => ⟨_, ⟨_, h1.at, rfl⟩, _, _, g2, nI_pos (by omega), gi, _, ⟨_, h1.at, rfl⟩, _, _, g2, nI_pos (by omega), gi, _, ⟨_, p1, rfl⟩, lz_b01 _, _, p1, fun hs2 e2 => ?_⟩⟩
      have hS := h1.upd hi1 (p := S.1 i) (w := lz_b (S.1 i).2.2.2.2) rfl (h1.ok.2.1 i hi1)
      rw [lz_setP_id] at hS
      have e3 : hs2 = mx_st hs1 (A i + 1) (lb_pc (A i) (S.1 i) (lz_b (S.1 i).2.2.2.2)) := e2
      rw [← e3] at hS
      rw [nI_1]
      refine ih (i + 1) hs2 _ (by omega) hS (fun q hq => ?_) (fr.tr (by rw [e3]; exact mx_fr.st p1 rfl)) (by rw [e3]; exact hz)
      by_cases hqi : q = i
      · simp [hqi]
      · simp [hqi]
        exact hw q (by omega)
  exact wp_LBStore_sweep_0 _ (L1 _ 0 hs wq (Nat.zero_add _) h (fun q hq => absurd hq (Nat.not_lt_zero q)) mx_fr.rf rfl)
theorem c_collect (h : lb_ob hs b o) (k : ∀ hs2, lb_R hs b o (so_collect o).2 hs2 → Q (some (.int (so_collect o).1)) hs2) : mx_C mx_S0 l G (d + 5) mm_LB_collect [.ref b] hs Q := by
  have hh := h
  obtain ⟨A, wq, L, es0, dp0, bq0, h1, h2, h3, h4, h5, h6, h7⟩ := h
  refine wp_LB_collect_0 _ ⟨_, ⟨_, h1, rfl⟩, ⟨_, h3.sto.at⟩, c_sweep h3.sto (fun hs2 wq2 g1 g2 g3 g4 => ⟨_, rfl, k hs2 (hh.sto h3 g3 g4 g1 g2).1⟩)⟩
end CSW
