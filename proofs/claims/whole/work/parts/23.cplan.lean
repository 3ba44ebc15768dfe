/-! THE CLASS: the PLAN of a D. -/
section CPL
variable {l : Launch} {G : mx_G} {d s : Nat} {hs : mx_H} {Q : Option Value → mx_H → Prop} {A : Nat → Nat} {wq : Nat → Int32} {S : lz_S}
theorem c_isAlike (h : lb_st hs s A wq S) {j r F n : Nat} (hj : j < S.2.1) {L : List Int64} (hr : hs.1 r = some (102, L.map Value.long)) (hF : F + n ≤ L.length) (hL : L.length < 2 ^ 30) {mk : Int32} (k : Q (some (.int (lz_b (lz_al S mk ((L.drop F).take n) j)))) hs) : mx_C mx_S0 l G (d + 1) mm_LBPlan_isAlike [.ref (A j + 1), .int mk, .ref r, .int (nI F), .int (nI n)] hs Q := by
  obtain ⟨p1, p2⟩ := h.plan hj
  have hlen := (h.ok.2.1 j hj).1
  have hvl : ((L.drop F).take n).length = n := by rw [List.length_take, List.length_drop]; omega
  unfold lz_al at k
  have W : (S.1 j).1 = mk → (S.1 j).2.1.length = n → ∀ (m i : Nat), i + m = n → (∀ q, q < i → (S.1 j).2.1[q]? = L[F + q]?) → mx_Ok mx_S0 l G (d + 1) mm_LBPlan_isAlike 23 [(0, .ref (A j + 1)), (2, .ref r), (3, .int (nI F)), (4, .int (nI n)), (5, .int (nI i))] [] hs Q := by
    intro hm hl m
    induction m with
    | zero =>
      intro i hi hq
      refine wp_LBPlan_isAlike_23 _ _ _ _ _ ⟨fun _ => ?_, fun c => absurd (nI_le (by omega) (by omega)) c⟩
      have e9 : (S.1 j).2.1 = (L.drop F).take n := by
        apply List.ext_getElem?
        intro q
        rcases Nat.lt_or_ge q n with z | z
        · rw [hq q (by omega), List.getElem?_take, if_pos z, List.getElem?_drop]
        · rw [List.getElem?_eq_none (by omega), List.getElem?_eq_none (by omega)]
      rw [decide_eq_true ⟨hm, e9⟩] at k
      exact k
    | succ m ih =>
      intro i hi hq
      have h1 : i < (S.1 j).2.1.length := by omega
      have h2 : F + i < L.length := by omega
      refine wp_LBPlan_isAlike_23 _ _ _ _ _ ⟨fun c => absurd c (nI_ge (by omega) (by omega)), fun _ => ⟨_, ⟨_, p1, rfl⟩, _, _, p2, nI_pos (by omega), by rw [nI_clamp (by omega)]; exact lz_longs (List.getElem?_eq_getElem h1), _, _, hr, by rw [nI_add]; exact nI_pos (by omega), by rw [nI_add, nI_clamp (by omega)]; exact lz_longs (List.getElem?_eq_getElem h2), fun c => ?_, fun c => ?_⟩⟩
      · rw [nI_1]
        refine ih (i + 1) (by omega) (fun q hq2 => ?_)
        rcases Nat.lt_or_ge q i with z | z
        · exact hq q z
        · have : q = i := by omega
          subst this
          rw [List.getElem?_eq_getElem h1, List.getElem?_eq_getElem h2, c]
      · rw [decide_eq_false (fun z => c ?_)] at k
        · exact k
        · have e1 : (S.1 j).2.1[i]? = ((L.drop F).take n)[i]? := by rw [z.2]
          rw [List.getElem?_take, if_pos (by omega), List.getElem?_drop, List.getElem?_eq_getElem h1, List.getElem?_eq_getElem h2] at e1
          exact Option.some.inj e1
  refine wp_LBPlan_isAlike_0 _ _ _ _ _ ⟨_, ⟨_, p1, rfl⟩, fun c => ?_, fun c => ⟨_, ⟨_, p1, rfl⟩, _, p2, fun c2 => ?_, fun c2 => ?_⟩⟩
  · rw [decide_eq_false (fun z => c z.1)] at k
    exact k
  · rw [List.length_map] at c2
    have c2 : nI (S.1 j).2.1.length = nI n := c2
    refine W (Decidable.not_not.mp c) ((nI_eq (by omega) (by omega)).mp c2) n 0 (Nat.zero_add n) (fun q hq => absurd hq (by omega))
  · rw [decide_eq_false (fun z => c2 ?_)] at k
    · exact k
    · rw [List.length_map, z.2, hvl]
      rfl
/-- the kinds that a PLAN's coming leaves -/
def lb_kn : Nat → Bool := fun k => !(k == 4) && !(k == 113)
theorem c_planOf (h : lb_st hs s A wq S) {r F n : Nat} {L : List Int64} (hr : hs.1 r = some (102, L.map Value.long)) (hF : F + n ≤ L.length) (hL : L.length < 2 ^ 30) (hn : n ≤ 4) {m : Nat} (hm : m < 10) (hV : ∀ v ∈ (L.drop F).take n, lz_V S.2.1 v)
    (k : ∀ hs2 A2 wq2, lb_st hs2 s A2 wq2 (lz_of S (nI m) ((L.drop F).take n)).2 → mx_fr lb_kn hs hs2 → hs2.2.1 = hs.2.1 + 2 * ((lz_of S (nI m) ((L.drop F).take n)).2.2.1 - S.2.1) → hs2.2.2 ≤ hs.2.2 + 10 * ((lz_of S (nI m) ((L.drop F).take n)).2.2.1 - S.2.1) → (∀ i, i < (lz_of S (nI m) ((L.drop F).take n)).2.2.1 → (i < S.2.1 ∧ A2 i = A i) ∨ hs.2.1 ≤ A2 i) → Q (some (.long (lz_of S (nI m) ((L.drop F).take n)).1)) hs2) : mx_C mx_S0 l G (d + 2) mm_LBStore_planOf [.ref s, .int (nI m), .ref r, .int (nI F), .int (nI n)] hs Q := by
  have hsz := h.ok.1
  obtain ⟨vs, evs⟩ : ∃ vs, vs = (L.drop F).take n := ⟨_, rfl⟩
  rw [← evs] at k hV
  have hvl : vs.length = n := by rw [evs, List.length_take, List.length_drop]; omega
  obtain ⟨ps, g2, g3, g4⟩ := h.2.1
  unfold lz_of at k
  have W : ∀ (c i : Nat), i + c = S.2.1 → lz_fi (lz_al S (nI m) vs) c i = lz_fi (lz_al S (nI m) vs) S.2.1 0 → mx_Ok mx_S0 l G (d + 2) mm_LBStore_planOf 3 [(0, .ref s), (1, .int (nI m)), (2, .ref r), (3, .int (nI F)), (4, .int (nI n)), (5, .int (nI i))] [] hs Q := by
    intro c
    induction c with
    | zero =>
      intro i hi hf
      rw [← hf] at k
      simp only [lz_fi] at k
      refine wp_LBStore_planOf_3 _ _ _ _ _ _ ⟨_, ⟨_, h.at, rfl⟩, fun _ => ⟨_, ⟨_, h.at, rfl⟩, fun c => ?_, fun c => ?_⟩, fun c => absurd (nI_le (by omega) (by omega)) c⟩
      · have hlt : S.2.1 < 30 := by
          rcases Nat.lt_or_ge S.2.1 30 with z | z
          · exact z
          · exact absurd c (nI_nlt (b := 30) z (by omega))
        rw [if_neg (by omega)] at k
        have hrl : r < hs.2.1 := h.wf _ _ hr
        have hsl : s < hs.2.1 := h.wf _ _ h.at
        have hs1 : s + 1 < hs.2.1 := h.wf _ _ g2
        refine ⟨nI_pos (by omega), by rw [nI_clamp (by omega)]; show n * 8 ≤ _; omega, fun hs5 e5 => ?_⟩
        rw [nI_clamp (by omega)] at e5 ⊢
        have a1 : hs5.1 r = some (102, L.map Value.long) := by rw [e5, mx_nw_ne _ _ _ (by omega)]; exact hr
        have a2 : hs5.1 hs.2.1 = some (102, List.replicate n (Value.long 0)) := by rw [e5, mx_nw_eq]
        refine ⟨_, _, a1, a2, nI_pos (by omega), by decide, nI_pos (by omega), by rw [nI_clamp (by omega), List.length_map]; omega, by rw [List.length_replicate, show Int32.toNatClampNeg 0 = 0 from rfl]; first | omega | (rw [nI_clamp (by omega)]; omega), fun v hv => ?_, fun hs8 e8 => ?_⟩
        · obtain ⟨x, -, rfl⟩ := List.mem_map.mp hv
          exact ⟨rfl, fun _ z => by cases z⟩
        rw [nI_clamp (by omega), show Int32.toNatClampNeg 0 = 0 from rfl] at e8
        have ecp : mx_cpy (L.map Value.long) (List.replicate n (Value.long 0)) F 0 n = vs.map Value.long := by
          have hd0 : (List.replicate n (Value.long 0)).drop (0 + n) = [] := List.drop_eq_nil_of_le (by rw [List.length_replicate]; omega)
          unfold mx_cpy
          rw [evs, List.take_zero, List.nil_append, hd0, List.append_nil, List.map_take, List.map_drop]
        rw [ecp] at e8
        have z5 : hs5.2 = (hs.2.1 + 1, hs.2.2 + n) := by rw [e5]; rfl
        have z8 : hs8.2 = (hs.2.1 + 1, hs.2.2 + n) := by rw [e8]; exact z5
        have b1 : hs8.1 hs.2.1 = some (102, vs.map Value.long) := by rw [e8, mx_st_eq]
        have b2 : ∀ q, q < hs.2.1 → hs8.1 q = hs.1 q := fun q hq => by rw [e8, mx_st_ne _ _ (by omega), e5, mx_nw_ne _ _ _ (by omega)]
        have b3 : hs8.2.1 = hs.2.1 + 1 := by rw [z8]
        refine ⟨_, ⟨_, (b2 s hsl).trans h.at, rfl⟩, _, ⟨_, (b2 s hsl).trans h.at, rfl⟩, fun hs13 e13 => ?_⟩
        have c1 : hs13.1 hs8.2.1 = some (3, [.int 0, .null, .int 0, .int 0, .int 0, .int 0]) := by rw [e13, mx_nw_eq]
        have c2 : ∀ q, q < hs.2.1 + 1 → hs13.1 q = hs8.1 q := fun q hq => by rw [e13, mx_nw_ne _ _ _ (by omega)]
        have c3 : hs13.2 = (hs.2.1 + 2, hs.2.2 + n + 6) := by rw [e13]; show (hs8.2.1 + 1, hs8.2.2 + 6) = _; rw [z8]
        refine wp_LBPlan_init_0 _ _ _ ⟨_, c1, fun hs14 e14 => ?_⟩
        subst e14
        refine ⟨_, mx_st_eq _ _ _, fun hs15 e15 => ⟨rfl, ?_⟩⟩
        rw [mx_st_st] at e15
        have d1 : hs15.1 (hs.2.1 + 1) = some (lb_pc hs.2.1 (nI m, vs, false, 0, false) 0) := by
          rw [e15, ← b3, mx_st_eq]
          rfl
        have d2 : ∀ q, q < hs.2.1 + 1 → hs15.1 q = hs8.1 q := fun q hq => by rw [e15, mx_st_ne _ _ (by omega)]; exact c2 q hq
        have d3 : hs15.2 = (hs.2.1 + 2, hs.2.2 + n + 6) := by rw [e15]; exact c3
        have d4 : ∀ q x, hs15.1 q = some x → q < hs.2.1 + 2 := fun q x hq => by
          rcases Nat.lt_or_ge q (hs.2.1 + 2) with z | z
          · exact z
          · rw [e15, mx_st_ne _ _ (by omega), e13, mx_nw_ne _ _ _ (by omega), e8, mx_st_ne _ _ (by omega), e5, mx_nw_ne _ _ _ (by omega)] at hq
            have := h.wf _ _ hq
            omega
        rw [b3]
        refine ⟨_, ((d2 _ (by omega)).trans (b2 _ hs1)).trans g2, nI_pos (by omega), by rw [nI_clamp (by omega)]; omega, ⟨_, d1⟩, fun hs17 e17 => ?_⟩
        rw [nI_clamp (by omega)] at e17
        have f1 : hs17.1 s = hs.1 s := by rw [e17, mx_st_ne _ _ (by omega)]; exact (d2 _ (by omega)).trans (b2 _ hsl)
        refine ⟨_, ⟨_, f1.trans h.at, rfl⟩, _, f1.trans h.at, fun hs21 e21 => ?_⟩
        rw [nI_1] at e21
        have k2 := h.2.2.1
        have fin1 : hs21.1 s = some (4, [.ref (s + 1), .ref (s + 2), .int (nI (S.2.1 + 1)), .int (nI S.2.2.2)]) := by rw [e21, mx_st_eq]; rfl
        have fin2 : hs21.1 (s + 1) = some (113, ps.set S.2.1 (.ref (hs.2.1 + 1))) := by rw [e21, mx_st_ne _ _ (by omega), e17, mx_st_eq]
        have fin3 : ∀ q, q < hs.2.1 → q ≠ s → q ≠ s + 1 → hs21.1 q = hs.1 q := fun q q1 q2 q3 => by rw [e21, mx_st_ne _ _ q2, e17, mx_st_ne _ _ q3]; exact (d2 _ (by omega)).trans (b2 _ q1)
        have fin4 : hs21.1 (hs.2.1 + 1) = some (lb_pc hs.2.1 (nI m, vs, false, 0, false) 0) := by rw [e21, mx_st_ne _ _ (by omega), e17, mx_st_ne _ _ (by omega)]; exact d1
        have fin5 : hs21.1 hs.2.1 = some (102, vs.map Value.long) := by rw [e21, mx_st_ne _ _ (by omega), e17, mx_st_ne _ _ (by omega)]; exact (d2 _ (by omega)).trans b1
        have fin6 : hs21.2 = (hs.2.1 + 2, hs.2.2 + n + 6) := by rw [e21, e17]; exact d3
        refine ⟨_, ⟨_, fin1, rfl⟩, ?_⟩
        have eV : (1000000000000 : Int64) + (nI (S.2.1 + 1)).toInt64 = lz_pv S.2.1 := by rw [nI_l (by omega)]; rfl
        rw [eV]
        have hfr : mx_fr lb_kn hs hs21 := by
          refine ⟨fun q x hq hp => ?_, by rw [fin6]; exact Nat.le_add_right _ _⟩
          rw [fin3 q (h.wf _ _ hq) (fun z => ?_) (fun z => ?_)]
          · exact hq
          · rw [z, h.at] at hq
            cases hq
            cases hp
          · rw [z, g2] at hq
            cases hq
            cases hp
        refine k hs21 (fun i => if i = S.2.1 then hs.2.1 else A i) (fun i => if i = S.2.1 then 0 else wq i) ⟨fin1, ⟨_, fin2, by rw [List.length_set]; exact g3, fun i hi => ?_⟩, ?_, fun i hi => ?_, fun i hi => ?_, fun i j hij hj => ?_, ⟨?_, fun i hi => ?_, h.ok.2.2⟩, ?_⟩ hfr (by rw [fin6]; show _ = hs.2.1 + 2 * (S.2.1 + 1 - S.2.1); omega) (by rw [fin6]; show hs.2.2 + n + 6 ≤ hs.2.2 + 10 * (S.2.1 + 1 - S.2.1); omega) (fun i hi => by
          have hi : i < S.2.1 + 1 := hi
          by_cases hi2 : i = S.2.1
          · right
            simp only [if_pos hi2]
            exact Nat.le_refl _
          · left
            simp only [if_neg hi2]
            exact ⟨by omega, trivial⟩)
        · by_cases hi2 : i = S.2.1
          · subst hi2
            rw [List.getElem?_set_self (by omega)]
            simp
          · have hi : i < S.2.1 + 1 := hi
            rw [List.getElem?_set_ne (by omega)]
            simp only [if_neg hi2]
            exact g4 i (by omega)
        · obtain ⟨ks, u1, u2⟩ := k2
          refine ⟨ks, ?_, u2⟩
          rw [fin3 _ (h.wf _ _ u1) (by omega) (by omega)]
          exact u1
        · have hi : i < S.2.1 + 1 := hi
          by_cases hi2 : i = S.2.1
          · simp only [if_pos hi2]
            exact ⟨fin4, fin5⟩
          · simp only [if_neg hi2]
            obtain ⟨u1, u2⟩ := h.plan (i := i) (by omega)
            have u3 := h.2.2.2.2.1 i (by omega)
            rw [fin3 _ (h.wf _ _ u1) (by omega) (by omega), fin3 _ (h.wf _ _ u2) (by omega) (by omega)]
            exact ⟨u1, u2⟩
        · have hi : i < S.2.1 + 1 := hi
          by_cases hi2 : i = S.2.1
          · simp only [if_pos hi2]
            obtain ⟨ks, u1, u2⟩ := k2
            have := h.wf _ _ u1
            omega
          · simp only [if_neg hi2]
            exact h.2.2.2.2.1 i (by omega)
        · have hj : j < S.2.1 + 1 := hj
          have hi2 : ¬ i = S.2.1 := by omega
          simp only [if_neg hi2]
          by_cases hj2 : j = S.2.1
          · simp only [if_pos hj2]
            have := h.wf _ _ (h.plan (i := i) (by omega)).1
            omega
          · simp only [if_neg hj2]
            exact h.2.2.2.2.2.1 i j hij (by omega)
        · show S.2.1 + 1 ≤ 30
          omega
        · have hi : i < S.2.1 + 1 := hi
          by_cases hi2 : i = S.2.1
          · simp only [if_pos hi2]
            subst hi2
            exact ⟨by show vs.length ≤ 4; omega, hV, ⟨m, hm, rfl⟩, fun _ => rfl⟩
          · simp only [if_neg hi2]
            exact h.ok.2.1 i (by omega)
        · intro q x hq
          rw [fin6]
          show q < hs.2.1 + 2
          by_cases q2 : q = s
          · omega
          · by_cases q3 : q = s + 1
            · omega
            · rw [e21, mx_st_ne _ _ q2, e17, mx_st_ne _ _ q3] at hq
              exact d4 q x hq
      · have hge : 30 ≤ S.2.1 := by
          rcases Nat.lt_or_ge S.2.1 30 with z | z
          · exact absurd (nI_lt (b := 30) z (by omega)) c
          · exact z
        rw [if_pos hge] at k
        exact k hs A wq h mx_fr.rf (by simp) (by simp) (fun i hi => Or.inl ⟨hi, rfl⟩)
    | succ c ih =>
      intro i hi hf
      have hi1 : i < S.2.1 := by omega
      refine wp_LBStore_planOf_3 _ _ _ _ _ _ ⟨_, ⟨_, h.at, rfl⟩, fun z => absurd z (nI_ge (by omega) (by omega)), fun _ => ⟨_, ⟨_, h.at, rfl⟩, _, _, g2, nI_pos (by omega), by rw [nI_clamp (by omega)]; exact g4 i hi1, ⟨_, (h.plan hi1).1⟩, ?_⟩⟩
      refine c_isAlike h hi1 hr hF hL ⟨_, rfl, fun z => ?_, fun z => ?_⟩
      · rw [← evs] at z
        rw [nI_1]
        rw [lz_fi, if_neg (by rw [lz_b0.mp z]; decide)] at hf
        exact ih (i + 1) (by omega) hf
      · rw [← evs] at z
        rw [lz_fi, if_pos (lz_b1.mp z)] at hf
        rw [← hf] at k
        have eV : (1000000000000 : Int64) + (nI i).toInt64 + 1 = lz_pv i := by
          rw [nI_l (by omega), Int64.add_assoc, lN_1]
          rfl
        rw [eV]
        exact k hs A wq h mx_fr.rf (by simp) (by simp) (fun i hi => Or.inl ⟨hi, rfl⟩)
  exact wp_LBStore_planOf_0 _ _ _ _ _ (W S.2.1 0 (Nat.zero_add _) rfl)
end CPL
