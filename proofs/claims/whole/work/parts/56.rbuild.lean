/-! PURE: what building leaves; THE REFERENCE builds a PLAN. -/
def lz_bt (S : lz_S) (i : Nat) : Bool := (S.1 i).2.2.1
theorem lz_fin_mb {S : lz_S} {j i : Nat} (h : lz_bt S i = true) : lz_bt (lz_fin S j).2 i = true := by
  unfold lz_fin
  split
  · exact h
  · simp only [lz_bt, lz_setP]
    by_cases hij : i = j
    · rw [if_pos hij]
    · rw [if_neg hij]
      exact h
theorem lz_bi_mb {g : lz_S → Int64 → Int64 × lz_S} {i : Nat} (hg : ∀ S v, lz_bt S i = true → lz_bt (g S v).2 i = true) : ∀ (vs : List Int64) (S : lz_S), lz_bt S i = true → lz_bt (lz_bi g vs S).2 i = true := by
  intro vs
  induction vs with
  | nil => exact fun S h => h
  | cons v vs ih =>
    intro S h
    unfold lz_bi
    split
    · exact hg S v h
    · exact ih _ (hg S v h)
theorem lz_pt_mb {i : Nat} : ∀ (f : Nat) (S : lz_S) (v : Int64), lz_bt S i = true → lz_bt (lz_pt f S v).2 i = true := by
  intro f
  induction f with
  | zero => exact fun S v h => h
  | succ f ih =>
    intro S v h
    unfold lz_pt
    split
    · exact h
    split
    · exact h
    split
    · exact lz_bi_mb ih _ _ h
    · exact lz_fin_mb (lz_bi_mb ih _ _ h)
theorem lz_fin_b {S : lz_S} {j : Nat} (h : lz_bad (lz_fin S j).1 = false) : lz_bt (lz_fin S j).2 j = true := by
  unfold lz_fin at h ⊢
  split
  · rename_i hc
    rw [if_pos hc] at h
    exact absurd h (show ¬ lz_bad (-1000000000007) = false by decide)
  · simp [lz_bt, lz_setP]
theorem lz_pt_b {f j : Nat} {S : lz_S} (hj : j < 30) (h : lz_bad (lz_pt (f + 1) S (lz_pv j)).1 = false) : lz_bt (lz_pt (f + 1) S (lz_pv j)).2 j = true := by
  rw [lz_pt, if_neg (by rw [lz_pv_pl (by omega)]; decide), lz_pv_ix (by omega)] at h ⊢
  by_cases h1 : (S.1 j).2.2.1 = true
  · rw [if_pos h1] at h ⊢
    exact h1
  rw [if_neg h1] at h ⊢
  by_cases h2 : lz_bad (lz_bi (lz_pt f) (S.1 j).2.1 S).1 = true
  · rw [if_pos h2] at h
    rw [h] at h2
    cases h2
  rw [if_neg h2] at h ⊢
  exact lz_fin_b h
/-- building PLAN i leaves those above it -/
theorem lz_pt_hi : ∀ (f : Nat) (S : lz_S) (v : Int64) (i q : Nat), lz_okS S → lz_V i v → i ≤ S.2.1 → i ≤ q → (lz_pt f S v).2.1 q = S.1 q := by
  intro f
  induction f with
  | zero => exact fun S v i q _ _ _ _ => rfl
  | succ f ih =>
    intro S v i q hS hV hi hq
    have hn := hS.1
    rcases hV with ⟨x, rfl⟩ | ⟨j, hj, rfl⟩
    · rw [lb_pt_num rfl]
    have hB : ∀ (vs : List Int64) (T : lz_S), lz_okS T → lz_sm S T → (∀ v ∈ vs, lz_V j v) → (lz_bi (lz_pt f) vs T).2.1 q = T.1 q := by
      intro vs
      induction vs with
      | nil => exact fun T _ _ _ => rfl
      | cons v vs ihv =>
        intro T hT hs hv
        have e1 := ih T v j q hT (hv v List.mem_cons_self) (by rw [hs.1]; omega) (by omega)
        unfold lz_bi
        split
        · exact e1
        · rw [ihv _ (lz_pt_ok f T v hT) (hs.tr (lz_pt_sm f T v)) (fun x hx => hv x (List.mem_cons_of_mem _ hx)), e1]
    rw [lz_pt, if_neg (by rw [lz_pv_pl (by omega)]; decide), lz_pv_ix (by omega)]
    split
    · rfl
    have e2 := hB (S.1 j).2.1 S hS lz_sm.rf (hS.2.1 j (by omega)).2.1
    split
    · exact e2
    · rw [← e2]
      unfold lz_fin
      split
      · rfl
      · simp only [lz_setP]
        rw [if_neg (by omega)]
/-- the memory but for what building changes -/
def ru (m0 m : rm_M) : Prop := (∀ k i, k ≠ 27 → k ≠ 28 → k ≠ 32 → k ≠ 33 → m.1 k i = m0.1 k i) ∧ m.2.1 = m0.2.1 ∧ (∀ k, k ≠ 35 → m.2.2.1 k = m0.2.2.1 k) ∧ m.2.2.2 = m0.2.2.2
theorem ru.rf {m : rm_M} : ru m m := ⟨fun _ _ _ _ _ _ => rfl, rfl, fun _ _ => rfl, rfl⟩
theorem ru.tr {m1 m2 m3 : rm_M} (h : ru m1 m2) (k : ru m2 m3) : ru m1 m3 := ⟨fun a b c1 c2 c3 c4 => (k.1 a b c1 c2 c3 c4).trans (h.1 a b c1 c2 c3 c4), k.2.1.trans h.2.1, fun a b => (k.2.2.1 a b).trans (h.2.2.1 a b), k.2.2.2.trans h.2.2.2⟩
theorem ru.ii {m : rm_M} {k i : Nat} {v : Int32} (h : k = 27 ∨ k = 28 ∨ k = 32 ∨ k = 33) : ru m (rs_i m k i v) := by
  refine ⟨fun k' i' h1 h2 h3 h4 => ?_, rfl, fun _ _ => rfl, rfl⟩
  simp only [rs_i]
  rw [if_neg (by omega)]
theorem ru.ss {m : rm_M} {v : Int32} : ru m (rs_s m 35 v) := by
  refine ⟨fun _ _ _ _ _ _ => rfl, rfl, fun k h => ?_, rfl⟩
  simp only [rs_s]
  rw [if_neg h]
section RBU
variable {l : Launch} {G : mx_G} {r d : Nat} {m0 m : rm_M} {Q : Option Value → rm_M → Prop} {S : lz_S}
theorem rx_S.ip (h : rx_S m S) {j i : Nat} (hj : j < S.2.1) (hi : i < (S.1 j).2.1.length) : nI (j + 1) * 4 + nI i = nI ((j + 1) * 4 + i) ∧ (j + 1) * 4 + i < 124 ∧ (S.1 j).2.1[i]? = some (m.2.1 26 ((j + 1) * 4 + i)) := by
  have hn := h.2.2.2.2.2.1
  have hl := (h.2.2.2.2.2.2.1 j hj).1
  refine ⟨?_, by omega, (h.2.2.1 j hj).2.2.1 i hi⟩
  rw [show nI (j + 1) * 4 = nI ((j + 1) * 4) from pk_mul (j + 1) 4, nI_add]
theorem r_part (h : rx_S m S) {j i : Nat} (hj : j < S.2.1) {v : Int64} (hv : (S.1 j).2.1[i]? = some v) (hb : ∀ q, q < j → v = lz_pv q → lz_bt S q = true) (k : ∀ x : Int64, x.toInt32 = lz_rp S v → Q (some (.long x)) m) : mr_C l G r (d + 2) mm_RM_part [.int (nI (j + 1)), .int (nI i)] m Q := by
  have hn := h.2.2.2.2.2.1
  have hi := (List.getElem?_eq_some_iff.mp hv).1
  obtain ⟨e1, e2, e3⟩ := h.ip hj hi
  rw [hv] at e3
  have e4 : m.2.1 26 ((j + 1) * 4 + i) = v := (Option.some.inj e3).symm
  have hV : lz_V j v := (h.2.2.2.2.2.2.1 j hj).2.1 v (List.mem_of_getElem? hv)
  refine wr_part_0 _ _ ?_
  rw [e1]
  refine ⟨nI_pos (by omega), by rw [nI_clamp (by omega)]; omega, ?_⟩
  rw [nI_clamp (by omega), e4]
  refine r_isNumber (n := j) (by omega) hV ⟨_, rfl, fun z => ?_, fun z => ?_⟩
  · have z := lz_b0.mp z
    rcases hV with ⟨x, rfl⟩ | ⟨q, hq, rfl⟩
    · rw [lz_n_pl] at z
      cases z
    · rw [lz_pv_i]
      refine ⟨nI_pos (by omega), by rw [nI_clamp (by omega)]; omega, k _ ?_⟩
      rw [nI_clamp (by omega), (h.2.2.1 q (by omega)).2.2.2.2.1 (hb q hq rfl), Int32.toInt32_toInt64]
      unfold lz_rp
      rw [if_pos (lz_pv_pl (by omega)), lz_pv_ix (by omega)]
  · have z := lz_b1.mp z
    refine k _ ?_
    unfold lz_rp
    rw [if_neg (by
      intro y
      rw [y] at z
      cases z)]
theorem r_assemble (h : rx_S m S) {j : Nat} (hj : j < S.2.1) (hnb : lz_bt S j = false) (hb : ∀ q, q < j → lz_pv q ∈ (S.1 j).2.1 → lz_bt S q = true) (k0 : lz_bad (lz_fin S j).1 = true → Q (some (.int 0)) m) (k1 : lz_bad (lz_fin S j).1 = false → ∀ m2, rx_S m2 (lz_fin S j).2 → ru m m2 → (∀ k q, k = 32 ∨ k = 33 → m2.1 k q = m.1 k q) → Q (some (.int 1)) m2) : mr_C l G r (d + 3) mm_RM_assemble [.int (nI (j + 1))] m Q := by
  have hn := h.2.2.2.2.2.1
  obtain ⟨s1, s2, s3, s4, s5, s6⟩ := id h
  obtain ⟨a1, a2, a3, a4, a5, a6⟩ := s3 j hj
  obtain ⟨q1, q2, ⟨mk, q3, q4⟩, q5⟩ := s6.2.1 j hj
  have hc1 : Int32.toNatClampNeg (nI (j + 1)) = j + 1 := nI_clamp (by omega)
  have hcm : Int32.toNatClampNeg (m.1 24 (j + 1)) = mk := by rw [a1, q4, nI_clamp (by omega)]
  have em : (S.1 j).1.toNatClampNeg = mk := by rw [q4, nI_clamp (by omega)]
  obtain ⟨kd, ekd⟩ : ∃ kd, kd = S.2.2.1 mk := ⟨_, rfl⟩
  have hkd : ∃ k9 : Nat, k9 ≤ 4 ∧ kd = nI k9 := by rw [ekd]; exact s6.2.2 mk q3
  unfold lz_fin at k0 k1
  rw [em, ← ekd] at k0 k1
  -- the end
  have h136 : ∀ x : Int32, x = lz_out S kd (S.1 j).2.1 → ¬ (kd = 4 ∨ (kd = 3 ∧ ¬ lz_great S (S.1 j).2.1 < 100)) → mr_Ok l G r (d + 3) mm_RM_assemble 136 [(0, .ref r), (1, .int (nI (j + 1)))] [.int x, .int (nI (j + 1)), .ref (r + 20)] m Q := by
    intro x ex hc
    rw [if_neg hc] at k1
    refine wr_assemble_136 _ _ _ ⟨nI_pos (by omega), by rw [hc1]; omega, fun m1 e1 => ⟨nI_pos (by omega), by rw [hc1]; omega, fun m2 e2 m3 e3 => ?_⟩⟩
    rw [hc1] at e1 e2
    have hru : ru m m3 := by
      refine ru.tr (m2 := m1) (by rw [e1]; exact ru.ii (by simp)) (ru.tr (m2 := m2) (by rw [e2]; exact ru.ii (by simp)) (by rw [e3]; exact ru.ss))
    have c27 : ∀ q, m3.1 27 q = if q = j + 1 then 1 else m.1 27 q := by
      intro q
      rw [e3, e2, e1]
      simp [rs_s, rs_i]
    have c28 : ∀ q, m3.1 28 q = if q = j + 1 then x else m.1 28 q := by
      intro q
      rw [e3, e2, e1]
      simp [rs_s, rs_i]
    have c35 : m3.2.2.1 35 = nI (S.2.2.2 + 1) := by
      have e35 : m3.2.2.1 35 = m2.2.2.1 35 + 1 := by rw [e3]; simp [rs_s]
      rw [e35, e2, e1, ← nI_1]
      exact congrArg (· + 1) s2
    have hok : lz_okS ((lz_setP S j ((S.1 j).1, (S.1 j).2.1, true, lz_out S kd (S.1 j).2.1, (S.1 j).2.2.2.2)).1, S.2.1, S.2.2.1, S.2.2.2 + 1) := by
      have := lz_fin_ok (S := S) j s6
      unfold lz_fin at this
      rw [em, ← ekd, if_neg hc] at this
      exact this
    refine k1 (by simp only; exact lz_n_bad _) m3 ⟨?_, c35, fun i hi => ?_, fun p hp hp2 => ?_, fun b hb => ?_, hok⟩ hru (fun k q hk => ?_)
    · rw [hru.2.2.1 34 (by omega)]
      exact s1
    · have hi : i < S.2.1 := hi
      obtain ⟨b1, b2, b3, b4, b5, b6⟩ := s3 i hi
      by_cases hij : i = j
      · subst hij
        simp only [lz_setP, if_true]
        refine ⟨(hru.1 24 _ (by omega) (by omega) (by omega) (by omega)).trans b1, (hru.1 25 _ (by omega) (by omega) (by omega) (by omega)).trans b2, fun q hq => by rw [hru.2.1]; exact b3 q hq, by rw [c27, if_pos rfl]; rfl, fun _ => by rw [c28, if_pos rfl, ex], (hru.1 29 _ (by omega) (by omega) (by omega) (by omega)).trans b6⟩
      · simp only [lz_setP, if_neg hij]
        refine ⟨(hru.1 24 _ (by omega) (by omega) (by omega) (by omega)).trans b1, (hru.1 25 _ (by omega) (by omega) (by omega) (by omega)).trans b2, fun q hq => by rw [hru.2.1]; exact b3 q hq, by rw [c27, if_neg (by omega)]; exact b4, fun z => by rw [c28, if_neg (by omega)]; exact b5 z, (hru.1 29 _ (by omega) (by omega) (by omega) (by omega)).trans b6⟩
    · have hp : S.2.1 < p := hp
      rw [c27, if_neg (by omega), hru.1 29 _ (by omega) (by omega) (by omega) (by omega)]
      exact s4 p hp hp2
    · rw [hru.1 31 _ (by omega) (by omega) (by omega) (by omega)]
      exact s5 b hb
    · rw [e3, e2, e1]
      simp only [rs_s, rs_i]
      rw [if_neg (by omega), if_neg (by omega)]
  have h97 : ¬ (kd = 4 ∨ (kd = 3 ∧ ¬ lz_great S (S.1 j).2.1 < 100)) → mr_Ok l G r (d + 3) mm_RM_assemble 97 [(0, .ref r), (1, .int (nI (j + 1))), (2, .int kd), (3, .int (lz_sum S (S.1 j).2.1)), (4, .int (lz_prod S (S.1 j).2.1)), (5, .int (lz_great S (S.1 j).2.1))] [] m Q := by
    intro hc
    refine wr_assemble_97 _ _ _ _ _ ⟨fun z0 => ⟨fun z1 => ⟨fun z2 => ⟨nI_pos (by omega), by rw [hc1]; omega, ?_⟩, fun z2 => h136 _ ?_ hc⟩, fun z1 => h136 _ ?_ hc⟩, fun z0 => h136 _ ?_ hc⟩
    · rw [hc1, a2]
      have h3 : kd = 3 := by
        obtain ⟨k9, k91, k92⟩ := hkd
        rcases (show k9 = 0 ∨ k9 = 1 ∨ k9 = 2 ∨ k9 = 3 ∨ k9 = 4 by omega) with rfl | rfl | rfl | rfl | rfl
        · exact absurd k92 z0
        · exact absurd k92 z1
        · exact absurd k92 z2
        · exact k92
        · exact absurd (Or.inl k92) hc
      refine h136 _ ?_ hc
      unfold lz_out
      rw [if_neg z1, if_neg z2, if_pos h3]
    · have z2 := Decidable.not_not.mp z2
      unfold lz_out
      rw [if_neg z1, if_pos z2]
    · have z1 := Decidable.not_not.mp z1
      unfold lz_out
      rw [if_pos z1]
    · have z0 := Decidable.not_not.mp z0
      unfold lz_out
      rw [if_neg (by rw [z0]; decide), if_neg (by rw [z0]; decide), if_neg (by rw [z0]; decide)]
  -- the loop
  have W : ∀ (c i : Nat) (x y z : Int32), i + c = (S.1 j).2.1.length → ((S.1 j).2.1.drop i).foldl (fun a v => a + lz_rp S v) x = lz_sum S (S.1 j).2.1 → ((S.1 j).2.1.drop i).foldl (fun a v => a * lz_rp S v) y = lz_prod S (S.1 j).2.1 → (i = 0 → z = 0) → (0 < i → ((S.1 j).2.1.drop i).foldl (fun a v => lz_mx a (lz_rp S v)) z = lz_great S (S.1 j).2.1) → mr_Ok l G r (d + 3) mm_RM_assemble 23 [(0, .ref r), (1, .int (nI (j + 1))), (2, .int kd), (3, .int x), (4, .int y), (5, .int z), (6, .int (nI i))] [] m Q := by
    intro c
    induction c with
    | zero =>
      intro i x y z hi hx hy hz0 hz
      rw [List.drop_eq_nil_of_le (by omega)] at hx hy hz
      have hx : x = lz_sum S (S.1 j).2.1 := hx
      have hy : y = lz_prod S (S.1 j).2.1 := hy
      have hz : z = lz_great S (S.1 j).2.1 := by
        rcases Nat.eq_zero_or_pos i with q | q
        · rw [hz0 q, List.eq_nil_of_length_eq_zero (show (S.1 j).2.1.length = 0 by omega)]
          rfl
        · exact hz q
      subst hx hy hz
      refine wr_assemble_23 _ _ _ _ _ _ ⟨nI_pos (by omega), by rw [hc1]; omega, fun _ => ⟨fun z4 => ?_, fun z4 => ⟨fun z3 => h97 (by rintro (q | ⟨q, -⟩) <;> contradiction), fun z3 => ⟨fun zl => h97 (by rintro (q | ⟨-, q⟩) <;> contradiction), fun zl => ?_⟩⟩⟩, fun c => absurd ?_ c⟩
      · rw [if_pos (Or.inl z4)] at k0
        exact k0 (by simp only; decide)
      · rw [if_pos (Or.inr ⟨Decidable.not_not.mp z3, zl⟩)] at k0
        exact k0 (by simp only; decide)
      · rw [hc1, a2]
        exact nI_le (by omega) (by omega)
    | succ c ih =>
      intro i x y z hi hx hy hz0 hz
      have hlt : i < (S.1 j).2.1.length := by omega
      have hv : (S.1 j).2.1[i]? = some ((S.1 j).2.1[i]) := List.getElem?_eq_getElem hlt
      obtain ⟨v, ev⟩ : ∃ v, v = (S.1 j).2.1[i] := ⟨_, rfl⟩
      rw [← ev] at hv
      rw [lz_drop hv] at hx hy hz
      have hnext : ∀ z', (0 < i + 1 → ((S.1 j).2.1.drop (i + 1)).foldl (fun a v => lz_mx a (lz_rp S v)) z' = lz_great S (S.1 j).2.1) → mr_Ok l G r (d + 3) mm_RM_assemble 72 [(0, .ref r), (1, .int (nI (j + 1))), (2, .int kd), (3, .int (x + lz_rp S v)), (4, .int (y * lz_rp S v)), (5, .int z'), (6, .int (nI i))] [] m Q := by
        intro z' hz'
        refine wr_assemble_72 _ _ _ _ _ _ ?_
        rw [nI_1]
        exact ih (i + 1) _ _ z' (by omega) hx hy (fun q => absurd q (by omega)) hz'
      refine wr_assemble_23 _ _ _ _ _ _ ⟨nI_pos (by omega), by rw [hc1]; omega, fun c => absurd c ?_, fun _ => r_part h hj hv (fun q hq e => hb q hq (by rw [← e]; exact List.mem_of_getElem? hv)) (fun X eX => ⟨X, rfl, fun z0 => ?_, fun z0 => ⟨fun zl => ?_, fun zl => ?_⟩⟩)⟩
      · rw [hc1, a2]
        exact nI_ge (by omega) (by omega)
      · rw [eX]
        have hi0 : i = 0 := by
          rcases Nat.eq_zero_or_pos i with q | q
          · exact q
          · exact absurd z0 (nI_ne0 q (by omega))
        refine wr_assemble_68 _ _ _ _ _ _ (hnext _ (fun _ => ?_))
        subst hi0
        cases hvs : (S.1 j).2.1 with
        | nil =>
          rw [hvs] at hlt
          exact absurd hlt (by simp)
        | cons u us =>
          rw [hvs] at hv
          cases hv
          rfl
      · rw [eX] at zl ⊢
        have hi0 : 0 < i := Nat.pos_of_ne_zero (fun q => z0 (by rw [q]; rfl))
        refine hnext z (fun _ => ?_)
        have := hz hi0
        simp only [List.foldl_cons] at this
        rw [show lz_mx z (lz_rp S v) = z by unfold lz_mx; rw [if_neg (Int32.not_lt.mpr zl)]] at this
        exact this
      · rw [eX] at zl ⊢
        have hi0 : 0 < i := Nat.pos_of_ne_zero (fun q => z0 (by rw [q]; rfl))
        refine wr_assemble_68 _ _ _ _ _ _ (hnext _ (fun _ => ?_))
        have := hz hi0
        simp only [List.foldl_cons] at this
        rw [show lz_mx z (lz_rp S v) = lz_rp S v by unfold lz_mx; rw [if_pos (Int32.not_le.mp zl)]] at this
        exact this
  refine wr_assemble_0 _ ⟨nI_pos (by omega), by rw [hc1]; omega, ?_⟩
  rw [hc1]
  refine ⟨by rw [a1, q4]; exact nI_pos (by omega), by rw [hcm]; exact q3, ?_⟩
  rw [hcm, s5 mk q3, ← ekd]
  exact W _ 0 0 1 0 (Nat.zero_add _) rfl rfl (fun _ => rfl) (fun q => absurd q (by omega))
end RBU
