def rm_kd : Nat → Nat := fun k => match k with
  | 0 => 104
  | 1 => 104
  | 2 => 106
  | 3 => 107
  | 4 => 107
  | 5 => 107
  | 8 => 104
  | 9 => 107
  | 10 => 104
  | 12 => 104
  | 13 => 104
  | 14 => 104
  | 15 => 104
  | 16 => 104
  | 18 => 106
  | 24 => 104
  | 25 => 104
  | 26 => 106
  | 27 => 107
  | 28 => 104
  | 29 => 107
  | 30 => 107
  | 31 => 104
  | 32 => 104
  | 33 => 104
  | _ => 0
def rm_off : Nat → Nat := fun k => match k with
  | 0 => 1
  | 1 => 2
  | 2 => 3
  | 3 => 4
  | 4 => 5
  | 5 => 6
  | 8 => 7
  | 9 => 8
  | 10 => 9
  | 12 => 10
  | 13 => 11
  | 14 => 12
  | 15 => 13
  | 16 => 14
  | 18 => 15
  | 24 => 16
  | 25 => 17
  | 26 => 18
  | 27 => 19
  | 28 => 20
  | 29 => 21
  | 30 => 22
  | 31 => 23
  | 32 => 24
  | 33 => 25
  | _ => 0
def rm_len : Nat → Nat := fun k => match k with
  | 0 => 240
  | 1 => 9
  | 2 => 9
  | 3 => 9
  | 4 => 8
  | 5 => 8
  | 8 => 12
  | 9 => 12
  | 10 => 12
  | 12 => 100
  | 13 => 100
  | 14 => 100
  | 15 => 100
  | 16 => 100
  | 18 => 400
  | 24 => 31
  | 25 => 31
  | 26 => 124
  | 27 => 31
  | 28 => 31
  | 29 => 31
  | 30 => 31
  | 31 => 10
  | 32 => 32
  | 33 => 32
  | _ => 0
/-! THE REFERENCE's memory: its arrays and numbers as functions of the field's number; r: its cell. -/
abbrev rm_M : Type := (Nat → Nat → Int32) × (Nat → Nat → Int64) × (Nat → Int32) × Int64
def rm_fv (r : Nat) (m : rm_M) (k : Nat) : Value := if rm_kd k = 0 then (if k = 23 then .long m.2.2.2 else .int (m.2.2.1 k)) else .ref (r + rm_off k)
def rm_el (m : rm_M) (k i : Nat) : Value := if rm_kd k = 106 then .long (m.2.1 k i) else .int (m.1 k i)
def rm_av (m : rm_M) (k : Nat) : List Value := (List.range (rm_len k)).map (rm_el m k)
def rm_ob (hs : mx_H) (r : Nat) (m : rm_M) : Prop := hs.1 r = some (6, (List.range 36).map (rm_fv r m)) ∧ ∀ k, k < 36 → rm_kd k ≠ 0 → hs.1 (r + rm_off k) = some (rm_kd k, rm_av m k)
def rs_i (m : rm_M) (k i : Nat) (v : Int32) : rm_M := (fun k' i' => if k' = k ∧ i' = i then v else m.1 k' i', m.2)
def rs_l (m : rm_M) (k i : Nat) (v : Int64) : rm_M := (m.1, fun k' i' => if k' = k ∧ i' = i then v else m.2.1 k' i', m.2.2)
def rs_s (m : rm_M) (k : Nat) (v : Int32) : rm_M := (m.1, m.2.1, fun k' => if k' = k then v else m.2.2.1 k', m.2.2.2)
def rs_r (m : rm_M) (v : Int64) : rm_M := (m.1, m.2.1, m.2.2.1, v)
def rm_k0 : Nat → Bool := fun k => !(k == 6) && !(k == 104) && !(k == 106) && !(k == 107)
def mr_F (hs hs' : mx_H) : Prop := mx_fr rm_k0 hs hs' ∧ hs'.2 = hs.2
def mr_Ok (l : Launch) (G : mx_G) (r d : Nat) (M : mx_M) (pc : Nat) (lv : List (Nat × Value)) (st : List Value) (m : rm_M) (Q : Option Value → rm_M → Prop) : Prop := ∀ hs, rm_ob hs r m → mx_Ok mx_S0 l G d M pc lv st hs (fun v hs' => ∃ m', rm_ob hs' r m' ∧ mx_fr rm_k0 hs hs' ∧ hs'.2 = hs.2 ∧ Q v m')
def mr_C (l : Launch) (G : mx_G) (r d : Nat) (M : mx_M) (args : List Value) (m : rm_M) (Q : Option Value → rm_M → Prop) : Prop := mr_Ok l G r d M 0 (lv_args 0 (.ref r :: args)) [] m Q
section RME
variable {l : Launch} {G : mx_G} {r d pc : Nat} {M : mx_M} {lv : List (Nat × Value)} {st : List Value} {m : rm_M} {Q : Option Value → rm_M → Prop} {hs hs0 hs1 : mx_H}
theorem mr_start (h : ∀ hs0 hs9, rm_ob hs9 r m → mr_F hs0 hs9 → mx_Ok mx_S0 l G d M pc lv st hs9 (fun v hs' => ∃ m', rm_ob hs' r m' ∧ mx_fr rm_k0 hs0 hs' ∧ hs'.2 = hs0.2 ∧ Q v m')) : mr_Ok l G r d M pc lv st m Q := fun hs h9 => h hs hs h9 ⟨mx_fr.rf, rfl⟩
theorem mr_at (h : mr_Ok l G r d M pc lv st m Q) (h9 : rm_ob hs r m) (f9 : mr_F hs0 hs) : mx_Ok mx_S0 l G d M pc lv st hs (fun v hs' => ∃ m', rm_ob hs' r m' ∧ mx_fr rm_k0 hs0 hs' ∧ hs'.2 = hs0.2 ∧ Q v m') := (h hs h9).mono (fun _ _ ⟨m', a, b, c, e⟩ => ⟨m', a, f9.1.tr b, c.trans f9.2, e⟩)
theorem mr_frs {a : Nat} {x y : mx_E} (f : mr_F hs0 hs) (h : hs.1 a = some y) (hy : rm_k0 y.1 = false) : mr_F hs0 (mx_st hs a x) := ⟨f.1.tr (mx_fr.st h hy), f.2⟩
theorem mr_frc (f : mr_F hs0 hs) (g : mx_fr rm_k0 hs hs1) (z : hs1.2 = hs.2) : mr_F hs0 hs1 := ⟨f.1.tr g, z.trans f.2⟩
theorem mr_Ok.mono {Q' : Option Value → rm_M → Prop} (h : mr_Ok l G r d M pc lv st m Q) (hq : ∀ v m', Q v m' → Q' v m') : mr_Ok l G r d M pc lv st m Q' := fun hs h9 => (h hs h9).mono (fun _ _ ⟨m', a, b, c, e⟩ => ⟨m', a, b, c, hq _ _ e⟩)
theorem rm_aget {k i : Nat} (hk : rm_kd k ≠ 106) (hi : i < rm_len k) : (rm_av m k)[i]? = some (.int (m.1 k i)) := by
  unfold rm_av
  rw [List.getElem?_map, List.getElem?_range hi]
  simp only [Option.map_some, rm_el, if_neg hk]
theorem rm_agetl {k i : Nat} (hk : rm_kd k = 106) (hi : i < rm_len k) : (rm_av m k)[i]? = some (.long (m.2.1 k i)) := by
  unfold rm_av
  rw [List.getElem?_map, List.getElem?_range hi]
  simp only [Option.map_some, rm_el, if_pos hk]
theorem rm_alt {k i : Nat} (hi : i < rm_len k) : i < (rm_av m k).length := by
  unfold rm_av
  rw [List.length_map, List.length_range]
  exact hi
theorem rm_set {n i : Nat} {f : Nat → Value} {v : Value} : ((List.range n).map f).set i v = (List.range n).map (fun j => if j = i then v else f j) := by
  apply List.ext_getElem?
  intro j
  rw [List.getElem?_set, List.getElem?_map, List.getElem?_map]
  by_cases hj : j < n
  · rw [List.getElem?_range hj]
    by_cases hij : i = j
    · subst hij
      simp [hj]
    · simp [hij, Ne.symm hij]
  · rw [List.getElem?_eq_none (by simp; omega)]
    simp
    omega
theorem rm_offne : ∀ k, k < 36 → rm_kd k ≠ 0 → 0 < rm_off k := by decide
theorem rm_offinj : ∀ k, k < 36 → rm_kd k ≠ 0 → ∀ j, j < 36 → rm_kd j ≠ 0 → rm_off k = rm_off j → k = j := by decide
theorem rm_puts (h : rm_ob hs r m) (k : Nat) (v : Int32) (hk : k < 36) (h0 : rm_kd k = 0) (h23 : k ≠ 23) : rm_ob (mx_st hs r (6, ((List.range 36).map (rm_fv r m)).set k (.int v))) r (rs_s m k v) := by
  refine ⟨?_, fun j hj hj0 => ?_⟩
  · rw [mx_st_eq, rm_set]
    refine congrArg (fun x => some ((6 : Nat), x)) (List.map_congr_left fun j _ => ?_)
    unfold rm_fv
    by_cases hjk : j = k
    · subst hjk
      rw [if_pos rfl, if_pos h0, if_neg h23]
      simp [rs_s]
    · rw [if_neg hjk]
      simp [rs_s, hjk]
  · rw [mx_st_ne _ _ (by have := rm_offne j hj hj0; omega)]
    exact h.2 j hj hj0
theorem rm_putr (h : rm_ob hs r m) (v : Int64) : rm_ob (mx_st hs r (6, ((List.range 36).map (rm_fv r m)).set 23 (.long v))) r (rs_r m v) := by
  refine ⟨?_, fun j hj hj0 => ?_⟩
  · rw [mx_st_eq, rm_set]
    refine congrArg (fun x => some ((6 : Nat), x)) (List.map_congr_left fun j _ => ?_)
    unfold rm_fv
    by_cases hjk : j = 23
    · subst hjk
      rw [if_pos rfl, if_pos (by decide), if_pos rfl]
      rfl
    · rw [if_neg hjk]
      simp [rs_r, hjk]
  · rw [mx_st_ne _ _ (by have := rm_offne j hj hj0; omega)]
    exact h.2 j hj hj0
theorem rm_aputl (h : rm_ob hs r m) (k i : Nat) (v : Int64) (hk : k < 36) (h0 : rm_kd k = 106) : rm_ob (mx_st hs (r + rm_off k) (rm_kd k, (rm_av m k).set i (.long v))) r (rs_l m k i v) := by
  have hk0 : rm_kd k ≠ 0 := by rw [h0]; decide
  refine ⟨?_, fun j hj hj0 => ?_⟩
  · rw [mx_st_ne _ _ (by have := rm_offne k hk hk0; omega)]
    exact h.1
  · by_cases hjk : j = k
    · subst hjk
      rw [mx_st_eq]
      congr 2
      unfold rm_av
      rw [rm_set]
      apply List.map_congr_left
      intro q _
      unfold rm_el
      by_cases hq : q = i
      · subst hq
        rw [if_pos rfl, if_pos h0]
        simp [rs_l]
      · rw [if_neg hq, if_pos h0, if_pos h0]
        simp [rs_l, hq]
    · rw [mx_st_ne _ _ (fun e => hjk (rm_offinj j hj hj0 k hk hk0 (by omega))), h.2 j hj hj0]
      congr 2
      unfold rm_av
      apply List.map_congr_left
      intro q _
      unfold rm_el
      simp [rs_l, hjk]
theorem rm_aput (h : rm_ob hs r m) (k i : Nat) (v : Int32) (hk : k < 36) (h0 : rm_kd k ≠ 0 ∧ rm_kd k ≠ 106) : rm_ob (mx_st hs (r + rm_off k) (rm_kd k, (rm_av m k).set i (.int v))) r (rs_i m k i v) := by
  have hk0 := h0.1
  refine ⟨?_, fun j hj hj0 => ?_⟩
  · rw [mx_st_ne _ _ (by have := rm_offne k hk hk0; omega)]
    exact h.1
  · by_cases hjk : j = k
    · subst hjk
      rw [mx_st_eq]
      congr 2
      unfold rm_av
      rw [rm_set]
      apply List.map_congr_left
      intro q _
      unfold rm_el
      by_cases hq : q = i
      · subst hq
        rw [if_pos rfl, if_neg h0.2]
        simp [rs_i]
      · rw [if_neg hq, if_neg h0.2, if_neg h0.2]
        simp [rs_i, hq]
    · rw [mx_st_ne _ _ (fun e => hjk (rm_offinj j hj hj0 k hk hk0 (by omega))), h.2 j hj hj0]
      congr 2
      unfold rm_av
      apply List.map_congr_left
      intro q _
      unfold rm_el
      simp [rs_i, hjk]
end RME
