/-! THE CONSTRUCTORS. -/
def so_0 : lz_O := ([], -1, -1000000000000, fun _ => [], (fun _ => (false, false, -1000000000000), 0, 0, (fun _ => (0, [], false, 0, false), 0, fun _ => 0, 0)))
def rm_0 : rm_M := (fun _ _ => 0, fun _ _ => 0, fun k => if k = 6 then -1 else 0, 0)
def ri_L : List mx_E := [(104, List.replicate 240 (.int 0)), (104, List.replicate 9 (.int 0)), (106, List.replicate 9 (.long 0)), (107, List.replicate 9 (.int 0)), (107, List.replicate 8 (.int 0)), (107, List.replicate 8 (.int 0)), (104, List.replicate 12 (.int 0)), (107, List.replicate 12 (.int 0)), (104, List.replicate 12 (.int 0)), (104, List.replicate 100 (.int 0)), (104, List.replicate 100 (.int 0)), (104, List.replicate 100 (.int 0)), (104, List.replicate 100 (.int 0)), (104, List.replicate 100 (.int 0)), (106, List.replicate 400 (.long 0)), (104, List.replicate 31 (.int 0)), (104, List.replicate 31 (.int 0)), (106, List.replicate 124 (.long 0)), (107, List.replicate 31 (.int 0)), (104, List.replicate 31 (.int 0)), (107, List.replicate 31 (.int 0)), (107, List.replicate 31 (.int 0)), (104, List.replicate 10 (.int 0)), (104, List.replicate 32 (.int 0)), (104, List.replicate 32 (.int 0))]
theorem ri_ok : ∀ k, k < 36 → rm_kd k ≠ 0 → ri_L[rm_off k - 1]? = some (rm_kd k, List.replicate (rm_len k) (if rm_kd k = 106 then .long 0 else .int 0)) := by decide +kernel
theorem rm_av0 (k : Nat) : rm_av rm_0 k = List.replicate (rm_len k) (if rm_kd k = 106 then .long 0 else .int 0) := by
  unfold rm_av
  apply List.ext_getElem?
  intro j
  rw [List.getElem?_map, List.getElem?_replicate]
  by_cases hj : j < rm_len k
  · rw [List.getElem?_range hj, if_pos hj]
    rfl
  · rw [if_neg hj, List.getElem?_eq_none (by simp; omega)]
    rfl
def ri_d (j : Nat) : Value := if j = 23 then .long 0 else if rm_kd j = 0 then .int 0 else .null
theorem ri_0d : ri_0 = (List.range 36).map ri_d := by decide +kernel
def ri_g (r K j : Nat) : Value := if j < K then rm_fv r rm_0 j else ri_d j
theorem ri_g0 (r : Nat) : ri_0 = (List.range 36).map (ri_g r 0) := by
  rw [ri_0d]
  exact List.map_congr_left (fun j _ => (if_neg (Nat.not_lt_zero j)).symm)
theorem ri_gs {r K k : Nat} {v : Value} (hv : v = rm_fv r rm_0 k) (hk : K ≤ k) (h : ∀ j, K ≤ j → j < k → ri_d j = rm_fv r rm_0 j) : ((List.range 36).map (ri_g r K)).set k v = (List.range 36).map (ri_g r (k + 1)) := by
  rw [rm_set]
  refine List.map_congr_left (fun j _ => ?_)
  unfold ri_g
  by_cases h1 : j = k
  · rw [if_pos h1, if_pos (by omega), hv, h1]
  · rw [if_neg h1]
    by_cases h2 : j < K
    · rw [if_pos h2, if_pos (by omega)]
    · rw [if_neg h2]
      by_cases h3 : j < k
      · rw [if_pos (by omega)]
        exact h j (by omega) h3
      · rw [if_neg (by omega)]
theorem ri_ge (r : Nat) : (List.range 36).map (ri_g r 34) = (List.range 36).map (rm_fv r rm_0) := by
  refine List.map_congr_left (fun j hj => ?_)
  have hj := List.mem_range.mp hj
  unfold ri_g
  by_cases h : j < 34
  · rw [if_pos h]
  · rw [if_neg h]
    rcases (show j = 34 ∨ j = 35 by omega) with rfl | rfl <;> rfl
def ri_I (h0 : mx_H) (r : Nat) (hs : mx_H) (L : List mx_E) (N n : Nat) (fs : List Value) : Prop := hs.1 r = some (6, fs) ∧ (hs.2 = (r + N, h0.2.2 + n) ∧ N = L.length + 1) ∧ (∀ i, i < L.length → hs.1 (r + 1 + i) = L[i]?) ∧ (∀ q, q < r → hs.1 q = h0.1 q) ∧ mx_wf hs
section RIN
variable {l : Launch} {G : mx_G} {r d n N : Nat} {h0 hs hs1 hs2 : mx_H} {L : List mx_E} {fs : List Value} {Q : Option Value → mx_H → Prop}
theorem ri_I.nw {x : mx_E} {c N' n' : Nat} (I : ri_I h0 r hs L N n fs) (e : hs1 = mx_nw hs x c) (hN : N + 1 = N') (hn : n + c = n') : ri_I h0 r hs1 (L ++ [x]) N' n' fs ∧ hs.2.1 = r + N := by
  obtain ⟨i1, ⟨i2, i6⟩, i3, i4, i5⟩ := I
  have z : hs.2.1 = r + N := by rw [i2]
  subst e
  subst hN
  subst hn
  refine ⟨⟨by rw [mx_nw_ne _ _ _ (by omega)]; exact i1, ⟨?_, by simp; omega⟩, fun i hi => ?_, fun q hq => by rw [mx_nw_ne _ _ _ (by omega)]; exact i4 q hq, i5.nw⟩, z⟩
  · show (hs.2.1 + 1, hs.2.2 + c) = _
    rw [i2]
    exact Prod.ext (by simp only; omega) (by simp only; omega)
  · by_cases hi2 : i < L.length
    · rw [mx_nw_ne _ _ _ (by omega), i3 i hi2, List.getElem?_append_left hi2]
    · have : i = L.length := by simp at hi; omega
      subst this
      rw [show r + 1 + L.length = hs.2.1 by omega, mx_nw_eq, List.getElem?_append_right (Nat.le_refl _), Nat.sub_self]
      rfl
theorem ri_I.st {fs' : List Value} (I : ri_I h0 r hs L N n fs) (e : hs1 = mx_st hs r (6, fs')) : ri_I h0 r hs1 L N n fs' := by
  obtain ⟨i1, i2, i3, i4, i5⟩ := I
  subst e
  exact ⟨mx_st_eq _ _ _, i2, fun i hi => by rw [mx_st_ne _ _ (by omega)]; exact i3 i hi, fun q hq => by rw [mx_st_ne _ _ (by omega)]; exact i4 q hq, i5.st i1⟩
theorem r_Init (ha : hs.1 r = some (6, ri_0)) (hz : hs.2.1 = r + 1) (hw : mx_wf hs) (k : ∀ hs2, rm_ob hs2 r rm_0 → (∀ q, q < r → hs2.1 q = hs.1 q) → hs2.2.1 = r + 26 → hs2.2.2 ≤ hs.2.2 + 2000 → mx_wf hs2 → Q none hs2) : mx_C mx_S0 l G (d + 1) mm_RM_init [.ref r] hs Q := by
  have I0 : ri_I hs r hs [] 1 0 ((List.range 36).map (ri_g r 0)) := ⟨by rw [← ri_g0]; exact ha, ⟨Prod.ext hz rfl, rfl⟩, fun i hi => absurd hi (Nat.not_lt_zero i), fun _ _ => rfl, hw⟩
  refine wp_RM_init_0 _ ?_
  intro hs1 e_hs1
  obtain ⟨J0, z0⟩ := I0.nw (N' := 2) (n' := 240) e_hs1 rfl rfl
  refine ⟨_, J0.1, fun hs3 e_hs3 => ?_⟩
  rw [z0, ri_gs (r := r) (K := 0) (k := 0) (v := .ref (r + 1)) rfl (by omega) (fun j h1 h2 => by omega)] at e_hs3
  replace J0 := J0.st e_hs3
  intro hs4 e_hs4
  obtain ⟨J2, z2⟩ := J0.nw (N' := 3) (n' := 249) e_hs4 rfl rfl
  refine ⟨_, J2.1, fun hs6 e_hs6 => ?_⟩
  rw [z2, ri_gs (r := r) (K := 1) (k := 1) (v := .ref (r + 2)) rfl (by omega) (fun j h1 h2 => by omega)] at e_hs6
  replace J2 := J2.st e_hs6
  intro hs7 e_hs7
  obtain ⟨J4, z4⟩ := J2.nw (N' := 4) (n' := 258) e_hs7 rfl rfl
  refine ⟨_, J4.1, fun hs9 e_hs9 => ?_⟩
  rw [z4, ri_gs (r := r) (K := 2) (k := 2) (v := .ref (r + 3)) rfl (by omega) (fun j h1 h2 => by omega)] at e_hs9
  replace J4 := J4.st e_hs9
  intro hs10 e_hs10
  obtain ⟨J6, z6⟩ := J4.nw (N' := 5) (n' := 267) e_hs10 rfl rfl
  refine ⟨_, J6.1, fun hs12 e_hs12 => ?_⟩
  rw [z6, ri_gs (r := r) (K := 3) (k := 3) (v := .ref (r + 4)) rfl (by omega) (fun j h1 h2 => by omega)] at e_hs12
  replace J6 := J6.st e_hs12
  intro hs13 e_hs13
  obtain ⟨J8, z8⟩ := J6.nw (N' := 6) (n' := 275) e_hs13 rfl rfl
  refine ⟨_, J8.1, fun hs15 e_hs15 => ?_⟩
  rw [z8, ri_gs (r := r) (K := 4) (k := 4) (v := .ref (r + 5)) rfl (by omega) (fun j h1 h2 => by omega)] at e_hs15
  replace J8 := J8.st e_hs15
  intro hs16 e_hs16
  obtain ⟨J10, z10⟩ := J8.nw (N' := 7) (n' := 283) e_hs16 rfl rfl
  refine ⟨_, J10.1, fun hs18 e_hs18 => ?_⟩
  rw [z10, ri_gs (r := r) (K := 5) (k := 5) (v := .ref (r + 6)) rfl (by omega) (fun j h1 h2 => by omega)] at e_hs18
  replace J10 := J10.st e_hs18
  refine ⟨_, J10.1, fun hs20 e_hs20 => ?_⟩
  rw [ri_gs (r := r) (K := 6) (k := 6) (v := .int (-1)) rfl (by omega) (fun j h1 h2 => by omega)] at e_hs20
  replace J10 := J10.st e_hs20
  intro hs21 e_hs21
  obtain ⟨J13, z13⟩ := J10.nw (N' := 8) (n' := 295) e_hs21 rfl rfl
  refine ⟨_, J13.1, fun hs23 e_hs23 => ?_⟩
  rw [z13, ri_gs (r := r) (K := 7) (k := 8) (v := .ref (r + 7)) rfl (by omega) (fun j h1 h2 => by rcases (show j = 7 by omega) with rfl <;> rfl)] at e_hs23
  replace J13 := J13.st e_hs23
  intro hs24 e_hs24
  obtain ⟨J15, z15⟩ := J13.nw (N' := 9) (n' := 307) e_hs24 rfl rfl
  refine ⟨_, J15.1, fun hs26 e_hs26 => ?_⟩
  rw [z15, ri_gs (r := r) (K := 9) (k := 9) (v := .ref (r + 8)) rfl (by omega) (fun j h1 h2 => by omega)] at e_hs26
  replace J15 := J15.st e_hs26
  intro hs27 e_hs27
  obtain ⟨J17, z17⟩ := J15.nw (N' := 10) (n' := 319) e_hs27 rfl rfl
  refine ⟨_, J17.1, fun hs29 e_hs29 => ?_⟩
  rw [z17, ri_gs (r := r) (K := 10) (k := 10) (v := .ref (r + 9)) rfl (by omega) (fun j h1 h2 => by omega)] at e_hs29
  replace J17 := J17.st e_hs29
  intro hs30 e_hs30
  obtain ⟨J19, z19⟩ := J17.nw (N' := 11) (n' := 419) e_hs30 rfl rfl
  refine ⟨_, J19.1, fun hs32 e_hs32 => ?_⟩
  rw [z19, ri_gs (r := r) (K := 11) (k := 12) (v := .ref (r + 10)) rfl (by omega) (fun j h1 h2 => by rcases (show j = 11 by omega) with rfl <;> rfl)] at e_hs32
  replace J19 := J19.st e_hs32
  intro hs33 e_hs33
  obtain ⟨J21, z21⟩ := J19.nw (N' := 12) (n' := 519) e_hs33 rfl rfl
  refine ⟨_, J21.1, fun hs35 e_hs35 => ?_⟩
  rw [z21, ri_gs (r := r) (K := 13) (k := 13) (v := .ref (r + 11)) rfl (by omega) (fun j h1 h2 => by omega)] at e_hs35
  replace J21 := J21.st e_hs35
  intro hs36 e_hs36
  obtain ⟨J23, z23⟩ := J21.nw (N' := 13) (n' := 619) e_hs36 rfl rfl
  refine ⟨_, J23.1, fun hs38 e_hs38 => ?_⟩
  rw [z23, ri_gs (r := r) (K := 14) (k := 14) (v := .ref (r + 12)) rfl (by omega) (fun j h1 h2 => by omega)] at e_hs38
  replace J23 := J23.st e_hs38
  intro hs39 e_hs39
  obtain ⟨J25, z25⟩ := J23.nw (N' := 14) (n' := 719) e_hs39 rfl rfl
  refine ⟨_, J25.1, fun hs41 e_hs41 => ?_⟩
  rw [z25, ri_gs (r := r) (K := 15) (k := 15) (v := .ref (r + 13)) rfl (by omega) (fun j h1 h2 => by omega)] at e_hs41
  replace J25 := J25.st e_hs41
  intro hs42 e_hs42
  obtain ⟨J27, z27⟩ := J25.nw (N' := 15) (n' := 819) e_hs42 rfl rfl
  refine ⟨_, J27.1, fun hs44 e_hs44 => ?_⟩
  rw [z27, ri_gs (r := r) (K := 16) (k := 16) (v := .ref (r + 14)) rfl (by omega) (fun j h1 h2 => by omega)] at e_hs44
  replace J27 := J27.st e_hs44
  intro hs45 e_hs45
  obtain ⟨J29, z29⟩ := J27.nw (N' := 16) (n' := 1219) e_hs45 rfl rfl
  refine ⟨_, J29.1, fun hs47 e_hs47 => ?_⟩
  rw [z29, ri_gs (r := r) (K := 17) (k := 18) (v := .ref (r + 15)) rfl (by omega) (fun j h1 h2 => by rcases (show j = 17 by omega) with rfl <;> rfl)] at e_hs47
  replace J29 := J29.st e_hs47
  intro hs48 e_hs48
  obtain ⟨J31, z31⟩ := J29.nw (N' := 17) (n' := 1250) e_hs48 rfl rfl
  refine ⟨_, J31.1, fun hs50 e_hs50 => ?_⟩
  rw [z31, ri_gs (r := r) (K := 19) (k := 24) (v := .ref (r + 16)) rfl (by omega) (fun j h1 h2 => by rcases (show j = 19 ∨ j = 20 ∨ j = 21 ∨ j = 22 ∨ j = 23 by omega) with rfl | rfl | rfl | rfl | rfl <;> rfl)] at e_hs50
  replace J31 := J31.st e_hs50
  intro hs51 e_hs51
  obtain ⟨J33, z33⟩ := J31.nw (N' := 18) (n' := 1281) e_hs51 rfl rfl
  refine ⟨_, J33.1, fun hs53 e_hs53 => ?_⟩
  rw [z33, ri_gs (r := r) (K := 25) (k := 25) (v := .ref (r + 17)) rfl (by omega) (fun j h1 h2 => by omega)] at e_hs53
  replace J33 := J33.st e_hs53
  intro hs54 e_hs54
  obtain ⟨J35, z35⟩ := J33.nw (N' := 19) (n' := 1405) e_hs54 rfl rfl
  refine ⟨_, J35.1, fun hs56 e_hs56 => ?_⟩
  rw [z35, ri_gs (r := r) (K := 26) (k := 26) (v := .ref (r + 18)) rfl (by omega) (fun j h1 h2 => by omega)] at e_hs56
  replace J35 := J35.st e_hs56
  intro hs57 e_hs57
  obtain ⟨J37, z37⟩ := J35.nw (N' := 20) (n' := 1436) e_hs57 rfl rfl
  refine ⟨_, J37.1, fun hs59 e_hs59 => ?_⟩
  rw [z37, ri_gs (r := r) (K := 27) (k := 27) (v := .ref (r + 19)) rfl (by omega) (fun j h1 h2 => by omega)] at e_hs59
  replace J37 := J37.st e_hs59
  intro hs60 e_hs60
  obtain ⟨J39, z39⟩ := J37.nw (N' := 21) (n' := 1467) e_hs60 rfl rfl
  refine ⟨_, J39.1, fun hs62 e_hs62 => ?_⟩
  rw [z39, ri_gs (r := r) (K := 28) (k := 28) (v := .ref (r + 20)) rfl (by omega) (fun j h1 h2 => by omega)] at e_hs62
  replace J39 := J39.st e_hs62
  intro hs63 e_hs63
  obtain ⟨J41, z41⟩ := J39.nw (N' := 22) (n' := 1498) e_hs63 rfl rfl
  refine ⟨_, J41.1, fun hs65 e_hs65 => ?_⟩
  rw [z41, ri_gs (r := r) (K := 29) (k := 29) (v := .ref (r + 21)) rfl (by omega) (fun j h1 h2 => by omega)] at e_hs65
  replace J41 := J41.st e_hs65
  intro hs66 e_hs66
  obtain ⟨J43, z43⟩ := J41.nw (N' := 23) (n' := 1529) e_hs66 rfl rfl
  refine ⟨_, J43.1, fun hs68 e_hs68 => ?_⟩
  rw [z43, ri_gs (r := r) (K := 30) (k := 30) (v := .ref (r + 22)) rfl (by omega) (fun j h1 h2 => by omega)] at e_hs68
  replace J43 := J43.st e_hs68
  intro hs69 e_hs69
  obtain ⟨J45, z45⟩ := J43.nw (N' := 24) (n' := 1539) e_hs69 rfl rfl
  refine ⟨_, J45.1, fun hs71 e_hs71 => ?_⟩
  rw [z45, ri_gs (r := r) (K := 31) (k := 31) (v := .ref (r + 23)) rfl (by omega) (fun j h1 h2 => by omega)] at e_hs71
  replace J45 := J45.st e_hs71
  intro hs72 e_hs72
  obtain ⟨J47, z47⟩ := J45.nw (N' := 25) (n' := 1571) e_hs72 rfl rfl
  refine ⟨_, J47.1, fun hs74 e_hs74 => ?_⟩
  rw [z47, ri_gs (r := r) (K := 32) (k := 32) (v := .ref (r + 24)) rfl (by omega) (fun j h1 h2 => by omega)] at e_hs74
  replace J47 := J47.st e_hs74
  intro hs75 e_hs75
  obtain ⟨J49, z49⟩ := J47.nw (N' := 26) (n' := 1603) e_hs75 rfl rfl
  refine ⟨_, J49.1, fun hs77 e_hs77 => ?_⟩
  rw [z49, ri_gs (r := r) (K := 33) (k := 33) (v := .ref (r + 25)) rfl (by omega) (fun j h1 h2 => by omega)] at e_hs77
  replace J49 := J49.st e_hs77
  obtain ⟨q1, ⟨q2, -⟩, q3, q4, q5⟩ := J49
  refine k _ ⟨?_, fun j hj hj0 => ?_⟩ q4 (by rw [q2]) (by rw [q2]; exact Nat.add_le_add_left (by decide) _) q5
  · rw [q1, ri_ge]
  · have hp := rm_offne j hj hj0
    have hl := ri_ok j hj hj0
    have := q3 (rm_off j - 1) (by
      have : rm_off j - 1 < ri_L.length := (List.getElem?_eq_some_iff.mp hl).1
      exact this)
    rw [show r + 1 + (rm_off j - 1) = r + rm_off j by omega] at this
    rw [this, rm_av0]
    exact hl
theorem rx_0 : rx rm_0 so_0 := by
  refine ⟨⟨Nat.zero_le _, fun i hi => absurd hi (Nat.not_lt_zero i)⟩, rfl, rfl, rfl, fun z => absurd rfl z, ⟨fun n hn => ⟨rfl, rfl, rfl, fun z => absurd rfl z⟩, fun n hn z => (by cases z), rfl, rfl, ⟨rfl, rfl, fun i hi => absurd hi (Nat.not_lt_zero i), fun p _ _ => ⟨rfl, rfl⟩, fun b hb => rfl, ?_⟩, ⟨fun i hi => ⟨fun z => (by cases z), Or.inl rfl⟩, ?_⟩⟩, fun i hi => rfl, Nat.zero_le _, Nat.zero_le _⟩
  · exact ⟨Nat.zero_le _, fun i hi => absurd hi (Nat.not_lt_zero i), fun b hb => ⟨0, by omega, rfl⟩⟩
  · exact ⟨Nat.zero_le _, fun i hi => absurd hi (Nat.not_lt_zero i), fun b hb => ⟨0, by omega, rfl⟩⟩
theorem c_Init {b : Nat} (ha : hs.1 b = some (0, [.null, .null, .null, .long 0, .int 0])) (hz : hs.2.1 = b + 1) (hw : mx_wf hs) (k : ∀ hs2, lb_ob hs2 b so_0 → (∀ q, q < b → hs2.1 q = hs.1 q) → hs2.2.1 = b + 42 → hs2.2.2 ≤ hs.2.2 + 1000 → mx_wf hs2 → Q none hs2) : mx_C mx_S0 l G (d + 4) mm_LB_init [.ref b] hs Q := by
  refine wp_LB_init_0 (d := d + 3) _ (fun hs1 e1 => ?_)
  have w1 : mx_wf hs1 := by rw [e1]; exact hw.nw
  have c1 : hs1.1 hs.2.1 = some (1, [.null, .null, .int 0, .int 0, .int 0]) := by rw [e1, mx_nw_eq]
  have o1 : ∀ q, q ≤ b → hs1.1 q = hs.1 q := fun q hq => by rw [e1, mx_nw_ne _ _ _ (by omega)]
  have z1 : hs1.2 = (b + 2, hs.2.2 + 5) := by rw [e1]; show (hs.2.1 + 1, hs.2.2 + 5) = _; rw [hz]
  rw [hz] at c1 ⊢
  refine c_TextInit (d := d + 2) c1 (by rw [z1]) w1 (fun hs3 t1 t2 t3 t4 => ⟨rfl, _, (t2 b (by omega)).trans ((o1 b (Nat.le_refl _)).trans ha), fun hs5 e5 hs6 e6 => ?_⟩)
  have a3 : hs3.1 b = some (0, [.null, .null, .null, .long 0, .int 0]) := (t2 b (by omega)).trans ((o1 b (Nat.le_refl _)).trans ha)
  have a5 : hs5.1 b = some (0, [.ref (b + 1), .null, .null, .long 0, .int 0]) := by rw [e5, mx_st_eq]; rfl
  have z5 : hs5.2 = (b + 4, hs.2.2 + 53) := by rw [e5]; show hs3.2 = _; rw [t3, z1]
  have z51 : hs5.2.1 = b + 4 := by rw [z5]
  have w5 : mx_wf hs5 := by rw [e5]; exact t4.st a3
  have w6 : mx_wf hs6 := by rw [e6]; exact w5.nw
  have c6 : hs6.1 (b + 4) = some (4, [.null, .null, .int 0, .int 0]) := by rw [e6, ← z51, mx_nw_eq]
  have o6 : ∀ q, q < b + 4 → q ≠ b → hs6.1 q = hs3.1 q := fun q hq hb => by rw [e6, mx_nw_ne _ _ _ (by omega), e5, mx_st_ne _ _ hb]
  have a6 : hs6.1 b = some (0, [.ref (b + 1), .null, .null, .long 0, .int 0]) := by rw [e6, mx_nw_ne _ _ _ (by omega)]; exact a5
  have z6 : hs6.2 = (b + 5, hs.2.2 + 57) := by rw [e6]; show (hs5.2.1 + 1, hs5.2.2 + 4) = _; rw [z5]
  rw [z51]
  refine c_StoreInit (d := d + 2) c6 (by rw [z6]) w6 (fun hs8 s1 s2 s3 => ⟨rfl, _, (s2 b (by omega)).trans a6, fun hs10 e10 hs11 e11 => ?_⟩)
  have a8 : hs8.1 b = some (0, [.ref (b + 1), .null, .null, .long 0, .int 0]) := (s2 b (by omega)).trans a6
  have a10 : hs10.1 b = some (0, [.ref (b + 1), .ref (b + 4), .null, .long 0, .int 0]) := by rw [e10, mx_st_eq]; rfl
  have z10 : hs10.2 = (b + 7, hs.2.2 + 97) := by rw [e10]; show hs8.2 = _; rw [s3, z6]
  have z101 : hs10.2.1 = b + 7 := by rw [z10]
  have w8 : mx_wf hs8 := s1.wf
  have w10 : mx_wf hs10 := by rw [e10]; exact w8.st a8
  have w11 : mx_wf hs11 := by rw [e11]; exact w10.nw
  have c11 : hs11.1 (b + 7) = some (5, [.null, .null, .null, .int 0, .int 0]) := by rw [e11, ← z101, mx_nw_eq]
  have o11 : ∀ q, q < b + 7 → q ≠ b → hs11.1 q = hs8.1 q := fun q hq hb => by rw [e11, mx_nw_ne _ _ _ (by omega), e10, mx_st_ne _ _ hb]
  have a11 : hs11.1 b = some (0, [.ref (b + 1), .ref (b + 4), .null, .long 0, .int 0]) := by rw [e11, mx_nw_ne _ _ _ (by omega)]; exact a10
  have z11 : hs11.2 = (b + 8, hs.2.2 + 102) := by rw [e11]; show (hs10.2.1 + 1, hs10.2.2 + 5) = _; rw [z10]
  rw [z101]
  refine ⟨b + 4, ⟨_, a11, rfl⟩, c_WorkerInit (d := d) (s := b + 4) c11 (by rw [z11]) w11 (fun hs15 v1 v2 v3 v4 v5 v6 v7 => ⟨rfl, _, (v5 b (by omega)).trans a11, fun hs17 e17 => ?_⟩)⟩
  have a15 : hs15.1 b = some (0, [.ref (b + 1), .ref (b + 4), .null, .long 0, .int 0]) := (v5 b (by omega)).trans a11
  have a17 : hs17.1 b = some (0, [.ref (b + 1), .ref (b + 4), .ref (b + 7), .long 0, .int 0]) := by rw [e17, mx_st_eq]; rfl
  refine ⟨_, a17, fun hs19 e19 => ?_⟩
  have a19 : hs19.1 b = some (0, [.ref (b + 1), .ref (b + 4), .ref (b + 7), .long (-1000000000000), .int 0]) := by rw [e19, mx_st_eq]; rfl
  refine ⟨_, a19, fun hs21 e21 => ?_⟩
  have a21 : hs21.1 b = some (0, [.ref (b + 1), .ref (b + 4), .ref (b + 7), .long (-1000000000000), .int (-1)]) := by rw [e21, mx_st_eq]; rfl
  have o21 : ∀ q, q ≠ b → hs21.1 q = hs15.1 q := fun q hq => by rw [e21, mx_st_ne _ _ hq, e19, mx_st_ne _ _ hq, e17, mx_st_ne _ _ hq]
  have w21 : mx_wf hs21 := by rw [e21, e19, e17]; exact ((v7.st a15).st (mx_st_eq _ _ _)).st (mx_st_eq _ _ _)
  have z21 : hs21.2 = (b + 42, hs.2.2 + 858) := by rw [e21, e19, e17]; show hs15.2 = _; rw [v6, z11]
  have oS : ∀ q, q ≠ b → q < b + 7 → hs21.1 q = hs8.1 q := fun q h1 h2 => by rw [o21 q h1, v5 q h2, o11 q h2 h1]
  have oT : ∀ q, q ≠ b → q < b + 4 → hs21.1 q = hs3.1 q := fun q h1 h2 => by rw [oS q h1 (by omega), s2 q h2, o6 q h2 h1]
  refine k hs21 ⟨fun _ => 0, fun _ => 0, List.replicate 292 0, List.replicate 24 0, 0, 0, a21, ?_, ⟨?_, ?_, fun i hi => ?_, ?_, List.length_replicate, ?_, fun i hi => absurd hi (Nat.not_lt_zero i), ⟨fun i hi => ⟨fun z => (by cases z), Or.inl rfl⟩, ?_⟩⟩, fun i hi => ?_, fun i hi => rfl, Nat.zero_le _, Nat.zero_le _⟩ (fun q hq => ?_) (by rw [z21]) (by rw [z21]; exact Nat.add_le_add_left (by decide) _) w21
  · obtain ⟨cs, u1, u2, u3, u4⟩ := t1
    exact ⟨cs, by rw [oT _ (by omega) (by omega)]; exact u1, by rw [oT _ (by omega) (by omega)]; exact u2, by rw [oT _ (by omega) (by omega)]; exact u3, u4⟩
  · rw [o21 _ (by omega)]
    exact v1
  · rw [o21 _ (by omega)]
    exact v2
  · rw [o21 _ (by omega)]
    have := (v3 i hi).1
    rw [show b + 7 + 2 + 4 * i = b + 9 + 4 * i by omega, show b + 7 + 3 + 4 * i = b + 10 + 4 * i by omega] at this
    exact this
  · rw [o21 _ (by omega)]
    exact v4
  · obtain ⟨u1, ⟨ps, u2, u3, u4⟩, ⟨ks, u5, u6, u7⟩, u8, u9, u10, u11, u12⟩ := s1
    exact ⟨by rw [oS _ (by omega) (by omega)]; exact u1, ⟨ps, by rw [oS _ (by omega) (by omega)]; exact u2, u3, u4⟩, ⟨ks, by rw [oS _ (by omega) (by omega)]; exact u5, u6, u7⟩, fun i hi => absurd hi (Nat.not_lt_zero i), fun i hi => absurd hi (Nat.not_lt_zero i), fun i j _ hj => absurd hj (Nat.not_lt_zero j), u11, w21⟩
  · exact ⟨Nat.zero_le _, fun i hi => absurd hi (Nat.not_lt_zero i), fun b hb => ⟨0, by omega, rfl⟩⟩
  · have := (v3 i hi).2
    rw [show b + 7 + 3 + 4 * i = b + 10 + 4 * i by omega] at this
    obtain ⟨cs, u1, u2, u3, u4⟩ := this
    exact ⟨List.replicate 24 0, 0, 0, ⟨cs, by rw [o21 _ (by omega)]; exact u1, by rw [o21 _ (by omega)]; exact u2, by rw [o21 _ (by omega)]; exact u3, u4⟩, fun z => (by cases z)⟩
  · rw [oT q (by omega) (by omega), t2 q (by omega), o1 q (by omega)]
end RIN
