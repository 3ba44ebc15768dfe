/-! THE START: what the tables say. -/
theorem sw_g (C : String) (T : u_T) (k : Nat) : goodWord (u_lay C T k) = true := by
  unfold u_lay
  split <;> rfl
theorem sw_in {q : vw_C} {p : Nat} (h : ∀ k, k < q.2.2 → tables_1[p + 2 * k]? = some (u_lay q.1 q.2.1 k)) : ∀ w ∈ u_ws q.1 q.2.1 q.2.2, w ∈ mx_S0.1 := by
  intro w hw
  obtain ⟨k, hk, rfl⟩ := List.mem_map.mp hw
  exact mx_mem (List.mem_of_getElem? (h k (List.mem_range.mp hk))) (sw_g _ _ k)
theorem sw_0 : mx_okc mx_S0.1 mx_cl0_0 := ⟨sw_in (p := 127) (show ∀ k, k < 5 → tables_1[127 + 2 * k]? = some (u_lay mx_cl0_0.1 mx_cl0_0.2.1 k) by decide +kernel), show ∀ a, a < 5 → ∀ b, b < 5 → a ≠ b → (mxF_0 a).2.1 ≠ (mxF_0 b).2.1 by decide +kernel, show ∀ k, k < 5 → (parseFieldDescriptor (mxF_0 k).2.2.1).isSome = true by decide +kernel⟩
theorem sw_1 : mx_okc mx_S0.1 mx_cl0_1 := ⟨sw_in (p := 32) (show ∀ k, k < 5 → tables_1[32 + 2 * k]? = some (u_lay mx_cl0_1.1 mx_cl0_1.2.1 k) by decide +kernel), show ∀ a, a < 5 → ∀ b, b < 5 → a ≠ b → (mxF_1 a).2.1 ≠ (mxF_1 b).2.1 by decide +kernel, show ∀ k, k < 5 → (parseFieldDescriptor (mxF_1 k).2.2.1).isSome = true by decide +kernel⟩
theorem sw_2 : mx_okc mx_S0.1 mx_cl0_2 := ⟨sw_in (p := 92) (show ∀ k, k < 4 → tables_1[92 + 2 * k]? = some (u_lay mx_cl0_2.1 mx_cl0_2.2.1 k) by decide +kernel), show ∀ a, a < 4 → ∀ b, b < 4 → a ≠ b → (mxF_2 a).2.1 ≠ (mxF_2 b).2.1 by decide +kernel, show ∀ k, k < 4 → (parseFieldDescriptor (mxF_2 k).2.2.1).isSome = true by decide +kernel⟩
theorem sw_3 : mx_okc mx_S0.1 mx_cl0_3 := ⟨sw_in (p := 316) (show ∀ k, k < 6 → tables_1[316 + 2 * k]? = some (u_lay mx_cl0_3.1 mx_cl0_3.2.1 k) by decide +kernel), show ∀ a, a < 6 → ∀ b, b < 6 → a ≠ b → (mxF_3 a).2.1 ≠ (mxF_3 b).2.1 by decide +kernel, show ∀ k, k < 6 → (parseFieldDescriptor (mxF_3 k).2.2.1).isSome = true by decide +kernel⟩
theorem sw_4 : mx_okc mx_S0.1 mx_cl0_4 := ⟨sw_in (p := 59) (show ∀ k, k < 4 → tables_1[59 + 2 * k]? = some (u_lay mx_cl0_4.1 mx_cl0_4.2.1 k) by decide +kernel), show ∀ a, a < 4 → ∀ b, b < 4 → a ≠ b → (mxF_4 a).2.1 ≠ (mxF_4 b).2.1 by decide +kernel, show ∀ k, k < 4 → (parseFieldDescriptor (mxF_4 k).2.2.1).isSome = true by decide +kernel⟩
theorem sw_5 : mx_okc mx_S0.1 mx_cl0_5 := ⟨sw_in (p := 109) (show ∀ k, k < 5 → tables_1[109 + 2 * k]? = some (u_lay mx_cl0_5.1 mx_cl0_5.2.1 k) by decide +kernel), show ∀ a, a < 5 → ∀ b, b < 5 → a ≠ b → (mxF_5 a).2.1 ≠ (mxF_5 b).2.1 by decide +kernel, show ∀ k, k < 5 → (parseFieldDescriptor (mxF_5 k).2.2.1).isSome = true by decide +kernel⟩
theorem sw_6 : mx_okc mx_S0.1 mx_cl0_6 := ⟨sw_in (p := 468) (show ∀ k, k < 36 → tables_1[468 + 2 * k]? = some (u_lay mx_cl0_6.1 mx_cl0_6.2.1 k) by decide +kernel), show ∀ a, a < 36 → ∀ b, b < 36 → a ≠ b → (mxF_6 a).2.1 ≠ (mxF_6 b).2.1 by decide +kernel, show ∀ k, k < 36 → (parseFieldDescriptor (mxF_6 k).2.2.1).isSome = true by decide +kernel⟩
theorem sw_arr {k : Nat} {ty : FieldType} (h : mx_arr0 k = some ty) : ¬ k < 100 := by
  unfold mx_arr0 at h
  split at h <;> first | decide | cases h
theorem sw_cl {ci : Nat} {q : vw_C} (h : mx_S0.2.1[ci]? = some q) : (ci = 0 ∧ q = mx_cl0_0) ∨ (ci = 1 ∧ q = mx_cl0_1) ∨ (ci = 2 ∧ q = mx_cl0_2) ∨ (ci = 3 ∧ q = mx_cl0_3) ∨ (ci = 4 ∧ q = mx_cl0_4) ∨ (ci = 5 ∧ q = mx_cl0_5) ∨ (ci = 6 ∧ q = mx_cl0_6) := by
  have hl : ci < 7 := (List.getElem?_eq_some_iff.mp h).1
  rcases (show ci = 0 ∨ ci = 1 ∨ ci = 2 ∨ ci = 3 ∨ ci = 4 ∨ ci = 5 ∨ ci = 6 by omega) with rfl | rfl | rfl | rfl | rfl | rfl | rfl <;> (have h := Option.some.inj h; subst h)
  · exact Or.inl ⟨rfl, rfl⟩
  · exact Or.inr (Or.inl ⟨rfl, rfl⟩)
  · exact Or.inr (Or.inr (Or.inl ⟨rfl, rfl⟩))
  · exact Or.inr (Or.inr (Or.inr (Or.inl ⟨rfl, rfl⟩)))
  · exact Or.inr (Or.inr (Or.inr (Or.inr (Or.inl ⟨rfl, rfl⟩))))
  · exact Or.inr (Or.inr (Or.inr (Or.inr (Or.inr (Or.inl ⟨rfl, rfl⟩)))))
  · exact Or.inr (Or.inr (Or.inr (Or.inr (Or.inr (Or.inr ⟨rfl, rfl⟩)))))
theorem sw_N : ∀ w ∈ mx_N0, w.onTables = true ∧ mx_nest w = true := by decide +kernel
theorem sw_NT : ∀ w ∈ mx_N0, w ∈ tables_1 := by decide +kernel
theorem sw_ok : mx_okS mx_S0 := by
  refine ⟨fun ci q hq => ?_, fun w hw => (List.mem_filter.mp hw).2, by decide, fun w hw => (sw_N w hw).2, fun k ty h => sw_arr h⟩
  rcases sw_cl hq with ⟨-, rfl⟩ | ⟨-, rfl⟩ | ⟨-, rfl⟩ | ⟨-, rfl⟩ | ⟨-, rfl⟩ | ⟨-, rfl⟩ | ⟨-, rfl⟩
  · exact sw_0
  · exact sw_1
  · exact sw_2
  · exact sw_3
  · exact sw_4
  · exact sw_5
  · exact sw_6
theorem sw_K {s : State} {A : Array Value} {H : Heap} {scr : Cell} (hts : ∀ w ∈ lw_tbl, w.before A s = true) (hscr : s.isArrayOf scr .int) : ∃ G : mx_G, G.2.2.2 = H ∧ G.2.2.1 101 = scr.cls ∧ mx_K mx_S0 G s := by
  have htb : ∀ {i : Nat} {w : Cond}, tables_1[i]? = some w → w.before A s = true := fun h => hts _ (List.mem_append_right _ (List.mem_of_getElem? h))
  have hts0 : ∀ w ∈ mx_S0.1, w.before A s = true := fun w hw => hts w (List.mem_filter.mp hw).1
  obtain ⟨c0, i0, k0⟩ := u_known (C := mx_cl0_0.1) (T := mx_cl0_0.2.1) (N := mx_cl0_0.2.2) (n := 5) hts0 sw_0.1 (htb (i := 11) (by decide +kernel))
  obtain ⟨c1, i1, k1⟩ := u_known (C := mx_cl0_1.1) (T := mx_cl0_1.2.1) (N := mx_cl0_1.2.2) (n := 5) hts0 sw_1.1 (htb (i := 19) (by decide +kernel))
  obtain ⟨c2, i2, k2⟩ := u_known (C := mx_cl0_2.1) (T := mx_cl0_2.2.1) (N := mx_cl0_2.2.2) (n := 4) hts0 sw_2.1 (htb (i := 76) (by decide +kernel))
  obtain ⟨c3, i3, k3⟩ := u_known (C := mx_cl0_3.1) (T := mx_cl0_3.2.1) (N := mx_cl0_3.2.2) (n := 6) hts0 sw_3.1 (htb (i := 298) (by decide +kernel))
  obtain ⟨c4, i4, k4⟩ := u_known (C := mx_cl0_4.1) (T := mx_cl0_4.2.1) (N := mx_cl0_4.2.2) (n := 4) hts0 sw_4.1 (htb (i := 45) (by decide +kernel))
  obtain ⟨c5, i5, k5⟩ := u_known (C := mx_cl0_5.1) (T := mx_cl0_5.2.1) (N := mx_cl0_5.2.2) (n := 5) hts0 sw_5.1 (htb (i := 69) (by decide +kernel))
  obtain ⟨c6, i6, k6⟩ := u_known (C := mx_cl0_6.1) (T := mx_cl0_6.2.1) (N := mx_cl0_6.2.2) (n := 36) hts0 sw_6.1 (htb (i := 427) (by decide +kernel))
  obtain ⟨cI, kI, pI, fI, gI, eI⟩ := Cond.arrayClass_spec (type := .int) (htb (i := 43) (by decide +kernel))
  obtain ⟨cJ, kJ, pJ, fJ, gJ, eJ⟩ := Cond.arrayClass_spec (type := .long) (htb (i := 120) (by decide +kernel))
  obtain ⟨cZ, kZ, pZ, fZ, gZ, eZ⟩ := Cond.arrayClass_spec (type := .boolean) (htb (i := 541) (by decide +kernel))
  have aN : (Cond.arrayOver (.object "LazyBuilder$Name")).before A s = true := htb (i := 75) (by decide +kernel)
  have aP : (Cond.arrayOver (.object "LazyBuilder$Plan")).before A s = true := htb (i := 51) (by decide +kernel)
  obtain ⟨pN, cN, kN, n1, n2, n3, n4, n5⟩ := Cond.arrayOver_spec aN
  obtain ⟨pP, cP, kP, p1, p2, p3, p4, p5⟩ := Cond.arrayOver_spec aP
  obtain ⟨hst, kS, gS, pS, eS⟩ := hscr
  refine ⟨(fun k => match k with | 0 => c0 | 1 => c1 | 2 => c2 | 3 => c3 | 4 => c4 | 5 => c5 | _ => c6, fun k => match k with | 0 => i0 | 1 => i1 | 2 => i2 | 3 => i3 | 4 => i4 | 5 => i5 | _ => i6, fun k => match k with | 101 => scr.cls | 100 => cI | 104 => cI | 102 => cJ | 106 => cJ | 103 => cZ | 107 => cZ | 112 => cN | _ => cP, H), rfl, rfl, sw_ok, fun c q hq => ?_, fun k ty h => ?_, fun w hw => va_Nw.of (sw_N w hw).1 (hts w (List.mem_append_right _ (sw_NT w hw))), fun C hC => ?_⟩
  · rcases sw_cl hq with ⟨rfl, rfl⟩ | ⟨rfl, rfl⟩ | ⟨rfl, rfl⟩ | ⟨rfl, rfl⟩ | ⟨rfl, rfl⟩ | ⟨rfl, rfl⟩ | ⟨rfl, rfl⟩
    · exact k0
    · exact k1
    · exact k2
    · exact k3
    · exact k4
    · exact k5
    · exact k6
  · have h : mx_arr0 k = some ty := h
    unfold mx_arr0 at h
    split at h
    · cases h
      exact ⟨kI, pI, gI, eI, fun _ => fI, fun C hC => by cases hC⟩
    · cases h
      exact ⟨kS, pS, gS, eS, fun q => absurd rfl q, fun C hC => by cases hC⟩
    · cases h
      exact ⟨kJ, pJ, gJ, eJ, fun _ => fJ, fun C hC => by cases hC⟩
    · cases h
      exact ⟨kZ, pZ, gZ, eZ, fun _ => fZ, fun C hC => by cases hC⟩
    · cases h
      exact ⟨kI, pI, gI, eI, fun _ => fI, fun C hC => by cases hC⟩
    · cases h
      exact ⟨kJ, pJ, gJ, eJ, fun _ => fJ, fun C hC => by cases hC⟩
    · cases h
      exact ⟨kZ, pZ, gZ, eZ, fun _ => fZ, fun C hC => by cases hC⟩
    · cases h
      exact ⟨kN, pN, n3, n4, fun _ => n5, fun C hC => by cases hC; exact n1⟩
    · cases h
      exact ⟨kP, pP, p3, p4, fun _ => p5, fun C hC => by cases hC; exact p1⟩
    · cases h
  · rcases List.mem_cons.mp hC with rfl | hC
    · exact va_AO.of aN
    · rw [List.mem_singleton.mp hC]
      exact va_AO.of aP
