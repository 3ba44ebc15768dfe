set_option maxRecDepth 100000 in
theorem wr_mild_0 {l : Launch} {G : mx_G} {r d : Nat} {m : rm_M} {Q : Option Value → rm_M → Prop}  (h : (((-4) < (m.2.2.1 22) → Q (some (.int 0)) m) ∧ (¬ ((-4) < (m.2.2.1 22)) → (((m.2.2.1 22) < (-7) → Q (some (.int 0)) m) ∧ (¬ ((m.2.2.1 22) < (-7)) → Q (some (.int 1)) m))))) : mr_Ok l G r (d + 1) mm_RM_mild 0 [(0, .ref r)] [] m Q := by
  refine mr_start (fun hs0 hs9 h9 f9 => ?_)
  refine mx_aload_nR d_RM_mild_0 rfl 0 rfl ?_
  refine mx_get d_RM_mild_1 (ci := 6) (k := 22) (q := mx_cl0_6) (v := .int (m.2.2.1 22)) rfl (Nat.le_of_ble_eq_true rfl) kw_293 h9.1 rfl ?_
  refine mx_bipush (v := (-4)) d_RM_mild_4 (by decide) ?_
  refine mx_icmp_gt d_RM_mild_6 (fun c9 => ?_) (fun c9 => ?_)
  · replace h := h.1 c9
    refine mx_iconst (v := 0) d_RM_mild_22 (by decide) ?_
    exact mx_ireturn d_RM_mild_23 rfl (mx_nz (Or.inl rfl)) ⟨_, h9, f9.1, f9.2, h⟩
  · replace h := h.2 c9
    refine mx_aload_nR d_RM_mild_9 rfl 0 rfl ?_
    refine mx_get d_RM_mild_10 (ci := 6) (k := 22) (q := mx_cl0_6) (v := .int (m.2.2.1 22)) rfl (Nat.le_of_ble_eq_true rfl) kw_293 h9.1 rfl ?_
    refine mx_bipush (v := (-7)) d_RM_mild_13 (by decide) ?_
    refine mx_icmp_lt d_RM_mild_15 (fun c9 => ?_) (fun c9 => ?_)
    · replace h := h.1 c9
      refine mx_iconst (v := 0) d_RM_mild_22 (by decide) ?_
      exact mx_ireturn d_RM_mild_23 rfl (mx_nz (Or.inl rfl)) ⟨_, h9, f9.1, f9.2, h⟩
    · replace h := h.2 c9
      refine mx_iconst (v := 1) d_RM_mild_18 (by decide) ?_
      refine mx_goto d_RM_mild_19 ?_
      exact mx_ireturn d_RM_mild_23 rfl (mx_nz (Or.inr rfl)) ⟨_, h9, f9.1, f9.2, h⟩
set_option maxRecDepth 100000 in
theorem wr_unwind_0 {l : Launch} {G : mx_G} {r d : Nat} {m : rm_M} {Q : Option Value → rm_M → Prop}  (h : mr_Ok l G r (d + 1) mm_RM_unwind 2 [(0, .ref r), (1, .int 0)] [] m Q) : mr_Ok l G r (d + 1) mm_RM_unwind 0 [(0, .ref r)] [] m Q := by
  refine mr_start (fun hs0 hs9 h9 f9 => ?_)
  refine mx_iconst (v := 0) d_RM_unwind_0 (by decide) ?_
  refine mx_istore_n (lv2 := [(1, .int 0), (0, .ref r)]) d_RM_unwind_1 rfl (Nat.le_of_ble_eq_true rfl) rfl ?_
  exact mx_sub [1, 0] rfl (mr_at h h9 f9)
set_option maxRecDepth 100000 in
theorem wr_unwind_2 {l : Launch} {G : mx_G} {r d : Nat} {m : rm_M} {Q : Option Value → rm_M → Prop} (l1 : Int32) (h : (((m.2.2.1 19) ≤ 0 → mr_Ok l G r (d + 1) mm_RM_unwind 85 [(0, .ref r), (1, .int l1)] [] m Q) ∧ (¬ ((m.2.2.1 19) ≤ 0) → ((¬ l1 = 0 → mr_Ok l G r (d + 1) mm_RM_unwind 85 [(0, .ref r), (1, .int l1)] [] m Q) ∧ (¬ (¬ l1 = 0) → (∀ m1 : rm_M, m1 = rs_s m 19 ((m.2.2.1 19) - 1) → (¬ (m1.2.2.1 19) < 0 ∧ Int32.toNatClampNeg (m1.2.2.1 19) < 100 ∧ mr_C l G r d mm_RM_name [.int (m1.1 12 (Int32.toNatClampNeg (m1.2.2.1 19)))] m1 (fun (r2 : Option Value) (m3 : rm_M) => ∃ x4 : Int32, r2 = some (.int x4) ∧ ((x4 = 0 → mr_Ok l G r (d + 1) mm_RM_unwind 51 [(0, .ref r), (2, .int (m1.1 12 (Int32.toNatClampNeg (m1.2.2.1 19))))] [] m3 Q) ∧ (¬ (x4 = 0) → (¬ ((m1.1 12 (Int32.toNatClampNeg (m1.2.2.1 19))) - 97) < 0 ∧ Int32.toNatClampNeg ((m1.1 12 (Int32.toNatClampNeg (m1.2.2.1 19))) - 97) < 8 ∧ ∀ m5 : rm_M, m5 = rs_i m3 5 (Int32.toNatClampNeg ((m1.1 12 (Int32.toNatClampNeg (m1.2.2.1 19))) - 97)) 0 → mr_Ok l G r (d + 1) mm_RM_unwind 51 [(0, .ref r), (2, .int (m1.1 12 (Int32.toNatClampNeg (m1.2.2.1 19))))] [] m5 Q))))))))))) : mr_Ok l G r (d + 1) mm_RM_unwind 2 [(0, .ref r), (1, .int l1)] [] m Q := by
  refine mr_start (fun hs0 hs9 h9 f9 => ?_)
  refine mx_aload_nR d_RM_unwind_2 rfl 0 rfl ?_
  refine mx_get d_RM_unwind_3 (ci := 6) (k := 19) (q := mx_cl0_6) (v := .int (m.2.2.1 19)) rfl (Nat.le_of_ble_eq_true rfl) kw_294 h9.1 rfl ?_
  refine mx_if_le d_RM_unwind_6 (fun c9 => ?_) (fun c9 => ?_)
  · replace h := h.1 c9
    exact mx_sub [0, 1] rfl (mr_at h h9 f9)
  · replace h := h.2 c9
    refine mx_iload_n d_RM_unwind_9 rfl 1 rfl ?_
    refine mx_if_ne d_RM_unwind_10 (fun c9 => ?_) (fun c9 => ?_)
    · replace h := h.1 c9
      exact mx_sub [0, 1] rfl (mr_at h h9 f9)
    · replace h := h.2 c9
      refine mx_aload_nR d_RM_unwind_13 rfl 0 rfl ?_
      refine mx_dup d_RM_unwind_14 rfl ?_
      refine mx_get d_RM_unwind_15 (ci := 6) (k := 19) (q := mx_cl0_6) (v := .int (m.2.2.1 19)) rfl (Nat.le_of_ble_eq_true rfl) kw_294 h9.1 rfl ?_
      refine mx_iconst (v := 1) d_RM_unwind_18 (by decide) ?_
      refine mx_isub d_RM_unwind_19 ?_
      refine mx_put d_RM_unwind_20 (ci := 6) (k := 19) (q := mx_cl0_6) (ty := .int) rfl (Nat.le_of_ble_eq_true rfl) kw_294 rfl (by decide +kernel) rfl rfl (by omega) h9.1 ?_
      have f9 := mr_frs f9 h9.1 (x := (6, ((List.range 36).map (rm_fv r m)).set 19 (.int ((m.2.2.1 19) - 1)))) rfl
      have h9 := rm_puts h9 19 ((m.2.2.1 19) - 1) (by decide) (by decide) (by decide)
      replace h := h _ rfl
      generalize mx_st _ r (6, ((List.range 36).map (rm_fv r m)).set 19 (.int ((m.2.2.1 19) - 1))) = hs9 at h9 f9 ⊢
      generalize rs_s m 19 ((m.2.2.1 19) - 1) = m1 at h9 h
      refine mx_aload_nR d_RM_unwind_23 rfl 0 rfl ?_
      refine mx_get d_RM_unwind_24 (ci := 6) (k := 12) (q := mx_cl0_6) (v := .ref (r + 10)) rfl (Nat.le_of_ble_eq_true rfl) kw_242 h9.1 rfl ?_
      refine mx_aload_nR d_RM_unwind_27 rfl 0 rfl ?_
      refine mx_get d_RM_unwind_28 (ci := 6) (k := 19) (q := mx_cl0_6) (v := .int (m1.2.2.1 19)) rfl (Nat.le_of_ble_eq_true rfl) kw_294 h9.1 rfl ?_
      obtain ⟨e2_, e3_, h⟩ := h
      refine mx_iald d_RM_unwind_31 (k := 104) rfl (h9.2 12 (by decide) (by decide)) e2_ (rm_aget (by decide) e3_) ?_
      refine mx_istore_n (lv2 := [(2, .int (m1.1 12 (Int32.toNatClampNeg (m1.2.2.1 19)))), (0, .ref r), (1, .int l1)]) d_RM_unwind_32 rfl (Nat.le_of_ble_eq_true rfl) rfl ?_
      refine mx_aload_nR d_RM_unwind_33 rfl 1 rfl ?_
      refine mx_iload_n d_RM_unwind_34 rfl 0 rfl ?_
      refine mx_invV (Y := mm_RM_name) (As := [.int (m1.1 12 (Int32.toNatClampNeg (m1.2.2.1 19)))]) (rest := []) d_RM_unwind_35.1 ok_RM_name kw_261 kw_262 kw_263 rfl rfl (Nat.le_of_ble_eq_true rfl) (Nat.le_of_ble_eq_true rfl) h9.1 (q := mx_cl0_6) rfl rfl (h _ h9) (fun r2 hs8 h => ?_)
      obtain ⟨m3, h9, f8, z8, h⟩ := h
      obtain ⟨x4, e9_, h⟩ := h
      subst e9_
      have f9 := mr_frc f9 f8 z8
      clear f8 z8
      show mx_Ok mx_S0 l G (d + 1) mm_RM_unwind 38 [(2, .int (m1.1 12 (Int32.toNatClampNeg (m1.2.2.1 19)))), (0, .ref r), (1, .int l1)] [.int x4] hs8 _
      refine mx_if_eq d_RM_unwind_38 (fun c9 => ?_) (fun c9 => ?_)
      · replace h := h.1 c9
        exact mx_sub [1, 0] rfl (mr_at h h9 f9)
      · replace h := h.2 c9
        refine mx_aload_nR d_RM_unwind_41 rfl 1 rfl ?_
        refine mx_get d_RM_unwind_42 (ci := 6) (k := 5) (q := mx_cl0_6) (v := .ref (r + 6)) rfl (Nat.le_of_ble_eq_true rfl) kw_237 h9.1 rfl ?_
        refine mx_iload_n d_RM_unwind_45 rfl 0 rfl ?_
        refine mx_bipush (v := 97) d_RM_unwind_46 (by decide) ?_
        refine mx_isub d_RM_unwind_48 ?_
        refine mx_iconst (v := 0) d_RM_unwind_49 (by decide) ?_
        obtain ⟨e2_, e3_, h⟩ := h
        refine mx_zast d_RM_unwind_50 (k := 107) rfl (by decide) (by omega) (Or.inl rfl) (h9.2 5 (by decide) (by decide)) e2_ (rm_alt e3_) ?_
        have f9 : mr_F hs0 (mx_st _ (r + 6) (107, (rm_av m3 5).set (Int32.toNatClampNeg ((m1.1 12 (Int32.toNatClampNeg (m1.2.2.1 19))) - 97)) (.int 0))) := mr_frs f9 (h9.2 5 (by decide) (by decide)) rfl
        have h9 : rm_ob (mx_st _ (r + 6) (107, (rm_av m3 5).set (Int32.toNatClampNeg ((m1.1 12 (Int32.toNatClampNeg (m1.2.2.1 19))) - 97)) (.int 0))) r (rs_i m3 5 (Int32.toNatClampNeg ((m1.1 12 (Int32.toNatClampNeg (m1.2.2.1 19))) - 97)) 0) := rm_aput h9 5 (Int32.toNatClampNeg ((m1.1 12 (Int32.toNatClampNeg (m1.2.2.1 19))) - 97)) 0 (by decide) (by decide)
        replace h := h _ rfl
        generalize mx_st _ (r + 6) (107, (rm_av m3 5).set (Int32.toNatClampNeg ((m1.1 12 (Int32.toNatClampNeg (m1.2.2.1 19))) - 97)) (.int 0)) = hs9 at h9 f9 ⊢
        generalize rs_i m3 5 (Int32.toNatClampNeg ((m1.1 12 (Int32.toNatClampNeg (m1.2.2.1 19))) - 97)) 0 = m5 at h9 h
        exact mx_sub [1, 0] rfl (mr_at h h9 f9)
set_option maxRecDepth 100000 in
theorem wr_unwind_51 {l : Launch} {G : mx_G} {r d : Nat} {m : rm_M} {Q : Option Value → rm_M → Prop} (l2 : Int32) (h : ((¬ l2 = 84 → mr_Ok l G r (d + 1) mm_RM_unwind 80 [(0, .ref r)] [] m Q) ∧ (¬ (¬ l2 = 84) → (¬ (m.2.2.1 19) < 0 ∧ Int32.toNatClampNeg (m.2.2.1 19) < 100 ∧ ((¬ (m.1 15 (Int32.toNatClampNeg (m.2.2.1 19))) = 0 → mr_Ok l G r (d + 1) mm_RM_unwind 80 [(0, .ref r)] [] m Q) ∧ (¬ (¬ (m.1 15 (Int32.toNatClampNeg (m.2.2.1 19))) = 0) → mr_C l G r d mm_RM_mild [] m (fun (r1 : Option Value) (m2 : rm_M) => ∃ x3 : Int32, r1 = some (.int x3) ∧ ((x3 = 0 → mr_Ok l G r (d + 1) mm_RM_unwind 80 [(0, .ref r)] [] m2 Q) ∧ (¬ (x3 = 0) → mr_Ok l G r (d + 1) mm_RM_unwind 81 [(0, .ref r)] [.int 1] m2 Q))))))))) : mr_Ok l G r (d + 1) mm_RM_unwind 51 [(0, .ref r), (2, .int l2)] [] m Q := by
  refine mr_start (fun hs0 hs9 h9 f9 => ?_)
  refine mx_iload_n d_RM_unwind_51 rfl 1 rfl ?_
  refine mx_bipush (v := 84) d_RM_unwind_52 (by decide) ?_
  refine mx_icmp_ne d_RM_unwind_54 (fun c9 => ?_) (fun c9 => ?_)
  · replace h := h.1 c9
    exact mx_sub [0] rfl (mr_at h h9 f9)
  · replace h := h.2 c9
    refine mx_aload_nR d_RM_unwind_57 rfl 0 rfl ?_
    refine mx_get d_RM_unwind_58 (ci := 6) (k := 15) (q := mx_cl0_6) (v := .ref (r + 13)) rfl (Nat.le_of_ble_eq_true rfl) kw_245 h9.1 rfl ?_
    refine mx_aload_nR d_RM_unwind_61 rfl 0 rfl ?_
    refine mx_get d_RM_unwind_62 (ci := 6) (k := 19) (q := mx_cl0_6) (v := .int (m.2.2.1 19)) rfl (Nat.le_of_ble_eq_true rfl) kw_294 h9.1 rfl ?_
    obtain ⟨e2_, e3_, h⟩ := h
    refine mx_iald d_RM_unwind_65 (k := 104) rfl (h9.2 15 (by decide) (by decide)) e2_ (rm_aget (by decide) e3_) ?_
    refine mx_if_ne d_RM_unwind_66 (fun c9 => ?_) (fun c9 => ?_)
    · replace h := h.1 c9
      exact mx_sub [0] rfl (mr_at h h9 f9)
    · replace h := h.2 c9
      refine mx_aload_nR d_RM_unwind_69 rfl 0 rfl ?_
      refine mx_invV (Y := mm_RM_mild) (As := []) (rest := []) d_RM_unwind_70.1 ok_RM_mild kw_319 kw_320 kw_321 rfl rfl (Nat.le_of_ble_eq_true rfl) (Nat.le_of_ble_eq_true rfl) h9.1 (q := mx_cl0_6) rfl rfl (h _ h9) (fun r1 hs8 h => ?_)
      obtain ⟨m2, h9, f8, z8, h⟩ := h
      obtain ⟨x3, e9_, h⟩ := h
      subst e9_
      have f9 := mr_frc f9 f8 z8
      clear f8 z8
      show mx_Ok mx_S0 l G (d + 1) mm_RM_unwind 73 [(0, .ref r), (2, .int l2)] [.int x3] hs8 _
      refine mx_if_eq d_RM_unwind_73 (fun c9 => ?_) (fun c9 => ?_)
      · replace h := h.1 c9
        exact mx_sub [0] rfl (mr_at h h9 f9)
      · replace h := h.2 c9
        refine mx_iconst (v := 1) d_RM_unwind_76 (by decide) ?_
        refine mx_goto d_RM_unwind_77 ?_
        exact mx_sub [0] rfl (mr_at h h9 f9)
set_option maxRecDepth 100000 in
theorem wr_unwind_80 {l : Launch} {G : mx_G} {r d : Nat} {m : rm_M} {Q : Option Value → rm_M → Prop}  (h : mr_Ok l G r (d + 1) mm_RM_unwind 81 [(0, .ref r)] [.int 0] m Q) : mr_Ok l G r (d + 1) mm_RM_unwind 80 [(0, .ref r)] [] m Q := by
  refine mr_start (fun hs0 hs9 h9 f9 => ?_)
  refine mx_iconst (v := 0) d_RM_unwind_80 (by decide) ?_
  exact mx_sub [0] rfl (mr_at h h9 f9)
set_option maxRecDepth 100000 in
theorem wr_unwind_81 {l : Launch} {G : mx_G} {r d : Nat} {m : rm_M} {Q : Option Value → rm_M → Prop} (s0 : Int32) (h : mr_Ok l G r (d + 1) mm_RM_unwind 2 [(0, .ref r), (1, .int s0)] [] m Q) : mr_Ok l G r (d + 1) mm_RM_unwind 81 [(0, .ref r)] [.int s0] m Q := by
  refine mr_start (fun hs0 hs9 h9 f9 => ?_)
  refine mx_istore_n (lv2 := [(1, .int s0), (0, .ref r)]) d_RM_unwind_81 rfl (Nat.le_of_ble_eq_true rfl) rfl ?_
  refine mx_goto d_RM_unwind_82 ?_
  exact mx_sub [1, 0] rfl (mr_at h h9 f9)
set_option maxRecDepth 100000 in
theorem wr_unwind_85 {l : Launch} {G : mx_G} {r d : Nat} {m : rm_M} {Q : Option Value → rm_M → Prop} (l1 : Int32) (h : ((¬ l1 = 0 → (∀ m1 : rm_M, m1 = rs_s m 21 ((m.2.2.1 21) + 1) → (∀ m2 : rm_M, m2 = rs_s m1 22 0 → (¬ (m2.2.2.1 19) < 0 ∧ Int32.toNatClampNeg (m2.2.2.1 19) < 100 ∧ (¬ (m2.2.2.1 19) < 0 ∧ Int32.toNatClampNeg (m2.2.2.1 19) < 100 ∧ mr_C l G r d mm_RM_begin [.int (m2.1 13 (Int32.toNatClampNeg (m2.2.2.1 19))), .int (m2.1 14 (Int32.toNatClampNeg (m2.2.2.1 19)))] m2 (fun (r3 : Option Value) (m4 : rm_M) => r3 = none ∧ Q none m4)))))) ∧ (¬ (¬ l1 = 0) → Q none m))) : mr_Ok l G r (d + 1) mm_RM_unwind 85 [(0, .ref r), (1, .int l1)] [] m Q := by
  refine mr_start (fun hs0 hs9 h9 f9 => ?_)
  refine mx_iload_n d_RM_unwind_85 rfl 1 rfl ?_
  refine mx_if_ne d_RM_unwind_86 (fun c9 => ?_) (fun c9 => ?_)
  · replace h := h.1 c9
    refine mx_aload_nR d_RM_unwind_90 rfl 0 rfl ?_
    refine mx_dup d_RM_unwind_91 rfl ?_
    refine mx_get d_RM_unwind_92 (ci := 6) (k := 21) (q := mx_cl0_6) (v := .int (m.2.2.1 21)) rfl (Nat.le_of_ble_eq_true rfl) kw_322 h9.1 rfl ?_
    refine mx_iconst (v := 1) d_RM_unwind_95 (by decide) ?_
    refine mx_iadd d_RM_unwind_96 ?_
    refine mx_put d_RM_unwind_97 (ci := 6) (k := 21) (q := mx_cl0_6) (ty := .int) rfl (Nat.le_of_ble_eq_true rfl) kw_322 rfl (by decide +kernel) rfl rfl (by omega) h9.1 ?_
    have f9 := mr_frs f9 h9.1 (x := (6, ((List.range 36).map (rm_fv r m)).set 21 (.int ((m.2.2.1 21) + 1)))) rfl
    have h9 := rm_puts h9 21 ((m.2.2.1 21) + 1) (by decide) (by decide) (by decide)
    replace h := h _ rfl
    generalize mx_st _ r (6, ((List.range 36).map (rm_fv r m)).set 21 (.int ((m.2.2.1 21) + 1))) = hs9 at h9 f9 ⊢
    generalize rs_s m 21 ((m.2.2.1 21) + 1) = m1 at h9 h
    refine mx_aload_nR d_RM_unwind_100 rfl 0 rfl ?_
    refine mx_iconst (v := 0) d_RM_unwind_101 (by decide) ?_
    refine mx_put d_RM_unwind_102 (ci := 6) (k := 22) (q := mx_cl0_6) (ty := .int) rfl (Nat.le_of_ble_eq_true rfl) kw_293 rfl (by decide +kernel) rfl rfl (by omega) h9.1 ?_
    have f9 := mr_frs f9 h9.1 (x := (6, ((List.range 36).map (rm_fv r m1)).set 22 (.int 0))) rfl
    have h9 := rm_puts h9 22 0 (by decide) (by decide) (by decide)
    replace h := h _ rfl
    generalize mx_st _ r (6, ((List.range 36).map (rm_fv r m1)).set 22 (.int 0)) = hs9 at h9 f9 ⊢
    generalize rs_s m1 22 0 = m2 at h9 h
    refine mx_aload_nR d_RM_unwind_105 rfl 0 rfl ?_
    refine mx_aload_nR d_RM_unwind_106 rfl 0 rfl ?_
    refine mx_get d_RM_unwind_107 (ci := 6) (k := 13) (q := mx_cl0_6) (v := .ref (r + 11)) rfl (Nat.le_of_ble_eq_true rfl) kw_243 h9.1 rfl ?_
    refine mx_aload_nR d_RM_unwind_110 rfl 0 rfl ?_
    refine mx_get d_RM_unwind_111 (ci := 6) (k := 19) (q := mx_cl0_6) (v := .int (m2.2.2.1 19)) rfl (Nat.le_of_ble_eq_true rfl) kw_294 h9.1 rfl ?_
    obtain ⟨e2_, e3_, h⟩ := h
    refine mx_iald d_RM_unwind_114 (k := 104) rfl (h9.2 13 (by decide) (by decide)) e2_ (rm_aget (by decide) e3_) ?_
    refine mx_aload_nR d_RM_unwind_115 rfl 0 rfl ?_
    refine mx_get d_RM_unwind_116 (ci := 6) (k := 14) (q := mx_cl0_6) (v := .ref (r + 12)) rfl (Nat.le_of_ble_eq_true rfl) kw_244 h9.1 rfl ?_
    refine mx_aload_nR d_RM_unwind_119 rfl 0 rfl ?_
    refine mx_get d_RM_unwind_120 (ci := 6) (k := 19) (q := mx_cl0_6) (v := .int (m2.2.2.1 19)) rfl (Nat.le_of_ble_eq_true rfl) kw_294 h9.1 rfl ?_
    obtain ⟨e2_, e3_, h⟩ := h
    refine mx_iald d_RM_unwind_123 (k := 104) rfl (h9.2 14 (by decide) (by decide)) e2_ (rm_aget (by decide) e3_) ?_
    refine mx_invV (Y := mm_RM_begin) (As := [.int (m2.1 13 (Int32.toNatClampNeg (m2.2.2.1 19))), .int (m2.1 14 (Int32.toNatClampNeg (m2.2.2.1 19)))]) (rest := []) d_RM_unwind_124.1 ok_RM_begin kw_313 kw_314 kw_315 rfl rfl (Nat.le_of_ble_eq_true rfl) (Nat.le_of_ble_eq_true rfl) h9.1 (q := mx_cl0_6) rfl rfl (h _ h9) (fun r3 hs8 h => ?_)
    obtain ⟨m4, h9, f8, z8, h⟩ := h
    obtain ⟨e9_, h⟩ := h
    subst e9_
    have f9 := mr_frc f9 f8 z8
    clear f8 z8
    show mx_Ok mx_S0 l G (d + 1) mm_RM_unwind 127 [(0, .ref r), (1, .int l1)] [] hs8 _
    exact mx_return d_RM_unwind_127 rfl ⟨_, h9, f9.1, f9.2, h⟩
  · replace h := h.2 c9
    exact mx_return d_RM_unwind_89 rfl ⟨_, h9, f9.1, f9.2, h⟩
set_option maxRecDepth 100000 in
theorem wr_work_0 {l : Launch} {G : mx_G} {r d : Nat} {m : rm_M} {Q : Option Value → rm_M → Prop} (l1 : Int32) (l2 : Int32) (h : (∀ m1 : rm_M, m1 = rs_s m 19 0 → (∀ m2 : rm_M, m2 = rs_s m1 20 0 → (∀ m3 : rm_M, m3 = rs_s m2 22 0 → mr_C l G r d mm_RM_begin [.int l1, .int l2] m3 (fun (r4 : Option Value) (m5 : rm_M) => r4 = none ∧ mr_Ok l G r (d + 1) mm_RM_work 21 [(0, .ref r)] [] m5 Q))))) : mr_Ok l G r (d + 1) mm_RM_work 0 [(0, .ref r), (1, .int l1), (2, .int l2)] [] m Q := by
  refine mr_start (fun hs0 hs9 h9 f9 => ?_)
  refine mx_aload_nR d_RM_work_0 rfl 0 rfl ?_
  refine mx_iconst (v := 0) d_RM_work_1 (by decide) ?_
  refine mx_put d_RM_work_2 (ci := 6) (k := 19) (q := mx_cl0_6) (ty := .int) rfl (Nat.le_of_ble_eq_true rfl) kw_294 rfl (by decide +kernel) rfl rfl (by omega) h9.1 ?_
  have f9 := mr_frs f9 h9.1 (x := (6, ((List.range 36).map (rm_fv r m)).set 19 (.int 0))) rfl
  have h9 := rm_puts h9 19 0 (by decide) (by decide) (by decide)
  replace h := h _ rfl
  generalize mx_st _ r (6, ((List.range 36).map (rm_fv r m)).set 19 (.int 0)) = hs9 at h9 f9 ⊢
  generalize rs_s m 19 0 = m1 at h9 h
  refine mx_aload_nR d_RM_work_5 rfl 0 rfl ?_
  refine mx_iconst (v := 0) d_RM_work_6 (by decide) ?_
  refine mx_put d_RM_work_7 (ci := 6) (k := 20) (q := mx_cl0_6) (ty := .int) rfl (Nat.le_of_ble_eq_true rfl) kw_288 rfl (by decide +kernel) rfl rfl (by omega) h9.1 ?_
  have f9 := mr_frs f9 h9.1 (x := (6, ((List.range 36).map (rm_fv r m1)).set 20 (.int 0))) rfl
  have h9 := rm_puts h9 20 0 (by decide) (by decide) (by decide)
  replace h := h _ rfl
  generalize mx_st _ r (6, ((List.range 36).map (rm_fv r m1)).set 20 (.int 0)) = hs9 at h9 f9 ⊢
  generalize rs_s m1 20 0 = m2 at h9 h
  refine mx_aload_nR d_RM_work_10 rfl 0 rfl ?_
  refine mx_iconst (v := 0) d_RM_work_11 (by decide) ?_
  refine mx_put d_RM_work_12 (ci := 6) (k := 22) (q := mx_cl0_6) (ty := .int) rfl (Nat.le_of_ble_eq_true rfl) kw_293 rfl (by decide +kernel) rfl rfl (by omega) h9.1 ?_
  have f9 := mr_frs f9 h9.1 (x := (6, ((List.range 36).map (rm_fv r m2)).set 22 (.int 0))) rfl
  have h9 := rm_puts h9 22 0 (by decide) (by decide) (by decide)
  replace h := h _ rfl
  generalize mx_st _ r (6, ((List.range 36).map (rm_fv r m2)).set 22 (.int 0)) = hs9 at h9 f9 ⊢
  generalize rs_s m2 22 0 = m3 at h9 h
  refine mx_aload_nR d_RM_work_15 rfl 0 rfl ?_
  refine mx_iload_n d_RM_work_16 rfl 1 rfl ?_
  refine mx_iload_n d_RM_work_17 rfl 2 rfl ?_
  refine mx_invV (Y := mm_RM_begin) (As := [.int l1, .int l2]) (rest := []) d_RM_work_18.1 ok_RM_begin kw_313 kw_314 kw_315 rfl rfl (Nat.le_of_ble_eq_true rfl) (Nat.le_of_ble_eq_true rfl) h9.1 (q := mx_cl0_6) rfl rfl (h _ h9) (fun r4 hs8 h => ?_)
  obtain ⟨m5, h9, f8, z8, h⟩ := h
  obtain ⟨e9_, h⟩ := h
  subst e9_
  have f9 := mr_frc f9 f8 z8
  clear f8 z8
  show mx_Ok mx_S0 l G (d + 1) mm_RM_work 21 [(0, .ref r), (1, .int l1), (2, .int l2)] [] hs8 _
  exact mx_sub [0] rfl (mr_at h h9 f9)
set_option maxRecDepth 100000 in
theorem wr_work_21 {l : Launch} {G : mx_G} {r d : Nat} {m : rm_M} {Q : Option Value → rm_M → Prop}  (h : (((m.2.2.1 19) ≤ 0 → (((m.2.2.1 22) = 0 → mr_Ok l G r (d + 1) mm_RM_work 117 [(0, .ref r)] [] m Q) ∧ (¬ ((m.2.2.1 22) = 0) → (∀ m1 : rm_M, m1 = rs_s m 21 ((m.2.2.1 21) + 1) → mr_Ok l G r (d + 1) mm_RM_work 117 [(0, .ref r)] [] m1 Q)))) ∧ (¬ ((m.2.2.1 19) ≤ 0) → (((m.2.2.1 22) = 0 → ((¬ (m.2.2.1 17) = 0 → mr_Ok l G r (d + 1) mm_RM_work 93 [(0, .ref r)] [] m Q) ∧ (¬ (¬ (m.2.2.1 17) = 0) → (¬ ((m.2.2.1 19) - 1) < 0 ∧ Int32.toNatClampNeg ((m.2.2.1 19) - 1) < 100 ∧ (¬ ((((m.2.2.1 19) * 4) - 4) + (m.1 15 (Int32.toNatClampNeg ((m.2.2.1 19) - 1)))) < 0 ∧ Int32.toNatClampNeg ((((m.2.2.1 19) * 4) - 4) + (m.1 15 (Int32.toNatClampNeg ((m.2.2.1 19) - 1)))) < 400 ∧ ∀ m2 : rm_M, m2 = rs_l m 18 (Int32.toNatClampNeg ((((m.2.2.1 19) * 4) - 4) + (m.1 15 (Int32.toNatClampNeg ((m.2.2.1 19) - 1))))) m.2.2.2 → (¬ ((m2.2.2.1 19) - 1) < 0 ∧ Int32.toNatClampNeg ((m2.2.2.1 19) - 1) < 100 ∧ (¬ ((m2.2.2.1 19) - 1) < 0 ∧ Int32.toNatClampNeg ((m2.2.2.1 19) - 1) < 100 ∧ ∀ m3 : rm_M, m3 = rs_i m2 15 (Int32.toNatClampNeg ((m2.2.2.1 19) - 1)) ((m2.1 15 (Int32.toNatClampNeg ((m2.2.2.1 19) - 1))) + 1) → mr_Ok l G r (d + 1) mm_RM_work 93 [(0, .ref r)] [] m3 Q))))))) ∧ (¬ ((m.2.2.1 22) = 0) → mr_C l G r d mm_RM_unwind [] m (fun (r4 : Option Value) (m5 : rm_M) => r4 = none ∧ mr_Ok l G r (d + 1) mm_RM_work 21 [(0, .ref r)] [] m5 Q)))))) : mr_Ok l G r (d + 1) mm_RM_work 21 [(0, .ref r)] [] m Q := by
  refine mr_start (fun hs0 hs9 h9 f9 => ?_)
  refine mx_aload_nR d_RM_work_21 rfl 0 rfl ?_
  refine mx_get d_RM_work_22 (ci := 6) (k := 19) (q := mx_cl0_6) (v := .int (m.2.2.1 19)) rfl (Nat.le_of_ble_eq_true rfl) kw_294 h9.1 rfl ?_
  refine mx_if_le d_RM_work_25 (fun c9 => ?_) (fun c9 => ?_)
  · replace h := h.1 c9
    refine mx_aload_nR d_RM_work_100 rfl 0 rfl ?_
    refine mx_get d_RM_work_101 (ci := 6) (k := 22) (q := mx_cl0_6) (v := .int (m.2.2.1 22)) rfl (Nat.le_of_ble_eq_true rfl) kw_293 h9.1 rfl ?_
    refine mx_if_eq d_RM_work_104 (fun c9 => ?_) (fun c9 => ?_)
    · replace h := h.1 c9
      exact mx_sub [0] rfl (mr_at h h9 f9)
    · replace h := h.2 c9
      refine mx_aload_nR d_RM_work_107 rfl 0 rfl ?_
      refine mx_dup d_RM_work_108 rfl ?_
      refine mx_get d_RM_work_109 (ci := 6) (k := 21) (q := mx_cl0_6) (v := .int (m.2.2.1 21)) rfl (Nat.le_of_ble_eq_true rfl) kw_322 h9.1 rfl ?_
      refine mx_iconst (v := 1) d_RM_work_112 (by decide) ?_
      refine mx_iadd d_RM_work_113 ?_
      refine mx_put d_RM_work_114 (ci := 6) (k := 21) (q := mx_cl0_6) (ty := .int) rfl (Nat.le_of_ble_eq_true rfl) kw_322 rfl (by decide +kernel) rfl rfl (by omega) h9.1 ?_
      have f9 := mr_frs f9 h9.1 (x := (6, ((List.range 36).map (rm_fv r m)).set 21 (.int ((m.2.2.1 21) + 1)))) rfl
      have h9 := rm_puts h9 21 ((m.2.2.1 21) + 1) (by decide) (by decide) (by decide)
      replace h := h _ rfl
      generalize mx_st _ r (6, ((List.range 36).map (rm_fv r m)).set 21 (.int ((m.2.2.1 21) + 1))) = hs9 at h9 f9 ⊢
      generalize rs_s m 21 ((m.2.2.1 21) + 1) = m1 at h9 h
      exact mx_sub [0] rfl (mr_at h h9 f9)
  · replace h := h.2 c9
    refine mx_aload_nR d_RM_work_28 rfl 0 rfl ?_
    refine mx_get d_RM_work_29 (ci := 6) (k := 22) (q := mx_cl0_6) (v := .int (m.2.2.1 22)) rfl (Nat.le_of_ble_eq_true rfl) kw_293 h9.1 rfl ?_
    refine mx_if_eq d_RM_work_32 (fun c9 => ?_) (fun c9 => ?_)
    · replace h := h.1 c9
      refine mx_aload_nR d_RM_work_42 rfl 0 rfl ?_
      refine mx_get d_RM_work_43 (ci := 6) (k := 17) (q := mx_cl0_6) (v := .int (m.2.2.1 17)) rfl (Nat.le_of_ble_eq_true rfl) kw_287 h9.1 rfl ?_
      refine mx_if_ne d_RM_work_46 (fun c9 => ?_) (fun c9 => ?_)
      · replace h := h.1 c9
        exact mx_sub [0] rfl (mr_at h h9 f9)
      · replace h := h.2 c9
        refine mx_aload_nR d_RM_work_49 rfl 0 rfl ?_
        refine mx_get d_RM_work_50 (ci := 6) (k := 18) (q := mx_cl0_6) (v := .ref (r + 15)) rfl (Nat.le_of_ble_eq_true rfl) kw_247 h9.1 rfl ?_
        refine mx_aload_nR d_RM_work_53 rfl 0 rfl ?_
        refine mx_get d_RM_work_54 (ci := 6) (k := 19) (q := mx_cl0_6) (v := .int (m.2.2.1 19)) rfl (Nat.le_of_ble_eq_true rfl) kw_294 h9.1 rfl ?_
        refine mx_iconst (v := 4) d_RM_work_57 (by decide) ?_
        refine mx_imul d_RM_work_58 ?_
        refine mx_iconst (v := 4) d_RM_work_59 (by decide) ?_
        refine mx_isub d_RM_work_60 ?_
        refine mx_aload_nR d_RM_work_61 rfl 0 rfl ?_
        refine mx_get d_RM_work_62 (ci := 6) (k := 15) (q := mx_cl0_6) (v := .ref (r + 13)) rfl (Nat.le_of_ble_eq_true rfl) kw_245 h9.1 rfl ?_
        refine mx_aload_nR d_RM_work_65 rfl 0 rfl ?_
        refine mx_get d_RM_work_66 (ci := 6) (k := 19) (q := mx_cl0_6) (v := .int (m.2.2.1 19)) rfl (Nat.le_of_ble_eq_true rfl) kw_294 h9.1 rfl ?_
        refine mx_iconst (v := 1) d_RM_work_69 (by decide) ?_
        refine mx_isub d_RM_work_70 ?_
        obtain ⟨e2_, e3_, h⟩ := h
        refine mx_iald d_RM_work_71 (k := 104) rfl (h9.2 15 (by decide) (by decide)) e2_ (rm_aget (by decide) e3_) ?_
        refine mx_iadd d_RM_work_72 ?_
        refine mx_aload_nR d_RM_work_73 rfl 0 rfl ?_
        refine mx_get d_RM_work_74 (ci := 6) (k := 23) (q := mx_cl0_6) (v := .long m.2.2.2) rfl (Nat.le_of_ble_eq_true rfl) kw_292 h9.1 rfl ?_
        obtain ⟨e2_, e3_, h⟩ := h
        refine mx_last d_RM_work_77 (k := 106) rfl (by decide) (by omega) (h9.2 18 (by decide) (by decide)) e2_ (rm_alt e3_) ?_
        have f9 : mr_F hs0 (mx_st _ (r + 15) (106, (rm_av m 18).set (Int32.toNatClampNeg ((((m.2.2.1 19) * 4) - 4) + (m.1 15 (Int32.toNatClampNeg ((m.2.2.1 19) - 1))))) (.long m.2.2.2))) := mr_frs f9 (h9.2 18 (by decide) (by decide)) rfl
        have h9 : rm_ob (mx_st _ (r + 15) (106, (rm_av m 18).set (Int32.toNatClampNeg ((((m.2.2.1 19) * 4) - 4) + (m.1 15 (Int32.toNatClampNeg ((m.2.2.1 19) - 1))))) (.long m.2.2.2))) r (rs_l m 18 (Int32.toNatClampNeg ((((m.2.2.1 19) * 4) - 4) + (m.1 15 (Int32.toNatClampNeg ((m.2.2.1 19) - 1))))) m.2.2.2) := rm_aputl h9 18 (Int32.toNatClampNeg ((((m.2.2.1 19) * 4) - 4) + (m.1 15 (Int32.toNatClampNeg ((m.2.2.1 19) - 1))))) m.2.2.2 (by decide) (by decide)
        replace h := h _ rfl
        generalize mx_st _ (r + 15) (106, (rm_av m 18).set (Int32.toNatClampNeg ((((m.2.2.1 19) * 4) - 4) + (m.1 15 (Int32.toNatClampNeg ((m.2.2.1 19) - 1))))) (.long m.2.2.2)) = hs9 at h9 f9 ⊢
        generalize rs_l m 18 (Int32.toNatClampNeg ((((m.2.2.1 19) * 4) - 4) + (m.1 15 (Int32.toNatClampNeg ((m.2.2.1 19) - 1))))) m.2.2.2 = m2 at h9 h
        refine mx_aload_nR d_RM_work_78 rfl 0 rfl ?_
        refine mx_get d_RM_work_79 (ci := 6) (k := 15) (q := mx_cl0_6) (v := .ref (r + 13)) rfl (Nat.le_of_ble_eq_true rfl) kw_245 h9.1 rfl ?_
        refine mx_aload_nR d_RM_work_82 rfl 0 rfl ?_
        refine mx_get d_RM_work_83 (ci := 6) (k := 19) (q := mx_cl0_6) (v := .int (m2.2.2.1 19)) rfl (Nat.le_of_ble_eq_true rfl) kw_294 h9.1 rfl ?_
        refine mx_iconst (v := 1) d_RM_work_86 (by decide) ?_
        refine mx_isub d_RM_work_87 ?_
        refine mx_dup2 d_RM_work_88 rfl rfl ?_
        obtain ⟨e2_, e3_, h⟩ := h
        refine mx_iald d_RM_work_89 (k := 104) rfl (h9.2 15 (by decide) (by decide)) e2_ (rm_aget (by decide) e3_) ?_
        refine mx_iconst (v := 1) d_RM_work_90 (by decide) ?_
        refine mx_iadd d_RM_work_91 ?_
        obtain ⟨e2_, e3_, h⟩ := h
        refine mx_iast d_RM_work_92 (k := 104) rfl (by decide) (by omega) (h9.2 15 (by decide) (by decide)) e2_ (rm_alt e3_) ?_
        have f9 : mr_F hs0 (mx_st _ (r + 13) (104, (rm_av m2 15).set (Int32.toNatClampNeg ((m2.2.2.1 19) - 1)) (.int ((m2.1 15 (Int32.toNatClampNeg ((m2.2.2.1 19) - 1))) + 1)))) := mr_frs f9 (h9.2 15 (by decide) (by decide)) rfl
        have h9 : rm_ob (mx_st _ (r + 13) (104, (rm_av m2 15).set (Int32.toNatClampNeg ((m2.2.2.1 19) - 1)) (.int ((m2.1 15 (Int32.toNatClampNeg ((m2.2.2.1 19) - 1))) + 1)))) r (rs_i m2 15 (Int32.toNatClampNeg ((m2.2.2.1 19) - 1)) ((m2.1 15 (Int32.toNatClampNeg ((m2.2.2.1 19) - 1))) + 1)) := rm_aput h9 15 (Int32.toNatClampNeg ((m2.2.2.1 19) - 1)) ((m2.1 15 (Int32.toNatClampNeg ((m2.2.2.1 19) - 1))) + 1) (by decide) (by decide)
        replace h := h _ rfl
        generalize mx_st _ (r + 13) (104, (rm_av m2 15).set (Int32.toNatClampNeg ((m2.2.2.1 19) - 1)) (.int ((m2.1 15 (Int32.toNatClampNeg ((m2.2.2.1 19) - 1))) + 1))) = hs9 at h9 f9 ⊢
        generalize rs_i m2 15 (Int32.toNatClampNeg ((m2.2.2.1 19) - 1)) ((m2.1 15 (Int32.toNatClampNeg ((m2.2.2.1 19) - 1))) + 1) = m3 at h9 h
        exact mx_sub [0] rfl (mr_at h h9 f9)
    · replace h := h.2 c9
      refine mx_aload_nR d_RM_work_35 rfl 0 rfl ?_
      refine mx_invV (Y := mm_RM_unwind) (As := []) (rest := []) d_RM_work_36.1 ok_RM_unwind kw_323 kw_324 kw_325 rfl rfl (Nat.le_of_ble_eq_true rfl) (Nat.le_of_ble_eq_true rfl) h9.1 (q := mx_cl0_6) rfl rfl (h _ h9) (fun r4 hs8 h => ?_)
      obtain ⟨m5, h9, f8, z8, h⟩ := h
      obtain ⟨e9_, h⟩ := h
      subst e9_
      have f9 := mr_frc f9 f8 z8
      clear f8 z8
      show mx_Ok mx_S0 l G (d + 1) mm_RM_work 39 [(0, .ref r)] [] hs8 _
      refine mx_goto d_RM_work_39 ?_
      exact mx_sub [0] rfl (mr_at h h9 f9)
set_option maxRecDepth 100000 in
theorem wr_work_93 {l : Launch} {G : mx_G} {r d : Nat} {m : rm_M} {Q : Option Value → rm_M → Prop}  (h : mr_C l G r d mm_RM_proceed [] m (fun (r1 : Option Value) (m2 : rm_M) => r1 = none ∧ mr_Ok l G r (d + 1) mm_RM_work 21 [(0, .ref r)] [] m2 Q)) : mr_Ok l G r (d + 1) mm_RM_work 93 [(0, .ref r)] [] m Q := by
  refine mr_start (fun hs0 hs9 h9 f9 => ?_)
  refine mx_aload_nR d_RM_work_93 rfl 0 rfl ?_
  refine mx_invV (Y := mm_RM_proceed) (As := []) (rest := []) d_RM_work_94.1 ok_RM_proceed kw_326 kw_327 kw_328 rfl rfl (Nat.le_of_ble_eq_true rfl) (Nat.le_of_ble_eq_true rfl) h9.1 (q := mx_cl0_6) rfl rfl (h _ h9) (fun r1 hs8 h => ?_)
  obtain ⟨m2, h9, f8, z8, h⟩ := h
  obtain ⟨e9_, h⟩ := h
  subst e9_
  have f9 := mr_frc f9 f8 z8
  clear f8 z8
  show mx_Ok mx_S0 l G (d + 1) mm_RM_work 97 [(0, .ref r)] [] hs8 _
  refine mx_goto d_RM_work_97 ?_
  exact mx_sub [0] rfl (mr_at h h9 f9)
set_option maxRecDepth 100000 in
theorem wr_work_117 {l : Launch} {G : mx_G} {r d : Nat} {m : rm_M} {Q : Option Value → rm_M → Prop}  (h : Q (some (.int (m.2.2.1 22))) m) : mr_Ok l G r (d + 1) mm_RM_work 117 [(0, .ref r)] [] m Q := by
  refine mr_start (fun hs0 hs9 h9 f9 => ?_)
  refine mx_aload_nR d_RM_work_117 rfl 0 rfl ?_
  refine mx_get d_RM_work_118 (ci := 6) (k := 22) (q := mx_cl0_6) (v := .int (m.2.2.1 22)) rfl (Nat.le_of_ble_eq_true rfl) kw_293 h9.1 rfl ?_
  exact mx_ireturn d_RM_work_121 rfl rfl ⟨_, h9, f9.1, f9.2, h⟩
set_option maxRecDepth 100000 in
theorem wr_force_0 {l : Launch} {G : mx_G} {r d : Nat} {m : rm_M} {Q : Option Value → rm_M → Prop} (l1 : Int32) (h : ((l1 < 0 → Q (some (.int (-1))) m) ∧ (¬ (l1 < 0) → ((l1 ≤ 7 → (((m.2.2.1 21) < 30 → (¬ (216 : Int32) < 0 ∧ Int32.toNatClampNeg 216 < 240 ∧ ∀ m1 : rm_M, m1 = rs_i m 0 (Int32.toNatClampNeg 216) (97 + l1) → mr_C l G r d mm_RM_work [.int 9, .int 0] m1 (fun (r2 : Option Value) (m3 : rm_M) => ∃ x4 : Int32, r2 = some (.int x4) ∧ Q (some (.int x4)) m3))) ∧ (¬ ((m.2.2.1 21) < 30) → Q (some (.int (-11))) m))) ∧ (¬ (l1 ≤ 7) → Q (some (.int (-1))) m))))) : mr_Ok l G r (d + 1) mm_RM_force 0 [(0, .ref r), (1, .int l1)] [] m Q := by
  refine mr_start (fun hs0 hs9 h9 f9 => ?_)
  refine mx_iload_n d_RM_force_0 rfl 1 rfl ?_
  refine mx_if_lt d_RM_force_1 (fun c9 => ?_) (fun c9 => ?_)
  · replace h := h.1 c9
    refine mx_iconst (v := -1) d_RM_force_10 (by decide) ?_
    exact mx_ireturn d_RM_force_11 rfl rfl ⟨_, h9, f9.1, f9.2, h⟩
  · replace h := h.2 c9
    refine mx_iload_n d_RM_force_4 rfl 1 rfl ?_
    refine mx_bipush (v := 7) d_RM_force_5 (by decide) ?_
    refine mx_icmp_le d_RM_force_7 (fun c9 => ?_) (fun c9 => ?_)
    · replace h := h.1 c9
      refine mx_aload_nR d_RM_force_12 rfl 0 rfl ?_
      refine mx_get d_RM_force_13 (ci := 6) (k := 21) (q := mx_cl0_6) (v := .int (m.2.2.1 21)) rfl (Nat.le_of_ble_eq_true rfl) kw_322 h9.1 rfl ?_
      refine mx_bipush (v := 30) d_RM_force_16 (by decide) ?_
      refine mx_icmp_lt d_RM_force_18 (fun c9 => ?_) (fun c9 => ?_)
      · replace h := h.1 c9
        refine mx_aload_nR d_RM_force_24 rfl 0 rfl ?_
        refine mx_get d_RM_force_25 (ci := 6) (k := 0) (q := mx_cl0_6) (v := .ref (r + 1)) rfl (Nat.le_of_ble_eq_true rfl) kw_231 h9.1 rfl ?_
        refine mx_sipush (v := 216) d_RM_force_28 (by decide) ?_
        refine mx_bipush (v := 97) d_RM_force_31 (by decide) ?_
        refine mx_iload_n d_RM_force_33 rfl 1 rfl ?_
        refine mx_iadd d_RM_force_34 ?_
        obtain ⟨e2_, e3_, h⟩ := h
        refine mx_iast d_RM_force_35 (k := 104) rfl (by decide) (by omega) (h9.2 0 (by decide) (by decide)) e2_ (rm_alt e3_) ?_
        have f9 : mr_F hs0 (mx_st _ (r + 1) (104, (rm_av m 0).set (Int32.toNatClampNeg 216) (.int (97 + l1)))) := mr_frs f9 (h9.2 0 (by decide) (by decide)) rfl
        have h9 : rm_ob (mx_st _ (r + 1) (104, (rm_av m 0).set (Int32.toNatClampNeg 216) (.int (97 + l1)))) r (rs_i m 0 (Int32.toNatClampNeg 216) (97 + l1)) := rm_aput h9 0 (Int32.toNatClampNeg 216) (97 + l1) (by decide) (by decide)
        replace h := h _ rfl
        generalize mx_st _ (r + 1) (104, (rm_av m 0).set (Int32.toNatClampNeg 216) (.int (97 + l1))) = hs9 at h9 f9 ⊢
        generalize rs_i m 0 (Int32.toNatClampNeg 216) (97 + l1) = m1 at h9 h
        refine mx_aload_nR d_RM_force_36 rfl 0 rfl ?_
        refine mx_bipush (v := 9) d_RM_force_37 (by decide) ?_
        refine mx_iconst (v := 0) d_RM_force_39 (by decide) ?_
        refine mx_invV (Y := mm_RM_work) (As := [.int 9, .int 0]) (rest := []) d_RM_force_40.1 ok_RM_work kw_329 kw_330 kw_331 rfl rfl (Nat.le_of_ble_eq_true rfl) (Nat.le_of_ble_eq_true rfl) h9.1 (q := mx_cl0_6) rfl rfl (h _ h9) (fun r2 hs8 h => ?_)
        obtain ⟨m3, h9, f8, z8, h⟩ := h
        obtain ⟨x4, e9_, h⟩ := h
        subst e9_
        have f9 := mr_frc f9 f8 z8
        clear f8 z8
        show mx_Ok mx_S0 l G (d + 1) mm_RM_force 43 [(0, .ref r), (1, .int l1)] [.int x4] hs8 _
        exact mx_ireturn d_RM_force_43 rfl rfl ⟨_, h9, f9.1, f9.2, h⟩
      · replace h := h.2 c9
        refine mx_bipush (v := (-11)) d_RM_force_21 (by decide) ?_
        exact mx_ireturn d_RM_force_23 rfl rfl ⟨_, h9, f9.1, f9.2, h⟩
    · replace h := h.2 c9
      refine mx_iconst (v := -1) d_RM_force_10 (by decide) ?_
      exact mx_ireturn d_RM_force_11 rfl rfl ⟨_, h9, f9.1, f9.2, h⟩
set_option maxRecDepth 100000 in
theorem wr_show_0 {l : Launch} {G : mx_G} {r d : Nat} {m : rm_M} {Q : Option Value → rm_M → Prop}  (h : mr_C l G r d mm_RM_syntax [] m (fun (r1 : Option Value) (m2 : rm_M) => ∃ x3 : Int32, r1 = some (.int x3) ∧ (¬ (8 : Int32) < 0 ∧ Int32.toNatClampNeg 8 < 9 ∧ ∀ m4 : rm_M, m4 = rs_i m2 1 (Int32.toNatClampNeg 8) 0 → ((x3 = 0 → (((m4.2.2.1 21) < 30 → mr_C l G r d mm_RM_work [.int 8, .int 0] m4 (fun (r5 : Option Value) (m6 : rm_M) => ∃ x7 : Int32, r5 = some (.int x7) ∧ ((¬ x7 = 0 → mr_Ok l G r (d + 1) mm_RM_show 55 [(0, .ref r), (2, .int x7)] [] m6 Q) ∧ (¬ (¬ x7 = 0) → (¬ (8 : Int32) < 0 ∧ Int32.toNatClampNeg 8 < 9 ∧ ∀ m8 : rm_M, m8 = rs_l m6 2 (Int32.toNatClampNeg 8) m6.2.2.2 → mr_Ok l G r (d + 1) mm_RM_show 55 [(0, .ref r), (2, .int x7)] [] m8 Q))))) ∧ (¬ ((m4.2.2.1 21) < 30) → Q (some (.int (-11))) m4))) ∧ (¬ (x3 = 0) → Q (some (.int (-3))) m4))))) : mr_Ok l G r (d + 1) mm_RM_show 0 [(0, .ref r)] [] m Q := by
  refine mr_start (fun hs0 hs9 h9 f9 => ?_)
  refine mx_aload_nR d_RM_show_0 rfl 0 rfl ?_
  refine mx_invV (Y := mm_RM_syntax) (As := []) (rest := []) d_RM_show_1.1 ok_RM_syntax kw_281 kw_282 kw_283 rfl rfl (Nat.le_of_ble_eq_true rfl) (Nat.le_of_ble_eq_true rfl) h9.1 (q := mx_cl0_6) rfl rfl (h _ h9) (fun r1 hs8 h => ?_)
  obtain ⟨m2, h9, f8, z8, h⟩ := h
  obtain ⟨x3, e9_, h⟩ := h
  subst e9_
  have f9 := mr_frc f9 f8 z8
  clear f8 z8
  show mx_Ok mx_S0 l G (d + 1) mm_RM_show 4 [(0, .ref r)] [.int x3] hs8 _
  refine mx_istore_n (lv2 := [(1, .int x3), (0, .ref r)]) d_RM_show_4 rfl (Nat.le_of_ble_eq_true rfl) rfl ?_
  refine mx_aload_nR d_RM_show_5 rfl 1 rfl ?_
  refine mx_get d_RM_show_6 (ci := 6) (k := 1) (q := mx_cl0_6) (v := .ref (r + 2)) rfl (Nat.le_of_ble_eq_true rfl) kw_232 h9.1 rfl ?_
  refine mx_bipush (v := 8) d_RM_show_9 (by decide) ?_
  refine mx_iconst (v := 0) d_RM_show_11 (by decide) ?_
  obtain ⟨e2_, e3_, h⟩ := h
  refine mx_iast d_RM_show_12 (k := 104) rfl (by decide) (by omega) (h9.2 1 (by decide) (by decide)) e2_ (rm_alt e3_) ?_
  have f9 : mr_F hs0 (mx_st _ (r + 2) (104, (rm_av m2 1).set (Int32.toNatClampNeg 8) (.int 0))) := mr_frs f9 (h9.2 1 (by decide) (by decide)) rfl
  have h9 : rm_ob (mx_st _ (r + 2) (104, (rm_av m2 1).set (Int32.toNatClampNeg 8) (.int 0))) r (rs_i m2 1 (Int32.toNatClampNeg 8) 0) := rm_aput h9 1 (Int32.toNatClampNeg 8) 0 (by decide) (by decide)
  replace h := h _ rfl
  generalize mx_st _ (r + 2) (104, (rm_av m2 1).set (Int32.toNatClampNeg 8) (.int 0)) = hs9 at h9 f9 ⊢
  generalize rs_i m2 1 (Int32.toNatClampNeg 8) 0 = m4 at h9 h
  refine mx_iload_n d_RM_show_13 rfl 0 rfl ?_
  refine mx_if_eq d_RM_show_14 (fun c9 => ?_) (fun c9 => ?_)
  · replace h := h.1 c9
    refine mx_aload_nR d_RM_show_20 rfl 1 rfl ?_
    refine mx_get d_RM_show_21 (ci := 6) (k := 21) (q := mx_cl0_6) (v := .int (m4.2.2.1 21)) rfl (Nat.le_of_ble_eq_true rfl) kw_322 h9.1 rfl ?_
    refine mx_bipush (v := 30) d_RM_show_24 (by decide) ?_
    refine mx_icmp_lt d_RM_show_26 (fun c9 => ?_) (fun c9 => ?_)
    · replace h := h.1 c9
      refine mx_aload_nR d_RM_show_32 rfl 1 rfl ?_
      refine mx_bipush (v := 8) d_RM_show_33 (by decide) ?_
      refine mx_iconst (v := 0) d_RM_show_35 (by decide) ?_
      refine mx_invV (Y := mm_RM_work) (As := [.int 8, .int 0]) (rest := []) d_RM_show_36.1 ok_RM_work kw_329 kw_330 kw_331 rfl rfl (Nat.le_of_ble_eq_true rfl) (Nat.le_of_ble_eq_true rfl) h9.1 (q := mx_cl0_6) rfl rfl (h _ h9) (fun r5 hs8 h => ?_)
      obtain ⟨m6, h9, f8, z8, h⟩ := h
      obtain ⟨x7, e9_, h⟩ := h
      subst e9_
      have f9 := mr_frc f9 f8 z8
      clear f8 z8
      show mx_Ok mx_S0 l G (d + 1) mm_RM_show 39 [(1, .int x3), (0, .ref r)] [.int x7] hs8 _
      refine mx_istore_n (lv2 := [(2, .int x7), (1, .int x3), (0, .ref r)]) d_RM_show_39 rfl (Nat.le_of_ble_eq_true rfl) rfl ?_
      refine mx_iload_n d_RM_show_40 rfl 0 rfl ?_
      refine mx_if_ne d_RM_show_41 (fun c9 => ?_) (fun c9 => ?_)
      · replace h := h.1 c9
        exact mx_sub [2, 0] rfl (mr_at h h9 f9)
      · replace h := h.2 c9
        refine mx_aload_nR d_RM_show_44 rfl 2 rfl ?_
        refine mx_get d_RM_show_45 (ci := 6) (k := 2) (q := mx_cl0_6) (v := .ref (r + 3)) rfl (Nat.le_of_ble_eq_true rfl) kw_233 h9.1 rfl ?_
        refine mx_bipush (v := 8) d_RM_show_48 (by decide) ?_
        refine mx_aload_nR d_RM_show_50 rfl 2 rfl ?_
        refine mx_get d_RM_show_51 (ci := 6) (k := 23) (q := mx_cl0_6) (v := .long m6.2.2.2) rfl (Nat.le_of_ble_eq_true rfl) kw_292 h9.1 rfl ?_
        obtain ⟨e2_, e3_, h⟩ := h
        refine mx_last d_RM_show_54 (k := 106) rfl (by decide) (by omega) (h9.2 2 (by decide) (by decide)) e2_ (rm_alt e3_) ?_
        have f9 : mr_F hs0 (mx_st _ (r + 3) (106, (rm_av m6 2).set (Int32.toNatClampNeg 8) (.long m6.2.2.2))) := mr_frs f9 (h9.2 2 (by decide) (by decide)) rfl
        have h9 : rm_ob (mx_st _ (r + 3) (106, (rm_av m6 2).set (Int32.toNatClampNeg 8) (.long m6.2.2.2))) r (rs_l m6 2 (Int32.toNatClampNeg 8) m6.2.2.2) := rm_aputl h9 2 (Int32.toNatClampNeg 8) m6.2.2.2 (by decide) (by decide)
        replace h := h _ rfl
        generalize mx_st _ (r + 3) (106, (rm_av m6 2).set (Int32.toNatClampNeg 8) (.long m6.2.2.2)) = hs9 at h9 f9 ⊢
        generalize rs_l m6 2 (Int32.toNatClampNeg 8) m6.2.2.2 = m8 at h9 h
        exact mx_sub [2, 0] rfl (mr_at h h9 f9)
    · replace h := h.2 c9
      refine mx_bipush (v := (-11)) d_RM_show_29 (by decide) ?_
      exact mx_ireturn d_RM_show_31 rfl rfl ⟨_, h9, f9.1, f9.2, h⟩
  · replace h := h.2 c9
    refine mx_bipush (v := (-3)) d_RM_show_17 (by decide) ?_
    exact mx_ireturn d_RM_show_19 rfl rfl ⟨_, h9, f9.1, f9.2, h⟩
set_option maxRecDepth 100000 in
theorem wr_show_55 {l : Launch} {G : mx_G} {r d : Nat} {m : rm_M} {Q : Option Value → rm_M → Prop} (l2 : Int32) (h : ((¬ l2 = 0 → Q (some (.int l2)) m) ∧ (¬ (¬ l2 = 0) → (¬ (8 : Int32) < 0 ∧ Int32.toNatClampNeg 8 < 9 ∧ ∀ m1 : rm_M, m1 = rs_i m 3 (Int32.toNatClampNeg 8) 1 → Q (some (.int l2)) m1)))) : mr_Ok l G r (d + 1) mm_RM_show 55 [(0, .ref r), (2, .int l2)] [] m Q := by
  refine mr_start (fun hs0 hs9 h9 f9 => ?_)
  refine mx_iload_n d_RM_show_55 rfl 1 rfl ?_
  refine mx_if_ne d_RM_show_56 (fun c9 => ?_) (fun c9 => ?_)
  · replace h := h.1 c9
    refine mx_iload_n d_RM_show_67 rfl 1 rfl ?_
    exact mx_ireturn d_RM_show_68 rfl rfl ⟨_, h9, f9.1, f9.2, h⟩
  · replace h := h.2 c9
    refine mx_aload_nR d_RM_show_59 rfl 0 rfl ?_
    refine mx_get d_RM_show_60 (ci := 6) (k := 3) (q := mx_cl0_6) (v := .ref (r + 4)) rfl (Nat.le_of_ble_eq_true rfl) kw_235 h9.1 rfl ?_
    refine mx_bipush (v := 8) d_RM_show_63 (by decide) ?_
    refine mx_iconst (v := 1) d_RM_show_65 (by decide) ?_
    obtain ⟨e2_, e3_, h⟩ := h
    refine mx_zast d_RM_show_66 (k := 107) rfl (by decide) (by omega) (Or.inr rfl) (h9.2 3 (by decide) (by decide)) e2_ (rm_alt e3_) ?_
    have f9 : mr_F hs0 (mx_st _ (r + 4) (107, (rm_av m 3).set (Int32.toNatClampNeg 8) (.int 1))) := mr_frs f9 (h9.2 3 (by decide) (by decide)) rfl
    have h9 : rm_ob (mx_st _ (r + 4) (107, (rm_av m 3).set (Int32.toNatClampNeg 8) (.int 1))) r (rs_i m 3 (Int32.toNatClampNeg 8) 1) := rm_aput h9 3 (Int32.toNatClampNeg 8) 1 (by decide) (by decide)
    replace h := h _ rfl
    generalize mx_st _ (r + 4) (107, (rm_av m 3).set (Int32.toNatClampNeg 8) (.int 1)) = hs9 at h9 f9 ⊢
    generalize rs_i m 3 (Int32.toNatClampNeg 8) 1 = m1 at h9 h
    refine mx_iload_n d_RM_show_67 rfl 1 rfl ?_
    exact mx_ireturn d_RM_show_68 rfl rfl ⟨_, h9, f9.1, f9.2, h⟩
set_option maxRecDepth 100000 in
theorem wr_part_0 {l : Launch} {G : mx_G} {r d : Nat} {m : rm_M} {Q : Option Value → rm_M → Prop} (l1 : Int32) (l2 : Int32) (h : (¬ ((l1 * 4) + l2) < 0 ∧ Int32.toNatClampNeg ((l1 * 4) + l2) < 124 ∧ mr_C l G r d mm_RM_isNumber [.long (m.2.1 26 (Int32.toNatClampNeg ((l1 * 4) + l2)))] m (fun (r1 : Option Value) (m2 : rm_M) => ∃ x3 : Int32, r1 = some (.int x3) ∧ ((x3 = 0 → (¬ (Int64.toInt32 ((m.2.1 26 (Int32.toNatClampNeg ((l1 * 4) + l2))) - 1000000000000)) < 0 ∧ Int32.toNatClampNeg (Int64.toInt32 ((m.2.1 26 (Int32.toNatClampNeg ((l1 * 4) + l2))) - 1000000000000)) < 31 ∧ Q (some (.long (Int32.toInt64 (m2.1 28 (Int32.toNatClampNeg (Int64.toInt32 ((m.2.1 26 (Int32.toNatClampNeg ((l1 * 4) + l2))) - 1000000000000))))))) m2)) ∧ (¬ (x3 = 0) → Q (some (.long (m.2.1 26 (Int32.toNatClampNeg ((l1 * 4) + l2))))) m2))))) : mr_Ok l G r (d + 1) mm_RM_part 0 [(0, .ref r), (1, .int l1), (2, .int l2)] [] m Q := by
  refine mr_start (fun hs0 hs9 h9 f9 => ?_)
  refine mx_aload_nR d_RM_part_0 rfl 0 rfl ?_
  refine mx_get d_RM_part_1 (ci := 6) (k := 26) (q := mx_cl0_6) (v := .ref (r + 18)) rfl (Nat.le_of_ble_eq_true rfl) kw_250 h9.1 rfl ?_
  refine mx_iload_n d_RM_part_4 rfl 1 rfl ?_
  refine mx_iconst (v := 4) d_RM_part_5 (by decide) ?_
  refine mx_imul d_RM_part_6 ?_
  refine mx_iload_n d_RM_part_7 rfl 2 rfl ?_
  refine mx_iadd d_RM_part_8 ?_
  obtain ⟨e2_, e3_, h⟩ := h
  refine mx_lald d_RM_part_9 (k := 106) rfl (h9.2 26 (by decide) (by decide)) e2_ (rm_agetl (by decide) e3_) ?_
  refine mx_lstore_n (lv2 := [(3, .long (m.2.1 26 (Int32.toNatClampNeg ((l1 * 4) + l2)))), (0, .ref r), (1, .int l1), (2, .int l2)]) d_RM_part_10 rfl (Nat.le_of_ble_eq_true rfl) rfl ?_
  refine mx_aload_nR d_RM_part_11 rfl 1 rfl ?_
  refine mx_lload_n d_RM_part_12 rfl 0 rfl ?_
  refine mx_invV (Y := mm_RM_isNumber) (As := [.long (m.2.1 26 (Int32.toNatClampNeg ((l1 * 4) + l2)))]) (rest := []) d_RM_part_13.1 ok_RM_isNumber kw_296 kw_297 kw_298 rfl rfl (Nat.le_of_ble_eq_true rfl) (Nat.le_of_ble_eq_true rfl) h9.1 (q := mx_cl0_6) rfl rfl (h _ h9) (fun r1 hs8 h => ?_)
  obtain ⟨m2, h9, f8, z8, h⟩ := h
  obtain ⟨x3, e9_, h⟩ := h
  subst e9_
  have f9 := mr_frc f9 f8 z8
  clear f8 z8
  show mx_Ok mx_S0 l G (d + 1) mm_RM_part 16 [(3, .long (m.2.1 26 (Int32.toNatClampNeg ((l1 * 4) + l2)))), (0, .ref r), (1, .int l1), (2, .int l2)] [.int x3] hs8 _
  refine mx_if_eq d_RM_part_16 (fun c9 => ?_) (fun c9 => ?_)
  · replace h := h.1 c9
    refine mx_aload_nR d_RM_part_23 rfl 1 rfl ?_
    refine mx_get d_RM_part_24 (ci := 6) (k := 28) (q := mx_cl0_6) (v := .ref (r + 20)) rfl (Nat.le_of_ble_eq_true rfl) kw_252 h9.1 rfl ?_
    refine mx_lload_n d_RM_part_27 rfl 0 rfl ?_
    refine mx_ldc2 (v := 1000000000000) d_RM_part_28 kw_300 ?_
    refine mx_lsub d_RM_part_31 ?_
    refine mx_l2i d_RM_part_32 ?_
    obtain ⟨e2_, e3_, h⟩ := h
    refine mx_iald d_RM_part_33 (k := 104) rfl (h9.2 28 (by decide) (by decide)) e2_ (rm_aget (by decide) e3_) ?_
    refine mx_i2l d_RM_part_34 ?_
    exact mx_lreturn d_RM_part_35 rfl ⟨_, h9, f9.1, f9.2, h⟩
  · replace h := h.2 c9
    refine mx_lload_n d_RM_part_19 rfl 0 rfl ?_
    refine mx_goto d_RM_part_20 ?_
    exact mx_lreturn d_RM_part_35 rfl ⟨_, h9, f9.1, f9.2, h⟩
set_option maxRecDepth 100000 in
theorem wr_assemble_0 {l : Launch} {G : mx_G} {r d : Nat} {m : rm_M} {Q : Option Value → rm_M → Prop} (l1 : Int32) (h : (¬ l1 < 0 ∧ Int32.toNatClampNeg l1 < 31 ∧ (¬ (m.1 24 (Int32.toNatClampNeg l1)) < 0 ∧ Int32.toNatClampNeg (m.1 24 (Int32.toNatClampNeg l1)) < 10 ∧ mr_Ok l G r (d + 1) mm_RM_assemble 23 [(0, .ref r), (1, .int l1), (2, .int (m.1 31 (Int32.toNatClampNeg (m.1 24 (Int32.toNatClampNeg l1))))), (3, .int 0), (4, .int 1), (5, .int 0), (6, .int 0)] [] m Q))) : mr_Ok l G r (d + 1) mm_RM_assemble 0 [(0, .ref r), (1, .int l1)] [] m Q := by
  refine mr_start (fun hs0 hs9 h9 f9 => ?_)
  refine mx_aload_nR d_RM_assemble_0 rfl 0 rfl ?_
  refine mx_get d_RM_assemble_1 (ci := 6) (k := 31) (q := mx_cl0_6) (v := .ref (r + 23)) rfl (Nat.le_of_ble_eq_true rfl) kw_255 h9.1 rfl ?_
  refine mx_aload_nR d_RM_assemble_4 rfl 0 rfl ?_
  refine mx_get d_RM_assemble_5 (ci := 6) (k := 24) (q := mx_cl0_6) (v := .ref (r + 16)) rfl (Nat.le_of_ble_eq_true rfl) kw_248 h9.1 rfl ?_
  refine mx_iload_n d_RM_assemble_8 rfl 1 rfl ?_
  obtain ⟨e2_, e3_, h⟩ := h
  refine mx_iald d_RM_assemble_9 (k := 104) rfl (h9.2 24 (by decide) (by decide)) e2_ (rm_aget (by decide) e3_) ?_
  obtain ⟨e2_, e3_, h⟩ := h
  refine mx_iald d_RM_assemble_10 (k := 104) rfl (h9.2 31 (by decide) (by decide)) e2_ (rm_aget (by decide) e3_) ?_
  refine mx_istore_n (lv2 := [(2, .int (m.1 31 (Int32.toNatClampNeg (m.1 24 (Int32.toNatClampNeg l1))))), (0, .ref r), (1, .int l1)]) d_RM_assemble_11 rfl (Nat.le_of_ble_eq_true rfl) rfl ?_
  refine mx_iconst (v := 0) d_RM_assemble_12 (by decide) ?_
  refine mx_istore_n (lv2 := [(3, .int 0), (2, .int (m.1 31 (Int32.toNatClampNeg (m.1 24 (Int32.toNatClampNeg l1))))), (0, .ref r), (1, .int l1)]) d_RM_assemble_13 rfl (Nat.le_of_ble_eq_true rfl) rfl ?_
  refine mx_iconst (v := 1) d_RM_assemble_14 (by decide) ?_
  refine mx_istore (lv2 := [(4, .int 1), (3, .int 0), (2, .int (m.1 31 (Int32.toNatClampNeg (m.1 24 (Int32.toNatClampNeg l1))))), (0, .ref r), (1, .int l1)]) d_RM_assemble_15 (Nat.le_of_ble_eq_true rfl) rfl ?_
  refine mx_iconst (v := 0) d_RM_assemble_17 (by decide) ?_
  refine mx_istore (lv2 := [(5, .int 0), (4, .int 1), (3, .int 0), (2, .int (m.1 31 (Int32.toNatClampNeg (m.1 24 (Int32.toNatClampNeg l1))))), (0, .ref r), (1, .int l1)]) d_RM_assemble_18 (Nat.le_of_ble_eq_true rfl) rfl ?_
  refine mx_iconst (v := 0) d_RM_assemble_20 (by decide) ?_
  refine mx_istore (lv2 := [(6, .int 0), (5, .int 0), (4, .int 1), (3, .int 0), (2, .int (m.1 31 (Int32.toNatClampNeg (m.1 24 (Int32.toNatClampNeg l1))))), (0, .ref r), (1, .int l1)]) d_RM_assemble_21 (Nat.le_of_ble_eq_true rfl) rfl ?_
  exact mx_sub [5, 6, 4, 3, 2, 1, 0] rfl (mr_at h h9 f9)
set_option maxRecDepth 100000 in
theorem wr_assemble_23 {l : Launch} {G : mx_G} {r d : Nat} {m : rm_M} {Q : Option Value → rm_M → Prop} (l1 : Int32) (l2 : Int32) (l3 : Int32) (l4 : Int32) (l5 : Int32) (l6 : Int32) (h : (¬ l1 < 0 ∧ Int32.toNatClampNeg l1 < 31 ∧ (((m.1 25 (Int32.toNatClampNeg l1)) ≤ l6 → ((l2 = 4 → Q (some (.int 0)) m) ∧ (¬ (l2 = 4) → ((¬ l2 = 3 → mr_Ok l G r (d + 1) mm_RM_assemble 97 [(0, .ref r), (1, .int l1), (2, .int l2), (3, .int l3), (4, .int l4), (5, .int l5)] [] m Q) ∧ (¬ (¬ l2 = 3) → ((l5 < 100 → mr_Ok l G r (d + 1) mm_RM_assemble 97 [(0, .ref r), (1, .int l1), (2, .int l2), (3, .int l3), (4, .int l4), (5, .int l5)] [] m Q) ∧ (¬ (l5 < 100) → Q (some (.int 0)) m))))))) ∧ (¬ ((m.1 25 (Int32.toNatClampNeg l1)) ≤ l6) → mr_C l G r d mm_RM_part [.int l1, .int l6] m (fun (r1 : Option Value) (m2 : rm_M) => ∃ x3 : Int64, r1 = some (.long x3) ∧ ((l6 = 0 → mr_Ok l G r (d + 1) mm_RM_assemble 68 [(0, .ref r), (1, .int l1), (2, .int l2), (3, .int (l3 + (Int64.toInt32 x3))), (4, .int (l4 * (Int64.toInt32 x3))), (6, .int l6), (7, .int (Int64.toInt32 x3))] [] m2 Q) ∧ (¬ (l6 = 0) → (((Int64.toInt32 x3) ≤ l5 → mr_Ok l G r (d + 1) mm_RM_assemble 72 [(0, .ref r), (1, .int l1), (2, .int l2), (3, .int (l3 + (Int64.toInt32 x3))), (4, .int (l4 * (Int64.toInt32 x3))), (5, .int l5), (6, .int l6)] [] m2 Q) ∧ (¬ ((Int64.toInt32 x3) ≤ l5) → mr_Ok l G r (d + 1) mm_RM_assemble 68 [(0, .ref r), (1, .int l1), (2, .int l2), (3, .int (l3 + (Int64.toInt32 x3))), (4, .int (l4 * (Int64.toInt32 x3))), (6, .int l6), (7, .int (Int64.toInt32 x3))] [] m2 Q))))))))) : mr_Ok l G r (d + 1) mm_RM_assemble 23 [(0, .ref r), (1, .int l1), (2, .int l2), (3, .int l3), (4, .int l4), (5, .int l5), (6, .int l6)] [] m Q := by
  refine mr_start (fun hs0 hs9 h9 f9 => ?_)
  refine mx_iload d_RM_assemble_23 6 rfl ?_
  refine mx_aload_nR d_RM_assemble_25 rfl 0 rfl ?_
  refine mx_get d_RM_assemble_26 (ci := 6) (k := 25) (q := mx_cl0_6) (v := .ref (r + 17)) rfl (Nat.le_of_ble_eq_true rfl) kw_249 h9.1 rfl ?_
  refine mx_iload_n d_RM_assemble_29 rfl 1 rfl ?_
  obtain ⟨e2_, e3_, h⟩ := h
  refine mx_iald d_RM_assemble_30 (k := 104) rfl (h9.2 25 (by decide) (by decide)) e2_ (rm_aget (by decide) e3_) ?_
  refine mx_icmp_ge d_RM_assemble_31 (fun c9 => ?_) (fun c9 => ?_)
  · replace h := h.1 c9
    refine mx_iload_n d_RM_assemble_78 rfl 2 rfl ?_
    refine mx_iconst (v := 4) d_RM_assemble_79 (by decide) ?_
    refine mx_icmp_eq d_RM_assemble_80 (fun c9 => ?_) (fun c9 => ?_)
    · replace h := h.1 c9
      refine mx_iconst (v := 0) d_RM_assemble_95 (by decide) ?_
      exact mx_ireturn d_RM_assemble_96 rfl (mx_nz (Or.inl rfl)) ⟨_, h9, f9.1, f9.2, h⟩
    · replace h := h.2 c9
      refine mx_iload_n d_RM_assemble_83 rfl 2 rfl ?_
      refine mx_iconst (v := 3) d_RM_assemble_84 (by decide) ?_
      refine mx_icmp_ne d_RM_assemble_85 (fun c9 => ?_) (fun c9 => ?_)
      · replace h := h.1 c9
        exact mx_sub [0, 1, 2, 3, 4, 5] rfl (mr_at h h9 f9)
      · replace h := h.2 c9
        refine mx_iload d_RM_assemble_88 5 rfl ?_
        refine mx_bipush (v := 100) d_RM_assemble_90 (by decide) ?_
        refine mx_icmp_lt d_RM_assemble_92 (fun c9 => ?_) (fun c9 => ?_)
        · replace h := h.1 c9
          exact mx_sub [0, 1, 2, 3, 4, 5] rfl (mr_at h h9 f9)
        · replace h := h.2 c9
          refine mx_iconst (v := 0) d_RM_assemble_95 (by decide) ?_
          exact mx_ireturn d_RM_assemble_96 rfl (mx_nz (Or.inl rfl)) ⟨_, h9, f9.1, f9.2, h⟩
  · replace h := h.2 c9
    refine mx_aload_nR d_RM_assemble_34 rfl 0 rfl ?_
    refine mx_iload_n d_RM_assemble_35 rfl 1 rfl ?_
    refine mx_iload d_RM_assemble_36 6 rfl ?_
    refine mx_invV (Y := mm_RM_part) (As := [.int l1, .int l6]) (rest := []) d_RM_assemble_38.1 ok_RM_part kw_332 kw_333 kw_334 rfl rfl (Nat.le_of_ble_eq_true rfl) (Nat.le_of_ble_eq_true rfl) h9.1 (q := mx_cl0_6) rfl rfl (h _ h9) (fun r1 hs8 h => ?_)
    obtain ⟨m2, h9, f8, z8, h⟩ := h
    obtain ⟨x3, e9_, h⟩ := h
    subst e9_
    have f9 := mr_frc f9 f8 z8
    clear f8 z8
    show mx_Ok mx_S0 l G (d + 1) mm_RM_assemble 41 [(0, .ref r), (1, .int l1), (2, .int l2), (3, .int l3), (4, .int l4), (5, .int l5), (6, .int l6)] [.long x3] hs8 _
    refine mx_l2i d_RM_assemble_41 ?_
    refine mx_istore (lv2 := [(7, .int (Int64.toInt32 x3)), (0, .ref r), (1, .int l1), (2, .int l2), (3, .int l3), (4, .int l4), (5, .int l5), (6, .int l6)]) d_RM_assemble_42 (Nat.le_of_ble_eq_true rfl) rfl ?_
    refine mx_iload_n d_RM_assemble_44 rfl 4 rfl ?_
    refine mx_iload d_RM_assemble_45 0 rfl ?_
    refine mx_iadd d_RM_assemble_47 ?_
    refine mx_istore_n (lv2 := [(3, .int (l3 + (Int64.toInt32 x3))), (7, .int (Int64.toInt32 x3)), (0, .ref r), (1, .int l1), (2, .int l2), (4, .int l4), (5, .int l5), (6, .int l6)]) d_RM_assemble_48 rfl (Nat.le_of_ble_eq_true rfl) rfl ?_
    refine mx_iload d_RM_assemble_49 5 rfl ?_
    refine mx_iload d_RM_assemble_51 1 rfl ?_
    refine mx_imul d_RM_assemble_53 ?_
    refine mx_istore (lv2 := [(4, .int (l4 * (Int64.toInt32 x3))), (3, .int (l3 + (Int64.toInt32 x3))), (7, .int (Int64.toInt32 x3)), (0, .ref r), (1, .int l1), (2, .int l2), (5, .int l5), (6, .int l6)]) d_RM_assemble_54 (Nat.le_of_ble_eq_true rfl) rfl ?_
    refine mx_iload d_RM_assemble_56 7 rfl ?_
    refine mx_if_eq d_RM_assemble_58 (fun c9 => ?_) (fun c9 => ?_)
    · replace h := h.1 c9
      exact mx_sub [3, 4, 5, 1, 0, 7, 2] rfl (mr_at h h9 f9)
    · replace h := h.2 c9
      refine mx_iload d_RM_assemble_61 2 rfl ?_
      refine mx_iload d_RM_assemble_63 6 rfl ?_
      refine mx_icmp_le d_RM_assemble_65 (fun c9 => ?_) (fun c9 => ?_)
      · replace h := h.1 c9
        exact mx_sub [3, 4, 5, 1, 0, 6, 7] rfl (mr_at h h9 f9)
      · replace h := h.2 c9
        exact mx_sub [3, 4, 5, 1, 0, 7, 2] rfl (mr_at h h9 f9)
set_option maxRecDepth 100000 in
theorem wr_assemble_68 {l : Launch} {G : mx_G} {r d : Nat} {m : rm_M} {Q : Option Value → rm_M → Prop} (l1 : Int32) (l2 : Int32) (l3 : Int32) (l4 : Int32) (l6 : Int32) (l7 : Int32) (h : mr_Ok l G r (d + 1) mm_RM_assemble 72 [(0, .ref r), (1, .int l1), (2, .int l2), (3, .int l3), (4, .int l4), (5, .int l7), (6, .int l6)] [] m Q) : mr_Ok l G r (d + 1) mm_RM_assemble 68 [(0, .ref r), (1, .int l1), (2, .int l2), (3, .int l3), (4, .int l4), (6, .int l6), (7, .int l7)] [] m Q := by
  refine mr_start (fun hs0 hs9 h9 f9 => ?_)
  refine mx_iload d_RM_assemble_68 6 rfl ?_
  refine mx_istore (lv2 := [(5, .int l7), (0, .ref r), (1, .int l1), (2, .int l2), (3, .int l3), (4, .int l4), (6, .int l6), (7, .int l7)]) d_RM_assemble_70 (Nat.le_of_ble_eq_true rfl) rfl ?_
  exact mx_sub [1, 2, 3, 4, 5, 0, 6] rfl (mr_at h h9 f9)
set_option maxRecDepth 100000 in
theorem wr_assemble_72 {l : Launch} {G : mx_G} {r d : Nat} {m : rm_M} {Q : Option Value → rm_M → Prop} (l1 : Int32) (l2 : Int32) (l3 : Int32) (l4 : Int32) (l5 : Int32) (l6 : Int32) (h : mr_Ok l G r (d + 1) mm_RM_assemble 23 [(0, .ref r), (1, .int l1), (2, .int l2), (3, .int l3), (4, .int l4), (5, .int l5), (6, .int (l6 + 1))] [] m Q) : mr_Ok l G r (d + 1) mm_RM_assemble 72 [(0, .ref r), (1, .int l1), (2, .int l2), (3, .int l3), (4, .int l4), (5, .int l5), (6, .int l6)] [] m Q := by
  refine mr_start (fun hs0 hs9 h9 f9 => ?_)
  refine mx_iinc (v := l6 + 1) (lv2 := [(6, .int (l6 + 1)), (0, .ref r), (1, .int l1), (2, .int l2), (3, .int l3), (4, .int l4), (5, .int l5)]) d_RM_assemble_72 6 rfl (by rfl) (Nat.le_of_ble_eq_true rfl) rfl ?_
  refine mx_goto d_RM_assemble_75 ?_
  exact mx_sub [1, 2, 3, 4, 5, 6, 0] rfl (mr_at h h9 f9)
set_option maxRecDepth 100000 in
theorem wr_assemble_97 {l : Launch} {G : mx_G} {r d : Nat} {m : rm_M} {Q : Option Value → rm_M → Prop} (l1 : Int32) (l2 : Int32) (l3 : Int32) (l4 : Int32) (l5 : Int32) (h : ((¬ l2 = 0 → ((¬ l2 = 1 → ((¬ l2 = 2 → (¬ l1 < 0 ∧ Int32.toNatClampNeg l1 < 31 ∧ mr_Ok l G r (d + 1) mm_RM_assemble 136 [(0, .ref r), (1, .int l1)] [.int (m.1 25 (Int32.toNatClampNeg l1)), .int l1, .ref (r + 20)] m Q)) ∧ (¬ (¬ l2 = 2) → mr_Ok l G r (d + 1) mm_RM_assemble 136 [(0, .ref r), (1, .int l1)] [.int l5, .int l1, .ref (r + 20)] m Q))) ∧ (¬ (¬ l2 = 1) → mr_Ok l G r (d + 1) mm_RM_assemble 136 [(0, .ref r), (1, .int l1)] [.int l4, .int l1, .ref (r + 20)] m Q))) ∧ (¬ (¬ l2 = 0) → mr_Ok l G r (d + 1) mm_RM_assemble 136 [(0, .ref r), (1, .int l1)] [.int l3, .int l1, .ref (r + 20)] m Q))) : mr_Ok l G r (d + 1) mm_RM_assemble 97 [(0, .ref r), (1, .int l1), (2, .int l2), (3, .int l3), (4, .int l4), (5, .int l5)] [] m Q := by
  refine mr_start (fun hs0 hs9 h9 f9 => ?_)
  refine mx_aload_nR d_RM_assemble_97 rfl 0 rfl ?_
  refine mx_get d_RM_assemble_98 (ci := 6) (k := 28) (q := mx_cl0_6) (v := .ref (r + 20)) rfl (Nat.le_of_ble_eq_true rfl) kw_252 h9.1 rfl ?_
  refine mx_iload_n d_RM_assemble_101 rfl 1 rfl ?_
  refine mx_iload_n d_RM_assemble_102 rfl 2 rfl ?_
  refine mx_if_ne d_RM_assemble_103 (fun c9 => ?_) (fun c9 => ?_)
  · replace h := h.1 c9
    refine mx_iload_n d_RM_assemble_110 rfl 2 rfl ?_
    refine mx_iconst (v := 1) d_RM_assemble_111 (by decide) ?_
    refine mx_icmp_ne d_RM_assemble_112 (fun c9 => ?_) (fun c9 => ?_)
    · replace h := h.1 c9
      refine mx_iload_n d_RM_assemble_120 rfl 2 rfl ?_
      refine mx_iconst (v := 2) d_RM_assemble_121 (by decide) ?_
      refine mx_icmp_ne d_RM_assemble_122 (fun c9 => ?_) (fun c9 => ?_)
      · replace h := h.1 c9
        refine mx_aload_nR d_RM_assemble_130 rfl 0 rfl ?_
        refine mx_get d_RM_assemble_131 (ci := 6) (k := 25) (q := mx_cl0_6) (v := .ref (r + 17)) rfl (Nat.le_of_ble_eq_true rfl) kw_249 h9.1 rfl ?_
        refine mx_iload_n d_RM_assemble_134 rfl 1 rfl ?_
        obtain ⟨e2_, e3_, h⟩ := h
        refine mx_iald d_RM_assemble_135 (k := 104) rfl (h9.2 25 (by decide) (by decide)) e2_ (rm_aget (by decide) e3_) ?_
        exact mx_sub [0, 1] rfl (mr_at h h9 f9)
      · replace h := h.2 c9
        refine mx_iload d_RM_assemble_125 5 rfl ?_
        refine mx_goto d_RM_assemble_127 ?_
        exact mx_sub [0, 1] rfl (mr_at h h9 f9)
    · replace h := h.2 c9
      refine mx_iload d_RM_assemble_115 4 rfl ?_
      refine mx_goto d_RM_assemble_117 ?_
      exact mx_sub [0, 1] rfl (mr_at h h9 f9)
  · replace h := h.2 c9
    refine mx_iload_n d_RM_assemble_106 rfl 3 rfl ?_
    refine mx_goto d_RM_assemble_107 ?_
    exact mx_sub [0, 1] rfl (mr_at h h9 f9)
set_option maxRecDepth 100000 in
theorem wr_assemble_136 {l : Launch} {G : mx_G} {r d : Nat} {m : rm_M} {Q : Option Value → rm_M → Prop} (l1 : Int32) (s1 : Int32) (s2 : Int32) (h : (¬ s1 < 0 ∧ Int32.toNatClampNeg s1 < 31 ∧ ∀ m1 : rm_M, m1 = rs_i m 28 (Int32.toNatClampNeg s1) s2 → (¬ l1 < 0 ∧ Int32.toNatClampNeg l1 < 31 ∧ ∀ m2 : rm_M, m2 = rs_i m1 27 (Int32.toNatClampNeg l1) 1 → (∀ m3 : rm_M, m3 = rs_s m2 35 ((m2.2.2.1 35) + 1) → Q (some (.int 1)) m3)))) : mr_Ok l G r (d + 1) mm_RM_assemble 136 [(0, .ref r), (1, .int l1)] [.int s2, .int s1, .ref (r + 20)] m Q := by
  refine mr_start (fun hs0 hs9 h9 f9 => ?_)
  obtain ⟨e2_, e3_, h⟩ := h
  refine mx_iast d_RM_assemble_136 (k := 104) rfl (by decide) (by omega) (h9.2 28 (by decide) (by decide)) e2_ (rm_alt e3_) ?_
  have f9 : mr_F hs0 (mx_st _ (r + 20) (104, (rm_av m 28).set (Int32.toNatClampNeg s1) (.int s2))) := mr_frs f9 (h9.2 28 (by decide) (by decide)) rfl
  have h9 : rm_ob (mx_st _ (r + 20) (104, (rm_av m 28).set (Int32.toNatClampNeg s1) (.int s2))) r (rs_i m 28 (Int32.toNatClampNeg s1) s2) := rm_aput h9 28 (Int32.toNatClampNeg s1) s2 (by decide) (by decide)
  replace h := h _ rfl
  generalize mx_st _ (r + 20) (104, (rm_av m 28).set (Int32.toNatClampNeg s1) (.int s2)) = hs9 at h9 f9 ⊢
  generalize rs_i m 28 (Int32.toNatClampNeg s1) s2 = m1 at h9 h
  refine mx_aload_nR d_RM_assemble_137 rfl 0 rfl ?_
  refine mx_get d_RM_assemble_138 (ci := 6) (k := 27) (q := mx_cl0_6) (v := .ref (r + 19)) rfl (Nat.le_of_ble_eq_true rfl) kw_251 h9.1 rfl ?_
  refine mx_iload_n d_RM_assemble_141 rfl 1 rfl ?_
  refine mx_iconst (v := 1) d_RM_assemble_142 (by decide) ?_
  obtain ⟨e2_, e3_, h⟩ := h
  refine mx_zast d_RM_assemble_143 (k := 107) rfl (by decide) (by omega) (Or.inr rfl) (h9.2 27 (by decide) (by decide)) e2_ (rm_alt e3_) ?_
  have f9 : mr_F hs0 (mx_st _ (r + 19) (107, (rm_av m1 27).set (Int32.toNatClampNeg l1) (.int 1))) := mr_frs f9 (h9.2 27 (by decide) (by decide)) rfl
  have h9 : rm_ob (mx_st _ (r + 19) (107, (rm_av m1 27).set (Int32.toNatClampNeg l1) (.int 1))) r (rs_i m1 27 (Int32.toNatClampNeg l1) 1) := rm_aput h9 27 (Int32.toNatClampNeg l1) 1 (by decide) (by decide)
  replace h := h _ rfl
  generalize mx_st _ (r + 19) (107, (rm_av m1 27).set (Int32.toNatClampNeg l1) (.int 1)) = hs9 at h9 f9 ⊢
  generalize rs_i m1 27 (Int32.toNatClampNeg l1) 1 = m2 at h9 h
  refine mx_aload_nR d_RM_assemble_144 rfl 0 rfl ?_
  refine mx_dup d_RM_assemble_145 rfl ?_
  refine mx_get d_RM_assemble_146 (ci := 6) (k := 35) (q := mx_cl0_6) (v := .int (m2.2.2.1 35)) rfl (Nat.le_of_ble_eq_true rfl) kw_335 h9.1 rfl ?_
  refine mx_iconst (v := 1) d_RM_assemble_149 (by decide) ?_
  refine mx_iadd d_RM_assemble_150 ?_
  refine mx_put d_RM_assemble_151 (ci := 6) (k := 35) (q := mx_cl0_6) (ty := .int) rfl (Nat.le_of_ble_eq_true rfl) kw_335 rfl (by decide +kernel) rfl rfl (by omega) h9.1 ?_
  have f9 := mr_frs f9 h9.1 (x := (6, ((List.range 36).map (rm_fv r m2)).set 35 (.int ((m2.2.2.1 35) + 1)))) rfl
  have h9 := rm_puts h9 35 ((m2.2.2.1 35) + 1) (by decide) (by decide) (by decide)
  replace h := h _ rfl
  generalize mx_st _ r (6, ((List.range 36).map (rm_fv r m2)).set 35 (.int ((m2.2.2.1 35) + 1))) = hs9 at h9 f9 ⊢
  generalize rs_s m2 35 ((m2.2.2.1 35) + 1) = m3 at h9 h
  refine mx_iconst (v := 1) d_RM_assemble_154 (by decide) ?_
  exact mx_ireturn d_RM_assemble_155 rfl (mx_nz (Or.inr rfl)) ⟨_, h9, f9.1, f9.2, h⟩
set_option maxRecDepth 100000 in
theorem wr_construct_0 {l : Launch} {G : mx_G} {r d : Nat} {m : rm_M} {Q : Option Value → rm_M → Prop} (l1 : Int32) (h : (¬ (0 : Int32) < 0 ∧ Int32.toNatClampNeg 0 < 32 ∧ ∀ m1 : rm_M, m1 = rs_i m 32 (Int32.toNatClampNeg 0) l1 → (¬ (0 : Int32) < 0 ∧ Int32.toNatClampNeg 0 < 32 ∧ ∀ m2 : rm_M, m2 = rs_i m1 33 (Int32.toNatClampNeg 0) 0 → mr_Ok l G r (d + 1) mm_RM_construct 16 [(0, .ref r), (2, .int 1)] [] m2 Q))) : mr_Ok l G r (d + 1) mm_RM_construct 0 [(0, .ref r), (1, .int l1)] [] m Q := by
  refine mr_start (fun hs0 hs9 h9 f9 => ?_)
  refine mx_iconst (v := 1) d_RM_construct_0 (by decide) ?_
  refine mx_istore_n (lv2 := [(2, .int 1), (0, .ref r), (1, .int l1)]) d_RM_construct_1 rfl (Nat.le_of_ble_eq_true rfl) rfl ?_
  refine mx_aload_nR d_RM_construct_2 rfl 1 rfl ?_
  refine mx_get d_RM_construct_3 (ci := 6) (k := 32) (q := mx_cl0_6) (v := .ref (r + 24)) rfl (Nat.le_of_ble_eq_true rfl) kw_256 h9.1 rfl ?_
  refine mx_iconst (v := 0) d_RM_construct_6 (by decide) ?_
  refine mx_iload_n d_RM_construct_7 rfl 2 rfl ?_
  obtain ⟨e2_, e3_, h⟩ := h
  refine mx_iast d_RM_construct_8 (k := 104) rfl (by decide) (by omega) (h9.2 32 (by decide) (by decide)) e2_ (rm_alt e3_) ?_
  have f9 : mr_F hs0 (mx_st _ (r + 24) (104, (rm_av m 32).set (Int32.toNatClampNeg 0) (.int l1))) := mr_frs f9 (h9.2 32 (by decide) (by decide)) rfl
  have h9 : rm_ob (mx_st _ (r + 24) (104, (rm_av m 32).set (Int32.toNatClampNeg 0) (.int l1))) r (rs_i m 32 (Int32.toNatClampNeg 0) l1) := rm_aput h9 32 (Int32.toNatClampNeg 0) l1 (by decide) (by decide)
  replace h := h _ rfl
  generalize mx_st _ (r + 24) (104, (rm_av m 32).set (Int32.toNatClampNeg 0) (.int l1)) = hs9 at h9 f9 ⊢
  generalize rs_i m 32 (Int32.toNatClampNeg 0) l1 = m1 at h9 h
  refine mx_aload_nR d_RM_construct_9 rfl 1 rfl ?_
  refine mx_get d_RM_construct_10 (ci := 6) (k := 33) (q := mx_cl0_6) (v := .ref (r + 25)) rfl (Nat.le_of_ble_eq_true rfl) kw_257 h9.1 rfl ?_
  refine mx_iconst (v := 0) d_RM_construct_13 (by decide) ?_
  refine mx_iconst (v := 0) d_RM_construct_14 (by decide) ?_
  obtain ⟨e2_, e3_, h⟩ := h
  refine mx_iast d_RM_construct_15 (k := 104) rfl (by decide) (by omega) (h9.2 33 (by decide) (by decide)) e2_ (rm_alt e3_) ?_
  have f9 : mr_F hs0 (mx_st _ (r + 25) (104, (rm_av m1 33).set (Int32.toNatClampNeg 0) (.int 0))) := mr_frs f9 (h9.2 33 (by decide) (by decide)) rfl
  have h9 : rm_ob (mx_st _ (r + 25) (104, (rm_av m1 33).set (Int32.toNatClampNeg 0) (.int 0))) r (rs_i m1 33 (Int32.toNatClampNeg 0) 0) := rm_aput h9 33 (Int32.toNatClampNeg 0) 0 (by decide) (by decide)
  replace h := h _ rfl
  generalize mx_st _ (r + 25) (104, (rm_av m1 33).set (Int32.toNatClampNeg 0) (.int 0)) = hs9 at h9 f9 ⊢
  generalize rs_i m1 33 (Int32.toNatClampNeg 0) 0 = m2 at h9 h
  exact mx_sub [1, 0] rfl (mr_at h h9 f9)
set_option maxRecDepth 100000 in
theorem wr_construct_16 {l : Launch} {G : mx_G} {r d : Nat} {m : rm_M} {Q : Option Value → rm_M → Prop} (l2 : Int32) (h : ((l2 ≤ 0 → Q (some (.int 1)) m) ∧ (¬ (l2 ≤ 0) → (¬ (l2 - 1) < 0 ∧ Int32.toNatClampNeg (l2 - 1) < 32 ∧ (¬ (l2 - 1) < 0 ∧ Int32.toNatClampNeg (l2 - 1) < 32 ∧ (¬ (m.1 32 (Int32.toNatClampNeg (l2 - 1))) < 0 ∧ Int32.toNatClampNeg (m.1 32 (Int32.toNatClampNeg (l2 - 1))) < 31 ∧ (((m.1 27 (Int32.toNatClampNeg (m.1 32 (Int32.toNatClampNeg (l2 - 1))))) = 0 → (¬ (m.1 32 (Int32.toNatClampNeg (l2 - 1))) < 0 ∧ Int32.toNatClampNeg (m.1 32 (Int32.toNatClampNeg (l2 - 1))) < 31 ∧ ((¬ (m.1 33 (Int32.toNatClampNeg (l2 - 1))) = (m.1 25 (Int32.toNatClampNeg (m.1 32 (Int32.toNatClampNeg (l2 - 1))))) → (¬ (l2 - 1) < 0 ∧ Int32.toNatClampNeg (l2 - 1) < 32 ∧ (¬ (l2 - 1) < 0 ∧ Int32.toNatClampNeg (l2 - 1) < 32 ∧ ∀ m1 : rm_M, m1 = rs_i m 33 (Int32.toNatClampNeg (l2 - 1)) ((m.1 33 (Int32.toNatClampNeg (l2 - 1))) + 1) → (¬ (((m.1 32 (Int32.toNatClampNeg (l2 - 1))) * 4) + (m.1 33 (Int32.toNatClampNeg (l2 - 1)))) < 0 ∧ Int32.toNatClampNeg (((m.1 32 (Int32.toNatClampNeg (l2 - 1))) * 4) + (m.1 33 (Int32.toNatClampNeg (l2 - 1)))) < 124 ∧ mr_C l G r d mm_RM_isNumber [.long (m1.2.1 26 (Int32.toNatClampNeg (((m.1 32 (Int32.toNatClampNeg (l2 - 1))) * 4) + (m.1 33 (Int32.toNatClampNeg (l2 - 1))))))] m1 (fun (r2 : Option Value) (m3 : rm_M) => ∃ x4 : Int32, r2 = some (.int x4) ∧ ((¬ x4 = 0 → mr_Ok l G r (d + 1) mm_RM_construct 132 [(0, .ref r), (2, .int l2)] [] m3 Q) ∧ (¬ (¬ x4 = 0) → (¬ l2 < 0 ∧ Int32.toNatClampNeg l2 < 32 ∧ ∀ m5 : rm_M, m5 = rs_i m3 32 (Int32.toNatClampNeg l2) (Int64.toInt32 ((m1.2.1 26 (Int32.toNatClampNeg (((m.1 32 (Int32.toNatClampNeg (l2 - 1))) * 4) + (m.1 33 (Int32.toNatClampNeg (l2 - 1)))))) - 1000000000000)) → (¬ l2 < 0 ∧ Int32.toNatClampNeg l2 < 32 ∧ ∀ m6 : rm_M, m6 = rs_i m5 33 (Int32.toNatClampNeg l2) 0 → mr_Ok l G r (d + 1) mm_RM_construct 132 [(0, .ref r), (2, .int (l2 + 1))] [] m6 Q))))))))) ∧ (¬ (¬ (m.1 33 (Int32.toNatClampNeg (l2 - 1))) = (m.1 25 (Int32.toNatClampNeg (m.1 32 (Int32.toNatClampNeg (l2 - 1)))))) → mr_C l G r d mm_RM_assemble [.int (m.1 32 (Int32.toNatClampNeg (l2 - 1)))] m (fun (r7 : Option Value) (m8 : rm_M) => ∃ x9 : Int32, r7 = some (.int x9) ∧ ((¬ x9 = 0 → mr_Ok l G r (d + 1) mm_RM_construct 132 [(0, .ref r), (2, .int l2)] [] m8 Q) ∧ (¬ (¬ x9 = 0) → Q (some (.int 0)) m8))))))) ∧ (¬ ((m.1 27 (Int32.toNatClampNeg (m.1 32 (Int32.toNatClampNeg (l2 - 1))))) = 0) → mr_Ok l G r (d + 1) mm_RM_construct 132 [(0, .ref r), (2, .int (l2 + (-1)))] [] m Q)))))))) : mr_Ok l G r (d + 1) mm_RM_construct 16 [(0, .ref r), (2, .int l2)] [] m Q := by
  refine mr_start (fun hs0 hs9 h9 f9 => ?_)
  refine mx_iload_n d_RM_construct_16 rfl 1 rfl ?_
  refine mx_if_le d_RM_construct_17 (fun c9 => ?_) (fun c9 => ?_)
  · replace h := h.1 c9
    refine mx_iconst (v := 1) d_RM_construct_135 (by decide) ?_
    exact mx_ireturn d_RM_construct_136 rfl (mx_nz (Or.inr rfl)) ⟨_, h9, f9.1, f9.2, h⟩
  · replace h := h.2 c9
    refine mx_aload_nR d_RM_construct_20 rfl 0 rfl ?_
    refine mx_get d_RM_construct_21 (ci := 6) (k := 32) (q := mx_cl0_6) (v := .ref (r + 24)) rfl (Nat.le_of_ble_eq_true rfl) kw_256 h9.1 rfl ?_
    refine mx_iload_n d_RM_construct_24 rfl 1 rfl ?_
    refine mx_iconst (v := 1) d_RM_construct_25 (by decide) ?_
    refine mx_isub d_RM_construct_26 ?_
    obtain ⟨e2_, e3_, h⟩ := h
    refine mx_iald d_RM_construct_27 (k := 104) rfl (h9.2 32 (by decide) (by decide)) e2_ (rm_aget (by decide) e3_) ?_
    refine mx_istore_n (lv2 := [(3, .int (m.1 32 (Int32.toNatClampNeg (l2 - 1)))), (0, .ref r), (2, .int l2)]) d_RM_construct_28 rfl (Nat.le_of_ble_eq_true rfl) rfl ?_
    refine mx_aload_nR d_RM_construct_29 rfl 1 rfl ?_
    refine mx_get d_RM_construct_30 (ci := 6) (k := 33) (q := mx_cl0_6) (v := .ref (r + 25)) rfl (Nat.le_of_ble_eq_true rfl) kw_257 h9.1 rfl ?_
    refine mx_iload_n d_RM_construct_33 rfl 2 rfl ?_
    refine mx_iconst (v := 1) d_RM_construct_34 (by decide) ?_
    refine mx_isub d_RM_construct_35 ?_
    obtain ⟨e2_, e3_, h⟩ := h
    refine mx_iald d_RM_construct_36 (k := 104) rfl (h9.2 33 (by decide) (by decide)) e2_ (rm_aget (by decide) e3_) ?_
    refine mx_istore (lv2 := [(4, .int (m.1 33 (Int32.toNatClampNeg (l2 - 1)))), (3, .int (m.1 32 (Int32.toNatClampNeg (l2 - 1)))), (0, .ref r), (2, .int l2)]) d_RM_construct_37 (Nat.le_of_ble_eq_true rfl) rfl ?_
    refine mx_aload_nR d_RM_construct_39 rfl 2 rfl ?_
    refine mx_get d_RM_construct_40 (ci := 6) (k := 27) (q := mx_cl0_6) (v := .ref (r + 19)) rfl (Nat.le_of_ble_eq_true rfl) kw_251 h9.1 rfl ?_
    refine mx_iload_n d_RM_construct_43 rfl 1 rfl ?_
    obtain ⟨e2_, e3_, h⟩ := h
    refine mx_zald d_RM_construct_44 (k := 107) rfl (h9.2 27 (by decide) (by decide)) e2_ (rm_aget (by decide) e3_) ?_
    refine mx_if_eq d_RM_construct_45 (fun c9 => ?_) (fun c9 => ?_)
    · replace h := h.1 c9
      refine mx_iload d_RM_construct_54 0 rfl ?_
      refine mx_aload_nR d_RM_construct_56 rfl 2 rfl ?_
      refine mx_get d_RM_construct_57 (ci := 6) (k := 25) (q := mx_cl0_6) (v := .ref (r + 17)) rfl (Nat.le_of_ble_eq_true rfl) kw_249 h9.1 rfl ?_
      refine mx_iload_n d_RM_construct_60 rfl 1 rfl ?_
      obtain ⟨e2_, e3_, h⟩ := h
      refine mx_iald d_RM_construct_61 (k := 104) rfl (h9.2 25 (by decide) (by decide)) e2_ (rm_aget (by decide) e3_) ?_
      refine mx_icmp_ne d_RM_construct_62 (fun c9 => ?_) (fun c9 => ?_)
      · replace h := h.1 c9
        refine mx_aload_nR d_RM_construct_75 rfl 2 rfl ?_
        refine mx_get d_RM_construct_76 (ci := 6) (k := 33) (q := mx_cl0_6) (v := .ref (r + 25)) rfl (Nat.le_of_ble_eq_true rfl) kw_257 h9.1 rfl ?_
        refine mx_iload_n d_RM_construct_79 rfl 3 rfl ?_
        refine mx_iconst (v := 1) d_RM_construct_80 (by decide) ?_
        refine mx_isub d_RM_construct_81 ?_
        refine mx_dup2 d_RM_construct_82 rfl rfl ?_
        obtain ⟨e2_, e3_, h⟩ := h
        refine mx_iald d_RM_construct_83 (k := 104) rfl (h9.2 33 (by decide) (by decide)) e2_ (rm_aget (by decide) e3_) ?_
        refine mx_iconst (v := 1) d_RM_construct_84 (by decide) ?_
        refine mx_iadd d_RM_construct_85 ?_
        obtain ⟨e2_, e3_, h⟩ := h
        refine mx_iast d_RM_construct_86 (k := 104) rfl (by decide) (by omega) (h9.2 33 (by decide) (by decide)) e2_ (rm_alt e3_) ?_
        have f9 : mr_F hs0 (mx_st _ (r + 25) (104, (rm_av m 33).set (Int32.toNatClampNeg (l2 - 1)) (.int ((m.1 33 (Int32.toNatClampNeg (l2 - 1))) + 1)))) := mr_frs f9 (h9.2 33 (by decide) (by decide)) rfl
        have h9 : rm_ob (mx_st _ (r + 25) (104, (rm_av m 33).set (Int32.toNatClampNeg (l2 - 1)) (.int ((m.1 33 (Int32.toNatClampNeg (l2 - 1))) + 1)))) r (rs_i m 33 (Int32.toNatClampNeg (l2 - 1)) ((m.1 33 (Int32.toNatClampNeg (l2 - 1))) + 1)) := rm_aput h9 33 (Int32.toNatClampNeg (l2 - 1)) ((m.1 33 (Int32.toNatClampNeg (l2 - 1))) + 1) (by decide) (by decide)
        replace h := h _ rfl
        generalize mx_st _ (r + 25) (104, (rm_av m 33).set (Int32.toNatClampNeg (l2 - 1)) (.int ((m.1 33 (Int32.toNatClampNeg (l2 - 1))) + 1))) = hs9 at h9 f9 ⊢
        generalize rs_i m 33 (Int32.toNatClampNeg (l2 - 1)) ((m.1 33 (Int32.toNatClampNeg (l2 - 1))) + 1) = m1 at h9 h
        refine mx_aload_nR d_RM_construct_87 rfl 2 rfl ?_
        refine mx_get d_RM_construct_88 (ci := 6) (k := 26) (q := mx_cl0_6) (v := .ref (r + 18)) rfl (Nat.le_of_ble_eq_true rfl) kw_250 h9.1 rfl ?_
        refine mx_iload_n d_RM_construct_91 rfl 1 rfl ?_
        refine mx_iconst (v := 4) d_RM_construct_92 (by decide) ?_
        refine mx_imul d_RM_construct_93 ?_
        refine mx_iload d_RM_construct_94 0 rfl ?_
        refine mx_iadd d_RM_construct_96 ?_
        obtain ⟨e2_, e3_, h⟩ := h
        refine mx_lald d_RM_construct_97 (k := 106) rfl (h9.2 26 (by decide) (by decide)) e2_ (rm_agetl (by decide) e3_) ?_
        refine mx_lstore (lv2 := [(5, .long (m1.2.1 26 (Int32.toNatClampNeg (((m.1 32 (Int32.toNatClampNeg (l2 - 1))) * 4) + (m.1 33 (Int32.toNatClampNeg (l2 - 1))))))), (4, .int (m.1 33 (Int32.toNatClampNeg (l2 - 1)))), (3, .int (m.1 32 (Int32.toNatClampNeg (l2 - 1)))), (0, .ref r), (2, .int l2)]) d_RM_construct_98 (Nat.le_of_ble_eq_true rfl) rfl ?_
        refine mx_aload_nR d_RM_construct_100 rfl 3 rfl ?_
        refine mx_lload d_RM_construct_101 0 rfl ?_
        refine mx_invV (Y := mm_RM_isNumber) (As := [.long (m1.2.1 26 (Int32.toNatClampNeg (((m.1 32 (Int32.toNatClampNeg (l2 - 1))) * 4) + (m.1 33 (Int32.toNatClampNeg (l2 - 1))))))]) (rest := []) d_RM_construct_103.1 ok_RM_isNumber kw_296 kw_297 kw_298 rfl rfl (Nat.le_of_ble_eq_true rfl) (Nat.le_of_ble_eq_true rfl) h9.1 (q := mx_cl0_6) rfl rfl (h _ h9) (fun r2 hs8 h => ?_)
        obtain ⟨m3, h9, f8, z8, h⟩ := h
        obtain ⟨x4, e9_, h⟩ := h
        subst e9_
        have f9 := mr_frc f9 f8 z8
        clear f8 z8
        show mx_Ok mx_S0 l G (d + 1) mm_RM_construct 106 [(5, .long (m1.2.1 26 (Int32.toNatClampNeg (((m.1 32 (Int32.toNatClampNeg (l2 - 1))) * 4) + (m.1 33 (Int32.toNatClampNeg (l2 - 1))))))), (4, .int (m.1 33 (Int32.toNatClampNeg (l2 - 1)))), (3, .int (m.1 32 (Int32.toNatClampNeg (l2 - 1)))), (0, .ref r), (2, .int l2)] [.int x4] hs8 _
        refine mx_if_ne d_RM_construct_106 (fun c9 => ?_) (fun c9 => ?_)
        · replace h := h.1 c9
          exact mx_sub [3, 4] rfl (mr_at h h9 f9)
        · replace h := h.2 c9
          refine mx_aload_nR d_RM_construct_109 rfl 3 rfl ?_
          refine mx_get d_RM_construct_110 (ci := 6) (k := 32) (q := mx_cl0_6) (v := .ref (r + 24)) rfl (Nat.le_of_ble_eq_true rfl) kw_256 h9.1 rfl ?_
          refine mx_iload_n d_RM_construct_113 rfl 4 rfl ?_
          refine mx_lload d_RM_construct_114 0 rfl ?_
          refine mx_ldc2 (v := 1000000000000) d_RM_construct_116 kw_300 ?_
          refine mx_lsub d_RM_construct_119 ?_
          refine mx_l2i d_RM_construct_120 ?_
          obtain ⟨e2_, e3_, h⟩ := h
          refine mx_iast d_RM_construct_121 (k := 104) rfl (by decide) (by omega) (h9.2 32 (by decide) (by decide)) e2_ (rm_alt e3_) ?_
          have f9 : mr_F hs0 (mx_st _ (r + 24) (104, (rm_av m3 32).set (Int32.toNatClampNeg l2) (.int (Int64.toInt32 ((m1.2.1 26 (Int32.toNatClampNeg (((m.1 32 (Int32.toNatClampNeg (l2 - 1))) * 4) + (m.1 33 (Int32.toNatClampNeg (l2 - 1)))))) - 1000000000000))))) := mr_frs f9 (h9.2 32 (by decide) (by decide)) rfl
          have h9 : rm_ob (mx_st _ (r + 24) (104, (rm_av m3 32).set (Int32.toNatClampNeg l2) (.int (Int64.toInt32 ((m1.2.1 26 (Int32.toNatClampNeg (((m.1 32 (Int32.toNatClampNeg (l2 - 1))) * 4) + (m.1 33 (Int32.toNatClampNeg (l2 - 1)))))) - 1000000000000))))) r (rs_i m3 32 (Int32.toNatClampNeg l2) (Int64.toInt32 ((m1.2.1 26 (Int32.toNatClampNeg (((m.1 32 (Int32.toNatClampNeg (l2 - 1))) * 4) + (m.1 33 (Int32.toNatClampNeg (l2 - 1)))))) - 1000000000000))) := rm_aput h9 32 (Int32.toNatClampNeg l2) (Int64.toInt32 ((m1.2.1 26 (Int32.toNatClampNeg (((m.1 32 (Int32.toNatClampNeg (l2 - 1))) * 4) + (m.1 33 (Int32.toNatClampNeg (l2 - 1)))))) - 1000000000000)) (by decide) (by decide)
          replace h := h _ rfl
          generalize mx_st _ (r + 24) (104, (rm_av m3 32).set (Int32.toNatClampNeg l2) (.int (Int64.toInt32 ((m1.2.1 26 (Int32.toNatClampNeg (((m.1 32 (Int32.toNatClampNeg (l2 - 1))) * 4) + (m.1 33 (Int32.toNatClampNeg (l2 - 1)))))) - 1000000000000)))) = hs9 at h9 f9 ⊢
          generalize rs_i m3 32 (Int32.toNatClampNeg l2) (Int64.toInt32 ((m1.2.1 26 (Int32.toNatClampNeg (((m.1 32 (Int32.toNatClampNeg (l2 - 1))) * 4) + (m.1 33 (Int32.toNatClampNeg (l2 - 1)))))) - 1000000000000)) = m5 at h9 h
          refine mx_aload_nR d_RM_construct_122 rfl 3 rfl ?_
          refine mx_get d_RM_construct_123 (ci := 6) (k := 33) (q := mx_cl0_6) (v := .ref (r + 25)) rfl (Nat.le_of_ble_eq_true rfl) kw_257 h9.1 rfl ?_
          refine mx_iload_n d_RM_construct_126 rfl 4 rfl ?_
          refine mx_iconst (v := 0) d_RM_construct_127 (by decide) ?_
          obtain ⟨e2_, e3_, h⟩ := h
          refine mx_iast d_RM_construct_128 (k := 104) rfl (by decide) (by omega) (h9.2 33 (by decide) (by decide)) e2_ (rm_alt e3_) ?_
          have f9 : mr_F hs0 (mx_st _ (r + 25) (104, (rm_av m5 33).set (Int32.toNatClampNeg l2) (.int 0))) := mr_frs f9 (h9.2 33 (by decide) (by decide)) rfl
          have h9 : rm_ob (mx_st _ (r + 25) (104, (rm_av m5 33).set (Int32.toNatClampNeg l2) (.int 0))) r (rs_i m5 33 (Int32.toNatClampNeg l2) 0) := rm_aput h9 33 (Int32.toNatClampNeg l2) 0 (by decide) (by decide)
          replace h := h _ rfl
          generalize mx_st _ (r + 25) (104, (rm_av m5 33).set (Int32.toNatClampNeg l2) (.int 0)) = hs9 at h9 f9 ⊢
          generalize rs_i m5 33 (Int32.toNatClampNeg l2) 0 = m6 at h9 h
          refine mx_iinc (v := l2 + 1) (lv2 := [(2, .int (l2 + 1)), (5, .long (m1.2.1 26 (Int32.toNatClampNeg (((m.1 32 (Int32.toNatClampNeg (l2 - 1))) * 4) + (m.1 33 (Int32.toNatClampNeg (l2 - 1))))))), (4, .int (m.1 33 (Int32.toNatClampNeg (l2 - 1)))), (3, .int (m.1 32 (Int32.toNatClampNeg (l2 - 1)))), (0, .ref r)]) d_RM_construct_129 4 rfl (by rfl) (Nat.le_of_ble_eq_true rfl) rfl ?_
          exact mx_sub [4, 0] rfl (mr_at h h9 f9)
      · replace h := h.2 c9
        refine mx_aload_nR d_RM_construct_65 rfl 2 rfl ?_
        refine mx_iload_n d_RM_construct_66 rfl 1 rfl ?_
        refine mx_invV (Y := mm_RM_assemble) (As := [.int (m.1 32 (Int32.toNatClampNeg (l2 - 1)))]) (rest := []) d_RM_construct_67.1 ok_RM_assemble kw_336 kw_337 kw_338 rfl rfl (Nat.le_of_ble_eq_true rfl) (Nat.le_of_ble_eq_true rfl) h9.1 (q := mx_cl0_6) rfl rfl (h _ h9) (fun r7 hs8 h => ?_)
        obtain ⟨m8, h9, f8, z8, h⟩ := h
        obtain ⟨x9, e9_, h⟩ := h
        subst e9_
        have f9 := mr_frc f9 f8 z8
        clear f8 z8
        show mx_Ok mx_S0 l G (d + 1) mm_RM_construct 70 [(4, .int (m.1 33 (Int32.toNatClampNeg (l2 - 1)))), (3, .int (m.1 32 (Int32.toNatClampNeg (l2 - 1)))), (0, .ref r), (2, .int l2)] [.int x9] hs8 _
        refine mx_if_ne d_RM_construct_70 (fun c9 => ?_) (fun c9 => ?_)
        · replace h := h.1 c9
          exact mx_sub [2, 3] rfl (mr_at h h9 f9)
        · replace h := h.2 c9
          refine mx_iconst (v := 0) d_RM_construct_73 (by decide) ?_
          exact mx_ireturn d_RM_construct_74 rfl (mx_nz (Or.inl rfl)) ⟨_, h9, f9.1, f9.2, h⟩
    · replace h := h.2 c9
      refine mx_iinc (v := l2 + (-1)) (lv2 := [(2, .int (l2 + (-1))), (4, .int (m.1 33 (Int32.toNatClampNeg (l2 - 1)))), (3, .int (m.1 32 (Int32.toNatClampNeg (l2 - 1)))), (0, .ref r)]) d_RM_construct_48 3 rfl (by rfl) (Nat.le_of_ble_eq_true rfl) rfl ?_
      refine mx_goto d_RM_construct_51 ?_
      exact mx_sub [3, 0] rfl (mr_at h h9 f9)
set_option maxRecDepth 100000 in
theorem wr_construct_132 {l : Launch} {G : mx_G} {r d : Nat} {m : rm_M} {Q : Option Value → rm_M → Prop} (l2 : Int32) (h : mr_Ok l G r (d + 1) mm_RM_construct 16 [(0, .ref r), (2, .int l2)] [] m Q) : mr_Ok l G r (d + 1) mm_RM_construct 132 [(0, .ref r), (2, .int l2)] [] m Q := by
  refine mr_start (fun hs0 hs9 h9 f9 => ?_)
  refine mx_goto d_RM_construct_132 ?_
  exact mx_sub [0, 1] rfl (mr_at h h9 f9)
set_option maxRecDepth 100000 in
theorem wr_value_0 {l : Launch} {G : mx_G} {r d : Nat} {m : rm_M} {Q : Option Value → rm_M → Prop} (l1 : Int32) (h : ((l1 < 0 → mr_Ok l G r (d + 1) mm_RM_value 19 [] [] m Q) ∧ (¬ (l1 < 0) → ((8 < l1 → mr_Ok l G r (d + 1) mm_RM_value 19 [] [] m Q) ∧ (¬ (8 < l1) → (¬ l1 < 0 ∧ Int32.toNatClampNeg l1 < 9 ∧ ((¬ (m.1 3 (Int32.toNatClampNeg l1)) = 0 → (¬ l1 < 0 ∧ Int32.toNatClampNeg l1 < 9 ∧ Q (some (.long (m.2.1 2 (Int32.toNatClampNeg l1)))) m)) ∧ (¬ (¬ (m.1 3 (Int32.toNatClampNeg l1)) = 0) → mr_Ok l G r (d + 1) mm_RM_value 19 [] [] m Q)))))))) : mr_Ok l G r (d + 1) mm_RM_value 0 [(0, .ref r), (1, .int l1)] [] m Q := by
  refine mr_start (fun hs0 hs9 h9 f9 => ?_)
  refine mx_iload_n d_RM_value_0 rfl 1 rfl ?_
  refine mx_if_lt d_RM_value_1 (fun c9 => ?_) (fun c9 => ?_)
  · replace h := h.1 c9
    exact mx_sub [] rfl (mr_at h h9 f9)
  · replace h := h.2 c9
    refine mx_iload_n d_RM_value_4 rfl 1 rfl ?_
    refine mx_bipush (v := 8) d_RM_value_5 (by decide) ?_
    refine mx_icmp_gt d_RM_value_7 (fun c9 => ?_) (fun c9 => ?_)
    · replace h := h.1 c9
      exact mx_sub [] rfl (mr_at h h9 f9)
    · replace h := h.2 c9
      refine mx_aload_nR d_RM_value_10 rfl 0 rfl ?_
      refine mx_get d_RM_value_11 (ci := 6) (k := 3) (q := mx_cl0_6) (v := .ref (r + 4)) rfl (Nat.le_of_ble_eq_true rfl) kw_235 h9.1 rfl ?_
      refine mx_iload_n d_RM_value_14 rfl 1 rfl ?_
      obtain ⟨e2_, e3_, h⟩ := h
      refine mx_zald d_RM_value_15 (k := 107) rfl (h9.2 3 (by decide) (by decide)) e2_ (rm_aget (by decide) e3_) ?_
      refine mx_if_ne d_RM_value_16 (fun c9 => ?_) (fun c9 => ?_)
      · replace h := h.1 c9
        refine mx_aload_nR d_RM_value_25 rfl 0 rfl ?_
        refine mx_get d_RM_value_26 (ci := 6) (k := 2) (q := mx_cl0_6) (v := .ref (r + 3)) rfl (Nat.le_of_ble_eq_true rfl) kw_233 h9.1 rfl ?_
        refine mx_iload_n d_RM_value_29 rfl 1 rfl ?_
        obtain ⟨e2_, e3_, h⟩ := h
        refine mx_lald d_RM_value_30 (k := 106) rfl (h9.2 2 (by decide) (by decide)) e2_ (rm_agetl (by decide) e3_) ?_
        exact mx_lreturn d_RM_value_31 rfl ⟨_, h9, f9.1, f9.2, h⟩
      · replace h := h.2 c9
        exact mx_sub [] rfl (mr_at h h9 f9)
set_option maxRecDepth 100000 in
theorem wr_value_19 {l : Launch} {G : mx_G} {r d : Nat} {m : rm_M} {Q : Option Value → rm_M → Prop}  (h : Q (some (.long (-1000000000000))) m) : mr_Ok l G r (d + 1) mm_RM_value 19 [] [] m Q := by
  refine mr_start (fun hs0 hs9 h9 f9 => ?_)
  refine mx_ldc2 (v := (-1000000000000)) d_RM_value_19 kw_339 ?_
  refine mx_goto d_RM_value_22 ?_
  exact mx_lreturn d_RM_value_31 rfl ⟨_, h9, f9.1, f9.2, h⟩
set_option maxRecDepth 100000 in
theorem wr_builder_0 {l : Launch} {G : mx_G} {r d : Nat} {m : rm_M} {Q : Option Value → rm_M → Prop} (l1 : Int32) (l2 : Int32) (h : ((l1 < 0 → Q (some (.int (-1))) m) ∧ (¬ (l1 < 0) → ((9 < l1 → Q (some (.int (-1))) m) ∧ (¬ (9 < l1) → ((l2 < 0 → Q (some (.int (-1))) m) ∧ (¬ (l2 < 0) → ((l2 ≤ 4 → (¬ l1 < 0 ∧ Int32.toNatClampNeg l1 < 10 ∧ ∀ m1 : rm_M, m1 = rs_i m 31 (Int32.toNatClampNeg l1) l2 → Q (some (.int 0)) m1)) ∧ (¬ (l2 ≤ 4) → Q (some (.int (-1))) m))))))))) : mr_Ok l G r (d + 1) mm_RM_builder 0 [(0, .ref r), (1, .int l1), (2, .int l2)] [] m Q := by
  refine mr_start (fun hs0 hs9 h9 f9 => ?_)
  refine mx_iload_n d_RM_builder_0 rfl 1 rfl ?_
  refine mx_if_lt d_RM_builder_1 (fun c9 => ?_) (fun c9 => ?_)
  · replace h := h.1 c9
    refine mx_iconst (v := -1) d_RM_builder_19 (by decide) ?_
    exact mx_ireturn d_RM_builder_20 rfl rfl ⟨_, h9, f9.1, f9.2, h⟩
  · replace h := h.2 c9
    refine mx_iload_n d_RM_builder_4 rfl 1 rfl ?_
    refine mx_bipush (v := 9) d_RM_builder_5 (by decide) ?_
    refine mx_icmp_gt d_RM_builder_7 (fun c9 => ?_) (fun c9 => ?_)
    · replace h := h.1 c9
      refine mx_iconst (v := -1) d_RM_builder_19 (by decide) ?_
      exact mx_ireturn d_RM_builder_20 rfl rfl ⟨_, h9, f9.1, f9.2, h⟩
    · replace h := h.2 c9
      refine mx_iload_n d_RM_builder_10 rfl 2 rfl ?_
      refine mx_if_lt d_RM_builder_11 (fun c9 => ?_) (fun c9 => ?_)
      · replace h := h.1 c9
        refine mx_iconst (v := -1) d_RM_builder_19 (by decide) ?_
        exact mx_ireturn d_RM_builder_20 rfl rfl ⟨_, h9, f9.1, f9.2, h⟩
      · replace h := h.2 c9
        refine mx_iload_n d_RM_builder_14 rfl 2 rfl ?_
        refine mx_iconst (v := 4) d_RM_builder_15 (by decide) ?_
        refine mx_icmp_le d_RM_builder_16 (fun c9 => ?_) (fun c9 => ?_)
        · replace h := h.1 c9
          refine mx_aload_nR d_RM_builder_21 rfl 0 rfl ?_
          refine mx_get d_RM_builder_22 (ci := 6) (k := 31) (q := mx_cl0_6) (v := .ref (r + 23)) rfl (Nat.le_of_ble_eq_true rfl) kw_255 h9.1 rfl ?_
          refine mx_iload_n d_RM_builder_25 rfl 1 rfl ?_
          refine mx_iload_n d_RM_builder_26 rfl 2 rfl ?_
          obtain ⟨e2_, e3_, h⟩ := h
          refine mx_iast d_RM_builder_27 (k := 104) rfl (by decide) (by omega) (h9.2 31 (by decide) (by decide)) e2_ (rm_alt e3_) ?_
          have f9 : mr_F hs0 (mx_st _ (r + 23) (104, (rm_av m 31).set (Int32.toNatClampNeg l1) (.int l2))) := mr_frs f9 (h9.2 31 (by decide) (by decide)) rfl
          have h9 : rm_ob (mx_st _ (r + 23) (104, (rm_av m 31).set (Int32.toNatClampNeg l1) (.int l2))) r (rs_i m 31 (Int32.toNatClampNeg l1) l2) := rm_aput h9 31 (Int32.toNatClampNeg l1) l2 (by decide) (by decide)
          replace h := h _ rfl
          generalize mx_st _ (r + 23) (104, (rm_av m 31).set (Int32.toNatClampNeg l1) (.int l2)) = hs9 at h9 f9 ⊢
          generalize rs_i m 31 (Int32.toNatClampNeg l1) l2 = m1 at h9 h
          refine mx_iconst (v := 0) d_RM_builder_28 (by decide) ?_
          exact mx_ireturn d_RM_builder_29 rfl rfl ⟨_, h9, f9.1, f9.2, h⟩
        · replace h := h.2 c9
          refine mx_iconst (v := -1) d_RM_builder_19 (by decide) ?_
          exact mx_ireturn d_RM_builder_20 rfl rfl ⟨_, h9, f9.1, f9.2, h⟩
set_option maxRecDepth 100000 in
theorem wr_noPlan_0 {l : Launch} {G : mx_G} {r d : Nat} {m : rm_M} {Q : Option Value → rm_M → Prop} (l1 : Int32) (h : ((l1 < 1 → mr_Ok l G r (d + 1) mm_RM_noPlan 13 [] [] m Q) ∧ (¬ (l1 < 1) → ((l1 ≤ (m.2.2.1 34) → Q (some (.int 0)) m) ∧ (¬ (l1 ≤ (m.2.2.1 34)) → mr_Ok l G r (d + 1) mm_RM_noPlan 13 [] [] m Q))))) : mr_Ok l G r (d + 1) mm_RM_noPlan 0 [(0, .ref r), (1, .int l1)] [] m Q := by
  refine mr_start (fun hs0 hs9 h9 f9 => ?_)
  refine mx_iload_n d_RM_noPlan_0 rfl 1 rfl ?_
  refine mx_iconst (v := 1) d_RM_noPlan_1 (by decide) ?_
  refine mx_icmp_lt d_RM_noPlan_2 (fun c9 => ?_) (fun c9 => ?_)
  · replace h := h.1 c9
    exact mx_sub [] rfl (mr_at h h9 f9)
  · replace h := h.2 c9
    refine mx_iload_n d_RM_noPlan_5 rfl 1 rfl ?_
    refine mx_aload_nR d_RM_noPlan_6 rfl 0 rfl ?_
    refine mx_get d_RM_noPlan_7 (ci := 6) (k := 34) (q := mx_cl0_6) (v := .int (m.2.2.1 34)) rfl (Nat.le_of_ble_eq_true rfl) kw_299 h9.1 rfl ?_
    refine mx_icmp_le d_RM_noPlan_10 (fun c9 => ?_) (fun c9 => ?_)
    · replace h := h.1 c9
      refine mx_iconst (v := 0) d_RM_noPlan_17 (by decide) ?_
      exact mx_ireturn d_RM_noPlan_18 rfl (mx_nz (Or.inl rfl)) ⟨_, h9, f9.1, f9.2, h⟩
    · replace h := h.2 c9
      exact mx_sub [] rfl (mr_at h h9 f9)
set_option maxRecDepth 100000 in
theorem wr_noPlan_13 {l : Launch} {G : mx_G} {r d : Nat} {m : rm_M} {Q : Option Value → rm_M → Prop}  (h : Q (some (.int 1)) m) : mr_Ok l G r (d + 1) mm_RM_noPlan 13 [] [] m Q := by
  refine mr_start (fun hs0 hs9 h9 f9 => ?_)
  refine mx_iconst (v := 1) d_RM_noPlan_13 (by decide) ?_
  refine mx_goto d_RM_noPlan_14 ?_
  exact mx_ireturn d_RM_noPlan_18 rfl (mx_nz (Or.inr rfl)) ⟨_, h9, f9.1, f9.2, h⟩
set_option maxRecDepth 100000 in
theorem wr_build_0 {l : Launch} {G : mx_G} {r d : Nat} {m : rm_M} {Q : Option Value → rm_M → Prop} (l1 : Int32) (h : mr_C l G r d mm_RM_noPlan [.int l1] m (fun (r1 : Option Value) (m2 : rm_M) => ∃ x3 : Int32, r1 = some (.int x3) ∧ ((x3 = 0 → (((m2.2.2.1 21) < 30 → mr_C l G r d mm_RM_construct [.int l1] m2 (fun (r4 : Option Value) (m5 : rm_M) => ∃ x6 : Int32, r4 = some (.int x6) ∧ ((x6 = 0 → (∀ m7 : rm_M, m7 = rs_s m5 21 ((m5.2.2.1 21) + 1) → Q (some (.int (-7))) m7)) ∧ (¬ (x6 = 0) → Q (some (.int 0)) m5)))) ∧ (¬ ((m2.2.2.1 21) < 30) → Q (some (.int (-11))) m2))) ∧ (¬ (x3 = 0) → Q (some (.int (-1))) m2)))) : mr_Ok l G r (d + 1) mm_RM_build 0 [(0, .ref r), (1, .int l1)] [] m Q := by
  refine mr_start (fun hs0 hs9 h9 f9 => ?_)
  refine mx_aload_nR d_RM_build_0 rfl 0 rfl ?_
  refine mx_iload_n d_RM_build_1 rfl 1 rfl ?_
  refine mx_invV (Y := mm_RM_noPlan) (As := [.int l1]) (rest := []) d_RM_build_2.1 ok_RM_noPlan kw_340 kw_341 kw_342 rfl rfl (Nat.le_of_ble_eq_true rfl) (Nat.le_of_ble_eq_true rfl) h9.1 (q := mx_cl0_6) rfl rfl (h _ h9) (fun r1 hs8 h => ?_)
  obtain ⟨m2, h9, f8, z8, h⟩ := h
  obtain ⟨x3, e9_, h⟩ := h
  subst e9_
  have f9 := mr_frc f9 f8 z8
  clear f8 z8
  show mx_Ok mx_S0 l G (d + 1) mm_RM_build 5 [(0, .ref r), (1, .int l1)] [.int x3] hs8 _
  refine mx_if_eq d_RM_build_5 (fun c9 => ?_) (fun c9 => ?_)
  · replace h := h.1 c9
    refine mx_aload_nR d_RM_build_10 rfl 0 rfl ?_
    refine mx_get d_RM_build_11 (ci := 6) (k := 21) (q := mx_cl0_6) (v := .int (m2.2.2.1 21)) rfl (Nat.le_of_ble_eq_true rfl) kw_322 h9.1 rfl ?_
    refine mx_bipush (v := 30) d_RM_build_14 (by decide) ?_
    refine mx_icmp_lt d_RM_build_16 (fun c9 => ?_) (fun c9 => ?_)
    · replace h := h.1 c9
      refine mx_aload_nR d_RM_build_22 rfl 0 rfl ?_
      refine mx_iload_n d_RM_build_23 rfl 1 rfl ?_
      refine mx_invV (Y := mm_RM_construct) (As := [.int l1]) (rest := []) d_RM_build_24.1 ok_RM_construct kw_301 kw_302 kw_303 rfl rfl (Nat.le_of_ble_eq_true rfl) (Nat.le_of_ble_eq_true rfl) h9.1 (q := mx_cl0_6) rfl rfl (h _ h9) (fun r4 hs8 h => ?_)
      obtain ⟨m5, h9, f8, z8, h⟩ := h
      obtain ⟨x6, e9_, h⟩ := h
      subst e9_
      have f9 := mr_frc f9 f8 z8
      clear f8 z8
      show mx_Ok mx_S0 l G (d + 1) mm_RM_build 27 [(0, .ref r), (1, .int l1)] [.int x6] hs8 _
      refine mx_if_eq d_RM_build_27 (fun c9 => ?_) (fun c9 => ?_)
      · replace h := h.1 c9
        refine mx_aload_nR d_RM_build_32 rfl 0 rfl ?_
        refine mx_dup d_RM_build_33 rfl ?_
        refine mx_get d_RM_build_34 (ci := 6) (k := 21) (q := mx_cl0_6) (v := .int (m5.2.2.1 21)) rfl (Nat.le_of_ble_eq_true rfl) kw_322 h9.1 rfl ?_
        refine mx_iconst (v := 1) d_RM_build_37 (by decide) ?_
        refine mx_iadd d_RM_build_38 ?_
        refine mx_put d_RM_build_39 (ci := 6) (k := 21) (q := mx_cl0_6) (ty := .int) rfl (Nat.le_of_ble_eq_true rfl) kw_322 rfl (by decide +kernel) rfl rfl (by omega) h9.1 ?_
        have f9 := mr_frs f9 h9.1 (x := (6, ((List.range 36).map (rm_fv r m5)).set 21 (.int ((m5.2.2.1 21) + 1)))) rfl
        have h9 := rm_puts h9 21 ((m5.2.2.1 21) + 1) (by decide) (by decide) (by decide)
        replace h := h _ rfl
        generalize mx_st _ r (6, ((List.range 36).map (rm_fv r m5)).set 21 (.int ((m5.2.2.1 21) + 1))) = hs9 at h9 f9 ⊢
        generalize rs_s m5 21 ((m5.2.2.1 21) + 1) = m7 at h9 h
        refine mx_bipush (v := (-7)) d_RM_build_42 (by decide) ?_
        exact mx_ireturn d_RM_build_44 rfl rfl ⟨_, h9, f9.1, f9.2, h⟩
      · replace h := h.2 c9
        refine mx_iconst (v := 0) d_RM_build_30 (by decide) ?_
        exact mx_ireturn d_RM_build_31 rfl rfl ⟨_, h9, f9.1, f9.2, h⟩
    · replace h := h.2 c9
      refine mx_bipush (v := (-11)) d_RM_build_19 (by decide) ?_
      exact mx_ireturn d_RM_build_21 rfl rfl ⟨_, h9, f9.1, f9.2, h⟩
  · replace h := h.2 c9
    refine mx_iconst (v := -1) d_RM_build_8 (by decide) ?_
    exact mx_ireturn d_RM_build_9 rfl rfl ⟨_, h9, f9.1, f9.2, h⟩
set_option maxRecDepth 100000 in
theorem wr_root_0 {l : Launch} {G : mx_G} {r d : Nat} {m : rm_M} {Q : Option Value → rm_M → Prop} (l1 : Int32) (l2 : Int32) (h : mr_C l G r d mm_RM_noPlan [.int l1] m (fun (r1 : Option Value) (m2 : rm_M) => ∃ x3 : Int32, r1 = some (.int x3) ∧ ((x3 = 0 → (¬ l1 < 0 ∧ Int32.toNatClampNeg l1 < 31 ∧ (l2 = 0 ∨ l2 = 1) ∧ ∀ m4 : rm_M, m4 = rs_i m2 29 (Int32.toNatClampNeg l1) l2 → Q (some (.int 0)) m4)) ∧ (¬ (x3 = 0) → Q (some (.int (-1))) m2)))) : mr_Ok l G r (d + 1) mm_RM_root 0 [(0, .ref r), (1, .int l1), (2, .int l2)] [] m Q := by
  refine mr_start (fun hs0 hs9 h9 f9 => ?_)
  refine mx_aload_nR d_RM_root_0 rfl 0 rfl ?_
  refine mx_iload_n d_RM_root_1 rfl 1 rfl ?_
  refine mx_invV (Y := mm_RM_noPlan) (As := [.int l1]) (rest := []) d_RM_root_2.1 ok_RM_noPlan kw_340 kw_341 kw_342 rfl rfl (Nat.le_of_ble_eq_true rfl) (Nat.le_of_ble_eq_true rfl) h9.1 (q := mx_cl0_6) rfl rfl (h _ h9) (fun r1 hs8 h => ?_)
  obtain ⟨m2, h9, f8, z8, h⟩ := h
  obtain ⟨x3, e9_, h⟩ := h
  subst e9_
  have f9 := mr_frc f9 f8 z8
  clear f8 z8
  show mx_Ok mx_S0 l G (d + 1) mm_RM_root 5 [(0, .ref r), (1, .int l1), (2, .int l2)] [.int x3] hs8 _
  refine mx_if_eq d_RM_root_5 (fun c9 => ?_) (fun c9 => ?_)
  · replace h := h.1 c9
    refine mx_aload_nR d_RM_root_10 rfl 0 rfl ?_
    refine mx_get d_RM_root_11 (ci := 6) (k := 29) (q := mx_cl0_6) (v := .ref (r + 21)) rfl (Nat.le_of_ble_eq_true rfl) kw_253 h9.1 rfl ?_
    refine mx_iload_n d_RM_root_14 rfl 1 rfl ?_
    refine mx_iload_n d_RM_root_15 rfl 2 rfl ?_
    obtain ⟨e2_, e3_, e4_, h⟩ := h
    refine mx_zast d_RM_root_16 (k := 107) rfl (by decide) (by omega) e4_ (h9.2 29 (by decide) (by decide)) e2_ (rm_alt e3_) ?_
    have f9 : mr_F hs0 (mx_st _ (r + 21) (107, (rm_av m2 29).set (Int32.toNatClampNeg l1) (.int l2))) := mr_frs f9 (h9.2 29 (by decide) (by decide)) rfl
    have h9 : rm_ob (mx_st _ (r + 21) (107, (rm_av m2 29).set (Int32.toNatClampNeg l1) (.int l2))) r (rs_i m2 29 (Int32.toNatClampNeg l1) l2) := rm_aput h9 29 (Int32.toNatClampNeg l1) l2 (by decide) (by decide)
    replace h := h _ rfl
    generalize mx_st _ (r + 21) (107, (rm_av m2 29).set (Int32.toNatClampNeg l1) (.int l2)) = hs9 at h9 f9 ⊢
    generalize rs_i m2 29 (Int32.toNatClampNeg l1) l2 = m4 at h9 h
    refine mx_iconst (v := 0) d_RM_root_17 (by decide) ?_
    exact mx_ireturn d_RM_root_18 rfl rfl ⟨_, h9, f9.1, f9.2, h⟩
  · replace h := h.2 c9
    refine mx_iconst (v := -1) d_RM_root_8 (by decide) ?_
    exact mx_ireturn d_RM_root_9 rfl rfl ⟨_, h9, f9.1, f9.2, h⟩
set_option maxRecDepth 100000 in
theorem wr_collect_0 {l : Launch} {G : mx_G} {r d : Nat} {m : rm_M} {Q : Option Value → rm_M → Prop}  (h : mr_Ok l G r (d + 1) mm_RM_collect 4 [(0, .ref r), (1, .int 0), (2, .int 1)] [] m Q) : mr_Ok l G r (d + 1) mm_RM_collect 0 [(0, .ref r)] [] m Q := by
  refine mr_start (fun hs0 hs9 h9 f9 => ?_)
  refine mx_iconst (v := 0) d_RM_collect_0 (by decide) ?_
  refine mx_istore_n (lv2 := [(1, .int 0), (0, .ref r)]) d_RM_collect_1 rfl (Nat.le_of_ble_eq_true rfl) rfl ?_
  refine mx_iconst (v := 1) d_RM_collect_2 (by decide) ?_
  refine mx_istore_n (lv2 := [(2, .int 1), (1, .int 0), (0, .ref r)]) d_RM_collect_3 rfl (Nat.le_of_ble_eq_true rfl) rfl ?_
  exact mx_sub [2, 1, 0] rfl (mr_at h h9 f9)
set_option maxRecDepth 100000 in
theorem wr_collect_4 {l : Launch} {G : mx_G} {r d : Nat} {m : rm_M} {Q : Option Value → rm_M → Prop} (l1 : Int32) (l2 : Int32) (h : (((m.2.2.1 34) < l2 → mr_Ok l G r (d + 1) mm_RM_collect 35 [(0, .ref r), (1, .int l1), (2, .int (m.2.2.1 34))] [] m Q) ∧ (¬ ((m.2.2.1 34) < l2) → (¬ l2 < 0 ∧ Int32.toNatClampNeg l2 < 31 ∧ (¬ l2 < 0 ∧ Int32.toNatClampNeg l2 < 31 ∧ ((m.1 29 (Int32.toNatClampNeg l2)) = 0 ∨ (m.1 29 (Int32.toNatClampNeg l2)) = 1) ∧ ∀ m1 : rm_M, m1 = rs_i m 30 (Int32.toNatClampNeg l2) (m.1 29 (Int32.toNatClampNeg l2)) → mr_Ok l G r (d + 1) mm_RM_collect 4 [(0, .ref r), (1, .int l1), (2, .int (l2 + 1))] [] m1 Q))))) : mr_Ok l G r (d + 1) mm_RM_collect 4 [(0, .ref r), (1, .int l1), (2, .int l2)] [] m Q := by
  refine mr_start (fun hs0 hs9 h9 f9 => ?_)
  refine mx_iload_n d_RM_collect_4 rfl 2 rfl ?_
  refine mx_aload_nR d_RM_collect_5 rfl 0 rfl ?_
  refine mx_get d_RM_collect_6 (ci := 6) (k := 34) (q := mx_cl0_6) (v := .int (m.2.2.1 34)) rfl (Nat.le_of_ble_eq_true rfl) kw_299 h9.1 rfl ?_
  refine mx_icmp_gt d_RM_collect_9 (fun c9 => ?_) (fun c9 => ?_)
  · replace h := h.1 c9
    refine mx_aload_nR d_RM_collect_30 rfl 0 rfl ?_
    refine mx_get d_RM_collect_31 (ci := 6) (k := 34) (q := mx_cl0_6) (v := .int (m.2.2.1 34)) rfl (Nat.le_of_ble_eq_true rfl) kw_299 h9.1 rfl ?_
    refine mx_istore_n (lv2 := [(2, .int (m.2.2.1 34)), (0, .ref r), (1, .int l1)]) d_RM_collect_34 rfl (Nat.le_of_ble_eq_true rfl) rfl ?_
    exact mx_sub [1, 2, 0] rfl (mr_at h h9 f9)
  · replace h := h.2 c9
    refine mx_aload_nR d_RM_collect_12 rfl 0 rfl ?_
    refine mx_get d_RM_collect_13 (ci := 6) (k := 30) (q := mx_cl0_6) (v := .ref (r + 22)) rfl (Nat.le_of_ble_eq_true rfl) kw_254 h9.1 rfl ?_
    refine mx_iload_n d_RM_collect_16 rfl 2 rfl ?_
    refine mx_aload_nR d_RM_collect_17 rfl 0 rfl ?_
    refine mx_get d_RM_collect_18 (ci := 6) (k := 29) (q := mx_cl0_6) (v := .ref (r + 21)) rfl (Nat.le_of_ble_eq_true rfl) kw_253 h9.1 rfl ?_
    refine mx_iload_n d_RM_collect_21 rfl 2 rfl ?_
    obtain ⟨e2_, e3_, h⟩ := h
    refine mx_zald d_RM_collect_22 (k := 107) rfl (h9.2 29 (by decide) (by decide)) e2_ (rm_aget (by decide) e3_) ?_
    obtain ⟨e2_, e3_, e4_, h⟩ := h
    refine mx_zast d_RM_collect_23 (k := 107) rfl (by decide) (by omega) e4_ (h9.2 30 (by decide) (by decide)) e2_ (rm_alt e3_) ?_
    have f9 : mr_F hs0 (mx_st _ (r + 22) (107, (rm_av m 30).set (Int32.toNatClampNeg l2) (.int (m.1 29 (Int32.toNatClampNeg l2))))) := mr_frs f9 (h9.2 30 (by decide) (by decide)) rfl
    have h9 : rm_ob (mx_st _ (r + 22) (107, (rm_av m 30).set (Int32.toNatClampNeg l2) (.int (m.1 29 (Int32.toNatClampNeg l2))))) r (rs_i m 30 (Int32.toNatClampNeg l2) (m.1 29 (Int32.toNatClampNeg l2))) := rm_aput h9 30 (Int32.toNatClampNeg l2) (m.1 29 (Int32.toNatClampNeg l2)) (by decide) (by decide)
    replace h := h _ rfl
    generalize mx_st _ (r + 22) (107, (rm_av m 30).set (Int32.toNatClampNeg l2) (.int (m.1 29 (Int32.toNatClampNeg l2)))) = hs9 at h9 f9 ⊢
    generalize rs_i m 30 (Int32.toNatClampNeg l2) (m.1 29 (Int32.toNatClampNeg l2)) = m1 at h9 h
    refine mx_iinc (v := l2 + 1) (lv2 := [(2, .int (l2 + 1)), (0, .ref r), (1, .int l1)]) d_RM_collect_24 2 rfl (by rfl) (Nat.le_of_ble_eq_true rfl) rfl ?_
    refine mx_goto d_RM_collect_27 ?_
    exact mx_sub [1, 2, 0] rfl (mr_at h h9 f9)
set_option maxRecDepth 100000 in
theorem wr_collect_35 {l : Launch} {G : mx_G} {r d : Nat} {m : rm_M} {Q : Option Value → rm_M → Prop} (l1 : Int32) (l2 : Int32) (h : ((l2 < 1 → Q (some (.int l1)) m) ∧ (¬ (l2 < 1) → mr_Ok l G r (d + 1) mm_RM_collect 42 [(0, .ref r), (1, .int l1), (2, .int l2), (3, .int 0)] [] m Q))) : mr_Ok l G r (d + 1) mm_RM_collect 35 [(0, .ref r), (1, .int l1), (2, .int l2)] [] m Q := by
  refine mr_start (fun hs0 hs9 h9 f9 => ?_)
  refine mx_iload_n d_RM_collect_35 rfl 2 rfl ?_
  refine mx_iconst (v := 1) d_RM_collect_36 (by decide) ?_
  refine mx_icmp_lt d_RM_collect_37 (fun c9 => ?_) (fun c9 => ?_)
  · replace h := h.1 c9
    refine mx_iload_n d_RM_collect_139 rfl 1 rfl ?_
    exact mx_ireturn d_RM_collect_140 rfl rfl ⟨_, h9, f9.1, f9.2, h⟩
  · replace h := h.2 c9
    refine mx_iconst (v := 0) d_RM_collect_40 (by decide) ?_
    refine mx_istore_n (lv2 := [(3, .int 0), (0, .ref r), (1, .int l1), (2, .int l2)]) d_RM_collect_41 rfl (Nat.le_of_ble_eq_true rfl) rfl ?_
    exact mx_sub [1, 2, 3, 0] rfl (mr_at h h9 f9)
set_option maxRecDepth 100000 in
theorem wr_collect_42 {l : Launch} {G : mx_G} {r d : Nat} {m : rm_M} {Q : Option Value → rm_M → Prop} (l1 : Int32) (l2 : Int32) (l3 : Int32) (h : (¬ l2 < 0 ∧ Int32.toNatClampNeg l2 < 31 ∧ (((m.1 25 (Int32.toNatClampNeg l2)) ≤ l3 → (¬ l2 < 0 ∧ Int32.toNatClampNeg l2 < 31 ∧ (((m.1 27 (Int32.toNatClampNeg l2)) = 0 → mr_Ok l G r (d + 1) mm_RM_collect 133 [(0, .ref r), (1, .int l1), (2, .int l2)] [] m Q) ∧ (¬ ((m.1 27 (Int32.toNatClampNeg l2)) = 0) → (¬ l2 < 0 ∧ Int32.toNatClampNeg l2 < 31 ∧ ((¬ (m.1 30 (Int32.toNatClampNeg l2)) = 0 → mr_Ok l G r (d + 1) mm_RM_collect 133 [(0, .ref r), (1, .int l1), (2, .int l2)] [] m Q) ∧ (¬ (¬ (m.1 30 (Int32.toNatClampNeg l2)) = 0) → (¬ l2 < 0 ∧ Int32.toNatClampNeg l2 < 31 ∧ ∀ m1 : rm_M, m1 = rs_i m 27 (Int32.toNatClampNeg l2) 0 → mr_Ok l G r (d + 1) mm_RM_collect 133 [(0, .ref r), (1, .int (l1 + 1)), (2, .int l2)] [] m1 Q)))))))) ∧ (¬ ((m.1 25 (Int32.toNatClampNeg l2)) ≤ l3) → (¬ l2 < 0 ∧ Int32.toNatClampNeg l2 < 31 ∧ (((m.1 30 (Int32.toNatClampNeg l2)) = 0 → mr_Ok l G r (d + 1) mm_RM_collect 99 [(0, .ref r), (1, .int l1), (2, .int l2), (3, .int l3)] [] m Q) ∧ (¬ ((m.1 30 (Int32.toNatClampNeg l2)) = 0) → (¬ ((l2 * 4) + l3) < 0 ∧ Int32.toNatClampNeg ((l2 * 4) + l3) < 124 ∧ mr_C l G r d mm_RM_isNumber [.long (m.2.1 26 (Int32.toNatClampNeg ((l2 * 4) + l3)))] m (fun (r2 : Option Value) (m3 : rm_M) => ∃ x4 : Int32, r2 = some (.int x4) ∧ ((¬ x4 = 0 → mr_Ok l G r (d + 1) mm_RM_collect 99 [(0, .ref r), (1, .int l1), (2, .int l2), (3, .int l3)] [] m3 Q) ∧ (¬ (¬ x4 = 0) → (¬ ((l2 * 4) + l3) < 0 ∧ Int32.toNatClampNeg ((l2 * 4) + l3) < 124 ∧ (¬ (Int64.toInt32 ((m3.2.1 26 (Int32.toNatClampNeg ((l2 * 4) + l3))) - 1000000000000)) < 0 ∧ Int32.toNatClampNeg (Int64.toInt32 ((m3.2.1 26 (Int32.toNatClampNeg ((l2 * 4) + l3))) - 1000000000000)) < 31 ∧ ∀ m5 : rm_M, m5 = rs_i m3 30 (Int32.toNatClampNeg (Int64.toInt32 ((m3.2.1 26 (Int32.toNatClampNeg ((l2 * 4) + l3))) - 1000000000000))) 1 → mr_Ok l G r (d + 1) mm_RM_collect 99 [(0, .ref r), (1, .int l1), (2, .int l2), (3, .int l3)] [] m5 Q))))))))))))) : mr_Ok l G r (d + 1) mm_RM_collect 42 [(0, .ref r), (1, .int l1), (2, .int l2), (3, .int l3)] [] m Q := by
  refine mr_start (fun hs0 hs9 h9 f9 => ?_)
  refine mx_iload_n d_RM_collect_42 rfl 3 rfl ?_
  refine mx_aload_nR d_RM_collect_43 rfl 0 rfl ?_
  refine mx_get d_RM_collect_44 (ci := 6) (k := 25) (q := mx_cl0_6) (v := .ref (r + 17)) rfl (Nat.le_of_ble_eq_true rfl) kw_249 h9.1 rfl ?_
  refine mx_iload_n d_RM_collect_47 rfl 2 rfl ?_
  obtain ⟨e2_, e3_, h⟩ := h
  refine mx_iald d_RM_collect_48 (k := 104) rfl (h9.2 25 (by decide) (by decide)) e2_ (rm_aget (by decide) e3_) ?_
  refine mx_icmp_ge d_RM_collect_49 (fun c9 => ?_) (fun c9 => ?_)
  · replace h := h.1 c9
    refine mx_aload_nR d_RM_collect_105 rfl 0 rfl ?_
    refine mx_get d_RM_collect_106 (ci := 6) (k := 27) (q := mx_cl0_6) (v := .ref (r + 19)) rfl (Nat.le_of_ble_eq_true rfl) kw_251 h9.1 rfl ?_
    refine mx_iload_n d_RM_collect_109 rfl 2 rfl ?_
    obtain ⟨e2_, e3_, h⟩ := h
    refine mx_zald d_RM_collect_110 (k := 107) rfl (h9.2 27 (by decide) (by decide)) e2_ (rm_aget (by decide) e3_) ?_
    refine mx_if_eq d_RM_collect_111 (fun c9 => ?_) (fun c9 => ?_)
    · replace h := h.1 c9
      exact mx_sub [0, 1, 2] rfl (mr_at h h9 f9)
    · replace h := h.2 c9
      refine mx_aload_nR d_RM_collect_114 rfl 0 rfl ?_
      refine mx_get d_RM_collect_115 (ci := 6) (k := 30) (q := mx_cl0_6) (v := .ref (r + 22)) rfl (Nat.le_of_ble_eq_true rfl) kw_254 h9.1 rfl ?_
      refine mx_iload_n d_RM_collect_118 rfl 2 rfl ?_
      obtain ⟨e2_, e3_, h⟩ := h
      refine mx_zald d_RM_collect_119 (k := 107) rfl (h9.2 30 (by decide) (by decide)) e2_ (rm_aget (by decide) e3_) ?_
      refine mx_if_ne d_RM_collect_120 (fun c9 => ?_) (fun c9 => ?_)
      · replace h := h.1 c9
        exact mx_sub [0, 1, 2] rfl (mr_at h h9 f9)
      · replace h := h.2 c9
        refine mx_aload_nR d_RM_collect_123 rfl 0 rfl ?_
        refine mx_get d_RM_collect_124 (ci := 6) (k := 27) (q := mx_cl0_6) (v := .ref (r + 19)) rfl (Nat.le_of_ble_eq_true rfl) kw_251 h9.1 rfl ?_
        refine mx_iload_n d_RM_collect_127 rfl 2 rfl ?_
        refine mx_iconst (v := 0) d_RM_collect_128 (by decide) ?_
        obtain ⟨e2_, e3_, h⟩ := h
        refine mx_zast d_RM_collect_129 (k := 107) rfl (by decide) (by omega) (Or.inl rfl) (h9.2 27 (by decide) (by decide)) e2_ (rm_alt e3_) ?_
        have f9 : mr_F hs0 (mx_st _ (r + 19) (107, (rm_av m 27).set (Int32.toNatClampNeg l2) (.int 0))) := mr_frs f9 (h9.2 27 (by decide) (by decide)) rfl
        have h9 : rm_ob (mx_st _ (r + 19) (107, (rm_av m 27).set (Int32.toNatClampNeg l2) (.int 0))) r (rs_i m 27 (Int32.toNatClampNeg l2) 0) := rm_aput h9 27 (Int32.toNatClampNeg l2) 0 (by decide) (by decide)
        replace h := h _ rfl
        generalize mx_st _ (r + 19) (107, (rm_av m 27).set (Int32.toNatClampNeg l2) (.int 0)) = hs9 at h9 f9 ⊢
        generalize rs_i m 27 (Int32.toNatClampNeg l2) 0 = m1 at h9 h
        refine mx_iinc (v := l1 + 1) (lv2 := [(1, .int (l1 + 1)), (0, .ref r), (2, .int l2), (3, .int l3)]) d_RM_collect_130 1 rfl (by rfl) (Nat.le_of_ble_eq_true rfl) rfl ?_
        exact mx_sub [1, 0, 2] rfl (mr_at h h9 f9)
  · replace h := h.2 c9
    refine mx_aload_nR d_RM_collect_52 rfl 0 rfl ?_
    refine mx_get d_RM_collect_53 (ci := 6) (k := 30) (q := mx_cl0_6) (v := .ref (r + 22)) rfl (Nat.le_of_ble_eq_true rfl) kw_254 h9.1 rfl ?_
    refine mx_iload_n d_RM_collect_56 rfl 2 rfl ?_
    obtain ⟨e2_, e3_, h⟩ := h
    refine mx_zald d_RM_collect_57 (k := 107) rfl (h9.2 30 (by decide) (by decide)) e2_ (rm_aget (by decide) e3_) ?_
    refine mx_if_eq d_RM_collect_58 (fun c9 => ?_) (fun c9 => ?_)
    · replace h := h.1 c9
      exact mx_sub [0, 1, 2, 3] rfl (mr_at h h9 f9)
    · replace h := h.2 c9
      refine mx_aload_nR d_RM_collect_61 rfl 0 rfl ?_
      refine mx_aload_nR d_RM_collect_62 rfl 0 rfl ?_
      refine mx_get d_RM_collect_63 (ci := 6) (k := 26) (q := mx_cl0_6) (v := .ref (r + 18)) rfl (Nat.le_of_ble_eq_true rfl) kw_250 h9.1 rfl ?_
      refine mx_iload_n d_RM_collect_66 rfl 2 rfl ?_
      refine mx_iconst (v := 4) d_RM_collect_67 (by decide) ?_
      refine mx_imul d_RM_collect_68 ?_
      refine mx_iload_n d_RM_collect_69 rfl 3 rfl ?_
      refine mx_iadd d_RM_collect_70 ?_
      obtain ⟨e2_, e3_, h⟩ := h
      refine mx_lald d_RM_collect_71 (k := 106) rfl (h9.2 26 (by decide) (by decide)) e2_ (rm_agetl (by decide) e3_) ?_
      refine mx_invV (Y := mm_RM_isNumber) (As := [.long (m.2.1 26 (Int32.toNatClampNeg ((l2 * 4) + l3)))]) (rest := []) d_RM_collect_72.1 ok_RM_isNumber kw_296 kw_297 kw_298 rfl rfl (Nat.le_of_ble_eq_true rfl) (Nat.le_of_ble_eq_true rfl) h9.1 (q := mx_cl0_6) rfl rfl (h _ h9) (fun r2 hs8 h => ?_)
      obtain ⟨m3, h9, f8, z8, h⟩ := h
      obtain ⟨x4, e9_, h⟩ := h
      subst e9_
      have f9 := mr_frc f9 f8 z8
      clear f8 z8
      show mx_Ok mx_S0 l G (d + 1) mm_RM_collect 75 [(0, .ref r), (1, .int l1), (2, .int l2), (3, .int l3)] [.int x4] hs8 _
      refine mx_if_ne d_RM_collect_75 (fun c9 => ?_) (fun c9 => ?_)
      · replace h := h.1 c9
        exact mx_sub [0, 1, 2, 3] rfl (mr_at h h9 f9)
      · replace h := h.2 c9
        refine mx_aload_nR d_RM_collect_78 rfl 0 rfl ?_
        refine mx_get d_RM_collect_79 (ci := 6) (k := 30) (q := mx_cl0_6) (v := .ref (r + 22)) rfl (Nat.le_of_ble_eq_true rfl) kw_254 h9.1 rfl ?_
        refine mx_aload_nR d_RM_collect_82 rfl 0 rfl ?_
        refine mx_get d_RM_collect_83 (ci := 6) (k := 26) (q := mx_cl0_6) (v := .ref (r + 18)) rfl (Nat.le_of_ble_eq_true rfl) kw_250 h9.1 rfl ?_
        refine mx_iload_n d_RM_collect_86 rfl 2 rfl ?_
        refine mx_iconst (v := 4) d_RM_collect_87 (by decide) ?_
        refine mx_imul d_RM_collect_88 ?_
        refine mx_iload_n d_RM_collect_89 rfl 3 rfl ?_
        refine mx_iadd d_RM_collect_90 ?_
        obtain ⟨e2_, e3_, h⟩ := h
        refine mx_lald d_RM_collect_91 (k := 106) rfl (h9.2 26 (by decide) (by decide)) e2_ (rm_agetl (by decide) e3_) ?_
        refine mx_ldc2 (v := 1000000000000) d_RM_collect_92 kw_300 ?_
        refine mx_lsub d_RM_collect_95 ?_
        refine mx_l2i d_RM_collect_96 ?_
        refine mx_iconst (v := 1) d_RM_collect_97 (by decide) ?_
        obtain ⟨e2_, e3_, h⟩ := h
        refine mx_zast d_RM_collect_98 (k := 107) rfl (by decide) (by omega) (Or.inr rfl) (h9.2 30 (by decide) (by decide)) e2_ (rm_alt e3_) ?_
        have f9 : mr_F hs0 (mx_st _ (r + 22) (107, (rm_av m3 30).set (Int32.toNatClampNeg (Int64.toInt32 ((m3.2.1 26 (Int32.toNatClampNeg ((l2 * 4) + l3))) - 1000000000000))) (.int 1))) := mr_frs f9 (h9.2 30 (by decide) (by decide)) rfl
        have h9 : rm_ob (mx_st _ (r + 22) (107, (rm_av m3 30).set (Int32.toNatClampNeg (Int64.toInt32 ((m3.2.1 26 (Int32.toNatClampNeg ((l2 * 4) + l3))) - 1000000000000))) (.int 1))) r (rs_i m3 30 (Int32.toNatClampNeg (Int64.toInt32 ((m3.2.1 26 (Int32.toNatClampNeg ((l2 * 4) + l3))) - 1000000000000))) 1) := rm_aput h9 30 (Int32.toNatClampNeg (Int64.toInt32 ((m3.2.1 26 (Int32.toNatClampNeg ((l2 * 4) + l3))) - 1000000000000))) 1 (by decide) (by decide)
        replace h := h _ rfl
        generalize mx_st _ (r + 22) (107, (rm_av m3 30).set (Int32.toNatClampNeg (Int64.toInt32 ((m3.2.1 26 (Int32.toNatClampNeg ((l2 * 4) + l3))) - 1000000000000))) (.int 1)) = hs9 at h9 f9 ⊢
        generalize rs_i m3 30 (Int32.toNatClampNeg (Int64.toInt32 ((m3.2.1 26 (Int32.toNatClampNeg ((l2 * 4) + l3))) - 1000000000000))) 1 = m5 at h9 h
        exact mx_sub [0, 1, 2, 3] rfl (mr_at h h9 f9)
set_option maxRecDepth 100000 in
theorem wr_collect_99 {l : Launch} {G : mx_G} {r d : Nat} {m : rm_M} {Q : Option Value → rm_M → Prop} (l1 : Int32) (l2 : Int32) (l3 : Int32) (h : mr_Ok l G r (d + 1) mm_RM_collect 42 [(0, .ref r), (1, .int l1), (2, .int l2), (3, .int (l3 + 1))] [] m Q) : mr_Ok l G r (d + 1) mm_RM_collect 99 [(0, .ref r), (1, .int l1), (2, .int l2), (3, .int l3)] [] m Q := by
  refine mr_start (fun hs0 hs9 h9 f9 => ?_)
  refine mx_iinc (v := l3 + 1) (lv2 := [(3, .int (l3 + 1)), (0, .ref r), (1, .int l1), (2, .int l2)]) d_RM_collect_99 3 rfl (by rfl) (Nat.le_of_ble_eq_true rfl) rfl ?_
  refine mx_goto d_RM_collect_102 ?_
  exact mx_sub [1, 2, 3, 0] rfl (mr_at h h9 f9)
set_option maxRecDepth 100000 in
theorem wr_collect_133 {l : Launch} {G : mx_G} {r d : Nat} {m : rm_M} {Q : Option Value → rm_M → Prop} (l1 : Int32) (l2 : Int32) (h : mr_Ok l G r (d + 1) mm_RM_collect 35 [(0, .ref r), (1, .int l1), (2, .int (l2 + (-1)))] [] m Q) : mr_Ok l G r (d + 1) mm_RM_collect 133 [(0, .ref r), (1, .int l1), (2, .int l2)] [] m Q := by
  refine mr_start (fun hs0 hs9 h9 f9 => ?_)
  refine mx_iinc (v := l2 + (-1)) (lv2 := [(2, .int (l2 + (-1))), (0, .ref r), (1, .int l1)]) d_RM_collect_133 2 rfl (by rfl) (Nat.le_of_ble_eq_true rfl) rfl ?_
  refine mx_goto d_RM_collect_136 ?_
  exact mx_sub [1, 2, 0] rfl (mr_at h h9 f9)
set_option maxRecDepth 100000 in
theorem wr_input_0 {l : Launch} {G : mx_G} {r d : Nat} {m : rm_M} {Q : Option Value → rm_M → Prop} (l1 : Int32) (l2 : Int32) (h : mr_C l G r d mm_RM_noPlan [.int l1] m (fun (r1 : Option Value) (m2 : rm_M) => ∃ x3 : Int32, r1 = some (.int x3) ∧ ((¬ x3 = 0 → mr_Ok l G r (d + 1) mm_RM_input 22 [] [] m2 Q) ∧ (¬ (¬ x3 = 0) → ((l2 < 0 → mr_Ok l G r (d + 1) mm_RM_input 22 [] [] m2 Q) ∧ (¬ (l2 < 0) → (¬ l1 < 0 ∧ Int32.toNatClampNeg l1 < 31 ∧ ((l2 < (m2.1 25 (Int32.toNatClampNeg l1)) → (¬ ((l1 * 4) + l2) < 0 ∧ Int32.toNatClampNeg ((l1 * 4) + l2) < 124 ∧ Q (some (.long (m2.2.1 26 (Int32.toNatClampNeg ((l1 * 4) + l2))))) m2)) ∧ (¬ (l2 < (m2.1 25 (Int32.toNatClampNeg l1))) → mr_Ok l G r (d + 1) mm_RM_input 22 [] [] m2 Q))))))))) : mr_Ok l G r (d + 1) mm_RM_input 0 [(0, .ref r), (1, .int l1), (2, .int l2)] [] m Q := by
  refine mr_start (fun hs0 hs9 h9 f9 => ?_)
  refine mx_aload_nR d_RM_input_0 rfl 0 rfl ?_
  refine mx_iload_n d_RM_input_1 rfl 1 rfl ?_
  refine mx_invV (Y := mm_RM_noPlan) (As := [.int l1]) (rest := []) d_RM_input_2.1 ok_RM_noPlan kw_340 kw_341 kw_342 rfl rfl (Nat.le_of_ble_eq_true rfl) (Nat.le_of_ble_eq_true rfl) h9.1 (q := mx_cl0_6) rfl rfl (h _ h9) (fun r1 hs8 h => ?_)
  obtain ⟨m2, h9, f8, z8, h⟩ := h
  obtain ⟨x3, e9_, h⟩ := h
  subst e9_
  have f9 := mr_frc f9 f8 z8
  clear f8 z8
  show mx_Ok mx_S0 l G (d + 1) mm_RM_input 5 [(0, .ref r), (1, .int l1), (2, .int l2)] [.int x3] hs8 _
  refine mx_if_ne d_RM_input_5 (fun c9 => ?_) (fun c9 => ?_)
  · replace h := h.1 c9
    exact mx_sub [] rfl (mr_at h h9 f9)
  · replace h := h.2 c9
    refine mx_iload_n d_RM_input_8 rfl 2 rfl ?_
    refine mx_if_lt d_RM_input_9 (fun c9 => ?_) (fun c9 => ?_)
    · replace h := h.1 c9
      exact mx_sub [] rfl (mr_at h h9 f9)
    · replace h := h.2 c9
      refine mx_iload_n d_RM_input_12 rfl 2 rfl ?_
      refine mx_aload_nR d_RM_input_13 rfl 0 rfl ?_
      refine mx_get d_RM_input_14 (ci := 6) (k := 25) (q := mx_cl0_6) (v := .ref (r + 17)) rfl (Nat.le_of_ble_eq_true rfl) kw_249 h9.1 rfl ?_
      refine mx_iload_n d_RM_input_17 rfl 1 rfl ?_
      obtain ⟨e2_, e3_, h⟩ := h
      refine mx_iald d_RM_input_18 (k := 104) rfl (h9.2 25 (by decide) (by decide)) e2_ (rm_aget (by decide) e3_) ?_
      refine mx_icmp_lt d_RM_input_19 (fun c9 => ?_) (fun c9 => ?_)
      · replace h := h.1 c9
        refine mx_aload_nR d_RM_input_28 rfl 0 rfl ?_
        refine mx_get d_RM_input_29 (ci := 6) (k := 26) (q := mx_cl0_6) (v := .ref (r + 18)) rfl (Nat.le_of_ble_eq_true rfl) kw_250 h9.1 rfl ?_
        refine mx_iload_n d_RM_input_32 rfl 1 rfl ?_
        refine mx_iconst (v := 4) d_RM_input_33 (by decide) ?_
        refine mx_imul d_RM_input_34 ?_
        refine mx_iload_n d_RM_input_35 rfl 2 rfl ?_
        refine mx_iadd d_RM_input_36 ?_
        obtain ⟨e2_, e3_, h⟩ := h
        refine mx_lald d_RM_input_37 (k := 106) rfl (h9.2 26 (by decide) (by decide)) e2_ (rm_agetl (by decide) e3_) ?_
        exact mx_lreturn d_RM_input_38 rfl ⟨_, h9, f9.1, f9.2, h⟩
      · replace h := h.2 c9
        exact mx_sub [] rfl (mr_at h h9 f9)
set_option maxRecDepth 100000 in
theorem wr_input_22 {l : Launch} {G : mx_G} {r d : Nat} {m : rm_M} {Q : Option Value → rm_M → Prop}  (h : Q (some (.long (-1000000000000))) m) : mr_Ok l G r (d + 1) mm_RM_input 22 [] [] m Q := by
  refine mr_start (fun hs0 hs9 h9 f9 => ?_)
  refine mx_ldc2 (v := (-1000000000000)) d_RM_input_22 kw_339 ?_
  refine mx_goto d_RM_input_25 ?_
  exact mx_lreturn d_RM_input_38 rfl ⟨_, h9, f9.1, f9.2, h⟩
set_option maxRecDepth 100000 in
theorem wr_plan_0 {l : Launch} {G : mx_G} {r d : Nat} {m : rm_M} {Q : Option Value → rm_M → Prop} (l1 : Int32) (l2 : Int32) (h : mr_C l G r d mm_RM_noPlan [.int l1] m (fun (r1 : Option Value) (m2 : rm_M) => ∃ x3 : Int32, r1 = some (.int x3) ∧ ((¬ x3 = 0 → Q (some (.int (-1))) m2) ∧ (¬ (¬ x3 = 0) → ((l2 < 0 → Q (some (.int (-1))) m2) ∧ (¬ (l2 < 0) → ((l2 ≤ 4 → ((¬ l2 = 0 → ((¬ l2 = 1 → ((¬ l2 = 2 → ((¬ l2 = 3 → (¬ l1 < 0 ∧ Int32.toNatClampNeg l1 < 31 ∧ (((m2.1 29 (Int32.toNatClampNeg l1)) = 0 → Q (some (.int 0)) m2) ∧ (¬ ((m2.1 29 (Int32.toNatClampNeg l1)) = 0) → Q (some (.int 1)) m2)))) ∧ (¬ (¬ l2 = 3) → (¬ l1 < 0 ∧ Int32.toNatClampNeg l1 < 31 ∧ (((m2.1 27 (Int32.toNatClampNeg l1)) = 0 → Q (some (.int 0)) m2) ∧ (¬ ((m2.1 27 (Int32.toNatClampNeg l1)) = 0) → (¬ l1 < 0 ∧ Int32.toNatClampNeg l1 < 31 ∧ Q (some (.int (m2.1 28 (Int32.toNatClampNeg l1)))) m2))))))) ∧ (¬ (¬ l2 = 2) → (¬ l1 < 0 ∧ Int32.toNatClampNeg l1 < 31 ∧ (((m2.1 27 (Int32.toNatClampNeg l1)) = 0 → Q (some (.int 0)) m2) ∧ (¬ ((m2.1 27 (Int32.toNatClampNeg l1)) = 0) → Q (some (.int 1)) m2)))))) ∧ (¬ (¬ l2 = 1) → (¬ l1 < 0 ∧ Int32.toNatClampNeg l1 < 31 ∧ Q (some (.int (m2.1 25 (Int32.toNatClampNeg l1)))) m2)))) ∧ (¬ (¬ l2 = 0) → (¬ l1 < 0 ∧ Int32.toNatClampNeg l1 < 31 ∧ Q (some (.int (m2.1 24 (Int32.toNatClampNeg l1)))) m2)))) ∧ (¬ (l2 ≤ 4) → Q (some (.int (-1))) m2)))))))) : mr_Ok l G r (d + 1) mm_RM_plan 0 [(0, .ref r), (1, .int l1), (2, .int l2)] [] m Q := by
  refine mr_start (fun hs0 hs9 h9 f9 => ?_)
  refine mx_aload_nR d_RM_plan_0 rfl 0 rfl ?_
  refine mx_iload_n d_RM_plan_1 rfl 1 rfl ?_
  refine mx_invV (Y := mm_RM_noPlan) (As := [.int l1]) (rest := []) d_RM_plan_2.1 ok_RM_noPlan kw_340 kw_341 kw_342 rfl rfl (Nat.le_of_ble_eq_true rfl) (Nat.le_of_ble_eq_true rfl) h9.1 (q := mx_cl0_6) rfl rfl (h _ h9) (fun r1 hs8 h => ?_)
  obtain ⟨m2, h9, f8, z8, h⟩ := h
  obtain ⟨x3, e9_, h⟩ := h
  subst e9_
  have f9 := mr_frc f9 f8 z8
  clear f8 z8
  show mx_Ok mx_S0 l G (d + 1) mm_RM_plan 5 [(0, .ref r), (1, .int l1), (2, .int l2)] [.int x3] hs8 _
  refine mx_if_ne d_RM_plan_5 (fun c9 => ?_) (fun c9 => ?_)
  · replace h := h.1 c9
    refine mx_iconst (v := -1) d_RM_plan_17 (by decide) ?_
    exact mx_ireturn d_RM_plan_18 rfl rfl ⟨_, h9, f9.1, f9.2, h⟩
  · replace h := h.2 c9
    refine mx_iload_n d_RM_plan_8 rfl 2 rfl ?_
    refine mx_if_lt d_RM_plan_9 (fun c9 => ?_) (fun c9 => ?_)
    · replace h := h.1 c9
      refine mx_iconst (v := -1) d_RM_plan_17 (by decide) ?_
      exact mx_ireturn d_RM_plan_18 rfl rfl ⟨_, h9, f9.1, f9.2, h⟩
    · replace h := h.2 c9
      refine mx_iload_n d_RM_plan_12 rfl 2 rfl ?_
      refine mx_iconst (v := 4) d_RM_plan_13 (by decide) ?_
      refine mx_icmp_le d_RM_plan_14 (fun c9 => ?_) (fun c9 => ?_)
      · replace h := h.1 c9
        refine mx_iload_n d_RM_plan_19 rfl 2 rfl ?_
        refine mx_if_ne d_RM_plan_20 (fun c9 => ?_) (fun c9 => ?_)
        · replace h := h.1 c9
          refine mx_iload_n d_RM_plan_30 rfl 2 rfl ?_
          refine mx_iconst (v := 1) d_RM_plan_31 (by decide) ?_
          refine mx_icmp_ne d_RM_plan_32 (fun c9 => ?_) (fun c9 => ?_)
          · replace h := h.1 c9
            refine mx_iload_n d_RM_plan_42 rfl 2 rfl ?_
            refine mx_iconst (v := 2) d_RM_plan_43 (by decide) ?_
            refine mx_icmp_ne d_RM_plan_44 (fun c9 => ?_) (fun c9 => ?_)
            · replace h := h.1 c9
              refine mx_iload_n d_RM_plan_62 rfl 2 rfl ?_
              refine mx_iconst (v := 3) d_RM_plan_63 (by decide) ?_
              refine mx_icmp_ne d_RM_plan_64 (fun c9 => ?_) (fun c9 => ?_)
              · replace h := h.1 c9
                refine mx_aload_nR d_RM_plan_87 rfl 0 rfl ?_
                refine mx_get d_RM_plan_88 (ci := 6) (k := 29) (q := mx_cl0_6) (v := .ref (r + 21)) rfl (Nat.le_of_ble_eq_true rfl) kw_253 h9.1 rfl ?_
                refine mx_iload_n d_RM_plan_91 rfl 1 rfl ?_
                obtain ⟨e2_, e3_, h⟩ := h
                refine mx_zald d_RM_plan_92 (k := 107) rfl (h9.2 29 (by decide) (by decide)) e2_ (rm_aget (by decide) e3_) ?_
                refine mx_if_eq d_RM_plan_93 (fun c9 => ?_) (fun c9 => ?_)
                · replace h := h.1 c9
                  refine mx_iconst (v := 0) d_RM_plan_100 (by decide) ?_
                  exact mx_ireturn d_RM_plan_101 rfl rfl ⟨_, h9, f9.1, f9.2, h⟩
                · replace h := h.2 c9
                  refine mx_iconst (v := 1) d_RM_plan_96 (by decide) ?_
                  refine mx_goto d_RM_plan_97 ?_
                  exact mx_ireturn d_RM_plan_101 rfl rfl ⟨_, h9, f9.1, f9.2, h⟩
              · replace h := h.2 c9
                refine mx_aload_nR d_RM_plan_67 rfl 0 rfl ?_
                refine mx_get d_RM_plan_68 (ci := 6) (k := 27) (q := mx_cl0_6) (v := .ref (r + 19)) rfl (Nat.le_of_ble_eq_true rfl) kw_251 h9.1 rfl ?_
                refine mx_iload_n d_RM_plan_71 rfl 1 rfl ?_
                obtain ⟨e2_, e3_, h⟩ := h
                refine mx_zald d_RM_plan_72 (k := 107) rfl (h9.2 27 (by decide) (by decide)) e2_ (rm_aget (by decide) e3_) ?_
                refine mx_if_eq d_RM_plan_73 (fun c9 => ?_) (fun c9 => ?_)
                · replace h := h.1 c9
                  refine mx_iconst (v := 0) d_RM_plan_85 (by decide) ?_
                  exact mx_ireturn d_RM_plan_86 rfl rfl ⟨_, h9, f9.1, f9.2, h⟩
                · replace h := h.2 c9
                  refine mx_aload_nR d_RM_plan_76 rfl 0 rfl ?_
                  refine mx_get d_RM_plan_77 (ci := 6) (k := 28) (q := mx_cl0_6) (v := .ref (r + 20)) rfl (Nat.le_of_ble_eq_true rfl) kw_252 h9.1 rfl ?_
                  refine mx_iload_n d_RM_plan_80 rfl 1 rfl ?_
                  obtain ⟨e2_, e3_, h⟩ := h
                  refine mx_iald d_RM_plan_81 (k := 104) rfl (h9.2 28 (by decide) (by decide)) e2_ (rm_aget (by decide) e3_) ?_
                  refine mx_goto d_RM_plan_82 ?_
                  exact mx_ireturn d_RM_plan_86 rfl rfl ⟨_, h9, f9.1, f9.2, h⟩
            · replace h := h.2 c9
              refine mx_aload_nR d_RM_plan_47 rfl 0 rfl ?_
              refine mx_get d_RM_plan_48 (ci := 6) (k := 27) (q := mx_cl0_6) (v := .ref (r + 19)) rfl (Nat.le_of_ble_eq_true rfl) kw_251 h9.1 rfl ?_
              refine mx_iload_n d_RM_plan_51 rfl 1 rfl ?_
              obtain ⟨e2_, e3_, h⟩ := h
              refine mx_zald d_RM_plan_52 (k := 107) rfl (h9.2 27 (by decide) (by decide)) e2_ (rm_aget (by decide) e3_) ?_
              refine mx_if_eq d_RM_plan_53 (fun c9 => ?_) (fun c9 => ?_)
              · replace h := h.1 c9
                refine mx_iconst (v := 0) d_RM_plan_60 (by decide) ?_
                exact mx_ireturn d_RM_plan_61 rfl rfl ⟨_, h9, f9.1, f9.2, h⟩
              · replace h := h.2 c9
                refine mx_iconst (v := 1) d_RM_plan_56 (by decide) ?_
                refine mx_goto d_RM_plan_57 ?_
                exact mx_ireturn d_RM_plan_61 rfl rfl ⟨_, h9, f9.1, f9.2, h⟩
          · replace h := h.2 c9
            refine mx_aload_nR d_RM_plan_35 rfl 0 rfl ?_
            refine mx_get d_RM_plan_36 (ci := 6) (k := 25) (q := mx_cl0_6) (v := .ref (r + 17)) rfl (Nat.le_of_ble_eq_true rfl) kw_249 h9.1 rfl ?_
            refine mx_iload_n d_RM_plan_39 rfl 1 rfl ?_
            obtain ⟨e2_, e3_, h⟩ := h
            refine mx_iald d_RM_plan_40 (k := 104) rfl (h9.2 25 (by decide) (by decide)) e2_ (rm_aget (by decide) e3_) ?_
            exact mx_ireturn d_RM_plan_41 rfl rfl ⟨_, h9, f9.1, f9.2, h⟩
        · replace h := h.2 c9
          refine mx_aload_nR d_RM_plan_23 rfl 0 rfl ?_
          refine mx_get d_RM_plan_24 (ci := 6) (k := 24) (q := mx_cl0_6) (v := .ref (r + 16)) rfl (Nat.le_of_ble_eq_true rfl) kw_248 h9.1 rfl ?_
          refine mx_iload_n d_RM_plan_27 rfl 1 rfl ?_
          obtain ⟨e2_, e3_, h⟩ := h
          refine mx_iald d_RM_plan_28 (k := 104) rfl (h9.2 24 (by decide) (by decide)) e2_ (rm_aget (by decide) e3_) ?_
          exact mx_ireturn d_RM_plan_29 rfl rfl ⟨_, h9, f9.1, f9.2, h⟩
      · replace h := h.2 c9
        refine mx_iconst (v := -1) d_RM_plan_17 (by decide) ?_
        exact mx_ireturn d_RM_plan_18 rfl rfl ⟨_, h9, f9.1, f9.2, h⟩
set_option maxRecDepth 100000 in
theorem wr_count_0 {l : Launch} {G : mx_G} {r d : Nat} {m : rm_M} {Q : Option Value → rm_M → Prop} (l1 : Int32) (h : ((¬ l1 = 0 → ((¬ l1 = 1 → ((¬ l1 = 2 → ((¬ l1 = 3 → ((¬ l1 = 4 → ((¬ l1 = 5 → ((l1 = 6 → mr_Ok l G r (d + 1) mm_RM_count 78 [(0, .ref r), (1, .int l1), (2, .int 0)] [] m Q) ∧ (¬ (l1 = 6) → ((l1 = 7 → mr_Ok l G r (d + 1) mm_RM_count 78 [(0, .ref r), (1, .int l1), (2, .int 0)] [] m Q) ∧ (¬ (l1 = 7) → Q (some (.int (-1))) m))))) ∧ (¬ (¬ l1 = 5) → Q (some (.int (m.2.2.1 6))) m))) ∧ (¬ (¬ l1 = 4) → (¬ (8 : Int32) < 0 ∧ Int32.toNatClampNeg 8 < 9 ∧ Q (some (.int (m.1 1 (Int32.toNatClampNeg 8)))) m)))) ∧ (¬ (¬ l1 = 3) → Q (some (.int (m.2.2.1 21))) m))) ∧ (¬ (¬ l1 = 2) → Q (some (.int (m.2.2.1 20))) m))) ∧ (¬ (¬ l1 = 1) → Q (some (.int (m.2.2.1 35))) m))) ∧ (¬ (¬ l1 = 0) → Q (some (.int (m.2.2.1 34))) m))) : mr_Ok l G r (d + 1) mm_RM_count 0 [(0, .ref r), (1, .int l1)] [] m Q := by
  refine mr_start (fun hs0 hs9 h9 f9 => ?_)
  refine mx_iconst (v := 0) d_RM_count_0 (by decide) ?_
  refine mx_istore_n (lv2 := [(2, .int 0), (0, .ref r), (1, .int l1)]) d_RM_count_1 rfl (Nat.le_of_ble_eq_true rfl) rfl ?_
  refine mx_iload_n d_RM_count_2 rfl 2 rfl ?_
  refine mx_if_ne d_RM_count_3 (fun c9 => ?_) (fun c9 => ?_)
  · replace h := h.1 c9
    refine mx_iload_n d_RM_count_11 rfl 2 rfl ?_
    refine mx_iconst (v := 1) d_RM_count_12 (by decide) ?_
    refine mx_icmp_ne d_RM_count_13 (fun c9 => ?_) (fun c9 => ?_)
    · replace h := h.1 c9
      refine mx_iload_n d_RM_count_21 rfl 2 rfl ?_
      refine mx_iconst (v := 2) d_RM_count_22 (by decide) ?_
      refine mx_icmp_ne d_RM_count_23 (fun c9 => ?_) (fun c9 => ?_)
      · replace h := h.1 c9
        refine mx_iload_n d_RM_count_31 rfl 2 rfl ?_
        refine mx_iconst (v := 3) d_RM_count_32 (by decide) ?_
        refine mx_icmp_ne d_RM_count_33 (fun c9 => ?_) (fun c9 => ?_)
        · replace h := h.1 c9
          refine mx_iload_n d_RM_count_41 rfl 2 rfl ?_
          refine mx_iconst (v := 4) d_RM_count_42 (by decide) ?_
          refine mx_icmp_ne d_RM_count_43 (fun c9 => ?_) (fun c9 => ?_)
          · replace h := h.1 c9
            refine mx_iload_n d_RM_count_54 rfl 2 rfl ?_
            refine mx_iconst (v := 5) d_RM_count_55 (by decide) ?_
            refine mx_icmp_ne d_RM_count_56 (fun c9 => ?_) (fun c9 => ?_)
            · replace h := h.1 c9
              refine mx_iload_n d_RM_count_64 rfl 2 rfl ?_
              refine mx_bipush (v := 6) d_RM_count_65 (by decide) ?_
              refine mx_icmp_eq d_RM_count_67 (fun c9 => ?_) (fun c9 => ?_)
              · replace h := h.1 c9
                exact mx_sub [1, 2, 0] rfl (mr_at h h9 f9)
              · replace h := h.2 c9
                refine mx_iload_n d_RM_count_70 rfl 2 rfl ?_
                refine mx_bipush (v := 7) d_RM_count_71 (by decide) ?_
                refine mx_icmp_eq d_RM_count_73 (fun c9 => ?_) (fun c9 => ?_)
                · replace h := h.1 c9
                  exact mx_sub [1, 2, 0] rfl (mr_at h h9 f9)
                · replace h := h.2 c9
                  refine mx_iconst (v := -1) d_RM_count_76 (by decide) ?_
                  exact mx_ireturn d_RM_count_77 rfl rfl ⟨_, h9, f9.1, f9.2, h⟩
            · replace h := h.2 c9
              refine mx_aload_nR d_RM_count_59 rfl 1 rfl ?_
              refine mx_get d_RM_count_60 (ci := 6) (k := 6) (q := mx_cl0_6) (v := .int (m.2.2.1 6)) rfl (Nat.le_of_ble_eq_true rfl) kw_238 h9.1 rfl ?_
              exact mx_ireturn d_RM_count_63 rfl rfl ⟨_, h9, f9.1, f9.2, h⟩
          · replace h := h.2 c9
            refine mx_aload_nR d_RM_count_46 rfl 1 rfl ?_
            refine mx_get d_RM_count_47 (ci := 6) (k := 1) (q := mx_cl0_6) (v := .ref (r + 2)) rfl (Nat.le_of_ble_eq_true rfl) kw_232 h9.1 rfl ?_
            refine mx_bipush (v := 8) d_RM_count_50 (by decide) ?_
            obtain ⟨e2_, e3_, h⟩ := h
            refine mx_iald d_RM_count_52 (k := 104) rfl (h9.2 1 (by decide) (by decide)) e2_ (rm_aget (by decide) e3_) ?_
            exact mx_ireturn d_RM_count_53 rfl rfl ⟨_, h9, f9.1, f9.2, h⟩
        · replace h := h.2 c9
          refine mx_aload_nR d_RM_count_36 rfl 1 rfl ?_
          refine mx_get d_RM_count_37 (ci := 6) (k := 21) (q := mx_cl0_6) (v := .int (m.2.2.1 21)) rfl (Nat.le_of_ble_eq_true rfl) kw_322 h9.1 rfl ?_
          exact mx_ireturn d_RM_count_40 rfl rfl ⟨_, h9, f9.1, f9.2, h⟩
      · replace h := h.2 c9
        refine mx_aload_nR d_RM_count_26 rfl 1 rfl ?_
        refine mx_get d_RM_count_27 (ci := 6) (k := 20) (q := mx_cl0_6) (v := .int (m.2.2.1 20)) rfl (Nat.le_of_ble_eq_true rfl) kw_288 h9.1 rfl ?_
        exact mx_ireturn d_RM_count_30 rfl rfl ⟨_, h9, f9.1, f9.2, h⟩
    · replace h := h.2 c9
      refine mx_aload_nR d_RM_count_16 rfl 1 rfl ?_
      refine mx_get d_RM_count_17 (ci := 6) (k := 35) (q := mx_cl0_6) (v := .int (m.2.2.1 35)) rfl (Nat.le_of_ble_eq_true rfl) kw_335 h9.1 rfl ?_
      exact mx_ireturn d_RM_count_20 rfl rfl ⟨_, h9, f9.1, f9.2, h⟩
  · replace h := h.2 c9
    refine mx_aload_nR d_RM_count_6 rfl 1 rfl ?_
    refine mx_get d_RM_count_7 (ci := 6) (k := 34) (q := mx_cl0_6) (v := .int (m.2.2.1 34)) rfl (Nat.le_of_ble_eq_true rfl) kw_299 h9.1 rfl ?_
    exact mx_ireturn d_RM_count_10 rfl rfl ⟨_, h9, f9.1, f9.2, h⟩
set_option maxRecDepth 100000 in
theorem wr_count_78 {l : Launch} {G : mx_G} {r d : Nat} {m : rm_M} {Q : Option Value → rm_M → Prop} (l1 : Int32) (l2 : Int32) (h : mr_Ok l G r (d + 1) mm_RM_count 80 [(0, .ref r), (1, .int l1), (2, .int l2), (3, .int 0)] [] m Q) : mr_Ok l G r (d + 1) mm_RM_count 78 [(0, .ref r), (1, .int l1), (2, .int l2)] [] m Q := by
  refine mr_start (fun hs0 hs9 h9 f9 => ?_)
  refine mx_iconst (v := 0) d_RM_count_78 (by decide) ?_
  refine mx_istore_n (lv2 := [(3, .int 0), (0, .ref r), (1, .int l1), (2, .int l2)]) d_RM_count_79 rfl (Nat.le_of_ble_eq_true rfl) rfl ?_
  exact mx_sub [1, 2, 3, 0] rfl (mr_at h h9 f9)
set_option maxRecDepth 100000 in
theorem wr_count_80 {l : Launch} {G : mx_G} {r d : Nat} {m : rm_M} {Q : Option Value → rm_M → Prop} (l1 : Int32) (l2 : Int32) (l3 : Int32) (h : ((8 ≤ l3 → Q (some (.int l2)) m) ∧ (¬ (8 ≤ l3) → ((¬ l1 = 6 → (¬ l3 < 0 ∧ Int32.toNatClampNeg l3 < 9 ∧ (((m.1 3 (Int32.toNatClampNeg l3)) = 0 → mr_Ok l G r (d + 1) mm_RM_count 116 [(0, .ref r), (1, .int l1), (2, .int l2), (3, .int l3)] [] m Q) ∧ (¬ ((m.1 3 (Int32.toNatClampNeg l3)) = 0) → mr_Ok l G r (d + 1) mm_RM_count 113 [(0, .ref r), (1, .int l1), (2, .int l2), (3, .int l3)] [] m Q)))) ∧ (¬ (¬ l1 = 6) → (¬ l3 < 0 ∧ Int32.toNatClampNeg l3 < 8 ∧ (((m.1 4 (Int32.toNatClampNeg l3)) = 0 → mr_Ok l G r (d + 1) mm_RM_count 116 [(0, .ref r), (1, .int l1), (2, .int l2), (3, .int l3)] [] m Q) ∧ (¬ ((m.1 4 (Int32.toNatClampNeg l3)) = 0) → mr_Ok l G r (d + 1) mm_RM_count 113 [(0, .ref r), (1, .int l1), (2, .int l2), (3, .int l3)] [] m Q)))))))) : mr_Ok l G r (d + 1) mm_RM_count 80 [(0, .ref r), (1, .int l1), (2, .int l2), (3, .int l3)] [] m Q := by
  refine mr_start (fun hs0 hs9 h9 f9 => ?_)
  refine mx_iload_n d_RM_count_80 rfl 3 rfl ?_
  refine mx_bipush (v := 8) d_RM_count_81 (by decide) ?_
  refine mx_icmp_ge d_RM_count_83 (fun c9 => ?_) (fun c9 => ?_)
  · replace h := h.1 c9
    refine mx_iload_n d_RM_count_122 rfl 2 rfl ?_
    exact mx_ireturn d_RM_count_123 rfl rfl ⟨_, h9, f9.1, f9.2, h⟩
  · replace h := h.2 c9
    refine mx_iload_n d_RM_count_86 rfl 1 rfl ?_
    refine mx_bipush (v := 6) d_RM_count_87 (by decide) ?_
    refine mx_icmp_ne d_RM_count_89 (fun c9 => ?_) (fun c9 => ?_)
    · replace h := h.1 c9
      refine mx_aload_nR d_RM_count_104 rfl 0 rfl ?_
      refine mx_get d_RM_count_105 (ci := 6) (k := 3) (q := mx_cl0_6) (v := .ref (r + 4)) rfl (Nat.le_of_ble_eq_true rfl) kw_235 h9.1 rfl ?_
      refine mx_iload_n d_RM_count_108 rfl 3 rfl ?_
      obtain ⟨e2_, e3_, h⟩ := h
      refine mx_zald d_RM_count_109 (k := 107) rfl (h9.2 3 (by decide) (by decide)) e2_ (rm_aget (by decide) e3_) ?_
      refine mx_if_eq d_RM_count_110 (fun c9 => ?_) (fun c9 => ?_)
      · replace h := h.1 c9
        exact mx_sub [0, 1, 2, 3] rfl (mr_at h h9 f9)
      · replace h := h.2 c9
        exact mx_sub [0, 1, 2, 3] rfl (mr_at h h9 f9)
    · replace h := h.2 c9
      refine mx_aload_nR d_RM_count_92 rfl 0 rfl ?_
      refine mx_get d_RM_count_93 (ci := 6) (k := 4) (q := mx_cl0_6) (v := .ref (r + 5)) rfl (Nat.le_of_ble_eq_true rfl) kw_236 h9.1 rfl ?_
      refine mx_iload_n d_RM_count_96 rfl 3 rfl ?_
      obtain ⟨e2_, e3_, h⟩ := h
      refine mx_zald d_RM_count_97 (k := 107) rfl (h9.2 4 (by decide) (by decide)) e2_ (rm_aget (by decide) e3_) ?_
      refine mx_if_eq d_RM_count_98 (fun c9 => ?_) (fun c9 => ?_)
      · replace h := h.1 c9
        exact mx_sub [0, 1, 2, 3] rfl (mr_at h h9 f9)
      · replace h := h.2 c9
        refine mx_goto d_RM_count_101 ?_
        exact mx_sub [0, 1, 2, 3] rfl (mr_at h h9 f9)
set_option maxRecDepth 100000 in
theorem wr_count_113 {l : Launch} {G : mx_G} {r d : Nat} {m : rm_M} {Q : Option Value → rm_M → Prop} (l1 : Int32) (l2 : Int32) (l3 : Int32) (h : mr_Ok l G r (d + 1) mm_RM_count 116 [(0, .ref r), (1, .int l1), (2, .int (l2 + 1)), (3, .int l3)] [] m Q) : mr_Ok l G r (d + 1) mm_RM_count 113 [(0, .ref r), (1, .int l1), (2, .int l2), (3, .int l3)] [] m Q := by
  refine mr_start (fun hs0 hs9 h9 f9 => ?_)
  refine mx_iinc (v := l2 + 1) (lv2 := [(2, .int (l2 + 1)), (0, .ref r), (1, .int l1), (3, .int l3)]) d_RM_count_113 2 rfl (by rfl) (Nat.le_of_ble_eq_true rfl) rfl ?_
  exact mx_sub [1, 2, 0, 3] rfl (mr_at h h9 f9)
set_option maxRecDepth 100000 in
theorem wr_count_116 {l : Launch} {G : mx_G} {r d : Nat} {m : rm_M} {Q : Option Value → rm_M → Prop} (l1 : Int32) (l2 : Int32) (l3 : Int32) (h : mr_Ok l G r (d + 1) mm_RM_count 80 [(0, .ref r), (1, .int l1), (2, .int l2), (3, .int (l3 + 1))] [] m Q) : mr_Ok l G r (d + 1) mm_RM_count 116 [(0, .ref r), (1, .int l1), (2, .int l2), (3, .int l3)] [] m Q := by
  refine mr_start (fun hs0 hs9 h9 f9 => ?_)
  refine mx_iinc (v := l3 + 1) (lv2 := [(3, .int (l3 + 1)), (0, .ref r), (1, .int l1), (2, .int l2)]) d_RM_count_116 3 rfl (by rfl) (Nat.le_of_ble_eq_true rfl) rfl ?_
  refine mx_goto d_RM_count_119 ?_
  exact mx_sub [1, 2, 3, 0] rfl (mr_at h h9 f9)
