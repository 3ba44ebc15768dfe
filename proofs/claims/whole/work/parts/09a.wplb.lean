set_option maxRecDepth 100000 in
theorem wp_LB_init_0 {l : Launch} {G : mx_G} {d : Nat} {hs : mx_H} {Q : Option Value → mx_H → Prop} (l0 : Nat) (h : (∀ hs1 : mx_H, hs1 = mx_nw hs (1, [.null, .null, .int 0, .int 0, .int 0]) 5 → mx_C mx_S0 l G d mm_LBText_init [.ref hs.2.1] hs1 (fun (r2 : Option Value) (hs3 : mx_H) => r2 = none ∧ (∃ fs4 : List Value, hs3.1 l0 = some (0, fs4) ∧ ∀ hs5 : mx_H, hs5 = mx_st hs3 l0 (0, fs4.set 0 (.ref hs.2.1)) → (∀ hs6 : mx_H, hs6 = mx_nw hs5 (4, [.null, .null, .int 0, .int 0]) 4 → mx_C mx_S0 l G d mm_LBStore_init [.ref hs5.2.1] hs6 (fun (r7 : Option Value) (hs8 : mx_H) => r7 = none ∧ (∃ fs9 : List Value, hs8.1 l0 = some (0, fs9) ∧ ∀ hs10 : mx_H, hs10 = mx_st hs8 l0 (0, fs9.set 1 (.ref hs5.2.1)) → (∀ hs11 : mx_H, hs11 = mx_nw hs10 (5, [.null, .null, .null, .int 0, .int 0]) 5 → (∃ (a13 : Nat), mx_f hs11 l0 0 1 (.ref a13) ∧ mx_C mx_S0 l G d mm_LBWorker_init [.ref hs10.2.1, .ref a13] hs11 (fun (r14 : Option Value) (hs15 : mx_H) => r14 = none ∧ (∃ fs16 : List Value, hs15.1 l0 = some (0, fs16) ∧ ∀ hs17 : mx_H, hs17 = mx_st hs15 l0 (0, fs16.set 2 (.ref hs10.2.1)) → (∃ fs18 : List Value, hs17.1 l0 = some (0, fs18) ∧ ∀ hs19 : mx_H, hs19 = mx_st hs17 l0 (0, fs18.set 3 (.long (-1000000000000))) → (∃ fs20 : List Value, hs19.1 l0 = some (0, fs20) ∧ ∀ hs21 : mx_H, hs21 = mx_st hs19 l0 (0, fs20.set 4 (.int (-1))) → Q none hs21))))))))))))) : mx_Ok mx_S0 l G (d + 1) mm_LB_init 0 [(0, .ref l0)] [] hs Q := by
  refine mx_aload_nR d_LB_init_0 rfl 0 rfl ?_
  refine mx_objInit d_LB_init_1 kw_0 kw_1 k_objcode (Nat.le_of_ble_eq_true rfl) ?_
  refine mx_aload_nR d_LB_init_4 rfl 0 rfl ?_
  refine mx_new d_LB_init_5 (ci := 1) (q := mx_cl0_1) (fs := [.null, .null, .int 0, .int 0, .int 0]) (n := 5) rfl kw_2 kw_3 kw_4 rfl rfl mdf_1 ?_
  obtain ⟨hs1, hg_⟩ : ∃ x_, x_ = mx_nw hs (1, [.null, .null, .int 0, .int 0, .int 0]) 5 := ⟨_, rfl⟩
  replace h := h hs1 hg_
  rw [← hg_]
  clear hg_
  refine mx_dup d_LB_init_8 rfl ?_
  refine mx_invI (Y := mm_LBText_init) (As := []) (rest := [.ref hs.2.1, .ref l0]) rfl d_LB_init_9.1 ok_LBText_init kw_21 kw_22 rfl rfl rfl (Nat.le_of_ble_eq_true rfl) (Nat.le_of_ble_eq_true rfl) h (fun r2 hs3 h => ?_)
  obtain ⟨e9_, h⟩ := h
  subst e9_
  show mx_Ok mx_S0 l G (d + 1) mm_LB_init 12 [(0, .ref l0)] [.ref hs.2.1, .ref l0] hs3 Q
  obtain ⟨fs4, e1_, h⟩ := h
  refine mx_putF d_LB_init_12 (ci := 0) (k := 0) (q := mx_cl0_0) (ty := (.object "LazyBuilder$Text")) rfl (Nat.le_of_ble_eq_true rfl) kw_5 rfl rfl rfl (by decide +kernel) rfl rfl (by omega) e1_ ?_
  obtain ⟨hs5, hg_⟩ : ∃ x_, x_ = mx_st hs3 l0 (0, fs4.set 0 (.ref hs.2.1)) := ⟨_, rfl⟩
  replace h := h hs5 hg_
  rw [← hg_]
  clear hg_
  refine mx_aload_nR d_LB_init_15 rfl 0 rfl ?_
  refine mx_new d_LB_init_16 (ci := 4) (q := mx_cl0_4) (fs := [.null, .null, .int 0, .int 0]) (n := 4) rfl kw_6 kw_7 kw_8 rfl rfl mdf_4 ?_
  obtain ⟨hs6, hg_⟩ : ∃ x_, x_ = mx_nw hs5 (4, [.null, .null, .int 0, .int 0]) 4 := ⟨_, rfl⟩
  replace h := h hs6 hg_
  rw [← hg_]
  clear hg_
  refine mx_dup d_LB_init_19 rfl ?_
  refine mx_invI (Y := mm_LBStore_init) (As := []) (rest := [.ref hs5.2.1, .ref l0]) rfl d_LB_init_20.1 ok_LBStore_init kw_19 kw_20 rfl rfl rfl (Nat.le_of_ble_eq_true rfl) (Nat.le_of_ble_eq_true rfl) h (fun r7 hs8 h => ?_)
  obtain ⟨e9_, h⟩ := h
  subst e9_
  show mx_Ok mx_S0 l G (d + 1) mm_LB_init 23 [(0, .ref l0)] [.ref hs5.2.1, .ref l0] hs8 Q
  obtain ⟨fs9, e1_, h⟩ := h
  refine mx_putF d_LB_init_23 (ci := 0) (k := 1) (q := mx_cl0_0) (ty := (.object "LazyBuilder$Store")) rfl (Nat.le_of_ble_eq_true rfl) kw_9 rfl rfl rfl (by decide +kernel) rfl rfl (by omega) e1_ ?_
  obtain ⟨hs10, hg_⟩ : ∃ x_, x_ = mx_st hs8 l0 (0, fs9.set 1 (.ref hs5.2.1)) := ⟨_, rfl⟩
  replace h := h hs10 hg_
  rw [← hg_]
  clear hg_
  refine mx_aload_nR d_LB_init_26 rfl 0 rfl ?_
  refine mx_new d_LB_init_27 (ci := 5) (q := mx_cl0_5) (fs := [.null, .null, .null, .int 0, .int 0]) (n := 5) rfl kw_10 kw_11 kw_12 rfl rfl mdf_5 ?_
  obtain ⟨hs11, hg_⟩ : ∃ x_, x_ = mx_nw hs10 (5, [.null, .null, .null, .int 0, .int 0]) 5 := ⟨_, rfl⟩
  replace h := h hs11 hg_
  rw [← hg_]
  clear hg_
  refine mx_dup d_LB_init_30 rfl ?_
  refine mx_aload_nR d_LB_init_31 rfl 0 rfl ?_
  obtain ⟨a13, ⟨fs12, e1_, e2_⟩, h⟩ := h
  refine mx_get d_LB_init_32 (ci := 0) (k := 1) (q := mx_cl0_0) rfl (Nat.le_of_ble_eq_true rfl) kw_9 e1_ e2_ ?_
  refine mx_invI (Y := mm_LBWorker_init) (As := [.ref a13]) (rest := [.ref hs10.2.1, .ref l0]) rfl d_LB_init_35.1 ok_LBWorker_init kw_17 kw_18 rfl rfl rfl (Nat.le_of_ble_eq_true rfl) (Nat.le_of_ble_eq_true rfl) h (fun r14 hs15 h => ?_)
  obtain ⟨e9_, h⟩ := h
  subst e9_
  show mx_Ok mx_S0 l G (d + 1) mm_LB_init 38 [(0, .ref l0)] [.ref hs10.2.1, .ref l0] hs15 Q
  obtain ⟨fs16, e1_, h⟩ := h
  refine mx_putF d_LB_init_38 (ci := 0) (k := 2) (q := mx_cl0_0) (ty := (.object "LazyBuilder$Worker")) rfl (Nat.le_of_ble_eq_true rfl) kw_13 rfl rfl rfl (by decide +kernel) rfl rfl (by omega) e1_ ?_
  obtain ⟨hs17, hg_⟩ : ∃ x_, x_ = mx_st hs15 l0 (0, fs16.set 2 (.ref hs10.2.1)) := ⟨_, rfl⟩
  replace h := h hs17 hg_
  rw [← hg_]
  clear hg_
  refine mx_aload_nR d_LB_init_41 rfl 0 rfl ?_
  refine mx_ldc2 (v := (-1000000000000)) d_LB_init_42 kw_14 ?_
  obtain ⟨fs18, e1_, h⟩ := h
  refine mx_put d_LB_init_45 (ci := 0) (k := 3) (q := mx_cl0_0) (ty := .long) rfl (Nat.le_of_ble_eq_true rfl) kw_15 rfl (by decide +kernel) rfl rfl (by omega) e1_ ?_
  obtain ⟨hs19, hg_⟩ : ∃ x_, x_ = mx_st hs17 l0 (0, fs18.set 3 (.long (-1000000000000))) := ⟨_, rfl⟩
  replace h := h hs19 hg_
  rw [← hg_]
  clear hg_
  refine mx_aload_nR d_LB_init_48 rfl 0 rfl ?_
  refine mx_iconst (v := -1) d_LB_init_49 (by decide) ?_
  obtain ⟨fs20, e1_, h⟩ := h
  refine mx_put d_LB_init_50 (ci := 0) (k := 4) (q := mx_cl0_0) (ty := .int) rfl (Nat.le_of_ble_eq_true rfl) kw_16 rfl (by decide +kernel) rfl rfl (by omega) e1_ ?_
  obtain ⟨hs21, hg_⟩ : ∃ x_, x_ = mx_st hs19 l0 (0, fs20.set 4 (.int (-1))) := ⟨_, rfl⟩
  replace h := h hs21 hg_
  rw [← hg_]
  clear hg_
  exact mx_return d_LB_init_53 rfl h
set_option maxRecDepth 100000 in
theorem wp_LB_type_0 {l : Launch} {G : mx_G} {d : Nat} {hs : mx_H} {Q : Option Value → mx_H → Prop} (l0 : Nat) (l1 : Int32) (h : (∃ (a2 : Nat), mx_f hs l0 0 0 (.ref a2) ∧ ((∃ fs6 : List Value, hs.1 a2 = some (1, fs6)) ∧ mx_C mx_S0 l G d mm_LBText_append [.ref a2, .int l1] hs (fun (r3 : Option Value) (hs4 : mx_H) => ∃ x5 : Int32, r3 = some (.int x5) ∧ Q (some (.int x5)) hs4)))) : mx_Ok mx_S0 l G (d + 1) mm_LB_type 0 [(0, .ref l0), (1, .int l1)] [] hs Q := by
  refine mx_aload_nR d_LB_type_0 rfl 0 rfl ?_
  obtain ⟨a2, ⟨fs1, e1_, e2_⟩, h⟩ := h
  refine mx_get d_LB_type_1 (ci := 0) (k := 0) (q := mx_cl0_0) rfl (Nat.le_of_ble_eq_true rfl) kw_5 e1_ e2_ ?_
  refine mx_iload_n d_LB_type_4 rfl 1 rfl ?_
  obtain ⟨⟨fs6, e1_⟩, h⟩ := h
  refine mx_invV (Y := mm_LBText_append) (As := [.int l1]) (rest := []) d_LB_type_5.1 ok_LBText_append kw_23 kw_24 kw_25 rfl rfl (Nat.le_of_ble_eq_true rfl) (Nat.le_of_ble_eq_true rfl) e1_ (q := mx_cl0_1) rfl rfl h (fun r3 hs4 h => ?_)
  obtain ⟨x5, e9_, h⟩ := h
  subst e9_
  show mx_Ok mx_S0 l G (d + 1) mm_LB_type 8 [(0, .ref l0), (1, .int l1)] [.int x5] hs4 Q
  exact mx_ireturn d_LB_type_8 rfl rfl h
set_option maxRecDepth 100000 in
theorem wp_LB_types_0 {l : Launch} {G : mx_G} {d : Nat} {hs : mx_H} {Q : Option Value → mx_H → Prop} (l0 : Nat) (l1 : Int64) (h : mx_Ok mx_S0 l G (d + 1) mm_LB_types 3 [(0, .ref l0), (1, .long l1), (3, .int 56)] [] hs Q) : mx_Ok mx_S0 l G (d + 1) mm_LB_types 0 [(0, .ref l0), (1, .long l1)] [] hs Q := by
  refine mx_bipush (v := 56) d_LB_types_0 (by decide) ?_
  refine mx_istore_n (lv2 := [(3, .int 56), (0, .ref l0), (1, .long l1)]) d_LB_types_2 rfl (Nat.le_of_ble_eq_true rfl) rfl ?_
  exact mx_sub [1, 2, 0] rfl h
set_option maxRecDepth 100000 in
theorem wp_LB_types_3 {l : Launch} {G : mx_G} {d : Nat} {hs : mx_H} {Q : Option Value → mx_H → Prop} (l0 : Nat) (l1 : Int64) (l3 : Int32) (h : ((l3 < 0 → (∃ (a2 : Nat), mx_f hs l0 0 0 (.ref a2) ∧ (∃ (x4 : Int32), mx_f hs a2 1 2 (.int x4) ∧ Q (some (.int x4)) hs))) ∧ (¬ (l3 < 0) → ((((Int64.toInt32 ((Int64.toUInt64 l1 >>> ((Int32.toInt64 l3).toUInt64 &&& Int64.toUInt64 63)).toInt64)) &&& 255) = 0 → mx_Ok mx_S0 l G (d + 1) mm_LB_types 41 [(0, .ref l0), (1, .long l1), (3, .int l3)] [] hs Q) ∧ (¬ (((Int64.toInt32 ((Int64.toUInt64 l1 >>> ((Int32.toInt64 l3).toUInt64 &&& Int64.toUInt64 63)).toInt64)) &&& 255) = 0) → (∃ (a6 : Nat), mx_f hs l0 0 0 (.ref a6) ∧ ((∃ fs10 : List Value, hs.1 a6 = some (1, fs10)) ∧ mx_C mx_S0 l G d mm_LBText_append [.ref a6, .int ((Int64.toInt32 ((Int64.toUInt64 l1 >>> ((Int32.toInt64 l3).toUInt64 &&& Int64.toUInt64 63)).toInt64)) &&& 255)] hs (fun (r7 : Option Value) (hs8 : mx_H) => ∃ x9 : Int32, r7 = some (.int x9) ∧ ((0 ≤ x9 → mx_Ok mx_S0 l G (d + 1) mm_LB_types 41 [(0, .ref l0), (1, .long l1), (3, .int l3)] [] hs8 Q) ∧ (¬ (0 ≤ x9) → Q (some (.int x9)) hs8)))))))))) : mx_Ok mx_S0 l G (d + 1) mm_LB_types 3 [(0, .ref l0), (1, .long l1), (3, .int l3)] [] hs Q := by
  refine mx_iload_n d_LB_types_3 rfl 2 rfl ?_
  refine mx_if_lt d_LB_types_4 (fun c9 => ?_) (fun c9 => ?_)
  · replace h := h.1 c9
    refine mx_aload_nR d_LB_types_47 rfl 0 rfl ?_
    obtain ⟨a2, ⟨fs1, e1_, e2_⟩, h⟩ := h
    refine mx_get d_LB_types_48 (ci := 0) (k := 0) (q := mx_cl0_0) rfl (Nat.le_of_ble_eq_true rfl) kw_5 e1_ e2_ ?_
    obtain ⟨x4, ⟨fs3, e1_, e2_⟩, h⟩ := h
    refine mx_get d_LB_types_51 (ci := 1) (k := 2) (q := mx_cl0_1) rfl (Nat.le_of_ble_eq_true rfl) kw_26 e1_ e2_ ?_
    exact mx_ireturn d_LB_types_54 rfl rfl h
  · replace h := h.2 c9
    refine mx_lload_n d_LB_types_7 rfl 1 rfl ?_
    refine mx_iload_n d_LB_types_8 rfl 2 rfl ?_
    refine mx_lushr d_LB_types_9 ?_
    refine mx_l2i d_LB_types_10 ?_
    refine mx_sipush (v := 255) d_LB_types_11 (by decide) ?_
    refine mx_iand d_LB_types_14 ?_
    refine mx_istore (lv2 := [(4, .int ((Int64.toInt32 ((Int64.toUInt64 l1 >>> ((Int32.toInt64 l3).toUInt64 &&& Int64.toUInt64 63)).toInt64)) &&& 255)), (0, .ref l0), (1, .long l1), (3, .int l3)]) d_LB_types_15 (Nat.le_of_ble_eq_true rfl) rfl ?_
    refine mx_iload d_LB_types_17 0 rfl ?_
    refine mx_if_eq d_LB_types_19 (fun c9 => ?_) (fun c9 => ?_)
    · replace h := h.1 c9
      exact mx_sub [1, 2, 3] rfl h
    · replace h := h.2 c9
      refine mx_aload_nR d_LB_types_22 rfl 1 rfl ?_
      obtain ⟨a6, ⟨fs5, e1_, e2_⟩, h⟩ := h
      refine mx_get d_LB_types_23 (ci := 0) (k := 0) (q := mx_cl0_0) rfl (Nat.le_of_ble_eq_true rfl) kw_5 e1_ e2_ ?_
      refine mx_iload d_LB_types_26 0 rfl ?_
      obtain ⟨⟨fs10, e1_⟩, h⟩ := h
      refine mx_invV (Y := mm_LBText_append) (As := [.int ((Int64.toInt32 ((Int64.toUInt64 l1 >>> ((Int32.toInt64 l3).toUInt64 &&& Int64.toUInt64 63)).toInt64)) &&& 255)]) (rest := []) d_LB_types_28.1 ok_LBText_append kw_23 kw_24 kw_25 rfl rfl (Nat.le_of_ble_eq_true rfl) (Nat.le_of_ble_eq_true rfl) e1_ (q := mx_cl0_1) rfl rfl h (fun r7 hs8 h => ?_)
      obtain ⟨x9, e9_, h⟩ := h
      subst e9_
      show mx_Ok mx_S0 l G (d + 1) mm_LB_types 31 [(4, .int ((Int64.toInt32 ((Int64.toUInt64 l1 >>> ((Int32.toInt64 l3).toUInt64 &&& Int64.toUInt64 63)).toInt64)) &&& 255)), (0, .ref l0), (1, .long l1), (3, .int l3)] [.int x9] hs8 Q
      refine mx_istore (lv2 := [(5, .int x9), (4, .int ((Int64.toInt32 ((Int64.toUInt64 l1 >>> ((Int32.toInt64 l3).toUInt64 &&& Int64.toUInt64 63)).toInt64)) &&& 255)), (0, .ref l0), (1, .long l1), (3, .int l3)]) d_LB_types_31 (Nat.le_of_ble_eq_true rfl) rfl ?_
      refine mx_iload d_LB_types_33 0 rfl ?_
      refine mx_if_ge d_LB_types_35 (fun c9 => ?_) (fun c9 => ?_)
      · replace h := h.1 c9
        exact mx_sub [2, 3, 4] rfl h
      · replace h := h.2 c9
        refine mx_iload d_LB_types_38 0 rfl ?_
        exact mx_ireturn d_LB_types_40 rfl rfl h
set_option maxRecDepth 100000 in
theorem wp_LB_types_41 {l : Launch} {G : mx_G} {d : Nat} {hs : mx_H} {Q : Option Value → mx_H → Prop} (l0 : Nat) (l1 : Int64) (l3 : Int32) (h : mx_Ok mx_S0 l G (d + 1) mm_LB_types 3 [(0, .ref l0), (1, .long l1), (3, .int (l3 + (-8)))] [] hs Q) : mx_Ok mx_S0 l G (d + 1) mm_LB_types 41 [(0, .ref l0), (1, .long l1), (3, .int l3)] [] hs Q := by
  refine mx_iinc (v := l3 + (-8)) (lv2 := [(3, .int (l3 + (-8))), (0, .ref l0), (1, .long l1)]) d_LB_types_41 2 rfl (by rfl) (Nat.le_of_ble_eq_true rfl) rfl ?_
  refine mx_goto d_LB_types_44 ?_
  exact mx_sub [1, 2, 0] rfl h
set_option maxRecDepth 100000 in
theorem wp_LB_define_0 {l : Launch} {G : mx_G} {d : Nat} {hs : mx_H} {Q : Option Value → mx_H → Prop} (l0 : Nat) (l1 : Int32) (h : mx_C mx_S0 l G d mm_LB_isNameNumber [.int l1] hs (fun (r1 : Option Value) (hs2 : mx_H) => ∃ x3 : Int32, r1 = some (.int x3) ∧ ((¬ x3 = 0 → ((∃ fs23 : List Value, hs2.1 l0 = some (0, fs23)) ∧ mx_C mx_S0 l G d mm_LB_readLine [.ref l0] hs2 (fun (r4 : Option Value) (hs5 : mx_H) => ∃ x6 : Int32, r4 = some (.int x6) ∧ ((¬ x6 = 0 → (∃ (a8 : Nat), mx_f hs5 l0 0 0 (.ref a8) ∧ (∃ (x10 : Int32), mx_f hs5 a8 1 3 (.int x10) ∧ (∃ (a12 : Nat), mx_f hs5 l0 0 2 (.ref a12) ∧ (∃ (a14 : Nat), mx_f hs5 l0 0 0 (.ref a14) ∧ ((∃ fs22 : List Value, hs5.1 a12 = some (5, fs22)) ∧ mx_C mx_S0 l G d mm_LBWorker_bind [.ref a12, .int l1, .ref a14] hs5 (fun (r15 : Option Value) (hs16 : mx_H) => r15 = none ∧ (∃ (a18 : Nat), mx_f hs16 l0 0 0 (.ref a18) ∧ ((∃ fs21 : List Value, hs16.1 a18 = some (1, fs21)) ∧ mx_C mx_S0 l G d mm_LBText_clear [.ref a18] hs16 (fun (r19 : Option Value) (hs20 : mx_H) => r19 = none ∧ Q (some (.int x10)) hs20)))))))))) ∧ (¬ (¬ x6 = 0) → Q (some (.int (-3))) hs5))))) ∧ (¬ (¬ x3 = 0) → Q (some (.int (-1))) hs2)))) : mx_Ok mx_S0 l G (d + 1) mm_LB_define 0 [(0, .ref l0), (1, .int l1)] [] hs Q := by
  refine mx_iload_n d_LB_define_0 rfl 1 rfl ?_
  refine mx_invS (Y := mm_LB_isNameNumber) (As := [.int l1]) (rest := []) d_LB_define_1.1 ok_LB_isNameNumber kw_37 kw_38 rfl rfl (Nat.le_of_ble_eq_true rfl) (Nat.le_of_ble_eq_true rfl) h (fun r1 hs2 h => ?_)
  obtain ⟨x3, e9_, h⟩ := h
  subst e9_
  show mx_Ok mx_S0 l G (d + 1) mm_LB_define 4 [(0, .ref l0), (1, .int l1)] [.int x3] hs2 Q
  refine mx_if_ne d_LB_define_4 (fun c9 => ?_) (fun c9 => ?_)
  · replace h := h.1 c9
    refine mx_aload_nR d_LB_define_9 rfl 0 rfl ?_
    obtain ⟨⟨fs23, e1_⟩, h⟩ := h
    refine mx_invV (Y := mm_LB_readLine) (As := []) (rest := []) d_LB_define_10.1 ok_LB_readLine kw_34 kw_35 kw_36 rfl rfl (Nat.le_of_ble_eq_true rfl) (Nat.le_of_ble_eq_true rfl) e1_ (q := mx_cl0_0) rfl rfl h (fun r4 hs5 h => ?_)
    obtain ⟨x6, e9_, h⟩ := h
    subst e9_
    show mx_Ok mx_S0 l G (d + 1) mm_LB_define 13 [(0, .ref l0), (1, .int l1)] [.int x6] hs5 Q
    refine mx_if_ne d_LB_define_13 (fun c9 => ?_) (fun c9 => ?_)
    · replace h := h.1 c9
      refine mx_aload_nR d_LB_define_19 rfl 0 rfl ?_
      obtain ⟨a8, ⟨fs7, e1_, e2_⟩, h⟩ := h
      refine mx_get d_LB_define_20 (ci := 0) (k := 0) (q := mx_cl0_0) rfl (Nat.le_of_ble_eq_true rfl) kw_5 e1_ e2_ ?_
      obtain ⟨x10, ⟨fs9, e1_, e2_⟩, h⟩ := h
      refine mx_get d_LB_define_23 (ci := 1) (k := 3) (q := mx_cl0_1) rfl (Nat.le_of_ble_eq_true rfl) kw_27 e1_ e2_ ?_
      refine mx_istore_n (lv2 := [(2, .int x10), (0, .ref l0), (1, .int l1)]) d_LB_define_26 rfl (Nat.le_of_ble_eq_true rfl) rfl ?_
      refine mx_aload_nR d_LB_define_27 rfl 1 rfl ?_
      obtain ⟨a12, ⟨fs11, e1_, e2_⟩, h⟩ := h
      refine mx_get d_LB_define_28 (ci := 0) (k := 2) (q := mx_cl0_0) rfl (Nat.le_of_ble_eq_true rfl) kw_13 e1_ e2_ ?_
      refine mx_iload_n d_LB_define_31 rfl 2 rfl ?_
      refine mx_aload_nR d_LB_define_32 rfl 1 rfl ?_
      obtain ⟨a14, ⟨fs13, e1_, e2_⟩, h⟩ := h
      refine mx_get d_LB_define_33 (ci := 0) (k := 0) (q := mx_cl0_0) rfl (Nat.le_of_ble_eq_true rfl) kw_5 e1_ e2_ ?_
      obtain ⟨⟨fs22, e1_⟩, h⟩ := h
      refine mx_invV (Y := mm_LBWorker_bind) (As := [.int l1, .ref a14]) (rest := []) d_LB_define_36.1 ok_LBWorker_bind kw_31 kw_32 kw_33 rfl rfl (Nat.le_of_ble_eq_true rfl) (Nat.le_of_ble_eq_true rfl) e1_ (q := mx_cl0_5) rfl rfl h (fun r15 hs16 h => ?_)
      obtain ⟨e9_, h⟩ := h
      subst e9_
      show mx_Ok mx_S0 l G (d + 1) mm_LB_define 39 [(2, .int x10), (0, .ref l0), (1, .int l1)] [] hs16 Q
      refine mx_aload_nR d_LB_define_39 rfl 1 rfl ?_
      obtain ⟨a18, ⟨fs17, e1_, e2_⟩, h⟩ := h
      refine mx_get d_LB_define_40 (ci := 0) (k := 0) (q := mx_cl0_0) rfl (Nat.le_of_ble_eq_true rfl) kw_5 e1_ e2_ ?_
      obtain ⟨⟨fs21, e1_⟩, h⟩ := h
      refine mx_invV (Y := mm_LBText_clear) (As := []) (rest := []) d_LB_define_43.1 ok_LBText_clear kw_28 kw_29 kw_30 rfl rfl (Nat.le_of_ble_eq_true rfl) (Nat.le_of_ble_eq_true rfl) e1_ (q := mx_cl0_1) rfl rfl h (fun r19 hs20 h => ?_)
      obtain ⟨e9_, h⟩ := h
      subst e9_
      show mx_Ok mx_S0 l G (d + 1) mm_LB_define 46 [(2, .int x10), (0, .ref l0), (1, .int l1)] [] hs20 Q
      refine mx_iload_n d_LB_define_46 rfl 0 rfl ?_
      exact mx_ireturn d_LB_define_47 rfl rfl h
    · replace h := h.2 c9
      refine mx_bipush (v := (-3)) d_LB_define_16 (by decide) ?_
      exact mx_ireturn d_LB_define_18 rfl rfl h
  · replace h := h.2 c9
    refine mx_iconst (v := -1) d_LB_define_7 (by decide) ?_
    exact mx_ireturn d_LB_define_8 rfl rfl h
set_option maxRecDepth 100000 in
theorem wp_LB_undefine_0 {l : Launch} {G : mx_G} {d : Nat} {hs : mx_H} {Q : Option Value → mx_H → Prop} (l0 : Nat) (l1 : Int32) (h : mx_C mx_S0 l G d mm_LB_isNameNumber [.int l1] hs (fun (r1 : Option Value) (hs2 : mx_H) => ∃ x3 : Int32, r1 = some (.int x3) ∧ ((x3 = 0 → Q (some (.int (-1))) hs2) ∧ (¬ (x3 = 0) → (∃ (a5 : Nat), mx_f hs2 l0 0 2 (.ref a5) ∧ (∃ (a7 : Nat), mx_f hs2 a5 5 0 (.ref a7) ∧ (∃ (vs8 : List Value) (a9 : Nat), hs2.1 a7 = some (112, vs8) ∧ ¬ l1 < 0 ∧ vs8[Int32.toNatClampNeg l1]? = some (.ref a9) ∧ (∃ (x11 : Int32), mx_f hs2 a9 2 1 (.int x11) ∧ ((¬ x11 = 0 → (∃ (a13 : Nat), mx_f hs2 l0 0 2 (.ref a13) ∧ ((∃ fs16 : List Value, hs2.1 a13 = some (5, fs16)) ∧ mx_C mx_S0 l G d mm_LBWorker_unbind [.ref a13, .int l1] hs2 (fun (r14 : Option Value) (hs15 : mx_H) => r14 = none ∧ Q (some (.int 0)) hs15)))) ∧ (¬ (¬ x11 = 0) → Q (some (.int (-1))) hs2)))))))))) : mx_Ok mx_S0 l G (d + 1) mm_LB_undefine 0 [(0, .ref l0), (1, .int l1)] [] hs Q := by
  refine mx_iload_n d_LB_undefine_0 rfl 1 rfl ?_
  refine mx_invS (Y := mm_LB_isNameNumber) (As := [.int l1]) (rest := []) d_LB_undefine_1.1 ok_LB_isNameNumber kw_37 kw_38 rfl rfl (Nat.le_of_ble_eq_true rfl) (Nat.le_of_ble_eq_true rfl) h (fun r1 hs2 h => ?_)
  obtain ⟨x3, e9_, h⟩ := h
  subst e9_
  show mx_Ok mx_S0 l G (d + 1) mm_LB_undefine 4 [(0, .ref l0), (1, .int l1)] [.int x3] hs2 Q
  refine mx_if_eq d_LB_undefine_4 (fun c9 => ?_) (fun c9 => ?_)
  · replace h := h.1 c9
    refine mx_iconst (v := -1) d_LB_undefine_22 (by decide) ?_
    exact mx_ireturn d_LB_undefine_23 rfl rfl h
  · replace h := h.2 c9
    refine mx_aload_nR d_LB_undefine_7 rfl 0 rfl ?_
    obtain ⟨a5, ⟨fs4, e1_, e2_⟩, h⟩ := h
    refine mx_get d_LB_undefine_8 (ci := 0) (k := 2) (q := mx_cl0_0) rfl (Nat.le_of_ble_eq_true rfl) kw_13 e1_ e2_ ?_
    obtain ⟨a7, ⟨fs6, e1_, e2_⟩, h⟩ := h
    refine mx_get d_LB_undefine_11 (ci := 5) (k := 0) (q := mx_cl0_5) rfl (Nat.le_of_ble_eq_true rfl) kw_39 e1_ e2_ ?_
    refine mx_iload_n d_LB_undefine_14 rfl 1 rfl ?_
    obtain ⟨vs8, a9, e1_, e2_, e3_, h⟩ := h
    refine mx_aald (C := "LazyBuilder$Name") d_LB_undefine_15 (k := 112) rfl e1_ e2_ e3_ ?_
    obtain ⟨x11, ⟨fs10, e1_, e2_⟩, h⟩ := h
    refine mx_get d_LB_undefine_16 (ci := 2) (k := 1) (q := mx_cl0_2) rfl (Nat.le_of_ble_eq_true rfl) kw_40 e1_ e2_ ?_
    refine mx_if_ne d_LB_undefine_19 (fun c9 => ?_) (fun c9 => ?_)
    · replace h := h.1 c9
      refine mx_aload_nR d_LB_undefine_24 rfl 0 rfl ?_
      obtain ⟨a13, ⟨fs12, e1_, e2_⟩, h⟩ := h
      refine mx_get d_LB_undefine_25 (ci := 0) (k := 2) (q := mx_cl0_0) rfl (Nat.le_of_ble_eq_true rfl) kw_13 e1_ e2_ ?_
      refine mx_iload_n d_LB_undefine_28 rfl 1 rfl ?_
      obtain ⟨⟨fs16, e1_⟩, h⟩ := h
      refine mx_invV (Y := mm_LBWorker_unbind) (As := [.int l1]) (rest := []) d_LB_undefine_29.1 ok_LBWorker_unbind kw_41 kw_42 kw_43 rfl rfl (Nat.le_of_ble_eq_true rfl) (Nat.le_of_ble_eq_true rfl) e1_ (q := mx_cl0_5) rfl rfl h (fun r14 hs15 h => ?_)
      obtain ⟨e9_, h⟩ := h
      subst e9_
      show mx_Ok mx_S0 l G (d + 1) mm_LB_undefine 32 [(0, .ref l0), (1, .int l1)] [] hs15 Q
      refine mx_iconst (v := 0) d_LB_undefine_32 (by decide) ?_
      exact mx_ireturn d_LB_undefine_33 rfl rfl h
    · replace h := h.2 c9
      refine mx_iconst (v := -1) d_LB_undefine_22 (by decide) ?_
      exact mx_ireturn d_LB_undefine_23 rfl rfl h
set_option maxRecDepth 100000 in
theorem wp_LB_force_0 {l : Launch} {G : mx_G} {d : Nat} {hs : mx_H} {Q : Option Value → mx_H → Prop} (l0 : Nat) (l1 : Int32) (h : mx_C mx_S0 l G d mm_LB_isNameNumber [.int l1] hs (fun (r1 : Option Value) (hs2 : mx_H) => ∃ x3 : Int32, r1 = some (.int x3) ∧ ((¬ x3 = 0 → (∃ (a5 : Nat), mx_f hs2 l0 0 2 (.ref a5) ∧ ((∃ fs21 : List Value, hs2.1 a5 = some (5, fs21)) ∧ mx_C mx_S0 l G d mm_LBWorker_isClosed [.ref a5] hs2 (fun (r6 : Option Value) (hs7 : mx_H) => ∃ x8 : Int32, r6 = some (.int x8) ∧ ((x8 = 0 → (∃ (a10 : Nat), mx_f hs7 l0 0 2 (.ref a10) ∧ (∃ (a12 : Nat), mx_f hs7 l0 0 2 (.ref a12) ∧ ((∃ fs20 : List Value, hs7.1 a12 = some (5, fs20)) ∧ mx_C mx_S0 l G d mm_LBWorker_workOutName [.ref a12, .int l1] hs7 (fun (r13 : Option Value) (hs14 : mx_H) => ∃ x15 : Int64, r13 = some (.long x15) ∧ ((∃ fs19 : List Value, hs14.1 a10 = some (5, fs19)) ∧ mx_C mx_S0 l G d mm_LBWorker_answerOf [.ref a10, .long x15] hs14 (fun (r16 : Option Value) (hs17 : mx_H) => ∃ x18 : Int32, r16 = some (.int x18) ∧ Q (some (.int x18)) hs17))))))) ∧ (¬ (x8 = 0) → Q (some (.int (-11))) hs7)))))) ∧ (¬ (¬ x3 = 0) → Q (some (.int (-1))) hs2)))) : mx_Ok mx_S0 l G (d + 1) mm_LB_force 0 [(0, .ref l0), (1, .int l1)] [] hs Q := by
  refine mx_iload_n d_LB_force_0 rfl 1 rfl ?_
  refine mx_invS (Y := mm_LB_isNameNumber) (As := [.int l1]) (rest := []) d_LB_force_1.1 ok_LB_isNameNumber kw_37 kw_38 rfl rfl (Nat.le_of_ble_eq_true rfl) (Nat.le_of_ble_eq_true rfl) h (fun r1 hs2 h => ?_)
  obtain ⟨x3, e9_, h⟩ := h
  subst e9_
  show mx_Ok mx_S0 l G (d + 1) mm_LB_force 4 [(0, .ref l0), (1, .int l1)] [.int x3] hs2 Q
  refine mx_if_ne d_LB_force_4 (fun c9 => ?_) (fun c9 => ?_)
  · replace h := h.1 c9
    refine mx_aload_nR d_LB_force_9 rfl 0 rfl ?_
    obtain ⟨a5, ⟨fs4, e1_, e2_⟩, h⟩ := h
    refine mx_get d_LB_force_10 (ci := 0) (k := 2) (q := mx_cl0_0) rfl (Nat.le_of_ble_eq_true rfl) kw_13 e1_ e2_ ?_
    obtain ⟨⟨fs21, e1_⟩, h⟩ := h
    refine mx_invV (Y := mm_LBWorker_isClosed) (As := []) (rest := []) d_LB_force_13.1 ok_LBWorker_isClosed kw_50 kw_51 kw_52 rfl rfl (Nat.le_of_ble_eq_true rfl) (Nat.le_of_ble_eq_true rfl) e1_ (q := mx_cl0_5) rfl rfl h (fun r6 hs7 h => ?_)
    obtain ⟨x8, e9_, h⟩ := h
    subst e9_
    show mx_Ok mx_S0 l G (d + 1) mm_LB_force 16 [(0, .ref l0), (1, .int l1)] [.int x8] hs7 Q
    refine mx_if_eq d_LB_force_16 (fun c9 => ?_) (fun c9 => ?_)
    · replace h := h.1 c9
      refine mx_aload_nR d_LB_force_22 rfl 0 rfl ?_
      obtain ⟨a10, ⟨fs9, e1_, e2_⟩, h⟩ := h
      refine mx_get d_LB_force_23 (ci := 0) (k := 2) (q := mx_cl0_0) rfl (Nat.le_of_ble_eq_true rfl) kw_13 e1_ e2_ ?_
      refine mx_aload_nR d_LB_force_26 rfl 0 rfl ?_
      obtain ⟨a12, ⟨fs11, e1_, e2_⟩, h⟩ := h
      refine mx_get d_LB_force_27 (ci := 0) (k := 2) (q := mx_cl0_0) rfl (Nat.le_of_ble_eq_true rfl) kw_13 e1_ e2_ ?_
      refine mx_iload_n d_LB_force_30 rfl 1 rfl ?_
      obtain ⟨⟨fs20, e1_⟩, h⟩ := h
      refine mx_invV (Y := mm_LBWorker_workOutName) (As := [.int l1]) (rest := [.ref a10]) d_LB_force_31.1 ok_LBWorker_workOutName kw_47 kw_48 kw_49 rfl rfl (Nat.le_of_ble_eq_true rfl) (Nat.le_of_ble_eq_true rfl) e1_ (q := mx_cl0_5) rfl rfl h (fun r13 hs14 h => ?_)
      obtain ⟨x15, e9_, h⟩ := h
      subst e9_
      show mx_Ok mx_S0 l G (d + 1) mm_LB_force 34 [(0, .ref l0), (1, .int l1)] [.long x15, .ref a10] hs14 Q
      obtain ⟨⟨fs19, e1_⟩, h⟩ := h
      refine mx_invV (Y := mm_LBWorker_answerOf) (As := [.long x15]) (rest := []) d_LB_force_34.1 ok_LBWorker_answerOf kw_44 kw_45 kw_46 rfl rfl (Nat.le_of_ble_eq_true rfl) (Nat.le_of_ble_eq_true rfl) e1_ (q := mx_cl0_5) rfl rfl h (fun r16 hs17 h => ?_)
      obtain ⟨x18, e9_, h⟩ := h
      subst e9_
      show mx_Ok mx_S0 l G (d + 1) mm_LB_force 37 [(0, .ref l0), (1, .int l1)] [.int x18] hs17 Q
      exact mx_ireturn d_LB_force_37 rfl rfl h
    · replace h := h.2 c9
      refine mx_bipush (v := (-11)) d_LB_force_19 (by decide) ?_
      exact mx_ireturn d_LB_force_21 rfl rfl h
  · replace h := h.2 c9
    refine mx_iconst (v := -1) d_LB_force_7 (by decide) ?_
    exact mx_ireturn d_LB_force_8 rfl rfl h
set_option maxRecDepth 100000 in
theorem wp_LB_show_0 {l : Launch} {G : mx_G} {d : Nat} {hs : mx_H} {Q : Option Value → mx_H → Prop} (l0 : Nat) (h : ((∃ fs33 : List Value, hs.1 l0 = some (0, fs33)) ∧ mx_C mx_S0 l G d mm_LB_readLine [.ref l0] hs (fun (r1 : Option Value) (hs2 : mx_H) => ∃ x3 : Int32, r1 = some (.int x3) ∧ ((¬ x3 = 0 → (∃ (a5 : Nat), mx_f hs2 l0 0 2 (.ref a5) ∧ ((∃ fs32 : List Value, hs2.1 a5 = some (5, fs32)) ∧ mx_C mx_S0 l G d mm_LBWorker_isClosed [.ref a5] hs2 (fun (r6 : Option Value) (hs7 : mx_H) => ∃ x8 : Int32, r6 = some (.int x8) ∧ ((x8 = 0 → (∃ (a10 : Nat), mx_f hs7 l0 0 2 (.ref a10) ∧ (∃ (a12 : Nat), mx_f hs7 l0 0 0 (.ref a12) ∧ ((∃ fs26 : List Value, hs7.1 a10 = some (5, fs26)) ∧ mx_C mx_S0 l G d mm_LBWorker_workOutText [.ref a10, .ref a12] hs7 (fun (r13 : Option Value) (hs14 : mx_H) => ∃ x15 : Int64, r13 = some (.long x15) ∧ (∃ (a17 : Nat), mx_f hs14 l0 0 0 (.ref a17) ∧ ((∃ fs25 : List Value, hs14.1 a17 = some (1, fs25)) ∧ mx_C mx_S0 l G d mm_LBText_clear [.ref a17] hs14 (fun (r18 : Option Value) (hs19 : mx_H) => r18 = none ∧ mx_C mx_S0 l G d mm_LB_isFailure [.long x15] hs19 (fun (r20 : Option Value) (hs21 : mx_H) => ∃ x22 : Int32, r20 = some (.int x22) ∧ ((¬ x22 = 0 → mx_Ok mx_S0 l G (d + 1) mm_LB_show 61 [(0, .ref l0), (1, .long x15)] [] hs21 Q) ∧ (¬ (¬ x22 = 0) → (∃ fs23 : List Value, hs21.1 l0 = some (0, fs23) ∧ ∀ hs24 : mx_H, hs24 = mx_st hs21 l0 (0, fs23.set 3 (.long x15)) → mx_Ok mx_S0 l G (d + 1) mm_LB_show 61 [(0, .ref l0), (1, .long x15)] [] hs24 Q)))))))))))) ∧ (¬ (x8 = 0) → (∃ (a28 : Nat), mx_f hs7 l0 0 0 (.ref a28) ∧ ((∃ fs31 : List Value, hs7.1 a28 = some (1, fs31)) ∧ mx_C mx_S0 l G d mm_LBText_clear [.ref a28] hs7 (fun (r29 : Option Value) (hs30 : mx_H) => r29 = none ∧ Q (some (.int (-11))) hs30))))))))) ∧ (¬ (¬ x3 = 0) → Q (some (.int (-3))) hs2))))) : mx_Ok mx_S0 l G (d + 1) mm_LB_show 0 [(0, .ref l0)] [] hs Q := by
  refine mx_aload_nR d_LB_show_0 rfl 0 rfl ?_
  obtain ⟨⟨fs33, e1_⟩, h⟩ := h
  refine mx_invV (Y := mm_LB_readLine) (As := []) (rest := []) d_LB_show_1.1 ok_LB_readLine kw_34 kw_35 kw_36 rfl rfl (Nat.le_of_ble_eq_true rfl) (Nat.le_of_ble_eq_true rfl) e1_ (q := mx_cl0_0) rfl rfl h (fun r1 hs2 h => ?_)
  obtain ⟨x3, e9_, h⟩ := h
  subst e9_
  show mx_Ok mx_S0 l G (d + 1) mm_LB_show 4 [(0, .ref l0)] [.int x3] hs2 Q
  refine mx_if_ne d_LB_show_4 (fun c9 => ?_) (fun c9 => ?_)
  · replace h := h.1 c9
    refine mx_aload_nR d_LB_show_10 rfl 0 rfl ?_
    obtain ⟨a5, ⟨fs4, e1_, e2_⟩, h⟩ := h
    refine mx_get d_LB_show_11 (ci := 0) (k := 2) (q := mx_cl0_0) rfl (Nat.le_of_ble_eq_true rfl) kw_13 e1_ e2_ ?_
    obtain ⟨⟨fs32, e1_⟩, h⟩ := h
    refine mx_invV (Y := mm_LBWorker_isClosed) (As := []) (rest := []) d_LB_show_14.1 ok_LBWorker_isClosed kw_50 kw_51 kw_52 rfl rfl (Nat.le_of_ble_eq_true rfl) (Nat.le_of_ble_eq_true rfl) e1_ (q := mx_cl0_5) rfl rfl h (fun r6 hs7 h => ?_)
    obtain ⟨x8, e9_, h⟩ := h
    subst e9_
    show mx_Ok mx_S0 l G (d + 1) mm_LB_show 17 [(0, .ref l0)] [.int x8] hs7 Q
    refine mx_if_eq d_LB_show_17 (fun c9 => ?_) (fun c9 => ?_)
    · replace h := h.1 c9
      refine mx_aload_nR d_LB_show_30 rfl 0 rfl ?_
      obtain ⟨a10, ⟨fs9, e1_, e2_⟩, h⟩ := h
      refine mx_get d_LB_show_31 (ci := 0) (k := 2) (q := mx_cl0_0) rfl (Nat.le_of_ble_eq_true rfl) kw_13 e1_ e2_ ?_
      refine mx_aload_nR d_LB_show_34 rfl 0 rfl ?_
      obtain ⟨a12, ⟨fs11, e1_, e2_⟩, h⟩ := h
      refine mx_get d_LB_show_35 (ci := 0) (k := 0) (q := mx_cl0_0) rfl (Nat.le_of_ble_eq_true rfl) kw_5 e1_ e2_ ?_
      obtain ⟨⟨fs26, e1_⟩, h⟩ := h
      refine mx_invV (Y := mm_LBWorker_workOutText) (As := [.ref a12]) (rest := []) d_LB_show_38.1 ok_LBWorker_workOutText kw_55 kw_56 kw_57 rfl rfl (Nat.le_of_ble_eq_true rfl) (Nat.le_of_ble_eq_true rfl) e1_ (q := mx_cl0_5) rfl rfl h (fun r13 hs14 h => ?_)
      obtain ⟨x15, e9_, h⟩ := h
      subst e9_
      show mx_Ok mx_S0 l G (d + 1) mm_LB_show 41 [(0, .ref l0)] [.long x15] hs14 Q
      refine mx_lstore_n (lv2 := [(1, .long x15), (0, .ref l0)]) d_LB_show_41 rfl (Nat.le_of_ble_eq_true rfl) rfl ?_
      refine mx_aload_nR d_LB_show_42 rfl 1 rfl ?_
      obtain ⟨a17, ⟨fs16, e1_, e2_⟩, h⟩ := h
      refine mx_get d_LB_show_43 (ci := 0) (k := 0) (q := mx_cl0_0) rfl (Nat.le_of_ble_eq_true rfl) kw_5 e1_ e2_ ?_
      obtain ⟨⟨fs25, e1_⟩, h⟩ := h
      refine mx_invV (Y := mm_LBText_clear) (As := []) (rest := []) d_LB_show_46.1 ok_LBText_clear kw_28 kw_29 kw_30 rfl rfl (Nat.le_of_ble_eq_true rfl) (Nat.le_of_ble_eq_true rfl) e1_ (q := mx_cl0_1) rfl rfl h (fun r18 hs19 h => ?_)
      obtain ⟨e9_, h⟩ := h
      subst e9_
      show mx_Ok mx_S0 l G (d + 1) mm_LB_show 49 [(1, .long x15), (0, .ref l0)] [] hs19 Q
      refine mx_lload_n d_LB_show_49 rfl 0 rfl ?_
      refine mx_invS (Y := mm_LB_isFailure) (As := [.long x15]) (rest := []) d_LB_show_50.1 ok_LB_isFailure kw_53 kw_54 rfl rfl (Nat.le_of_ble_eq_true rfl) (Nat.le_of_ble_eq_true rfl) h (fun r20 hs21 h => ?_)
      obtain ⟨x22, e9_, h⟩ := h
      subst e9_
      show mx_Ok mx_S0 l G (d + 1) mm_LB_show 53 [(1, .long x15), (0, .ref l0)] [.int x22] hs21 Q
      refine mx_if_ne d_LB_show_53 (fun c9 => ?_) (fun c9 => ?_)
      · replace h := h.1 c9
        exact mx_sub [1, 0] rfl h
      · replace h := h.2 c9
        refine mx_aload_nR d_LB_show_56 rfl 1 rfl ?_
        refine mx_lload_n d_LB_show_57 rfl 0 rfl ?_
        obtain ⟨fs23, e1_, h⟩ := h
        refine mx_put d_LB_show_58 (ci := 0) (k := 3) (q := mx_cl0_0) (ty := .long) rfl (Nat.le_of_ble_eq_true rfl) kw_15 rfl (by decide +kernel) rfl rfl (by omega) e1_ ?_
        obtain ⟨hs24, hg_⟩ : ∃ x_, x_ = mx_st hs21 l0 (0, fs23.set 3 (.long x15)) := ⟨_, rfl⟩
        replace h := h hs24 hg_
        rw [← hg_]
        clear hg_
        exact mx_sub [1, 0] rfl h
    · replace h := h.2 c9
      refine mx_aload_nR d_LB_show_20 rfl 0 rfl ?_
      obtain ⟨a28, ⟨fs27, e1_, e2_⟩, h⟩ := h
      refine mx_get d_LB_show_21 (ci := 0) (k := 0) (q := mx_cl0_0) rfl (Nat.le_of_ble_eq_true rfl) kw_5 e1_ e2_ ?_
      obtain ⟨⟨fs31, e1_⟩, h⟩ := h
      refine mx_invV (Y := mm_LBText_clear) (As := []) (rest := []) d_LB_show_24.1 ok_LBText_clear kw_28 kw_29 kw_30 rfl rfl (Nat.le_of_ble_eq_true rfl) (Nat.le_of_ble_eq_true rfl) e1_ (q := mx_cl0_1) rfl rfl h (fun r29 hs30 h => ?_)
      obtain ⟨e9_, h⟩ := h
      subst e9_
      show mx_Ok mx_S0 l G (d + 1) mm_LB_show 27 [(0, .ref l0)] [] hs30 Q
      refine mx_bipush (v := (-11)) d_LB_show_27 (by decide) ?_
      exact mx_ireturn d_LB_show_29 rfl rfl h
  · replace h := h.2 c9
    refine mx_bipush (v := (-3)) d_LB_show_7 (by decide) ?_
    exact mx_ireturn d_LB_show_9 rfl rfl h
set_option maxRecDepth 100000 in
theorem wp_LB_show_61 {l : Launch} {G : mx_G} {d : Nat} {hs : mx_H} {Q : Option Value → mx_H → Prop} (l0 : Nat) (l1 : Int64) (h : (∃ (a2 : Nat), mx_f hs l0 0 2 (.ref a2) ∧ ((∃ fs6 : List Value, hs.1 a2 = some (5, fs6)) ∧ mx_C mx_S0 l G d mm_LBWorker_answerOf [.ref a2, .long l1] hs (fun (r3 : Option Value) (hs4 : mx_H) => ∃ x5 : Int32, r3 = some (.int x5) ∧ Q (some (.int x5)) hs4)))) : mx_Ok mx_S0 l G (d + 1) mm_LB_show 61 [(0, .ref l0), (1, .long l1)] [] hs Q := by
  refine mx_aload_nR d_LB_show_61 rfl 0 rfl ?_
  obtain ⟨a2, ⟨fs1, e1_, e2_⟩, h⟩ := h
  refine mx_get d_LB_show_62 (ci := 0) (k := 2) (q := mx_cl0_0) rfl (Nat.le_of_ble_eq_true rfl) kw_13 e1_ e2_ ?_
  refine mx_lload_n d_LB_show_65 rfl 1 rfl ?_
  obtain ⟨⟨fs6, e1_⟩, h⟩ := h
  refine mx_invV (Y := mm_LBWorker_answerOf) (As := [.long l1]) (rest := []) d_LB_show_66.1 ok_LBWorker_answerOf kw_44 kw_45 kw_46 rfl rfl (Nat.le_of_ble_eq_true rfl) (Nat.le_of_ble_eq_true rfl) e1_ (q := mx_cl0_5) rfl rfl h (fun r3 hs4 h => ?_)
  obtain ⟨x5, e9_, h⟩ := h
  subst e9_
  show mx_Ok mx_S0 l G (d + 1) mm_LB_show 69 [(0, .ref l0), (1, .long l1)] [.int x5] hs4 Q
  exact mx_ireturn d_LB_show_69 rfl rfl h
set_option maxRecDepth 100000 in
theorem wp_LB_value_0 {l : Launch} {G : mx_G} {d : Nat} {hs : mx_H} {Q : Option Value → mx_H → Prop} (l0 : Nat) (l1 : Int32) (h : ((¬ l1 = 8 → mx_C mx_S0 l G d mm_LB_isNameNumber [.int l1] hs (fun (r1 : Option Value) (hs2 : mx_H) => ∃ x3 : Int32, r1 = some (.int x3) ∧ ((x3 = 0 → Q (some (.long (-1000000000000))) hs2) ∧ (¬ (x3 = 0) → (∃ (a5 : Nat), mx_f hs2 l0 0 2 (.ref a5) ∧ (∃ (a7 : Nat), mx_f hs2 a5 5 0 (.ref a7) ∧ (∃ (vs8 : List Value) (a9 : Nat), hs2.1 a7 = some (112, vs8) ∧ ¬ l1 < 0 ∧ vs8[Int32.toNatClampNeg l1]? = some (.ref a9) ∧ (∃ (x11 : Int64), mx_f hs2 a9 2 3 (.long x11) ∧ Q (some (.long x11)) hs2)))))))) ∧ (¬ (¬ l1 = 8) → (∃ (x13 : Int64), mx_f hs l0 0 3 (.long x13) ∧ Q (some (.long x13)) hs)))) : mx_Ok mx_S0 l G (d + 1) mm_LB_value 0 [(0, .ref l0), (1, .int l1)] [] hs Q := by
  refine mx_iload_n d_LB_value_0 rfl 1 rfl ?_
  refine mx_bipush (v := 8) d_LB_value_1 (by decide) ?_
  refine mx_icmp_ne d_LB_value_3 (fun c9 => ?_) (fun c9 => ?_)
  · replace h := h.1 c9
    refine mx_iload_n d_LB_value_11 rfl 1 rfl ?_
    refine mx_invS (Y := mm_LB_isNameNumber) (As := [.int l1]) (rest := []) d_LB_value_12.1 ok_LB_isNameNumber kw_37 kw_38 rfl rfl (Nat.le_of_ble_eq_true rfl) (Nat.le_of_ble_eq_true rfl) h (fun r1 hs2 h => ?_)
    obtain ⟨x3, e9_, h⟩ := h
    subst e9_
    show mx_Ok mx_S0 l G (d + 1) mm_LB_value 15 [(0, .ref l0), (1, .int l1)] [.int x3] hs2 Q
    refine mx_if_eq d_LB_value_15 (fun c9 => ?_) (fun c9 => ?_)
    · replace h := h.1 c9
      refine mx_ldc2 (v := (-1000000000000)) d_LB_value_33 kw_14 ?_
      exact mx_lreturn d_LB_value_36 rfl h
    · replace h := h.2 c9
      refine mx_aload_nR d_LB_value_18 rfl 0 rfl ?_
      obtain ⟨a5, ⟨fs4, e1_, e2_⟩, h⟩ := h
      refine mx_get d_LB_value_19 (ci := 0) (k := 2) (q := mx_cl0_0) rfl (Nat.le_of_ble_eq_true rfl) kw_13 e1_ e2_ ?_
      obtain ⟨a7, ⟨fs6, e1_, e2_⟩, h⟩ := h
      refine mx_get d_LB_value_22 (ci := 5) (k := 0) (q := mx_cl0_5) rfl (Nat.le_of_ble_eq_true rfl) kw_39 e1_ e2_ ?_
      refine mx_iload_n d_LB_value_25 rfl 1 rfl ?_
      obtain ⟨vs8, a9, e1_, e2_, e3_, h⟩ := h
      refine mx_aald (C := "LazyBuilder$Name") d_LB_value_26 (k := 112) rfl e1_ e2_ e3_ ?_
      obtain ⟨x11, ⟨fs10, e1_, e2_⟩, h⟩ := h
      refine mx_get d_LB_value_27 (ci := 2) (k := 3) (q := mx_cl0_2) rfl (Nat.le_of_ble_eq_true rfl) kw_58 e1_ e2_ ?_
      refine mx_goto d_LB_value_30 ?_
      exact mx_lreturn d_LB_value_36 rfl h
  · replace h := h.2 c9
    refine mx_aload_nR d_LB_value_6 rfl 0 rfl ?_
    obtain ⟨x13, ⟨fs12, e1_, e2_⟩, h⟩ := h
    refine mx_get d_LB_value_7 (ci := 0) (k := 3) (q := mx_cl0_0) rfl (Nat.le_of_ble_eq_true rfl) kw_15 e1_ e2_ ?_
    exact mx_lreturn d_LB_value_10 rfl h
set_option maxRecDepth 100000 in
theorem wp_LB_builder_0 {l : Launch} {G : mx_G} {d : Nat} {hs : mx_H} {Q : Option Value → mx_H → Prop} (l0 : Nat) (l1 : Int32) (l2 : Int32) (h : ((l1 < 0 → Q (some (.int (-1))) hs) ∧ (¬ (l1 < 0) → ((10 ≤ l1 → Q (some (.int (-1))) hs) ∧ (¬ (10 ≤ l1) → ((l2 < 0 → Q (some (.int (-1))) hs) ∧ (¬ (l2 < 0) → ((l2 ≤ 4 → (∃ (a2 : Nat), mx_f hs l0 0 1 (.ref a2) ∧ (∃ (a4 : Nat), mx_f hs a2 4 1 (.ref a4) ∧ (∃ vs5 : List Value, hs.1 a4 = some (100, vs5) ∧ ¬ l1 < 0 ∧ Int32.toNatClampNeg l1 < vs5.length ∧ ∀ hs6 : mx_H, hs6 = mx_st hs a4 (100, vs5.set (Int32.toNatClampNeg l1) (.int l2)) → Q (some (.int 0)) hs6)))) ∧ (¬ (l2 ≤ 4) → Q (some (.int (-1))) hs))))))))) : mx_Ok mx_S0 l G (d + 1) mm_LB_builder 0 [(0, .ref l0), (1, .int l1), (2, .int l2)] [] hs Q := by
  refine mx_iload_n d_LB_builder_0 rfl 1 rfl ?_
  refine mx_if_lt d_LB_builder_1 (fun c9 => ?_) (fun c9 => ?_)
  · replace h := h.1 c9
    refine mx_iconst (v := -1) d_LB_builder_19 (by decide) ?_
    exact mx_ireturn d_LB_builder_20 rfl rfl h
  · replace h := h.2 c9
    refine mx_iload_n d_LB_builder_4 rfl 1 rfl ?_
    refine mx_bipush (v := 10) d_LB_builder_5 (by decide) ?_
    refine mx_icmp_ge d_LB_builder_7 (fun c9 => ?_) (fun c9 => ?_)
    · replace h := h.1 c9
      refine mx_iconst (v := -1) d_LB_builder_19 (by decide) ?_
      exact mx_ireturn d_LB_builder_20 rfl rfl h
    · replace h := h.2 c9
      refine mx_iload_n d_LB_builder_10 rfl 2 rfl ?_
      refine mx_if_lt d_LB_builder_11 (fun c9 => ?_) (fun c9 => ?_)
      · replace h := h.1 c9
        refine mx_iconst (v := -1) d_LB_builder_19 (by decide) ?_
        exact mx_ireturn d_LB_builder_20 rfl rfl h
      · replace h := h.2 c9
        refine mx_iload_n d_LB_builder_14 rfl 2 rfl ?_
        refine mx_iconst (v := 4) d_LB_builder_15 (by decide) ?_
        refine mx_icmp_le d_LB_builder_16 (fun c9 => ?_) (fun c9 => ?_)
        · replace h := h.1 c9
          refine mx_aload_nR d_LB_builder_21 rfl 0 rfl ?_
          obtain ⟨a2, ⟨fs1, e1_, e2_⟩, h⟩ := h
          refine mx_get d_LB_builder_22 (ci := 0) (k := 1) (q := mx_cl0_0) rfl (Nat.le_of_ble_eq_true rfl) kw_9 e1_ e2_ ?_
          obtain ⟨a4, ⟨fs3, e1_, e2_⟩, h⟩ := h
          refine mx_get d_LB_builder_25 (ci := 4) (k := 1) (q := mx_cl0_4) rfl (Nat.le_of_ble_eq_true rfl) kw_59 e1_ e2_ ?_
          refine mx_iload_n d_LB_builder_28 rfl 1 rfl ?_
          refine mx_iload_n d_LB_builder_29 rfl 2 rfl ?_
          obtain ⟨vs5, e1_, e2_, e3_, h⟩ := h
          refine mx_iast d_LB_builder_30 (k := 100) rfl (by decide) (by omega) e1_ e2_ e3_ ?_
          obtain ⟨hs6, hg_⟩ : ∃ x_, x_ = mx_st hs a4 (100, vs5.set (Int32.toNatClampNeg l1) (.int l2)) := ⟨_, rfl⟩
          replace h := h hs6 hg_
          rw [← hg_]
          clear hg_
          refine mx_iconst (v := 0) d_LB_builder_31 (by decide) ?_
          exact mx_ireturn d_LB_builder_32 rfl rfl h
        · replace h := h.2 c9
          refine mx_iconst (v := -1) d_LB_builder_19 (by decide) ?_
          exact mx_ireturn d_LB_builder_20 rfl rfl h
set_option maxRecDepth 100000 in
theorem wp_LB_build_0 {l : Launch} {G : mx_G} {d : Nat} {hs : mx_H} {Q : Option Value → mx_H → Prop} (l0 : Nat) (l1 : Int32) (h : (∃ (a2 : Nat), mx_f hs l0 0 1 (.ref a2) ∧ ((∃ fs25 : List Value, hs.1 a2 = some (4, fs25)) ∧ mx_C mx_S0 l G d mm_LBStore_planAt [.ref a2, .int l1] hs (fun (r3 : Option Value) (hs4 : mx_H) => ∃ v5 : Value, r3 = some v5 ∧ (v5 = .null ∨ ∃ z, v5 = .ref z) ∧ ((v5 = .null → Q (some (.int (-1))) hs4) ∧ (∀ a6 : Nat, v5 = .ref a6 → (∃ (a8 : Nat), mx_f hs4 l0 0 2 (.ref a8) ∧ ((∃ fs24 : List Value, hs4.1 a8 = some (5, fs24)) ∧ mx_C mx_S0 l G d mm_LBWorker_isClosed [.ref a8] hs4 (fun (r9 : Option Value) (hs10 : mx_H) => ∃ x11 : Int32, r9 = some (.int x11) ∧ ((x11 = 0 → (∃ (a13 : Nat), mx_f hs10 l0 0 2 (.ref a13) ∧ (∃ (a15 : Nat), mx_f hs10 l0 0 1 (.ref a15) ∧ ((∃ fs23 : List Value, hs10.1 a15 = some (4, fs23)) ∧ mx_C mx_S0 l G d mm_LBStore_partOf [.ref a15, .long (1000000000000 + (Int32.toInt64 l1)), .int 30] hs10 (fun (r16 : Option Value) (hs17 : mx_H) => ∃ x18 : Int64, r16 = some (.long x18) ∧ ((∃ fs22 : List Value, hs17.1 a13 = some (5, fs22)) ∧ mx_C mx_S0 l G d mm_LBWorker_answerOf [.ref a13, .long x18] hs17 (fun (r19 : Option Value) (hs20 : mx_H) => ∃ x21 : Int32, r19 = some (.int x21) ∧ Q (some (.int x21)) hs20))))))) ∧ (¬ (x11 = 0) → Q (some (.int (-11))) hs10))))))))))) : mx_Ok mx_S0 l G (d + 1) mm_LB_build 0 [(0, .ref l0), (1, .int l1)] [] hs Q := by
  refine mx_aload_nR d_LB_build_0 rfl 0 rfl ?_
  obtain ⟨a2, ⟨fs1, e1_, e2_⟩, h⟩ := h
  refine mx_get d_LB_build_1 (ci := 0) (k := 1) (q := mx_cl0_0) rfl (Nat.le_of_ble_eq_true rfl) kw_9 e1_ e2_ ?_
  refine mx_iload_n d_LB_build_4 rfl 1 rfl ?_
  obtain ⟨⟨fs25, e1_⟩, h⟩ := h
  refine mx_invV (Y := mm_LBStore_planAt) (As := [.int l1]) (rest := []) d_LB_build_5.1 ok_LBStore_planAt kw_64 kw_65 kw_66 rfl rfl (Nat.le_of_ble_eq_true rfl) (Nat.le_of_ble_eq_true rfl) e1_ (q := mx_cl0_4) rfl rfl h (fun r3 hs4 h => ?_)
  obtain ⟨v5, e9_, hv5, h⟩ := h
  subst e9_
  show mx_Ok mx_S0 l G (d + 1) mm_LB_build 8 [(0, .ref l0), (1, .int l1)] [v5] hs4 Q
  refine mx_ifnonnull d_LB_build_8 hv5 (fun a6 c9 => ?_) (fun c9 => ?_)
  · replace h := h.2 a6 c9
    subst c9
    refine mx_aload_nR d_LB_build_13 rfl 0 rfl ?_
    obtain ⟨a8, ⟨fs7, e1_, e2_⟩, h⟩ := h
    refine mx_get d_LB_build_14 (ci := 0) (k := 2) (q := mx_cl0_0) rfl (Nat.le_of_ble_eq_true rfl) kw_13 e1_ e2_ ?_
    obtain ⟨⟨fs24, e1_⟩, h⟩ := h
    refine mx_invV (Y := mm_LBWorker_isClosed) (As := []) (rest := []) d_LB_build_17.1 ok_LBWorker_isClosed kw_50 kw_51 kw_52 rfl rfl (Nat.le_of_ble_eq_true rfl) (Nat.le_of_ble_eq_true rfl) e1_ (q := mx_cl0_5) rfl rfl h (fun r9 hs10 h => ?_)
    obtain ⟨x11, e9_, h⟩ := h
    subst e9_
    show mx_Ok mx_S0 l G (d + 1) mm_LB_build 20 [(0, .ref l0), (1, .int l1)] [.int x11] hs10 Q
    refine mx_if_eq d_LB_build_20 (fun c9 => ?_) (fun c9 => ?_)
    · replace h := h.1 c9
      refine mx_aload_nR d_LB_build_26 rfl 0 rfl ?_
      obtain ⟨a13, ⟨fs12, e1_, e2_⟩, h⟩ := h
      refine mx_get d_LB_build_27 (ci := 0) (k := 2) (q := mx_cl0_0) rfl (Nat.le_of_ble_eq_true rfl) kw_13 e1_ e2_ ?_
      refine mx_aload_nR d_LB_build_30 rfl 0 rfl ?_
      obtain ⟨a15, ⟨fs14, e1_, e2_⟩, h⟩ := h
      refine mx_get d_LB_build_31 (ci := 0) (k := 1) (q := mx_cl0_0) rfl (Nat.le_of_ble_eq_true rfl) kw_9 e1_ e2_ ?_
      refine mx_ldc2 (v := 1000000000000) d_LB_build_34 kw_60 ?_
      refine mx_iload_n d_LB_build_37 rfl 1 rfl ?_
      refine mx_i2l d_LB_build_38 ?_
      refine mx_ladd d_LB_build_39 ?_
      refine mx_bipush (v := 30) d_LB_build_40 (by decide) ?_
      obtain ⟨⟨fs23, e1_⟩, h⟩ := h
      refine mx_invV (Y := mm_LBStore_partOf) (As := [.long (1000000000000 + (Int32.toInt64 l1)), .int 30]) (rest := [.ref a13]) d_LB_build_42.1 ok_LBStore_partOf kw_61 kw_62 kw_63 rfl rfl (Nat.le_of_ble_eq_true rfl) (Nat.le_of_ble_eq_true rfl) e1_ (q := mx_cl0_4) rfl rfl h (fun r16 hs17 h => ?_)
      obtain ⟨x18, e9_, h⟩ := h
      subst e9_
      show mx_Ok mx_S0 l G (d + 1) mm_LB_build 45 [(0, .ref l0), (1, .int l1)] [.long x18, .ref a13] hs17 Q
      obtain ⟨⟨fs22, e1_⟩, h⟩ := h
      refine mx_invV (Y := mm_LBWorker_answerOf) (As := [.long x18]) (rest := []) d_LB_build_45.1 ok_LBWorker_answerOf kw_44 kw_45 kw_46 rfl rfl (Nat.le_of_ble_eq_true rfl) (Nat.le_of_ble_eq_true rfl) e1_ (q := mx_cl0_5) rfl rfl h (fun r19 hs20 h => ?_)
      obtain ⟨x21, e9_, h⟩ := h
      subst e9_
      show mx_Ok mx_S0 l G (d + 1) mm_LB_build 48 [(0, .ref l0), (1, .int l1)] [.int x21] hs20 Q
      exact mx_ireturn d_LB_build_48 rfl rfl h
    · replace h := h.2 c9
      refine mx_bipush (v := (-11)) d_LB_build_23 (by decide) ?_
      exact mx_ireturn d_LB_build_25 rfl rfl h
  · replace h := h.1 c9
    subst c9
    refine mx_iconst (v := -1) d_LB_build_11 (by decide) ?_
    exact mx_ireturn d_LB_build_12 rfl rfl h
set_option maxRecDepth 100000 in
theorem wp_LB_root_0 {l : Launch} {G : mx_G} {d : Nat} {hs : mx_H} {Q : Option Value → mx_H → Prop} (l0 : Nat) (l1 : Int32) (l2 : Int32) (h : (∃ (a2 : Nat), mx_f hs l0 0 1 (.ref a2) ∧ ((∃ fs9 : List Value, hs.1 a2 = some (4, fs9)) ∧ mx_C mx_S0 l G d mm_LBStore_planAt [.ref a2, .int l1] hs (fun (r3 : Option Value) (hs4 : mx_H) => ∃ v5 : Value, r3 = some v5 ∧ (v5 = .null ∨ ∃ z, v5 = .ref z) ∧ ((v5 = .null → Q (some (.int (-1))) hs4) ∧ (∀ a6 : Nat, v5 = .ref a6 → ((l2 = 0 ∨ l2 = 1) ∧ ∃ fs7 : List Value, hs4.1 a6 = some (3, fs7) ∧ ∀ hs8 : mx_H, hs8 = mx_st hs4 a6 (3, fs7.set 3 (.int l2)) → Q (some (.int 0)) hs8))))))) : mx_Ok mx_S0 l G (d + 1) mm_LB_root 0 [(0, .ref l0), (1, .int l1), (2, .int l2)] [] hs Q := by
  refine mx_aload_nR d_LB_root_0 rfl 0 rfl ?_
  obtain ⟨a2, ⟨fs1, e1_, e2_⟩, h⟩ := h
  refine mx_get d_LB_root_1 (ci := 0) (k := 1) (q := mx_cl0_0) rfl (Nat.le_of_ble_eq_true rfl) kw_9 e1_ e2_ ?_
  refine mx_iload_n d_LB_root_4 rfl 1 rfl ?_
  obtain ⟨⟨fs9, e1_⟩, h⟩ := h
  refine mx_invV (Y := mm_LBStore_planAt) (As := [.int l1]) (rest := []) d_LB_root_5.1 ok_LBStore_planAt kw_64 kw_65 kw_66 rfl rfl (Nat.le_of_ble_eq_true rfl) (Nat.le_of_ble_eq_true rfl) e1_ (q := mx_cl0_4) rfl rfl h (fun r3 hs4 h => ?_)
  obtain ⟨v5, e9_, hv5, h⟩ := h
  subst e9_
  show mx_Ok mx_S0 l G (d + 1) mm_LB_root 8 [(0, .ref l0), (1, .int l1), (2, .int l2)] [v5] hs4 Q
  refine mx_astore_n (lv2 := [(3, v5), (0, .ref l0), (1, .int l1), (2, .int l2)]) d_LB_root_8 rfl (Nat.le_of_ble_eq_true rfl) rfl hv5 ?_
  refine mx_aload_n d_LB_root_9 rfl 0 rfl hv5 ?_
  refine mx_ifnonnull d_LB_root_10 hv5 (fun a6 c9 => ?_) (fun c9 => ?_)
  · replace h := h.2 a6 c9
    subst c9
    refine mx_aload_nR d_LB_root_15 rfl 0 rfl ?_
    refine mx_iload_n d_LB_root_16 rfl 3 rfl ?_
    obtain ⟨hb_, h⟩ := h
    obtain ⟨fs7, e1_, h⟩ := h
    refine mx_put d_LB_root_17 (ci := 3) (k := 3) (q := mx_cl0_3) (ty := .boolean) rfl (Nat.le_of_ble_eq_true rfl) kw_67 rfl (by decide +kernel) (mx_nz hb_) (mx_fz hb_) (by omega) e1_ ?_
    obtain ⟨hs8, hg_⟩ : ∃ x_, x_ = mx_st hs4 a6 (3, fs7.set 3 (.int l2)) := ⟨_, rfl⟩
    replace h := h hs8 hg_
    rw [← hg_]
    clear hg_
    refine mx_iconst (v := 0) d_LB_root_20 (by decide) ?_
    exact mx_ireturn d_LB_root_21 rfl rfl h
  · replace h := h.1 c9
    subst c9
    refine mx_iconst (v := -1) d_LB_root_13 (by decide) ?_
    exact mx_ireturn d_LB_root_14 rfl rfl h
set_option maxRecDepth 100000 in
theorem wp_LB_collect_0 {l : Launch} {G : mx_G} {d : Nat} {hs : mx_H} {Q : Option Value → mx_H → Prop} (l0 : Nat) (h : (∃ (a2 : Nat), mx_f hs l0 0 1 (.ref a2) ∧ ((∃ fs6 : List Value, hs.1 a2 = some (4, fs6)) ∧ mx_C mx_S0 l G d mm_LBStore_sweep [.ref a2] hs (fun (r3 : Option Value) (hs4 : mx_H) => ∃ x5 : Int32, r3 = some (.int x5) ∧ Q (some (.int x5)) hs4)))) : mx_Ok mx_S0 l G (d + 1) mm_LB_collect 0 [(0, .ref l0)] [] hs Q := by
  refine mx_aload_nR d_LB_collect_0 rfl 0 rfl ?_
  obtain ⟨a2, ⟨fs1, e1_, e2_⟩, h⟩ := h
  refine mx_get d_LB_collect_1 (ci := 0) (k := 1) (q := mx_cl0_0) rfl (Nat.le_of_ble_eq_true rfl) kw_9 e1_ e2_ ?_
  obtain ⟨⟨fs6, e1_⟩, h⟩ := h
  refine mx_invV (Y := mm_LBStore_sweep) (As := []) (rest := []) d_LB_collect_4.1 ok_LBStore_sweep kw_68 kw_69 kw_70 rfl rfl (Nat.le_of_ble_eq_true rfl) (Nat.le_of_ble_eq_true rfl) e1_ (q := mx_cl0_4) rfl rfl h (fun r3 hs4 h => ?_)
  obtain ⟨x5, e9_, h⟩ := h
  subst e9_
  show mx_Ok mx_S0 l G (d + 1) mm_LB_collect 7 [(0, .ref l0)] [.int x5] hs4 Q
  exact mx_ireturn d_LB_collect_7 rfl rfl h
set_option maxRecDepth 100000 in
theorem wp_LB_input_0 {l : Launch} {G : mx_G} {d : Nat} {hs : mx_H} {Q : Option Value → mx_H → Prop} (l0 : Nat) (l1 : Int32) (l2 : Int32) (h : (∃ (a2 : Nat), mx_f hs l0 0 1 (.ref a2) ∧ ((∃ fs14 : List Value, hs.1 a2 = some (4, fs14)) ∧ mx_C mx_S0 l G d mm_LBStore_planAt [.ref a2, .int l1] hs (fun (r3 : Option Value) (hs4 : mx_H) => ∃ v5 : Value, r3 = some v5 ∧ (v5 = .null ∨ ∃ z, v5 = .ref z) ∧ ((v5 = .null → Q (some (.long (-1000000000000))) hs4) ∧ (∀ a6 : Nat, v5 = .ref a6 → ((l2 < 0 → Q (some (.long (-1000000000000))) hs4) ∧ (¬ (l2 < 0) → (∃ (a8 : Nat), mx_f hs4 a6 3 1 (.ref a8) ∧ (∃ vs9 : List Value, hs4.1 a8 = some (102, vs9) ∧ ((l2 < (Int32.ofNat vs9.length) → (∃ (a11 : Nat), mx_f hs4 a6 3 1 (.ref a11) ∧ (∃ (vs12 : List Value) (x13 : Int64), hs4.1 a11 = some (102, vs12) ∧ ¬ l2 < 0 ∧ vs12[Int32.toNatClampNeg l2]? = some (.long x13) ∧ Q (some (.long x13)) hs4))) ∧ (¬ (l2 < (Int32.ofNat vs9.length)) → Q (some (.long (-1000000000000))) hs4)))))))))))) : mx_Ok mx_S0 l G (d + 1) mm_LB_input 0 [(0, .ref l0), (1, .int l1), (2, .int l2)] [] hs Q := by
  refine mx_aload_nR d_LB_input_0 rfl 0 rfl ?_
  obtain ⟨a2, ⟨fs1, e1_, e2_⟩, h⟩ := h
  refine mx_get d_LB_input_1 (ci := 0) (k := 1) (q := mx_cl0_0) rfl (Nat.le_of_ble_eq_true rfl) kw_9 e1_ e2_ ?_
  refine mx_iload_n d_LB_input_4 rfl 1 rfl ?_
  obtain ⟨⟨fs14, e1_⟩, h⟩ := h
  refine mx_invV (Y := mm_LBStore_planAt) (As := [.int l1]) (rest := []) d_LB_input_5.1 ok_LBStore_planAt kw_64 kw_65 kw_66 rfl rfl (Nat.le_of_ble_eq_true rfl) (Nat.le_of_ble_eq_true rfl) e1_ (q := mx_cl0_4) rfl rfl h (fun r3 hs4 h => ?_)
  obtain ⟨v5, e9_, hv5, h⟩ := h
  subst e9_
  show mx_Ok mx_S0 l G (d + 1) mm_LB_input 8 [(0, .ref l0), (1, .int l1), (2, .int l2)] [v5] hs4 Q
  refine mx_astore_n (lv2 := [(3, v5), (0, .ref l0), (1, .int l1), (2, .int l2)]) d_LB_input_8 rfl (Nat.le_of_ble_eq_true rfl) rfl hv5 ?_
  refine mx_aload_n d_LB_input_9 rfl 0 rfl hv5 ?_
  refine mx_ifnull d_LB_input_10 hv5 (fun c9 => ?_) (fun a6 c9 => ?_)
  · replace h := h.1 c9
    subst c9
    refine mx_ldc2 (v := (-1000000000000)) d_LB_input_26 kw_14 ?_
    exact mx_lreturn d_LB_input_29 rfl h
  · replace h := h.2 a6 c9
    subst c9
    refine mx_iload_n d_LB_input_13 rfl 3 rfl ?_
    refine mx_if_lt d_LB_input_14 (fun c9 => ?_) (fun c9 => ?_)
    · replace h := h.1 c9
      refine mx_ldc2 (v := (-1000000000000)) d_LB_input_26 kw_14 ?_
      exact mx_lreturn d_LB_input_29 rfl h
    · replace h := h.2 c9
      refine mx_iload_n d_LB_input_17 rfl 3 rfl ?_
      refine mx_aload_nR d_LB_input_18 rfl 0 rfl ?_
      obtain ⟨a8, ⟨fs7, e1_, e2_⟩, h⟩ := h
      refine mx_get d_LB_input_19 (ci := 3) (k := 1) (q := mx_cl0_3) rfl (Nat.le_of_ble_eq_true rfl) kw_71 e1_ e2_ ?_
      obtain ⟨vs9, e1_, h⟩ := h
      refine mx_alen d_LB_input_22 (k := 102) rfl e1_ ?_
      refine mx_icmp_lt d_LB_input_23 (fun c9 => ?_) (fun c9 => ?_)
      · replace h := h.1 c9
        refine mx_aload_nR d_LB_input_30 rfl 0 rfl ?_
        obtain ⟨a11, ⟨fs10, e1_, e2_⟩, h⟩ := h
        refine mx_get d_LB_input_31 (ci := 3) (k := 1) (q := mx_cl0_3) rfl (Nat.le_of_ble_eq_true rfl) kw_71 e1_ e2_ ?_
        refine mx_iload_n d_LB_input_34 rfl 3 rfl ?_
        obtain ⟨vs12, x13, e1_, e2_, e3_, h⟩ := h
        refine mx_lald d_LB_input_35 (k := 102) rfl e1_ e2_ e3_ ?_
        exact mx_lreturn d_LB_input_36 rfl h
      · replace h := h.2 c9
        refine mx_ldc2 (v := (-1000000000000)) d_LB_input_26 kw_14 ?_
        exact mx_lreturn d_LB_input_29 rfl h
set_option maxRecDepth 100000 in
theorem wp_LB_plan_0 {l : Launch} {G : mx_G} {d : Nat} {hs : mx_H} {Q : Option Value → mx_H → Prop} (l0 : Nat) (l1 : Int32) (l2 : Int32) (h : (∃ (a2 : Nat), mx_f hs l0 0 1 (.ref a2) ∧ ((∃ fs18 : List Value, hs.1 a2 = some (4, fs18)) ∧ mx_C mx_S0 l G d mm_LBStore_planAt [.ref a2, .int l1] hs (fun (r3 : Option Value) (hs4 : mx_H) => ∃ v5 : Value, r3 = some v5 ∧ (v5 = .null ∨ ∃ z, v5 = .ref z) ∧ ((v5 = .null → Q (some (.int (-1))) hs4) ∧ (∀ a6 : Nat, v5 = .ref a6 → ((l2 = 0 → (∃ (x8 : Int32), mx_f hs4 a6 3 0 (.int x8) ∧ Q (some (.int x8)) hs4)) ∧ (l2 = 1 → (∃ (a10 : Nat), mx_f hs4 a6 3 1 (.ref a10) ∧ (∃ vs11 : List Value, hs4.1 a10 = some (102, vs11) ∧ Q (some (.int (Int32.ofNat vs11.length))) hs4))) ∧ (l2 = 2 → (∃ (x13 : Int32), mx_f hs4 a6 3 2 (.int x13) ∧ ((x13 = 0 → Q (some (.int 0)) hs4) ∧ (¬ (x13 = 0) → Q (some (.int 1)) hs4)))) ∧ (l2 = 3 → (∃ (x15 : Int32), mx_f hs4 a6 3 5 (.int x15) ∧ Q (some (.int x15)) hs4)) ∧ (l2 = 4 → (∃ (x17 : Int32), mx_f hs4 a6 3 3 (.int x17) ∧ ((x17 = 0 → Q (some (.int 0)) hs4) ∧ (¬ (x17 = 0) → Q (some (.int 1)) hs4)))) ∧ (¬ l2 = 0 → ¬ l2 = 1 → ¬ l2 = 2 → ¬ l2 = 3 → ¬ l2 = 4 → Q (some (.int (-1))) hs4)))))))) : mx_Ok mx_S0 l G (d + 1) mm_LB_plan 0 [(0, .ref l0), (1, .int l1), (2, .int l2)] [] hs Q := by
  refine mx_aload_nR d_LB_plan_0 rfl 0 rfl ?_
  obtain ⟨a2, ⟨fs1, e1_, e2_⟩, h⟩ := h
  refine mx_get d_LB_plan_1 (ci := 0) (k := 1) (q := mx_cl0_0) rfl (Nat.le_of_ble_eq_true rfl) kw_9 e1_ e2_ ?_
  refine mx_iload_n d_LB_plan_4 rfl 1 rfl ?_
  obtain ⟨⟨fs18, e1_⟩, h⟩ := h
  refine mx_invV (Y := mm_LBStore_planAt) (As := [.int l1]) (rest := []) d_LB_plan_5.1 ok_LBStore_planAt kw_64 kw_65 kw_66 rfl rfl (Nat.le_of_ble_eq_true rfl) (Nat.le_of_ble_eq_true rfl) e1_ (q := mx_cl0_4) rfl rfl h (fun r3 hs4 h => ?_)
  obtain ⟨v5, e9_, hv5, h⟩ := h
  subst e9_
  show mx_Ok mx_S0 l G (d + 1) mm_LB_plan 8 [(0, .ref l0), (1, .int l1), (2, .int l2)] [v5] hs4 Q
  refine mx_astore_n (lv2 := [(3, v5), (0, .ref l0), (1, .int l1), (2, .int l2)]) d_LB_plan_8 rfl (Nat.le_of_ble_eq_true rfl) rfl hv5 ?_
  refine mx_aload_n d_LB_plan_9 rfl 0 rfl hv5 ?_
  refine mx_ifnonnull d_LB_plan_10 hv5 (fun a6 c9 => ?_) (fun c9 => ?_)
  · replace h := h.2 a6 c9
    subst c9
    refine mx_iload_n d_LB_plan_15 rfl 3 rfl ?_
    by_cases c0_ : l2 = 0
    · replace h := h.1 c0_
      refine mx_tableIn d_LB_plan_16 (by rw [c0_]; decide) (by rw [c0_]; decide) (o := 36) (by rw [c0_]; decide) (tgt := 52) (by decide) ?_
      refine mx_aload_nR d_LB_plan_52 rfl 0 rfl ?_
      obtain ⟨x8, ⟨fs7, e1_, e2_⟩, h⟩ := h
      refine mx_get d_LB_plan_53 (ci := 3) (k := 0) (q := mx_cl0_3) rfl (Nat.le_of_ble_eq_true rfl) kw_72 e1_ e2_ ?_
      exact mx_ireturn d_LB_plan_56 rfl rfl h
    by_cases c1_ : l2 = 1
    · replace h := h.2.1 c1_
      refine mx_tableIn d_LB_plan_16 (by rw [c1_]; decide) (by rw [c1_]; decide) (o := 41) (by rw [c1_]; decide) (tgt := 57) (by decide) ?_
      refine mx_aload_nR d_LB_plan_57 rfl 0 rfl ?_
      obtain ⟨a10, ⟨fs9, e1_, e2_⟩, h⟩ := h
      refine mx_get d_LB_plan_58 (ci := 3) (k := 1) (q := mx_cl0_3) rfl (Nat.le_of_ble_eq_true rfl) kw_71 e1_ e2_ ?_
      obtain ⟨vs11, e1_, h⟩ := h
      refine mx_alen d_LB_plan_61 (k := 102) rfl e1_ ?_
      exact mx_ireturn d_LB_plan_62 rfl rfl h
    by_cases c2_ : l2 = 2
    · replace h := h.2.2.1 c2_
      refine mx_tableIn d_LB_plan_16 (by rw [c2_]; decide) (by rw [c2_]; decide) (o := 47) (by rw [c2_]; decide) (tgt := 63) (by decide) ?_
      refine mx_aload_nR d_LB_plan_63 rfl 0 rfl ?_
      obtain ⟨x13, ⟨fs12, e1_, e2_⟩, h⟩ := h
      refine mx_get d_LB_plan_64 (ci := 3) (k := 2) (q := mx_cl0_3) rfl (Nat.le_of_ble_eq_true rfl) kw_73 e1_ e2_ ?_
      refine mx_if_eq d_LB_plan_67 (fun c9 => ?_) (fun c9 => ?_)
      · replace h := h.1 c9
        refine mx_iconst (v := 0) d_LB_plan_74 (by decide) ?_
        exact mx_ireturn d_LB_plan_75 rfl rfl h
      · replace h := h.2 c9
        refine mx_iconst (v := 1) d_LB_plan_70 (by decide) ?_
        refine mx_goto d_LB_plan_71 ?_
        exact mx_ireturn d_LB_plan_75 rfl rfl h
    by_cases c3_ : l2 = 3
    · replace h := h.2.2.2.1 c3_
      refine mx_tableIn d_LB_plan_16 (by rw [c3_]; decide) (by rw [c3_]; decide) (o := 60) (by rw [c3_]; decide) (tgt := 76) (by decide) ?_
      refine mx_aload_nR d_LB_plan_76 rfl 0 rfl ?_
      obtain ⟨x15, ⟨fs14, e1_, e2_⟩, h⟩ := h
      refine mx_get d_LB_plan_77 (ci := 3) (k := 5) (q := mx_cl0_3) rfl (Nat.le_of_ble_eq_true rfl) kw_74 e1_ e2_ ?_
      exact mx_ireturn d_LB_plan_80 rfl rfl h
    by_cases c4_ : l2 = 4
    · replace h := h.2.2.2.2.1 c4_
      refine mx_tableIn d_LB_plan_16 (by rw [c4_]; decide) (by rw [c4_]; decide) (o := 65) (by rw [c4_]; decide) (tgt := 81) (by decide) ?_
      refine mx_aload_nR d_LB_plan_81 rfl 0 rfl ?_
      obtain ⟨x17, ⟨fs16, e1_, e2_⟩, h⟩ := h
      refine mx_get d_LB_plan_82 (ci := 3) (k := 3) (q := mx_cl0_3) rfl (Nat.le_of_ble_eq_true rfl) kw_67 e1_ e2_ ?_
      refine mx_if_eq d_LB_plan_85 (fun c9 => ?_) (fun c9 => ?_)
      · replace h := h.1 c9
        refine mx_iconst (v := 0) d_LB_plan_92 (by decide) ?_
        exact mx_ireturn d_LB_plan_93 rfl rfl h
      · replace h := h.2 c9
        refine mx_iconst (v := 1) d_LB_plan_88 (by decide) ?_
        refine mx_goto d_LB_plan_89 ?_
        exact mx_ireturn d_LB_plan_93 rfl rfl h
    replace h := h.2.2.2.2.2 c0_ c1_ c2_ c3_ c4_
    have z0_ := lv_neT c0_ (a := 0) (by decide)
    have z1_ := lv_neT c1_ (a := 1) (by decide)
    have z2_ := lv_neT c2_ (a := 2) (by decide)
    have z3_ := lv_neT c3_ (a := 3) (by decide)
    have z4_ := lv_neT c4_ (a := 4) (by decide)
    refine mx_tableOut d_LB_plan_16 (by omega) (tgt := 94) (by decide) ?_
    refine mx_iconst (v := -1) d_LB_plan_94 (by decide) ?_
    exact mx_ireturn d_LB_plan_95 rfl rfl h
  · replace h := h.1 c9
    subst c9
    refine mx_iconst (v := -1) d_LB_plan_13 (by decide) ?_
    exact mx_ireturn d_LB_plan_14 rfl rfl h
set_option maxRecDepth 100000 in
theorem wp_LB_count_0 {l : Launch} {G : mx_G} {d : Nat} {hs : mx_H} {Q : Option Value → mx_H → Prop} (l0 : Nat) (l1 : Int32) (h : ((l1 = 0 → (∃ (a2 : Nat), mx_f hs l0 0 1 (.ref a2) ∧ (∃ (x4 : Int32), mx_f hs a2 4 2 (.int x4) ∧ Q (some (.int x4)) hs))) ∧ (l1 = 1 → (∃ (a6 : Nat), mx_f hs l0 0 1 (.ref a6) ∧ (∃ (x8 : Int32), mx_f hs a6 4 3 (.int x8) ∧ Q (some (.int x8)) hs))) ∧ (l1 = 2 → (∃ (a10 : Nat), mx_f hs l0 0 2 (.ref a10) ∧ (∃ (x12 : Int32), mx_f hs a10 5 3 (.int x12) ∧ Q (some (.int x12)) hs))) ∧ (l1 = 3 → (∃ (a14 : Nat), mx_f hs l0 0 2 (.ref a14) ∧ (∃ (x16 : Int32), mx_f hs a14 5 4 (.int x16) ∧ Q (some (.int x16)) hs))) ∧ (l1 = 4 → (∃ (a18 : Nat), mx_f hs l0 0 0 (.ref a18) ∧ (∃ (x20 : Int32), mx_f hs a18 1 2 (.int x20) ∧ Q (some (.int x20)) hs))) ∧ (l1 = 5 → (∃ (x22 : Int32), mx_f hs l0 0 4 (.int x22) ∧ Q (some (.int x22)) hs)) ∧ (l1 = 6 → (∃ (a24 : Nat), mx_f hs l0 0 2 (.ref a24) ∧ ((∃ fs28 : List Value, hs.1 a24 = some (5, fs28)) ∧ mx_C mx_S0 l G d mm_LBWorker_namesBound [.ref a24] hs (fun (r25 : Option Value) (hs26 : mx_H) => ∃ x27 : Int32, r25 = some (.int x27) ∧ Q (some (.int x27)) hs26)))) ∧ (l1 = 7 → (∃ (a30 : Nat), mx_f hs l0 0 2 (.ref a30) ∧ ((∃ fs34 : List Value, hs.1 a30 = some (5, fs34)) ∧ mx_C mx_S0 l G d mm_LBWorker_namesKept [.ref a30] hs (fun (r31 : Option Value) (hs32 : mx_H) => ∃ x33 : Int32, r31 = some (.int x33) ∧ Q (some (.int x33)) hs32)))) ∧ (¬ l1 = 0 → ¬ l1 = 1 → ¬ l1 = 2 → ¬ l1 = 3 → ¬ l1 = 4 → ¬ l1 = 5 → ¬ l1 = 6 → ¬ l1 = 7 → Q (some (.int (-1))) hs))) : mx_Ok mx_S0 l G (d + 1) mm_LB_count 0 [(0, .ref l0), (1, .int l1)] [] hs Q := by
  refine mx_iload_n d_LB_count_0 rfl 1 rfl ?_
  by_cases c0_ : l1 = 0
  · replace h := h.1 c0_
    refine mx_tableIn d_LB_count_1 (by rw [c0_]; decide) (by rw [c0_]; decide) (o := 47) (by rw [c0_]; decide) (tgt := 48) (by decide) ?_
    refine mx_aload_nR d_LB_count_48 rfl 0 rfl ?_
    obtain ⟨a2, ⟨fs1, e1_, e2_⟩, h⟩ := h
    refine mx_get d_LB_count_49 (ci := 0) (k := 1) (q := mx_cl0_0) rfl (Nat.le_of_ble_eq_true rfl) kw_9 e1_ e2_ ?_
    obtain ⟨x4, ⟨fs3, e1_, e2_⟩, h⟩ := h
    refine mx_get d_LB_count_52 (ci := 4) (k := 2) (q := mx_cl0_4) rfl (Nat.le_of_ble_eq_true rfl) kw_75 e1_ e2_ ?_
    exact mx_ireturn d_LB_count_55 rfl rfl h
  by_cases c1_ : l1 = 1
  · replace h := h.2.1 c1_
    refine mx_tableIn d_LB_count_1 (by rw [c1_]; decide) (by rw [c1_]; decide) (o := 55) (by rw [c1_]; decide) (tgt := 56) (by decide) ?_
    refine mx_aload_nR d_LB_count_56 rfl 0 rfl ?_
    obtain ⟨a6, ⟨fs5, e1_, e2_⟩, h⟩ := h
    refine mx_get d_LB_count_57 (ci := 0) (k := 1) (q := mx_cl0_0) rfl (Nat.le_of_ble_eq_true rfl) kw_9 e1_ e2_ ?_
    obtain ⟨x8, ⟨fs7, e1_, e2_⟩, h⟩ := h
    refine mx_get d_LB_count_60 (ci := 4) (k := 3) (q := mx_cl0_4) rfl (Nat.le_of_ble_eq_true rfl) kw_76 e1_ e2_ ?_
    exact mx_ireturn d_LB_count_63 rfl rfl h
  by_cases c2_ : l1 = 2
  · replace h := h.2.2.1 c2_
    refine mx_tableIn d_LB_count_1 (by rw [c2_]; decide) (by rw [c2_]; decide) (o := 63) (by rw [c2_]; decide) (tgt := 64) (by decide) ?_
    refine mx_aload_nR d_LB_count_64 rfl 0 rfl ?_
    obtain ⟨a10, ⟨fs9, e1_, e2_⟩, h⟩ := h
    refine mx_get d_LB_count_65 (ci := 0) (k := 2) (q := mx_cl0_0) rfl (Nat.le_of_ble_eq_true rfl) kw_13 e1_ e2_ ?_
    obtain ⟨x12, ⟨fs11, e1_, e2_⟩, h⟩ := h
    refine mx_get d_LB_count_68 (ci := 5) (k := 3) (q := mx_cl0_5) rfl (Nat.le_of_ble_eq_true rfl) kw_77 e1_ e2_ ?_
    exact mx_ireturn d_LB_count_71 rfl rfl h
  by_cases c3_ : l1 = 3
  · replace h := h.2.2.2.1 c3_
    refine mx_tableIn d_LB_count_1 (by rw [c3_]; decide) (by rw [c3_]; decide) (o := 71) (by rw [c3_]; decide) (tgt := 72) (by decide) ?_
    refine mx_aload_nR d_LB_count_72 rfl 0 rfl ?_
    obtain ⟨a14, ⟨fs13, e1_, e2_⟩, h⟩ := h
    refine mx_get d_LB_count_73 (ci := 0) (k := 2) (q := mx_cl0_0) rfl (Nat.le_of_ble_eq_true rfl) kw_13 e1_ e2_ ?_
    obtain ⟨x16, ⟨fs15, e1_, e2_⟩, h⟩ := h
    refine mx_get d_LB_count_76 (ci := 5) (k := 4) (q := mx_cl0_5) rfl (Nat.le_of_ble_eq_true rfl) kw_78 e1_ e2_ ?_
    exact mx_ireturn d_LB_count_79 rfl rfl h
  by_cases c4_ : l1 = 4
  · replace h := h.2.2.2.2.1 c4_
    refine mx_tableIn d_LB_count_1 (by rw [c4_]; decide) (by rw [c4_]; decide) (o := 79) (by rw [c4_]; decide) (tgt := 80) (by decide) ?_
    refine mx_aload_nR d_LB_count_80 rfl 0 rfl ?_
    obtain ⟨a18, ⟨fs17, e1_, e2_⟩, h⟩ := h
    refine mx_get d_LB_count_81 (ci := 0) (k := 0) (q := mx_cl0_0) rfl (Nat.le_of_ble_eq_true rfl) kw_5 e1_ e2_ ?_
    obtain ⟨x20, ⟨fs19, e1_, e2_⟩, h⟩ := h
    refine mx_get d_LB_count_84 (ci := 1) (k := 2) (q := mx_cl0_1) rfl (Nat.le_of_ble_eq_true rfl) kw_26 e1_ e2_ ?_
    exact mx_ireturn d_LB_count_87 rfl rfl h
  by_cases c5_ : l1 = 5
  · replace h := h.2.2.2.2.2.1 c5_
    refine mx_tableIn d_LB_count_1 (by rw [c5_]; decide) (by rw [c5_]; decide) (o := 87) (by rw [c5_]; decide) (tgt := 88) (by decide) ?_
    refine mx_aload_nR d_LB_count_88 rfl 0 rfl ?_
    obtain ⟨x22, ⟨fs21, e1_, e2_⟩, h⟩ := h
    refine mx_get d_LB_count_89 (ci := 0) (k := 4) (q := mx_cl0_0) rfl (Nat.le_of_ble_eq_true rfl) kw_16 e1_ e2_ ?_
    exact mx_ireturn d_LB_count_92 rfl rfl h
  by_cases c6_ : l1 = 6
  · replace h := h.2.2.2.2.2.2.1 c6_
    refine mx_tableIn d_LB_count_1 (by rw [c6_]; decide) (by rw [c6_]; decide) (o := 92) (by rw [c6_]; decide) (tgt := 93) (by decide) ?_
    refine mx_aload_nR d_LB_count_93 rfl 0 rfl ?_
    obtain ⟨a24, ⟨fs23, e1_, e2_⟩, h⟩ := h
    refine mx_get d_LB_count_94 (ci := 0) (k := 2) (q := mx_cl0_0) rfl (Nat.le_of_ble_eq_true rfl) kw_13 e1_ e2_ ?_
    obtain ⟨⟨fs28, e1_⟩, h⟩ := h
    refine mx_invV (Y := mm_LBWorker_namesBound) (As := []) (rest := []) d_LB_count_97.1 ok_LBWorker_namesBound kw_79 kw_80 kw_81 rfl rfl (Nat.le_of_ble_eq_true rfl) (Nat.le_of_ble_eq_true rfl) e1_ (q := mx_cl0_5) rfl rfl h (fun r25 hs26 h => ?_)
    obtain ⟨x27, e9_, h⟩ := h
    subst e9_
    show mx_Ok mx_S0 l G (d + 1) mm_LB_count 100 [(0, .ref l0), (1, .int l1)] [.int x27] hs26 Q
    exact mx_ireturn d_LB_count_100 rfl rfl h
  by_cases c7_ : l1 = 7
  · replace h := h.2.2.2.2.2.2.2.1 c7_
    refine mx_tableIn d_LB_count_1 (by rw [c7_]; decide) (by rw [c7_]; decide) (o := 100) (by rw [c7_]; decide) (tgt := 101) (by decide) ?_
    refine mx_aload_nR d_LB_count_101 rfl 0 rfl ?_
    obtain ⟨a30, ⟨fs29, e1_, e2_⟩, h⟩ := h
    refine mx_get d_LB_count_102 (ci := 0) (k := 2) (q := mx_cl0_0) rfl (Nat.le_of_ble_eq_true rfl) kw_13 e1_ e2_ ?_
    obtain ⟨⟨fs34, e1_⟩, h⟩ := h
    refine mx_invV (Y := mm_LBWorker_namesKept) (As := []) (rest := []) d_LB_count_105.1 ok_LBWorker_namesKept kw_82 kw_83 kw_84 rfl rfl (Nat.le_of_ble_eq_true rfl) (Nat.le_of_ble_eq_true rfl) e1_ (q := mx_cl0_5) rfl rfl h (fun r31 hs32 h => ?_)
    obtain ⟨x33, e9_, h⟩ := h
    subst e9_
    show mx_Ok mx_S0 l G (d + 1) mm_LB_count 108 [(0, .ref l0), (1, .int l1)] [.int x33] hs32 Q
    exact mx_ireturn d_LB_count_108 rfl rfl h
  replace h := h.2.2.2.2.2.2.2.2 c0_ c1_ c2_ c3_ c4_ c5_ c6_ c7_
  have z0_ := lv_neT c0_ (a := 0) (by decide)
  have z1_ := lv_neT c1_ (a := 1) (by decide)
  have z2_ := lv_neT c2_ (a := 2) (by decide)
  have z3_ := lv_neT c3_ (a := 3) (by decide)
  have z4_ := lv_neT c4_ (a := 4) (by decide)
  have z5_ := lv_neT c5_ (a := 5) (by decide)
  have z6_ := lv_neT c6_ (a := 6) (by decide)
  have z7_ := lv_neT c7_ (a := 7) (by decide)
  refine mx_tableOut d_LB_count_1 (by omega) (tgt := 109) (by decide) ?_
  refine mx_iconst (v := -1) d_LB_count_109 (by decide) ?_
  exact mx_ireturn d_LB_count_110 rfl rfl h
set_option maxRecDepth 100000 in
theorem wp_LB_readLine_0 {l : Launch} {G : mx_G} {d : Nat} {hs : mx_H} {Q : Option Value → mx_H → Prop} (l0 : Nat) (h : (∃ (a2 : Nat), mx_f hs l0 0 0 (.ref a2) ∧ ((∃ fs17 : List Value, hs.1 a2 = some (1, fs17)) ∧ mx_C mx_S0 l G d mm_LBText_read [.ref a2] hs (fun (r3 : Option Value) (hs4 : mx_H) => ∃ x5 : Int32, r3 = some (.int x5) ∧ ((x5 = 0 → (∃ (a7 : Nat), mx_f hs4 l0 0 0 (.ref a7) ∧ (∃ (x9 : Int32), mx_f hs4 a7 1 4 (.int x9) ∧ (∃ fs10 : List Value, hs4.1 l0 = some (0, fs10) ∧ ∀ hs11 : mx_H, hs11 = mx_st hs4 l0 (0, fs10.set 4 (.int x9)) → (∃ (a13 : Nat), mx_f hs11 l0 0 0 (.ref a13) ∧ ((∃ fs16 : List Value, hs11.1 a13 = some (1, fs16)) ∧ mx_C mx_S0 l G d mm_LBText_clear [.ref a13] hs11 (fun (r14 : Option Value) (hs15 : mx_H) => r14 = none ∧ Q (some (.int 0)) hs15))))))) ∧ (¬ (x5 = 0) → Q (some (.int 1)) hs4)))))) : mx_Ok mx_S0 l G (d + 1) mm_LB_readLine 0 [(0, .ref l0)] [] hs Q := by
  refine mx_aload_nR d_LB_readLine_0 rfl 0 rfl ?_
  obtain ⟨a2, ⟨fs1, e1_, e2_⟩, h⟩ := h
  refine mx_get d_LB_readLine_1 (ci := 0) (k := 0) (q := mx_cl0_0) rfl (Nat.le_of_ble_eq_true rfl) kw_5 e1_ e2_ ?_
  obtain ⟨⟨fs17, e1_⟩, h⟩ := h
  refine mx_invV (Y := mm_LBText_read) (As := []) (rest := []) d_LB_readLine_4.1 ok_LBText_read kw_86 kw_87 kw_88 rfl rfl (Nat.le_of_ble_eq_true rfl) (Nat.le_of_ble_eq_true rfl) e1_ (q := mx_cl0_1) rfl rfl h (fun r3 hs4 h => ?_)
  obtain ⟨x5, e9_, h⟩ := h
  subst e9_
  show mx_Ok mx_S0 l G (d + 1) mm_LB_readLine 7 [(0, .ref l0)] [.int x5] hs4 Q
  refine mx_if_eq d_LB_readLine_7 (fun c9 => ?_) (fun c9 => ?_)
  · replace h := h.1 c9
    refine mx_aload_nR d_LB_readLine_12 rfl 0 rfl ?_
    refine mx_aload_nR d_LB_readLine_13 rfl 0 rfl ?_
    obtain ⟨a7, ⟨fs6, e1_, e2_⟩, h⟩ := h
    refine mx_get d_LB_readLine_14 (ci := 0) (k := 0) (q := mx_cl0_0) rfl (Nat.le_of_ble_eq_true rfl) kw_5 e1_ e2_ ?_
    obtain ⟨x9, ⟨fs8, e1_, e2_⟩, h⟩ := h
    refine mx_get d_LB_readLine_17 (ci := 1) (k := 4) (q := mx_cl0_1) rfl (Nat.le_of_ble_eq_true rfl) kw_85 e1_ e2_ ?_
    obtain ⟨fs10, e1_, h⟩ := h
    refine mx_put d_LB_readLine_20 (ci := 0) (k := 4) (q := mx_cl0_0) (ty := .int) rfl (Nat.le_of_ble_eq_true rfl) kw_16 rfl (by decide +kernel) rfl rfl (by omega) e1_ ?_
    obtain ⟨hs11, hg_⟩ : ∃ x_, x_ = mx_st hs4 l0 (0, fs10.set 4 (.int x9)) := ⟨_, rfl⟩
    replace h := h hs11 hg_
    rw [← hg_]
    clear hg_
    refine mx_aload_nR d_LB_readLine_23 rfl 0 rfl ?_
    obtain ⟨a13, ⟨fs12, e1_, e2_⟩, h⟩ := h
    refine mx_get d_LB_readLine_24 (ci := 0) (k := 0) (q := mx_cl0_0) rfl (Nat.le_of_ble_eq_true rfl) kw_5 e1_ e2_ ?_
    obtain ⟨⟨fs16, e1_⟩, h⟩ := h
    refine mx_invV (Y := mm_LBText_clear) (As := []) (rest := []) d_LB_readLine_27.1 ok_LBText_clear kw_28 kw_29 kw_30 rfl rfl (Nat.le_of_ble_eq_true rfl) (Nat.le_of_ble_eq_true rfl) e1_ (q := mx_cl0_1) rfl rfl h (fun r14 hs15 h => ?_)
    obtain ⟨e9_, h⟩ := h
    subst e9_
    show mx_Ok mx_S0 l G (d + 1) mm_LB_readLine 30 [(0, .ref l0)] [] hs15 Q
    refine mx_iconst (v := 0) d_LB_readLine_30 (by decide) ?_
    exact mx_ireturn d_LB_readLine_31 rfl (mx_nz (Or.inl rfl)) h
  · replace h := h.2 c9
    refine mx_iconst (v := 1) d_LB_readLine_10 (by decide) ?_
    exact mx_ireturn d_LB_readLine_11 rfl (mx_nz (Or.inr rfl)) h
set_option maxRecDepth 100000 in
theorem wp_LB_isNameNumber_0 {l : Launch} {G : mx_G} {d : Nat} {hs : mx_H} {Q : Option Value → mx_H → Prop} (l0 : Int32) (h : ((l0 < 0 → Q (some (.int 0)) hs) ∧ (¬ (l0 < 0) → ((8 ≤ l0 → Q (some (.int 0)) hs) ∧ (¬ (8 ≤ l0) → Q (some (.int 1)) hs))))) : mx_Ok mx_S0 l G (d + 1) mm_LB_isNameNumber 0 [(0, .int l0)] [] hs Q := by
  refine mx_iload_n d_LB_isNameNumber_0 rfl 0 rfl ?_
  refine mx_if_lt d_LB_isNameNumber_1 (fun c9 => ?_) (fun c9 => ?_)
  · replace h := h.1 c9
    refine mx_iconst (v := 0) d_LB_isNameNumber_14 (by decide) ?_
    exact mx_ireturn d_LB_isNameNumber_15 rfl (mx_nz (Or.inl rfl)) h
  · replace h := h.2 c9
    refine mx_iload_n d_LB_isNameNumber_4 rfl 0 rfl ?_
    refine mx_bipush (v := 8) d_LB_isNameNumber_5 (by decide) ?_
    refine mx_icmp_ge d_LB_isNameNumber_7 (fun c9 => ?_) (fun c9 => ?_)
    · replace h := h.1 c9
      refine mx_iconst (v := 0) d_LB_isNameNumber_14 (by decide) ?_
      exact mx_ireturn d_LB_isNameNumber_15 rfl (mx_nz (Or.inl rfl)) h
    · replace h := h.2 c9
      refine mx_iconst (v := 1) d_LB_isNameNumber_10 (by decide) ?_
      refine mx_goto d_LB_isNameNumber_11 ?_
      exact mx_ireturn d_LB_isNameNumber_15 rfl (mx_nz (Or.inr rfl)) h
set_option maxRecDepth 100000 in
theorem wp_LB_isDigit_0 {l : Launch} {G : mx_G} {d : Nat} {hs : mx_H} {Q : Option Value → mx_H → Prop} (l0 : Int32) (h : ((l0 < 48 → Q (some (.int 0)) hs) ∧ (¬ (l0 < 48) → ((57 < l0 → Q (some (.int 0)) hs) ∧ (¬ (57 < l0) → Q (some (.int 1)) hs))))) : mx_Ok mx_S0 l G (d + 1) mm_LB_isDigit 0 [(0, .int l0)] [] hs Q := by
  refine mx_iload_n d_LB_isDigit_0 rfl 0 rfl ?_
  refine mx_bipush (v := 48) d_LB_isDigit_1 (by decide) ?_
  refine mx_icmp_lt d_LB_isDigit_3 (fun c9 => ?_) (fun c9 => ?_)
  · replace h := h.1 c9
    refine mx_iconst (v := 0) d_LB_isDigit_16 (by decide) ?_
    exact mx_ireturn d_LB_isDigit_17 rfl (mx_nz (Or.inl rfl)) h
  · replace h := h.2 c9
    refine mx_iload_n d_LB_isDigit_6 rfl 0 rfl ?_
    refine mx_bipush (v := 57) d_LB_isDigit_7 (by decide) ?_
    refine mx_icmp_gt d_LB_isDigit_9 (fun c9 => ?_) (fun c9 => ?_)
    · replace h := h.1 c9
      refine mx_iconst (v := 0) d_LB_isDigit_16 (by decide) ?_
      exact mx_ireturn d_LB_isDigit_17 rfl (mx_nz (Or.inl rfl)) h
    · replace h := h.2 c9
      refine mx_iconst (v := 1) d_LB_isDigit_12 (by decide) ?_
      refine mx_goto d_LB_isDigit_13 ?_
      exact mx_ireturn d_LB_isDigit_17 rfl (mx_nz (Or.inr rfl)) h
set_option maxRecDepth 100000 in
theorem wp_LB_isLetter_0 {l : Launch} {G : mx_G} {d : Nat} {hs : mx_H} {Q : Option Value → mx_H → Prop} (l0 : Int32) (h : ((l0 < 97 → Q (some (.int 0)) hs) ∧ (¬ (l0 < 97) → ((105 ≤ l0 → Q (some (.int 0)) hs) ∧ (¬ (105 ≤ l0) → Q (some (.int 1)) hs))))) : mx_Ok mx_S0 l G (d + 1) mm_LB_isLetter 0 [(0, .int l0)] [] hs Q := by
  refine mx_iload_n d_LB_isLetter_0 rfl 0 rfl ?_
  refine mx_bipush (v := 97) d_LB_isLetter_1 (by decide) ?_
  refine mx_icmp_lt d_LB_isLetter_3 (fun c9 => ?_) (fun c9 => ?_)
  · replace h := h.1 c9
    refine mx_iconst (v := 0) d_LB_isLetter_16 (by decide) ?_
    exact mx_ireturn d_LB_isLetter_17 rfl (mx_nz (Or.inl rfl)) h
  · replace h := h.2 c9
    refine mx_iload_n d_LB_isLetter_6 rfl 0 rfl ?_
    refine mx_bipush (v := 105) d_LB_isLetter_7 (by decide) ?_
    refine mx_icmp_ge d_LB_isLetter_9 (fun c9 => ?_) (fun c9 => ?_)
    · replace h := h.1 c9
      refine mx_iconst (v := 0) d_LB_isLetter_16 (by decide) ?_
      exact mx_ireturn d_LB_isLetter_17 rfl (mx_nz (Or.inl rfl)) h
    · replace h := h.2 c9
      refine mx_iconst (v := 1) d_LB_isLetter_12 (by decide) ?_
      refine mx_goto d_LB_isLetter_13 ?_
      exact mx_ireturn d_LB_isLetter_17 rfl (mx_nz (Or.inr rfl)) h
set_option maxRecDepth 100000 in
theorem wp_LB_partsAfter_0 {l : Launch} {G : mx_G} {d : Nat} {hs : mx_H} {Q : Option Value → mx_H → Prop} (l0 : Int32) (h : ((l0 = 33 → Q (some (.int 1)) hs) ∧ (l0 = 42 → Q (some (.int 2)) hs) ∧ (l0 = 43 → Q (some (.int 2)) hs) ∧ (l0 = 45 → Q (some (.int 2)) hs) ∧ (l0 = 60 → Q (some (.int 2)) hs) ∧ (l0 = 63 → Q (some (.int 3)) hs) ∧ (l0 = 79 → Q (some (.int 1)) hs) ∧ (l0 = 84 → Q (some (.int 2)) hs) ∧ (¬ l0 = 33 → ¬ l0 = 42 → ¬ l0 = 43 → ¬ l0 = 45 → ¬ l0 = 60 → ¬ l0 = 63 → ¬ l0 = 79 → ¬ l0 = 84 → Q (some (.int 0)) hs))) : mx_Ok mx_S0 l G (d + 1) mm_LB_partsAfter 0 [(0, .int l0)] [] hs Q := by
  refine mx_iload_n d_LB_partsAfter_0 rfl 0 rfl ?_
  by_cases c0_ : l0 = 33
  · replace h := h.1 c0_
    refine mx_lookup d_LB_partsAfter_1 (by decide) (o := 75) (by rw [c0_]; decide) (tgt := 76) (by decide) ?_
    refine mx_iconst (v := 1) d_LB_partsAfter_76 (by decide) ?_
    exact mx_ireturn d_LB_partsAfter_77 rfl rfl h
  by_cases c1_ : l0 = 42
  · replace h := h.2.1 c1_
    refine mx_lookup d_LB_partsAfter_1 (by decide) (o := 77) (by rw [c1_]; decide) (tgt := 78) (by decide) ?_
    refine mx_iconst (v := 2) d_LB_partsAfter_78 (by decide) ?_
    exact mx_ireturn d_LB_partsAfter_79 rfl rfl h
  by_cases c2_ : l0 = 43
  · replace h := h.2.2.1 c2_
    refine mx_lookup d_LB_partsAfter_1 (by decide) (o := 77) (by rw [c2_]; decide) (tgt := 78) (by decide) ?_
    refine mx_iconst (v := 2) d_LB_partsAfter_78 (by decide) ?_
    exact mx_ireturn d_LB_partsAfter_79 rfl rfl h
  by_cases c3_ : l0 = 45
  · replace h := h.2.2.2.1 c3_
    refine mx_lookup d_LB_partsAfter_1 (by decide) (o := 77) (by rw [c3_]; decide) (tgt := 78) (by decide) ?_
    refine mx_iconst (v := 2) d_LB_partsAfter_78 (by decide) ?_
    exact mx_ireturn d_LB_partsAfter_79 rfl rfl h
  by_cases c4_ : l0 = 60
  · replace h := h.2.2.2.2.1 c4_
    refine mx_lookup d_LB_partsAfter_1 (by decide) (o := 77) (by rw [c4_]; decide) (tgt := 78) (by decide) ?_
    refine mx_iconst (v := 2) d_LB_partsAfter_78 (by decide) ?_
    exact mx_ireturn d_LB_partsAfter_79 rfl rfl h
  by_cases c5_ : l0 = 63
  · replace h := h.2.2.2.2.2.1 c5_
    refine mx_lookup d_LB_partsAfter_1 (by decide) (o := 79) (by rw [c5_]; decide) (tgt := 80) (by decide) ?_
    refine mx_iconst (v := 3) d_LB_partsAfter_80 (by decide) ?_
    exact mx_ireturn d_LB_partsAfter_81 rfl rfl h
  by_cases c6_ : l0 = 79
  · replace h := h.2.2.2.2.2.2.1 c6_
    refine mx_lookup d_LB_partsAfter_1 (by decide) (o := 75) (by rw [c6_]; decide) (tgt := 76) (by decide) ?_
    refine mx_iconst (v := 1) d_LB_partsAfter_76 (by decide) ?_
    exact mx_ireturn d_LB_partsAfter_77 rfl rfl h
  by_cases c7_ : l0 = 84
  · replace h := h.2.2.2.2.2.2.2.1 c7_
    refine mx_lookup d_LB_partsAfter_1 (by decide) (o := 77) (by rw [c7_]; decide) (tgt := 78) (by decide) ?_
    refine mx_iconst (v := 2) d_LB_partsAfter_78 (by decide) ?_
    exact mx_ireturn d_LB_partsAfter_79 rfl rfl h
  replace h := h.2.2.2.2.2.2.2.2 c0_ c1_ c2_ c3_ c4_ c5_ c6_ c7_
  refine mx_lookup d_LB_partsAfter_1 (by decide) (o := 81) (by show Op.lookupswitch.offset [(33, 75), (42, 77), (43, 77), (45, 77), (60, 77), (63, 79), (79, 75), (84, 77)] 81 _ = _; rw [lv_osw c0_ (by decide), lv_osw c1_ (by decide), lv_osw c2_ (by decide), lv_osw c3_ (by decide), lv_osw c4_ (by decide), lv_osw c5_ (by decide), lv_osw c6_ (by decide), lv_osw c7_ (by decide)]; rfl) (tgt := 82) (by decide) ?_
  refine mx_iconst (v := 0) d_LB_partsAfter_82 (by decide) ?_
  exact mx_ireturn d_LB_partsAfter_83 rfl rfl h
set_option maxRecDepth 100000 in
theorem wp_LB_isFailure_0 {l : Launch} {G : mx_G} {d : Nat} {hs : mx_H} {Q : Option Value → mx_H → Prop} (l0 : Int64) (h : (((-1000000000000) ≤ l0 → Q (some (.int 0)) hs) ∧ (¬ ((-1000000000000) ≤ l0) → Q (some (.int 1)) hs))) : mx_Ok mx_S0 l G (d + 1) mm_LB_isFailure 0 [(0, .long l0)] [] hs Q := by
  refine mx_lload_n d_LB_isFailure_0 rfl 0 rfl ?_
  refine mx_ldc2 (v := (-1000000000000)) d_LB_isFailure_1 kw_14 ?_
  refine mx_lcmp d_LB_isFailure_4 ?_
  refine mx_if_ge d_LB_isFailure_5 (fun c9 => ?_) (fun c9 => ?_)
  · replace h := h.1 ((lg_cmp_ge _ _).mp c9)
    refine mx_iconst (v := 0) d_LB_isFailure_12 (by decide) ?_
    exact mx_ireturn d_LB_isFailure_13 rfl (mx_nz (Or.inl rfl)) h
  · replace h := h.2 (fun z9 => c9 ((lg_cmp_ge _ _).mpr z9))
    refine mx_iconst (v := 1) d_LB_isFailure_8 (by decide) ?_
    refine mx_goto d_LB_isFailure_9 ?_
    exact mx_ireturn d_LB_isFailure_13 rfl (mx_nz (Or.inr rfl)) h
set_option maxRecDepth 100000 in
theorem wp_LB_isPlan_0 {l : Launch} {G : mx_G} {d : Nat} {hs : mx_H} {Q : Option Value → mx_H → Prop} (l0 : Int64) (h : ((l0 ≤ 1000000000000 → Q (some (.int 0)) hs) ∧ (¬ (l0 ≤ 1000000000000) → Q (some (.int 1)) hs))) : mx_Ok mx_S0 l G (d + 1) mm_LB_isPlan 0 [(0, .long l0)] [] hs Q := by
  refine mx_lload_n d_LB_isPlan_0 rfl 0 rfl ?_
  refine mx_ldc2 (v := 1000000000000) d_LB_isPlan_1 kw_60 ?_
  refine mx_lcmp d_LB_isPlan_4 ?_
  refine mx_if_le d_LB_isPlan_5 (fun c9 => ?_) (fun c9 => ?_)
  · replace h := h.1 ((lg_cmp_le _ _).mp c9)
    refine mx_iconst (v := 0) d_LB_isPlan_12 (by decide) ?_
    exact mx_ireturn d_LB_isPlan_13 rfl (mx_nz (Or.inl rfl)) h
  · replace h := h.2 (fun z9 => c9 ((lg_cmp_le _ _).mpr z9))
    refine mx_iconst (v := 1) d_LB_isPlan_8 (by decide) ?_
    refine mx_goto d_LB_isPlan_9 ?_
    exact mx_ireturn d_LB_isPlan_13 rfl (mx_nz (Or.inr rfl)) h
set_option maxRecDepth 100000 in
theorem wp_LBText_init_0 {l : Launch} {G : mx_G} {d : Nat} {hs : mx_H} {Q : Option Value → mx_H → Prop} (l0 : Nat) (h : (∀ hs1 : mx_H, hs1 = mx_nw hs (100, List.replicate 24 (.int 0)) 24 → (∃ fs2 : List Value, hs1.1 l0 = some (1, fs2) ∧ ∀ hs3 : mx_H, hs3 = mx_st hs1 l0 (1, fs2.set 0 (.ref hs.2.1)) → (∀ hs4 : mx_H, hs4 = mx_nw hs3 (100, List.replicate 24 (.int 0)) 24 → (∃ fs5 : List Value, hs4.1 l0 = some (1, fs5) ∧ ∀ hs6 : mx_H, hs6 = mx_st hs4 l0 (1, fs5.set 1 (.ref hs3.2.1)) → Q none hs6))))) : mx_Ok mx_S0 l G (d + 1) mm_LBText_init 0 [(0, .ref l0)] [] hs Q := by
  refine mx_aload_nR d_LBText_init_0 rfl 0 rfl ?_
  refine mx_objInit d_LBText_init_1 kw_89 kw_1 k_objcode (Nat.le_of_ble_eq_true rfl) ?_
  refine mx_aload_nR d_LBText_init_4 rfl 0 rfl ?_
  refine mx_bipush (v := 24) d_LBText_init_5 (by decide) ?_
  refine mx_newa d_LBText_init_7 (k := 100) (ty := .int) (dv := .int 0) (N := 24) rfl rfl rfl (by decide) kw_90 (by decide) (by decide) (by decide) ?_
  obtain ⟨hs1, hg_⟩ : ∃ x_, x_ = mx_nw hs (100, List.replicate 24 (.int 0)) 24 := ⟨_, rfl⟩
  replace h := h hs1 hg_
  rw [← hg_]
  clear hg_
  obtain ⟨fs2, e1_, h⟩ := h
  refine mx_putF d_LBText_init_9 (ci := 1) (k := 0) (q := mx_cl0_1) (ty := (.array .int)) rfl (Nat.le_of_ble_eq_true rfl) kw_91 rfl rfl rfl (by decide +kernel) rfl rfl (by omega) e1_ ?_
  obtain ⟨hs3, hg_⟩ : ∃ x_, x_ = mx_st hs1 l0 (1, fs2.set 0 (.ref hs.2.1)) := ⟨_, rfl⟩
  replace h := h hs3 hg_
  rw [← hg_]
  clear hg_
  refine mx_aload_nR d_LBText_init_12 rfl 0 rfl ?_
  refine mx_bipush (v := 24) d_LBText_init_13 (by decide) ?_
  refine mx_newa d_LBText_init_15 (k := 100) (ty := .int) (dv := .int 0) (N := 24) rfl rfl rfl (by decide) kw_90 (by decide) (by decide) (by decide) ?_
  obtain ⟨hs4, hg_⟩ : ∃ x_, x_ = mx_nw hs3 (100, List.replicate 24 (.int 0)) 24 := ⟨_, rfl⟩
  replace h := h hs4 hg_
  rw [← hg_]
  clear hg_
  obtain ⟨fs5, e1_, h⟩ := h
  refine mx_putF d_LBText_init_17 (ci := 1) (k := 1) (q := mx_cl0_1) (ty := (.array .int)) rfl (Nat.le_of_ble_eq_true rfl) kw_92 rfl rfl rfl (by decide +kernel) rfl rfl (by omega) e1_ ?_
  obtain ⟨hs6, hg_⟩ : ∃ x_, x_ = mx_st hs4 l0 (1, fs5.set 1 (.ref hs3.2.1)) := ⟨_, rfl⟩
  replace h := h hs6 hg_
  rw [← hg_]
  clear hg_
  exact mx_return d_LBText_init_20 rfl h
set_option maxRecDepth 100000 in
theorem wp_LBText_append_0 {l : Launch} {G : mx_G} {d : Nat} {hs : mx_H} {Q : Option Value → mx_H → Prop} (l0 : Nat) (l1 : Int32) (h : mx_C mx_S0 l G d mm_LBText_belongs [.int l1] hs (fun (r1 : Option Value) (hs2 : mx_H) => ∃ x3 : Int32, r1 = some (.int x3) ∧ ((¬ x3 = 0 → (∃ (x5 : Int32), mx_f hs2 l0 1 2 (.int x5) ∧ ((x5 < 24 → (∃ (a7 : Nat), mx_f hs2 l0 1 0 (.ref a7) ∧ (∃ (x9 : Int32), mx_f hs2 l0 1 2 (.int x9) ∧ (∃ vs10 : List Value, hs2.1 a7 = some (100, vs10) ∧ ¬ x9 < 0 ∧ Int32.toNatClampNeg x9 < vs10.length ∧ ∀ hs11 : mx_H, hs11 = mx_st hs2 a7 (100, vs10.set (Int32.toNatClampNeg x9) (.int l1)) → (∃ (x13 : Int32), mx_f hs11 l0 1 2 (.int x13) ∧ (∃ fs14 : List Value, hs11.1 l0 = some (1, fs14) ∧ ∀ hs15 : mx_H, hs15 = mx_st hs11 l0 (1, fs14.set 2 (.int (x13 + 1))) → (∃ (x17 : Int32), mx_f hs15 l0 1 2 (.int x17) ∧ Q (some (.int x17)) hs15))))))) ∧ (¬ (x5 < 24) → Q (some (.int (-2))) hs2)))) ∧ (¬ (¬ x3 = 0) → Q (some (.int (-1))) hs2)))) : mx_Ok mx_S0 l G (d + 1) mm_LBText_append 0 [(0, .ref l0), (1, .int l1)] [] hs Q := by
  refine mx_iload_n d_LBText_append_0 rfl 1 rfl ?_
  refine mx_invS (Y := mm_LBText_belongs) (As := [.int l1]) (rest := []) d_LBText_append_1.1 ok_LBText_belongs kw_94 kw_95 rfl rfl (Nat.le_of_ble_eq_true rfl) (Nat.le_of_ble_eq_true rfl) h (fun r1 hs2 h => ?_)
  obtain ⟨x3, e9_, h⟩ := h
  subst e9_
  show mx_Ok mx_S0 l G (d + 1) mm_LBText_append 4 [(0, .ref l0), (1, .int l1)] [.int x3] hs2 Q
  refine mx_if_ne d_LBText_append_4 (fun c9 => ?_) (fun c9 => ?_)
  · replace h := h.1 c9
    refine mx_aload_nR d_LBText_append_9 rfl 0 rfl ?_
    obtain ⟨x5, ⟨fs4, e1_, e2_⟩, h⟩ := h
    refine mx_get d_LBText_append_10 (ci := 1) (k := 2) (q := mx_cl0_1) rfl (Nat.le_of_ble_eq_true rfl) kw_93 e1_ e2_ ?_
    refine mx_bipush (v := 24) d_LBText_append_13 (by decide) ?_
    refine mx_icmp_lt d_LBText_append_15 (fun c9 => ?_) (fun c9 => ?_)
    · replace h := h.1 c9
      refine mx_aload_nR d_LBText_append_21 rfl 0 rfl ?_
      obtain ⟨a7, ⟨fs6, e1_, e2_⟩, h⟩ := h
      refine mx_get d_LBText_append_22 (ci := 1) (k := 0) (q := mx_cl0_1) rfl (Nat.le_of_ble_eq_true rfl) kw_91 e1_ e2_ ?_
      refine mx_aload_nR d_LBText_append_25 rfl 0 rfl ?_
      obtain ⟨x9, ⟨fs8, e1_, e2_⟩, h⟩ := h
      refine mx_get d_LBText_append_26 (ci := 1) (k := 2) (q := mx_cl0_1) rfl (Nat.le_of_ble_eq_true rfl) kw_93 e1_ e2_ ?_
      refine mx_iload_n d_LBText_append_29 rfl 1 rfl ?_
      obtain ⟨vs10, e1_, e2_, e3_, h⟩ := h
      refine mx_iast d_LBText_append_30 (k := 100) rfl (by decide) (by omega) e1_ e2_ e3_ ?_
      obtain ⟨hs11, hg_⟩ : ∃ x_, x_ = mx_st hs2 a7 (100, vs10.set (Int32.toNatClampNeg x9) (.int l1)) := ⟨_, rfl⟩
      replace h := h hs11 hg_
      rw [← hg_]
      clear hg_
      refine mx_aload_nR d_LBText_append_31 rfl 0 rfl ?_
      refine mx_dup d_LBText_append_32 rfl ?_
      obtain ⟨x13, ⟨fs12, e1_, e2_⟩, h⟩ := h
      refine mx_get d_LBText_append_33 (ci := 1) (k := 2) (q := mx_cl0_1) rfl (Nat.le_of_ble_eq_true rfl) kw_93 e1_ e2_ ?_
      refine mx_iconst (v := 1) d_LBText_append_36 (by decide) ?_
      refine mx_iadd d_LBText_append_37 ?_
      obtain ⟨fs14, e1_, h⟩ := h
      refine mx_put d_LBText_append_38 (ci := 1) (k := 2) (q := mx_cl0_1) (ty := .int) rfl (Nat.le_of_ble_eq_true rfl) kw_93 rfl (by decide +kernel) rfl rfl (by omega) e1_ ?_
      obtain ⟨hs15, hg_⟩ : ∃ x_, x_ = mx_st hs11 l0 (1, fs14.set 2 (.int (x13 + 1))) := ⟨_, rfl⟩
      replace h := h hs15 hg_
      rw [← hg_]
      clear hg_
      refine mx_aload_nR d_LBText_append_41 rfl 0 rfl ?_
      obtain ⟨x17, ⟨fs16, e1_, e2_⟩, h⟩ := h
      refine mx_get d_LBText_append_42 (ci := 1) (k := 2) (q := mx_cl0_1) rfl (Nat.le_of_ble_eq_true rfl) kw_93 e1_ e2_ ?_
      exact mx_ireturn d_LBText_append_45 rfl rfl h
    · replace h := h.2 c9
      refine mx_bipush (v := (-2)) d_LBText_append_18 (by decide) ?_
      exact mx_ireturn d_LBText_append_20 rfl rfl h
  · replace h := h.2 c9
    refine mx_iconst (v := -1) d_LBText_append_7 (by decide) ?_
    exact mx_ireturn d_LBText_append_8 rfl rfl h
set_option maxRecDepth 100000 in
theorem wp_LBText_clear_0 {l : Launch} {G : mx_G} {d : Nat} {hs : mx_H} {Q : Option Value → mx_H → Prop} (l0 : Nat) (h : (∃ fs1 : List Value, hs.1 l0 = some (1, fs1) ∧ ∀ hs2 : mx_H, hs2 = mx_st hs l0 (1, fs1.set 2 (.int 0)) → Q none hs2)) : mx_Ok mx_S0 l G (d + 1) mm_LBText_clear 0 [(0, .ref l0)] [] hs Q := by
  refine mx_aload_nR d_LBText_clear_0 rfl 0 rfl ?_
  refine mx_iconst (v := 0) d_LBText_clear_1 (by decide) ?_
  obtain ⟨fs1, e1_, h⟩ := h
  refine mx_put d_LBText_clear_2 (ci := 1) (k := 2) (q := mx_cl0_1) (ty := .int) rfl (Nat.le_of_ble_eq_true rfl) kw_93 rfl (by decide +kernel) rfl rfl (by omega) e1_ ?_
  obtain ⟨hs2, hg_⟩ : ∃ x_, x_ = mx_st hs l0 (1, fs1.set 2 (.int 0)) := ⟨_, rfl⟩
  replace h := h hs2 hg_
  rw [← hg_]
  clear hg_
  exact mx_return d_LBText_clear_5 rfl h
set_option maxRecDepth 100000 in
theorem wp_LBText_copyFrom_0 {l : Launch} {G : mx_G} {d : Nat} {hs : mx_H} {Q : Option Value → mx_H → Prop} (l0 : Nat) (l1 : Nat) (h : (∃ (a2 : Nat), mx_f hs l1 1 0 (.ref a2) ∧ (∃ (a4 : Nat), mx_f hs l0 1 0 (.ref a4) ∧ (∃ vs5 vs6 : List Value, hs.1 a2 = some (100, vs5) ∧ hs.1 a4 = some (100, vs6) ∧ ¬ (0 : Int32) < 0 ∧ ¬ (0 : Int32) < 0 ∧ ¬ (24 : Int32) < 0 ∧ (Int32.toNatClampNeg 0) + (Int32.toNatClampNeg 24) ≤ vs5.length ∧ (Int32.toNatClampNeg 0) + (Int32.toNatClampNeg 24) ≤ vs6.length ∧ (∀ v ∈ vs5, fits .int v = true ∧ ∀ x, v ≠ .ref x) ∧ ∀ hs7 : mx_H, hs7 = mx_st hs a4 (100, mx_cpy vs5 vs6 (Int32.toNatClampNeg 0) (Int32.toNatClampNeg 0) (Int32.toNatClampNeg 24)) → (∃ (a9 : Nat), mx_f hs7 l1 1 1 (.ref a9) ∧ (∃ (a11 : Nat), mx_f hs7 l0 1 1 (.ref a11) ∧ (∃ vs12 vs13 : List Value, hs7.1 a9 = some (100, vs12) ∧ hs7.1 a11 = some (100, vs13) ∧ ¬ (0 : Int32) < 0 ∧ ¬ (0 : Int32) < 0 ∧ ¬ (24 : Int32) < 0 ∧ (Int32.toNatClampNeg 0) + (Int32.toNatClampNeg 24) ≤ vs12.length ∧ (Int32.toNatClampNeg 0) + (Int32.toNatClampNeg 24) ≤ vs13.length ∧ (∀ v ∈ vs12, fits .int v = true ∧ ∀ x, v ≠ .ref x) ∧ ∀ hs14 : mx_H, hs14 = mx_st hs7 a11 (100, mx_cpy vs12 vs13 (Int32.toNatClampNeg 0) (Int32.toNatClampNeg 0) (Int32.toNatClampNeg 24)) → (∃ (x16 : Int32), mx_f hs14 l1 1 2 (.int x16) ∧ (∃ fs17 : List Value, hs14.1 l0 = some (1, fs17) ∧ ∀ hs18 : mx_H, hs18 = mx_st hs14 l0 (1, fs17.set 2 (.int x16)) → (∃ (x20 : Int32), mx_f hs18 l1 1 3 (.int x20) ∧ (∃ fs21 : List Value, hs18.1 l0 = some (1, fs21) ∧ ∀ hs22 : mx_H, hs22 = mx_st hs18 l0 (1, fs21.set 3 (.int x20)) → Q none hs22))))))))))) : mx_Ok mx_S0 l G (d + 1) mm_LBText_copyFrom 0 [(0, .ref l0), (1, .ref l1)] [] hs Q := by
  refine mx_aload_nR d_LBText_copyFrom_0 rfl 1 rfl ?_
  obtain ⟨a2, ⟨fs1, e1_, e2_⟩, h⟩ := h
  refine mx_get d_LBText_copyFrom_1 (ci := 1) (k := 0) (q := mx_cl0_1) rfl (Nat.le_of_ble_eq_true rfl) kw_91 e1_ e2_ ?_
  refine mx_iconst (v := 0) d_LBText_copyFrom_4 (by decide) ?_
  refine mx_aload_nR d_LBText_copyFrom_5 rfl 0 rfl ?_
  obtain ⟨a4, ⟨fs3, e1_, e2_⟩, h⟩ := h
  refine mx_get d_LBText_copyFrom_6 (ci := 1) (k := 0) (q := mx_cl0_1) rfl (Nat.le_of_ble_eq_true rfl) kw_91 e1_ e2_ ?_
  refine mx_iconst (v := 0) d_LBText_copyFrom_9 (by decide) ?_
  refine mx_bipush (v := 24) d_LBText_copyFrom_10 (by decide) ?_
  obtain ⟨vs5, vs6, e1_, e2_, e3_, e4_, e5_, e6_, e7_, e8_, h⟩ := h
  refine mx_copy (k0 := 100) (k1 := 100) (ty := .int) d_LBText_copyFrom_12 kw_96 k_acp1 k_acp2 k_acp3 rfl rfl rfl (by decide) (Nat.le_of_ble_eq_true rfl) e1_ e2_ e3_ e4_ e5_ rfl rfl rfl e6_ e7_ e8_ ?_
  obtain ⟨hs7, hg_⟩ : ∃ x_, x_ = mx_st hs a4 (100, mx_cpy vs5 vs6 (Int32.toNatClampNeg 0) (Int32.toNatClampNeg 0) (Int32.toNatClampNeg 24)) := ⟨_, rfl⟩
  replace h := h hs7 hg_
  rw [← hg_]
  clear hg_
  refine mx_aload_nR d_LBText_copyFrom_15 rfl 1 rfl ?_
  obtain ⟨a9, ⟨fs8, e1_, e2_⟩, h⟩ := h
  refine mx_get d_LBText_copyFrom_16 (ci := 1) (k := 1) (q := mx_cl0_1) rfl (Nat.le_of_ble_eq_true rfl) kw_92 e1_ e2_ ?_
  refine mx_iconst (v := 0) d_LBText_copyFrom_19 (by decide) ?_
  refine mx_aload_nR d_LBText_copyFrom_20 rfl 0 rfl ?_
  obtain ⟨a11, ⟨fs10, e1_, e2_⟩, h⟩ := h
  refine mx_get d_LBText_copyFrom_21 (ci := 1) (k := 1) (q := mx_cl0_1) rfl (Nat.le_of_ble_eq_true rfl) kw_92 e1_ e2_ ?_
  refine mx_iconst (v := 0) d_LBText_copyFrom_24 (by decide) ?_
  refine mx_bipush (v := 24) d_LBText_copyFrom_25 (by decide) ?_
  obtain ⟨vs12, vs13, e1_, e2_, e3_, e4_, e5_, e6_, e7_, e8_, h⟩ := h
  refine mx_copy (k0 := 100) (k1 := 100) (ty := .int) d_LBText_copyFrom_27 kw_96 k_acp1 k_acp2 k_acp3 rfl rfl rfl (by decide) (Nat.le_of_ble_eq_true rfl) e1_ e2_ e3_ e4_ e5_ rfl rfl rfl e6_ e7_ e8_ ?_
  obtain ⟨hs14, hg_⟩ : ∃ x_, x_ = mx_st hs7 a11 (100, mx_cpy vs12 vs13 (Int32.toNatClampNeg 0) (Int32.toNatClampNeg 0) (Int32.toNatClampNeg 24)) := ⟨_, rfl⟩
  replace h := h hs14 hg_
  rw [← hg_]
  clear hg_
  refine mx_aload_nR d_LBText_copyFrom_30 rfl 0 rfl ?_
  refine mx_aload_nR d_LBText_copyFrom_31 rfl 1 rfl ?_
  obtain ⟨x16, ⟨fs15, e1_, e2_⟩, h⟩ := h
  refine mx_get d_LBText_copyFrom_32 (ci := 1) (k := 2) (q := mx_cl0_1) rfl (Nat.le_of_ble_eq_true rfl) kw_93 e1_ e2_ ?_
  obtain ⟨fs17, e1_, h⟩ := h
  refine mx_put d_LBText_copyFrom_35 (ci := 1) (k := 2) (q := mx_cl0_1) (ty := .int) rfl (Nat.le_of_ble_eq_true rfl) kw_93 rfl (by decide +kernel) rfl rfl (by omega) e1_ ?_
  obtain ⟨hs18, hg_⟩ : ∃ x_, x_ = mx_st hs14 l0 (1, fs17.set 2 (.int x16)) := ⟨_, rfl⟩
  replace h := h hs18 hg_
  rw [← hg_]
  clear hg_
  refine mx_aload_nR d_LBText_copyFrom_38 rfl 0 rfl ?_
  refine mx_aload_nR d_LBText_copyFrom_39 rfl 1 rfl ?_
  obtain ⟨x20, ⟨fs19, e1_, e2_⟩, h⟩ := h
  refine mx_get d_LBText_copyFrom_40 (ci := 1) (k := 3) (q := mx_cl0_1) rfl (Nat.le_of_ble_eq_true rfl) kw_97 e1_ e2_ ?_
  obtain ⟨fs21, e1_, h⟩ := h
  refine mx_put d_LBText_copyFrom_43 (ci := 1) (k := 3) (q := mx_cl0_1) (ty := .int) rfl (Nat.le_of_ble_eq_true rfl) kw_97 rfl (by decide +kernel) rfl rfl (by omega) e1_ ?_
  obtain ⟨hs22, hg_⟩ : ∃ x_, x_ = mx_st hs18 l0 (1, fs21.set 3 (.int x20)) := ⟨_, rfl⟩
  replace h := h hs22 hg_
  rw [← hg_]
  clear hg_
  exact mx_return d_LBText_copyFrom_46 rfl h
set_option maxRecDepth 100000 in
theorem wp_LBText_codeAt_0 {l : Launch} {G : mx_G} {d : Nat} {hs : mx_H} {Q : Option Value → mx_H → Prop} (l0 : Nat) (l1 : Int32) (h : ((l1 < 0 → Q (some (.int 0)) hs) ∧ (¬ (l1 < 0) → (∃ (x2 : Int32), mx_f hs l0 1 2 (.int x2) ∧ ((x2 ≤ l1 → Q (some (.int 0)) hs) ∧ (¬ (x2 ≤ l1) → (∃ (a4 : Nat), mx_f hs l0 1 0 (.ref a4) ∧ (∃ (vs5 : List Value) (x6 : Int32), hs.1 a4 = some (100, vs5) ∧ ¬ l1 < 0 ∧ vs5[Int32.toNatClampNeg l1]? = some (.int x6) ∧ Q (some (.int x6)) hs)))))))) : mx_Ok mx_S0 l G (d + 1) mm_LBText_codeAt 0 [(0, .ref l0), (1, .int l1)] [] hs Q := by
  refine mx_iload_n d_LBText_codeAt_0 rfl 1 rfl ?_
  refine mx_if_lt d_LBText_codeAt_1 (fun c9 => ?_) (fun c9 => ?_)
  · replace h := h.1 c9
    refine mx_iconst (v := 0) d_LBText_codeAt_21 (by decide) ?_
    exact mx_ireturn d_LBText_codeAt_22 rfl rfl h
  · replace h := h.2 c9
    refine mx_iload_n d_LBText_codeAt_4 rfl 1 rfl ?_
    refine mx_aload_nR d_LBText_codeAt_5 rfl 0 rfl ?_
    obtain ⟨x2, ⟨fs1, e1_, e2_⟩, h⟩ := h
    refine mx_get d_LBText_codeAt_6 (ci := 1) (k := 2) (q := mx_cl0_1) rfl (Nat.le_of_ble_eq_true rfl) kw_93 e1_ e2_ ?_
    refine mx_icmp_ge d_LBText_codeAt_9 (fun c9 => ?_) (fun c9 => ?_)
    · replace h := h.1 c9
      refine mx_iconst (v := 0) d_LBText_codeAt_21 (by decide) ?_
      exact mx_ireturn d_LBText_codeAt_22 rfl rfl h
    · replace h := h.2 c9
      refine mx_aload_nR d_LBText_codeAt_12 rfl 0 rfl ?_
      obtain ⟨a4, ⟨fs3, e1_, e2_⟩, h⟩ := h
      refine mx_get d_LBText_codeAt_13 (ci := 1) (k := 0) (q := mx_cl0_1) rfl (Nat.le_of_ble_eq_true rfl) kw_91 e1_ e2_ ?_
      refine mx_iload_n d_LBText_codeAt_16 rfl 1 rfl ?_
      obtain ⟨vs5, x6, e1_, e2_, e3_, h⟩ := h
      refine mx_iald d_LBText_codeAt_17 (k := 100) rfl e1_ e2_ e3_ ?_
      refine mx_goto d_LBText_codeAt_18 ?_
      exact mx_ireturn d_LBText_codeAt_22 rfl rfl h
set_option maxRecDepth 100000 in
theorem wp_LBText_endOf_0 {l : Launch} {G : mx_G} {d : Nat} {hs : mx_H} {Q : Option Value → mx_H → Prop} (l0 : Nat) (l1 : Int32) (h : ((l1 < 0 → mx_Ok mx_S0 l G (d + 1) mm_LBText_endOf 21 [(0, .ref l0)] [] hs Q) ∧ (¬ (l1 < 0) → (∃ (x2 : Int32), mx_f hs l0 1 2 (.int x2) ∧ ((x2 ≤ l1 → mx_Ok mx_S0 l G (d + 1) mm_LBText_endOf 21 [(0, .ref l0)] [] hs Q) ∧ (¬ (x2 ≤ l1) → (∃ (a4 : Nat), mx_f hs l0 1 1 (.ref a4) ∧ (∃ (vs5 : List Value) (x6 : Int32), hs.1 a4 = some (100, vs5) ∧ ¬ l1 < 0 ∧ vs5[Int32.toNatClampNeg l1]? = some (.int x6) ∧ Q (some (.int x6)) hs)))))))) : mx_Ok mx_S0 l G (d + 1) mm_LBText_endOf 0 [(0, .ref l0), (1, .int l1)] [] hs Q := by
  refine mx_iload_n d_LBText_endOf_0 rfl 1 rfl ?_
  refine mx_if_lt d_LBText_endOf_1 (fun c9 => ?_) (fun c9 => ?_)
  · replace h := h.1 c9
    exact mx_sub [0] rfl h
  · replace h := h.2 c9
    refine mx_iload_n d_LBText_endOf_4 rfl 1 rfl ?_
    refine mx_aload_nR d_LBText_endOf_5 rfl 0 rfl ?_
    obtain ⟨x2, ⟨fs1, e1_, e2_⟩, h⟩ := h
    refine mx_get d_LBText_endOf_6 (ci := 1) (k := 2) (q := mx_cl0_1) rfl (Nat.le_of_ble_eq_true rfl) kw_93 e1_ e2_ ?_
    refine mx_icmp_ge d_LBText_endOf_9 (fun c9 => ?_) (fun c9 => ?_)
    · replace h := h.1 c9
      exact mx_sub [0] rfl h
    · replace h := h.2 c9
      refine mx_aload_nR d_LBText_endOf_12 rfl 0 rfl ?_
      obtain ⟨a4, ⟨fs3, e1_, e2_⟩, h⟩ := h
      refine mx_get d_LBText_endOf_13 (ci := 1) (k := 1) (q := mx_cl0_1) rfl (Nat.le_of_ble_eq_true rfl) kw_92 e1_ e2_ ?_
      refine mx_iload_n d_LBText_endOf_16 rfl 1 rfl ?_
      obtain ⟨vs5, x6, e1_, e2_, e3_, h⟩ := h
      refine mx_iald d_LBText_endOf_17 (k := 100) rfl e1_ e2_ e3_ ?_
      refine mx_goto d_LBText_endOf_18 ?_
      exact mx_ireturn d_LBText_endOf_25 rfl rfl h
set_option maxRecDepth 100000 in
theorem wp_LBText_endOf_21 {l : Launch} {G : mx_G} {d : Nat} {hs : mx_H} {Q : Option Value → mx_H → Prop} (l0 : Nat) (h : (∃ (x2 : Int32), mx_f hs l0 1 2 (.int x2) ∧ Q (some (.int x2)) hs)) : mx_Ok mx_S0 l G (d + 1) mm_LBText_endOf 21 [(0, .ref l0)] [] hs Q := by
  refine mx_aload_nR d_LBText_endOf_21 rfl 0 rfl ?_
  obtain ⟨x2, ⟨fs1, e1_, e2_⟩, h⟩ := h
  refine mx_get d_LBText_endOf_22 (ci := 1) (k := 2) (q := mx_cl0_1) rfl (Nat.le_of_ble_eq_true rfl) kw_93 e1_ e2_ ?_
  exact mx_ireturn d_LBText_endOf_25 rfl rfl h
set_option maxRecDepth 100000 in
theorem wp_LBText_read_0 {l : Launch} {G : mx_G} {d : Nat} {hs : mx_H} {Q : Option Value → mx_H → Prop} (l0 : Nat) (h : (∃ fs1 : List Value, hs.1 l0 = some (1, fs1) ∧ ∀ hs2 : mx_H, hs2 = mx_st hs l0 (1, fs1.set 3 (.int 0)) → ((∃ fs10 : List Value, hs2.1 l0 = some (1, fs10)) ∧ mx_C mx_S0 l G d mm_LBText_readExpression [.ref l0, .int 0, .int 1] hs2 (fun (r3 : Option Value) (hs4 : mx_H) => ∃ x5 : Int32, r3 = some (.int x5) ∧ ((¬ x5 = (-1) → (∃ (x7 : Int32), mx_f hs4 l0 1 2 (.int x7) ∧ ((x7 ≤ x5 → Q (some (.int 1)) hs4) ∧ (¬ (x7 ≤ x5) → (∃ fs8 : List Value, hs4.1 l0 = some (1, fs8) ∧ ∀ hs9 : mx_H, hs9 = mx_st hs4 l0 (1, fs8.set 4 (.int x5)) → Q (some (.int 0)) hs9))))) ∧ (¬ (¬ x5 = (-1)) → Q (some (.int 0)) hs4)))))) : mx_Ok mx_S0 l G (d + 1) mm_LBText_read 0 [(0, .ref l0)] [] hs Q := by
  refine mx_aload_nR d_LBText_read_0 rfl 0 rfl ?_
  refine mx_iconst (v := 0) d_LBText_read_1 (by decide) ?_
  obtain ⟨fs1, e1_, h⟩ := h
  refine mx_put d_LBText_read_2 (ci := 1) (k := 3) (q := mx_cl0_1) (ty := .int) rfl (Nat.le_of_ble_eq_true rfl) kw_97 rfl (by decide +kernel) rfl rfl (by omega) e1_ ?_
  obtain ⟨hs2, hg_⟩ : ∃ x_, x_ = mx_st hs l0 (1, fs1.set 3 (.int 0)) := ⟨_, rfl⟩
  replace h := h hs2 hg_
  rw [← hg_]
  clear hg_
  refine mx_aload_nR d_LBText_read_5 rfl 0 rfl ?_
  refine mx_iconst (v := 0) d_LBText_read_6 (by decide) ?_
  refine mx_iconst (v := 1) d_LBText_read_7 (by decide) ?_
  obtain ⟨⟨fs10, e1_⟩, h⟩ := h
  refine mx_invV (Y := mm_LBText_readExpression) (As := [.int 0, .int 1]) (rest := []) d_LBText_read_8.1 ok_LBText_readExpression kw_99 kw_100 kw_101 rfl rfl (Nat.le_of_ble_eq_true rfl) (Nat.le_of_ble_eq_true rfl) e1_ (q := mx_cl0_1) rfl rfl h (fun r3 hs4 h => ?_)
  obtain ⟨x5, e9_, h⟩ := h
  subst e9_
  show mx_Ok mx_S0 l G (d + 1) mm_LBText_read 11 [(0, .ref l0)] [.int x5] hs4 Q
  refine mx_istore_n (lv2 := [(1, .int x5), (0, .ref l0)]) d_LBText_read_11 rfl (Nat.le_of_ble_eq_true rfl) rfl ?_
  refine mx_iload_n d_LBText_read_12 rfl 0 rfl ?_
  refine mx_iconst (v := -1) d_LBText_read_13 (by decide) ?_
  refine mx_icmp_ne d_LBText_read_14 (fun c9 => ?_) (fun c9 => ?_)
  · replace h := h.1 c9
    refine mx_iload_n d_LBText_read_19 rfl 0 rfl ?_
    refine mx_aload_nR d_LBText_read_20 rfl 1 rfl ?_
    obtain ⟨x7, ⟨fs6, e1_, e2_⟩, h⟩ := h
    refine mx_get d_LBText_read_21 (ci := 1) (k := 2) (q := mx_cl0_1) rfl (Nat.le_of_ble_eq_true rfl) kw_93 e1_ e2_ ?_
    refine mx_icmp_ge d_LBText_read_24 (fun c9 => ?_) (fun c9 => ?_)
    · replace h := h.1 c9
      refine mx_iconst (v := 1) d_LBText_read_34 (by decide) ?_
      exact mx_ireturn d_LBText_read_35 rfl (mx_nz (Or.inr rfl)) h
    · replace h := h.2 c9
      refine mx_aload_nR d_LBText_read_27 rfl 1 rfl ?_
      refine mx_iload_n d_LBText_read_28 rfl 0 rfl ?_
      obtain ⟨fs8, e1_, h⟩ := h
      refine mx_put d_LBText_read_29 (ci := 1) (k := 4) (q := mx_cl0_1) (ty := .int) rfl (Nat.le_of_ble_eq_true rfl) kw_98 rfl (by decide +kernel) rfl rfl (by omega) e1_ ?_
      obtain ⟨hs9, hg_⟩ : ∃ x_, x_ = mx_st hs4 l0 (1, fs8.set 4 (.int x5)) := ⟨_, rfl⟩
      replace h := h hs9 hg_
      rw [← hg_]
      clear hg_
      refine mx_iconst (v := 0) d_LBText_read_32 (by decide) ?_
      exact mx_ireturn d_LBText_read_33 rfl (mx_nz (Or.inl rfl)) h
  · replace h := h.2 c9
    refine mx_iconst (v := 0) d_LBText_read_17 (by decide) ?_
    exact mx_ireturn d_LBText_read_18 rfl (mx_nz (Or.inl rfl)) h
set_option maxRecDepth 100000 in
theorem wp_LBText_readExpression_0 {l : Launch} {G : mx_G} {d : Nat} {hs : mx_H} {Q : Option Value → mx_H → Prop} (l0 : Nat) (l1 : Int32) (l2 : Int32) (h : (∃ (x2 : Int32), mx_f hs l0 1 2 (.int x2) ∧ ((x2 ≤ l1 → mx_Ok mx_S0 l G (d + 1) mm_LBText_readExpression 14 [(0, .ref l0), (1, .int l1)] [] hs Q) ∧ (¬ (x2 ≤ l1) → ((l2 ≤ 8 → ((∃ fs14 : List Value, hs.1 l0 = some (1, fs14)) ∧ mx_C mx_S0 l G d mm_LBText_readKind [.ref l0, .int l1, .int l2] hs (fun (r3 : Option Value) (hs4 : mx_H) => ∃ x5 : Int32, r3 = some (.int x5) ∧ (∃ (a7 : Nat), mx_f hs4 l0 1 1 (.ref a7) ∧ (∃ vs8 : List Value, hs4.1 a7 = some (100, vs8) ∧ ¬ l1 < 0 ∧ Int32.toNatClampNeg l1 < vs8.length ∧ ∀ hs9 : mx_H, hs9 = mx_st hs4 a7 (100, vs8.set (Int32.toNatClampNeg l1) (.int x5)) → (∃ (x11 : Int32), mx_f hs9 l0 1 3 (.int x11) ∧ (∃ fs12 : List Value, hs9.1 l0 = some (1, fs12) ∧ ∀ hs13 : mx_H, hs13 = mx_st hs9 l0 (1, fs12.set 3 (.int (if x11 < l2 then l2 else x11))) → Q (some (.int x5)) hs13))))))) ∧ (¬ (l2 ≤ 8) → mx_Ok mx_S0 l G (d + 1) mm_LBText_readExpression 14 [(0, .ref l0), (1, .int l1)] [] hs Q)))))) : mx_Ok mx_S0 l G (d + 1) mm_LBText_readExpression 0 [(0, .ref l0), (1, .int l1), (2, .int l2)] [] hs Q := by
  refine mx_iload_n d_LBText_readExpression_0 rfl 1 rfl ?_
  refine mx_aload_nR d_LBText_readExpression_1 rfl 0 rfl ?_
  obtain ⟨x2, ⟨fs1, e1_, e2_⟩, h⟩ := h
  refine mx_get d_LBText_readExpression_2 (ci := 1) (k := 2) (q := mx_cl0_1) rfl (Nat.le_of_ble_eq_true rfl) kw_93 e1_ e2_ ?_
  refine mx_icmp_ge d_LBText_readExpression_5 (fun c9 => ?_) (fun c9 => ?_)
  · replace h := h.1 c9
    exact mx_sub [0, 1] rfl h
  · replace h := h.2 c9
    refine mx_iload_n d_LBText_readExpression_8 rfl 2 rfl ?_
    refine mx_bipush (v := 8) d_LBText_readExpression_9 (by decide) ?_
    refine mx_icmp_le d_LBText_readExpression_11 (fun c9 => ?_) (fun c9 => ?_)
    · replace h := h.1 c9
      refine mx_aload_nR d_LBText_readExpression_20 rfl 0 rfl ?_
      refine mx_iload_n d_LBText_readExpression_21 rfl 1 rfl ?_
      refine mx_iload_n d_LBText_readExpression_22 rfl 2 rfl ?_
      obtain ⟨⟨fs14, e1_⟩, h⟩ := h
      refine mx_invV (Y := mm_LBText_readKind) (As := [.int l1, .int l2]) (rest := []) d_LBText_readExpression_23.1 ok_LBText_readKind kw_103 kw_104 kw_105 rfl rfl (Nat.le_of_ble_eq_true rfl) (Nat.le_of_ble_eq_true rfl) e1_ (q := mx_cl0_1) rfl rfl h (fun r3 hs4 h => ?_)
      obtain ⟨x5, e9_, h⟩ := h
      subst e9_
      show mx_Ok mx_S0 l G (d + 1) mm_LBText_readExpression 26 [(0, .ref l0), (1, .int l1), (2, .int l2)] [.int x5] hs4 Q
      refine mx_istore_n (lv2 := [(3, .int x5), (0, .ref l0), (1, .int l1), (2, .int l2)]) d_LBText_readExpression_26 rfl (Nat.le_of_ble_eq_true rfl) rfl ?_
      refine mx_aload_nR d_LBText_readExpression_27 rfl 1 rfl ?_
      obtain ⟨a7, ⟨fs6, e1_, e2_⟩, h⟩ := h
      refine mx_get d_LBText_readExpression_28 (ci := 1) (k := 1) (q := mx_cl0_1) rfl (Nat.le_of_ble_eq_true rfl) kw_92 e1_ e2_ ?_
      refine mx_iload_n d_LBText_readExpression_31 rfl 2 rfl ?_
      refine mx_iload_n d_LBText_readExpression_32 rfl 0 rfl ?_
      obtain ⟨vs8, e1_, e2_, e3_, h⟩ := h
      refine mx_iast d_LBText_readExpression_33 (k := 100) rfl (by decide) (by omega) e1_ e2_ e3_ ?_
      obtain ⟨hs9, hg_⟩ : ∃ x_, x_ = mx_st hs4 a7 (100, vs8.set (Int32.toNatClampNeg l1) (.int x5)) := ⟨_, rfl⟩
      replace h := h hs9 hg_
      rw [← hg_]
      clear hg_
      refine mx_aload_nR d_LBText_readExpression_34 rfl 1 rfl ?_
      refine mx_aload_nR d_LBText_readExpression_35 rfl 1 rfl ?_
      obtain ⟨x11, ⟨fs10, e1_, e2_⟩, h⟩ := h
      refine mx_get d_LBText_readExpression_36 (ci := 1) (k := 3) (q := mx_cl0_1) rfl (Nat.le_of_ble_eq_true rfl) kw_97 e1_ e2_ ?_
      refine mx_iload_n d_LBText_readExpression_39 rfl 3 rfl ?_
      refine mx_mmax d_LBText_readExpression_40 kw_102 k_mmax1 k_mmax2 k_mmax3 (Nat.le_of_ble_eq_true rfl) ?_
      obtain ⟨fs12, e1_, h⟩ := h
      refine mx_put d_LBText_readExpression_43 (ci := 1) (k := 3) (q := mx_cl0_1) (ty := .int) rfl (Nat.le_of_ble_eq_true rfl) kw_97 rfl (by decide +kernel) rfl rfl (by omega) e1_ ?_
      obtain ⟨hs13, hg_⟩ : ∃ x_, x_ = mx_st hs9 l0 (1, fs12.set 3 (.int (if x11 < l2 then l2 else x11))) := ⟨_, rfl⟩
      replace h := h hs13 hg_
      rw [← hg_]
      clear hg_
      refine mx_iload_n d_LBText_readExpression_46 rfl 0 rfl ?_
      exact mx_ireturn d_LBText_readExpression_47 rfl rfl h
    · replace h := h.2 c9
      exact mx_sub [0, 1] rfl h
set_option maxRecDepth 100000 in
theorem wp_LBText_readExpression_14 {l : Launch} {G : mx_G} {d : Nat} {hs : mx_H} {Q : Option Value → mx_H → Prop} (l0 : Nat) (l1 : Int32) (h : ((∃ fs4 : List Value, hs.1 l0 = some (1, fs4)) ∧ mx_C mx_S0 l G d mm_LBText_badAt [.ref l0, .int l1] hs (fun (r1 : Option Value) (hs2 : mx_H) => ∃ x3 : Int32, r1 = some (.int x3) ∧ Q (some (.int x3)) hs2))) : mx_Ok mx_S0 l G (d + 1) mm_LBText_readExpression 14 [(0, .ref l0), (1, .int l1)] [] hs Q := by
  refine mx_aload_nR d_LBText_readExpression_14 rfl 0 rfl ?_
  refine mx_iload_n d_LBText_readExpression_15 rfl 1 rfl ?_
  obtain ⟨⟨fs4, e1_⟩, h⟩ := h
  refine mx_invV (Y := mm_LBText_badAt) (As := [.int l1]) (rest := []) d_LBText_readExpression_16.1 ok_LBText_badAt kw_106 kw_107 kw_108 rfl rfl (Nat.le_of_ble_eq_true rfl) (Nat.le_of_ble_eq_true rfl) e1_ (q := mx_cl0_1) rfl rfl h (fun r1 hs2 h => ?_)
  obtain ⟨x3, e9_, h⟩ := h
  subst e9_
  show mx_Ok mx_S0 l G (d + 1) mm_LBText_readExpression 19 [(0, .ref l0), (1, .int l1)] [.int x3] hs2 Q
  exact mx_ireturn d_LBText_readExpression_19 rfl rfl h
set_option maxRecDepth 100000 in
theorem wp_LBText_readKind_0 {l : Launch} {G : mx_G} {d : Nat} {hs : mx_H} {Q : Option Value → mx_H → Prop} (l0 : Nat) (l1 : Int32) (l2 : Int32) (h : ((∃ fs17 : List Value, hs.1 l0 = some (1, fs17)) ∧ mx_C mx_S0 l G d mm_LBText_codeAt [.ref l0, .int l1] hs (fun (r1 : Option Value) (hs2 : mx_H) => ∃ x3 : Int32, r1 = some (.int x3) ∧ mx_C mx_S0 l G d mm_LB_isDigit [.int x3] hs2 (fun (r4 : Option Value) (hs5 : mx_H) => ∃ x6 : Int32, r4 = some (.int x6) ∧ ((¬ x6 = 0 → mx_Ok mx_S0 l G (d + 1) mm_LBText_readKind 20 [(1, .int l1)] [] hs5 Q) ∧ (¬ (¬ x6 = 0) → mx_C mx_S0 l G d mm_LB_isLetter [.int x3] hs5 (fun (r7 : Option Value) (hs8 : mx_H) => ∃ x9 : Int32, r7 = some (.int x9) ∧ ((x9 = 0 → ((¬ x3 = 68 → mx_C mx_S0 l G d mm_LB_partsAfter [.int x3] hs8 (fun (r10 : Option Value) (hs11 : mx_H) => ∃ x12 : Int32, r10 = some (.int x12) ∧ ((x12 = 0 → mx_Ok mx_S0 l G (d + 1) mm_LBText_readKind 54 [(0, .ref l0), (1, .int l1)] [] hs11 Q) ∧ (¬ (x12 = 0) → ((l2 < 8 → mx_Ok mx_S0 l G (d + 1) mm_LBText_readKind 68 [(0, .ref l0), (2, .int l2), (4, .int x12), (5, .int (l1 + 1)), (6, .int 0)] [] hs11 Q) ∧ (¬ (l2 < 8) → mx_Ok mx_S0 l G (d + 1) mm_LBText_readKind 54 [(0, .ref l0), (1, .int l1)] [] hs11 Q)))))) ∧ (¬ (¬ x3 = 68) → ((∃ fs16 : List Value, hs8.1 l0 = some (1, fs16)) ∧ mx_C mx_S0 l G d mm_LBText_readPlan [.ref l0, .int l1, .int l2] hs8 (fun (r13 : Option Value) (hs14 : mx_H) => ∃ x15 : Int32, r13 = some (.int x15) ∧ Q (some (.int x15)) hs14))))) ∧ (¬ (x9 = 0) → mx_Ok mx_S0 l G (d + 1) mm_LBText_readKind 20 [(1, .int l1)] [] hs8 Q))))))))) : mx_Ok mx_S0 l G (d + 1) mm_LBText_readKind 0 [(0, .ref l0), (1, .int l1), (2, .int l2)] [] hs Q := by
  refine mx_aload_nR d_LBText_readKind_0 rfl 0 rfl ?_
  refine mx_iload_n d_LBText_readKind_1 rfl 1 rfl ?_
  obtain ⟨⟨fs17, e1_⟩, h⟩ := h
  refine mx_invV (Y := mm_LBText_codeAt) (As := [.int l1]) (rest := []) d_LBText_readKind_2.1 ok_LBText_codeAt kw_115 kw_116 kw_117 rfl rfl (Nat.le_of_ble_eq_true rfl) (Nat.le_of_ble_eq_true rfl) e1_ (q := mx_cl0_1) rfl rfl h (fun r1 hs2 h => ?_)
  obtain ⟨x3, e9_, h⟩ := h
  subst e9_
  show mx_Ok mx_S0 l G (d + 1) mm_LBText_readKind 5 [(0, .ref l0), (1, .int l1), (2, .int l2)] [.int x3] hs2 Q
  refine mx_istore_n (lv2 := [(3, .int x3), (0, .ref l0), (1, .int l1), (2, .int l2)]) d_LBText_readKind_5 rfl (Nat.le_of_ble_eq_true rfl) rfl ?_
  refine mx_iload_n d_LBText_readKind_6 rfl 0 rfl ?_
  refine mx_invSN (Y := mm_LB_isDigit) (As := [.int x3]) (rest := []) d_LBText_readKind_7.1 ok_LB_isDigit kn_2 kw_114 rfl rfl (Nat.le_of_ble_eq_true rfl) (Nat.le_of_ble_eq_true rfl) h (fun r4 hs5 h => ?_)
  obtain ⟨x6, e9_, h⟩ := h
  subst e9_
  show mx_Ok mx_S0 l G (d + 1) mm_LBText_readKind 10 [(3, .int x3), (0, .ref l0), (1, .int l1), (2, .int l2)] [.int x6] hs5 Q
  refine mx_if_ne d_LBText_readKind_10 (fun c9 => ?_) (fun c9 => ?_)
  · replace h := h.1 c9
    exact mx_sub [2] rfl h
  · replace h := h.2 c9
    refine mx_iload_n d_LBText_readKind_13 rfl 0 rfl ?_
    refine mx_invSN (Y := mm_LB_isLetter) (As := [.int x3]) (rest := []) d_LBText_readKind_14.1 ok_LB_isLetter kn_1 kw_113 rfl rfl (Nat.le_of_ble_eq_true rfl) (Nat.le_of_ble_eq_true rfl) h (fun r7 hs8 h => ?_)
    obtain ⟨x9, e9_, h⟩ := h
    subst e9_
    show mx_Ok mx_S0 l G (d + 1) mm_LBText_readKind 17 [(3, .int x3), (0, .ref l0), (1, .int l1), (2, .int l2)] [.int x9] hs8 Q
    refine mx_if_eq d_LBText_readKind_17 (fun c9 => ?_) (fun c9 => ?_)
    · replace h := h.1 c9
      refine mx_iload_n d_LBText_readKind_24 rfl 0 rfl ?_
      refine mx_bipush (v := 68) d_LBText_readKind_25 (by decide) ?_
      refine mx_icmp_ne d_LBText_readKind_27 (fun c9 => ?_) (fun c9 => ?_)
      · replace h := h.1 c9
        refine mx_iload_n d_LBText_readKind_37 rfl 0 rfl ?_
        refine mx_invSN (Y := mm_LB_partsAfter) (As := [.int x3]) (rest := []) d_LBText_readKind_38.1 ok_LB_partsAfter kn_0 kw_109 rfl rfl (Nat.le_of_ble_eq_true rfl) (Nat.le_of_ble_eq_true rfl) h (fun r10 hs11 h => ?_)
        obtain ⟨x12, e9_, h⟩ := h
        subst e9_
        show mx_Ok mx_S0 l G (d + 1) mm_LBText_readKind 41 [(3, .int x3), (0, .ref l0), (1, .int l1), (2, .int l2)] [.int x12] hs11 Q
        refine mx_istore (lv2 := [(4, .int x12), (3, .int x3), (0, .ref l0), (1, .int l1), (2, .int l2)]) d_LBText_readKind_41 (Nat.le_of_ble_eq_true rfl) rfl ?_
        refine mx_iload d_LBText_readKind_43 0 rfl ?_
        refine mx_if_eq d_LBText_readKind_45 (fun c9 => ?_) (fun c9 => ?_)
        · replace h := h.1 c9
          exact mx_sub [2, 3] rfl h
        · replace h := h.2 c9
          refine mx_iload_n d_LBText_readKind_48 rfl 4 rfl ?_
          refine mx_bipush (v := 8) d_LBText_readKind_49 (by decide) ?_
          refine mx_icmp_lt d_LBText_readKind_51 (fun c9 => ?_) (fun c9 => ?_)
          · replace h := h.1 c9
            refine mx_iload_n d_LBText_readKind_60 rfl 3 rfl ?_
            refine mx_iconst (v := 1) d_LBText_readKind_61 (by decide) ?_
            refine mx_iadd d_LBText_readKind_62 ?_
            refine mx_istore (lv2 := [(5, .int (l1 + 1)), (4, .int x12), (3, .int x3), (0, .ref l0), (1, .int l1), (2, .int l2)]) d_LBText_readKind_63 (Nat.le_of_ble_eq_true rfl) rfl ?_
            refine mx_iconst (v := 0) d_LBText_readKind_65 (by decide) ?_
            refine mx_istore (lv2 := [(6, .int 0), (5, .int (l1 + 1)), (4, .int x12), (3, .int x3), (0, .ref l0), (1, .int l1), (2, .int l2)]) d_LBText_readKind_66 (Nat.le_of_ble_eq_true rfl) rfl ?_
            exact mx_sub [4, 6, 2, 1, 0] rfl h
          · replace h := h.2 c9
            exact mx_sub [2, 3] rfl h
      · replace h := h.2 c9
        refine mx_aload_nR d_LBText_readKind_30 rfl 1 rfl ?_
        refine mx_iload_n d_LBText_readKind_31 rfl 2 rfl ?_
        refine mx_iload_n d_LBText_readKind_32 rfl 3 rfl ?_
        obtain ⟨⟨fs16, e1_⟩, h⟩ := h
        refine mx_invV (Y := mm_LBText_readPlan) (As := [.int l1, .int l2]) (rest := []) d_LBText_readKind_33.1 ok_LBText_readPlan kw_110 kw_111 kw_112 rfl rfl (Nat.le_of_ble_eq_true rfl) (Nat.le_of_ble_eq_true rfl) e1_ (q := mx_cl0_1) rfl rfl h (fun r13 hs14 h => ?_)
        obtain ⟨x15, e9_, h⟩ := h
        subst e9_
        show mx_Ok mx_S0 l G (d + 1) mm_LBText_readKind 36 [(3, .int x3), (0, .ref l0), (1, .int l1), (2, .int l2)] [.int x15] hs14 Q
        exact mx_ireturn d_LBText_readKind_36 rfl rfl h
    · replace h := h.2 c9
      exact mx_sub [2] rfl h
set_option maxRecDepth 100000 in
theorem wp_LBText_readKind_20 {l : Launch} {G : mx_G} {d : Nat} {hs : mx_H} {Q : Option Value → mx_H → Prop} (l1 : Int32) (h : Q (some (.int (l1 + 1))) hs) : mx_Ok mx_S0 l G (d + 1) mm_LBText_readKind 20 [(1, .int l1)] [] hs Q := by
  refine mx_iload_n d_LBText_readKind_20 rfl 0 rfl ?_
  refine mx_iconst (v := 1) d_LBText_readKind_21 (by decide) ?_
  refine mx_iadd d_LBText_readKind_22 ?_
  exact mx_ireturn d_LBText_readKind_23 rfl rfl h
set_option maxRecDepth 100000 in
theorem wp_LBText_readKind_54 {l : Launch} {G : mx_G} {d : Nat} {hs : mx_H} {Q : Option Value → mx_H → Prop} (l0 : Nat) (l1 : Int32) (h : ((∃ fs4 : List Value, hs.1 l0 = some (1, fs4)) ∧ mx_C mx_S0 l G d mm_LBText_badAt [.ref l0, .int l1] hs (fun (r1 : Option Value) (hs2 : mx_H) => ∃ x3 : Int32, r1 = some (.int x3) ∧ Q (some (.int x3)) hs2))) : mx_Ok mx_S0 l G (d + 1) mm_LBText_readKind 54 [(0, .ref l0), (1, .int l1)] [] hs Q := by
  refine mx_aload_nR d_LBText_readKind_54 rfl 0 rfl ?_
  refine mx_iload_n d_LBText_readKind_55 rfl 1 rfl ?_
  obtain ⟨⟨fs4, e1_⟩, h⟩ := h
  refine mx_invV (Y := mm_LBText_badAt) (As := [.int l1]) (rest := []) d_LBText_readKind_56.1 ok_LBText_badAt kw_106 kw_107 kw_108 rfl rfl (Nat.le_of_ble_eq_true rfl) (Nat.le_of_ble_eq_true rfl) e1_ (q := mx_cl0_1) rfl rfl h (fun r1 hs2 h => ?_)
  obtain ⟨x3, e9_, h⟩ := h
  subst e9_
  show mx_Ok mx_S0 l G (d + 1) mm_LBText_readKind 59 [(0, .ref l0), (1, .int l1)] [.int x3] hs2 Q
  exact mx_ireturn d_LBText_readKind_59 rfl rfl h
set_option maxRecDepth 100000 in
theorem wp_LBText_readKind_68 {l : Launch} {G : mx_G} {d : Nat} {hs : mx_H} {Q : Option Value → mx_H → Prop} (l0 : Nat) (l2 : Int32) (l4 : Int32) (l5 : Int32) (l6 : Int32) (h : ((l4 ≤ l6 → Q (some (.int l5)) hs) ∧ (¬ (l4 ≤ l6) → ((l5 = (-1) → Q (some (.int l5)) hs) ∧ (¬ (l5 = (-1)) → ((∃ fs4 : List Value, hs.1 l0 = some (1, fs4)) ∧ mx_C mx_S0 l G d mm_LBText_readExpression [.ref l0, .int l5, .int (l2 + 1)] hs (fun (r1 : Option Value) (hs2 : mx_H) => ∃ x3 : Int32, r1 = some (.int x3) ∧ mx_Ok mx_S0 l G (d + 1) mm_LBText_readKind 68 [(0, .ref l0), (2, .int l2), (4, .int l4), (5, .int x3), (6, .int (l6 + 1))] [] hs2 Q))))))) : mx_Ok mx_S0 l G (d + 1) mm_LBText_readKind 68 [(0, .ref l0), (2, .int l2), (4, .int l4), (5, .int l5), (6, .int l6)] [] hs Q := by
  refine mx_iload d_LBText_readKind_68 4 rfl ?_
  refine mx_iload d_LBText_readKind_70 2 rfl ?_
  refine mx_icmp_ge d_LBText_readKind_72 (fun c9 => ?_) (fun c9 => ?_)
  · replace h := h.1 c9
    refine mx_iload d_LBText_readKind_98 3 rfl ?_
    exact mx_ireturn d_LBText_readKind_100 rfl rfl h
  · replace h := h.2 c9
    refine mx_iload d_LBText_readKind_75 3 rfl ?_
    refine mx_iconst (v := -1) d_LBText_readKind_77 (by decide) ?_
    refine mx_icmp_eq d_LBText_readKind_78 (fun c9 => ?_) (fun c9 => ?_)
    · replace h := h.1 c9
      refine mx_iload d_LBText_readKind_98 3 rfl ?_
      exact mx_ireturn d_LBText_readKind_100 rfl rfl h
    · replace h := h.2 c9
      refine mx_aload_nR d_LBText_readKind_81 rfl 0 rfl ?_
      refine mx_iload d_LBText_readKind_82 3 rfl ?_
      refine mx_iload_n d_LBText_readKind_84 rfl 1 rfl ?_
      refine mx_iconst (v := 1) d_LBText_readKind_85 (by decide) ?_
      refine mx_iadd d_LBText_readKind_86 ?_
      obtain ⟨⟨fs4, e1_⟩, h⟩ := h
      refine mx_invV (Y := mm_LBText_readExpression) (As := [.int l5, .int (l2 + 1)]) (rest := []) d_LBText_readKind_87.1 ok_LBText_readExpression kw_99 kw_100 kw_101 rfl rfl (Nat.le_of_ble_eq_true rfl) (Nat.le_of_ble_eq_true rfl) e1_ (q := mx_cl0_1) rfl rfl h (fun r1 hs2 h => ?_)
      obtain ⟨x3, e9_, h⟩ := h
      subst e9_
      show mx_Ok mx_S0 l G (d + 1) mm_LBText_readKind 90 [(0, .ref l0), (2, .int l2), (4, .int l4), (5, .int l5), (6, .int l6)] [.int x3] hs2 Q
      refine mx_istore (lv2 := [(5, .int x3), (0, .ref l0), (2, .int l2), (4, .int l4), (6, .int l6)]) d_LBText_readKind_90 (Nat.le_of_ble_eq_true rfl) rfl ?_
      refine mx_iinc (v := l6 + 1) (lv2 := [(6, .int (l6 + 1)), (5, .int x3), (0, .ref l0), (2, .int l2), (4, .int l4)]) d_LBText_readKind_92 4 rfl (by rfl) (Nat.le_of_ble_eq_true rfl) rfl ?_
      refine mx_goto d_LBText_readKind_95 ?_
      exact mx_sub [2, 3, 4, 1, 0] rfl h
set_option maxRecDepth 100000 in
theorem wp_LBText_readPlan_0 {l : Launch} {G : mx_G} {d : Nat} {hs : mx_H} {Q : Option Value → mx_H → Prop} (l0 : Nat) (l1 : Int32) (l2 : Int32) (h : ((∃ fs19 : List Value, hs.1 l0 = some (1, fs19)) ∧ mx_C mx_S0 l G d mm_LBText_codeAt [.ref l0, .int (l1 + 1)] hs (fun (r1 : Option Value) (hs2 : mx_H) => ∃ x3 : Int32, r1 = some (.int x3) ∧ mx_C mx_S0 l G d mm_LB_isDigit [.int x3] hs2 (fun (r4 : Option Value) (hs5 : mx_H) => ∃ x6 : Int32, r4 = some (.int x6) ∧ ((¬ x6 = 0 → ((∃ fs14 : List Value, hs5.1 l0 = some (1, fs14)) ∧ mx_C mx_S0 l G d mm_LBText_codeAt [.ref l0, .int (l1 + 2)] hs5 (fun (r7 : Option Value) (hs8 : mx_H) => ∃ x9 : Int32, r7 = some (.int x9) ∧ ((x9 = 40 → mx_Ok mx_S0 l G (d + 1) mm_LBText_readPlan 48 [(0, .ref l0), (2, .int l2), (3, .int (l1 + 3)), (4, .int 0)] [] hs8 Q) ∧ (¬ (x9 = 40) → ((∃ fs13 : List Value, hs8.1 l0 = some (1, fs13)) ∧ mx_C mx_S0 l G d mm_LBText_badAt [.ref l0, .int (l1 + 2)] hs8 (fun (r10 : Option Value) (hs11 : mx_H) => ∃ x12 : Int32, r10 = some (.int x12) ∧ Q (some (.int x12)) hs11))))))) ∧ (¬ (¬ x6 = 0) → ((∃ fs18 : List Value, hs5.1 l0 = some (1, fs18)) ∧ mx_C mx_S0 l G d mm_LBText_badAt [.ref l0, .int (l1 + 1)] hs5 (fun (r15 : Option Value) (hs16 : mx_H) => ∃ x17 : Int32, r15 = some (.int x17) ∧ Q (some (.int x17)) hs16)))))))) : mx_Ok mx_S0 l G (d + 1) mm_LBText_readPlan 0 [(0, .ref l0), (1, .int l1), (2, .int l2)] [] hs Q := by
  refine mx_aload_nR d_LBText_readPlan_0 rfl 0 rfl ?_
  refine mx_iload_n d_LBText_readPlan_1 rfl 1 rfl ?_
  refine mx_iconst (v := 1) d_LBText_readPlan_2 (by decide) ?_
  refine mx_iadd d_LBText_readPlan_3 ?_
  obtain ⟨⟨fs19, e1_⟩, h⟩ := h
  refine mx_invV (Y := mm_LBText_codeAt) (As := [.int (l1 + 1)]) (rest := []) d_LBText_readPlan_4.1 ok_LBText_codeAt kw_115 kw_116 kw_117 rfl rfl (Nat.le_of_ble_eq_true rfl) (Nat.le_of_ble_eq_true rfl) e1_ (q := mx_cl0_1) rfl rfl h (fun r1 hs2 h => ?_)
  obtain ⟨x3, e9_, h⟩ := h
  subst e9_
  show mx_Ok mx_S0 l G (d + 1) mm_LBText_readPlan 7 [(0, .ref l0), (1, .int l1), (2, .int l2)] [.int x3] hs2 Q
  refine mx_invSN (Y := mm_LB_isDigit) (As := [.int x3]) (rest := []) d_LBText_readPlan_7.1 ok_LB_isDigit kn_2 kw_114 rfl rfl (Nat.le_of_ble_eq_true rfl) (Nat.le_of_ble_eq_true rfl) h (fun r4 hs5 h => ?_)
  obtain ⟨x6, e9_, h⟩ := h
  subst e9_
  show mx_Ok mx_S0 l G (d + 1) mm_LBText_readPlan 10 [(0, .ref l0), (1, .int l1), (2, .int l2)] [.int x6] hs5 Q
  refine mx_if_ne d_LBText_readPlan_10 (fun c9 => ?_) (fun c9 => ?_)
  · replace h := h.1 c9
    refine mx_aload_nR d_LBText_readPlan_21 rfl 0 rfl ?_
    refine mx_iload_n d_LBText_readPlan_22 rfl 1 rfl ?_
    refine mx_iconst (v := 2) d_LBText_readPlan_23 (by decide) ?_
    refine mx_iadd d_LBText_readPlan_24 ?_
    obtain ⟨⟨fs14, e1_⟩, h⟩ := h
    refine mx_invV (Y := mm_LBText_codeAt) (As := [.int (l1 + 2)]) (rest := []) d_LBText_readPlan_25.1 ok_LBText_codeAt kw_115 kw_116 kw_117 rfl rfl (Nat.le_of_ble_eq_true rfl) (Nat.le_of_ble_eq_true rfl) e1_ (q := mx_cl0_1) rfl rfl h (fun r7 hs8 h => ?_)
    obtain ⟨x9, e9_, h⟩ := h
    subst e9_
    show mx_Ok mx_S0 l G (d + 1) mm_LBText_readPlan 28 [(0, .ref l0), (1, .int l1), (2, .int l2)] [.int x9] hs8 Q
    refine mx_bipush (v := 40) d_LBText_readPlan_28 (by decide) ?_
    refine mx_icmp_eq d_LBText_readPlan_30 (fun c9 => ?_) (fun c9 => ?_)
    · replace h := h.1 c9
      refine mx_iload_n d_LBText_readPlan_41 rfl 1 rfl ?_
      refine mx_iconst (v := 3) d_LBText_readPlan_42 (by decide) ?_
      refine mx_iadd d_LBText_readPlan_43 ?_
      refine mx_istore_n (lv2 := [(3, .int (l1 + 3)), (0, .ref l0), (1, .int l1), (2, .int l2)]) d_LBText_readPlan_44 rfl (Nat.le_of_ble_eq_true rfl) rfl ?_
      refine mx_iconst (v := 0) d_LBText_readPlan_45 (by decide) ?_
      refine mx_istore (lv2 := [(4, .int 0), (3, .int (l1 + 3)), (0, .ref l0), (1, .int l1), (2, .int l2)]) d_LBText_readPlan_46 (Nat.le_of_ble_eq_true rfl) rfl ?_
      exact mx_sub [2, 4, 1, 0] rfl h
    · replace h := h.2 c9
      refine mx_aload_nR d_LBText_readPlan_33 rfl 0 rfl ?_
      refine mx_iload_n d_LBText_readPlan_34 rfl 1 rfl ?_
      refine mx_iconst (v := 2) d_LBText_readPlan_35 (by decide) ?_
      refine mx_iadd d_LBText_readPlan_36 ?_
      obtain ⟨⟨fs13, e1_⟩, h⟩ := h
      refine mx_invV (Y := mm_LBText_badAt) (As := [.int (l1 + 2)]) (rest := []) d_LBText_readPlan_37.1 ok_LBText_badAt kw_106 kw_107 kw_108 rfl rfl (Nat.le_of_ble_eq_true rfl) (Nat.le_of_ble_eq_true rfl) e1_ (q := mx_cl0_1) rfl rfl h (fun r10 hs11 h => ?_)
      obtain ⟨x12, e9_, h⟩ := h
      subst e9_
      show mx_Ok mx_S0 l G (d + 1) mm_LBText_readPlan 40 [(0, .ref l0), (1, .int l1), (2, .int l2)] [.int x12] hs11 Q
      exact mx_ireturn d_LBText_readPlan_40 rfl rfl h
  · replace h := h.2 c9
    refine mx_aload_nR d_LBText_readPlan_13 rfl 0 rfl ?_
    refine mx_iload_n d_LBText_readPlan_14 rfl 1 rfl ?_
    refine mx_iconst (v := 1) d_LBText_readPlan_15 (by decide) ?_
    refine mx_iadd d_LBText_readPlan_16 ?_
    obtain ⟨⟨fs18, e1_⟩, h⟩ := h
    refine mx_invV (Y := mm_LBText_badAt) (As := [.int (l1 + 1)]) (rest := []) d_LBText_readPlan_17.1 ok_LBText_badAt kw_106 kw_107 kw_108 rfl rfl (Nat.le_of_ble_eq_true rfl) (Nat.le_of_ble_eq_true rfl) e1_ (q := mx_cl0_1) rfl rfl h (fun r15 hs16 h => ?_)
    obtain ⟨x17, e9_, h⟩ := h
    subst e9_
    show mx_Ok mx_S0 l G (d + 1) mm_LBText_readPlan 20 [(0, .ref l0), (1, .int l1), (2, .int l2)] [.int x17] hs16 Q
    exact mx_ireturn d_LBText_readPlan_20 rfl rfl h
set_option maxRecDepth 100000 in
theorem wp_LBText_readPlan_48 {l : Launch} {G : mx_G} {d : Nat} {hs : mx_H} {Q : Option Value → mx_H → Prop} (l0 : Nat) (l2 : Int32) (l3 : Int32) (l4 : Int32) (h : ((4 ≤ l4 → mx_Ok mx_S0 l G (d + 1) mm_LBText_readPlan 86 [(0, .ref l0), (3, .int l3)] [] hs Q) ∧ (¬ (4 ≤ l4) → ((∃ fs8 : List Value, hs.1 l0 = some (1, fs8)) ∧ mx_C mx_S0 l G d mm_LBText_codeAt [.ref l0, .int l3] hs (fun (r1 : Option Value) (hs2 : mx_H) => ∃ x3 : Int32, r1 = some (.int x3) ∧ ((x3 = 41 → mx_Ok mx_S0 l G (d + 1) mm_LBText_readPlan 86 [(0, .ref l0), (3, .int l3)] [] hs2 Q) ∧ (¬ (x3 = 41) → ((∃ fs7 : List Value, hs2.1 l0 = some (1, fs7)) ∧ mx_C mx_S0 l G d mm_LBText_readExpression [.ref l0, .int l3, .int (l2 + 1)] hs2 (fun (r4 : Option Value) (hs5 : mx_H) => ∃ x6 : Int32, r4 = some (.int x6) ∧ ((¬ x6 = (-1) → mx_Ok mx_S0 l G (d + 1) mm_LBText_readPlan 48 [(0, .ref l0), (2, .int l2), (3, .int x6), (4, .int (l4 + 1))] [] hs5 Q) ∧ (¬ (¬ x6 = (-1)) → Q (some (.int (-1))) hs5))))))))))) : mx_Ok mx_S0 l G (d + 1) mm_LBText_readPlan 48 [(0, .ref l0), (2, .int l2), (3, .int l3), (4, .int l4)] [] hs Q := by
  refine mx_iload d_LBText_readPlan_48 3 rfl ?_
  refine mx_iconst (v := 4) d_LBText_readPlan_50 (by decide) ?_
  refine mx_icmp_ge d_LBText_readPlan_51 (fun c9 => ?_) (fun c9 => ?_)
  · replace h := h.1 c9
    exact mx_sub [0, 2] rfl h
  · replace h := h.2 c9
    refine mx_aload_nR d_LBText_readPlan_54 rfl 0 rfl ?_
    refine mx_iload_n d_LBText_readPlan_55 rfl 2 rfl ?_
    obtain ⟨⟨fs8, e1_⟩, h⟩ := h
    refine mx_invV (Y := mm_LBText_codeAt) (As := [.int l3]) (rest := []) d_LBText_readPlan_56.1 ok_LBText_codeAt kw_115 kw_116 kw_117 rfl rfl (Nat.le_of_ble_eq_true rfl) (Nat.le_of_ble_eq_true rfl) e1_ (q := mx_cl0_1) rfl rfl h (fun r1 hs2 h => ?_)
    obtain ⟨x3, e9_, h⟩ := h
    subst e9_
    show mx_Ok mx_S0 l G (d + 1) mm_LBText_readPlan 59 [(0, .ref l0), (2, .int l2), (3, .int l3), (4, .int l4)] [.int x3] hs2 Q
    refine mx_bipush (v := 41) d_LBText_readPlan_59 (by decide) ?_
    refine mx_icmp_eq d_LBText_readPlan_61 (fun c9 => ?_) (fun c9 => ?_)
    · replace h := h.1 c9
      exact mx_sub [0, 2] rfl h
    · replace h := h.2 c9
      refine mx_aload_nR d_LBText_readPlan_64 rfl 0 rfl ?_
      refine mx_iload_n d_LBText_readPlan_65 rfl 2 rfl ?_
      refine mx_iload_n d_LBText_readPlan_66 rfl 1 rfl ?_
      refine mx_iconst (v := 1) d_LBText_readPlan_67 (by decide) ?_
      refine mx_iadd d_LBText_readPlan_68 ?_
      obtain ⟨⟨fs7, e1_⟩, h⟩ := h
      refine mx_invV (Y := mm_LBText_readExpression) (As := [.int l3, .int (l2 + 1)]) (rest := []) d_LBText_readPlan_69.1 ok_LBText_readExpression kw_99 kw_100 kw_101 rfl rfl (Nat.le_of_ble_eq_true rfl) (Nat.le_of_ble_eq_true rfl) e1_ (q := mx_cl0_1) rfl rfl h (fun r4 hs5 h => ?_)
      obtain ⟨x6, e9_, h⟩ := h
      subst e9_
      show mx_Ok mx_S0 l G (d + 1) mm_LBText_readPlan 72 [(0, .ref l0), (2, .int l2), (3, .int l3), (4, .int l4)] [.int x6] hs5 Q
      refine mx_istore_n (lv2 := [(3, .int x6), (0, .ref l0), (2, .int l2), (4, .int l4)]) d_LBText_readPlan_72 rfl (Nat.le_of_ble_eq_true rfl) rfl ?_
      refine mx_iload_n d_LBText_readPlan_73 rfl 0 rfl ?_
      refine mx_iconst (v := -1) d_LBText_readPlan_74 (by decide) ?_
      refine mx_icmp_ne d_LBText_readPlan_75 (fun c9 => ?_) (fun c9 => ?_)
      · replace h := h.1 c9
        refine mx_iinc (v := l4 + 1) (lv2 := [(4, .int (l4 + 1)), (3, .int x6), (0, .ref l0), (2, .int l2)]) d_LBText_readPlan_80 3 rfl (by rfl) (Nat.le_of_ble_eq_true rfl) rfl ?_
        refine mx_goto d_LBText_readPlan_83 ?_
        exact mx_sub [2, 3, 1, 0] rfl h
      · replace h := h.2 c9
        refine mx_iconst (v := -1) d_LBText_readPlan_78 (by decide) ?_
        exact mx_ireturn d_LBText_readPlan_79 rfl rfl h
set_option maxRecDepth 100000 in
theorem wp_LBText_readPlan_86 {l : Launch} {G : mx_G} {d : Nat} {hs : mx_H} {Q : Option Value → mx_H → Prop} (l0 : Nat) (l3 : Int32) (h : ((∃ fs8 : List Value, hs.1 l0 = some (1, fs8)) ∧ mx_C mx_S0 l G d mm_LBText_codeAt [.ref l0, .int l3] hs (fun (r1 : Option Value) (hs2 : mx_H) => ∃ x3 : Int32, r1 = some (.int x3) ∧ ((¬ x3 = 41 → ((∃ fs7 : List Value, hs2.1 l0 = some (1, fs7)) ∧ mx_C mx_S0 l G d mm_LBText_badAt [.ref l0, .int l3] hs2 (fun (r4 : Option Value) (hs5 : mx_H) => ∃ x6 : Int32, r4 = some (.int x6) ∧ Q (some (.int x6)) hs5))) ∧ (¬ (¬ x3 = 41) → Q (some (.int (l3 + 1))) hs2))))) : mx_Ok mx_S0 l G (d + 1) mm_LBText_readPlan 86 [(0, .ref l0), (3, .int l3)] [] hs Q := by
  refine mx_aload_nR d_LBText_readPlan_86 rfl 0 rfl ?_
  refine mx_iload_n d_LBText_readPlan_87 rfl 1 rfl ?_
  obtain ⟨⟨fs8, e1_⟩, h⟩ := h
  refine mx_invV (Y := mm_LBText_codeAt) (As := [.int l3]) (rest := []) d_LBText_readPlan_88.1 ok_LBText_codeAt kw_115 kw_116 kw_117 rfl rfl (Nat.le_of_ble_eq_true rfl) (Nat.le_of_ble_eq_true rfl) e1_ (q := mx_cl0_1) rfl rfl h (fun r1 hs2 h => ?_)
  obtain ⟨x3, e9_, h⟩ := h
  subst e9_
  show mx_Ok mx_S0 l G (d + 1) mm_LBText_readPlan 91 [(0, .ref l0), (3, .int l3)] [.int x3] hs2 Q
  refine mx_bipush (v := 41) d_LBText_readPlan_91 (by decide) ?_
  refine mx_icmp_ne d_LBText_readPlan_93 (fun c9 => ?_) (fun c9 => ?_)
  · replace h := h.1 c9
    refine mx_aload_nR d_LBText_readPlan_102 rfl 0 rfl ?_
    refine mx_iload_n d_LBText_readPlan_103 rfl 1 rfl ?_
    obtain ⟨⟨fs7, e1_⟩, h⟩ := h
    refine mx_invV (Y := mm_LBText_badAt) (As := [.int l3]) (rest := []) d_LBText_readPlan_104.1 ok_LBText_badAt kw_106 kw_107 kw_108 rfl rfl (Nat.le_of_ble_eq_true rfl) (Nat.le_of_ble_eq_true rfl) e1_ (q := mx_cl0_1) rfl rfl h (fun r4 hs5 h => ?_)
    obtain ⟨x6, e9_, h⟩ := h
    subst e9_
    show mx_Ok mx_S0 l G (d + 1) mm_LBText_readPlan 107 [(0, .ref l0), (3, .int l3)] [.int x6] hs5 Q
    exact mx_ireturn d_LBText_readPlan_107 rfl rfl h
  · replace h := h.2 c9
    refine mx_iload_n d_LBText_readPlan_96 rfl 1 rfl ?_
    refine mx_iconst (v := 1) d_LBText_readPlan_97 (by decide) ?_
    refine mx_iadd d_LBText_readPlan_98 ?_
    refine mx_goto d_LBText_readPlan_99 ?_
    exact mx_ireturn d_LBText_readPlan_107 rfl rfl h
set_option maxRecDepth 100000 in
theorem wp_LBText_badAt_0 {l : Launch} {G : mx_G} {d : Nat} {hs : mx_H} {Q : Option Value → mx_H → Prop} (l0 : Nat) (l1 : Int32) (h : (∃ fs1 : List Value, hs.1 l0 = some (1, fs1) ∧ ∀ hs2 : mx_H, hs2 = mx_st hs l0 (1, fs1.set 4 (.int l1)) → Q (some (.int (-1))) hs2)) : mx_Ok mx_S0 l G (d + 1) mm_LBText_badAt 0 [(0, .ref l0), (1, .int l1)] [] hs Q := by
  refine mx_aload_nR d_LBText_badAt_0 rfl 0 rfl ?_
  refine mx_iload_n d_LBText_badAt_1 rfl 1 rfl ?_
  obtain ⟨fs1, e1_, h⟩ := h
  refine mx_put d_LBText_badAt_2 (ci := 1) (k := 4) (q := mx_cl0_1) (ty := .int) rfl (Nat.le_of_ble_eq_true rfl) kw_98 rfl (by decide +kernel) rfl rfl (by omega) e1_ ?_
  obtain ⟨hs2, hg_⟩ : ∃ x_, x_ = mx_st hs l0 (1, fs1.set 4 (.int l1)) := ⟨_, rfl⟩
  replace h := h hs2 hg_
  rw [← hg_]
  clear hg_
  refine mx_iconst (v := -1) d_LBText_badAt_5 (by decide) ?_
  exact mx_ireturn d_LBText_badAt_6 rfl rfl h
set_option maxRecDepth 100000 in
theorem wp_LBText_belongs_0 {l : Launch} {G : mx_G} {d : Nat} {hs : mx_H} {Q : Option Value → mx_H → Prop} (l0 : Int32) (h : mx_C mx_S0 l G d mm_LB_isDigit [.int l0] hs (fun (r1 : Option Value) (hs2 : mx_H) => ∃ x3 : Int32, r1 = some (.int x3) ∧ ((¬ x3 = 0 → mx_Ok mx_S0 l G (d + 1) mm_LBText_belongs 39 [] [] hs2 Q) ∧ (¬ (¬ x3 = 0) → mx_C mx_S0 l G d mm_LB_isLetter [.int l0] hs2 (fun (r4 : Option Value) (hs5 : mx_H) => ∃ x6 : Int32, r4 = some (.int x6) ∧ ((¬ x6 = 0 → mx_Ok mx_S0 l G (d + 1) mm_LBText_belongs 39 [] [] hs5 Q) ∧ (¬ (¬ x6 = 0) → mx_C mx_S0 l G d mm_LB_partsAfter [.int l0] hs5 (fun (r7 : Option Value) (hs8 : mx_H) => ∃ x9 : Int32, r7 = some (.int x9) ∧ ((0 < x9 → mx_Ok mx_S0 l G (d + 1) mm_LBText_belongs 39 [] [] hs8 Q) ∧ (¬ (0 < x9) → ((l0 = 68 → mx_Ok mx_S0 l G (d + 1) mm_LBText_belongs 39 [] [] hs8 Q) ∧ (¬ (l0 = 68) → ((l0 = 40 → mx_Ok mx_S0 l G (d + 1) mm_LBText_belongs 39 [] [] hs8 Q) ∧ (¬ (l0 = 40) → ((¬ l0 = 41 → Q (some (.int 0)) hs8) ∧ (¬ (¬ l0 = 41) → mx_Ok mx_S0 l G (d + 1) mm_LBText_belongs 39 [] [] hs8 Q)))))))))))))))) : mx_Ok mx_S0 l G (d + 1) mm_LBText_belongs 0 [(0, .int l0)] [] hs Q := by
  refine mx_iload_n d_LBText_belongs_0 rfl 0 rfl ?_
  refine mx_invSN (Y := mm_LB_isDigit) (As := [.int l0]) (rest := []) d_LBText_belongs_1.1 ok_LB_isDigit kn_2 kw_114 rfl rfl (Nat.le_of_ble_eq_true rfl) (Nat.le_of_ble_eq_true rfl) h (fun r1 hs2 h => ?_)
  obtain ⟨x3, e9_, h⟩ := h
  subst e9_
  show mx_Ok mx_S0 l G (d + 1) mm_LBText_belongs 4 [(0, .int l0)] [.int x3] hs2 Q
  refine mx_if_ne d_LBText_belongs_4 (fun c9 => ?_) (fun c9 => ?_)
  · replace h := h.1 c9
    exact mx_sub [] rfl h
  · replace h := h.2 c9
    refine mx_iload_n d_LBText_belongs_7 rfl 0 rfl ?_
    refine mx_invSN (Y := mm_LB_isLetter) (As := [.int l0]) (rest := []) d_LBText_belongs_8.1 ok_LB_isLetter kn_1 kw_113 rfl rfl (Nat.le_of_ble_eq_true rfl) (Nat.le_of_ble_eq_true rfl) h (fun r4 hs5 h => ?_)
    obtain ⟨x6, e9_, h⟩ := h
    subst e9_
    show mx_Ok mx_S0 l G (d + 1) mm_LBText_belongs 11 [(0, .int l0)] [.int x6] hs5 Q
    refine mx_if_ne d_LBText_belongs_11 (fun c9 => ?_) (fun c9 => ?_)
    · replace h := h.1 c9
      exact mx_sub [] rfl h
    · replace h := h.2 c9
      refine mx_iload_n d_LBText_belongs_14 rfl 0 rfl ?_
      refine mx_invSN (Y := mm_LB_partsAfter) (As := [.int l0]) (rest := []) d_LBText_belongs_15.1 ok_LB_partsAfter kn_0 kw_109 rfl rfl (Nat.le_of_ble_eq_true rfl) (Nat.le_of_ble_eq_true rfl) h (fun r7 hs8 h => ?_)
      obtain ⟨x9, e9_, h⟩ := h
      subst e9_
      show mx_Ok mx_S0 l G (d + 1) mm_LBText_belongs 18 [(0, .int l0)] [.int x9] hs8 Q
      refine mx_if_gt d_LBText_belongs_18 (fun c9 => ?_) (fun c9 => ?_)
      · replace h := h.1 c9
        exact mx_sub [] rfl h
      · replace h := h.2 c9
        refine mx_iload_n d_LBText_belongs_21 rfl 0 rfl ?_
        refine mx_bipush (v := 68) d_LBText_belongs_22 (by decide) ?_
        refine mx_icmp_eq d_LBText_belongs_24 (fun c9 => ?_) (fun c9 => ?_)
        · replace h := h.1 c9
          exact mx_sub [] rfl h
        · replace h := h.2 c9
          refine mx_iload_n d_LBText_belongs_27 rfl 0 rfl ?_
          refine mx_bipush (v := 40) d_LBText_belongs_28 (by decide) ?_
          refine mx_icmp_eq d_LBText_belongs_30 (fun c9 => ?_) (fun c9 => ?_)
          · replace h := h.1 c9
            exact mx_sub [] rfl h
          · replace h := h.2 c9
            refine mx_iload_n d_LBText_belongs_33 rfl 0 rfl ?_
            refine mx_bipush (v := 41) d_LBText_belongs_34 (by decide) ?_
            refine mx_icmp_ne d_LBText_belongs_36 (fun c9 => ?_) (fun c9 => ?_)
            · replace h := h.1 c9
              refine mx_iconst (v := 0) d_LBText_belongs_43 (by decide) ?_
              exact mx_ireturn d_LBText_belongs_44 rfl (mx_nz (Or.inl rfl)) h
            · replace h := h.2 c9
              exact mx_sub [] rfl h
set_option maxRecDepth 100000 in
theorem wp_LBText_belongs_39 {l : Launch} {G : mx_G} {d : Nat} {hs : mx_H} {Q : Option Value → mx_H → Prop}  (h : Q (some (.int 1)) hs) : mx_Ok mx_S0 l G (d + 1) mm_LBText_belongs 39 [] [] hs Q := by
  refine mx_iconst (v := 1) d_LBText_belongs_39 (by decide) ?_
  refine mx_goto d_LBText_belongs_40 ?_
  exact mx_ireturn d_LBText_belongs_44 rfl (mx_nz (Or.inr rfl)) h
set_option maxRecDepth 100000 in
theorem wp_LBName_init_0 {l : Launch} {G : mx_G} {d : Nat} {hs : mx_H} {Q : Option Value → mx_H → Prop} (l0 : Nat) (h : (∀ hs1 : mx_H, hs1 = mx_nw hs (1, [.null, .null, .int 0, .int 0, .int 0]) 5 → mx_C mx_S0 l G d mm_LBText_init [.ref hs.2.1] hs1 (fun (r2 : Option Value) (hs3 : mx_H) => r2 = none ∧ (∃ fs4 : List Value, hs3.1 l0 = some (2, fs4) ∧ ∀ hs5 : mx_H, hs5 = mx_st hs3 l0 (2, fs4.set 0 (.ref hs.2.1)) → (∃ fs6 : List Value, hs5.1 l0 = some (2, fs6) ∧ ∀ hs7 : mx_H, hs7 = mx_st hs5 l0 (2, fs6.set 3 (.long (-1000000000000))) → Q none hs7))))) : mx_Ok mx_S0 l G (d + 1) mm_LBName_init 0 [(0, .ref l0)] [] hs Q := by
  refine mx_aload_nR d_LBName_init_0 rfl 0 rfl ?_
  refine mx_objInit d_LBName_init_1 kw_118 kw_1 k_objcode (Nat.le_of_ble_eq_true rfl) ?_
  refine mx_aload_nR d_LBName_init_4 rfl 0 rfl ?_
  refine mx_new d_LBName_init_5 (ci := 1) (q := mx_cl0_1) (fs := [.null, .null, .int 0, .int 0, .int 0]) (n := 5) rfl kw_119 kw_3 kw_4 rfl rfl mdf_1 ?_
  obtain ⟨hs1, hg_⟩ : ∃ x_, x_ = mx_nw hs (1, [.null, .null, .int 0, .int 0, .int 0]) 5 := ⟨_, rfl⟩
  replace h := h hs1 hg_
  rw [← hg_]
  clear hg_
  refine mx_dup d_LBName_init_8 rfl ?_
  refine mx_invI (Y := mm_LBText_init) (As := []) (rest := [.ref hs.2.1, .ref l0]) rfl d_LBName_init_9.1 ok_LBText_init kw_123 kw_22 rfl rfl rfl (Nat.le_of_ble_eq_true rfl) (Nat.le_of_ble_eq_true rfl) h (fun r2 hs3 h => ?_)
  obtain ⟨e9_, h⟩ := h
  subst e9_
  show mx_Ok mx_S0 l G (d + 1) mm_LBName_init 12 [(0, .ref l0)] [.ref hs.2.1, .ref l0] hs3 Q
  obtain ⟨fs4, e1_, h⟩ := h
  refine mx_putF d_LBName_init_12 (ci := 2) (k := 0) (q := mx_cl0_2) (ty := (.object "LazyBuilder$Text")) rfl (Nat.le_of_ble_eq_true rfl) kw_120 rfl rfl rfl (by decide +kernel) rfl rfl (by omega) e1_ ?_
  obtain ⟨hs5, hg_⟩ : ∃ x_, x_ = mx_st hs3 l0 (2, fs4.set 0 (.ref hs.2.1)) := ⟨_, rfl⟩
  replace h := h hs5 hg_
  rw [← hg_]
  clear hg_
  refine mx_aload_nR d_LBName_init_15 rfl 0 rfl ?_
  refine mx_ldc2 (v := (-1000000000000)) d_LBName_init_16 kw_121 ?_
  obtain ⟨fs6, e1_, h⟩ := h
  refine mx_put d_LBName_init_19 (ci := 2) (k := 3) (q := mx_cl0_2) (ty := .long) rfl (Nat.le_of_ble_eq_true rfl) kw_122 rfl (by decide +kernel) rfl rfl (by omega) e1_ ?_
  obtain ⟨hs7, hg_⟩ : ∃ x_, x_ = mx_st hs5 l0 (2, fs6.set 3 (.long (-1000000000000))) := ⟨_, rfl⟩
  replace h := h hs7 hg_
  rw [← hg_]
  clear hg_
  exact mx_return d_LBName_init_22 rfl h
set_option maxRecDepth 100000 in
theorem wp_LBPlan_init_0 {l : Launch} {G : mx_G} {d : Nat} {hs : mx_H} {Q : Option Value → mx_H → Prop} (l0 : Nat) (l1 : Int32) (l2 : Nat) (h : (∃ fs1 : List Value, hs.1 l0 = some (3, fs1) ∧ ∀ hs2 : mx_H, hs2 = mx_st hs l0 (3, fs1.set 0 (.int l1)) → (∃ fs3 : List Value, hs2.1 l0 = some (3, fs3) ∧ ∀ hs4 : mx_H, hs4 = mx_st hs2 l0 (3, fs3.set 1 (.ref l2)) → Q none hs4))) : mx_Ok mx_S0 l G (d + 1) mm_LBPlan_init 0 [(0, .ref l0), (1, .int l1), (2, .ref l2)] [] hs Q := by
  refine mx_aload_nR d_LBPlan_init_0 rfl 0 rfl ?_
  refine mx_objInit d_LBPlan_init_1 kw_124 kw_1 k_objcode (Nat.le_of_ble_eq_true rfl) ?_
  refine mx_aload_nR d_LBPlan_init_4 rfl 0 rfl ?_
  refine mx_iload_n d_LBPlan_init_5 rfl 1 rfl ?_
  obtain ⟨fs1, e1_, h⟩ := h
  refine mx_putF d_LBPlan_init_6 (ci := 3) (k := 0) (q := mx_cl0_3) (ty := .int) rfl (Nat.le_of_ble_eq_true rfl) kw_125 rfl rfl rfl (by decide +kernel) rfl rfl (by omega) e1_ ?_
  obtain ⟨hs2, hg_⟩ : ∃ x_, x_ = mx_st hs l0 (3, fs1.set 0 (.int l1)) := ⟨_, rfl⟩
  replace h := h hs2 hg_
  rw [← hg_]
  clear hg_
  refine mx_aload_nR d_LBPlan_init_9 rfl 0 rfl ?_
  refine mx_aload_nR d_LBPlan_init_10 rfl 2 rfl ?_
  obtain ⟨fs3, e1_, h⟩ := h
  refine mx_putF d_LBPlan_init_11 (ci := 3) (k := 1) (q := mx_cl0_3) (ty := (.array .long)) rfl (Nat.le_of_ble_eq_true rfl) kw_126 rfl rfl rfl (by decide +kernel) rfl rfl (by omega) e1_ ?_
  obtain ⟨hs4, hg_⟩ : ∃ x_, x_ = mx_st hs2 l0 (3, fs3.set 1 (.ref l2)) := ⟨_, rfl⟩
  replace h := h hs4 hg_
  rw [← hg_]
  clear hg_
  exact mx_return d_LBPlan_init_14 rfl h
set_option maxRecDepth 100000 in
theorem wp_LBPlan_isAlike_0 {l : Launch} {G : mx_G} {d : Nat} {hs : mx_H} {Q : Option Value → mx_H → Prop} (l0 : Nat) (l1 : Int32) (l2 : Nat) (l3 : Int32) (l4 : Int32) (h : (∃ (x2 : Int32), mx_f hs l0 3 0 (.int x2) ∧ ((¬ x2 = l1 → Q (some (.int 0)) hs) ∧ (¬ (¬ x2 = l1) → (∃ (a4 : Nat), mx_f hs l0 3 1 (.ref a4) ∧ (∃ vs5 : List Value, hs.1 a4 = some (102, vs5) ∧ (((Int32.ofNat vs5.length) = l4 → mx_Ok mx_S0 l G (d + 1) mm_LBPlan_isAlike 23 [(0, .ref l0), (2, .ref l2), (3, .int l3), (4, .int l4), (5, .int 0)] [] hs Q) ∧ (¬ ((Int32.ofNat vs5.length) = l4) → Q (some (.int 0)) hs)))))))) : mx_Ok mx_S0 l G (d + 1) mm_LBPlan_isAlike 0 [(0, .ref l0), (1, .int l1), (2, .ref l2), (3, .int l3), (4, .int l4)] [] hs Q := by
  refine mx_aload_nR d_LBPlan_isAlike_0 rfl 0 rfl ?_
  obtain ⟨x2, ⟨fs1, e1_, e2_⟩, h⟩ := h
  refine mx_get d_LBPlan_isAlike_1 (ci := 3) (k := 0) (q := mx_cl0_3) rfl (Nat.le_of_ble_eq_true rfl) kw_125 e1_ e2_ ?_
  refine mx_iload_n d_LBPlan_isAlike_4 rfl 1 rfl ?_
  refine mx_icmp_ne d_LBPlan_isAlike_5 (fun c9 => ?_) (fun c9 => ?_)
  · replace h := h.1 c9
    refine mx_iconst (v := 0) d_LBPlan_isAlike_18 (by decide) ?_
    exact mx_ireturn d_LBPlan_isAlike_19 rfl (mx_nz (Or.inl rfl)) h
  · replace h := h.2 c9
    refine mx_aload_nR d_LBPlan_isAlike_8 rfl 0 rfl ?_
    obtain ⟨a4, ⟨fs3, e1_, e2_⟩, h⟩ := h
    refine mx_get d_LBPlan_isAlike_9 (ci := 3) (k := 1) (q := mx_cl0_3) rfl (Nat.le_of_ble_eq_true rfl) kw_126 e1_ e2_ ?_
    obtain ⟨vs5, e1_, h⟩ := h
    refine mx_alen d_LBPlan_isAlike_12 (k := 102) rfl e1_ ?_
    refine mx_iload d_LBPlan_isAlike_13 4 rfl ?_
    refine mx_icmp_eq d_LBPlan_isAlike_15 (fun c9 => ?_) (fun c9 => ?_)
    · replace h := h.1 c9
      refine mx_iconst (v := 0) d_LBPlan_isAlike_20 (by decide) ?_
      refine mx_istore (lv2 := [(5, .int 0), (0, .ref l0), (1, .int l1), (2, .ref l2), (3, .int l3), (4, .int l4)]) d_LBPlan_isAlike_21 (Nat.le_of_ble_eq_true rfl) rfl ?_
      exact mx_sub [1, 3, 4, 5, 0] rfl h
    · replace h := h.2 c9
      refine mx_iconst (v := 0) d_LBPlan_isAlike_18 (by decide) ?_
      exact mx_ireturn d_LBPlan_isAlike_19 rfl (mx_nz (Or.inl rfl)) h
set_option maxRecDepth 100000 in
theorem wp_LBPlan_isAlike_23 {l : Launch} {G : mx_G} {d : Nat} {hs : mx_H} {Q : Option Value → mx_H → Prop} (l0 : Nat) (l2 : Nat) (l3 : Int32) (l4 : Int32) (l5 : Int32) (h : ((l4 ≤ l5 → Q (some (.int 1)) hs) ∧ (¬ (l4 ≤ l5) → (∃ (a2 : Nat), mx_f hs l0 3 1 (.ref a2) ∧ (∃ (vs3 : List Value) (x4 : Int64), hs.1 a2 = some (102, vs3) ∧ ¬ l5 < 0 ∧ vs3[Int32.toNatClampNeg l5]? = some (.long x4) ∧ (∃ (vs5 : List Value) (x6 : Int64), hs.1 l2 = some (102, vs5) ∧ ¬ (l3 + l5) < 0 ∧ vs5[Int32.toNatClampNeg (l3 + l5)]? = some (.long x6) ∧ ((x4 = x6 → mx_Ok mx_S0 l G (d + 1) mm_LBPlan_isAlike 23 [(0, .ref l0), (2, .ref l2), (3, .int l3), (4, .int l4), (5, .int (l5 + 1))] [] hs Q) ∧ (¬ (x4 = x6) → Q (some (.int 0)) hs)))))))) : mx_Ok mx_S0 l G (d + 1) mm_LBPlan_isAlike 23 [(0, .ref l0), (2, .ref l2), (3, .int l3), (4, .int l4), (5, .int l5)] [] hs Q := by
  refine mx_iload d_LBPlan_isAlike_23 4 rfl ?_
  refine mx_iload d_LBPlan_isAlike_25 3 rfl ?_
  refine mx_icmp_ge d_LBPlan_isAlike_27 (fun c9 => ?_) (fun c9 => ?_)
  · replace h := h.1 c9
    refine mx_iconst (v := 1) d_LBPlan_isAlike_55 (by decide) ?_
    exact mx_ireturn d_LBPlan_isAlike_56 rfl (mx_nz (Or.inr rfl)) h
  · replace h := h.2 c9
    refine mx_aload_nR d_LBPlan_isAlike_30 rfl 0 rfl ?_
    obtain ⟨a2, ⟨fs1, e1_, e2_⟩, h⟩ := h
    refine mx_get d_LBPlan_isAlike_31 (ci := 3) (k := 1) (q := mx_cl0_3) rfl (Nat.le_of_ble_eq_true rfl) kw_126 e1_ e2_ ?_
    refine mx_iload d_LBPlan_isAlike_34 4 rfl ?_
    obtain ⟨vs3, x4, e1_, e2_, e3_, h⟩ := h
    refine mx_lald d_LBPlan_isAlike_36 (k := 102) rfl e1_ e2_ e3_ ?_
    refine mx_aload_nR d_LBPlan_isAlike_37 rfl 1 rfl ?_
    refine mx_iload_n d_LBPlan_isAlike_38 rfl 2 rfl ?_
    refine mx_iload d_LBPlan_isAlike_39 4 rfl ?_
    refine mx_iadd d_LBPlan_isAlike_41 ?_
    obtain ⟨vs5, x6, e1_, e2_, e3_, h⟩ := h
    refine mx_lald d_LBPlan_isAlike_42 (k := 102) rfl e1_ e2_ e3_ ?_
    refine mx_lcmp d_LBPlan_isAlike_43 ?_
    refine mx_if_eq d_LBPlan_isAlike_44 (fun c9 => ?_) (fun c9 => ?_)
    · replace h := h.1 ((lg_cmp_eq _ _).mp c9)
      refine mx_iinc (v := l5 + 1) (lv2 := [(5, .int (l5 + 1)), (0, .ref l0), (2, .ref l2), (3, .int l3), (4, .int l4)]) d_LBPlan_isAlike_49 4 rfl (by rfl) (Nat.le_of_ble_eq_true rfl) rfl ?_
      refine mx_goto d_LBPlan_isAlike_52 ?_
      exact mx_sub [1, 2, 3, 4, 0] rfl h
    · replace h := h.2 (fun z9 => c9 ((lg_cmp_eq _ _).mpr z9))
      refine mx_iconst (v := 0) d_LBPlan_isAlike_47 (by decide) ?_
      exact mx_ireturn d_LBPlan_isAlike_48 rfl (mx_nz (Or.inl rfl)) h
