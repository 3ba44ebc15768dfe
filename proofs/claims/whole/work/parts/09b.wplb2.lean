set_option maxRecDepth 100000 in
theorem wp_LBStore_init_0 {l : Launch} {G : mx_G} {d : Nat} {hs : mx_H} {Q : Option Value → mx_H → Prop} (l0 : Nat) (h : (∀ hs1 : mx_H, hs1 = mx_nw hs (113, List.replicate 30 (.null)) 30 → (∃ fs2 : List Value, hs1.1 l0 = some (4, fs2) ∧ ∀ hs3 : mx_H, hs3 = mx_st hs1 l0 (4, fs2.set 0 (.ref hs.2.1)) → (∀ hs4 : mx_H, hs4 = mx_nw hs3 (100, List.replicate 10 (.int 0)) 10 → (∃ fs5 : List Value, hs4.1 l0 = some (4, fs5) ∧ ∀ hs6 : mx_H, hs6 = mx_st hs4 l0 (4, fs5.set 1 (.ref hs3.2.1)) → Q none hs6))))) : mx_Ok mx_S0 l G (d + 1) mm_LBStore_init 0 [(0, .ref l0)] [] hs Q := by
  refine mx_aload_nR d_LBStore_init_0 rfl 0 rfl ?_
  refine mx_objInit d_LBStore_init_1 kw_127 kw_1 k_objcode (Nat.le_of_ble_eq_true rfl) ?_
  refine mx_aload_nR d_LBStore_init_4 rfl 0 rfl ?_
  refine mx_bipush (v := 30) d_LBStore_init_5 (by decide) ?_
  refine mx_anewa d_LBStore_init_7 (k := 113) (C := "LazyBuilder$Plan") (N := 30) rfl (by decide) kw_128 (by decide) (by decide) (by decide) (by decide) ?_
  obtain ⟨hs1, hg_⟩ : ∃ x_, x_ = mx_nw hs (113, List.replicate 30 (.null)) 30 := ⟨_, rfl⟩
  replace h := h hs1 hg_
  rw [← hg_]
  clear hg_
  obtain ⟨fs2, e1_, h⟩ := h
  refine mx_putF d_LBStore_init_10 (ci := 4) (k := 0) (q := mx_cl0_4) (ty := (.array (.object "LazyBuilder$Plan"))) rfl (Nat.le_of_ble_eq_true rfl) kw_129 rfl rfl rfl (by decide +kernel) rfl rfl (by omega) e1_ ?_
  obtain ⟨hs3, hg_⟩ : ∃ x_, x_ = mx_st hs1 l0 (4, fs2.set 0 (.ref hs.2.1)) := ⟨_, rfl⟩
  replace h := h hs3 hg_
  rw [← hg_]
  clear hg_
  refine mx_aload_nR d_LBStore_init_13 rfl 0 rfl ?_
  refine mx_bipush (v := 10) d_LBStore_init_14 (by decide) ?_
  refine mx_newa d_LBStore_init_16 (k := 100) (ty := .int) (dv := .int 0) (N := 10) rfl rfl rfl (by decide) kw_90 (by decide) (by decide) (by decide) ?_
  obtain ⟨hs4, hg_⟩ : ∃ x_, x_ = mx_nw hs3 (100, List.replicate 10 (.int 0)) 10 := ⟨_, rfl⟩
  replace h := h hs4 hg_
  rw [← hg_]
  clear hg_
  obtain ⟨fs5, e1_, h⟩ := h
  refine mx_putF d_LBStore_init_18 (ci := 4) (k := 1) (q := mx_cl0_4) (ty := (.array .int)) rfl (Nat.le_of_ble_eq_true rfl) kw_130 rfl rfl rfl (by decide +kernel) rfl rfl (by omega) e1_ ?_
  obtain ⟨hs6, hg_⟩ : ∃ x_, x_ = mx_st hs4 l0 (4, fs5.set 1 (.ref hs3.2.1)) := ⟨_, rfl⟩
  replace h := h hs6 hg_
  rw [← hg_]
  clear hg_
  exact mx_return d_LBStore_init_21 rfl h
set_option maxRecDepth 100000 in
theorem wp_LBStore_planAt_0 {l : Launch} {G : mx_G} {d : Nat} {hs : mx_H} {Q : Option Value → mx_H → Prop} (l0 : Nat) (l1 : Int32) (h : ((∃ fs4 : List Value, hs.1 l0 = some (4, fs4)) ∧ mx_C mx_S0 l G d mm_LBStore_planIn [.ref l0, .long (1000000000000 + (Int32.toInt64 l1))] hs (fun (r1 : Option Value) (hs2 : mx_H) => ∃ v3 : Value, r1 = some v3 ∧ (v3 = .null ∨ ∃ z, v3 = .ref z) ∧ Q (some (v3)) hs2))) : mx_Ok mx_S0 l G (d + 1) mm_LBStore_planAt 0 [(0, .ref l0), (1, .int l1)] [] hs Q := by
  refine mx_aload_nR d_LBStore_planAt_0 rfl 0 rfl ?_
  refine mx_ldc2 (v := 1000000000000) d_LBStore_planAt_1 kw_131 ?_
  refine mx_iload_n d_LBStore_planAt_4 rfl 1 rfl ?_
  refine mx_i2l d_LBStore_planAt_5 ?_
  refine mx_ladd d_LBStore_planAt_6 ?_
  obtain ⟨⟨fs4, e1_⟩, h⟩ := h
  refine mx_invV (Y := mm_LBStore_planIn) (As := [.long (1000000000000 + (Int32.toInt64 l1))]) (rest := []) d_LBStore_planAt_7.1 ok_LBStore_planIn kw_132 kw_133 kw_134 rfl rfl (Nat.le_of_ble_eq_true rfl) (Nat.le_of_ble_eq_true rfl) e1_ (q := mx_cl0_4) rfl rfl h (fun r1 hs2 h => ?_)
  obtain ⟨v3, e9_, hv3, h⟩ := h
  subst e9_
  show mx_Ok mx_S0 l G (d + 1) mm_LBStore_planAt 10 [(0, .ref l0), (1, .int l1)] [v3] hs2 Q
  exact mx_areturn d_LBStore_planAt_10 rfl (Or.inl ⟨_, rfl⟩) hv3 h
set_option maxRecDepth 100000 in
theorem wp_LBStore_planIn_0 {l : Launch} {G : mx_G} {d : Nat} {hs : mx_H} {Q : Option Value → mx_H → Prop} (l0 : Nat) (l1 : Int64) (h : (((l1 - 1000000000000) < 1 → Q (some (.null)) hs) ∧ (¬ ((l1 - 1000000000000) < 1) → (∃ (x2 : Int32), mx_f hs l0 4 2 (.int x2) ∧ (((Int32.toInt64 x2) < (l1 - 1000000000000) → Q (some (.null)) hs) ∧ (¬ ((Int32.toInt64 x2) < (l1 - 1000000000000)) → (∃ (a4 : Nat), mx_f hs l0 4 0 (.ref a4) ∧ (∃ (vs5 : List Value) (a6 : Nat), hs.1 a4 = some (113, vs5) ∧ ¬ ((Int64.toInt32 (l1 - 1000000000000)) - 1) < 0 ∧ vs5[Int32.toNatClampNeg ((Int64.toInt32 (l1 - 1000000000000)) - 1)]? = some (.ref a6) ∧ Q (some (.ref a6)) hs)))))))) : mx_Ok mx_S0 l G (d + 1) mm_LBStore_planIn 0 [(0, .ref l0), (1, .long l1)] [] hs Q := by
  refine mx_lload_n d_LBStore_planIn_0 rfl 1 rfl ?_
  refine mx_ldc2 (v := 1000000000000) d_LBStore_planIn_1 kw_131 ?_
  refine mx_lsub d_LBStore_planIn_4 ?_
  refine mx_lstore_n (lv2 := [(3, .long (l1 - 1000000000000)), (0, .ref l0), (1, .long l1)]) d_LBStore_planIn_5 rfl (Nat.le_of_ble_eq_true rfl) rfl ?_
  refine mx_lload_n d_LBStore_planIn_6 rfl 0 rfl ?_
  refine mx_lconst (v := 1) d_LBStore_planIn_7 rfl ?_
  refine mx_lcmp d_LBStore_planIn_8 ?_
  refine mx_if_lt d_LBStore_planIn_9 (fun c9 => ?_) (fun c9 => ?_)
  · replace h := h.1 ((lg_cmp_lt _ _).mp c9)
    refine mx_null d_LBStore_planIn_34 ?_
    exact mx_areturn d_LBStore_planIn_35 rfl (Or.inl ⟨_, rfl⟩) (Or.inl rfl) h
  · replace h := h.2 (fun z9 => c9 ((lg_cmp_lt _ _).mpr z9))
    refine mx_lload_n d_LBStore_planIn_12 rfl 0 rfl ?_
    refine mx_aload_nR d_LBStore_planIn_13 rfl 1 rfl ?_
    obtain ⟨x2, ⟨fs1, e1_, e2_⟩, h⟩ := h
    refine mx_get d_LBStore_planIn_14 (ci := 4) (k := 2) (q := mx_cl0_4) rfl (Nat.le_of_ble_eq_true rfl) kw_135 e1_ e2_ ?_
    refine mx_i2l d_LBStore_planIn_17 ?_
    refine mx_lcmp d_LBStore_planIn_18 ?_
    refine mx_if_gt d_LBStore_planIn_19 (fun c9 => ?_) (fun c9 => ?_)
    · replace h := h.1 ((lg_cmp_gt _ _).mp c9)
      refine mx_null d_LBStore_planIn_34 ?_
      exact mx_areturn d_LBStore_planIn_35 rfl (Or.inl ⟨_, rfl⟩) (Or.inl rfl) h
    · replace h := h.2 (fun z9 => c9 ((lg_cmp_gt _ _).mpr z9))
      refine mx_aload_nR d_LBStore_planIn_22 rfl 1 rfl ?_
      obtain ⟨a4, ⟨fs3, e1_, e2_⟩, h⟩ := h
      refine mx_get d_LBStore_planIn_23 (ci := 4) (k := 0) (q := mx_cl0_4) rfl (Nat.le_of_ble_eq_true rfl) kw_129 e1_ e2_ ?_
      refine mx_lload_n d_LBStore_planIn_26 rfl 0 rfl ?_
      refine mx_l2i d_LBStore_planIn_27 ?_
      refine mx_iconst (v := 1) d_LBStore_planIn_28 (by decide) ?_
      refine mx_isub d_LBStore_planIn_29 ?_
      obtain ⟨vs5, a6, e1_, e2_, e3_, h⟩ := h
      refine mx_aald (C := "LazyBuilder$Plan") d_LBStore_planIn_30 (k := 113) rfl e1_ e2_ e3_ ?_
      refine mx_goto d_LBStore_planIn_31 ?_
      exact mx_areturn d_LBStore_planIn_35 rfl (Or.inl ⟨_, rfl⟩) (Or.inr ⟨_, rfl⟩) h
set_option maxRecDepth 100000 in
theorem wp_LBStore_planOf_0 {l : Launch} {G : mx_G} {d : Nat} {hs : mx_H} {Q : Option Value → mx_H → Prop} (l0 : Nat) (l1 : Int32) (l2 : Nat) (l3 : Int32) (l4 : Int32) (h : mx_Ok mx_S0 l G (d + 1) mm_LBStore_planOf 3 [(0, .ref l0), (1, .int l1), (2, .ref l2), (3, .int l3), (4, .int l4), (5, .int 0)] [] hs Q) : mx_Ok mx_S0 l G (d + 1) mm_LBStore_planOf 0 [(0, .ref l0), (1, .int l1), (2, .ref l2), (3, .int l3), (4, .int l4)] [] hs Q := by
  refine mx_iconst (v := 0) d_LBStore_planOf_0 (by decide) ?_
  refine mx_istore (lv2 := [(5, .int 0), (0, .ref l0), (1, .int l1), (2, .ref l2), (3, .int l3), (4, .int l4)]) d_LBStore_planOf_1 (Nat.le_of_ble_eq_true rfl) rfl ?_
  exact mx_sub [1, 2, 3, 4, 5, 0] rfl h
set_option maxRecDepth 100000 in
theorem wp_LBStore_planOf_3 {l : Launch} {G : mx_G} {d : Nat} {hs : mx_H} {Q : Option Value → mx_H → Prop} (l0 : Nat) (l1 : Int32) (l2 : Nat) (l3 : Int32) (l4 : Int32) (l5 : Int32) (h : (∃ (x2 : Int32), mx_f hs l0 4 2 (.int x2) ∧ ((x2 ≤ l5 → (∃ (x4 : Int32), mx_f hs l0 4 2 (.int x4) ∧ ((x4 < 30 → (¬ l4 < 0 ∧ (Int32.toNatClampNeg l4) * componentBytes .long ≤ 536870912 ∧ ∀ hs5 : mx_H, hs5 = mx_nw hs (102, List.replicate (Int32.toNatClampNeg l4) (.long 0)) (Int32.toNatClampNeg l4) → (∃ vs6 vs7 : List Value, hs5.1 l2 = some (102, vs6) ∧ hs5.1 hs.2.1 = some (102, vs7) ∧ ¬ l3 < 0 ∧ ¬ (0 : Int32) < 0 ∧ ¬ l4 < 0 ∧ (Int32.toNatClampNeg l3) + (Int32.toNatClampNeg l4) ≤ vs6.length ∧ (Int32.toNatClampNeg 0) + (Int32.toNatClampNeg l4) ≤ vs7.length ∧ (∀ v ∈ vs6, fits .long v = true ∧ ∀ x, v ≠ .ref x) ∧ ∀ hs8 : mx_H, hs8 = mx_st hs5 hs.2.1 (102, mx_cpy vs6 vs7 (Int32.toNatClampNeg l3) (Int32.toNatClampNeg 0) (Int32.toNatClampNeg l4)) → (∃ (a10 : Nat), mx_f hs8 l0 4 0 (.ref a10) ∧ (∃ (x12 : Int32), mx_f hs8 l0 4 2 (.int x12) ∧ (∀ hs13 : mx_H, hs13 = mx_nw hs8 (3, [.int 0, .null, .int 0, .int 0, .int 0, .int 0]) 6 → mx_C mx_S0 l G d mm_LBPlan_init [.ref hs8.2.1, .int l1, .ref hs.2.1] hs13 (fun (r14 : Option Value) (hs15 : mx_H) => r14 = none ∧ (∃ vs16 : List Value, hs15.1 a10 = some (113, vs16) ∧ ¬ x12 < 0 ∧ Int32.toNatClampNeg x12 < vs16.length ∧ (∃ fs24 : List Value, hs15.1 hs8.2.1 = some (3, fs24)) ∧ ∀ hs17 : mx_H, hs17 = mx_st hs15 a10 (113, vs16.set (Int32.toNatClampNeg x12) (.ref hs8.2.1)) → (∃ (x19 : Int32), mx_f hs17 l0 4 2 (.int x19) ∧ (∃ fs20 : List Value, hs17.1 l0 = some (4, fs20) ∧ ∀ hs21 : mx_H, hs21 = mx_st hs17 l0 (4, fs20.set 2 (.int (x19 + 1))) → (∃ (x23 : Int32), mx_f hs21 l0 4 2 (.int x23) ∧ Q (some (.long (1000000000000 + (Int32.toInt64 x23)))) hs21))))))))))) ∧ (¬ (x4 < 30) → Q (some (.long (-1000000000009))) hs)))) ∧ (¬ (x2 ≤ l5) → (∃ (a26 : Nat), mx_f hs l0 4 0 (.ref a26) ∧ (∃ (vs27 : List Value) (a28 : Nat), hs.1 a26 = some (113, vs27) ∧ ¬ l5 < 0 ∧ vs27[Int32.toNatClampNeg l5]? = some (.ref a28) ∧ ((∃ fs32 : List Value, hs.1 a28 = some (3, fs32)) ∧ mx_C mx_S0 l G d mm_LBPlan_isAlike [.ref a28, .int l1, .ref l2, .int l3, .int l4] hs (fun (r29 : Option Value) (hs30 : mx_H) => ∃ x31 : Int32, r29 = some (.int x31) ∧ ((x31 = 0 → mx_Ok mx_S0 l G (d + 1) mm_LBStore_planOf 3 [(0, .ref l0), (1, .int l1), (2, .ref l2), (3, .int l3), (4, .int l4), (5, .int (l5 + 1))] [] hs30 Q) ∧ (¬ (x31 = 0) → Q (some (.long ((1000000000000 + (Int32.toInt64 l5)) + 1))) hs30)))))))))) : mx_Ok mx_S0 l G (d + 1) mm_LBStore_planOf 3 [(0, .ref l0), (1, .int l1), (2, .ref l2), (3, .int l3), (4, .int l4), (5, .int l5)] [] hs Q := by
  refine mx_iload d_LBStore_planOf_3 5 rfl ?_
  refine mx_aload_nR d_LBStore_planOf_5 rfl 0 rfl ?_
  obtain ⟨x2, ⟨fs1, e1_, e2_⟩, h⟩ := h
  refine mx_get d_LBStore_planOf_6 (ci := 4) (k := 2) (q := mx_cl0_4) rfl (Nat.le_of_ble_eq_true rfl) kw_135 e1_ e2_ ?_
  refine mx_icmp_ge d_LBStore_planOf_9 (fun c9 => ?_) (fun c9 => ?_)
  · replace h := h.1 c9
    refine mx_aload_nR d_LBStore_planOf_46 rfl 0 rfl ?_
    obtain ⟨x4, ⟨fs3, e1_, e2_⟩, h⟩ := h
    refine mx_get d_LBStore_planOf_47 (ci := 4) (k := 2) (q := mx_cl0_4) rfl (Nat.le_of_ble_eq_true rfl) kw_135 e1_ e2_ ?_
    refine mx_bipush (v := 30) d_LBStore_planOf_50 (by decide) ?_
    refine mx_icmp_lt d_LBStore_planOf_52 (fun c9 => ?_) (fun c9 => ?_)
    · replace h := h.1 c9
      refine mx_iload d_LBStore_planOf_59 4 rfl ?_
      obtain ⟨g1_, g2_, h⟩ := h
      refine mx_newa d_LBStore_planOf_61 (k := 102) (ty := .long) (dv := .long 0) (N := (Int32.toNatClampNeg l4)) rfl rfl rfl (by decide) kw_136 g1_ rfl g2_ ?_
      obtain ⟨hs5, hg_⟩ : ∃ x_, x_ = mx_nw hs (102, List.replicate (Int32.toNatClampNeg l4) (.long 0)) (Int32.toNatClampNeg l4) := ⟨_, rfl⟩
      replace h := h hs5 hg_
      rw [← hg_]
      clear hg_
      refine mx_astore (lv2 := [(5, .ref hs.2.1), (0, .ref l0), (1, .int l1), (2, .ref l2), (3, .int l3), (4, .int l4)]) d_LBStore_planOf_63 (Nat.le_of_ble_eq_true rfl) rfl (Or.inr ⟨_, rfl⟩) ?_
      refine mx_aload_nR d_LBStore_planOf_65 rfl 3 rfl ?_
      refine mx_iload_n d_LBStore_planOf_66 rfl 4 rfl ?_
      refine mx_aloadR d_LBStore_planOf_67 0 rfl ?_
      refine mx_iconst (v := 0) d_LBStore_planOf_69 (by decide) ?_
      refine mx_iload d_LBStore_planOf_70 5 rfl ?_
      obtain ⟨vs6, vs7, e1_, e2_, e3_, e4_, e5_, e6_, e7_, e8_, h⟩ := h
      refine mx_copy (k0 := 102) (k1 := 102) (ty := .long) d_LBStore_planOf_72 kw_137 k_acp1 k_acp2 k_acp3 rfl rfl rfl (by decide) (Nat.le_of_ble_eq_true rfl) e1_ e2_ e3_ e4_ e5_ rfl rfl rfl e6_ e7_ e8_ ?_
      obtain ⟨hs8, hg_⟩ : ∃ x_, x_ = mx_st hs5 hs.2.1 (102, mx_cpy vs6 vs7 (Int32.toNatClampNeg l3) (Int32.toNatClampNeg 0) (Int32.toNatClampNeg l4)) := ⟨_, rfl⟩
      replace h := h hs8 hg_
      rw [← hg_]
      clear hg_
      refine mx_aload_nR d_LBStore_planOf_75 rfl 1 rfl ?_
      obtain ⟨a10, ⟨fs9, e1_, e2_⟩, h⟩ := h
      refine mx_get d_LBStore_planOf_76 (ci := 4) (k := 0) (q := mx_cl0_4) rfl (Nat.le_of_ble_eq_true rfl) kw_129 e1_ e2_ ?_
      refine mx_aload_nR d_LBStore_planOf_79 rfl 1 rfl ?_
      obtain ⟨x12, ⟨fs11, e1_, e2_⟩, h⟩ := h
      refine mx_get d_LBStore_planOf_80 (ci := 4) (k := 2) (q := mx_cl0_4) rfl (Nat.le_of_ble_eq_true rfl) kw_135 e1_ e2_ ?_
      refine mx_new d_LBStore_planOf_83 (ci := 3) (q := mx_cl0_3) (fs := [.int 0, .null, .int 0, .int 0, .int 0, .int 0]) (n := 6) rfl kw_128 kw_138 kw_139 rfl rfl mdf_3 ?_
      obtain ⟨hs13, hg_⟩ : ∃ x_, x_ = mx_nw hs8 (3, [.int 0, .null, .int 0, .int 0, .int 0, .int 0]) 6 := ⟨_, rfl⟩
      replace h := h hs13 hg_
      rw [← hg_]
      clear hg_
      refine mx_dup d_LBStore_planOf_86 rfl ?_
      refine mx_iload_n d_LBStore_planOf_87 rfl 2 rfl ?_
      refine mx_aloadR d_LBStore_planOf_88 0 rfl ?_
      refine mx_invI (Y := mm_LBPlan_init) (As := [.int l1, .ref hs.2.1]) (rest := [.ref hs8.2.1, .int x12, .ref a10]) rfl d_LBStore_planOf_90.1 ok_LBPlan_init kw_140 kw_141 rfl rfl rfl (Nat.le_of_ble_eq_true rfl) (Nat.le_of_ble_eq_true rfl) h (fun r14 hs15 h => ?_)
      obtain ⟨e9_, h⟩ := h
      subst e9_
      show mx_Ok mx_S0 l G (d + 1) mm_LBStore_planOf 93 [(5, .ref hs.2.1), (0, .ref l0), (1, .int l1), (2, .ref l2), (3, .int l3), (4, .int l4)] [.ref hs8.2.1, .int x12, .ref a10] hs15 Q
      obtain ⟨vs16, e1_, e2_, e3_, ⟨fs24, e4_⟩, h⟩ := h
      refine mx_aastR d_LBStore_planOf_93 (ci := 3) (k := 113) rfl rfl (by decide) (by omega) e1_ e2_ e3_ e4_ ?_
      obtain ⟨hs17, hg_⟩ : ∃ x_, x_ = mx_st hs15 a10 (113, vs16.set (Int32.toNatClampNeg x12) (.ref hs8.2.1)) := ⟨_, rfl⟩
      replace h := h hs17 hg_
      rw [← hg_]
      clear hg_
      refine mx_aload_nR d_LBStore_planOf_94 rfl 1 rfl ?_
      refine mx_dup d_LBStore_planOf_95 rfl ?_
      obtain ⟨x19, ⟨fs18, e1_, e2_⟩, h⟩ := h
      refine mx_get d_LBStore_planOf_96 (ci := 4) (k := 2) (q := mx_cl0_4) rfl (Nat.le_of_ble_eq_true rfl) kw_135 e1_ e2_ ?_
      refine mx_iconst (v := 1) d_LBStore_planOf_99 (by decide) ?_
      refine mx_iadd d_LBStore_planOf_100 ?_
      obtain ⟨fs20, e1_, h⟩ := h
      refine mx_put d_LBStore_planOf_101 (ci := 4) (k := 2) (q := mx_cl0_4) (ty := .int) rfl (Nat.le_of_ble_eq_true rfl) kw_135 rfl (by decide +kernel) rfl rfl (by omega) e1_ ?_
      obtain ⟨hs21, hg_⟩ : ∃ x_, x_ = mx_st hs17 l0 (4, fs20.set 2 (.int (x19 + 1))) := ⟨_, rfl⟩
      replace h := h hs21 hg_
      rw [← hg_]
      clear hg_
      refine mx_ldc2 (v := 1000000000000) d_LBStore_planOf_104 kw_131 ?_
      refine mx_aload_nR d_LBStore_planOf_107 rfl 1 rfl ?_
      obtain ⟨x23, ⟨fs22, e1_, e2_⟩, h⟩ := h
      refine mx_get d_LBStore_planOf_108 (ci := 4) (k := 2) (q := mx_cl0_4) rfl (Nat.le_of_ble_eq_true rfl) kw_135 e1_ e2_ ?_
      refine mx_i2l d_LBStore_planOf_111 ?_
      refine mx_ladd d_LBStore_planOf_112 ?_
      exact mx_lreturn d_LBStore_planOf_113 rfl h
    · replace h := h.2 c9
      refine mx_ldc2 (v := (-1000000000009)) d_LBStore_planOf_55 kw_142 ?_
      exact mx_lreturn d_LBStore_planOf_58 rfl h
  · replace h := h.2 c9
    refine mx_aload_nR d_LBStore_planOf_12 rfl 0 rfl ?_
    obtain ⟨a26, ⟨fs25, e1_, e2_⟩, h⟩ := h
    refine mx_get d_LBStore_planOf_13 (ci := 4) (k := 0) (q := mx_cl0_4) rfl (Nat.le_of_ble_eq_true rfl) kw_129 e1_ e2_ ?_
    refine mx_iload d_LBStore_planOf_16 5 rfl ?_
    obtain ⟨vs27, a28, e1_, e2_, e3_, h⟩ := h
    refine mx_aald (C := "LazyBuilder$Plan") d_LBStore_planOf_18 (k := 113) rfl e1_ e2_ e3_ ?_
    refine mx_iload_n d_LBStore_planOf_19 rfl 1 rfl ?_
    refine mx_aload_nR d_LBStore_planOf_20 rfl 2 rfl ?_
    refine mx_iload_n d_LBStore_planOf_21 rfl 3 rfl ?_
    refine mx_iload d_LBStore_planOf_22 4 rfl ?_
    obtain ⟨⟨fs32, e1_⟩, h⟩ := h
    refine mx_invV (Y := mm_LBPlan_isAlike) (As := [.int l1, .ref l2, .int l3, .int l4]) (rest := []) d_LBStore_planOf_24.1 ok_LBPlan_isAlike kw_143 kw_144 kw_145 rfl rfl (Nat.le_of_ble_eq_true rfl) (Nat.le_of_ble_eq_true rfl) e1_ (q := mx_cl0_3) rfl rfl h (fun r29 hs30 h => ?_)
    obtain ⟨x31, e9_, h⟩ := h
    subst e9_
    show mx_Ok mx_S0 l G (d + 1) mm_LBStore_planOf 27 [(0, .ref l0), (1, .int l1), (2, .ref l2), (3, .int l3), (4, .int l4), (5, .int l5)] [.int x31] hs30 Q
    refine mx_if_eq d_LBStore_planOf_27 (fun c9 => ?_) (fun c9 => ?_)
    · replace h := h.1 c9
      refine mx_iinc (v := l5 + 1) (lv2 := [(5, .int (l5 + 1)), (0, .ref l0), (1, .int l1), (2, .ref l2), (3, .int l3), (4, .int l4)]) d_LBStore_planOf_40 5 rfl (by rfl) (Nat.le_of_ble_eq_true rfl) rfl ?_
      refine mx_goto d_LBStore_planOf_43 ?_
      exact mx_sub [1, 2, 3, 4, 5, 0] rfl h
    · replace h := h.2 c9
      refine mx_ldc2 (v := 1000000000000) d_LBStore_planOf_30 kw_131 ?_
      refine mx_iload d_LBStore_planOf_33 5 rfl ?_
      refine mx_i2l d_LBStore_planOf_35 ?_
      refine mx_ladd d_LBStore_planOf_36 ?_
      refine mx_lconst (v := 1) d_LBStore_planOf_37 rfl ?_
      refine mx_ladd d_LBStore_planOf_38 ?_
      exact mx_lreturn d_LBStore_planOf_39 rfl h
set_option maxRecDepth 100000 in
theorem wp_LBStore_partOf_0 {l : Launch} {G : mx_G} {d : Nat} {hs : mx_H} {Q : Option Value → mx_H → Prop} (l0 : Nat) (l1 : Int64) (l3 : Int32) (h : ((∃ fs9 : List Value, hs.1 l0 = some (4, fs9)) ∧ mx_C mx_S0 l G d mm_LBStore_planIn [.ref l0, .long l1] hs (fun (r1 : Option Value) (hs2 : mx_H) => ∃ v3 : Value, r1 = some v3 ∧ (v3 = .null ∨ ∃ z, v3 = .ref z) ∧ ((v3 = .null → Q (some (.long l1)) hs2) ∧ (∀ a4 : Nat, v3 = .ref a4 → (∃ (x6 : Int32), mx_f hs2 a4 3 2 (.int x6) ∧ ((x6 = 0 → ((0 < l3 → mx_Ok mx_S0 l G (d + 1) mm_LBStore_partOf 40 [(0, .ref l0), (3, .int l3), (4, .ref a4), (5, .int 0)] [] hs2 Q) ∧ (¬ (0 < l3) → Q (some (.long (-1000000000007))) hs2))) ∧ (¬ (x6 = 0) → (∃ (x8 : Int32), mx_f hs2 a4 3 5 (.int x8) ∧ Q (some (.long (Int32.toInt64 x8))) hs2))))))))) : mx_Ok mx_S0 l G (d + 1) mm_LBStore_partOf 0 [(0, .ref l0), (1, .long l1), (3, .int l3)] [] hs Q := by
  refine mx_aload_nR d_LBStore_partOf_0 rfl 0 rfl ?_
  refine mx_lload_n d_LBStore_partOf_1 rfl 1 rfl ?_
  obtain ⟨⟨fs9, e1_⟩, h⟩ := h
  refine mx_invV (Y := mm_LBStore_planIn) (As := [.long l1]) (rest := []) d_LBStore_partOf_2.1 ok_LBStore_planIn kw_132 kw_133 kw_134 rfl rfl (Nat.le_of_ble_eq_true rfl) (Nat.le_of_ble_eq_true rfl) e1_ (q := mx_cl0_4) rfl rfl h (fun r1 hs2 h => ?_)
  obtain ⟨v3, e9_, hv3, h⟩ := h
  subst e9_
  show mx_Ok mx_S0 l G (d + 1) mm_LBStore_partOf 5 [(0, .ref l0), (1, .long l1), (3, .int l3)] [v3] hs2 Q
  refine mx_astore (lv2 := [(4, v3), (0, .ref l0), (1, .long l1), (3, .int l3)]) d_LBStore_partOf_5 (Nat.le_of_ble_eq_true rfl) rfl hv3 ?_
  refine mx_aload d_LBStore_partOf_7 0 rfl hv3 ?_
  refine mx_ifnonnull d_LBStore_partOf_9 hv3 (fun a4 c9 => ?_) (fun c9 => ?_)
  · replace h := h.2 a4 c9
    subst c9
    refine mx_aloadR d_LBStore_partOf_14 0 rfl ?_
    obtain ⟨x6, ⟨fs5, e1_, e2_⟩, h⟩ := h
    refine mx_get d_LBStore_partOf_16 (ci := 3) (k := 2) (q := mx_cl0_3) rfl (Nat.le_of_ble_eq_true rfl) kw_146 e1_ e2_ ?_
    refine mx_if_eq d_LBStore_partOf_19 (fun c9 => ?_) (fun c9 => ?_)
    · replace h := h.1 c9
      refine mx_iload_n d_LBStore_partOf_29 rfl 3 rfl ?_
      refine mx_if_gt d_LBStore_partOf_30 (fun c9 => ?_) (fun c9 => ?_)
      · replace h := h.1 c9
        refine mx_iconst (v := 0) d_LBStore_partOf_37 (by decide) ?_
        refine mx_istore (lv2 := [(5, .int 0), (4, .ref a4), (0, .ref l0), (1, .long l1), (3, .int l3)]) d_LBStore_partOf_38 (Nat.le_of_ble_eq_true rfl) rfl ?_
        exact mx_sub [2, 4, 1, 0] rfl h
      · replace h := h.2 c9
        refine mx_ldc2 (v := (-1000000000007)) d_LBStore_partOf_33 kw_147 ?_
        exact mx_lreturn d_LBStore_partOf_36 rfl h
    · replace h := h.2 c9
      refine mx_aloadR d_LBStore_partOf_22 0 rfl ?_
      obtain ⟨x8, ⟨fs7, e1_, e2_⟩, h⟩ := h
      refine mx_get d_LBStore_partOf_24 (ci := 3) (k := 5) (q := mx_cl0_3) rfl (Nat.le_of_ble_eq_true rfl) kw_148 e1_ e2_ ?_
      refine mx_i2l d_LBStore_partOf_27 ?_
      exact mx_lreturn d_LBStore_partOf_28 rfl h
  · replace h := h.1 c9
    subst c9
    refine mx_lload_n d_LBStore_partOf_12 rfl 2 rfl ?_
    exact mx_lreturn d_LBStore_partOf_13 rfl h
set_option maxRecDepth 100000 in
theorem wp_LBStore_partOf_40 {l : Launch} {G : mx_G} {d : Nat} {hs : mx_H} {Q : Option Value → mx_H → Prop} (l0 : Nat) (l3 : Int32) (l4 : Nat) (l5 : Int32) (h : (∃ (a2 : Nat), mx_f hs l4 3 1 (.ref a2) ∧ (∃ vs3 : List Value, hs.1 a2 = some (102, vs3) ∧ (((Int32.ofNat vs3.length) ≤ l5 → ((∃ fs7 : List Value, hs.1 l0 = some (4, fs7)) ∧ mx_C mx_S0 l G d mm_LBStore_finish [.ref l0, .ref l4] hs (fun (r4 : Option Value) (hs5 : mx_H) => ∃ x6 : Int64, r4 = some (.long x6) ∧ Q (some (.long x6)) hs5))) ∧ (¬ ((Int32.ofNat vs3.length) ≤ l5) → (∃ (a9 : Nat), mx_f hs l4 3 1 (.ref a9) ∧ (∃ (vs10 : List Value) (x11 : Int64), hs.1 a9 = some (102, vs10) ∧ ¬ l5 < 0 ∧ vs10[Int32.toNatClampNeg l5]? = some (.long x11) ∧ ((∃ fs18 : List Value, hs.1 l0 = some (4, fs18)) ∧ mx_C mx_S0 l G d mm_LBStore_partOf [.ref l0, .long x11, .int (l3 - 1)] hs (fun (r12 : Option Value) (hs13 : mx_H) => ∃ x14 : Int64, r12 = some (.long x14) ∧ mx_C mx_S0 l G d mm_LB_isFailure [.long x14] hs13 (fun (r15 : Option Value) (hs16 : mx_H) => ∃ x17 : Int32, r15 = some (.int x17) ∧ ((x17 = 0 → mx_Ok mx_S0 l G (d + 1) mm_LBStore_partOf 40 [(0, .ref l0), (3, .int l3), (4, .ref l4), (5, .int (l5 + 1))] [] hs16 Q) ∧ (¬ (x17 = 0) → Q (some (.long x14)) hs16)))))))))))) : mx_Ok mx_S0 l G (d + 1) mm_LBStore_partOf 40 [(0, .ref l0), (3, .int l3), (4, .ref l4), (5, .int l5)] [] hs Q := by
  refine mx_iload d_LBStore_partOf_40 3 rfl ?_
  refine mx_aloadR d_LBStore_partOf_42 2 rfl ?_
  obtain ⟨a2, ⟨fs1, e1_, e2_⟩, h⟩ := h
  refine mx_get d_LBStore_partOf_44 (ci := 3) (k := 1) (q := mx_cl0_3) rfl (Nat.le_of_ble_eq_true rfl) kw_149 e1_ e2_ ?_
  obtain ⟨vs3, e1_, h⟩ := h
  refine mx_alen d_LBStore_partOf_47 (k := 102) rfl e1_ ?_
  refine mx_icmp_ge d_LBStore_partOf_48 (fun c9 => ?_) (fun c9 => ?_)
  · replace h := h.1 c9
    refine mx_aload_nR d_LBStore_partOf_85 rfl 0 rfl ?_
    refine mx_aloadR d_LBStore_partOf_86 2 rfl ?_
    obtain ⟨⟨fs7, e1_⟩, h⟩ := h
    refine mx_invV (Y := mm_LBStore_finish) (As := [.ref l4]) (rest := []) d_LBStore_partOf_88.1 ok_LBStore_finish kw_150 kw_151 kw_152 rfl rfl (Nat.le_of_ble_eq_true rfl) (Nat.le_of_ble_eq_true rfl) e1_ (q := mx_cl0_4) rfl rfl h (fun r4 hs5 h => ?_)
    obtain ⟨x6, e9_, h⟩ := h
    subst e9_
    show mx_Ok mx_S0 l G (d + 1) mm_LBStore_partOf 91 [(0, .ref l0), (3, .int l3), (4, .ref l4), (5, .int l5)] [.long x6] hs5 Q
    exact mx_lreturn d_LBStore_partOf_91 rfl h
  · replace h := h.2 c9
    refine mx_aload_nR d_LBStore_partOf_51 rfl 0 rfl ?_
    refine mx_aloadR d_LBStore_partOf_52 2 rfl ?_
    obtain ⟨a9, ⟨fs8, e1_, e2_⟩, h⟩ := h
    refine mx_get d_LBStore_partOf_54 (ci := 3) (k := 1) (q := mx_cl0_3) rfl (Nat.le_of_ble_eq_true rfl) kw_149 e1_ e2_ ?_
    refine mx_iload d_LBStore_partOf_57 3 rfl ?_
    obtain ⟨vs10, x11, e1_, e2_, e3_, h⟩ := h
    refine mx_lald d_LBStore_partOf_59 (k := 102) rfl e1_ e2_ e3_ ?_
    refine mx_iload_n d_LBStore_partOf_60 rfl 1 rfl ?_
    refine mx_iconst (v := 1) d_LBStore_partOf_61 (by decide) ?_
    refine mx_isub d_LBStore_partOf_62 ?_
    obtain ⟨⟨fs18, e1_⟩, h⟩ := h
    refine mx_invV (Y := mm_LBStore_partOf) (As := [.long x11, .int (l3 - 1)]) (rest := []) d_LBStore_partOf_63.1 ok_LBStore_partOf kw_153 kw_62 kw_63 rfl rfl (Nat.le_of_ble_eq_true rfl) (Nat.le_of_ble_eq_true rfl) e1_ (q := mx_cl0_4) rfl rfl h (fun r12 hs13 h => ?_)
    obtain ⟨x14, e9_, h⟩ := h
    subst e9_
    show mx_Ok mx_S0 l G (d + 1) mm_LBStore_partOf 66 [(0, .ref l0), (3, .int l3), (4, .ref l4), (5, .int l5)] [.long x14] hs13 Q
    refine mx_lstore (lv2 := [(6, .long x14), (0, .ref l0), (3, .int l3), (4, .ref l4), (5, .int l5)]) d_LBStore_partOf_66 (Nat.le_of_ble_eq_true rfl) rfl ?_
    refine mx_lload d_LBStore_partOf_68 0 rfl ?_
    refine mx_invSN (Y := mm_LB_isFailure) (As := [.long x14]) (rest := []) d_LBStore_partOf_70.1 ok_LB_isFailure kn_3 kw_54 rfl rfl (Nat.le_of_ble_eq_true rfl) (Nat.le_of_ble_eq_true rfl) h (fun r15 hs16 h => ?_)
    obtain ⟨x17, e9_, h⟩ := h
    subst e9_
    show mx_Ok mx_S0 l G (d + 1) mm_LBStore_partOf 73 [(6, .long x14), (0, .ref l0), (3, .int l3), (4, .ref l4), (5, .int l5)] [.int x17] hs16 Q
    refine mx_if_eq d_LBStore_partOf_73 (fun c9 => ?_) (fun c9 => ?_)
    · replace h := h.1 c9
      refine mx_iinc (v := l5 + 1) (lv2 := [(5, .int (l5 + 1)), (6, .long x14), (0, .ref l0), (3, .int l3), (4, .ref l4)]) d_LBStore_partOf_79 4 rfl (by rfl) (Nat.le_of_ble_eq_true rfl) rfl ?_
      refine mx_goto d_LBStore_partOf_82 ?_
      exact mx_sub [2, 3, 4, 0] rfl h
    · replace h := h.2 c9
      refine mx_lload d_LBStore_partOf_76 0 rfl ?_
      exact mx_lreturn d_LBStore_partOf_78 rfl h
set_option maxRecDepth 100000 in
theorem wp_LBStore_finish_0 {l : Launch} {G : mx_G} {d : Nat} {hs : mx_H} {Q : Option Value → mx_H → Prop} (l0 : Nat) (l1 : Nat) (h : mx_Ok mx_S0 l G (d + 1) mm_LBStore_finish 10 [(0, .ref l0), (1, .ref l1), (2, .int 0), (3, .int 1), (4, .int 0), (5, .int 0)] [] hs Q) : mx_Ok mx_S0 l G (d + 1) mm_LBStore_finish 0 [(0, .ref l0), (1, .ref l1)] [] hs Q := by
  refine mx_iconst (v := 0) d_LBStore_finish_0 (by decide) ?_
  refine mx_istore_n (lv2 := [(2, .int 0), (0, .ref l0), (1, .ref l1)]) d_LBStore_finish_1 rfl (Nat.le_of_ble_eq_true rfl) rfl ?_
  refine mx_iconst (v := 1) d_LBStore_finish_2 (by decide) ?_
  refine mx_istore_n (lv2 := [(3, .int 1), (2, .int 0), (0, .ref l0), (1, .ref l1)]) d_LBStore_finish_3 rfl (Nat.le_of_ble_eq_true rfl) rfl ?_
  refine mx_iconst (v := 0) d_LBStore_finish_4 (by decide) ?_
  refine mx_istore (lv2 := [(4, .int 0), (3, .int 1), (2, .int 0), (0, .ref l0), (1, .ref l1)]) d_LBStore_finish_5 (Nat.le_of_ble_eq_true rfl) rfl ?_
  refine mx_iconst (v := 0) d_LBStore_finish_7 (by decide) ?_
  refine mx_istore (lv2 := [(5, .int 0), (4, .int 0), (3, .int 1), (2, .int 0), (0, .ref l0), (1, .ref l1)]) d_LBStore_finish_8 (Nat.le_of_ble_eq_true rfl) rfl ?_
  exact mx_sub [4, 5, 3, 2, 1, 0] rfl h
set_option maxRecDepth 100000 in
theorem wp_LBStore_finish_10 {l : Launch} {G : mx_G} {d : Nat} {hs : mx_H} {Q : Option Value → mx_H → Prop} (l0 : Nat) (l1 : Nat) (l2 : Int32) (l3 : Int32) (l4 : Int32) (l5 : Int32) (h : (∃ (a2 : Nat), mx_f hs l1 3 1 (.ref a2) ∧ (∃ vs3 : List Value, hs.1 a2 = some (102, vs3) ∧ (((Int32.ofNat vs3.length) ≤ l5 → (∃ (a5 : Nat), mx_f hs l0 4 1 (.ref a5) ∧ (∃ (x7 : Int32), mx_f hs l1 3 0 (.int x7) ∧ (∃ (vs8 : List Value) (x9 : Int32), hs.1 a5 = some (100, vs8) ∧ ¬ x7 < 0 ∧ vs8[Int32.toNatClampNeg x7]? = some (.int x9) ∧ ((x9 = 0 → ((∃ fs13 : List Value, hs.1 l0 = some (4, fs13)) ∧ mx_C mx_S0 l G d mm_LBStore_finishWith [.ref l0, .ref l1, .int l2] hs (fun (r10 : Option Value) (hs11 : mx_H) => ∃ x12 : Int32, r10 = some (.int x12) ∧ Q (some (.long (Int32.toInt64 x12))) hs11))) ∧ (x9 = 1 → ((∃ fs17 : List Value, hs.1 l0 = some (4, fs17)) ∧ mx_C mx_S0 l G d mm_LBStore_finishWith [.ref l0, .ref l1, .int l3] hs (fun (r14 : Option Value) (hs15 : mx_H) => ∃ x16 : Int32, r14 = some (.int x16) ∧ Q (some (.long (Int32.toInt64 x16))) hs15))) ∧ (x9 = 2 → ((∃ fs21 : List Value, hs.1 l0 = some (4, fs21)) ∧ mx_C mx_S0 l G d mm_LBStore_finishWith [.ref l0, .ref l1, .int l4] hs (fun (r18 : Option Value) (hs19 : mx_H) => ∃ x20 : Int32, r18 = some (.int x20) ∧ Q (some (.long (Int32.toInt64 x20))) hs19))) ∧ (x9 = 3 → ((100 ≤ l4 → Q (some (.long (-1000000000007))) hs) ∧ (¬ (100 ≤ l4) → (∃ (a23 : Nat), mx_f hs l1 3 1 (.ref a23) ∧ (∃ vs24 : List Value, hs.1 a23 = some (102, vs24) ∧ ((∃ fs28 : List Value, hs.1 l0 = some (4, fs28)) ∧ mx_C mx_S0 l G d mm_LBStore_finishWith [.ref l0, .ref l1, .int (Int32.ofNat vs24.length)] hs (fun (r25 : Option Value) (hs26 : mx_H) => ∃ x27 : Int32, r25 = some (.int x27) ∧ Q (some (.long (Int32.toInt64 x27))) hs26))))))) ∧ (¬ x9 = 0 → ¬ x9 = 1 → ¬ x9 = 2 → ¬ x9 = 3 → Q (some (.long (-1000000000007))) hs)))))) ∧ (¬ ((Int32.ofNat vs3.length) ≤ l5) → (∃ (a30 : Nat), mx_f hs l1 3 1 (.ref a30) ∧ (∃ (vs31 : List Value) (x32 : Int64), hs.1 a30 = some (102, vs31) ∧ ¬ l5 < 0 ∧ vs31[Int32.toNatClampNeg l5]? = some (.long x32) ∧ ((∃ fs43 : List Value, hs.1 l0 = some (4, fs43)) ∧ mx_C mx_S0 l G d mm_LBStore_planIn [.ref l0, .long x32] hs (fun (r33 : Option Value) (hs34 : mx_H) => ∃ v35 : Value, r33 = some v35 ∧ (v35 = .null ∨ ∃ z, v35 = .ref z) ∧ ((v35 = .null → (∃ (a40 : Nat), mx_f hs34 l1 3 1 (.ref a40) ∧ (∃ (vs41 : List Value) (x42 : Int64), hs34.1 a40 = some (102, vs41) ∧ ¬ l5 < 0 ∧ vs41[Int32.toNatClampNeg l5]? = some (.long x42) ∧ mx_Ok mx_S0 l G (d + 1) mm_LBStore_finish 54 [(0, .ref l0), (1, .ref l1), (2, .int l2), (3, .int l3), (4, .int l4), (5, .int l5)] [.int (Int64.toInt32 x42)] hs34 Q))) ∧ (∀ a36 : Nat, v35 = .ref a36 → (∃ (x38 : Int32), mx_f hs34 a36 3 5 (.int x38) ∧ mx_Ok mx_S0 l G (d + 1) mm_LBStore_finish 54 [(0, .ref l0), (1, .ref l1), (2, .int l2), (3, .int l3), (4, .int l4), (5, .int l5)] [.int x38] hs34 Q)))))))))))) : mx_Ok mx_S0 l G (d + 1) mm_LBStore_finish 10 [(0, .ref l0), (1, .ref l1), (2, .int l2), (3, .int l3), (4, .int l4), (5, .int l5)] [] hs Q := by
  refine mx_iload d_LBStore_finish_10 5 rfl ?_
  refine mx_aload_nR d_LBStore_finish_12 rfl 1 rfl ?_
  obtain ⟨a2, ⟨fs1, e1_, e2_⟩, h⟩ := h
  refine mx_get d_LBStore_finish_13 (ci := 3) (k := 1) (q := mx_cl0_3) rfl (Nat.le_of_ble_eq_true rfl) kw_149 e1_ e2_ ?_
  obtain ⟨vs3, e1_, h⟩ := h
  refine mx_alen d_LBStore_finish_16 (k := 102) rfl e1_ ?_
  refine mx_icmp_ge d_LBStore_finish_17 (fun c9 => ?_) (fun c9 => ?_)
  · replace h := h.1 c9
    refine mx_aload_nR d_LBStore_finish_91 rfl 0 rfl ?_
    obtain ⟨a5, ⟨fs4, e1_, e2_⟩, h⟩ := h
    refine mx_get d_LBStore_finish_92 (ci := 4) (k := 1) (q := mx_cl0_4) rfl (Nat.le_of_ble_eq_true rfl) kw_130 e1_ e2_ ?_
    refine mx_aload_nR d_LBStore_finish_95 rfl 1 rfl ?_
    obtain ⟨x7, ⟨fs6, e1_, e2_⟩, h⟩ := h
    refine mx_get d_LBStore_finish_96 (ci := 3) (k := 0) (q := mx_cl0_3) rfl (Nat.le_of_ble_eq_true rfl) kw_154 e1_ e2_ ?_
    obtain ⟨vs8, x9, e1_, e2_, e3_, h⟩ := h
    refine mx_iald d_LBStore_finish_99 (k := 100) rfl e1_ e2_ e3_ ?_
    by_cases c0_ : x9 = 0
    · replace h := h.1 c0_
      refine mx_tableIn d_LBStore_finish_100 (by rw [c0_]; decide) (by rw [c0_]; decide) (o := 32) (by rw [c0_]; decide) (tgt := 132) (by decide) ?_
      refine mx_aload_nR d_LBStore_finish_132 rfl 0 rfl ?_
      refine mx_aload_nR d_LBStore_finish_133 rfl 1 rfl ?_
      refine mx_iload_n d_LBStore_finish_134 rfl 2 rfl ?_
      obtain ⟨⟨fs13, e1_⟩, h⟩ := h
      refine mx_invV (Y := mm_LBStore_finishWith) (As := [.ref l1, .int l2]) (rest := []) d_LBStore_finish_135.1 ok_LBStore_finishWith kw_155 kw_156 kw_157 rfl rfl (Nat.le_of_ble_eq_true rfl) (Nat.le_of_ble_eq_true rfl) e1_ (q := mx_cl0_4) rfl rfl h (fun r10 hs11 h => ?_)
      obtain ⟨x12, e9_, h⟩ := h
      subst e9_
      show mx_Ok mx_S0 l G (d + 1) mm_LBStore_finish 138 [(0, .ref l0), (1, .ref l1), (2, .int l2), (3, .int l3), (4, .int l4), (5, .int l5)] [.int x12] hs11 Q
      refine mx_i2l d_LBStore_finish_138 ?_
      exact mx_lreturn d_LBStore_finish_139 rfl h
    by_cases c1_ : x9 = 1
    · replace h := h.2.1 c1_
      refine mx_tableIn d_LBStore_finish_100 (by rw [c1_]; decide) (by rw [c1_]; decide) (o := 40) (by rw [c1_]; decide) (tgt := 140) (by decide) ?_
      refine mx_aload_nR d_LBStore_finish_140 rfl 0 rfl ?_
      refine mx_aload_nR d_LBStore_finish_141 rfl 1 rfl ?_
      refine mx_iload_n d_LBStore_finish_142 rfl 3 rfl ?_
      obtain ⟨⟨fs17, e1_⟩, h⟩ := h
      refine mx_invV (Y := mm_LBStore_finishWith) (As := [.ref l1, .int l3]) (rest := []) d_LBStore_finish_143.1 ok_LBStore_finishWith kw_155 kw_156 kw_157 rfl rfl (Nat.le_of_ble_eq_true rfl) (Nat.le_of_ble_eq_true rfl) e1_ (q := mx_cl0_4) rfl rfl h (fun r14 hs15 h => ?_)
      obtain ⟨x16, e9_, h⟩ := h
      subst e9_
      show mx_Ok mx_S0 l G (d + 1) mm_LBStore_finish 146 [(0, .ref l0), (1, .ref l1), (2, .int l2), (3, .int l3), (4, .int l4), (5, .int l5)] [.int x16] hs15 Q
      refine mx_i2l d_LBStore_finish_146 ?_
      exact mx_lreturn d_LBStore_finish_147 rfl h
    by_cases c2_ : x9 = 2
    · replace h := h.2.2.1 c2_
      refine mx_tableIn d_LBStore_finish_100 (by rw [c2_]; decide) (by rw [c2_]; decide) (o := 48) (by rw [c2_]; decide) (tgt := 148) (by decide) ?_
      refine mx_aload_nR d_LBStore_finish_148 rfl 0 rfl ?_
      refine mx_aload_nR d_LBStore_finish_149 rfl 1 rfl ?_
      refine mx_iload d_LBStore_finish_150 4 rfl ?_
      obtain ⟨⟨fs21, e1_⟩, h⟩ := h
      refine mx_invV (Y := mm_LBStore_finishWith) (As := [.ref l1, .int l4]) (rest := []) d_LBStore_finish_152.1 ok_LBStore_finishWith kw_155 kw_156 kw_157 rfl rfl (Nat.le_of_ble_eq_true rfl) (Nat.le_of_ble_eq_true rfl) e1_ (q := mx_cl0_4) rfl rfl h (fun r18 hs19 h => ?_)
      obtain ⟨x20, e9_, h⟩ := h
      subst e9_
      show mx_Ok mx_S0 l G (d + 1) mm_LBStore_finish 155 [(0, .ref l0), (1, .ref l1), (2, .int l2), (3, .int l3), (4, .int l4), (5, .int l5)] [.int x20] hs19 Q
      refine mx_i2l d_LBStore_finish_155 ?_
      exact mx_lreturn d_LBStore_finish_156 rfl h
    by_cases c3_ : x9 = 3
    · replace h := h.2.2.2.1 c3_
      refine mx_tableIn d_LBStore_finish_100 (by rw [c3_]; decide) (by rw [c3_]; decide) (o := 57) (by rw [c3_]; decide) (tgt := 157) (by decide) ?_
      refine mx_iload d_LBStore_finish_157 4 rfl ?_
      refine mx_bipush (v := 100) d_LBStore_finish_159 (by decide) ?_
      refine mx_icmp_ge d_LBStore_finish_161 (fun c9 => ?_) (fun c9 => ?_)
      · replace h := h.1 c9
        refine mx_ldc2 (v := (-1000000000007)) d_LBStore_finish_178 kw_147 ?_
        exact mx_lreturn d_LBStore_finish_181 rfl h
      · replace h := h.2 c9
        refine mx_aload_nR d_LBStore_finish_164 rfl 0 rfl ?_
        refine mx_aload_nR d_LBStore_finish_165 rfl 1 rfl ?_
        refine mx_aload_nR d_LBStore_finish_166 rfl 1 rfl ?_
        obtain ⟨a23, ⟨fs22, e1_, e2_⟩, h⟩ := h
        refine mx_get d_LBStore_finish_167 (ci := 3) (k := 1) (q := mx_cl0_3) rfl (Nat.le_of_ble_eq_true rfl) kw_149 e1_ e2_ ?_
        obtain ⟨vs24, e1_, h⟩ := h
        refine mx_alen d_LBStore_finish_170 (k := 102) rfl e1_ ?_
        obtain ⟨⟨fs28, e1_⟩, h⟩ := h
        refine mx_invV (Y := mm_LBStore_finishWith) (As := [.ref l1, .int (Int32.ofNat vs24.length)]) (rest := []) d_LBStore_finish_171.1 ok_LBStore_finishWith kw_155 kw_156 kw_157 rfl rfl (Nat.le_of_ble_eq_true rfl) (Nat.le_of_ble_eq_true rfl) e1_ (q := mx_cl0_4) rfl rfl h (fun r25 hs26 h => ?_)
        obtain ⟨x27, e9_, h⟩ := h
        subst e9_
        show mx_Ok mx_S0 l G (d + 1) mm_LBStore_finish 174 [(0, .ref l0), (1, .ref l1), (2, .int l2), (3, .int l3), (4, .int l4), (5, .int l5)] [.int x27] hs26 Q
        refine mx_i2l d_LBStore_finish_174 ?_
        refine mx_goto d_LBStore_finish_175 ?_
        exact mx_lreturn d_LBStore_finish_181 rfl h
    replace h := h.2.2.2.2 c0_ c1_ c2_ c3_
    have z0_ := lv_neT c0_ (a := 0) (by decide)
    have z1_ := lv_neT c1_ (a := 1) (by decide)
    have z2_ := lv_neT c2_ (a := 2) (by decide)
    have z3_ := lv_neT c3_ (a := 3) (by decide)
    refine mx_tableOut d_LBStore_finish_100 (by omega) (tgt := 182) (by decide) ?_
    refine mx_ldc2 (v := (-1000000000007)) d_LBStore_finish_182 kw_147 ?_
    exact mx_lreturn d_LBStore_finish_185 rfl h
  · replace h := h.2 c9
    refine mx_aload_nR d_LBStore_finish_20 rfl 0 rfl ?_
    refine mx_aload_nR d_LBStore_finish_21 rfl 1 rfl ?_
    obtain ⟨a30, ⟨fs29, e1_, e2_⟩, h⟩ := h
    refine mx_get d_LBStore_finish_22 (ci := 3) (k := 1) (q := mx_cl0_3) rfl (Nat.le_of_ble_eq_true rfl) kw_149 e1_ e2_ ?_
    refine mx_iload d_LBStore_finish_25 5 rfl ?_
    obtain ⟨vs31, x32, e1_, e2_, e3_, h⟩ := h
    refine mx_lald d_LBStore_finish_27 (k := 102) rfl e1_ e2_ e3_ ?_
    obtain ⟨⟨fs43, e1_⟩, h⟩ := h
    refine mx_invV (Y := mm_LBStore_planIn) (As := [.long x32]) (rest := []) d_LBStore_finish_28.1 ok_LBStore_planIn kw_132 kw_133 kw_134 rfl rfl (Nat.le_of_ble_eq_true rfl) (Nat.le_of_ble_eq_true rfl) e1_ (q := mx_cl0_4) rfl rfl h (fun r33 hs34 h => ?_)
    obtain ⟨v35, e9_, hv35, h⟩ := h
    subst e9_
    show mx_Ok mx_S0 l G (d + 1) mm_LBStore_finish 31 [(0, .ref l0), (1, .ref l1), (2, .int l2), (3, .int l3), (4, .int l4), (5, .int l5)] [v35] hs34 Q
    refine mx_astore (lv2 := [(6, v35), (0, .ref l0), (1, .ref l1), (2, .int l2), (3, .int l3), (4, .int l4), (5, .int l5)]) d_LBStore_finish_31 (Nat.le_of_ble_eq_true rfl) rfl hv35 ?_
    refine mx_aload d_LBStore_finish_33 0 rfl hv35 ?_
    refine mx_ifnonnull d_LBStore_finish_35 hv35 (fun a36 c9 => ?_) (fun c9 => ?_)
    · replace h := h.2 a36 c9
      subst c9
      refine mx_aloadR d_LBStore_finish_49 0 rfl ?_
      obtain ⟨x38, ⟨fs37, e1_, e2_⟩, h⟩ := h
      refine mx_get d_LBStore_finish_51 (ci := 3) (k := 5) (q := mx_cl0_3) rfl (Nat.le_of_ble_eq_true rfl) kw_148 e1_ e2_ ?_
      exact mx_sub [1, 2, 3, 4, 5, 6] rfl h
    · replace h := h.1 c9
      subst c9
      refine mx_aload_nR d_LBStore_finish_38 rfl 2 rfl ?_
      obtain ⟨a40, ⟨fs39, e1_, e2_⟩, h⟩ := h
      refine mx_get d_LBStore_finish_39 (ci := 3) (k := 1) (q := mx_cl0_3) rfl (Nat.le_of_ble_eq_true rfl) kw_149 e1_ e2_ ?_
      refine mx_iload d_LBStore_finish_42 6 rfl ?_
      obtain ⟨vs41, x42, e1_, e2_, e3_, h⟩ := h
      refine mx_lald d_LBStore_finish_44 (k := 102) rfl e1_ e2_ e3_ ?_
      refine mx_l2i d_LBStore_finish_45 ?_
      refine mx_goto d_LBStore_finish_46 ?_
      exact mx_sub [1, 2, 3, 4, 5, 6] rfl h
set_option maxRecDepth 100000 in
theorem wp_LBStore_finish_54 {l : Launch} {G : mx_G} {d : Nat} {hs : mx_H} {Q : Option Value → mx_H → Prop} (l0 : Nat) (l1 : Nat) (l2 : Int32) (l3 : Int32) (l4 : Int32) (l5 : Int32) (s0 : Int32) (h : ((¬ l5 = 0 → mx_Ok mx_S0 l G (d + 1) mm_LBStore_finish 83 [(0, .ref l0), (1, .ref l1), (2, .int (l2 + s0)), (3, .int (l3 * s0)), (5, .int l5)] [.int (if l4 < s0 then s0 else l4)] hs Q) ∧ (¬ (¬ l5 = 0) → mx_Ok mx_S0 l G (d + 1) mm_LBStore_finish 83 [(0, .ref l0), (1, .ref l1), (2, .int (l2 + s0)), (3, .int (l3 * s0)), (5, .int l5)] [.int s0] hs Q))) : mx_Ok mx_S0 l G (d + 1) mm_LBStore_finish 54 [(0, .ref l0), (1, .ref l1), (2, .int l2), (3, .int l3), (4, .int l4), (5, .int l5)] [.int s0] hs Q := by
  refine mx_istore (lv2 := [(7, .int s0), (0, .ref l0), (1, .ref l1), (2, .int l2), (3, .int l3), (4, .int l4), (5, .int l5)]) d_LBStore_finish_54 (Nat.le_of_ble_eq_true rfl) rfl ?_
  refine mx_iload_n d_LBStore_finish_56 rfl 3 rfl ?_
  refine mx_iload d_LBStore_finish_57 0 rfl ?_
  refine mx_iadd d_LBStore_finish_59 ?_
  refine mx_istore_n (lv2 := [(2, .int (l2 + s0)), (7, .int s0), (0, .ref l0), (1, .ref l1), (3, .int l3), (4, .int l4), (5, .int l5)]) d_LBStore_finish_60 rfl (Nat.le_of_ble_eq_true rfl) rfl ?_
  refine mx_iload_n d_LBStore_finish_61 rfl 4 rfl ?_
  refine mx_iload d_LBStore_finish_62 1 rfl ?_
  refine mx_imul d_LBStore_finish_64 ?_
  refine mx_istore_n (lv2 := [(3, .int (l3 * s0)), (2, .int (l2 + s0)), (7, .int s0), (0, .ref l0), (1, .ref l1), (4, .int l4), (5, .int l5)]) d_LBStore_finish_65 rfl (Nat.le_of_ble_eq_true rfl) rfl ?_
  refine mx_iload d_LBStore_finish_66 6 rfl ?_
  refine mx_if_ne d_LBStore_finish_68 (fun c9 => ?_) (fun c9 => ?_)
  · replace h := h.1 c9
    refine mx_iload d_LBStore_finish_76 5 rfl ?_
    refine mx_iload d_LBStore_finish_78 2 rfl ?_
    refine mx_mmax d_LBStore_finish_80 kw_158 k_mmax1 k_mmax2 k_mmax3 (Nat.le_of_ble_eq_true rfl) ?_
    exact mx_sub [3, 4, 1, 0, 6] rfl h
  · replace h := h.2 c9
    refine mx_iload d_LBStore_finish_71 2 rfl ?_
    refine mx_goto d_LBStore_finish_73 ?_
    exact mx_sub [3, 4, 1, 0, 6] rfl h
set_option maxRecDepth 100000 in
theorem wp_LBStore_finish_83 {l : Launch} {G : mx_G} {d : Nat} {hs : mx_H} {Q : Option Value → mx_H → Prop} (l0 : Nat) (l1 : Nat) (l2 : Int32) (l3 : Int32) (l5 : Int32) (s0 : Int32) (h : mx_Ok mx_S0 l G (d + 1) mm_LBStore_finish 10 [(0, .ref l0), (1, .ref l1), (2, .int l2), (3, .int l3), (4, .int s0), (5, .int (l5 + 1))] [] hs Q) : mx_Ok mx_S0 l G (d + 1) mm_LBStore_finish 83 [(0, .ref l0), (1, .ref l1), (2, .int l2), (3, .int l3), (5, .int l5)] [.int s0] hs Q := by
  refine mx_istore (lv2 := [(4, .int s0), (0, .ref l0), (1, .ref l1), (2, .int l2), (3, .int l3), (5, .int l5)]) d_LBStore_finish_83 (Nat.le_of_ble_eq_true rfl) rfl ?_
  refine mx_iinc (v := l5 + 1) (lv2 := [(5, .int (l5 + 1)), (4, .int s0), (0, .ref l0), (1, .ref l1), (2, .int l2), (3, .int l3)]) d_LBStore_finish_85 5 rfl (by rfl) (Nat.le_of_ble_eq_true rfl) rfl ?_
  refine mx_goto d_LBStore_finish_88 ?_
  exact mx_sub [2, 3, 4, 5, 1, 0] rfl h
set_option maxRecDepth 100000 in
theorem wp_LBStore_finishWith_0 {l : Launch} {G : mx_G} {d : Nat} {hs : mx_H} {Q : Option Value → mx_H → Prop} (l0 : Nat) (l1 : Nat) (l2 : Int32) (h : (∃ fs1 : List Value, hs.1 l1 = some (3, fs1) ∧ ∀ hs2 : mx_H, hs2 = mx_st hs l1 (3, fs1.set 5 (.int l2)) → (∃ fs3 : List Value, hs2.1 l1 = some (3, fs3) ∧ ∀ hs4 : mx_H, hs4 = mx_st hs2 l1 (3, fs3.set 2 (.int 1)) → (∃ (x6 : Int32), mx_f hs4 l0 4 3 (.int x6) ∧ (∃ fs7 : List Value, hs4.1 l0 = some (4, fs7) ∧ ∀ hs8 : mx_H, hs8 = mx_st hs4 l0 (4, fs7.set 3 (.int (x6 + 1))) → Q (some (.int l2)) hs8))))) : mx_Ok mx_S0 l G (d + 1) mm_LBStore_finishWith 0 [(0, .ref l0), (1, .ref l1), (2, .int l2)] [] hs Q := by
  refine mx_aload_nR d_LBStore_finishWith_0 rfl 1 rfl ?_
  refine mx_iload_n d_LBStore_finishWith_1 rfl 2 rfl ?_
  obtain ⟨fs1, e1_, h⟩ := h
  refine mx_put d_LBStore_finishWith_2 (ci := 3) (k := 5) (q := mx_cl0_3) (ty := .int) rfl (Nat.le_of_ble_eq_true rfl) kw_148 rfl (by decide +kernel) rfl rfl (by omega) e1_ ?_
  obtain ⟨hs2, hg_⟩ : ∃ x_, x_ = mx_st hs l1 (3, fs1.set 5 (.int l2)) := ⟨_, rfl⟩
  replace h := h hs2 hg_
  rw [← hg_]
  clear hg_
  refine mx_aload_nR d_LBStore_finishWith_5 rfl 1 rfl ?_
  refine mx_iconst (v := 1) d_LBStore_finishWith_6 (by decide) ?_
  obtain ⟨fs3, e1_, h⟩ := h
  refine mx_put d_LBStore_finishWith_7 (ci := 3) (k := 2) (q := mx_cl0_3) (ty := .boolean) rfl (Nat.le_of_ble_eq_true rfl) kw_146 rfl (by decide +kernel) (mx_nz (Or.inr rfl)) (mx_fz (Or.inr rfl)) (by omega) e1_ ?_
  obtain ⟨hs4, hg_⟩ : ∃ x_, x_ = mx_st hs2 l1 (3, fs3.set 2 (.int 1)) := ⟨_, rfl⟩
  replace h := h hs4 hg_
  rw [← hg_]
  clear hg_
  refine mx_aload_nR d_LBStore_finishWith_10 rfl 0 rfl ?_
  refine mx_dup d_LBStore_finishWith_11 rfl ?_
  obtain ⟨x6, ⟨fs5, e1_, e2_⟩, h⟩ := h
  refine mx_get d_LBStore_finishWith_12 (ci := 4) (k := 3) (q := mx_cl0_4) rfl (Nat.le_of_ble_eq_true rfl) kw_159 e1_ e2_ ?_
  refine mx_iconst (v := 1) d_LBStore_finishWith_15 (by decide) ?_
  refine mx_iadd d_LBStore_finishWith_16 ?_
  obtain ⟨fs7, e1_, h⟩ := h
  refine mx_put d_LBStore_finishWith_17 (ci := 4) (k := 3) (q := mx_cl0_4) (ty := .int) rfl (Nat.le_of_ble_eq_true rfl) kw_159 rfl (by decide +kernel) rfl rfl (by omega) e1_ ?_
  obtain ⟨hs8, hg_⟩ : ∃ x_, x_ = mx_st hs4 l0 (4, fs7.set 3 (.int (x6 + 1))) := ⟨_, rfl⟩
  replace h := h hs8 hg_
  rw [← hg_]
  clear hg_
  refine mx_iload_n d_LBStore_finishWith_20 rfl 2 rfl ?_
  exact mx_ireturn d_LBStore_finishWith_21 rfl rfl h
set_option maxRecDepth 100000 in
theorem wp_LBStore_sweep_0 {l : Launch} {G : mx_G} {d : Nat} {hs : mx_H} {Q : Option Value → mx_H → Prop} (l0 : Nat) (h : mx_Ok mx_S0 l G (d + 1) mm_LBStore_sweep 2 [(0, .ref l0), (1, .int 0)] [] hs Q) : mx_Ok mx_S0 l G (d + 1) mm_LBStore_sweep 0 [(0, .ref l0)] [] hs Q := by
  refine mx_iconst (v := 0) d_LBStore_sweep_0 (by decide) ?_
  refine mx_istore_n (lv2 := [(1, .int 0), (0, .ref l0)]) d_LBStore_sweep_1 rfl (Nat.le_of_ble_eq_true rfl) rfl ?_
  exact mx_sub [1, 0] rfl h
set_option maxRecDepth 100000 in
theorem wp_LBStore_sweep_2 {l : Launch} {G : mx_G} {d : Nat} {hs : mx_H} {Q : Option Value → mx_H → Prop} (l0 : Nat) (l1 : Int32) (h : (∃ (x2 : Int32), mx_f hs l0 4 2 (.int x2) ∧ ((x2 ≤ l1 → (∃ (x4 : Int32), mx_f hs l0 4 2 (.int x4) ∧ mx_Ok mx_S0 l G (d + 1) mm_LBStore_sweep 43 [(0, .ref l0), (1, .int 0), (2, .int (x4 - 1))] [] hs Q)) ∧ (¬ (x2 ≤ l1) → (∃ (a6 : Nat), mx_f hs l0 4 0 (.ref a6) ∧ (∃ (vs7 : List Value) (a8 : Nat), hs.1 a6 = some (113, vs7) ∧ ¬ l1 < 0 ∧ vs7[Int32.toNatClampNeg l1]? = some (.ref a8) ∧ (∃ (a10 : Nat), mx_f hs l0 4 0 (.ref a10) ∧ (∃ (vs11 : List Value) (a12 : Nat), hs.1 a10 = some (113, vs11) ∧ ¬ l1 < 0 ∧ vs11[Int32.toNatClampNeg l1]? = some (.ref a12) ∧ (∃ (x14 : Int32), mx_f hs a12 3 3 (.int x14) ∧ ((x14 = 0 ∨ x14 = 1) ∧ ∃ fs15 : List Value, hs.1 a8 = some (3, fs15) ∧ ∀ hs16 : mx_H, hs16 = mx_st hs a8 (3, fs15.set 4 (.int x14)) → mx_Ok mx_S0 l G (d + 1) mm_LBStore_sweep 2 [(0, .ref l0), (1, .int (l1 + 1))] [] hs16 Q)))))))))) : mx_Ok mx_S0 l G (d + 1) mm_LBStore_sweep 2 [(0, .ref l0), (1, .int l1)] [] hs Q := by
  refine mx_iload_n d_LBStore_sweep_2 rfl 1 rfl ?_
  refine mx_aload_nR d_LBStore_sweep_3 rfl 0 rfl ?_
  obtain ⟨x2, ⟨fs1, e1_, e2_⟩, h⟩ := h
  refine mx_get d_LBStore_sweep_4 (ci := 4) (k := 2) (q := mx_cl0_4) rfl (Nat.le_of_ble_eq_true rfl) kw_135 e1_ e2_ ?_
  refine mx_icmp_ge d_LBStore_sweep_7 (fun c9 => ?_) (fun c9 => ?_)
  · replace h := h.1 c9
    refine mx_iconst (v := 0) d_LBStore_sweep_34 (by decide) ?_
    refine mx_istore_n (lv2 := [(1, .int 0), (0, .ref l0)]) d_LBStore_sweep_35 rfl (Nat.le_of_ble_eq_true rfl) rfl ?_
    refine mx_aload_nR d_LBStore_sweep_36 rfl 1 rfl ?_
    obtain ⟨x4, ⟨fs3, e1_, e2_⟩, h⟩ := h
    refine mx_get d_LBStore_sweep_37 (ci := 4) (k := 2) (q := mx_cl0_4) rfl (Nat.le_of_ble_eq_true rfl) kw_135 e1_ e2_ ?_
    refine mx_iconst (v := 1) d_LBStore_sweep_40 (by decide) ?_
    refine mx_isub d_LBStore_sweep_41 ?_
    refine mx_istore_n (lv2 := [(2, .int (x4 - 1)), (1, .int 0), (0, .ref l0)]) d_LBStore_sweep_42 rfl (Nat.le_of_ble_eq_true rfl) rfl ?_
    exact mx_sub [2, 1, 0] rfl h
  · replace h := h.2 c9
    refine mx_aload_nR d_LBStore_sweep_10 rfl 0 rfl ?_
    obtain ⟨a6, ⟨fs5, e1_, e2_⟩, h⟩ := h
    refine mx_get d_LBStore_sweep_11 (ci := 4) (k := 0) (q := mx_cl0_4) rfl (Nat.le_of_ble_eq_true rfl) kw_129 e1_ e2_ ?_
    refine mx_iload_n d_LBStore_sweep_14 rfl 1 rfl ?_
    obtain ⟨vs7, a8, e1_, e2_, e3_, h⟩ := h
    refine mx_aald (C := "LazyBuilder$Plan") d_LBStore_sweep_15 (k := 113) rfl e1_ e2_ e3_ ?_
    refine mx_aload_nR d_LBStore_sweep_16 rfl 0 rfl ?_
    obtain ⟨a10, ⟨fs9, e1_, e2_⟩, h⟩ := h
    refine mx_get d_LBStore_sweep_17 (ci := 4) (k := 0) (q := mx_cl0_4) rfl (Nat.le_of_ble_eq_true rfl) kw_129 e1_ e2_ ?_
    refine mx_iload_n d_LBStore_sweep_20 rfl 1 rfl ?_
    obtain ⟨vs11, a12, e1_, e2_, e3_, h⟩ := h
    refine mx_aald (C := "LazyBuilder$Plan") d_LBStore_sweep_21 (k := 113) rfl e1_ e2_ e3_ ?_
    obtain ⟨x14, ⟨fs13, e1_, e2_⟩, h⟩ := h
    refine mx_get d_LBStore_sweep_22 (ci := 3) (k := 3) (q := mx_cl0_3) rfl (Nat.le_of_ble_eq_true rfl) kw_160 e1_ e2_ ?_
    obtain ⟨hb_, h⟩ := h
    obtain ⟨fs15, e1_, h⟩ := h
    refine mx_put d_LBStore_sweep_25 (ci := 3) (k := 4) (q := mx_cl0_3) (ty := .boolean) rfl (Nat.le_of_ble_eq_true rfl) kw_161 rfl (by decide +kernel) (mx_nz hb_) (mx_fz hb_) (by omega) e1_ ?_
    obtain ⟨hs16, hg_⟩ : ∃ x_, x_ = mx_st hs a8 (3, fs15.set 4 (.int x14)) := ⟨_, rfl⟩
    replace h := h hs16 hg_
    rw [← hg_]
    clear hg_
    refine mx_iinc (v := l1 + 1) (lv2 := [(1, .int (l1 + 1)), (0, .ref l0)]) d_LBStore_sweep_28 1 rfl (by rfl) (Nat.le_of_ble_eq_true rfl) rfl ?_
    refine mx_goto d_LBStore_sweep_31 ?_
    exact mx_sub [1, 0] rfl h
set_option maxRecDepth 100000 in
theorem wp_LBStore_sweep_43 {l : Launch} {G : mx_G} {d : Nat} {hs : mx_H} {Q : Option Value → mx_H → Prop} (l0 : Nat) (l1 : Int32) (l2 : Int32) (h : ((l2 < 0 → Q (some (.int l1)) hs) ∧ (¬ (l2 < 0) → (∃ (a2 : Nat), mx_f hs l0 4 0 (.ref a2) ∧ (∃ (vs3 : List Value) (a4 : Nat), hs.1 a2 = some (113, vs3) ∧ ¬ l2 < 0 ∧ vs3[Int32.toNatClampNeg l2]? = some (.ref a4) ∧ (∃ (x6 : Int32), mx_f hs a4 3 4 (.int x6) ∧ ((x6 = 0 → (∃ (a8 : Nat), mx_f hs l0 4 0 (.ref a8) ∧ (∃ (vs9 : List Value) (a10 : Nat), hs.1 a8 = some (113, vs9) ∧ ¬ l2 < 0 ∧ vs9[Int32.toNatClampNeg l2]? = some (.ref a10) ∧ (∃ (x12 : Int32), mx_f hs a10 3 2 (.int x12) ∧ ((x12 = 0 → mx_Ok mx_S0 l G (d + 1) mm_LBStore_sweep 107 [(0, .ref l0), (1, .int l1), (2, .int l2)] [] hs Q) ∧ (¬ (x12 = 0) → (∃ (a14 : Nat), mx_f hs l0 4 0 (.ref a14) ∧ (∃ (vs15 : List Value) (a16 : Nat), hs.1 a14 = some (113, vs15) ∧ ¬ l2 < 0 ∧ vs15[Int32.toNatClampNeg l2]? = some (.ref a16) ∧ (∃ fs17 : List Value, hs.1 a16 = some (3, fs17) ∧ ∀ hs18 : mx_H, hs18 = mx_st hs a16 (3, fs17.set 2 (.int 0)) → (∃ (a20 : Nat), mx_f hs18 l0 4 0 (.ref a20) ∧ (∃ (vs21 : List Value) (a22 : Nat), hs18.1 a20 = some (113, vs21) ∧ ¬ l2 < 0 ∧ vs21[Int32.toNatClampNeg l2]? = some (.ref a22) ∧ (∃ fs23 : List Value, hs18.1 a22 = some (3, fs23) ∧ ∀ hs24 : mx_H, hs24 = mx_st hs18 a22 (3, fs23.set 5 (.int 0)) → mx_Ok mx_S0 l G (d + 1) mm_LBStore_sweep 107 [(0, .ref l0), (1, .int (l1 + 1)), (2, .int l2)] [] hs24 Q)))))))))))) ∧ (¬ (x6 = 0) → (∃ (a26 : Nat), mx_f hs l0 4 0 (.ref a26) ∧ (∃ (vs27 : List Value) (a28 : Nat), hs.1 a26 = some (113, vs27) ∧ ¬ l2 < 0 ∧ vs27[Int32.toNatClampNeg l2]? = some (.ref a28) ∧ ((∃ fs31 : List Value, hs.1 l0 = some (4, fs31)) ∧ mx_C mx_S0 l G d mm_LBStore_wantInputs [.ref l0, .ref a28] hs (fun (r29 : Option Value) (hs30 : mx_H) => r29 = none ∧ mx_Ok mx_S0 l G (d + 1) mm_LBStore_sweep 107 [(0, .ref l0), (1, .int l1), (2, .int l2)] [] hs30 Q)))))))))))) : mx_Ok mx_S0 l G (d + 1) mm_LBStore_sweep 43 [(0, .ref l0), (1, .int l1), (2, .int l2)] [] hs Q := by
  refine mx_iload_n d_LBStore_sweep_43 rfl 2 rfl ?_
  refine mx_if_lt d_LBStore_sweep_44 (fun c9 => ?_) (fun c9 => ?_)
  · replace h := h.1 c9
    refine mx_iload_n d_LBStore_sweep_113 rfl 1 rfl ?_
    exact mx_ireturn d_LBStore_sweep_114 rfl rfl h
  · replace h := h.2 c9
    refine mx_aload_nR d_LBStore_sweep_47 rfl 0 rfl ?_
    obtain ⟨a2, ⟨fs1, e1_, e2_⟩, h⟩ := h
    refine mx_get d_LBStore_sweep_48 (ci := 4) (k := 0) (q := mx_cl0_4) rfl (Nat.le_of_ble_eq_true rfl) kw_129 e1_ e2_ ?_
    refine mx_iload_n d_LBStore_sweep_51 rfl 2 rfl ?_
    obtain ⟨vs3, a4, e1_, e2_, e3_, h⟩ := h
    refine mx_aald (C := "LazyBuilder$Plan") d_LBStore_sweep_52 (k := 113) rfl e1_ e2_ e3_ ?_
    obtain ⟨x6, ⟨fs5, e1_, e2_⟩, h⟩ := h
    refine mx_get d_LBStore_sweep_53 (ci := 3) (k := 4) (q := mx_cl0_3) rfl (Nat.le_of_ble_eq_true rfl) kw_161 e1_ e2_ ?_
    refine mx_if_eq d_LBStore_sweep_56 (fun c9 => ?_) (fun c9 => ?_)
    · replace h := h.1 c9
      refine mx_aload_nR d_LBStore_sweep_72 rfl 0 rfl ?_
      obtain ⟨a8, ⟨fs7, e1_, e2_⟩, h⟩ := h
      refine mx_get d_LBStore_sweep_73 (ci := 4) (k := 0) (q := mx_cl0_4) rfl (Nat.le_of_ble_eq_true rfl) kw_129 e1_ e2_ ?_
      refine mx_iload_n d_LBStore_sweep_76 rfl 2 rfl ?_
      obtain ⟨vs9, a10, e1_, e2_, e3_, h⟩ := h
      refine mx_aald (C := "LazyBuilder$Plan") d_LBStore_sweep_77 (k := 113) rfl e1_ e2_ e3_ ?_
      obtain ⟨x12, ⟨fs11, e1_, e2_⟩, h⟩ := h
      refine mx_get d_LBStore_sweep_78 (ci := 3) (k := 2) (q := mx_cl0_3) rfl (Nat.le_of_ble_eq_true rfl) kw_146 e1_ e2_ ?_
      refine mx_if_eq d_LBStore_sweep_81 (fun c9 => ?_) (fun c9 => ?_)
      · replace h := h.1 c9
        exact mx_sub [0, 1, 2] rfl h
      · replace h := h.2 c9
        refine mx_aload_nR d_LBStore_sweep_84 rfl 0 rfl ?_
        obtain ⟨a14, ⟨fs13, e1_, e2_⟩, h⟩ := h
        refine mx_get d_LBStore_sweep_85 (ci := 4) (k := 0) (q := mx_cl0_4) rfl (Nat.le_of_ble_eq_true rfl) kw_129 e1_ e2_ ?_
        refine mx_iload_n d_LBStore_sweep_88 rfl 2 rfl ?_
        obtain ⟨vs15, a16, e1_, e2_, e3_, h⟩ := h
        refine mx_aald (C := "LazyBuilder$Plan") d_LBStore_sweep_89 (k := 113) rfl e1_ e2_ e3_ ?_
        refine mx_iconst (v := 0) d_LBStore_sweep_90 (by decide) ?_
        obtain ⟨fs17, e1_, h⟩ := h
        refine mx_put d_LBStore_sweep_91 (ci := 3) (k := 2) (q := mx_cl0_3) (ty := .boolean) rfl (Nat.le_of_ble_eq_true rfl) kw_146 rfl (by decide +kernel) (mx_nz (Or.inl rfl)) (mx_fz (Or.inl rfl)) (by omega) e1_ ?_
        obtain ⟨hs18, hg_⟩ : ∃ x_, x_ = mx_st hs a16 (3, fs17.set 2 (.int 0)) := ⟨_, rfl⟩
        replace h := h hs18 hg_
        rw [← hg_]
        clear hg_
        refine mx_aload_nR d_LBStore_sweep_94 rfl 0 rfl ?_
        obtain ⟨a20, ⟨fs19, e1_, e2_⟩, h⟩ := h
        refine mx_get d_LBStore_sweep_95 (ci := 4) (k := 0) (q := mx_cl0_4) rfl (Nat.le_of_ble_eq_true rfl) kw_129 e1_ e2_ ?_
        refine mx_iload_n d_LBStore_sweep_98 rfl 2 rfl ?_
        obtain ⟨vs21, a22, e1_, e2_, e3_, h⟩ := h
        refine mx_aald (C := "LazyBuilder$Plan") d_LBStore_sweep_99 (k := 113) rfl e1_ e2_ e3_ ?_
        refine mx_iconst (v := 0) d_LBStore_sweep_100 (by decide) ?_
        obtain ⟨fs23, e1_, h⟩ := h
        refine mx_put d_LBStore_sweep_101 (ci := 3) (k := 5) (q := mx_cl0_3) (ty := .int) rfl (Nat.le_of_ble_eq_true rfl) kw_148 rfl (by decide +kernel) rfl rfl (by omega) e1_ ?_
        obtain ⟨hs24, hg_⟩ : ∃ x_, x_ = mx_st hs18 a22 (3, fs23.set 5 (.int 0)) := ⟨_, rfl⟩
        replace h := h hs24 hg_
        rw [← hg_]
        clear hg_
        refine mx_iinc (v := l1 + 1) (lv2 := [(1, .int (l1 + 1)), (0, .ref l0), (2, .int l2)]) d_LBStore_sweep_104 1 rfl (by rfl) (Nat.le_of_ble_eq_true rfl) rfl ?_
        exact mx_sub [1, 0, 2] rfl h
    · replace h := h.2 c9
      refine mx_aload_nR d_LBStore_sweep_59 rfl 0 rfl ?_
      refine mx_aload_nR d_LBStore_sweep_60 rfl 0 rfl ?_
      obtain ⟨a26, ⟨fs25, e1_, e2_⟩, h⟩ := h
      refine mx_get d_LBStore_sweep_61 (ci := 4) (k := 0) (q := mx_cl0_4) rfl (Nat.le_of_ble_eq_true rfl) kw_129 e1_ e2_ ?_
      refine mx_iload_n d_LBStore_sweep_64 rfl 2 rfl ?_
      obtain ⟨vs27, a28, e1_, e2_, e3_, h⟩ := h
      refine mx_aald (C := "LazyBuilder$Plan") d_LBStore_sweep_65 (k := 113) rfl e1_ e2_ e3_ ?_
      obtain ⟨⟨fs31, e1_⟩, h⟩ := h
      refine mx_invV (Y := mm_LBStore_wantInputs) (As := [.ref a28]) (rest := []) d_LBStore_sweep_66.1 ok_LBStore_wantInputs kw_162 kw_163 kw_164 rfl rfl (Nat.le_of_ble_eq_true rfl) (Nat.le_of_ble_eq_true rfl) e1_ (q := mx_cl0_4) rfl rfl h (fun r29 hs30 h => ?_)
      obtain ⟨e9_, h⟩ := h
      subst e9_
      show mx_Ok mx_S0 l G (d + 1) mm_LBStore_sweep 69 [(0, .ref l0), (1, .int l1), (2, .int l2)] [] hs30 Q
      refine mx_goto d_LBStore_sweep_69 ?_
      exact mx_sub [0, 1, 2] rfl h
set_option maxRecDepth 100000 in
theorem wp_LBStore_sweep_107 {l : Launch} {G : mx_G} {d : Nat} {hs : mx_H} {Q : Option Value → mx_H → Prop} (l0 : Nat) (l1 : Int32) (l2 : Int32) (h : mx_Ok mx_S0 l G (d + 1) mm_LBStore_sweep 43 [(0, .ref l0), (1, .int l1), (2, .int (l2 + (-1)))] [] hs Q) : mx_Ok mx_S0 l G (d + 1) mm_LBStore_sweep 107 [(0, .ref l0), (1, .int l1), (2, .int l2)] [] hs Q := by
  refine mx_iinc (v := l2 + (-1)) (lv2 := [(2, .int (l2 + (-1))), (0, .ref l0), (1, .int l1)]) d_LBStore_sweep_107 2 rfl (by rfl) (Nat.le_of_ble_eq_true rfl) rfl ?_
  refine mx_goto d_LBStore_sweep_110 ?_
  exact mx_sub [1, 2, 0] rfl h
set_option maxRecDepth 100000 in
theorem wp_LBStore_wantInputs_0 {l : Launch} {G : mx_G} {d : Nat} {hs : mx_H} {Q : Option Value → mx_H → Prop} (l0 : Nat) (l1 : Nat) (h : mx_Ok mx_S0 l G (d + 1) mm_LBStore_wantInputs 2 [(0, .ref l0), (1, .ref l1), (2, .int 0)] [] hs Q) : mx_Ok mx_S0 l G (d + 1) mm_LBStore_wantInputs 0 [(0, .ref l0), (1, .ref l1)] [] hs Q := by
  refine mx_iconst (v := 0) d_LBStore_wantInputs_0 (by decide) ?_
  refine mx_istore_n (lv2 := [(2, .int 0), (0, .ref l0), (1, .ref l1)]) d_LBStore_wantInputs_1 rfl (Nat.le_of_ble_eq_true rfl) rfl ?_
  exact mx_sub [1, 2, 0] rfl h
set_option maxRecDepth 100000 in
theorem wp_LBStore_wantInputs_2 {l : Launch} {G : mx_G} {d : Nat} {hs : mx_H} {Q : Option Value → mx_H → Prop} (l0 : Nat) (l1 : Nat) (l2 : Int32) (h : (∃ (a2 : Nat), mx_f hs l1 3 1 (.ref a2) ∧ (∃ vs3 : List Value, hs.1 a2 = some (102, vs3) ∧ (((Int32.ofNat vs3.length) ≤ l2 → Q none hs) ∧ (¬ ((Int32.ofNat vs3.length) ≤ l2) → (∃ (a5 : Nat), mx_f hs l1 3 1 (.ref a5) ∧ (∃ (vs6 : List Value) (x7 : Int64), hs.1 a5 = some (102, vs6) ∧ ¬ l2 < 0 ∧ vs6[Int32.toNatClampNeg l2]? = some (.long x7) ∧ ((∃ fs14 : List Value, hs.1 l0 = some (4, fs14)) ∧ mx_C mx_S0 l G d mm_LBStore_planIn [.ref l0, .long x7] hs (fun (r8 : Option Value) (hs9 : mx_H) => ∃ v10 : Value, r8 = some v10 ∧ (v10 = .null ∨ ∃ z, v10 = .ref z) ∧ ((v10 = .null → mx_Ok mx_S0 l G (d + 1) mm_LBStore_wantInputs 31 [(0, .ref l0), (1, .ref l1), (2, .int l2)] [] hs9 Q) ∧ (∀ a11 : Nat, v10 = .ref a11 → (∃ fs12 : List Value, hs9.1 a11 = some (3, fs12) ∧ ∀ hs13 : mx_H, hs13 = mx_st hs9 a11 (3, fs12.set 4 (.int 1)) → mx_Ok mx_S0 l G (d + 1) mm_LBStore_wantInputs 31 [(0, .ref l0), (1, .ref l1), (2, .int l2)] [] hs13 Q)))))))))))) : mx_Ok mx_S0 l G (d + 1) mm_LBStore_wantInputs 2 [(0, .ref l0), (1, .ref l1), (2, .int l2)] [] hs Q := by
  refine mx_iload_n d_LBStore_wantInputs_2 rfl 2 rfl ?_
  refine mx_aload_nR d_LBStore_wantInputs_3 rfl 1 rfl ?_
  obtain ⟨a2, ⟨fs1, e1_, e2_⟩, h⟩ := h
  refine mx_get d_LBStore_wantInputs_4 (ci := 3) (k := 1) (q := mx_cl0_3) rfl (Nat.le_of_ble_eq_true rfl) kw_149 e1_ e2_ ?_
  obtain ⟨vs3, e1_, h⟩ := h
  refine mx_alen d_LBStore_wantInputs_7 (k := 102) rfl e1_ ?_
  refine mx_icmp_ge d_LBStore_wantInputs_8 (fun c9 => ?_) (fun c9 => ?_)
  · replace h := h.1 c9
    exact mx_return d_LBStore_wantInputs_37 rfl h
  · replace h := h.2 c9
    refine mx_aload_nR d_LBStore_wantInputs_11 rfl 0 rfl ?_
    refine mx_aload_nR d_LBStore_wantInputs_12 rfl 1 rfl ?_
    obtain ⟨a5, ⟨fs4, e1_, e2_⟩, h⟩ := h
    refine mx_get d_LBStore_wantInputs_13 (ci := 3) (k := 1) (q := mx_cl0_3) rfl (Nat.le_of_ble_eq_true rfl) kw_149 e1_ e2_ ?_
    refine mx_iload_n d_LBStore_wantInputs_16 rfl 2 rfl ?_
    obtain ⟨vs6, x7, e1_, e2_, e3_, h⟩ := h
    refine mx_lald d_LBStore_wantInputs_17 (k := 102) rfl e1_ e2_ e3_ ?_
    obtain ⟨⟨fs14, e1_⟩, h⟩ := h
    refine mx_invV (Y := mm_LBStore_planIn) (As := [.long x7]) (rest := []) d_LBStore_wantInputs_18.1 ok_LBStore_planIn kw_132 kw_133 kw_134 rfl rfl (Nat.le_of_ble_eq_true rfl) (Nat.le_of_ble_eq_true rfl) e1_ (q := mx_cl0_4) rfl rfl h (fun r8 hs9 h => ?_)
    obtain ⟨v10, e9_, hv10, h⟩ := h
    subst e9_
    show mx_Ok mx_S0 l G (d + 1) mm_LBStore_wantInputs 21 [(0, .ref l0), (1, .ref l1), (2, .int l2)] [v10] hs9 Q
    refine mx_astore_n (lv2 := [(3, v10), (0, .ref l0), (1, .ref l1), (2, .int l2)]) d_LBStore_wantInputs_21 rfl (Nat.le_of_ble_eq_true rfl) rfl hv10 ?_
    refine mx_aload_n d_LBStore_wantInputs_22 rfl 0 rfl hv10 ?_
    refine mx_ifnull d_LBStore_wantInputs_23 hv10 (fun c9 => ?_) (fun a11 c9 => ?_)
    · replace h := h.1 c9
      subst c9
      exact mx_sub [1, 2, 3] rfl h
    · replace h := h.2 a11 c9
      subst c9
      refine mx_aload_nR d_LBStore_wantInputs_26 rfl 0 rfl ?_
      refine mx_iconst (v := 1) d_LBStore_wantInputs_27 (by decide) ?_
      obtain ⟨fs12, e1_, h⟩ := h
      refine mx_put d_LBStore_wantInputs_28 (ci := 3) (k := 4) (q := mx_cl0_3) (ty := .boolean) rfl (Nat.le_of_ble_eq_true rfl) kw_161 rfl (by decide +kernel) (mx_nz (Or.inr rfl)) (mx_fz (Or.inr rfl)) (by omega) e1_ ?_
      obtain ⟨hs13, hg_⟩ : ∃ x_, x_ = mx_st hs9 a11 (3, fs12.set 4 (.int 1)) := ⟨_, rfl⟩
      replace h := h hs13 hg_
      rw [← hg_]
      clear hg_
      exact mx_sub [1, 2, 3] rfl h
set_option maxRecDepth 100000 in
theorem wp_LBStore_wantInputs_31 {l : Launch} {G : mx_G} {d : Nat} {hs : mx_H} {Q : Option Value → mx_H → Prop} (l0 : Nat) (l1 : Nat) (l2 : Int32) (h : mx_Ok mx_S0 l G (d + 1) mm_LBStore_wantInputs 2 [(0, .ref l0), (1, .ref l1), (2, .int (l2 + 1))] [] hs Q) : mx_Ok mx_S0 l G (d + 1) mm_LBStore_wantInputs 31 [(0, .ref l0), (1, .ref l1), (2, .int l2)] [] hs Q := by
  refine mx_iinc (v := l2 + 1) (lv2 := [(2, .int (l2 + 1)), (0, .ref l0), (1, .ref l1)]) d_LBStore_wantInputs_31 2 rfl (by rfl) (Nat.le_of_ble_eq_true rfl) rfl ?_
  refine mx_goto d_LBStore_wantInputs_34 ?_
  exact mx_sub [1, 2, 0] rfl h
set_option maxRecDepth 100000 in
theorem wp_LBWorker_init_0 {l : Launch} {G : mx_G} {d : Nat} {hs : mx_H} {Q : Option Value → mx_H → Prop} (l0 : Nat) (l1 : Nat) (h : (∃ fs1 : List Value, hs.1 l0 = some (5, fs1) ∧ ∀ hs2 : mx_H, hs2 = mx_st hs l0 (5, fs1.set 1 (.ref l1)) → (∀ hs3 : mx_H, hs3 = mx_nw hs2 (112, List.replicate 8 (.null)) 8 → (∃ fs4 : List Value, hs3.1 l0 = some (5, fs4) ∧ ∀ hs5 : mx_H, hs5 = mx_st hs3 l0 (5, fs4.set 0 (.ref hs2.2.1)) → mx_Ok mx_S0 l G (d + 1) mm_LBWorker_init 20 [(0, .ref l0), (2, .int 0)] [] hs5 Q)))) : mx_Ok mx_S0 l G (d + 1) mm_LBWorker_init 0 [(0, .ref l0), (1, .ref l1)] [] hs Q := by
  refine mx_aload_nR d_LBWorker_init_0 rfl 0 rfl ?_
  refine mx_objInit d_LBWorker_init_1 kw_165 kw_1 k_objcode (Nat.le_of_ble_eq_true rfl) ?_
  refine mx_aload_nR d_LBWorker_init_4 rfl 0 rfl ?_
  refine mx_aload_nR d_LBWorker_init_5 rfl 1 rfl ?_
  obtain ⟨fs1, e1_, h⟩ := h
  refine mx_putF d_LBWorker_init_6 (ci := 5) (k := 1) (q := mx_cl0_5) (ty := (.object "LazyBuilder$Store")) rfl (Nat.le_of_ble_eq_true rfl) kw_166 rfl rfl rfl (by decide +kernel) rfl rfl (by omega) e1_ ?_
  obtain ⟨hs2, hg_⟩ : ∃ x_, x_ = mx_st hs l0 (5, fs1.set 1 (.ref l1)) := ⟨_, rfl⟩
  replace h := h hs2 hg_
  rw [← hg_]
  clear hg_
  refine mx_aload_nR d_LBWorker_init_9 rfl 0 rfl ?_
  refine mx_bipush (v := 8) d_LBWorker_init_10 (by decide) ?_
  refine mx_anewa d_LBWorker_init_12 (k := 112) (C := "LazyBuilder$Name") (N := 8) rfl (by decide) kw_167 (by decide) (by decide) (by decide) (by decide) ?_
  obtain ⟨hs3, hg_⟩ : ∃ x_, x_ = mx_nw hs2 (112, List.replicate 8 (.null)) 8 := ⟨_, rfl⟩
  replace h := h hs3 hg_
  rw [← hg_]
  clear hg_
  obtain ⟨fs4, e1_, h⟩ := h
  refine mx_putF d_LBWorker_init_15 (ci := 5) (k := 0) (q := mx_cl0_5) (ty := (.array (.object "LazyBuilder$Name"))) rfl (Nat.le_of_ble_eq_true rfl) kw_168 rfl rfl rfl (by decide +kernel) rfl rfl (by omega) e1_ ?_
  obtain ⟨hs5, hg_⟩ : ∃ x_, x_ = mx_st hs3 l0 (5, fs4.set 0 (.ref hs2.2.1)) := ⟨_, rfl⟩
  replace h := h hs5 hg_
  rw [← hg_]
  clear hg_
  refine mx_iconst (v := 0) d_LBWorker_init_18 (by decide) ?_
  refine mx_istore_n (lv2 := [(2, .int 0), (0, .ref l0), (1, .ref l1)]) d_LBWorker_init_19 rfl (Nat.le_of_ble_eq_true rfl) rfl ?_
  exact mx_sub [1, 0] rfl h
set_option maxRecDepth 100000 in
theorem wp_LBWorker_init_20 {l : Launch} {G : mx_G} {d : Nat} {hs : mx_H} {Q : Option Value → mx_H → Prop} (l0 : Nat) (l2 : Int32) (h : ((8 ≤ l2 → (∀ hs1 : mx_H, hs1 = mx_nw hs (102, List.replicate 292 (.long 0)) 292 → (∃ fs2 : List Value, hs1.1 l0 = some (5, fs2) ∧ ∀ hs3 : mx_H, hs3 = mx_st hs1 l0 (5, fs2.set 2 (.ref hs.2.1)) → Q none hs3))) ∧ (¬ (8 ≤ l2) → (∃ (a5 : Nat), mx_f hs l0 5 0 (.ref a5) ∧ (∀ hs6 : mx_H, hs6 = mx_nw hs (2, [.null, .int 0, .int 0, .long 0]) 4 → mx_C mx_S0 l G d mm_LBName_init [.ref hs.2.1] hs6 (fun (r7 : Option Value) (hs8 : mx_H) => r7 = none ∧ (∃ vs9 : List Value, hs8.1 a5 = some (112, vs9) ∧ ¬ l2 < 0 ∧ Int32.toNatClampNeg l2 < vs9.length ∧ (∃ fs11 : List Value, hs8.1 hs.2.1 = some (2, fs11)) ∧ ∀ hs10 : mx_H, hs10 = mx_st hs8 a5 (112, vs9.set (Int32.toNatClampNeg l2) (.ref hs.2.1)) → mx_Ok mx_S0 l G (d + 1) mm_LBWorker_init 20 [(0, .ref l0), (2, .int (l2 + 1))] [] hs10 Q))))))) : mx_Ok mx_S0 l G (d + 1) mm_LBWorker_init 20 [(0, .ref l0), (2, .int l2)] [] hs Q := by
  refine mx_iload_n d_LBWorker_init_20 rfl 1 rfl ?_
  refine mx_bipush (v := 8) d_LBWorker_init_21 (by decide) ?_
  refine mx_icmp_ge d_LBWorker_init_23 (fun c9 => ?_) (fun c9 => ?_)
  · replace h := h.1 c9
    refine mx_aload_nR d_LBWorker_init_45 rfl 0 rfl ?_
    refine mx_sipush (v := 292) d_LBWorker_init_46 (by decide) ?_
    refine mx_newa d_LBWorker_init_49 (k := 102) (ty := .long) (dv := .long 0) (N := 292) rfl rfl rfl (by decide) kw_136 (by decide) (by decide) (by decide) ?_
    obtain ⟨hs1, hg_⟩ : ∃ x_, x_ = mx_nw hs (102, List.replicate 292 (.long 0)) 292 := ⟨_, rfl⟩
    replace h := h hs1 hg_
    rw [← hg_]
    clear hg_
    obtain ⟨fs2, e1_, h⟩ := h
    refine mx_putF d_LBWorker_init_51 (ci := 5) (k := 2) (q := mx_cl0_5) (ty := (.array .long)) rfl (Nat.le_of_ble_eq_true rfl) kw_169 rfl rfl rfl (by decide +kernel) rfl rfl (by omega) e1_ ?_
    obtain ⟨hs3, hg_⟩ : ∃ x_, x_ = mx_st hs1 l0 (5, fs2.set 2 (.ref hs.2.1)) := ⟨_, rfl⟩
    replace h := h hs3 hg_
    rw [← hg_]
    clear hg_
    exact mx_return d_LBWorker_init_54 rfl h
  · replace h := h.2 c9
    refine mx_aload_nR d_LBWorker_init_26 rfl 0 rfl ?_
    obtain ⟨a5, ⟨fs4, e1_, e2_⟩, h⟩ := h
    refine mx_get d_LBWorker_init_27 (ci := 5) (k := 0) (q := mx_cl0_5) rfl (Nat.le_of_ble_eq_true rfl) kw_168 e1_ e2_ ?_
    refine mx_iload_n d_LBWorker_init_30 rfl 1 rfl ?_
    refine mx_new d_LBWorker_init_31 (ci := 2) (q := mx_cl0_2) (fs := [.null, .int 0, .int 0, .long 0]) (n := 4) rfl kw_167 kw_170 kw_171 rfl rfl mdf_2 ?_
    obtain ⟨hs6, hg_⟩ : ∃ x_, x_ = mx_nw hs (2, [.null, .int 0, .int 0, .long 0]) 4 := ⟨_, rfl⟩
    replace h := h hs6 hg_
    rw [← hg_]
    clear hg_
    refine mx_dup d_LBWorker_init_34 rfl ?_
    refine mx_invI (Y := mm_LBName_init) (As := []) (rest := [.ref hs.2.1, .int l2, .ref a5]) rfl d_LBWorker_init_35.1 ok_LBName_init kw_172 kw_173 rfl rfl rfl (Nat.le_of_ble_eq_true rfl) (Nat.le_of_ble_eq_true rfl) h (fun r7 hs8 h => ?_)
    obtain ⟨e9_, h⟩ := h
    subst e9_
    show mx_Ok mx_S0 l G (d + 1) mm_LBWorker_init 38 [(0, .ref l0), (2, .int l2)] [.ref hs.2.1, .int l2, .ref a5] hs8 Q
    obtain ⟨vs9, e1_, e2_, e3_, ⟨fs11, e4_⟩, h⟩ := h
    refine mx_aastR d_LBWorker_init_38 (ci := 2) (k := 112) rfl rfl (by decide) (by omega) e1_ e2_ e3_ e4_ ?_
    obtain ⟨hs10, hg_⟩ : ∃ x_, x_ = mx_st hs8 a5 (112, vs9.set (Int32.toNatClampNeg l2) (.ref hs.2.1)) := ⟨_, rfl⟩
    replace h := h hs10 hg_
    rw [← hg_]
    clear hg_
    refine mx_iinc (v := l2 + 1) (lv2 := [(2, .int (l2 + 1)), (0, .ref l0)]) d_LBWorker_init_39 1 rfl (by rfl) (Nat.le_of_ble_eq_true rfl) rfl ?_
    refine mx_goto d_LBWorker_init_42 ?_
    exact mx_sub [1, 0] rfl h
set_option maxRecDepth 100000 in
theorem wp_LBWorker_bind_0 {l : Launch} {G : mx_G} {d : Nat} {hs : mx_H} {Q : Option Value → mx_H → Prop} (l0 : Nat) (l1 : Int32) (l2 : Nat) (h : (∃ (a2 : Nat), mx_f hs l0 5 0 (.ref a2) ∧ (∃ (vs3 : List Value) (a4 : Nat), hs.1 a2 = some (112, vs3) ∧ ¬ l1 < 0 ∧ vs3[Int32.toNatClampNeg l1]? = some (.ref a4) ∧ (∃ (a6 : Nat), mx_f hs a4 2 0 (.ref a6) ∧ ((∃ fs18 : List Value, hs.1 a6 = some (1, fs18)) ∧ mx_C mx_S0 l G d mm_LBText_copyFrom [.ref a6, .ref l2] hs (fun (r7 : Option Value) (hs8 : mx_H) => r7 = none ∧ (∃ (a10 : Nat), mx_f hs8 l0 5 0 (.ref a10) ∧ (∃ (vs11 : List Value) (a12 : Nat), hs8.1 a10 = some (112, vs11) ∧ ¬ l1 < 0 ∧ vs11[Int32.toNatClampNeg l1]? = some (.ref a12) ∧ (∃ fs13 : List Value, hs8.1 a12 = some (2, fs13) ∧ ∀ hs14 : mx_H, hs14 = mx_st hs8 a12 (2, fs13.set 1 (.int 1)) → ((∃ fs17 : List Value, hs14.1 l0 = some (5, fs17)) ∧ mx_C mx_S0 l G d mm_LBWorker_forgetValues [.ref l0] hs14 (fun (r15 : Option Value) (hs16 : mx_H) => r15 = none ∧ Q none hs16))))))))))) : mx_Ok mx_S0 l G (d + 1) mm_LBWorker_bind 0 [(0, .ref l0), (1, .int l1), (2, .ref l2)] [] hs Q := by
  refine mx_aload_nR d_LBWorker_bind_0 rfl 0 rfl ?_
  obtain ⟨a2, ⟨fs1, e1_, e2_⟩, h⟩ := h
  refine mx_get d_LBWorker_bind_1 (ci := 5) (k := 0) (q := mx_cl0_5) rfl (Nat.le_of_ble_eq_true rfl) kw_168 e1_ e2_ ?_
  refine mx_iload_n d_LBWorker_bind_4 rfl 1 rfl ?_
  obtain ⟨vs3, a4, e1_, e2_, e3_, h⟩ := h
  refine mx_aald (C := "LazyBuilder$Name") d_LBWorker_bind_5 (k := 112) rfl e1_ e2_ e3_ ?_
  obtain ⟨a6, ⟨fs5, e1_, e2_⟩, h⟩ := h
  refine mx_get d_LBWorker_bind_6 (ci := 2) (k := 0) (q := mx_cl0_2) rfl (Nat.le_of_ble_eq_true rfl) kw_174 e1_ e2_ ?_
  refine mx_aload_nR d_LBWorker_bind_9 rfl 2 rfl ?_
  obtain ⟨⟨fs18, e1_⟩, h⟩ := h
  refine mx_invV (Y := mm_LBText_copyFrom) (As := [.ref l2]) (rest := []) d_LBWorker_bind_10.1 ok_LBText_copyFrom kw_179 kw_180 kw_181 rfl rfl (Nat.le_of_ble_eq_true rfl) (Nat.le_of_ble_eq_true rfl) e1_ (q := mx_cl0_1) rfl rfl h (fun r7 hs8 h => ?_)
  obtain ⟨e9_, h⟩ := h
  subst e9_
  show mx_Ok mx_S0 l G (d + 1) mm_LBWorker_bind 13 [(0, .ref l0), (1, .int l1), (2, .ref l2)] [] hs8 Q
  refine mx_aload_nR d_LBWorker_bind_13 rfl 0 rfl ?_
  obtain ⟨a10, ⟨fs9, e1_, e2_⟩, h⟩ := h
  refine mx_get d_LBWorker_bind_14 (ci := 5) (k := 0) (q := mx_cl0_5) rfl (Nat.le_of_ble_eq_true rfl) kw_168 e1_ e2_ ?_
  refine mx_iload_n d_LBWorker_bind_17 rfl 1 rfl ?_
  obtain ⟨vs11, a12, e1_, e2_, e3_, h⟩ := h
  refine mx_aald (C := "LazyBuilder$Name") d_LBWorker_bind_18 (k := 112) rfl e1_ e2_ e3_ ?_
  refine mx_iconst (v := 1) d_LBWorker_bind_19 (by decide) ?_
  obtain ⟨fs13, e1_, h⟩ := h
  refine mx_put d_LBWorker_bind_20 (ci := 2) (k := 1) (q := mx_cl0_2) (ty := .boolean) rfl (Nat.le_of_ble_eq_true rfl) kw_175 rfl (by decide +kernel) (mx_nz (Or.inr rfl)) (mx_fz (Or.inr rfl)) (by omega) e1_ ?_
  obtain ⟨hs14, hg_⟩ : ∃ x_, x_ = mx_st hs8 a12 (2, fs13.set 1 (.int 1)) := ⟨_, rfl⟩
  replace h := h hs14 hg_
  rw [← hg_]
  clear hg_
  refine mx_aload_nR d_LBWorker_bind_23 rfl 0 rfl ?_
  obtain ⟨⟨fs17, e1_⟩, h⟩ := h
  refine mx_invV (Y := mm_LBWorker_forgetValues) (As := []) (rest := []) d_LBWorker_bind_24.1 ok_LBWorker_forgetValues kw_176 kw_177 kw_178 rfl rfl (Nat.le_of_ble_eq_true rfl) (Nat.le_of_ble_eq_true rfl) e1_ (q := mx_cl0_5) rfl rfl h (fun r15 hs16 h => ?_)
  obtain ⟨e9_, h⟩ := h
  subst e9_
  show mx_Ok mx_S0 l G (d + 1) mm_LBWorker_bind 27 [(0, .ref l0), (1, .int l1), (2, .ref l2)] [] hs16 Q
  exact mx_return d_LBWorker_bind_27 rfl h
set_option maxRecDepth 100000 in
theorem wp_LBWorker_unbind_0 {l : Launch} {G : mx_G} {d : Nat} {hs : mx_H} {Q : Option Value → mx_H → Prop} (l0 : Nat) (l1 : Int32) (h : (∃ (a2 : Nat), mx_f hs l0 5 0 (.ref a2) ∧ (∃ (vs3 : List Value) (a4 : Nat), hs.1 a2 = some (112, vs3) ∧ ¬ l1 < 0 ∧ vs3[Int32.toNatClampNeg l1]? = some (.ref a4) ∧ (∃ fs5 : List Value, hs.1 a4 = some (2, fs5) ∧ ∀ hs6 : mx_H, hs6 = mx_st hs a4 (2, fs5.set 1 (.int 0)) → ((∃ fs9 : List Value, hs6.1 l0 = some (5, fs9)) ∧ mx_C mx_S0 l G d mm_LBWorker_forgetValues [.ref l0] hs6 (fun (r7 : Option Value) (hs8 : mx_H) => r7 = none ∧ Q none hs8)))))) : mx_Ok mx_S0 l G (d + 1) mm_LBWorker_unbind 0 [(0, .ref l0), (1, .int l1)] [] hs Q := by
  refine mx_aload_nR d_LBWorker_unbind_0 rfl 0 rfl ?_
  obtain ⟨a2, ⟨fs1, e1_, e2_⟩, h⟩ := h
  refine mx_get d_LBWorker_unbind_1 (ci := 5) (k := 0) (q := mx_cl0_5) rfl (Nat.le_of_ble_eq_true rfl) kw_168 e1_ e2_ ?_
  refine mx_iload_n d_LBWorker_unbind_4 rfl 1 rfl ?_
  obtain ⟨vs3, a4, e1_, e2_, e3_, h⟩ := h
  refine mx_aald (C := "LazyBuilder$Name") d_LBWorker_unbind_5 (k := 112) rfl e1_ e2_ e3_ ?_
  refine mx_iconst (v := 0) d_LBWorker_unbind_6 (by decide) ?_
  obtain ⟨fs5, e1_, h⟩ := h
  refine mx_put d_LBWorker_unbind_7 (ci := 2) (k := 1) (q := mx_cl0_2) (ty := .boolean) rfl (Nat.le_of_ble_eq_true rfl) kw_175 rfl (by decide +kernel) (mx_nz (Or.inl rfl)) (mx_fz (Or.inl rfl)) (by omega) e1_ ?_
  obtain ⟨hs6, hg_⟩ : ∃ x_, x_ = mx_st hs a4 (2, fs5.set 1 (.int 0)) := ⟨_, rfl⟩
  replace h := h hs6 hg_
  rw [← hg_]
  clear hg_
  refine mx_aload_nR d_LBWorker_unbind_10 rfl 0 rfl ?_
  obtain ⟨⟨fs9, e1_⟩, h⟩ := h
  refine mx_invV (Y := mm_LBWorker_forgetValues) (As := []) (rest := []) d_LBWorker_unbind_11.1 ok_LBWorker_forgetValues kw_176 kw_177 kw_178 rfl rfl (Nat.le_of_ble_eq_true rfl) (Nat.le_of_ble_eq_true rfl) e1_ (q := mx_cl0_5) rfl rfl h (fun r7 hs8 h => ?_)
  obtain ⟨e9_, h⟩ := h
  subst e9_
  show mx_Ok mx_S0 l G (d + 1) mm_LBWorker_unbind 14 [(0, .ref l0), (1, .int l1)] [] hs8 Q
  exact mx_return d_LBWorker_unbind_14 rfl h
set_option maxRecDepth 100000 in
theorem wp_LBWorker_forgetValues_0 {l : Launch} {G : mx_G} {d : Nat} {hs : mx_H} {Q : Option Value → mx_H → Prop} (l0 : Nat) (h : mx_Ok mx_S0 l G (d + 1) mm_LBWorker_forgetValues 2 [(0, .ref l0), (1, .int 0)] [] hs Q) : mx_Ok mx_S0 l G (d + 1) mm_LBWorker_forgetValues 0 [(0, .ref l0)] [] hs Q := by
  refine mx_iconst (v := 0) d_LBWorker_forgetValues_0 (by decide) ?_
  refine mx_istore_n (lv2 := [(1, .int 0), (0, .ref l0)]) d_LBWorker_forgetValues_1 rfl (Nat.le_of_ble_eq_true rfl) rfl ?_
  exact mx_sub [1, 0] rfl h
set_option maxRecDepth 100000 in
theorem wp_LBWorker_forgetValues_2 {l : Launch} {G : mx_G} {d : Nat} {hs : mx_H} {Q : Option Value → mx_H → Prop} (l0 : Nat) (l1 : Int32) (h : ((8 ≤ l1 → Q none hs) ∧ (¬ (8 ≤ l1) → (∃ (a2 : Nat), mx_f hs l0 5 0 (.ref a2) ∧ (∃ (vs3 : List Value) (a4 : Nat), hs.1 a2 = some (112, vs3) ∧ ¬ l1 < 0 ∧ vs3[Int32.toNatClampNeg l1]? = some (.ref a4) ∧ (∃ fs5 : List Value, hs.1 a4 = some (2, fs5) ∧ ∀ hs6 : mx_H, hs6 = mx_st hs a4 (2, fs5.set 3 (.long (-1000000000000))) → mx_Ok mx_S0 l G (d + 1) mm_LBWorker_forgetValues 2 [(0, .ref l0), (1, .int (l1 + 1))] [] hs6 Q)))))) : mx_Ok mx_S0 l G (d + 1) mm_LBWorker_forgetValues 2 [(0, .ref l0), (1, .int l1)] [] hs Q := by
  refine mx_iload_n d_LBWorker_forgetValues_2 rfl 1 rfl ?_
  refine mx_bipush (v := 8) d_LBWorker_forgetValues_3 (by decide) ?_
  refine mx_icmp_ge d_LBWorker_forgetValues_5 (fun c9 => ?_) (fun c9 => ?_)
  · replace h := h.1 c9
    exact mx_return d_LBWorker_forgetValues_26 rfl h
  · replace h := h.2 c9
    refine mx_aload_nR d_LBWorker_forgetValues_8 rfl 0 rfl ?_
    obtain ⟨a2, ⟨fs1, e1_, e2_⟩, h⟩ := h
    refine mx_get d_LBWorker_forgetValues_9 (ci := 5) (k := 0) (q := mx_cl0_5) rfl (Nat.le_of_ble_eq_true rfl) kw_168 e1_ e2_ ?_
    refine mx_iload_n d_LBWorker_forgetValues_12 rfl 1 rfl ?_
    obtain ⟨vs3, a4, e1_, e2_, e3_, h⟩ := h
    refine mx_aald (C := "LazyBuilder$Name") d_LBWorker_forgetValues_13 (k := 112) rfl e1_ e2_ e3_ ?_
    refine mx_ldc2 (v := (-1000000000000)) d_LBWorker_forgetValues_14 kw_182 ?_
    obtain ⟨fs5, e1_, h⟩ := h
    refine mx_put d_LBWorker_forgetValues_17 (ci := 2) (k := 3) (q := mx_cl0_2) (ty := .long) rfl (Nat.le_of_ble_eq_true rfl) kw_183 rfl (by decide +kernel) rfl rfl (by omega) e1_ ?_
    obtain ⟨hs6, hg_⟩ : ∃ x_, x_ = mx_st hs a4 (2, fs5.set 3 (.long (-1000000000000))) := ⟨_, rfl⟩
    replace h := h hs6 hg_
    rw [← hg_]
    clear hg_
    refine mx_iinc (v := l1 + 1) (lv2 := [(1, .int (l1 + 1)), (0, .ref l0)]) d_LBWorker_forgetValues_20 1 rfl (by rfl) (Nat.le_of_ble_eq_true rfl) rfl ?_
    refine mx_goto d_LBWorker_forgetValues_23 ?_
    exact mx_sub [1, 0] rfl h
set_option maxRecDepth 100000 in
theorem wp_LBWorker_namesBound_0 {l : Launch} {G : mx_G} {d : Nat} {hs : mx_H} {Q : Option Value → mx_H → Prop} (l0 : Nat) (h : mx_Ok mx_S0 l G (d + 1) mm_LBWorker_namesBound 4 [(0, .ref l0), (1, .int 0), (2, .int 0)] [] hs Q) : mx_Ok mx_S0 l G (d + 1) mm_LBWorker_namesBound 0 [(0, .ref l0)] [] hs Q := by
  refine mx_iconst (v := 0) d_LBWorker_namesBound_0 (by decide) ?_
  refine mx_istore_n (lv2 := [(1, .int 0), (0, .ref l0)]) d_LBWorker_namesBound_1 rfl (Nat.le_of_ble_eq_true rfl) rfl ?_
  refine mx_iconst (v := 0) d_LBWorker_namesBound_2 (by decide) ?_
  refine mx_istore_n (lv2 := [(2, .int 0), (1, .int 0), (0, .ref l0)]) d_LBWorker_namesBound_3 rfl (Nat.le_of_ble_eq_true rfl) rfl ?_
  exact mx_sub [2, 1, 0] rfl h
set_option maxRecDepth 100000 in
theorem wp_LBWorker_namesBound_4 {l : Launch} {G : mx_G} {d : Nat} {hs : mx_H} {Q : Option Value → mx_H → Prop} (l0 : Nat) (l1 : Int32) (l2 : Int32) (h : ((8 ≤ l2 → Q (some (.int l1)) hs) ∧ (¬ (8 ≤ l2) → (∃ (a2 : Nat), mx_f hs l0 5 0 (.ref a2) ∧ (∃ (vs3 : List Value) (a4 : Nat), hs.1 a2 = some (112, vs3) ∧ ¬ l2 < 0 ∧ vs3[Int32.toNatClampNeg l2]? = some (.ref a4) ∧ (∃ (x6 : Int32), mx_f hs a4 2 1 (.int x6) ∧ ((x6 = 0 → mx_Ok mx_S0 l G (d + 1) mm_LBWorker_namesBound 28 [(0, .ref l0), (2, .int l2)] [.int 0, .int l1] hs Q) ∧ (¬ (x6 = 0) → mx_Ok mx_S0 l G (d + 1) mm_LBWorker_namesBound 28 [(0, .ref l0), (2, .int l2)] [.int 1, .int l1] hs Q)))))))) : mx_Ok mx_S0 l G (d + 1) mm_LBWorker_namesBound 4 [(0, .ref l0), (1, .int l1), (2, .int l2)] [] hs Q := by
  refine mx_iload_n d_LBWorker_namesBound_4 rfl 2 rfl ?_
  refine mx_bipush (v := 8) d_LBWorker_namesBound_5 (by decide) ?_
  refine mx_icmp_ge d_LBWorker_namesBound_7 (fun c9 => ?_) (fun c9 => ?_)
  · replace h := h.1 c9
    refine mx_iload_n d_LBWorker_namesBound_36 rfl 1 rfl ?_
    exact mx_ireturn d_LBWorker_namesBound_37 rfl rfl h
  · replace h := h.2 c9
    refine mx_iload_n d_LBWorker_namesBound_10 rfl 1 rfl ?_
    refine mx_aload_nR d_LBWorker_namesBound_11 rfl 0 rfl ?_
    obtain ⟨a2, ⟨fs1, e1_, e2_⟩, h⟩ := h
    refine mx_get d_LBWorker_namesBound_12 (ci := 5) (k := 0) (q := mx_cl0_5) rfl (Nat.le_of_ble_eq_true rfl) kw_168 e1_ e2_ ?_
    refine mx_iload_n d_LBWorker_namesBound_15 rfl 2 rfl ?_
    obtain ⟨vs3, a4, e1_, e2_, e3_, h⟩ := h
    refine mx_aald (C := "LazyBuilder$Name") d_LBWorker_namesBound_16 (k := 112) rfl e1_ e2_ e3_ ?_
    obtain ⟨x6, ⟨fs5, e1_, e2_⟩, h⟩ := h
    refine mx_get d_LBWorker_namesBound_17 (ci := 2) (k := 1) (q := mx_cl0_2) rfl (Nat.le_of_ble_eq_true rfl) kw_175 e1_ e2_ ?_
    refine mx_if_eq d_LBWorker_namesBound_20 (fun c9 => ?_) (fun c9 => ?_)
    · replace h := h.1 c9
      refine mx_iconst (v := 0) d_LBWorker_namesBound_27 (by decide) ?_
      exact mx_sub [0, 2] rfl h
    · replace h := h.2 c9
      refine mx_iconst (v := 1) d_LBWorker_namesBound_23 (by decide) ?_
      refine mx_goto d_LBWorker_namesBound_24 ?_
      exact mx_sub [0, 2] rfl h
set_option maxRecDepth 100000 in
theorem wp_LBWorker_namesBound_28 {l : Launch} {G : mx_G} {d : Nat} {hs : mx_H} {Q : Option Value → mx_H → Prop} (l0 : Nat) (l2 : Int32) (s0 : Int32) (s1 : Int32) (h : mx_Ok mx_S0 l G (d + 1) mm_LBWorker_namesBound 4 [(0, .ref l0), (1, .int (s0 + s1)), (2, .int (l2 + 1))] [] hs Q) : mx_Ok mx_S0 l G (d + 1) mm_LBWorker_namesBound 28 [(0, .ref l0), (2, .int l2)] [.int s1, .int s0] hs Q := by
  refine mx_iadd d_LBWorker_namesBound_28 ?_
  refine mx_istore_n (lv2 := [(1, .int (s0 + s1)), (0, .ref l0), (2, .int l2)]) d_LBWorker_namesBound_29 rfl (Nat.le_of_ble_eq_true rfl) rfl ?_
  refine mx_iinc (v := l2 + 1) (lv2 := [(2, .int (l2 + 1)), (1, .int (s0 + s1)), (0, .ref l0)]) d_LBWorker_namesBound_30 2 rfl (by rfl) (Nat.le_of_ble_eq_true rfl) rfl ?_
  refine mx_goto d_LBWorker_namesBound_33 ?_
  exact mx_sub [2, 1, 0] rfl h
set_option maxRecDepth 100000 in
theorem wp_LBWorker_namesKept_0 {l : Launch} {G : mx_G} {d : Nat} {hs : mx_H} {Q : Option Value → mx_H → Prop} (l0 : Nat) (h : mx_Ok mx_S0 l G (d + 1) mm_LBWorker_namesKept 4 [(0, .ref l0), (1, .int 0), (2, .int 0)] [] hs Q) : mx_Ok mx_S0 l G (d + 1) mm_LBWorker_namesKept 0 [(0, .ref l0)] [] hs Q := by
  refine mx_iconst (v := 0) d_LBWorker_namesKept_0 (by decide) ?_
  refine mx_istore_n (lv2 := [(1, .int 0), (0, .ref l0)]) d_LBWorker_namesKept_1 rfl (Nat.le_of_ble_eq_true rfl) rfl ?_
  refine mx_iconst (v := 0) d_LBWorker_namesKept_2 (by decide) ?_
  refine mx_istore_n (lv2 := [(2, .int 0), (1, .int 0), (0, .ref l0)]) d_LBWorker_namesKept_3 rfl (Nat.le_of_ble_eq_true rfl) rfl ?_
  exact mx_sub [2, 1, 0] rfl h
set_option maxRecDepth 100000 in
theorem wp_LBWorker_namesKept_4 {l : Launch} {G : mx_G} {d : Nat} {hs : mx_H} {Q : Option Value → mx_H → Prop} (l0 : Nat) (l1 : Int32) (l2 : Int32) (h : ((8 ≤ l2 → Q (some (.int l1)) hs) ∧ (¬ (8 ≤ l2) → (∃ (a2 : Nat), mx_f hs l0 5 0 (.ref a2) ∧ (∃ (vs3 : List Value) (a4 : Nat), hs.1 a2 = some (112, vs3) ∧ ¬ l2 < 0 ∧ vs3[Int32.toNatClampNeg l2]? = some (.ref a4) ∧ (∃ (x6 : Int64), mx_f hs a4 2 3 (.long x6) ∧ ((x6 = (-1000000000000) → mx_Ok mx_S0 l G (d + 1) mm_LBWorker_namesKept 32 [(0, .ref l0), (2, .int l2)] [.int 0, .int l1] hs Q) ∧ (¬ (x6 = (-1000000000000)) → mx_Ok mx_S0 l G (d + 1) mm_LBWorker_namesKept 32 [(0, .ref l0), (2, .int l2)] [.int 1, .int l1] hs Q)))))))) : mx_Ok mx_S0 l G (d + 1) mm_LBWorker_namesKept 4 [(0, .ref l0), (1, .int l1), (2, .int l2)] [] hs Q := by
  refine mx_iload_n d_LBWorker_namesKept_4 rfl 2 rfl ?_
  refine mx_bipush (v := 8) d_LBWorker_namesKept_5 (by decide) ?_
  refine mx_icmp_ge d_LBWorker_namesKept_7 (fun c9 => ?_) (fun c9 => ?_)
  · replace h := h.1 c9
    refine mx_iload_n d_LBWorker_namesKept_40 rfl 1 rfl ?_
    exact mx_ireturn d_LBWorker_namesKept_41 rfl rfl h
  · replace h := h.2 c9
    refine mx_iload_n d_LBWorker_namesKept_10 rfl 1 rfl ?_
    refine mx_aload_nR d_LBWorker_namesKept_11 rfl 0 rfl ?_
    obtain ⟨a2, ⟨fs1, e1_, e2_⟩, h⟩ := h
    refine mx_get d_LBWorker_namesKept_12 (ci := 5) (k := 0) (q := mx_cl0_5) rfl (Nat.le_of_ble_eq_true rfl) kw_168 e1_ e2_ ?_
    refine mx_iload_n d_LBWorker_namesKept_15 rfl 2 rfl ?_
    obtain ⟨vs3, a4, e1_, e2_, e3_, h⟩ := h
    refine mx_aald (C := "LazyBuilder$Name") d_LBWorker_namesKept_16 (k := 112) rfl e1_ e2_ e3_ ?_
    obtain ⟨x6, ⟨fs5, e1_, e2_⟩, h⟩ := h
    refine mx_get d_LBWorker_namesKept_17 (ci := 2) (k := 3) (q := mx_cl0_2) rfl (Nat.le_of_ble_eq_true rfl) kw_183 e1_ e2_ ?_
    refine mx_ldc2 (v := (-1000000000000)) d_LBWorker_namesKept_20 kw_182 ?_
    refine mx_lcmp d_LBWorker_namesKept_23 ?_
    refine mx_if_eq d_LBWorker_namesKept_24 (fun c9 => ?_) (fun c9 => ?_)
    · replace h := h.1 ((lg_cmp_eq _ _).mp c9)
      refine mx_iconst (v := 0) d_LBWorker_namesKept_31 (by decide) ?_
      exact mx_sub [0, 2] rfl h
    · replace h := h.2 (fun z9 => c9 ((lg_cmp_eq _ _).mpr z9))
      refine mx_iconst (v := 1) d_LBWorker_namesKept_27 (by decide) ?_
      refine mx_goto d_LBWorker_namesKept_28 ?_
      exact mx_sub [0, 2] rfl h
set_option maxRecDepth 100000 in
theorem wp_LBWorker_namesKept_32 {l : Launch} {G : mx_G} {d : Nat} {hs : mx_H} {Q : Option Value → mx_H → Prop} (l0 : Nat) (l2 : Int32) (s0 : Int32) (s1 : Int32) (h : mx_Ok mx_S0 l G (d + 1) mm_LBWorker_namesKept 4 [(0, .ref l0), (1, .int (s0 + s1)), (2, .int (l2 + 1))] [] hs Q) : mx_Ok mx_S0 l G (d + 1) mm_LBWorker_namesKept 32 [(0, .ref l0), (2, .int l2)] [.int s1, .int s0] hs Q := by
  refine mx_iadd d_LBWorker_namesKept_32 ?_
  refine mx_istore_n (lv2 := [(1, .int (s0 + s1)), (0, .ref l0), (2, .int l2)]) d_LBWorker_namesKept_33 rfl (Nat.le_of_ble_eq_true rfl) rfl ?_
  refine mx_iinc (v := l2 + 1) (lv2 := [(2, .int (l2 + 1)), (1, .int (s0 + s1)), (0, .ref l0)]) d_LBWorker_namesKept_34 2 rfl (by rfl) (Nat.le_of_ble_eq_true rfl) rfl ?_
  refine mx_goto d_LBWorker_namesKept_37 ?_
  exact mx_sub [2, 1, 0] rfl h
set_option maxRecDepth 100000 in
theorem wp_LBWorker_isClosed_0 {l : Launch} {G : mx_G} {d : Nat} {hs : mx_H} {Q : Option Value → mx_H → Prop} (l0 : Nat) (h : (∃ (x2 : Int32), mx_f hs l0 5 4 (.int x2) ∧ ((x2 < 30 → Q (some (.int 0)) hs) ∧ (¬ (x2 < 30) → Q (some (.int 1)) hs)))) : mx_Ok mx_S0 l G (d + 1) mm_LBWorker_isClosed 0 [(0, .ref l0)] [] hs Q := by
  refine mx_aload_nR d_LBWorker_isClosed_0 rfl 0 rfl ?_
  obtain ⟨x2, ⟨fs1, e1_, e2_⟩, h⟩ := h
  refine mx_get d_LBWorker_isClosed_1 (ci := 5) (k := 4) (q := mx_cl0_5) rfl (Nat.le_of_ble_eq_true rfl) kw_184 e1_ e2_ ?_
  refine mx_bipush (v := 30) d_LBWorker_isClosed_4 (by decide) ?_
  refine mx_icmp_lt d_LBWorker_isClosed_6 (fun c9 => ?_) (fun c9 => ?_)
  · replace h := h.1 c9
    refine mx_iconst (v := 0) d_LBWorker_isClosed_13 (by decide) ?_
    exact mx_ireturn d_LBWorker_isClosed_14 rfl (mx_nz (Or.inl rfl)) h
  · replace h := h.2 c9
    refine mx_iconst (v := 1) d_LBWorker_isClosed_9 (by decide) ?_
    refine mx_goto d_LBWorker_isClosed_10 ?_
    exact mx_ireturn d_LBWorker_isClosed_14 rfl (mx_nz (Or.inr rfl)) h
set_option maxRecDepth 100000 in
theorem wp_LBWorker_answerOf_0 {l : Launch} {G : mx_G} {d : Nat} {hs : mx_H} {Q : Option Value → mx_H → Prop} (l0 : Nat) (l1 : Int64) (h : mx_C mx_S0 l G d mm_LB_isFailure [.long l1] hs (fun (r1 : Option Value) (hs2 : mx_H) => ∃ x3 : Int32, r1 = some (.int x3) ∧ ((¬ x3 = 0 → (∃ (x5 : Int32), mx_f hs2 l0 5 4 (.int x5) ∧ (∃ fs6 : List Value, hs2.1 l0 = some (5, fs6) ∧ ∀ hs7 : mx_H, hs7 = mx_st hs2 l0 (5, fs6.set 4 (.int (x5 + 1))) → Q (some (.int (Int64.toInt32 (l1 - (-1000000000000))))) hs7))) ∧ (¬ (¬ x3 = 0) → Q (some (.int 0)) hs2)))) : mx_Ok mx_S0 l G (d + 1) mm_LBWorker_answerOf 0 [(0, .ref l0), (1, .long l1)] [] hs Q := by
  refine mx_lload_n d_LBWorker_answerOf_0 rfl 1 rfl ?_
  refine mx_invSN (Y := mm_LB_isFailure) (As := [.long l1]) (rest := []) d_LBWorker_answerOf_1.1 ok_LB_isFailure kn_4 kw_54 rfl rfl (Nat.le_of_ble_eq_true rfl) (Nat.le_of_ble_eq_true rfl) h (fun r1 hs2 h => ?_)
  obtain ⟨x3, e9_, h⟩ := h
  subst e9_
  show mx_Ok mx_S0 l G (d + 1) mm_LBWorker_answerOf 4 [(0, .ref l0), (1, .long l1)] [.int x3] hs2 Q
  refine mx_if_ne d_LBWorker_answerOf_4 (fun c9 => ?_) (fun c9 => ?_)
  · replace h := h.1 c9
    refine mx_aload_nR d_LBWorker_answerOf_9 rfl 0 rfl ?_
    refine mx_dup d_LBWorker_answerOf_10 rfl ?_
    obtain ⟨x5, ⟨fs4, e1_, e2_⟩, h⟩ := h
    refine mx_get d_LBWorker_answerOf_11 (ci := 5) (k := 4) (q := mx_cl0_5) rfl (Nat.le_of_ble_eq_true rfl) kw_184 e1_ e2_ ?_
    refine mx_iconst (v := 1) d_LBWorker_answerOf_14 (by decide) ?_
    refine mx_iadd d_LBWorker_answerOf_15 ?_
    obtain ⟨fs6, e1_, h⟩ := h
    refine mx_put d_LBWorker_answerOf_16 (ci := 5) (k := 4) (q := mx_cl0_5) (ty := .int) rfl (Nat.le_of_ble_eq_true rfl) kw_184 rfl (by decide +kernel) rfl rfl (by omega) e1_ ?_
    obtain ⟨hs7, hg_⟩ : ∃ x_, x_ = mx_st hs2 l0 (5, fs6.set 4 (.int (x5 + 1))) := ⟨_, rfl⟩
    replace h := h hs7 hg_
    rw [← hg_]
    clear hg_
    refine mx_lload_n d_LBWorker_answerOf_19 rfl 1 rfl ?_
    refine mx_ldc2 (v := (-1000000000000)) d_LBWorker_answerOf_20 kw_182 ?_
    refine mx_lsub d_LBWorker_answerOf_23 ?_
    refine mx_l2i d_LBWorker_answerOf_24 ?_
    exact mx_ireturn d_LBWorker_answerOf_25 rfl rfl h
  · replace h := h.2 c9
    refine mx_iconst (v := 0) d_LBWorker_answerOf_7 (by decide) ?_
    exact mx_ireturn d_LBWorker_answerOf_8 rfl rfl h
set_option maxRecDepth 100000 in
theorem wp_LBWorker_workOutName_0 {l : Launch} {G : mx_G} {d : Nat} {hs : mx_H} {Q : Option Value → mx_H → Prop} (l0 : Nat) (l1 : Int32) (h : (∃ fs1 : List Value, hs.1 l0 = some (5, fs1) ∧ ∀ hs2 : mx_H, hs2 = mx_st hs l0 (5, fs1.set 3 (.int 1)) → ((∃ fs6 : List Value, hs2.1 l0 = some (5, fs6)) ∧ mx_C mx_S0 l G d mm_LBWorker_workName [.ref l0, .int l1, .int 1] hs2 (fun (r3 : Option Value) (hs4 : mx_H) => ∃ x5 : Int64, r3 = some (.long x5) ∧ Q (some (.long x5)) hs4)))) : mx_Ok mx_S0 l G (d + 1) mm_LBWorker_workOutName 0 [(0, .ref l0), (1, .int l1)] [] hs Q := by
  refine mx_aload_nR d_LBWorker_workOutName_0 rfl 0 rfl ?_
  refine mx_iconst (v := 1) d_LBWorker_workOutName_1 (by decide) ?_
  obtain ⟨fs1, e1_, h⟩ := h
  refine mx_put d_LBWorker_workOutName_2 (ci := 5) (k := 3) (q := mx_cl0_5) (ty := .int) rfl (Nat.le_of_ble_eq_true rfl) kw_185 rfl (by decide +kernel) rfl rfl (by omega) e1_ ?_
  obtain ⟨hs2, hg_⟩ : ∃ x_, x_ = mx_st hs l0 (5, fs1.set 3 (.int 1)) := ⟨_, rfl⟩
  replace h := h hs2 hg_
  rw [← hg_]
  clear hg_
  refine mx_aload_nR d_LBWorker_workOutName_5 rfl 0 rfl ?_
  refine mx_iload_n d_LBWorker_workOutName_6 rfl 1 rfl ?_
  refine mx_iconst (v := 1) d_LBWorker_workOutName_7 (by decide) ?_
  obtain ⟨⟨fs6, e1_⟩, h⟩ := h
  refine mx_invV (Y := mm_LBWorker_workName) (As := [.int l1, .int 1]) (rest := []) d_LBWorker_workOutName_8.1 ok_LBWorker_workName kw_186 kw_187 kw_188 rfl rfl (Nat.le_of_ble_eq_true rfl) (Nat.le_of_ble_eq_true rfl) e1_ (q := mx_cl0_5) rfl rfl h (fun r3 hs4 h => ?_)
  obtain ⟨x5, e9_, h⟩ := h
  subst e9_
  show mx_Ok mx_S0 l G (d + 1) mm_LBWorker_workOutName 11 [(0, .ref l0), (1, .int l1)] [.long x5] hs4 Q
  exact mx_lreturn d_LBWorker_workOutName_11 rfl h
set_option maxRecDepth 100000 in
theorem wp_LBWorker_workOutText_0 {l : Launch} {G : mx_G} {d : Nat} {hs : mx_H} {Q : Option Value → mx_H → Prop} (l0 : Nat) (l1 : Nat) (h : (∃ fs1 : List Value, hs.1 l0 = some (5, fs1) ∧ ∀ hs2 : mx_H, hs2 = mx_st hs l0 (5, fs1.set 3 (.int 0)) → ((∃ fs6 : List Value, hs2.1 l0 = some (5, fs6)) ∧ mx_C mx_S0 l G d mm_LBWorker_work [.ref l0, .ref l1, .int 0, .int 1] hs2 (fun (r3 : Option Value) (hs4 : mx_H) => ∃ x5 : Int64, r3 = some (.long x5) ∧ Q (some (.long x5)) hs4)))) : mx_Ok mx_S0 l G (d + 1) mm_LBWorker_workOutText 0 [(0, .ref l0), (1, .ref l1)] [] hs Q := by
  refine mx_aload_nR d_LBWorker_workOutText_0 rfl 0 rfl ?_
  refine mx_iconst (v := 0) d_LBWorker_workOutText_1 (by decide) ?_
  obtain ⟨fs1, e1_, h⟩ := h
  refine mx_put d_LBWorker_workOutText_2 (ci := 5) (k := 3) (q := mx_cl0_5) (ty := .int) rfl (Nat.le_of_ble_eq_true rfl) kw_185 rfl (by decide +kernel) rfl rfl (by omega) e1_ ?_
  obtain ⟨hs2, hg_⟩ : ∃ x_, x_ = mx_st hs l0 (5, fs1.set 3 (.int 0)) := ⟨_, rfl⟩
  replace h := h hs2 hg_
  rw [← hg_]
  clear hg_
  refine mx_aload_nR d_LBWorker_workOutText_5 rfl 0 rfl ?_
  refine mx_aload_nR d_LBWorker_workOutText_6 rfl 1 rfl ?_
  refine mx_iconst (v := 0) d_LBWorker_workOutText_7 (by decide) ?_
  refine mx_iconst (v := 1) d_LBWorker_workOutText_8 (by decide) ?_
  obtain ⟨⟨fs6, e1_⟩, h⟩ := h
  refine mx_invV (Y := mm_LBWorker_work) (As := [.ref l1, .int 0, .int 1]) (rest := []) d_LBWorker_workOutText_9.1 ok_LBWorker_work kw_189 kw_190 kw_191 rfl rfl (Nat.le_of_ble_eq_true rfl) (Nat.le_of_ble_eq_true rfl) e1_ (q := mx_cl0_5) rfl rfl h (fun r3 hs4 h => ?_)
  obtain ⟨x5, e9_, h⟩ := h
  subst e9_
  show mx_Ok mx_S0 l G (d + 1) mm_LBWorker_workOutText 12 [(0, .ref l0), (1, .ref l1)] [.long x5] hs4 Q
  exact mx_lreturn d_LBWorker_workOutText_12 rfl h
set_option maxRecDepth 100000 in
theorem wp_LBWorker_work_0 {l : Launch} {G : mx_G} {d : Nat} {hs : mx_H} {Q : Option Value → mx_H → Prop} (l0 : Nat) (l1 : Nat) (l2 : Int32) (l3 : Int32) (h : (∃ (x2 : Int32), mx_f hs l0 5 3 (.int x2) ∧ ((200 ≤ x2 → Q (some (.long (-1000000000010))) hs) ∧ (¬ (200 ≤ x2) → ((l3 ≤ 72 → (∃ (x4 : Int32), mx_f hs l0 5 3 (.int x4) ∧ (∃ fs5 : List Value, hs.1 l0 = some (5, fs5) ∧ ∀ hs6 : mx_H, hs6 = mx_st hs l0 (5, fs5.set 3 (.int (x4 + 1))) → ((∃ fs44 : List Value, hs6.1 l1 = some (1, fs44)) ∧ mx_C mx_S0 l G d mm_LBText_codeAt [.ref l1, .int l2] hs6 (fun (r7 : Option Value) (hs8 : mx_H) => ∃ x9 : Int32, r7 = some (.int x9) ∧ mx_C mx_S0 l G d mm_LB_isDigit [.int x9] hs8 (fun (r10 : Option Value) (hs11 : mx_H) => ∃ x12 : Int32, r10 = some (.int x12) ∧ ((x12 = 0 → mx_C mx_S0 l G d mm_LB_isLetter [.int x9] hs11 (fun (r13 : Option Value) (hs14 : mx_H) => ∃ x15 : Int32, r13 = some (.int x15) ∧ ((x15 = 0 → ((x9 = 33 → ((∃ fs19 : List Value, hs14.1 l0 = some (5, fs19)) ∧ mx_C mx_S0 l G d mm_LBWorker_workAbort [.ref l0, .ref l1, .int l2, .int l3] hs14 (fun (r16 : Option Value) (hs17 : mx_H) => ∃ x18 : Int64, r16 = some (.long x18) ∧ Q (some (.long x18)) hs17))) ∧ (x9 = 63 → ((∃ fs23 : List Value, hs14.1 l0 = some (5, fs23)) ∧ mx_C mx_S0 l G d mm_LBWorker_workChoice [.ref l0, .ref l1, .int l2, .int l3] hs14 (fun (r20 : Option Value) (hs21 : mx_H) => ∃ x22 : Int64, r20 = some (.long x22) ∧ Q (some (.long x22)) hs21))) ∧ (x9 = 68 → ((∃ fs27 : List Value, hs14.1 l0 = some (5, fs27)) ∧ mx_C mx_S0 l G d mm_LBWorker_workPlan [.ref l0, .ref l1, .int l2, .int l3] hs14 (fun (r24 : Option Value) (hs25 : mx_H) => ∃ x26 : Int64, r24 = some (.long x26) ∧ Q (some (.long x26)) hs25))) ∧ (x9 = 79 → ((∃ fs31 : List Value, hs14.1 l0 = some (5, fs31)) ∧ mx_C mx_S0 l G d mm_LBWorker_workResult [.ref l0, .ref l1, .int l2, .int l3] hs14 (fun (r28 : Option Value) (hs29 : mx_H) => ∃ x30 : Int64, r28 = some (.long x30) ∧ Q (some (.long x30)) hs29))) ∧ (x9 = 84 → ((∃ fs35 : List Value, hs14.1 l0 = some (5, fs35)) ∧ mx_C mx_S0 l G d mm_LBWorker_workTry [.ref l0, .ref l1, .int l2, .int l3] hs14 (fun (r32 : Option Value) (hs33 : mx_H) => ∃ x34 : Int64, r32 = some (.long x34) ∧ Q (some (.long x34)) hs33))) ∧ (¬ x9 = 33 → ¬ x9 = 63 → ¬ x9 = 68 → ¬ x9 = 79 → ¬ x9 = 84 → ((∃ fs39 : List Value, hs14.1 l0 = some (5, fs39)) ∧ mx_C mx_S0 l G d mm_LBWorker_workPair [.ref l0, .ref l1, .int l2, .int l3] hs14 (fun (r36 : Option Value) (hs37 : mx_H) => ∃ x38 : Int64, r36 = some (.long x38) ∧ Q (some (.long x38)) hs37))))) ∧ (¬ (x15 = 0) → ((∃ fs43 : List Value, hs14.1 l0 = some (5, fs43)) ∧ mx_C mx_S0 l G d mm_LBWorker_workName [.ref l0, .int (x9 - 97), .int l3] hs14 (fun (r40 : Option Value) (hs41 : mx_H) => ∃ x42 : Int64, r40 = some (.long x42) ∧ Q (some (.long x42)) hs41)))))) ∧ (¬ (x12 = 0) → Q (some (.long (Int32.toInt64 (x9 - 48)))) hs11)))))))) ∧ (¬ (l3 ≤ 72) → Q (some (.long (-1000000000010))) hs)))))) : mx_Ok mx_S0 l G (d + 1) mm_LBWorker_work 0 [(0, .ref l0), (1, .ref l1), (2, .int l2), (3, .int l3)] [] hs Q := by
  refine mx_aload_nR d_LBWorker_work_0 rfl 0 rfl ?_
  obtain ⟨x2, ⟨fs1, e1_, e2_⟩, h⟩ := h
  refine mx_get d_LBWorker_work_1 (ci := 5) (k := 3) (q := mx_cl0_5) rfl (Nat.le_of_ble_eq_true rfl) kw_185 e1_ e2_ ?_
  refine mx_sipush (v := 200) d_LBWorker_work_4 (by decide) ?_
  refine mx_icmp_ge d_LBWorker_work_7 (fun c9 => ?_) (fun c9 => ?_)
  · replace h := h.1 c9
    refine mx_ldc2 (v := (-1000000000010)) d_LBWorker_work_16 kw_192 ?_
    exact mx_lreturn d_LBWorker_work_19 rfl h
  · replace h := h.2 c9
    refine mx_iload_n d_LBWorker_work_10 rfl 3 rfl ?_
    refine mx_bipush (v := 72) d_LBWorker_work_11 (by decide) ?_
    refine mx_icmp_le d_LBWorker_work_13 (fun c9 => ?_) (fun c9 => ?_)
    · replace h := h.1 c9
      refine mx_aload_nR d_LBWorker_work_20 rfl 0 rfl ?_
      refine mx_dup d_LBWorker_work_21 rfl ?_
      obtain ⟨x4, ⟨fs3, e1_, e2_⟩, h⟩ := h
      refine mx_get d_LBWorker_work_22 (ci := 5) (k := 3) (q := mx_cl0_5) rfl (Nat.le_of_ble_eq_true rfl) kw_185 e1_ e2_ ?_
      refine mx_iconst (v := 1) d_LBWorker_work_25 (by decide) ?_
      refine mx_iadd d_LBWorker_work_26 ?_
      obtain ⟨fs5, e1_, h⟩ := h
      refine mx_put d_LBWorker_work_27 (ci := 5) (k := 3) (q := mx_cl0_5) (ty := .int) rfl (Nat.le_of_ble_eq_true rfl) kw_185 rfl (by decide +kernel) rfl rfl (by omega) e1_ ?_
      obtain ⟨hs6, hg_⟩ : ∃ x_, x_ = mx_st hs l0 (5, fs5.set 3 (.int (x4 + 1))) := ⟨_, rfl⟩
      replace h := h hs6 hg_
      rw [← hg_]
      clear hg_
      refine mx_aload_nR d_LBWorker_work_30 rfl 1 rfl ?_
      refine mx_iload_n d_LBWorker_work_31 rfl 2 rfl ?_
      obtain ⟨⟨fs44, e1_⟩, h⟩ := h
      refine mx_invV (Y := mm_LBText_codeAt) (As := [.int l2]) (rest := []) d_LBWorker_work_32.1 ok_LBText_codeAt kw_211 kw_116 kw_117 rfl rfl (Nat.le_of_ble_eq_true rfl) (Nat.le_of_ble_eq_true rfl) e1_ (q := mx_cl0_1) rfl rfl h (fun r7 hs8 h => ?_)
      obtain ⟨x9, e9_, h⟩ := h
      subst e9_
      show mx_Ok mx_S0 l G (d + 1) mm_LBWorker_work 35 [(0, .ref l0), (1, .ref l1), (2, .int l2), (3, .int l3)] [.int x9] hs8 Q
      refine mx_istore (lv2 := [(4, .int x9), (0, .ref l0), (1, .ref l1), (2, .int l2), (3, .int l3)]) d_LBWorker_work_35 (Nat.le_of_ble_eq_true rfl) rfl ?_
      refine mx_iload d_LBWorker_work_37 0 rfl ?_
      refine mx_invSN (Y := mm_LB_isDigit) (As := [.int x9]) (rest := []) d_LBWorker_work_39.1 ok_LB_isDigit kn_6 kw_114 rfl rfl (Nat.le_of_ble_eq_true rfl) (Nat.le_of_ble_eq_true rfl) h (fun r10 hs11 h => ?_)
      obtain ⟨x12, e9_, h⟩ := h
      subst e9_
      show mx_Ok mx_S0 l G (d + 1) mm_LBWorker_work 42 [(4, .int x9), (0, .ref l0), (1, .ref l1), (2, .int l2), (3, .int l3)] [.int x12] hs11 Q
      refine mx_if_eq d_LBWorker_work_42 (fun c9 => ?_) (fun c9 => ?_)
      · replace h := h.1 c9
        refine mx_iload d_LBWorker_work_52 0 rfl ?_
        refine mx_invSN (Y := mm_LB_isLetter) (As := [.int x9]) (rest := []) d_LBWorker_work_54.1 ok_LB_isLetter kn_5 kw_113 rfl rfl (Nat.le_of_ble_eq_true rfl) (Nat.le_of_ble_eq_true rfl) h (fun r13 hs14 h => ?_)
        obtain ⟨x15, e9_, h⟩ := h
        subst e9_
        show mx_Ok mx_S0 l G (d + 1) mm_LBWorker_work 57 [(4, .int x9), (0, .ref l0), (1, .ref l1), (2, .int l2), (3, .int l3)] [.int x15] hs14 Q
        refine mx_if_eq d_LBWorker_work_57 (fun c9 => ?_) (fun c9 => ?_)
        · replace h := h.1 c9
          refine mx_iload d_LBWorker_work_71 0 rfl ?_
          by_cases c0_ : x9 = 33
          · replace h := h.1 c0_
            refine mx_lookup d_LBWorker_work_73 (by decide) (o := 59) (by rw [c0_]; decide) (tgt := 132) (by decide) ?_
            refine mx_aload_nR d_LBWorker_work_132 rfl 1 rfl ?_
            refine mx_aload_nR d_LBWorker_work_133 rfl 2 rfl ?_
            refine mx_iload_n d_LBWorker_work_134 rfl 3 rfl ?_
            refine mx_iload_n d_LBWorker_work_135 rfl 4 rfl ?_
            obtain ⟨⟨fs19, e1_⟩, h⟩ := h
            refine mx_invV (Y := mm_LBWorker_workAbort) (As := [.ref l1, .int l2, .int l3]) (rest := []) d_LBWorker_work_136.1 ok_LBWorker_workAbort kw_193 kw_194 kw_195 rfl rfl (Nat.le_of_ble_eq_true rfl) (Nat.le_of_ble_eq_true rfl) e1_ (q := mx_cl0_5) rfl rfl h (fun r16 hs17 h => ?_)
            obtain ⟨x18, e9_, h⟩ := h
            subst e9_
            show mx_Ok mx_S0 l G (d + 1) mm_LBWorker_work 139 [(4, .int x9), (0, .ref l0), (1, .ref l1), (2, .int l2), (3, .int l3)] [.long x18] hs17 Q
            exact mx_lreturn d_LBWorker_work_139 rfl h
          by_cases c1_ : x9 = 63
          · replace h := h.2.1 c1_
            refine mx_lookup d_LBWorker_work_73 (by decide) (o := 51) (by rw [c1_]; decide) (tgt := 124) (by decide) ?_
            refine mx_aload_nR d_LBWorker_work_124 rfl 1 rfl ?_
            refine mx_aload_nR d_LBWorker_work_125 rfl 2 rfl ?_
            refine mx_iload_n d_LBWorker_work_126 rfl 3 rfl ?_
            refine mx_iload_n d_LBWorker_work_127 rfl 4 rfl ?_
            obtain ⟨⟨fs23, e1_⟩, h⟩ := h
            refine mx_invV (Y := mm_LBWorker_workChoice) (As := [.ref l1, .int l2, .int l3]) (rest := []) d_LBWorker_work_128.1 ok_LBWorker_workChoice kw_196 kw_197 kw_198 rfl rfl (Nat.le_of_ble_eq_true rfl) (Nat.le_of_ble_eq_true rfl) e1_ (q := mx_cl0_5) rfl rfl h (fun r20 hs21 h => ?_)
            obtain ⟨x22, e9_, h⟩ := h
            subst e9_
            show mx_Ok mx_S0 l G (d + 1) mm_LBWorker_work 131 [(4, .int x9), (0, .ref l0), (1, .ref l1), (2, .int l2), (3, .int l3)] [.long x22] hs21 Q
            exact mx_lreturn d_LBWorker_work_131 rfl h
          by_cases c2_ : x9 = 68
          · replace h := h.2.2.1 c2_
            refine mx_lookup d_LBWorker_work_73 (by decide) (o := 75) (by rw [c2_]; decide) (tgt := 148) (by decide) ?_
            refine mx_aload_nR d_LBWorker_work_148 rfl 1 rfl ?_
            refine mx_aload_nR d_LBWorker_work_149 rfl 2 rfl ?_
            refine mx_iload_n d_LBWorker_work_150 rfl 3 rfl ?_
            refine mx_iload_n d_LBWorker_work_151 rfl 4 rfl ?_
            obtain ⟨⟨fs27, e1_⟩, h⟩ := h
            refine mx_invV (Y := mm_LBWorker_workPlan) (As := [.ref l1, .int l2, .int l3]) (rest := []) d_LBWorker_work_152.1 ok_LBWorker_workPlan kw_199 kw_200 kw_201 rfl rfl (Nat.le_of_ble_eq_true rfl) (Nat.le_of_ble_eq_true rfl) e1_ (q := mx_cl0_5) rfl rfl h (fun r24 hs25 h => ?_)
            obtain ⟨x26, e9_, h⟩ := h
            subst e9_
            show mx_Ok mx_S0 l G (d + 1) mm_LBWorker_work 155 [(4, .int x9), (0, .ref l0), (1, .ref l1), (2, .int l2), (3, .int l3)] [.long x26] hs25 Q
            exact mx_lreturn d_LBWorker_work_155 rfl h
          by_cases c3_ : x9 = 79
          · replace h := h.2.2.2.1 c3_
            refine mx_lookup d_LBWorker_work_73 (by decide) (o := 83) (by rw [c3_]; decide) (tgt := 156) (by decide) ?_
            refine mx_aload_nR d_LBWorker_work_156 rfl 1 rfl ?_
            refine mx_aload_nR d_LBWorker_work_157 rfl 2 rfl ?_
            refine mx_iload_n d_LBWorker_work_158 rfl 3 rfl ?_
            refine mx_iload_n d_LBWorker_work_159 rfl 4 rfl ?_
            obtain ⟨⟨fs31, e1_⟩, h⟩ := h
            refine mx_invV (Y := mm_LBWorker_workResult) (As := [.ref l1, .int l2, .int l3]) (rest := []) d_LBWorker_work_160.1 ok_LBWorker_workResult kw_202 kw_203 kw_204 rfl rfl (Nat.le_of_ble_eq_true rfl) (Nat.le_of_ble_eq_true rfl) e1_ (q := mx_cl0_5) rfl rfl h (fun r28 hs29 h => ?_)
            obtain ⟨x30, e9_, h⟩ := h
            subst e9_
            show mx_Ok mx_S0 l G (d + 1) mm_LBWorker_work 163 [(4, .int x9), (0, .ref l0), (1, .ref l1), (2, .int l2), (3, .int l3)] [.long x30] hs29 Q
            exact mx_lreturn d_LBWorker_work_163 rfl h
          by_cases c4_ : x9 = 84
          · replace h := h.2.2.2.2.1 c4_
            refine mx_lookup d_LBWorker_work_73 (by decide) (o := 67) (by rw [c4_]; decide) (tgt := 140) (by decide) ?_
            refine mx_aload_nR d_LBWorker_work_140 rfl 1 rfl ?_
            refine mx_aload_nR d_LBWorker_work_141 rfl 2 rfl ?_
            refine mx_iload_n d_LBWorker_work_142 rfl 3 rfl ?_
            refine mx_iload_n d_LBWorker_work_143 rfl 4 rfl ?_
            obtain ⟨⟨fs35, e1_⟩, h⟩ := h
            refine mx_invV (Y := mm_LBWorker_workTry) (As := [.ref l1, .int l2, .int l3]) (rest := []) d_LBWorker_work_144.1 ok_LBWorker_workTry kw_205 kw_206 kw_207 rfl rfl (Nat.le_of_ble_eq_true rfl) (Nat.le_of_ble_eq_true rfl) e1_ (q := mx_cl0_5) rfl rfl h (fun r32 hs33 h => ?_)
            obtain ⟨x34, e9_, h⟩ := h
            subst e9_
            show mx_Ok mx_S0 l G (d + 1) mm_LBWorker_work 147 [(4, .int x9), (0, .ref l0), (1, .ref l1), (2, .int l2), (3, .int l3)] [.long x34] hs33 Q
            exact mx_lreturn d_LBWorker_work_147 rfl h
          replace h := h.2.2.2.2.2 c0_ c1_ c2_ c3_ c4_
          refine mx_lookup d_LBWorker_work_73 (by decide) (o := 91) (by show Op.lookupswitch.offset [(33, 59), (63, 51), (68, 75), (79, 83), (84, 67)] 91 _ = _; rw [lv_osw c0_ (by decide), lv_osw c1_ (by decide), lv_osw c2_ (by decide), lv_osw c3_ (by decide), lv_osw c4_ (by decide)]; rfl) (tgt := 164) (by decide) ?_
          refine mx_aload_nR d_LBWorker_work_164 rfl 1 rfl ?_
          refine mx_aload_nR d_LBWorker_work_165 rfl 2 rfl ?_
          refine mx_iload_n d_LBWorker_work_166 rfl 3 rfl ?_
          refine mx_iload_n d_LBWorker_work_167 rfl 4 rfl ?_
          obtain ⟨⟨fs39, e1_⟩, h⟩ := h
          refine mx_invV (Y := mm_LBWorker_workPair) (As := [.ref l1, .int l2, .int l3]) (rest := []) d_LBWorker_work_168.1 ok_LBWorker_workPair kw_208 kw_209 kw_210 rfl rfl (Nat.le_of_ble_eq_true rfl) (Nat.le_of_ble_eq_true rfl) e1_ (q := mx_cl0_5) rfl rfl h (fun r36 hs37 h => ?_)
          obtain ⟨x38, e9_, h⟩ := h
          subst e9_
          show mx_Ok mx_S0 l G (d + 1) mm_LBWorker_work 171 [(4, .int x9), (0, .ref l0), (1, .ref l1), (2, .int l2), (3, .int l3)] [.long x38] hs37 Q
          exact mx_lreturn d_LBWorker_work_171 rfl h
        · replace h := h.2 c9
          refine mx_aload_nR d_LBWorker_work_60 rfl 1 rfl ?_
          refine mx_iload d_LBWorker_work_61 0 rfl ?_
          refine mx_bipush (v := 97) d_LBWorker_work_63 (by decide) ?_
          refine mx_isub d_LBWorker_work_65 ?_
          refine mx_iload_n d_LBWorker_work_66 rfl 4 rfl ?_
          obtain ⟨⟨fs43, e1_⟩, h⟩ := h
          refine mx_invV (Y := mm_LBWorker_workName) (As := [.int (x9 - 97), .int l3]) (rest := []) d_LBWorker_work_67.1 ok_LBWorker_workName kw_186 kw_187 kw_188 rfl rfl (Nat.le_of_ble_eq_true rfl) (Nat.le_of_ble_eq_true rfl) e1_ (q := mx_cl0_5) rfl rfl h (fun r40 hs41 h => ?_)
          obtain ⟨x42, e9_, h⟩ := h
          subst e9_
          show mx_Ok mx_S0 l G (d + 1) mm_LBWorker_work 70 [(4, .int x9), (0, .ref l0), (1, .ref l1), (2, .int l2), (3, .int l3)] [.long x42] hs41 Q
          exact mx_lreturn d_LBWorker_work_70 rfl h
      · replace h := h.2 c9
        refine mx_iload d_LBWorker_work_45 0 rfl ?_
        refine mx_bipush (v := 48) d_LBWorker_work_47 (by decide) ?_
        refine mx_isub d_LBWorker_work_49 ?_
        refine mx_i2l d_LBWorker_work_50 ?_
        exact mx_lreturn d_LBWorker_work_51 rfl h
    · replace h := h.2 c9
      refine mx_ldc2 (v := (-1000000000010)) d_LBWorker_work_16 kw_192 ?_
      exact mx_lreturn d_LBWorker_work_19 rfl h
set_option maxRecDepth 100000 in
theorem wp_LBWorker_workName_0 {l : Launch} {G : mx_G} {d : Nat} {hs : mx_H} {Q : Option Value → mx_H → Prop} (l0 : Nat) (l1 : Int32) (l2 : Int32) (h : (∃ (a2 : Nat), mx_f hs l0 5 0 (.ref a2) ∧ (∃ (vs3 : List Value) (a4 : Nat), hs.1 a2 = some (112, vs3) ∧ ¬ l1 < 0 ∧ vs3[Int32.toNatClampNeg l1]? = some (.ref a4) ∧ (∃ (x6 : Int32), mx_f hs a4 2 1 (.int x6) ∧ ((¬ x6 = 0 → (∃ (x8 : Int32), mx_f hs a4 2 2 (.int x8) ∧ ((x8 = 0 → (∃ (x10 : Int64), mx_f hs a4 2 3 (.long x10) ∧ ((x10 = (-1000000000000) → (∃ fs11 : List Value, hs.1 a4 = some (2, fs11) ∧ ∀ hs12 : mx_H, hs12 = mx_st hs a4 (2, fs11.set 2 (.int 1)) → (∃ (a14 : Nat), mx_f hs12 a4 2 0 (.ref a14) ∧ ((∃ fs25 : List Value, hs12.1 l0 = some (5, fs25)) ∧ mx_C mx_S0 l G d mm_LBWorker_work [.ref l0, .ref a14, .int 0, .int (l2 + 1)] hs12 (fun (r15 : Option Value) (hs16 : mx_H) => ∃ x17 : Int64, r15 = some (.long x17) ∧ (∃ fs18 : List Value, hs16.1 a4 = some (2, fs18) ∧ ∀ hs19 : mx_H, hs19 = mx_st hs16 a4 (2, fs18.set 2 (.int 0)) → mx_C mx_S0 l G d mm_LB_isFailure [.long x17] hs19 (fun (r20 : Option Value) (hs21 : mx_H) => ∃ x22 : Int32, r20 = some (.int x22) ∧ ((¬ x22 = 0 → Q (some (.long x17)) hs21) ∧ (¬ (¬ x22 = 0) → (∃ fs23 : List Value, hs21.1 a4 = some (2, fs23) ∧ ∀ hs24 : mx_H, hs24 = mx_st hs21 a4 (2, fs23.set 3 (.long x17)) → Q (some (.long x17)) hs24)))))))))) ∧ (¬ (x10 = (-1000000000000)) → (∃ (x27 : Int64), mx_f hs a4 2 3 (.long x27) ∧ Q (some (.long x27)) hs))))) ∧ (¬ (x8 = 0) → Q (some (.long (-1000000000008))) hs)))) ∧ (¬ (¬ x6 = 0) → Q (some (.long (-1000000000004))) hs)))))) : mx_Ok mx_S0 l G (d + 1) mm_LBWorker_workName 0 [(0, .ref l0), (1, .int l1), (2, .int l2)] [] hs Q := by
  refine mx_aload_nR d_LBWorker_workName_0 rfl 0 rfl ?_
  obtain ⟨a2, ⟨fs1, e1_, e2_⟩, h⟩ := h
  refine mx_get d_LBWorker_workName_1 (ci := 5) (k := 0) (q := mx_cl0_5) rfl (Nat.le_of_ble_eq_true rfl) kw_168 e1_ e2_ ?_
  refine mx_iload_n d_LBWorker_workName_4 rfl 1 rfl ?_
  obtain ⟨vs3, a4, e1_, e2_, e3_, h⟩ := h
  refine mx_aald (C := "LazyBuilder$Name") d_LBWorker_workName_5 (k := 112) rfl e1_ e2_ e3_ ?_
  refine mx_astore_n (lv2 := [(3, .ref a4), (0, .ref l0), (1, .int l1), (2, .int l2)]) d_LBWorker_workName_6 rfl (Nat.le_of_ble_eq_true rfl) rfl (Or.inr ⟨_, rfl⟩) ?_
  refine mx_aload_nR d_LBWorker_workName_7 rfl 0 rfl ?_
  obtain ⟨x6, ⟨fs5, e1_, e2_⟩, h⟩ := h
  refine mx_get d_LBWorker_workName_8 (ci := 2) (k := 1) (q := mx_cl0_2) rfl (Nat.le_of_ble_eq_true rfl) kw_175 e1_ e2_ ?_
  refine mx_if_ne d_LBWorker_workName_11 (fun c9 => ?_) (fun c9 => ?_)
  · replace h := h.1 c9
    refine mx_aload_nR d_LBWorker_workName_18 rfl 0 rfl ?_
    obtain ⟨x8, ⟨fs7, e1_, e2_⟩, h⟩ := h
    refine mx_get d_LBWorker_workName_19 (ci := 2) (k := 2) (q := mx_cl0_2) rfl (Nat.le_of_ble_eq_true rfl) kw_212 e1_ e2_ ?_
    refine mx_if_eq d_LBWorker_workName_22 (fun c9 => ?_) (fun c9 => ?_)
    · replace h := h.1 c9
      refine mx_aload_nR d_LBWorker_workName_29 rfl 0 rfl ?_
      obtain ⟨x10, ⟨fs9, e1_, e2_⟩, h⟩ := h
      refine mx_get d_LBWorker_workName_30 (ci := 2) (k := 3) (q := mx_cl0_2) rfl (Nat.le_of_ble_eq_true rfl) kw_183 e1_ e2_ ?_
      refine mx_ldc2 (v := (-1000000000000)) d_LBWorker_workName_33 kw_182 ?_
      refine mx_lcmp d_LBWorker_workName_36 ?_
      refine mx_if_eq d_LBWorker_workName_37 (fun c9 => ?_) (fun c9 => ?_)
      · replace h := h.1 ((lg_cmp_eq _ _).mp c9)
        refine mx_aload_nR d_LBWorker_workName_45 rfl 0 rfl ?_
        refine mx_iconst (v := 1) d_LBWorker_workName_46 (by decide) ?_
        obtain ⟨fs11, e1_, h⟩ := h
        refine mx_put d_LBWorker_workName_47 (ci := 2) (k := 2) (q := mx_cl0_2) (ty := .boolean) rfl (Nat.le_of_ble_eq_true rfl) kw_212 rfl (by decide +kernel) (mx_nz (Or.inr rfl)) (mx_fz (Or.inr rfl)) (by omega) e1_ ?_
        obtain ⟨hs12, hg_⟩ : ∃ x_, x_ = mx_st hs a4 (2, fs11.set 2 (.int 1)) := ⟨_, rfl⟩
        replace h := h hs12 hg_
        rw [← hg_]
        clear hg_
        refine mx_aload_nR d_LBWorker_workName_50 rfl 1 rfl ?_
        refine mx_aload_nR d_LBWorker_workName_51 rfl 0 rfl ?_
        obtain ⟨a14, ⟨fs13, e1_, e2_⟩, h⟩ := h
        refine mx_get d_LBWorker_workName_52 (ci := 2) (k := 0) (q := mx_cl0_2) rfl (Nat.le_of_ble_eq_true rfl) kw_174 e1_ e2_ ?_
        refine mx_iconst (v := 0) d_LBWorker_workName_55 (by decide) ?_
        refine mx_iload_n d_LBWorker_workName_56 rfl 3 rfl ?_
        refine mx_iconst (v := 1) d_LBWorker_workName_57 (by decide) ?_
        refine mx_iadd d_LBWorker_workName_58 ?_
        obtain ⟨⟨fs25, e1_⟩, h⟩ := h
        refine mx_invV (Y := mm_LBWorker_work) (As := [.ref a14, .int 0, .int (l2 + 1)]) (rest := []) d_LBWorker_workName_59.1 ok_LBWorker_work kw_189 kw_190 kw_191 rfl rfl (Nat.le_of_ble_eq_true rfl) (Nat.le_of_ble_eq_true rfl) e1_ (q := mx_cl0_5) rfl rfl h (fun r15 hs16 h => ?_)
        obtain ⟨x17, e9_, h⟩ := h
        subst e9_
        show mx_Ok mx_S0 l G (d + 1) mm_LBWorker_workName 62 [(3, .ref a4), (0, .ref l0), (1, .int l1), (2, .int l2)] [.long x17] hs16 Q
        refine mx_lstore (lv2 := [(4, .long x17), (3, .ref a4), (0, .ref l0), (1, .int l1), (2, .int l2)]) d_LBWorker_workName_62 (Nat.le_of_ble_eq_true rfl) rfl ?_
        refine mx_aload_nR d_LBWorker_workName_64 rfl 1 rfl ?_
        refine mx_iconst (v := 0) d_LBWorker_workName_65 (by decide) ?_
        obtain ⟨fs18, e1_, h⟩ := h
        refine mx_put d_LBWorker_workName_66 (ci := 2) (k := 2) (q := mx_cl0_2) (ty := .boolean) rfl (Nat.le_of_ble_eq_true rfl) kw_212 rfl (by decide +kernel) (mx_nz (Or.inl rfl)) (mx_fz (Or.inl rfl)) (by omega) e1_ ?_
        obtain ⟨hs19, hg_⟩ : ∃ x_, x_ = mx_st hs16 a4 (2, fs18.set 2 (.int 0)) := ⟨_, rfl⟩
        replace h := h hs19 hg_
        rw [← hg_]
        clear hg_
        refine mx_lload d_LBWorker_workName_69 0 rfl ?_
        refine mx_invSN (Y := mm_LB_isFailure) (As := [.long x17]) (rest := []) d_LBWorker_workName_71.1 ok_LB_isFailure kn_4 kw_54 rfl rfl (Nat.le_of_ble_eq_true rfl) (Nat.le_of_ble_eq_true rfl) h (fun r20 hs21 h => ?_)
        obtain ⟨x22, e9_, h⟩ := h
        subst e9_
        show mx_Ok mx_S0 l G (d + 1) mm_LBWorker_workName 74 [(4, .long x17), (3, .ref a4), (0, .ref l0), (1, .int l1), (2, .int l2)] [.int x22] hs21 Q
        refine mx_if_ne d_LBWorker_workName_74 (fun c9 => ?_) (fun c9 => ?_)
        · replace h := h.1 c9
          refine mx_lload d_LBWorker_workName_83 0 rfl ?_
          exact mx_lreturn d_LBWorker_workName_85 rfl h
        · replace h := h.2 c9
          refine mx_aload_nR d_LBWorker_workName_77 rfl 1 rfl ?_
          refine mx_lload d_LBWorker_workName_78 0 rfl ?_
          obtain ⟨fs23, e1_, h⟩ := h
          refine mx_put d_LBWorker_workName_80 (ci := 2) (k := 3) (q := mx_cl0_2) (ty := .long) rfl (Nat.le_of_ble_eq_true rfl) kw_183 rfl (by decide +kernel) rfl rfl (by omega) e1_ ?_
          obtain ⟨hs24, hg_⟩ : ∃ x_, x_ = mx_st hs21 a4 (2, fs23.set 3 (.long x17)) := ⟨_, rfl⟩
          replace h := h hs24 hg_
          rw [← hg_]
          clear hg_
          refine mx_lload d_LBWorker_workName_83 0 rfl ?_
          exact mx_lreturn d_LBWorker_workName_85 rfl h
      · replace h := h.2 (fun z9 => c9 ((lg_cmp_eq _ _).mpr z9))
        refine mx_aload_nR d_LBWorker_workName_40 rfl 0 rfl ?_
        obtain ⟨x27, ⟨fs26, e1_, e2_⟩, h⟩ := h
        refine mx_get d_LBWorker_workName_41 (ci := 2) (k := 3) (q := mx_cl0_2) rfl (Nat.le_of_ble_eq_true rfl) kw_183 e1_ e2_ ?_
        exact mx_lreturn d_LBWorker_workName_44 rfl h
    · replace h := h.2 c9
      refine mx_ldc2 (v := (-1000000000008)) d_LBWorker_workName_25 kw_213 ?_
      exact mx_lreturn d_LBWorker_workName_28 rfl h
  · replace h := h.2 c9
    refine mx_ldc2 (v := (-1000000000004)) d_LBWorker_workName_14 kw_214 ?_
    exact mx_lreturn d_LBWorker_workName_17 rfl h
set_option maxRecDepth 100000 in
theorem wp_LBWorker_workPair_0 {l : Launch} {G : mx_G} {d : Nat} {hs : mx_H} {Q : Option Value → mx_H → Prop} (l0 : Nat) (l1 : Nat) (l2 : Int32) (l3 : Int32) (h : ((∃ fs31 : List Value, hs.1 l0 = some (5, fs31)) ∧ mx_C mx_S0 l G d mm_LBWorker_work [.ref l0, .ref l1, .int (l2 + 1), .int (l3 + 1)] hs (fun (r1 : Option Value) (hs2 : mx_H) => ∃ x3 : Int64, r1 = some (.long x3) ∧ mx_C mx_S0 l G d mm_LB_isFailure [.long x3] hs2 (fun (r4 : Option Value) (hs5 : mx_H) => ∃ x6 : Int32, r4 = some (.int x6) ∧ ((x6 = 0 → ((∃ fs30 : List Value, hs5.1 l1 = some (1, fs30)) ∧ mx_C mx_S0 l G d mm_LBText_endOf [.ref l1, .int (l2 + 1)] hs5 (fun (r7 : Option Value) (hs8 : mx_H) => ∃ x9 : Int32, r7 = some (.int x9) ∧ ((∃ fs29 : List Value, hs8.1 l0 = some (5, fs29)) ∧ mx_C mx_S0 l G d mm_LBWorker_work [.ref l0, .ref l1, .int x9, .int (l3 + 1)] hs8 (fun (r10 : Option Value) (hs11 : mx_H) => ∃ x12 : Int64, r10 = some (.long x12) ∧ mx_C mx_S0 l G d mm_LB_isFailure [.long x12] hs11 (fun (r13 : Option Value) (hs14 : mx_H) => ∃ x15 : Int32, r13 = some (.int x15) ∧ ((x15 = 0 → mx_C mx_S0 l G d mm_LB_isPlan [.long x3] hs14 (fun (r16 : Option Value) (hs17 : mx_H) => ∃ x18 : Int32, r16 = some (.int x18) ∧ ((¬ x18 = 0 → Q (some (.long (-1000000000005))) hs17) ∧ (¬ (¬ x18 = 0) → mx_C mx_S0 l G d mm_LB_isPlan [.long x12] hs17 (fun (r19 : Option Value) (hs20 : mx_H) => ∃ x21 : Int32, r19 = some (.int x21) ∧ ((x21 = 0 → ((∃ fs28 : List Value, hs20.1 l1 = some (1, fs28)) ∧ mx_C mx_S0 l G d mm_LBText_codeAt [.ref l1, .int l2] hs20 (fun (r22 : Option Value) (hs23 : mx_H) => ∃ x24 : Int32, r22 = some (.int x24) ∧ mx_C mx_S0 l G d mm_LBWorker_combine [.int x24, .int (Int64.toInt32 x3), .int (Int64.toInt32 x12)] hs23 (fun (r25 : Option Value) (hs26 : mx_H) => ∃ x27 : Int32, r25 = some (.int x27) ∧ Q (some (.long (Int32.toInt64 x27))) hs26)))) ∧ (¬ (x21 = 0) → Q (some (.long (-1000000000005))) hs20))))))) ∧ (¬ (x15 = 0) → Q (some (.long x12)) hs14)))))))) ∧ (¬ (x6 = 0) → Q (some (.long x3)) hs5)))))) : mx_Ok mx_S0 l G (d + 1) mm_LBWorker_workPair 0 [(0, .ref l0), (1, .ref l1), (2, .int l2), (3, .int l3)] [] hs Q := by
  refine mx_aload_nR d_LBWorker_workPair_0 rfl 0 rfl ?_
  refine mx_aload_nR d_LBWorker_workPair_1 rfl 1 rfl ?_
  refine mx_iload_n d_LBWorker_workPair_2 rfl 2 rfl ?_
  refine mx_iconst (v := 1) d_LBWorker_workPair_3 (by decide) ?_
  refine mx_iadd d_LBWorker_workPair_4 ?_
  refine mx_iload_n d_LBWorker_workPair_5 rfl 3 rfl ?_
  refine mx_iconst (v := 1) d_LBWorker_workPair_6 (by decide) ?_
  refine mx_iadd d_LBWorker_workPair_7 ?_
  obtain ⟨⟨fs31, e1_⟩, h⟩ := h
  refine mx_invV (Y := mm_LBWorker_work) (As := [.ref l1, .int (l2 + 1), .int (l3 + 1)]) (rest := []) d_LBWorker_workPair_8.1 ok_LBWorker_work kw_189 kw_190 kw_191 rfl rfl (Nat.le_of_ble_eq_true rfl) (Nat.le_of_ble_eq_true rfl) e1_ (q := mx_cl0_5) rfl rfl h (fun r1 hs2 h => ?_)
  obtain ⟨x3, e9_, h⟩ := h
  subst e9_
  show mx_Ok mx_S0 l G (d + 1) mm_LBWorker_workPair 11 [(0, .ref l0), (1, .ref l1), (2, .int l2), (3, .int l3)] [.long x3] hs2 Q
  refine mx_lstore (lv2 := [(4, .long x3), (0, .ref l0), (1, .ref l1), (2, .int l2), (3, .int l3)]) d_LBWorker_workPair_11 (Nat.le_of_ble_eq_true rfl) rfl ?_
  refine mx_lload d_LBWorker_workPair_13 0 rfl ?_
  refine mx_invSN (Y := mm_LB_isFailure) (As := [.long x3]) (rest := []) d_LBWorker_workPair_15.1 ok_LB_isFailure kn_4 kw_54 rfl rfl (Nat.le_of_ble_eq_true rfl) (Nat.le_of_ble_eq_true rfl) h (fun r4 hs5 h => ?_)
  obtain ⟨x6, e9_, h⟩ := h
  subst e9_
  show mx_Ok mx_S0 l G (d + 1) mm_LBWorker_workPair 18 [(4, .long x3), (0, .ref l0), (1, .ref l1), (2, .int l2), (3, .int l3)] [.int x6] hs5 Q
  refine mx_if_eq d_LBWorker_workPair_18 (fun c9 => ?_) (fun c9 => ?_)
  · replace h := h.1 c9
    refine mx_aload_nR d_LBWorker_workPair_24 rfl 1 rfl ?_
    refine mx_aload_nR d_LBWorker_workPair_25 rfl 2 rfl ?_
    refine mx_aload_nR d_LBWorker_workPair_26 rfl 2 rfl ?_
    refine mx_iload_n d_LBWorker_workPair_27 rfl 3 rfl ?_
    refine mx_iconst (v := 1) d_LBWorker_workPair_28 (by decide) ?_
    refine mx_iadd d_LBWorker_workPair_29 ?_
    obtain ⟨⟨fs30, e1_⟩, h⟩ := h
    refine mx_invV (Y := mm_LBText_endOf) (As := [.int (l2 + 1)]) (rest := [.ref l1, .ref l0]) d_LBWorker_workPair_30.1 ok_LBText_endOf kw_219 kw_220 kw_221 rfl rfl (Nat.le_of_ble_eq_true rfl) (Nat.le_of_ble_eq_true rfl) e1_ (q := mx_cl0_1) rfl rfl h (fun r7 hs8 h => ?_)
    obtain ⟨x9, e9_, h⟩ := h
    subst e9_
    show mx_Ok mx_S0 l G (d + 1) mm_LBWorker_workPair 33 [(4, .long x3), (0, .ref l0), (1, .ref l1), (2, .int l2), (3, .int l3)] [.int x9, .ref l1, .ref l0] hs8 Q
    refine mx_iload_n d_LBWorker_workPair_33 rfl 4 rfl ?_
    refine mx_iconst (v := 1) d_LBWorker_workPair_34 (by decide) ?_
    refine mx_iadd d_LBWorker_workPair_35 ?_
    obtain ⟨⟨fs29, e1_⟩, h⟩ := h
    refine mx_invV (Y := mm_LBWorker_work) (As := [.ref l1, .int x9, .int (l3 + 1)]) (rest := []) d_LBWorker_workPair_36.1 ok_LBWorker_work kw_189 kw_190 kw_191 rfl rfl (Nat.le_of_ble_eq_true rfl) (Nat.le_of_ble_eq_true rfl) e1_ (q := mx_cl0_5) rfl rfl h (fun r10 hs11 h => ?_)
    obtain ⟨x12, e9_, h⟩ := h
    subst e9_
    show mx_Ok mx_S0 l G (d + 1) mm_LBWorker_workPair 39 [(4, .long x3), (0, .ref l0), (1, .ref l1), (2, .int l2), (3, .int l3)] [.long x12] hs11 Q
    refine mx_lstore (lv2 := [(6, .long x12), (4, .long x3), (0, .ref l0), (1, .ref l1), (2, .int l2), (3, .int l3)]) d_LBWorker_workPair_39 (Nat.le_of_ble_eq_true rfl) rfl ?_
    refine mx_lload d_LBWorker_workPair_41 0 rfl ?_
    refine mx_invSN (Y := mm_LB_isFailure) (As := [.long x12]) (rest := []) d_LBWorker_workPair_43.1 ok_LB_isFailure kn_4 kw_54 rfl rfl (Nat.le_of_ble_eq_true rfl) (Nat.le_of_ble_eq_true rfl) h (fun r13 hs14 h => ?_)
    obtain ⟨x15, e9_, h⟩ := h
    subst e9_
    show mx_Ok mx_S0 l G (d + 1) mm_LBWorker_workPair 46 [(6, .long x12), (4, .long x3), (0, .ref l0), (1, .ref l1), (2, .int l2), (3, .int l3)] [.int x15] hs14 Q
    refine mx_if_eq d_LBWorker_workPair_46 (fun c9 => ?_) (fun c9 => ?_)
    · replace h := h.1 c9
      refine mx_lload d_LBWorker_workPair_52 1 rfl ?_
      refine mx_invSN (Y := mm_LB_isPlan) (As := [.long x3]) (rest := []) d_LBWorker_workPair_54.1 ok_LB_isPlan kn_7 kw_218 rfl rfl (Nat.le_of_ble_eq_true rfl) (Nat.le_of_ble_eq_true rfl) h (fun r16 hs17 h => ?_)
      obtain ⟨x18, e9_, h⟩ := h
      subst e9_
      show mx_Ok mx_S0 l G (d + 1) mm_LBWorker_workPair 57 [(6, .long x12), (4, .long x3), (0, .ref l0), (1, .ref l1), (2, .int l2), (3, .int l3)] [.int x18] hs17 Q
      refine mx_if_ne d_LBWorker_workPair_57 (fun c9 => ?_) (fun c9 => ?_)
      · replace h := h.1 c9
        refine mx_ldc2 (v := (-1000000000005)) d_LBWorker_workPair_68 kw_215 ?_
        exact mx_lreturn d_LBWorker_workPair_71 rfl h
      · replace h := h.2 c9
        refine mx_lload d_LBWorker_workPair_60 0 rfl ?_
        refine mx_invSN (Y := mm_LB_isPlan) (As := [.long x12]) (rest := []) d_LBWorker_workPair_62.1 ok_LB_isPlan kn_7 kw_218 rfl rfl (Nat.le_of_ble_eq_true rfl) (Nat.le_of_ble_eq_true rfl) h (fun r19 hs20 h => ?_)
        obtain ⟨x21, e9_, h⟩ := h
        subst e9_
        show mx_Ok mx_S0 l G (d + 1) mm_LBWorker_workPair 65 [(6, .long x12), (4, .long x3), (0, .ref l0), (1, .ref l1), (2, .int l2), (3, .int l3)] [.int x21] hs20 Q
        refine mx_if_eq d_LBWorker_workPair_65 (fun c9 => ?_) (fun c9 => ?_)
        · replace h := h.1 c9
          refine mx_aload_nR d_LBWorker_workPair_72 rfl 3 rfl ?_
          refine mx_iload_n d_LBWorker_workPair_73 rfl 4 rfl ?_
          obtain ⟨⟨fs28, e1_⟩, h⟩ := h
          refine mx_invV (Y := mm_LBText_codeAt) (As := [.int l2]) (rest := []) d_LBWorker_workPair_74.1 ok_LBText_codeAt kw_211 kw_116 kw_117 rfl rfl (Nat.le_of_ble_eq_true rfl) (Nat.le_of_ble_eq_true rfl) e1_ (q := mx_cl0_1) rfl rfl h (fun r22 hs23 h => ?_)
          obtain ⟨x24, e9_, h⟩ := h
          subst e9_
          show mx_Ok mx_S0 l G (d + 1) mm_LBWorker_workPair 77 [(6, .long x12), (4, .long x3), (0, .ref l0), (1, .ref l1), (2, .int l2), (3, .int l3)] [.int x24] hs23 Q
          refine mx_lload d_LBWorker_workPair_77 1 rfl ?_
          refine mx_l2i d_LBWorker_workPair_79 ?_
          refine mx_lload d_LBWorker_workPair_80 0 rfl ?_
          refine mx_l2i d_LBWorker_workPair_82 ?_
          refine mx_invS (Y := mm_LBWorker_combine) (As := [.int x24, .int (Int64.toInt32 x3), .int (Int64.toInt32 x12)]) (rest := []) d_LBWorker_workPair_83.1 ok_LBWorker_combine kw_216 kw_217 rfl rfl (Nat.le_of_ble_eq_true rfl) (Nat.le_of_ble_eq_true rfl) h (fun r25 hs26 h => ?_)
          obtain ⟨x27, e9_, h⟩ := h
          subst e9_
          show mx_Ok mx_S0 l G (d + 1) mm_LBWorker_workPair 86 [(6, .long x12), (4, .long x3), (0, .ref l0), (1, .ref l1), (2, .int l2), (3, .int l3)] [.int x27] hs26 Q
          refine mx_i2l d_LBWorker_workPair_86 ?_
          exact mx_lreturn d_LBWorker_workPair_87 rfl h
        · replace h := h.2 c9
          refine mx_ldc2 (v := (-1000000000005)) d_LBWorker_workPair_68 kw_215 ?_
          exact mx_lreturn d_LBWorker_workPair_71 rfl h
    · replace h := h.2 c9
      refine mx_lload d_LBWorker_workPair_49 0 rfl ?_
      exact mx_lreturn d_LBWorker_workPair_51 rfl h
  · replace h := h.2 c9
    refine mx_lload d_LBWorker_workPair_21 0 rfl ?_
    exact mx_lreturn d_LBWorker_workPair_23 rfl h
set_option maxRecDepth 100000 in
theorem wp_LBWorker_combine_0 {l : Launch} {G : mx_G} {d : Nat} {hs : mx_H} {Q : Option Value → mx_H → Prop} (l0 : Int32) (l1 : Int32) (l2 : Int32) (h : ((l0 = 42 → Q (some (.int (l1 * l2))) hs) ∧ (l0 = 43 → Q (some (.int (l1 + l2))) hs) ∧ (l0 = 44 → mx_Ok mx_S0 l G (d + 1) mm_LBWorker_combine 44 [(1, .int l1), (2, .int l2)] [] hs Q) ∧ (l0 = 45 → Q (some (.int (l1 - l2))) hs) ∧ (¬ l0 = 42 → ¬ l0 = 43 → ¬ l0 = 44 → ¬ l0 = 45 → mx_Ok mx_S0 l G (d + 1) mm_LBWorker_combine 44 [(1, .int l1), (2, .int l2)] [] hs Q))) : mx_Ok mx_S0 l G (d + 1) mm_LBWorker_combine 0 [(0, .int l0), (1, .int l1), (2, .int l2)] [] hs Q := by
  refine mx_iload_n d_LBWorker_combine_0 rfl 0 rfl ?_
  by_cases c0_ : l0 = 42
  · replace h := h.1 c0_
    refine mx_tableIn d_LBWorker_combine_1 (by rw [c0_]; decide) (by rw [c0_]; decide) (o := 39) (by rw [c0_]; decide) (tgt := 40) (by decide) ?_
    refine mx_iload_n d_LBWorker_combine_40 rfl 1 rfl ?_
    refine mx_iload_n d_LBWorker_combine_41 rfl 2 rfl ?_
    refine mx_imul d_LBWorker_combine_42 ?_
    exact mx_ireturn d_LBWorker_combine_43 rfl rfl h
  by_cases c1_ : l0 = 43
  · replace h := h.2.1 c1_
    refine mx_tableIn d_LBWorker_combine_1 (by rw [c1_]; decide) (by rw [c1_]; decide) (o := 31) (by rw [c1_]; decide) (tgt := 32) (by decide) ?_
    refine mx_iload_n d_LBWorker_combine_32 rfl 1 rfl ?_
    refine mx_iload_n d_LBWorker_combine_33 rfl 2 rfl ?_
    refine mx_iadd d_LBWorker_combine_34 ?_
    exact mx_ireturn d_LBWorker_combine_35 rfl rfl h
  by_cases c2_ : l0 = 44
  · replace h := h.2.2.1 c2_
    refine mx_tableIn d_LBWorker_combine_1 (by rw [c2_]; decide) (by rw [c2_]; decide) (o := 43) (by rw [c2_]; decide) (tgt := 44) (by decide) ?_
    exact mx_sub [1, 2] rfl h
  by_cases c3_ : l0 = 45
  · replace h := h.2.2.2.1 c3_
    refine mx_tableIn d_LBWorker_combine_1 (by rw [c3_]; decide) (by rw [c3_]; decide) (o := 35) (by rw [c3_]; decide) (tgt := 36) (by decide) ?_
    refine mx_iload_n d_LBWorker_combine_36 rfl 1 rfl ?_
    refine mx_iload_n d_LBWorker_combine_37 rfl 2 rfl ?_
    refine mx_isub d_LBWorker_combine_38 ?_
    exact mx_ireturn d_LBWorker_combine_39 rfl rfl h
  replace h := h.2.2.2.2 c0_ c1_ c2_ c3_
  have z0_ := lv_neT c0_ (a := 42) (by decide)
  have z1_ := lv_neT c1_ (a := 43) (by decide)
  have z2_ := lv_neT c2_ (a := 44) (by decide)
  have z3_ := lv_neT c3_ (a := 45) (by decide)
  refine mx_tableOut d_LBWorker_combine_1 (by omega) (tgt := 44) (by decide) ?_
  exact mx_sub [1, 2] rfl h
set_option maxRecDepth 100000 in
theorem wp_LBWorker_combine_44 {l : Launch} {G : mx_G} {d : Nat} {hs : mx_H} {Q : Option Value → mx_H → Prop} (l1 : Int32) (l2 : Int32) (h : ((l2 ≤ l1 → Q (some (.int 0)) hs) ∧ (¬ (l2 ≤ l1) → Q (some (.int 1)) hs))) : mx_Ok mx_S0 l G (d + 1) mm_LBWorker_combine 44 [(1, .int l1), (2, .int l2)] [] hs Q := by
  refine mx_iload_n d_LBWorker_combine_44 rfl 0 rfl ?_
  refine mx_iload_n d_LBWorker_combine_45 rfl 1 rfl ?_
  refine mx_icmp_ge d_LBWorker_combine_46 (fun c9 => ?_) (fun c9 => ?_)
  · replace h := h.1 c9
    refine mx_iconst (v := 0) d_LBWorker_combine_53 (by decide) ?_
    exact mx_ireturn d_LBWorker_combine_54 rfl rfl h
  · replace h := h.2 c9
    refine mx_iconst (v := 1) d_LBWorker_combine_49 (by decide) ?_
    refine mx_goto d_LBWorker_combine_50 ?_
    exact mx_ireturn d_LBWorker_combine_54 rfl rfl h
set_option maxRecDepth 100000 in
theorem wp_LBWorker_workChoice_0 {l : Launch} {G : mx_G} {d : Nat} {hs : mx_H} {Q : Option Value → mx_H → Prop} (l0 : Nat) (l1 : Nat) (l2 : Int32) (l3 : Int32) (h : ((∃ fs18 : List Value, hs.1 l0 = some (5, fs18)) ∧ mx_C mx_S0 l G d mm_LBWorker_work [.ref l0, .ref l1, .int (l2 + 1), .int (l3 + 1)] hs (fun (r1 : Option Value) (hs2 : mx_H) => ∃ x3 : Int64, r1 = some (.long x3) ∧ mx_C mx_S0 l G d mm_LB_isFailure [.long x3] hs2 (fun (r4 : Option Value) (hs5 : mx_H) => ∃ x6 : Int32, r4 = some (.int x6) ∧ ((x6 = 0 → mx_C mx_S0 l G d mm_LB_isPlan [.long x3] hs5 (fun (r7 : Option Value) (hs8 : mx_H) => ∃ x9 : Int32, r7 = some (.int x9) ∧ ((x9 = 0 → ((∃ fs17 : List Value, hs8.1 l1 = some (1, fs17)) ∧ mx_C mx_S0 l G d mm_LBText_endOf [.ref l1, .int (l2 + 1)] hs8 (fun (r10 : Option Value) (hs11 : mx_H) => ∃ x12 : Int32, r10 = some (.int x12) ∧ ((x3 = 0 → ((∃ fs16 : List Value, hs11.1 l1 = some (1, fs16)) ∧ mx_C mx_S0 l G d mm_LBText_endOf [.ref l1, .int x12] hs11 (fun (r13 : Option Value) (hs14 : mx_H) => ∃ x15 : Int32, r13 = some (.int x15) ∧ mx_Ok mx_S0 l G (d + 1) mm_LBWorker_workChoice 65 [(3, .int l3)] [.int x15, .ref l1, .ref l0] hs14 Q))) ∧ (¬ (x3 = 0) → mx_Ok mx_S0 l G (d + 1) mm_LBWorker_workChoice 65 [(3, .int l3)] [.int x12, .ref l1, .ref l0] hs11 Q))))) ∧ (¬ (x9 = 0) → Q (some (.long (-1000000000005))) hs8)))) ∧ (¬ (x6 = 0) → Q (some (.long x3)) hs5)))))) : mx_Ok mx_S0 l G (d + 1) mm_LBWorker_workChoice 0 [(0, .ref l0), (1, .ref l1), (2, .int l2), (3, .int l3)] [] hs Q := by
  refine mx_aload_nR d_LBWorker_workChoice_0 rfl 0 rfl ?_
  refine mx_aload_nR d_LBWorker_workChoice_1 rfl 1 rfl ?_
  refine mx_iload_n d_LBWorker_workChoice_2 rfl 2 rfl ?_
  refine mx_iconst (v := 1) d_LBWorker_workChoice_3 (by decide) ?_
  refine mx_iadd d_LBWorker_workChoice_4 ?_
  refine mx_iload_n d_LBWorker_workChoice_5 rfl 3 rfl ?_
  refine mx_iconst (v := 1) d_LBWorker_workChoice_6 (by decide) ?_
  refine mx_iadd d_LBWorker_workChoice_7 ?_
  obtain ⟨⟨fs18, e1_⟩, h⟩ := h
  refine mx_invV (Y := mm_LBWorker_work) (As := [.ref l1, .int (l2 + 1), .int (l3 + 1)]) (rest := []) d_LBWorker_workChoice_8.1 ok_LBWorker_work kw_189 kw_190 kw_191 rfl rfl (Nat.le_of_ble_eq_true rfl) (Nat.le_of_ble_eq_true rfl) e1_ (q := mx_cl0_5) rfl rfl h (fun r1 hs2 h => ?_)
  obtain ⟨x3, e9_, h⟩ := h
  subst e9_
  show mx_Ok mx_S0 l G (d + 1) mm_LBWorker_workChoice 11 [(0, .ref l0), (1, .ref l1), (2, .int l2), (3, .int l3)] [.long x3] hs2 Q
  refine mx_lstore (lv2 := [(4, .long x3), (0, .ref l0), (1, .ref l1), (2, .int l2), (3, .int l3)]) d_LBWorker_workChoice_11 (Nat.le_of_ble_eq_true rfl) rfl ?_
  refine mx_lload d_LBWorker_workChoice_13 0 rfl ?_
  refine mx_invSN (Y := mm_LB_isFailure) (As := [.long x3]) (rest := []) d_LBWorker_workChoice_15.1 ok_LB_isFailure kn_4 kw_54 rfl rfl (Nat.le_of_ble_eq_true rfl) (Nat.le_of_ble_eq_true rfl) h (fun r4 hs5 h => ?_)
  obtain ⟨x6, e9_, h⟩ := h
  subst e9_
  show mx_Ok mx_S0 l G (d + 1) mm_LBWorker_workChoice 18 [(4, .long x3), (0, .ref l0), (1, .ref l1), (2, .int l2), (3, .int l3)] [.int x6] hs5 Q
  refine mx_if_eq d_LBWorker_workChoice_18 (fun c9 => ?_) (fun c9 => ?_)
  · replace h := h.1 c9
    refine mx_lload d_LBWorker_workChoice_24 0 rfl ?_
    refine mx_invSN (Y := mm_LB_isPlan) (As := [.long x3]) (rest := []) d_LBWorker_workChoice_26.1 ok_LB_isPlan kn_7 kw_218 rfl rfl (Nat.le_of_ble_eq_true rfl) (Nat.le_of_ble_eq_true rfl) h (fun r7 hs8 h => ?_)
    obtain ⟨x9, e9_, h⟩ := h
    subst e9_
    show mx_Ok mx_S0 l G (d + 1) mm_LBWorker_workChoice 29 [(4, .long x3), (0, .ref l0), (1, .ref l1), (2, .int l2), (3, .int l3)] [.int x9] hs8 Q
    refine mx_if_eq d_LBWorker_workChoice_29 (fun c9 => ?_) (fun c9 => ?_)
    · replace h := h.1 c9
      refine mx_aload_nR d_LBWorker_workChoice_36 rfl 2 rfl ?_
      refine mx_iload_n d_LBWorker_workChoice_37 rfl 3 rfl ?_
      refine mx_iconst (v := 1) d_LBWorker_workChoice_38 (by decide) ?_
      refine mx_iadd d_LBWorker_workChoice_39 ?_
      obtain ⟨⟨fs17, e1_⟩, h⟩ := h
      refine mx_invV (Y := mm_LBText_endOf) (As := [.int (l2 + 1)]) (rest := []) d_LBWorker_workChoice_40.1 ok_LBText_endOf kw_219 kw_220 kw_221 rfl rfl (Nat.le_of_ble_eq_true rfl) (Nat.le_of_ble_eq_true rfl) e1_ (q := mx_cl0_1) rfl rfl h (fun r10 hs11 h => ?_)
      obtain ⟨x12, e9_, h⟩ := h
      subst e9_
      show mx_Ok mx_S0 l G (d + 1) mm_LBWorker_workChoice 43 [(4, .long x3), (0, .ref l0), (1, .ref l1), (2, .int l2), (3, .int l3)] [.int x12] hs11 Q
      refine mx_istore (lv2 := [(6, .int x12), (4, .long x3), (0, .ref l0), (1, .ref l1), (2, .int l2), (3, .int l3)]) d_LBWorker_workChoice_43 (Nat.le_of_ble_eq_true rfl) rfl ?_
      refine mx_aload_nR d_LBWorker_workChoice_45 rfl 2 rfl ?_
      refine mx_aload_nR d_LBWorker_workChoice_46 rfl 3 rfl ?_
      refine mx_lload d_LBWorker_workChoice_47 1 rfl ?_
      refine mx_lconst (v := 0) d_LBWorker_workChoice_49 rfl ?_
      refine mx_lcmp d_LBWorker_workChoice_50 ?_
      refine mx_if_eq d_LBWorker_workChoice_51 (fun c9 => ?_) (fun c9 => ?_)
      · replace h := h.1 ((lg_cmp_eq _ _).mp c9)
        refine mx_aload_nR d_LBWorker_workChoice_59 rfl 3 rfl ?_
        refine mx_iload d_LBWorker_workChoice_60 0 rfl ?_
        obtain ⟨⟨fs16, e1_⟩, h⟩ := h
        refine mx_invV (Y := mm_LBText_endOf) (As := [.int x12]) (rest := [.ref l1, .ref l0]) d_LBWorker_workChoice_62.1 ok_LBText_endOf kw_219 kw_220 kw_221 rfl rfl (Nat.le_of_ble_eq_true rfl) (Nat.le_of_ble_eq_true rfl) e1_ (q := mx_cl0_1) rfl rfl h (fun r13 hs14 h => ?_)
        obtain ⟨x15, e9_, h⟩ := h
        subst e9_
        show mx_Ok mx_S0 l G (d + 1) mm_LBWorker_workChoice 65 [(6, .int x12), (4, .long x3), (0, .ref l0), (1, .ref l1), (2, .int l2), (3, .int l3)] [.int x15, .ref l1, .ref l0] hs14 Q
        exact mx_sub [5] rfl h
      · replace h := h.2 (fun z9 => c9 ((lg_cmp_eq _ _).mpr z9))
        refine mx_iload d_LBWorker_workChoice_54 0 rfl ?_
        refine mx_goto d_LBWorker_workChoice_56 ?_
        exact mx_sub [5] rfl h
    · replace h := h.2 c9
      refine mx_ldc2 (v := (-1000000000005)) d_LBWorker_workChoice_32 kw_215 ?_
      exact mx_lreturn d_LBWorker_workChoice_35 rfl h
  · replace h := h.2 c9
    refine mx_lload d_LBWorker_workChoice_21 0 rfl ?_
    exact mx_lreturn d_LBWorker_workChoice_23 rfl h
set_option maxRecDepth 100000 in
theorem wp_LBWorker_workChoice_65 {l : Launch} {G : mx_G} {d : Nat} {hs : mx_H} {Q : Option Value → mx_H → Prop} (l3 : Int32) (s0 : Nat) (s1 : Nat) (s2 : Int32) (h : ((∃ fs4 : List Value, hs.1 s0 = some (5, fs4)) ∧ mx_C mx_S0 l G d mm_LBWorker_work [.ref s0, .ref s1, .int s2, .int (l3 + 1)] hs (fun (r1 : Option Value) (hs2 : mx_H) => ∃ x3 : Int64, r1 = some (.long x3) ∧ Q (some (.long x3)) hs2))) : mx_Ok mx_S0 l G (d + 1) mm_LBWorker_workChoice 65 [(3, .int l3)] [.int s2, .ref s1, .ref s0] hs Q := by
  refine mx_iload_n d_LBWorker_workChoice_65 rfl 0 rfl ?_
  refine mx_iconst (v := 1) d_LBWorker_workChoice_66 (by decide) ?_
  refine mx_iadd d_LBWorker_workChoice_67 ?_
  obtain ⟨⟨fs4, e1_⟩, h⟩ := h
  refine mx_invV (Y := mm_LBWorker_work) (As := [.ref s1, .int s2, .int (l3 + 1)]) (rest := []) d_LBWorker_workChoice_68.1 ok_LBWorker_work kw_189 kw_190 kw_191 rfl rfl (Nat.le_of_ble_eq_true rfl) (Nat.le_of_ble_eq_true rfl) e1_ (q := mx_cl0_5) rfl rfl h (fun r1 hs2 h => ?_)
  obtain ⟨x3, e9_, h⟩ := h
  subst e9_
  show mx_Ok mx_S0 l G (d + 1) mm_LBWorker_workChoice 71 [(3, .int l3)] [.long x3] hs2 Q
  exact mx_lreturn d_LBWorker_workChoice_71 rfl h
set_option maxRecDepth 100000 in
theorem wp_LBWorker_workAbort_0 {l : Launch} {G : mx_G} {d : Nat} {hs : mx_H} {Q : Option Value → mx_H → Prop} (l0 : Nat) (l1 : Nat) (l2 : Int32) (l3 : Int32) (h : ((∃ fs7 : List Value, hs.1 l0 = some (5, fs7)) ∧ mx_C mx_S0 l G d mm_LBWorker_work [.ref l0, .ref l1, .int (l2 + 1), .int (l3 + 1)] hs (fun (r1 : Option Value) (hs2 : mx_H) => ∃ x3 : Int64, r1 = some (.long x3) ∧ mx_C mx_S0 l G d mm_LB_isFailure [.long x3] hs2 (fun (r4 : Option Value) (hs5 : mx_H) => ∃ x6 : Int32, r4 = some (.int x6) ∧ ((x6 = 0 → Q (some (.long (-1000000000006))) hs5) ∧ (¬ (x6 = 0) → Q (some (.long x3)) hs5)))))) : mx_Ok mx_S0 l G (d + 1) mm_LBWorker_workAbort 0 [(0, .ref l0), (1, .ref l1), (2, .int l2), (3, .int l3)] [] hs Q := by
  refine mx_aload_nR d_LBWorker_workAbort_0 rfl 0 rfl ?_
  refine mx_aload_nR d_LBWorker_workAbort_1 rfl 1 rfl ?_
  refine mx_iload_n d_LBWorker_workAbort_2 rfl 2 rfl ?_
  refine mx_iconst (v := 1) d_LBWorker_workAbort_3 (by decide) ?_
  refine mx_iadd d_LBWorker_workAbort_4 ?_
  refine mx_iload_n d_LBWorker_workAbort_5 rfl 3 rfl ?_
  refine mx_iconst (v := 1) d_LBWorker_workAbort_6 (by decide) ?_
  refine mx_iadd d_LBWorker_workAbort_7 ?_
  obtain ⟨⟨fs7, e1_⟩, h⟩ := h
  refine mx_invV (Y := mm_LBWorker_work) (As := [.ref l1, .int (l2 + 1), .int (l3 + 1)]) (rest := []) d_LBWorker_workAbort_8.1 ok_LBWorker_work kw_189 kw_190 kw_191 rfl rfl (Nat.le_of_ble_eq_true rfl) (Nat.le_of_ble_eq_true rfl) e1_ (q := mx_cl0_5) rfl rfl h (fun r1 hs2 h => ?_)
  obtain ⟨x3, e9_, h⟩ := h
  subst e9_
  show mx_Ok mx_S0 l G (d + 1) mm_LBWorker_workAbort 11 [(0, .ref l0), (1, .ref l1), (2, .int l2), (3, .int l3)] [.long x3] hs2 Q
  refine mx_lstore (lv2 := [(4, .long x3), (0, .ref l0), (1, .ref l1), (2, .int l2), (3, .int l3)]) d_LBWorker_workAbort_11 (Nat.le_of_ble_eq_true rfl) rfl ?_
  refine mx_lload d_LBWorker_workAbort_13 0 rfl ?_
  refine mx_invSN (Y := mm_LB_isFailure) (As := [.long x3]) (rest := []) d_LBWorker_workAbort_15.1 ok_LB_isFailure kn_4 kw_54 rfl rfl (Nat.le_of_ble_eq_true rfl) (Nat.le_of_ble_eq_true rfl) h (fun r4 hs5 h => ?_)
  obtain ⟨x6, e9_, h⟩ := h
  subst e9_
  show mx_Ok mx_S0 l G (d + 1) mm_LBWorker_workAbort 18 [(4, .long x3), (0, .ref l0), (1, .ref l1), (2, .int l2), (3, .int l3)] [.int x6] hs5 Q
  refine mx_if_eq d_LBWorker_workAbort_18 (fun c9 => ?_) (fun c9 => ?_)
  · replace h := h.1 c9
    refine mx_ldc2 (v := (-1000000000006)) d_LBWorker_workAbort_26 kw_222 ?_
    exact mx_lreturn d_LBWorker_workAbort_29 rfl h
  · replace h := h.2 c9
    refine mx_lload d_LBWorker_workAbort_21 0 rfl ?_
    refine mx_goto d_LBWorker_workAbort_23 ?_
    exact mx_lreturn d_LBWorker_workAbort_29 rfl h
set_option maxRecDepth 100000 in
theorem wp_LBWorker_workTry_0 {l : Launch} {G : mx_G} {d : Nat} {hs : mx_H} {Q : Option Value → mx_H → Prop} (l0 : Nat) (l1 : Nat) (l2 : Int32) (l3 : Int32) (h : ((∃ fs19 : List Value, hs.1 l0 = some (5, fs19)) ∧ mx_C mx_S0 l G d mm_LBWorker_work [.ref l0, .ref l1, .int (l2 + 1), .int (l3 + 1)] hs (fun (r1 : Option Value) (hs2 : mx_H) => ∃ x3 : Int64, r1 = some (.long x3) ∧ mx_C mx_S0 l G d mm_LBWorker_canBeMadeGood [.long x3] hs2 (fun (r4 : Option Value) (hs5 : mx_H) => ∃ x6 : Int32, r4 = some (.int x6) ∧ ((¬ x6 = 0 → (∃ (x8 : Int32), mx_f hs5 l0 5 4 (.int x8) ∧ (∃ fs9 : List Value, hs5.1 l0 = some (5, fs9) ∧ ∀ hs10 : mx_H, hs10 = mx_st hs5 l0 (5, fs9.set 4 (.int (x8 + 1))) → ((∃ fs18 : List Value, hs10.1 l1 = some (1, fs18)) ∧ mx_C mx_S0 l G d mm_LBText_endOf [.ref l1, .int (l2 + 1)] hs10 (fun (r11 : Option Value) (hs12 : mx_H) => ∃ x13 : Int32, r11 = some (.int x13) ∧ ((∃ fs17 : List Value, hs12.1 l0 = some (5, fs17)) ∧ mx_C mx_S0 l G d mm_LBWorker_work [.ref l0, .ref l1, .int x13, .int (l3 + 1)] hs12 (fun (r14 : Option Value) (hs15 : mx_H) => ∃ x16 : Int64, r14 = some (.long x16) ∧ Q (some (.long x16)) hs15))))))) ∧ (¬ (¬ x6 = 0) → Q (some (.long x3)) hs5)))))) : mx_Ok mx_S0 l G (d + 1) mm_LBWorker_workTry 0 [(0, .ref l0), (1, .ref l1), (2, .int l2), (3, .int l3)] [] hs Q := by
  refine mx_aload_nR d_LBWorker_workTry_0 rfl 0 rfl ?_
  refine mx_aload_nR d_LBWorker_workTry_1 rfl 1 rfl ?_
  refine mx_iload_n d_LBWorker_workTry_2 rfl 2 rfl ?_
  refine mx_iconst (v := 1) d_LBWorker_workTry_3 (by decide) ?_
  refine mx_iadd d_LBWorker_workTry_4 ?_
  refine mx_iload_n d_LBWorker_workTry_5 rfl 3 rfl ?_
  refine mx_iconst (v := 1) d_LBWorker_workTry_6 (by decide) ?_
  refine mx_iadd d_LBWorker_workTry_7 ?_
  obtain ⟨⟨fs19, e1_⟩, h⟩ := h
  refine mx_invV (Y := mm_LBWorker_work) (As := [.ref l1, .int (l2 + 1), .int (l3 + 1)]) (rest := []) d_LBWorker_workTry_8.1 ok_LBWorker_work kw_189 kw_190 kw_191 rfl rfl (Nat.le_of_ble_eq_true rfl) (Nat.le_of_ble_eq_true rfl) e1_ (q := mx_cl0_5) rfl rfl h (fun r1 hs2 h => ?_)
  obtain ⟨x3, e9_, h⟩ := h
  subst e9_
  show mx_Ok mx_S0 l G (d + 1) mm_LBWorker_workTry 11 [(0, .ref l0), (1, .ref l1), (2, .int l2), (3, .int l3)] [.long x3] hs2 Q
  refine mx_lstore (lv2 := [(4, .long x3), (0, .ref l0), (1, .ref l1), (2, .int l2), (3, .int l3)]) d_LBWorker_workTry_11 (Nat.le_of_ble_eq_true rfl) rfl ?_
  refine mx_lload d_LBWorker_workTry_13 0 rfl ?_
  refine mx_invS (Y := mm_LBWorker_canBeMadeGood) (As := [.long x3]) (rest := []) d_LBWorker_workTry_15.1 ok_LBWorker_canBeMadeGood kw_223 kw_224 rfl rfl (Nat.le_of_ble_eq_true rfl) (Nat.le_of_ble_eq_true rfl) h (fun r4 hs5 h => ?_)
  obtain ⟨x6, e9_, h⟩ := h
  subst e9_
  show mx_Ok mx_S0 l G (d + 1) mm_LBWorker_workTry 18 [(4, .long x3), (0, .ref l0), (1, .ref l1), (2, .int l2), (3, .int l3)] [.int x6] hs5 Q
  refine mx_if_ne d_LBWorker_workTry_18 (fun c9 => ?_) (fun c9 => ?_)
  · replace h := h.1 c9
    refine mx_aload_nR d_LBWorker_workTry_24 rfl 1 rfl ?_
    refine mx_dup d_LBWorker_workTry_25 rfl ?_
    obtain ⟨x8, ⟨fs7, e1_, e2_⟩, h⟩ := h
    refine mx_get d_LBWorker_workTry_26 (ci := 5) (k := 4) (q := mx_cl0_5) rfl (Nat.le_of_ble_eq_true rfl) kw_184 e1_ e2_ ?_
    refine mx_iconst (v := 1) d_LBWorker_workTry_29 (by decide) ?_
    refine mx_iadd d_LBWorker_workTry_30 ?_
    obtain ⟨fs9, e1_, h⟩ := h
    refine mx_put d_LBWorker_workTry_31 (ci := 5) (k := 4) (q := mx_cl0_5) (ty := .int) rfl (Nat.le_of_ble_eq_true rfl) kw_184 rfl (by decide +kernel) rfl rfl (by omega) e1_ ?_
    obtain ⟨hs10, hg_⟩ : ∃ x_, x_ = mx_st hs5 l0 (5, fs9.set 4 (.int (x8 + 1))) := ⟨_, rfl⟩
    replace h := h hs10 hg_
    rw [← hg_]
    clear hg_
    refine mx_aload_nR d_LBWorker_workTry_34 rfl 1 rfl ?_
    refine mx_aload_nR d_LBWorker_workTry_35 rfl 2 rfl ?_
    refine mx_aload_nR d_LBWorker_workTry_36 rfl 2 rfl ?_
    refine mx_iload_n d_LBWorker_workTry_37 rfl 3 rfl ?_
    refine mx_iconst (v := 1) d_LBWorker_workTry_38 (by decide) ?_
    refine mx_iadd d_LBWorker_workTry_39 ?_
    obtain ⟨⟨fs18, e1_⟩, h⟩ := h
    refine mx_invV (Y := mm_LBText_endOf) (As := [.int (l2 + 1)]) (rest := [.ref l1, .ref l0]) d_LBWorker_workTry_40.1 ok_LBText_endOf kw_219 kw_220 kw_221 rfl rfl (Nat.le_of_ble_eq_true rfl) (Nat.le_of_ble_eq_true rfl) e1_ (q := mx_cl0_1) rfl rfl h (fun r11 hs12 h => ?_)
    obtain ⟨x13, e9_, h⟩ := h
    subst e9_
    show mx_Ok mx_S0 l G (d + 1) mm_LBWorker_workTry 43 [(4, .long x3), (0, .ref l0), (1, .ref l1), (2, .int l2), (3, .int l3)] [.int x13, .ref l1, .ref l0] hs12 Q
    refine mx_iload_n d_LBWorker_workTry_43 rfl 4 rfl ?_
    refine mx_iconst (v := 1) d_LBWorker_workTry_44 (by decide) ?_
    refine mx_iadd d_LBWorker_workTry_45 ?_
    obtain ⟨⟨fs17, e1_⟩, h⟩ := h
    refine mx_invV (Y := mm_LBWorker_work) (As := [.ref l1, .int x13, .int (l3 + 1)]) (rest := []) d_LBWorker_workTry_46.1 ok_LBWorker_work kw_189 kw_190 kw_191 rfl rfl (Nat.le_of_ble_eq_true rfl) (Nat.le_of_ble_eq_true rfl) e1_ (q := mx_cl0_5) rfl rfl h (fun r14 hs15 h => ?_)
    obtain ⟨x16, e9_, h⟩ := h
    subst e9_
    show mx_Ok mx_S0 l G (d + 1) mm_LBWorker_workTry 49 [(4, .long x3), (0, .ref l0), (1, .ref l1), (2, .int l2), (3, .int l3)] [.long x16] hs15 Q
    exact mx_lreturn d_LBWorker_workTry_49 rfl h
  · replace h := h.2 c9
    refine mx_lload d_LBWorker_workTry_21 0 rfl ?_
    exact mx_lreturn d_LBWorker_workTry_23 rfl h
set_option maxRecDepth 100000 in
theorem wp_LBWorker_canBeMadeGood_0 {l : Launch} {G : mx_G} {d : Nat} {hs : mx_H} {Q : Option Value → mx_H → Prop} (l0 : Int64) (h : ((l0 = (-1000000000004) → mx_Ok mx_S0 l G (d + 1) mm_LBWorker_canBeMadeGood 32 [] [] hs Q) ∧ (¬ (l0 = (-1000000000004)) → ((l0 = (-1000000000005) → mx_Ok mx_S0 l G (d + 1) mm_LBWorker_canBeMadeGood 32 [] [] hs Q) ∧ (¬ (l0 = (-1000000000005)) → ((l0 = (-1000000000006) → mx_Ok mx_S0 l G (d + 1) mm_LBWorker_canBeMadeGood 32 [] [] hs Q) ∧ (¬ (l0 = (-1000000000006)) → ((¬ l0 = (-1000000000007) → Q (some (.int 0)) hs) ∧ (¬ (¬ l0 = (-1000000000007)) → mx_Ok mx_S0 l G (d + 1) mm_LBWorker_canBeMadeGood 32 [] [] hs Q))))))))) : mx_Ok mx_S0 l G (d + 1) mm_LBWorker_canBeMadeGood 0 [(0, .long l0)] [] hs Q := by
  refine mx_lload_n d_LBWorker_canBeMadeGood_0 rfl 0 rfl ?_
  refine mx_ldc2 (v := (-1000000000004)) d_LBWorker_canBeMadeGood_1 kw_214 ?_
  refine mx_lcmp d_LBWorker_canBeMadeGood_4 ?_
  refine mx_if_eq d_LBWorker_canBeMadeGood_5 (fun c9 => ?_) (fun c9 => ?_)
  · replace h := h.1 ((lg_cmp_eq _ _).mp c9)
    exact mx_sub [] rfl h
  · replace h := h.2 (fun z9 => c9 ((lg_cmp_eq _ _).mpr z9))
    refine mx_lload_n d_LBWorker_canBeMadeGood_8 rfl 0 rfl ?_
    refine mx_ldc2 (v := (-1000000000005)) d_LBWorker_canBeMadeGood_9 kw_215 ?_
    refine mx_lcmp d_LBWorker_canBeMadeGood_12 ?_
    refine mx_if_eq d_LBWorker_canBeMadeGood_13 (fun c9 => ?_) (fun c9 => ?_)
    · replace h := h.1 ((lg_cmp_eq _ _).mp c9)
      exact mx_sub [] rfl h
    · replace h := h.2 (fun z9 => c9 ((lg_cmp_eq _ _).mpr z9))
      refine mx_lload_n d_LBWorker_canBeMadeGood_16 rfl 0 rfl ?_
      refine mx_ldc2 (v := (-1000000000006)) d_LBWorker_canBeMadeGood_17 kw_222 ?_
      refine mx_lcmp d_LBWorker_canBeMadeGood_20 ?_
      refine mx_if_eq d_LBWorker_canBeMadeGood_21 (fun c9 => ?_) (fun c9 => ?_)
      · replace h := h.1 ((lg_cmp_eq _ _).mp c9)
        exact mx_sub [] rfl h
      · replace h := h.2 (fun z9 => c9 ((lg_cmp_eq _ _).mpr z9))
        refine mx_lload_n d_LBWorker_canBeMadeGood_24 rfl 0 rfl ?_
        refine mx_ldc2 (v := (-1000000000007)) d_LBWorker_canBeMadeGood_25 kw_225 ?_
        refine mx_lcmp d_LBWorker_canBeMadeGood_28 ?_
        refine mx_if_ne d_LBWorker_canBeMadeGood_29 (fun c9 => ?_) (fun c9 => ?_)
        · replace h := h.1 ((not_congr (lg_cmp_eq _ _)).mp c9)
          refine mx_iconst (v := 0) d_LBWorker_canBeMadeGood_36 (by decide) ?_
          exact mx_ireturn d_LBWorker_canBeMadeGood_37 rfl (mx_nz (Or.inl rfl)) h
        · replace h := h.2 (fun z9 => c9 ((not_congr (lg_cmp_eq _ _)).mpr z9))
          exact mx_sub [] rfl h
set_option maxRecDepth 100000 in
theorem wp_LBWorker_canBeMadeGood_32 {l : Launch} {G : mx_G} {d : Nat} {hs : mx_H} {Q : Option Value → mx_H → Prop}  (h : Q (some (.int 1)) hs) : mx_Ok mx_S0 l G (d + 1) mm_LBWorker_canBeMadeGood 32 [] [] hs Q := by
  refine mx_iconst (v := 1) d_LBWorker_canBeMadeGood_32 (by decide) ?_
  refine mx_goto d_LBWorker_canBeMadeGood_33 ?_
  exact mx_ireturn d_LBWorker_canBeMadeGood_37 rfl (mx_nz (Or.inr rfl)) h
set_option maxRecDepth 100000 in
theorem wp_LBWorker_workPlan_0 {l : Launch} {G : mx_G} {d : Nat} {hs : mx_H} {Q : Option Value → mx_H → Prop} (l0 : Nat) (l1 : Nat) (l2 : Int32) (l3 : Int32) (h : mx_Ok mx_S0 l G (d + 1) mm_LBWorker_workPlan 13 [(0, .ref l0), (1, .ref l1), (2, .int l2), (3, .int l3), (4, .int (l3 * 4)), (5, .int 0), (6, .int (l2 + 3))] [] hs Q) : mx_Ok mx_S0 l G (d + 1) mm_LBWorker_workPlan 0 [(0, .ref l0), (1, .ref l1), (2, .int l2), (3, .int l3)] [] hs Q := by
  refine mx_iload_n d_LBWorker_workPlan_0 rfl 3 rfl ?_
  refine mx_iconst (v := 4) d_LBWorker_workPlan_1 (by decide) ?_
  refine mx_imul d_LBWorker_workPlan_2 ?_
  refine mx_istore (lv2 := [(4, .int (l3 * 4)), (0, .ref l0), (1, .ref l1), (2, .int l2), (3, .int l3)]) d_LBWorker_workPlan_3 (Nat.le_of_ble_eq_true rfl) rfl ?_
  refine mx_iconst (v := 0) d_LBWorker_workPlan_5 (by decide) ?_
  refine mx_istore (lv2 := [(5, .int 0), (4, .int (l3 * 4)), (0, .ref l0), (1, .ref l1), (2, .int l2), (3, .int l3)]) d_LBWorker_workPlan_6 (Nat.le_of_ble_eq_true rfl) rfl ?_
  refine mx_iload_n d_LBWorker_workPlan_8 rfl 4 rfl ?_
  refine mx_iconst (v := 3) d_LBWorker_workPlan_9 (by decide) ?_
  refine mx_iadd d_LBWorker_workPlan_10 ?_
  refine mx_istore (lv2 := [(6, .int (l2 + 3)), (5, .int 0), (4, .int (l3 * 4)), (0, .ref l0), (1, .ref l1), (2, .int l2), (3, .int l3)]) d_LBWorker_workPlan_11 (Nat.le_of_ble_eq_true rfl) rfl ?_
  exact mx_sub [3, 4, 5, 6, 2, 1, 0] rfl h
set_option maxRecDepth 100000 in
theorem wp_LBWorker_workPlan_13 {l : Launch} {G : mx_G} {d : Nat} {hs : mx_H} {Q : Option Value → mx_H → Prop} (l0 : Nat) (l1 : Nat) (l2 : Int32) (l3 : Int32) (l4 : Int32) (l5 : Int32) (l6 : Int32) (h : ((4 ≤ l5 → mx_Ok mx_S0 l G (d + 1) mm_LBWorker_workPlan 79 [(0, .ref l0), (1, .ref l1), (2, .int l2), (4, .int l4), (5, .int l5)] [] hs Q) ∧ (¬ (4 ≤ l5) → ((∃ fs19 : List Value, hs.1 l1 = some (1, fs19)) ∧ mx_C mx_S0 l G d mm_LBText_codeAt [.ref l1, .int l6] hs (fun (r1 : Option Value) (hs2 : mx_H) => ∃ x3 : Int32, r1 = some (.int x3) ∧ ((x3 = 41 → mx_Ok mx_S0 l G (d + 1) mm_LBWorker_workPlan 79 [(0, .ref l0), (1, .ref l1), (2, .int l2), (4, .int l4), (5, .int l5)] [] hs2 Q) ∧ (¬ (x3 = 41) → ((∃ fs18 : List Value, hs2.1 l0 = some (5, fs18)) ∧ mx_C mx_S0 l G d mm_LBWorker_work [.ref l0, .ref l1, .int l6, .int (l3 + 1)] hs2 (fun (r4 : Option Value) (hs5 : mx_H) => ∃ x6 : Int64, r4 = some (.long x6) ∧ mx_C mx_S0 l G d mm_LB_isFailure [.long x6] hs5 (fun (r7 : Option Value) (hs8 : mx_H) => ∃ x9 : Int32, r7 = some (.int x9) ∧ ((x9 = 0 → (∃ (a11 : Nat), mx_f hs8 l0 5 2 (.ref a11) ∧ (∃ vs12 : List Value, hs8.1 a11 = some (102, vs12) ∧ ¬ (l4 + l5) < 0 ∧ Int32.toNatClampNeg (l4 + l5) < vs12.length ∧ ∀ hs13 : mx_H, hs13 = mx_st hs8 a11 (102, vs12.set (Int32.toNatClampNeg (l4 + l5)) (.long x6)) → ((∃ fs17 : List Value, hs13.1 l1 = some (1, fs17)) ∧ mx_C mx_S0 l G d mm_LBText_endOf [.ref l1, .int l6] hs13 (fun (r14 : Option Value) (hs15 : mx_H) => ∃ x16 : Int32, r14 = some (.int x16) ∧ mx_Ok mx_S0 l G (d + 1) mm_LBWorker_workPlan 13 [(0, .ref l0), (1, .ref l1), (2, .int l2), (3, .int l3), (4, .int l4), (5, .int (l5 + 1)), (6, .int x16)] [] hs15 Q))))) ∧ (¬ (x9 = 0) → Q (some (.long x6)) hs8)))))))))))) : mx_Ok mx_S0 l G (d + 1) mm_LBWorker_workPlan 13 [(0, .ref l0), (1, .ref l1), (2, .int l2), (3, .int l3), (4, .int l4), (5, .int l5), (6, .int l6)] [] hs Q := by
  refine mx_iload d_LBWorker_workPlan_13 5 rfl ?_
  refine mx_iconst (v := 4) d_LBWorker_workPlan_15 (by decide) ?_
  refine mx_icmp_ge d_LBWorker_workPlan_16 (fun c9 => ?_) (fun c9 => ?_)
  · replace h := h.1 c9
    exact mx_sub [0, 1, 2, 4, 5] rfl h
  · replace h := h.2 c9
    refine mx_aload_nR d_LBWorker_workPlan_19 rfl 1 rfl ?_
    refine mx_iload d_LBWorker_workPlan_20 6 rfl ?_
    obtain ⟨⟨fs19, e1_⟩, h⟩ := h
    refine mx_invV (Y := mm_LBText_codeAt) (As := [.int l6]) (rest := []) d_LBWorker_workPlan_22.1 ok_LBText_codeAt kw_211 kw_116 kw_117 rfl rfl (Nat.le_of_ble_eq_true rfl) (Nat.le_of_ble_eq_true rfl) e1_ (q := mx_cl0_1) rfl rfl h (fun r1 hs2 h => ?_)
    obtain ⟨x3, e9_, h⟩ := h
    subst e9_
    show mx_Ok mx_S0 l G (d + 1) mm_LBWorker_workPlan 25 [(0, .ref l0), (1, .ref l1), (2, .int l2), (3, .int l3), (4, .int l4), (5, .int l5), (6, .int l6)] [.int x3] hs2 Q
    refine mx_bipush (v := 41) d_LBWorker_workPlan_25 (by decide) ?_
    refine mx_icmp_eq d_LBWorker_workPlan_27 (fun c9 => ?_) (fun c9 => ?_)
    · replace h := h.1 c9
      exact mx_sub [0, 1, 2, 4, 5] rfl h
    · replace h := h.2 c9
      refine mx_aload_nR d_LBWorker_workPlan_30 rfl 0 rfl ?_
      refine mx_aload_nR d_LBWorker_workPlan_31 rfl 1 rfl ?_
      refine mx_iload d_LBWorker_workPlan_32 6 rfl ?_
      refine mx_iload_n d_LBWorker_workPlan_34 rfl 3 rfl ?_
      refine mx_iconst (v := 1) d_LBWorker_workPlan_35 (by decide) ?_
      refine mx_iadd d_LBWorker_workPlan_36 ?_
      obtain ⟨⟨fs18, e1_⟩, h⟩ := h
      refine mx_invV (Y := mm_LBWorker_work) (As := [.ref l1, .int l6, .int (l3 + 1)]) (rest := []) d_LBWorker_workPlan_37.1 ok_LBWorker_work kw_189 kw_190 kw_191 rfl rfl (Nat.le_of_ble_eq_true rfl) (Nat.le_of_ble_eq_true rfl) e1_ (q := mx_cl0_5) rfl rfl h (fun r4 hs5 h => ?_)
      obtain ⟨x6, e9_, h⟩ := h
      subst e9_
      show mx_Ok mx_S0 l G (d + 1) mm_LBWorker_workPlan 40 [(0, .ref l0), (1, .ref l1), (2, .int l2), (3, .int l3), (4, .int l4), (5, .int l5), (6, .int l6)] [.long x6] hs5 Q
      refine mx_lstore (lv2 := [(7, .long x6), (0, .ref l0), (1, .ref l1), (2, .int l2), (3, .int l3), (4, .int l4), (5, .int l5), (6, .int l6)]) d_LBWorker_workPlan_40 (Nat.le_of_ble_eq_true rfl) rfl ?_
      refine mx_lload d_LBWorker_workPlan_42 0 rfl ?_
      refine mx_invSN (Y := mm_LB_isFailure) (As := [.long x6]) (rest := []) d_LBWorker_workPlan_44.1 ok_LB_isFailure kn_4 kw_54 rfl rfl (Nat.le_of_ble_eq_true rfl) (Nat.le_of_ble_eq_true rfl) h (fun r7 hs8 h => ?_)
      obtain ⟨x9, e9_, h⟩ := h
      subst e9_
      show mx_Ok mx_S0 l G (d + 1) mm_LBWorker_workPlan 47 [(7, .long x6), (0, .ref l0), (1, .ref l1), (2, .int l2), (3, .int l3), (4, .int l4), (5, .int l5), (6, .int l6)] [.int x9] hs8 Q
      refine mx_if_eq d_LBWorker_workPlan_47 (fun c9 => ?_) (fun c9 => ?_)
      · replace h := h.1 c9
        refine mx_aload_nR d_LBWorker_workPlan_53 rfl 1 rfl ?_
        obtain ⟨a11, ⟨fs10, e1_, e2_⟩, h⟩ := h
        refine mx_get d_LBWorker_workPlan_54 (ci := 5) (k := 2) (q := mx_cl0_5) rfl (Nat.le_of_ble_eq_true rfl) kw_169 e1_ e2_ ?_
        refine mx_iload d_LBWorker_workPlan_57 5 rfl ?_
        refine mx_iload d_LBWorker_workPlan_59 6 rfl ?_
        refine mx_iadd d_LBWorker_workPlan_61 ?_
        refine mx_lload d_LBWorker_workPlan_62 0 rfl ?_
        obtain ⟨vs12, e1_, e2_, e3_, h⟩ := h
        refine mx_last d_LBWorker_workPlan_64 (k := 102) rfl (by decide) (by omega) e1_ e2_ e3_ ?_
        obtain ⟨hs13, hg_⟩ : ∃ x_, x_ = mx_st hs8 a11 (102, vs12.set (Int32.toNatClampNeg (l4 + l5)) (.long x6)) := ⟨_, rfl⟩
        replace h := h hs13 hg_
        rw [← hg_]
        clear hg_
        refine mx_iinc (v := l5 + 1) (lv2 := [(5, .int (l5 + 1)), (7, .long x6), (0, .ref l0), (1, .ref l1), (2, .int l2), (3, .int l3), (4, .int l4), (6, .int l6)]) d_LBWorker_workPlan_65 6 rfl (by rfl) (Nat.le_of_ble_eq_true rfl) rfl ?_
        refine mx_aload_nR d_LBWorker_workPlan_68 rfl 3 rfl ?_
        refine mx_iload d_LBWorker_workPlan_69 7 rfl ?_
        obtain ⟨⟨fs17, e1_⟩, h⟩ := h
        refine mx_invV (Y := mm_LBText_endOf) (As := [.int l6]) (rest := []) d_LBWorker_workPlan_71.1 ok_LBText_endOf kw_219 kw_220 kw_221 rfl rfl (Nat.le_of_ble_eq_true rfl) (Nat.le_of_ble_eq_true rfl) e1_ (q := mx_cl0_1) rfl rfl h (fun r14 hs15 h => ?_)
        obtain ⟨x16, e9_, h⟩ := h
        subst e9_
        show mx_Ok mx_S0 l G (d + 1) mm_LBWorker_workPlan 74 [(5, .int (l5 + 1)), (7, .long x6), (0, .ref l0), (1, .ref l1), (2, .int l2), (3, .int l3), (4, .int l4), (6, .int l6)] [.int x16] hs15 Q
        refine mx_istore (lv2 := [(6, .int x16), (5, .int (l5 + 1)), (7, .long x6), (0, .ref l0), (1, .ref l1), (2, .int l2), (3, .int l3), (4, .int l4)]) d_LBWorker_workPlan_74 (Nat.le_of_ble_eq_true rfl) rfl ?_
        refine mx_goto d_LBWorker_workPlan_76 ?_
        exact mx_sub [3, 4, 5, 6, 7, 1, 0] rfl h
      · replace h := h.2 c9
        refine mx_lload d_LBWorker_workPlan_50 0 rfl ?_
        exact mx_lreturn d_LBWorker_workPlan_52 rfl h
set_option maxRecDepth 100000 in
theorem wp_LBWorker_workPlan_79 {l : Launch} {G : mx_G} {d : Nat} {hs : mx_H} {Q : Option Value → mx_H → Prop} (l0 : Nat) (l1 : Nat) (l2 : Int32) (l4 : Int32) (l5 : Int32) (h : (∃ (a2 : Nat), mx_f hs l0 5 1 (.ref a2) ∧ ((∃ fs12 : List Value, hs.1 l1 = some (1, fs12)) ∧ mx_C mx_S0 l G d mm_LBText_codeAt [.ref l1, .int (l2 + 1)] hs (fun (r3 : Option Value) (hs4 : mx_H) => ∃ x5 : Int32, r3 = some (.int x5) ∧ (∃ (a7 : Nat), mx_f hs4 l0 5 2 (.ref a7) ∧ ((∃ fs11 : List Value, hs4.1 a2 = some (4, fs11)) ∧ mx_C mx_S0 l G d mm_LBStore_planOf [.ref a2, .int (x5 - 48), .ref a7, .int l4, .int l5] hs4 (fun (r8 : Option Value) (hs9 : mx_H) => ∃ x10 : Int64, r8 = some (.long x10) ∧ Q (some (.long x10)) hs9))))))) : mx_Ok mx_S0 l G (d + 1) mm_LBWorker_workPlan 79 [(0, .ref l0), (1, .ref l1), (2, .int l2), (4, .int l4), (5, .int l5)] [] hs Q := by
  refine mx_aload_nR d_LBWorker_workPlan_79 rfl 0 rfl ?_
  obtain ⟨a2, ⟨fs1, e1_, e2_⟩, h⟩ := h
  refine mx_get d_LBWorker_workPlan_80 (ci := 5) (k := 1) (q := mx_cl0_5) rfl (Nat.le_of_ble_eq_true rfl) kw_166 e1_ e2_ ?_
  refine mx_aload_nR d_LBWorker_workPlan_83 rfl 1 rfl ?_
  refine mx_iload_n d_LBWorker_workPlan_84 rfl 2 rfl ?_
  refine mx_iconst (v := 1) d_LBWorker_workPlan_85 (by decide) ?_
  refine mx_iadd d_LBWorker_workPlan_86 ?_
  obtain ⟨⟨fs12, e1_⟩, h⟩ := h
  refine mx_invV (Y := mm_LBText_codeAt) (As := [.int (l2 + 1)]) (rest := [.ref a2]) d_LBWorker_workPlan_87.1 ok_LBText_codeAt kw_211 kw_116 kw_117 rfl rfl (Nat.le_of_ble_eq_true rfl) (Nat.le_of_ble_eq_true rfl) e1_ (q := mx_cl0_1) rfl rfl h (fun r3 hs4 h => ?_)
  obtain ⟨x5, e9_, h⟩ := h
  subst e9_
  show mx_Ok mx_S0 l G (d + 1) mm_LBWorker_workPlan 90 [(0, .ref l0), (1, .ref l1), (2, .int l2), (4, .int l4), (5, .int l5)] [.int x5, .ref a2] hs4 Q
  refine mx_bipush (v := 48) d_LBWorker_workPlan_90 (by decide) ?_
  refine mx_isub d_LBWorker_workPlan_92 ?_
  refine mx_aload_nR d_LBWorker_workPlan_93 rfl 0 rfl ?_
  obtain ⟨a7, ⟨fs6, e1_, e2_⟩, h⟩ := h
  refine mx_get d_LBWorker_workPlan_94 (ci := 5) (k := 2) (q := mx_cl0_5) rfl (Nat.le_of_ble_eq_true rfl) kw_169 e1_ e2_ ?_
  refine mx_iload d_LBWorker_workPlan_97 3 rfl ?_
  refine mx_iload d_LBWorker_workPlan_99 4 rfl ?_
  obtain ⟨⟨fs11, e1_⟩, h⟩ := h
  refine mx_invV (Y := mm_LBStore_planOf) (As := [.int (x5 - 48), .ref a7, .int l4, .int l5]) (rest := []) d_LBWorker_workPlan_101.1 ok_LBStore_planOf kw_226 kw_227 kw_228 rfl rfl (Nat.le_of_ble_eq_true rfl) (Nat.le_of_ble_eq_true rfl) e1_ (q := mx_cl0_4) rfl rfl h (fun r8 hs9 h => ?_)
  obtain ⟨x10, e9_, h⟩ := h
  subst e9_
  show mx_Ok mx_S0 l G (d + 1) mm_LBWorker_workPlan 104 [(0, .ref l0), (1, .ref l1), (2, .int l2), (4, .int l4), (5, .int l5)] [.long x10] hs9 Q
  exact mx_lreturn d_LBWorker_workPlan_104 rfl h
set_option maxRecDepth 100000 in
theorem wp_LBWorker_workResult_0 {l : Launch} {G : mx_G} {d : Nat} {hs : mx_H} {Q : Option Value → mx_H → Prop} (l0 : Nat) (l1 : Nat) (l2 : Int32) (l3 : Int32) (h : ((∃ fs16 : List Value, hs.1 l0 = some (5, fs16)) ∧ mx_C mx_S0 l G d mm_LBWorker_work [.ref l0, .ref l1, .int (l2 + 1), .int (l3 + 1)] hs (fun (r1 : Option Value) (hs2 : mx_H) => ∃ x3 : Int64, r1 = some (.long x3) ∧ mx_C mx_S0 l G d mm_LB_isFailure [.long x3] hs2 (fun (r4 : Option Value) (hs5 : mx_H) => ∃ x6 : Int32, r4 = some (.int x6) ∧ ((x6 = 0 → mx_C mx_S0 l G d mm_LB_isPlan [.long x3] hs5 (fun (r7 : Option Value) (hs8 : mx_H) => ∃ x9 : Int32, r7 = some (.int x9) ∧ ((x9 = 0 → Q (some (.long (-1000000000005))) hs8) ∧ (¬ (x9 = 0) → (∃ (a11 : Nat), mx_f hs8 l0 5 1 (.ref a11) ∧ ((∃ fs15 : List Value, hs8.1 a11 = some (4, fs15)) ∧ mx_C mx_S0 l G d mm_LBStore_partOf [.ref a11, .long x3, .int 30] hs8 (fun (r12 : Option Value) (hs13 : mx_H) => ∃ x14 : Int64, r12 = some (.long x14) ∧ Q (some (.long x14)) hs13))))))) ∧ (¬ (x6 = 0) → Q (some (.long x3)) hs5)))))) : mx_Ok mx_S0 l G (d + 1) mm_LBWorker_workResult 0 [(0, .ref l0), (1, .ref l1), (2, .int l2), (3, .int l3)] [] hs Q := by
  refine mx_aload_nR d_LBWorker_workResult_0 rfl 0 rfl ?_
  refine mx_aload_nR d_LBWorker_workResult_1 rfl 1 rfl ?_
  refine mx_iload_n d_LBWorker_workResult_2 rfl 2 rfl ?_
  refine mx_iconst (v := 1) d_LBWorker_workResult_3 (by decide) ?_
  refine mx_iadd d_LBWorker_workResult_4 ?_
  refine mx_iload_n d_LBWorker_workResult_5 rfl 3 rfl ?_
  refine mx_iconst (v := 1) d_LBWorker_workResult_6 (by decide) ?_
  refine mx_iadd d_LBWorker_workResult_7 ?_
  obtain ⟨⟨fs16, e1_⟩, h⟩ := h
  refine mx_invV (Y := mm_LBWorker_work) (As := [.ref l1, .int (l2 + 1), .int (l3 + 1)]) (rest := []) d_LBWorker_workResult_8.1 ok_LBWorker_work kw_189 kw_190 kw_191 rfl rfl (Nat.le_of_ble_eq_true rfl) (Nat.le_of_ble_eq_true rfl) e1_ (q := mx_cl0_5) rfl rfl h (fun r1 hs2 h => ?_)
  obtain ⟨x3, e9_, h⟩ := h
  subst e9_
  show mx_Ok mx_S0 l G (d + 1) mm_LBWorker_workResult 11 [(0, .ref l0), (1, .ref l1), (2, .int l2), (3, .int l3)] [.long x3] hs2 Q
  refine mx_lstore (lv2 := [(4, .long x3), (0, .ref l0), (1, .ref l1), (2, .int l2), (3, .int l3)]) d_LBWorker_workResult_11 (Nat.le_of_ble_eq_true rfl) rfl ?_
  refine mx_lload d_LBWorker_workResult_13 0 rfl ?_
  refine mx_invSN (Y := mm_LB_isFailure) (As := [.long x3]) (rest := []) d_LBWorker_workResult_15.1 ok_LB_isFailure kn_4 kw_54 rfl rfl (Nat.le_of_ble_eq_true rfl) (Nat.le_of_ble_eq_true rfl) h (fun r4 hs5 h => ?_)
  obtain ⟨x6, e9_, h⟩ := h
  subst e9_
  show mx_Ok mx_S0 l G (d + 1) mm_LBWorker_workResult 18 [(4, .long x3), (0, .ref l0), (1, .ref l1), (2, .int l2), (3, .int l3)] [.int x6] hs5 Q
  refine mx_if_eq d_LBWorker_workResult_18 (fun c9 => ?_) (fun c9 => ?_)
  · replace h := h.1 c9
    refine mx_lload d_LBWorker_workResult_24 0 rfl ?_
    refine mx_invSN (Y := mm_LB_isPlan) (As := [.long x3]) (rest := []) d_LBWorker_workResult_26.1 ok_LB_isPlan kn_7 kw_218 rfl rfl (Nat.le_of_ble_eq_true rfl) (Nat.le_of_ble_eq_true rfl) h (fun r7 hs8 h => ?_)
    obtain ⟨x9, e9_, h⟩ := h
    subst e9_
    show mx_Ok mx_S0 l G (d + 1) mm_LBWorker_workResult 29 [(4, .long x3), (0, .ref l0), (1, .ref l1), (2, .int l2), (3, .int l3)] [.int x9] hs8 Q
    refine mx_if_eq d_LBWorker_workResult_29 (fun c9 => ?_) (fun c9 => ?_)
    · replace h := h.1 c9
      refine mx_ldc2 (v := (-1000000000005)) d_LBWorker_workResult_46 kw_215 ?_
      exact mx_lreturn d_LBWorker_workResult_49 rfl h
    · replace h := h.2 c9
      refine mx_aload_nR d_LBWorker_workResult_32 rfl 1 rfl ?_
      obtain ⟨a11, ⟨fs10, e1_, e2_⟩, h⟩ := h
      refine mx_get d_LBWorker_workResult_33 (ci := 5) (k := 1) (q := mx_cl0_5) rfl (Nat.le_of_ble_eq_true rfl) kw_166 e1_ e2_ ?_
      refine mx_lload d_LBWorker_workResult_36 0 rfl ?_
      refine mx_bipush (v := 30) d_LBWorker_workResult_38 (by decide) ?_
      obtain ⟨⟨fs15, e1_⟩, h⟩ := h
      refine mx_invV (Y := mm_LBStore_partOf) (As := [.long x3, .int 30]) (rest := []) d_LBWorker_workResult_40.1 ok_LBStore_partOf kw_229 kw_62 kw_63 rfl rfl (Nat.le_of_ble_eq_true rfl) (Nat.le_of_ble_eq_true rfl) e1_ (q := mx_cl0_4) rfl rfl h (fun r12 hs13 h => ?_)
      obtain ⟨x14, e9_, h⟩ := h
      subst e9_
      show mx_Ok mx_S0 l G (d + 1) mm_LBWorker_workResult 43 [(4, .long x3), (0, .ref l0), (1, .ref l1), (2, .int l2), (3, .int l3)] [.long x14] hs13 Q
      refine mx_goto d_LBWorker_workResult_43 ?_
      exact mx_lreturn d_LBWorker_workResult_49 rfl h
  · replace h := h.2 c9
    refine mx_lload d_LBWorker_workResult_21 0 rfl ?_
    exact mx_lreturn d_LBWorker_workResult_23 rfl h
