set_option maxRecDepth 100000 in
theorem wp_RM_init_0 {l : Launch} {G : mx_G} {d : Nat} {hs : mx_H} {Q : Option Value → mx_H → Prop} (l0 : Nat) (h : (∀ hs1 : mx_H, hs1 = mx_nw hs (104, List.replicate 240 (.int 0)) 240 → (∃ fs2 : List Value, hs1.1 l0 = some (6, fs2) ∧ ∀ hs3 : mx_H, hs3 = mx_st hs1 l0 (6, fs2.set 0 (.ref hs.2.1)) → (∀ hs4 : mx_H, hs4 = mx_nw hs3 (104, List.replicate 9 (.int 0)) 9 → (∃ fs5 : List Value, hs4.1 l0 = some (6, fs5) ∧ ∀ hs6 : mx_H, hs6 = mx_st hs4 l0 (6, fs5.set 1 (.ref hs3.2.1)) → (∀ hs7 : mx_H, hs7 = mx_nw hs6 (106, List.replicate 9 (.long 0)) 9 → (∃ fs8 : List Value, hs7.1 l0 = some (6, fs8) ∧ ∀ hs9 : mx_H, hs9 = mx_st hs7 l0 (6, fs8.set 2 (.ref hs6.2.1)) → (∀ hs10 : mx_H, hs10 = mx_nw hs9 (107, List.replicate 9 (.int 0)) 9 → (∃ fs11 : List Value, hs10.1 l0 = some (6, fs11) ∧ ∀ hs12 : mx_H, hs12 = mx_st hs10 l0 (6, fs11.set 3 (.ref hs9.2.1)) → (∀ hs13 : mx_H, hs13 = mx_nw hs12 (107, List.replicate 8 (.int 0)) 8 → (∃ fs14 : List Value, hs13.1 l0 = some (6, fs14) ∧ ∀ hs15 : mx_H, hs15 = mx_st hs13 l0 (6, fs14.set 4 (.ref hs12.2.1)) → (∀ hs16 : mx_H, hs16 = mx_nw hs15 (107, List.replicate 8 (.int 0)) 8 → (∃ fs17 : List Value, hs16.1 l0 = some (6, fs17) ∧ ∀ hs18 : mx_H, hs18 = mx_st hs16 l0 (6, fs17.set 5 (.ref hs15.2.1)) → (∃ fs19 : List Value, hs18.1 l0 = some (6, fs19) ∧ ∀ hs20 : mx_H, hs20 = mx_st hs18 l0 (6, fs19.set 6 (.int (-1))) → (∀ hs21 : mx_H, hs21 = mx_nw hs20 (104, List.replicate 12 (.int 0)) 12 → (∃ fs22 : List Value, hs21.1 l0 = some (6, fs22) ∧ ∀ hs23 : mx_H, hs23 = mx_st hs21 l0 (6, fs22.set 8 (.ref hs20.2.1)) → (∀ hs24 : mx_H, hs24 = mx_nw hs23 (107, List.replicate 12 (.int 0)) 12 → (∃ fs25 : List Value, hs24.1 l0 = some (6, fs25) ∧ ∀ hs26 : mx_H, hs26 = mx_st hs24 l0 (6, fs25.set 9 (.ref hs23.2.1)) → (∀ hs27 : mx_H, hs27 = mx_nw hs26 (104, List.replicate 12 (.int 0)) 12 → (∃ fs28 : List Value, hs27.1 l0 = some (6, fs28) ∧ ∀ hs29 : mx_H, hs29 = mx_st hs27 l0 (6, fs28.set 10 (.ref hs26.2.1)) → (∀ hs30 : mx_H, hs30 = mx_nw hs29 (104, List.replicate 100 (.int 0)) 100 → (∃ fs31 : List Value, hs30.1 l0 = some (6, fs31) ∧ ∀ hs32 : mx_H, hs32 = mx_st hs30 l0 (6, fs31.set 12 (.ref hs29.2.1)) → (∀ hs33 : mx_H, hs33 = mx_nw hs32 (104, List.replicate 100 (.int 0)) 100 → (∃ fs34 : List Value, hs33.1 l0 = some (6, fs34) ∧ ∀ hs35 : mx_H, hs35 = mx_st hs33 l0 (6, fs34.set 13 (.ref hs32.2.1)) → (∀ hs36 : mx_H, hs36 = mx_nw hs35 (104, List.replicate 100 (.int 0)) 100 → (∃ fs37 : List Value, hs36.1 l0 = some (6, fs37) ∧ ∀ hs38 : mx_H, hs38 = mx_st hs36 l0 (6, fs37.set 14 (.ref hs35.2.1)) → (∀ hs39 : mx_H, hs39 = mx_nw hs38 (104, List.replicate 100 (.int 0)) 100 → (∃ fs40 : List Value, hs39.1 l0 = some (6, fs40) ∧ ∀ hs41 : mx_H, hs41 = mx_st hs39 l0 (6, fs40.set 15 (.ref hs38.2.1)) → (∀ hs42 : mx_H, hs42 = mx_nw hs41 (104, List.replicate 100 (.int 0)) 100 → (∃ fs43 : List Value, hs42.1 l0 = some (6, fs43) ∧ ∀ hs44 : mx_H, hs44 = mx_st hs42 l0 (6, fs43.set 16 (.ref hs41.2.1)) → (∀ hs45 : mx_H, hs45 = mx_nw hs44 (106, List.replicate 400 (.long 0)) 400 → (∃ fs46 : List Value, hs45.1 l0 = some (6, fs46) ∧ ∀ hs47 : mx_H, hs47 = mx_st hs45 l0 (6, fs46.set 18 (.ref hs44.2.1)) → (∀ hs48 : mx_H, hs48 = mx_nw hs47 (104, List.replicate 31 (.int 0)) 31 → (∃ fs49 : List Value, hs48.1 l0 = some (6, fs49) ∧ ∀ hs50 : mx_H, hs50 = mx_st hs48 l0 (6, fs49.set 24 (.ref hs47.2.1)) → (∀ hs51 : mx_H, hs51 = mx_nw hs50 (104, List.replicate 31 (.int 0)) 31 → (∃ fs52 : List Value, hs51.1 l0 = some (6, fs52) ∧ ∀ hs53 : mx_H, hs53 = mx_st hs51 l0 (6, fs52.set 25 (.ref hs50.2.1)) → (∀ hs54 : mx_H, hs54 = mx_nw hs53 (106, List.replicate 124 (.long 0)) 124 → (∃ fs55 : List Value, hs54.1 l0 = some (6, fs55) ∧ ∀ hs56 : mx_H, hs56 = mx_st hs54 l0 (6, fs55.set 26 (.ref hs53.2.1)) → (∀ hs57 : mx_H, hs57 = mx_nw hs56 (107, List.replicate 31 (.int 0)) 31 → (∃ fs58 : List Value, hs57.1 l0 = some (6, fs58) ∧ ∀ hs59 : mx_H, hs59 = mx_st hs57 l0 (6, fs58.set 27 (.ref hs56.2.1)) → (∀ hs60 : mx_H, hs60 = mx_nw hs59 (104, List.replicate 31 (.int 0)) 31 → (∃ fs61 : List Value, hs60.1 l0 = some (6, fs61) ∧ ∀ hs62 : mx_H, hs62 = mx_st hs60 l0 (6, fs61.set 28 (.ref hs59.2.1)) → (∀ hs63 : mx_H, hs63 = mx_nw hs62 (107, List.replicate 31 (.int 0)) 31 → (∃ fs64 : List Value, hs63.1 l0 = some (6, fs64) ∧ ∀ hs65 : mx_H, hs65 = mx_st hs63 l0 (6, fs64.set 29 (.ref hs62.2.1)) → (∀ hs66 : mx_H, hs66 = mx_nw hs65 (107, List.replicate 31 (.int 0)) 31 → (∃ fs67 : List Value, hs66.1 l0 = some (6, fs67) ∧ ∀ hs68 : mx_H, hs68 = mx_st hs66 l0 (6, fs67.set 30 (.ref hs65.2.1)) → (∀ hs69 : mx_H, hs69 = mx_nw hs68 (104, List.replicate 10 (.int 0)) 10 → (∃ fs70 : List Value, hs69.1 l0 = some (6, fs70) ∧ ∀ hs71 : mx_H, hs71 = mx_st hs69 l0 (6, fs70.set 31 (.ref hs68.2.1)) → (∀ hs72 : mx_H, hs72 = mx_nw hs71 (104, List.replicate 32 (.int 0)) 32 → (∃ fs73 : List Value, hs72.1 l0 = some (6, fs73) ∧ ∀ hs74 : mx_H, hs74 = mx_st hs72 l0 (6, fs73.set 32 (.ref hs71.2.1)) → (∀ hs75 : mx_H, hs75 = mx_nw hs74 (104, List.replicate 32 (.int 0)) 32 → (∃ fs76 : List Value, hs75.1 l0 = some (6, fs76) ∧ ∀ hs77 : mx_H, hs77 = mx_st hs75 l0 (6, fs76.set 33 (.ref hs74.2.1)) → Q none hs77)))))))))))))))))))))))))))))))))))))))))))))))))))) : mx_Ok mx_S0 l G (d + 1) mm_RM_init 0 [(0, .ref l0)] [] hs Q := by
  refine mx_aload_nR d_RM_init_0 rfl 0 rfl ?_
  refine mx_objInit d_RM_init_1 kw_230 kw_1 k_objcode (Nat.le_of_ble_eq_true rfl) ?_
  refine mx_aload_nR d_RM_init_4 rfl 0 rfl ?_
  refine mx_sipush (v := 240) d_RM_init_5 (by decide) ?_
  refine mx_newa d_RM_init_8 (k := 104) (ty := .int) (dv := .int 0) (N := 240) rfl rfl rfl (by decide) kw_90 (by decide) (by decide) (by decide) ?_
  obtain ⟨hs1, hg_⟩ : ∃ x_, x_ = mx_nw hs (104, List.replicate 240 (.int 0)) 240 := ⟨_, rfl⟩
  replace h := h hs1 hg_
  rw [← hg_]
  clear hg_
  obtain ⟨fs2, e1_, h⟩ := h
  refine mx_putF d_RM_init_10 (ci := 6) (k := 0) (q := mx_cl0_6) (ty := (.array .int)) rfl (Nat.le_of_ble_eq_true rfl) kw_231 rfl rfl rfl (by decide +kernel) rfl rfl (by omega) e1_ ?_
  obtain ⟨hs3, hg_⟩ : ∃ x_, x_ = mx_st hs1 l0 (6, fs2.set 0 (.ref hs.2.1)) := ⟨_, rfl⟩
  replace h := h hs3 hg_
  rw [← hg_]
  clear hg_
  refine mx_aload_nR d_RM_init_13 rfl 0 rfl ?_
  refine mx_bipush (v := 9) d_RM_init_14 (by decide) ?_
  refine mx_newa d_RM_init_16 (k := 104) (ty := .int) (dv := .int 0) (N := 9) rfl rfl rfl (by decide) kw_90 (by decide) (by decide) (by decide) ?_
  obtain ⟨hs4, hg_⟩ : ∃ x_, x_ = mx_nw hs3 (104, List.replicate 9 (.int 0)) 9 := ⟨_, rfl⟩
  replace h := h hs4 hg_
  rw [← hg_]
  clear hg_
  obtain ⟨fs5, e1_, h⟩ := h
  refine mx_putF d_RM_init_18 (ci := 6) (k := 1) (q := mx_cl0_6) (ty := (.array .int)) rfl (Nat.le_of_ble_eq_true rfl) kw_232 rfl rfl rfl (by decide +kernel) rfl rfl (by omega) e1_ ?_
  obtain ⟨hs6, hg_⟩ : ∃ x_, x_ = mx_st hs4 l0 (6, fs5.set 1 (.ref hs3.2.1)) := ⟨_, rfl⟩
  replace h := h hs6 hg_
  rw [← hg_]
  clear hg_
  refine mx_aload_nR d_RM_init_21 rfl 0 rfl ?_
  refine mx_bipush (v := 9) d_RM_init_22 (by decide) ?_
  refine mx_newa d_RM_init_24 (k := 106) (ty := .long) (dv := .long 0) (N := 9) rfl rfl rfl (by decide) kw_136 (by decide) (by decide) (by decide) ?_
  obtain ⟨hs7, hg_⟩ : ∃ x_, x_ = mx_nw hs6 (106, List.replicate 9 (.long 0)) 9 := ⟨_, rfl⟩
  replace h := h hs7 hg_
  rw [← hg_]
  clear hg_
  obtain ⟨fs8, e1_, h⟩ := h
  refine mx_putF d_RM_init_26 (ci := 6) (k := 2) (q := mx_cl0_6) (ty := (.array .long)) rfl (Nat.le_of_ble_eq_true rfl) kw_233 rfl rfl rfl (by decide +kernel) rfl rfl (by omega) e1_ ?_
  obtain ⟨hs9, hg_⟩ : ∃ x_, x_ = mx_st hs7 l0 (6, fs8.set 2 (.ref hs6.2.1)) := ⟨_, rfl⟩
  replace h := h hs9 hg_
  rw [← hg_]
  clear hg_
  refine mx_aload_nR d_RM_init_29 rfl 0 rfl ?_
  refine mx_bipush (v := 9) d_RM_init_30 (by decide) ?_
  refine mx_newa d_RM_init_32 (k := 107) (ty := .boolean) (dv := .int 0) (N := 9) rfl rfl rfl (by decide) kw_234 (by decide) (by decide) (by decide) ?_
  obtain ⟨hs10, hg_⟩ : ∃ x_, x_ = mx_nw hs9 (107, List.replicate 9 (.int 0)) 9 := ⟨_, rfl⟩
  replace h := h hs10 hg_
  rw [← hg_]
  clear hg_
  obtain ⟨fs11, e1_, h⟩ := h
  refine mx_putF d_RM_init_34 (ci := 6) (k := 3) (q := mx_cl0_6) (ty := (.array .boolean)) rfl (Nat.le_of_ble_eq_true rfl) kw_235 rfl rfl rfl (by decide +kernel) rfl rfl (by omega) e1_ ?_
  obtain ⟨hs12, hg_⟩ : ∃ x_, x_ = mx_st hs10 l0 (6, fs11.set 3 (.ref hs9.2.1)) := ⟨_, rfl⟩
  replace h := h hs12 hg_
  rw [← hg_]
  clear hg_
  refine mx_aload_nR d_RM_init_37 rfl 0 rfl ?_
  refine mx_bipush (v := 8) d_RM_init_38 (by decide) ?_
  refine mx_newa d_RM_init_40 (k := 107) (ty := .boolean) (dv := .int 0) (N := 8) rfl rfl rfl (by decide) kw_234 (by decide) (by decide) (by decide) ?_
  obtain ⟨hs13, hg_⟩ : ∃ x_, x_ = mx_nw hs12 (107, List.replicate 8 (.int 0)) 8 := ⟨_, rfl⟩
  replace h := h hs13 hg_
  rw [← hg_]
  clear hg_
  obtain ⟨fs14, e1_, h⟩ := h
  refine mx_putF d_RM_init_42 (ci := 6) (k := 4) (q := mx_cl0_6) (ty := (.array .boolean)) rfl (Nat.le_of_ble_eq_true rfl) kw_236 rfl rfl rfl (by decide +kernel) rfl rfl (by omega) e1_ ?_
  obtain ⟨hs15, hg_⟩ : ∃ x_, x_ = mx_st hs13 l0 (6, fs14.set 4 (.ref hs12.2.1)) := ⟨_, rfl⟩
  replace h := h hs15 hg_
  rw [← hg_]
  clear hg_
  refine mx_aload_nR d_RM_init_45 rfl 0 rfl ?_
  refine mx_bipush (v := 8) d_RM_init_46 (by decide) ?_
  refine mx_newa d_RM_init_48 (k := 107) (ty := .boolean) (dv := .int 0) (N := 8) rfl rfl rfl (by decide) kw_234 (by decide) (by decide) (by decide) ?_
  obtain ⟨hs16, hg_⟩ : ∃ x_, x_ = mx_nw hs15 (107, List.replicate 8 (.int 0)) 8 := ⟨_, rfl⟩
  replace h := h hs16 hg_
  rw [← hg_]
  clear hg_
  obtain ⟨fs17, e1_, h⟩ := h
  refine mx_putF d_RM_init_50 (ci := 6) (k := 5) (q := mx_cl0_6) (ty := (.array .boolean)) rfl (Nat.le_of_ble_eq_true rfl) kw_237 rfl rfl rfl (by decide +kernel) rfl rfl (by omega) e1_ ?_
  obtain ⟨hs18, hg_⟩ : ∃ x_, x_ = mx_st hs16 l0 (6, fs17.set 5 (.ref hs15.2.1)) := ⟨_, rfl⟩
  replace h := h hs18 hg_
  rw [← hg_]
  clear hg_
  refine mx_aload_nR d_RM_init_53 rfl 0 rfl ?_
  refine mx_iconst (v := -1) d_RM_init_54 (by decide) ?_
  obtain ⟨fs19, e1_, h⟩ := h
  refine mx_put d_RM_init_55 (ci := 6) (k := 6) (q := mx_cl0_6) (ty := .int) rfl (Nat.le_of_ble_eq_true rfl) kw_238 rfl (by decide +kernel) rfl rfl (by omega) e1_ ?_
  obtain ⟨hs20, hg_⟩ : ∃ x_, x_ = mx_st hs18 l0 (6, fs19.set 6 (.int (-1))) := ⟨_, rfl⟩
  replace h := h hs20 hg_
  rw [← hg_]
  clear hg_
  refine mx_aload_nR d_RM_init_58 rfl 0 rfl ?_
  refine mx_bipush (v := 12) d_RM_init_59 (by decide) ?_
  refine mx_newa d_RM_init_61 (k := 104) (ty := .int) (dv := .int 0) (N := 12) rfl rfl rfl (by decide) kw_90 (by decide) (by decide) (by decide) ?_
  obtain ⟨hs21, hg_⟩ : ∃ x_, x_ = mx_nw hs20 (104, List.replicate 12 (.int 0)) 12 := ⟨_, rfl⟩
  replace h := h hs21 hg_
  rw [← hg_]
  clear hg_
  obtain ⟨fs22, e1_, h⟩ := h
  refine mx_putF d_RM_init_63 (ci := 6) (k := 8) (q := mx_cl0_6) (ty := (.array .int)) rfl (Nat.le_of_ble_eq_true rfl) kw_239 rfl rfl rfl (by decide +kernel) rfl rfl (by omega) e1_ ?_
  obtain ⟨hs23, hg_⟩ : ∃ x_, x_ = mx_st hs21 l0 (6, fs22.set 8 (.ref hs20.2.1)) := ⟨_, rfl⟩
  replace h := h hs23 hg_
  rw [← hg_]
  clear hg_
  refine mx_aload_nR d_RM_init_66 rfl 0 rfl ?_
  refine mx_bipush (v := 12) d_RM_init_67 (by decide) ?_
  refine mx_newa d_RM_init_69 (k := 107) (ty := .boolean) (dv := .int 0) (N := 12) rfl rfl rfl (by decide) kw_234 (by decide) (by decide) (by decide) ?_
  obtain ⟨hs24, hg_⟩ : ∃ x_, x_ = mx_nw hs23 (107, List.replicate 12 (.int 0)) 12 := ⟨_, rfl⟩
  replace h := h hs24 hg_
  rw [← hg_]
  clear hg_
  obtain ⟨fs25, e1_, h⟩ := h
  refine mx_putF d_RM_init_71 (ci := 6) (k := 9) (q := mx_cl0_6) (ty := (.array .boolean)) rfl (Nat.le_of_ble_eq_true rfl) kw_240 rfl rfl rfl (by decide +kernel) rfl rfl (by omega) e1_ ?_
  obtain ⟨hs26, hg_⟩ : ∃ x_, x_ = mx_st hs24 l0 (6, fs25.set 9 (.ref hs23.2.1)) := ⟨_, rfl⟩
  replace h := h hs26 hg_
  rw [← hg_]
  clear hg_
  refine mx_aload_nR d_RM_init_74 rfl 0 rfl ?_
  refine mx_bipush (v := 12) d_RM_init_75 (by decide) ?_
  refine mx_newa d_RM_init_77 (k := 104) (ty := .int) (dv := .int 0) (N := 12) rfl rfl rfl (by decide) kw_90 (by decide) (by decide) (by decide) ?_
  obtain ⟨hs27, hg_⟩ : ∃ x_, x_ = mx_nw hs26 (104, List.replicate 12 (.int 0)) 12 := ⟨_, rfl⟩
  replace h := h hs27 hg_
  rw [← hg_]
  clear hg_
  obtain ⟨fs28, e1_, h⟩ := h
  refine mx_putF d_RM_init_79 (ci := 6) (k := 10) (q := mx_cl0_6) (ty := (.array .int)) rfl (Nat.le_of_ble_eq_true rfl) kw_241 rfl rfl rfl (by decide +kernel) rfl rfl (by omega) e1_ ?_
  obtain ⟨hs29, hg_⟩ : ∃ x_, x_ = mx_st hs27 l0 (6, fs28.set 10 (.ref hs26.2.1)) := ⟨_, rfl⟩
  replace h := h hs29 hg_
  rw [← hg_]
  clear hg_
  refine mx_aload_nR d_RM_init_82 rfl 0 rfl ?_
  refine mx_bipush (v := 100) d_RM_init_83 (by decide) ?_
  refine mx_newa d_RM_init_85 (k := 104) (ty := .int) (dv := .int 0) (N := 100) rfl rfl rfl (by decide) kw_90 (by decide) (by decide) (by decide) ?_
  obtain ⟨hs30, hg_⟩ : ∃ x_, x_ = mx_nw hs29 (104, List.replicate 100 (.int 0)) 100 := ⟨_, rfl⟩
  replace h := h hs30 hg_
  rw [← hg_]
  clear hg_
  obtain ⟨fs31, e1_, h⟩ := h
  refine mx_putF d_RM_init_87 (ci := 6) (k := 12) (q := mx_cl0_6) (ty := (.array .int)) rfl (Nat.le_of_ble_eq_true rfl) kw_242 rfl rfl rfl (by decide +kernel) rfl rfl (by omega) e1_ ?_
  obtain ⟨hs32, hg_⟩ : ∃ x_, x_ = mx_st hs30 l0 (6, fs31.set 12 (.ref hs29.2.1)) := ⟨_, rfl⟩
  replace h := h hs32 hg_
  rw [← hg_]
  clear hg_
  refine mx_aload_nR d_RM_init_90 rfl 0 rfl ?_
  refine mx_bipush (v := 100) d_RM_init_91 (by decide) ?_
  refine mx_newa d_RM_init_93 (k := 104) (ty := .int) (dv := .int 0) (N := 100) rfl rfl rfl (by decide) kw_90 (by decide) (by decide) (by decide) ?_
  obtain ⟨hs33, hg_⟩ : ∃ x_, x_ = mx_nw hs32 (104, List.replicate 100 (.int 0)) 100 := ⟨_, rfl⟩
  replace h := h hs33 hg_
  rw [← hg_]
  clear hg_
  obtain ⟨fs34, e1_, h⟩ := h
  refine mx_putF d_RM_init_95 (ci := 6) (k := 13) (q := mx_cl0_6) (ty := (.array .int)) rfl (Nat.le_of_ble_eq_true rfl) kw_243 rfl rfl rfl (by decide +kernel) rfl rfl (by omega) e1_ ?_
  obtain ⟨hs35, hg_⟩ : ∃ x_, x_ = mx_st hs33 l0 (6, fs34.set 13 (.ref hs32.2.1)) := ⟨_, rfl⟩
  replace h := h hs35 hg_
  rw [← hg_]
  clear hg_
  refine mx_aload_nR d_RM_init_98 rfl 0 rfl ?_
  refine mx_bipush (v := 100) d_RM_init_99 (by decide) ?_
  refine mx_newa d_RM_init_101 (k := 104) (ty := .int) (dv := .int 0) (N := 100) rfl rfl rfl (by decide) kw_90 (by decide) (by decide) (by decide) ?_
  obtain ⟨hs36, hg_⟩ : ∃ x_, x_ = mx_nw hs35 (104, List.replicate 100 (.int 0)) 100 := ⟨_, rfl⟩
  replace h := h hs36 hg_
  rw [← hg_]
  clear hg_
  obtain ⟨fs37, e1_, h⟩ := h
  refine mx_putF d_RM_init_103 (ci := 6) (k := 14) (q := mx_cl0_6) (ty := (.array .int)) rfl (Nat.le_of_ble_eq_true rfl) kw_244 rfl rfl rfl (by decide +kernel) rfl rfl (by omega) e1_ ?_
  obtain ⟨hs38, hg_⟩ : ∃ x_, x_ = mx_st hs36 l0 (6, fs37.set 14 (.ref hs35.2.1)) := ⟨_, rfl⟩
  replace h := h hs38 hg_
  rw [← hg_]
  clear hg_
  refine mx_aload_nR d_RM_init_106 rfl 0 rfl ?_
  refine mx_bipush (v := 100) d_RM_init_107 (by decide) ?_
  refine mx_newa d_RM_init_109 (k := 104) (ty := .int) (dv := .int 0) (N := 100) rfl rfl rfl (by decide) kw_90 (by decide) (by decide) (by decide) ?_
  obtain ⟨hs39, hg_⟩ : ∃ x_, x_ = mx_nw hs38 (104, List.replicate 100 (.int 0)) 100 := ⟨_, rfl⟩
  replace h := h hs39 hg_
  rw [← hg_]
  clear hg_
  obtain ⟨fs40, e1_, h⟩ := h
  refine mx_putF d_RM_init_111 (ci := 6) (k := 15) (q := mx_cl0_6) (ty := (.array .int)) rfl (Nat.le_of_ble_eq_true rfl) kw_245 rfl rfl rfl (by decide +kernel) rfl rfl (by omega) e1_ ?_
  obtain ⟨hs41, hg_⟩ : ∃ x_, x_ = mx_st hs39 l0 (6, fs40.set 15 (.ref hs38.2.1)) := ⟨_, rfl⟩
  replace h := h hs41 hg_
  rw [← hg_]
  clear hg_
  refine mx_aload_nR d_RM_init_114 rfl 0 rfl ?_
  refine mx_bipush (v := 100) d_RM_init_115 (by decide) ?_
  refine mx_newa d_RM_init_117 (k := 104) (ty := .int) (dv := .int 0) (N := 100) rfl rfl rfl (by decide) kw_90 (by decide) (by decide) (by decide) ?_
  obtain ⟨hs42, hg_⟩ : ∃ x_, x_ = mx_nw hs41 (104, List.replicate 100 (.int 0)) 100 := ⟨_, rfl⟩
  replace h := h hs42 hg_
  rw [← hg_]
  clear hg_
  obtain ⟨fs43, e1_, h⟩ := h
  refine mx_putF d_RM_init_119 (ci := 6) (k := 16) (q := mx_cl0_6) (ty := (.array .int)) rfl (Nat.le_of_ble_eq_true rfl) kw_246 rfl rfl rfl (by decide +kernel) rfl rfl (by omega) e1_ ?_
  obtain ⟨hs44, hg_⟩ : ∃ x_, x_ = mx_st hs42 l0 (6, fs43.set 16 (.ref hs41.2.1)) := ⟨_, rfl⟩
  replace h := h hs44 hg_
  rw [← hg_]
  clear hg_
  refine mx_aload_nR d_RM_init_122 rfl 0 rfl ?_
  refine mx_sipush (v := 400) d_RM_init_123 (by decide) ?_
  refine mx_newa d_RM_init_126 (k := 106) (ty := .long) (dv := .long 0) (N := 400) rfl rfl rfl (by decide) kw_136 (by decide) (by decide) (by decide) ?_
  obtain ⟨hs45, hg_⟩ : ∃ x_, x_ = mx_nw hs44 (106, List.replicate 400 (.long 0)) 400 := ⟨_, rfl⟩
  replace h := h hs45 hg_
  rw [← hg_]
  clear hg_
  obtain ⟨fs46, e1_, h⟩ := h
  refine mx_putF d_RM_init_128 (ci := 6) (k := 18) (q := mx_cl0_6) (ty := (.array .long)) rfl (Nat.le_of_ble_eq_true rfl) kw_247 rfl rfl rfl (by decide +kernel) rfl rfl (by omega) e1_ ?_
  obtain ⟨hs47, hg_⟩ : ∃ x_, x_ = mx_st hs45 l0 (6, fs46.set 18 (.ref hs44.2.1)) := ⟨_, rfl⟩
  replace h := h hs47 hg_
  rw [← hg_]
  clear hg_
  refine mx_aload_nR d_RM_init_131 rfl 0 rfl ?_
  refine mx_bipush (v := 31) d_RM_init_132 (by decide) ?_
  refine mx_newa d_RM_init_134 (k := 104) (ty := .int) (dv := .int 0) (N := 31) rfl rfl rfl (by decide) kw_90 (by decide) (by decide) (by decide) ?_
  obtain ⟨hs48, hg_⟩ : ∃ x_, x_ = mx_nw hs47 (104, List.replicate 31 (.int 0)) 31 := ⟨_, rfl⟩
  replace h := h hs48 hg_
  rw [← hg_]
  clear hg_
  obtain ⟨fs49, e1_, h⟩ := h
  refine mx_putF d_RM_init_136 (ci := 6) (k := 24) (q := mx_cl0_6) (ty := (.array .int)) rfl (Nat.le_of_ble_eq_true rfl) kw_248 rfl rfl rfl (by decide +kernel) rfl rfl (by omega) e1_ ?_
  obtain ⟨hs50, hg_⟩ : ∃ x_, x_ = mx_st hs48 l0 (6, fs49.set 24 (.ref hs47.2.1)) := ⟨_, rfl⟩
  replace h := h hs50 hg_
  rw [← hg_]
  clear hg_
  refine mx_aload_nR d_RM_init_139 rfl 0 rfl ?_
  refine mx_bipush (v := 31) d_RM_init_140 (by decide) ?_
  refine mx_newa d_RM_init_142 (k := 104) (ty := .int) (dv := .int 0) (N := 31) rfl rfl rfl (by decide) kw_90 (by decide) (by decide) (by decide) ?_
  obtain ⟨hs51, hg_⟩ : ∃ x_, x_ = mx_nw hs50 (104, List.replicate 31 (.int 0)) 31 := ⟨_, rfl⟩
  replace h := h hs51 hg_
  rw [← hg_]
  clear hg_
  obtain ⟨fs52, e1_, h⟩ := h
  refine mx_putF d_RM_init_144 (ci := 6) (k := 25) (q := mx_cl0_6) (ty := (.array .int)) rfl (Nat.le_of_ble_eq_true rfl) kw_249 rfl rfl rfl (by decide +kernel) rfl rfl (by omega) e1_ ?_
  obtain ⟨hs53, hg_⟩ : ∃ x_, x_ = mx_st hs51 l0 (6, fs52.set 25 (.ref hs50.2.1)) := ⟨_, rfl⟩
  replace h := h hs53 hg_
  rw [← hg_]
  clear hg_
  refine mx_aload_nR d_RM_init_147 rfl 0 rfl ?_
  refine mx_bipush (v := 124) d_RM_init_148 (by decide) ?_
  refine mx_newa d_RM_init_150 (k := 106) (ty := .long) (dv := .long 0) (N := 124) rfl rfl rfl (by decide) kw_136 (by decide) (by decide) (by decide) ?_
  obtain ⟨hs54, hg_⟩ : ∃ x_, x_ = mx_nw hs53 (106, List.replicate 124 (.long 0)) 124 := ⟨_, rfl⟩
  replace h := h hs54 hg_
  rw [← hg_]
  clear hg_
  obtain ⟨fs55, e1_, h⟩ := h
  refine mx_putF d_RM_init_152 (ci := 6) (k := 26) (q := mx_cl0_6) (ty := (.array .long)) rfl (Nat.le_of_ble_eq_true rfl) kw_250 rfl rfl rfl (by decide +kernel) rfl rfl (by omega) e1_ ?_
  obtain ⟨hs56, hg_⟩ : ∃ x_, x_ = mx_st hs54 l0 (6, fs55.set 26 (.ref hs53.2.1)) := ⟨_, rfl⟩
  replace h := h hs56 hg_
  rw [← hg_]
  clear hg_
  refine mx_aload_nR d_RM_init_155 rfl 0 rfl ?_
  refine mx_bipush (v := 31) d_RM_init_156 (by decide) ?_
  refine mx_newa d_RM_init_158 (k := 107) (ty := .boolean) (dv := .int 0) (N := 31) rfl rfl rfl (by decide) kw_234 (by decide) (by decide) (by decide) ?_
  obtain ⟨hs57, hg_⟩ : ∃ x_, x_ = mx_nw hs56 (107, List.replicate 31 (.int 0)) 31 := ⟨_, rfl⟩
  replace h := h hs57 hg_
  rw [← hg_]
  clear hg_
  obtain ⟨fs58, e1_, h⟩ := h
  refine mx_putF d_RM_init_160 (ci := 6) (k := 27) (q := mx_cl0_6) (ty := (.array .boolean)) rfl (Nat.le_of_ble_eq_true rfl) kw_251 rfl rfl rfl (by decide +kernel) rfl rfl (by omega) e1_ ?_
  obtain ⟨hs59, hg_⟩ : ∃ x_, x_ = mx_st hs57 l0 (6, fs58.set 27 (.ref hs56.2.1)) := ⟨_, rfl⟩
  replace h := h hs59 hg_
  rw [← hg_]
  clear hg_
  refine mx_aload_nR d_RM_init_163 rfl 0 rfl ?_
  refine mx_bipush (v := 31) d_RM_init_164 (by decide) ?_
  refine mx_newa d_RM_init_166 (k := 104) (ty := .int) (dv := .int 0) (N := 31) rfl rfl rfl (by decide) kw_90 (by decide) (by decide) (by decide) ?_
  obtain ⟨hs60, hg_⟩ : ∃ x_, x_ = mx_nw hs59 (104, List.replicate 31 (.int 0)) 31 := ⟨_, rfl⟩
  replace h := h hs60 hg_
  rw [← hg_]
  clear hg_
  obtain ⟨fs61, e1_, h⟩ := h
  refine mx_putF d_RM_init_168 (ci := 6) (k := 28) (q := mx_cl0_6) (ty := (.array .int)) rfl (Nat.le_of_ble_eq_true rfl) kw_252 rfl rfl rfl (by decide +kernel) rfl rfl (by omega) e1_ ?_
  obtain ⟨hs62, hg_⟩ : ∃ x_, x_ = mx_st hs60 l0 (6, fs61.set 28 (.ref hs59.2.1)) := ⟨_, rfl⟩
  replace h := h hs62 hg_
  rw [← hg_]
  clear hg_
  refine mx_aload_nR d_RM_init_171 rfl 0 rfl ?_
  refine mx_bipush (v := 31) d_RM_init_172 (by decide) ?_
  refine mx_newa d_RM_init_174 (k := 107) (ty := .boolean) (dv := .int 0) (N := 31) rfl rfl rfl (by decide) kw_234 (by decide) (by decide) (by decide) ?_
  obtain ⟨hs63, hg_⟩ : ∃ x_, x_ = mx_nw hs62 (107, List.replicate 31 (.int 0)) 31 := ⟨_, rfl⟩
  replace h := h hs63 hg_
  rw [← hg_]
  clear hg_
  obtain ⟨fs64, e1_, h⟩ := h
  refine mx_putF d_RM_init_176 (ci := 6) (k := 29) (q := mx_cl0_6) (ty := (.array .boolean)) rfl (Nat.le_of_ble_eq_true rfl) kw_253 rfl rfl rfl (by decide +kernel) rfl rfl (by omega) e1_ ?_
  obtain ⟨hs65, hg_⟩ : ∃ x_, x_ = mx_st hs63 l0 (6, fs64.set 29 (.ref hs62.2.1)) := ⟨_, rfl⟩
  replace h := h hs65 hg_
  rw [← hg_]
  clear hg_
  refine mx_aload_nR d_RM_init_179 rfl 0 rfl ?_
  refine mx_bipush (v := 31) d_RM_init_180 (by decide) ?_
  refine mx_newa d_RM_init_182 (k := 107) (ty := .boolean) (dv := .int 0) (N := 31) rfl rfl rfl (by decide) kw_234 (by decide) (by decide) (by decide) ?_
  obtain ⟨hs66, hg_⟩ : ∃ x_, x_ = mx_nw hs65 (107, List.replicate 31 (.int 0)) 31 := ⟨_, rfl⟩
  replace h := h hs66 hg_
  rw [← hg_]
  clear hg_
  obtain ⟨fs67, e1_, h⟩ := h
  refine mx_putF d_RM_init_184 (ci := 6) (k := 30) (q := mx_cl0_6) (ty := (.array .boolean)) rfl (Nat.le_of_ble_eq_true rfl) kw_254 rfl rfl rfl (by decide +kernel) rfl rfl (by omega) e1_ ?_
  obtain ⟨hs68, hg_⟩ : ∃ x_, x_ = mx_st hs66 l0 (6, fs67.set 30 (.ref hs65.2.1)) := ⟨_, rfl⟩
  replace h := h hs68 hg_
  rw [← hg_]
  clear hg_
  refine mx_aload_nR d_RM_init_187 rfl 0 rfl ?_
  refine mx_bipush (v := 10) d_RM_init_188 (by decide) ?_
  refine mx_newa d_RM_init_190 (k := 104) (ty := .int) (dv := .int 0) (N := 10) rfl rfl rfl (by decide) kw_90 (by decide) (by decide) (by decide) ?_
  obtain ⟨hs69, hg_⟩ : ∃ x_, x_ = mx_nw hs68 (104, List.replicate 10 (.int 0)) 10 := ⟨_, rfl⟩
  replace h := h hs69 hg_
  rw [← hg_]
  clear hg_
  obtain ⟨fs70, e1_, h⟩ := h
  refine mx_putF d_RM_init_192 (ci := 6) (k := 31) (q := mx_cl0_6) (ty := (.array .int)) rfl (Nat.le_of_ble_eq_true rfl) kw_255 rfl rfl rfl (by decide +kernel) rfl rfl (by omega) e1_ ?_
  obtain ⟨hs71, hg_⟩ : ∃ x_, x_ = mx_st hs69 l0 (6, fs70.set 31 (.ref hs68.2.1)) := ⟨_, rfl⟩
  replace h := h hs71 hg_
  rw [← hg_]
  clear hg_
  refine mx_aload_nR d_RM_init_195 rfl 0 rfl ?_
  refine mx_bipush (v := 32) d_RM_init_196 (by decide) ?_
  refine mx_newa d_RM_init_198 (k := 104) (ty := .int) (dv := .int 0) (N := 32) rfl rfl rfl (by decide) kw_90 (by decide) (by decide) (by decide) ?_
  obtain ⟨hs72, hg_⟩ : ∃ x_, x_ = mx_nw hs71 (104, List.replicate 32 (.int 0)) 32 := ⟨_, rfl⟩
  replace h := h hs72 hg_
  rw [← hg_]
  clear hg_
  obtain ⟨fs73, e1_, h⟩ := h
  refine mx_putF d_RM_init_200 (ci := 6) (k := 32) (q := mx_cl0_6) (ty := (.array .int)) rfl (Nat.le_of_ble_eq_true rfl) kw_256 rfl rfl rfl (by decide +kernel) rfl rfl (by omega) e1_ ?_
  obtain ⟨hs74, hg_⟩ : ∃ x_, x_ = mx_st hs72 l0 (6, fs73.set 32 (.ref hs71.2.1)) := ⟨_, rfl⟩
  replace h := h hs74 hg_
  rw [← hg_]
  clear hg_
  refine mx_aload_nR d_RM_init_203 rfl 0 rfl ?_
  refine mx_bipush (v := 32) d_RM_init_204 (by decide) ?_
  refine mx_newa d_RM_init_206 (k := 104) (ty := .int) (dv := .int 0) (N := 32) rfl rfl rfl (by decide) kw_90 (by decide) (by decide) (by decide) ?_
  obtain ⟨hs75, hg_⟩ : ∃ x_, x_ = mx_nw hs74 (104, List.replicate 32 (.int 0)) 32 := ⟨_, rfl⟩
  replace h := h hs75 hg_
  rw [← hg_]
  clear hg_
  obtain ⟨fs76, e1_, h⟩ := h
  refine mx_putF d_RM_init_208 (ci := 6) (k := 33) (q := mx_cl0_6) (ty := (.array .int)) rfl (Nat.le_of_ble_eq_true rfl) kw_257 rfl rfl rfl (by decide +kernel) rfl rfl (by omega) e1_ ?_
  obtain ⟨hs77, hg_⟩ : ∃ x_, x_ = mx_st hs75 l0 (6, fs76.set 33 (.ref hs74.2.1)) := ⟨_, rfl⟩
  replace h := h hs77 hg_
  rw [← hg_]
  clear hg_
  exact mx_return d_RM_init_211 rfl h
set_option maxRecDepth 100000 in
theorem wp_LW_law_0 {l : Launch} {G : mx_G} {d : Nat} {hs : mx_H} {Q : Option Value → mx_H → Prop} (l0 : Nat) (h : (∀ hs1 : mx_H, hs1 = mx_nw hs (0, [.null, .null, .null, .long 0, .int 0]) 5 → mx_C mx_S0 l G d mm_LB_init [.ref hs.2.1] hs1 (fun (r2 : Option Value) (hs3 : mx_H) => r2 = none ∧ (∀ hs4 : mx_H, hs4 = mx_nw hs3 (6, ri_0) 36 → mx_C mx_S0 l G d mm_RM_init [.ref hs3.2.1] hs4 (fun (r5 : Option Value) (hs6 : mx_H) => r5 = none ∧ mx_Ok mx_S0 l G (d + 1) mm_LW_law 18 [(0, .ref l0), (1, .ref hs.2.1), (2, .ref hs3.2.1), (3, .int 0)] [] hs6 Q))))) : mx_Ok mx_S0 l G (d + 1) mm_LW_law 0 [(0, .ref l0)] [] hs Q := by
  refine mx_new d_LW_law_0 (ci := 0) (q := mx_cl0_0) (fs := [.null, .null, .null, .long 0, .int 0]) (n := 5) rfl kw_343 kw_344 kw_345 rfl rfl mdf_0 ?_
  obtain ⟨hs1, hg_⟩ : ∃ x_, x_ = mx_nw hs (0, [.null, .null, .null, .long 0, .int 0]) 5 := ⟨_, rfl⟩
  replace h := h hs1 hg_
  rw [← hg_]
  clear hg_
  refine mx_dup d_LW_law_3 rfl ?_
  refine mx_invI (Y := mm_LB_init) (As := []) (rest := [.ref hs.2.1]) rfl d_LW_law_4.1 ok_LB_init kw_351 kw_352 rfl rfl rfl (Nat.le_of_ble_eq_true rfl) (Nat.le_of_ble_eq_true rfl) h (fun r2 hs3 h => ?_)
  obtain ⟨e9_, h⟩ := h
  subst e9_
  show mx_Ok mx_S0 l G (d + 1) mm_LW_law 7 [(0, .ref l0)] [.ref hs.2.1] hs3 Q
  refine mx_astore_n (lv2 := [(1, .ref hs.2.1), (0, .ref l0)]) d_LW_law_7 rfl (Nat.le_of_ble_eq_true rfl) rfl (Or.inr ⟨_, rfl⟩) ?_
  refine mx_new d_LW_law_8 (ci := 6) (q := mx_cl0_6) (fs := ri_0) (n := 36) rfl kw_346 kw_347 kw_348 rfl rfl mdf_6b ?_
  obtain ⟨hs4, hg_⟩ : ∃ x_, x_ = mx_nw hs3 (6, ri_0) 36 := ⟨_, rfl⟩
  replace h := h hs4 hg_
  rw [← hg_]
  clear hg_
  refine mx_dup d_LW_law_11 rfl ?_
  refine mx_invI (Y := mm_RM_init) (As := []) (rest := [.ref hs3.2.1]) rfl d_LW_law_12.1 ok_RM_init kw_349 kw_350 rfl rfl rfl (Nat.le_of_ble_eq_true rfl) (Nat.le_of_ble_eq_true rfl) h (fun r5 hs6 h => ?_)
  obtain ⟨e9_, h⟩ := h
  subst e9_
  show mx_Ok mx_S0 l G (d + 1) mm_LW_law 15 [(1, .ref hs.2.1), (0, .ref l0)] [.ref hs3.2.1] hs6 Q
  refine mx_astore_n (lv2 := [(2, .ref hs3.2.1), (1, .ref hs.2.1), (0, .ref l0)]) d_LW_law_15 rfl (Nat.le_of_ble_eq_true rfl) rfl (Or.inr ⟨_, rfl⟩) ?_
  refine mx_iconst (v := 0) d_LW_law_16 (by decide) ?_
  refine mx_istore_n (lv2 := [(3, .int 0), (2, .ref hs3.2.1), (1, .ref hs.2.1), (0, .ref l0)]) d_LW_law_17 rfl (Nat.le_of_ble_eq_true rfl) rfl ?_
  exact mx_sub [3, 2, 1, 0] rfl h
set_option maxRecDepth 100000 in
theorem wp_LW_law_18 {l : Launch} {G : mx_G} {d : Nat} {hs : mx_H} {Q : Option Value → mx_H → Prop} (l0 : Nat) (l1 : Nat) (l2 : Nat) (l3 : Int32) (h : (∃ vs1 : List Value, hs.1 l0 = some (101, vs1) ∧ ((((Int32.ofNat vs1.length) - 3) < l3 → Q (some (.int 1)) hs) ∧ (¬ (((Int32.ofNat vs1.length) - 3) < l3) → (∃ (vs2 : List Value) (x3 : Int32), hs.1 l0 = some (101, vs2) ∧ ¬ l3 < 0 ∧ vs2[Int32.toNatClampNeg l3]? = some (.int x3) ∧ (((x3 &&& 15) = 0 → mx_Ok mx_S0 l G (d + 1) mm_LW_law 104 [(0, .ref l0), (1, .ref l1), (2, .ref l2), (3, .int l3)] [] hs Q) ∧ ((x3 &&& 15) = 1 → mx_Ok mx_S0 l G (d + 1) mm_LW_law 127 [(0, .ref l0), (1, .ref l1), (2, .ref l2), (3, .int l3)] [] hs Q) ∧ ((x3 &&& 15) = 2 → mx_Ok mx_S0 l G (d + 1) mm_LW_law 180 [(0, .ref l0), (1, .ref l1), (2, .ref l2), (3, .int l3)] [] hs Q) ∧ ((x3 &&& 15) = 3 → mx_Ok mx_S0 l G (d + 1) mm_LW_law 203 [(0, .ref l0), (1, .ref l1), (2, .ref l2), (3, .int l3)] [] hs Q) ∧ ((x3 &&& 15) = 4 → mx_Ok mx_S0 l G (d + 1) mm_LW_law 226 [(0, .ref l0), (1, .ref l1), (2, .ref l2), (3, .int l3)] [] hs Q) ∧ ((x3 &&& 15) = 5 → mx_Ok mx_S0 l G (d + 1) mm_LW_law 249 [(0, .ref l0), (1, .ref l1), (2, .ref l2), (3, .int l3)] [] hs Q) ∧ ((x3 &&& 15) = 6 → mx_Ok mx_S0 l G (d + 1) mm_LW_law 262 [(0, .ref l0), (1, .ref l1), (2, .ref l2), (3, .int l3)] [] hs Q) ∧ ((x3 &&& 15) = 7 → mx_Ok mx_S0 l G (d + 1) mm_LW_law 286 [(0, .ref l0), (1, .ref l1), (2, .ref l2), (3, .int l3)] [] hs Q) ∧ ((x3 &&& 15) = 8 → mx_Ok mx_S0 l G (d + 1) mm_LW_law 319 [(0, .ref l0), (1, .ref l1), (2, .ref l2), (3, .int l3)] [] hs Q) ∧ ((x3 &&& 15) = 9 → mx_Ok mx_S0 l G (d + 1) mm_LW_law 342 [(0, .ref l0), (1, .ref l1), (2, .ref l2), (3, .int l3)] [] hs Q) ∧ ((x3 &&& 15) = 10 → mx_Ok mx_S0 l G (d + 1) mm_LW_law 391 [(0, .ref l0), (1, .ref l1), (2, .ref l2), (3, .int l3)] [] hs Q) ∧ ((x3 &&& 15) = 11 → mx_Ok mx_S0 l G (d + 1) mm_LW_law 404 [(0, .ref l0), (1, .ref l1), (2, .ref l2), (3, .int l3)] [] hs Q) ∧ ((x3 &&& 15) = 12 → mx_Ok mx_S0 l G (d + 1) mm_LW_law 438 [(0, .ref l0), (1, .ref l1), (2, .ref l2), (3, .int l3)] [] hs Q) ∧ ((x3 &&& 15) = 13 → mx_Ok mx_S0 l G (d + 1) mm_LW_law 471 [(0, .ref l0), (1, .ref l1), (2, .ref l2), (3, .int l3)] [] hs Q) ∧ (¬ (x3 &&& 15) = 0 → ¬ (x3 &&& 15) = 1 → ¬ (x3 &&& 15) = 2 → ¬ (x3 &&& 15) = 3 → ¬ (x3 &&& 15) = 4 → ¬ (x3 &&& 15) = 5 → ¬ (x3 &&& 15) = 6 → ¬ (x3 &&& 15) = 7 → ¬ (x3 &&& 15) = 8 → ¬ (x3 &&& 15) = 9 → ¬ (x3 &&& 15) = 10 → ¬ (x3 &&& 15) = 11 → ¬ (x3 &&& 15) = 12 → ¬ (x3 &&& 15) = 13 → mx_Ok mx_S0 l G (d + 1) mm_LW_law 494 [(0, .ref l0), (1, .ref l1), (2, .ref l2), (3, .int l3)] [] hs Q))))))) : mx_Ok mx_S0 l G (d + 1) mm_LW_law 18 [(0, .ref l0), (1, .ref l1), (2, .ref l2), (3, .int l3)] [] hs Q := by
  refine mx_iload_n d_LW_law_18 rfl 3 rfl ?_
  refine mx_aload_nR d_LW_law_19 rfl 0 rfl ?_
  obtain ⟨vs1, e1_, h⟩ := h
  refine mx_alen d_LW_law_20 (k := 101) rfl e1_ ?_
  refine mx_iconst (v := 3) d_LW_law_21 (by decide) ?_
  refine mx_isub d_LW_law_22 ?_
  refine mx_icmp_gt d_LW_law_23 (fun c9 => ?_) (fun c9 => ?_)
  · replace h := h.1 c9
    refine mx_iconst (v := 1) d_LW_law_500 (by decide) ?_
    exact mx_ireturn d_LW_law_501 rfl (mx_nz (Or.inr rfl)) h
  · replace h := h.2 c9
    refine mx_aload_nR d_LW_law_26 rfl 0 rfl ?_
    refine mx_iload_n d_LW_law_27 rfl 3 rfl ?_
    obtain ⟨vs2, x3, e1_, e2_, e3_, h⟩ := h
    refine mx_iald d_LW_law_28 (k := 101) rfl e1_ e2_ e3_ ?_
    refine mx_bipush (v := 15) d_LW_law_29 (by decide) ?_
    refine mx_iand d_LW_law_31 ?_
    by_cases c0_ : (x3 &&& 15) = 0
    · replace h := h.1 c0_
      refine mx_tableIn d_LW_law_32 (by rw [c0_]; decide) (by rw [c0_]; decide) (o := 72) (by rw [c0_]; decide) (tgt := 104) (by decide) ?_
      exact mx_sub [0, 1, 2, 3] rfl h
    by_cases c1_ : (x3 &&& 15) = 1
    · replace h := h.2.1 c1_
      refine mx_tableIn d_LW_law_32 (by rw [c1_]; decide) (by rw [c1_]; decide) (o := 95) (by rw [c1_]; decide) (tgt := 127) (by decide) ?_
      exact mx_sub [0, 1, 2, 3] rfl h
    by_cases c2_ : (x3 &&& 15) = 2
    · replace h := h.2.2.1 c2_
      refine mx_tableIn d_LW_law_32 (by rw [c2_]; decide) (by rw [c2_]; decide) (o := 148) (by rw [c2_]; decide) (tgt := 180) (by decide) ?_
      exact mx_sub [0, 1, 2, 3] rfl h
    by_cases c3_ : (x3 &&& 15) = 3
    · replace h := h.2.2.2.1 c3_
      refine mx_tableIn d_LW_law_32 (by rw [c3_]; decide) (by rw [c3_]; decide) (o := 171) (by rw [c3_]; decide) (tgt := 203) (by decide) ?_
      exact mx_sub [0, 1, 2, 3] rfl h
    by_cases c4_ : (x3 &&& 15) = 4
    · replace h := h.2.2.2.2.1 c4_
      refine mx_tableIn d_LW_law_32 (by rw [c4_]; decide) (by rw [c4_]; decide) (o := 194) (by rw [c4_]; decide) (tgt := 226) (by decide) ?_
      exact mx_sub [0, 1, 2, 3] rfl h
    by_cases c5_ : (x3 &&& 15) = 5
    · replace h := h.2.2.2.2.2.1 c5_
      refine mx_tableIn d_LW_law_32 (by rw [c5_]; decide) (by rw [c5_]; decide) (o := 217) (by rw [c5_]; decide) (tgt := 249) (by decide) ?_
      exact mx_sub [0, 1, 2, 3] rfl h
    by_cases c6_ : (x3 &&& 15) = 6
    · replace h := h.2.2.2.2.2.2.1 c6_
      refine mx_tableIn d_LW_law_32 (by rw [c6_]; decide) (by rw [c6_]; decide) (o := 230) (by rw [c6_]; decide) (tgt := 262) (by decide) ?_
      exact mx_sub [0, 1, 2, 3] rfl h
    by_cases c7_ : (x3 &&& 15) = 7
    · replace h := h.2.2.2.2.2.2.2.1 c7_
      refine mx_tableIn d_LW_law_32 (by rw [c7_]; decide) (by rw [c7_]; decide) (o := 254) (by rw [c7_]; decide) (tgt := 286) (by decide) ?_
      exact mx_sub [0, 1, 2, 3] rfl h
    by_cases c8_ : (x3 &&& 15) = 8
    · replace h := h.2.2.2.2.2.2.2.2.1 c8_
      refine mx_tableIn d_LW_law_32 (by rw [c8_]; decide) (by rw [c8_]; decide) (o := 287) (by rw [c8_]; decide) (tgt := 319) (by decide) ?_
      exact mx_sub [0, 1, 2, 3] rfl h
    by_cases c9_ : (x3 &&& 15) = 9
    · replace h := h.2.2.2.2.2.2.2.2.2.1 c9_
      refine mx_tableIn d_LW_law_32 (by rw [c9_]; decide) (by rw [c9_]; decide) (o := 310) (by rw [c9_]; decide) (tgt := 342) (by decide) ?_
      exact mx_sub [0, 1, 2, 3] rfl h
    by_cases c10_ : (x3 &&& 15) = 10
    · replace h := h.2.2.2.2.2.2.2.2.2.2.1 c10_
      refine mx_tableIn d_LW_law_32 (by rw [c10_]; decide) (by rw [c10_]; decide) (o := 359) (by rw [c10_]; decide) (tgt := 391) (by decide) ?_
      exact mx_sub [0, 1, 2, 3] rfl h
    by_cases c11_ : (x3 &&& 15) = 11
    · replace h := h.2.2.2.2.2.2.2.2.2.2.2.1 c11_
      refine mx_tableIn d_LW_law_32 (by rw [c11_]; decide) (by rw [c11_]; decide) (o := 372) (by rw [c11_]; decide) (tgt := 404) (by decide) ?_
      exact mx_sub [0, 1, 2, 3] rfl h
    by_cases c12_ : (x3 &&& 15) = 12
    · replace h := h.2.2.2.2.2.2.2.2.2.2.2.2.1 c12_
      refine mx_tableIn d_LW_law_32 (by rw [c12_]; decide) (by rw [c12_]; decide) (o := 406) (by rw [c12_]; decide) (tgt := 438) (by decide) ?_
      exact mx_sub [0, 1, 2, 3] rfl h
    by_cases c13_ : (x3 &&& 15) = 13
    · replace h := h.2.2.2.2.2.2.2.2.2.2.2.2.2.1 c13_
      refine mx_tableIn d_LW_law_32 (by rw [c13_]; decide) (by rw [c13_]; decide) (o := 439) (by rw [c13_]; decide) (tgt := 471) (by decide) ?_
      exact mx_sub [0, 1, 2, 3] rfl h
    replace h := h.2.2.2.2.2.2.2.2.2.2.2.2.2.2 c0_ c1_ c2_ c3_ c4_ c5_ c6_ c7_ c8_ c9_ c10_ c11_ c12_ c13_
    have z0_ := lv_neT c0_ (a := 0) (by decide)
    have z1_ := lv_neT c1_ (a := 1) (by decide)
    have z2_ := lv_neT c2_ (a := 2) (by decide)
    have z3_ := lv_neT c3_ (a := 3) (by decide)
    have z4_ := lv_neT c4_ (a := 4) (by decide)
    have z5_ := lv_neT c5_ (a := 5) (by decide)
    have z6_ := lv_neT c6_ (a := 6) (by decide)
    have z7_ := lv_neT c7_ (a := 7) (by decide)
    have z8_ := lv_neT c8_ (a := 8) (by decide)
    have z9_ := lv_neT c9_ (a := 9) (by decide)
    have z10_ := lv_neT c10_ (a := 10) (by decide)
    have z11_ := lv_neT c11_ (a := 11) (by decide)
    have z12_ := lv_neT c12_ (a := 12) (by decide)
    have z13_ := lv_neT c13_ (a := 13) (by decide)
    refine mx_tableOut d_LW_law_32 (by omega) (tgt := 494) (by decide) ?_
    exact mx_sub [0, 1, 2, 3] rfl h
set_option maxRecDepth 100000 in
theorem wp_LW_law_104 {l : Launch} {G : mx_G} {d : Nat} {hs : mx_H} {Q : Option Value → mx_H → Prop} (l0 : Nat) (l1 : Nat) (l2 : Nat) (l3 : Int32) (h : (∃ (vs1 : List Value) (x2 : Int32), hs.1 l0 = some (101, vs1) ∧ ¬ (l3 + 1) < 0 ∧ vs1[Int32.toNatClampNeg (l3 + 1)]? = some (.int x2) ∧ ((∃ fs12 : List Value, hs.1 l1 = some (0, fs12)) ∧ mx_C mx_S0 l G d mm_LB_type [.ref l1, .int x2] hs (fun (r3 : Option Value) (hs4 : mx_H) => ∃ x5 : Int32, r3 = some (.int x5) ∧ (∃ (vs6 : List Value) (x7 : Int32), hs4.1 l0 = some (101, vs6) ∧ ¬ (l3 + 1) < 0 ∧ vs6[Int32.toNatClampNeg (l3 + 1)]? = some (.int x7) ∧ ((∃ fs11 : List Value, hs4.1 l2 = some (6, fs11)) ∧ mx_C mx_S0 l G d mm_RM_type [.ref l2, .int x7] hs4 (fun (r8 : Option Value) (hs9 : mx_H) => ∃ x10 : Int32, r8 = some (.int x10) ∧ ((x5 = x10 → mx_Ok mx_S0 l G (d + 1) mm_LW_law 494 [(0, .ref l0), (1, .ref l1), (2, .ref l2), (3, .int l3)] [] hs9 Q) ∧ (¬ (x5 = x10) → Q (some (.int 0)) hs9))))))))) : mx_Ok mx_S0 l G (d + 1) mm_LW_law 104 [(0, .ref l0), (1, .ref l1), (2, .ref l2), (3, .int l3)] [] hs Q := by
  refine mx_aload_nR d_LW_law_104 rfl 1 rfl ?_
  refine mx_aload_nR d_LW_law_105 rfl 0 rfl ?_
  refine mx_iload_n d_LW_law_106 rfl 3 rfl ?_
  refine mx_iconst (v := 1) d_LW_law_107 (by decide) ?_
  refine mx_iadd d_LW_law_108 ?_
  obtain ⟨vs1, x2, e1_, e2_, e3_, h⟩ := h
  refine mx_iald d_LW_law_109 (k := 101) rfl e1_ e2_ e3_ ?_
  obtain ⟨⟨fs12, e1_⟩, h⟩ := h
  refine mx_invV (Y := mm_LB_type) (As := [.int x2]) (rest := []) d_LW_law_110.1 ok_LB_type kw_354 kw_355 kw_356 rfl rfl (Nat.le_of_ble_eq_true rfl) (Nat.le_of_ble_eq_true rfl) e1_ (q := mx_cl0_0) rfl rfl h (fun r3 hs4 h => ?_)
  obtain ⟨x5, e9_, h⟩ := h
  subst e9_
  show mx_Ok mx_S0 l G (d + 1) mm_LW_law 113 [(0, .ref l0), (1, .ref l1), (2, .ref l2), (3, .int l3)] [.int x5] hs4 Q
  refine mx_aload_nR d_LW_law_113 rfl 2 rfl ?_
  refine mx_aload_nR d_LW_law_114 rfl 0 rfl ?_
  refine mx_iload_n d_LW_law_115 rfl 3 rfl ?_
  refine mx_iconst (v := 1) d_LW_law_116 (by decide) ?_
  refine mx_iadd d_LW_law_117 ?_
  obtain ⟨vs6, x7, e1_, e2_, e3_, h⟩ := h
  refine mx_iald d_LW_law_118 (k := 101) rfl e1_ e2_ e3_ ?_
  obtain ⟨⟨fs11, e1_⟩, h⟩ := h
  refine mx_invV (Y := mm_RM_type) (As := [.int x7]) (rest := [.int x5]) d_LW_law_119.1 ok_RM_type kw_353 kw_268 kw_269 rfl rfl (Nat.le_of_ble_eq_true rfl) (Nat.le_of_ble_eq_true rfl) e1_ (q := mx_cl0_6) rfl rfl h (fun r8 hs9 h => ?_)
  obtain ⟨x10, e9_, h⟩ := h
  subst e9_
  show mx_Ok mx_S0 l G (d + 1) mm_LW_law 122 [(0, .ref l0), (1, .ref l1), (2, .ref l2), (3, .int l3)] [.int x10, .int x5] hs9 Q
  refine mx_icmp_eq d_LW_law_122 (fun c9 => ?_) (fun c9 => ?_)
  · replace h := h.1 c9
    exact mx_sub [0, 1, 2, 3] rfl h
  · replace h := h.2 c9
    refine mx_iconst (v := 0) d_LW_law_125 (by decide) ?_
    exact mx_ireturn d_LW_law_126 rfl (mx_nz (Or.inl rfl)) h
set_option maxRecDepth 100000 in
theorem wp_LW_law_127 {l : Launch} {G : mx_G} {d : Nat} {hs : mx_H} {Q : Option Value → mx_H → Prop} (l0 : Nat) (l1 : Nat) (l2 : Nat) (l3 : Int32) (h : (∃ (vs1 : List Value) (x2 : Int32), hs.1 l0 = some (101, vs1) ∧ ¬ (l3 + 1) < 0 ∧ vs1[Int32.toNatClampNeg (l3 + 1)]? = some (.int x2) ∧ (∃ (vs3 : List Value) (x4 : Int32), hs.1 l0 = some (101, vs3) ∧ ¬ (l3 + 2) < 0 ∧ vs3[Int32.toNatClampNeg (l3 + 2)]? = some (.int x4) ∧ ((∃ fs16 : List Value, hs.1 l1 = some (0, fs16)) ∧ mx_C mx_S0 l G d mm_LB_types [.ref l1, .long (((Int32.toInt64 x2) <<< (Int32.toInt64 32 &&& 63)) ||| ((Int32.toInt64 x4) &&& 4294967295))] hs (fun (r5 : Option Value) (hs6 : mx_H) => ∃ x7 : Int32, r5 = some (.int x7) ∧ (∃ (vs8 : List Value) (x9 : Int32), hs6.1 l0 = some (101, vs8) ∧ ¬ (l3 + 1) < 0 ∧ vs8[Int32.toNatClampNeg (l3 + 1)]? = some (.int x9) ∧ (∃ (vs10 : List Value) (x11 : Int32), hs6.1 l0 = some (101, vs10) ∧ ¬ (l3 + 2) < 0 ∧ vs10[Int32.toNatClampNeg (l3 + 2)]? = some (.int x11) ∧ ((∃ fs15 : List Value, hs6.1 l2 = some (6, fs15)) ∧ mx_C mx_S0 l G d mm_RM_types [.ref l2, .long (((Int32.toInt64 x9) <<< (Int32.toInt64 32 &&& 63)) ||| ((Int32.toInt64 x11) &&& 4294967295))] hs6 (fun (r12 : Option Value) (hs13 : mx_H) => ∃ x14 : Int32, r12 = some (.int x14) ∧ ((x7 = x14 → mx_Ok mx_S0 l G (d + 1) mm_LW_law 494 [(0, .ref l0), (1, .ref l1), (2, .ref l2), (3, .int l3)] [] hs13 Q) ∧ (¬ (x7 = x14) → Q (some (.int 0)) hs13))))))))))) : mx_Ok mx_S0 l G (d + 1) mm_LW_law 127 [(0, .ref l0), (1, .ref l1), (2, .ref l2), (3, .int l3)] [] hs Q := by
  refine mx_aload_nR d_LW_law_127 rfl 1 rfl ?_
  refine mx_aload_nR d_LW_law_128 rfl 0 rfl ?_
  refine mx_iload_n d_LW_law_129 rfl 3 rfl ?_
  refine mx_iconst (v := 1) d_LW_law_130 (by decide) ?_
  refine mx_iadd d_LW_law_131 ?_
  obtain ⟨vs1, x2, e1_, e2_, e3_, h⟩ := h
  refine mx_iald d_LW_law_132 (k := 101) rfl e1_ e2_ e3_ ?_
  refine mx_i2l d_LW_law_133 ?_
  refine mx_bipush (v := 32) d_LW_law_134 (by decide) ?_
  refine mx_lshl d_LW_law_136 ?_
  refine mx_aload_nR d_LW_law_137 rfl 0 rfl ?_
  refine mx_iload_n d_LW_law_138 rfl 3 rfl ?_
  refine mx_iconst (v := 2) d_LW_law_139 (by decide) ?_
  refine mx_iadd d_LW_law_140 ?_
  obtain ⟨vs3, x4, e1_, e2_, e3_, h⟩ := h
  refine mx_iald d_LW_law_141 (k := 101) rfl e1_ e2_ e3_ ?_
  refine mx_i2l d_LW_law_142 ?_
  refine mx_ldc2 (v := 4294967295) d_LW_law_143 kw_357 ?_
  refine mx_land d_LW_law_146 ?_
  refine mx_lor d_LW_law_147 ?_
  obtain ⟨⟨fs16, e1_⟩, h⟩ := h
  refine mx_invV (Y := mm_LB_types) (As := [.long (((Int32.toInt64 x2) <<< (Int32.toInt64 32 &&& 63)) ||| ((Int32.toInt64 x4) &&& 4294967295))]) (rest := []) d_LW_law_148.1 ok_LB_types kw_361 kw_362 kw_363 rfl rfl (Nat.le_of_ble_eq_true rfl) (Nat.le_of_ble_eq_true rfl) e1_ (q := mx_cl0_0) rfl rfl h (fun r5 hs6 h => ?_)
  obtain ⟨x7, e9_, h⟩ := h
  subst e9_
  show mx_Ok mx_S0 l G (d + 1) mm_LW_law 151 [(0, .ref l0), (1, .ref l1), (2, .ref l2), (3, .int l3)] [.int x7] hs6 Q
  refine mx_aload_nR d_LW_law_151 rfl 2 rfl ?_
  refine mx_aload_nR d_LW_law_152 rfl 0 rfl ?_
  refine mx_iload_n d_LW_law_153 rfl 3 rfl ?_
  refine mx_iconst (v := 1) d_LW_law_154 (by decide) ?_
  refine mx_iadd d_LW_law_155 ?_
  obtain ⟨vs8, x9, e1_, e2_, e3_, h⟩ := h
  refine mx_iald d_LW_law_156 (k := 101) rfl e1_ e2_ e3_ ?_
  refine mx_i2l d_LW_law_157 ?_
  refine mx_bipush (v := 32) d_LW_law_158 (by decide) ?_
  refine mx_lshl d_LW_law_160 ?_
  refine mx_aload_nR d_LW_law_161 rfl 0 rfl ?_
  refine mx_iload_n d_LW_law_162 rfl 3 rfl ?_
  refine mx_iconst (v := 2) d_LW_law_163 (by decide) ?_
  refine mx_iadd d_LW_law_164 ?_
  obtain ⟨vs10, x11, e1_, e2_, e3_, h⟩ := h
  refine mx_iald d_LW_law_165 (k := 101) rfl e1_ e2_ e3_ ?_
  refine mx_i2l d_LW_law_166 ?_
  refine mx_ldc2 (v := 4294967295) d_LW_law_167 kw_357 ?_
  refine mx_land d_LW_law_170 ?_
  refine mx_lor d_LW_law_171 ?_
  obtain ⟨⟨fs15, e1_⟩, h⟩ := h
  refine mx_invV (Y := mm_RM_types) (As := [.long (((Int32.toInt64 x9) <<< (Int32.toInt64 32 &&& 63)) ||| ((Int32.toInt64 x11) &&& 4294967295))]) (rest := [.int x7]) d_LW_law_172.1 ok_RM_types kw_358 kw_359 kw_360 rfl rfl (Nat.le_of_ble_eq_true rfl) (Nat.le_of_ble_eq_true rfl) e1_ (q := mx_cl0_6) rfl rfl h (fun r12 hs13 h => ?_)
  obtain ⟨x14, e9_, h⟩ := h
  subst e9_
  show mx_Ok mx_S0 l G (d + 1) mm_LW_law 175 [(0, .ref l0), (1, .ref l1), (2, .ref l2), (3, .int l3)] [.int x14, .int x7] hs13 Q
  refine mx_icmp_eq d_LW_law_175 (fun c9 => ?_) (fun c9 => ?_)
  · replace h := h.1 c9
    exact mx_sub [0, 1, 2, 3] rfl h
  · replace h := h.2 c9
    refine mx_iconst (v := 0) d_LW_law_178 (by decide) ?_
    exact mx_ireturn d_LW_law_179 rfl (mx_nz (Or.inl rfl)) h
set_option maxRecDepth 100000 in
theorem wp_LW_law_180 {l : Launch} {G : mx_G} {d : Nat} {hs : mx_H} {Q : Option Value → mx_H → Prop} (l0 : Nat) (l1 : Nat) (l2 : Nat) (l3 : Int32) (h : (∃ (vs1 : List Value) (x2 : Int32), hs.1 l0 = some (101, vs1) ∧ ¬ (l3 + 1) < 0 ∧ vs1[Int32.toNatClampNeg (l3 + 1)]? = some (.int x2) ∧ ((∃ fs12 : List Value, hs.1 l1 = some (0, fs12)) ∧ mx_C mx_S0 l G d mm_LB_define [.ref l1, .int x2] hs (fun (r3 : Option Value) (hs4 : mx_H) => ∃ x5 : Int32, r3 = some (.int x5) ∧ (∃ (vs6 : List Value) (x7 : Int32), hs4.1 l0 = some (101, vs6) ∧ ¬ (l3 + 1) < 0 ∧ vs6[Int32.toNatClampNeg (l3 + 1)]? = some (.int x7) ∧ ((∃ fs11 : List Value, hs4.1 l2 = some (6, fs11)) ∧ mx_C mx_S0 l G d mm_RM_define [.ref l2, .int x7] hs4 (fun (r8 : Option Value) (hs9 : mx_H) => ∃ x10 : Int32, r8 = some (.int x10) ∧ ((x5 = x10 → mx_Ok mx_S0 l G (d + 1) mm_LW_law 494 [(0, .ref l0), (1, .ref l1), (2, .ref l2), (3, .int l3)] [] hs9 Q) ∧ (¬ (x5 = x10) → Q (some (.int 0)) hs9))))))))) : mx_Ok mx_S0 l G (d + 1) mm_LW_law 180 [(0, .ref l0), (1, .ref l1), (2, .ref l2), (3, .int l3)] [] hs Q := by
  refine mx_aload_nR d_LW_law_180 rfl 1 rfl ?_
  refine mx_aload_nR d_LW_law_181 rfl 0 rfl ?_
  refine mx_iload_n d_LW_law_182 rfl 3 rfl ?_
  refine mx_iconst (v := 1) d_LW_law_183 (by decide) ?_
  refine mx_iadd d_LW_law_184 ?_
  obtain ⟨vs1, x2, e1_, e2_, e3_, h⟩ := h
  refine mx_iald d_LW_law_185 (k := 101) rfl e1_ e2_ e3_ ?_
  obtain ⟨⟨fs12, e1_⟩, h⟩ := h
  refine mx_invV (Y := mm_LB_define) (As := [.int x2]) (rest := []) d_LW_law_186.1 ok_LB_define kw_367 kw_368 kw_369 rfl rfl (Nat.le_of_ble_eq_true rfl) (Nat.le_of_ble_eq_true rfl) e1_ (q := mx_cl0_0) rfl rfl h (fun r3 hs4 h => ?_)
  obtain ⟨x5, e9_, h⟩ := h
  subst e9_
  show mx_Ok mx_S0 l G (d + 1) mm_LW_law 189 [(0, .ref l0), (1, .ref l1), (2, .ref l2), (3, .int l3)] [.int x5] hs4 Q
  refine mx_aload_nR d_LW_law_189 rfl 2 rfl ?_
  refine mx_aload_nR d_LW_law_190 rfl 0 rfl ?_
  refine mx_iload_n d_LW_law_191 rfl 3 rfl ?_
  refine mx_iconst (v := 1) d_LW_law_192 (by decide) ?_
  refine mx_iadd d_LW_law_193 ?_
  obtain ⟨vs6, x7, e1_, e2_, e3_, h⟩ := h
  refine mx_iald d_LW_law_194 (k := 101) rfl e1_ e2_ e3_ ?_
  obtain ⟨⟨fs11, e1_⟩, h⟩ := h
  refine mx_invV (Y := mm_RM_define) (As := [.int x7]) (rest := [.int x5]) d_LW_law_195.1 ok_RM_define kw_364 kw_365 kw_366 rfl rfl (Nat.le_of_ble_eq_true rfl) (Nat.le_of_ble_eq_true rfl) e1_ (q := mx_cl0_6) rfl rfl h (fun r8 hs9 h => ?_)
  obtain ⟨x10, e9_, h⟩ := h
  subst e9_
  show mx_Ok mx_S0 l G (d + 1) mm_LW_law 198 [(0, .ref l0), (1, .ref l1), (2, .ref l2), (3, .int l3)] [.int x10, .int x5] hs9 Q
  refine mx_icmp_eq d_LW_law_198 (fun c9 => ?_) (fun c9 => ?_)
  · replace h := h.1 c9
    exact mx_sub [0, 1, 2, 3] rfl h
  · replace h := h.2 c9
    refine mx_iconst (v := 0) d_LW_law_201 (by decide) ?_
    exact mx_ireturn d_LW_law_202 rfl (mx_nz (Or.inl rfl)) h
set_option maxRecDepth 100000 in
theorem wp_LW_law_203 {l : Launch} {G : mx_G} {d : Nat} {hs : mx_H} {Q : Option Value → mx_H → Prop} (l0 : Nat) (l1 : Nat) (l2 : Nat) (l3 : Int32) (h : (∃ (vs1 : List Value) (x2 : Int32), hs.1 l0 = some (101, vs1) ∧ ¬ (l3 + 1) < 0 ∧ vs1[Int32.toNatClampNeg (l3 + 1)]? = some (.int x2) ∧ ((∃ fs12 : List Value, hs.1 l1 = some (0, fs12)) ∧ mx_C mx_S0 l G d mm_LB_undefine [.ref l1, .int x2] hs (fun (r3 : Option Value) (hs4 : mx_H) => ∃ x5 : Int32, r3 = some (.int x5) ∧ (∃ (vs6 : List Value) (x7 : Int32), hs4.1 l0 = some (101, vs6) ∧ ¬ (l3 + 1) < 0 ∧ vs6[Int32.toNatClampNeg (l3 + 1)]? = some (.int x7) ∧ ((∃ fs11 : List Value, hs4.1 l2 = some (6, fs11)) ∧ mx_C mx_S0 l G d mm_RM_undefine [.ref l2, .int x7] hs4 (fun (r8 : Option Value) (hs9 : mx_H) => ∃ x10 : Int32, r8 = some (.int x10) ∧ ((x5 = x10 → mx_Ok mx_S0 l G (d + 1) mm_LW_law 494 [(0, .ref l0), (1, .ref l1), (2, .ref l2), (3, .int l3)] [] hs9 Q) ∧ (¬ (x5 = x10) → Q (some (.int 0)) hs9))))))))) : mx_Ok mx_S0 l G (d + 1) mm_LW_law 203 [(0, .ref l0), (1, .ref l1), (2, .ref l2), (3, .int l3)] [] hs Q := by
  refine mx_aload_nR d_LW_law_203 rfl 1 rfl ?_
  refine mx_aload_nR d_LW_law_204 rfl 0 rfl ?_
  refine mx_iload_n d_LW_law_205 rfl 3 rfl ?_
  refine mx_iconst (v := 1) d_LW_law_206 (by decide) ?_
  refine mx_iadd d_LW_law_207 ?_
  obtain ⟨vs1, x2, e1_, e2_, e3_, h⟩ := h
  refine mx_iald d_LW_law_208 (k := 101) rfl e1_ e2_ e3_ ?_
  obtain ⟨⟨fs12, e1_⟩, h⟩ := h
  refine mx_invV (Y := mm_LB_undefine) (As := [.int x2]) (rest := []) d_LW_law_209.1 ok_LB_undefine kw_373 kw_374 kw_375 rfl rfl (Nat.le_of_ble_eq_true rfl) (Nat.le_of_ble_eq_true rfl) e1_ (q := mx_cl0_0) rfl rfl h (fun r3 hs4 h => ?_)
  obtain ⟨x5, e9_, h⟩ := h
  subst e9_
  show mx_Ok mx_S0 l G (d + 1) mm_LW_law 212 [(0, .ref l0), (1, .ref l1), (2, .ref l2), (3, .int l3)] [.int x5] hs4 Q
  refine mx_aload_nR d_LW_law_212 rfl 2 rfl ?_
  refine mx_aload_nR d_LW_law_213 rfl 0 rfl ?_
  refine mx_iload_n d_LW_law_214 rfl 3 rfl ?_
  refine mx_iconst (v := 1) d_LW_law_215 (by decide) ?_
  refine mx_iadd d_LW_law_216 ?_
  obtain ⟨vs6, x7, e1_, e2_, e3_, h⟩ := h
  refine mx_iald d_LW_law_217 (k := 101) rfl e1_ e2_ e3_ ?_
  obtain ⟨⟨fs11, e1_⟩, h⟩ := h
  refine mx_invV (Y := mm_RM_undefine) (As := [.int x7]) (rest := [.int x5]) d_LW_law_218.1 ok_RM_undefine kw_370 kw_371 kw_372 rfl rfl (Nat.le_of_ble_eq_true rfl) (Nat.le_of_ble_eq_true rfl) e1_ (q := mx_cl0_6) rfl rfl h (fun r8 hs9 h => ?_)
  obtain ⟨x10, e9_, h⟩ := h
  subst e9_
  show mx_Ok mx_S0 l G (d + 1) mm_LW_law 221 [(0, .ref l0), (1, .ref l1), (2, .ref l2), (3, .int l3)] [.int x10, .int x5] hs9 Q
  refine mx_icmp_eq d_LW_law_221 (fun c9 => ?_) (fun c9 => ?_)
  · replace h := h.1 c9
    exact mx_sub [0, 1, 2, 3] rfl h
  · replace h := h.2 c9
    refine mx_iconst (v := 0) d_LW_law_224 (by decide) ?_
    exact mx_ireturn d_LW_law_225 rfl (mx_nz (Or.inl rfl)) h
set_option maxRecDepth 100000 in
theorem wp_LW_law_226 {l : Launch} {G : mx_G} {d : Nat} {hs : mx_H} {Q : Option Value → mx_H → Prop} (l0 : Nat) (l1 : Nat) (l2 : Nat) (l3 : Int32) (h : (∃ (vs1 : List Value) (x2 : Int32), hs.1 l0 = some (101, vs1) ∧ ¬ (l3 + 1) < 0 ∧ vs1[Int32.toNatClampNeg (l3 + 1)]? = some (.int x2) ∧ ((∃ fs12 : List Value, hs.1 l1 = some (0, fs12)) ∧ mx_C mx_S0 l G d mm_LB_force [.ref l1, .int x2] hs (fun (r3 : Option Value) (hs4 : mx_H) => ∃ x5 : Int32, r3 = some (.int x5) ∧ (∃ (vs6 : List Value) (x7 : Int32), hs4.1 l0 = some (101, vs6) ∧ ¬ (l3 + 1) < 0 ∧ vs6[Int32.toNatClampNeg (l3 + 1)]? = some (.int x7) ∧ ((∃ fs11 : List Value, hs4.1 l2 = some (6, fs11)) ∧ mx_C mx_S0 l G d mm_RM_force [.ref l2, .int x7] hs4 (fun (r8 : Option Value) (hs9 : mx_H) => ∃ x10 : Int32, r8 = some (.int x10) ∧ ((x5 = x10 → mx_Ok mx_S0 l G (d + 1) mm_LW_law 494 [(0, .ref l0), (1, .ref l1), (2, .ref l2), (3, .int l3)] [] hs9 Q) ∧ (¬ (x5 = x10) → Q (some (.int 0)) hs9))))))))) : mx_Ok mx_S0 l G (d + 1) mm_LW_law 226 [(0, .ref l0), (1, .ref l1), (2, .ref l2), (3, .int l3)] [] hs Q := by
  refine mx_aload_nR d_LW_law_226 rfl 1 rfl ?_
  refine mx_aload_nR d_LW_law_227 rfl 0 rfl ?_
  refine mx_iload_n d_LW_law_228 rfl 3 rfl ?_
  refine mx_iconst (v := 1) d_LW_law_229 (by decide) ?_
  refine mx_iadd d_LW_law_230 ?_
  obtain ⟨vs1, x2, e1_, e2_, e3_, h⟩ := h
  refine mx_iald d_LW_law_231 (k := 101) rfl e1_ e2_ e3_ ?_
  obtain ⟨⟨fs12, e1_⟩, h⟩ := h
  refine mx_invV (Y := mm_LB_force) (As := [.int x2]) (rest := []) d_LW_law_232.1 ok_LB_force kw_379 kw_380 kw_381 rfl rfl (Nat.le_of_ble_eq_true rfl) (Nat.le_of_ble_eq_true rfl) e1_ (q := mx_cl0_0) rfl rfl h (fun r3 hs4 h => ?_)
  obtain ⟨x5, e9_, h⟩ := h
  subst e9_
  show mx_Ok mx_S0 l G (d + 1) mm_LW_law 235 [(0, .ref l0), (1, .ref l1), (2, .ref l2), (3, .int l3)] [.int x5] hs4 Q
  refine mx_aload_nR d_LW_law_235 rfl 2 rfl ?_
  refine mx_aload_nR d_LW_law_236 rfl 0 rfl ?_
  refine mx_iload_n d_LW_law_237 rfl 3 rfl ?_
  refine mx_iconst (v := 1) d_LW_law_238 (by decide) ?_
  refine mx_iadd d_LW_law_239 ?_
  obtain ⟨vs6, x7, e1_, e2_, e3_, h⟩ := h
  refine mx_iald d_LW_law_240 (k := 101) rfl e1_ e2_ e3_ ?_
  obtain ⟨⟨fs11, e1_⟩, h⟩ := h
  refine mx_invV (Y := mm_RM_force) (As := [.int x7]) (rest := [.int x5]) d_LW_law_241.1 ok_RM_force kw_376 kw_377 kw_378 rfl rfl (Nat.le_of_ble_eq_true rfl) (Nat.le_of_ble_eq_true rfl) e1_ (q := mx_cl0_6) rfl rfl h (fun r8 hs9 h => ?_)
  obtain ⟨x10, e9_, h⟩ := h
  subst e9_
  show mx_Ok mx_S0 l G (d + 1) mm_LW_law 244 [(0, .ref l0), (1, .ref l1), (2, .ref l2), (3, .int l3)] [.int x10, .int x5] hs9 Q
  refine mx_icmp_eq d_LW_law_244 (fun c9 => ?_) (fun c9 => ?_)
  · replace h := h.1 c9
    exact mx_sub [0, 1, 2, 3] rfl h
  · replace h := h.2 c9
    refine mx_iconst (v := 0) d_LW_law_247 (by decide) ?_
    exact mx_ireturn d_LW_law_248 rfl (mx_nz (Or.inl rfl)) h
set_option maxRecDepth 100000 in
theorem wp_LW_law_249 {l : Launch} {G : mx_G} {d : Nat} {hs : mx_H} {Q : Option Value → mx_H → Prop} (l0 : Nat) (l1 : Nat) (l2 : Nat) (l3 : Int32) (h : ((∃ fs8 : List Value, hs.1 l1 = some (0, fs8)) ∧ mx_C mx_S0 l G d mm_LB_show [.ref l1] hs (fun (r1 : Option Value) (hs2 : mx_H) => ∃ x3 : Int32, r1 = some (.int x3) ∧ ((∃ fs7 : List Value, hs2.1 l2 = some (6, fs7)) ∧ mx_C mx_S0 l G d mm_RM_show [.ref l2] hs2 (fun (r4 : Option Value) (hs5 : mx_H) => ∃ x6 : Int32, r4 = some (.int x6) ∧ ((x3 = x6 → mx_Ok mx_S0 l G (d + 1) mm_LW_law 494 [(0, .ref l0), (1, .ref l1), (2, .ref l2), (3, .int l3)] [] hs5 Q) ∧ (¬ (x3 = x6) → Q (some (.int 0)) hs5))))))) : mx_Ok mx_S0 l G (d + 1) mm_LW_law 249 [(0, .ref l0), (1, .ref l1), (2, .ref l2), (3, .int l3)] [] hs Q := by
  refine mx_aload_nR d_LW_law_249 rfl 1 rfl ?_
  obtain ⟨⟨fs8, e1_⟩, h⟩ := h
  refine mx_invV (Y := mm_LB_show) (As := []) (rest := []) d_LW_law_250.1 ok_LB_show kw_385 kw_386 kw_387 rfl rfl (Nat.le_of_ble_eq_true rfl) (Nat.le_of_ble_eq_true rfl) e1_ (q := mx_cl0_0) rfl rfl h (fun r1 hs2 h => ?_)
  obtain ⟨x3, e9_, h⟩ := h
  subst e9_
  show mx_Ok mx_S0 l G (d + 1) mm_LW_law 253 [(0, .ref l0), (1, .ref l1), (2, .ref l2), (3, .int l3)] [.int x3] hs2 Q
  refine mx_aload_nR d_LW_law_253 rfl 2 rfl ?_
  obtain ⟨⟨fs7, e1_⟩, h⟩ := h
  refine mx_invV (Y := mm_RM_show) (As := []) (rest := [.int x3]) d_LW_law_254.1 ok_RM_show kw_382 kw_383 kw_384 rfl rfl (Nat.le_of_ble_eq_true rfl) (Nat.le_of_ble_eq_true rfl) e1_ (q := mx_cl0_6) rfl rfl h (fun r4 hs5 h => ?_)
  obtain ⟨x6, e9_, h⟩ := h
  subst e9_
  show mx_Ok mx_S0 l G (d + 1) mm_LW_law 257 [(0, .ref l0), (1, .ref l1), (2, .ref l2), (3, .int l3)] [.int x6, .int x3] hs5 Q
  refine mx_icmp_eq d_LW_law_257 (fun c9 => ?_) (fun c9 => ?_)
  · replace h := h.1 c9
    exact mx_sub [0, 1, 2, 3] rfl h
  · replace h := h.2 c9
    refine mx_iconst (v := 0) d_LW_law_260 (by decide) ?_
    exact mx_ireturn d_LW_law_261 rfl (mx_nz (Or.inl rfl)) h
set_option maxRecDepth 100000 in
theorem wp_LW_law_262 {l : Launch} {G : mx_G} {d : Nat} {hs : mx_H} {Q : Option Value → mx_H → Prop} (l0 : Nat) (l1 : Nat) (l2 : Nat) (l3 : Int32) (h : (∃ (vs1 : List Value) (x2 : Int32), hs.1 l0 = some (101, vs1) ∧ ¬ (l3 + 1) < 0 ∧ vs1[Int32.toNatClampNeg (l3 + 1)]? = some (.int x2) ∧ ((∃ fs12 : List Value, hs.1 l1 = some (0, fs12)) ∧ mx_C mx_S0 l G d mm_LB_value [.ref l1, .int x2] hs (fun (r3 : Option Value) (hs4 : mx_H) => ∃ x5 : Int64, r3 = some (.long x5) ∧ (∃ (vs6 : List Value) (x7 : Int32), hs4.1 l0 = some (101, vs6) ∧ ¬ (l3 + 1) < 0 ∧ vs6[Int32.toNatClampNeg (l3 + 1)]? = some (.int x7) ∧ ((∃ fs11 : List Value, hs4.1 l2 = some (6, fs11)) ∧ mx_C mx_S0 l G d mm_RM_value [.ref l2, .int x7] hs4 (fun (r8 : Option Value) (hs9 : mx_H) => ∃ x10 : Int64, r8 = some (.long x10) ∧ ((x5 = x10 → mx_Ok mx_S0 l G (d + 1) mm_LW_law 494 [(0, .ref l0), (1, .ref l1), (2, .ref l2), (3, .int l3)] [] hs9 Q) ∧ (¬ (x5 = x10) → Q (some (.int 0)) hs9))))))))) : mx_Ok mx_S0 l G (d + 1) mm_LW_law 262 [(0, .ref l0), (1, .ref l1), (2, .ref l2), (3, .int l3)] [] hs Q := by
  refine mx_aload_nR d_LW_law_262 rfl 1 rfl ?_
  refine mx_aload_nR d_LW_law_263 rfl 0 rfl ?_
  refine mx_iload_n d_LW_law_264 rfl 3 rfl ?_
  refine mx_iconst (v := 1) d_LW_law_265 (by decide) ?_
  refine mx_iadd d_LW_law_266 ?_
  obtain ⟨vs1, x2, e1_, e2_, e3_, h⟩ := h
  refine mx_iald d_LW_law_267 (k := 101) rfl e1_ e2_ e3_ ?_
  obtain ⟨⟨fs12, e1_⟩, h⟩ := h
  refine mx_invV (Y := mm_LB_value) (As := [.int x2]) (rest := []) d_LW_law_268.1 ok_LB_value kw_391 kw_392 kw_393 rfl rfl (Nat.le_of_ble_eq_true rfl) (Nat.le_of_ble_eq_true rfl) e1_ (q := mx_cl0_0) rfl rfl h (fun r3 hs4 h => ?_)
  obtain ⟨x5, e9_, h⟩ := h
  subst e9_
  show mx_Ok mx_S0 l G (d + 1) mm_LW_law 271 [(0, .ref l0), (1, .ref l1), (2, .ref l2), (3, .int l3)] [.long x5] hs4 Q
  refine mx_aload_nR d_LW_law_271 rfl 2 rfl ?_
  refine mx_aload_nR d_LW_law_272 rfl 0 rfl ?_
  refine mx_iload_n d_LW_law_273 rfl 3 rfl ?_
  refine mx_iconst (v := 1) d_LW_law_274 (by decide) ?_
  refine mx_iadd d_LW_law_275 ?_
  obtain ⟨vs6, x7, e1_, e2_, e3_, h⟩ := h
  refine mx_iald d_LW_law_276 (k := 101) rfl e1_ e2_ e3_ ?_
  obtain ⟨⟨fs11, e1_⟩, h⟩ := h
  refine mx_invV (Y := mm_RM_value) (As := [.int x7]) (rest := [.long x5]) d_LW_law_277.1 ok_RM_value kw_388 kw_389 kw_390 rfl rfl (Nat.le_of_ble_eq_true rfl) (Nat.le_of_ble_eq_true rfl) e1_ (q := mx_cl0_6) rfl rfl h (fun r8 hs9 h => ?_)
  obtain ⟨x10, e9_, h⟩ := h
  subst e9_
  show mx_Ok mx_S0 l G (d + 1) mm_LW_law 280 [(0, .ref l0), (1, .ref l1), (2, .ref l2), (3, .int l3)] [.long x10, .long x5] hs9 Q
  refine mx_lcmp d_LW_law_280 ?_
  refine mx_if_eq d_LW_law_281 (fun c9 => ?_) (fun c9 => ?_)
  · replace h := h.1 ((lg_cmp_eq _ _).mp c9)
    exact mx_sub [0, 1, 2, 3] rfl h
  · replace h := h.2 (fun z9 => c9 ((lg_cmp_eq _ _).mpr z9))
    refine mx_iconst (v := 0) d_LW_law_284 (by decide) ?_
    exact mx_ireturn d_LW_law_285 rfl (mx_nz (Or.inl rfl)) h
set_option maxRecDepth 100000 in
theorem wp_LW_law_286 {l : Launch} {G : mx_G} {d : Nat} {hs : mx_H} {Q : Option Value → mx_H → Prop} (l0 : Nat) (l1 : Nat) (l2 : Nat) (l3 : Int32) (h : (∃ (vs1 : List Value) (x2 : Int32), hs.1 l0 = some (101, vs1) ∧ ¬ (l3 + 1) < 0 ∧ vs1[Int32.toNatClampNeg (l3 + 1)]? = some (.int x2) ∧ (∃ (vs3 : List Value) (x4 : Int32), hs.1 l0 = some (101, vs3) ∧ ¬ (l3 + 2) < 0 ∧ vs3[Int32.toNatClampNeg (l3 + 2)]? = some (.int x4) ∧ ((∃ fs16 : List Value, hs.1 l1 = some (0, fs16)) ∧ mx_C mx_S0 l G d mm_LB_builder [.ref l1, .int x2, .int x4] hs (fun (r5 : Option Value) (hs6 : mx_H) => ∃ x7 : Int32, r5 = some (.int x7) ∧ (∃ (vs8 : List Value) (x9 : Int32), hs6.1 l0 = some (101, vs8) ∧ ¬ (l3 + 1) < 0 ∧ vs8[Int32.toNatClampNeg (l3 + 1)]? = some (.int x9) ∧ (∃ (vs10 : List Value) (x11 : Int32), hs6.1 l0 = some (101, vs10) ∧ ¬ (l3 + 2) < 0 ∧ vs10[Int32.toNatClampNeg (l3 + 2)]? = some (.int x11) ∧ ((∃ fs15 : List Value, hs6.1 l2 = some (6, fs15)) ∧ mx_C mx_S0 l G d mm_RM_builder [.ref l2, .int x9, .int x11] hs6 (fun (r12 : Option Value) (hs13 : mx_H) => ∃ x14 : Int32, r12 = some (.int x14) ∧ ((x7 = x14 → mx_Ok mx_S0 l G (d + 1) mm_LW_law 494 [(0, .ref l0), (1, .ref l1), (2, .ref l2), (3, .int l3)] [] hs13 Q) ∧ (¬ (x7 = x14) → Q (some (.int 0)) hs13))))))))))) : mx_Ok mx_S0 l G (d + 1) mm_LW_law 286 [(0, .ref l0), (1, .ref l1), (2, .ref l2), (3, .int l3)] [] hs Q := by
  refine mx_aload_nR d_LW_law_286 rfl 1 rfl ?_
  refine mx_aload_nR d_LW_law_287 rfl 0 rfl ?_
  refine mx_iload_n d_LW_law_288 rfl 3 rfl ?_
  refine mx_iconst (v := 1) d_LW_law_289 (by decide) ?_
  refine mx_iadd d_LW_law_290 ?_
  obtain ⟨vs1, x2, e1_, e2_, e3_, h⟩ := h
  refine mx_iald d_LW_law_291 (k := 101) rfl e1_ e2_ e3_ ?_
  refine mx_aload_nR d_LW_law_292 rfl 0 rfl ?_
  refine mx_iload_n d_LW_law_293 rfl 3 rfl ?_
  refine mx_iconst (v := 2) d_LW_law_294 (by decide) ?_
  refine mx_iadd d_LW_law_295 ?_
  obtain ⟨vs3, x4, e1_, e2_, e3_, h⟩ := h
  refine mx_iald d_LW_law_296 (k := 101) rfl e1_ e2_ e3_ ?_
  obtain ⟨⟨fs16, e1_⟩, h⟩ := h
  refine mx_invV (Y := mm_LB_builder) (As := [.int x2, .int x4]) (rest := []) d_LW_law_297.1 ok_LB_builder kw_397 kw_398 kw_399 rfl rfl (Nat.le_of_ble_eq_true rfl) (Nat.le_of_ble_eq_true rfl) e1_ (q := mx_cl0_0) rfl rfl h (fun r5 hs6 h => ?_)
  obtain ⟨x7, e9_, h⟩ := h
  subst e9_
  show mx_Ok mx_S0 l G (d + 1) mm_LW_law 300 [(0, .ref l0), (1, .ref l1), (2, .ref l2), (3, .int l3)] [.int x7] hs6 Q
  refine mx_aload_nR d_LW_law_300 rfl 2 rfl ?_
  refine mx_aload_nR d_LW_law_301 rfl 0 rfl ?_
  refine mx_iload_n d_LW_law_302 rfl 3 rfl ?_
  refine mx_iconst (v := 1) d_LW_law_303 (by decide) ?_
  refine mx_iadd d_LW_law_304 ?_
  obtain ⟨vs8, x9, e1_, e2_, e3_, h⟩ := h
  refine mx_iald d_LW_law_305 (k := 101) rfl e1_ e2_ e3_ ?_
  refine mx_aload_nR d_LW_law_306 rfl 0 rfl ?_
  refine mx_iload_n d_LW_law_307 rfl 3 rfl ?_
  refine mx_iconst (v := 2) d_LW_law_308 (by decide) ?_
  refine mx_iadd d_LW_law_309 ?_
  obtain ⟨vs10, x11, e1_, e2_, e3_, h⟩ := h
  refine mx_iald d_LW_law_310 (k := 101) rfl e1_ e2_ e3_ ?_
  obtain ⟨⟨fs15, e1_⟩, h⟩ := h
  refine mx_invV (Y := mm_RM_builder) (As := [.int x9, .int x11]) (rest := [.int x7]) d_LW_law_311.1 ok_RM_builder kw_394 kw_395 kw_396 rfl rfl (Nat.le_of_ble_eq_true rfl) (Nat.le_of_ble_eq_true rfl) e1_ (q := mx_cl0_6) rfl rfl h (fun r12 hs13 h => ?_)
  obtain ⟨x14, e9_, h⟩ := h
  subst e9_
  show mx_Ok mx_S0 l G (d + 1) mm_LW_law 314 [(0, .ref l0), (1, .ref l1), (2, .ref l2), (3, .int l3)] [.int x14, .int x7] hs13 Q
  refine mx_icmp_eq d_LW_law_314 (fun c9 => ?_) (fun c9 => ?_)
  · replace h := h.1 c9
    exact mx_sub [0, 1, 2, 3] rfl h
  · replace h := h.2 c9
    refine mx_iconst (v := 0) d_LW_law_317 (by decide) ?_
    exact mx_ireturn d_LW_law_318 rfl (mx_nz (Or.inl rfl)) h
set_option maxRecDepth 100000 in
theorem wp_LW_law_319 {l : Launch} {G : mx_G} {d : Nat} {hs : mx_H} {Q : Option Value → mx_H → Prop} (l0 : Nat) (l1 : Nat) (l2 : Nat) (l3 : Int32) (h : (∃ (vs1 : List Value) (x2 : Int32), hs.1 l0 = some (101, vs1) ∧ ¬ (l3 + 1) < 0 ∧ vs1[Int32.toNatClampNeg (l3 + 1)]? = some (.int x2) ∧ ((∃ fs12 : List Value, hs.1 l1 = some (0, fs12)) ∧ mx_C mx_S0 l G d mm_LB_build [.ref l1, .int x2] hs (fun (r3 : Option Value) (hs4 : mx_H) => ∃ x5 : Int32, r3 = some (.int x5) ∧ (∃ (vs6 : List Value) (x7 : Int32), hs4.1 l0 = some (101, vs6) ∧ ¬ (l3 + 1) < 0 ∧ vs6[Int32.toNatClampNeg (l3 + 1)]? = some (.int x7) ∧ ((∃ fs11 : List Value, hs4.1 l2 = some (6, fs11)) ∧ mx_C mx_S0 l G d mm_RM_build [.ref l2, .int x7] hs4 (fun (r8 : Option Value) (hs9 : mx_H) => ∃ x10 : Int32, r8 = some (.int x10) ∧ ((x5 = x10 → mx_Ok mx_S0 l G (d + 1) mm_LW_law 494 [(0, .ref l0), (1, .ref l1), (2, .ref l2), (3, .int l3)] [] hs9 Q) ∧ (¬ (x5 = x10) → Q (some (.int 0)) hs9))))))))) : mx_Ok mx_S0 l G (d + 1) mm_LW_law 319 [(0, .ref l0), (1, .ref l1), (2, .ref l2), (3, .int l3)] [] hs Q := by
  refine mx_aload_nR d_LW_law_319 rfl 1 rfl ?_
  refine mx_aload_nR d_LW_law_320 rfl 0 rfl ?_
  refine mx_iload_n d_LW_law_321 rfl 3 rfl ?_
  refine mx_iconst (v := 1) d_LW_law_322 (by decide) ?_
  refine mx_iadd d_LW_law_323 ?_
  obtain ⟨vs1, x2, e1_, e2_, e3_, h⟩ := h
  refine mx_iald d_LW_law_324 (k := 101) rfl e1_ e2_ e3_ ?_
  obtain ⟨⟨fs12, e1_⟩, h⟩ := h
  refine mx_invV (Y := mm_LB_build) (As := [.int x2]) (rest := []) d_LW_law_325.1 ok_LB_build kw_403 kw_404 kw_405 rfl rfl (Nat.le_of_ble_eq_true rfl) (Nat.le_of_ble_eq_true rfl) e1_ (q := mx_cl0_0) rfl rfl h (fun r3 hs4 h => ?_)
  obtain ⟨x5, e9_, h⟩ := h
  subst e9_
  show mx_Ok mx_S0 l G (d + 1) mm_LW_law 328 [(0, .ref l0), (1, .ref l1), (2, .ref l2), (3, .int l3)] [.int x5] hs4 Q
  refine mx_aload_nR d_LW_law_328 rfl 2 rfl ?_
  refine mx_aload_nR d_LW_law_329 rfl 0 rfl ?_
  refine mx_iload_n d_LW_law_330 rfl 3 rfl ?_
  refine mx_iconst (v := 1) d_LW_law_331 (by decide) ?_
  refine mx_iadd d_LW_law_332 ?_
  obtain ⟨vs6, x7, e1_, e2_, e3_, h⟩ := h
  refine mx_iald d_LW_law_333 (k := 101) rfl e1_ e2_ e3_ ?_
  obtain ⟨⟨fs11, e1_⟩, h⟩ := h
  refine mx_invV (Y := mm_RM_build) (As := [.int x7]) (rest := [.int x5]) d_LW_law_334.1 ok_RM_build kw_400 kw_401 kw_402 rfl rfl (Nat.le_of_ble_eq_true rfl) (Nat.le_of_ble_eq_true rfl) e1_ (q := mx_cl0_6) rfl rfl h (fun r8 hs9 h => ?_)
  obtain ⟨x10, e9_, h⟩ := h
  subst e9_
  show mx_Ok mx_S0 l G (d + 1) mm_LW_law 337 [(0, .ref l0), (1, .ref l1), (2, .ref l2), (3, .int l3)] [.int x10, .int x5] hs9 Q
  refine mx_icmp_eq d_LW_law_337 (fun c9 => ?_) (fun c9 => ?_)
  · replace h := h.1 c9
    exact mx_sub [0, 1, 2, 3] rfl h
  · replace h := h.2 c9
    refine mx_iconst (v := 0) d_LW_law_340 (by decide) ?_
    exact mx_ireturn d_LW_law_341 rfl (mx_nz (Or.inl rfl)) h
set_option maxRecDepth 100000 in
theorem wp_LW_law_342 {l : Launch} {G : mx_G} {d : Nat} {hs : mx_H} {Q : Option Value → mx_H → Prop} (l0 : Nat) (l1 : Nat) (l2 : Nat) (l3 : Int32) (h : (∃ (vs1 : List Value) (x2 : Int32), hs.1 l0 = some (101, vs1) ∧ ¬ (l3 + 1) < 0 ∧ vs1[Int32.toNatClampNeg (l3 + 1)]? = some (.int x2) ∧ (∃ (vs3 : List Value) (x4 : Int32), hs.1 l0 = some (101, vs3) ∧ ¬ (l3 + 2) < 0 ∧ vs3[Int32.toNatClampNeg (l3 + 2)]? = some (.int x4) ∧ ((x4 = 0 → mx_Ok mx_S0 l G (d + 1) mm_LW_law 361 [(0, .ref l0), (1, .ref l1), (2, .ref l2), (3, .int l3)] [.int 0, .int x2, .ref l1] hs Q) ∧ (¬ (x4 = 0) → mx_Ok mx_S0 l G (d + 1) mm_LW_law 361 [(0, .ref l0), (1, .ref l1), (2, .ref l2), (3, .int l3)] [.int 1, .int x2, .ref l1] hs Q))))) : mx_Ok mx_S0 l G (d + 1) mm_LW_law 342 [(0, .ref l0), (1, .ref l1), (2, .ref l2), (3, .int l3)] [] hs Q := by
  refine mx_aload_nR d_LW_law_342 rfl 1 rfl ?_
  refine mx_aload_nR d_LW_law_343 rfl 0 rfl ?_
  refine mx_iload_n d_LW_law_344 rfl 3 rfl ?_
  refine mx_iconst (v := 1) d_LW_law_345 (by decide) ?_
  refine mx_iadd d_LW_law_346 ?_
  obtain ⟨vs1, x2, e1_, e2_, e3_, h⟩ := h
  refine mx_iald d_LW_law_347 (k := 101) rfl e1_ e2_ e3_ ?_
  refine mx_aload_nR d_LW_law_348 rfl 0 rfl ?_
  refine mx_iload_n d_LW_law_349 rfl 3 rfl ?_
  refine mx_iconst (v := 2) d_LW_law_350 (by decide) ?_
  refine mx_iadd d_LW_law_351 ?_
  obtain ⟨vs3, x4, e1_, e2_, e3_, h⟩ := h
  refine mx_iald d_LW_law_352 (k := 101) rfl e1_ e2_ e3_ ?_
  refine mx_if_eq d_LW_law_353 (fun c9 => ?_) (fun c9 => ?_)
  · replace h := h.1 c9
    refine mx_iconst (v := 0) d_LW_law_360 (by decide) ?_
    exact mx_sub [0, 1, 2, 3] rfl h
  · replace h := h.2 c9
    refine mx_iconst (v := 1) d_LW_law_356 (by decide) ?_
    refine mx_goto d_LW_law_357 ?_
    exact mx_sub [0, 1, 2, 3] rfl h
set_option maxRecDepth 100000 in
theorem wp_LW_law_361 {l : Launch} {G : mx_G} {d : Nat} {hs : mx_H} {Q : Option Value → mx_H → Prop} (l0 : Nat) (l1 : Nat) (l2 : Nat) (l3 : Int32) (s0 : Nat) (s1 : Int32) (s2 : Int32) (h : ((∃ fs8 : List Value, hs.1 s0 = some (0, fs8)) ∧ mx_C mx_S0 l G d mm_LB_root [.ref s0, .int s1, .int s2] hs (fun (r1 : Option Value) (hs2 : mx_H) => ∃ x3 : Int32, r1 = some (.int x3) ∧ (∃ (vs4 : List Value) (x5 : Int32), hs2.1 l0 = some (101, vs4) ∧ ¬ (l3 + 1) < 0 ∧ vs4[Int32.toNatClampNeg (l3 + 1)]? = some (.int x5) ∧ (∃ (vs6 : List Value) (x7 : Int32), hs2.1 l0 = some (101, vs6) ∧ ¬ (l3 + 2) < 0 ∧ vs6[Int32.toNatClampNeg (l3 + 2)]? = some (.int x7) ∧ ((x7 = 0 → mx_Ok mx_S0 l G (d + 1) mm_LW_law 383 [(0, .ref l0), (1, .ref l1), (2, .ref l2), (3, .int l3)] [.int 0, .int x5, .ref l2, .int x3] hs2 Q) ∧ (¬ (x7 = 0) → mx_Ok mx_S0 l G (d + 1) mm_LW_law 383 [(0, .ref l0), (1, .ref l1), (2, .ref l2), (3, .int l3)] [.int 1, .int x5, .ref l2, .int x3] hs2 Q))))))) : mx_Ok mx_S0 l G (d + 1) mm_LW_law 361 [(0, .ref l0), (1, .ref l1), (2, .ref l2), (3, .int l3)] [.int s2, .int s1, .ref s0] hs Q := by
  obtain ⟨⟨fs8, e1_⟩, h⟩ := h
  refine mx_invV (Y := mm_LB_root) (As := [.int s1, .int s2]) (rest := []) d_LW_law_361.1 ok_LB_root kw_406 kw_407 kw_408 rfl rfl (Nat.le_of_ble_eq_true rfl) (Nat.le_of_ble_eq_true rfl) e1_ (q := mx_cl0_0) rfl rfl h (fun r1 hs2 h => ?_)
  obtain ⟨x3, e9_, h⟩ := h
  subst e9_
  show mx_Ok mx_S0 l G (d + 1) mm_LW_law 364 [(0, .ref l0), (1, .ref l1), (2, .ref l2), (3, .int l3)] [.int x3] hs2 Q
  refine mx_aload_nR d_LW_law_364 rfl 2 rfl ?_
  refine mx_aload_nR d_LW_law_365 rfl 0 rfl ?_
  refine mx_iload_n d_LW_law_366 rfl 3 rfl ?_
  refine mx_iconst (v := 1) d_LW_law_367 (by decide) ?_
  refine mx_iadd d_LW_law_368 ?_
  obtain ⟨vs4, x5, e1_, e2_, e3_, h⟩ := h
  refine mx_iald d_LW_law_369 (k := 101) rfl e1_ e2_ e3_ ?_
  refine mx_aload_nR d_LW_law_370 rfl 0 rfl ?_
  refine mx_iload_n d_LW_law_371 rfl 3 rfl ?_
  refine mx_iconst (v := 2) d_LW_law_372 (by decide) ?_
  refine mx_iadd d_LW_law_373 ?_
  obtain ⟨vs6, x7, e1_, e2_, e3_, h⟩ := h
  refine mx_iald d_LW_law_374 (k := 101) rfl e1_ e2_ e3_ ?_
  refine mx_if_eq d_LW_law_375 (fun c9 => ?_) (fun c9 => ?_)
  · replace h := h.1 c9
    refine mx_iconst (v := 0) d_LW_law_382 (by decide) ?_
    exact mx_sub [0, 1, 2, 3] rfl h
  · replace h := h.2 c9
    refine mx_iconst (v := 1) d_LW_law_378 (by decide) ?_
    refine mx_goto d_LW_law_379 ?_
    exact mx_sub [0, 1, 2, 3] rfl h
set_option maxRecDepth 100000 in
theorem wp_LW_law_383 {l : Launch} {G : mx_G} {d : Nat} {hs : mx_H} {Q : Option Value → mx_H → Prop} (l0 : Nat) (l1 : Nat) (l2 : Nat) (l3 : Int32) (s0 : Int32) (s1 : Nat) (s2 : Int32) (s3 : Int32) (h : ((∃ fs4 : List Value, hs.1 s1 = some (6, fs4)) ∧ mx_C mx_S0 l G d mm_RM_root [.ref s1, .int s2, .int s3] hs (fun (r1 : Option Value) (hs2 : mx_H) => ∃ x3 : Int32, r1 = some (.int x3) ∧ ((s0 = x3 → mx_Ok mx_S0 l G (d + 1) mm_LW_law 494 [(0, .ref l0), (1, .ref l1), (2, .ref l2), (3, .int l3)] [] hs2 Q) ∧ (¬ (s0 = x3) → Q (some (.int 0)) hs2))))) : mx_Ok mx_S0 l G (d + 1) mm_LW_law 383 [(0, .ref l0), (1, .ref l1), (2, .ref l2), (3, .int l3)] [.int s3, .int s2, .ref s1, .int s0] hs Q := by
  obtain ⟨⟨fs4, e1_⟩, h⟩ := h
  refine mx_invV (Y := mm_RM_root) (As := [.int s2, .int s3]) (rest := [.int s0]) d_LW_law_383.1 ok_RM_root kw_409 kw_410 kw_411 rfl rfl (Nat.le_of_ble_eq_true rfl) (Nat.le_of_ble_eq_true rfl) e1_ (q := mx_cl0_6) rfl rfl h (fun r1 hs2 h => ?_)
  obtain ⟨x3, e9_, h⟩ := h
  subst e9_
  show mx_Ok mx_S0 l G (d + 1) mm_LW_law 386 [(0, .ref l0), (1, .ref l1), (2, .ref l2), (3, .int l3)] [.int x3, .int s0] hs2 Q
  refine mx_icmp_eq d_LW_law_386 (fun c9 => ?_) (fun c9 => ?_)
  · replace h := h.1 c9
    exact mx_sub [0, 1, 2, 3] rfl h
  · replace h := h.2 c9
    refine mx_iconst (v := 0) d_LW_law_389 (by decide) ?_
    exact mx_ireturn d_LW_law_390 rfl (mx_nz (Or.inl rfl)) h
set_option maxRecDepth 100000 in
theorem wp_LW_law_391 {l : Launch} {G : mx_G} {d : Nat} {hs : mx_H} {Q : Option Value → mx_H → Prop} (l0 : Nat) (l1 : Nat) (l2 : Nat) (l3 : Int32) (h : ((∃ fs8 : List Value, hs.1 l1 = some (0, fs8)) ∧ mx_C mx_S0 l G d mm_LB_collect [.ref l1] hs (fun (r1 : Option Value) (hs2 : mx_H) => ∃ x3 : Int32, r1 = some (.int x3) ∧ ((∃ fs7 : List Value, hs2.1 l2 = some (6, fs7)) ∧ mx_C mx_S0 l G d mm_RM_collect [.ref l2] hs2 (fun (r4 : Option Value) (hs5 : mx_H) => ∃ x6 : Int32, r4 = some (.int x6) ∧ ((x3 = x6 → mx_Ok mx_S0 l G (d + 1) mm_LW_law 494 [(0, .ref l0), (1, .ref l1), (2, .ref l2), (3, .int l3)] [] hs5 Q) ∧ (¬ (x3 = x6) → Q (some (.int 0)) hs5))))))) : mx_Ok mx_S0 l G (d + 1) mm_LW_law 391 [(0, .ref l0), (1, .ref l1), (2, .ref l2), (3, .int l3)] [] hs Q := by
  refine mx_aload_nR d_LW_law_391 rfl 1 rfl ?_
  obtain ⟨⟨fs8, e1_⟩, h⟩ := h
  refine mx_invV (Y := mm_LB_collect) (As := []) (rest := []) d_LW_law_392.1 ok_LB_collect kw_415 kw_416 kw_417 rfl rfl (Nat.le_of_ble_eq_true rfl) (Nat.le_of_ble_eq_true rfl) e1_ (q := mx_cl0_0) rfl rfl h (fun r1 hs2 h => ?_)
  obtain ⟨x3, e9_, h⟩ := h
  subst e9_
  show mx_Ok mx_S0 l G (d + 1) mm_LW_law 395 [(0, .ref l0), (1, .ref l1), (2, .ref l2), (3, .int l3)] [.int x3] hs2 Q
  refine mx_aload_nR d_LW_law_395 rfl 2 rfl ?_
  obtain ⟨⟨fs7, e1_⟩, h⟩ := h
  refine mx_invV (Y := mm_RM_collect) (As := []) (rest := [.int x3]) d_LW_law_396.1 ok_RM_collect kw_412 kw_413 kw_414 rfl rfl (Nat.le_of_ble_eq_true rfl) (Nat.le_of_ble_eq_true rfl) e1_ (q := mx_cl0_6) rfl rfl h (fun r4 hs5 h => ?_)
  obtain ⟨x6, e9_, h⟩ := h
  subst e9_
  show mx_Ok mx_S0 l G (d + 1) mm_LW_law 399 [(0, .ref l0), (1, .ref l1), (2, .ref l2), (3, .int l3)] [.int x6, .int x3] hs5 Q
  refine mx_icmp_eq d_LW_law_399 (fun c9 => ?_) (fun c9 => ?_)
  · replace h := h.1 c9
    exact mx_sub [0, 1, 2, 3] rfl h
  · replace h := h.2 c9
    refine mx_iconst (v := 0) d_LW_law_402 (by decide) ?_
    exact mx_ireturn d_LW_law_403 rfl (mx_nz (Or.inl rfl)) h
set_option maxRecDepth 100000 in
theorem wp_LW_law_404 {l : Launch} {G : mx_G} {d : Nat} {hs : mx_H} {Q : Option Value → mx_H → Prop} (l0 : Nat) (l1 : Nat) (l2 : Nat) (l3 : Int32) (h : (∃ (vs1 : List Value) (x2 : Int32), hs.1 l0 = some (101, vs1) ∧ ¬ (l3 + 1) < 0 ∧ vs1[Int32.toNatClampNeg (l3 + 1)]? = some (.int x2) ∧ (∃ (vs3 : List Value) (x4 : Int32), hs.1 l0 = some (101, vs3) ∧ ¬ (l3 + 2) < 0 ∧ vs3[Int32.toNatClampNeg (l3 + 2)]? = some (.int x4) ∧ ((∃ fs16 : List Value, hs.1 l1 = some (0, fs16)) ∧ mx_C mx_S0 l G d mm_LB_input [.ref l1, .int x2, .int x4] hs (fun (r5 : Option Value) (hs6 : mx_H) => ∃ x7 : Int64, r5 = some (.long x7) ∧ (∃ (vs8 : List Value) (x9 : Int32), hs6.1 l0 = some (101, vs8) ∧ ¬ (l3 + 1) < 0 ∧ vs8[Int32.toNatClampNeg (l3 + 1)]? = some (.int x9) ∧ (∃ (vs10 : List Value) (x11 : Int32), hs6.1 l0 = some (101, vs10) ∧ ¬ (l3 + 2) < 0 ∧ vs10[Int32.toNatClampNeg (l3 + 2)]? = some (.int x11) ∧ ((∃ fs15 : List Value, hs6.1 l2 = some (6, fs15)) ∧ mx_C mx_S0 l G d mm_RM_input [.ref l2, .int x9, .int x11] hs6 (fun (r12 : Option Value) (hs13 : mx_H) => ∃ x14 : Int64, r12 = some (.long x14) ∧ ((x7 = x14 → mx_Ok mx_S0 l G (d + 1) mm_LW_law 494 [(0, .ref l0), (1, .ref l1), (2, .ref l2), (3, .int l3)] [] hs13 Q) ∧ (¬ (x7 = x14) → Q (some (.int 0)) hs13))))))))))) : mx_Ok mx_S0 l G (d + 1) mm_LW_law 404 [(0, .ref l0), (1, .ref l1), (2, .ref l2), (3, .int l3)] [] hs Q := by
  refine mx_aload_nR d_LW_law_404 rfl 1 rfl ?_
  refine mx_aload_nR d_LW_law_405 rfl 0 rfl ?_
  refine mx_iload_n d_LW_law_406 rfl 3 rfl ?_
  refine mx_iconst (v := 1) d_LW_law_407 (by decide) ?_
  refine mx_iadd d_LW_law_408 ?_
  obtain ⟨vs1, x2, e1_, e2_, e3_, h⟩ := h
  refine mx_iald d_LW_law_409 (k := 101) rfl e1_ e2_ e3_ ?_
  refine mx_aload_nR d_LW_law_410 rfl 0 rfl ?_
  refine mx_iload_n d_LW_law_411 rfl 3 rfl ?_
  refine mx_iconst (v := 2) d_LW_law_412 (by decide) ?_
  refine mx_iadd d_LW_law_413 ?_
  obtain ⟨vs3, x4, e1_, e2_, e3_, h⟩ := h
  refine mx_iald d_LW_law_414 (k := 101) rfl e1_ e2_ e3_ ?_
  obtain ⟨⟨fs16, e1_⟩, h⟩ := h
  refine mx_invV (Y := mm_LB_input) (As := [.int x2, .int x4]) (rest := []) d_LW_law_415.1 ok_LB_input kw_421 kw_422 kw_423 rfl rfl (Nat.le_of_ble_eq_true rfl) (Nat.le_of_ble_eq_true rfl) e1_ (q := mx_cl0_0) rfl rfl h (fun r5 hs6 h => ?_)
  obtain ⟨x7, e9_, h⟩ := h
  subst e9_
  show mx_Ok mx_S0 l G (d + 1) mm_LW_law 418 [(0, .ref l0), (1, .ref l1), (2, .ref l2), (3, .int l3)] [.long x7] hs6 Q
  refine mx_aload_nR d_LW_law_418 rfl 2 rfl ?_
  refine mx_aload_nR d_LW_law_419 rfl 0 rfl ?_
  refine mx_iload_n d_LW_law_420 rfl 3 rfl ?_
  refine mx_iconst (v := 1) d_LW_law_421 (by decide) ?_
  refine mx_iadd d_LW_law_422 ?_
  obtain ⟨vs8, x9, e1_, e2_, e3_, h⟩ := h
  refine mx_iald d_LW_law_423 (k := 101) rfl e1_ e2_ e3_ ?_
  refine mx_aload_nR d_LW_law_424 rfl 0 rfl ?_
  refine mx_iload_n d_LW_law_425 rfl 3 rfl ?_
  refine mx_iconst (v := 2) d_LW_law_426 (by decide) ?_
  refine mx_iadd d_LW_law_427 ?_
  obtain ⟨vs10, x11, e1_, e2_, e3_, h⟩ := h
  refine mx_iald d_LW_law_428 (k := 101) rfl e1_ e2_ e3_ ?_
  obtain ⟨⟨fs15, e1_⟩, h⟩ := h
  refine mx_invV (Y := mm_RM_input) (As := [.int x9, .int x11]) (rest := [.long x7]) d_LW_law_429.1 ok_RM_input kw_418 kw_419 kw_420 rfl rfl (Nat.le_of_ble_eq_true rfl) (Nat.le_of_ble_eq_true rfl) e1_ (q := mx_cl0_6) rfl rfl h (fun r12 hs13 h => ?_)
  obtain ⟨x14, e9_, h⟩ := h
  subst e9_
  show mx_Ok mx_S0 l G (d + 1) mm_LW_law 432 [(0, .ref l0), (1, .ref l1), (2, .ref l2), (3, .int l3)] [.long x14, .long x7] hs13 Q
  refine mx_lcmp d_LW_law_432 ?_
  refine mx_if_eq d_LW_law_433 (fun c9 => ?_) (fun c9 => ?_)
  · replace h := h.1 ((lg_cmp_eq _ _).mp c9)
    exact mx_sub [0, 1, 2, 3] rfl h
  · replace h := h.2 (fun z9 => c9 ((lg_cmp_eq _ _).mpr z9))
    refine mx_iconst (v := 0) d_LW_law_436 (by decide) ?_
    exact mx_ireturn d_LW_law_437 rfl (mx_nz (Or.inl rfl)) h
set_option maxRecDepth 100000 in
theorem wp_LW_law_438 {l : Launch} {G : mx_G} {d : Nat} {hs : mx_H} {Q : Option Value → mx_H → Prop} (l0 : Nat) (l1 : Nat) (l2 : Nat) (l3 : Int32) (h : (∃ (vs1 : List Value) (x2 : Int32), hs.1 l0 = some (101, vs1) ∧ ¬ (l3 + 1) < 0 ∧ vs1[Int32.toNatClampNeg (l3 + 1)]? = some (.int x2) ∧ (∃ (vs3 : List Value) (x4 : Int32), hs.1 l0 = some (101, vs3) ∧ ¬ (l3 + 2) < 0 ∧ vs3[Int32.toNatClampNeg (l3 + 2)]? = some (.int x4) ∧ ((∃ fs16 : List Value, hs.1 l1 = some (0, fs16)) ∧ mx_C mx_S0 l G d mm_LB_plan [.ref l1, .int x2, .int x4] hs (fun (r5 : Option Value) (hs6 : mx_H) => ∃ x7 : Int32, r5 = some (.int x7) ∧ (∃ (vs8 : List Value) (x9 : Int32), hs6.1 l0 = some (101, vs8) ∧ ¬ (l3 + 1) < 0 ∧ vs8[Int32.toNatClampNeg (l3 + 1)]? = some (.int x9) ∧ (∃ (vs10 : List Value) (x11 : Int32), hs6.1 l0 = some (101, vs10) ∧ ¬ (l3 + 2) < 0 ∧ vs10[Int32.toNatClampNeg (l3 + 2)]? = some (.int x11) ∧ ((∃ fs15 : List Value, hs6.1 l2 = some (6, fs15)) ∧ mx_C mx_S0 l G d mm_RM_plan [.ref l2, .int x9, .int x11] hs6 (fun (r12 : Option Value) (hs13 : mx_H) => ∃ x14 : Int32, r12 = some (.int x14) ∧ ((x7 = x14 → mx_Ok mx_S0 l G (d + 1) mm_LW_law 494 [(0, .ref l0), (1, .ref l1), (2, .ref l2), (3, .int l3)] [] hs13 Q) ∧ (¬ (x7 = x14) → Q (some (.int 0)) hs13))))))))))) : mx_Ok mx_S0 l G (d + 1) mm_LW_law 438 [(0, .ref l0), (1, .ref l1), (2, .ref l2), (3, .int l3)] [] hs Q := by
  refine mx_aload_nR d_LW_law_438 rfl 1 rfl ?_
  refine mx_aload_nR d_LW_law_439 rfl 0 rfl ?_
  refine mx_iload_n d_LW_law_440 rfl 3 rfl ?_
  refine mx_iconst (v := 1) d_LW_law_441 (by decide) ?_
  refine mx_iadd d_LW_law_442 ?_
  obtain ⟨vs1, x2, e1_, e2_, e3_, h⟩ := h
  refine mx_iald d_LW_law_443 (k := 101) rfl e1_ e2_ e3_ ?_
  refine mx_aload_nR d_LW_law_444 rfl 0 rfl ?_
  refine mx_iload_n d_LW_law_445 rfl 3 rfl ?_
  refine mx_iconst (v := 2) d_LW_law_446 (by decide) ?_
  refine mx_iadd d_LW_law_447 ?_
  obtain ⟨vs3, x4, e1_, e2_, e3_, h⟩ := h
  refine mx_iald d_LW_law_448 (k := 101) rfl e1_ e2_ e3_ ?_
  obtain ⟨⟨fs16, e1_⟩, h⟩ := h
  refine mx_invV (Y := mm_LB_plan) (As := [.int x2, .int x4]) (rest := []) d_LW_law_449.1 ok_LB_plan kw_427 kw_428 kw_429 rfl rfl (Nat.le_of_ble_eq_true rfl) (Nat.le_of_ble_eq_true rfl) e1_ (q := mx_cl0_0) rfl rfl h (fun r5 hs6 h => ?_)
  obtain ⟨x7, e9_, h⟩ := h
  subst e9_
  show mx_Ok mx_S0 l G (d + 1) mm_LW_law 452 [(0, .ref l0), (1, .ref l1), (2, .ref l2), (3, .int l3)] [.int x7] hs6 Q
  refine mx_aload_nR d_LW_law_452 rfl 2 rfl ?_
  refine mx_aload_nR d_LW_law_453 rfl 0 rfl ?_
  refine mx_iload_n d_LW_law_454 rfl 3 rfl ?_
  refine mx_iconst (v := 1) d_LW_law_455 (by decide) ?_
  refine mx_iadd d_LW_law_456 ?_
  obtain ⟨vs8, x9, e1_, e2_, e3_, h⟩ := h
  refine mx_iald d_LW_law_457 (k := 101) rfl e1_ e2_ e3_ ?_
  refine mx_aload_nR d_LW_law_458 rfl 0 rfl ?_
  refine mx_iload_n d_LW_law_459 rfl 3 rfl ?_
  refine mx_iconst (v := 2) d_LW_law_460 (by decide) ?_
  refine mx_iadd d_LW_law_461 ?_
  obtain ⟨vs10, x11, e1_, e2_, e3_, h⟩ := h
  refine mx_iald d_LW_law_462 (k := 101) rfl e1_ e2_ e3_ ?_
  obtain ⟨⟨fs15, e1_⟩, h⟩ := h
  refine mx_invV (Y := mm_RM_plan) (As := [.int x9, .int x11]) (rest := [.int x7]) d_LW_law_463.1 ok_RM_plan kw_424 kw_425 kw_426 rfl rfl (Nat.le_of_ble_eq_true rfl) (Nat.le_of_ble_eq_true rfl) e1_ (q := mx_cl0_6) rfl rfl h (fun r12 hs13 h => ?_)
  obtain ⟨x14, e9_, h⟩ := h
  subst e9_
  show mx_Ok mx_S0 l G (d + 1) mm_LW_law 466 [(0, .ref l0), (1, .ref l1), (2, .ref l2), (3, .int l3)] [.int x14, .int x7] hs13 Q
  refine mx_icmp_eq d_LW_law_466 (fun c9 => ?_) (fun c9 => ?_)
  · replace h := h.1 c9
    exact mx_sub [0, 1, 2, 3] rfl h
  · replace h := h.2 c9
    refine mx_iconst (v := 0) d_LW_law_469 (by decide) ?_
    exact mx_ireturn d_LW_law_470 rfl (mx_nz (Or.inl rfl)) h
set_option maxRecDepth 100000 in
theorem wp_LW_law_471 {l : Launch} {G : mx_G} {d : Nat} {hs : mx_H} {Q : Option Value → mx_H → Prop} (l0 : Nat) (l1 : Nat) (l2 : Nat) (l3 : Int32) (h : (∃ (vs1 : List Value) (x2 : Int32), hs.1 l0 = some (101, vs1) ∧ ¬ (l3 + 1) < 0 ∧ vs1[Int32.toNatClampNeg (l3 + 1)]? = some (.int x2) ∧ ((∃ fs12 : List Value, hs.1 l1 = some (0, fs12)) ∧ mx_C mx_S0 l G d mm_LB_count [.ref l1, .int x2] hs (fun (r3 : Option Value) (hs4 : mx_H) => ∃ x5 : Int32, r3 = some (.int x5) ∧ (∃ (vs6 : List Value) (x7 : Int32), hs4.1 l0 = some (101, vs6) ∧ ¬ (l3 + 1) < 0 ∧ vs6[Int32.toNatClampNeg (l3 + 1)]? = some (.int x7) ∧ ((∃ fs11 : List Value, hs4.1 l2 = some (6, fs11)) ∧ mx_C mx_S0 l G d mm_RM_count [.ref l2, .int x7] hs4 (fun (r8 : Option Value) (hs9 : mx_H) => ∃ x10 : Int32, r8 = some (.int x10) ∧ ((x5 = x10 → mx_Ok mx_S0 l G (d + 1) mm_LW_law 494 [(0, .ref l0), (1, .ref l1), (2, .ref l2), (3, .int l3)] [] hs9 Q) ∧ (¬ (x5 = x10) → Q (some (.int 0)) hs9))))))))) : mx_Ok mx_S0 l G (d + 1) mm_LW_law 471 [(0, .ref l0), (1, .ref l1), (2, .ref l2), (3, .int l3)] [] hs Q := by
  refine mx_aload_nR d_LW_law_471 rfl 1 rfl ?_
  refine mx_aload_nR d_LW_law_472 rfl 0 rfl ?_
  refine mx_iload_n d_LW_law_473 rfl 3 rfl ?_
  refine mx_iconst (v := 1) d_LW_law_474 (by decide) ?_
  refine mx_iadd d_LW_law_475 ?_
  obtain ⟨vs1, x2, e1_, e2_, e3_, h⟩ := h
  refine mx_iald d_LW_law_476 (k := 101) rfl e1_ e2_ e3_ ?_
  obtain ⟨⟨fs12, e1_⟩, h⟩ := h
  refine mx_invV (Y := mm_LB_count) (As := [.int x2]) (rest := []) d_LW_law_477.1 ok_LB_count kw_433 kw_434 kw_435 rfl rfl (Nat.le_of_ble_eq_true rfl) (Nat.le_of_ble_eq_true rfl) e1_ (q := mx_cl0_0) rfl rfl h (fun r3 hs4 h => ?_)
  obtain ⟨x5, e9_, h⟩ := h
  subst e9_
  show mx_Ok mx_S0 l G (d + 1) mm_LW_law 480 [(0, .ref l0), (1, .ref l1), (2, .ref l2), (3, .int l3)] [.int x5] hs4 Q
  refine mx_aload_nR d_LW_law_480 rfl 2 rfl ?_
  refine mx_aload_nR d_LW_law_481 rfl 0 rfl ?_
  refine mx_iload_n d_LW_law_482 rfl 3 rfl ?_
  refine mx_iconst (v := 1) d_LW_law_483 (by decide) ?_
  refine mx_iadd d_LW_law_484 ?_
  obtain ⟨vs6, x7, e1_, e2_, e3_, h⟩ := h
  refine mx_iald d_LW_law_485 (k := 101) rfl e1_ e2_ e3_ ?_
  obtain ⟨⟨fs11, e1_⟩, h⟩ := h
  refine mx_invV (Y := mm_RM_count) (As := [.int x7]) (rest := [.int x5]) d_LW_law_486.1 ok_RM_count kw_430 kw_431 kw_432 rfl rfl (Nat.le_of_ble_eq_true rfl) (Nat.le_of_ble_eq_true rfl) e1_ (q := mx_cl0_6) rfl rfl h (fun r8 hs9 h => ?_)
  obtain ⟨x10, e9_, h⟩ := h
  subst e9_
  show mx_Ok mx_S0 l G (d + 1) mm_LW_law 489 [(0, .ref l0), (1, .ref l1), (2, .ref l2), (3, .int l3)] [.int x10, .int x5] hs9 Q
  refine mx_icmp_eq d_LW_law_489 (fun c9 => ?_) (fun c9 => ?_)
  · replace h := h.1 c9
    exact mx_sub [0, 1, 2, 3] rfl h
  · replace h := h.2 c9
    refine mx_iconst (v := 0) d_LW_law_492 (by decide) ?_
    exact mx_ireturn d_LW_law_493 rfl (mx_nz (Or.inl rfl)) h
set_option maxRecDepth 100000 in
theorem wp_LW_law_494 {l : Launch} {G : mx_G} {d : Nat} {hs : mx_H} {Q : Option Value → mx_H → Prop} (l0 : Nat) (l1 : Nat) (l2 : Nat) (l3 : Int32) (h : mx_Ok mx_S0 l G (d + 1) mm_LW_law 18 [(0, .ref l0), (1, .ref l1), (2, .ref l2), (3, .int (l3 + 3))] [] hs Q) : mx_Ok mx_S0 l G (d + 1) mm_LW_law 494 [(0, .ref l0), (1, .ref l1), (2, .ref l2), (3, .int l3)] [] hs Q := by
  refine mx_iinc (v := l3 + 3) (lv2 := [(3, .int (l3 + 3)), (0, .ref l0), (1, .ref l1), (2, .ref l2)]) d_LW_law_494 3 rfl (by rfl) (Nat.le_of_ble_eq_true rfl) rfl ?_
  refine mx_goto d_LW_law_497 ?_
  exact mx_sub [1, 2, 3, 0] rfl h
