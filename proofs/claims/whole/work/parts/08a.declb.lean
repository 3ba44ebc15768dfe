theorem d_LB_init_0 : decode mm_LB_init.2.1 0 = .ok (.aload_n 0, 1) ∧ 0 + 1 = 1 := ⟨by decide +kernel, rfl⟩
theorem d_LB_init_1 : decode mm_LB_init.2.1 1 = .ok (.invokespecial 3, 3) ∧ 1 + 3 = 4 := ⟨by decide +kernel, rfl⟩
theorem d_LB_init_4 : decode mm_LB_init.2.1 4 = .ok (.aload_n 0, 1) ∧ 4 + 1 = 5 := ⟨by decide +kernel, rfl⟩
theorem d_LB_init_5 : decode mm_LB_init.2.1 5 = .ok (.new 9, 3) ∧ 5 + 3 = 8 := ⟨by decide +kernel, rfl⟩
theorem d_LB_init_8 : decode mm_LB_init.2.1 8 = .ok (.dup, 1) ∧ 8 + 1 = 9 := ⟨by decide +kernel, rfl⟩
theorem d_LB_init_9 : decode mm_LB_init.2.1 9 = .ok (.invokespecial 11, 3) ∧ 9 + 3 = 12 := ⟨by decide +kernel, rfl⟩
theorem d_LB_init_12 : decode mm_LB_init.2.1 12 = .ok (.putfield 12, 3) ∧ 12 + 3 = 15 := ⟨by decide +kernel, rfl⟩
theorem d_LB_init_15 : decode mm_LB_init.2.1 15 = .ok (.aload_n 0, 1) ∧ 15 + 1 = 16 := ⟨by decide +kernel, rfl⟩
theorem d_LB_init_16 : decode mm_LB_init.2.1 16 = .ok (.new 16, 3) ∧ 16 + 3 = 19 := ⟨by decide +kernel, rfl⟩
theorem d_LB_init_19 : decode mm_LB_init.2.1 19 = .ok (.dup, 1) ∧ 19 + 1 = 20 := ⟨by decide +kernel, rfl⟩
theorem d_LB_init_20 : decode mm_LB_init.2.1 20 = .ok (.invokespecial 18, 3) ∧ 20 + 3 = 23 := ⟨by decide +kernel, rfl⟩
theorem d_LB_init_23 : decode mm_LB_init.2.1 23 = .ok (.putfield 19, 3) ∧ 23 + 3 = 26 := ⟨by decide +kernel, rfl⟩
theorem d_LB_init_26 : decode mm_LB_init.2.1 26 = .ok (.aload_n 0, 1) ∧ 26 + 1 = 27 := ⟨by decide +kernel, rfl⟩
theorem d_LB_init_27 : decode mm_LB_init.2.1 27 = .ok (.new 23, 3) ∧ 27 + 3 = 30 := ⟨by decide +kernel, rfl⟩
theorem d_LB_init_30 : decode mm_LB_init.2.1 30 = .ok (.dup, 1) ∧ 30 + 1 = 31 := ⟨by decide +kernel, rfl⟩
theorem d_LB_init_31 : decode mm_LB_init.2.1 31 = .ok (.aload_n 0, 1) ∧ 31 + 1 = 32 := ⟨by decide +kernel, rfl⟩
theorem d_LB_init_32 : decode mm_LB_init.2.1 32 = .ok (.getfield 19, 3) ∧ 32 + 3 = 35 := ⟨by decide +kernel, rfl⟩
theorem d_LB_init_35 : decode mm_LB_init.2.1 35 = .ok (.invokespecial 25, 3) ∧ 35 + 3 = 38 := ⟨by decide +kernel, rfl⟩
theorem d_LB_init_38 : decode mm_LB_init.2.1 38 = .ok (.putfield 28, 3) ∧ 38 + 3 = 41 := ⟨by decide +kernel, rfl⟩
theorem d_LB_init_41 : decode mm_LB_init.2.1 41 = .ok (.aload_n 0, 1) ∧ 41 + 1 = 42 := ⟨by decide +kernel, rfl⟩
theorem d_LB_init_42 : decode mm_LB_init.2.1 42 = .ok (.ldc2_w 32, 3) ∧ 42 + 3 = 45 := ⟨by decide +kernel, rfl⟩
theorem d_LB_init_45 : decode mm_LB_init.2.1 45 = .ok (.putfield 34, 3) ∧ 45 + 3 = 48 := ⟨by decide +kernel, rfl⟩
theorem d_LB_init_48 : decode mm_LB_init.2.1 48 = .ok (.aload_n 0, 1) ∧ 48 + 1 = 49 := ⟨by decide +kernel, rfl⟩
theorem d_LB_init_49 : decode mm_LB_init.2.1 49 = .ok (.iconst (-1), 1) ∧ 49 + 1 = 50 := ⟨by decide +kernel, rfl⟩
theorem d_LB_init_50 : decode mm_LB_init.2.1 50 = .ok (.putfield 38, 3) ∧ 50 + 3 = 53 := ⟨by decide +kernel, rfl⟩
theorem d_LB_init_53 : decode mm_LB_init.2.1 53 = .ok (.return_, 1) := by decide +kernel
theorem d_LB_type_0 : decode mm_LB_type.2.1 0 = .ok (.aload_n 0, 1) ∧ 0 + 1 = 1 := ⟨by decide +kernel, rfl⟩
theorem d_LB_type_1 : decode mm_LB_type.2.1 1 = .ok (.getfield 12, 3) ∧ 1 + 3 = 4 := ⟨by decide +kernel, rfl⟩
theorem d_LB_type_4 : decode mm_LB_type.2.1 4 = .ok (.iload_n 1, 1) ∧ 4 + 1 = 5 := ⟨by decide +kernel, rfl⟩
theorem d_LB_type_5 : decode mm_LB_type.2.1 5 = .ok (.invokevirtual 42, 3) ∧ 5 + 3 = 8 := ⟨by decide +kernel, rfl⟩
theorem d_LB_type_8 : decode mm_LB_type.2.1 8 = .ok (.ireturn, 1) := by decide +kernel
theorem d_LB_types_0 : decode mm_LB_types.2.1 0 = .ok (.bipush 56, 2) ∧ 0 + 2 = 2 := ⟨by decide +kernel, rfl⟩
theorem d_LB_types_2 : decode mm_LB_types.2.1 2 = .ok (.istore_n 3, 1) ∧ 2 + 1 = 3 := ⟨by decide +kernel, rfl⟩
theorem d_LB_types_3 : decode mm_LB_types.2.1 3 = .ok (.iload_n 3, 1) ∧ 3 + 1 = 4 := ⟨by decide +kernel, rfl⟩
theorem d_LB_types_4 : decode mm_LB_types.2.1 4 = .ok (.ifCond .lt 43, 3) ∧ 4 + 3 = 7 ∧ ((4 : Nat) : Int) + (43) = ((47 : Nat) : Int) := ⟨by decide +kernel, rfl, by decide⟩
theorem d_LB_types_7 : decode mm_LB_types.2.1 7 = .ok (.lload_n 1, 1) ∧ 7 + 1 = 8 := ⟨by decide +kernel, rfl⟩
theorem d_LB_types_8 : decode mm_LB_types.2.1 8 = .ok (.iload_n 3, 1) ∧ 8 + 1 = 9 := ⟨by decide +kernel, rfl⟩
theorem d_LB_types_9 : decode mm_LB_types.2.1 9 = .ok (.lushr, 1) ∧ 9 + 1 = 10 := ⟨by decide +kernel, rfl⟩
theorem d_LB_types_10 : decode mm_LB_types.2.1 10 = .ok (.l2i, 1) ∧ 10 + 1 = 11 := ⟨by decide +kernel, rfl⟩
theorem d_LB_types_11 : decode mm_LB_types.2.1 11 = .ok (.sipush 255, 3) ∧ 11 + 3 = 14 := ⟨by decide +kernel, rfl⟩
theorem d_LB_types_14 : decode mm_LB_types.2.1 14 = .ok (.iand, 1) ∧ 14 + 1 = 15 := ⟨by decide +kernel, rfl⟩
theorem d_LB_types_15 : decode mm_LB_types.2.1 15 = .ok (.istore 4, 2) ∧ 15 + 2 = 17 := ⟨by decide +kernel, rfl⟩
theorem d_LB_types_17 : decode mm_LB_types.2.1 17 = .ok (.iload 4, 2) ∧ 17 + 2 = 19 := ⟨by decide +kernel, rfl⟩
theorem d_LB_types_19 : decode mm_LB_types.2.1 19 = .ok (.ifCond .eq 22, 3) ∧ 19 + 3 = 22 ∧ ((19 : Nat) : Int) + (22) = ((41 : Nat) : Int) := ⟨by decide +kernel, rfl, by decide⟩
theorem d_LB_types_22 : decode mm_LB_types.2.1 22 = .ok (.aload_n 0, 1) ∧ 22 + 1 = 23 := ⟨by decide +kernel, rfl⟩
theorem d_LB_types_23 : decode mm_LB_types.2.1 23 = .ok (.getfield 12, 3) ∧ 23 + 3 = 26 := ⟨by decide +kernel, rfl⟩
theorem d_LB_types_26 : decode mm_LB_types.2.1 26 = .ok (.iload 4, 2) ∧ 26 + 2 = 28 := ⟨by decide +kernel, rfl⟩
theorem d_LB_types_28 : decode mm_LB_types.2.1 28 = .ok (.invokevirtual 42, 3) ∧ 28 + 3 = 31 := ⟨by decide +kernel, rfl⟩
theorem d_LB_types_31 : decode mm_LB_types.2.1 31 = .ok (.istore 5, 2) ∧ 31 + 2 = 33 := ⟨by decide +kernel, rfl⟩
theorem d_LB_types_33 : decode mm_LB_types.2.1 33 = .ok (.iload 5, 2) ∧ 33 + 2 = 35 := ⟨by decide +kernel, rfl⟩
theorem d_LB_types_35 : decode mm_LB_types.2.1 35 = .ok (.ifCond .ge 6, 3) ∧ 35 + 3 = 38 ∧ ((35 : Nat) : Int) + (6) = ((41 : Nat) : Int) := ⟨by decide +kernel, rfl, by decide⟩
theorem d_LB_types_38 : decode mm_LB_types.2.1 38 = .ok (.iload 5, 2) ∧ 38 + 2 = 40 := ⟨by decide +kernel, rfl⟩
theorem d_LB_types_40 : decode mm_LB_types.2.1 40 = .ok (.ireturn, 1) := by decide +kernel
theorem d_LB_types_41 : decode mm_LB_types.2.1 41 = .ok (.iinc 3 (-8), 3) ∧ 41 + 3 = 44 := ⟨by decide +kernel, rfl⟩
theorem d_LB_types_44 : decode mm_LB_types.2.1 44 = .ok (.goto (-41), 3) ∧ 44 + 3 = 47 ∧ ((44 : Nat) : Int) + (-41) = ((3 : Nat) : Int) := ⟨by decide +kernel, rfl, by decide⟩
theorem d_LB_types_47 : decode mm_LB_types.2.1 47 = .ok (.aload_n 0, 1) ∧ 47 + 1 = 48 := ⟨by decide +kernel, rfl⟩
theorem d_LB_types_48 : decode mm_LB_types.2.1 48 = .ok (.getfield 12, 3) ∧ 48 + 3 = 51 := ⟨by decide +kernel, rfl⟩
theorem d_LB_types_51 : decode mm_LB_types.2.1 51 = .ok (.getfield 46, 3) ∧ 51 + 3 = 54 := ⟨by decide +kernel, rfl⟩
theorem d_LB_types_54 : decode mm_LB_types.2.1 54 = .ok (.ireturn, 1) := by decide +kernel
theorem d_LB_define_0 : decode mm_LB_define.2.1 0 = .ok (.iload_n 1, 1) ∧ 0 + 1 = 1 := ⟨by decide +kernel, rfl⟩
theorem d_LB_define_1 : decode mm_LB_define.2.1 1 = .ok (.invokestatic 49, 3) ∧ 1 + 3 = 4 := ⟨by decide +kernel, rfl⟩
theorem d_LB_define_4 : decode mm_LB_define.2.1 4 = .ok (.ifCond .ne 5, 3) ∧ 4 + 3 = 7 ∧ ((4 : Nat) : Int) + (5) = ((9 : Nat) : Int) := ⟨by decide +kernel, rfl, by decide⟩
theorem d_LB_define_7 : decode mm_LB_define.2.1 7 = .ok (.iconst (-1), 1) ∧ 7 + 1 = 8 := ⟨by decide +kernel, rfl⟩
theorem d_LB_define_8 : decode mm_LB_define.2.1 8 = .ok (.ireturn, 1) := by decide +kernel
theorem d_LB_define_9 : decode mm_LB_define.2.1 9 = .ok (.aload_n 0, 1) ∧ 9 + 1 = 10 := ⟨by decide +kernel, rfl⟩
theorem d_LB_define_10 : decode mm_LB_define.2.1 10 = .ok (.invokevirtual 53, 3) ∧ 10 + 3 = 13 := ⟨by decide +kernel, rfl⟩
theorem d_LB_define_13 : decode mm_LB_define.2.1 13 = .ok (.ifCond .ne 6, 3) ∧ 13 + 3 = 16 ∧ ((13 : Nat) : Int) + (6) = ((19 : Nat) : Int) := ⟨by decide +kernel, rfl, by decide⟩
theorem d_LB_define_16 : decode mm_LB_define.2.1 16 = .ok (.bipush (-3), 2) ∧ 16 + 2 = 18 := ⟨by decide +kernel, rfl⟩
theorem d_LB_define_18 : decode mm_LB_define.2.1 18 = .ok (.ireturn, 1) := by decide +kernel
theorem d_LB_define_19 : decode mm_LB_define.2.1 19 = .ok (.aload_n 0, 1) ∧ 19 + 1 = 20 := ⟨by decide +kernel, rfl⟩
theorem d_LB_define_20 : decode mm_LB_define.2.1 20 = .ok (.getfield 12, 3) ∧ 20 + 3 = 23 := ⟨by decide +kernel, rfl⟩
theorem d_LB_define_23 : decode mm_LB_define.2.1 23 = .ok (.getfield 57, 3) ∧ 23 + 3 = 26 := ⟨by decide +kernel, rfl⟩
theorem d_LB_define_26 : decode mm_LB_define.2.1 26 = .ok (.istore_n 2, 1) ∧ 26 + 1 = 27 := ⟨by decide +kernel, rfl⟩
theorem d_LB_define_27 : decode mm_LB_define.2.1 27 = .ok (.aload_n 0, 1) ∧ 27 + 1 = 28 := ⟨by decide +kernel, rfl⟩
theorem d_LB_define_28 : decode mm_LB_define.2.1 28 = .ok (.getfield 28, 3) ∧ 28 + 3 = 31 := ⟨by decide +kernel, rfl⟩
theorem d_LB_define_31 : decode mm_LB_define.2.1 31 = .ok (.iload_n 1, 1) ∧ 31 + 1 = 32 := ⟨by decide +kernel, rfl⟩
theorem d_LB_define_32 : decode mm_LB_define.2.1 32 = .ok (.aload_n 0, 1) ∧ 32 + 1 = 33 := ⟨by decide +kernel, rfl⟩
theorem d_LB_define_33 : decode mm_LB_define.2.1 33 = .ok (.getfield 12, 3) ∧ 33 + 3 = 36 := ⟨by decide +kernel, rfl⟩
theorem d_LB_define_36 : decode mm_LB_define.2.1 36 = .ok (.invokevirtual 60, 3) ∧ 36 + 3 = 39 := ⟨by decide +kernel, rfl⟩
theorem d_LB_define_39 : decode mm_LB_define.2.1 39 = .ok (.aload_n 0, 1) ∧ 39 + 1 = 40 := ⟨by decide +kernel, rfl⟩
theorem d_LB_define_40 : decode mm_LB_define.2.1 40 = .ok (.getfield 12, 3) ∧ 40 + 3 = 43 := ⟨by decide +kernel, rfl⟩
theorem d_LB_define_43 : decode mm_LB_define.2.1 43 = .ok (.invokevirtual 64, 3) ∧ 43 + 3 = 46 := ⟨by decide +kernel, rfl⟩
theorem d_LB_define_46 : decode mm_LB_define.2.1 46 = .ok (.iload_n 2, 1) ∧ 46 + 1 = 47 := ⟨by decide +kernel, rfl⟩
theorem d_LB_define_47 : decode mm_LB_define.2.1 47 = .ok (.ireturn, 1) := by decide +kernel
theorem d_LB_undefine_0 : decode mm_LB_undefine.2.1 0 = .ok (.iload_n 1, 1) ∧ 0 + 1 = 1 := ⟨by decide +kernel, rfl⟩
theorem d_LB_undefine_1 : decode mm_LB_undefine.2.1 1 = .ok (.invokestatic 49, 3) ∧ 1 + 3 = 4 := ⟨by decide +kernel, rfl⟩
theorem d_LB_undefine_4 : decode mm_LB_undefine.2.1 4 = .ok (.ifCond .eq 18, 3) ∧ 4 + 3 = 7 ∧ ((4 : Nat) : Int) + (18) = ((22 : Nat) : Int) := ⟨by decide +kernel, rfl, by decide⟩
theorem d_LB_undefine_7 : decode mm_LB_undefine.2.1 7 = .ok (.aload_n 0, 1) ∧ 7 + 1 = 8 := ⟨by decide +kernel, rfl⟩
theorem d_LB_undefine_8 : decode mm_LB_undefine.2.1 8 = .ok (.getfield 28, 3) ∧ 8 + 3 = 11 := ⟨by decide +kernel, rfl⟩
theorem d_LB_undefine_11 : decode mm_LB_undefine.2.1 11 = .ok (.getfield 67, 3) ∧ 11 + 3 = 14 := ⟨by decide +kernel, rfl⟩
theorem d_LB_undefine_14 : decode mm_LB_undefine.2.1 14 = .ok (.iload_n 1, 1) ∧ 14 + 1 = 15 := ⟨by decide +kernel, rfl⟩
theorem d_LB_undefine_15 : decode mm_LB_undefine.2.1 15 = .ok (.aaload, 1) ∧ 15 + 1 = 16 := ⟨by decide +kernel, rfl⟩
theorem d_LB_undefine_16 : decode mm_LB_undefine.2.1 16 = .ok (.getfield 71, 3) ∧ 16 + 3 = 19 := ⟨by decide +kernel, rfl⟩
theorem d_LB_undefine_19 : decode mm_LB_undefine.2.1 19 = .ok (.ifCond .ne 5, 3) ∧ 19 + 3 = 22 ∧ ((19 : Nat) : Int) + (5) = ((24 : Nat) : Int) := ⟨by decide +kernel, rfl, by decide⟩
theorem d_LB_undefine_22 : decode mm_LB_undefine.2.1 22 = .ok (.iconst (-1), 1) ∧ 22 + 1 = 23 := ⟨by decide +kernel, rfl⟩
theorem d_LB_undefine_23 : decode mm_LB_undefine.2.1 23 = .ok (.ireturn, 1) := by decide +kernel
theorem d_LB_undefine_24 : decode mm_LB_undefine.2.1 24 = .ok (.aload_n 0, 1) ∧ 24 + 1 = 25 := ⟨by decide +kernel, rfl⟩
theorem d_LB_undefine_25 : decode mm_LB_undefine.2.1 25 = .ok (.getfield 28, 3) ∧ 25 + 3 = 28 := ⟨by decide +kernel, rfl⟩
theorem d_LB_undefine_28 : decode mm_LB_undefine.2.1 28 = .ok (.iload_n 1, 1) ∧ 28 + 1 = 29 := ⟨by decide +kernel, rfl⟩
theorem d_LB_undefine_29 : decode mm_LB_undefine.2.1 29 = .ok (.invokevirtual 77, 3) ∧ 29 + 3 = 32 := ⟨by decide +kernel, rfl⟩
theorem d_LB_undefine_32 : decode mm_LB_undefine.2.1 32 = .ok (.iconst 0, 1) ∧ 32 + 1 = 33 := ⟨by decide +kernel, rfl⟩
theorem d_LB_undefine_33 : decode mm_LB_undefine.2.1 33 = .ok (.ireturn, 1) := by decide +kernel
theorem d_LB_force_0 : decode mm_LB_force.2.1 0 = .ok (.iload_n 1, 1) ∧ 0 + 1 = 1 := ⟨by decide +kernel, rfl⟩
theorem d_LB_force_1 : decode mm_LB_force.2.1 1 = .ok (.invokestatic 49, 3) ∧ 1 + 3 = 4 := ⟨by decide +kernel, rfl⟩
theorem d_LB_force_4 : decode mm_LB_force.2.1 4 = .ok (.ifCond .ne 5, 3) ∧ 4 + 3 = 7 ∧ ((4 : Nat) : Int) + (5) = ((9 : Nat) : Int) := ⟨by decide +kernel, rfl, by decide⟩
theorem d_LB_force_7 : decode mm_LB_force.2.1 7 = .ok (.iconst (-1), 1) ∧ 7 + 1 = 8 := ⟨by decide +kernel, rfl⟩
theorem d_LB_force_8 : decode mm_LB_force.2.1 8 = .ok (.ireturn, 1) := by decide +kernel
theorem d_LB_force_9 : decode mm_LB_force.2.1 9 = .ok (.aload_n 0, 1) ∧ 9 + 1 = 10 := ⟨by decide +kernel, rfl⟩
theorem d_LB_force_10 : decode mm_LB_force.2.1 10 = .ok (.getfield 28, 3) ∧ 10 + 3 = 13 := ⟨by decide +kernel, rfl⟩
theorem d_LB_force_13 : decode mm_LB_force.2.1 13 = .ok (.invokevirtual 81, 3) ∧ 13 + 3 = 16 := ⟨by decide +kernel, rfl⟩
theorem d_LB_force_16 : decode mm_LB_force.2.1 16 = .ok (.ifCond .eq 6, 3) ∧ 16 + 3 = 19 ∧ ((16 : Nat) : Int) + (6) = ((22 : Nat) : Int) := ⟨by decide +kernel, rfl, by decide⟩
theorem d_LB_force_19 : decode mm_LB_force.2.1 19 = .ok (.bipush (-11), 2) ∧ 19 + 2 = 21 := ⟨by decide +kernel, rfl⟩
theorem d_LB_force_21 : decode mm_LB_force.2.1 21 = .ok (.ireturn, 1) := by decide +kernel
theorem d_LB_force_22 : decode mm_LB_force.2.1 22 = .ok (.aload_n 0, 1) ∧ 22 + 1 = 23 := ⟨by decide +kernel, rfl⟩
theorem d_LB_force_23 : decode mm_LB_force.2.1 23 = .ok (.getfield 28, 3) ∧ 23 + 3 = 26 := ⟨by decide +kernel, rfl⟩
theorem d_LB_force_26 : decode mm_LB_force.2.1 26 = .ok (.aload_n 0, 1) ∧ 26 + 1 = 27 := ⟨by decide +kernel, rfl⟩
theorem d_LB_force_27 : decode mm_LB_force.2.1 27 = .ok (.getfield 28, 3) ∧ 27 + 3 = 30 := ⟨by decide +kernel, rfl⟩
theorem d_LB_force_30 : decode mm_LB_force.2.1 30 = .ok (.iload_n 1, 1) ∧ 30 + 1 = 31 := ⟨by decide +kernel, rfl⟩
theorem d_LB_force_31 : decode mm_LB_force.2.1 31 = .ok (.invokevirtual 84, 3) ∧ 31 + 3 = 34 := ⟨by decide +kernel, rfl⟩
theorem d_LB_force_34 : decode mm_LB_force.2.1 34 = .ok (.invokevirtual 88, 3) ∧ 34 + 3 = 37 := ⟨by decide +kernel, rfl⟩
theorem d_LB_force_37 : decode mm_LB_force.2.1 37 = .ok (.ireturn, 1) := by decide +kernel
theorem d_LB_show_0 : decode mm_LB_show.2.1 0 = .ok (.aload_n 0, 1) ∧ 0 + 1 = 1 := ⟨by decide +kernel, rfl⟩
theorem d_LB_show_1 : decode mm_LB_show.2.1 1 = .ok (.invokevirtual 53, 3) ∧ 1 + 3 = 4 := ⟨by decide +kernel, rfl⟩
theorem d_LB_show_4 : decode mm_LB_show.2.1 4 = .ok (.ifCond .ne 6, 3) ∧ 4 + 3 = 7 ∧ ((4 : Nat) : Int) + (6) = ((10 : Nat) : Int) := ⟨by decide +kernel, rfl, by decide⟩
theorem d_LB_show_7 : decode mm_LB_show.2.1 7 = .ok (.bipush (-3), 2) ∧ 7 + 2 = 9 := ⟨by decide +kernel, rfl⟩
theorem d_LB_show_9 : decode mm_LB_show.2.1 9 = .ok (.ireturn, 1) := by decide +kernel
theorem d_LB_show_10 : decode mm_LB_show.2.1 10 = .ok (.aload_n 0, 1) ∧ 10 + 1 = 11 := ⟨by decide +kernel, rfl⟩
theorem d_LB_show_11 : decode mm_LB_show.2.1 11 = .ok (.getfield 28, 3) ∧ 11 + 3 = 14 := ⟨by decide +kernel, rfl⟩
theorem d_LB_show_14 : decode mm_LB_show.2.1 14 = .ok (.invokevirtual 81, 3) ∧ 14 + 3 = 17 := ⟨by decide +kernel, rfl⟩
theorem d_LB_show_17 : decode mm_LB_show.2.1 17 = .ok (.ifCond .eq 13, 3) ∧ 17 + 3 = 20 ∧ ((17 : Nat) : Int) + (13) = ((30 : Nat) : Int) := ⟨by decide +kernel, rfl, by decide⟩
theorem d_LB_show_20 : decode mm_LB_show.2.1 20 = .ok (.aload_n 0, 1) ∧ 20 + 1 = 21 := ⟨by decide +kernel, rfl⟩
theorem d_LB_show_21 : decode mm_LB_show.2.1 21 = .ok (.getfield 12, 3) ∧ 21 + 3 = 24 := ⟨by decide +kernel, rfl⟩
theorem d_LB_show_24 : decode mm_LB_show.2.1 24 = .ok (.invokevirtual 64, 3) ∧ 24 + 3 = 27 := ⟨by decide +kernel, rfl⟩
theorem d_LB_show_27 : decode mm_LB_show.2.1 27 = .ok (.bipush (-11), 2) ∧ 27 + 2 = 29 := ⟨by decide +kernel, rfl⟩
theorem d_LB_show_29 : decode mm_LB_show.2.1 29 = .ok (.ireturn, 1) := by decide +kernel
theorem d_LB_show_30 : decode mm_LB_show.2.1 30 = .ok (.aload_n 0, 1) ∧ 30 + 1 = 31 := ⟨by decide +kernel, rfl⟩
theorem d_LB_show_31 : decode mm_LB_show.2.1 31 = .ok (.getfield 28, 3) ∧ 31 + 3 = 34 := ⟨by decide +kernel, rfl⟩
theorem d_LB_show_34 : decode mm_LB_show.2.1 34 = .ok (.aload_n 0, 1) ∧ 34 + 1 = 35 := ⟨by decide +kernel, rfl⟩
theorem d_LB_show_35 : decode mm_LB_show.2.1 35 = .ok (.getfield 12, 3) ∧ 35 + 3 = 38 := ⟨by decide +kernel, rfl⟩
theorem d_LB_show_38 : decode mm_LB_show.2.1 38 = .ok (.invokevirtual 92, 3) ∧ 38 + 3 = 41 := ⟨by decide +kernel, rfl⟩
theorem d_LB_show_41 : decode mm_LB_show.2.1 41 = .ok (.lstore_n 1, 1) ∧ 41 + 1 = 42 := ⟨by decide +kernel, rfl⟩
theorem d_LB_show_42 : decode mm_LB_show.2.1 42 = .ok (.aload_n 0, 1) ∧ 42 + 1 = 43 := ⟨by decide +kernel, rfl⟩
theorem d_LB_show_43 : decode mm_LB_show.2.1 43 = .ok (.getfield 12, 3) ∧ 43 + 3 = 46 := ⟨by decide +kernel, rfl⟩
theorem d_LB_show_46 : decode mm_LB_show.2.1 46 = .ok (.invokevirtual 64, 3) ∧ 46 + 3 = 49 := ⟨by decide +kernel, rfl⟩
theorem d_LB_show_49 : decode mm_LB_show.2.1 49 = .ok (.lload_n 1, 1) ∧ 49 + 1 = 50 := ⟨by decide +kernel, rfl⟩
theorem d_LB_show_50 : decode mm_LB_show.2.1 50 = .ok (.invokestatic 96, 3) ∧ 50 + 3 = 53 := ⟨by decide +kernel, rfl⟩
theorem d_LB_show_53 : decode mm_LB_show.2.1 53 = .ok (.ifCond .ne 8, 3) ∧ 53 + 3 = 56 ∧ ((53 : Nat) : Int) + (8) = ((61 : Nat) : Int) := ⟨by decide +kernel, rfl, by decide⟩
theorem d_LB_show_56 : decode mm_LB_show.2.1 56 = .ok (.aload_n 0, 1) ∧ 56 + 1 = 57 := ⟨by decide +kernel, rfl⟩
theorem d_LB_show_57 : decode mm_LB_show.2.1 57 = .ok (.lload_n 1, 1) ∧ 57 + 1 = 58 := ⟨by decide +kernel, rfl⟩
theorem d_LB_show_58 : decode mm_LB_show.2.1 58 = .ok (.putfield 34, 3) ∧ 58 + 3 = 61 := ⟨by decide +kernel, rfl⟩
theorem d_LB_show_61 : decode mm_LB_show.2.1 61 = .ok (.aload_n 0, 1) ∧ 61 + 1 = 62 := ⟨by decide +kernel, rfl⟩
theorem d_LB_show_62 : decode mm_LB_show.2.1 62 = .ok (.getfield 28, 3) ∧ 62 + 3 = 65 := ⟨by decide +kernel, rfl⟩
theorem d_LB_show_65 : decode mm_LB_show.2.1 65 = .ok (.lload_n 1, 1) ∧ 65 + 1 = 66 := ⟨by decide +kernel, rfl⟩
theorem d_LB_show_66 : decode mm_LB_show.2.1 66 = .ok (.invokevirtual 88, 3) ∧ 66 + 3 = 69 := ⟨by decide +kernel, rfl⟩
theorem d_LB_show_69 : decode mm_LB_show.2.1 69 = .ok (.ireturn, 1) := by decide +kernel
theorem d_LB_value_0 : decode mm_LB_value.2.1 0 = .ok (.iload_n 1, 1) ∧ 0 + 1 = 1 := ⟨by decide +kernel, rfl⟩
theorem d_LB_value_1 : decode mm_LB_value.2.1 1 = .ok (.bipush 8, 2) ∧ 1 + 2 = 3 := ⟨by decide +kernel, rfl⟩
theorem d_LB_value_3 : decode mm_LB_value.2.1 3 = .ok (.if_icmp .ne 8, 3) ∧ 3 + 3 = 6 ∧ ((3 : Nat) : Int) + (8) = ((11 : Nat) : Int) := ⟨by decide +kernel, rfl, by decide⟩
theorem d_LB_value_6 : decode mm_LB_value.2.1 6 = .ok (.aload_n 0, 1) ∧ 6 + 1 = 7 := ⟨by decide +kernel, rfl⟩
theorem d_LB_value_7 : decode mm_LB_value.2.1 7 = .ok (.getfield 34, 3) ∧ 7 + 3 = 10 := ⟨by decide +kernel, rfl⟩
theorem d_LB_value_10 : decode mm_LB_value.2.1 10 = .ok (.lreturn, 1) := by decide +kernel
theorem d_LB_value_11 : decode mm_LB_value.2.1 11 = .ok (.iload_n 1, 1) ∧ 11 + 1 = 12 := ⟨by decide +kernel, rfl⟩
theorem d_LB_value_12 : decode mm_LB_value.2.1 12 = .ok (.invokestatic 49, 3) ∧ 12 + 3 = 15 := ⟨by decide +kernel, rfl⟩
theorem d_LB_value_15 : decode mm_LB_value.2.1 15 = .ok (.ifCond .eq 18, 3) ∧ 15 + 3 = 18 ∧ ((15 : Nat) : Int) + (18) = ((33 : Nat) : Int) := ⟨by decide +kernel, rfl, by decide⟩
theorem d_LB_value_18 : decode mm_LB_value.2.1 18 = .ok (.aload_n 0, 1) ∧ 18 + 1 = 19 := ⟨by decide +kernel, rfl⟩
theorem d_LB_value_19 : decode mm_LB_value.2.1 19 = .ok (.getfield 28, 3) ∧ 19 + 3 = 22 := ⟨by decide +kernel, rfl⟩
theorem d_LB_value_22 : decode mm_LB_value.2.1 22 = .ok (.getfield 67, 3) ∧ 22 + 3 = 25 := ⟨by decide +kernel, rfl⟩
theorem d_LB_value_25 : decode mm_LB_value.2.1 25 = .ok (.iload_n 1, 1) ∧ 25 + 1 = 26 := ⟨by decide +kernel, rfl⟩
theorem d_LB_value_26 : decode mm_LB_value.2.1 26 = .ok (.aaload, 1) ∧ 26 + 1 = 27 := ⟨by decide +kernel, rfl⟩
theorem d_LB_value_27 : decode mm_LB_value.2.1 27 = .ok (.getfield 100, 3) ∧ 27 + 3 = 30 := ⟨by decide +kernel, rfl⟩
theorem d_LB_value_30 : decode mm_LB_value.2.1 30 = .ok (.goto 6, 3) ∧ 30 + 3 = 33 ∧ ((30 : Nat) : Int) + (6) = ((36 : Nat) : Int) := ⟨by decide +kernel, rfl, by decide⟩
theorem d_LB_value_33 : decode mm_LB_value.2.1 33 = .ok (.ldc2_w 32, 3) ∧ 33 + 3 = 36 := ⟨by decide +kernel, rfl⟩
theorem d_LB_value_36 : decode mm_LB_value.2.1 36 = .ok (.lreturn, 1) := by decide +kernel
theorem d_LB_builder_0 : decode mm_LB_builder.2.1 0 = .ok (.iload_n 1, 1) ∧ 0 + 1 = 1 := ⟨by decide +kernel, rfl⟩
theorem d_LB_builder_1 : decode mm_LB_builder.2.1 1 = .ok (.ifCond .lt 18, 3) ∧ 1 + 3 = 4 ∧ ((1 : Nat) : Int) + (18) = ((19 : Nat) : Int) := ⟨by decide +kernel, rfl, by decide⟩
theorem d_LB_builder_4 : decode mm_LB_builder.2.1 4 = .ok (.iload_n 1, 1) ∧ 4 + 1 = 5 := ⟨by decide +kernel, rfl⟩
theorem d_LB_builder_5 : decode mm_LB_builder.2.1 5 = .ok (.bipush 10, 2) ∧ 5 + 2 = 7 := ⟨by decide +kernel, rfl⟩
theorem d_LB_builder_7 : decode mm_LB_builder.2.1 7 = .ok (.if_icmp .ge 12, 3) ∧ 7 + 3 = 10 ∧ ((7 : Nat) : Int) + (12) = ((19 : Nat) : Int) := ⟨by decide +kernel, rfl, by decide⟩
theorem d_LB_builder_10 : decode mm_LB_builder.2.1 10 = .ok (.iload_n 2, 1) ∧ 10 + 1 = 11 := ⟨by decide +kernel, rfl⟩
theorem d_LB_builder_11 : decode mm_LB_builder.2.1 11 = .ok (.ifCond .lt 8, 3) ∧ 11 + 3 = 14 ∧ ((11 : Nat) : Int) + (8) = ((19 : Nat) : Int) := ⟨by decide +kernel, rfl, by decide⟩
theorem d_LB_builder_14 : decode mm_LB_builder.2.1 14 = .ok (.iload_n 2, 1) ∧ 14 + 1 = 15 := ⟨by decide +kernel, rfl⟩
theorem d_LB_builder_15 : decode mm_LB_builder.2.1 15 = .ok (.iconst 4, 1) ∧ 15 + 1 = 16 := ⟨by decide +kernel, rfl⟩
theorem d_LB_builder_16 : decode mm_LB_builder.2.1 16 = .ok (.if_icmp .le 5, 3) ∧ 16 + 3 = 19 ∧ ((16 : Nat) : Int) + (5) = ((21 : Nat) : Int) := ⟨by decide +kernel, rfl, by decide⟩
theorem d_LB_builder_19 : decode mm_LB_builder.2.1 19 = .ok (.iconst (-1), 1) ∧ 19 + 1 = 20 := ⟨by decide +kernel, rfl⟩
theorem d_LB_builder_20 : decode mm_LB_builder.2.1 20 = .ok (.ireturn, 1) := by decide +kernel
theorem d_LB_builder_21 : decode mm_LB_builder.2.1 21 = .ok (.aload_n 0, 1) ∧ 21 + 1 = 22 := ⟨by decide +kernel, rfl⟩
theorem d_LB_builder_22 : decode mm_LB_builder.2.1 22 = .ok (.getfield 19, 3) ∧ 22 + 3 = 25 := ⟨by decide +kernel, rfl⟩
theorem d_LB_builder_25 : decode mm_LB_builder.2.1 25 = .ok (.getfield 103, 3) ∧ 25 + 3 = 28 := ⟨by decide +kernel, rfl⟩
theorem d_LB_builder_28 : decode mm_LB_builder.2.1 28 = .ok (.iload_n 1, 1) ∧ 28 + 1 = 29 := ⟨by decide +kernel, rfl⟩
theorem d_LB_builder_29 : decode mm_LB_builder.2.1 29 = .ok (.iload_n 2, 1) ∧ 29 + 1 = 30 := ⟨by decide +kernel, rfl⟩
theorem d_LB_builder_30 : decode mm_LB_builder.2.1 30 = .ok (.iastore, 1) ∧ 30 + 1 = 31 := ⟨by decide +kernel, rfl⟩
theorem d_LB_builder_31 : decode mm_LB_builder.2.1 31 = .ok (.iconst 0, 1) ∧ 31 + 1 = 32 := ⟨by decide +kernel, rfl⟩
theorem d_LB_builder_32 : decode mm_LB_builder.2.1 32 = .ok (.ireturn, 1) := by decide +kernel
theorem d_LB_build_0 : decode mm_LB_build.2.1 0 = .ok (.aload_n 0, 1) ∧ 0 + 1 = 1 := ⟨by decide +kernel, rfl⟩
theorem d_LB_build_1 : decode mm_LB_build.2.1 1 = .ok (.getfield 19, 3) ∧ 1 + 3 = 4 := ⟨by decide +kernel, rfl⟩
theorem d_LB_build_4 : decode mm_LB_build.2.1 4 = .ok (.iload_n 1, 1) ∧ 4 + 1 = 5 := ⟨by decide +kernel, rfl⟩
theorem d_LB_build_5 : decode mm_LB_build.2.1 5 = .ok (.invokevirtual 107, 3) ∧ 5 + 3 = 8 := ⟨by decide +kernel, rfl⟩
theorem d_LB_build_8 : decode mm_LB_build.2.1 8 = .ok (.ifnonnull 5, 3) ∧ 8 + 3 = 11 ∧ ((8 : Nat) : Int) + (5) = ((13 : Nat) : Int) := ⟨by decide +kernel, rfl, by decide⟩
theorem d_LB_build_11 : decode mm_LB_build.2.1 11 = .ok (.iconst (-1), 1) ∧ 11 + 1 = 12 := ⟨by decide +kernel, rfl⟩
theorem d_LB_build_12 : decode mm_LB_build.2.1 12 = .ok (.ireturn, 1) := by decide +kernel
theorem d_LB_build_13 : decode mm_LB_build.2.1 13 = .ok (.aload_n 0, 1) ∧ 13 + 1 = 14 := ⟨by decide +kernel, rfl⟩
theorem d_LB_build_14 : decode mm_LB_build.2.1 14 = .ok (.getfield 28, 3) ∧ 14 + 3 = 17 := ⟨by decide +kernel, rfl⟩
theorem d_LB_build_17 : decode mm_LB_build.2.1 17 = .ok (.invokevirtual 81, 3) ∧ 17 + 3 = 20 := ⟨by decide +kernel, rfl⟩
theorem d_LB_build_20 : decode mm_LB_build.2.1 20 = .ok (.ifCond .eq 6, 3) ∧ 20 + 3 = 23 ∧ ((20 : Nat) : Int) + (6) = ((26 : Nat) : Int) := ⟨by decide +kernel, rfl, by decide⟩
theorem d_LB_build_23 : decode mm_LB_build.2.1 23 = .ok (.bipush (-11), 2) ∧ 23 + 2 = 25 := ⟨by decide +kernel, rfl⟩
theorem d_LB_build_25 : decode mm_LB_build.2.1 25 = .ok (.ireturn, 1) := by decide +kernel
theorem d_LB_build_26 : decode mm_LB_build.2.1 26 = .ok (.aload_n 0, 1) ∧ 26 + 1 = 27 := ⟨by decide +kernel, rfl⟩
theorem d_LB_build_27 : decode mm_LB_build.2.1 27 = .ok (.getfield 28, 3) ∧ 27 + 3 = 30 := ⟨by decide +kernel, rfl⟩
theorem d_LB_build_30 : decode mm_LB_build.2.1 30 = .ok (.aload_n 0, 1) ∧ 30 + 1 = 31 := ⟨by decide +kernel, rfl⟩
theorem d_LB_build_31 : decode mm_LB_build.2.1 31 = .ok (.getfield 19, 3) ∧ 31 + 3 = 34 := ⟨by decide +kernel, rfl⟩
theorem d_LB_build_34 : decode mm_LB_build.2.1 34 = .ok (.ldc2_w 111, 3) ∧ 34 + 3 = 37 := ⟨by decide +kernel, rfl⟩
theorem d_LB_build_37 : decode mm_LB_build.2.1 37 = .ok (.iload_n 1, 1) ∧ 37 + 1 = 38 := ⟨by decide +kernel, rfl⟩
theorem d_LB_build_38 : decode mm_LB_build.2.1 38 = .ok (.i2l, 1) ∧ 38 + 1 = 39 := ⟨by decide +kernel, rfl⟩
theorem d_LB_build_39 : decode mm_LB_build.2.1 39 = .ok (.ladd, 1) ∧ 39 + 1 = 40 := ⟨by decide +kernel, rfl⟩
theorem d_LB_build_40 : decode mm_LB_build.2.1 40 = .ok (.bipush 30, 2) ∧ 40 + 2 = 42 := ⟨by decide +kernel, rfl⟩
theorem d_LB_build_42 : decode mm_LB_build.2.1 42 = .ok (.invokevirtual 113, 3) ∧ 42 + 3 = 45 := ⟨by decide +kernel, rfl⟩
theorem d_LB_build_45 : decode mm_LB_build.2.1 45 = .ok (.invokevirtual 88, 3) ∧ 45 + 3 = 48 := ⟨by decide +kernel, rfl⟩
theorem d_LB_build_48 : decode mm_LB_build.2.1 48 = .ok (.ireturn, 1) := by decide +kernel
theorem d_LB_root_0 : decode mm_LB_root.2.1 0 = .ok (.aload_n 0, 1) ∧ 0 + 1 = 1 := ⟨by decide +kernel, rfl⟩
theorem d_LB_root_1 : decode mm_LB_root.2.1 1 = .ok (.getfield 19, 3) ∧ 1 + 3 = 4 := ⟨by decide +kernel, rfl⟩
theorem d_LB_root_4 : decode mm_LB_root.2.1 4 = .ok (.iload_n 1, 1) ∧ 4 + 1 = 5 := ⟨by decide +kernel, rfl⟩
theorem d_LB_root_5 : decode mm_LB_root.2.1 5 = .ok (.invokevirtual 107, 3) ∧ 5 + 3 = 8 := ⟨by decide +kernel, rfl⟩
theorem d_LB_root_8 : decode mm_LB_root.2.1 8 = .ok (.astore_n 3, 1) ∧ 8 + 1 = 9 := ⟨by decide +kernel, rfl⟩
theorem d_LB_root_9 : decode mm_LB_root.2.1 9 = .ok (.aload_n 3, 1) ∧ 9 + 1 = 10 := ⟨by decide +kernel, rfl⟩
theorem d_LB_root_10 : decode mm_LB_root.2.1 10 = .ok (.ifnonnull 5, 3) ∧ 10 + 3 = 13 ∧ ((10 : Nat) : Int) + (5) = ((15 : Nat) : Int) := ⟨by decide +kernel, rfl, by decide⟩
theorem d_LB_root_13 : decode mm_LB_root.2.1 13 = .ok (.iconst (-1), 1) ∧ 13 + 1 = 14 := ⟨by decide +kernel, rfl⟩
theorem d_LB_root_14 : decode mm_LB_root.2.1 14 = .ok (.ireturn, 1) := by decide +kernel
theorem d_LB_root_15 : decode mm_LB_root.2.1 15 = .ok (.aload_n 3, 1) ∧ 15 + 1 = 16 := ⟨by decide +kernel, rfl⟩
theorem d_LB_root_16 : decode mm_LB_root.2.1 16 = .ok (.iload_n 2, 1) ∧ 16 + 1 = 17 := ⟨by decide +kernel, rfl⟩
theorem d_LB_root_17 : decode mm_LB_root.2.1 17 = .ok (.putfield 117, 3) ∧ 17 + 3 = 20 := ⟨by decide +kernel, rfl⟩
theorem d_LB_root_20 : decode mm_LB_root.2.1 20 = .ok (.iconst 0, 1) ∧ 20 + 1 = 21 := ⟨by decide +kernel, rfl⟩
theorem d_LB_root_21 : decode mm_LB_root.2.1 21 = .ok (.ireturn, 1) := by decide +kernel
theorem d_LB_collect_0 : decode mm_LB_collect.2.1 0 = .ok (.aload_n 0, 1) ∧ 0 + 1 = 1 := ⟨by decide +kernel, rfl⟩
theorem d_LB_collect_1 : decode mm_LB_collect.2.1 1 = .ok (.getfield 19, 3) ∧ 1 + 3 = 4 := ⟨by decide +kernel, rfl⟩
theorem d_LB_collect_4 : decode mm_LB_collect.2.1 4 = .ok (.invokevirtual 122, 3) ∧ 4 + 3 = 7 := ⟨by decide +kernel, rfl⟩
theorem d_LB_collect_7 : decode mm_LB_collect.2.1 7 = .ok (.ireturn, 1) := by decide +kernel
theorem d_LB_input_0 : decode mm_LB_input.2.1 0 = .ok (.aload_n 0, 1) ∧ 0 + 1 = 1 := ⟨by decide +kernel, rfl⟩
theorem d_LB_input_1 : decode mm_LB_input.2.1 1 = .ok (.getfield 19, 3) ∧ 1 + 3 = 4 := ⟨by decide +kernel, rfl⟩
theorem d_LB_input_4 : decode mm_LB_input.2.1 4 = .ok (.iload_n 1, 1) ∧ 4 + 1 = 5 := ⟨by decide +kernel, rfl⟩
theorem d_LB_input_5 : decode mm_LB_input.2.1 5 = .ok (.invokevirtual 107, 3) ∧ 5 + 3 = 8 := ⟨by decide +kernel, rfl⟩
theorem d_LB_input_8 : decode mm_LB_input.2.1 8 = .ok (.astore_n 3, 1) ∧ 8 + 1 = 9 := ⟨by decide +kernel, rfl⟩
theorem d_LB_input_9 : decode mm_LB_input.2.1 9 = .ok (.aload_n 3, 1) ∧ 9 + 1 = 10 := ⟨by decide +kernel, rfl⟩
theorem d_LB_input_10 : decode mm_LB_input.2.1 10 = .ok (.ifnull 16, 3) ∧ 10 + 3 = 13 ∧ ((10 : Nat) : Int) + (16) = ((26 : Nat) : Int) := ⟨by decide +kernel, rfl, by decide⟩
theorem d_LB_input_13 : decode mm_LB_input.2.1 13 = .ok (.iload_n 2, 1) ∧ 13 + 1 = 14 := ⟨by decide +kernel, rfl⟩
theorem d_LB_input_14 : decode mm_LB_input.2.1 14 = .ok (.ifCond .lt 12, 3) ∧ 14 + 3 = 17 ∧ ((14 : Nat) : Int) + (12) = ((26 : Nat) : Int) := ⟨by decide +kernel, rfl, by decide⟩
theorem d_LB_input_17 : decode mm_LB_input.2.1 17 = .ok (.iload_n 2, 1) ∧ 17 + 1 = 18 := ⟨by decide +kernel, rfl⟩
theorem d_LB_input_18 : decode mm_LB_input.2.1 18 = .ok (.aload_n 3, 1) ∧ 18 + 1 = 19 := ⟨by decide +kernel, rfl⟩
theorem d_LB_input_19 : decode mm_LB_input.2.1 19 = .ok (.getfield 126, 3) ∧ 19 + 3 = 22 := ⟨by decide +kernel, rfl⟩
theorem d_LB_input_22 : decode mm_LB_input.2.1 22 = .ok (.arraylength, 1) ∧ 22 + 1 = 23 := ⟨by decide +kernel, rfl⟩
theorem d_LB_input_23 : decode mm_LB_input.2.1 23 = .ok (.if_icmp .lt 7, 3) ∧ 23 + 3 = 26 ∧ ((23 : Nat) : Int) + (7) = ((30 : Nat) : Int) := ⟨by decide +kernel, rfl, by decide⟩
theorem d_LB_input_26 : decode mm_LB_input.2.1 26 = .ok (.ldc2_w 32, 3) ∧ 26 + 3 = 29 := ⟨by decide +kernel, rfl⟩
theorem d_LB_input_29 : decode mm_LB_input.2.1 29 = .ok (.lreturn, 1) := by decide +kernel
theorem d_LB_input_30 : decode mm_LB_input.2.1 30 = .ok (.aload_n 3, 1) ∧ 30 + 1 = 31 := ⟨by decide +kernel, rfl⟩
theorem d_LB_input_31 : decode mm_LB_input.2.1 31 = .ok (.getfield 126, 3) ∧ 31 + 3 = 34 := ⟨by decide +kernel, rfl⟩
theorem d_LB_input_34 : decode mm_LB_input.2.1 34 = .ok (.iload_n 2, 1) ∧ 34 + 1 = 35 := ⟨by decide +kernel, rfl⟩
theorem d_LB_input_35 : decode mm_LB_input.2.1 35 = .ok (.laload, 1) ∧ 35 + 1 = 36 := ⟨by decide +kernel, rfl⟩
theorem d_LB_input_36 : decode mm_LB_input.2.1 36 = .ok (.lreturn, 1) := by decide +kernel
theorem d_LB_plan_0 : decode mm_LB_plan.2.1 0 = .ok (.aload_n 0, 1) ∧ 0 + 1 = 1 := ⟨by decide +kernel, rfl⟩
theorem d_LB_plan_1 : decode mm_LB_plan.2.1 1 = .ok (.getfield 19, 3) ∧ 1 + 3 = 4 := ⟨by decide +kernel, rfl⟩
theorem d_LB_plan_4 : decode mm_LB_plan.2.1 4 = .ok (.iload_n 1, 1) ∧ 4 + 1 = 5 := ⟨by decide +kernel, rfl⟩
theorem d_LB_plan_5 : decode mm_LB_plan.2.1 5 = .ok (.invokevirtual 107, 3) ∧ 5 + 3 = 8 := ⟨by decide +kernel, rfl⟩
theorem d_LB_plan_8 : decode mm_LB_plan.2.1 8 = .ok (.astore_n 3, 1) ∧ 8 + 1 = 9 := ⟨by decide +kernel, rfl⟩
theorem d_LB_plan_9 : decode mm_LB_plan.2.1 9 = .ok (.aload_n 3, 1) ∧ 9 + 1 = 10 := ⟨by decide +kernel, rfl⟩
theorem d_LB_plan_10 : decode mm_LB_plan.2.1 10 = .ok (.ifnonnull 5, 3) ∧ 10 + 3 = 13 ∧ ((10 : Nat) : Int) + (5) = ((15 : Nat) : Int) := ⟨by decide +kernel, rfl, by decide⟩
theorem d_LB_plan_13 : decode mm_LB_plan.2.1 13 = .ok (.iconst (-1), 1) ∧ 13 + 1 = 14 := ⟨by decide +kernel, rfl⟩
theorem d_LB_plan_14 : decode mm_LB_plan.2.1 14 = .ok (.ireturn, 1) := by decide +kernel
theorem d_LB_plan_15 : decode mm_LB_plan.2.1 15 = .ok (.iload_n 2, 1) ∧ 15 + 1 = 16 := ⟨by decide +kernel, rfl⟩
theorem d_LB_plan_16 : decode mm_LB_plan.2.1 16 = .ok (.tableswitch 78 0 4 #[36, 41, 47, 60, 65], 36) := by decide +kernel
theorem d_LB_plan_52 : decode mm_LB_plan.2.1 52 = .ok (.aload_n 3, 1) ∧ 52 + 1 = 53 := ⟨by decide +kernel, rfl⟩
theorem d_LB_plan_53 : decode mm_LB_plan.2.1 53 = .ok (.getfield 130, 3) ∧ 53 + 3 = 56 := ⟨by decide +kernel, rfl⟩
theorem d_LB_plan_56 : decode mm_LB_plan.2.1 56 = .ok (.ireturn, 1) := by decide +kernel
theorem d_LB_plan_57 : decode mm_LB_plan.2.1 57 = .ok (.aload_n 3, 1) ∧ 57 + 1 = 58 := ⟨by decide +kernel, rfl⟩
theorem d_LB_plan_58 : decode mm_LB_plan.2.1 58 = .ok (.getfield 126, 3) ∧ 58 + 3 = 61 := ⟨by decide +kernel, rfl⟩
theorem d_LB_plan_61 : decode mm_LB_plan.2.1 61 = .ok (.arraylength, 1) ∧ 61 + 1 = 62 := ⟨by decide +kernel, rfl⟩
theorem d_LB_plan_62 : decode mm_LB_plan.2.1 62 = .ok (.ireturn, 1) := by decide +kernel
theorem d_LB_plan_63 : decode mm_LB_plan.2.1 63 = .ok (.aload_n 3, 1) ∧ 63 + 1 = 64 := ⟨by decide +kernel, rfl⟩
theorem d_LB_plan_64 : decode mm_LB_plan.2.1 64 = .ok (.getfield 133, 3) ∧ 64 + 3 = 67 := ⟨by decide +kernel, rfl⟩
theorem d_LB_plan_67 : decode mm_LB_plan.2.1 67 = .ok (.ifCond .eq 7, 3) ∧ 67 + 3 = 70 ∧ ((67 : Nat) : Int) + (7) = ((74 : Nat) : Int) := ⟨by decide +kernel, rfl, by decide⟩
theorem d_LB_plan_70 : decode mm_LB_plan.2.1 70 = .ok (.iconst 1, 1) ∧ 70 + 1 = 71 := ⟨by decide +kernel, rfl⟩
theorem d_LB_plan_71 : decode mm_LB_plan.2.1 71 = .ok (.goto 4, 3) ∧ 71 + 3 = 74 ∧ ((71 : Nat) : Int) + (4) = ((75 : Nat) : Int) := ⟨by decide +kernel, rfl, by decide⟩
theorem d_LB_plan_74 : decode mm_LB_plan.2.1 74 = .ok (.iconst 0, 1) ∧ 74 + 1 = 75 := ⟨by decide +kernel, rfl⟩
theorem d_LB_plan_75 : decode mm_LB_plan.2.1 75 = .ok (.ireturn, 1) := by decide +kernel
theorem d_LB_plan_76 : decode mm_LB_plan.2.1 76 = .ok (.aload_n 3, 1) ∧ 76 + 1 = 77 := ⟨by decide +kernel, rfl⟩
theorem d_LB_plan_77 : decode mm_LB_plan.2.1 77 = .ok (.getfield 136, 3) ∧ 77 + 3 = 80 := ⟨by decide +kernel, rfl⟩
theorem d_LB_plan_80 : decode mm_LB_plan.2.1 80 = .ok (.ireturn, 1) := by decide +kernel
theorem d_LB_plan_81 : decode mm_LB_plan.2.1 81 = .ok (.aload_n 3, 1) ∧ 81 + 1 = 82 := ⟨by decide +kernel, rfl⟩
theorem d_LB_plan_82 : decode mm_LB_plan.2.1 82 = .ok (.getfield 117, 3) ∧ 82 + 3 = 85 := ⟨by decide +kernel, rfl⟩
theorem d_LB_plan_85 : decode mm_LB_plan.2.1 85 = .ok (.ifCond .eq 7, 3) ∧ 85 + 3 = 88 ∧ ((85 : Nat) : Int) + (7) = ((92 : Nat) : Int) := ⟨by decide +kernel, rfl, by decide⟩
theorem d_LB_plan_88 : decode mm_LB_plan.2.1 88 = .ok (.iconst 1, 1) ∧ 88 + 1 = 89 := ⟨by decide +kernel, rfl⟩
theorem d_LB_plan_89 : decode mm_LB_plan.2.1 89 = .ok (.goto 4, 3) ∧ 89 + 3 = 92 ∧ ((89 : Nat) : Int) + (4) = ((93 : Nat) : Int) := ⟨by decide +kernel, rfl, by decide⟩
theorem d_LB_plan_92 : decode mm_LB_plan.2.1 92 = .ok (.iconst 0, 1) ∧ 92 + 1 = 93 := ⟨by decide +kernel, rfl⟩
theorem d_LB_plan_93 : decode mm_LB_plan.2.1 93 = .ok (.ireturn, 1) := by decide +kernel
theorem d_LB_plan_94 : decode mm_LB_plan.2.1 94 = .ok (.iconst (-1), 1) ∧ 94 + 1 = 95 := ⟨by decide +kernel, rfl⟩
theorem d_LB_plan_95 : decode mm_LB_plan.2.1 95 = .ok (.ireturn, 1) := by decide +kernel
theorem d_LB_count_0 : decode mm_LB_count.2.1 0 = .ok (.iload_n 1, 1) ∧ 0 + 1 = 1 := ⟨by decide +kernel, rfl⟩
theorem d_LB_count_1 : decode mm_LB_count.2.1 1 = .ok (.tableswitch 108 0 7 #[47, 55, 63, 71, 79, 87, 92, 100], 47) := by decide +kernel
theorem d_LB_count_48 : decode mm_LB_count.2.1 48 = .ok (.aload_n 0, 1) ∧ 48 + 1 = 49 := ⟨by decide +kernel, rfl⟩
theorem d_LB_count_49 : decode mm_LB_count.2.1 49 = .ok (.getfield 19, 3) ∧ 49 + 3 = 52 := ⟨by decide +kernel, rfl⟩
theorem d_LB_count_52 : decode mm_LB_count.2.1 52 = .ok (.getfield 139, 3) ∧ 52 + 3 = 55 := ⟨by decide +kernel, rfl⟩
theorem d_LB_count_55 : decode mm_LB_count.2.1 55 = .ok (.ireturn, 1) := by decide +kernel
theorem d_LB_count_56 : decode mm_LB_count.2.1 56 = .ok (.aload_n 0, 1) ∧ 56 + 1 = 57 := ⟨by decide +kernel, rfl⟩
theorem d_LB_count_57 : decode mm_LB_count.2.1 57 = .ok (.getfield 19, 3) ∧ 57 + 3 = 60 := ⟨by decide +kernel, rfl⟩
theorem d_LB_count_60 : decode mm_LB_count.2.1 60 = .ok (.getfield 142, 3) ∧ 60 + 3 = 63 := ⟨by decide +kernel, rfl⟩
theorem d_LB_count_63 : decode mm_LB_count.2.1 63 = .ok (.ireturn, 1) := by decide +kernel
theorem d_LB_count_64 : decode mm_LB_count.2.1 64 = .ok (.aload_n 0, 1) ∧ 64 + 1 = 65 := ⟨by decide +kernel, rfl⟩
theorem d_LB_count_65 : decode mm_LB_count.2.1 65 = .ok (.getfield 28, 3) ∧ 65 + 3 = 68 := ⟨by decide +kernel, rfl⟩
theorem d_LB_count_68 : decode mm_LB_count.2.1 68 = .ok (.getfield 145, 3) ∧ 68 + 3 = 71 := ⟨by decide +kernel, rfl⟩
theorem d_LB_count_71 : decode mm_LB_count.2.1 71 = .ok (.ireturn, 1) := by decide +kernel
theorem d_LB_count_72 : decode mm_LB_count.2.1 72 = .ok (.aload_n 0, 1) ∧ 72 + 1 = 73 := ⟨by decide +kernel, rfl⟩
theorem d_LB_count_73 : decode mm_LB_count.2.1 73 = .ok (.getfield 28, 3) ∧ 73 + 3 = 76 := ⟨by decide +kernel, rfl⟩
theorem d_LB_count_76 : decode mm_LB_count.2.1 76 = .ok (.getfield 148, 3) ∧ 76 + 3 = 79 := ⟨by decide +kernel, rfl⟩
theorem d_LB_count_79 : decode mm_LB_count.2.1 79 = .ok (.ireturn, 1) := by decide +kernel
theorem d_LB_count_80 : decode mm_LB_count.2.1 80 = .ok (.aload_n 0, 1) ∧ 80 + 1 = 81 := ⟨by decide +kernel, rfl⟩
theorem d_LB_count_81 : decode mm_LB_count.2.1 81 = .ok (.getfield 12, 3) ∧ 81 + 3 = 84 := ⟨by decide +kernel, rfl⟩
theorem d_LB_count_84 : decode mm_LB_count.2.1 84 = .ok (.getfield 46, 3) ∧ 84 + 3 = 87 := ⟨by decide +kernel, rfl⟩
theorem d_LB_count_87 : decode mm_LB_count.2.1 87 = .ok (.ireturn, 1) := by decide +kernel
theorem d_LB_count_88 : decode mm_LB_count.2.1 88 = .ok (.aload_n 0, 1) ∧ 88 + 1 = 89 := ⟨by decide +kernel, rfl⟩
theorem d_LB_count_89 : decode mm_LB_count.2.1 89 = .ok (.getfield 38, 3) ∧ 89 + 3 = 92 := ⟨by decide +kernel, rfl⟩
theorem d_LB_count_92 : decode mm_LB_count.2.1 92 = .ok (.ireturn, 1) := by decide +kernel
theorem d_LB_count_93 : decode mm_LB_count.2.1 93 = .ok (.aload_n 0, 1) ∧ 93 + 1 = 94 := ⟨by decide +kernel, rfl⟩
theorem d_LB_count_94 : decode mm_LB_count.2.1 94 = .ok (.getfield 28, 3) ∧ 94 + 3 = 97 := ⟨by decide +kernel, rfl⟩
theorem d_LB_count_97 : decode mm_LB_count.2.1 97 = .ok (.invokevirtual 151, 3) ∧ 97 + 3 = 100 := ⟨by decide +kernel, rfl⟩
theorem d_LB_count_100 : decode mm_LB_count.2.1 100 = .ok (.ireturn, 1) := by decide +kernel
theorem d_LB_count_101 : decode mm_LB_count.2.1 101 = .ok (.aload_n 0, 1) ∧ 101 + 1 = 102 := ⟨by decide +kernel, rfl⟩
theorem d_LB_count_102 : decode mm_LB_count.2.1 102 = .ok (.getfield 28, 3) ∧ 102 + 3 = 105 := ⟨by decide +kernel, rfl⟩
theorem d_LB_count_105 : decode mm_LB_count.2.1 105 = .ok (.invokevirtual 154, 3) ∧ 105 + 3 = 108 := ⟨by decide +kernel, rfl⟩
theorem d_LB_count_108 : decode mm_LB_count.2.1 108 = .ok (.ireturn, 1) := by decide +kernel
theorem d_LB_count_109 : decode mm_LB_count.2.1 109 = .ok (.iconst (-1), 1) ∧ 109 + 1 = 110 := ⟨by decide +kernel, rfl⟩
theorem d_LB_count_110 : decode mm_LB_count.2.1 110 = .ok (.ireturn, 1) := by decide +kernel
theorem d_LB_readLine_0 : decode mm_LB_readLine.2.1 0 = .ok (.aload_n 0, 1) ∧ 0 + 1 = 1 := ⟨by decide +kernel, rfl⟩
theorem d_LB_readLine_1 : decode mm_LB_readLine.2.1 1 = .ok (.getfield 12, 3) ∧ 1 + 3 = 4 := ⟨by decide +kernel, rfl⟩
theorem d_LB_readLine_4 : decode mm_LB_readLine.2.1 4 = .ok (.invokevirtual 157, 3) ∧ 4 + 3 = 7 := ⟨by decide +kernel, rfl⟩
theorem d_LB_readLine_7 : decode mm_LB_readLine.2.1 7 = .ok (.ifCond .eq 5, 3) ∧ 7 + 3 = 10 ∧ ((7 : Nat) : Int) + (5) = ((12 : Nat) : Int) := ⟨by decide +kernel, rfl, by decide⟩
theorem d_LB_readLine_10 : decode mm_LB_readLine.2.1 10 = .ok (.iconst 1, 1) ∧ 10 + 1 = 11 := ⟨by decide +kernel, rfl⟩
theorem d_LB_readLine_11 : decode mm_LB_readLine.2.1 11 = .ok (.ireturn, 1) := by decide +kernel
theorem d_LB_readLine_12 : decode mm_LB_readLine.2.1 12 = .ok (.aload_n 0, 1) ∧ 12 + 1 = 13 := ⟨by decide +kernel, rfl⟩
theorem d_LB_readLine_13 : decode mm_LB_readLine.2.1 13 = .ok (.aload_n 0, 1) ∧ 13 + 1 = 14 := ⟨by decide +kernel, rfl⟩
theorem d_LB_readLine_14 : decode mm_LB_readLine.2.1 14 = .ok (.getfield 12, 3) ∧ 14 + 3 = 17 := ⟨by decide +kernel, rfl⟩
theorem d_LB_readLine_17 : decode mm_LB_readLine.2.1 17 = .ok (.getfield 160, 3) ∧ 17 + 3 = 20 := ⟨by decide +kernel, rfl⟩
theorem d_LB_readLine_20 : decode mm_LB_readLine.2.1 20 = .ok (.putfield 38, 3) ∧ 20 + 3 = 23 := ⟨by decide +kernel, rfl⟩
theorem d_LB_readLine_23 : decode mm_LB_readLine.2.1 23 = .ok (.aload_n 0, 1) ∧ 23 + 1 = 24 := ⟨by decide +kernel, rfl⟩
theorem d_LB_readLine_24 : decode mm_LB_readLine.2.1 24 = .ok (.getfield 12, 3) ∧ 24 + 3 = 27 := ⟨by decide +kernel, rfl⟩
theorem d_LB_readLine_27 : decode mm_LB_readLine.2.1 27 = .ok (.invokevirtual 64, 3) ∧ 27 + 3 = 30 := ⟨by decide +kernel, rfl⟩
theorem d_LB_readLine_30 : decode mm_LB_readLine.2.1 30 = .ok (.iconst 0, 1) ∧ 30 + 1 = 31 := ⟨by decide +kernel, rfl⟩
theorem d_LB_readLine_31 : decode mm_LB_readLine.2.1 31 = .ok (.ireturn, 1) := by decide +kernel
theorem d_LB_isNameNumber_0 : decode mm_LB_isNameNumber.2.1 0 = .ok (.iload_n 0, 1) ∧ 0 + 1 = 1 := ⟨by decide +kernel, rfl⟩
theorem d_LB_isNameNumber_1 : decode mm_LB_isNameNumber.2.1 1 = .ok (.ifCond .lt 13, 3) ∧ 1 + 3 = 4 ∧ ((1 : Nat) : Int) + (13) = ((14 : Nat) : Int) := ⟨by decide +kernel, rfl, by decide⟩
theorem d_LB_isNameNumber_4 : decode mm_LB_isNameNumber.2.1 4 = .ok (.iload_n 0, 1) ∧ 4 + 1 = 5 := ⟨by decide +kernel, rfl⟩
theorem d_LB_isNameNumber_5 : decode mm_LB_isNameNumber.2.1 5 = .ok (.bipush 8, 2) ∧ 5 + 2 = 7 := ⟨by decide +kernel, rfl⟩
theorem d_LB_isNameNumber_7 : decode mm_LB_isNameNumber.2.1 7 = .ok (.if_icmp .ge 7, 3) ∧ 7 + 3 = 10 ∧ ((7 : Nat) : Int) + (7) = ((14 : Nat) : Int) := ⟨by decide +kernel, rfl, by decide⟩
theorem d_LB_isNameNumber_10 : decode mm_LB_isNameNumber.2.1 10 = .ok (.iconst 1, 1) ∧ 10 + 1 = 11 := ⟨by decide +kernel, rfl⟩
theorem d_LB_isNameNumber_11 : decode mm_LB_isNameNumber.2.1 11 = .ok (.goto 4, 3) ∧ 11 + 3 = 14 ∧ ((11 : Nat) : Int) + (4) = ((15 : Nat) : Int) := ⟨by decide +kernel, rfl, by decide⟩
theorem d_LB_isNameNumber_14 : decode mm_LB_isNameNumber.2.1 14 = .ok (.iconst 0, 1) ∧ 14 + 1 = 15 := ⟨by decide +kernel, rfl⟩
theorem d_LB_isNameNumber_15 : decode mm_LB_isNameNumber.2.1 15 = .ok (.ireturn, 1) := by decide +kernel
theorem d_LB_isDigit_0 : decode mm_LB_isDigit.2.1 0 = .ok (.iload_n 0, 1) ∧ 0 + 1 = 1 := ⟨by decide +kernel, rfl⟩
theorem d_LB_isDigit_1 : decode mm_LB_isDigit.2.1 1 = .ok (.bipush 48, 2) ∧ 1 + 2 = 3 := ⟨by decide +kernel, rfl⟩
theorem d_LB_isDigit_3 : decode mm_LB_isDigit.2.1 3 = .ok (.if_icmp .lt 13, 3) ∧ 3 + 3 = 6 ∧ ((3 : Nat) : Int) + (13) = ((16 : Nat) : Int) := ⟨by decide +kernel, rfl, by decide⟩
theorem d_LB_isDigit_6 : decode mm_LB_isDigit.2.1 6 = .ok (.iload_n 0, 1) ∧ 6 + 1 = 7 := ⟨by decide +kernel, rfl⟩
theorem d_LB_isDigit_7 : decode mm_LB_isDigit.2.1 7 = .ok (.bipush 57, 2) ∧ 7 + 2 = 9 := ⟨by decide +kernel, rfl⟩
theorem d_LB_isDigit_9 : decode mm_LB_isDigit.2.1 9 = .ok (.if_icmp .gt 7, 3) ∧ 9 + 3 = 12 ∧ ((9 : Nat) : Int) + (7) = ((16 : Nat) : Int) := ⟨by decide +kernel, rfl, by decide⟩
theorem d_LB_isDigit_12 : decode mm_LB_isDigit.2.1 12 = .ok (.iconst 1, 1) ∧ 12 + 1 = 13 := ⟨by decide +kernel, rfl⟩
theorem d_LB_isDigit_13 : decode mm_LB_isDigit.2.1 13 = .ok (.goto 4, 3) ∧ 13 + 3 = 16 ∧ ((13 : Nat) : Int) + (4) = ((17 : Nat) : Int) := ⟨by decide +kernel, rfl, by decide⟩
theorem d_LB_isDigit_16 : decode mm_LB_isDigit.2.1 16 = .ok (.iconst 0, 1) ∧ 16 + 1 = 17 := ⟨by decide +kernel, rfl⟩
theorem d_LB_isDigit_17 : decode mm_LB_isDigit.2.1 17 = .ok (.ireturn, 1) := by decide +kernel
theorem d_LB_isLetter_0 : decode mm_LB_isLetter.2.1 0 = .ok (.iload_n 0, 1) ∧ 0 + 1 = 1 := ⟨by decide +kernel, rfl⟩
theorem d_LB_isLetter_1 : decode mm_LB_isLetter.2.1 1 = .ok (.bipush 97, 2) ∧ 1 + 2 = 3 := ⟨by decide +kernel, rfl⟩
theorem d_LB_isLetter_3 : decode mm_LB_isLetter.2.1 3 = .ok (.if_icmp .lt 13, 3) ∧ 3 + 3 = 6 ∧ ((3 : Nat) : Int) + (13) = ((16 : Nat) : Int) := ⟨by decide +kernel, rfl, by decide⟩
theorem d_LB_isLetter_6 : decode mm_LB_isLetter.2.1 6 = .ok (.iload_n 0, 1) ∧ 6 + 1 = 7 := ⟨by decide +kernel, rfl⟩
theorem d_LB_isLetter_7 : decode mm_LB_isLetter.2.1 7 = .ok (.bipush 105, 2) ∧ 7 + 2 = 9 := ⟨by decide +kernel, rfl⟩
theorem d_LB_isLetter_9 : decode mm_LB_isLetter.2.1 9 = .ok (.if_icmp .ge 7, 3) ∧ 9 + 3 = 12 ∧ ((9 : Nat) : Int) + (7) = ((16 : Nat) : Int) := ⟨by decide +kernel, rfl, by decide⟩
theorem d_LB_isLetter_12 : decode mm_LB_isLetter.2.1 12 = .ok (.iconst 1, 1) ∧ 12 + 1 = 13 := ⟨by decide +kernel, rfl⟩
theorem d_LB_isLetter_13 : decode mm_LB_isLetter.2.1 13 = .ok (.goto 4, 3) ∧ 13 + 3 = 16 ∧ ((13 : Nat) : Int) + (4) = ((17 : Nat) : Int) := ⟨by decide +kernel, rfl, by decide⟩
theorem d_LB_isLetter_16 : decode mm_LB_isLetter.2.1 16 = .ok (.iconst 0, 1) ∧ 16 + 1 = 17 := ⟨by decide +kernel, rfl⟩
theorem d_LB_isLetter_17 : decode mm_LB_isLetter.2.1 17 = .ok (.ireturn, 1) := by decide +kernel
theorem d_LB_partsAfter_0 : decode mm_LB_partsAfter.2.1 0 = .ok (.iload_n 0, 1) ∧ 0 + 1 = 1 := ⟨by decide +kernel, rfl⟩
theorem d_LB_partsAfter_1 : decode mm_LB_partsAfter.2.1 1 = .ok (.lookupswitch 81 #[(33, 75), (42, 77), (43, 77), (45, 77), (60, 77), (63, 79), (79, 75), (84, 77)], 75) := by decide +kernel
theorem d_LB_partsAfter_76 : decode mm_LB_partsAfter.2.1 76 = .ok (.iconst 1, 1) ∧ 76 + 1 = 77 := ⟨by decide +kernel, rfl⟩
theorem d_LB_partsAfter_77 : decode mm_LB_partsAfter.2.1 77 = .ok (.ireturn, 1) := by decide +kernel
theorem d_LB_partsAfter_78 : decode mm_LB_partsAfter.2.1 78 = .ok (.iconst 2, 1) ∧ 78 + 1 = 79 := ⟨by decide +kernel, rfl⟩
theorem d_LB_partsAfter_79 : decode mm_LB_partsAfter.2.1 79 = .ok (.ireturn, 1) := by decide +kernel
theorem d_LB_partsAfter_80 : decode mm_LB_partsAfter.2.1 80 = .ok (.iconst 3, 1) ∧ 80 + 1 = 81 := ⟨by decide +kernel, rfl⟩
theorem d_LB_partsAfter_81 : decode mm_LB_partsAfter.2.1 81 = .ok (.ireturn, 1) := by decide +kernel
theorem d_LB_partsAfter_82 : decode mm_LB_partsAfter.2.1 82 = .ok (.iconst 0, 1) ∧ 82 + 1 = 83 := ⟨by decide +kernel, rfl⟩
theorem d_LB_partsAfter_83 : decode mm_LB_partsAfter.2.1 83 = .ok (.ireturn, 1) := by decide +kernel
theorem d_LB_isFailure_0 : decode mm_LB_isFailure.2.1 0 = .ok (.lload_n 0, 1) ∧ 0 + 1 = 1 := ⟨by decide +kernel, rfl⟩
theorem d_LB_isFailure_1 : decode mm_LB_isFailure.2.1 1 = .ok (.ldc2_w 32, 3) ∧ 1 + 3 = 4 := ⟨by decide +kernel, rfl⟩
theorem d_LB_isFailure_4 : decode mm_LB_isFailure.2.1 4 = .ok (.lcmp, 1) ∧ 4 + 1 = 5 := ⟨by decide +kernel, rfl⟩
theorem d_LB_isFailure_5 : decode mm_LB_isFailure.2.1 5 = .ok (.ifCond .ge 7, 3) ∧ 5 + 3 = 8 ∧ ((5 : Nat) : Int) + (7) = ((12 : Nat) : Int) := ⟨by decide +kernel, rfl, by decide⟩
theorem d_LB_isFailure_8 : decode mm_LB_isFailure.2.1 8 = .ok (.iconst 1, 1) ∧ 8 + 1 = 9 := ⟨by decide +kernel, rfl⟩
theorem d_LB_isFailure_9 : decode mm_LB_isFailure.2.1 9 = .ok (.goto 4, 3) ∧ 9 + 3 = 12 ∧ ((9 : Nat) : Int) + (4) = ((13 : Nat) : Int) := ⟨by decide +kernel, rfl, by decide⟩
theorem d_LB_isFailure_12 : decode mm_LB_isFailure.2.1 12 = .ok (.iconst 0, 1) ∧ 12 + 1 = 13 := ⟨by decide +kernel, rfl⟩
theorem d_LB_isFailure_13 : decode mm_LB_isFailure.2.1 13 = .ok (.ireturn, 1) := by decide +kernel
theorem d_LB_isPlan_0 : decode mm_LB_isPlan.2.1 0 = .ok (.lload_n 0, 1) ∧ 0 + 1 = 1 := ⟨by decide +kernel, rfl⟩
theorem d_LB_isPlan_1 : decode mm_LB_isPlan.2.1 1 = .ok (.ldc2_w 111, 3) ∧ 1 + 3 = 4 := ⟨by decide +kernel, rfl⟩
theorem d_LB_isPlan_4 : decode mm_LB_isPlan.2.1 4 = .ok (.lcmp, 1) ∧ 4 + 1 = 5 := ⟨by decide +kernel, rfl⟩
theorem d_LB_isPlan_5 : decode mm_LB_isPlan.2.1 5 = .ok (.ifCond .le 7, 3) ∧ 5 + 3 = 8 ∧ ((5 : Nat) : Int) + (7) = ((12 : Nat) : Int) := ⟨by decide +kernel, rfl, by decide⟩
theorem d_LB_isPlan_8 : decode mm_LB_isPlan.2.1 8 = .ok (.iconst 1, 1) ∧ 8 + 1 = 9 := ⟨by decide +kernel, rfl⟩
theorem d_LB_isPlan_9 : decode mm_LB_isPlan.2.1 9 = .ok (.goto 4, 3) ∧ 9 + 3 = 12 ∧ ((9 : Nat) : Int) + (4) = ((13 : Nat) : Int) := ⟨by decide +kernel, rfl, by decide⟩
theorem d_LB_isPlan_12 : decode mm_LB_isPlan.2.1 12 = .ok (.iconst 0, 1) ∧ 12 + 1 = 13 := ⟨by decide +kernel, rfl⟩
theorem d_LB_isPlan_13 : decode mm_LB_isPlan.2.1 13 = .ok (.ireturn, 1) := by decide +kernel
theorem d_LBText_init_0 : decode mm_LBText_init.2.1 0 = .ok (.aload_n 0, 1) ∧ 0 + 1 = 1 := ⟨by decide +kernel, rfl⟩
theorem d_LBText_init_1 : decode mm_LBText_init.2.1 1 = .ok (.invokespecial 3, 3) ∧ 1 + 3 = 4 := ⟨by decide +kernel, rfl⟩
theorem d_LBText_init_4 : decode mm_LBText_init.2.1 4 = .ok (.aload_n 0, 1) ∧ 4 + 1 = 5 := ⟨by decide +kernel, rfl⟩
theorem d_LBText_init_5 : decode mm_LBText_init.2.1 5 = .ok (.bipush 24, 2) ∧ 5 + 2 = 7 := ⟨by decide +kernel, rfl⟩
theorem d_LBText_init_7 : decode mm_LBText_init.2.1 7 = .ok (.newarray .int, 2) ∧ 7 + 2 = 9 := ⟨by decide +kernel, rfl⟩
theorem d_LBText_init_9 : decode mm_LBText_init.2.1 9 = .ok (.putfield 9, 3) ∧ 9 + 3 = 12 := ⟨by decide +kernel, rfl⟩
theorem d_LBText_init_12 : decode mm_LBText_init.2.1 12 = .ok (.aload_n 0, 1) ∧ 12 + 1 = 13 := ⟨by decide +kernel, rfl⟩
theorem d_LBText_init_13 : decode mm_LBText_init.2.1 13 = .ok (.bipush 24, 2) ∧ 13 + 2 = 15 := ⟨by decide +kernel, rfl⟩
theorem d_LBText_init_15 : decode mm_LBText_init.2.1 15 = .ok (.newarray .int, 2) ∧ 15 + 2 = 17 := ⟨by decide +kernel, rfl⟩
theorem d_LBText_init_17 : decode mm_LBText_init.2.1 17 = .ok (.putfield 15, 3) ∧ 17 + 3 = 20 := ⟨by decide +kernel, rfl⟩
theorem d_LBText_init_20 : decode mm_LBText_init.2.1 20 = .ok (.return_, 1) := by decide +kernel
theorem d_LBText_append_0 : decode mm_LBText_append.2.1 0 = .ok (.iload_n 1, 1) ∧ 0 + 1 = 1 := ⟨by decide +kernel, rfl⟩
theorem d_LBText_append_1 : decode mm_LBText_append.2.1 1 = .ok (.invokestatic 18, 3) ∧ 1 + 3 = 4 := ⟨by decide +kernel, rfl⟩
theorem d_LBText_append_4 : decode mm_LBText_append.2.1 4 = .ok (.ifCond .ne 5, 3) ∧ 4 + 3 = 7 ∧ ((4 : Nat) : Int) + (5) = ((9 : Nat) : Int) := ⟨by decide +kernel, rfl, by decide⟩
theorem d_LBText_append_7 : decode mm_LBText_append.2.1 7 = .ok (.iconst (-1), 1) ∧ 7 + 1 = 8 := ⟨by decide +kernel, rfl⟩
theorem d_LBText_append_8 : decode mm_LBText_append.2.1 8 = .ok (.ireturn, 1) := by decide +kernel
theorem d_LBText_append_9 : decode mm_LBText_append.2.1 9 = .ok (.aload_n 0, 1) ∧ 9 + 1 = 10 := ⟨by decide +kernel, rfl⟩
theorem d_LBText_append_10 : decode mm_LBText_append.2.1 10 = .ok (.getfield 22, 3) ∧ 10 + 3 = 13 := ⟨by decide +kernel, rfl⟩
theorem d_LBText_append_13 : decode mm_LBText_append.2.1 13 = .ok (.bipush 24, 2) ∧ 13 + 2 = 15 := ⟨by decide +kernel, rfl⟩
theorem d_LBText_append_15 : decode mm_LBText_append.2.1 15 = .ok (.if_icmp .lt 6, 3) ∧ 15 + 3 = 18 ∧ ((15 : Nat) : Int) + (6) = ((21 : Nat) : Int) := ⟨by decide +kernel, rfl, by decide⟩
theorem d_LBText_append_18 : decode mm_LBText_append.2.1 18 = .ok (.bipush (-2), 2) ∧ 18 + 2 = 20 := ⟨by decide +kernel, rfl⟩
theorem d_LBText_append_20 : decode mm_LBText_append.2.1 20 = .ok (.ireturn, 1) := by decide +kernel
theorem d_LBText_append_21 : decode mm_LBText_append.2.1 21 = .ok (.aload_n 0, 1) ∧ 21 + 1 = 22 := ⟨by decide +kernel, rfl⟩
theorem d_LBText_append_22 : decode mm_LBText_append.2.1 22 = .ok (.getfield 9, 3) ∧ 22 + 3 = 25 := ⟨by decide +kernel, rfl⟩
theorem d_LBText_append_25 : decode mm_LBText_append.2.1 25 = .ok (.aload_n 0, 1) ∧ 25 + 1 = 26 := ⟨by decide +kernel, rfl⟩
theorem d_LBText_append_26 : decode mm_LBText_append.2.1 26 = .ok (.getfield 22, 3) ∧ 26 + 3 = 29 := ⟨by decide +kernel, rfl⟩
theorem d_LBText_append_29 : decode mm_LBText_append.2.1 29 = .ok (.iload_n 1, 1) ∧ 29 + 1 = 30 := ⟨by decide +kernel, rfl⟩
theorem d_LBText_append_30 : decode mm_LBText_append.2.1 30 = .ok (.iastore, 1) ∧ 30 + 1 = 31 := ⟨by decide +kernel, rfl⟩
theorem d_LBText_append_31 : decode mm_LBText_append.2.1 31 = .ok (.aload_n 0, 1) ∧ 31 + 1 = 32 := ⟨by decide +kernel, rfl⟩
theorem d_LBText_append_32 : decode mm_LBText_append.2.1 32 = .ok (.dup, 1) ∧ 32 + 1 = 33 := ⟨by decide +kernel, rfl⟩
theorem d_LBText_append_33 : decode mm_LBText_append.2.1 33 = .ok (.getfield 22, 3) ∧ 33 + 3 = 36 := ⟨by decide +kernel, rfl⟩
theorem d_LBText_append_36 : decode mm_LBText_append.2.1 36 = .ok (.iconst 1, 1) ∧ 36 + 1 = 37 := ⟨by decide +kernel, rfl⟩
theorem d_LBText_append_37 : decode mm_LBText_append.2.1 37 = .ok (.iadd, 1) ∧ 37 + 1 = 38 := ⟨by decide +kernel, rfl⟩
theorem d_LBText_append_38 : decode mm_LBText_append.2.1 38 = .ok (.putfield 22, 3) ∧ 38 + 3 = 41 := ⟨by decide +kernel, rfl⟩
theorem d_LBText_append_41 : decode mm_LBText_append.2.1 41 = .ok (.aload_n 0, 1) ∧ 41 + 1 = 42 := ⟨by decide +kernel, rfl⟩
theorem d_LBText_append_42 : decode mm_LBText_append.2.1 42 = .ok (.getfield 22, 3) ∧ 42 + 3 = 45 := ⟨by decide +kernel, rfl⟩
theorem d_LBText_append_45 : decode mm_LBText_append.2.1 45 = .ok (.ireturn, 1) := by decide +kernel
theorem d_LBText_clear_0 : decode mm_LBText_clear.2.1 0 = .ok (.aload_n 0, 1) ∧ 0 + 1 = 1 := ⟨by decide +kernel, rfl⟩
theorem d_LBText_clear_1 : decode mm_LBText_clear.2.1 1 = .ok (.iconst 0, 1) ∧ 1 + 1 = 2 := ⟨by decide +kernel, rfl⟩
theorem d_LBText_clear_2 : decode mm_LBText_clear.2.1 2 = .ok (.putfield 22, 3) ∧ 2 + 3 = 5 := ⟨by decide +kernel, rfl⟩
theorem d_LBText_clear_5 : decode mm_LBText_clear.2.1 5 = .ok (.return_, 1) := by decide +kernel
theorem d_LBText_copyFrom_0 : decode mm_LBText_copyFrom.2.1 0 = .ok (.aload_n 1, 1) ∧ 0 + 1 = 1 := ⟨by decide +kernel, rfl⟩
theorem d_LBText_copyFrom_1 : decode mm_LBText_copyFrom.2.1 1 = .ok (.getfield 9, 3) ∧ 1 + 3 = 4 := ⟨by decide +kernel, rfl⟩
theorem d_LBText_copyFrom_4 : decode mm_LBText_copyFrom.2.1 4 = .ok (.iconst 0, 1) ∧ 4 + 1 = 5 := ⟨by decide +kernel, rfl⟩
theorem d_LBText_copyFrom_5 : decode mm_LBText_copyFrom.2.1 5 = .ok (.aload_n 0, 1) ∧ 5 + 1 = 6 := ⟨by decide +kernel, rfl⟩
theorem d_LBText_copyFrom_6 : decode mm_LBText_copyFrom.2.1 6 = .ok (.getfield 9, 3) ∧ 6 + 3 = 9 := ⟨by decide +kernel, rfl⟩
theorem d_LBText_copyFrom_9 : decode mm_LBText_copyFrom.2.1 9 = .ok (.iconst 0, 1) ∧ 9 + 1 = 10 := ⟨by decide +kernel, rfl⟩
theorem d_LBText_copyFrom_10 : decode mm_LBText_copyFrom.2.1 10 = .ok (.bipush 24, 2) ∧ 10 + 2 = 12 := ⟨by decide +kernel, rfl⟩
theorem d_LBText_copyFrom_12 : decode mm_LBText_copyFrom.2.1 12 = .ok (.invokestatic 26, 3) ∧ 12 + 3 = 15 := ⟨by decide +kernel, rfl⟩
theorem d_LBText_copyFrom_15 : decode mm_LBText_copyFrom.2.1 15 = .ok (.aload_n 1, 1) ∧ 15 + 1 = 16 := ⟨by decide +kernel, rfl⟩
theorem d_LBText_copyFrom_16 : decode mm_LBText_copyFrom.2.1 16 = .ok (.getfield 15, 3) ∧ 16 + 3 = 19 := ⟨by decide +kernel, rfl⟩
theorem d_LBText_copyFrom_19 : decode mm_LBText_copyFrom.2.1 19 = .ok (.iconst 0, 1) ∧ 19 + 1 = 20 := ⟨by decide +kernel, rfl⟩
theorem d_LBText_copyFrom_20 : decode mm_LBText_copyFrom.2.1 20 = .ok (.aload_n 0, 1) ∧ 20 + 1 = 21 := ⟨by decide +kernel, rfl⟩
theorem d_LBText_copyFrom_21 : decode mm_LBText_copyFrom.2.1 21 = .ok (.getfield 15, 3) ∧ 21 + 3 = 24 := ⟨by decide +kernel, rfl⟩
theorem d_LBText_copyFrom_24 : decode mm_LBText_copyFrom.2.1 24 = .ok (.iconst 0, 1) ∧ 24 + 1 = 25 := ⟨by decide +kernel, rfl⟩
theorem d_LBText_copyFrom_25 : decode mm_LBText_copyFrom.2.1 25 = .ok (.bipush 24, 2) ∧ 25 + 2 = 27 := ⟨by decide +kernel, rfl⟩
theorem d_LBText_copyFrom_27 : decode mm_LBText_copyFrom.2.1 27 = .ok (.invokestatic 26, 3) ∧ 27 + 3 = 30 := ⟨by decide +kernel, rfl⟩
theorem d_LBText_copyFrom_30 : decode mm_LBText_copyFrom.2.1 30 = .ok (.aload_n 0, 1) ∧ 30 + 1 = 31 := ⟨by decide +kernel, rfl⟩
theorem d_LBText_copyFrom_31 : decode mm_LBText_copyFrom.2.1 31 = .ok (.aload_n 1, 1) ∧ 31 + 1 = 32 := ⟨by decide +kernel, rfl⟩
theorem d_LBText_copyFrom_32 : decode mm_LBText_copyFrom.2.1 32 = .ok (.getfield 22, 3) ∧ 32 + 3 = 35 := ⟨by decide +kernel, rfl⟩
theorem d_LBText_copyFrom_35 : decode mm_LBText_copyFrom.2.1 35 = .ok (.putfield 22, 3) ∧ 35 + 3 = 38 := ⟨by decide +kernel, rfl⟩
theorem d_LBText_copyFrom_38 : decode mm_LBText_copyFrom.2.1 38 = .ok (.aload_n 0, 1) ∧ 38 + 1 = 39 := ⟨by decide +kernel, rfl⟩
theorem d_LBText_copyFrom_39 : decode mm_LBText_copyFrom.2.1 39 = .ok (.aload_n 1, 1) ∧ 39 + 1 = 40 := ⟨by decide +kernel, rfl⟩
theorem d_LBText_copyFrom_40 : decode mm_LBText_copyFrom.2.1 40 = .ok (.getfield 32, 3) ∧ 40 + 3 = 43 := ⟨by decide +kernel, rfl⟩
theorem d_LBText_copyFrom_43 : decode mm_LBText_copyFrom.2.1 43 = .ok (.putfield 32, 3) ∧ 43 + 3 = 46 := ⟨by decide +kernel, rfl⟩
theorem d_LBText_copyFrom_46 : decode mm_LBText_copyFrom.2.1 46 = .ok (.return_, 1) := by decide +kernel
theorem d_LBText_codeAt_0 : decode mm_LBText_codeAt.2.1 0 = .ok (.iload_n 1, 1) ∧ 0 + 1 = 1 := ⟨by decide +kernel, rfl⟩
theorem d_LBText_codeAt_1 : decode mm_LBText_codeAt.2.1 1 = .ok (.ifCond .lt 20, 3) ∧ 1 + 3 = 4 ∧ ((1 : Nat) : Int) + (20) = ((21 : Nat) : Int) := ⟨by decide +kernel, rfl, by decide⟩
theorem d_LBText_codeAt_4 : decode mm_LBText_codeAt.2.1 4 = .ok (.iload_n 1, 1) ∧ 4 + 1 = 5 := ⟨by decide +kernel, rfl⟩
theorem d_LBText_codeAt_5 : decode mm_LBText_codeAt.2.1 5 = .ok (.aload_n 0, 1) ∧ 5 + 1 = 6 := ⟨by decide +kernel, rfl⟩
theorem d_LBText_codeAt_6 : decode mm_LBText_codeAt.2.1 6 = .ok (.getfield 22, 3) ∧ 6 + 3 = 9 := ⟨by decide +kernel, rfl⟩
theorem d_LBText_codeAt_9 : decode mm_LBText_codeAt.2.1 9 = .ok (.if_icmp .ge 12, 3) ∧ 9 + 3 = 12 ∧ ((9 : Nat) : Int) + (12) = ((21 : Nat) : Int) := ⟨by decide +kernel, rfl, by decide⟩
theorem d_LBText_codeAt_12 : decode mm_LBText_codeAt.2.1 12 = .ok (.aload_n 0, 1) ∧ 12 + 1 = 13 := ⟨by decide +kernel, rfl⟩
theorem d_LBText_codeAt_13 : decode mm_LBText_codeAt.2.1 13 = .ok (.getfield 9, 3) ∧ 13 + 3 = 16 := ⟨by decide +kernel, rfl⟩
theorem d_LBText_codeAt_16 : decode mm_LBText_codeAt.2.1 16 = .ok (.iload_n 1, 1) ∧ 16 + 1 = 17 := ⟨by decide +kernel, rfl⟩
theorem d_LBText_codeAt_17 : decode mm_LBText_codeAt.2.1 17 = .ok (.iaload, 1) ∧ 17 + 1 = 18 := ⟨by decide +kernel, rfl⟩
theorem d_LBText_codeAt_18 : decode mm_LBText_codeAt.2.1 18 = .ok (.goto 4, 3) ∧ 18 + 3 = 21 ∧ ((18 : Nat) : Int) + (4) = ((22 : Nat) : Int) := ⟨by decide +kernel, rfl, by decide⟩
theorem d_LBText_codeAt_21 : decode mm_LBText_codeAt.2.1 21 = .ok (.iconst 0, 1) ∧ 21 + 1 = 22 := ⟨by decide +kernel, rfl⟩
theorem d_LBText_codeAt_22 : decode mm_LBText_codeAt.2.1 22 = .ok (.ireturn, 1) := by decide +kernel
theorem d_LBText_endOf_0 : decode mm_LBText_endOf.2.1 0 = .ok (.iload_n 1, 1) ∧ 0 + 1 = 1 := ⟨by decide +kernel, rfl⟩
theorem d_LBText_endOf_1 : decode mm_LBText_endOf.2.1 1 = .ok (.ifCond .lt 20, 3) ∧ 1 + 3 = 4 ∧ ((1 : Nat) : Int) + (20) = ((21 : Nat) : Int) := ⟨by decide +kernel, rfl, by decide⟩
theorem d_LBText_endOf_4 : decode mm_LBText_endOf.2.1 4 = .ok (.iload_n 1, 1) ∧ 4 + 1 = 5 := ⟨by decide +kernel, rfl⟩
theorem d_LBText_endOf_5 : decode mm_LBText_endOf.2.1 5 = .ok (.aload_n 0, 1) ∧ 5 + 1 = 6 := ⟨by decide +kernel, rfl⟩
theorem d_LBText_endOf_6 : decode mm_LBText_endOf.2.1 6 = .ok (.getfield 22, 3) ∧ 6 + 3 = 9 := ⟨by decide +kernel, rfl⟩
theorem d_LBText_endOf_9 : decode mm_LBText_endOf.2.1 9 = .ok (.if_icmp .ge 12, 3) ∧ 9 + 3 = 12 ∧ ((9 : Nat) : Int) + (12) = ((21 : Nat) : Int) := ⟨by decide +kernel, rfl, by decide⟩
theorem d_LBText_endOf_12 : decode mm_LBText_endOf.2.1 12 = .ok (.aload_n 0, 1) ∧ 12 + 1 = 13 := ⟨by decide +kernel, rfl⟩
theorem d_LBText_endOf_13 : decode mm_LBText_endOf.2.1 13 = .ok (.getfield 15, 3) ∧ 13 + 3 = 16 := ⟨by decide +kernel, rfl⟩
theorem d_LBText_endOf_16 : decode mm_LBText_endOf.2.1 16 = .ok (.iload_n 1, 1) ∧ 16 + 1 = 17 := ⟨by decide +kernel, rfl⟩
theorem d_LBText_endOf_17 : decode mm_LBText_endOf.2.1 17 = .ok (.iaload, 1) ∧ 17 + 1 = 18 := ⟨by decide +kernel, rfl⟩
theorem d_LBText_endOf_18 : decode mm_LBText_endOf.2.1 18 = .ok (.goto 7, 3) ∧ 18 + 3 = 21 ∧ ((18 : Nat) : Int) + (7) = ((25 : Nat) : Int) := ⟨by decide +kernel, rfl, by decide⟩
theorem d_LBText_endOf_21 : decode mm_LBText_endOf.2.1 21 = .ok (.aload_n 0, 1) ∧ 21 + 1 = 22 := ⟨by decide +kernel, rfl⟩
theorem d_LBText_endOf_22 : decode mm_LBText_endOf.2.1 22 = .ok (.getfield 22, 3) ∧ 22 + 3 = 25 := ⟨by decide +kernel, rfl⟩
theorem d_LBText_endOf_25 : decode mm_LBText_endOf.2.1 25 = .ok (.ireturn, 1) := by decide +kernel
theorem d_LBText_read_0 : decode mm_LBText_read.2.1 0 = .ok (.aload_n 0, 1) ∧ 0 + 1 = 1 := ⟨by decide +kernel, rfl⟩
theorem d_LBText_read_1 : decode mm_LBText_read.2.1 1 = .ok (.iconst 0, 1) ∧ 1 + 1 = 2 := ⟨by decide +kernel, rfl⟩
theorem d_LBText_read_2 : decode mm_LBText_read.2.1 2 = .ok (.putfield 32, 3) ∧ 2 + 3 = 5 := ⟨by decide +kernel, rfl⟩
theorem d_LBText_read_5 : decode mm_LBText_read.2.1 5 = .ok (.aload_n 0, 1) ∧ 5 + 1 = 6 := ⟨by decide +kernel, rfl⟩
theorem d_LBText_read_6 : decode mm_LBText_read.2.1 6 = .ok (.iconst 0, 1) ∧ 6 + 1 = 7 := ⟨by decide +kernel, rfl⟩
theorem d_LBText_read_7 : decode mm_LBText_read.2.1 7 = .ok (.iconst 1, 1) ∧ 7 + 1 = 8 := ⟨by decide +kernel, rfl⟩
theorem d_LBText_read_8 : decode mm_LBText_read.2.1 8 = .ok (.invokevirtual 35, 3) ∧ 8 + 3 = 11 := ⟨by decide +kernel, rfl⟩
theorem d_LBText_read_11 : decode mm_LBText_read.2.1 11 = .ok (.istore_n 1, 1) ∧ 11 + 1 = 12 := ⟨by decide +kernel, rfl⟩
theorem d_LBText_read_12 : decode mm_LBText_read.2.1 12 = .ok (.iload_n 1, 1) ∧ 12 + 1 = 13 := ⟨by decide +kernel, rfl⟩
theorem d_LBText_read_13 : decode mm_LBText_read.2.1 13 = .ok (.iconst (-1), 1) ∧ 13 + 1 = 14 := ⟨by decide +kernel, rfl⟩
theorem d_LBText_read_14 : decode mm_LBText_read.2.1 14 = .ok (.if_icmp .ne 5, 3) ∧ 14 + 3 = 17 ∧ ((14 : Nat) : Int) + (5) = ((19 : Nat) : Int) := ⟨by decide +kernel, rfl, by decide⟩
theorem d_LBText_read_17 : decode mm_LBText_read.2.1 17 = .ok (.iconst 0, 1) ∧ 17 + 1 = 18 := ⟨by decide +kernel, rfl⟩
theorem d_LBText_read_18 : decode mm_LBText_read.2.1 18 = .ok (.ireturn, 1) := by decide +kernel
theorem d_LBText_read_19 : decode mm_LBText_read.2.1 19 = .ok (.iload_n 1, 1) ∧ 19 + 1 = 20 := ⟨by decide +kernel, rfl⟩
theorem d_LBText_read_20 : decode mm_LBText_read.2.1 20 = .ok (.aload_n 0, 1) ∧ 20 + 1 = 21 := ⟨by decide +kernel, rfl⟩
theorem d_LBText_read_21 : decode mm_LBText_read.2.1 21 = .ok (.getfield 22, 3) ∧ 21 + 3 = 24 := ⟨by decide +kernel, rfl⟩
theorem d_LBText_read_24 : decode mm_LBText_read.2.1 24 = .ok (.if_icmp .ge 10, 3) ∧ 24 + 3 = 27 ∧ ((24 : Nat) : Int) + (10) = ((34 : Nat) : Int) := ⟨by decide +kernel, rfl, by decide⟩
theorem d_LBText_read_27 : decode mm_LBText_read.2.1 27 = .ok (.aload_n 0, 1) ∧ 27 + 1 = 28 := ⟨by decide +kernel, rfl⟩
theorem d_LBText_read_28 : decode mm_LBText_read.2.1 28 = .ok (.iload_n 1, 1) ∧ 28 + 1 = 29 := ⟨by decide +kernel, rfl⟩
theorem d_LBText_read_29 : decode mm_LBText_read.2.1 29 = .ok (.putfield 39, 3) ∧ 29 + 3 = 32 := ⟨by decide +kernel, rfl⟩
theorem d_LBText_read_32 : decode mm_LBText_read.2.1 32 = .ok (.iconst 0, 1) ∧ 32 + 1 = 33 := ⟨by decide +kernel, rfl⟩
theorem d_LBText_read_33 : decode mm_LBText_read.2.1 33 = .ok (.ireturn, 1) := by decide +kernel
theorem d_LBText_read_34 : decode mm_LBText_read.2.1 34 = .ok (.iconst 1, 1) ∧ 34 + 1 = 35 := ⟨by decide +kernel, rfl⟩
theorem d_LBText_read_35 : decode mm_LBText_read.2.1 35 = .ok (.ireturn, 1) := by decide +kernel
theorem d_LBText_readExpression_0 : decode mm_LBText_readExpression.2.1 0 = .ok (.iload_n 1, 1) ∧ 0 + 1 = 1 := ⟨by decide +kernel, rfl⟩
theorem d_LBText_readExpression_1 : decode mm_LBText_readExpression.2.1 1 = .ok (.aload_n 0, 1) ∧ 1 + 1 = 2 := ⟨by decide +kernel, rfl⟩
theorem d_LBText_readExpression_2 : decode mm_LBText_readExpression.2.1 2 = .ok (.getfield 22, 3) ∧ 2 + 3 = 5 := ⟨by decide +kernel, rfl⟩
theorem d_LBText_readExpression_5 : decode mm_LBText_readExpression.2.1 5 = .ok (.if_icmp .ge 9, 3) ∧ 5 + 3 = 8 ∧ ((5 : Nat) : Int) + (9) = ((14 : Nat) : Int) := ⟨by decide +kernel, rfl, by decide⟩
theorem d_LBText_readExpression_8 : decode mm_LBText_readExpression.2.1 8 = .ok (.iload_n 2, 1) ∧ 8 + 1 = 9 := ⟨by decide +kernel, rfl⟩
theorem d_LBText_readExpression_9 : decode mm_LBText_readExpression.2.1 9 = .ok (.bipush 8, 2) ∧ 9 + 2 = 11 := ⟨by decide +kernel, rfl⟩
theorem d_LBText_readExpression_11 : decode mm_LBText_readExpression.2.1 11 = .ok (.if_icmp .le 9, 3) ∧ 11 + 3 = 14 ∧ ((11 : Nat) : Int) + (9) = ((20 : Nat) : Int) := ⟨by decide +kernel, rfl, by decide⟩
theorem d_LBText_readExpression_14 : decode mm_LBText_readExpression.2.1 14 = .ok (.aload_n 0, 1) ∧ 14 + 1 = 15 := ⟨by decide +kernel, rfl⟩
theorem d_LBText_readExpression_15 : decode mm_LBText_readExpression.2.1 15 = .ok (.iload_n 1, 1) ∧ 15 + 1 = 16 := ⟨by decide +kernel, rfl⟩
theorem d_LBText_readExpression_16 : decode mm_LBText_readExpression.2.1 16 = .ok (.invokevirtual 42, 3) ∧ 16 + 3 = 19 := ⟨by decide +kernel, rfl⟩
theorem d_LBText_readExpression_19 : decode mm_LBText_readExpression.2.1 19 = .ok (.ireturn, 1) := by decide +kernel
theorem d_LBText_readExpression_20 : decode mm_LBText_readExpression.2.1 20 = .ok (.aload_n 0, 1) ∧ 20 + 1 = 21 := ⟨by decide +kernel, rfl⟩
theorem d_LBText_readExpression_21 : decode mm_LBText_readExpression.2.1 21 = .ok (.iload_n 1, 1) ∧ 21 + 1 = 22 := ⟨by decide +kernel, rfl⟩
theorem d_LBText_readExpression_22 : decode mm_LBText_readExpression.2.1 22 = .ok (.iload_n 2, 1) ∧ 22 + 1 = 23 := ⟨by decide +kernel, rfl⟩
theorem d_LBText_readExpression_23 : decode mm_LBText_readExpression.2.1 23 = .ok (.invokevirtual 46, 3) ∧ 23 + 3 = 26 := ⟨by decide +kernel, rfl⟩
theorem d_LBText_readExpression_26 : decode mm_LBText_readExpression.2.1 26 = .ok (.istore_n 3, 1) ∧ 26 + 1 = 27 := ⟨by decide +kernel, rfl⟩
theorem d_LBText_readExpression_27 : decode mm_LBText_readExpression.2.1 27 = .ok (.aload_n 0, 1) ∧ 27 + 1 = 28 := ⟨by decide +kernel, rfl⟩
theorem d_LBText_readExpression_28 : decode mm_LBText_readExpression.2.1 28 = .ok (.getfield 15, 3) ∧ 28 + 3 = 31 := ⟨by decide +kernel, rfl⟩
theorem d_LBText_readExpression_31 : decode mm_LBText_readExpression.2.1 31 = .ok (.iload_n 1, 1) ∧ 31 + 1 = 32 := ⟨by decide +kernel, rfl⟩
theorem d_LBText_readExpression_32 : decode mm_LBText_readExpression.2.1 32 = .ok (.iload_n 3, 1) ∧ 32 + 1 = 33 := ⟨by decide +kernel, rfl⟩
theorem d_LBText_readExpression_33 : decode mm_LBText_readExpression.2.1 33 = .ok (.iastore, 1) ∧ 33 + 1 = 34 := ⟨by decide +kernel, rfl⟩
theorem d_LBText_readExpression_34 : decode mm_LBText_readExpression.2.1 34 = .ok (.aload_n 0, 1) ∧ 34 + 1 = 35 := ⟨by decide +kernel, rfl⟩
theorem d_LBText_readExpression_35 : decode mm_LBText_readExpression.2.1 35 = .ok (.aload_n 0, 1) ∧ 35 + 1 = 36 := ⟨by decide +kernel, rfl⟩
theorem d_LBText_readExpression_36 : decode mm_LBText_readExpression.2.1 36 = .ok (.getfield 32, 3) ∧ 36 + 3 = 39 := ⟨by decide +kernel, rfl⟩
theorem d_LBText_readExpression_39 : decode mm_LBText_readExpression.2.1 39 = .ok (.iload_n 2, 1) ∧ 39 + 1 = 40 := ⟨by decide +kernel, rfl⟩
theorem d_LBText_readExpression_40 : decode mm_LBText_readExpression.2.1 40 = .ok (.invokestatic 49, 3) ∧ 40 + 3 = 43 := ⟨by decide +kernel, rfl⟩
theorem d_LBText_readExpression_43 : decode mm_LBText_readExpression.2.1 43 = .ok (.putfield 32, 3) ∧ 43 + 3 = 46 := ⟨by decide +kernel, rfl⟩
theorem d_LBText_readExpression_46 : decode mm_LBText_readExpression.2.1 46 = .ok (.iload_n 3, 1) ∧ 46 + 1 = 47 := ⟨by decide +kernel, rfl⟩
theorem d_LBText_readExpression_47 : decode mm_LBText_readExpression.2.1 47 = .ok (.ireturn, 1) := by decide +kernel
theorem d_LBText_readKind_0 : decode mm_LBText_readKind.2.1 0 = .ok (.aload_n 0, 1) ∧ 0 + 1 = 1 := ⟨by decide +kernel, rfl⟩
theorem d_LBText_readKind_1 : decode mm_LBText_readKind.2.1 1 = .ok (.iload_n 1, 1) ∧ 1 + 1 = 2 := ⟨by decide +kernel, rfl⟩
theorem d_LBText_readKind_2 : decode mm_LBText_readKind.2.1 2 = .ok (.invokevirtual 54, 3) ∧ 2 + 3 = 5 := ⟨by decide +kernel, rfl⟩
theorem d_LBText_readKind_5 : decode mm_LBText_readKind.2.1 5 = .ok (.istore_n 3, 1) ∧ 5 + 1 = 6 := ⟨by decide +kernel, rfl⟩
theorem d_LBText_readKind_6 : decode mm_LBText_readKind.2.1 6 = .ok (.iload_n 3, 1) ∧ 6 + 1 = 7 := ⟨by decide +kernel, rfl⟩
theorem d_LBText_readKind_7 : decode mm_LBText_readKind.2.1 7 = .ok (.invokestatic 57, 3) ∧ 7 + 3 = 10 := ⟨by decide +kernel, rfl⟩
theorem d_LBText_readKind_10 : decode mm_LBText_readKind.2.1 10 = .ok (.ifCond .ne 10, 3) ∧ 10 + 3 = 13 ∧ ((10 : Nat) : Int) + (10) = ((20 : Nat) : Int) := ⟨by decide +kernel, rfl, by decide⟩
theorem d_LBText_readKind_13 : decode mm_LBText_readKind.2.1 13 = .ok (.iload_n 3, 1) ∧ 13 + 1 = 14 := ⟨by decide +kernel, rfl⟩
theorem d_LBText_readKind_14 : decode mm_LBText_readKind.2.1 14 = .ok (.invokestatic 60, 3) ∧ 14 + 3 = 17 := ⟨by decide +kernel, rfl⟩
theorem d_LBText_readKind_17 : decode mm_LBText_readKind.2.1 17 = .ok (.ifCond .eq 7, 3) ∧ 17 + 3 = 20 ∧ ((17 : Nat) : Int) + (7) = ((24 : Nat) : Int) := ⟨by decide +kernel, rfl, by decide⟩
theorem d_LBText_readKind_20 : decode mm_LBText_readKind.2.1 20 = .ok (.iload_n 1, 1) ∧ 20 + 1 = 21 := ⟨by decide +kernel, rfl⟩
theorem d_LBText_readKind_21 : decode mm_LBText_readKind.2.1 21 = .ok (.iconst 1, 1) ∧ 21 + 1 = 22 := ⟨by decide +kernel, rfl⟩
theorem d_LBText_readKind_22 : decode mm_LBText_readKind.2.1 22 = .ok (.iadd, 1) ∧ 22 + 1 = 23 := ⟨by decide +kernel, rfl⟩
theorem d_LBText_readKind_23 : decode mm_LBText_readKind.2.1 23 = .ok (.ireturn, 1) := by decide +kernel
theorem d_LBText_readKind_24 : decode mm_LBText_readKind.2.1 24 = .ok (.iload_n 3, 1) ∧ 24 + 1 = 25 := ⟨by decide +kernel, rfl⟩
theorem d_LBText_readKind_25 : decode mm_LBText_readKind.2.1 25 = .ok (.bipush 68, 2) ∧ 25 + 2 = 27 := ⟨by decide +kernel, rfl⟩
theorem d_LBText_readKind_27 : decode mm_LBText_readKind.2.1 27 = .ok (.if_icmp .ne 10, 3) ∧ 27 + 3 = 30 ∧ ((27 : Nat) : Int) + (10) = ((37 : Nat) : Int) := ⟨by decide +kernel, rfl, by decide⟩
theorem d_LBText_readKind_30 : decode mm_LBText_readKind.2.1 30 = .ok (.aload_n 0, 1) ∧ 30 + 1 = 31 := ⟨by decide +kernel, rfl⟩
theorem d_LBText_readKind_31 : decode mm_LBText_readKind.2.1 31 = .ok (.iload_n 1, 1) ∧ 31 + 1 = 32 := ⟨by decide +kernel, rfl⟩
theorem d_LBText_readKind_32 : decode mm_LBText_readKind.2.1 32 = .ok (.iload_n 2, 1) ∧ 32 + 1 = 33 := ⟨by decide +kernel, rfl⟩
theorem d_LBText_readKind_33 : decode mm_LBText_readKind.2.1 33 = .ok (.invokevirtual 63, 3) ∧ 33 + 3 = 36 := ⟨by decide +kernel, rfl⟩
theorem d_LBText_readKind_36 : decode mm_LBText_readKind.2.1 36 = .ok (.ireturn, 1) := by decide +kernel
theorem d_LBText_readKind_37 : decode mm_LBText_readKind.2.1 37 = .ok (.iload_n 3, 1) ∧ 37 + 1 = 38 := ⟨by decide +kernel, rfl⟩
theorem d_LBText_readKind_38 : decode mm_LBText_readKind.2.1 38 = .ok (.invokestatic 66, 3) ∧ 38 + 3 = 41 := ⟨by decide +kernel, rfl⟩
theorem d_LBText_readKind_41 : decode mm_LBText_readKind.2.1 41 = .ok (.istore 4, 2) ∧ 41 + 2 = 43 := ⟨by decide +kernel, rfl⟩
theorem d_LBText_readKind_43 : decode mm_LBText_readKind.2.1 43 = .ok (.iload 4, 2) ∧ 43 + 2 = 45 := ⟨by decide +kernel, rfl⟩
theorem d_LBText_readKind_45 : decode mm_LBText_readKind.2.1 45 = .ok (.ifCond .eq 9, 3) ∧ 45 + 3 = 48 ∧ ((45 : Nat) : Int) + (9) = ((54 : Nat) : Int) := ⟨by decide +kernel, rfl, by decide⟩
theorem d_LBText_readKind_48 : decode mm_LBText_readKind.2.1 48 = .ok (.iload_n 2, 1) ∧ 48 + 1 = 49 := ⟨by decide +kernel, rfl⟩
theorem d_LBText_readKind_49 : decode mm_LBText_readKind.2.1 49 = .ok (.bipush 8, 2) ∧ 49 + 2 = 51 := ⟨by decide +kernel, rfl⟩
theorem d_LBText_readKind_51 : decode mm_LBText_readKind.2.1 51 = .ok (.if_icmp .lt 9, 3) ∧ 51 + 3 = 54 ∧ ((51 : Nat) : Int) + (9) = ((60 : Nat) : Int) := ⟨by decide +kernel, rfl, by decide⟩
theorem d_LBText_readKind_54 : decode mm_LBText_readKind.2.1 54 = .ok (.aload_n 0, 1) ∧ 54 + 1 = 55 := ⟨by decide +kernel, rfl⟩
theorem d_LBText_readKind_55 : decode mm_LBText_readKind.2.1 55 = .ok (.iload_n 1, 1) ∧ 55 + 1 = 56 := ⟨by decide +kernel, rfl⟩
theorem d_LBText_readKind_56 : decode mm_LBText_readKind.2.1 56 = .ok (.invokevirtual 42, 3) ∧ 56 + 3 = 59 := ⟨by decide +kernel, rfl⟩
theorem d_LBText_readKind_59 : decode mm_LBText_readKind.2.1 59 = .ok (.ireturn, 1) := by decide +kernel
theorem d_LBText_readKind_60 : decode mm_LBText_readKind.2.1 60 = .ok (.iload_n 1, 1) ∧ 60 + 1 = 61 := ⟨by decide +kernel, rfl⟩
theorem d_LBText_readKind_61 : decode mm_LBText_readKind.2.1 61 = .ok (.iconst 1, 1) ∧ 61 + 1 = 62 := ⟨by decide +kernel, rfl⟩
theorem d_LBText_readKind_62 : decode mm_LBText_readKind.2.1 62 = .ok (.iadd, 1) ∧ 62 + 1 = 63 := ⟨by decide +kernel, rfl⟩
theorem d_LBText_readKind_63 : decode mm_LBText_readKind.2.1 63 = .ok (.istore 5, 2) ∧ 63 + 2 = 65 := ⟨by decide +kernel, rfl⟩
theorem d_LBText_readKind_65 : decode mm_LBText_readKind.2.1 65 = .ok (.iconst 0, 1) ∧ 65 + 1 = 66 := ⟨by decide +kernel, rfl⟩
theorem d_LBText_readKind_66 : decode mm_LBText_readKind.2.1 66 = .ok (.istore 6, 2) ∧ 66 + 2 = 68 := ⟨by decide +kernel, rfl⟩
theorem d_LBText_readKind_68 : decode mm_LBText_readKind.2.1 68 = .ok (.iload 6, 2) ∧ 68 + 2 = 70 := ⟨by decide +kernel, rfl⟩
theorem d_LBText_readKind_70 : decode mm_LBText_readKind.2.1 70 = .ok (.iload 4, 2) ∧ 70 + 2 = 72 := ⟨by decide +kernel, rfl⟩
theorem d_LBText_readKind_72 : decode mm_LBText_readKind.2.1 72 = .ok (.if_icmp .ge 26, 3) ∧ 72 + 3 = 75 ∧ ((72 : Nat) : Int) + (26) = ((98 : Nat) : Int) := ⟨by decide +kernel, rfl, by decide⟩
theorem d_LBText_readKind_75 : decode mm_LBText_readKind.2.1 75 = .ok (.iload 5, 2) ∧ 75 + 2 = 77 := ⟨by decide +kernel, rfl⟩
theorem d_LBText_readKind_77 : decode mm_LBText_readKind.2.1 77 = .ok (.iconst (-1), 1) ∧ 77 + 1 = 78 := ⟨by decide +kernel, rfl⟩
theorem d_LBText_readKind_78 : decode mm_LBText_readKind.2.1 78 = .ok (.if_icmp .eq 20, 3) ∧ 78 + 3 = 81 ∧ ((78 : Nat) : Int) + (20) = ((98 : Nat) : Int) := ⟨by decide +kernel, rfl, by decide⟩
theorem d_LBText_readKind_81 : decode mm_LBText_readKind.2.1 81 = .ok (.aload_n 0, 1) ∧ 81 + 1 = 82 := ⟨by decide +kernel, rfl⟩
theorem d_LBText_readKind_82 : decode mm_LBText_readKind.2.1 82 = .ok (.iload 5, 2) ∧ 82 + 2 = 84 := ⟨by decide +kernel, rfl⟩
theorem d_LBText_readKind_84 : decode mm_LBText_readKind.2.1 84 = .ok (.iload_n 2, 1) ∧ 84 + 1 = 85 := ⟨by decide +kernel, rfl⟩
theorem d_LBText_readKind_85 : decode mm_LBText_readKind.2.1 85 = .ok (.iconst 1, 1) ∧ 85 + 1 = 86 := ⟨by decide +kernel, rfl⟩
theorem d_LBText_readKind_86 : decode mm_LBText_readKind.2.1 86 = .ok (.iadd, 1) ∧ 86 + 1 = 87 := ⟨by decide +kernel, rfl⟩
theorem d_LBText_readKind_87 : decode mm_LBText_readKind.2.1 87 = .ok (.invokevirtual 35, 3) ∧ 87 + 3 = 90 := ⟨by decide +kernel, rfl⟩
theorem d_LBText_readKind_90 : decode mm_LBText_readKind.2.1 90 = .ok (.istore 5, 2) ∧ 90 + 2 = 92 := ⟨by decide +kernel, rfl⟩
theorem d_LBText_readKind_92 : decode mm_LBText_readKind.2.1 92 = .ok (.iinc 6 1, 3) ∧ 92 + 3 = 95 := ⟨by decide +kernel, rfl⟩
theorem d_LBText_readKind_95 : decode mm_LBText_readKind.2.1 95 = .ok (.goto (-27), 3) ∧ 95 + 3 = 98 ∧ ((95 : Nat) : Int) + (-27) = ((68 : Nat) : Int) := ⟨by decide +kernel, rfl, by decide⟩
theorem d_LBText_readKind_98 : decode mm_LBText_readKind.2.1 98 = .ok (.iload 5, 2) ∧ 98 + 2 = 100 := ⟨by decide +kernel, rfl⟩
theorem d_LBText_readKind_100 : decode mm_LBText_readKind.2.1 100 = .ok (.ireturn, 1) := by decide +kernel
theorem d_LBText_readPlan_0 : decode mm_LBText_readPlan.2.1 0 = .ok (.aload_n 0, 1) ∧ 0 + 1 = 1 := ⟨by decide +kernel, rfl⟩
theorem d_LBText_readPlan_1 : decode mm_LBText_readPlan.2.1 1 = .ok (.iload_n 1, 1) ∧ 1 + 1 = 2 := ⟨by decide +kernel, rfl⟩
theorem d_LBText_readPlan_2 : decode mm_LBText_readPlan.2.1 2 = .ok (.iconst 1, 1) ∧ 2 + 1 = 3 := ⟨by decide +kernel, rfl⟩
theorem d_LBText_readPlan_3 : decode mm_LBText_readPlan.2.1 3 = .ok (.iadd, 1) ∧ 3 + 1 = 4 := ⟨by decide +kernel, rfl⟩
theorem d_LBText_readPlan_4 : decode mm_LBText_readPlan.2.1 4 = .ok (.invokevirtual 54, 3) ∧ 4 + 3 = 7 := ⟨by decide +kernel, rfl⟩
theorem d_LBText_readPlan_7 : decode mm_LBText_readPlan.2.1 7 = .ok (.invokestatic 57, 3) ∧ 7 + 3 = 10 := ⟨by decide +kernel, rfl⟩
theorem d_LBText_readPlan_10 : decode mm_LBText_readPlan.2.1 10 = .ok (.ifCond .ne 11, 3) ∧ 10 + 3 = 13 ∧ ((10 : Nat) : Int) + (11) = ((21 : Nat) : Int) := ⟨by decide +kernel, rfl, by decide⟩
theorem d_LBText_readPlan_13 : decode mm_LBText_readPlan.2.1 13 = .ok (.aload_n 0, 1) ∧ 13 + 1 = 14 := ⟨by decide +kernel, rfl⟩
theorem d_LBText_readPlan_14 : decode mm_LBText_readPlan.2.1 14 = .ok (.iload_n 1, 1) ∧ 14 + 1 = 15 := ⟨by decide +kernel, rfl⟩
theorem d_LBText_readPlan_15 : decode mm_LBText_readPlan.2.1 15 = .ok (.iconst 1, 1) ∧ 15 + 1 = 16 := ⟨by decide +kernel, rfl⟩
theorem d_LBText_readPlan_16 : decode mm_LBText_readPlan.2.1 16 = .ok (.iadd, 1) ∧ 16 + 1 = 17 := ⟨by decide +kernel, rfl⟩
theorem d_LBText_readPlan_17 : decode mm_LBText_readPlan.2.1 17 = .ok (.invokevirtual 42, 3) ∧ 17 + 3 = 20 := ⟨by decide +kernel, rfl⟩
theorem d_LBText_readPlan_20 : decode mm_LBText_readPlan.2.1 20 = .ok (.ireturn, 1) := by decide +kernel
theorem d_LBText_readPlan_21 : decode mm_LBText_readPlan.2.1 21 = .ok (.aload_n 0, 1) ∧ 21 + 1 = 22 := ⟨by decide +kernel, rfl⟩
theorem d_LBText_readPlan_22 : decode mm_LBText_readPlan.2.1 22 = .ok (.iload_n 1, 1) ∧ 22 + 1 = 23 := ⟨by decide +kernel, rfl⟩
theorem d_LBText_readPlan_23 : decode mm_LBText_readPlan.2.1 23 = .ok (.iconst 2, 1) ∧ 23 + 1 = 24 := ⟨by decide +kernel, rfl⟩
theorem d_LBText_readPlan_24 : decode mm_LBText_readPlan.2.1 24 = .ok (.iadd, 1) ∧ 24 + 1 = 25 := ⟨by decide +kernel, rfl⟩
theorem d_LBText_readPlan_25 : decode mm_LBText_readPlan.2.1 25 = .ok (.invokevirtual 54, 3) ∧ 25 + 3 = 28 := ⟨by decide +kernel, rfl⟩
theorem d_LBText_readPlan_28 : decode mm_LBText_readPlan.2.1 28 = .ok (.bipush 40, 2) ∧ 28 + 2 = 30 := ⟨by decide +kernel, rfl⟩
theorem d_LBText_readPlan_30 : decode mm_LBText_readPlan.2.1 30 = .ok (.if_icmp .eq 11, 3) ∧ 30 + 3 = 33 ∧ ((30 : Nat) : Int) + (11) = ((41 : Nat) : Int) := ⟨by decide +kernel, rfl, by decide⟩
theorem d_LBText_readPlan_33 : decode mm_LBText_readPlan.2.1 33 = .ok (.aload_n 0, 1) ∧ 33 + 1 = 34 := ⟨by decide +kernel, rfl⟩
theorem d_LBText_readPlan_34 : decode mm_LBText_readPlan.2.1 34 = .ok (.iload_n 1, 1) ∧ 34 + 1 = 35 := ⟨by decide +kernel, rfl⟩
theorem d_LBText_readPlan_35 : decode mm_LBText_readPlan.2.1 35 = .ok (.iconst 2, 1) ∧ 35 + 1 = 36 := ⟨by decide +kernel, rfl⟩
theorem d_LBText_readPlan_36 : decode mm_LBText_readPlan.2.1 36 = .ok (.iadd, 1) ∧ 36 + 1 = 37 := ⟨by decide +kernel, rfl⟩
theorem d_LBText_readPlan_37 : decode mm_LBText_readPlan.2.1 37 = .ok (.invokevirtual 42, 3) ∧ 37 + 3 = 40 := ⟨by decide +kernel, rfl⟩
theorem d_LBText_readPlan_40 : decode mm_LBText_readPlan.2.1 40 = .ok (.ireturn, 1) := by decide +kernel
theorem d_LBText_readPlan_41 : decode mm_LBText_readPlan.2.1 41 = .ok (.iload_n 1, 1) ∧ 41 + 1 = 42 := ⟨by decide +kernel, rfl⟩
theorem d_LBText_readPlan_42 : decode mm_LBText_readPlan.2.1 42 = .ok (.iconst 3, 1) ∧ 42 + 1 = 43 := ⟨by decide +kernel, rfl⟩
theorem d_LBText_readPlan_43 : decode mm_LBText_readPlan.2.1 43 = .ok (.iadd, 1) ∧ 43 + 1 = 44 := ⟨by decide +kernel, rfl⟩
theorem d_LBText_readPlan_44 : decode mm_LBText_readPlan.2.1 44 = .ok (.istore_n 3, 1) ∧ 44 + 1 = 45 := ⟨by decide +kernel, rfl⟩
theorem d_LBText_readPlan_45 : decode mm_LBText_readPlan.2.1 45 = .ok (.iconst 0, 1) ∧ 45 + 1 = 46 := ⟨by decide +kernel, rfl⟩
theorem d_LBText_readPlan_46 : decode mm_LBText_readPlan.2.1 46 = .ok (.istore 4, 2) ∧ 46 + 2 = 48 := ⟨by decide +kernel, rfl⟩
theorem d_LBText_readPlan_48 : decode mm_LBText_readPlan.2.1 48 = .ok (.iload 4, 2) ∧ 48 + 2 = 50 := ⟨by decide +kernel, rfl⟩
theorem d_LBText_readPlan_50 : decode mm_LBText_readPlan.2.1 50 = .ok (.iconst 4, 1) ∧ 50 + 1 = 51 := ⟨by decide +kernel, rfl⟩
theorem d_LBText_readPlan_51 : decode mm_LBText_readPlan.2.1 51 = .ok (.if_icmp .ge 35, 3) ∧ 51 + 3 = 54 ∧ ((51 : Nat) : Int) + (35) = ((86 : Nat) : Int) := ⟨by decide +kernel, rfl, by decide⟩
theorem d_LBText_readPlan_54 : decode mm_LBText_readPlan.2.1 54 = .ok (.aload_n 0, 1) ∧ 54 + 1 = 55 := ⟨by decide +kernel, rfl⟩
theorem d_LBText_readPlan_55 : decode mm_LBText_readPlan.2.1 55 = .ok (.iload_n 3, 1) ∧ 55 + 1 = 56 := ⟨by decide +kernel, rfl⟩
theorem d_LBText_readPlan_56 : decode mm_LBText_readPlan.2.1 56 = .ok (.invokevirtual 54, 3) ∧ 56 + 3 = 59 := ⟨by decide +kernel, rfl⟩
theorem d_LBText_readPlan_59 : decode mm_LBText_readPlan.2.1 59 = .ok (.bipush 41, 2) ∧ 59 + 2 = 61 := ⟨by decide +kernel, rfl⟩
theorem d_LBText_readPlan_61 : decode mm_LBText_readPlan.2.1 61 = .ok (.if_icmp .eq 25, 3) ∧ 61 + 3 = 64 ∧ ((61 : Nat) : Int) + (25) = ((86 : Nat) : Int) := ⟨by decide +kernel, rfl, by decide⟩
theorem d_LBText_readPlan_64 : decode mm_LBText_readPlan.2.1 64 = .ok (.aload_n 0, 1) ∧ 64 + 1 = 65 := ⟨by decide +kernel, rfl⟩
theorem d_LBText_readPlan_65 : decode mm_LBText_readPlan.2.1 65 = .ok (.iload_n 3, 1) ∧ 65 + 1 = 66 := ⟨by decide +kernel, rfl⟩
theorem d_LBText_readPlan_66 : decode mm_LBText_readPlan.2.1 66 = .ok (.iload_n 2, 1) ∧ 66 + 1 = 67 := ⟨by decide +kernel, rfl⟩
theorem d_LBText_readPlan_67 : decode mm_LBText_readPlan.2.1 67 = .ok (.iconst 1, 1) ∧ 67 + 1 = 68 := ⟨by decide +kernel, rfl⟩
theorem d_LBText_readPlan_68 : decode mm_LBText_readPlan.2.1 68 = .ok (.iadd, 1) ∧ 68 + 1 = 69 := ⟨by decide +kernel, rfl⟩
theorem d_LBText_readPlan_69 : decode mm_LBText_readPlan.2.1 69 = .ok (.invokevirtual 35, 3) ∧ 69 + 3 = 72 := ⟨by decide +kernel, rfl⟩
theorem d_LBText_readPlan_72 : decode mm_LBText_readPlan.2.1 72 = .ok (.istore_n 3, 1) ∧ 72 + 1 = 73 := ⟨by decide +kernel, rfl⟩
theorem d_LBText_readPlan_73 : decode mm_LBText_readPlan.2.1 73 = .ok (.iload_n 3, 1) ∧ 73 + 1 = 74 := ⟨by decide +kernel, rfl⟩
theorem d_LBText_readPlan_74 : decode mm_LBText_readPlan.2.1 74 = .ok (.iconst (-1), 1) ∧ 74 + 1 = 75 := ⟨by decide +kernel, rfl⟩
theorem d_LBText_readPlan_75 : decode mm_LBText_readPlan.2.1 75 = .ok (.if_icmp .ne 5, 3) ∧ 75 + 3 = 78 ∧ ((75 : Nat) : Int) + (5) = ((80 : Nat) : Int) := ⟨by decide +kernel, rfl, by decide⟩
theorem d_LBText_readPlan_78 : decode mm_LBText_readPlan.2.1 78 = .ok (.iconst (-1), 1) ∧ 78 + 1 = 79 := ⟨by decide +kernel, rfl⟩
theorem d_LBText_readPlan_79 : decode mm_LBText_readPlan.2.1 79 = .ok (.ireturn, 1) := by decide +kernel
theorem d_LBText_readPlan_80 : decode mm_LBText_readPlan.2.1 80 = .ok (.iinc 4 1, 3) ∧ 80 + 3 = 83 := ⟨by decide +kernel, rfl⟩
theorem d_LBText_readPlan_83 : decode mm_LBText_readPlan.2.1 83 = .ok (.goto (-35), 3) ∧ 83 + 3 = 86 ∧ ((83 : Nat) : Int) + (-35) = ((48 : Nat) : Int) := ⟨by decide +kernel, rfl, by decide⟩
theorem d_LBText_readPlan_86 : decode mm_LBText_readPlan.2.1 86 = .ok (.aload_n 0, 1) ∧ 86 + 1 = 87 := ⟨by decide +kernel, rfl⟩
theorem d_LBText_readPlan_87 : decode mm_LBText_readPlan.2.1 87 = .ok (.iload_n 3, 1) ∧ 87 + 1 = 88 := ⟨by decide +kernel, rfl⟩
theorem d_LBText_readPlan_88 : decode mm_LBText_readPlan.2.1 88 = .ok (.invokevirtual 54, 3) ∧ 88 + 3 = 91 := ⟨by decide +kernel, rfl⟩
theorem d_LBText_readPlan_91 : decode mm_LBText_readPlan.2.1 91 = .ok (.bipush 41, 2) ∧ 91 + 2 = 93 := ⟨by decide +kernel, rfl⟩
theorem d_LBText_readPlan_93 : decode mm_LBText_readPlan.2.1 93 = .ok (.if_icmp .ne 9, 3) ∧ 93 + 3 = 96 ∧ ((93 : Nat) : Int) + (9) = ((102 : Nat) : Int) := ⟨by decide +kernel, rfl, by decide⟩
theorem d_LBText_readPlan_96 : decode mm_LBText_readPlan.2.1 96 = .ok (.iload_n 3, 1) ∧ 96 + 1 = 97 := ⟨by decide +kernel, rfl⟩
theorem d_LBText_readPlan_97 : decode mm_LBText_readPlan.2.1 97 = .ok (.iconst 1, 1) ∧ 97 + 1 = 98 := ⟨by decide +kernel, rfl⟩
theorem d_LBText_readPlan_98 : decode mm_LBText_readPlan.2.1 98 = .ok (.iadd, 1) ∧ 98 + 1 = 99 := ⟨by decide +kernel, rfl⟩
theorem d_LBText_readPlan_99 : decode mm_LBText_readPlan.2.1 99 = .ok (.goto 8, 3) ∧ 99 + 3 = 102 ∧ ((99 : Nat) : Int) + (8) = ((107 : Nat) : Int) := ⟨by decide +kernel, rfl, by decide⟩
theorem d_LBText_readPlan_102 : decode mm_LBText_readPlan.2.1 102 = .ok (.aload_n 0, 1) ∧ 102 + 1 = 103 := ⟨by decide +kernel, rfl⟩
theorem d_LBText_readPlan_103 : decode mm_LBText_readPlan.2.1 103 = .ok (.iload_n 3, 1) ∧ 103 + 1 = 104 := ⟨by decide +kernel, rfl⟩
theorem d_LBText_readPlan_104 : decode mm_LBText_readPlan.2.1 104 = .ok (.invokevirtual 42, 3) ∧ 104 + 3 = 107 := ⟨by decide +kernel, rfl⟩
theorem d_LBText_readPlan_107 : decode mm_LBText_readPlan.2.1 107 = .ok (.ireturn, 1) := by decide +kernel
theorem d_LBText_badAt_0 : decode mm_LBText_badAt.2.1 0 = .ok (.aload_n 0, 1) ∧ 0 + 1 = 1 := ⟨by decide +kernel, rfl⟩
theorem d_LBText_badAt_1 : decode mm_LBText_badAt.2.1 1 = .ok (.iload_n 1, 1) ∧ 1 + 1 = 2 := ⟨by decide +kernel, rfl⟩
theorem d_LBText_badAt_2 : decode mm_LBText_badAt.2.1 2 = .ok (.putfield 39, 3) ∧ 2 + 3 = 5 := ⟨by decide +kernel, rfl⟩
theorem d_LBText_badAt_5 : decode mm_LBText_badAt.2.1 5 = .ok (.iconst (-1), 1) ∧ 5 + 1 = 6 := ⟨by decide +kernel, rfl⟩
theorem d_LBText_badAt_6 : decode mm_LBText_badAt.2.1 6 = .ok (.ireturn, 1) := by decide +kernel
theorem d_LBText_belongs_0 : decode mm_LBText_belongs.2.1 0 = .ok (.iload_n 0, 1) ∧ 0 + 1 = 1 := ⟨by decide +kernel, rfl⟩
theorem d_LBText_belongs_1 : decode mm_LBText_belongs.2.1 1 = .ok (.invokestatic 57, 3) ∧ 1 + 3 = 4 := ⟨by decide +kernel, rfl⟩
theorem d_LBText_belongs_4 : decode mm_LBText_belongs.2.1 4 = .ok (.ifCond .ne 35, 3) ∧ 4 + 3 = 7 ∧ ((4 : Nat) : Int) + (35) = ((39 : Nat) : Int) := ⟨by decide +kernel, rfl, by decide⟩
theorem d_LBText_belongs_7 : decode mm_LBText_belongs.2.1 7 = .ok (.iload_n 0, 1) ∧ 7 + 1 = 8 := ⟨by decide +kernel, rfl⟩
theorem d_LBText_belongs_8 : decode mm_LBText_belongs.2.1 8 = .ok (.invokestatic 60, 3) ∧ 8 + 3 = 11 := ⟨by decide +kernel, rfl⟩
theorem d_LBText_belongs_11 : decode mm_LBText_belongs.2.1 11 = .ok (.ifCond .ne 28, 3) ∧ 11 + 3 = 14 ∧ ((11 : Nat) : Int) + (28) = ((39 : Nat) : Int) := ⟨by decide +kernel, rfl, by decide⟩
theorem d_LBText_belongs_14 : decode mm_LBText_belongs.2.1 14 = .ok (.iload_n 0, 1) ∧ 14 + 1 = 15 := ⟨by decide +kernel, rfl⟩
theorem d_LBText_belongs_15 : decode mm_LBText_belongs.2.1 15 = .ok (.invokestatic 66, 3) ∧ 15 + 3 = 18 := ⟨by decide +kernel, rfl⟩
theorem d_LBText_belongs_18 : decode mm_LBText_belongs.2.1 18 = .ok (.ifCond .gt 21, 3) ∧ 18 + 3 = 21 ∧ ((18 : Nat) : Int) + (21) = ((39 : Nat) : Int) := ⟨by decide +kernel, rfl, by decide⟩
theorem d_LBText_belongs_21 : decode mm_LBText_belongs.2.1 21 = .ok (.iload_n 0, 1) ∧ 21 + 1 = 22 := ⟨by decide +kernel, rfl⟩
theorem d_LBText_belongs_22 : decode mm_LBText_belongs.2.1 22 = .ok (.bipush 68, 2) ∧ 22 + 2 = 24 := ⟨by decide +kernel, rfl⟩
theorem d_LBText_belongs_24 : decode mm_LBText_belongs.2.1 24 = .ok (.if_icmp .eq 15, 3) ∧ 24 + 3 = 27 ∧ ((24 : Nat) : Int) + (15) = ((39 : Nat) : Int) := ⟨by decide +kernel, rfl, by decide⟩
theorem d_LBText_belongs_27 : decode mm_LBText_belongs.2.1 27 = .ok (.iload_n 0, 1) ∧ 27 + 1 = 28 := ⟨by decide +kernel, rfl⟩
theorem d_LBText_belongs_28 : decode mm_LBText_belongs.2.1 28 = .ok (.bipush 40, 2) ∧ 28 + 2 = 30 := ⟨by decide +kernel, rfl⟩
theorem d_LBText_belongs_30 : decode mm_LBText_belongs.2.1 30 = .ok (.if_icmp .eq 9, 3) ∧ 30 + 3 = 33 ∧ ((30 : Nat) : Int) + (9) = ((39 : Nat) : Int) := ⟨by decide +kernel, rfl, by decide⟩
theorem d_LBText_belongs_33 : decode mm_LBText_belongs.2.1 33 = .ok (.iload_n 0, 1) ∧ 33 + 1 = 34 := ⟨by decide +kernel, rfl⟩
theorem d_LBText_belongs_34 : decode mm_LBText_belongs.2.1 34 = .ok (.bipush 41, 2) ∧ 34 + 2 = 36 := ⟨by decide +kernel, rfl⟩
theorem d_LBText_belongs_36 : decode mm_LBText_belongs.2.1 36 = .ok (.if_icmp .ne 7, 3) ∧ 36 + 3 = 39 ∧ ((36 : Nat) : Int) + (7) = ((43 : Nat) : Int) := ⟨by decide +kernel, rfl, by decide⟩
theorem d_LBText_belongs_39 : decode mm_LBText_belongs.2.1 39 = .ok (.iconst 1, 1) ∧ 39 + 1 = 40 := ⟨by decide +kernel, rfl⟩
theorem d_LBText_belongs_40 : decode mm_LBText_belongs.2.1 40 = .ok (.goto 4, 3) ∧ 40 + 3 = 43 ∧ ((40 : Nat) : Int) + (4) = ((44 : Nat) : Int) := ⟨by decide +kernel, rfl, by decide⟩
theorem d_LBText_belongs_43 : decode mm_LBText_belongs.2.1 43 = .ok (.iconst 0, 1) ∧ 43 + 1 = 44 := ⟨by decide +kernel, rfl⟩
theorem d_LBText_belongs_44 : decode mm_LBText_belongs.2.1 44 = .ok (.ireturn, 1) := by decide +kernel
theorem d_LBName_init_0 : decode mm_LBName_init.2.1 0 = .ok (.aload_n 0, 1) ∧ 0 + 1 = 1 := ⟨by decide +kernel, rfl⟩
theorem d_LBName_init_1 : decode mm_LBName_init.2.1 1 = .ok (.invokespecial 3, 3) ∧ 1 + 3 = 4 := ⟨by decide +kernel, rfl⟩
theorem d_LBName_init_4 : decode mm_LBName_init.2.1 4 = .ok (.aload_n 0, 1) ∧ 4 + 1 = 5 := ⟨by decide +kernel, rfl⟩
theorem d_LBName_init_5 : decode mm_LBName_init.2.1 5 = .ok (.new 9, 3) ∧ 5 + 3 = 8 := ⟨by decide +kernel, rfl⟩
theorem d_LBName_init_8 : decode mm_LBName_init.2.1 8 = .ok (.dup, 1) ∧ 8 + 1 = 9 := ⟨by decide +kernel, rfl⟩
theorem d_LBName_init_9 : decode mm_LBName_init.2.1 9 = .ok (.invokespecial 11, 3) ∧ 9 + 3 = 12 := ⟨by decide +kernel, rfl⟩
theorem d_LBName_init_12 : decode mm_LBName_init.2.1 12 = .ok (.putfield 12, 3) ∧ 12 + 3 = 15 := ⟨by decide +kernel, rfl⟩
theorem d_LBName_init_15 : decode mm_LBName_init.2.1 15 = .ok (.aload_n 0, 1) ∧ 15 + 1 = 16 := ⟨by decide +kernel, rfl⟩
theorem d_LBName_init_16 : decode mm_LBName_init.2.1 16 = .ok (.ldc2_w 18, 3) ∧ 16 + 3 = 19 := ⟨by decide +kernel, rfl⟩
theorem d_LBName_init_19 : decode mm_LBName_init.2.1 19 = .ok (.putfield 20, 3) ∧ 19 + 3 = 22 := ⟨by decide +kernel, rfl⟩
theorem d_LBName_init_22 : decode mm_LBName_init.2.1 22 = .ok (.return_, 1) := by decide +kernel
theorem d_LBPlan_init_0 : decode mm_LBPlan_init.2.1 0 = .ok (.aload_n 0, 1) ∧ 0 + 1 = 1 := ⟨by decide +kernel, rfl⟩
theorem d_LBPlan_init_1 : decode mm_LBPlan_init.2.1 1 = .ok (.invokespecial 1, 3) ∧ 1 + 3 = 4 := ⟨by decide +kernel, rfl⟩
theorem d_LBPlan_init_4 : decode mm_LBPlan_init.2.1 4 = .ok (.aload_n 0, 1) ∧ 4 + 1 = 5 := ⟨by decide +kernel, rfl⟩
theorem d_LBPlan_init_5 : decode mm_LBPlan_init.2.1 5 = .ok (.iload_n 1, 1) ∧ 5 + 1 = 6 := ⟨by decide +kernel, rfl⟩
theorem d_LBPlan_init_6 : decode mm_LBPlan_init.2.1 6 = .ok (.putfield 7, 3) ∧ 6 + 3 = 9 := ⟨by decide +kernel, rfl⟩
theorem d_LBPlan_init_9 : decode mm_LBPlan_init.2.1 9 = .ok (.aload_n 0, 1) ∧ 9 + 1 = 10 := ⟨by decide +kernel, rfl⟩
theorem d_LBPlan_init_10 : decode mm_LBPlan_init.2.1 10 = .ok (.aload_n 2, 1) ∧ 10 + 1 = 11 := ⟨by decide +kernel, rfl⟩
theorem d_LBPlan_init_11 : decode mm_LBPlan_init.2.1 11 = .ok (.putfield 13, 3) ∧ 11 + 3 = 14 := ⟨by decide +kernel, rfl⟩
theorem d_LBPlan_init_14 : decode mm_LBPlan_init.2.1 14 = .ok (.return_, 1) := by decide +kernel
theorem d_LBPlan_isAlike_0 : decode mm_LBPlan_isAlike.2.1 0 = .ok (.aload_n 0, 1) ∧ 0 + 1 = 1 := ⟨by decide +kernel, rfl⟩
theorem d_LBPlan_isAlike_1 : decode mm_LBPlan_isAlike.2.1 1 = .ok (.getfield 7, 3) ∧ 1 + 3 = 4 := ⟨by decide +kernel, rfl⟩
theorem d_LBPlan_isAlike_4 : decode mm_LBPlan_isAlike.2.1 4 = .ok (.iload_n 1, 1) ∧ 4 + 1 = 5 := ⟨by decide +kernel, rfl⟩
theorem d_LBPlan_isAlike_5 : decode mm_LBPlan_isAlike.2.1 5 = .ok (.if_icmp .ne 13, 3) ∧ 5 + 3 = 8 ∧ ((5 : Nat) : Int) + (13) = ((18 : Nat) : Int) := ⟨by decide +kernel, rfl, by decide⟩
theorem d_LBPlan_isAlike_8 : decode mm_LBPlan_isAlike.2.1 8 = .ok (.aload_n 0, 1) ∧ 8 + 1 = 9 := ⟨by decide +kernel, rfl⟩
theorem d_LBPlan_isAlike_9 : decode mm_LBPlan_isAlike.2.1 9 = .ok (.getfield 13, 3) ∧ 9 + 3 = 12 := ⟨by decide +kernel, rfl⟩
theorem d_LBPlan_isAlike_12 : decode mm_LBPlan_isAlike.2.1 12 = .ok (.arraylength, 1) ∧ 12 + 1 = 13 := ⟨by decide +kernel, rfl⟩
theorem d_LBPlan_isAlike_13 : decode mm_LBPlan_isAlike.2.1 13 = .ok (.iload 4, 2) ∧ 13 + 2 = 15 := ⟨by decide +kernel, rfl⟩
theorem d_LBPlan_isAlike_15 : decode mm_LBPlan_isAlike.2.1 15 = .ok (.if_icmp .eq 5, 3) ∧ 15 + 3 = 18 ∧ ((15 : Nat) : Int) + (5) = ((20 : Nat) : Int) := ⟨by decide +kernel, rfl, by decide⟩
theorem d_LBPlan_isAlike_18 : decode mm_LBPlan_isAlike.2.1 18 = .ok (.iconst 0, 1) ∧ 18 + 1 = 19 := ⟨by decide +kernel, rfl⟩
theorem d_LBPlan_isAlike_19 : decode mm_LBPlan_isAlike.2.1 19 = .ok (.ireturn, 1) := by decide +kernel
theorem d_LBPlan_isAlike_20 : decode mm_LBPlan_isAlike.2.1 20 = .ok (.iconst 0, 1) ∧ 20 + 1 = 21 := ⟨by decide +kernel, rfl⟩
theorem d_LBPlan_isAlike_21 : decode mm_LBPlan_isAlike.2.1 21 = .ok (.istore 5, 2) ∧ 21 + 2 = 23 := ⟨by decide +kernel, rfl⟩
theorem d_LBPlan_isAlike_23 : decode mm_LBPlan_isAlike.2.1 23 = .ok (.iload 5, 2) ∧ 23 + 2 = 25 := ⟨by decide +kernel, rfl⟩
theorem d_LBPlan_isAlike_25 : decode mm_LBPlan_isAlike.2.1 25 = .ok (.iload 4, 2) ∧ 25 + 2 = 27 := ⟨by decide +kernel, rfl⟩
theorem d_LBPlan_isAlike_27 : decode mm_LBPlan_isAlike.2.1 27 = .ok (.if_icmp .ge 28, 3) ∧ 27 + 3 = 30 ∧ ((27 : Nat) : Int) + (28) = ((55 : Nat) : Int) := ⟨by decide +kernel, rfl, by decide⟩
theorem d_LBPlan_isAlike_30 : decode mm_LBPlan_isAlike.2.1 30 = .ok (.aload_n 0, 1) ∧ 30 + 1 = 31 := ⟨by decide +kernel, rfl⟩
theorem d_LBPlan_isAlike_31 : decode mm_LBPlan_isAlike.2.1 31 = .ok (.getfield 13, 3) ∧ 31 + 3 = 34 := ⟨by decide +kernel, rfl⟩
theorem d_LBPlan_isAlike_34 : decode mm_LBPlan_isAlike.2.1 34 = .ok (.iload 5, 2) ∧ 34 + 2 = 36 := ⟨by decide +kernel, rfl⟩
theorem d_LBPlan_isAlike_36 : decode mm_LBPlan_isAlike.2.1 36 = .ok (.laload, 1) ∧ 36 + 1 = 37 := ⟨by decide +kernel, rfl⟩
theorem d_LBPlan_isAlike_37 : decode mm_LBPlan_isAlike.2.1 37 = .ok (.aload_n 2, 1) ∧ 37 + 1 = 38 := ⟨by decide +kernel, rfl⟩
theorem d_LBPlan_isAlike_38 : decode mm_LBPlan_isAlike.2.1 38 = .ok (.iload_n 3, 1) ∧ 38 + 1 = 39 := ⟨by decide +kernel, rfl⟩
theorem d_LBPlan_isAlike_39 : decode mm_LBPlan_isAlike.2.1 39 = .ok (.iload 5, 2) ∧ 39 + 2 = 41 := ⟨by decide +kernel, rfl⟩
theorem d_LBPlan_isAlike_41 : decode mm_LBPlan_isAlike.2.1 41 = .ok (.iadd, 1) ∧ 41 + 1 = 42 := ⟨by decide +kernel, rfl⟩
theorem d_LBPlan_isAlike_42 : decode mm_LBPlan_isAlike.2.1 42 = .ok (.laload, 1) ∧ 42 + 1 = 43 := ⟨by decide +kernel, rfl⟩
theorem d_LBPlan_isAlike_43 : decode mm_LBPlan_isAlike.2.1 43 = .ok (.lcmp, 1) ∧ 43 + 1 = 44 := ⟨by decide +kernel, rfl⟩
theorem d_LBPlan_isAlike_44 : decode mm_LBPlan_isAlike.2.1 44 = .ok (.ifCond .eq 5, 3) ∧ 44 + 3 = 47 ∧ ((44 : Nat) : Int) + (5) = ((49 : Nat) : Int) := ⟨by decide +kernel, rfl, by decide⟩
theorem d_LBPlan_isAlike_47 : decode mm_LBPlan_isAlike.2.1 47 = .ok (.iconst 0, 1) ∧ 47 + 1 = 48 := ⟨by decide +kernel, rfl⟩
theorem d_LBPlan_isAlike_48 : decode mm_LBPlan_isAlike.2.1 48 = .ok (.ireturn, 1) := by decide +kernel
theorem d_LBPlan_isAlike_49 : decode mm_LBPlan_isAlike.2.1 49 = .ok (.iinc 5 1, 3) ∧ 49 + 3 = 52 := ⟨by decide +kernel, rfl⟩
theorem d_LBPlan_isAlike_52 : decode mm_LBPlan_isAlike.2.1 52 = .ok (.goto (-29), 3) ∧ 52 + 3 = 55 ∧ ((52 : Nat) : Int) + (-29) = ((23 : Nat) : Int) := ⟨by decide +kernel, rfl, by decide⟩
theorem d_LBPlan_isAlike_55 : decode mm_LBPlan_isAlike.2.1 55 = .ok (.iconst 1, 1) ∧ 55 + 1 = 56 := ⟨by decide +kernel, rfl⟩
theorem d_LBPlan_isAlike_56 : decode mm_LBPlan_isAlike.2.1 56 = .ok (.ireturn, 1) := by decide +kernel
theorem d_LBStore_init_0 : decode mm_LBStore_init.2.1 0 = .ok (.aload_n 0, 1) ∧ 0 + 1 = 1 := ⟨by decide +kernel, rfl⟩
theorem d_LBStore_init_1 : decode mm_LBStore_init.2.1 1 = .ok (.invokespecial 3, 3) ∧ 1 + 3 = 4 := ⟨by decide +kernel, rfl⟩
theorem d_LBStore_init_4 : decode mm_LBStore_init.2.1 4 = .ok (.aload_n 0, 1) ∧ 4 + 1 = 5 := ⟨by decide +kernel, rfl⟩
theorem d_LBStore_init_5 : decode mm_LBStore_init.2.1 5 = .ok (.bipush 30, 2) ∧ 5 + 2 = 7 := ⟨by decide +kernel, rfl⟩
theorem d_LBStore_init_7 : decode mm_LBStore_init.2.1 7 = .ok (.anewarray 9, 3) ∧ 7 + 3 = 10 := ⟨by decide +kernel, rfl⟩
theorem d_LBStore_init_10 : decode mm_LBStore_init.2.1 10 = .ok (.putfield 11, 3) ∧ 10 + 3 = 13 := ⟨by decide +kernel, rfl⟩
theorem d_LBStore_init_13 : decode mm_LBStore_init.2.1 13 = .ok (.aload_n 0, 1) ∧ 13 + 1 = 14 := ⟨by decide +kernel, rfl⟩
theorem d_LBStore_init_14 : decode mm_LBStore_init.2.1 14 = .ok (.bipush 10, 2) ∧ 14 + 2 = 16 := ⟨by decide +kernel, rfl⟩
theorem d_LBStore_init_16 : decode mm_LBStore_init.2.1 16 = .ok (.newarray .int, 2) ∧ 16 + 2 = 18 := ⟨by decide +kernel, rfl⟩
theorem d_LBStore_init_18 : decode mm_LBStore_init.2.1 18 = .ok (.putfield 17, 3) ∧ 18 + 3 = 21 := ⟨by decide +kernel, rfl⟩
theorem d_LBStore_init_21 : decode mm_LBStore_init.2.1 21 = .ok (.return_, 1) := by decide +kernel
theorem d_LBStore_planAt_0 : decode mm_LBStore_planAt.2.1 0 = .ok (.aload_n 0, 1) ∧ 0 + 1 = 1 := ⟨by decide +kernel, rfl⟩
theorem d_LBStore_planAt_1 : decode mm_LBStore_planAt.2.1 1 = .ok (.ldc2_w 21, 3) ∧ 1 + 3 = 4 := ⟨by decide +kernel, rfl⟩
theorem d_LBStore_planAt_4 : decode mm_LBStore_planAt.2.1 4 = .ok (.iload_n 1, 1) ∧ 4 + 1 = 5 := ⟨by decide +kernel, rfl⟩
theorem d_LBStore_planAt_5 : decode mm_LBStore_planAt.2.1 5 = .ok (.i2l, 1) ∧ 5 + 1 = 6 := ⟨by decide +kernel, rfl⟩
theorem d_LBStore_planAt_6 : decode mm_LBStore_planAt.2.1 6 = .ok (.ladd, 1) ∧ 6 + 1 = 7 := ⟨by decide +kernel, rfl⟩
theorem d_LBStore_planAt_7 : decode mm_LBStore_planAt.2.1 7 = .ok (.invokevirtual 23, 3) ∧ 7 + 3 = 10 := ⟨by decide +kernel, rfl⟩
theorem d_LBStore_planAt_10 : decode mm_LBStore_planAt.2.1 10 = .ok (.areturn, 1) := by decide +kernel
theorem d_LBStore_planIn_0 : decode mm_LBStore_planIn.2.1 0 = .ok (.lload_n 1, 1) ∧ 0 + 1 = 1 := ⟨by decide +kernel, rfl⟩
theorem d_LBStore_planIn_1 : decode mm_LBStore_planIn.2.1 1 = .ok (.ldc2_w 21, 3) ∧ 1 + 3 = 4 := ⟨by decide +kernel, rfl⟩
theorem d_LBStore_planIn_4 : decode mm_LBStore_planIn.2.1 4 = .ok (.lsub, 1) ∧ 4 + 1 = 5 := ⟨by decide +kernel, rfl⟩
theorem d_LBStore_planIn_5 : decode mm_LBStore_planIn.2.1 5 = .ok (.lstore_n 3, 1) ∧ 5 + 1 = 6 := ⟨by decide +kernel, rfl⟩
theorem d_LBStore_planIn_6 : decode mm_LBStore_planIn.2.1 6 = .ok (.lload_n 3, 1) ∧ 6 + 1 = 7 := ⟨by decide +kernel, rfl⟩
theorem d_LBStore_planIn_7 : decode mm_LBStore_planIn.2.1 7 = .ok (.lconst 1, 1) ∧ 7 + 1 = 8 := ⟨by decide +kernel, rfl⟩
theorem d_LBStore_planIn_8 : decode mm_LBStore_planIn.2.1 8 = .ok (.lcmp, 1) ∧ 8 + 1 = 9 := ⟨by decide +kernel, rfl⟩
theorem d_LBStore_planIn_9 : decode mm_LBStore_planIn.2.1 9 = .ok (.ifCond .lt 25, 3) ∧ 9 + 3 = 12 ∧ ((9 : Nat) : Int) + (25) = ((34 : Nat) : Int) := ⟨by decide +kernel, rfl, by decide⟩
theorem d_LBStore_planIn_12 : decode mm_LBStore_planIn.2.1 12 = .ok (.lload_n 3, 1) ∧ 12 + 1 = 13 := ⟨by decide +kernel, rfl⟩
theorem d_LBStore_planIn_13 : decode mm_LBStore_planIn.2.1 13 = .ok (.aload_n 0, 1) ∧ 13 + 1 = 14 := ⟨by decide +kernel, rfl⟩
theorem d_LBStore_planIn_14 : decode mm_LBStore_planIn.2.1 14 = .ok (.getfield 27, 3) ∧ 14 + 3 = 17 := ⟨by decide +kernel, rfl⟩
theorem d_LBStore_planIn_17 : decode mm_LBStore_planIn.2.1 17 = .ok (.i2l, 1) ∧ 17 + 1 = 18 := ⟨by decide +kernel, rfl⟩
theorem d_LBStore_planIn_18 : decode mm_LBStore_planIn.2.1 18 = .ok (.lcmp, 1) ∧ 18 + 1 = 19 := ⟨by decide +kernel, rfl⟩
theorem d_LBStore_planIn_19 : decode mm_LBStore_planIn.2.1 19 = .ok (.ifCond .gt 15, 3) ∧ 19 + 3 = 22 ∧ ((19 : Nat) : Int) + (15) = ((34 : Nat) : Int) := ⟨by decide +kernel, rfl, by decide⟩
theorem d_LBStore_planIn_22 : decode mm_LBStore_planIn.2.1 22 = .ok (.aload_n 0, 1) ∧ 22 + 1 = 23 := ⟨by decide +kernel, rfl⟩
theorem d_LBStore_planIn_23 : decode mm_LBStore_planIn.2.1 23 = .ok (.getfield 11, 3) ∧ 23 + 3 = 26 := ⟨by decide +kernel, rfl⟩
theorem d_LBStore_planIn_26 : decode mm_LBStore_planIn.2.1 26 = .ok (.lload_n 3, 1) ∧ 26 + 1 = 27 := ⟨by decide +kernel, rfl⟩
theorem d_LBStore_planIn_27 : decode mm_LBStore_planIn.2.1 27 = .ok (.l2i, 1) ∧ 27 + 1 = 28 := ⟨by decide +kernel, rfl⟩
theorem d_LBStore_planIn_28 : decode mm_LBStore_planIn.2.1 28 = .ok (.iconst 1, 1) ∧ 28 + 1 = 29 := ⟨by decide +kernel, rfl⟩
theorem d_LBStore_planIn_29 : decode mm_LBStore_planIn.2.1 29 = .ok (.isub, 1) ∧ 29 + 1 = 30 := ⟨by decide +kernel, rfl⟩
theorem d_LBStore_planIn_30 : decode mm_LBStore_planIn.2.1 30 = .ok (.aaload, 1) ∧ 30 + 1 = 31 := ⟨by decide +kernel, rfl⟩
theorem d_LBStore_planIn_31 : decode mm_LBStore_planIn.2.1 31 = .ok (.goto 4, 3) ∧ 31 + 3 = 34 ∧ ((31 : Nat) : Int) + (4) = ((35 : Nat) : Int) := ⟨by decide +kernel, rfl, by decide⟩
theorem d_LBStore_planIn_34 : decode mm_LBStore_planIn.2.1 34 = .ok (.aconst_null, 1) ∧ 34 + 1 = 35 := ⟨by decide +kernel, rfl⟩
theorem d_LBStore_planIn_35 : decode mm_LBStore_planIn.2.1 35 = .ok (.areturn, 1) := by decide +kernel
theorem d_LBStore_planOf_0 : decode mm_LBStore_planOf.2.1 0 = .ok (.iconst 0, 1) ∧ 0 + 1 = 1 := ⟨by decide +kernel, rfl⟩
theorem d_LBStore_planOf_1 : decode mm_LBStore_planOf.2.1 1 = .ok (.istore 5, 2) ∧ 1 + 2 = 3 := ⟨by decide +kernel, rfl⟩
theorem d_LBStore_planOf_3 : decode mm_LBStore_planOf.2.1 3 = .ok (.iload 5, 2) ∧ 3 + 2 = 5 := ⟨by decide +kernel, rfl⟩
theorem d_LBStore_planOf_5 : decode mm_LBStore_planOf.2.1 5 = .ok (.aload_n 0, 1) ∧ 5 + 1 = 6 := ⟨by decide +kernel, rfl⟩
theorem d_LBStore_planOf_6 : decode mm_LBStore_planOf.2.1 6 = .ok (.getfield 27, 3) ∧ 6 + 3 = 9 := ⟨by decide +kernel, rfl⟩
theorem d_LBStore_planOf_9 : decode mm_LBStore_planOf.2.1 9 = .ok (.if_icmp .ge 37, 3) ∧ 9 + 3 = 12 ∧ ((9 : Nat) : Int) + (37) = ((46 : Nat) : Int) := ⟨by decide +kernel, rfl, by decide⟩
theorem d_LBStore_planOf_12 : decode mm_LBStore_planOf.2.1 12 = .ok (.aload_n 0, 1) ∧ 12 + 1 = 13 := ⟨by decide +kernel, rfl⟩
theorem d_LBStore_planOf_13 : decode mm_LBStore_planOf.2.1 13 = .ok (.getfield 11, 3) ∧ 13 + 3 = 16 := ⟨by decide +kernel, rfl⟩
theorem d_LBStore_planOf_16 : decode mm_LBStore_planOf.2.1 16 = .ok (.iload 5, 2) ∧ 16 + 2 = 18 := ⟨by decide +kernel, rfl⟩
theorem d_LBStore_planOf_18 : decode mm_LBStore_planOf.2.1 18 = .ok (.aaload, 1) ∧ 18 + 1 = 19 := ⟨by decide +kernel, rfl⟩
theorem d_LBStore_planOf_19 : decode mm_LBStore_planOf.2.1 19 = .ok (.iload_n 1, 1) ∧ 19 + 1 = 20 := ⟨by decide +kernel, rfl⟩
theorem d_LBStore_planOf_20 : decode mm_LBStore_planOf.2.1 20 = .ok (.aload_n 2, 1) ∧ 20 + 1 = 21 := ⟨by decide +kernel, rfl⟩
theorem d_LBStore_planOf_21 : decode mm_LBStore_planOf.2.1 21 = .ok (.iload_n 3, 1) ∧ 21 + 1 = 22 := ⟨by decide +kernel, rfl⟩
theorem d_LBStore_planOf_22 : decode mm_LBStore_planOf.2.1 22 = .ok (.iload 4, 2) ∧ 22 + 2 = 24 := ⟨by decide +kernel, rfl⟩
theorem d_LBStore_planOf_24 : decode mm_LBStore_planOf.2.1 24 = .ok (.invokevirtual 31, 3) ∧ 24 + 3 = 27 := ⟨by decide +kernel, rfl⟩
theorem d_LBStore_planOf_27 : decode mm_LBStore_planOf.2.1 27 = .ok (.ifCond .eq 13, 3) ∧ 27 + 3 = 30 ∧ ((27 : Nat) : Int) + (13) = ((40 : Nat) : Int) := ⟨by decide +kernel, rfl, by decide⟩
theorem d_LBStore_planOf_30 : decode mm_LBStore_planOf.2.1 30 = .ok (.ldc2_w 21, 3) ∧ 30 + 3 = 33 := ⟨by decide +kernel, rfl⟩
theorem d_LBStore_planOf_33 : decode mm_LBStore_planOf.2.1 33 = .ok (.iload 5, 2) ∧ 33 + 2 = 35 := ⟨by decide +kernel, rfl⟩
theorem d_LBStore_planOf_35 : decode mm_LBStore_planOf.2.1 35 = .ok (.i2l, 1) ∧ 35 + 1 = 36 := ⟨by decide +kernel, rfl⟩
theorem d_LBStore_planOf_36 : decode mm_LBStore_planOf.2.1 36 = .ok (.ladd, 1) ∧ 36 + 1 = 37 := ⟨by decide +kernel, rfl⟩
theorem d_LBStore_planOf_37 : decode mm_LBStore_planOf.2.1 37 = .ok (.lconst 1, 1) ∧ 37 + 1 = 38 := ⟨by decide +kernel, rfl⟩
theorem d_LBStore_planOf_38 : decode mm_LBStore_planOf.2.1 38 = .ok (.ladd, 1) ∧ 38 + 1 = 39 := ⟨by decide +kernel, rfl⟩
theorem d_LBStore_planOf_39 : decode mm_LBStore_planOf.2.1 39 = .ok (.lreturn, 1) := by decide +kernel
theorem d_LBStore_planOf_40 : decode mm_LBStore_planOf.2.1 40 = .ok (.iinc 5 1, 3) ∧ 40 + 3 = 43 := ⟨by decide +kernel, rfl⟩
theorem d_LBStore_planOf_43 : decode mm_LBStore_planOf.2.1 43 = .ok (.goto (-40), 3) ∧ 43 + 3 = 46 ∧ ((43 : Nat) : Int) + (-40) = ((3 : Nat) : Int) := ⟨by decide +kernel, rfl, by decide⟩
theorem d_LBStore_planOf_46 : decode mm_LBStore_planOf.2.1 46 = .ok (.aload_n 0, 1) ∧ 46 + 1 = 47 := ⟨by decide +kernel, rfl⟩
theorem d_LBStore_planOf_47 : decode mm_LBStore_planOf.2.1 47 = .ok (.getfield 27, 3) ∧ 47 + 3 = 50 := ⟨by decide +kernel, rfl⟩
theorem d_LBStore_planOf_50 : decode mm_LBStore_planOf.2.1 50 = .ok (.bipush 30, 2) ∧ 50 + 2 = 52 := ⟨by decide +kernel, rfl⟩
theorem d_LBStore_planOf_52 : decode mm_LBStore_planOf.2.1 52 = .ok (.if_icmp .lt 7, 3) ∧ 52 + 3 = 55 ∧ ((52 : Nat) : Int) + (7) = ((59 : Nat) : Int) := ⟨by decide +kernel, rfl, by decide⟩
theorem d_LBStore_planOf_55 : decode mm_LBStore_planOf.2.1 55 = .ok (.ldc2_w 35, 3) ∧ 55 + 3 = 58 := ⟨by decide +kernel, rfl⟩
theorem d_LBStore_planOf_58 : decode mm_LBStore_planOf.2.1 58 = .ok (.lreturn, 1) := by decide +kernel
theorem d_LBStore_planOf_59 : decode mm_LBStore_planOf.2.1 59 = .ok (.iload 4, 2) ∧ 59 + 2 = 61 := ⟨by decide +kernel, rfl⟩
theorem d_LBStore_planOf_61 : decode mm_LBStore_planOf.2.1 61 = .ok (.newarray .long, 2) ∧ 61 + 2 = 63 := ⟨by decide +kernel, rfl⟩
theorem d_LBStore_planOf_63 : decode mm_LBStore_planOf.2.1 63 = .ok (.astore 5, 2) ∧ 63 + 2 = 65 := ⟨by decide +kernel, rfl⟩
theorem d_LBStore_planOf_65 : decode mm_LBStore_planOf.2.1 65 = .ok (.aload_n 2, 1) ∧ 65 + 1 = 66 := ⟨by decide +kernel, rfl⟩
theorem d_LBStore_planOf_66 : decode mm_LBStore_planOf.2.1 66 = .ok (.iload_n 3, 1) ∧ 66 + 1 = 67 := ⟨by decide +kernel, rfl⟩
theorem d_LBStore_planOf_67 : decode mm_LBStore_planOf.2.1 67 = .ok (.aload 5, 2) ∧ 67 + 2 = 69 := ⟨by decide +kernel, rfl⟩
theorem d_LBStore_planOf_69 : decode mm_LBStore_planOf.2.1 69 = .ok (.iconst 0, 1) ∧ 69 + 1 = 70 := ⟨by decide +kernel, rfl⟩
theorem d_LBStore_planOf_70 : decode mm_LBStore_planOf.2.1 70 = .ok (.iload 4, 2) ∧ 70 + 2 = 72 := ⟨by decide +kernel, rfl⟩
theorem d_LBStore_planOf_72 : decode mm_LBStore_planOf.2.1 72 = .ok (.invokestatic 37, 3) ∧ 72 + 3 = 75 := ⟨by decide +kernel, rfl⟩
theorem d_LBStore_planOf_75 : decode mm_LBStore_planOf.2.1 75 = .ok (.aload_n 0, 1) ∧ 75 + 1 = 76 := ⟨by decide +kernel, rfl⟩
theorem d_LBStore_planOf_76 : decode mm_LBStore_planOf.2.1 76 = .ok (.getfield 11, 3) ∧ 76 + 3 = 79 := ⟨by decide +kernel, rfl⟩
theorem d_LBStore_planOf_79 : decode mm_LBStore_planOf.2.1 79 = .ok (.aload_n 0, 1) ∧ 79 + 1 = 80 := ⟨by decide +kernel, rfl⟩
theorem d_LBStore_planOf_80 : decode mm_LBStore_planOf.2.1 80 = .ok (.getfield 27, 3) ∧ 80 + 3 = 83 := ⟨by decide +kernel, rfl⟩
theorem d_LBStore_planOf_83 : decode mm_LBStore_planOf.2.1 83 = .ok (.new 9, 3) ∧ 83 + 3 = 86 := ⟨by decide +kernel, rfl⟩
theorem d_LBStore_planOf_86 : decode mm_LBStore_planOf.2.1 86 = .ok (.dup, 1) ∧ 86 + 1 = 87 := ⟨by decide +kernel, rfl⟩
theorem d_LBStore_planOf_87 : decode mm_LBStore_planOf.2.1 87 = .ok (.iload_n 1, 1) ∧ 87 + 1 = 88 := ⟨by decide +kernel, rfl⟩
theorem d_LBStore_planOf_88 : decode mm_LBStore_planOf.2.1 88 = .ok (.aload 5, 2) ∧ 88 + 2 = 90 := ⟨by decide +kernel, rfl⟩
theorem d_LBStore_planOf_90 : decode mm_LBStore_planOf.2.1 90 = .ok (.invokespecial 43, 3) ∧ 90 + 3 = 93 := ⟨by decide +kernel, rfl⟩
theorem d_LBStore_planOf_93 : decode mm_LBStore_planOf.2.1 93 = .ok (.aastore, 1) ∧ 93 + 1 = 94 := ⟨by decide +kernel, rfl⟩
theorem d_LBStore_planOf_94 : decode mm_LBStore_planOf.2.1 94 = .ok (.aload_n 0, 1) ∧ 94 + 1 = 95 := ⟨by decide +kernel, rfl⟩
theorem d_LBStore_planOf_95 : decode mm_LBStore_planOf.2.1 95 = .ok (.dup, 1) ∧ 95 + 1 = 96 := ⟨by decide +kernel, rfl⟩
theorem d_LBStore_planOf_96 : decode mm_LBStore_planOf.2.1 96 = .ok (.getfield 27, 3) ∧ 96 + 3 = 99 := ⟨by decide +kernel, rfl⟩
theorem d_LBStore_planOf_99 : decode mm_LBStore_planOf.2.1 99 = .ok (.iconst 1, 1) ∧ 99 + 1 = 100 := ⟨by decide +kernel, rfl⟩
theorem d_LBStore_planOf_100 : decode mm_LBStore_planOf.2.1 100 = .ok (.iadd, 1) ∧ 100 + 1 = 101 := ⟨by decide +kernel, rfl⟩
theorem d_LBStore_planOf_101 : decode mm_LBStore_planOf.2.1 101 = .ok (.putfield 27, 3) ∧ 101 + 3 = 104 := ⟨by decide +kernel, rfl⟩
theorem d_LBStore_planOf_104 : decode mm_LBStore_planOf.2.1 104 = .ok (.ldc2_w 21, 3) ∧ 104 + 3 = 107 := ⟨by decide +kernel, rfl⟩
theorem d_LBStore_planOf_107 : decode mm_LBStore_planOf.2.1 107 = .ok (.aload_n 0, 1) ∧ 107 + 1 = 108 := ⟨by decide +kernel, rfl⟩
theorem d_LBStore_planOf_108 : decode mm_LBStore_planOf.2.1 108 = .ok (.getfield 27, 3) ∧ 108 + 3 = 111 := ⟨by decide +kernel, rfl⟩
theorem d_LBStore_planOf_111 : decode mm_LBStore_planOf.2.1 111 = .ok (.i2l, 1) ∧ 111 + 1 = 112 := ⟨by decide +kernel, rfl⟩
theorem d_LBStore_planOf_112 : decode mm_LBStore_planOf.2.1 112 = .ok (.ladd, 1) ∧ 112 + 1 = 113 := ⟨by decide +kernel, rfl⟩
theorem d_LBStore_planOf_113 : decode mm_LBStore_planOf.2.1 113 = .ok (.lreturn, 1) := by decide +kernel
theorem d_LBStore_partOf_0 : decode mm_LBStore_partOf.2.1 0 = .ok (.aload_n 0, 1) ∧ 0 + 1 = 1 := ⟨by decide +kernel, rfl⟩
theorem d_LBStore_partOf_1 : decode mm_LBStore_partOf.2.1 1 = .ok (.lload_n 1, 1) ∧ 1 + 1 = 2 := ⟨by decide +kernel, rfl⟩
theorem d_LBStore_partOf_2 : decode mm_LBStore_partOf.2.1 2 = .ok (.invokevirtual 23, 3) ∧ 2 + 3 = 5 := ⟨by decide +kernel, rfl⟩
theorem d_LBStore_partOf_5 : decode mm_LBStore_partOf.2.1 5 = .ok (.astore 4, 2) ∧ 5 + 2 = 7 := ⟨by decide +kernel, rfl⟩
theorem d_LBStore_partOf_7 : decode mm_LBStore_partOf.2.1 7 = .ok (.aload 4, 2) ∧ 7 + 2 = 9 := ⟨by decide +kernel, rfl⟩
theorem d_LBStore_partOf_9 : decode mm_LBStore_partOf.2.1 9 = .ok (.ifnonnull 5, 3) ∧ 9 + 3 = 12 ∧ ((9 : Nat) : Int) + (5) = ((14 : Nat) : Int) := ⟨by decide +kernel, rfl, by decide⟩
theorem d_LBStore_partOf_12 : decode mm_LBStore_partOf.2.1 12 = .ok (.lload_n 1, 1) ∧ 12 + 1 = 13 := ⟨by decide +kernel, rfl⟩
theorem d_LBStore_partOf_13 : decode mm_LBStore_partOf.2.1 13 = .ok (.lreturn, 1) := by decide +kernel
theorem d_LBStore_partOf_14 : decode mm_LBStore_partOf.2.1 14 = .ok (.aload 4, 2) ∧ 14 + 2 = 16 := ⟨by decide +kernel, rfl⟩
theorem d_LBStore_partOf_16 : decode mm_LBStore_partOf.2.1 16 = .ok (.getfield 46, 3) ∧ 16 + 3 = 19 := ⟨by decide +kernel, rfl⟩
theorem d_LBStore_partOf_19 : decode mm_LBStore_partOf.2.1 19 = .ok (.ifCond .eq 10, 3) ∧ 19 + 3 = 22 ∧ ((19 : Nat) : Int) + (10) = ((29 : Nat) : Int) := ⟨by decide +kernel, rfl, by decide⟩
theorem d_LBStore_partOf_22 : decode mm_LBStore_partOf.2.1 22 = .ok (.aload 4, 2) ∧ 22 + 2 = 24 := ⟨by decide +kernel, rfl⟩
theorem d_LBStore_partOf_24 : decode mm_LBStore_partOf.2.1 24 = .ok (.getfield 50, 3) ∧ 24 + 3 = 27 := ⟨by decide +kernel, rfl⟩
theorem d_LBStore_partOf_27 : decode mm_LBStore_partOf.2.1 27 = .ok (.i2l, 1) ∧ 27 + 1 = 28 := ⟨by decide +kernel, rfl⟩
theorem d_LBStore_partOf_28 : decode mm_LBStore_partOf.2.1 28 = .ok (.lreturn, 1) := by decide +kernel
theorem d_LBStore_partOf_29 : decode mm_LBStore_partOf.2.1 29 = .ok (.iload_n 3, 1) ∧ 29 + 1 = 30 := ⟨by decide +kernel, rfl⟩
theorem d_LBStore_partOf_30 : decode mm_LBStore_partOf.2.1 30 = .ok (.ifCond .gt 7, 3) ∧ 30 + 3 = 33 ∧ ((30 : Nat) : Int) + (7) = ((37 : Nat) : Int) := ⟨by decide +kernel, rfl, by decide⟩
theorem d_LBStore_partOf_33 : decode mm_LBStore_partOf.2.1 33 = .ok (.ldc2_w 53, 3) ∧ 33 + 3 = 36 := ⟨by decide +kernel, rfl⟩
theorem d_LBStore_partOf_36 : decode mm_LBStore_partOf.2.1 36 = .ok (.lreturn, 1) := by decide +kernel
theorem d_LBStore_partOf_37 : decode mm_LBStore_partOf.2.1 37 = .ok (.iconst 0, 1) ∧ 37 + 1 = 38 := ⟨by decide +kernel, rfl⟩
theorem d_LBStore_partOf_38 : decode mm_LBStore_partOf.2.1 38 = .ok (.istore 5, 2) ∧ 38 + 2 = 40 := ⟨by decide +kernel, rfl⟩
theorem d_LBStore_partOf_40 : decode mm_LBStore_partOf.2.1 40 = .ok (.iload 5, 2) ∧ 40 + 2 = 42 := ⟨by decide +kernel, rfl⟩
theorem d_LBStore_partOf_42 : decode mm_LBStore_partOf.2.1 42 = .ok (.aload 4, 2) ∧ 42 + 2 = 44 := ⟨by decide +kernel, rfl⟩
theorem d_LBStore_partOf_44 : decode mm_LBStore_partOf.2.1 44 = .ok (.getfield 55, 3) ∧ 44 + 3 = 47 := ⟨by decide +kernel, rfl⟩
theorem d_LBStore_partOf_47 : decode mm_LBStore_partOf.2.1 47 = .ok (.arraylength, 1) ∧ 47 + 1 = 48 := ⟨by decide +kernel, rfl⟩
theorem d_LBStore_partOf_48 : decode mm_LBStore_partOf.2.1 48 = .ok (.if_icmp .ge 37, 3) ∧ 48 + 3 = 51 ∧ ((48 : Nat) : Int) + (37) = ((85 : Nat) : Int) := ⟨by decide +kernel, rfl, by decide⟩
theorem d_LBStore_partOf_51 : decode mm_LBStore_partOf.2.1 51 = .ok (.aload_n 0, 1) ∧ 51 + 1 = 52 := ⟨by decide +kernel, rfl⟩
theorem d_LBStore_partOf_52 : decode mm_LBStore_partOf.2.1 52 = .ok (.aload 4, 2) ∧ 52 + 2 = 54 := ⟨by decide +kernel, rfl⟩
theorem d_LBStore_partOf_54 : decode mm_LBStore_partOf.2.1 54 = .ok (.getfield 55, 3) ∧ 54 + 3 = 57 := ⟨by decide +kernel, rfl⟩
theorem d_LBStore_partOf_57 : decode mm_LBStore_partOf.2.1 57 = .ok (.iload 5, 2) ∧ 57 + 2 = 59 := ⟨by decide +kernel, rfl⟩
theorem d_LBStore_partOf_59 : decode mm_LBStore_partOf.2.1 59 = .ok (.laload, 1) ∧ 59 + 1 = 60 := ⟨by decide +kernel, rfl⟩
theorem d_LBStore_partOf_60 : decode mm_LBStore_partOf.2.1 60 = .ok (.iload_n 3, 1) ∧ 60 + 1 = 61 := ⟨by decide +kernel, rfl⟩
theorem d_LBStore_partOf_61 : decode mm_LBStore_partOf.2.1 61 = .ok (.iconst 1, 1) ∧ 61 + 1 = 62 := ⟨by decide +kernel, rfl⟩
theorem d_LBStore_partOf_62 : decode mm_LBStore_partOf.2.1 62 = .ok (.isub, 1) ∧ 62 + 1 = 63 := ⟨by decide +kernel, rfl⟩
theorem d_LBStore_partOf_63 : decode mm_LBStore_partOf.2.1 63 = .ok (.invokevirtual 59, 3) ∧ 63 + 3 = 66 := ⟨by decide +kernel, rfl⟩
theorem d_LBStore_partOf_66 : decode mm_LBStore_partOf.2.1 66 = .ok (.lstore 6, 2) ∧ 66 + 2 = 68 := ⟨by decide +kernel, rfl⟩
theorem d_LBStore_partOf_68 : decode mm_LBStore_partOf.2.1 68 = .ok (.lload 6, 2) ∧ 68 + 2 = 70 := ⟨by decide +kernel, rfl⟩
theorem d_LBStore_partOf_70 : decode mm_LBStore_partOf.2.1 70 = .ok (.invokestatic 63, 3) ∧ 70 + 3 = 73 := ⟨by decide +kernel, rfl⟩
theorem d_LBStore_partOf_73 : decode mm_LBStore_partOf.2.1 73 = .ok (.ifCond .eq 6, 3) ∧ 73 + 3 = 76 ∧ ((73 : Nat) : Int) + (6) = ((79 : Nat) : Int) := ⟨by decide +kernel, rfl, by decide⟩
theorem d_LBStore_partOf_76 : decode mm_LBStore_partOf.2.1 76 = .ok (.lload 6, 2) ∧ 76 + 2 = 78 := ⟨by decide +kernel, rfl⟩
theorem d_LBStore_partOf_78 : decode mm_LBStore_partOf.2.1 78 = .ok (.lreturn, 1) := by decide +kernel
theorem d_LBStore_partOf_79 : decode mm_LBStore_partOf.2.1 79 = .ok (.iinc 5 1, 3) ∧ 79 + 3 = 82 := ⟨by decide +kernel, rfl⟩
theorem d_LBStore_partOf_82 : decode mm_LBStore_partOf.2.1 82 = .ok (.goto (-42), 3) ∧ 82 + 3 = 85 ∧ ((82 : Nat) : Int) + (-42) = ((40 : Nat) : Int) := ⟨by decide +kernel, rfl, by decide⟩
theorem d_LBStore_partOf_85 : decode mm_LBStore_partOf.2.1 85 = .ok (.aload_n 0, 1) ∧ 85 + 1 = 86 := ⟨by decide +kernel, rfl⟩
theorem d_LBStore_partOf_86 : decode mm_LBStore_partOf.2.1 86 = .ok (.aload 4, 2) ∧ 86 + 2 = 88 := ⟨by decide +kernel, rfl⟩
theorem d_LBStore_partOf_88 : decode mm_LBStore_partOf.2.1 88 = .ok (.invokevirtual 67, 3) ∧ 88 + 3 = 91 := ⟨by decide +kernel, rfl⟩
theorem d_LBStore_partOf_91 : decode mm_LBStore_partOf.2.1 91 = .ok (.lreturn, 1) := by decide +kernel
theorem d_LBStore_finish_0 : decode mm_LBStore_finish.2.1 0 = .ok (.iconst 0, 1) ∧ 0 + 1 = 1 := ⟨by decide +kernel, rfl⟩
theorem d_LBStore_finish_1 : decode mm_LBStore_finish.2.1 1 = .ok (.istore_n 2, 1) ∧ 1 + 1 = 2 := ⟨by decide +kernel, rfl⟩
theorem d_LBStore_finish_2 : decode mm_LBStore_finish.2.1 2 = .ok (.iconst 1, 1) ∧ 2 + 1 = 3 := ⟨by decide +kernel, rfl⟩
theorem d_LBStore_finish_3 : decode mm_LBStore_finish.2.1 3 = .ok (.istore_n 3, 1) ∧ 3 + 1 = 4 := ⟨by decide +kernel, rfl⟩
theorem d_LBStore_finish_4 : decode mm_LBStore_finish.2.1 4 = .ok (.iconst 0, 1) ∧ 4 + 1 = 5 := ⟨by decide +kernel, rfl⟩
theorem d_LBStore_finish_5 : decode mm_LBStore_finish.2.1 5 = .ok (.istore 4, 2) ∧ 5 + 2 = 7 := ⟨by decide +kernel, rfl⟩
theorem d_LBStore_finish_7 : decode mm_LBStore_finish.2.1 7 = .ok (.iconst 0, 1) ∧ 7 + 1 = 8 := ⟨by decide +kernel, rfl⟩
theorem d_LBStore_finish_8 : decode mm_LBStore_finish.2.1 8 = .ok (.istore 5, 2) ∧ 8 + 2 = 10 := ⟨by decide +kernel, rfl⟩
theorem d_LBStore_finish_10 : decode mm_LBStore_finish.2.1 10 = .ok (.iload 5, 2) ∧ 10 + 2 = 12 := ⟨by decide +kernel, rfl⟩
theorem d_LBStore_finish_12 : decode mm_LBStore_finish.2.1 12 = .ok (.aload_n 1, 1) ∧ 12 + 1 = 13 := ⟨by decide +kernel, rfl⟩
theorem d_LBStore_finish_13 : decode mm_LBStore_finish.2.1 13 = .ok (.getfield 55, 3) ∧ 13 + 3 = 16 := ⟨by decide +kernel, rfl⟩
theorem d_LBStore_finish_16 : decode mm_LBStore_finish.2.1 16 = .ok (.arraylength, 1) ∧ 16 + 1 = 17 := ⟨by decide +kernel, rfl⟩
theorem d_LBStore_finish_17 : decode mm_LBStore_finish.2.1 17 = .ok (.if_icmp .ge 74, 3) ∧ 17 + 3 = 20 ∧ ((17 : Nat) : Int) + (74) = ((91 : Nat) : Int) := ⟨by decide +kernel, rfl, by decide⟩
theorem d_LBStore_finish_20 : decode mm_LBStore_finish.2.1 20 = .ok (.aload_n 0, 1) ∧ 20 + 1 = 21 := ⟨by decide +kernel, rfl⟩
theorem d_LBStore_finish_21 : decode mm_LBStore_finish.2.1 21 = .ok (.aload_n 1, 1) ∧ 21 + 1 = 22 := ⟨by decide +kernel, rfl⟩
theorem d_LBStore_finish_22 : decode mm_LBStore_finish.2.1 22 = .ok (.getfield 55, 3) ∧ 22 + 3 = 25 := ⟨by decide +kernel, rfl⟩
theorem d_LBStore_finish_25 : decode mm_LBStore_finish.2.1 25 = .ok (.iload 5, 2) ∧ 25 + 2 = 27 := ⟨by decide +kernel, rfl⟩
theorem d_LBStore_finish_27 : decode mm_LBStore_finish.2.1 27 = .ok (.laload, 1) ∧ 27 + 1 = 28 := ⟨by decide +kernel, rfl⟩
theorem d_LBStore_finish_28 : decode mm_LBStore_finish.2.1 28 = .ok (.invokevirtual 23, 3) ∧ 28 + 3 = 31 := ⟨by decide +kernel, rfl⟩
theorem d_LBStore_finish_31 : decode mm_LBStore_finish.2.1 31 = .ok (.astore 6, 2) ∧ 31 + 2 = 33 := ⟨by decide +kernel, rfl⟩
theorem d_LBStore_finish_33 : decode mm_LBStore_finish.2.1 33 = .ok (.aload 6, 2) ∧ 33 + 2 = 35 := ⟨by decide +kernel, rfl⟩
theorem d_LBStore_finish_35 : decode mm_LBStore_finish.2.1 35 = .ok (.ifnonnull 14, 3) ∧ 35 + 3 = 38 ∧ ((35 : Nat) : Int) + (14) = ((49 : Nat) : Int) := ⟨by decide +kernel, rfl, by decide⟩
theorem d_LBStore_finish_38 : decode mm_LBStore_finish.2.1 38 = .ok (.aload_n 1, 1) ∧ 38 + 1 = 39 := ⟨by decide +kernel, rfl⟩
theorem d_LBStore_finish_39 : decode mm_LBStore_finish.2.1 39 = .ok (.getfield 55, 3) ∧ 39 + 3 = 42 := ⟨by decide +kernel, rfl⟩
theorem d_LBStore_finish_42 : decode mm_LBStore_finish.2.1 42 = .ok (.iload 5, 2) ∧ 42 + 2 = 44 := ⟨by decide +kernel, rfl⟩
theorem d_LBStore_finish_44 : decode mm_LBStore_finish.2.1 44 = .ok (.laload, 1) ∧ 44 + 1 = 45 := ⟨by decide +kernel, rfl⟩
theorem d_LBStore_finish_45 : decode mm_LBStore_finish.2.1 45 = .ok (.l2i, 1) ∧ 45 + 1 = 46 := ⟨by decide +kernel, rfl⟩
theorem d_LBStore_finish_46 : decode mm_LBStore_finish.2.1 46 = .ok (.goto 8, 3) ∧ 46 + 3 = 49 ∧ ((46 : Nat) : Int) + (8) = ((54 : Nat) : Int) := ⟨by decide +kernel, rfl, by decide⟩
theorem d_LBStore_finish_49 : decode mm_LBStore_finish.2.1 49 = .ok (.aload 6, 2) ∧ 49 + 2 = 51 := ⟨by decide +kernel, rfl⟩
theorem d_LBStore_finish_51 : decode mm_LBStore_finish.2.1 51 = .ok (.getfield 50, 3) ∧ 51 + 3 = 54 := ⟨by decide +kernel, rfl⟩
theorem d_LBStore_finish_54 : decode mm_LBStore_finish.2.1 54 = .ok (.istore 7, 2) ∧ 54 + 2 = 56 := ⟨by decide +kernel, rfl⟩
theorem d_LBStore_finish_56 : decode mm_LBStore_finish.2.1 56 = .ok (.iload_n 2, 1) ∧ 56 + 1 = 57 := ⟨by decide +kernel, rfl⟩
theorem d_LBStore_finish_57 : decode mm_LBStore_finish.2.1 57 = .ok (.iload 7, 2) ∧ 57 + 2 = 59 := ⟨by decide +kernel, rfl⟩
theorem d_LBStore_finish_59 : decode mm_LBStore_finish.2.1 59 = .ok (.iadd, 1) ∧ 59 + 1 = 60 := ⟨by decide +kernel, rfl⟩
theorem d_LBStore_finish_60 : decode mm_LBStore_finish.2.1 60 = .ok (.istore_n 2, 1) ∧ 60 + 1 = 61 := ⟨by decide +kernel, rfl⟩
theorem d_LBStore_finish_61 : decode mm_LBStore_finish.2.1 61 = .ok (.iload_n 3, 1) ∧ 61 + 1 = 62 := ⟨by decide +kernel, rfl⟩
theorem d_LBStore_finish_62 : decode mm_LBStore_finish.2.1 62 = .ok (.iload 7, 2) ∧ 62 + 2 = 64 := ⟨by decide +kernel, rfl⟩
theorem d_LBStore_finish_64 : decode mm_LBStore_finish.2.1 64 = .ok (.imul, 1) ∧ 64 + 1 = 65 := ⟨by decide +kernel, rfl⟩
theorem d_LBStore_finish_65 : decode mm_LBStore_finish.2.1 65 = .ok (.istore_n 3, 1) ∧ 65 + 1 = 66 := ⟨by decide +kernel, rfl⟩
theorem d_LBStore_finish_66 : decode mm_LBStore_finish.2.1 66 = .ok (.iload 5, 2) ∧ 66 + 2 = 68 := ⟨by decide +kernel, rfl⟩
theorem d_LBStore_finish_68 : decode mm_LBStore_finish.2.1 68 = .ok (.ifCond .ne 8, 3) ∧ 68 + 3 = 71 ∧ ((68 : Nat) : Int) + (8) = ((76 : Nat) : Int) := ⟨by decide +kernel, rfl, by decide⟩
theorem d_LBStore_finish_71 : decode mm_LBStore_finish.2.1 71 = .ok (.iload 7, 2) ∧ 71 + 2 = 73 := ⟨by decide +kernel, rfl⟩
theorem d_LBStore_finish_73 : decode mm_LBStore_finish.2.1 73 = .ok (.goto 10, 3) ∧ 73 + 3 = 76 ∧ ((73 : Nat) : Int) + (10) = ((83 : Nat) : Int) := ⟨by decide +kernel, rfl, by decide⟩
theorem d_LBStore_finish_76 : decode mm_LBStore_finish.2.1 76 = .ok (.iload 4, 2) ∧ 76 + 2 = 78 := ⟨by decide +kernel, rfl⟩
theorem d_LBStore_finish_78 : decode mm_LBStore_finish.2.1 78 = .ok (.iload 7, 2) ∧ 78 + 2 = 80 := ⟨by decide +kernel, rfl⟩
theorem d_LBStore_finish_80 : decode mm_LBStore_finish.2.1 80 = .ok (.invokestatic 71, 3) ∧ 80 + 3 = 83 := ⟨by decide +kernel, rfl⟩
theorem d_LBStore_finish_83 : decode mm_LBStore_finish.2.1 83 = .ok (.istore 4, 2) ∧ 83 + 2 = 85 := ⟨by decide +kernel, rfl⟩
theorem d_LBStore_finish_85 : decode mm_LBStore_finish.2.1 85 = .ok (.iinc 5 1, 3) ∧ 85 + 3 = 88 := ⟨by decide +kernel, rfl⟩
theorem d_LBStore_finish_88 : decode mm_LBStore_finish.2.1 88 = .ok (.goto (-78), 3) ∧ 88 + 3 = 91 ∧ ((88 : Nat) : Int) + (-78) = ((10 : Nat) : Int) := ⟨by decide +kernel, rfl, by decide⟩
theorem d_LBStore_finish_91 : decode mm_LBStore_finish.2.1 91 = .ok (.aload_n 0, 1) ∧ 91 + 1 = 92 := ⟨by decide +kernel, rfl⟩
theorem d_LBStore_finish_92 : decode mm_LBStore_finish.2.1 92 = .ok (.getfield 17, 3) ∧ 92 + 3 = 95 := ⟨by decide +kernel, rfl⟩
theorem d_LBStore_finish_95 : decode mm_LBStore_finish.2.1 95 = .ok (.aload_n 1, 1) ∧ 95 + 1 = 96 := ⟨by decide +kernel, rfl⟩
theorem d_LBStore_finish_96 : decode mm_LBStore_finish.2.1 96 = .ok (.getfield 77, 3) ∧ 96 + 3 = 99 := ⟨by decide +kernel, rfl⟩
theorem d_LBStore_finish_99 : decode mm_LBStore_finish.2.1 99 = .ok (.iaload, 1) ∧ 99 + 1 = 100 := ⟨by decide +kernel, rfl⟩
theorem d_LBStore_finish_100 : decode mm_LBStore_finish.2.1 100 = .ok (.tableswitch 82 0 3 #[32, 40, 48, 57], 32) := by decide +kernel
theorem d_LBStore_finish_132 : decode mm_LBStore_finish.2.1 132 = .ok (.aload_n 0, 1) ∧ 132 + 1 = 133 := ⟨by decide +kernel, rfl⟩
theorem d_LBStore_finish_133 : decode mm_LBStore_finish.2.1 133 = .ok (.aload_n 1, 1) ∧ 133 + 1 = 134 := ⟨by decide +kernel, rfl⟩
theorem d_LBStore_finish_134 : decode mm_LBStore_finish.2.1 134 = .ok (.iload_n 2, 1) ∧ 134 + 1 = 135 := ⟨by decide +kernel, rfl⟩
theorem d_LBStore_finish_135 : decode mm_LBStore_finish.2.1 135 = .ok (.invokevirtual 80, 3) ∧ 135 + 3 = 138 := ⟨by decide +kernel, rfl⟩
theorem d_LBStore_finish_138 : decode mm_LBStore_finish.2.1 138 = .ok (.i2l, 1) ∧ 138 + 1 = 139 := ⟨by decide +kernel, rfl⟩
theorem d_LBStore_finish_139 : decode mm_LBStore_finish.2.1 139 = .ok (.lreturn, 1) := by decide +kernel
theorem d_LBStore_finish_140 : decode mm_LBStore_finish.2.1 140 = .ok (.aload_n 0, 1) ∧ 140 + 1 = 141 := ⟨by decide +kernel, rfl⟩
theorem d_LBStore_finish_141 : decode mm_LBStore_finish.2.1 141 = .ok (.aload_n 1, 1) ∧ 141 + 1 = 142 := ⟨by decide +kernel, rfl⟩
theorem d_LBStore_finish_142 : decode mm_LBStore_finish.2.1 142 = .ok (.iload_n 3, 1) ∧ 142 + 1 = 143 := ⟨by decide +kernel, rfl⟩
theorem d_LBStore_finish_143 : decode mm_LBStore_finish.2.1 143 = .ok (.invokevirtual 80, 3) ∧ 143 + 3 = 146 := ⟨by decide +kernel, rfl⟩
theorem d_LBStore_finish_146 : decode mm_LBStore_finish.2.1 146 = .ok (.i2l, 1) ∧ 146 + 1 = 147 := ⟨by decide +kernel, rfl⟩
theorem d_LBStore_finish_147 : decode mm_LBStore_finish.2.1 147 = .ok (.lreturn, 1) := by decide +kernel
theorem d_LBStore_finish_148 : decode mm_LBStore_finish.2.1 148 = .ok (.aload_n 0, 1) ∧ 148 + 1 = 149 := ⟨by decide +kernel, rfl⟩
theorem d_LBStore_finish_149 : decode mm_LBStore_finish.2.1 149 = .ok (.aload_n 1, 1) ∧ 149 + 1 = 150 := ⟨by decide +kernel, rfl⟩
theorem d_LBStore_finish_150 : decode mm_LBStore_finish.2.1 150 = .ok (.iload 4, 2) ∧ 150 + 2 = 152 := ⟨by decide +kernel, rfl⟩
theorem d_LBStore_finish_152 : decode mm_LBStore_finish.2.1 152 = .ok (.invokevirtual 80, 3) ∧ 152 + 3 = 155 := ⟨by decide +kernel, rfl⟩
theorem d_LBStore_finish_155 : decode mm_LBStore_finish.2.1 155 = .ok (.i2l, 1) ∧ 155 + 1 = 156 := ⟨by decide +kernel, rfl⟩
theorem d_LBStore_finish_156 : decode mm_LBStore_finish.2.1 156 = .ok (.lreturn, 1) := by decide +kernel
theorem d_LBStore_finish_157 : decode mm_LBStore_finish.2.1 157 = .ok (.iload 4, 2) ∧ 157 + 2 = 159 := ⟨by decide +kernel, rfl⟩
theorem d_LBStore_finish_159 : decode mm_LBStore_finish.2.1 159 = .ok (.bipush 100, 2) ∧ 159 + 2 = 161 := ⟨by decide +kernel, rfl⟩
theorem d_LBStore_finish_161 : decode mm_LBStore_finish.2.1 161 = .ok (.if_icmp .ge 17, 3) ∧ 161 + 3 = 164 ∧ ((161 : Nat) : Int) + (17) = ((178 : Nat) : Int) := ⟨by decide +kernel, rfl, by decide⟩
theorem d_LBStore_finish_164 : decode mm_LBStore_finish.2.1 164 = .ok (.aload_n 0, 1) ∧ 164 + 1 = 165 := ⟨by decide +kernel, rfl⟩
theorem d_LBStore_finish_165 : decode mm_LBStore_finish.2.1 165 = .ok (.aload_n 1, 1) ∧ 165 + 1 = 166 := ⟨by decide +kernel, rfl⟩
theorem d_LBStore_finish_166 : decode mm_LBStore_finish.2.1 166 = .ok (.aload_n 1, 1) ∧ 166 + 1 = 167 := ⟨by decide +kernel, rfl⟩
theorem d_LBStore_finish_167 : decode mm_LBStore_finish.2.1 167 = .ok (.getfield 55, 3) ∧ 167 + 3 = 170 := ⟨by decide +kernel, rfl⟩
theorem d_LBStore_finish_170 : decode mm_LBStore_finish.2.1 170 = .ok (.arraylength, 1) ∧ 170 + 1 = 171 := ⟨by decide +kernel, rfl⟩
theorem d_LBStore_finish_171 : decode mm_LBStore_finish.2.1 171 = .ok (.invokevirtual 80, 3) ∧ 171 + 3 = 174 := ⟨by decide +kernel, rfl⟩
theorem d_LBStore_finish_174 : decode mm_LBStore_finish.2.1 174 = .ok (.i2l, 1) ∧ 174 + 1 = 175 := ⟨by decide +kernel, rfl⟩
theorem d_LBStore_finish_175 : decode mm_LBStore_finish.2.1 175 = .ok (.goto 6, 3) ∧ 175 + 3 = 178 ∧ ((175 : Nat) : Int) + (6) = ((181 : Nat) : Int) := ⟨by decide +kernel, rfl, by decide⟩
theorem d_LBStore_finish_178 : decode mm_LBStore_finish.2.1 178 = .ok (.ldc2_w 53, 3) ∧ 178 + 3 = 181 := ⟨by decide +kernel, rfl⟩
theorem d_LBStore_finish_181 : decode mm_LBStore_finish.2.1 181 = .ok (.lreturn, 1) := by decide +kernel
theorem d_LBStore_finish_182 : decode mm_LBStore_finish.2.1 182 = .ok (.ldc2_w 53, 3) ∧ 182 + 3 = 185 := ⟨by decide +kernel, rfl⟩
theorem d_LBStore_finish_185 : decode mm_LBStore_finish.2.1 185 = .ok (.lreturn, 1) := by decide +kernel
theorem d_LBStore_finishWith_0 : decode mm_LBStore_finishWith.2.1 0 = .ok (.aload_n 1, 1) ∧ 0 + 1 = 1 := ⟨by decide +kernel, rfl⟩
theorem d_LBStore_finishWith_1 : decode mm_LBStore_finishWith.2.1 1 = .ok (.iload_n 2, 1) ∧ 1 + 1 = 2 := ⟨by decide +kernel, rfl⟩
theorem d_LBStore_finishWith_2 : decode mm_LBStore_finishWith.2.1 2 = .ok (.putfield 50, 3) ∧ 2 + 3 = 5 := ⟨by decide +kernel, rfl⟩
theorem d_LBStore_finishWith_5 : decode mm_LBStore_finishWith.2.1 5 = .ok (.aload_n 1, 1) ∧ 5 + 1 = 6 := ⟨by decide +kernel, rfl⟩
theorem d_LBStore_finishWith_6 : decode mm_LBStore_finishWith.2.1 6 = .ok (.iconst 1, 1) ∧ 6 + 1 = 7 := ⟨by decide +kernel, rfl⟩
theorem d_LBStore_finishWith_7 : decode mm_LBStore_finishWith.2.1 7 = .ok (.putfield 46, 3) ∧ 7 + 3 = 10 := ⟨by decide +kernel, rfl⟩
theorem d_LBStore_finishWith_10 : decode mm_LBStore_finishWith.2.1 10 = .ok (.aload_n 0, 1) ∧ 10 + 1 = 11 := ⟨by decide +kernel, rfl⟩
theorem d_LBStore_finishWith_11 : decode mm_LBStore_finishWith.2.1 11 = .ok (.dup, 1) ∧ 11 + 1 = 12 := ⟨by decide +kernel, rfl⟩
theorem d_LBStore_finishWith_12 : decode mm_LBStore_finishWith.2.1 12 = .ok (.getfield 84, 3) ∧ 12 + 3 = 15 := ⟨by decide +kernel, rfl⟩
theorem d_LBStore_finishWith_15 : decode mm_LBStore_finishWith.2.1 15 = .ok (.iconst 1, 1) ∧ 15 + 1 = 16 := ⟨by decide +kernel, rfl⟩
theorem d_LBStore_finishWith_16 : decode mm_LBStore_finishWith.2.1 16 = .ok (.iadd, 1) ∧ 16 + 1 = 17 := ⟨by decide +kernel, rfl⟩
theorem d_LBStore_finishWith_17 : decode mm_LBStore_finishWith.2.1 17 = .ok (.putfield 84, 3) ∧ 17 + 3 = 20 := ⟨by decide +kernel, rfl⟩
theorem d_LBStore_finishWith_20 : decode mm_LBStore_finishWith.2.1 20 = .ok (.iload_n 2, 1) ∧ 20 + 1 = 21 := ⟨by decide +kernel, rfl⟩
theorem d_LBStore_finishWith_21 : decode mm_LBStore_finishWith.2.1 21 = .ok (.ireturn, 1) := by decide +kernel
theorem d_LBStore_sweep_0 : decode mm_LBStore_sweep.2.1 0 = .ok (.iconst 0, 1) ∧ 0 + 1 = 1 := ⟨by decide +kernel, rfl⟩
theorem d_LBStore_sweep_1 : decode mm_LBStore_sweep.2.1 1 = .ok (.istore_n 1, 1) ∧ 1 + 1 = 2 := ⟨by decide +kernel, rfl⟩
theorem d_LBStore_sweep_2 : decode mm_LBStore_sweep.2.1 2 = .ok (.iload_n 1, 1) ∧ 2 + 1 = 3 := ⟨by decide +kernel, rfl⟩
theorem d_LBStore_sweep_3 : decode mm_LBStore_sweep.2.1 3 = .ok (.aload_n 0, 1) ∧ 3 + 1 = 4 := ⟨by decide +kernel, rfl⟩
theorem d_LBStore_sweep_4 : decode mm_LBStore_sweep.2.1 4 = .ok (.getfield 27, 3) ∧ 4 + 3 = 7 := ⟨by decide +kernel, rfl⟩
theorem d_LBStore_sweep_7 : decode mm_LBStore_sweep.2.1 7 = .ok (.if_icmp .ge 27, 3) ∧ 7 + 3 = 10 ∧ ((7 : Nat) : Int) + (27) = ((34 : Nat) : Int) := ⟨by decide +kernel, rfl, by decide⟩
theorem d_LBStore_sweep_10 : decode mm_LBStore_sweep.2.1 10 = .ok (.aload_n 0, 1) ∧ 10 + 1 = 11 := ⟨by decide +kernel, rfl⟩
theorem d_LBStore_sweep_11 : decode mm_LBStore_sweep.2.1 11 = .ok (.getfield 11, 3) ∧ 11 + 3 = 14 := ⟨by decide +kernel, rfl⟩
theorem d_LBStore_sweep_14 : decode mm_LBStore_sweep.2.1 14 = .ok (.iload_n 1, 1) ∧ 14 + 1 = 15 := ⟨by decide +kernel, rfl⟩
theorem d_LBStore_sweep_15 : decode mm_LBStore_sweep.2.1 15 = .ok (.aaload, 1) ∧ 15 + 1 = 16 := ⟨by decide +kernel, rfl⟩
theorem d_LBStore_sweep_16 : decode mm_LBStore_sweep.2.1 16 = .ok (.aload_n 0, 1) ∧ 16 + 1 = 17 := ⟨by decide +kernel, rfl⟩
theorem d_LBStore_sweep_17 : decode mm_LBStore_sweep.2.1 17 = .ok (.getfield 11, 3) ∧ 17 + 3 = 20 := ⟨by decide +kernel, rfl⟩
theorem d_LBStore_sweep_20 : decode mm_LBStore_sweep.2.1 20 = .ok (.iload_n 1, 1) ∧ 20 + 1 = 21 := ⟨by decide +kernel, rfl⟩
theorem d_LBStore_sweep_21 : decode mm_LBStore_sweep.2.1 21 = .ok (.aaload, 1) ∧ 21 + 1 = 22 := ⟨by decide +kernel, rfl⟩
theorem d_LBStore_sweep_22 : decode mm_LBStore_sweep.2.1 22 = .ok (.getfield 87, 3) ∧ 22 + 3 = 25 := ⟨by decide +kernel, rfl⟩
theorem d_LBStore_sweep_25 : decode mm_LBStore_sweep.2.1 25 = .ok (.putfield 90, 3) ∧ 25 + 3 = 28 := ⟨by decide +kernel, rfl⟩
theorem d_LBStore_sweep_28 : decode mm_LBStore_sweep.2.1 28 = .ok (.iinc 1 1, 3) ∧ 28 + 3 = 31 := ⟨by decide +kernel, rfl⟩
theorem d_LBStore_sweep_31 : decode mm_LBStore_sweep.2.1 31 = .ok (.goto (-29), 3) ∧ 31 + 3 = 34 ∧ ((31 : Nat) : Int) + (-29) = ((2 : Nat) : Int) := ⟨by decide +kernel, rfl, by decide⟩
theorem d_LBStore_sweep_34 : decode mm_LBStore_sweep.2.1 34 = .ok (.iconst 0, 1) ∧ 34 + 1 = 35 := ⟨by decide +kernel, rfl⟩
theorem d_LBStore_sweep_35 : decode mm_LBStore_sweep.2.1 35 = .ok (.istore_n 1, 1) ∧ 35 + 1 = 36 := ⟨by decide +kernel, rfl⟩
theorem d_LBStore_sweep_36 : decode mm_LBStore_sweep.2.1 36 = .ok (.aload_n 0, 1) ∧ 36 + 1 = 37 := ⟨by decide +kernel, rfl⟩
theorem d_LBStore_sweep_37 : decode mm_LBStore_sweep.2.1 37 = .ok (.getfield 27, 3) ∧ 37 + 3 = 40 := ⟨by decide +kernel, rfl⟩
theorem d_LBStore_sweep_40 : decode mm_LBStore_sweep.2.1 40 = .ok (.iconst 1, 1) ∧ 40 + 1 = 41 := ⟨by decide +kernel, rfl⟩
theorem d_LBStore_sweep_41 : decode mm_LBStore_sweep.2.1 41 = .ok (.isub, 1) ∧ 41 + 1 = 42 := ⟨by decide +kernel, rfl⟩
theorem d_LBStore_sweep_42 : decode mm_LBStore_sweep.2.1 42 = .ok (.istore_n 2, 1) ∧ 42 + 1 = 43 := ⟨by decide +kernel, rfl⟩
theorem d_LBStore_sweep_43 : decode mm_LBStore_sweep.2.1 43 = .ok (.iload_n 2, 1) ∧ 43 + 1 = 44 := ⟨by decide +kernel, rfl⟩
theorem d_LBStore_sweep_44 : decode mm_LBStore_sweep.2.1 44 = .ok (.ifCond .lt 69, 3) ∧ 44 + 3 = 47 ∧ ((44 : Nat) : Int) + (69) = ((113 : Nat) : Int) := ⟨by decide +kernel, rfl, by decide⟩
theorem d_LBStore_sweep_47 : decode mm_LBStore_sweep.2.1 47 = .ok (.aload_n 0, 1) ∧ 47 + 1 = 48 := ⟨by decide +kernel, rfl⟩
theorem d_LBStore_sweep_48 : decode mm_LBStore_sweep.2.1 48 = .ok (.getfield 11, 3) ∧ 48 + 3 = 51 := ⟨by decide +kernel, rfl⟩
theorem d_LBStore_sweep_51 : decode mm_LBStore_sweep.2.1 51 = .ok (.iload_n 2, 1) ∧ 51 + 1 = 52 := ⟨by decide +kernel, rfl⟩
theorem d_LBStore_sweep_52 : decode mm_LBStore_sweep.2.1 52 = .ok (.aaload, 1) ∧ 52 + 1 = 53 := ⟨by decide +kernel, rfl⟩
theorem d_LBStore_sweep_53 : decode mm_LBStore_sweep.2.1 53 = .ok (.getfield 90, 3) ∧ 53 + 3 = 56 := ⟨by decide +kernel, rfl⟩
theorem d_LBStore_sweep_56 : decode mm_LBStore_sweep.2.1 56 = .ok (.ifCond .eq 16, 3) ∧ 56 + 3 = 59 ∧ ((56 : Nat) : Int) + (16) = ((72 : Nat) : Int) := ⟨by decide +kernel, rfl, by decide⟩
theorem d_LBStore_sweep_59 : decode mm_LBStore_sweep.2.1 59 = .ok (.aload_n 0, 1) ∧ 59 + 1 = 60 := ⟨by decide +kernel, rfl⟩
theorem d_LBStore_sweep_60 : decode mm_LBStore_sweep.2.1 60 = .ok (.aload_n 0, 1) ∧ 60 + 1 = 61 := ⟨by decide +kernel, rfl⟩
theorem d_LBStore_sweep_61 : decode mm_LBStore_sweep.2.1 61 = .ok (.getfield 11, 3) ∧ 61 + 3 = 64 := ⟨by decide +kernel, rfl⟩
theorem d_LBStore_sweep_64 : decode mm_LBStore_sweep.2.1 64 = .ok (.iload_n 2, 1) ∧ 64 + 1 = 65 := ⟨by decide +kernel, rfl⟩
theorem d_LBStore_sweep_65 : decode mm_LBStore_sweep.2.1 65 = .ok (.aaload, 1) ∧ 65 + 1 = 66 := ⟨by decide +kernel, rfl⟩
theorem d_LBStore_sweep_66 : decode mm_LBStore_sweep.2.1 66 = .ok (.invokevirtual 93, 3) ∧ 66 + 3 = 69 := ⟨by decide +kernel, rfl⟩
theorem d_LBStore_sweep_69 : decode mm_LBStore_sweep.2.1 69 = .ok (.goto 38, 3) ∧ 69 + 3 = 72 ∧ ((69 : Nat) : Int) + (38) = ((107 : Nat) : Int) := ⟨by decide +kernel, rfl, by decide⟩
theorem d_LBStore_sweep_72 : decode mm_LBStore_sweep.2.1 72 = .ok (.aload_n 0, 1) ∧ 72 + 1 = 73 := ⟨by decide +kernel, rfl⟩
theorem d_LBStore_sweep_73 : decode mm_LBStore_sweep.2.1 73 = .ok (.getfield 11, 3) ∧ 73 + 3 = 76 := ⟨by decide +kernel, rfl⟩
theorem d_LBStore_sweep_76 : decode mm_LBStore_sweep.2.1 76 = .ok (.iload_n 2, 1) ∧ 76 + 1 = 77 := ⟨by decide +kernel, rfl⟩
theorem d_LBStore_sweep_77 : decode mm_LBStore_sweep.2.1 77 = .ok (.aaload, 1) ∧ 77 + 1 = 78 := ⟨by decide +kernel, rfl⟩
theorem d_LBStore_sweep_78 : decode mm_LBStore_sweep.2.1 78 = .ok (.getfield 46, 3) ∧ 78 + 3 = 81 := ⟨by decide +kernel, rfl⟩
theorem d_LBStore_sweep_81 : decode mm_LBStore_sweep.2.1 81 = .ok (.ifCond .eq 26, 3) ∧ 81 + 3 = 84 ∧ ((81 : Nat) : Int) + (26) = ((107 : Nat) : Int) := ⟨by decide +kernel, rfl, by decide⟩
theorem d_LBStore_sweep_84 : decode mm_LBStore_sweep.2.1 84 = .ok (.aload_n 0, 1) ∧ 84 + 1 = 85 := ⟨by decide +kernel, rfl⟩
theorem d_LBStore_sweep_85 : decode mm_LBStore_sweep.2.1 85 = .ok (.getfield 11, 3) ∧ 85 + 3 = 88 := ⟨by decide +kernel, rfl⟩
theorem d_LBStore_sweep_88 : decode mm_LBStore_sweep.2.1 88 = .ok (.iload_n 2, 1) ∧ 88 + 1 = 89 := ⟨by decide +kernel, rfl⟩
theorem d_LBStore_sweep_89 : decode mm_LBStore_sweep.2.1 89 = .ok (.aaload, 1) ∧ 89 + 1 = 90 := ⟨by decide +kernel, rfl⟩
theorem d_LBStore_sweep_90 : decode mm_LBStore_sweep.2.1 90 = .ok (.iconst 0, 1) ∧ 90 + 1 = 91 := ⟨by decide +kernel, rfl⟩
theorem d_LBStore_sweep_91 : decode mm_LBStore_sweep.2.1 91 = .ok (.putfield 46, 3) ∧ 91 + 3 = 94 := ⟨by decide +kernel, rfl⟩
theorem d_LBStore_sweep_94 : decode mm_LBStore_sweep.2.1 94 = .ok (.aload_n 0, 1) ∧ 94 + 1 = 95 := ⟨by decide +kernel, rfl⟩
theorem d_LBStore_sweep_95 : decode mm_LBStore_sweep.2.1 95 = .ok (.getfield 11, 3) ∧ 95 + 3 = 98 := ⟨by decide +kernel, rfl⟩
theorem d_LBStore_sweep_98 : decode mm_LBStore_sweep.2.1 98 = .ok (.iload_n 2, 1) ∧ 98 + 1 = 99 := ⟨by decide +kernel, rfl⟩
theorem d_LBStore_sweep_99 : decode mm_LBStore_sweep.2.1 99 = .ok (.aaload, 1) ∧ 99 + 1 = 100 := ⟨by decide +kernel, rfl⟩
theorem d_LBStore_sweep_100 : decode mm_LBStore_sweep.2.1 100 = .ok (.iconst 0, 1) ∧ 100 + 1 = 101 := ⟨by decide +kernel, rfl⟩
theorem d_LBStore_sweep_101 : decode mm_LBStore_sweep.2.1 101 = .ok (.putfield 50, 3) ∧ 101 + 3 = 104 := ⟨by decide +kernel, rfl⟩
theorem d_LBStore_sweep_104 : decode mm_LBStore_sweep.2.1 104 = .ok (.iinc 1 1, 3) ∧ 104 + 3 = 107 := ⟨by decide +kernel, rfl⟩
theorem d_LBStore_sweep_107 : decode mm_LBStore_sweep.2.1 107 = .ok (.iinc 2 (-1), 3) ∧ 107 + 3 = 110 := ⟨by decide +kernel, rfl⟩
theorem d_LBStore_sweep_110 : decode mm_LBStore_sweep.2.1 110 = .ok (.goto (-67), 3) ∧ 110 + 3 = 113 ∧ ((110 : Nat) : Int) + (-67) = ((43 : Nat) : Int) := ⟨by decide +kernel, rfl, by decide⟩
theorem d_LBStore_sweep_113 : decode mm_LBStore_sweep.2.1 113 = .ok (.iload_n 1, 1) ∧ 113 + 1 = 114 := ⟨by decide +kernel, rfl⟩
theorem d_LBStore_sweep_114 : decode mm_LBStore_sweep.2.1 114 = .ok (.ireturn, 1) := by decide +kernel
theorem d_LBStore_wantInputs_0 : decode mm_LBStore_wantInputs.2.1 0 = .ok (.iconst 0, 1) ∧ 0 + 1 = 1 := ⟨by decide +kernel, rfl⟩
theorem d_LBStore_wantInputs_1 : decode mm_LBStore_wantInputs.2.1 1 = .ok (.istore_n 2, 1) ∧ 1 + 1 = 2 := ⟨by decide +kernel, rfl⟩
theorem d_LBStore_wantInputs_2 : decode mm_LBStore_wantInputs.2.1 2 = .ok (.iload_n 2, 1) ∧ 2 + 1 = 3 := ⟨by decide +kernel, rfl⟩
theorem d_LBStore_wantInputs_3 : decode mm_LBStore_wantInputs.2.1 3 = .ok (.aload_n 1, 1) ∧ 3 + 1 = 4 := ⟨by decide +kernel, rfl⟩
theorem d_LBStore_wantInputs_4 : decode mm_LBStore_wantInputs.2.1 4 = .ok (.getfield 55, 3) ∧ 4 + 3 = 7 := ⟨by decide +kernel, rfl⟩
theorem d_LBStore_wantInputs_7 : decode mm_LBStore_wantInputs.2.1 7 = .ok (.arraylength, 1) ∧ 7 + 1 = 8 := ⟨by decide +kernel, rfl⟩
theorem d_LBStore_wantInputs_8 : decode mm_LBStore_wantInputs.2.1 8 = .ok (.if_icmp .ge 29, 3) ∧ 8 + 3 = 11 ∧ ((8 : Nat) : Int) + (29) = ((37 : Nat) : Int) := ⟨by decide +kernel, rfl, by decide⟩
theorem d_LBStore_wantInputs_11 : decode mm_LBStore_wantInputs.2.1 11 = .ok (.aload_n 0, 1) ∧ 11 + 1 = 12 := ⟨by decide +kernel, rfl⟩
theorem d_LBStore_wantInputs_12 : decode mm_LBStore_wantInputs.2.1 12 = .ok (.aload_n 1, 1) ∧ 12 + 1 = 13 := ⟨by decide +kernel, rfl⟩
theorem d_LBStore_wantInputs_13 : decode mm_LBStore_wantInputs.2.1 13 = .ok (.getfield 55, 3) ∧ 13 + 3 = 16 := ⟨by decide +kernel, rfl⟩
theorem d_LBStore_wantInputs_16 : decode mm_LBStore_wantInputs.2.1 16 = .ok (.iload_n 2, 1) ∧ 16 + 1 = 17 := ⟨by decide +kernel, rfl⟩
theorem d_LBStore_wantInputs_17 : decode mm_LBStore_wantInputs.2.1 17 = .ok (.laload, 1) ∧ 17 + 1 = 18 := ⟨by decide +kernel, rfl⟩
theorem d_LBStore_wantInputs_18 : decode mm_LBStore_wantInputs.2.1 18 = .ok (.invokevirtual 23, 3) ∧ 18 + 3 = 21 := ⟨by decide +kernel, rfl⟩
theorem d_LBStore_wantInputs_21 : decode mm_LBStore_wantInputs.2.1 21 = .ok (.astore_n 3, 1) ∧ 21 + 1 = 22 := ⟨by decide +kernel, rfl⟩
theorem d_LBStore_wantInputs_22 : decode mm_LBStore_wantInputs.2.1 22 = .ok (.aload_n 3, 1) ∧ 22 + 1 = 23 := ⟨by decide +kernel, rfl⟩
theorem d_LBStore_wantInputs_23 : decode mm_LBStore_wantInputs.2.1 23 = .ok (.ifnull 8, 3) ∧ 23 + 3 = 26 ∧ ((23 : Nat) : Int) + (8) = ((31 : Nat) : Int) := ⟨by decide +kernel, rfl, by decide⟩
theorem d_LBStore_wantInputs_26 : decode mm_LBStore_wantInputs.2.1 26 = .ok (.aload_n 3, 1) ∧ 26 + 1 = 27 := ⟨by decide +kernel, rfl⟩
theorem d_LBStore_wantInputs_27 : decode mm_LBStore_wantInputs.2.1 27 = .ok (.iconst 1, 1) ∧ 27 + 1 = 28 := ⟨by decide +kernel, rfl⟩
theorem d_LBStore_wantInputs_28 : decode mm_LBStore_wantInputs.2.1 28 = .ok (.putfield 90, 3) ∧ 28 + 3 = 31 := ⟨by decide +kernel, rfl⟩
theorem d_LBStore_wantInputs_31 : decode mm_LBStore_wantInputs.2.1 31 = .ok (.iinc 2 1, 3) ∧ 31 + 3 = 34 := ⟨by decide +kernel, rfl⟩
theorem d_LBStore_wantInputs_34 : decode mm_LBStore_wantInputs.2.1 34 = .ok (.goto (-32), 3) ∧ 34 + 3 = 37 ∧ ((34 : Nat) : Int) + (-32) = ((2 : Nat) : Int) := ⟨by decide +kernel, rfl, by decide⟩
theorem d_LBStore_wantInputs_37 : decode mm_LBStore_wantInputs.2.1 37 = .ok (.return_, 1) := by decide +kernel
theorem d_LBWorker_init_0 : decode mm_LBWorker_init.2.1 0 = .ok (.aload_n 0, 1) ∧ 0 + 1 = 1 := ⟨by decide +kernel, rfl⟩
theorem d_LBWorker_init_1 : decode mm_LBWorker_init.2.1 1 = .ok (.invokespecial 3, 3) ∧ 1 + 3 = 4 := ⟨by decide +kernel, rfl⟩
theorem d_LBWorker_init_4 : decode mm_LBWorker_init.2.1 4 = .ok (.aload_n 0, 1) ∧ 4 + 1 = 5 := ⟨by decide +kernel, rfl⟩
theorem d_LBWorker_init_5 : decode mm_LBWorker_init.2.1 5 = .ok (.aload_n 1, 1) ∧ 5 + 1 = 6 := ⟨by decide +kernel, rfl⟩
theorem d_LBWorker_init_6 : decode mm_LBWorker_init.2.1 6 = .ok (.putfield 9, 3) ∧ 6 + 3 = 9 := ⟨by decide +kernel, rfl⟩
theorem d_LBWorker_init_9 : decode mm_LBWorker_init.2.1 9 = .ok (.aload_n 0, 1) ∧ 9 + 1 = 10 := ⟨by decide +kernel, rfl⟩
theorem d_LBWorker_init_10 : decode mm_LBWorker_init.2.1 10 = .ok (.bipush 8, 2) ∧ 10 + 2 = 12 := ⟨by decide +kernel, rfl⟩
theorem d_LBWorker_init_12 : decode mm_LBWorker_init.2.1 12 = .ok (.anewarray 15, 3) ∧ 12 + 3 = 15 := ⟨by decide +kernel, rfl⟩
theorem d_LBWorker_init_15 : decode mm_LBWorker_init.2.1 15 = .ok (.putfield 17, 3) ∧ 15 + 3 = 18 := ⟨by decide +kernel, rfl⟩
theorem d_LBWorker_init_18 : decode mm_LBWorker_init.2.1 18 = .ok (.iconst 0, 1) ∧ 18 + 1 = 19 := ⟨by decide +kernel, rfl⟩
theorem d_LBWorker_init_19 : decode mm_LBWorker_init.2.1 19 = .ok (.istore_n 2, 1) ∧ 19 + 1 = 20 := ⟨by decide +kernel, rfl⟩
theorem d_LBWorker_init_20 : decode mm_LBWorker_init.2.1 20 = .ok (.iload_n 2, 1) ∧ 20 + 1 = 21 := ⟨by decide +kernel, rfl⟩
theorem d_LBWorker_init_21 : decode mm_LBWorker_init.2.1 21 = .ok (.bipush 8, 2) ∧ 21 + 2 = 23 := ⟨by decide +kernel, rfl⟩
theorem d_LBWorker_init_23 : decode mm_LBWorker_init.2.1 23 = .ok (.if_icmp .ge 22, 3) ∧ 23 + 3 = 26 ∧ ((23 : Nat) : Int) + (22) = ((45 : Nat) : Int) := ⟨by decide +kernel, rfl, by decide⟩
theorem d_LBWorker_init_26 : decode mm_LBWorker_init.2.1 26 = .ok (.aload_n 0, 1) ∧ 26 + 1 = 27 := ⟨by decide +kernel, rfl⟩
theorem d_LBWorker_init_27 : decode mm_LBWorker_init.2.1 27 = .ok (.getfield 17, 3) ∧ 27 + 3 = 30 := ⟨by decide +kernel, rfl⟩
theorem d_LBWorker_init_30 : decode mm_LBWorker_init.2.1 30 = .ok (.iload_n 2, 1) ∧ 30 + 1 = 31 := ⟨by decide +kernel, rfl⟩
theorem d_LBWorker_init_31 : decode mm_LBWorker_init.2.1 31 = .ok (.new 15, 3) ∧ 31 + 3 = 34 := ⟨by decide +kernel, rfl⟩
theorem d_LBWorker_init_34 : decode mm_LBWorker_init.2.1 34 = .ok (.dup, 1) ∧ 34 + 1 = 35 := ⟨by decide +kernel, rfl⟩
theorem d_LBWorker_init_35 : decode mm_LBWorker_init.2.1 35 = .ok (.invokespecial 21, 3) ∧ 35 + 3 = 38 := ⟨by decide +kernel, rfl⟩
theorem d_LBWorker_init_38 : decode mm_LBWorker_init.2.1 38 = .ok (.aastore, 1) ∧ 38 + 1 = 39 := ⟨by decide +kernel, rfl⟩
theorem d_LBWorker_init_39 : decode mm_LBWorker_init.2.1 39 = .ok (.iinc 2 1, 3) ∧ 39 + 3 = 42 := ⟨by decide +kernel, rfl⟩
theorem d_LBWorker_init_42 : decode mm_LBWorker_init.2.1 42 = .ok (.goto (-22), 3) ∧ 42 + 3 = 45 ∧ ((42 : Nat) : Int) + (-22) = ((20 : Nat) : Int) := ⟨by decide +kernel, rfl, by decide⟩
theorem d_LBWorker_init_45 : decode mm_LBWorker_init.2.1 45 = .ok (.aload_n 0, 1) ∧ 45 + 1 = 46 := ⟨by decide +kernel, rfl⟩
theorem d_LBWorker_init_46 : decode mm_LBWorker_init.2.1 46 = .ok (.sipush 292, 3) ∧ 46 + 3 = 49 := ⟨by decide +kernel, rfl⟩
theorem d_LBWorker_init_49 : decode mm_LBWorker_init.2.1 49 = .ok (.newarray .long, 2) ∧ 49 + 2 = 51 := ⟨by decide +kernel, rfl⟩
theorem d_LBWorker_init_51 : decode mm_LBWorker_init.2.1 51 = .ok (.putfield 22, 3) ∧ 51 + 3 = 54 := ⟨by decide +kernel, rfl⟩
theorem d_LBWorker_init_54 : decode mm_LBWorker_init.2.1 54 = .ok (.return_, 1) := by decide +kernel
theorem d_LBWorker_bind_0 : decode mm_LBWorker_bind.2.1 0 = .ok (.aload_n 0, 1) ∧ 0 + 1 = 1 := ⟨by decide +kernel, rfl⟩
theorem d_LBWorker_bind_1 : decode mm_LBWorker_bind.2.1 1 = .ok (.getfield 17, 3) ∧ 1 + 3 = 4 := ⟨by decide +kernel, rfl⟩
theorem d_LBWorker_bind_4 : decode mm_LBWorker_bind.2.1 4 = .ok (.iload_n 1, 1) ∧ 4 + 1 = 5 := ⟨by decide +kernel, rfl⟩
theorem d_LBWorker_bind_5 : decode mm_LBWorker_bind.2.1 5 = .ok (.aaload, 1) ∧ 5 + 1 = 6 := ⟨by decide +kernel, rfl⟩
theorem d_LBWorker_bind_6 : decode mm_LBWorker_bind.2.1 6 = .ok (.getfield 26, 3) ∧ 6 + 3 = 9 := ⟨by decide +kernel, rfl⟩
theorem d_LBWorker_bind_9 : decode mm_LBWorker_bind.2.1 9 = .ok (.aload_n 2, 1) ∧ 9 + 1 = 10 := ⟨by decide +kernel, rfl⟩
theorem d_LBWorker_bind_10 : decode mm_LBWorker_bind.2.1 10 = .ok (.invokevirtual 30, 3) ∧ 10 + 3 = 13 := ⟨by decide +kernel, rfl⟩
theorem d_LBWorker_bind_13 : decode mm_LBWorker_bind.2.1 13 = .ok (.aload_n 0, 1) ∧ 13 + 1 = 14 := ⟨by decide +kernel, rfl⟩
theorem d_LBWorker_bind_14 : decode mm_LBWorker_bind.2.1 14 = .ok (.getfield 17, 3) ∧ 14 + 3 = 17 := ⟨by decide +kernel, rfl⟩
theorem d_LBWorker_bind_17 : decode mm_LBWorker_bind.2.1 17 = .ok (.iload_n 1, 1) ∧ 17 + 1 = 18 := ⟨by decide +kernel, rfl⟩
theorem d_LBWorker_bind_18 : decode mm_LBWorker_bind.2.1 18 = .ok (.aaload, 1) ∧ 18 + 1 = 19 := ⟨by decide +kernel, rfl⟩
theorem d_LBWorker_bind_19 : decode mm_LBWorker_bind.2.1 19 = .ok (.iconst 1, 1) ∧ 19 + 1 = 20 := ⟨by decide +kernel, rfl⟩
theorem d_LBWorker_bind_20 : decode mm_LBWorker_bind.2.1 20 = .ok (.putfield 36, 3) ∧ 20 + 3 = 23 := ⟨by decide +kernel, rfl⟩
theorem d_LBWorker_bind_23 : decode mm_LBWorker_bind.2.1 23 = .ok (.aload_n 0, 1) ∧ 23 + 1 = 24 := ⟨by decide +kernel, rfl⟩
theorem d_LBWorker_bind_24 : decode mm_LBWorker_bind.2.1 24 = .ok (.invokevirtual 40, 3) ∧ 24 + 3 = 27 := ⟨by decide +kernel, rfl⟩
theorem d_LBWorker_bind_27 : decode mm_LBWorker_bind.2.1 27 = .ok (.return_, 1) := by decide +kernel
theorem d_LBWorker_unbind_0 : decode mm_LBWorker_unbind.2.1 0 = .ok (.aload_n 0, 1) ∧ 0 + 1 = 1 := ⟨by decide +kernel, rfl⟩
theorem d_LBWorker_unbind_1 : decode mm_LBWorker_unbind.2.1 1 = .ok (.getfield 17, 3) ∧ 1 + 3 = 4 := ⟨by decide +kernel, rfl⟩
theorem d_LBWorker_unbind_4 : decode mm_LBWorker_unbind.2.1 4 = .ok (.iload_n 1, 1) ∧ 4 + 1 = 5 := ⟨by decide +kernel, rfl⟩
theorem d_LBWorker_unbind_5 : decode mm_LBWorker_unbind.2.1 5 = .ok (.aaload, 1) ∧ 5 + 1 = 6 := ⟨by decide +kernel, rfl⟩
theorem d_LBWorker_unbind_6 : decode mm_LBWorker_unbind.2.1 6 = .ok (.iconst 0, 1) ∧ 6 + 1 = 7 := ⟨by decide +kernel, rfl⟩
theorem d_LBWorker_unbind_7 : decode mm_LBWorker_unbind.2.1 7 = .ok (.putfield 36, 3) ∧ 7 + 3 = 10 := ⟨by decide +kernel, rfl⟩
theorem d_LBWorker_unbind_10 : decode mm_LBWorker_unbind.2.1 10 = .ok (.aload_n 0, 1) ∧ 10 + 1 = 11 := ⟨by decide +kernel, rfl⟩
theorem d_LBWorker_unbind_11 : decode mm_LBWorker_unbind.2.1 11 = .ok (.invokevirtual 40, 3) ∧ 11 + 3 = 14 := ⟨by decide +kernel, rfl⟩
theorem d_LBWorker_unbind_14 : decode mm_LBWorker_unbind.2.1 14 = .ok (.return_, 1) := by decide +kernel
theorem d_LBWorker_forgetValues_0 : decode mm_LBWorker_forgetValues.2.1 0 = .ok (.iconst 0, 1) ∧ 0 + 1 = 1 := ⟨by decide +kernel, rfl⟩
theorem d_LBWorker_forgetValues_1 : decode mm_LBWorker_forgetValues.2.1 1 = .ok (.istore_n 1, 1) ∧ 1 + 1 = 2 := ⟨by decide +kernel, rfl⟩
theorem d_LBWorker_forgetValues_2 : decode mm_LBWorker_forgetValues.2.1 2 = .ok (.iload_n 1, 1) ∧ 2 + 1 = 3 := ⟨by decide +kernel, rfl⟩
theorem d_LBWorker_forgetValues_3 : decode mm_LBWorker_forgetValues.2.1 3 = .ok (.bipush 8, 2) ∧ 3 + 2 = 5 := ⟨by decide +kernel, rfl⟩
theorem d_LBWorker_forgetValues_5 : decode mm_LBWorker_forgetValues.2.1 5 = .ok (.if_icmp .ge 21, 3) ∧ 5 + 3 = 8 ∧ ((5 : Nat) : Int) + (21) = ((26 : Nat) : Int) := ⟨by decide +kernel, rfl, by decide⟩
theorem d_LBWorker_forgetValues_8 : decode mm_LBWorker_forgetValues.2.1 8 = .ok (.aload_n 0, 1) ∧ 8 + 1 = 9 := ⟨by decide +kernel, rfl⟩
theorem d_LBWorker_forgetValues_9 : decode mm_LBWorker_forgetValues.2.1 9 = .ok (.getfield 17, 3) ∧ 9 + 3 = 12 := ⟨by decide +kernel, rfl⟩
theorem d_LBWorker_forgetValues_12 : decode mm_LBWorker_forgetValues.2.1 12 = .ok (.iload_n 1, 1) ∧ 12 + 1 = 13 := ⟨by decide +kernel, rfl⟩
theorem d_LBWorker_forgetValues_13 : decode mm_LBWorker_forgetValues.2.1 13 = .ok (.aaload, 1) ∧ 13 + 1 = 14 := ⟨by decide +kernel, rfl⟩
theorem d_LBWorker_forgetValues_14 : decode mm_LBWorker_forgetValues.2.1 14 = .ok (.ldc2_w 43, 3) ∧ 14 + 3 = 17 := ⟨by decide +kernel, rfl⟩
theorem d_LBWorker_forgetValues_17 : decode mm_LBWorker_forgetValues.2.1 17 = .ok (.putfield 45, 3) ∧ 17 + 3 = 20 := ⟨by decide +kernel, rfl⟩
theorem d_LBWorker_forgetValues_20 : decode mm_LBWorker_forgetValues.2.1 20 = .ok (.iinc 1 1, 3) ∧ 20 + 3 = 23 := ⟨by decide +kernel, rfl⟩
theorem d_LBWorker_forgetValues_23 : decode mm_LBWorker_forgetValues.2.1 23 = .ok (.goto (-21), 3) ∧ 23 + 3 = 26 ∧ ((23 : Nat) : Int) + (-21) = ((2 : Nat) : Int) := ⟨by decide +kernel, rfl, by decide⟩
theorem d_LBWorker_forgetValues_26 : decode mm_LBWorker_forgetValues.2.1 26 = .ok (.return_, 1) := by decide +kernel
theorem d_LBWorker_namesBound_0 : decode mm_LBWorker_namesBound.2.1 0 = .ok (.iconst 0, 1) ∧ 0 + 1 = 1 := ⟨by decide +kernel, rfl⟩
theorem d_LBWorker_namesBound_1 : decode mm_LBWorker_namesBound.2.1 1 = .ok (.istore_n 1, 1) ∧ 1 + 1 = 2 := ⟨by decide +kernel, rfl⟩
theorem d_LBWorker_namesBound_2 : decode mm_LBWorker_namesBound.2.1 2 = .ok (.iconst 0, 1) ∧ 2 + 1 = 3 := ⟨by decide +kernel, rfl⟩
theorem d_LBWorker_namesBound_3 : decode mm_LBWorker_namesBound.2.1 3 = .ok (.istore_n 2, 1) ∧ 3 + 1 = 4 := ⟨by decide +kernel, rfl⟩
theorem d_LBWorker_namesBound_4 : decode mm_LBWorker_namesBound.2.1 4 = .ok (.iload_n 2, 1) ∧ 4 + 1 = 5 := ⟨by decide +kernel, rfl⟩
theorem d_LBWorker_namesBound_5 : decode mm_LBWorker_namesBound.2.1 5 = .ok (.bipush 8, 2) ∧ 5 + 2 = 7 := ⟨by decide +kernel, rfl⟩
theorem d_LBWorker_namesBound_7 : decode mm_LBWorker_namesBound.2.1 7 = .ok (.if_icmp .ge 29, 3) ∧ 7 + 3 = 10 ∧ ((7 : Nat) : Int) + (29) = ((36 : Nat) : Int) := ⟨by decide +kernel, rfl, by decide⟩
theorem d_LBWorker_namesBound_10 : decode mm_LBWorker_namesBound.2.1 10 = .ok (.iload_n 1, 1) ∧ 10 + 1 = 11 := ⟨by decide +kernel, rfl⟩
theorem d_LBWorker_namesBound_11 : decode mm_LBWorker_namesBound.2.1 11 = .ok (.aload_n 0, 1) ∧ 11 + 1 = 12 := ⟨by decide +kernel, rfl⟩
theorem d_LBWorker_namesBound_12 : decode mm_LBWorker_namesBound.2.1 12 = .ok (.getfield 17, 3) ∧ 12 + 3 = 15 := ⟨by decide +kernel, rfl⟩
theorem d_LBWorker_namesBound_15 : decode mm_LBWorker_namesBound.2.1 15 = .ok (.iload_n 2, 1) ∧ 15 + 1 = 16 := ⟨by decide +kernel, rfl⟩
theorem d_LBWorker_namesBound_16 : decode mm_LBWorker_namesBound.2.1 16 = .ok (.aaload, 1) ∧ 16 + 1 = 17 := ⟨by decide +kernel, rfl⟩
theorem d_LBWorker_namesBound_17 : decode mm_LBWorker_namesBound.2.1 17 = .ok (.getfield 36, 3) ∧ 17 + 3 = 20 := ⟨by decide +kernel, rfl⟩
theorem d_LBWorker_namesBound_20 : decode mm_LBWorker_namesBound.2.1 20 = .ok (.ifCond .eq 7, 3) ∧ 20 + 3 = 23 ∧ ((20 : Nat) : Int) + (7) = ((27 : Nat) : Int) := ⟨by decide +kernel, rfl, by decide⟩
theorem d_LBWorker_namesBound_23 : decode mm_LBWorker_namesBound.2.1 23 = .ok (.iconst 1, 1) ∧ 23 + 1 = 24 := ⟨by decide +kernel, rfl⟩
theorem d_LBWorker_namesBound_24 : decode mm_LBWorker_namesBound.2.1 24 = .ok (.goto 4, 3) ∧ 24 + 3 = 27 ∧ ((24 : Nat) : Int) + (4) = ((28 : Nat) : Int) := ⟨by decide +kernel, rfl, by decide⟩
theorem d_LBWorker_namesBound_27 : decode mm_LBWorker_namesBound.2.1 27 = .ok (.iconst 0, 1) ∧ 27 + 1 = 28 := ⟨by decide +kernel, rfl⟩
theorem d_LBWorker_namesBound_28 : decode mm_LBWorker_namesBound.2.1 28 = .ok (.iadd, 1) ∧ 28 + 1 = 29 := ⟨by decide +kernel, rfl⟩
theorem d_LBWorker_namesBound_29 : decode mm_LBWorker_namesBound.2.1 29 = .ok (.istore_n 1, 1) ∧ 29 + 1 = 30 := ⟨by decide +kernel, rfl⟩
theorem d_LBWorker_namesBound_30 : decode mm_LBWorker_namesBound.2.1 30 = .ok (.iinc 2 1, 3) ∧ 30 + 3 = 33 := ⟨by decide +kernel, rfl⟩
theorem d_LBWorker_namesBound_33 : decode mm_LBWorker_namesBound.2.1 33 = .ok (.goto (-29), 3) ∧ 33 + 3 = 36 ∧ ((33 : Nat) : Int) + (-29) = ((4 : Nat) : Int) := ⟨by decide +kernel, rfl, by decide⟩
theorem d_LBWorker_namesBound_36 : decode mm_LBWorker_namesBound.2.1 36 = .ok (.iload_n 1, 1) ∧ 36 + 1 = 37 := ⟨by decide +kernel, rfl⟩
theorem d_LBWorker_namesBound_37 : decode mm_LBWorker_namesBound.2.1 37 = .ok (.ireturn, 1) := by decide +kernel
theorem d_LBWorker_namesKept_0 : decode mm_LBWorker_namesKept.2.1 0 = .ok (.iconst 0, 1) ∧ 0 + 1 = 1 := ⟨by decide +kernel, rfl⟩
theorem d_LBWorker_namesKept_1 : decode mm_LBWorker_namesKept.2.1 1 = .ok (.istore_n 1, 1) ∧ 1 + 1 = 2 := ⟨by decide +kernel, rfl⟩
theorem d_LBWorker_namesKept_2 : decode mm_LBWorker_namesKept.2.1 2 = .ok (.iconst 0, 1) ∧ 2 + 1 = 3 := ⟨by decide +kernel, rfl⟩
theorem d_LBWorker_namesKept_3 : decode mm_LBWorker_namesKept.2.1 3 = .ok (.istore_n 2, 1) ∧ 3 + 1 = 4 := ⟨by decide +kernel, rfl⟩
theorem d_LBWorker_namesKept_4 : decode mm_LBWorker_namesKept.2.1 4 = .ok (.iload_n 2, 1) ∧ 4 + 1 = 5 := ⟨by decide +kernel, rfl⟩
theorem d_LBWorker_namesKept_5 : decode mm_LBWorker_namesKept.2.1 5 = .ok (.bipush 8, 2) ∧ 5 + 2 = 7 := ⟨by decide +kernel, rfl⟩
theorem d_LBWorker_namesKept_7 : decode mm_LBWorker_namesKept.2.1 7 = .ok (.if_icmp .ge 33, 3) ∧ 7 + 3 = 10 ∧ ((7 : Nat) : Int) + (33) = ((40 : Nat) : Int) := ⟨by decide +kernel, rfl, by decide⟩
theorem d_LBWorker_namesKept_10 : decode mm_LBWorker_namesKept.2.1 10 = .ok (.iload_n 1, 1) ∧ 10 + 1 = 11 := ⟨by decide +kernel, rfl⟩
theorem d_LBWorker_namesKept_11 : decode mm_LBWorker_namesKept.2.1 11 = .ok (.aload_n 0, 1) ∧ 11 + 1 = 12 := ⟨by decide +kernel, rfl⟩
theorem d_LBWorker_namesKept_12 : decode mm_LBWorker_namesKept.2.1 12 = .ok (.getfield 17, 3) ∧ 12 + 3 = 15 := ⟨by decide +kernel, rfl⟩
theorem d_LBWorker_namesKept_15 : decode mm_LBWorker_namesKept.2.1 15 = .ok (.iload_n 2, 1) ∧ 15 + 1 = 16 := ⟨by decide +kernel, rfl⟩
theorem d_LBWorker_namesKept_16 : decode mm_LBWorker_namesKept.2.1 16 = .ok (.aaload, 1) ∧ 16 + 1 = 17 := ⟨by decide +kernel, rfl⟩
theorem d_LBWorker_namesKept_17 : decode mm_LBWorker_namesKept.2.1 17 = .ok (.getfield 45, 3) ∧ 17 + 3 = 20 := ⟨by decide +kernel, rfl⟩
theorem d_LBWorker_namesKept_20 : decode mm_LBWorker_namesKept.2.1 20 = .ok (.ldc2_w 43, 3) ∧ 20 + 3 = 23 := ⟨by decide +kernel, rfl⟩
theorem d_LBWorker_namesKept_23 : decode mm_LBWorker_namesKept.2.1 23 = .ok (.lcmp, 1) ∧ 23 + 1 = 24 := ⟨by decide +kernel, rfl⟩
theorem d_LBWorker_namesKept_24 : decode mm_LBWorker_namesKept.2.1 24 = .ok (.ifCond .eq 7, 3) ∧ 24 + 3 = 27 ∧ ((24 : Nat) : Int) + (7) = ((31 : Nat) : Int) := ⟨by decide +kernel, rfl, by decide⟩
theorem d_LBWorker_namesKept_27 : decode mm_LBWorker_namesKept.2.1 27 = .ok (.iconst 1, 1) ∧ 27 + 1 = 28 := ⟨by decide +kernel, rfl⟩
theorem d_LBWorker_namesKept_28 : decode mm_LBWorker_namesKept.2.1 28 = .ok (.goto 4, 3) ∧ 28 + 3 = 31 ∧ ((28 : Nat) : Int) + (4) = ((32 : Nat) : Int) := ⟨by decide +kernel, rfl, by decide⟩
theorem d_LBWorker_namesKept_31 : decode mm_LBWorker_namesKept.2.1 31 = .ok (.iconst 0, 1) ∧ 31 + 1 = 32 := ⟨by decide +kernel, rfl⟩
theorem d_LBWorker_namesKept_32 : decode mm_LBWorker_namesKept.2.1 32 = .ok (.iadd, 1) ∧ 32 + 1 = 33 := ⟨by decide +kernel, rfl⟩
theorem d_LBWorker_namesKept_33 : decode mm_LBWorker_namesKept.2.1 33 = .ok (.istore_n 1, 1) ∧ 33 + 1 = 34 := ⟨by decide +kernel, rfl⟩
theorem d_LBWorker_namesKept_34 : decode mm_LBWorker_namesKept.2.1 34 = .ok (.iinc 2 1, 3) ∧ 34 + 3 = 37 := ⟨by decide +kernel, rfl⟩
theorem d_LBWorker_namesKept_37 : decode mm_LBWorker_namesKept.2.1 37 = .ok (.goto (-33), 3) ∧ 37 + 3 = 40 ∧ ((37 : Nat) : Int) + (-33) = ((4 : Nat) : Int) := ⟨by decide +kernel, rfl, by decide⟩
theorem d_LBWorker_namesKept_40 : decode mm_LBWorker_namesKept.2.1 40 = .ok (.iload_n 1, 1) ∧ 40 + 1 = 41 := ⟨by decide +kernel, rfl⟩
theorem d_LBWorker_namesKept_41 : decode mm_LBWorker_namesKept.2.1 41 = .ok (.ireturn, 1) := by decide +kernel
theorem d_LBWorker_isClosed_0 : decode mm_LBWorker_isClosed.2.1 0 = .ok (.aload_n 0, 1) ∧ 0 + 1 = 1 := ⟨by decide +kernel, rfl⟩
theorem d_LBWorker_isClosed_1 : decode mm_LBWorker_isClosed.2.1 1 = .ok (.getfield 49, 3) ∧ 1 + 3 = 4 := ⟨by decide +kernel, rfl⟩
theorem d_LBWorker_isClosed_4 : decode mm_LBWorker_isClosed.2.1 4 = .ok (.bipush 30, 2) ∧ 4 + 2 = 6 := ⟨by decide +kernel, rfl⟩
theorem d_LBWorker_isClosed_6 : decode mm_LBWorker_isClosed.2.1 6 = .ok (.if_icmp .lt 7, 3) ∧ 6 + 3 = 9 ∧ ((6 : Nat) : Int) + (7) = ((13 : Nat) : Int) := ⟨by decide +kernel, rfl, by decide⟩
theorem d_LBWorker_isClosed_9 : decode mm_LBWorker_isClosed.2.1 9 = .ok (.iconst 1, 1) ∧ 9 + 1 = 10 := ⟨by decide +kernel, rfl⟩
theorem d_LBWorker_isClosed_10 : decode mm_LBWorker_isClosed.2.1 10 = .ok (.goto 4, 3) ∧ 10 + 3 = 13 ∧ ((10 : Nat) : Int) + (4) = ((14 : Nat) : Int) := ⟨by decide +kernel, rfl, by decide⟩
theorem d_LBWorker_isClosed_13 : decode mm_LBWorker_isClosed.2.1 13 = .ok (.iconst 0, 1) ∧ 13 + 1 = 14 := ⟨by decide +kernel, rfl⟩
theorem d_LBWorker_isClosed_14 : decode mm_LBWorker_isClosed.2.1 14 = .ok (.ireturn, 1) := by decide +kernel
theorem d_LBWorker_answerOf_0 : decode mm_LBWorker_answerOf.2.1 0 = .ok (.lload_n 1, 1) ∧ 0 + 1 = 1 := ⟨by decide +kernel, rfl⟩
theorem d_LBWorker_answerOf_1 : decode mm_LBWorker_answerOf.2.1 1 = .ok (.invokestatic 53, 3) ∧ 1 + 3 = 4 := ⟨by decide +kernel, rfl⟩
theorem d_LBWorker_answerOf_4 : decode mm_LBWorker_answerOf.2.1 4 = .ok (.ifCond .ne 5, 3) ∧ 4 + 3 = 7 ∧ ((4 : Nat) : Int) + (5) = ((9 : Nat) : Int) := ⟨by decide +kernel, rfl, by decide⟩
theorem d_LBWorker_answerOf_7 : decode mm_LBWorker_answerOf.2.1 7 = .ok (.iconst 0, 1) ∧ 7 + 1 = 8 := ⟨by decide +kernel, rfl⟩
theorem d_LBWorker_answerOf_8 : decode mm_LBWorker_answerOf.2.1 8 = .ok (.ireturn, 1) := by decide +kernel
theorem d_LBWorker_answerOf_9 : decode mm_LBWorker_answerOf.2.1 9 = .ok (.aload_n 0, 1) ∧ 9 + 1 = 10 := ⟨by decide +kernel, rfl⟩
theorem d_LBWorker_answerOf_10 : decode mm_LBWorker_answerOf.2.1 10 = .ok (.dup, 1) ∧ 10 + 1 = 11 := ⟨by decide +kernel, rfl⟩
theorem d_LBWorker_answerOf_11 : decode mm_LBWorker_answerOf.2.1 11 = .ok (.getfield 49, 3) ∧ 11 + 3 = 14 := ⟨by decide +kernel, rfl⟩
theorem d_LBWorker_answerOf_14 : decode mm_LBWorker_answerOf.2.1 14 = .ok (.iconst 1, 1) ∧ 14 + 1 = 15 := ⟨by decide +kernel, rfl⟩
theorem d_LBWorker_answerOf_15 : decode mm_LBWorker_answerOf.2.1 15 = .ok (.iadd, 1) ∧ 15 + 1 = 16 := ⟨by decide +kernel, rfl⟩
theorem d_LBWorker_answerOf_16 : decode mm_LBWorker_answerOf.2.1 16 = .ok (.putfield 49, 3) ∧ 16 + 3 = 19 := ⟨by decide +kernel, rfl⟩
theorem d_LBWorker_answerOf_19 : decode mm_LBWorker_answerOf.2.1 19 = .ok (.lload_n 1, 1) ∧ 19 + 1 = 20 := ⟨by decide +kernel, rfl⟩
theorem d_LBWorker_answerOf_20 : decode mm_LBWorker_answerOf.2.1 20 = .ok (.ldc2_w 43, 3) ∧ 20 + 3 = 23 := ⟨by decide +kernel, rfl⟩
theorem d_LBWorker_answerOf_23 : decode mm_LBWorker_answerOf.2.1 23 = .ok (.lsub, 1) ∧ 23 + 1 = 24 := ⟨by decide +kernel, rfl⟩
theorem d_LBWorker_answerOf_24 : decode mm_LBWorker_answerOf.2.1 24 = .ok (.l2i, 1) ∧ 24 + 1 = 25 := ⟨by decide +kernel, rfl⟩
theorem d_LBWorker_answerOf_25 : decode mm_LBWorker_answerOf.2.1 25 = .ok (.ireturn, 1) := by decide +kernel
theorem d_LBWorker_workOutName_0 : decode mm_LBWorker_workOutName.2.1 0 = .ok (.aload_n 0, 1) ∧ 0 + 1 = 1 := ⟨by decide +kernel, rfl⟩
theorem d_LBWorker_workOutName_1 : decode mm_LBWorker_workOutName.2.1 1 = .ok (.iconst 1, 1) ∧ 1 + 1 = 2 := ⟨by decide +kernel, rfl⟩
theorem d_LBWorker_workOutName_2 : decode mm_LBWorker_workOutName.2.1 2 = .ok (.putfield 57, 3) ∧ 2 + 3 = 5 := ⟨by decide +kernel, rfl⟩
theorem d_LBWorker_workOutName_5 : decode mm_LBWorker_workOutName.2.1 5 = .ok (.aload_n 0, 1) ∧ 5 + 1 = 6 := ⟨by decide +kernel, rfl⟩
theorem d_LBWorker_workOutName_6 : decode mm_LBWorker_workOutName.2.1 6 = .ok (.iload_n 1, 1) ∧ 6 + 1 = 7 := ⟨by decide +kernel, rfl⟩
theorem d_LBWorker_workOutName_7 : decode mm_LBWorker_workOutName.2.1 7 = .ok (.iconst 1, 1) ∧ 7 + 1 = 8 := ⟨by decide +kernel, rfl⟩
theorem d_LBWorker_workOutName_8 : decode mm_LBWorker_workOutName.2.1 8 = .ok (.invokevirtual 60, 3) ∧ 8 + 3 = 11 := ⟨by decide +kernel, rfl⟩
theorem d_LBWorker_workOutName_11 : decode mm_LBWorker_workOutName.2.1 11 = .ok (.lreturn, 1) := by decide +kernel
theorem d_LBWorker_workOutText_0 : decode mm_LBWorker_workOutText.2.1 0 = .ok (.aload_n 0, 1) ∧ 0 + 1 = 1 := ⟨by decide +kernel, rfl⟩
theorem d_LBWorker_workOutText_1 : decode mm_LBWorker_workOutText.2.1 1 = .ok (.iconst 0, 1) ∧ 1 + 1 = 2 := ⟨by decide +kernel, rfl⟩
theorem d_LBWorker_workOutText_2 : decode mm_LBWorker_workOutText.2.1 2 = .ok (.putfield 57, 3) ∧ 2 + 3 = 5 := ⟨by decide +kernel, rfl⟩
theorem d_LBWorker_workOutText_5 : decode mm_LBWorker_workOutText.2.1 5 = .ok (.aload_n 0, 1) ∧ 5 + 1 = 6 := ⟨by decide +kernel, rfl⟩
theorem d_LBWorker_workOutText_6 : decode mm_LBWorker_workOutText.2.1 6 = .ok (.aload_n 1, 1) ∧ 6 + 1 = 7 := ⟨by decide +kernel, rfl⟩
theorem d_LBWorker_workOutText_7 : decode mm_LBWorker_workOutText.2.1 7 = .ok (.iconst 0, 1) ∧ 7 + 1 = 8 := ⟨by decide +kernel, rfl⟩
theorem d_LBWorker_workOutText_8 : decode mm_LBWorker_workOutText.2.1 8 = .ok (.iconst 1, 1) ∧ 8 + 1 = 9 := ⟨by decide +kernel, rfl⟩
theorem d_LBWorker_workOutText_9 : decode mm_LBWorker_workOutText.2.1 9 = .ok (.invokevirtual 64, 3) ∧ 9 + 3 = 12 := ⟨by decide +kernel, rfl⟩
theorem d_LBWorker_workOutText_12 : decode mm_LBWorker_workOutText.2.1 12 = .ok (.lreturn, 1) := by decide +kernel
theorem d_LBWorker_work_0 : decode mm_LBWorker_work.2.1 0 = .ok (.aload_n 0, 1) ∧ 0 + 1 = 1 := ⟨by decide +kernel, rfl⟩
theorem d_LBWorker_work_1 : decode mm_LBWorker_work.2.1 1 = .ok (.getfield 57, 3) ∧ 1 + 3 = 4 := ⟨by decide +kernel, rfl⟩
theorem d_LBWorker_work_4 : decode mm_LBWorker_work.2.1 4 = .ok (.sipush 200, 3) ∧ 4 + 3 = 7 := ⟨by decide +kernel, rfl⟩
theorem d_LBWorker_work_7 : decode mm_LBWorker_work.2.1 7 = .ok (.if_icmp .ge 9, 3) ∧ 7 + 3 = 10 ∧ ((7 : Nat) : Int) + (9) = ((16 : Nat) : Int) := ⟨by decide +kernel, rfl, by decide⟩
theorem d_LBWorker_work_10 : decode mm_LBWorker_work.2.1 10 = .ok (.iload_n 3, 1) ∧ 10 + 1 = 11 := ⟨by decide +kernel, rfl⟩
theorem d_LBWorker_work_11 : decode mm_LBWorker_work.2.1 11 = .ok (.bipush 72, 2) ∧ 11 + 2 = 13 := ⟨by decide +kernel, rfl⟩
theorem d_LBWorker_work_13 : decode mm_LBWorker_work.2.1 13 = .ok (.if_icmp .le 7, 3) ∧ 13 + 3 = 16 ∧ ((13 : Nat) : Int) + (7) = ((20 : Nat) : Int) := ⟨by decide +kernel, rfl, by decide⟩
theorem d_LBWorker_work_16 : decode mm_LBWorker_work.2.1 16 = .ok (.ldc2_w 68, 3) ∧ 16 + 3 = 19 := ⟨by decide +kernel, rfl⟩
theorem d_LBWorker_work_19 : decode mm_LBWorker_work.2.1 19 = .ok (.lreturn, 1) := by decide +kernel
theorem d_LBWorker_work_20 : decode mm_LBWorker_work.2.1 20 = .ok (.aload_n 0, 1) ∧ 20 + 1 = 21 := ⟨by decide +kernel, rfl⟩
theorem d_LBWorker_work_21 : decode mm_LBWorker_work.2.1 21 = .ok (.dup, 1) ∧ 21 + 1 = 22 := ⟨by decide +kernel, rfl⟩
theorem d_LBWorker_work_22 : decode mm_LBWorker_work.2.1 22 = .ok (.getfield 57, 3) ∧ 22 + 3 = 25 := ⟨by decide +kernel, rfl⟩
theorem d_LBWorker_work_25 : decode mm_LBWorker_work.2.1 25 = .ok (.iconst 1, 1) ∧ 25 + 1 = 26 := ⟨by decide +kernel, rfl⟩
theorem d_LBWorker_work_26 : decode mm_LBWorker_work.2.1 26 = .ok (.iadd, 1) ∧ 26 + 1 = 27 := ⟨by decide +kernel, rfl⟩
theorem d_LBWorker_work_27 : decode mm_LBWorker_work.2.1 27 = .ok (.putfield 57, 3) ∧ 27 + 3 = 30 := ⟨by decide +kernel, rfl⟩
theorem d_LBWorker_work_30 : decode mm_LBWorker_work.2.1 30 = .ok (.aload_n 1, 1) ∧ 30 + 1 = 31 := ⟨by decide +kernel, rfl⟩
theorem d_LBWorker_work_31 : decode mm_LBWorker_work.2.1 31 = .ok (.iload_n 2, 1) ∧ 31 + 1 = 32 := ⟨by decide +kernel, rfl⟩
theorem d_LBWorker_work_32 : decode mm_LBWorker_work.2.1 32 = .ok (.invokevirtual 70, 3) ∧ 32 + 3 = 35 := ⟨by decide +kernel, rfl⟩
theorem d_LBWorker_work_35 : decode mm_LBWorker_work.2.1 35 = .ok (.istore 4, 2) ∧ 35 + 2 = 37 := ⟨by decide +kernel, rfl⟩
theorem d_LBWorker_work_37 : decode mm_LBWorker_work.2.1 37 = .ok (.iload 4, 2) ∧ 37 + 2 = 39 := ⟨by decide +kernel, rfl⟩
theorem d_LBWorker_work_39 : decode mm_LBWorker_work.2.1 39 = .ok (.invokestatic 74, 3) ∧ 39 + 3 = 42 := ⟨by decide +kernel, rfl⟩
theorem d_LBWorker_work_42 : decode mm_LBWorker_work.2.1 42 = .ok (.ifCond .eq 10, 3) ∧ 42 + 3 = 45 ∧ ((42 : Nat) : Int) + (10) = ((52 : Nat) : Int) := ⟨by decide +kernel, rfl, by decide⟩
theorem d_LBWorker_work_45 : decode mm_LBWorker_work.2.1 45 = .ok (.iload 4, 2) ∧ 45 + 2 = 47 := ⟨by decide +kernel, rfl⟩
theorem d_LBWorker_work_47 : decode mm_LBWorker_work.2.1 47 = .ok (.bipush 48, 2) ∧ 47 + 2 = 49 := ⟨by decide +kernel, rfl⟩
theorem d_LBWorker_work_49 : decode mm_LBWorker_work.2.1 49 = .ok (.isub, 1) ∧ 49 + 1 = 50 := ⟨by decide +kernel, rfl⟩
theorem d_LBWorker_work_50 : decode mm_LBWorker_work.2.1 50 = .ok (.i2l, 1) ∧ 50 + 1 = 51 := ⟨by decide +kernel, rfl⟩
theorem d_LBWorker_work_51 : decode mm_LBWorker_work.2.1 51 = .ok (.lreturn, 1) := by decide +kernel
theorem d_LBWorker_work_52 : decode mm_LBWorker_work.2.1 52 = .ok (.iload 4, 2) ∧ 52 + 2 = 54 := ⟨by decide +kernel, rfl⟩
theorem d_LBWorker_work_54 : decode mm_LBWorker_work.2.1 54 = .ok (.invokestatic 78, 3) ∧ 54 + 3 = 57 := ⟨by decide +kernel, rfl⟩
theorem d_LBWorker_work_57 : decode mm_LBWorker_work.2.1 57 = .ok (.ifCond .eq 14, 3) ∧ 57 + 3 = 60 ∧ ((57 : Nat) : Int) + (14) = ((71 : Nat) : Int) := ⟨by decide +kernel, rfl, by decide⟩
theorem d_LBWorker_work_60 : decode mm_LBWorker_work.2.1 60 = .ok (.aload_n 0, 1) ∧ 60 + 1 = 61 := ⟨by decide +kernel, rfl⟩
theorem d_LBWorker_work_61 : decode mm_LBWorker_work.2.1 61 = .ok (.iload 4, 2) ∧ 61 + 2 = 63 := ⟨by decide +kernel, rfl⟩
theorem d_LBWorker_work_63 : decode mm_LBWorker_work.2.1 63 = .ok (.bipush 97, 2) ∧ 63 + 2 = 65 := ⟨by decide +kernel, rfl⟩
theorem d_LBWorker_work_65 : decode mm_LBWorker_work.2.1 65 = .ok (.isub, 1) ∧ 65 + 1 = 66 := ⟨by decide +kernel, rfl⟩
theorem d_LBWorker_work_66 : decode mm_LBWorker_work.2.1 66 = .ok (.iload_n 3, 1) ∧ 66 + 1 = 67 := ⟨by decide +kernel, rfl⟩
theorem d_LBWorker_work_67 : decode mm_LBWorker_work.2.1 67 = .ok (.invokevirtual 60, 3) ∧ 67 + 3 = 70 := ⟨by decide +kernel, rfl⟩
theorem d_LBWorker_work_70 : decode mm_LBWorker_work.2.1 70 = .ok (.lreturn, 1) := by decide +kernel
theorem d_LBWorker_work_71 : decode mm_LBWorker_work.2.1 71 = .ok (.iload 4, 2) ∧ 71 + 2 = 73 := ⟨by decide +kernel, rfl⟩
theorem d_LBWorker_work_73 : decode mm_LBWorker_work.2.1 73 = .ok (.lookupswitch 91 #[(33, 59), (63, 51), (68, 75), (79, 83), (84, 67)], 51) := by decide +kernel
theorem d_LBWorker_work_124 : decode mm_LBWorker_work.2.1 124 = .ok (.aload_n 0, 1) ∧ 124 + 1 = 125 := ⟨by decide +kernel, rfl⟩
theorem d_LBWorker_work_125 : decode mm_LBWorker_work.2.1 125 = .ok (.aload_n 1, 1) ∧ 125 + 1 = 126 := ⟨by decide +kernel, rfl⟩
theorem d_LBWorker_work_126 : decode mm_LBWorker_work.2.1 126 = .ok (.iload_n 2, 1) ∧ 126 + 1 = 127 := ⟨by decide +kernel, rfl⟩
theorem d_LBWorker_work_127 : decode mm_LBWorker_work.2.1 127 = .ok (.iload_n 3, 1) ∧ 127 + 1 = 128 := ⟨by decide +kernel, rfl⟩
theorem d_LBWorker_work_128 : decode mm_LBWorker_work.2.1 128 = .ok (.invokevirtual 81, 3) ∧ 128 + 3 = 131 := ⟨by decide +kernel, rfl⟩
theorem d_LBWorker_work_131 : decode mm_LBWorker_work.2.1 131 = .ok (.lreturn, 1) := by decide +kernel
theorem d_LBWorker_work_132 : decode mm_LBWorker_work.2.1 132 = .ok (.aload_n 0, 1) ∧ 132 + 1 = 133 := ⟨by decide +kernel, rfl⟩
theorem d_LBWorker_work_133 : decode mm_LBWorker_work.2.1 133 = .ok (.aload_n 1, 1) ∧ 133 + 1 = 134 := ⟨by decide +kernel, rfl⟩
theorem d_LBWorker_work_134 : decode mm_LBWorker_work.2.1 134 = .ok (.iload_n 2, 1) ∧ 134 + 1 = 135 := ⟨by decide +kernel, rfl⟩
theorem d_LBWorker_work_135 : decode mm_LBWorker_work.2.1 135 = .ok (.iload_n 3, 1) ∧ 135 + 1 = 136 := ⟨by decide +kernel, rfl⟩
theorem d_LBWorker_work_136 : decode mm_LBWorker_work.2.1 136 = .ok (.invokevirtual 84, 3) ∧ 136 + 3 = 139 := ⟨by decide +kernel, rfl⟩
theorem d_LBWorker_work_139 : decode mm_LBWorker_work.2.1 139 = .ok (.lreturn, 1) := by decide +kernel
theorem d_LBWorker_work_140 : decode mm_LBWorker_work.2.1 140 = .ok (.aload_n 0, 1) ∧ 140 + 1 = 141 := ⟨by decide +kernel, rfl⟩
theorem d_LBWorker_work_141 : decode mm_LBWorker_work.2.1 141 = .ok (.aload_n 1, 1) ∧ 141 + 1 = 142 := ⟨by decide +kernel, rfl⟩
theorem d_LBWorker_work_142 : decode mm_LBWorker_work.2.1 142 = .ok (.iload_n 2, 1) ∧ 142 + 1 = 143 := ⟨by decide +kernel, rfl⟩
theorem d_LBWorker_work_143 : decode mm_LBWorker_work.2.1 143 = .ok (.iload_n 3, 1) ∧ 143 + 1 = 144 := ⟨by decide +kernel, rfl⟩
theorem d_LBWorker_work_144 : decode mm_LBWorker_work.2.1 144 = .ok (.invokevirtual 87, 3) ∧ 144 + 3 = 147 := ⟨by decide +kernel, rfl⟩
theorem d_LBWorker_work_147 : decode mm_LBWorker_work.2.1 147 = .ok (.lreturn, 1) := by decide +kernel
theorem d_LBWorker_work_148 : decode mm_LBWorker_work.2.1 148 = .ok (.aload_n 0, 1) ∧ 148 + 1 = 149 := ⟨by decide +kernel, rfl⟩
theorem d_LBWorker_work_149 : decode mm_LBWorker_work.2.1 149 = .ok (.aload_n 1, 1) ∧ 149 + 1 = 150 := ⟨by decide +kernel, rfl⟩
theorem d_LBWorker_work_150 : decode mm_LBWorker_work.2.1 150 = .ok (.iload_n 2, 1) ∧ 150 + 1 = 151 := ⟨by decide +kernel, rfl⟩
theorem d_LBWorker_work_151 : decode mm_LBWorker_work.2.1 151 = .ok (.iload_n 3, 1) ∧ 151 + 1 = 152 := ⟨by decide +kernel, rfl⟩
theorem d_LBWorker_work_152 : decode mm_LBWorker_work.2.1 152 = .ok (.invokevirtual 90, 3) ∧ 152 + 3 = 155 := ⟨by decide +kernel, rfl⟩
theorem d_LBWorker_work_155 : decode mm_LBWorker_work.2.1 155 = .ok (.lreturn, 1) := by decide +kernel
theorem d_LBWorker_work_156 : decode mm_LBWorker_work.2.1 156 = .ok (.aload_n 0, 1) ∧ 156 + 1 = 157 := ⟨by decide +kernel, rfl⟩
theorem d_LBWorker_work_157 : decode mm_LBWorker_work.2.1 157 = .ok (.aload_n 1, 1) ∧ 157 + 1 = 158 := ⟨by decide +kernel, rfl⟩
theorem d_LBWorker_work_158 : decode mm_LBWorker_work.2.1 158 = .ok (.iload_n 2, 1) ∧ 158 + 1 = 159 := ⟨by decide +kernel, rfl⟩
theorem d_LBWorker_work_159 : decode mm_LBWorker_work.2.1 159 = .ok (.iload_n 3, 1) ∧ 159 + 1 = 160 := ⟨by decide +kernel, rfl⟩
theorem d_LBWorker_work_160 : decode mm_LBWorker_work.2.1 160 = .ok (.invokevirtual 93, 3) ∧ 160 + 3 = 163 := ⟨by decide +kernel, rfl⟩
theorem d_LBWorker_work_163 : decode mm_LBWorker_work.2.1 163 = .ok (.lreturn, 1) := by decide +kernel
theorem d_LBWorker_work_164 : decode mm_LBWorker_work.2.1 164 = .ok (.aload_n 0, 1) ∧ 164 + 1 = 165 := ⟨by decide +kernel, rfl⟩
theorem d_LBWorker_work_165 : decode mm_LBWorker_work.2.1 165 = .ok (.aload_n 1, 1) ∧ 165 + 1 = 166 := ⟨by decide +kernel, rfl⟩
theorem d_LBWorker_work_166 : decode mm_LBWorker_work.2.1 166 = .ok (.iload_n 2, 1) ∧ 166 + 1 = 167 := ⟨by decide +kernel, rfl⟩
theorem d_LBWorker_work_167 : decode mm_LBWorker_work.2.1 167 = .ok (.iload_n 3, 1) ∧ 167 + 1 = 168 := ⟨by decide +kernel, rfl⟩
theorem d_LBWorker_work_168 : decode mm_LBWorker_work.2.1 168 = .ok (.invokevirtual 96, 3) ∧ 168 + 3 = 171 := ⟨by decide +kernel, rfl⟩
theorem d_LBWorker_work_171 : decode mm_LBWorker_work.2.1 171 = .ok (.lreturn, 1) := by decide +kernel
theorem d_LBWorker_workName_0 : decode mm_LBWorker_workName.2.1 0 = .ok (.aload_n 0, 1) ∧ 0 + 1 = 1 := ⟨by decide +kernel, rfl⟩
theorem d_LBWorker_workName_1 : decode mm_LBWorker_workName.2.1 1 = .ok (.getfield 17, 3) ∧ 1 + 3 = 4 := ⟨by decide +kernel, rfl⟩
theorem d_LBWorker_workName_4 : decode mm_LBWorker_workName.2.1 4 = .ok (.iload_n 1, 1) ∧ 4 + 1 = 5 := ⟨by decide +kernel, rfl⟩
theorem d_LBWorker_workName_5 : decode mm_LBWorker_workName.2.1 5 = .ok (.aaload, 1) ∧ 5 + 1 = 6 := ⟨by decide +kernel, rfl⟩
theorem d_LBWorker_workName_6 : decode mm_LBWorker_workName.2.1 6 = .ok (.astore_n 3, 1) ∧ 6 + 1 = 7 := ⟨by decide +kernel, rfl⟩
theorem d_LBWorker_workName_7 : decode mm_LBWorker_workName.2.1 7 = .ok (.aload_n 3, 1) ∧ 7 + 1 = 8 := ⟨by decide +kernel, rfl⟩
theorem d_LBWorker_workName_8 : decode mm_LBWorker_workName.2.1 8 = .ok (.getfield 36, 3) ∧ 8 + 3 = 11 := ⟨by decide +kernel, rfl⟩
theorem d_LBWorker_workName_11 : decode mm_LBWorker_workName.2.1 11 = .ok (.ifCond .ne 7, 3) ∧ 11 + 3 = 14 ∧ ((11 : Nat) : Int) + (7) = ((18 : Nat) : Int) := ⟨by decide +kernel, rfl, by decide⟩
theorem d_LBWorker_workName_14 : decode mm_LBWorker_workName.2.1 14 = .ok (.ldc2_w 99, 3) ∧ 14 + 3 = 17 := ⟨by decide +kernel, rfl⟩
theorem d_LBWorker_workName_17 : decode mm_LBWorker_workName.2.1 17 = .ok (.lreturn, 1) := by decide +kernel
theorem d_LBWorker_workName_18 : decode mm_LBWorker_workName.2.1 18 = .ok (.aload_n 3, 1) ∧ 18 + 1 = 19 := ⟨by decide +kernel, rfl⟩
theorem d_LBWorker_workName_19 : decode mm_LBWorker_workName.2.1 19 = .ok (.getfield 101, 3) ∧ 19 + 3 = 22 := ⟨by decide +kernel, rfl⟩
theorem d_LBWorker_workName_22 : decode mm_LBWorker_workName.2.1 22 = .ok (.ifCond .eq 7, 3) ∧ 22 + 3 = 25 ∧ ((22 : Nat) : Int) + (7) = ((29 : Nat) : Int) := ⟨by decide +kernel, rfl, by decide⟩
theorem d_LBWorker_workName_25 : decode mm_LBWorker_workName.2.1 25 = .ok (.ldc2_w 104, 3) ∧ 25 + 3 = 28 := ⟨by decide +kernel, rfl⟩
theorem d_LBWorker_workName_28 : decode mm_LBWorker_workName.2.1 28 = .ok (.lreturn, 1) := by decide +kernel
theorem d_LBWorker_workName_29 : decode mm_LBWorker_workName.2.1 29 = .ok (.aload_n 3, 1) ∧ 29 + 1 = 30 := ⟨by decide +kernel, rfl⟩
theorem d_LBWorker_workName_30 : decode mm_LBWorker_workName.2.1 30 = .ok (.getfield 45, 3) ∧ 30 + 3 = 33 := ⟨by decide +kernel, rfl⟩
theorem d_LBWorker_workName_33 : decode mm_LBWorker_workName.2.1 33 = .ok (.ldc2_w 43, 3) ∧ 33 + 3 = 36 := ⟨by decide +kernel, rfl⟩
theorem d_LBWorker_workName_36 : decode mm_LBWorker_workName.2.1 36 = .ok (.lcmp, 1) ∧ 36 + 1 = 37 := ⟨by decide +kernel, rfl⟩
theorem d_LBWorker_workName_37 : decode mm_LBWorker_workName.2.1 37 = .ok (.ifCond .eq 8, 3) ∧ 37 + 3 = 40 ∧ ((37 : Nat) : Int) + (8) = ((45 : Nat) : Int) := ⟨by decide +kernel, rfl, by decide⟩
theorem d_LBWorker_workName_40 : decode mm_LBWorker_workName.2.1 40 = .ok (.aload_n 3, 1) ∧ 40 + 1 = 41 := ⟨by decide +kernel, rfl⟩
theorem d_LBWorker_workName_41 : decode mm_LBWorker_workName.2.1 41 = .ok (.getfield 45, 3) ∧ 41 + 3 = 44 := ⟨by decide +kernel, rfl⟩
theorem d_LBWorker_workName_44 : decode mm_LBWorker_workName.2.1 44 = .ok (.lreturn, 1) := by decide +kernel
theorem d_LBWorker_workName_45 : decode mm_LBWorker_workName.2.1 45 = .ok (.aload_n 3, 1) ∧ 45 + 1 = 46 := ⟨by decide +kernel, rfl⟩
theorem d_LBWorker_workName_46 : decode mm_LBWorker_workName.2.1 46 = .ok (.iconst 1, 1) ∧ 46 + 1 = 47 := ⟨by decide +kernel, rfl⟩
theorem d_LBWorker_workName_47 : decode mm_LBWorker_workName.2.1 47 = .ok (.putfield 101, 3) ∧ 47 + 3 = 50 := ⟨by decide +kernel, rfl⟩
theorem d_LBWorker_workName_50 : decode mm_LBWorker_workName.2.1 50 = .ok (.aload_n 0, 1) ∧ 50 + 1 = 51 := ⟨by decide +kernel, rfl⟩
theorem d_LBWorker_workName_51 : decode mm_LBWorker_workName.2.1 51 = .ok (.aload_n 3, 1) ∧ 51 + 1 = 52 := ⟨by decide +kernel, rfl⟩
theorem d_LBWorker_workName_52 : decode mm_LBWorker_workName.2.1 52 = .ok (.getfield 26, 3) ∧ 52 + 3 = 55 := ⟨by decide +kernel, rfl⟩
theorem d_LBWorker_workName_55 : decode mm_LBWorker_workName.2.1 55 = .ok (.iconst 0, 1) ∧ 55 + 1 = 56 := ⟨by decide +kernel, rfl⟩
theorem d_LBWorker_workName_56 : decode mm_LBWorker_workName.2.1 56 = .ok (.iload_n 2, 1) ∧ 56 + 1 = 57 := ⟨by decide +kernel, rfl⟩
theorem d_LBWorker_workName_57 : decode mm_LBWorker_workName.2.1 57 = .ok (.iconst 1, 1) ∧ 57 + 1 = 58 := ⟨by decide +kernel, rfl⟩
theorem d_LBWorker_workName_58 : decode mm_LBWorker_workName.2.1 58 = .ok (.iadd, 1) ∧ 58 + 1 = 59 := ⟨by decide +kernel, rfl⟩
theorem d_LBWorker_workName_59 : decode mm_LBWorker_workName.2.1 59 = .ok (.invokevirtual 64, 3) ∧ 59 + 3 = 62 := ⟨by decide +kernel, rfl⟩
theorem d_LBWorker_workName_62 : decode mm_LBWorker_workName.2.1 62 = .ok (.lstore 4, 2) ∧ 62 + 2 = 64 := ⟨by decide +kernel, rfl⟩
theorem d_LBWorker_workName_64 : decode mm_LBWorker_workName.2.1 64 = .ok (.aload_n 3, 1) ∧ 64 + 1 = 65 := ⟨by decide +kernel, rfl⟩
theorem d_LBWorker_workName_65 : decode mm_LBWorker_workName.2.1 65 = .ok (.iconst 0, 1) ∧ 65 + 1 = 66 := ⟨by decide +kernel, rfl⟩
theorem d_LBWorker_workName_66 : decode mm_LBWorker_workName.2.1 66 = .ok (.putfield 101, 3) ∧ 66 + 3 = 69 := ⟨by decide +kernel, rfl⟩
theorem d_LBWorker_workName_69 : decode mm_LBWorker_workName.2.1 69 = .ok (.lload 4, 2) ∧ 69 + 2 = 71 := ⟨by decide +kernel, rfl⟩
theorem d_LBWorker_workName_71 : decode mm_LBWorker_workName.2.1 71 = .ok (.invokestatic 53, 3) ∧ 71 + 3 = 74 := ⟨by decide +kernel, rfl⟩
theorem d_LBWorker_workName_74 : decode mm_LBWorker_workName.2.1 74 = .ok (.ifCond .ne 9, 3) ∧ 74 + 3 = 77 ∧ ((74 : Nat) : Int) + (9) = ((83 : Nat) : Int) := ⟨by decide +kernel, rfl, by decide⟩
theorem d_LBWorker_workName_77 : decode mm_LBWorker_workName.2.1 77 = .ok (.aload_n 3, 1) ∧ 77 + 1 = 78 := ⟨by decide +kernel, rfl⟩
theorem d_LBWorker_workName_78 : decode mm_LBWorker_workName.2.1 78 = .ok (.lload 4, 2) ∧ 78 + 2 = 80 := ⟨by decide +kernel, rfl⟩
theorem d_LBWorker_workName_80 : decode mm_LBWorker_workName.2.1 80 = .ok (.putfield 45, 3) ∧ 80 + 3 = 83 := ⟨by decide +kernel, rfl⟩
theorem d_LBWorker_workName_83 : decode mm_LBWorker_workName.2.1 83 = .ok (.lload 4, 2) ∧ 83 + 2 = 85 := ⟨by decide +kernel, rfl⟩
theorem d_LBWorker_workName_85 : decode mm_LBWorker_workName.2.1 85 = .ok (.lreturn, 1) := by decide +kernel
theorem d_LBWorker_workPair_0 : decode mm_LBWorker_workPair.2.1 0 = .ok (.aload_n 0, 1) ∧ 0 + 1 = 1 := ⟨by decide +kernel, rfl⟩
theorem d_LBWorker_workPair_1 : decode mm_LBWorker_workPair.2.1 1 = .ok (.aload_n 1, 1) ∧ 1 + 1 = 2 := ⟨by decide +kernel, rfl⟩
theorem d_LBWorker_workPair_2 : decode mm_LBWorker_workPair.2.1 2 = .ok (.iload_n 2, 1) ∧ 2 + 1 = 3 := ⟨by decide +kernel, rfl⟩
theorem d_LBWorker_workPair_3 : decode mm_LBWorker_workPair.2.1 3 = .ok (.iconst 1, 1) ∧ 3 + 1 = 4 := ⟨by decide +kernel, rfl⟩
theorem d_LBWorker_workPair_4 : decode mm_LBWorker_workPair.2.1 4 = .ok (.iadd, 1) ∧ 4 + 1 = 5 := ⟨by decide +kernel, rfl⟩
theorem d_LBWorker_workPair_5 : decode mm_LBWorker_workPair.2.1 5 = .ok (.iload_n 3, 1) ∧ 5 + 1 = 6 := ⟨by decide +kernel, rfl⟩
theorem d_LBWorker_workPair_6 : decode mm_LBWorker_workPair.2.1 6 = .ok (.iconst 1, 1) ∧ 6 + 1 = 7 := ⟨by decide +kernel, rfl⟩
theorem d_LBWorker_workPair_7 : decode mm_LBWorker_workPair.2.1 7 = .ok (.iadd, 1) ∧ 7 + 1 = 8 := ⟨by decide +kernel, rfl⟩
theorem d_LBWorker_workPair_8 : decode mm_LBWorker_workPair.2.1 8 = .ok (.invokevirtual 64, 3) ∧ 8 + 3 = 11 := ⟨by decide +kernel, rfl⟩
theorem d_LBWorker_workPair_11 : decode mm_LBWorker_workPair.2.1 11 = .ok (.lstore 4, 2) ∧ 11 + 2 = 13 := ⟨by decide +kernel, rfl⟩
theorem d_LBWorker_workPair_13 : decode mm_LBWorker_workPair.2.1 13 = .ok (.lload 4, 2) ∧ 13 + 2 = 15 := ⟨by decide +kernel, rfl⟩
theorem d_LBWorker_workPair_15 : decode mm_LBWorker_workPair.2.1 15 = .ok (.invokestatic 53, 3) ∧ 15 + 3 = 18 := ⟨by decide +kernel, rfl⟩
theorem d_LBWorker_workPair_18 : decode mm_LBWorker_workPair.2.1 18 = .ok (.ifCond .eq 6, 3) ∧ 18 + 3 = 21 ∧ ((18 : Nat) : Int) + (6) = ((24 : Nat) : Int) := ⟨by decide +kernel, rfl, by decide⟩
theorem d_LBWorker_workPair_21 : decode mm_LBWorker_workPair.2.1 21 = .ok (.lload 4, 2) ∧ 21 + 2 = 23 := ⟨by decide +kernel, rfl⟩
theorem d_LBWorker_workPair_23 : decode mm_LBWorker_workPair.2.1 23 = .ok (.lreturn, 1) := by decide +kernel
theorem d_LBWorker_workPair_24 : decode mm_LBWorker_workPair.2.1 24 = .ok (.aload_n 0, 1) ∧ 24 + 1 = 25 := ⟨by decide +kernel, rfl⟩
theorem d_LBWorker_workPair_25 : decode mm_LBWorker_workPair.2.1 25 = .ok (.aload_n 1, 1) ∧ 25 + 1 = 26 := ⟨by decide +kernel, rfl⟩
theorem d_LBWorker_workPair_26 : decode mm_LBWorker_workPair.2.1 26 = .ok (.aload_n 1, 1) ∧ 26 + 1 = 27 := ⟨by decide +kernel, rfl⟩
theorem d_LBWorker_workPair_27 : decode mm_LBWorker_workPair.2.1 27 = .ok (.iload_n 2, 1) ∧ 27 + 1 = 28 := ⟨by decide +kernel, rfl⟩
theorem d_LBWorker_workPair_28 : decode mm_LBWorker_workPair.2.1 28 = .ok (.iconst 1, 1) ∧ 28 + 1 = 29 := ⟨by decide +kernel, rfl⟩
theorem d_LBWorker_workPair_29 : decode mm_LBWorker_workPair.2.1 29 = .ok (.iadd, 1) ∧ 29 + 1 = 30 := ⟨by decide +kernel, rfl⟩
theorem d_LBWorker_workPair_30 : decode mm_LBWorker_workPair.2.1 30 = .ok (.invokevirtual 106, 3) ∧ 30 + 3 = 33 := ⟨by decide +kernel, rfl⟩
theorem d_LBWorker_workPair_33 : decode mm_LBWorker_workPair.2.1 33 = .ok (.iload_n 3, 1) ∧ 33 + 1 = 34 := ⟨by decide +kernel, rfl⟩
theorem d_LBWorker_workPair_34 : decode mm_LBWorker_workPair.2.1 34 = .ok (.iconst 1, 1) ∧ 34 + 1 = 35 := ⟨by decide +kernel, rfl⟩
theorem d_LBWorker_workPair_35 : decode mm_LBWorker_workPair.2.1 35 = .ok (.iadd, 1) ∧ 35 + 1 = 36 := ⟨by decide +kernel, rfl⟩
theorem d_LBWorker_workPair_36 : decode mm_LBWorker_workPair.2.1 36 = .ok (.invokevirtual 64, 3) ∧ 36 + 3 = 39 := ⟨by decide +kernel, rfl⟩
theorem d_LBWorker_workPair_39 : decode mm_LBWorker_workPair.2.1 39 = .ok (.lstore 6, 2) ∧ 39 + 2 = 41 := ⟨by decide +kernel, rfl⟩
theorem d_LBWorker_workPair_41 : decode mm_LBWorker_workPair.2.1 41 = .ok (.lload 6, 2) ∧ 41 + 2 = 43 := ⟨by decide +kernel, rfl⟩
theorem d_LBWorker_workPair_43 : decode mm_LBWorker_workPair.2.1 43 = .ok (.invokestatic 53, 3) ∧ 43 + 3 = 46 := ⟨by decide +kernel, rfl⟩
theorem d_LBWorker_workPair_46 : decode mm_LBWorker_workPair.2.1 46 = .ok (.ifCond .eq 6, 3) ∧ 46 + 3 = 49 ∧ ((46 : Nat) : Int) + (6) = ((52 : Nat) : Int) := ⟨by decide +kernel, rfl, by decide⟩
theorem d_LBWorker_workPair_49 : decode mm_LBWorker_workPair.2.1 49 = .ok (.lload 6, 2) ∧ 49 + 2 = 51 := ⟨by decide +kernel, rfl⟩
theorem d_LBWorker_workPair_51 : decode mm_LBWorker_workPair.2.1 51 = .ok (.lreturn, 1) := by decide +kernel
theorem d_LBWorker_workPair_52 : decode mm_LBWorker_workPair.2.1 52 = .ok (.lload 4, 2) ∧ 52 + 2 = 54 := ⟨by decide +kernel, rfl⟩
theorem d_LBWorker_workPair_54 : decode mm_LBWorker_workPair.2.1 54 = .ok (.invokestatic 109, 3) ∧ 54 + 3 = 57 := ⟨by decide +kernel, rfl⟩
theorem d_LBWorker_workPair_57 : decode mm_LBWorker_workPair.2.1 57 = .ok (.ifCond .ne 11, 3) ∧ 57 + 3 = 60 ∧ ((57 : Nat) : Int) + (11) = ((68 : Nat) : Int) := ⟨by decide +kernel, rfl, by decide⟩
theorem d_LBWorker_workPair_60 : decode mm_LBWorker_workPair.2.1 60 = .ok (.lload 6, 2) ∧ 60 + 2 = 62 := ⟨by decide +kernel, rfl⟩
theorem d_LBWorker_workPair_62 : decode mm_LBWorker_workPair.2.1 62 = .ok (.invokestatic 109, 3) ∧ 62 + 3 = 65 := ⟨by decide +kernel, rfl⟩
theorem d_LBWorker_workPair_65 : decode mm_LBWorker_workPair.2.1 65 = .ok (.ifCond .eq 7, 3) ∧ 65 + 3 = 68 ∧ ((65 : Nat) : Int) + (7) = ((72 : Nat) : Int) := ⟨by decide +kernel, rfl, by decide⟩
theorem d_LBWorker_workPair_68 : decode mm_LBWorker_workPair.2.1 68 = .ok (.ldc2_w 112, 3) ∧ 68 + 3 = 71 := ⟨by decide +kernel, rfl⟩
theorem d_LBWorker_workPair_71 : decode mm_LBWorker_workPair.2.1 71 = .ok (.lreturn, 1) := by decide +kernel
theorem d_LBWorker_workPair_72 : decode mm_LBWorker_workPair.2.1 72 = .ok (.aload_n 1, 1) ∧ 72 + 1 = 73 := ⟨by decide +kernel, rfl⟩
theorem d_LBWorker_workPair_73 : decode mm_LBWorker_workPair.2.1 73 = .ok (.iload_n 2, 1) ∧ 73 + 1 = 74 := ⟨by decide +kernel, rfl⟩
theorem d_LBWorker_workPair_74 : decode mm_LBWorker_workPair.2.1 74 = .ok (.invokevirtual 70, 3) ∧ 74 + 3 = 77 := ⟨by decide +kernel, rfl⟩
theorem d_LBWorker_workPair_77 : decode mm_LBWorker_workPair.2.1 77 = .ok (.lload 4, 2) ∧ 77 + 2 = 79 := ⟨by decide +kernel, rfl⟩
theorem d_LBWorker_workPair_79 : decode mm_LBWorker_workPair.2.1 79 = .ok (.l2i, 1) ∧ 79 + 1 = 80 := ⟨by decide +kernel, rfl⟩
theorem d_LBWorker_workPair_80 : decode mm_LBWorker_workPair.2.1 80 = .ok (.lload 6, 2) ∧ 80 + 2 = 82 := ⟨by decide +kernel, rfl⟩
theorem d_LBWorker_workPair_82 : decode mm_LBWorker_workPair.2.1 82 = .ok (.l2i, 1) ∧ 82 + 1 = 83 := ⟨by decide +kernel, rfl⟩
theorem d_LBWorker_workPair_83 : decode mm_LBWorker_workPair.2.1 83 = .ok (.invokestatic 114, 3) ∧ 83 + 3 = 86 := ⟨by decide +kernel, rfl⟩
theorem d_LBWorker_workPair_86 : decode mm_LBWorker_workPair.2.1 86 = .ok (.i2l, 1) ∧ 86 + 1 = 87 := ⟨by decide +kernel, rfl⟩
theorem d_LBWorker_workPair_87 : decode mm_LBWorker_workPair.2.1 87 = .ok (.lreturn, 1) := by decide +kernel
theorem d_LBWorker_combine_0 : decode mm_LBWorker_combine.2.1 0 = .ok (.iload_n 0, 1) ∧ 0 + 1 = 1 := ⟨by decide +kernel, rfl⟩
theorem d_LBWorker_combine_1 : decode mm_LBWorker_combine.2.1 1 = .ok (.tableswitch 43 42 45 #[39, 31, 43, 35], 31) := by decide +kernel
theorem d_LBWorker_combine_32 : decode mm_LBWorker_combine.2.1 32 = .ok (.iload_n 1, 1) ∧ 32 + 1 = 33 := ⟨by decide +kernel, rfl⟩
theorem d_LBWorker_combine_33 : decode mm_LBWorker_combine.2.1 33 = .ok (.iload_n 2, 1) ∧ 33 + 1 = 34 := ⟨by decide +kernel, rfl⟩
theorem d_LBWorker_combine_34 : decode mm_LBWorker_combine.2.1 34 = .ok (.iadd, 1) ∧ 34 + 1 = 35 := ⟨by decide +kernel, rfl⟩
theorem d_LBWorker_combine_35 : decode mm_LBWorker_combine.2.1 35 = .ok (.ireturn, 1) := by decide +kernel
theorem d_LBWorker_combine_36 : decode mm_LBWorker_combine.2.1 36 = .ok (.iload_n 1, 1) ∧ 36 + 1 = 37 := ⟨by decide +kernel, rfl⟩
theorem d_LBWorker_combine_37 : decode mm_LBWorker_combine.2.1 37 = .ok (.iload_n 2, 1) ∧ 37 + 1 = 38 := ⟨by decide +kernel, rfl⟩
theorem d_LBWorker_combine_38 : decode mm_LBWorker_combine.2.1 38 = .ok (.isub, 1) ∧ 38 + 1 = 39 := ⟨by decide +kernel, rfl⟩
theorem d_LBWorker_combine_39 : decode mm_LBWorker_combine.2.1 39 = .ok (.ireturn, 1) := by decide +kernel
theorem d_LBWorker_combine_40 : decode mm_LBWorker_combine.2.1 40 = .ok (.iload_n 1, 1) ∧ 40 + 1 = 41 := ⟨by decide +kernel, rfl⟩
theorem d_LBWorker_combine_41 : decode mm_LBWorker_combine.2.1 41 = .ok (.iload_n 2, 1) ∧ 41 + 1 = 42 := ⟨by decide +kernel, rfl⟩
theorem d_LBWorker_combine_42 : decode mm_LBWorker_combine.2.1 42 = .ok (.imul, 1) ∧ 42 + 1 = 43 := ⟨by decide +kernel, rfl⟩
theorem d_LBWorker_combine_43 : decode mm_LBWorker_combine.2.1 43 = .ok (.ireturn, 1) := by decide +kernel
theorem d_LBWorker_combine_44 : decode mm_LBWorker_combine.2.1 44 = .ok (.iload_n 1, 1) ∧ 44 + 1 = 45 := ⟨by decide +kernel, rfl⟩
theorem d_LBWorker_combine_45 : decode mm_LBWorker_combine.2.1 45 = .ok (.iload_n 2, 1) ∧ 45 + 1 = 46 := ⟨by decide +kernel, rfl⟩
theorem d_LBWorker_combine_46 : decode mm_LBWorker_combine.2.1 46 = .ok (.if_icmp .ge 7, 3) ∧ 46 + 3 = 49 ∧ ((46 : Nat) : Int) + (7) = ((53 : Nat) : Int) := ⟨by decide +kernel, rfl, by decide⟩
theorem d_LBWorker_combine_49 : decode mm_LBWorker_combine.2.1 49 = .ok (.iconst 1, 1) ∧ 49 + 1 = 50 := ⟨by decide +kernel, rfl⟩
theorem d_LBWorker_combine_50 : decode mm_LBWorker_combine.2.1 50 = .ok (.goto 4, 3) ∧ 50 + 3 = 53 ∧ ((50 : Nat) : Int) + (4) = ((54 : Nat) : Int) := ⟨by decide +kernel, rfl, by decide⟩
theorem d_LBWorker_combine_53 : decode mm_LBWorker_combine.2.1 53 = .ok (.iconst 0, 1) ∧ 53 + 1 = 54 := ⟨by decide +kernel, rfl⟩
theorem d_LBWorker_combine_54 : decode mm_LBWorker_combine.2.1 54 = .ok (.ireturn, 1) := by decide +kernel
theorem d_LBWorker_workChoice_0 : decode mm_LBWorker_workChoice.2.1 0 = .ok (.aload_n 0, 1) ∧ 0 + 1 = 1 := ⟨by decide +kernel, rfl⟩
theorem d_LBWorker_workChoice_1 : decode mm_LBWorker_workChoice.2.1 1 = .ok (.aload_n 1, 1) ∧ 1 + 1 = 2 := ⟨by decide +kernel, rfl⟩
theorem d_LBWorker_workChoice_2 : decode mm_LBWorker_workChoice.2.1 2 = .ok (.iload_n 2, 1) ∧ 2 + 1 = 3 := ⟨by decide +kernel, rfl⟩
theorem d_LBWorker_workChoice_3 : decode mm_LBWorker_workChoice.2.1 3 = .ok (.iconst 1, 1) ∧ 3 + 1 = 4 := ⟨by decide +kernel, rfl⟩
theorem d_LBWorker_workChoice_4 : decode mm_LBWorker_workChoice.2.1 4 = .ok (.iadd, 1) ∧ 4 + 1 = 5 := ⟨by decide +kernel, rfl⟩
theorem d_LBWorker_workChoice_5 : decode mm_LBWorker_workChoice.2.1 5 = .ok (.iload_n 3, 1) ∧ 5 + 1 = 6 := ⟨by decide +kernel, rfl⟩
theorem d_LBWorker_workChoice_6 : decode mm_LBWorker_workChoice.2.1 6 = .ok (.iconst 1, 1) ∧ 6 + 1 = 7 := ⟨by decide +kernel, rfl⟩
theorem d_LBWorker_workChoice_7 : decode mm_LBWorker_workChoice.2.1 7 = .ok (.iadd, 1) ∧ 7 + 1 = 8 := ⟨by decide +kernel, rfl⟩
theorem d_LBWorker_workChoice_8 : decode mm_LBWorker_workChoice.2.1 8 = .ok (.invokevirtual 64, 3) ∧ 8 + 3 = 11 := ⟨by decide +kernel, rfl⟩
theorem d_LBWorker_workChoice_11 : decode mm_LBWorker_workChoice.2.1 11 = .ok (.lstore 4, 2) ∧ 11 + 2 = 13 := ⟨by decide +kernel, rfl⟩
theorem d_LBWorker_workChoice_13 : decode mm_LBWorker_workChoice.2.1 13 = .ok (.lload 4, 2) ∧ 13 + 2 = 15 := ⟨by decide +kernel, rfl⟩
theorem d_LBWorker_workChoice_15 : decode mm_LBWorker_workChoice.2.1 15 = .ok (.invokestatic 53, 3) ∧ 15 + 3 = 18 := ⟨by decide +kernel, rfl⟩
theorem d_LBWorker_workChoice_18 : decode mm_LBWorker_workChoice.2.1 18 = .ok (.ifCond .eq 6, 3) ∧ 18 + 3 = 21 ∧ ((18 : Nat) : Int) + (6) = ((24 : Nat) : Int) := ⟨by decide +kernel, rfl, by decide⟩
theorem d_LBWorker_workChoice_21 : decode mm_LBWorker_workChoice.2.1 21 = .ok (.lload 4, 2) ∧ 21 + 2 = 23 := ⟨by decide +kernel, rfl⟩
theorem d_LBWorker_workChoice_23 : decode mm_LBWorker_workChoice.2.1 23 = .ok (.lreturn, 1) := by decide +kernel
theorem d_LBWorker_workChoice_24 : decode mm_LBWorker_workChoice.2.1 24 = .ok (.lload 4, 2) ∧ 24 + 2 = 26 := ⟨by decide +kernel, rfl⟩
theorem d_LBWorker_workChoice_26 : decode mm_LBWorker_workChoice.2.1 26 = .ok (.invokestatic 109, 3) ∧ 26 + 3 = 29 := ⟨by decide +kernel, rfl⟩
theorem d_LBWorker_workChoice_29 : decode mm_LBWorker_workChoice.2.1 29 = .ok (.ifCond .eq 7, 3) ∧ 29 + 3 = 32 ∧ ((29 : Nat) : Int) + (7) = ((36 : Nat) : Int) := ⟨by decide +kernel, rfl, by decide⟩
theorem d_LBWorker_workChoice_32 : decode mm_LBWorker_workChoice.2.1 32 = .ok (.ldc2_w 112, 3) ∧ 32 + 3 = 35 := ⟨by decide +kernel, rfl⟩
theorem d_LBWorker_workChoice_35 : decode mm_LBWorker_workChoice.2.1 35 = .ok (.lreturn, 1) := by decide +kernel
theorem d_LBWorker_workChoice_36 : decode mm_LBWorker_workChoice.2.1 36 = .ok (.aload_n 1, 1) ∧ 36 + 1 = 37 := ⟨by decide +kernel, rfl⟩
theorem d_LBWorker_workChoice_37 : decode mm_LBWorker_workChoice.2.1 37 = .ok (.iload_n 2, 1) ∧ 37 + 1 = 38 := ⟨by decide +kernel, rfl⟩
theorem d_LBWorker_workChoice_38 : decode mm_LBWorker_workChoice.2.1 38 = .ok (.iconst 1, 1) ∧ 38 + 1 = 39 := ⟨by decide +kernel, rfl⟩
theorem d_LBWorker_workChoice_39 : decode mm_LBWorker_workChoice.2.1 39 = .ok (.iadd, 1) ∧ 39 + 1 = 40 := ⟨by decide +kernel, rfl⟩
theorem d_LBWorker_workChoice_40 : decode mm_LBWorker_workChoice.2.1 40 = .ok (.invokevirtual 106, 3) ∧ 40 + 3 = 43 := ⟨by decide +kernel, rfl⟩
theorem d_LBWorker_workChoice_43 : decode mm_LBWorker_workChoice.2.1 43 = .ok (.istore 6, 2) ∧ 43 + 2 = 45 := ⟨by decide +kernel, rfl⟩
theorem d_LBWorker_workChoice_45 : decode mm_LBWorker_workChoice.2.1 45 = .ok (.aload_n 0, 1) ∧ 45 + 1 = 46 := ⟨by decide +kernel, rfl⟩
theorem d_LBWorker_workChoice_46 : decode mm_LBWorker_workChoice.2.1 46 = .ok (.aload_n 1, 1) ∧ 46 + 1 = 47 := ⟨by decide +kernel, rfl⟩
theorem d_LBWorker_workChoice_47 : decode mm_LBWorker_workChoice.2.1 47 = .ok (.lload 4, 2) ∧ 47 + 2 = 49 := ⟨by decide +kernel, rfl⟩
theorem d_LBWorker_workChoice_49 : decode mm_LBWorker_workChoice.2.1 49 = .ok (.lconst 0, 1) ∧ 49 + 1 = 50 := ⟨by decide +kernel, rfl⟩
theorem d_LBWorker_workChoice_50 : decode mm_LBWorker_workChoice.2.1 50 = .ok (.lcmp, 1) ∧ 50 + 1 = 51 := ⟨by decide +kernel, rfl⟩
theorem d_LBWorker_workChoice_51 : decode mm_LBWorker_workChoice.2.1 51 = .ok (.ifCond .eq 8, 3) ∧ 51 + 3 = 54 ∧ ((51 : Nat) : Int) + (8) = ((59 : Nat) : Int) := ⟨by decide +kernel, rfl, by decide⟩
theorem d_LBWorker_workChoice_54 : decode mm_LBWorker_workChoice.2.1 54 = .ok (.iload 6, 2) ∧ 54 + 2 = 56 := ⟨by decide +kernel, rfl⟩
theorem d_LBWorker_workChoice_56 : decode mm_LBWorker_workChoice.2.1 56 = .ok (.goto 9, 3) ∧ 56 + 3 = 59 ∧ ((56 : Nat) : Int) + (9) = ((65 : Nat) : Int) := ⟨by decide +kernel, rfl, by decide⟩
theorem d_LBWorker_workChoice_59 : decode mm_LBWorker_workChoice.2.1 59 = .ok (.aload_n 1, 1) ∧ 59 + 1 = 60 := ⟨by decide +kernel, rfl⟩
theorem d_LBWorker_workChoice_60 : decode mm_LBWorker_workChoice.2.1 60 = .ok (.iload 6, 2) ∧ 60 + 2 = 62 := ⟨by decide +kernel, rfl⟩
theorem d_LBWorker_workChoice_62 : decode mm_LBWorker_workChoice.2.1 62 = .ok (.invokevirtual 106, 3) ∧ 62 + 3 = 65 := ⟨by decide +kernel, rfl⟩
theorem d_LBWorker_workChoice_65 : decode mm_LBWorker_workChoice.2.1 65 = .ok (.iload_n 3, 1) ∧ 65 + 1 = 66 := ⟨by decide +kernel, rfl⟩
theorem d_LBWorker_workChoice_66 : decode mm_LBWorker_workChoice.2.1 66 = .ok (.iconst 1, 1) ∧ 66 + 1 = 67 := ⟨by decide +kernel, rfl⟩
theorem d_LBWorker_workChoice_67 : decode mm_LBWorker_workChoice.2.1 67 = .ok (.iadd, 1) ∧ 67 + 1 = 68 := ⟨by decide +kernel, rfl⟩
theorem d_LBWorker_workChoice_68 : decode mm_LBWorker_workChoice.2.1 68 = .ok (.invokevirtual 64, 3) ∧ 68 + 3 = 71 := ⟨by decide +kernel, rfl⟩
theorem d_LBWorker_workChoice_71 : decode mm_LBWorker_workChoice.2.1 71 = .ok (.lreturn, 1) := by decide +kernel
theorem d_LBWorker_workAbort_0 : decode mm_LBWorker_workAbort.2.1 0 = .ok (.aload_n 0, 1) ∧ 0 + 1 = 1 := ⟨by decide +kernel, rfl⟩
theorem d_LBWorker_workAbort_1 : decode mm_LBWorker_workAbort.2.1 1 = .ok (.aload_n 1, 1) ∧ 1 + 1 = 2 := ⟨by decide +kernel, rfl⟩
theorem d_LBWorker_workAbort_2 : decode mm_LBWorker_workAbort.2.1 2 = .ok (.iload_n 2, 1) ∧ 2 + 1 = 3 := ⟨by decide +kernel, rfl⟩
theorem d_LBWorker_workAbort_3 : decode mm_LBWorker_workAbort.2.1 3 = .ok (.iconst 1, 1) ∧ 3 + 1 = 4 := ⟨by decide +kernel, rfl⟩
theorem d_LBWorker_workAbort_4 : decode mm_LBWorker_workAbort.2.1 4 = .ok (.iadd, 1) ∧ 4 + 1 = 5 := ⟨by decide +kernel, rfl⟩
theorem d_LBWorker_workAbort_5 : decode mm_LBWorker_workAbort.2.1 5 = .ok (.iload_n 3, 1) ∧ 5 + 1 = 6 := ⟨by decide +kernel, rfl⟩
theorem d_LBWorker_workAbort_6 : decode mm_LBWorker_workAbort.2.1 6 = .ok (.iconst 1, 1) ∧ 6 + 1 = 7 := ⟨by decide +kernel, rfl⟩
theorem d_LBWorker_workAbort_7 : decode mm_LBWorker_workAbort.2.1 7 = .ok (.iadd, 1) ∧ 7 + 1 = 8 := ⟨by decide +kernel, rfl⟩
theorem d_LBWorker_workAbort_8 : decode mm_LBWorker_workAbort.2.1 8 = .ok (.invokevirtual 64, 3) ∧ 8 + 3 = 11 := ⟨by decide +kernel, rfl⟩
theorem d_LBWorker_workAbort_11 : decode mm_LBWorker_workAbort.2.1 11 = .ok (.lstore 4, 2) ∧ 11 + 2 = 13 := ⟨by decide +kernel, rfl⟩
theorem d_LBWorker_workAbort_13 : decode mm_LBWorker_workAbort.2.1 13 = .ok (.lload 4, 2) ∧ 13 + 2 = 15 := ⟨by decide +kernel, rfl⟩
theorem d_LBWorker_workAbort_15 : decode mm_LBWorker_workAbort.2.1 15 = .ok (.invokestatic 53, 3) ∧ 15 + 3 = 18 := ⟨by decide +kernel, rfl⟩
theorem d_LBWorker_workAbort_18 : decode mm_LBWorker_workAbort.2.1 18 = .ok (.ifCond .eq 8, 3) ∧ 18 + 3 = 21 ∧ ((18 : Nat) : Int) + (8) = ((26 : Nat) : Int) := ⟨by decide +kernel, rfl, by decide⟩
theorem d_LBWorker_workAbort_21 : decode mm_LBWorker_workAbort.2.1 21 = .ok (.lload 4, 2) ∧ 21 + 2 = 23 := ⟨by decide +kernel, rfl⟩
theorem d_LBWorker_workAbort_23 : decode mm_LBWorker_workAbort.2.1 23 = .ok (.goto 6, 3) ∧ 23 + 3 = 26 ∧ ((23 : Nat) : Int) + (6) = ((29 : Nat) : Int) := ⟨by decide +kernel, rfl, by decide⟩
theorem d_LBWorker_workAbort_26 : decode mm_LBWorker_workAbort.2.1 26 = .ok (.ldc2_w 118, 3) ∧ 26 + 3 = 29 := ⟨by decide +kernel, rfl⟩
theorem d_LBWorker_workAbort_29 : decode mm_LBWorker_workAbort.2.1 29 = .ok (.lreturn, 1) := by decide +kernel
theorem d_LBWorker_workTry_0 : decode mm_LBWorker_workTry.2.1 0 = .ok (.aload_n 0, 1) ∧ 0 + 1 = 1 := ⟨by decide +kernel, rfl⟩
theorem d_LBWorker_workTry_1 : decode mm_LBWorker_workTry.2.1 1 = .ok (.aload_n 1, 1) ∧ 1 + 1 = 2 := ⟨by decide +kernel, rfl⟩
theorem d_LBWorker_workTry_2 : decode mm_LBWorker_workTry.2.1 2 = .ok (.iload_n 2, 1) ∧ 2 + 1 = 3 := ⟨by decide +kernel, rfl⟩
theorem d_LBWorker_workTry_3 : decode mm_LBWorker_workTry.2.1 3 = .ok (.iconst 1, 1) ∧ 3 + 1 = 4 := ⟨by decide +kernel, rfl⟩
theorem d_LBWorker_workTry_4 : decode mm_LBWorker_workTry.2.1 4 = .ok (.iadd, 1) ∧ 4 + 1 = 5 := ⟨by decide +kernel, rfl⟩
theorem d_LBWorker_workTry_5 : decode mm_LBWorker_workTry.2.1 5 = .ok (.iload_n 3, 1) ∧ 5 + 1 = 6 := ⟨by decide +kernel, rfl⟩
theorem d_LBWorker_workTry_6 : decode mm_LBWorker_workTry.2.1 6 = .ok (.iconst 1, 1) ∧ 6 + 1 = 7 := ⟨by decide +kernel, rfl⟩
theorem d_LBWorker_workTry_7 : decode mm_LBWorker_workTry.2.1 7 = .ok (.iadd, 1) ∧ 7 + 1 = 8 := ⟨by decide +kernel, rfl⟩
theorem d_LBWorker_workTry_8 : decode mm_LBWorker_workTry.2.1 8 = .ok (.invokevirtual 64, 3) ∧ 8 + 3 = 11 := ⟨by decide +kernel, rfl⟩
theorem d_LBWorker_workTry_11 : decode mm_LBWorker_workTry.2.1 11 = .ok (.lstore 4, 2) ∧ 11 + 2 = 13 := ⟨by decide +kernel, rfl⟩
theorem d_LBWorker_workTry_13 : decode mm_LBWorker_workTry.2.1 13 = .ok (.lload 4, 2) ∧ 13 + 2 = 15 := ⟨by decide +kernel, rfl⟩
theorem d_LBWorker_workTry_15 : decode mm_LBWorker_workTry.2.1 15 = .ok (.invokestatic 120, 3) ∧ 15 + 3 = 18 := ⟨by decide +kernel, rfl⟩
theorem d_LBWorker_workTry_18 : decode mm_LBWorker_workTry.2.1 18 = .ok (.ifCond .ne 6, 3) ∧ 18 + 3 = 21 ∧ ((18 : Nat) : Int) + (6) = ((24 : Nat) : Int) := ⟨by decide +kernel, rfl, by decide⟩
theorem d_LBWorker_workTry_21 : decode mm_LBWorker_workTry.2.1 21 = .ok (.lload 4, 2) ∧ 21 + 2 = 23 := ⟨by decide +kernel, rfl⟩
theorem d_LBWorker_workTry_23 : decode mm_LBWorker_workTry.2.1 23 = .ok (.lreturn, 1) := by decide +kernel
theorem d_LBWorker_workTry_24 : decode mm_LBWorker_workTry.2.1 24 = .ok (.aload_n 0, 1) ∧ 24 + 1 = 25 := ⟨by decide +kernel, rfl⟩
theorem d_LBWorker_workTry_25 : decode mm_LBWorker_workTry.2.1 25 = .ok (.dup, 1) ∧ 25 + 1 = 26 := ⟨by decide +kernel, rfl⟩
theorem d_LBWorker_workTry_26 : decode mm_LBWorker_workTry.2.1 26 = .ok (.getfield 49, 3) ∧ 26 + 3 = 29 := ⟨by decide +kernel, rfl⟩
theorem d_LBWorker_workTry_29 : decode mm_LBWorker_workTry.2.1 29 = .ok (.iconst 1, 1) ∧ 29 + 1 = 30 := ⟨by decide +kernel, rfl⟩
theorem d_LBWorker_workTry_30 : decode mm_LBWorker_workTry.2.1 30 = .ok (.iadd, 1) ∧ 30 + 1 = 31 := ⟨by decide +kernel, rfl⟩
theorem d_LBWorker_workTry_31 : decode mm_LBWorker_workTry.2.1 31 = .ok (.putfield 49, 3) ∧ 31 + 3 = 34 := ⟨by decide +kernel, rfl⟩
theorem d_LBWorker_workTry_34 : decode mm_LBWorker_workTry.2.1 34 = .ok (.aload_n 0, 1) ∧ 34 + 1 = 35 := ⟨by decide +kernel, rfl⟩
theorem d_LBWorker_workTry_35 : decode mm_LBWorker_workTry.2.1 35 = .ok (.aload_n 1, 1) ∧ 35 + 1 = 36 := ⟨by decide +kernel, rfl⟩
theorem d_LBWorker_workTry_36 : decode mm_LBWorker_workTry.2.1 36 = .ok (.aload_n 1, 1) ∧ 36 + 1 = 37 := ⟨by decide +kernel, rfl⟩
theorem d_LBWorker_workTry_37 : decode mm_LBWorker_workTry.2.1 37 = .ok (.iload_n 2, 1) ∧ 37 + 1 = 38 := ⟨by decide +kernel, rfl⟩
theorem d_LBWorker_workTry_38 : decode mm_LBWorker_workTry.2.1 38 = .ok (.iconst 1, 1) ∧ 38 + 1 = 39 := ⟨by decide +kernel, rfl⟩
theorem d_LBWorker_workTry_39 : decode mm_LBWorker_workTry.2.1 39 = .ok (.iadd, 1) ∧ 39 + 1 = 40 := ⟨by decide +kernel, rfl⟩
theorem d_LBWorker_workTry_40 : decode mm_LBWorker_workTry.2.1 40 = .ok (.invokevirtual 106, 3) ∧ 40 + 3 = 43 := ⟨by decide +kernel, rfl⟩
theorem d_LBWorker_workTry_43 : decode mm_LBWorker_workTry.2.1 43 = .ok (.iload_n 3, 1) ∧ 43 + 1 = 44 := ⟨by decide +kernel, rfl⟩
theorem d_LBWorker_workTry_44 : decode mm_LBWorker_workTry.2.1 44 = .ok (.iconst 1, 1) ∧ 44 + 1 = 45 := ⟨by decide +kernel, rfl⟩
theorem d_LBWorker_workTry_45 : decode mm_LBWorker_workTry.2.1 45 = .ok (.iadd, 1) ∧ 45 + 1 = 46 := ⟨by decide +kernel, rfl⟩
theorem d_LBWorker_workTry_46 : decode mm_LBWorker_workTry.2.1 46 = .ok (.invokevirtual 64, 3) ∧ 46 + 3 = 49 := ⟨by decide +kernel, rfl⟩
theorem d_LBWorker_workTry_49 : decode mm_LBWorker_workTry.2.1 49 = .ok (.lreturn, 1) := by decide +kernel
theorem d_LBWorker_canBeMadeGood_0 : decode mm_LBWorker_canBeMadeGood.2.1 0 = .ok (.lload_n 0, 1) ∧ 0 + 1 = 1 := ⟨by decide +kernel, rfl⟩
theorem d_LBWorker_canBeMadeGood_1 : decode mm_LBWorker_canBeMadeGood.2.1 1 = .ok (.ldc2_w 99, 3) ∧ 1 + 3 = 4 := ⟨by decide +kernel, rfl⟩
theorem d_LBWorker_canBeMadeGood_4 : decode mm_LBWorker_canBeMadeGood.2.1 4 = .ok (.lcmp, 1) ∧ 4 + 1 = 5 := ⟨by decide +kernel, rfl⟩
theorem d_LBWorker_canBeMadeGood_5 : decode mm_LBWorker_canBeMadeGood.2.1 5 = .ok (.ifCond .eq 27, 3) ∧ 5 + 3 = 8 ∧ ((5 : Nat) : Int) + (27) = ((32 : Nat) : Int) := ⟨by decide +kernel, rfl, by decide⟩
theorem d_LBWorker_canBeMadeGood_8 : decode mm_LBWorker_canBeMadeGood.2.1 8 = .ok (.lload_n 0, 1) ∧ 8 + 1 = 9 := ⟨by decide +kernel, rfl⟩
theorem d_LBWorker_canBeMadeGood_9 : decode mm_LBWorker_canBeMadeGood.2.1 9 = .ok (.ldc2_w 112, 3) ∧ 9 + 3 = 12 := ⟨by decide +kernel, rfl⟩
theorem d_LBWorker_canBeMadeGood_12 : decode mm_LBWorker_canBeMadeGood.2.1 12 = .ok (.lcmp, 1) ∧ 12 + 1 = 13 := ⟨by decide +kernel, rfl⟩
theorem d_LBWorker_canBeMadeGood_13 : decode mm_LBWorker_canBeMadeGood.2.1 13 = .ok (.ifCond .eq 19, 3) ∧ 13 + 3 = 16 ∧ ((13 : Nat) : Int) + (19) = ((32 : Nat) : Int) := ⟨by decide +kernel, rfl, by decide⟩
theorem d_LBWorker_canBeMadeGood_16 : decode mm_LBWorker_canBeMadeGood.2.1 16 = .ok (.lload_n 0, 1) ∧ 16 + 1 = 17 := ⟨by decide +kernel, rfl⟩
theorem d_LBWorker_canBeMadeGood_17 : decode mm_LBWorker_canBeMadeGood.2.1 17 = .ok (.ldc2_w 118, 3) ∧ 17 + 3 = 20 := ⟨by decide +kernel, rfl⟩
theorem d_LBWorker_canBeMadeGood_20 : decode mm_LBWorker_canBeMadeGood.2.1 20 = .ok (.lcmp, 1) ∧ 20 + 1 = 21 := ⟨by decide +kernel, rfl⟩
theorem d_LBWorker_canBeMadeGood_21 : decode mm_LBWorker_canBeMadeGood.2.1 21 = .ok (.ifCond .eq 11, 3) ∧ 21 + 3 = 24 ∧ ((21 : Nat) : Int) + (11) = ((32 : Nat) : Int) := ⟨by decide +kernel, rfl, by decide⟩
theorem d_LBWorker_canBeMadeGood_24 : decode mm_LBWorker_canBeMadeGood.2.1 24 = .ok (.lload_n 0, 1) ∧ 24 + 1 = 25 := ⟨by decide +kernel, rfl⟩
theorem d_LBWorker_canBeMadeGood_25 : decode mm_LBWorker_canBeMadeGood.2.1 25 = .ok (.ldc2_w 123, 3) ∧ 25 + 3 = 28 := ⟨by decide +kernel, rfl⟩
theorem d_LBWorker_canBeMadeGood_28 : decode mm_LBWorker_canBeMadeGood.2.1 28 = .ok (.lcmp, 1) ∧ 28 + 1 = 29 := ⟨by decide +kernel, rfl⟩
theorem d_LBWorker_canBeMadeGood_29 : decode mm_LBWorker_canBeMadeGood.2.1 29 = .ok (.ifCond .ne 7, 3) ∧ 29 + 3 = 32 ∧ ((29 : Nat) : Int) + (7) = ((36 : Nat) : Int) := ⟨by decide +kernel, rfl, by decide⟩
theorem d_LBWorker_canBeMadeGood_32 : decode mm_LBWorker_canBeMadeGood.2.1 32 = .ok (.iconst 1, 1) ∧ 32 + 1 = 33 := ⟨by decide +kernel, rfl⟩
theorem d_LBWorker_canBeMadeGood_33 : decode mm_LBWorker_canBeMadeGood.2.1 33 = .ok (.goto 4, 3) ∧ 33 + 3 = 36 ∧ ((33 : Nat) : Int) + (4) = ((37 : Nat) : Int) := ⟨by decide +kernel, rfl, by decide⟩
theorem d_LBWorker_canBeMadeGood_36 : decode mm_LBWorker_canBeMadeGood.2.1 36 = .ok (.iconst 0, 1) ∧ 36 + 1 = 37 := ⟨by decide +kernel, rfl⟩
theorem d_LBWorker_canBeMadeGood_37 : decode mm_LBWorker_canBeMadeGood.2.1 37 = .ok (.ireturn, 1) := by decide +kernel
theorem d_LBWorker_workPlan_0 : decode mm_LBWorker_workPlan.2.1 0 = .ok (.iload_n 3, 1) ∧ 0 + 1 = 1 := ⟨by decide +kernel, rfl⟩
theorem d_LBWorker_workPlan_1 : decode mm_LBWorker_workPlan.2.1 1 = .ok (.iconst 4, 1) ∧ 1 + 1 = 2 := ⟨by decide +kernel, rfl⟩
theorem d_LBWorker_workPlan_2 : decode mm_LBWorker_workPlan.2.1 2 = .ok (.imul, 1) ∧ 2 + 1 = 3 := ⟨by decide +kernel, rfl⟩
theorem d_LBWorker_workPlan_3 : decode mm_LBWorker_workPlan.2.1 3 = .ok (.istore 4, 2) ∧ 3 + 2 = 5 := ⟨by decide +kernel, rfl⟩
theorem d_LBWorker_workPlan_5 : decode mm_LBWorker_workPlan.2.1 5 = .ok (.iconst 0, 1) ∧ 5 + 1 = 6 := ⟨by decide +kernel, rfl⟩
theorem d_LBWorker_workPlan_6 : decode mm_LBWorker_workPlan.2.1 6 = .ok (.istore 5, 2) ∧ 6 + 2 = 8 := ⟨by decide +kernel, rfl⟩
theorem d_LBWorker_workPlan_8 : decode mm_LBWorker_workPlan.2.1 8 = .ok (.iload_n 2, 1) ∧ 8 + 1 = 9 := ⟨by decide +kernel, rfl⟩
theorem d_LBWorker_workPlan_9 : decode mm_LBWorker_workPlan.2.1 9 = .ok (.iconst 3, 1) ∧ 9 + 1 = 10 := ⟨by decide +kernel, rfl⟩
theorem d_LBWorker_workPlan_10 : decode mm_LBWorker_workPlan.2.1 10 = .ok (.iadd, 1) ∧ 10 + 1 = 11 := ⟨by decide +kernel, rfl⟩
theorem d_LBWorker_workPlan_11 : decode mm_LBWorker_workPlan.2.1 11 = .ok (.istore 6, 2) ∧ 11 + 2 = 13 := ⟨by decide +kernel, rfl⟩
theorem d_LBWorker_workPlan_13 : decode mm_LBWorker_workPlan.2.1 13 = .ok (.iload 5, 2) ∧ 13 + 2 = 15 := ⟨by decide +kernel, rfl⟩
theorem d_LBWorker_workPlan_15 : decode mm_LBWorker_workPlan.2.1 15 = .ok (.iconst 4, 1) ∧ 15 + 1 = 16 := ⟨by decide +kernel, rfl⟩
theorem d_LBWorker_workPlan_16 : decode mm_LBWorker_workPlan.2.1 16 = .ok (.if_icmp .ge 63, 3) ∧ 16 + 3 = 19 ∧ ((16 : Nat) : Int) + (63) = ((79 : Nat) : Int) := ⟨by decide +kernel, rfl, by decide⟩
theorem d_LBWorker_workPlan_19 : decode mm_LBWorker_workPlan.2.1 19 = .ok (.aload_n 1, 1) ∧ 19 + 1 = 20 := ⟨by decide +kernel, rfl⟩
theorem d_LBWorker_workPlan_20 : decode mm_LBWorker_workPlan.2.1 20 = .ok (.iload 6, 2) ∧ 20 + 2 = 22 := ⟨by decide +kernel, rfl⟩
theorem d_LBWorker_workPlan_22 : decode mm_LBWorker_workPlan.2.1 22 = .ok (.invokevirtual 70, 3) ∧ 22 + 3 = 25 := ⟨by decide +kernel, rfl⟩
theorem d_LBWorker_workPlan_25 : decode mm_LBWorker_workPlan.2.1 25 = .ok (.bipush 41, 2) ∧ 25 + 2 = 27 := ⟨by decide +kernel, rfl⟩
theorem d_LBWorker_workPlan_27 : decode mm_LBWorker_workPlan.2.1 27 = .ok (.if_icmp .eq 52, 3) ∧ 27 + 3 = 30 ∧ ((27 : Nat) : Int) + (52) = ((79 : Nat) : Int) := ⟨by decide +kernel, rfl, by decide⟩
theorem d_LBWorker_workPlan_30 : decode mm_LBWorker_workPlan.2.1 30 = .ok (.aload_n 0, 1) ∧ 30 + 1 = 31 := ⟨by decide +kernel, rfl⟩
theorem d_LBWorker_workPlan_31 : decode mm_LBWorker_workPlan.2.1 31 = .ok (.aload_n 1, 1) ∧ 31 + 1 = 32 := ⟨by decide +kernel, rfl⟩
theorem d_LBWorker_workPlan_32 : decode mm_LBWorker_workPlan.2.1 32 = .ok (.iload 6, 2) ∧ 32 + 2 = 34 := ⟨by decide +kernel, rfl⟩
theorem d_LBWorker_workPlan_34 : decode mm_LBWorker_workPlan.2.1 34 = .ok (.iload_n 3, 1) ∧ 34 + 1 = 35 := ⟨by decide +kernel, rfl⟩
theorem d_LBWorker_workPlan_35 : decode mm_LBWorker_workPlan.2.1 35 = .ok (.iconst 1, 1) ∧ 35 + 1 = 36 := ⟨by decide +kernel, rfl⟩
theorem d_LBWorker_workPlan_36 : decode mm_LBWorker_workPlan.2.1 36 = .ok (.iadd, 1) ∧ 36 + 1 = 37 := ⟨by decide +kernel, rfl⟩
theorem d_LBWorker_workPlan_37 : decode mm_LBWorker_workPlan.2.1 37 = .ok (.invokevirtual 64, 3) ∧ 37 + 3 = 40 := ⟨by decide +kernel, rfl⟩
theorem d_LBWorker_workPlan_40 : decode mm_LBWorker_workPlan.2.1 40 = .ok (.lstore 7, 2) ∧ 40 + 2 = 42 := ⟨by decide +kernel, rfl⟩
theorem d_LBWorker_workPlan_42 : decode mm_LBWorker_workPlan.2.1 42 = .ok (.lload 7, 2) ∧ 42 + 2 = 44 := ⟨by decide +kernel, rfl⟩
theorem d_LBWorker_workPlan_44 : decode mm_LBWorker_workPlan.2.1 44 = .ok (.invokestatic 53, 3) ∧ 44 + 3 = 47 := ⟨by decide +kernel, rfl⟩
theorem d_LBWorker_workPlan_47 : decode mm_LBWorker_workPlan.2.1 47 = .ok (.ifCond .eq 6, 3) ∧ 47 + 3 = 50 ∧ ((47 : Nat) : Int) + (6) = ((53 : Nat) : Int) := ⟨by decide +kernel, rfl, by decide⟩
theorem d_LBWorker_workPlan_50 : decode mm_LBWorker_workPlan.2.1 50 = .ok (.lload 7, 2) ∧ 50 + 2 = 52 := ⟨by decide +kernel, rfl⟩
theorem d_LBWorker_workPlan_52 : decode mm_LBWorker_workPlan.2.1 52 = .ok (.lreturn, 1) := by decide +kernel
theorem d_LBWorker_workPlan_53 : decode mm_LBWorker_workPlan.2.1 53 = .ok (.aload_n 0, 1) ∧ 53 + 1 = 54 := ⟨by decide +kernel, rfl⟩
theorem d_LBWorker_workPlan_54 : decode mm_LBWorker_workPlan.2.1 54 = .ok (.getfield 22, 3) ∧ 54 + 3 = 57 := ⟨by decide +kernel, rfl⟩
theorem d_LBWorker_workPlan_57 : decode mm_LBWorker_workPlan.2.1 57 = .ok (.iload 4, 2) ∧ 57 + 2 = 59 := ⟨by decide +kernel, rfl⟩
theorem d_LBWorker_workPlan_59 : decode mm_LBWorker_workPlan.2.1 59 = .ok (.iload 5, 2) ∧ 59 + 2 = 61 := ⟨by decide +kernel, rfl⟩
theorem d_LBWorker_workPlan_61 : decode mm_LBWorker_workPlan.2.1 61 = .ok (.iadd, 1) ∧ 61 + 1 = 62 := ⟨by decide +kernel, rfl⟩
theorem d_LBWorker_workPlan_62 : decode mm_LBWorker_workPlan.2.1 62 = .ok (.lload 7, 2) ∧ 62 + 2 = 64 := ⟨by decide +kernel, rfl⟩
theorem d_LBWorker_workPlan_64 : decode mm_LBWorker_workPlan.2.1 64 = .ok (.lastore, 1) ∧ 64 + 1 = 65 := ⟨by decide +kernel, rfl⟩
theorem d_LBWorker_workPlan_65 : decode mm_LBWorker_workPlan.2.1 65 = .ok (.iinc 5 1, 3) ∧ 65 + 3 = 68 := ⟨by decide +kernel, rfl⟩
theorem d_LBWorker_workPlan_68 : decode mm_LBWorker_workPlan.2.1 68 = .ok (.aload_n 1, 1) ∧ 68 + 1 = 69 := ⟨by decide +kernel, rfl⟩
theorem d_LBWorker_workPlan_69 : decode mm_LBWorker_workPlan.2.1 69 = .ok (.iload 6, 2) ∧ 69 + 2 = 71 := ⟨by decide +kernel, rfl⟩
theorem d_LBWorker_workPlan_71 : decode mm_LBWorker_workPlan.2.1 71 = .ok (.invokevirtual 106, 3) ∧ 71 + 3 = 74 := ⟨by decide +kernel, rfl⟩
theorem d_LBWorker_workPlan_74 : decode mm_LBWorker_workPlan.2.1 74 = .ok (.istore 6, 2) ∧ 74 + 2 = 76 := ⟨by decide +kernel, rfl⟩
theorem d_LBWorker_workPlan_76 : decode mm_LBWorker_workPlan.2.1 76 = .ok (.goto (-63), 3) ∧ 76 + 3 = 79 ∧ ((76 : Nat) : Int) + (-63) = ((13 : Nat) : Int) := ⟨by decide +kernel, rfl, by decide⟩
theorem d_LBWorker_workPlan_79 : decode mm_LBWorker_workPlan.2.1 79 = .ok (.aload_n 0, 1) ∧ 79 + 1 = 80 := ⟨by decide +kernel, rfl⟩
theorem d_LBWorker_workPlan_80 : decode mm_LBWorker_workPlan.2.1 80 = .ok (.getfield 9, 3) ∧ 80 + 3 = 83 := ⟨by decide +kernel, rfl⟩
theorem d_LBWorker_workPlan_83 : decode mm_LBWorker_workPlan.2.1 83 = .ok (.aload_n 1, 1) ∧ 83 + 1 = 84 := ⟨by decide +kernel, rfl⟩
theorem d_LBWorker_workPlan_84 : decode mm_LBWorker_workPlan.2.1 84 = .ok (.iload_n 2, 1) ∧ 84 + 1 = 85 := ⟨by decide +kernel, rfl⟩
theorem d_LBWorker_workPlan_85 : decode mm_LBWorker_workPlan.2.1 85 = .ok (.iconst 1, 1) ∧ 85 + 1 = 86 := ⟨by decide +kernel, rfl⟩
theorem d_LBWorker_workPlan_86 : decode mm_LBWorker_workPlan.2.1 86 = .ok (.iadd, 1) ∧ 86 + 1 = 87 := ⟨by decide +kernel, rfl⟩
theorem d_LBWorker_workPlan_87 : decode mm_LBWorker_workPlan.2.1 87 = .ok (.invokevirtual 70, 3) ∧ 87 + 3 = 90 := ⟨by decide +kernel, rfl⟩
theorem d_LBWorker_workPlan_90 : decode mm_LBWorker_workPlan.2.1 90 = .ok (.bipush 48, 2) ∧ 90 + 2 = 92 := ⟨by decide +kernel, rfl⟩
theorem d_LBWorker_workPlan_92 : decode mm_LBWorker_workPlan.2.1 92 = .ok (.isub, 1) ∧ 92 + 1 = 93 := ⟨by decide +kernel, rfl⟩
theorem d_LBWorker_workPlan_93 : decode mm_LBWorker_workPlan.2.1 93 = .ok (.aload_n 0, 1) ∧ 93 + 1 = 94 := ⟨by decide +kernel, rfl⟩
theorem d_LBWorker_workPlan_94 : decode mm_LBWorker_workPlan.2.1 94 = .ok (.getfield 22, 3) ∧ 94 + 3 = 97 := ⟨by decide +kernel, rfl⟩
theorem d_LBWorker_workPlan_97 : decode mm_LBWorker_workPlan.2.1 97 = .ok (.iload 4, 2) ∧ 97 + 2 = 99 := ⟨by decide +kernel, rfl⟩
theorem d_LBWorker_workPlan_99 : decode mm_LBWorker_workPlan.2.1 99 = .ok (.iload 5, 2) ∧ 99 + 2 = 101 := ⟨by decide +kernel, rfl⟩
theorem d_LBWorker_workPlan_101 : decode mm_LBWorker_workPlan.2.1 101 = .ok (.invokevirtual 125, 3) ∧ 101 + 3 = 104 := ⟨by decide +kernel, rfl⟩
theorem d_LBWorker_workPlan_104 : decode mm_LBWorker_workPlan.2.1 104 = .ok (.lreturn, 1) := by decide +kernel
theorem d_LBWorker_workResult_0 : decode mm_LBWorker_workResult.2.1 0 = .ok (.aload_n 0, 1) ∧ 0 + 1 = 1 := ⟨by decide +kernel, rfl⟩
theorem d_LBWorker_workResult_1 : decode mm_LBWorker_workResult.2.1 1 = .ok (.aload_n 1, 1) ∧ 1 + 1 = 2 := ⟨by decide +kernel, rfl⟩
theorem d_LBWorker_workResult_2 : decode mm_LBWorker_workResult.2.1 2 = .ok (.iload_n 2, 1) ∧ 2 + 1 = 3 := ⟨by decide +kernel, rfl⟩
theorem d_LBWorker_workResult_3 : decode mm_LBWorker_workResult.2.1 3 = .ok (.iconst 1, 1) ∧ 3 + 1 = 4 := ⟨by decide +kernel, rfl⟩
theorem d_LBWorker_workResult_4 : decode mm_LBWorker_workResult.2.1 4 = .ok (.iadd, 1) ∧ 4 + 1 = 5 := ⟨by decide +kernel, rfl⟩
theorem d_LBWorker_workResult_5 : decode mm_LBWorker_workResult.2.1 5 = .ok (.iload_n 3, 1) ∧ 5 + 1 = 6 := ⟨by decide +kernel, rfl⟩
theorem d_LBWorker_workResult_6 : decode mm_LBWorker_workResult.2.1 6 = .ok (.iconst 1, 1) ∧ 6 + 1 = 7 := ⟨by decide +kernel, rfl⟩
theorem d_LBWorker_workResult_7 : decode mm_LBWorker_workResult.2.1 7 = .ok (.iadd, 1) ∧ 7 + 1 = 8 := ⟨by decide +kernel, rfl⟩
theorem d_LBWorker_workResult_8 : decode mm_LBWorker_workResult.2.1 8 = .ok (.invokevirtual 64, 3) ∧ 8 + 3 = 11 := ⟨by decide +kernel, rfl⟩
theorem d_LBWorker_workResult_11 : decode mm_LBWorker_workResult.2.1 11 = .ok (.lstore 4, 2) ∧ 11 + 2 = 13 := ⟨by decide +kernel, rfl⟩
theorem d_LBWorker_workResult_13 : decode mm_LBWorker_workResult.2.1 13 = .ok (.lload 4, 2) ∧ 13 + 2 = 15 := ⟨by decide +kernel, rfl⟩
theorem d_LBWorker_workResult_15 : decode mm_LBWorker_workResult.2.1 15 = .ok (.invokestatic 53, 3) ∧ 15 + 3 = 18 := ⟨by decide +kernel, rfl⟩
theorem d_LBWorker_workResult_18 : decode mm_LBWorker_workResult.2.1 18 = .ok (.ifCond .eq 6, 3) ∧ 18 + 3 = 21 ∧ ((18 : Nat) : Int) + (6) = ((24 : Nat) : Int) := ⟨by decide +kernel, rfl, by decide⟩
theorem d_LBWorker_workResult_21 : decode mm_LBWorker_workResult.2.1 21 = .ok (.lload 4, 2) ∧ 21 + 2 = 23 := ⟨by decide +kernel, rfl⟩
theorem d_LBWorker_workResult_23 : decode mm_LBWorker_workResult.2.1 23 = .ok (.lreturn, 1) := by decide +kernel
theorem d_LBWorker_workResult_24 : decode mm_LBWorker_workResult.2.1 24 = .ok (.lload 4, 2) ∧ 24 + 2 = 26 := ⟨by decide +kernel, rfl⟩
theorem d_LBWorker_workResult_26 : decode mm_LBWorker_workResult.2.1 26 = .ok (.invokestatic 109, 3) ∧ 26 + 3 = 29 := ⟨by decide +kernel, rfl⟩
theorem d_LBWorker_workResult_29 : decode mm_LBWorker_workResult.2.1 29 = .ok (.ifCond .eq 17, 3) ∧ 29 + 3 = 32 ∧ ((29 : Nat) : Int) + (17) = ((46 : Nat) : Int) := ⟨by decide +kernel, rfl, by decide⟩
theorem d_LBWorker_workResult_32 : decode mm_LBWorker_workResult.2.1 32 = .ok (.aload_n 0, 1) ∧ 32 + 1 = 33 := ⟨by decide +kernel, rfl⟩
theorem d_LBWorker_workResult_33 : decode mm_LBWorker_workResult.2.1 33 = .ok (.getfield 9, 3) ∧ 33 + 3 = 36 := ⟨by decide +kernel, rfl⟩
theorem d_LBWorker_workResult_36 : decode mm_LBWorker_workResult.2.1 36 = .ok (.lload 4, 2) ∧ 36 + 2 = 38 := ⟨by decide +kernel, rfl⟩
theorem d_LBWorker_workResult_38 : decode mm_LBWorker_workResult.2.1 38 = .ok (.bipush 30, 2) ∧ 38 + 2 = 40 := ⟨by decide +kernel, rfl⟩
theorem d_LBWorker_workResult_40 : decode mm_LBWorker_workResult.2.1 40 = .ok (.invokevirtual 131, 3) ∧ 40 + 3 = 43 := ⟨by decide +kernel, rfl⟩
theorem d_LBWorker_workResult_43 : decode mm_LBWorker_workResult.2.1 43 = .ok (.goto 6, 3) ∧ 43 + 3 = 46 ∧ ((43 : Nat) : Int) + (6) = ((49 : Nat) : Int) := ⟨by decide +kernel, rfl, by decide⟩
theorem d_LBWorker_workResult_46 : decode mm_LBWorker_workResult.2.1 46 = .ok (.ldc2_w 112, 3) ∧ 46 + 3 = 49 := ⟨by decide +kernel, rfl⟩
theorem d_LBWorker_workResult_49 : decode mm_LBWorker_workResult.2.1 49 = .ok (.lreturn, 1) := by decide +kernel
