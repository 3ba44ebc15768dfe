/-! THE LAW: its code. -/
def mm_LW_law : mx_M := (x, code, 4, some .boolean)
def ri_0 : List Value := [.null, .null, .null, .null, .null, .null, .int 0, .int 0, .null, .null, .null, .int 0, .null, .null, .null, .null, .null, .int 0, .null, .int 0, .int 0, .int 0, .int 0, .long 0, .null, .null, .null, .null, .null, .null, .null, .null, .null, .null, .int 0, .int 0]
theorem mdf_6b : ∀ j, j < 36 → (parseFieldDescriptor (mxF_6 j).2.2.1).map defaultValue = ri_0[j]? := by decide +kernel
theorem kw_343 : Cond.classLink "LazyBuilderLaw" 7 "LazyBuilder" ∈ mx_S0.1 := mx_mem (List.mem_of_getElem? (i := 10) (by decide +kernel)) rfl
theorem kw_344 : Cond.instantiable "LazyBuilder" 5 ∈ mx_S0.1 := mx_mem (List.mem_of_getElem? (i := 11) (by decide +kernel)) rfl
theorem kw_345 : Cond.initialized "LazyBuilder" ∈ mx_S0.1 := mx_mem (List.mem_of_getElem? (i := 1) (by decide +kernel)) rfl
theorem kw_346 : Cond.classLink "LazyBuilderLaw" 10 "LazyBuilderModel" ∈ mx_S0.1 := mx_mem (List.mem_of_getElem? (i := 426) (by decide +kernel)) rfl
theorem kw_347 : Cond.instantiable "LazyBuilderModel" 36 ∈ mx_S0.1 := mx_mem (List.mem_of_getElem? (i := 427) (by decide +kernel)) rfl
theorem kw_348 : Cond.initialized "LazyBuilderModel" ∈ mx_S0.1 := mx_mem (List.mem_of_getElem? (i := 6) (by decide +kernel)) rfl
theorem kw_349 : Cond.methodLink "LazyBuilderLaw" 12 y_RM_init ∈ mx_S0.1 := mx_mem (List.mem_of_getElem? (i := 428) (by decide +kernel)) rfl
theorem kw_350 : Cond.instanceMethod y_RM_init ∈ mx_S0.1 := mx_mem (List.mem_of_getElem? (i := 429) (by decide +kernel)) rfl
theorem kw_351 : Cond.methodLink "LazyBuilderLaw" 9 y_LB_init ∈ mx_S0.1 := mx_mem (List.mem_of_getElem? (i := 12) (by decide +kernel)) rfl
theorem kw_352 : Cond.instanceMethod y_LB_init ∈ mx_S0.1 := mx_mem (List.mem_of_getElem? (i := 13) (by decide +kernel)) rfl
theorem kw_353 : Cond.methodLink "LazyBuilderLaw" 17 y_RM_type ∈ mx_S0.1 := mx_mem (List.mem_of_getElem? (i := 542) (by decide +kernel)) rfl
theorem kw_354 : Cond.methodLink "LazyBuilderLaw" 13 y_LB_type ∈ mx_S0.1 := mx_mem (List.mem_of_getElem? (i := 138) (by decide +kernel)) rfl
theorem kw_355 : Cond.instanceMethod y_LB_type ∈ mx_S0.1 := mx_mem (List.mem_of_getElem? (i := 139) (by decide +kernel)) rfl
theorem kw_356 : Cond.selects "LazyBuilder" y_LB_type y_LB_type ∈ mx_S0.1 := mx_mem (List.mem_of_getElem? (i := 140) (by decide +kernel)) rfl
theorem kw_357 : Cond.constantLong "LazyBuilderLaw" 18 4294967295 ∈ mx_S0.1 := mx_mem (List.mem_of_getElem? (i := 694) (by decide +kernel)) rfl
theorem kw_358 : Cond.methodLink "LazyBuilderLaw" 24 y_RM_types ∈ mx_S0.1 := mx_mem (List.mem_of_getElem? (i := 558) (by decide +kernel)) rfl
theorem kw_359 : Cond.instanceMethod y_RM_types ∈ mx_S0.1 := mx_mem (List.mem_of_getElem? (i := 559) (by decide +kernel)) rfl
theorem kw_360 : Cond.selects "LazyBuilderModel" y_RM_types y_RM_types ∈ mx_S0.1 := mx_mem (List.mem_of_getElem? (i := 560) (by decide +kernel)) rfl
theorem kw_361 : Cond.methodLink "LazyBuilderLaw" 20 y_LB_types ∈ mx_S0.1 := mx_mem (List.mem_of_getElem? (i := 158) (by decide +kernel)) rfl
theorem kw_362 : Cond.instanceMethod y_LB_types ∈ mx_S0.1 := mx_mem (List.mem_of_getElem? (i := 159) (by decide +kernel)) rfl
theorem kw_363 : Cond.selects "LazyBuilder" y_LB_types y_LB_types ∈ mx_S0.1 := mx_mem (List.mem_of_getElem? (i := 160) (by decide +kernel)) rfl
theorem kw_364 : Cond.methodLink "LazyBuilderLaw" 28 y_RM_define ∈ mx_S0.1 := mx_mem (List.mem_of_getElem? (i := 563) (by decide +kernel)) rfl
theorem kw_365 : Cond.instanceMethod y_RM_define ∈ mx_S0.1 := mx_mem (List.mem_of_getElem? (i := 564) (by decide +kernel)) rfl
theorem kw_366 : Cond.selects "LazyBuilderModel" y_RM_define y_RM_define ∈ mx_S0.1 := mx_mem (List.mem_of_getElem? (i := 565) (by decide +kernel)) rfl
theorem kw_367 : Cond.methodLink "LazyBuilderLaw" 25 y_LB_define ∈ mx_S0.1 := mx_mem (List.mem_of_getElem? (i := 162) (by decide +kernel)) rfl
theorem kw_368 : Cond.instanceMethod y_LB_define ∈ mx_S0.1 := mx_mem (List.mem_of_getElem? (i := 163) (by decide +kernel)) rfl
theorem kw_369 : Cond.selects "LazyBuilder" y_LB_define y_LB_define ∈ mx_S0.1 := mx_mem (List.mem_of_getElem? (i := 164) (by decide +kernel)) rfl
theorem kw_370 : Cond.methodLink "LazyBuilderLaw" 32 y_RM_undefine ∈ mx_S0.1 := mx_mem (List.mem_of_getElem? (i := 587) (by decide +kernel)) rfl
theorem kw_371 : Cond.instanceMethod y_RM_undefine ∈ mx_S0.1 := mx_mem (List.mem_of_getElem? (i := 588) (by decide +kernel)) rfl
theorem kw_372 : Cond.selects "LazyBuilderModel" y_RM_undefine y_RM_undefine ∈ mx_S0.1 := mx_mem (List.mem_of_getElem? (i := 589) (by decide +kernel)) rfl
theorem kw_373 : Cond.methodLink "LazyBuilderLaw" 29 y_LB_undefine ∈ mx_S0.1 := mx_mem (List.mem_of_getElem? (i := 220) (by decide +kernel)) rfl
theorem kw_374 : Cond.instanceMethod y_LB_undefine ∈ mx_S0.1 := mx_mem (List.mem_of_getElem? (i := 221) (by decide +kernel)) rfl
theorem kw_375 : Cond.selects "LazyBuilder" y_LB_undefine y_LB_undefine ∈ mx_S0.1 := mx_mem (List.mem_of_getElem? (i := 222) (by decide +kernel)) rfl
theorem kw_376 : Cond.methodLink "LazyBuilderLaw" 36 y_RM_force ∈ mx_S0.1 := mx_mem (List.mem_of_getElem? (i := 591) (by decide +kernel)) rfl
theorem kw_377 : Cond.instanceMethod y_RM_force ∈ mx_S0.1 := mx_mem (List.mem_of_getElem? (i := 592) (by decide +kernel)) rfl
theorem kw_378 : Cond.selects "LazyBuilderModel" y_RM_force y_RM_force ∈ mx_S0.1 := mx_mem (List.mem_of_getElem? (i := 593) (by decide +kernel)) rfl
theorem kw_379 : Cond.methodLink "LazyBuilderLaw" 33 y_LB_force ∈ mx_S0.1 := mx_mem (List.mem_of_getElem? (i := 228) (by decide +kernel)) rfl
theorem kw_380 : Cond.instanceMethod y_LB_force ∈ mx_S0.1 := mx_mem (List.mem_of_getElem? (i := 229) (by decide +kernel)) rfl
theorem kw_381 : Cond.selects "LazyBuilder" y_LB_force y_LB_force ∈ mx_S0.1 := mx_mem (List.mem_of_getElem? (i := 230) (by decide +kernel)) rfl
theorem kw_382 : Cond.methodLink "LazyBuilderLaw" 41 y_RM_show ∈ mx_S0.1 := mx_mem (List.mem_of_getElem? (i := 653) (by decide +kernel)) rfl
theorem kw_383 : Cond.instanceMethod y_RM_show ∈ mx_S0.1 := mx_mem (List.mem_of_getElem? (i := 654) (by decide +kernel)) rfl
theorem kw_384 : Cond.selects "LazyBuilderModel" y_RM_show y_RM_show ∈ mx_S0.1 := mx_mem (List.mem_of_getElem? (i := 655) (by decide +kernel)) rfl
theorem kw_385 : Cond.methodLink "LazyBuilderLaw" 37 y_LB_show ∈ mx_S0.1 := mx_mem (List.mem_of_getElem? (i := 364) (by decide +kernel)) rfl
theorem kw_386 : Cond.instanceMethod y_LB_show ∈ mx_S0.1 := mx_mem (List.mem_of_getElem? (i := 365) (by decide +kernel)) rfl
theorem kw_387 : Cond.selects "LazyBuilder" y_LB_show y_LB_show ∈ mx_S0.1 := mx_mem (List.mem_of_getElem? (i := 366) (by decide +kernel)) rfl
theorem kw_388 : Cond.methodLink "LazyBuilderLaw" 46 y_RM_value ∈ mx_S0.1 := mx_mem (List.mem_of_getElem? (i := 657) (by decide +kernel)) rfl
theorem kw_389 : Cond.instanceMethod y_RM_value ∈ mx_S0.1 := mx_mem (List.mem_of_getElem? (i := 658) (by decide +kernel)) rfl
theorem kw_390 : Cond.selects "LazyBuilderModel" y_RM_value y_RM_value ∈ mx_S0.1 := mx_mem (List.mem_of_getElem? (i := 659) (by decide +kernel)) rfl
theorem kw_391 : Cond.methodLink "LazyBuilderLaw" 42 y_LB_value ∈ mx_S0.1 := mx_mem (List.mem_of_getElem? (i := 373) (by decide +kernel)) rfl
theorem kw_392 : Cond.instanceMethod y_LB_value ∈ mx_S0.1 := mx_mem (List.mem_of_getElem? (i := 374) (by decide +kernel)) rfl
theorem kw_393 : Cond.selects "LazyBuilder" y_LB_value y_LB_value ∈ mx_S0.1 := mx_mem (List.mem_of_getElem? (i := 375) (by decide +kernel)) rfl
theorem kw_394 : Cond.methodLink "LazyBuilderLaw" 51 y_RM_builder ∈ mx_S0.1 := mx_mem (List.mem_of_getElem? (i := 662) (by decide +kernel)) rfl
theorem kw_395 : Cond.instanceMethod y_RM_builder ∈ mx_S0.1 := mx_mem (List.mem_of_getElem? (i := 663) (by decide +kernel)) rfl
theorem kw_396 : Cond.selects "LazyBuilderModel" y_RM_builder y_RM_builder ∈ mx_S0.1 := mx_mem (List.mem_of_getElem? (i := 664) (by decide +kernel)) rfl
theorem kw_397 : Cond.methodLink "LazyBuilderLaw" 47 y_LB_builder ∈ mx_S0.1 := mx_mem (List.mem_of_getElem? (i := 377) (by decide +kernel)) rfl
theorem kw_398 : Cond.instanceMethod y_LB_builder ∈ mx_S0.1 := mx_mem (List.mem_of_getElem? (i := 378) (by decide +kernel)) rfl
theorem kw_399 : Cond.selects "LazyBuilder" y_LB_builder y_LB_builder ∈ mx_S0.1 := mx_mem (List.mem_of_getElem? (i := 379) (by decide +kernel)) rfl
theorem kw_400 : Cond.methodLink "LazyBuilderLaw" 55 y_RM_build ∈ mx_S0.1 := mx_mem (List.mem_of_getElem? (i := 666) (by decide +kernel)) rfl
theorem kw_401 : Cond.instanceMethod y_RM_build ∈ mx_S0.1 := mx_mem (List.mem_of_getElem? (i := 667) (by decide +kernel)) rfl
theorem kw_402 : Cond.selects "LazyBuilderModel" y_RM_build y_RM_build ∈ mx_S0.1 := mx_mem (List.mem_of_getElem? (i := 668) (by decide +kernel)) rfl
theorem kw_403 : Cond.methodLink "LazyBuilderLaw" 52 y_LB_build ∈ mx_S0.1 := mx_mem (List.mem_of_getElem? (i := 381) (by decide +kernel)) rfl
theorem kw_404 : Cond.instanceMethod y_LB_build ∈ mx_S0.1 := mx_mem (List.mem_of_getElem? (i := 382) (by decide +kernel)) rfl
theorem kw_405 : Cond.selects "LazyBuilder" y_LB_build y_LB_build ∈ mx_S0.1 := mx_mem (List.mem_of_getElem? (i := 383) (by decide +kernel)) rfl
theorem kw_406 : Cond.methodLink "LazyBuilderLaw" 56 y_LB_root ∈ mx_S0.1 := mx_mem (List.mem_of_getElem? (i := 390) (by decide +kernel)) rfl
theorem kw_407 : Cond.instanceMethod y_LB_root ∈ mx_S0.1 := mx_mem (List.mem_of_getElem? (i := 391) (by decide +kernel)) rfl
theorem kw_408 : Cond.selects "LazyBuilder" y_LB_root y_LB_root ∈ mx_S0.1 := mx_mem (List.mem_of_getElem? (i := 392) (by decide +kernel)) rfl
theorem kw_409 : Cond.methodLink "LazyBuilderLaw" 60 y_RM_root ∈ mx_S0.1 := mx_mem (List.mem_of_getElem? (i := 674) (by decide +kernel)) rfl
theorem kw_410 : Cond.instanceMethod y_RM_root ∈ mx_S0.1 := mx_mem (List.mem_of_getElem? (i := 675) (by decide +kernel)) rfl
theorem kw_411 : Cond.selects "LazyBuilderModel" y_RM_root y_RM_root ∈ mx_S0.1 := mx_mem (List.mem_of_getElem? (i := 676) (by decide +kernel)) rfl
theorem kw_412 : Cond.methodLink "LazyBuilderLaw" 64 y_RM_collect ∈ mx_S0.1 := mx_mem (List.mem_of_getElem? (i := 678) (by decide +kernel)) rfl
theorem kw_413 : Cond.instanceMethod y_RM_collect ∈ mx_S0.1 := mx_mem (List.mem_of_getElem? (i := 679) (by decide +kernel)) rfl
theorem kw_414 : Cond.selects "LazyBuilderModel" y_RM_collect y_RM_collect ∈ mx_S0.1 := mx_mem (List.mem_of_getElem? (i := 680) (by decide +kernel)) rfl
theorem kw_415 : Cond.methodLink "LazyBuilderLaw" 61 y_LB_collect ∈ mx_S0.1 := mx_mem (List.mem_of_getElem? (i := 394) (by decide +kernel)) rfl
theorem kw_416 : Cond.instanceMethod y_LB_collect ∈ mx_S0.1 := mx_mem (List.mem_of_getElem? (i := 395) (by decide +kernel)) rfl
theorem kw_417 : Cond.selects "LazyBuilder" y_LB_collect y_LB_collect ∈ mx_S0.1 := mx_mem (List.mem_of_getElem? (i := 396) (by decide +kernel)) rfl
theorem kw_418 : Cond.methodLink "LazyBuilderLaw" 69 y_RM_input ∈ mx_S0.1 := mx_mem (List.mem_of_getElem? (i := 682) (by decide +kernel)) rfl
theorem kw_419 : Cond.instanceMethod y_RM_input ∈ mx_S0.1 := mx_mem (List.mem_of_getElem? (i := 683) (by decide +kernel)) rfl
theorem kw_420 : Cond.selects "LazyBuilderModel" y_RM_input y_RM_input ∈ mx_S0.1 := mx_mem (List.mem_of_getElem? (i := 684) (by decide +kernel)) rfl
theorem kw_421 : Cond.methodLink "LazyBuilderLaw" 65 y_LB_input ∈ mx_S0.1 := mx_mem (List.mem_of_getElem? (i := 406) (by decide +kernel)) rfl
theorem kw_422 : Cond.instanceMethod y_LB_input ∈ mx_S0.1 := mx_mem (List.mem_of_getElem? (i := 407) (by decide +kernel)) rfl
theorem kw_423 : Cond.selects "LazyBuilder" y_LB_input y_LB_input ∈ mx_S0.1 := mx_mem (List.mem_of_getElem? (i := 408) (by decide +kernel)) rfl
theorem kw_424 : Cond.methodLink "LazyBuilderLaw" 73 y_RM_plan ∈ mx_S0.1 := mx_mem (List.mem_of_getElem? (i := 686) (by decide +kernel)) rfl
theorem kw_425 : Cond.instanceMethod y_RM_plan ∈ mx_S0.1 := mx_mem (List.mem_of_getElem? (i := 687) (by decide +kernel)) rfl
theorem kw_426 : Cond.selects "LazyBuilderModel" y_RM_plan y_RM_plan ∈ mx_S0.1 := mx_mem (List.mem_of_getElem? (i := 688) (by decide +kernel)) rfl
theorem kw_427 : Cond.methodLink "LazyBuilderLaw" 70 y_LB_plan ∈ mx_S0.1 := mx_mem (List.mem_of_getElem? (i := 410) (by decide +kernel)) rfl
theorem kw_428 : Cond.instanceMethod y_LB_plan ∈ mx_S0.1 := mx_mem (List.mem_of_getElem? (i := 411) (by decide +kernel)) rfl
theorem kw_429 : Cond.selects "LazyBuilder" y_LB_plan y_LB_plan ∈ mx_S0.1 := mx_mem (List.mem_of_getElem? (i := 412) (by decide +kernel)) rfl
theorem kw_430 : Cond.methodLink "LazyBuilderLaw" 77 y_RM_count ∈ mx_S0.1 := mx_mem (List.mem_of_getElem? (i := 690) (by decide +kernel)) rfl
theorem kw_431 : Cond.instanceMethod y_RM_count ∈ mx_S0.1 := mx_mem (List.mem_of_getElem? (i := 691) (by decide +kernel)) rfl
theorem kw_432 : Cond.selects "LazyBuilderModel" y_RM_count y_RM_count ∈ mx_S0.1 := mx_mem (List.mem_of_getElem? (i := 692) (by decide +kernel)) rfl
theorem kw_433 : Cond.methodLink "LazyBuilderLaw" 74 y_LB_count ∈ mx_S0.1 := mx_mem (List.mem_of_getElem? (i := 414) (by decide +kernel)) rfl
theorem kw_434 : Cond.instanceMethod y_LB_count ∈ mx_S0.1 := mx_mem (List.mem_of_getElem? (i := 415) (by decide +kernel)) rfl
theorem kw_435 : Cond.selects "LazyBuilder" y_LB_count y_LB_count ∈ mx_S0.1 := mx_mem (List.mem_of_getElem? (i := 416) (by decide +kernel)) rfl
theorem d_LW_law_0 : decode mm_LW_law.2.1 0 = .ok (.new 7, 3) ∧ 0 + 3 = 3 := ⟨by decide +kernel, rfl⟩
theorem d_LW_law_3 : decode mm_LW_law.2.1 3 = .ok (.dup, 1) ∧ 3 + 1 = 4 := ⟨by decide +kernel, rfl⟩
theorem d_LW_law_4 : decode mm_LW_law.2.1 4 = .ok (.invokespecial 9, 3) ∧ 4 + 3 = 7 := ⟨by decide +kernel, rfl⟩
theorem d_LW_law_7 : decode mm_LW_law.2.1 7 = .ok (.astore_n 1, 1) ∧ 7 + 1 = 8 := ⟨by decide +kernel, rfl⟩
theorem d_LW_law_8 : decode mm_LW_law.2.1 8 = .ok (.new 10, 3) ∧ 8 + 3 = 11 := ⟨by decide +kernel, rfl⟩
theorem d_LW_law_11 : decode mm_LW_law.2.1 11 = .ok (.dup, 1) ∧ 11 + 1 = 12 := ⟨by decide +kernel, rfl⟩
theorem d_LW_law_12 : decode mm_LW_law.2.1 12 = .ok (.invokespecial 12, 3) ∧ 12 + 3 = 15 := ⟨by decide +kernel, rfl⟩
theorem d_LW_law_15 : decode mm_LW_law.2.1 15 = .ok (.astore_n 2, 1) ∧ 15 + 1 = 16 := ⟨by decide +kernel, rfl⟩
theorem d_LW_law_16 : decode mm_LW_law.2.1 16 = .ok (.iconst 0, 1) ∧ 16 + 1 = 17 := ⟨by decide +kernel, rfl⟩
theorem d_LW_law_17 : decode mm_LW_law.2.1 17 = .ok (.istore_n 3, 1) ∧ 17 + 1 = 18 := ⟨by decide +kernel, rfl⟩
theorem d_LW_law_18 : decode mm_LW_law.2.1 18 = .ok (.iload_n 3, 1) ∧ 18 + 1 = 19 := ⟨by decide +kernel, rfl⟩
theorem d_LW_law_19 : decode mm_LW_law.2.1 19 = .ok (.aload_n 0, 1) ∧ 19 + 1 = 20 := ⟨by decide +kernel, rfl⟩
theorem d_LW_law_20 : decode mm_LW_law.2.1 20 = .ok (.arraylength, 1) ∧ 20 + 1 = 21 := ⟨by decide +kernel, rfl⟩
theorem d_LW_law_21 : decode mm_LW_law.2.1 21 = .ok (.iconst 3, 1) ∧ 21 + 1 = 22 := ⟨by decide +kernel, rfl⟩
theorem d_LW_law_22 : decode mm_LW_law.2.1 22 = .ok (.isub, 1) ∧ 22 + 1 = 23 := ⟨by decide +kernel, rfl⟩
theorem d_LW_law_23 : decode mm_LW_law.2.1 23 = .ok (.if_icmp .gt 477, 3) ∧ 23 + 3 = 26 ∧ ((23 : Nat) : Int) + (477) = ((500 : Nat) : Int) := ⟨by decide +kernel, rfl, by decide⟩
theorem d_LW_law_26 : decode mm_LW_law.2.1 26 = .ok (.aload_n 0, 1) ∧ 26 + 1 = 27 := ⟨by decide +kernel, rfl⟩
theorem d_LW_law_27 : decode mm_LW_law.2.1 27 = .ok (.iload_n 3, 1) ∧ 27 + 1 = 28 := ⟨by decide +kernel, rfl⟩
theorem d_LW_law_28 : decode mm_LW_law.2.1 28 = .ok (.iaload, 1) ∧ 28 + 1 = 29 := ⟨by decide +kernel, rfl⟩
theorem d_LW_law_29 : decode mm_LW_law.2.1 29 = .ok (.bipush 15, 2) ∧ 29 + 2 = 31 := ⟨by decide +kernel, rfl⟩
theorem d_LW_law_31 : decode mm_LW_law.2.1 31 = .ok (.iand, 1) ∧ 31 + 1 = 32 := ⟨by decide +kernel, rfl⟩
theorem d_LW_law_32 : decode mm_LW_law.2.1 32 = .ok (.tableswitch 462 0 13 #[72, 95, 148, 171, 194, 217, 230, 254, 287, 310, 359, 372, 406, 439], 72) := by decide +kernel
theorem d_LW_law_104 : decode mm_LW_law.2.1 104 = .ok (.aload_n 1, 1) ∧ 104 + 1 = 105 := ⟨by decide +kernel, rfl⟩
theorem d_LW_law_105 : decode mm_LW_law.2.1 105 = .ok (.aload_n 0, 1) ∧ 105 + 1 = 106 := ⟨by decide +kernel, rfl⟩
theorem d_LW_law_106 : decode mm_LW_law.2.1 106 = .ok (.iload_n 3, 1) ∧ 106 + 1 = 107 := ⟨by decide +kernel, rfl⟩
theorem d_LW_law_107 : decode mm_LW_law.2.1 107 = .ok (.iconst 1, 1) ∧ 107 + 1 = 108 := ⟨by decide +kernel, rfl⟩
theorem d_LW_law_108 : decode mm_LW_law.2.1 108 = .ok (.iadd, 1) ∧ 108 + 1 = 109 := ⟨by decide +kernel, rfl⟩
theorem d_LW_law_109 : decode mm_LW_law.2.1 109 = .ok (.iaload, 1) ∧ 109 + 1 = 110 := ⟨by decide +kernel, rfl⟩
theorem d_LW_law_110 : decode mm_LW_law.2.1 110 = .ok (.invokevirtual 13, 3) ∧ 110 + 3 = 113 := ⟨by decide +kernel, rfl⟩
theorem d_LW_law_113 : decode mm_LW_law.2.1 113 = .ok (.aload_n 2, 1) ∧ 113 + 1 = 114 := ⟨by decide +kernel, rfl⟩
theorem d_LW_law_114 : decode mm_LW_law.2.1 114 = .ok (.aload_n 0, 1) ∧ 114 + 1 = 115 := ⟨by decide +kernel, rfl⟩
theorem d_LW_law_115 : decode mm_LW_law.2.1 115 = .ok (.iload_n 3, 1) ∧ 115 + 1 = 116 := ⟨by decide +kernel, rfl⟩
theorem d_LW_law_116 : decode mm_LW_law.2.1 116 = .ok (.iconst 1, 1) ∧ 116 + 1 = 117 := ⟨by decide +kernel, rfl⟩
theorem d_LW_law_117 : decode mm_LW_law.2.1 117 = .ok (.iadd, 1) ∧ 117 + 1 = 118 := ⟨by decide +kernel, rfl⟩
theorem d_LW_law_118 : decode mm_LW_law.2.1 118 = .ok (.iaload, 1) ∧ 118 + 1 = 119 := ⟨by decide +kernel, rfl⟩
theorem d_LW_law_119 : decode mm_LW_law.2.1 119 = .ok (.invokevirtual 17, 3) ∧ 119 + 3 = 122 := ⟨by decide +kernel, rfl⟩
theorem d_LW_law_122 : decode mm_LW_law.2.1 122 = .ok (.if_icmp .eq 372, 3) ∧ 122 + 3 = 125 ∧ ((122 : Nat) : Int) + (372) = ((494 : Nat) : Int) := ⟨by decide +kernel, rfl, by decide⟩
theorem d_LW_law_125 : decode mm_LW_law.2.1 125 = .ok (.iconst 0, 1) ∧ 125 + 1 = 126 := ⟨by decide +kernel, rfl⟩
theorem d_LW_law_126 : decode mm_LW_law.2.1 126 = .ok (.ireturn, 1) := by decide +kernel
theorem d_LW_law_127 : decode mm_LW_law.2.1 127 = .ok (.aload_n 1, 1) ∧ 127 + 1 = 128 := ⟨by decide +kernel, rfl⟩
theorem d_LW_law_128 : decode mm_LW_law.2.1 128 = .ok (.aload_n 0, 1) ∧ 128 + 1 = 129 := ⟨by decide +kernel, rfl⟩
theorem d_LW_law_129 : decode mm_LW_law.2.1 129 = .ok (.iload_n 3, 1) ∧ 129 + 1 = 130 := ⟨by decide +kernel, rfl⟩
theorem d_LW_law_130 : decode mm_LW_law.2.1 130 = .ok (.iconst 1, 1) ∧ 130 + 1 = 131 := ⟨by decide +kernel, rfl⟩
theorem d_LW_law_131 : decode mm_LW_law.2.1 131 = .ok (.iadd, 1) ∧ 131 + 1 = 132 := ⟨by decide +kernel, rfl⟩
theorem d_LW_law_132 : decode mm_LW_law.2.1 132 = .ok (.iaload, 1) ∧ 132 + 1 = 133 := ⟨by decide +kernel, rfl⟩
theorem d_LW_law_133 : decode mm_LW_law.2.1 133 = .ok (.i2l, 1) ∧ 133 + 1 = 134 := ⟨by decide +kernel, rfl⟩
theorem d_LW_law_134 : decode mm_LW_law.2.1 134 = .ok (.bipush 32, 2) ∧ 134 + 2 = 136 := ⟨by decide +kernel, rfl⟩
theorem d_LW_law_136 : decode mm_LW_law.2.1 136 = .ok (.lshl, 1) ∧ 136 + 1 = 137 := ⟨by decide +kernel, rfl⟩
theorem d_LW_law_137 : decode mm_LW_law.2.1 137 = .ok (.aload_n 0, 1) ∧ 137 + 1 = 138 := ⟨by decide +kernel, rfl⟩
theorem d_LW_law_138 : decode mm_LW_law.2.1 138 = .ok (.iload_n 3, 1) ∧ 138 + 1 = 139 := ⟨by decide +kernel, rfl⟩
theorem d_LW_law_139 : decode mm_LW_law.2.1 139 = .ok (.iconst 2, 1) ∧ 139 + 1 = 140 := ⟨by decide +kernel, rfl⟩
theorem d_LW_law_140 : decode mm_LW_law.2.1 140 = .ok (.iadd, 1) ∧ 140 + 1 = 141 := ⟨by decide +kernel, rfl⟩
theorem d_LW_law_141 : decode mm_LW_law.2.1 141 = .ok (.iaload, 1) ∧ 141 + 1 = 142 := ⟨by decide +kernel, rfl⟩
theorem d_LW_law_142 : decode mm_LW_law.2.1 142 = .ok (.i2l, 1) ∧ 142 + 1 = 143 := ⟨by decide +kernel, rfl⟩
theorem d_LW_law_143 : decode mm_LW_law.2.1 143 = .ok (.ldc2_w 18, 3) ∧ 143 + 3 = 146 := ⟨by decide +kernel, rfl⟩
theorem d_LW_law_146 : decode mm_LW_law.2.1 146 = .ok (.land, 1) ∧ 146 + 1 = 147 := ⟨by decide +kernel, rfl⟩
theorem d_LW_law_147 : decode mm_LW_law.2.1 147 = .ok (.lor, 1) ∧ 147 + 1 = 148 := ⟨by decide +kernel, rfl⟩
theorem d_LW_law_148 : decode mm_LW_law.2.1 148 = .ok (.invokevirtual 20, 3) ∧ 148 + 3 = 151 := ⟨by decide +kernel, rfl⟩
theorem d_LW_law_151 : decode mm_LW_law.2.1 151 = .ok (.aload_n 2, 1) ∧ 151 + 1 = 152 := ⟨by decide +kernel, rfl⟩
theorem d_LW_law_152 : decode mm_LW_law.2.1 152 = .ok (.aload_n 0, 1) ∧ 152 + 1 = 153 := ⟨by decide +kernel, rfl⟩
theorem d_LW_law_153 : decode mm_LW_law.2.1 153 = .ok (.iload_n 3, 1) ∧ 153 + 1 = 154 := ⟨by decide +kernel, rfl⟩
theorem d_LW_law_154 : decode mm_LW_law.2.1 154 = .ok (.iconst 1, 1) ∧ 154 + 1 = 155 := ⟨by decide +kernel, rfl⟩
theorem d_LW_law_155 : decode mm_LW_law.2.1 155 = .ok (.iadd, 1) ∧ 155 + 1 = 156 := ⟨by decide +kernel, rfl⟩
theorem d_LW_law_156 : decode mm_LW_law.2.1 156 = .ok (.iaload, 1) ∧ 156 + 1 = 157 := ⟨by decide +kernel, rfl⟩
theorem d_LW_law_157 : decode mm_LW_law.2.1 157 = .ok (.i2l, 1) ∧ 157 + 1 = 158 := ⟨by decide +kernel, rfl⟩
theorem d_LW_law_158 : decode mm_LW_law.2.1 158 = .ok (.bipush 32, 2) ∧ 158 + 2 = 160 := ⟨by decide +kernel, rfl⟩
theorem d_LW_law_160 : decode mm_LW_law.2.1 160 = .ok (.lshl, 1) ∧ 160 + 1 = 161 := ⟨by decide +kernel, rfl⟩
theorem d_LW_law_161 : decode mm_LW_law.2.1 161 = .ok (.aload_n 0, 1) ∧ 161 + 1 = 162 := ⟨by decide +kernel, rfl⟩
theorem d_LW_law_162 : decode mm_LW_law.2.1 162 = .ok (.iload_n 3, 1) ∧ 162 + 1 = 163 := ⟨by decide +kernel, rfl⟩
theorem d_LW_law_163 : decode mm_LW_law.2.1 163 = .ok (.iconst 2, 1) ∧ 163 + 1 = 164 := ⟨by decide +kernel, rfl⟩
theorem d_LW_law_164 : decode mm_LW_law.2.1 164 = .ok (.iadd, 1) ∧ 164 + 1 = 165 := ⟨by decide +kernel, rfl⟩
theorem d_LW_law_165 : decode mm_LW_law.2.1 165 = .ok (.iaload, 1) ∧ 165 + 1 = 166 := ⟨by decide +kernel, rfl⟩
theorem d_LW_law_166 : decode mm_LW_law.2.1 166 = .ok (.i2l, 1) ∧ 166 + 1 = 167 := ⟨by decide +kernel, rfl⟩
theorem d_LW_law_167 : decode mm_LW_law.2.1 167 = .ok (.ldc2_w 18, 3) ∧ 167 + 3 = 170 := ⟨by decide +kernel, rfl⟩
theorem d_LW_law_170 : decode mm_LW_law.2.1 170 = .ok (.land, 1) ∧ 170 + 1 = 171 := ⟨by decide +kernel, rfl⟩
theorem d_LW_law_171 : decode mm_LW_law.2.1 171 = .ok (.lor, 1) ∧ 171 + 1 = 172 := ⟨by decide +kernel, rfl⟩
theorem d_LW_law_172 : decode mm_LW_law.2.1 172 = .ok (.invokevirtual 24, 3) ∧ 172 + 3 = 175 := ⟨by decide +kernel, rfl⟩
theorem d_LW_law_175 : decode mm_LW_law.2.1 175 = .ok (.if_icmp .eq 319, 3) ∧ 175 + 3 = 178 ∧ ((175 : Nat) : Int) + (319) = ((494 : Nat) : Int) := ⟨by decide +kernel, rfl, by decide⟩
theorem d_LW_law_178 : decode mm_LW_law.2.1 178 = .ok (.iconst 0, 1) ∧ 178 + 1 = 179 := ⟨by decide +kernel, rfl⟩
theorem d_LW_law_179 : decode mm_LW_law.2.1 179 = .ok (.ireturn, 1) := by decide +kernel
theorem d_LW_law_180 : decode mm_LW_law.2.1 180 = .ok (.aload_n 1, 1) ∧ 180 + 1 = 181 := ⟨by decide +kernel, rfl⟩
theorem d_LW_law_181 : decode mm_LW_law.2.1 181 = .ok (.aload_n 0, 1) ∧ 181 + 1 = 182 := ⟨by decide +kernel, rfl⟩
theorem d_LW_law_182 : decode mm_LW_law.2.1 182 = .ok (.iload_n 3, 1) ∧ 182 + 1 = 183 := ⟨by decide +kernel, rfl⟩
theorem d_LW_law_183 : decode mm_LW_law.2.1 183 = .ok (.iconst 1, 1) ∧ 183 + 1 = 184 := ⟨by decide +kernel, rfl⟩
theorem d_LW_law_184 : decode mm_LW_law.2.1 184 = .ok (.iadd, 1) ∧ 184 + 1 = 185 := ⟨by decide +kernel, rfl⟩
theorem d_LW_law_185 : decode mm_LW_law.2.1 185 = .ok (.iaload, 1) ∧ 185 + 1 = 186 := ⟨by decide +kernel, rfl⟩
theorem d_LW_law_186 : decode mm_LW_law.2.1 186 = .ok (.invokevirtual 25, 3) ∧ 186 + 3 = 189 := ⟨by decide +kernel, rfl⟩
theorem d_LW_law_189 : decode mm_LW_law.2.1 189 = .ok (.aload_n 2, 1) ∧ 189 + 1 = 190 := ⟨by decide +kernel, rfl⟩
theorem d_LW_law_190 : decode mm_LW_law.2.1 190 = .ok (.aload_n 0, 1) ∧ 190 + 1 = 191 := ⟨by decide +kernel, rfl⟩
theorem d_LW_law_191 : decode mm_LW_law.2.1 191 = .ok (.iload_n 3, 1) ∧ 191 + 1 = 192 := ⟨by decide +kernel, rfl⟩
theorem d_LW_law_192 : decode mm_LW_law.2.1 192 = .ok (.iconst 1, 1) ∧ 192 + 1 = 193 := ⟨by decide +kernel, rfl⟩
theorem d_LW_law_193 : decode mm_LW_law.2.1 193 = .ok (.iadd, 1) ∧ 193 + 1 = 194 := ⟨by decide +kernel, rfl⟩
theorem d_LW_law_194 : decode mm_LW_law.2.1 194 = .ok (.iaload, 1) ∧ 194 + 1 = 195 := ⟨by decide +kernel, rfl⟩
theorem d_LW_law_195 : decode mm_LW_law.2.1 195 = .ok (.invokevirtual 28, 3) ∧ 195 + 3 = 198 := ⟨by decide +kernel, rfl⟩
theorem d_LW_law_198 : decode mm_LW_law.2.1 198 = .ok (.if_icmp .eq 296, 3) ∧ 198 + 3 = 201 ∧ ((198 : Nat) : Int) + (296) = ((494 : Nat) : Int) := ⟨by decide +kernel, rfl, by decide⟩
theorem d_LW_law_201 : decode mm_LW_law.2.1 201 = .ok (.iconst 0, 1) ∧ 201 + 1 = 202 := ⟨by decide +kernel, rfl⟩
theorem d_LW_law_202 : decode mm_LW_law.2.1 202 = .ok (.ireturn, 1) := by decide +kernel
theorem d_LW_law_203 : decode mm_LW_law.2.1 203 = .ok (.aload_n 1, 1) ∧ 203 + 1 = 204 := ⟨by decide +kernel, rfl⟩
theorem d_LW_law_204 : decode mm_LW_law.2.1 204 = .ok (.aload_n 0, 1) ∧ 204 + 1 = 205 := ⟨by decide +kernel, rfl⟩
theorem d_LW_law_205 : decode mm_LW_law.2.1 205 = .ok (.iload_n 3, 1) ∧ 205 + 1 = 206 := ⟨by decide +kernel, rfl⟩
theorem d_LW_law_206 : decode mm_LW_law.2.1 206 = .ok (.iconst 1, 1) ∧ 206 + 1 = 207 := ⟨by decide +kernel, rfl⟩
theorem d_LW_law_207 : decode mm_LW_law.2.1 207 = .ok (.iadd, 1) ∧ 207 + 1 = 208 := ⟨by decide +kernel, rfl⟩
theorem d_LW_law_208 : decode mm_LW_law.2.1 208 = .ok (.iaload, 1) ∧ 208 + 1 = 209 := ⟨by decide +kernel, rfl⟩
theorem d_LW_law_209 : decode mm_LW_law.2.1 209 = .ok (.invokevirtual 29, 3) ∧ 209 + 3 = 212 := ⟨by decide +kernel, rfl⟩
theorem d_LW_law_212 : decode mm_LW_law.2.1 212 = .ok (.aload_n 2, 1) ∧ 212 + 1 = 213 := ⟨by decide +kernel, rfl⟩
theorem d_LW_law_213 : decode mm_LW_law.2.1 213 = .ok (.aload_n 0, 1) ∧ 213 + 1 = 214 := ⟨by decide +kernel, rfl⟩
theorem d_LW_law_214 : decode mm_LW_law.2.1 214 = .ok (.iload_n 3, 1) ∧ 214 + 1 = 215 := ⟨by decide +kernel, rfl⟩
theorem d_LW_law_215 : decode mm_LW_law.2.1 215 = .ok (.iconst 1, 1) ∧ 215 + 1 = 216 := ⟨by decide +kernel, rfl⟩
theorem d_LW_law_216 : decode mm_LW_law.2.1 216 = .ok (.iadd, 1) ∧ 216 + 1 = 217 := ⟨by decide +kernel, rfl⟩
theorem d_LW_law_217 : decode mm_LW_law.2.1 217 = .ok (.iaload, 1) ∧ 217 + 1 = 218 := ⟨by decide +kernel, rfl⟩
theorem d_LW_law_218 : decode mm_LW_law.2.1 218 = .ok (.invokevirtual 32, 3) ∧ 218 + 3 = 221 := ⟨by decide +kernel, rfl⟩
theorem d_LW_law_221 : decode mm_LW_law.2.1 221 = .ok (.if_icmp .eq 273, 3) ∧ 221 + 3 = 224 ∧ ((221 : Nat) : Int) + (273) = ((494 : Nat) : Int) := ⟨by decide +kernel, rfl, by decide⟩
theorem d_LW_law_224 : decode mm_LW_law.2.1 224 = .ok (.iconst 0, 1) ∧ 224 + 1 = 225 := ⟨by decide +kernel, rfl⟩
theorem d_LW_law_225 : decode mm_LW_law.2.1 225 = .ok (.ireturn, 1) := by decide +kernel
theorem d_LW_law_226 : decode mm_LW_law.2.1 226 = .ok (.aload_n 1, 1) ∧ 226 + 1 = 227 := ⟨by decide +kernel, rfl⟩
theorem d_LW_law_227 : decode mm_LW_law.2.1 227 = .ok (.aload_n 0, 1) ∧ 227 + 1 = 228 := ⟨by decide +kernel, rfl⟩
theorem d_LW_law_228 : decode mm_LW_law.2.1 228 = .ok (.iload_n 3, 1) ∧ 228 + 1 = 229 := ⟨by decide +kernel, rfl⟩
theorem d_LW_law_229 : decode mm_LW_law.2.1 229 = .ok (.iconst 1, 1) ∧ 229 + 1 = 230 := ⟨by decide +kernel, rfl⟩
theorem d_LW_law_230 : decode mm_LW_law.2.1 230 = .ok (.iadd, 1) ∧ 230 + 1 = 231 := ⟨by decide +kernel, rfl⟩
theorem d_LW_law_231 : decode mm_LW_law.2.1 231 = .ok (.iaload, 1) ∧ 231 + 1 = 232 := ⟨by decide +kernel, rfl⟩
theorem d_LW_law_232 : decode mm_LW_law.2.1 232 = .ok (.invokevirtual 33, 3) ∧ 232 + 3 = 235 := ⟨by decide +kernel, rfl⟩
theorem d_LW_law_235 : decode mm_LW_law.2.1 235 = .ok (.aload_n 2, 1) ∧ 235 + 1 = 236 := ⟨by decide +kernel, rfl⟩
theorem d_LW_law_236 : decode mm_LW_law.2.1 236 = .ok (.aload_n 0, 1) ∧ 236 + 1 = 237 := ⟨by decide +kernel, rfl⟩
theorem d_LW_law_237 : decode mm_LW_law.2.1 237 = .ok (.iload_n 3, 1) ∧ 237 + 1 = 238 := ⟨by decide +kernel, rfl⟩
theorem d_LW_law_238 : decode mm_LW_law.2.1 238 = .ok (.iconst 1, 1) ∧ 238 + 1 = 239 := ⟨by decide +kernel, rfl⟩
theorem d_LW_law_239 : decode mm_LW_law.2.1 239 = .ok (.iadd, 1) ∧ 239 + 1 = 240 := ⟨by decide +kernel, rfl⟩
theorem d_LW_law_240 : decode mm_LW_law.2.1 240 = .ok (.iaload, 1) ∧ 240 + 1 = 241 := ⟨by decide +kernel, rfl⟩
theorem d_LW_law_241 : decode mm_LW_law.2.1 241 = .ok (.invokevirtual 36, 3) ∧ 241 + 3 = 244 := ⟨by decide +kernel, rfl⟩
theorem d_LW_law_244 : decode mm_LW_law.2.1 244 = .ok (.if_icmp .eq 250, 3) ∧ 244 + 3 = 247 ∧ ((244 : Nat) : Int) + (250) = ((494 : Nat) : Int) := ⟨by decide +kernel, rfl, by decide⟩
theorem d_LW_law_247 : decode mm_LW_law.2.1 247 = .ok (.iconst 0, 1) ∧ 247 + 1 = 248 := ⟨by decide +kernel, rfl⟩
theorem d_LW_law_248 : decode mm_LW_law.2.1 248 = .ok (.ireturn, 1) := by decide +kernel
theorem d_LW_law_249 : decode mm_LW_law.2.1 249 = .ok (.aload_n 1, 1) ∧ 249 + 1 = 250 := ⟨by decide +kernel, rfl⟩
theorem d_LW_law_250 : decode mm_LW_law.2.1 250 = .ok (.invokevirtual 37, 3) ∧ 250 + 3 = 253 := ⟨by decide +kernel, rfl⟩
theorem d_LW_law_253 : decode mm_LW_law.2.1 253 = .ok (.aload_n 2, 1) ∧ 253 + 1 = 254 := ⟨by decide +kernel, rfl⟩
theorem d_LW_law_254 : decode mm_LW_law.2.1 254 = .ok (.invokevirtual 41, 3) ∧ 254 + 3 = 257 := ⟨by decide +kernel, rfl⟩
theorem d_LW_law_257 : decode mm_LW_law.2.1 257 = .ok (.if_icmp .eq 237, 3) ∧ 257 + 3 = 260 ∧ ((257 : Nat) : Int) + (237) = ((494 : Nat) : Int) := ⟨by decide +kernel, rfl, by decide⟩
theorem d_LW_law_260 : decode mm_LW_law.2.1 260 = .ok (.iconst 0, 1) ∧ 260 + 1 = 261 := ⟨by decide +kernel, rfl⟩
theorem d_LW_law_261 : decode mm_LW_law.2.1 261 = .ok (.ireturn, 1) := by decide +kernel
theorem d_LW_law_262 : decode mm_LW_law.2.1 262 = .ok (.aload_n 1, 1) ∧ 262 + 1 = 263 := ⟨by decide +kernel, rfl⟩
theorem d_LW_law_263 : decode mm_LW_law.2.1 263 = .ok (.aload_n 0, 1) ∧ 263 + 1 = 264 := ⟨by decide +kernel, rfl⟩
theorem d_LW_law_264 : decode mm_LW_law.2.1 264 = .ok (.iload_n 3, 1) ∧ 264 + 1 = 265 := ⟨by decide +kernel, rfl⟩
theorem d_LW_law_265 : decode mm_LW_law.2.1 265 = .ok (.iconst 1, 1) ∧ 265 + 1 = 266 := ⟨by decide +kernel, rfl⟩
theorem d_LW_law_266 : decode mm_LW_law.2.1 266 = .ok (.iadd, 1) ∧ 266 + 1 = 267 := ⟨by decide +kernel, rfl⟩
theorem d_LW_law_267 : decode mm_LW_law.2.1 267 = .ok (.iaload, 1) ∧ 267 + 1 = 268 := ⟨by decide +kernel, rfl⟩
theorem d_LW_law_268 : decode mm_LW_law.2.1 268 = .ok (.invokevirtual 42, 3) ∧ 268 + 3 = 271 := ⟨by decide +kernel, rfl⟩
theorem d_LW_law_271 : decode mm_LW_law.2.1 271 = .ok (.aload_n 2, 1) ∧ 271 + 1 = 272 := ⟨by decide +kernel, rfl⟩
theorem d_LW_law_272 : decode mm_LW_law.2.1 272 = .ok (.aload_n 0, 1) ∧ 272 + 1 = 273 := ⟨by decide +kernel, rfl⟩
theorem d_LW_law_273 : decode mm_LW_law.2.1 273 = .ok (.iload_n 3, 1) ∧ 273 + 1 = 274 := ⟨by decide +kernel, rfl⟩
theorem d_LW_law_274 : decode mm_LW_law.2.1 274 = .ok (.iconst 1, 1) ∧ 274 + 1 = 275 := ⟨by decide +kernel, rfl⟩
theorem d_LW_law_275 : decode mm_LW_law.2.1 275 = .ok (.iadd, 1) ∧ 275 + 1 = 276 := ⟨by decide +kernel, rfl⟩
theorem d_LW_law_276 : decode mm_LW_law.2.1 276 = .ok (.iaload, 1) ∧ 276 + 1 = 277 := ⟨by decide +kernel, rfl⟩
theorem d_LW_law_277 : decode mm_LW_law.2.1 277 = .ok (.invokevirtual 46, 3) ∧ 277 + 3 = 280 := ⟨by decide +kernel, rfl⟩
theorem d_LW_law_280 : decode mm_LW_law.2.1 280 = .ok (.lcmp, 1) ∧ 280 + 1 = 281 := ⟨by decide +kernel, rfl⟩
theorem d_LW_law_281 : decode mm_LW_law.2.1 281 = .ok (.ifCond .eq 213, 3) ∧ 281 + 3 = 284 ∧ ((281 : Nat) : Int) + (213) = ((494 : Nat) : Int) := ⟨by decide +kernel, rfl, by decide⟩
theorem d_LW_law_284 : decode mm_LW_law.2.1 284 = .ok (.iconst 0, 1) ∧ 284 + 1 = 285 := ⟨by decide +kernel, rfl⟩
theorem d_LW_law_285 : decode mm_LW_law.2.1 285 = .ok (.ireturn, 1) := by decide +kernel
theorem d_LW_law_286 : decode mm_LW_law.2.1 286 = .ok (.aload_n 1, 1) ∧ 286 + 1 = 287 := ⟨by decide +kernel, rfl⟩
theorem d_LW_law_287 : decode mm_LW_law.2.1 287 = .ok (.aload_n 0, 1) ∧ 287 + 1 = 288 := ⟨by decide +kernel, rfl⟩
theorem d_LW_law_288 : decode mm_LW_law.2.1 288 = .ok (.iload_n 3, 1) ∧ 288 + 1 = 289 := ⟨by decide +kernel, rfl⟩
theorem d_LW_law_289 : decode mm_LW_law.2.1 289 = .ok (.iconst 1, 1) ∧ 289 + 1 = 290 := ⟨by decide +kernel, rfl⟩
theorem d_LW_law_290 : decode mm_LW_law.2.1 290 = .ok (.iadd, 1) ∧ 290 + 1 = 291 := ⟨by decide +kernel, rfl⟩
theorem d_LW_law_291 : decode mm_LW_law.2.1 291 = .ok (.iaload, 1) ∧ 291 + 1 = 292 := ⟨by decide +kernel, rfl⟩
theorem d_LW_law_292 : decode mm_LW_law.2.1 292 = .ok (.aload_n 0, 1) ∧ 292 + 1 = 293 := ⟨by decide +kernel, rfl⟩
theorem d_LW_law_293 : decode mm_LW_law.2.1 293 = .ok (.iload_n 3, 1) ∧ 293 + 1 = 294 := ⟨by decide +kernel, rfl⟩
theorem d_LW_law_294 : decode mm_LW_law.2.1 294 = .ok (.iconst 2, 1) ∧ 294 + 1 = 295 := ⟨by decide +kernel, rfl⟩
theorem d_LW_law_295 : decode mm_LW_law.2.1 295 = .ok (.iadd, 1) ∧ 295 + 1 = 296 := ⟨by decide +kernel, rfl⟩
theorem d_LW_law_296 : decode mm_LW_law.2.1 296 = .ok (.iaload, 1) ∧ 296 + 1 = 297 := ⟨by decide +kernel, rfl⟩
theorem d_LW_law_297 : decode mm_LW_law.2.1 297 = .ok (.invokevirtual 47, 3) ∧ 297 + 3 = 300 := ⟨by decide +kernel, rfl⟩
theorem d_LW_law_300 : decode mm_LW_law.2.1 300 = .ok (.aload_n 2, 1) ∧ 300 + 1 = 301 := ⟨by decide +kernel, rfl⟩
theorem d_LW_law_301 : decode mm_LW_law.2.1 301 = .ok (.aload_n 0, 1) ∧ 301 + 1 = 302 := ⟨by decide +kernel, rfl⟩
theorem d_LW_law_302 : decode mm_LW_law.2.1 302 = .ok (.iload_n 3, 1) ∧ 302 + 1 = 303 := ⟨by decide +kernel, rfl⟩
theorem d_LW_law_303 : decode mm_LW_law.2.1 303 = .ok (.iconst 1, 1) ∧ 303 + 1 = 304 := ⟨by decide +kernel, rfl⟩
theorem d_LW_law_304 : decode mm_LW_law.2.1 304 = .ok (.iadd, 1) ∧ 304 + 1 = 305 := ⟨by decide +kernel, rfl⟩
theorem d_LW_law_305 : decode mm_LW_law.2.1 305 = .ok (.iaload, 1) ∧ 305 + 1 = 306 := ⟨by decide +kernel, rfl⟩
theorem d_LW_law_306 : decode mm_LW_law.2.1 306 = .ok (.aload_n 0, 1) ∧ 306 + 1 = 307 := ⟨by decide +kernel, rfl⟩
theorem d_LW_law_307 : decode mm_LW_law.2.1 307 = .ok (.iload_n 3, 1) ∧ 307 + 1 = 308 := ⟨by decide +kernel, rfl⟩
theorem d_LW_law_308 : decode mm_LW_law.2.1 308 = .ok (.iconst 2, 1) ∧ 308 + 1 = 309 := ⟨by decide +kernel, rfl⟩
theorem d_LW_law_309 : decode mm_LW_law.2.1 309 = .ok (.iadd, 1) ∧ 309 + 1 = 310 := ⟨by decide +kernel, rfl⟩
theorem d_LW_law_310 : decode mm_LW_law.2.1 310 = .ok (.iaload, 1) ∧ 310 + 1 = 311 := ⟨by decide +kernel, rfl⟩
theorem d_LW_law_311 : decode mm_LW_law.2.1 311 = .ok (.invokevirtual 51, 3) ∧ 311 + 3 = 314 := ⟨by decide +kernel, rfl⟩
theorem d_LW_law_314 : decode mm_LW_law.2.1 314 = .ok (.if_icmp .eq 180, 3) ∧ 314 + 3 = 317 ∧ ((314 : Nat) : Int) + (180) = ((494 : Nat) : Int) := ⟨by decide +kernel, rfl, by decide⟩
theorem d_LW_law_317 : decode mm_LW_law.2.1 317 = .ok (.iconst 0, 1) ∧ 317 + 1 = 318 := ⟨by decide +kernel, rfl⟩
theorem d_LW_law_318 : decode mm_LW_law.2.1 318 = .ok (.ireturn, 1) := by decide +kernel
theorem d_LW_law_319 : decode mm_LW_law.2.1 319 = .ok (.aload_n 1, 1) ∧ 319 + 1 = 320 := ⟨by decide +kernel, rfl⟩
theorem d_LW_law_320 : decode mm_LW_law.2.1 320 = .ok (.aload_n 0, 1) ∧ 320 + 1 = 321 := ⟨by decide +kernel, rfl⟩
theorem d_LW_law_321 : decode mm_LW_law.2.1 321 = .ok (.iload_n 3, 1) ∧ 321 + 1 = 322 := ⟨by decide +kernel, rfl⟩
theorem d_LW_law_322 : decode mm_LW_law.2.1 322 = .ok (.iconst 1, 1) ∧ 322 + 1 = 323 := ⟨by decide +kernel, rfl⟩
theorem d_LW_law_323 : decode mm_LW_law.2.1 323 = .ok (.iadd, 1) ∧ 323 + 1 = 324 := ⟨by decide +kernel, rfl⟩
theorem d_LW_law_324 : decode mm_LW_law.2.1 324 = .ok (.iaload, 1) ∧ 324 + 1 = 325 := ⟨by decide +kernel, rfl⟩
theorem d_LW_law_325 : decode mm_LW_law.2.1 325 = .ok (.invokevirtual 52, 3) ∧ 325 + 3 = 328 := ⟨by decide +kernel, rfl⟩
theorem d_LW_law_328 : decode mm_LW_law.2.1 328 = .ok (.aload_n 2, 1) ∧ 328 + 1 = 329 := ⟨by decide +kernel, rfl⟩
theorem d_LW_law_329 : decode mm_LW_law.2.1 329 = .ok (.aload_n 0, 1) ∧ 329 + 1 = 330 := ⟨by decide +kernel, rfl⟩
theorem d_LW_law_330 : decode mm_LW_law.2.1 330 = .ok (.iload_n 3, 1) ∧ 330 + 1 = 331 := ⟨by decide +kernel, rfl⟩
theorem d_LW_law_331 : decode mm_LW_law.2.1 331 = .ok (.iconst 1, 1) ∧ 331 + 1 = 332 := ⟨by decide +kernel, rfl⟩
theorem d_LW_law_332 : decode mm_LW_law.2.1 332 = .ok (.iadd, 1) ∧ 332 + 1 = 333 := ⟨by decide +kernel, rfl⟩
theorem d_LW_law_333 : decode mm_LW_law.2.1 333 = .ok (.iaload, 1) ∧ 333 + 1 = 334 := ⟨by decide +kernel, rfl⟩
theorem d_LW_law_334 : decode mm_LW_law.2.1 334 = .ok (.invokevirtual 55, 3) ∧ 334 + 3 = 337 := ⟨by decide +kernel, rfl⟩
theorem d_LW_law_337 : decode mm_LW_law.2.1 337 = .ok (.if_icmp .eq 157, 3) ∧ 337 + 3 = 340 ∧ ((337 : Nat) : Int) + (157) = ((494 : Nat) : Int) := ⟨by decide +kernel, rfl, by decide⟩
theorem d_LW_law_340 : decode mm_LW_law.2.1 340 = .ok (.iconst 0, 1) ∧ 340 + 1 = 341 := ⟨by decide +kernel, rfl⟩
theorem d_LW_law_341 : decode mm_LW_law.2.1 341 = .ok (.ireturn, 1) := by decide +kernel
theorem d_LW_law_342 : decode mm_LW_law.2.1 342 = .ok (.aload_n 1, 1) ∧ 342 + 1 = 343 := ⟨by decide +kernel, rfl⟩
theorem d_LW_law_343 : decode mm_LW_law.2.1 343 = .ok (.aload_n 0, 1) ∧ 343 + 1 = 344 := ⟨by decide +kernel, rfl⟩
theorem d_LW_law_344 : decode mm_LW_law.2.1 344 = .ok (.iload_n 3, 1) ∧ 344 + 1 = 345 := ⟨by decide +kernel, rfl⟩
theorem d_LW_law_345 : decode mm_LW_law.2.1 345 = .ok (.iconst 1, 1) ∧ 345 + 1 = 346 := ⟨by decide +kernel, rfl⟩
theorem d_LW_law_346 : decode mm_LW_law.2.1 346 = .ok (.iadd, 1) ∧ 346 + 1 = 347 := ⟨by decide +kernel, rfl⟩
theorem d_LW_law_347 : decode mm_LW_law.2.1 347 = .ok (.iaload, 1) ∧ 347 + 1 = 348 := ⟨by decide +kernel, rfl⟩
theorem d_LW_law_348 : decode mm_LW_law.2.1 348 = .ok (.aload_n 0, 1) ∧ 348 + 1 = 349 := ⟨by decide +kernel, rfl⟩
theorem d_LW_law_349 : decode mm_LW_law.2.1 349 = .ok (.iload_n 3, 1) ∧ 349 + 1 = 350 := ⟨by decide +kernel, rfl⟩
theorem d_LW_law_350 : decode mm_LW_law.2.1 350 = .ok (.iconst 2, 1) ∧ 350 + 1 = 351 := ⟨by decide +kernel, rfl⟩
theorem d_LW_law_351 : decode mm_LW_law.2.1 351 = .ok (.iadd, 1) ∧ 351 + 1 = 352 := ⟨by decide +kernel, rfl⟩
theorem d_LW_law_352 : decode mm_LW_law.2.1 352 = .ok (.iaload, 1) ∧ 352 + 1 = 353 := ⟨by decide +kernel, rfl⟩
theorem d_LW_law_353 : decode mm_LW_law.2.1 353 = .ok (.ifCond .eq 7, 3) ∧ 353 + 3 = 356 ∧ ((353 : Nat) : Int) + (7) = ((360 : Nat) : Int) := ⟨by decide +kernel, rfl, by decide⟩
theorem d_LW_law_356 : decode mm_LW_law.2.1 356 = .ok (.iconst 1, 1) ∧ 356 + 1 = 357 := ⟨by decide +kernel, rfl⟩
theorem d_LW_law_357 : decode mm_LW_law.2.1 357 = .ok (.goto 4, 3) ∧ 357 + 3 = 360 ∧ ((357 : Nat) : Int) + (4) = ((361 : Nat) : Int) := ⟨by decide +kernel, rfl, by decide⟩
theorem d_LW_law_360 : decode mm_LW_law.2.1 360 = .ok (.iconst 0, 1) ∧ 360 + 1 = 361 := ⟨by decide +kernel, rfl⟩
theorem d_LW_law_361 : decode mm_LW_law.2.1 361 = .ok (.invokevirtual 56, 3) ∧ 361 + 3 = 364 := ⟨by decide +kernel, rfl⟩
theorem d_LW_law_364 : decode mm_LW_law.2.1 364 = .ok (.aload_n 2, 1) ∧ 364 + 1 = 365 := ⟨by decide +kernel, rfl⟩
theorem d_LW_law_365 : decode mm_LW_law.2.1 365 = .ok (.aload_n 0, 1) ∧ 365 + 1 = 366 := ⟨by decide +kernel, rfl⟩
theorem d_LW_law_366 : decode mm_LW_law.2.1 366 = .ok (.iload_n 3, 1) ∧ 366 + 1 = 367 := ⟨by decide +kernel, rfl⟩
theorem d_LW_law_367 : decode mm_LW_law.2.1 367 = .ok (.iconst 1, 1) ∧ 367 + 1 = 368 := ⟨by decide +kernel, rfl⟩
theorem d_LW_law_368 : decode mm_LW_law.2.1 368 = .ok (.iadd, 1) ∧ 368 + 1 = 369 := ⟨by decide +kernel, rfl⟩
theorem d_LW_law_369 : decode mm_LW_law.2.1 369 = .ok (.iaload, 1) ∧ 369 + 1 = 370 := ⟨by decide +kernel, rfl⟩
theorem d_LW_law_370 : decode mm_LW_law.2.1 370 = .ok (.aload_n 0, 1) ∧ 370 + 1 = 371 := ⟨by decide +kernel, rfl⟩
theorem d_LW_law_371 : decode mm_LW_law.2.1 371 = .ok (.iload_n 3, 1) ∧ 371 + 1 = 372 := ⟨by decide +kernel, rfl⟩
theorem d_LW_law_372 : decode mm_LW_law.2.1 372 = .ok (.iconst 2, 1) ∧ 372 + 1 = 373 := ⟨by decide +kernel, rfl⟩
theorem d_LW_law_373 : decode mm_LW_law.2.1 373 = .ok (.iadd, 1) ∧ 373 + 1 = 374 := ⟨by decide +kernel, rfl⟩
theorem d_LW_law_374 : decode mm_LW_law.2.1 374 = .ok (.iaload, 1) ∧ 374 + 1 = 375 := ⟨by decide +kernel, rfl⟩
theorem d_LW_law_375 : decode mm_LW_law.2.1 375 = .ok (.ifCond .eq 7, 3) ∧ 375 + 3 = 378 ∧ ((375 : Nat) : Int) + (7) = ((382 : Nat) : Int) := ⟨by decide +kernel, rfl, by decide⟩
theorem d_LW_law_378 : decode mm_LW_law.2.1 378 = .ok (.iconst 1, 1) ∧ 378 + 1 = 379 := ⟨by decide +kernel, rfl⟩
theorem d_LW_law_379 : decode mm_LW_law.2.1 379 = .ok (.goto 4, 3) ∧ 379 + 3 = 382 ∧ ((379 : Nat) : Int) + (4) = ((383 : Nat) : Int) := ⟨by decide +kernel, rfl, by decide⟩
theorem d_LW_law_382 : decode mm_LW_law.2.1 382 = .ok (.iconst 0, 1) ∧ 382 + 1 = 383 := ⟨by decide +kernel, rfl⟩
theorem d_LW_law_383 : decode mm_LW_law.2.1 383 = .ok (.invokevirtual 60, 3) ∧ 383 + 3 = 386 := ⟨by decide +kernel, rfl⟩
theorem d_LW_law_386 : decode mm_LW_law.2.1 386 = .ok (.if_icmp .eq 108, 3) ∧ 386 + 3 = 389 ∧ ((386 : Nat) : Int) + (108) = ((494 : Nat) : Int) := ⟨by decide +kernel, rfl, by decide⟩
theorem d_LW_law_389 : decode mm_LW_law.2.1 389 = .ok (.iconst 0, 1) ∧ 389 + 1 = 390 := ⟨by decide +kernel, rfl⟩
theorem d_LW_law_390 : decode mm_LW_law.2.1 390 = .ok (.ireturn, 1) := by decide +kernel
theorem d_LW_law_391 : decode mm_LW_law.2.1 391 = .ok (.aload_n 1, 1) ∧ 391 + 1 = 392 := ⟨by decide +kernel, rfl⟩
theorem d_LW_law_392 : decode mm_LW_law.2.1 392 = .ok (.invokevirtual 61, 3) ∧ 392 + 3 = 395 := ⟨by decide +kernel, rfl⟩
theorem d_LW_law_395 : decode mm_LW_law.2.1 395 = .ok (.aload_n 2, 1) ∧ 395 + 1 = 396 := ⟨by decide +kernel, rfl⟩
theorem d_LW_law_396 : decode mm_LW_law.2.1 396 = .ok (.invokevirtual 64, 3) ∧ 396 + 3 = 399 := ⟨by decide +kernel, rfl⟩
theorem d_LW_law_399 : decode mm_LW_law.2.1 399 = .ok (.if_icmp .eq 95, 3) ∧ 399 + 3 = 402 ∧ ((399 : Nat) : Int) + (95) = ((494 : Nat) : Int) := ⟨by decide +kernel, rfl, by decide⟩
theorem d_LW_law_402 : decode mm_LW_law.2.1 402 = .ok (.iconst 0, 1) ∧ 402 + 1 = 403 := ⟨by decide +kernel, rfl⟩
theorem d_LW_law_403 : decode mm_LW_law.2.1 403 = .ok (.ireturn, 1) := by decide +kernel
theorem d_LW_law_404 : decode mm_LW_law.2.1 404 = .ok (.aload_n 1, 1) ∧ 404 + 1 = 405 := ⟨by decide +kernel, rfl⟩
theorem d_LW_law_405 : decode mm_LW_law.2.1 405 = .ok (.aload_n 0, 1) ∧ 405 + 1 = 406 := ⟨by decide +kernel, rfl⟩
theorem d_LW_law_406 : decode mm_LW_law.2.1 406 = .ok (.iload_n 3, 1) ∧ 406 + 1 = 407 := ⟨by decide +kernel, rfl⟩
theorem d_LW_law_407 : decode mm_LW_law.2.1 407 = .ok (.iconst 1, 1) ∧ 407 + 1 = 408 := ⟨by decide +kernel, rfl⟩
theorem d_LW_law_408 : decode mm_LW_law.2.1 408 = .ok (.iadd, 1) ∧ 408 + 1 = 409 := ⟨by decide +kernel, rfl⟩
theorem d_LW_law_409 : decode mm_LW_law.2.1 409 = .ok (.iaload, 1) ∧ 409 + 1 = 410 := ⟨by decide +kernel, rfl⟩
theorem d_LW_law_410 : decode mm_LW_law.2.1 410 = .ok (.aload_n 0, 1) ∧ 410 + 1 = 411 := ⟨by decide +kernel, rfl⟩
theorem d_LW_law_411 : decode mm_LW_law.2.1 411 = .ok (.iload_n 3, 1) ∧ 411 + 1 = 412 := ⟨by decide +kernel, rfl⟩
theorem d_LW_law_412 : decode mm_LW_law.2.1 412 = .ok (.iconst 2, 1) ∧ 412 + 1 = 413 := ⟨by decide +kernel, rfl⟩
theorem d_LW_law_413 : decode mm_LW_law.2.1 413 = .ok (.iadd, 1) ∧ 413 + 1 = 414 := ⟨by decide +kernel, rfl⟩
theorem d_LW_law_414 : decode mm_LW_law.2.1 414 = .ok (.iaload, 1) ∧ 414 + 1 = 415 := ⟨by decide +kernel, rfl⟩
theorem d_LW_law_415 : decode mm_LW_law.2.1 415 = .ok (.invokevirtual 65, 3) ∧ 415 + 3 = 418 := ⟨by decide +kernel, rfl⟩
theorem d_LW_law_418 : decode mm_LW_law.2.1 418 = .ok (.aload_n 2, 1) ∧ 418 + 1 = 419 := ⟨by decide +kernel, rfl⟩
theorem d_LW_law_419 : decode mm_LW_law.2.1 419 = .ok (.aload_n 0, 1) ∧ 419 + 1 = 420 := ⟨by decide +kernel, rfl⟩
theorem d_LW_law_420 : decode mm_LW_law.2.1 420 = .ok (.iload_n 3, 1) ∧ 420 + 1 = 421 := ⟨by decide +kernel, rfl⟩
theorem d_LW_law_421 : decode mm_LW_law.2.1 421 = .ok (.iconst 1, 1) ∧ 421 + 1 = 422 := ⟨by decide +kernel, rfl⟩
theorem d_LW_law_422 : decode mm_LW_law.2.1 422 = .ok (.iadd, 1) ∧ 422 + 1 = 423 := ⟨by decide +kernel, rfl⟩
theorem d_LW_law_423 : decode mm_LW_law.2.1 423 = .ok (.iaload, 1) ∧ 423 + 1 = 424 := ⟨by decide +kernel, rfl⟩
theorem d_LW_law_424 : decode mm_LW_law.2.1 424 = .ok (.aload_n 0, 1) ∧ 424 + 1 = 425 := ⟨by decide +kernel, rfl⟩
theorem d_LW_law_425 : decode mm_LW_law.2.1 425 = .ok (.iload_n 3, 1) ∧ 425 + 1 = 426 := ⟨by decide +kernel, rfl⟩
theorem d_LW_law_426 : decode mm_LW_law.2.1 426 = .ok (.iconst 2, 1) ∧ 426 + 1 = 427 := ⟨by decide +kernel, rfl⟩
theorem d_LW_law_427 : decode mm_LW_law.2.1 427 = .ok (.iadd, 1) ∧ 427 + 1 = 428 := ⟨by decide +kernel, rfl⟩
theorem d_LW_law_428 : decode mm_LW_law.2.1 428 = .ok (.iaload, 1) ∧ 428 + 1 = 429 := ⟨by decide +kernel, rfl⟩
theorem d_LW_law_429 : decode mm_LW_law.2.1 429 = .ok (.invokevirtual 69, 3) ∧ 429 + 3 = 432 := ⟨by decide +kernel, rfl⟩
theorem d_LW_law_432 : decode mm_LW_law.2.1 432 = .ok (.lcmp, 1) ∧ 432 + 1 = 433 := ⟨by decide +kernel, rfl⟩
theorem d_LW_law_433 : decode mm_LW_law.2.1 433 = .ok (.ifCond .eq 61, 3) ∧ 433 + 3 = 436 ∧ ((433 : Nat) : Int) + (61) = ((494 : Nat) : Int) := ⟨by decide +kernel, rfl, by decide⟩
theorem d_LW_law_436 : decode mm_LW_law.2.1 436 = .ok (.iconst 0, 1) ∧ 436 + 1 = 437 := ⟨by decide +kernel, rfl⟩
theorem d_LW_law_437 : decode mm_LW_law.2.1 437 = .ok (.ireturn, 1) := by decide +kernel
theorem d_LW_law_438 : decode mm_LW_law.2.1 438 = .ok (.aload_n 1, 1) ∧ 438 + 1 = 439 := ⟨by decide +kernel, rfl⟩
theorem d_LW_law_439 : decode mm_LW_law.2.1 439 = .ok (.aload_n 0, 1) ∧ 439 + 1 = 440 := ⟨by decide +kernel, rfl⟩
theorem d_LW_law_440 : decode mm_LW_law.2.1 440 = .ok (.iload_n 3, 1) ∧ 440 + 1 = 441 := ⟨by decide +kernel, rfl⟩
theorem d_LW_law_441 : decode mm_LW_law.2.1 441 = .ok (.iconst 1, 1) ∧ 441 + 1 = 442 := ⟨by decide +kernel, rfl⟩
theorem d_LW_law_442 : decode mm_LW_law.2.1 442 = .ok (.iadd, 1) ∧ 442 + 1 = 443 := ⟨by decide +kernel, rfl⟩
theorem d_LW_law_443 : decode mm_LW_law.2.1 443 = .ok (.iaload, 1) ∧ 443 + 1 = 444 := ⟨by decide +kernel, rfl⟩
theorem d_LW_law_444 : decode mm_LW_law.2.1 444 = .ok (.aload_n 0, 1) ∧ 444 + 1 = 445 := ⟨by decide +kernel, rfl⟩
theorem d_LW_law_445 : decode mm_LW_law.2.1 445 = .ok (.iload_n 3, 1) ∧ 445 + 1 = 446 := ⟨by decide +kernel, rfl⟩
theorem d_LW_law_446 : decode mm_LW_law.2.1 446 = .ok (.iconst 2, 1) ∧ 446 + 1 = 447 := ⟨by decide +kernel, rfl⟩
theorem d_LW_law_447 : decode mm_LW_law.2.1 447 = .ok (.iadd, 1) ∧ 447 + 1 = 448 := ⟨by decide +kernel, rfl⟩
theorem d_LW_law_448 : decode mm_LW_law.2.1 448 = .ok (.iaload, 1) ∧ 448 + 1 = 449 := ⟨by decide +kernel, rfl⟩
theorem d_LW_law_449 : decode mm_LW_law.2.1 449 = .ok (.invokevirtual 70, 3) ∧ 449 + 3 = 452 := ⟨by decide +kernel, rfl⟩
theorem d_LW_law_452 : decode mm_LW_law.2.1 452 = .ok (.aload_n 2, 1) ∧ 452 + 1 = 453 := ⟨by decide +kernel, rfl⟩
theorem d_LW_law_453 : decode mm_LW_law.2.1 453 = .ok (.aload_n 0, 1) ∧ 453 + 1 = 454 := ⟨by decide +kernel, rfl⟩
theorem d_LW_law_454 : decode mm_LW_law.2.1 454 = .ok (.iload_n 3, 1) ∧ 454 + 1 = 455 := ⟨by decide +kernel, rfl⟩
theorem d_LW_law_455 : decode mm_LW_law.2.1 455 = .ok (.iconst 1, 1) ∧ 455 + 1 = 456 := ⟨by decide +kernel, rfl⟩
theorem d_LW_law_456 : decode mm_LW_law.2.1 456 = .ok (.iadd, 1) ∧ 456 + 1 = 457 := ⟨by decide +kernel, rfl⟩
theorem d_LW_law_457 : decode mm_LW_law.2.1 457 = .ok (.iaload, 1) ∧ 457 + 1 = 458 := ⟨by decide +kernel, rfl⟩
theorem d_LW_law_458 : decode mm_LW_law.2.1 458 = .ok (.aload_n 0, 1) ∧ 458 + 1 = 459 := ⟨by decide +kernel, rfl⟩
theorem d_LW_law_459 : decode mm_LW_law.2.1 459 = .ok (.iload_n 3, 1) ∧ 459 + 1 = 460 := ⟨by decide +kernel, rfl⟩
theorem d_LW_law_460 : decode mm_LW_law.2.1 460 = .ok (.iconst 2, 1) ∧ 460 + 1 = 461 := ⟨by decide +kernel, rfl⟩
theorem d_LW_law_461 : decode mm_LW_law.2.1 461 = .ok (.iadd, 1) ∧ 461 + 1 = 462 := ⟨by decide +kernel, rfl⟩
theorem d_LW_law_462 : decode mm_LW_law.2.1 462 = .ok (.iaload, 1) ∧ 462 + 1 = 463 := ⟨by decide +kernel, rfl⟩
theorem d_LW_law_463 : decode mm_LW_law.2.1 463 = .ok (.invokevirtual 73, 3) ∧ 463 + 3 = 466 := ⟨by decide +kernel, rfl⟩
theorem d_LW_law_466 : decode mm_LW_law.2.1 466 = .ok (.if_icmp .eq 28, 3) ∧ 466 + 3 = 469 ∧ ((466 : Nat) : Int) + (28) = ((494 : Nat) : Int) := ⟨by decide +kernel, rfl, by decide⟩
theorem d_LW_law_469 : decode mm_LW_law.2.1 469 = .ok (.iconst 0, 1) ∧ 469 + 1 = 470 := ⟨by decide +kernel, rfl⟩
theorem d_LW_law_470 : decode mm_LW_law.2.1 470 = .ok (.ireturn, 1) := by decide +kernel
theorem d_LW_law_471 : decode mm_LW_law.2.1 471 = .ok (.aload_n 1, 1) ∧ 471 + 1 = 472 := ⟨by decide +kernel, rfl⟩
theorem d_LW_law_472 : decode mm_LW_law.2.1 472 = .ok (.aload_n 0, 1) ∧ 472 + 1 = 473 := ⟨by decide +kernel, rfl⟩
theorem d_LW_law_473 : decode mm_LW_law.2.1 473 = .ok (.iload_n 3, 1) ∧ 473 + 1 = 474 := ⟨by decide +kernel, rfl⟩
theorem d_LW_law_474 : decode mm_LW_law.2.1 474 = .ok (.iconst 1, 1) ∧ 474 + 1 = 475 := ⟨by decide +kernel, rfl⟩
theorem d_LW_law_475 : decode mm_LW_law.2.1 475 = .ok (.iadd, 1) ∧ 475 + 1 = 476 := ⟨by decide +kernel, rfl⟩
theorem d_LW_law_476 : decode mm_LW_law.2.1 476 = .ok (.iaload, 1) ∧ 476 + 1 = 477 := ⟨by decide +kernel, rfl⟩
theorem d_LW_law_477 : decode mm_LW_law.2.1 477 = .ok (.invokevirtual 74, 3) ∧ 477 + 3 = 480 := ⟨by decide +kernel, rfl⟩
theorem d_LW_law_480 : decode mm_LW_law.2.1 480 = .ok (.aload_n 2, 1) ∧ 480 + 1 = 481 := ⟨by decide +kernel, rfl⟩
theorem d_LW_law_481 : decode mm_LW_law.2.1 481 = .ok (.aload_n 0, 1) ∧ 481 + 1 = 482 := ⟨by decide +kernel, rfl⟩
theorem d_LW_law_482 : decode mm_LW_law.2.1 482 = .ok (.iload_n 3, 1) ∧ 482 + 1 = 483 := ⟨by decide +kernel, rfl⟩
theorem d_LW_law_483 : decode mm_LW_law.2.1 483 = .ok (.iconst 1, 1) ∧ 483 + 1 = 484 := ⟨by decide +kernel, rfl⟩
theorem d_LW_law_484 : decode mm_LW_law.2.1 484 = .ok (.iadd, 1) ∧ 484 + 1 = 485 := ⟨by decide +kernel, rfl⟩
theorem d_LW_law_485 : decode mm_LW_law.2.1 485 = .ok (.iaload, 1) ∧ 485 + 1 = 486 := ⟨by decide +kernel, rfl⟩
theorem d_LW_law_486 : decode mm_LW_law.2.1 486 = .ok (.invokevirtual 77, 3) ∧ 486 + 3 = 489 := ⟨by decide +kernel, rfl⟩
theorem d_LW_law_489 : decode mm_LW_law.2.1 489 = .ok (.if_icmp .eq 5, 3) ∧ 489 + 3 = 492 ∧ ((489 : Nat) : Int) + (5) = ((494 : Nat) : Int) := ⟨by decide +kernel, rfl, by decide⟩
theorem d_LW_law_492 : decode mm_LW_law.2.1 492 = .ok (.iconst 0, 1) ∧ 492 + 1 = 493 := ⟨by decide +kernel, rfl⟩
theorem d_LW_law_493 : decode mm_LW_law.2.1 493 = .ok (.ireturn, 1) := by decide +kernel
theorem d_LW_law_494 : decode mm_LW_law.2.1 494 = .ok (.iinc 3 3, 3) ∧ 494 + 3 = 497 := ⟨by decide +kernel, rfl⟩
theorem d_LW_law_497 : decode mm_LW_law.2.1 497 = .ok (.goto (-479), 3) ∧ 497 + 3 = 500 ∧ ((497 : Nat) : Int) + (-479) = ((18 : Nat) : Int) := ⟨by decide +kernel, rfl, by decide⟩
theorem d_LW_law_500 : decode mm_LW_law.2.1 500 = .ok (.iconst 1, 1) ∧ 500 + 1 = 501 := ⟨by decide +kernel, rfl⟩
theorem d_LW_law_501 : decode mm_LW_law.2.1 501 = .ok (.ireturn, 1) := by decide +kernel
