theorem kw_0 : Cond.methodLink "LazyBuilder" 3 objectInit ∈ mx_S0.1 := mx_mem (List.mem_of_getElem? (i := 15) (by decide +kernel)) rfl
theorem kw_1 : Cond.instanceMethod objectInit ∈ mx_S0.1 := mx_mem (List.mem_of_getElem? (i := 16) (by decide +kernel)) rfl
theorem kw_2 : Cond.classLink "LazyBuilder" 9 "LazyBuilder$Text" ∈ mx_S0.1 := mx_mem (List.mem_of_getElem? (i := 18) (by decide +kernel)) rfl
theorem kw_3 : Cond.instantiable "LazyBuilder$Text" 5 ∈ mx_S0.1 := mx_mem (List.mem_of_getElem? (i := 19) (by decide +kernel)) rfl
theorem kw_4 : Cond.initialized "LazyBuilder$Text" ∈ mx_S0.1 := mx_mem (List.mem_of_getElem? (i := 2) (by decide +kernel)) rfl
theorem kw_5 : Cond.fieldLink "LazyBuilder" 12 "LazyBuilder" "line" "LLazyBuilder$Text;" ∈ mx_S0.1 := mx_mem (List.mem_of_getElem? (i := 122) (by decide +kernel)) rfl
theorem kw_6 : Cond.classLink "LazyBuilder" 16 "LazyBuilder$Store" ∈ mx_S0.1 := mx_mem (List.mem_of_getElem? (i := 44) (by decide +kernel)) rfl
theorem kw_7 : Cond.instantiable "LazyBuilder$Store" 4 ∈ mx_S0.1 := mx_mem (List.mem_of_getElem? (i := 45) (by decide +kernel)) rfl
theorem kw_8 : Cond.initialized "LazyBuilder$Store" ∈ mx_S0.1 := mx_mem (List.mem_of_getElem? (i := 3) (by decide +kernel)) rfl
theorem kw_9 : Cond.fieldLink "LazyBuilder" 19 "LazyBuilder" "store" "LLazyBuilder$Store;" ∈ mx_S0.1 := mx_mem (List.mem_of_getElem? (i := 123) (by decide +kernel)) rfl
theorem kw_10 : Cond.classLink "LazyBuilder" 23 "LazyBuilder$Worker" ∈ mx_S0.1 := mx_mem (List.mem_of_getElem? (i := 68) (by decide +kernel)) rfl
theorem kw_11 : Cond.instantiable "LazyBuilder$Worker" 5 ∈ mx_S0.1 := mx_mem (List.mem_of_getElem? (i := 69) (by decide +kernel)) rfl
theorem kw_12 : Cond.initialized "LazyBuilder$Worker" ∈ mx_S0.1 := mx_mem (List.mem_of_getElem? (i := 4) (by decide +kernel)) rfl
theorem kw_13 : Cond.fieldLink "LazyBuilder" 28 "LazyBuilder" "worker" "LLazyBuilder$Worker;" ∈ mx_S0.1 := mx_mem (List.mem_of_getElem? (i := 124) (by decide +kernel)) rfl
theorem kw_14 : Cond.constantLong "LazyBuilder" 32 (-1000000000000) ∈ mx_S0.1 := mx_mem (List.mem_of_getElem? (i := 121) (by decide +kernel)) rfl
theorem kw_15 : Cond.fieldLink "LazyBuilder" 34 "LazyBuilder" "shown" "J" ∈ mx_S0.1 := mx_mem (List.mem_of_getElem? (i := 125) (by decide +kernel)) rfl
theorem kw_16 : Cond.fieldLink "LazyBuilder" 38 "LazyBuilder" "badPlace" "I" ∈ mx_S0.1 := mx_mem (List.mem_of_getElem? (i := 126) (by decide +kernel)) rfl
theorem kw_17 : Cond.methodLink "LazyBuilder" 25 y_LBWorker_init ∈ mx_S0.1 := mx_mem (List.mem_of_getElem? (i := 70) (by decide +kernel)) rfl
theorem kw_18 : Cond.instanceMethod y_LBWorker_init ∈ mx_S0.1 := mx_mem (List.mem_of_getElem? (i := 71) (by decide +kernel)) rfl
theorem kw_19 : Cond.methodLink "LazyBuilder" 18 y_LBStore_init ∈ mx_S0.1 := mx_mem (List.mem_of_getElem? (i := 46) (by decide +kernel)) rfl
theorem kw_20 : Cond.instanceMethod y_LBStore_init ∈ mx_S0.1 := mx_mem (List.mem_of_getElem? (i := 47) (by decide +kernel)) rfl
theorem kw_21 : Cond.methodLink "LazyBuilder" 11 y_LBText_init ∈ mx_S0.1 := mx_mem (List.mem_of_getElem? (i := 20) (by decide +kernel)) rfl
theorem kw_22 : Cond.instanceMethod y_LBText_init ∈ mx_S0.1 := mx_mem (List.mem_of_getElem? (i := 21) (by decide +kernel)) rfl
theorem kw_23 : Cond.methodLink "LazyBuilder" 42 y_LBText_append ∈ mx_S0.1 := mx_mem (List.mem_of_getElem? (i := 142) (by decide +kernel)) rfl
theorem kw_24 : Cond.instanceMethod y_LBText_append ∈ mx_S0.1 := mx_mem (List.mem_of_getElem? (i := 143) (by decide +kernel)) rfl
theorem kw_25 : Cond.selects "LazyBuilder$Text" y_LBText_append y_LBText_append ∈ mx_S0.1 := mx_mem (List.mem_of_getElem? (i := 144) (by decide +kernel)) rfl
theorem kw_26 : Cond.fieldLink "LazyBuilder" 46 "LazyBuilder$Text" "length" "I" ∈ mx_S0.1 := mx_mem (List.mem_of_getElem? (i := 27) (by decide +kernel)) rfl
theorem kw_27 : Cond.fieldLink "LazyBuilder" 57 "LazyBuilder$Text" "depth" "I" ∈ mx_S0.1 := mx_mem (List.mem_of_getElem? (i := 28) (by decide +kernel)) rfl
theorem kw_28 : Cond.methodLink "LazyBuilder" 64 y_LBText_clear ∈ mx_S0.1 := mx_mem (List.mem_of_getElem? (i := 200) (by decide +kernel)) rfl
theorem kw_29 : Cond.instanceMethod y_LBText_clear ∈ mx_S0.1 := mx_mem (List.mem_of_getElem? (i := 201) (by decide +kernel)) rfl
theorem kw_30 : Cond.selects "LazyBuilder$Text" y_LBText_clear y_LBText_clear ∈ mx_S0.1 := mx_mem (List.mem_of_getElem? (i := 202) (by decide +kernel)) rfl
theorem kw_31 : Cond.methodLink "LazyBuilder" 60 y_LBWorker_bind ∈ mx_S0.1 := mx_mem (List.mem_of_getElem? (i := 204) (by decide +kernel)) rfl
theorem kw_32 : Cond.instanceMethod y_LBWorker_bind ∈ mx_S0.1 := mx_mem (List.mem_of_getElem? (i := 205) (by decide +kernel)) rfl
theorem kw_33 : Cond.selects "LazyBuilder$Worker" y_LBWorker_bind y_LBWorker_bind ∈ mx_S0.1 := mx_mem (List.mem_of_getElem? (i := 206) (by decide +kernel)) rfl
theorem kw_34 : Cond.methodLink "LazyBuilder" 53 y_LB_readLine ∈ mx_S0.1 := mx_mem (List.mem_of_getElem? (i := 169) (by decide +kernel)) rfl
theorem kw_35 : Cond.instanceMethod y_LB_readLine ∈ mx_S0.1 := mx_mem (List.mem_of_getElem? (i := 171) (by decide +kernel)) rfl
theorem kw_36 : Cond.selects "LazyBuilder" y_LB_readLine y_LB_readLine ∈ mx_S0.1 := mx_memp (List.mem_of_getElem? (i := 0) (by decide +kernel)) rfl
theorem kw_37 : Cond.methodLink "LazyBuilder" 49 y_LB_isNameNumber ∈ mx_S0.1 := mx_mem (List.mem_of_getElem? (i := 166) (by decide +kernel)) rfl
theorem kw_38 : Cond.static y_LB_isNameNumber ∈ mx_S0.1 := mx_mem (List.mem_of_getElem? (i := 167) (by decide +kernel)) rfl
theorem kw_39 : Cond.fieldLink "LazyBuilder" 67 "LazyBuilder$Worker" "names" "[LLazyBuilder$Name;" ∈ mx_S0.1 := mx_mem (List.mem_of_getElem? (i := 102) (by decide +kernel)) rfl
theorem kw_40 : Cond.fieldLink "LazyBuilder" 71 "LazyBuilder$Name" "bound" "Z" ∈ mx_S0.1 := mx_mem (List.mem_of_getElem? (i := 87) (by decide +kernel)) rfl
theorem kw_41 : Cond.methodLink "LazyBuilder" 77 y_LBWorker_unbind ∈ mx_S0.1 := mx_mem (List.mem_of_getElem? (i := 224) (by decide +kernel)) rfl
theorem kw_42 : Cond.instanceMethod y_LBWorker_unbind ∈ mx_S0.1 := mx_mem (List.mem_of_getElem? (i := 225) (by decide +kernel)) rfl
theorem kw_43 : Cond.selects "LazyBuilder$Worker" y_LBWorker_unbind y_LBWorker_unbind ∈ mx_S0.1 := mx_mem (List.mem_of_getElem? (i := 226) (by decide +kernel)) rfl
theorem kw_44 : Cond.methodLink "LazyBuilder" 88 y_LBWorker_answerOf ∈ mx_S0.1 := mx_mem (List.mem_of_getElem? (i := 360) (by decide +kernel)) rfl
theorem kw_45 : Cond.instanceMethod y_LBWorker_answerOf ∈ mx_S0.1 := mx_mem (List.mem_of_getElem? (i := 361) (by decide +kernel)) rfl
theorem kw_46 : Cond.selects "LazyBuilder$Worker" y_LBWorker_answerOf y_LBWorker_answerOf ∈ mx_S0.1 := mx_mem (List.mem_of_getElem? (i := 362) (by decide +kernel)) rfl
theorem kw_47 : Cond.methodLink "LazyBuilder" 84 y_LBWorker_workOutName ∈ mx_S0.1 := mx_mem (List.mem_of_getElem? (i := 236) (by decide +kernel)) rfl
theorem kw_48 : Cond.instanceMethod y_LBWorker_workOutName ∈ mx_S0.1 := mx_mem (List.mem_of_getElem? (i := 237) (by decide +kernel)) rfl
theorem kw_49 : Cond.selects "LazyBuilder$Worker" y_LBWorker_workOutName y_LBWorker_workOutName ∈ mx_S0.1 := mx_mem (List.mem_of_getElem? (i := 238) (by decide +kernel)) rfl
theorem kw_50 : Cond.methodLink "LazyBuilder" 81 y_LBWorker_isClosed ∈ mx_S0.1 := mx_mem (List.mem_of_getElem? (i := 232) (by decide +kernel)) rfl
theorem kw_51 : Cond.instanceMethod y_LBWorker_isClosed ∈ mx_S0.1 := mx_mem (List.mem_of_getElem? (i := 233) (by decide +kernel)) rfl
theorem kw_52 : Cond.selects "LazyBuilder$Worker" y_LBWorker_isClosed y_LBWorker_isClosed ∈ mx_S0.1 := mx_mem (List.mem_of_getElem? (i := 234) (by decide +kernel)) rfl
theorem kw_53 : Cond.methodLink "LazyBuilder" 96 y_LB_isFailure ∈ mx_S0.1 := mx_mem (List.mem_of_getElem? (i := 372) (by decide +kernel)) rfl
theorem kw_54 : Cond.static y_LB_isFailure ∈ mx_S0.1 := mx_mem (List.mem_of_getElem? (i := 259) (by decide +kernel)) rfl
theorem kw_55 : Cond.methodLink "LazyBuilder" 92 y_LBWorker_workOutText ∈ mx_S0.1 := mx_mem (List.mem_of_getElem? (i := 368) (by decide +kernel)) rfl
theorem kw_56 : Cond.instanceMethod y_LBWorker_workOutText ∈ mx_S0.1 := mx_mem (List.mem_of_getElem? (i := 369) (by decide +kernel)) rfl
theorem kw_57 : Cond.selects "LazyBuilder$Worker" y_LBWorker_workOutText y_LBWorker_workOutText ∈ mx_S0.1 := mx_mem (List.mem_of_getElem? (i := 370) (by decide +kernel)) rfl
theorem kw_58 : Cond.fieldLink "LazyBuilder" 100 "LazyBuilder$Name" "kept" "J" ∈ mx_S0.1 := mx_mem (List.mem_of_getElem? (i := 91) (by decide +kernel)) rfl
theorem kw_59 : Cond.fieldLink "LazyBuilder" 103 "LazyBuilder$Store" "kinds" "[I" ∈ mx_S0.1 := mx_mem (List.mem_of_getElem? (i := 54) (by decide +kernel)) rfl
theorem kw_60 : Cond.constantLong "LazyBuilder" 111 1000000000000 ∈ mx_S0.1 := mx_mem (List.mem_of_getElem? (i := 264) (by decide +kernel)) rfl
theorem kw_61 : Cond.methodLink "LazyBuilder" 113 y_LBStore_partOf ∈ mx_S0.1 := mx_mem (List.mem_of_getElem? (i := 389) (by decide +kernel)) rfl
theorem kw_62 : Cond.instanceMethod y_LBStore_partOf ∈ mx_S0.1 := mx_mem (List.mem_of_getElem? (i := 334) (by decide +kernel)) rfl
theorem kw_63 : Cond.selects "LazyBuilder$Store" y_LBStore_partOf y_LBStore_partOf ∈ mx_S0.1 := mx_mem (List.mem_of_getElem? (i := 335) (by decide +kernel)) rfl
theorem kw_64 : Cond.methodLink "LazyBuilder" 107 y_LBStore_planAt ∈ mx_S0.1 := mx_mem (List.mem_of_getElem? (i := 385) (by decide +kernel)) rfl
theorem kw_65 : Cond.instanceMethod y_LBStore_planAt ∈ mx_S0.1 := mx_mem (List.mem_of_getElem? (i := 386) (by decide +kernel)) rfl
theorem kw_66 : Cond.selects "LazyBuilder$Store" y_LBStore_planAt y_LBStore_planAt ∈ mx_S0.1 := mx_mem (List.mem_of_getElem? (i := 387) (by decide +kernel)) rfl
theorem kw_67 : Cond.fieldLink "LazyBuilder" 117 "LazyBuilder$Plan" "isRoot" "Z" ∈ mx_S0.1 := mx_mem (List.mem_of_getElem? (i := 312) (by decide +kernel)) rfl
theorem kw_68 : Cond.methodLink "LazyBuilder" 122 y_LBStore_sweep ∈ mx_S0.1 := mx_mem (List.mem_of_getElem? (i := 398) (by decide +kernel)) rfl
theorem kw_69 : Cond.instanceMethod y_LBStore_sweep ∈ mx_S0.1 := mx_mem (List.mem_of_getElem? (i := 399) (by decide +kernel)) rfl
theorem kw_70 : Cond.selects "LazyBuilder$Store" y_LBStore_sweep y_LBStore_sweep ∈ mx_S0.1 := mx_mem (List.mem_of_getElem? (i := 400) (by decide +kernel)) rfl
theorem kw_71 : Cond.fieldLink "LazyBuilder" 126 "LazyBuilder$Plan" "inputs" "[J" ∈ mx_S0.1 := mx_mem (List.mem_of_getElem? (i := 308) (by decide +kernel)) rfl
theorem kw_72 : Cond.fieldLink "LazyBuilder" 130 "LazyBuilder$Plan" "maker" "I" ∈ mx_S0.1 := mx_mem (List.mem_of_getElem? (i := 305) (by decide +kernel)) rfl
theorem kw_73 : Cond.fieldLink "LazyBuilder" 133 "LazyBuilder$Plan" "isBuilt" "Z" ∈ mx_S0.1 := mx_mem (List.mem_of_getElem? (i := 310) (by decide +kernel)) rfl
theorem kw_74 : Cond.fieldLink "LazyBuilder" 136 "LazyBuilder$Plan" "result" "I" ∈ mx_S0.1 := mx_mem (List.mem_of_getElem? (i := 315) (by decide +kernel)) rfl
theorem kw_75 : Cond.fieldLink "LazyBuilder" 139 "LazyBuilder$Store" "size" "I" ∈ mx_S0.1 := mx_mem (List.mem_of_getElem? (i := 56) (by decide +kernel)) rfl
theorem kw_76 : Cond.fieldLink "LazyBuilder" 142 "LazyBuilder$Store" "builds" "I" ∈ mx_S0.1 := mx_mem (List.mem_of_getElem? (i := 58) (by decide +kernel)) rfl
theorem kw_77 : Cond.fieldLink "LazyBuilder" 145 "LazyBuilder$Worker" "steps" "I" ∈ mx_S0.1 := mx_mem (List.mem_of_getElem? (i := 106) (by decide +kernel)) rfl
theorem kw_78 : Cond.fieldLink "LazyBuilder" 148 "LazyBuilder$Worker" "failures" "I" ∈ mx_S0.1 := mx_mem (List.mem_of_getElem? (i := 108) (by decide +kernel)) rfl
theorem kw_79 : Cond.methodLink "LazyBuilder" 151 y_LBWorker_namesBound ∈ mx_S0.1 := mx_mem (List.mem_of_getElem? (i := 418) (by decide +kernel)) rfl
theorem kw_80 : Cond.instanceMethod y_LBWorker_namesBound ∈ mx_S0.1 := mx_mem (List.mem_of_getElem? (i := 419) (by decide +kernel)) rfl
theorem kw_81 : Cond.selects "LazyBuilder$Worker" y_LBWorker_namesBound y_LBWorker_namesBound ∈ mx_S0.1 := mx_mem (List.mem_of_getElem? (i := 420) (by decide +kernel)) rfl
theorem kw_82 : Cond.methodLink "LazyBuilder" 154 y_LBWorker_namesKept ∈ mx_S0.1 := mx_mem (List.mem_of_getElem? (i := 422) (by decide +kernel)) rfl
theorem kw_83 : Cond.instanceMethod y_LBWorker_namesKept ∈ mx_S0.1 := mx_mem (List.mem_of_getElem? (i := 423) (by decide +kernel)) rfl
theorem kw_84 : Cond.selects "LazyBuilder$Worker" y_LBWorker_namesKept y_LBWorker_namesKept ∈ mx_S0.1 := mx_mem (List.mem_of_getElem? (i := 424) (by decide +kernel)) rfl
theorem kw_85 : Cond.fieldLink "LazyBuilder" 160 "LazyBuilder$Text" "badPlace" "I" ∈ mx_S0.1 := mx_mem (List.mem_of_getElem? (i := 31) (by decide +kernel)) rfl
theorem kw_86 : Cond.methodLink "LazyBuilder" 157 y_LBText_read ∈ mx_S0.1 := mx_mem (List.mem_of_getElem? (i := 173) (by decide +kernel)) rfl
theorem kw_87 : Cond.instanceMethod y_LBText_read ∈ mx_S0.1 := mx_mem (List.mem_of_getElem? (i := 174) (by decide +kernel)) rfl
theorem kw_88 : Cond.selects "LazyBuilder$Text" y_LBText_read y_LBText_read ∈ mx_S0.1 := mx_mem (List.mem_of_getElem? (i := 175) (by decide +kernel)) rfl
theorem kw_89 : Cond.methodLink "LazyBuilder$Text" 3 objectInit ∈ mx_S0.1 := mx_mem (List.mem_of_getElem? (i := 23) (by decide +kernel)) rfl
theorem kw_90 : Cond.arrayClass .int ∈ mx_S0.1 := mx_mem (List.mem_of_getElem? (i := 43) (by decide +kernel)) rfl
theorem kw_91 : Cond.fieldLink "LazyBuilder$Text" 9 "LazyBuilder$Text" "codes" "[I" ∈ mx_S0.1 := mx_mem (List.mem_of_getElem? (i := 24) (by decide +kernel)) rfl
theorem kw_92 : Cond.fieldLink "LazyBuilder$Text" 15 "LazyBuilder$Text" "ends" "[I" ∈ mx_S0.1 := mx_mem (List.mem_of_getElem? (i := 25) (by decide +kernel)) rfl
theorem kw_93 : Cond.fieldLink "LazyBuilder$Text" 22 "LazyBuilder$Text" "length" "I" ∈ mx_S0.1 := mx_mem (List.mem_of_getElem? (i := 26) (by decide +kernel)) rfl
theorem kw_94 : Cond.methodLink "LazyBuilder$Text" 18 y_LBText_belongs ∈ mx_S0.1 := mx_mem (List.mem_of_getElem? (i := 146) (by decide +kernel)) rfl
theorem kw_95 : Cond.static y_LBText_belongs ∈ mx_S0.1 := mx_mem (List.mem_of_getElem? (i := 147) (by decide +kernel)) rfl
theorem kw_96 : Cond.methodLink "LazyBuilder$Text" 26 arraycopyName ∈ mx_S0.1 := mx_mem (List.mem_of_getElem? (i := 212) (by decide +kernel)) rfl
theorem kw_97 : Cond.fieldLink "LazyBuilder$Text" 32 "LazyBuilder$Text" "depth" "I" ∈ mx_S0.1 := mx_mem (List.mem_of_getElem? (i := 29) (by decide +kernel)) rfl
theorem kw_98 : Cond.fieldLink "LazyBuilder$Text" 39 "LazyBuilder$Text" "badPlace" "I" ∈ mx_S0.1 := mx_mem (List.mem_of_getElem? (i := 30) (by decide +kernel)) rfl
theorem kw_99 : Cond.methodLink "LazyBuilder$Text" 35 y_LBText_readExpression ∈ mx_S0.1 := mx_mem (List.mem_of_getElem? (i := 177) (by decide +kernel)) rfl
theorem kw_100 : Cond.instanceMethod y_LBText_readExpression ∈ mx_S0.1 := mx_mem (List.mem_of_getElem? (i := 179) (by decide +kernel)) rfl
theorem kw_101 : Cond.selects "LazyBuilder$Text" y_LBText_readExpression y_LBText_readExpression ∈ mx_S0.1 := mx_memp (List.mem_of_getElem? (i := 1) (by decide +kernel)) rfl
theorem kw_102 : Cond.methodLink "LazyBuilder$Text" 49 Lib.Math.max.name ∈ mx_S0.1 := mx_mem (List.mem_of_getElem? (i := 197) (by decide +kernel)) rfl
theorem kw_103 : Cond.methodLink "LazyBuilder$Text" 46 y_LBText_readKind ∈ mx_S0.1 := mx_mem (List.mem_of_getElem? (i := 185) (by decide +kernel)) rfl
theorem kw_104 : Cond.instanceMethod y_LBText_readKind ∈ mx_S0.1 := mx_mem (List.mem_of_getElem? (i := 187) (by decide +kernel)) rfl
theorem kw_105 : Cond.selects "LazyBuilder$Text" y_LBText_readKind y_LBText_readKind ∈ mx_S0.1 := mx_memp (List.mem_of_getElem? (i := 3) (by decide +kernel)) rfl
theorem kw_106 : Cond.methodLink "LazyBuilder$Text" 42 y_LBText_badAt ∈ mx_S0.1 := mx_mem (List.mem_of_getElem? (i := 181) (by decide +kernel)) rfl
theorem kw_107 : Cond.instanceMethod y_LBText_badAt ∈ mx_S0.1 := mx_mem (List.mem_of_getElem? (i := 183) (by decide +kernel)) rfl
theorem kw_108 : Cond.selects "LazyBuilder$Text" y_LBText_badAt y_LBText_badAt ∈ mx_S0.1 := mx_memp (List.mem_of_getElem? (i := 2) (by decide +kernel)) rfl
theorem kw_109 : Cond.static y_LB_partsAfter ∈ mx_S0.1 := mx_mem (List.mem_of_getElem? (i := 156) (by decide +kernel)) rfl
theorem kw_110 : Cond.methodLink "LazyBuilder$Text" 63 y_LBText_readPlan ∈ mx_S0.1 := mx_mem (List.mem_of_getElem? (i := 193) (by decide +kernel)) rfl
theorem kw_111 : Cond.instanceMethod y_LBText_readPlan ∈ mx_S0.1 := mx_mem (List.mem_of_getElem? (i := 195) (by decide +kernel)) rfl
theorem kw_112 : Cond.selects "LazyBuilder$Text" y_LBText_readPlan y_LBText_readPlan ∈ mx_S0.1 := mx_memp (List.mem_of_getElem? (i := 4) (by decide +kernel)) rfl
theorem kw_113 : Cond.static y_LB_isLetter ∈ mx_S0.1 := mx_mem (List.mem_of_getElem? (i := 153) (by decide +kernel)) rfl
theorem kw_114 : Cond.static y_LB_isDigit ∈ mx_S0.1 := mx_mem (List.mem_of_getElem? (i := 150) (by decide +kernel)) rfl
theorem kw_115 : Cond.methodLink "LazyBuilder$Text" 54 y_LBText_codeAt ∈ mx_S0.1 := mx_mem (List.mem_of_getElem? (i := 189) (by decide +kernel)) rfl
theorem kw_116 : Cond.instanceMethod y_LBText_codeAt ∈ mx_S0.1 := mx_mem (List.mem_of_getElem? (i := 190) (by decide +kernel)) rfl
theorem kw_117 : Cond.selects "LazyBuilder$Text" y_LBText_codeAt y_LBText_codeAt ∈ mx_S0.1 := mx_mem (List.mem_of_getElem? (i := 191) (by decide +kernel)) rfl
theorem kw_118 : Cond.methodLink "LazyBuilder$Name" 3 objectInit ∈ mx_S0.1 := mx_mem (List.mem_of_getElem? (i := 80) (by decide +kernel)) rfl
theorem kw_119 : Cond.classLink "LazyBuilder$Name" 9 "LazyBuilder$Text" ∈ mx_S0.1 := mx_mem (List.mem_of_getElem? (i := 81) (by decide +kernel)) rfl
theorem kw_120 : Cond.fieldLink "LazyBuilder$Name" 12 "LazyBuilder$Name" "text" "LLazyBuilder$Text;" ∈ mx_S0.1 := mx_mem (List.mem_of_getElem? (i := 84) (by decide +kernel)) rfl
theorem kw_121 : Cond.constantLong "LazyBuilder$Name" 18 (-1000000000000) ∈ mx_S0.1 := mx_mem (List.mem_of_getElem? (i := 83) (by decide +kernel)) rfl
theorem kw_122 : Cond.fieldLink "LazyBuilder$Name" 20 "LazyBuilder$Name" "kept" "J" ∈ mx_S0.1 := mx_mem (List.mem_of_getElem? (i := 89) (by decide +kernel)) rfl
theorem kw_123 : Cond.methodLink "LazyBuilder$Name" 11 y_LBText_init ∈ mx_S0.1 := mx_mem (List.mem_of_getElem? (i := 82) (by decide +kernel)) rfl
theorem kw_124 : Cond.methodLink "LazyBuilder$Plan" 1 objectInit ∈ mx_S0.1 := mx_mem (List.mem_of_getElem? (i := 302) (by decide +kernel)) rfl
theorem kw_125 : Cond.fieldLink "LazyBuilder$Plan" 7 "LazyBuilder$Plan" "maker" "I" ∈ mx_S0.1 := mx_mem (List.mem_of_getElem? (i := 303) (by decide +kernel)) rfl
theorem kw_126 : Cond.fieldLink "LazyBuilder$Plan" 13 "LazyBuilder$Plan" "inputs" "[J" ∈ mx_S0.1 := mx_mem (List.mem_of_getElem? (i := 306) (by decide +kernel)) rfl
theorem kw_127 : Cond.methodLink "LazyBuilder$Store" 3 objectInit ∈ mx_S0.1 := mx_mem (List.mem_of_getElem? (i := 49) (by decide +kernel)) rfl
theorem kw_128 : Cond.classLink "LazyBuilder$Store" 9 "LazyBuilder$Plan" ∈ mx_S0.1 := mx_mem (List.mem_of_getElem? (i := 50) (by decide +kernel)) rfl
theorem kw_129 : Cond.fieldLink "LazyBuilder$Store" 11 "LazyBuilder$Store" "plans" "[LLazyBuilder$Plan;" ∈ mx_S0.1 := mx_mem (List.mem_of_getElem? (i := 52) (by decide +kernel)) rfl
theorem kw_130 : Cond.fieldLink "LazyBuilder$Store" 17 "LazyBuilder$Store" "kinds" "[I" ∈ mx_S0.1 := mx_mem (List.mem_of_getElem? (i := 53) (by decide +kernel)) rfl
theorem kw_131 : Cond.constantLong "LazyBuilder$Store" 21 1000000000000 ∈ mx_S0.1 := mx_mem (List.mem_of_getElem? (i := 295) (by decide +kernel)) rfl
theorem kw_132 : Cond.methodLink "LazyBuilder$Store" 23 y_LBStore_planIn ∈ mx_S0.1 := mx_mem (List.mem_of_getElem? (i := 337) (by decide +kernel)) rfl
theorem kw_133 : Cond.instanceMethod y_LBStore_planIn ∈ mx_S0.1 := mx_mem (List.mem_of_getElem? (i := 339) (by decide +kernel)) rfl
theorem kw_134 : Cond.selects "LazyBuilder$Store" y_LBStore_planIn y_LBStore_planIn ∈ mx_S0.1 := mx_memp (List.mem_of_getElem? (i := 13) (by decide +kernel)) rfl
theorem kw_135 : Cond.fieldLink "LazyBuilder$Store" 27 "LazyBuilder$Store" "size" "I" ∈ mx_S0.1 := mx_mem (List.mem_of_getElem? (i := 55) (by decide +kernel)) rfl
theorem kw_136 : Cond.arrayClass .long ∈ mx_S0.1 := mx_mem (List.mem_of_getElem? (i := 120) (by decide +kernel)) rfl
theorem kw_137 : Cond.methodLink "LazyBuilder$Store" 37 arraycopyName ∈ mx_S0.1 := mx_mem (List.mem_of_getElem? (i := 297) (by decide +kernel)) rfl
theorem kw_138 : Cond.instantiable "LazyBuilder$Plan" 6 ∈ mx_S0.1 := mx_mem (List.mem_of_getElem? (i := 298) (by decide +kernel)) rfl
theorem kw_139 : Cond.initialized "LazyBuilder$Plan" ∈ mx_S0.1 := mx_mem (List.mem_of_getElem? (i := 9) (by decide +kernel)) rfl
theorem kw_140 : Cond.methodLink "LazyBuilder$Store" 43 y_LBPlan_init ∈ mx_S0.1 := mx_mem (List.mem_of_getElem? (i := 299) (by decide +kernel)) rfl
theorem kw_141 : Cond.instanceMethod y_LBPlan_init ∈ mx_S0.1 := mx_mem (List.mem_of_getElem? (i := 300) (by decide +kernel)) rfl
theorem kw_142 : Cond.constantLong "LazyBuilder$Store" 35 (-1000000000009) ∈ mx_S0.1 := mx_mem (List.mem_of_getElem? (i := 296) (by decide +kernel)) rfl
theorem kw_143 : Cond.methodLink "LazyBuilder$Store" 31 y_LBPlan_isAlike ∈ mx_S0.1 := mx_mem (List.mem_of_getElem? (i := 291) (by decide +kernel)) rfl
theorem kw_144 : Cond.instanceMethod y_LBPlan_isAlike ∈ mx_S0.1 := mx_mem (List.mem_of_getElem? (i := 292) (by decide +kernel)) rfl
theorem kw_145 : Cond.selects "LazyBuilder$Plan" y_LBPlan_isAlike y_LBPlan_isAlike ∈ mx_S0.1 := mx_mem (List.mem_of_getElem? (i := 293) (by decide +kernel)) rfl
theorem kw_146 : Cond.fieldLink "LazyBuilder$Store" 46 "LazyBuilder$Plan" "isBuilt" "Z" ∈ mx_S0.1 := mx_mem (List.mem_of_getElem? (i := 309) (by decide +kernel)) rfl
theorem kw_147 : Cond.constantLong "LazyBuilder$Store" 53 (-1000000000007) ∈ mx_S0.1 := mx_mem (List.mem_of_getElem? (i := 341) (by decide +kernel)) rfl
theorem kw_148 : Cond.fieldLink "LazyBuilder$Store" 50 "LazyBuilder$Plan" "result" "I" ∈ mx_S0.1 := mx_mem (List.mem_of_getElem? (i := 314) (by decide +kernel)) rfl
theorem kw_149 : Cond.fieldLink "LazyBuilder$Store" 55 "LazyBuilder$Plan" "inputs" "[J" ∈ mx_S0.1 := mx_mem (List.mem_of_getElem? (i := 307) (by decide +kernel)) rfl
theorem kw_150 : Cond.methodLink "LazyBuilder$Store" 67 y_LBStore_finish ∈ mx_S0.1 := mx_mem (List.mem_of_getElem? (i := 344) (by decide +kernel)) rfl
theorem kw_151 : Cond.instanceMethod y_LBStore_finish ∈ mx_S0.1 := mx_mem (List.mem_of_getElem? (i := 346) (by decide +kernel)) rfl
theorem kw_152 : Cond.selects "LazyBuilder$Store" y_LBStore_finish y_LBStore_finish ∈ mx_S0.1 := mx_memp (List.mem_of_getElem? (i := 14) (by decide +kernel)) rfl
theorem kw_153 : Cond.methodLink "LazyBuilder$Store" 59 y_LBStore_partOf ∈ mx_S0.1 := mx_mem (List.mem_of_getElem? (i := 342) (by decide +kernel)) rfl
theorem kw_154 : Cond.fieldLink "LazyBuilder$Store" 77 "LazyBuilder$Plan" "maker" "I" ∈ mx_S0.1 := mx_mem (List.mem_of_getElem? (i := 304) (by decide +kernel)) rfl
theorem kw_155 : Cond.methodLink "LazyBuilder$Store" 80 y_LBStore_finishWith ∈ mx_S0.1 := mx_mem (List.mem_of_getElem? (i := 349) (by decide +kernel)) rfl
theorem kw_156 : Cond.instanceMethod y_LBStore_finishWith ∈ mx_S0.1 := mx_mem (List.mem_of_getElem? (i := 351) (by decide +kernel)) rfl
theorem kw_157 : Cond.selects "LazyBuilder$Store" y_LBStore_finishWith y_LBStore_finishWith ∈ mx_S0.1 := mx_memp (List.mem_of_getElem? (i := 15) (by decide +kernel)) rfl
theorem kw_158 : Cond.methodLink "LazyBuilder$Store" 71 Lib.Math.max.name ∈ mx_S0.1 := mx_mem (List.mem_of_getElem? (i := 348) (by decide +kernel)) rfl
theorem kw_159 : Cond.fieldLink "LazyBuilder$Store" 84 "LazyBuilder$Store" "builds" "I" ∈ mx_S0.1 := mx_mem (List.mem_of_getElem? (i := 57) (by decide +kernel)) rfl
theorem kw_160 : Cond.fieldLink "LazyBuilder$Store" 87 "LazyBuilder$Plan" "isRoot" "Z" ∈ mx_S0.1 := mx_mem (List.mem_of_getElem? (i := 311) (by decide +kernel)) rfl
theorem kw_161 : Cond.fieldLink "LazyBuilder$Store" 90 "LazyBuilder$Plan" "isWanted" "Z" ∈ mx_S0.1 := mx_mem (List.mem_of_getElem? (i := 313) (by decide +kernel)) rfl
theorem kw_162 : Cond.methodLink "LazyBuilder$Store" 93 y_LBStore_wantInputs ∈ mx_S0.1 := mx_mem (List.mem_of_getElem? (i := 402) (by decide +kernel)) rfl
theorem kw_163 : Cond.instanceMethod y_LBStore_wantInputs ∈ mx_S0.1 := mx_mem (List.mem_of_getElem? (i := 404) (by decide +kernel)) rfl
theorem kw_164 : Cond.selects "LazyBuilder$Store" y_LBStore_wantInputs y_LBStore_wantInputs ∈ mx_S0.1 := mx_memp (List.mem_of_getElem? (i := 17) (by decide +kernel)) rfl
theorem kw_165 : Cond.methodLink "LazyBuilder$Worker" 3 objectInit ∈ mx_S0.1 := mx_mem (List.mem_of_getElem? (i := 73) (by decide +kernel)) rfl
theorem kw_166 : Cond.fieldLink "LazyBuilder$Worker" 9 "LazyBuilder$Worker" "store" "LLazyBuilder$Store;" ∈ mx_S0.1 := mx_mem (List.mem_of_getElem? (i := 103) (by decide +kernel)) rfl
theorem kw_167 : Cond.classLink "LazyBuilder$Worker" 15 "LazyBuilder$Name" ∈ mx_S0.1 := mx_mem (List.mem_of_getElem? (i := 74) (by decide +kernel)) rfl
theorem kw_168 : Cond.fieldLink "LazyBuilder$Worker" 17 "LazyBuilder$Worker" "names" "[LLazyBuilder$Name;" ∈ mx_S0.1 := mx_mem (List.mem_of_getElem? (i := 101) (by decide +kernel)) rfl
theorem kw_169 : Cond.fieldLink "LazyBuilder$Worker" 22 "LazyBuilder$Worker" "lists" "[J" ∈ mx_S0.1 := mx_mem (List.mem_of_getElem? (i := 104) (by decide +kernel)) rfl
theorem kw_170 : Cond.instantiable "LazyBuilder$Name" 4 ∈ mx_S0.1 := mx_mem (List.mem_of_getElem? (i := 76) (by decide +kernel)) rfl
theorem kw_171 : Cond.initialized "LazyBuilder$Name" ∈ mx_S0.1 := mx_mem (List.mem_of_getElem? (i := 5) (by decide +kernel)) rfl
theorem kw_172 : Cond.methodLink "LazyBuilder$Worker" 21 y_LBName_init ∈ mx_S0.1 := mx_mem (List.mem_of_getElem? (i := 77) (by decide +kernel)) rfl
theorem kw_173 : Cond.instanceMethod y_LBName_init ∈ mx_S0.1 := mx_mem (List.mem_of_getElem? (i := 78) (by decide +kernel)) rfl
theorem kw_174 : Cond.fieldLink "LazyBuilder$Worker" 26 "LazyBuilder$Name" "text" "LLazyBuilder$Text;" ∈ mx_S0.1 := mx_mem (List.mem_of_getElem? (i := 85) (by decide +kernel)) rfl
theorem kw_175 : Cond.fieldLink "LazyBuilder$Worker" 36 "LazyBuilder$Name" "bound" "Z" ∈ mx_S0.1 := mx_mem (List.mem_of_getElem? (i := 86) (by decide +kernel)) rfl
theorem kw_176 : Cond.methodLink "LazyBuilder$Worker" 40 y_LBWorker_forgetValues ∈ mx_S0.1 := mx_mem (List.mem_of_getElem? (i := 215) (by decide +kernel)) rfl
theorem kw_177 : Cond.instanceMethod y_LBWorker_forgetValues ∈ mx_S0.1 := mx_mem (List.mem_of_getElem? (i := 217) (by decide +kernel)) rfl
theorem kw_178 : Cond.selects "LazyBuilder$Worker" y_LBWorker_forgetValues y_LBWorker_forgetValues ∈ mx_S0.1 := mx_memp (List.mem_of_getElem? (i := 5) (by decide +kernel)) rfl
theorem kw_179 : Cond.methodLink "LazyBuilder$Worker" 30 y_LBText_copyFrom ∈ mx_S0.1 := mx_mem (List.mem_of_getElem? (i := 208) (by decide +kernel)) rfl
theorem kw_180 : Cond.instanceMethod y_LBText_copyFrom ∈ mx_S0.1 := mx_mem (List.mem_of_getElem? (i := 209) (by decide +kernel)) rfl
theorem kw_181 : Cond.selects "LazyBuilder$Text" y_LBText_copyFrom y_LBText_copyFrom ∈ mx_S0.1 := mx_mem (List.mem_of_getElem? (i := 210) (by decide +kernel)) rfl
theorem kw_182 : Cond.constantLong "LazyBuilder$Worker" 43 (-1000000000000) ∈ mx_S0.1 := mx_mem (List.mem_of_getElem? (i := 219) (by decide +kernel)) rfl
theorem kw_183 : Cond.fieldLink "LazyBuilder$Worker" 45 "LazyBuilder$Name" "kept" "J" ∈ mx_S0.1 := mx_mem (List.mem_of_getElem? (i := 90) (by decide +kernel)) rfl
theorem kw_184 : Cond.fieldLink "LazyBuilder$Worker" 49 "LazyBuilder$Worker" "failures" "I" ∈ mx_S0.1 := mx_mem (List.mem_of_getElem? (i := 107) (by decide +kernel)) rfl
theorem kw_185 : Cond.fieldLink "LazyBuilder$Worker" 57 "LazyBuilder$Worker" "steps" "I" ∈ mx_S0.1 := mx_mem (List.mem_of_getElem? (i := 105) (by decide +kernel)) rfl
theorem kw_186 : Cond.methodLink "LazyBuilder$Worker" 60 y_LBWorker_workName ∈ mx_S0.1 := mx_mem (List.mem_of_getElem? (i := 240) (by decide +kernel)) rfl
theorem kw_187 : Cond.instanceMethod y_LBWorker_workName ∈ mx_S0.1 := mx_mem (List.mem_of_getElem? (i := 242) (by decide +kernel)) rfl
theorem kw_188 : Cond.selects "LazyBuilder$Worker" y_LBWorker_workName y_LBWorker_workName ∈ mx_S0.1 := mx_memp (List.mem_of_getElem? (i := 6) (by decide +kernel)) rfl
theorem kw_189 : Cond.methodLink "LazyBuilder$Worker" 64 y_LBWorker_work ∈ mx_S0.1 := mx_mem (List.mem_of_getElem? (i := 246) (by decide +kernel)) rfl
theorem kw_190 : Cond.instanceMethod y_LBWorker_work ∈ mx_S0.1 := mx_mem (List.mem_of_getElem? (i := 248) (by decide +kernel)) rfl
theorem kw_191 : Cond.selects "LazyBuilder$Worker" y_LBWorker_work y_LBWorker_work ∈ mx_S0.1 := mx_memp (List.mem_of_getElem? (i := 7) (by decide +kernel)) rfl
theorem kw_192 : Cond.constantLong "LazyBuilder$Worker" 68 (-1000000000010) ∈ mx_S0.1 := mx_mem (List.mem_of_getElem? (i := 250) (by decide +kernel)) rfl
theorem kw_193 : Cond.methodLink "LazyBuilder$Worker" 84 y_LBWorker_workAbort ∈ mx_S0.1 := mx_mem (List.mem_of_getElem? (i := 270) (by decide +kernel)) rfl
theorem kw_194 : Cond.instanceMethod y_LBWorker_workAbort ∈ mx_S0.1 := mx_mem (List.mem_of_getElem? (i := 272) (by decide +kernel)) rfl
theorem kw_195 : Cond.selects "LazyBuilder$Worker" y_LBWorker_workAbort y_LBWorker_workAbort ∈ mx_S0.1 := mx_memp (List.mem_of_getElem? (i := 9) (by decide +kernel)) rfl
theorem kw_196 : Cond.methodLink "LazyBuilder$Worker" 81 y_LBWorker_workChoice ∈ mx_S0.1 := mx_mem (List.mem_of_getElem? (i := 254) (by decide +kernel)) rfl
theorem kw_197 : Cond.instanceMethod y_LBWorker_workChoice ∈ mx_S0.1 := mx_mem (List.mem_of_getElem? (i := 256) (by decide +kernel)) rfl
theorem kw_198 : Cond.selects "LazyBuilder$Worker" y_LBWorker_workChoice y_LBWorker_workChoice ∈ mx_S0.1 := mx_memp (List.mem_of_getElem? (i := 8) (by decide +kernel)) rfl
theorem kw_199 : Cond.methodLink "LazyBuilder$Worker" 90 y_LBWorker_workPlan ∈ mx_S0.1 := mx_mem (List.mem_of_getElem? (i := 283) (by decide +kernel)) rfl
theorem kw_200 : Cond.instanceMethod y_LBWorker_workPlan ∈ mx_S0.1 := mx_mem (List.mem_of_getElem? (i := 285) (by decide +kernel)) rfl
theorem kw_201 : Cond.selects "LazyBuilder$Worker" y_LBWorker_workPlan y_LBWorker_workPlan ∈ mx_S0.1 := mx_memp (List.mem_of_getElem? (i := 11) (by decide +kernel)) rfl
theorem kw_202 : Cond.methodLink "LazyBuilder$Worker" 93 y_LBWorker_workResult ∈ mx_S0.1 := mx_mem (List.mem_of_getElem? (i := 329) (by decide +kernel)) rfl
theorem kw_203 : Cond.instanceMethod y_LBWorker_workResult ∈ mx_S0.1 := mx_mem (List.mem_of_getElem? (i := 331) (by decide +kernel)) rfl
theorem kw_204 : Cond.selects "LazyBuilder$Worker" y_LBWorker_workResult y_LBWorker_workResult ∈ mx_S0.1 := mx_memp (List.mem_of_getElem? (i := 12) (by decide +kernel)) rfl
theorem kw_205 : Cond.methodLink "LazyBuilder$Worker" 87 y_LBWorker_workTry ∈ mx_S0.1 := mx_mem (List.mem_of_getElem? (i := 275) (by decide +kernel)) rfl
theorem kw_206 : Cond.instanceMethod y_LBWorker_workTry ∈ mx_S0.1 := mx_mem (List.mem_of_getElem? (i := 277) (by decide +kernel)) rfl
theorem kw_207 : Cond.selects "LazyBuilder$Worker" y_LBWorker_workTry y_LBWorker_workTry ∈ mx_S0.1 := mx_memp (List.mem_of_getElem? (i := 10) (by decide +kernel)) rfl
theorem kw_208 : Cond.methodLink "LazyBuilder$Worker" 96 y_LBWorker_workPair ∈ mx_S0.1 := mx_mem (List.mem_of_getElem? (i := 353) (by decide +kernel)) rfl
theorem kw_209 : Cond.instanceMethod y_LBWorker_workPair ∈ mx_S0.1 := mx_mem (List.mem_of_getElem? (i := 355) (by decide +kernel)) rfl
theorem kw_210 : Cond.selects "LazyBuilder$Worker" y_LBWorker_workPair y_LBWorker_workPair ∈ mx_S0.1 := mx_memp (List.mem_of_getElem? (i := 16) (by decide +kernel)) rfl
theorem kw_211 : Cond.methodLink "LazyBuilder$Worker" 70 y_LBText_codeAt ∈ mx_S0.1 := mx_mem (List.mem_of_getElem? (i := 251) (by decide +kernel)) rfl
theorem kw_212 : Cond.fieldLink "LazyBuilder$Worker" 101 "LazyBuilder$Name" "busy" "Z" ∈ mx_S0.1 := mx_mem (List.mem_of_getElem? (i := 88) (by decide +kernel)) rfl
theorem kw_213 : Cond.constantLong "LazyBuilder$Worker" 104 (-1000000000008) ∈ mx_S0.1 := mx_mem (List.mem_of_getElem? (i := 245) (by decide +kernel)) rfl
theorem kw_214 : Cond.constantLong "LazyBuilder$Worker" 99 (-1000000000004) ∈ mx_S0.1 := mx_mem (List.mem_of_getElem? (i := 244) (by decide +kernel)) rfl
theorem kw_215 : Cond.constantLong "LazyBuilder$Worker" 112 (-1000000000005) ∈ mx_S0.1 := mx_mem (List.mem_of_getElem? (i := 265) (by decide +kernel)) rfl
theorem kw_216 : Cond.methodLink "LazyBuilder$Worker" 114 y_LBWorker_combine ∈ mx_S0.1 := mx_mem (List.mem_of_getElem? (i := 357) (by decide +kernel)) rfl
theorem kw_217 : Cond.static y_LBWorker_combine ∈ mx_S0.1 := mx_mem (List.mem_of_getElem? (i := 358) (by decide +kernel)) rfl
theorem kw_218 : Cond.static y_LB_isPlan ∈ mx_S0.1 := mx_mem (List.mem_of_getElem? (i := 262) (by decide +kernel)) rfl
theorem kw_219 : Cond.methodLink "LazyBuilder$Worker" 106 y_LBText_endOf ∈ mx_S0.1 := mx_mem (List.mem_of_getElem? (i := 266) (by decide +kernel)) rfl
theorem kw_220 : Cond.instanceMethod y_LBText_endOf ∈ mx_S0.1 := mx_mem (List.mem_of_getElem? (i := 267) (by decide +kernel)) rfl
theorem kw_221 : Cond.selects "LazyBuilder$Text" y_LBText_endOf y_LBText_endOf ∈ mx_S0.1 := mx_mem (List.mem_of_getElem? (i := 268) (by decide +kernel)) rfl
theorem kw_222 : Cond.constantLong "LazyBuilder$Worker" 118 (-1000000000006) ∈ mx_S0.1 := mx_mem (List.mem_of_getElem? (i := 274) (by decide +kernel)) rfl
theorem kw_223 : Cond.methodLink "LazyBuilder$Worker" 120 y_LBWorker_canBeMadeGood ∈ mx_S0.1 := mx_mem (List.mem_of_getElem? (i := 279) (by decide +kernel)) rfl
theorem kw_224 : Cond.static y_LBWorker_canBeMadeGood ∈ mx_S0.1 := mx_mem (List.mem_of_getElem? (i := 280) (by decide +kernel)) rfl
theorem kw_225 : Cond.constantLong "LazyBuilder$Worker" 123 (-1000000000007) ∈ mx_S0.1 := mx_mem (List.mem_of_getElem? (i := 282) (by decide +kernel)) rfl
theorem kw_226 : Cond.methodLink "LazyBuilder$Worker" 125 y_LBStore_planOf ∈ mx_S0.1 := mx_mem (List.mem_of_getElem? (i := 287) (by decide +kernel)) rfl
theorem kw_227 : Cond.instanceMethod y_LBStore_planOf ∈ mx_S0.1 := mx_mem (List.mem_of_getElem? (i := 288) (by decide +kernel)) rfl
theorem kw_228 : Cond.selects "LazyBuilder$Store" y_LBStore_planOf y_LBStore_planOf ∈ mx_S0.1 := mx_mem (List.mem_of_getElem? (i := 289) (by decide +kernel)) rfl
theorem kw_229 : Cond.methodLink "LazyBuilder$Worker" 131 y_LBStore_partOf ∈ mx_S0.1 := mx_mem (List.mem_of_getElem? (i := 333) (by decide +kernel)) rfl
theorem kw_230 : Cond.methodLink "LazyBuilderModel" 1 objectInit ∈ mx_S0.1 := mx_mem (List.mem_of_getElem? (i := 431) (by decide +kernel)) rfl
theorem kw_231 : Cond.fieldLink "LazyBuilderModel" 7 "LazyBuilderModel" "text" "[I" ∈ mx_S0.1 := mx_mem (List.mem_of_getElem? (i := 432) (by decide +kernel)) rfl
theorem kw_232 : Cond.fieldLink "LazyBuilderModel" 13 "LazyBuilderModel" "size" "[I" ∈ mx_S0.1 := mx_mem (List.mem_of_getElem? (i := 433) (by decide +kernel)) rfl
theorem kw_233 : Cond.fieldLink "LazyBuilderModel" 16 "LazyBuilderModel" "kept" "[J" ∈ mx_S0.1 := mx_mem (List.mem_of_getElem? (i := 434) (by decide +kernel)) rfl
theorem kw_234 : Cond.arrayClass .boolean ∈ mx_S0.1 := mx_mem (List.mem_of_getElem? (i := 541) (by decide +kernel)) rfl
theorem kw_235 : Cond.fieldLink "LazyBuilderModel" 20 "LazyBuilderModel" "has" "[Z" ∈ mx_S0.1 := mx_mem (List.mem_of_getElem? (i := 435) (by decide +kernel)) rfl
theorem kw_236 : Cond.fieldLink "LazyBuilderModel" 24 "LazyBuilderModel" "bound" "[Z" ∈ mx_S0.1 := mx_mem (List.mem_of_getElem? (i := 436) (by decide +kernel)) rfl
theorem kw_237 : Cond.fieldLink "LazyBuilderModel" 27 "LazyBuilderModel" "working" "[Z" ∈ mx_S0.1 := mx_mem (List.mem_of_getElem? (i := 437) (by decide +kernel)) rfl
theorem kw_238 : Cond.fieldLink "LazyBuilderModel" 30 "LazyBuilderModel" "bad" "I" ∈ mx_S0.1 := mx_mem (List.mem_of_getElem? (i := 438) (by decide +kernel)) rfl
theorem kw_239 : Cond.fieldLink "LazyBuilderModel" 34 "LazyBuilderModel" "rest" "[I" ∈ mx_S0.1 := mx_mem (List.mem_of_getElem? (i := 440) (by decide +kernel)) rfl
theorem kw_240 : Cond.fieldLink "LazyBuilderModel" 37 "LazyBuilderModel" "list" "[Z" ∈ mx_S0.1 := mx_mem (List.mem_of_getElem? (i := 441) (by decide +kernel)) rfl
theorem kw_241 : Cond.fieldLink "LazyBuilderModel" 40 "LazyBuilderModel" "came" "[I" ∈ mx_S0.1 := mx_mem (List.mem_of_getElem? (i := 442) (by decide +kernel)) rfl
theorem kw_242 : Cond.fieldLink "LazyBuilderModel" 43 "LazyBuilderModel" "sign" "[I" ∈ mx_S0.1 := mx_mem (List.mem_of_getElem? (i := 444) (by decide +kernel)) rfl
theorem kw_243 : Cond.fieldLink "LazyBuilderModel" 46 "LazyBuilderModel" "of" "[I" ∈ mx_S0.1 := mx_mem (List.mem_of_getElem? (i := 445) (by decide +kernel)) rfl
theorem kw_244 : Cond.fieldLink "LazyBuilderModel" 49 "LazyBuilderModel" "next" "[I" ∈ mx_S0.1 := mx_mem (List.mem_of_getElem? (i := 446) (by decide +kernel)) rfl
theorem kw_245 : Cond.fieldLink "LazyBuilderModel" 52 "LazyBuilderModel" "parts" "[I" ∈ mx_S0.1 := mx_mem (List.mem_of_getElem? (i := 447) (by decide +kernel)) rfl
theorem kw_246 : Cond.fieldLink "LazyBuilderModel" 55 "LazyBuilderModel" "digitOf" "[I" ∈ mx_S0.1 := mx_mem (List.mem_of_getElem? (i := 448) (by decide +kernel)) rfl
theorem kw_247 : Cond.fieldLink "LazyBuilderModel" 58 "LazyBuilderModel" "value" "[J" ∈ mx_S0.1 := mx_mem (List.mem_of_getElem? (i := 450) (by decide +kernel)) rfl
theorem kw_248 : Cond.fieldLink "LazyBuilderModel" 61 "LazyBuilderModel" "maker" "[I" ∈ mx_S0.1 := mx_mem (List.mem_of_getElem? (i := 456) (by decide +kernel)) rfl
theorem kw_249 : Cond.fieldLink "LazyBuilderModel" 64 "LazyBuilderModel" "inputs" "[I" ∈ mx_S0.1 := mx_mem (List.mem_of_getElem? (i := 457) (by decide +kernel)) rfl
theorem kw_250 : Cond.fieldLink "LazyBuilderModel" 67 "LazyBuilderModel" "input" "[J" ∈ mx_S0.1 := mx_mem (List.mem_of_getElem? (i := 458) (by decide +kernel)) rfl
theorem kw_251 : Cond.fieldLink "LazyBuilderModel" 70 "LazyBuilderModel" "built" "[Z" ∈ mx_S0.1 := mx_mem (List.mem_of_getElem? (i := 459) (by decide +kernel)) rfl
theorem kw_252 : Cond.fieldLink "LazyBuilderModel" 73 "LazyBuilderModel" "made" "[I" ∈ mx_S0.1 := mx_mem (List.mem_of_getElem? (i := 460) (by decide +kernel)) rfl
theorem kw_253 : Cond.fieldLink "LazyBuilderModel" 76 "LazyBuilderModel" "root" "[Z" ∈ mx_S0.1 := mx_mem (List.mem_of_getElem? (i := 461) (by decide +kernel)) rfl
theorem kw_254 : Cond.fieldLink "LazyBuilderModel" 79 "LazyBuilderModel" "near" "[Z" ∈ mx_S0.1 := mx_mem (List.mem_of_getElem? (i := 462) (by decide +kernel)) rfl
theorem kw_255 : Cond.fieldLink "LazyBuilderModel" 82 "LazyBuilderModel" "kind" "[I" ∈ mx_S0.1 := mx_mem (List.mem_of_getElem? (i := 463) (by decide +kernel)) rfl
theorem kw_256 : Cond.fieldLink "LazyBuilderModel" 85 "LazyBuilderModel" "way" "[I" ∈ mx_S0.1 := mx_mem (List.mem_of_getElem? (i := 464) (by decide +kernel)) rfl
theorem kw_257 : Cond.fieldLink "LazyBuilderModel" 88 "LazyBuilderModel" "done" "[I" ∈ mx_S0.1 := mx_mem (List.mem_of_getElem? (i := 465) (by decide +kernel)) rfl
theorem kw_258 : Cond.methodLink "LazyBuilderModel" 98 y_RM_wants ∈ mx_S0.1 := mx_mem (List.mem_of_getElem? (i := 554) (by decide +kernel)) rfl
theorem kw_259 : Cond.instanceMethod y_RM_wants ∈ mx_S0.1 := mx_mem (List.mem_of_getElem? (i := 556) (by decide +kernel)) rfl
theorem kw_260 : Cond.selects "LazyBuilderModel" y_RM_wants y_RM_wants ∈ mx_S0.1 := mx_memp (List.mem_of_getElem? (i := 20) (by decide +kernel)) rfl
theorem kw_261 : Cond.methodLink "LazyBuilderModel" 95 y_RM_name ∈ mx_S0.1 := mx_mem (List.mem_of_getElem? (i := 550) (by decide +kernel)) rfl
theorem kw_262 : Cond.instanceMethod y_RM_name ∈ mx_S0.1 := mx_mem (List.mem_of_getElem? (i := 552) (by decide +kernel)) rfl
theorem kw_263 : Cond.selects "LazyBuilderModel" y_RM_name y_RM_name ∈ mx_S0.1 := mx_memp (List.mem_of_getElem? (i := 19) (by decide +kernel)) rfl
theorem kw_264 : Cond.methodLink "LazyBuilderModel" 91 y_RM_digit ∈ mx_S0.1 := mx_mem (List.mem_of_getElem? (i := 546) (by decide +kernel)) rfl
theorem kw_265 : Cond.instanceMethod y_RM_digit ∈ mx_S0.1 := mx_mem (List.mem_of_getElem? (i := 548) (by decide +kernel)) rfl
theorem kw_266 : Cond.selects "LazyBuilderModel" y_RM_digit y_RM_digit ∈ mx_S0.1 := mx_memp (List.mem_of_getElem? (i := 18) (by decide +kernel)) rfl
theorem kw_267 : Cond.methodLink "LazyBuilderModel" 102 y_RM_type ∈ mx_S0.1 := mx_mem (List.mem_of_getElem? (i := 562) (by decide +kernel)) rfl
theorem kw_268 : Cond.instanceMethod y_RM_type ∈ mx_S0.1 := mx_mem (List.mem_of_getElem? (i := 543) (by decide +kernel)) rfl
theorem kw_269 : Cond.selects "LazyBuilderModel" y_RM_type y_RM_type ∈ mx_S0.1 := mx_mem (List.mem_of_getElem? (i := 544) (by decide +kernel)) rfl
theorem kw_270 : Cond.fieldLink "LazyBuilderModel" 105 "LazyBuilderModel" "level" "I" ∈ mx_S0.1 := mx_mem (List.mem_of_getElem? (i := 443) (by decide +kernel)) rfl
theorem kw_271 : Cond.fieldLink "LazyBuilderModel" 108 "LazyBuilderModel" "depth" "I" ∈ mx_S0.1 := mx_mem (List.mem_of_getElem? (i := 439) (by decide +kernel)) rfl
theorem kw_272 : Cond.methodLink "LazyBuilderModel" 111 y_RM_deeper ∈ mx_S0.1 := mx_mem (List.mem_of_getElem? (i := 575) (by decide +kernel)) rfl
theorem kw_273 : Cond.instanceMethod y_RM_deeper ∈ mx_S0.1 := mx_mem (List.mem_of_getElem? (i := 577) (by decide +kernel)) rfl
theorem kw_274 : Cond.selects "LazyBuilderModel" y_RM_deeper y_RM_deeper ∈ mx_S0.1 := mx_memp (List.mem_of_getElem? (i := 23) (by decide +kernel)) rfl
theorem kw_275 : Cond.methodLink "LazyBuilderModel" 115 y_RM_complete ∈ mx_S0.1 := mx_mem (List.mem_of_getElem? (i := 579) (by decide +kernel)) rfl
theorem kw_276 : Cond.instanceMethod y_RM_complete ∈ mx_S0.1 := mx_mem (List.mem_of_getElem? (i := 581) (by decide +kernel)) rfl
theorem kw_277 : Cond.selects "LazyBuilderModel" y_RM_complete y_RM_complete ∈ mx_S0.1 := mx_memp (List.mem_of_getElem? (i := 24) (by decide +kernel)) rfl
theorem kw_278 : Cond.methodLink "LazyBuilderModel" 118 y_RM_badPlace ∈ mx_S0.1 := mx_mem (List.mem_of_getElem? (i := 571) (by decide +kernel)) rfl
theorem kw_279 : Cond.instanceMethod y_RM_badPlace ∈ mx_S0.1 := mx_mem (List.mem_of_getElem? (i := 573) (by decide +kernel)) rfl
theorem kw_280 : Cond.selects "LazyBuilderModel" y_RM_badPlace y_RM_badPlace ∈ mx_S0.1 := mx_memp (List.mem_of_getElem? (i := 22) (by decide +kernel)) rfl
theorem kw_281 : Cond.methodLink "LazyBuilderModel" 122 y_RM_syntax ∈ mx_S0.1 := mx_mem (List.mem_of_getElem? (i := 567) (by decide +kernel)) rfl
theorem kw_282 : Cond.instanceMethod y_RM_syntax ∈ mx_S0.1 := mx_mem (List.mem_of_getElem? (i := 569) (by decide +kernel)) rfl
theorem kw_283 : Cond.selects "LazyBuilderModel" y_RM_syntax y_RM_syntax ∈ mx_S0.1 := mx_memp (List.mem_of_getElem? (i := 21) (by decide +kernel)) rfl
theorem kw_284 : Cond.methodLink "LazyBuilderModel" 126 y_RM_forget ∈ mx_S0.1 := mx_mem (List.mem_of_getElem? (i := 583) (by decide +kernel)) rfl
theorem kw_285 : Cond.instanceMethod y_RM_forget ∈ mx_S0.1 := mx_mem (List.mem_of_getElem? (i := 585) (by decide +kernel)) rfl
theorem kw_286 : Cond.selects "LazyBuilderModel" y_RM_forget y_RM_forget ∈ mx_S0.1 := mx_memp (List.mem_of_getElem? (i := 25) (by decide +kernel)) rfl
theorem kw_287 : Cond.fieldLink "LazyBuilderModel" 129 "LazyBuilderModel" "pushed" "Z" ∈ mx_S0.1 := mx_mem (List.mem_of_getElem? (i := 449) (by decide +kernel)) rfl
theorem kw_288 : Cond.fieldLink "LazyBuilderModel" 133 "LazyBuilderModel" "steps" "I" ∈ mx_S0.1 := mx_mem (List.mem_of_getElem? (i := 452) (by decide +kernel)) rfl
theorem kw_289 : Cond.methodLink "LazyBuilderModel" 143 y_RM_enter ∈ mx_S0.1 := mx_mem (List.mem_of_getElem? (i := 603) (by decide +kernel)) rfl
theorem kw_290 : Cond.instanceMethod y_RM_enter ∈ mx_S0.1 := mx_mem (List.mem_of_getElem? (i := 605) (by decide +kernel)) rfl
theorem kw_291 : Cond.selects "LazyBuilderModel" y_RM_enter y_RM_enter ∈ mx_S0.1 := mx_memp (List.mem_of_getElem? (i := 28) (by decide +kernel)) rfl
theorem kw_292 : Cond.fieldLink "LazyBuilderModel" 139 "LazyBuilderModel" "result" "J" ∈ mx_S0.1 := mx_mem (List.mem_of_getElem? (i := 455) (by decide +kernel)) rfl
theorem kw_293 : Cond.fieldLink "LazyBuilderModel" 136 "LazyBuilderModel" "failure" "I" ∈ mx_S0.1 := mx_mem (List.mem_of_getElem? (i := 454) (by decide +kernel)) rfl
theorem kw_294 : Cond.fieldLink "LazyBuilderModel" 146 "LazyBuilderModel" "frames" "I" ∈ mx_S0.1 := mx_mem (List.mem_of_getElem? (i := 451) (by decide +kernel)) rfl
theorem kw_295 : Cond.constantLong "LazyBuilderModel" 149 500000000000 ∈ mx_S0.1 := mx_mem (List.mem_of_getElem? (i := 627) (by decide +kernel)) rfl
theorem kw_296 : Cond.methodLink "LazyBuilderModel" 151 y_RM_isNumber ∈ mx_S0.1 := mx_mem (List.mem_of_getElem? (i := 623) (by decide +kernel)) rfl
theorem kw_297 : Cond.instanceMethod y_RM_isNumber ∈ mx_S0.1 := mx_mem (List.mem_of_getElem? (i := 625) (by decide +kernel)) rfl
theorem kw_298 : Cond.selects "LazyBuilderModel" y_RM_isNumber y_RM_isNumber ∈ mx_S0.1 := mx_memp (List.mem_of_getElem? (i := 33) (by decide +kernel)) rfl
theorem kw_299 : Cond.fieldLink "LazyBuilderModel" 155 "LazyBuilderModel" "plans" "I" ∈ mx_S0.1 := mx_mem (List.mem_of_getElem? (i := 466) (by decide +kernel)) rfl
theorem kw_300 : Cond.constantLong "LazyBuilderModel" 158 1000000000000 ∈ mx_S0.1 := mx_mem (List.mem_of_getElem? (i := 632) (by decide +kernel)) rfl
theorem kw_301 : Cond.methodLink "LazyBuilderModel" 160 y_RM_construct ∈ mx_S0.1 := mx_mem (List.mem_of_getElem? (i := 637) (by decide +kernel)) rfl
theorem kw_302 : Cond.instanceMethod y_RM_construct ∈ mx_S0.1 := mx_mem (List.mem_of_getElem? (i := 639) (by decide +kernel)) rfl
theorem kw_303 : Cond.selects "LazyBuilderModel" y_RM_construct y_RM_construct ∈ mx_S0.1 := mx_memp (List.mem_of_getElem? (i := 36) (by decide +kernel)) rfl
theorem kw_304 : Cond.methodLink "LazyBuilderModel" 175 y_RM_order ∈ mx_S0.1 := mx_mem (List.mem_of_getElem? (i := 633) (by decide +kernel)) rfl
theorem kw_305 : Cond.instanceMethod y_RM_order ∈ mx_S0.1 := mx_mem (List.mem_of_getElem? (i := 635) (by decide +kernel)) rfl
theorem kw_306 : Cond.selects "LazyBuilderModel" y_RM_order y_RM_order ∈ mx_S0.1 := mx_memp (List.mem_of_getElem? (i := 35) (by decide +kernel)) rfl
theorem kw_307 : Cond.methodLink "LazyBuilderModel" 171 y_RM_describe ∈ mx_S0.1 := mx_mem (List.mem_of_getElem? (i := 628) (by decide +kernel)) rfl
theorem kw_308 : Cond.instanceMethod y_RM_describe ∈ mx_S0.1 := mx_mem (List.mem_of_getElem? (i := 630) (by decide +kernel)) rfl
theorem kw_309 : Cond.selects "LazyBuilderModel" y_RM_describe y_RM_describe ∈ mx_S0.1 := mx_memp (List.mem_of_getElem? (i := 34) (by decide +kernel)) rfl
theorem kw_310 : Cond.methodLink "LazyBuilderModel" 163 y_RM_behind ∈ mx_S0.1 := mx_mem (List.mem_of_getElem? (i := 619) (by decide +kernel)) rfl
theorem kw_311 : Cond.instanceMethod y_RM_behind ∈ mx_S0.1 := mx_mem (List.mem_of_getElem? (i := 621) (by decide +kernel)) rfl
theorem kw_312 : Cond.selects "LazyBuilderModel" y_RM_behind y_RM_behind ∈ mx_S0.1 := mx_memp (List.mem_of_getElem? (i := 32) (by decide +kernel)) rfl
theorem kw_313 : Cond.methodLink "LazyBuilderModel" 167 y_RM_begin ∈ mx_S0.1 := mx_mem (List.mem_of_getElem? (i := 599) (by decide +kernel)) rfl
theorem kw_314 : Cond.instanceMethod y_RM_begin ∈ mx_S0.1 := mx_mem (List.mem_of_getElem? (i := 601) (by decide +kernel)) rfl
theorem kw_315 : Cond.selects "LazyBuilderModel" y_RM_begin y_RM_begin ∈ mx_S0.1 := mx_memp (List.mem_of_getElem? (i := 27) (by decide +kernel)) rfl
theorem kw_316 : Cond.methodLink "LazyBuilderModel" 178 y_RM_operate ∈ mx_S0.1 := mx_mem (List.mem_of_getElem? (i := 649) (by decide +kernel)) rfl
theorem kw_317 : Cond.instanceMethod y_RM_operate ∈ mx_S0.1 := mx_mem (List.mem_of_getElem? (i := 651) (by decide +kernel)) rfl
theorem kw_318 : Cond.selects "LazyBuilderModel" y_RM_operate y_RM_operate ∈ mx_S0.1 := mx_memp (List.mem_of_getElem? (i := 39) (by decide +kernel)) rfl
theorem kw_319 : Cond.methodLink "LazyBuilderModel" 181 y_RM_mild ∈ mx_S0.1 := mx_mem (List.mem_of_getElem? (i := 611) (by decide +kernel)) rfl
theorem kw_320 : Cond.instanceMethod y_RM_mild ∈ mx_S0.1 := mx_mem (List.mem_of_getElem? (i := 613) (by decide +kernel)) rfl
theorem kw_321 : Cond.selects "LazyBuilderModel" y_RM_mild y_RM_mild ∈ mx_S0.1 := mx_memp (List.mem_of_getElem? (i := 30) (by decide +kernel)) rfl
theorem kw_322 : Cond.fieldLink "LazyBuilderModel" 184 "LazyBuilderModel" "failures" "I" ∈ mx_S0.1 := mx_mem (List.mem_of_getElem? (i := 453) (by decide +kernel)) rfl
theorem kw_323 : Cond.methodLink "LazyBuilderModel" 187 y_RM_unwind ∈ mx_S0.1 := mx_mem (List.mem_of_getElem? (i := 607) (by decide +kernel)) rfl
theorem kw_324 : Cond.instanceMethod y_RM_unwind ∈ mx_S0.1 := mx_mem (List.mem_of_getElem? (i := 609) (by decide +kernel)) rfl
theorem kw_325 : Cond.selects "LazyBuilderModel" y_RM_unwind y_RM_unwind ∈ mx_S0.1 := mx_memp (List.mem_of_getElem? (i := 29) (by decide +kernel)) rfl
theorem kw_326 : Cond.methodLink "LazyBuilderModel" 190 y_RM_proceed ∈ mx_S0.1 := mx_mem (List.mem_of_getElem? (i := 615) (by decide +kernel)) rfl
theorem kw_327 : Cond.instanceMethod y_RM_proceed ∈ mx_S0.1 := mx_mem (List.mem_of_getElem? (i := 617) (by decide +kernel)) rfl
theorem kw_328 : Cond.selects "LazyBuilderModel" y_RM_proceed y_RM_proceed ∈ mx_S0.1 := mx_memp (List.mem_of_getElem? (i := 31) (by decide +kernel)) rfl
theorem kw_329 : Cond.methodLink "LazyBuilderModel" 193 y_RM_work ∈ mx_S0.1 := mx_mem (List.mem_of_getElem? (i := 595) (by decide +kernel)) rfl
theorem kw_330 : Cond.instanceMethod y_RM_work ∈ mx_S0.1 := mx_mem (List.mem_of_getElem? (i := 597) (by decide +kernel)) rfl
theorem kw_331 : Cond.selects "LazyBuilderModel" y_RM_work y_RM_work ∈ mx_S0.1 := mx_memp (List.mem_of_getElem? (i := 26) (by decide +kernel)) rfl
theorem kw_332 : Cond.methodLink "LazyBuilderModel" 196 y_RM_part ∈ mx_S0.1 := mx_mem (List.mem_of_getElem? (i := 645) (by decide +kernel)) rfl
theorem kw_333 : Cond.instanceMethod y_RM_part ∈ mx_S0.1 := mx_mem (List.mem_of_getElem? (i := 647) (by decide +kernel)) rfl
theorem kw_334 : Cond.selects "LazyBuilderModel" y_RM_part y_RM_part ∈ mx_S0.1 := mx_memp (List.mem_of_getElem? (i := 38) (by decide +kernel)) rfl
theorem kw_335 : Cond.fieldLink "LazyBuilderModel" 200 "LazyBuilderModel" "builds" "I" ∈ mx_S0.1 := mx_mem (List.mem_of_getElem? (i := 467) (by decide +kernel)) rfl
theorem kw_336 : Cond.methodLink "LazyBuilderModel" 203 y_RM_assemble ∈ mx_S0.1 := mx_mem (List.mem_of_getElem? (i := 641) (by decide +kernel)) rfl
theorem kw_337 : Cond.instanceMethod y_RM_assemble ∈ mx_S0.1 := mx_mem (List.mem_of_getElem? (i := 643) (by decide +kernel)) rfl
theorem kw_338 : Cond.selects "LazyBuilderModel" y_RM_assemble y_RM_assemble ∈ mx_S0.1 := mx_memp (List.mem_of_getElem? (i := 37) (by decide +kernel)) rfl
theorem kw_339 : Cond.constantLong "LazyBuilderModel" 206 (-1000000000000) ∈ mx_S0.1 := mx_mem (List.mem_of_getElem? (i := 661) (by decide +kernel)) rfl
theorem kw_340 : Cond.methodLink "LazyBuilderModel" 208 y_RM_noPlan ∈ mx_S0.1 := mx_mem (List.mem_of_getElem? (i := 670) (by decide +kernel)) rfl
theorem kw_341 : Cond.instanceMethod y_RM_noPlan ∈ mx_S0.1 := mx_mem (List.mem_of_getElem? (i := 672) (by decide +kernel)) rfl
theorem kw_342 : Cond.selects "LazyBuilderModel" y_RM_noPlan y_RM_noPlan ∈ mx_S0.1 := mx_memp (List.mem_of_getElem? (i := 40) (by decide +kernel)) rfl
theorem k_objcode : Cond.code objectInit ⟨#[0xb1]⟩ 1 none ∈ mx_S0.1 := mx_mem (List.mem_of_getElem? (i := 17) (by decide +kernel)) rfl
theorem k_mmax1 : Cond.static Lib.Math.max.name ∈ mx_S0.1 := mx_mem (List.mem_of_getElem? (i := 198) (by decide +kernel)) rfl
theorem k_mmax2 : Cond.initialized "java/lang/Math" ∈ mx_S0.1 := mx_mem (List.mem_of_getElem? (i := 7) (by decide +kernel)) rfl
theorem k_mmax3 : Cond.code Lib.Math.max.name Lib.Math.max.code 2 (some .int) ∈ mx_S0.1 := mx_mem (List.mem_of_getElem? (i := 199) (by decide +kernel)) rfl
theorem k_acp1 : Cond.native arraycopyName ∈ mx_S0.1 := mx_mem (List.mem_of_getElem? (i := 214) (by decide +kernel)) rfl
theorem k_acp2 : Cond.static arraycopyName ∈ mx_S0.1 := mx_mem (List.mem_of_getElem? (i := 213) (by decide +kernel)) rfl
theorem k_acp3 : Cond.initialized "java/lang/System" ∈ mx_S0.1 := mx_mem (List.mem_of_getElem? (i := 8) (by decide +kernel)) rfl
theorem ok_LB_init : mx_okM mx_S0 mm_LB_init 0 := ⟨by decide +kernel, ⟨by decide +kernel, by decide +kernel, by decide +kernel⟩, by decide +kernel, mx_mem (List.mem_of_getElem? (i := 14) (by decide +kernel)) rfl, mx_mem (List.mem_of_getElem? (i := 1) (by decide +kernel)) rfl⟩
theorem ok_LB_type : mx_okM mx_S0 mm_LB_type 1 := ⟨by decide +kernel, ⟨by decide +kernel, by decide +kernel, by decide +kernel⟩, by decide +kernel, mx_mem (List.mem_of_getElem? (i := 141) (by decide +kernel)) rfl, mx_mem (List.mem_of_getElem? (i := 1) (by decide +kernel)) rfl⟩
theorem ok_LB_types : mx_okM mx_S0 mm_LB_types 1 := ⟨by decide +kernel, ⟨by decide +kernel, by decide +kernel, by decide +kernel⟩, by decide +kernel, mx_mem (List.mem_of_getElem? (i := 161) (by decide +kernel)) rfl, mx_mem (List.mem_of_getElem? (i := 1) (by decide +kernel)) rfl⟩
theorem ok_LB_define : mx_okM mx_S0 mm_LB_define 1 := ⟨by decide +kernel, ⟨by decide +kernel, by decide +kernel, by decide +kernel⟩, by decide +kernel, mx_mem (List.mem_of_getElem? (i := 165) (by decide +kernel)) rfl, mx_mem (List.mem_of_getElem? (i := 1) (by decide +kernel)) rfl⟩
theorem ok_LB_undefine : mx_okM mx_S0 mm_LB_undefine 1 := ⟨by decide +kernel, ⟨by decide +kernel, by decide +kernel, by decide +kernel⟩, by decide +kernel, mx_mem (List.mem_of_getElem? (i := 223) (by decide +kernel)) rfl, mx_mem (List.mem_of_getElem? (i := 1) (by decide +kernel)) rfl⟩
theorem ok_LB_force : mx_okM mx_S0 mm_LB_force 1 := ⟨by decide +kernel, ⟨by decide +kernel, by decide +kernel, by decide +kernel⟩, by decide +kernel, mx_mem (List.mem_of_getElem? (i := 231) (by decide +kernel)) rfl, mx_mem (List.mem_of_getElem? (i := 1) (by decide +kernel)) rfl⟩
theorem ok_LB_show : mx_okM mx_S0 mm_LB_show 0 := ⟨by decide +kernel, ⟨by decide +kernel, by decide +kernel, by decide +kernel⟩, by decide +kernel, mx_mem (List.mem_of_getElem? (i := 367) (by decide +kernel)) rfl, mx_mem (List.mem_of_getElem? (i := 1) (by decide +kernel)) rfl⟩
theorem ok_LB_value : mx_okM mx_S0 mm_LB_value 1 := ⟨by decide +kernel, ⟨by decide +kernel, by decide +kernel, by decide +kernel⟩, by decide +kernel, mx_mem (List.mem_of_getElem? (i := 376) (by decide +kernel)) rfl, mx_mem (List.mem_of_getElem? (i := 1) (by decide +kernel)) rfl⟩
theorem ok_LB_builder : mx_okM mx_S0 mm_LB_builder 2 := ⟨by decide +kernel, ⟨by decide +kernel, by decide +kernel, by decide +kernel⟩, by decide +kernel, mx_mem (List.mem_of_getElem? (i := 380) (by decide +kernel)) rfl, mx_mem (List.mem_of_getElem? (i := 1) (by decide +kernel)) rfl⟩
theorem ok_LB_build : mx_okM mx_S0 mm_LB_build 1 := ⟨by decide +kernel, ⟨by decide +kernel, by decide +kernel, by decide +kernel⟩, by decide +kernel, mx_mem (List.mem_of_getElem? (i := 384) (by decide +kernel)) rfl, mx_mem (List.mem_of_getElem? (i := 1) (by decide +kernel)) rfl⟩
theorem ok_LB_root : mx_okM mx_S0 mm_LB_root 2 := ⟨by decide +kernel, ⟨by decide +kernel, by decide +kernel, by decide +kernel⟩, by decide +kernel, mx_mem (List.mem_of_getElem? (i := 393) (by decide +kernel)) rfl, mx_mem (List.mem_of_getElem? (i := 1) (by decide +kernel)) rfl⟩
theorem ok_LB_collect : mx_okM mx_S0 mm_LB_collect 0 := ⟨by decide +kernel, ⟨by decide +kernel, by decide +kernel, by decide +kernel⟩, by decide +kernel, mx_mem (List.mem_of_getElem? (i := 397) (by decide +kernel)) rfl, mx_mem (List.mem_of_getElem? (i := 1) (by decide +kernel)) rfl⟩
theorem ok_LB_input : mx_okM mx_S0 mm_LB_input 2 := ⟨by decide +kernel, ⟨by decide +kernel, by decide +kernel, by decide +kernel⟩, by decide +kernel, mx_mem (List.mem_of_getElem? (i := 409) (by decide +kernel)) rfl, mx_mem (List.mem_of_getElem? (i := 1) (by decide +kernel)) rfl⟩
theorem ok_LB_plan : mx_okM mx_S0 mm_LB_plan 2 := ⟨by decide +kernel, ⟨by decide +kernel, by decide +kernel, by decide +kernel⟩, by decide +kernel, mx_mem (List.mem_of_getElem? (i := 413) (by decide +kernel)) rfl, mx_mem (List.mem_of_getElem? (i := 1) (by decide +kernel)) rfl⟩
theorem ok_LB_count : mx_okM mx_S0 mm_LB_count 1 := ⟨by decide +kernel, ⟨by decide +kernel, by decide +kernel, by decide +kernel⟩, by decide +kernel, mx_mem (List.mem_of_getElem? (i := 417) (by decide +kernel)) rfl, mx_mem (List.mem_of_getElem? (i := 1) (by decide +kernel)) rfl⟩
theorem ok_LB_readLine : mx_okM mx_S0 mm_LB_readLine 0 := ⟨by decide +kernel, ⟨by decide +kernel, by decide +kernel, by decide +kernel⟩, by decide +kernel, mx_mem (List.mem_of_getElem? (i := 172) (by decide +kernel)) rfl, mx_mem (List.mem_of_getElem? (i := 1) (by decide +kernel)) rfl⟩
theorem ok_LB_isNameNumber : mx_okM mx_S0 mm_LB_isNameNumber 1 := ⟨by decide +kernel, ⟨by decide +kernel, by decide +kernel, by decide +kernel⟩, by decide +kernel, mx_mem (List.mem_of_getElem? (i := 168) (by decide +kernel)) rfl, mx_mem (List.mem_of_getElem? (i := 1) (by decide +kernel)) rfl⟩
theorem ok_LB_isDigit : mx_okM mx_S0 mm_LB_isDigit 1 := ⟨by decide +kernel, ⟨by decide +kernel, by decide +kernel, by decide +kernel⟩, by decide +kernel, mx_mem (List.mem_of_getElem? (i := 151) (by decide +kernel)) rfl, mx_mem (List.mem_of_getElem? (i := 1) (by decide +kernel)) rfl⟩
theorem ok_LB_isLetter : mx_okM mx_S0 mm_LB_isLetter 1 := ⟨by decide +kernel, ⟨by decide +kernel, by decide +kernel, by decide +kernel⟩, by decide +kernel, mx_mem (List.mem_of_getElem? (i := 154) (by decide +kernel)) rfl, mx_mem (List.mem_of_getElem? (i := 1) (by decide +kernel)) rfl⟩
theorem ok_LB_partsAfter : mx_okM mx_S0 mm_LB_partsAfter 1 := ⟨by decide +kernel, ⟨by decide +kernel, by decide +kernel, by decide +kernel⟩, by decide +kernel, mx_mem (List.mem_of_getElem? (i := 157) (by decide +kernel)) rfl, mx_mem (List.mem_of_getElem? (i := 1) (by decide +kernel)) rfl⟩
theorem ok_LB_isFailure : mx_okM mx_S0 mm_LB_isFailure 1 := ⟨by decide +kernel, ⟨by decide +kernel, by decide +kernel, by decide +kernel⟩, by decide +kernel, mx_mem (List.mem_of_getElem? (i := 260) (by decide +kernel)) rfl, mx_mem (List.mem_of_getElem? (i := 1) (by decide +kernel)) rfl⟩
theorem ok_LB_isPlan : mx_okM mx_S0 mm_LB_isPlan 1 := ⟨by decide +kernel, ⟨by decide +kernel, by decide +kernel, by decide +kernel⟩, by decide +kernel, mx_mem (List.mem_of_getElem? (i := 263) (by decide +kernel)) rfl, mx_mem (List.mem_of_getElem? (i := 1) (by decide +kernel)) rfl⟩
theorem ok_LBText_init : mx_okM mx_S0 mm_LBText_init 0 := ⟨by decide +kernel, ⟨by decide +kernel, by decide +kernel, by decide +kernel⟩, by decide +kernel, mx_mem (List.mem_of_getElem? (i := 22) (by decide +kernel)) rfl, mx_mem (List.mem_of_getElem? (i := 2) (by decide +kernel)) rfl⟩
theorem ok_LBText_append : mx_okM mx_S0 mm_LBText_append 1 := ⟨by decide +kernel, ⟨by decide +kernel, by decide +kernel, by decide +kernel⟩, by decide +kernel, mx_mem (List.mem_of_getElem? (i := 145) (by decide +kernel)) rfl, mx_mem (List.mem_of_getElem? (i := 2) (by decide +kernel)) rfl⟩
theorem ok_LBText_clear : mx_okM mx_S0 mm_LBText_clear 0 := ⟨by decide +kernel, ⟨by decide +kernel, by decide +kernel, by decide +kernel⟩, by decide +kernel, mx_mem (List.mem_of_getElem? (i := 203) (by decide +kernel)) rfl, mx_mem (List.mem_of_getElem? (i := 2) (by decide +kernel)) rfl⟩
theorem ok_LBText_copyFrom : mx_okM mx_S0 mm_LBText_copyFrom 1 := ⟨by decide +kernel, ⟨by decide +kernel, by decide +kernel, by decide +kernel⟩, by decide +kernel, mx_mem (List.mem_of_getElem? (i := 211) (by decide +kernel)) rfl, mx_mem (List.mem_of_getElem? (i := 2) (by decide +kernel)) rfl⟩
theorem ok_LBText_codeAt : mx_okM mx_S0 mm_LBText_codeAt 1 := ⟨by decide +kernel, ⟨by decide +kernel, by decide +kernel, by decide +kernel⟩, by decide +kernel, mx_mem (List.mem_of_getElem? (i := 192) (by decide +kernel)) rfl, mx_mem (List.mem_of_getElem? (i := 2) (by decide +kernel)) rfl⟩
theorem ok_LBText_endOf : mx_okM mx_S0 mm_LBText_endOf 1 := ⟨by decide +kernel, ⟨by decide +kernel, by decide +kernel, by decide +kernel⟩, by decide +kernel, mx_mem (List.mem_of_getElem? (i := 269) (by decide +kernel)) rfl, mx_mem (List.mem_of_getElem? (i := 2) (by decide +kernel)) rfl⟩
theorem ok_LBText_read : mx_okM mx_S0 mm_LBText_read 0 := ⟨by decide +kernel, ⟨by decide +kernel, by decide +kernel, by decide +kernel⟩, by decide +kernel, mx_mem (List.mem_of_getElem? (i := 176) (by decide +kernel)) rfl, mx_mem (List.mem_of_getElem? (i := 2) (by decide +kernel)) rfl⟩
theorem ok_LBText_readExpression : mx_okM mx_S0 mm_LBText_readExpression 2 := ⟨by decide +kernel, ⟨by decide +kernel, by decide +kernel, by decide +kernel⟩, by decide +kernel, mx_mem (List.mem_of_getElem? (i := 180) (by decide +kernel)) rfl, mx_mem (List.mem_of_getElem? (i := 2) (by decide +kernel)) rfl⟩
theorem ok_LBText_readKind : mx_okM mx_S0 mm_LBText_readKind 2 := ⟨by decide +kernel, ⟨by decide +kernel, by decide +kernel, by decide +kernel⟩, by decide +kernel, mx_mem (List.mem_of_getElem? (i := 188) (by decide +kernel)) rfl, mx_mem (List.mem_of_getElem? (i := 2) (by decide +kernel)) rfl⟩
theorem ok_LBText_readPlan : mx_okM mx_S0 mm_LBText_readPlan 2 := ⟨by decide +kernel, ⟨by decide +kernel, by decide +kernel, by decide +kernel⟩, by decide +kernel, mx_mem (List.mem_of_getElem? (i := 196) (by decide +kernel)) rfl, mx_mem (List.mem_of_getElem? (i := 2) (by decide +kernel)) rfl⟩
theorem ok_LBText_badAt : mx_okM mx_S0 mm_LBText_badAt 1 := ⟨by decide +kernel, ⟨by decide +kernel, by decide +kernel, by decide +kernel⟩, by decide +kernel, mx_mem (List.mem_of_getElem? (i := 184) (by decide +kernel)) rfl, mx_mem (List.mem_of_getElem? (i := 2) (by decide +kernel)) rfl⟩
theorem ok_LBText_belongs : mx_okM mx_S0 mm_LBText_belongs 1 := ⟨by decide +kernel, ⟨by decide +kernel, by decide +kernel, by decide +kernel⟩, by decide +kernel, mx_mem (List.mem_of_getElem? (i := 148) (by decide +kernel)) rfl, mx_mem (List.mem_of_getElem? (i := 2) (by decide +kernel)) rfl⟩
theorem ok_LBName_init : mx_okM mx_S0 mm_LBName_init 0 := ⟨by decide +kernel, ⟨by decide +kernel, by decide +kernel, by decide +kernel⟩, by decide +kernel, mx_mem (List.mem_of_getElem? (i := 79) (by decide +kernel)) rfl, mx_mem (List.mem_of_getElem? (i := 5) (by decide +kernel)) rfl⟩
theorem ok_LBPlan_init : mx_okM mx_S0 mm_LBPlan_init 2 := ⟨by decide +kernel, ⟨by decide +kernel, by decide +kernel, by decide +kernel⟩, by decide +kernel, mx_mem (List.mem_of_getElem? (i := 301) (by decide +kernel)) rfl, mx_mem (List.mem_of_getElem? (i := 9) (by decide +kernel)) rfl⟩
theorem ok_LBPlan_isAlike : mx_okM mx_S0 mm_LBPlan_isAlike 4 := ⟨by decide +kernel, ⟨by decide +kernel, by decide +kernel, by decide +kernel⟩, by decide +kernel, mx_mem (List.mem_of_getElem? (i := 294) (by decide +kernel)) rfl, mx_mem (List.mem_of_getElem? (i := 9) (by decide +kernel)) rfl⟩
theorem ok_LBStore_init : mx_okM mx_S0 mm_LBStore_init 0 := ⟨by decide +kernel, ⟨by decide +kernel, by decide +kernel, by decide +kernel⟩, by decide +kernel, mx_mem (List.mem_of_getElem? (i := 48) (by decide +kernel)) rfl, mx_mem (List.mem_of_getElem? (i := 3) (by decide +kernel)) rfl⟩
theorem ok_LBStore_planAt : mx_okM mx_S0 mm_LBStore_planAt 1 := ⟨by decide +kernel, ⟨by decide +kernel, by decide +kernel, by decide +kernel⟩, by decide +kernel, mx_mem (List.mem_of_getElem? (i := 388) (by decide +kernel)) rfl, mx_mem (List.mem_of_getElem? (i := 3) (by decide +kernel)) rfl⟩
theorem ok_LBStore_planIn : mx_okM mx_S0 mm_LBStore_planIn 1 := ⟨by decide +kernel, ⟨by decide +kernel, by decide +kernel, by decide +kernel⟩, by decide +kernel, mx_mem (List.mem_of_getElem? (i := 340) (by decide +kernel)) rfl, mx_mem (List.mem_of_getElem? (i := 3) (by decide +kernel)) rfl⟩
theorem ok_LBStore_planOf : mx_okM mx_S0 mm_LBStore_planOf 4 := ⟨by decide +kernel, ⟨by decide +kernel, by decide +kernel, by decide +kernel⟩, by decide +kernel, mx_mem (List.mem_of_getElem? (i := 290) (by decide +kernel)) rfl, mx_mem (List.mem_of_getElem? (i := 3) (by decide +kernel)) rfl⟩
theorem ok_LBStore_partOf : mx_okM mx_S0 mm_LBStore_partOf 2 := ⟨by decide +kernel, ⟨by decide +kernel, by decide +kernel, by decide +kernel⟩, by decide +kernel, mx_mem (List.mem_of_getElem? (i := 336) (by decide +kernel)) rfl, mx_mem (List.mem_of_getElem? (i := 3) (by decide +kernel)) rfl⟩
theorem ok_LBStore_finish : mx_okM mx_S0 mm_LBStore_finish 1 := ⟨by decide +kernel, ⟨by decide +kernel, by decide +kernel, by decide +kernel⟩, by decide +kernel, mx_mem (List.mem_of_getElem? (i := 347) (by decide +kernel)) rfl, mx_mem (List.mem_of_getElem? (i := 3) (by decide +kernel)) rfl⟩
theorem ok_LBStore_finishWith : mx_okM mx_S0 mm_LBStore_finishWith 2 := ⟨by decide +kernel, ⟨by decide +kernel, by decide +kernel, by decide +kernel⟩, by decide +kernel, mx_mem (List.mem_of_getElem? (i := 352) (by decide +kernel)) rfl, mx_mem (List.mem_of_getElem? (i := 3) (by decide +kernel)) rfl⟩
theorem ok_LBStore_sweep : mx_okM mx_S0 mm_LBStore_sweep 0 := ⟨by decide +kernel, ⟨by decide +kernel, by decide +kernel, by decide +kernel⟩, by decide +kernel, mx_mem (List.mem_of_getElem? (i := 401) (by decide +kernel)) rfl, mx_mem (List.mem_of_getElem? (i := 3) (by decide +kernel)) rfl⟩
theorem ok_LBStore_wantInputs : mx_okM mx_S0 mm_LBStore_wantInputs 1 := ⟨by decide +kernel, ⟨by decide +kernel, by decide +kernel, by decide +kernel⟩, by decide +kernel, mx_mem (List.mem_of_getElem? (i := 405) (by decide +kernel)) rfl, mx_mem (List.mem_of_getElem? (i := 3) (by decide +kernel)) rfl⟩
theorem ok_LBWorker_init : mx_okM mx_S0 mm_LBWorker_init 1 := ⟨by decide +kernel, ⟨by decide +kernel, by decide +kernel, by decide +kernel⟩, by decide +kernel, mx_mem (List.mem_of_getElem? (i := 72) (by decide +kernel)) rfl, mx_mem (List.mem_of_getElem? (i := 4) (by decide +kernel)) rfl⟩
theorem ok_LBWorker_bind : mx_okM mx_S0 mm_LBWorker_bind 2 := ⟨by decide +kernel, ⟨by decide +kernel, by decide +kernel, by decide +kernel⟩, by decide +kernel, mx_mem (List.mem_of_getElem? (i := 207) (by decide +kernel)) rfl, mx_mem (List.mem_of_getElem? (i := 4) (by decide +kernel)) rfl⟩
theorem ok_LBWorker_unbind : mx_okM mx_S0 mm_LBWorker_unbind 1 := ⟨by decide +kernel, ⟨by decide +kernel, by decide +kernel, by decide +kernel⟩, by decide +kernel, mx_mem (List.mem_of_getElem? (i := 227) (by decide +kernel)) rfl, mx_mem (List.mem_of_getElem? (i := 4) (by decide +kernel)) rfl⟩
theorem ok_LBWorker_forgetValues : mx_okM mx_S0 mm_LBWorker_forgetValues 0 := ⟨by decide +kernel, ⟨by decide +kernel, by decide +kernel, by decide +kernel⟩, by decide +kernel, mx_mem (List.mem_of_getElem? (i := 218) (by decide +kernel)) rfl, mx_mem (List.mem_of_getElem? (i := 4) (by decide +kernel)) rfl⟩
theorem ok_LBWorker_namesBound : mx_okM mx_S0 mm_LBWorker_namesBound 0 := ⟨by decide +kernel, ⟨by decide +kernel, by decide +kernel, by decide +kernel⟩, by decide +kernel, mx_mem (List.mem_of_getElem? (i := 421) (by decide +kernel)) rfl, mx_mem (List.mem_of_getElem? (i := 4) (by decide +kernel)) rfl⟩
theorem ok_LBWorker_namesKept : mx_okM mx_S0 mm_LBWorker_namesKept 0 := ⟨by decide +kernel, ⟨by decide +kernel, by decide +kernel, by decide +kernel⟩, by decide +kernel, mx_mem (List.mem_of_getElem? (i := 425) (by decide +kernel)) rfl, mx_mem (List.mem_of_getElem? (i := 4) (by decide +kernel)) rfl⟩
theorem ok_LBWorker_isClosed : mx_okM mx_S0 mm_LBWorker_isClosed 0 := ⟨by decide +kernel, ⟨by decide +kernel, by decide +kernel, by decide +kernel⟩, by decide +kernel, mx_mem (List.mem_of_getElem? (i := 235) (by decide +kernel)) rfl, mx_mem (List.mem_of_getElem? (i := 4) (by decide +kernel)) rfl⟩
theorem ok_LBWorker_answerOf : mx_okM mx_S0 mm_LBWorker_answerOf 1 := ⟨by decide +kernel, ⟨by decide +kernel, by decide +kernel, by decide +kernel⟩, by decide +kernel, mx_mem (List.mem_of_getElem? (i := 363) (by decide +kernel)) rfl, mx_mem (List.mem_of_getElem? (i := 4) (by decide +kernel)) rfl⟩
theorem ok_LBWorker_workOutName : mx_okM mx_S0 mm_LBWorker_workOutName 1 := ⟨by decide +kernel, ⟨by decide +kernel, by decide +kernel, by decide +kernel⟩, by decide +kernel, mx_mem (List.mem_of_getElem? (i := 239) (by decide +kernel)) rfl, mx_mem (List.mem_of_getElem? (i := 4) (by decide +kernel)) rfl⟩
theorem ok_LBWorker_workOutText : mx_okM mx_S0 mm_LBWorker_workOutText 1 := ⟨by decide +kernel, ⟨by decide +kernel, by decide +kernel, by decide +kernel⟩, by decide +kernel, mx_mem (List.mem_of_getElem? (i := 371) (by decide +kernel)) rfl, mx_mem (List.mem_of_getElem? (i := 4) (by decide +kernel)) rfl⟩
theorem ok_LBWorker_work : mx_okM mx_S0 mm_LBWorker_work 3 := ⟨by decide +kernel, ⟨by decide +kernel, by decide +kernel, by decide +kernel⟩, by decide +kernel, mx_mem (List.mem_of_getElem? (i := 249) (by decide +kernel)) rfl, mx_mem (List.mem_of_getElem? (i := 4) (by decide +kernel)) rfl⟩
theorem ok_LBWorker_workName : mx_okM mx_S0 mm_LBWorker_workName 2 := ⟨by decide +kernel, ⟨by decide +kernel, by decide +kernel, by decide +kernel⟩, by decide +kernel, mx_mem (List.mem_of_getElem? (i := 243) (by decide +kernel)) rfl, mx_mem (List.mem_of_getElem? (i := 4) (by decide +kernel)) rfl⟩
theorem ok_LBWorker_workPair : mx_okM mx_S0 mm_LBWorker_workPair 3 := ⟨by decide +kernel, ⟨by decide +kernel, by decide +kernel, by decide +kernel⟩, by decide +kernel, mx_mem (List.mem_of_getElem? (i := 356) (by decide +kernel)) rfl, mx_mem (List.mem_of_getElem? (i := 4) (by decide +kernel)) rfl⟩
theorem ok_LBWorker_combine : mx_okM mx_S0 mm_LBWorker_combine 3 := ⟨by decide +kernel, ⟨by decide +kernel, by decide +kernel, by decide +kernel⟩, by decide +kernel, mx_mem (List.mem_of_getElem? (i := 359) (by decide +kernel)) rfl, mx_mem (List.mem_of_getElem? (i := 4) (by decide +kernel)) rfl⟩
theorem ok_LBWorker_workChoice : mx_okM mx_S0 mm_LBWorker_workChoice 3 := ⟨by decide +kernel, ⟨by decide +kernel, by decide +kernel, by decide +kernel⟩, by decide +kernel, mx_mem (List.mem_of_getElem? (i := 257) (by decide +kernel)) rfl, mx_mem (List.mem_of_getElem? (i := 4) (by decide +kernel)) rfl⟩
theorem ok_LBWorker_workAbort : mx_okM mx_S0 mm_LBWorker_workAbort 3 := ⟨by decide +kernel, ⟨by decide +kernel, by decide +kernel, by decide +kernel⟩, by decide +kernel, mx_mem (List.mem_of_getElem? (i := 273) (by decide +kernel)) rfl, mx_mem (List.mem_of_getElem? (i := 4) (by decide +kernel)) rfl⟩
theorem ok_LBWorker_workTry : mx_okM mx_S0 mm_LBWorker_workTry 3 := ⟨by decide +kernel, ⟨by decide +kernel, by decide +kernel, by decide +kernel⟩, by decide +kernel, mx_mem (List.mem_of_getElem? (i := 278) (by decide +kernel)) rfl, mx_mem (List.mem_of_getElem? (i := 4) (by decide +kernel)) rfl⟩
theorem ok_LBWorker_canBeMadeGood : mx_okM mx_S0 mm_LBWorker_canBeMadeGood 1 := ⟨by decide +kernel, ⟨by decide +kernel, by decide +kernel, by decide +kernel⟩, by decide +kernel, mx_mem (List.mem_of_getElem? (i := 281) (by decide +kernel)) rfl, mx_mem (List.mem_of_getElem? (i := 4) (by decide +kernel)) rfl⟩
theorem ok_LBWorker_workPlan : mx_okM mx_S0 mm_LBWorker_workPlan 3 := ⟨by decide +kernel, ⟨by decide +kernel, by decide +kernel, by decide +kernel⟩, by decide +kernel, mx_mem (List.mem_of_getElem? (i := 286) (by decide +kernel)) rfl, mx_mem (List.mem_of_getElem? (i := 4) (by decide +kernel)) rfl⟩
theorem ok_LBWorker_workResult : mx_okM mx_S0 mm_LBWorker_workResult 3 := ⟨by decide +kernel, ⟨by decide +kernel, by decide +kernel, by decide +kernel⟩, by decide +kernel, mx_mem (List.mem_of_getElem? (i := 332) (by decide +kernel)) rfl, mx_mem (List.mem_of_getElem? (i := 4) (by decide +kernel)) rfl⟩
theorem ok_RM_init : mx_okM mx_S0 mm_RM_init 0 := ⟨by decide +kernel, ⟨by decide +kernel, by decide +kernel, by decide +kernel⟩, by decide +kernel, mx_mem (List.mem_of_getElem? (i := 430) (by decide +kernel)) rfl, mx_mem (List.mem_of_getElem? (i := 6) (by decide +kernel)) rfl⟩
theorem ok_RM_digit : mx_okM mx_S0 mm_RM_digit 1 := ⟨by decide +kernel, ⟨by decide +kernel, by decide +kernel, by decide +kernel⟩, by decide +kernel, mx_mem (List.mem_of_getElem? (i := 549) (by decide +kernel)) rfl, mx_mem (List.mem_of_getElem? (i := 6) (by decide +kernel)) rfl⟩
theorem ok_RM_name : mx_okM mx_S0 mm_RM_name 1 := ⟨by decide +kernel, ⟨by decide +kernel, by decide +kernel, by decide +kernel⟩, by decide +kernel, mx_mem (List.mem_of_getElem? (i := 553) (by decide +kernel)) rfl, mx_mem (List.mem_of_getElem? (i := 6) (by decide +kernel)) rfl⟩
theorem ok_RM_wants : mx_okM mx_S0 mm_RM_wants 1 := ⟨by decide +kernel, ⟨by decide +kernel, by decide +kernel, by decide +kernel⟩, by decide +kernel, mx_mem (List.mem_of_getElem? (i := 557) (by decide +kernel)) rfl, mx_mem (List.mem_of_getElem? (i := 6) (by decide +kernel)) rfl⟩
theorem ok_RM_type : mx_okM mx_S0 mm_RM_type 1 := ⟨by decide +kernel, ⟨by decide +kernel, by decide +kernel, by decide +kernel⟩, by decide +kernel, mx_mem (List.mem_of_getElem? (i := 545) (by decide +kernel)) rfl, mx_mem (List.mem_of_getElem? (i := 6) (by decide +kernel)) rfl⟩
theorem ok_RM_types : mx_okM mx_S0 mm_RM_types 1 := ⟨by decide +kernel, ⟨by decide +kernel, by decide +kernel, by decide +kernel⟩, by decide +kernel, mx_mem (List.mem_of_getElem? (i := 561) (by decide +kernel)) rfl, mx_mem (List.mem_of_getElem? (i := 6) (by decide +kernel)) rfl⟩
theorem ok_RM_complete : mx_okM mx_S0 mm_RM_complete 0 := ⟨by decide +kernel, ⟨by decide +kernel, by decide +kernel, by decide +kernel⟩, by decide +kernel, mx_mem (List.mem_of_getElem? (i := 582) (by decide +kernel)) rfl, mx_mem (List.mem_of_getElem? (i := 6) (by decide +kernel)) rfl⟩
theorem ok_RM_deeper : mx_okM mx_S0 mm_RM_deeper 2 := ⟨by decide +kernel, ⟨by decide +kernel, by decide +kernel, by decide +kernel⟩, by decide +kernel, mx_mem (List.mem_of_getElem? (i := 578) (by decide +kernel)) rfl, mx_mem (List.mem_of_getElem? (i := 6) (by decide +kernel)) rfl⟩
theorem ok_RM_badPlace : mx_okM mx_S0 mm_RM_badPlace 0 := ⟨by decide +kernel, ⟨by decide +kernel, by decide +kernel, by decide +kernel⟩, by decide +kernel, mx_mem (List.mem_of_getElem? (i := 574) (by decide +kernel)) rfl, mx_mem (List.mem_of_getElem? (i := 6) (by decide +kernel)) rfl⟩
theorem ok_RM_forget : mx_okM mx_S0 mm_RM_forget 0 := ⟨by decide +kernel, ⟨by decide +kernel, by decide +kernel, by decide +kernel⟩, by decide +kernel, mx_mem (List.mem_of_getElem? (i := 586) (by decide +kernel)) rfl, mx_mem (List.mem_of_getElem? (i := 6) (by decide +kernel)) rfl⟩
theorem ok_RM_syntax : mx_okM mx_S0 mm_RM_syntax 0 := ⟨by decide +kernel, ⟨by decide +kernel, by decide +kernel, by decide +kernel⟩, by decide +kernel, mx_mem (List.mem_of_getElem? (i := 570) (by decide +kernel)) rfl, mx_mem (List.mem_of_getElem? (i := 6) (by decide +kernel)) rfl⟩
theorem ok_RM_define : mx_okM mx_S0 mm_RM_define 1 := ⟨by decide +kernel, ⟨by decide +kernel, by decide +kernel, by decide +kernel⟩, by decide +kernel, mx_mem (List.mem_of_getElem? (i := 566) (by decide +kernel)) rfl, mx_mem (List.mem_of_getElem? (i := 6) (by decide +kernel)) rfl⟩
theorem ok_RM_undefine : mx_okM mx_S0 mm_RM_undefine 1 := ⟨by decide +kernel, ⟨by decide +kernel, by decide +kernel, by decide +kernel⟩, by decide +kernel, mx_mem (List.mem_of_getElem? (i := 590) (by decide +kernel)) rfl, mx_mem (List.mem_of_getElem? (i := 6) (by decide +kernel)) rfl⟩
theorem ok_RM_behind : mx_okM mx_S0 mm_RM_behind 2 := ⟨by decide +kernel, ⟨by decide +kernel, by decide +kernel, by decide +kernel⟩, by decide +kernel, mx_mem (List.mem_of_getElem? (i := 622) (by decide +kernel)) rfl, mx_mem (List.mem_of_getElem? (i := 6) (by decide +kernel)) rfl⟩
theorem ok_RM_begin : mx_okM mx_S0 mm_RM_begin 2 := ⟨by decide +kernel, ⟨by decide +kernel, by decide +kernel, by decide +kernel⟩, by decide +kernel, mx_mem (List.mem_of_getElem? (i := 602) (by decide +kernel)) rfl, mx_mem (List.mem_of_getElem? (i := 6) (by decide +kernel)) rfl⟩
theorem ok_RM_enter : mx_okM mx_S0 mm_RM_enter 1 := ⟨by decide +kernel, ⟨by decide +kernel, by decide +kernel, by decide +kernel⟩, by decide +kernel, mx_mem (List.mem_of_getElem? (i := 606) (by decide +kernel)) rfl, mx_mem (List.mem_of_getElem? (i := 6) (by decide +kernel)) rfl⟩
theorem ok_RM_isNumber : mx_okM mx_S0 mm_RM_isNumber 1 := ⟨by decide +kernel, ⟨by decide +kernel, by decide +kernel, by decide +kernel⟩, by decide +kernel, mx_mem (List.mem_of_getElem? (i := 626) (by decide +kernel)) rfl, mx_mem (List.mem_of_getElem? (i := 6) (by decide +kernel)) rfl⟩
theorem ok_RM_operate : mx_okM mx_S0 mm_RM_operate 1 := ⟨by decide +kernel, ⟨by decide +kernel, by decide +kernel, by decide +kernel⟩, by decide +kernel, mx_mem (List.mem_of_getElem? (i := 652) (by decide +kernel)) rfl, mx_mem (List.mem_of_getElem? (i := 6) (by decide +kernel)) rfl⟩
theorem ok_RM_describe : mx_okM mx_S0 mm_RM_describe 1 := ⟨by decide +kernel, ⟨by decide +kernel, by decide +kernel, by decide +kernel⟩, by decide +kernel, mx_mem (List.mem_of_getElem? (i := 631) (by decide +kernel)) rfl, mx_mem (List.mem_of_getElem? (i := 6) (by decide +kernel)) rfl⟩
theorem ok_RM_order : mx_okM mx_S0 mm_RM_order 1 := ⟨by decide +kernel, ⟨by decide +kernel, by decide +kernel, by decide +kernel⟩, by decide +kernel, mx_mem (List.mem_of_getElem? (i := 636) (by decide +kernel)) rfl, mx_mem (List.mem_of_getElem? (i := 6) (by decide +kernel)) rfl⟩
theorem ok_RM_proceed : mx_okM mx_S0 mm_RM_proceed 0 := ⟨by decide +kernel, ⟨by decide +kernel, by decide +kernel, by decide +kernel⟩, by decide +kernel, mx_mem (List.mem_of_getElem? (i := 618) (by decide +kernel)) rfl, mx_mem (List.mem_of_getElem? (i := 6) (by decide +kernel)) rfl⟩
theorem ok_RM_mild : mx_okM mx_S0 mm_RM_mild 0 := ⟨by decide +kernel, ⟨by decide +kernel, by decide +kernel, by decide +kernel⟩, by decide +kernel, mx_mem (List.mem_of_getElem? (i := 614) (by decide +kernel)) rfl, mx_mem (List.mem_of_getElem? (i := 6) (by decide +kernel)) rfl⟩
theorem ok_RM_unwind : mx_okM mx_S0 mm_RM_unwind 0 := ⟨by decide +kernel, ⟨by decide +kernel, by decide +kernel, by decide +kernel⟩, by decide +kernel, mx_mem (List.mem_of_getElem? (i := 610) (by decide +kernel)) rfl, mx_mem (List.mem_of_getElem? (i := 6) (by decide +kernel)) rfl⟩
theorem ok_RM_work : mx_okM mx_S0 mm_RM_work 2 := ⟨by decide +kernel, ⟨by decide +kernel, by decide +kernel, by decide +kernel⟩, by decide +kernel, mx_mem (List.mem_of_getElem? (i := 598) (by decide +kernel)) rfl, mx_mem (List.mem_of_getElem? (i := 6) (by decide +kernel)) rfl⟩
theorem ok_RM_force : mx_okM mx_S0 mm_RM_force 1 := ⟨by decide +kernel, ⟨by decide +kernel, by decide +kernel, by decide +kernel⟩, by decide +kernel, mx_mem (List.mem_of_getElem? (i := 594) (by decide +kernel)) rfl, mx_mem (List.mem_of_getElem? (i := 6) (by decide +kernel)) rfl⟩
theorem ok_RM_show : mx_okM mx_S0 mm_RM_show 0 := ⟨by decide +kernel, ⟨by decide +kernel, by decide +kernel, by decide +kernel⟩, by decide +kernel, mx_mem (List.mem_of_getElem? (i := 656) (by decide +kernel)) rfl, mx_mem (List.mem_of_getElem? (i := 6) (by decide +kernel)) rfl⟩
theorem ok_RM_part : mx_okM mx_S0 mm_RM_part 2 := ⟨by decide +kernel, ⟨by decide +kernel, by decide +kernel, by decide +kernel⟩, by decide +kernel, mx_mem (List.mem_of_getElem? (i := 648) (by decide +kernel)) rfl, mx_mem (List.mem_of_getElem? (i := 6) (by decide +kernel)) rfl⟩
theorem ok_RM_assemble : mx_okM mx_S0 mm_RM_assemble 1 := ⟨by decide +kernel, ⟨by decide +kernel, by decide +kernel, by decide +kernel⟩, by decide +kernel, mx_mem (List.mem_of_getElem? (i := 644) (by decide +kernel)) rfl, mx_mem (List.mem_of_getElem? (i := 6) (by decide +kernel)) rfl⟩
theorem ok_RM_construct : mx_okM mx_S0 mm_RM_construct 1 := ⟨by decide +kernel, ⟨by decide +kernel, by decide +kernel, by decide +kernel⟩, by decide +kernel, mx_mem (List.mem_of_getElem? (i := 640) (by decide +kernel)) rfl, mx_mem (List.mem_of_getElem? (i := 6) (by decide +kernel)) rfl⟩
theorem ok_RM_value : mx_okM mx_S0 mm_RM_value 1 := ⟨by decide +kernel, ⟨by decide +kernel, by decide +kernel, by decide +kernel⟩, by decide +kernel, mx_mem (List.mem_of_getElem? (i := 660) (by decide +kernel)) rfl, mx_mem (List.mem_of_getElem? (i := 6) (by decide +kernel)) rfl⟩
theorem ok_RM_builder : mx_okM mx_S0 mm_RM_builder 2 := ⟨by decide +kernel, ⟨by decide +kernel, by decide +kernel, by decide +kernel⟩, by decide +kernel, mx_mem (List.mem_of_getElem? (i := 665) (by decide +kernel)) rfl, mx_mem (List.mem_of_getElem? (i := 6) (by decide +kernel)) rfl⟩
theorem ok_RM_noPlan : mx_okM mx_S0 mm_RM_noPlan 1 := ⟨by decide +kernel, ⟨by decide +kernel, by decide +kernel, by decide +kernel⟩, by decide +kernel, mx_mem (List.mem_of_getElem? (i := 673) (by decide +kernel)) rfl, mx_mem (List.mem_of_getElem? (i := 6) (by decide +kernel)) rfl⟩
theorem ok_RM_build : mx_okM mx_S0 mm_RM_build 1 := ⟨by decide +kernel, ⟨by decide +kernel, by decide +kernel, by decide +kernel⟩, by decide +kernel, mx_mem (List.mem_of_getElem? (i := 669) (by decide +kernel)) rfl, mx_mem (List.mem_of_getElem? (i := 6) (by decide +kernel)) rfl⟩
theorem ok_RM_root : mx_okM mx_S0 mm_RM_root 2 := ⟨by decide +kernel, ⟨by decide +kernel, by decide +kernel, by decide +kernel⟩, by decide +kernel, mx_mem (List.mem_of_getElem? (i := 677) (by decide +kernel)) rfl, mx_mem (List.mem_of_getElem? (i := 6) (by decide +kernel)) rfl⟩
theorem ok_RM_collect : mx_okM mx_S0 mm_RM_collect 0 := ⟨by decide +kernel, ⟨by decide +kernel, by decide +kernel, by decide +kernel⟩, by decide +kernel, mx_mem (List.mem_of_getElem? (i := 681) (by decide +kernel)) rfl, mx_mem (List.mem_of_getElem? (i := 6) (by decide +kernel)) rfl⟩
theorem ok_RM_input : mx_okM mx_S0 mm_RM_input 2 := ⟨by decide +kernel, ⟨by decide +kernel, by decide +kernel, by decide +kernel⟩, by decide +kernel, mx_mem (List.mem_of_getElem? (i := 685) (by decide +kernel)) rfl, mx_mem (List.mem_of_getElem? (i := 6) (by decide +kernel)) rfl⟩
theorem ok_RM_plan : mx_okM mx_S0 mm_RM_plan 2 := ⟨by decide +kernel, ⟨by decide +kernel, by decide +kernel, by decide +kernel⟩, by decide +kernel, mx_mem (List.mem_of_getElem? (i := 689) (by decide +kernel)) rfl, mx_mem (List.mem_of_getElem? (i := 6) (by decide +kernel)) rfl⟩
theorem ok_RM_count : mx_okM mx_S0 mm_RM_count 1 := ⟨by decide +kernel, ⟨by decide +kernel, by decide +kernel, by decide +kernel⟩, by decide +kernel, mx_mem (List.mem_of_getElem? (i := 693) (by decide +kernel)) rfl, mx_mem (List.mem_of_getElem? (i := 6) (by decide +kernel)) rfl⟩
