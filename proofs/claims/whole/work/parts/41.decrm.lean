theorem d_RM_init_0 : decode mm_RM_init.2.1 0 = .ok (.aload_n 0, 1) ∧ 0 + 1 = 1 := ⟨by decide +kernel, rfl⟩
theorem d_RM_init_1 : decode mm_RM_init.2.1 1 = .ok (.invokespecial 1, 3) ∧ 1 + 3 = 4 := ⟨by decide +kernel, rfl⟩
theorem d_RM_init_4 : decode mm_RM_init.2.1 4 = .ok (.aload_n 0, 1) ∧ 4 + 1 = 5 := ⟨by decide +kernel, rfl⟩
theorem d_RM_init_5 : decode mm_RM_init.2.1 5 = .ok (.sipush 240, 3) ∧ 5 + 3 = 8 := ⟨by decide +kernel, rfl⟩
theorem d_RM_init_8 : decode mm_RM_init.2.1 8 = .ok (.newarray .int, 2) ∧ 8 + 2 = 10 := ⟨by decide +kernel, rfl⟩
theorem d_RM_init_10 : decode mm_RM_init.2.1 10 = .ok (.putfield 7, 3) ∧ 10 + 3 = 13 := ⟨by decide +kernel, rfl⟩
theorem d_RM_init_13 : decode mm_RM_init.2.1 13 = .ok (.aload_n 0, 1) ∧ 13 + 1 = 14 := ⟨by decide +kernel, rfl⟩
theorem d_RM_init_14 : decode mm_RM_init.2.1 14 = .ok (.bipush 9, 2) ∧ 14 + 2 = 16 := ⟨by decide +kernel, rfl⟩
theorem d_RM_init_16 : decode mm_RM_init.2.1 16 = .ok (.newarray .int, 2) ∧ 16 + 2 = 18 := ⟨by decide +kernel, rfl⟩
theorem d_RM_init_18 : decode mm_RM_init.2.1 18 = .ok (.putfield 13, 3) ∧ 18 + 3 = 21 := ⟨by decide +kernel, rfl⟩
theorem d_RM_init_21 : decode mm_RM_init.2.1 21 = .ok (.aload_n 0, 1) ∧ 21 + 1 = 22 := ⟨by decide +kernel, rfl⟩
theorem d_RM_init_22 : decode mm_RM_init.2.1 22 = .ok (.bipush 9, 2) ∧ 22 + 2 = 24 := ⟨by decide +kernel, rfl⟩
theorem d_RM_init_24 : decode mm_RM_init.2.1 24 = .ok (.newarray .long, 2) ∧ 24 + 2 = 26 := ⟨by decide +kernel, rfl⟩
theorem d_RM_init_26 : decode mm_RM_init.2.1 26 = .ok (.putfield 16, 3) ∧ 26 + 3 = 29 := ⟨by decide +kernel, rfl⟩
theorem d_RM_init_29 : decode mm_RM_init.2.1 29 = .ok (.aload_n 0, 1) ∧ 29 + 1 = 30 := ⟨by decide +kernel, rfl⟩
theorem d_RM_init_30 : decode mm_RM_init.2.1 30 = .ok (.bipush 9, 2) ∧ 30 + 2 = 32 := ⟨by decide +kernel, rfl⟩
theorem d_RM_init_32 : decode mm_RM_init.2.1 32 = .ok (.newarray .boolean, 2) ∧ 32 + 2 = 34 := ⟨by decide +kernel, rfl⟩
theorem d_RM_init_34 : decode mm_RM_init.2.1 34 = .ok (.putfield 20, 3) ∧ 34 + 3 = 37 := ⟨by decide +kernel, rfl⟩
theorem d_RM_init_37 : decode mm_RM_init.2.1 37 = .ok (.aload_n 0, 1) ∧ 37 + 1 = 38 := ⟨by decide +kernel, rfl⟩
theorem d_RM_init_38 : decode mm_RM_init.2.1 38 = .ok (.bipush 8, 2) ∧ 38 + 2 = 40 := ⟨by decide +kernel, rfl⟩
theorem d_RM_init_40 : decode mm_RM_init.2.1 40 = .ok (.newarray .boolean, 2) ∧ 40 + 2 = 42 := ⟨by decide +kernel, rfl⟩
theorem d_RM_init_42 : decode mm_RM_init.2.1 42 = .ok (.putfield 24, 3) ∧ 42 + 3 = 45 := ⟨by decide +kernel, rfl⟩
theorem d_RM_init_45 : decode mm_RM_init.2.1 45 = .ok (.aload_n 0, 1) ∧ 45 + 1 = 46 := ⟨by decide +kernel, rfl⟩
theorem d_RM_init_46 : decode mm_RM_init.2.1 46 = .ok (.bipush 8, 2) ∧ 46 + 2 = 48 := ⟨by decide +kernel, rfl⟩
theorem d_RM_init_48 : decode mm_RM_init.2.1 48 = .ok (.newarray .boolean, 2) ∧ 48 + 2 = 50 := ⟨by decide +kernel, rfl⟩
theorem d_RM_init_50 : decode mm_RM_init.2.1 50 = .ok (.putfield 27, 3) ∧ 50 + 3 = 53 := ⟨by decide +kernel, rfl⟩
theorem d_RM_init_53 : decode mm_RM_init.2.1 53 = .ok (.aload_n 0, 1) ∧ 53 + 1 = 54 := ⟨by decide +kernel, rfl⟩
theorem d_RM_init_54 : decode mm_RM_init.2.1 54 = .ok (.iconst (-1), 1) ∧ 54 + 1 = 55 := ⟨by decide +kernel, rfl⟩
theorem d_RM_init_55 : decode mm_RM_init.2.1 55 = .ok (.putfield 30, 3) ∧ 55 + 3 = 58 := ⟨by decide +kernel, rfl⟩
theorem d_RM_init_58 : decode mm_RM_init.2.1 58 = .ok (.aload_n 0, 1) ∧ 58 + 1 = 59 := ⟨by decide +kernel, rfl⟩
theorem d_RM_init_59 : decode mm_RM_init.2.1 59 = .ok (.bipush 12, 2) ∧ 59 + 2 = 61 := ⟨by decide +kernel, rfl⟩
theorem d_RM_init_61 : decode mm_RM_init.2.1 61 = .ok (.newarray .int, 2) ∧ 61 + 2 = 63 := ⟨by decide +kernel, rfl⟩
theorem d_RM_init_63 : decode mm_RM_init.2.1 63 = .ok (.putfield 34, 3) ∧ 63 + 3 = 66 := ⟨by decide +kernel, rfl⟩
theorem d_RM_init_66 : decode mm_RM_init.2.1 66 = .ok (.aload_n 0, 1) ∧ 66 + 1 = 67 := ⟨by decide +kernel, rfl⟩
theorem d_RM_init_67 : decode mm_RM_init.2.1 67 = .ok (.bipush 12, 2) ∧ 67 + 2 = 69 := ⟨by decide +kernel, rfl⟩
theorem d_RM_init_69 : decode mm_RM_init.2.1 69 = .ok (.newarray .boolean, 2) ∧ 69 + 2 = 71 := ⟨by decide +kernel, rfl⟩
theorem d_RM_init_71 : decode mm_RM_init.2.1 71 = .ok (.putfield 37, 3) ∧ 71 + 3 = 74 := ⟨by decide +kernel, rfl⟩
theorem d_RM_init_74 : decode mm_RM_init.2.1 74 = .ok (.aload_n 0, 1) ∧ 74 + 1 = 75 := ⟨by decide +kernel, rfl⟩
theorem d_RM_init_75 : decode mm_RM_init.2.1 75 = .ok (.bipush 12, 2) ∧ 75 + 2 = 77 := ⟨by decide +kernel, rfl⟩
theorem d_RM_init_77 : decode mm_RM_init.2.1 77 = .ok (.newarray .int, 2) ∧ 77 + 2 = 79 := ⟨by decide +kernel, rfl⟩
theorem d_RM_init_79 : decode mm_RM_init.2.1 79 = .ok (.putfield 40, 3) ∧ 79 + 3 = 82 := ⟨by decide +kernel, rfl⟩
theorem d_RM_init_82 : decode mm_RM_init.2.1 82 = .ok (.aload_n 0, 1) ∧ 82 + 1 = 83 := ⟨by decide +kernel, rfl⟩
theorem d_RM_init_83 : decode mm_RM_init.2.1 83 = .ok (.bipush 100, 2) ∧ 83 + 2 = 85 := ⟨by decide +kernel, rfl⟩
theorem d_RM_init_85 : decode mm_RM_init.2.1 85 = .ok (.newarray .int, 2) ∧ 85 + 2 = 87 := ⟨by decide +kernel, rfl⟩
theorem d_RM_init_87 : decode mm_RM_init.2.1 87 = .ok (.putfield 43, 3) ∧ 87 + 3 = 90 := ⟨by decide +kernel, rfl⟩
theorem d_RM_init_90 : decode mm_RM_init.2.1 90 = .ok (.aload_n 0, 1) ∧ 90 + 1 = 91 := ⟨by decide +kernel, rfl⟩
theorem d_RM_init_91 : decode mm_RM_init.2.1 91 = .ok (.bipush 100, 2) ∧ 91 + 2 = 93 := ⟨by decide +kernel, rfl⟩
theorem d_RM_init_93 : decode mm_RM_init.2.1 93 = .ok (.newarray .int, 2) ∧ 93 + 2 = 95 := ⟨by decide +kernel, rfl⟩
theorem d_RM_init_95 : decode mm_RM_init.2.1 95 = .ok (.putfield 46, 3) ∧ 95 + 3 = 98 := ⟨by decide +kernel, rfl⟩
theorem d_RM_init_98 : decode mm_RM_init.2.1 98 = .ok (.aload_n 0, 1) ∧ 98 + 1 = 99 := ⟨by decide +kernel, rfl⟩
theorem d_RM_init_99 : decode mm_RM_init.2.1 99 = .ok (.bipush 100, 2) ∧ 99 + 2 = 101 := ⟨by decide +kernel, rfl⟩
theorem d_RM_init_101 : decode mm_RM_init.2.1 101 = .ok (.newarray .int, 2) ∧ 101 + 2 = 103 := ⟨by decide +kernel, rfl⟩
theorem d_RM_init_103 : decode mm_RM_init.2.1 103 = .ok (.putfield 49, 3) ∧ 103 + 3 = 106 := ⟨by decide +kernel, rfl⟩
theorem d_RM_init_106 : decode mm_RM_init.2.1 106 = .ok (.aload_n 0, 1) ∧ 106 + 1 = 107 := ⟨by decide +kernel, rfl⟩
theorem d_RM_init_107 : decode mm_RM_init.2.1 107 = .ok (.bipush 100, 2) ∧ 107 + 2 = 109 := ⟨by decide +kernel, rfl⟩
theorem d_RM_init_109 : decode mm_RM_init.2.1 109 = .ok (.newarray .int, 2) ∧ 109 + 2 = 111 := ⟨by decide +kernel, rfl⟩
theorem d_RM_init_111 : decode mm_RM_init.2.1 111 = .ok (.putfield 52, 3) ∧ 111 + 3 = 114 := ⟨by decide +kernel, rfl⟩
theorem d_RM_init_114 : decode mm_RM_init.2.1 114 = .ok (.aload_n 0, 1) ∧ 114 + 1 = 115 := ⟨by decide +kernel, rfl⟩
theorem d_RM_init_115 : decode mm_RM_init.2.1 115 = .ok (.bipush 100, 2) ∧ 115 + 2 = 117 := ⟨by decide +kernel, rfl⟩
theorem d_RM_init_117 : decode mm_RM_init.2.1 117 = .ok (.newarray .int, 2) ∧ 117 + 2 = 119 := ⟨by decide +kernel, rfl⟩
theorem d_RM_init_119 : decode mm_RM_init.2.1 119 = .ok (.putfield 55, 3) ∧ 119 + 3 = 122 := ⟨by decide +kernel, rfl⟩
theorem d_RM_init_122 : decode mm_RM_init.2.1 122 = .ok (.aload_n 0, 1) ∧ 122 + 1 = 123 := ⟨by decide +kernel, rfl⟩
theorem d_RM_init_123 : decode mm_RM_init.2.1 123 = .ok (.sipush 400, 3) ∧ 123 + 3 = 126 := ⟨by decide +kernel, rfl⟩
theorem d_RM_init_126 : decode mm_RM_init.2.1 126 = .ok (.newarray .long, 2) ∧ 126 + 2 = 128 := ⟨by decide +kernel, rfl⟩
theorem d_RM_init_128 : decode mm_RM_init.2.1 128 = .ok (.putfield 58, 3) ∧ 128 + 3 = 131 := ⟨by decide +kernel, rfl⟩
theorem d_RM_init_131 : decode mm_RM_init.2.1 131 = .ok (.aload_n 0, 1) ∧ 131 + 1 = 132 := ⟨by decide +kernel, rfl⟩
theorem d_RM_init_132 : decode mm_RM_init.2.1 132 = .ok (.bipush 31, 2) ∧ 132 + 2 = 134 := ⟨by decide +kernel, rfl⟩
theorem d_RM_init_134 : decode mm_RM_init.2.1 134 = .ok (.newarray .int, 2) ∧ 134 + 2 = 136 := ⟨by decide +kernel, rfl⟩
theorem d_RM_init_136 : decode mm_RM_init.2.1 136 = .ok (.putfield 61, 3) ∧ 136 + 3 = 139 := ⟨by decide +kernel, rfl⟩
theorem d_RM_init_139 : decode mm_RM_init.2.1 139 = .ok (.aload_n 0, 1) ∧ 139 + 1 = 140 := ⟨by decide +kernel, rfl⟩
theorem d_RM_init_140 : decode mm_RM_init.2.1 140 = .ok (.bipush 31, 2) ∧ 140 + 2 = 142 := ⟨by decide +kernel, rfl⟩
theorem d_RM_init_142 : decode mm_RM_init.2.1 142 = .ok (.newarray .int, 2) ∧ 142 + 2 = 144 := ⟨by decide +kernel, rfl⟩
theorem d_RM_init_144 : decode mm_RM_init.2.1 144 = .ok (.putfield 64, 3) ∧ 144 + 3 = 147 := ⟨by decide +kernel, rfl⟩
theorem d_RM_init_147 : decode mm_RM_init.2.1 147 = .ok (.aload_n 0, 1) ∧ 147 + 1 = 148 := ⟨by decide +kernel, rfl⟩
theorem d_RM_init_148 : decode mm_RM_init.2.1 148 = .ok (.bipush 124, 2) ∧ 148 + 2 = 150 := ⟨by decide +kernel, rfl⟩
theorem d_RM_init_150 : decode mm_RM_init.2.1 150 = .ok (.newarray .long, 2) ∧ 150 + 2 = 152 := ⟨by decide +kernel, rfl⟩
theorem d_RM_init_152 : decode mm_RM_init.2.1 152 = .ok (.putfield 67, 3) ∧ 152 + 3 = 155 := ⟨by decide +kernel, rfl⟩
theorem d_RM_init_155 : decode mm_RM_init.2.1 155 = .ok (.aload_n 0, 1) ∧ 155 + 1 = 156 := ⟨by decide +kernel, rfl⟩
theorem d_RM_init_156 : decode mm_RM_init.2.1 156 = .ok (.bipush 31, 2) ∧ 156 + 2 = 158 := ⟨by decide +kernel, rfl⟩
theorem d_RM_init_158 : decode mm_RM_init.2.1 158 = .ok (.newarray .boolean, 2) ∧ 158 + 2 = 160 := ⟨by decide +kernel, rfl⟩
theorem d_RM_init_160 : decode mm_RM_init.2.1 160 = .ok (.putfield 70, 3) ∧ 160 + 3 = 163 := ⟨by decide +kernel, rfl⟩
theorem d_RM_init_163 : decode mm_RM_init.2.1 163 = .ok (.aload_n 0, 1) ∧ 163 + 1 = 164 := ⟨by decide +kernel, rfl⟩
theorem d_RM_init_164 : decode mm_RM_init.2.1 164 = .ok (.bipush 31, 2) ∧ 164 + 2 = 166 := ⟨by decide +kernel, rfl⟩
theorem d_RM_init_166 : decode mm_RM_init.2.1 166 = .ok (.newarray .int, 2) ∧ 166 + 2 = 168 := ⟨by decide +kernel, rfl⟩
theorem d_RM_init_168 : decode mm_RM_init.2.1 168 = .ok (.putfield 73, 3) ∧ 168 + 3 = 171 := ⟨by decide +kernel, rfl⟩
theorem d_RM_init_171 : decode mm_RM_init.2.1 171 = .ok (.aload_n 0, 1) ∧ 171 + 1 = 172 := ⟨by decide +kernel, rfl⟩
theorem d_RM_init_172 : decode mm_RM_init.2.1 172 = .ok (.bipush 31, 2) ∧ 172 + 2 = 174 := ⟨by decide +kernel, rfl⟩
theorem d_RM_init_174 : decode mm_RM_init.2.1 174 = .ok (.newarray .boolean, 2) ∧ 174 + 2 = 176 := ⟨by decide +kernel, rfl⟩
theorem d_RM_init_176 : decode mm_RM_init.2.1 176 = .ok (.putfield 76, 3) ∧ 176 + 3 = 179 := ⟨by decide +kernel, rfl⟩
theorem d_RM_init_179 : decode mm_RM_init.2.1 179 = .ok (.aload_n 0, 1) ∧ 179 + 1 = 180 := ⟨by decide +kernel, rfl⟩
theorem d_RM_init_180 : decode mm_RM_init.2.1 180 = .ok (.bipush 31, 2) ∧ 180 + 2 = 182 := ⟨by decide +kernel, rfl⟩
theorem d_RM_init_182 : decode mm_RM_init.2.1 182 = .ok (.newarray .boolean, 2) ∧ 182 + 2 = 184 := ⟨by decide +kernel, rfl⟩
theorem d_RM_init_184 : decode mm_RM_init.2.1 184 = .ok (.putfield 79, 3) ∧ 184 + 3 = 187 := ⟨by decide +kernel, rfl⟩
theorem d_RM_init_187 : decode mm_RM_init.2.1 187 = .ok (.aload_n 0, 1) ∧ 187 + 1 = 188 := ⟨by decide +kernel, rfl⟩
theorem d_RM_init_188 : decode mm_RM_init.2.1 188 = .ok (.bipush 10, 2) ∧ 188 + 2 = 190 := ⟨by decide +kernel, rfl⟩
theorem d_RM_init_190 : decode mm_RM_init.2.1 190 = .ok (.newarray .int, 2) ∧ 190 + 2 = 192 := ⟨by decide +kernel, rfl⟩
theorem d_RM_init_192 : decode mm_RM_init.2.1 192 = .ok (.putfield 82, 3) ∧ 192 + 3 = 195 := ⟨by decide +kernel, rfl⟩
theorem d_RM_init_195 : decode mm_RM_init.2.1 195 = .ok (.aload_n 0, 1) ∧ 195 + 1 = 196 := ⟨by decide +kernel, rfl⟩
theorem d_RM_init_196 : decode mm_RM_init.2.1 196 = .ok (.bipush 32, 2) ∧ 196 + 2 = 198 := ⟨by decide +kernel, rfl⟩
theorem d_RM_init_198 : decode mm_RM_init.2.1 198 = .ok (.newarray .int, 2) ∧ 198 + 2 = 200 := ⟨by decide +kernel, rfl⟩
theorem d_RM_init_200 : decode mm_RM_init.2.1 200 = .ok (.putfield 85, 3) ∧ 200 + 3 = 203 := ⟨by decide +kernel, rfl⟩
theorem d_RM_init_203 : decode mm_RM_init.2.1 203 = .ok (.aload_n 0, 1) ∧ 203 + 1 = 204 := ⟨by decide +kernel, rfl⟩
theorem d_RM_init_204 : decode mm_RM_init.2.1 204 = .ok (.bipush 32, 2) ∧ 204 + 2 = 206 := ⟨by decide +kernel, rfl⟩
theorem d_RM_init_206 : decode mm_RM_init.2.1 206 = .ok (.newarray .int, 2) ∧ 206 + 2 = 208 := ⟨by decide +kernel, rfl⟩
theorem d_RM_init_208 : decode mm_RM_init.2.1 208 = .ok (.putfield 88, 3) ∧ 208 + 3 = 211 := ⟨by decide +kernel, rfl⟩
theorem d_RM_init_211 : decode mm_RM_init.2.1 211 = .ok (.return_, 1) := by decide +kernel
theorem d_RM_digit_0 : decode mm_RM_digit.2.1 0 = .ok (.iload_n 1, 1) ∧ 0 + 1 = 1 := ⟨by decide +kernel, rfl⟩
theorem d_RM_digit_1 : decode mm_RM_digit.2.1 1 = .ok (.bipush 48, 2) ∧ 1 + 2 = 3 := ⟨by decide +kernel, rfl⟩
theorem d_RM_digit_3 : decode mm_RM_digit.2.1 3 = .ok (.if_icmp .lt 13, 3) ∧ 3 + 3 = 6 ∧ ((3 : Nat) : Int) + (13) = ((16 : Nat) : Int) := ⟨by decide +kernel, rfl, by decide⟩
theorem d_RM_digit_6 : decode mm_RM_digit.2.1 6 = .ok (.iload_n 1, 1) ∧ 6 + 1 = 7 := ⟨by decide +kernel, rfl⟩
theorem d_RM_digit_7 : decode mm_RM_digit.2.1 7 = .ok (.bipush 57, 2) ∧ 7 + 2 = 9 := ⟨by decide +kernel, rfl⟩
theorem d_RM_digit_9 : decode mm_RM_digit.2.1 9 = .ok (.if_icmp .gt 7, 3) ∧ 9 + 3 = 12 ∧ ((9 : Nat) : Int) + (7) = ((16 : Nat) : Int) := ⟨by decide +kernel, rfl, by decide⟩
theorem d_RM_digit_12 : decode mm_RM_digit.2.1 12 = .ok (.iconst 1, 1) ∧ 12 + 1 = 13 := ⟨by decide +kernel, rfl⟩
theorem d_RM_digit_13 : decode mm_RM_digit.2.1 13 = .ok (.goto 4, 3) ∧ 13 + 3 = 16 ∧ ((13 : Nat) : Int) + (4) = ((17 : Nat) : Int) := ⟨by decide +kernel, rfl, by decide⟩
theorem d_RM_digit_16 : decode mm_RM_digit.2.1 16 = .ok (.iconst 0, 1) ∧ 16 + 1 = 17 := ⟨by decide +kernel, rfl⟩
theorem d_RM_digit_17 : decode mm_RM_digit.2.1 17 = .ok (.ireturn, 1) := by decide +kernel
theorem d_RM_name_0 : decode mm_RM_name.2.1 0 = .ok (.iload_n 1, 1) ∧ 0 + 1 = 1 := ⟨by decide +kernel, rfl⟩
theorem d_RM_name_1 : decode mm_RM_name.2.1 1 = .ok (.bipush 97, 2) ∧ 1 + 2 = 3 := ⟨by decide +kernel, rfl⟩
theorem d_RM_name_3 : decode mm_RM_name.2.1 3 = .ok (.if_icmp .lt 13, 3) ∧ 3 + 3 = 6 ∧ ((3 : Nat) : Int) + (13) = ((16 : Nat) : Int) := ⟨by decide +kernel, rfl, by decide⟩
theorem d_RM_name_6 : decode mm_RM_name.2.1 6 = .ok (.iload_n 1, 1) ∧ 6 + 1 = 7 := ⟨by decide +kernel, rfl⟩
theorem d_RM_name_7 : decode mm_RM_name.2.1 7 = .ok (.bipush 104, 2) ∧ 7 + 2 = 9 := ⟨by decide +kernel, rfl⟩
theorem d_RM_name_9 : decode mm_RM_name.2.1 9 = .ok (.if_icmp .gt 7, 3) ∧ 9 + 3 = 12 ∧ ((9 : Nat) : Int) + (7) = ((16 : Nat) : Int) := ⟨by decide +kernel, rfl, by decide⟩
theorem d_RM_name_12 : decode mm_RM_name.2.1 12 = .ok (.iconst 1, 1) ∧ 12 + 1 = 13 := ⟨by decide +kernel, rfl⟩
theorem d_RM_name_13 : decode mm_RM_name.2.1 13 = .ok (.goto 4, 3) ∧ 13 + 3 = 16 ∧ ((13 : Nat) : Int) + (4) = ((17 : Nat) : Int) := ⟨by decide +kernel, rfl, by decide⟩
theorem d_RM_name_16 : decode mm_RM_name.2.1 16 = .ok (.iconst 0, 1) ∧ 16 + 1 = 17 := ⟨by decide +kernel, rfl⟩
theorem d_RM_name_17 : decode mm_RM_name.2.1 17 = .ok (.ireturn, 1) := by decide +kernel
theorem d_RM_wants_0 : decode mm_RM_wants.2.1 0 = .ok (.iload_n 1, 1) ∧ 0 + 1 = 1 := ⟨by decide +kernel, rfl⟩
theorem d_RM_wants_1 : decode mm_RM_wants.2.1 1 = .ok (.bipush 43, 2) ∧ 1 + 2 = 3 := ⟨by decide +kernel, rfl⟩
theorem d_RM_wants_3 : decode mm_RM_wants.2.1 3 = .ok (.if_icmp .eq 27, 3) ∧ 3 + 3 = 6 ∧ ((3 : Nat) : Int) + (27) = ((30 : Nat) : Int) := ⟨by decide +kernel, rfl, by decide⟩
theorem d_RM_wants_6 : decode mm_RM_wants.2.1 6 = .ok (.iload_n 1, 1) ∧ 6 + 1 = 7 := ⟨by decide +kernel, rfl⟩
theorem d_RM_wants_7 : decode mm_RM_wants.2.1 7 = .ok (.bipush 45, 2) ∧ 7 + 2 = 9 := ⟨by decide +kernel, rfl⟩
theorem d_RM_wants_9 : decode mm_RM_wants.2.1 9 = .ok (.if_icmp .eq 21, 3) ∧ 9 + 3 = 12 ∧ ((9 : Nat) : Int) + (21) = ((30 : Nat) : Int) := ⟨by decide +kernel, rfl, by decide⟩
theorem d_RM_wants_12 : decode mm_RM_wants.2.1 12 = .ok (.iload_n 1, 1) ∧ 12 + 1 = 13 := ⟨by decide +kernel, rfl⟩
theorem d_RM_wants_13 : decode mm_RM_wants.2.1 13 = .ok (.bipush 42, 2) ∧ 13 + 2 = 15 := ⟨by decide +kernel, rfl⟩
theorem d_RM_wants_15 : decode mm_RM_wants.2.1 15 = .ok (.if_icmp .eq 15, 3) ∧ 15 + 3 = 18 ∧ ((15 : Nat) : Int) + (15) = ((30 : Nat) : Int) := ⟨by decide +kernel, rfl, by decide⟩
theorem d_RM_wants_18 : decode mm_RM_wants.2.1 18 = .ok (.iload_n 1, 1) ∧ 18 + 1 = 19 := ⟨by decide +kernel, rfl⟩
theorem d_RM_wants_19 : decode mm_RM_wants.2.1 19 = .ok (.bipush 60, 2) ∧ 19 + 2 = 21 := ⟨by decide +kernel, rfl⟩
theorem d_RM_wants_21 : decode mm_RM_wants.2.1 21 = .ok (.if_icmp .eq 9, 3) ∧ 21 + 3 = 24 ∧ ((21 : Nat) : Int) + (9) = ((30 : Nat) : Int) := ⟨by decide +kernel, rfl, by decide⟩
theorem d_RM_wants_24 : decode mm_RM_wants.2.1 24 = .ok (.iload_n 1, 1) ∧ 24 + 1 = 25 := ⟨by decide +kernel, rfl⟩
theorem d_RM_wants_25 : decode mm_RM_wants.2.1 25 = .ok (.bipush 84, 2) ∧ 25 + 2 = 27 := ⟨by decide +kernel, rfl⟩
theorem d_RM_wants_27 : decode mm_RM_wants.2.1 27 = .ok (.if_icmp .ne 5, 3) ∧ 27 + 3 = 30 ∧ ((27 : Nat) : Int) + (5) = ((32 : Nat) : Int) := ⟨by decide +kernel, rfl, by decide⟩
theorem d_RM_wants_30 : decode mm_RM_wants.2.1 30 = .ok (.iconst 2, 1) ∧ 30 + 1 = 31 := ⟨by decide +kernel, rfl⟩
theorem d_RM_wants_31 : decode mm_RM_wants.2.1 31 = .ok (.ireturn, 1) := by decide +kernel
theorem d_RM_wants_32 : decode mm_RM_wants.2.1 32 = .ok (.iload_n 1, 1) ∧ 32 + 1 = 33 := ⟨by decide +kernel, rfl⟩
theorem d_RM_wants_33 : decode mm_RM_wants.2.1 33 = .ok (.bipush 63, 2) ∧ 33 + 2 = 35 := ⟨by decide +kernel, rfl⟩
theorem d_RM_wants_35 : decode mm_RM_wants.2.1 35 = .ok (.if_icmp .ne 7, 3) ∧ 35 + 3 = 38 ∧ ((35 : Nat) : Int) + (7) = ((42 : Nat) : Int) := ⟨by decide +kernel, rfl, by decide⟩
theorem d_RM_wants_38 : decode mm_RM_wants.2.1 38 = .ok (.iconst 3, 1) ∧ 38 + 1 = 39 := ⟨by decide +kernel, rfl⟩
theorem d_RM_wants_39 : decode mm_RM_wants.2.1 39 = .ok (.goto 20, 3) ∧ 39 + 3 = 42 ∧ ((39 : Nat) : Int) + (20) = ((59 : Nat) : Int) := ⟨by decide +kernel, rfl, by decide⟩
theorem d_RM_wants_42 : decode mm_RM_wants.2.1 42 = .ok (.iload_n 1, 1) ∧ 42 + 1 = 43 := ⟨by decide +kernel, rfl⟩
theorem d_RM_wants_43 : decode mm_RM_wants.2.1 43 = .ok (.bipush 33, 2) ∧ 43 + 2 = 45 := ⟨by decide +kernel, rfl⟩
theorem d_RM_wants_45 : decode mm_RM_wants.2.1 45 = .ok (.if_icmp .eq 9, 3) ∧ 45 + 3 = 48 ∧ ((45 : Nat) : Int) + (9) = ((54 : Nat) : Int) := ⟨by decide +kernel, rfl, by decide⟩
theorem d_RM_wants_48 : decode mm_RM_wants.2.1 48 = .ok (.iload_n 1, 1) ∧ 48 + 1 = 49 := ⟨by decide +kernel, rfl⟩
theorem d_RM_wants_49 : decode mm_RM_wants.2.1 49 = .ok (.bipush 79, 2) ∧ 49 + 2 = 51 := ⟨by decide +kernel, rfl⟩
theorem d_RM_wants_51 : decode mm_RM_wants.2.1 51 = .ok (.if_icmp .ne 7, 3) ∧ 51 + 3 = 54 ∧ ((51 : Nat) : Int) + (7) = ((58 : Nat) : Int) := ⟨by decide +kernel, rfl, by decide⟩
theorem d_RM_wants_54 : decode mm_RM_wants.2.1 54 = .ok (.iconst 1, 1) ∧ 54 + 1 = 55 := ⟨by decide +kernel, rfl⟩
theorem d_RM_wants_55 : decode mm_RM_wants.2.1 55 = .ok (.goto 4, 3) ∧ 55 + 3 = 58 ∧ ((55 : Nat) : Int) + (4) = ((59 : Nat) : Int) := ⟨by decide +kernel, rfl, by decide⟩
theorem d_RM_wants_58 : decode mm_RM_wants.2.1 58 = .ok (.iconst 0, 1) ∧ 58 + 1 = 59 := ⟨by decide +kernel, rfl⟩
theorem d_RM_wants_59 : decode mm_RM_wants.2.1 59 = .ok (.ireturn, 1) := by decide +kernel
theorem d_RM_type_0 : decode mm_RM_type.2.1 0 = .ok (.aload_n 0, 1) ∧ 0 + 1 = 1 := ⟨by decide +kernel, rfl⟩
theorem d_RM_type_1 : decode mm_RM_type.2.1 1 = .ok (.iload_n 1, 1) ∧ 1 + 1 = 2 := ⟨by decide +kernel, rfl⟩
theorem d_RM_type_2 : decode mm_RM_type.2.1 2 = .ok (.invokevirtual 91, 3) ∧ 2 + 3 = 5 := ⟨by decide +kernel, rfl⟩
theorem d_RM_type_5 : decode mm_RM_type.2.1 5 = .ok (.ifCond .ne 39, 3) ∧ 5 + 3 = 8 ∧ ((5 : Nat) : Int) + (39) = ((44 : Nat) : Int) := ⟨by decide +kernel, rfl, by decide⟩
theorem d_RM_type_8 : decode mm_RM_type.2.1 8 = .ok (.aload_n 0, 1) ∧ 8 + 1 = 9 := ⟨by decide +kernel, rfl⟩
theorem d_RM_type_9 : decode mm_RM_type.2.1 9 = .ok (.iload_n 1, 1) ∧ 9 + 1 = 10 := ⟨by decide +kernel, rfl⟩
theorem d_RM_type_10 : decode mm_RM_type.2.1 10 = .ok (.invokevirtual 95, 3) ∧ 10 + 3 = 13 := ⟨by decide +kernel, rfl⟩
theorem d_RM_type_13 : decode mm_RM_type.2.1 13 = .ok (.ifCond .ne 31, 3) ∧ 13 + 3 = 16 ∧ ((13 : Nat) : Int) + (31) = ((44 : Nat) : Int) := ⟨by decide +kernel, rfl, by decide⟩
theorem d_RM_type_16 : decode mm_RM_type.2.1 16 = .ok (.aload_n 0, 1) ∧ 16 + 1 = 17 := ⟨by decide +kernel, rfl⟩
theorem d_RM_type_17 : decode mm_RM_type.2.1 17 = .ok (.iload_n 1, 1) ∧ 17 + 1 = 18 := ⟨by decide +kernel, rfl⟩
theorem d_RM_type_18 : decode mm_RM_type.2.1 18 = .ok (.invokevirtual 98, 3) ∧ 18 + 3 = 21 := ⟨by decide +kernel, rfl⟩
theorem d_RM_type_21 : decode mm_RM_type.2.1 21 = .ok (.ifCond .ne 23, 3) ∧ 21 + 3 = 24 ∧ ((21 : Nat) : Int) + (23) = ((44 : Nat) : Int) := ⟨by decide +kernel, rfl, by decide⟩
theorem d_RM_type_24 : decode mm_RM_type.2.1 24 = .ok (.iload_n 1, 1) ∧ 24 + 1 = 25 := ⟨by decide +kernel, rfl⟩
theorem d_RM_type_25 : decode mm_RM_type.2.1 25 = .ok (.bipush 68, 2) ∧ 25 + 2 = 27 := ⟨by decide +kernel, rfl⟩
theorem d_RM_type_27 : decode mm_RM_type.2.1 27 = .ok (.if_icmp .eq 17, 3) ∧ 27 + 3 = 30 ∧ ((27 : Nat) : Int) + (17) = ((44 : Nat) : Int) := ⟨by decide +kernel, rfl, by decide⟩
theorem d_RM_type_30 : decode mm_RM_type.2.1 30 = .ok (.iload_n 1, 1) ∧ 30 + 1 = 31 := ⟨by decide +kernel, rfl⟩
theorem d_RM_type_31 : decode mm_RM_type.2.1 31 = .ok (.bipush 40, 2) ∧ 31 + 2 = 33 := ⟨by decide +kernel, rfl⟩
theorem d_RM_type_33 : decode mm_RM_type.2.1 33 = .ok (.if_icmp .eq 11, 3) ∧ 33 + 3 = 36 ∧ ((33 : Nat) : Int) + (11) = ((44 : Nat) : Int) := ⟨by decide +kernel, rfl, by decide⟩
theorem d_RM_type_36 : decode mm_RM_type.2.1 36 = .ok (.iload_n 1, 1) ∧ 36 + 1 = 37 := ⟨by decide +kernel, rfl⟩
theorem d_RM_type_37 : decode mm_RM_type.2.1 37 = .ok (.bipush 41, 2) ∧ 37 + 2 = 39 := ⟨by decide +kernel, rfl⟩
theorem d_RM_type_39 : decode mm_RM_type.2.1 39 = .ok (.if_icmp .eq 5, 3) ∧ 39 + 3 = 42 ∧ ((39 : Nat) : Int) + (5) = ((44 : Nat) : Int) := ⟨by decide +kernel, rfl, by decide⟩
theorem d_RM_type_42 : decode mm_RM_type.2.1 42 = .ok (.iconst (-1), 1) ∧ 42 + 1 = 43 := ⟨by decide +kernel, rfl⟩
theorem d_RM_type_43 : decode mm_RM_type.2.1 43 = .ok (.ireturn, 1) := by decide +kernel
theorem d_RM_type_44 : decode mm_RM_type.2.1 44 = .ok (.aload_n 0, 1) ∧ 44 + 1 = 45 := ⟨by decide +kernel, rfl⟩
theorem d_RM_type_45 : decode mm_RM_type.2.1 45 = .ok (.getfield 13, 3) ∧ 45 + 3 = 48 := ⟨by decide +kernel, rfl⟩
theorem d_RM_type_48 : decode mm_RM_type.2.1 48 = .ok (.bipush 8, 2) ∧ 48 + 2 = 50 := ⟨by decide +kernel, rfl⟩
theorem d_RM_type_50 : decode mm_RM_type.2.1 50 = .ok (.iaload, 1) ∧ 50 + 1 = 51 := ⟨by decide +kernel, rfl⟩
theorem d_RM_type_51 : decode mm_RM_type.2.1 51 = .ok (.bipush 24, 2) ∧ 51 + 2 = 53 := ⟨by decide +kernel, rfl⟩
theorem d_RM_type_53 : decode mm_RM_type.2.1 53 = .ok (.if_icmp .ne 6, 3) ∧ 53 + 3 = 56 ∧ ((53 : Nat) : Int) + (6) = ((59 : Nat) : Int) := ⟨by decide +kernel, rfl, by decide⟩
theorem d_RM_type_56 : decode mm_RM_type.2.1 56 = .ok (.bipush (-2), 2) ∧ 56 + 2 = 58 := ⟨by decide +kernel, rfl⟩
theorem d_RM_type_58 : decode mm_RM_type.2.1 58 = .ok (.ireturn, 1) := by decide +kernel
theorem d_RM_type_59 : decode mm_RM_type.2.1 59 = .ok (.aload_n 0, 1) ∧ 59 + 1 = 60 := ⟨by decide +kernel, rfl⟩
theorem d_RM_type_60 : decode mm_RM_type.2.1 60 = .ok (.getfield 7, 3) ∧ 60 + 3 = 63 := ⟨by decide +kernel, rfl⟩
theorem d_RM_type_63 : decode mm_RM_type.2.1 63 = .ok (.sipush 192, 3) ∧ 63 + 3 = 66 := ⟨by decide +kernel, rfl⟩
theorem d_RM_type_66 : decode mm_RM_type.2.1 66 = .ok (.aload_n 0, 1) ∧ 66 + 1 = 67 := ⟨by decide +kernel, rfl⟩
theorem d_RM_type_67 : decode mm_RM_type.2.1 67 = .ok (.getfield 13, 3) ∧ 67 + 3 = 70 := ⟨by decide +kernel, rfl⟩
theorem d_RM_type_70 : decode mm_RM_type.2.1 70 = .ok (.bipush 8, 2) ∧ 70 + 2 = 72 := ⟨by decide +kernel, rfl⟩
theorem d_RM_type_72 : decode mm_RM_type.2.1 72 = .ok (.iaload, 1) ∧ 72 + 1 = 73 := ⟨by decide +kernel, rfl⟩
theorem d_RM_type_73 : decode mm_RM_type.2.1 73 = .ok (.iadd, 1) ∧ 73 + 1 = 74 := ⟨by decide +kernel, rfl⟩
theorem d_RM_type_74 : decode mm_RM_type.2.1 74 = .ok (.iload_n 1, 1) ∧ 74 + 1 = 75 := ⟨by decide +kernel, rfl⟩
theorem d_RM_type_75 : decode mm_RM_type.2.1 75 = .ok (.iastore, 1) ∧ 75 + 1 = 76 := ⟨by decide +kernel, rfl⟩
theorem d_RM_type_76 : decode mm_RM_type.2.1 76 = .ok (.aload_n 0, 1) ∧ 76 + 1 = 77 := ⟨by decide +kernel, rfl⟩
theorem d_RM_type_77 : decode mm_RM_type.2.1 77 = .ok (.getfield 13, 3) ∧ 77 + 3 = 80 := ⟨by decide +kernel, rfl⟩
theorem d_RM_type_80 : decode mm_RM_type.2.1 80 = .ok (.bipush 8, 2) ∧ 80 + 2 = 82 := ⟨by decide +kernel, rfl⟩
theorem d_RM_type_82 : decode mm_RM_type.2.1 82 = .ok (.dup2, 1) ∧ 82 + 1 = 83 := ⟨by decide +kernel, rfl⟩
theorem d_RM_type_83 : decode mm_RM_type.2.1 83 = .ok (.iaload, 1) ∧ 83 + 1 = 84 := ⟨by decide +kernel, rfl⟩
theorem d_RM_type_84 : decode mm_RM_type.2.1 84 = .ok (.iconst 1, 1) ∧ 84 + 1 = 85 := ⟨by decide +kernel, rfl⟩
theorem d_RM_type_85 : decode mm_RM_type.2.1 85 = .ok (.iadd, 1) ∧ 85 + 1 = 86 := ⟨by decide +kernel, rfl⟩
theorem d_RM_type_86 : decode mm_RM_type.2.1 86 = .ok (.iastore, 1) ∧ 86 + 1 = 87 := ⟨by decide +kernel, rfl⟩
theorem d_RM_type_87 : decode mm_RM_type.2.1 87 = .ok (.aload_n 0, 1) ∧ 87 + 1 = 88 := ⟨by decide +kernel, rfl⟩
theorem d_RM_type_88 : decode mm_RM_type.2.1 88 = .ok (.getfield 13, 3) ∧ 88 + 3 = 91 := ⟨by decide +kernel, rfl⟩
theorem d_RM_type_91 : decode mm_RM_type.2.1 91 = .ok (.bipush 8, 2) ∧ 91 + 2 = 93 := ⟨by decide +kernel, rfl⟩
theorem d_RM_type_93 : decode mm_RM_type.2.1 93 = .ok (.iaload, 1) ∧ 93 + 1 = 94 := ⟨by decide +kernel, rfl⟩
theorem d_RM_type_94 : decode mm_RM_type.2.1 94 = .ok (.ireturn, 1) := by decide +kernel
theorem d_RM_types_0 : decode mm_RM_types.2.1 0 = .ok (.bipush 56, 2) ∧ 0 + 2 = 2 := ⟨by decide +kernel, rfl⟩
theorem d_RM_types_2 : decode mm_RM_types.2.1 2 = .ok (.istore_n 3, 1) ∧ 2 + 1 = 3 := ⟨by decide +kernel, rfl⟩
theorem d_RM_types_3 : decode mm_RM_types.2.1 3 = .ok (.iload_n 3, 1) ∧ 3 + 1 = 4 := ⟨by decide +kernel, rfl⟩
theorem d_RM_types_4 : decode mm_RM_types.2.1 4 = .ok (.ifCond .lt 44, 3) ∧ 4 + 3 = 7 ∧ ((4 : Nat) : Int) + (44) = ((48 : Nat) : Int) := ⟨by decide +kernel, rfl, by decide⟩
theorem d_RM_types_7 : decode mm_RM_types.2.1 7 = .ok (.lload_n 1, 1) ∧ 7 + 1 = 8 := ⟨by decide +kernel, rfl⟩
theorem d_RM_types_8 : decode mm_RM_types.2.1 8 = .ok (.iload_n 3, 1) ∧ 8 + 1 = 9 := ⟨by decide +kernel, rfl⟩
theorem d_RM_types_9 : decode mm_RM_types.2.1 9 = .ok (.lushr, 1) ∧ 9 + 1 = 10 := ⟨by decide +kernel, rfl⟩
theorem d_RM_types_10 : decode mm_RM_types.2.1 10 = .ok (.l2i, 1) ∧ 10 + 1 = 11 := ⟨by decide +kernel, rfl⟩
theorem d_RM_types_11 : decode mm_RM_types.2.1 11 = .ok (.sipush 255, 3) ∧ 11 + 3 = 14 := ⟨by decide +kernel, rfl⟩
theorem d_RM_types_14 : decode mm_RM_types.2.1 14 = .ok (.iand, 1) ∧ 14 + 1 = 15 := ⟨by decide +kernel, rfl⟩
theorem d_RM_types_15 : decode mm_RM_types.2.1 15 = .ok (.istore 4, 2) ∧ 15 + 2 = 17 := ⟨by decide +kernel, rfl⟩
theorem d_RM_types_17 : decode mm_RM_types.2.1 17 = .ok (.iload 4, 2) ∧ 17 + 2 = 19 := ⟨by decide +kernel, rfl⟩
theorem d_RM_types_19 : decode mm_RM_types.2.1 19 = .ok (.ifCond .ne 7, 3) ∧ 19 + 3 = 22 ∧ ((19 : Nat) : Int) + (7) = ((26 : Nat) : Int) := ⟨by decide +kernel, rfl, by decide⟩
theorem d_RM_types_22 : decode mm_RM_types.2.1 22 = .ok (.iconst 0, 1) ∧ 22 + 1 = 23 := ⟨by decide +kernel, rfl⟩
theorem d_RM_types_23 : decode mm_RM_types.2.1 23 = .ok (.goto 9, 3) ∧ 23 + 3 = 26 ∧ ((23 : Nat) : Int) + (9) = ((32 : Nat) : Int) := ⟨by decide +kernel, rfl, by decide⟩
theorem d_RM_types_26 : decode mm_RM_types.2.1 26 = .ok (.aload_n 0, 1) ∧ 26 + 1 = 27 := ⟨by decide +kernel, rfl⟩
theorem d_RM_types_27 : decode mm_RM_types.2.1 27 = .ok (.iload 4, 2) ∧ 27 + 2 = 29 := ⟨by decide +kernel, rfl⟩
theorem d_RM_types_29 : decode mm_RM_types.2.1 29 = .ok (.invokevirtual 102, 3) ∧ 29 + 3 = 32 := ⟨by decide +kernel, rfl⟩
theorem d_RM_types_32 : decode mm_RM_types.2.1 32 = .ok (.istore 5, 2) ∧ 32 + 2 = 34 := ⟨by decide +kernel, rfl⟩
theorem d_RM_types_34 : decode mm_RM_types.2.1 34 = .ok (.iload 5, 2) ∧ 34 + 2 = 36 := ⟨by decide +kernel, rfl⟩
theorem d_RM_types_36 : decode mm_RM_types.2.1 36 = .ok (.ifCond .ge 6, 3) ∧ 36 + 3 = 39 ∧ ((36 : Nat) : Int) + (6) = ((42 : Nat) : Int) := ⟨by decide +kernel, rfl, by decide⟩
theorem d_RM_types_39 : decode mm_RM_types.2.1 39 = .ok (.iload 5, 2) ∧ 39 + 2 = 41 := ⟨by decide +kernel, rfl⟩
theorem d_RM_types_41 : decode mm_RM_types.2.1 41 = .ok (.ireturn, 1) := by decide +kernel
theorem d_RM_types_42 : decode mm_RM_types.2.1 42 = .ok (.iinc 3 (-8), 3) ∧ 42 + 3 = 45 := ⟨by decide +kernel, rfl⟩
theorem d_RM_types_45 : decode mm_RM_types.2.1 45 = .ok (.goto (-42), 3) ∧ 45 + 3 = 48 ∧ ((45 : Nat) : Int) + (-42) = ((3 : Nat) : Int) := ⟨by decide +kernel, rfl, by decide⟩
theorem d_RM_types_48 : decode mm_RM_types.2.1 48 = .ok (.aload_n 0, 1) ∧ 48 + 1 = 49 := ⟨by decide +kernel, rfl⟩
theorem d_RM_types_49 : decode mm_RM_types.2.1 49 = .ok (.getfield 13, 3) ∧ 49 + 3 = 52 := ⟨by decide +kernel, rfl⟩
theorem d_RM_types_52 : decode mm_RM_types.2.1 52 = .ok (.bipush 8, 2) ∧ 52 + 2 = 54 := ⟨by decide +kernel, rfl⟩
theorem d_RM_types_54 : decode mm_RM_types.2.1 54 = .ok (.iaload, 1) ∧ 54 + 1 = 55 := ⟨by decide +kernel, rfl⟩
theorem d_RM_types_55 : decode mm_RM_types.2.1 55 = .ok (.ireturn, 1) := by decide +kernel
theorem d_RM_complete_0 : decode mm_RM_complete.2.1 0 = .ok (.iconst 1, 1) ∧ 0 + 1 = 1 := ⟨by decide +kernel, rfl⟩
theorem d_RM_complete_1 : decode mm_RM_complete.2.1 1 = .ok (.istore_n 1, 1) ∧ 1 + 1 = 2 := ⟨by decide +kernel, rfl⟩
theorem d_RM_complete_2 : decode mm_RM_complete.2.1 2 = .ok (.iload_n 1, 1) ∧ 2 + 1 = 3 := ⟨by decide +kernel, rfl⟩
theorem d_RM_complete_3 : decode mm_RM_complete.2.1 3 = .ok (.ifCond .eq 80, 3) ∧ 3 + 3 = 6 ∧ ((3 : Nat) : Int) + (80) = ((83 : Nat) : Int) := ⟨by decide +kernel, rfl, by decide⟩
theorem d_RM_complete_6 : decode mm_RM_complete.2.1 6 = .ok (.aload_n 0, 1) ∧ 6 + 1 = 7 := ⟨by decide +kernel, rfl⟩
theorem d_RM_complete_7 : decode mm_RM_complete.2.1 7 = .ok (.getfield 105, 3) ∧ 7 + 3 = 10 := ⟨by decide +kernel, rfl⟩
theorem d_RM_complete_10 : decode mm_RM_complete.2.1 10 = .ok (.ifCond .le 73, 3) ∧ 10 + 3 = 13 ∧ ((10 : Nat) : Int) + (73) = ((83 : Nat) : Int) := ⟨by decide +kernel, rfl, by decide⟩
theorem d_RM_complete_13 : decode mm_RM_complete.2.1 13 = .ok (.iconst 0, 1) ∧ 13 + 1 = 14 := ⟨by decide +kernel, rfl⟩
theorem d_RM_complete_14 : decode mm_RM_complete.2.1 14 = .ok (.istore_n 1, 1) ∧ 14 + 1 = 15 := ⟨by decide +kernel, rfl⟩
theorem d_RM_complete_15 : decode mm_RM_complete.2.1 15 = .ok (.aload_n 0, 1) ∧ 15 + 1 = 16 := ⟨by decide +kernel, rfl⟩
theorem d_RM_complete_16 : decode mm_RM_complete.2.1 16 = .ok (.getfield 37, 3) ∧ 16 + 3 = 19 := ⟨by decide +kernel, rfl⟩
theorem d_RM_complete_19 : decode mm_RM_complete.2.1 19 = .ok (.aload_n 0, 1) ∧ 19 + 1 = 20 := ⟨by decide +kernel, rfl⟩
theorem d_RM_complete_20 : decode mm_RM_complete.2.1 20 = .ok (.getfield 105, 3) ∧ 20 + 3 = 23 := ⟨by decide +kernel, rfl⟩
theorem d_RM_complete_23 : decode mm_RM_complete.2.1 23 = .ok (.baload, 1) ∧ 23 + 1 = 24 := ⟨by decide +kernel, rfl⟩
theorem d_RM_complete_24 : decode mm_RM_complete.2.1 24 = .ok (.ifCond .eq 19, 3) ∧ 24 + 3 = 27 ∧ ((24 : Nat) : Int) + (19) = ((43 : Nat) : Int) := ⟨by decide +kernel, rfl, by decide⟩
theorem d_RM_complete_27 : decode mm_RM_complete.2.1 27 = .ok (.aload_n 0, 1) ∧ 27 + 1 = 28 := ⟨by decide +kernel, rfl⟩
theorem d_RM_complete_28 : decode mm_RM_complete.2.1 28 = .ok (.getfield 40, 3) ∧ 28 + 3 = 31 := ⟨by decide +kernel, rfl⟩
theorem d_RM_complete_31 : decode mm_RM_complete.2.1 31 = .ok (.aload_n 0, 1) ∧ 31 + 1 = 32 := ⟨by decide +kernel, rfl⟩
theorem d_RM_complete_32 : decode mm_RM_complete.2.1 32 = .ok (.getfield 105, 3) ∧ 32 + 3 = 35 := ⟨by decide +kernel, rfl⟩
theorem d_RM_complete_35 : decode mm_RM_complete.2.1 35 = .ok (.dup2, 1) ∧ 35 + 1 = 36 := ⟨by decide +kernel, rfl⟩
theorem d_RM_complete_36 : decode mm_RM_complete.2.1 36 = .ok (.iaload, 1) ∧ 36 + 1 = 37 := ⟨by decide +kernel, rfl⟩
theorem d_RM_complete_37 : decode mm_RM_complete.2.1 37 = .ok (.iconst 1, 1) ∧ 37 + 1 = 38 := ⟨by decide +kernel, rfl⟩
theorem d_RM_complete_38 : decode mm_RM_complete.2.1 38 = .ok (.iadd, 1) ∧ 38 + 1 = 39 := ⟨by decide +kernel, rfl⟩
theorem d_RM_complete_39 : decode mm_RM_complete.2.1 39 = .ok (.iastore, 1) ∧ 39 + 1 = 40 := ⟨by decide +kernel, rfl⟩
theorem d_RM_complete_40 : decode mm_RM_complete.2.1 40 = .ok (.goto (-38), 3) ∧ 40 + 3 = 43 ∧ ((40 : Nat) : Int) + (-38) = ((2 : Nat) : Int) := ⟨by decide +kernel, rfl, by decide⟩
theorem d_RM_complete_43 : decode mm_RM_complete.2.1 43 = .ok (.aload_n 0, 1) ∧ 43 + 1 = 44 := ⟨by decide +kernel, rfl⟩
theorem d_RM_complete_44 : decode mm_RM_complete.2.1 44 = .ok (.getfield 34, 3) ∧ 44 + 3 = 47 := ⟨by decide +kernel, rfl⟩
theorem d_RM_complete_47 : decode mm_RM_complete.2.1 47 = .ok (.aload_n 0, 1) ∧ 47 + 1 = 48 := ⟨by decide +kernel, rfl⟩
theorem d_RM_complete_48 : decode mm_RM_complete.2.1 48 = .ok (.getfield 105, 3) ∧ 48 + 3 = 51 := ⟨by decide +kernel, rfl⟩
theorem d_RM_complete_51 : decode mm_RM_complete.2.1 51 = .ok (.dup2, 1) ∧ 51 + 1 = 52 := ⟨by decide +kernel, rfl⟩
theorem d_RM_complete_52 : decode mm_RM_complete.2.1 52 = .ok (.iaload, 1) ∧ 52 + 1 = 53 := ⟨by decide +kernel, rfl⟩
theorem d_RM_complete_53 : decode mm_RM_complete.2.1 53 = .ok (.iconst 1, 1) ∧ 53 + 1 = 54 := ⟨by decide +kernel, rfl⟩
theorem d_RM_complete_54 : decode mm_RM_complete.2.1 54 = .ok (.isub, 1) ∧ 54 + 1 = 55 := ⟨by decide +kernel, rfl⟩
theorem d_RM_complete_55 : decode mm_RM_complete.2.1 55 = .ok (.iastore, 1) ∧ 55 + 1 = 56 := ⟨by decide +kernel, rfl⟩
theorem d_RM_complete_56 : decode mm_RM_complete.2.1 56 = .ok (.aload_n 0, 1) ∧ 56 + 1 = 57 := ⟨by decide +kernel, rfl⟩
theorem d_RM_complete_57 : decode mm_RM_complete.2.1 57 = .ok (.getfield 34, 3) ∧ 57 + 3 = 60 := ⟨by decide +kernel, rfl⟩
theorem d_RM_complete_60 : decode mm_RM_complete.2.1 60 = .ok (.aload_n 0, 1) ∧ 60 + 1 = 61 := ⟨by decide +kernel, rfl⟩
theorem d_RM_complete_61 : decode mm_RM_complete.2.1 61 = .ok (.getfield 105, 3) ∧ 61 + 3 = 64 := ⟨by decide +kernel, rfl⟩
theorem d_RM_complete_64 : decode mm_RM_complete.2.1 64 = .ok (.iaload, 1) ∧ 64 + 1 = 65 := ⟨by decide +kernel, rfl⟩
theorem d_RM_complete_65 : decode mm_RM_complete.2.1 65 = .ok (.ifCond .ne (-63), 3) ∧ 65 + 3 = 68 ∧ ((65 : Nat) : Int) + (-63) = ((2 : Nat) : Int) := ⟨by decide +kernel, rfl, by decide⟩
theorem d_RM_complete_68 : decode mm_RM_complete.2.1 68 = .ok (.aload_n 0, 1) ∧ 68 + 1 = 69 := ⟨by decide +kernel, rfl⟩
theorem d_RM_complete_69 : decode mm_RM_complete.2.1 69 = .ok (.dup, 1) ∧ 69 + 1 = 70 := ⟨by decide +kernel, rfl⟩
theorem d_RM_complete_70 : decode mm_RM_complete.2.1 70 = .ok (.getfield 105, 3) ∧ 70 + 3 = 73 := ⟨by decide +kernel, rfl⟩
theorem d_RM_complete_73 : decode mm_RM_complete.2.1 73 = .ok (.iconst 1, 1) ∧ 73 + 1 = 74 := ⟨by decide +kernel, rfl⟩
theorem d_RM_complete_74 : decode mm_RM_complete.2.1 74 = .ok (.isub, 1) ∧ 74 + 1 = 75 := ⟨by decide +kernel, rfl⟩
theorem d_RM_complete_75 : decode mm_RM_complete.2.1 75 = .ok (.putfield 105, 3) ∧ 75 + 3 = 78 := ⟨by decide +kernel, rfl⟩
theorem d_RM_complete_78 : decode mm_RM_complete.2.1 78 = .ok (.iconst 1, 1) ∧ 78 + 1 = 79 := ⟨by decide +kernel, rfl⟩
theorem d_RM_complete_79 : decode mm_RM_complete.2.1 79 = .ok (.istore_n 1, 1) ∧ 79 + 1 = 80 := ⟨by decide +kernel, rfl⟩
theorem d_RM_complete_80 : decode mm_RM_complete.2.1 80 = .ok (.goto (-78), 3) ∧ 80 + 3 = 83 ∧ ((80 : Nat) : Int) + (-78) = ((2 : Nat) : Int) := ⟨by decide +kernel, rfl, by decide⟩
theorem d_RM_complete_83 : decode mm_RM_complete.2.1 83 = .ok (.return_, 1) := by decide +kernel
theorem d_RM_deeper_0 : decode mm_RM_deeper.2.1 0 = .ok (.aload_n 0, 1) ∧ 0 + 1 = 1 := ⟨by decide +kernel, rfl⟩
theorem d_RM_deeper_1 : decode mm_RM_deeper.2.1 1 = .ok (.dup, 1) ∧ 1 + 1 = 2 := ⟨by decide +kernel, rfl⟩
theorem d_RM_deeper_2 : decode mm_RM_deeper.2.1 2 = .ok (.getfield 105, 3) ∧ 2 + 3 = 5 := ⟨by decide +kernel, rfl⟩
theorem d_RM_deeper_5 : decode mm_RM_deeper.2.1 5 = .ok (.iconst 1, 1) ∧ 5 + 1 = 6 := ⟨by decide +kernel, rfl⟩
theorem d_RM_deeper_6 : decode mm_RM_deeper.2.1 6 = .ok (.iadd, 1) ∧ 6 + 1 = 7 := ⟨by decide +kernel, rfl⟩
theorem d_RM_deeper_7 : decode mm_RM_deeper.2.1 7 = .ok (.putfield 105, 3) ∧ 7 + 3 = 10 := ⟨by decide +kernel, rfl⟩
theorem d_RM_deeper_10 : decode mm_RM_deeper.2.1 10 = .ok (.aload_n 0, 1) ∧ 10 + 1 = 11 := ⟨by decide +kernel, rfl⟩
theorem d_RM_deeper_11 : decode mm_RM_deeper.2.1 11 = .ok (.getfield 34, 3) ∧ 11 + 3 = 14 := ⟨by decide +kernel, rfl⟩
theorem d_RM_deeper_14 : decode mm_RM_deeper.2.1 14 = .ok (.aload_n 0, 1) ∧ 14 + 1 = 15 := ⟨by decide +kernel, rfl⟩
theorem d_RM_deeper_15 : decode mm_RM_deeper.2.1 15 = .ok (.getfield 105, 3) ∧ 15 + 3 = 18 := ⟨by decide +kernel, rfl⟩
theorem d_RM_deeper_18 : decode mm_RM_deeper.2.1 18 = .ok (.iload_n 1, 1) ∧ 18 + 1 = 19 := ⟨by decide +kernel, rfl⟩
theorem d_RM_deeper_19 : decode mm_RM_deeper.2.1 19 = .ok (.iastore, 1) ∧ 19 + 1 = 20 := ⟨by decide +kernel, rfl⟩
theorem d_RM_deeper_20 : decode mm_RM_deeper.2.1 20 = .ok (.aload_n 0, 1) ∧ 20 + 1 = 21 := ⟨by decide +kernel, rfl⟩
theorem d_RM_deeper_21 : decode mm_RM_deeper.2.1 21 = .ok (.getfield 37, 3) ∧ 21 + 3 = 24 := ⟨by decide +kernel, rfl⟩
theorem d_RM_deeper_24 : decode mm_RM_deeper.2.1 24 = .ok (.aload_n 0, 1) ∧ 24 + 1 = 25 := ⟨by decide +kernel, rfl⟩
theorem d_RM_deeper_25 : decode mm_RM_deeper.2.1 25 = .ok (.getfield 105, 3) ∧ 25 + 3 = 28 := ⟨by decide +kernel, rfl⟩
theorem d_RM_deeper_28 : decode mm_RM_deeper.2.1 28 = .ok (.iload_n 2, 1) ∧ 28 + 1 = 29 := ⟨by decide +kernel, rfl⟩
theorem d_RM_deeper_29 : decode mm_RM_deeper.2.1 29 = .ok (.bastore, 1) ∧ 29 + 1 = 30 := ⟨by decide +kernel, rfl⟩
theorem d_RM_deeper_30 : decode mm_RM_deeper.2.1 30 = .ok (.aload_n 0, 1) ∧ 30 + 1 = 31 := ⟨by decide +kernel, rfl⟩
theorem d_RM_deeper_31 : decode mm_RM_deeper.2.1 31 = .ok (.getfield 40, 3) ∧ 31 + 3 = 34 := ⟨by decide +kernel, rfl⟩
theorem d_RM_deeper_34 : decode mm_RM_deeper.2.1 34 = .ok (.aload_n 0, 1) ∧ 34 + 1 = 35 := ⟨by decide +kernel, rfl⟩
theorem d_RM_deeper_35 : decode mm_RM_deeper.2.1 35 = .ok (.getfield 105, 3) ∧ 35 + 3 = 38 := ⟨by decide +kernel, rfl⟩
theorem d_RM_deeper_38 : decode mm_RM_deeper.2.1 38 = .ok (.iconst 0, 1) ∧ 38 + 1 = 39 := ⟨by decide +kernel, rfl⟩
theorem d_RM_deeper_39 : decode mm_RM_deeper.2.1 39 = .ok (.iastore, 1) ∧ 39 + 1 = 40 := ⟨by decide +kernel, rfl⟩
theorem d_RM_deeper_40 : decode mm_RM_deeper.2.1 40 = .ok (.return_, 1) := by decide +kernel
theorem d_RM_badPlace_0 : decode mm_RM_badPlace.2.1 0 = .ok (.aload_n 0, 1) ∧ 0 + 1 = 1 := ⟨by decide +kernel, rfl⟩
theorem d_RM_badPlace_1 : decode mm_RM_badPlace.2.1 1 = .ok (.iconst 0, 1) ∧ 1 + 1 = 2 := ⟨by decide +kernel, rfl⟩
theorem d_RM_badPlace_2 : decode mm_RM_badPlace.2.1 2 = .ok (.putfield 105, 3) ∧ 2 + 3 = 5 := ⟨by decide +kernel, rfl⟩
theorem d_RM_badPlace_5 : decode mm_RM_badPlace.2.1 5 = .ok (.aload_n 0, 1) ∧ 5 + 1 = 6 := ⟨by decide +kernel, rfl⟩
theorem d_RM_badPlace_6 : decode mm_RM_badPlace.2.1 6 = .ok (.iconst 0, 1) ∧ 6 + 1 = 7 := ⟨by decide +kernel, rfl⟩
theorem d_RM_badPlace_7 : decode mm_RM_badPlace.2.1 7 = .ok (.putfield 108, 3) ∧ 7 + 3 = 10 := ⟨by decide +kernel, rfl⟩
theorem d_RM_badPlace_10 : decode mm_RM_badPlace.2.1 10 = .ok (.aload_n 0, 1) ∧ 10 + 1 = 11 := ⟨by decide +kernel, rfl⟩
theorem d_RM_badPlace_11 : decode mm_RM_badPlace.2.1 11 = .ok (.iconst 1, 1) ∧ 11 + 1 = 12 := ⟨by decide +kernel, rfl⟩
theorem d_RM_badPlace_12 : decode mm_RM_badPlace.2.1 12 = .ok (.iconst 0, 1) ∧ 12 + 1 = 13 := ⟨by decide +kernel, rfl⟩
theorem d_RM_badPlace_13 : decode mm_RM_badPlace.2.1 13 = .ok (.invokevirtual 111, 3) ∧ 13 + 3 = 16 := ⟨by decide +kernel, rfl⟩
theorem d_RM_badPlace_16 : decode mm_RM_badPlace.2.1 16 = .ok (.iconst 0, 1) ∧ 16 + 1 = 17 := ⟨by decide +kernel, rfl⟩
theorem d_RM_badPlace_17 : decode mm_RM_badPlace.2.1 17 = .ok (.istore_n 1, 1) ∧ 17 + 1 = 18 := ⟨by decide +kernel, rfl⟩
theorem d_RM_badPlace_18 : decode mm_RM_badPlace.2.1 18 = .ok (.iconst 0, 1) ∧ 18 + 1 = 19 := ⟨by decide +kernel, rfl⟩
theorem d_RM_badPlace_19 : decode mm_RM_badPlace.2.1 19 = .ok (.istore_n 2, 1) ∧ 19 + 1 = 20 := ⟨by decide +kernel, rfl⟩
theorem d_RM_badPlace_20 : decode mm_RM_badPlace.2.1 20 = .ok (.iload_n 2, 1) ∧ 20 + 1 = 21 := ⟨by decide +kernel, rfl⟩
theorem d_RM_badPlace_21 : decode mm_RM_badPlace.2.1 21 = .ok (.aload_n 0, 1) ∧ 21 + 1 = 22 := ⟨by decide +kernel, rfl⟩
theorem d_RM_badPlace_22 : decode mm_RM_badPlace.2.1 22 = .ok (.getfield 13, 3) ∧ 22 + 3 = 25 := ⟨by decide +kernel, rfl⟩
theorem d_RM_badPlace_25 : decode mm_RM_badPlace.2.1 25 = .ok (.bipush 8, 2) ∧ 25 + 2 = 27 := ⟨by decide +kernel, rfl⟩
theorem d_RM_badPlace_27 : decode mm_RM_badPlace.2.1 27 = .ok (.iaload, 1) ∧ 27 + 1 = 28 := ⟨by decide +kernel, rfl⟩
theorem d_RM_badPlace_28 : decode mm_RM_badPlace.2.1 28 = .ok (.if_icmp .ge 229, 3) ∧ 28 + 3 = 31 ∧ ((28 : Nat) : Int) + (229) = ((257 : Nat) : Int) := ⟨by decide +kernel, rfl, by decide⟩
theorem d_RM_badPlace_31 : decode mm_RM_badPlace.2.1 31 = .ok (.aload_n 0, 1) ∧ 31 + 1 = 32 := ⟨by decide +kernel, rfl⟩
theorem d_RM_badPlace_32 : decode mm_RM_badPlace.2.1 32 = .ok (.getfield 7, 3) ∧ 32 + 3 = 35 := ⟨by decide +kernel, rfl⟩
theorem d_RM_badPlace_35 : decode mm_RM_badPlace.2.1 35 = .ok (.sipush 192, 3) ∧ 35 + 3 = 38 := ⟨by decide +kernel, rfl⟩
theorem d_RM_badPlace_38 : decode mm_RM_badPlace.2.1 38 = .ok (.iload_n 2, 1) ∧ 38 + 1 = 39 := ⟨by decide +kernel, rfl⟩
theorem d_RM_badPlace_39 : decode mm_RM_badPlace.2.1 39 = .ok (.iadd, 1) ∧ 39 + 1 = 40 := ⟨by decide +kernel, rfl⟩
theorem d_RM_badPlace_40 : decode mm_RM_badPlace.2.1 40 = .ok (.iaload, 1) ∧ 40 + 1 = 41 := ⟨by decide +kernel, rfl⟩
theorem d_RM_badPlace_41 : decode mm_RM_badPlace.2.1 41 = .ok (.istore_n 3, 1) ∧ 41 + 1 = 42 := ⟨by decide +kernel, rfl⟩
theorem d_RM_badPlace_42 : decode mm_RM_badPlace.2.1 42 = .ok (.aload_n 0, 1) ∧ 42 + 1 = 43 := ⟨by decide +kernel, rfl⟩
theorem d_RM_badPlace_43 : decode mm_RM_badPlace.2.1 43 = .ok (.getfield 105, 3) ∧ 43 + 3 = 46 := ⟨by decide +kernel, rfl⟩
theorem d_RM_badPlace_46 : decode mm_RM_badPlace.2.1 46 = .ok (.ifCond .ne 5, 3) ∧ 46 + 3 = 49 ∧ ((46 : Nat) : Int) + (5) = ((51 : Nat) : Int) := ⟨by decide +kernel, rfl, by decide⟩
theorem d_RM_badPlace_49 : decode mm_RM_badPlace.2.1 49 = .ok (.iload_n 2, 1) ∧ 49 + 1 = 50 := ⟨by decide +kernel, rfl⟩
theorem d_RM_badPlace_50 : decode mm_RM_badPlace.2.1 50 = .ok (.ireturn, 1) := by decide +kernel
theorem d_RM_badPlace_51 : decode mm_RM_badPlace.2.1 51 = .ok (.iload_n 1, 1) ∧ 51 + 1 = 52 := ⟨by decide +kernel, rfl⟩
theorem d_RM_badPlace_52 : decode mm_RM_badPlace.2.1 52 = .ok (.iconst 1, 1) ∧ 52 + 1 = 53 := ⟨by decide +kernel, rfl⟩
theorem d_RM_badPlace_53 : decode mm_RM_badPlace.2.1 53 = .ok (.if_icmp .ne 18, 3) ∧ 53 + 3 = 56 ∧ ((53 : Nat) : Int) + (18) = ((71 : Nat) : Int) := ⟨by decide +kernel, rfl, by decide⟩
theorem d_RM_badPlace_56 : decode mm_RM_badPlace.2.1 56 = .ok (.aload_n 0, 1) ∧ 56 + 1 = 57 := ⟨by decide +kernel, rfl⟩
theorem d_RM_badPlace_57 : decode mm_RM_badPlace.2.1 57 = .ok (.iload_n 3, 1) ∧ 57 + 1 = 58 := ⟨by decide +kernel, rfl⟩
theorem d_RM_badPlace_58 : decode mm_RM_badPlace.2.1 58 = .ok (.invokevirtual 91, 3) ∧ 58 + 3 = 61 := ⟨by decide +kernel, rfl⟩
theorem d_RM_badPlace_61 : decode mm_RM_badPlace.2.1 61 = .ok (.ifCond .ne 5, 3) ∧ 61 + 3 = 64 ∧ ((61 : Nat) : Int) + (5) = ((66 : Nat) : Int) := ⟨by decide +kernel, rfl, by decide⟩
theorem d_RM_badPlace_64 : decode mm_RM_badPlace.2.1 64 = .ok (.iload_n 2, 1) ∧ 64 + 1 = 65 := ⟨by decide +kernel, rfl⟩
theorem d_RM_badPlace_65 : decode mm_RM_badPlace.2.1 65 = .ok (.ireturn, 1) := by decide +kernel
theorem d_RM_badPlace_66 : decode mm_RM_badPlace.2.1 66 = .ok (.iconst 2, 1) ∧ 66 + 1 = 67 := ⟨by decide +kernel, rfl⟩
theorem d_RM_badPlace_67 : decode mm_RM_badPlace.2.1 67 = .ok (.istore_n 1, 1) ∧ 67 + 1 = 68 := ⟨by decide +kernel, rfl⟩
theorem d_RM_badPlace_68 : decode mm_RM_badPlace.2.1 68 = .ok (.goto 183, 3) ∧ 68 + 3 = 71 ∧ ((68 : Nat) : Int) + (183) = ((251 : Nat) : Int) := ⟨by decide +kernel, rfl, by decide⟩
theorem d_RM_badPlace_71 : decode mm_RM_badPlace.2.1 71 = .ok (.iload_n 1, 1) ∧ 71 + 1 = 72 := ⟨by decide +kernel, rfl⟩
theorem d_RM_badPlace_72 : decode mm_RM_badPlace.2.1 72 = .ok (.iconst 2, 1) ∧ 72 + 1 = 73 := ⟨by decide +kernel, rfl⟩
theorem d_RM_badPlace_73 : decode mm_RM_badPlace.2.1 73 = .ok (.if_icmp .ne 22, 3) ∧ 73 + 3 = 76 ∧ ((73 : Nat) : Int) + (22) = ((95 : Nat) : Int) := ⟨by decide +kernel, rfl, by decide⟩
theorem d_RM_badPlace_76 : decode mm_RM_badPlace.2.1 76 = .ok (.iload_n 3, 1) ∧ 76 + 1 = 77 := ⟨by decide +kernel, rfl⟩
theorem d_RM_badPlace_77 : decode mm_RM_badPlace.2.1 77 = .ok (.bipush 40, 2) ∧ 77 + 2 = 79 := ⟨by decide +kernel, rfl⟩
theorem d_RM_badPlace_79 : decode mm_RM_badPlace.2.1 79 = .ok (.if_icmp .eq 5, 3) ∧ 79 + 3 = 82 ∧ ((79 : Nat) : Int) + (5) = ((84 : Nat) : Int) := ⟨by decide +kernel, rfl, by decide⟩
theorem d_RM_badPlace_82 : decode mm_RM_badPlace.2.1 82 = .ok (.iload_n 2, 1) ∧ 82 + 1 = 83 := ⟨by decide +kernel, rfl⟩
theorem d_RM_badPlace_83 : decode mm_RM_badPlace.2.1 83 = .ok (.ireturn, 1) := by decide +kernel
theorem d_RM_badPlace_84 : decode mm_RM_badPlace.2.1 84 = .ok (.aload_n 0, 1) ∧ 84 + 1 = 85 := ⟨by decide +kernel, rfl⟩
theorem d_RM_badPlace_85 : decode mm_RM_badPlace.2.1 85 = .ok (.iconst 0, 1) ∧ 85 + 1 = 86 := ⟨by decide +kernel, rfl⟩
theorem d_RM_badPlace_86 : decode mm_RM_badPlace.2.1 86 = .ok (.iconst 1, 1) ∧ 86 + 1 = 87 := ⟨by decide +kernel, rfl⟩
theorem d_RM_badPlace_87 : decode mm_RM_badPlace.2.1 87 = .ok (.invokevirtual 111, 3) ∧ 87 + 3 = 90 := ⟨by decide +kernel, rfl⟩
theorem d_RM_badPlace_90 : decode mm_RM_badPlace.2.1 90 = .ok (.iconst 0, 1) ∧ 90 + 1 = 91 := ⟨by decide +kernel, rfl⟩
theorem d_RM_badPlace_91 : decode mm_RM_badPlace.2.1 91 = .ok (.istore_n 1, 1) ∧ 91 + 1 = 92 := ⟨by decide +kernel, rfl⟩
theorem d_RM_badPlace_92 : decode mm_RM_badPlace.2.1 92 = .ok (.goto 159, 3) ∧ 92 + 3 = 95 ∧ ((92 : Nat) : Int) + (159) = ((251 : Nat) : Int) := ⟨by decide +kernel, rfl, by decide⟩
theorem d_RM_badPlace_95 : decode mm_RM_badPlace.2.1 95 = .ok (.aload_n 0, 1) ∧ 95 + 1 = 96 := ⟨by decide +kernel, rfl⟩
theorem d_RM_badPlace_96 : decode mm_RM_badPlace.2.1 96 = .ok (.getfield 37, 3) ∧ 96 + 3 = 99 := ⟨by decide +kernel, rfl⟩
theorem d_RM_badPlace_99 : decode mm_RM_badPlace.2.1 99 = .ok (.aload_n 0, 1) ∧ 99 + 1 = 100 := ⟨by decide +kernel, rfl⟩
theorem d_RM_badPlace_100 : decode mm_RM_badPlace.2.1 100 = .ok (.getfield 105, 3) ∧ 100 + 3 = 103 := ⟨by decide +kernel, rfl⟩
theorem d_RM_badPlace_103 : decode mm_RM_badPlace.2.1 103 = .ok (.baload, 1) ∧ 103 + 1 = 104 := ⟨by decide +kernel, rfl⟩
theorem d_RM_badPlace_104 : decode mm_RM_badPlace.2.1 104 = .ok (.ifCond .eq 26, 3) ∧ 104 + 3 = 107 ∧ ((104 : Nat) : Int) + (26) = ((130 : Nat) : Int) := ⟨by decide +kernel, rfl, by decide⟩
theorem d_RM_badPlace_107 : decode mm_RM_badPlace.2.1 107 = .ok (.iload_n 3, 1) ∧ 107 + 1 = 108 := ⟨by decide +kernel, rfl⟩
theorem d_RM_badPlace_108 : decode mm_RM_badPlace.2.1 108 = .ok (.bipush 41, 2) ∧ 108 + 2 = 110 := ⟨by decide +kernel, rfl⟩
theorem d_RM_badPlace_110 : decode mm_RM_badPlace.2.1 110 = .ok (.if_icmp .ne 20, 3) ∧ 110 + 3 = 113 ∧ ((110 : Nat) : Int) + (20) = ((130 : Nat) : Int) := ⟨by decide +kernel, rfl, by decide⟩
theorem d_RM_badPlace_113 : decode mm_RM_badPlace.2.1 113 = .ok (.aload_n 0, 1) ∧ 113 + 1 = 114 := ⟨by decide +kernel, rfl⟩
theorem d_RM_badPlace_114 : decode mm_RM_badPlace.2.1 114 = .ok (.dup, 1) ∧ 114 + 1 = 115 := ⟨by decide +kernel, rfl⟩
theorem d_RM_badPlace_115 : decode mm_RM_badPlace.2.1 115 = .ok (.getfield 105, 3) ∧ 115 + 3 = 118 := ⟨by decide +kernel, rfl⟩
theorem d_RM_badPlace_118 : decode mm_RM_badPlace.2.1 118 = .ok (.iconst 1, 1) ∧ 118 + 1 = 119 := ⟨by decide +kernel, rfl⟩
theorem d_RM_badPlace_119 : decode mm_RM_badPlace.2.1 119 = .ok (.isub, 1) ∧ 119 + 1 = 120 := ⟨by decide +kernel, rfl⟩
theorem d_RM_badPlace_120 : decode mm_RM_badPlace.2.1 120 = .ok (.putfield 105, 3) ∧ 120 + 3 = 123 := ⟨by decide +kernel, rfl⟩
theorem d_RM_badPlace_123 : decode mm_RM_badPlace.2.1 123 = .ok (.aload_n 0, 1) ∧ 123 + 1 = 124 := ⟨by decide +kernel, rfl⟩
theorem d_RM_badPlace_124 : decode mm_RM_badPlace.2.1 124 = .ok (.invokevirtual 115, 3) ∧ 124 + 3 = 127 := ⟨by decide +kernel, rfl⟩
theorem d_RM_badPlace_127 : decode mm_RM_badPlace.2.1 127 = .ok (.goto 124, 3) ∧ 127 + 3 = 130 ∧ ((127 : Nat) : Int) + (124) = ((251 : Nat) : Int) := ⟨by decide +kernel, rfl, by decide⟩
theorem d_RM_badPlace_130 : decode mm_RM_badPlace.2.1 130 = .ok (.aload_n 0, 1) ∧ 130 + 1 = 131 := ⟨by decide +kernel, rfl⟩
theorem d_RM_badPlace_131 : decode mm_RM_badPlace.2.1 131 = .ok (.getfield 105, 3) ∧ 131 + 3 = 134 := ⟨by decide +kernel, rfl⟩
theorem d_RM_badPlace_134 : decode mm_RM_badPlace.2.1 134 = .ok (.bipush 8, 2) ∧ 134 + 2 = 136 := ⟨by decide +kernel, rfl⟩
theorem d_RM_badPlace_136 : decode mm_RM_badPlace.2.1 136 = .ok (.if_icmp .gt 28, 3) ∧ 136 + 3 = 139 ∧ ((136 : Nat) : Int) + (28) = ((164 : Nat) : Int) := ⟨by decide +kernel, rfl, by decide⟩
theorem d_RM_badPlace_139 : decode mm_RM_badPlace.2.1 139 = .ok (.aload_n 0, 1) ∧ 139 + 1 = 140 := ⟨by decide +kernel, rfl⟩
theorem d_RM_badPlace_140 : decode mm_RM_badPlace.2.1 140 = .ok (.getfield 37, 3) ∧ 140 + 3 = 143 := ⟨by decide +kernel, rfl⟩
theorem d_RM_badPlace_143 : decode mm_RM_badPlace.2.1 143 = .ok (.aload_n 0, 1) ∧ 143 + 1 = 144 := ⟨by decide +kernel, rfl⟩
theorem d_RM_badPlace_144 : decode mm_RM_badPlace.2.1 144 = .ok (.getfield 105, 3) ∧ 144 + 3 = 147 := ⟨by decide +kernel, rfl⟩
theorem d_RM_badPlace_147 : decode mm_RM_badPlace.2.1 147 = .ok (.baload, 1) ∧ 147 + 1 = 148 := ⟨by decide +kernel, rfl⟩
theorem d_RM_badPlace_148 : decode mm_RM_badPlace.2.1 148 = .ok (.ifCond .eq 18, 3) ∧ 148 + 3 = 151 ∧ ((148 : Nat) : Int) + (18) = ((166 : Nat) : Int) := ⟨by decide +kernel, rfl, by decide⟩
theorem d_RM_badPlace_151 : decode mm_RM_badPlace.2.1 151 = .ok (.aload_n 0, 1) ∧ 151 + 1 = 152 := ⟨by decide +kernel, rfl⟩
theorem d_RM_badPlace_152 : decode mm_RM_badPlace.2.1 152 = .ok (.getfield 40, 3) ∧ 152 + 3 = 155 := ⟨by decide +kernel, rfl⟩
theorem d_RM_badPlace_155 : decode mm_RM_badPlace.2.1 155 = .ok (.aload_n 0, 1) ∧ 155 + 1 = 156 := ⟨by decide +kernel, rfl⟩
theorem d_RM_badPlace_156 : decode mm_RM_badPlace.2.1 156 = .ok (.getfield 105, 3) ∧ 156 + 3 = 159 := ⟨by decide +kernel, rfl⟩
theorem d_RM_badPlace_159 : decode mm_RM_badPlace.2.1 159 = .ok (.iaload, 1) ∧ 159 + 1 = 160 := ⟨by decide +kernel, rfl⟩
theorem d_RM_badPlace_160 : decode mm_RM_badPlace.2.1 160 = .ok (.iconst 4, 1) ∧ 160 + 1 = 161 := ⟨by decide +kernel, rfl⟩
theorem d_RM_badPlace_161 : decode mm_RM_badPlace.2.1 161 = .ok (.if_icmp .ne 5, 3) ∧ 161 + 3 = 164 ∧ ((161 : Nat) : Int) + (5) = ((166 : Nat) : Int) := ⟨by decide +kernel, rfl, by decide⟩
theorem d_RM_badPlace_164 : decode mm_RM_badPlace.2.1 164 = .ok (.iload_n 2, 1) ∧ 164 + 1 = 165 := ⟨by decide +kernel, rfl⟩
theorem d_RM_badPlace_165 : decode mm_RM_badPlace.2.1 165 = .ok (.ireturn, 1) := by decide +kernel
theorem d_RM_badPlace_166 : decode mm_RM_badPlace.2.1 166 = .ok (.aload_n 0, 1) ∧ 166 + 1 = 167 := ⟨by decide +kernel, rfl⟩
theorem d_RM_badPlace_167 : decode mm_RM_badPlace.2.1 167 = .ok (.getfield 105, 3) ∧ 167 + 3 = 170 := ⟨by decide +kernel, rfl⟩
theorem d_RM_badPlace_170 : decode mm_RM_badPlace.2.1 170 = .ok (.aload_n 0, 1) ∧ 170 + 1 = 171 := ⟨by decide +kernel, rfl⟩
theorem d_RM_badPlace_171 : decode mm_RM_badPlace.2.1 171 = .ok (.getfield 108, 3) ∧ 171 + 3 = 174 := ⟨by decide +kernel, rfl⟩
theorem d_RM_badPlace_174 : decode mm_RM_badPlace.2.1 174 = .ok (.if_icmp .le 11, 3) ∧ 174 + 3 = 177 ∧ ((174 : Nat) : Int) + (11) = ((185 : Nat) : Int) := ⟨by decide +kernel, rfl, by decide⟩
theorem d_RM_badPlace_177 : decode mm_RM_badPlace.2.1 177 = .ok (.aload_n 0, 1) ∧ 177 + 1 = 178 := ⟨by decide +kernel, rfl⟩
theorem d_RM_badPlace_178 : decode mm_RM_badPlace.2.1 178 = .ok (.aload_n 0, 1) ∧ 178 + 1 = 179 := ⟨by decide +kernel, rfl⟩
theorem d_RM_badPlace_179 : decode mm_RM_badPlace.2.1 179 = .ok (.getfield 105, 3) ∧ 179 + 3 = 182 := ⟨by decide +kernel, rfl⟩
theorem d_RM_badPlace_182 : decode mm_RM_badPlace.2.1 182 = .ok (.putfield 108, 3) ∧ 182 + 3 = 185 := ⟨by decide +kernel, rfl⟩
theorem d_RM_badPlace_185 : decode mm_RM_badPlace.2.1 185 = .ok (.iload_n 3, 1) ∧ 185 + 1 = 186 := ⟨by decide +kernel, rfl⟩
theorem d_RM_badPlace_186 : decode mm_RM_badPlace.2.1 186 = .ok (.bipush 68, 2) ∧ 186 + 2 = 188 := ⟨by decide +kernel, rfl⟩
theorem d_RM_badPlace_188 : decode mm_RM_badPlace.2.1 188 = .ok (.if_icmp .ne 8, 3) ∧ 188 + 3 = 191 ∧ ((188 : Nat) : Int) + (8) = ((196 : Nat) : Int) := ⟨by decide +kernel, rfl, by decide⟩
theorem d_RM_badPlace_191 : decode mm_RM_badPlace.2.1 191 = .ok (.iconst 1, 1) ∧ 191 + 1 = 192 := ⟨by decide +kernel, rfl⟩
theorem d_RM_badPlace_192 : decode mm_RM_badPlace.2.1 192 = .ok (.istore_n 1, 1) ∧ 192 + 1 = 193 := ⟨by decide +kernel, rfl⟩
theorem d_RM_badPlace_193 : decode mm_RM_badPlace.2.1 193 = .ok (.goto 58, 3) ∧ 193 + 3 = 196 ∧ ((193 : Nat) : Int) + (58) = ((251 : Nat) : Int) := ⟨by decide +kernel, rfl, by decide⟩
theorem d_RM_badPlace_196 : decode mm_RM_badPlace.2.1 196 = .ok (.aload_n 0, 1) ∧ 196 + 1 = 197 := ⟨by decide +kernel, rfl⟩
theorem d_RM_badPlace_197 : decode mm_RM_badPlace.2.1 197 = .ok (.iload_n 3, 1) ∧ 197 + 1 = 198 := ⟨by decide +kernel, rfl⟩
theorem d_RM_badPlace_198 : decode mm_RM_badPlace.2.1 198 = .ok (.invokevirtual 91, 3) ∧ 198 + 3 = 201 := ⟨by decide +kernel, rfl⟩
theorem d_RM_badPlace_201 : decode mm_RM_badPlace.2.1 201 = .ok (.ifCond .ne 11, 3) ∧ 201 + 3 = 204 ∧ ((201 : Nat) : Int) + (11) = ((212 : Nat) : Int) := ⟨by decide +kernel, rfl, by decide⟩
theorem d_RM_badPlace_204 : decode mm_RM_badPlace.2.1 204 = .ok (.aload_n 0, 1) ∧ 204 + 1 = 205 := ⟨by decide +kernel, rfl⟩
theorem d_RM_badPlace_205 : decode mm_RM_badPlace.2.1 205 = .ok (.iload_n 3, 1) ∧ 205 + 1 = 206 := ⟨by decide +kernel, rfl⟩
theorem d_RM_badPlace_206 : decode mm_RM_badPlace.2.1 206 = .ok (.invokevirtual 95, 3) ∧ 206 + 3 = 209 := ⟨by decide +kernel, rfl⟩
theorem d_RM_badPlace_209 : decode mm_RM_badPlace.2.1 209 = .ok (.ifCond .eq 10, 3) ∧ 209 + 3 = 212 ∧ ((209 : Nat) : Int) + (10) = ((219 : Nat) : Int) := ⟨by decide +kernel, rfl, by decide⟩
theorem d_RM_badPlace_212 : decode mm_RM_badPlace.2.1 212 = .ok (.aload_n 0, 1) ∧ 212 + 1 = 213 := ⟨by decide +kernel, rfl⟩
theorem d_RM_badPlace_213 : decode mm_RM_badPlace.2.1 213 = .ok (.invokevirtual 115, 3) ∧ 213 + 3 = 216 := ⟨by decide +kernel, rfl⟩
theorem d_RM_badPlace_216 : decode mm_RM_badPlace.2.1 216 = .ok (.goto 35, 3) ∧ 216 + 3 = 219 ∧ ((216 : Nat) : Int) + (35) = ((251 : Nat) : Int) := ⟨by decide +kernel, rfl, by decide⟩
theorem d_RM_badPlace_219 : decode mm_RM_badPlace.2.1 219 = .ok (.aload_n 0, 1) ∧ 219 + 1 = 220 := ⟨by decide +kernel, rfl⟩
theorem d_RM_badPlace_220 : decode mm_RM_badPlace.2.1 220 = .ok (.iload_n 3, 1) ∧ 220 + 1 = 221 := ⟨by decide +kernel, rfl⟩
theorem d_RM_badPlace_221 : decode mm_RM_badPlace.2.1 221 = .ok (.invokevirtual 98, 3) ∧ 221 + 3 = 224 := ⟨by decide +kernel, rfl⟩
theorem d_RM_badPlace_224 : decode mm_RM_badPlace.2.1 224 = .ok (.ifCond .le 25, 3) ∧ 224 + 3 = 227 ∧ ((224 : Nat) : Int) + (25) = ((249 : Nat) : Int) := ⟨by decide +kernel, rfl, by decide⟩
theorem d_RM_badPlace_227 : decode mm_RM_badPlace.2.1 227 = .ok (.aload_n 0, 1) ∧ 227 + 1 = 228 := ⟨by decide +kernel, rfl⟩
theorem d_RM_badPlace_228 : decode mm_RM_badPlace.2.1 228 = .ok (.getfield 105, 3) ∧ 228 + 3 = 231 := ⟨by decide +kernel, rfl⟩
theorem d_RM_badPlace_231 : decode mm_RM_badPlace.2.1 231 = .ok (.bipush 8, 2) ∧ 231 + 2 = 233 := ⟨by decide +kernel, rfl⟩
theorem d_RM_badPlace_233 : decode mm_RM_badPlace.2.1 233 = .ok (.if_icmp .ge 16, 3) ∧ 233 + 3 = 236 ∧ ((233 : Nat) : Int) + (16) = ((249 : Nat) : Int) := ⟨by decide +kernel, rfl, by decide⟩
theorem d_RM_badPlace_236 : decode mm_RM_badPlace.2.1 236 = .ok (.aload_n 0, 1) ∧ 236 + 1 = 237 := ⟨by decide +kernel, rfl⟩
theorem d_RM_badPlace_237 : decode mm_RM_badPlace.2.1 237 = .ok (.aload_n 0, 1) ∧ 237 + 1 = 238 := ⟨by decide +kernel, rfl⟩
theorem d_RM_badPlace_238 : decode mm_RM_badPlace.2.1 238 = .ok (.iload_n 3, 1) ∧ 238 + 1 = 239 := ⟨by decide +kernel, rfl⟩
theorem d_RM_badPlace_239 : decode mm_RM_badPlace.2.1 239 = .ok (.invokevirtual 98, 3) ∧ 239 + 3 = 242 := ⟨by decide +kernel, rfl⟩
theorem d_RM_badPlace_242 : decode mm_RM_badPlace.2.1 242 = .ok (.iconst 0, 1) ∧ 242 + 1 = 243 := ⟨by decide +kernel, rfl⟩
theorem d_RM_badPlace_243 : decode mm_RM_badPlace.2.1 243 = .ok (.invokevirtual 111, 3) ∧ 243 + 3 = 246 := ⟨by decide +kernel, rfl⟩
theorem d_RM_badPlace_246 : decode mm_RM_badPlace.2.1 246 = .ok (.goto 5, 3) ∧ 246 + 3 = 249 ∧ ((246 : Nat) : Int) + (5) = ((251 : Nat) : Int) := ⟨by decide +kernel, rfl, by decide⟩
theorem d_RM_badPlace_249 : decode mm_RM_badPlace.2.1 249 = .ok (.iload_n 2, 1) ∧ 249 + 1 = 250 := ⟨by decide +kernel, rfl⟩
theorem d_RM_badPlace_250 : decode mm_RM_badPlace.2.1 250 = .ok (.ireturn, 1) := by decide +kernel
theorem d_RM_badPlace_251 : decode mm_RM_badPlace.2.1 251 = .ok (.iinc 2 1, 3) ∧ 251 + 3 = 254 := ⟨by decide +kernel, rfl⟩
theorem d_RM_badPlace_254 : decode mm_RM_badPlace.2.1 254 = .ok (.goto (-234), 3) ∧ 254 + 3 = 257 ∧ ((254 : Nat) : Int) + (-234) = ((20 : Nat) : Int) := ⟨by decide +kernel, rfl, by decide⟩
theorem d_RM_badPlace_257 : decode mm_RM_badPlace.2.1 257 = .ok (.aload_n 0, 1) ∧ 257 + 1 = 258 := ⟨by decide +kernel, rfl⟩
theorem d_RM_badPlace_258 : decode mm_RM_badPlace.2.1 258 = .ok (.getfield 105, 3) ∧ 258 + 3 = 261 := ⟨by decide +kernel, rfl⟩
theorem d_RM_badPlace_261 : decode mm_RM_badPlace.2.1 261 = .ok (.ifCond .ne 7, 3) ∧ 261 + 3 = 264 ∧ ((261 : Nat) : Int) + (7) = ((268 : Nat) : Int) := ⟨by decide +kernel, rfl, by decide⟩
theorem d_RM_badPlace_264 : decode mm_RM_badPlace.2.1 264 = .ok (.iconst (-1), 1) ∧ 264 + 1 = 265 := ⟨by decide +kernel, rfl⟩
theorem d_RM_badPlace_265 : decode mm_RM_badPlace.2.1 265 = .ok (.goto 10, 3) ∧ 265 + 3 = 268 ∧ ((265 : Nat) : Int) + (10) = ((275 : Nat) : Int) := ⟨by decide +kernel, rfl, by decide⟩
theorem d_RM_badPlace_268 : decode mm_RM_badPlace.2.1 268 = .ok (.aload_n 0, 1) ∧ 268 + 1 = 269 := ⟨by decide +kernel, rfl⟩
theorem d_RM_badPlace_269 : decode mm_RM_badPlace.2.1 269 = .ok (.getfield 13, 3) ∧ 269 + 3 = 272 := ⟨by decide +kernel, rfl⟩
theorem d_RM_badPlace_272 : decode mm_RM_badPlace.2.1 272 = .ok (.bipush 8, 2) ∧ 272 + 2 = 274 := ⟨by decide +kernel, rfl⟩
theorem d_RM_badPlace_274 : decode mm_RM_badPlace.2.1 274 = .ok (.iaload, 1) ∧ 274 + 1 = 275 := ⟨by decide +kernel, rfl⟩
theorem d_RM_badPlace_275 : decode mm_RM_badPlace.2.1 275 = .ok (.ireturn, 1) := by decide +kernel
theorem d_RM_forget_0 : decode mm_RM_forget.2.1 0 = .ok (.iconst 0, 1) ∧ 0 + 1 = 1 := ⟨by decide +kernel, rfl⟩
theorem d_RM_forget_1 : decode mm_RM_forget.2.1 1 = .ok (.istore_n 1, 1) ∧ 1 + 1 = 2 := ⟨by decide +kernel, rfl⟩
theorem d_RM_forget_2 : decode mm_RM_forget.2.1 2 = .ok (.iload_n 1, 1) ∧ 2 + 1 = 3 := ⟨by decide +kernel, rfl⟩
theorem d_RM_forget_3 : decode mm_RM_forget.2.1 3 = .ok (.bipush 8, 2) ∧ 3 + 2 = 5 := ⟨by decide +kernel, rfl⟩
theorem d_RM_forget_5 : decode mm_RM_forget.2.1 5 = .ok (.if_icmp .ge 16, 3) ∧ 5 + 3 = 8 ∧ ((5 : Nat) : Int) + (16) = ((21 : Nat) : Int) := ⟨by decide +kernel, rfl, by decide⟩
theorem d_RM_forget_8 : decode mm_RM_forget.2.1 8 = .ok (.aload_n 0, 1) ∧ 8 + 1 = 9 := ⟨by decide +kernel, rfl⟩
theorem d_RM_forget_9 : decode mm_RM_forget.2.1 9 = .ok (.getfield 20, 3) ∧ 9 + 3 = 12 := ⟨by decide +kernel, rfl⟩
theorem d_RM_forget_12 : decode mm_RM_forget.2.1 12 = .ok (.iload_n 1, 1) ∧ 12 + 1 = 13 := ⟨by decide +kernel, rfl⟩
theorem d_RM_forget_13 : decode mm_RM_forget.2.1 13 = .ok (.iconst 0, 1) ∧ 13 + 1 = 14 := ⟨by decide +kernel, rfl⟩
theorem d_RM_forget_14 : decode mm_RM_forget.2.1 14 = .ok (.bastore, 1) ∧ 14 + 1 = 15 := ⟨by decide +kernel, rfl⟩
theorem d_RM_forget_15 : decode mm_RM_forget.2.1 15 = .ok (.iinc 1 1, 3) ∧ 15 + 3 = 18 := ⟨by decide +kernel, rfl⟩
theorem d_RM_forget_18 : decode mm_RM_forget.2.1 18 = .ok (.goto (-16), 3) ∧ 18 + 3 = 21 ∧ ((18 : Nat) : Int) + (-16) = ((2 : Nat) : Int) := ⟨by decide +kernel, rfl, by decide⟩
theorem d_RM_forget_21 : decode mm_RM_forget.2.1 21 = .ok (.return_, 1) := by decide +kernel
theorem d_RM_syntax_0 : decode mm_RM_syntax.2.1 0 = .ok (.aload_n 0, 1) ∧ 0 + 1 = 1 := ⟨by decide +kernel, rfl⟩
theorem d_RM_syntax_1 : decode mm_RM_syntax.2.1 1 = .ok (.invokevirtual 118, 3) ∧ 1 + 3 = 4 := ⟨by decide +kernel, rfl⟩
theorem d_RM_syntax_4 : decode mm_RM_syntax.2.1 4 = .ok (.istore_n 1, 1) ∧ 4 + 1 = 5 := ⟨by decide +kernel, rfl⟩
theorem d_RM_syntax_5 : decode mm_RM_syntax.2.1 5 = .ok (.iload_n 1, 1) ∧ 5 + 1 = 6 := ⟨by decide +kernel, rfl⟩
theorem d_RM_syntax_6 : decode mm_RM_syntax.2.1 6 = .ok (.ifCond .lt 8, 3) ∧ 6 + 3 = 9 ∧ ((6 : Nat) : Int) + (8) = ((14 : Nat) : Int) := ⟨by decide +kernel, rfl, by decide⟩
theorem d_RM_syntax_9 : decode mm_RM_syntax.2.1 9 = .ok (.aload_n 0, 1) ∧ 9 + 1 = 10 := ⟨by decide +kernel, rfl⟩
theorem d_RM_syntax_10 : decode mm_RM_syntax.2.1 10 = .ok (.iload_n 1, 1) ∧ 10 + 1 = 11 := ⟨by decide +kernel, rfl⟩
theorem d_RM_syntax_11 : decode mm_RM_syntax.2.1 11 = .ok (.putfield 30, 3) ∧ 11 + 3 = 14 := ⟨by decide +kernel, rfl⟩
theorem d_RM_syntax_14 : decode mm_RM_syntax.2.1 14 = .ok (.iload_n 1, 1) ∧ 14 + 1 = 15 := ⟨by decide +kernel, rfl⟩
theorem d_RM_syntax_15 : decode mm_RM_syntax.2.1 15 = .ok (.ifCond .lt 7, 3) ∧ 15 + 3 = 18 ∧ ((15 : Nat) : Int) + (7) = ((22 : Nat) : Int) := ⟨by decide +kernel, rfl, by decide⟩
theorem d_RM_syntax_18 : decode mm_RM_syntax.2.1 18 = .ok (.iconst 1, 1) ∧ 18 + 1 = 19 := ⟨by decide +kernel, rfl⟩
theorem d_RM_syntax_19 : decode mm_RM_syntax.2.1 19 = .ok (.goto 4, 3) ∧ 19 + 3 = 22 ∧ ((19 : Nat) : Int) + (4) = ((23 : Nat) : Int) := ⟨by decide +kernel, rfl, by decide⟩
theorem d_RM_syntax_22 : decode mm_RM_syntax.2.1 22 = .ok (.iconst 0, 1) ∧ 22 + 1 = 23 := ⟨by decide +kernel, rfl⟩
theorem d_RM_syntax_23 : decode mm_RM_syntax.2.1 23 = .ok (.ireturn, 1) := by decide +kernel
theorem d_RM_define_0 : decode mm_RM_define.2.1 0 = .ok (.iload_n 1, 1) ∧ 0 + 1 = 1 := ⟨by decide +kernel, rfl⟩
theorem d_RM_define_1 : decode mm_RM_define.2.1 1 = .ok (.ifCond .lt 9, 3) ∧ 1 + 3 = 4 ∧ ((1 : Nat) : Int) + (9) = ((10 : Nat) : Int) := ⟨by decide +kernel, rfl, by decide⟩
theorem d_RM_define_4 : decode mm_RM_define.2.1 4 = .ok (.iload_n 1, 1) ∧ 4 + 1 = 5 := ⟨by decide +kernel, rfl⟩
theorem d_RM_define_5 : decode mm_RM_define.2.1 5 = .ok (.bipush 7, 2) ∧ 5 + 2 = 7 := ⟨by decide +kernel, rfl⟩
theorem d_RM_define_7 : decode mm_RM_define.2.1 7 = .ok (.if_icmp .le 5, 3) ∧ 7 + 3 = 10 ∧ ((7 : Nat) : Int) + (5) = ((12 : Nat) : Int) := ⟨by decide +kernel, rfl, by decide⟩
theorem d_RM_define_10 : decode mm_RM_define.2.1 10 = .ok (.iconst (-1), 1) ∧ 10 + 1 = 11 := ⟨by decide +kernel, rfl⟩
theorem d_RM_define_11 : decode mm_RM_define.2.1 11 = .ok (.ireturn, 1) := by decide +kernel
theorem d_RM_define_12 : decode mm_RM_define.2.1 12 = .ok (.aload_n 0, 1) ∧ 12 + 1 = 13 := ⟨by decide +kernel, rfl⟩
theorem d_RM_define_13 : decode mm_RM_define.2.1 13 = .ok (.invokevirtual 122, 3) ∧ 13 + 3 = 16 := ⟨by decide +kernel, rfl⟩
theorem d_RM_define_16 : decode mm_RM_define.2.1 16 = .ok (.istore_n 2, 1) ∧ 16 + 1 = 17 := ⟨by decide +kernel, rfl⟩
theorem d_RM_define_17 : decode mm_RM_define.2.1 17 = .ok (.iload_n 2, 1) ∧ 17 + 1 = 18 := ⟨by decide +kernel, rfl⟩
theorem d_RM_define_18 : decode mm_RM_define.2.1 18 = .ok (.ifCond .ne 62, 3) ∧ 18 + 3 = 21 ∧ ((18 : Nat) : Int) + (62) = ((80 : Nat) : Int) := ⟨by decide +kernel, rfl, by decide⟩
theorem d_RM_define_21 : decode mm_RM_define.2.1 21 = .ok (.iconst 0, 1) ∧ 21 + 1 = 22 := ⟨by decide +kernel, rfl⟩
theorem d_RM_define_22 : decode mm_RM_define.2.1 22 = .ok (.istore_n 3, 1) ∧ 22 + 1 = 23 := ⟨by decide +kernel, rfl⟩
theorem d_RM_define_23 : decode mm_RM_define.2.1 23 = .ok (.iload_n 3, 1) ∧ 23 + 1 = 24 := ⟨by decide +kernel, rfl⟩
theorem d_RM_define_24 : decode mm_RM_define.2.1 24 = .ok (.bipush 24, 2) ∧ 24 + 2 = 26 := ⟨by decide +kernel, rfl⟩
theorem d_RM_define_26 : decode mm_RM_define.2.1 26 = .ok (.if_icmp .ge 30, 3) ∧ 26 + 3 = 29 ∧ ((26 : Nat) : Int) + (30) = ((56 : Nat) : Int) := ⟨by decide +kernel, rfl, by decide⟩
theorem d_RM_define_29 : decode mm_RM_define.2.1 29 = .ok (.aload_n 0, 1) ∧ 29 + 1 = 30 := ⟨by decide +kernel, rfl⟩
theorem d_RM_define_30 : decode mm_RM_define.2.1 30 = .ok (.getfield 7, 3) ∧ 30 + 3 = 33 := ⟨by decide +kernel, rfl⟩
theorem d_RM_define_33 : decode mm_RM_define.2.1 33 = .ok (.iload_n 1, 1) ∧ 33 + 1 = 34 := ⟨by decide +kernel, rfl⟩
theorem d_RM_define_34 : decode mm_RM_define.2.1 34 = .ok (.bipush 24, 2) ∧ 34 + 2 = 36 := ⟨by decide +kernel, rfl⟩
theorem d_RM_define_36 : decode mm_RM_define.2.1 36 = .ok (.imul, 1) ∧ 36 + 1 = 37 := ⟨by decide +kernel, rfl⟩
theorem d_RM_define_37 : decode mm_RM_define.2.1 37 = .ok (.iload_n 3, 1) ∧ 37 + 1 = 38 := ⟨by decide +kernel, rfl⟩
theorem d_RM_define_38 : decode mm_RM_define.2.1 38 = .ok (.iadd, 1) ∧ 38 + 1 = 39 := ⟨by decide +kernel, rfl⟩
theorem d_RM_define_39 : decode mm_RM_define.2.1 39 = .ok (.aload_n 0, 1) ∧ 39 + 1 = 40 := ⟨by decide +kernel, rfl⟩
theorem d_RM_define_40 : decode mm_RM_define.2.1 40 = .ok (.getfield 7, 3) ∧ 40 + 3 = 43 := ⟨by decide +kernel, rfl⟩
theorem d_RM_define_43 : decode mm_RM_define.2.1 43 = .ok (.sipush 192, 3) ∧ 43 + 3 = 46 := ⟨by decide +kernel, rfl⟩
theorem d_RM_define_46 : decode mm_RM_define.2.1 46 = .ok (.iload_n 3, 1) ∧ 46 + 1 = 47 := ⟨by decide +kernel, rfl⟩
theorem d_RM_define_47 : decode mm_RM_define.2.1 47 = .ok (.iadd, 1) ∧ 47 + 1 = 48 := ⟨by decide +kernel, rfl⟩
theorem d_RM_define_48 : decode mm_RM_define.2.1 48 = .ok (.iaload, 1) ∧ 48 + 1 = 49 := ⟨by decide +kernel, rfl⟩
theorem d_RM_define_49 : decode mm_RM_define.2.1 49 = .ok (.iastore, 1) ∧ 49 + 1 = 50 := ⟨by decide +kernel, rfl⟩
theorem d_RM_define_50 : decode mm_RM_define.2.1 50 = .ok (.iinc 3 1, 3) ∧ 50 + 3 = 53 := ⟨by decide +kernel, rfl⟩
theorem d_RM_define_53 : decode mm_RM_define.2.1 53 = .ok (.goto (-30), 3) ∧ 53 + 3 = 56 ∧ ((53 : Nat) : Int) + (-30) = ((23 : Nat) : Int) := ⟨by decide +kernel, rfl, by decide⟩
theorem d_RM_define_56 : decode mm_RM_define.2.1 56 = .ok (.aload_n 0, 1) ∧ 56 + 1 = 57 := ⟨by decide +kernel, rfl⟩
theorem d_RM_define_57 : decode mm_RM_define.2.1 57 = .ok (.getfield 13, 3) ∧ 57 + 3 = 60 := ⟨by decide +kernel, rfl⟩
theorem d_RM_define_60 : decode mm_RM_define.2.1 60 = .ok (.iload_n 1, 1) ∧ 60 + 1 = 61 := ⟨by decide +kernel, rfl⟩
theorem d_RM_define_61 : decode mm_RM_define.2.1 61 = .ok (.aload_n 0, 1) ∧ 61 + 1 = 62 := ⟨by decide +kernel, rfl⟩
theorem d_RM_define_62 : decode mm_RM_define.2.1 62 = .ok (.getfield 13, 3) ∧ 62 + 3 = 65 := ⟨by decide +kernel, rfl⟩
theorem d_RM_define_65 : decode mm_RM_define.2.1 65 = .ok (.bipush 8, 2) ∧ 65 + 2 = 67 := ⟨by decide +kernel, rfl⟩
theorem d_RM_define_67 : decode mm_RM_define.2.1 67 = .ok (.iaload, 1) ∧ 67 + 1 = 68 := ⟨by decide +kernel, rfl⟩
theorem d_RM_define_68 : decode mm_RM_define.2.1 68 = .ok (.iastore, 1) ∧ 68 + 1 = 69 := ⟨by decide +kernel, rfl⟩
theorem d_RM_define_69 : decode mm_RM_define.2.1 69 = .ok (.aload_n 0, 1) ∧ 69 + 1 = 70 := ⟨by decide +kernel, rfl⟩
theorem d_RM_define_70 : decode mm_RM_define.2.1 70 = .ok (.getfield 24, 3) ∧ 70 + 3 = 73 := ⟨by decide +kernel, rfl⟩
theorem d_RM_define_73 : decode mm_RM_define.2.1 73 = .ok (.iload_n 1, 1) ∧ 73 + 1 = 74 := ⟨by decide +kernel, rfl⟩
theorem d_RM_define_74 : decode mm_RM_define.2.1 74 = .ok (.iconst 1, 1) ∧ 74 + 1 = 75 := ⟨by decide +kernel, rfl⟩
theorem d_RM_define_75 : decode mm_RM_define.2.1 75 = .ok (.bastore, 1) ∧ 75 + 1 = 76 := ⟨by decide +kernel, rfl⟩
theorem d_RM_define_76 : decode mm_RM_define.2.1 76 = .ok (.aload_n 0, 1) ∧ 76 + 1 = 77 := ⟨by decide +kernel, rfl⟩
theorem d_RM_define_77 : decode mm_RM_define.2.1 77 = .ok (.invokevirtual 126, 3) ∧ 77 + 3 = 80 := ⟨by decide +kernel, rfl⟩
theorem d_RM_define_80 : decode mm_RM_define.2.1 80 = .ok (.aload_n 0, 1) ∧ 80 + 1 = 81 := ⟨by decide +kernel, rfl⟩
theorem d_RM_define_81 : decode mm_RM_define.2.1 81 = .ok (.getfield 13, 3) ∧ 81 + 3 = 84 := ⟨by decide +kernel, rfl⟩
theorem d_RM_define_84 : decode mm_RM_define.2.1 84 = .ok (.bipush 8, 2) ∧ 84 + 2 = 86 := ⟨by decide +kernel, rfl⟩
theorem d_RM_define_86 : decode mm_RM_define.2.1 86 = .ok (.iconst 0, 1) ∧ 86 + 1 = 87 := ⟨by decide +kernel, rfl⟩
theorem d_RM_define_87 : decode mm_RM_define.2.1 87 = .ok (.iastore, 1) ∧ 87 + 1 = 88 := ⟨by decide +kernel, rfl⟩
theorem d_RM_define_88 : decode mm_RM_define.2.1 88 = .ok (.iload_n 2, 1) ∧ 88 + 1 = 89 := ⟨by decide +kernel, rfl⟩
theorem d_RM_define_89 : decode mm_RM_define.2.1 89 = .ok (.ifCond .eq 8, 3) ∧ 89 + 3 = 92 ∧ ((89 : Nat) : Int) + (8) = ((97 : Nat) : Int) := ⟨by decide +kernel, rfl, by decide⟩
theorem d_RM_define_92 : decode mm_RM_define.2.1 92 = .ok (.bipush (-3), 2) ∧ 92 + 2 = 94 := ⟨by decide +kernel, rfl⟩
theorem d_RM_define_94 : decode mm_RM_define.2.1 94 = .ok (.goto 7, 3) ∧ 94 + 3 = 97 ∧ ((94 : Nat) : Int) + (7) = ((101 : Nat) : Int) := ⟨by decide +kernel, rfl, by decide⟩
theorem d_RM_define_97 : decode mm_RM_define.2.1 97 = .ok (.aload_n 0, 1) ∧ 97 + 1 = 98 := ⟨by decide +kernel, rfl⟩
theorem d_RM_define_98 : decode mm_RM_define.2.1 98 = .ok (.getfield 108, 3) ∧ 98 + 3 = 101 := ⟨by decide +kernel, rfl⟩
theorem d_RM_define_101 : decode mm_RM_define.2.1 101 = .ok (.ireturn, 1) := by decide +kernel
theorem d_RM_undefine_0 : decode mm_RM_undefine.2.1 0 = .ok (.iload_n 1, 1) ∧ 0 + 1 = 1 := ⟨by decide +kernel, rfl⟩
theorem d_RM_undefine_1 : decode mm_RM_undefine.2.1 1 = .ok (.ifCond .lt 18, 3) ∧ 1 + 3 = 4 ∧ ((1 : Nat) : Int) + (18) = ((19 : Nat) : Int) := ⟨by decide +kernel, rfl, by decide⟩
theorem d_RM_undefine_4 : decode mm_RM_undefine.2.1 4 = .ok (.iload_n 1, 1) ∧ 4 + 1 = 5 := ⟨by decide +kernel, rfl⟩
theorem d_RM_undefine_5 : decode mm_RM_undefine.2.1 5 = .ok (.bipush 7, 2) ∧ 5 + 2 = 7 := ⟨by decide +kernel, rfl⟩
theorem d_RM_undefine_7 : decode mm_RM_undefine.2.1 7 = .ok (.if_icmp .gt 12, 3) ∧ 7 + 3 = 10 ∧ ((7 : Nat) : Int) + (12) = ((19 : Nat) : Int) := ⟨by decide +kernel, rfl, by decide⟩
theorem d_RM_undefine_10 : decode mm_RM_undefine.2.1 10 = .ok (.aload_n 0, 1) ∧ 10 + 1 = 11 := ⟨by decide +kernel, rfl⟩
theorem d_RM_undefine_11 : decode mm_RM_undefine.2.1 11 = .ok (.getfield 24, 3) ∧ 11 + 3 = 14 := ⟨by decide +kernel, rfl⟩
theorem d_RM_undefine_14 : decode mm_RM_undefine.2.1 14 = .ok (.iload_n 1, 1) ∧ 14 + 1 = 15 := ⟨by decide +kernel, rfl⟩
theorem d_RM_undefine_15 : decode mm_RM_undefine.2.1 15 = .ok (.baload, 1) ∧ 15 + 1 = 16 := ⟨by decide +kernel, rfl⟩
theorem d_RM_undefine_16 : decode mm_RM_undefine.2.1 16 = .ok (.ifCond .ne 5, 3) ∧ 16 + 3 = 19 ∧ ((16 : Nat) : Int) + (5) = ((21 : Nat) : Int) := ⟨by decide +kernel, rfl, by decide⟩
theorem d_RM_undefine_19 : decode mm_RM_undefine.2.1 19 = .ok (.iconst (-1), 1) ∧ 19 + 1 = 20 := ⟨by decide +kernel, rfl⟩
theorem d_RM_undefine_20 : decode mm_RM_undefine.2.1 20 = .ok (.ireturn, 1) := by decide +kernel
theorem d_RM_undefine_21 : decode mm_RM_undefine.2.1 21 = .ok (.aload_n 0, 1) ∧ 21 + 1 = 22 := ⟨by decide +kernel, rfl⟩
theorem d_RM_undefine_22 : decode mm_RM_undefine.2.1 22 = .ok (.getfield 24, 3) ∧ 22 + 3 = 25 := ⟨by decide +kernel, rfl⟩
theorem d_RM_undefine_25 : decode mm_RM_undefine.2.1 25 = .ok (.iload_n 1, 1) ∧ 25 + 1 = 26 := ⟨by decide +kernel, rfl⟩
theorem d_RM_undefine_26 : decode mm_RM_undefine.2.1 26 = .ok (.iconst 0, 1) ∧ 26 + 1 = 27 := ⟨by decide +kernel, rfl⟩
theorem d_RM_undefine_27 : decode mm_RM_undefine.2.1 27 = .ok (.bastore, 1) ∧ 27 + 1 = 28 := ⟨by decide +kernel, rfl⟩
theorem d_RM_undefine_28 : decode mm_RM_undefine.2.1 28 = .ok (.aload_n 0, 1) ∧ 28 + 1 = 29 := ⟨by decide +kernel, rfl⟩
theorem d_RM_undefine_29 : decode mm_RM_undefine.2.1 29 = .ok (.invokevirtual 126, 3) ∧ 29 + 3 = 32 := ⟨by decide +kernel, rfl⟩
theorem d_RM_undefine_32 : decode mm_RM_undefine.2.1 32 = .ok (.iconst 0, 1) ∧ 32 + 1 = 33 := ⟨by decide +kernel, rfl⟩
theorem d_RM_undefine_33 : decode mm_RM_undefine.2.1 33 = .ok (.ireturn, 1) := by decide +kernel
theorem d_RM_behind_0 : decode mm_RM_behind.2.1 0 = .ok (.iconst 1, 1) ∧ 0 + 1 = 1 := ⟨by decide +kernel, rfl⟩
theorem d_RM_behind_1 : decode mm_RM_behind.2.1 1 = .ok (.istore_n 3, 1) ∧ 1 + 1 = 2 := ⟨by decide +kernel, rfl⟩
theorem d_RM_behind_2 : decode mm_RM_behind.2.1 2 = .ok (.iload_n 2, 1) ∧ 2 + 1 = 3 := ⟨by decide +kernel, rfl⟩
theorem d_RM_behind_3 : decode mm_RM_behind.2.1 3 = .ok (.istore 4, 2) ∧ 3 + 2 = 5 := ⟨by decide +kernel, rfl⟩
theorem d_RM_behind_5 : decode mm_RM_behind.2.1 5 = .ok (.iload_n 3, 1) ∧ 5 + 1 = 6 := ⟨by decide +kernel, rfl⟩
theorem d_RM_behind_6 : decode mm_RM_behind.2.1 6 = .ok (.ifCond .le 100, 3) ∧ 6 + 3 = 9 ∧ ((6 : Nat) : Int) + (100) = ((106 : Nat) : Int) := ⟨by decide +kernel, rfl, by decide⟩
theorem d_RM_behind_9 : decode mm_RM_behind.2.1 9 = .ok (.aload_n 0, 1) ∧ 9 + 1 = 10 := ⟨by decide +kernel, rfl⟩
theorem d_RM_behind_10 : decode mm_RM_behind.2.1 10 = .ok (.getfield 7, 3) ∧ 10 + 3 = 13 := ⟨by decide +kernel, rfl⟩
theorem d_RM_behind_13 : decode mm_RM_behind.2.1 13 = .ok (.iload_n 1, 1) ∧ 13 + 1 = 14 := ⟨by decide +kernel, rfl⟩
theorem d_RM_behind_14 : decode mm_RM_behind.2.1 14 = .ok (.bipush 24, 2) ∧ 14 + 2 = 16 := ⟨by decide +kernel, rfl⟩
theorem d_RM_behind_16 : decode mm_RM_behind.2.1 16 = .ok (.imul, 1) ∧ 16 + 1 = 17 := ⟨by decide +kernel, rfl⟩
theorem d_RM_behind_17 : decode mm_RM_behind.2.1 17 = .ok (.iload 4, 2) ∧ 17 + 2 = 19 := ⟨by decide +kernel, rfl⟩
theorem d_RM_behind_19 : decode mm_RM_behind.2.1 19 = .ok (.iadd, 1) ∧ 19 + 1 = 20 := ⟨by decide +kernel, rfl⟩
theorem d_RM_behind_20 : decode mm_RM_behind.2.1 20 = .ok (.iaload, 1) ∧ 20 + 1 = 21 := ⟨by decide +kernel, rfl⟩
theorem d_RM_behind_21 : decode mm_RM_behind.2.1 21 = .ok (.istore 5, 2) ∧ 21 + 2 = 23 := ⟨by decide +kernel, rfl⟩
theorem d_RM_behind_23 : decode mm_RM_behind.2.1 23 = .ok (.iinc 4 1, 3) ∧ 23 + 3 = 26 := ⟨by decide +kernel, rfl⟩
theorem d_RM_behind_26 : decode mm_RM_behind.2.1 26 = .ok (.iload 5, 2) ∧ 26 + 2 = 28 := ⟨by decide +kernel, rfl⟩
theorem d_RM_behind_28 : decode mm_RM_behind.2.1 28 = .ok (.bipush 68, 2) ∧ 28 + 2 = 30 := ⟨by decide +kernel, rfl⟩
theorem d_RM_behind_30 : decode mm_RM_behind.2.1 30 = .ok (.if_icmp .ne 62, 3) ∧ 30 + 3 = 33 ∧ ((30 : Nat) : Int) + (62) = ((92 : Nat) : Int) := ⟨by decide +kernel, rfl, by decide⟩
theorem d_RM_behind_33 : decode mm_RM_behind.2.1 33 = .ok (.iinc 4 2, 3) ∧ 33 + 3 = 36 := ⟨by decide +kernel, rfl⟩
theorem d_RM_behind_36 : decode mm_RM_behind.2.1 36 = .ok (.iconst 1, 1) ∧ 36 + 1 = 37 := ⟨by decide +kernel, rfl⟩
theorem d_RM_behind_37 : decode mm_RM_behind.2.1 37 = .ok (.istore 6, 2) ∧ 37 + 2 = 39 := ⟨by decide +kernel, rfl⟩
theorem d_RM_behind_39 : decode mm_RM_behind.2.1 39 = .ok (.iload 6, 2) ∧ 39 + 2 = 41 := ⟨by decide +kernel, rfl⟩
theorem d_RM_behind_41 : decode mm_RM_behind.2.1 41 = .ok (.ifCond .le 51, 3) ∧ 41 + 3 = 44 ∧ ((41 : Nat) : Int) + (51) = ((92 : Nat) : Int) := ⟨by decide +kernel, rfl, by decide⟩
theorem d_RM_behind_44 : decode mm_RM_behind.2.1 44 = .ok (.aload_n 0, 1) ∧ 44 + 1 = 45 := ⟨by decide +kernel, rfl⟩
theorem d_RM_behind_45 : decode mm_RM_behind.2.1 45 = .ok (.getfield 7, 3) ∧ 45 + 3 = 48 := ⟨by decide +kernel, rfl⟩
theorem d_RM_behind_48 : decode mm_RM_behind.2.1 48 = .ok (.iload_n 1, 1) ∧ 48 + 1 = 49 := ⟨by decide +kernel, rfl⟩
theorem d_RM_behind_49 : decode mm_RM_behind.2.1 49 = .ok (.bipush 24, 2) ∧ 49 + 2 = 51 := ⟨by decide +kernel, rfl⟩
theorem d_RM_behind_51 : decode mm_RM_behind.2.1 51 = .ok (.imul, 1) ∧ 51 + 1 = 52 := ⟨by decide +kernel, rfl⟩
theorem d_RM_behind_52 : decode mm_RM_behind.2.1 52 = .ok (.iload 4, 2) ∧ 52 + 2 = 54 := ⟨by decide +kernel, rfl⟩
theorem d_RM_behind_54 : decode mm_RM_behind.2.1 54 = .ok (.iadd, 1) ∧ 54 + 1 = 55 := ⟨by decide +kernel, rfl⟩
theorem d_RM_behind_55 : decode mm_RM_behind.2.1 55 = .ok (.iaload, 1) ∧ 55 + 1 = 56 := ⟨by decide +kernel, rfl⟩
theorem d_RM_behind_56 : decode mm_RM_behind.2.1 56 = .ok (.istore 7, 2) ∧ 56 + 2 = 58 := ⟨by decide +kernel, rfl⟩
theorem d_RM_behind_58 : decode mm_RM_behind.2.1 58 = .ok (.iload 6, 2) ∧ 58 + 2 = 60 := ⟨by decide +kernel, rfl⟩
theorem d_RM_behind_60 : decode mm_RM_behind.2.1 60 = .ok (.iload 7, 2) ∧ 60 + 2 = 62 := ⟨by decide +kernel, rfl⟩
theorem d_RM_behind_62 : decode mm_RM_behind.2.1 62 = .ok (.bipush 40, 2) ∧ 62 + 2 = 64 := ⟨by decide +kernel, rfl⟩
theorem d_RM_behind_64 : decode mm_RM_behind.2.1 64 = .ok (.if_icmp .ne 7, 3) ∧ 64 + 3 = 67 ∧ ((64 : Nat) : Int) + (7) = ((71 : Nat) : Int) := ⟨by decide +kernel, rfl, by decide⟩
theorem d_RM_behind_67 : decode mm_RM_behind.2.1 67 = .ok (.iconst 1, 1) ∧ 67 + 1 = 68 := ⟨by decide +kernel, rfl⟩
theorem d_RM_behind_68 : decode mm_RM_behind.2.1 68 = .ok (.goto 15, 3) ∧ 68 + 3 = 71 ∧ ((68 : Nat) : Int) + (15) = ((83 : Nat) : Int) := ⟨by decide +kernel, rfl, by decide⟩
theorem d_RM_behind_71 : decode mm_RM_behind.2.1 71 = .ok (.iload 7, 2) ∧ 71 + 2 = 73 := ⟨by decide +kernel, rfl⟩
theorem d_RM_behind_73 : decode mm_RM_behind.2.1 73 = .ok (.bipush 41, 2) ∧ 73 + 2 = 75 := ⟨by decide +kernel, rfl⟩
theorem d_RM_behind_75 : decode mm_RM_behind.2.1 75 = .ok (.if_icmp .ne 7, 3) ∧ 75 + 3 = 78 ∧ ((75 : Nat) : Int) + (7) = ((82 : Nat) : Int) := ⟨by decide +kernel, rfl, by decide⟩
theorem d_RM_behind_78 : decode mm_RM_behind.2.1 78 = .ok (.iconst (-1), 1) ∧ 78 + 1 = 79 := ⟨by decide +kernel, rfl⟩
theorem d_RM_behind_79 : decode mm_RM_behind.2.1 79 = .ok (.goto 4, 3) ∧ 79 + 3 = 82 ∧ ((79 : Nat) : Int) + (4) = ((83 : Nat) : Int) := ⟨by decide +kernel, rfl, by decide⟩
theorem d_RM_behind_82 : decode mm_RM_behind.2.1 82 = .ok (.iconst 0, 1) ∧ 82 + 1 = 83 := ⟨by decide +kernel, rfl⟩
theorem d_RM_behind_83 : decode mm_RM_behind.2.1 83 = .ok (.iadd, 1) ∧ 83 + 1 = 84 := ⟨by decide +kernel, rfl⟩
theorem d_RM_behind_84 : decode mm_RM_behind.2.1 84 = .ok (.istore 6, 2) ∧ 84 + 2 = 86 := ⟨by decide +kernel, rfl⟩
theorem d_RM_behind_86 : decode mm_RM_behind.2.1 86 = .ok (.iinc 4 1, 3) ∧ 86 + 3 = 89 := ⟨by decide +kernel, rfl⟩
theorem d_RM_behind_89 : decode mm_RM_behind.2.1 89 = .ok (.goto (-50), 3) ∧ 89 + 3 = 92 ∧ ((89 : Nat) : Int) + (-50) = ((39 : Nat) : Int) := ⟨by decide +kernel, rfl, by decide⟩
theorem d_RM_behind_92 : decode mm_RM_behind.2.1 92 = .ok (.iload_n 3, 1) ∧ 92 + 1 = 93 := ⟨by decide +kernel, rfl⟩
theorem d_RM_behind_93 : decode mm_RM_behind.2.1 93 = .ok (.aload_n 0, 1) ∧ 93 + 1 = 94 := ⟨by decide +kernel, rfl⟩
theorem d_RM_behind_94 : decode mm_RM_behind.2.1 94 = .ok (.iload 5, 2) ∧ 94 + 2 = 96 := ⟨by decide +kernel, rfl⟩
theorem d_RM_behind_96 : decode mm_RM_behind.2.1 96 = .ok (.invokevirtual 98, 3) ∧ 96 + 3 = 99 := ⟨by decide +kernel, rfl⟩
theorem d_RM_behind_99 : decode mm_RM_behind.2.1 99 = .ok (.iconst 1, 1) ∧ 99 + 1 = 100 := ⟨by decide +kernel, rfl⟩
theorem d_RM_behind_100 : decode mm_RM_behind.2.1 100 = .ok (.isub, 1) ∧ 100 + 1 = 101 := ⟨by decide +kernel, rfl⟩
theorem d_RM_behind_101 : decode mm_RM_behind.2.1 101 = .ok (.iadd, 1) ∧ 101 + 1 = 102 := ⟨by decide +kernel, rfl⟩
theorem d_RM_behind_102 : decode mm_RM_behind.2.1 102 = .ok (.istore_n 3, 1) ∧ 102 + 1 = 103 := ⟨by decide +kernel, rfl⟩
theorem d_RM_behind_103 : decode mm_RM_behind.2.1 103 = .ok (.goto (-98), 3) ∧ 103 + 3 = 106 ∧ ((103 : Nat) : Int) + (-98) = ((5 : Nat) : Int) := ⟨by decide +kernel, rfl, by decide⟩
theorem d_RM_behind_106 : decode mm_RM_behind.2.1 106 = .ok (.iload 4, 2) ∧ 106 + 2 = 108 := ⟨by decide +kernel, rfl⟩
theorem d_RM_behind_108 : decode mm_RM_behind.2.1 108 = .ok (.ireturn, 1) := by decide +kernel
theorem d_RM_begin_0 : decode mm_RM_begin.2.1 0 = .ok (.aload_n 0, 1) ∧ 0 + 1 = 1 := ⟨by decide +kernel, rfl⟩
theorem d_RM_begin_1 : decode mm_RM_begin.2.1 1 = .ok (.iconst 0, 1) ∧ 1 + 1 = 2 := ⟨by decide +kernel, rfl⟩
theorem d_RM_begin_2 : decode mm_RM_begin.2.1 2 = .ok (.putfield 129, 3) ∧ 2 + 3 = 5 := ⟨by decide +kernel, rfl⟩
theorem d_RM_begin_5 : decode mm_RM_begin.2.1 5 = .ok (.aload_n 0, 1) ∧ 5 + 1 = 6 := ⟨by decide +kernel, rfl⟩
theorem d_RM_begin_6 : decode mm_RM_begin.2.1 6 = .ok (.getfield 133, 3) ∧ 6 + 3 = 9 := ⟨by decide +kernel, rfl⟩
theorem d_RM_begin_9 : decode mm_RM_begin.2.1 9 = .ok (.sipush 200, 3) ∧ 9 + 3 = 12 := ⟨by decide +kernel, rfl⟩
theorem d_RM_begin_12 : decode mm_RM_begin.2.1 12 = .ok (.if_icmp .ne 10, 3) ∧ 12 + 3 = 15 ∧ ((12 : Nat) : Int) + (10) = ((22 : Nat) : Int) := ⟨by decide +kernel, rfl, by decide⟩
theorem d_RM_begin_15 : decode mm_RM_begin.2.1 15 = .ok (.aload_n 0, 1) ∧ 15 + 1 = 16 := ⟨by decide +kernel, rfl⟩
theorem d_RM_begin_16 : decode mm_RM_begin.2.1 16 = .ok (.bipush (-10), 2) ∧ 16 + 2 = 18 := ⟨by decide +kernel, rfl⟩
theorem d_RM_begin_18 : decode mm_RM_begin.2.1 18 = .ok (.putfield 136, 3) ∧ 18 + 3 = 21 := ⟨by decide +kernel, rfl⟩
theorem d_RM_begin_21 : decode mm_RM_begin.2.1 21 = .ok (.return_, 1) := by decide +kernel
theorem d_RM_begin_22 : decode mm_RM_begin.2.1 22 = .ok (.aload_n 0, 1) ∧ 22 + 1 = 23 := ⟨by decide +kernel, rfl⟩
theorem d_RM_begin_23 : decode mm_RM_begin.2.1 23 = .ok (.dup, 1) ∧ 23 + 1 = 24 := ⟨by decide +kernel, rfl⟩
theorem d_RM_begin_24 : decode mm_RM_begin.2.1 24 = .ok (.getfield 133, 3) ∧ 24 + 3 = 27 := ⟨by decide +kernel, rfl⟩
theorem d_RM_begin_27 : decode mm_RM_begin.2.1 27 = .ok (.iconst 1, 1) ∧ 27 + 1 = 28 := ⟨by decide +kernel, rfl⟩
theorem d_RM_begin_28 : decode mm_RM_begin.2.1 28 = .ok (.iadd, 1) ∧ 28 + 1 = 29 := ⟨by decide +kernel, rfl⟩
theorem d_RM_begin_29 : decode mm_RM_begin.2.1 29 = .ok (.putfield 133, 3) ∧ 29 + 3 = 32 := ⟨by decide +kernel, rfl⟩
theorem d_RM_begin_32 : decode mm_RM_begin.2.1 32 = .ok (.aload_n 0, 1) ∧ 32 + 1 = 33 := ⟨by decide +kernel, rfl⟩
theorem d_RM_begin_33 : decode mm_RM_begin.2.1 33 = .ok (.getfield 7, 3) ∧ 33 + 3 = 36 := ⟨by decide +kernel, rfl⟩
theorem d_RM_begin_36 : decode mm_RM_begin.2.1 36 = .ok (.iload_n 1, 1) ∧ 36 + 1 = 37 := ⟨by decide +kernel, rfl⟩
theorem d_RM_begin_37 : decode mm_RM_begin.2.1 37 = .ok (.bipush 24, 2) ∧ 37 + 2 = 39 := ⟨by decide +kernel, rfl⟩
theorem d_RM_begin_39 : decode mm_RM_begin.2.1 39 = .ok (.imul, 1) ∧ 39 + 1 = 40 := ⟨by decide +kernel, rfl⟩
theorem d_RM_begin_40 : decode mm_RM_begin.2.1 40 = .ok (.iload_n 2, 1) ∧ 40 + 1 = 41 := ⟨by decide +kernel, rfl⟩
theorem d_RM_begin_41 : decode mm_RM_begin.2.1 41 = .ok (.iadd, 1) ∧ 41 + 1 = 42 := ⟨by decide +kernel, rfl⟩
theorem d_RM_begin_42 : decode mm_RM_begin.2.1 42 = .ok (.iaload, 1) ∧ 42 + 1 = 43 := ⟨by decide +kernel, rfl⟩
theorem d_RM_begin_43 : decode mm_RM_begin.2.1 43 = .ok (.istore_n 3, 1) ∧ 43 + 1 = 44 := ⟨by decide +kernel, rfl⟩
theorem d_RM_begin_44 : decode mm_RM_begin.2.1 44 = .ok (.aload_n 0, 1) ∧ 44 + 1 = 45 := ⟨by decide +kernel, rfl⟩
theorem d_RM_begin_45 : decode mm_RM_begin.2.1 45 = .ok (.iload_n 3, 1) ∧ 45 + 1 = 46 := ⟨by decide +kernel, rfl⟩
theorem d_RM_begin_46 : decode mm_RM_begin.2.1 46 = .ok (.invokevirtual 91, 3) ∧ 46 + 3 = 49 := ⟨by decide +kernel, rfl⟩
theorem d_RM_begin_49 : decode mm_RM_begin.2.1 49 = .ok (.ifCond .eq 13, 3) ∧ 49 + 3 = 52 ∧ ((49 : Nat) : Int) + (13) = ((62 : Nat) : Int) := ⟨by decide +kernel, rfl, by decide⟩
theorem d_RM_begin_52 : decode mm_RM_begin.2.1 52 = .ok (.aload_n 0, 1) ∧ 52 + 1 = 53 := ⟨by decide +kernel, rfl⟩
theorem d_RM_begin_53 : decode mm_RM_begin.2.1 53 = .ok (.iload_n 3, 1) ∧ 53 + 1 = 54 := ⟨by decide +kernel, rfl⟩
theorem d_RM_begin_54 : decode mm_RM_begin.2.1 54 = .ok (.bipush 48, 2) ∧ 54 + 2 = 56 := ⟨by decide +kernel, rfl⟩
theorem d_RM_begin_56 : decode mm_RM_begin.2.1 56 = .ok (.isub, 1) ∧ 56 + 1 = 57 := ⟨by decide +kernel, rfl⟩
theorem d_RM_begin_57 : decode mm_RM_begin.2.1 57 = .ok (.i2l, 1) ∧ 57 + 1 = 58 := ⟨by decide +kernel, rfl⟩
theorem d_RM_begin_58 : decode mm_RM_begin.2.1 58 = .ok (.putfield 139, 3) ∧ 58 + 3 = 61 := ⟨by decide +kernel, rfl⟩
theorem d_RM_begin_61 : decode mm_RM_begin.2.1 61 = .ok (.return_, 1) := by decide +kernel
theorem d_RM_begin_62 : decode mm_RM_begin.2.1 62 = .ok (.aload_n 0, 1) ∧ 62 + 1 = 63 := ⟨by decide +kernel, rfl⟩
theorem d_RM_begin_63 : decode mm_RM_begin.2.1 63 = .ok (.iload_n 3, 1) ∧ 63 + 1 = 64 := ⟨by decide +kernel, rfl⟩
theorem d_RM_begin_64 : decode mm_RM_begin.2.1 64 = .ok (.invokevirtual 95, 3) ∧ 64 + 3 = 67 := ⟨by decide +kernel, rfl⟩
theorem d_RM_begin_67 : decode mm_RM_begin.2.1 67 = .ok (.ifCond .eq 15, 3) ∧ 67 + 3 = 70 ∧ ((67 : Nat) : Int) + (15) = ((82 : Nat) : Int) := ⟨by decide +kernel, rfl, by decide⟩
theorem d_RM_begin_70 : decode mm_RM_begin.2.1 70 = .ok (.aload_n 0, 1) ∧ 70 + 1 = 71 := ⟨by decide +kernel, rfl⟩
theorem d_RM_begin_71 : decode mm_RM_begin.2.1 71 = .ok (.iload_n 3, 1) ∧ 71 + 1 = 72 := ⟨by decide +kernel, rfl⟩
theorem d_RM_begin_72 : decode mm_RM_begin.2.1 72 = .ok (.bipush 97, 2) ∧ 72 + 2 = 74 := ⟨by decide +kernel, rfl⟩
theorem d_RM_begin_74 : decode mm_RM_begin.2.1 74 = .ok (.isub, 1) ∧ 74 + 1 = 75 := ⟨by decide +kernel, rfl⟩
theorem d_RM_begin_75 : decode mm_RM_begin.2.1 75 = .ok (.invokevirtual 143, 3) ∧ 75 + 3 = 78 := ⟨by decide +kernel, rfl⟩
theorem d_RM_begin_78 : decode mm_RM_begin.2.1 78 = .ok (.ifCond .eq 4, 3) ∧ 78 + 3 = 81 ∧ ((78 : Nat) : Int) + (4) = ((82 : Nat) : Int) := ⟨by decide +kernel, rfl, by decide⟩
theorem d_RM_begin_81 : decode mm_RM_begin.2.1 81 = .ok (.return_, 1) := by decide +kernel
theorem d_RM_begin_82 : decode mm_RM_begin.2.1 82 = .ok (.aload_n 0, 1) ∧ 82 + 1 = 83 := ⟨by decide +kernel, rfl⟩
theorem d_RM_begin_83 : decode mm_RM_begin.2.1 83 = .ok (.getfield 43, 3) ∧ 83 + 3 = 86 := ⟨by decide +kernel, rfl⟩
theorem d_RM_begin_86 : decode mm_RM_begin.2.1 86 = .ok (.aload_n 0, 1) ∧ 86 + 1 = 87 := ⟨by decide +kernel, rfl⟩
theorem d_RM_begin_87 : decode mm_RM_begin.2.1 87 = .ok (.getfield 146, 3) ∧ 87 + 3 = 90 := ⟨by decide +kernel, rfl⟩
theorem d_RM_begin_90 : decode mm_RM_begin.2.1 90 = .ok (.iload_n 3, 1) ∧ 90 + 1 = 91 := ⟨by decide +kernel, rfl⟩
theorem d_RM_begin_91 : decode mm_RM_begin.2.1 91 = .ok (.iastore, 1) ∧ 91 + 1 = 92 := ⟨by decide +kernel, rfl⟩
theorem d_RM_begin_92 : decode mm_RM_begin.2.1 92 = .ok (.aload_n 0, 1) ∧ 92 + 1 = 93 := ⟨by decide +kernel, rfl⟩
theorem d_RM_begin_93 : decode mm_RM_begin.2.1 93 = .ok (.getfield 46, 3) ∧ 93 + 3 = 96 := ⟨by decide +kernel, rfl⟩
theorem d_RM_begin_96 : decode mm_RM_begin.2.1 96 = .ok (.aload_n 0, 1) ∧ 96 + 1 = 97 := ⟨by decide +kernel, rfl⟩
theorem d_RM_begin_97 : decode mm_RM_begin.2.1 97 = .ok (.getfield 146, 3) ∧ 97 + 3 = 100 := ⟨by decide +kernel, rfl⟩
theorem d_RM_begin_100 : decode mm_RM_begin.2.1 100 = .ok (.iload_n 1, 1) ∧ 100 + 1 = 101 := ⟨by decide +kernel, rfl⟩
theorem d_RM_begin_101 : decode mm_RM_begin.2.1 101 = .ok (.iastore, 1) ∧ 101 + 1 = 102 := ⟨by decide +kernel, rfl⟩
theorem d_RM_begin_102 : decode mm_RM_begin.2.1 102 = .ok (.aload_n 0, 1) ∧ 102 + 1 = 103 := ⟨by decide +kernel, rfl⟩
theorem d_RM_begin_103 : decode mm_RM_begin.2.1 103 = .ok (.getfield 49, 3) ∧ 103 + 3 = 106 := ⟨by decide +kernel, rfl⟩
theorem d_RM_begin_106 : decode mm_RM_begin.2.1 106 = .ok (.aload_n 0, 1) ∧ 106 + 1 = 107 := ⟨by decide +kernel, rfl⟩
theorem d_RM_begin_107 : decode mm_RM_begin.2.1 107 = .ok (.getfield 146, 3) ∧ 107 + 3 = 110 := ⟨by decide +kernel, rfl⟩
theorem d_RM_begin_110 : decode mm_RM_begin.2.1 110 = .ok (.iload_n 2, 1) ∧ 110 + 1 = 111 := ⟨by decide +kernel, rfl⟩
theorem d_RM_begin_111 : decode mm_RM_begin.2.1 111 = .ok (.iload_n 3, 1) ∧ 111 + 1 = 112 := ⟨by decide +kernel, rfl⟩
theorem d_RM_begin_112 : decode mm_RM_begin.2.1 112 = .ok (.bipush 68, 2) ∧ 112 + 2 = 114 := ⟨by decide +kernel, rfl⟩
theorem d_RM_begin_114 : decode mm_RM_begin.2.1 114 = .ok (.if_icmp .ne 7, 3) ∧ 114 + 3 = 117 ∧ ((114 : Nat) : Int) + (7) = ((121 : Nat) : Int) := ⟨by decide +kernel, rfl, by decide⟩
theorem d_RM_begin_117 : decode mm_RM_begin.2.1 117 = .ok (.iconst 3, 1) ∧ 117 + 1 = 118 := ⟨by decide +kernel, rfl⟩
theorem d_RM_begin_118 : decode mm_RM_begin.2.1 118 = .ok (.goto 4, 3) ∧ 118 + 3 = 121 ∧ ((118 : Nat) : Int) + (4) = ((122 : Nat) : Int) := ⟨by decide +kernel, rfl, by decide⟩
theorem d_RM_begin_121 : decode mm_RM_begin.2.1 121 = .ok (.iconst 1, 1) ∧ 121 + 1 = 122 := ⟨by decide +kernel, rfl⟩
theorem d_RM_begin_122 : decode mm_RM_begin.2.1 122 = .ok (.iadd, 1) ∧ 122 + 1 = 123 := ⟨by decide +kernel, rfl⟩
theorem d_RM_begin_123 : decode mm_RM_begin.2.1 123 = .ok (.iastore, 1) ∧ 123 + 1 = 124 := ⟨by decide +kernel, rfl⟩
theorem d_RM_begin_124 : decode mm_RM_begin.2.1 124 = .ok (.aload_n 0, 1) ∧ 124 + 1 = 125 := ⟨by decide +kernel, rfl⟩
theorem d_RM_begin_125 : decode mm_RM_begin.2.1 125 = .ok (.getfield 52, 3) ∧ 125 + 3 = 128 := ⟨by decide +kernel, rfl⟩
theorem d_RM_begin_128 : decode mm_RM_begin.2.1 128 = .ok (.aload_n 0, 1) ∧ 128 + 1 = 129 := ⟨by decide +kernel, rfl⟩
theorem d_RM_begin_129 : decode mm_RM_begin.2.1 129 = .ok (.getfield 146, 3) ∧ 129 + 3 = 132 := ⟨by decide +kernel, rfl⟩
theorem d_RM_begin_132 : decode mm_RM_begin.2.1 132 = .ok (.iconst 0, 1) ∧ 132 + 1 = 133 := ⟨by decide +kernel, rfl⟩
theorem d_RM_begin_133 : decode mm_RM_begin.2.1 133 = .ok (.iastore, 1) ∧ 133 + 1 = 134 := ⟨by decide +kernel, rfl⟩
theorem d_RM_begin_134 : decode mm_RM_begin.2.1 134 = .ok (.iload_n 3, 1) ∧ 134 + 1 = 135 := ⟨by decide +kernel, rfl⟩
theorem d_RM_begin_135 : decode mm_RM_begin.2.1 135 = .ok (.bipush 68, 2) ∧ 135 + 2 = 137 := ⟨by decide +kernel, rfl⟩
theorem d_RM_begin_137 : decode mm_RM_begin.2.1 137 = .ok (.if_icmp .ne 28, 3) ∧ 137 + 3 = 140 ∧ ((137 : Nat) : Int) + (28) = ((165 : Nat) : Int) := ⟨by decide +kernel, rfl, by decide⟩
theorem d_RM_begin_140 : decode mm_RM_begin.2.1 140 = .ok (.aload_n 0, 1) ∧ 140 + 1 = 141 := ⟨by decide +kernel, rfl⟩
theorem d_RM_begin_141 : decode mm_RM_begin.2.1 141 = .ok (.getfield 55, 3) ∧ 141 + 3 = 144 := ⟨by decide +kernel, rfl⟩
theorem d_RM_begin_144 : decode mm_RM_begin.2.1 144 = .ok (.aload_n 0, 1) ∧ 144 + 1 = 145 := ⟨by decide +kernel, rfl⟩
theorem d_RM_begin_145 : decode mm_RM_begin.2.1 145 = .ok (.getfield 146, 3) ∧ 145 + 3 = 148 := ⟨by decide +kernel, rfl⟩
theorem d_RM_begin_148 : decode mm_RM_begin.2.1 148 = .ok (.aload_n 0, 1) ∧ 148 + 1 = 149 := ⟨by decide +kernel, rfl⟩
theorem d_RM_begin_149 : decode mm_RM_begin.2.1 149 = .ok (.getfield 7, 3) ∧ 149 + 3 = 152 := ⟨by decide +kernel, rfl⟩
theorem d_RM_begin_152 : decode mm_RM_begin.2.1 152 = .ok (.iload_n 1, 1) ∧ 152 + 1 = 153 := ⟨by decide +kernel, rfl⟩
theorem d_RM_begin_153 : decode mm_RM_begin.2.1 153 = .ok (.bipush 24, 2) ∧ 153 + 2 = 155 := ⟨by decide +kernel, rfl⟩
theorem d_RM_begin_155 : decode mm_RM_begin.2.1 155 = .ok (.imul, 1) ∧ 155 + 1 = 156 := ⟨by decide +kernel, rfl⟩
theorem d_RM_begin_156 : decode mm_RM_begin.2.1 156 = .ok (.iload_n 2, 1) ∧ 156 + 1 = 157 := ⟨by decide +kernel, rfl⟩
theorem d_RM_begin_157 : decode mm_RM_begin.2.1 157 = .ok (.iadd, 1) ∧ 157 + 1 = 158 := ⟨by decide +kernel, rfl⟩
theorem d_RM_begin_158 : decode mm_RM_begin.2.1 158 = .ok (.iconst 1, 1) ∧ 158 + 1 = 159 := ⟨by decide +kernel, rfl⟩
theorem d_RM_begin_159 : decode mm_RM_begin.2.1 159 = .ok (.iadd, 1) ∧ 159 + 1 = 160 := ⟨by decide +kernel, rfl⟩
theorem d_RM_begin_160 : decode mm_RM_begin.2.1 160 = .ok (.iaload, 1) ∧ 160 + 1 = 161 := ⟨by decide +kernel, rfl⟩
theorem d_RM_begin_161 : decode mm_RM_begin.2.1 161 = .ok (.bipush 48, 2) ∧ 161 + 2 = 163 := ⟨by decide +kernel, rfl⟩
theorem d_RM_begin_163 : decode mm_RM_begin.2.1 163 = .ok (.isub, 1) ∧ 163 + 1 = 164 := ⟨by decide +kernel, rfl⟩
theorem d_RM_begin_164 : decode mm_RM_begin.2.1 164 = .ok (.iastore, 1) ∧ 164 + 1 = 165 := ⟨by decide +kernel, rfl⟩
theorem d_RM_begin_165 : decode mm_RM_begin.2.1 165 = .ok (.aload_n 0, 1) ∧ 165 + 1 = 166 := ⟨by decide +kernel, rfl⟩
theorem d_RM_begin_166 : decode mm_RM_begin.2.1 166 = .ok (.dup, 1) ∧ 166 + 1 = 167 := ⟨by decide +kernel, rfl⟩
theorem d_RM_begin_167 : decode mm_RM_begin.2.1 167 = .ok (.getfield 146, 3) ∧ 167 + 3 = 170 := ⟨by decide +kernel, rfl⟩
theorem d_RM_begin_170 : decode mm_RM_begin.2.1 170 = .ok (.iconst 1, 1) ∧ 170 + 1 = 171 := ⟨by decide +kernel, rfl⟩
theorem d_RM_begin_171 : decode mm_RM_begin.2.1 171 = .ok (.iadd, 1) ∧ 171 + 1 = 172 := ⟨by decide +kernel, rfl⟩
theorem d_RM_begin_172 : decode mm_RM_begin.2.1 172 = .ok (.putfield 146, 3) ∧ 172 + 3 = 175 := ⟨by decide +kernel, rfl⟩
theorem d_RM_begin_175 : decode mm_RM_begin.2.1 175 = .ok (.aload_n 0, 1) ∧ 175 + 1 = 176 := ⟨by decide +kernel, rfl⟩
theorem d_RM_begin_176 : decode mm_RM_begin.2.1 176 = .ok (.iconst 1, 1) ∧ 176 + 1 = 177 := ⟨by decide +kernel, rfl⟩
theorem d_RM_begin_177 : decode mm_RM_begin.2.1 177 = .ok (.putfield 129, 3) ∧ 177 + 3 = 180 := ⟨by decide +kernel, rfl⟩
theorem d_RM_begin_180 : decode mm_RM_begin.2.1 180 = .ok (.return_, 1) := by decide +kernel
theorem d_RM_enter_0 : decode mm_RM_enter.2.1 0 = .ok (.aload_n 0, 1) ∧ 0 + 1 = 1 := ⟨by decide +kernel, rfl⟩
theorem d_RM_enter_1 : decode mm_RM_enter.2.1 1 = .ok (.getfield 24, 3) ∧ 1 + 3 = 4 := ⟨by decide +kernel, rfl⟩
theorem d_RM_enter_4 : decode mm_RM_enter.2.1 4 = .ok (.iload_n 1, 1) ∧ 4 + 1 = 5 := ⟨by decide +kernel, rfl⟩
theorem d_RM_enter_5 : decode mm_RM_enter.2.1 5 = .ok (.baload, 1) ∧ 5 + 1 = 6 := ⟨by decide +kernel, rfl⟩
theorem d_RM_enter_6 : decode mm_RM_enter.2.1 6 = .ok (.ifCond .ne 12, 3) ∧ 6 + 3 = 9 ∧ ((6 : Nat) : Int) + (12) = ((18 : Nat) : Int) := ⟨by decide +kernel, rfl, by decide⟩
theorem d_RM_enter_9 : decode mm_RM_enter.2.1 9 = .ok (.aload_n 0, 1) ∧ 9 + 1 = 10 := ⟨by decide +kernel, rfl⟩
theorem d_RM_enter_10 : decode mm_RM_enter.2.1 10 = .ok (.bipush (-4), 2) ∧ 10 + 2 = 12 := ⟨by decide +kernel, rfl⟩
theorem d_RM_enter_12 : decode mm_RM_enter.2.1 12 = .ok (.putfield 136, 3) ∧ 12 + 3 = 15 := ⟨by decide +kernel, rfl⟩
theorem d_RM_enter_15 : decode mm_RM_enter.2.1 15 = .ok (.goto 18, 3) ∧ 15 + 3 = 18 ∧ ((15 : Nat) : Int) + (18) = ((33 : Nat) : Int) := ⟨by decide +kernel, rfl, by decide⟩
theorem d_RM_enter_18 : decode mm_RM_enter.2.1 18 = .ok (.aload_n 0, 1) ∧ 18 + 1 = 19 := ⟨by decide +kernel, rfl⟩
theorem d_RM_enter_19 : decode mm_RM_enter.2.1 19 = .ok (.getfield 27, 3) ∧ 19 + 3 = 22 := ⟨by decide +kernel, rfl⟩
theorem d_RM_enter_22 : decode mm_RM_enter.2.1 22 = .ok (.iload_n 1, 1) ∧ 22 + 1 = 23 := ⟨by decide +kernel, rfl⟩
theorem d_RM_enter_23 : decode mm_RM_enter.2.1 23 = .ok (.baload, 1) ∧ 23 + 1 = 24 := ⟨by decide +kernel, rfl⟩
theorem d_RM_enter_24 : decode mm_RM_enter.2.1 24 = .ok (.ifCond .eq 9, 3) ∧ 24 + 3 = 27 ∧ ((24 : Nat) : Int) + (9) = ((33 : Nat) : Int) := ⟨by decide +kernel, rfl, by decide⟩
theorem d_RM_enter_27 : decode mm_RM_enter.2.1 27 = .ok (.aload_n 0, 1) ∧ 27 + 1 = 28 := ⟨by decide +kernel, rfl⟩
theorem d_RM_enter_28 : decode mm_RM_enter.2.1 28 = .ok (.bipush (-8), 2) ∧ 28 + 2 = 30 := ⟨by decide +kernel, rfl⟩
theorem d_RM_enter_30 : decode mm_RM_enter.2.1 30 = .ok (.putfield 136, 3) ∧ 30 + 3 = 33 := ⟨by decide +kernel, rfl⟩
theorem d_RM_enter_33 : decode mm_RM_enter.2.1 33 = .ok (.aload_n 0, 1) ∧ 33 + 1 = 34 := ⟨by decide +kernel, rfl⟩
theorem d_RM_enter_34 : decode mm_RM_enter.2.1 34 = .ok (.getfield 136, 3) ∧ 34 + 3 = 37 := ⟨by decide +kernel, rfl⟩
theorem d_RM_enter_37 : decode mm_RM_enter.2.1 37 = .ok (.ifCond .eq 5, 3) ∧ 37 + 3 = 40 ∧ ((37 : Nat) : Int) + (5) = ((42 : Nat) : Int) := ⟨by decide +kernel, rfl, by decide⟩
theorem d_RM_enter_40 : decode mm_RM_enter.2.1 40 = .ok (.iconst 1, 1) ∧ 40 + 1 = 41 := ⟨by decide +kernel, rfl⟩
theorem d_RM_enter_41 : decode mm_RM_enter.2.1 41 = .ok (.ireturn, 1) := by decide +kernel
theorem d_RM_enter_42 : decode mm_RM_enter.2.1 42 = .ok (.aload_n 0, 1) ∧ 42 + 1 = 43 := ⟨by decide +kernel, rfl⟩
theorem d_RM_enter_43 : decode mm_RM_enter.2.1 43 = .ok (.getfield 20, 3) ∧ 43 + 3 = 46 := ⟨by decide +kernel, rfl⟩
theorem d_RM_enter_46 : decode mm_RM_enter.2.1 46 = .ok (.iload_n 1, 1) ∧ 46 + 1 = 47 := ⟨by decide +kernel, rfl⟩
theorem d_RM_enter_47 : decode mm_RM_enter.2.1 47 = .ok (.baload, 1) ∧ 47 + 1 = 48 := ⟨by decide +kernel, rfl⟩
theorem d_RM_enter_48 : decode mm_RM_enter.2.1 48 = .ok (.ifCond .eq 16, 3) ∧ 48 + 3 = 51 ∧ ((48 : Nat) : Int) + (16) = ((64 : Nat) : Int) := ⟨by decide +kernel, rfl, by decide⟩
theorem d_RM_enter_51 : decode mm_RM_enter.2.1 51 = .ok (.aload_n 0, 1) ∧ 51 + 1 = 52 := ⟨by decide +kernel, rfl⟩
theorem d_RM_enter_52 : decode mm_RM_enter.2.1 52 = .ok (.aload_n 0, 1) ∧ 52 + 1 = 53 := ⟨by decide +kernel, rfl⟩
theorem d_RM_enter_53 : decode mm_RM_enter.2.1 53 = .ok (.getfield 16, 3) ∧ 53 + 3 = 56 := ⟨by decide +kernel, rfl⟩
theorem d_RM_enter_56 : decode mm_RM_enter.2.1 56 = .ok (.iload_n 1, 1) ∧ 56 + 1 = 57 := ⟨by decide +kernel, rfl⟩
theorem d_RM_enter_57 : decode mm_RM_enter.2.1 57 = .ok (.laload, 1) ∧ 57 + 1 = 58 := ⟨by decide +kernel, rfl⟩
theorem d_RM_enter_58 : decode mm_RM_enter.2.1 58 = .ok (.putfield 139, 3) ∧ 58 + 3 = 61 := ⟨by decide +kernel, rfl⟩
theorem d_RM_enter_61 : decode mm_RM_enter.2.1 61 = .ok (.goto 10, 3) ∧ 61 + 3 = 64 ∧ ((61 : Nat) : Int) + (10) = ((71 : Nat) : Int) := ⟨by decide +kernel, rfl, by decide⟩
theorem d_RM_enter_64 : decode mm_RM_enter.2.1 64 = .ok (.aload_n 0, 1) ∧ 64 + 1 = 65 := ⟨by decide +kernel, rfl⟩
theorem d_RM_enter_65 : decode mm_RM_enter.2.1 65 = .ok (.getfield 27, 3) ∧ 65 + 3 = 68 := ⟨by decide +kernel, rfl⟩
theorem d_RM_enter_68 : decode mm_RM_enter.2.1 68 = .ok (.iload_n 1, 1) ∧ 68 + 1 = 69 := ⟨by decide +kernel, rfl⟩
theorem d_RM_enter_69 : decode mm_RM_enter.2.1 69 = .ok (.iconst 1, 1) ∧ 69 + 1 = 70 := ⟨by decide +kernel, rfl⟩
theorem d_RM_enter_70 : decode mm_RM_enter.2.1 70 = .ok (.bastore, 1) ∧ 70 + 1 = 71 := ⟨by decide +kernel, rfl⟩
theorem d_RM_enter_71 : decode mm_RM_enter.2.1 71 = .ok (.aload_n 0, 1) ∧ 71 + 1 = 72 := ⟨by decide +kernel, rfl⟩
theorem d_RM_enter_72 : decode mm_RM_enter.2.1 72 = .ok (.getfield 20, 3) ∧ 72 + 3 = 75 := ⟨by decide +kernel, rfl⟩
theorem d_RM_enter_75 : decode mm_RM_enter.2.1 75 = .ok (.iload_n 1, 1) ∧ 75 + 1 = 76 := ⟨by decide +kernel, rfl⟩
theorem d_RM_enter_76 : decode mm_RM_enter.2.1 76 = .ok (.baload, 1) ∧ 76 + 1 = 77 := ⟨by decide +kernel, rfl⟩
theorem d_RM_enter_77 : decode mm_RM_enter.2.1 77 = .ok (.ireturn, 1) := by decide +kernel
theorem d_RM_isNumber_0 : decode mm_RM_isNumber.2.1 0 = .ok (.lload_n 1, 1) ∧ 0 + 1 = 1 := ⟨by decide +kernel, rfl⟩
theorem d_RM_isNumber_1 : decode mm_RM_isNumber.2.1 1 = .ok (.ldc2_w 149, 3) ∧ 1 + 3 = 4 := ⟨by decide +kernel, rfl⟩
theorem d_RM_isNumber_4 : decode mm_RM_isNumber.2.1 4 = .ok (.lcmp, 1) ∧ 4 + 1 = 5 := ⟨by decide +kernel, rfl⟩
theorem d_RM_isNumber_5 : decode mm_RM_isNumber.2.1 5 = .ok (.ifCond .ge 7, 3) ∧ 5 + 3 = 8 ∧ ((5 : Nat) : Int) + (7) = ((12 : Nat) : Int) := ⟨by decide +kernel, rfl, by decide⟩
theorem d_RM_isNumber_8 : decode mm_RM_isNumber.2.1 8 = .ok (.iconst 1, 1) ∧ 8 + 1 = 9 := ⟨by decide +kernel, rfl⟩
theorem d_RM_isNumber_9 : decode mm_RM_isNumber.2.1 9 = .ok (.goto 4, 3) ∧ 9 + 3 = 12 ∧ ((9 : Nat) : Int) + (4) = ((13 : Nat) : Int) := ⟨by decide +kernel, rfl, by decide⟩
theorem d_RM_isNumber_12 : decode mm_RM_isNumber.2.1 12 = .ok (.iconst 0, 1) ∧ 12 + 1 = 13 := ⟨by decide +kernel, rfl⟩
theorem d_RM_isNumber_13 : decode mm_RM_isNumber.2.1 13 = .ok (.ireturn, 1) := by decide +kernel
theorem d_RM_operate_0 : decode mm_RM_operate.2.1 0 = .ok (.aload_n 0, 1) ∧ 0 + 1 = 1 := ⟨by decide +kernel, rfl⟩
theorem d_RM_operate_1 : decode mm_RM_operate.2.1 1 = .ok (.getfield 58, 3) ∧ 1 + 3 = 4 := ⟨by decide +kernel, rfl⟩
theorem d_RM_operate_4 : decode mm_RM_operate.2.1 4 = .ok (.iload_n 1, 1) ∧ 4 + 1 = 5 := ⟨by decide +kernel, rfl⟩
theorem d_RM_operate_5 : decode mm_RM_operate.2.1 5 = .ok (.iconst 4, 1) ∧ 5 + 1 = 6 := ⟨by decide +kernel, rfl⟩
theorem d_RM_operate_6 : decode mm_RM_operate.2.1 6 = .ok (.imul, 1) ∧ 6 + 1 = 7 := ⟨by decide +kernel, rfl⟩
theorem d_RM_operate_7 : decode mm_RM_operate.2.1 7 = .ok (.laload, 1) ∧ 7 + 1 = 8 := ⟨by decide +kernel, rfl⟩
theorem d_RM_operate_8 : decode mm_RM_operate.2.1 8 = .ok (.lstore_n 2, 1) ∧ 8 + 1 = 9 := ⟨by decide +kernel, rfl⟩
theorem d_RM_operate_9 : decode mm_RM_operate.2.1 9 = .ok (.aload_n 0, 1) ∧ 9 + 1 = 10 := ⟨by decide +kernel, rfl⟩
theorem d_RM_operate_10 : decode mm_RM_operate.2.1 10 = .ok (.getfield 58, 3) ∧ 10 + 3 = 13 := ⟨by decide +kernel, rfl⟩
theorem d_RM_operate_13 : decode mm_RM_operate.2.1 13 = .ok (.iload_n 1, 1) ∧ 13 + 1 = 14 := ⟨by decide +kernel, rfl⟩
theorem d_RM_operate_14 : decode mm_RM_operate.2.1 14 = .ok (.iconst 4, 1) ∧ 14 + 1 = 15 := ⟨by decide +kernel, rfl⟩
theorem d_RM_operate_15 : decode mm_RM_operate.2.1 15 = .ok (.imul, 1) ∧ 15 + 1 = 16 := ⟨by decide +kernel, rfl⟩
theorem d_RM_operate_16 : decode mm_RM_operate.2.1 16 = .ok (.iconst 1, 1) ∧ 16 + 1 = 17 := ⟨by decide +kernel, rfl⟩
theorem d_RM_operate_17 : decode mm_RM_operate.2.1 17 = .ok (.iadd, 1) ∧ 17 + 1 = 18 := ⟨by decide +kernel, rfl⟩
theorem d_RM_operate_18 : decode mm_RM_operate.2.1 18 = .ok (.laload, 1) ∧ 18 + 1 = 19 := ⟨by decide +kernel, rfl⟩
theorem d_RM_operate_19 : decode mm_RM_operate.2.1 19 = .ok (.lstore 4, 2) ∧ 19 + 2 = 21 := ⟨by decide +kernel, rfl⟩
theorem d_RM_operate_21 : decode mm_RM_operate.2.1 21 = .ok (.aload_n 0, 1) ∧ 21 + 1 = 22 := ⟨by decide +kernel, rfl⟩
theorem d_RM_operate_22 : decode mm_RM_operate.2.1 22 = .ok (.getfield 43, 3) ∧ 22 + 3 = 25 := ⟨by decide +kernel, rfl⟩
theorem d_RM_operate_25 : decode mm_RM_operate.2.1 25 = .ok (.iload_n 1, 1) ∧ 25 + 1 = 26 := ⟨by decide +kernel, rfl⟩
theorem d_RM_operate_26 : decode mm_RM_operate.2.1 26 = .ok (.iaload, 1) ∧ 26 + 1 = 27 := ⟨by decide +kernel, rfl⟩
theorem d_RM_operate_27 : decode mm_RM_operate.2.1 27 = .ok (.istore 6, 2) ∧ 27 + 2 = 29 := ⟨by decide +kernel, rfl⟩
theorem d_RM_operate_29 : decode mm_RM_operate.2.1 29 = .ok (.iload 6, 2) ∧ 29 + 2 = 31 := ⟨by decide +kernel, rfl⟩
theorem d_RM_operate_31 : decode mm_RM_operate.2.1 31 = .ok (.bipush 33, 2) ∧ 31 + 2 = 33 := ⟨by decide +kernel, rfl⟩
theorem d_RM_operate_33 : decode mm_RM_operate.2.1 33 = .ok (.if_icmp .ne 12, 3) ∧ 33 + 3 = 36 ∧ ((33 : Nat) : Int) + (12) = ((45 : Nat) : Int) := ⟨by decide +kernel, rfl, by decide⟩
theorem d_RM_operate_36 : decode mm_RM_operate.2.1 36 = .ok (.aload_n 0, 1) ∧ 36 + 1 = 37 := ⟨by decide +kernel, rfl⟩
theorem d_RM_operate_37 : decode mm_RM_operate.2.1 37 = .ok (.bipush (-6), 2) ∧ 37 + 2 = 39 := ⟨by decide +kernel, rfl⟩
theorem d_RM_operate_39 : decode mm_RM_operate.2.1 39 = .ok (.putfield 136, 3) ∧ 39 + 3 = 42 := ⟨by decide +kernel, rfl⟩
theorem d_RM_operate_42 : decode mm_RM_operate.2.1 42 = .ok (.goto 105, 3) ∧ 42 + 3 = 45 ∧ ((42 : Nat) : Int) + (105) = ((147 : Nat) : Int) := ⟨by decide +kernel, rfl, by decide⟩
theorem d_RM_operate_45 : decode mm_RM_operate.2.1 45 = .ok (.aload_n 0, 1) ∧ 45 + 1 = 46 := ⟨by decide +kernel, rfl⟩
theorem d_RM_operate_46 : decode mm_RM_operate.2.1 46 = .ok (.lload_n 2, 1) ∧ 46 + 1 = 47 := ⟨by decide +kernel, rfl⟩
theorem d_RM_operate_47 : decode mm_RM_operate.2.1 47 = .ok (.invokevirtual 151, 3) ∧ 47 + 3 = 50 := ⟨by decide +kernel, rfl⟩
theorem d_RM_operate_50 : decode mm_RM_operate.2.1 50 = .ok (.ifCond .eq 12, 3) ∧ 50 + 3 = 53 ∧ ((50 : Nat) : Int) + (12) = ((62 : Nat) : Int) := ⟨by decide +kernel, rfl, by decide⟩
theorem d_RM_operate_53 : decode mm_RM_operate.2.1 53 = .ok (.aload_n 0, 1) ∧ 53 + 1 = 54 := ⟨by decide +kernel, rfl⟩
theorem d_RM_operate_54 : decode mm_RM_operate.2.1 54 = .ok (.lload 4, 2) ∧ 54 + 2 = 56 := ⟨by decide +kernel, rfl⟩
theorem d_RM_operate_56 : decode mm_RM_operate.2.1 56 = .ok (.invokevirtual 151, 3) ∧ 56 + 3 = 59 := ⟨by decide +kernel, rfl⟩
theorem d_RM_operate_59 : decode mm_RM_operate.2.1 59 = .ok (.ifCond .ne 12, 3) ∧ 59 + 3 = 62 ∧ ((59 : Nat) : Int) + (12) = ((71 : Nat) : Int) := ⟨by decide +kernel, rfl, by decide⟩
theorem d_RM_operate_62 : decode mm_RM_operate.2.1 62 = .ok (.aload_n 0, 1) ∧ 62 + 1 = 63 := ⟨by decide +kernel, rfl⟩
theorem d_RM_operate_63 : decode mm_RM_operate.2.1 63 = .ok (.bipush (-5), 2) ∧ 63 + 2 = 65 := ⟨by decide +kernel, rfl⟩
theorem d_RM_operate_65 : decode mm_RM_operate.2.1 65 = .ok (.putfield 136, 3) ∧ 65 + 3 = 68 := ⟨by decide +kernel, rfl⟩
theorem d_RM_operate_68 : decode mm_RM_operate.2.1 68 = .ok (.goto 79, 3) ∧ 68 + 3 = 71 ∧ ((68 : Nat) : Int) + (79) = ((147 : Nat) : Int) := ⟨by decide +kernel, rfl, by decide⟩
theorem d_RM_operate_71 : decode mm_RM_operate.2.1 71 = .ok (.iload 6, 2) ∧ 71 + 2 = 73 := ⟨by decide +kernel, rfl⟩
theorem d_RM_operate_73 : decode mm_RM_operate.2.1 73 = .ok (.bipush 43, 2) ∧ 73 + 2 = 75 := ⟨by decide +kernel, rfl⟩
theorem d_RM_operate_75 : decode mm_RM_operate.2.1 75 = .ok (.if_icmp .ne 16, 3) ∧ 75 + 3 = 78 ∧ ((75 : Nat) : Int) + (16) = ((91 : Nat) : Int) := ⟨by decide +kernel, rfl, by decide⟩
theorem d_RM_operate_78 : decode mm_RM_operate.2.1 78 = .ok (.aload_n 0, 1) ∧ 78 + 1 = 79 := ⟨by decide +kernel, rfl⟩
theorem d_RM_operate_79 : decode mm_RM_operate.2.1 79 = .ok (.lload_n 2, 1) ∧ 79 + 1 = 80 := ⟨by decide +kernel, rfl⟩
theorem d_RM_operate_80 : decode mm_RM_operate.2.1 80 = .ok (.lload 4, 2) ∧ 80 + 2 = 82 := ⟨by decide +kernel, rfl⟩
theorem d_RM_operate_82 : decode mm_RM_operate.2.1 82 = .ok (.ladd, 1) ∧ 82 + 1 = 83 := ⟨by decide +kernel, rfl⟩
theorem d_RM_operate_83 : decode mm_RM_operate.2.1 83 = .ok (.l2i, 1) ∧ 83 + 1 = 84 := ⟨by decide +kernel, rfl⟩
theorem d_RM_operate_84 : decode mm_RM_operate.2.1 84 = .ok (.i2l, 1) ∧ 84 + 1 = 85 := ⟨by decide +kernel, rfl⟩
theorem d_RM_operate_85 : decode mm_RM_operate.2.1 85 = .ok (.putfield 139, 3) ∧ 85 + 3 = 88 := ⟨by decide +kernel, rfl⟩
theorem d_RM_operate_88 : decode mm_RM_operate.2.1 88 = .ok (.goto 59, 3) ∧ 88 + 3 = 91 ∧ ((88 : Nat) : Int) + (59) = ((147 : Nat) : Int) := ⟨by decide +kernel, rfl, by decide⟩
theorem d_RM_operate_91 : decode mm_RM_operate.2.1 91 = .ok (.iload 6, 2) ∧ 91 + 2 = 93 := ⟨by decide +kernel, rfl⟩
theorem d_RM_operate_93 : decode mm_RM_operate.2.1 93 = .ok (.bipush 45, 2) ∧ 93 + 2 = 95 := ⟨by decide +kernel, rfl⟩
theorem d_RM_operate_95 : decode mm_RM_operate.2.1 95 = .ok (.if_icmp .ne 16, 3) ∧ 95 + 3 = 98 ∧ ((95 : Nat) : Int) + (16) = ((111 : Nat) : Int) := ⟨by decide +kernel, rfl, by decide⟩
theorem d_RM_operate_98 : decode mm_RM_operate.2.1 98 = .ok (.aload_n 0, 1) ∧ 98 + 1 = 99 := ⟨by decide +kernel, rfl⟩
theorem d_RM_operate_99 : decode mm_RM_operate.2.1 99 = .ok (.lload_n 2, 1) ∧ 99 + 1 = 100 := ⟨by decide +kernel, rfl⟩
theorem d_RM_operate_100 : decode mm_RM_operate.2.1 100 = .ok (.lload 4, 2) ∧ 100 + 2 = 102 := ⟨by decide +kernel, rfl⟩
theorem d_RM_operate_102 : decode mm_RM_operate.2.1 102 = .ok (.lsub, 1) ∧ 102 + 1 = 103 := ⟨by decide +kernel, rfl⟩
theorem d_RM_operate_103 : decode mm_RM_operate.2.1 103 = .ok (.l2i, 1) ∧ 103 + 1 = 104 := ⟨by decide +kernel, rfl⟩
theorem d_RM_operate_104 : decode mm_RM_operate.2.1 104 = .ok (.i2l, 1) ∧ 104 + 1 = 105 := ⟨by decide +kernel, rfl⟩
theorem d_RM_operate_105 : decode mm_RM_operate.2.1 105 = .ok (.putfield 139, 3) ∧ 105 + 3 = 108 := ⟨by decide +kernel, rfl⟩
theorem d_RM_operate_108 : decode mm_RM_operate.2.1 108 = .ok (.goto 39, 3) ∧ 108 + 3 = 111 ∧ ((108 : Nat) : Int) + (39) = ((147 : Nat) : Int) := ⟨by decide +kernel, rfl, by decide⟩
theorem d_RM_operate_111 : decode mm_RM_operate.2.1 111 = .ok (.iload 6, 2) ∧ 111 + 2 = 113 := ⟨by decide +kernel, rfl⟩
theorem d_RM_operate_113 : decode mm_RM_operate.2.1 113 = .ok (.bipush 42, 2) ∧ 113 + 2 = 115 := ⟨by decide +kernel, rfl⟩
theorem d_RM_operate_115 : decode mm_RM_operate.2.1 115 = .ok (.if_icmp .ne 16, 3) ∧ 115 + 3 = 118 ∧ ((115 : Nat) : Int) + (16) = ((131 : Nat) : Int) := ⟨by decide +kernel, rfl, by decide⟩
theorem d_RM_operate_118 : decode mm_RM_operate.2.1 118 = .ok (.aload_n 0, 1) ∧ 118 + 1 = 119 := ⟨by decide +kernel, rfl⟩
theorem d_RM_operate_119 : decode mm_RM_operate.2.1 119 = .ok (.lload_n 2, 1) ∧ 119 + 1 = 120 := ⟨by decide +kernel, rfl⟩
theorem d_RM_operate_120 : decode mm_RM_operate.2.1 120 = .ok (.lload 4, 2) ∧ 120 + 2 = 122 := ⟨by decide +kernel, rfl⟩
theorem d_RM_operate_122 : decode mm_RM_operate.2.1 122 = .ok (.lmul, 1) ∧ 122 + 1 = 123 := ⟨by decide +kernel, rfl⟩
theorem d_RM_operate_123 : decode mm_RM_operate.2.1 123 = .ok (.l2i, 1) ∧ 123 + 1 = 124 := ⟨by decide +kernel, rfl⟩
theorem d_RM_operate_124 : decode mm_RM_operate.2.1 124 = .ok (.i2l, 1) ∧ 124 + 1 = 125 := ⟨by decide +kernel, rfl⟩
theorem d_RM_operate_125 : decode mm_RM_operate.2.1 125 = .ok (.putfield 139, 3) ∧ 125 + 3 = 128 := ⟨by decide +kernel, rfl⟩
theorem d_RM_operate_128 : decode mm_RM_operate.2.1 128 = .ok (.goto 19, 3) ∧ 128 + 3 = 131 ∧ ((128 : Nat) : Int) + (19) = ((147 : Nat) : Int) := ⟨by decide +kernel, rfl, by decide⟩
theorem d_RM_operate_131 : decode mm_RM_operate.2.1 131 = .ok (.aload_n 0, 1) ∧ 131 + 1 = 132 := ⟨by decide +kernel, rfl⟩
theorem d_RM_operate_132 : decode mm_RM_operate.2.1 132 = .ok (.lload_n 2, 1) ∧ 132 + 1 = 133 := ⟨by decide +kernel, rfl⟩
theorem d_RM_operate_133 : decode mm_RM_operate.2.1 133 = .ok (.lload 4, 2) ∧ 133 + 2 = 135 := ⟨by decide +kernel, rfl⟩
theorem d_RM_operate_135 : decode mm_RM_operate.2.1 135 = .ok (.lcmp, 1) ∧ 135 + 1 = 136 := ⟨by decide +kernel, rfl⟩
theorem d_RM_operate_136 : decode mm_RM_operate.2.1 136 = .ok (.ifCond .ge 7, 3) ∧ 136 + 3 = 139 ∧ ((136 : Nat) : Int) + (7) = ((143 : Nat) : Int) := ⟨by decide +kernel, rfl, by decide⟩
theorem d_RM_operate_139 : decode mm_RM_operate.2.1 139 = .ok (.lconst 1, 1) ∧ 139 + 1 = 140 := ⟨by decide +kernel, rfl⟩
theorem d_RM_operate_140 : decode mm_RM_operate.2.1 140 = .ok (.goto 4, 3) ∧ 140 + 3 = 143 ∧ ((140 : Nat) : Int) + (4) = ((144 : Nat) : Int) := ⟨by decide +kernel, rfl, by decide⟩
theorem d_RM_operate_143 : decode mm_RM_operate.2.1 143 = .ok (.lconst 0, 1) ∧ 143 + 1 = 144 := ⟨by decide +kernel, rfl⟩
theorem d_RM_operate_144 : decode mm_RM_operate.2.1 144 = .ok (.putfield 139, 3) ∧ 144 + 3 = 147 := ⟨by decide +kernel, rfl⟩
theorem d_RM_operate_147 : decode mm_RM_operate.2.1 147 = .ok (.return_, 1) := by decide +kernel
theorem d_RM_describe_0 : decode mm_RM_describe.2.1 0 = .ok (.iconst 1, 1) ∧ 0 + 1 = 1 := ⟨by decide +kernel, rfl⟩
theorem d_RM_describe_1 : decode mm_RM_describe.2.1 1 = .ok (.istore_n 2, 1) ∧ 1 + 1 = 2 := ⟨by decide +kernel, rfl⟩
theorem d_RM_describe_2 : decode mm_RM_describe.2.1 2 = .ok (.iload_n 2, 1) ∧ 2 + 1 = 3 := ⟨by decide +kernel, rfl⟩
theorem d_RM_describe_3 : decode mm_RM_describe.2.1 3 = .ok (.aload_n 0, 1) ∧ 3 + 1 = 4 := ⟨by decide +kernel, rfl⟩
theorem d_RM_describe_4 : decode mm_RM_describe.2.1 4 = .ok (.getfield 155, 3) ∧ 4 + 3 = 7 := ⟨by decide +kernel, rfl⟩
theorem d_RM_describe_7 : decode mm_RM_describe.2.1 7 = .ok (.if_icmp .gt 112, 3) ∧ 7 + 3 = 10 ∧ ((7 : Nat) : Int) + (112) = ((119 : Nat) : Int) := ⟨by decide +kernel, rfl, by decide⟩
theorem d_RM_describe_10 : decode mm_RM_describe.2.1 10 = .ok (.aload_n 0, 1) ∧ 10 + 1 = 11 := ⟨by decide +kernel, rfl⟩
theorem d_RM_describe_11 : decode mm_RM_describe.2.1 11 = .ok (.getfield 61, 3) ∧ 11 + 3 = 14 := ⟨by decide +kernel, rfl⟩
theorem d_RM_describe_14 : decode mm_RM_describe.2.1 14 = .ok (.iload_n 2, 1) ∧ 14 + 1 = 15 := ⟨by decide +kernel, rfl⟩
theorem d_RM_describe_15 : decode mm_RM_describe.2.1 15 = .ok (.iaload, 1) ∧ 15 + 1 = 16 := ⟨by decide +kernel, rfl⟩
theorem d_RM_describe_16 : decode mm_RM_describe.2.1 16 = .ok (.aload_n 0, 1) ∧ 16 + 1 = 17 := ⟨by decide +kernel, rfl⟩
theorem d_RM_describe_17 : decode mm_RM_describe.2.1 17 = .ok (.getfield 55, 3) ∧ 17 + 3 = 20 := ⟨by decide +kernel, rfl⟩
theorem d_RM_describe_20 : decode mm_RM_describe.2.1 20 = .ok (.iload_n 1, 1) ∧ 20 + 1 = 21 := ⟨by decide +kernel, rfl⟩
theorem d_RM_describe_21 : decode mm_RM_describe.2.1 21 = .ok (.iaload, 1) ∧ 21 + 1 = 22 := ⟨by decide +kernel, rfl⟩
theorem d_RM_describe_22 : decode mm_RM_describe.2.1 22 = .ok (.if_icmp .ne 22, 3) ∧ 22 + 3 = 25 ∧ ((22 : Nat) : Int) + (22) = ((44 : Nat) : Int) := ⟨by decide +kernel, rfl, by decide⟩
theorem d_RM_describe_25 : decode mm_RM_describe.2.1 25 = .ok (.aload_n 0, 1) ∧ 25 + 1 = 26 := ⟨by decide +kernel, rfl⟩
theorem d_RM_describe_26 : decode mm_RM_describe.2.1 26 = .ok (.getfield 64, 3) ∧ 26 + 3 = 29 := ⟨by decide +kernel, rfl⟩
theorem d_RM_describe_29 : decode mm_RM_describe.2.1 29 = .ok (.iload_n 2, 1) ∧ 29 + 1 = 30 := ⟨by decide +kernel, rfl⟩
theorem d_RM_describe_30 : decode mm_RM_describe.2.1 30 = .ok (.iaload, 1) ∧ 30 + 1 = 31 := ⟨by decide +kernel, rfl⟩
theorem d_RM_describe_31 : decode mm_RM_describe.2.1 31 = .ok (.aload_n 0, 1) ∧ 31 + 1 = 32 := ⟨by decide +kernel, rfl⟩
theorem d_RM_describe_32 : decode mm_RM_describe.2.1 32 = .ok (.getfield 52, 3) ∧ 32 + 3 = 35 := ⟨by decide +kernel, rfl⟩
theorem d_RM_describe_35 : decode mm_RM_describe.2.1 35 = .ok (.iload_n 1, 1) ∧ 35 + 1 = 36 := ⟨by decide +kernel, rfl⟩
theorem d_RM_describe_36 : decode mm_RM_describe.2.1 36 = .ok (.iaload, 1) ∧ 36 + 1 = 37 := ⟨by decide +kernel, rfl⟩
theorem d_RM_describe_37 : decode mm_RM_describe.2.1 37 = .ok (.if_icmp .ne 7, 3) ∧ 37 + 3 = 40 ∧ ((37 : Nat) : Int) + (7) = ((44 : Nat) : Int) := ⟨by decide +kernel, rfl, by decide⟩
theorem d_RM_describe_40 : decode mm_RM_describe.2.1 40 = .ok (.iconst 1, 1) ∧ 40 + 1 = 41 := ⟨by decide +kernel, rfl⟩
theorem d_RM_describe_41 : decode mm_RM_describe.2.1 41 = .ok (.goto 4, 3) ∧ 41 + 3 = 44 ∧ ((41 : Nat) : Int) + (4) = ((45 : Nat) : Int) := ⟨by decide +kernel, rfl, by decide⟩
theorem d_RM_describe_44 : decode mm_RM_describe.2.1 44 = .ok (.iconst 0, 1) ∧ 44 + 1 = 45 := ⟨by decide +kernel, rfl⟩
theorem d_RM_describe_45 : decode mm_RM_describe.2.1 45 = .ok (.istore_n 3, 1) ∧ 45 + 1 = 46 := ⟨by decide +kernel, rfl⟩
theorem d_RM_describe_46 : decode mm_RM_describe.2.1 46 = .ok (.iconst 0, 1) ∧ 46 + 1 = 47 := ⟨by decide +kernel, rfl⟩
theorem d_RM_describe_47 : decode mm_RM_describe.2.1 47 = .ok (.istore 4, 2) ∧ 47 + 2 = 49 := ⟨by decide +kernel, rfl⟩
theorem d_RM_describe_49 : decode mm_RM_describe.2.1 49 = .ok (.iload 4, 2) ∧ 49 + 2 = 51 := ⟨by decide +kernel, rfl⟩
theorem d_RM_describe_51 : decode mm_RM_describe.2.1 51 = .ok (.aload_n 0, 1) ∧ 51 + 1 = 52 := ⟨by decide +kernel, rfl⟩
theorem d_RM_describe_52 : decode mm_RM_describe.2.1 52 = .ok (.getfield 52, 3) ∧ 52 + 3 = 55 := ⟨by decide +kernel, rfl⟩
theorem d_RM_describe_55 : decode mm_RM_describe.2.1 55 = .ok (.iload_n 1, 1) ∧ 55 + 1 = 56 := ⟨by decide +kernel, rfl⟩
theorem d_RM_describe_56 : decode mm_RM_describe.2.1 56 = .ok (.iaload, 1) ∧ 56 + 1 = 57 := ⟨by decide +kernel, rfl⟩
theorem d_RM_describe_57 : decode mm_RM_describe.2.1 57 = .ok (.if_icmp .ge 41, 3) ∧ 57 + 3 = 60 ∧ ((57 : Nat) : Int) + (41) = ((98 : Nat) : Int) := ⟨by decide +kernel, rfl, by decide⟩
theorem d_RM_describe_60 : decode mm_RM_describe.2.1 60 = .ok (.iload_n 3, 1) ∧ 60 + 1 = 61 := ⟨by decide +kernel, rfl⟩
theorem d_RM_describe_61 : decode mm_RM_describe.2.1 61 = .ok (.ifCond .eq 37, 3) ∧ 61 + 3 = 64 ∧ ((61 : Nat) : Int) + (37) = ((98 : Nat) : Int) := ⟨by decide +kernel, rfl, by decide⟩
theorem d_RM_describe_64 : decode mm_RM_describe.2.1 64 = .ok (.aload_n 0, 1) ∧ 64 + 1 = 65 := ⟨by decide +kernel, rfl⟩
theorem d_RM_describe_65 : decode mm_RM_describe.2.1 65 = .ok (.getfield 67, 3) ∧ 65 + 3 = 68 := ⟨by decide +kernel, rfl⟩
theorem d_RM_describe_68 : decode mm_RM_describe.2.1 68 = .ok (.iload_n 2, 1) ∧ 68 + 1 = 69 := ⟨by decide +kernel, rfl⟩
theorem d_RM_describe_69 : decode mm_RM_describe.2.1 69 = .ok (.iconst 4, 1) ∧ 69 + 1 = 70 := ⟨by decide +kernel, rfl⟩
theorem d_RM_describe_70 : decode mm_RM_describe.2.1 70 = .ok (.imul, 1) ∧ 70 + 1 = 71 := ⟨by decide +kernel, rfl⟩
theorem d_RM_describe_71 : decode mm_RM_describe.2.1 71 = .ok (.iload 4, 2) ∧ 71 + 2 = 73 := ⟨by decide +kernel, rfl⟩
theorem d_RM_describe_73 : decode mm_RM_describe.2.1 73 = .ok (.iadd, 1) ∧ 73 + 1 = 74 := ⟨by decide +kernel, rfl⟩
theorem d_RM_describe_74 : decode mm_RM_describe.2.1 74 = .ok (.laload, 1) ∧ 74 + 1 = 75 := ⟨by decide +kernel, rfl⟩
theorem d_RM_describe_75 : decode mm_RM_describe.2.1 75 = .ok (.aload_n 0, 1) ∧ 75 + 1 = 76 := ⟨by decide +kernel, rfl⟩
theorem d_RM_describe_76 : decode mm_RM_describe.2.1 76 = .ok (.getfield 58, 3) ∧ 76 + 3 = 79 := ⟨by decide +kernel, rfl⟩
theorem d_RM_describe_79 : decode mm_RM_describe.2.1 79 = .ok (.iload_n 1, 1) ∧ 79 + 1 = 80 := ⟨by decide +kernel, rfl⟩
theorem d_RM_describe_80 : decode mm_RM_describe.2.1 80 = .ok (.iconst 4, 1) ∧ 80 + 1 = 81 := ⟨by decide +kernel, rfl⟩
theorem d_RM_describe_81 : decode mm_RM_describe.2.1 81 = .ok (.imul, 1) ∧ 81 + 1 = 82 := ⟨by decide +kernel, rfl⟩
theorem d_RM_describe_82 : decode mm_RM_describe.2.1 82 = .ok (.iload 4, 2) ∧ 82 + 2 = 84 := ⟨by decide +kernel, rfl⟩
theorem d_RM_describe_84 : decode mm_RM_describe.2.1 84 = .ok (.iadd, 1) ∧ 84 + 1 = 85 := ⟨by decide +kernel, rfl⟩
theorem d_RM_describe_85 : decode mm_RM_describe.2.1 85 = .ok (.laload, 1) ∧ 85 + 1 = 86 := ⟨by decide +kernel, rfl⟩
theorem d_RM_describe_86 : decode mm_RM_describe.2.1 86 = .ok (.lcmp, 1) ∧ 86 + 1 = 87 := ⟨by decide +kernel, rfl⟩
theorem d_RM_describe_87 : decode mm_RM_describe.2.1 87 = .ok (.ifCond .eq 5, 3) ∧ 87 + 3 = 90 ∧ ((87 : Nat) : Int) + (5) = ((92 : Nat) : Int) := ⟨by decide +kernel, rfl, by decide⟩
theorem d_RM_describe_90 : decode mm_RM_describe.2.1 90 = .ok (.iconst 0, 1) ∧ 90 + 1 = 91 := ⟨by decide +kernel, rfl⟩
theorem d_RM_describe_91 : decode mm_RM_describe.2.1 91 = .ok (.istore_n 3, 1) ∧ 91 + 1 = 92 := ⟨by decide +kernel, rfl⟩
theorem d_RM_describe_92 : decode mm_RM_describe.2.1 92 = .ok (.iinc 4 1, 3) ∧ 92 + 3 = 95 := ⟨by decide +kernel, rfl⟩
theorem d_RM_describe_95 : decode mm_RM_describe.2.1 95 = .ok (.goto (-46), 3) ∧ 95 + 3 = 98 ∧ ((95 : Nat) : Int) + (-46) = ((49 : Nat) : Int) := ⟨by decide +kernel, rfl, by decide⟩
theorem d_RM_describe_98 : decode mm_RM_describe.2.1 98 = .ok (.iload_n 3, 1) ∧ 98 + 1 = 99 := ⟨by decide +kernel, rfl⟩
theorem d_RM_describe_99 : decode mm_RM_describe.2.1 99 = .ok (.ifCond .eq 14, 3) ∧ 99 + 3 = 102 ∧ ((99 : Nat) : Int) + (14) = ((113 : Nat) : Int) := ⟨by decide +kernel, rfl, by decide⟩
theorem d_RM_describe_102 : decode mm_RM_describe.2.1 102 = .ok (.aload_n 0, 1) ∧ 102 + 1 = 103 := ⟨by decide +kernel, rfl⟩
theorem d_RM_describe_103 : decode mm_RM_describe.2.1 103 = .ok (.ldc2_w 158, 3) ∧ 103 + 3 = 106 := ⟨by decide +kernel, rfl⟩
theorem d_RM_describe_106 : decode mm_RM_describe.2.1 106 = .ok (.iload_n 2, 1) ∧ 106 + 1 = 107 := ⟨by decide +kernel, rfl⟩
theorem d_RM_describe_107 : decode mm_RM_describe.2.1 107 = .ok (.i2l, 1) ∧ 107 + 1 = 108 := ⟨by decide +kernel, rfl⟩
theorem d_RM_describe_108 : decode mm_RM_describe.2.1 108 = .ok (.ladd, 1) ∧ 108 + 1 = 109 := ⟨by decide +kernel, rfl⟩
theorem d_RM_describe_109 : decode mm_RM_describe.2.1 109 = .ok (.putfield 139, 3) ∧ 109 + 3 = 112 := ⟨by decide +kernel, rfl⟩
theorem d_RM_describe_112 : decode mm_RM_describe.2.1 112 = .ok (.return_, 1) := by decide +kernel
theorem d_RM_describe_113 : decode mm_RM_describe.2.1 113 = .ok (.iinc 2 1, 3) ∧ 113 + 3 = 116 := ⟨by decide +kernel, rfl⟩
theorem d_RM_describe_116 : decode mm_RM_describe.2.1 116 = .ok (.goto (-114), 3) ∧ 116 + 3 = 119 ∧ ((116 : Nat) : Int) + (-114) = ((2 : Nat) : Int) := ⟨by decide +kernel, rfl, by decide⟩
theorem d_RM_describe_119 : decode mm_RM_describe.2.1 119 = .ok (.aload_n 0, 1) ∧ 119 + 1 = 120 := ⟨by decide +kernel, rfl⟩
theorem d_RM_describe_120 : decode mm_RM_describe.2.1 120 = .ok (.getfield 155, 3) ∧ 120 + 3 = 123 := ⟨by decide +kernel, rfl⟩
theorem d_RM_describe_123 : decode mm_RM_describe.2.1 123 = .ok (.bipush 30, 2) ∧ 123 + 2 = 125 := ⟨by decide +kernel, rfl⟩
theorem d_RM_describe_125 : decode mm_RM_describe.2.1 125 = .ok (.if_icmp .ne 10, 3) ∧ 125 + 3 = 128 ∧ ((125 : Nat) : Int) + (10) = ((135 : Nat) : Int) := ⟨by decide +kernel, rfl, by decide⟩
theorem d_RM_describe_128 : decode mm_RM_describe.2.1 128 = .ok (.aload_n 0, 1) ∧ 128 + 1 = 129 := ⟨by decide +kernel, rfl⟩
theorem d_RM_describe_129 : decode mm_RM_describe.2.1 129 = .ok (.bipush (-9), 2) ∧ 129 + 2 = 131 := ⟨by decide +kernel, rfl⟩
theorem d_RM_describe_131 : decode mm_RM_describe.2.1 131 = .ok (.putfield 136, 3) ∧ 131 + 3 = 134 := ⟨by decide +kernel, rfl⟩
theorem d_RM_describe_134 : decode mm_RM_describe.2.1 134 = .ok (.return_, 1) := by decide +kernel
theorem d_RM_describe_135 : decode mm_RM_describe.2.1 135 = .ok (.aload_n 0, 1) ∧ 135 + 1 = 136 := ⟨by decide +kernel, rfl⟩
theorem d_RM_describe_136 : decode mm_RM_describe.2.1 136 = .ok (.dup, 1) ∧ 136 + 1 = 137 := ⟨by decide +kernel, rfl⟩
theorem d_RM_describe_137 : decode mm_RM_describe.2.1 137 = .ok (.getfield 155, 3) ∧ 137 + 3 = 140 := ⟨by decide +kernel, rfl⟩
theorem d_RM_describe_140 : decode mm_RM_describe.2.1 140 = .ok (.iconst 1, 1) ∧ 140 + 1 = 141 := ⟨by decide +kernel, rfl⟩
theorem d_RM_describe_141 : decode mm_RM_describe.2.1 141 = .ok (.iadd, 1) ∧ 141 + 1 = 142 := ⟨by decide +kernel, rfl⟩
theorem d_RM_describe_142 : decode mm_RM_describe.2.1 142 = .ok (.putfield 155, 3) ∧ 142 + 3 = 145 := ⟨by decide +kernel, rfl⟩
theorem d_RM_describe_145 : decode mm_RM_describe.2.1 145 = .ok (.aload_n 0, 1) ∧ 145 + 1 = 146 := ⟨by decide +kernel, rfl⟩
theorem d_RM_describe_146 : decode mm_RM_describe.2.1 146 = .ok (.getfield 61, 3) ∧ 146 + 3 = 149 := ⟨by decide +kernel, rfl⟩
theorem d_RM_describe_149 : decode mm_RM_describe.2.1 149 = .ok (.aload_n 0, 1) ∧ 149 + 1 = 150 := ⟨by decide +kernel, rfl⟩
theorem d_RM_describe_150 : decode mm_RM_describe.2.1 150 = .ok (.getfield 155, 3) ∧ 150 + 3 = 153 := ⟨by decide +kernel, rfl⟩
theorem d_RM_describe_153 : decode mm_RM_describe.2.1 153 = .ok (.aload_n 0, 1) ∧ 153 + 1 = 154 := ⟨by decide +kernel, rfl⟩
theorem d_RM_describe_154 : decode mm_RM_describe.2.1 154 = .ok (.getfield 55, 3) ∧ 154 + 3 = 157 := ⟨by decide +kernel, rfl⟩
theorem d_RM_describe_157 : decode mm_RM_describe.2.1 157 = .ok (.iload_n 1, 1) ∧ 157 + 1 = 158 := ⟨by decide +kernel, rfl⟩
theorem d_RM_describe_158 : decode mm_RM_describe.2.1 158 = .ok (.iaload, 1) ∧ 158 + 1 = 159 := ⟨by decide +kernel, rfl⟩
theorem d_RM_describe_159 : decode mm_RM_describe.2.1 159 = .ok (.iastore, 1) ∧ 159 + 1 = 160 := ⟨by decide +kernel, rfl⟩
theorem d_RM_describe_160 : decode mm_RM_describe.2.1 160 = .ok (.aload_n 0, 1) ∧ 160 + 1 = 161 := ⟨by decide +kernel, rfl⟩
theorem d_RM_describe_161 : decode mm_RM_describe.2.1 161 = .ok (.getfield 64, 3) ∧ 161 + 3 = 164 := ⟨by decide +kernel, rfl⟩
theorem d_RM_describe_164 : decode mm_RM_describe.2.1 164 = .ok (.aload_n 0, 1) ∧ 164 + 1 = 165 := ⟨by decide +kernel, rfl⟩
theorem d_RM_describe_165 : decode mm_RM_describe.2.1 165 = .ok (.getfield 155, 3) ∧ 165 + 3 = 168 := ⟨by decide +kernel, rfl⟩
theorem d_RM_describe_168 : decode mm_RM_describe.2.1 168 = .ok (.aload_n 0, 1) ∧ 168 + 1 = 169 := ⟨by decide +kernel, rfl⟩
theorem d_RM_describe_169 : decode mm_RM_describe.2.1 169 = .ok (.getfield 52, 3) ∧ 169 + 3 = 172 := ⟨by decide +kernel, rfl⟩
theorem d_RM_describe_172 : decode mm_RM_describe.2.1 172 = .ok (.iload_n 1, 1) ∧ 172 + 1 = 173 := ⟨by decide +kernel, rfl⟩
theorem d_RM_describe_173 : decode mm_RM_describe.2.1 173 = .ok (.iaload, 1) ∧ 173 + 1 = 174 := ⟨by decide +kernel, rfl⟩
theorem d_RM_describe_174 : decode mm_RM_describe.2.1 174 = .ok (.iastore, 1) ∧ 174 + 1 = 175 := ⟨by decide +kernel, rfl⟩
theorem d_RM_describe_175 : decode mm_RM_describe.2.1 175 = .ok (.iconst 0, 1) ∧ 175 + 1 = 176 := ⟨by decide +kernel, rfl⟩
theorem d_RM_describe_176 : decode mm_RM_describe.2.1 176 = .ok (.istore_n 2, 1) ∧ 176 + 1 = 177 := ⟨by decide +kernel, rfl⟩
theorem d_RM_describe_177 : decode mm_RM_describe.2.1 177 = .ok (.iload_n 2, 1) ∧ 177 + 1 = 178 := ⟨by decide +kernel, rfl⟩
theorem d_RM_describe_178 : decode mm_RM_describe.2.1 178 = .ok (.aload_n 0, 1) ∧ 178 + 1 = 179 := ⟨by decide +kernel, rfl⟩
theorem d_RM_describe_179 : decode mm_RM_describe.2.1 179 = .ok (.getfield 52, 3) ∧ 179 + 3 = 182 := ⟨by decide +kernel, rfl⟩
theorem d_RM_describe_182 : decode mm_RM_describe.2.1 182 = .ok (.iload_n 1, 1) ∧ 182 + 1 = 183 := ⟨by decide +kernel, rfl⟩
theorem d_RM_describe_183 : decode mm_RM_describe.2.1 183 = .ok (.iaload, 1) ∧ 183 + 1 = 184 := ⟨by decide +kernel, rfl⟩
theorem d_RM_describe_184 : decode mm_RM_describe.2.1 184 = .ok (.if_icmp .ge 32, 3) ∧ 184 + 3 = 187 ∧ ((184 : Nat) : Int) + (32) = ((216 : Nat) : Int) := ⟨by decide +kernel, rfl, by decide⟩
theorem d_RM_describe_187 : decode mm_RM_describe.2.1 187 = .ok (.aload_n 0, 1) ∧ 187 + 1 = 188 := ⟨by decide +kernel, rfl⟩
theorem d_RM_describe_188 : decode mm_RM_describe.2.1 188 = .ok (.getfield 67, 3) ∧ 188 + 3 = 191 := ⟨by decide +kernel, rfl⟩
theorem d_RM_describe_191 : decode mm_RM_describe.2.1 191 = .ok (.aload_n 0, 1) ∧ 191 + 1 = 192 := ⟨by decide +kernel, rfl⟩
theorem d_RM_describe_192 : decode mm_RM_describe.2.1 192 = .ok (.getfield 155, 3) ∧ 192 + 3 = 195 := ⟨by decide +kernel, rfl⟩
theorem d_RM_describe_195 : decode mm_RM_describe.2.1 195 = .ok (.iconst 4, 1) ∧ 195 + 1 = 196 := ⟨by decide +kernel, rfl⟩
theorem d_RM_describe_196 : decode mm_RM_describe.2.1 196 = .ok (.imul, 1) ∧ 196 + 1 = 197 := ⟨by decide +kernel, rfl⟩
theorem d_RM_describe_197 : decode mm_RM_describe.2.1 197 = .ok (.iload_n 2, 1) ∧ 197 + 1 = 198 := ⟨by decide +kernel, rfl⟩
theorem d_RM_describe_198 : decode mm_RM_describe.2.1 198 = .ok (.iadd, 1) ∧ 198 + 1 = 199 := ⟨by decide +kernel, rfl⟩
theorem d_RM_describe_199 : decode mm_RM_describe.2.1 199 = .ok (.aload_n 0, 1) ∧ 199 + 1 = 200 := ⟨by decide +kernel, rfl⟩
theorem d_RM_describe_200 : decode mm_RM_describe.2.1 200 = .ok (.getfield 58, 3) ∧ 200 + 3 = 203 := ⟨by decide +kernel, rfl⟩
theorem d_RM_describe_203 : decode mm_RM_describe.2.1 203 = .ok (.iload_n 1, 1) ∧ 203 + 1 = 204 := ⟨by decide +kernel, rfl⟩
theorem d_RM_describe_204 : decode mm_RM_describe.2.1 204 = .ok (.iconst 4, 1) ∧ 204 + 1 = 205 := ⟨by decide +kernel, rfl⟩
theorem d_RM_describe_205 : decode mm_RM_describe.2.1 205 = .ok (.imul, 1) ∧ 205 + 1 = 206 := ⟨by decide +kernel, rfl⟩
theorem d_RM_describe_206 : decode mm_RM_describe.2.1 206 = .ok (.iload_n 2, 1) ∧ 206 + 1 = 207 := ⟨by decide +kernel, rfl⟩
theorem d_RM_describe_207 : decode mm_RM_describe.2.1 207 = .ok (.iadd, 1) ∧ 207 + 1 = 208 := ⟨by decide +kernel, rfl⟩
theorem d_RM_describe_208 : decode mm_RM_describe.2.1 208 = .ok (.laload, 1) ∧ 208 + 1 = 209 := ⟨by decide +kernel, rfl⟩
theorem d_RM_describe_209 : decode mm_RM_describe.2.1 209 = .ok (.lastore, 1) ∧ 209 + 1 = 210 := ⟨by decide +kernel, rfl⟩
theorem d_RM_describe_210 : decode mm_RM_describe.2.1 210 = .ok (.iinc 2 1, 3) ∧ 210 + 3 = 213 := ⟨by decide +kernel, rfl⟩
theorem d_RM_describe_213 : decode mm_RM_describe.2.1 213 = .ok (.goto (-36), 3) ∧ 213 + 3 = 216 ∧ ((213 : Nat) : Int) + (-36) = ((177 : Nat) : Int) := ⟨by decide +kernel, rfl, by decide⟩
theorem d_RM_describe_216 : decode mm_RM_describe.2.1 216 = .ok (.aload_n 0, 1) ∧ 216 + 1 = 217 := ⟨by decide +kernel, rfl⟩
theorem d_RM_describe_217 : decode mm_RM_describe.2.1 217 = .ok (.ldc2_w 158, 3) ∧ 217 + 3 = 220 := ⟨by decide +kernel, rfl⟩
theorem d_RM_describe_220 : decode mm_RM_describe.2.1 220 = .ok (.aload_n 0, 1) ∧ 220 + 1 = 221 := ⟨by decide +kernel, rfl⟩
theorem d_RM_describe_221 : decode mm_RM_describe.2.1 221 = .ok (.getfield 155, 3) ∧ 221 + 3 = 224 := ⟨by decide +kernel, rfl⟩
theorem d_RM_describe_224 : decode mm_RM_describe.2.1 224 = .ok (.i2l, 1) ∧ 224 + 1 = 225 := ⟨by decide +kernel, rfl⟩
theorem d_RM_describe_225 : decode mm_RM_describe.2.1 225 = .ok (.ladd, 1) ∧ 225 + 1 = 226 := ⟨by decide +kernel, rfl⟩
theorem d_RM_describe_226 : decode mm_RM_describe.2.1 226 = .ok (.putfield 139, 3) ∧ 226 + 3 = 229 := ⟨by decide +kernel, rfl⟩
theorem d_RM_describe_229 : decode mm_RM_describe.2.1 229 = .ok (.return_, 1) := by decide +kernel
theorem d_RM_order_0 : decode mm_RM_order.2.1 0 = .ok (.aload_n 0, 1) ∧ 0 + 1 = 1 := ⟨by decide +kernel, rfl⟩
theorem d_RM_order_1 : decode mm_RM_order.2.1 1 = .ok (.getfield 58, 3) ∧ 1 + 3 = 4 := ⟨by decide +kernel, rfl⟩
theorem d_RM_order_4 : decode mm_RM_order.2.1 4 = .ok (.iload_n 1, 1) ∧ 4 + 1 = 5 := ⟨by decide +kernel, rfl⟩
theorem d_RM_order_5 : decode mm_RM_order.2.1 5 = .ok (.iconst 4, 1) ∧ 5 + 1 = 6 := ⟨by decide +kernel, rfl⟩
theorem d_RM_order_6 : decode mm_RM_order.2.1 6 = .ok (.imul, 1) ∧ 6 + 1 = 7 := ⟨by decide +kernel, rfl⟩
theorem d_RM_order_7 : decode mm_RM_order.2.1 7 = .ok (.laload, 1) ∧ 7 + 1 = 8 := ⟨by decide +kernel, rfl⟩
theorem d_RM_order_8 : decode mm_RM_order.2.1 8 = .ok (.lstore_n 2, 1) ∧ 8 + 1 = 9 := ⟨by decide +kernel, rfl⟩
theorem d_RM_order_9 : decode mm_RM_order.2.1 9 = .ok (.aload_n 0, 1) ∧ 9 + 1 = 10 := ⟨by decide +kernel, rfl⟩
theorem d_RM_order_10 : decode mm_RM_order.2.1 10 = .ok (.lload_n 2, 1) ∧ 10 + 1 = 11 := ⟨by decide +kernel, rfl⟩
theorem d_RM_order_11 : decode mm_RM_order.2.1 11 = .ok (.invokevirtual 151, 3) ∧ 11 + 3 = 14 := ⟨by decide +kernel, rfl⟩
theorem d_RM_order_14 : decode mm_RM_order.2.1 14 = .ok (.ifCond .eq 12, 3) ∧ 14 + 3 = 17 ∧ ((14 : Nat) : Int) + (12) = ((26 : Nat) : Int) := ⟨by decide +kernel, rfl, by decide⟩
theorem d_RM_order_17 : decode mm_RM_order.2.1 17 = .ok (.aload_n 0, 1) ∧ 17 + 1 = 18 := ⟨by decide +kernel, rfl⟩
theorem d_RM_order_18 : decode mm_RM_order.2.1 18 = .ok (.bipush (-5), 2) ∧ 18 + 2 = 20 := ⟨by decide +kernel, rfl⟩
theorem d_RM_order_20 : decode mm_RM_order.2.1 20 = .ok (.putfield 136, 3) ∧ 20 + 3 = 23 := ⟨by decide +kernel, rfl⟩
theorem d_RM_order_23 : decode mm_RM_order.2.1 23 = .ok (.goto 41, 3) ∧ 23 + 3 = 26 ∧ ((23 : Nat) : Int) + (41) = ((64 : Nat) : Int) := ⟨by decide +kernel, rfl, by decide⟩
theorem d_RM_order_26 : decode mm_RM_order.2.1 26 = .ok (.aload_n 0, 1) ∧ 26 + 1 = 27 := ⟨by decide +kernel, rfl⟩
theorem d_RM_order_27 : decode mm_RM_order.2.1 27 = .ok (.lload_n 2, 1) ∧ 27 + 1 = 28 := ⟨by decide +kernel, rfl⟩
theorem d_RM_order_28 : decode mm_RM_order.2.1 28 = .ok (.ldc2_w 158, 3) ∧ 28 + 3 = 31 := ⟨by decide +kernel, rfl⟩
theorem d_RM_order_31 : decode mm_RM_order.2.1 31 = .ok (.lsub, 1) ∧ 31 + 1 = 32 := ⟨by decide +kernel, rfl⟩
theorem d_RM_order_32 : decode mm_RM_order.2.1 32 = .ok (.l2i, 1) ∧ 32 + 1 = 33 := ⟨by decide +kernel, rfl⟩
theorem d_RM_order_33 : decode mm_RM_order.2.1 33 = .ok (.invokevirtual 160, 3) ∧ 33 + 3 = 36 := ⟨by decide +kernel, rfl⟩
theorem d_RM_order_36 : decode mm_RM_order.2.1 36 = .ok (.ifCond .ne 12, 3) ∧ 36 + 3 = 39 ∧ ((36 : Nat) : Int) + (12) = ((48 : Nat) : Int) := ⟨by decide +kernel, rfl, by decide⟩
theorem d_RM_order_39 : decode mm_RM_order.2.1 39 = .ok (.aload_n 0, 1) ∧ 39 + 1 = 40 := ⟨by decide +kernel, rfl⟩
theorem d_RM_order_40 : decode mm_RM_order.2.1 40 = .ok (.bipush (-7), 2) ∧ 40 + 2 = 42 := ⟨by decide +kernel, rfl⟩
theorem d_RM_order_42 : decode mm_RM_order.2.1 42 = .ok (.putfield 136, 3) ∧ 42 + 3 = 45 := ⟨by decide +kernel, rfl⟩
theorem d_RM_order_45 : decode mm_RM_order.2.1 45 = .ok (.goto 19, 3) ∧ 45 + 3 = 48 ∧ ((45 : Nat) : Int) + (19) = ((64 : Nat) : Int) := ⟨by decide +kernel, rfl, by decide⟩
theorem d_RM_order_48 : decode mm_RM_order.2.1 48 = .ok (.aload_n 0, 1) ∧ 48 + 1 = 49 := ⟨by decide +kernel, rfl⟩
theorem d_RM_order_49 : decode mm_RM_order.2.1 49 = .ok (.aload_n 0, 1) ∧ 49 + 1 = 50 := ⟨by decide +kernel, rfl⟩
theorem d_RM_order_50 : decode mm_RM_order.2.1 50 = .ok (.getfield 73, 3) ∧ 50 + 3 = 53 := ⟨by decide +kernel, rfl⟩
theorem d_RM_order_53 : decode mm_RM_order.2.1 53 = .ok (.lload_n 2, 1) ∧ 53 + 1 = 54 := ⟨by decide +kernel, rfl⟩
theorem d_RM_order_54 : decode mm_RM_order.2.1 54 = .ok (.ldc2_w 158, 3) ∧ 54 + 3 = 57 := ⟨by decide +kernel, rfl⟩
theorem d_RM_order_57 : decode mm_RM_order.2.1 57 = .ok (.lsub, 1) ∧ 57 + 1 = 58 := ⟨by decide +kernel, rfl⟩
theorem d_RM_order_58 : decode mm_RM_order.2.1 58 = .ok (.l2i, 1) ∧ 58 + 1 = 59 := ⟨by decide +kernel, rfl⟩
theorem d_RM_order_59 : decode mm_RM_order.2.1 59 = .ok (.iaload, 1) ∧ 59 + 1 = 60 := ⟨by decide +kernel, rfl⟩
theorem d_RM_order_60 : decode mm_RM_order.2.1 60 = .ok (.i2l, 1) ∧ 60 + 1 = 61 := ⟨by decide +kernel, rfl⟩
theorem d_RM_order_61 : decode mm_RM_order.2.1 61 = .ok (.putfield 139, 3) ∧ 61 + 3 = 64 := ⟨by decide +kernel, rfl⟩
theorem d_RM_order_64 : decode mm_RM_order.2.1 64 = .ok (.return_, 1) := by decide +kernel
theorem d_RM_proceed_0 : decode mm_RM_proceed.2.1 0 = .ok (.aload_n 0, 1) ∧ 0 + 1 = 1 := ⟨by decide +kernel, rfl⟩
theorem d_RM_proceed_1 : decode mm_RM_proceed.2.1 1 = .ok (.getfield 146, 3) ∧ 1 + 3 = 4 := ⟨by decide +kernel, rfl⟩
theorem d_RM_proceed_4 : decode mm_RM_proceed.2.1 4 = .ok (.iconst 1, 1) ∧ 4 + 1 = 5 := ⟨by decide +kernel, rfl⟩
theorem d_RM_proceed_5 : decode mm_RM_proceed.2.1 5 = .ok (.isub, 1) ∧ 5 + 1 = 6 := ⟨by decide +kernel, rfl⟩
theorem d_RM_proceed_6 : decode mm_RM_proceed.2.1 6 = .ok (.istore_n 1, 1) ∧ 6 + 1 = 7 := ⟨by decide +kernel, rfl⟩
theorem d_RM_proceed_7 : decode mm_RM_proceed.2.1 7 = .ok (.aload_n 0, 1) ∧ 7 + 1 = 8 := ⟨by decide +kernel, rfl⟩
theorem d_RM_proceed_8 : decode mm_RM_proceed.2.1 8 = .ok (.getfield 43, 3) ∧ 8 + 3 = 11 := ⟨by decide +kernel, rfl⟩
theorem d_RM_proceed_11 : decode mm_RM_proceed.2.1 11 = .ok (.iload_n 1, 1) ∧ 11 + 1 = 12 := ⟨by decide +kernel, rfl⟩
theorem d_RM_proceed_12 : decode mm_RM_proceed.2.1 12 = .ok (.iaload, 1) ∧ 12 + 1 = 13 := ⟨by decide +kernel, rfl⟩
theorem d_RM_proceed_13 : decode mm_RM_proceed.2.1 13 = .ok (.istore_n 2, 1) ∧ 13 + 1 = 14 := ⟨by decide +kernel, rfl⟩
theorem d_RM_proceed_14 : decode mm_RM_proceed.2.1 14 = .ok (.aload_n 0, 1) ∧ 14 + 1 = 15 := ⟨by decide +kernel, rfl⟩
theorem d_RM_proceed_15 : decode mm_RM_proceed.2.1 15 = .ok (.getfield 46, 3) ∧ 15 + 3 = 18 := ⟨by decide +kernel, rfl⟩
theorem d_RM_proceed_18 : decode mm_RM_proceed.2.1 18 = .ok (.iload_n 1, 1) ∧ 18 + 1 = 19 := ⟨by decide +kernel, rfl⟩
theorem d_RM_proceed_19 : decode mm_RM_proceed.2.1 19 = .ok (.iaload, 1) ∧ 19 + 1 = 20 := ⟨by decide +kernel, rfl⟩
theorem d_RM_proceed_20 : decode mm_RM_proceed.2.1 20 = .ok (.istore_n 3, 1) ∧ 20 + 1 = 21 := ⟨by decide +kernel, rfl⟩
theorem d_RM_proceed_21 : decode mm_RM_proceed.2.1 21 = .ok (.aload_n 0, 1) ∧ 21 + 1 = 22 := ⟨by decide +kernel, rfl⟩
theorem d_RM_proceed_22 : decode mm_RM_proceed.2.1 22 = .ok (.iload_n 2, 1) ∧ 22 + 1 = 23 := ⟨by decide +kernel, rfl⟩
theorem d_RM_proceed_23 : decode mm_RM_proceed.2.1 23 = .ok (.invokevirtual 95, 3) ∧ 23 + 3 = 26 := ⟨by decide +kernel, rfl⟩
theorem d_RM_proceed_26 : decode mm_RM_proceed.2.1 26 = .ok (.ifCond .eq 20, 3) ∧ 26 + 3 = 29 ∧ ((26 : Nat) : Int) + (20) = ((46 : Nat) : Int) := ⟨by decide +kernel, rfl, by decide⟩
theorem d_RM_proceed_29 : decode mm_RM_proceed.2.1 29 = .ok (.aload_n 0, 1) ∧ 29 + 1 = 30 := ⟨by decide +kernel, rfl⟩
theorem d_RM_proceed_30 : decode mm_RM_proceed.2.1 30 = .ok (.getfield 52, 3) ∧ 30 + 3 = 33 := ⟨by decide +kernel, rfl⟩
theorem d_RM_proceed_33 : decode mm_RM_proceed.2.1 33 = .ok (.iload_n 1, 1) ∧ 33 + 1 = 34 := ⟨by decide +kernel, rfl⟩
theorem d_RM_proceed_34 : decode mm_RM_proceed.2.1 34 = .ok (.iaload, 1) ∧ 34 + 1 = 35 := ⟨by decide +kernel, rfl⟩
theorem d_RM_proceed_35 : decode mm_RM_proceed.2.1 35 = .ok (.ifCond .ne 7, 3) ∧ 35 + 3 = 38 ∧ ((35 : Nat) : Int) + (7) = ((42 : Nat) : Int) := ⟨by decide +kernel, rfl, by decide⟩
theorem d_RM_proceed_38 : decode mm_RM_proceed.2.1 38 = .ok (.iconst 1, 1) ∧ 38 + 1 = 39 := ⟨by decide +kernel, rfl⟩
theorem d_RM_proceed_39 : decode mm_RM_proceed.2.1 39 = .ok (.goto 90, 3) ∧ 39 + 3 = 42 ∧ ((39 : Nat) : Int) + (90) = ((129 : Nat) : Int) := ⟨by decide +kernel, rfl, by decide⟩
theorem d_RM_proceed_42 : decode mm_RM_proceed.2.1 42 = .ok (.iconst 0, 1) ∧ 42 + 1 = 43 := ⟨by decide +kernel, rfl⟩
theorem d_RM_proceed_43 : decode mm_RM_proceed.2.1 43 = .ok (.goto 86, 3) ∧ 43 + 3 = 46 ∧ ((43 : Nat) : Int) + (86) = ((129 : Nat) : Int) := ⟨by decide +kernel, rfl, by decide⟩
theorem d_RM_proceed_46 : decode mm_RM_proceed.2.1 46 = .ok (.iload_n 2, 1) ∧ 46 + 1 = 47 := ⟨by decide +kernel, rfl⟩
theorem d_RM_proceed_47 : decode mm_RM_proceed.2.1 47 = .ok (.bipush 68, 2) ∧ 47 + 2 = 49 := ⟨by decide +kernel, rfl⟩
theorem d_RM_proceed_49 : decode mm_RM_proceed.2.1 49 = .ok (.if_icmp .ne 32, 3) ∧ 49 + 3 = 52 ∧ ((49 : Nat) : Int) + (32) = ((81 : Nat) : Int) := ⟨by decide +kernel, rfl, by decide⟩
theorem d_RM_proceed_52 : decode mm_RM_proceed.2.1 52 = .ok (.aload_n 0, 1) ∧ 52 + 1 = 53 := ⟨by decide +kernel, rfl⟩
theorem d_RM_proceed_53 : decode mm_RM_proceed.2.1 53 = .ok (.getfield 7, 3) ∧ 53 + 3 = 56 := ⟨by decide +kernel, rfl⟩
theorem d_RM_proceed_56 : decode mm_RM_proceed.2.1 56 = .ok (.iload_n 3, 1) ∧ 56 + 1 = 57 := ⟨by decide +kernel, rfl⟩
theorem d_RM_proceed_57 : decode mm_RM_proceed.2.1 57 = .ok (.bipush 24, 2) ∧ 57 + 2 = 59 := ⟨by decide +kernel, rfl⟩
theorem d_RM_proceed_59 : decode mm_RM_proceed.2.1 59 = .ok (.imul, 1) ∧ 59 + 1 = 60 := ⟨by decide +kernel, rfl⟩
theorem d_RM_proceed_60 : decode mm_RM_proceed.2.1 60 = .ok (.aload_n 0, 1) ∧ 60 + 1 = 61 := ⟨by decide +kernel, rfl⟩
theorem d_RM_proceed_61 : decode mm_RM_proceed.2.1 61 = .ok (.getfield 49, 3) ∧ 61 + 3 = 64 := ⟨by decide +kernel, rfl⟩
theorem d_RM_proceed_64 : decode mm_RM_proceed.2.1 64 = .ok (.iload_n 1, 1) ∧ 64 + 1 = 65 := ⟨by decide +kernel, rfl⟩
theorem d_RM_proceed_65 : decode mm_RM_proceed.2.1 65 = .ok (.iaload, 1) ∧ 65 + 1 = 66 := ⟨by decide +kernel, rfl⟩
theorem d_RM_proceed_66 : decode mm_RM_proceed.2.1 66 = .ok (.iadd, 1) ∧ 66 + 1 = 67 := ⟨by decide +kernel, rfl⟩
theorem d_RM_proceed_67 : decode mm_RM_proceed.2.1 67 = .ok (.iaload, 1) ∧ 67 + 1 = 68 := ⟨by decide +kernel, rfl⟩
theorem d_RM_proceed_68 : decode mm_RM_proceed.2.1 68 = .ok (.bipush 41, 2) ∧ 68 + 2 = 70 := ⟨by decide +kernel, rfl⟩
theorem d_RM_proceed_70 : decode mm_RM_proceed.2.1 70 = .ok (.if_icmp .eq 7, 3) ∧ 70 + 3 = 73 ∧ ((70 : Nat) : Int) + (7) = ((77 : Nat) : Int) := ⟨by decide +kernel, rfl, by decide⟩
theorem d_RM_proceed_73 : decode mm_RM_proceed.2.1 73 = .ok (.iconst 1, 1) ∧ 73 + 1 = 74 := ⟨by decide +kernel, rfl⟩
theorem d_RM_proceed_74 : decode mm_RM_proceed.2.1 74 = .ok (.goto 55, 3) ∧ 74 + 3 = 77 ∧ ((74 : Nat) : Int) + (55) = ((129 : Nat) : Int) := ⟨by decide +kernel, rfl, by decide⟩
theorem d_RM_proceed_77 : decode mm_RM_proceed.2.1 77 = .ok (.iconst 0, 1) ∧ 77 + 1 = 78 := ⟨by decide +kernel, rfl⟩
theorem d_RM_proceed_78 : decode mm_RM_proceed.2.1 78 = .ok (.goto 51, 3) ∧ 78 + 3 = 81 ∧ ((78 : Nat) : Int) + (51) = ((129 : Nat) : Int) := ⟨by decide +kernel, rfl, by decide⟩
theorem d_RM_proceed_81 : decode mm_RM_proceed.2.1 81 = .ok (.iload_n 2, 1) ∧ 81 + 1 = 82 := ⟨by decide +kernel, rfl⟩
theorem d_RM_proceed_82 : decode mm_RM_proceed.2.1 82 = .ok (.bipush 63, 2) ∧ 82 + 2 = 84 := ⟨by decide +kernel, rfl⟩
theorem d_RM_proceed_84 : decode mm_RM_proceed.2.1 84 = .ok (.if_icmp .eq 9, 3) ∧ 84 + 3 = 87 ∧ ((84 : Nat) : Int) + (9) = ((93 : Nat) : Int) := ⟨by decide +kernel, rfl, by decide⟩
theorem d_RM_proceed_87 : decode mm_RM_proceed.2.1 87 = .ok (.iload_n 2, 1) ∧ 87 + 1 = 88 := ⟨by decide +kernel, rfl⟩
theorem d_RM_proceed_88 : decode mm_RM_proceed.2.1 88 = .ok (.bipush 84, 2) ∧ 88 + 2 = 90 := ⟨by decide +kernel, rfl⟩
theorem d_RM_proceed_90 : decode mm_RM_proceed.2.1 90 = .ok (.if_icmp .ne 20, 3) ∧ 90 + 3 = 93 ∧ ((90 : Nat) : Int) + (20) = ((110 : Nat) : Int) := ⟨by decide +kernel, rfl, by decide⟩
theorem d_RM_proceed_93 : decode mm_RM_proceed.2.1 93 = .ok (.aload_n 0, 1) ∧ 93 + 1 = 94 := ⟨by decide +kernel, rfl⟩
theorem d_RM_proceed_94 : decode mm_RM_proceed.2.1 94 = .ok (.getfield 52, 3) ∧ 94 + 3 = 97 := ⟨by decide +kernel, rfl⟩
theorem d_RM_proceed_97 : decode mm_RM_proceed.2.1 97 = .ok (.iload_n 1, 1) ∧ 97 + 1 = 98 := ⟨by decide +kernel, rfl⟩
theorem d_RM_proceed_98 : decode mm_RM_proceed.2.1 98 = .ok (.iaload, 1) ∧ 98 + 1 = 99 := ⟨by decide +kernel, rfl⟩
theorem d_RM_proceed_99 : decode mm_RM_proceed.2.1 99 = .ok (.ifCond .ne 7, 3) ∧ 99 + 3 = 102 ∧ ((99 : Nat) : Int) + (7) = ((106 : Nat) : Int) := ⟨by decide +kernel, rfl, by decide⟩
theorem d_RM_proceed_102 : decode mm_RM_proceed.2.1 102 = .ok (.iconst 1, 1) ∧ 102 + 1 = 103 := ⟨by decide +kernel, rfl⟩
theorem d_RM_proceed_103 : decode mm_RM_proceed.2.1 103 = .ok (.goto 26, 3) ∧ 103 + 3 = 106 ∧ ((103 : Nat) : Int) + (26) = ((129 : Nat) : Int) := ⟨by decide +kernel, rfl, by decide⟩
theorem d_RM_proceed_106 : decode mm_RM_proceed.2.1 106 = .ok (.iconst 0, 1) ∧ 106 + 1 = 107 := ⟨by decide +kernel, rfl⟩
theorem d_RM_proceed_107 : decode mm_RM_proceed.2.1 107 = .ok (.goto 22, 3) ∧ 107 + 3 = 110 ∧ ((107 : Nat) : Int) + (22) = ((129 : Nat) : Int) := ⟨by decide +kernel, rfl, by decide⟩
theorem d_RM_proceed_110 : decode mm_RM_proceed.2.1 110 = .ok (.aload_n 0, 1) ∧ 110 + 1 = 111 := ⟨by decide +kernel, rfl⟩
theorem d_RM_proceed_111 : decode mm_RM_proceed.2.1 111 = .ok (.getfield 52, 3) ∧ 111 + 3 = 114 := ⟨by decide +kernel, rfl⟩
theorem d_RM_proceed_114 : decode mm_RM_proceed.2.1 114 = .ok (.iload_n 1, 1) ∧ 114 + 1 = 115 := ⟨by decide +kernel, rfl⟩
theorem d_RM_proceed_115 : decode mm_RM_proceed.2.1 115 = .ok (.iaload, 1) ∧ 115 + 1 = 116 := ⟨by decide +kernel, rfl⟩
theorem d_RM_proceed_116 : decode mm_RM_proceed.2.1 116 = .ok (.aload_n 0, 1) ∧ 116 + 1 = 117 := ⟨by decide +kernel, rfl⟩
theorem d_RM_proceed_117 : decode mm_RM_proceed.2.1 117 = .ok (.iload_n 2, 1) ∧ 117 + 1 = 118 := ⟨by decide +kernel, rfl⟩
theorem d_RM_proceed_118 : decode mm_RM_proceed.2.1 118 = .ok (.invokevirtual 98, 3) ∧ 118 + 3 = 121 := ⟨by decide +kernel, rfl⟩
theorem d_RM_proceed_121 : decode mm_RM_proceed.2.1 121 = .ok (.if_icmp .ge 7, 3) ∧ 121 + 3 = 124 ∧ ((121 : Nat) : Int) + (7) = ((128 : Nat) : Int) := ⟨by decide +kernel, rfl, by decide⟩
theorem d_RM_proceed_124 : decode mm_RM_proceed.2.1 124 = .ok (.iconst 1, 1) ∧ 124 + 1 = 125 := ⟨by decide +kernel, rfl⟩
theorem d_RM_proceed_125 : decode mm_RM_proceed.2.1 125 = .ok (.goto 4, 3) ∧ 125 + 3 = 128 ∧ ((125 : Nat) : Int) + (4) = ((129 : Nat) : Int) := ⟨by decide +kernel, rfl, by decide⟩
theorem d_RM_proceed_128 : decode mm_RM_proceed.2.1 128 = .ok (.iconst 0, 1) ∧ 128 + 1 = 129 := ⟨by decide +kernel, rfl⟩
theorem d_RM_proceed_129 : decode mm_RM_proceed.2.1 129 = .ok (.istore 4, 2) ∧ 129 + 2 = 131 := ⟨by decide +kernel, rfl⟩
theorem d_RM_proceed_131 : decode mm_RM_proceed.2.1 131 = .ok (.iload 4, 2) ∧ 131 + 2 = 133 := ⟨by decide +kernel, rfl⟩
theorem d_RM_proceed_133 : decode mm_RM_proceed.2.1 133 = .ok (.ifCond .eq 75, 3) ∧ 133 + 3 = 136 ∧ ((133 : Nat) : Int) + (75) = ((208 : Nat) : Int) := ⟨by decide +kernel, rfl, by decide⟩
theorem d_RM_proceed_136 : decode mm_RM_proceed.2.1 136 = .ok (.aload_n 0, 1) ∧ 136 + 1 = 137 := ⟨by decide +kernel, rfl⟩
theorem d_RM_proceed_137 : decode mm_RM_proceed.2.1 137 = .ok (.iload_n 2, 1) ∧ 137 + 1 = 138 := ⟨by decide +kernel, rfl⟩
theorem d_RM_proceed_138 : decode mm_RM_proceed.2.1 138 = .ok (.invokevirtual 95, 3) ∧ 138 + 3 = 141 := ⟨by decide +kernel, rfl⟩
theorem d_RM_proceed_141 : decode mm_RM_proceed.2.1 141 = .ok (.ifCond .eq 7, 3) ∧ 141 + 3 = 144 ∧ ((141 : Nat) : Int) + (7) = ((148 : Nat) : Int) := ⟨by decide +kernel, rfl, by decide⟩
theorem d_RM_proceed_144 : decode mm_RM_proceed.2.1 144 = .ok (.iconst 0, 1) ∧ 144 + 1 = 145 := ⟨by decide +kernel, rfl⟩
theorem d_RM_proceed_145 : decode mm_RM_proceed.2.1 145 = .ok (.goto 9, 3) ∧ 145 + 3 = 148 ∧ ((145 : Nat) : Int) + (9) = ((154 : Nat) : Int) := ⟨by decide +kernel, rfl, by decide⟩
theorem d_RM_proceed_148 : decode mm_RM_proceed.2.1 148 = .ok (.aload_n 0, 1) ∧ 148 + 1 = 149 := ⟨by decide +kernel, rfl⟩
theorem d_RM_proceed_149 : decode mm_RM_proceed.2.1 149 = .ok (.getfield 49, 3) ∧ 149 + 3 = 152 := ⟨by decide +kernel, rfl⟩
theorem d_RM_proceed_152 : decode mm_RM_proceed.2.1 152 = .ok (.iload_n 1, 1) ∧ 152 + 1 = 153 := ⟨by decide +kernel, rfl⟩
theorem d_RM_proceed_153 : decode mm_RM_proceed.2.1 153 = .ok (.iaload, 1) ∧ 153 + 1 = 154 := ⟨by decide +kernel, rfl⟩
theorem d_RM_proceed_154 : decode mm_RM_proceed.2.1 154 = .ok (.istore 5, 2) ∧ 154 + 2 = 156 := ⟨by decide +kernel, rfl⟩
theorem d_RM_proceed_156 : decode mm_RM_proceed.2.1 156 = .ok (.aload_n 0, 1) ∧ 156 + 1 = 157 := ⟨by decide +kernel, rfl⟩
theorem d_RM_proceed_157 : decode mm_RM_proceed.2.1 157 = .ok (.iload_n 2, 1) ∧ 157 + 1 = 158 := ⟨by decide +kernel, rfl⟩
theorem d_RM_proceed_158 : decode mm_RM_proceed.2.1 158 = .ok (.invokevirtual 95, 3) ∧ 158 + 3 = 161 := ⟨by decide +kernel, rfl⟩
theorem d_RM_proceed_161 : decode mm_RM_proceed.2.1 161 = .ok (.ifCond .eq 10, 3) ∧ 161 + 3 = 164 ∧ ((161 : Nat) : Int) + (10) = ((171 : Nat) : Int) := ⟨by decide +kernel, rfl, by decide⟩
theorem d_RM_proceed_164 : decode mm_RM_proceed.2.1 164 = .ok (.iload_n 2, 1) ∧ 164 + 1 = 165 := ⟨by decide +kernel, rfl⟩
theorem d_RM_proceed_165 : decode mm_RM_proceed.2.1 165 = .ok (.bipush 97, 2) ∧ 165 + 2 = 167 := ⟨by decide +kernel, rfl⟩
theorem d_RM_proceed_167 : decode mm_RM_proceed.2.1 167 = .ok (.isub, 1) ∧ 167 + 1 = 168 := ⟨by decide +kernel, rfl⟩
theorem d_RM_proceed_168 : decode mm_RM_proceed.2.1 168 = .ok (.goto 4, 3) ∧ 168 + 3 = 171 ∧ ((168 : Nat) : Int) + (4) = ((172 : Nat) : Int) := ⟨by decide +kernel, rfl, by decide⟩
theorem d_RM_proceed_171 : decode mm_RM_proceed.2.1 171 = .ok (.iload_n 3, 1) ∧ 171 + 1 = 172 := ⟨by decide +kernel, rfl⟩
theorem d_RM_proceed_172 : decode mm_RM_proceed.2.1 172 = .ok (.istore 6, 2) ∧ 172 + 2 = 174 := ⟨by decide +kernel, rfl⟩
theorem d_RM_proceed_174 : decode mm_RM_proceed.2.1 174 = .ok (.aload_n 0, 1) ∧ 174 + 1 = 175 := ⟨by decide +kernel, rfl⟩
theorem d_RM_proceed_175 : decode mm_RM_proceed.2.1 175 = .ok (.getfield 49, 3) ∧ 175 + 3 = 178 := ⟨by decide +kernel, rfl⟩
theorem d_RM_proceed_178 : decode mm_RM_proceed.2.1 178 = .ok (.iload_n 1, 1) ∧ 178 + 1 = 179 := ⟨by decide +kernel, rfl⟩
theorem d_RM_proceed_179 : decode mm_RM_proceed.2.1 179 = .ok (.aload_n 0, 1) ∧ 179 + 1 = 180 := ⟨by decide +kernel, rfl⟩
theorem d_RM_proceed_180 : decode mm_RM_proceed.2.1 180 = .ok (.iload_n 2, 1) ∧ 180 + 1 = 181 := ⟨by decide +kernel, rfl⟩
theorem d_RM_proceed_181 : decode mm_RM_proceed.2.1 181 = .ok (.invokevirtual 95, 3) ∧ 181 + 3 = 184 := ⟨by decide +kernel, rfl⟩
theorem d_RM_proceed_184 : decode mm_RM_proceed.2.1 184 = .ok (.ifCond .eq 7, 3) ∧ 184 + 3 = 187 ∧ ((184 : Nat) : Int) + (7) = ((191 : Nat) : Int) := ⟨by decide +kernel, rfl, by decide⟩
theorem d_RM_proceed_187 : decode mm_RM_proceed.2.1 187 = .ok (.iconst 0, 1) ∧ 187 + 1 = 188 := ⟨by decide +kernel, rfl⟩
theorem d_RM_proceed_188 : decode mm_RM_proceed.2.1 188 = .ok (.goto 10, 3) ∧ 188 + 3 = 191 ∧ ((188 : Nat) : Int) + (10) = ((198 : Nat) : Int) := ⟨by decide +kernel, rfl, by decide⟩
theorem d_RM_proceed_191 : decode mm_RM_proceed.2.1 191 = .ok (.aload_n 0, 1) ∧ 191 + 1 = 192 := ⟨by decide +kernel, rfl⟩
theorem d_RM_proceed_192 : decode mm_RM_proceed.2.1 192 = .ok (.iload_n 3, 1) ∧ 192 + 1 = 193 := ⟨by decide +kernel, rfl⟩
theorem d_RM_proceed_193 : decode mm_RM_proceed.2.1 193 = .ok (.iload 5, 2) ∧ 193 + 2 = 195 := ⟨by decide +kernel, rfl⟩
theorem d_RM_proceed_195 : decode mm_RM_proceed.2.1 195 = .ok (.invokevirtual 163, 3) ∧ 195 + 3 = 198 := ⟨by decide +kernel, rfl⟩
theorem d_RM_proceed_198 : decode mm_RM_proceed.2.1 198 = .ok (.iastore, 1) ∧ 198 + 1 = 199 := ⟨by decide +kernel, rfl⟩
theorem d_RM_proceed_199 : decode mm_RM_proceed.2.1 199 = .ok (.aload_n 0, 1) ∧ 199 + 1 = 200 := ⟨by decide +kernel, rfl⟩
theorem d_RM_proceed_200 : decode mm_RM_proceed.2.1 200 = .ok (.iload 6, 2) ∧ 200 + 2 = 202 := ⟨by decide +kernel, rfl⟩
theorem d_RM_proceed_202 : decode mm_RM_proceed.2.1 202 = .ok (.iload 5, 2) ∧ 202 + 2 = 204 := ⟨by decide +kernel, rfl⟩
theorem d_RM_proceed_204 : decode mm_RM_proceed.2.1 204 = .ok (.invokevirtual 167, 3) ∧ 204 + 3 = 207 := ⟨by decide +kernel, rfl⟩
theorem d_RM_proceed_207 : decode mm_RM_proceed.2.1 207 = .ok (.return_, 1) := by decide +kernel
theorem d_RM_proceed_208 : decode mm_RM_proceed.2.1 208 = .ok (.aload_n 0, 1) ∧ 208 + 1 = 209 := ⟨by decide +kernel, rfl⟩
theorem d_RM_proceed_209 : decode mm_RM_proceed.2.1 209 = .ok (.dup, 1) ∧ 209 + 1 = 210 := ⟨by decide +kernel, rfl⟩
theorem d_RM_proceed_210 : decode mm_RM_proceed.2.1 210 = .ok (.getfield 146, 3) ∧ 210 + 3 = 213 := ⟨by decide +kernel, rfl⟩
theorem d_RM_proceed_213 : decode mm_RM_proceed.2.1 213 = .ok (.iconst 1, 1) ∧ 213 + 1 = 214 := ⟨by decide +kernel, rfl⟩
theorem d_RM_proceed_214 : decode mm_RM_proceed.2.1 214 = .ok (.isub, 1) ∧ 214 + 1 = 215 := ⟨by decide +kernel, rfl⟩
theorem d_RM_proceed_215 : decode mm_RM_proceed.2.1 215 = .ok (.putfield 146, 3) ∧ 215 + 3 = 218 := ⟨by decide +kernel, rfl⟩
theorem d_RM_proceed_218 : decode mm_RM_proceed.2.1 218 = .ok (.aload_n 0, 1) ∧ 218 + 1 = 219 := ⟨by decide +kernel, rfl⟩
theorem d_RM_proceed_219 : decode mm_RM_proceed.2.1 219 = .ok (.iconst 0, 1) ∧ 219 + 1 = 220 := ⟨by decide +kernel, rfl⟩
theorem d_RM_proceed_220 : decode mm_RM_proceed.2.1 220 = .ok (.putfield 129, 3) ∧ 220 + 3 = 223 := ⟨by decide +kernel, rfl⟩
theorem d_RM_proceed_223 : decode mm_RM_proceed.2.1 223 = .ok (.aload_n 0, 1) ∧ 223 + 1 = 224 := ⟨by decide +kernel, rfl⟩
theorem d_RM_proceed_224 : decode mm_RM_proceed.2.1 224 = .ok (.aload_n 0, 1) ∧ 224 + 1 = 225 := ⟨by decide +kernel, rfl⟩
theorem d_RM_proceed_225 : decode mm_RM_proceed.2.1 225 = .ok (.getfield 58, 3) ∧ 225 + 3 = 228 := ⟨by decide +kernel, rfl⟩
theorem d_RM_proceed_228 : decode mm_RM_proceed.2.1 228 = .ok (.iload_n 1, 1) ∧ 228 + 1 = 229 := ⟨by decide +kernel, rfl⟩
theorem d_RM_proceed_229 : decode mm_RM_proceed.2.1 229 = .ok (.iconst 4, 1) ∧ 229 + 1 = 230 := ⟨by decide +kernel, rfl⟩
theorem d_RM_proceed_230 : decode mm_RM_proceed.2.1 230 = .ok (.imul, 1) ∧ 230 + 1 = 231 := ⟨by decide +kernel, rfl⟩
theorem d_RM_proceed_231 : decode mm_RM_proceed.2.1 231 = .ok (.laload, 1) ∧ 231 + 1 = 232 := ⟨by decide +kernel, rfl⟩
theorem d_RM_proceed_232 : decode mm_RM_proceed.2.1 232 = .ok (.putfield 139, 3) ∧ 232 + 3 = 235 := ⟨by decide +kernel, rfl⟩
theorem d_RM_proceed_235 : decode mm_RM_proceed.2.1 235 = .ok (.aload_n 0, 1) ∧ 235 + 1 = 236 := ⟨by decide +kernel, rfl⟩
theorem d_RM_proceed_236 : decode mm_RM_proceed.2.1 236 = .ok (.iload_n 2, 1) ∧ 236 + 1 = 237 := ⟨by decide +kernel, rfl⟩
theorem d_RM_proceed_237 : decode mm_RM_proceed.2.1 237 = .ok (.invokevirtual 95, 3) ∧ 237 + 3 = 240 := ⟨by decide +kernel, rfl⟩
theorem d_RM_proceed_240 : decode mm_RM_proceed.2.1 240 = .ok (.ifCond .eq 39, 3) ∧ 240 + 3 = 243 ∧ ((240 : Nat) : Int) + (39) = ((279 : Nat) : Int) := ⟨by decide +kernel, rfl, by decide⟩
theorem d_RM_proceed_243 : decode mm_RM_proceed.2.1 243 = .ok (.aload_n 0, 1) ∧ 243 + 1 = 244 := ⟨by decide +kernel, rfl⟩
theorem d_RM_proceed_244 : decode mm_RM_proceed.2.1 244 = .ok (.getfield 16, 3) ∧ 244 + 3 = 247 := ⟨by decide +kernel, rfl⟩
theorem d_RM_proceed_247 : decode mm_RM_proceed.2.1 247 = .ok (.iload_n 2, 1) ∧ 247 + 1 = 248 := ⟨by decide +kernel, rfl⟩
theorem d_RM_proceed_248 : decode mm_RM_proceed.2.1 248 = .ok (.bipush 97, 2) ∧ 248 + 2 = 250 := ⟨by decide +kernel, rfl⟩
theorem d_RM_proceed_250 : decode mm_RM_proceed.2.1 250 = .ok (.isub, 1) ∧ 250 + 1 = 251 := ⟨by decide +kernel, rfl⟩
theorem d_RM_proceed_251 : decode mm_RM_proceed.2.1 251 = .ok (.aload_n 0, 1) ∧ 251 + 1 = 252 := ⟨by decide +kernel, rfl⟩
theorem d_RM_proceed_252 : decode mm_RM_proceed.2.1 252 = .ok (.getfield 139, 3) ∧ 252 + 3 = 255 := ⟨by decide +kernel, rfl⟩
theorem d_RM_proceed_255 : decode mm_RM_proceed.2.1 255 = .ok (.lastore, 1) ∧ 255 + 1 = 256 := ⟨by decide +kernel, rfl⟩
theorem d_RM_proceed_256 : decode mm_RM_proceed.2.1 256 = .ok (.aload_n 0, 1) ∧ 256 + 1 = 257 := ⟨by decide +kernel, rfl⟩
theorem d_RM_proceed_257 : decode mm_RM_proceed.2.1 257 = .ok (.getfield 20, 3) ∧ 257 + 3 = 260 := ⟨by decide +kernel, rfl⟩
theorem d_RM_proceed_260 : decode mm_RM_proceed.2.1 260 = .ok (.iload_n 2, 1) ∧ 260 + 1 = 261 := ⟨by decide +kernel, rfl⟩
theorem d_RM_proceed_261 : decode mm_RM_proceed.2.1 261 = .ok (.bipush 97, 2) ∧ 261 + 2 = 263 := ⟨by decide +kernel, rfl⟩
theorem d_RM_proceed_263 : decode mm_RM_proceed.2.1 263 = .ok (.isub, 1) ∧ 263 + 1 = 264 := ⟨by decide +kernel, rfl⟩
theorem d_RM_proceed_264 : decode mm_RM_proceed.2.1 264 = .ok (.iconst 1, 1) ∧ 264 + 1 = 265 := ⟨by decide +kernel, rfl⟩
theorem d_RM_proceed_265 : decode mm_RM_proceed.2.1 265 = .ok (.bastore, 1) ∧ 265 + 1 = 266 := ⟨by decide +kernel, rfl⟩
theorem d_RM_proceed_266 : decode mm_RM_proceed.2.1 266 = .ok (.aload_n 0, 1) ∧ 266 + 1 = 267 := ⟨by decide +kernel, rfl⟩
theorem d_RM_proceed_267 : decode mm_RM_proceed.2.1 267 = .ok (.getfield 27, 3) ∧ 267 + 3 = 270 := ⟨by decide +kernel, rfl⟩
theorem d_RM_proceed_270 : decode mm_RM_proceed.2.1 270 = .ok (.iload_n 2, 1) ∧ 270 + 1 = 271 := ⟨by decide +kernel, rfl⟩
theorem d_RM_proceed_271 : decode mm_RM_proceed.2.1 271 = .ok (.bipush 97, 2) ∧ 271 + 2 = 273 := ⟨by decide +kernel, rfl⟩
theorem d_RM_proceed_273 : decode mm_RM_proceed.2.1 273 = .ok (.isub, 1) ∧ 273 + 1 = 274 := ⟨by decide +kernel, rfl⟩
theorem d_RM_proceed_274 : decode mm_RM_proceed.2.1 274 = .ok (.iconst 0, 1) ∧ 274 + 1 = 275 := ⟨by decide +kernel, rfl⟩
theorem d_RM_proceed_275 : decode mm_RM_proceed.2.1 275 = .ok (.bastore, 1) ∧ 275 + 1 = 276 := ⟨by decide +kernel, rfl⟩
theorem d_RM_proceed_276 : decode mm_RM_proceed.2.1 276 = .ok (.goto 122, 3) ∧ 276 + 3 = 279 ∧ ((276 : Nat) : Int) + (122) = ((398 : Nat) : Int) := ⟨by decide +kernel, rfl, by decide⟩
theorem d_RM_proceed_279 : decode mm_RM_proceed.2.1 279 = .ok (.iload_n 2, 1) ∧ 279 + 1 = 280 := ⟨by decide +kernel, rfl⟩
theorem d_RM_proceed_280 : decode mm_RM_proceed.2.1 280 = .ok (.bipush 63, 2) ∧ 280 + 2 = 282 := ⟨by decide +kernel, rfl⟩
theorem d_RM_proceed_282 : decode mm_RM_proceed.2.1 282 = .ok (.if_icmp .ne 60, 3) ∧ 282 + 3 = 285 ∧ ((282 : Nat) : Int) + (60) = ((342 : Nat) : Int) := ⟨by decide +kernel, rfl, by decide⟩
theorem d_RM_proceed_285 : decode mm_RM_proceed.2.1 285 = .ok (.aload_n 0, 1) ∧ 285 + 1 = 286 := ⟨by decide +kernel, rfl⟩
theorem d_RM_proceed_286 : decode mm_RM_proceed.2.1 286 = .ok (.aload_n 0, 1) ∧ 286 + 1 = 287 := ⟨by decide +kernel, rfl⟩
theorem d_RM_proceed_287 : decode mm_RM_proceed.2.1 287 = .ok (.getfield 139, 3) ∧ 287 + 3 = 290 := ⟨by decide +kernel, rfl⟩
theorem d_RM_proceed_290 : decode mm_RM_proceed.2.1 290 = .ok (.invokevirtual 151, 3) ∧ 290 + 3 = 293 := ⟨by decide +kernel, rfl⟩
theorem d_RM_proceed_293 : decode mm_RM_proceed.2.1 293 = .ok (.ifCond .ne 12, 3) ∧ 293 + 3 = 296 ∧ ((293 : Nat) : Int) + (12) = ((305 : Nat) : Int) := ⟨by decide +kernel, rfl, by decide⟩
theorem d_RM_proceed_296 : decode mm_RM_proceed.2.1 296 = .ok (.aload_n 0, 1) ∧ 296 + 1 = 297 := ⟨by decide +kernel, rfl⟩
theorem d_RM_proceed_297 : decode mm_RM_proceed.2.1 297 = .ok (.bipush (-5), 2) ∧ 297 + 2 = 299 := ⟨by decide +kernel, rfl⟩
theorem d_RM_proceed_299 : decode mm_RM_proceed.2.1 299 = .ok (.putfield 136, 3) ∧ 299 + 3 = 302 := ⟨by decide +kernel, rfl⟩
theorem d_RM_proceed_302 : decode mm_RM_proceed.2.1 302 = .ok (.goto 96, 3) ∧ 302 + 3 = 305 ∧ ((302 : Nat) : Int) + (96) = ((398 : Nat) : Int) := ⟨by decide +kernel, rfl, by decide⟩
theorem d_RM_proceed_305 : decode mm_RM_proceed.2.1 305 = .ok (.aload_n 0, 1) ∧ 305 + 1 = 306 := ⟨by decide +kernel, rfl⟩
theorem d_RM_proceed_306 : decode mm_RM_proceed.2.1 306 = .ok (.iload_n 3, 1) ∧ 306 + 1 = 307 := ⟨by decide +kernel, rfl⟩
theorem d_RM_proceed_307 : decode mm_RM_proceed.2.1 307 = .ok (.aload_n 0, 1) ∧ 307 + 1 = 308 := ⟨by decide +kernel, rfl⟩
theorem d_RM_proceed_308 : decode mm_RM_proceed.2.1 308 = .ok (.getfield 139, 3) ∧ 308 + 3 = 311 := ⟨by decide +kernel, rfl⟩
theorem d_RM_proceed_311 : decode mm_RM_proceed.2.1 311 = .ok (.lconst 0, 1) ∧ 311 + 1 = 312 := ⟨by decide +kernel, rfl⟩
theorem d_RM_proceed_312 : decode mm_RM_proceed.2.1 312 = .ok (.lcmp, 1) ∧ 312 + 1 = 313 := ⟨by decide +kernel, rfl⟩
theorem d_RM_proceed_313 : decode mm_RM_proceed.2.1 313 = .ok (.ifCond .eq 12, 3) ∧ 313 + 3 = 316 ∧ ((313 : Nat) : Int) + (12) = ((325 : Nat) : Int) := ⟨by decide +kernel, rfl, by decide⟩
theorem d_RM_proceed_316 : decode mm_RM_proceed.2.1 316 = .ok (.aload_n 0, 1) ∧ 316 + 1 = 317 := ⟨by decide +kernel, rfl⟩
theorem d_RM_proceed_317 : decode mm_RM_proceed.2.1 317 = .ok (.getfield 49, 3) ∧ 317 + 3 = 320 := ⟨by decide +kernel, rfl⟩
theorem d_RM_proceed_320 : decode mm_RM_proceed.2.1 320 = .ok (.iload_n 1, 1) ∧ 320 + 1 = 321 := ⟨by decide +kernel, rfl⟩
theorem d_RM_proceed_321 : decode mm_RM_proceed.2.1 321 = .ok (.iaload, 1) ∧ 321 + 1 = 322 := ⟨by decide +kernel, rfl⟩
theorem d_RM_proceed_322 : decode mm_RM_proceed.2.1 322 = .ok (.goto 14, 3) ∧ 322 + 3 = 325 ∧ ((322 : Nat) : Int) + (14) = ((336 : Nat) : Int) := ⟨by decide +kernel, rfl, by decide⟩
theorem d_RM_proceed_325 : decode mm_RM_proceed.2.1 325 = .ok (.aload_n 0, 1) ∧ 325 + 1 = 326 := ⟨by decide +kernel, rfl⟩
theorem d_RM_proceed_326 : decode mm_RM_proceed.2.1 326 = .ok (.iload_n 3, 1) ∧ 326 + 1 = 327 := ⟨by decide +kernel, rfl⟩
theorem d_RM_proceed_327 : decode mm_RM_proceed.2.1 327 = .ok (.aload_n 0, 1) ∧ 327 + 1 = 328 := ⟨by decide +kernel, rfl⟩
theorem d_RM_proceed_328 : decode mm_RM_proceed.2.1 328 = .ok (.getfield 49, 3) ∧ 328 + 3 = 331 := ⟨by decide +kernel, rfl⟩
theorem d_RM_proceed_331 : decode mm_RM_proceed.2.1 331 = .ok (.iload_n 1, 1) ∧ 331 + 1 = 332 := ⟨by decide +kernel, rfl⟩
theorem d_RM_proceed_332 : decode mm_RM_proceed.2.1 332 = .ok (.iaload, 1) ∧ 332 + 1 = 333 := ⟨by decide +kernel, rfl⟩
theorem d_RM_proceed_333 : decode mm_RM_proceed.2.1 333 = .ok (.invokevirtual 163, 3) ∧ 333 + 3 = 336 := ⟨by decide +kernel, rfl⟩
theorem d_RM_proceed_336 : decode mm_RM_proceed.2.1 336 = .ok (.invokevirtual 167, 3) ∧ 336 + 3 = 339 := ⟨by decide +kernel, rfl⟩
theorem d_RM_proceed_339 : decode mm_RM_proceed.2.1 339 = .ok (.goto 59, 3) ∧ 339 + 3 = 342 ∧ ((339 : Nat) : Int) + (59) = ((398 : Nat) : Int) := ⟨by decide +kernel, rfl, by decide⟩
theorem d_RM_proceed_342 : decode mm_RM_proceed.2.1 342 = .ok (.iload_n 2, 1) ∧ 342 + 1 = 343 := ⟨by decide +kernel, rfl⟩
theorem d_RM_proceed_343 : decode mm_RM_proceed.2.1 343 = .ok (.bipush 68, 2) ∧ 343 + 2 = 345 := ⟨by decide +kernel, rfl⟩
theorem d_RM_proceed_345 : decode mm_RM_proceed.2.1 345 = .ok (.if_icmp .ne 11, 3) ∧ 345 + 3 = 348 ∧ ((345 : Nat) : Int) + (11) = ((356 : Nat) : Int) := ⟨by decide +kernel, rfl, by decide⟩
theorem d_RM_proceed_348 : decode mm_RM_proceed.2.1 348 = .ok (.aload_n 0, 1) ∧ 348 + 1 = 349 := ⟨by decide +kernel, rfl⟩
theorem d_RM_proceed_349 : decode mm_RM_proceed.2.1 349 = .ok (.iload_n 1, 1) ∧ 349 + 1 = 350 := ⟨by decide +kernel, rfl⟩
theorem d_RM_proceed_350 : decode mm_RM_proceed.2.1 350 = .ok (.invokevirtual 171, 3) ∧ 350 + 3 = 353 := ⟨by decide +kernel, rfl⟩
theorem d_RM_proceed_353 : decode mm_RM_proceed.2.1 353 = .ok (.goto 45, 3) ∧ 353 + 3 = 356 ∧ ((353 : Nat) : Int) + (45) = ((398 : Nat) : Int) := ⟨by decide +kernel, rfl, by decide⟩
theorem d_RM_proceed_356 : decode mm_RM_proceed.2.1 356 = .ok (.iload_n 2, 1) ∧ 356 + 1 = 357 := ⟨by decide +kernel, rfl⟩
theorem d_RM_proceed_357 : decode mm_RM_proceed.2.1 357 = .ok (.bipush 79, 2) ∧ 357 + 2 = 359 := ⟨by decide +kernel, rfl⟩
theorem d_RM_proceed_359 : decode mm_RM_proceed.2.1 359 = .ok (.if_icmp .ne 11, 3) ∧ 359 + 3 = 362 ∧ ((359 : Nat) : Int) + (11) = ((370 : Nat) : Int) := ⟨by decide +kernel, rfl, by decide⟩
theorem d_RM_proceed_362 : decode mm_RM_proceed.2.1 362 = .ok (.aload_n 0, 1) ∧ 362 + 1 = 363 := ⟨by decide +kernel, rfl⟩
theorem d_RM_proceed_363 : decode mm_RM_proceed.2.1 363 = .ok (.iload_n 1, 1) ∧ 363 + 1 = 364 := ⟨by decide +kernel, rfl⟩
theorem d_RM_proceed_364 : decode mm_RM_proceed.2.1 364 = .ok (.invokevirtual 175, 3) ∧ 364 + 3 = 367 := ⟨by decide +kernel, rfl⟩
theorem d_RM_proceed_367 : decode mm_RM_proceed.2.1 367 = .ok (.goto 31, 3) ∧ 367 + 3 = 370 ∧ ((367 : Nat) : Int) + (31) = ((398 : Nat) : Int) := ⟨by decide +kernel, rfl, by decide⟩
theorem d_RM_proceed_370 : decode mm_RM_proceed.2.1 370 = .ok (.iload_n 2, 1) ∧ 370 + 1 = 371 := ⟨by decide +kernel, rfl⟩
theorem d_RM_proceed_371 : decode mm_RM_proceed.2.1 371 = .ok (.bipush 84, 2) ∧ 371 + 2 = 373 := ⟨by decide +kernel, rfl⟩
theorem d_RM_proceed_373 : decode mm_RM_proceed.2.1 373 = .ok (.if_icmp .eq 25, 3) ∧ 373 + 3 = 376 ∧ ((373 : Nat) : Int) + (25) = ((398 : Nat) : Int) := ⟨by decide +kernel, rfl, by decide⟩
theorem d_RM_proceed_376 : decode mm_RM_proceed.2.1 376 = .ok (.iload_n 2, 1) ∧ 376 + 1 = 377 := ⟨by decide +kernel, rfl⟩
theorem d_RM_proceed_377 : decode mm_RM_proceed.2.1 377 = .ok (.bipush 33, 2) ∧ 377 + 2 = 379 := ⟨by decide +kernel, rfl⟩
theorem d_RM_proceed_379 : decode mm_RM_proceed.2.1 379 = .ok (.if_icmp .ne 14, 3) ∧ 379 + 3 = 382 ∧ ((379 : Nat) : Int) + (14) = ((393 : Nat) : Int) := ⟨by decide +kernel, rfl, by decide⟩
theorem d_RM_proceed_382 : decode mm_RM_proceed.2.1 382 = .ok (.aload_n 0, 1) ∧ 382 + 1 = 383 := ⟨by decide +kernel, rfl⟩
theorem d_RM_proceed_383 : decode mm_RM_proceed.2.1 383 = .ok (.getfield 58, 3) ∧ 383 + 3 = 386 := ⟨by decide +kernel, rfl⟩
theorem d_RM_proceed_386 : decode mm_RM_proceed.2.1 386 = .ok (.iload_n 1, 1) ∧ 386 + 1 = 387 := ⟨by decide +kernel, rfl⟩
theorem d_RM_proceed_387 : decode mm_RM_proceed.2.1 387 = .ok (.iconst 4, 1) ∧ 387 + 1 = 388 := ⟨by decide +kernel, rfl⟩
theorem d_RM_proceed_388 : decode mm_RM_proceed.2.1 388 = .ok (.imul, 1) ∧ 388 + 1 = 389 := ⟨by decide +kernel, rfl⟩
theorem d_RM_proceed_389 : decode mm_RM_proceed.2.1 389 = .ok (.iconst 1, 1) ∧ 389 + 1 = 390 := ⟨by decide +kernel, rfl⟩
theorem d_RM_proceed_390 : decode mm_RM_proceed.2.1 390 = .ok (.iadd, 1) ∧ 390 + 1 = 391 := ⟨by decide +kernel, rfl⟩
theorem d_RM_proceed_391 : decode mm_RM_proceed.2.1 391 = .ok (.lconst 0, 1) ∧ 391 + 1 = 392 := ⟨by decide +kernel, rfl⟩
theorem d_RM_proceed_392 : decode mm_RM_proceed.2.1 392 = .ok (.lastore, 1) ∧ 392 + 1 = 393 := ⟨by decide +kernel, rfl⟩
theorem d_RM_proceed_393 : decode mm_RM_proceed.2.1 393 = .ok (.aload_n 0, 1) ∧ 393 + 1 = 394 := ⟨by decide +kernel, rfl⟩
theorem d_RM_proceed_394 : decode mm_RM_proceed.2.1 394 = .ok (.iload_n 1, 1) ∧ 394 + 1 = 395 := ⟨by decide +kernel, rfl⟩
theorem d_RM_proceed_395 : decode mm_RM_proceed.2.1 395 = .ok (.invokevirtual 178, 3) ∧ 395 + 3 = 398 := ⟨by decide +kernel, rfl⟩
theorem d_RM_proceed_398 : decode mm_RM_proceed.2.1 398 = .ok (.return_, 1) := by decide +kernel
theorem d_RM_mild_0 : decode mm_RM_mild.2.1 0 = .ok (.aload_n 0, 1) ∧ 0 + 1 = 1 := ⟨by decide +kernel, rfl⟩
theorem d_RM_mild_1 : decode mm_RM_mild.2.1 1 = .ok (.getfield 136, 3) ∧ 1 + 3 = 4 := ⟨by decide +kernel, rfl⟩
theorem d_RM_mild_4 : decode mm_RM_mild.2.1 4 = .ok (.bipush (-4), 2) ∧ 4 + 2 = 6 := ⟨by decide +kernel, rfl⟩
theorem d_RM_mild_6 : decode mm_RM_mild.2.1 6 = .ok (.if_icmp .gt 16, 3) ∧ 6 + 3 = 9 ∧ ((6 : Nat) : Int) + (16) = ((22 : Nat) : Int) := ⟨by decide +kernel, rfl, by decide⟩
theorem d_RM_mild_9 : decode mm_RM_mild.2.1 9 = .ok (.aload_n 0, 1) ∧ 9 + 1 = 10 := ⟨by decide +kernel, rfl⟩
theorem d_RM_mild_10 : decode mm_RM_mild.2.1 10 = .ok (.getfield 136, 3) ∧ 10 + 3 = 13 := ⟨by decide +kernel, rfl⟩
theorem d_RM_mild_13 : decode mm_RM_mild.2.1 13 = .ok (.bipush (-7), 2) ∧ 13 + 2 = 15 := ⟨by decide +kernel, rfl⟩
theorem d_RM_mild_15 : decode mm_RM_mild.2.1 15 = .ok (.if_icmp .lt 7, 3) ∧ 15 + 3 = 18 ∧ ((15 : Nat) : Int) + (7) = ((22 : Nat) : Int) := ⟨by decide +kernel, rfl, by decide⟩
theorem d_RM_mild_18 : decode mm_RM_mild.2.1 18 = .ok (.iconst 1, 1) ∧ 18 + 1 = 19 := ⟨by decide +kernel, rfl⟩
theorem d_RM_mild_19 : decode mm_RM_mild.2.1 19 = .ok (.goto 4, 3) ∧ 19 + 3 = 22 ∧ ((19 : Nat) : Int) + (4) = ((23 : Nat) : Int) := ⟨by decide +kernel, rfl, by decide⟩
theorem d_RM_mild_22 : decode mm_RM_mild.2.1 22 = .ok (.iconst 0, 1) ∧ 22 + 1 = 23 := ⟨by decide +kernel, rfl⟩
theorem d_RM_mild_23 : decode mm_RM_mild.2.1 23 = .ok (.ireturn, 1) := by decide +kernel
theorem d_RM_unwind_0 : decode mm_RM_unwind.2.1 0 = .ok (.iconst 0, 1) ∧ 0 + 1 = 1 := ⟨by decide +kernel, rfl⟩
theorem d_RM_unwind_1 : decode mm_RM_unwind.2.1 1 = .ok (.istore_n 1, 1) ∧ 1 + 1 = 2 := ⟨by decide +kernel, rfl⟩
theorem d_RM_unwind_2 : decode mm_RM_unwind.2.1 2 = .ok (.aload_n 0, 1) ∧ 2 + 1 = 3 := ⟨by decide +kernel, rfl⟩
theorem d_RM_unwind_3 : decode mm_RM_unwind.2.1 3 = .ok (.getfield 146, 3) ∧ 3 + 3 = 6 := ⟨by decide +kernel, rfl⟩
theorem d_RM_unwind_6 : decode mm_RM_unwind.2.1 6 = .ok (.ifCond .le 79, 3) ∧ 6 + 3 = 9 ∧ ((6 : Nat) : Int) + (79) = ((85 : Nat) : Int) := ⟨by decide +kernel, rfl, by decide⟩
theorem d_RM_unwind_9 : decode mm_RM_unwind.2.1 9 = .ok (.iload_n 1, 1) ∧ 9 + 1 = 10 := ⟨by decide +kernel, rfl⟩
theorem d_RM_unwind_10 : decode mm_RM_unwind.2.1 10 = .ok (.ifCond .ne 75, 3) ∧ 10 + 3 = 13 ∧ ((10 : Nat) : Int) + (75) = ((85 : Nat) : Int) := ⟨by decide +kernel, rfl, by decide⟩
theorem d_RM_unwind_13 : decode mm_RM_unwind.2.1 13 = .ok (.aload_n 0, 1) ∧ 13 + 1 = 14 := ⟨by decide +kernel, rfl⟩
theorem d_RM_unwind_14 : decode mm_RM_unwind.2.1 14 = .ok (.dup, 1) ∧ 14 + 1 = 15 := ⟨by decide +kernel, rfl⟩
theorem d_RM_unwind_15 : decode mm_RM_unwind.2.1 15 = .ok (.getfield 146, 3) ∧ 15 + 3 = 18 := ⟨by decide +kernel, rfl⟩
theorem d_RM_unwind_18 : decode mm_RM_unwind.2.1 18 = .ok (.iconst 1, 1) ∧ 18 + 1 = 19 := ⟨by decide +kernel, rfl⟩
theorem d_RM_unwind_19 : decode mm_RM_unwind.2.1 19 = .ok (.isub, 1) ∧ 19 + 1 = 20 := ⟨by decide +kernel, rfl⟩
theorem d_RM_unwind_20 : decode mm_RM_unwind.2.1 20 = .ok (.putfield 146, 3) ∧ 20 + 3 = 23 := ⟨by decide +kernel, rfl⟩
theorem d_RM_unwind_23 : decode mm_RM_unwind.2.1 23 = .ok (.aload_n 0, 1) ∧ 23 + 1 = 24 := ⟨by decide +kernel, rfl⟩
theorem d_RM_unwind_24 : decode mm_RM_unwind.2.1 24 = .ok (.getfield 43, 3) ∧ 24 + 3 = 27 := ⟨by decide +kernel, rfl⟩
theorem d_RM_unwind_27 : decode mm_RM_unwind.2.1 27 = .ok (.aload_n 0, 1) ∧ 27 + 1 = 28 := ⟨by decide +kernel, rfl⟩
theorem d_RM_unwind_28 : decode mm_RM_unwind.2.1 28 = .ok (.getfield 146, 3) ∧ 28 + 3 = 31 := ⟨by decide +kernel, rfl⟩
theorem d_RM_unwind_31 : decode mm_RM_unwind.2.1 31 = .ok (.iaload, 1) ∧ 31 + 1 = 32 := ⟨by decide +kernel, rfl⟩
theorem d_RM_unwind_32 : decode mm_RM_unwind.2.1 32 = .ok (.istore_n 2, 1) ∧ 32 + 1 = 33 := ⟨by decide +kernel, rfl⟩
theorem d_RM_unwind_33 : decode mm_RM_unwind.2.1 33 = .ok (.aload_n 0, 1) ∧ 33 + 1 = 34 := ⟨by decide +kernel, rfl⟩
theorem d_RM_unwind_34 : decode mm_RM_unwind.2.1 34 = .ok (.iload_n 2, 1) ∧ 34 + 1 = 35 := ⟨by decide +kernel, rfl⟩
theorem d_RM_unwind_35 : decode mm_RM_unwind.2.1 35 = .ok (.invokevirtual 95, 3) ∧ 35 + 3 = 38 := ⟨by decide +kernel, rfl⟩
theorem d_RM_unwind_38 : decode mm_RM_unwind.2.1 38 = .ok (.ifCond .eq 13, 3) ∧ 38 + 3 = 41 ∧ ((38 : Nat) : Int) + (13) = ((51 : Nat) : Int) := ⟨by decide +kernel, rfl, by decide⟩
theorem d_RM_unwind_41 : decode mm_RM_unwind.2.1 41 = .ok (.aload_n 0, 1) ∧ 41 + 1 = 42 := ⟨by decide +kernel, rfl⟩
theorem d_RM_unwind_42 : decode mm_RM_unwind.2.1 42 = .ok (.getfield 27, 3) ∧ 42 + 3 = 45 := ⟨by decide +kernel, rfl⟩
theorem d_RM_unwind_45 : decode mm_RM_unwind.2.1 45 = .ok (.iload_n 2, 1) ∧ 45 + 1 = 46 := ⟨by decide +kernel, rfl⟩
theorem d_RM_unwind_46 : decode mm_RM_unwind.2.1 46 = .ok (.bipush 97, 2) ∧ 46 + 2 = 48 := ⟨by decide +kernel, rfl⟩
theorem d_RM_unwind_48 : decode mm_RM_unwind.2.1 48 = .ok (.isub, 1) ∧ 48 + 1 = 49 := ⟨by decide +kernel, rfl⟩
theorem d_RM_unwind_49 : decode mm_RM_unwind.2.1 49 = .ok (.iconst 0, 1) ∧ 49 + 1 = 50 := ⟨by decide +kernel, rfl⟩
theorem d_RM_unwind_50 : decode mm_RM_unwind.2.1 50 = .ok (.bastore, 1) ∧ 50 + 1 = 51 := ⟨by decide +kernel, rfl⟩
theorem d_RM_unwind_51 : decode mm_RM_unwind.2.1 51 = .ok (.iload_n 2, 1) ∧ 51 + 1 = 52 := ⟨by decide +kernel, rfl⟩
theorem d_RM_unwind_52 : decode mm_RM_unwind.2.1 52 = .ok (.bipush 84, 2) ∧ 52 + 2 = 54 := ⟨by decide +kernel, rfl⟩
theorem d_RM_unwind_54 : decode mm_RM_unwind.2.1 54 = .ok (.if_icmp .ne 26, 3) ∧ 54 + 3 = 57 ∧ ((54 : Nat) : Int) + (26) = ((80 : Nat) : Int) := ⟨by decide +kernel, rfl, by decide⟩
theorem d_RM_unwind_57 : decode mm_RM_unwind.2.1 57 = .ok (.aload_n 0, 1) ∧ 57 + 1 = 58 := ⟨by decide +kernel, rfl⟩
theorem d_RM_unwind_58 : decode mm_RM_unwind.2.1 58 = .ok (.getfield 52, 3) ∧ 58 + 3 = 61 := ⟨by decide +kernel, rfl⟩
theorem d_RM_unwind_61 : decode mm_RM_unwind.2.1 61 = .ok (.aload_n 0, 1) ∧ 61 + 1 = 62 := ⟨by decide +kernel, rfl⟩
theorem d_RM_unwind_62 : decode mm_RM_unwind.2.1 62 = .ok (.getfield 146, 3) ∧ 62 + 3 = 65 := ⟨by decide +kernel, rfl⟩
theorem d_RM_unwind_65 : decode mm_RM_unwind.2.1 65 = .ok (.iaload, 1) ∧ 65 + 1 = 66 := ⟨by decide +kernel, rfl⟩
theorem d_RM_unwind_66 : decode mm_RM_unwind.2.1 66 = .ok (.ifCond .ne 14, 3) ∧ 66 + 3 = 69 ∧ ((66 : Nat) : Int) + (14) = ((80 : Nat) : Int) := ⟨by decide +kernel, rfl, by decide⟩
theorem d_RM_unwind_69 : decode mm_RM_unwind.2.1 69 = .ok (.aload_n 0, 1) ∧ 69 + 1 = 70 := ⟨by decide +kernel, rfl⟩
theorem d_RM_unwind_70 : decode mm_RM_unwind.2.1 70 = .ok (.invokevirtual 181, 3) ∧ 70 + 3 = 73 := ⟨by decide +kernel, rfl⟩
theorem d_RM_unwind_73 : decode mm_RM_unwind.2.1 73 = .ok (.ifCond .eq 7, 3) ∧ 73 + 3 = 76 ∧ ((73 : Nat) : Int) + (7) = ((80 : Nat) : Int) := ⟨by decide +kernel, rfl, by decide⟩
theorem d_RM_unwind_76 : decode mm_RM_unwind.2.1 76 = .ok (.iconst 1, 1) ∧ 76 + 1 = 77 := ⟨by decide +kernel, rfl⟩
theorem d_RM_unwind_77 : decode mm_RM_unwind.2.1 77 = .ok (.goto 4, 3) ∧ 77 + 3 = 80 ∧ ((77 : Nat) : Int) + (4) = ((81 : Nat) : Int) := ⟨by decide +kernel, rfl, by decide⟩
theorem d_RM_unwind_80 : decode mm_RM_unwind.2.1 80 = .ok (.iconst 0, 1) ∧ 80 + 1 = 81 := ⟨by decide +kernel, rfl⟩
theorem d_RM_unwind_81 : decode mm_RM_unwind.2.1 81 = .ok (.istore_n 1, 1) ∧ 81 + 1 = 82 := ⟨by decide +kernel, rfl⟩
theorem d_RM_unwind_82 : decode mm_RM_unwind.2.1 82 = .ok (.goto (-80), 3) ∧ 82 + 3 = 85 ∧ ((82 : Nat) : Int) + (-80) = ((2 : Nat) : Int) := ⟨by decide +kernel, rfl, by decide⟩
theorem d_RM_unwind_85 : decode mm_RM_unwind.2.1 85 = .ok (.iload_n 1, 1) ∧ 85 + 1 = 86 := ⟨by decide +kernel, rfl⟩
theorem d_RM_unwind_86 : decode mm_RM_unwind.2.1 86 = .ok (.ifCond .ne 4, 3) ∧ 86 + 3 = 89 ∧ ((86 : Nat) : Int) + (4) = ((90 : Nat) : Int) := ⟨by decide +kernel, rfl, by decide⟩
theorem d_RM_unwind_89 : decode mm_RM_unwind.2.1 89 = .ok (.return_, 1) := by decide +kernel
theorem d_RM_unwind_90 : decode mm_RM_unwind.2.1 90 = .ok (.aload_n 0, 1) ∧ 90 + 1 = 91 := ⟨by decide +kernel, rfl⟩
theorem d_RM_unwind_91 : decode mm_RM_unwind.2.1 91 = .ok (.dup, 1) ∧ 91 + 1 = 92 := ⟨by decide +kernel, rfl⟩
theorem d_RM_unwind_92 : decode mm_RM_unwind.2.1 92 = .ok (.getfield 184, 3) ∧ 92 + 3 = 95 := ⟨by decide +kernel, rfl⟩
theorem d_RM_unwind_95 : decode mm_RM_unwind.2.1 95 = .ok (.iconst 1, 1) ∧ 95 + 1 = 96 := ⟨by decide +kernel, rfl⟩
theorem d_RM_unwind_96 : decode mm_RM_unwind.2.1 96 = .ok (.iadd, 1) ∧ 96 + 1 = 97 := ⟨by decide +kernel, rfl⟩
theorem d_RM_unwind_97 : decode mm_RM_unwind.2.1 97 = .ok (.putfield 184, 3) ∧ 97 + 3 = 100 := ⟨by decide +kernel, rfl⟩
theorem d_RM_unwind_100 : decode mm_RM_unwind.2.1 100 = .ok (.aload_n 0, 1) ∧ 100 + 1 = 101 := ⟨by decide +kernel, rfl⟩
theorem d_RM_unwind_101 : decode mm_RM_unwind.2.1 101 = .ok (.iconst 0, 1) ∧ 101 + 1 = 102 := ⟨by decide +kernel, rfl⟩
theorem d_RM_unwind_102 : decode mm_RM_unwind.2.1 102 = .ok (.putfield 136, 3) ∧ 102 + 3 = 105 := ⟨by decide +kernel, rfl⟩
theorem d_RM_unwind_105 : decode mm_RM_unwind.2.1 105 = .ok (.aload_n 0, 1) ∧ 105 + 1 = 106 := ⟨by decide +kernel, rfl⟩
theorem d_RM_unwind_106 : decode mm_RM_unwind.2.1 106 = .ok (.aload_n 0, 1) ∧ 106 + 1 = 107 := ⟨by decide +kernel, rfl⟩
theorem d_RM_unwind_107 : decode mm_RM_unwind.2.1 107 = .ok (.getfield 46, 3) ∧ 107 + 3 = 110 := ⟨by decide +kernel, rfl⟩
theorem d_RM_unwind_110 : decode mm_RM_unwind.2.1 110 = .ok (.aload_n 0, 1) ∧ 110 + 1 = 111 := ⟨by decide +kernel, rfl⟩
theorem d_RM_unwind_111 : decode mm_RM_unwind.2.1 111 = .ok (.getfield 146, 3) ∧ 111 + 3 = 114 := ⟨by decide +kernel, rfl⟩
theorem d_RM_unwind_114 : decode mm_RM_unwind.2.1 114 = .ok (.iaload, 1) ∧ 114 + 1 = 115 := ⟨by decide +kernel, rfl⟩
theorem d_RM_unwind_115 : decode mm_RM_unwind.2.1 115 = .ok (.aload_n 0, 1) ∧ 115 + 1 = 116 := ⟨by decide +kernel, rfl⟩
theorem d_RM_unwind_116 : decode mm_RM_unwind.2.1 116 = .ok (.getfield 49, 3) ∧ 116 + 3 = 119 := ⟨by decide +kernel, rfl⟩
theorem d_RM_unwind_119 : decode mm_RM_unwind.2.1 119 = .ok (.aload_n 0, 1) ∧ 119 + 1 = 120 := ⟨by decide +kernel, rfl⟩
theorem d_RM_unwind_120 : decode mm_RM_unwind.2.1 120 = .ok (.getfield 146, 3) ∧ 120 + 3 = 123 := ⟨by decide +kernel, rfl⟩
theorem d_RM_unwind_123 : decode mm_RM_unwind.2.1 123 = .ok (.iaload, 1) ∧ 123 + 1 = 124 := ⟨by decide +kernel, rfl⟩
theorem d_RM_unwind_124 : decode mm_RM_unwind.2.1 124 = .ok (.invokevirtual 167, 3) ∧ 124 + 3 = 127 := ⟨by decide +kernel, rfl⟩
theorem d_RM_unwind_127 : decode mm_RM_unwind.2.1 127 = .ok (.return_, 1) := by decide +kernel
theorem d_RM_work_0 : decode mm_RM_work.2.1 0 = .ok (.aload_n 0, 1) ∧ 0 + 1 = 1 := ⟨by decide +kernel, rfl⟩
theorem d_RM_work_1 : decode mm_RM_work.2.1 1 = .ok (.iconst 0, 1) ∧ 1 + 1 = 2 := ⟨by decide +kernel, rfl⟩
theorem d_RM_work_2 : decode mm_RM_work.2.1 2 = .ok (.putfield 146, 3) ∧ 2 + 3 = 5 := ⟨by decide +kernel, rfl⟩
theorem d_RM_work_5 : decode mm_RM_work.2.1 5 = .ok (.aload_n 0, 1) ∧ 5 + 1 = 6 := ⟨by decide +kernel, rfl⟩
theorem d_RM_work_6 : decode mm_RM_work.2.1 6 = .ok (.iconst 0, 1) ∧ 6 + 1 = 7 := ⟨by decide +kernel, rfl⟩
theorem d_RM_work_7 : decode mm_RM_work.2.1 7 = .ok (.putfield 133, 3) ∧ 7 + 3 = 10 := ⟨by decide +kernel, rfl⟩
theorem d_RM_work_10 : decode mm_RM_work.2.1 10 = .ok (.aload_n 0, 1) ∧ 10 + 1 = 11 := ⟨by decide +kernel, rfl⟩
theorem d_RM_work_11 : decode mm_RM_work.2.1 11 = .ok (.iconst 0, 1) ∧ 11 + 1 = 12 := ⟨by decide +kernel, rfl⟩
theorem d_RM_work_12 : decode mm_RM_work.2.1 12 = .ok (.putfield 136, 3) ∧ 12 + 3 = 15 := ⟨by decide +kernel, rfl⟩
theorem d_RM_work_15 : decode mm_RM_work.2.1 15 = .ok (.aload_n 0, 1) ∧ 15 + 1 = 16 := ⟨by decide +kernel, rfl⟩
theorem d_RM_work_16 : decode mm_RM_work.2.1 16 = .ok (.iload_n 1, 1) ∧ 16 + 1 = 17 := ⟨by decide +kernel, rfl⟩
theorem d_RM_work_17 : decode mm_RM_work.2.1 17 = .ok (.iload_n 2, 1) ∧ 17 + 1 = 18 := ⟨by decide +kernel, rfl⟩
theorem d_RM_work_18 : decode mm_RM_work.2.1 18 = .ok (.invokevirtual 167, 3) ∧ 18 + 3 = 21 := ⟨by decide +kernel, rfl⟩
theorem d_RM_work_21 : decode mm_RM_work.2.1 21 = .ok (.aload_n 0, 1) ∧ 21 + 1 = 22 := ⟨by decide +kernel, rfl⟩
theorem d_RM_work_22 : decode mm_RM_work.2.1 22 = .ok (.getfield 146, 3) ∧ 22 + 3 = 25 := ⟨by decide +kernel, rfl⟩
theorem d_RM_work_25 : decode mm_RM_work.2.1 25 = .ok (.ifCond .le 75, 3) ∧ 25 + 3 = 28 ∧ ((25 : Nat) : Int) + (75) = ((100 : Nat) : Int) := ⟨by decide +kernel, rfl, by decide⟩
theorem d_RM_work_28 : decode mm_RM_work.2.1 28 = .ok (.aload_n 0, 1) ∧ 28 + 1 = 29 := ⟨by decide +kernel, rfl⟩
theorem d_RM_work_29 : decode mm_RM_work.2.1 29 = .ok (.getfield 136, 3) ∧ 29 + 3 = 32 := ⟨by decide +kernel, rfl⟩
theorem d_RM_work_32 : decode mm_RM_work.2.1 32 = .ok (.ifCond .eq 10, 3) ∧ 32 + 3 = 35 ∧ ((32 : Nat) : Int) + (10) = ((42 : Nat) : Int) := ⟨by decide +kernel, rfl, by decide⟩
theorem d_RM_work_35 : decode mm_RM_work.2.1 35 = .ok (.aload_n 0, 1) ∧ 35 + 1 = 36 := ⟨by decide +kernel, rfl⟩
theorem d_RM_work_36 : decode mm_RM_work.2.1 36 = .ok (.invokevirtual 187, 3) ∧ 36 + 3 = 39 := ⟨by decide +kernel, rfl⟩
theorem d_RM_work_39 : decode mm_RM_work.2.1 39 = .ok (.goto (-18), 3) ∧ 39 + 3 = 42 ∧ ((39 : Nat) : Int) + (-18) = ((21 : Nat) : Int) := ⟨by decide +kernel, rfl, by decide⟩
theorem d_RM_work_42 : decode mm_RM_work.2.1 42 = .ok (.aload_n 0, 1) ∧ 42 + 1 = 43 := ⟨by decide +kernel, rfl⟩
theorem d_RM_work_43 : decode mm_RM_work.2.1 43 = .ok (.getfield 129, 3) ∧ 43 + 3 = 46 := ⟨by decide +kernel, rfl⟩
theorem d_RM_work_46 : decode mm_RM_work.2.1 46 = .ok (.ifCond .ne 47, 3) ∧ 46 + 3 = 49 ∧ ((46 : Nat) : Int) + (47) = ((93 : Nat) : Int) := ⟨by decide +kernel, rfl, by decide⟩
theorem d_RM_work_49 : decode mm_RM_work.2.1 49 = .ok (.aload_n 0, 1) ∧ 49 + 1 = 50 := ⟨by decide +kernel, rfl⟩
theorem d_RM_work_50 : decode mm_RM_work.2.1 50 = .ok (.getfield 58, 3) ∧ 50 + 3 = 53 := ⟨by decide +kernel, rfl⟩
theorem d_RM_work_53 : decode mm_RM_work.2.1 53 = .ok (.aload_n 0, 1) ∧ 53 + 1 = 54 := ⟨by decide +kernel, rfl⟩
theorem d_RM_work_54 : decode mm_RM_work.2.1 54 = .ok (.getfield 146, 3) ∧ 54 + 3 = 57 := ⟨by decide +kernel, rfl⟩
theorem d_RM_work_57 : decode mm_RM_work.2.1 57 = .ok (.iconst 4, 1) ∧ 57 + 1 = 58 := ⟨by decide +kernel, rfl⟩
theorem d_RM_work_58 : decode mm_RM_work.2.1 58 = .ok (.imul, 1) ∧ 58 + 1 = 59 := ⟨by decide +kernel, rfl⟩
theorem d_RM_work_59 : decode mm_RM_work.2.1 59 = .ok (.iconst 4, 1) ∧ 59 + 1 = 60 := ⟨by decide +kernel, rfl⟩
theorem d_RM_work_60 : decode mm_RM_work.2.1 60 = .ok (.isub, 1) ∧ 60 + 1 = 61 := ⟨by decide +kernel, rfl⟩
theorem d_RM_work_61 : decode mm_RM_work.2.1 61 = .ok (.aload_n 0, 1) ∧ 61 + 1 = 62 := ⟨by decide +kernel, rfl⟩
theorem d_RM_work_62 : decode mm_RM_work.2.1 62 = .ok (.getfield 52, 3) ∧ 62 + 3 = 65 := ⟨by decide +kernel, rfl⟩
theorem d_RM_work_65 : decode mm_RM_work.2.1 65 = .ok (.aload_n 0, 1) ∧ 65 + 1 = 66 := ⟨by decide +kernel, rfl⟩
theorem d_RM_work_66 : decode mm_RM_work.2.1 66 = .ok (.getfield 146, 3) ∧ 66 + 3 = 69 := ⟨by decide +kernel, rfl⟩
theorem d_RM_work_69 : decode mm_RM_work.2.1 69 = .ok (.iconst 1, 1) ∧ 69 + 1 = 70 := ⟨by decide +kernel, rfl⟩
theorem d_RM_work_70 : decode mm_RM_work.2.1 70 = .ok (.isub, 1) ∧ 70 + 1 = 71 := ⟨by decide +kernel, rfl⟩
theorem d_RM_work_71 : decode mm_RM_work.2.1 71 = .ok (.iaload, 1) ∧ 71 + 1 = 72 := ⟨by decide +kernel, rfl⟩
theorem d_RM_work_72 : decode mm_RM_work.2.1 72 = .ok (.iadd, 1) ∧ 72 + 1 = 73 := ⟨by decide +kernel, rfl⟩
theorem d_RM_work_73 : decode mm_RM_work.2.1 73 = .ok (.aload_n 0, 1) ∧ 73 + 1 = 74 := ⟨by decide +kernel, rfl⟩
theorem d_RM_work_74 : decode mm_RM_work.2.1 74 = .ok (.getfield 139, 3) ∧ 74 + 3 = 77 := ⟨by decide +kernel, rfl⟩
theorem d_RM_work_77 : decode mm_RM_work.2.1 77 = .ok (.lastore, 1) ∧ 77 + 1 = 78 := ⟨by decide +kernel, rfl⟩
theorem d_RM_work_78 : decode mm_RM_work.2.1 78 = .ok (.aload_n 0, 1) ∧ 78 + 1 = 79 := ⟨by decide +kernel, rfl⟩
theorem d_RM_work_79 : decode mm_RM_work.2.1 79 = .ok (.getfield 52, 3) ∧ 79 + 3 = 82 := ⟨by decide +kernel, rfl⟩
theorem d_RM_work_82 : decode mm_RM_work.2.1 82 = .ok (.aload_n 0, 1) ∧ 82 + 1 = 83 := ⟨by decide +kernel, rfl⟩
theorem d_RM_work_83 : decode mm_RM_work.2.1 83 = .ok (.getfield 146, 3) ∧ 83 + 3 = 86 := ⟨by decide +kernel, rfl⟩
theorem d_RM_work_86 : decode mm_RM_work.2.1 86 = .ok (.iconst 1, 1) ∧ 86 + 1 = 87 := ⟨by decide +kernel, rfl⟩
theorem d_RM_work_87 : decode mm_RM_work.2.1 87 = .ok (.isub, 1) ∧ 87 + 1 = 88 := ⟨by decide +kernel, rfl⟩
theorem d_RM_work_88 : decode mm_RM_work.2.1 88 = .ok (.dup2, 1) ∧ 88 + 1 = 89 := ⟨by decide +kernel, rfl⟩
theorem d_RM_work_89 : decode mm_RM_work.2.1 89 = .ok (.iaload, 1) ∧ 89 + 1 = 90 := ⟨by decide +kernel, rfl⟩
theorem d_RM_work_90 : decode mm_RM_work.2.1 90 = .ok (.iconst 1, 1) ∧ 90 + 1 = 91 := ⟨by decide +kernel, rfl⟩
theorem d_RM_work_91 : decode mm_RM_work.2.1 91 = .ok (.iadd, 1) ∧ 91 + 1 = 92 := ⟨by decide +kernel, rfl⟩
theorem d_RM_work_92 : decode mm_RM_work.2.1 92 = .ok (.iastore, 1) ∧ 92 + 1 = 93 := ⟨by decide +kernel, rfl⟩
theorem d_RM_work_93 : decode mm_RM_work.2.1 93 = .ok (.aload_n 0, 1) ∧ 93 + 1 = 94 := ⟨by decide +kernel, rfl⟩
theorem d_RM_work_94 : decode mm_RM_work.2.1 94 = .ok (.invokevirtual 190, 3) ∧ 94 + 3 = 97 := ⟨by decide +kernel, rfl⟩
theorem d_RM_work_97 : decode mm_RM_work.2.1 97 = .ok (.goto (-76), 3) ∧ 97 + 3 = 100 ∧ ((97 : Nat) : Int) + (-76) = ((21 : Nat) : Int) := ⟨by decide +kernel, rfl, by decide⟩
theorem d_RM_work_100 : decode mm_RM_work.2.1 100 = .ok (.aload_n 0, 1) ∧ 100 + 1 = 101 := ⟨by decide +kernel, rfl⟩
theorem d_RM_work_101 : decode mm_RM_work.2.1 101 = .ok (.getfield 136, 3) ∧ 101 + 3 = 104 := ⟨by decide +kernel, rfl⟩
theorem d_RM_work_104 : decode mm_RM_work.2.1 104 = .ok (.ifCond .eq 13, 3) ∧ 104 + 3 = 107 ∧ ((104 : Nat) : Int) + (13) = ((117 : Nat) : Int) := ⟨by decide +kernel, rfl, by decide⟩
theorem d_RM_work_107 : decode mm_RM_work.2.1 107 = .ok (.aload_n 0, 1) ∧ 107 + 1 = 108 := ⟨by decide +kernel, rfl⟩
theorem d_RM_work_108 : decode mm_RM_work.2.1 108 = .ok (.dup, 1) ∧ 108 + 1 = 109 := ⟨by decide +kernel, rfl⟩
theorem d_RM_work_109 : decode mm_RM_work.2.1 109 = .ok (.getfield 184, 3) ∧ 109 + 3 = 112 := ⟨by decide +kernel, rfl⟩
theorem d_RM_work_112 : decode mm_RM_work.2.1 112 = .ok (.iconst 1, 1) ∧ 112 + 1 = 113 := ⟨by decide +kernel, rfl⟩
theorem d_RM_work_113 : decode mm_RM_work.2.1 113 = .ok (.iadd, 1) ∧ 113 + 1 = 114 := ⟨by decide +kernel, rfl⟩
theorem d_RM_work_114 : decode mm_RM_work.2.1 114 = .ok (.putfield 184, 3) ∧ 114 + 3 = 117 := ⟨by decide +kernel, rfl⟩
theorem d_RM_work_117 : decode mm_RM_work.2.1 117 = .ok (.aload_n 0, 1) ∧ 117 + 1 = 118 := ⟨by decide +kernel, rfl⟩
theorem d_RM_work_118 : decode mm_RM_work.2.1 118 = .ok (.getfield 136, 3) ∧ 118 + 3 = 121 := ⟨by decide +kernel, rfl⟩
theorem d_RM_work_121 : decode mm_RM_work.2.1 121 = .ok (.ireturn, 1) := by decide +kernel
theorem d_RM_force_0 : decode mm_RM_force.2.1 0 = .ok (.iload_n 1, 1) ∧ 0 + 1 = 1 := ⟨by decide +kernel, rfl⟩
theorem d_RM_force_1 : decode mm_RM_force.2.1 1 = .ok (.ifCond .lt 9, 3) ∧ 1 + 3 = 4 ∧ ((1 : Nat) : Int) + (9) = ((10 : Nat) : Int) := ⟨by decide +kernel, rfl, by decide⟩
theorem d_RM_force_4 : decode mm_RM_force.2.1 4 = .ok (.iload_n 1, 1) ∧ 4 + 1 = 5 := ⟨by decide +kernel, rfl⟩
theorem d_RM_force_5 : decode mm_RM_force.2.1 5 = .ok (.bipush 7, 2) ∧ 5 + 2 = 7 := ⟨by decide +kernel, rfl⟩
theorem d_RM_force_7 : decode mm_RM_force.2.1 7 = .ok (.if_icmp .le 5, 3) ∧ 7 + 3 = 10 ∧ ((7 : Nat) : Int) + (5) = ((12 : Nat) : Int) := ⟨by decide +kernel, rfl, by decide⟩
theorem d_RM_force_10 : decode mm_RM_force.2.1 10 = .ok (.iconst (-1), 1) ∧ 10 + 1 = 11 := ⟨by decide +kernel, rfl⟩
theorem d_RM_force_11 : decode mm_RM_force.2.1 11 = .ok (.ireturn, 1) := by decide +kernel
theorem d_RM_force_12 : decode mm_RM_force.2.1 12 = .ok (.aload_n 0, 1) ∧ 12 + 1 = 13 := ⟨by decide +kernel, rfl⟩
theorem d_RM_force_13 : decode mm_RM_force.2.1 13 = .ok (.getfield 184, 3) ∧ 13 + 3 = 16 := ⟨by decide +kernel, rfl⟩
theorem d_RM_force_16 : decode mm_RM_force.2.1 16 = .ok (.bipush 30, 2) ∧ 16 + 2 = 18 := ⟨by decide +kernel, rfl⟩
theorem d_RM_force_18 : decode mm_RM_force.2.1 18 = .ok (.if_icmp .lt 6, 3) ∧ 18 + 3 = 21 ∧ ((18 : Nat) : Int) + (6) = ((24 : Nat) : Int) := ⟨by decide +kernel, rfl, by decide⟩
theorem d_RM_force_21 : decode mm_RM_force.2.1 21 = .ok (.bipush (-11), 2) ∧ 21 + 2 = 23 := ⟨by decide +kernel, rfl⟩
theorem d_RM_force_23 : decode mm_RM_force.2.1 23 = .ok (.ireturn, 1) := by decide +kernel
theorem d_RM_force_24 : decode mm_RM_force.2.1 24 = .ok (.aload_n 0, 1) ∧ 24 + 1 = 25 := ⟨by decide +kernel, rfl⟩
theorem d_RM_force_25 : decode mm_RM_force.2.1 25 = .ok (.getfield 7, 3) ∧ 25 + 3 = 28 := ⟨by decide +kernel, rfl⟩
theorem d_RM_force_28 : decode mm_RM_force.2.1 28 = .ok (.sipush 216, 3) ∧ 28 + 3 = 31 := ⟨by decide +kernel, rfl⟩
theorem d_RM_force_31 : decode mm_RM_force.2.1 31 = .ok (.bipush 97, 2) ∧ 31 + 2 = 33 := ⟨by decide +kernel, rfl⟩
theorem d_RM_force_33 : decode mm_RM_force.2.1 33 = .ok (.iload_n 1, 1) ∧ 33 + 1 = 34 := ⟨by decide +kernel, rfl⟩
theorem d_RM_force_34 : decode mm_RM_force.2.1 34 = .ok (.iadd, 1) ∧ 34 + 1 = 35 := ⟨by decide +kernel, rfl⟩
theorem d_RM_force_35 : decode mm_RM_force.2.1 35 = .ok (.iastore, 1) ∧ 35 + 1 = 36 := ⟨by decide +kernel, rfl⟩
theorem d_RM_force_36 : decode mm_RM_force.2.1 36 = .ok (.aload_n 0, 1) ∧ 36 + 1 = 37 := ⟨by decide +kernel, rfl⟩
theorem d_RM_force_37 : decode mm_RM_force.2.1 37 = .ok (.bipush 9, 2) ∧ 37 + 2 = 39 := ⟨by decide +kernel, rfl⟩
theorem d_RM_force_39 : decode mm_RM_force.2.1 39 = .ok (.iconst 0, 1) ∧ 39 + 1 = 40 := ⟨by decide +kernel, rfl⟩
theorem d_RM_force_40 : decode mm_RM_force.2.1 40 = .ok (.invokevirtual 193, 3) ∧ 40 + 3 = 43 := ⟨by decide +kernel, rfl⟩
theorem d_RM_force_43 : decode mm_RM_force.2.1 43 = .ok (.ireturn, 1) := by decide +kernel
theorem d_RM_show_0 : decode mm_RM_show.2.1 0 = .ok (.aload_n 0, 1) ∧ 0 + 1 = 1 := ⟨by decide +kernel, rfl⟩
theorem d_RM_show_1 : decode mm_RM_show.2.1 1 = .ok (.invokevirtual 122, 3) ∧ 1 + 3 = 4 := ⟨by decide +kernel, rfl⟩
theorem d_RM_show_4 : decode mm_RM_show.2.1 4 = .ok (.istore_n 1, 1) ∧ 4 + 1 = 5 := ⟨by decide +kernel, rfl⟩
theorem d_RM_show_5 : decode mm_RM_show.2.1 5 = .ok (.aload_n 0, 1) ∧ 5 + 1 = 6 := ⟨by decide +kernel, rfl⟩
theorem d_RM_show_6 : decode mm_RM_show.2.1 6 = .ok (.getfield 13, 3) ∧ 6 + 3 = 9 := ⟨by decide +kernel, rfl⟩
theorem d_RM_show_9 : decode mm_RM_show.2.1 9 = .ok (.bipush 8, 2) ∧ 9 + 2 = 11 := ⟨by decide +kernel, rfl⟩
theorem d_RM_show_11 : decode mm_RM_show.2.1 11 = .ok (.iconst 0, 1) ∧ 11 + 1 = 12 := ⟨by decide +kernel, rfl⟩
theorem d_RM_show_12 : decode mm_RM_show.2.1 12 = .ok (.iastore, 1) ∧ 12 + 1 = 13 := ⟨by decide +kernel, rfl⟩
theorem d_RM_show_13 : decode mm_RM_show.2.1 13 = .ok (.iload_n 1, 1) ∧ 13 + 1 = 14 := ⟨by decide +kernel, rfl⟩
theorem d_RM_show_14 : decode mm_RM_show.2.1 14 = .ok (.ifCond .eq 6, 3) ∧ 14 + 3 = 17 ∧ ((14 : Nat) : Int) + (6) = ((20 : Nat) : Int) := ⟨by decide +kernel, rfl, by decide⟩
theorem d_RM_show_17 : decode mm_RM_show.2.1 17 = .ok (.bipush (-3), 2) ∧ 17 + 2 = 19 := ⟨by decide +kernel, rfl⟩
theorem d_RM_show_19 : decode mm_RM_show.2.1 19 = .ok (.ireturn, 1) := by decide +kernel
theorem d_RM_show_20 : decode mm_RM_show.2.1 20 = .ok (.aload_n 0, 1) ∧ 20 + 1 = 21 := ⟨by decide +kernel, rfl⟩
theorem d_RM_show_21 : decode mm_RM_show.2.1 21 = .ok (.getfield 184, 3) ∧ 21 + 3 = 24 := ⟨by decide +kernel, rfl⟩
theorem d_RM_show_24 : decode mm_RM_show.2.1 24 = .ok (.bipush 30, 2) ∧ 24 + 2 = 26 := ⟨by decide +kernel, rfl⟩
theorem d_RM_show_26 : decode mm_RM_show.2.1 26 = .ok (.if_icmp .lt 6, 3) ∧ 26 + 3 = 29 ∧ ((26 : Nat) : Int) + (6) = ((32 : Nat) : Int) := ⟨by decide +kernel, rfl, by decide⟩
theorem d_RM_show_29 : decode mm_RM_show.2.1 29 = .ok (.bipush (-11), 2) ∧ 29 + 2 = 31 := ⟨by decide +kernel, rfl⟩
theorem d_RM_show_31 : decode mm_RM_show.2.1 31 = .ok (.ireturn, 1) := by decide +kernel
theorem d_RM_show_32 : decode mm_RM_show.2.1 32 = .ok (.aload_n 0, 1) ∧ 32 + 1 = 33 := ⟨by decide +kernel, rfl⟩
theorem d_RM_show_33 : decode mm_RM_show.2.1 33 = .ok (.bipush 8, 2) ∧ 33 + 2 = 35 := ⟨by decide +kernel, rfl⟩
theorem d_RM_show_35 : decode mm_RM_show.2.1 35 = .ok (.iconst 0, 1) ∧ 35 + 1 = 36 := ⟨by decide +kernel, rfl⟩
theorem d_RM_show_36 : decode mm_RM_show.2.1 36 = .ok (.invokevirtual 193, 3) ∧ 36 + 3 = 39 := ⟨by decide +kernel, rfl⟩
theorem d_RM_show_39 : decode mm_RM_show.2.1 39 = .ok (.istore_n 2, 1) ∧ 39 + 1 = 40 := ⟨by decide +kernel, rfl⟩
theorem d_RM_show_40 : decode mm_RM_show.2.1 40 = .ok (.iload_n 2, 1) ∧ 40 + 1 = 41 := ⟨by decide +kernel, rfl⟩
theorem d_RM_show_41 : decode mm_RM_show.2.1 41 = .ok (.ifCond .ne 14, 3) ∧ 41 + 3 = 44 ∧ ((41 : Nat) : Int) + (14) = ((55 : Nat) : Int) := ⟨by decide +kernel, rfl, by decide⟩
theorem d_RM_show_44 : decode mm_RM_show.2.1 44 = .ok (.aload_n 0, 1) ∧ 44 + 1 = 45 := ⟨by decide +kernel, rfl⟩
theorem d_RM_show_45 : decode mm_RM_show.2.1 45 = .ok (.getfield 16, 3) ∧ 45 + 3 = 48 := ⟨by decide +kernel, rfl⟩
theorem d_RM_show_48 : decode mm_RM_show.2.1 48 = .ok (.bipush 8, 2) ∧ 48 + 2 = 50 := ⟨by decide +kernel, rfl⟩
theorem d_RM_show_50 : decode mm_RM_show.2.1 50 = .ok (.aload_n 0, 1) ∧ 50 + 1 = 51 := ⟨by decide +kernel, rfl⟩
theorem d_RM_show_51 : decode mm_RM_show.2.1 51 = .ok (.getfield 139, 3) ∧ 51 + 3 = 54 := ⟨by decide +kernel, rfl⟩
theorem d_RM_show_54 : decode mm_RM_show.2.1 54 = .ok (.lastore, 1) ∧ 54 + 1 = 55 := ⟨by decide +kernel, rfl⟩
theorem d_RM_show_55 : decode mm_RM_show.2.1 55 = .ok (.iload_n 2, 1) ∧ 55 + 1 = 56 := ⟨by decide +kernel, rfl⟩
theorem d_RM_show_56 : decode mm_RM_show.2.1 56 = .ok (.ifCond .ne 11, 3) ∧ 56 + 3 = 59 ∧ ((56 : Nat) : Int) + (11) = ((67 : Nat) : Int) := ⟨by decide +kernel, rfl, by decide⟩
theorem d_RM_show_59 : decode mm_RM_show.2.1 59 = .ok (.aload_n 0, 1) ∧ 59 + 1 = 60 := ⟨by decide +kernel, rfl⟩
theorem d_RM_show_60 : decode mm_RM_show.2.1 60 = .ok (.getfield 20, 3) ∧ 60 + 3 = 63 := ⟨by decide +kernel, rfl⟩
theorem d_RM_show_63 : decode mm_RM_show.2.1 63 = .ok (.bipush 8, 2) ∧ 63 + 2 = 65 := ⟨by decide +kernel, rfl⟩
theorem d_RM_show_65 : decode mm_RM_show.2.1 65 = .ok (.iconst 1, 1) ∧ 65 + 1 = 66 := ⟨by decide +kernel, rfl⟩
theorem d_RM_show_66 : decode mm_RM_show.2.1 66 = .ok (.bastore, 1) ∧ 66 + 1 = 67 := ⟨by decide +kernel, rfl⟩
theorem d_RM_show_67 : decode mm_RM_show.2.1 67 = .ok (.iload_n 2, 1) ∧ 67 + 1 = 68 := ⟨by decide +kernel, rfl⟩
theorem d_RM_show_68 : decode mm_RM_show.2.1 68 = .ok (.ireturn, 1) := by decide +kernel
theorem d_RM_part_0 : decode mm_RM_part.2.1 0 = .ok (.aload_n 0, 1) ∧ 0 + 1 = 1 := ⟨by decide +kernel, rfl⟩
theorem d_RM_part_1 : decode mm_RM_part.2.1 1 = .ok (.getfield 67, 3) ∧ 1 + 3 = 4 := ⟨by decide +kernel, rfl⟩
theorem d_RM_part_4 : decode mm_RM_part.2.1 4 = .ok (.iload_n 1, 1) ∧ 4 + 1 = 5 := ⟨by decide +kernel, rfl⟩
theorem d_RM_part_5 : decode mm_RM_part.2.1 5 = .ok (.iconst 4, 1) ∧ 5 + 1 = 6 := ⟨by decide +kernel, rfl⟩
theorem d_RM_part_6 : decode mm_RM_part.2.1 6 = .ok (.imul, 1) ∧ 6 + 1 = 7 := ⟨by decide +kernel, rfl⟩
theorem d_RM_part_7 : decode mm_RM_part.2.1 7 = .ok (.iload_n 2, 1) ∧ 7 + 1 = 8 := ⟨by decide +kernel, rfl⟩
theorem d_RM_part_8 : decode mm_RM_part.2.1 8 = .ok (.iadd, 1) ∧ 8 + 1 = 9 := ⟨by decide +kernel, rfl⟩
theorem d_RM_part_9 : decode mm_RM_part.2.1 9 = .ok (.laload, 1) ∧ 9 + 1 = 10 := ⟨by decide +kernel, rfl⟩
theorem d_RM_part_10 : decode mm_RM_part.2.1 10 = .ok (.lstore_n 3, 1) ∧ 10 + 1 = 11 := ⟨by decide +kernel, rfl⟩
theorem d_RM_part_11 : decode mm_RM_part.2.1 11 = .ok (.aload_n 0, 1) ∧ 11 + 1 = 12 := ⟨by decide +kernel, rfl⟩
theorem d_RM_part_12 : decode mm_RM_part.2.1 12 = .ok (.lload_n 3, 1) ∧ 12 + 1 = 13 := ⟨by decide +kernel, rfl⟩
theorem d_RM_part_13 : decode mm_RM_part.2.1 13 = .ok (.invokevirtual 151, 3) ∧ 13 + 3 = 16 := ⟨by decide +kernel, rfl⟩
theorem d_RM_part_16 : decode mm_RM_part.2.1 16 = .ok (.ifCond .eq 7, 3) ∧ 16 + 3 = 19 ∧ ((16 : Nat) : Int) + (7) = ((23 : Nat) : Int) := ⟨by decide +kernel, rfl, by decide⟩
theorem d_RM_part_19 : decode mm_RM_part.2.1 19 = .ok (.lload_n 3, 1) ∧ 19 + 1 = 20 := ⟨by decide +kernel, rfl⟩
theorem d_RM_part_20 : decode mm_RM_part.2.1 20 = .ok (.goto 15, 3) ∧ 20 + 3 = 23 ∧ ((20 : Nat) : Int) + (15) = ((35 : Nat) : Int) := ⟨by decide +kernel, rfl, by decide⟩
theorem d_RM_part_23 : decode mm_RM_part.2.1 23 = .ok (.aload_n 0, 1) ∧ 23 + 1 = 24 := ⟨by decide +kernel, rfl⟩
theorem d_RM_part_24 : decode mm_RM_part.2.1 24 = .ok (.getfield 73, 3) ∧ 24 + 3 = 27 := ⟨by decide +kernel, rfl⟩
theorem d_RM_part_27 : decode mm_RM_part.2.1 27 = .ok (.lload_n 3, 1) ∧ 27 + 1 = 28 := ⟨by decide +kernel, rfl⟩
theorem d_RM_part_28 : decode mm_RM_part.2.1 28 = .ok (.ldc2_w 158, 3) ∧ 28 + 3 = 31 := ⟨by decide +kernel, rfl⟩
theorem d_RM_part_31 : decode mm_RM_part.2.1 31 = .ok (.lsub, 1) ∧ 31 + 1 = 32 := ⟨by decide +kernel, rfl⟩
theorem d_RM_part_32 : decode mm_RM_part.2.1 32 = .ok (.l2i, 1) ∧ 32 + 1 = 33 := ⟨by decide +kernel, rfl⟩
theorem d_RM_part_33 : decode mm_RM_part.2.1 33 = .ok (.iaload, 1) ∧ 33 + 1 = 34 := ⟨by decide +kernel, rfl⟩
theorem d_RM_part_34 : decode mm_RM_part.2.1 34 = .ok (.i2l, 1) ∧ 34 + 1 = 35 := ⟨by decide +kernel, rfl⟩
theorem d_RM_part_35 : decode mm_RM_part.2.1 35 = .ok (.lreturn, 1) := by decide +kernel
theorem d_RM_assemble_0 : decode mm_RM_assemble.2.1 0 = .ok (.aload_n 0, 1) ∧ 0 + 1 = 1 := ⟨by decide +kernel, rfl⟩
theorem d_RM_assemble_1 : decode mm_RM_assemble.2.1 1 = .ok (.getfield 82, 3) ∧ 1 + 3 = 4 := ⟨by decide +kernel, rfl⟩
theorem d_RM_assemble_4 : decode mm_RM_assemble.2.1 4 = .ok (.aload_n 0, 1) ∧ 4 + 1 = 5 := ⟨by decide +kernel, rfl⟩
theorem d_RM_assemble_5 : decode mm_RM_assemble.2.1 5 = .ok (.getfield 61, 3) ∧ 5 + 3 = 8 := ⟨by decide +kernel, rfl⟩
theorem d_RM_assemble_8 : decode mm_RM_assemble.2.1 8 = .ok (.iload_n 1, 1) ∧ 8 + 1 = 9 := ⟨by decide +kernel, rfl⟩
theorem d_RM_assemble_9 : decode mm_RM_assemble.2.1 9 = .ok (.iaload, 1) ∧ 9 + 1 = 10 := ⟨by decide +kernel, rfl⟩
theorem d_RM_assemble_10 : decode mm_RM_assemble.2.1 10 = .ok (.iaload, 1) ∧ 10 + 1 = 11 := ⟨by decide +kernel, rfl⟩
theorem d_RM_assemble_11 : decode mm_RM_assemble.2.1 11 = .ok (.istore_n 2, 1) ∧ 11 + 1 = 12 := ⟨by decide +kernel, rfl⟩
theorem d_RM_assemble_12 : decode mm_RM_assemble.2.1 12 = .ok (.iconst 0, 1) ∧ 12 + 1 = 13 := ⟨by decide +kernel, rfl⟩
theorem d_RM_assemble_13 : decode mm_RM_assemble.2.1 13 = .ok (.istore_n 3, 1) ∧ 13 + 1 = 14 := ⟨by decide +kernel, rfl⟩
theorem d_RM_assemble_14 : decode mm_RM_assemble.2.1 14 = .ok (.iconst 1, 1) ∧ 14 + 1 = 15 := ⟨by decide +kernel, rfl⟩
theorem d_RM_assemble_15 : decode mm_RM_assemble.2.1 15 = .ok (.istore 4, 2) ∧ 15 + 2 = 17 := ⟨by decide +kernel, rfl⟩
theorem d_RM_assemble_17 : decode mm_RM_assemble.2.1 17 = .ok (.iconst 0, 1) ∧ 17 + 1 = 18 := ⟨by decide +kernel, rfl⟩
theorem d_RM_assemble_18 : decode mm_RM_assemble.2.1 18 = .ok (.istore 5, 2) ∧ 18 + 2 = 20 := ⟨by decide +kernel, rfl⟩
theorem d_RM_assemble_20 : decode mm_RM_assemble.2.1 20 = .ok (.iconst 0, 1) ∧ 20 + 1 = 21 := ⟨by decide +kernel, rfl⟩
theorem d_RM_assemble_21 : decode mm_RM_assemble.2.1 21 = .ok (.istore 6, 2) ∧ 21 + 2 = 23 := ⟨by decide +kernel, rfl⟩
theorem d_RM_assemble_23 : decode mm_RM_assemble.2.1 23 = .ok (.iload 6, 2) ∧ 23 + 2 = 25 := ⟨by decide +kernel, rfl⟩
theorem d_RM_assemble_25 : decode mm_RM_assemble.2.1 25 = .ok (.aload_n 0, 1) ∧ 25 + 1 = 26 := ⟨by decide +kernel, rfl⟩
theorem d_RM_assemble_26 : decode mm_RM_assemble.2.1 26 = .ok (.getfield 64, 3) ∧ 26 + 3 = 29 := ⟨by decide +kernel, rfl⟩
theorem d_RM_assemble_29 : decode mm_RM_assemble.2.1 29 = .ok (.iload_n 1, 1) ∧ 29 + 1 = 30 := ⟨by decide +kernel, rfl⟩
theorem d_RM_assemble_30 : decode mm_RM_assemble.2.1 30 = .ok (.iaload, 1) ∧ 30 + 1 = 31 := ⟨by decide +kernel, rfl⟩
theorem d_RM_assemble_31 : decode mm_RM_assemble.2.1 31 = .ok (.if_icmp .ge 47, 3) ∧ 31 + 3 = 34 ∧ ((31 : Nat) : Int) + (47) = ((78 : Nat) : Int) := ⟨by decide +kernel, rfl, by decide⟩
theorem d_RM_assemble_34 : decode mm_RM_assemble.2.1 34 = .ok (.aload_n 0, 1) ∧ 34 + 1 = 35 := ⟨by decide +kernel, rfl⟩
theorem d_RM_assemble_35 : decode mm_RM_assemble.2.1 35 = .ok (.iload_n 1, 1) ∧ 35 + 1 = 36 := ⟨by decide +kernel, rfl⟩
theorem d_RM_assemble_36 : decode mm_RM_assemble.2.1 36 = .ok (.iload 6, 2) ∧ 36 + 2 = 38 := ⟨by decide +kernel, rfl⟩
theorem d_RM_assemble_38 : decode mm_RM_assemble.2.1 38 = .ok (.invokevirtual 196, 3) ∧ 38 + 3 = 41 := ⟨by decide +kernel, rfl⟩
theorem d_RM_assemble_41 : decode mm_RM_assemble.2.1 41 = .ok (.l2i, 1) ∧ 41 + 1 = 42 := ⟨by decide +kernel, rfl⟩
theorem d_RM_assemble_42 : decode mm_RM_assemble.2.1 42 = .ok (.istore 7, 2) ∧ 42 + 2 = 44 := ⟨by decide +kernel, rfl⟩
theorem d_RM_assemble_44 : decode mm_RM_assemble.2.1 44 = .ok (.iload_n 3, 1) ∧ 44 + 1 = 45 := ⟨by decide +kernel, rfl⟩
theorem d_RM_assemble_45 : decode mm_RM_assemble.2.1 45 = .ok (.iload 7, 2) ∧ 45 + 2 = 47 := ⟨by decide +kernel, rfl⟩
theorem d_RM_assemble_47 : decode mm_RM_assemble.2.1 47 = .ok (.iadd, 1) ∧ 47 + 1 = 48 := ⟨by decide +kernel, rfl⟩
theorem d_RM_assemble_48 : decode mm_RM_assemble.2.1 48 = .ok (.istore_n 3, 1) ∧ 48 + 1 = 49 := ⟨by decide +kernel, rfl⟩
theorem d_RM_assemble_49 : decode mm_RM_assemble.2.1 49 = .ok (.iload 4, 2) ∧ 49 + 2 = 51 := ⟨by decide +kernel, rfl⟩
theorem d_RM_assemble_51 : decode mm_RM_assemble.2.1 51 = .ok (.iload 7, 2) ∧ 51 + 2 = 53 := ⟨by decide +kernel, rfl⟩
theorem d_RM_assemble_53 : decode mm_RM_assemble.2.1 53 = .ok (.imul, 1) ∧ 53 + 1 = 54 := ⟨by decide +kernel, rfl⟩
theorem d_RM_assemble_54 : decode mm_RM_assemble.2.1 54 = .ok (.istore 4, 2) ∧ 54 + 2 = 56 := ⟨by decide +kernel, rfl⟩
theorem d_RM_assemble_56 : decode mm_RM_assemble.2.1 56 = .ok (.iload 6, 2) ∧ 56 + 2 = 58 := ⟨by decide +kernel, rfl⟩
theorem d_RM_assemble_58 : decode mm_RM_assemble.2.1 58 = .ok (.ifCond .eq 10, 3) ∧ 58 + 3 = 61 ∧ ((58 : Nat) : Int) + (10) = ((68 : Nat) : Int) := ⟨by decide +kernel, rfl, by decide⟩
theorem d_RM_assemble_61 : decode mm_RM_assemble.2.1 61 = .ok (.iload 7, 2) ∧ 61 + 2 = 63 := ⟨by decide +kernel, rfl⟩
theorem d_RM_assemble_63 : decode mm_RM_assemble.2.1 63 = .ok (.iload 5, 2) ∧ 63 + 2 = 65 := ⟨by decide +kernel, rfl⟩
theorem d_RM_assemble_65 : decode mm_RM_assemble.2.1 65 = .ok (.if_icmp .le 7, 3) ∧ 65 + 3 = 68 ∧ ((65 : Nat) : Int) + (7) = ((72 : Nat) : Int) := ⟨by decide +kernel, rfl, by decide⟩
theorem d_RM_assemble_68 : decode mm_RM_assemble.2.1 68 = .ok (.iload 7, 2) ∧ 68 + 2 = 70 := ⟨by decide +kernel, rfl⟩
theorem d_RM_assemble_70 : decode mm_RM_assemble.2.1 70 = .ok (.istore 5, 2) ∧ 70 + 2 = 72 := ⟨by decide +kernel, rfl⟩
theorem d_RM_assemble_72 : decode mm_RM_assemble.2.1 72 = .ok (.iinc 6 1, 3) ∧ 72 + 3 = 75 := ⟨by decide +kernel, rfl⟩
theorem d_RM_assemble_75 : decode mm_RM_assemble.2.1 75 = .ok (.goto (-52), 3) ∧ 75 + 3 = 78 ∧ ((75 : Nat) : Int) + (-52) = ((23 : Nat) : Int) := ⟨by decide +kernel, rfl, by decide⟩
theorem d_RM_assemble_78 : decode mm_RM_assemble.2.1 78 = .ok (.iload_n 2, 1) ∧ 78 + 1 = 79 := ⟨by decide +kernel, rfl⟩
theorem d_RM_assemble_79 : decode mm_RM_assemble.2.1 79 = .ok (.iconst 4, 1) ∧ 79 + 1 = 80 := ⟨by decide +kernel, rfl⟩
theorem d_RM_assemble_80 : decode mm_RM_assemble.2.1 80 = .ok (.if_icmp .eq 15, 3) ∧ 80 + 3 = 83 ∧ ((80 : Nat) : Int) + (15) = ((95 : Nat) : Int) := ⟨by decide +kernel, rfl, by decide⟩
theorem d_RM_assemble_83 : decode mm_RM_assemble.2.1 83 = .ok (.iload_n 2, 1) ∧ 83 + 1 = 84 := ⟨by decide +kernel, rfl⟩
theorem d_RM_assemble_84 : decode mm_RM_assemble.2.1 84 = .ok (.iconst 3, 1) ∧ 84 + 1 = 85 := ⟨by decide +kernel, rfl⟩
theorem d_RM_assemble_85 : decode mm_RM_assemble.2.1 85 = .ok (.if_icmp .ne 12, 3) ∧ 85 + 3 = 88 ∧ ((85 : Nat) : Int) + (12) = ((97 : Nat) : Int) := ⟨by decide +kernel, rfl, by decide⟩
theorem d_RM_assemble_88 : decode mm_RM_assemble.2.1 88 = .ok (.iload 5, 2) ∧ 88 + 2 = 90 := ⟨by decide +kernel, rfl⟩
theorem d_RM_assemble_90 : decode mm_RM_assemble.2.1 90 = .ok (.bipush 100, 2) ∧ 90 + 2 = 92 := ⟨by decide +kernel, rfl⟩
theorem d_RM_assemble_92 : decode mm_RM_assemble.2.1 92 = .ok (.if_icmp .lt 5, 3) ∧ 92 + 3 = 95 ∧ ((92 : Nat) : Int) + (5) = ((97 : Nat) : Int) := ⟨by decide +kernel, rfl, by decide⟩
theorem d_RM_assemble_95 : decode mm_RM_assemble.2.1 95 = .ok (.iconst 0, 1) ∧ 95 + 1 = 96 := ⟨by decide +kernel, rfl⟩
theorem d_RM_assemble_96 : decode mm_RM_assemble.2.1 96 = .ok (.ireturn, 1) := by decide +kernel
theorem d_RM_assemble_97 : decode mm_RM_assemble.2.1 97 = .ok (.aload_n 0, 1) ∧ 97 + 1 = 98 := ⟨by decide +kernel, rfl⟩
theorem d_RM_assemble_98 : decode mm_RM_assemble.2.1 98 = .ok (.getfield 73, 3) ∧ 98 + 3 = 101 := ⟨by decide +kernel, rfl⟩
theorem d_RM_assemble_101 : decode mm_RM_assemble.2.1 101 = .ok (.iload_n 1, 1) ∧ 101 + 1 = 102 := ⟨by decide +kernel, rfl⟩
theorem d_RM_assemble_102 : decode mm_RM_assemble.2.1 102 = .ok (.iload_n 2, 1) ∧ 102 + 1 = 103 := ⟨by decide +kernel, rfl⟩
theorem d_RM_assemble_103 : decode mm_RM_assemble.2.1 103 = .ok (.ifCond .ne 7, 3) ∧ 103 + 3 = 106 ∧ ((103 : Nat) : Int) + (7) = ((110 : Nat) : Int) := ⟨by decide +kernel, rfl, by decide⟩
theorem d_RM_assemble_106 : decode mm_RM_assemble.2.1 106 = .ok (.iload_n 3, 1) ∧ 106 + 1 = 107 := ⟨by decide +kernel, rfl⟩
theorem d_RM_assemble_107 : decode mm_RM_assemble.2.1 107 = .ok (.goto 29, 3) ∧ 107 + 3 = 110 ∧ ((107 : Nat) : Int) + (29) = ((136 : Nat) : Int) := ⟨by decide +kernel, rfl, by decide⟩
theorem d_RM_assemble_110 : decode mm_RM_assemble.2.1 110 = .ok (.iload_n 2, 1) ∧ 110 + 1 = 111 := ⟨by decide +kernel, rfl⟩
theorem d_RM_assemble_111 : decode mm_RM_assemble.2.1 111 = .ok (.iconst 1, 1) ∧ 111 + 1 = 112 := ⟨by decide +kernel, rfl⟩
theorem d_RM_assemble_112 : decode mm_RM_assemble.2.1 112 = .ok (.if_icmp .ne 8, 3) ∧ 112 + 3 = 115 ∧ ((112 : Nat) : Int) + (8) = ((120 : Nat) : Int) := ⟨by decide +kernel, rfl, by decide⟩
theorem d_RM_assemble_115 : decode mm_RM_assemble.2.1 115 = .ok (.iload 4, 2) ∧ 115 + 2 = 117 := ⟨by decide +kernel, rfl⟩
theorem d_RM_assemble_117 : decode mm_RM_assemble.2.1 117 = .ok (.goto 19, 3) ∧ 117 + 3 = 120 ∧ ((117 : Nat) : Int) + (19) = ((136 : Nat) : Int) := ⟨by decide +kernel, rfl, by decide⟩
theorem d_RM_assemble_120 : decode mm_RM_assemble.2.1 120 = .ok (.iload_n 2, 1) ∧ 120 + 1 = 121 := ⟨by decide +kernel, rfl⟩
theorem d_RM_assemble_121 : decode mm_RM_assemble.2.1 121 = .ok (.iconst 2, 1) ∧ 121 + 1 = 122 := ⟨by decide +kernel, rfl⟩
theorem d_RM_assemble_122 : decode mm_RM_assemble.2.1 122 = .ok (.if_icmp .ne 8, 3) ∧ 122 + 3 = 125 ∧ ((122 : Nat) : Int) + (8) = ((130 : Nat) : Int) := ⟨by decide +kernel, rfl, by decide⟩
theorem d_RM_assemble_125 : decode mm_RM_assemble.2.1 125 = .ok (.iload 5, 2) ∧ 125 + 2 = 127 := ⟨by decide +kernel, rfl⟩
theorem d_RM_assemble_127 : decode mm_RM_assemble.2.1 127 = .ok (.goto 9, 3) ∧ 127 + 3 = 130 ∧ ((127 : Nat) : Int) + (9) = ((136 : Nat) : Int) := ⟨by decide +kernel, rfl, by decide⟩
theorem d_RM_assemble_130 : decode mm_RM_assemble.2.1 130 = .ok (.aload_n 0, 1) ∧ 130 + 1 = 131 := ⟨by decide +kernel, rfl⟩
theorem d_RM_assemble_131 : decode mm_RM_assemble.2.1 131 = .ok (.getfield 64, 3) ∧ 131 + 3 = 134 := ⟨by decide +kernel, rfl⟩
theorem d_RM_assemble_134 : decode mm_RM_assemble.2.1 134 = .ok (.iload_n 1, 1) ∧ 134 + 1 = 135 := ⟨by decide +kernel, rfl⟩
theorem d_RM_assemble_135 : decode mm_RM_assemble.2.1 135 = .ok (.iaload, 1) ∧ 135 + 1 = 136 := ⟨by decide +kernel, rfl⟩
theorem d_RM_assemble_136 : decode mm_RM_assemble.2.1 136 = .ok (.iastore, 1) ∧ 136 + 1 = 137 := ⟨by decide +kernel, rfl⟩
theorem d_RM_assemble_137 : decode mm_RM_assemble.2.1 137 = .ok (.aload_n 0, 1) ∧ 137 + 1 = 138 := ⟨by decide +kernel, rfl⟩
theorem d_RM_assemble_138 : decode mm_RM_assemble.2.1 138 = .ok (.getfield 70, 3) ∧ 138 + 3 = 141 := ⟨by decide +kernel, rfl⟩
theorem d_RM_assemble_141 : decode mm_RM_assemble.2.1 141 = .ok (.iload_n 1, 1) ∧ 141 + 1 = 142 := ⟨by decide +kernel, rfl⟩
theorem d_RM_assemble_142 : decode mm_RM_assemble.2.1 142 = .ok (.iconst 1, 1) ∧ 142 + 1 = 143 := ⟨by decide +kernel, rfl⟩
theorem d_RM_assemble_143 : decode mm_RM_assemble.2.1 143 = .ok (.bastore, 1) ∧ 143 + 1 = 144 := ⟨by decide +kernel, rfl⟩
theorem d_RM_assemble_144 : decode mm_RM_assemble.2.1 144 = .ok (.aload_n 0, 1) ∧ 144 + 1 = 145 := ⟨by decide +kernel, rfl⟩
theorem d_RM_assemble_145 : decode mm_RM_assemble.2.1 145 = .ok (.dup, 1) ∧ 145 + 1 = 146 := ⟨by decide +kernel, rfl⟩
theorem d_RM_assemble_146 : decode mm_RM_assemble.2.1 146 = .ok (.getfield 200, 3) ∧ 146 + 3 = 149 := ⟨by decide +kernel, rfl⟩
theorem d_RM_assemble_149 : decode mm_RM_assemble.2.1 149 = .ok (.iconst 1, 1) ∧ 149 + 1 = 150 := ⟨by decide +kernel, rfl⟩
theorem d_RM_assemble_150 : decode mm_RM_assemble.2.1 150 = .ok (.iadd, 1) ∧ 150 + 1 = 151 := ⟨by decide +kernel, rfl⟩
theorem d_RM_assemble_151 : decode mm_RM_assemble.2.1 151 = .ok (.putfield 200, 3) ∧ 151 + 3 = 154 := ⟨by decide +kernel, rfl⟩
theorem d_RM_assemble_154 : decode mm_RM_assemble.2.1 154 = .ok (.iconst 1, 1) ∧ 154 + 1 = 155 := ⟨by decide +kernel, rfl⟩
theorem d_RM_assemble_155 : decode mm_RM_assemble.2.1 155 = .ok (.ireturn, 1) := by decide +kernel
theorem d_RM_construct_0 : decode mm_RM_construct.2.1 0 = .ok (.iconst 1, 1) ∧ 0 + 1 = 1 := ⟨by decide +kernel, rfl⟩
theorem d_RM_construct_1 : decode mm_RM_construct.2.1 1 = .ok (.istore_n 2, 1) ∧ 1 + 1 = 2 := ⟨by decide +kernel, rfl⟩
theorem d_RM_construct_2 : decode mm_RM_construct.2.1 2 = .ok (.aload_n 0, 1) ∧ 2 + 1 = 3 := ⟨by decide +kernel, rfl⟩
theorem d_RM_construct_3 : decode mm_RM_construct.2.1 3 = .ok (.getfield 85, 3) ∧ 3 + 3 = 6 := ⟨by decide +kernel, rfl⟩
theorem d_RM_construct_6 : decode mm_RM_construct.2.1 6 = .ok (.iconst 0, 1) ∧ 6 + 1 = 7 := ⟨by decide +kernel, rfl⟩
theorem d_RM_construct_7 : decode mm_RM_construct.2.1 7 = .ok (.iload_n 1, 1) ∧ 7 + 1 = 8 := ⟨by decide +kernel, rfl⟩
theorem d_RM_construct_8 : decode mm_RM_construct.2.1 8 = .ok (.iastore, 1) ∧ 8 + 1 = 9 := ⟨by decide +kernel, rfl⟩
theorem d_RM_construct_9 : decode mm_RM_construct.2.1 9 = .ok (.aload_n 0, 1) ∧ 9 + 1 = 10 := ⟨by decide +kernel, rfl⟩
theorem d_RM_construct_10 : decode mm_RM_construct.2.1 10 = .ok (.getfield 88, 3) ∧ 10 + 3 = 13 := ⟨by decide +kernel, rfl⟩
theorem d_RM_construct_13 : decode mm_RM_construct.2.1 13 = .ok (.iconst 0, 1) ∧ 13 + 1 = 14 := ⟨by decide +kernel, rfl⟩
theorem d_RM_construct_14 : decode mm_RM_construct.2.1 14 = .ok (.iconst 0, 1) ∧ 14 + 1 = 15 := ⟨by decide +kernel, rfl⟩
theorem d_RM_construct_15 : decode mm_RM_construct.2.1 15 = .ok (.iastore, 1) ∧ 15 + 1 = 16 := ⟨by decide +kernel, rfl⟩
theorem d_RM_construct_16 : decode mm_RM_construct.2.1 16 = .ok (.iload_n 2, 1) ∧ 16 + 1 = 17 := ⟨by decide +kernel, rfl⟩
theorem d_RM_construct_17 : decode mm_RM_construct.2.1 17 = .ok (.ifCond .le 118, 3) ∧ 17 + 3 = 20 ∧ ((17 : Nat) : Int) + (118) = ((135 : Nat) : Int) := ⟨by decide +kernel, rfl, by decide⟩
theorem d_RM_construct_20 : decode mm_RM_construct.2.1 20 = .ok (.aload_n 0, 1) ∧ 20 + 1 = 21 := ⟨by decide +kernel, rfl⟩
theorem d_RM_construct_21 : decode mm_RM_construct.2.1 21 = .ok (.getfield 85, 3) ∧ 21 + 3 = 24 := ⟨by decide +kernel, rfl⟩
theorem d_RM_construct_24 : decode mm_RM_construct.2.1 24 = .ok (.iload_n 2, 1) ∧ 24 + 1 = 25 := ⟨by decide +kernel, rfl⟩
theorem d_RM_construct_25 : decode mm_RM_construct.2.1 25 = .ok (.iconst 1, 1) ∧ 25 + 1 = 26 := ⟨by decide +kernel, rfl⟩
theorem d_RM_construct_26 : decode mm_RM_construct.2.1 26 = .ok (.isub, 1) ∧ 26 + 1 = 27 := ⟨by decide +kernel, rfl⟩
theorem d_RM_construct_27 : decode mm_RM_construct.2.1 27 = .ok (.iaload, 1) ∧ 27 + 1 = 28 := ⟨by decide +kernel, rfl⟩
theorem d_RM_construct_28 : decode mm_RM_construct.2.1 28 = .ok (.istore_n 3, 1) ∧ 28 + 1 = 29 := ⟨by decide +kernel, rfl⟩
theorem d_RM_construct_29 : decode mm_RM_construct.2.1 29 = .ok (.aload_n 0, 1) ∧ 29 + 1 = 30 := ⟨by decide +kernel, rfl⟩
theorem d_RM_construct_30 : decode mm_RM_construct.2.1 30 = .ok (.getfield 88, 3) ∧ 30 + 3 = 33 := ⟨by decide +kernel, rfl⟩
theorem d_RM_construct_33 : decode mm_RM_construct.2.1 33 = .ok (.iload_n 2, 1) ∧ 33 + 1 = 34 := ⟨by decide +kernel, rfl⟩
theorem d_RM_construct_34 : decode mm_RM_construct.2.1 34 = .ok (.iconst 1, 1) ∧ 34 + 1 = 35 := ⟨by decide +kernel, rfl⟩
theorem d_RM_construct_35 : decode mm_RM_construct.2.1 35 = .ok (.isub, 1) ∧ 35 + 1 = 36 := ⟨by decide +kernel, rfl⟩
theorem d_RM_construct_36 : decode mm_RM_construct.2.1 36 = .ok (.iaload, 1) ∧ 36 + 1 = 37 := ⟨by decide +kernel, rfl⟩
theorem d_RM_construct_37 : decode mm_RM_construct.2.1 37 = .ok (.istore 4, 2) ∧ 37 + 2 = 39 := ⟨by decide +kernel, rfl⟩
theorem d_RM_construct_39 : decode mm_RM_construct.2.1 39 = .ok (.aload_n 0, 1) ∧ 39 + 1 = 40 := ⟨by decide +kernel, rfl⟩
theorem d_RM_construct_40 : decode mm_RM_construct.2.1 40 = .ok (.getfield 70, 3) ∧ 40 + 3 = 43 := ⟨by decide +kernel, rfl⟩
theorem d_RM_construct_43 : decode mm_RM_construct.2.1 43 = .ok (.iload_n 3, 1) ∧ 43 + 1 = 44 := ⟨by decide +kernel, rfl⟩
theorem d_RM_construct_44 : decode mm_RM_construct.2.1 44 = .ok (.baload, 1) ∧ 44 + 1 = 45 := ⟨by decide +kernel, rfl⟩
theorem d_RM_construct_45 : decode mm_RM_construct.2.1 45 = .ok (.ifCond .eq 9, 3) ∧ 45 + 3 = 48 ∧ ((45 : Nat) : Int) + (9) = ((54 : Nat) : Int) := ⟨by decide +kernel, rfl, by decide⟩
theorem d_RM_construct_48 : decode mm_RM_construct.2.1 48 = .ok (.iinc 2 (-1), 3) ∧ 48 + 3 = 51 := ⟨by decide +kernel, rfl⟩
theorem d_RM_construct_51 : decode mm_RM_construct.2.1 51 = .ok (.goto 81, 3) ∧ 51 + 3 = 54 ∧ ((51 : Nat) : Int) + (81) = ((132 : Nat) : Int) := ⟨by decide +kernel, rfl, by decide⟩
theorem d_RM_construct_54 : decode mm_RM_construct.2.1 54 = .ok (.iload 4, 2) ∧ 54 + 2 = 56 := ⟨by decide +kernel, rfl⟩
theorem d_RM_construct_56 : decode mm_RM_construct.2.1 56 = .ok (.aload_n 0, 1) ∧ 56 + 1 = 57 := ⟨by decide +kernel, rfl⟩
theorem d_RM_construct_57 : decode mm_RM_construct.2.1 57 = .ok (.getfield 64, 3) ∧ 57 + 3 = 60 := ⟨by decide +kernel, rfl⟩
theorem d_RM_construct_60 : decode mm_RM_construct.2.1 60 = .ok (.iload_n 3, 1) ∧ 60 + 1 = 61 := ⟨by decide +kernel, rfl⟩
theorem d_RM_construct_61 : decode mm_RM_construct.2.1 61 = .ok (.iaload, 1) ∧ 61 + 1 = 62 := ⟨by decide +kernel, rfl⟩
theorem d_RM_construct_62 : decode mm_RM_construct.2.1 62 = .ok (.if_icmp .ne 13, 3) ∧ 62 + 3 = 65 ∧ ((62 : Nat) : Int) + (13) = ((75 : Nat) : Int) := ⟨by decide +kernel, rfl, by decide⟩
theorem d_RM_construct_65 : decode mm_RM_construct.2.1 65 = .ok (.aload_n 0, 1) ∧ 65 + 1 = 66 := ⟨by decide +kernel, rfl⟩
theorem d_RM_construct_66 : decode mm_RM_construct.2.1 66 = .ok (.iload_n 3, 1) ∧ 66 + 1 = 67 := ⟨by decide +kernel, rfl⟩
theorem d_RM_construct_67 : decode mm_RM_construct.2.1 67 = .ok (.invokevirtual 203, 3) ∧ 67 + 3 = 70 := ⟨by decide +kernel, rfl⟩
theorem d_RM_construct_70 : decode mm_RM_construct.2.1 70 = .ok (.ifCond .ne 62, 3) ∧ 70 + 3 = 73 ∧ ((70 : Nat) : Int) + (62) = ((132 : Nat) : Int) := ⟨by decide +kernel, rfl, by decide⟩
theorem d_RM_construct_73 : decode mm_RM_construct.2.1 73 = .ok (.iconst 0, 1) ∧ 73 + 1 = 74 := ⟨by decide +kernel, rfl⟩
theorem d_RM_construct_74 : decode mm_RM_construct.2.1 74 = .ok (.ireturn, 1) := by decide +kernel
theorem d_RM_construct_75 : decode mm_RM_construct.2.1 75 = .ok (.aload_n 0, 1) ∧ 75 + 1 = 76 := ⟨by decide +kernel, rfl⟩
theorem d_RM_construct_76 : decode mm_RM_construct.2.1 76 = .ok (.getfield 88, 3) ∧ 76 + 3 = 79 := ⟨by decide +kernel, rfl⟩
theorem d_RM_construct_79 : decode mm_RM_construct.2.1 79 = .ok (.iload_n 2, 1) ∧ 79 + 1 = 80 := ⟨by decide +kernel, rfl⟩
theorem d_RM_construct_80 : decode mm_RM_construct.2.1 80 = .ok (.iconst 1, 1) ∧ 80 + 1 = 81 := ⟨by decide +kernel, rfl⟩
theorem d_RM_construct_81 : decode mm_RM_construct.2.1 81 = .ok (.isub, 1) ∧ 81 + 1 = 82 := ⟨by decide +kernel, rfl⟩
theorem d_RM_construct_82 : decode mm_RM_construct.2.1 82 = .ok (.dup2, 1) ∧ 82 + 1 = 83 := ⟨by decide +kernel, rfl⟩
theorem d_RM_construct_83 : decode mm_RM_construct.2.1 83 = .ok (.iaload, 1) ∧ 83 + 1 = 84 := ⟨by decide +kernel, rfl⟩
theorem d_RM_construct_84 : decode mm_RM_construct.2.1 84 = .ok (.iconst 1, 1) ∧ 84 + 1 = 85 := ⟨by decide +kernel, rfl⟩
theorem d_RM_construct_85 : decode mm_RM_construct.2.1 85 = .ok (.iadd, 1) ∧ 85 + 1 = 86 := ⟨by decide +kernel, rfl⟩
theorem d_RM_construct_86 : decode mm_RM_construct.2.1 86 = .ok (.iastore, 1) ∧ 86 + 1 = 87 := ⟨by decide +kernel, rfl⟩
theorem d_RM_construct_87 : decode mm_RM_construct.2.1 87 = .ok (.aload_n 0, 1) ∧ 87 + 1 = 88 := ⟨by decide +kernel, rfl⟩
theorem d_RM_construct_88 : decode mm_RM_construct.2.1 88 = .ok (.getfield 67, 3) ∧ 88 + 3 = 91 := ⟨by decide +kernel, rfl⟩
theorem d_RM_construct_91 : decode mm_RM_construct.2.1 91 = .ok (.iload_n 3, 1) ∧ 91 + 1 = 92 := ⟨by decide +kernel, rfl⟩
theorem d_RM_construct_92 : decode mm_RM_construct.2.1 92 = .ok (.iconst 4, 1) ∧ 92 + 1 = 93 := ⟨by decide +kernel, rfl⟩
theorem d_RM_construct_93 : decode mm_RM_construct.2.1 93 = .ok (.imul, 1) ∧ 93 + 1 = 94 := ⟨by decide +kernel, rfl⟩
theorem d_RM_construct_94 : decode mm_RM_construct.2.1 94 = .ok (.iload 4, 2) ∧ 94 + 2 = 96 := ⟨by decide +kernel, rfl⟩
theorem d_RM_construct_96 : decode mm_RM_construct.2.1 96 = .ok (.iadd, 1) ∧ 96 + 1 = 97 := ⟨by decide +kernel, rfl⟩
theorem d_RM_construct_97 : decode mm_RM_construct.2.1 97 = .ok (.laload, 1) ∧ 97 + 1 = 98 := ⟨by decide +kernel, rfl⟩
theorem d_RM_construct_98 : decode mm_RM_construct.2.1 98 = .ok (.lstore 5, 2) ∧ 98 + 2 = 100 := ⟨by decide +kernel, rfl⟩
theorem d_RM_construct_100 : decode mm_RM_construct.2.1 100 = .ok (.aload_n 0, 1) ∧ 100 + 1 = 101 := ⟨by decide +kernel, rfl⟩
theorem d_RM_construct_101 : decode mm_RM_construct.2.1 101 = .ok (.lload 5, 2) ∧ 101 + 2 = 103 := ⟨by decide +kernel, rfl⟩
theorem d_RM_construct_103 : decode mm_RM_construct.2.1 103 = .ok (.invokevirtual 151, 3) ∧ 103 + 3 = 106 := ⟨by decide +kernel, rfl⟩
theorem d_RM_construct_106 : decode mm_RM_construct.2.1 106 = .ok (.ifCond .ne 26, 3) ∧ 106 + 3 = 109 ∧ ((106 : Nat) : Int) + (26) = ((132 : Nat) : Int) := ⟨by decide +kernel, rfl, by decide⟩
theorem d_RM_construct_109 : decode mm_RM_construct.2.1 109 = .ok (.aload_n 0, 1) ∧ 109 + 1 = 110 := ⟨by decide +kernel, rfl⟩
theorem d_RM_construct_110 : decode mm_RM_construct.2.1 110 = .ok (.getfield 85, 3) ∧ 110 + 3 = 113 := ⟨by decide +kernel, rfl⟩
theorem d_RM_construct_113 : decode mm_RM_construct.2.1 113 = .ok (.iload_n 2, 1) ∧ 113 + 1 = 114 := ⟨by decide +kernel, rfl⟩
theorem d_RM_construct_114 : decode mm_RM_construct.2.1 114 = .ok (.lload 5, 2) ∧ 114 + 2 = 116 := ⟨by decide +kernel, rfl⟩
theorem d_RM_construct_116 : decode mm_RM_construct.2.1 116 = .ok (.ldc2_w 158, 3) ∧ 116 + 3 = 119 := ⟨by decide +kernel, rfl⟩
theorem d_RM_construct_119 : decode mm_RM_construct.2.1 119 = .ok (.lsub, 1) ∧ 119 + 1 = 120 := ⟨by decide +kernel, rfl⟩
theorem d_RM_construct_120 : decode mm_RM_construct.2.1 120 = .ok (.l2i, 1) ∧ 120 + 1 = 121 := ⟨by decide +kernel, rfl⟩
theorem d_RM_construct_121 : decode mm_RM_construct.2.1 121 = .ok (.iastore, 1) ∧ 121 + 1 = 122 := ⟨by decide +kernel, rfl⟩
theorem d_RM_construct_122 : decode mm_RM_construct.2.1 122 = .ok (.aload_n 0, 1) ∧ 122 + 1 = 123 := ⟨by decide +kernel, rfl⟩
theorem d_RM_construct_123 : decode mm_RM_construct.2.1 123 = .ok (.getfield 88, 3) ∧ 123 + 3 = 126 := ⟨by decide +kernel, rfl⟩
theorem d_RM_construct_126 : decode mm_RM_construct.2.1 126 = .ok (.iload_n 2, 1) ∧ 126 + 1 = 127 := ⟨by decide +kernel, rfl⟩
theorem d_RM_construct_127 : decode mm_RM_construct.2.1 127 = .ok (.iconst 0, 1) ∧ 127 + 1 = 128 := ⟨by decide +kernel, rfl⟩
theorem d_RM_construct_128 : decode mm_RM_construct.2.1 128 = .ok (.iastore, 1) ∧ 128 + 1 = 129 := ⟨by decide +kernel, rfl⟩
theorem d_RM_construct_129 : decode mm_RM_construct.2.1 129 = .ok (.iinc 2 1, 3) ∧ 129 + 3 = 132 := ⟨by decide +kernel, rfl⟩
theorem d_RM_construct_132 : decode mm_RM_construct.2.1 132 = .ok (.goto (-116), 3) ∧ 132 + 3 = 135 ∧ ((132 : Nat) : Int) + (-116) = ((16 : Nat) : Int) := ⟨by decide +kernel, rfl, by decide⟩
theorem d_RM_construct_135 : decode mm_RM_construct.2.1 135 = .ok (.iconst 1, 1) ∧ 135 + 1 = 136 := ⟨by decide +kernel, rfl⟩
theorem d_RM_construct_136 : decode mm_RM_construct.2.1 136 = .ok (.ireturn, 1) := by decide +kernel
theorem d_RM_value_0 : decode mm_RM_value.2.1 0 = .ok (.iload_n 1, 1) ∧ 0 + 1 = 1 := ⟨by decide +kernel, rfl⟩
theorem d_RM_value_1 : decode mm_RM_value.2.1 1 = .ok (.ifCond .lt 18, 3) ∧ 1 + 3 = 4 ∧ ((1 : Nat) : Int) + (18) = ((19 : Nat) : Int) := ⟨by decide +kernel, rfl, by decide⟩
theorem d_RM_value_4 : decode mm_RM_value.2.1 4 = .ok (.iload_n 1, 1) ∧ 4 + 1 = 5 := ⟨by decide +kernel, rfl⟩
theorem d_RM_value_5 : decode mm_RM_value.2.1 5 = .ok (.bipush 8, 2) ∧ 5 + 2 = 7 := ⟨by decide +kernel, rfl⟩
theorem d_RM_value_7 : decode mm_RM_value.2.1 7 = .ok (.if_icmp .gt 12, 3) ∧ 7 + 3 = 10 ∧ ((7 : Nat) : Int) + (12) = ((19 : Nat) : Int) := ⟨by decide +kernel, rfl, by decide⟩
theorem d_RM_value_10 : decode mm_RM_value.2.1 10 = .ok (.aload_n 0, 1) ∧ 10 + 1 = 11 := ⟨by decide +kernel, rfl⟩
theorem d_RM_value_11 : decode mm_RM_value.2.1 11 = .ok (.getfield 20, 3) ∧ 11 + 3 = 14 := ⟨by decide +kernel, rfl⟩
theorem d_RM_value_14 : decode mm_RM_value.2.1 14 = .ok (.iload_n 1, 1) ∧ 14 + 1 = 15 := ⟨by decide +kernel, rfl⟩
theorem d_RM_value_15 : decode mm_RM_value.2.1 15 = .ok (.baload, 1) ∧ 15 + 1 = 16 := ⟨by decide +kernel, rfl⟩
theorem d_RM_value_16 : decode mm_RM_value.2.1 16 = .ok (.ifCond .ne 9, 3) ∧ 16 + 3 = 19 ∧ ((16 : Nat) : Int) + (9) = ((25 : Nat) : Int) := ⟨by decide +kernel, rfl, by decide⟩
theorem d_RM_value_19 : decode mm_RM_value.2.1 19 = .ok (.ldc2_w 206, 3) ∧ 19 + 3 = 22 := ⟨by decide +kernel, rfl⟩
theorem d_RM_value_22 : decode mm_RM_value.2.1 22 = .ok (.goto 9, 3) ∧ 22 + 3 = 25 ∧ ((22 : Nat) : Int) + (9) = ((31 : Nat) : Int) := ⟨by decide +kernel, rfl, by decide⟩
theorem d_RM_value_25 : decode mm_RM_value.2.1 25 = .ok (.aload_n 0, 1) ∧ 25 + 1 = 26 := ⟨by decide +kernel, rfl⟩
theorem d_RM_value_26 : decode mm_RM_value.2.1 26 = .ok (.getfield 16, 3) ∧ 26 + 3 = 29 := ⟨by decide +kernel, rfl⟩
theorem d_RM_value_29 : decode mm_RM_value.2.1 29 = .ok (.iload_n 1, 1) ∧ 29 + 1 = 30 := ⟨by decide +kernel, rfl⟩
theorem d_RM_value_30 : decode mm_RM_value.2.1 30 = .ok (.laload, 1) ∧ 30 + 1 = 31 := ⟨by decide +kernel, rfl⟩
theorem d_RM_value_31 : decode mm_RM_value.2.1 31 = .ok (.lreturn, 1) := by decide +kernel
theorem d_RM_builder_0 : decode mm_RM_builder.2.1 0 = .ok (.iload_n 1, 1) ∧ 0 + 1 = 1 := ⟨by decide +kernel, rfl⟩
theorem d_RM_builder_1 : decode mm_RM_builder.2.1 1 = .ok (.ifCond .lt 18, 3) ∧ 1 + 3 = 4 ∧ ((1 : Nat) : Int) + (18) = ((19 : Nat) : Int) := ⟨by decide +kernel, rfl, by decide⟩
theorem d_RM_builder_4 : decode mm_RM_builder.2.1 4 = .ok (.iload_n 1, 1) ∧ 4 + 1 = 5 := ⟨by decide +kernel, rfl⟩
theorem d_RM_builder_5 : decode mm_RM_builder.2.1 5 = .ok (.bipush 9, 2) ∧ 5 + 2 = 7 := ⟨by decide +kernel, rfl⟩
theorem d_RM_builder_7 : decode mm_RM_builder.2.1 7 = .ok (.if_icmp .gt 12, 3) ∧ 7 + 3 = 10 ∧ ((7 : Nat) : Int) + (12) = ((19 : Nat) : Int) := ⟨by decide +kernel, rfl, by decide⟩
theorem d_RM_builder_10 : decode mm_RM_builder.2.1 10 = .ok (.iload_n 2, 1) ∧ 10 + 1 = 11 := ⟨by decide +kernel, rfl⟩
theorem d_RM_builder_11 : decode mm_RM_builder.2.1 11 = .ok (.ifCond .lt 8, 3) ∧ 11 + 3 = 14 ∧ ((11 : Nat) : Int) + (8) = ((19 : Nat) : Int) := ⟨by decide +kernel, rfl, by decide⟩
theorem d_RM_builder_14 : decode mm_RM_builder.2.1 14 = .ok (.iload_n 2, 1) ∧ 14 + 1 = 15 := ⟨by decide +kernel, rfl⟩
theorem d_RM_builder_15 : decode mm_RM_builder.2.1 15 = .ok (.iconst 4, 1) ∧ 15 + 1 = 16 := ⟨by decide +kernel, rfl⟩
theorem d_RM_builder_16 : decode mm_RM_builder.2.1 16 = .ok (.if_icmp .le 5, 3) ∧ 16 + 3 = 19 ∧ ((16 : Nat) : Int) + (5) = ((21 : Nat) : Int) := ⟨by decide +kernel, rfl, by decide⟩
theorem d_RM_builder_19 : decode mm_RM_builder.2.1 19 = .ok (.iconst (-1), 1) ∧ 19 + 1 = 20 := ⟨by decide +kernel, rfl⟩
theorem d_RM_builder_20 : decode mm_RM_builder.2.1 20 = .ok (.ireturn, 1) := by decide +kernel
theorem d_RM_builder_21 : decode mm_RM_builder.2.1 21 = .ok (.aload_n 0, 1) ∧ 21 + 1 = 22 := ⟨by decide +kernel, rfl⟩
theorem d_RM_builder_22 : decode mm_RM_builder.2.1 22 = .ok (.getfield 82, 3) ∧ 22 + 3 = 25 := ⟨by decide +kernel, rfl⟩
theorem d_RM_builder_25 : decode mm_RM_builder.2.1 25 = .ok (.iload_n 1, 1) ∧ 25 + 1 = 26 := ⟨by decide +kernel, rfl⟩
theorem d_RM_builder_26 : decode mm_RM_builder.2.1 26 = .ok (.iload_n 2, 1) ∧ 26 + 1 = 27 := ⟨by decide +kernel, rfl⟩
theorem d_RM_builder_27 : decode mm_RM_builder.2.1 27 = .ok (.iastore, 1) ∧ 27 + 1 = 28 := ⟨by decide +kernel, rfl⟩
theorem d_RM_builder_28 : decode mm_RM_builder.2.1 28 = .ok (.iconst 0, 1) ∧ 28 + 1 = 29 := ⟨by decide +kernel, rfl⟩
theorem d_RM_builder_29 : decode mm_RM_builder.2.1 29 = .ok (.ireturn, 1) := by decide +kernel
theorem d_RM_noPlan_0 : decode mm_RM_noPlan.2.1 0 = .ok (.iload_n 1, 1) ∧ 0 + 1 = 1 := ⟨by decide +kernel, rfl⟩
theorem d_RM_noPlan_1 : decode mm_RM_noPlan.2.1 1 = .ok (.iconst 1, 1) ∧ 1 + 1 = 2 := ⟨by decide +kernel, rfl⟩
theorem d_RM_noPlan_2 : decode mm_RM_noPlan.2.1 2 = .ok (.if_icmp .lt 11, 3) ∧ 2 + 3 = 5 ∧ ((2 : Nat) : Int) + (11) = ((13 : Nat) : Int) := ⟨by decide +kernel, rfl, by decide⟩
theorem d_RM_noPlan_5 : decode mm_RM_noPlan.2.1 5 = .ok (.iload_n 1, 1) ∧ 5 + 1 = 6 := ⟨by decide +kernel, rfl⟩
theorem d_RM_noPlan_6 : decode mm_RM_noPlan.2.1 6 = .ok (.aload_n 0, 1) ∧ 6 + 1 = 7 := ⟨by decide +kernel, rfl⟩
theorem d_RM_noPlan_7 : decode mm_RM_noPlan.2.1 7 = .ok (.getfield 155, 3) ∧ 7 + 3 = 10 := ⟨by decide +kernel, rfl⟩
theorem d_RM_noPlan_10 : decode mm_RM_noPlan.2.1 10 = .ok (.if_icmp .le 7, 3) ∧ 10 + 3 = 13 ∧ ((10 : Nat) : Int) + (7) = ((17 : Nat) : Int) := ⟨by decide +kernel, rfl, by decide⟩
theorem d_RM_noPlan_13 : decode mm_RM_noPlan.2.1 13 = .ok (.iconst 1, 1) ∧ 13 + 1 = 14 := ⟨by decide +kernel, rfl⟩
theorem d_RM_noPlan_14 : decode mm_RM_noPlan.2.1 14 = .ok (.goto 4, 3) ∧ 14 + 3 = 17 ∧ ((14 : Nat) : Int) + (4) = ((18 : Nat) : Int) := ⟨by decide +kernel, rfl, by decide⟩
theorem d_RM_noPlan_17 : decode mm_RM_noPlan.2.1 17 = .ok (.iconst 0, 1) ∧ 17 + 1 = 18 := ⟨by decide +kernel, rfl⟩
theorem d_RM_noPlan_18 : decode mm_RM_noPlan.2.1 18 = .ok (.ireturn, 1) := by decide +kernel
theorem d_RM_build_0 : decode mm_RM_build.2.1 0 = .ok (.aload_n 0, 1) ∧ 0 + 1 = 1 := ⟨by decide +kernel, rfl⟩
theorem d_RM_build_1 : decode mm_RM_build.2.1 1 = .ok (.iload_n 1, 1) ∧ 1 + 1 = 2 := ⟨by decide +kernel, rfl⟩
theorem d_RM_build_2 : decode mm_RM_build.2.1 2 = .ok (.invokevirtual 208, 3) ∧ 2 + 3 = 5 := ⟨by decide +kernel, rfl⟩
theorem d_RM_build_5 : decode mm_RM_build.2.1 5 = .ok (.ifCond .eq 5, 3) ∧ 5 + 3 = 8 ∧ ((5 : Nat) : Int) + (5) = ((10 : Nat) : Int) := ⟨by decide +kernel, rfl, by decide⟩
theorem d_RM_build_8 : decode mm_RM_build.2.1 8 = .ok (.iconst (-1), 1) ∧ 8 + 1 = 9 := ⟨by decide +kernel, rfl⟩
theorem d_RM_build_9 : decode mm_RM_build.2.1 9 = .ok (.ireturn, 1) := by decide +kernel
theorem d_RM_build_10 : decode mm_RM_build.2.1 10 = .ok (.aload_n 0, 1) ∧ 10 + 1 = 11 := ⟨by decide +kernel, rfl⟩
theorem d_RM_build_11 : decode mm_RM_build.2.1 11 = .ok (.getfield 184, 3) ∧ 11 + 3 = 14 := ⟨by decide +kernel, rfl⟩
theorem d_RM_build_14 : decode mm_RM_build.2.1 14 = .ok (.bipush 30, 2) ∧ 14 + 2 = 16 := ⟨by decide +kernel, rfl⟩
theorem d_RM_build_16 : decode mm_RM_build.2.1 16 = .ok (.if_icmp .lt 6, 3) ∧ 16 + 3 = 19 ∧ ((16 : Nat) : Int) + (6) = ((22 : Nat) : Int) := ⟨by decide +kernel, rfl, by decide⟩
theorem d_RM_build_19 : decode mm_RM_build.2.1 19 = .ok (.bipush (-11), 2) ∧ 19 + 2 = 21 := ⟨by decide +kernel, rfl⟩
theorem d_RM_build_21 : decode mm_RM_build.2.1 21 = .ok (.ireturn, 1) := by decide +kernel
theorem d_RM_build_22 : decode mm_RM_build.2.1 22 = .ok (.aload_n 0, 1) ∧ 22 + 1 = 23 := ⟨by decide +kernel, rfl⟩
theorem d_RM_build_23 : decode mm_RM_build.2.1 23 = .ok (.iload_n 1, 1) ∧ 23 + 1 = 24 := ⟨by decide +kernel, rfl⟩
theorem d_RM_build_24 : decode mm_RM_build.2.1 24 = .ok (.invokevirtual 160, 3) ∧ 24 + 3 = 27 := ⟨by decide +kernel, rfl⟩
theorem d_RM_build_27 : decode mm_RM_build.2.1 27 = .ok (.ifCond .eq 5, 3) ∧ 27 + 3 = 30 ∧ ((27 : Nat) : Int) + (5) = ((32 : Nat) : Int) := ⟨by decide +kernel, rfl, by decide⟩
theorem d_RM_build_30 : decode mm_RM_build.2.1 30 = .ok (.iconst 0, 1) ∧ 30 + 1 = 31 := ⟨by decide +kernel, rfl⟩
theorem d_RM_build_31 : decode mm_RM_build.2.1 31 = .ok (.ireturn, 1) := by decide +kernel
theorem d_RM_build_32 : decode mm_RM_build.2.1 32 = .ok (.aload_n 0, 1) ∧ 32 + 1 = 33 := ⟨by decide +kernel, rfl⟩
theorem d_RM_build_33 : decode mm_RM_build.2.1 33 = .ok (.dup, 1) ∧ 33 + 1 = 34 := ⟨by decide +kernel, rfl⟩
theorem d_RM_build_34 : decode mm_RM_build.2.1 34 = .ok (.getfield 184, 3) ∧ 34 + 3 = 37 := ⟨by decide +kernel, rfl⟩
theorem d_RM_build_37 : decode mm_RM_build.2.1 37 = .ok (.iconst 1, 1) ∧ 37 + 1 = 38 := ⟨by decide +kernel, rfl⟩
theorem d_RM_build_38 : decode mm_RM_build.2.1 38 = .ok (.iadd, 1) ∧ 38 + 1 = 39 := ⟨by decide +kernel, rfl⟩
theorem d_RM_build_39 : decode mm_RM_build.2.1 39 = .ok (.putfield 184, 3) ∧ 39 + 3 = 42 := ⟨by decide +kernel, rfl⟩
theorem d_RM_build_42 : decode mm_RM_build.2.1 42 = .ok (.bipush (-7), 2) ∧ 42 + 2 = 44 := ⟨by decide +kernel, rfl⟩
theorem d_RM_build_44 : decode mm_RM_build.2.1 44 = .ok (.ireturn, 1) := by decide +kernel
theorem d_RM_root_0 : decode mm_RM_root.2.1 0 = .ok (.aload_n 0, 1) ∧ 0 + 1 = 1 := ⟨by decide +kernel, rfl⟩
theorem d_RM_root_1 : decode mm_RM_root.2.1 1 = .ok (.iload_n 1, 1) ∧ 1 + 1 = 2 := ⟨by decide +kernel, rfl⟩
theorem d_RM_root_2 : decode mm_RM_root.2.1 2 = .ok (.invokevirtual 208, 3) ∧ 2 + 3 = 5 := ⟨by decide +kernel, rfl⟩
theorem d_RM_root_5 : decode mm_RM_root.2.1 5 = .ok (.ifCond .eq 5, 3) ∧ 5 + 3 = 8 ∧ ((5 : Nat) : Int) + (5) = ((10 : Nat) : Int) := ⟨by decide +kernel, rfl, by decide⟩
theorem d_RM_root_8 : decode mm_RM_root.2.1 8 = .ok (.iconst (-1), 1) ∧ 8 + 1 = 9 := ⟨by decide +kernel, rfl⟩
theorem d_RM_root_9 : decode mm_RM_root.2.1 9 = .ok (.ireturn, 1) := by decide +kernel
theorem d_RM_root_10 : decode mm_RM_root.2.1 10 = .ok (.aload_n 0, 1) ∧ 10 + 1 = 11 := ⟨by decide +kernel, rfl⟩
theorem d_RM_root_11 : decode mm_RM_root.2.1 11 = .ok (.getfield 76, 3) ∧ 11 + 3 = 14 := ⟨by decide +kernel, rfl⟩
theorem d_RM_root_14 : decode mm_RM_root.2.1 14 = .ok (.iload_n 1, 1) ∧ 14 + 1 = 15 := ⟨by decide +kernel, rfl⟩
theorem d_RM_root_15 : decode mm_RM_root.2.1 15 = .ok (.iload_n 2, 1) ∧ 15 + 1 = 16 := ⟨by decide +kernel, rfl⟩
theorem d_RM_root_16 : decode mm_RM_root.2.1 16 = .ok (.bastore, 1) ∧ 16 + 1 = 17 := ⟨by decide +kernel, rfl⟩
theorem d_RM_root_17 : decode mm_RM_root.2.1 17 = .ok (.iconst 0, 1) ∧ 17 + 1 = 18 := ⟨by decide +kernel, rfl⟩
theorem d_RM_root_18 : decode mm_RM_root.2.1 18 = .ok (.ireturn, 1) := by decide +kernel
theorem d_RM_collect_0 : decode mm_RM_collect.2.1 0 = .ok (.iconst 0, 1) ∧ 0 + 1 = 1 := ⟨by decide +kernel, rfl⟩
theorem d_RM_collect_1 : decode mm_RM_collect.2.1 1 = .ok (.istore_n 1, 1) ∧ 1 + 1 = 2 := ⟨by decide +kernel, rfl⟩
theorem d_RM_collect_2 : decode mm_RM_collect.2.1 2 = .ok (.iconst 1, 1) ∧ 2 + 1 = 3 := ⟨by decide +kernel, rfl⟩
theorem d_RM_collect_3 : decode mm_RM_collect.2.1 3 = .ok (.istore_n 2, 1) ∧ 3 + 1 = 4 := ⟨by decide +kernel, rfl⟩
theorem d_RM_collect_4 : decode mm_RM_collect.2.1 4 = .ok (.iload_n 2, 1) ∧ 4 + 1 = 5 := ⟨by decide +kernel, rfl⟩
theorem d_RM_collect_5 : decode mm_RM_collect.2.1 5 = .ok (.aload_n 0, 1) ∧ 5 + 1 = 6 := ⟨by decide +kernel, rfl⟩
theorem d_RM_collect_6 : decode mm_RM_collect.2.1 6 = .ok (.getfield 155, 3) ∧ 6 + 3 = 9 := ⟨by decide +kernel, rfl⟩
theorem d_RM_collect_9 : decode mm_RM_collect.2.1 9 = .ok (.if_icmp .gt 21, 3) ∧ 9 + 3 = 12 ∧ ((9 : Nat) : Int) + (21) = ((30 : Nat) : Int) := ⟨by decide +kernel, rfl, by decide⟩
theorem d_RM_collect_12 : decode mm_RM_collect.2.1 12 = .ok (.aload_n 0, 1) ∧ 12 + 1 = 13 := ⟨by decide +kernel, rfl⟩
theorem d_RM_collect_13 : decode mm_RM_collect.2.1 13 = .ok (.getfield 79, 3) ∧ 13 + 3 = 16 := ⟨by decide +kernel, rfl⟩
theorem d_RM_collect_16 : decode mm_RM_collect.2.1 16 = .ok (.iload_n 2, 1) ∧ 16 + 1 = 17 := ⟨by decide +kernel, rfl⟩
theorem d_RM_collect_17 : decode mm_RM_collect.2.1 17 = .ok (.aload_n 0, 1) ∧ 17 + 1 = 18 := ⟨by decide +kernel, rfl⟩
theorem d_RM_collect_18 : decode mm_RM_collect.2.1 18 = .ok (.getfield 76, 3) ∧ 18 + 3 = 21 := ⟨by decide +kernel, rfl⟩
theorem d_RM_collect_21 : decode mm_RM_collect.2.1 21 = .ok (.iload_n 2, 1) ∧ 21 + 1 = 22 := ⟨by decide +kernel, rfl⟩
theorem d_RM_collect_22 : decode mm_RM_collect.2.1 22 = .ok (.baload, 1) ∧ 22 + 1 = 23 := ⟨by decide +kernel, rfl⟩
theorem d_RM_collect_23 : decode mm_RM_collect.2.1 23 = .ok (.bastore, 1) ∧ 23 + 1 = 24 := ⟨by decide +kernel, rfl⟩
theorem d_RM_collect_24 : decode mm_RM_collect.2.1 24 = .ok (.iinc 2 1, 3) ∧ 24 + 3 = 27 := ⟨by decide +kernel, rfl⟩
theorem d_RM_collect_27 : decode mm_RM_collect.2.1 27 = .ok (.goto (-23), 3) ∧ 27 + 3 = 30 ∧ ((27 : Nat) : Int) + (-23) = ((4 : Nat) : Int) := ⟨by decide +kernel, rfl, by decide⟩
theorem d_RM_collect_30 : decode mm_RM_collect.2.1 30 = .ok (.aload_n 0, 1) ∧ 30 + 1 = 31 := ⟨by decide +kernel, rfl⟩
theorem d_RM_collect_31 : decode mm_RM_collect.2.1 31 = .ok (.getfield 155, 3) ∧ 31 + 3 = 34 := ⟨by decide +kernel, rfl⟩
theorem d_RM_collect_34 : decode mm_RM_collect.2.1 34 = .ok (.istore_n 2, 1) ∧ 34 + 1 = 35 := ⟨by decide +kernel, rfl⟩
theorem d_RM_collect_35 : decode mm_RM_collect.2.1 35 = .ok (.iload_n 2, 1) ∧ 35 + 1 = 36 := ⟨by decide +kernel, rfl⟩
theorem d_RM_collect_36 : decode mm_RM_collect.2.1 36 = .ok (.iconst 1, 1) ∧ 36 + 1 = 37 := ⟨by decide +kernel, rfl⟩
theorem d_RM_collect_37 : decode mm_RM_collect.2.1 37 = .ok (.if_icmp .lt 102, 3) ∧ 37 + 3 = 40 ∧ ((37 : Nat) : Int) + (102) = ((139 : Nat) : Int) := ⟨by decide +kernel, rfl, by decide⟩
theorem d_RM_collect_40 : decode mm_RM_collect.2.1 40 = .ok (.iconst 0, 1) ∧ 40 + 1 = 41 := ⟨by decide +kernel, rfl⟩
theorem d_RM_collect_41 : decode mm_RM_collect.2.1 41 = .ok (.istore_n 3, 1) ∧ 41 + 1 = 42 := ⟨by decide +kernel, rfl⟩
theorem d_RM_collect_42 : decode mm_RM_collect.2.1 42 = .ok (.iload_n 3, 1) ∧ 42 + 1 = 43 := ⟨by decide +kernel, rfl⟩
theorem d_RM_collect_43 : decode mm_RM_collect.2.1 43 = .ok (.aload_n 0, 1) ∧ 43 + 1 = 44 := ⟨by decide +kernel, rfl⟩
theorem d_RM_collect_44 : decode mm_RM_collect.2.1 44 = .ok (.getfield 64, 3) ∧ 44 + 3 = 47 := ⟨by decide +kernel, rfl⟩
theorem d_RM_collect_47 : decode mm_RM_collect.2.1 47 = .ok (.iload_n 2, 1) ∧ 47 + 1 = 48 := ⟨by decide +kernel, rfl⟩
theorem d_RM_collect_48 : decode mm_RM_collect.2.1 48 = .ok (.iaload, 1) ∧ 48 + 1 = 49 := ⟨by decide +kernel, rfl⟩
theorem d_RM_collect_49 : decode mm_RM_collect.2.1 49 = .ok (.if_icmp .ge 56, 3) ∧ 49 + 3 = 52 ∧ ((49 : Nat) : Int) + (56) = ((105 : Nat) : Int) := ⟨by decide +kernel, rfl, by decide⟩
theorem d_RM_collect_52 : decode mm_RM_collect.2.1 52 = .ok (.aload_n 0, 1) ∧ 52 + 1 = 53 := ⟨by decide +kernel, rfl⟩
theorem d_RM_collect_53 : decode mm_RM_collect.2.1 53 = .ok (.getfield 79, 3) ∧ 53 + 3 = 56 := ⟨by decide +kernel, rfl⟩
theorem d_RM_collect_56 : decode mm_RM_collect.2.1 56 = .ok (.iload_n 2, 1) ∧ 56 + 1 = 57 := ⟨by decide +kernel, rfl⟩
theorem d_RM_collect_57 : decode mm_RM_collect.2.1 57 = .ok (.baload, 1) ∧ 57 + 1 = 58 := ⟨by decide +kernel, rfl⟩
theorem d_RM_collect_58 : decode mm_RM_collect.2.1 58 = .ok (.ifCond .eq 41, 3) ∧ 58 + 3 = 61 ∧ ((58 : Nat) : Int) + (41) = ((99 : Nat) : Int) := ⟨by decide +kernel, rfl, by decide⟩
theorem d_RM_collect_61 : decode mm_RM_collect.2.1 61 = .ok (.aload_n 0, 1) ∧ 61 + 1 = 62 := ⟨by decide +kernel, rfl⟩
theorem d_RM_collect_62 : decode mm_RM_collect.2.1 62 = .ok (.aload_n 0, 1) ∧ 62 + 1 = 63 := ⟨by decide +kernel, rfl⟩
theorem d_RM_collect_63 : decode mm_RM_collect.2.1 63 = .ok (.getfield 67, 3) ∧ 63 + 3 = 66 := ⟨by decide +kernel, rfl⟩
theorem d_RM_collect_66 : decode mm_RM_collect.2.1 66 = .ok (.iload_n 2, 1) ∧ 66 + 1 = 67 := ⟨by decide +kernel, rfl⟩
theorem d_RM_collect_67 : decode mm_RM_collect.2.1 67 = .ok (.iconst 4, 1) ∧ 67 + 1 = 68 := ⟨by decide +kernel, rfl⟩
theorem d_RM_collect_68 : decode mm_RM_collect.2.1 68 = .ok (.imul, 1) ∧ 68 + 1 = 69 := ⟨by decide +kernel, rfl⟩
theorem d_RM_collect_69 : decode mm_RM_collect.2.1 69 = .ok (.iload_n 3, 1) ∧ 69 + 1 = 70 := ⟨by decide +kernel, rfl⟩
theorem d_RM_collect_70 : decode mm_RM_collect.2.1 70 = .ok (.iadd, 1) ∧ 70 + 1 = 71 := ⟨by decide +kernel, rfl⟩
theorem d_RM_collect_71 : decode mm_RM_collect.2.1 71 = .ok (.laload, 1) ∧ 71 + 1 = 72 := ⟨by decide +kernel, rfl⟩
theorem d_RM_collect_72 : decode mm_RM_collect.2.1 72 = .ok (.invokevirtual 151, 3) ∧ 72 + 3 = 75 := ⟨by decide +kernel, rfl⟩
theorem d_RM_collect_75 : decode mm_RM_collect.2.1 75 = .ok (.ifCond .ne 24, 3) ∧ 75 + 3 = 78 ∧ ((75 : Nat) : Int) + (24) = ((99 : Nat) : Int) := ⟨by decide +kernel, rfl, by decide⟩
theorem d_RM_collect_78 : decode mm_RM_collect.2.1 78 = .ok (.aload_n 0, 1) ∧ 78 + 1 = 79 := ⟨by decide +kernel, rfl⟩
theorem d_RM_collect_79 : decode mm_RM_collect.2.1 79 = .ok (.getfield 79, 3) ∧ 79 + 3 = 82 := ⟨by decide +kernel, rfl⟩
theorem d_RM_collect_82 : decode mm_RM_collect.2.1 82 = .ok (.aload_n 0, 1) ∧ 82 + 1 = 83 := ⟨by decide +kernel, rfl⟩
theorem d_RM_collect_83 : decode mm_RM_collect.2.1 83 = .ok (.getfield 67, 3) ∧ 83 + 3 = 86 := ⟨by decide +kernel, rfl⟩
theorem d_RM_collect_86 : decode mm_RM_collect.2.1 86 = .ok (.iload_n 2, 1) ∧ 86 + 1 = 87 := ⟨by decide +kernel, rfl⟩
theorem d_RM_collect_87 : decode mm_RM_collect.2.1 87 = .ok (.iconst 4, 1) ∧ 87 + 1 = 88 := ⟨by decide +kernel, rfl⟩
theorem d_RM_collect_88 : decode mm_RM_collect.2.1 88 = .ok (.imul, 1) ∧ 88 + 1 = 89 := ⟨by decide +kernel, rfl⟩
theorem d_RM_collect_89 : decode mm_RM_collect.2.1 89 = .ok (.iload_n 3, 1) ∧ 89 + 1 = 90 := ⟨by decide +kernel, rfl⟩
theorem d_RM_collect_90 : decode mm_RM_collect.2.1 90 = .ok (.iadd, 1) ∧ 90 + 1 = 91 := ⟨by decide +kernel, rfl⟩
theorem d_RM_collect_91 : decode mm_RM_collect.2.1 91 = .ok (.laload, 1) ∧ 91 + 1 = 92 := ⟨by decide +kernel, rfl⟩
theorem d_RM_collect_92 : decode mm_RM_collect.2.1 92 = .ok (.ldc2_w 158, 3) ∧ 92 + 3 = 95 := ⟨by decide +kernel, rfl⟩
theorem d_RM_collect_95 : decode mm_RM_collect.2.1 95 = .ok (.lsub, 1) ∧ 95 + 1 = 96 := ⟨by decide +kernel, rfl⟩
theorem d_RM_collect_96 : decode mm_RM_collect.2.1 96 = .ok (.l2i, 1) ∧ 96 + 1 = 97 := ⟨by decide +kernel, rfl⟩
theorem d_RM_collect_97 : decode mm_RM_collect.2.1 97 = .ok (.iconst 1, 1) ∧ 97 + 1 = 98 := ⟨by decide +kernel, rfl⟩
theorem d_RM_collect_98 : decode mm_RM_collect.2.1 98 = .ok (.bastore, 1) ∧ 98 + 1 = 99 := ⟨by decide +kernel, rfl⟩
theorem d_RM_collect_99 : decode mm_RM_collect.2.1 99 = .ok (.iinc 3 1, 3) ∧ 99 + 3 = 102 := ⟨by decide +kernel, rfl⟩
theorem d_RM_collect_102 : decode mm_RM_collect.2.1 102 = .ok (.goto (-60), 3) ∧ 102 + 3 = 105 ∧ ((102 : Nat) : Int) + (-60) = ((42 : Nat) : Int) := ⟨by decide +kernel, rfl, by decide⟩
theorem d_RM_collect_105 : decode mm_RM_collect.2.1 105 = .ok (.aload_n 0, 1) ∧ 105 + 1 = 106 := ⟨by decide +kernel, rfl⟩
theorem d_RM_collect_106 : decode mm_RM_collect.2.1 106 = .ok (.getfield 70, 3) ∧ 106 + 3 = 109 := ⟨by decide +kernel, rfl⟩
theorem d_RM_collect_109 : decode mm_RM_collect.2.1 109 = .ok (.iload_n 2, 1) ∧ 109 + 1 = 110 := ⟨by decide +kernel, rfl⟩
theorem d_RM_collect_110 : decode mm_RM_collect.2.1 110 = .ok (.baload, 1) ∧ 110 + 1 = 111 := ⟨by decide +kernel, rfl⟩
theorem d_RM_collect_111 : decode mm_RM_collect.2.1 111 = .ok (.ifCond .eq 22, 3) ∧ 111 + 3 = 114 ∧ ((111 : Nat) : Int) + (22) = ((133 : Nat) : Int) := ⟨by decide +kernel, rfl, by decide⟩
theorem d_RM_collect_114 : decode mm_RM_collect.2.1 114 = .ok (.aload_n 0, 1) ∧ 114 + 1 = 115 := ⟨by decide +kernel, rfl⟩
theorem d_RM_collect_115 : decode mm_RM_collect.2.1 115 = .ok (.getfield 79, 3) ∧ 115 + 3 = 118 := ⟨by decide +kernel, rfl⟩
theorem d_RM_collect_118 : decode mm_RM_collect.2.1 118 = .ok (.iload_n 2, 1) ∧ 118 + 1 = 119 := ⟨by decide +kernel, rfl⟩
theorem d_RM_collect_119 : decode mm_RM_collect.2.1 119 = .ok (.baload, 1) ∧ 119 + 1 = 120 := ⟨by decide +kernel, rfl⟩
theorem d_RM_collect_120 : decode mm_RM_collect.2.1 120 = .ok (.ifCond .ne 13, 3) ∧ 120 + 3 = 123 ∧ ((120 : Nat) : Int) + (13) = ((133 : Nat) : Int) := ⟨by decide +kernel, rfl, by decide⟩
theorem d_RM_collect_123 : decode mm_RM_collect.2.1 123 = .ok (.aload_n 0, 1) ∧ 123 + 1 = 124 := ⟨by decide +kernel, rfl⟩
theorem d_RM_collect_124 : decode mm_RM_collect.2.1 124 = .ok (.getfield 70, 3) ∧ 124 + 3 = 127 := ⟨by decide +kernel, rfl⟩
theorem d_RM_collect_127 : decode mm_RM_collect.2.1 127 = .ok (.iload_n 2, 1) ∧ 127 + 1 = 128 := ⟨by decide +kernel, rfl⟩
theorem d_RM_collect_128 : decode mm_RM_collect.2.1 128 = .ok (.iconst 0, 1) ∧ 128 + 1 = 129 := ⟨by decide +kernel, rfl⟩
theorem d_RM_collect_129 : decode mm_RM_collect.2.1 129 = .ok (.bastore, 1) ∧ 129 + 1 = 130 := ⟨by decide +kernel, rfl⟩
theorem d_RM_collect_130 : decode mm_RM_collect.2.1 130 = .ok (.iinc 1 1, 3) ∧ 130 + 3 = 133 := ⟨by decide +kernel, rfl⟩
theorem d_RM_collect_133 : decode mm_RM_collect.2.1 133 = .ok (.iinc 2 (-1), 3) ∧ 133 + 3 = 136 := ⟨by decide +kernel, rfl⟩
theorem d_RM_collect_136 : decode mm_RM_collect.2.1 136 = .ok (.goto (-101), 3) ∧ 136 + 3 = 139 ∧ ((136 : Nat) : Int) + (-101) = ((35 : Nat) : Int) := ⟨by decide +kernel, rfl, by decide⟩
theorem d_RM_collect_139 : decode mm_RM_collect.2.1 139 = .ok (.iload_n 1, 1) ∧ 139 + 1 = 140 := ⟨by decide +kernel, rfl⟩
theorem d_RM_collect_140 : decode mm_RM_collect.2.1 140 = .ok (.ireturn, 1) := by decide +kernel
theorem d_RM_input_0 : decode mm_RM_input.2.1 0 = .ok (.aload_n 0, 1) ∧ 0 + 1 = 1 := ⟨by decide +kernel, rfl⟩
theorem d_RM_input_1 : decode mm_RM_input.2.1 1 = .ok (.iload_n 1, 1) ∧ 1 + 1 = 2 := ⟨by decide +kernel, rfl⟩
theorem d_RM_input_2 : decode mm_RM_input.2.1 2 = .ok (.invokevirtual 208, 3) ∧ 2 + 3 = 5 := ⟨by decide +kernel, rfl⟩
theorem d_RM_input_5 : decode mm_RM_input.2.1 5 = .ok (.ifCond .ne 17, 3) ∧ 5 + 3 = 8 ∧ ((5 : Nat) : Int) + (17) = ((22 : Nat) : Int) := ⟨by decide +kernel, rfl, by decide⟩
theorem d_RM_input_8 : decode mm_RM_input.2.1 8 = .ok (.iload_n 2, 1) ∧ 8 + 1 = 9 := ⟨by decide +kernel, rfl⟩
theorem d_RM_input_9 : decode mm_RM_input.2.1 9 = .ok (.ifCond .lt 13, 3) ∧ 9 + 3 = 12 ∧ ((9 : Nat) : Int) + (13) = ((22 : Nat) : Int) := ⟨by decide +kernel, rfl, by decide⟩
theorem d_RM_input_12 : decode mm_RM_input.2.1 12 = .ok (.iload_n 2, 1) ∧ 12 + 1 = 13 := ⟨by decide +kernel, rfl⟩
theorem d_RM_input_13 : decode mm_RM_input.2.1 13 = .ok (.aload_n 0, 1) ∧ 13 + 1 = 14 := ⟨by decide +kernel, rfl⟩
theorem d_RM_input_14 : decode mm_RM_input.2.1 14 = .ok (.getfield 64, 3) ∧ 14 + 3 = 17 := ⟨by decide +kernel, rfl⟩
theorem d_RM_input_17 : decode mm_RM_input.2.1 17 = .ok (.iload_n 1, 1) ∧ 17 + 1 = 18 := ⟨by decide +kernel, rfl⟩
theorem d_RM_input_18 : decode mm_RM_input.2.1 18 = .ok (.iaload, 1) ∧ 18 + 1 = 19 := ⟨by decide +kernel, rfl⟩
theorem d_RM_input_19 : decode mm_RM_input.2.1 19 = .ok (.if_icmp .lt 9, 3) ∧ 19 + 3 = 22 ∧ ((19 : Nat) : Int) + (9) = ((28 : Nat) : Int) := ⟨by decide +kernel, rfl, by decide⟩
theorem d_RM_input_22 : decode mm_RM_input.2.1 22 = .ok (.ldc2_w 206, 3) ∧ 22 + 3 = 25 := ⟨by decide +kernel, rfl⟩
theorem d_RM_input_25 : decode mm_RM_input.2.1 25 = .ok (.goto 13, 3) ∧ 25 + 3 = 28 ∧ ((25 : Nat) : Int) + (13) = ((38 : Nat) : Int) := ⟨by decide +kernel, rfl, by decide⟩
theorem d_RM_input_28 : decode mm_RM_input.2.1 28 = .ok (.aload_n 0, 1) ∧ 28 + 1 = 29 := ⟨by decide +kernel, rfl⟩
theorem d_RM_input_29 : decode mm_RM_input.2.1 29 = .ok (.getfield 67, 3) ∧ 29 + 3 = 32 := ⟨by decide +kernel, rfl⟩
theorem d_RM_input_32 : decode mm_RM_input.2.1 32 = .ok (.iload_n 1, 1) ∧ 32 + 1 = 33 := ⟨by decide +kernel, rfl⟩
theorem d_RM_input_33 : decode mm_RM_input.2.1 33 = .ok (.iconst 4, 1) ∧ 33 + 1 = 34 := ⟨by decide +kernel, rfl⟩
theorem d_RM_input_34 : decode mm_RM_input.2.1 34 = .ok (.imul, 1) ∧ 34 + 1 = 35 := ⟨by decide +kernel, rfl⟩
theorem d_RM_input_35 : decode mm_RM_input.2.1 35 = .ok (.iload_n 2, 1) ∧ 35 + 1 = 36 := ⟨by decide +kernel, rfl⟩
theorem d_RM_input_36 : decode mm_RM_input.2.1 36 = .ok (.iadd, 1) ∧ 36 + 1 = 37 := ⟨by decide +kernel, rfl⟩
theorem d_RM_input_37 : decode mm_RM_input.2.1 37 = .ok (.laload, 1) ∧ 37 + 1 = 38 := ⟨by decide +kernel, rfl⟩
theorem d_RM_input_38 : decode mm_RM_input.2.1 38 = .ok (.lreturn, 1) := by decide +kernel
theorem d_RM_plan_0 : decode mm_RM_plan.2.1 0 = .ok (.aload_n 0, 1) ∧ 0 + 1 = 1 := ⟨by decide +kernel, rfl⟩
theorem d_RM_plan_1 : decode mm_RM_plan.2.1 1 = .ok (.iload_n 1, 1) ∧ 1 + 1 = 2 := ⟨by decide +kernel, rfl⟩
theorem d_RM_plan_2 : decode mm_RM_plan.2.1 2 = .ok (.invokevirtual 208, 3) ∧ 2 + 3 = 5 := ⟨by decide +kernel, rfl⟩
theorem d_RM_plan_5 : decode mm_RM_plan.2.1 5 = .ok (.ifCond .ne 12, 3) ∧ 5 + 3 = 8 ∧ ((5 : Nat) : Int) + (12) = ((17 : Nat) : Int) := ⟨by decide +kernel, rfl, by decide⟩
theorem d_RM_plan_8 : decode mm_RM_plan.2.1 8 = .ok (.iload_n 2, 1) ∧ 8 + 1 = 9 := ⟨by decide +kernel, rfl⟩
theorem d_RM_plan_9 : decode mm_RM_plan.2.1 9 = .ok (.ifCond .lt 8, 3) ∧ 9 + 3 = 12 ∧ ((9 : Nat) : Int) + (8) = ((17 : Nat) : Int) := ⟨by decide +kernel, rfl, by decide⟩
theorem d_RM_plan_12 : decode mm_RM_plan.2.1 12 = .ok (.iload_n 2, 1) ∧ 12 + 1 = 13 := ⟨by decide +kernel, rfl⟩
theorem d_RM_plan_13 : decode mm_RM_plan.2.1 13 = .ok (.iconst 4, 1) ∧ 13 + 1 = 14 := ⟨by decide +kernel, rfl⟩
theorem d_RM_plan_14 : decode mm_RM_plan.2.1 14 = .ok (.if_icmp .le 5, 3) ∧ 14 + 3 = 17 ∧ ((14 : Nat) : Int) + (5) = ((19 : Nat) : Int) := ⟨by decide +kernel, rfl, by decide⟩
theorem d_RM_plan_17 : decode mm_RM_plan.2.1 17 = .ok (.iconst (-1), 1) ∧ 17 + 1 = 18 := ⟨by decide +kernel, rfl⟩
theorem d_RM_plan_18 : decode mm_RM_plan.2.1 18 = .ok (.ireturn, 1) := by decide +kernel
theorem d_RM_plan_19 : decode mm_RM_plan.2.1 19 = .ok (.iload_n 2, 1) ∧ 19 + 1 = 20 := ⟨by decide +kernel, rfl⟩
theorem d_RM_plan_20 : decode mm_RM_plan.2.1 20 = .ok (.ifCond .ne 10, 3) ∧ 20 + 3 = 23 ∧ ((20 : Nat) : Int) + (10) = ((30 : Nat) : Int) := ⟨by decide +kernel, rfl, by decide⟩
theorem d_RM_plan_23 : decode mm_RM_plan.2.1 23 = .ok (.aload_n 0, 1) ∧ 23 + 1 = 24 := ⟨by decide +kernel, rfl⟩
theorem d_RM_plan_24 : decode mm_RM_plan.2.1 24 = .ok (.getfield 61, 3) ∧ 24 + 3 = 27 := ⟨by decide +kernel, rfl⟩
theorem d_RM_plan_27 : decode mm_RM_plan.2.1 27 = .ok (.iload_n 1, 1) ∧ 27 + 1 = 28 := ⟨by decide +kernel, rfl⟩
theorem d_RM_plan_28 : decode mm_RM_plan.2.1 28 = .ok (.iaload, 1) ∧ 28 + 1 = 29 := ⟨by decide +kernel, rfl⟩
theorem d_RM_plan_29 : decode mm_RM_plan.2.1 29 = .ok (.ireturn, 1) := by decide +kernel
theorem d_RM_plan_30 : decode mm_RM_plan.2.1 30 = .ok (.iload_n 2, 1) ∧ 30 + 1 = 31 := ⟨by decide +kernel, rfl⟩
theorem d_RM_plan_31 : decode mm_RM_plan.2.1 31 = .ok (.iconst 1, 1) ∧ 31 + 1 = 32 := ⟨by decide +kernel, rfl⟩
theorem d_RM_plan_32 : decode mm_RM_plan.2.1 32 = .ok (.if_icmp .ne 10, 3) ∧ 32 + 3 = 35 ∧ ((32 : Nat) : Int) + (10) = ((42 : Nat) : Int) := ⟨by decide +kernel, rfl, by decide⟩
theorem d_RM_plan_35 : decode mm_RM_plan.2.1 35 = .ok (.aload_n 0, 1) ∧ 35 + 1 = 36 := ⟨by decide +kernel, rfl⟩
theorem d_RM_plan_36 : decode mm_RM_plan.2.1 36 = .ok (.getfield 64, 3) ∧ 36 + 3 = 39 := ⟨by decide +kernel, rfl⟩
theorem d_RM_plan_39 : decode mm_RM_plan.2.1 39 = .ok (.iload_n 1, 1) ∧ 39 + 1 = 40 := ⟨by decide +kernel, rfl⟩
theorem d_RM_plan_40 : decode mm_RM_plan.2.1 40 = .ok (.iaload, 1) ∧ 40 + 1 = 41 := ⟨by decide +kernel, rfl⟩
theorem d_RM_plan_41 : decode mm_RM_plan.2.1 41 = .ok (.ireturn, 1) := by decide +kernel
theorem d_RM_plan_42 : decode mm_RM_plan.2.1 42 = .ok (.iload_n 2, 1) ∧ 42 + 1 = 43 := ⟨by decide +kernel, rfl⟩
theorem d_RM_plan_43 : decode mm_RM_plan.2.1 43 = .ok (.iconst 2, 1) ∧ 43 + 1 = 44 := ⟨by decide +kernel, rfl⟩
theorem d_RM_plan_44 : decode mm_RM_plan.2.1 44 = .ok (.if_icmp .ne 18, 3) ∧ 44 + 3 = 47 ∧ ((44 : Nat) : Int) + (18) = ((62 : Nat) : Int) := ⟨by decide +kernel, rfl, by decide⟩
theorem d_RM_plan_47 : decode mm_RM_plan.2.1 47 = .ok (.aload_n 0, 1) ∧ 47 + 1 = 48 := ⟨by decide +kernel, rfl⟩
theorem d_RM_plan_48 : decode mm_RM_plan.2.1 48 = .ok (.getfield 70, 3) ∧ 48 + 3 = 51 := ⟨by decide +kernel, rfl⟩
theorem d_RM_plan_51 : decode mm_RM_plan.2.1 51 = .ok (.iload_n 1, 1) ∧ 51 + 1 = 52 := ⟨by decide +kernel, rfl⟩
theorem d_RM_plan_52 : decode mm_RM_plan.2.1 52 = .ok (.baload, 1) ∧ 52 + 1 = 53 := ⟨by decide +kernel, rfl⟩
theorem d_RM_plan_53 : decode mm_RM_plan.2.1 53 = .ok (.ifCond .eq 7, 3) ∧ 53 + 3 = 56 ∧ ((53 : Nat) : Int) + (7) = ((60 : Nat) : Int) := ⟨by decide +kernel, rfl, by decide⟩
theorem d_RM_plan_56 : decode mm_RM_plan.2.1 56 = .ok (.iconst 1, 1) ∧ 56 + 1 = 57 := ⟨by decide +kernel, rfl⟩
theorem d_RM_plan_57 : decode mm_RM_plan.2.1 57 = .ok (.goto 4, 3) ∧ 57 + 3 = 60 ∧ ((57 : Nat) : Int) + (4) = ((61 : Nat) : Int) := ⟨by decide +kernel, rfl, by decide⟩
theorem d_RM_plan_60 : decode mm_RM_plan.2.1 60 = .ok (.iconst 0, 1) ∧ 60 + 1 = 61 := ⟨by decide +kernel, rfl⟩
theorem d_RM_plan_61 : decode mm_RM_plan.2.1 61 = .ok (.ireturn, 1) := by decide +kernel
theorem d_RM_plan_62 : decode mm_RM_plan.2.1 62 = .ok (.iload_n 2, 1) ∧ 62 + 1 = 63 := ⟨by decide +kernel, rfl⟩
theorem d_RM_plan_63 : decode mm_RM_plan.2.1 63 = .ok (.iconst 3, 1) ∧ 63 + 1 = 64 := ⟨by decide +kernel, rfl⟩
theorem d_RM_plan_64 : decode mm_RM_plan.2.1 64 = .ok (.if_icmp .ne 23, 3) ∧ 64 + 3 = 67 ∧ ((64 : Nat) : Int) + (23) = ((87 : Nat) : Int) := ⟨by decide +kernel, rfl, by decide⟩
theorem d_RM_plan_67 : decode mm_RM_plan.2.1 67 = .ok (.aload_n 0, 1) ∧ 67 + 1 = 68 := ⟨by decide +kernel, rfl⟩
theorem d_RM_plan_68 : decode mm_RM_plan.2.1 68 = .ok (.getfield 70, 3) ∧ 68 + 3 = 71 := ⟨by decide +kernel, rfl⟩
theorem d_RM_plan_71 : decode mm_RM_plan.2.1 71 = .ok (.iload_n 1, 1) ∧ 71 + 1 = 72 := ⟨by decide +kernel, rfl⟩
theorem d_RM_plan_72 : decode mm_RM_plan.2.1 72 = .ok (.baload, 1) ∧ 72 + 1 = 73 := ⟨by decide +kernel, rfl⟩
theorem d_RM_plan_73 : decode mm_RM_plan.2.1 73 = .ok (.ifCond .eq 12, 3) ∧ 73 + 3 = 76 ∧ ((73 : Nat) : Int) + (12) = ((85 : Nat) : Int) := ⟨by decide +kernel, rfl, by decide⟩
theorem d_RM_plan_76 : decode mm_RM_plan.2.1 76 = .ok (.aload_n 0, 1) ∧ 76 + 1 = 77 := ⟨by decide +kernel, rfl⟩
theorem d_RM_plan_77 : decode mm_RM_plan.2.1 77 = .ok (.getfield 73, 3) ∧ 77 + 3 = 80 := ⟨by decide +kernel, rfl⟩
theorem d_RM_plan_80 : decode mm_RM_plan.2.1 80 = .ok (.iload_n 1, 1) ∧ 80 + 1 = 81 := ⟨by decide +kernel, rfl⟩
theorem d_RM_plan_81 : decode mm_RM_plan.2.1 81 = .ok (.iaload, 1) ∧ 81 + 1 = 82 := ⟨by decide +kernel, rfl⟩
theorem d_RM_plan_82 : decode mm_RM_plan.2.1 82 = .ok (.goto 4, 3) ∧ 82 + 3 = 85 ∧ ((82 : Nat) : Int) + (4) = ((86 : Nat) : Int) := ⟨by decide +kernel, rfl, by decide⟩
theorem d_RM_plan_85 : decode mm_RM_plan.2.1 85 = .ok (.iconst 0, 1) ∧ 85 + 1 = 86 := ⟨by decide +kernel, rfl⟩
theorem d_RM_plan_86 : decode mm_RM_plan.2.1 86 = .ok (.ireturn, 1) := by decide +kernel
theorem d_RM_plan_87 : decode mm_RM_plan.2.1 87 = .ok (.aload_n 0, 1) ∧ 87 + 1 = 88 := ⟨by decide +kernel, rfl⟩
theorem d_RM_plan_88 : decode mm_RM_plan.2.1 88 = .ok (.getfield 76, 3) ∧ 88 + 3 = 91 := ⟨by decide +kernel, rfl⟩
theorem d_RM_plan_91 : decode mm_RM_plan.2.1 91 = .ok (.iload_n 1, 1) ∧ 91 + 1 = 92 := ⟨by decide +kernel, rfl⟩
theorem d_RM_plan_92 : decode mm_RM_plan.2.1 92 = .ok (.baload, 1) ∧ 92 + 1 = 93 := ⟨by decide +kernel, rfl⟩
theorem d_RM_plan_93 : decode mm_RM_plan.2.1 93 = .ok (.ifCond .eq 7, 3) ∧ 93 + 3 = 96 ∧ ((93 : Nat) : Int) + (7) = ((100 : Nat) : Int) := ⟨by decide +kernel, rfl, by decide⟩
theorem d_RM_plan_96 : decode mm_RM_plan.2.1 96 = .ok (.iconst 1, 1) ∧ 96 + 1 = 97 := ⟨by decide +kernel, rfl⟩
theorem d_RM_plan_97 : decode mm_RM_plan.2.1 97 = .ok (.goto 4, 3) ∧ 97 + 3 = 100 ∧ ((97 : Nat) : Int) + (4) = ((101 : Nat) : Int) := ⟨by decide +kernel, rfl, by decide⟩
theorem d_RM_plan_100 : decode mm_RM_plan.2.1 100 = .ok (.iconst 0, 1) ∧ 100 + 1 = 101 := ⟨by decide +kernel, rfl⟩
theorem d_RM_plan_101 : decode mm_RM_plan.2.1 101 = .ok (.ireturn, 1) := by decide +kernel
theorem d_RM_count_0 : decode mm_RM_count.2.1 0 = .ok (.iconst 0, 1) ∧ 0 + 1 = 1 := ⟨by decide +kernel, rfl⟩
theorem d_RM_count_1 : decode mm_RM_count.2.1 1 = .ok (.istore_n 2, 1) ∧ 1 + 1 = 2 := ⟨by decide +kernel, rfl⟩
theorem d_RM_count_2 : decode mm_RM_count.2.1 2 = .ok (.iload_n 1, 1) ∧ 2 + 1 = 3 := ⟨by decide +kernel, rfl⟩
theorem d_RM_count_3 : decode mm_RM_count.2.1 3 = .ok (.ifCond .ne 8, 3) ∧ 3 + 3 = 6 ∧ ((3 : Nat) : Int) + (8) = ((11 : Nat) : Int) := ⟨by decide +kernel, rfl, by decide⟩
theorem d_RM_count_6 : decode mm_RM_count.2.1 6 = .ok (.aload_n 0, 1) ∧ 6 + 1 = 7 := ⟨by decide +kernel, rfl⟩
theorem d_RM_count_7 : decode mm_RM_count.2.1 7 = .ok (.getfield 155, 3) ∧ 7 + 3 = 10 := ⟨by decide +kernel, rfl⟩
theorem d_RM_count_10 : decode mm_RM_count.2.1 10 = .ok (.ireturn, 1) := by decide +kernel
theorem d_RM_count_11 : decode mm_RM_count.2.1 11 = .ok (.iload_n 1, 1) ∧ 11 + 1 = 12 := ⟨by decide +kernel, rfl⟩
theorem d_RM_count_12 : decode mm_RM_count.2.1 12 = .ok (.iconst 1, 1) ∧ 12 + 1 = 13 := ⟨by decide +kernel, rfl⟩
theorem d_RM_count_13 : decode mm_RM_count.2.1 13 = .ok (.if_icmp .ne 8, 3) ∧ 13 + 3 = 16 ∧ ((13 : Nat) : Int) + (8) = ((21 : Nat) : Int) := ⟨by decide +kernel, rfl, by decide⟩
theorem d_RM_count_16 : decode mm_RM_count.2.1 16 = .ok (.aload_n 0, 1) ∧ 16 + 1 = 17 := ⟨by decide +kernel, rfl⟩
theorem d_RM_count_17 : decode mm_RM_count.2.1 17 = .ok (.getfield 200, 3) ∧ 17 + 3 = 20 := ⟨by decide +kernel, rfl⟩
theorem d_RM_count_20 : decode mm_RM_count.2.1 20 = .ok (.ireturn, 1) := by decide +kernel
theorem d_RM_count_21 : decode mm_RM_count.2.1 21 = .ok (.iload_n 1, 1) ∧ 21 + 1 = 22 := ⟨by decide +kernel, rfl⟩
theorem d_RM_count_22 : decode mm_RM_count.2.1 22 = .ok (.iconst 2, 1) ∧ 22 + 1 = 23 := ⟨by decide +kernel, rfl⟩
theorem d_RM_count_23 : decode mm_RM_count.2.1 23 = .ok (.if_icmp .ne 8, 3) ∧ 23 + 3 = 26 ∧ ((23 : Nat) : Int) + (8) = ((31 : Nat) : Int) := ⟨by decide +kernel, rfl, by decide⟩
theorem d_RM_count_26 : decode mm_RM_count.2.1 26 = .ok (.aload_n 0, 1) ∧ 26 + 1 = 27 := ⟨by decide +kernel, rfl⟩
theorem d_RM_count_27 : decode mm_RM_count.2.1 27 = .ok (.getfield 133, 3) ∧ 27 + 3 = 30 := ⟨by decide +kernel, rfl⟩
theorem d_RM_count_30 : decode mm_RM_count.2.1 30 = .ok (.ireturn, 1) := by decide +kernel
theorem d_RM_count_31 : decode mm_RM_count.2.1 31 = .ok (.iload_n 1, 1) ∧ 31 + 1 = 32 := ⟨by decide +kernel, rfl⟩
theorem d_RM_count_32 : decode mm_RM_count.2.1 32 = .ok (.iconst 3, 1) ∧ 32 + 1 = 33 := ⟨by decide +kernel, rfl⟩
theorem d_RM_count_33 : decode mm_RM_count.2.1 33 = .ok (.if_icmp .ne 8, 3) ∧ 33 + 3 = 36 ∧ ((33 : Nat) : Int) + (8) = ((41 : Nat) : Int) := ⟨by decide +kernel, rfl, by decide⟩
theorem d_RM_count_36 : decode mm_RM_count.2.1 36 = .ok (.aload_n 0, 1) ∧ 36 + 1 = 37 := ⟨by decide +kernel, rfl⟩
theorem d_RM_count_37 : decode mm_RM_count.2.1 37 = .ok (.getfield 184, 3) ∧ 37 + 3 = 40 := ⟨by decide +kernel, rfl⟩
theorem d_RM_count_40 : decode mm_RM_count.2.1 40 = .ok (.ireturn, 1) := by decide +kernel
theorem d_RM_count_41 : decode mm_RM_count.2.1 41 = .ok (.iload_n 1, 1) ∧ 41 + 1 = 42 := ⟨by decide +kernel, rfl⟩
theorem d_RM_count_42 : decode mm_RM_count.2.1 42 = .ok (.iconst 4, 1) ∧ 42 + 1 = 43 := ⟨by decide +kernel, rfl⟩
theorem d_RM_count_43 : decode mm_RM_count.2.1 43 = .ok (.if_icmp .ne 11, 3) ∧ 43 + 3 = 46 ∧ ((43 : Nat) : Int) + (11) = ((54 : Nat) : Int) := ⟨by decide +kernel, rfl, by decide⟩
theorem d_RM_count_46 : decode mm_RM_count.2.1 46 = .ok (.aload_n 0, 1) ∧ 46 + 1 = 47 := ⟨by decide +kernel, rfl⟩
theorem d_RM_count_47 : decode mm_RM_count.2.1 47 = .ok (.getfield 13, 3) ∧ 47 + 3 = 50 := ⟨by decide +kernel, rfl⟩
theorem d_RM_count_50 : decode mm_RM_count.2.1 50 = .ok (.bipush 8, 2) ∧ 50 + 2 = 52 := ⟨by decide +kernel, rfl⟩
theorem d_RM_count_52 : decode mm_RM_count.2.1 52 = .ok (.iaload, 1) ∧ 52 + 1 = 53 := ⟨by decide +kernel, rfl⟩
theorem d_RM_count_53 : decode mm_RM_count.2.1 53 = .ok (.ireturn, 1) := by decide +kernel
theorem d_RM_count_54 : decode mm_RM_count.2.1 54 = .ok (.iload_n 1, 1) ∧ 54 + 1 = 55 := ⟨by decide +kernel, rfl⟩
theorem d_RM_count_55 : decode mm_RM_count.2.1 55 = .ok (.iconst 5, 1) ∧ 55 + 1 = 56 := ⟨by decide +kernel, rfl⟩
theorem d_RM_count_56 : decode mm_RM_count.2.1 56 = .ok (.if_icmp .ne 8, 3) ∧ 56 + 3 = 59 ∧ ((56 : Nat) : Int) + (8) = ((64 : Nat) : Int) := ⟨by decide +kernel, rfl, by decide⟩
theorem d_RM_count_59 : decode mm_RM_count.2.1 59 = .ok (.aload_n 0, 1) ∧ 59 + 1 = 60 := ⟨by decide +kernel, rfl⟩
theorem d_RM_count_60 : decode mm_RM_count.2.1 60 = .ok (.getfield 30, 3) ∧ 60 + 3 = 63 := ⟨by decide +kernel, rfl⟩
theorem d_RM_count_63 : decode mm_RM_count.2.1 63 = .ok (.ireturn, 1) := by decide +kernel
theorem d_RM_count_64 : decode mm_RM_count.2.1 64 = .ok (.iload_n 1, 1) ∧ 64 + 1 = 65 := ⟨by decide +kernel, rfl⟩
theorem d_RM_count_65 : decode mm_RM_count.2.1 65 = .ok (.bipush 6, 2) ∧ 65 + 2 = 67 := ⟨by decide +kernel, rfl⟩
theorem d_RM_count_67 : decode mm_RM_count.2.1 67 = .ok (.if_icmp .eq 11, 3) ∧ 67 + 3 = 70 ∧ ((67 : Nat) : Int) + (11) = ((78 : Nat) : Int) := ⟨by decide +kernel, rfl, by decide⟩
theorem d_RM_count_70 : decode mm_RM_count.2.1 70 = .ok (.iload_n 1, 1) ∧ 70 + 1 = 71 := ⟨by decide +kernel, rfl⟩
theorem d_RM_count_71 : decode mm_RM_count.2.1 71 = .ok (.bipush 7, 2) ∧ 71 + 2 = 73 := ⟨by decide +kernel, rfl⟩
theorem d_RM_count_73 : decode mm_RM_count.2.1 73 = .ok (.if_icmp .eq 5, 3) ∧ 73 + 3 = 76 ∧ ((73 : Nat) : Int) + (5) = ((78 : Nat) : Int) := ⟨by decide +kernel, rfl, by decide⟩
theorem d_RM_count_76 : decode mm_RM_count.2.1 76 = .ok (.iconst (-1), 1) ∧ 76 + 1 = 77 := ⟨by decide +kernel, rfl⟩
theorem d_RM_count_77 : decode mm_RM_count.2.1 77 = .ok (.ireturn, 1) := by decide +kernel
theorem d_RM_count_78 : decode mm_RM_count.2.1 78 = .ok (.iconst 0, 1) ∧ 78 + 1 = 79 := ⟨by decide +kernel, rfl⟩
theorem d_RM_count_79 : decode mm_RM_count.2.1 79 = .ok (.istore_n 3, 1) ∧ 79 + 1 = 80 := ⟨by decide +kernel, rfl⟩
theorem d_RM_count_80 : decode mm_RM_count.2.1 80 = .ok (.iload_n 3, 1) ∧ 80 + 1 = 81 := ⟨by decide +kernel, rfl⟩
theorem d_RM_count_81 : decode mm_RM_count.2.1 81 = .ok (.bipush 8, 2) ∧ 81 + 2 = 83 := ⟨by decide +kernel, rfl⟩
theorem d_RM_count_83 : decode mm_RM_count.2.1 83 = .ok (.if_icmp .ge 39, 3) ∧ 83 + 3 = 86 ∧ ((83 : Nat) : Int) + (39) = ((122 : Nat) : Int) := ⟨by decide +kernel, rfl, by decide⟩
theorem d_RM_count_86 : decode mm_RM_count.2.1 86 = .ok (.iload_n 1, 1) ∧ 86 + 1 = 87 := ⟨by decide +kernel, rfl⟩
theorem d_RM_count_87 : decode mm_RM_count.2.1 87 = .ok (.bipush 6, 2) ∧ 87 + 2 = 89 := ⟨by decide +kernel, rfl⟩
theorem d_RM_count_89 : decode mm_RM_count.2.1 89 = .ok (.if_icmp .ne 15, 3) ∧ 89 + 3 = 92 ∧ ((89 : Nat) : Int) + (15) = ((104 : Nat) : Int) := ⟨by decide +kernel, rfl, by decide⟩
theorem d_RM_count_92 : decode mm_RM_count.2.1 92 = .ok (.aload_n 0, 1) ∧ 92 + 1 = 93 := ⟨by decide +kernel, rfl⟩
theorem d_RM_count_93 : decode mm_RM_count.2.1 93 = .ok (.getfield 24, 3) ∧ 93 + 3 = 96 := ⟨by decide +kernel, rfl⟩
theorem d_RM_count_96 : decode mm_RM_count.2.1 96 = .ok (.iload_n 3, 1) ∧ 96 + 1 = 97 := ⟨by decide +kernel, rfl⟩
theorem d_RM_count_97 : decode mm_RM_count.2.1 97 = .ok (.baload, 1) ∧ 97 + 1 = 98 := ⟨by decide +kernel, rfl⟩
theorem d_RM_count_98 : decode mm_RM_count.2.1 98 = .ok (.ifCond .eq 18, 3) ∧ 98 + 3 = 101 ∧ ((98 : Nat) : Int) + (18) = ((116 : Nat) : Int) := ⟨by decide +kernel, rfl, by decide⟩
theorem d_RM_count_101 : decode mm_RM_count.2.1 101 = .ok (.goto 12, 3) ∧ 101 + 3 = 104 ∧ ((101 : Nat) : Int) + (12) = ((113 : Nat) : Int) := ⟨by decide +kernel, rfl, by decide⟩
theorem d_RM_count_104 : decode mm_RM_count.2.1 104 = .ok (.aload_n 0, 1) ∧ 104 + 1 = 105 := ⟨by decide +kernel, rfl⟩
theorem d_RM_count_105 : decode mm_RM_count.2.1 105 = .ok (.getfield 20, 3) ∧ 105 + 3 = 108 := ⟨by decide +kernel, rfl⟩
theorem d_RM_count_108 : decode mm_RM_count.2.1 108 = .ok (.iload_n 3, 1) ∧ 108 + 1 = 109 := ⟨by decide +kernel, rfl⟩
theorem d_RM_count_109 : decode mm_RM_count.2.1 109 = .ok (.baload, 1) ∧ 109 + 1 = 110 := ⟨by decide +kernel, rfl⟩
theorem d_RM_count_110 : decode mm_RM_count.2.1 110 = .ok (.ifCond .eq 6, 3) ∧ 110 + 3 = 113 ∧ ((110 : Nat) : Int) + (6) = ((116 : Nat) : Int) := ⟨by decide +kernel, rfl, by decide⟩
theorem d_RM_count_113 : decode mm_RM_count.2.1 113 = .ok (.iinc 2 1, 3) ∧ 113 + 3 = 116 := ⟨by decide +kernel, rfl⟩
theorem d_RM_count_116 : decode mm_RM_count.2.1 116 = .ok (.iinc 3 1, 3) ∧ 116 + 3 = 119 := ⟨by decide +kernel, rfl⟩
theorem d_RM_count_119 : decode mm_RM_count.2.1 119 = .ok (.goto (-39), 3) ∧ 119 + 3 = 122 ∧ ((119 : Nat) : Int) + (-39) = ((80 : Nat) : Int) := ⟨by decide +kernel, rfl, by decide⟩
theorem d_RM_count_122 : decode mm_RM_count.2.1 122 = .ok (.iload_n 2, 1) ∧ 122 + 1 = 123 := ⟨by decide +kernel, rfl⟩
theorem d_RM_count_123 : decode mm_RM_count.2.1 123 = .ok (.ireturn, 1) := by decide +kernel
