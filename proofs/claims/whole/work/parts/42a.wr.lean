set_option maxRecDepth 100000 in
theorem wr_digit_0 {l : Launch} {G : mx_G} {r d : Nat} {m : rm_M} {Q : Option Value → rm_M → Prop} (l1 : Int32) (h : ((l1 < 48 → Q (some (.int 0)) m) ∧ (¬ (l1 < 48) → ((57 < l1 → Q (some (.int 0)) m) ∧ (¬ (57 < l1) → Q (some (.int 1)) m))))) : mr_Ok l G r (d + 1) mm_RM_digit 0 [(0, .ref r), (1, .int l1)] [] m Q := by
  refine mr_start (fun hs0 hs9 h9 f9 => ?_)
  refine mx_iload_n d_RM_digit_0 rfl 1 rfl ?_
  refine mx_bipush (v := 48) d_RM_digit_1 (by decide) ?_
  refine mx_icmp_lt d_RM_digit_3 (fun c9 => ?_) (fun c9 => ?_)
  · replace h := h.1 c9
    refine mx_iconst (v := 0) d_RM_digit_16 (by decide) ?_
    exact mx_ireturn d_RM_digit_17 rfl (mx_nz (Or.inl rfl)) ⟨_, h9, f9.1, f9.2, h⟩
  · replace h := h.2 c9
    refine mx_iload_n d_RM_digit_6 rfl 1 rfl ?_
    refine mx_bipush (v := 57) d_RM_digit_7 (by decide) ?_
    refine mx_icmp_gt d_RM_digit_9 (fun c9 => ?_) (fun c9 => ?_)
    · replace h := h.1 c9
      refine mx_iconst (v := 0) d_RM_digit_16 (by decide) ?_
      exact mx_ireturn d_RM_digit_17 rfl (mx_nz (Or.inl rfl)) ⟨_, h9, f9.1, f9.2, h⟩
    · replace h := h.2 c9
      refine mx_iconst (v := 1) d_RM_digit_12 (by decide) ?_
      refine mx_goto d_RM_digit_13 ?_
      exact mx_ireturn d_RM_digit_17 rfl (mx_nz (Or.inr rfl)) ⟨_, h9, f9.1, f9.2, h⟩
set_option maxRecDepth 100000 in
theorem wr_name_0 {l : Launch} {G : mx_G} {r d : Nat} {m : rm_M} {Q : Option Value → rm_M → Prop} (l1 : Int32) (h : ((l1 < 97 → Q (some (.int 0)) m) ∧ (¬ (l1 < 97) → ((104 < l1 → Q (some (.int 0)) m) ∧ (¬ (104 < l1) → Q (some (.int 1)) m))))) : mr_Ok l G r (d + 1) mm_RM_name 0 [(0, .ref r), (1, .int l1)] [] m Q := by
  refine mr_start (fun hs0 hs9 h9 f9 => ?_)
  refine mx_iload_n d_RM_name_0 rfl 1 rfl ?_
  refine mx_bipush (v := 97) d_RM_name_1 (by decide) ?_
  refine mx_icmp_lt d_RM_name_3 (fun c9 => ?_) (fun c9 => ?_)
  · replace h := h.1 c9
    refine mx_iconst (v := 0) d_RM_name_16 (by decide) ?_
    exact mx_ireturn d_RM_name_17 rfl (mx_nz (Or.inl rfl)) ⟨_, h9, f9.1, f9.2, h⟩
  · replace h := h.2 c9
    refine mx_iload_n d_RM_name_6 rfl 1 rfl ?_
    refine mx_bipush (v := 104) d_RM_name_7 (by decide) ?_
    refine mx_icmp_gt d_RM_name_9 (fun c9 => ?_) (fun c9 => ?_)
    · replace h := h.1 c9
      refine mx_iconst (v := 0) d_RM_name_16 (by decide) ?_
      exact mx_ireturn d_RM_name_17 rfl (mx_nz (Or.inl rfl)) ⟨_, h9, f9.1, f9.2, h⟩
    · replace h := h.2 c9
      refine mx_iconst (v := 1) d_RM_name_12 (by decide) ?_
      refine mx_goto d_RM_name_13 ?_
      exact mx_ireturn d_RM_name_17 rfl (mx_nz (Or.inr rfl)) ⟨_, h9, f9.1, f9.2, h⟩
set_option maxRecDepth 100000 in
theorem wr_wants_0 {l : Launch} {G : mx_G} {r d : Nat} {m : rm_M} {Q : Option Value → rm_M → Prop} (l1 : Int32) (h : ((l1 = 43 → Q (some (.int 2)) m) ∧ (¬ (l1 = 43) → ((l1 = 45 → Q (some (.int 2)) m) ∧ (¬ (l1 = 45) → ((l1 = 42 → Q (some (.int 2)) m) ∧ (¬ (l1 = 42) → ((l1 = 60 → Q (some (.int 2)) m) ∧ (¬ (l1 = 60) → ((¬ l1 = 84 → ((¬ l1 = 63 → ((l1 = 33 → mr_Ok l G r (d + 1) mm_RM_wants 54 [] [] m Q) ∧ (¬ (l1 = 33) → ((¬ l1 = 79 → Q (some (.int 0)) m) ∧ (¬ (¬ l1 = 79) → mr_Ok l G r (d + 1) mm_RM_wants 54 [] [] m Q))))) ∧ (¬ (¬ l1 = 63) → Q (some (.int 3)) m))) ∧ (¬ (¬ l1 = 84) → Q (some (.int 2)) m))))))))))) : mr_Ok l G r (d + 1) mm_RM_wants 0 [(0, .ref r), (1, .int l1)] [] m Q := by
  refine mr_start (fun hs0 hs9 h9 f9 => ?_)
  refine mx_iload_n d_RM_wants_0 rfl 1 rfl ?_
  refine mx_bipush (v := 43) d_RM_wants_1 (by decide) ?_
  refine mx_icmp_eq d_RM_wants_3 (fun c9 => ?_) (fun c9 => ?_)
  · replace h := h.1 c9
    refine mx_iconst (v := 2) d_RM_wants_30 (by decide) ?_
    exact mx_ireturn d_RM_wants_31 rfl rfl ⟨_, h9, f9.1, f9.2, h⟩
  · replace h := h.2 c9
    refine mx_iload_n d_RM_wants_6 rfl 1 rfl ?_
    refine mx_bipush (v := 45) d_RM_wants_7 (by decide) ?_
    refine mx_icmp_eq d_RM_wants_9 (fun c9 => ?_) (fun c9 => ?_)
    · replace h := h.1 c9
      refine mx_iconst (v := 2) d_RM_wants_30 (by decide) ?_
      exact mx_ireturn d_RM_wants_31 rfl rfl ⟨_, h9, f9.1, f9.2, h⟩
    · replace h := h.2 c9
      refine mx_iload_n d_RM_wants_12 rfl 1 rfl ?_
      refine mx_bipush (v := 42) d_RM_wants_13 (by decide) ?_
      refine mx_icmp_eq d_RM_wants_15 (fun c9 => ?_) (fun c9 => ?_)
      · replace h := h.1 c9
        refine mx_iconst (v := 2) d_RM_wants_30 (by decide) ?_
        exact mx_ireturn d_RM_wants_31 rfl rfl ⟨_, h9, f9.1, f9.2, h⟩
      · replace h := h.2 c9
        refine mx_iload_n d_RM_wants_18 rfl 1 rfl ?_
        refine mx_bipush (v := 60) d_RM_wants_19 (by decide) ?_
        refine mx_icmp_eq d_RM_wants_21 (fun c9 => ?_) (fun c9 => ?_)
        · replace h := h.1 c9
          refine mx_iconst (v := 2) d_RM_wants_30 (by decide) ?_
          exact mx_ireturn d_RM_wants_31 rfl rfl ⟨_, h9, f9.1, f9.2, h⟩
        · replace h := h.2 c9
          refine mx_iload_n d_RM_wants_24 rfl 1 rfl ?_
          refine mx_bipush (v := 84) d_RM_wants_25 (by decide) ?_
          refine mx_icmp_ne d_RM_wants_27 (fun c9 => ?_) (fun c9 => ?_)
          · replace h := h.1 c9
            refine mx_iload_n d_RM_wants_32 rfl 1 rfl ?_
            refine mx_bipush (v := 63) d_RM_wants_33 (by decide) ?_
            refine mx_icmp_ne d_RM_wants_35 (fun c9 => ?_) (fun c9 => ?_)
            · replace h := h.1 c9
              refine mx_iload_n d_RM_wants_42 rfl 1 rfl ?_
              refine mx_bipush (v := 33) d_RM_wants_43 (by decide) ?_
              refine mx_icmp_eq d_RM_wants_45 (fun c9 => ?_) (fun c9 => ?_)
              · replace h := h.1 c9
                exact mx_sub [] rfl (mr_at h h9 f9)
              · replace h := h.2 c9
                refine mx_iload_n d_RM_wants_48 rfl 1 rfl ?_
                refine mx_bipush (v := 79) d_RM_wants_49 (by decide) ?_
                refine mx_icmp_ne d_RM_wants_51 (fun c9 => ?_) (fun c9 => ?_)
                · replace h := h.1 c9
                  refine mx_iconst (v := 0) d_RM_wants_58 (by decide) ?_
                  exact mx_ireturn d_RM_wants_59 rfl rfl ⟨_, h9, f9.1, f9.2, h⟩
                · replace h := h.2 c9
                  exact mx_sub [] rfl (mr_at h h9 f9)
            · replace h := h.2 c9
              refine mx_iconst (v := 3) d_RM_wants_38 (by decide) ?_
              refine mx_goto d_RM_wants_39 ?_
              exact mx_ireturn d_RM_wants_59 rfl rfl ⟨_, h9, f9.1, f9.2, h⟩
          · replace h := h.2 c9
            refine mx_iconst (v := 2) d_RM_wants_30 (by decide) ?_
            exact mx_ireturn d_RM_wants_31 rfl rfl ⟨_, h9, f9.1, f9.2, h⟩
set_option maxRecDepth 100000 in
theorem wr_wants_54 {l : Launch} {G : mx_G} {r d : Nat} {m : rm_M} {Q : Option Value → rm_M → Prop}  (h : Q (some (.int 1)) m) : mr_Ok l G r (d + 1) mm_RM_wants 54 [] [] m Q := by
  refine mr_start (fun hs0 hs9 h9 f9 => ?_)
  refine mx_iconst (v := 1) d_RM_wants_54 (by decide) ?_
  refine mx_goto d_RM_wants_55 ?_
  exact mx_ireturn d_RM_wants_59 rfl rfl ⟨_, h9, f9.1, f9.2, h⟩
set_option maxRecDepth 100000 in
theorem wr_type_0 {l : Launch} {G : mx_G} {r d : Nat} {m : rm_M} {Q : Option Value → rm_M → Prop} (l1 : Int32) (h : mr_C l G r d mm_RM_digit [.int l1] m (fun (r1 : Option Value) (m2 : rm_M) => ∃ x3 : Int32, r1 = some (.int x3) ∧ ((¬ x3 = 0 → mr_Ok l G r (d + 1) mm_RM_type 44 [(0, .ref r), (1, .int l1)] [] m2 Q) ∧ (¬ (¬ x3 = 0) → mr_C l G r d mm_RM_name [.int l1] m2 (fun (r4 : Option Value) (m5 : rm_M) => ∃ x6 : Int32, r4 = some (.int x6) ∧ ((¬ x6 = 0 → mr_Ok l G r (d + 1) mm_RM_type 44 [(0, .ref r), (1, .int l1)] [] m5 Q) ∧ (¬ (¬ x6 = 0) → mr_C l G r d mm_RM_wants [.int l1] m5 (fun (r7 : Option Value) (m8 : rm_M) => ∃ x9 : Int32, r7 = some (.int x9) ∧ ((¬ x9 = 0 → mr_Ok l G r (d + 1) mm_RM_type 44 [(0, .ref r), (1, .int l1)] [] m8 Q) ∧ (¬ (¬ x9 = 0) → ((l1 = 68 → mr_Ok l G r (d + 1) mm_RM_type 44 [(0, .ref r), (1, .int l1)] [] m8 Q) ∧ (¬ (l1 = 68) → ((l1 = 40 → mr_Ok l G r (d + 1) mm_RM_type 44 [(0, .ref r), (1, .int l1)] [] m8 Q) ∧ (¬ (l1 = 40) → ((l1 = 41 → mr_Ok l G r (d + 1) mm_RM_type 44 [(0, .ref r), (1, .int l1)] [] m8 Q) ∧ (¬ (l1 = 41) → Q (some (.int (-1))) m8)))))))))))))))) : mr_Ok l G r (d + 1) mm_RM_type 0 [(0, .ref r), (1, .int l1)] [] m Q := by
  refine mr_start (fun hs0 hs9 h9 f9 => ?_)
  refine mx_aload_nR d_RM_type_0 rfl 0 rfl ?_
  refine mx_iload_n d_RM_type_1 rfl 1 rfl ?_
  refine mx_invV (Y := mm_RM_digit) (As := [.int l1]) (rest := []) d_RM_type_2.1 ok_RM_digit kw_264 kw_265 kw_266 rfl rfl (Nat.le_of_ble_eq_true rfl) (Nat.le_of_ble_eq_true rfl) h9.1 (q := mx_cl0_6) rfl rfl (h _ h9) (fun r1 hs8 h => ?_)
  obtain ⟨m2, h9, f8, z8, h⟩ := h
  obtain ⟨x3, e9_, h⟩ := h
  subst e9_
  have f9 := mr_frc f9 f8 z8
  clear f8 z8
  show mx_Ok mx_S0 l G (d + 1) mm_RM_type 5 [(0, .ref r), (1, .int l1)] [.int x3] hs8 _
  refine mx_if_ne d_RM_type_5 (fun c9 => ?_) (fun c9 => ?_)
  · replace h := h.1 c9
    exact mx_sub [0, 1] rfl (mr_at h h9 f9)
  · replace h := h.2 c9
    refine mx_aload_nR d_RM_type_8 rfl 0 rfl ?_
    refine mx_iload_n d_RM_type_9 rfl 1 rfl ?_
    refine mx_invV (Y := mm_RM_name) (As := [.int l1]) (rest := []) d_RM_type_10.1 ok_RM_name kw_261 kw_262 kw_263 rfl rfl (Nat.le_of_ble_eq_true rfl) (Nat.le_of_ble_eq_true rfl) h9.1 (q := mx_cl0_6) rfl rfl (h _ h9) (fun r4 hs8 h => ?_)
    obtain ⟨m5, h9, f8, z8, h⟩ := h
    obtain ⟨x6, e9_, h⟩ := h
    subst e9_
    have f9 := mr_frc f9 f8 z8
    clear f8 z8
    show mx_Ok mx_S0 l G (d + 1) mm_RM_type 13 [(0, .ref r), (1, .int l1)] [.int x6] hs8 _
    refine mx_if_ne d_RM_type_13 (fun c9 => ?_) (fun c9 => ?_)
    · replace h := h.1 c9
      exact mx_sub [0, 1] rfl (mr_at h h9 f9)
    · replace h := h.2 c9
      refine mx_aload_nR d_RM_type_16 rfl 0 rfl ?_
      refine mx_iload_n d_RM_type_17 rfl 1 rfl ?_
      refine mx_invV (Y := mm_RM_wants) (As := [.int l1]) (rest := []) d_RM_type_18.1 ok_RM_wants kw_258 kw_259 kw_260 rfl rfl (Nat.le_of_ble_eq_true rfl) (Nat.le_of_ble_eq_true rfl) h9.1 (q := mx_cl0_6) rfl rfl (h _ h9) (fun r7 hs8 h => ?_)
      obtain ⟨m8, h9, f8, z8, h⟩ := h
      obtain ⟨x9, e9_, h⟩ := h
      subst e9_
      have f9 := mr_frc f9 f8 z8
      clear f8 z8
      show mx_Ok mx_S0 l G (d + 1) mm_RM_type 21 [(0, .ref r), (1, .int l1)] [.int x9] hs8 _
      refine mx_if_ne d_RM_type_21 (fun c9 => ?_) (fun c9 => ?_)
      · replace h := h.1 c9
        exact mx_sub [0, 1] rfl (mr_at h h9 f9)
      · replace h := h.2 c9
        refine mx_iload_n d_RM_type_24 rfl 1 rfl ?_
        refine mx_bipush (v := 68) d_RM_type_25 (by decide) ?_
        refine mx_icmp_eq d_RM_type_27 (fun c9 => ?_) (fun c9 => ?_)
        · replace h := h.1 c9
          exact mx_sub [0, 1] rfl (mr_at h h9 f9)
        · replace h := h.2 c9
          refine mx_iload_n d_RM_type_30 rfl 1 rfl ?_
          refine mx_bipush (v := 40) d_RM_type_31 (by decide) ?_
          refine mx_icmp_eq d_RM_type_33 (fun c9 => ?_) (fun c9 => ?_)
          · replace h := h.1 c9
            exact mx_sub [0, 1] rfl (mr_at h h9 f9)
          · replace h := h.2 c9
            refine mx_iload_n d_RM_type_36 rfl 1 rfl ?_
            refine mx_bipush (v := 41) d_RM_type_37 (by decide) ?_
            refine mx_icmp_eq d_RM_type_39 (fun c9 => ?_) (fun c9 => ?_)
            · replace h := h.1 c9
              exact mx_sub [0, 1] rfl (mr_at h h9 f9)
            · replace h := h.2 c9
              refine mx_iconst (v := -1) d_RM_type_42 (by decide) ?_
              exact mx_ireturn d_RM_type_43 rfl rfl ⟨_, h9, f9.1, f9.2, h⟩
set_option maxRecDepth 100000 in
theorem wr_type_44 {l : Launch} {G : mx_G} {r d : Nat} {m : rm_M} {Q : Option Value → rm_M → Prop} (l1 : Int32) (h : (¬ (8 : Int32) < 0 ∧ Int32.toNatClampNeg 8 < 9 ∧ ((¬ (m.1 1 (Int32.toNatClampNeg 8)) = 24 → (¬ (8 : Int32) < 0 ∧ Int32.toNatClampNeg 8 < 9 ∧ (¬ (192 + (m.1 1 (Int32.toNatClampNeg 8))) < 0 ∧ Int32.toNatClampNeg (192 + (m.1 1 (Int32.toNatClampNeg 8))) < 240 ∧ ∀ m1 : rm_M, m1 = rs_i m 0 (Int32.toNatClampNeg (192 + (m.1 1 (Int32.toNatClampNeg 8)))) l1 → (¬ (8 : Int32) < 0 ∧ Int32.toNatClampNeg 8 < 9 ∧ (¬ (8 : Int32) < 0 ∧ Int32.toNatClampNeg 8 < 9 ∧ ∀ m2 : rm_M, m2 = rs_i m1 1 (Int32.toNatClampNeg 8) ((m1.1 1 (Int32.toNatClampNeg 8)) + 1) → (¬ (8 : Int32) < 0 ∧ Int32.toNatClampNeg 8 < 9 ∧ Q (some (.int (m2.1 1 (Int32.toNatClampNeg 8)))) m2)))))) ∧ (¬ (¬ (m.1 1 (Int32.toNatClampNeg 8)) = 24) → Q (some (.int (-2))) m)))) : mr_Ok l G r (d + 1) mm_RM_type 44 [(0, .ref r), (1, .int l1)] [] m Q := by
  refine mr_start (fun hs0 hs9 h9 f9 => ?_)
  refine mx_aload_nR d_RM_type_44 rfl 0 rfl ?_
  refine mx_get d_RM_type_45 (ci := 6) (k := 1) (q := mx_cl0_6) (v := .ref (r + 2)) rfl (Nat.le_of_ble_eq_true rfl) kw_232 h9.1 rfl ?_
  refine mx_bipush (v := 8) d_RM_type_48 (by decide) ?_
  obtain ⟨e2_, e3_, h⟩ := h
  refine mx_iald d_RM_type_50 (k := 104) rfl (h9.2 1 (by decide) (by decide)) e2_ (rm_aget (by decide) e3_) ?_
  refine mx_bipush (v := 24) d_RM_type_51 (by decide) ?_
  refine mx_icmp_ne d_RM_type_53 (fun c9 => ?_) (fun c9 => ?_)
  · replace h := h.1 c9
    refine mx_aload_nR d_RM_type_59 rfl 0 rfl ?_
    refine mx_get d_RM_type_60 (ci := 6) (k := 0) (q := mx_cl0_6) (v := .ref (r + 1)) rfl (Nat.le_of_ble_eq_true rfl) kw_231 h9.1 rfl ?_
    refine mx_sipush (v := 192) d_RM_type_63 (by decide) ?_
    refine mx_aload_nR d_RM_type_66 rfl 0 rfl ?_
    refine mx_get d_RM_type_67 (ci := 6) (k := 1) (q := mx_cl0_6) (v := .ref (r + 2)) rfl (Nat.le_of_ble_eq_true rfl) kw_232 h9.1 rfl ?_
    refine mx_bipush (v := 8) d_RM_type_70 (by decide) ?_
    obtain ⟨e2_, e3_, h⟩ := h
    refine mx_iald d_RM_type_72 (k := 104) rfl (h9.2 1 (by decide) (by decide)) e2_ (rm_aget (by decide) e3_) ?_
    refine mx_iadd d_RM_type_73 ?_
    refine mx_iload_n d_RM_type_74 rfl 1 rfl ?_
    obtain ⟨e2_, e3_, h⟩ := h
    refine mx_iast d_RM_type_75 (k := 104) rfl (by decide) (by omega) (h9.2 0 (by decide) (by decide)) e2_ (rm_alt e3_) ?_
    have f9 : mr_F hs0 (mx_st _ (r + 1) (104, (rm_av m 0).set (Int32.toNatClampNeg (192 + (m.1 1 (Int32.toNatClampNeg 8)))) (.int l1))) := mr_frs f9 (h9.2 0 (by decide) (by decide)) rfl
    have h9 : rm_ob (mx_st _ (r + 1) (104, (rm_av m 0).set (Int32.toNatClampNeg (192 + (m.1 1 (Int32.toNatClampNeg 8)))) (.int l1))) r (rs_i m 0 (Int32.toNatClampNeg (192 + (m.1 1 (Int32.toNatClampNeg 8)))) l1) := rm_aput h9 0 (Int32.toNatClampNeg (192 + (m.1 1 (Int32.toNatClampNeg 8)))) l1 (by decide) (by decide)
    replace h := h _ rfl
    generalize mx_st _ (r + 1) (104, (rm_av m 0).set (Int32.toNatClampNeg (192 + (m.1 1 (Int32.toNatClampNeg 8)))) (.int l1)) = hs9 at h9 f9 ⊢
    generalize rs_i m 0 (Int32.toNatClampNeg (192 + (m.1 1 (Int32.toNatClampNeg 8)))) l1 = m1 at h9 h
    refine mx_aload_nR d_RM_type_76 rfl 0 rfl ?_
    refine mx_get d_RM_type_77 (ci := 6) (k := 1) (q := mx_cl0_6) (v := .ref (r + 2)) rfl (Nat.le_of_ble_eq_true rfl) kw_232 h9.1 rfl ?_
    refine mx_bipush (v := 8) d_RM_type_80 (by decide) ?_
    refine mx_dup2 d_RM_type_82 rfl rfl ?_
    obtain ⟨e2_, e3_, h⟩ := h
    refine mx_iald d_RM_type_83 (k := 104) rfl (h9.2 1 (by decide) (by decide)) e2_ (rm_aget (by decide) e3_) ?_
    refine mx_iconst (v := 1) d_RM_type_84 (by decide) ?_
    refine mx_iadd d_RM_type_85 ?_
    obtain ⟨e2_, e3_, h⟩ := h
    refine mx_iast d_RM_type_86 (k := 104) rfl (by decide) (by omega) (h9.2 1 (by decide) (by decide)) e2_ (rm_alt e3_) ?_
    have f9 : mr_F hs0 (mx_st _ (r + 2) (104, (rm_av m1 1).set (Int32.toNatClampNeg 8) (.int ((m1.1 1 (Int32.toNatClampNeg 8)) + 1)))) := mr_frs f9 (h9.2 1 (by decide) (by decide)) rfl
    have h9 : rm_ob (mx_st _ (r + 2) (104, (rm_av m1 1).set (Int32.toNatClampNeg 8) (.int ((m1.1 1 (Int32.toNatClampNeg 8)) + 1)))) r (rs_i m1 1 (Int32.toNatClampNeg 8) ((m1.1 1 (Int32.toNatClampNeg 8)) + 1)) := rm_aput h9 1 (Int32.toNatClampNeg 8) ((m1.1 1 (Int32.toNatClampNeg 8)) + 1) (by decide) (by decide)
    replace h := h _ rfl
    generalize mx_st _ (r + 2) (104, (rm_av m1 1).set (Int32.toNatClampNeg 8) (.int ((m1.1 1 (Int32.toNatClampNeg 8)) + 1))) = hs9 at h9 f9 ⊢
    generalize rs_i m1 1 (Int32.toNatClampNeg 8) ((m1.1 1 (Int32.toNatClampNeg 8)) + 1) = m2 at h9 h
    refine mx_aload_nR d_RM_type_87 rfl 0 rfl ?_
    refine mx_get d_RM_type_88 (ci := 6) (k := 1) (q := mx_cl0_6) (v := .ref (r + 2)) rfl (Nat.le_of_ble_eq_true rfl) kw_232 h9.1 rfl ?_
    refine mx_bipush (v := 8) d_RM_type_91 (by decide) ?_
    obtain ⟨e2_, e3_, h⟩ := h
    refine mx_iald d_RM_type_93 (k := 104) rfl (h9.2 1 (by decide) (by decide)) e2_ (rm_aget (by decide) e3_) ?_
    exact mx_ireturn d_RM_type_94 rfl rfl ⟨_, h9, f9.1, f9.2, h⟩
  · replace h := h.2 c9
    refine mx_bipush (v := (-2)) d_RM_type_56 (by decide) ?_
    exact mx_ireturn d_RM_type_58 rfl rfl ⟨_, h9, f9.1, f9.2, h⟩
set_option maxRecDepth 100000 in
theorem wr_types_0 {l : Launch} {G : mx_G} {r d : Nat} {m : rm_M} {Q : Option Value → rm_M → Prop} (l1 : Int64) (h : mr_Ok l G r (d + 1) mm_RM_types 3 [(0, .ref r), (1, .long l1), (3, .int 56)] [] m Q) : mr_Ok l G r (d + 1) mm_RM_types 0 [(0, .ref r), (1, .long l1)] [] m Q := by
  refine mr_start (fun hs0 hs9 h9 f9 => ?_)
  refine mx_bipush (v := 56) d_RM_types_0 (by decide) ?_
  refine mx_istore_n (lv2 := [(3, .int 56), (0, .ref r), (1, .long l1)]) d_RM_types_2 rfl (Nat.le_of_ble_eq_true rfl) rfl ?_
  exact mx_sub [1, 2, 0] rfl (mr_at h h9 f9)
set_option maxRecDepth 100000 in
theorem wr_types_3 {l : Launch} {G : mx_G} {r d : Nat} {m : rm_M} {Q : Option Value → rm_M → Prop} (l1 : Int64) (l3 : Int32) (h : ((l3 < 0 → (¬ (8 : Int32) < 0 ∧ Int32.toNatClampNeg 8 < 9 ∧ Q (some (.int (m.1 1 (Int32.toNatClampNeg 8)))) m)) ∧ (¬ (l3 < 0) → ((¬ ((Int64.toInt32 ((Int64.toUInt64 l1 >>> ((Int32.toInt64 l3).toUInt64 &&& Int64.toUInt64 63)).toInt64)) &&& 255) = 0 → mr_C l G r d mm_RM_type [.int ((Int64.toInt32 ((Int64.toUInt64 l1 >>> ((Int32.toInt64 l3).toUInt64 &&& Int64.toUInt64 63)).toInt64)) &&& 255)] m (fun (r1 : Option Value) (m2 : rm_M) => ∃ x3 : Int32, r1 = some (.int x3) ∧ mr_Ok l G r (d + 1) mm_RM_types 32 [(0, .ref r), (1, .long l1), (3, .int l3)] [.int x3] m2 Q)) ∧ (¬ (¬ ((Int64.toInt32 ((Int64.toUInt64 l1 >>> ((Int32.toInt64 l3).toUInt64 &&& Int64.toUInt64 63)).toInt64)) &&& 255) = 0) → mr_Ok l G r (d + 1) mm_RM_types 32 [(0, .ref r), (1, .long l1), (3, .int l3)] [.int 0] m Q))))) : mr_Ok l G r (d + 1) mm_RM_types 3 [(0, .ref r), (1, .long l1), (3, .int l3)] [] m Q := by
  refine mr_start (fun hs0 hs9 h9 f9 => ?_)
  refine mx_iload_n d_RM_types_3 rfl 2 rfl ?_
  refine mx_if_lt d_RM_types_4 (fun c9 => ?_) (fun c9 => ?_)
  · replace h := h.1 c9
    refine mx_aload_nR d_RM_types_48 rfl 0 rfl ?_
    refine mx_get d_RM_types_49 (ci := 6) (k := 1) (q := mx_cl0_6) (v := .ref (r + 2)) rfl (Nat.le_of_ble_eq_true rfl) kw_232 h9.1 rfl ?_
    refine mx_bipush (v := 8) d_RM_types_52 (by decide) ?_
    obtain ⟨e2_, e3_, h⟩ := h
    refine mx_iald d_RM_types_54 (k := 104) rfl (h9.2 1 (by decide) (by decide)) e2_ (rm_aget (by decide) e3_) ?_
    exact mx_ireturn d_RM_types_55 rfl rfl ⟨_, h9, f9.1, f9.2, h⟩
  · replace h := h.2 c9
    refine mx_lload_n d_RM_types_7 rfl 1 rfl ?_
    refine mx_iload_n d_RM_types_8 rfl 2 rfl ?_
    refine mx_lushr d_RM_types_9 ?_
    refine mx_l2i d_RM_types_10 ?_
    refine mx_sipush (v := 255) d_RM_types_11 (by decide) ?_
    refine mx_iand d_RM_types_14 ?_
    refine mx_istore (lv2 := [(4, .int ((Int64.toInt32 ((Int64.toUInt64 l1 >>> ((Int32.toInt64 l3).toUInt64 &&& Int64.toUInt64 63)).toInt64)) &&& 255)), (0, .ref r), (1, .long l1), (3, .int l3)]) d_RM_types_15 (Nat.le_of_ble_eq_true rfl) rfl ?_
    refine mx_iload d_RM_types_17 0 rfl ?_
    refine mx_if_ne d_RM_types_19 (fun c9 => ?_) (fun c9 => ?_)
    · replace h := h.1 c9
      refine mx_aload_nR d_RM_types_26 rfl 1 rfl ?_
      refine mx_iload d_RM_types_27 0 rfl ?_
      refine mx_invV (Y := mm_RM_type) (As := [.int ((Int64.toInt32 ((Int64.toUInt64 l1 >>> ((Int32.toInt64 l3).toUInt64 &&& Int64.toUInt64 63)).toInt64)) &&& 255)]) (rest := []) d_RM_types_29.1 ok_RM_type kw_267 kw_268 kw_269 rfl rfl (Nat.le_of_ble_eq_true rfl) (Nat.le_of_ble_eq_true rfl) h9.1 (q := mx_cl0_6) rfl rfl (h _ h9) (fun r1 hs8 h => ?_)
      obtain ⟨m2, h9, f8, z8, h⟩ := h
      obtain ⟨x3, e9_, h⟩ := h
      subst e9_
      have f9 := mr_frc f9 f8 z8
      clear f8 z8
      show mx_Ok mx_S0 l G (d + 1) mm_RM_types 32 [(4, .int ((Int64.toInt32 ((Int64.toUInt64 l1 >>> ((Int32.toInt64 l3).toUInt64 &&& Int64.toUInt64 63)).toInt64)) &&& 255)), (0, .ref r), (1, .long l1), (3, .int l3)] [.int x3] hs8 _
      exact mx_sub [1, 2, 3] rfl (mr_at h h9 f9)
    · replace h := h.2 c9
      refine mx_iconst (v := 0) d_RM_types_22 (by decide) ?_
      refine mx_goto d_RM_types_23 ?_
      exact mx_sub [1, 2, 3] rfl (mr_at h h9 f9)
set_option maxRecDepth 100000 in
theorem wr_types_32 {l : Launch} {G : mx_G} {r d : Nat} {m : rm_M} {Q : Option Value → rm_M → Prop} (l1 : Int64) (l3 : Int32) (s0 : Int32) (h : ((0 ≤ s0 → mr_Ok l G r (d + 1) mm_RM_types 3 [(0, .ref r), (1, .long l1), (3, .int (l3 + (-8)))] [] m Q) ∧ (¬ (0 ≤ s0) → Q (some (.int s0)) m))) : mr_Ok l G r (d + 1) mm_RM_types 32 [(0, .ref r), (1, .long l1), (3, .int l3)] [.int s0] m Q := by
  refine mr_start (fun hs0 hs9 h9 f9 => ?_)
  refine mx_istore (lv2 := [(5, .int s0), (0, .ref r), (1, .long l1), (3, .int l3)]) d_RM_types_32 (Nat.le_of_ble_eq_true rfl) rfl ?_
  refine mx_iload d_RM_types_34 0 rfl ?_
  refine mx_if_ge d_RM_types_36 (fun c9 => ?_) (fun c9 => ?_)
  · replace h := h.1 c9
    refine mx_iinc (v := l3 + (-8)) (lv2 := [(3, .int (l3 + (-8))), (5, .int s0), (0, .ref r), (1, .long l1)]) d_RM_types_42 3 rfl (by rfl) (Nat.le_of_ble_eq_true rfl) rfl ?_
    refine mx_goto d_RM_types_45 ?_
    exact mx_sub [2, 3, 0] rfl (mr_at h h9 f9)
  · replace h := h.2 c9
    refine mx_iload d_RM_types_39 0 rfl ?_
    exact mx_ireturn d_RM_types_41 rfl rfl ⟨_, h9, f9.1, f9.2, h⟩
set_option maxRecDepth 100000 in
theorem wr_complete_0 {l : Launch} {G : mx_G} {r d : Nat} {m : rm_M} {Q : Option Value → rm_M → Prop}  (h : mr_Ok l G r (d + 1) mm_RM_complete 2 [(0, .ref r), (1, .int 1)] [] m Q) : mr_Ok l G r (d + 1) mm_RM_complete 0 [(0, .ref r)] [] m Q := by
  refine mr_start (fun hs0 hs9 h9 f9 => ?_)
  refine mx_iconst (v := 1) d_RM_complete_0 (by decide) ?_
  refine mx_istore_n (lv2 := [(1, .int 1), (0, .ref r)]) d_RM_complete_1 rfl (Nat.le_of_ble_eq_true rfl) rfl ?_
  exact mx_sub [1, 0] rfl (mr_at h h9 f9)
set_option maxRecDepth 100000 in
theorem wr_complete_2 {l : Launch} {G : mx_G} {r d : Nat} {m : rm_M} {Q : Option Value → rm_M → Prop} (l1 : Int32) (h : ((l1 = 0 → Q none m) ∧ (¬ (l1 = 0) → (((m.2.2.1 11) ≤ 0 → Q none m) ∧ (¬ ((m.2.2.1 11) ≤ 0) → (¬ (m.2.2.1 11) < 0 ∧ Int32.toNatClampNeg (m.2.2.1 11) < 12 ∧ (((m.1 9 (Int32.toNatClampNeg (m.2.2.1 11))) = 0 → (¬ (m.2.2.1 11) < 0 ∧ Int32.toNatClampNeg (m.2.2.1 11) < 12 ∧ (¬ (m.2.2.1 11) < 0 ∧ Int32.toNatClampNeg (m.2.2.1 11) < 12 ∧ ∀ m1 : rm_M, m1 = rs_i m 8 (Int32.toNatClampNeg (m.2.2.1 11)) ((m.1 8 (Int32.toNatClampNeg (m.2.2.1 11))) - 1) → (¬ (m1.2.2.1 11) < 0 ∧ Int32.toNatClampNeg (m1.2.2.1 11) < 12 ∧ ((¬ (m1.1 8 (Int32.toNatClampNeg (m1.2.2.1 11))) = 0 → mr_Ok l G r (d + 1) mm_RM_complete 2 [(0, .ref r), (1, .int 0)] [] m1 Q) ∧ (¬ (¬ (m1.1 8 (Int32.toNatClampNeg (m1.2.2.1 11))) = 0) → (∀ m2 : rm_M, m2 = rs_s m1 11 ((m1.2.2.1 11) - 1) → mr_Ok l G r (d + 1) mm_RM_complete 2 [(0, .ref r), (1, .int 1)] [] m2 Q))))))) ∧ (¬ ((m.1 9 (Int32.toNatClampNeg (m.2.2.1 11))) = 0) → (¬ (m.2.2.1 11) < 0 ∧ Int32.toNatClampNeg (m.2.2.1 11) < 12 ∧ (¬ (m.2.2.1 11) < 0 ∧ Int32.toNatClampNeg (m.2.2.1 11) < 12 ∧ ∀ m3 : rm_M, m3 = rs_i m 10 (Int32.toNatClampNeg (m.2.2.1 11)) ((m.1 10 (Int32.toNatClampNeg (m.2.2.1 11))) + 1) → mr_Ok l G r (d + 1) mm_RM_complete 2 [(0, .ref r), (1, .int 0)] [] m3 Q)))))))))) : mr_Ok l G r (d + 1) mm_RM_complete 2 [(0, .ref r), (1, .int l1)] [] m Q := by
  refine mr_start (fun hs0 hs9 h9 f9 => ?_)
  refine mx_iload_n d_RM_complete_2 rfl 1 rfl ?_
  refine mx_if_eq d_RM_complete_3 (fun c9 => ?_) (fun c9 => ?_)
  · replace h := h.1 c9
    exact mx_return d_RM_complete_83 rfl ⟨_, h9, f9.1, f9.2, h⟩
  · replace h := h.2 c9
    refine mx_aload_nR d_RM_complete_6 rfl 0 rfl ?_
    refine mx_get d_RM_complete_7 (ci := 6) (k := 11) (q := mx_cl0_6) (v := .int (m.2.2.1 11)) rfl (Nat.le_of_ble_eq_true rfl) kw_270 h9.1 rfl ?_
    refine mx_if_le d_RM_complete_10 (fun c9 => ?_) (fun c9 => ?_)
    · replace h := h.1 c9
      exact mx_return d_RM_complete_83 rfl ⟨_, h9, f9.1, f9.2, h⟩
    · replace h := h.2 c9
      refine mx_iconst (v := 0) d_RM_complete_13 (by decide) ?_
      refine mx_istore_n (lv2 := [(1, .int 0), (0, .ref r)]) d_RM_complete_14 rfl (Nat.le_of_ble_eq_true rfl) rfl ?_
      refine mx_aload_nR d_RM_complete_15 rfl 1 rfl ?_
      refine mx_get d_RM_complete_16 (ci := 6) (k := 9) (q := mx_cl0_6) (v := .ref (r + 8)) rfl (Nat.le_of_ble_eq_true rfl) kw_240 h9.1 rfl ?_
      refine mx_aload_nR d_RM_complete_19 rfl 1 rfl ?_
      refine mx_get d_RM_complete_20 (ci := 6) (k := 11) (q := mx_cl0_6) (v := .int (m.2.2.1 11)) rfl (Nat.le_of_ble_eq_true rfl) kw_270 h9.1 rfl ?_
      obtain ⟨e2_, e3_, h⟩ := h
      refine mx_zald d_RM_complete_23 (k := 107) rfl (h9.2 9 (by decide) (by decide)) e2_ (rm_aget (by decide) e3_) ?_
      refine mx_if_eq d_RM_complete_24 (fun c9 => ?_) (fun c9 => ?_)
      · replace h := h.1 c9
        refine mx_aload_nR d_RM_complete_43 rfl 1 rfl ?_
        refine mx_get d_RM_complete_44 (ci := 6) (k := 8) (q := mx_cl0_6) (v := .ref (r + 7)) rfl (Nat.le_of_ble_eq_true rfl) kw_239 h9.1 rfl ?_
        refine mx_aload_nR d_RM_complete_47 rfl 1 rfl ?_
        refine mx_get d_RM_complete_48 (ci := 6) (k := 11) (q := mx_cl0_6) (v := .int (m.2.2.1 11)) rfl (Nat.le_of_ble_eq_true rfl) kw_270 h9.1 rfl ?_
        refine mx_dup2 d_RM_complete_51 rfl rfl ?_
        obtain ⟨e2_, e3_, h⟩ := h
        refine mx_iald d_RM_complete_52 (k := 104) rfl (h9.2 8 (by decide) (by decide)) e2_ (rm_aget (by decide) e3_) ?_
        refine mx_iconst (v := 1) d_RM_complete_53 (by decide) ?_
        refine mx_isub d_RM_complete_54 ?_
        obtain ⟨e2_, e3_, h⟩ := h
        refine mx_iast d_RM_complete_55 (k := 104) rfl (by decide) (by omega) (h9.2 8 (by decide) (by decide)) e2_ (rm_alt e3_) ?_
        have f9 : mr_F hs0 (mx_st _ (r + 7) (104, (rm_av m 8).set (Int32.toNatClampNeg (m.2.2.1 11)) (.int ((m.1 8 (Int32.toNatClampNeg (m.2.2.1 11))) - 1)))) := mr_frs f9 (h9.2 8 (by decide) (by decide)) rfl
        have h9 : rm_ob (mx_st _ (r + 7) (104, (rm_av m 8).set (Int32.toNatClampNeg (m.2.2.1 11)) (.int ((m.1 8 (Int32.toNatClampNeg (m.2.2.1 11))) - 1)))) r (rs_i m 8 (Int32.toNatClampNeg (m.2.2.1 11)) ((m.1 8 (Int32.toNatClampNeg (m.2.2.1 11))) - 1)) := rm_aput h9 8 (Int32.toNatClampNeg (m.2.2.1 11)) ((m.1 8 (Int32.toNatClampNeg (m.2.2.1 11))) - 1) (by decide) (by decide)
        replace h := h _ rfl
        generalize mx_st _ (r + 7) (104, (rm_av m 8).set (Int32.toNatClampNeg (m.2.2.1 11)) (.int ((m.1 8 (Int32.toNatClampNeg (m.2.2.1 11))) - 1))) = hs9 at h9 f9 ⊢
        generalize rs_i m 8 (Int32.toNatClampNeg (m.2.2.1 11)) ((m.1 8 (Int32.toNatClampNeg (m.2.2.1 11))) - 1) = m1 at h9 h
        refine mx_aload_nR d_RM_complete_56 rfl 1 rfl ?_
        refine mx_get d_RM_complete_57 (ci := 6) (k := 8) (q := mx_cl0_6) (v := .ref (r + 7)) rfl (Nat.le_of_ble_eq_true rfl) kw_239 h9.1 rfl ?_
        refine mx_aload_nR d_RM_complete_60 rfl 1 rfl ?_
        refine mx_get d_RM_complete_61 (ci := 6) (k := 11) (q := mx_cl0_6) (v := .int (m1.2.2.1 11)) rfl (Nat.le_of_ble_eq_true rfl) kw_270 h9.1 rfl ?_
        obtain ⟨e2_, e3_, h⟩ := h
        refine mx_iald d_RM_complete_64 (k := 104) rfl (h9.2 8 (by decide) (by decide)) e2_ (rm_aget (by decide) e3_) ?_
        refine mx_if_ne d_RM_complete_65 (fun c9 => ?_) (fun c9 => ?_)
        · replace h := h.1 c9
          exact mx_sub [1, 0] rfl (mr_at h h9 f9)
        · replace h := h.2 c9
          refine mx_aload_nR d_RM_complete_68 rfl 1 rfl ?_
          refine mx_dup d_RM_complete_69 rfl ?_
          refine mx_get d_RM_complete_70 (ci := 6) (k := 11) (q := mx_cl0_6) (v := .int (m1.2.2.1 11)) rfl (Nat.le_of_ble_eq_true rfl) kw_270 h9.1 rfl ?_
          refine mx_iconst (v := 1) d_RM_complete_73 (by decide) ?_
          refine mx_isub d_RM_complete_74 ?_
          refine mx_put d_RM_complete_75 (ci := 6) (k := 11) (q := mx_cl0_6) (ty := .int) rfl (Nat.le_of_ble_eq_true rfl) kw_270 rfl (by decide +kernel) rfl rfl (by omega) h9.1 ?_
          have f9 := mr_frs f9 h9.1 (x := (6, ((List.range 36).map (rm_fv r m1)).set 11 (.int ((m1.2.2.1 11) - 1)))) rfl
          have h9 := rm_puts h9 11 ((m1.2.2.1 11) - 1) (by decide) (by decide) (by decide)
          replace h := h _ rfl
          generalize mx_st _ r (6, ((List.range 36).map (rm_fv r m1)).set 11 (.int ((m1.2.2.1 11) - 1))) = hs9 at h9 f9 ⊢
          generalize rs_s m1 11 ((m1.2.2.1 11) - 1) = m2 at h9 h
          refine mx_iconst (v := 1) d_RM_complete_78 (by decide) ?_
          refine mx_istore_n (lv2 := [(1, .int 1), (0, .ref r)]) d_RM_complete_79 rfl (Nat.le_of_ble_eq_true rfl) rfl ?_
          refine mx_goto d_RM_complete_80 ?_
          exact mx_sub [1, 0] rfl (mr_at h h9 f9)
      · replace h := h.2 c9
        refine mx_aload_nR d_RM_complete_27 rfl 1 rfl ?_
        refine mx_get d_RM_complete_28 (ci := 6) (k := 10) (q := mx_cl0_6) (v := .ref (r + 9)) rfl (Nat.le_of_ble_eq_true rfl) kw_241 h9.1 rfl ?_
        refine mx_aload_nR d_RM_complete_31 rfl 1 rfl ?_
        refine mx_get d_RM_complete_32 (ci := 6) (k := 11) (q := mx_cl0_6) (v := .int (m.2.2.1 11)) rfl (Nat.le_of_ble_eq_true rfl) kw_270 h9.1 rfl ?_
        refine mx_dup2 d_RM_complete_35 rfl rfl ?_
        obtain ⟨e2_, e3_, h⟩ := h
        refine mx_iald d_RM_complete_36 (k := 104) rfl (h9.2 10 (by decide) (by decide)) e2_ (rm_aget (by decide) e3_) ?_
        refine mx_iconst (v := 1) d_RM_complete_37 (by decide) ?_
        refine mx_iadd d_RM_complete_38 ?_
        obtain ⟨e2_, e3_, h⟩ := h
        refine mx_iast d_RM_complete_39 (k := 104) rfl (by decide) (by omega) (h9.2 10 (by decide) (by decide)) e2_ (rm_alt e3_) ?_
        have f9 : mr_F hs0 (mx_st _ (r + 9) (104, (rm_av m 10).set (Int32.toNatClampNeg (m.2.2.1 11)) (.int ((m.1 10 (Int32.toNatClampNeg (m.2.2.1 11))) + 1)))) := mr_frs f9 (h9.2 10 (by decide) (by decide)) rfl
        have h9 : rm_ob (mx_st _ (r + 9) (104, (rm_av m 10).set (Int32.toNatClampNeg (m.2.2.1 11)) (.int ((m.1 10 (Int32.toNatClampNeg (m.2.2.1 11))) + 1)))) r (rs_i m 10 (Int32.toNatClampNeg (m.2.2.1 11)) ((m.1 10 (Int32.toNatClampNeg (m.2.2.1 11))) + 1)) := rm_aput h9 10 (Int32.toNatClampNeg (m.2.2.1 11)) ((m.1 10 (Int32.toNatClampNeg (m.2.2.1 11))) + 1) (by decide) (by decide)
        replace h := h _ rfl
        generalize mx_st _ (r + 9) (104, (rm_av m 10).set (Int32.toNatClampNeg (m.2.2.1 11)) (.int ((m.1 10 (Int32.toNatClampNeg (m.2.2.1 11))) + 1))) = hs9 at h9 f9 ⊢
        generalize rs_i m 10 (Int32.toNatClampNeg (m.2.2.1 11)) ((m.1 10 (Int32.toNatClampNeg (m.2.2.1 11))) + 1) = m3 at h9 h
        refine mx_goto d_RM_complete_40 ?_
        exact mx_sub [1, 0] rfl (mr_at h h9 f9)
set_option maxRecDepth 100000 in
theorem wr_deeper_0 {l : Launch} {G : mx_G} {r d : Nat} {m : rm_M} {Q : Option Value → rm_M → Prop} (l1 : Int32) (l2 : Int32) (h : (∀ m1 : rm_M, m1 = rs_s m 11 ((m.2.2.1 11) + 1) → (¬ (m1.2.2.1 11) < 0 ∧ Int32.toNatClampNeg (m1.2.2.1 11) < 12 ∧ ∀ m2 : rm_M, m2 = rs_i m1 8 (Int32.toNatClampNeg (m1.2.2.1 11)) l1 → (¬ (m2.2.2.1 11) < 0 ∧ Int32.toNatClampNeg (m2.2.2.1 11) < 12 ∧ (l2 = 0 ∨ l2 = 1) ∧ ∀ m3 : rm_M, m3 = rs_i m2 9 (Int32.toNatClampNeg (m2.2.2.1 11)) l2 → (¬ (m3.2.2.1 11) < 0 ∧ Int32.toNatClampNeg (m3.2.2.1 11) < 12 ∧ ∀ m4 : rm_M, m4 = rs_i m3 10 (Int32.toNatClampNeg (m3.2.2.1 11)) 0 → Q none m4))))) : mr_Ok l G r (d + 1) mm_RM_deeper 0 [(0, .ref r), (1, .int l1), (2, .int l2)] [] m Q := by
  refine mr_start (fun hs0 hs9 h9 f9 => ?_)
  refine mx_aload_nR d_RM_deeper_0 rfl 0 rfl ?_
  refine mx_dup d_RM_deeper_1 rfl ?_
  refine mx_get d_RM_deeper_2 (ci := 6) (k := 11) (q := mx_cl0_6) (v := .int (m.2.2.1 11)) rfl (Nat.le_of_ble_eq_true rfl) kw_270 h9.1 rfl ?_
  refine mx_iconst (v := 1) d_RM_deeper_5 (by decide) ?_
  refine mx_iadd d_RM_deeper_6 ?_
  refine mx_put d_RM_deeper_7 (ci := 6) (k := 11) (q := mx_cl0_6) (ty := .int) rfl (Nat.le_of_ble_eq_true rfl) kw_270 rfl (by decide +kernel) rfl rfl (by omega) h9.1 ?_
  have f9 := mr_frs f9 h9.1 (x := (6, ((List.range 36).map (rm_fv r m)).set 11 (.int ((m.2.2.1 11) + 1)))) rfl
  have h9 := rm_puts h9 11 ((m.2.2.1 11) + 1) (by decide) (by decide) (by decide)
  replace h := h _ rfl
  generalize mx_st _ r (6, ((List.range 36).map (rm_fv r m)).set 11 (.int ((m.2.2.1 11) + 1))) = hs9 at h9 f9 ⊢
  generalize rs_s m 11 ((m.2.2.1 11) + 1) = m1 at h9 h
  refine mx_aload_nR d_RM_deeper_10 rfl 0 rfl ?_
  refine mx_get d_RM_deeper_11 (ci := 6) (k := 8) (q := mx_cl0_6) (v := .ref (r + 7)) rfl (Nat.le_of_ble_eq_true rfl) kw_239 h9.1 rfl ?_
  refine mx_aload_nR d_RM_deeper_14 rfl 0 rfl ?_
  refine mx_get d_RM_deeper_15 (ci := 6) (k := 11) (q := mx_cl0_6) (v := .int (m1.2.2.1 11)) rfl (Nat.le_of_ble_eq_true rfl) kw_270 h9.1 rfl ?_
  refine mx_iload_n d_RM_deeper_18 rfl 1 rfl ?_
  obtain ⟨e2_, e3_, h⟩ := h
  refine mx_iast d_RM_deeper_19 (k := 104) rfl (by decide) (by omega) (h9.2 8 (by decide) (by decide)) e2_ (rm_alt e3_) ?_
  have f9 : mr_F hs0 (mx_st _ (r + 7) (104, (rm_av m1 8).set (Int32.toNatClampNeg (m1.2.2.1 11)) (.int l1))) := mr_frs f9 (h9.2 8 (by decide) (by decide)) rfl
  have h9 : rm_ob (mx_st _ (r + 7) (104, (rm_av m1 8).set (Int32.toNatClampNeg (m1.2.2.1 11)) (.int l1))) r (rs_i m1 8 (Int32.toNatClampNeg (m1.2.2.1 11)) l1) := rm_aput h9 8 (Int32.toNatClampNeg (m1.2.2.1 11)) l1 (by decide) (by decide)
  replace h := h _ rfl
  generalize mx_st _ (r + 7) (104, (rm_av m1 8).set (Int32.toNatClampNeg (m1.2.2.1 11)) (.int l1)) = hs9 at h9 f9 ⊢
  generalize rs_i m1 8 (Int32.toNatClampNeg (m1.2.2.1 11)) l1 = m2 at h9 h
  refine mx_aload_nR d_RM_deeper_20 rfl 0 rfl ?_
  refine mx_get d_RM_deeper_21 (ci := 6) (k := 9) (q := mx_cl0_6) (v := .ref (r + 8)) rfl (Nat.le_of_ble_eq_true rfl) kw_240 h9.1 rfl ?_
  refine mx_aload_nR d_RM_deeper_24 rfl 0 rfl ?_
  refine mx_get d_RM_deeper_25 (ci := 6) (k := 11) (q := mx_cl0_6) (v := .int (m2.2.2.1 11)) rfl (Nat.le_of_ble_eq_true rfl) kw_270 h9.1 rfl ?_
  refine mx_iload_n d_RM_deeper_28 rfl 2 rfl ?_
  obtain ⟨e2_, e3_, e4_, h⟩ := h
  refine mx_zast d_RM_deeper_29 (k := 107) rfl (by decide) (by omega) e4_ (h9.2 9 (by decide) (by decide)) e2_ (rm_alt e3_) ?_
  have f9 : mr_F hs0 (mx_st _ (r + 8) (107, (rm_av m2 9).set (Int32.toNatClampNeg (m2.2.2.1 11)) (.int l2))) := mr_frs f9 (h9.2 9 (by decide) (by decide)) rfl
  have h9 : rm_ob (mx_st _ (r + 8) (107, (rm_av m2 9).set (Int32.toNatClampNeg (m2.2.2.1 11)) (.int l2))) r (rs_i m2 9 (Int32.toNatClampNeg (m2.2.2.1 11)) l2) := rm_aput h9 9 (Int32.toNatClampNeg (m2.2.2.1 11)) l2 (by decide) (by decide)
  replace h := h _ rfl
  generalize mx_st _ (r + 8) (107, (rm_av m2 9).set (Int32.toNatClampNeg (m2.2.2.1 11)) (.int l2)) = hs9 at h9 f9 ⊢
  generalize rs_i m2 9 (Int32.toNatClampNeg (m2.2.2.1 11)) l2 = m3 at h9 h
  refine mx_aload_nR d_RM_deeper_30 rfl 0 rfl ?_
  refine mx_get d_RM_deeper_31 (ci := 6) (k := 10) (q := mx_cl0_6) (v := .ref (r + 9)) rfl (Nat.le_of_ble_eq_true rfl) kw_241 h9.1 rfl ?_
  refine mx_aload_nR d_RM_deeper_34 rfl 0 rfl ?_
  refine mx_get d_RM_deeper_35 (ci := 6) (k := 11) (q := mx_cl0_6) (v := .int (m3.2.2.1 11)) rfl (Nat.le_of_ble_eq_true rfl) kw_270 h9.1 rfl ?_
  refine mx_iconst (v := 0) d_RM_deeper_38 (by decide) ?_
  obtain ⟨e2_, e3_, h⟩ := h
  refine mx_iast d_RM_deeper_39 (k := 104) rfl (by decide) (by omega) (h9.2 10 (by decide) (by decide)) e2_ (rm_alt e3_) ?_
  have f9 : mr_F hs0 (mx_st _ (r + 9) (104, (rm_av m3 10).set (Int32.toNatClampNeg (m3.2.2.1 11)) (.int 0))) := mr_frs f9 (h9.2 10 (by decide) (by decide)) rfl
  have h9 : rm_ob (mx_st _ (r + 9) (104, (rm_av m3 10).set (Int32.toNatClampNeg (m3.2.2.1 11)) (.int 0))) r (rs_i m3 10 (Int32.toNatClampNeg (m3.2.2.1 11)) 0) := rm_aput h9 10 (Int32.toNatClampNeg (m3.2.2.1 11)) 0 (by decide) (by decide)
  replace h := h _ rfl
  generalize mx_st _ (r + 9) (104, (rm_av m3 10).set (Int32.toNatClampNeg (m3.2.2.1 11)) (.int 0)) = hs9 at h9 f9 ⊢
  generalize rs_i m3 10 (Int32.toNatClampNeg (m3.2.2.1 11)) 0 = m4 at h9 h
  exact mx_return d_RM_deeper_40 rfl ⟨_, h9, f9.1, f9.2, h⟩
set_option maxRecDepth 100000 in
theorem wr_badPlace_0 {l : Launch} {G : mx_G} {r d : Nat} {m : rm_M} {Q : Option Value → rm_M → Prop}  (h : (∀ m1 : rm_M, m1 = rs_s m 11 0 → (∀ m2 : rm_M, m2 = rs_s m1 7 0 → mr_C l G r d mm_RM_deeper [.int 1, .int 0] m2 (fun (r3 : Option Value) (m4 : rm_M) => r3 = none ∧ mr_Ok l G r (d + 1) mm_RM_badPlace 20 [(0, .ref r), (1, .int 0), (2, .int 0)] [] m4 Q)))) : mr_Ok l G r (d + 1) mm_RM_badPlace 0 [(0, .ref r)] [] m Q := by
  refine mr_start (fun hs0 hs9 h9 f9 => ?_)
  refine mx_aload_nR d_RM_badPlace_0 rfl 0 rfl ?_
  refine mx_iconst (v := 0) d_RM_badPlace_1 (by decide) ?_
  refine mx_put d_RM_badPlace_2 (ci := 6) (k := 11) (q := mx_cl0_6) (ty := .int) rfl (Nat.le_of_ble_eq_true rfl) kw_270 rfl (by decide +kernel) rfl rfl (by omega) h9.1 ?_
  have f9 := mr_frs f9 h9.1 (x := (6, ((List.range 36).map (rm_fv r m)).set 11 (.int 0))) rfl
  have h9 := rm_puts h9 11 0 (by decide) (by decide) (by decide)
  replace h := h _ rfl
  generalize mx_st _ r (6, ((List.range 36).map (rm_fv r m)).set 11 (.int 0)) = hs9 at h9 f9 ⊢
  generalize rs_s m 11 0 = m1 at h9 h
  refine mx_aload_nR d_RM_badPlace_5 rfl 0 rfl ?_
  refine mx_iconst (v := 0) d_RM_badPlace_6 (by decide) ?_
  refine mx_put d_RM_badPlace_7 (ci := 6) (k := 7) (q := mx_cl0_6) (ty := .int) rfl (Nat.le_of_ble_eq_true rfl) kw_271 rfl (by decide +kernel) rfl rfl (by omega) h9.1 ?_
  have f9 := mr_frs f9 h9.1 (x := (6, ((List.range 36).map (rm_fv r m1)).set 7 (.int 0))) rfl
  have h9 := rm_puts h9 7 0 (by decide) (by decide) (by decide)
  replace h := h _ rfl
  generalize mx_st _ r (6, ((List.range 36).map (rm_fv r m1)).set 7 (.int 0)) = hs9 at h9 f9 ⊢
  generalize rs_s m1 7 0 = m2 at h9 h
  refine mx_aload_nR d_RM_badPlace_10 rfl 0 rfl ?_
  refine mx_iconst (v := 1) d_RM_badPlace_11 (by decide) ?_
  refine mx_iconst (v := 0) d_RM_badPlace_12 (by decide) ?_
  refine mx_invV (Y := mm_RM_deeper) (As := [.int 1, .int 0]) (rest := []) d_RM_badPlace_13.1 ok_RM_deeper kw_272 kw_273 kw_274 rfl rfl (Nat.le_of_ble_eq_true rfl) (Nat.le_of_ble_eq_true rfl) h9.1 (q := mx_cl0_6) rfl rfl (h _ h9) (fun r3 hs8 h => ?_)
  obtain ⟨m4, h9, f8, z8, h⟩ := h
  obtain ⟨e9_, h⟩ := h
  subst e9_
  have f9 := mr_frc f9 f8 z8
  clear f8 z8
  show mx_Ok mx_S0 l G (d + 1) mm_RM_badPlace 16 [(0, .ref r)] [] hs8 _
  refine mx_iconst (v := 0) d_RM_badPlace_16 (by decide) ?_
  refine mx_istore_n (lv2 := [(1, .int 0), (0, .ref r)]) d_RM_badPlace_17 rfl (Nat.le_of_ble_eq_true rfl) rfl ?_
  refine mx_iconst (v := 0) d_RM_badPlace_18 (by decide) ?_
  refine mx_istore_n (lv2 := [(2, .int 0), (1, .int 0), (0, .ref r)]) d_RM_badPlace_19 rfl (Nat.le_of_ble_eq_true rfl) rfl ?_
  exact mx_sub [2, 1, 0] rfl (mr_at h h9 f9)
set_option maxRecDepth 100000 in
theorem wr_badPlace_20 {l : Launch} {G : mx_G} {r d : Nat} {m : rm_M} {Q : Option Value → rm_M → Prop} (l1 : Int32) (l2 : Int32) (h : (¬ (8 : Int32) < 0 ∧ Int32.toNatClampNeg 8 < 9 ∧ (((m.1 1 (Int32.toNatClampNeg 8)) ≤ l2 → ((¬ (m.2.2.1 11) = 0 → (¬ (8 : Int32) < 0 ∧ Int32.toNatClampNeg 8 < 9 ∧ Q (some (.int (m.1 1 (Int32.toNatClampNeg 8)))) m)) ∧ (¬ (¬ (m.2.2.1 11) = 0) → Q (some (.int (-1))) m))) ∧ (¬ ((m.1 1 (Int32.toNatClampNeg 8)) ≤ l2) → (¬ (192 + l2) < 0 ∧ Int32.toNatClampNeg (192 + l2) < 240 ∧ ((¬ (m.2.2.1 11) = 0 → ((¬ l1 = 1 → ((¬ l1 = 2 → (¬ (m.2.2.1 11) < 0 ∧ Int32.toNatClampNeg (m.2.2.1 11) < 12 ∧ (((m.1 9 (Int32.toNatClampNeg (m.2.2.1 11))) = 0 → mr_Ok l G r (d + 1) mm_RM_badPlace 130 [(0, .ref r), (1, .int l1), (2, .int l2), (3, .int (m.1 0 (Int32.toNatClampNeg (192 + l2))))] [] m Q) ∧ (¬ ((m.1 9 (Int32.toNatClampNeg (m.2.2.1 11))) = 0) → ((¬ (m.1 0 (Int32.toNatClampNeg (192 + l2))) = 41 → mr_Ok l G r (d + 1) mm_RM_badPlace 130 [(0, .ref r), (1, .int l1), (2, .int l2), (3, .int (m.1 0 (Int32.toNatClampNeg (192 + l2))))] [] m Q) ∧ (¬ (¬ (m.1 0 (Int32.toNatClampNeg (192 + l2))) = 41) → (∀ m1 : rm_M, m1 = rs_s m 11 ((m.2.2.1 11) - 1) → mr_C l G r d mm_RM_complete [] m1 (fun (r2 : Option Value) (m3 : rm_M) => r2 = none ∧ mr_Ok l G r (d + 1) mm_RM_badPlace 251 [(0, .ref r), (1, .int l1), (2, .int l2)] [] m3 Q)))))))) ∧ (¬ (¬ l1 = 2) → (((m.1 0 (Int32.toNatClampNeg (192 + l2))) = 40 → mr_C l G r d mm_RM_deeper [.int 0, .int 1] m (fun (r4 : Option Value) (m5 : rm_M) => r4 = none ∧ mr_Ok l G r (d + 1) mm_RM_badPlace 251 [(0, .ref r), (1, .int 0), (2, .int l2)] [] m5 Q)) ∧ (¬ ((m.1 0 (Int32.toNatClampNeg (192 + l2))) = 40) → Q (some (.int l2)) m))))) ∧ (¬ (¬ l1 = 1) → mr_C l G r d mm_RM_digit [.int (m.1 0 (Int32.toNatClampNeg (192 + l2)))] m (fun (r6 : Option Value) (m7 : rm_M) => ∃ x8 : Int32, r6 = some (.int x8) ∧ ((¬ x8 = 0 → mr_Ok l G r (d + 1) mm_RM_badPlace 251 [(0, .ref r), (1, .int 2), (2, .int l2)] [] m7 Q) ∧ (¬ (¬ x8 = 0) → Q (some (.int l2)) m7)))))) ∧ (¬ (¬ (m.2.2.1 11) = 0) → Q (some (.int l2)) m))))))) : mr_Ok l G r (d + 1) mm_RM_badPlace 20 [(0, .ref r), (1, .int l1), (2, .int l2)] [] m Q := by
  refine mr_start (fun hs0 hs9 h9 f9 => ?_)
  refine mx_iload_n d_RM_badPlace_20 rfl 2 rfl ?_
  refine mx_aload_nR d_RM_badPlace_21 rfl 0 rfl ?_
  refine mx_get d_RM_badPlace_22 (ci := 6) (k := 1) (q := mx_cl0_6) (v := .ref (r + 2)) rfl (Nat.le_of_ble_eq_true rfl) kw_232 h9.1 rfl ?_
  refine mx_bipush (v := 8) d_RM_badPlace_25 (by decide) ?_
  obtain ⟨e2_, e3_, h⟩ := h
  refine mx_iald d_RM_badPlace_27 (k := 104) rfl (h9.2 1 (by decide) (by decide)) e2_ (rm_aget (by decide) e3_) ?_
  refine mx_icmp_ge d_RM_badPlace_28 (fun c9 => ?_) (fun c9 => ?_)
  · replace h := h.1 c9
    refine mx_aload_nR d_RM_badPlace_257 rfl 0 rfl ?_
    refine mx_get d_RM_badPlace_258 (ci := 6) (k := 11) (q := mx_cl0_6) (v := .int (m.2.2.1 11)) rfl (Nat.le_of_ble_eq_true rfl) kw_270 h9.1 rfl ?_
    refine mx_if_ne d_RM_badPlace_261 (fun c9 => ?_) (fun c9 => ?_)
    · replace h := h.1 c9
      refine mx_aload_nR d_RM_badPlace_268 rfl 0 rfl ?_
      refine mx_get d_RM_badPlace_269 (ci := 6) (k := 1) (q := mx_cl0_6) (v := .ref (r + 2)) rfl (Nat.le_of_ble_eq_true rfl) kw_232 h9.1 rfl ?_
      refine mx_bipush (v := 8) d_RM_badPlace_272 (by decide) ?_
      obtain ⟨e2_, e3_, h⟩ := h
      refine mx_iald d_RM_badPlace_274 (k := 104) rfl (h9.2 1 (by decide) (by decide)) e2_ (rm_aget (by decide) e3_) ?_
      exact mx_ireturn d_RM_badPlace_275 rfl rfl ⟨_, h9, f9.1, f9.2, h⟩
    · replace h := h.2 c9
      refine mx_iconst (v := -1) d_RM_badPlace_264 (by decide) ?_
      refine mx_goto d_RM_badPlace_265 ?_
      exact mx_ireturn d_RM_badPlace_275 rfl rfl ⟨_, h9, f9.1, f9.2, h⟩
  · replace h := h.2 c9
    refine mx_aload_nR d_RM_badPlace_31 rfl 0 rfl ?_
    refine mx_get d_RM_badPlace_32 (ci := 6) (k := 0) (q := mx_cl0_6) (v := .ref (r + 1)) rfl (Nat.le_of_ble_eq_true rfl) kw_231 h9.1 rfl ?_
    refine mx_sipush (v := 192) d_RM_badPlace_35 (by decide) ?_
    refine mx_iload_n d_RM_badPlace_38 rfl 2 rfl ?_
    refine mx_iadd d_RM_badPlace_39 ?_
    obtain ⟨e2_, e3_, h⟩ := h
    refine mx_iald d_RM_badPlace_40 (k := 104) rfl (h9.2 0 (by decide) (by decide)) e2_ (rm_aget (by decide) e3_) ?_
    refine mx_istore_n (lv2 := [(3, .int (m.1 0 (Int32.toNatClampNeg (192 + l2)))), (0, .ref r), (1, .int l1), (2, .int l2)]) d_RM_badPlace_41 rfl (Nat.le_of_ble_eq_true rfl) rfl ?_
    refine mx_aload_nR d_RM_badPlace_42 rfl 1 rfl ?_
    refine mx_get d_RM_badPlace_43 (ci := 6) (k := 11) (q := mx_cl0_6) (v := .int (m.2.2.1 11)) rfl (Nat.le_of_ble_eq_true rfl) kw_270 h9.1 rfl ?_
    refine mx_if_ne d_RM_badPlace_46 (fun c9 => ?_) (fun c9 => ?_)
    · replace h := h.1 c9
      refine mx_iload_n d_RM_badPlace_51 rfl 2 rfl ?_
      refine mx_iconst (v := 1) d_RM_badPlace_52 (by decide) ?_
      refine mx_icmp_ne d_RM_badPlace_53 (fun c9 => ?_) (fun c9 => ?_)
      · replace h := h.1 c9
        refine mx_iload_n d_RM_badPlace_71 rfl 2 rfl ?_
        refine mx_iconst (v := 2) d_RM_badPlace_72 (by decide) ?_
        refine mx_icmp_ne d_RM_badPlace_73 (fun c9 => ?_) (fun c9 => ?_)
        · replace h := h.1 c9
          refine mx_aload_nR d_RM_badPlace_95 rfl 1 rfl ?_
          refine mx_get d_RM_badPlace_96 (ci := 6) (k := 9) (q := mx_cl0_6) (v := .ref (r + 8)) rfl (Nat.le_of_ble_eq_true rfl) kw_240 h9.1 rfl ?_
          refine mx_aload_nR d_RM_badPlace_99 rfl 1 rfl ?_
          refine mx_get d_RM_badPlace_100 (ci := 6) (k := 11) (q := mx_cl0_6) (v := .int (m.2.2.1 11)) rfl (Nat.le_of_ble_eq_true rfl) kw_270 h9.1 rfl ?_
          obtain ⟨e2_, e3_, h⟩ := h
          refine mx_zald d_RM_badPlace_103 (k := 107) rfl (h9.2 9 (by decide) (by decide)) e2_ (rm_aget (by decide) e3_) ?_
          refine mx_if_eq d_RM_badPlace_104 (fun c9 => ?_) (fun c9 => ?_)
          · replace h := h.1 c9
            exact mx_sub [1, 2, 3, 0] rfl (mr_at h h9 f9)
          · replace h := h.2 c9
            refine mx_iload_n d_RM_badPlace_107 rfl 0 rfl ?_
            refine mx_bipush (v := 41) d_RM_badPlace_108 (by decide) ?_
            refine mx_icmp_ne d_RM_badPlace_110 (fun c9 => ?_) (fun c9 => ?_)
            · replace h := h.1 c9
              exact mx_sub [1, 2, 3, 0] rfl (mr_at h h9 f9)
            · replace h := h.2 c9
              refine mx_aload_nR d_RM_badPlace_113 rfl 1 rfl ?_
              refine mx_dup d_RM_badPlace_114 rfl ?_
              refine mx_get d_RM_badPlace_115 (ci := 6) (k := 11) (q := mx_cl0_6) (v := .int (m.2.2.1 11)) rfl (Nat.le_of_ble_eq_true rfl) kw_270 h9.1 rfl ?_
              refine mx_iconst (v := 1) d_RM_badPlace_118 (by decide) ?_
              refine mx_isub d_RM_badPlace_119 ?_
              refine mx_put d_RM_badPlace_120 (ci := 6) (k := 11) (q := mx_cl0_6) (ty := .int) rfl (Nat.le_of_ble_eq_true rfl) kw_270 rfl (by decide +kernel) rfl rfl (by omega) h9.1 ?_
              have f9 := mr_frs f9 h9.1 (x := (6, ((List.range 36).map (rm_fv r m)).set 11 (.int ((m.2.2.1 11) - 1)))) rfl
              have h9 := rm_puts h9 11 ((m.2.2.1 11) - 1) (by decide) (by decide) (by decide)
              replace h := h _ rfl
              generalize mx_st _ r (6, ((List.range 36).map (rm_fv r m)).set 11 (.int ((m.2.2.1 11) - 1))) = hs9 at h9 f9 ⊢
              generalize rs_s m 11 ((m.2.2.1 11) - 1) = m1 at h9 h
              refine mx_aload_nR d_RM_badPlace_123 rfl 1 rfl ?_
              refine mx_invV (Y := mm_RM_complete) (As := []) (rest := []) d_RM_badPlace_124.1 ok_RM_complete kw_275 kw_276 kw_277 rfl rfl (Nat.le_of_ble_eq_true rfl) (Nat.le_of_ble_eq_true rfl) h9.1 (q := mx_cl0_6) rfl rfl (h _ h9) (fun r2 hs8 h => ?_)
              obtain ⟨m3, h9, f8, z8, h⟩ := h
              obtain ⟨e9_, h⟩ := h
              subst e9_
              have f9 := mr_frc f9 f8 z8
              clear f8 z8
              show mx_Ok mx_S0 l G (d + 1) mm_RM_badPlace 127 [(3, .int (m.1 0 (Int32.toNatClampNeg (192 + l2)))), (0, .ref r), (1, .int l1), (2, .int l2)] [] hs8 _
              refine mx_goto d_RM_badPlace_127 ?_
              exact mx_sub [1, 2, 3] rfl (mr_at h h9 f9)
        · replace h := h.2 c9
          refine mx_iload_n d_RM_badPlace_76 rfl 0 rfl ?_
          refine mx_bipush (v := 40) d_RM_badPlace_77 (by decide) ?_
          refine mx_icmp_eq d_RM_badPlace_79 (fun c9 => ?_) (fun c9 => ?_)
          · replace h := h.1 c9
            refine mx_aload_nR d_RM_badPlace_84 rfl 1 rfl ?_
            refine mx_iconst (v := 0) d_RM_badPlace_85 (by decide) ?_
            refine mx_iconst (v := 1) d_RM_badPlace_86 (by decide) ?_
            refine mx_invV (Y := mm_RM_deeper) (As := [.int 0, .int 1]) (rest := []) d_RM_badPlace_87.1 ok_RM_deeper kw_272 kw_273 kw_274 rfl rfl (Nat.le_of_ble_eq_true rfl) (Nat.le_of_ble_eq_true rfl) h9.1 (q := mx_cl0_6) rfl rfl (h _ h9) (fun r4 hs8 h => ?_)
            obtain ⟨m5, h9, f8, z8, h⟩ := h
            obtain ⟨e9_, h⟩ := h
            subst e9_
            have f9 := mr_frc f9 f8 z8
            clear f8 z8
            show mx_Ok mx_S0 l G (d + 1) mm_RM_badPlace 90 [(3, .int (m.1 0 (Int32.toNatClampNeg (192 + l2)))), (0, .ref r), (1, .int l1), (2, .int l2)] [] hs8 _
            refine mx_iconst (v := 0) d_RM_badPlace_90 (by decide) ?_
            refine mx_istore_n (lv2 := [(1, .int 0), (3, .int (m.1 0 (Int32.toNatClampNeg (192 + l2)))), (0, .ref r), (2, .int l2)]) d_RM_badPlace_91 rfl (Nat.le_of_ble_eq_true rfl) rfl ?_
            refine mx_goto d_RM_badPlace_92 ?_
            exact mx_sub [2, 0, 3] rfl (mr_at h h9 f9)
          · replace h := h.2 c9
            refine mx_iload_n d_RM_badPlace_82 rfl 3 rfl ?_
            exact mx_ireturn d_RM_badPlace_83 rfl rfl ⟨_, h9, f9.1, f9.2, h⟩
      · replace h := h.2 c9
        refine mx_aload_nR d_RM_badPlace_56 rfl 1 rfl ?_
        refine mx_iload_n d_RM_badPlace_57 rfl 0 rfl ?_
        refine mx_invV (Y := mm_RM_digit) (As := [.int (m.1 0 (Int32.toNatClampNeg (192 + l2)))]) (rest := []) d_RM_badPlace_58.1 ok_RM_digit kw_264 kw_265 kw_266 rfl rfl (Nat.le_of_ble_eq_true rfl) (Nat.le_of_ble_eq_true rfl) h9.1 (q := mx_cl0_6) rfl rfl (h _ h9) (fun r6 hs8 h => ?_)
        obtain ⟨m7, h9, f8, z8, h⟩ := h
        obtain ⟨x8, e9_, h⟩ := h
        subst e9_
        have f9 := mr_frc f9 f8 z8
        clear f8 z8
        show mx_Ok mx_S0 l G (d + 1) mm_RM_badPlace 61 [(3, .int (m.1 0 (Int32.toNatClampNeg (192 + l2)))), (0, .ref r), (1, .int l1), (2, .int l2)] [.int x8] hs8 _
        refine mx_if_ne d_RM_badPlace_61 (fun c9 => ?_) (fun c9 => ?_)
        · replace h := h.1 c9
          refine mx_iconst (v := 2) d_RM_badPlace_66 (by decide) ?_
          refine mx_istore_n (lv2 := [(1, .int 2), (3, .int (m.1 0 (Int32.toNatClampNeg (192 + l2)))), (0, .ref r), (2, .int l2)]) d_RM_badPlace_67 rfl (Nat.le_of_ble_eq_true rfl) rfl ?_
          refine mx_goto d_RM_badPlace_68 ?_
          exact mx_sub [2, 0, 3] rfl (mr_at h h9 f9)
        · replace h := h.2 c9
          refine mx_iload_n d_RM_badPlace_64 rfl 3 rfl ?_
          exact mx_ireturn d_RM_badPlace_65 rfl rfl ⟨_, h9, f9.1, f9.2, h⟩
    · replace h := h.2 c9
      refine mx_iload_n d_RM_badPlace_49 rfl 3 rfl ?_
      exact mx_ireturn d_RM_badPlace_50 rfl rfl ⟨_, h9, f9.1, f9.2, h⟩
set_option maxRecDepth 100000 in
theorem wr_badPlace_130 {l : Launch} {G : mx_G} {r d : Nat} {m : rm_M} {Q : Option Value → rm_M → Prop} (l1 : Int32) (l2 : Int32) (l3 : Int32) (h : ((8 < (m.2.2.1 11) → Q (some (.int l2)) m) ∧ (¬ (8 < (m.2.2.1 11)) → (¬ (m.2.2.1 11) < 0 ∧ Int32.toNatClampNeg (m.2.2.1 11) < 12 ∧ (((m.1 9 (Int32.toNatClampNeg (m.2.2.1 11))) = 0 → mr_Ok l G r (d + 1) mm_RM_badPlace 166 [(0, .ref r), (1, .int l1), (2, .int l2), (3, .int l3)] [] m Q) ∧ (¬ ((m.1 9 (Int32.toNatClampNeg (m.2.2.1 11))) = 0) → (¬ (m.2.2.1 11) < 0 ∧ Int32.toNatClampNeg (m.2.2.1 11) < 12 ∧ ((¬ (m.1 10 (Int32.toNatClampNeg (m.2.2.1 11))) = 4 → mr_Ok l G r (d + 1) mm_RM_badPlace 166 [(0, .ref r), (1, .int l1), (2, .int l2), (3, .int l3)] [] m Q) ∧ (¬ (¬ (m.1 10 (Int32.toNatClampNeg (m.2.2.1 11))) = 4) → Q (some (.int l2)) m))))))))) : mr_Ok l G r (d + 1) mm_RM_badPlace 130 [(0, .ref r), (1, .int l1), (2, .int l2), (3, .int l3)] [] m Q := by
  refine mr_start (fun hs0 hs9 h9 f9 => ?_)
  refine mx_aload_nR d_RM_badPlace_130 rfl 0 rfl ?_
  refine mx_get d_RM_badPlace_131 (ci := 6) (k := 11) (q := mx_cl0_6) (v := .int (m.2.2.1 11)) rfl (Nat.le_of_ble_eq_true rfl) kw_270 h9.1 rfl ?_
  refine mx_bipush (v := 8) d_RM_badPlace_134 (by decide) ?_
  refine mx_icmp_gt d_RM_badPlace_136 (fun c9 => ?_) (fun c9 => ?_)
  · replace h := h.1 c9
    refine mx_iload_n d_RM_badPlace_164 rfl 2 rfl ?_
    exact mx_ireturn d_RM_badPlace_165 rfl rfl ⟨_, h9, f9.1, f9.2, h⟩
  · replace h := h.2 c9
    refine mx_aload_nR d_RM_badPlace_139 rfl 0 rfl ?_
    refine mx_get d_RM_badPlace_140 (ci := 6) (k := 9) (q := mx_cl0_6) (v := .ref (r + 8)) rfl (Nat.le_of_ble_eq_true rfl) kw_240 h9.1 rfl ?_
    refine mx_aload_nR d_RM_badPlace_143 rfl 0 rfl ?_
    refine mx_get d_RM_badPlace_144 (ci := 6) (k := 11) (q := mx_cl0_6) (v := .int (m.2.2.1 11)) rfl (Nat.le_of_ble_eq_true rfl) kw_270 h9.1 rfl ?_
    obtain ⟨e2_, e3_, h⟩ := h
    refine mx_zald d_RM_badPlace_147 (k := 107) rfl (h9.2 9 (by decide) (by decide)) e2_ (rm_aget (by decide) e3_) ?_
    refine mx_if_eq d_RM_badPlace_148 (fun c9 => ?_) (fun c9 => ?_)
    · replace h := h.1 c9
      exact mx_sub [0, 1, 2, 3] rfl (mr_at h h9 f9)
    · replace h := h.2 c9
      refine mx_aload_nR d_RM_badPlace_151 rfl 0 rfl ?_
      refine mx_get d_RM_badPlace_152 (ci := 6) (k := 10) (q := mx_cl0_6) (v := .ref (r + 9)) rfl (Nat.le_of_ble_eq_true rfl) kw_241 h9.1 rfl ?_
      refine mx_aload_nR d_RM_badPlace_155 rfl 0 rfl ?_
      refine mx_get d_RM_badPlace_156 (ci := 6) (k := 11) (q := mx_cl0_6) (v := .int (m.2.2.1 11)) rfl (Nat.le_of_ble_eq_true rfl) kw_270 h9.1 rfl ?_
      obtain ⟨e2_, e3_, h⟩ := h
      refine mx_iald d_RM_badPlace_159 (k := 104) rfl (h9.2 10 (by decide) (by decide)) e2_ (rm_aget (by decide) e3_) ?_
      refine mx_iconst (v := 4) d_RM_badPlace_160 (by decide) ?_
      refine mx_icmp_ne d_RM_badPlace_161 (fun c9 => ?_) (fun c9 => ?_)
      · replace h := h.1 c9
        exact mx_sub [0, 1, 2, 3] rfl (mr_at h h9 f9)
      · replace h := h.2 c9
        refine mx_iload_n d_RM_badPlace_164 rfl 2 rfl ?_
        exact mx_ireturn d_RM_badPlace_165 rfl rfl ⟨_, h9, f9.1, f9.2, h⟩
set_option maxRecDepth 100000 in
theorem wr_badPlace_166 {l : Launch} {G : mx_G} {r d : Nat} {m : rm_M} {Q : Option Value → rm_M → Prop} (l1 : Int32) (l2 : Int32) (l3 : Int32) (h : (((m.2.2.1 11) ≤ (m.2.2.1 7) → mr_Ok l G r (d + 1) mm_RM_badPlace 185 [(0, .ref r), (1, .int l1), (2, .int l2), (3, .int l3)] [] m Q) ∧ (¬ ((m.2.2.1 11) ≤ (m.2.2.1 7)) → (∀ m1 : rm_M, m1 = rs_s m 7 (m.2.2.1 11) → mr_Ok l G r (d + 1) mm_RM_badPlace 185 [(0, .ref r), (1, .int l1), (2, .int l2), (3, .int l3)] [] m1 Q)))) : mr_Ok l G r (d + 1) mm_RM_badPlace 166 [(0, .ref r), (1, .int l1), (2, .int l2), (3, .int l3)] [] m Q := by
  refine mr_start (fun hs0 hs9 h9 f9 => ?_)
  refine mx_aload_nR d_RM_badPlace_166 rfl 0 rfl ?_
  refine mx_get d_RM_badPlace_167 (ci := 6) (k := 11) (q := mx_cl0_6) (v := .int (m.2.2.1 11)) rfl (Nat.le_of_ble_eq_true rfl) kw_270 h9.1 rfl ?_
  refine mx_aload_nR d_RM_badPlace_170 rfl 0 rfl ?_
  refine mx_get d_RM_badPlace_171 (ci := 6) (k := 7) (q := mx_cl0_6) (v := .int (m.2.2.1 7)) rfl (Nat.le_of_ble_eq_true rfl) kw_271 h9.1 rfl ?_
  refine mx_icmp_le d_RM_badPlace_174 (fun c9 => ?_) (fun c9 => ?_)
  · replace h := h.1 c9
    exact mx_sub [0, 1, 2, 3] rfl (mr_at h h9 f9)
  · replace h := h.2 c9
    refine mx_aload_nR d_RM_badPlace_177 rfl 0 rfl ?_
    refine mx_aload_nR d_RM_badPlace_178 rfl 0 rfl ?_
    refine mx_get d_RM_badPlace_179 (ci := 6) (k := 11) (q := mx_cl0_6) (v := .int (m.2.2.1 11)) rfl (Nat.le_of_ble_eq_true rfl) kw_270 h9.1 rfl ?_
    refine mx_put d_RM_badPlace_182 (ci := 6) (k := 7) (q := mx_cl0_6) (ty := .int) rfl (Nat.le_of_ble_eq_true rfl) kw_271 rfl (by decide +kernel) rfl rfl (by omega) h9.1 ?_
    have f9 := mr_frs f9 h9.1 (x := (6, ((List.range 36).map (rm_fv r m)).set 7 (.int (m.2.2.1 11)))) rfl
    have h9 := rm_puts h9 7 (m.2.2.1 11) (by decide) (by decide) (by decide)
    replace h := h _ rfl
    generalize mx_st _ r (6, ((List.range 36).map (rm_fv r m)).set 7 (.int (m.2.2.1 11))) = hs9 at h9 f9 ⊢
    generalize rs_s m 7 (m.2.2.1 11) = m1 at h9 h
    exact mx_sub [0, 1, 2, 3] rfl (mr_at h h9 f9)
set_option maxRecDepth 100000 in
theorem wr_badPlace_185 {l : Launch} {G : mx_G} {r d : Nat} {m : rm_M} {Q : Option Value → rm_M → Prop} (l1 : Int32) (l2 : Int32) (l3 : Int32) (h : ((¬ l3 = 68 → mr_C l G r d mm_RM_digit [.int l3] m (fun (r1 : Option Value) (m2 : rm_M) => ∃ x3 : Int32, r1 = some (.int x3) ∧ ((¬ x3 = 0 → mr_Ok l G r (d + 1) mm_RM_badPlace 212 [(0, .ref r), (1, .int l1), (2, .int l2)] [] m2 Q) ∧ (¬ (¬ x3 = 0) → mr_C l G r d mm_RM_name [.int l3] m2 (fun (r4 : Option Value) (m5 : rm_M) => ∃ x6 : Int32, r4 = some (.int x6) ∧ ((x6 = 0 → mr_C l G r d mm_RM_wants [.int l3] m5 (fun (r7 : Option Value) (m8 : rm_M) => ∃ x9 : Int32, r7 = some (.int x9) ∧ ((x9 ≤ 0 → Q (some (.int l2)) m8) ∧ (¬ (x9 ≤ 0) → ((8 ≤ (m8.2.2.1 11) → Q (some (.int l2)) m8) ∧ (¬ (8 ≤ (m8.2.2.1 11)) → mr_C l G r d mm_RM_wants [.int l3] m8 (fun (r10 : Option Value) (m11 : rm_M) => ∃ x12 : Int32, r10 = some (.int x12) ∧ mr_C l G r d mm_RM_deeper [.int x12, .int 0] m11 (fun (r13 : Option Value) (m14 : rm_M) => r13 = none ∧ mr_Ok l G r (d + 1) mm_RM_badPlace 251 [(0, .ref r), (1, .int l1), (2, .int l2)] [] m14 Q)))))))) ∧ (¬ (x6 = 0) → mr_Ok l G r (d + 1) mm_RM_badPlace 212 [(0, .ref r), (1, .int l1), (2, .int l2)] [] m5 Q))))))) ∧ (¬ (¬ l3 = 68) → mr_Ok l G r (d + 1) mm_RM_badPlace 251 [(0, .ref r), (1, .int 1), (2, .int l2)] [] m Q))) : mr_Ok l G r (d + 1) mm_RM_badPlace 185 [(0, .ref r), (1, .int l1), (2, .int l2), (3, .int l3)] [] m Q := by
  refine mr_start (fun hs0 hs9 h9 f9 => ?_)
  refine mx_iload_n d_RM_badPlace_185 rfl 3 rfl ?_
  refine mx_bipush (v := 68) d_RM_badPlace_186 (by decide) ?_
  refine mx_icmp_ne d_RM_badPlace_188 (fun c9 => ?_) (fun c9 => ?_)
  · replace h := h.1 c9
    refine mx_aload_nR d_RM_badPlace_196 rfl 0 rfl ?_
    refine mx_iload_n d_RM_badPlace_197 rfl 3 rfl ?_
    refine mx_invV (Y := mm_RM_digit) (As := [.int l3]) (rest := []) d_RM_badPlace_198.1 ok_RM_digit kw_264 kw_265 kw_266 rfl rfl (Nat.le_of_ble_eq_true rfl) (Nat.le_of_ble_eq_true rfl) h9.1 (q := mx_cl0_6) rfl rfl (h _ h9) (fun r1 hs8 h => ?_)
    obtain ⟨m2, h9, f8, z8, h⟩ := h
    obtain ⟨x3, e9_, h⟩ := h
    subst e9_
    have f9 := mr_frc f9 f8 z8
    clear f8 z8
    show mx_Ok mx_S0 l G (d + 1) mm_RM_badPlace 201 [(0, .ref r), (1, .int l1), (2, .int l2), (3, .int l3)] [.int x3] hs8 _
    refine mx_if_ne d_RM_badPlace_201 (fun c9 => ?_) (fun c9 => ?_)
    · replace h := h.1 c9
      exact mx_sub [0, 1, 2] rfl (mr_at h h9 f9)
    · replace h := h.2 c9
      refine mx_aload_nR d_RM_badPlace_204 rfl 0 rfl ?_
      refine mx_iload_n d_RM_badPlace_205 rfl 3 rfl ?_
      refine mx_invV (Y := mm_RM_name) (As := [.int l3]) (rest := []) d_RM_badPlace_206.1 ok_RM_name kw_261 kw_262 kw_263 rfl rfl (Nat.le_of_ble_eq_true rfl) (Nat.le_of_ble_eq_true rfl) h9.1 (q := mx_cl0_6) rfl rfl (h _ h9) (fun r4 hs8 h => ?_)
      obtain ⟨m5, h9, f8, z8, h⟩ := h
      obtain ⟨x6, e9_, h⟩ := h
      subst e9_
      have f9 := mr_frc f9 f8 z8
      clear f8 z8
      show mx_Ok mx_S0 l G (d + 1) mm_RM_badPlace 209 [(0, .ref r), (1, .int l1), (2, .int l2), (3, .int l3)] [.int x6] hs8 _
      refine mx_if_eq d_RM_badPlace_209 (fun c9 => ?_) (fun c9 => ?_)
      · replace h := h.1 c9
        refine mx_aload_nR d_RM_badPlace_219 rfl 0 rfl ?_
        refine mx_iload_n d_RM_badPlace_220 rfl 3 rfl ?_
        refine mx_invV (Y := mm_RM_wants) (As := [.int l3]) (rest := []) d_RM_badPlace_221.1 ok_RM_wants kw_258 kw_259 kw_260 rfl rfl (Nat.le_of_ble_eq_true rfl) (Nat.le_of_ble_eq_true rfl) h9.1 (q := mx_cl0_6) rfl rfl (h _ h9) (fun r7 hs8 h => ?_)
        obtain ⟨m8, h9, f8, z8, h⟩ := h
        obtain ⟨x9, e9_, h⟩ := h
        subst e9_
        have f9 := mr_frc f9 f8 z8
        clear f8 z8
        show mx_Ok mx_S0 l G (d + 1) mm_RM_badPlace 224 [(0, .ref r), (1, .int l1), (2, .int l2), (3, .int l3)] [.int x9] hs8 _
        refine mx_if_le d_RM_badPlace_224 (fun c9 => ?_) (fun c9 => ?_)
        · replace h := h.1 c9
          refine mx_iload_n d_RM_badPlace_249 rfl 2 rfl ?_
          exact mx_ireturn d_RM_badPlace_250 rfl rfl ⟨_, h9, f9.1, f9.2, h⟩
        · replace h := h.2 c9
          refine mx_aload_nR d_RM_badPlace_227 rfl 0 rfl ?_
          refine mx_get d_RM_badPlace_228 (ci := 6) (k := 11) (q := mx_cl0_6) (v := .int (m8.2.2.1 11)) rfl (Nat.le_of_ble_eq_true rfl) kw_270 h9.1 rfl ?_
          refine mx_bipush (v := 8) d_RM_badPlace_231 (by decide) ?_
          refine mx_icmp_ge d_RM_badPlace_233 (fun c9 => ?_) (fun c9 => ?_)
          · replace h := h.1 c9
            refine mx_iload_n d_RM_badPlace_249 rfl 2 rfl ?_
            exact mx_ireturn d_RM_badPlace_250 rfl rfl ⟨_, h9, f9.1, f9.2, h⟩
          · replace h := h.2 c9
            refine mx_aload_nR d_RM_badPlace_236 rfl 0 rfl ?_
            refine mx_aload_nR d_RM_badPlace_237 rfl 0 rfl ?_
            refine mx_iload_n d_RM_badPlace_238 rfl 3 rfl ?_
            refine mx_invV (Y := mm_RM_wants) (As := [.int l3]) (rest := [.ref r]) d_RM_badPlace_239.1 ok_RM_wants kw_258 kw_259 kw_260 rfl rfl (Nat.le_of_ble_eq_true rfl) (Nat.le_of_ble_eq_true rfl) h9.1 (q := mx_cl0_6) rfl rfl (h _ h9) (fun r10 hs8 h => ?_)
            obtain ⟨m11, h9, f8, z8, h⟩ := h
            obtain ⟨x12, e9_, h⟩ := h
            subst e9_
            have f9 := mr_frc f9 f8 z8
            clear f8 z8
            show mx_Ok mx_S0 l G (d + 1) mm_RM_badPlace 242 [(0, .ref r), (1, .int l1), (2, .int l2), (3, .int l3)] [.int x12, .ref r] hs8 _
            refine mx_iconst (v := 0) d_RM_badPlace_242 (by decide) ?_
            refine mx_invV (Y := mm_RM_deeper) (As := [.int x12, .int 0]) (rest := []) d_RM_badPlace_243.1 ok_RM_deeper kw_272 kw_273 kw_274 rfl rfl (Nat.le_of_ble_eq_true rfl) (Nat.le_of_ble_eq_true rfl) h9.1 (q := mx_cl0_6) rfl rfl (h _ h9) (fun r13 hs8 h => ?_)
            obtain ⟨m14, h9, f8, z8, h⟩ := h
            obtain ⟨e9_, h⟩ := h
            subst e9_
            have f9 := mr_frc f9 f8 z8
            clear f8 z8
            show mx_Ok mx_S0 l G (d + 1) mm_RM_badPlace 246 [(0, .ref r), (1, .int l1), (2, .int l2), (3, .int l3)] [] hs8 _
            refine mx_goto d_RM_badPlace_246 ?_
            exact mx_sub [0, 1, 2] rfl (mr_at h h9 f9)
      · replace h := h.2 c9
        exact mx_sub [0, 1, 2] rfl (mr_at h h9 f9)
  · replace h := h.2 c9
    refine mx_iconst (v := 1) d_RM_badPlace_191 (by decide) ?_
    refine mx_istore_n (lv2 := [(1, .int 1), (0, .ref r), (2, .int l2), (3, .int l3)]) d_RM_badPlace_192 rfl (Nat.le_of_ble_eq_true rfl) rfl ?_
    refine mx_goto d_RM_badPlace_193 ?_
    exact mx_sub [1, 0, 2] rfl (mr_at h h9 f9)
set_option maxRecDepth 100000 in
theorem wr_badPlace_212 {l : Launch} {G : mx_G} {r d : Nat} {m : rm_M} {Q : Option Value → rm_M → Prop} (l1 : Int32) (l2 : Int32) (h : mr_C l G r d mm_RM_complete [] m (fun (r1 : Option Value) (m2 : rm_M) => r1 = none ∧ mr_Ok l G r (d + 1) mm_RM_badPlace 251 [(0, .ref r), (1, .int l1), (2, .int l2)] [] m2 Q)) : mr_Ok l G r (d + 1) mm_RM_badPlace 212 [(0, .ref r), (1, .int l1), (2, .int l2)] [] m Q := by
  refine mr_start (fun hs0 hs9 h9 f9 => ?_)
  refine mx_aload_nR d_RM_badPlace_212 rfl 0 rfl ?_
  refine mx_invV (Y := mm_RM_complete) (As := []) (rest := []) d_RM_badPlace_213.1 ok_RM_complete kw_275 kw_276 kw_277 rfl rfl (Nat.le_of_ble_eq_true rfl) (Nat.le_of_ble_eq_true rfl) h9.1 (q := mx_cl0_6) rfl rfl (h _ h9) (fun r1 hs8 h => ?_)
  obtain ⟨m2, h9, f8, z8, h⟩ := h
  obtain ⟨e9_, h⟩ := h
  subst e9_
  have f9 := mr_frc f9 f8 z8
  clear f8 z8
  show mx_Ok mx_S0 l G (d + 1) mm_RM_badPlace 216 [(0, .ref r), (1, .int l1), (2, .int l2)] [] hs8 _
  refine mx_goto d_RM_badPlace_216 ?_
  exact mx_sub [0, 1, 2] rfl (mr_at h h9 f9)
set_option maxRecDepth 100000 in
theorem wr_badPlace_251 {l : Launch} {G : mx_G} {r d : Nat} {m : rm_M} {Q : Option Value → rm_M → Prop} (l1 : Int32) (l2 : Int32) (h : mr_Ok l G r (d + 1) mm_RM_badPlace 20 [(0, .ref r), (1, .int l1), (2, .int (l2 + 1))] [] m Q) : mr_Ok l G r (d + 1) mm_RM_badPlace 251 [(0, .ref r), (1, .int l1), (2, .int l2)] [] m Q := by
  refine mr_start (fun hs0 hs9 h9 f9 => ?_)
  refine mx_iinc (v := l2 + 1) (lv2 := [(2, .int (l2 + 1)), (0, .ref r), (1, .int l1)]) d_RM_badPlace_251 2 rfl (by rfl) (Nat.le_of_ble_eq_true rfl) rfl ?_
  refine mx_goto d_RM_badPlace_254 ?_
  exact mx_sub [1, 2, 0] rfl (mr_at h h9 f9)
set_option maxRecDepth 100000 in
theorem wr_forget_0 {l : Launch} {G : mx_G} {r d : Nat} {m : rm_M} {Q : Option Value → rm_M → Prop}  (h : mr_Ok l G r (d + 1) mm_RM_forget 2 [(0, .ref r), (1, .int 0)] [] m Q) : mr_Ok l G r (d + 1) mm_RM_forget 0 [(0, .ref r)] [] m Q := by
  refine mr_start (fun hs0 hs9 h9 f9 => ?_)
  refine mx_iconst (v := 0) d_RM_forget_0 (by decide) ?_
  refine mx_istore_n (lv2 := [(1, .int 0), (0, .ref r)]) d_RM_forget_1 rfl (Nat.le_of_ble_eq_true rfl) rfl ?_
  exact mx_sub [1, 0] rfl (mr_at h h9 f9)
set_option maxRecDepth 100000 in
theorem wr_forget_2 {l : Launch} {G : mx_G} {r d : Nat} {m : rm_M} {Q : Option Value → rm_M → Prop} (l1 : Int32) (h : ((8 ≤ l1 → Q none m) ∧ (¬ (8 ≤ l1) → (¬ l1 < 0 ∧ Int32.toNatClampNeg l1 < 9 ∧ ∀ m1 : rm_M, m1 = rs_i m 3 (Int32.toNatClampNeg l1) 0 → mr_Ok l G r (d + 1) mm_RM_forget 2 [(0, .ref r), (1, .int (l1 + 1))] [] m1 Q)))) : mr_Ok l G r (d + 1) mm_RM_forget 2 [(0, .ref r), (1, .int l1)] [] m Q := by
  refine mr_start (fun hs0 hs9 h9 f9 => ?_)
  refine mx_iload_n d_RM_forget_2 rfl 1 rfl ?_
  refine mx_bipush (v := 8) d_RM_forget_3 (by decide) ?_
  refine mx_icmp_ge d_RM_forget_5 (fun c9 => ?_) (fun c9 => ?_)
  · replace h := h.1 c9
    exact mx_return d_RM_forget_21 rfl ⟨_, h9, f9.1, f9.2, h⟩
  · replace h := h.2 c9
    refine mx_aload_nR d_RM_forget_8 rfl 0 rfl ?_
    refine mx_get d_RM_forget_9 (ci := 6) (k := 3) (q := mx_cl0_6) (v := .ref (r + 4)) rfl (Nat.le_of_ble_eq_true rfl) kw_235 h9.1 rfl ?_
    refine mx_iload_n d_RM_forget_12 rfl 1 rfl ?_
    refine mx_iconst (v := 0) d_RM_forget_13 (by decide) ?_
    obtain ⟨e2_, e3_, h⟩ := h
    refine mx_zast d_RM_forget_14 (k := 107) rfl (by decide) (by omega) (Or.inl rfl) (h9.2 3 (by decide) (by decide)) e2_ (rm_alt e3_) ?_
    have f9 : mr_F hs0 (mx_st _ (r + 4) (107, (rm_av m 3).set (Int32.toNatClampNeg l1) (.int 0))) := mr_frs f9 (h9.2 3 (by decide) (by decide)) rfl
    have h9 : rm_ob (mx_st _ (r + 4) (107, (rm_av m 3).set (Int32.toNatClampNeg l1) (.int 0))) r (rs_i m 3 (Int32.toNatClampNeg l1) 0) := rm_aput h9 3 (Int32.toNatClampNeg l1) 0 (by decide) (by decide)
    replace h := h _ rfl
    generalize mx_st _ (r + 4) (107, (rm_av m 3).set (Int32.toNatClampNeg l1) (.int 0)) = hs9 at h9 f9 ⊢
    generalize rs_i m 3 (Int32.toNatClampNeg l1) 0 = m1 at h9 h
    refine mx_iinc (v := l1 + 1) (lv2 := [(1, .int (l1 + 1)), (0, .ref r)]) d_RM_forget_15 1 rfl (by rfl) (Nat.le_of_ble_eq_true rfl) rfl ?_
    refine mx_goto d_RM_forget_18 ?_
    exact mx_sub [1, 0] rfl (mr_at h h9 f9)
set_option maxRecDepth 100000 in
theorem wr_syntax_0 {l : Launch} {G : mx_G} {r d : Nat} {m : rm_M} {Q : Option Value → rm_M → Prop}  (h : mr_C l G r d mm_RM_badPlace [] m (fun (r1 : Option Value) (m2 : rm_M) => ∃ x3 : Int32, r1 = some (.int x3) ∧ ((x3 < 0 → mr_Ok l G r (d + 1) mm_RM_syntax 14 [(1, .int x3)] [] m2 Q) ∧ (¬ (x3 < 0) → (∀ m4 : rm_M, m4 = rs_s m2 6 x3 → mr_Ok l G r (d + 1) mm_RM_syntax 14 [(1, .int x3)] [] m4 Q))))) : mr_Ok l G r (d + 1) mm_RM_syntax 0 [(0, .ref r)] [] m Q := by
  refine mr_start (fun hs0 hs9 h9 f9 => ?_)
  refine mx_aload_nR d_RM_syntax_0 rfl 0 rfl ?_
  refine mx_invV (Y := mm_RM_badPlace) (As := []) (rest := []) d_RM_syntax_1.1 ok_RM_badPlace kw_278 kw_279 kw_280 rfl rfl (Nat.le_of_ble_eq_true rfl) (Nat.le_of_ble_eq_true rfl) h9.1 (q := mx_cl0_6) rfl rfl (h _ h9) (fun r1 hs8 h => ?_)
  obtain ⟨m2, h9, f8, z8, h⟩ := h
  obtain ⟨x3, e9_, h⟩ := h
  subst e9_
  have f9 := mr_frc f9 f8 z8
  clear f8 z8
  show mx_Ok mx_S0 l G (d + 1) mm_RM_syntax 4 [(0, .ref r)] [.int x3] hs8 _
  refine mx_istore_n (lv2 := [(1, .int x3), (0, .ref r)]) d_RM_syntax_4 rfl (Nat.le_of_ble_eq_true rfl) rfl ?_
  refine mx_iload_n d_RM_syntax_5 rfl 0 rfl ?_
  refine mx_if_lt d_RM_syntax_6 (fun c9 => ?_) (fun c9 => ?_)
  · replace h := h.1 c9
    exact mx_sub [0] rfl (mr_at h h9 f9)
  · replace h := h.2 c9
    refine mx_aload_nR d_RM_syntax_9 rfl 1 rfl ?_
    refine mx_iload_n d_RM_syntax_10 rfl 0 rfl ?_
    refine mx_put d_RM_syntax_11 (ci := 6) (k := 6) (q := mx_cl0_6) (ty := .int) rfl (Nat.le_of_ble_eq_true rfl) kw_238 rfl (by decide +kernel) rfl rfl (by omega) h9.1 ?_
    have f9 := mr_frs f9 h9.1 (x := (6, ((List.range 36).map (rm_fv r m2)).set 6 (.int x3))) rfl
    have h9 := rm_puts h9 6 x3 (by decide) (by decide) (by decide)
    replace h := h _ rfl
    generalize mx_st _ r (6, ((List.range 36).map (rm_fv r m2)).set 6 (.int x3)) = hs9 at h9 f9 ⊢
    generalize rs_s m2 6 x3 = m4 at h9 h
    exact mx_sub [0] rfl (mr_at h h9 f9)
set_option maxRecDepth 100000 in
theorem wr_syntax_14 {l : Launch} {G : mx_G} {r d : Nat} {m : rm_M} {Q : Option Value → rm_M → Prop} (l1 : Int32) (h : ((l1 < 0 → Q (some (.int 0)) m) ∧ (¬ (l1 < 0) → Q (some (.int 1)) m))) : mr_Ok l G r (d + 1) mm_RM_syntax 14 [(1, .int l1)] [] m Q := by
  refine mr_start (fun hs0 hs9 h9 f9 => ?_)
  refine mx_iload_n d_RM_syntax_14 rfl 0 rfl ?_
  refine mx_if_lt d_RM_syntax_15 (fun c9 => ?_) (fun c9 => ?_)
  · replace h := h.1 c9
    refine mx_iconst (v := 0) d_RM_syntax_22 (by decide) ?_
    exact mx_ireturn d_RM_syntax_23 rfl (mx_nz (Or.inl rfl)) ⟨_, h9, f9.1, f9.2, h⟩
  · replace h := h.2 c9
    refine mx_iconst (v := 1) d_RM_syntax_18 (by decide) ?_
    refine mx_goto d_RM_syntax_19 ?_
    exact mx_ireturn d_RM_syntax_23 rfl (mx_nz (Or.inr rfl)) ⟨_, h9, f9.1, f9.2, h⟩
set_option maxRecDepth 100000 in
theorem wr_define_0 {l : Launch} {G : mx_G} {r d : Nat} {m : rm_M} {Q : Option Value → rm_M → Prop} (l1 : Int32) (h : ((l1 < 0 → Q (some (.int (-1))) m) ∧ (¬ (l1 < 0) → ((l1 ≤ 7 → mr_C l G r d mm_RM_syntax [] m (fun (r1 : Option Value) (m2 : rm_M) => ∃ x3 : Int32, r1 = some (.int x3) ∧ ((¬ x3 = 0 → mr_Ok l G r (d + 1) mm_RM_define 80 [(0, .ref r), (2, .int x3)] [] m2 Q) ∧ (¬ (¬ x3 = 0) → mr_Ok l G r (d + 1) mm_RM_define 23 [(0, .ref r), (1, .int l1), (2, .int x3), (3, .int 0)] [] m2 Q)))) ∧ (¬ (l1 ≤ 7) → Q (some (.int (-1))) m))))) : mr_Ok l G r (d + 1) mm_RM_define 0 [(0, .ref r), (1, .int l1)] [] m Q := by
  refine mr_start (fun hs0 hs9 h9 f9 => ?_)
  refine mx_iload_n d_RM_define_0 rfl 1 rfl ?_
  refine mx_if_lt d_RM_define_1 (fun c9 => ?_) (fun c9 => ?_)
  · replace h := h.1 c9
    refine mx_iconst (v := -1) d_RM_define_10 (by decide) ?_
    exact mx_ireturn d_RM_define_11 rfl rfl ⟨_, h9, f9.1, f9.2, h⟩
  · replace h := h.2 c9
    refine mx_iload_n d_RM_define_4 rfl 1 rfl ?_
    refine mx_bipush (v := 7) d_RM_define_5 (by decide) ?_
    refine mx_icmp_le d_RM_define_7 (fun c9 => ?_) (fun c9 => ?_)
    · replace h := h.1 c9
      refine mx_aload_nR d_RM_define_12 rfl 0 rfl ?_
      refine mx_invV (Y := mm_RM_syntax) (As := []) (rest := []) d_RM_define_13.1 ok_RM_syntax kw_281 kw_282 kw_283 rfl rfl (Nat.le_of_ble_eq_true rfl) (Nat.le_of_ble_eq_true rfl) h9.1 (q := mx_cl0_6) rfl rfl (h _ h9) (fun r1 hs8 h => ?_)
      obtain ⟨m2, h9, f8, z8, h⟩ := h
      obtain ⟨x3, e9_, h⟩ := h
      subst e9_
      have f9 := mr_frc f9 f8 z8
      clear f8 z8
      show mx_Ok mx_S0 l G (d + 1) mm_RM_define 16 [(0, .ref r), (1, .int l1)] [.int x3] hs8 _
      refine mx_istore_n (lv2 := [(2, .int x3), (0, .ref r), (1, .int l1)]) d_RM_define_16 rfl (Nat.le_of_ble_eq_true rfl) rfl ?_
      refine mx_iload_n d_RM_define_17 rfl 0 rfl ?_
      refine mx_if_ne d_RM_define_18 (fun c9 => ?_) (fun c9 => ?_)
      · replace h := h.1 c9
        exact mx_sub [1, 0] rfl (mr_at h h9 f9)
      · replace h := h.2 c9
        refine mx_iconst (v := 0) d_RM_define_21 (by decide) ?_
        refine mx_istore_n (lv2 := [(3, .int 0), (2, .int x3), (0, .ref r), (1, .int l1)]) d_RM_define_22 rfl (Nat.le_of_ble_eq_true rfl) rfl ?_
        exact mx_sub [2, 3, 1, 0] rfl (mr_at h h9 f9)
    · replace h := h.2 c9
      refine mx_iconst (v := -1) d_RM_define_10 (by decide) ?_
      exact mx_ireturn d_RM_define_11 rfl rfl ⟨_, h9, f9.1, f9.2, h⟩
set_option maxRecDepth 100000 in
theorem wr_define_23 {l : Launch} {G : mx_G} {r d : Nat} {m : rm_M} {Q : Option Value → rm_M → Prop} (l1 : Int32) (l2 : Int32) (l3 : Int32) (h : ((24 ≤ l3 → (¬ (8 : Int32) < 0 ∧ Int32.toNatClampNeg 8 < 9 ∧ (¬ l1 < 0 ∧ Int32.toNatClampNeg l1 < 9 ∧ ∀ m1 : rm_M, m1 = rs_i m 1 (Int32.toNatClampNeg l1) (m.1 1 (Int32.toNatClampNeg 8)) → (¬ l1 < 0 ∧ Int32.toNatClampNeg l1 < 8 ∧ ∀ m2 : rm_M, m2 = rs_i m1 4 (Int32.toNatClampNeg l1) 1 → mr_C l G r d mm_RM_forget [] m2 (fun (r3 : Option Value) (m4 : rm_M) => r3 = none ∧ mr_Ok l G r (d + 1) mm_RM_define 80 [(0, .ref r), (2, .int l2)] [] m4 Q))))) ∧ (¬ (24 ≤ l3) → (¬ (192 + l3) < 0 ∧ Int32.toNatClampNeg (192 + l3) < 240 ∧ (¬ ((l1 * 24) + l3) < 0 ∧ Int32.toNatClampNeg ((l1 * 24) + l3) < 240 ∧ ∀ m5 : rm_M, m5 = rs_i m 0 (Int32.toNatClampNeg ((l1 * 24) + l3)) (m.1 0 (Int32.toNatClampNeg (192 + l3))) → mr_Ok l G r (d + 1) mm_RM_define 23 [(0, .ref r), (1, .int l1), (2, .int l2), (3, .int (l3 + 1))] [] m5 Q))))) : mr_Ok l G r (d + 1) mm_RM_define 23 [(0, .ref r), (1, .int l1), (2, .int l2), (3, .int l3)] [] m Q := by
  refine mr_start (fun hs0 hs9 h9 f9 => ?_)
  refine mx_iload_n d_RM_define_23 rfl 3 rfl ?_
  refine mx_bipush (v := 24) d_RM_define_24 (by decide) ?_
  refine mx_icmp_ge d_RM_define_26 (fun c9 => ?_) (fun c9 => ?_)
  · replace h := h.1 c9
    refine mx_aload_nR d_RM_define_56 rfl 0 rfl ?_
    refine mx_get d_RM_define_57 (ci := 6) (k := 1) (q := mx_cl0_6) (v := .ref (r + 2)) rfl (Nat.le_of_ble_eq_true rfl) kw_232 h9.1 rfl ?_
    refine mx_iload_n d_RM_define_60 rfl 1 rfl ?_
    refine mx_aload_nR d_RM_define_61 rfl 0 rfl ?_
    refine mx_get d_RM_define_62 (ci := 6) (k := 1) (q := mx_cl0_6) (v := .ref (r + 2)) rfl (Nat.le_of_ble_eq_true rfl) kw_232 h9.1 rfl ?_
    refine mx_bipush (v := 8) d_RM_define_65 (by decide) ?_
    obtain ⟨e2_, e3_, h⟩ := h
    refine mx_iald d_RM_define_67 (k := 104) rfl (h9.2 1 (by decide) (by decide)) e2_ (rm_aget (by decide) e3_) ?_
    obtain ⟨e2_, e3_, h⟩ := h
    refine mx_iast d_RM_define_68 (k := 104) rfl (by decide) (by omega) (h9.2 1 (by decide) (by decide)) e2_ (rm_alt e3_) ?_
    have f9 : mr_F hs0 (mx_st _ (r + 2) (104, (rm_av m 1).set (Int32.toNatClampNeg l1) (.int (m.1 1 (Int32.toNatClampNeg 8))))) := mr_frs f9 (h9.2 1 (by decide) (by decide)) rfl
    have h9 : rm_ob (mx_st _ (r + 2) (104, (rm_av m 1).set (Int32.toNatClampNeg l1) (.int (m.1 1 (Int32.toNatClampNeg 8))))) r (rs_i m 1 (Int32.toNatClampNeg l1) (m.1 1 (Int32.toNatClampNeg 8))) := rm_aput h9 1 (Int32.toNatClampNeg l1) (m.1 1 (Int32.toNatClampNeg 8)) (by decide) (by decide)
    replace h := h _ rfl
    generalize mx_st _ (r + 2) (104, (rm_av m 1).set (Int32.toNatClampNeg l1) (.int (m.1 1 (Int32.toNatClampNeg 8)))) = hs9 at h9 f9 ⊢
    generalize rs_i m 1 (Int32.toNatClampNeg l1) (m.1 1 (Int32.toNatClampNeg 8)) = m1 at h9 h
    refine mx_aload_nR d_RM_define_69 rfl 0 rfl ?_
    refine mx_get d_RM_define_70 (ci := 6) (k := 4) (q := mx_cl0_6) (v := .ref (r + 5)) rfl (Nat.le_of_ble_eq_true rfl) kw_236 h9.1 rfl ?_
    refine mx_iload_n d_RM_define_73 rfl 1 rfl ?_
    refine mx_iconst (v := 1) d_RM_define_74 (by decide) ?_
    obtain ⟨e2_, e3_, h⟩ := h
    refine mx_zast d_RM_define_75 (k := 107) rfl (by decide) (by omega) (Or.inr rfl) (h9.2 4 (by decide) (by decide)) e2_ (rm_alt e3_) ?_
    have f9 : mr_F hs0 (mx_st _ (r + 5) (107, (rm_av m1 4).set (Int32.toNatClampNeg l1) (.int 1))) := mr_frs f9 (h9.2 4 (by decide) (by decide)) rfl
    have h9 : rm_ob (mx_st _ (r + 5) (107, (rm_av m1 4).set (Int32.toNatClampNeg l1) (.int 1))) r (rs_i m1 4 (Int32.toNatClampNeg l1) 1) := rm_aput h9 4 (Int32.toNatClampNeg l1) 1 (by decide) (by decide)
    replace h := h _ rfl
    generalize mx_st _ (r + 5) (107, (rm_av m1 4).set (Int32.toNatClampNeg l1) (.int 1)) = hs9 at h9 f9 ⊢
    generalize rs_i m1 4 (Int32.toNatClampNeg l1) 1 = m2 at h9 h
    refine mx_aload_nR d_RM_define_76 rfl 0 rfl ?_
    refine mx_invV (Y := mm_RM_forget) (As := []) (rest := []) d_RM_define_77.1 ok_RM_forget kw_284 kw_285 kw_286 rfl rfl (Nat.le_of_ble_eq_true rfl) (Nat.le_of_ble_eq_true rfl) h9.1 (q := mx_cl0_6) rfl rfl (h _ h9) (fun r3 hs8 h => ?_)
    obtain ⟨m4, h9, f8, z8, h⟩ := h
    obtain ⟨e9_, h⟩ := h
    subst e9_
    have f9 := mr_frc f9 f8 z8
    clear f8 z8
    show mx_Ok mx_S0 l G (d + 1) mm_RM_define 80 [(0, .ref r), (1, .int l1), (2, .int l2), (3, .int l3)] [] hs8 _
    exact mx_sub [0, 2] rfl (mr_at h h9 f9)
  · replace h := h.2 c9
    refine mx_aload_nR d_RM_define_29 rfl 0 rfl ?_
    refine mx_get d_RM_define_30 (ci := 6) (k := 0) (q := mx_cl0_6) (v := .ref (r + 1)) rfl (Nat.le_of_ble_eq_true rfl) kw_231 h9.1 rfl ?_
    refine mx_iload_n d_RM_define_33 rfl 1 rfl ?_
    refine mx_bipush (v := 24) d_RM_define_34 (by decide) ?_
    refine mx_imul d_RM_define_36 ?_
    refine mx_iload_n d_RM_define_37 rfl 3 rfl ?_
    refine mx_iadd d_RM_define_38 ?_
    refine mx_aload_nR d_RM_define_39 rfl 0 rfl ?_
    refine mx_get d_RM_define_40 (ci := 6) (k := 0) (q := mx_cl0_6) (v := .ref (r + 1)) rfl (Nat.le_of_ble_eq_true rfl) kw_231 h9.1 rfl ?_
    refine mx_sipush (v := 192) d_RM_define_43 (by decide) ?_
    refine mx_iload_n d_RM_define_46 rfl 3 rfl ?_
    refine mx_iadd d_RM_define_47 ?_
    obtain ⟨e2_, e3_, h⟩ := h
    refine mx_iald d_RM_define_48 (k := 104) rfl (h9.2 0 (by decide) (by decide)) e2_ (rm_aget (by decide) e3_) ?_
    obtain ⟨e2_, e3_, h⟩ := h
    refine mx_iast d_RM_define_49 (k := 104) rfl (by decide) (by omega) (h9.2 0 (by decide) (by decide)) e2_ (rm_alt e3_) ?_
    have f9 : mr_F hs0 (mx_st _ (r + 1) (104, (rm_av m 0).set (Int32.toNatClampNeg ((l1 * 24) + l3)) (.int (m.1 0 (Int32.toNatClampNeg (192 + l3)))))) := mr_frs f9 (h9.2 0 (by decide) (by decide)) rfl
    have h9 : rm_ob (mx_st _ (r + 1) (104, (rm_av m 0).set (Int32.toNatClampNeg ((l1 * 24) + l3)) (.int (m.1 0 (Int32.toNatClampNeg (192 + l3)))))) r (rs_i m 0 (Int32.toNatClampNeg ((l1 * 24) + l3)) (m.1 0 (Int32.toNatClampNeg (192 + l3)))) := rm_aput h9 0 (Int32.toNatClampNeg ((l1 * 24) + l3)) (m.1 0 (Int32.toNatClampNeg (192 + l3))) (by decide) (by decide)
    replace h := h _ rfl
    generalize mx_st _ (r + 1) (104, (rm_av m 0).set (Int32.toNatClampNeg ((l1 * 24) + l3)) (.int (m.1 0 (Int32.toNatClampNeg (192 + l3))))) = hs9 at h9 f9 ⊢
    generalize rs_i m 0 (Int32.toNatClampNeg ((l1 * 24) + l3)) (m.1 0 (Int32.toNatClampNeg (192 + l3))) = m5 at h9 h
    refine mx_iinc (v := l3 + 1) (lv2 := [(3, .int (l3 + 1)), (0, .ref r), (1, .int l1), (2, .int l2)]) d_RM_define_50 3 rfl (by rfl) (Nat.le_of_ble_eq_true rfl) rfl ?_
    refine mx_goto d_RM_define_53 ?_
    exact mx_sub [1, 2, 3, 0] rfl (mr_at h h9 f9)
set_option maxRecDepth 100000 in
theorem wr_define_80 {l : Launch} {G : mx_G} {r d : Nat} {m : rm_M} {Q : Option Value → rm_M → Prop} (l2 : Int32) (h : (¬ (8 : Int32) < 0 ∧ Int32.toNatClampNeg 8 < 9 ∧ ∀ m1 : rm_M, m1 = rs_i m 1 (Int32.toNatClampNeg 8) 0 → ((l2 = 0 → Q (some (.int (m1.2.2.1 7))) m1) ∧ (¬ (l2 = 0) → Q (some (.int (-3))) m1)))) : mr_Ok l G r (d + 1) mm_RM_define 80 [(0, .ref r), (2, .int l2)] [] m Q := by
  refine mr_start (fun hs0 hs9 h9 f9 => ?_)
  refine mx_aload_nR d_RM_define_80 rfl 0 rfl ?_
  refine mx_get d_RM_define_81 (ci := 6) (k := 1) (q := mx_cl0_6) (v := .ref (r + 2)) rfl (Nat.le_of_ble_eq_true rfl) kw_232 h9.1 rfl ?_
  refine mx_bipush (v := 8) d_RM_define_84 (by decide) ?_
  refine mx_iconst (v := 0) d_RM_define_86 (by decide) ?_
  obtain ⟨e2_, e3_, h⟩ := h
  refine mx_iast d_RM_define_87 (k := 104) rfl (by decide) (by omega) (h9.2 1 (by decide) (by decide)) e2_ (rm_alt e3_) ?_
  have f9 : mr_F hs0 (mx_st _ (r + 2) (104, (rm_av m 1).set (Int32.toNatClampNeg 8) (.int 0))) := mr_frs f9 (h9.2 1 (by decide) (by decide)) rfl
  have h9 : rm_ob (mx_st _ (r + 2) (104, (rm_av m 1).set (Int32.toNatClampNeg 8) (.int 0))) r (rs_i m 1 (Int32.toNatClampNeg 8) 0) := rm_aput h9 1 (Int32.toNatClampNeg 8) 0 (by decide) (by decide)
  replace h := h _ rfl
  generalize mx_st _ (r + 2) (104, (rm_av m 1).set (Int32.toNatClampNeg 8) (.int 0)) = hs9 at h9 f9 ⊢
  generalize rs_i m 1 (Int32.toNatClampNeg 8) 0 = m1 at h9 h
  refine mx_iload_n d_RM_define_88 rfl 1 rfl ?_
  refine mx_if_eq d_RM_define_89 (fun c9 => ?_) (fun c9 => ?_)
  · replace h := h.1 c9
    refine mx_aload_nR d_RM_define_97 rfl 0 rfl ?_
    refine mx_get d_RM_define_98 (ci := 6) (k := 7) (q := mx_cl0_6) (v := .int (m1.2.2.1 7)) rfl (Nat.le_of_ble_eq_true rfl) kw_271 h9.1 rfl ?_
    exact mx_ireturn d_RM_define_101 rfl rfl ⟨_, h9, f9.1, f9.2, h⟩
  · replace h := h.2 c9
    refine mx_bipush (v := (-3)) d_RM_define_92 (by decide) ?_
    refine mx_goto d_RM_define_94 ?_
    exact mx_ireturn d_RM_define_101 rfl rfl ⟨_, h9, f9.1, f9.2, h⟩
set_option maxRecDepth 100000 in
theorem wr_undefine_0 {l : Launch} {G : mx_G} {r d : Nat} {m : rm_M} {Q : Option Value → rm_M → Prop} (l1 : Int32) (h : ((l1 < 0 → Q (some (.int (-1))) m) ∧ (¬ (l1 < 0) → ((7 < l1 → Q (some (.int (-1))) m) ∧ (¬ (7 < l1) → (¬ l1 < 0 ∧ Int32.toNatClampNeg l1 < 8 ∧ ((¬ (m.1 4 (Int32.toNatClampNeg l1)) = 0 → (¬ l1 < 0 ∧ Int32.toNatClampNeg l1 < 8 ∧ ∀ m1 : rm_M, m1 = rs_i m 4 (Int32.toNatClampNeg l1) 0 → mr_C l G r d mm_RM_forget [] m1 (fun (r2 : Option Value) (m3 : rm_M) => r2 = none ∧ Q (some (.int 0)) m3))) ∧ (¬ (¬ (m.1 4 (Int32.toNatClampNeg l1)) = 0) → Q (some (.int (-1))) m)))))))) : mr_Ok l G r (d + 1) mm_RM_undefine 0 [(0, .ref r), (1, .int l1)] [] m Q := by
  refine mr_start (fun hs0 hs9 h9 f9 => ?_)
  refine mx_iload_n d_RM_undefine_0 rfl 1 rfl ?_
  refine mx_if_lt d_RM_undefine_1 (fun c9 => ?_) (fun c9 => ?_)
  · replace h := h.1 c9
    refine mx_iconst (v := -1) d_RM_undefine_19 (by decide) ?_
    exact mx_ireturn d_RM_undefine_20 rfl rfl ⟨_, h9, f9.1, f9.2, h⟩
  · replace h := h.2 c9
    refine mx_iload_n d_RM_undefine_4 rfl 1 rfl ?_
    refine mx_bipush (v := 7) d_RM_undefine_5 (by decide) ?_
    refine mx_icmp_gt d_RM_undefine_7 (fun c9 => ?_) (fun c9 => ?_)
    · replace h := h.1 c9
      refine mx_iconst (v := -1) d_RM_undefine_19 (by decide) ?_
      exact mx_ireturn d_RM_undefine_20 rfl rfl ⟨_, h9, f9.1, f9.2, h⟩
    · replace h := h.2 c9
      refine mx_aload_nR d_RM_undefine_10 rfl 0 rfl ?_
      refine mx_get d_RM_undefine_11 (ci := 6) (k := 4) (q := mx_cl0_6) (v := .ref (r + 5)) rfl (Nat.le_of_ble_eq_true rfl) kw_236 h9.1 rfl ?_
      refine mx_iload_n d_RM_undefine_14 rfl 1 rfl ?_
      obtain ⟨e2_, e3_, h⟩ := h
      refine mx_zald d_RM_undefine_15 (k := 107) rfl (h9.2 4 (by decide) (by decide)) e2_ (rm_aget (by decide) e3_) ?_
      refine mx_if_ne d_RM_undefine_16 (fun c9 => ?_) (fun c9 => ?_)
      · replace h := h.1 c9
        refine mx_aload_nR d_RM_undefine_21 rfl 0 rfl ?_
        refine mx_get d_RM_undefine_22 (ci := 6) (k := 4) (q := mx_cl0_6) (v := .ref (r + 5)) rfl (Nat.le_of_ble_eq_true rfl) kw_236 h9.1 rfl ?_
        refine mx_iload_n d_RM_undefine_25 rfl 1 rfl ?_
        refine mx_iconst (v := 0) d_RM_undefine_26 (by decide) ?_
        obtain ⟨e2_, e3_, h⟩ := h
        refine mx_zast d_RM_undefine_27 (k := 107) rfl (by decide) (by omega) (Or.inl rfl) (h9.2 4 (by decide) (by decide)) e2_ (rm_alt e3_) ?_
        have f9 : mr_F hs0 (mx_st _ (r + 5) (107, (rm_av m 4).set (Int32.toNatClampNeg l1) (.int 0))) := mr_frs f9 (h9.2 4 (by decide) (by decide)) rfl
        have h9 : rm_ob (mx_st _ (r + 5) (107, (rm_av m 4).set (Int32.toNatClampNeg l1) (.int 0))) r (rs_i m 4 (Int32.toNatClampNeg l1) 0) := rm_aput h9 4 (Int32.toNatClampNeg l1) 0 (by decide) (by decide)
        replace h := h _ rfl
        generalize mx_st _ (r + 5) (107, (rm_av m 4).set (Int32.toNatClampNeg l1) (.int 0)) = hs9 at h9 f9 ⊢
        generalize rs_i m 4 (Int32.toNatClampNeg l1) 0 = m1 at h9 h
        refine mx_aload_nR d_RM_undefine_28 rfl 0 rfl ?_
        refine mx_invV (Y := mm_RM_forget) (As := []) (rest := []) d_RM_undefine_29.1 ok_RM_forget kw_284 kw_285 kw_286 rfl rfl (Nat.le_of_ble_eq_true rfl) (Nat.le_of_ble_eq_true rfl) h9.1 (q := mx_cl0_6) rfl rfl (h _ h9) (fun r2 hs8 h => ?_)
        obtain ⟨m3, h9, f8, z8, h⟩ := h
        obtain ⟨e9_, h⟩ := h
        subst e9_
        have f9 := mr_frc f9 f8 z8
        clear f8 z8
        show mx_Ok mx_S0 l G (d + 1) mm_RM_undefine 32 [(0, .ref r), (1, .int l1)] [] hs8 _
        refine mx_iconst (v := 0) d_RM_undefine_32 (by decide) ?_
        exact mx_ireturn d_RM_undefine_33 rfl rfl ⟨_, h9, f9.1, f9.2, h⟩
      · replace h := h.2 c9
        refine mx_iconst (v := -1) d_RM_undefine_19 (by decide) ?_
        exact mx_ireturn d_RM_undefine_20 rfl rfl ⟨_, h9, f9.1, f9.2, h⟩
set_option maxRecDepth 100000 in
theorem wr_behind_0 {l : Launch} {G : mx_G} {r d : Nat} {m : rm_M} {Q : Option Value → rm_M → Prop} (l1 : Int32) (l2 : Int32) (h : mr_Ok l G r (d + 1) mm_RM_behind 5 [(0, .ref r), (1, .int l1), (3, .int 1), (4, .int l2)] [] m Q) : mr_Ok l G r (d + 1) mm_RM_behind 0 [(0, .ref r), (1, .int l1), (2, .int l2)] [] m Q := by
  refine mr_start (fun hs0 hs9 h9 f9 => ?_)
  refine mx_iconst (v := 1) d_RM_behind_0 (by decide) ?_
  refine mx_istore_n (lv2 := [(3, .int 1), (0, .ref r), (1, .int l1), (2, .int l2)]) d_RM_behind_1 rfl (Nat.le_of_ble_eq_true rfl) rfl ?_
  refine mx_iload_n d_RM_behind_2 rfl 3 rfl ?_
  refine mx_istore (lv2 := [(4, .int l2), (3, .int 1), (0, .ref r), (1, .int l1), (2, .int l2)]) d_RM_behind_3 (Nat.le_of_ble_eq_true rfl) rfl ?_
  exact mx_sub [2, 3, 1, 0] rfl (mr_at h h9 f9)
set_option maxRecDepth 100000 in
theorem wr_behind_5 {l : Launch} {G : mx_G} {r d : Nat} {m : rm_M} {Q : Option Value → rm_M → Prop} (l1 : Int32) (l3 : Int32) (l4 : Int32) (h : ((l3 ≤ 0 → Q (some (.int l4)) m) ∧ (¬ (l3 ≤ 0) → (¬ ((l1 * 24) + l4) < 0 ∧ Int32.toNatClampNeg ((l1 * 24) + l4) < 240 ∧ ((¬ (m.1 0 (Int32.toNatClampNeg ((l1 * 24) + l4))) = 68 → mr_Ok l G r (d + 1) mm_RM_behind 92 [(0, .ref r), (1, .int l1), (3, .int l3), (4, .int (l4 + 1)), (5, .int (m.1 0 (Int32.toNatClampNeg ((l1 * 24) + l4))))] [] m Q) ∧ (¬ (¬ (m.1 0 (Int32.toNatClampNeg ((l1 * 24) + l4))) = 68) → mr_Ok l G r (d + 1) mm_RM_behind 39 [(0, .ref r), (1, .int l1), (3, .int l3), (4, .int ((l4 + 1) + 2)), (5, .int (m.1 0 (Int32.toNatClampNeg ((l1 * 24) + l4)))), (6, .int 1)] [] m Q)))))) : mr_Ok l G r (d + 1) mm_RM_behind 5 [(0, .ref r), (1, .int l1), (3, .int l3), (4, .int l4)] [] m Q := by
  refine mr_start (fun hs0 hs9 h9 f9 => ?_)
  refine mx_iload_n d_RM_behind_5 rfl 2 rfl ?_
  refine mx_if_le d_RM_behind_6 (fun c9 => ?_) (fun c9 => ?_)
  · replace h := h.1 c9
    refine mx_iload d_RM_behind_106 3 rfl ?_
    exact mx_ireturn d_RM_behind_108 rfl rfl ⟨_, h9, f9.1, f9.2, h⟩
  · replace h := h.2 c9
    refine mx_aload_nR d_RM_behind_9 rfl 0 rfl ?_
    refine mx_get d_RM_behind_10 (ci := 6) (k := 0) (q := mx_cl0_6) (v := .ref (r + 1)) rfl (Nat.le_of_ble_eq_true rfl) kw_231 h9.1 rfl ?_
    refine mx_iload_n d_RM_behind_13 rfl 1 rfl ?_
    refine mx_bipush (v := 24) d_RM_behind_14 (by decide) ?_
    refine mx_imul d_RM_behind_16 ?_
    refine mx_iload d_RM_behind_17 3 rfl ?_
    refine mx_iadd d_RM_behind_19 ?_
    obtain ⟨e2_, e3_, h⟩ := h
    refine mx_iald d_RM_behind_20 (k := 104) rfl (h9.2 0 (by decide) (by decide)) e2_ (rm_aget (by decide) e3_) ?_
    refine mx_istore (lv2 := [(5, .int (m.1 0 (Int32.toNatClampNeg ((l1 * 24) + l4)))), (0, .ref r), (1, .int l1), (3, .int l3), (4, .int l4)]) d_RM_behind_21 (Nat.le_of_ble_eq_true rfl) rfl ?_
    refine mx_iinc (v := l4 + 1) (lv2 := [(4, .int (l4 + 1)), (5, .int (m.1 0 (Int32.toNatClampNeg ((l1 * 24) + l4)))), (0, .ref r), (1, .int l1), (3, .int l3)]) d_RM_behind_23 4 rfl (by rfl) (Nat.le_of_ble_eq_true rfl) rfl ?_
    refine mx_iload d_RM_behind_26 1 rfl ?_
    refine mx_bipush (v := 68) d_RM_behind_28 (by decide) ?_
    refine mx_icmp_ne d_RM_behind_30 (fun c9 => ?_) (fun c9 => ?_)
    · replace h := h.1 c9
      exact mx_sub [2, 3, 4, 0, 1] rfl (mr_at h h9 f9)
    · replace h := h.2 c9
      refine mx_iinc (v := (l4 + 1) + 2) (lv2 := [(4, .int ((l4 + 1) + 2)), (5, .int (m.1 0 (Int32.toNatClampNeg ((l1 * 24) + l4)))), (0, .ref r), (1, .int l1), (3, .int l3)]) d_RM_behind_33 0 rfl (by rfl) (Nat.le_of_ble_eq_true rfl) rfl ?_
      refine mx_iconst (v := 1) d_RM_behind_36 (by decide) ?_
      refine mx_istore (lv2 := [(6, .int 1), (4, .int ((l4 + 1) + 2)), (5, .int (m.1 0 (Int32.toNatClampNeg ((l1 * 24) + l4)))), (0, .ref r), (1, .int l1), (3, .int l3)]) d_RM_behind_37 (Nat.le_of_ble_eq_true rfl) rfl ?_
      exact mx_sub [3, 4, 5, 1, 2, 0] rfl (mr_at h h9 f9)
set_option maxRecDepth 100000 in
theorem wr_behind_39 {l : Launch} {G : mx_G} {r d : Nat} {m : rm_M} {Q : Option Value → rm_M → Prop} (l1 : Int32) (l3 : Int32) (l4 : Int32) (l5 : Int32) (l6 : Int32) (h : ((l6 ≤ 0 → mr_Ok l G r (d + 1) mm_RM_behind 92 [(0, .ref r), (1, .int l1), (3, .int l3), (4, .int l4), (5, .int l5)] [] m Q) ∧ (¬ (l6 ≤ 0) → (¬ ((l1 * 24) + l4) < 0 ∧ Int32.toNatClampNeg ((l1 * 24) + l4) < 240 ∧ ((¬ (m.1 0 (Int32.toNatClampNeg ((l1 * 24) + l4))) = 40 → ((¬ (m.1 0 (Int32.toNatClampNeg ((l1 * 24) + l4))) = 41 → mr_Ok l G r (d + 1) mm_RM_behind 83 [(0, .ref r), (1, .int l1), (3, .int l3), (4, .int l4), (5, .int l5)] [.int 0, .int l6] m Q) ∧ (¬ (¬ (m.1 0 (Int32.toNatClampNeg ((l1 * 24) + l4))) = 41) → mr_Ok l G r (d + 1) mm_RM_behind 83 [(0, .ref r), (1, .int l1), (3, .int l3), (4, .int l4), (5, .int l5)] [.int (-1), .int l6] m Q))) ∧ (¬ (¬ (m.1 0 (Int32.toNatClampNeg ((l1 * 24) + l4))) = 40) → mr_Ok l G r (d + 1) mm_RM_behind 83 [(0, .ref r), (1, .int l1), (3, .int l3), (4, .int l4), (5, .int l5)] [.int 1, .int l6] m Q)))))) : mr_Ok l G r (d + 1) mm_RM_behind 39 [(0, .ref r), (1, .int l1), (3, .int l3), (4, .int l4), (5, .int l5), (6, .int l6)] [] m Q := by
  refine mr_start (fun hs0 hs9 h9 f9 => ?_)
  refine mx_iload d_RM_behind_39 5 rfl ?_
  refine mx_if_le d_RM_behind_41 (fun c9 => ?_) (fun c9 => ?_)
  · replace h := h.1 c9
    exact mx_sub [0, 1, 2, 3, 4] rfl (mr_at h h9 f9)
  · replace h := h.2 c9
    refine mx_aload_nR d_RM_behind_44 rfl 0 rfl ?_
    refine mx_get d_RM_behind_45 (ci := 6) (k := 0) (q := mx_cl0_6) (v := .ref (r + 1)) rfl (Nat.le_of_ble_eq_true rfl) kw_231 h9.1 rfl ?_
    refine mx_iload_n d_RM_behind_48 rfl 1 rfl ?_
    refine mx_bipush (v := 24) d_RM_behind_49 (by decide) ?_
    refine mx_imul d_RM_behind_51 ?_
    refine mx_iload d_RM_behind_52 3 rfl ?_
    refine mx_iadd d_RM_behind_54 ?_
    obtain ⟨e2_, e3_, h⟩ := h
    refine mx_iald d_RM_behind_55 (k := 104) rfl (h9.2 0 (by decide) (by decide)) e2_ (rm_aget (by decide) e3_) ?_
    refine mx_istore (lv2 := [(7, .int (m.1 0 (Int32.toNatClampNeg ((l1 * 24) + l4)))), (0, .ref r), (1, .int l1), (3, .int l3), (4, .int l4), (5, .int l5), (6, .int l6)]) d_RM_behind_56 (Nat.le_of_ble_eq_true rfl) rfl ?_
    refine mx_iload d_RM_behind_58 6 rfl ?_
    refine mx_iload d_RM_behind_60 0 rfl ?_
    refine mx_bipush (v := 40) d_RM_behind_62 (by decide) ?_
    refine mx_icmp_ne d_RM_behind_64 (fun c9 => ?_) (fun c9 => ?_)
    · replace h := h.1 c9
      refine mx_iload d_RM_behind_71 0 rfl ?_
      refine mx_bipush (v := 41) d_RM_behind_73 (by decide) ?_
      refine mx_icmp_ne d_RM_behind_75 (fun c9 => ?_) (fun c9 => ?_)
      · replace h := h.1 c9
        refine mx_iconst (v := 0) d_RM_behind_82 (by decide) ?_
        exact mx_sub [1, 2, 3, 4, 5] rfl (mr_at h h9 f9)
      · replace h := h.2 c9
        refine mx_iconst (v := -1) d_RM_behind_78 (by decide) ?_
        refine mx_goto d_RM_behind_79 ?_
        exact mx_sub [1, 2, 3, 4, 5] rfl (mr_at h h9 f9)
    · replace h := h.2 c9
      refine mx_iconst (v := 1) d_RM_behind_67 (by decide) ?_
      refine mx_goto d_RM_behind_68 ?_
      exact mx_sub [1, 2, 3, 4, 5] rfl (mr_at h h9 f9)
set_option maxRecDepth 100000 in
theorem wr_behind_83 {l : Launch} {G : mx_G} {r d : Nat} {m : rm_M} {Q : Option Value → rm_M → Prop} (l1 : Int32) (l3 : Int32) (l4 : Int32) (l5 : Int32) (s0 : Int32) (s1 : Int32) (h : mr_Ok l G r (d + 1) mm_RM_behind 39 [(0, .ref r), (1, .int l1), (3, .int l3), (4, .int (l4 + 1)), (5, .int l5), (6, .int (s0 + s1))] [] m Q) : mr_Ok l G r (d + 1) mm_RM_behind 83 [(0, .ref r), (1, .int l1), (3, .int l3), (4, .int l4), (5, .int l5)] [.int s1, .int s0] m Q := by
  refine mr_start (fun hs0 hs9 h9 f9 => ?_)
  refine mx_iadd d_RM_behind_83 ?_
  refine mx_istore (lv2 := [(6, .int (s0 + s1)), (0, .ref r), (1, .int l1), (3, .int l3), (4, .int l4), (5, .int l5)]) d_RM_behind_84 (Nat.le_of_ble_eq_true rfl) rfl ?_
  refine mx_iinc (v := l4 + 1) (lv2 := [(4, .int (l4 + 1)), (6, .int (s0 + s1)), (0, .ref r), (1, .int l1), (3, .int l3), (5, .int l5)]) d_RM_behind_86 4 rfl (by rfl) (Nat.le_of_ble_eq_true rfl) rfl ?_
  refine mx_goto d_RM_behind_89 ?_
  exact mx_sub [2, 3, 4, 0, 5, 1] rfl (mr_at h h9 f9)
set_option maxRecDepth 100000 in
theorem wr_behind_92 {l : Launch} {G : mx_G} {r d : Nat} {m : rm_M} {Q : Option Value → rm_M → Prop} (l1 : Int32) (l3 : Int32) (l4 : Int32) (l5 : Int32) (h : mr_C l G r d mm_RM_wants [.int l5] m (fun (r1 : Option Value) (m2 : rm_M) => ∃ x3 : Int32, r1 = some (.int x3) ∧ mr_Ok l G r (d + 1) mm_RM_behind 5 [(0, .ref r), (1, .int l1), (3, .int (l3 + (x3 - 1))), (4, .int l4)] [] m2 Q)) : mr_Ok l G r (d + 1) mm_RM_behind 92 [(0, .ref r), (1, .int l1), (3, .int l3), (4, .int l4), (5, .int l5)] [] m Q := by
  refine mr_start (fun hs0 hs9 h9 f9 => ?_)
  refine mx_iload_n d_RM_behind_92 rfl 2 rfl ?_
  refine mx_aload_nR d_RM_behind_93 rfl 0 rfl ?_
  refine mx_iload d_RM_behind_94 4 rfl ?_
  refine mx_invV (Y := mm_RM_wants) (As := [.int l5]) (rest := [.int l3]) d_RM_behind_96.1 ok_RM_wants kw_258 kw_259 kw_260 rfl rfl (Nat.le_of_ble_eq_true rfl) (Nat.le_of_ble_eq_true rfl) h9.1 (q := mx_cl0_6) rfl rfl (h _ h9) (fun r1 hs8 h => ?_)
  obtain ⟨m2, h9, f8, z8, h⟩ := h
  obtain ⟨x3, e9_, h⟩ := h
  subst e9_
  have f9 := mr_frc f9 f8 z8
  clear f8 z8
  show mx_Ok mx_S0 l G (d + 1) mm_RM_behind 99 [(0, .ref r), (1, .int l1), (3, .int l3), (4, .int l4), (5, .int l5)] [.int x3, .int l3] hs8 _
  refine mx_iconst (v := 1) d_RM_behind_99 (by decide) ?_
  refine mx_isub d_RM_behind_100 ?_
  refine mx_iadd d_RM_behind_101 ?_
  refine mx_istore_n (lv2 := [(3, .int (l3 + (x3 - 1))), (0, .ref r), (1, .int l1), (4, .int l4), (5, .int l5)]) d_RM_behind_102 rfl (Nat.le_of_ble_eq_true rfl) rfl ?_
  refine mx_goto d_RM_behind_103 ?_
  exact mx_sub [1, 2, 0, 3] rfl (mr_at h h9 f9)
set_option maxRecDepth 100000 in
theorem wr_begin_0 {l : Launch} {G : mx_G} {r d : Nat} {m : rm_M} {Q : Option Value → rm_M → Prop} (l1 : Int32) (l2 : Int32) (h : (∀ m1 : rm_M, m1 = rs_s m 17 0 → ((¬ (m1.2.2.1 20) = 200 → (∀ m2 : rm_M, m2 = rs_s m1 20 ((m1.2.2.1 20) + 1) → (¬ ((l1 * 24) + l2) < 0 ∧ Int32.toNatClampNeg ((l1 * 24) + l2) < 240 ∧ mr_C l G r d mm_RM_digit [.int (m2.1 0 (Int32.toNatClampNeg ((l1 * 24) + l2)))] m2 (fun (r3 : Option Value) (m4 : rm_M) => ∃ x5 : Int32, r3 = some (.int x5) ∧ ((x5 = 0 → mr_C l G r d mm_RM_name [.int (m2.1 0 (Int32.toNatClampNeg ((l1 * 24) + l2)))] m4 (fun (r6 : Option Value) (m7 : rm_M) => ∃ x8 : Int32, r6 = some (.int x8) ∧ ((x8 = 0 → mr_Ok l G r (d + 1) mm_RM_begin 82 [(0, .ref r), (1, .int l1), (2, .int l2), (3, .int (m2.1 0 (Int32.toNatClampNeg ((l1 * 24) + l2))))] [] m7 Q) ∧ (¬ (x8 = 0) → mr_C l G r d mm_RM_enter [.int ((m2.1 0 (Int32.toNatClampNeg ((l1 * 24) + l2))) - 97)] m7 (fun (r9 : Option Value) (m10 : rm_M) => ∃ x11 : Int32, r9 = some (.int x11) ∧ ((x11 = 0 → mr_Ok l G r (d + 1) mm_RM_begin 82 [(0, .ref r), (1, .int l1), (2, .int l2), (3, .int (m2.1 0 (Int32.toNatClampNeg ((l1 * 24) + l2))))] [] m10 Q) ∧ (¬ (x11 = 0) → Q none m10))))))) ∧ (¬ (x5 = 0) → (∀ m12 : rm_M, m12 = rs_r m4 (Int32.toInt64 ((m2.1 0 (Int32.toNatClampNeg ((l1 * 24) + l2))) - 48)) → Q none m12))))))) ∧ (¬ (¬ (m1.2.2.1 20) = 200) → (∀ m13 : rm_M, m13 = rs_s m1 22 (-10) → Q none m13))))) : mr_Ok l G r (d + 1) mm_RM_begin 0 [(0, .ref r), (1, .int l1), (2, .int l2)] [] m Q := by
  refine mr_start (fun hs0 hs9 h9 f9 => ?_)
  refine mx_aload_nR d_RM_begin_0 rfl 0 rfl ?_
  refine mx_iconst (v := 0) d_RM_begin_1 (by decide) ?_
  refine mx_put d_RM_begin_2 (ci := 6) (k := 17) (q := mx_cl0_6) (ty := .boolean) rfl (Nat.le_of_ble_eq_true rfl) kw_287 rfl (by decide +kernel) (mx_nz (Or.inl rfl)) (mx_fz (Or.inl rfl)) (by omega) h9.1 ?_
  have f9 := mr_frs f9 h9.1 (x := (6, ((List.range 36).map (rm_fv r m)).set 17 (.int 0))) rfl
  have h9 := rm_puts h9 17 0 (by decide) (by decide) (by decide)
  replace h := h _ rfl
  generalize mx_st _ r (6, ((List.range 36).map (rm_fv r m)).set 17 (.int 0)) = hs9 at h9 f9 ⊢
  generalize rs_s m 17 0 = m1 at h9 h
  refine mx_aload_nR d_RM_begin_5 rfl 0 rfl ?_
  refine mx_get d_RM_begin_6 (ci := 6) (k := 20) (q := mx_cl0_6) (v := .int (m1.2.2.1 20)) rfl (Nat.le_of_ble_eq_true rfl) kw_288 h9.1 rfl ?_
  refine mx_sipush (v := 200) d_RM_begin_9 (by decide) ?_
  refine mx_icmp_ne d_RM_begin_12 (fun c9 => ?_) (fun c9 => ?_)
  · replace h := h.1 c9
    refine mx_aload_nR d_RM_begin_22 rfl 0 rfl ?_
    refine mx_dup d_RM_begin_23 rfl ?_
    refine mx_get d_RM_begin_24 (ci := 6) (k := 20) (q := mx_cl0_6) (v := .int (m1.2.2.1 20)) rfl (Nat.le_of_ble_eq_true rfl) kw_288 h9.1 rfl ?_
    refine mx_iconst (v := 1) d_RM_begin_27 (by decide) ?_
    refine mx_iadd d_RM_begin_28 ?_
    refine mx_put d_RM_begin_29 (ci := 6) (k := 20) (q := mx_cl0_6) (ty := .int) rfl (Nat.le_of_ble_eq_true rfl) kw_288 rfl (by decide +kernel) rfl rfl (by omega) h9.1 ?_
    have f9 := mr_frs f9 h9.1 (x := (6, ((List.range 36).map (rm_fv r m1)).set 20 (.int ((m1.2.2.1 20) + 1)))) rfl
    have h9 := rm_puts h9 20 ((m1.2.2.1 20) + 1) (by decide) (by decide) (by decide)
    replace h := h _ rfl
    generalize mx_st _ r (6, ((List.range 36).map (rm_fv r m1)).set 20 (.int ((m1.2.2.1 20) + 1))) = hs9 at h9 f9 ⊢
    generalize rs_s m1 20 ((m1.2.2.1 20) + 1) = m2 at h9 h
    refine mx_aload_nR d_RM_begin_32 rfl 0 rfl ?_
    refine mx_get d_RM_begin_33 (ci := 6) (k := 0) (q := mx_cl0_6) (v := .ref (r + 1)) rfl (Nat.le_of_ble_eq_true rfl) kw_231 h9.1 rfl ?_
    refine mx_iload_n d_RM_begin_36 rfl 1 rfl ?_
    refine mx_bipush (v := 24) d_RM_begin_37 (by decide) ?_
    refine mx_imul d_RM_begin_39 ?_
    refine mx_iload_n d_RM_begin_40 rfl 2 rfl ?_
    refine mx_iadd d_RM_begin_41 ?_
    obtain ⟨e2_, e3_, h⟩ := h
    refine mx_iald d_RM_begin_42 (k := 104) rfl (h9.2 0 (by decide) (by decide)) e2_ (rm_aget (by decide) e3_) ?_
    refine mx_istore_n (lv2 := [(3, .int (m2.1 0 (Int32.toNatClampNeg ((l1 * 24) + l2)))), (0, .ref r), (1, .int l1), (2, .int l2)]) d_RM_begin_43 rfl (Nat.le_of_ble_eq_true rfl) rfl ?_
    refine mx_aload_nR d_RM_begin_44 rfl 1 rfl ?_
    refine mx_iload_n d_RM_begin_45 rfl 0 rfl ?_
    refine mx_invV (Y := mm_RM_digit) (As := [.int (m2.1 0 (Int32.toNatClampNeg ((l1 * 24) + l2)))]) (rest := []) d_RM_begin_46.1 ok_RM_digit kw_264 kw_265 kw_266 rfl rfl (Nat.le_of_ble_eq_true rfl) (Nat.le_of_ble_eq_true rfl) h9.1 (q := mx_cl0_6) rfl rfl (h _ h9) (fun r3 hs8 h => ?_)
    obtain ⟨m4, h9, f8, z8, h⟩ := h
    obtain ⟨x5, e9_, h⟩ := h
    subst e9_
    have f9 := mr_frc f9 f8 z8
    clear f8 z8
    show mx_Ok mx_S0 l G (d + 1) mm_RM_begin 49 [(3, .int (m2.1 0 (Int32.toNatClampNeg ((l1 * 24) + l2)))), (0, .ref r), (1, .int l1), (2, .int l2)] [.int x5] hs8 _
    refine mx_if_eq d_RM_begin_49 (fun c9 => ?_) (fun c9 => ?_)
    · replace h := h.1 c9
      refine mx_aload_nR d_RM_begin_62 rfl 1 rfl ?_
      refine mx_iload_n d_RM_begin_63 rfl 0 rfl ?_
      refine mx_invV (Y := mm_RM_name) (As := [.int (m2.1 0 (Int32.toNatClampNeg ((l1 * 24) + l2)))]) (rest := []) d_RM_begin_64.1 ok_RM_name kw_261 kw_262 kw_263 rfl rfl (Nat.le_of_ble_eq_true rfl) (Nat.le_of_ble_eq_true rfl) h9.1 (q := mx_cl0_6) rfl rfl (h _ h9) (fun r6 hs8 h => ?_)
      obtain ⟨m7, h9, f8, z8, h⟩ := h
      obtain ⟨x8, e9_, h⟩ := h
      subst e9_
      have f9 := mr_frc f9 f8 z8
      clear f8 z8
      show mx_Ok mx_S0 l G (d + 1) mm_RM_begin 67 [(3, .int (m2.1 0 (Int32.toNatClampNeg ((l1 * 24) + l2)))), (0, .ref r), (1, .int l1), (2, .int l2)] [.int x8] hs8 _
      refine mx_if_eq d_RM_begin_67 (fun c9 => ?_) (fun c9 => ?_)
      · replace h := h.1 c9
        exact mx_sub [1, 2, 3, 0] rfl (mr_at h h9 f9)
      · replace h := h.2 c9
        refine mx_aload_nR d_RM_begin_70 rfl 1 rfl ?_
        refine mx_iload_n d_RM_begin_71 rfl 0 rfl ?_
        refine mx_bipush (v := 97) d_RM_begin_72 (by decide) ?_
        refine mx_isub d_RM_begin_74 ?_
        refine mx_invV (Y := mm_RM_enter) (As := [.int ((m2.1 0 (Int32.toNatClampNeg ((l1 * 24) + l2))) - 97)]) (rest := []) d_RM_begin_75.1 ok_RM_enter kw_289 kw_290 kw_291 rfl rfl (Nat.le_of_ble_eq_true rfl) (Nat.le_of_ble_eq_true rfl) h9.1 (q := mx_cl0_6) rfl rfl (h _ h9) (fun r9 hs8 h => ?_)
        obtain ⟨m10, h9, f8, z8, h⟩ := h
        obtain ⟨x11, e9_, h⟩ := h
        subst e9_
        have f9 := mr_frc f9 f8 z8
        clear f8 z8
        show mx_Ok mx_S0 l G (d + 1) mm_RM_begin 78 [(3, .int (m2.1 0 (Int32.toNatClampNeg ((l1 * 24) + l2)))), (0, .ref r), (1, .int l1), (2, .int l2)] [.int x11] hs8 _
        refine mx_if_eq d_RM_begin_78 (fun c9 => ?_) (fun c9 => ?_)
        · replace h := h.1 c9
          exact mx_sub [1, 2, 3, 0] rfl (mr_at h h9 f9)
        · replace h := h.2 c9
          exact mx_return d_RM_begin_81 rfl ⟨_, h9, f9.1, f9.2, h⟩
    · replace h := h.2 c9
      refine mx_aload_nR d_RM_begin_52 rfl 1 rfl ?_
      refine mx_iload_n d_RM_begin_53 rfl 0 rfl ?_
      refine mx_bipush (v := 48) d_RM_begin_54 (by decide) ?_
      refine mx_isub d_RM_begin_56 ?_
      refine mx_i2l d_RM_begin_57 ?_
      refine mx_put d_RM_begin_58 (ci := 6) (k := 23) (q := mx_cl0_6) (ty := .long) rfl (Nat.le_of_ble_eq_true rfl) kw_292 rfl (by decide +kernel) rfl rfl (by omega) h9.1 ?_
      have f9 := mr_frs f9 h9.1 (x := (6, ((List.range 36).map (rm_fv r m4)).set 23 (.long (Int32.toInt64 ((m2.1 0 (Int32.toNatClampNeg ((l1 * 24) + l2))) - 48))))) rfl
      have h9 := rm_putr h9 (Int32.toInt64 ((m2.1 0 (Int32.toNatClampNeg ((l1 * 24) + l2))) - 48))
      replace h := h _ rfl
      generalize mx_st _ r (6, ((List.range 36).map (rm_fv r m4)).set 23 (.long (Int32.toInt64 ((m2.1 0 (Int32.toNatClampNeg ((l1 * 24) + l2))) - 48)))) = hs9 at h9 f9 ⊢
      generalize rs_r m4 (Int32.toInt64 ((m2.1 0 (Int32.toNatClampNeg ((l1 * 24) + l2))) - 48)) = m12 at h9 h
      exact mx_return d_RM_begin_61 rfl ⟨_, h9, f9.1, f9.2, h⟩
  · replace h := h.2 c9
    refine mx_aload_nR d_RM_begin_15 rfl 0 rfl ?_
    refine mx_bipush (v := (-10)) d_RM_begin_16 (by decide) ?_
    refine mx_put d_RM_begin_18 (ci := 6) (k := 22) (q := mx_cl0_6) (ty := .int) rfl (Nat.le_of_ble_eq_true rfl) kw_293 rfl (by decide +kernel) rfl rfl (by omega) h9.1 ?_
    have f9 := mr_frs f9 h9.1 (x := (6, ((List.range 36).map (rm_fv r m1)).set 22 (.int (-10)))) rfl
    have h9 := rm_puts h9 22 (-10) (by decide) (by decide) (by decide)
    replace h := h _ rfl
    generalize mx_st _ r (6, ((List.range 36).map (rm_fv r m1)).set 22 (.int (-10))) = hs9 at h9 f9 ⊢
    generalize rs_s m1 22 (-10) = m13 at h9 h
    exact mx_return d_RM_begin_21 rfl ⟨_, h9, f9.1, f9.2, h⟩
set_option maxRecDepth 100000 in
theorem wr_begin_82 {l : Launch} {G : mx_G} {r d : Nat} {m : rm_M} {Q : Option Value → rm_M → Prop} (l1 : Int32) (l2 : Int32) (l3 : Int32) (h : (¬ (m.2.2.1 19) < 0 ∧ Int32.toNatClampNeg (m.2.2.1 19) < 100 ∧ ∀ m1 : rm_M, m1 = rs_i m 12 (Int32.toNatClampNeg (m.2.2.1 19)) l3 → (¬ (m1.2.2.1 19) < 0 ∧ Int32.toNatClampNeg (m1.2.2.1 19) < 100 ∧ ∀ m2 : rm_M, m2 = rs_i m1 13 (Int32.toNatClampNeg (m1.2.2.1 19)) l1 → ((¬ l3 = 68 → mr_Ok l G r (d + 1) mm_RM_begin 122 [(0, .ref r), (1, .int l1), (2, .int l2), (3, .int l3)] [.int 1, .int l2, .int (m2.2.2.1 19), .ref (r + 12)] m2 Q) ∧ (¬ (¬ l3 = 68) → mr_Ok l G r (d + 1) mm_RM_begin 122 [(0, .ref r), (1, .int l1), (2, .int l2), (3, .int l3)] [.int 3, .int l2, .int (m2.2.2.1 19), .ref (r + 12)] m2 Q))))) : mr_Ok l G r (d + 1) mm_RM_begin 82 [(0, .ref r), (1, .int l1), (2, .int l2), (3, .int l3)] [] m Q := by
  refine mr_start (fun hs0 hs9 h9 f9 => ?_)
  refine mx_aload_nR d_RM_begin_82 rfl 0 rfl ?_
  refine mx_get d_RM_begin_83 (ci := 6) (k := 12) (q := mx_cl0_6) (v := .ref (r + 10)) rfl (Nat.le_of_ble_eq_true rfl) kw_242 h9.1 rfl ?_
  refine mx_aload_nR d_RM_begin_86 rfl 0 rfl ?_
  refine mx_get d_RM_begin_87 (ci := 6) (k := 19) (q := mx_cl0_6) (v := .int (m.2.2.1 19)) rfl (Nat.le_of_ble_eq_true rfl) kw_294 h9.1 rfl ?_
  refine mx_iload_n d_RM_begin_90 rfl 3 rfl ?_
  obtain ⟨e2_, e3_, h⟩ := h
  refine mx_iast d_RM_begin_91 (k := 104) rfl (by decide) (by omega) (h9.2 12 (by decide) (by decide)) e2_ (rm_alt e3_) ?_
  have f9 : mr_F hs0 (mx_st _ (r + 10) (104, (rm_av m 12).set (Int32.toNatClampNeg (m.2.2.1 19)) (.int l3))) := mr_frs f9 (h9.2 12 (by decide) (by decide)) rfl
  have h9 : rm_ob (mx_st _ (r + 10) (104, (rm_av m 12).set (Int32.toNatClampNeg (m.2.2.1 19)) (.int l3))) r (rs_i m 12 (Int32.toNatClampNeg (m.2.2.1 19)) l3) := rm_aput h9 12 (Int32.toNatClampNeg (m.2.2.1 19)) l3 (by decide) (by decide)
  replace h := h _ rfl
  generalize mx_st _ (r + 10) (104, (rm_av m 12).set (Int32.toNatClampNeg (m.2.2.1 19)) (.int l3)) = hs9 at h9 f9 ⊢
  generalize rs_i m 12 (Int32.toNatClampNeg (m.2.2.1 19)) l3 = m1 at h9 h
  refine mx_aload_nR d_RM_begin_92 rfl 0 rfl ?_
  refine mx_get d_RM_begin_93 (ci := 6) (k := 13) (q := mx_cl0_6) (v := .ref (r + 11)) rfl (Nat.le_of_ble_eq_true rfl) kw_243 h9.1 rfl ?_
  refine mx_aload_nR d_RM_begin_96 rfl 0 rfl ?_
  refine mx_get d_RM_begin_97 (ci := 6) (k := 19) (q := mx_cl0_6) (v := .int (m1.2.2.1 19)) rfl (Nat.le_of_ble_eq_true rfl) kw_294 h9.1 rfl ?_
  refine mx_iload_n d_RM_begin_100 rfl 1 rfl ?_
  obtain ⟨e2_, e3_, h⟩ := h
  refine mx_iast d_RM_begin_101 (k := 104) rfl (by decide) (by omega) (h9.2 13 (by decide) (by decide)) e2_ (rm_alt e3_) ?_
  have f9 : mr_F hs0 (mx_st _ (r + 11) (104, (rm_av m1 13).set (Int32.toNatClampNeg (m1.2.2.1 19)) (.int l1))) := mr_frs f9 (h9.2 13 (by decide) (by decide)) rfl
  have h9 : rm_ob (mx_st _ (r + 11) (104, (rm_av m1 13).set (Int32.toNatClampNeg (m1.2.2.1 19)) (.int l1))) r (rs_i m1 13 (Int32.toNatClampNeg (m1.2.2.1 19)) l1) := rm_aput h9 13 (Int32.toNatClampNeg (m1.2.2.1 19)) l1 (by decide) (by decide)
  replace h := h _ rfl
  generalize mx_st _ (r + 11) (104, (rm_av m1 13).set (Int32.toNatClampNeg (m1.2.2.1 19)) (.int l1)) = hs9 at h9 f9 ⊢
  generalize rs_i m1 13 (Int32.toNatClampNeg (m1.2.2.1 19)) l1 = m2 at h9 h
  refine mx_aload_nR d_RM_begin_102 rfl 0 rfl ?_
  refine mx_get d_RM_begin_103 (ci := 6) (k := 14) (q := mx_cl0_6) (v := .ref (r + 12)) rfl (Nat.le_of_ble_eq_true rfl) kw_244 h9.1 rfl ?_
  refine mx_aload_nR d_RM_begin_106 rfl 0 rfl ?_
  refine mx_get d_RM_begin_107 (ci := 6) (k := 19) (q := mx_cl0_6) (v := .int (m2.2.2.1 19)) rfl (Nat.le_of_ble_eq_true rfl) kw_294 h9.1 rfl ?_
  refine mx_iload_n d_RM_begin_110 rfl 2 rfl ?_
  refine mx_iload_n d_RM_begin_111 rfl 3 rfl ?_
  refine mx_bipush (v := 68) d_RM_begin_112 (by decide) ?_
  refine mx_icmp_ne d_RM_begin_114 (fun c9 => ?_) (fun c9 => ?_)
  · replace h := h.1 c9
    refine mx_iconst (v := 1) d_RM_begin_121 (by decide) ?_
    exact mx_sub [0, 1, 2, 3] rfl (mr_at h h9 f9)
  · replace h := h.2 c9
    refine mx_iconst (v := 3) d_RM_begin_117 (by decide) ?_
    refine mx_goto d_RM_begin_118 ?_
    exact mx_sub [0, 1, 2, 3] rfl (mr_at h h9 f9)
set_option maxRecDepth 100000 in
theorem wr_begin_122 {l : Launch} {G : mx_G} {r d : Nat} {m : rm_M} {Q : Option Value → rm_M → Prop} (l1 : Int32) (l2 : Int32) (l3 : Int32) (s1 : Int32) (s2 : Int32) (s3 : Int32) (h : (¬ s1 < 0 ∧ Int32.toNatClampNeg s1 < 100 ∧ ∀ m1 : rm_M, m1 = rs_i m 14 (Int32.toNatClampNeg s1) (s2 + s3) → (¬ (m1.2.2.1 19) < 0 ∧ Int32.toNatClampNeg (m1.2.2.1 19) < 100 ∧ ∀ m2 : rm_M, m2 = rs_i m1 15 (Int32.toNatClampNeg (m1.2.2.1 19)) 0 → ((¬ l3 = 68 → mr_Ok l G r (d + 1) mm_RM_begin 165 [(0, .ref r)] [] m2 Q) ∧ (¬ (¬ l3 = 68) → (¬ (((l1 * 24) + l2) + 1) < 0 ∧ Int32.toNatClampNeg (((l1 * 24) + l2) + 1) < 240 ∧ (¬ (m2.2.2.1 19) < 0 ∧ Int32.toNatClampNeg (m2.2.2.1 19) < 100 ∧ ∀ m3 : rm_M, m3 = rs_i m2 16 (Int32.toNatClampNeg (m2.2.2.1 19)) ((m2.1 0 (Int32.toNatClampNeg (((l1 * 24) + l2) + 1))) - 48) → mr_Ok l G r (d + 1) mm_RM_begin 165 [(0, .ref r)] [] m3 Q))))))) : mr_Ok l G r (d + 1) mm_RM_begin 122 [(0, .ref r), (1, .int l1), (2, .int l2), (3, .int l3)] [.int s3, .int s2, .int s1, .ref (r + 12)] m Q := by
  refine mr_start (fun hs0 hs9 h9 f9 => ?_)
  refine mx_iadd d_RM_begin_122 ?_
  obtain ⟨e2_, e3_, h⟩ := h
  refine mx_iast d_RM_begin_123 (k := 104) rfl (by decide) (by omega) (h9.2 14 (by decide) (by decide)) e2_ (rm_alt e3_) ?_
  have f9 : mr_F hs0 (mx_st _ (r + 12) (104, (rm_av m 14).set (Int32.toNatClampNeg s1) (.int (s2 + s3)))) := mr_frs f9 (h9.2 14 (by decide) (by decide)) rfl
  have h9 : rm_ob (mx_st _ (r + 12) (104, (rm_av m 14).set (Int32.toNatClampNeg s1) (.int (s2 + s3)))) r (rs_i m 14 (Int32.toNatClampNeg s1) (s2 + s3)) := rm_aput h9 14 (Int32.toNatClampNeg s1) (s2 + s3) (by decide) (by decide)
  replace h := h _ rfl
  generalize mx_st _ (r + 12) (104, (rm_av m 14).set (Int32.toNatClampNeg s1) (.int (s2 + s3))) = hs9 at h9 f9 ⊢
  generalize rs_i m 14 (Int32.toNatClampNeg s1) (s2 + s3) = m1 at h9 h
  refine mx_aload_nR d_RM_begin_124 rfl 0 rfl ?_
  refine mx_get d_RM_begin_125 (ci := 6) (k := 15) (q := mx_cl0_6) (v := .ref (r + 13)) rfl (Nat.le_of_ble_eq_true rfl) kw_245 h9.1 rfl ?_
  refine mx_aload_nR d_RM_begin_128 rfl 0 rfl ?_
  refine mx_get d_RM_begin_129 (ci := 6) (k := 19) (q := mx_cl0_6) (v := .int (m1.2.2.1 19)) rfl (Nat.le_of_ble_eq_true rfl) kw_294 h9.1 rfl ?_
  refine mx_iconst (v := 0) d_RM_begin_132 (by decide) ?_
  obtain ⟨e2_, e3_, h⟩ := h
  refine mx_iast d_RM_begin_133 (k := 104) rfl (by decide) (by omega) (h9.2 15 (by decide) (by decide)) e2_ (rm_alt e3_) ?_
  have f9 : mr_F hs0 (mx_st _ (r + 13) (104, (rm_av m1 15).set (Int32.toNatClampNeg (m1.2.2.1 19)) (.int 0))) := mr_frs f9 (h9.2 15 (by decide) (by decide)) rfl
  have h9 : rm_ob (mx_st _ (r + 13) (104, (rm_av m1 15).set (Int32.toNatClampNeg (m1.2.2.1 19)) (.int 0))) r (rs_i m1 15 (Int32.toNatClampNeg (m1.2.2.1 19)) 0) := rm_aput h9 15 (Int32.toNatClampNeg (m1.2.2.1 19)) 0 (by decide) (by decide)
  replace h := h _ rfl
  generalize mx_st _ (r + 13) (104, (rm_av m1 15).set (Int32.toNatClampNeg (m1.2.2.1 19)) (.int 0)) = hs9 at h9 f9 ⊢
  generalize rs_i m1 15 (Int32.toNatClampNeg (m1.2.2.1 19)) 0 = m2 at h9 h
  refine mx_iload_n d_RM_begin_134 rfl 3 rfl ?_
  refine mx_bipush (v := 68) d_RM_begin_135 (by decide) ?_
  refine mx_icmp_ne d_RM_begin_137 (fun c9 => ?_) (fun c9 => ?_)
  · replace h := h.1 c9
    exact mx_sub [0] rfl (mr_at h h9 f9)
  · replace h := h.2 c9
    refine mx_aload_nR d_RM_begin_140 rfl 0 rfl ?_
    refine mx_get d_RM_begin_141 (ci := 6) (k := 16) (q := mx_cl0_6) (v := .ref (r + 14)) rfl (Nat.le_of_ble_eq_true rfl) kw_246 h9.1 rfl ?_
    refine mx_aload_nR d_RM_begin_144 rfl 0 rfl ?_
    refine mx_get d_RM_begin_145 (ci := 6) (k := 19) (q := mx_cl0_6) (v := .int (m2.2.2.1 19)) rfl (Nat.le_of_ble_eq_true rfl) kw_294 h9.1 rfl ?_
    refine mx_aload_nR d_RM_begin_148 rfl 0 rfl ?_
    refine mx_get d_RM_begin_149 (ci := 6) (k := 0) (q := mx_cl0_6) (v := .ref (r + 1)) rfl (Nat.le_of_ble_eq_true rfl) kw_231 h9.1 rfl ?_
    refine mx_iload_n d_RM_begin_152 rfl 1 rfl ?_
    refine mx_bipush (v := 24) d_RM_begin_153 (by decide) ?_
    refine mx_imul d_RM_begin_155 ?_
    refine mx_iload_n d_RM_begin_156 rfl 2 rfl ?_
    refine mx_iadd d_RM_begin_157 ?_
    refine mx_iconst (v := 1) d_RM_begin_158 (by decide) ?_
    refine mx_iadd d_RM_begin_159 ?_
    obtain ⟨e2_, e3_, h⟩ := h
    refine mx_iald d_RM_begin_160 (k := 104) rfl (h9.2 0 (by decide) (by decide)) e2_ (rm_aget (by decide) e3_) ?_
    refine mx_bipush (v := 48) d_RM_begin_161 (by decide) ?_
    refine mx_isub d_RM_begin_163 ?_
    obtain ⟨e2_, e3_, h⟩ := h
    refine mx_iast d_RM_begin_164 (k := 104) rfl (by decide) (by omega) (h9.2 16 (by decide) (by decide)) e2_ (rm_alt e3_) ?_
    have f9 : mr_F hs0 (mx_st _ (r + 14) (104, (rm_av m2 16).set (Int32.toNatClampNeg (m2.2.2.1 19)) (.int ((m2.1 0 (Int32.toNatClampNeg (((l1 * 24) + l2) + 1))) - 48)))) := mr_frs f9 (h9.2 16 (by decide) (by decide)) rfl
    have h9 : rm_ob (mx_st _ (r + 14) (104, (rm_av m2 16).set (Int32.toNatClampNeg (m2.2.2.1 19)) (.int ((m2.1 0 (Int32.toNatClampNeg (((l1 * 24) + l2) + 1))) - 48)))) r (rs_i m2 16 (Int32.toNatClampNeg (m2.2.2.1 19)) ((m2.1 0 (Int32.toNatClampNeg (((l1 * 24) + l2) + 1))) - 48)) := rm_aput h9 16 (Int32.toNatClampNeg (m2.2.2.1 19)) ((m2.1 0 (Int32.toNatClampNeg (((l1 * 24) + l2) + 1))) - 48) (by decide) (by decide)
    replace h := h _ rfl
    generalize mx_st _ (r + 14) (104, (rm_av m2 16).set (Int32.toNatClampNeg (m2.2.2.1 19)) (.int ((m2.1 0 (Int32.toNatClampNeg (((l1 * 24) + l2) + 1))) - 48))) = hs9 at h9 f9 ⊢
    generalize rs_i m2 16 (Int32.toNatClampNeg (m2.2.2.1 19)) ((m2.1 0 (Int32.toNatClampNeg (((l1 * 24) + l2) + 1))) - 48) = m3 at h9 h
    exact mx_sub [0] rfl (mr_at h h9 f9)
set_option maxRecDepth 100000 in
theorem wr_begin_165 {l : Launch} {G : mx_G} {r d : Nat} {m : rm_M} {Q : Option Value → rm_M → Prop}  (h : (∀ m1 : rm_M, m1 = rs_s m 19 ((m.2.2.1 19) + 1) → (∀ m2 : rm_M, m2 = rs_s m1 17 1 → Q none m2))) : mr_Ok l G r (d + 1) mm_RM_begin 165 [(0, .ref r)] [] m Q := by
  refine mr_start (fun hs0 hs9 h9 f9 => ?_)
  refine mx_aload_nR d_RM_begin_165 rfl 0 rfl ?_
  refine mx_dup d_RM_begin_166 rfl ?_
  refine mx_get d_RM_begin_167 (ci := 6) (k := 19) (q := mx_cl0_6) (v := .int (m.2.2.1 19)) rfl (Nat.le_of_ble_eq_true rfl) kw_294 h9.1 rfl ?_
  refine mx_iconst (v := 1) d_RM_begin_170 (by decide) ?_
  refine mx_iadd d_RM_begin_171 ?_
  refine mx_put d_RM_begin_172 (ci := 6) (k := 19) (q := mx_cl0_6) (ty := .int) rfl (Nat.le_of_ble_eq_true rfl) kw_294 rfl (by decide +kernel) rfl rfl (by omega) h9.1 ?_
  have f9 := mr_frs f9 h9.1 (x := (6, ((List.range 36).map (rm_fv r m)).set 19 (.int ((m.2.2.1 19) + 1)))) rfl
  have h9 := rm_puts h9 19 ((m.2.2.1 19) + 1) (by decide) (by decide) (by decide)
  replace h := h _ rfl
  generalize mx_st _ r (6, ((List.range 36).map (rm_fv r m)).set 19 (.int ((m.2.2.1 19) + 1))) = hs9 at h9 f9 ⊢
  generalize rs_s m 19 ((m.2.2.1 19) + 1) = m1 at h9 h
  refine mx_aload_nR d_RM_begin_175 rfl 0 rfl ?_
  refine mx_iconst (v := 1) d_RM_begin_176 (by decide) ?_
  refine mx_put d_RM_begin_177 (ci := 6) (k := 17) (q := mx_cl0_6) (ty := .boolean) rfl (Nat.le_of_ble_eq_true rfl) kw_287 rfl (by decide +kernel) (mx_nz (Or.inr rfl)) (mx_fz (Or.inr rfl)) (by omega) h9.1 ?_
  have f9 := mr_frs f9 h9.1 (x := (6, ((List.range 36).map (rm_fv r m1)).set 17 (.int 1))) rfl
  have h9 := rm_puts h9 17 1 (by decide) (by decide) (by decide)
  replace h := h _ rfl
  generalize mx_st _ r (6, ((List.range 36).map (rm_fv r m1)).set 17 (.int 1)) = hs9 at h9 f9 ⊢
  generalize rs_s m1 17 1 = m2 at h9 h
  exact mx_return d_RM_begin_180 rfl ⟨_, h9, f9.1, f9.2, h⟩
set_option maxRecDepth 100000 in
theorem wr_enter_0 {l : Launch} {G : mx_G} {r d : Nat} {m : rm_M} {Q : Option Value → rm_M → Prop} (l1 : Int32) (h : (¬ l1 < 0 ∧ Int32.toNatClampNeg l1 < 8 ∧ ((¬ (m.1 4 (Int32.toNatClampNeg l1)) = 0 → (¬ l1 < 0 ∧ Int32.toNatClampNeg l1 < 8 ∧ (((m.1 5 (Int32.toNatClampNeg l1)) = 0 → mr_Ok l G r (d + 1) mm_RM_enter 33 [(0, .ref r), (1, .int l1)] [] m Q) ∧ (¬ ((m.1 5 (Int32.toNatClampNeg l1)) = 0) → (∀ m1 : rm_M, m1 = rs_s m 22 (-8) → mr_Ok l G r (d + 1) mm_RM_enter 33 [(0, .ref r), (1, .int l1)] [] m1 Q))))) ∧ (¬ (¬ (m.1 4 (Int32.toNatClampNeg l1)) = 0) → (∀ m2 : rm_M, m2 = rs_s m 22 (-4) → mr_Ok l G r (d + 1) mm_RM_enter 33 [(0, .ref r), (1, .int l1)] [] m2 Q))))) : mr_Ok l G r (d + 1) mm_RM_enter 0 [(0, .ref r), (1, .int l1)] [] m Q := by
  refine mr_start (fun hs0 hs9 h9 f9 => ?_)
  refine mx_aload_nR d_RM_enter_0 rfl 0 rfl ?_
  refine mx_get d_RM_enter_1 (ci := 6) (k := 4) (q := mx_cl0_6) (v := .ref (r + 5)) rfl (Nat.le_of_ble_eq_true rfl) kw_236 h9.1 rfl ?_
  refine mx_iload_n d_RM_enter_4 rfl 1 rfl ?_
  obtain ⟨e2_, e3_, h⟩ := h
  refine mx_zald d_RM_enter_5 (k := 107) rfl (h9.2 4 (by decide) (by decide)) e2_ (rm_aget (by decide) e3_) ?_
  refine mx_if_ne d_RM_enter_6 (fun c9 => ?_) (fun c9 => ?_)
  · replace h := h.1 c9
    refine mx_aload_nR d_RM_enter_18 rfl 0 rfl ?_
    refine mx_get d_RM_enter_19 (ci := 6) (k := 5) (q := mx_cl0_6) (v := .ref (r + 6)) rfl (Nat.le_of_ble_eq_true rfl) kw_237 h9.1 rfl ?_
    refine mx_iload_n d_RM_enter_22 rfl 1 rfl ?_
    obtain ⟨e2_, e3_, h⟩ := h
    refine mx_zald d_RM_enter_23 (k := 107) rfl (h9.2 5 (by decide) (by decide)) e2_ (rm_aget (by decide) e3_) ?_
    refine mx_if_eq d_RM_enter_24 (fun c9 => ?_) (fun c9 => ?_)
    · replace h := h.1 c9
      exact mx_sub [0, 1] rfl (mr_at h h9 f9)
    · replace h := h.2 c9
      refine mx_aload_nR d_RM_enter_27 rfl 0 rfl ?_
      refine mx_bipush (v := (-8)) d_RM_enter_28 (by decide) ?_
      refine mx_put d_RM_enter_30 (ci := 6) (k := 22) (q := mx_cl0_6) (ty := .int) rfl (Nat.le_of_ble_eq_true rfl) kw_293 rfl (by decide +kernel) rfl rfl (by omega) h9.1 ?_
      have f9 := mr_frs f9 h9.1 (x := (6, ((List.range 36).map (rm_fv r m)).set 22 (.int (-8)))) rfl
      have h9 := rm_puts h9 22 (-8) (by decide) (by decide) (by decide)
      replace h := h _ rfl
      generalize mx_st _ r (6, ((List.range 36).map (rm_fv r m)).set 22 (.int (-8))) = hs9 at h9 f9 ⊢
      generalize rs_s m 22 (-8) = m1 at h9 h
      exact mx_sub [0, 1] rfl (mr_at h h9 f9)
  · replace h := h.2 c9
    refine mx_aload_nR d_RM_enter_9 rfl 0 rfl ?_
    refine mx_bipush (v := (-4)) d_RM_enter_10 (by decide) ?_
    refine mx_put d_RM_enter_12 (ci := 6) (k := 22) (q := mx_cl0_6) (ty := .int) rfl (Nat.le_of_ble_eq_true rfl) kw_293 rfl (by decide +kernel) rfl rfl (by omega) h9.1 ?_
    have f9 := mr_frs f9 h9.1 (x := (6, ((List.range 36).map (rm_fv r m)).set 22 (.int (-4)))) rfl
    have h9 := rm_puts h9 22 (-4) (by decide) (by decide) (by decide)
    replace h := h _ rfl
    generalize mx_st _ r (6, ((List.range 36).map (rm_fv r m)).set 22 (.int (-4))) = hs9 at h9 f9 ⊢
    generalize rs_s m 22 (-4) = m2 at h9 h
    refine mx_goto d_RM_enter_15 ?_
    exact mx_sub [0, 1] rfl (mr_at h h9 f9)
set_option maxRecDepth 100000 in
theorem wr_enter_33 {l : Launch} {G : mx_G} {r d : Nat} {m : rm_M} {Q : Option Value → rm_M → Prop} (l1 : Int32) (h : (((m.2.2.1 22) = 0 → (¬ l1 < 0 ∧ Int32.toNatClampNeg l1 < 9 ∧ (((m.1 3 (Int32.toNatClampNeg l1)) = 0 → (¬ l1 < 0 ∧ Int32.toNatClampNeg l1 < 8 ∧ ∀ m1 : rm_M, m1 = rs_i m 5 (Int32.toNatClampNeg l1) 1 → mr_Ok l G r (d + 1) mm_RM_enter 71 [(0, .ref r), (1, .int l1)] [] m1 Q)) ∧ (¬ ((m.1 3 (Int32.toNatClampNeg l1)) = 0) → (¬ l1 < 0 ∧ Int32.toNatClampNeg l1 < 9 ∧ (∀ m2 : rm_M, m2 = rs_r m (m.2.1 2 (Int32.toNatClampNeg l1)) → mr_Ok l G r (d + 1) mm_RM_enter 71 [(0, .ref r), (1, .int l1)] [] m2 Q)))))) ∧ (¬ ((m.2.2.1 22) = 0) → Q (some (.int 1)) m))) : mr_Ok l G r (d + 1) mm_RM_enter 33 [(0, .ref r), (1, .int l1)] [] m Q := by
  refine mr_start (fun hs0 hs9 h9 f9 => ?_)
  refine mx_aload_nR d_RM_enter_33 rfl 0 rfl ?_
  refine mx_get d_RM_enter_34 (ci := 6) (k := 22) (q := mx_cl0_6) (v := .int (m.2.2.1 22)) rfl (Nat.le_of_ble_eq_true rfl) kw_293 h9.1 rfl ?_
  refine mx_if_eq d_RM_enter_37 (fun c9 => ?_) (fun c9 => ?_)
  · replace h := h.1 c9
    refine mx_aload_nR d_RM_enter_42 rfl 0 rfl ?_
    refine mx_get d_RM_enter_43 (ci := 6) (k := 3) (q := mx_cl0_6) (v := .ref (r + 4)) rfl (Nat.le_of_ble_eq_true rfl) kw_235 h9.1 rfl ?_
    refine mx_iload_n d_RM_enter_46 rfl 1 rfl ?_
    obtain ⟨e2_, e3_, h⟩ := h
    refine mx_zald d_RM_enter_47 (k := 107) rfl (h9.2 3 (by decide) (by decide)) e2_ (rm_aget (by decide) e3_) ?_
    refine mx_if_eq d_RM_enter_48 (fun c9 => ?_) (fun c9 => ?_)
    · replace h := h.1 c9
      refine mx_aload_nR d_RM_enter_64 rfl 0 rfl ?_
      refine mx_get d_RM_enter_65 (ci := 6) (k := 5) (q := mx_cl0_6) (v := .ref (r + 6)) rfl (Nat.le_of_ble_eq_true rfl) kw_237 h9.1 rfl ?_
      refine mx_iload_n d_RM_enter_68 rfl 1 rfl ?_
      refine mx_iconst (v := 1) d_RM_enter_69 (by decide) ?_
      obtain ⟨e2_, e3_, h⟩ := h
      refine mx_zast d_RM_enter_70 (k := 107) rfl (by decide) (by omega) (Or.inr rfl) (h9.2 5 (by decide) (by decide)) e2_ (rm_alt e3_) ?_
      have f9 : mr_F hs0 (mx_st _ (r + 6) (107, (rm_av m 5).set (Int32.toNatClampNeg l1) (.int 1))) := mr_frs f9 (h9.2 5 (by decide) (by decide)) rfl
      have h9 : rm_ob (mx_st _ (r + 6) (107, (rm_av m 5).set (Int32.toNatClampNeg l1) (.int 1))) r (rs_i m 5 (Int32.toNatClampNeg l1) 1) := rm_aput h9 5 (Int32.toNatClampNeg l1) 1 (by decide) (by decide)
      replace h := h _ rfl
      generalize mx_st _ (r + 6) (107, (rm_av m 5).set (Int32.toNatClampNeg l1) (.int 1)) = hs9 at h9 f9 ⊢
      generalize rs_i m 5 (Int32.toNatClampNeg l1) 1 = m1 at h9 h
      exact mx_sub [0, 1] rfl (mr_at h h9 f9)
    · replace h := h.2 c9
      refine mx_aload_nR d_RM_enter_51 rfl 0 rfl ?_
      refine mx_aload_nR d_RM_enter_52 rfl 0 rfl ?_
      refine mx_get d_RM_enter_53 (ci := 6) (k := 2) (q := mx_cl0_6) (v := .ref (r + 3)) rfl (Nat.le_of_ble_eq_true rfl) kw_233 h9.1 rfl ?_
      refine mx_iload_n d_RM_enter_56 rfl 1 rfl ?_
      obtain ⟨e2_, e3_, h⟩ := h
      refine mx_lald d_RM_enter_57 (k := 106) rfl (h9.2 2 (by decide) (by decide)) e2_ (rm_agetl (by decide) e3_) ?_
      refine mx_put d_RM_enter_58 (ci := 6) (k := 23) (q := mx_cl0_6) (ty := .long) rfl (Nat.le_of_ble_eq_true rfl) kw_292 rfl (by decide +kernel) rfl rfl (by omega) h9.1 ?_
      have f9 := mr_frs f9 h9.1 (x := (6, ((List.range 36).map (rm_fv r m)).set 23 (.long (m.2.1 2 (Int32.toNatClampNeg l1))))) rfl
      have h9 := rm_putr h9 (m.2.1 2 (Int32.toNatClampNeg l1))
      replace h := h _ rfl
      generalize mx_st _ r (6, ((List.range 36).map (rm_fv r m)).set 23 (.long (m.2.1 2 (Int32.toNatClampNeg l1)))) = hs9 at h9 f9 ⊢
      generalize rs_r m (m.2.1 2 (Int32.toNatClampNeg l1)) = m2 at h9 h
      refine mx_goto d_RM_enter_61 ?_
      exact mx_sub [0, 1] rfl (mr_at h h9 f9)
  · replace h := h.2 c9
    refine mx_iconst (v := 1) d_RM_enter_40 (by decide) ?_
    exact mx_ireturn d_RM_enter_41 rfl (mx_nz (Or.inr rfl)) ⟨_, h9, f9.1, f9.2, h⟩
set_option maxRecDepth 100000 in
theorem wr_enter_71 {l : Launch} {G : mx_G} {r d : Nat} {m : rm_M} {Q : Option Value → rm_M → Prop} (l1 : Int32) (h : (¬ l1 < 0 ∧ Int32.toNatClampNeg l1 < 9 ∧ (((m.1 3 (Int32.toNatClampNeg l1)) = 0 ∨ (m.1 3 (Int32.toNatClampNeg l1)) = 1) ∧ Q (some (.int (m.1 3 (Int32.toNatClampNeg l1)))) m))) : mr_Ok l G r (d + 1) mm_RM_enter 71 [(0, .ref r), (1, .int l1)] [] m Q := by
  refine mr_start (fun hs0 hs9 h9 f9 => ?_)
  refine mx_aload_nR d_RM_enter_71 rfl 0 rfl ?_
  refine mx_get d_RM_enter_72 (ci := 6) (k := 3) (q := mx_cl0_6) (v := .ref (r + 4)) rfl (Nat.le_of_ble_eq_true rfl) kw_235 h9.1 rfl ?_
  refine mx_iload_n d_RM_enter_75 rfl 1 rfl ?_
  obtain ⟨e2_, e3_, h⟩ := h
  refine mx_zald d_RM_enter_76 (k := 107) rfl (h9.2 3 (by decide) (by decide)) e2_ (rm_aget (by decide) e3_) ?_
  obtain ⟨hb_, h⟩ := h
  exact mx_ireturn d_RM_enter_77 rfl (mx_nz hb_) ⟨_, h9, f9.1, f9.2, h⟩
set_option maxRecDepth 100000 in
theorem wr_isNumber_0 {l : Launch} {G : mx_G} {r d : Nat} {m : rm_M} {Q : Option Value → rm_M → Prop} (l1 : Int64) (h : ((500000000000 ≤ l1 → Q (some (.int 0)) m) ∧ (¬ (500000000000 ≤ l1) → Q (some (.int 1)) m))) : mr_Ok l G r (d + 1) mm_RM_isNumber 0 [(0, .ref r), (1, .long l1)] [] m Q := by
  refine mr_start (fun hs0 hs9 h9 f9 => ?_)
  refine mx_lload_n d_RM_isNumber_0 rfl 1 rfl ?_
  refine mx_ldc2 (v := 500000000000) d_RM_isNumber_1 kw_295 ?_
  refine mx_lcmp d_RM_isNumber_4 ?_
  refine mx_if_ge d_RM_isNumber_5 (fun c9 => ?_) (fun c9 => ?_)
  · replace h := h.1 ((lg_cmp_ge _ _).mp c9)
    refine mx_iconst (v := 0) d_RM_isNumber_12 (by decide) ?_
    exact mx_ireturn d_RM_isNumber_13 rfl (mx_nz (Or.inl rfl)) ⟨_, h9, f9.1, f9.2, h⟩
  · replace h := h.2 (fun z9 => c9 ((lg_cmp_ge _ _).mpr z9))
    refine mx_iconst (v := 1) d_RM_isNumber_8 (by decide) ?_
    refine mx_goto d_RM_isNumber_9 ?_
    exact mx_ireturn d_RM_isNumber_13 rfl (mx_nz (Or.inr rfl)) ⟨_, h9, f9.1, f9.2, h⟩
set_option maxRecDepth 100000 in
theorem wr_operate_0 {l : Launch} {G : mx_G} {r d : Nat} {m : rm_M} {Q : Option Value → rm_M → Prop} (l1 : Int32) (h : (¬ (l1 * 4) < 0 ∧ Int32.toNatClampNeg (l1 * 4) < 400 ∧ (¬ ((l1 * 4) + 1) < 0 ∧ Int32.toNatClampNeg ((l1 * 4) + 1) < 400 ∧ (¬ l1 < 0 ∧ Int32.toNatClampNeg l1 < 100 ∧ ((¬ (m.1 12 (Int32.toNatClampNeg l1)) = 33 → mr_C l G r d mm_RM_isNumber [.long (m.2.1 18 (Int32.toNatClampNeg (l1 * 4)))] m (fun (r1 : Option Value) (m2 : rm_M) => ∃ x3 : Int32, r1 = some (.int x3) ∧ ((x3 = 0 → mr_Ok l G r (d + 1) mm_RM_operate 62 [(0, .ref r)] [] m2 Q) ∧ (¬ (x3 = 0) → mr_C l G r d mm_RM_isNumber [.long (m.2.1 18 (Int32.toNatClampNeg ((l1 * 4) + 1)))] m2 (fun (r4 : Option Value) (m5 : rm_M) => ∃ x6 : Int32, r4 = some (.int x6) ∧ ((¬ x6 = 0 → ((¬ (m.1 12 (Int32.toNatClampNeg l1)) = 43 → ((¬ (m.1 12 (Int32.toNatClampNeg l1)) = 45 → ((¬ (m.1 12 (Int32.toNatClampNeg l1)) = 42 → (((m.2.1 18 (Int32.toNatClampNeg ((l1 * 4) + 1))) ≤ (m.2.1 18 (Int32.toNatClampNeg (l1 * 4))) → mr_Ok l G r (d + 1) mm_RM_operate 144 [] [.long 0, .ref r] m5 Q) ∧ (¬ ((m.2.1 18 (Int32.toNatClampNeg ((l1 * 4) + 1))) ≤ (m.2.1 18 (Int32.toNatClampNeg (l1 * 4)))) → mr_Ok l G r (d + 1) mm_RM_operate 144 [] [.long 1, .ref r] m5 Q))) ∧ (¬ (¬ (m.1 12 (Int32.toNatClampNeg l1)) = 42) → (∀ m7 : rm_M, m7 = rs_r m5 (Int32.toInt64 (Int64.toInt32 ((m.2.1 18 (Int32.toNatClampNeg (l1 * 4))) * (m.2.1 18 (Int32.toNatClampNeg ((l1 * 4) + 1)))))) → Q none m7)))) ∧ (¬ (¬ (m.1 12 (Int32.toNatClampNeg l1)) = 45) → (∀ m8 : rm_M, m8 = rs_r m5 (Int32.toInt64 (Int64.toInt32 ((m.2.1 18 (Int32.toNatClampNeg (l1 * 4))) - (m.2.1 18 (Int32.toNatClampNeg ((l1 * 4) + 1)))))) → Q none m8)))) ∧ (¬ (¬ (m.1 12 (Int32.toNatClampNeg l1)) = 43) → (∀ m9 : rm_M, m9 = rs_r m5 (Int32.toInt64 (Int64.toInt32 ((m.2.1 18 (Int32.toNatClampNeg (l1 * 4))) + (m.2.1 18 (Int32.toNatClampNeg ((l1 * 4) + 1)))))) → Q none m9)))) ∧ (¬ (¬ x6 = 0) → mr_Ok l G r (d + 1) mm_RM_operate 62 [(0, .ref r)] [] m5 Q))))))) ∧ (¬ (¬ (m.1 12 (Int32.toNatClampNeg l1)) = 33) → (∀ m10 : rm_M, m10 = rs_s m 22 (-6) → Q none m10))))))) : mr_Ok l G r (d + 1) mm_RM_operate 0 [(0, .ref r), (1, .int l1)] [] m Q := by
  refine mr_start (fun hs0 hs9 h9 f9 => ?_)
  refine mx_aload_nR d_RM_operate_0 rfl 0 rfl ?_
  refine mx_get d_RM_operate_1 (ci := 6) (k := 18) (q := mx_cl0_6) (v := .ref (r + 15)) rfl (Nat.le_of_ble_eq_true rfl) kw_247 h9.1 rfl ?_
  refine mx_iload_n d_RM_operate_4 rfl 1 rfl ?_
  refine mx_iconst (v := 4) d_RM_operate_5 (by decide) ?_
  refine mx_imul d_RM_operate_6 ?_
  obtain ⟨e2_, e3_, h⟩ := h
  refine mx_lald d_RM_operate_7 (k := 106) rfl (h9.2 18 (by decide) (by decide)) e2_ (rm_agetl (by decide) e3_) ?_
  refine mx_lstore_n (lv2 := [(2, .long (m.2.1 18 (Int32.toNatClampNeg (l1 * 4)))), (0, .ref r), (1, .int l1)]) d_RM_operate_8 rfl (Nat.le_of_ble_eq_true rfl) rfl ?_
  refine mx_aload_nR d_RM_operate_9 rfl 1 rfl ?_
  refine mx_get d_RM_operate_10 (ci := 6) (k := 18) (q := mx_cl0_6) (v := .ref (r + 15)) rfl (Nat.le_of_ble_eq_true rfl) kw_247 h9.1 rfl ?_
  refine mx_iload_n d_RM_operate_13 rfl 2 rfl ?_
  refine mx_iconst (v := 4) d_RM_operate_14 (by decide) ?_
  refine mx_imul d_RM_operate_15 ?_
  refine mx_iconst (v := 1) d_RM_operate_16 (by decide) ?_
  refine mx_iadd d_RM_operate_17 ?_
  obtain ⟨e2_, e3_, h⟩ := h
  refine mx_lald d_RM_operate_18 (k := 106) rfl (h9.2 18 (by decide) (by decide)) e2_ (rm_agetl (by decide) e3_) ?_
  refine mx_lstore (lv2 := [(4, .long (m.2.1 18 (Int32.toNatClampNeg ((l1 * 4) + 1)))), (2, .long (m.2.1 18 (Int32.toNatClampNeg (l1 * 4)))), (0, .ref r), (1, .int l1)]) d_RM_operate_19 (Nat.le_of_ble_eq_true rfl) rfl ?_
  refine mx_aload_nR d_RM_operate_21 rfl 2 rfl ?_
  refine mx_get d_RM_operate_22 (ci := 6) (k := 12) (q := mx_cl0_6) (v := .ref (r + 10)) rfl (Nat.le_of_ble_eq_true rfl) kw_242 h9.1 rfl ?_
  refine mx_iload_n d_RM_operate_25 rfl 3 rfl ?_
  obtain ⟨e2_, e3_, h⟩ := h
  refine mx_iald d_RM_operate_26 (k := 104) rfl (h9.2 12 (by decide) (by decide)) e2_ (rm_aget (by decide) e3_) ?_
  refine mx_istore (lv2 := [(6, .int (m.1 12 (Int32.toNatClampNeg l1))), (4, .long (m.2.1 18 (Int32.toNatClampNeg ((l1 * 4) + 1)))), (2, .long (m.2.1 18 (Int32.toNatClampNeg (l1 * 4)))), (0, .ref r), (1, .int l1)]) d_RM_operate_27 (Nat.le_of_ble_eq_true rfl) rfl ?_
  refine mx_iload d_RM_operate_29 0 rfl ?_
  refine mx_bipush (v := 33) d_RM_operate_31 (by decide) ?_
  refine mx_icmp_ne d_RM_operate_33 (fun c9 => ?_) (fun c9 => ?_)
  · replace h := h.1 c9
    refine mx_aload_nR d_RM_operate_45 rfl 3 rfl ?_
    refine mx_lload_n d_RM_operate_46 rfl 2 rfl ?_
    refine mx_invV (Y := mm_RM_isNumber) (As := [.long (m.2.1 18 (Int32.toNatClampNeg (l1 * 4)))]) (rest := []) d_RM_operate_47.1 ok_RM_isNumber kw_296 kw_297 kw_298 rfl rfl (Nat.le_of_ble_eq_true rfl) (Nat.le_of_ble_eq_true rfl) h9.1 (q := mx_cl0_6) rfl rfl (h _ h9) (fun r1 hs8 h => ?_)
    obtain ⟨m2, h9, f8, z8, h⟩ := h
    obtain ⟨x3, e9_, h⟩ := h
    subst e9_
    have f9 := mr_frc f9 f8 z8
    clear f8 z8
    show mx_Ok mx_S0 l G (d + 1) mm_RM_operate 50 [(6, .int (m.1 12 (Int32.toNatClampNeg l1))), (4, .long (m.2.1 18 (Int32.toNatClampNeg ((l1 * 4) + 1)))), (2, .long (m.2.1 18 (Int32.toNatClampNeg (l1 * 4)))), (0, .ref r), (1, .int l1)] [.int x3] hs8 _
    refine mx_if_eq d_RM_operate_50 (fun c9 => ?_) (fun c9 => ?_)
    · replace h := h.1 c9
      exact mx_sub [3] rfl (mr_at h h9 f9)
    · replace h := h.2 c9
      refine mx_aload_nR d_RM_operate_53 rfl 3 rfl ?_
      refine mx_lload d_RM_operate_54 1 rfl ?_
      refine mx_invV (Y := mm_RM_isNumber) (As := [.long (m.2.1 18 (Int32.toNatClampNeg ((l1 * 4) + 1)))]) (rest := []) d_RM_operate_56.1 ok_RM_isNumber kw_296 kw_297 kw_298 rfl rfl (Nat.le_of_ble_eq_true rfl) (Nat.le_of_ble_eq_true rfl) h9.1 (q := mx_cl0_6) rfl rfl (h _ h9) (fun r4 hs8 h => ?_)
      obtain ⟨m5, h9, f8, z8, h⟩ := h
      obtain ⟨x6, e9_, h⟩ := h
      subst e9_
      have f9 := mr_frc f9 f8 z8
      clear f8 z8
      show mx_Ok mx_S0 l G (d + 1) mm_RM_operate 59 [(6, .int (m.1 12 (Int32.toNatClampNeg l1))), (4, .long (m.2.1 18 (Int32.toNatClampNeg ((l1 * 4) + 1)))), (2, .long (m.2.1 18 (Int32.toNatClampNeg (l1 * 4)))), (0, .ref r), (1, .int l1)] [.int x6] hs8 _
      refine mx_if_ne d_RM_operate_59 (fun c9 => ?_) (fun c9 => ?_)
      · replace h := h.1 c9
        refine mx_iload d_RM_operate_71 0 rfl ?_
        refine mx_bipush (v := 43) d_RM_operate_73 (by decide) ?_
        refine mx_icmp_ne d_RM_operate_75 (fun c9 => ?_) (fun c9 => ?_)
        · replace h := h.1 c9
          refine mx_iload d_RM_operate_91 0 rfl ?_
          refine mx_bipush (v := 45) d_RM_operate_93 (by decide) ?_
          refine mx_icmp_ne d_RM_operate_95 (fun c9 => ?_) (fun c9 => ?_)
          · replace h := h.1 c9
            refine mx_iload d_RM_operate_111 0 rfl ?_
            refine mx_bipush (v := 42) d_RM_operate_113 (by decide) ?_
            refine mx_icmp_ne d_RM_operate_115 (fun c9 => ?_) (fun c9 => ?_)
            · replace h := h.1 c9
              refine mx_aload_nR d_RM_operate_131 rfl 3 rfl ?_
              refine mx_lload_n d_RM_operate_132 rfl 2 rfl ?_
              refine mx_lload d_RM_operate_133 1 rfl ?_
              refine mx_lcmp d_RM_operate_135 ?_
              refine mx_if_ge d_RM_operate_136 (fun c9 => ?_) (fun c9 => ?_)
              · replace h := h.1 ((lg_cmp_ge _ _).mp c9)
                refine mx_lconst (v := 0) d_RM_operate_143 rfl ?_
                exact mx_sub [] rfl (mr_at h h9 f9)
              · replace h := h.2 (fun z9 => c9 ((lg_cmp_ge _ _).mpr z9))
                refine mx_lconst (v := 1) d_RM_operate_139 rfl ?_
                refine mx_goto d_RM_operate_140 ?_
                exact mx_sub [] rfl (mr_at h h9 f9)
            · replace h := h.2 c9
              refine mx_aload_nR d_RM_operate_118 rfl 3 rfl ?_
              refine mx_lload_n d_RM_operate_119 rfl 2 rfl ?_
              refine mx_lload d_RM_operate_120 1 rfl ?_
              refine mx_lmul d_RM_operate_122 ?_
              refine mx_l2i d_RM_operate_123 ?_
              refine mx_i2l d_RM_operate_124 ?_
              refine mx_put d_RM_operate_125 (ci := 6) (k := 23) (q := mx_cl0_6) (ty := .long) rfl (Nat.le_of_ble_eq_true rfl) kw_292 rfl (by decide +kernel) rfl rfl (by omega) h9.1 ?_
              have f9 := mr_frs f9 h9.1 (x := (6, ((List.range 36).map (rm_fv r m5)).set 23 (.long (Int32.toInt64 (Int64.toInt32 ((m.2.1 18 (Int32.toNatClampNeg (l1 * 4))) * (m.2.1 18 (Int32.toNatClampNeg ((l1 * 4) + 1))))))))) rfl
              have h9 := rm_putr h9 (Int32.toInt64 (Int64.toInt32 ((m.2.1 18 (Int32.toNatClampNeg (l1 * 4))) * (m.2.1 18 (Int32.toNatClampNeg ((l1 * 4) + 1))))))
              replace h := h _ rfl
              generalize mx_st _ r (6, ((List.range 36).map (rm_fv r m5)).set 23 (.long (Int32.toInt64 (Int64.toInt32 ((m.2.1 18 (Int32.toNatClampNeg (l1 * 4))) * (m.2.1 18 (Int32.toNatClampNeg ((l1 * 4) + 1)))))))) = hs9 at h9 f9 ⊢
              generalize rs_r m5 (Int32.toInt64 (Int64.toInt32 ((m.2.1 18 (Int32.toNatClampNeg (l1 * 4))) * (m.2.1 18 (Int32.toNatClampNeg ((l1 * 4) + 1)))))) = m7 at h9 h
              refine mx_goto d_RM_operate_128 ?_
              exact mx_return d_RM_operate_147 rfl ⟨_, h9, f9.1, f9.2, h⟩
          · replace h := h.2 c9
            refine mx_aload_nR d_RM_operate_98 rfl 3 rfl ?_
            refine mx_lload_n d_RM_operate_99 rfl 2 rfl ?_
            refine mx_lload d_RM_operate_100 1 rfl ?_
            refine mx_lsub d_RM_operate_102 ?_
            refine mx_l2i d_RM_operate_103 ?_
            refine mx_i2l d_RM_operate_104 ?_
            refine mx_put d_RM_operate_105 (ci := 6) (k := 23) (q := mx_cl0_6) (ty := .long) rfl (Nat.le_of_ble_eq_true rfl) kw_292 rfl (by decide +kernel) rfl rfl (by omega) h9.1 ?_
            have f9 := mr_frs f9 h9.1 (x := (6, ((List.range 36).map (rm_fv r m5)).set 23 (.long (Int32.toInt64 (Int64.toInt32 ((m.2.1 18 (Int32.toNatClampNeg (l1 * 4))) - (m.2.1 18 (Int32.toNatClampNeg ((l1 * 4) + 1))))))))) rfl
            have h9 := rm_putr h9 (Int32.toInt64 (Int64.toInt32 ((m.2.1 18 (Int32.toNatClampNeg (l1 * 4))) - (m.2.1 18 (Int32.toNatClampNeg ((l1 * 4) + 1))))))
            replace h := h _ rfl
            generalize mx_st _ r (6, ((List.range 36).map (rm_fv r m5)).set 23 (.long (Int32.toInt64 (Int64.toInt32 ((m.2.1 18 (Int32.toNatClampNeg (l1 * 4))) - (m.2.1 18 (Int32.toNatClampNeg ((l1 * 4) + 1)))))))) = hs9 at h9 f9 ⊢
            generalize rs_r m5 (Int32.toInt64 (Int64.toInt32 ((m.2.1 18 (Int32.toNatClampNeg (l1 * 4))) - (m.2.1 18 (Int32.toNatClampNeg ((l1 * 4) + 1)))))) = m8 at h9 h
            refine mx_goto d_RM_operate_108 ?_
            exact mx_return d_RM_operate_147 rfl ⟨_, h9, f9.1, f9.2, h⟩
        · replace h := h.2 c9
          refine mx_aload_nR d_RM_operate_78 rfl 3 rfl ?_
          refine mx_lload_n d_RM_operate_79 rfl 2 rfl ?_
          refine mx_lload d_RM_operate_80 1 rfl ?_
          refine mx_ladd d_RM_operate_82 ?_
          refine mx_l2i d_RM_operate_83 ?_
          refine mx_i2l d_RM_operate_84 ?_
          refine mx_put d_RM_operate_85 (ci := 6) (k := 23) (q := mx_cl0_6) (ty := .long) rfl (Nat.le_of_ble_eq_true rfl) kw_292 rfl (by decide +kernel) rfl rfl (by omega) h9.1 ?_
          have f9 := mr_frs f9 h9.1 (x := (6, ((List.range 36).map (rm_fv r m5)).set 23 (.long (Int32.toInt64 (Int64.toInt32 ((m.2.1 18 (Int32.toNatClampNeg (l1 * 4))) + (m.2.1 18 (Int32.toNatClampNeg ((l1 * 4) + 1))))))))) rfl
          have h9 := rm_putr h9 (Int32.toInt64 (Int64.toInt32 ((m.2.1 18 (Int32.toNatClampNeg (l1 * 4))) + (m.2.1 18 (Int32.toNatClampNeg ((l1 * 4) + 1))))))
          replace h := h _ rfl
          generalize mx_st _ r (6, ((List.range 36).map (rm_fv r m5)).set 23 (.long (Int32.toInt64 (Int64.toInt32 ((m.2.1 18 (Int32.toNatClampNeg (l1 * 4))) + (m.2.1 18 (Int32.toNatClampNeg ((l1 * 4) + 1)))))))) = hs9 at h9 f9 ⊢
          generalize rs_r m5 (Int32.toInt64 (Int64.toInt32 ((m.2.1 18 (Int32.toNatClampNeg (l1 * 4))) + (m.2.1 18 (Int32.toNatClampNeg ((l1 * 4) + 1)))))) = m9 at h9 h
          refine mx_goto d_RM_operate_88 ?_
          exact mx_return d_RM_operate_147 rfl ⟨_, h9, f9.1, f9.2, h⟩
      · replace h := h.2 c9
        exact mx_sub [3] rfl (mr_at h h9 f9)
  · replace h := h.2 c9
    refine mx_aload_nR d_RM_operate_36 rfl 3 rfl ?_
    refine mx_bipush (v := (-6)) d_RM_operate_37 (by decide) ?_
    refine mx_put d_RM_operate_39 (ci := 6) (k := 22) (q := mx_cl0_6) (ty := .int) rfl (Nat.le_of_ble_eq_true rfl) kw_293 rfl (by decide +kernel) rfl rfl (by omega) h9.1 ?_
    have f9 := mr_frs f9 h9.1 (x := (6, ((List.range 36).map (rm_fv r m)).set 22 (.int (-6)))) rfl
    have h9 := rm_puts h9 22 (-6) (by decide) (by decide) (by decide)
    replace h := h _ rfl
    generalize mx_st _ r (6, ((List.range 36).map (rm_fv r m)).set 22 (.int (-6))) = hs9 at h9 f9 ⊢
    generalize rs_s m 22 (-6) = m10 at h9 h
    refine mx_goto d_RM_operate_42 ?_
    exact mx_return d_RM_operate_147 rfl ⟨_, h9, f9.1, f9.2, h⟩
set_option maxRecDepth 100000 in
theorem wr_operate_62 {l : Launch} {G : mx_G} {r d : Nat} {m : rm_M} {Q : Option Value → rm_M → Prop}  (h : (∀ m1 : rm_M, m1 = rs_s m 22 (-5) → Q none m1)) : mr_Ok l G r (d + 1) mm_RM_operate 62 [(0, .ref r)] [] m Q := by
  refine mr_start (fun hs0 hs9 h9 f9 => ?_)
  refine mx_aload_nR d_RM_operate_62 rfl 0 rfl ?_
  refine mx_bipush (v := (-5)) d_RM_operate_63 (by decide) ?_
  refine mx_put d_RM_operate_65 (ci := 6) (k := 22) (q := mx_cl0_6) (ty := .int) rfl (Nat.le_of_ble_eq_true rfl) kw_293 rfl (by decide +kernel) rfl rfl (by omega) h9.1 ?_
  have f9 := mr_frs f9 h9.1 (x := (6, ((List.range 36).map (rm_fv r m)).set 22 (.int (-5)))) rfl
  have h9 := rm_puts h9 22 (-5) (by decide) (by decide) (by decide)
  replace h := h _ rfl
  generalize mx_st _ r (6, ((List.range 36).map (rm_fv r m)).set 22 (.int (-5))) = hs9 at h9 f9 ⊢
  generalize rs_s m 22 (-5) = m1 at h9 h
  refine mx_goto d_RM_operate_68 ?_
  exact mx_return d_RM_operate_147 rfl ⟨_, h9, f9.1, f9.2, h⟩
set_option maxRecDepth 100000 in
theorem wr_operate_144 {l : Launch} {G : mx_G} {r d : Nat} {m : rm_M} {Q : Option Value → rm_M → Prop} (s1 : Int64) (h : (∀ m1 : rm_M, m1 = rs_r m s1 → Q none m1)) : mr_Ok l G r (d + 1) mm_RM_operate 144 [] [.long s1, .ref r] m Q := by
  refine mr_start (fun hs0 hs9 h9 f9 => ?_)
  refine mx_put d_RM_operate_144 (ci := 6) (k := 23) (q := mx_cl0_6) (ty := .long) rfl (Nat.le_of_ble_eq_true rfl) kw_292 rfl (by decide +kernel) rfl rfl (by omega) h9.1 ?_
  have f9 := mr_frs f9 h9.1 (x := (6, ((List.range 36).map (rm_fv r m)).set 23 (.long s1))) rfl
  have h9 := rm_putr h9 s1
  replace h := h _ rfl
  generalize mx_st _ r (6, ((List.range 36).map (rm_fv r m)).set 23 (.long s1)) = hs9 at h9 f9 ⊢
  generalize rs_r m s1 = m1 at h9 h
  exact mx_return d_RM_operate_147 rfl ⟨_, h9, f9.1, f9.2, h⟩
set_option maxRecDepth 100000 in
theorem wr_describe_0 {l : Launch} {G : mx_G} {r d : Nat} {m : rm_M} {Q : Option Value → rm_M → Prop} (l1 : Int32) (h : mr_Ok l G r (d + 1) mm_RM_describe 2 [(0, .ref r), (1, .int l1), (2, .int 1)] [] m Q) : mr_Ok l G r (d + 1) mm_RM_describe 0 [(0, .ref r), (1, .int l1)] [] m Q := by
  refine mr_start (fun hs0 hs9 h9 f9 => ?_)
  refine mx_iconst (v := 1) d_RM_describe_0 (by decide) ?_
  refine mx_istore_n (lv2 := [(2, .int 1), (0, .ref r), (1, .int l1)]) d_RM_describe_1 rfl (Nat.le_of_ble_eq_true rfl) rfl ?_
  exact mx_sub [1, 2, 0] rfl (mr_at h h9 f9)
set_option maxRecDepth 100000 in
theorem wr_describe_2 {l : Launch} {G : mx_G} {r d : Nat} {m : rm_M} {Q : Option Value → rm_M → Prop} (l1 : Int32) (l2 : Int32) (h : (((m.2.2.1 34) < l2 → ((¬ (m.2.2.1 34) = 30 → (∀ m1 : rm_M, m1 = rs_s m 34 ((m.2.2.1 34) + 1) → (¬ l1 < 0 ∧ Int32.toNatClampNeg l1 < 100 ∧ (¬ (m1.2.2.1 34) < 0 ∧ Int32.toNatClampNeg (m1.2.2.1 34) < 31 ∧ ∀ m2 : rm_M, m2 = rs_i m1 24 (Int32.toNatClampNeg (m1.2.2.1 34)) (m1.1 16 (Int32.toNatClampNeg l1)) → (¬ l1 < 0 ∧ Int32.toNatClampNeg l1 < 100 ∧ (¬ (m2.2.2.1 34) < 0 ∧ Int32.toNatClampNeg (m2.2.2.1 34) < 31 ∧ ∀ m3 : rm_M, m3 = rs_i m2 25 (Int32.toNatClampNeg (m2.2.2.1 34)) (m2.1 15 (Int32.toNatClampNeg l1)) → mr_Ok l G r (d + 1) mm_RM_describe 177 [(0, .ref r), (1, .int l1), (2, .int 0)] [] m3 Q)))))) ∧ (¬ (¬ (m.2.2.1 34) = 30) → (∀ m4 : rm_M, m4 = rs_s m 22 (-9) → Q none m4)))) ∧ (¬ ((m.2.2.1 34) < l2) → (¬ l2 < 0 ∧ Int32.toNatClampNeg l2 < 31 ∧ (¬ l1 < 0 ∧ Int32.toNatClampNeg l1 < 100 ∧ ((¬ (m.1 24 (Int32.toNatClampNeg l2)) = (m.1 16 (Int32.toNatClampNeg l1)) → mr_Ok l G r (d + 1) mm_RM_describe 44 [(0, .ref r), (1, .int l1), (2, .int l2)] [] m Q) ∧ (¬ (¬ (m.1 24 (Int32.toNatClampNeg l2)) = (m.1 16 (Int32.toNatClampNeg l1))) → (¬ l2 < 0 ∧ Int32.toNatClampNeg l2 < 31 ∧ (¬ l1 < 0 ∧ Int32.toNatClampNeg l1 < 100 ∧ ((¬ (m.1 25 (Int32.toNatClampNeg l2)) = (m.1 15 (Int32.toNatClampNeg l1)) → mr_Ok l G r (d + 1) mm_RM_describe 44 [(0, .ref r), (1, .int l1), (2, .int l2)] [] m Q) ∧ (¬ (¬ (m.1 25 (Int32.toNatClampNeg l2)) = (m.1 15 (Int32.toNatClampNeg l1))) → mr_Ok l G r (d + 1) mm_RM_describe 45 [(0, .ref r), (1, .int l1), (2, .int l2)] [.int 1] m Q))))))))))) : mr_Ok l G r (d + 1) mm_RM_describe 2 [(0, .ref r), (1, .int l1), (2, .int l2)] [] m Q := by
  refine mr_start (fun hs0 hs9 h9 f9 => ?_)
  refine mx_iload_n d_RM_describe_2 rfl 2 rfl ?_
  refine mx_aload_nR d_RM_describe_3 rfl 0 rfl ?_
  refine mx_get d_RM_describe_4 (ci := 6) (k := 34) (q := mx_cl0_6) (v := .int (m.2.2.1 34)) rfl (Nat.le_of_ble_eq_true rfl) kw_299 h9.1 rfl ?_
  refine mx_icmp_gt d_RM_describe_7 (fun c9 => ?_) (fun c9 => ?_)
  · replace h := h.1 c9
    refine mx_aload_nR d_RM_describe_119 rfl 0 rfl ?_
    refine mx_get d_RM_describe_120 (ci := 6) (k := 34) (q := mx_cl0_6) (v := .int (m.2.2.1 34)) rfl (Nat.le_of_ble_eq_true rfl) kw_299 h9.1 rfl ?_
    refine mx_bipush (v := 30) d_RM_describe_123 (by decide) ?_
    refine mx_icmp_ne d_RM_describe_125 (fun c9 => ?_) (fun c9 => ?_)
    · replace h := h.1 c9
      refine mx_aload_nR d_RM_describe_135 rfl 0 rfl ?_
      refine mx_dup d_RM_describe_136 rfl ?_
      refine mx_get d_RM_describe_137 (ci := 6) (k := 34) (q := mx_cl0_6) (v := .int (m.2.2.1 34)) rfl (Nat.le_of_ble_eq_true rfl) kw_299 h9.1 rfl ?_
      refine mx_iconst (v := 1) d_RM_describe_140 (by decide) ?_
      refine mx_iadd d_RM_describe_141 ?_
      refine mx_put d_RM_describe_142 (ci := 6) (k := 34) (q := mx_cl0_6) (ty := .int) rfl (Nat.le_of_ble_eq_true rfl) kw_299 rfl (by decide +kernel) rfl rfl (by omega) h9.1 ?_
      have f9 := mr_frs f9 h9.1 (x := (6, ((List.range 36).map (rm_fv r m)).set 34 (.int ((m.2.2.1 34) + 1)))) rfl
      have h9 := rm_puts h9 34 ((m.2.2.1 34) + 1) (by decide) (by decide) (by decide)
      replace h := h _ rfl
      generalize mx_st _ r (6, ((List.range 36).map (rm_fv r m)).set 34 (.int ((m.2.2.1 34) + 1))) = hs9 at h9 f9 ⊢
      generalize rs_s m 34 ((m.2.2.1 34) + 1) = m1 at h9 h
      refine mx_aload_nR d_RM_describe_145 rfl 0 rfl ?_
      refine mx_get d_RM_describe_146 (ci := 6) (k := 24) (q := mx_cl0_6) (v := .ref (r + 16)) rfl (Nat.le_of_ble_eq_true rfl) kw_248 h9.1 rfl ?_
      refine mx_aload_nR d_RM_describe_149 rfl 0 rfl ?_
      refine mx_get d_RM_describe_150 (ci := 6) (k := 34) (q := mx_cl0_6) (v := .int (m1.2.2.1 34)) rfl (Nat.le_of_ble_eq_true rfl) kw_299 h9.1 rfl ?_
      refine mx_aload_nR d_RM_describe_153 rfl 0 rfl ?_
      refine mx_get d_RM_describe_154 (ci := 6) (k := 16) (q := mx_cl0_6) (v := .ref (r + 14)) rfl (Nat.le_of_ble_eq_true rfl) kw_246 h9.1 rfl ?_
      refine mx_iload_n d_RM_describe_157 rfl 1 rfl ?_
      obtain ⟨e2_, e3_, h⟩ := h
      refine mx_iald d_RM_describe_158 (k := 104) rfl (h9.2 16 (by decide) (by decide)) e2_ (rm_aget (by decide) e3_) ?_
      obtain ⟨e2_, e3_, h⟩ := h
      refine mx_iast d_RM_describe_159 (k := 104) rfl (by decide) (by omega) (h9.2 24 (by decide) (by decide)) e2_ (rm_alt e3_) ?_
      have f9 : mr_F hs0 (mx_st _ (r + 16) (104, (rm_av m1 24).set (Int32.toNatClampNeg (m1.2.2.1 34)) (.int (m1.1 16 (Int32.toNatClampNeg l1))))) := mr_frs f9 (h9.2 24 (by decide) (by decide)) rfl
      have h9 : rm_ob (mx_st _ (r + 16) (104, (rm_av m1 24).set (Int32.toNatClampNeg (m1.2.2.1 34)) (.int (m1.1 16 (Int32.toNatClampNeg l1))))) r (rs_i m1 24 (Int32.toNatClampNeg (m1.2.2.1 34)) (m1.1 16 (Int32.toNatClampNeg l1))) := rm_aput h9 24 (Int32.toNatClampNeg (m1.2.2.1 34)) (m1.1 16 (Int32.toNatClampNeg l1)) (by decide) (by decide)
      replace h := h _ rfl
      generalize mx_st _ (r + 16) (104, (rm_av m1 24).set (Int32.toNatClampNeg (m1.2.2.1 34)) (.int (m1.1 16 (Int32.toNatClampNeg l1)))) = hs9 at h9 f9 ⊢
      generalize rs_i m1 24 (Int32.toNatClampNeg (m1.2.2.1 34)) (m1.1 16 (Int32.toNatClampNeg l1)) = m2 at h9 h
      refine mx_aload_nR d_RM_describe_160 rfl 0 rfl ?_
      refine mx_get d_RM_describe_161 (ci := 6) (k := 25) (q := mx_cl0_6) (v := .ref (r + 17)) rfl (Nat.le_of_ble_eq_true rfl) kw_249 h9.1 rfl ?_
      refine mx_aload_nR d_RM_describe_164 rfl 0 rfl ?_
      refine mx_get d_RM_describe_165 (ci := 6) (k := 34) (q := mx_cl0_6) (v := .int (m2.2.2.1 34)) rfl (Nat.le_of_ble_eq_true rfl) kw_299 h9.1 rfl ?_
      refine mx_aload_nR d_RM_describe_168 rfl 0 rfl ?_
      refine mx_get d_RM_describe_169 (ci := 6) (k := 15) (q := mx_cl0_6) (v := .ref (r + 13)) rfl (Nat.le_of_ble_eq_true rfl) kw_245 h9.1 rfl ?_
      refine mx_iload_n d_RM_describe_172 rfl 1 rfl ?_
      obtain ⟨e2_, e3_, h⟩ := h
      refine mx_iald d_RM_describe_173 (k := 104) rfl (h9.2 15 (by decide) (by decide)) e2_ (rm_aget (by decide) e3_) ?_
      obtain ⟨e2_, e3_, h⟩ := h
      refine mx_iast d_RM_describe_174 (k := 104) rfl (by decide) (by omega) (h9.2 25 (by decide) (by decide)) e2_ (rm_alt e3_) ?_
      have f9 : mr_F hs0 (mx_st _ (r + 17) (104, (rm_av m2 25).set (Int32.toNatClampNeg (m2.2.2.1 34)) (.int (m2.1 15 (Int32.toNatClampNeg l1))))) := mr_frs f9 (h9.2 25 (by decide) (by decide)) rfl
      have h9 : rm_ob (mx_st _ (r + 17) (104, (rm_av m2 25).set (Int32.toNatClampNeg (m2.2.2.1 34)) (.int (m2.1 15 (Int32.toNatClampNeg l1))))) r (rs_i m2 25 (Int32.toNatClampNeg (m2.2.2.1 34)) (m2.1 15 (Int32.toNatClampNeg l1))) := rm_aput h9 25 (Int32.toNatClampNeg (m2.2.2.1 34)) (m2.1 15 (Int32.toNatClampNeg l1)) (by decide) (by decide)
      replace h := h _ rfl
      generalize mx_st _ (r + 17) (104, (rm_av m2 25).set (Int32.toNatClampNeg (m2.2.2.1 34)) (.int (m2.1 15 (Int32.toNatClampNeg l1)))) = hs9 at h9 f9 ⊢
      generalize rs_i m2 25 (Int32.toNatClampNeg (m2.2.2.1 34)) (m2.1 15 (Int32.toNatClampNeg l1)) = m3 at h9 h
      refine mx_iconst (v := 0) d_RM_describe_175 (by decide) ?_
      refine mx_istore_n (lv2 := [(2, .int 0), (0, .ref r), (1, .int l1)]) d_RM_describe_176 rfl (Nat.le_of_ble_eq_true rfl) rfl ?_
      exact mx_sub [1, 2, 0] rfl (mr_at h h9 f9)
    · replace h := h.2 c9
      refine mx_aload_nR d_RM_describe_128 rfl 0 rfl ?_
      refine mx_bipush (v := (-9)) d_RM_describe_129 (by decide) ?_
      refine mx_put d_RM_describe_131 (ci := 6) (k := 22) (q := mx_cl0_6) (ty := .int) rfl (Nat.le_of_ble_eq_true rfl) kw_293 rfl (by decide +kernel) rfl rfl (by omega) h9.1 ?_
      have f9 := mr_frs f9 h9.1 (x := (6, ((List.range 36).map (rm_fv r m)).set 22 (.int (-9)))) rfl
      have h9 := rm_puts h9 22 (-9) (by decide) (by decide) (by decide)
      replace h := h _ rfl
      generalize mx_st _ r (6, ((List.range 36).map (rm_fv r m)).set 22 (.int (-9))) = hs9 at h9 f9 ⊢
      generalize rs_s m 22 (-9) = m4 at h9 h
      exact mx_return d_RM_describe_134 rfl ⟨_, h9, f9.1, f9.2, h⟩
  · replace h := h.2 c9
    refine mx_aload_nR d_RM_describe_10 rfl 0 rfl ?_
    refine mx_get d_RM_describe_11 (ci := 6) (k := 24) (q := mx_cl0_6) (v := .ref (r + 16)) rfl (Nat.le_of_ble_eq_true rfl) kw_248 h9.1 rfl ?_
    refine mx_iload_n d_RM_describe_14 rfl 2 rfl ?_
    obtain ⟨e2_, e3_, h⟩ := h
    refine mx_iald d_RM_describe_15 (k := 104) rfl (h9.2 24 (by decide) (by decide)) e2_ (rm_aget (by decide) e3_) ?_
    refine mx_aload_nR d_RM_describe_16 rfl 0 rfl ?_
    refine mx_get d_RM_describe_17 (ci := 6) (k := 16) (q := mx_cl0_6) (v := .ref (r + 14)) rfl (Nat.le_of_ble_eq_true rfl) kw_246 h9.1 rfl ?_
    refine mx_iload_n d_RM_describe_20 rfl 1 rfl ?_
    obtain ⟨e2_, e3_, h⟩ := h
    refine mx_iald d_RM_describe_21 (k := 104) rfl (h9.2 16 (by decide) (by decide)) e2_ (rm_aget (by decide) e3_) ?_
    refine mx_icmp_ne d_RM_describe_22 (fun c9 => ?_) (fun c9 => ?_)
    · replace h := h.1 c9
      exact mx_sub [0, 1, 2] rfl (mr_at h h9 f9)
    · replace h := h.2 c9
      refine mx_aload_nR d_RM_describe_25 rfl 0 rfl ?_
      refine mx_get d_RM_describe_26 (ci := 6) (k := 25) (q := mx_cl0_6) (v := .ref (r + 17)) rfl (Nat.le_of_ble_eq_true rfl) kw_249 h9.1 rfl ?_
      refine mx_iload_n d_RM_describe_29 rfl 2 rfl ?_
      obtain ⟨e2_, e3_, h⟩ := h
      refine mx_iald d_RM_describe_30 (k := 104) rfl (h9.2 25 (by decide) (by decide)) e2_ (rm_aget (by decide) e3_) ?_
      refine mx_aload_nR d_RM_describe_31 rfl 0 rfl ?_
      refine mx_get d_RM_describe_32 (ci := 6) (k := 15) (q := mx_cl0_6) (v := .ref (r + 13)) rfl (Nat.le_of_ble_eq_true rfl) kw_245 h9.1 rfl ?_
      refine mx_iload_n d_RM_describe_35 rfl 1 rfl ?_
      obtain ⟨e2_, e3_, h⟩ := h
      refine mx_iald d_RM_describe_36 (k := 104) rfl (h9.2 15 (by decide) (by decide)) e2_ (rm_aget (by decide) e3_) ?_
      refine mx_icmp_ne d_RM_describe_37 (fun c9 => ?_) (fun c9 => ?_)
      · replace h := h.1 c9
        exact mx_sub [0, 1, 2] rfl (mr_at h h9 f9)
      · replace h := h.2 c9
        refine mx_iconst (v := 1) d_RM_describe_40 (by decide) ?_
        refine mx_goto d_RM_describe_41 ?_
        exact mx_sub [0, 1, 2] rfl (mr_at h h9 f9)
set_option maxRecDepth 100000 in
theorem wr_describe_44 {l : Launch} {G : mx_G} {r d : Nat} {m : rm_M} {Q : Option Value → rm_M → Prop} (l1 : Int32) (l2 : Int32) (h : mr_Ok l G r (d + 1) mm_RM_describe 45 [(0, .ref r), (1, .int l1), (2, .int l2)] [.int 0] m Q) : mr_Ok l G r (d + 1) mm_RM_describe 44 [(0, .ref r), (1, .int l1), (2, .int l2)] [] m Q := by
  refine mr_start (fun hs0 hs9 h9 f9 => ?_)
  refine mx_iconst (v := 0) d_RM_describe_44 (by decide) ?_
  exact mx_sub [0, 1, 2] rfl (mr_at h h9 f9)
set_option maxRecDepth 100000 in
theorem wr_describe_45 {l : Launch} {G : mx_G} {r d : Nat} {m : rm_M} {Q : Option Value → rm_M → Prop} (l1 : Int32) (l2 : Int32) (s0 : Int32) (h : mr_Ok l G r (d + 1) mm_RM_describe 49 [(0, .ref r), (1, .int l1), (2, .int l2), (3, .int s0), (4, .int 0)] [] m Q) : mr_Ok l G r (d + 1) mm_RM_describe 45 [(0, .ref r), (1, .int l1), (2, .int l2)] [.int s0] m Q := by
  refine mr_start (fun hs0 hs9 h9 f9 => ?_)
  refine mx_istore_n (lv2 := [(3, .int s0), (0, .ref r), (1, .int l1), (2, .int l2)]) d_RM_describe_45 rfl (Nat.le_of_ble_eq_true rfl) rfl ?_
  refine mx_iconst (v := 0) d_RM_describe_46 (by decide) ?_
  refine mx_istore (lv2 := [(4, .int 0), (3, .int s0), (0, .ref r), (1, .int l1), (2, .int l2)]) d_RM_describe_47 (Nat.le_of_ble_eq_true rfl) rfl ?_
  exact mx_sub [2, 3, 4, 1, 0] rfl (mr_at h h9 f9)
set_option maxRecDepth 100000 in
theorem wr_describe_49 {l : Launch} {G : mx_G} {r d : Nat} {m : rm_M} {Q : Option Value → rm_M → Prop} (l1 : Int32) (l2 : Int32) (l3 : Int32) (l4 : Int32) (h : (¬ l1 < 0 ∧ Int32.toNatClampNeg l1 < 100 ∧ (((m.1 15 (Int32.toNatClampNeg l1)) ≤ l4 → mr_Ok l G r (d + 1) mm_RM_describe 98 [(0, .ref r), (1, .int l1), (2, .int l2), (3, .int l3)] [] m Q) ∧ (¬ ((m.1 15 (Int32.toNatClampNeg l1)) ≤ l4) → ((l3 = 0 → mr_Ok l G r (d + 1) mm_RM_describe 98 [(0, .ref r), (1, .int l1), (2, .int l2), (3, .int l3)] [] m Q) ∧ (¬ (l3 = 0) → (¬ ((l2 * 4) + l4) < 0 ∧ Int32.toNatClampNeg ((l2 * 4) + l4) < 124 ∧ (¬ ((l1 * 4) + l4) < 0 ∧ Int32.toNatClampNeg ((l1 * 4) + l4) < 400 ∧ (((m.2.1 26 (Int32.toNatClampNeg ((l2 * 4) + l4))) = (m.2.1 18 (Int32.toNatClampNeg ((l1 * 4) + l4))) → mr_Ok l G r (d + 1) mm_RM_describe 92 [(0, .ref r), (1, .int l1), (2, .int l2), (3, .int l3), (4, .int l4)] [] m Q) ∧ (¬ ((m.2.1 26 (Int32.toNatClampNeg ((l2 * 4) + l4))) = (m.2.1 18 (Int32.toNatClampNeg ((l1 * 4) + l4)))) → mr_Ok l G r (d + 1) mm_RM_describe 92 [(0, .ref r), (1, .int l1), (2, .int l2), (3, .int 0), (4, .int l4)] [] m Q)))))))))) : mr_Ok l G r (d + 1) mm_RM_describe 49 [(0, .ref r), (1, .int l1), (2, .int l2), (3, .int l3), (4, .int l4)] [] m Q := by
  refine mr_start (fun hs0 hs9 h9 f9 => ?_)
  refine mx_iload d_RM_describe_49 4 rfl ?_
  refine mx_aload_nR d_RM_describe_51 rfl 0 rfl ?_
  refine mx_get d_RM_describe_52 (ci := 6) (k := 15) (q := mx_cl0_6) (v := .ref (r + 13)) rfl (Nat.le_of_ble_eq_true rfl) kw_245 h9.1 rfl ?_
  refine mx_iload_n d_RM_describe_55 rfl 1 rfl ?_
  obtain ⟨e2_, e3_, h⟩ := h
  refine mx_iald d_RM_describe_56 (k := 104) rfl (h9.2 15 (by decide) (by decide)) e2_ (rm_aget (by decide) e3_) ?_
  refine mx_icmp_ge d_RM_describe_57 (fun c9 => ?_) (fun c9 => ?_)
  · replace h := h.1 c9
    exact mx_sub [0, 1, 2, 3] rfl (mr_at h h9 f9)
  · replace h := h.2 c9
    refine mx_iload_n d_RM_describe_60 rfl 3 rfl ?_
    refine mx_if_eq d_RM_describe_61 (fun c9 => ?_) (fun c9 => ?_)
    · replace h := h.1 c9
      exact mx_sub [0, 1, 2, 3] rfl (mr_at h h9 f9)
    · replace h := h.2 c9
      refine mx_aload_nR d_RM_describe_64 rfl 0 rfl ?_
      refine mx_get d_RM_describe_65 (ci := 6) (k := 26) (q := mx_cl0_6) (v := .ref (r + 18)) rfl (Nat.le_of_ble_eq_true rfl) kw_250 h9.1 rfl ?_
      refine mx_iload_n d_RM_describe_68 rfl 2 rfl ?_
      refine mx_iconst (v := 4) d_RM_describe_69 (by decide) ?_
      refine mx_imul d_RM_describe_70 ?_
      refine mx_iload d_RM_describe_71 4 rfl ?_
      refine mx_iadd d_RM_describe_73 ?_
      obtain ⟨e2_, e3_, h⟩ := h
      refine mx_lald d_RM_describe_74 (k := 106) rfl (h9.2 26 (by decide) (by decide)) e2_ (rm_agetl (by decide) e3_) ?_
      refine mx_aload_nR d_RM_describe_75 rfl 0 rfl ?_
      refine mx_get d_RM_describe_76 (ci := 6) (k := 18) (q := mx_cl0_6) (v := .ref (r + 15)) rfl (Nat.le_of_ble_eq_true rfl) kw_247 h9.1 rfl ?_
      refine mx_iload_n d_RM_describe_79 rfl 1 rfl ?_
      refine mx_iconst (v := 4) d_RM_describe_80 (by decide) ?_
      refine mx_imul d_RM_describe_81 ?_
      refine mx_iload d_RM_describe_82 4 rfl ?_
      refine mx_iadd d_RM_describe_84 ?_
      obtain ⟨e2_, e3_, h⟩ := h
      refine mx_lald d_RM_describe_85 (k := 106) rfl (h9.2 18 (by decide) (by decide)) e2_ (rm_agetl (by decide) e3_) ?_
      refine mx_lcmp d_RM_describe_86 ?_
      refine mx_if_eq d_RM_describe_87 (fun c9 => ?_) (fun c9 => ?_)
      · replace h := h.1 ((lg_cmp_eq _ _).mp c9)
        exact mx_sub [0, 1, 2, 3, 4] rfl (mr_at h h9 f9)
      · replace h := h.2 (fun z9 => c9 ((lg_cmp_eq _ _).mpr z9))
        refine mx_iconst (v := 0) d_RM_describe_90 (by decide) ?_
        refine mx_istore_n (lv2 := [(3, .int 0), (0, .ref r), (1, .int l1), (2, .int l2), (4, .int l4)]) d_RM_describe_91 rfl (Nat.le_of_ble_eq_true rfl) rfl ?_
        exact mx_sub [1, 2, 3, 0, 4] rfl (mr_at h h9 f9)
set_option maxRecDepth 100000 in
theorem wr_describe_92 {l : Launch} {G : mx_G} {r d : Nat} {m : rm_M} {Q : Option Value → rm_M → Prop} (l1 : Int32) (l2 : Int32) (l3 : Int32) (l4 : Int32) (h : mr_Ok l G r (d + 1) mm_RM_describe 49 [(0, .ref r), (1, .int l1), (2, .int l2), (3, .int l3), (4, .int (l4 + 1))] [] m Q) : mr_Ok l G r (d + 1) mm_RM_describe 92 [(0, .ref r), (1, .int l1), (2, .int l2), (3, .int l3), (4, .int l4)] [] m Q := by
  refine mr_start (fun hs0 hs9 h9 f9 => ?_)
  refine mx_iinc (v := l4 + 1) (lv2 := [(4, .int (l4 + 1)), (0, .ref r), (1, .int l1), (2, .int l2), (3, .int l3)]) d_RM_describe_92 4 rfl (by rfl) (Nat.le_of_ble_eq_true rfl) rfl ?_
  refine mx_goto d_RM_describe_95 ?_
  exact mx_sub [1, 2, 3, 4, 0] rfl (mr_at h h9 f9)
set_option maxRecDepth 100000 in
theorem wr_describe_98 {l : Launch} {G : mx_G} {r d : Nat} {m : rm_M} {Q : Option Value → rm_M → Prop} (l1 : Int32) (l2 : Int32) (l3 : Int32) (h : ((l3 = 0 → mr_Ok l G r (d + 1) mm_RM_describe 2 [(0, .ref r), (1, .int l1), (2, .int (l2 + 1))] [] m Q) ∧ (¬ (l3 = 0) → (∀ m1 : rm_M, m1 = rs_r m (1000000000000 + (Int32.toInt64 l2)) → Q none m1)))) : mr_Ok l G r (d + 1) mm_RM_describe 98 [(0, .ref r), (1, .int l1), (2, .int l2), (3, .int l3)] [] m Q := by
  refine mr_start (fun hs0 hs9 h9 f9 => ?_)
  refine mx_iload_n d_RM_describe_98 rfl 3 rfl ?_
  refine mx_if_eq d_RM_describe_99 (fun c9 => ?_) (fun c9 => ?_)
  · replace h := h.1 c9
    refine mx_iinc (v := l2 + 1) (lv2 := [(2, .int (l2 + 1)), (0, .ref r), (1, .int l1), (3, .int l3)]) d_RM_describe_113 2 rfl (by rfl) (Nat.le_of_ble_eq_true rfl) rfl ?_
    refine mx_goto d_RM_describe_116 ?_
    exact mx_sub [1, 2, 0] rfl (mr_at h h9 f9)
  · replace h := h.2 c9
    refine mx_aload_nR d_RM_describe_102 rfl 0 rfl ?_
    refine mx_ldc2 (v := 1000000000000) d_RM_describe_103 kw_300 ?_
    refine mx_iload_n d_RM_describe_106 rfl 2 rfl ?_
    refine mx_i2l d_RM_describe_107 ?_
    refine mx_ladd d_RM_describe_108 ?_
    refine mx_put d_RM_describe_109 (ci := 6) (k := 23) (q := mx_cl0_6) (ty := .long) rfl (Nat.le_of_ble_eq_true rfl) kw_292 rfl (by decide +kernel) rfl rfl (by omega) h9.1 ?_
    have f9 := mr_frs f9 h9.1 (x := (6, ((List.range 36).map (rm_fv r m)).set 23 (.long (1000000000000 + (Int32.toInt64 l2))))) rfl
    have h9 := rm_putr h9 (1000000000000 + (Int32.toInt64 l2))
    replace h := h _ rfl
    generalize mx_st _ r (6, ((List.range 36).map (rm_fv r m)).set 23 (.long (1000000000000 + (Int32.toInt64 l2)))) = hs9 at h9 f9 ⊢
    generalize rs_r m (1000000000000 + (Int32.toInt64 l2)) = m1 at h9 h
    exact mx_return d_RM_describe_112 rfl ⟨_, h9, f9.1, f9.2, h⟩
set_option maxRecDepth 100000 in
theorem wr_describe_177 {l : Launch} {G : mx_G} {r d : Nat} {m : rm_M} {Q : Option Value → rm_M → Prop} (l1 : Int32) (l2 : Int32) (h : (¬ l1 < 0 ∧ Int32.toNatClampNeg l1 < 100 ∧ (((m.1 15 (Int32.toNatClampNeg l1)) ≤ l2 → (∀ m1 : rm_M, m1 = rs_r m (1000000000000 + (Int32.toInt64 (m.2.2.1 34))) → Q none m1)) ∧ (¬ ((m.1 15 (Int32.toNatClampNeg l1)) ≤ l2) → (¬ ((l1 * 4) + l2) < 0 ∧ Int32.toNatClampNeg ((l1 * 4) + l2) < 400 ∧ (¬ (((m.2.2.1 34) * 4) + l2) < 0 ∧ Int32.toNatClampNeg (((m.2.2.1 34) * 4) + l2) < 124 ∧ ∀ m2 : rm_M, m2 = rs_l m 26 (Int32.toNatClampNeg (((m.2.2.1 34) * 4) + l2)) (m.2.1 18 (Int32.toNatClampNeg ((l1 * 4) + l2))) → mr_Ok l G r (d + 1) mm_RM_describe 177 [(0, .ref r), (1, .int l1), (2, .int (l2 + 1))] [] m2 Q)))))) : mr_Ok l G r (d + 1) mm_RM_describe 177 [(0, .ref r), (1, .int l1), (2, .int l2)] [] m Q := by
  refine mr_start (fun hs0 hs9 h9 f9 => ?_)
  refine mx_iload_n d_RM_describe_177 rfl 2 rfl ?_
  refine mx_aload_nR d_RM_describe_178 rfl 0 rfl ?_
  refine mx_get d_RM_describe_179 (ci := 6) (k := 15) (q := mx_cl0_6) (v := .ref (r + 13)) rfl (Nat.le_of_ble_eq_true rfl) kw_245 h9.1 rfl ?_
  refine mx_iload_n d_RM_describe_182 rfl 1 rfl ?_
  obtain ⟨e2_, e3_, h⟩ := h
  refine mx_iald d_RM_describe_183 (k := 104) rfl (h9.2 15 (by decide) (by decide)) e2_ (rm_aget (by decide) e3_) ?_
  refine mx_icmp_ge d_RM_describe_184 (fun c9 => ?_) (fun c9 => ?_)
  · replace h := h.1 c9
    refine mx_aload_nR d_RM_describe_216 rfl 0 rfl ?_
    refine mx_ldc2 (v := 1000000000000) d_RM_describe_217 kw_300 ?_
    refine mx_aload_nR d_RM_describe_220 rfl 0 rfl ?_
    refine mx_get d_RM_describe_221 (ci := 6) (k := 34) (q := mx_cl0_6) (v := .int (m.2.2.1 34)) rfl (Nat.le_of_ble_eq_true rfl) kw_299 h9.1 rfl ?_
    refine mx_i2l d_RM_describe_224 ?_
    refine mx_ladd d_RM_describe_225 ?_
    refine mx_put d_RM_describe_226 (ci := 6) (k := 23) (q := mx_cl0_6) (ty := .long) rfl (Nat.le_of_ble_eq_true rfl) kw_292 rfl (by decide +kernel) rfl rfl (by omega) h9.1 ?_
    have f9 := mr_frs f9 h9.1 (x := (6, ((List.range 36).map (rm_fv r m)).set 23 (.long (1000000000000 + (Int32.toInt64 (m.2.2.1 34)))))) rfl
    have h9 := rm_putr h9 (1000000000000 + (Int32.toInt64 (m.2.2.1 34)))
    replace h := h _ rfl
    generalize mx_st _ r (6, ((List.range 36).map (rm_fv r m)).set 23 (.long (1000000000000 + (Int32.toInt64 (m.2.2.1 34))))) = hs9 at h9 f9 ⊢
    generalize rs_r m (1000000000000 + (Int32.toInt64 (m.2.2.1 34))) = m1 at h9 h
    exact mx_return d_RM_describe_229 rfl ⟨_, h9, f9.1, f9.2, h⟩
  · replace h := h.2 c9
    refine mx_aload_nR d_RM_describe_187 rfl 0 rfl ?_
    refine mx_get d_RM_describe_188 (ci := 6) (k := 26) (q := mx_cl0_6) (v := .ref (r + 18)) rfl (Nat.le_of_ble_eq_true rfl) kw_250 h9.1 rfl ?_
    refine mx_aload_nR d_RM_describe_191 rfl 0 rfl ?_
    refine mx_get d_RM_describe_192 (ci := 6) (k := 34) (q := mx_cl0_6) (v := .int (m.2.2.1 34)) rfl (Nat.le_of_ble_eq_true rfl) kw_299 h9.1 rfl ?_
    refine mx_iconst (v := 4) d_RM_describe_195 (by decide) ?_
    refine mx_imul d_RM_describe_196 ?_
    refine mx_iload_n d_RM_describe_197 rfl 2 rfl ?_
    refine mx_iadd d_RM_describe_198 ?_
    refine mx_aload_nR d_RM_describe_199 rfl 0 rfl ?_
    refine mx_get d_RM_describe_200 (ci := 6) (k := 18) (q := mx_cl0_6) (v := .ref (r + 15)) rfl (Nat.le_of_ble_eq_true rfl) kw_247 h9.1 rfl ?_
    refine mx_iload_n d_RM_describe_203 rfl 1 rfl ?_
    refine mx_iconst (v := 4) d_RM_describe_204 (by decide) ?_
    refine mx_imul d_RM_describe_205 ?_
    refine mx_iload_n d_RM_describe_206 rfl 2 rfl ?_
    refine mx_iadd d_RM_describe_207 ?_
    obtain ⟨e2_, e3_, h⟩ := h
    refine mx_lald d_RM_describe_208 (k := 106) rfl (h9.2 18 (by decide) (by decide)) e2_ (rm_agetl (by decide) e3_) ?_
    obtain ⟨e2_, e3_, h⟩ := h
    refine mx_last d_RM_describe_209 (k := 106) rfl (by decide) (by omega) (h9.2 26 (by decide) (by decide)) e2_ (rm_alt e3_) ?_
    have f9 : mr_F hs0 (mx_st _ (r + 18) (106, (rm_av m 26).set (Int32.toNatClampNeg (((m.2.2.1 34) * 4) + l2)) (.long (m.2.1 18 (Int32.toNatClampNeg ((l1 * 4) + l2)))))) := mr_frs f9 (h9.2 26 (by decide) (by decide)) rfl
    have h9 : rm_ob (mx_st _ (r + 18) (106, (rm_av m 26).set (Int32.toNatClampNeg (((m.2.2.1 34) * 4) + l2)) (.long (m.2.1 18 (Int32.toNatClampNeg ((l1 * 4) + l2)))))) r (rs_l m 26 (Int32.toNatClampNeg (((m.2.2.1 34) * 4) + l2)) (m.2.1 18 (Int32.toNatClampNeg ((l1 * 4) + l2)))) := rm_aputl h9 26 (Int32.toNatClampNeg (((m.2.2.1 34) * 4) + l2)) (m.2.1 18 (Int32.toNatClampNeg ((l1 * 4) + l2))) (by decide) (by decide)
    replace h := h _ rfl
    generalize mx_st _ (r + 18) (106, (rm_av m 26).set (Int32.toNatClampNeg (((m.2.2.1 34) * 4) + l2)) (.long (m.2.1 18 (Int32.toNatClampNeg ((l1 * 4) + l2))))) = hs9 at h9 f9 ⊢
    generalize rs_l m 26 (Int32.toNatClampNeg (((m.2.2.1 34) * 4) + l2)) (m.2.1 18 (Int32.toNatClampNeg ((l1 * 4) + l2))) = m2 at h9 h
    refine mx_iinc (v := l2 + 1) (lv2 := [(2, .int (l2 + 1)), (0, .ref r), (1, .int l1)]) d_RM_describe_210 2 rfl (by rfl) (Nat.le_of_ble_eq_true rfl) rfl ?_
    refine mx_goto d_RM_describe_213 ?_
    exact mx_sub [1, 2, 0] rfl (mr_at h h9 f9)
set_option maxRecDepth 100000 in
theorem wr_order_0 {l : Launch} {G : mx_G} {r d : Nat} {m : rm_M} {Q : Option Value → rm_M → Prop} (l1 : Int32) (h : (¬ (l1 * 4) < 0 ∧ Int32.toNatClampNeg (l1 * 4) < 400 ∧ mr_C l G r d mm_RM_isNumber [.long (m.2.1 18 (Int32.toNatClampNeg (l1 * 4)))] m (fun (r1 : Option Value) (m2 : rm_M) => ∃ x3 : Int32, r1 = some (.int x3) ∧ ((x3 = 0 → mr_C l G r d mm_RM_construct [.int (Int64.toInt32 ((m.2.1 18 (Int32.toNatClampNeg (l1 * 4))) - 1000000000000))] m2 (fun (r4 : Option Value) (m5 : rm_M) => ∃ x6 : Int32, r4 = some (.int x6) ∧ ((¬ x6 = 0 → (¬ (Int64.toInt32 ((m.2.1 18 (Int32.toNatClampNeg (l1 * 4))) - 1000000000000)) < 0 ∧ Int32.toNatClampNeg (Int64.toInt32 ((m.2.1 18 (Int32.toNatClampNeg (l1 * 4))) - 1000000000000)) < 31 ∧ (∀ m7 : rm_M, m7 = rs_r m5 (Int32.toInt64 (m5.1 28 (Int32.toNatClampNeg (Int64.toInt32 ((m.2.1 18 (Int32.toNatClampNeg (l1 * 4))) - 1000000000000))))) → Q none m7))) ∧ (¬ (¬ x6 = 0) → (∀ m8 : rm_M, m8 = rs_s m5 22 (-7) → Q none m8))))) ∧ (¬ (x3 = 0) → (∀ m9 : rm_M, m9 = rs_s m2 22 (-5) → Q none m9)))))) : mr_Ok l G r (d + 1) mm_RM_order 0 [(0, .ref r), (1, .int l1)] [] m Q := by
  refine mr_start (fun hs0 hs9 h9 f9 => ?_)
  refine mx_aload_nR d_RM_order_0 rfl 0 rfl ?_
  refine mx_get d_RM_order_1 (ci := 6) (k := 18) (q := mx_cl0_6) (v := .ref (r + 15)) rfl (Nat.le_of_ble_eq_true rfl) kw_247 h9.1 rfl ?_
  refine mx_iload_n d_RM_order_4 rfl 1 rfl ?_
  refine mx_iconst (v := 4) d_RM_order_5 (by decide) ?_
  refine mx_imul d_RM_order_6 ?_
  obtain ⟨e2_, e3_, h⟩ := h
  refine mx_lald d_RM_order_7 (k := 106) rfl (h9.2 18 (by decide) (by decide)) e2_ (rm_agetl (by decide) e3_) ?_
  refine mx_lstore_n (lv2 := [(2, .long (m.2.1 18 (Int32.toNatClampNeg (l1 * 4)))), (0, .ref r), (1, .int l1)]) d_RM_order_8 rfl (Nat.le_of_ble_eq_true rfl) rfl ?_
  refine mx_aload_nR d_RM_order_9 rfl 1 rfl ?_
  refine mx_lload_n d_RM_order_10 rfl 0 rfl ?_
  refine mx_invV (Y := mm_RM_isNumber) (As := [.long (m.2.1 18 (Int32.toNatClampNeg (l1 * 4)))]) (rest := []) d_RM_order_11.1 ok_RM_isNumber kw_296 kw_297 kw_298 rfl rfl (Nat.le_of_ble_eq_true rfl) (Nat.le_of_ble_eq_true rfl) h9.1 (q := mx_cl0_6) rfl rfl (h _ h9) (fun r1 hs8 h => ?_)
  obtain ⟨m2, h9, f8, z8, h⟩ := h
  obtain ⟨x3, e9_, h⟩ := h
  subst e9_
  have f9 := mr_frc f9 f8 z8
  clear f8 z8
  show mx_Ok mx_S0 l G (d + 1) mm_RM_order 14 [(2, .long (m.2.1 18 (Int32.toNatClampNeg (l1 * 4)))), (0, .ref r), (1, .int l1)] [.int x3] hs8 _
  refine mx_if_eq d_RM_order_14 (fun c9 => ?_) (fun c9 => ?_)
  · replace h := h.1 c9
    refine mx_aload_nR d_RM_order_26 rfl 1 rfl ?_
    refine mx_lload_n d_RM_order_27 rfl 0 rfl ?_
    refine mx_ldc2 (v := 1000000000000) d_RM_order_28 kw_300 ?_
    refine mx_lsub d_RM_order_31 ?_
    refine mx_l2i d_RM_order_32 ?_
    refine mx_invV (Y := mm_RM_construct) (As := [.int (Int64.toInt32 ((m.2.1 18 (Int32.toNatClampNeg (l1 * 4))) - 1000000000000))]) (rest := []) d_RM_order_33.1 ok_RM_construct kw_301 kw_302 kw_303 rfl rfl (Nat.le_of_ble_eq_true rfl) (Nat.le_of_ble_eq_true rfl) h9.1 (q := mx_cl0_6) rfl rfl (h _ h9) (fun r4 hs8 h => ?_)
    obtain ⟨m5, h9, f8, z8, h⟩ := h
    obtain ⟨x6, e9_, h⟩ := h
    subst e9_
    have f9 := mr_frc f9 f8 z8
    clear f8 z8
    show mx_Ok mx_S0 l G (d + 1) mm_RM_order 36 [(2, .long (m.2.1 18 (Int32.toNatClampNeg (l1 * 4)))), (0, .ref r), (1, .int l1)] [.int x6] hs8 _
    refine mx_if_ne d_RM_order_36 (fun c9 => ?_) (fun c9 => ?_)
    · replace h := h.1 c9
      refine mx_aload_nR d_RM_order_48 rfl 1 rfl ?_
      refine mx_aload_nR d_RM_order_49 rfl 1 rfl ?_
      refine mx_get d_RM_order_50 (ci := 6) (k := 28) (q := mx_cl0_6) (v := .ref (r + 20)) rfl (Nat.le_of_ble_eq_true rfl) kw_252 h9.1 rfl ?_
      refine mx_lload_n d_RM_order_53 rfl 0 rfl ?_
      refine mx_ldc2 (v := 1000000000000) d_RM_order_54 kw_300 ?_
      refine mx_lsub d_RM_order_57 ?_
      refine mx_l2i d_RM_order_58 ?_
      obtain ⟨e2_, e3_, h⟩ := h
      refine mx_iald d_RM_order_59 (k := 104) rfl (h9.2 28 (by decide) (by decide)) e2_ (rm_aget (by decide) e3_) ?_
      refine mx_i2l d_RM_order_60 ?_
      refine mx_put d_RM_order_61 (ci := 6) (k := 23) (q := mx_cl0_6) (ty := .long) rfl (Nat.le_of_ble_eq_true rfl) kw_292 rfl (by decide +kernel) rfl rfl (by omega) h9.1 ?_
      have f9 := mr_frs f9 h9.1 (x := (6, ((List.range 36).map (rm_fv r m5)).set 23 (.long (Int32.toInt64 (m5.1 28 (Int32.toNatClampNeg (Int64.toInt32 ((m.2.1 18 (Int32.toNatClampNeg (l1 * 4))) - 1000000000000)))))))) rfl
      have h9 := rm_putr h9 (Int32.toInt64 (m5.1 28 (Int32.toNatClampNeg (Int64.toInt32 ((m.2.1 18 (Int32.toNatClampNeg (l1 * 4))) - 1000000000000)))))
      replace h := h _ rfl
      generalize mx_st _ r (6, ((List.range 36).map (rm_fv r m5)).set 23 (.long (Int32.toInt64 (m5.1 28 (Int32.toNatClampNeg (Int64.toInt32 ((m.2.1 18 (Int32.toNatClampNeg (l1 * 4))) - 1000000000000))))))) = hs9 at h9 f9 ⊢
      generalize rs_r m5 (Int32.toInt64 (m5.1 28 (Int32.toNatClampNeg (Int64.toInt32 ((m.2.1 18 (Int32.toNatClampNeg (l1 * 4))) - 1000000000000))))) = m7 at h9 h
      exact mx_return d_RM_order_64 rfl ⟨_, h9, f9.1, f9.2, h⟩
    · replace h := h.2 c9
      refine mx_aload_nR d_RM_order_39 rfl 1 rfl ?_
      refine mx_bipush (v := (-7)) d_RM_order_40 (by decide) ?_
      refine mx_put d_RM_order_42 (ci := 6) (k := 22) (q := mx_cl0_6) (ty := .int) rfl (Nat.le_of_ble_eq_true rfl) kw_293 rfl (by decide +kernel) rfl rfl (by omega) h9.1 ?_
      have f9 := mr_frs f9 h9.1 (x := (6, ((List.range 36).map (rm_fv r m5)).set 22 (.int (-7)))) rfl
      have h9 := rm_puts h9 22 (-7) (by decide) (by decide) (by decide)
      replace h := h _ rfl
      generalize mx_st _ r (6, ((List.range 36).map (rm_fv r m5)).set 22 (.int (-7))) = hs9 at h9 f9 ⊢
      generalize rs_s m5 22 (-7) = m8 at h9 h
      refine mx_goto d_RM_order_45 ?_
      exact mx_return d_RM_order_64 rfl ⟨_, h9, f9.1, f9.2, h⟩
  · replace h := h.2 c9
    refine mx_aload_nR d_RM_order_17 rfl 1 rfl ?_
    refine mx_bipush (v := (-5)) d_RM_order_18 (by decide) ?_
    refine mx_put d_RM_order_20 (ci := 6) (k := 22) (q := mx_cl0_6) (ty := .int) rfl (Nat.le_of_ble_eq_true rfl) kw_293 rfl (by decide +kernel) rfl rfl (by omega) h9.1 ?_
    have f9 := mr_frs f9 h9.1 (x := (6, ((List.range 36).map (rm_fv r m2)).set 22 (.int (-5)))) rfl
    have h9 := rm_puts h9 22 (-5) (by decide) (by decide) (by decide)
    replace h := h _ rfl
    generalize mx_st _ r (6, ((List.range 36).map (rm_fv r m2)).set 22 (.int (-5))) = hs9 at h9 f9 ⊢
    generalize rs_s m2 22 (-5) = m9 at h9 h
    refine mx_goto d_RM_order_23 ?_
    exact mx_return d_RM_order_64 rfl ⟨_, h9, f9.1, f9.2, h⟩
set_option maxRecDepth 100000 in
theorem wr_proceed_0 {l : Launch} {G : mx_G} {r d : Nat} {m : rm_M} {Q : Option Value → rm_M → Prop}  (h : (¬ ((m.2.2.1 19) - 1) < 0 ∧ Int32.toNatClampNeg ((m.2.2.1 19) - 1) < 100 ∧ (¬ ((m.2.2.1 19) - 1) < 0 ∧ Int32.toNatClampNeg ((m.2.2.1 19) - 1) < 100 ∧ mr_C l G r d mm_RM_name [.int (m.1 12 (Int32.toNatClampNeg ((m.2.2.1 19) - 1)))] m (fun (r1 : Option Value) (m2 : rm_M) => ∃ x3 : Int32, r1 = some (.int x3) ∧ ((x3 = 0 → ((¬ (m.1 12 (Int32.toNatClampNeg ((m.2.2.1 19) - 1))) = 68 → (((m.1 12 (Int32.toNatClampNeg ((m.2.2.1 19) - 1))) = 63 → mr_Ok l G r (d + 1) mm_RM_proceed 93 [(0, .ref r), (1, .int ((m.2.2.1 19) - 1)), (2, .int (m.1 12 (Int32.toNatClampNeg ((m.2.2.1 19) - 1)))), (3, .int (m.1 13 (Int32.toNatClampNeg ((m.2.2.1 19) - 1))))] [] m2 Q) ∧ (¬ ((m.1 12 (Int32.toNatClampNeg ((m.2.2.1 19) - 1))) = 63) → ((¬ (m.1 12 (Int32.toNatClampNeg ((m.2.2.1 19) - 1))) = 84 → (¬ ((m.2.2.1 19) - 1) < 0 ∧ Int32.toNatClampNeg ((m.2.2.1 19) - 1) < 100 ∧ mr_C l G r d mm_RM_wants [.int (m.1 12 (Int32.toNatClampNeg ((m.2.2.1 19) - 1)))] m2 (fun (r4 : Option Value) (m5 : rm_M) => ∃ x6 : Int32, r4 = some (.int x6) ∧ ((x6 ≤ (m2.1 15 (Int32.toNatClampNeg ((m.2.2.1 19) - 1))) → mr_Ok l G r (d + 1) mm_RM_proceed 129 [(0, .ref r), (1, .int ((m.2.2.1 19) - 1)), (2, .int (m.1 12 (Int32.toNatClampNeg ((m.2.2.1 19) - 1)))), (3, .int (m.1 13 (Int32.toNatClampNeg ((m.2.2.1 19) - 1))))] [.int 0] m5 Q) ∧ (¬ (x6 ≤ (m2.1 15 (Int32.toNatClampNeg ((m.2.2.1 19) - 1)))) → mr_Ok l G r (d + 1) mm_RM_proceed 129 [(0, .ref r), (1, .int ((m.2.2.1 19) - 1)), (2, .int (m.1 12 (Int32.toNatClampNeg ((m.2.2.1 19) - 1)))), (3, .int (m.1 13 (Int32.toNatClampNeg ((m.2.2.1 19) - 1))))] [.int 1] m5 Q))))) ∧ (¬ (¬ (m.1 12 (Int32.toNatClampNeg ((m.2.2.1 19) - 1))) = 84) → mr_Ok l G r (d + 1) mm_RM_proceed 93 [(0, .ref r), (1, .int ((m.2.2.1 19) - 1)), (2, .int (m.1 12 (Int32.toNatClampNeg ((m.2.2.1 19) - 1)))), (3, .int (m.1 13 (Int32.toNatClampNeg ((m.2.2.1 19) - 1))))] [] m2 Q))))) ∧ (¬ (¬ (m.1 12 (Int32.toNatClampNeg ((m.2.2.1 19) - 1))) = 68) → (¬ ((m.2.2.1 19) - 1) < 0 ∧ Int32.toNatClampNeg ((m.2.2.1 19) - 1) < 100 ∧ (¬ (((m.1 13 (Int32.toNatClampNeg ((m.2.2.1 19) - 1))) * 24) + (m2.1 14 (Int32.toNatClampNeg ((m.2.2.1 19) - 1)))) < 0 ∧ Int32.toNatClampNeg (((m.1 13 (Int32.toNatClampNeg ((m.2.2.1 19) - 1))) * 24) + (m2.1 14 (Int32.toNatClampNeg ((m.2.2.1 19) - 1)))) < 240 ∧ (((m2.1 0 (Int32.toNatClampNeg (((m.1 13 (Int32.toNatClampNeg ((m.2.2.1 19) - 1))) * 24) + (m2.1 14 (Int32.toNatClampNeg ((m.2.2.1 19) - 1)))))) = 41 → mr_Ok l G r (d + 1) mm_RM_proceed 129 [(0, .ref r), (1, .int ((m.2.2.1 19) - 1)), (2, .int (m.1 12 (Int32.toNatClampNeg ((m.2.2.1 19) - 1)))), (3, .int (m.1 13 (Int32.toNatClampNeg ((m.2.2.1 19) - 1))))] [.int 0] m2 Q) ∧ (¬ ((m2.1 0 (Int32.toNatClampNeg (((m.1 13 (Int32.toNatClampNeg ((m.2.2.1 19) - 1))) * 24) + (m2.1 14 (Int32.toNatClampNeg ((m.2.2.1 19) - 1)))))) = 41) → mr_Ok l G r (d + 1) mm_RM_proceed 129 [(0, .ref r), (1, .int ((m.2.2.1 19) - 1)), (2, .int (m.1 12 (Int32.toNatClampNeg ((m.2.2.1 19) - 1)))), (3, .int (m.1 13 (Int32.toNatClampNeg ((m.2.2.1 19) - 1))))] [.int 1] m2 Q))))))) ∧ (¬ (x3 = 0) → (¬ ((m.2.2.1 19) - 1) < 0 ∧ Int32.toNatClampNeg ((m.2.2.1 19) - 1) < 100 ∧ ((¬ (m2.1 15 (Int32.toNatClampNeg ((m.2.2.1 19) - 1))) = 0 → mr_Ok l G r (d + 1) mm_RM_proceed 129 [(0, .ref r), (1, .int ((m.2.2.1 19) - 1)), (2, .int (m.1 12 (Int32.toNatClampNeg ((m.2.2.1 19) - 1)))), (3, .int (m.1 13 (Int32.toNatClampNeg ((m.2.2.1 19) - 1))))] [.int 0] m2 Q) ∧ (¬ (¬ (m2.1 15 (Int32.toNatClampNeg ((m.2.2.1 19) - 1))) = 0) → mr_Ok l G r (d + 1) mm_RM_proceed 129 [(0, .ref r), (1, .int ((m.2.2.1 19) - 1)), (2, .int (m.1 12 (Int32.toNatClampNeg ((m.2.2.1 19) - 1)))), (3, .int (m.1 13 (Int32.toNatClampNeg ((m.2.2.1 19) - 1))))] [.int 1] m2 Q))))))))) : mr_Ok l G r (d + 1) mm_RM_proceed 0 [(0, .ref r)] [] m Q := by
  refine mr_start (fun hs0 hs9 h9 f9 => ?_)
  refine mx_aload_nR d_RM_proceed_0 rfl 0 rfl ?_
  refine mx_get d_RM_proceed_1 (ci := 6) (k := 19) (q := mx_cl0_6) (v := .int (m.2.2.1 19)) rfl (Nat.le_of_ble_eq_true rfl) kw_294 h9.1 rfl ?_
  refine mx_iconst (v := 1) d_RM_proceed_4 (by decide) ?_
  refine mx_isub d_RM_proceed_5 ?_
  refine mx_istore_n (lv2 := [(1, .int ((m.2.2.1 19) - 1)), (0, .ref r)]) d_RM_proceed_6 rfl (Nat.le_of_ble_eq_true rfl) rfl ?_
  refine mx_aload_nR d_RM_proceed_7 rfl 1 rfl ?_
  refine mx_get d_RM_proceed_8 (ci := 6) (k := 12) (q := mx_cl0_6) (v := .ref (r + 10)) rfl (Nat.le_of_ble_eq_true rfl) kw_242 h9.1 rfl ?_
  refine mx_iload_n d_RM_proceed_11 rfl 0 rfl ?_
  obtain ⟨e2_, e3_, h⟩ := h
  refine mx_iald d_RM_proceed_12 (k := 104) rfl (h9.2 12 (by decide) (by decide)) e2_ (rm_aget (by decide) e3_) ?_
  refine mx_istore_n (lv2 := [(2, .int (m.1 12 (Int32.toNatClampNeg ((m.2.2.1 19) - 1)))), (1, .int ((m.2.2.1 19) - 1)), (0, .ref r)]) d_RM_proceed_13 rfl (Nat.le_of_ble_eq_true rfl) rfl ?_
  refine mx_aload_nR d_RM_proceed_14 rfl 2 rfl ?_
  refine mx_get d_RM_proceed_15 (ci := 6) (k := 13) (q := mx_cl0_6) (v := .ref (r + 11)) rfl (Nat.le_of_ble_eq_true rfl) kw_243 h9.1 rfl ?_
  refine mx_iload_n d_RM_proceed_18 rfl 1 rfl ?_
  obtain ⟨e2_, e3_, h⟩ := h
  refine mx_iald d_RM_proceed_19 (k := 104) rfl (h9.2 13 (by decide) (by decide)) e2_ (rm_aget (by decide) e3_) ?_
  refine mx_istore_n (lv2 := [(3, .int (m.1 13 (Int32.toNatClampNeg ((m.2.2.1 19) - 1)))), (2, .int (m.1 12 (Int32.toNatClampNeg ((m.2.2.1 19) - 1)))), (1, .int ((m.2.2.1 19) - 1)), (0, .ref r)]) d_RM_proceed_20 rfl (Nat.le_of_ble_eq_true rfl) rfl ?_
  refine mx_aload_nR d_RM_proceed_21 rfl 3 rfl ?_
  refine mx_iload_n d_RM_proceed_22 rfl 1 rfl ?_
  refine mx_invV (Y := mm_RM_name) (As := [.int (m.1 12 (Int32.toNatClampNeg ((m.2.2.1 19) - 1)))]) (rest := []) d_RM_proceed_23.1 ok_RM_name kw_261 kw_262 kw_263 rfl rfl (Nat.le_of_ble_eq_true rfl) (Nat.le_of_ble_eq_true rfl) h9.1 (q := mx_cl0_6) rfl rfl (h _ h9) (fun r1 hs8 h => ?_)
  obtain ⟨m2, h9, f8, z8, h⟩ := h
  obtain ⟨x3, e9_, h⟩ := h
  subst e9_
  have f9 := mr_frc f9 f8 z8
  clear f8 z8
  show mx_Ok mx_S0 l G (d + 1) mm_RM_proceed 26 [(3, .int (m.1 13 (Int32.toNatClampNeg ((m.2.2.1 19) - 1)))), (2, .int (m.1 12 (Int32.toNatClampNeg ((m.2.2.1 19) - 1)))), (1, .int ((m.2.2.1 19) - 1)), (0, .ref r)] [.int x3] hs8 _
  refine mx_if_eq d_RM_proceed_26 (fun c9 => ?_) (fun c9 => ?_)
  · replace h := h.1 c9
    refine mx_iload_n d_RM_proceed_46 rfl 1 rfl ?_
    refine mx_bipush (v := 68) d_RM_proceed_47 (by decide) ?_
    refine mx_icmp_ne d_RM_proceed_49 (fun c9 => ?_) (fun c9 => ?_)
    · replace h := h.1 c9
      refine mx_iload_n d_RM_proceed_81 rfl 1 rfl ?_
      refine mx_bipush (v := 63) d_RM_proceed_82 (by decide) ?_
      refine mx_icmp_eq d_RM_proceed_84 (fun c9 => ?_) (fun c9 => ?_)
      · replace h := h.1 c9
        exact mx_sub [3, 2, 1, 0] rfl (mr_at h h9 f9)
      · replace h := h.2 c9
        refine mx_iload_n d_RM_proceed_87 rfl 1 rfl ?_
        refine mx_bipush (v := 84) d_RM_proceed_88 (by decide) ?_
        refine mx_icmp_ne d_RM_proceed_90 (fun c9 => ?_) (fun c9 => ?_)
        · replace h := h.1 c9
          refine mx_aload_nR d_RM_proceed_110 rfl 3 rfl ?_
          refine mx_get d_RM_proceed_111 (ci := 6) (k := 15) (q := mx_cl0_6) (v := .ref (r + 13)) rfl (Nat.le_of_ble_eq_true rfl) kw_245 h9.1 rfl ?_
          refine mx_iload_n d_RM_proceed_114 rfl 2 rfl ?_
          obtain ⟨e2_, e3_, h⟩ := h
          refine mx_iald d_RM_proceed_115 (k := 104) rfl (h9.2 15 (by decide) (by decide)) e2_ (rm_aget (by decide) e3_) ?_
          refine mx_aload_nR d_RM_proceed_116 rfl 3 rfl ?_
          refine mx_iload_n d_RM_proceed_117 rfl 1 rfl ?_
          refine mx_invV (Y := mm_RM_wants) (As := [.int (m.1 12 (Int32.toNatClampNeg ((m.2.2.1 19) - 1)))]) (rest := [.int (m2.1 15 (Int32.toNatClampNeg ((m.2.2.1 19) - 1)))]) d_RM_proceed_118.1 ok_RM_wants kw_258 kw_259 kw_260 rfl rfl (Nat.le_of_ble_eq_true rfl) (Nat.le_of_ble_eq_true rfl) h9.1 (q := mx_cl0_6) rfl rfl (h _ h9) (fun r4 hs8 h => ?_)
          obtain ⟨m5, h9, f8, z8, h⟩ := h
          obtain ⟨x6, e9_, h⟩ := h
          subst e9_
          have f9 := mr_frc f9 f8 z8
          clear f8 z8
          show mx_Ok mx_S0 l G (d + 1) mm_RM_proceed 121 [(3, .int (m.1 13 (Int32.toNatClampNeg ((m.2.2.1 19) - 1)))), (2, .int (m.1 12 (Int32.toNatClampNeg ((m.2.2.1 19) - 1)))), (1, .int ((m.2.2.1 19) - 1)), (0, .ref r)] [.int x6, .int (m2.1 15 (Int32.toNatClampNeg ((m.2.2.1 19) - 1)))] hs8 _
          refine mx_icmp_ge d_RM_proceed_121 (fun c9 => ?_) (fun c9 => ?_)
          · replace h := h.1 c9
            refine mx_iconst (v := 0) d_RM_proceed_128 (by decide) ?_
            exact mx_sub [3, 2, 1, 0] rfl (mr_at h h9 f9)
          · replace h := h.2 c9
            refine mx_iconst (v := 1) d_RM_proceed_124 (by decide) ?_
            refine mx_goto d_RM_proceed_125 ?_
            exact mx_sub [3, 2, 1, 0] rfl (mr_at h h9 f9)
        · replace h := h.2 c9
          exact mx_sub [3, 2, 1, 0] rfl (mr_at h h9 f9)
    · replace h := h.2 c9
      refine mx_aload_nR d_RM_proceed_52 rfl 3 rfl ?_
      refine mx_get d_RM_proceed_53 (ci := 6) (k := 0) (q := mx_cl0_6) (v := .ref (r + 1)) rfl (Nat.le_of_ble_eq_true rfl) kw_231 h9.1 rfl ?_
      refine mx_iload_n d_RM_proceed_56 rfl 0 rfl ?_
      refine mx_bipush (v := 24) d_RM_proceed_57 (by decide) ?_
      refine mx_imul d_RM_proceed_59 ?_
      refine mx_aload_nR d_RM_proceed_60 rfl 3 rfl ?_
      refine mx_get d_RM_proceed_61 (ci := 6) (k := 14) (q := mx_cl0_6) (v := .ref (r + 12)) rfl (Nat.le_of_ble_eq_true rfl) kw_244 h9.1 rfl ?_
      refine mx_iload_n d_RM_proceed_64 rfl 2 rfl ?_
      obtain ⟨e2_, e3_, h⟩ := h
      refine mx_iald d_RM_proceed_65 (k := 104) rfl (h9.2 14 (by decide) (by decide)) e2_ (rm_aget (by decide) e3_) ?_
      refine mx_iadd d_RM_proceed_66 ?_
      obtain ⟨e2_, e3_, h⟩ := h
      refine mx_iald d_RM_proceed_67 (k := 104) rfl (h9.2 0 (by decide) (by decide)) e2_ (rm_aget (by decide) e3_) ?_
      refine mx_bipush (v := 41) d_RM_proceed_68 (by decide) ?_
      refine mx_icmp_eq d_RM_proceed_70 (fun c9 => ?_) (fun c9 => ?_)
      · replace h := h.1 c9
        refine mx_iconst (v := 0) d_RM_proceed_77 (by decide) ?_
        refine mx_goto d_RM_proceed_78 ?_
        exact mx_sub [3, 2, 1, 0] rfl (mr_at h h9 f9)
      · replace h := h.2 c9
        refine mx_iconst (v := 1) d_RM_proceed_73 (by decide) ?_
        refine mx_goto d_RM_proceed_74 ?_
        exact mx_sub [3, 2, 1, 0] rfl (mr_at h h9 f9)
  · replace h := h.2 c9
    refine mx_aload_nR d_RM_proceed_29 rfl 3 rfl ?_
    refine mx_get d_RM_proceed_30 (ci := 6) (k := 15) (q := mx_cl0_6) (v := .ref (r + 13)) rfl (Nat.le_of_ble_eq_true rfl) kw_245 h9.1 rfl ?_
    refine mx_iload_n d_RM_proceed_33 rfl 2 rfl ?_
    obtain ⟨e2_, e3_, h⟩ := h
    refine mx_iald d_RM_proceed_34 (k := 104) rfl (h9.2 15 (by decide) (by decide)) e2_ (rm_aget (by decide) e3_) ?_
    refine mx_if_ne d_RM_proceed_35 (fun c9 => ?_) (fun c9 => ?_)
    · replace h := h.1 c9
      refine mx_iconst (v := 0) d_RM_proceed_42 (by decide) ?_
      refine mx_goto d_RM_proceed_43 ?_
      exact mx_sub [3, 2, 1, 0] rfl (mr_at h h9 f9)
    · replace h := h.2 c9
      refine mx_iconst (v := 1) d_RM_proceed_38 (by decide) ?_
      refine mx_goto d_RM_proceed_39 ?_
      exact mx_sub [3, 2, 1, 0] rfl (mr_at h h9 f9)
set_option maxRecDepth 100000 in
theorem wr_proceed_93 {l : Launch} {G : mx_G} {r d : Nat} {m : rm_M} {Q : Option Value → rm_M → Prop} (l1 : Int32) (l2 : Int32) (l3 : Int32) (h : (¬ l1 < 0 ∧ Int32.toNatClampNeg l1 < 100 ∧ ((¬ (m.1 15 (Int32.toNatClampNeg l1)) = 0 → mr_Ok l G r (d + 1) mm_RM_proceed 129 [(0, .ref r), (1, .int l1), (2, .int l2), (3, .int l3)] [.int 0] m Q) ∧ (¬ (¬ (m.1 15 (Int32.toNatClampNeg l1)) = 0) → mr_Ok l G r (d + 1) mm_RM_proceed 129 [(0, .ref r), (1, .int l1), (2, .int l2), (3, .int l3)] [.int 1] m Q)))) : mr_Ok l G r (d + 1) mm_RM_proceed 93 [(0, .ref r), (1, .int l1), (2, .int l2), (3, .int l3)] [] m Q := by
  refine mr_start (fun hs0 hs9 h9 f9 => ?_)
  refine mx_aload_nR d_RM_proceed_93 rfl 0 rfl ?_
  refine mx_get d_RM_proceed_94 (ci := 6) (k := 15) (q := mx_cl0_6) (v := .ref (r + 13)) rfl (Nat.le_of_ble_eq_true rfl) kw_245 h9.1 rfl ?_
  refine mx_iload_n d_RM_proceed_97 rfl 1 rfl ?_
  obtain ⟨e2_, e3_, h⟩ := h
  refine mx_iald d_RM_proceed_98 (k := 104) rfl (h9.2 15 (by decide) (by decide)) e2_ (rm_aget (by decide) e3_) ?_
  refine mx_if_ne d_RM_proceed_99 (fun c9 => ?_) (fun c9 => ?_)
  · replace h := h.1 c9
    refine mx_iconst (v := 0) d_RM_proceed_106 (by decide) ?_
    refine mx_goto d_RM_proceed_107 ?_
    exact mx_sub [0, 1, 2, 3] rfl (mr_at h h9 f9)
  · replace h := h.2 c9
    refine mx_iconst (v := 1) d_RM_proceed_102 (by decide) ?_
    refine mx_goto d_RM_proceed_103 ?_
    exact mx_sub [0, 1, 2, 3] rfl (mr_at h h9 f9)
set_option maxRecDepth 100000 in
theorem wr_proceed_129 {l : Launch} {G : mx_G} {r d : Nat} {m : rm_M} {Q : Option Value → rm_M → Prop} (l1 : Int32) (l2 : Int32) (l3 : Int32) (s0 : Int32) (h : ((s0 = 0 → (∀ m1 : rm_M, m1 = rs_s m 19 ((m.2.2.1 19) - 1) → (∀ m2 : rm_M, m2 = rs_s m1 17 0 → (¬ (l1 * 4) < 0 ∧ Int32.toNatClampNeg (l1 * 4) < 400 ∧ (∀ m3 : rm_M, m3 = rs_r m2 (m2.2.1 18 (Int32.toNatClampNeg (l1 * 4))) → mr_C l G r d mm_RM_name [.int l2] m3 (fun (r4 : Option Value) (m5 : rm_M) => ∃ x6 : Int32, r4 = some (.int x6) ∧ ((x6 = 0 → ((¬ l2 = 63 → ((¬ l2 = 68 → ((¬ l2 = 79 → ((l2 = 84 → Q none m5) ∧ (¬ (l2 = 84) → ((¬ l2 = 33 → mr_Ok l G r (d + 1) mm_RM_proceed 393 [(0, .ref r), (1, .int l1)] [] m5 Q) ∧ (¬ (¬ l2 = 33) → (¬ ((l1 * 4) + 1) < 0 ∧ Int32.toNatClampNeg ((l1 * 4) + 1) < 400 ∧ ∀ m7 : rm_M, m7 = rs_l m5 18 (Int32.toNatClampNeg ((l1 * 4) + 1)) 0 → mr_Ok l G r (d + 1) mm_RM_proceed 393 [(0, .ref r), (1, .int l1)] [] m7 Q)))))) ∧ (¬ (¬ l2 = 79) → mr_C l G r d mm_RM_order [.int l1] m5 (fun (r8 : Option Value) (m9 : rm_M) => r8 = none ∧ Q none m9)))) ∧ (¬ (¬ l2 = 68) → mr_C l G r d mm_RM_describe [.int l1] m5 (fun (r10 : Option Value) (m11 : rm_M) => r10 = none ∧ Q none m11)))) ∧ (¬ (¬ l2 = 63) → mr_C l G r d mm_RM_isNumber [.long m5.2.2.2] m5 (fun (r12 : Option Value) (m13 : rm_M) => ∃ x14 : Int32, r12 = some (.int x14) ∧ ((¬ x14 = 0 → ((m13.2.2.2 = 0 → (¬ l1 < 0 ∧ Int32.toNatClampNeg l1 < 100 ∧ mr_C l G r d mm_RM_behind [.int l3, .int (m13.1 14 (Int32.toNatClampNeg l1))] m13 (fun (r15 : Option Value) (m16 : rm_M) => ∃ x17 : Int32, r15 = some (.int x17) ∧ mr_Ok l G r (d + 1) mm_RM_proceed 336 [] [.int x17, .int l3, .ref r] m16 Q))) ∧ (¬ (m13.2.2.2 = 0) → (¬ l1 < 0 ∧ Int32.toNatClampNeg l1 < 100 ∧ mr_Ok l G r (d + 1) mm_RM_proceed 336 [] [.int (m13.1 14 (Int32.toNatClampNeg l1)), .int l3, .ref r] m13 Q)))) ∧ (¬ (¬ x14 = 0) → (∀ m18 : rm_M, m18 = rs_s m13 22 (-5) → Q none m18))))))) ∧ (¬ (x6 = 0) → (¬ (l2 - 97) < 0 ∧ Int32.toNatClampNeg (l2 - 97) < 9 ∧ ∀ m19 : rm_M, m19 = rs_l m5 2 (Int32.toNatClampNeg (l2 - 97)) m5.2.2.2 → (¬ (l2 - 97) < 0 ∧ Int32.toNatClampNeg (l2 - 97) < 9 ∧ ∀ m20 : rm_M, m20 = rs_i m19 3 (Int32.toNatClampNeg (l2 - 97)) 1 → (¬ (l2 - 97) < 0 ∧ Int32.toNatClampNeg (l2 - 97) < 8 ∧ ∀ m21 : rm_M, m21 = rs_i m20 5 (Int32.toNatClampNeg (l2 - 97)) 0 → Q none m21))))))))))) ∧ (¬ (s0 = 0) → mr_C l G r d mm_RM_name [.int l2] m (fun (r22 : Option Value) (m23 : rm_M) => ∃ x24 : Int32, r22 = some (.int x24) ∧ ((x24 = 0 → (¬ l1 < 0 ∧ Int32.toNatClampNeg l1 < 100 ∧ mr_Ok l G r (d + 1) mm_RM_proceed 154 [(0, .ref r), (1, .int l1), (2, .int l2), (3, .int l3)] [.int (m23.1 14 (Int32.toNatClampNeg l1))] m23 Q)) ∧ (¬ (x24 = 0) → mr_Ok l G r (d + 1) mm_RM_proceed 154 [(0, .ref r), (1, .int l1), (2, .int l2), (3, .int l3)] [.int 0] m23 Q)))))) : mr_Ok l G r (d + 1) mm_RM_proceed 129 [(0, .ref r), (1, .int l1), (2, .int l2), (3, .int l3)] [.int s0] m Q := by
  refine mr_start (fun hs0 hs9 h9 f9 => ?_)
  refine mx_istore (lv2 := [(4, .int s0), (0, .ref r), (1, .int l1), (2, .int l2), (3, .int l3)]) d_RM_proceed_129 (Nat.le_of_ble_eq_true rfl) rfl ?_
  refine mx_iload d_RM_proceed_131 0 rfl ?_
  refine mx_if_eq d_RM_proceed_133 (fun c9 => ?_) (fun c9 => ?_)
  · replace h := h.1 c9
    refine mx_aload_nR d_RM_proceed_208 rfl 1 rfl ?_
    refine mx_dup d_RM_proceed_209 rfl ?_
    refine mx_get d_RM_proceed_210 (ci := 6) (k := 19) (q := mx_cl0_6) (v := .int (m.2.2.1 19)) rfl (Nat.le_of_ble_eq_true rfl) kw_294 h9.1 rfl ?_
    refine mx_iconst (v := 1) d_RM_proceed_213 (by decide) ?_
    refine mx_isub d_RM_proceed_214 ?_
    refine mx_put d_RM_proceed_215 (ci := 6) (k := 19) (q := mx_cl0_6) (ty := .int) rfl (Nat.le_of_ble_eq_true rfl) kw_294 rfl (by decide +kernel) rfl rfl (by omega) h9.1 ?_
    have f9 := mr_frs f9 h9.1 (x := (6, ((List.range 36).map (rm_fv r m)).set 19 (.int ((m.2.2.1 19) - 1)))) rfl
    have h9 := rm_puts h9 19 ((m.2.2.1 19) - 1) (by decide) (by decide) (by decide)
    replace h := h _ rfl
    generalize mx_st _ r (6, ((List.range 36).map (rm_fv r m)).set 19 (.int ((m.2.2.1 19) - 1))) = hs9 at h9 f9 ⊢
    generalize rs_s m 19 ((m.2.2.1 19) - 1) = m1 at h9 h
    refine mx_aload_nR d_RM_proceed_218 rfl 1 rfl ?_
    refine mx_iconst (v := 0) d_RM_proceed_219 (by decide) ?_
    refine mx_put d_RM_proceed_220 (ci := 6) (k := 17) (q := mx_cl0_6) (ty := .boolean) rfl (Nat.le_of_ble_eq_true rfl) kw_287 rfl (by decide +kernel) (mx_nz (Or.inl rfl)) (mx_fz (Or.inl rfl)) (by omega) h9.1 ?_
    have f9 := mr_frs f9 h9.1 (x := (6, ((List.range 36).map (rm_fv r m1)).set 17 (.int 0))) rfl
    have h9 := rm_puts h9 17 0 (by decide) (by decide) (by decide)
    replace h := h _ rfl
    generalize mx_st _ r (6, ((List.range 36).map (rm_fv r m1)).set 17 (.int 0)) = hs9 at h9 f9 ⊢
    generalize rs_s m1 17 0 = m2 at h9 h
    refine mx_aload_nR d_RM_proceed_223 rfl 1 rfl ?_
    refine mx_aload_nR d_RM_proceed_224 rfl 1 rfl ?_
    refine mx_get d_RM_proceed_225 (ci := 6) (k := 18) (q := mx_cl0_6) (v := .ref (r + 15)) rfl (Nat.le_of_ble_eq_true rfl) kw_247 h9.1 rfl ?_
    refine mx_iload_n d_RM_proceed_228 rfl 2 rfl ?_
    refine mx_iconst (v := 4) d_RM_proceed_229 (by decide) ?_
    refine mx_imul d_RM_proceed_230 ?_
    obtain ⟨e2_, e3_, h⟩ := h
    refine mx_lald d_RM_proceed_231 (k := 106) rfl (h9.2 18 (by decide) (by decide)) e2_ (rm_agetl (by decide) e3_) ?_
    refine mx_put d_RM_proceed_232 (ci := 6) (k := 23) (q := mx_cl0_6) (ty := .long) rfl (Nat.le_of_ble_eq_true rfl) kw_292 rfl (by decide +kernel) rfl rfl (by omega) h9.1 ?_
    have f9 := mr_frs f9 h9.1 (x := (6, ((List.range 36).map (rm_fv r m2)).set 23 (.long (m2.2.1 18 (Int32.toNatClampNeg (l1 * 4)))))) rfl
    have h9 := rm_putr h9 (m2.2.1 18 (Int32.toNatClampNeg (l1 * 4)))
    replace h := h _ rfl
    generalize mx_st _ r (6, ((List.range 36).map (rm_fv r m2)).set 23 (.long (m2.2.1 18 (Int32.toNatClampNeg (l1 * 4))))) = hs9 at h9 f9 ⊢
    generalize rs_r m2 (m2.2.1 18 (Int32.toNatClampNeg (l1 * 4))) = m3 at h9 h
    refine mx_aload_nR d_RM_proceed_235 rfl 1 rfl ?_
    refine mx_iload_n d_RM_proceed_236 rfl 3 rfl ?_
    refine mx_invV (Y := mm_RM_name) (As := [.int l2]) (rest := []) d_RM_proceed_237.1 ok_RM_name kw_261 kw_262 kw_263 rfl rfl (Nat.le_of_ble_eq_true rfl) (Nat.le_of_ble_eq_true rfl) h9.1 (q := mx_cl0_6) rfl rfl (h _ h9) (fun r4 hs8 h => ?_)
    obtain ⟨m5, h9, f8, z8, h⟩ := h
    obtain ⟨x6, e9_, h⟩ := h
    subst e9_
    have f9 := mr_frc f9 f8 z8
    clear f8 z8
    show mx_Ok mx_S0 l G (d + 1) mm_RM_proceed 240 [(4, .int s0), (0, .ref r), (1, .int l1), (2, .int l2), (3, .int l3)] [.int x6] hs8 _
    refine mx_if_eq d_RM_proceed_240 (fun c9 => ?_) (fun c9 => ?_)
    · replace h := h.1 c9
      refine mx_iload_n d_RM_proceed_279 rfl 3 rfl ?_
      refine mx_bipush (v := 63) d_RM_proceed_280 (by decide) ?_
      refine mx_icmp_ne d_RM_proceed_282 (fun c9 => ?_) (fun c9 => ?_)
      · replace h := h.1 c9
        refine mx_iload_n d_RM_proceed_342 rfl 3 rfl ?_
        refine mx_bipush (v := 68) d_RM_proceed_343 (by decide) ?_
        refine mx_icmp_ne d_RM_proceed_345 (fun c9 => ?_) (fun c9 => ?_)
        · replace h := h.1 c9
          refine mx_iload_n d_RM_proceed_356 rfl 3 rfl ?_
          refine mx_bipush (v := 79) d_RM_proceed_357 (by decide) ?_
          refine mx_icmp_ne d_RM_proceed_359 (fun c9 => ?_) (fun c9 => ?_)
          · replace h := h.1 c9
            refine mx_iload_n d_RM_proceed_370 rfl 3 rfl ?_
            refine mx_bipush (v := 84) d_RM_proceed_371 (by decide) ?_
            refine mx_icmp_eq d_RM_proceed_373 (fun c9 => ?_) (fun c9 => ?_)
            · replace h := h.1 c9
              exact mx_return d_RM_proceed_398 rfl ⟨_, h9, f9.1, f9.2, h⟩
            · replace h := h.2 c9
              refine mx_iload_n d_RM_proceed_376 rfl 3 rfl ?_
              refine mx_bipush (v := 33) d_RM_proceed_377 (by decide) ?_
              refine mx_icmp_ne d_RM_proceed_379 (fun c9 => ?_) (fun c9 => ?_)
              · replace h := h.1 c9
                exact mx_sub [1, 2] rfl (mr_at h h9 f9)
              · replace h := h.2 c9
                refine mx_aload_nR d_RM_proceed_382 rfl 1 rfl ?_
                refine mx_get d_RM_proceed_383 (ci := 6) (k := 18) (q := mx_cl0_6) (v := .ref (r + 15)) rfl (Nat.le_of_ble_eq_true rfl) kw_247 h9.1 rfl ?_
                refine mx_iload_n d_RM_proceed_386 rfl 2 rfl ?_
                refine mx_iconst (v := 4) d_RM_proceed_387 (by decide) ?_
                refine mx_imul d_RM_proceed_388 ?_
                refine mx_iconst (v := 1) d_RM_proceed_389 (by decide) ?_
                refine mx_iadd d_RM_proceed_390 ?_
                refine mx_lconst (v := 0) d_RM_proceed_391 rfl ?_
                obtain ⟨e2_, e3_, h⟩ := h
                refine mx_last d_RM_proceed_392 (k := 106) rfl (by decide) (by omega) (h9.2 18 (by decide) (by decide)) e2_ (rm_alt e3_) ?_
                have f9 : mr_F hs0 (mx_st _ (r + 15) (106, (rm_av m5 18).set (Int32.toNatClampNeg ((l1 * 4) + 1)) (.long 0))) := mr_frs f9 (h9.2 18 (by decide) (by decide)) rfl
                have h9 : rm_ob (mx_st _ (r + 15) (106, (rm_av m5 18).set (Int32.toNatClampNeg ((l1 * 4) + 1)) (.long 0))) r (rs_l m5 18 (Int32.toNatClampNeg ((l1 * 4) + 1)) 0) := rm_aputl h9 18 (Int32.toNatClampNeg ((l1 * 4) + 1)) 0 (by decide) (by decide)
                replace h := h _ rfl
                generalize mx_st _ (r + 15) (106, (rm_av m5 18).set (Int32.toNatClampNeg ((l1 * 4) + 1)) (.long 0)) = hs9 at h9 f9 ⊢
                generalize rs_l m5 18 (Int32.toNatClampNeg ((l1 * 4) + 1)) 0 = m7 at h9 h
                exact mx_sub [1, 2] rfl (mr_at h h9 f9)
          · replace h := h.2 c9
            refine mx_aload_nR d_RM_proceed_362 rfl 1 rfl ?_
            refine mx_iload_n d_RM_proceed_363 rfl 2 rfl ?_
            refine mx_invV (Y := mm_RM_order) (As := [.int l1]) (rest := []) d_RM_proceed_364.1 ok_RM_order kw_304 kw_305 kw_306 rfl rfl (Nat.le_of_ble_eq_true rfl) (Nat.le_of_ble_eq_true rfl) h9.1 (q := mx_cl0_6) rfl rfl (h _ h9) (fun r8 hs8 h => ?_)
            obtain ⟨m9, h9, f8, z8, h⟩ := h
            obtain ⟨e9_, h⟩ := h
            subst e9_
            have f9 := mr_frc f9 f8 z8
            clear f8 z8
            show mx_Ok mx_S0 l G (d + 1) mm_RM_proceed 367 [(4, .int s0), (0, .ref r), (1, .int l1), (2, .int l2), (3, .int l3)] [] hs8 _
            refine mx_goto d_RM_proceed_367 ?_
            exact mx_return d_RM_proceed_398 rfl ⟨_, h9, f9.1, f9.2, h⟩
        · replace h := h.2 c9
          refine mx_aload_nR d_RM_proceed_348 rfl 1 rfl ?_
          refine mx_iload_n d_RM_proceed_349 rfl 2 rfl ?_
          refine mx_invV (Y := mm_RM_describe) (As := [.int l1]) (rest := []) d_RM_proceed_350.1 ok_RM_describe kw_307 kw_308 kw_309 rfl rfl (Nat.le_of_ble_eq_true rfl) (Nat.le_of_ble_eq_true rfl) h9.1 (q := mx_cl0_6) rfl rfl (h _ h9) (fun r10 hs8 h => ?_)
          obtain ⟨m11, h9, f8, z8, h⟩ := h
          obtain ⟨e9_, h⟩ := h
          subst e9_
          have f9 := mr_frc f9 f8 z8
          clear f8 z8
          show mx_Ok mx_S0 l G (d + 1) mm_RM_proceed 353 [(4, .int s0), (0, .ref r), (1, .int l1), (2, .int l2), (3, .int l3)] [] hs8 _
          refine mx_goto d_RM_proceed_353 ?_
          exact mx_return d_RM_proceed_398 rfl ⟨_, h9, f9.1, f9.2, h⟩
      · replace h := h.2 c9
        refine mx_aload_nR d_RM_proceed_285 rfl 1 rfl ?_
        refine mx_aload_nR d_RM_proceed_286 rfl 1 rfl ?_
        refine mx_get d_RM_proceed_287 (ci := 6) (k := 23) (q := mx_cl0_6) (v := .long m5.2.2.2) rfl (Nat.le_of_ble_eq_true rfl) kw_292 h9.1 rfl ?_
        refine mx_invV (Y := mm_RM_isNumber) (As := [.long m5.2.2.2]) (rest := []) d_RM_proceed_290.1 ok_RM_isNumber kw_296 kw_297 kw_298 rfl rfl (Nat.le_of_ble_eq_true rfl) (Nat.le_of_ble_eq_true rfl) h9.1 (q := mx_cl0_6) rfl rfl (h _ h9) (fun r12 hs8 h => ?_)
        obtain ⟨m13, h9, f8, z8, h⟩ := h
        obtain ⟨x14, e9_, h⟩ := h
        subst e9_
        have f9 := mr_frc f9 f8 z8
        clear f8 z8
        show mx_Ok mx_S0 l G (d + 1) mm_RM_proceed 293 [(4, .int s0), (0, .ref r), (1, .int l1), (2, .int l2), (3, .int l3)] [.int x14] hs8 _
        refine mx_if_ne d_RM_proceed_293 (fun c9 => ?_) (fun c9 => ?_)
        · replace h := h.1 c9
          refine mx_aload_nR d_RM_proceed_305 rfl 1 rfl ?_
          refine mx_iload_n d_RM_proceed_306 rfl 4 rfl ?_
          refine mx_aload_nR d_RM_proceed_307 rfl 1 rfl ?_
          refine mx_get d_RM_proceed_308 (ci := 6) (k := 23) (q := mx_cl0_6) (v := .long m13.2.2.2) rfl (Nat.le_of_ble_eq_true rfl) kw_292 h9.1 rfl ?_
          refine mx_lconst (v := 0) d_RM_proceed_311 rfl ?_
          refine mx_lcmp d_RM_proceed_312 ?_
          refine mx_if_eq d_RM_proceed_313 (fun c9 => ?_) (fun c9 => ?_)
          · replace h := h.1 ((lg_cmp_eq _ _).mp c9)
            refine mx_aload_nR d_RM_proceed_325 rfl 1 rfl ?_
            refine mx_iload_n d_RM_proceed_326 rfl 4 rfl ?_
            refine mx_aload_nR d_RM_proceed_327 rfl 1 rfl ?_
            refine mx_get d_RM_proceed_328 (ci := 6) (k := 14) (q := mx_cl0_6) (v := .ref (r + 12)) rfl (Nat.le_of_ble_eq_true rfl) kw_244 h9.1 rfl ?_
            refine mx_iload_n d_RM_proceed_331 rfl 2 rfl ?_
            obtain ⟨e2_, e3_, h⟩ := h
            refine mx_iald d_RM_proceed_332 (k := 104) rfl (h9.2 14 (by decide) (by decide)) e2_ (rm_aget (by decide) e3_) ?_
            refine mx_invV (Y := mm_RM_behind) (As := [.int l3, .int (m13.1 14 (Int32.toNatClampNeg l1))]) (rest := [.int l3, .ref r]) d_RM_proceed_333.1 ok_RM_behind kw_310 kw_311 kw_312 rfl rfl (Nat.le_of_ble_eq_true rfl) (Nat.le_of_ble_eq_true rfl) h9.1 (q := mx_cl0_6) rfl rfl (h _ h9) (fun r15 hs8 h => ?_)
            obtain ⟨m16, h9, f8, z8, h⟩ := h
            obtain ⟨x17, e9_, h⟩ := h
            subst e9_
            have f9 := mr_frc f9 f8 z8
            clear f8 z8
            show mx_Ok mx_S0 l G (d + 1) mm_RM_proceed 336 [(4, .int s0), (0, .ref r), (1, .int l1), (2, .int l2), (3, .int l3)] [.int x17, .int l3, .ref r] hs8 _
            exact mx_sub [] rfl (mr_at h h9 f9)
          · replace h := h.2 (fun z9 => c9 ((lg_cmp_eq _ _).mpr z9))
            refine mx_aload_nR d_RM_proceed_316 rfl 1 rfl ?_
            refine mx_get d_RM_proceed_317 (ci := 6) (k := 14) (q := mx_cl0_6) (v := .ref (r + 12)) rfl (Nat.le_of_ble_eq_true rfl) kw_244 h9.1 rfl ?_
            refine mx_iload_n d_RM_proceed_320 rfl 2 rfl ?_
            obtain ⟨e2_, e3_, h⟩ := h
            refine mx_iald d_RM_proceed_321 (k := 104) rfl (h9.2 14 (by decide) (by decide)) e2_ (rm_aget (by decide) e3_) ?_
            refine mx_goto d_RM_proceed_322 ?_
            exact mx_sub [] rfl (mr_at h h9 f9)
        · replace h := h.2 c9
          refine mx_aload_nR d_RM_proceed_296 rfl 1 rfl ?_
          refine mx_bipush (v := (-5)) d_RM_proceed_297 (by decide) ?_
          refine mx_put d_RM_proceed_299 (ci := 6) (k := 22) (q := mx_cl0_6) (ty := .int) rfl (Nat.le_of_ble_eq_true rfl) kw_293 rfl (by decide +kernel) rfl rfl (by omega) h9.1 ?_
          have f9 := mr_frs f9 h9.1 (x := (6, ((List.range 36).map (rm_fv r m13)).set 22 (.int (-5)))) rfl
          have h9 := rm_puts h9 22 (-5) (by decide) (by decide) (by decide)
          replace h := h _ rfl
          generalize mx_st _ r (6, ((List.range 36).map (rm_fv r m13)).set 22 (.int (-5))) = hs9 at h9 f9 ⊢
          generalize rs_s m13 22 (-5) = m18 at h9 h
          refine mx_goto d_RM_proceed_302 ?_
          exact mx_return d_RM_proceed_398 rfl ⟨_, h9, f9.1, f9.2, h⟩
    · replace h := h.2 c9
      refine mx_aload_nR d_RM_proceed_243 rfl 1 rfl ?_
      refine mx_get d_RM_proceed_244 (ci := 6) (k := 2) (q := mx_cl0_6) (v := .ref (r + 3)) rfl (Nat.le_of_ble_eq_true rfl) kw_233 h9.1 rfl ?_
      refine mx_iload_n d_RM_proceed_247 rfl 3 rfl ?_
      refine mx_bipush (v := 97) d_RM_proceed_248 (by decide) ?_
      refine mx_isub d_RM_proceed_250 ?_
      refine mx_aload_nR d_RM_proceed_251 rfl 1 rfl ?_
      refine mx_get d_RM_proceed_252 (ci := 6) (k := 23) (q := mx_cl0_6) (v := .long m5.2.2.2) rfl (Nat.le_of_ble_eq_true rfl) kw_292 h9.1 rfl ?_
      obtain ⟨e2_, e3_, h⟩ := h
      refine mx_last d_RM_proceed_255 (k := 106) rfl (by decide) (by omega) (h9.2 2 (by decide) (by decide)) e2_ (rm_alt e3_) ?_
      have f9 : mr_F hs0 (mx_st _ (r + 3) (106, (rm_av m5 2).set (Int32.toNatClampNeg (l2 - 97)) (.long m5.2.2.2))) := mr_frs f9 (h9.2 2 (by decide) (by decide)) rfl
      have h9 : rm_ob (mx_st _ (r + 3) (106, (rm_av m5 2).set (Int32.toNatClampNeg (l2 - 97)) (.long m5.2.2.2))) r (rs_l m5 2 (Int32.toNatClampNeg (l2 - 97)) m5.2.2.2) := rm_aputl h9 2 (Int32.toNatClampNeg (l2 - 97)) m5.2.2.2 (by decide) (by decide)
      replace h := h _ rfl
      generalize mx_st _ (r + 3) (106, (rm_av m5 2).set (Int32.toNatClampNeg (l2 - 97)) (.long m5.2.2.2)) = hs9 at h9 f9 ⊢
      generalize rs_l m5 2 (Int32.toNatClampNeg (l2 - 97)) m5.2.2.2 = m19 at h9 h
      refine mx_aload_nR d_RM_proceed_256 rfl 1 rfl ?_
      refine mx_get d_RM_proceed_257 (ci := 6) (k := 3) (q := mx_cl0_6) (v := .ref (r + 4)) rfl (Nat.le_of_ble_eq_true rfl) kw_235 h9.1 rfl ?_
      refine mx_iload_n d_RM_proceed_260 rfl 3 rfl ?_
      refine mx_bipush (v := 97) d_RM_proceed_261 (by decide) ?_
      refine mx_isub d_RM_proceed_263 ?_
      refine mx_iconst (v := 1) d_RM_proceed_264 (by decide) ?_
      obtain ⟨e2_, e3_, h⟩ := h
      refine mx_zast d_RM_proceed_265 (k := 107) rfl (by decide) (by omega) (Or.inr rfl) (h9.2 3 (by decide) (by decide)) e2_ (rm_alt e3_) ?_
      have f9 : mr_F hs0 (mx_st _ (r + 4) (107, (rm_av m19 3).set (Int32.toNatClampNeg (l2 - 97)) (.int 1))) := mr_frs f9 (h9.2 3 (by decide) (by decide)) rfl
      have h9 : rm_ob (mx_st _ (r + 4) (107, (rm_av m19 3).set (Int32.toNatClampNeg (l2 - 97)) (.int 1))) r (rs_i m19 3 (Int32.toNatClampNeg (l2 - 97)) 1) := rm_aput h9 3 (Int32.toNatClampNeg (l2 - 97)) 1 (by decide) (by decide)
      replace h := h _ rfl
      generalize mx_st _ (r + 4) (107, (rm_av m19 3).set (Int32.toNatClampNeg (l2 - 97)) (.int 1)) = hs9 at h9 f9 ⊢
      generalize rs_i m19 3 (Int32.toNatClampNeg (l2 - 97)) 1 = m20 at h9 h
      refine mx_aload_nR d_RM_proceed_266 rfl 1 rfl ?_
      refine mx_get d_RM_proceed_267 (ci := 6) (k := 5) (q := mx_cl0_6) (v := .ref (r + 6)) rfl (Nat.le_of_ble_eq_true rfl) kw_237 h9.1 rfl ?_
      refine mx_iload_n d_RM_proceed_270 rfl 3 rfl ?_
      refine mx_bipush (v := 97) d_RM_proceed_271 (by decide) ?_
      refine mx_isub d_RM_proceed_273 ?_
      refine mx_iconst (v := 0) d_RM_proceed_274 (by decide) ?_
      obtain ⟨e2_, e3_, h⟩ := h
      refine mx_zast d_RM_proceed_275 (k := 107) rfl (by decide) (by omega) (Or.inl rfl) (h9.2 5 (by decide) (by decide)) e2_ (rm_alt e3_) ?_
      have f9 : mr_F hs0 (mx_st _ (r + 6) (107, (rm_av m20 5).set (Int32.toNatClampNeg (l2 - 97)) (.int 0))) := mr_frs f9 (h9.2 5 (by decide) (by decide)) rfl
      have h9 : rm_ob (mx_st _ (r + 6) (107, (rm_av m20 5).set (Int32.toNatClampNeg (l2 - 97)) (.int 0))) r (rs_i m20 5 (Int32.toNatClampNeg (l2 - 97)) 0) := rm_aput h9 5 (Int32.toNatClampNeg (l2 - 97)) 0 (by decide) (by decide)
      replace h := h _ rfl
      generalize mx_st _ (r + 6) (107, (rm_av m20 5).set (Int32.toNatClampNeg (l2 - 97)) (.int 0)) = hs9 at h9 f9 ⊢
      generalize rs_i m20 5 (Int32.toNatClampNeg (l2 - 97)) 0 = m21 at h9 h
      refine mx_goto d_RM_proceed_276 ?_
      exact mx_return d_RM_proceed_398 rfl ⟨_, h9, f9.1, f9.2, h⟩
  · replace h := h.2 c9
    refine mx_aload_nR d_RM_proceed_136 rfl 1 rfl ?_
    refine mx_iload_n d_RM_proceed_137 rfl 3 rfl ?_
    refine mx_invV (Y := mm_RM_name) (As := [.int l2]) (rest := []) d_RM_proceed_138.1 ok_RM_name kw_261 kw_262 kw_263 rfl rfl (Nat.le_of_ble_eq_true rfl) (Nat.le_of_ble_eq_true rfl) h9.1 (q := mx_cl0_6) rfl rfl (h _ h9) (fun r22 hs8 h => ?_)
    obtain ⟨m23, h9, f8, z8, h⟩ := h
    obtain ⟨x24, e9_, h⟩ := h
    subst e9_
    have f9 := mr_frc f9 f8 z8
    clear f8 z8
    show mx_Ok mx_S0 l G (d + 1) mm_RM_proceed 141 [(4, .int s0), (0, .ref r), (1, .int l1), (2, .int l2), (3, .int l3)] [.int x24] hs8 _
    refine mx_if_eq d_RM_proceed_141 (fun c9 => ?_) (fun c9 => ?_)
    · replace h := h.1 c9
      refine mx_aload_nR d_RM_proceed_148 rfl 1 rfl ?_
      refine mx_get d_RM_proceed_149 (ci := 6) (k := 14) (q := mx_cl0_6) (v := .ref (r + 12)) rfl (Nat.le_of_ble_eq_true rfl) kw_244 h9.1 rfl ?_
      refine mx_iload_n d_RM_proceed_152 rfl 2 rfl ?_
      obtain ⟨e2_, e3_, h⟩ := h
      refine mx_iald d_RM_proceed_153 (k := 104) rfl (h9.2 14 (by decide) (by decide)) e2_ (rm_aget (by decide) e3_) ?_
      exact mx_sub [1, 2, 3, 4] rfl (mr_at h h9 f9)
    · replace h := h.2 c9
      refine mx_iconst (v := 0) d_RM_proceed_144 (by decide) ?_
      refine mx_goto d_RM_proceed_145 ?_
      exact mx_sub [1, 2, 3, 4] rfl (mr_at h h9 f9)
set_option maxRecDepth 100000 in
theorem wr_proceed_154 {l : Launch} {G : mx_G} {r d : Nat} {m : rm_M} {Q : Option Value → rm_M → Prop} (l1 : Int32) (l2 : Int32) (l3 : Int32) (s0 : Int32) (h : mr_C l G r d mm_RM_name [.int l2] m (fun (r1 : Option Value) (m2 : rm_M) => ∃ x3 : Int32, r1 = some (.int x3) ∧ ((x3 = 0 → mr_Ok l G r (d + 1) mm_RM_proceed 172 [(0, .ref r), (1, .int l1), (2, .int l2), (3, .int l3), (5, .int s0)] [.int l3] m2 Q) ∧ (¬ (x3 = 0) → mr_Ok l G r (d + 1) mm_RM_proceed 172 [(0, .ref r), (1, .int l1), (2, .int l2), (3, .int l3), (5, .int s0)] [.int (l2 - 97)] m2 Q)))) : mr_Ok l G r (d + 1) mm_RM_proceed 154 [(0, .ref r), (1, .int l1), (2, .int l2), (3, .int l3)] [.int s0] m Q := by
  refine mr_start (fun hs0 hs9 h9 f9 => ?_)
  refine mx_istore (lv2 := [(5, .int s0), (0, .ref r), (1, .int l1), (2, .int l2), (3, .int l3)]) d_RM_proceed_154 (Nat.le_of_ble_eq_true rfl) rfl ?_
  refine mx_aload_nR d_RM_proceed_156 rfl 1 rfl ?_
  refine mx_iload_n d_RM_proceed_157 rfl 3 rfl ?_
  refine mx_invV (Y := mm_RM_name) (As := [.int l2]) (rest := []) d_RM_proceed_158.1 ok_RM_name kw_261 kw_262 kw_263 rfl rfl (Nat.le_of_ble_eq_true rfl) (Nat.le_of_ble_eq_true rfl) h9.1 (q := mx_cl0_6) rfl rfl (h _ h9) (fun r1 hs8 h => ?_)
  obtain ⟨m2, h9, f8, z8, h⟩ := h
  obtain ⟨x3, e9_, h⟩ := h
  subst e9_
  have f9 := mr_frc f9 f8 z8
  clear f8 z8
  show mx_Ok mx_S0 l G (d + 1) mm_RM_proceed 161 [(5, .int s0), (0, .ref r), (1, .int l1), (2, .int l2), (3, .int l3)] [.int x3] hs8 _
  refine mx_if_eq d_RM_proceed_161 (fun c9 => ?_) (fun c9 => ?_)
  · replace h := h.1 c9
    refine mx_iload_n d_RM_proceed_171 rfl 4 rfl ?_
    exact mx_sub [1, 2, 3, 4, 0] rfl (mr_at h h9 f9)
  · replace h := h.2 c9
    refine mx_iload_n d_RM_proceed_164 rfl 3 rfl ?_
    refine mx_bipush (v := 97) d_RM_proceed_165 (by decide) ?_
    refine mx_isub d_RM_proceed_167 ?_
    refine mx_goto d_RM_proceed_168 ?_
    exact mx_sub [1, 2, 3, 4, 0] rfl (mr_at h h9 f9)
set_option maxRecDepth 100000 in
theorem wr_proceed_172 {l : Launch} {G : mx_G} {r d : Nat} {m : rm_M} {Q : Option Value → rm_M → Prop} (l1 : Int32) (l2 : Int32) (l3 : Int32) (l5 : Int32) (s0 : Int32) (h : mr_C l G r d mm_RM_name [.int l2] m (fun (r1 : Option Value) (m2 : rm_M) => ∃ x3 : Int32, r1 = some (.int x3) ∧ ((x3 = 0 → mr_C l G r d mm_RM_behind [.int l3, .int l5] m2 (fun (r4 : Option Value) (m5 : rm_M) => ∃ x6 : Int32, r4 = some (.int x6) ∧ mr_Ok l G r (d + 1) mm_RM_proceed 198 [(0, .ref r), (5, .int l5), (6, .int s0)] [.int x6, .int l1, .ref (r + 12)] m5 Q)) ∧ (¬ (x3 = 0) → mr_Ok l G r (d + 1) mm_RM_proceed 198 [(0, .ref r), (5, .int l5), (6, .int s0)] [.int 0, .int l1, .ref (r + 12)] m2 Q)))) : mr_Ok l G r (d + 1) mm_RM_proceed 172 [(0, .ref r), (1, .int l1), (2, .int l2), (3, .int l3), (5, .int l5)] [.int s0] m Q := by
  refine mr_start (fun hs0 hs9 h9 f9 => ?_)
  refine mx_istore (lv2 := [(6, .int s0), (0, .ref r), (1, .int l1), (2, .int l2), (3, .int l3), (5, .int l5)]) d_RM_proceed_172 (Nat.le_of_ble_eq_true rfl) rfl ?_
  refine mx_aload_nR d_RM_proceed_174 rfl 1 rfl ?_
  refine mx_get d_RM_proceed_175 (ci := 6) (k := 14) (q := mx_cl0_6) (v := .ref (r + 12)) rfl (Nat.le_of_ble_eq_true rfl) kw_244 h9.1 rfl ?_
  refine mx_iload_n d_RM_proceed_178 rfl 2 rfl ?_
  refine mx_aload_nR d_RM_proceed_179 rfl 1 rfl ?_
  refine mx_iload_n d_RM_proceed_180 rfl 3 rfl ?_
  refine mx_invV (Y := mm_RM_name) (As := [.int l2]) (rest := [.int l1, .ref (r + 12)]) d_RM_proceed_181.1 ok_RM_name kw_261 kw_262 kw_263 rfl rfl (Nat.le_of_ble_eq_true rfl) (Nat.le_of_ble_eq_true rfl) h9.1 (q := mx_cl0_6) rfl rfl (h _ h9) (fun r1 hs8 h => ?_)
  obtain ⟨m2, h9, f8, z8, h⟩ := h
  obtain ⟨x3, e9_, h⟩ := h
  subst e9_
  have f9 := mr_frc f9 f8 z8
  clear f8 z8
  show mx_Ok mx_S0 l G (d + 1) mm_RM_proceed 184 [(6, .int s0), (0, .ref r), (1, .int l1), (2, .int l2), (3, .int l3), (5, .int l5)] [.int x3, .int l1, .ref (r + 12)] hs8 _
  refine mx_if_eq d_RM_proceed_184 (fun c9 => ?_) (fun c9 => ?_)
  · replace h := h.1 c9
    refine mx_aload_nR d_RM_proceed_191 rfl 1 rfl ?_
    refine mx_iload_n d_RM_proceed_192 rfl 4 rfl ?_
    refine mx_iload d_RM_proceed_193 5 rfl ?_
    refine mx_invV (Y := mm_RM_behind) (As := [.int l3, .int l5]) (rest := [.int l1, .ref (r + 12)]) d_RM_proceed_195.1 ok_RM_behind kw_310 kw_311 kw_312 rfl rfl (Nat.le_of_ble_eq_true rfl) (Nat.le_of_ble_eq_true rfl) h9.1 (q := mx_cl0_6) rfl rfl (h _ h9) (fun r4 hs8 h => ?_)
    obtain ⟨m5, h9, f8, z8, h⟩ := h
    obtain ⟨x6, e9_, h⟩ := h
    subst e9_
    have f9 := mr_frc f9 f8 z8
    clear f8 z8
    show mx_Ok mx_S0 l G (d + 1) mm_RM_proceed 198 [(6, .int s0), (0, .ref r), (1, .int l1), (2, .int l2), (3, .int l3), (5, .int l5)] [.int x6, .int l1, .ref (r + 12)] hs8 _
    exact mx_sub [1, 5, 0] rfl (mr_at h h9 f9)
  · replace h := h.2 c9
    refine mx_iconst (v := 0) d_RM_proceed_187 (by decide) ?_
    refine mx_goto d_RM_proceed_188 ?_
    exact mx_sub [1, 5, 0] rfl (mr_at h h9 f9)
set_option maxRecDepth 100000 in
theorem wr_proceed_198 {l : Launch} {G : mx_G} {r d : Nat} {m : rm_M} {Q : Option Value → rm_M → Prop} (l5 : Int32) (l6 : Int32) (s1 : Int32) (s2 : Int32) (h : (¬ s1 < 0 ∧ Int32.toNatClampNeg s1 < 100 ∧ ∀ m1 : rm_M, m1 = rs_i m 14 (Int32.toNatClampNeg s1) s2 → mr_C l G r d mm_RM_begin [.int l6, .int l5] m1 (fun (r2 : Option Value) (m3 : rm_M) => r2 = none ∧ Q none m3))) : mr_Ok l G r (d + 1) mm_RM_proceed 198 [(0, .ref r), (5, .int l5), (6, .int l6)] [.int s2, .int s1, .ref (r + 12)] m Q := by
  refine mr_start (fun hs0 hs9 h9 f9 => ?_)
  obtain ⟨e2_, e3_, h⟩ := h
  refine mx_iast d_RM_proceed_198 (k := 104) rfl (by decide) (by omega) (h9.2 14 (by decide) (by decide)) e2_ (rm_alt e3_) ?_
  have f9 : mr_F hs0 (mx_st _ (r + 12) (104, (rm_av m 14).set (Int32.toNatClampNeg s1) (.int s2))) := mr_frs f9 (h9.2 14 (by decide) (by decide)) rfl
  have h9 : rm_ob (mx_st _ (r + 12) (104, (rm_av m 14).set (Int32.toNatClampNeg s1) (.int s2))) r (rs_i m 14 (Int32.toNatClampNeg s1) s2) := rm_aput h9 14 (Int32.toNatClampNeg s1) s2 (by decide) (by decide)
  replace h := h _ rfl
  generalize mx_st _ (r + 12) (104, (rm_av m 14).set (Int32.toNatClampNeg s1) (.int s2)) = hs9 at h9 f9 ⊢
  generalize rs_i m 14 (Int32.toNatClampNeg s1) s2 = m1 at h9 h
  refine mx_aload_nR d_RM_proceed_199 rfl 0 rfl ?_
  refine mx_iload d_RM_proceed_200 2 rfl ?_
  refine mx_iload d_RM_proceed_202 1 rfl ?_
  refine mx_invV (Y := mm_RM_begin) (As := [.int l6, .int l5]) (rest := []) d_RM_proceed_204.1 ok_RM_begin kw_313 kw_314 kw_315 rfl rfl (Nat.le_of_ble_eq_true rfl) (Nat.le_of_ble_eq_true rfl) h9.1 (q := mx_cl0_6) rfl rfl (h _ h9) (fun r2 hs8 h => ?_)
  obtain ⟨m3, h9, f8, z8, h⟩ := h
  obtain ⟨e9_, h⟩ := h
  subst e9_
  have f9 := mr_frc f9 f8 z8
  clear f8 z8
  show mx_Ok mx_S0 l G (d + 1) mm_RM_proceed 207 [(0, .ref r), (5, .int l5), (6, .int l6)] [] hs8 _
  exact mx_return d_RM_proceed_207 rfl ⟨_, h9, f9.1, f9.2, h⟩
set_option maxRecDepth 100000 in
theorem wr_proceed_336 {l : Launch} {G : mx_G} {r d : Nat} {m : rm_M} {Q : Option Value → rm_M → Prop} (s1 : Int32) (s2 : Int32) (h : mr_C l G r d mm_RM_begin [.int s1, .int s2] m (fun (r1 : Option Value) (m2 : rm_M) => r1 = none ∧ Q none m2)) : mr_Ok l G r (d + 1) mm_RM_proceed 336 [] [.int s2, .int s1, .ref r] m Q := by
  refine mr_start (fun hs0 hs9 h9 f9 => ?_)
  refine mx_invV (Y := mm_RM_begin) (As := [.int s1, .int s2]) (rest := []) d_RM_proceed_336.1 ok_RM_begin kw_313 kw_314 kw_315 rfl rfl (Nat.le_of_ble_eq_true rfl) (Nat.le_of_ble_eq_true rfl) h9.1 (q := mx_cl0_6) rfl rfl (h _ h9) (fun r1 hs8 h => ?_)
  obtain ⟨m2, h9, f8, z8, h⟩ := h
  obtain ⟨e9_, h⟩ := h
  subst e9_
  have f9 := mr_frc f9 f8 z8
  clear f8 z8
  show mx_Ok mx_S0 l G (d + 1) mm_RM_proceed 339 [] [] hs8 _
  refine mx_goto d_RM_proceed_339 ?_
  exact mx_return d_RM_proceed_398 rfl ⟨_, h9, f9.1, f9.2, h⟩
set_option maxRecDepth 100000 in
theorem wr_proceed_393 {l : Launch} {G : mx_G} {r d : Nat} {m : rm_M} {Q : Option Value → rm_M → Prop} (l1 : Int32) (h : mr_C l G r d mm_RM_operate [.int l1] m (fun (r1 : Option Value) (m2 : rm_M) => r1 = none ∧ Q none m2)) : mr_Ok l G r (d + 1) mm_RM_proceed 393 [(0, .ref r), (1, .int l1)] [] m Q := by
  refine mr_start (fun hs0 hs9 h9 f9 => ?_)
  refine mx_aload_nR d_RM_proceed_393 rfl 0 rfl ?_
  refine mx_iload_n d_RM_proceed_394 rfl 1 rfl ?_
  refine mx_invV (Y := mm_RM_operate) (As := [.int l1]) (rest := []) d_RM_proceed_395.1 ok_RM_operate kw_316 kw_317 kw_318 rfl rfl (Nat.le_of_ble_eq_true rfl) (Nat.le_of_ble_eq_true rfl) h9.1 (q := mx_cl0_6) rfl rfl (h _ h9) (fun r1 hs8 h => ?_)
  obtain ⟨m2, h9, f8, z8, h⟩ := h
  obtain ⟨e9_, h⟩ := h
  subst e9_
  have f9 := mr_frc f9 f8 z8
  clear f8 z8
  show mx_Ok mx_S0 l G (d + 1) mm_RM_proceed 398 [(0, .ref r), (1, .int l1)] [] hs8 _
  exact mx_return d_RM_proceed_398 rfl ⟨_, h9, f9.1, f9.2, h⟩
