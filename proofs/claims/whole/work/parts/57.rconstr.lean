/-! THE REFERENCE: construct, build, collect. -/
section RCO
variable {l : Launch} {G : mx_G} {r d : Nat} {m0 m : rm_M} {S : lz_S} {o : lz_O}
abbrev rc_L (l : Launch) (G : mx_G) (r d : Nat) (m : rm_M) (n : Nat) (Q : Option Value → rm_M → Prop) : Prop := mr_Ok l G r (d + 4) mm_RM_construct 16 [(0, .ref r), (2, .int (nI n))] [] m Q
theorem rc_plan : ∀ (f : Nat) (S : lz_S) (j n : Nat) (m : rm_M) (Q : Option Value → rm_M → Prop), j < S.2.1 → j < f → n + j < 31 → rx_S m S → ru m0 m → m.1 32 n = nI (j + 1) → m.1 33 n = 0 →
    (lz_bad (lz_pt f S (lz_pv j)).1 = false → ∀ m2, rx_S m2 (lz_pt f S (lz_pv j)).2 → ru m0 m2 → (∀ q, q < n → m2.1 32 q = m.1 32 q ∧ m2.1 33 q = m.1 33 q) → rc_L l G r d m2 n Q) →
    (lz_bad (lz_pt f S (lz_pv j)).1 = true → ∀ m2, rx_S m2 (lz_pt f S (lz_pv j)).2 → ru m0 m2 → Q (some (.int 0)) m2) → rc_L l G r d m (n + 1) Q := by
  intro f
  induction f with
  | zero =>
    intro S j n m Q _ hj
    exact absurd hj (by omega)
  | succ f ih =>
    intro S j n m Q hj hjf hn h hu hw hd hs hf
    have hz := h.2.2.2.2.2.1
    rw [lz_pt, if_neg (by rw [lz_pv_pl (by omega)]; decide), lz_pv_ix (by omega)] at hs hf
    have hc1 : Int32.toNatClampNeg (nI (j + 1)) = j + 1 := nI_clamp (by omega)
    -- what is asked at the head
    have head : ∀ (m1 : rm_M) (T : lz_S) (i : Nat), rx_S m1 T → T.2.1 = S.2.1 → m1.1 32 n = nI (j + 1) → m1.1 33 n = nI i → i ≤ (T.1 j).2.1.length →
        (lz_bt T j = true → rc_L l G r d m1 n Q) →
        (lz_bt T j = false → i = (T.1 j).2.1.length → mr_C l G r (d + 3) mm_RM_assemble [.int (nI (j + 1))] m1 (fun r7 m8 => ∃ x9 : Int32, r7 = some (.int x9) ∧ ((¬ x9 = 0 → rc_L l G r d m8 (n + 1) Q) ∧ (¬ (¬ x9 = 0) → Q (some (.int 0)) m8)))) →
        (lz_bt T j = false → ∀ v, (T.1 j).2.1[i]? = some v → ∀ m2, m2 = rs_i m1 33 n (nI (i + 1)) → (∀ x : Int32, v = x.toInt64 → rc_L l G r d m2 (n + 1) Q) ∧ (∀ q, q < j → v = lz_pv q → ∀ m3, m3 = rs_i m2 32 (n + 1) (nI (q + 1)) → ∀ m4, m4 = rs_i m3 33 (n + 1) 0 → rc_L l G r d m4 (n + 2) Q)) → rc_L l G r d m1 (n + 1) Q := by
      intro m1 T i h1 hsz hw1 hd1 hi4 kb ka kn
      have hjT : j < T.2.1 := by omega
      obtain ⟨a1, a2, a3, a4, a5, a6⟩ := h1.2.2.1 j hjT
      have hl := (h1.2.2.2.2.2.2.1 j hjT).1
      have e1 : nI (n + 1) - 1 = nI n := nI_pred n
      have hcn : Int32.toNatClampNeg (nI n) = n := nI_clamp (by omega)
      have hneg : ¬ nI n < 0 := nI_pos (by omega)
      refine wr_construct_16 _ ⟨fun c => absurd c (nI_nle (by omega) (by omega)), fun _ => ?_⟩
      rw [e1, hcn, hw1, hc1, hd1]
      refine ⟨hneg, by omega, hneg, by omega, nI_pos (by omega), by omega, fun z => ⟨nI_pos (by omega), by omega, fun y => ⟨hneg, by omega, hneg, by omega, fun m2 e2 => ?_⟩, fun y => ?_⟩, fun z => wr_construct_132 _ ?_⟩
      · rw [a4] at z
        have hnb : lz_bt T j = false := lz_b0.mp z
        rw [a2] at y
        have hlt : i < (T.1 j).2.1.length := by
          rcases Nat.lt_or_ge i (T.1 j).2.1.length with q | q
          · exact q
          · exact absurd (by rw [show i = (T.1 j).2.1.length by omega]) y
        obtain ⟨p1, p2, p3⟩ := h1.ip hjT hlt
        rw [nI_1] at e2
        have p4 : m2.2.1 26 ((j + 1) * 4 + i) = m1.2.1 26 ((j + 1) * 4 + i) := by rw [e2]; rfl
        rw [p1]
        refine ⟨nI_pos (by omega), by rw [nI_clamp (by omega)]; omega, ?_⟩
        rw [nI_clamp (by omega), p4]
        obtain ⟨v, ev⟩ : ∃ v, v = m1.2.1 26 ((j + 1) * 4 + i) := ⟨_, rfl⟩
        rw [← ev] at p3 ⊢
        have hV : lz_V j v := (h1.2.2.2.2.2.2.1 j hjT).2.1 v (List.mem_of_getElem? p3)
        obtain ⟨k1, k2⟩ := kn hnb v p3 m2 e2
        refine r_isNumber (n := j) (by omega) hV ⟨_, rfl, fun u => wr_construct_132 _ ?_, fun u => ?_⟩
        · have u := lz_b1.mp u
          rcases hV with ⟨x, hx⟩ | ⟨q, hq, hx⟩
          · exact k1 x hx
          · rw [hx, lz_pv_pl (by omega)] at u
            cases u
        · have u := lz_b0.mp (Decidable.not_not.mp u)
          rcases hV with ⟨x, hx⟩ | ⟨q, hq, hx⟩
          · rw [hx, lz_n_pl] at u
            cases u
          · rw [hx, lz_pv_i]
            have hcn1 : Int32.toNatClampNeg (nI (n + 1)) = n + 1 := nI_clamp (by omega)
            refine ⟨nI_pos (by omega), by rw [hcn1]; omega, fun m3 e3 => ⟨nI_pos (by omega), by rw [hcn1]; omega, fun m4 e4 => wr_construct_132 _ ?_⟩⟩
            rw [hcn1] at e3 e4
            rw [nI_1]
            exact k2 q hq hx m3 e3 m4 e4
      · rw [a4] at z
        have hnb : lz_bt T j = false := lz_b0.mp z
        have y := Decidable.not_not.mp y
        rw [a2] at y
        have hi : i = (T.1 j).2.1.length := (nI_eq (by omega) (by omega)).mp y
        refine (ka hnb hi).mono (fun v m8 hq => ?_)
        obtain ⟨x9, e9, q1, q2⟩ := hq
        exact ⟨x9, e9, fun u => wr_construct_132 _ (q1 u), q2⟩
      · rw [a4] at z
        have := kb (lz_b1.mp z)
        rw [pk_m1]
        exact this
    have hokj := h.2.2.2.2.2.2.1 j hj
    by_cases hb : lz_bt S j = true
    · rw [if_pos (show (S.1 j).2.2.1 = true from hb)] at hs
      exact head m S 0 h rfl hw hd (Nat.zero_le _) (fun _ => hs (by simp only; exact lz_n_bad _) m h hu (fun _ _ => ⟨rfl, rfl⟩)) (fun z => by rw [hb] at z; cases z) (fun z => by rw [hb] at z; cases z)
    have hb0 : lz_bt S j = false := by simpa using hb
    rw [if_neg (show ¬ (S.1 j).2.2.1 = true from hb)] at hs hf
    have W : ∀ (c i : Nat) (T : lz_S) (m1 : rm_M), i + c = (S.1 j).2.1.length → rx_S m1 T → lz_sm S T → ru m0 m1 → m1.1 32 n = nI (j + 1) → m1.1 33 n = nI i → (∀ q, q < n → m1.1 32 q = m.1 32 q ∧ m1.1 33 q = m.1 33 q) → lz_bt T j = false → (∀ q i', q < j → i' < i → (S.1 j).2.1[i']? = some (lz_pv q) → lz_bt T q = true) → lz_bi (lz_pt f) ((S.1 j).2.1.drop i) T = lz_bi (lz_pt f) (S.1 j).2.1 S → rc_L l G r d m1 (n + 1) Q := by
      intro c
      induction c with
      | zero =>
        intro i T m1 hi h1 hsm hu1 hw1 hd1 hlow hnb hbt hbi
        have eI : (T.1 j).2.1 = (S.1 j).2.1 := (hsm.2.2 j).2.1
        rw [List.drop_eq_nil_of_le (by omega)] at hbi
        rw [← hbi, if_neg (show ¬ lz_bad (lz_bi (lz_pt f) [] T).1 = true from (show ¬ lz_bad 0 = true by decide))] at hs hf
        have hs : lz_bad (lz_fin T j).1 = false → ∀ m2, rx_S m2 (lz_fin T j).2 → ru m0 m2 → (∀ q, q < n → m2.1 32 q = m.1 32 q ∧ m2.1 33 q = m.1 33 q) → rc_L l G r d m2 n Q := hs
        have hf : lz_bad (lz_fin T j).1 = true → ∀ m2, rx_S m2 (lz_fin T j).2 → ru m0 m2 → Q (some (.int 0)) m2 := hf
        have hjT : j < T.2.1 := by rw [hsm.1]; exact hj
        refine head m1 T i h1 hsm.1 hw1 hd1 (by rw [eI]; omega) (fun z => by rw [hnb] at z; cases z) (fun _ _ => ?_) (fun _ v hv => ?_)
        · refine r_assemble h1 hjT hnb (fun q hq hm => ?_) (fun z => ⟨_, rfl, fun c => absurd rfl c, fun _ => hf z m1 ?_ hu1⟩) (fun z m2 h2 hu2 hk2 => ⟨_, rfl, fun _ => ?_, fun c => absurd (by decide) c⟩)
          · rw [eI] at hm
            obtain ⟨i', hi', e'⟩ := List.mem_iff_getElem.mp hm
            exact hbt q i' hq (by omega) (by rw [List.getElem?_eq_getElem hi', e'])
          · have e : (lz_fin T j).2 = T := by
              unfold lz_fin at z ⊢
              split
              · rfl
              · rename_i hc
                rw [if_neg hc] at z
                simp only at z
                rw [lz_n_bad] at z
                cases z
            rw [e]
            exact h1
          · have smf := lz_fin_sm T j
            refine head m2 (lz_fin T j).2 i h2 (smf.1.trans hsm.1) ((hk2 32 n (Or.inl rfl)).trans hw1) ((hk2 33 n (Or.inr rfl)).trans hd1) (by rw [(smf.2.2 j).2.1, eI]; omega) (fun _ => hs z m2 h2 (hu1.tr hu2) (fun q hq => ⟨(hk2 32 q (Or.inl rfl)).trans (hlow q hq).1, (hk2 33 q (Or.inr rfl)).trans (hlow q hq).2⟩)) (fun y => ?_) (fun y => ?_)
            · rw [lz_fin_b z] at y
              cases y
            · rw [lz_fin_b z] at y
              cases y
        · rw [eI, List.getElem?_eq_none (by omega)] at hv
          cases hv
      | succ c ihc =>
        intro i T m1 hi h1 hsm hu1 hw1 hd1 hlow hnb hbt hbi
        have eI : (T.1 j).2.1 = (S.1 j).2.1 := (hsm.2.2 j).2.1
        have hlt : i < (S.1 j).2.1.length := by omega
        refine head m1 T i h1 hsm.1 hw1 hd1 (by rw [eI]; omega) (fun z => by rw [hnb] at z; cases z) (fun _ y => ?_) (fun _ v hv m2 e2 => ?_)
        · rw [eI] at y
          omega
        rw [eI] at hv
        rw [lz_drop hv, lz_bi] at hbi
        have h2 : rx_S m2 T := h1.w (fun k i hk => by
          rw [e2]
          simp only [rs_i]
          rw [if_neg (by omega)]) (fun i => by rw [e2]; rfl) (fun k hk => by rw [e2]; rfl)
        have hu2 : ru m0 m2 := hu1.tr (by rw [e2]; exact ru.ii (by simp))
        have w2 : m2.1 32 n = nI (j + 1) := by rw [e2]; exact hw1
        have d2 : m2.1 33 n = nI (i + 1) := by rw [e2]; simp [rs_i]
        have low2 : ∀ q, q < n → m2.1 32 q = m.1 32 q ∧ m2.1 33 q = m.1 33 q := fun q hq => by
          rw [e2]
          refine ⟨(hlow q hq).1, ?_⟩
          simp only [rs_i]
          rw [if_neg (by omega)]
          exact (hlow q hq).2
        refine ⟨fun x hx => ?_, fun q hq hx m3 e3 m4 e4 => ?_⟩
        · rw [lb_pt_num hx, if_neg (by rw [hx, lz_n_bad]; decide)] at hbi
          refine ihc (i + 1) T m2 (by omega) h2 hsm hu2 w2 d2 low2 hnb (fun q i' hq hi' he => ?_) hbi
          by_cases hii : i' = i
          · subst hii
            rw [hv, hx] at he
            have := Option.some.inj he
            have h9 := lz_n_pl x
            rw [this, lz_pv_pl (by omega)] at h9
            cases h9
          · exact hbt q i' hq (by omega) he
        · have hqT : q < T.2.1 := by rw [hsm.1]; omega
          have h4 : rx_S m4 T := h2.w (fun k i hk => by
            rw [e4, e3]
            simp only [rs_i]
            rw [if_neg (by omega), if_neg (by omega)]) (fun i => by rw [e4, e3]; rfl) (fun k hk => by rw [e4, e3]; rfl)
          have hu4 : ru m0 m4 := hu2.tr (ru.tr (m2 := m3) (by rw [e3]; exact ru.ii (by simp)) (by rw [e4]; exact ru.ii (by simp)))
          have low4 : ∀ q', q' < n + 1 → m4.1 32 q' = m2.1 32 q' ∧ m4.1 33 q' = m2.1 33 q' := fun q' hq' => by
            rw [e4, e3]
            simp only [rs_i]
            exact ⟨by rw [if_neg (by omega), if_neg (by omega)], by rw [if_neg (by omega), if_neg (by omega)]⟩
          rw [hx] at hbi
          refine ih T q (n + 1) m4 Q hqT (by omega) (by omega) h4 hu4 (by rw [e4, e3]; simp [rs_i]) (by rw [e4]; simp [rs_i]) (fun z m5 h5 hu5 low5 => ?_) (fun z m5 h5 hu5 => ?_)
          · rw [if_neg (by rw [z]; decide)] at hbi
            obtain ⟨f', rfl⟩ : ∃ f', f = f' + 1 := ⟨f - 1, by omega⟩
            have hi5 := lz_pt_hi (f' + 1) T (lz_pv q) (q + 1) j h1.2.2.2.2.2 (Or.inr ⟨q, by omega, rfl⟩) (by omega) (by omega)
            refine ihc (i + 1) _ m5 (by omega) h5 (hsm.tr (lz_pt_sm _ _ _)) hu5 ((low5 n (by omega)).1.trans ((low4 n (by omega)).1.trans w2)) ((low5 n (by omega)).2.trans ((low4 n (by omega)).2.trans d2)) (fun q' hq' => ⟨(low5 q' (by omega)).1.trans ((low4 q' (by omega)).1.trans (low2 q' hq').1), (low5 q' (by omega)).2.trans ((low4 q' (by omega)).2.trans (low2 q' hq').2)⟩) ?_ (fun q' i' hq' hi' he => ?_) hbi
            · unfold lz_bt
              rw [hi5]
              exact hnb
            · by_cases hii : i' = i
              · subst hii
                rw [hv, hx] at he
                have e9 := Option.some.inj he
                have hqq : q' = q := by
                  have h1 := lz_V_pv (n := q' + 1) (j := q) (v := lz_pv q) (Or.inr ⟨q', by omega, e9⟩) (by omega) (by omega) rfl
                  have h2 := lz_V_pv (n := q + 1) (j := q') (v := lz_pv q') (Or.inr ⟨q, by omega, e9.symm⟩) (by omega) (by omega) rfl
                  omega
                rw [hqq]
                exact lz_pt_b (by omega) z
              · exact lz_pt_mb _ _ _ (hbt q' i' hq' (by omega) he)
          · rw [if_pos z] at hbi
            rw [← hbi, if_pos z] at hf
            exact hf z m5 h5 hu5
    exact W _ 0 S m (Nat.zero_add _) h lz_sm.rf hu hw hd (fun _ _ => ⟨rfl, rfl⟩) hb0 (fun q i' _ hi' => absurd hi' (Nat.not_lt_zero _)) rfl
theorem r_construct {Q : Option Value → rm_M → Prop} (h : rx_S m S) {j : Nat} (hj : j < S.2.1) (k1 : lz_bad (lz_pt 30 S (lz_pv j)).1 = false → ∀ m2, rx_S m2 (lz_pt 30 S (lz_pv j)).2 → ru m m2 → Q (some (.int 1)) m2) (k0 : lz_bad (lz_pt 30 S (lz_pv j)).1 = true → ∀ m2, rx_S m2 (lz_pt 30 S (lz_pv j)).2 → ru m m2 → Q (some (.int 0)) m2) : mr_C l G r (d + 4) mm_RM_construct [.int (nI (j + 1))] m Q := by
  have hz := h.2.2.2.2.2.1
  refine wr_construct_0 _ ⟨by decide, by decide, fun m1 e1 => ⟨by decide, by decide, fun m2 e2 => ?_⟩⟩
  have h2 : rx_S m2 S := h.w (fun k i hk => by
    rw [e2, e1]
    simp only [rs_i]
    rw [if_neg (by omega), if_neg (by omega)]) (fun i => by rw [e2, e1]; rfl) (fun k hk => by rw [e2, e1]; rfl)
  have hu2 : ru m m2 := ru.tr (m2 := m1) (by rw [e1]; exact ru.ii (by simp)) (by rw [e2]; exact ru.ii (by simp))
  refine rc_plan (m0 := m) 30 S j 0 m2 Q hj (by omega) (by omega) h2 hu2 (by rw [e2, e1]; rfl) (by rw [e2]; rfl) (fun z m3 h3 hu3 _ => ?_) k0
  exact wr_construct_16 _ ⟨fun _ => k1 z m3 h3 hu3, fun c => absurd (by decide) c⟩
end RCO
