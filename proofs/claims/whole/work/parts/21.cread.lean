/-! THE CLASS reads a text. -/
def lz_re (r : Bool × Nat) : Int32 := if r.1 = true then nI r.2 else -1
/-- the places of the parts of a text stand in es, from p to e -/
def lz_EO (t es : List Int32) (p e : Nat) : Prop := ∀ i, p ≤ i → i < e → (i = 0 ∨ lz_cd t (i - 1) ≠ 68) → ∀ x, lz_rd t 8 i = (true, x) → es[i]? = some (nI x)
theorem lz_EO.app {t es1 es2 : List Int32} {p q e : Nat} (h1 : lz_EO t es1 p q) (hk : ∀ i, i < q → es2[i]? = es1[i]?) (h2 : lz_EO t es2 q e) : lz_EO t es2 p e := by
  intro i hp he hz x hx
  rcases Nat.lt_or_ge i q with h | h
  · rw [hk i h]
    exact h1 i hp h hz x hx
  · exact h2 i h he hz x hx
theorem lz_EO.nil {t es : List Int32} {p : Nat} : lz_EO t es p p := fun i h1 h2 => absurd h2 (by omega)
theorem lz_rd_par {t : List Int32} {k i x : Nat} (h : lz_cd t i = 40 ∨ lz_cd t i = 41) : ¬ lz_rd t k i = (true, x) := by
  cases k with
  | zero => simp [lz_rd]
  | succ k =>
    intro hh
    unfold lz_rd at hh
    by_cases hl : t.length ≤ i
    · rw [if_pos hl] at hh
      cases hh
    · rw [if_neg hl] at hh
      rcases h with h | h
      · rw [h, if_neg (by decide), if_neg (by decide), if_pos (Or.inl (by decide))] at hh
        cases hh
      · rw [h, if_neg (by decide), if_neg (by decide), if_pos (Or.inl (by decide))] at hh
        cases hh
/-- what a reading from p leaves: r its answer, es the places before it, es2 behind it -/
def lb_rs (t es es2 : List Int32) (bp2 : Int32) (p : Nat) (r : Bool × Nat) : Prop := (r.1 = true → (∀ i, i < p ∨ r.2 ≤ i → es2[i]? = es[i]?) ∧ lz_EO t es2 p r.2) ∧ (r.1 = false → bp2 = nI r.2)
def lb_RE (l : Launch) (G : mx_G) (a : Nat) (t : List Int32) (k : Nat) : Prop := ∀ (d : Nat) (hs : mx_H) (es : List Int32) (D : Nat) (bp : Int32) (p : Nat) (Q : Option Value → mx_H → Prop), 3 * k + 2 ≤ d → p ≤ 24 → lb_tx hs a t es D bp → (∀ hs2 es2 D2 bp2, lb_tx hs2 a t es2 D2 bp2 → mx_kp hs hs2 a 3 → lb_rs t es es2 bp2 p (lz_rd t k p) → ((lz_rd t k p).1 = true → D2 = max D (8 - k + lz_ht t k p)) → Q (some (.int (lz_re (lz_rd t k p)))) hs2) → mx_C mx_S0 l G d mm_LBText_readExpression [.ref a, .int (nI p), .int (nI (9 - k))] hs Q
section CRD
variable {l : Launch} {G : mx_G} {d a k : Nat} {t : List Int32}
theorem lb_rk_m1 {hs : mx_H} {Q : Option Value → mx_H → Prop} {x y z : Int32} (h : Q (some (.int (-1))) hs) : mx_Ok mx_S0 l G (d + 1) mm_LBText_readKind 68 [(0, .ref a), (2, .int x), (4, .int y), (5, .int (-1)), (6, .int z)] [] hs Q :=
  wp_LBText_readKind_68 _ _ _ _ _ ⟨fun _ => h, fun _ => ⟨fun _ => h, fun c => absurd rfl c⟩⟩
theorem lz_nm1 {n : Nat} (h : n < 2 ^ 31) : ¬ nI n = -1 := by
  intro e
  have := nI_pos h
  rw [e] at this
  exact this (by decide)
/-- the parts of a sign -/
theorem lb_rk_loop {N : Nat} (hN : N ≤ 3) (hk : k ≤ 7) (ih : lb_RE l G a t k) (hd : 3 * k + 2 ≤ d) : ∀ (n j q : Nat) (hs : mx_H) (es : List Int32) (D : Nat) (bp : Int32) (Q : Option Value → mx_H → Prop), j + n = N → q ≤ 24 → lb_tx hs a t es D bp →
    (∀ hs2 es2 D2 bp2, lb_tx hs2 a t es2 D2 bp2 → mx_kp hs hs2 a 3 → lb_rs t es es2 bp2 q (lz_ps (lz_rd t k) n q) → ((lz_ps (lz_rd t k) n q).1 = true → max D2 (8 - k) = max D (8 - k + lz_hp (lz_rd t k) (lz_ht t k) n q)) → Q (some (.int (lz_re (lz_ps (lz_rd t k) n q)))) hs2) →
    mx_Ok mx_S0 l G (d + 1) mm_LBText_readKind 68 [(0, .ref a), (2, .int (nI (8 - k))), (4, .int (nI N)), (5, .int (nI q)), (6, .int (nI j))] [] hs Q := by
  intro n
  induction n with
  | zero =>
    intro j q hs es D bp Q hj hq hT kk
    refine wp_LBText_readKind_68 _ _ _ _ _ ⟨fun _ => ?_, fun c => absurd (nI_le (by omega) (by omega)) c⟩
    exact kk hs es D bp hT mx_kp.rf ⟨fun _ => ⟨fun _ _ => rfl, lz_EO.nil⟩, fun h => by cases h⟩ (fun _ => by simp [lz_hp])
  | succ n ihn =>
    intro j q hs es D bp Q hj hq hT kk
    refine wp_LBText_readKind_68 _ _ _ _ _ ⟨fun c => absurd c (nI_ge (by omega) (by omega)), fun _ => ⟨fun c => absurd c (lz_nm1 (by omega)), fun _ => ⟨⟨_, hT.at⟩, ?_⟩⟩⟩
    rw [nI_1, show 8 - k + 1 = 9 - k by omega]
    refine ih d hs es D bp q _ hd hq hT (fun hs2 es2 D2 bp2 hT2 hk2 hr2 hD2 => ⟨_, rfl, ?_⟩)
    rw [nI_1]
    by_cases hc : (lz_rd t k q).1 = true
    · have hb := lz_rd_b (t := t) k q (lz_rd t k q).2 (Prod.ext hc rfl)
      have hlen := hT.len.1
      have e1 : lz_re (lz_rd t k q) = nI (lz_rd t k q).2 := by unfold lz_re; rw [if_pos hc]
      rw [e1]
      have e2 : lz_ps (lz_rd t k) (n + 1) q = lz_ps (lz_rd t k) n (lz_rd t k q).2 := by rw [lz_ps, if_pos hc]
      refine ihn (j + 1) _ hs2 es2 D2 bp2 Q (by omega) (by omega) hT2 (fun hs3 es3 D3 bp3 hT3 hk3 hr3 hD3 => ?_)
      rw [e2] at kk
      refine kk hs3 es3 D3 bp3 hT3 (hk2.tr hk3) ⟨fun h => ?_, fun h => hr3.2 h⟩ (fun h => ?_)
      · obtain ⟨p1, p2⟩ := hr2.1 hc
        obtain ⟨p3, p4⟩ := hr3.1 h
        have hb3 := (lz_ps_b (lz_rd_b (t := t) k) n _ (lz_ps (lz_rd t k) n (lz_rd t k q).2).2 hb.2 (Prod.ext h rfl)).1
        exact ⟨fun i hi => (p3 i (by omega)).trans (p1 i (by omega)), p2.app (fun i hi => p3 i (Or.inl hi)) p4⟩
      · have := hD3 h
        rw [this, hD2 hc, lz_hp]
        omega
    · have hf : (lz_rd t k q).1 = false := by simpa using hc
      have e1 : lz_re (lz_rd t k q) = -1 := by unfold lz_re; rw [if_neg hc]
      have e2 : lz_ps (lz_rd t k) (n + 1) q = lz_rd t k q := by rw [lz_ps, if_neg hc]
      rw [e1]
      refine lb_rk_m1 ?_
      rw [e2, e1] at kk
      exact kk hs2 es2 D2 bp2 hT2 hk2 hr2 (fun h => absurd h hc)
/-- the end of a list -/
theorem lb_rp_end {hs : mx_H} {Q : Option Value → mx_H → Prop} {q : Nat} {es : List Int32} {D : Nat} {bp : Int32} {r : Bool × Nat} (hr : r = if lz_cd t q = 41 then (true, q + 1) else (false, q)) (hq : q ≤ 24) (hT : lb_tx hs a t es D bp)
    (kk : ∀ hs2 es2 bp2, lb_tx hs2 a t es2 D bp2 → mx_kp hs hs2 a 3 → lb_rs t es es2 bp2 q r → Q (some (.int (lz_re r))) hs2) : mx_Ok mx_S0 l G (d + 2) mm_LBText_readPlan 86 [(0, .ref a), (3, .int (nI q))] [] hs Q := by
  refine wp_LBText_readPlan_86 _ _ ⟨⟨_, hT.at⟩, c_codeAt hT (by omega) ⟨_, rfl, fun c => ⟨⟨_, hT.at⟩, ?_⟩, fun c => ?_⟩⟩
  · rw [if_neg c] at hr
    refine c_badAt hT (fun hs2 hT2 hk2 => ⟨_, rfl, ?_⟩)
    rw [hr] at kk
    exact kk hs2 es _ hT2 hk2 ⟨fun h => (by cases h), fun _ => rfl⟩
  · have c := Decidable.not_not.mp c
    rw [if_pos c] at hr
    rw [hr] at kk
    rw [nI_1]
    refine kk hs es bp hT mx_kp.rf ⟨fun _ => ⟨fun _ _ => rfl, fun i h1 h2 _ x hx => ?_⟩, fun h => by cases h⟩
    have : i = q := by simp only at h2; omega
    subst this
    exact absurd hx (lz_rd_par (Or.inr c))
/-- the list of a D -/
theorem lb_rp_loop (hk : k ≤ 7) (ih : lb_RE l G a t k) (hd : 3 * k + 2 ≤ d) (hd1 : 1 ≤ d) : ∀ (n q : Nat) (hs : mx_H) (es : List Int32) (D : Nat) (bp : Int32) (Q : Option Value → mx_H → Prop), n ≤ 4 → q ≤ 24 → lb_tx hs a t es D bp →
    (∀ hs2 es2 D2 bp2, lb_tx hs2 a t es2 D2 bp2 → mx_kp hs hs2 a 3 → lb_rs t es es2 bp2 q (lz_ls (lz_rd t k) t n q) → ((lz_ls (lz_rd t k) t n q).1 = true → max D2 (8 - k) = max D (8 - k + lz_hl (lz_rd t k) (lz_ht t k) t n q)) → Q (some (.int (lz_re (lz_ls (lz_rd t k) t n q)))) hs2) →
    mx_Ok mx_S0 l G (d + 1) mm_LBText_readPlan 48 [(0, .ref a), (2, .int (nI (8 - k))), (3, .int (nI q)), (4, .int (nI (4 - n)))] [] hs Q := by
  obtain ⟨d0, rfl⟩ : ∃ d0, d = d0 + 1 := ⟨d - 1, by omega⟩
  intro n
  induction n with
  | zero =>
    intro q hs es D bp Q hn hq hT kk
    refine wp_LBText_readPlan_48 _ _ _ _ ⟨fun _ => ?_, fun c => absurd (nI_le (a := 4) (by omega) (by omega)) c⟩
    refine lb_rp_end (r := lz_ls (lz_rd t k) t 0 q) (by rw [lz_ls]) hq hT (fun hs2 es2 bp2 h1 h2 h3 => kk hs2 es2 D bp2 h1 h2 h3 (fun _ => by simp [lz_hl]))
  | succ n ihn =>
    intro q hs es D bp Q hn hq hT kk
    refine wp_LBText_readPlan_48 _ _ _ _ ⟨fun c => absurd c (nI_ge (b := 4) (by omega) (by omega)), fun _ => ⟨⟨_, hT.at⟩, c_codeAt hT (by omega) ⟨_, rfl, fun c => ?_, fun c => ⟨⟨_, hT.at⟩, ?_⟩⟩⟩⟩
    · refine lb_rp_end (r := lz_ls (lz_rd t k) t (n + 1) q) (by rw [lz_ls, if_pos c, if_pos c]) hq hT (fun hs2 es2 bp2 h1 h2 h3 => kk hs2 es2 D bp2 h1 h2 h3 (fun _ => by simp [lz_hl, c]))
    rw [nI_1, show 8 - k + 1 = 9 - k by omega]
    refine ih (d0 + 1) hs es D bp q _ hd hq hT (fun hs2 es2 D2 bp2 hT2 hk2 hr2 hD2 => ⟨_, rfl, fun g => ?_, fun g => ?_⟩)
    · have hc : (lz_rd t k q).1 = true := by
        by_cases hc : (lz_rd t k q).1 = true
        · exact hc
        · exact absurd (by unfold lz_re; rw [if_neg hc]) g
      have hb := lz_rd_b (t := t) k q (lz_rd t k q).2 (Prod.ext hc rfl)
      have hlen := hT.len.1
      have e1 : lz_re (lz_rd t k q) = nI (lz_rd t k q).2 := by unfold lz_re; rw [if_pos hc]
      rw [e1, nI_1, show 4 - (n + 1) + 1 = 4 - n by omega]
      have e2 : lz_ls (lz_rd t k) t (n + 1) q = lz_ls (lz_rd t k) t n (lz_rd t k q).2 := by rw [lz_ls, if_neg c, if_pos hc]
      refine ihn _ hs2 es2 D2 bp2 Q (by omega) (by omega) hT2 (fun hs3 es3 D3 bp3 hT3 hk3 hr3 hD3 => ?_)
      rw [e2] at kk
      refine kk hs3 es3 D3 bp3 hT3 (hk2.tr hk3) ⟨fun h => ?_, fun h => hr3.2 h⟩ (fun h => ?_)
      · obtain ⟨p1, p2⟩ := hr2.1 hc
        obtain ⟨p3, p4⟩ := hr3.1 h
        have hb3 := (lz_ls_b (lz_rd_b (t := t) k) n _ (lz_ls (lz_rd t k) t n (lz_rd t k q).2).2 (Prod.ext h rfl)).1
        exact ⟨fun i hi => (p3 i (by omega)).trans (p1 i (by omega)), p2.app (fun i hi => p3 i (Or.inl hi)) p4⟩
      · have := hD3 h
        rw [this, hD2 hc, lz_hl, if_neg c]
        omega
    · have g := Decidable.not_not.mp g
      have hc : ¬ (lz_rd t k q).1 = true := by
        intro hc
        have hb := lz_rd_b (t := t) k q (lz_rd t k q).2 (Prod.ext hc rfl)
        have hlen := hT.len.1
        have e1 : lz_re (lz_rd t k q) = nI (lz_rd t k q).2 := by unfold lz_re; rw [if_pos hc]
        exact lz_nm1 (by omega) (e1.symm.trans g)
      have e2 : lz_ls (lz_rd t k) t (n + 1) q = lz_rd t k q := by rw [lz_ls, if_neg c, if_neg hc]
      rw [e2, g] at kk
      exact kk hs2 es2 D2 bp2 hT2 hk2 hr2 (fun h => absurd h hc)
/-- the kinds of EXPRESSION -/
theorem lb_rk (hk : k ≤ 7) (ih : lb_RE l G a t k) (hd : 3 * k + 4 ≤ d) {hs : mx_H} {es : List Int32} {D : Nat} {bp : Int32} {p : Nat} {Q : Option Value → mx_H → Prop} (hp : p < t.length) (hT : lb_tx hs a t es D bp)
    (kk : ∀ hs2 es2 D2 bp2, lb_tx hs2 a t es2 D2 bp2 → mx_kp hs hs2 a 3 → lb_rs t es es2 bp2 (p + 1) (lz_rd t (k + 1) p) → ((lz_rd t (k + 1) p).1 = true → max D2 (8 - k) = max D (7 - k + lz_ht t (k + 1) p)) → Q (some (.int (lz_re (lz_rd t (k + 1) p)))) hs2) :
    mx_C mx_S0 l G d mm_LBText_readKind [.ref a, .int (nI p), .int (nI (8 - k))] hs Q := by
  obtain ⟨d0, rfl⟩ : ∃ d0, d = d0 + 4 := ⟨d - 4, by omega⟩
  have hlen := hT.len.1
  have hnl : ¬ t.length ≤ p := by omega
  have kleaf : (lz_dg (lz_cd t p) || lz_lt (lz_cd t p)) = true → mx_Ok mx_S0 l G (d0 + 4) mm_LBText_readKind 20 [(1, .int (nI p))] [] hs Q := by
    intro h
    refine wp_LBText_readKind_20 _ ?_
    rw [nI_1]
    have e : lz_rd t (k + 1) p = (true, p + 1) := by rw [lz_rd, if_neg hnl, if_pos h]
    have eh : lz_ht t (k + 1) p = 1 := by rw [lz_ht, if_pos h]
    rw [e, eh] at kk
    exact kk hs es D bp hT mx_kp.rf ⟨fun _ => ⟨fun _ _ => rfl, lz_EO.nil⟩, fun h => by cases h⟩ (fun _ => by omega)
  refine wp_LBText_readKind_0 _ _ _ ⟨⟨_, hT.at⟩, c_codeAt hT (by omega) ⟨_, rfl, c_isDigit ⟨_, rfl, fun h1 => kleaf (by rw [lz_b1.mp h1]; rfl), fun h1 => c_isLetter ⟨_, rfl, fun h2 => ?_, fun h2 => kleaf (by rw [lz_b1.mp h2]; simp)⟩⟩⟩⟩
  have h1 := lz_b0.mp (Decidable.not_not.mp h1)
  have h2 := lz_b0.mp h2
  have h3 : ¬ (lz_dg (lz_cd t p) || lz_lt (lz_cd t p)) = true := by rw [h1, h2]; decide
  refine ⟨fun h4 => c_partsAfter ⟨_, rfl, fun h5 => ?_, fun h5 => ⟨fun h6 => ?_, fun h6 => ?_⟩⟩, fun h4 => ?_⟩
  · have hz : lz_pa (lz_cd t p) = 0 := by
      rcases Nat.eq_zero_or_pos (lz_pa (lz_cd t p)) with q | q
      · exact q
      · have hle := lz_pa_le (lz_cd t p)
        exact absurd h5 (nI_ne0 q (by omega))
    have e : lz_rd t (k + 1) p = (false, p) := by rw [lz_rd, if_neg hnl, if_neg h3, if_neg h4, if_pos (Or.inl hz)]
    rw [e] at kk
    refine wp_LBText_readKind_54 _ _ ⟨⟨_, hT.at⟩, c_badAt hT (fun hs2 hT2 hk2 => ⟨_, rfl, ?_⟩)⟩
    exact kk hs2 es D _ hT2 hk2 ⟨fun h => (by cases h), fun _ => rfl⟩ (fun h => by cases h)
  · have hk6 : k ≠ 0 := by
      intro h
      subst h
      exact absurd h6 (by decide)
    have hle := lz_pa_le (lz_cd t p)
    have hz : ¬ lz_pa (lz_cd t p) = 0 := by
      intro q
      rw [q] at h5
      exact h5 (by decide)
    have e : lz_rd t (k + 1) p = lz_ps (lz_rd t k) (lz_pa (lz_cd t p)) (p + 1) := by rw [lz_rd, if_neg hnl, if_neg h3, if_neg h4, if_neg (by omega)]
    have eh : lz_ht t (k + 1) p = 1 + lz_hp (lz_rd t k) (lz_ht t k) (lz_pa (lz_cd t p)) (p + 1) := by rw [lz_ht, if_neg h3, if_neg h4]
    rw [nI_1]
    refine lb_rk_loop (N := lz_pa (lz_cd t p)) hle hk ih (by omega) (lz_pa (lz_cd t p)) 0 (p + 1) hs es D bp Q (by omega) (by omega) hT (fun hs2 es2 D2 bp2 hT2 hk2 hr2 hD2 => ?_)
    rw [e, eh] at kk
    exact kk hs2 es2 D2 bp2 hT2 hk2 hr2 (fun h => by rw [hD2 h]; omega)
  · have hk6 : k = 0 := by
      rcases Nat.eq_zero_or_pos k with q | q
      · exact q
      · exact absurd (nI_lt (a := 8 - k) (b := 8) (by omega) (by omega)) h6
    have e : lz_rd t (k + 1) p = (false, p) := by rw [lz_rd, if_neg hnl, if_neg h3, if_neg h4, if_pos (Or.inr hk6)]
    rw [e] at kk
    refine wp_LBText_readKind_54 _ _ ⟨⟨_, hT.at⟩, c_badAt hT (fun hs2 hT2 hk2 => ⟨_, rfl, ?_⟩)⟩
    exact kk hs2 es D _ hT2 hk2 ⟨fun h => (by cases h), fun _ => rfl⟩ (fun h => by cases h)
  · have h4 := Decidable.not_not.mp h4
    have eh : lz_ht t (k + 1) p = 1 + lz_hl (lz_rd t k) (lz_ht t k) t 4 (p + 3) := by rw [lz_ht, if_neg h3, if_pos h4]
    refine ⟨⟨_, hT.at⟩, ?_⟩
    have e2 : nI p + 2 = nI (p + 2) := nI_add p 2
    have e3 : nI p + 3 = nI (p + 3) := nI_add p 3
    refine wp_LBText_readPlan_0 _ _ _ ⟨⟨_, hT.at⟩, ?_⟩
    rw [nI_1, e2, e3]
    refine c_codeAt hT (by omega) ⟨_, rfl, c_isDigit ⟨_, rfl, fun g1 => ⟨⟨_, hT.at⟩, c_codeAt hT (by omega) ⟨_, rfl, fun g2 => ?_, fun g2 => ⟨⟨_, hT.at⟩, ?_⟩⟩⟩, fun g1 => ⟨⟨_, hT.at⟩, ?_⟩⟩⟩
    · have g1 : ¬ lz_dg (lz_cd t (p + 1)) = false := by rw [lz_b1.mp g1]; decide
      have hp2 : p + 2 < t.length := lz_cd_in (by rw [g2]; decide)
      have e : lz_rd t (k + 1) p = lz_ls (lz_rd t k) t 4 (p + 3) := by rw [lz_rd, if_neg hnl, if_neg h3, if_pos h4, if_neg g1, if_neg (not_not_intro g2)]
      refine lb_rp_loop hk ih (d := d0 + 2) (by omega) (by omega) 4 (p + 3) hs es D bp _ (Nat.le_refl _) (by omega) hT (fun hs2 es2 D2 bp2 hT2 hk2 hr2 hD2 => ⟨_, rfl, ?_⟩)
      rw [e, eh] at kk
      refine kk hs2 es2 D2 bp2 hT2 hk2 ⟨fun h => ?_, hr2.2⟩ (fun h => by rw [hD2 h]; omega)
      obtain ⟨p1, p2⟩ := hr2.1 h
      refine ⟨fun i hi => p1 i (by omega), fun i i1 i2 i3 x hx => ?_⟩
      rcases Nat.lt_or_ge i (p + 3) with q | q
      · rcases (show i = p + 1 ∨ i = p + 2 by omega) with rfl | rfl
        · rcases i3 with i3 | i3
          · omega
          · exact absurd h4 i3
        · exact absurd hx (lz_rd_par (Or.inl g2))
      · exact p2 i q i2 i3 x hx
    · have g1 : ¬ lz_dg (lz_cd t (p + 1)) = false := by rw [lz_b1.mp g1]; decide
      have e : lz_rd t (k + 1) p = (false, p + 2) := by rw [lz_rd, if_neg hnl, if_neg h3, if_pos h4, if_neg g1, if_pos g2]
      refine c_badAt hT (fun hs2 hT2 hk2 => ⟨_, rfl, ⟨_, rfl, ?_⟩⟩)
      rw [e] at kk
      exact kk hs2 es D _ hT2 hk2 ⟨fun h => (by cases h), fun _ => rfl⟩ (fun h => by cases h)
    · have g1 := lz_b0.mp (Decidable.not_not.mp g1)
      have e : lz_rd t (k + 1) p = (false, p + 1) := by rw [lz_rd, if_neg hnl, if_neg h3, if_pos h4, if_pos g1]
      refine c_badAt hT (fun hs2 hT2 hk2 => ⟨_, rfl, ⟨_, rfl, ?_⟩⟩)
      rw [e] at kk
      exact kk hs2 es D _ hT2 hk2 ⟨fun h => (by cases h), fun _ => rfl⟩ (fun h => by cases h)
theorem lz_max (a b : Nat) (ha : a < 2 ^ 31) (hb : b < 2 ^ 31) : (if nI a < nI b then nI b else nI a) = nI (max a b) := by
  by_cases h : a < b
  · rw [if_pos (nI_lt h hb), Nat.max_eq_right (by omega)]
  · rw [if_neg (nI_nlt (by omega) ha), Nat.max_eq_left (by omega)]
/-- an EXPRESSION is read -/
theorem lb_re : ∀ (k : Nat), k ≤ 8 → lb_RE l G a t k := by
  intro k
  induction k with
  | zero =>
    intro hk d hs es D bp p Q hd hp hT kk
    obtain ⟨d0, rfl⟩ : ∃ d0, d = d0 + 2 := ⟨d - 2, by omega⟩
    have hbad : mx_Ok mx_S0 l G (d0 + 2) mm_LBText_readExpression 14 [(0, .ref a), (1, .int (nI p))] [] hs Q := by
      refine wp_LBText_readExpression_14 _ _ ⟨⟨_, hT.at⟩, c_badAt hT (fun hs2 hT2 hk2 => ⟨_, rfl, ?_⟩)⟩
      exact kk hs2 es D _ hT2 hk2 ⟨fun h => (by cases h), fun _ => rfl⟩ (fun h => by cases h)
    exact wp_LBText_readExpression_0 _ _ _ ⟨_, ⟨_, hT.at, rfl⟩, fun _ => hbad, fun _ => ⟨fun c => absurd c (by decide), fun _ => hbad⟩⟩
  | succ k ih =>
    intro hk d hs es D bp p Q hd hp hT kk
    obtain ⟨d0, rfl⟩ : ∃ d0, d = d0 + 2 := ⟨d - 2, by omega⟩
    have hlen := hT.len
    rw [show 9 - (k + 1) = 8 - k by omega]
    refine wp_LBText_readExpression_0 _ _ _ ⟨_, ⟨_, hT.at, rfl⟩, fun c => ?_, fun c => ⟨fun _ => ⟨⟨_, hT.at⟩, ?_⟩, fun c2 => absurd (nI_le (a := 8 - k) (b := 8) (by omega) (by omega)) c2⟩⟩
    · rw [nI_leI (by omega) (by omega)] at c
      have e : lz_rd t (k + 1) p = (false, p) := by rw [lz_rd, if_pos c]
      rw [e] at kk
      refine wp_LBText_readExpression_14 _ _ ⟨⟨_, hT.at⟩, c_badAt hT (fun hs2 hT2 hk2 => ⟨_, rfl, ?_⟩)⟩
      exact kk hs2 es D _ hT2 hk2 ⟨fun h => (by cases h), fun _ => rfl⟩ (fun h => by cases h)
    · rw [nI_leI (by omega) (by omega)] at c
      refine lb_rk (by omega) (ih (by omega)) (d := d0 + 1) (by omega) (by omega) hT (fun hs2 es2 D2 bp2 hT2 hk2 hr2 hD2 => ⟨_, rfl, ?_⟩)
      obtain ⟨cs, h0, h1, h2, h3, h4, h5, h6, h7⟩ := hT2
      refine ⟨_, ⟨_, h0, rfl⟩, _, h2, nI_pos (by omega), by rw [nI_clamp (by omega), List.length_map]; omega, fun hs3 e3 => ?_⟩
      subst e3
      have g0 := (mx_st_ne hs2 (q := a) (a := a + 2) (100, (es2.map Value.int).set (Int32.toNatClampNeg (nI p)) (.int (lz_re (lz_rd t (k + 1) p)))) (by omega)).trans h0
      refine ⟨_, ⟨_, g0, rfl⟩, _, g0, fun hs4 e4 => ?_⟩
      subst e4
      refine kk _ (es2.set p (lz_re (lz_rd t (k + 1) p))) (max D2 (8 - k)) bp2 ⟨cs, ?_, ?_, ?_, h3, by rw [List.length_set]; exact h4, h5, h6, by omega⟩ (hk2.tr (mx_kp.tr (mx_kp.st (b := a + 2) (by omega) (by omega)) (mx_kp.st (b := a) (by omega) (by omega)))) ⟨fun h => ?_, hr2.2⟩ (fun h => ?_)
      · rw [mx_st_eq, ← lz_max D2 (8 - k) (by omega) (by omega)]
        rfl
      · rw [mx_st_ne _ _ (by omega), mx_st_ne _ _ (by omega)]
        exact h1
      · rw [mx_st_ne _ _ (by omega), mx_st_eq, nI_clamp (by omega), List.map_set]
      · obtain ⟨p1, p2⟩ := hr2.1 h
        have hb := lz_rd_b (t := t) (k + 1) p (lz_rd t (k + 1) p).2 (Prod.ext h rfl)
        have e1 : lz_re (lz_rd t (k + 1) p) = nI (lz_rd t (k + 1) p).2 := by unfold lz_re; rw [if_pos h]
        refine ⟨fun i hi => ?_, fun i i1 i2 i3 x hx => ?_⟩
        · rw [List.getElem?_set_ne (by omega)]
          exact p1 i (by omega)
        · by_cases hip : i = p
          · subst hip
            rw [List.getElem?_set_self (by omega), e1]
            have := (lz_rd_m (j := 8) hk (show lz_rd t (k + 1) i = (true, (lz_rd t (k + 1) i).2) from Prod.ext h rfl)).symm.trans hx
            rw [Prod.mk.injEq] at this
            rw [this.2]
          · rw [List.getElem?_set_ne (by omega)]
            exact p2 i (by omega) i2 i3 x hx
      · rw [hD2 h]
        omega
/-- the whole line is read -/
theorem c_read {hs : mx_H} {es : List Int32} {D : Nat} {bp : Int32} {Q : Option Value → mx_H → Prop} (hd : 27 ≤ d) (hT : lb_tx hs a t es D bp)
    (k1 : ∀ hs2 es2 bp2, (lz_line t).1 = true → lb_tx hs2 a t es2 (lz_line t).2 bp2 → mx_kp hs hs2 a 3 → lz_rd t 8 0 = (true, t.length) → lz_EO t es2 0 t.length → Q (some (.int 1)) hs2)
    (k0 : ∀ hs2 es2 D2, (lz_line t).1 = false → lb_tx hs2 a t es2 D2 (nI (lz_line t).2) → mx_kp hs hs2 a 3 → Q (some (.int 0)) hs2) : mx_C mx_S0 l G d mm_LBText_read [.ref a] hs Q := by
  obtain ⟨d0, rfl⟩ : ∃ d0, d = d0 + 1 := ⟨d - 1, by omega⟩
  have hlen := hT.len.1
  obtain ⟨cs, h0, h1, h2, h3, h4, h5, h6, h7⟩ := hT
  refine wp_LBText_read_0 _ ⟨_, h0, fun hs1 e1 => ?_⟩
  have hT1 : lb_tx hs1 a t es 0 bp := by
    subst e1
    exact ⟨cs, mx_st_eq _ _ _, (mx_st_ne _ _ (by omega)).trans h1, (mx_st_ne _ _ (by omega)).trans h2, h3, h4, h5, h6, by omega⟩
  have hk1 : mx_kp hs hs1 a 3 := by
    subst e1
    exact mx_kp.st (by omega) (by omega)
  clear e1
  refine ⟨⟨_, hT1.at⟩, ?_⟩
  refine lb_re (a := a) (t := t) 8 (Nat.le_refl 8) d0 hs1 es 0 bp 0 _ (by omega) (by omega) hT1 (fun hs2 es2 D2 bp2 hT2 hk2 hr2 hD2 => ⟨_, rfl, fun c => ⟨_, ⟨_, hT2.at, rfl⟩, fun c2 => ?_, fun c2 => ?_⟩, fun c => ?_⟩)
  · have hc : (lz_rd t 8 0).1 = true := by
      by_cases hc : (lz_rd t 8 0).1 = true
      · exact hc
      · exact absurd (by unfold lz_re; rw [if_neg hc]) c
    have hb := lz_rd_b (t := t) 8 0 (lz_rd t 8 0).2 (Prod.ext hc rfl)
    have e1 : lz_re (lz_rd t 8 0) = nI (lz_rd t 8 0).2 := by unfold lz_re; rw [if_pos hc]
    rw [e1, nI_leI (by omega) (by omega)] at c2
    have e2 : lz_line t = (true, lz_ht t 8 0) := by unfold lz_line; rw [if_pos hc, if_neg (by omega)]
    have e3 := hD2 hc
    have e4 : D2 = (lz_line t).2 := by rw [e2, e3]; simp
    have e5 : (lz_rd t 8 0).2 = t.length := by omega
    subst e4
    exact k1 hs2 es2 bp2 (by rw [e2]) hT2 (hk1.tr hk2) (Prod.ext hc e5) (e5 ▸ (hr2.1 hc).2)
  · have hc : (lz_rd t 8 0).1 = true := by
      by_cases hc : (lz_rd t 8 0).1 = true
      · exact hc
      · exact absurd (by unfold lz_re; rw [if_neg hc]) c
    have hb := lz_rd_b (t := t) 8 0 (lz_rd t 8 0).2 (Prod.ext hc rfl)
    have e1 : lz_re (lz_rd t 8 0) = nI (lz_rd t 8 0).2 := by unfold lz_re; rw [if_pos hc]
    rw [e1, nI_leI (by omega) (by omega)] at c2
    have e2 : lz_line t = (false, (lz_rd t 8 0).2) := by unfold lz_line; rw [if_pos hc, if_pos (by omega)]
    obtain ⟨cs2, g0, g1, g2, g3⟩ := hT2
    refine ⟨_, g0, fun hs3 e3 => ?_⟩
    refine k0 hs3 es2 D2 (by rw [e2]) ?_ ?_
    · subst e3
      rw [e2, e1]
      exact ⟨cs2, mx_st_eq _ _ _, (mx_st_ne _ _ (by omega)).trans g1, (mx_st_ne _ _ (by omega)).trans g2, g3⟩
    · subst e3
      exact (hk1.tr hk2).tr (mx_kp.st (by omega) (by omega))
  · have c := Decidable.not_not.mp c
    have hc : ¬ (lz_rd t 8 0).1 = true := by
      intro hc
      have hb := lz_rd_b (t := t) 8 0 (lz_rd t 8 0).2 (Prod.ext hc rfl)
      have e1 : lz_re (lz_rd t 8 0) = nI (lz_rd t 8 0).2 := by unfold lz_re; rw [if_pos hc]
      exact lz_nm1 (by omega) (e1.symm.trans c)
    have e2 : lz_line t = (false, (lz_rd t 8 0).2) := by unfold lz_line; rw [if_neg hc]
    have e3 := hr2.2 (by simpa using hc)
    refine k0 hs2 es2 D2 (by rw [e2]) ?_ (hk1.tr hk2)
    rw [e2, ← e3]
    exact hT2
end CRD
