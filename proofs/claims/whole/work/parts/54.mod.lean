theorem lp_sel {l : Nat → Int} {K : List Nat} {q : Nat} : lp (sel l K) q = if q = 0 then 0 else l (K.getD (q - 1) 0) := rfl
theorem l_mshortens {M : Mem} {N b n : Nat} {v l d : Nat → Int} {Q : Qi} {bo : Int} {Kf : List Nat} (hb : b < 6) (hR : RI N n v l d) (ho : 0 ≤ bo ∧ bo ≤ 1000)
    (hQ : ∀ M', FrW b M M' → gI M' 224 b = gI M 224 b → MR M' b Kf.length (sel v Kf) (sel l Kf) (sel d Kf) → Q (iI ((n : Int) - Kf.length)) M') :
    ∀ f i K M1 m, i ≤ f → f < m → kp (fun k => bd (d k) bo) l d bo f i K = Kf → FrW b M M1 → gI M1 224 b = gI M 224 b → gI M1 223 b = iI (i + 1 + K.length : Nat) → i + 1 + K.length ≤ n → SL n i K →
      (∀ k, k ≤ i → gI M1 220 (1000 * b + k) = iI (v k) ∧ gI M1 221 (1000 * b + k) = iI (l k - lp l k) ∧ gI M1 222 (1000 * b + k) = iI (d k)) →
      (∀ q, q < K.length → gI M1 220 (1000 * b + (i + 1 + q)) = iI (v (K.getD q 0)) ∧ gI M1 221 (1000 * b + (i + 1 + q)) = iI (l (K.getD q 0) - (if q = 0 then l i else l (K.getD (q - 1) 0))) ∧ gI M1 222 (1000 * b + (i + 1 + q)) = iI (d (K.getD q 0))) →
      wX4_shortens_12 Q (iI b) (iI bo) (iI n) m M1 (iI (i : Nat)) := by
  have hn : n ≤ 1000 := Nat.le_trans hR.2.1 hR.1
  have hN := hR.1
  have fin : ∀ i K M1 m, 0 < m → i = 0 → 0 :: K = Kf → FrW b M M1 → gI M1 224 b = gI M 224 b → gI M1 223 b = iI (i + 1 + K.length : Nat) → i + 1 + K.length ≤ n →
      (∀ k, k ≤ i → gI M1 220 (1000 * b + k) = iI (v k) ∧ gI M1 221 (1000 * b + k) = iI (l k - lp l k) ∧ gI M1 222 (1000 * b + k) = iI (d k)) →
      (∀ q, q < K.length → gI M1 220 (1000 * b + (i + 1 + q)) = iI (v (K.getD q 0)) ∧ gI M1 221 (1000 * b + (i + 1 + q)) = iI (l (K.getD q 0) - (if q = 0 then l i else l (K.getD (q - 1) 0))) ∧ gI M1 222 (1000 * b + (i + 1 + q)) = iI (d (K.getD q 0))) →
      wX4_shortens_12 Q (iI b) (iI bo) (iI n) m M1 (iI (i : Nat)) := by
    intro i K M1 m hm hi hK hF h4 h3 hlen hlo hhi
    subst hi
    subst hK
    obtain ⟨m, rfl⟩ : ∃ m', m = m' + 1 := ⟨m - 1, by omega⟩
    simp only [wX4_shortens_12]
    simp (disch := omega) only [iI_lit, iI_neg, iI_add, iI_sub, iI_mul, iI_lt, iI_le, iI_eq, iI_in, iI_clamp, iI_mx, iI_mn, iI_nI, Int.toNat_natCast, forall_eq, br_1, br_2, br_3, br_4, br_in, br_5, br_6, br_7, br_8, ex_c, br_nl, br_le, br_ne, gp_1, gp_2, gp_3, gf_1, gf_2, ix_0, ix_1, ix_2, ix_3, tn_1, tn_2, pp_1, h3]
    have e : (n : Int) - ((0 + 1 + K.length : Nat) : Int) = (n : Int) - ((0 :: K).length : Nat) := by
      rw [List.length_cons]
      omega
    rw [e]
    refine hQ M1 hF h4 ⟨by rw [h3, List.length_cons, show 0 + 1 + K.length = K.length + 1 by omega], fun k hk => ?_⟩
    rw [lp_sel]
    unfold sel
    cases k with
    | zero =>
      have := hlo 0 (Nat.le_refl 0)
      simpa [lp] using this
    | succ q =>
      have := hhi q (by simpa using hk)
      rw [show 0 + 1 + q = q + 1 by omega] at this
      cases q with
      | zero => simpa using this
      | succ q => simpa using this
  intro f
  induction f with
  | zero =>
    intro i K M1 m hif hm hK hF h4 h3 hlen hS hlo hhi
    exact fin i K M1 m hm (by omega) hK hF h4 h3 hlen hlo hhi
  | succ f ih =>
    intro i K M1 m hif hm hK hF h4 h3 hlen hS hlo hhi
    rw [kp] at hK
    by_cases c0 : i = 0
    · rw [if_pos c0] at hK
      exact fin i K M1 m (by omega) c0 hK hF h4 h3 hlen hlo hhi
    · rw [if_neg c0] at hK
      obtain ⟨m, rfl⟩ : ∃ m', m = m' + 1 := ⟨m - 1, by omega⟩
      have hf := fam_b (fun k => bd (d k) bo) (bd (d i) bo) i (by omega)
      have h0 := hS.1
      have b0 := hhi 0 h0
      rw [Nat.add_zero, if_pos rfl] at b0
      have b1 := hlo i (Nat.le_refl i)
      have b2 := hS.hi (K.length - 1) 0 (by omega)
      have b3 := hR.2.2.2.1 (K.getD 0 0) (by omega)
      have b4 := hR.2.2.2.1 i (by omega)
      have b5 := hR.lm (i := i) (j := K.getD 0 0) hS.2.2.1 (by omega)
      have b6 := hR.lpb (k := fam (fun k => bd (d k) bo) (bd (d i) bo) i) (by omega)
      have hd : ∀ k, k ≤ i → gI M1 222 (1000 * b + k) = iI (d k) ∧ 0 ≤ d k ∧ d k ≤ 1000 := fun k hk => by
        have := hR.2.2.2.1 k (by omega)
        exact ⟨(hlo k hk).2.2, by omega, by omega⟩
      have hC := fun Q' : Qi => m_canGo (Q := Q') (M := M1) (l := l) hb (show 1 ≤ i by omega) (n := i + 1 + K.length) (by omega) (by omega) h3 ho hd (fun k hk => (hlo k hk).2.1) (fun k hk => by
        have := hR.lpb (k := k) (by omega)
        omega) b0.2.1 (by omega) b0.2.2 (by omega)
      have hFm := fun Q' : Qi => m_familyFrom (Q := Q') (M := M1) hb (show i < 1000 by omega) ho hd
      simp only [wX4_shortens_12]
      have e2 : (i : Int) + -1 = (i - 1 : Nat) := by omega
      by_cases c : bd (d i) bo ≤ bd (d (K.getD 0 0)) bo ∧ l (K.getD 0 0) - lp l (fam (fun k => bd (d k) bo) (bd (d i) bo) i) + d (K.getD 0 0) ≤ bo
      · rw [if_pos c] at hK
        rw [if_pos (by omega)] at hC
        have hG := fun Q' : Qi => m_gaps (Q := Q') (M := M1) (l := l) hb (show i + 1 ≤ 1000 by omega) (show fam (fun k => bd (d k) bo) (bd (d i) bo) i ≤ i + 1 by omega) (fun k _ q => (hlo k (by omega)).2.1) (t := i) (by omega)
        rw [lp_s] at hG
        have e1 : (i : Int) + 1 = (i + 1 : Nat) := by omega
        have e3 : ((fam (fun k => bd (d k) bo) (bd (d i) bo) i : Nat) : Int) - i - 1 = -((i + 1 - fam (fun k => bd (d k) bo) (bd (d i) bo) i : Nat) : Int) := by omega
        have e4 : ((fam (fun k => bd (d k) bo) (bd (d i) bo) i : Nat) : Int) - 1 = (fam (fun k => bd (d k) bo) (bd (d i) bo) i - 1 : Nat) := by omega
        simp (disch := omega) only [iI_lit, iI_neg, iI_add, iI_sub, iI_mul, iI_lt, iI_le, iI_eq, iI_in, iI_clamp, iI_mx, iI_mn, iI_nI, Int.toNat_natCast, forall_eq, br_1, br_2, br_3, br_4, br_in, br_5, br_6, br_7, br_8, ex_c, br_nl, br_le, br_ne, gp_1, gp_2, gp_3, gf_1, gf_2, ix_0, ix_1, ix_2, ix_3, tn_1, tn_2, pp_1, hC, hFm, hG, b0.2.1]
        generalize hfe : fam (fun k => bd (d k) bo) (bd (d i) bo) i = fm at *
        rw [e3, e1, e4]
        refine m_shiftDn hb (n := i + 1 + K.length) (by omega) (by omega) (by omega) (by simp (disch := omega) only [iI_lit, iI_neg, iI_add, iI_sub, iI_mul, iI_lt, iI_le, iI_eq, iI_in, iI_clamp, iI_mx, iI_mn, iI_nI, Int.toNat_natCast, forall_eq, br_1, br_2, br_3, br_4, br_in, br_5, br_6, br_7, br_8, ex_c, br_nl, br_le, br_ne, gp_1, gp_2, gp_3, gf_1, gf_2]; exact h3) (fun M2 hF2 g3 g4 glo ghi => ?_)
        rw [show i + 1 + K.length - (i + 1 - fm) = fm - 1 + 1 + K.length by omega] at g3
        refine ih (fm - 1) K M2 m (by omega) (by omega) hK (FrW.t (FrW.p hF (by omega)) hF2) ?_ g3 (by omega) (hS.le (by omega)) (fun k hk => ?_) (fun q hq => ?_)
        · rw [g4]
          simp (disch := omega) only [iI_lit, iI_neg, iI_add, iI_sub, iI_mul, iI_lt, iI_le, iI_eq, iI_in, iI_clamp, iI_mx, iI_mn, iI_nI, Int.toNat_natCast, forall_eq, br_1, br_2, br_3, br_4, br_in, br_5, br_6, br_7, br_8, ex_c, br_nl, br_le, br_ne, gp_1, gp_2, gp_3, gf_1, gf_2]
          exact h4
        · rw [glo 220 k (by omega) (by omega) (by omega), glo 221 k (by omega) (by omega) (by omega), glo 222 k (by omega) (by omega) (by omega)]
          simp (disch := omega) only [iI_lit, iI_neg, iI_add, iI_sub, iI_mul, iI_lt, iI_le, iI_eq, iI_in, iI_clamp, iI_mx, iI_mn, iI_nI, Int.toNat_natCast, forall_eq, br_1, br_2, br_3, br_4, br_in, br_5, br_6, br_7, br_8, ex_c, br_nl, br_le, br_ne, gp_1, gp_2, gp_3, gf_1, gf_2]
          exact hlo k (by omega)
        · have w0 := ghi 220 (i + 1 + q) (by omega) (by omega) (by omega) (by omega)
          have w1 := ghi 221 (i + 1 + q) (by omega) (by omega) (by omega) (by omega)
          have w2 := ghi 222 (i + 1 + q) (by omega) (by omega) (by omega) (by omega)
          rw [show i + 1 + q - (i + 1 - fm) = fm - 1 + 1 + q by omega] at w0 w1 w2
          have w := hhi q hq
          rw [w0, w1, w2]
          refine ⟨?_, ?_, ?_⟩
          · simp (disch := omega) only [iI_lit, iI_neg, iI_add, iI_sub, iI_mul, iI_lt, iI_le, iI_eq, iI_in, iI_clamp, iI_mx, iI_mn, iI_nI, Int.toNat_natCast, forall_eq, br_1, br_2, br_3, br_4, br_in, br_5, br_6, br_7, br_8, ex_c, br_nl, br_le, br_ne, gp_1, gp_2, gp_3, gf_1, gf_2]
            exact w.1
          · by_cases cq : q = 0
            · subst cq
              rw [if_pos rfl]
              simp (disch := omega) only [iI_lit, iI_neg, iI_add, iI_sub, iI_mul, iI_lt, iI_le, iI_eq, iI_in, iI_clamp, iI_mx, iI_mn, iI_nI, Int.toNat_natCast, forall_eq, br_1, br_2, br_3, br_4, br_in, br_5, br_6, br_7, br_8, ex_c, br_nl, br_le, br_ne, gp_1, gp_2, gp_3, gf_1, gf_2]
              have : lp l fm = l (fm - 1) := by simp [lp, show ¬ fm = 0 by omega]
              rw [this]
              congr 1
              omega
            · rw [if_neg cq] at w ⊢
              rw [gp_3 (by omega)]
              exact w.2.1
          · simp (disch := omega) only [iI_lit, iI_neg, iI_add, iI_sub, iI_mul, iI_lt, iI_le, iI_eq, iI_in, iI_clamp, iI_mx, iI_mn, iI_nI, Int.toNat_natCast, forall_eq, br_1, br_2, br_3, br_4, br_in, br_5, br_6, br_7, br_8, ex_c, br_nl, br_le, br_ne, gp_1, gp_2, gp_3, gf_1, gf_2]
            exact w.2.2
      · rw [if_neg c] at hK
        rw [if_neg (by omega)] at hC
        simp (disch := omega) only [iI_lit, iI_neg, iI_add, iI_sub, iI_mul, iI_lt, iI_le, iI_eq, iI_in, iI_clamp, iI_mx, iI_mn, iI_nI, Int.toNat_natCast, forall_eq, br_1, br_2, br_3, br_4, br_in, br_5, br_6, br_7, br_8, ex_c, br_nl, br_le, br_ne, gp_1, gp_2, gp_3, gf_1, gf_2, ix_0, ix_1, ix_2, ix_3, tn_1, tn_2, pp_1, hC, e2]
        have hc := hS.co (j := 0)
        refine ih (i - 1) (i :: K) M1 m (by omega) (by omega) hK hF h4 ?_ (by rw [List.length_cons]; omega) ⟨by simp, hc.1, by simp; omega, hc.2⟩ (fun k hk => hlo k (by omega)) (fun q hq => ?_)
        · rw [h3, List.length_cons, show i - 1 + 1 + (K.length + 1) = i + 1 + K.length by omega]
        · cases q with
          | zero =>
            have : lp l i = l (i - 1) := by simp [lp, c0]
            rw [this] at b1
            rw [show i - 1 + 1 + 0 = i by omega]
            simpa using b1
          | succ q =>
            have w := hhi q (by simpa using hq)
            rw [show i - 1 + 1 + (q + 1) = i + 1 + q by omega]
            cases q with
            | zero => simpa using w
            | succ q => simpa using w
theorem m_shortens {M : Mem} {N b n : Nat} {v l d : Nat → Int} {Q : Qi} {bo : Int} (hb : b < 6) (h : MR M b n v l d) (hR : RI N n v l d) (ho : 0 ≤ bo ∧ bo ≤ 1000)
    (hQ : ∀ M', FrW b M M' → gI M' 224 b = gI M 224 b → MR M' b (shK n l d bo).length (sel v (shK n l d bo)) (sel l (shK n l d bo)) (sel d (shK n l d bo)) → Q (iI ((n : Int) - (shK n l d bo).length)) M') : wpX4_shortens M (iI b) (iI bo) Q := by
  have hn : n ≤ 1000 := Nat.le_trans hR.2.1 hR.1
  unfold wpX4_shortens
  by_cases c : 3 ≤ n
  · have e : (n : Int) - 2 = (n - 2 : Nat) := by omega
    simp (disch := omega) only [iI_lit, iI_neg, iI_add, iI_sub, iI_mul, iI_lt, iI_le, iI_eq, iI_in, iI_clamp, iI_mx, iI_mn, iI_nI, Int.toNat_natCast, forall_eq, br_1, br_2, br_3, br_4, br_in, br_5, br_6, br_7, br_8, ex_c, br_nl, br_le, br_ne, gp_1, gp_2, gp_3, gf_1, gf_2, ix_0, ix_1, ix_2, ix_3, tn_1, tn_2, pp_1, h.1, e]
    refine ⟨n, ?_⟩
    refine l_mshortens (M := M) (v := v) (l := l) (d := d) (Kf := shK n l d bo) hb hR ho hQ (n - 2) (n - 2) [n - 1] M n (Nat.le_refl _) (by omega) ?_ (FrW.r _ _) rfl ?_ ?_ (SL_1 (by omega)) ?_ ?_
    · unfold shK
      rw [if_neg (by omega)]
    · rw [h.1, List.length_singleton, show n - 2 + 1 + 1 = n by omega]
    · rw [List.length_singleton]
      omega
    · intro k hk
      exact h.2 k (by omega)
    · intro q hq
      have : q = 0 := by simpa using hq
      subst this
      have w := h.2 (n - 1) (by omega)
      have : lp l (n - 1) = l (n - 2) := by simp [lp, show ¬ n - 1 = 0 by omega]; rfl
      rw [this] at w
      rw [show n - 2 + 1 + 0 = n - 1 by omega]
      simpa using w
  · have e : shK n l d bo = List.range n := by
      unfold shK
      rw [if_pos (by omega)]
    have := hQ M (FrW.r _ _) rfl
    rw [e, List.length_range, Int.sub_self] at this
    refine ?_
    simp (disch := omega) only [iI_lit, iI_neg, iI_add, iI_sub, iI_mul, iI_lt, iI_le, iI_eq, iI_in, iI_clamp, iI_mx, iI_mn, iI_nI, Int.toNat_natCast, forall_eq, br_1, br_2, br_3, br_4, br_in, br_5, br_6, br_7, br_8, ex_c, br_nl, br_le, br_ne, gp_1, gp_2, gp_3, gf_1, gf_2, ix_0, ix_1, ix_2, ix_3, tn_1, tn_2, pp_1, h.1]
    rw [ex_s rfl]
    simp only [wX4_shortens_12]
    simp (disch := omega) only [iI_lit, iI_neg, iI_add, iI_sub, iI_mul, iI_lt, iI_le, iI_eq, iI_in, iI_clamp, iI_mx, iI_mn, iI_nI, Int.toNat_natCast, forall_eq, br_1, br_2, br_3, br_4, br_in, br_5, br_6, br_7, br_8, ex_c, br_nl, br_le, br_ne, gp_1, gp_2, gp_3, gf_1, gf_2, ix_0, ix_1, ix_2, ix_3, tn_1, tn_2, pp_1, h.1, Int.sub_self]
    refine this ⟨h.1, fun k hk => ?_⟩
    have w := h.2 k hk
    have e1 : sel l (List.range n) k = l k := by unfold sel; rw [range_at hk]
    have e2 : lp (sel l (List.range n)) k = lp l k := by
      rw [lp_sel]
      unfold lp
      split
      · rfl
      · rw [range_at (by omega)]
    rw [e1, e2]
    unfold sel
    rw [range_at hk]
    exact w
