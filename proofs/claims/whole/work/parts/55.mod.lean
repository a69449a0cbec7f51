theorem l_copiesRow {M : Mem} {b t n : Nat} {v l d : Nat → Int} {Q : Mem → Prop} (hb : b < 6) (ht : t < 6) (hbt : ¬ b = t) (hn : n ≤ 1000) (h : MR M b n v l d)
    (hQ : ∀ M', FrW t M M' → gI M' 224 t = gI M 224 b → MR M' t n v l d → Q M') :
    ∀ f i M1, n - i = f → i ≤ n → FrW t M M1 → (∀ k, k < i → gI M1 220 (1000 * t + k) = iI (v k) ∧ gI M1 221 (1000 * t + k) = iI (l k - lp l k) ∧ gI M1 222 (1000 * t + k) = iI (d k)) → ∃ m, wX4_copiesRow_2 Q (iI b) (iI t) m M1 (iI (i : Nat)) := by
  intro f
  induction f with
  | zero =>
    intro i M1 hf hi hF hk
    have g := h.fw hn hF hbt
    have g4 := hF.2 224 b (by omega) (by omega)
    rw [ex_s rfl]
    simp only [wX4_copiesRow_2]
    simp (disch := omega) only [iI_lit, iI_neg, iI_add, iI_sub, iI_mul, iI_lt, iI_le, iI_eq, iI_in, iI_clamp, iI_mx, iI_mn, iI_nI, Int.toNat_natCast, forall_eq, br_1, br_2, br_3, br_4, br_in, br_5, br_6, br_7, br_8, ex_c, br_nl, br_le, br_ne, gp_1, gp_2, gp_3, gf_1, gf_2, ix_0, ix_1, ix_2, ix_3, tn_1, tn_2, pp_1, g.1]
    refine hQ _ (FrW.p (FrW.p hF (by omega)) (by omega)) (by simp (disch := omega) only [iI_lit, iI_neg, iI_add, iI_sub, iI_mul, iI_lt, iI_le, iI_eq, iI_in, iI_clamp, iI_mx, iI_mn, iI_nI, Int.toNat_natCast, forall_eq, br_1, br_2, br_3, br_4, br_in, br_5, br_6, br_7, br_8, ex_c, br_nl, br_le, br_ne, gp_1, gp_2, gp_3, gf_1, gf_2]; exact g4) ⟨by simp (disch := omega) only [iI_lit, iI_neg, iI_add, iI_sub, iI_mul, iI_lt, iI_le, iI_eq, iI_in, iI_clamp, iI_mx, iI_mn, iI_nI, Int.toNat_natCast, forall_eq, br_1, br_2, br_3, br_4, br_in, br_5, br_6, br_7, br_8, ex_c, br_nl, br_le, br_ne, gp_1, gp_2, gp_3, gf_1, gf_2], fun k hk' => ?_⟩
    simp (disch := omega) only [iI_lit, iI_neg, iI_add, iI_sub, iI_mul, iI_lt, iI_le, iI_eq, iI_in, iI_clamp, iI_mx, iI_mn, iI_nI, Int.toNat_natCast, forall_eq, br_1, br_2, br_3, br_4, br_in, br_5, br_6, br_7, br_8, ex_c, br_nl, br_le, br_ne, gp_1, gp_2, gp_3, gf_1, gf_2]
    exact hk k (by omega)
  | succ f ih =>
    intro i M1 hf hi hF hk
    have g := h.fw hn hF hbt
    have g3 := g.2 i (by omega)
    rw [ex_s rfl]
    simp only [wX4_copiesRow_2]
    simp (disch := omega) only [iI_lit, iI_neg, iI_add, iI_sub, iI_mul, iI_lt, iI_le, iI_eq, iI_in, iI_clamp, iI_mx, iI_mn, iI_nI, Int.toNat_natCast, forall_eq, br_1, br_2, br_3, br_4, br_in, br_5, br_6, br_7, br_8, ex_c, br_nl, br_le, br_ne, gp_1, gp_2, gp_3, gf_1, gf_2, ix_0, ix_1, ix_2, ix_3, tn_1, tn_2, pp_1, g.1, g3.1, g3.2.1, g3.2.2, m_lays ht]
    have := ih (i + 1) (pI (pI (pI M1 220 (1000 * t + i) (iI (v i))) 221 (1000 * t + i) (iI (l i - lp l i))) 222 (1000 * t + i) (iI (d i))) (by omega) (by omega) (FrW.p (FrW.p (FrW.p hF (by omega)) (by omega)) (by omega)) (fun k hk' => by
      by_cases c : k = i
      · subst c
        simp (disch := omega) only [iI_lit, iI_neg, iI_add, iI_sub, iI_mul, iI_lt, iI_le, iI_eq, iI_in, iI_clamp, iI_mx, iI_mn, iI_nI, Int.toNat_natCast, forall_eq, br_1, br_2, br_3, br_4, br_in, br_5, br_6, br_7, br_8, ex_c, br_nl, br_le, br_ne, gp_1, gp_2, gp_3, gf_1, gf_2]
        trivial
      · simp (disch := omega) only [iI_lit, iI_neg, iI_add, iI_sub, iI_mul, iI_lt, iI_le, iI_eq, iI_in, iI_clamp, iI_mx, iI_mn, iI_nI, Int.toNat_natCast, forall_eq, br_1, br_2, br_3, br_4, br_in, br_5, br_6, br_7, br_8, ex_c, br_nl, br_le, br_ne, gp_1, gp_2, gp_3, gf_1, gf_2]
        exact hk k (by omega))
    simpa using this
theorem m_copiesRow {M : Mem} {b t n : Nat} {v l d : Nat → Int} {Q : Mem → Prop} (hb : b < 6) (ht : t < 6) (hbt : ¬ b = t) (hn : n ≤ 1000) (h : MR M b n v l d)
    (hQ : ∀ M', FrW t M M' → gI M' 224 t = gI M 224 b → MR M' t n v l d → Q M') : wpX4_copiesRow M (iI b) (iI t) Q := by
  unfold wpX4_copiesRow
  have := l_copiesRow hb ht hbt hn h hQ n 0 M rfl (by omega) (FrW.r _ _) (fun k hk => by omega)
  simp (disch := omega) only [iI_lit, iI_neg, iI_add, iI_sub, iI_mul, iI_lt, iI_le, iI_eq, iI_in, iI_clamp, iI_mx, iI_mn, iI_nI, Int.toNat_natCast, forall_eq]
  simpa using this
theorem l_mjoins {M : Mem} {N1 N2 b1 b2 t n1 n2 : Nat} {v1 l1 d1 v2 l2 d2 : Nat → Int} {Q : Mem → Prop} {er : Int} (hb1 : b1 < 6) (hb2 : b2 < 6) (ht : t < 6) (h1t : ¬ b1 = t) (h2t : ¬ b2 = t) (h1 : MR M b1 n1 v1 l1 d1) (h2 : MR M b2 n2 v2 l2 d2) (hR : RI N1 n1 v1 l1 d1) (hS : RI N2 n2 v2 l2 d2) (hN : N1 + N2 ≤ 1000) (e1 : gI M 224 b1 = iI N1) (e2 : gI M 224 b2 = iI N2) (hE : gI M 200 28 = iI er) (he : 2 ≤ er ∧ er ≤ 1000)
    (hQ : ∀ M', FrW t M M' → gI M' 224 t = iI (N1 + N2 : Nat) → MR M' t (shK (n1 + n2) (jL v1 v2 l1 l2 n1 n2) (jD v1 v2 l1 l2 d1 d2 n1 n2) (bo (N1 + N2 : Nat) er)).length (sel (jV v1 v2 n1 n2) (shK (n1 + n2) (jL v1 v2 l1 l2 n1 n2) (jD v1 v2 l1 l2 d1 d2 n1 n2) (bo (N1 + N2 : Nat) er))) (sel (jL v1 v2 l1 l2 n1 n2) (shK (n1 + n2) (jL v1 v2 l1 l2 n1 n2) (jD v1 v2 l1 l2 d1 d2 n1 n2) (bo (N1 + N2 : Nat) er))) (sel (jD v1 v2 l1 l2 d1 d2 n1 n2) (shK (n1 + n2) (jL v1 v2 l1 l2 n1 n2) (jD v1 v2 l1 l2 d1 d2 n1 n2) (bo (N1 + N2 : Nat) er))) → Q M') :
    ∀ f k M1, n1 + n2 - k = f → k ≤ n1 + n2 → FrW t M M1 → (∀ q, q < k → gI M1 220 (1000 * t + q) = iI (jV v1 v2 n1 n2 q) ∧ gI M1 221 (1000 * t + q) = iI (jL v1 v2 l1 l2 n1 n2 q - lp (jL v1 v2 l1 l2 n1 n2) q) ∧ gI M1 222 (1000 * t + q) = iI (jD v1 v2 l1 l2 d1 d2 n1 n2 q)) →
      ∃ m, wX4_joins_9 Q (iI b1) (iI b2) (iI t) m M1 (iI (jI v1 v2 n1 n2 k)) (iI (k - jI v1 v2 n1 n2 k : Nat)) (iI (k : Nat)) := by
  have q1 := hR.2.1
  have q2 := hS.2.1
  intro f
  induction f with
  | zero =>
    intro k M1 hf hk hF hq
    have hb := jI_b v1 v2 n1 n2 k hk
    have g1 := h1.fw (by omega) hF h1t
    have g2 := h2.fw (by omega) hF h2t
    have g3 := (hF.2 224 b1 (by omega) (by omega)).trans e1
    have g4 := (hF.2 224 b2 (by omega) (by omega)).trans e2
    have g5 := (hF.2 200 28 (by omega) (by omega)).trans hE
    rw [ex_s rfl]
    simp only [wX4_joins_9]
    have e3 : (n1 : Int) + n2 = (n1 + n2 : Nat) := by omega
    have e4 : (N1 : Int) + N2 = (N1 + N2 : Nat) := by omega
    simp (disch := omega) only [iI_lit, iI_neg, iI_add, iI_sub, iI_mul, iI_lt, iI_le, iI_eq, iI_in, iI_clamp, iI_mx, iI_mn, iI_nI, Int.toNat_natCast, forall_eq, br_1, br_2, br_3, br_4, br_in, br_5, br_6, br_7, br_8, ex_c, br_nl, br_le, br_ne, gp_1, gp_2, gp_3, gf_1, gf_2, ix_0, ix_1, ix_2, ix_3, tn_1, tn_2, pp_1, g1.1, g2.1, g3, g4, e3, e4]
    have hbo := bo_b (n := (N1 + N2 : Nat)) (e := er) (by omega) he.1
    rw [m_boundOf (M := pI (pI M1 223 t (iI (n1 + n2 : Nat))) 224 t (iI (N1 + N2 : Nat))) (b := t) (N := N1 + N2) (e := er) ht (by simp (disch := omega) only [iI_lit, iI_neg, iI_add, iI_sub, iI_mul, iI_lt, iI_le, iI_eq, iI_in, iI_clamp, iI_mx, iI_mn, iI_nI, Int.toNat_natCast, forall_eq, br_1, br_2, br_3, br_4, br_in, br_5, br_6, br_7, br_8, ex_c, br_nl, br_le, br_ne, gp_1, gp_2, gp_3, gf_1, gf_2]) (by simp (disch := omega) only [iI_lit, iI_neg, iI_add, iI_sub, iI_mul, iI_lt, iI_le, iI_eq, iI_in, iI_clamp, iI_mx, iI_mn, iI_nI, Int.toNat_natCast, forall_eq, br_1, br_2, br_3, br_4, br_in, br_5, br_6, br_7, br_8, ex_c, br_nl, br_le, br_ne, gp_1, gp_2, gp_3, gf_1, gf_2]; exact g5) hN he]
    have hM : MR (pI (pI M1 223 t (iI (n1 + n2 : Nat))) 224 t (iI (N1 + N2 : Nat))) t (n1 + n2) (jV v1 v2 n1 n2) (jL v1 v2 l1 l2 n1 n2) (jD v1 v2 l1 l2 d1 d2 n1 n2) := by
      refine ⟨by simp (disch := omega) only [iI_lit, iI_neg, iI_add, iI_sub, iI_mul, iI_lt, iI_le, iI_eq, iI_in, iI_clamp, iI_mx, iI_mn, iI_nI, Int.toNat_natCast, forall_eq, br_1, br_2, br_3, br_4, br_in, br_5, br_6, br_7, br_8, ex_c, br_nl, br_le, br_ne, gp_1, gp_2, gp_3, gf_1, gf_2], fun j hj => ?_⟩
      simp (disch := omega) only [iI_lit, iI_neg, iI_add, iI_sub, iI_mul, iI_lt, iI_le, iI_eq, iI_in, iI_clamp, iI_mx, iI_mn, iI_nI, Int.toNat_natCast, forall_eq, br_1, br_2, br_3, br_4, br_in, br_5, br_6, br_7, br_8, ex_c, br_nl, br_le, br_ne, gp_1, gp_2, gp_3, gf_1, gf_2]
      exact hq j (by omega)
    refine m_shortens (Q := fun _ M => Q M) ht hM (RI_join hR hS hN) (by omega) (fun M2 hF2 g6 hM2 => ?_)
    refine hQ M2 (FrW.t (FrW.p (FrW.p hF (by omega)) (by omega)) hF2) ?_ hM2
    rw [g6]
    simp (disch := omega) only [iI_lit, iI_neg, iI_add, iI_sub, iI_mul, iI_lt, iI_le, iI_eq, iI_in, iI_clamp, iI_mx, iI_mn, iI_nI, Int.toNat_natCast, forall_eq, br_1, br_2, br_3, br_4, br_in, br_5, br_6, br_7, br_8, ex_c, br_nl, br_le, br_ne, gp_1, gp_2, gp_3, gf_1, gf_2]
  | succ f ih =>
    intro k M1 hf hk hF hq
    have hb := jI_b v1 v2 n1 n2 k hk
    have g1 := h1.fw (by omega) hF h1t
    have g2 := h2.fw (by omega) hF h2t
    have hne := jI_s v1 v2 n1 n2 k
    have step : ∀ x y z : Int32, x = iI (jV v1 v2 n1 n2 k) → y = iI (jL v1 v2 l1 l2 n1 n2 k - lp (jL v1 v2 l1 l2 n1 n2) k) → z = iI (jD v1 v2 l1 l2 d1 d2 n1 n2 k) → ∃ m, wX4_joins_9 Q (iI b1) (iI b2) (iI t) m (pI (pI (pI M1 220 (1000 * t + k) x) 221 (1000 * t + k) y) 222 (1000 * t + k) z) (iI (jI v1 v2 n1 n2 (k + 1))) (iI (k + 1 - jI v1 v2 n1 n2 (k + 1) : Nat)) (iI (k + 1 : Nat)) := by
      intro x y z hx hy hz
      refine ih (k + 1) _ (by omega) (by omega) (FrW.p (FrW.p (FrW.p hF (by omega)) (by omega)) (by omega)) ?_
      intro q hq'
      by_cases c : q = k
      · subst c
        simp (disch := omega) only [iI_lit, iI_neg, iI_add, iI_sub, iI_mul, iI_lt, iI_le, iI_eq, iI_in, iI_clamp, iI_mx, iI_mn, iI_nI, Int.toNat_natCast, forall_eq, br_1, br_2, br_3, br_4, br_in, br_5, br_6, br_7, br_8, ex_c, br_nl, br_le, br_ne, gp_1, gp_2, gp_3, gf_1, gf_2]
        exact ⟨hx, hy, hz⟩
      · simp (disch := omega) only [iI_lit, iI_neg, iI_add, iI_sub, iI_mul, iI_lt, iI_le, iI_eq, iI_in, iI_clamp, iI_mx, iI_mn, iI_nI, Int.toNat_natCast, forall_eq, br_1, br_2, br_3, br_4, br_in, br_5, br_6, br_7, br_8, ex_c, br_nl, br_le, br_ne, gp_1, gp_2, gp_3, gf_1, gf_2]
        exact hq q (by omega)
    have e3 : (n1 : Int) + n2 = (n1 + n2 : Nat) := by omega
    rw [lp_jL] at step
    rw [ex_s rfl]
    by_cases c : jF v1 v2 n1 n2 k = true
    · have s1 := fun x y z hx => step x y z (by rw [jV, if_pos c]; exact hx)
      rw [jL_1 (by omega) c, jD, if_pos c, jA, aW, hne, if_pos c, show k + 1 - (jI v1 v2 n1 n2 k + 1) = k - jI v1 v2 n1 n2 k by omega] at s1
      simp only [jF, decide_eq_true_eq] at c
      simp only [Int.natCast_add, Int.natCast_one] at s1
      have v3 := g1.2 (jI v1 v2 n1 n2 k) (by omega)
      have r3 := hR.2.2.2.1 (jI v1 v2 n1 n2 k) (by omega)
      have eg : l1 (jI v1 v2 n1 n2 k) + lp l2 (k - jI v1 v2 n1 n2 k) - (lp l1 (jI v1 v2 n1 n2 k) + lp l2 (k - jI v1 v2 n1 n2 k)) = l1 (jI v1 v2 n1 n2 k) - lp l1 (jI v1 v2 n1 n2 k) := by omega
      rw [eg] at s1
      simp only [wX4_joins_9, wX4_joins_83, wX4_joins_135, wX4_joins_177, wX4_joins_230]
      by_cases c2 : n2 ≤ k - jI v1 v2 n1 n2 k
      · rw [if_neg (by omega)] at s1
        simp (disch := omega) only [iI_lit, iI_neg, iI_add, iI_sub, iI_mul, iI_lt, iI_le, iI_eq, iI_in, iI_clamp, iI_mx, iI_mn, iI_nI, Int.toNat_natCast, forall_eq, br_1, br_2, br_3, br_4, br_in, br_5, br_6, br_7, br_8, ex_c, br_nl, br_le, br_ne, gp_1, gp_2, gp_3, gf_1, gf_2, ix_0, ix_1, ix_2, ix_3, tn_1, tn_2, pp_1, g1.1, g2.1, e3, v3.1, v3.2.1, v3.2.2, m_lays ht, Int.add_zero]
        exact s1 _ _ _ rfl rfl (by rw [Int.add_zero])
      · rw [if_pos (by omega)] at s1
        have v4 := g2.2 (k - jI v1 v2 n1 n2 k) (by omega)
        have r4 := hS.2.2.2.1 (k - jI v1 v2 n1 n2 k) (by omega)
        simp (disch := omega) only [iI_lit, iI_neg, iI_add, iI_sub, iI_mul, iI_lt, iI_le, iI_eq, iI_in, iI_clamp, iI_mx, iI_mn, iI_nI, Int.toNat_natCast, forall_eq, br_1, br_2, br_3, br_4, br_in, br_5, br_6, br_7, br_8, ex_c, br_nl, br_le, br_ne, gp_1, gp_2, gp_3, gf_1, gf_2, ix_0, ix_1, ix_2, ix_3, tn_1, tn_2, pp_1, g1.1, g2.1, e3, v3.1, v3.2.1, v3.2.2, v4.1, v4.2.1, v4.2.2, m_lays ht, Int.add_zero]
        exact s1 _ _ _ rfl rfl rfl
    · have s1 := fun x y z hx => step x y z (by rw [jV, if_neg c]; exact hx)
      rw [jL_2 (by omega) c, jD, if_neg c, jA, aW, hne, if_neg c, show k + 1 - jI v1 v2 n1 n2 k = k - jI v1 v2 n1 n2 k + 1 by omega] at s1
      simp only [jF, decide_eq_true_eq] at c
      simp only [Int.natCast_add, Int.natCast_one] at s1
      have v4 := g2.2 (k - jI v1 v2 n1 n2 k) (by omega)
      have r4 := hS.2.2.2.1 (k - jI v1 v2 n1 n2 k) (by omega)
      have eg : l2 (k - jI v1 v2 n1 n2 k) + lp l1 (jI v1 v2 n1 n2 k) - (lp l1 (jI v1 v2 n1 n2 k) + lp l2 (k - jI v1 v2 n1 n2 k)) = l2 (k - jI v1 v2 n1 n2 k) - lp l2 (k - jI v1 v2 n1 n2 k) := by omega
      rw [eg] at s1
      simp only [wX4_joins_9, wX4_joins_83, wX4_joins_135, wX4_joins_177, wX4_joins_230]
      by_cases c2 : n1 ≤ jI v1 v2 n1 n2 k
      · rw [if_neg (by omega)] at s1
        simp (disch := omega) only [iI_lit, iI_neg, iI_add, iI_sub, iI_mul, iI_lt, iI_le, iI_eq, iI_in, iI_clamp, iI_mx, iI_mn, iI_nI, Int.toNat_natCast, forall_eq, br_1, br_2, br_3, br_4, br_in, br_5, br_6, br_7, br_8, ex_c, br_nl, br_le, br_ne, gp_1, gp_2, gp_3, gf_1, gf_2, ix_0, ix_1, ix_2, ix_3, tn_1, tn_2, pp_1, g1.1, g2.1, e3, v4.1, v4.2.1, v4.2.2, m_lays ht, Int.add_zero]
        exact s1 _ _ _ rfl rfl (by rw [Int.add_zero])
      · rw [if_pos (by omega)] at s1
        have v3 := g1.2 (jI v1 v2 n1 n2 k) (by omega)
        have r3 := hR.2.2.2.1 (jI v1 v2 n1 n2 k) (by omega)
        simp (disch := omega) only [iI_lit, iI_neg, iI_add, iI_sub, iI_mul, iI_lt, iI_le, iI_eq, iI_in, iI_clamp, iI_mx, iI_mn, iI_nI, Int.toNat_natCast, forall_eq, br_1, br_2, br_3, br_4, br_in, br_5, br_6, br_7, br_8, ex_c, br_nl, br_le, br_ne, gp_1, gp_2, gp_3, gf_1, gf_2, ix_0, ix_1, ix_2, ix_3, tn_1, tn_2, pp_1, g1.1, g2.1, e3, v3.1, v3.2.1, v3.2.2, v4.1, v4.2.1, v4.2.2, m_lays ht, Int.add_zero]
        exact s1 _ _ _ rfl rfl rfl
