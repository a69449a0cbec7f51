theorem CR.p {a n b k : Nat} {v l d : Nat → Int} {M : Mem} {x : Int32} (h : CR M a n v l d) (hb : b < a ∨ a + 4 < b) : CR (pI M b k x) a n v l d := h.fr (Fr.p (lo := b) (hi := b) (Fr.r _ _ _) (by omega)) (by omega)
theorem e_joinTuple {M : Mem} {a b1 b2 n1 n2 : Nat} {v1 l1 d1 v2 l2 d2 : Nat → Int} {Q : Mem → Prop} (h1 : CR M b1 n1 v1 l1 d1) (h2 : CR M b2 n2 v2 l2 d2) (hn1 : n1 ≤ 1000) (hn2 : n2 ≤ 1000) (hb1 : a + 4 < b1 ∨ b1 + 4 < a) (hb2 : a + 4 < b2 ∨ b2 + 4 < a) {k i j : Int} (hk : 0 ≤ k ∧ k < 1000) (hi : 0 ≤ i ∧ i < n1) (hj : 0 ≤ j ∧ j ≤ n2) :
    wpX0_joinTuple M a (iI k) b1 (iI i) b2 (iI j) Q = Q (pI (pI (pI M (a + 1) k.toNat (iI (v1 i.toNat))) (a + 2) k.toNat (iI (l1 i.toNat + lp l2 j.toNat))) (a + 3) k.toNat (iI (d1 i.toNat + aW l2 d2 n2 j.toNat))) := by
  have g1 := h1.2 i.toNat (by omega)
  have c1 := h2.p (k := k.toNat) (x := iI (v1 i.toNat)) (show a + 1 < b2 ∨ b2 + 4 < a + 1 by omega)
  have c2 := c1.p (k := k.toNat) (x := iI (l1 i.toNat + lp l2 j.toNat)) (show a + 2 < b2 ∨ b2 + 4 < a + 2 by omega)
  unfold wpX0_joinTuple aW
  by_cases c : j < n2
  · simp (disch := omega) only [iI_lit, iI_neg, iI_add, iI_sub, iI_mul, iI_lt, iI_le, iI_eq, iI_in, iI_clamp, iI_mx, iI_mn, iI_nI, Int.toNat_natCast, forall_eq, br_1, br_2, br_3, br_4, br_in, br_5, br_6, br_7, br_8, ex_c, br_nl, br_le, br_ne, gp_1, gp_2, gp_3, gf_1, gf_2, g1.1, g1.2.1, g1.2.2, e_lowAhead c1 hn2, e_width c2 hn2, h2.1]
    rw [if_pos (by omega)]
  · simp (disch := omega) only [iI_lit, iI_neg, iI_add, iI_sub, iI_mul, iI_lt, iI_le, iI_eq, iI_in, iI_clamp, iI_mx, iI_mn, iI_nI, Int.toNat_natCast, forall_eq, br_1, br_2, br_3, br_4, br_in, br_5, br_6, br_7, br_8, ex_c, br_nl, br_le, br_ne, gp_1, gp_2, gp_3, gf_1, gf_2, g1.1, g1.2.1, g1.2.2, e_lowAhead c1 hn2, h2.1]
    rw [if_neg (by omega)]
theorem l_joinOf {M : Mem} {a b1 b2 n1 n2 : Nat} {v1 l1 d1 v2 l2 d2 : Nat → Int} {Q : Mem → Prop} (h1 : CR M b1 n1 v1 l1 d1) (h2 : CR M b2 n2 v2 l2 d2) (hn : n1 + n2 ≤ 1000) (hb1 : a + 4 < b1 ∨ b1 + 4 < a) (hb2 : a + 4 < b2 ∨ b2 + 4 < a) (r1 : ∀ k, k < n1 → 0 ≤ v1 k ∧ v1 k < 1000) (r2 : ∀ k, k < n2 → 0 ≤ v2 k ∧ v2 k < 1000)
    (hQ : ∀ M', Fr a (a + 4) M M' → CR M' a (n1 + n2) (jV v1 v2 n1 n2) (jL v1 v2 l1 l2 n1 n2) (jD v1 v2 l1 l2 d1 d2 n1 n2) → Q M') :
    ∀ f k M1, n1 + n2 - k = f → k ≤ n1 + n2 → Fr a (a + 4) M M1 → gI M1 a 4 = iI (n1 + n2 : Nat) → (∀ q, q < k → gI M1 (a + 1) q = iI (jV v1 v2 n1 n2 q) ∧ gI M1 (a + 2) q = iI (jL v1 v2 l1 l2 n1 n2 q) ∧ gI M1 (a + 3) q = iI (jD v1 v2 l1 l2 d1 d2 n1 n2 q)) →
      ∃ m, wX0_joinOf_27 Q a b1 b2 m M1 (iI (jI v1 v2 n1 n2 k)) (iI (k - jI v1 v2 n1 n2 k : Nat)) (iI (k : Nat)) := by
  intro f
  induction f with
  | zero =>
    intro k M1 hf hk hF h4 hq
    rw [ex_s rfl]
    have hb := jI_b v1 v2 n1 n2 k hk
    simp only [wX0_joinOf_27, h4]
    simp (disch := omega) only [iI_lit, iI_neg, iI_add, iI_sub, iI_mul, iI_lt, iI_le, iI_eq, iI_in, iI_clamp, iI_mx, iI_mn, iI_nI, Int.toNat_natCast, forall_eq, br_1, br_2, br_3, br_4, br_in, br_5, br_6, br_7, br_8, ex_c, br_nl, br_le, br_ne, gp_1, gp_2, gp_3, gf_1, gf_2]
    exact hQ M1 hF ⟨h4, fun q hq' => hq q (by omega)⟩
  | succ f ih =>
    intro k M1 hf hk hF h4 hq
    have hb := jI_b v1 v2 n1 n2 k hk
    have g1 := h1.fr hF (by omega)
    have g2 := h2.fr hF (by omega)
    have hne := jI_s v1 v2 n1 n2 k
    have step : ∀ x y z : Int32, x = iI (jV v1 v2 n1 n2 k) → y = iI (jL v1 v2 l1 l2 n1 n2 k) → z = iI (jD v1 v2 l1 l2 d1 d2 n1 n2 k) → ∃ m, wX0_joinOf_27 Q a b1 b2 m (pI (pI (pI M1 (a + 1) k x) (a + 2) k y) (a + 3) k z) (iI (jI v1 v2 n1 n2 (k + 1))) (iI (k + 1 - jI v1 v2 n1 n2 (k + 1) : Nat)) (iI (k + 1 : Nat)) := by
      intro x y z hx hy hz
      refine ih (k + 1) _ (by omega) (by omega) (Fr.p (Fr.p (Fr.p hF (by omega)) (by omega)) (by omega)) (by simp (disch := omega) only [iI_lit, iI_neg, iI_add, iI_sub, iI_mul, iI_lt, iI_le, iI_eq, iI_in, iI_clamp, iI_mx, iI_mn, iI_nI, Int.toNat_natCast, forall_eq, br_1, br_2, br_3, br_4, br_in, br_5, br_6, br_7, br_8, ex_c, br_nl, br_le, br_ne, gp_1, gp_2, gp_3, gf_1, gf_2, h4]) ?_
      intro q hq'
      by_cases c : q = k
      · subst c
        simp (disch := omega) only [iI_lit, iI_neg, iI_add, iI_sub, iI_mul, iI_lt, iI_le, iI_eq, iI_in, iI_clamp, iI_mx, iI_mn, iI_nI, Int.toNat_natCast, forall_eq, br_1, br_2, br_3, br_4, br_in, br_5, br_6, br_7, br_8, ex_c, br_nl, br_le, br_ne, gp_1, gp_2, gp_3, gf_1, gf_2]
        exact ⟨hx, hy, hz⟩
      · simp (disch := omega) only [iI_lit, iI_neg, iI_add, iI_sub, iI_mul, iI_lt, iI_le, iI_eq, iI_in, iI_clamp, iI_mx, iI_mn, iI_nI, Int.toNat_natCast, forall_eq, br_1, br_2, br_3, br_4, br_in, br_5, br_6, br_7, br_8, ex_c, br_nl, br_le, br_ne, gp_1, gp_2, gp_3, gf_1, gf_2]
        exact hq q (by omega)
    rw [ex_s rfl]
    simp only [wX0_joinOf_27, wX0_joinOf_74, h4, g1.1, g2.1]
    by_cases c : jF v1 v2 n1 n2 k = true
    · have s1 := step _ _ _ (by rw [jV, if_pos c]) (by rw [jL_1 (by omega) c]) (by rw [jD, if_pos c])
      rw [hne, if_pos c, show k + 1 - (jI v1 v2 n1 n2 k + 1) = k - jI v1 v2 n1 n2 k by omega] at s1
      simp only [jF, decide_eq_true_eq] at c
      simp only [Int.natCast_add, Int.natCast_one] at s1
      by_cases c2 : n2 ≤ k - jI v1 v2 n1 n2 k
      · simp (disch := omega) only [iI_lit, iI_neg, iI_add, iI_sub, iI_mul, iI_lt, iI_le, iI_eq, iI_in, iI_clamp, iI_mx, iI_mn, iI_nI, Int.toNat_natCast, forall_eq, br_1, br_2, br_3, br_4, br_in, br_5, br_6, br_7, br_8, ex_c, br_nl, br_le, br_ne, gp_1, gp_2, gp_3, gf_1, gf_2, e_joinTuple g1 g2 (show n1 ≤ 1000 by omega) (show n2 ≤ 1000 by omega) hb1 hb2]
        exact s1
      · have v3 := (g1.2 (jI v1 v2 n1 n2 k) (by omega)).1
        have v4 := (g2.2 (k - jI v1 v2 n1 n2 k) (by omega)).1
        have v5 := r1 (jI v1 v2 n1 n2 k) (by omega)
        have v6 := r2 (k - jI v1 v2 n1 n2 k) (by omega)
        simp (disch := omega) only [iI_lit, iI_neg, iI_add, iI_sub, iI_mul, iI_lt, iI_le, iI_eq, iI_in, iI_clamp, iI_mx, iI_mn, iI_nI, Int.toNat_natCast, forall_eq, br_1, br_2, br_3, br_4, br_in, br_5, br_6, br_7, br_8, ex_c, br_nl, br_le, br_ne, gp_1, gp_2, gp_3, gf_1, gf_2, e_joinTuple g1 g2 (show n1 ≤ 1000 by omega) (show n2 ≤ 1000 by omega) hb1 hb2, v3, v4]
        exact s1
    · have s1 := step _ _ _ (by rw [jV, if_neg c]) (by rw [jL_2 (by omega) c]) (by rw [jD, if_neg c])
      rw [hne, if_neg c, show k + 1 - jI v1 v2 n1 n2 k = k - jI v1 v2 n1 n2 k + 1 by omega] at s1
      simp only [jF, decide_eq_true_eq] at c
      simp only [Int.natCast_add, Int.natCast_one] at s1
      by_cases c2 : n1 ≤ jI v1 v2 n1 n2 k
      · simp (disch := omega) only [iI_lit, iI_neg, iI_add, iI_sub, iI_mul, iI_lt, iI_le, iI_eq, iI_in, iI_clamp, iI_mx, iI_mn, iI_nI, Int.toNat_natCast, forall_eq, br_1, br_2, br_3, br_4, br_in, br_5, br_6, br_7, br_8, ex_c, br_nl, br_le, br_ne, gp_1, gp_2, gp_3, gf_1, gf_2, e_joinTuple g2 g1 (show n2 ≤ 1000 by omega) (show n1 ≤ 1000 by omega) hb2 hb1]
        exact s1
      · have v3 := (g1.2 (jI v1 v2 n1 n2 k) (by omega)).1
        have v4 := (g2.2 (k - jI v1 v2 n1 n2 k) (by omega)).1
        have v5 := r1 (jI v1 v2 n1 n2 k) (by omega)
        have v6 := r2 (k - jI v1 v2 n1 n2 k) (by omega)
        simp (disch := omega) only [iI_lit, iI_neg, iI_add, iI_sub, iI_mul, iI_lt, iI_le, iI_eq, iI_in, iI_clamp, iI_mx, iI_mn, iI_nI, Int.toNat_natCast, forall_eq, br_1, br_2, br_3, br_4, br_in, br_5, br_6, br_7, br_8, ex_c, br_nl, br_le, br_ne, gp_1, gp_2, gp_3, gf_1, gf_2, e_joinTuple g2 g1 (show n2 ≤ 1000 by omega) (show n1 ≤ 1000 by omega) hb2 hb1, v3, v4]
        exact s1
theorem e_joinOf {M : Mem} {N1 N2 a b1 b2 n1 n2 : Nat} {v1 l1 d1 v2 l2 d2 : Nat → Int} {Q : Mem → Prop} (h1 : CR M b1 n1 v1 l1 d1) (h2 : CR M b2 n2 v2 l2 d2) (hR : RI N1 n1 v1 l1 d1) (hS : RI N2 n2 v2 l2 d2) (hN : N1 + N2 ≤ 1000) (hb1 : a + 4 < b1 ∨ b1 + 4 < a) (hb2 : a + 4 < b2 ∨ b2 + 4 < a)
    (hQ : ∀ M', Fr a (a + 4) M M' → CR M' a (n1 + n2) (jV v1 v2 n1 n2) (jL v1 v2 l1 l2 n1 n2) (jD v1 v2 l1 l2 d1 d2 n1 n2) → Q M') : wpX0_joinOf M a b1 b2 Q := by
  have q1 := hR.2.1
  have q2 := hS.2.1
  unfold wpX0_joinOf
  rw [h1.1, h2.1]
  simp (disch := omega) only [iI_lit, iI_neg, iI_add, iI_sub, iI_mul, iI_lt, iI_le, iI_eq, iI_in, iI_clamp, iI_mx, iI_mn, iI_nI, Int.toNat_natCast, forall_eq, br_1, br_2, br_3, br_4, br_in, br_5, br_6, br_7, br_8, ex_c, br_nl, br_le, br_ne, gp_1, gp_2, gp_3, gf_1, gf_2]
  have e : mn ((n1 : Int) + n2) 1000 = (n1 + n2 : Nat) := by
    unfold mn
    split <;> omega
  rw [e]
  have := l_joinOf (M := pI M a 4 (iI (n1 + n2 : Nat))) (a := a) (Q := Q) (h1.p (by omega)) (h2.p (by omega)) (by omega) hb1 hb2 (fun k hk => ⟨(hR.2.2.2.1 k hk).1, (hR.2.2.2.1 k hk).2.1⟩) (fun k hk => ⟨(hS.2.2.2.1 k hk).1, (hS.2.2.2.1 k hk).2.1⟩)
    (fun M' hF hC => hQ M' ((Fr.p (Fr.r _ _ _) (by omega)).t hF) hC) (n1 + n2) 0 _ rfl (by omega) (Fr.r _ _ _) gp_1 (fun q hq => by omega)
  simpa [jI] using this
theorem l_takeBands {M : Mem} {N a n : Nat} {v l d : Nat → Int} {Q : Mem → Prop} (h : CR M a n v l d) (hR : RI N n v l d) {b : Int} (hb : 0 ≤ b ∧ b ≤ 1000)
    (hQ : ∀ M', Fr (a + 4) (a + 4) M M' → (∀ k, k < n → gI M' (a + 4) k = iI (bd (d k) b)) → Q M') :
    ∀ f i M1, n - i = f → i ≤ n → Fr (a + 4) (a + 4) M M1 → (∀ k, k < i → gI M1 (a + 4) k = iI (bd (d k) b)) → ∃ m, wX0_takeBands_2 Q a (iI b) m M1 (iI (i : Nat)) := by
  have hn : n ≤ 1000 := Nat.le_trans hR.2.1 hR.1
  have hN := hR.1
  intro f
  induction f with
  | zero =>
    intro i M1 hf hi hF hk
    have e := hF.g (b := a) (by omega) 4
    rw [h.1] at e
    rw [ex_s rfl]
    simp only [wX0_takeBands_2, e]
    simp (disch := omega) only [iI_lit, iI_neg, iI_add, iI_sub, iI_mul, iI_lt, iI_le, iI_eq, iI_in, iI_clamp, iI_mx, iI_mn, iI_nI, Int.toNat_natCast, forall_eq, br_1, br_2, br_3, br_4, br_in, br_5, br_6, br_7, br_8, ex_c, br_nl, br_le, br_ne, gp_1, gp_2, gp_3, gf_1, gf_2]
    exact hQ M1 hF (fun k hk' => hk k (by omega))
  | succ f ih =>
    intro i M1 hf hi hF hk
    have e := hF.g (b := a) (by omega) 4
    rw [h.1] at e
    have e2 := hF.g (b := a + 3) (by omega) i
    rw [(h.2 i (by omega)).2.2] at e2
    have h4 := hR.2.2.2.1 i (by omega)
    rw [ex_s rfl]
    simp only [wX0_takeBands_2, e]
    simp (disch := omega) only [iI_lit, iI_neg, iI_add, iI_sub, iI_mul, iI_lt, iI_le, iI_eq, iI_in, iI_clamp, iI_mx, iI_mn, iI_nI, Int.toNat_natCast, forall_eq, br_1, br_2, br_3, br_4, br_in, br_5, br_6, br_7, br_8, ex_c, br_nl, br_le, br_ne, gp_1, gp_2, gp_3, gf_1, gf_2, e2, e_bandOf]
    have := ih (i + 1) (pI M1 (a + 4) i (iI (bd (d i) b))) (by omega) (by omega) (Fr.p hF (by omega)) (fun k hk' => by
      by_cases c : k = i
      · rw [c, gp_1]
      · rw [gp_3 c]
        exact hk k (by omega))
    simpa using this
theorem e_takeBands {M : Mem} {N a n : Nat} {v l d : Nat → Int} {Q : Mem → Prop} (h : CR M a n v l d) (hR : RI N n v l d) {b : Int} (hb : 0 ≤ b ∧ b ≤ 1000)
    (hQ : ∀ M', Fr (a + 4) (a + 4) M M' → CR M' a n v l d → (∀ k, k < n → gI M' (a + 4) k = iI (bd (d k) b)) → Q M') : wpX0_takeBands M a (iI b) Q := by
  unfold wpX0_takeBands
  have := l_takeBands (Q := Q) h hR hb (fun M' hF hk => hQ M' hF ⟨by rw [hF.g (by omega)]; exact h.1, fun k hk => by
    rw [hF.g (by omega), hF.g (by omega), hF.g (by omega)]
    exact h.2 k hk⟩ hk) n 0 M rfl (by omega) (Fr.r _ _ _) (fun k hk => by omega)
  simp (disch := omega) only [iI_lit, iI_neg, iI_add, iI_sub, iI_mul, iI_lt, iI_le, iI_eq, iI_in, iI_clamp, iI_mx, iI_mn, iI_nI, Int.toNat_natCast, forall_eq]
  simpa using this
/-- where the family of one of band x begins, from f down -/
def fam (B : Nat → Nat) (x : Nat) : Nat → Nat
  | 0 => 0
  | f + 1 => if 1 ≤ f ∧ B f < x then fam B x f else f + 1
theorem fam_b (B : Nat → Nat) (x : Nat) : ∀ f, 1 ≤ f → 1 ≤ fam B x f ∧ fam B x f ≤ f := by
  intro f
  induction f with
  | zero => omega
  | succ f ih =>
    intro _
    rw [fam]
    split
    · have := ih (by omega)
      omega
    · omega
theorem l_familyFrom {M : Mem} {a i : Nat} {B : Nat → Nat} {Q : Qi} (hi : i < 1000) (hB : ∀ k, k ≤ i → gI M (a + 4) k = iI (B k) ∧ B k ≤ 12) : ∀ f, f ≤ i → (∃ m, wX0_familyFrom_2 Q a (iI i) m M (iI (f : Nat))) = Q (iI (fam B (B i) f)) M := by
  intro f
  induction f with
  | zero =>
    intro hf
    rw [ex_s rfl]
    simp only [wX0_familyFrom_2]
    simp (disch := omega) only [iI_lit, iI_neg, iI_add, iI_sub, iI_mul, iI_lt, iI_le, iI_eq, iI_in, iI_clamp, iI_mx, iI_mn, iI_nI, Int.toNat_natCast, forall_eq, br_1, br_2, br_3, br_4, br_in, br_5, br_6, br_7, br_8, ex_c, br_nl, br_le, br_ne, gp_1, gp_2, gp_3, gf_1, gf_2, fam]
  | succ f ih =>
    intro hf
    rw [ex_s rfl]
    have b1 := hB i (by omega)
    have b2 := hB f (by omega)
    have e1 : ((f + 1 : Nat) : Int) - 1 = f := by omega
    have e2 : ((f + 1 : Nat) : Int) + -1 = f := by omega
    simp only [wX0_familyFrom_2]
    rw [fam]
    by_cases c : 1 ≤ f
    · by_cases c2 : B f < B i
      · simp (disch := omega) only [iI_lit, iI_neg, iI_add, iI_sub, iI_mul, iI_lt, iI_le, iI_eq, iI_in, iI_clamp, iI_mx, iI_mn, iI_nI, Int.toNat_natCast, forall_eq, br_1, br_2, br_3, br_4, br_in, br_5, br_6, br_7, br_8, ex_c, br_nl, br_le, br_ne, gp_1, gp_2, gp_3, gf_1, gf_2, e1, e2, b1.1, b2.1]
        rw [if_pos (by omega)]
        exact ih (by omega)
      · simp (disch := omega) only [iI_lit, iI_neg, iI_add, iI_sub, iI_mul, iI_lt, iI_le, iI_eq, iI_in, iI_clamp, iI_mx, iI_mn, iI_nI, Int.toNat_natCast, forall_eq, br_1, br_2, br_3, br_4, br_in, br_5, br_6, br_7, br_8, ex_c, br_nl, br_le, br_ne, gp_1, gp_2, gp_3, gf_1, gf_2, e1, e2, b1.1, b2.1]
        rw [if_neg (by omega)]
    · simp (disch := omega) only [iI_lit, iI_neg, iI_add, iI_sub, iI_mul, iI_lt, iI_le, iI_eq, iI_in, iI_clamp, iI_mx, iI_mn, iI_nI, Int.toNat_natCast, forall_eq, br_1, br_2, br_3, br_4, br_in, br_5, br_6, br_7, br_8, ex_c, br_nl, br_le, br_ne, gp_1, gp_2, gp_3, gf_1, gf_2]
      rw [if_neg (by omega)]
theorem e_familyFrom {M : Mem} {a i : Nat} {B : Nat → Nat} {Q : Qi} (hi : i < 1000) (hB : ∀ k, k ≤ i → gI M (a + 4) k = iI (B k) ∧ B k ≤ 12) : wpX0_familyFrom M a (iI i) Q = Q (iI (fam B (B i) i)) M := by
  unfold wpX0_familyFrom
  exact l_familyFrom hi hB i (Nat.le_refl i)
theorem e_mayGo {M : Mem} {a i f t x y : Nat} {l : Nat → Int} {lt dt b : Int} {Q : Qi} (hi : i < 1000) (hf : f ≤ i) (ht : t < 1000) (hx : gI M (a + 4) i = iI x ∧ x ≤ 12) (hy : gI M (a + 4) t = iI y ∧ y ≤ 12) (hl : gI M (a + 2) t = iI lt ∧ 0 ≤ lt ∧ lt ≤ 1000) (hd : gI M (a + 3) t = iI dt ∧ 0 ≤ dt ∧ dt ≤ 1000) (hb : 0 ≤ b ∧ b ≤ 1000) (hlf : 1 ≤ f → gI M (a + 2) (f - 1) = iI (l (f - 1))) (hlb : -1 ≤ lp l f ∧ lp l f ≤ 1000) :
    wpX0_mayGo M a (iI i) (iI f) (iI t) (iI b) Q = Q (iI (if x ≤ y ∧ lt - lp l f + dt ≤ b then 1 else 0)) M := by
  have hA : ∀ Q' : Qi, wpX0_lowAhead M a (iI f) Q' = Q' (iI (lp l f)) M := by
    intro Q'
    rw [e_lowA (l := l) (by omega)]
    · rw [Int.toNat_natCast]
    · intro q
      rw [show ((f : Int) - 1).toNat = f - 1 by omega]
      exact hlf (by omega)
  unfold wpX0_mayGo
  by_cases c : x ≤ y
  · by_cases c2 : lt - lp l f + dt ≤ b
    · simp (disch := omega) only [iI_lit, iI_neg, iI_add, iI_sub, iI_mul, iI_lt, iI_le, iI_eq, iI_in, iI_clamp, iI_mx, iI_mn, iI_nI, Int.toNat_natCast, forall_eq, br_1, br_2, br_3, br_4, br_in, br_5, br_6, br_7, br_8, ex_c, br_nl, br_le, br_ne, gp_1, gp_2, gp_3, gf_1, gf_2, hx.1, hy.1, hl.1, hd.1, hA]
      rw [if_pos (by omega)]
    · simp (disch := omega) only [iI_lit, iI_neg, iI_add, iI_sub, iI_mul, iI_lt, iI_le, iI_eq, iI_in, iI_clamp, iI_mx, iI_mn, iI_nI, Int.toNat_natCast, forall_eq, br_1, br_2, br_3, br_4, br_in, br_5, br_6, br_7, br_8, ex_c, br_nl, br_le, br_ne, gp_1, gp_2, gp_3, gf_1, gf_2, hx.1, hy.1, hl.1, hd.1, hA]
      rw [if_neg (by omega)]
  · simp (disch := omega) only [iI_lit, iI_neg, iI_add, iI_sub, iI_mul, iI_lt, iI_le, iI_eq, iI_in, iI_clamp, iI_mx, iI_mn, iI_nI, Int.toNat_natCast, forall_eq, br_1, br_2, br_3, br_4, br_in, br_5, br_6, br_7, br_8, ex_c, br_nl, br_le, br_ne, gp_1, gp_2, gp_3, gf_1, gf_2, hx.1, hy.1, hl.1, hd.1, hA]
    rw [if_neg (by omega)]
