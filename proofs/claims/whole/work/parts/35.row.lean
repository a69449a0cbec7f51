/-! ===== a Row changed ===== -/
theorem e_lowA {M : Mem} {a : Nat} {l : Nat → Int} {Q : Qi} {i : Int} (hi : 0 ≤ i ∧ i ≤ 1000) (hl : 1 ≤ i → gI M (a + 2) (i - 1).toNat = iI (l (i - 1).toNat)) : wpX0_lowAhead M a (iI i) Q = Q (iI (lp l i.toNat)) M := by
  unfold wpX0_lowAhead lp
  by_cases c : i < 1
  · simp (disch := omega) only [iI_lit, iI_neg, iI_add, iI_sub, iI_mul, iI_lt, iI_le, iI_eq, iI_in, iI_clamp, iI_mx, iI_mn, iI_nI, Int.toNat_natCast, forall_eq, br_1, br_2, br_3, br_4, br_in, br_5, br_6, br_7, br_8, ex_c, br_nl, br_le, br_ne, gp_1, gp_2, gp_3, gf_1, gf_2]
    rw [if_pos (by omega)]
  · have h2 := hl (by omega)
    have e : (i - 1).toNat = i.toNat - 1 := by omega
    simp (disch := omega) only [iI_lit, iI_neg, iI_add, iI_sub, iI_mul, iI_lt, iI_le, iI_eq, iI_in, iI_clamp, iI_mx, iI_mn, iI_nI, Int.toNat_natCast, forall_eq, br_1, br_2, br_3, br_4, br_in, br_5, br_6, br_7, br_8, ex_c, br_nl, br_le, br_ne, gp_1, gp_2, gp_3, gf_1, gf_2, h2]
    rw [if_neg (by omega), e]
/-- y put in at p -/
def ins (f : Nat → Int) (p : Nat) (y : Int) (k : Nat) : Int := if k < p then f k else if k = p then y else f (k - 1)
def insL (l : Nat → Int) (p k : Nat) : Int := if k < p then l k else if k = p then lp l p + 1 else l (k - 1) + 1
theorem l_insert {M : Mem} {a n p : Nat} {v l d : Nat → Int} {Q : Mem → Prop} {x s : Int} (h4 : gI M a 4 = iI n) (hn : n < 1000) (hp : p ≤ n)
    (hv : ∀ k, k ≤ n → ¬ k = p → gI M (a + 1) k = iI (ins v p x k)) (hd : ∀ k, k ≤ n → ¬ k = p → gI M (a + 3) k = iI (ins d p s k))
    (hQ : ∀ M', Fr a (a + 4) M M' → CR M' a (n + 1) (ins v p x) (insL l p) (ins d p s) → Q M') :
    ∀ j i M1, i - p = j → p ≤ i → i ≤ n → (M1.2 = M.2 ∧ ∀ b, ¬ b = a + 2 → M1.1 b = M.1 b) → (∀ k, k ≤ i → k < n → gI M1 (a + 2) k = iI (l k)) → (∀ k, i < k → k ≤ n → gI M1 (a + 2) k = iI (l (k - 1) + 1)) → ∃ m, wX0_insert_71 Q a (iI x) (iI p) (iI s) m M1 (iI (i : Nat)) := by
  intro j
  induction j with
  | zero =>
    intro i M1 hj hpi hin hf hlo hhi
    have e : i = p := by omega
    subst e
    have g : ∀ b k, ¬ b = a + 2 → gI M1 b k = gI M b k := fun b k q => congrFun (hf.2 b q) k
    rw [ex_s rfl]
    have hA : ∀ Q' : Qi, wpX0_lowAhead (pI (pI M1 (a + 1) i (iI x)) (a + 3) i (iI s)) a (iI i) Q' = Q' (iI (lp l i)) (pI (pI M1 (a + 1) i (iI x)) (a + 3) i (iI s)) := by
      intro Q'
      rw [e_lowA (l := l) (by omega)]
      · rw [Int.toNat_natCast]
      · intro q
        simp (disch := omega) only [iI_lit, iI_neg, iI_add, iI_sub, iI_mul, iI_lt, iI_le, iI_eq, iI_in, iI_clamp, iI_mx, iI_mn, iI_nI, Int.toNat_natCast, forall_eq, br_1, br_2, br_3, br_4, br_in, br_5, br_6, br_7, br_8, ex_c, br_nl, br_le, br_ne, gp_1, gp_2, gp_3, gf_1, gf_2]
        exact hlo _ (by omega) (by omega)
    simp only [wX0_insert_71]
    simp (disch := omega) only [iI_lit, iI_neg, iI_add, iI_sub, iI_mul, iI_lt, iI_le, iI_eq, iI_in, iI_clamp, iI_mx, iI_mn, iI_nI, Int.toNat_natCast, forall_eq, br_1, br_2, br_3, br_4, br_in, br_5, br_6, br_7, br_8, ex_c, br_nl, br_le, br_ne, gp_1, gp_2, gp_3, gf_1, gf_2, hA, g a 4 (by omega), h4]
    refine hQ _ ?_ ?_
    · refine Fr.p (Fr.p (Fr.p (Fr.p ⟨hf.1, fun b hb => hf.2 b (by omega)⟩ ?_) ?_) ?_) ?_ <;> omega
    · refine ⟨by simp (disch := omega) only [iI_lit, iI_neg, iI_add, iI_sub, iI_mul, iI_lt, iI_le, iI_eq, iI_in, iI_clamp, iI_mx, iI_mn, iI_nI, Int.toNat_natCast, forall_eq, br_1, br_2, br_3, br_4, br_in, br_5, br_6, br_7, br_8, ex_c, br_nl, br_le, br_ne, gp_1, gp_2, gp_3, gf_1, gf_2]; rfl, fun k hk => ?_⟩
      rcases Nat.lt_trichotomy k i with q | q | q
      · simp (disch := omega) only [iI_lit, iI_neg, iI_add, iI_sub, iI_mul, iI_lt, iI_le, iI_eq, iI_in, iI_clamp, iI_mx, iI_mn, iI_nI, Int.toNat_natCast, forall_eq, br_1, br_2, br_3, br_4, br_in, br_5, br_6, br_7, br_8, ex_c, br_nl, br_le, br_ne, gp_1, gp_2, gp_3, gf_1, gf_2, g (a + 1) k (by omega), g (a + 3) k (by omega), hv k (by omega) (by omega), hd k (by omega) (by omega), hlo k (by omega) (by omega)]
        simp only [insL, if_pos q, and_self]
      · subst q
        simp (disch := omega) only [iI_lit, iI_neg, iI_add, iI_sub, iI_mul, iI_lt, iI_le, iI_eq, iI_in, iI_clamp, iI_mx, iI_mn, iI_nI, Int.toNat_natCast, forall_eq, br_1, br_2, br_3, br_4, br_in, br_5, br_6, br_7, br_8, ex_c, br_nl, br_le, br_ne, gp_1, gp_2, gp_3, gf_1, gf_2]
        simp only [ins, insL, Nat.lt_irrefl, if_false, if_true, and_self]
      · simp (disch := omega) only [iI_lit, iI_neg, iI_add, iI_sub, iI_mul, iI_lt, iI_le, iI_eq, iI_in, iI_clamp, iI_mx, iI_mn, iI_nI, Int.toNat_natCast, forall_eq, br_1, br_2, br_3, br_4, br_in, br_5, br_6, br_7, br_8, ex_c, br_nl, br_le, br_ne, gp_1, gp_2, gp_3, gf_1, gf_2, g (a + 1) k (by omega), g (a + 3) k (by omega), hv k (by omega) (by omega), hd k (by omega) (by omega), hhi k (by omega) (by omega)]
        simp only [insL, if_neg (show ¬ k < i by omega), if_neg (show ¬ k = i by omega), and_self]
  | succ j ih =>
    intro i M1 hj hpi hin hf hlo hhi
    have e : ((i : Int) - 1).toNat = i - 1 := by omega
    have e2 : (i : Int) + -1 = (i - 1 : Nat) := by omega
    have hl1 := hlo (i - 1) (by omega) (by omega)
    rw [ex_s rfl]
    simp only [wX0_insert_71]
    simp (disch := omega) only [iI_lit, iI_neg, iI_add, iI_sub, iI_mul, iI_lt, iI_le, iI_eq, iI_in, iI_clamp, iI_mx, iI_mn, iI_nI, Int.toNat_natCast, forall_eq, br_1, br_2, br_3, br_4, br_in, br_5, br_6, br_7, br_8, ex_c, br_nl, br_le, br_ne, gp_1, gp_2, gp_3, gf_1, gf_2, e, hl1, e2]
    refine ih (i - 1) _ (by omega) (by omega) (by omega) ⟨hf.1, fun b hb => (pI_fr hb).trans (hf.2 b hb)⟩ ?_ ?_
    · intro k hk hkn
      rw [gp_3 (by omega)]
      exact hlo k (by omega) hkn
    · intro k hk hkn
      by_cases c : k = i
      · subst c
        rw [gp_1]
      · rw [gp_3 c]
        exact hhi k (by omega) hkn
/-- SPREAD that a value put in at i takes -/
def sAh (l d : Nat → Int) (n i : Nat) : Int := if i = 0 ∨ i = n then 0 else l i - lp l i + d i - 1
theorem e_insert {M : Mem} {N a n : Nat} {v l d : Nat → Int} {Q : Mem → Prop} (h : CR M a n v l d) (hR : RI N n v l d) (hN : N < 1000) {x : Int} (hx : 0 ≤ x ∧ x < 1000)
    (hQ : ∀ M', Fr a (a + 4) M M' → CR M' a (n + 1) (ins v (plc v x n) x) (insL l (plc v x n)) (ins d (plc v x n) (sAh l d n (plc v x n))) → Q M') : wpX0_insert M a (iI x) Q := by
  have hn : n ≤ N := hR.2.1
  have hp := plc_le v x n
  have hs : (if (plc v x n : Int) = 0 ∨ (plc v x n : Int) = n then 0 else l (plc v x n) - lp l (plc v x n) + d (plc v x n) - 1) = sAh l d n (plc v x n) := by
    unfold sAh
    grind
  have e1 : ((plc v x n : Int) + 1).toNat = plc v x n + 1 := by omega
  have e2 : ((n : Int) - plc v x n).toNat = n - plc v x n := by omega
  unfold wpX0_insert
  rw [h.1]
  simp (disch := omega) only [iI_lit, iI_neg, iI_add, iI_sub, iI_mul, iI_lt, iI_le, iI_eq, iI_in, iI_clamp, iI_mx, iI_mn, iI_nI, Int.toNat_natCast, forall_eq, br_1, br_2, br_3, br_4, br_in, br_5, br_6, br_7, br_8, ex_c, br_nl, br_le, br_ne, gp_1, gp_2, gp_3, gf_1, gf_2, e_tuplesUpTo h hR, e_spreadAhead h hR, h.1, e1, e2, hs]
  refine l_insert (M := pF (pF M (a + 1) _) (a + 3) _) (n := n) (v := v) (l := l) (d := d) ?_ (by omega) hp ?_ ?_ ?_ _ n _ rfl hp (by omega) ⟨rfl, fun _ _ => rfl⟩ ?_ ?_
  · simp (disch := omega) only [iI_lit, iI_neg, iI_add, iI_sub, iI_mul, iI_lt, iI_le, iI_eq, iI_in, iI_clamp, iI_mx, iI_mn, iI_nI, Int.toNat_natCast, forall_eq, br_1, br_2, br_3, br_4, br_in, br_5, br_6, br_7, br_8, ex_c, br_nl, br_le, br_ne, gp_1, gp_2, gp_3, gf_1, gf_2, h.1]
  · intro k hk hne
    simp (disch := omega) only [iI_lit, iI_neg, iI_add, iI_sub, iI_mul, iI_lt, iI_le, iI_eq, iI_in, iI_clamp, iI_mx, iI_mn, iI_nI, Int.toNat_natCast, forall_eq, br_1, br_2, br_3, br_4, br_in, br_5, br_6, br_7, br_8, ex_c, br_nl, br_le, br_ne, gp_1, gp_2, gp_3, gf_1, gf_2, gc_1]
    unfold ins
    by_cases c : k < plc v x n
    · rw [if_neg (by omega), if_pos c]
      exact (h.2 k (by omega)).1
    · rw [if_pos (by omega), if_neg c, if_neg hne, show plc v x n + (k - (plc v x n + 1)) = k - 1 by omega]
      exact (h.2 (k - 1) (by omega)).1
  · intro k hk hne
    simp (disch := omega) only [iI_lit, iI_neg, iI_add, iI_sub, iI_mul, iI_lt, iI_le, iI_eq, iI_in, iI_clamp, iI_mx, iI_mn, iI_nI, Int.toNat_natCast, forall_eq, br_1, br_2, br_3, br_4, br_in, br_5, br_6, br_7, br_8, ex_c, br_nl, br_le, br_ne, gp_1, gp_2, gp_3, gf_1, gf_2, gc_1]
    unfold ins
    by_cases c : k < plc v x n
    · rw [if_neg (by omega), if_pos c]
      exact (h.2 k (by omega)).2.2
    · rw [if_pos (by omega), if_neg c, if_neg hne, show plc v x n + (k - (plc v x n + 1)) = k - 1 by omega]
      exact (h.2 (k - 1) (by omega)).2.2
  · intro M' hF hC
    exact hQ M' (Fr.t (Fr.f (Fr.f (Fr.r _ _ _) (by omega)) (by omega)) hF) hC
  · intro k hk hkn
    simp (disch := omega) only [iI_lit, iI_neg, iI_add, iI_sub, iI_mul, iI_lt, iI_le, iI_eq, iI_in, iI_clamp, iI_mx, iI_mn, iI_nI, Int.toNat_natCast, forall_eq, br_1, br_2, br_3, br_4, br_in, br_5, br_6, br_7, br_8, ex_c, br_nl, br_le, br_ne, gp_1, gp_2, gp_3, gf_1, gf_2]
    exact (h.2 k hkn).2.1
  · intro k hk hkn
    omega
theorem RI_insert {N n : Nat} {v l d : Nat → Int} (hR : RI N n v l d) (hN : N < 1000) {x : Int} (hx : 0 ≤ x ∧ x < 1000) : RI (N + 1) (n + 1) (ins v (plc v x n) x) (insL l (plc v x n)) (ins d (plc v x n) (sAh l d n (plc v x n))) := by
  have hp := plc_le v x n
  have h1 := fun k (hk : k < n) => plc_iff hR x hk
  generalize plc v x n = p at *
  have h2 := fun k (hk : k < n) => hR.lpl hk
  have h3 := fun k (hk : k ≤ n) => hR.lpb hk
  obtain ⟨r1, r2, r3, r4, r5, r6⟩ := hR
  have hs : 0 ≤ sAh l d n p ∧ lp l p + 1 + sAh l d n p ≤ N + 1 := by
    unfold sAh
    have := h3 p hp
    split
    · omega
    · have := r4 p (by omega)
      have := h2 p (by omega)
      omega
  refine ⟨by omega, by omega, by omega, ?_, ?_, ?_⟩
  · intro k hk
    unfold ins insL
    rcases Nat.lt_trichotomy k p with q | q | q
    · have := r4 k (by omega)
      simp only [if_pos q]
      omega
    · subst q
      have := h3 k hp
      simp only [Nat.lt_irrefl, if_false, if_true]
      omega
    · have := r4 (k - 1) (by omega)
      simp only [if_neg (show ¬ k < p by omega), if_neg (show ¬ k = p by omega)]
      omega
  · intro k hk
    unfold ins insL
    rcases Nat.lt_trichotomy (k + 1) p with q | q | q
    · have := r5 k (by omega)
      simp only [if_pos q, if_pos (show k < p by omega)]
      omega
    · subst q
      have := (h1 k (by omega)).2 (by omega)
      simp only [Nat.lt_irrefl, if_false, if_true, if_pos (show k < k + 1 by omega), lp, Nat.add_sub_cancel, Nat.add_one_ne_zero]
      omega
    · by_cases c : k = p
      · subst c
        have q1 := h1 k (by omega)
        have q2 := h2 k (by omega)
        simp only [Nat.lt_irrefl, if_false, if_true, if_neg (show ¬ k + 1 < k by omega), if_neg (show ¬ k + 1 = k by omega), Nat.add_sub_cancel]
        omega
      · have := r5 (k - 1) (by omega)
        rw [show k - 1 + 1 = k by omega] at this
        simp only [if_neg (show ¬ k + 1 < p by omega), if_neg (show ¬ k + 1 = p by omega), if_neg (show ¬ k < p by omega), if_neg c, Nat.add_sub_cancel]
        omega
  · intro _
    unfold ins insL sAh
    rw [Nat.add_sub_cancel]
    by_cases c : p = 0
    · subst c
      by_cases c2 : n = 0
      · subst c2
        have := r3 rfl
        simp [lp]
        omega
      · have := r6 (by omega)
        simp [lp, c2]
        omega
    · have := r6 (by omega)
      by_cases c2 : n = p
      · subst c2
        have q3 : lp l n = l (n - 1) := by simp [lp, c]
        simp [c, q3, show 0 < n by omega]
        omega
      · simp [show 0 < p by omega, show ¬ n < p by omega, c2]
        omega
