theorem e_firstWrong {M : Mem} {N a n : Nat} {v l d : Nat → Int} {Q : Qi} (h : CR M a n v l d) (hR : RI N n v l d) {b : Int} (hb : 0 ≤ b ∧ b ≤ 1000) : wpX0_firstWrong M a (iI N) (iI b) Q = Q (iI (if wd l d n ≤ b then 0 else 4)) M := by
  unfold wpX0_firstWrong
  have := l_firstWrong (Q := Q) h hR hb (n - 1) 1 rfl (by omega) (by omega)
  simp (disch := omega) only [iI_lit, iI_neg, iI_add, iI_sub, iI_mul, iI_lt, iI_le, iI_eq, iI_in, iI_clamp, iI_mx, iI_mn, iI_nI, Int.toNat_natCast, forall_eq]
  simpa using this
theorem e_countAbove0 {M : Mem} {N a n : Nat} {v l d : Nat → Int} {Q : Qi} (h : CR M a n v l d) (hR : RI N n v l d) {x y : Int} (hx : -1 ≤ x ∧ x ≤ 1000) (hy : -1 ≤ y ∧ y ≤ 1000) : wpX0_countAbove M a (iI x) (iI y) (iI 0) Q = Q (iI (cab v l d n x y false)) M := by
  rw [e_countAbove h hR hx hy]
  simp
theorem cab_b {N n : Nat} {v l d : Nat → Int} (hR : RI N n v l d) (x y : Int) (q : Bool) : -1000 ≤ cab v l d n x y q ∧ cab v l d n x y q ≤ 1000 := by
  have h1 := sur_b hR x
  have h2 := sur_b hR y
  have h3 := mst_b hR x
  have h4 := mst_b hR y
  have h5 := hR.1
  unfold cab mx
  split
  · omega
  · split <;> omega
theorem cab_0 {N n : Nat} {v l d : Nat → Int} (x y : Int) : 0 ≤ cab v l d n x y false := by
  unfold cab mx
  rw [if_neg (by decide)]
  split <;> omega
/-- the value at which the count of those that P tells is left -/
def hvy (P : Nat → Bool) (v : Nat → Int) : Nat → Nat → Int → Int
  | 0, _, _ => -2
  | k + 1, i, q => if P i then (if q = 0 then v i else hvy P v k (i + 1) (q - 1)) else hvy P v k (i + 1) q
def hvP (v l d : Nat → Int) (n : Nat) (N sh : Int) (i : Nat) : Bool := decide (¬ (0 < i ∧ v i = v (i - 1)) ∧ ¬ cab v l d n (v i - 1) (v i) false * sh < N)
theorem l_heavyValue {M : Mem} {N a n : Nat} {v l d : Nat → Int} {Q : Qi} (h : CR M a n v l d) (hR : RI N n v l d) {sh : Int} (hs : 1 ≤ sh ∧ sh ≤ 100) : ∀ k i q, n - i = k → i ≤ n → 0 ≤ q → q < 2147483648 → (∃ m, wX0_heavyValue_11 Q a (iI sh) (iI N) m M (iI q) (iI (i : Nat))) = Q (iI (hvy (hvP v l d n N sh) v k i q)) M := by
  have hn : n ≤ 1000 := Nat.le_trans hR.2.1 hR.1
  have hN := hR.1
  intro k
  induction k with
  | zero =>
    intro i q hk hi hq0 hq
    rw [ex_s rfl]
    simp only [wX0_heavyValue_11, h.1]
    simp (disch := omega) only [iI_lit, iI_neg, iI_add, iI_sub, iI_mul, iI_lt, iI_le, iI_eq, iI_in, iI_clamp, iI_mx, iI_mn, iI_nI, Int.toNat_natCast, forall_eq, br_1, br_2, br_3, br_4, br_in, br_5, br_6, br_7, br_8, ex_c, br_nl, br_le, br_ne, gp_1, gp_2, gp_3, gf_1, gf_2, hvy]
  | succ k ih =>
    intro i q hk hi hq0 hq
    have h3 := h.2 i (by omega)
    have h4 := hR.2.2.2.1 i (by omega)
    have e : ((i : Int) - 1).toNat = i - 1 := by omega
    have b1 := cab_b hR (v i - 1) (v i) false
    have b2 : -1000 * sh ≤ cab v l d n (v i - 1) (v i) false * sh := Int.mul_le_mul_of_nonneg_right b1.1 (by omega)
    have b3 : cab v l d n (v i - 1) (v i) false * sh ≤ 1000 * sh := Int.mul_le_mul_of_nonneg_right b1.2 (by omega)
    rw [ex_s rfl]
    simp only [wX0_heavyValue_11, wX0_heavyValue_49, h.1]
    have ih1 := ih (i + 1) q (by omega) (by omega) hq0 hq
    have ih2 := ih (i + 1) (q - 1) (by omega) (by omega)
    simp only [Int.natCast_add, Int.natCast_one] at ih1 ih2
    rw [hvy, hvP]
    by_cases c1 : i = 0
    · subst c1
      by_cases c2 : cab v l d n (v 0 - 1) (v 0) false * sh < N
      · simp (disch := omega) only [iI_lit, iI_neg, iI_add, iI_sub, iI_mul, iI_lt, iI_le, iI_eq, iI_in, iI_clamp, iI_mx, iI_mn, iI_nI, Int.toNat_natCast, forall_eq, br_1, br_2, br_3, br_4, br_in, br_5, br_6, br_7, br_8, ex_c, br_nl, br_le, br_ne, gp_1, gp_2, gp_3, gf_1, gf_2, h3.1, h3.2.1, h3.2.2, e_countAbove0 h hR]
        simpa [c2] using ih1
      · by_cases c3 : q = 0
        · simp (disch := omega) only [iI_lit, iI_neg, iI_add, iI_sub, iI_mul, iI_lt, iI_le, iI_eq, iI_in, iI_clamp, iI_mx, iI_mn, iI_nI, Int.toNat_natCast, forall_eq, br_1, br_2, br_3, br_4, br_in, br_5, br_6, br_7, br_8, ex_c, br_nl, br_le, br_ne, gp_1, gp_2, gp_3, gf_1, gf_2, h3.1, h3.2.1, h3.2.2, e_countAbove0 h hR]
          simp [c2, c3]
        · simp (disch := omega) only [iI_lit, iI_neg, iI_add, iI_sub, iI_mul, iI_lt, iI_le, iI_eq, iI_in, iI_clamp, iI_mx, iI_mn, iI_nI, Int.toNat_natCast, forall_eq, br_1, br_2, br_3, br_4, br_in, br_5, br_6, br_7, br_8, ex_c, br_nl, br_le, br_ne, gp_1, gp_2, gp_3, gf_1, gf_2, h3.1, h3.2.1, h3.2.2, e_countAbove0 h hR]
          have := ih2 (by omega) (by omega)
          simpa [c2, c3, ← Int.sub_eq_add_neg] using this
    · have h5 := h.2 (i - 1) (by omega)
      have h6 := hR.2.2.2.1 (i - 1) (by omega)
      by_cases c0 : v i = v (i - 1)
      · simp (disch := omega) only [iI_lit, iI_neg, iI_add, iI_sub, iI_mul, iI_lt, iI_le, iI_eq, iI_in, iI_clamp, iI_mx, iI_mn, iI_nI, Int.toNat_natCast, forall_eq, br_1, br_2, br_3, br_4, br_in, br_5, br_6, br_7, br_8, ex_c, br_nl, br_le, br_ne, gp_1, gp_2, gp_3, gf_1, gf_2, h3.1, h3.2.1, h3.2.2, e_countAbove0 h hR, e, h5.1]
        simpa [c0, show 0 < i by omega] using ih1
      · by_cases c2 : cab v l d n (v i - 1) (v i) false * sh < N
        · simp (disch := omega) only [iI_lit, iI_neg, iI_add, iI_sub, iI_mul, iI_lt, iI_le, iI_eq, iI_in, iI_clamp, iI_mx, iI_mn, iI_nI, Int.toNat_natCast, forall_eq, br_1, br_2, br_3, br_4, br_in, br_5, br_6, br_7, br_8, ex_c, br_nl, br_le, br_ne, gp_1, gp_2, gp_3, gf_1, gf_2, h3.1, h3.2.1, h3.2.2, e_countAbove0 h hR, e, h5.1]
          simpa [c2] using ih1
        · by_cases c3 : q = 0
          · simp (disch := omega) only [iI_lit, iI_neg, iI_add, iI_sub, iI_mul, iI_lt, iI_le, iI_eq, iI_in, iI_clamp, iI_mx, iI_mn, iI_nI, Int.toNat_natCast, forall_eq, br_1, br_2, br_3, br_4, br_in, br_5, br_6, br_7, br_8, ex_c, br_nl, br_le, br_ne, gp_1, gp_2, gp_3, gf_1, gf_2, h3.1, h3.2.1, h3.2.2, e_countAbove0 h hR, e, h5.1]
            simp [c0, c2, c3]
          · simp (disch := omega) only [iI_lit, iI_neg, iI_add, iI_sub, iI_mul, iI_lt, iI_le, iI_eq, iI_in, iI_clamp, iI_mx, iI_mn, iI_nI, Int.toNat_natCast, forall_eq, br_1, br_2, br_3, br_4, br_in, br_5, br_6, br_7, br_8, ex_c, br_nl, br_le, br_ne, gp_1, gp_2, gp_3, gf_1, gf_2, h3.1, h3.2.1, h3.2.2, e_countAbove0 h hR, e, h5.1]
            have := ih2 (by omega) (by omega)
            simpa [c0, c2, c3, ← Int.sub_eq_add_neg] using this
theorem e_heavyValue {M : Mem} {N a n : Nat} {v l d : Nat → Int} {Q : Qi} (h : CR M a n v l d) (hR : RI N n v l d) {sh q : Int} (hs : 1 ≤ sh ∧ sh ≤ 100) (hq : 0 ≤ q ∧ q < 2147483648) : wpX0_heavyValue M a (iI sh) (iI q) Q = Q (iI (hvy (hvP v l d n N sh) v n 0 q)) M := by
  have hn : n ≤ 1000 := Nat.le_trans hR.2.1 hR.1
  unfold wpX0_heavyValue
  have := l_heavyValue (Q := Q) h hR hs n 0 q rfl (by omega) hq.1 hq.2
  simp (disch := omega) only [iI_lit, iI_neg, iI_add, iI_sub, iI_mul, iI_lt, iI_le, iI_eq, iI_in, iI_clamp, iI_mx, iI_mn, iI_nI, Int.toNat_natCast, forall_eq, e_places h hn, hR.lpn]
  simpa using this
