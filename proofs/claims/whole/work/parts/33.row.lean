/-! shifts -/
theorem sh_k : ∀ k : Nat, k < 32 → ((iI (k : Int) &&& iI 31).toBitVec.smod 32).toNat = k := by decide +kernel
theorem iI_shr {b : Int} {k : Nat} (hb : 0 ≤ b ∧ b < 2147483648) (hk : k < 32) : iI b >>> (iI k &&& iI 31) = iI (b / 2 ^ k) := by
  obtain ⟨n, rfl⟩ : ∃ n : Nat, b = n := ⟨b.toNat, by omega⟩
  rw [← iI_nI n, pk_shrN (by omega) _ k (sh_k k hk), iI_nI]
  congr 1
theorem iI_shl (z : Int) {k : Nat} (hk : k < 32) : iI z <<< (iI k &&& iI 31) = iI (z * 2 ^ k) := by
  rw [← iI_mul]
  apply Int32.toBitVec_inj.mp
  apply BitVec.eq_of_toNat_eq
  rw [pk_shl _ _ k (sh_k k hk), Int32.toBitVec_mul, BitVec.toNat_mul]
  have e : iI ((2 : Int) ^ k) = nI (2 ^ k) := by rw [iI_nI]; congr 1
  rw [e, pk_tn (Nat.pow_lt_pow_right (by omega) hk)]
/-- BAND -/
def bdf (d b : Int) : Nat → Nat → Nat
  | 0, k => k
  | f + 1, k => if d ≤ (b / 2 ^ k - 1) * 2 ^ k then bdf d b f (k + 1) else k
def bd (d b : Int) : Nat := bdf d b 12 0
theorem bdf_le (d b : Int) : ∀ f k, bdf d b f k ≤ f + k := by
  intro f
  induction f with
  | zero => intro k; simp [bdf]
  | succ f ih =>
    intro k
    rw [bdf]
    split
    · have := ih (k + 1)
      omega
    · omega
theorem bd_le (d b : Int) : bd d b ≤ 12 := bdf_le d b 12 0
theorem bnd_b {b : Int} (hb : 0 ≤ b ∧ b ≤ 1000000) {k : Nat} (hk : k < 13) : -4096 ≤ (b / 2 ^ k - 1) * 2 ^ k ∧ (b / 2 ^ k - 1) * 2 ^ k ≤ b := by
  obtain ⟨t, ht⟩ : ∃ t : Int, t = 2 ^ k := ⟨_, rfl⟩
  have h1 : 1 ≤ t ∧ t ≤ 4096 := by
    rw [ht]
    rcases (show k = 0 ∨ k = 1 ∨ k = 2 ∨ k = 3 ∨ k = 4 ∨ k = 5 ∨ k = 6 ∨ k = 7 ∨ k = 8 ∨ k = 9 ∨ k = 10 ∨ k = 11 ∨ k = 12 by omega) with rfl | rfl | rfl | rfl | rfl | rfl | rfl | rfl | rfl | rfl | rfl | rfl | rfl <;> decide
  rw [← ht, Int.sub_mul]
  have h2 := Int.ediv_mul_le b (b := t) (by omega)
  have h3 : 0 ≤ b / t * t := Int.mul_nonneg (Int.ediv_nonneg hb.1 (by omega)) (by omega)
  omega
theorem l_bandOf {M : Mem} {Q : Qi} {d b : Int} (hd : 0 ≤ d ∧ d ≤ 1000000) (hb : 0 ≤ b ∧ b ≤ 1000000) : ∀ f k, f + k = 12 → (∃ m, wX3_bandOf_2 Q (iI d) (iI b) m M (iI (k : Nat))) = Q (iI (bdf d b f k)) M := by
  intro f
  induction f with
  | zero =>
    intro k hk
    rw [ex_s rfl]
    simp only [wX3_bandOf_2]
    simp (disch := omega) only [iI_lit, iI_neg, iI_add, iI_sub, iI_mul, iI_lt, iI_le, iI_eq, iI_in, iI_clamp, iI_mx, iI_mn, iI_nI, Int.toNat_natCast, forall_eq]
    simp only [br_1 (show (12 : Int) ≤ k by omega), ex_c, bdf]
  | succ f ih =>
    intro k hk
    rw [ex_s rfl]
    have h1 := bnd_b hb (k := k) (by omega)
    simp only [wX3_bandOf_2]
    simp (disch := omega) only [iI_lit, iI_neg, iI_add, iI_sub, iI_mul, iI_lt, iI_le, iI_eq, iI_in, iI_clamp, iI_mx, iI_mn, iI_nI, Int.toNat_natCast, forall_eq, iI_shr, iI_shl]
    simp only [br_2 (show ¬ (12 : Int) ≤ k by omega), bdf]
    by_cases c : d ≤ (b / 2 ^ k - 1) * 2 ^ k
    · simp only [br_2 (show ¬ (b / 2 ^ k - 1) * 2 ^ k < d by omega), if_pos c]
      have := ih (k + 1) (by omega)
      simpa using this
    · simp only [br_1 (show (b / 2 ^ k - 1) * 2 ^ k < d by omega), if_neg c, ex_c]
theorem e_bandOf {M : Mem} {Q : Qi} {d b : Int} (hd : 0 ≤ d ∧ d ≤ 1000000) (hb : 0 ≤ b ∧ b ≤ 1000000) : wpX3_bandOf M (iI d) (iI b) Q = Q (iI (bd d b)) M := by
  unfold wpX3_bandOf
  have := l_bandOf (M := M) (Q := Q) hd hb 12 0 rfl
  simp (disch := omega) only [iI_lit, iI_neg, iI_add, iI_sub, iI_mul, iI_lt, iI_le, iI_eq, iI_in, iI_clamp, iI_mx, iI_mn, iI_nI, Int.toNat_natCast, forall_eq]
  simpa [bd] using this
/-- BOUND of n values by an ERROR -/
def bo (n e : Int) : Int := mx 1 (2 * n / e)
theorem bo_b {n e : Int} (hn : 0 ≤ n ∧ n ≤ 1000) (he : 2 ≤ e) : 1 ≤ bo n e ∧ bo n e ≤ 1000 := by
  have h3 := Int.ediv_mul_le (2 * n) (b := e) (by omega)
  have h4 : 0 ≤ 2 * n / e := Int.ediv_nonneg (by omega) (by omega)
  have h5 : 2 * n / e * 2 ≤ 2 * n / e * e := Int.mul_le_mul_of_nonneg_left he h4
  unfold bo mx
  split <;> omega
theorem e_boundOf {M : Mem} {Q : Qi} {n e : Int} (hn : 0 ≤ n ∧ n ≤ 1000) (he : 2 ≤ e ∧ e ≤ 1000) : wpX3_boundOf M (iI n) (iI e) Q = Q (iI (bo n e)) M := by
  have h0 : 0 ≤ 2 * n / e := Int.ediv_nonneg (by omega) (by omega)
  have h1 := bo_b hn he.1
  unfold bo mx at h1
  have h2 : 2 * n / e ≤ 1000 := by
    split at h1 <;> omega
  unfold wpX3_boundOf
  simp (disch := omega) only [iI_lit, iI_neg, iI_add, iI_sub, iI_mul, iI_lt, iI_le, iI_eq, iI_in, iI_clamp, iI_mx, iI_mn, iI_nI, Int.toNat_natCast, forall_eq, iI_div]
  simp only [br_1 (show (1 : Int) ≤ e by omega), and_1 (show ¬ e = 0 by omega)]
  rfl
theorem l_tuplesOfBand {M : Mem} {N a n : Nat} {v l d : Nat → Int} {Q : Qi} (h : CR M a n v l d) (hR : RI N n v l d) {x b : Int} (hx : 0 ≤ x ∧ x ≤ 12) (hb : 0 ≤ b ∧ b ≤ 1000) : ∀ k i, n - i = k → i ≤ n → (∃ m, wX0_tuplesOfBand_5 Q a (iI x) (iI b) m M (iI (fct (fun r => decide ((bd (d (r - 1)) b : Int) = x)) i)) (iI (i : Nat))) = Q (iI (fct (fun r => decide ((bd (d (r - 1)) b : Int) = x)) n)) M := by
  have hn : n ≤ 1000 := Nat.le_trans hR.2.1 hR.1
  have hN := hR.1
  intro k
  induction k with
  | zero =>
    intro i hk hi
    have e : i = n := by omega
    subst e
    rw [ex_s rfl]
    simp only [wX0_tuplesOfBand_5, h.1]
    simp (disch := omega) only [iI_lit, iI_neg, iI_add, iI_sub, iI_mul, iI_lt, iI_le, iI_eq, iI_in, iI_clamp, iI_mx, iI_mn, iI_nI, Int.toNat_natCast, forall_eq]
    simp only [br_1 (show (i : Int) ≤ i by omega), ex_c]
  | succ k ih =>
    intro i hk hi
    have h3 := h.2 i (by omega)
    have h4 := hR.2.2.2.1 i (by omega)
    have h5 := bd_le (d i) b
    rw [ex_s rfl]
    simp only [wX0_tuplesOfBand_5, h.1]
    simp (disch := omega) only [iI_lit, iI_neg, iI_add, iI_sub, iI_mul, iI_lt, iI_le, iI_eq, iI_in, iI_clamp, iI_mx, iI_mn, iI_nI, Int.toNat_natCast, forall_eq, h3.1, h3.2.1, h3.2.2, e_bandOf]
    simp only [br_2 (show ¬ (n : Int) ≤ i by omega), and_1 (show 0 ≤ (i : Int) ∧ (i : Int) < (1000 : Nat) by omega)]
    have := ih (i + 1) (by omega) (by omega)
    rw [fct] at this
    by_cases c : (bd (d i) b : Int) = x
    · simp only [br_4 c]
      simp only [Nat.add_sub_cancel, c, decide_true, if_true] at this
      simpa using this
    · simp only [br_3 c]
      simp only [Nat.add_sub_cancel, c, decide_false, Bool.false_eq_true, if_false] at this
      simpa using this
theorem e_tuplesOfBand {M : Mem} {N a n : Nat} {v l d : Nat → Int} {Q : Qi} (h : CR M a n v l d) (hR : RI N n v l d) {x b : Int} (hx : 0 ≤ x ∧ x ≤ 12) (hb : 0 ≤ b ∧ b ≤ 1000) : wpX0_tuplesOfBand M a (iI x) (iI b) Q = Q (iI (fct (fun r => decide ((bd (d (r - 1)) b : Int) = x)) n)) M := by
  unfold wpX0_tuplesOfBand
  have := l_tuplesOfBand (Q := Q) h hR hx hb n 0 rfl (by omega)
  simp (disch := omega) only [iI_lit, iI_neg, iI_add, iI_sub, iI_mul, iI_lt, iI_le, iI_eq, iI_in, iI_clamp, iI_mx, iI_mn, iI_nI, Int.toNat_natCast, forall_eq]
  simpa [fct] using this
theorem e_spreadAhead {M : Mem} {N a n : Nat} {v l d : Nat → Int} {Q : Qi} (h : CR M a n v l d) (hR : RI N n v l d) {i : Int} (hi : 0 ≤ i ∧ i ≤ n) : wpX0_spreadAhead M a (iI i) Q = Q (iI (if i = 0 ∨ i = n then 0 else l i.toNat - lp l i.toNat + d i.toNat - 1)) M := by
  have hn : n ≤ 1000 := Nat.le_trans hR.2.1 hR.1
  unfold wpX0_spreadAhead
  rw [h.1]
  by_cases c : i ≤ 0
  · simp (disch := omega) only [iI_lit, iI_neg, iI_add, iI_sub, iI_mul, iI_lt, iI_le, iI_eq, iI_in, iI_clamp, iI_mx, iI_mn, iI_nI, Int.toNat_natCast, forall_eq]
    simp only [br_1 c]
    rw [if_pos (by omega)]
  · by_cases c2 : i < n
    · simp (disch := omega) only [iI_lit, iI_neg, iI_add, iI_sub, iI_mul, iI_lt, iI_le, iI_eq, iI_in, iI_clamp, iI_mx, iI_mn, iI_nI, Int.toNat_natCast, forall_eq, e_width h hn]
      simp only [br_2 c, br_1 c2]
      rw [if_neg (by omega)]
    · simp (disch := omega) only [iI_lit, iI_neg, iI_add, iI_sub, iI_mul, iI_lt, iI_le, iI_eq, iI_in, iI_clamp, iI_mx, iI_mn, iI_nI, Int.toNat_natCast, forall_eq]
      simp only [br_2 c, br_2 c2]
      rw [if_pos (by omega)]
theorem e_endsAreTold {M : Mem} {N a n : Nat} {v l d : Nat → Int} {Q : Qi} (h : CR M a n v l d) (hR : RI N n v l d) (h0 : 0 < n) : wpX0_endsAreTold M a Q = Q (iI 1) M := by
  have hn : n ≤ 1000 := Nat.le_trans hR.2.1 hR.1
  have h1 := hR.2.2.2.2.2 h0
  have h2 := h.2 0 h0
  have h3 := h.2 (n - 1) (by omega)
  rw [h1.1] at h2
  rw [h1.2.1] at h2
  rw [h1.2.2.1, h1.2.2.2] at h3
  have e : ((n : Int) - 1).toNat = n - 1 := by omega
  unfold wpX0_endsAreTold
  rw [h.1]
  simp (disch := omega) only [iI_lit, iI_neg, iI_add, iI_sub, iI_mul, iI_lt, iI_le, iI_eq, iI_in, iI_clamp, iI_mx, iI_mn, iI_nI, Int.toNat_natCast, forall_eq, br_1, br_2, br_3, br_4, br_in, br_5, br_6, br_7, br_8, ex_c, Int.toNat_zero, h2.2.1, h2.2.2, e, h3.2.2]
theorem l_firstWrong2 {M : Mem} {N a n : Nat} {v l d : Nat → Int} {Q : Qi} (h : CR M a n v l d) (hR : RI N n v l d) {b : Int} (hb : 0 ≤ b ∧ b ≤ 1000) : ∀ k i, n - i = k → i ≤ n → (∃ m, wX0_firstWrong_37 Q a (iI N) (iI b) m M (iI (i : Nat))) = Q (iI (if wd l d n ≤ b then 0 else 4)) M := by
  have hn : n ≤ 1000 := Nat.le_trans hR.2.1 hR.1
  have hN := hR.1
  have hw := wd_b hR n (Nat.le_refl n)
  intro k
  induction k with
  | zero =>
    intro i hk hi
    have e : i = n := by omega
    subst e
    rw [ex_s rfl]
    simp only [wX0_firstWrong_37, h.1]
    simp (disch := omega) only [iI_lit, iI_neg, iI_add, iI_sub, iI_mul, iI_lt, iI_le, iI_eq, iI_in, iI_clamp, iI_mx, iI_mn, iI_nI, Int.toNat_natCast, forall_eq, e_places h hn, hR.lpn, e_widest h hR, h.1]
    by_cases c : wd l d i ≤ b
    · rw [if_pos c]
      rcases Nat.eq_zero_or_pos i with q | q
      · simp (disch := omega) only [iI_lit, iI_neg, iI_add, iI_sub, iI_mul, iI_lt, iI_le, iI_eq, iI_in, iI_clamp, iI_mx, iI_mn, iI_nI, Int.toNat_natCast, forall_eq, br_1, br_2, br_3, br_4, br_in, br_5, br_6, br_7, br_8, ex_c]
      · simp (disch := omega) only [iI_lit, iI_neg, iI_add, iI_sub, iI_mul, iI_lt, iI_le, iI_eq, iI_in, iI_clamp, iI_mx, iI_mn, iI_nI, Int.toNat_natCast, forall_eq, br_1, br_2, br_3, br_4, br_in, br_5, br_6, br_7, br_8, ex_c, e_endsAreTold h hR q]
    · rw [if_neg c]
      simp (disch := omega) only [iI_lit, iI_neg, iI_add, iI_sub, iI_mul, iI_lt, iI_le, iI_eq, iI_in, iI_clamp, iI_mx, iI_mn, iI_nI, Int.toNat_natCast, forall_eq, br_1, br_2, br_3, br_4, br_in, br_5, br_6, br_7, br_8, ex_c]
  | succ k ih =>
    intro i hk hi
    have h3 := h.2 i (by omega)
    have h4 := hR.2.2.2.1 i (by omega)
    have h5 := hR.lpl (k := i) (by omega)
    have h6 := hR.lpb (k := i) (by omega)
    rw [ex_s rfl]
    simp only [wX0_firstWrong_37, h.1]
    simp (disch := omega) only [iI_lit, iI_neg, iI_add, iI_sub, iI_mul, iI_lt, iI_le, iI_eq, iI_in, iI_clamp, iI_mx, iI_mn, iI_nI, Int.toNat_natCast, forall_eq, h3.1, h3.2.1, h3.2.2, e_gap h hn]
    simp only [br_2 (show ¬ (n : Int) ≤ i by omega), br_2 (show ¬ l i - lp l i < 1 by omega), and_1 (show 0 ≤ (i : Int) ∧ (i : Int) < (1000 : Nat) by omega), br_1 (show 0 ≤ d i by omega)]
    have := ih (i + 1) (by omega) (by omega)
    simpa using this
theorem l_firstWrong {M : Mem} {N a n : Nat} {v l d : Nat → Int} {Q : Qi} (h : CR M a n v l d) (hR : RI N n v l d) {b : Int} (hb : 0 ≤ b ∧ b ≤ 1000) : ∀ k i, n - i = k → 1 ≤ i → i ≤ 1001 → (∃ m, wX0_firstWrong_2 Q a (iI N) (iI b) m M (iI (i : Nat))) = Q (iI (if wd l d n ≤ b then 0 else 4)) M := by
  have hn : n ≤ 1000 := Nat.le_trans hR.2.1 hR.1
  intro k
  induction k with
  | zero =>
    intro i hk hi hj
    rw [ex_s rfl]
    simp only [wX0_firstWrong_2, h.1]
    have := l_firstWrong2 (Q := Q) h hR hb n 0 rfl (by omega)
    simp only [Int.natCast_zero] at this
    simp (disch := omega) only [iI_lit, iI_neg, iI_add, iI_sub, iI_mul, iI_lt, iI_le, iI_eq, iI_in, iI_clamp, iI_mx, iI_mn, iI_nI, Int.toNat_natCast, forall_eq, this]
    simp only [br_1 (show (n : Int) ≤ i by omega), ex_c]
  | succ k ih =>
    intro i hk hi hj
    have h3 := h.2 i (by omega)
    have h4 := h.2 (i - 1) (by omega)
    have h5 := hR.2.2.2.2.1 (i - 1) (by omega)
    rw [show i - 1 + 1 = i by omega] at h5
    have h6 := hR.2.2.2.1 i (by omega)
    have h7 := hR.2.2.2.1 (i - 1) (by omega)
    have e : ((i : Int) - 1).toNat = i - 1 := by omega
    rw [ex_s rfl]
    simp only [wX0_firstWrong_2, h.1]
    simp (disch := omega) only [iI_lit, iI_neg, iI_add, iI_sub, iI_mul, iI_lt, iI_le, iI_eq, iI_in, iI_clamp, iI_mx, iI_mn, iI_nI, Int.toNat_natCast, forall_eq, h3.1, h4.1, e]
    simp only [br_2 (show ¬ (n : Int) ≤ i by omega), and_1 (show 0 ≤ (i : Int) ∧ (i : Int) < (1000 : Nat) by omega), and_1 (show 0 ≤ (i : Int) - 1 ∧ (i : Int) - 1 < (1000 : Nat) by omega), br_1 h5.1]
    have := ih (i + 1) (by omega) (by omega) (by omega)
    simpa using this
