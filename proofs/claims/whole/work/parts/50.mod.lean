/-! ===== the reference's rows ===== -/
theorem ix_0 (b : Nat) : ((1000 : Int) * (b : Nat)).toNat = 1000 * b := by omega
theorem ix_1 (b k : Nat) : ((1000 : Int) * (b : Nat) + (k : Nat)).toNat = 1000 * b + k := by omega
theorem ix_2 (b k : Nat) : ((1000 : Int) * (b : Nat) + (k : Nat) + 1).toNat = 1000 * b + (k + 1) := by omega
theorem ix_3 {b : Nat} {w : Int} (h : 0 ≤ w) : ((1000 : Int) * (b : Nat) + w).toNat = 1000 * b + w.toNat := by omega
theorem tn_1 (k : Nat) : ((k : Int) + 1).toNat = k + 1 := by omega
theorem tn_2 (k : Nat) : ((k : Int) - 1).toNat = k - 1 := by omega
theorem pp_1 {M : Mem} {a k : Nat} {x y : Int32} : pI (pI M a k x) a k y = pI M a k y := by
  unfold pI
  rw [pF_eq]
  unfold pF
  congr 1
  funext b
  by_cases c : b = a
  · simp only [if_pos c]
    funext j
    unfold upd
    split <;> rfl
  · simp only [if_neg c]
theorem pp_2 {M : Mem} {a k : Nat} : pI M a k (gI M a k) = M := by
  unfold pI pF
  obtain ⟨f, g⟩ := M
  congr 1
  funext b
  by_cases c : b = a
  · subst c
    rw [if_pos rfl]
    funext j
    unfold upd gI
    split
    · rename_i q
      rw [q]
    · rfl
  · rw [if_neg c]
/-- the reference's row b holds it -/
def MR (M : Mem) (b n : Nat) (v l d : Nat → Int) : Prop := gI M 223 b = iI n ∧ ∀ k, k < n → gI M 220 (1000 * b + k) = iI (v k) ∧ gI M 221 (1000 * b + k) = iI (l k - lp l k) ∧ gI M 222 (1000 * b + k) = iI (d k)
theorem m_in {M : Mem} {Q : Qi} {v lo hi : Int} (hv : -2147483648 ≤ v ∧ v < 2147483648) (hl : -2147483648 ≤ lo ∧ lo < 2147483648) (hh : -2147483648 ≤ hi ∧ hi < 2147483648) : wpX4_in M (iI v) (iI lo) (iI hi) Q = Q (iI (if lo ≤ v ∧ v ≤ hi then 1 else 0)) M := by
  unfold wpX4_in
  by_cases c : lo ≤ v
  · by_cases c2 : v ≤ hi
    · simp (disch := omega) only [iI_lit, iI_neg, iI_add, iI_sub, iI_mul, iI_lt, iI_le, iI_eq, iI_in, iI_clamp, iI_mx, iI_mn, iI_nI, Int.toNat_natCast, forall_eq, br_1, br_2, br_3, br_4, br_in, br_5, br_6, br_7, br_8, ex_c, br_nl, br_le, br_ne, gp_1, gp_2, gp_3, gf_1, gf_2]
      rw [if_pos (by omega)]
    · simp (disch := omega) only [iI_lit, iI_neg, iI_add, iI_sub, iI_mul, iI_lt, iI_le, iI_eq, iI_in, iI_clamp, iI_mx, iI_mn, iI_nI, Int.toNat_natCast, forall_eq, br_1, br_2, br_3, br_4, br_in, br_5, br_6, br_7, br_8, ex_c, br_nl, br_le, br_ne, gp_1, gp_2, gp_3, gf_1, gf_2]
      rw [if_neg (by omega)]
  · simp (disch := omega) only [iI_lit, iI_neg, iI_add, iI_sub, iI_mul, iI_lt, iI_le, iI_eq, iI_in, iI_clamp, iI_mx, iI_mn, iI_nI, Int.toNat_natCast, forall_eq, br_1, br_2, br_3, br_4, br_in, br_5, br_6, br_7, br_8, ex_c, br_nl, br_le, br_ne, gp_1, gp_2, gp_3, gf_1, gf_2]
    rw [if_neg (by omega)]
theorem m_boundBy {M : Mem} {Q : Qi} {n e : Int} (hn : 0 ≤ n ∧ n ≤ 1000) (he : 2 ≤ e ∧ e ≤ 1000) : wpX4_boundBy M (iI n) (iI e) Q = Q (iI (bo n e)) M := by
  have h0 : 0 ≤ 2 * n / e := Int.ediv_nonneg (by omega) (by omega)
  have h1 := bo_b hn he.1
  unfold bo mx at h1
  have h2 : 2 * n / e ≤ 1000 := by
    split at h1 <;> omega
  unfold wpX4_boundBy bo mx
  by_cases c : 2 * n / e ≤ 1
  · simp (disch := omega) only [iI_lit, iI_neg, iI_add, iI_sub, iI_mul, iI_lt, iI_le, iI_eq, iI_in, iI_clamp, iI_mx, iI_mn, iI_nI, Int.toNat_natCast, forall_eq, br_1, br_2, br_3, br_4, br_in, br_5, br_6, br_7, br_8, ex_c, br_nl, br_le, br_ne, gp_1, gp_2, gp_3, gf_1, gf_2, iI_div]
    rw [if_neg (by omega)]
  · simp (disch := omega) only [iI_lit, iI_neg, iI_add, iI_sub, iI_mul, iI_lt, iI_le, iI_eq, iI_in, iI_clamp, iI_mx, iI_mn, iI_nI, Int.toNat_natCast, forall_eq, br_1, br_2, br_3, br_4, br_in, br_5, br_6, br_7, br_8, ex_c, br_nl, br_le, br_ne, gp_1, gp_2, gp_3, gf_1, gf_2, iI_div]
    rw [if_pos (by omega)]
theorem m_boundOf {M : Mem} {Q : Qi} {b N : Nat} {e : Int} (hb : b < 6) (h : gI M 224 b = iI N) (h2 : gI M 200 28 = iI e) (hn : N ≤ 1000) (he : 2 ≤ e ∧ e ≤ 1000) : wpX4_boundOf M (iI b) Q = Q (iI (bo N e)) M := by
  unfold wpX4_boundOf
  simp (disch := omega) only [iI_lit, iI_neg, iI_add, iI_sub, iI_mul, iI_lt, iI_le, iI_eq, iI_in, iI_clamp, iI_mx, iI_mn, iI_nI, Int.toNat_natCast, forall_eq, br_1, br_2, br_3, br_4, br_in, br_5, br_6, br_7, br_8, ex_c, br_nl, br_le, br_ne, gp_1, gp_2, gp_3, gf_1, gf_2, ix_0, ix_1, ix_2, ix_3, tn_1, tn_2, pp_1, h, h2, m_boundBy]
theorem emod_pow {b : Int} {k : Nat} : b - 2 ^ k - b % 2 ^ k = (b / 2 ^ k - 1) * 2 ^ k := by
  rw [Int.sub_mul, Int.emod_def, Int.mul_comm ((2 : Int) ^ k)]
  omega
theorem pow_b : ∀ k : Nat, k < 13 → (1 : Int) ≤ 2 ^ k ∧ (2 : Int) ^ k ≤ 4096 := by decide +kernel
theorem l_mbandOf {M : Mem} {Q : Qi} {d b : Int} (hd : 0 ≤ d ∧ d ≤ 1000) (hb : 0 ≤ b ∧ b ≤ 1000) : ∀ f k, f + k = 12 → (∃ m, wX4_bandOf_2 Q (iI d) (iI b) m M (iI (k : Nat))) = Q (iI (bdf d b f k)) M := by
  intro f
  induction f with
  | zero =>
    intro k hk
    have e : k = 12 := by omega
    subst e
    rw [ex_s rfl]
    simp only [wX4_bandOf_2, bdf]
    have h2 : b / 4096 = 0 := Int.ediv_eq_zero_of_lt hb.1 (by omega)
    have h3 : b % 4096 = b := Int.emod_eq_of_lt hb.1 (by omega)
    simp (disch := omega) only [iI_lit, iI_neg, iI_add, iI_sub, iI_mul, iI_lt, iI_le, iI_eq, iI_in, iI_clamp, iI_mx, iI_mn, iI_nI, Int.toNat_natCast, forall_eq, br_1, br_2, br_3, br_4, br_in, br_5, br_6, br_7, br_8, ex_c, br_nl, br_le, br_ne, gp_1, gp_2, gp_3, gf_1, gf_2, iI_shl, iI_rem, show (1 : Int) * 2 ^ 12 = 4096 by decide]
  | succ f ih =>
    intro k hk
    have h1 := bnd_b (b := b) (by omega) (k := k) (by omega)
    have h2 := pow_b k (by omega)
    have h3 := emod_pow (b := b) (k := k)
    have h4 := Int.emod_nonneg b (show (2 : Int) ^ k ≠ 0 by omega)
    have h5 := Int.emod_lt_of_pos b (show (0 : Int) < 2 ^ k by omega)
    rw [ex_s rfl]
    simp only [wX4_bandOf_2, bdf]
    by_cases c : d ≤ (b / 2 ^ k - 1) * 2 ^ k
    · simp (disch := omega) only [iI_lit, iI_neg, iI_add, iI_sub, iI_mul, iI_lt, iI_le, iI_eq, iI_in, iI_clamp, iI_mx, iI_mn, iI_nI, Int.toNat_natCast, forall_eq, br_1, br_2, br_3, br_4, br_in, br_5, br_6, br_7, br_8, ex_c, br_nl, br_le, br_ne, gp_1, gp_2, gp_3, gf_1, gf_2, iI_shl, iI_rem, Int.one_mul, h3]
      rw [if_pos c]
      have := ih (k + 1) (by omega)
      simpa using this
    · simp (disch := omega) only [iI_lit, iI_neg, iI_add, iI_sub, iI_mul, iI_lt, iI_le, iI_eq, iI_in, iI_clamp, iI_mx, iI_mn, iI_nI, Int.toNat_natCast, forall_eq, br_1, br_2, br_3, br_4, br_in, br_5, br_6, br_7, br_8, ex_c, br_nl, br_le, br_ne, gp_1, gp_2, gp_3, gf_1, gf_2, iI_shl, iI_rem, Int.one_mul, h3]
      rw [if_neg c]
theorem m_bandOf {M : Mem} {Q : Qi} {d b : Int} (hd : 0 ≤ d ∧ d ≤ 1000) (hb : 0 ≤ b ∧ b ≤ 1000) : wpX4_bandOf M (iI d) (iI b) Q = Q (iI (bd d b)) M := by
  unfold wpX4_bandOf
  have := l_mbandOf (M := M) (Q := Q) hd hb 12 0 rfl
  simp (disch := omega) only [iI_lit, iI_neg, iI_add, iI_sub, iI_mul, iI_lt, iI_le, iI_eq, iI_in, iI_clamp, iI_mx, iI_mn, iI_nI, Int.toNat_natCast, forall_eq]
  simpa [bd] using this
theorem m_bandAt {M : Mem} {Q : Qi} {b i : Nat} {d bo : Int} (hb : b < 6) (hi : i < 1000) (h : gI M 222 (1000 * b + i) = iI d) (hd : 0 ≤ d ∧ d ≤ 1000) (ho : 0 ≤ bo ∧ bo ≤ 1000) : wpX4_bandAt M (iI b) (iI i) (iI bo) Q = Q (iI (bd d bo)) M := by
  unfold wpX4_bandAt
  simp (disch := omega) only [iI_lit, iI_neg, iI_add, iI_sub, iI_mul, iI_lt, iI_le, iI_eq, iI_in, iI_clamp, iI_mx, iI_mn, iI_nI, Int.toNat_natCast, forall_eq, br_1, br_2, br_3, br_4, br_in, br_5, br_6, br_7, br_8, ex_c, br_nl, br_le, br_ne, gp_1, gp_2, gp_3, gf_1, gf_2, ix_0, ix_1, ix_2, ix_3, tn_1, tn_2, pp_1, h, m_bandOf]
theorem l_place {M : Mem} {N b n : Nat} {v l d : Nat → Int} {Q : Qi} (hb : b < 6) (h : MR M b n v l d) (hR : RI N n v l d) {x : Int} (hx : -1 ≤ x ∧ x ≤ 1000) : ∀ f i, n - i = f → i ≤ n → (∀ k, k < i → v k ≤ x) → (∃ m, wX4_place_2 Q (iI b) (iI x) m M (iI (i : Nat))) = Q (iI (plc v x n)) M := by
  have hn : n ≤ 1000 := Nat.le_trans hR.2.1 hR.1
  have hp := plc_le v x n
  intro f
  induction f with
  | zero =>
    intro i hf hi hlo
    have e : i = n := by omega
    subst e
    rw [ex_s rfl]
    simp only [wX4_place_2]
    simp (disch := omega) only [iI_lit, iI_neg, iI_add, iI_sub, iI_mul, iI_lt, iI_le, iI_eq, iI_in, iI_clamp, iI_mx, iI_mn, iI_nI, Int.toNat_natCast, forall_eq, br_1, br_2, br_3, br_4, br_in, br_5, br_6, br_7, br_8, ex_c, br_nl, br_le, br_ne, gp_1, gp_2, gp_3, gf_1, gf_2, ix_0, ix_1, ix_2, ix_3, tn_1, tn_2, pp_1, h.1]
    congr 3
    rcases Nat.lt_or_ge (plc v x i) i with q | q
    · have := hlo _ q
      have := plc_hi v x i q
      omega
    · omega
  | succ f ih =>
    intro i hf hi hlo
    have h3 := h.2 i (by omega)
    have h4 := hR.2.2.2.1 i (by omega)
    have h5 := plc_iff hR x (k := i) (by omega)
    rw [ex_s rfl]
    simp only [wX4_place_2]
    by_cases c : v i ≤ x
    · simp (disch := omega) only [iI_lit, iI_neg, iI_add, iI_sub, iI_mul, iI_lt, iI_le, iI_eq, iI_in, iI_clamp, iI_mx, iI_mn, iI_nI, Int.toNat_natCast, forall_eq, br_1, br_2, br_3, br_4, br_in, br_5, br_6, br_7, br_8, ex_c, br_nl, br_le, br_ne, gp_1, gp_2, gp_3, gf_1, gf_2, ix_0, ix_1, ix_2, ix_3, tn_1, tn_2, pp_1, h.1, h3.1]
      have := ih (i + 1) (by omega) (by omega) (fun k hk => by
        by_cases q : k = i
        · rw [q]
          exact c
        · exact hlo k (by omega))
      simpa using this
    · simp (disch := omega) only [iI_lit, iI_neg, iI_add, iI_sub, iI_mul, iI_lt, iI_le, iI_eq, iI_in, iI_clamp, iI_mx, iI_mn, iI_nI, Int.toNat_natCast, forall_eq, br_1, br_2, br_3, br_4, br_in, br_5, br_6, br_7, br_8, ex_c, br_nl, br_le, br_ne, gp_1, gp_2, gp_3, gf_1, gf_2, ix_0, ix_1, ix_2, ix_3, tn_1, tn_2, pp_1, h.1, h3.1]
      congr 3
      rcases Nat.lt_or_ge (plc v x n) i with q | q
      · have := hlo _ q
        have := plc_hi v x n (by omega)
        omega
      · omega
theorem m_place {M : Mem} {N b n : Nat} {v l d : Nat → Int} {Q : Qi} (hb : b < 6) (h : MR M b n v l d) (hR : RI N n v l d) {x : Int} (hx : -1 ≤ x ∧ x ≤ 1000) : wpX4_place M (iI b) (iI x) Q = Q (iI (plc v x n)) M := by
  unfold wpX4_place
  have := l_place (Q := Q) hb h hR hx n 0 rfl (by omega) (fun k hk => by omega)
  simp (disch := omega) only [iI_lit, iI_neg, iI_add, iI_sub, iI_mul, iI_lt, iI_le, iI_eq, iI_in, iI_clamp, iI_mx, iI_mn, iI_nI, Int.toNat_natCast, forall_eq]
  simpa using this
theorem m_spreadAt {M : Mem} {N b n : Nat} {v l d : Nat → Int} {Q : Qi} (hb : b < 6) (h : MR M b n v l d) (hR : RI N n v l d) {i : Nat} (hi : i ≤ n) : wpX4_spreadAt M (iI b) (iI i) Q = Q (iI (sAh l d n i)) M := by
  have hn : n ≤ 1000 := Nat.le_trans hR.2.1 hR.1
  unfold wpX4_spreadAt sAh
  by_cases c : i = 0
  · simp (disch := omega) only [iI_lit, iI_neg, iI_add, iI_sub, iI_mul, iI_lt, iI_le, iI_eq, iI_in, iI_clamp, iI_mx, iI_mn, iI_nI, Int.toNat_natCast, forall_eq, br_1, br_2, br_3, br_4, br_in, br_5, br_6, br_7, br_8, ex_c, br_nl, br_le, br_ne, gp_1, gp_2, gp_3, gf_1, gf_2, ix_0, ix_1, ix_2, ix_3, tn_1, tn_2, pp_1, h.1]
    rw [if_pos (by omega)]
  · by_cases c2 : i = n
    · simp (disch := omega) only [iI_lit, iI_neg, iI_add, iI_sub, iI_mul, iI_lt, iI_le, iI_eq, iI_in, iI_clamp, iI_mx, iI_mn, iI_nI, Int.toNat_natCast, forall_eq, br_1, br_2, br_3, br_4, br_in, br_5, br_6, br_7, br_8, ex_c, br_nl, br_le, br_ne, gp_1, gp_2, gp_3, gf_1, gf_2, ix_0, ix_1, ix_2, ix_3, tn_1, tn_2, pp_1, h.1]
      rw [if_pos (by omega)]
    · have h3 := h.2 i (by omega)
      simp (disch := omega) only [iI_lit, iI_neg, iI_add, iI_sub, iI_mul, iI_lt, iI_le, iI_eq, iI_in, iI_clamp, iI_mx, iI_mn, iI_nI, Int.toNat_natCast, forall_eq, br_1, br_2, br_3, br_4, br_in, br_5, br_6, br_7, br_8, ex_c, br_nl, br_le, br_ne, gp_1, gp_2, gp_3, gf_1, gf_2, ix_0, ix_1, ix_2, ix_3, tn_1, tn_2, pp_1, h.1, h3.2.1, h3.2.2]
      rw [if_neg (by omega)]
theorem l_gaps {M : Mem} {b lo hi : Nat} {l : Nat → Int} {Q : Qi} (hb : b < 6) (hh : hi ≤ 1000) (h : ∀ k, lo ≤ k → k < hi → gI M 221 (1000 * b + k) = iI (l k - lp l k)) : ∀ f i, hi - i = f → lo ≤ i → i ≤ hi → (∃ m, wX4_gaps_6 Q (iI b) (iI ((hi : Int) - 1)) m M (iI (lp l i - lp l lo)) (iI (i : Nat))) = Q (iI (lp l hi - lp l lo)) M := by
  intro f
  induction f with
  | zero =>
    intro i hf hlo hi'
    have e : i = hi := by omega
    subst e
    rw [ex_s rfl]
    simp only [wX4_gaps_6]
    simp (disch := omega) only [iI_lit, iI_neg, iI_add, iI_sub, iI_mul, iI_lt, iI_le, iI_eq, iI_in, iI_clamp, iI_mx, iI_mn, iI_nI, Int.toNat_natCast, forall_eq, br_1, br_2, br_3, br_4, br_in, br_5, br_6, br_7, br_8, ex_c, br_nl, br_le, br_ne, gp_1, gp_2, gp_3, gf_1, gf_2, ix_0, ix_1, ix_2, ix_3, tn_1, tn_2, pp_1]
  | succ f ih =>
    intro i hf hlo hi'
    have h3 := h i hlo (by omega)
    rw [ex_s rfl]
    simp only [wX4_gaps_6]
    simp (disch := omega) only [iI_lit, iI_neg, iI_add, iI_sub, iI_mul, iI_lt, iI_le, iI_eq, iI_in, iI_clamp, iI_mx, iI_mn, iI_nI, Int.toNat_natCast, forall_eq, br_1, br_2, br_3, br_4, br_in, br_5, br_6, br_7, br_8, ex_c, br_nl, br_le, br_ne, gp_1, gp_2, gp_3, gf_1, gf_2, ix_0, ix_1, ix_2, ix_3, tn_1, tn_2, pp_1, h3]
    have := ih (i + 1) (by omega) (by omega) (by omega)
    rw [lp_s, show l i - lp l lo = lp l i - lp l lo + (l i - lp l i) by omega] at this
    simpa using this
theorem m_gaps {M : Mem} {b lo hi : Nat} {l : Nat → Int} {Q : Qi} (hb : b < 6) (hh : hi ≤ 1000) (hl : lo ≤ hi) (h : ∀ k, lo ≤ k → k < hi → gI M 221 (1000 * b + k) = iI (l k - lp l k)) {t : Int} (ht : t = (hi : Int) - 1) : wpX4_gaps M (iI b) (iI lo) (iI t) Q = Q (iI (lp l hi - lp l lo)) M := by
  subst ht
  unfold wpX4_gaps
  have := l_gaps (Q := Q) hb hh h (hi - lo) lo rfl (Nat.le_refl _) hl
  rw [Int.sub_self] at this
  simp (disch := omega) only [iI_lit, iI_neg, iI_add, iI_sub, iI_mul, iI_lt, iI_le, iI_eq, iI_in, iI_clamp, iI_mx, iI_mn, iI_nI, Int.toNat_natCast, forall_eq]
  exact this
theorem l_mfamilyFrom {M : Mem} {b i : Nat} {d : Nat → Int} {Q : Qi} {bo : Int} (hb : b < 6) (hi : i < 1000) (ho : 0 ≤ bo ∧ bo ≤ 1000) (h : ∀ k, k ≤ i → gI M 222 (1000 * b + k) = iI (d k) ∧ 0 ≤ d k ∧ d k ≤ 1000) : ∀ f, f ≤ i → (∃ m, wX4_familyFrom_3 Q (iI b) (iI i) (iI bo) m M (iI (f : Nat))) = Q (iI (fam (fun k => bd (d k) bo) (bd (d i) bo) f)) M := by
  intro f
  induction f with
  | zero =>
    intro hf
    rw [ex_s rfl]
    simp only [wX4_familyFrom_3]
    simp (disch := omega) only [iI_lit, iI_neg, iI_add, iI_sub, iI_mul, iI_lt, iI_le, iI_eq, iI_in, iI_clamp, iI_mx, iI_mn, iI_nI, Int.toNat_natCast, forall_eq, br_1, br_2, br_3, br_4, br_in, br_5, br_6, br_7, br_8, ex_c, br_nl, br_le, br_ne, gp_1, gp_2, gp_3, gf_1, gf_2, ix_0, ix_1, ix_2, ix_3, tn_1, tn_2, pp_1, fam]
  | succ f ih =>
    intro hf
    rw [ex_s rfl]
    have b1 := h i (by omega)
    have b2 := h f (by omega)
    have b3 := bd_le (d i) bo
    have b4 := bd_le (d f) bo
    have e1 : ((f + 1 : Nat) : Int) - 1 = f := by omega
    have e2 : ((f + 1 : Nat) : Int) + -1 = f := by omega
    simp only [wX4_familyFrom_3]
    rw [fam]
    by_cases c : 1 ≤ f
    · by_cases c2 : bd (d f) bo < bd (d i) bo
      · simp (disch := omega) only [iI_lit, iI_neg, iI_add, iI_sub, iI_mul, iI_lt, iI_le, iI_eq, iI_in, iI_clamp, iI_mx, iI_mn, iI_nI, Int.toNat_natCast, forall_eq, br_1, br_2, br_3, br_4, br_in, br_5, br_6, br_7, br_8, ex_c, br_nl, br_le, br_ne, gp_1, gp_2, gp_3, gf_1, gf_2, ix_0, ix_1, ix_2, ix_3, tn_1, tn_2, pp_1, e1, e2, m_bandAt hb (show f < 1000 by omega) b2.1, m_bandAt hb hi b1.1]
        rw [if_pos (by omega)]
        exact ih (by omega)
      · simp (disch := omega) only [iI_lit, iI_neg, iI_add, iI_sub, iI_mul, iI_lt, iI_le, iI_eq, iI_in, iI_clamp, iI_mx, iI_mn, iI_nI, Int.toNat_natCast, forall_eq, br_1, br_2, br_3, br_4, br_in, br_5, br_6, br_7, br_8, ex_c, br_nl, br_le, br_ne, gp_1, gp_2, gp_3, gf_1, gf_2, ix_0, ix_1, ix_2, ix_3, tn_1, tn_2, pp_1, e1, e2, m_bandAt hb (show f < 1000 by omega) b2.1, m_bandAt hb hi b1.1]
        rw [if_neg (by omega)]
    · simp (disch := omega) only [iI_lit, iI_neg, iI_add, iI_sub, iI_mul, iI_lt, iI_le, iI_eq, iI_in, iI_clamp, iI_mx, iI_mn, iI_nI, Int.toNat_natCast, forall_eq, br_1, br_2, br_3, br_4, br_in, br_5, br_6, br_7, br_8, ex_c, br_nl, br_le, br_ne, gp_1, gp_2, gp_3, gf_1, gf_2, ix_0, ix_1, ix_2, ix_3, tn_1, tn_2, pp_1]
      rw [if_neg (by omega)]
theorem m_familyFrom {M : Mem} {b i : Nat} {d : Nat → Int} {Q : Qi} {bo : Int} (hb : b < 6) (hi : i < 1000) (ho : 0 ≤ bo ∧ bo ≤ 1000) (h : ∀ k, k ≤ i → gI M 222 (1000 * b + k) = iI (d k) ∧ 0 ≤ d k ∧ d k ≤ 1000) : wpX4_familyFrom M (iI b) (iI i) (iI bo) Q = Q (iI (fam (fun k => bd (d k) bo) (bd (d i) bo) i)) M := by
  unfold wpX4_familyFrom
  exact l_mfamilyFrom hb hi ho h i (Nat.le_refl i)
