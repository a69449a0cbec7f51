/-! ===== a Stream: N values, n tuples, counts c, every e, since s, compressions k ===== -/
/-- what the first k counts sum to -/
def csum (c : Nat → Int) : Nat → Int
  | 0 => 0
  | k + 1 => csum c k + c k
/-- the class's counts -/
def CC (M : Mem) (b : Nat) (c : Nat → Int) : Prop := ∀ k, k < 1000 → gI M (b + 1) k = iI (c k)
def CI (N : Nat) (c : Nat → Int) : Prop := N ≤ 1000 ∧ (∀ k, k < 1000 → 0 ≤ c k) ∧ csum c 1000 = N
theorem csum_mono {c : Nat → Int} {n : Nat} (h : ∀ k, k < n → 0 ≤ c k) : ∀ j i, i + j ≤ n → csum c i ≤ csum c (i + j) := by
  intro j
  induction j with
  | zero => intro i _; exact Int.le_refl _
  | succ j ih =>
    intro i hi
    have := ih i (by omega)
    have := h (i + j) (by omega)
    rw [← Nat.add_assoc, csum]
    omega
theorem CI.b {N : Nat} {c : Nat → Int} (h : CI N c) {k : Nat} (hk : k ≤ 1000) : 0 ≤ csum c k ∧ csum c k ≤ N := by
  have h1 := csum_mono (n := 1000) h.2.1 k 0 (by omega)
  have h2 := csum_mono (n := 1000) h.2.1 (1000 - k) k (by omega)
  rw [show k + (1000 - k) = 1000 by omega, h.2.2] at h2
  rw [Nat.zero_add, csum] at h1
  omega
theorem CI.e {N : Nat} {c : Nat → Int} (h : CI N c) {k : Nat} (hk : k < 1000) : 0 ≤ c k ∧ c k ≤ N := by
  have h1 := h.b (k := k) (by omega)
  have h2 := h.b (k := k + 1) (by omega)
  rw [csum] at h2
  have := h.2.1 k hk
  omega
theorem l_unlikeValues {M : Mem} {N b : Nat} {c : Nat → Int} {Q : Qi} (h : CC M b c) (hC : CI N c) : ∀ f i, 1000 - i = f → i ≤ 1000 → (∃ m, wX1_unlikeValues_4 Q b m M (iI (fct (fun k => decide (0 < c (k - 1))) i)) (iI (i : Nat))) = Q (iI (fct (fun k => decide (0 < c (k - 1))) 1000)) M := by
  intro f
  induction f with
  | zero =>
    intro i hf hi
    have e : i = 1000 := by omega
    subst e
    rw [ex_s rfl]
    simp only [wX1_unlikeValues_4]
    simp (disch := omega) only [iI_lit, iI_neg, iI_add, iI_sub, iI_mul, iI_lt, iI_le, iI_eq, iI_in, iI_clamp, iI_mx, iI_mn, iI_nI, Int.toNat_natCast, forall_eq, br_1, br_2, br_3, br_4, br_in, br_5, br_6, br_7, br_8, ex_c, br_nl, br_le, br_ne, gp_1, gp_2, gp_3, gf_1, gf_2]
  | succ f ih =>
    intro i hf hi
    have h1 := h i (by omega)
    have h2 := hC.e (k := i) (by omega)
    have h3 := hC.1
    rw [ex_s rfl]
    simp only [wX1_unlikeValues_4]
    have := ih (i + 1) (by omega) (by omega)
    rw [fct] at this
    by_cases q : 0 < c i
    · simp (disch := omega) only [iI_lit, iI_neg, iI_add, iI_sub, iI_mul, iI_lt, iI_le, iI_eq, iI_in, iI_clamp, iI_mx, iI_mn, iI_nI, Int.toNat_natCast, forall_eq, br_1, br_2, br_3, br_4, br_in, br_5, br_6, br_7, br_8, ex_c, br_nl, br_le, br_ne, gp_1, gp_2, gp_3, gf_1, gf_2, h1]
      simpa [q] using this
    · simp (disch := omega) only [iI_lit, iI_neg, iI_add, iI_sub, iI_mul, iI_lt, iI_le, iI_eq, iI_in, iI_clamp, iI_mx, iI_mn, iI_nI, Int.toNat_natCast, forall_eq, br_1, br_2, br_3, br_4, br_in, br_5, br_6, br_7, br_8, ex_c, br_nl, br_le, br_ne, gp_1, gp_2, gp_3, gf_1, gf_2, h1]
      simpa [q] using this
theorem e_unlikeValues {M : Mem} {N b : Nat} {c : Nat → Int} {Q : Qi} (h : CC M b c) (hC : CI N c) : wpX1_unlikeValues M b Q = Q (iI (fct (fun k => decide (0 < c (k - 1))) 1000)) M := by
  unfold wpX1_unlikeValues
  have := l_unlikeValues (Q := Q) h hC 1000 0 rfl (by omega)
  rw [show fct (fun k => decide (0 < c (k - 1))) 0 = 0 from rfl, Int.natCast_zero] at this
  simp (disch := omega) only [iI_lit, iI_neg, iI_add, iI_sub, iI_mul, iI_lt, iI_le, iI_eq, iI_in, iI_clamp, iI_mx, iI_mn, iI_nI, Int.toNat_natCast, forall_eq]
  exact this
theorem l_sumOfValues {M : Mem} {b : Nat} {c : Nat → Int} {Q : Qi} (h : CC M b c) : ∀ f i, 1000 - i = f → i ≤ 1000 → (∃ m, wX1_sumOfValues_4 Q b m M (iI (csum (fun k => k * c k) i)) (iI (i : Nat))) = Q (iI (csum (fun k => k * c k) 1000)) M := by
  intro f
  induction f with
  | zero =>
    intro i hf hi
    have e : i = 1000 := by omega
    subst e
    rw [ex_s rfl]
    simp only [wX1_sumOfValues_4]
    simp (disch := omega) only [iI_lit, iI_neg, iI_add, iI_sub, iI_mul, iI_lt, iI_le, iI_eq, iI_in, iI_clamp, iI_mx, iI_mn, iI_nI, Int.toNat_natCast, forall_eq, br_1, br_2, br_3, br_4, br_in, br_5, br_6, br_7, br_8, ex_c, br_nl, br_le, br_ne, gp_1, gp_2, gp_3, gf_1, gf_2]
  | succ f ih =>
    intro i hf hi
    have h1 := h i (by omega)
    rw [ex_s rfl]
    simp only [wX1_sumOfValues_4]
    have := ih (i + 1) (by omega) (by omega)
    rw [csum] at this
    simp (disch := omega) only [iI_lit, iI_neg, iI_add, iI_sub, iI_mul, iI_lt, iI_le, iI_eq, iI_in, iI_clamp, iI_mx, iI_mn, iI_nI, Int.toNat_natCast, forall_eq, br_1, br_2, br_3, br_4, br_in, br_5, br_6, br_7, br_8, ex_c, br_nl, br_le, br_ne, gp_1, gp_2, gp_3, gf_1, gf_2, h1]
    simpa using this
theorem e_sumOfValues {M : Mem} {b : Nat} {c : Nat → Int} {Q : Qi} (h : CC M b c) : wpX1_sumOfValues M b Q = Q (iI (csum (fun k => k * c k) 1000)) M := by
  unfold wpX1_sumOfValues
  have := l_sumOfValues (Q := Q) h 1000 0 rfl (by omega)
  rw [show csum (fun k => k * c k) 0 = 0 from rfl, Int.natCast_zero] at this
  simp (disch := omega) only [iI_lit, iI_neg, iI_add, iI_sub, iI_mul, iI_lt, iI_le, iI_eq, iI_in, iI_clamp, iI_mx, iI_mn, iI_nI, Int.toNat_natCast, forall_eq]
  exact this
/-- the value at place r -/
def vat (c : Nat → Int) (r : Int) : Nat → Nat
  | 0 => 0
  | k + 1 => if vat c r k < k ∨ r ≤ csum c (k + 1) then vat c r k else k + 1
theorem vat_is {c : Nat → Int} {r : Int} {n v : Nat} (hc : ∀ k, k < n → 0 ≤ c k) (hv : v < n) (h1 : ∀ k, k ≤ v → csum c k < r) (h2 : r ≤ csum c (v + 1)) : ∀ k, k ≤ n → vat c r k = if k ≤ v then k else v := by
  intro k
  induction k with
  | zero => intro _; simp [vat]
  | succ k ih =>
    intro hk
    rw [vat, ih (by omega)]
    by_cases q : k ≤ v
    · rw [if_pos q]
      by_cases q2 : k = v
      · subst q2
        rw [if_pos (Or.inr h2), if_neg (by omega)]
      · have := h1 (k + 1) (by omega)
        rw [if_neg (by omega), if_pos (by omega)]
    · rw [if_neg q, if_pos (by omega), if_neg (by omega)]
theorem l_valueAt {M : Mem} {N b : Nat} {c : Nat → Int} {Q : Qi} (h : CC M b c) (hC : CI N c) {r : Int} (hr : 1 ≤ r ∧ r ≤ N) : ∀ f i, 1000 - i = f → i ≤ 1000 → (∀ k, k ≤ i → csum c k < r) → (∃ m, wX1_valueAt_4 Q b m M (iI (r - csum c i)) (iI (i : Nat))) = Q (iI (vat c r 1000)) M := by
  have hN := hC.1
  intro f
  induction f with
  | zero =>
    intro i hf hi hlo
    have := hlo 1000 (by omega)
    rw [hC.2.2] at this
    omega
  | succ f ih =>
    intro i hf hi hlo
    have h1 := h i (by omega)
    have h2 := hC.e (k := i) (by omega)
    have h3 := hC.b (k := i) (by omega)
    have h4 := hC.b (k := i + 1) (by omega)
    have e : csum c (i + 1) = csum c i + c i := rfl
    rw [ex_s rfl]
    simp only [wX1_valueAt_4]
    by_cases q : r ≤ csum c (i + 1)
    · simp (disch := omega) only [iI_lit, iI_neg, iI_add, iI_sub, iI_mul, iI_lt, iI_le, iI_eq, iI_in, iI_clamp, iI_mx, iI_mn, iI_nI, Int.toNat_natCast, forall_eq, br_1, br_2, br_3, br_4, br_in, br_5, br_6, br_7, br_8, ex_c, br_nl, br_le, br_ne, gp_1, gp_2, gp_3, gf_1, gf_2, h1]
      rw [vat_is hC.2.1 (by omega) hlo q 1000 (by omega), if_neg (by omega)]
    · simp (disch := omega) only [iI_lit, iI_neg, iI_add, iI_sub, iI_mul, iI_lt, iI_le, iI_eq, iI_in, iI_clamp, iI_mx, iI_mn, iI_nI, Int.toNat_natCast, forall_eq, br_1, br_2, br_3, br_4, br_in, br_5, br_6, br_7, br_8, ex_c, br_nl, br_le, br_ne, gp_1, gp_2, gp_3, gf_1, gf_2, h1]
      have := ih (i + 1) (by omega) (by omega) (fun k hk => by
        by_cases z : k = i + 1
        · rw [z]
          omega
        · exact hlo k (by omega))
      rw [e, ← Int.sub_sub] at this
      simpa using this
theorem e_valueAt {M : Mem} {N b : Nat} {c : Nat → Int} {Q : Qi} (h : CC M b c) (hC : CI N c) {r : Int} (hr : 1 ≤ r ∧ r ≤ N) : wpX1_valueAt M b (iI r) Q = Q (iI (vat c r 1000)) M := by
  unfold wpX1_valueAt
  have := l_valueAt (Q := Q) h hC hr 1000 0 rfl (by omega) (fun k hk => by
    have : k = 0 := by omega
    subst this
    rw [csum]
    omega)
  simp (disch := omega) only [iI_lit, iI_neg, iI_add, iI_sub, iI_mul, iI_lt, iI_le, iI_eq, iI_in, iI_clamp, iI_mx, iI_mn, iI_nI, Int.toNat_natCast, forall_eq]
  simpa [csum] using this
/-- the place of a share -/
def qp (N k sh : Int) : Int := mx 1 ((N * k + sh - 1) / sh)
theorem qp_a {N k sh : Int} (hN : 0 ≤ N ∧ N ≤ 1000) (hk : 0 ≤ k ∧ k ≤ sh) (hs : 1 ≤ sh ∧ sh ≤ 100) : 0 ≤ N * k ∧ N * k ≤ 100000 ∧ 0 ≤ (N * k + sh - 1) / sh ∧ (N * k + sh - 1) / sh ≤ N := by
  have h1 : 0 ≤ N * k := Int.mul_nonneg hN.1 hk.1
  have h2 : N * k ≤ N * sh := Int.mul_le_mul_of_nonneg_left hk.2 hN.1
  have h3 : N * sh ≤ 1000 * sh := Int.mul_le_mul_of_nonneg_right hN.2 (by omega)
  have h4 : 0 ≤ (N * k + sh - 1) / sh := Int.ediv_nonneg (by omega) (by omega)
  have h5 : (N * k + sh - 1) / sh < N + 1 := Int.ediv_lt_of_lt_mul (by omega) (by rw [Int.add_mul]; omega)
  omega
theorem qp_b {N k sh : Int} (hN : 1 ≤ N ∧ N ≤ 1000) (hk : 0 ≤ k ∧ k ≤ sh) (hs : 1 ≤ sh ∧ sh ≤ 100) : 1 ≤ qp N k sh ∧ qp N k sh ≤ N := by
  have := qp_a (by omega) hk hs (N := N)
  unfold qp mx
  split <;> omega
theorem qp_m {N k k' sh : Int} (hN : 0 ≤ N) (hk : k ≤ k') (hs : 1 ≤ sh) : qp N k sh ≤ qp N k' sh := by
  have h2 : N * k ≤ N * k' := Int.mul_le_mul_of_nonneg_left hk hN
  have h3 : (N * k + sh - 1) / sh ≤ (N * k' + sh - 1) / sh := Int.ediv_le_ediv (by omega) (by omega)
  unfold qp mx
  split <;> split <;> omega
theorem e_quotaPlace {M : Mem} {N : Nat} {b : Nat} {Q : Qi} {k sh : Int} (h : gI M b 2 = iI N) (hN : N ≤ 1000) (hk : 0 ≤ k ∧ k ≤ sh) (hs : 1 ≤ sh ∧ sh ≤ 100) : wpX1_quotaPlace M b (iI k) (iI sh) Q = Q (iI (qp N k sh)) M := by
  have := qp_a (N := N) (by omega) hk hs
  unfold wpX1_quotaPlace qp
  rw [h]
  simp (disch := omega) only [iI_lit, iI_neg, iI_add, iI_sub, iI_mul, iI_lt, iI_le, iI_eq, iI_in, iI_clamp, iI_mx, iI_mn, iI_nI, Int.toNat_natCast, forall_eq, br_1, br_2, br_3, br_4, br_in, br_5, br_6, br_7, br_8, ex_c, br_nl, br_le, br_ne, gp_1, gp_2, gp_3, gf_1, gf_2, iI_div]
theorem l_valuesBetween {M : Mem} {N b lo hi : Nat} {c : Nat → Int} {Q : Qi} (h : CC M b c) (hC : CI N c) (hhi : hi ≤ 1000) : ∀ f i, hi - i = f → i ≤ hi → lo ≤ i → (∃ m, wX1_valuesBetween_5 Q b (iI hi) m M (iI (csum c i - csum c lo)) (iI (i : Nat))) = Q (iI (csum c hi - csum c lo)) M := by
  intro f
  induction f with
  | zero =>
    intro i hf hi' hlo
    have e : i = hi := by omega
    subst e
    rw [ex_s rfl]
    simp only [wX1_valuesBetween_5]
    simp (disch := omega) only [iI_lit, iI_neg, iI_add, iI_sub, iI_mul, iI_lt, iI_le, iI_eq, iI_in, iI_clamp, iI_mx, iI_mn, iI_nI, Int.toNat_natCast, forall_eq, br_1, br_2, br_3, br_4, br_in, br_5, br_6, br_7, br_8, ex_c, br_nl, br_le, br_ne, gp_1, gp_2, gp_3, gf_1, gf_2]
  | succ f ih =>
    intro i hf hi' hlo
    have h1 := h i (by omega)
    rw [ex_s rfl]
    simp only [wX1_valuesBetween_5]
    simp (disch := omega) only [iI_lit, iI_neg, iI_add, iI_sub, iI_mul, iI_lt, iI_le, iI_eq, iI_in, iI_clamp, iI_mx, iI_mn, iI_nI, Int.toNat_natCast, forall_eq, br_1, br_2, br_3, br_4, br_in, br_5, br_6, br_7, br_8, ex_c, br_nl, br_le, br_ne, gp_1, gp_2, gp_3, gf_1, gf_2, h1]
    have := ih (i + 1) (by omega) (by omega) (by omega)
    rw [csum, show csum c i + c i - csum c lo = csum c i - csum c lo + c i by omega] at this
    simpa using this
theorem e_valuesBetween {M : Mem} {N b : Nat} {c : Nat → Int} {Q : Qi} (h : CC M b c) (hC : CI N c) {lo hi : Int} (h0 : 0 ≤ lo ∧ lo ≤ hi ∧ hi ≤ 1000) : wpX1_valuesBetween M b (iI lo) (iI hi) Q = Q (iI (csum c hi.toNat - csum c lo.toNat)) M := by
  unfold wpX1_valuesBetween
  have := l_valuesBetween (Q := Q) (lo := lo.toNat) (hi := hi.toNat) h hC (by omega) (hi.toNat - lo.toNat) lo.toNat rfl (by omega) (Nat.le_refl _)
  rw [Int.sub_self, Int.toNat_of_nonneg h0.1, Int.toNat_of_nonneg (by omega)] at this
  simp (disch := omega) only [iI_lit, iI_neg, iI_add, iI_sub, iI_mul, iI_lt, iI_le, iI_eq, iI_in, iI_clamp, iI_mx, iI_mn, iI_nI, Int.toNat_natCast, forall_eq]
  exact this
/-- how far a value v of which `below` lie below misses place r -/
def mso (c : Nat → Int) (r v below : Int) : Int := mx 0 (mx (below + 1 - r) (r - below - c v.toNat))
theorem e_missOf {M : Mem} {N b : Nat} {c : Nat → Int} {Q : Qi} (h : CC M b c) (hC : CI N c) {r v w : Int} (hr : 0 ≤ r ∧ r ≤ 1000) (hv : 0 ≤ v ∧ v < 1000) (hw : 0 ≤ w ∧ w ≤ 1000) : wpX1_missOf M b (iI r) (iI v) (iI w) Q = Q (iI (mso c r v w)) M := by
  have h1 := h v.toNat (by omega)
  have h2 := hC.e (k := v.toNat) (by omega)
  have hN := hC.1
  have h3 : -10000 ≤ mx (w + 1 - r) (r - w - c v.toNat) ∧ mx (w + 1 - r) (r - w - c v.toNat) ≤ 10000 := by
    unfold mx
    split <;> omega
  unfold wpX1_missOf mso
  simp (disch := omega) only [iI_lit, iI_neg, iI_add, iI_sub, iI_mul, iI_lt, iI_le, iI_eq, iI_in, iI_clamp, iI_mx, iI_mn, iI_nI, Int.toNat_natCast, forall_eq, br_1, br_2, br_3, br_4, br_in, br_5, br_6, br_7, br_8, ex_c, br_nl, br_le, br_ne, gp_1, gp_2, gp_3, gf_1, gf_2, h1]
/-- how far the ANSWER to r misses -/
def ms (c v l d : Nat → Int) (n : Nat) (r : Int) : Int := mso c r (v (ans l d n r)) (csum c (v (ans l d n r)).toNat)
theorem mso_b {N : Nat} {c : Nat → Int} (hC : CI N c) {r v w : Int} (hr : 1 ≤ r ∧ r ≤ N) (hv : 0 ≤ v ∧ v < 1000) (hw : 0 ≤ w ∧ w ≤ N) : 0 ≤ mso c r v w ∧ mso c r v w ≤ N := by
  have h2 := hC.e (k := v.toNat) (by omega)
  unfold mso mx
  split <;> split <;> omega
theorem ms_b {N n : Nat} {c v l d : Nat → Int} (hC : CI N c) (hR : RI N n v l d) {r : Int} (hr : 1 ≤ r ∧ r ≤ N) : 0 ≤ ms c v l d n r ∧ ms c v l d n r ≤ N := by
  have h1 := ans_lt (l := l) (d := d) (hR.pos (by omega)) r
  have h2 := hR.2.2.2.1 (ans l d n r) h1
  have h3 := hC.b (k := (v (ans l d n r)).toNat) (by omega)
  unfold ms
  exact mso_b hC hr (by omega) h3
theorem e_missAt {M : Mem} {N b n : Nat} {c v l d : Nat → Int} {Q : Qi} (h : CC M b c) (hC : CI N c) (hr : CR M (b + 5) n v l d) (hR : RI N n v l d) {r : Int} (h0 : 1 ≤ r ∧ r ≤ N) : wpX1_missAt M b (iI r) Q = Q (iI (ms c v l d n r)) M := by
  have hN := hR.1
  have h1 := ans_lt (l := l) (d := d) (hR.pos (by omega)) r
  have h2 := hR.2.2.2.1 (ans l d n r) h1
  have h3 := hC.b (k := (v (ans l d n r)).toNat) (by omega)
  have h4 := (hr.2 (ans l d n r) h1).1
  have hn : n ≤ N := hR.2.1
  unfold wpX1_missAt ms
  simp (disch := omega) only [iI_lit, iI_neg, iI_add, iI_sub, iI_mul, iI_lt, iI_le, iI_eq, iI_in, iI_clamp, iI_mx, iI_mn, iI_nI, Int.toNat_natCast, forall_eq, br_1, br_2, br_3, br_4, br_in, br_5, br_6, br_7, br_8, ex_c, br_nl, br_le, br_ne, gp_1, gp_2, gp_3, gf_1, gf_2, e_nearest0 hr hR, h4, e_valuesBetween h hC, Int.toNat_zero, csum, Int.sub_zero, e_missOf h hC]
theorem l_greatestMiss {M : Mem} {N b n : Nat} {c v l d : Nat → Int} {Q : Qi} (h2 : gI M b 2 = iI N) (h : CC M b c) (hC : CI N c) (hr : CR M (b + 5) n v l d) (hR : RI N n v l d) : ∀ k i a (x : Int), N - i = k → i ≤ N → a < n → (i < N → a ≤ ans l d n (i + 1 : Nat)) → 0 ≤ x → (i < N → x ≤ v (ans l d n (i + 1 : Nat))) → (∃ m, wX1_greatestMiss_12 Q b m M (iI (fmx (fun r => ms c v l d n r) 0 i)) (iI (a : Nat)) (iI x) (iI (csum c x.toNat)) (iI (i + 1 : Nat))) = Q (iI (fmx (fun r => ms c v l d n r) 0 N)) M := by
  have hN := hR.1
  have hn : n ≤ N := hR.2.1
  intro k
  induction k with
  | zero =>
    intro i a x hk hi ha ha2 hx0 hx
    have e : i = N := by omega
    subst e
    rw [ex_s rfl]
    simp only [wX1_greatestMiss_12, h2]
    simp (disch := omega) only [iI_lit, iI_neg, iI_add, iI_sub, iI_mul, iI_lt, iI_le, iI_eq, iI_in, iI_clamp, iI_mx, iI_mn, iI_nI, Int.toNat_natCast, forall_eq, br_1, br_2, br_3, br_4, br_in, br_5, br_6, br_7, br_8, ex_c, br_nl, br_le, br_ne, gp_1, gp_2, gp_3, gf_1, gf_2]
  | succ k ih =>
    intro i a x hk hi ha ha2 hx0 hx
    have h3 := ans_lt (l := l) (d := d) (hR.pos (by omega)) (i + 1 : Nat)
    have h4 := (hr.2 _ h3).1
    have h5 := hR.2.2.2.1 _ h3
    have h6 := ms_b hC hR (r := (i + 1 : Nat)) (by omega)
    have h7 := fmx_b (f := fun r : Nat => ms c v l d n r) (z := 0) (B := N) (by omega) i (fun j a b => (ms_b hC hR (by omega)).2)
    have h8 := hC.b (k := (v (ans l d n (i + 1 : Nat))).toNat) (by omega)
    have h9 := hx (by omega)
    have hnr := fun (Q : Qi) => e_nearest (Q := Q) hr hR (r := (i + 1 : Nat)) (by omega) (ha2 (by omega))
    rw [ex_s rfl]
    simp only [wX1_greatestMiss_12, h2, hnr]
    have e : ∀ y : Int, csum c x.toNat + (y - csum c x.toNat) = y := fun y => by omega
    unfold ms at h6
    simp (disch := omega) only [iI_lit, iI_neg, iI_add, iI_sub, iI_mul, iI_lt, iI_le, iI_eq, iI_in, iI_clamp, iI_mx, iI_mn, iI_nI, Int.toNat_natCast, forall_eq, br_1, br_2, br_3, br_4, br_in, br_5, br_6, br_7, br_8, ex_c, br_nl, br_le, br_ne, gp_1, gp_2, gp_3, gf_1, gf_2, h4, e_valuesBetween h hC, e, e_missOf h hC]
    have := ih (i + 1) (ans l d n (i + 1 : Nat)) (v (ans l d n (i + 1 : Nat))) (by omega) (by omega) h3 (fun _ => ans_mono hR (by omega) (by omega)) h5.1 (fun q => by
      have q1 := ans_mono hR (hR.pos (by omega)) (r := (i + 1 : Nat)) (r' := (i + 1 + 1 : Nat)) (by omega)
      have q2 := ans_lt (l := l) (d := d) (hR.pos (by omega)) (i + 1 + 1 : Nat)
      have q3 := hR.vmono (ans l d n (i + 1 + 1 : Nat) - ans l d n (i + 1 : Nat)) (ans l d n (i + 1 : Nat)) (by omega)
      rw [show ans l d n (i + 1 : Nat) + (ans l d n (i + 1 + 1 : Nat) - ans l d n (i + 1 : Nat)) = ans l d n (i + 1 + 1 : Nat) by omega] at q3
      exact q3)
    rw [fmx] at this
    simpa [ms] using this
theorem e_greatestMiss {M : Mem} {N b n : Nat} {c v l d : Nat → Int} {Q : Qi} (h2 : gI M b 2 = iI N) (h : CC M b c) (hC : CI N c) (hr : CR M (b + 5) n v l d) (hR : RI N n v l d) (h0 : 0 < N) : wpX1_greatestMiss M b Q = Q (iI (fmx (fun r => ms c v l d n r) 0 N)) M := by
  unfold wpX1_greatestMiss
  have q := hR.pos h0
  have h3 := ans_lt (l := l) (d := d) q (1 : Nat)
  have := l_greatestMiss (Q := Q) h2 h hC hr hR N 0 0 0 rfl (by omega) q (fun _ => Nat.zero_le _) (by omega) (fun _ => (hR.2.2.2.1 _ h3).1)
  simp (disch := omega) only [iI_lit, iI_neg, iI_add, iI_sub, iI_mul, iI_lt, iI_le, iI_eq, iI_in, iI_clamp, iI_mx, iI_mn, iI_nI, Int.toNat_natCast, forall_eq]
  simpa [csum, fmx] using this
