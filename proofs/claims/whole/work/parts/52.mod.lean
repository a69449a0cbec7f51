theorem l_answers {M : Mem} {N b n : Nat} {v l d : Nat → Int} {Q : Qi} (hb : b < 6) (h : MR M b n v l d) (hR : RI N n v l d) {r : Int} (hr : 1 ≤ r ∧ r ≤ N) : ∀ f i, n - (i + 1) = f → i + 1 ≤ n → (∃ m, wX4_answers_8 Q (iI b) (iI r) m (pI M 200 31 (iI (off l d r (bs l d r i)))) (iI (bs l d r i)) (iI (l i)) (iI ((i : Int) + 1))) = Q (iI (bs l d r (n - 1))) (pI M 200 31 (iI (off l d r (bs l d r (n - 1))))) := by
  have hn : n ≤ 1000 := Nat.le_trans hR.2.1 hR.1
  have hN := hR.1
  intro f
  induction f with
  | zero =>
    intro i hf hi
    have e : n = i + 1 := by omega
    subst e
    rw [ex_s rfl]
    simp only [wX4_answers_8]
    simp (disch := omega) only [iI_lit, iI_neg, iI_add, iI_sub, iI_mul, iI_lt, iI_le, iI_eq, iI_in, iI_clamp, iI_mx, iI_mn, iI_nI, Int.toNat_natCast, forall_eq, br_1, br_2, br_3, br_4, br_in, br_5, br_6, br_7, br_8, ex_c, br_nl, br_le, br_ne, gp_1, gp_2, gp_3, gf_1, gf_2, ix_0, ix_1, ix_2, ix_3, tn_1, tn_2, pp_1, h.1]
    simp only [Nat.add_sub_cancel]
  | succ f ih =>
    intro i hf hi
    have h3 := h.2 (i + 1) (by omega)
    have h4 := hR.2.2.2.1 (i + 1) (by omega)
    have h4' := hR.2.2.2.1 i (by omega)
    have h5 := (bs_is l d r i).2.1
    have h6 := off_b hR (r := r) (k := i + 1) (by omega) hr
    have h7 := off_b hR (r := r) (k := bs l d r i) (by omega) hr
    have e0 : (i : Int) + 1 = (i + 1 : Nat) := by omega
    have e1 : l i + (l (i + 1) - l i) = l (i + 1) := by omega
    have h8 : off l d r (i + 1) = mx (r - l (i + 1)) (l (i + 1) + d (i + 1) - r) := rfl
    rw [lp_s] at h3
    rw [ex_s rfl]
    rw [e0]
    simp only [wX4_answers_8, wX4_answers_77]
    have := ih (i + 1) (by omega) (by omega)
    rw [bs] at this
    rw [← e0] at *
    by_cases c2 : off l d r (i + 1) < off l d r (bs l d r i)
    · rw [if_pos c2, ← e0] at this
      by_cases c : r - l (i + 1) ≤ l (i + 1) + d (i + 1) - r
      · have e2 : off l d r (i + 1) = l (i + 1) + d (i + 1) - r := by
          rw [h8]
          unfold mx
          split <;> omega
        rw [e2] at this
        simp (disch := omega) only [iI_lit, iI_neg, iI_add, iI_sub, iI_mul, iI_lt, iI_le, iI_eq, iI_in, iI_clamp, iI_mx, iI_mn, iI_nI, Int.toNat_natCast, forall_eq, br_1, br_2, br_3, br_4, br_in, br_5, br_6, br_7, br_8, ex_c, br_nl, br_le, br_ne, gp_1, gp_2, gp_3, gf_1, gf_2, ix_0, ix_1, ix_2, ix_3, tn_1, tn_2, pp_1, h.1, h3.2.1, h3.2.2, e1, ix_3]
        exact this
      · have e2 : off l d r (i + 1) = r - l (i + 1) := by
          rw [h8]
          unfold mx
          split <;> omega
        rw [e2] at this
        simp (disch := omega) only [iI_lit, iI_neg, iI_add, iI_sub, iI_mul, iI_lt, iI_le, iI_eq, iI_in, iI_clamp, iI_mx, iI_mn, iI_nI, Int.toNat_natCast, forall_eq, br_1, br_2, br_3, br_4, br_in, br_5, br_6, br_7, br_8, ex_c, br_nl, br_le, br_ne, gp_1, gp_2, gp_3, gf_1, gf_2, ix_0, ix_1, ix_2, ix_3, tn_1, tn_2, pp_1, h.1, h3.2.1, h3.2.2, e1]
        exact this
    · rw [if_neg c2] at this
      by_cases c : r - l (i + 1) ≤ l (i + 1) + d (i + 1) - r
      · have e2 : off l d r (i + 1) = l (i + 1) + d (i + 1) - r := by
          rw [h8]
          unfold mx
          split <;> omega
        simp (disch := omega) only [iI_lit, iI_neg, iI_add, iI_sub, iI_mul, iI_lt, iI_le, iI_eq, iI_in, iI_clamp, iI_mx, iI_mn, iI_nI, Int.toNat_natCast, forall_eq, br_1, br_2, br_3, br_4, br_in, br_5, br_6, br_7, br_8, ex_c, br_nl, br_le, br_ne, gp_1, gp_2, gp_3, gf_1, gf_2, ix_0, ix_1, ix_2, ix_3, tn_1, tn_2, pp_1, h.1, h3.2.1, h3.2.2, e1]
        exact this
      · have e2 : off l d r (i + 1) = r - l (i + 1) := by
          rw [h8]
          unfold mx
          split <;> omega
        simp (disch := omega) only [iI_lit, iI_neg, iI_add, iI_sub, iI_mul, iI_lt, iI_le, iI_eq, iI_in, iI_clamp, iI_mx, iI_mn, iI_nI, Int.toNat_natCast, forall_eq, br_1, br_2, br_3, br_4, br_in, br_5, br_6, br_7, br_8, ex_c, br_nl, br_le, br_ne, gp_1, gp_2, gp_3, gf_1, gf_2, ix_0, ix_1, ix_2, ix_3, tn_1, tn_2, pp_1, h.1, h3.2.1, h3.2.2, e1]
        exact this
theorem m_answers {M : Mem} {N b n : Nat} {v l d : Nat → Int} {Q : Qi} (hb : b < 6) (h : MR M b n v l d) (hR : RI N n v l d) {r : Int} (hr : 1 ≤ r ∧ r ≤ N) : wpX4_answers M (iI b) (iI r) Q = Q (iI (ans l d n r)) (pI M 200 31 (iI (off l d r (ans l d n r)))) := by
  have hn : n ≤ 1000 := Nat.le_trans hR.2.1 hR.1
  have hN := hR.1
  have hp := hR.pos (by omega)
  have h3 := h.2 0 hp
  have h4 := hR.2.2.2.1 0 hp
  rw [show lp l 0 = 0 from rfl, Int.sub_zero, Nat.add_zero] at h3
  have := l_answers (Q := Q) hb h hR hr (n - 1) 0 (by omega) (by omega)
  rw [show bs l d r 0 = 0 from rfl, Int.natCast_zero, Int.zero_add] at this
  unfold wpX4_answers ans
  rw [ex_s rfl]
  simp only [wX4_answers_8, wX4_answers_77]
  have h8 : off l d r 0 = mx (r - l 0) (l 0 + d 0 - r) := rfl
  by_cases c : r - l 0 ≤ l 0 + d 0 - r
  · have e2 : off l d r 0 = l 0 + d 0 - r := by
      rw [h8]
      unfold mx
      split <;> omega
    rw [e2] at this
    simp (disch := omega) only [iI_lit, iI_neg, iI_add, iI_sub, iI_mul, iI_lt, iI_le, iI_eq, iI_in, iI_clamp, iI_mx, iI_mn, iI_nI, Int.toNat_natCast, forall_eq, br_1, br_2, br_3, br_4, br_in, br_5, br_6, br_7, br_8, ex_c, br_nl, br_le, br_ne, gp_1, gp_2, gp_3, gf_1, gf_2, ix_0, ix_1, ix_2, ix_3, tn_1, tn_2, pp_1, h.1, h3.2.1, h3.2.2, Int.add_zero, Int.zero_add]
    exact this
  · have e2 : off l d r 0 = r - l 0 := by
      rw [h8]
      unfold mx
      split <;> omega
    rw [e2] at this
    simp (disch := omega) only [iI_lit, iI_neg, iI_add, iI_sub, iI_mul, iI_lt, iI_le, iI_eq, iI_in, iI_clamp, iI_mx, iI_mn, iI_nI, Int.toNat_natCast, forall_eq, br_1, br_2, br_3, br_4, br_in, br_5, br_6, br_7, br_8, ex_c, br_nl, br_le, br_ne, gp_1, gp_2, gp_3, gf_1, gf_2, ix_0, ix_1, ix_2, ix_3, tn_1, tn_2, pp_1, h.1, h3.2.1, h3.2.2, Int.add_zero, Int.zero_add]
    exact this
theorem l_floorOf {M : Mem} {N b n : Nat} {v l d : Nat → Int} {Q : Qi} (hb : b < 6) (h : MR M b n v l d) (hR : RI N n v l d) {r : Int} (hr : 1 ≤ r ∧ r ≤ 1000) : ∀ f i, n - i = f → 1 ≤ i → i ≤ n → (∃ m, wX4_floorOf_8 Q (iI b) (iI r) m M (iI (v (flr l d r i))) (iI (lp l i)) (iI (i : Nat))) = Q (iI (v (flr l d r n))) M := by
  have hn : n ≤ 1000 := Nat.le_trans hR.2.1 hR.1
  have hN := hR.1
  intro f
  induction f with
  | zero =>
    intro i hf h1 hi
    have e : i = n := by omega
    subst e
    rw [ex_s rfl]
    simp only [wX4_floorOf_8]
    simp (disch := omega) only [iI_lit, iI_neg, iI_add, iI_sub, iI_mul, iI_lt, iI_le, iI_eq, iI_in, iI_clamp, iI_mx, iI_mn, iI_nI, Int.toNat_natCast, forall_eq, br_1, br_2, br_3, br_4, br_in, br_5, br_6, br_7, br_8, ex_c, br_nl, br_le, br_ne, gp_1, gp_2, gp_3, gf_1, gf_2, ix_0, ix_1, ix_2, ix_3, tn_1, tn_2, pp_1, h.1]
  | succ f ih =>
    intro i hf h1 hi
    have h3 := h.2 i (by omega)
    have h4 := hR.2.2.2.1 i (by omega)
    have e1 : lp l i + (l i - lp l i) = l i := by omega
    rw [ex_s rfl]
    simp only [wX4_floorOf_8]
    have := ih (i + 1) (by omega) (by omega) (by omega)
    rw [flr, lp_s] at this
    by_cases c : l i + d i ≤ r
    · simp (disch := omega) only [iI_lit, iI_neg, iI_add, iI_sub, iI_mul, iI_lt, iI_le, iI_eq, iI_in, iI_clamp, iI_mx, iI_mn, iI_nI, Int.toNat_natCast, forall_eq, br_1, br_2, br_3, br_4, br_in, br_5, br_6, br_7, br_8, ex_c, br_nl, br_le, br_ne, gp_1, gp_2, gp_3, gf_1, gf_2, ix_0, ix_1, ix_2, ix_3, tn_1, tn_2, pp_1, h.1, h3.1, h3.2.1, h3.2.2, e1]
      rw [if_pos c] at this
      simpa using this
    · simp (disch := omega) only [iI_lit, iI_neg, iI_add, iI_sub, iI_mul, iI_lt, iI_le, iI_eq, iI_in, iI_clamp, iI_mx, iI_mn, iI_nI, Int.toNat_natCast, forall_eq, br_1, br_2, br_3, br_4, br_in, br_5, br_6, br_7, br_8, ex_c, br_nl, br_le, br_ne, gp_1, gp_2, gp_3, gf_1, gf_2, ix_0, ix_1, ix_2, ix_3, tn_1, tn_2, pp_1, h.1, h3.1, h3.2.1, h3.2.2, e1]
      rw [if_neg c] at this
      simpa using this
theorem m_floorOf {M : Mem} {N b n : Nat} {v l d : Nat → Int} {Q : Qi} (hb : b < 6) (h : MR M b n v l d) (hR : RI N n v l d) {r : Int} (hr : 1 ≤ r ∧ r ≤ N) : wpX4_floorOf M (iI b) (iI r) Q = Q (iI (v (flr l d r n))) M := by
  have hn : n ≤ 1000 := Nat.le_trans hR.2.1 hR.1
  have hN := hR.1
  have hp := hR.pos (by omega)
  have h3 := h.2 0 hp
  have h4 := hR.2.2.2.2.2 hp
  rw [show lp l 0 = 0 from rfl, Int.sub_zero, Nat.add_zero, h4.1, h4.2.1] at h3
  have := l_floorOf (Q := Q) hb h hR (r := r) (by omega) (n - 1) 1 (by omega) (by omega) (by omega)
  have e : flr l d r 1 = 0 := by
    simp [flr]
  rw [e, show lp l 1 = l 0 from rfl, h4.1] at this
  unfold wpX4_floorOf
  rw [ex_s rfl]
  simp only [wX4_floorOf_8]
  simp (disch := omega) only [iI_lit, iI_neg, iI_add, iI_sub, iI_mul, iI_lt, iI_le, iI_eq, iI_in, iI_clamp, iI_mx, iI_mn, iI_nI, Int.toNat_natCast, forall_eq, br_1, br_2, br_3, br_4, br_in, br_5, br_6, br_7, br_8, ex_c, br_nl, br_le, br_ne, gp_1, gp_2, gp_3, gf_1, gf_2, ix_0, ix_1, ix_2, ix_3, tn_1, tn_2, pp_1, h.1, h3.1, h3.2.1, h3.2.2, Int.add_zero, Int.zero_add]
  exact this
theorem l_ceilingOf {M : Mem} {N b n : Nat} {v l d : Nat → Int} {Q : Qi} (hb : b < 6) (h : MR M b n v l d) (hR : RI N n v l d) {r : Int} (hr : 1 ≤ r ∧ r ≤ N) : ∀ f i, n - i = f → i < n → (∀ j, j < i → l j < r) → (∃ m, wX4_ceilingOf_14 Q (iI b) (iI r) m M (iI (i : Nat)) (iI (l i))) = Q (iI (v (cei l r n))) M := by
  have hn : n ≤ 1000 := Nat.le_trans hR.2.1 hR.1
  have hN := hR.1
  have hc := cei_lt hR hr
  intro f
  induction f with
  | zero => intro i hf hi hlo; omega
  | succ f ih =>
    intro i hf hi hlo
    have h3 := h.2 i (by omega)
    have h4 := hR.2.2.2.1 i (by omega)
    rw [ex_s rfl]
    simp only [wX4_ceilingOf_14]
    by_cases c : r ≤ l i
    · have e := cei_is n i (by omega) hlo (fun _ => c)
      rw [e]
      simp (disch := omega) only [iI_lit, iI_neg, iI_add, iI_sub, iI_mul, iI_lt, iI_le, iI_eq, iI_in, iI_clamp, iI_mx, iI_mn, iI_nI, Int.toNat_natCast, forall_eq, br_1, br_2, br_3, br_4, br_in, br_5, br_6, br_7, br_8, ex_c, br_nl, br_le, br_ne, gp_1, gp_2, gp_3, gf_1, gf_2, ix_0, ix_1, ix_2, ix_3, tn_1, tn_2, pp_1, h3.1]
    · have hi2 : i + 1 < n := by
        rcases Nat.lt_or_ge (i + 1) n with q | q
        · exact q
        · have := (hR.2.2.2.2.2 (by omega)).2.2.1
          rw [show n - 1 = i by omega] at this
          omega
      have h5 := h.2 (i + 1) hi2
      rw [lp_s] at h5
      have e1 : l i + (l (i + 1) - l i) = l (i + 1) := by omega
      simp (disch := omega) only [iI_lit, iI_neg, iI_add, iI_sub, iI_mul, iI_lt, iI_le, iI_eq, iI_in, iI_clamp, iI_mx, iI_mn, iI_nI, Int.toNat_natCast, forall_eq, br_1, br_2, br_3, br_4, br_in, br_5, br_6, br_7, br_8, ex_c, br_nl, br_le, br_ne, gp_1, gp_2, gp_3, gf_1, gf_2, ix_0, ix_1, ix_2, ix_3, tn_1, tn_2, pp_1, h5.2.1, e1]
      have := ih (i + 1) (by omega) hi2 (fun j hj => by
        by_cases q : j = i
        · rw [q]
          omega
        · exact hlo j (by omega))
      simpa using this
theorem m_ceilingOf {M : Mem} {N b n : Nat} {v l d : Nat → Int} {Q : Qi} (hb : b < 6) (h : MR M b n v l d) (hR : RI N n v l d) {r : Int} (hr : 1 ≤ r ∧ r ≤ N) : wpX4_ceilingOf M (iI b) (iI r) Q = Q (iI (v (cei l r n))) M := by
  have hN := hR.1
  have hp := hR.pos (by omega)
  have h3 := h.2 0 hp
  rw [show lp l 0 = 0 from rfl, Int.sub_zero, Nat.add_zero] at h3
  have := l_ceilingOf (Q := Q) hb h hR hr n 0 rfl hp (fun j hj => by omega)
  rw [Int.natCast_zero] at this
  unfold wpX4_ceilingOf
  simp (disch := omega) only [iI_lit, iI_neg, iI_add, iI_sub, iI_mul, iI_lt, iI_le, iI_eq, iI_in, iI_clamp, iI_mx, iI_mn, iI_nI, Int.toNat_natCast, forall_eq, br_1, br_2, br_3, br_4, br_in, br_5, br_6, br_7, br_8, ex_c, br_nl, br_le, br_ne, gp_1, gp_2, gp_3, gf_1, gf_2, ix_0, ix_1, ix_2, ix_3, tn_1, tn_2, pp_1, h3.2.1]
  exact this
theorem m_quotaPlace {M : Mem} {N b : Nat} {Q : Qi} {k sh : Int} (hb : b < 6) (h : gI M 224 b = iI N) (hN : N ≤ 1000) (hk : 0 ≤ k ∧ k ≤ sh) (hs : 1 ≤ sh ∧ sh ≤ 100) : wpX4_quotaPlace M (iI b) (iI k) (iI sh) Q = Q (iI (qp N k sh)) M := by
  have := qp_a (N := N) (by omega) hk hs
  unfold wpX4_quotaPlace qp mx
  by_cases c : (N * k + sh - 1) / sh = 0
  · simp (disch := omega) only [iI_lit, iI_neg, iI_add, iI_sub, iI_mul, iI_lt, iI_le, iI_eq, iI_in, iI_clamp, iI_mx, iI_mn, iI_nI, Int.toNat_natCast, forall_eq, br_1, br_2, br_3, br_4, br_in, br_5, br_6, br_7, br_8, ex_c, br_nl, br_le, br_ne, gp_1, gp_2, gp_3, gf_1, gf_2, ix_0, ix_1, ix_2, ix_3, tn_1, tn_2, pp_1, h, iI_div]
    rw [if_neg (by omega)]
  · simp (disch := omega) only [iI_lit, iI_neg, iI_add, iI_sub, iI_mul, iI_lt, iI_le, iI_eq, iI_in, iI_clamp, iI_mx, iI_mn, iI_nI, Int.toNat_natCast, forall_eq, br_1, br_2, br_3, br_4, br_in, br_5, br_6, br_7, br_8, ex_c, br_nl, br_le, br_ne, gp_1, gp_2, gp_3, gf_1, gf_2, ix_0, ix_1, ix_2, ix_3, tn_1, tn_2, pp_1, h, iI_div]
    by_cases c2 : (N * k + sh - 1) / sh = 1
    · rw [if_neg (by omega), c2]
    · rw [if_pos (by omega)]
theorem m_quotaValue {M : Mem} {N b n : Nat} {v l d : Nat → Int} {Q : Qi} {k sh : Int} (hb : b < 6) (h : MR M b n v l d) (hN : gI M 224 b = iI N) (hR : RI N n v l d) (h0 : 0 < N) (hk : 0 ≤ k ∧ k ≤ sh) (hs : 1 ≤ sh ∧ sh ≤ 100) : wpX4_quotaValue M (iI b) (iI k) (iI sh) Q = Q (iI (qv v l d n N k sh)) (pI M 200 31 (iI (off l d (qp N k sh) (ans l d n (qp N k sh))))) := by
  have hN' := hR.1
  have hn : n ≤ N := hR.2.1
  have q := qp_b (N := N) (by omega) hk hs
  have q1 := qa_lt hR h0 k sh
  have q2 := (h.2 _ q1).1
  unfold wpX4_quotaValue
  simp (disch := omega) only [iI_lit, iI_neg, iI_add, iI_sub, iI_mul, iI_lt, iI_le, iI_eq, iI_in, iI_clamp, iI_mx, iI_mn, iI_nI, Int.toNat_natCast, forall_eq, br_1, br_2, br_3, br_4, br_in, br_5, br_6, br_7, br_8, ex_c, br_nl, br_le, br_ne, gp_1, gp_2, gp_3, gf_1, gf_2, ix_0, ix_1, ix_2, ix_3, tn_1, tn_2, pp_1, m_quotaPlace hb hN hN', m_answers hb h hR, q2]
  rfl
theorem MR.p {b n k : Nat} {v l d : Nat → Int} {M : Mem} {x : Int32} (h : MR M b n v l d) : MR (pI M 200 k x) b n v l d := by
  refine ⟨?_, fun j hj => ?_⟩
  · simp (disch := omega) only [iI_lit, iI_neg, iI_add, iI_sub, iI_mul, iI_lt, iI_le, iI_eq, iI_in, iI_clamp, iI_mx, iI_mn, iI_nI, Int.toNat_natCast, forall_eq, br_1, br_2, br_3, br_4, br_in, br_5, br_6, br_7, br_8, ex_c, br_nl, br_le, br_ne, gp_1, gp_2, gp_3, gf_1, gf_2]
    exact h.1
  · simp (disch := omega) only [iI_lit, iI_neg, iI_add, iI_sub, iI_mul, iI_lt, iI_le, iI_eq, iI_in, iI_clamp, iI_mx, iI_mn, iI_nI, Int.toNat_natCast, forall_eq, br_1, br_2, br_3, br_4, br_in, br_5, br_6, br_7, br_8, ex_c, br_nl, br_le, br_ne, gp_1, gp_2, gp_3, gf_1, gf_2]
    exact h.2 j hj
theorem m_barOf {M : Mem} {N b n : Nat} {v l d : Nat → Int} {Q : Qi} {sh : Int} {k : Nat} (z : Int32) (hb : b < 6) (h : MR M b n v l d) (hN : gI M 224 b = iI N) (hR : RI N n v l d) (h0 : 0 < N) (hk : (k : Int) + 1 ≤ sh) (hs : 1 ≤ sh ∧ sh ≤ 100) (hQ : ∀ y, Q (iI (brk v l d n N sh (decide (¬ z = iI 0)) (k + 1))) (pI M 200 31 y)) : wpX4_barOf M (iI b) (iI k) (iI sh) z Q := by
  have hN' := hR.1
  have v1 := qv_b hR h0 k sh
  have v2 := qv_b hR h0 ((k + 1 : Nat) : Int) sh
  have s1 := sur_b hR (qv v l d n N k sh)
  have s2 := sur_b hR (qv v l d n N (k + 1 : Nat) sh)
  have s3 := mst_b hR (qv v l d n N k sh)
  have s4 := mst_b hR (qv v l d n N (k + 1 : Nat) sh)
  have g1 : ∀ y, MR (pI M 200 31 y) b n v l d := fun y => h.p
  have g2 : ∀ y, gI (pI M 200 31 y) 224 b = iI N := fun y => by simp (disch := omega) only [iI_lit, iI_neg, iI_add, iI_sub, iI_mul, iI_lt, iI_le, iI_eq, iI_in, iI_clamp, iI_mx, iI_mn, iI_nI, Int.toNat_natCast, forall_eq, br_1, br_2, br_3, br_4, br_in, br_5, br_6, br_7, br_8, ex_c, br_nl, br_le, br_ne, gp_1, gp_2, gp_3, gf_1, gf_2]; exact hN
  have e : iI (k : Int) + iI 1 = iI ((k + 1 : Nat) : Int) := iI_add _ _
  unfold wpX4_barOf
  simp only [iI_lit, e]
  rw [m_quotaValue hb h hN hR h0 (by omega) hs, m_quotaValue hb (g1 _) (g2 _) hR h0 (by omega) hs]
  unfold brk cab at hQ
  rw [show ((k + 1 : Nat) : Int) - 1 = k by omega] at hQ
  by_cases c : z = iI 0
  · subst c
    have c' : ¬ ¬ iI 0 = iI 0 := fun q => q rfl
    rw [decide_eq_false c', if_neg (by decide)] at hQ
    unfold mx at hQ
    by_cases c2 : 0 ≤ sur v l n (qv v l d n N (k + 1 : Nat) sh) - mst v l d n (qv v l d n N k sh)
    · simp (disch := omega) only [iI_lit, iI_neg, iI_add, iI_sub, iI_mul, iI_lt, iI_le, iI_eq, iI_in, iI_clamp, iI_mx, iI_mn, iI_nI, Int.toNat_natCast, forall_eq, br_1, br_2, br_3, br_4, br_in, br_5, br_6, br_7, br_8, ex_c, br_nl, br_le, br_ne, gp_1, gp_2, gp_3, gf_1, gf_2, ix_0, ix_1, ix_2, ix_3, tn_1, tn_2, pp_1, m_sure hb (g1 _) hR, m_atMost hb (g1 _) (g2 _) hR]
      by_cases c3 : 0 = sur v l n (qv v l d n N (k + 1 : Nat) sh) - mst v l d n (qv v l d n N k sh)
      · rw [← c3] at hQ ⊢
        simpa using hQ _
      · rw [if_pos (by omega)] at hQ
        exact hQ _
    · simp (disch := omega) only [iI_lit, iI_neg, iI_add, iI_sub, iI_mul, iI_lt, iI_le, iI_eq, iI_in, iI_clamp, iI_mx, iI_mn, iI_nI, Int.toNat_natCast, forall_eq, br_1, br_2, br_3, br_4, br_in, br_5, br_6, br_7, br_8, ex_c, br_nl, br_le, br_ne, gp_1, gp_2, gp_3, gf_1, gf_2, ix_0, ix_1, ix_2, ix_3, tn_1, tn_2, pp_1, m_sure hb (g1 _) hR, m_atMost hb (g1 _) (g2 _) hR]
      rw [if_neg (by omega)] at hQ
      exact hQ _
  · rw [decide_eq_true c, if_pos rfl] at hQ
    rw [br_2 c]
    simp (disch := omega) only [iI_lit, iI_neg, iI_add, iI_sub, iI_mul, iI_lt, iI_le, iI_eq, iI_in, iI_clamp, iI_mx, iI_mn, iI_nI, Int.toNat_natCast, forall_eq, br_1, br_2, br_3, br_4, br_in, br_5, br_6, br_7, br_8, ex_c, br_nl, br_le, br_ne, gp_1, gp_2, gp_3, gf_1, gf_2, ix_0, ix_1, ix_2, ix_3, tn_1, tn_2, pp_1, m_sure hb (g1 _) hR, m_atMost hb (g1 _) (g2 _) hR]
    exact hQ _
