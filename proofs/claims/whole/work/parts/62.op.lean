theorem l_mexact {M : Mem} {Q : Qi} {b n N : Nat} {v l d : Nat → Int} (hb : b < 6) (h : MR M b n v l d) (hN : gI M 224 b = iI N) (hR : RI N n v l d) (hQ : ∀ y, wpX4_good (pI M 200 31 y) (iI (fct (fun r => decide (oa l d n r = 0)) N)) Q) : ∀ f i y, N - i = f → i ≤ N → ∃ m, wX4_exact_23 Q (iI b) m (pI M 200 31 y) (iI (fct (fun r => decide (oa l d n r = 0)) i)) (iI (i + 1 : Nat)) := by
  have hN' := hR.1
  have hn := hR.2.1
  intro f
  induction f with
  | zero =>
    intro i y hf hi
    have e : i = N := by omega
    subst e
    rw [ex_s rfl]
    simp only [wX4_exact_23]
    simp (disch := omega) only [iI_lit, iI_neg, iI_add, iI_sub, iI_mul, iI_lt, iI_le, iI_eq, iI_in, iI_clamp, iI_mx, iI_mn, iI_nI, Int.toNat_natCast, forall_eq, br_1, br_2, br_3, br_4, br_in, br_5, br_6, br_7, br_8, ex_c, br_nl, br_le, br_ne, gp_1, gp_2, gp_3, gf_1, gf_2, ix_0, ix_1, ix_2, ix_3, tn_1, tn_2, pp_1, hN]
    exact hQ y
  | succ f ih =>
    intro i y hf hi
    have h1 := oa_b hR (r := i + 1) (by omega)
    unfold oa at h1
    have h3 := ans_lt (l := l) (d := d) (hR.pos (by omega)) (i + 1 : Nat)
    have hg : MR (pI M 200 31 y) b n v l d := h.p
    rw [ex_s rfl]
    simp only [wX4_exact_23]
    have := fun y => ih (i + 1) y (by omega) (by omega)
    rw [fct] at this
    by_cases c : oa l d n (i + 1) = 0
    · have c' := c
      unfold oa at c'
      simp (disch := omega) only [iI_lit, iI_neg, iI_add, iI_sub, iI_mul, iI_lt, iI_le, iI_eq, iI_in, iI_clamp, iI_mx, iI_mn, iI_nI, Int.toNat_natCast, forall_eq, br_1, br_2, br_3, br_4, br_in, br_5, br_6, br_7, br_8, ex_c, br_nl, br_le, br_ne, gp_1, gp_2, gp_3, gf_1, gf_2, ix_0, ix_1, ix_2, ix_3, tn_1, tn_2, pp_1, hN, m_answers hb hg hR]
      simp only [c, decide_true, if_true] at this
      simpa using this _
    · have c' := c
      unfold oa at c'
      simp (disch := omega) only [iI_lit, iI_neg, iI_add, iI_sub, iI_mul, iI_lt, iI_le, iI_eq, iI_in, iI_clamp, iI_mx, iI_mn, iI_nI, Int.toNat_natCast, forall_eq, br_1, br_2, br_3, br_4, br_in, br_5, br_6, br_7, br_8, ex_c, br_nl, br_le, br_ne, gp_1, gp_2, gp_3, gf_1, gf_2, ix_0, ix_1, ix_2, ix_3, tn_1, tn_2, pp_1, hN, m_answers hb hg hR]
      simp only [c, decide_false, Bool.false_eq_true, if_false] at this
      simpa using this _
theorem op_exact {mk : Nat} {S : Gs} {M : Mem} (hC : CS mk S M) (hG : GI S) (a : Int32) : Good mk S (fun Q => wpX3_exact mk M a Q) (fun M1 Q => wpX4_exact M1 a Q) M := by
  obtain ⟨z, rfl, hz⟩ := iI_of a
  by_cases c0 : ¬ (0 ≤ z ∧ z < gk S)
  · refine Good.ro (iI (-1)) 1 hC hG (by omega) (fun Q hQ => ?_) (fun M1 hM Q hQ => ?_)
    · simp only [wpX3_exact, iI_lit, c_find_n hC hG hz c0, o_none, o_none2, c_refuse]
      exact hQ _ (RC.p (RC.r _)) gp_1
    · unfold wpX4_exact
      refine mo_1 hM hQ (fun M0 hM hQ => ?_)
      simp (disch := omega) only [iI_lit, iI_neg, iI_add, iI_sub, iI_mul, iI_lt, iI_le, iI_eq, iI_in, iI_clamp, iI_mx, iI_mn, iI_nI, Int.toNat_natCast, forall_eq, br_1, br_2, br_3, br_4, br_in, br_5, br_6, br_7, br_8, ex_c, br_nl, br_le, br_ne, gp_1, gp_2, gp_3, gf_1, gf_2, m_isS_n hM hG hz c0]
      exact m_refused hQ (RM.r _)
  obtain ⟨j, rfl⟩ : ∃ j : Nat, z = j := ⟨z.toNat, by omega⟩
  have hj : j < gk S := by omega
  have hk := hG.1
  have hT := hC.ct hj
  have hS := hG.si hj
  have hE := hG.er hj
  obtain ⟨x, hx⟩ : ∃ x, gT S j = x := ⟨_, rfl⟩
  rw [hx] at hT hS
  have hN := hS.1.1
  have hn := hS.1.2.1
  obtain ⟨t1, t2, t3, t4, t5, t6⟩ := hT
  refine Good.ro (iI (fct (fun r => decide (oa (tl x) (td x) (tn x) r = 0)) (tN x))) 0 hC hG (by omega) (fun Q hQ => ?_) (fun M1 hM Q hQ => ?_)
  · simp only [wpX3_exact, c_find_y hC hG hj, o_some]
    simp (disch := omega) only [iI_lit, iI_neg, iI_add, iI_sub, iI_mul, iI_lt, iI_le, iI_eq, iI_in, iI_clamp, iI_mx, iI_mn, iI_nI, Int.toNat_natCast, forall_eq, br_1, br_2, br_3, br_4, br_in, br_5, br_6, br_7, br_8, ex_c, br_nl, br_le, br_ne, gp_1, gp_2, gp_3, gf_1, gf_2, c_pass, c_refuse, t1, t2, t3, t4, hC.2.2.1, e_exactPlaces t6 hS.1]
    exact hQ _ (RC.p (RC.r _)) gp_1
  · unfold wpX4_exact
    refine mo_1 hM hQ (fun M0 hM hQ => ?_)
    have hMT := hM.mt hj
    rw [hx] at hMT
    obtain ⟨u1, u2, u3, u4, u5, u6⟩ := hMT
    simp (disch := omega) only [iI_lit, iI_neg, iI_add, iI_sub, iI_mul, iI_lt, iI_le, iI_eq, iI_in, iI_clamp, iI_mx, iI_mn, iI_nI, Int.toNat_natCast, forall_eq, br_1, br_2, br_3, br_4, br_in, br_5, br_6, br_7, br_8, ex_c, br_nl, br_le, br_ne, gp_1, gp_2, gp_3, gf_1, gf_2, ix_0, ix_1, ix_2, ix_3, tn_1, tn_2, pp_1, m_isS_y hM hG hj, m_in_y, m_in_n, u1.1, u2, u3, u4, u5, hM.2.2.2.2.1, u2]
    have := l_mexact (M := M0) (b := j) (show j < 6 by omega) u1 u2 hS.1 (fun y => m_good hQ (RM.p (RM.r _) (by omega))) (tN x) 0 (gI M0 200 31) rfl (by omega)
    rw [pp_2] at this
    simpa [fct] using this
theorem l_worstOf {M : Mem} {Q : Qi} {b n N : Nat} {v l d : Nat → Int} (hb : b < 6) (h : MR M b n v l d) (hN : gI M 224 b = iI N) (hR : RI N n v l d) (hQ : ∀ y, Q (iI (fmx (oa l d n) (-2) N)) (pI M 200 31 y)) : ∀ f i y, N - i = f → i ≤ N → ∃ m, wX4_worstOf_5 Q (iI b) m (pI M 200 31 y) (iI (fmx (oa l d n) (-2) i)) (iI (i + 1 : Nat)) := by
  have hN' := hR.1
  have hn := hR.2.1
  intro f
  induction f with
  | zero =>
    intro i y hf hi
    have e : i = N := by omega
    subst e
    rw [ex_s rfl]
    simp only [wX4_worstOf_5]
    simp (disch := omega) only [iI_lit, iI_neg, iI_add, iI_sub, iI_mul, iI_lt, iI_le, iI_eq, iI_in, iI_clamp, iI_mx, iI_mn, iI_nI, Int.toNat_natCast, forall_eq, br_1, br_2, br_3, br_4, br_in, br_5, br_6, br_7, br_8, ex_c, br_nl, br_le, br_ne, gp_1, gp_2, gp_3, gf_1, gf_2, ix_0, ix_1, ix_2, ix_3, tn_1, tn_2, pp_1, hN]
    exact hQ y
  | succ f ih =>
    intro i y hf hi
    have h1 := oa_b hR (r := i + 1) (by omega)
    have h2 := fmx_b (f := oa l d n) (z := -2) (B := N) (by omega) i (fun j a b => (oa_b hR (by omega)).2)
    have h3 := ans_lt (l := l) (d := d) (hR.pos (by omega)) (i + 1 : Nat)
    have hg : MR (pI M 200 31 y) b n v l d := h.p
    rw [ex_s rfl]
    simp only [wX4_worstOf_5]
    have := fun y => ih (i + 1) y (by omega) (by omega)
    rw [fmx, mx] at this
    have e : off l d ((i + 1 : Nat) : Int) (ans l d n ((i + 1 : Nat) : Int)) = oa l d n (i + 1) := rfl
    by_cases c : fmx (oa l d n) (-2) i < oa l d n (i + 1)
    · simp (disch := omega) only [iI_lit, iI_neg, iI_add, iI_sub, iI_mul, iI_lt, iI_le, iI_eq, iI_in, iI_clamp, iI_mx, iI_mn, iI_nI, Int.toNat_natCast, forall_eq, br_1, br_2, br_3, br_4, br_in, br_5, br_6, br_7, br_8, ex_c, br_nl, br_le, br_ne, gp_1, gp_2, gp_3, gf_1, gf_2, ix_0, ix_1, ix_2, ix_3, tn_1, tn_2, pp_1, hN, m_answers hb hg hR, e]
      rw [if_pos c] at this
      simpa using this _
    · simp (disch := omega) only [iI_lit, iI_neg, iI_add, iI_sub, iI_mul, iI_lt, iI_le, iI_eq, iI_in, iI_clamp, iI_mx, iI_mn, iI_nI, Int.toNat_natCast, forall_eq, br_1, br_2, br_3, br_4, br_in, br_5, br_6, br_7, br_8, ex_c, br_nl, br_le, br_ne, gp_1, gp_2, gp_3, gf_1, gf_2, ix_0, ix_1, ix_2, ix_3, tn_1, tn_2, pp_1, hN, m_answers hb hg hR, e]
      rw [if_neg c] at this
      simpa using this _
theorem m_worstOf {M : Mem} {Q : Qi} {b n N : Nat} {v l d : Nat → Int} (hb : b < 6) (h : MR M b n v l d) (hN : gI M 224 b = iI N) (hR : RI N n v l d) (hQ : ∀ y, Q (iI (fmx (oa l d n) (-2) N)) (pI M 200 31 y)) : wpX4_worstOf M (iI b) Q := by
  have := l_worstOf hb h hN hR hQ N 0 (gI M 200 31) rfl (by omega)
  rw [pp_2] at this
  unfold wpX4_worstOf
  simp (disch := omega) only [iI_lit, iI_neg, iI_add, iI_sub, iI_mul, iI_lt, iI_le, iI_eq, iI_in, iI_clamp, iI_mx, iI_mn, iI_nI, Int.toNat_natCast, forall_eq, br_1, br_2, br_3, br_4, br_in, br_5, br_6, br_7, br_8, ex_c, br_nl, br_le, br_ne, gp_1, gp_2, gp_3, gf_1, gf_2]
  simpa [fmx] using this
theorem fmx_z {f : Nat → Int} {N : Nat} (h : ∀ j, 1 ≤ j → j ≤ N → 0 ≤ f j) (h0 : 0 < N) : fmx f (-2) N = fmx f 0 N := by
  have : ∀ k, k ≤ N → 0 < k → fmx f (-2) k = fmx f 0 k := by
    intro k
    induction k with
    | zero => intro _ h; omega
    | succ k ih =>
      intro hk _
      have := h (k + 1) (by omega) hk
      rw [fmx, fmx]
      by_cases c : k = 0
      · subst c
        rw [show fmx f (-2) 0 = -2 from rfl, show fmx f 0 0 = 0 from rfl]
        unfold mx
        rw [if_pos (by omega)]
        by_cases q : 0 < f (0 + 1)
        · rw [if_pos q]
        · rw [if_neg q]
          omega
      · rw [ih (by omega) (by omega)]
  exact this N (Nat.le_refl N) h0
theorem op_worst {mk : Nat} {S : Gs} {M : Mem} (hC : CS mk S M) (hG : GI S) (a : Int32) : Good mk S (fun Q => wpX3_worst mk M a Q) (fun M1 Q => wpX4_worst M1 a Q) M := by
  obtain ⟨z, rfl, hz⟩ := iI_of a
  by_cases c0 : ¬ (0 ≤ z ∧ z < gk S)
  · refine Good.ro (iI (-1)) 1 hC hG (by omega) (fun Q hQ => ?_) (fun M1 hM Q hQ => ?_)
    · simp only [wpX3_worst, iI_lit, c_find_n hC hG hz c0, o_none, o_none2, c_refuse]
      exact hQ _ (RC.p (RC.r _)) gp_1
    · unfold wpX4_worst
      refine mo_1 hM hQ (fun M0 hM hQ => ?_)
      simp (disch := omega) only [iI_lit, iI_neg, iI_add, iI_sub, iI_mul, iI_lt, iI_le, iI_eq, iI_in, iI_clamp, iI_mx, iI_mn, iI_nI, Int.toNat_natCast, forall_eq, br_1, br_2, br_3, br_4, br_in, br_5, br_6, br_7, br_8, ex_c, br_nl, br_le, br_ne, gp_1, gp_2, gp_3, gf_1, gf_2, m_isS_n hM hG hz c0]
      exact m_refused hQ (RM.r _)
  obtain ⟨j, rfl⟩ : ∃ j : Nat, z = j := ⟨z.toNat, by omega⟩
  have hj : j < gk S := by omega
  have hk := hG.1
  have hT := hC.ct hj
  have hS := hG.si hj
  have hE := hG.er hj
  obtain ⟨x, hx⟩ : ∃ x, gT S j = x := ⟨_, rfl⟩
  rw [hx] at hT hS
  have hN := hS.1.1
  have hn := hS.1.2.1
  obtain ⟨t1, t2, t3, t4, t5, t6⟩ := hT
  by_cases c1 : tN x = 0
  · skip
    refine Good.ro (iI (-2)) 0 hC hG (by omega) (fun Q hQ => ?_) (fun M1 hM Q hQ => ?_)
    · simp only [wpX3_worst, c_find_y hC hG hj, o_some]
      simp (disch := omega) only [iI_lit, iI_neg, iI_add, iI_sub, iI_mul, iI_lt, iI_le, iI_eq, iI_in, iI_clamp, iI_mx, iI_mn, iI_nI, Int.toNat_natCast, forall_eq, br_1, br_2, br_3, br_4, br_in, br_5, br_6, br_7, br_8, ex_c, br_nl, br_le, br_ne, gp_1, gp_2, gp_3, gf_1, gf_2, c_pass, c_refuse, t1, t2, t3, t4, hC.2.2.1, c1]
      exact hQ _ (RC.p (RC.r _)) gp_1
    · unfold wpX4_worst
      refine mo_1 hM hQ (fun M0 hM hQ => ?_)
      have hMT := hM.mt hj
      rw [hx] at hMT
      obtain ⟨u1, u2, u3, u4, u5, u6⟩ := hMT
      simp (disch := omega) only [iI_lit, iI_neg, iI_add, iI_sub, iI_mul, iI_lt, iI_le, iI_eq, iI_in, iI_clamp, iI_mx, iI_mn, iI_nI, Int.toNat_natCast, forall_eq, br_1, br_2, br_3, br_4, br_in, br_5, br_6, br_7, br_8, ex_c, br_nl, br_le, br_ne, gp_1, gp_2, gp_3, gf_1, gf_2, ix_0, ix_1, ix_2, ix_3, tn_1, tn_2, pp_1, m_isS_y hM hG hj, m_in_y, m_in_n, u1.1, u2, u3, u4, u5, hM.2.2.2.2.1, u2]
      refine m_worstOf (show j < 6 by omega) u1 u2 hS.1 (fun y => ?_)
      rw [c1]
      exact m_good hQ (RM.p (RM.r _) (by omega))
  · have hg := fun Q => e_greatestOff (Q := Q) t6 hS.1 (by omega)
    refine Good.ro (iI (fmx (oa (tl x) (td x) (tn x)) 0 (tN x))) 0 hC hG (by omega) (fun Q hQ => ?_) (fun M1 hM Q hQ => ?_)
    · simp only [wpX3_worst, c_find_y hC hG hj, o_some]
      simp (disch := omega) only [iI_lit, iI_neg, iI_add, iI_sub, iI_mul, iI_lt, iI_le, iI_eq, iI_in, iI_clamp, iI_mx, iI_mn, iI_nI, Int.toNat_natCast, forall_eq, br_1, br_2, br_3, br_4, br_in, br_5, br_6, br_7, br_8, ex_c, br_nl, br_le, br_ne, gp_1, gp_2, gp_3, gf_1, gf_2, c_pass, c_refuse, t1, t2, t3, t4, hC.2.2.1, hg]
      exact hQ _ (RC.p (RC.r _)) gp_1
    · unfold wpX4_worst
      refine mo_1 hM hQ (fun M0 hM hQ => ?_)
      have hMT := hM.mt hj
      rw [hx] at hMT
      obtain ⟨u1, u2, u3, u4, u5, u6⟩ := hMT
      simp (disch := omega) only [iI_lit, iI_neg, iI_add, iI_sub, iI_mul, iI_lt, iI_le, iI_eq, iI_in, iI_clamp, iI_mx, iI_mn, iI_nI, Int.toNat_natCast, forall_eq, br_1, br_2, br_3, br_4, br_in, br_5, br_6, br_7, br_8, ex_c, br_nl, br_le, br_ne, gp_1, gp_2, gp_3, gf_1, gf_2, ix_0, ix_1, ix_2, ix_3, tn_1, tn_2, pp_1, m_isS_y hM hG hj, m_in_y, m_in_n, u1.1, u2, u3, u4, u5, hM.2.2.2.2.1, u2]
      refine m_worstOf (show j < 6 by omega) u1 u2 hS.1 (fun y => ?_)
      rw [fmx_z (fun q q1 q2 => (oa_b hS.1 (by omega)).1) (by omega)]
      exact m_good hQ (RM.p (RM.r _) (by omega))
theorem l_mtotal {M : Mem} {Q : Qi} {b n N : Nat} {v l d : Nat → Int} (y : Int32) (hb : b < 6) (h : MR M b n v l d) (hN : gI M 224 b = iI N) (hR : RI N n v l d) (hQ : wpX4_good M (iI (fsm (fun r => if y = iI 0 then v (flr l d r n) else v (cei l r n)) N)) Q) : ∀ f i, N - i = f → i ≤ N → ∃ m, wX4_total_24 Q (iI b) y m M (iI (fsm (fun r => if y = iI 0 then v (flr l d r n) else v (cei l r n)) i)) (iI (i + 1 : Nat)) := by
  have hN' := hR.1
  have hn := hR.2.1
  intro f
  induction f with
  | zero =>
    intro i hf hi
    have e : i = N := by omega
    subst e
    rw [ex_s rfl]
    simp only [wX4_total_24]
    simp (disch := omega) only [iI_lit, iI_neg, iI_add, iI_sub, iI_mul, iI_lt, iI_le, iI_eq, iI_in, iI_clamp, iI_mx, iI_mn, iI_nI, Int.toNat_natCast, forall_eq, br_1, br_2, br_3, br_4, br_in, br_5, br_6, br_7, br_8, ex_c, br_nl, br_le, br_ne, gp_1, gp_2, gp_3, gf_1, gf_2, ix_0, ix_1, ix_2, ix_3, tn_1, tn_2, pp_1, hN]
    exact hQ
  | succ f ih =>
    intro i hf hi
    rw [ex_s rfl]
    simp only [wX4_total_24]
    have := ih (i + 1) (by omega) (by omega)
    rw [fsm] at this
    by_cases c : y = iI 0
    · subst c
      simp (disch := omega) only [iI_lit, iI_neg, iI_add, iI_sub, iI_mul, iI_lt, iI_le, iI_eq, iI_in, iI_clamp, iI_mx, iI_mn, iI_nI, Int.toNat_natCast, forall_eq, br_1, br_2, br_3, br_4, br_in, br_5, br_6, br_7, br_8, ex_c, br_nl, br_le, br_ne, gp_1, gp_2, gp_3, gf_1, gf_2, ix_0, ix_1, ix_2, ix_3, tn_1, tn_2, pp_1, hN, m_floorOf hb h hR]
      rw [if_pos rfl] at this
      simpa using this
    · rw [if_neg c] at this
      simp only [iI_lit, br_2 c]
      simp (disch := omega) only [iI_lit, iI_neg, iI_add, iI_sub, iI_mul, iI_lt, iI_le, iI_eq, iI_in, iI_clamp, iI_mx, iI_mn, iI_nI, Int.toNat_natCast, forall_eq, br_1, br_2, br_3, br_4, br_in, br_5, br_6, br_7, br_8, ex_c, br_nl, br_le, br_ne, gp_1, gp_2, gp_3, gf_1, gf_2, ix_0, ix_1, ix_2, ix_3, tn_1, tn_2, pp_1, hN, m_ceilingOf hb h hR]
      simpa using this
theorem op_total {mk : Nat} {S : Gs} {M : Mem} (hC : CS mk S M) (hG : GI S) (a y : Int32) : Good mk S (fun Q => wpX3_total mk M a y Q) (fun M1 Q => wpX4_total M1 a y Q) M := by
  obtain ⟨z, rfl, hz⟩ := iI_of a
  by_cases c0 : ¬ (0 ≤ z ∧ z < gk S)
  · refine Good.ro (iI (-1)) 1 hC hG (by omega) (fun Q hQ => ?_) (fun M1 hM Q hQ => ?_)
    · simp only [wpX3_total, iI_lit, c_find_n hC hG hz c0, o_none, o_none2, c_refuse]
      exact hQ _ (RC.p (RC.r _)) gp_1
    · unfold wpX4_total
      refine mo_1 hM hQ (fun M0 hM hQ => ?_)
      simp (disch := omega) only [iI_lit, iI_neg, iI_add, iI_sub, iI_mul, iI_lt, iI_le, iI_eq, iI_in, iI_clamp, iI_mx, iI_mn, iI_nI, Int.toNat_natCast, forall_eq, br_1, br_2, br_3, br_4, br_in, br_5, br_6, br_7, br_8, ex_c, br_nl, br_le, br_ne, gp_1, gp_2, gp_3, gf_1, gf_2, m_isS_n hM hG hz c0]
      exact m_refused hQ (RM.r _)
  obtain ⟨j, rfl⟩ : ∃ j : Nat, z = j := ⟨z.toNat, by omega⟩
  have hj : j < gk S := by omega
  have hk := hG.1
  have hT := hC.ct hj
  have hS := hG.si hj
  have hE := hG.er hj
  obtain ⟨x, hx⟩ : ∃ x, gT S j = x := ⟨_, rfl⟩
  rw [hx] at hT hS
  have hN := hS.1.1
  have hn := hS.1.2.1
  obtain ⟨t1, t2, t3, t4, t5, t6⟩ := hT
  refine Good.ro (iI (fsm (fun r => if y = iI 0 then tv x (flr (tl x) (td x) r (tn x)) else tv x (cei (tl x) r (tn x))) (tN x))) 0 hC hG (by omega) (fun Q hQ => ?_) (fun M1 hM Q hQ => ?_)
  · simp only [wpX3_total, c_find_y hC hG hj, o_some]
    simp (disch := omega) only [iI_lit, iI_neg, iI_add, iI_sub, iI_mul, iI_lt, iI_le, iI_eq, iI_in, iI_clamp, iI_mx, iI_mn, iI_nI, Int.toNat_natCast, forall_eq, br_1, br_2, br_3, br_4, br_in, br_5, br_6, br_7, br_8, ex_c, br_nl, br_le, br_ne, gp_1, gp_2, gp_3, gf_1, gf_2, c_pass, c_refuse, t1, t2, t3, t4, hC.2.2.1, e_sumOfPlaces t6 hS.1]
    exact hQ _ (RC.p (RC.r _)) gp_1
  · unfold wpX4_total
    refine mo_1 hM hQ (fun M0 hM hQ => ?_)
    have hMT := hM.mt hj
    rw [hx] at hMT
    obtain ⟨u1, u2, u3, u4, u5, u6⟩ := hMT
    simp (disch := omega) only [iI_lit, iI_neg, iI_add, iI_sub, iI_mul, iI_lt, iI_le, iI_eq, iI_in, iI_clamp, iI_mx, iI_mn, iI_nI, Int.toNat_natCast, forall_eq, br_1, br_2, br_3, br_4, br_in, br_5, br_6, br_7, br_8, ex_c, br_nl, br_le, br_ne, gp_1, gp_2, gp_3, gf_1, gf_2, ix_0, ix_1, ix_2, ix_3, tn_1, tn_2, pp_1, m_isS_y hM hG hj, m_in_y, m_in_n, u1.1, u2, u3, u4, u5, hM.2.2.2.2.1, u2]
    have := l_mtotal (M := M0) (b := j) y (show j < 6 by omega) u1 u2 hS.1 (m_good hQ (RM.r _)) (tN x) 0 rfl (by omega)
    simpa [fsm] using this
theorem op_spread {mk : Nat} {S : Gs} {M : Mem} (hC : CS mk S M) (hG : GI S) (a b : Int32) : Good mk S (fun Q => wpX3_spread mk M a b Q) (fun M1 Q => wpX4_spread M1 a b Q) M := by
  obtain ⟨z, rfl, hz⟩ := iI_of a
  obtain ⟨q, rfl, hq⟩ := iI_of b
  by_cases c0 : ¬ (0 ≤ z ∧ z < gk S)
  · refine Good.ro (iI (-1)) 1 hC hG (by omega) (fun Q hQ => ?_) (fun M1 hM Q hQ => ?_)
    · simp only [wpX3_spread, iI_lit, c_find_n hC hG hz c0, o_none, o_none2, c_refuse]
      exact hQ _ (RC.p (RC.r _)) gp_1
    · unfold wpX4_spread
      refine mo_1 hM hQ (fun M0 hM hQ => ?_)
      simp (disch := omega) only [iI_lit, iI_neg, iI_add, iI_sub, iI_mul, iI_lt, iI_le, iI_eq, iI_in, iI_clamp, iI_mx, iI_mn, iI_nI, Int.toNat_natCast, forall_eq, br_1, br_2, br_3, br_4, br_in, br_5, br_6, br_7, br_8, ex_c, br_nl, br_le, br_ne, gp_1, gp_2, gp_3, gf_1, gf_2, m_isS_n hM hG hz c0]
      exact m_refused hQ (RM.r _)
  obtain ⟨j, rfl⟩ : ∃ j : Nat, z = j := ⟨z.toNat, by omega⟩
  have hj : j < gk S := by omega
  have hk := hG.1
  have hT := hC.ct hj
  have hS := hG.si hj
  have hE := hG.er hj
  obtain ⟨x, hx⟩ : ∃ x, gT S j = x := ⟨_, rfl⟩
  rw [hx] at hT hS
  have hN := hS.1.1
  have hn := hS.1.2.1
  obtain ⟨t1, t2, t3, t4, t5, t6⟩ := hT
  by_cases c1 : 0 ≤ q ∧ q < 1000
  · have hp := plc_le (tv x) q (tn x)
    have e : (if (plc (tv x) q (tn x) : Int) = 0 ∨ (plc (tv x) q (tn x) : Int) = tn x then 0 else tl x (plc (tv x) q (tn x)) - lp (tl x) (plc (tv x) q (tn x)) + td x (plc (tv x) q (tn x)) - 1) = sAh (tl x) (td x) (tn x) (plc (tv x) q (tn x)) := by
      unfold sAh
      grind
    refine Good.ro (iI (sAh (tl x) (td x) (tn x) (plc (tv x) q (tn x)))) 0 hC hG (by omega) (fun Q hQ => ?_) (fun M1 hM Q hQ => ?_)
    · simp only [wpX3_spread, c_find_y hC hG hj, o_some]
      simp (disch := omega) only [iI_lit, iI_neg, iI_add, iI_sub, iI_mul, iI_lt, iI_le, iI_eq, iI_in, iI_clamp, iI_mx, iI_mn, iI_nI, Int.toNat_natCast, forall_eq, br_1, br_2, br_3, br_4, br_in, br_5, br_6, br_7, br_8, ex_c, br_nl, br_le, br_ne, gp_1, gp_2, gp_3, gf_1, gf_2, c_pass, c_refuse, t1, t2, t3, t4, hC.2.2.1, e_isValue, e_tuplesUpTo t6 hS.1, e_spreadAhead t6 hS.1, e]
      exact hQ _ (RC.p (RC.r _)) gp_1
    · unfold wpX4_spread
      refine mo_1 hM hQ (fun M0 hM hQ => ?_)
      have hMT := hM.mt hj
      rw [hx] at hMT
      obtain ⟨u1, u2, u3, u4, u5, u6⟩ := hMT
      simp (disch := omega) only [iI_lit, iI_neg, iI_add, iI_sub, iI_mul, iI_lt, iI_le, iI_eq, iI_in, iI_clamp, iI_mx, iI_mn, iI_nI, Int.toNat_natCast, forall_eq, br_1, br_2, br_3, br_4, br_in, br_5, br_6, br_7, br_8, ex_c, br_nl, br_le, br_ne, gp_1, gp_2, gp_3, gf_1, gf_2, ix_0, ix_1, ix_2, ix_3, tn_1, tn_2, pp_1, m_isS_y hM hG hj, m_in_y, m_in_n, u1.1, u2, u3, u4, u5, hM.2.2.2.2.1, m_isValue_y, m_place (show j < 6 by omega) u1 hS.1, m_spreadAt (show j < 6 by omega) u1 hS.1]
      exact m_good hQ (RM.r _)
  · skip
    refine Good.ro (iI (-1)) 2 hC hG (by omega) (fun Q hQ => ?_) (fun M1 hM Q hQ => ?_)
    · simp only [wpX3_spread, c_find_y hC hG hj, o_some]
      simp (disch := omega) only [iI_lit, iI_neg, iI_add, iI_sub, iI_mul, iI_lt, iI_le, iI_eq, iI_in, iI_clamp, iI_mx, iI_mn, iI_nI, Int.toNat_natCast, forall_eq, br_1, br_2, br_3, br_4, br_in, br_5, br_6, br_7, br_8, ex_c, br_nl, br_le, br_ne, gp_1, gp_2, gp_3, gf_1, gf_2, c_pass, c_refuse, t1, t2, t3, t4, hC.2.2.1, c_isValue_n]
      exact hQ _ (RC.p (RC.r _)) gp_1
    · unfold wpX4_spread
      refine mo_1 hM hQ (fun M0 hM hQ => ?_)
      have hMT := hM.mt hj
      rw [hx] at hMT
      obtain ⟨u1, u2, u3, u4, u5, u6⟩ := hMT
      simp (disch := omega) only [iI_lit, iI_neg, iI_add, iI_sub, iI_mul, iI_lt, iI_le, iI_eq, iI_in, iI_clamp, iI_mx, iI_mn, iI_nI, Int.toNat_natCast, forall_eq, br_1, br_2, br_3, br_4, br_in, br_5, br_6, br_7, br_8, ex_c, br_nl, br_le, br_ne, gp_1, gp_2, gp_3, gf_1, gf_2, ix_0, ix_1, ix_2, ix_3, tn_1, tn_2, pp_1, m_isS_y hM hG hj, m_in_y, m_in_n, u1.1, u2, u3, u4, u5, hM.2.2.2.2.1, m_isValue_n]
      exact m_refused hQ (RM.r _)
theorem op_times {mk : Nat} {S : Gs} {M : Mem} (hC : CS mk S M) (hG : GI S) (a b : Int32) : Good mk S (fun Q => wpX3_times mk M a b Q) (fun M1 Q => wpX4_times M1 a b Q) M := by
  obtain ⟨z, rfl, hz⟩ := iI_of a
  obtain ⟨q, rfl, hq⟩ := iI_of b
  by_cases c0 : ¬ (0 ≤ z ∧ z < gk S)
  · refine Good.ro (iI (-1)) 1 hC hG (by omega) (fun Q hQ => ?_) (fun M1 hM Q hQ => ?_)
    · simp only [wpX3_times, iI_lit, c_find_n hC hG hz c0, o_none, o_none2, c_refuse]
      exact hQ _ (RC.p (RC.r _)) gp_1
    · unfold wpX4_times
      refine mo_1 hM hQ (fun M0 hM hQ => ?_)
      simp (disch := omega) only [iI_lit, iI_neg, iI_add, iI_sub, iI_mul, iI_lt, iI_le, iI_eq, iI_in, iI_clamp, iI_mx, iI_mn, iI_nI, Int.toNat_natCast, forall_eq, br_1, br_2, br_3, br_4, br_in, br_5, br_6, br_7, br_8, ex_c, br_nl, br_le, br_ne, gp_1, gp_2, gp_3, gf_1, gf_2, m_isS_n hM hG hz c0]
      exact m_refused hQ (RM.r _)
  obtain ⟨j, rfl⟩ : ∃ j : Nat, z = j := ⟨z.toNat, by omega⟩
  have hj : j < gk S := by omega
  have hk := hG.1
  have hT := hC.ct hj
  have hS := hG.si hj
  have hE := hG.er hj
  obtain ⟨x, hx⟩ : ∃ x, gT S j = x := ⟨_, rfl⟩
  rw [hx] at hT hS
  have hN := hS.1.1
  have hn := hS.1.2.1
  obtain ⟨t1, t2, t3, t4, t5, t6⟩ := hT
  by_cases c1 : 0 ≤ q ∧ q < 1000
  · have e := t5 q.toNat (by omega)
    refine Good.ro (iI (tc x q.toNat)) 0 hC hG (by omega) (fun Q hQ => ?_) (fun M1 hM Q hQ => ?_)
    · simp only [wpX3_times, c_find_y hC hG hj, o_some]
      simp (disch := omega) only [iI_lit, iI_neg, iI_add, iI_sub, iI_mul, iI_lt, iI_le, iI_eq, iI_in, iI_clamp, iI_mx, iI_mn, iI_nI, Int.toNat_natCast, forall_eq, br_1, br_2, br_3, br_4, br_in, br_5, br_6, br_7, br_8, ex_c, br_nl, br_le, br_ne, gp_1, gp_2, gp_3, gf_1, gf_2, c_pass, c_refuse, t1, t2, t3, t4, hC.2.2.1, e_isValue, e]
      exact hQ _ (RC.p (RC.r _)) gp_1
    · unfold wpX4_times
      refine mo_1 hM hQ (fun M0 hM hQ => ?_)
      have hMT := hM.mt hj
      rw [hx] at hMT
      obtain ⟨u1, u2, u3, u4, u5, u6⟩ := hMT
      simp (disch := omega) only [iI_lit, iI_neg, iI_add, iI_sub, iI_mul, iI_lt, iI_le, iI_eq, iI_in, iI_clamp, iI_mx, iI_mn, iI_nI, Int.toNat_natCast, forall_eq, br_1, br_2, br_3, br_4, br_in, br_5, br_6, br_7, br_8, ex_c, br_nl, br_le, br_ne, gp_1, gp_2, gp_3, gf_1, gf_2, ix_0, ix_1, ix_2, ix_3, tn_1, tn_2, pp_1, m_isS_y hM hG hj, m_in_y, m_in_n, u1.1, u2, u3, u4, u5, hM.2.2.2.2.1, m_isValue_y, u6 q.toNat (by omega)]
      exact m_good hQ (RM.r _)
  · skip
    refine Good.ro (iI (-1)) 2 hC hG (by omega) (fun Q hQ => ?_) (fun M1 hM Q hQ => ?_)
    · simp only [wpX3_times, c_find_y hC hG hj, o_some]
      simp (disch := omega) only [iI_lit, iI_neg, iI_add, iI_sub, iI_mul, iI_lt, iI_le, iI_eq, iI_in, iI_clamp, iI_mx, iI_mn, iI_nI, Int.toNat_natCast, forall_eq, br_1, br_2, br_3, br_4, br_in, br_5, br_6, br_7, br_8, ex_c, br_nl, br_le, br_ne, gp_1, gp_2, gp_3, gf_1, gf_2, c_pass, c_refuse, t1, t2, t3, t4, hC.2.2.1, c_isValue_n]
      exact hQ _ (RC.p (RC.r _)) gp_1
    · unfold wpX4_times
      refine mo_1 hM hQ (fun M0 hM hQ => ?_)
      have hMT := hM.mt hj
      rw [hx] at hMT
      obtain ⟨u1, u2, u3, u4, u5, u6⟩ := hMT
      simp (disch := omega) only [iI_lit, iI_neg, iI_add, iI_sub, iI_mul, iI_lt, iI_le, iI_eq, iI_in, iI_clamp, iI_mx, iI_mn, iI_nI, Int.toNat_natCast, forall_eq, br_1, br_2, br_3, br_4, br_in, br_5, br_6, br_7, br_8, ex_c, br_nl, br_le, br_ne, gp_1, gp_2, gp_3, gf_1, gf_2, ix_0, ix_1, ix_2, ix_3, tn_1, tn_2, pp_1, m_isS_y hM hG hj, m_in_y, m_in_n, u1.1, u2, u3, u4, u5, hM.2.2.2.2.1, m_isValue_n]
      exact m_refused hQ (RM.r _)
