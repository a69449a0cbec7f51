theorem l_munlike {M : Mem} {Q : Qi} {b N : Nat} {c : Nat → Int} (hb : b < 4) (hc : MC M b c) (hC : CI N c) : ∀ f i, 1000 - i = f → i ≤ 1000 → (∃ m, wX4_unlike_4 Q (iI b) m M (iI (fct (fun k => decide (0 < c (k - 1))) i)) (iI (i : Nat))) = Q (iI (fct (fun k => decide (0 < c (k - 1))) 1000)) M := by
  intro f
  induction f with
  | zero =>
    intro i hf hi
    have e : i = 1000 := by omega
    subst e
    rw [ex_s rfl]
    simp only [wX4_unlike_4]
    simp (disch := omega) only [iI_lit, iI_neg, iI_add, iI_sub, iI_mul, iI_lt, iI_le, iI_eq, iI_in, iI_clamp, iI_mx, iI_mn, iI_nI, Int.toNat_natCast, forall_eq, br_1, br_2, br_3, br_4, br_in, br_5, br_6, br_7, br_8, ex_c, br_nl, br_le, br_ne, gp_1, gp_2, gp_3, gf_1, gf_2, ix_0, ix_1, ix_2, ix_3, tn_1, tn_2, pp_1]
  | succ f ih =>
    intro i hf hi
    have h1 := hc i (by omega)
    have h2 := hC.e (k := i) (by omega)
    have h3 := hC.1
    rw [ex_s rfl]
    simp only [wX4_unlike_4]
    have := ih (i + 1) (by omega) (by omega)
    rw [fct] at this
    by_cases q : 0 < c i
    · simp (disch := omega) only [iI_lit, iI_neg, iI_add, iI_sub, iI_mul, iI_lt, iI_le, iI_eq, iI_in, iI_clamp, iI_mx, iI_mn, iI_nI, Int.toNat_natCast, forall_eq, br_1, br_2, br_3, br_4, br_in, br_5, br_6, br_7, br_8, ex_c, br_nl, br_le, br_ne, gp_1, gp_2, gp_3, gf_1, gf_2, ix_0, ix_1, ix_2, ix_3, tn_1, tn_2, pp_1, h1]
      simpa [q] using this
    · simp (disch := omega) only [iI_lit, iI_neg, iI_add, iI_sub, iI_mul, iI_lt, iI_le, iI_eq, iI_in, iI_clamp, iI_mx, iI_mn, iI_nI, Int.toNat_natCast, forall_eq, br_1, br_2, br_3, br_4, br_in, br_5, br_6, br_7, br_8, ex_c, br_nl, br_le, br_ne, gp_1, gp_2, gp_3, gf_1, gf_2, ix_0, ix_1, ix_2, ix_3, tn_1, tn_2, pp_1, h1]
      simpa [q] using this
theorem m_unlike {M : Mem} {Q : Qi} {b N : Nat} {c : Nat → Int} (hb : b < 4) (hc : MC M b c) (hC : CI N c) : wpX4_unlike M (iI b) Q = Q (iI (fct (fun k => decide (0 < c (k - 1))) 1000)) M := by
  unfold wpX4_unlike
  have := l_munlike (Q := Q) hb hc hC 1000 0 rfl (by omega)
  rw [show fct (fun k => decide (0 < c (k - 1))) 0 = 0 from rfl, Int.natCast_zero] at this
  simp (disch := omega) only [iI_lit, iI_neg, iI_add, iI_sub, iI_mul, iI_lt, iI_le, iI_eq, iI_in, iI_clamp, iI_mx, iI_mn, iI_nI, Int.toNat_natCast, forall_eq]
  exact this
theorem op_stream {mk : Nat} {S : Gs} {M : Mem} (hC : CS mk S M) (hG : GI S) (a b : Int32) : Good mk S (fun Q => wpX3_stream mk M a b Q) (fun M1 Q => wpX4_stream M1 a b Q) M := by
  obtain ⟨z, rfl, hz⟩ := iI_of a
  obtain ⟨w, rfl, hw⟩ := iI_of b
  by_cases c0 : ¬ (0 ≤ z ∧ z < gk S)
  · refine Good.ro (iI (-1)) 1 hC hG (by omega) (fun Q hQ => ?_) (fun M1 hM Q hQ => ?_)
    · simp only [wpX3_stream, iI_lit, c_find_n hC hG hz c0, o_none, o_none2, c_refuse]
      exact hQ _ (RC.p (RC.r _)) gp_1
    · unfold wpX4_stream
      refine mo_1 hM hQ (fun M0 hM hQ => ?_)
      simp (disch := omega) only [iI_lit, iI_neg, iI_add, iI_sub, iI_mul, iI_lt, iI_le, iI_eq, iI_in, iI_clamp, iI_mx, iI_mn, iI_nI, Int.toNat_natCast, forall_eq, br_1, br_2, br_3, br_4, br_in, br_5, br_6, br_7, br_8, ex_c, br_nl, br_le, br_ne, gp_1, gp_2, gp_3, gf_1, gf_2, m_isS_n hM hG hz c0]
      exact m_refused hQ (RM.r _)
  obtain ⟨j, rfl⟩ : ∃ j : Nat, z = j := ⟨z.toNat, by omega⟩
  have hj : j < gk S := by omega
  have hk := hG.1
  have hT := hC.ct hj
  have hS := hG.si hj
  have hE := hG.er hj
  obtain ⟨x, hx⟩ : ∃ x, gT S j = x := ⟨_, rfl⟩
  rw [hx] at hT hS
  have hN := hS.1.1
  have hn := hS.1.2.1
  obtain ⟨t1, t2, t3, t4, t5, t6⟩ := hT
  by_cases c1 : ¬ (0 ≤ w ∧ w ≤ 9)
  · skip
    refine Good.ro (iI (-1)) 1 hC hG (by omega) (fun Q hQ => ?_) (fun M1 hM Q hQ => ?_)
    · by_cases c2 : w < 0
      · simp only [wpX3_stream, c_find_y hC hG hj, o_some]
        simp (disch := omega) only [iI_lit, iI_neg, iI_add, iI_sub, iI_mul, iI_lt, iI_le, iI_eq, iI_in, iI_clamp, iI_mx, iI_mn, iI_nI, Int.toNat_natCast, forall_eq, br_1, br_2, br_3, br_4, br_in, br_5, br_6, br_7, br_8, ex_c, br_nl, br_le, br_ne, gp_1, gp_2, gp_3, gf_1, gf_2, c_refuse]
        exact hQ _ (RC.p (RC.r _)) gp_1
      · simp only [wpX3_stream, c_find_y hC hG hj, o_some]
        simp (disch := omega) only [iI_lit, iI_neg, iI_add, iI_sub, iI_mul, iI_lt, iI_le, iI_eq, iI_in, iI_clamp, iI_mx, iI_mn, iI_nI, Int.toNat_natCast, forall_eq, br_1, br_2, br_3, br_4, br_in, br_5, br_6, br_7, br_8, ex_c, br_nl, br_le, br_ne, gp_1, gp_2, gp_3, gf_1, gf_2, c_refuse]
        exact hQ _ (RC.p (RC.r _)) gp_1
    · unfold wpX4_stream
      refine mo_1 hM hQ (fun M0 hM hQ => ?_)
      rw [m_isS_y hM hG hj]
      simp (disch := omega) only [iI_lit, iI_neg, iI_add, iI_sub, iI_mul, iI_lt, iI_le, iI_eq, iI_in, iI_clamp, iI_mx, iI_mn, iI_nI, Int.toNat_natCast, forall_eq, br_1, br_2, br_3, br_4, br_in, br_5, br_6, br_7, br_8, ex_c, br_nl, br_le, br_ne, gp_1, gp_2, gp_3, gf_1, gf_2]
      refine ⟨?_, ?_, ?_, ?_, ?_, ?_, ?_, ?_, ?_, ?_, ?_⟩ <;> intros <;> first | omega | exact m_refused hQ (RM.r _)
  have hb := bo_b (n := tN x) (e := gE S) (by omega) hE.1
  have e9 := fun Q' : Qi => e_unlikeValues (Q := Q') t5 hS.2.1
  have e8 := fun Q' : Qi => e_widest (Q := Q') t6 hS.1
  rcases (show w = 0 ∨ w = 1 ∨ w = 2 ∨ w = 3 ∨ w = 4 ∨ w = 5 ∨ w = 6 ∨ w = 7 ∨ w = 8 ∨ w = 9 by omega) with rfl | rfl | rfl | rfl | rfl | rfl | rfl | rfl | rfl | rfl
  · skip
    refine Good.ro (iI ((tN x : Int))) 0 hC hG (by omega) (fun Q hQ => ?_) (fun M1 hM Q hQ => ?_)
    · simp only [wpX3_stream, c_find_y hC hG hj, o_some]
      simp (disch := omega) only [iI_lit, iI_neg, iI_add, iI_sub, iI_mul, iI_lt, iI_le, iI_eq, iI_in, iI_clamp, iI_mx, iI_mn, iI_nI, Int.toNat_natCast, forall_eq, br_1, br_2, br_3, br_4, br_in, br_5, br_6, br_7, br_8, ex_c, br_nl, br_le, br_ne, gp_1, gp_2, gp_3, gf_1, gf_2, Int.reduceEq, Int.reduceNeg, true_implies, false_implies, implies_true, not_true_eq_false, not_false_eq_true, true_and, and_true, c_pass, c_refuse, t1, t2, t3, t4, hC.2.2.1, t1]
      exact hQ _ (RC.p (RC.r _)) gp_1
    · unfold wpX4_stream
      refine mo_1 hM hQ (fun M0 hM hQ => ?_)
      have hMT := hM.mt hj
      rw [hx] at hMT
      obtain ⟨u1, u2, u3, u4, u5, u6⟩ := hMT
      simp (disch := omega) only [iI_lit, iI_neg, iI_add, iI_sub, iI_mul, iI_lt, iI_le, iI_eq, iI_in, iI_clamp, iI_mx, iI_mn, iI_nI, Int.toNat_natCast, forall_eq, br_1, br_2, br_3, br_4, br_in, br_5, br_6, br_7, br_8, ex_c, br_nl, br_le, br_ne, gp_1, gp_2, gp_3, gf_1, gf_2, ix_0, ix_1, ix_2, ix_3, tn_1, tn_2, pp_1, Int.reduceEq, Int.reduceNeg, true_implies, false_implies, implies_true, not_true_eq_false, not_false_eq_true, true_and, and_true, m_isS_y hM hG hj, m_in_y, m_in_n, u1.1, u2, u3, u4, u5, hM.2.2.2.2.1, u2]
      exact m_good hQ (RM.r _)
  · skip
    refine Good.ro (iI ((tn x : Int))) 0 hC hG (by omega) (fun Q hQ => ?_) (fun M1 hM Q hQ => ?_)
    · simp only [wpX3_stream, c_find_y hC hG hj, o_some]
      simp (disch := omega) only [iI_lit, iI_neg, iI_add, iI_sub, iI_mul, iI_lt, iI_le, iI_eq, iI_in, iI_clamp, iI_mx, iI_mn, iI_nI, Int.toNat_natCast, forall_eq, br_1, br_2, br_3, br_4, br_in, br_5, br_6, br_7, br_8, ex_c, br_nl, br_le, br_ne, gp_1, gp_2, gp_3, gf_1, gf_2, Int.reduceEq, Int.reduceNeg, true_implies, false_implies, implies_true, not_true_eq_false, not_false_eq_true, true_and, and_true, c_pass, c_refuse, t1, t2, t3, t4, hC.2.2.1, t6.1]
      exact hQ _ (RC.p (RC.r _)) gp_1
    · unfold wpX4_stream
      refine mo_1 hM hQ (fun M0 hM hQ => ?_)
      have hMT := hM.mt hj
      rw [hx] at hMT
      obtain ⟨u1, u2, u3, u4, u5, u6⟩ := hMT
      simp (disch := omega) only [iI_lit, iI_neg, iI_add, iI_sub, iI_mul, iI_lt, iI_le, iI_eq, iI_in, iI_clamp, iI_mx, iI_mn, iI_nI, Int.toNat_natCast, forall_eq, br_1, br_2, br_3, br_4, br_in, br_5, br_6, br_7, br_8, ex_c, br_nl, br_le, br_ne, gp_1, gp_2, gp_3, gf_1, gf_2, ix_0, ix_1, ix_2, ix_3, tn_1, tn_2, pp_1, Int.reduceEq, Int.reduceNeg, true_implies, false_implies, implies_true, not_true_eq_false, not_false_eq_true, true_and, and_true, m_isS_y hM hG hj, m_in_y, m_in_n, u1.1, u2, u3, u4, u5, hM.2.2.2.2.1, u2]
      exact m_good hQ (RM.r _)
  · skip
    refine Good.ro (iI (bo (tN x) (gE S))) 0 hC hG (by omega) (fun Q hQ => ?_) (fun M1 hM Q hQ => ?_)
    · simp only [wpX3_stream, c_find_y hC hG hj, o_some]
      simp (disch := omega) only [iI_lit, iI_neg, iI_add, iI_sub, iI_mul, iI_lt, iI_le, iI_eq, iI_in, iI_clamp, iI_mx, iI_mn, iI_nI, Int.toNat_natCast, forall_eq, br_1, br_2, br_3, br_4, br_in, br_5, br_6, br_7, br_8, ex_c, br_nl, br_le, br_ne, gp_1, gp_2, gp_3, gf_1, gf_2, Int.reduceEq, Int.reduceNeg, true_implies, false_implies, implies_true, not_true_eq_false, not_false_eq_true, true_and, and_true, c_pass, c_refuse, t1, t2, t3, t4, hC.2.2.1, e_boundOf]
      exact hQ _ (RC.p (RC.r _)) gp_1
    · unfold wpX4_stream
      refine mo_1 hM hQ (fun M0 hM hQ => ?_)
      have hMT := hM.mt hj
      rw [hx] at hMT
      obtain ⟨u1, u2, u3, u4, u5, u6⟩ := hMT
      simp (disch := omega) only [iI_lit, iI_neg, iI_add, iI_sub, iI_mul, iI_lt, iI_le, iI_eq, iI_in, iI_clamp, iI_mx, iI_mn, iI_nI, Int.toNat_natCast, forall_eq, br_1, br_2, br_3, br_4, br_in, br_5, br_6, br_7, br_8, ex_c, br_nl, br_le, br_ne, gp_1, gp_2, gp_3, gf_1, gf_2, ix_0, ix_1, ix_2, ix_3, tn_1, tn_2, pp_1, Int.reduceEq, Int.reduceNeg, true_implies, false_implies, implies_true, not_true_eq_false, not_false_eq_true, true_and, and_true, m_isS_y hM hG hj, m_in_y, m_in_n, u1.1, u2, u3, u4, u5, hM.2.2.2.2.1, m_boundOf (show j < 6 by omega) u2 hM.2.2.2.2.1]
      exact m_good hQ (RM.r _)
  · skip
    refine Good.ro (iI (te x)) 0 hC hG (by omega) (fun Q hQ => ?_) (fun M1 hM Q hQ => ?_)
    · simp only [wpX3_stream, c_find_y hC hG hj, o_some]
      simp (disch := omega) only [iI_lit, iI_neg, iI_add, iI_sub, iI_mul, iI_lt, iI_le, iI_eq, iI_in, iI_clamp, iI_mx, iI_mn, iI_nI, Int.toNat_natCast, forall_eq, br_1, br_2, br_3, br_4, br_in, br_5, br_6, br_7, br_8, ex_c, br_nl, br_le, br_ne, gp_1, gp_2, gp_3, gf_1, gf_2, Int.reduceEq, Int.reduceNeg, true_implies, false_implies, implies_true, not_true_eq_false, not_false_eq_true, true_and, and_true, c_pass, c_refuse, t1, t2, t3, t4, hC.2.2.1, t1]
      exact hQ _ (RC.p (RC.r _)) gp_1
    · unfold wpX4_stream
      refine mo_1 hM hQ (fun M0 hM hQ => ?_)
      have hMT := hM.mt hj
      rw [hx] at hMT
      obtain ⟨u1, u2, u3, u4, u5, u6⟩ := hMT
      simp (disch := omega) only [iI_lit, iI_neg, iI_add, iI_sub, iI_mul, iI_lt, iI_le, iI_eq, iI_in, iI_clamp, iI_mx, iI_mn, iI_nI, Int.toNat_natCast, forall_eq, br_1, br_2, br_3, br_4, br_in, br_5, br_6, br_7, br_8, ex_c, br_nl, br_le, br_ne, gp_1, gp_2, gp_3, gf_1, gf_2, ix_0, ix_1, ix_2, ix_3, tn_1, tn_2, pp_1, Int.reduceEq, Int.reduceNeg, true_implies, false_implies, implies_true, not_true_eq_false, not_false_eq_true, true_and, and_true, m_isS_y hM hG hj, m_in_y, m_in_n, u1.1, u2, u3, u4, u5, hM.2.2.2.2.1, u2]
      exact m_good hQ (RM.r _)
  · skip
    refine Good.ro (iI (ts x)) 0 hC hG (by omega) (fun Q hQ => ?_) (fun M1 hM Q hQ => ?_)
    · simp only [wpX3_stream, c_find_y hC hG hj, o_some]
      simp (disch := omega) only [iI_lit, iI_neg, iI_add, iI_sub, iI_mul, iI_lt, iI_le, iI_eq, iI_in, iI_clamp, iI_mx, iI_mn, iI_nI, Int.toNat_natCast, forall_eq, br_1, br_2, br_3, br_4, br_in, br_5, br_6, br_7, br_8, ex_c, br_nl, br_le, br_ne, gp_1, gp_2, gp_3, gf_1, gf_2, Int.reduceEq, Int.reduceNeg, true_implies, false_implies, implies_true, not_true_eq_false, not_false_eq_true, true_and, and_true, c_pass, c_refuse, t1, t2, t3, t4, hC.2.2.1, t1]
      exact hQ _ (RC.p (RC.r _)) gp_1
    · unfold wpX4_stream
      refine mo_1 hM hQ (fun M0 hM hQ => ?_)
      have hMT := hM.mt hj
      rw [hx] at hMT
      obtain ⟨u1, u2, u3, u4, u5, u6⟩ := hMT
      simp (disch := omega) only [iI_lit, iI_neg, iI_add, iI_sub, iI_mul, iI_lt, iI_le, iI_eq, iI_in, iI_clamp, iI_mx, iI_mn, iI_nI, Int.toNat_natCast, forall_eq, br_1, br_2, br_3, br_4, br_in, br_5, br_6, br_7, br_8, ex_c, br_nl, br_le, br_ne, gp_1, gp_2, gp_3, gf_1, gf_2, ix_0, ix_1, ix_2, ix_3, tn_1, tn_2, pp_1, Int.reduceEq, Int.reduceNeg, true_implies, false_implies, implies_true, not_true_eq_false, not_false_eq_true, true_and, and_true, m_isS_y hM hG hj, m_in_y, m_in_n, u1.1, u2, u3, u4, u5, hM.2.2.2.2.1, u2]
      exact m_good hQ (RM.r _)
  · skip
    refine Good.ro (iI (tk x)) 0 hC hG (by omega) (fun Q hQ => ?_) (fun M1 hM Q hQ => ?_)
    · simp only [wpX3_stream, c_find_y hC hG hj, o_some]
      simp (disch := omega) only [iI_lit, iI_neg, iI_add, iI_sub, iI_mul, iI_lt, iI_le, iI_eq, iI_in, iI_clamp, iI_mx, iI_mn, iI_nI, Int.toNat_natCast, forall_eq, br_1, br_2, br_3, br_4, br_in, br_5, br_6, br_7, br_8, ex_c, br_nl, br_le, br_ne, gp_1, gp_2, gp_3, gf_1, gf_2, Int.reduceEq, Int.reduceNeg, true_implies, false_implies, implies_true, not_true_eq_false, not_false_eq_true, true_and, and_true, c_pass, c_refuse, t1, t2, t3, t4, hC.2.2.1, t1]
      exact hQ _ (RC.p (RC.r _)) gp_1
    · unfold wpX4_stream
      refine mo_1 hM hQ (fun M0 hM hQ => ?_)
      have hMT := hM.mt hj
      rw [hx] at hMT
      obtain ⟨u1, u2, u3, u4, u5, u6⟩ := hMT
      simp (disch := omega) only [iI_lit, iI_neg, iI_add, iI_sub, iI_mul, iI_lt, iI_le, iI_eq, iI_in, iI_clamp, iI_mx, iI_mn, iI_nI, Int.toNat_natCast, forall_eq, br_1, br_2, br_3, br_4, br_in, br_5, br_6, br_7, br_8, ex_c, br_nl, br_le, br_ne, gp_1, gp_2, gp_3, gf_1, gf_2, ix_0, ix_1, ix_2, ix_3, tn_1, tn_2, pp_1, Int.reduceEq, Int.reduceNeg, true_implies, false_implies, implies_true, not_true_eq_false, not_false_eq_true, true_and, and_true, m_isS_y hM hG hj, m_in_y, m_in_n, u1.1, u2, u3, u4, u5, hM.2.2.2.2.1, u2]
      exact m_good hQ (RM.r _)
  · by_cases c2 : tn x = 0
    · skip
      refine Good.ro (iI (-2)) 0 hC hG (by omega) (fun Q hQ => ?_) (fun M1 hM Q hQ => ?_)
      · simp only [wpX3_stream, c_find_y hC hG hj, o_some]
        simp (disch := omega) only [iI_lit, iI_neg, iI_add, iI_sub, iI_mul, iI_lt, iI_le, iI_eq, iI_in, iI_clamp, iI_mx, iI_mn, iI_nI, Int.toNat_natCast, forall_eq, br_1, br_2, br_3, br_4, br_in, br_5, br_6, br_7, br_8, ex_c, br_nl, br_le, br_ne, gp_1, gp_2, gp_3, gf_1, gf_2, Int.reduceEq, Int.reduceNeg, true_implies, false_implies, implies_true, not_true_eq_false, not_false_eq_true, true_and, and_true, c_pass, c_refuse, t1, t2, t3, t4, hC.2.2.1, t6.1]
        exact hQ _ (RC.p (RC.r _)) gp_1
      · unfold wpX4_stream
        refine mo_1 hM hQ (fun M0 hM hQ => ?_)
        have hMT := hM.mt hj
        rw [hx] at hMT
        obtain ⟨u1, u2, u3, u4, u5, u6⟩ := hMT
        simp (disch := omega) only [iI_lit, iI_neg, iI_add, iI_sub, iI_mul, iI_lt, iI_le, iI_eq, iI_in, iI_clamp, iI_mx, iI_mn, iI_nI, Int.toNat_natCast, forall_eq, br_1, br_2, br_3, br_4, br_in, br_5, br_6, br_7, br_8, ex_c, br_nl, br_le, br_ne, gp_1, gp_2, gp_3, gf_1, gf_2, ix_0, ix_1, ix_2, ix_3, tn_1, tn_2, pp_1, Int.reduceEq, Int.reduceNeg, true_implies, false_implies, implies_true, not_true_eq_false, not_false_eq_true, true_and, and_true, m_isS_y hM hG hj, m_in_y, m_in_n, u1.1, u2, u3, u4, u5, hM.2.2.2.2.1, u2]
        exact m_good hQ (RM.r _)
    · have f2 := (t6.2 0 (by omega)).1
      refine Good.ro (iI (tv x 0)) 0 hC hG (by omega) (fun Q hQ => ?_) (fun M1 hM Q hQ => ?_)
      · simp only [wpX3_stream, c_find_y hC hG hj, o_some]
        simp (disch := omega) only [iI_lit, iI_neg, iI_add, iI_sub, iI_mul, iI_lt, iI_le, iI_eq, iI_in, iI_clamp, iI_mx, iI_mn, iI_nI, Int.toNat_natCast, forall_eq, br_1, br_2, br_3, br_4, br_in, br_5, br_6, br_7, br_8, ex_c, br_nl, br_le, br_ne, gp_1, gp_2, gp_3, gf_1, gf_2, Int.reduceEq, Int.reduceNeg, true_implies, false_implies, implies_true, not_true_eq_false, not_false_eq_true, true_and, and_true, c_pass, c_refuse, t1, t2, t3, t4, hC.2.2.1, t6.1, f2, Int.toNat_zero]
        exact hQ _ (RC.p (RC.r _)) gp_1
      · unfold wpX4_stream
        refine mo_1 hM hQ (fun M0 hM hQ => ?_)
        have hMT := hM.mt hj
        rw [hx] at hMT
        obtain ⟨u1, u2, u3, u4, u5, u6⟩ := hMT
        simp (disch := omega) only [iI_lit, iI_neg, iI_add, iI_sub, iI_mul, iI_lt, iI_le, iI_eq, iI_in, iI_clamp, iI_mx, iI_mn, iI_nI, Int.toNat_natCast, forall_eq, br_1, br_2, br_3, br_4, br_in, br_5, br_6, br_7, br_8, ex_c, br_nl, br_le, br_ne, gp_1, gp_2, gp_3, gf_1, gf_2, ix_0, ix_1, ix_2, ix_3, tn_1, tn_2, pp_1, m_isS_y hM hG hj, m_in_y, m_in_n, u1.1, u2, u3, u4, u5, hM.2.2.2.2.1, (show (iI 6 = iI 6) = True by simp), (u1.2 0 (by omega)).1, Nat.add_zero]
        have e := (u1.2 0 (by omega)).1
        rw [Nat.add_zero] at e
        simp (disch := omega) only [iI_lit, iI_neg, iI_add, iI_sub, iI_mul, iI_lt, iI_le, iI_eq, iI_in, iI_clamp, iI_mx, iI_mn, iI_nI, Int.toNat_natCast, forall_eq, br_1, br_2, br_3, br_4, br_in, br_5, br_6, br_7, br_8, ex_c, br_nl, br_le, br_ne, gp_1, gp_2, gp_3, gf_1, gf_2, ix_0, ix_1, ix_2, ix_3, tn_1, tn_2, pp_1, Int.reduceEq, Int.reduceNeg, true_implies, false_implies, implies_true, not_true_eq_false, not_false_eq_true, true_and, and_true, e, u1.1]
        exact m_good hQ (RM.r _)
  · by_cases c2 : tn x = 0
    · skip
      refine Good.ro (iI (-2)) 0 hC hG (by omega) (fun Q hQ => ?_) (fun M1 hM Q hQ => ?_)
      · simp only [wpX3_stream, c_find_y hC hG hj, o_some]
        simp (disch := omega) only [iI_lit, iI_neg, iI_add, iI_sub, iI_mul, iI_lt, iI_le, iI_eq, iI_in, iI_clamp, iI_mx, iI_mn, iI_nI, Int.toNat_natCast, forall_eq, br_1, br_2, br_3, br_4, br_in, br_5, br_6, br_7, br_8, ex_c, br_nl, br_le, br_ne, gp_1, gp_2, gp_3, gf_1, gf_2, Int.reduceEq, Int.reduceNeg, true_implies, false_implies, implies_true, not_true_eq_false, not_false_eq_true, true_and, and_true, c_pass, c_refuse, t1, t2, t3, t4, hC.2.2.1, t6.1]
        exact hQ _ (RC.p (RC.r _)) gp_1
      · unfold wpX4_stream
        refine mo_1 hM hQ (fun M0 hM hQ => ?_)
        have hMT := hM.mt hj
        rw [hx] at hMT
        obtain ⟨u1, u2, u3, u4, u5, u6⟩ := hMT
        simp (disch := omega) only [iI_lit, iI_neg, iI_add, iI_sub, iI_mul, iI_lt, iI_le, iI_eq, iI_in, iI_clamp, iI_mx, iI_mn, iI_nI, Int.toNat_natCast, forall_eq, br_1, br_2, br_3, br_4, br_in, br_5, br_6, br_7, br_8, ex_c, br_nl, br_le, br_ne, gp_1, gp_2, gp_3, gf_1, gf_2, ix_0, ix_1, ix_2, ix_3, tn_1, tn_2, pp_1, Int.reduceEq, Int.reduceNeg, true_implies, false_implies, implies_true, not_true_eq_false, not_false_eq_true, true_and, and_true, m_isS_y hM hG hj, m_in_y, m_in_n, u1.1, u2, u3, u4, u5, hM.2.2.2.2.1, u2]
        exact m_good hQ (RM.r _)
    · have f2 := (t6.2 (tn x - 1) (by omega)).1
      have e1 : (1000 * (j : Int) + tn x - 1).toNat = 1000 * j + (tn x - 1) := by omega
      refine Good.ro (iI (tv x (tn x - 1))) 0 hC hG (by omega) (fun Q hQ => ?_) (fun M1 hM Q hQ => ?_)
      · simp only [wpX3_stream, c_find_y hC hG hj, o_some]
        simp (disch := omega) only [iI_lit, iI_neg, iI_add, iI_sub, iI_mul, iI_lt, iI_le, iI_eq, iI_in, iI_clamp, iI_mx, iI_mn, iI_nI, Int.toNat_natCast, forall_eq, br_1, br_2, br_3, br_4, br_in, br_5, br_6, br_7, br_8, ex_c, br_nl, br_le, br_ne, gp_1, gp_2, gp_3, gf_1, gf_2, Int.reduceEq, Int.reduceNeg, true_implies, false_implies, implies_true, not_true_eq_false, not_false_eq_true, true_and, and_true, c_pass, c_refuse, t1, t2, t3, t4, hC.2.2.1, t6.1, f2, tn_2]
        exact hQ _ (RC.p (RC.r _)) gp_1
      · unfold wpX4_stream
        refine mo_1 hM hQ (fun M0 hM hQ => ?_)
        have hMT := hM.mt hj
        rw [hx] at hMT
        obtain ⟨u1, u2, u3, u4, u5, u6⟩ := hMT
        simp (disch := omega) only [iI_lit, iI_neg, iI_add, iI_sub, iI_mul, iI_lt, iI_le, iI_eq, iI_in, iI_clamp, iI_mx, iI_mn, iI_nI, Int.toNat_natCast, forall_eq, br_1, br_2, br_3, br_4, br_in, br_5, br_6, br_7, br_8, ex_c, br_nl, br_le, br_ne, gp_1, gp_2, gp_3, gf_1, gf_2, ix_0, ix_1, ix_2, ix_3, tn_1, tn_2, pp_1, Int.reduceEq, Int.reduceNeg, true_implies, false_implies, implies_true, not_true_eq_false, not_false_eq_true, true_and, and_true, m_isS_y hM hG hj, m_in_y, m_in_n, u1.1, u2, u3, u4, u5, hM.2.2.2.2.1, e1, (u1.2 (tn x - 1) (by omega)).1]
        exact m_good hQ (RM.r _)
  · skip
    refine Good.ro (iI (wd (tl x) (td x) (tn x))) 0 hC hG (by omega) (fun Q hQ => ?_) (fun M1 hM Q hQ => ?_)
    · simp only [wpX3_stream, c_find_y hC hG hj, o_some]
      simp (disch := omega) only [iI_lit, iI_neg, iI_add, iI_sub, iI_mul, iI_lt, iI_le, iI_eq, iI_in, iI_clamp, iI_mx, iI_mn, iI_nI, Int.toNat_natCast, forall_eq, br_1, br_2, br_3, br_4, br_in, br_5, br_6, br_7, br_8, ex_c, br_nl, br_le, br_ne, gp_1, gp_2, gp_3, gf_1, gf_2, Int.reduceEq, Int.reduceNeg, true_implies, false_implies, implies_true, not_true_eq_false, not_false_eq_true, true_and, and_true, c_pass, c_refuse, t1, t2, t3, t4, hC.2.2.1, e8]
      exact hQ _ (RC.p (RC.r _)) gp_1
    · unfold wpX4_stream
      refine mo_1 hM hQ (fun M0 hM hQ => ?_)
      have hMT := hM.mt hj
      rw [hx] at hMT
      obtain ⟨u1, u2, u3, u4, u5, u6⟩ := hMT
      simp (disch := omega) only [iI_lit, iI_neg, iI_add, iI_sub, iI_mul, iI_lt, iI_le, iI_eq, iI_in, iI_clamp, iI_mx, iI_mn, iI_nI, Int.toNat_natCast, forall_eq, br_1, br_2, br_3, br_4, br_in, br_5, br_6, br_7, br_8, ex_c, br_nl, br_le, br_ne, gp_1, gp_2, gp_3, gf_1, gf_2, ix_0, ix_1, ix_2, ix_3, tn_1, tn_2, pp_1, Int.reduceEq, Int.reduceNeg, true_implies, false_implies, implies_true, not_true_eq_false, not_false_eq_true, true_and, and_true, m_isS_y hM hG hj, m_in_y, m_in_n, u1.1, u2, u3, u4, u5, hM.2.2.2.2.1, m_widest (show j < 6 by omega) u1 hS.1]
      exact m_good hQ (RM.r _)
  · skip
    refine Good.ro (iI (fct (fun k => decide (0 < tc x (k - 1))) 1000)) 0 hC hG (by omega) (fun Q hQ => ?_) (fun M1 hM Q hQ => ?_)
    · simp only [wpX3_stream, c_find_y hC hG hj, o_some]
      simp (disch := omega) only [iI_lit, iI_neg, iI_add, iI_sub, iI_mul, iI_lt, iI_le, iI_eq, iI_in, iI_clamp, iI_mx, iI_mn, iI_nI, Int.toNat_natCast, forall_eq, br_1, br_2, br_3, br_4, br_in, br_5, br_6, br_7, br_8, ex_c, br_nl, br_le, br_ne, gp_1, gp_2, gp_3, gf_1, gf_2, Int.reduceEq, Int.reduceNeg, true_implies, false_implies, implies_true, not_true_eq_false, not_false_eq_true, true_and, and_true, c_pass, c_refuse, t1, t2, t3, t4, hC.2.2.1, e9]
      exact hQ _ (RC.p (RC.r _)) gp_1
    · unfold wpX4_stream
      refine mo_1 hM hQ (fun M0 hM hQ => ?_)
      have hMT := hM.mt hj
      rw [hx] at hMT
      obtain ⟨u1, u2, u3, u4, u5, u6⟩ := hMT
      simp (disch := omega) only [iI_lit, iI_neg, iI_add, iI_sub, iI_mul, iI_lt, iI_le, iI_eq, iI_in, iI_clamp, iI_mx, iI_mn, iI_nI, Int.toNat_natCast, forall_eq, br_1, br_2, br_3, br_4, br_in, br_5, br_6, br_7, br_8, ex_c, br_nl, br_le, br_ne, gp_1, gp_2, gp_3, gf_1, gf_2, ix_0, ix_1, ix_2, ix_3, tn_1, tn_2, pp_1, Int.reduceEq, Int.reduceNeg, true_implies, false_implies, implies_true, not_true_eq_false, not_false_eq_true, true_and, and_true, m_isS_y hM hG hj, m_in_y, m_in_n, u1.1, u2, u3, u4, u5, hM.2.2.2.2.1, m_unlike (show j < 4 by omega) u6 hS.2.1]
      exact m_good hQ (RM.r _)
theorem op_band {mk : Nat} {S : Gs} {M : Mem} (hC : CS mk S M) (hG : GI S) (a b : Int32) : Good mk S (fun Q => wpX3_band M a b Q) (fun M1 Q => wpX4_band M1 a b Q) M := by
  obtain ⟨d, rfl, hd⟩ := iI_of a
  obtain ⟨w, rfl, hw⟩ := iI_of b
  by_cases c1 : 0 ≤ d ∧ d ≤ 999
  · by_cases c2 : 1 ≤ w ∧ w ≤ 1000
    · skip
      refine Good.ro (iI ((bd d w : Int))) 0 hC hG (by omega) (fun Q hQ => ?_) (fun M1 hM Q hQ => ?_)
      · simp only [wpX3_band]
        simp (disch := omega) only [iI_lit, iI_neg, iI_add, iI_sub, iI_mul, iI_lt, iI_le, iI_eq, iI_in, iI_clamp, iI_mx, iI_mn, iI_nI, Int.toNat_natCast, forall_eq, br_1, br_2, br_3, br_4, br_in, br_5, br_6, br_7, br_8, ex_c, br_nl, br_le, br_ne, gp_1, gp_2, gp_3, gf_1, gf_2, c_pass, c_refuse, e_bandOf]
        exact hQ _ (RC.p (RC.r _)) gp_1
      · unfold wpX4_band
        refine mo_1 hM hQ (fun M0 hM hQ => ?_)
        simp (disch := omega) only [iI_lit, iI_neg, iI_add, iI_sub, iI_mul, iI_lt, iI_le, iI_eq, iI_in, iI_clamp, iI_mx, iI_mn, iI_nI, Int.toNat_natCast, forall_eq, br_1, br_2, br_3, br_4, br_in, br_5, br_6, br_7, br_8, ex_c, br_nl, br_le, br_ne, gp_1, gp_2, gp_3, gf_1, gf_2, m_in_y, m_in_n, m_bandOf]
        exact m_good hQ (RM.r _)
    · skip
      refine Good.ro (iI (-1)) 2 hC hG (by omega) (fun Q hQ => ?_) (fun M1 hM Q hQ => ?_)
      · by_cases c3 : w < 1
        · simp only [wpX3_band]
          simp (disch := omega) only [iI_lit, iI_neg, iI_add, iI_sub, iI_mul, iI_lt, iI_le, iI_eq, iI_in, iI_clamp, iI_mx, iI_mn, iI_nI, Int.toNat_natCast, forall_eq, br_1, br_2, br_3, br_4, br_in, br_5, br_6, br_7, br_8, ex_c, br_nl, br_le, br_ne, gp_1, gp_2, gp_3, gf_1, gf_2, c_pass, c_refuse]
          exact hQ _ (RC.p (RC.r _)) gp_1
        · simp only [wpX3_band]
          simp (disch := omega) only [iI_lit, iI_neg, iI_add, iI_sub, iI_mul, iI_lt, iI_le, iI_eq, iI_in, iI_clamp, iI_mx, iI_mn, iI_nI, Int.toNat_natCast, forall_eq, br_1, br_2, br_3, br_4, br_in, br_5, br_6, br_7, br_8, ex_c, br_nl, br_le, br_ne, gp_1, gp_2, gp_3, gf_1, gf_2, c_pass, c_refuse]
          exact hQ _ (RC.p (RC.r _)) gp_1
      · unfold wpX4_band
        refine mo_1 hM hQ (fun M0 hM hQ => ?_)
        simp (disch := omega) only [iI_lit, iI_neg, iI_add, iI_sub, iI_mul, iI_lt, iI_le, iI_eq, iI_in, iI_clamp, iI_mx, iI_mn, iI_nI, Int.toNat_natCast, forall_eq, br_1, br_2, br_3, br_4, br_in, br_5, br_6, br_7, br_8, ex_c, br_nl, br_le, br_ne, gp_1, gp_2, gp_3, gf_1, gf_2, m_in_y, m_in_n, m_bandOf]
        exact m_refused hQ (RM.r _)
  · skip
    refine Good.ro (iI (-1)) 2 hC hG (by omega) (fun Q hQ => ?_) (fun M1 hM Q hQ => ?_)
    · by_cases c3 : d < 0
      · simp only [wpX3_band]
        simp (disch := omega) only [iI_lit, iI_neg, iI_add, iI_sub, iI_mul, iI_lt, iI_le, iI_eq, iI_in, iI_clamp, iI_mx, iI_mn, iI_nI, Int.toNat_natCast, forall_eq, br_1, br_2, br_3, br_4, br_in, br_5, br_6, br_7, br_8, ex_c, br_nl, br_le, br_ne, gp_1, gp_2, gp_3, gf_1, gf_2, c_pass, c_refuse]
        exact hQ _ (RC.p (RC.r _)) gp_1
      · simp only [wpX3_band]
        simp (disch := omega) only [iI_lit, iI_neg, iI_add, iI_sub, iI_mul, iI_lt, iI_le, iI_eq, iI_in, iI_clamp, iI_mx, iI_mn, iI_nI, Int.toNat_natCast, forall_eq, br_1, br_2, br_3, br_4, br_in, br_5, br_6, br_7, br_8, ex_c, br_nl, br_le, br_ne, gp_1, gp_2, gp_3, gf_1, gf_2, c_pass, c_refuse]
        exact hQ _ (RC.p (RC.r _)) gp_1
    · unfold wpX4_band
      refine mo_1 hM hQ (fun M0 hM hQ => ?_)
      simp (disch := omega) only [iI_lit, iI_neg, iI_add, iI_sub, iI_mul, iI_lt, iI_le, iI_eq, iI_in, iI_clamp, iI_mx, iI_mn, iI_nI, Int.toNat_natCast, forall_eq, br_1, br_2, br_3, br_4, br_in, br_5, br_6, br_7, br_8, ex_c, br_nl, br_le, br_ne, gp_1, gp_2, gp_3, gf_1, gf_2, m_in_y, m_in_n, m_bandOf]
      exact m_refused hQ (RM.r _)
