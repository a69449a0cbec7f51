theorem m_isTuple_y {S : Gs} {M : Mem} {Q : Qi} {j n : Nat} {i : Int} (hM : MS S M) (hG : GI S) (hj : j < gk S) (h : gI M 223 j = iI n) (hn : n ≤ 1000) (hi : 0 ≤ i ∧ i < n) : wpX4_isTuple M (iI j) (iI i) Q = Q (iI 1) M := by
  have := hG.1
  unfold wpX4_isTuple
  simp (disch := omega) only [iI_lit, iI_neg, iI_add, iI_sub, iI_mul, iI_lt, iI_le, iI_eq, iI_in, iI_clamp, iI_mx, iI_mn, iI_nI, Int.toNat_natCast, forall_eq, br_1, br_2, br_3, br_4, br_in, br_5, br_6, br_7, br_8, ex_c, br_nl, br_le, br_ne, gp_1, gp_2, gp_3, gf_1, gf_2, ix_0, ix_1, ix_2, ix_3, tn_1, tn_2, pp_1, m_isS_y hM hG hj, h, m_in_y]
theorem m_isTuple_n {S : Gs} {M : Mem} {Q : Qi} {j n : Nat} {i : Int} (hM : MS S M) (hG : GI S) (hj : j < gk S) (h : gI M 223 j = iI n) (hn : n ≤ 1000) (hi : ¬ (0 ≤ i ∧ i < n)) (hz : -2147483648 ≤ i ∧ i < 2147483648) : wpX4_isTuple M (iI j) (iI i) Q = Q (iI 0) M := by
  have := hG.1
  unfold wpX4_isTuple
  simp (disch := omega) only [iI_lit, iI_neg, iI_add, iI_sub, iI_mul, iI_lt, iI_le, iI_eq, iI_in, iI_clamp, iI_mx, iI_mn, iI_nI, Int.toNat_natCast, forall_eq, br_1, br_2, br_3, br_4, br_in, br_5, br_6, br_7, br_8, ex_c, br_nl, br_le, br_ne, gp_1, gp_2, gp_3, gf_1, gf_2, ix_0, ix_1, ix_2, ix_3, tn_1, tn_2, pp_1, m_isS_y hM hG hj, h, m_in_n]
theorem m_isTuple_s {S : Gs} {M : Mem} {Q : Qi} {z : Int} {i : Int32} (hM : MS S M) (hG : GI S) (hz : -2147483648 ≤ z ∧ z < 2147483648) (h : ¬ (0 ≤ z ∧ z < gk S)) : wpX4_isTuple M (iI z) i Q = Q (iI 0) M := by
  unfold wpX4_isTuple
  simp (disch := omega) only [iI_lit, iI_neg, iI_add, iI_sub, iI_mul, iI_lt, iI_le, iI_eq, iI_in, iI_clamp, iI_mx, iI_mn, iI_nI, Int.toNat_natCast, forall_eq, br_1, br_2, br_3, br_4, br_in, br_5, br_6, br_7, br_8, ex_c, br_nl, br_le, br_ne, gp_1, gp_2, gp_3, gf_1, gf_2, ix_0, ix_1, ix_2, ix_3, tn_1, tn_2, pp_1, m_isS_n hM hG hz h]
theorem op_tuple {mk : Nat} {S : Gs} {M : Mem} (hC : CS mk S M) (hG : GI S) (a b e : Int32) : Good mk S (fun Q => wpX3_tuple mk M a b e Q) (fun M1 Q => wpX4_tuple M1 a b e Q) M := by
  obtain ⟨z, rfl, hz⟩ := iI_of a
  obtain ⟨i, rfl, hi⟩ := iI_of b
  obtain ⟨w, rfl, hw⟩ := iI_of e
  by_cases c0 : ¬ (0 ≤ z ∧ z < gk S)
  · refine Good.ro (iI (-1)) 1 hC hG (by omega) (fun Q hQ => ?_) (fun M1 hM Q hQ => ?_)
    · simp only [wpX3_tuple, iI_lit, c_find_n hC hG hz c0, o_none, o_none2, c_refuse]
      exact hQ _ (RC.p (RC.r _)) gp_1
    · unfold wpX4_tuple
      refine mo_1 hM hQ (fun M0 hM hQ => ?_)
      simp (disch := omega) only [iI_lit, iI_neg, iI_add, iI_sub, iI_mul, iI_lt, iI_le, iI_eq, iI_in, iI_clamp, iI_mx, iI_mn, iI_nI, Int.toNat_natCast, forall_eq, br_1, br_2, br_3, br_4, br_in, br_5, br_6, br_7, br_8, ex_c, br_nl, br_le, br_ne, gp_1, gp_2, gp_3, gf_1, gf_2, m_isTuple_s hM hG hz c0]
      exact m_refused hQ (RM.r _)
  obtain ⟨j, rfl⟩ : ∃ j : Nat, z = j := ⟨z.toNat, by omega⟩
  have hj : j < gk S := by omega
  have hk := hG.1
  have hT := hC.ct hj
  have hS := hG.si hj
  have hE := hG.er hj
  obtain ⟨x, hx⟩ : ∃ x, gT S j = x := ⟨_, rfl⟩
  rw [hx] at hT hS
  have hN := hS.1.1
  have hn := hS.1.2.1
  obtain ⟨t1, t2, t3, t4, t5, t6⟩ := hT
  by_cases c1 : ¬ (0 ≤ i ∧ i < tn x)
  · refine Good.ro (iI (-1)) 1 hC hG (by omega) (fun Q hQ => ?_) (fun M1 hM Q hQ => ?_)
    · by_cases c2 : i < 0
      · simp only [wpX3_tuple, c_find_y hC hG hj, o_some]
        simp (disch := omega) only [iI_lit, iI_neg, iI_add, iI_sub, iI_mul, iI_lt, iI_le, iI_eq, iI_in, iI_clamp, iI_mx, iI_mn, iI_nI, Int.toNat_natCast, forall_eq, br_1, br_2, br_3, br_4, br_in, br_5, br_6, br_7, br_8, ex_c, br_nl, br_le, br_ne, gp_1, gp_2, gp_3, gf_1, gf_2, c_refuse, t6.1]
        exact hQ _ (RC.p (RC.r _)) gp_1
      · simp only [wpX3_tuple, c_find_y hC hG hj, o_some]
        simp (disch := omega) only [iI_lit, iI_neg, iI_add, iI_sub, iI_mul, iI_lt, iI_le, iI_eq, iI_in, iI_clamp, iI_mx, iI_mn, iI_nI, Int.toNat_natCast, forall_eq, br_1, br_2, br_3, br_4, br_in, br_5, br_6, br_7, br_8, ex_c, br_nl, br_le, br_ne, gp_1, gp_2, gp_3, gf_1, gf_2, c_refuse, t6.1]
        exact hQ _ (RC.p (RC.r _)) gp_1
    · unfold wpX4_tuple
      refine mo_1 hM hQ (fun M0 hM hQ => ?_)
      have hMT := hM.mt hj
      rw [hx] at hMT
      rw [m_isTuple_n hM hG hj hMT.1.1 (by omega) c1 hi]
      simp (disch := omega) only [iI_lit, iI_neg, iI_add, iI_sub, iI_mul, iI_lt, iI_le, iI_eq, iI_in, iI_clamp, iI_mx, iI_mn, iI_nI, Int.toNat_natCast, forall_eq, br_1, br_2, br_3, br_4, br_in, br_5, br_6, br_7, br_8, ex_c, br_nl, br_le, br_ne, gp_1, gp_2, gp_3, gf_1, gf_2]
      exact m_refused hQ (RM.r _)
  obtain ⟨i, rfl⟩ : ∃ i' : Nat, i = i' := ⟨i.toNat, by omega⟩
  by_cases c3 : ¬ (0 ≤ w ∧ w ≤ 6)
  · refine Good.ro (iI (-1)) 1 hC hG (by omega) (fun Q hQ => ?_) (fun M1 hM Q hQ => ?_)
    · by_cases c2 : w < 0
      · simp only [wpX3_tuple, c_find_y hC hG hj, o_some]
        simp (disch := omega) only [iI_lit, iI_neg, iI_add, iI_sub, iI_mul, iI_lt, iI_le, iI_eq, iI_in, iI_clamp, iI_mx, iI_mn, iI_nI, Int.toNat_natCast, forall_eq, br_1, br_2, br_3, br_4, br_in, br_5, br_6, br_7, br_8, ex_c, br_nl, br_le, br_ne, gp_1, gp_2, gp_3, gf_1, gf_2, c_refuse, t6.1]
        exact hQ _ (RC.p (RC.r _)) gp_1
      · simp only [wpX3_tuple, c_find_y hC hG hj, o_some]
        simp (disch := omega) only [iI_lit, iI_neg, iI_add, iI_sub, iI_mul, iI_lt, iI_le, iI_eq, iI_in, iI_clamp, iI_mx, iI_mn, iI_nI, Int.toNat_natCast, forall_eq, br_1, br_2, br_3, br_4, br_in, br_5, br_6, br_7, br_8, ex_c, br_nl, br_le, br_ne, gp_1, gp_2, gp_3, gf_1, gf_2, c_refuse, t6.1]
        exact hQ _ (RC.p (RC.r _)) gp_1
    · unfold wpX4_tuple
      refine mo_1 hM hQ (fun M0 hM hQ => ?_)
      have hMT := hM.mt hj
      rw [hx] at hMT
      rw [m_isTuple_y hM hG hj hMT.1.1 (by omega) (by omega)]
      simp (disch := omega) only [iI_lit, iI_neg, iI_add, iI_sub, iI_mul, iI_lt, iI_le, iI_eq, iI_in, iI_clamp, iI_mx, iI_mn, iI_nI, Int.toNat_natCast, forall_eq, br_1, br_2, br_3, br_4, br_in, br_5, br_6, br_7, br_8, ex_c, br_nl, br_le, br_ne, gp_1, gp_2, gp_3, gf_1, gf_2]
      refine ⟨?_, ?_, ?_, ?_, ?_, ?_, ?_, ?_⟩ <;> intros <;> first | omega | exact m_refused hQ (RM.r _)
  have hi' : i < tn x := by omega
  have g := t6.2 i hi'
  have r := hS.1.2.2.2.1 i hi'
  have hb := bo_b (n := tN x) (e := gE S) (by omega) hE.1
  have MTY := fun (M0 : Mem) (Q' : Qi) (hM : MS S M0) (hMT : MT M0 j x) => m_isTuple_y (Q := Q') hM hG hj hMT.1.1 (show tn x ≤ 1000 by omega) (show 0 ≤ (i : Int) ∧ (i : Int) < tn x by omega)
  have NAME : True := trivial
  rcases (show w = 0 ∨ w = 1 ∨ w = 2 ∨ w = 3 ∨ w = 4 ∨ w = 5 ∨ w = 6 by omega) with rfl | rfl | rfl | rfl | rfl | rfl | rfl
  · refine Good.ro (iI (tv x i)) 0 hC hG (by omega) (fun Q hQ => ?_) (fun M1 hM Q hQ => ?_)
    · simp only [wpX3_tuple, c_find_y hC hG hj, o_some]
      simp (disch := omega) only [iI_lit, iI_neg, iI_add, iI_sub, iI_mul, iI_lt, iI_le, iI_eq, iI_in, iI_clamp, iI_mx, iI_mn, iI_nI, Int.toNat_natCast, forall_eq, br_1, br_2, br_3, br_4, br_in, br_5, br_6, br_7, br_8, ex_c, br_nl, br_le, br_ne, gp_1, gp_2, gp_3, gf_1, gf_2, Int.reduceEq, Int.reduceNeg, true_implies, false_implies, implies_true, not_true_eq_false, not_false_eq_true, true_and, and_true, c_pass, c_refuse, t6.1, t1, hC.2.2.1, g.1]
      exact hQ _ (RC.p (RC.r _)) gp_1
    · unfold wpX4_tuple
      refine mo_1 hM hQ (fun M0 hM hQ => ?_)
      have hMT := hM.mt hj
      rw [hx] at hMT
      rw [MTY M0 _ hM hMT]
      obtain ⟨u1, u2, u3, u4, u5, u6⟩ := hMT
      simp (disch := omega) only [iI_lit, iI_neg, iI_add, iI_sub, iI_mul, iI_lt, iI_le, iI_eq, iI_in, iI_clamp, iI_mx, iI_mn, iI_nI, Int.toNat_natCast, forall_eq, br_1, br_2, br_3, br_4, br_in, br_5, br_6, br_7, br_8, ex_c, br_nl, br_le, br_ne, gp_1, gp_2, gp_3, gf_1, gf_2, ix_0, ix_1, ix_2, ix_3, tn_1, tn_2, pp_1, Int.reduceEq, Int.reduceNeg, true_implies, false_implies, implies_true, not_true_eq_false, not_false_eq_true, true_and, and_true, (u1.2 i hi').1]
      exact m_good hQ (RM.r _)
  · refine Good.ro (iI (tl x i - lp (tl x) i)) 0 hC hG (by omega) (fun Q hQ => ?_) (fun M1 hM Q hQ => ?_)
    · simp only [wpX3_tuple, c_find_y hC hG hj, o_some]
      simp (disch := omega) only [iI_lit, iI_neg, iI_add, iI_sub, iI_mul, iI_lt, iI_le, iI_eq, iI_in, iI_clamp, iI_mx, iI_mn, iI_nI, Int.toNat_natCast, forall_eq, br_1, br_2, br_3, br_4, br_in, br_5, br_6, br_7, br_8, ex_c, br_nl, br_le, br_ne, gp_1, gp_2, gp_3, gf_1, gf_2, Int.reduceEq, Int.reduceNeg, true_implies, false_implies, implies_true, not_true_eq_false, not_false_eq_true, true_and, and_true, c_pass, c_refuse, t6.1, t1, hC.2.2.1, e_gap t6 (show tn x ≤ 1000 by omega)]
      exact hQ _ (RC.p (RC.r _)) gp_1
    · unfold wpX4_tuple
      refine mo_1 hM hQ (fun M0 hM hQ => ?_)
      have hMT := hM.mt hj
      rw [hx] at hMT
      rw [MTY M0 _ hM hMT]
      obtain ⟨u1, u2, u3, u4, u5, u6⟩ := hMT
      simp (disch := omega) only [iI_lit, iI_neg, iI_add, iI_sub, iI_mul, iI_lt, iI_le, iI_eq, iI_in, iI_clamp, iI_mx, iI_mn, iI_nI, Int.toNat_natCast, forall_eq, br_1, br_2, br_3, br_4, br_in, br_5, br_6, br_7, br_8, ex_c, br_nl, br_le, br_ne, gp_1, gp_2, gp_3, gf_1, gf_2, ix_0, ix_1, ix_2, ix_3, tn_1, tn_2, pp_1, Int.reduceEq, Int.reduceNeg, true_implies, false_implies, implies_true, not_true_eq_false, not_false_eq_true, true_and, and_true, (u1.2 i hi').2.1]
      exact m_good hQ (RM.r _)
  · refine Good.ro (iI (td x i)) 0 hC hG (by omega) (fun Q hQ => ?_) (fun M1 hM Q hQ => ?_)
    · simp only [wpX3_tuple, c_find_y hC hG hj, o_some]
      simp (disch := omega) only [iI_lit, iI_neg, iI_add, iI_sub, iI_mul, iI_lt, iI_le, iI_eq, iI_in, iI_clamp, iI_mx, iI_mn, iI_nI, Int.toNat_natCast, forall_eq, br_1, br_2, br_3, br_4, br_in, br_5, br_6, br_7, br_8, ex_c, br_nl, br_le, br_ne, gp_1, gp_2, gp_3, gf_1, gf_2, Int.reduceEq, Int.reduceNeg, true_implies, false_implies, implies_true, not_true_eq_false, not_false_eq_true, true_and, and_true, c_pass, c_refuse, t6.1, t1, hC.2.2.1, g.2.2]
      exact hQ _ (RC.p (RC.r _)) gp_1
    · unfold wpX4_tuple
      refine mo_1 hM hQ (fun M0 hM hQ => ?_)
      have hMT := hM.mt hj
      rw [hx] at hMT
      rw [MTY M0 _ hM hMT]
      obtain ⟨u1, u2, u3, u4, u5, u6⟩ := hMT
      simp (disch := omega) only [iI_lit, iI_neg, iI_add, iI_sub, iI_mul, iI_lt, iI_le, iI_eq, iI_in, iI_clamp, iI_mx, iI_mn, iI_nI, Int.toNat_natCast, forall_eq, br_1, br_2, br_3, br_4, br_in, br_5, br_6, br_7, br_8, ex_c, br_nl, br_le, br_ne, gp_1, gp_2, gp_3, gf_1, gf_2, ix_0, ix_1, ix_2, ix_3, tn_1, tn_2, pp_1, Int.reduceEq, Int.reduceNeg, true_implies, false_implies, implies_true, not_true_eq_false, not_false_eq_true, true_and, and_true, (u1.2 i hi').2.2]
      exact m_good hQ (RM.r _)
  · refine Good.ro (iI (tl x i)) 0 hC hG (by omega) (fun Q hQ => ?_) (fun M1 hM Q hQ => ?_)
    · simp only [wpX3_tuple, c_find_y hC hG hj, o_some]
      simp (disch := omega) only [iI_lit, iI_neg, iI_add, iI_sub, iI_mul, iI_lt, iI_le, iI_eq, iI_in, iI_clamp, iI_mx, iI_mn, iI_nI, Int.toNat_natCast, forall_eq, br_1, br_2, br_3, br_4, br_in, br_5, br_6, br_7, br_8, ex_c, br_nl, br_le, br_ne, gp_1, gp_2, gp_3, gf_1, gf_2, Int.reduceEq, Int.reduceNeg, true_implies, false_implies, implies_true, not_true_eq_false, not_false_eq_true, true_and, and_true, c_pass, c_refuse, t6.1, t1, hC.2.2.1, g.2.1]
      exact hQ _ (RC.p (RC.r _)) gp_1
    · unfold wpX4_tuple
      refine mo_1 hM hQ (fun M0 hM hQ => ?_)
      have hMT := hM.mt hj
      rw [hx] at hMT
      rw [MTY M0 _ hM hMT]
      obtain ⟨u1, u2, u3, u4, u5, u6⟩ := hMT
      simp (disch := omega) only [iI_lit, iI_neg, iI_add, iI_sub, iI_mul, iI_lt, iI_le, iI_eq, iI_in, iI_clamp, iI_mx, iI_mn, iI_nI, Int.toNat_natCast, forall_eq, br_1, br_2, br_3, br_4, br_in, br_5, br_6, br_7, br_8, ex_c, br_nl, br_le, br_ne, gp_1, gp_2, gp_3, gf_1, gf_2, ix_0, ix_1, ix_2, ix_3, tn_1, tn_2, pp_1, Int.reduceEq, Int.reduceNeg, true_implies, false_implies, implies_true, not_true_eq_false, not_false_eq_true, true_and, and_true, m_low (show j < 6 by omega) u1 hS.1 hi']
      exact m_good hQ (RM.r _)
  · refine Good.ro (iI (tl x i + td x i)) 0 hC hG (by omega) (fun Q hQ => ?_) (fun M1 hM Q hQ => ?_)
    · simp only [wpX3_tuple, c_find_y hC hG hj, o_some]
      simp (disch := omega) only [iI_lit, iI_neg, iI_add, iI_sub, iI_mul, iI_lt, iI_le, iI_eq, iI_in, iI_clamp, iI_mx, iI_mn, iI_nI, Int.toNat_natCast, forall_eq, br_1, br_2, br_3, br_4, br_in, br_5, br_6, br_7, br_8, ex_c, br_nl, br_le, br_ne, gp_1, gp_2, gp_3, gf_1, gf_2, Int.reduceEq, Int.reduceNeg, true_implies, false_implies, implies_true, not_true_eq_false, not_false_eq_true, true_and, and_true, c_pass, c_refuse, t6.1, t1, hC.2.2.1, e_high t6 (show tn x ≤ 1000 by omega)]
      exact hQ _ (RC.p (RC.r _)) gp_1
    · unfold wpX4_tuple
      refine mo_1 hM hQ (fun M0 hM hQ => ?_)
      have hMT := hM.mt hj
      rw [hx] at hMT
      rw [MTY M0 _ hM hMT]
      obtain ⟨u1, u2, u3, u4, u5, u6⟩ := hMT
      simp (disch := omega) only [iI_lit, iI_neg, iI_add, iI_sub, iI_mul, iI_lt, iI_le, iI_eq, iI_in, iI_clamp, iI_mx, iI_mn, iI_nI, Int.toNat_natCast, forall_eq, br_1, br_2, br_3, br_4, br_in, br_5, br_6, br_7, br_8, ex_c, br_nl, br_le, br_ne, gp_1, gp_2, gp_3, gf_1, gf_2, ix_0, ix_1, ix_2, ix_3, tn_1, tn_2, pp_1, Int.reduceEq, Int.reduceNeg, true_implies, false_implies, implies_true, not_true_eq_false, not_false_eq_true, true_and, and_true, m_high (show j < 6 by omega) u1 hS.1 hi']
      exact m_good hQ (RM.r _)
  · refine Good.ro (iI (bd (td x i) (bo (tN x) (gE S)))) 0 hC hG (by omega) (fun Q hQ => ?_) (fun M1 hM Q hQ => ?_)
    · simp only [wpX3_tuple, c_find_y hC hG hj, o_some]
      simp (disch := omega) only [iI_lit, iI_neg, iI_add, iI_sub, iI_mul, iI_lt, iI_le, iI_eq, iI_in, iI_clamp, iI_mx, iI_mn, iI_nI, Int.toNat_natCast, forall_eq, br_1, br_2, br_3, br_4, br_in, br_5, br_6, br_7, br_8, ex_c, br_nl, br_le, br_ne, gp_1, gp_2, gp_3, gf_1, gf_2, Int.reduceEq, Int.reduceNeg, true_implies, false_implies, implies_true, not_true_eq_false, not_false_eq_true, true_and, and_true, c_pass, c_refuse, t6.1, t1, hC.2.2.1, g.2.2, e_boundOf, e_bandOf]
      exact hQ _ (RC.p (RC.r _)) gp_1
    · unfold wpX4_tuple
      refine mo_1 hM hQ (fun M0 hM hQ => ?_)
      have hMT := hM.mt hj
      rw [hx] at hMT
      rw [MTY M0 _ hM hMT]
      obtain ⟨u1, u2, u3, u4, u5, u6⟩ := hMT
      simp (disch := omega) only [iI_lit, iI_neg, iI_add, iI_sub, iI_mul, iI_lt, iI_le, iI_eq, iI_in, iI_clamp, iI_mx, iI_mn, iI_nI, Int.toNat_natCast, forall_eq, br_1, br_2, br_3, br_4, br_in, br_5, br_6, br_7, br_8, ex_c, br_nl, br_le, br_ne, gp_1, gp_2, gp_3, gf_1, gf_2, ix_0, ix_1, ix_2, ix_3, tn_1, tn_2, pp_1, Int.reduceEq, Int.reduceNeg, true_implies, false_implies, implies_true, not_true_eq_false, not_false_eq_true, true_and, and_true, m_boundOf (show j < 6 by omega) u2 hM.2.2.2.2.1, m_bandAt (show j < 6 by omega) (show i < 1000 by omega) (u1.2 i hi').2.2]
      exact m_good hQ (RM.r _)
  · refine Good.ro (iI ((i : Int) - fam (fun k => bd (td x k) (bo (tN x) (gE S))) (bd (td x i) (bo (tN x) (gE S))) i + 1)) 0 hC hG (by omega) (fun Q hQ => ?_) (fun M1 hM Q hQ => ?_)
    · simp only [wpX3_tuple, c_find_y hC hG hj, o_some]
      simp (disch := omega) only [iI_lit, iI_neg, iI_add, iI_sub, iI_mul, iI_lt, iI_le, iI_eq, iI_in, iI_clamp, iI_mx, iI_mn, iI_nI, Int.toNat_natCast, forall_eq, br_1, br_2, br_3, br_4, br_in, br_5, br_6, br_7, br_8, ex_c, br_nl, br_le, br_ne, gp_1, gp_2, gp_3, gf_1, gf_2, Int.reduceEq, Int.reduceNeg, true_implies, false_implies, implies_true, not_true_eq_false, not_false_eq_true, true_and, and_true, c_refuse, t6.1, t1, hC.2.2.1, e_boundOf]
      refine e_takeBands t6 hS.1 (by omega) (fun M2 hF hC2 hB => ?_)
      rw [e_familyFrom (show i < 1000 by omega) (fun k hk => ⟨hB k (by omega), bd_le _ _⟩)]
      simp (disch := omega) only [iI_lit, iI_neg, iI_add, iI_sub, iI_mul, iI_lt, iI_le, iI_eq, iI_in, iI_clamp, iI_mx, iI_mn, iI_nI, Int.toNat_natCast, forall_eq, br_1, br_2, br_3, br_4, br_in, br_5, br_6, br_7, br_8, ex_c, br_nl, br_le, br_ne, gp_1, gp_2, gp_3, gf_1, gf_2, c_pass]
      exact hQ _ (RC.p (RC.f (RC.r _) hF (by omega))) gp_1
    · unfold wpX4_tuple
      refine mo_1 hM hQ (fun M0 hM hQ => ?_)
      have hMT := hM.mt hj
      rw [hx] at hMT
      rw [MTY M0 _ hM hMT]
      obtain ⟨u1, u2, u3, u4, u5, u6⟩ := hMT
      simp (disch := omega) only [iI_lit, iI_neg, iI_add, iI_sub, iI_mul, iI_lt, iI_le, iI_eq, iI_in, iI_clamp, iI_mx, iI_mn, iI_nI, Int.toNat_natCast, forall_eq, br_1, br_2, br_3, br_4, br_in, br_5, br_6, br_7, br_8, ex_c, br_nl, br_le, br_ne, gp_1, gp_2, gp_3, gf_1, gf_2, ix_0, ix_1, ix_2, ix_3, tn_1, tn_2, pp_1, Int.reduceEq, Int.reduceNeg, true_implies, false_implies, implies_true, not_true_eq_false, not_false_eq_true, true_and, and_true, m_boundOf (show j < 6 by omega) u2 hM.2.2.2.2.1, m_familyFrom (show j < 6 by omega) (show i < 1000 by omega) (show 0 ≤ bo (tN x) (gE S) ∧ bo (tN x) (gE S) ≤ 1000 by omega) (fun k hk => ⟨(u1.2 k (by omega)).2.2, (by have := hS.1.2.2.2.1 k (by omega); omega), (by have := hS.1.2.2.2.1 k (by omega); omega)⟩)]
      exact m_good hQ (RM.r _)
theorem op_goes {mk : Nat} {S : Gs} {M : Mem} (hC : CS mk S M) (hG : GI S) (a b : Int32) : Good mk S (fun Q => wpX3_goes mk M a b Q) (fun M1 Q => wpX4_goes M1 a b Q) M := by
  obtain ⟨z, rfl, hz⟩ := iI_of a
  obtain ⟨i, rfl, hi⟩ := iI_of b
  by_cases c0 : ¬ (0 ≤ z ∧ z < gk S)
  · refine Good.ro (iI (-1)) 1 hC hG (by omega) (fun Q hQ => ?_) (fun M1 hM Q hQ => ?_)
    · simp only [wpX3_goes, iI_lit, c_find_n hC hG hz c0, o_none, o_none2, c_refuse]
      exact hQ _ (RC.p (RC.r _)) gp_1
    · unfold wpX4_goes
      refine mo_1 hM hQ (fun M0 hM hQ => ?_)
      simp (disch := omega) only [iI_lit, iI_neg, iI_add, iI_sub, iI_mul, iI_lt, iI_le, iI_eq, iI_in, iI_clamp, iI_mx, iI_mn, iI_nI, Int.toNat_natCast, forall_eq, br_1, br_2, br_3, br_4, br_in, br_5, br_6, br_7, br_8, ex_c, br_nl, br_le, br_ne, gp_1, gp_2, gp_3, gf_1, gf_2, m_isTuple_s hM hG hz c0]
      exact m_refused hQ (RM.r _)
  obtain ⟨j, rfl⟩ : ∃ j : Nat, z = j := ⟨z.toNat, by omega⟩
  have hj : j < gk S := by omega
  have hk := hG.1
  have hT := hC.ct hj
  have hS := hG.si hj
  have hE := hG.er hj
  obtain ⟨x, hx⟩ : ∃ x, gT S j = x := ⟨_, rfl⟩
  rw [hx] at hT hS
  have hN := hS.1.1
  have hn := hS.1.2.1
  obtain ⟨t1, t2, t3, t4, t5, t6⟩ := hT
  by_cases c1 : ¬ (0 ≤ i ∧ i < tn x)
  · refine Good.ro (iI (-1)) 1 hC hG (by omega) (fun Q hQ => ?_) (fun M1 hM Q hQ => ?_)
    · by_cases c2 : i < 0
      · simp only [wpX3_goes, c_find_y hC hG hj, o_some]
        simp (disch := omega) only [iI_lit, iI_neg, iI_add, iI_sub, iI_mul, iI_lt, iI_le, iI_eq, iI_in, iI_clamp, iI_mx, iI_mn, iI_nI, Int.toNat_natCast, forall_eq, br_1, br_2, br_3, br_4, br_in, br_5, br_6, br_7, br_8, ex_c, br_nl, br_le, br_ne, gp_1, gp_2, gp_3, gf_1, gf_2, c_refuse, t6.1]
        exact hQ _ (RC.p (RC.r _)) gp_1
      · simp only [wpX3_goes, c_find_y hC hG hj, o_some]
        simp (disch := omega) only [iI_lit, iI_neg, iI_add, iI_sub, iI_mul, iI_lt, iI_le, iI_eq, iI_in, iI_clamp, iI_mx, iI_mn, iI_nI, Int.toNat_natCast, forall_eq, br_1, br_2, br_3, br_4, br_in, br_5, br_6, br_7, br_8, ex_c, br_nl, br_le, br_ne, gp_1, gp_2, gp_3, gf_1, gf_2, c_refuse, t6.1]
        exact hQ _ (RC.p (RC.r _)) gp_1
    · unfold wpX4_goes
      refine mo_1 hM hQ (fun M0 hM hQ => ?_)
      have hMT := hM.mt hj
      rw [hx] at hMT
      rw [m_isTuple_n hM hG hj hMT.1.1 (by omega) c1 hi]
      simp (disch := omega) only [iI_lit, iI_neg, iI_add, iI_sub, iI_mul, iI_lt, iI_le, iI_eq, iI_in, iI_clamp, iI_mx, iI_mn, iI_nI, Int.toNat_natCast, forall_eq, br_1, br_2, br_3, br_4, br_in, br_5, br_6, br_7, br_8, ex_c, br_nl, br_le, br_ne, gp_1, gp_2, gp_3, gf_1, gf_2]
      exact m_refused hQ (RM.r _)
  obtain ⟨i, rfl⟩ : ∃ i' : Nat, i = i' := ⟨i.toNat, by omega⟩
  have hi' : i < tn x := by omega
  have hb := bo_b (n := tN x) (e := gE S) (by omega) hE.1
  by_cases c2 : i = 0 ∨ i + 1 = tn x
  · refine Good.ro (iI 0) 0 hC hG (by omega) (fun Q hQ => ?_) (fun M1 hM Q hQ => ?_)
    · by_cases c3 : i = 0
      · simp only [wpX3_goes, c_find_y hC hG hj, o_some]
        simp (disch := omega) only [iI_lit, iI_neg, iI_add, iI_sub, iI_mul, iI_lt, iI_le, iI_eq, iI_in, iI_clamp, iI_mx, iI_mn, iI_nI, Int.toNat_natCast, forall_eq, br_1, br_2, br_3, br_4, br_in, br_5, br_6, br_7, br_8, ex_c, br_nl, br_le, br_ne, gp_1, gp_2, gp_3, gf_1, gf_2, c_refuse, c_pass, t6.1]
        exact hQ _ (RC.p (RC.r _)) gp_1
      · simp only [wpX3_goes, c_find_y hC hG hj, o_some]
        simp (disch := omega) only [iI_lit, iI_neg, iI_add, iI_sub, iI_mul, iI_lt, iI_le, iI_eq, iI_in, iI_clamp, iI_mx, iI_mn, iI_nI, Int.toNat_natCast, forall_eq, br_1, br_2, br_3, br_4, br_in, br_5, br_6, br_7, br_8, ex_c, br_nl, br_le, br_ne, gp_1, gp_2, gp_3, gf_1, gf_2, c_refuse, c_pass, t6.1]
        exact hQ _ (RC.p (RC.r _)) gp_1
    · unfold wpX4_goes
      refine mo_1 hM hQ (fun M0 hM hQ => ?_)
      have hMT := hM.mt hj
      rw [hx] at hMT
      rw [m_isTuple_y hM hG hj hMT.1.1 (by omega) (by omega)]
      have hcg : ∀ Q' : Qi, wpX4_canGo M0 (iI j) (iI i) (iI (bo (tN x) (gE S))) Q' = Q' (iI 0) M0 := by
        intro Q'
        unfold wpX4_canGo
        by_cases c3 : i = 0
        · simp (disch := omega) only [iI_lit, iI_neg, iI_add, iI_sub, iI_mul, iI_lt, iI_le, iI_eq, iI_in, iI_clamp, iI_mx, iI_mn, iI_nI, Int.toNat_natCast, forall_eq, br_1, br_2, br_3, br_4, br_in, br_5, br_6, br_7, br_8, ex_c, br_nl, br_le, br_ne, gp_1, gp_2, gp_3, gf_1, gf_2, ix_0, ix_1, ix_2, ix_3, tn_1, tn_2, pp_1, hMT.1.1]
        · simp (disch := omega) only [iI_lit, iI_neg, iI_add, iI_sub, iI_mul, iI_lt, iI_le, iI_eq, iI_in, iI_clamp, iI_mx, iI_mn, iI_nI, Int.toNat_natCast, forall_eq, br_1, br_2, br_3, br_4, br_in, br_5, br_6, br_7, br_8, ex_c, br_nl, br_le, br_ne, gp_1, gp_2, gp_3, gf_1, gf_2, ix_0, ix_1, ix_2, ix_3, tn_1, tn_2, pp_1, hMT.1.1]
      simp (disch := omega) only [iI_lit, iI_neg, iI_add, iI_sub, iI_mul, iI_lt, iI_le, iI_eq, iI_in, iI_clamp, iI_mx, iI_mn, iI_nI, Int.toNat_natCast, forall_eq, br_1, br_2, br_3, br_4, br_in, br_5, br_6, br_7, br_8, ex_c, br_nl, br_le, br_ne, gp_1, gp_2, gp_3, gf_1, gf_2, ix_0, ix_1, ix_2, ix_3, tn_1, tn_2, pp_1, m_boundOf (show j < 6 by omega) hMT.2.1 hM.2.2.2.2.1, hcg]
      exact m_good hQ (RM.r _)
  · have b0 := hS.1.2.2.2.1 i hi'
    have b1 := hS.1.2.2.2.1 (i + 1) (by omega)
    have b2 := hS.1.lm (i := i) (j := i + 1) (by omega) (by omega)
    have hf := fam_b (fun k => bd (td x k) (bo (tN x) (gE S))) (bd (td x i) (bo (tN x) (gE S))) i (by omega)
    have b3 := hS.1.lpb (k := fam (fun k => bd (td x k) (bo (tN x) (gE S))) (bd (td x i) (bo (tN x) (gE S))) i) (by omega)
    refine Good.ro (iI (if bd (td x i) (bo (tN x) (gE S)) ≤ bd (td x (i + 1)) (bo (tN x) (gE S)) ∧ tl x (i + 1) - lp (tl x) (fam (fun k => bd (td x k) (bo (tN x) (gE S))) (bd (td x i) (bo (tN x) (gE S))) i) + td x (i + 1) ≤ bo (tN x) (gE S) then 1 else 0)) 0 hC hG (by omega) (fun Q hQ => ?_) (fun M1 hM Q hQ => ?_)
    · simp only [wpX3_goes, c_find_y hC hG hj, o_some]
      simp (disch := omega) only [iI_lit, iI_neg, iI_add, iI_sub, iI_mul, iI_lt, iI_le, iI_eq, iI_in, iI_clamp, iI_mx, iI_mn, iI_nI, Int.toNat_natCast, forall_eq, br_1, br_2, br_3, br_4, br_in, br_5, br_6, br_7, br_8, ex_c, br_nl, br_le, br_ne, gp_1, gp_2, gp_3, gf_1, gf_2, c_refuse, c_pass, t6.1, t1, hC.2.2.1, e_boundOf]
      refine e_takeBands t6 hS.1 (by omega) (fun M2 hF hC2 hB => ?_)
      rw [e_familyFrom (show i < 1000 by omega) (fun k hk => ⟨hB k (by omega), bd_le _ _⟩)]
      rw [show (i : Int) + 1 = (i + 1 : Nat) by omega, e_mayGo (l := tl x) (show i < 1000 by omega) hf.2 (show i + 1 < 1000 by omega) ⟨hB i hi', bd_le _ _⟩ ⟨hB (i + 1) (by omega), bd_le _ _⟩ ⟨(hC2.2 (i + 1) (by omega)).2.1, by omega, by omega⟩ ⟨(hC2.2 (i + 1) (by omega)).2.2, by omega, by omega⟩ (by omega) (fun q => (hC2.2 _ (by omega)).2.1) (by omega)]
      split at hQ
      · rename_i c3
        rw [if_pos c3]
        simp (disch := omega) only [iI_lit, iI_neg, iI_add, iI_sub, iI_mul, iI_lt, iI_le, iI_eq, iI_in, iI_clamp, iI_mx, iI_mn, iI_nI, Int.toNat_natCast, forall_eq, br_1, br_2, br_3, br_4, br_in, br_5, br_6, br_7, br_8, ex_c, br_nl, br_le, br_ne, gp_1, gp_2, gp_3, gf_1, gf_2, c_pass]
        exact hQ _ (RC.p (RC.f (RC.r _) hF (by omega))) gp_1
      · rename_i c3
        rw [if_neg c3]
        simp (disch := omega) only [iI_lit, iI_neg, iI_add, iI_sub, iI_mul, iI_lt, iI_le, iI_eq, iI_in, iI_clamp, iI_mx, iI_mn, iI_nI, Int.toNat_natCast, forall_eq, br_1, br_2, br_3, br_4, br_in, br_5, br_6, br_7, br_8, ex_c, br_nl, br_le, br_ne, gp_1, gp_2, gp_3, gf_1, gf_2, c_pass]
        exact hQ _ (RC.p (RC.f (RC.r _) hF (by omega))) gp_1
    · unfold wpX4_goes
      refine mo_1 hM hQ (fun M0 hM hQ => ?_)
      have hMT := hM.mt hj
      rw [hx] at hMT
      obtain ⟨u1, u2, u3, u4, u5, u6⟩ := hMT
      rw [m_isTuple_y hM hG hj u1.1 (by omega) (by omega)]
      have w1 := u1.2 (i + 1) (by omega)
      rw [lp_s] at w1
      have hcg := fun Q' : Qi => m_canGo (Q := Q') (M := M0) (b := j) (l := tl x) (d := td x) (bo := bo (tN x) (gE S)) (show j < 6 by omega) (show 1 ≤ i by omega) (n := tn x) (by omega) (by omega) u1.1 (by omega) (fun k hk => ⟨(u1.2 k (by omega)).2.2, (by have := hS.1.2.2.2.1 k (by omega); omega), (by have := hS.1.2.2.2.1 k (by omega); omega)⟩) (fun k hk => (u1.2 k (by omega)).2.1) (fun k hk => by have := hS.1.lpb (k := k) (by omega); omega) w1.2.1 (by omega) w1.2.2 (by omega)
      have e1 : ∀ y : Int, tl x i - y + (tl x (i + 1) - tl x i) + td x (i + 1) = tl x (i + 1) - y + td x (i + 1) := fun y => by omega
      rw [e1] at hcg
      simp (disch := omega) only [iI_lit, iI_neg, iI_add, iI_sub, iI_mul, iI_lt, iI_le, iI_eq, iI_in, iI_clamp, iI_mx, iI_mn, iI_nI, Int.toNat_natCast, forall_eq, br_1, br_2, br_3, br_4, br_in, br_5, br_6, br_7, br_8, ex_c, br_nl, br_le, br_ne, gp_1, gp_2, gp_3, gf_1, gf_2, ix_0, ix_1, ix_2, ix_3, tn_1, tn_2, pp_1, m_boundOf (show j < 6 by omega) u2 hM.2.2.2.2.1, hcg]
      split at hQ
      · rename_i c3
        rw [if_pos c3]
        simp (disch := omega) only [iI_lit, iI_neg, iI_add, iI_sub, iI_mul, iI_lt, iI_le, iI_eq, iI_in, iI_clamp, iI_mx, iI_mn, iI_nI, Int.toNat_natCast, forall_eq, br_1, br_2, br_3, br_4, br_in, br_5, br_6, br_7, br_8, ex_c, br_nl, br_le, br_ne, gp_1, gp_2, gp_3, gf_1, gf_2]
        exact m_good hQ (RM.r _)
      · rename_i c3
        rw [if_neg c3]
        simp (disch := omega) only [iI_lit, iI_neg, iI_add, iI_sub, iI_mul, iI_lt, iI_le, iI_eq, iI_in, iI_clamp, iI_mx, iI_mn, iI_nI, Int.toNat_natCast, forall_eq, br_1, br_2, br_3, br_4, br_in, br_5, br_6, br_7, br_8, ex_c, br_nl, br_le, br_ne, gp_1, gp_2, gp_3, gf_1, gf_2]
        exact m_good hQ (RM.r _)
