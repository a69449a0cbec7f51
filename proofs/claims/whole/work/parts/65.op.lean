theorem op_quota {mk : Nat} {S : Gs} {M : Mem} (hC : CS mk S M) (hG : GI S) (a b e g : Int32) : Good mk S (fun Q => wpX3_quota mk M a b e g Q) (fun M1 Q => wpX4_quota M1 a b e g Q) M := by
  obtain ⟨z, rfl, hz⟩ := iI_of a
  obtain ⟨k, rfl, hk⟩ := iI_of b
  obtain ⟨sh, rfl, hsh⟩ := iI_of e
  obtain ⟨w, rfl, hw⟩ := iI_of g
  by_cases c0 : ¬ (0 ≤ z ∧ z < gk S)
  · refine Good.ro (iI (-1)) 1 hC hG (by omega) (fun Q hQ => ?_) (fun M1 hM Q hQ => ?_)
    · simp only [wpX3_quota, iI_lit, c_find_n hC hG hz c0, o_none, o_none2, c_refuse]
      exact hQ _ (RC.p (RC.r _)) gp_1
    · unfold wpX4_quota
      refine mo_1 hM hQ (fun M0 hM hQ => ?_)
      simp (disch := omega) only [iI_lit, iI_neg, iI_add, iI_sub, iI_mul, iI_lt, iI_le, iI_eq, iI_in, iI_clamp, iI_mx, iI_mn, iI_nI, Int.toNat_natCast, forall_eq, br_1, br_2, br_3, br_4, br_in, br_5, br_6, br_7, br_8, ex_c, br_nl, br_le, br_ne, gp_1, gp_2, gp_3, gf_1, gf_2, m_isS_n hM hG hz c0]
      exact m_refused hQ (RM.r _)
  obtain ⟨j, rfl⟩ : ∃ j : Nat, z = j := ⟨z.toNat, by omega⟩
  have hj : j < gk S := by omega
  have hk := hG.1
  have hT := hC.ct hj
  have hS := hG.si hj
  have hE := hG.er hj
  obtain ⟨x, hx⟩ : ∃ x, gT S j = x := ⟨_, rfl⟩
  rw [hx] at hT hS
  have hN := hS.1.1
  have hn := hS.1.2.1
  obtain ⟨t1, t2, t3, t4, t5, t6⟩ := hT
  by_cases c1 : 0 ≤ w ∧ w ≤ 2
  · by_cases c2 : 1 ≤ sh ∧ sh ≤ 100
    · by_cases c5 : 0 ≤ k ∧ k ≤ sh
      · by_cases c6 : tN x = 0
        · skip
          refine Good.ro (iI (-1)) 5 hC hG (by omega) (fun Q hQ => ?_) (fun M1 hM Q hQ => ?_)
          · simp only [wpX3_quota, c_find_y hC hG hj, o_some]
            simp (disch := omega) only [iI_lit, iI_neg, iI_add, iI_sub, iI_mul, iI_lt, iI_le, iI_eq, iI_in, iI_clamp, iI_mx, iI_mn, iI_nI, Int.toNat_natCast, forall_eq, br_1, br_2, br_3, br_4, br_in, br_5, br_6, br_7, br_8, ex_c, br_nl, br_le, br_ne, gp_1, gp_2, gp_3, gf_1, gf_2, c_pass, c_refuse, t1, t2, t3, t4, hC.2.2.1, c_isShare_y]
            exact hQ _ (RC.p (RC.r _)) gp_1
          · unfold wpX4_quota
            refine mo_1 hM hQ (fun M0 hM hQ => ?_)
            have hMT := hM.mt hj
            rw [hx] at hMT
            obtain ⟨u1, u2, u3, u4, u5, u6⟩ := hMT
            simp (disch := omega) only [iI_lit, iI_neg, iI_add, iI_sub, iI_mul, iI_lt, iI_le, iI_eq, iI_in, iI_clamp, iI_mx, iI_mn, iI_nI, Int.toNat_natCast, forall_eq, br_1, br_2, br_3, br_4, br_in, br_5, br_6, br_7, br_8, ex_c, br_nl, br_le, br_ne, gp_1, gp_2, gp_3, gf_1, gf_2, ix_0, ix_1, ix_2, ix_3, tn_1, tn_2, pp_1, m_isS_y hM hG hj, m_in_y, m_in_n, u1.1, u2, u3, u4, u5, hM.2.2.2.2.1, u2]
            exact m_refused hQ (RM.r _)
        · have hp := hS.1.pos (by omega)
          have q1 := qp_b (N := tN x) (by omega) c5 c2
          have f1 := qa_lt hS.1 (by omega) k sh
          have f2 := (t6.2 _ f1).1
          by_cases c3 : w = 0
          · skip
            refine Good.ro (iI (tv x (ans (tl x) (td x) (tn x) (qp (tN x) k sh)))) 0 hC hG (by omega) (fun Q hQ => ?_) (fun M1 hM Q hQ => ?_)
            · simp only [wpX3_quota, c_find_y hC hG hj, o_some]
              simp (disch := omega) only [iI_lit, iI_neg, iI_add, iI_sub, iI_mul, iI_lt, iI_le, iI_eq, iI_in, iI_clamp, iI_mx, iI_mn, iI_nI, Int.toNat_natCast, forall_eq, br_1, br_2, br_3, br_4, br_in, br_5, br_6, br_7, br_8, ex_c, br_nl, br_le, br_ne, gp_1, gp_2, gp_3, gf_1, gf_2, c_pass, c_refuse, t1, t2, t3, t4, hC.2.2.1, c_isShare_y, e_quotaPlace t1 hN, e_nearest0 t6 hS.1, f2]
              exact hQ _ (RC.p (RC.r _)) gp_1
            · unfold wpX4_quota
              refine mo_1 hM hQ (fun M0 hM hQ => ?_)
              have hMT := hM.mt hj
              rw [hx] at hMT
              obtain ⟨u1, u2, u3, u4, u5, u6⟩ := hMT
              simp (disch := omega) only [iI_lit, iI_neg, iI_add, iI_sub, iI_mul, iI_lt, iI_le, iI_eq, iI_in, iI_clamp, iI_mx, iI_mn, iI_nI, Int.toNat_natCast, forall_eq, br_1, br_2, br_3, br_4, br_in, br_5, br_6, br_7, br_8, ex_c, br_nl, br_le, br_ne, gp_1, gp_2, gp_3, gf_1, gf_2, ix_0, ix_1, ix_2, ix_3, tn_1, tn_2, pp_1, m_isS_y hM hG hj, m_in_y, m_in_n, u1.1, u2, u3, u4, u5, hM.2.2.2.2.1, m_quotaPlace (show j < 6 by omega) u2 hN, m_answers (show j < 6 by omega) u1 hS.1, (u1.2 _ f1).1]
              exact m_good hQ (RM.p (RM.r _) (by omega))
          · by_cases c4 : w = 1
            · skip
              refine Good.ro (iI (off (tl x) (td x) (qp (tN x) k sh) (ans (tl x) (td x) (tn x) (qp (tN x) k sh)))) 0 hC hG (by omega) (fun Q hQ => ?_) (fun M1 hM Q hQ => ?_)
              · simp only [wpX3_quota, c_find_y hC hG hj, o_some]
                simp (disch := omega) only [iI_lit, iI_neg, iI_add, iI_sub, iI_mul, iI_lt, iI_le, iI_eq, iI_in, iI_clamp, iI_mx, iI_mn, iI_nI, Int.toNat_natCast, forall_eq, br_1, br_2, br_3, br_4, br_in, br_5, br_6, br_7, br_8, ex_c, br_nl, br_le, br_ne, gp_1, gp_2, gp_3, gf_1, gf_2, c_pass, c_refuse, t1, t2, t3, t4, hC.2.2.1, c_isShare_y, e_quotaPlace t1 hN, e_nearest0 t6 hS.1, e_offBy t6 hS.1]
                exact hQ _ (RC.p (RC.r _)) gp_1
              · unfold wpX4_quota
                refine mo_1 hM hQ (fun M0 hM hQ => ?_)
                have hMT := hM.mt hj
                rw [hx] at hMT
                obtain ⟨u1, u2, u3, u4, u5, u6⟩ := hMT
                simp (disch := omega) only [iI_lit, iI_neg, iI_add, iI_sub, iI_mul, iI_lt, iI_le, iI_eq, iI_in, iI_clamp, iI_mx, iI_mn, iI_nI, Int.toNat_natCast, forall_eq, br_1, br_2, br_3, br_4, br_in, br_5, br_6, br_7, br_8, ex_c, br_nl, br_le, br_ne, gp_1, gp_2, gp_3, gf_1, gf_2, ix_0, ix_1, ix_2, ix_3, tn_1, tn_2, pp_1, m_isS_y hM hG hj, m_in_y, m_in_n, u1.1, u2, u3, u4, u5, hM.2.2.2.2.1, m_quotaPlace (show j < 6 by omega) u2 hN, m_answers (show j < 6 by omega) u1 hS.1]
                exact m_good hQ (RM.p (RM.r _) (by omega))
            · skip
              refine Good.ro (iI (qp (tN x) k sh)) 0 hC hG (by omega) (fun Q hQ => ?_) (fun M1 hM Q hQ => ?_)
              · simp only [wpX3_quota, c_find_y hC hG hj, o_some]
                simp (disch := omega) only [iI_lit, iI_neg, iI_add, iI_sub, iI_mul, iI_lt, iI_le, iI_eq, iI_in, iI_clamp, iI_mx, iI_mn, iI_nI, Int.toNat_natCast, forall_eq, br_1, br_2, br_3, br_4, br_in, br_5, br_6, br_7, br_8, ex_c, br_nl, br_le, br_ne, gp_1, gp_2, gp_3, gf_1, gf_2, c_pass, c_refuse, t1, t2, t3, t4, hC.2.2.1, c_isShare_y, e_quotaPlace t1 hN, e_nearest0 t6 hS.1]
                exact hQ _ (RC.p (RC.r _)) gp_1
              · unfold wpX4_quota
                refine mo_1 hM hQ (fun M0 hM hQ => ?_)
                have hMT := hM.mt hj
                rw [hx] at hMT
                obtain ⟨u1, u2, u3, u4, u5, u6⟩ := hMT
                simp (disch := omega) only [iI_lit, iI_neg, iI_add, iI_sub, iI_mul, iI_lt, iI_le, iI_eq, iI_in, iI_clamp, iI_mx, iI_mn, iI_nI, Int.toNat_natCast, forall_eq, br_1, br_2, br_3, br_4, br_in, br_5, br_6, br_7, br_8, ex_c, br_nl, br_le, br_ne, gp_1, gp_2, gp_3, gf_1, gf_2, ix_0, ix_1, ix_2, ix_3, tn_1, tn_2, pp_1, m_isS_y hM hG hj, m_in_y, m_in_n, u1.1, u2, u3, u4, u5, hM.2.2.2.2.1, m_quotaPlace (show j < 6 by omega) u2 hN, m_answers (show j < 6 by omega) u1 hS.1]
                exact m_good hQ (RM.p (RM.r _) (by omega))
      · by_cases c6 : k < 0
        · skip
          refine Good.ro (iI (-1)) 2 hC hG (by omega) (fun Q hQ => ?_) (fun M1 hM Q hQ => ?_)
          · simp only [wpX3_quota, c_find_y hC hG hj, o_some]
            simp (disch := omega) only [iI_lit, iI_neg, iI_add, iI_sub, iI_mul, iI_lt, iI_le, iI_eq, iI_in, iI_clamp, iI_mx, iI_mn, iI_nI, Int.toNat_natCast, forall_eq, br_1, br_2, br_3, br_4, br_in, br_5, br_6, br_7, br_8, ex_c, br_nl, br_le, br_ne, gp_1, gp_2, gp_3, gf_1, gf_2, c_pass, c_refuse, t1, t2, t3, t4, hC.2.2.1, c_isShare_y]
            exact hQ _ (RC.p (RC.r _)) gp_1
          · unfold wpX4_quota
            refine mo_1 hM hQ (fun M0 hM hQ => ?_)
            have hMT := hM.mt hj
            rw [hx] at hMT
            obtain ⟨u1, u2, u3, u4, u5, u6⟩ := hMT
            simp (disch := omega) only [iI_lit, iI_neg, iI_add, iI_sub, iI_mul, iI_lt, iI_le, iI_eq, iI_in, iI_clamp, iI_mx, iI_mn, iI_nI, Int.toNat_natCast, forall_eq, br_1, br_2, br_3, br_4, br_in, br_5, br_6, br_7, br_8, ex_c, br_nl, br_le, br_ne, gp_1, gp_2, gp_3, gf_1, gf_2, ix_0, ix_1, ix_2, ix_3, tn_1, tn_2, pp_1, m_isS_y hM hG hj, m_in_y, m_in_n, u1.1, u2, u3, u4, u5, hM.2.2.2.2.1, u2]
            exact m_refused hQ (RM.r _)
        · skip
          refine Good.ro (iI (-1)) 2 hC hG (by omega) (fun Q hQ => ?_) (fun M1 hM Q hQ => ?_)
          · simp only [wpX3_quota, c_find_y hC hG hj, o_some]
            simp (disch := omega) only [iI_lit, iI_neg, iI_add, iI_sub, iI_mul, iI_lt, iI_le, iI_eq, iI_in, iI_clamp, iI_mx, iI_mn, iI_nI, Int.toNat_natCast, forall_eq, br_1, br_2, br_3, br_4, br_in, br_5, br_6, br_7, br_8, ex_c, br_nl, br_le, br_ne, gp_1, gp_2, gp_3, gf_1, gf_2, c_pass, c_refuse, t1, t2, t3, t4, hC.2.2.1, c_isShare_y]
            exact hQ _ (RC.p (RC.r _)) gp_1
          · unfold wpX4_quota
            refine mo_1 hM hQ (fun M0 hM hQ => ?_)
            have hMT := hM.mt hj
            rw [hx] at hMT
            obtain ⟨u1, u2, u3, u4, u5, u6⟩ := hMT
            simp (disch := omega) only [iI_lit, iI_neg, iI_add, iI_sub, iI_mul, iI_lt, iI_le, iI_eq, iI_in, iI_clamp, iI_mx, iI_mn, iI_nI, Int.toNat_natCast, forall_eq, br_1, br_2, br_3, br_4, br_in, br_5, br_6, br_7, br_8, ex_c, br_nl, br_le, br_ne, gp_1, gp_2, gp_3, gf_1, gf_2, ix_0, ix_1, ix_2, ix_3, tn_1, tn_2, pp_1, m_isS_y hM hG hj, m_in_y, m_in_n, u1.1, u2, u3, u4, u5, hM.2.2.2.2.1, u2]
            exact m_refused hQ (RM.r _)
    · skip
      refine Good.ro (iI (-1)) 2 hC hG (by omega) (fun Q hQ => ?_) (fun M1 hM Q hQ => ?_)
      · simp only [wpX3_quota, c_find_y hC hG hj, o_some]
        simp (disch := omega) only [iI_lit, iI_neg, iI_add, iI_sub, iI_mul, iI_lt, iI_le, iI_eq, iI_in, iI_clamp, iI_mx, iI_mn, iI_nI, Int.toNat_natCast, forall_eq, br_1, br_2, br_3, br_4, br_in, br_5, br_6, br_7, br_8, ex_c, br_nl, br_le, br_ne, gp_1, gp_2, gp_3, gf_1, gf_2, c_pass, c_refuse, t1, t2, t3, t4, hC.2.2.1, c_isShare_n]
        exact hQ _ (RC.p (RC.r _)) gp_1
      · unfold wpX4_quota
        refine mo_1 hM hQ (fun M0 hM hQ => ?_)
        have hMT := hM.mt hj
        rw [hx] at hMT
        obtain ⟨u1, u2, u3, u4, u5, u6⟩ := hMT
        simp (disch := omega) only [iI_lit, iI_neg, iI_add, iI_sub, iI_mul, iI_lt, iI_le, iI_eq, iI_in, iI_clamp, iI_mx, iI_mn, iI_nI, Int.toNat_natCast, forall_eq, br_1, br_2, br_3, br_4, br_in, br_5, br_6, br_7, br_8, ex_c, br_nl, br_le, br_ne, gp_1, gp_2, gp_3, gf_1, gf_2, ix_0, ix_1, ix_2, ix_3, tn_1, tn_2, pp_1, m_isS_y hM hG hj, m_in_y, m_in_n, u1.1, u2, u3, u4, u5, hM.2.2.2.2.1, u2]
        exact m_refused hQ (RM.r _)
  · by_cases c2 : w < 0
    · skip
      refine Good.ro (iI (-1)) 1 hC hG (by omega) (fun Q hQ => ?_) (fun M1 hM Q hQ => ?_)
      · simp only [wpX3_quota, c_find_y hC hG hj, o_some]
        simp (disch := omega) only [iI_lit, iI_neg, iI_add, iI_sub, iI_mul, iI_lt, iI_le, iI_eq, iI_in, iI_clamp, iI_mx, iI_mn, iI_nI, Int.toNat_natCast, forall_eq, br_1, br_2, br_3, br_4, br_in, br_5, br_6, br_7, br_8, ex_c, br_nl, br_le, br_ne, gp_1, gp_2, gp_3, gf_1, gf_2, c_pass, c_refuse, t1, t2, t3, t4, hC.2.2.1, t1]
        exact hQ _ (RC.p (RC.r _)) gp_1
      · unfold wpX4_quota
        refine mo_1 hM hQ (fun M0 hM hQ => ?_)
        have hMT := hM.mt hj
        rw [hx] at hMT
        obtain ⟨u1, u2, u3, u4, u5, u6⟩ := hMT
        simp (disch := omega) only [iI_lit, iI_neg, iI_add, iI_sub, iI_mul, iI_lt, iI_le, iI_eq, iI_in, iI_clamp, iI_mx, iI_mn, iI_nI, Int.toNat_natCast, forall_eq, br_1, br_2, br_3, br_4, br_in, br_5, br_6, br_7, br_8, ex_c, br_nl, br_le, br_ne, gp_1, gp_2, gp_3, gf_1, gf_2, ix_0, ix_1, ix_2, ix_3, tn_1, tn_2, pp_1, m_isS_y hM hG hj, m_in_y, m_in_n, u1.1, u2, u3, u4, u5, hM.2.2.2.2.1, u2]
        exact m_refused hQ (RM.r _)
    · skip
      refine Good.ro (iI (-1)) 1 hC hG (by omega) (fun Q hQ => ?_) (fun M1 hM Q hQ => ?_)
      · simp only [wpX3_quota, c_find_y hC hG hj, o_some]
        simp (disch := omega) only [iI_lit, iI_neg, iI_add, iI_sub, iI_mul, iI_lt, iI_le, iI_eq, iI_in, iI_clamp, iI_mx, iI_mn, iI_nI, Int.toNat_natCast, forall_eq, br_1, br_2, br_3, br_4, br_in, br_5, br_6, br_7, br_8, ex_c, br_nl, br_le, br_ne, gp_1, gp_2, gp_3, gf_1, gf_2, c_pass, c_refuse, t1, t2, t3, t4, hC.2.2.1, t1]
        exact hQ _ (RC.p (RC.r _)) gp_1
      · unfold wpX4_quota
        refine mo_1 hM hQ (fun M0 hM hQ => ?_)
        have hMT := hM.mt hj
        rw [hx] at hMT
        obtain ⟨u1, u2, u3, u4, u5, u6⟩ := hMT
        simp (disch := omega) only [iI_lit, iI_neg, iI_add, iI_sub, iI_mul, iI_lt, iI_le, iI_eq, iI_in, iI_clamp, iI_mx, iI_mn, iI_nI, Int.toNat_natCast, forall_eq, br_1, br_2, br_3, br_4, br_in, br_5, br_6, br_7, br_8, ex_c, br_nl, br_le, br_ne, gp_1, gp_2, gp_3, gf_1, gf_2, ix_0, ix_1, ix_2, ix_3, tn_1, tn_2, pp_1, m_isS_y hM hG hj, m_in_y, m_in_n, u1.1, u2, u3, u4, u5, hM.2.2.2.2.1, u2]
        exact m_refused hQ (RM.r _)
theorem op_bar {mk : Nat} {S : Gs} {M : Mem} (hC : CS mk S M) (hG : GI S) (a b e y : Int32) : Good mk S (fun Q => wpX3_bar mk M a b e y Q) (fun M1 Q => wpX4_bar M1 a b e y Q) M := by
  obtain ⟨z, rfl, hz⟩ := iI_of a
  obtain ⟨k, rfl, hk⟩ := iI_of b
  obtain ⟨sh, rfl, hsh⟩ := iI_of e
  by_cases c0 : ¬ (0 ≤ z ∧ z < gk S)
  · refine Good.ro (iI (-1)) 1 hC hG (by omega) (fun Q hQ => ?_) (fun M1 hM Q hQ => ?_)
    · simp only [wpX3_bar, iI_lit, c_find_n hC hG hz c0, o_none, o_none2, c_refuse]
      exact hQ _ (RC.p (RC.r _)) gp_1
    · unfold wpX4_bar
      refine mo_1 hM hQ (fun M0 hM hQ => ?_)
      simp (disch := omega) only [iI_lit, iI_neg, iI_add, iI_sub, iI_mul, iI_lt, iI_le, iI_eq, iI_in, iI_clamp, iI_mx, iI_mn, iI_nI, Int.toNat_natCast, forall_eq, br_1, br_2, br_3, br_4, br_in, br_5, br_6, br_7, br_8, ex_c, br_nl, br_le, br_ne, gp_1, gp_2, gp_3, gf_1, gf_2, m_isS_n hM hG hz c0]
      exact m_refused hQ (RM.r _)
  obtain ⟨j, rfl⟩ : ∃ j : Nat, z = j := ⟨z.toNat, by omega⟩
  have hj : j < gk S := by omega
  have hk := hG.1
  have hT := hC.ct hj
  have hS := hG.si hj
  have hE := hG.er hj
  obtain ⟨x, hx⟩ : ∃ x, gT S j = x := ⟨_, rfl⟩
  rw [hx] at hT hS
  have hN := hS.1.1
  have hn := hS.1.2.1
  obtain ⟨t1, t2, t3, t4, t5, t6⟩ := hT
  by_cases c2 : 1 ≤ sh ∧ sh ≤ 100
  · by_cases c5 : 0 ≤ k ∧ k < sh
    · by_cases c6 : tN x = 0
      · skip
        refine Good.ro (iI (-1)) 5 hC hG (by omega) (fun Q hQ => ?_) (fun M1 hM Q hQ => ?_)
        · simp only [wpX3_bar, c_find_y hC hG hj, o_some]
          simp (disch := omega) only [iI_lit, iI_neg, iI_add, iI_sub, iI_mul, iI_lt, iI_le, iI_eq, iI_in, iI_clamp, iI_mx, iI_mn, iI_nI, Int.toNat_natCast, forall_eq, br_1, br_2, br_3, br_4, br_in, br_5, br_6, br_7, br_8, ex_c, br_nl, br_le, br_ne, gp_1, gp_2, gp_3, gf_1, gf_2, c_pass, c_refuse, t1, t2, t3, t4, hC.2.2.1, c_isShare_y]
          exact hQ _ (RC.p (RC.r _)) gp_1
        · unfold wpX4_bar
          refine mo_1 hM hQ (fun M0 hM hQ => ?_)
          have hMT := hM.mt hj
          rw [hx] at hMT
          obtain ⟨u1, u2, u3, u4, u5, u6⟩ := hMT
          simp (disch := omega) only [iI_lit, iI_neg, iI_add, iI_sub, iI_mul, iI_lt, iI_le, iI_eq, iI_in, iI_clamp, iI_mx, iI_mn, iI_nI, Int.toNat_natCast, forall_eq, br_1, br_2, br_3, br_4, br_in, br_5, br_6, br_7, br_8, ex_c, br_nl, br_le, br_ne, gp_1, gp_2, gp_3, gf_1, gf_2, ix_0, ix_1, ix_2, ix_3, tn_1, tn_2, pp_1, m_isS_y hM hG hj, m_in_y, m_in_n, u1.1, u2, u3, u4, u5, hM.2.2.2.2.1, u2]
          exact m_refused hQ (RM.r _)
      · obtain ⟨k, rfl⟩ : ∃ k' : Nat, k = k' := ⟨k.toNat, by omega⟩
        have q1 := qp_b (N := tN x) (k := k) (sh := sh) (by omega) (by omega) c2
        have q2 := qp_b (N := tN x) (k := (k : Int) + 1) (sh := sh) (by omega) (by omega) c2
        have q3 := qp_m (N := tN x) (k := k) (k' := (k : Int) + 1) (sh := sh) (by omega) (by omega) (by omega)
        have f1 := qa_lt hS.1 (by omega) k sh
        have f2 := (t6.2 _ f1).1
        have f3 := qa_lt hS.1 (by omega) ((k : Int) + 1) sh
        have f4 := (t6.2 _ f3).1
        have v1 := hS.1.2.2.2.1 _ f1
        have v2 := hS.1.2.2.2.1 _ f3
        have hnr := fun (Q : Qi) => e_nearest (Q := Q) t6 hS.1 (r := qp (tN x) ((k : Int) + 1) sh) (lo := ans (tl x) (td x) (tn x) (qp (tN x) k sh)) (by omega) (ans_mono hS.1 (hS.1.pos (by omega)) q3)
        have ek : brk (tv x) (tl x) (td x) (tn x) (tN x) sh (decide (¬ y = iI 0)) (k + 1) = cab (tv x) (tl x) (td x) (tn x) (tv x (ans (tl x) (td x) (tn x) (qp (tN x) k sh))) (tv x (ans (tl x) (td x) (tn x) (qp (tN x) ((k : Int) + 1) sh))) (decide (¬ y = iI 0)) := by
          unfold brk qv
          rw [show ((k + 1 : Nat) : Int) - 1 = k by omega, show ((k + 1 : Nat) : Int) = (k : Int) + 1 by omega]
        refine Good.ro (iI (brk (tv x) (tl x) (td x) (tn x) (tN x) sh (decide (¬ y = iI 0)) (k + 1))) 0 hC hG (by omega) (fun Q hQ => ?_) (fun M1 hM Q hQ => ?_)
        · rw [ek] at hQ
          simp only [wpX3_bar, c_find_y hC hG hj, o_some, iI_lit]
          simp (disch := omega) only [iI_lit, iI_neg, iI_add, iI_sub, iI_mul, iI_lt, iI_le, iI_eq, iI_in, iI_clamp, iI_mx, iI_mn, iI_nI, Int.toNat_natCast, forall_eq, br_1, br_2, br_3, br_4, br_in, br_5, br_6, br_7, br_8, ex_c, br_nl, br_le, br_ne, gp_1, gp_2, gp_3, gf_1, gf_2, c_pass, c_refuse, t1, c_isShare_y, e_quotaPlace t1 hN, e_nearest0 t6 hS.1, hnr, f2, f4, e_countAbove t6 hS.1]
          exact hQ _ (RC.p (RC.r _)) gp_1
        · unfold wpX4_bar
          refine mo_1 hM hQ (fun M0 hM hQ => ?_)
          have hMT := hM.mt hj
          rw [hx] at hMT
          obtain ⟨u1, u2, u3, u4, u5, u6⟩ := hMT
          simp (disch := omega) only [iI_lit, iI_neg, iI_add, iI_sub, iI_mul, iI_lt, iI_le, iI_eq, iI_in, iI_clamp, iI_mx, iI_mn, iI_nI, Int.toNat_natCast, forall_eq, br_1, br_2, br_3, br_4, br_in, br_5, br_6, br_7, br_8, ex_c, br_nl, br_le, br_ne, gp_1, gp_2, gp_3, gf_1, gf_2, ix_0, ix_1, ix_2, ix_3, tn_1, tn_2, pp_1, m_isS_y hM hG hj, m_in_y, m_in_n, u1.1, u2, u3, u4, u5, hM.2.2.2.2.1, u2]
          exact m_barOf y (show j < 6 by omega) u1 u2 hS.1 (by omega) (by omega) c2 (fun y' => m_good hQ (RM.p (RM.r _) (by omega)))
    · by_cases c6 : k < 0
      · skip
        refine Good.ro (iI (-1)) 2 hC hG (by omega) (fun Q hQ => ?_) (fun M1 hM Q hQ => ?_)
        · simp only [wpX3_bar, c_find_y hC hG hj, o_some]
          simp (disch := omega) only [iI_lit, iI_neg, iI_add, iI_sub, iI_mul, iI_lt, iI_le, iI_eq, iI_in, iI_clamp, iI_mx, iI_mn, iI_nI, Int.toNat_natCast, forall_eq, br_1, br_2, br_3, br_4, br_in, br_5, br_6, br_7, br_8, ex_c, br_nl, br_le, br_ne, gp_1, gp_2, gp_3, gf_1, gf_2, c_pass, c_refuse, t1, t2, t3, t4, hC.2.2.1, c_isShare_y]
          exact hQ _ (RC.p (RC.r _)) gp_1
        · unfold wpX4_bar
          refine mo_1 hM hQ (fun M0 hM hQ => ?_)
          have hMT := hM.mt hj
          rw [hx] at hMT
          obtain ⟨u1, u2, u3, u4, u5, u6⟩ := hMT
          simp (disch := omega) only [iI_lit, iI_neg, iI_add, iI_sub, iI_mul, iI_lt, iI_le, iI_eq, iI_in, iI_clamp, iI_mx, iI_mn, iI_nI, Int.toNat_natCast, forall_eq, br_1, br_2, br_3, br_4, br_in, br_5, br_6, br_7, br_8, ex_c, br_nl, br_le, br_ne, gp_1, gp_2, gp_3, gf_1, gf_2, ix_0, ix_1, ix_2, ix_3, tn_1, tn_2, pp_1, m_isS_y hM hG hj, m_in_y, m_in_n, u1.1, u2, u3, u4, u5, hM.2.2.2.2.1, u2]
          exact m_refused hQ (RM.r _)
      · skip
        refine Good.ro (iI (-1)) 2 hC hG (by omega) (fun Q hQ => ?_) (fun M1 hM Q hQ => ?_)
        · simp only [wpX3_bar, c_find_y hC hG hj, o_some]
          simp (disch := omega) only [iI_lit, iI_neg, iI_add, iI_sub, iI_mul, iI_lt, iI_le, iI_eq, iI_in, iI_clamp, iI_mx, iI_mn, iI_nI, Int.toNat_natCast, forall_eq, br_1, br_2, br_3, br_4, br_in, br_5, br_6, br_7, br_8, ex_c, br_nl, br_le, br_ne, gp_1, gp_2, gp_3, gf_1, gf_2, c_pass, c_refuse, t1, t2, t3, t4, hC.2.2.1, c_isShare_y]
          exact hQ _ (RC.p (RC.r _)) gp_1
        · unfold wpX4_bar
          refine mo_1 hM hQ (fun M0 hM hQ => ?_)
          have hMT := hM.mt hj
          rw [hx] at hMT
          obtain ⟨u1, u2, u3, u4, u5, u6⟩ := hMT
          simp (disch := omega) only [iI_lit, iI_neg, iI_add, iI_sub, iI_mul, iI_lt, iI_le, iI_eq, iI_in, iI_clamp, iI_mx, iI_mn, iI_nI, Int.toNat_natCast, forall_eq, br_1, br_2, br_3, br_4, br_in, br_5, br_6, br_7, br_8, ex_c, br_nl, br_le, br_ne, gp_1, gp_2, gp_3, gf_1, gf_2, ix_0, ix_1, ix_2, ix_3, tn_1, tn_2, pp_1, m_isS_y hM hG hj, m_in_y, m_in_n, u1.1, u2, u3, u4, u5, hM.2.2.2.2.1, u2]
          exact m_refused hQ (RM.r _)
  · skip
    refine Good.ro (iI (-1)) 2 hC hG (by omega) (fun Q hQ => ?_) (fun M1 hM Q hQ => ?_)
    · simp only [wpX3_bar, c_find_y hC hG hj, o_some]
      simp (disch := omega) only [iI_lit, iI_neg, iI_add, iI_sub, iI_mul, iI_lt, iI_le, iI_eq, iI_in, iI_clamp, iI_mx, iI_mn, iI_nI, Int.toNat_natCast, forall_eq, br_1, br_2, br_3, br_4, br_in, br_5, br_6, br_7, br_8, ex_c, br_nl, br_le, br_ne, gp_1, gp_2, gp_3, gf_1, gf_2, c_pass, c_refuse, t1, t2, t3, t4, hC.2.2.1, c_isShare_n]
      exact hQ _ (RC.p (RC.r _)) gp_1
    · unfold wpX4_bar
      refine mo_1 hM hQ (fun M0 hM hQ => ?_)
      have hMT := hM.mt hj
      rw [hx] at hMT
      obtain ⟨u1, u2, u3, u4, u5, u6⟩ := hMT
      simp (disch := omega) only [iI_lit, iI_neg, iI_add, iI_sub, iI_mul, iI_lt, iI_le, iI_eq, iI_in, iI_clamp, iI_mx, iI_mn, iI_nI, Int.toNat_natCast, forall_eq, br_1, br_2, br_3, br_4, br_in, br_5, br_6, br_7, br_8, ex_c, br_nl, br_le, br_ne, gp_1, gp_2, gp_3, gf_1, gf_2, ix_0, ix_1, ix_2, ix_3, tn_1, tn_2, pp_1, m_isS_y hM hG hj, m_in_y, m_in_n, u1.1, u2, u3, u4, u5, hM.2.2.2.2.1, u2]
      exact m_refused hQ (RM.r _)
theorem l_muneven {M : Mem} {Q : Qi} {b n N : Nat} {v l d : Nat → Int} {sh : Nat} (hs : 1 ≤ sh ∧ sh ≤ 100) (hb : b < 6) (h : MR M b n v l d) (hN : gI M 224 b = iI N) (hR : RI N n v l d) (h0 : 0 < N) (hQ : ∀ y, wpX4_good (pI M 200 31 y) (iI (fmx (brk v l d n N sh true) 0 sh - fmn (brk v l d n N sh false) 1000 sh)) Q) : ∀ f i y m, sh - i = f → f < m → i ≤ sh → wX4_uneven_60 Q (iI b) (iI sh) m (pI M 200 31 y) (iI (fmx (brk v l d n N sh true) 0 i)) (iI (fmn (brk v l d n N sh false) 1000 i)) (iI (i : Nat)) := by
  have hN' := hR.1
  have hn := hR.2.1
  intro f
  induction f with
  | zero =>
    intro i y m hf hm hi
    obtain ⟨m, rfl⟩ : ∃ m', m = m' + 1 := ⟨m - 1, by omega⟩
    have e : i = sh := by omega
    subst e
    simp only [wX4_uneven_60]
    simp (disch := omega) only [iI_lit, iI_neg, iI_add, iI_sub, iI_mul, iI_lt, iI_le, iI_eq, iI_in, iI_clamp, iI_mx, iI_mn, iI_nI, Int.toNat_natCast, forall_eq, br_1, br_2, br_3, br_4, br_in, br_5, br_6, br_7, br_8, ex_c, br_nl, br_le, br_ne, gp_1, gp_2, gp_3, gf_1, gf_2, ix_0, ix_1, ix_2, ix_3, tn_1, tn_2, pp_1, hN]
    exact hQ y
  | succ f ih =>
    intro i y m hf hm hi
    obtain ⟨m, rfl⟩ : ∃ m', m = m' + 1 := ⟨m - 1, by omega⟩
    have hg : ∀ y, MR (pI M 200 31 y) b n v l d := fun y => h.p
    have hg2 : ∀ y, gI (pI M 200 31 y) 224 b = iI N := fun y => by simp (disch := omega) only [iI_lit, iI_neg, iI_add, iI_sub, iI_mul, iI_lt, iI_le, iI_eq, iI_in, iI_clamp, iI_mx, iI_mn, iI_nI, Int.toNat_natCast, forall_eq, br_1, br_2, br_3, br_4, br_in, br_5, br_6, br_7, br_8, ex_c, br_nl, br_le, br_ne, gp_1, gp_2, gp_3, gf_1, gf_2]; exact hN
    have f1 := fmx_b (f := brk v l d n N sh true) (z := 0) (B := 1000) (by omega) i (fun j a b => (cab_b hR _ _ _).2)
    have f2 := fmn_b (f := brk v l d n N sh false) (z := 1000) (B := -1000) (by omega) i (fun j a b => (cab_b hR _ _ _).1)
    have c1 : -1000 ≤ brk v l d n N sh true (i + 1) ∧ brk v l d n N sh true (i + 1) ≤ 1000 := cab_b hR _ _ _
    have c2 : -1000 ≤ brk v l d n N sh false (i + 1) ∧ brk v l d n N sh false (i + 1) ≤ 1000 := cab_b hR _ _ _
    have this := fun y => ih (i + 1) y m (by omega) (by omega) (by omega)
    rw [fmx, fmn, mx, mn] at this
    simp only [wX4_uneven_60]
    simp (disch := omega) only [iI_lit, iI_neg, iI_add, iI_sub, iI_mul, iI_lt, iI_le, iI_eq, iI_in, iI_clamp, iI_mx, iI_mn, iI_nI, Int.toNat_natCast, forall_eq, br_1, br_2, br_3, br_4, br_in, br_5, br_6, br_7, br_8, ex_c, br_nl, br_le, br_ne, gp_1, gp_2, gp_3, gf_1, gf_2, ix_0, ix_1, ix_2, ix_3, tn_1, tn_2, pp_1]
    have e1 : ¬ iI 1 = iI 0 := by
      rw [iI_eq (by omega) (by omega)]
      omega
    refine m_barOf (iI 1) hb (hg _) (hg2 _) hR h0 (by omega) (by omega) (fun y1 => ?_)
    rw [pp_1]
    refine m_barOf (iI 0) hb (hg _) (hg2 _) hR h0 (by omega) (by omega) (fun y2 => ?_)
    rw [pp_1, decide_eq_true e1, show decide (¬ iI 0 = iI 0) = false by simp]
    by_cases d1 : fmx (brk v l d n N sh true) 0 i < brk v l d n N sh true (i + 1)
    · by_cases d2 : brk v l d n N sh false (i + 1) < fmn (brk v l d n N sh false) 1000 i
      · rw [if_pos d1, if_pos d2] at this
        simp (disch := omega) only [iI_lit, iI_neg, iI_add, iI_sub, iI_mul, iI_lt, iI_le, iI_eq, iI_in, iI_clamp, iI_mx, iI_mn, iI_nI, Int.toNat_natCast, forall_eq, br_1, br_2, br_3, br_4, br_in, br_5, br_6, br_7, br_8, ex_c, br_nl, br_le, br_ne, gp_1, gp_2, gp_3, gf_1, gf_2]
        simpa using this _
      · rw [if_pos d1, if_neg d2] at this
        simp (disch := omega) only [iI_lit, iI_neg, iI_add, iI_sub, iI_mul, iI_lt, iI_le, iI_eq, iI_in, iI_clamp, iI_mx, iI_mn, iI_nI, Int.toNat_natCast, forall_eq, br_1, br_2, br_3, br_4, br_in, br_5, br_6, br_7, br_8, ex_c, br_nl, br_le, br_ne, gp_1, gp_2, gp_3, gf_1, gf_2]
        simpa using this _
    · by_cases d2 : brk v l d n N sh false (i + 1) < fmn (brk v l d n N sh false) 1000 i
      · rw [if_neg d1, if_pos d2] at this
        simp (disch := omega) only [iI_lit, iI_neg, iI_add, iI_sub, iI_mul, iI_lt, iI_le, iI_eq, iI_in, iI_clamp, iI_mx, iI_mn, iI_nI, Int.toNat_natCast, forall_eq, br_1, br_2, br_3, br_4, br_in, br_5, br_6, br_7, br_8, ex_c, br_nl, br_le, br_ne, gp_1, gp_2, gp_3, gf_1, gf_2]
        simpa using this _
      · rw [if_neg d1, if_neg d2] at this
        simp (disch := omega) only [iI_lit, iI_neg, iI_add, iI_sub, iI_mul, iI_lt, iI_le, iI_eq, iI_in, iI_clamp, iI_mx, iI_mn, iI_nI, Int.toNat_natCast, forall_eq, br_1, br_2, br_3, br_4, br_in, br_5, br_6, br_7, br_8, ex_c, br_nl, br_le, br_ne, gp_1, gp_2, gp_3, gf_1, gf_2]
        simpa using this _
theorem op_uneven {mk : Nat} {S : Gs} {M : Mem} (hC : CS mk S M) (hG : GI S) (a b : Int32) : Good mk S (fun Q => wpX3_uneven mk M a b Q) (fun M1 Q => wpX4_uneven M1 a b Q) M := by
  obtain ⟨z, rfl, hz⟩ := iI_of a
  obtain ⟨sh, rfl, hsh⟩ := iI_of b
  by_cases c0 : ¬ (0 ≤ z ∧ z < gk S)
  · refine Good.ro (iI (-1)) 1 hC hG (by omega) (fun Q hQ => ?_) (fun M1 hM Q hQ => ?_)
    · simp only [wpX3_uneven, iI_lit, c_find_n hC hG hz c0, o_none, o_none2, c_refuse]
      exact hQ _ (RC.p (RC.r _)) gp_1
    · unfold wpX4_uneven
      refine mo_1 hM hQ (fun M0 hM hQ => ?_)
      simp (disch := omega) only [iI_lit, iI_neg, iI_add, iI_sub, iI_mul, iI_lt, iI_le, iI_eq, iI_in, iI_clamp, iI_mx, iI_mn, iI_nI, Int.toNat_natCast, forall_eq, br_1, br_2, br_3, br_4, br_in, br_5, br_6, br_7, br_8, ex_c, br_nl, br_le, br_ne, gp_1, gp_2, gp_3, gf_1, gf_2, m_isS_n hM hG hz c0]
      exact m_refused hQ (RM.r _)
  obtain ⟨j, rfl⟩ : ∃ j : Nat, z = j := ⟨z.toNat, by omega⟩
  have hj : j < gk S := by omega
  have hk := hG.1
  have hT := hC.ct hj
  have hS := hG.si hj
  have hE := hG.er hj
  obtain ⟨x, hx⟩ : ∃ x, gT S j = x := ⟨_, rfl⟩
  rw [hx] at hT hS
  have hN := hS.1.1
  have hn := hS.1.2.1
  obtain ⟨t1, t2, t3, t4, t5, t6⟩ := hT
  by_cases c2 : 1 ≤ sh ∧ sh ≤ 100
  · by_cases c6 : tN x = 0
    · skip
      refine Good.ro (iI (-1)) 5 hC hG (by omega) (fun Q hQ => ?_) (fun M1 hM Q hQ => ?_)
      · simp only [wpX3_uneven, c_find_y hC hG hj, o_some]
        simp (disch := omega) only [iI_lit, iI_neg, iI_add, iI_sub, iI_mul, iI_lt, iI_le, iI_eq, iI_in, iI_clamp, iI_mx, iI_mn, iI_nI, Int.toNat_natCast, forall_eq, br_1, br_2, br_3, br_4, br_in, br_5, br_6, br_7, br_8, ex_c, br_nl, br_le, br_ne, gp_1, gp_2, gp_3, gf_1, gf_2, c_pass, c_refuse, t1, t2, t3, t4, hC.2.2.1, c_isShare_y]
        exact hQ _ (RC.p (RC.r _)) gp_1
      · unfold wpX4_uneven
        refine mo_1 hM hQ (fun M0 hM hQ => ?_)
        have hMT := hM.mt hj
        rw [hx] at hMT
        obtain ⟨u1, u2, u3, u4, u5, u6⟩ := hMT
        simp (disch := omega) only [iI_lit, iI_neg, iI_add, iI_sub, iI_mul, iI_lt, iI_le, iI_eq, iI_in, iI_clamp, iI_mx, iI_mn, iI_nI, Int.toNat_natCast, forall_eq, br_1, br_2, br_3, br_4, br_in, br_5, br_6, br_7, br_8, ex_c, br_nl, br_le, br_ne, gp_1, gp_2, gp_3, gf_1, gf_2, ix_0, ix_1, ix_2, ix_3, tn_1, tn_2, pp_1, m_isS_y hM hG hj, m_in_y, m_in_n, u1.1, u2, u3, u4, u5, hM.2.2.2.2.1, u2]
        exact m_refused hQ (RM.r _)
    · obtain ⟨sh, rfl⟩ : ∃ k' : Nat, sh = k' := ⟨sh.toNat, by omega⟩
      have hu := fun Q' : Qi => e_unevenness (Q := Q') t1 t6 hS.1 (by omega) (sh := sh) (by omega)
      refine Good.ro (iI (fmx (brk (tv x) (tl x) (td x) (tn x) (tN x) sh true) 0 sh - fmn (brk (tv x) (tl x) (td x) (tn x) (tN x) sh false) 1000 sh)) 0 hC hG (by omega) (fun Q hQ => ?_) (fun M1 hM Q hQ => ?_)
      · simp only [wpX3_uneven, c_find_y hC hG hj, o_some]
        simp (disch := omega) only [iI_lit, iI_neg, iI_add, iI_sub, iI_mul, iI_lt, iI_le, iI_eq, iI_in, iI_clamp, iI_mx, iI_mn, iI_nI, Int.toNat_natCast, forall_eq, br_1, br_2, br_3, br_4, br_in, br_5, br_6, br_7, br_8, ex_c, br_nl, br_le, br_ne, gp_1, gp_2, gp_3, gf_1, gf_2, c_pass, c_refuse, t1, t2, t3, t4, hC.2.2.1, c_isShare_y, hu]
        exact hQ _ (RC.p (RC.r _)) gp_1
      · unfold wpX4_uneven
        refine mo_1 hM hQ (fun M0 hM hQ => ?_)
        have hMT := hM.mt hj
        rw [hx] at hMT
        obtain ⟨u1, u2, u3, u4, u5, u6⟩ := hMT
        simp (disch := omega) only [iI_lit, iI_neg, iI_add, iI_sub, iI_mul, iI_lt, iI_le, iI_eq, iI_in, iI_clamp, iI_mx, iI_mn, iI_nI, Int.toNat_natCast, forall_eq, br_1, br_2, br_3, br_4, br_in, br_5, br_6, br_7, br_8, ex_c, br_nl, br_le, br_ne, gp_1, gp_2, gp_3, gf_1, gf_2, ix_0, ix_1, ix_2, ix_3, tn_1, tn_2, pp_1, m_isS_y hM hG hj, m_in_y, m_in_n, u1.1, u2, u3, u4, u5, hM.2.2.2.2.1, u2]
        have := l_muneven (M := M0) (b := j) (Q := Q) (sh := sh) (by omega) (show j < 6 by omega) u1 u2 hS.1 (by omega) (fun y => m_good hQ (RM.p (RM.r _) (by omega))) sh 0 (gI M0 200 31) (sh + 1) rfl (by omega) (by omega)
        rw [pp_2] at this
        exact ⟨sh + 1, by simpa [fmx, fmn] using this⟩
  · skip
    refine Good.ro (iI (-1)) 2 hC hG (by omega) (fun Q hQ => ?_) (fun M1 hM Q hQ => ?_)
    · simp only [wpX3_uneven, c_find_y hC hG hj, o_some]
      simp (disch := omega) only [iI_lit, iI_neg, iI_add, iI_sub, iI_mul, iI_lt, iI_le, iI_eq, iI_in, iI_clamp, iI_mx, iI_mn, iI_nI, Int.toNat_natCast, forall_eq, br_1, br_2, br_3, br_4, br_in, br_5, br_6, br_7, br_8, ex_c, br_nl, br_le, br_ne, gp_1, gp_2, gp_3, gf_1, gf_2, c_pass, c_refuse, t1, t2, t3, t4, hC.2.2.1, c_isShare_n]
      exact hQ _ (RC.p (RC.r _)) gp_1
    · unfold wpX4_uneven
      refine mo_1 hM hQ (fun M0 hM hQ => ?_)
      have hMT := hM.mt hj
      rw [hx] at hMT
      obtain ⟨u1, u2, u3, u4, u5, u6⟩ := hMT
      simp (disch := omega) only [iI_lit, iI_neg, iI_add, iI_sub, iI_mul, iI_lt, iI_le, iI_eq, iI_in, iI_clamp, iI_mx, iI_mn, iI_nI, Int.toNat_natCast, forall_eq, br_1, br_2, br_3, br_4, br_in, br_5, br_6, br_7, br_8, ex_c, br_nl, br_le, br_ne, gp_1, gp_2, gp_3, gf_1, gf_2, ix_0, ix_1, ix_2, ix_3, tn_1, tn_2, pp_1, m_isS_y hM hG hj, m_in_y, m_in_n, u1.1, u2, u3, u4, u5, hM.2.2.2.2.1, u2]
      exact m_refused hQ (RM.r _)
theorem l_mheavy {M : Mem} {Q : Qi} {b n N : Nat} {v l d : Nat → Int} {sh : Int} (hs : 1 ≤ sh ∧ sh ≤ 100) (hb : b < 6) (h : MR M b n v l d) (hN : gI M 224 b = iI N) (hR : RI N n v l d) : ∀ k i q, n - i = k → i ≤ n → 0 ≤ q → q < 2147483648 → wpX4_good M (iI (hvy (hvP v l d n N sh) v k i q)) Q → ∃ m, wX4_heavy_45 Q (iI b) (iI sh) m M (iI q) (iI (i : Nat)) := by
  have hn : n ≤ 1000 := Nat.le_trans hR.2.1 hR.1
  have hN' := hR.1
  intro k
  induction k with
  | zero =>
    intro i q hk hi hq0 hq hQ
    rw [ex_s rfl]
    simp only [wX4_heavy_45]
    simp (disch := omega) only [iI_lit, iI_neg, iI_add, iI_sub, iI_mul, iI_lt, iI_le, iI_eq, iI_in, iI_clamp, iI_mx, iI_mn, iI_nI, Int.toNat_natCast, forall_eq, br_1, br_2, br_3, br_4, br_in, br_5, br_6, br_7, br_8, ex_c, br_nl, br_le, br_ne, gp_1, gp_2, gp_3, gf_1, gf_2, ix_0, ix_1, ix_2, ix_3, tn_1, tn_2, pp_1, h.1]
    exact hQ
  | succ k ih =>
    intro i q hk hi hq0 hq hQ
    have h3 := h.2 i (by omega)
    have h4 := hR.2.2.2.1 i (by omega)
    have s1 := sur_b hR (v i)
    have s2 := mst_b hR (v i - 1)
    have b1 : -1000 ≤ sur v l n (v i) - mst v l d n (v i - 1) ∧ sur v l n (v i) - mst v l d n (v i - 1) ≤ 1000 := by omega
    have b2 : -1000 * sh ≤ (sur v l n (v i) - mst v l d n (v i - 1)) * sh := Int.mul_le_mul_of_nonneg_right b1.1 (by omega)
    have b3 : (sur v l n (v i) - mst v l d n (v i - 1)) * sh ≤ 1000 * sh := Int.mul_le_mul_of_nonneg_right b1.2 (by omega)
    have hNp : 1 ≤ N := by have := hR.2.1; omega
    have key : cab v l d n (v i - 1) (v i) false * sh < N ↔ (sur v l n (v i) - mst v l d n (v i - 1)) * sh < N := by
      unfold cab mx
      rw [if_neg (by decide)]
      by_cases c : 0 < sur v l n (v i) - mst v l d n (v i - 1)
      · rw [if_pos c]
      · rw [if_neg c, Int.zero_mul]
        have : (sur v l n (v i) - mst v l d n (v i - 1)) * sh ≤ 0 * sh := Int.mul_le_mul_of_nonneg_right (by omega) (by omega)
        rw [Int.zero_mul] at this
        omega
    rw [ex_s rfl]
    simp only [wX4_heavy_45, wX4_heavy_96]
    have ih1 := ih (i + 1) q (by omega) (by omega) hq0 hq
    have ih2 := ih (i + 1) (q - 1) (by omega) (by omega)
    simp only [Int.natCast_add, Int.natCast_one] at ih1 ih2
    rw [hvy, hvP] at hQ
    have ei : (1000 * (b : Int) + i - 1).toNat = 1000 * b + (i - 1) ∨ i = 0 := by omega
    by_cases c1 : i = 0
    · subst c1
      by_cases c2 : (sur v l n (v 0) - mst v l d n (v 0 - 1)) * sh < N
      · simp (disch := omega) only [iI_lit, iI_neg, iI_add, iI_sub, iI_mul, iI_lt, iI_le, iI_eq, iI_in, iI_clamp, iI_mx, iI_mn, iI_nI, Int.toNat_natCast, forall_eq, br_1, br_2, br_3, br_4, br_in, br_5, br_6, br_7, br_8, ex_c, br_nl, br_le, br_ne, gp_1, gp_2, gp_3, gf_1, gf_2, ix_0, ix_1, ix_2, ix_3, tn_1, tn_2, pp_1, h.1, h3.1, m_leastFrom hb h hN hR, hN]
        refine ih1 ?_
        simpa [key.2 c2] using hQ
      · have c2' := Int.not_lt.mp (fun z => c2 (key.1 z))
        by_cases c3 : q = 0
        · simp (disch := omega) only [iI_lit, iI_neg, iI_add, iI_sub, iI_mul, iI_lt, iI_le, iI_eq, iI_in, iI_clamp, iI_mx, iI_mn, iI_nI, Int.toNat_natCast, forall_eq, br_1, br_2, br_3, br_4, br_in, br_5, br_6, br_7, br_8, ex_c, br_nl, br_le, br_ne, gp_1, gp_2, gp_3, gf_1, gf_2, ix_0, ix_1, ix_2, ix_3, tn_1, tn_2, pp_1, h.1, h3.1, m_leastFrom hb h hN hR, hN]
          simpa [c2', c3] using hQ
        · simp (disch := omega) only [iI_lit, iI_neg, iI_add, iI_sub, iI_mul, iI_lt, iI_le, iI_eq, iI_in, iI_clamp, iI_mx, iI_mn, iI_nI, Int.toNat_natCast, forall_eq, br_1, br_2, br_3, br_4, br_in, br_5, br_6, br_7, br_8, ex_c, br_nl, br_le, br_ne, gp_1, gp_2, gp_3, gf_1, gf_2, ix_0, ix_1, ix_2, ix_3, tn_1, tn_2, pp_1, h.1, h3.1, m_leastFrom hb h hN hR, hN]
          have := ih2 (by omega) (by omega) (by simpa [c2', c3] using hQ)
          simpa [← Int.sub_eq_add_neg] using this
    · have h5 := h.2 (i - 1) (by omega)
      have h6 := hR.2.2.2.1 (i - 1) (by omega)
      have ei : (1000 * (b : Int) + i - 1).toNat = 1000 * b + (i - 1) := by omega
      by_cases c0 : v i = v (i - 1)
      · simp (disch := omega) only [iI_lit, iI_neg, iI_add, iI_sub, iI_mul, iI_lt, iI_le, iI_eq, iI_in, iI_clamp, iI_mx, iI_mn, iI_nI, Int.toNat_natCast, forall_eq, br_1, br_2, br_3, br_4, br_in, br_5, br_6, br_7, br_8, ex_c, br_nl, br_le, br_ne, gp_1, gp_2, gp_3, gf_1, gf_2, ix_0, ix_1, ix_2, ix_3, tn_1, tn_2, pp_1, h.1, h3.1, m_leastFrom hb h hN hR, hN, ei, h5.1]
        refine ih1 ?_
        simpa [c0, show 0 < i by omega] using hQ
      · by_cases c2 : (sur v l n (v i) - mst v l d n (v i - 1)) * sh < N
        · simp (disch := omega) only [iI_lit, iI_neg, iI_add, iI_sub, iI_mul, iI_lt, iI_le, iI_eq, iI_in, iI_clamp, iI_mx, iI_mn, iI_nI, Int.toNat_natCast, forall_eq, br_1, br_2, br_3, br_4, br_in, br_5, br_6, br_7, br_8, ex_c, br_nl, br_le, br_ne, gp_1, gp_2, gp_3, gf_1, gf_2, ix_0, ix_1, ix_2, ix_3, tn_1, tn_2, pp_1, h.1, h3.1, m_leastFrom hb h hN hR, hN, ei, h5.1]
          refine ih1 ?_
          simpa [key.2 c2] using hQ
        · have c2' := Int.not_lt.mp (fun z => c2 (key.1 z))
          by_cases c3 : q = 0
          · simp (disch := omega) only [iI_lit, iI_neg, iI_add, iI_sub, iI_mul, iI_lt, iI_le, iI_eq, iI_in, iI_clamp, iI_mx, iI_mn, iI_nI, Int.toNat_natCast, forall_eq, br_1, br_2, br_3, br_4, br_in, br_5, br_6, br_7, br_8, ex_c, br_nl, br_le, br_ne, gp_1, gp_2, gp_3, gf_1, gf_2, ix_0, ix_1, ix_2, ix_3, tn_1, tn_2, pp_1, h.1, h3.1, m_leastFrom hb h hN hR, hN, ei, h5.1]
            simpa [c0, c2', c3] using hQ
          · simp (disch := omega) only [iI_lit, iI_neg, iI_add, iI_sub, iI_mul, iI_lt, iI_le, iI_eq, iI_in, iI_clamp, iI_mx, iI_mn, iI_nI, Int.toNat_natCast, forall_eq, br_1, br_2, br_3, br_4, br_in, br_5, br_6, br_7, br_8, ex_c, br_nl, br_le, br_ne, gp_1, gp_2, gp_3, gf_1, gf_2, ix_0, ix_1, ix_2, ix_3, tn_1, tn_2, pp_1, h.1, h3.1, m_leastFrom hb h hN hR, hN, ei, h5.1]
            have := ih2 (by omega) (by omega) (by simpa [c0, c2', c3] using hQ)
            simpa [← Int.sub_eq_add_neg] using this
theorem op_heavy {mk : Nat} {S : Gs} {M : Mem} (hC : CS mk S M) (hG : GI S) (a b e : Int32) : Good mk S (fun Q => wpX3_heavy mk M a b e Q) (fun M1 Q => wpX4_heavy M1 a b e Q) M := by
  obtain ⟨z, rfl, hz⟩ := iI_of a
  obtain ⟨sh, rfl, hsh⟩ := iI_of b
  obtain ⟨q, rfl, hq⟩ := iI_of e
  by_cases c0 : ¬ (0 ≤ z ∧ z < gk S)
  · refine Good.ro (iI (-1)) 1 hC hG (by omega) (fun Q hQ => ?_) (fun M1 hM Q hQ => ?_)
    · simp only [wpX3_heavy, iI_lit, c_find_n hC hG hz c0, o_none, o_none2, c_refuse]
      exact hQ _ (RC.p (RC.r _)) gp_1
    · unfold wpX4_heavy
      refine mo_1 hM hQ (fun M0 hM hQ => ?_)
      simp (disch := omega) only [iI_lit, iI_neg, iI_add, iI_sub, iI_mul, iI_lt, iI_le, iI_eq, iI_in, iI_clamp, iI_mx, iI_mn, iI_nI, Int.toNat_natCast, forall_eq, br_1, br_2, br_3, br_4, br_in, br_5, br_6, br_7, br_8, ex_c, br_nl, br_le, br_ne, gp_1, gp_2, gp_3, gf_1, gf_2, m_isS_n hM hG hz c0]
      exact m_refused hQ (RM.r _)
  obtain ⟨j, rfl⟩ : ∃ j : Nat, z = j := ⟨z.toNat, by omega⟩
  have hj : j < gk S := by omega
  have hk := hG.1
  have hT := hC.ct hj
  have hS := hG.si hj
  have hE := hG.er hj
  obtain ⟨x, hx⟩ : ∃ x, gT S j = x := ⟨_, rfl⟩
  rw [hx] at hT hS
  have hN := hS.1.1
  have hn := hS.1.2.1
  obtain ⟨t1, t2, t3, t4, t5, t6⟩ := hT
  by_cases c1 : 0 ≤ q
  · by_cases c2 : 1 ≤ sh ∧ sh ≤ 100
    · skip
      refine Good.ro (iI (hvy (hvP (tv x) (tl x) (td x) (tn x) (tN x) sh) (tv x) (tn x) 0 q)) 0 hC hG (by omega) (fun Q hQ => ?_) (fun M1 hM Q hQ => ?_)
      · simp only [wpX3_heavy, c_find_y hC hG hj, o_some]
        simp (disch := omega) only [iI_lit, iI_neg, iI_add, iI_sub, iI_mul, iI_lt, iI_le, iI_eq, iI_in, iI_clamp, iI_mx, iI_mn, iI_nI, Int.toNat_natCast, forall_eq, br_1, br_2, br_3, br_4, br_in, br_5, br_6, br_7, br_8, ex_c, br_nl, br_le, br_ne, gp_1, gp_2, gp_3, gf_1, gf_2, c_pass, c_refuse, t1, t2, t3, t4, hC.2.2.1, c_isShare_y, e_heavyValue t6 hS.1]
        exact hQ _ (RC.p (RC.r _)) gp_1
      · unfold wpX4_heavy
        refine mo_1 hM hQ (fun M0 hM hQ => ?_)
        have hMT := hM.mt hj
        rw [hx] at hMT
        obtain ⟨u1, u2, u3, u4, u5, u6⟩ := hMT
        simp (disch := omega) only [iI_lit, iI_neg, iI_add, iI_sub, iI_mul, iI_lt, iI_le, iI_eq, iI_in, iI_clamp, iI_mx, iI_mn, iI_nI, Int.toNat_natCast, forall_eq, br_1, br_2, br_3, br_4, br_in, br_5, br_6, br_7, br_8, ex_c, br_nl, br_le, br_ne, gp_1, gp_2, gp_3, gf_1, gf_2, ix_0, ix_1, ix_2, ix_3, tn_1, tn_2, pp_1, m_isS_y hM hG hj, m_in_y, m_in_n, u1.1, u2, u3, u4, u5, hM.2.2.2.2.1, u2]
        have := l_mheavy (M := M0) (b := j) (Q := Q) c2 (show j < 6 by omega) u1 u2 hS.1 (tn x) 0 q rfl (by omega) c1 hq.2 (m_good hQ (RM.r _))
        simpa using this
    · skip
      refine Good.ro (iI (-1)) 2 hC hG (by omega) (fun Q hQ => ?_) (fun M1 hM Q hQ => ?_)
      · simp only [wpX3_heavy, c_find_y hC hG hj, o_some]
        simp (disch := omega) only [iI_lit, iI_neg, iI_add, iI_sub, iI_mul, iI_lt, iI_le, iI_eq, iI_in, iI_clamp, iI_mx, iI_mn, iI_nI, Int.toNat_natCast, forall_eq, br_1, br_2, br_3, br_4, br_in, br_5, br_6, br_7, br_8, ex_c, br_nl, br_le, br_ne, gp_1, gp_2, gp_3, gf_1, gf_2, c_pass, c_refuse, t1, t2, t3, t4, hC.2.2.1, c_isShare_n]
        exact hQ _ (RC.p (RC.r _)) gp_1
      · unfold wpX4_heavy
        refine mo_1 hM hQ (fun M0 hM hQ => ?_)
        have hMT := hM.mt hj
        rw [hx] at hMT
        obtain ⟨u1, u2, u3, u4, u5, u6⟩ := hMT
        simp (disch := omega) only [iI_lit, iI_neg, iI_add, iI_sub, iI_mul, iI_lt, iI_le, iI_eq, iI_in, iI_clamp, iI_mx, iI_mn, iI_nI, Int.toNat_natCast, forall_eq, br_1, br_2, br_3, br_4, br_in, br_5, br_6, br_7, br_8, ex_c, br_nl, br_le, br_ne, gp_1, gp_2, gp_3, gf_1, gf_2, ix_0, ix_1, ix_2, ix_3, tn_1, tn_2, pp_1, m_isS_y hM hG hj, m_in_y, m_in_n, u1.1, u2, u3, u4, u5, hM.2.2.2.2.1, u2]
        exact m_refused hQ (RM.r _)
  · skip
    refine Good.ro (iI (-1)) 1 hC hG (by omega) (fun Q hQ => ?_) (fun M1 hM Q hQ => ?_)
    · simp only [wpX3_heavy, c_find_y hC hG hj, o_some]
      simp (disch := omega) only [iI_lit, iI_neg, iI_add, iI_sub, iI_mul, iI_lt, iI_le, iI_eq, iI_in, iI_clamp, iI_mx, iI_mn, iI_nI, Int.toNat_natCast, forall_eq, br_1, br_2, br_3, br_4, br_in, br_5, br_6, br_7, br_8, ex_c, br_nl, br_le, br_ne, gp_1, gp_2, gp_3, gf_1, gf_2, c_pass, c_refuse, t1, t2, t3, t4, hC.2.2.1, t1]
      exact hQ _ (RC.p (RC.r _)) gp_1
    · unfold wpX4_heavy
      refine mo_1 hM hQ (fun M0 hM hQ => ?_)
      have hMT := hM.mt hj
      rw [hx] at hMT
      obtain ⟨u1, u2, u3, u4, u5, u6⟩ := hMT
      simp (disch := omega) only [iI_lit, iI_neg, iI_add, iI_sub, iI_mul, iI_lt, iI_le, iI_eq, iI_in, iI_clamp, iI_mx, iI_mn, iI_nI, Int.toNat_natCast, forall_eq, br_1, br_2, br_3, br_4, br_in, br_5, br_6, br_7, br_8, ex_c, br_nl, br_le, br_ne, gp_1, gp_2, gp_3, gf_1, gf_2, ix_0, ix_1, ix_2, ix_3, tn_1, tn_2, pp_1, m_isS_y hM hG hj, m_in_y, m_in_n, u1.1, u2, u3, u4, u5, hM.2.2.2.2.1, u2]
      exact m_refused hQ (RM.r _)
