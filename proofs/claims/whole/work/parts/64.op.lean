theorem op_rank {mk : Nat} {S : Gs} {M : Mem} (hC : CS mk S M) (hG : GI S) (a b y : Int32) : Good mk S (fun Q => wpX3_rank mk M a b y Q) (fun M1 Q => wpX4_rank M1 a b y Q) M := by
  obtain ⟨z, rfl, hz⟩ := iI_of a
  obtain ⟨q, rfl, hq⟩ := iI_of b
  by_cases c0 : ¬ (0 ≤ z ∧ z < gk S)
  · refine Good.ro (iI (-1)) 1 hC hG (by omega) (fun Q hQ => ?_) (fun M1 hM Q hQ => ?_)
    · simp only [wpX3_rank, iI_lit, c_find_n hC hG hz c0, o_none, o_none2, c_refuse]
      exact hQ _ (RC.p (RC.r _)) gp_1
    · unfold wpX4_rank
      refine mo_1 hM hQ (fun M0 hM hQ => ?_)
      simp (disch := omega) only [iI_lit, iI_neg, iI_add, iI_sub, iI_mul, iI_lt, iI_le, iI_eq, iI_in, iI_clamp, iI_mx, iI_mn, iI_nI, Int.toNat_natCast, forall_eq, br_1, br_2, br_3, br_4, br_in, br_5, br_6, br_7, br_8, ex_c, br_nl, br_le, br_ne, gp_1, gp_2, gp_3, gf_1, gf_2, m_isS_n hM hG hz c0]
      exact m_refused hQ (RM.r _)
  obtain ⟨j, rfl⟩ : ∃ j : Nat, z = j := ⟨z.toNat, by omega⟩
  have hj : j < gk S := by omega
  have hk := hG.1
  have hT := hC.ct hj
  have hS := hG.si hj
  have hE := hG.er hj
  obtain ⟨x, hx⟩ : ∃ x, gT S j = x := ⟨_, rfl⟩
  rw [hx] at hT hS
  have hN := hS.1.1
  have hn := hS.1.2.1
  obtain ⟨t1, t2, t3, t4, t5, t6⟩ := hT
  by_cases c1 : 0 ≤ q ∧ q < 1000
  · by_cases c2 : y = iI 0
    · subst c2
      refine Good.ro (iI (sur (tv x) (tl x) (tn x) q)) 0 hC hG (by omega) (fun Q hQ => ?_) (fun M1 hM Q hQ => ?_)
      · simp only [wpX3_rank, c_find_y hC hG hj, o_some]
        simp (disch := omega) only [iI_lit, iI_neg, iI_add, iI_sub, iI_mul, iI_lt, iI_le, iI_eq, iI_in, iI_clamp, iI_mx, iI_mn, iI_nI, Int.toNat_natCast, forall_eq, br_1, br_2, br_3, br_4, br_in, br_5, br_6, br_7, br_8, ex_c, br_nl, br_le, br_ne, gp_1, gp_2, gp_3, gf_1, gf_2, c_pass, c_refuse, t1, t2, t3, t4, hC.2.2.1, e_isValue, e_sureUpTo t6 hS.1]
        exact hQ _ (RC.p (RC.r _)) gp_1
      · unfold wpX4_rank
        refine mo_1 hM hQ (fun M0 hM hQ => ?_)
        have hMT := hM.mt hj
        rw [hx] at hMT
        obtain ⟨u1, u2, u3, u4, u5, u6⟩ := hMT
        simp (disch := omega) only [iI_lit, iI_neg, iI_add, iI_sub, iI_mul, iI_lt, iI_le, iI_eq, iI_in, iI_clamp, iI_mx, iI_mn, iI_nI, Int.toNat_natCast, forall_eq, br_1, br_2, br_3, br_4, br_in, br_5, br_6, br_7, br_8, ex_c, br_nl, br_le, br_ne, gp_1, gp_2, gp_3, gf_1, gf_2, ix_0, ix_1, ix_2, ix_3, tn_1, tn_2, pp_1, m_isS_y hM hG hj, m_in_y, m_in_n, u1.1, u2, u3, u4, u5, hM.2.2.2.2.1, m_isValue_y, m_sure (show j < 6 by omega) u1 hS.1]
        exact m_good hQ (RM.r _)
    · skip
      refine Good.ro (iI (mst (tv x) (tl x) (td x) (tn x) q)) 0 hC hG (by omega) (fun Q hQ => ?_) (fun M1 hM Q hQ => ?_)
      · simp only [wpX3_rank, c_find_y hC hG hj, o_some, iI_lit, br_2 c2]
        simp (disch := omega) only [iI_lit, iI_neg, iI_add, iI_sub, iI_mul, iI_lt, iI_le, iI_eq, iI_in, iI_clamp, iI_mx, iI_mn, iI_nI, Int.toNat_natCast, forall_eq, br_1, br_2, br_3, br_4, br_in, br_5, br_6, br_7, br_8, ex_c, br_nl, br_le, br_ne, gp_1, gp_2, gp_3, gf_1, gf_2, c_pass, c_refuse, e_isValue, e_mostUpTo t6 hS.1]
        exact hQ _ (RC.p (RC.r _)) gp_1
      · unfold wpX4_rank
        refine mo_1 hM hQ (fun M0 hM hQ => ?_)
        have hMT := hM.mt hj
        rw [hx] at hMT
        obtain ⟨u1, u2, u3, u4, u5, u6⟩ := hMT
        simp only [iI_lit, br_2 c2]
        simp (disch := omega) only [iI_lit, iI_neg, iI_add, iI_sub, iI_mul, iI_lt, iI_le, iI_eq, iI_in, iI_clamp, iI_mx, iI_mn, iI_nI, Int.toNat_natCast, forall_eq, br_1, br_2, br_3, br_4, br_in, br_5, br_6, br_7, br_8, ex_c, br_nl, br_le, br_ne, gp_1, gp_2, gp_3, gf_1, gf_2, ix_0, ix_1, ix_2, ix_3, tn_1, tn_2, pp_1, m_isS_y hM hG hj, m_isValue_y, m_atMost (show j < 6 by omega) u1 u2 hS.1]
        exact m_good hQ (RM.r _)
  · skip
    refine Good.ro (iI (-1)) 2 hC hG (by omega) (fun Q hQ => ?_) (fun M1 hM Q hQ => ?_)
    · simp only [wpX3_rank, c_find_y hC hG hj, o_some]
      simp (disch := omega) only [iI_lit, iI_neg, iI_add, iI_sub, iI_mul, iI_lt, iI_le, iI_eq, iI_in, iI_clamp, iI_mx, iI_mn, iI_nI, Int.toNat_natCast, forall_eq, br_1, br_2, br_3, br_4, br_in, br_5, br_6, br_7, br_8, ex_c, br_nl, br_le, br_ne, gp_1, gp_2, gp_3, gf_1, gf_2, c_pass, c_refuse, t1, t2, t3, t4, hC.2.2.1, c_isValue_n]
      exact hQ _ (RC.p (RC.r _)) gp_1
    · unfold wpX4_rank
      refine mo_1 hM hQ (fun M0 hM hQ => ?_)
      have hMT := hM.mt hj
      rw [hx] at hMT
      obtain ⟨u1, u2, u3, u4, u5, u6⟩ := hMT
      simp (disch := omega) only [iI_lit, iI_neg, iI_add, iI_sub, iI_mul, iI_lt, iI_le, iI_eq, iI_in, iI_clamp, iI_mx, iI_mn, iI_nI, Int.toNat_natCast, forall_eq, br_1, br_2, br_3, br_4, br_in, br_5, br_6, br_7, br_8, ex_c, br_nl, br_le, br_ne, gp_1, gp_2, gp_3, gf_1, gf_2, ix_0, ix_1, ix_2, ix_3, tn_1, tn_2, pp_1, m_isS_y hM hG hj, m_in_y, m_in_n, u1.1, u2, u3, u4, u5, hM.2.2.2.2.1, m_isValue_n]
      exact m_refused hQ (RM.r _)
theorem sur_0 {N n : Nat} {v l d : Nat → Int} (hR : RI N n v l d) : sur v l n (-1) = 0 := by
  have : plc v (-1) n = 0 := by
    rcases Nat.eq_zero_or_pos (plc v (-1) n) with q | q
    · exact q
    · have h1 := plc_le v (-1) n
      have h2 := plc_lo v (-1) n 0 q
      have h3 := hR.2.2.2.1 0 (by omega)
      omega
  unfold sur
  rw [this]
  rfl
theorem mst_0 {N n : Nat} {v l d : Nat → Int} (hR : RI N n v l d) : mst v l d n (-1) = 0 := by
  have : plc v (-1) n = 0 := by
    rcases Nat.eq_zero_or_pos (plc v (-1) n) with q | q
    · exact q
    · have h1 := plc_le v (-1) n
      have h2 := plc_lo v (-1) n 0 q
      have h3 := hR.2.2.2.1 0 (by omega)
      omega
  unfold mst
  rw [this]
  by_cases c : 0 < n
  · rw [if_pos c]
    have := hR.2.2.2.2.2 c
    omega
  · rw [if_neg c, show n = 0 by omega]
    rfl
theorem m_leastFrom {M : Mem} {N b n : Nat} {v l d : Nat → Int} {Q : Qi} (hb : b < 6) (h : MR M b n v l d) (hN : gI M 224 b = iI N) (hR : RI N n v l d) {x y : Int} (hx : 0 ≤ x ∧ x < 1000) (hy : 0 ≤ y ∧ y < 1000) : wpX4_leastFrom M (iI b) (iI x) (iI y) Q = Q (iI (sur v l n y - mst v l d n (x - 1))) M := by
  unfold wpX4_leastFrom
  by_cases c : x = 0
  · simp (disch := omega) only [iI_lit, iI_neg, iI_add, iI_sub, iI_mul, iI_lt, iI_le, iI_eq, iI_in, iI_clamp, iI_mx, iI_mn, iI_nI, Int.toNat_natCast, forall_eq, br_1, br_2, br_3, br_4, br_in, br_5, br_6, br_7, br_8, ex_c, br_nl, br_le, br_ne, gp_1, gp_2, gp_3, gf_1, gf_2, ix_0, ix_1, ix_2, ix_3, tn_1, tn_2, pp_1, m_sure hb h hR]
    rw [c, show (0 : Int) - 1 = -1 by omega, mst_0 hR]
  · simp (disch := omega) only [iI_lit, iI_neg, iI_add, iI_sub, iI_mul, iI_lt, iI_le, iI_eq, iI_in, iI_clamp, iI_mx, iI_mn, iI_nI, Int.toNat_natCast, forall_eq, br_1, br_2, br_3, br_4, br_in, br_5, br_6, br_7, br_8, ex_c, br_nl, br_le, br_ne, gp_1, gp_2, gp_3, gf_1, gf_2, ix_0, ix_1, ix_2, ix_3, tn_1, tn_2, pp_1, m_sure hb h hR, m_atMost hb h hN hR]
theorem op_between {mk : Nat} {S : Gs} {M : Mem} (hC : CS mk S M) (hG : GI S) (a b e y : Int32) : Good mk S (fun Q => wpX3_between mk M a b e y Q) (fun M1 Q => wpX4_between M1 a b e y Q) M := by
  obtain ⟨z, rfl, hz⟩ := iI_of a
  obtain ⟨q, rfl, hq⟩ := iI_of b
  obtain ⟨r, rfl, hr⟩ := iI_of e
  by_cases c0 : ¬ (0 ≤ z ∧ z < gk S)
  · refine Good.ro (iI (-1)) 1 hC hG (by omega) (fun Q hQ => ?_) (fun M1 hM Q hQ => ?_)
    · simp only [wpX3_between, iI_lit, c_find_n hC hG hz c0, o_none, o_none2, c_refuse]
      exact hQ _ (RC.p (RC.r _)) gp_1
    · unfold wpX4_between
      refine mo_1 hM hQ (fun M0 hM hQ => ?_)
      simp (disch := omega) only [iI_lit, iI_neg, iI_add, iI_sub, iI_mul, iI_lt, iI_le, iI_eq, iI_in, iI_clamp, iI_mx, iI_mn, iI_nI, Int.toNat_natCast, forall_eq, br_1, br_2, br_3, br_4, br_in, br_5, br_6, br_7, br_8, ex_c, br_nl, br_le, br_ne, gp_1, gp_2, gp_3, gf_1, gf_2, m_isS_n hM hG hz c0]
      exact m_refused hQ (RM.r _)
  obtain ⟨j, rfl⟩ : ∃ j : Nat, z = j := ⟨z.toNat, by omega⟩
  have hj : j < gk S := by omega
  have hk := hG.1
  have hT := hC.ct hj
  have hS := hG.si hj
  have hE := hG.er hj
  obtain ⟨x, hx⟩ : ∃ x, gT S j = x := ⟨_, rfl⟩
  rw [hx] at hT hS
  have hN := hS.1.1
  have hn := hS.1.2.1
  obtain ⟨t1, t2, t3, t4, t5, t6⟩ := hT
  by_cases c1 : 0 ≤ q ∧ q < 1000
  · by_cases c2 : 0 ≤ r ∧ r < 1000
    · by_cases c3 : q ≤ r
      · have s1 := sur_b hS.1 (q - 1)
        have s2 := sur_b hS.1 r
        have s3 := mst_b hS.1 (q - 1)
        have s4 := mst_b hS.1 r
        by_cases c4 : y = iI 0
        · subst c4
          refine Good.ro (iI (cab (tv x) (tl x) (td x) (tn x) (q - 1) r false)) 0 hC hG (by omega) (fun Q hQ => ?_) (fun M1 hM Q hQ => ?_)
          · simp only [wpX3_between, c_find_y hC hG hj, o_some]
            simp (disch := omega) only [iI_lit, iI_neg, iI_add, iI_sub, iI_mul, iI_lt, iI_le, iI_eq, iI_in, iI_clamp, iI_mx, iI_mn, iI_nI, Int.toNat_natCast, forall_eq, br_1, br_2, br_3, br_4, br_in, br_5, br_6, br_7, br_8, ex_c, br_nl, br_le, br_ne, gp_1, gp_2, gp_3, gf_1, gf_2, c_pass, c_refuse, t1, t2, t3, t4, hC.2.2.1, e_isValue, e_countAbove0 t6 hS.1]
            exact hQ _ (RC.p (RC.r _)) gp_1
          · unfold wpX4_between
            refine mo_1 hM hQ (fun M0 hM hQ => ?_)
            have hMT := hM.mt hj
            rw [hx] at hMT
            obtain ⟨u1, u2, u3, u4, u5, u6⟩ := hMT
            simp (disch := omega) only [iI_lit, iI_neg, iI_add, iI_sub, iI_mul, iI_lt, iI_le, iI_eq, iI_in, iI_clamp, iI_mx, iI_mn, iI_nI, Int.toNat_natCast, forall_eq, br_1, br_2, br_3, br_4, br_in, br_5, br_6, br_7, br_8, ex_c, br_nl, br_le, br_ne, gp_1, gp_2, gp_3, gf_1, gf_2, ix_0, ix_1, ix_2, ix_3, tn_1, tn_2, pp_1, m_isS_y hM hG hj, m_in_y, m_in_n, u1.1, u2, u3, u4, u5, hM.2.2.2.2.1, m_isValue_y, m_leastFrom (show j < 6 by omega) u1 u2 hS.1]
            unfold cab mx at hQ
            rw [if_neg (by decide)] at hQ
            by_cases c5 : 0 < sur (tv x) (tl x) (tn x) r - mst (tv x) (tl x) (td x) (tn x) (q - 1)
            · rw [if_pos c5] at hQ
              simp (disch := omega) only [iI_lit, iI_neg, iI_add, iI_sub, iI_mul, iI_lt, iI_le, iI_eq, iI_in, iI_clamp, iI_mx, iI_mn, iI_nI, Int.toNat_natCast, forall_eq, br_1, br_2, br_3, br_4, br_in, br_5, br_6, br_7, br_8, ex_c, br_nl, br_le, br_ne, gp_1, gp_2, gp_3, gf_1, gf_2]
              exact m_good hQ (RM.r _)
            · rw [if_neg c5] at hQ
              by_cases c6 : 0 ≤ sur (tv x) (tl x) (tn x) r - mst (tv x) (tl x) (td x) (tn x) (q - 1)
              · simp (disch := omega) only [iI_lit, iI_neg, iI_add, iI_sub, iI_mul, iI_lt, iI_le, iI_eq, iI_in, iI_clamp, iI_mx, iI_mn, iI_nI, Int.toNat_natCast, forall_eq, br_1, br_2, br_3, br_4, br_in, br_5, br_6, br_7, br_8, ex_c, br_nl, br_le, br_ne, gp_1, gp_2, gp_3, gf_1, gf_2]
                rw [show sur (tv x) (tl x) (tn x) r - mst (tv x) (tl x) (td x) (tn x) (q - 1) = 0 by omega]
                exact m_good hQ (RM.r _)
              · simp (disch := omega) only [iI_lit, iI_neg, iI_add, iI_sub, iI_mul, iI_lt, iI_le, iI_eq, iI_in, iI_clamp, iI_mx, iI_mn, iI_nI, Int.toNat_natCast, forall_eq, br_1, br_2, br_3, br_4, br_in, br_5, br_6, br_7, br_8, ex_c, br_nl, br_le, br_ne, gp_1, gp_2, gp_3, gf_1, gf_2]
                exact m_good hQ (RM.r _)
        · skip
          refine Good.ro (iI (cab (tv x) (tl x) (td x) (tn x) (q - 1) r true)) 0 hC hG (by omega) (fun Q hQ => ?_) (fun M1 hM Q hQ => ?_)
          · simp only [wpX3_between, c_find_y hC hG hj, o_some, iI_lit]
            simp (disch := omega) only [iI_lit, iI_neg, iI_add, iI_sub, iI_mul, iI_lt, iI_le, iI_eq, iI_in, iI_clamp, iI_mx, iI_mn, iI_nI, Int.toNat_natCast, forall_eq, br_1, br_2, br_3, br_4, br_in, br_5, br_6, br_7, br_8, ex_c, br_nl, br_le, br_ne, gp_1, gp_2, gp_3, gf_1, gf_2, c_pass, c_refuse, e_isValue, e_countAbove t6 hS.1, decide_eq_true c4]
            exact hQ _ (RC.p (RC.r _)) gp_1
          · unfold wpX4_between
            refine mo_1 hM hQ (fun M0 hM hQ => ?_)
            have hMT := hM.mt hj
            rw [hx] at hMT
            obtain ⟨u1, u2, u3, u4, u5, u6⟩ := hMT
            simp only [iI_lit, br_1 c4, br_2 c4, br_3 c4]
            unfold cab at hQ
            rw [if_pos rfl] at hQ
            by_cases c5 : q = 0
            · simp (disch := omega) only [iI_lit, iI_neg, iI_add, iI_sub, iI_mul, iI_lt, iI_le, iI_eq, iI_in, iI_clamp, iI_mx, iI_mn, iI_nI, Int.toNat_natCast, forall_eq, br_1, br_2, br_3, br_4, br_in, br_5, br_6, br_7, br_8, ex_c, br_nl, br_le, br_ne, gp_1, gp_2, gp_3, gf_1, gf_2, ix_0, ix_1, ix_2, ix_3, tn_1, tn_2, pp_1, m_isS_y hM hG hj, m_isValue_y, m_atMost (show j < 6 by omega) u1 u2 hS.1, m_sure (show j < 6 by omega) u1 hS.1]
              rw [c5, show (0 : Int) - 1 = -1 by omega, sur_0 hS.1] at hQ
              exact m_good hQ (RM.r _)
            · simp (disch := omega) only [iI_lit, iI_neg, iI_add, iI_sub, iI_mul, iI_lt, iI_le, iI_eq, iI_in, iI_clamp, iI_mx, iI_mn, iI_nI, Int.toNat_natCast, forall_eq, br_1, br_2, br_3, br_4, br_in, br_5, br_6, br_7, br_8, ex_c, br_nl, br_le, br_ne, gp_1, gp_2, gp_3, gf_1, gf_2, ix_0, ix_1, ix_2, ix_3, tn_1, tn_2, pp_1, m_isS_y hM hG hj, m_isValue_y, m_atMost (show j < 6 by omega) u1 u2 hS.1, m_sure (show j < 6 by omega) u1 hS.1]
              exact m_good hQ (RM.r _)
      · skip
        refine Good.ro (iI (-1)) 2 hC hG (by omega) (fun Q hQ => ?_) (fun M1 hM Q hQ => ?_)
        · simp only [wpX3_between, c_find_y hC hG hj, o_some]
          simp (disch := omega) only [iI_lit, iI_neg, iI_add, iI_sub, iI_mul, iI_lt, iI_le, iI_eq, iI_in, iI_clamp, iI_mx, iI_mn, iI_nI, Int.toNat_natCast, forall_eq, br_1, br_2, br_3, br_4, br_in, br_5, br_6, br_7, br_8, ex_c, br_nl, br_le, br_ne, gp_1, gp_2, gp_3, gf_1, gf_2, c_pass, c_refuse, t1, t2, t3, t4, hC.2.2.1, e_isValue]
          exact hQ _ (RC.p (RC.r _)) gp_1
        · unfold wpX4_between
          refine mo_1 hM hQ (fun M0 hM hQ => ?_)
          have hMT := hM.mt hj
          rw [hx] at hMT
          obtain ⟨u1, u2, u3, u4, u5, u6⟩ := hMT
          simp (disch := omega) only [iI_lit, iI_neg, iI_add, iI_sub, iI_mul, iI_lt, iI_le, iI_eq, iI_in, iI_clamp, iI_mx, iI_mn, iI_nI, Int.toNat_natCast, forall_eq, br_1, br_2, br_3, br_4, br_in, br_5, br_6, br_7, br_8, ex_c, br_nl, br_le, br_ne, gp_1, gp_2, gp_3, gf_1, gf_2, ix_0, ix_1, ix_2, ix_3, tn_1, tn_2, pp_1, m_isS_y hM hG hj, m_in_y, m_in_n, u1.1, u2, u3, u4, u5, hM.2.2.2.2.1, m_isValue_y]
          exact m_refused hQ (RM.r _)
    · skip
      refine Good.ro (iI (-1)) 2 hC hG (by omega) (fun Q hQ => ?_) (fun M1 hM Q hQ => ?_)
      · simp only [wpX3_between, c_find_y hC hG hj, o_some]
        simp (disch := omega) only [iI_lit, iI_neg, iI_add, iI_sub, iI_mul, iI_lt, iI_le, iI_eq, iI_in, iI_clamp, iI_mx, iI_mn, iI_nI, Int.toNat_natCast, forall_eq, br_1, br_2, br_3, br_4, br_in, br_5, br_6, br_7, br_8, ex_c, br_nl, br_le, br_ne, gp_1, gp_2, gp_3, gf_1, gf_2, c_pass, c_refuse, t1, t2, t3, t4, hC.2.2.1, e_isValue, c_isValue_n]
        exact hQ _ (RC.p (RC.r _)) gp_1
      · unfold wpX4_between
        refine mo_1 hM hQ (fun M0 hM hQ => ?_)
        have hMT := hM.mt hj
        rw [hx] at hMT
        obtain ⟨u1, u2, u3, u4, u5, u6⟩ := hMT
        simp (disch := omega) only [iI_lit, iI_neg, iI_add, iI_sub, iI_mul, iI_lt, iI_le, iI_eq, iI_in, iI_clamp, iI_mx, iI_mn, iI_nI, Int.toNat_natCast, forall_eq, br_1, br_2, br_3, br_4, br_in, br_5, br_6, br_7, br_8, ex_c, br_nl, br_le, br_ne, gp_1, gp_2, gp_3, gf_1, gf_2, ix_0, ix_1, ix_2, ix_3, tn_1, tn_2, pp_1, m_isS_y hM hG hj, m_in_y, m_in_n, u1.1, u2, u3, u4, u5, hM.2.2.2.2.1, m_isValue_y, m_isValue_n]
        exact m_refused hQ (RM.r _)
  · skip
    refine Good.ro (iI (-1)) 2 hC hG (by omega) (fun Q hQ => ?_) (fun M1 hM Q hQ => ?_)
    · simp only [wpX3_between, c_find_y hC hG hj, o_some]
      simp (disch := omega) only [iI_lit, iI_neg, iI_add, iI_sub, iI_mul, iI_lt, iI_le, iI_eq, iI_in, iI_clamp, iI_mx, iI_mn, iI_nI, Int.toNat_natCast, forall_eq, br_1, br_2, br_3, br_4, br_in, br_5, br_6, br_7, br_8, ex_c, br_nl, br_le, br_ne, gp_1, gp_2, gp_3, gf_1, gf_2, c_pass, c_refuse, t1, t2, t3, t4, hC.2.2.1, c_isValue_n]
      exact hQ _ (RC.p (RC.r _)) gp_1
    · unfold wpX4_between
      refine mo_1 hM hQ (fun M0 hM hQ => ?_)
      have hMT := hM.mt hj
      rw [hx] at hMT
      obtain ⟨u1, u2, u3, u4, u5, u6⟩ := hMT
      simp (disch := omega) only [iI_lit, iI_neg, iI_add, iI_sub, iI_mul, iI_lt, iI_le, iI_eq, iI_in, iI_clamp, iI_mx, iI_mn, iI_nI, Int.toNat_natCast, forall_eq, br_1, br_2, br_3, br_4, br_in, br_5, br_6, br_7, br_8, ex_c, br_nl, br_le, br_ne, gp_1, gp_2, gp_3, gf_1, gf_2, ix_0, ix_1, ix_2, ix_3, tn_1, tn_2, pp_1, m_isS_y hM hG hj, m_in_y, m_in_n, u1.1, u2, u3, u4, u5, hM.2.2.2.2.1, m_isValue_n]
      exact m_refused hQ (RM.r _)
theorem l_munsure {M : Mem} {Q : Qi} {b n N : Nat} {v l d : Nat → Int} {q : Int} (hq : 0 ≤ q ∧ q ≤ 1) (hb : b < 6) (h : MR M b n v l d) (hN : gI M 224 b = iI N) (hR : RI N n v l d) (hQ : wpX4_good M (iI (if q = 0 then fct (fun r => decide (¬ gd v l d n r = 0)) N else fmx (gd v l d n) 0 N)) Q) : ∀ f i, N - i = f → i ≤ N → ∃ m, wX4_unsure_36 Q (iI b) (iI q) m M (iI (fct (fun r => decide (¬ gd v l d n r = 0)) i)) (iI (fmx (gd v l d n) 0 i)) (iI (i + 1 : Nat)) := by
  have hN' := hR.1
  have hn := hR.2.1
  intro f
  induction f with
  | zero =>
    intro i hf hi
    have e : i = N := by omega
    subst e
    rw [ex_s rfl]
    simp only [wX4_unsure_36]
    by_cases c : q = 0
    · simp (disch := omega) only [iI_lit, iI_neg, iI_add, iI_sub, iI_mul, iI_lt, iI_le, iI_eq, iI_in, iI_clamp, iI_mx, iI_mn, iI_nI, Int.toNat_natCast, forall_eq, br_1, br_2, br_3, br_4, br_in, br_5, br_6, br_7, br_8, ex_c, br_nl, br_le, br_ne, gp_1, gp_2, gp_3, gf_1, gf_2, ix_0, ix_1, ix_2, ix_3, tn_1, tn_2, pp_1, hN]
      rw [if_pos c] at hQ
      exact hQ
    · simp (disch := omega) only [iI_lit, iI_neg, iI_add, iI_sub, iI_mul, iI_lt, iI_le, iI_eq, iI_in, iI_clamp, iI_mx, iI_mn, iI_nI, Int.toNat_natCast, forall_eq, br_1, br_2, br_3, br_4, br_in, br_5, br_6, br_7, br_8, ex_c, br_nl, br_le, br_ne, gp_1, gp_2, gp_3, gf_1, gf_2, ix_0, ix_1, ix_2, ix_3, tn_1, tn_2, pp_1, hN]
      rw [if_neg c] at hQ
      exact hQ
  | succ f ih =>
    intro i hf hi
    have h1 := gd_b hR (r := i + 1) (by omega)
    have h2 := fmx_b (f := gd v l d n) (z := 0) (B := 1000) (by omega) i (fun j a b => (gd_b hR (by omega)).2)
    have e : v (cei l ((i + 1 : Nat) : Int) n) - v (flr l d ((i + 1 : Nat) : Int) n) = gd v l d n (i + 1) := rfl
    rw [ex_s rfl]
    simp only [wX4_unsure_36]
    have := ih (i + 1) (by omega) (by omega)
    rw [fct, fmx, mx] at this
    by_cases c : gd v l d n (i + 1) = 0
    · simp only [c, not_true_eq_false, decide_false, Bool.false_eq_true, if_false] at this
      rw [if_neg (by omega)] at this
      simp (disch := omega) only [iI_lit, iI_neg, iI_add, iI_sub, iI_mul, iI_lt, iI_le, iI_eq, iI_in, iI_clamp, iI_mx, iI_mn, iI_nI, Int.toNat_natCast, forall_eq, br_1, br_2, br_3, br_4, br_in, br_5, br_6, br_7, br_8, ex_c, br_nl, br_le, br_ne, gp_1, gp_2, gp_3, gf_1, gf_2, ix_0, ix_1, ix_2, ix_3, tn_1, tn_2, pp_1, hN, m_floorOf hb h hR, m_ceilingOf hb h hR, e, c]
      simpa using this
    · simp only [c, not_false_eq_true, decide_true, if_true] at this
      by_cases c2 : fmx (gd v l d n) 0 i < gd v l d n (i + 1)
      · rw [if_pos c2] at this
        simp (disch := omega) only [iI_lit, iI_neg, iI_add, iI_sub, iI_mul, iI_lt, iI_le, iI_eq, iI_in, iI_clamp, iI_mx, iI_mn, iI_nI, Int.toNat_natCast, forall_eq, br_1, br_2, br_3, br_4, br_in, br_5, br_6, br_7, br_8, ex_c, br_nl, br_le, br_ne, gp_1, gp_2, gp_3, gf_1, gf_2, ix_0, ix_1, ix_2, ix_3, tn_1, tn_2, pp_1, hN, m_floorOf hb h hR, m_ceilingOf hb h hR, e]
        simpa using this
      · rw [if_neg c2] at this
        simp (disch := omega) only [iI_lit, iI_neg, iI_add, iI_sub, iI_mul, iI_lt, iI_le, iI_eq, iI_in, iI_clamp, iI_mx, iI_mn, iI_nI, Int.toNat_natCast, forall_eq, br_1, br_2, br_3, br_4, br_in, br_5, br_6, br_7, br_8, ex_c, br_nl, br_le, br_ne, gp_1, gp_2, gp_3, gf_1, gf_2, ix_0, ix_1, ix_2, ix_3, tn_1, tn_2, pp_1, hN, m_floorOf hb h hR, m_ceilingOf hb h hR, e]
        simpa using this
theorem op_unsure {mk : Nat} {S : Gs} {M : Mem} (hC : CS mk S M) (hG : GI S) (a b : Int32) : Good mk S (fun Q => wpX3_unsure mk M a b Q) (fun M1 Q => wpX4_unsure M1 a b Q) M := by
  obtain ⟨z, rfl, hz⟩ := iI_of a
  obtain ⟨q, rfl, hq⟩ := iI_of b
  by_cases c0 : ¬ (0 ≤ z ∧ z < gk S)
  · refine Good.ro (iI (-1)) 1 hC hG (by omega) (fun Q hQ => ?_) (fun M1 hM Q hQ => ?_)
    · simp only [wpX3_unsure, iI_lit, c_find_n hC hG hz c0, o_none, o_none2, c_refuse]
      exact hQ _ (RC.p (RC.r _)) gp_1
    · unfold wpX4_unsure
      refine mo_1 hM hQ (fun M0 hM hQ => ?_)
      simp (disch := omega) only [iI_lit, iI_neg, iI_add, iI_sub, iI_mul, iI_lt, iI_le, iI_eq, iI_in, iI_clamp, iI_mx, iI_mn, iI_nI, Int.toNat_natCast, forall_eq, br_1, br_2, br_3, br_4, br_in, br_5, br_6, br_7, br_8, ex_c, br_nl, br_le, br_ne, gp_1, gp_2, gp_3, gf_1, gf_2, m_isS_n hM hG hz c0]
      exact m_refused hQ (RM.r _)
  obtain ⟨j, rfl⟩ : ∃ j : Nat, z = j := ⟨z.toNat, by omega⟩
  have hj : j < gk S := by omega
  have hk := hG.1
  have hT := hC.ct hj
  have hS := hG.si hj
  have hE := hG.er hj
  obtain ⟨x, hx⟩ : ∃ x, gT S j = x := ⟨_, rfl⟩
  rw [hx] at hT hS
  have hN := hS.1.1
  have hn := hS.1.2.1
  obtain ⟨t1, t2, t3, t4, t5, t6⟩ := hT
  by_cases c1 : 0 ≤ q ∧ q ≤ 1
  · have e1 : ¬ iI 1 = iI 0 := by
      rw [iI_eq (by omega) (by omega)]
      omega
    refine Good.ro (iI (if q = 0 then fct (fun r => decide (¬ gd (tv x) (tl x) (td x) (tn x) r = 0)) (tN x) else fmx (gd (tv x) (tl x) (td x) (tn x)) 0 (tN x))) 0 hC hG (by omega) (fun Q hQ => ?_) (fun M1 hM Q hQ => ?_)
    · by_cases c2 : q = 0
      · rw [if_pos c2] at hQ
        have hd := fun Q' : Qi => e_doubts (Q := Q') t6 hS.1 (iI 0)
        simp only [if_pos rfl] at hd
        simp only [wpX3_unsure, c_find_y hC hG hj, o_some, iI_lit, hd]
        simp (disch := omega) only [iI_lit, iI_neg, iI_add, iI_sub, iI_mul, iI_lt, iI_le, iI_eq, iI_in, iI_clamp, iI_mx, iI_mn, iI_nI, Int.toNat_natCast, forall_eq, br_1, br_2, br_3, br_4, br_in, br_5, br_6, br_7, br_8, ex_c, br_nl, br_le, br_ne, gp_1, gp_2, gp_3, gf_1, gf_2, c_pass, c_refuse]
        exact hQ _ (RC.p (RC.r _)) gp_1
      · rw [if_neg c2] at hQ
        have hd := fun Q' : Qi => e_doubts (Q := Q') t6 hS.1 (iI 1)
        simp only [if_neg e1] at hd
        simp only [wpX3_unsure, c_find_y hC hG hj, o_some, iI_lit, hd]
        simp (disch := omega) only [iI_lit, iI_neg, iI_add, iI_sub, iI_mul, iI_lt, iI_le, iI_eq, iI_in, iI_clamp, iI_mx, iI_mn, iI_nI, Int.toNat_natCast, forall_eq, br_1, br_2, br_3, br_4, br_in, br_5, br_6, br_7, br_8, ex_c, br_nl, br_le, br_ne, gp_1, gp_2, gp_3, gf_1, gf_2, c_pass, c_refuse]
        exact hQ _ (RC.p (RC.r _)) gp_1
    · unfold wpX4_unsure
      refine mo_1 hM hQ (fun M0 hM hQ => ?_)
      have hMT := hM.mt hj
      rw [hx] at hMT
      obtain ⟨u1, u2, u3, u4, u5, u6⟩ := hMT
      simp (disch := omega) only [iI_lit, iI_neg, iI_add, iI_sub, iI_mul, iI_lt, iI_le, iI_eq, iI_in, iI_clamp, iI_mx, iI_mn, iI_nI, Int.toNat_natCast, forall_eq, br_1, br_2, br_3, br_4, br_in, br_5, br_6, br_7, br_8, ex_c, br_nl, br_le, br_ne, gp_1, gp_2, gp_3, gf_1, gf_2, ix_0, ix_1, ix_2, ix_3, tn_1, tn_2, pp_1, m_isS_y hM hG hj, m_in_y, m_in_n, u1.1, u2, u3, u4, u5, hM.2.2.2.2.1, u2]
      have := l_munsure (M := M0) (b := j) (Q := Q) c1 (show j < 6 by omega) u1 u2 hS.1 (m_good hQ (RM.r _)) (tN x) 0 rfl (by omega)
      simpa [fct, fmx] using this
  · by_cases c2 : q < 0
    · skip
      refine Good.ro (iI (-1)) 1 hC hG (by omega) (fun Q hQ => ?_) (fun M1 hM Q hQ => ?_)
      · simp only [wpX3_unsure, c_find_y hC hG hj, o_some]
        simp (disch := omega) only [iI_lit, iI_neg, iI_add, iI_sub, iI_mul, iI_lt, iI_le, iI_eq, iI_in, iI_clamp, iI_mx, iI_mn, iI_nI, Int.toNat_natCast, forall_eq, br_1, br_2, br_3, br_4, br_in, br_5, br_6, br_7, br_8, ex_c, br_nl, br_le, br_ne, gp_1, gp_2, gp_3, gf_1, gf_2, c_pass, c_refuse, t1, t2, t3, t4, hC.2.2.1, t1]
        exact hQ _ (RC.p (RC.r _)) gp_1
      · unfold wpX4_unsure
        refine mo_1 hM hQ (fun M0 hM hQ => ?_)
        have hMT := hM.mt hj
        rw [hx] at hMT
        obtain ⟨u1, u2, u3, u4, u5, u6⟩ := hMT
        simp (disch := omega) only [iI_lit, iI_neg, iI_add, iI_sub, iI_mul, iI_lt, iI_le, iI_eq, iI_in, iI_clamp, iI_mx, iI_mn, iI_nI, Int.toNat_natCast, forall_eq, br_1, br_2, br_3, br_4, br_in, br_5, br_6, br_7, br_8, ex_c, br_nl, br_le, br_ne, gp_1, gp_2, gp_3, gf_1, gf_2, ix_0, ix_1, ix_2, ix_3, tn_1, tn_2, pp_1, m_isS_y hM hG hj, m_in_y, m_in_n, u1.1, u2, u3, u4, u5, hM.2.2.2.2.1, u2]
        exact m_refused hQ (RM.r _)
    · skip
      refine Good.ro (iI (-1)) 1 hC hG (by omega) (fun Q hQ => ?_) (fun M1 hM Q hQ => ?_)
      · simp only [wpX3_unsure, c_find_y hC hG hj, o_some]
        simp (disch := omega) only [iI_lit, iI_neg, iI_add, iI_sub, iI_mul, iI_lt, iI_le, iI_eq, iI_in, iI_clamp, iI_mx, iI_mn, iI_nI, Int.toNat_natCast, forall_eq, br_1, br_2, br_3, br_4, br_in, br_5, br_6, br_7, br_8, ex_c, br_nl, br_le, br_ne, gp_1, gp_2, gp_3, gf_1, gf_2, c_pass, c_refuse, t1, t2, t3, t4, hC.2.2.1, t1]
        exact hQ _ (RC.p (RC.r _)) gp_1
      · unfold wpX4_unsure
        refine mo_1 hM hQ (fun M0 hM hQ => ?_)
        have hMT := hM.mt hj
        rw [hx] at hMT
        obtain ⟨u1, u2, u3, u4, u5, u6⟩ := hMT
        simp (disch := omega) only [iI_lit, iI_neg, iI_add, iI_sub, iI_mul, iI_lt, iI_le, iI_eq, iI_in, iI_clamp, iI_mx, iI_mn, iI_nI, Int.toNat_natCast, forall_eq, br_1, br_2, br_3, br_4, br_in, br_5, br_6, br_7, br_8, ex_c, br_nl, br_le, br_ne, gp_1, gp_2, gp_3, gf_1, gf_2, ix_0, ix_1, ix_2, ix_3, tn_1, tn_2, pp_1, m_isS_y hM hG hj, m_in_y, m_in_n, u1.1, u2, u3, u4, u5, hM.2.2.2.2.1, u2]
        exact m_refused hQ (RM.r _)
theorem op_bounds {mk : Nat} {S : Gs} {M : Mem} (hC : CS mk S M) (hG : GI S) (a b e : Int32) : Good mk S (fun Q => wpX3_bounds mk M a b e Q) (fun M1 Q => wpX4_bounds M1 a b e Q) M := by
  obtain ⟨z, rfl, hz⟩ := iI_of a
  obtain ⟨q, rfl, hq⟩ := iI_of b
  obtain ⟨w, rfl, hw⟩ := iI_of e
  by_cases c0 : ¬ (0 ≤ z ∧ z < gk S)
  · refine Good.ro (iI (-1)) 1 hC hG (by omega) (fun Q hQ => ?_) (fun M1 hM Q hQ => ?_)
    · simp only [wpX3_bounds, iI_lit, c_find_n hC hG hz c0, o_none, o_none2, c_refuse]
      exact hQ _ (RC.p (RC.r _)) gp_1
    · unfold wpX4_bounds
      refine mo_1 hM hQ (fun M0 hM hQ => ?_)
      simp (disch := omega) only [iI_lit, iI_neg, iI_add, iI_sub, iI_mul, iI_lt, iI_le, iI_eq, iI_in, iI_clamp, iI_mx, iI_mn, iI_nI, Int.toNat_natCast, forall_eq, br_1, br_2, br_3, br_4, br_in, br_5, br_6, br_7, br_8, ex_c, br_nl, br_le, br_ne, gp_1, gp_2, gp_3, gf_1, gf_2, m_isS_n hM hG hz c0]
      exact m_refused hQ (RM.r _)
  obtain ⟨j, rfl⟩ : ∃ j : Nat, z = j := ⟨z.toNat, by omega⟩
  have hj : j < gk S := by omega
  have hk := hG.1
  have hT := hC.ct hj
  have hS := hG.si hj
  have hE := hG.er hj
  obtain ⟨x, hx⟩ : ∃ x, gT S j = x := ⟨_, rfl⟩
  rw [hx] at hT hS
  have hN := hS.1.1
  have hn := hS.1.2.1
  obtain ⟨t1, t2, t3, t4, t5, t6⟩ := hT
  by_cases c1 : 0 ≤ w ∧ w ≤ 1
  · by_cases c2 : 1 ≤ q ∧ q ≤ tN x
    · have hp := hS.1.pos (by omega)
      by_cases c3 : w = 0
      · have f1 := flr_lt (l := tl x) (d := td x) (r := q) (tn x) hp
        have f2 := (t6.2 _ f1).1
        have hf := fun Q' : Qi => e_floorAt (Q := Q') t6 hS.1 (lo := 0) (r := q) (by omega) hp (Or.inr rfl)
        simp only [Int.natCast_zero] at hf
        refine Good.ro (iI (tv x (flr (tl x) (td x) q (tn x)))) 0 hC hG (by omega) (fun Q hQ => ?_) (fun M1 hM Q hQ => ?_)
        · simp only [wpX3_bounds, c_find_y hC hG hj, o_some]
          simp (disch := omega) only [iI_lit, iI_neg, iI_add, iI_sub, iI_mul, iI_lt, iI_le, iI_eq, iI_in, iI_clamp, iI_mx, iI_mn, iI_nI, Int.toNat_natCast, forall_eq, br_1, br_2, br_3, br_4, br_in, br_5, br_6, br_7, br_8, ex_c, br_nl, br_le, br_ne, gp_1, gp_2, gp_3, gf_1, gf_2, c_pass, c_refuse, t1, t2, t3, t4, hC.2.2.1, c_isPlace_y t1 hN, hf, f2]
          exact hQ _ (RC.p (RC.r _)) gp_1
        · unfold wpX4_bounds
          refine mo_1 hM hQ (fun M0 hM hQ => ?_)
          have hMT := hM.mt hj
          rw [hx] at hMT
          obtain ⟨u1, u2, u3, u4, u5, u6⟩ := hMT
          simp (disch := omega) only [iI_lit, iI_neg, iI_add, iI_sub, iI_mul, iI_lt, iI_le, iI_eq, iI_in, iI_clamp, iI_mx, iI_mn, iI_nI, Int.toNat_natCast, forall_eq, br_1, br_2, br_3, br_4, br_in, br_5, br_6, br_7, br_8, ex_c, br_nl, br_le, br_ne, gp_1, gp_2, gp_3, gf_1, gf_2, ix_0, ix_1, ix_2, ix_3, tn_1, tn_2, pp_1, m_isS_y hM hG hj, m_in_y, m_in_n, u1.1, u2, u3, u4, u5, hM.2.2.2.2.1, m_isPlace_y (show j < 6 by omega) u2 hN, m_floorOf (show j < 6 by omega) u1 hS.1]
          exact m_good hQ (RM.r _)
      · have f1 := cei_lt hS.1 (r := q) c2
        have f2 := (t6.2 _ f1).1
        have hf := fun Q' : Qi => e_ceilingAt (Q := Q') t6 hS.1 (lo := 0) (r := q) c2 hp (fun i hi => by omega)
        simp only [Int.natCast_zero] at hf
        refine Good.ro (iI (tv x (cei (tl x) q (tn x)))) 0 hC hG (by omega) (fun Q hQ => ?_) (fun M1 hM Q hQ => ?_)
        · simp only [wpX3_bounds, c_find_y hC hG hj, o_some]
          simp (disch := omega) only [iI_lit, iI_neg, iI_add, iI_sub, iI_mul, iI_lt, iI_le, iI_eq, iI_in, iI_clamp, iI_mx, iI_mn, iI_nI, Int.toNat_natCast, forall_eq, br_1, br_2, br_3, br_4, br_in, br_5, br_6, br_7, br_8, ex_c, br_nl, br_le, br_ne, gp_1, gp_2, gp_3, gf_1, gf_2, c_pass, c_refuse, t1, t2, t3, t4, hC.2.2.1, c_isPlace_y t1 hN, hf, f2]
          exact hQ _ (RC.p (RC.r _)) gp_1
        · unfold wpX4_bounds
          refine mo_1 hM hQ (fun M0 hM hQ => ?_)
          have hMT := hM.mt hj
          rw [hx] at hMT
          obtain ⟨u1, u2, u3, u4, u5, u6⟩ := hMT
          simp (disch := omega) only [iI_lit, iI_neg, iI_add, iI_sub, iI_mul, iI_lt, iI_le, iI_eq, iI_in, iI_clamp, iI_mx, iI_mn, iI_nI, Int.toNat_natCast, forall_eq, br_1, br_2, br_3, br_4, br_in, br_5, br_6, br_7, br_8, ex_c, br_nl, br_le, br_ne, gp_1, gp_2, gp_3, gf_1, gf_2, ix_0, ix_1, ix_2, ix_3, tn_1, tn_2, pp_1, m_isS_y hM hG hj, m_in_y, m_in_n, u1.1, u2, u3, u4, u5, hM.2.2.2.2.1, m_isPlace_y (show j < 6 by omega) u2 hN, m_ceilingOf (show j < 6 by omega) u1 hS.1]
          exact m_good hQ (RM.r _)
    · skip
      refine Good.ro (iI (-1)) 2 hC hG (by omega) (fun Q hQ => ?_) (fun M1 hM Q hQ => ?_)
      · simp only [wpX3_bounds, c_find_y hC hG hj, o_some]
        simp (disch := omega) only [iI_lit, iI_neg, iI_add, iI_sub, iI_mul, iI_lt, iI_le, iI_eq, iI_in, iI_clamp, iI_mx, iI_mn, iI_nI, Int.toNat_natCast, forall_eq, br_1, br_2, br_3, br_4, br_in, br_5, br_6, br_7, br_8, ex_c, br_nl, br_le, br_ne, gp_1, gp_2, gp_3, gf_1, gf_2, c_pass, c_refuse, t1, t2, t3, t4, hC.2.2.1, c_isPlace_n t1 hN]
        exact hQ _ (RC.p (RC.r _)) gp_1
      · unfold wpX4_bounds
        refine mo_1 hM hQ (fun M0 hM hQ => ?_)
        have hMT := hM.mt hj
        rw [hx] at hMT
        obtain ⟨u1, u2, u3, u4, u5, u6⟩ := hMT
        simp (disch := omega) only [iI_lit, iI_neg, iI_add, iI_sub, iI_mul, iI_lt, iI_le, iI_eq, iI_in, iI_clamp, iI_mx, iI_mn, iI_nI, Int.toNat_natCast, forall_eq, br_1, br_2, br_3, br_4, br_in, br_5, br_6, br_7, br_8, ex_c, br_nl, br_le, br_ne, gp_1, gp_2, gp_3, gf_1, gf_2, ix_0, ix_1, ix_2, ix_3, tn_1, tn_2, pp_1, m_isS_y hM hG hj, m_in_y, m_in_n, u1.1, u2, u3, u4, u5, hM.2.2.2.2.1, m_isPlace_n (show j < 6 by omega) u2 hN]
        exact m_refused hQ (RM.r _)
  · by_cases c2 : w < 0
    · skip
      refine Good.ro (iI (-1)) 1 hC hG (by omega) (fun Q hQ => ?_) (fun M1 hM Q hQ => ?_)
      · simp only [wpX3_bounds, c_find_y hC hG hj, o_some]
        simp (disch := omega) only [iI_lit, iI_neg, iI_add, iI_sub, iI_mul, iI_lt, iI_le, iI_eq, iI_in, iI_clamp, iI_mx, iI_mn, iI_nI, Int.toNat_natCast, forall_eq, br_1, br_2, br_3, br_4, br_in, br_5, br_6, br_7, br_8, ex_c, br_nl, br_le, br_ne, gp_1, gp_2, gp_3, gf_1, gf_2, c_pass, c_refuse, t1, t2, t3, t4, hC.2.2.1, t1]
        exact hQ _ (RC.p (RC.r _)) gp_1
      · unfold wpX4_bounds
        refine mo_1 hM hQ (fun M0 hM hQ => ?_)
        have hMT := hM.mt hj
        rw [hx] at hMT
        obtain ⟨u1, u2, u3, u4, u5, u6⟩ := hMT
        simp (disch := omega) only [iI_lit, iI_neg, iI_add, iI_sub, iI_mul, iI_lt, iI_le, iI_eq, iI_in, iI_clamp, iI_mx, iI_mn, iI_nI, Int.toNat_natCast, forall_eq, br_1, br_2, br_3, br_4, br_in, br_5, br_6, br_7, br_8, ex_c, br_nl, br_le, br_ne, gp_1, gp_2, gp_3, gf_1, gf_2, ix_0, ix_1, ix_2, ix_3, tn_1, tn_2, pp_1, m_isS_y hM hG hj, m_in_y, m_in_n, u1.1, u2, u3, u4, u5, hM.2.2.2.2.1, u2]
        exact m_refused hQ (RM.r _)
    · skip
      refine Good.ro (iI (-1)) 1 hC hG (by omega) (fun Q hQ => ?_) (fun M1 hM Q hQ => ?_)
      · simp only [wpX3_bounds, c_find_y hC hG hj, o_some]
        simp (disch := omega) only [iI_lit, iI_neg, iI_add, iI_sub, iI_mul, iI_lt, iI_le, iI_eq, iI_in, iI_clamp, iI_mx, iI_mn, iI_nI, Int.toNat_natCast, forall_eq, br_1, br_2, br_3, br_4, br_in, br_5, br_6, br_7, br_8, ex_c, br_nl, br_le, br_ne, gp_1, gp_2, gp_3, gf_1, gf_2, c_pass, c_refuse, t1, t2, t3, t4, hC.2.2.1, t1]
        exact hQ _ (RC.p (RC.r _)) gp_1
      · unfold wpX4_bounds
        refine mo_1 hM hQ (fun M0 hM hQ => ?_)
        have hMT := hM.mt hj
        rw [hx] at hMT
        obtain ⟨u1, u2, u3, u4, u5, u6⟩ := hMT
        simp (disch := omega) only [iI_lit, iI_neg, iI_add, iI_sub, iI_mul, iI_lt, iI_le, iI_eq, iI_in, iI_clamp, iI_mx, iI_mn, iI_nI, Int.toNat_natCast, forall_eq, br_1, br_2, br_3, br_4, br_in, br_5, br_6, br_7, br_8, ex_c, br_nl, br_le, br_ne, gp_1, gp_2, gp_3, gf_1, gf_2, ix_0, ix_1, ix_2, ix_3, tn_1, tn_2, pp_1, m_isS_y hM hG hj, m_in_y, m_in_n, u1.1, u2, u3, u4, u5, hM.2.2.2.2.1, u2]
        exact m_refused hQ (RM.r _)
theorem op_answer {mk : Nat} {S : Gs} {M : Mem} (hC : CS mk S M) (hG : GI S) (a b e : Int32) : Good mk S (fun Q => wpX3_answer mk M a b e Q) (fun M1 Q => wpX4_answer M1 a b e Q) M := by
  obtain ⟨z, rfl, hz⟩ := iI_of a
  obtain ⟨q, rfl, hq⟩ := iI_of b
  obtain ⟨w, rfl, hw⟩ := iI_of e
  by_cases c0 : ¬ (0 ≤ z ∧ z < gk S)
  · refine Good.ro (iI (-1)) 1 hC hG (by omega) (fun Q hQ => ?_) (fun M1 hM Q hQ => ?_)
    · simp only [wpX3_answer, iI_lit, c_find_n hC hG hz c0, o_none, o_none2, c_refuse]
      exact hQ _ (RC.p (RC.r _)) gp_1
    · unfold wpX4_answer
      refine mo_1 hM hQ (fun M0 hM hQ => ?_)
      simp (disch := omega) only [iI_lit, iI_neg, iI_add, iI_sub, iI_mul, iI_lt, iI_le, iI_eq, iI_in, iI_clamp, iI_mx, iI_mn, iI_nI, Int.toNat_natCast, forall_eq, br_1, br_2, br_3, br_4, br_in, br_5, br_6, br_7, br_8, ex_c, br_nl, br_le, br_ne, gp_1, gp_2, gp_3, gf_1, gf_2, m_isS_n hM hG hz c0]
      exact m_refused hQ (RM.r _)
  obtain ⟨j, rfl⟩ : ∃ j : Nat, z = j := ⟨z.toNat, by omega⟩
  have hj : j < gk S := by omega
  have hk := hG.1
  have hT := hC.ct hj
  have hS := hG.si hj
  have hE := hG.er hj
  obtain ⟨x, hx⟩ : ∃ x, gT S j = x := ⟨_, rfl⟩
  rw [hx] at hT hS
  have hN := hS.1.1
  have hn := hS.1.2.1
  obtain ⟨t1, t2, t3, t4, t5, t6⟩ := hT
  by_cases c1 : 0 ≤ w ∧ w ≤ 2
  · by_cases c2 : 1 ≤ q ∧ q ≤ tN x
    · have hp := hS.1.pos (by omega)
      have f1 := ans_lt (l := tl x) (d := td x) hp q
      have f2 := (t6.2 _ f1).1
      by_cases c3 : w = 0
      · skip
        refine Good.ro (iI (tv x (ans (tl x) (td x) (tn x) q))) 0 hC hG (by omega) (fun Q hQ => ?_) (fun M1 hM Q hQ => ?_)
        · simp only [wpX3_answer, c_find_y hC hG hj, o_some]
          simp (disch := omega) only [iI_lit, iI_neg, iI_add, iI_sub, iI_mul, iI_lt, iI_le, iI_eq, iI_in, iI_clamp, iI_mx, iI_mn, iI_nI, Int.toNat_natCast, forall_eq, br_1, br_2, br_3, br_4, br_in, br_5, br_6, br_7, br_8, ex_c, br_nl, br_le, br_ne, gp_1, gp_2, gp_3, gf_1, gf_2, c_pass, c_refuse, t1, t2, t3, t4, hC.2.2.1, c_isPlace_y t1 hN, e_nearest0 t6 hS.1, f2]
          exact hQ _ (RC.p (RC.r _)) gp_1
        · unfold wpX4_answer
          refine mo_1 hM hQ (fun M0 hM hQ => ?_)
          have hMT := hM.mt hj
          rw [hx] at hMT
          obtain ⟨u1, u2, u3, u4, u5, u6⟩ := hMT
          simp (disch := omega) only [iI_lit, iI_neg, iI_add, iI_sub, iI_mul, iI_lt, iI_le, iI_eq, iI_in, iI_clamp, iI_mx, iI_mn, iI_nI, Int.toNat_natCast, forall_eq, br_1, br_2, br_3, br_4, br_in, br_5, br_6, br_7, br_8, ex_c, br_nl, br_le, br_ne, gp_1, gp_2, gp_3, gf_1, gf_2, ix_0, ix_1, ix_2, ix_3, tn_1, tn_2, pp_1, m_isS_y hM hG hj, m_in_y, m_in_n, u1.1, u2, u3, u4, u5, hM.2.2.2.2.1, m_isPlace_y (show j < 6 by omega) u2 hN, m_answers (show j < 6 by omega) u1 hS.1, (u1.2 _ f1).1]
          exact m_good hQ (RM.p (RM.r _) (by omega))
      · by_cases c4 : w = 1
        · skip
          refine Good.ro (iI (off (tl x) (td x) q (ans (tl x) (td x) (tn x) q))) 0 hC hG (by omega) (fun Q hQ => ?_) (fun M1 hM Q hQ => ?_)
          · simp only [wpX3_answer, c_find_y hC hG hj, o_some]
            simp (disch := omega) only [iI_lit, iI_neg, iI_add, iI_sub, iI_mul, iI_lt, iI_le, iI_eq, iI_in, iI_clamp, iI_mx, iI_mn, iI_nI, Int.toNat_natCast, forall_eq, br_1, br_2, br_3, br_4, br_in, br_5, br_6, br_7, br_8, ex_c, br_nl, br_le, br_ne, gp_1, gp_2, gp_3, gf_1, gf_2, c_pass, c_refuse, t1, t2, t3, t4, hC.2.2.1, c_isPlace_y t1 hN, e_nearest0 t6 hS.1, e_offBy t6 hS.1]
            exact hQ _ (RC.p (RC.r _)) gp_1
          · unfold wpX4_answer
            refine mo_1 hM hQ (fun M0 hM hQ => ?_)
            have hMT := hM.mt hj
            rw [hx] at hMT
            obtain ⟨u1, u2, u3, u4, u5, u6⟩ := hMT
            simp (disch := omega) only [iI_lit, iI_neg, iI_add, iI_sub, iI_mul, iI_lt, iI_le, iI_eq, iI_in, iI_clamp, iI_mx, iI_mn, iI_nI, Int.toNat_natCast, forall_eq, br_1, br_2, br_3, br_4, br_in, br_5, br_6, br_7, br_8, ex_c, br_nl, br_le, br_ne, gp_1, gp_2, gp_3, gf_1, gf_2, ix_0, ix_1, ix_2, ix_3, tn_1, tn_2, pp_1, m_isS_y hM hG hj, m_in_y, m_in_n, u1.1, u2, u3, u4, u5, hM.2.2.2.2.1, m_isPlace_y (show j < 6 by omega) u2 hN, m_answers (show j < 6 by omega) u1 hS.1]
            exact m_good hQ (RM.p (RM.r _) (by omega))
        · skip
          refine Good.ro (iI (ans (tl x) (td x) (tn x) q)) 0 hC hG (by omega) (fun Q hQ => ?_) (fun M1 hM Q hQ => ?_)
          · simp only [wpX3_answer, c_find_y hC hG hj, o_some]
            simp (disch := omega) only [iI_lit, iI_neg, iI_add, iI_sub, iI_mul, iI_lt, iI_le, iI_eq, iI_in, iI_clamp, iI_mx, iI_mn, iI_nI, Int.toNat_natCast, forall_eq, br_1, br_2, br_3, br_4, br_in, br_5, br_6, br_7, br_8, ex_c, br_nl, br_le, br_ne, gp_1, gp_2, gp_3, gf_1, gf_2, c_pass, c_refuse, t1, t2, t3, t4, hC.2.2.1, c_isPlace_y t1 hN, e_nearest0 t6 hS.1]
            exact hQ _ (RC.p (RC.r _)) gp_1
          · unfold wpX4_answer
            refine mo_1 hM hQ (fun M0 hM hQ => ?_)
            have hMT := hM.mt hj
            rw [hx] at hMT
            obtain ⟨u1, u2, u3, u4, u5, u6⟩ := hMT
            simp (disch := omega) only [iI_lit, iI_neg, iI_add, iI_sub, iI_mul, iI_lt, iI_le, iI_eq, iI_in, iI_clamp, iI_mx, iI_mn, iI_nI, Int.toNat_natCast, forall_eq, br_1, br_2, br_3, br_4, br_in, br_5, br_6, br_7, br_8, ex_c, br_nl, br_le, br_ne, gp_1, gp_2, gp_3, gf_1, gf_2, ix_0, ix_1, ix_2, ix_3, tn_1, tn_2, pp_1, m_isS_y hM hG hj, m_in_y, m_in_n, u1.1, u2, u3, u4, u5, hM.2.2.2.2.1, m_isPlace_y (show j < 6 by omega) u2 hN, m_answers (show j < 6 by omega) u1 hS.1]
            exact m_good hQ (RM.p (RM.r _) (by omega))
    · skip
      refine Good.ro (iI (-1)) 2 hC hG (by omega) (fun Q hQ => ?_) (fun M1 hM Q hQ => ?_)
      · simp only [wpX3_answer, c_find_y hC hG hj, o_some]
        simp (disch := omega) only [iI_lit, iI_neg, iI_add, iI_sub, iI_mul, iI_lt, iI_le, iI_eq, iI_in, iI_clamp, iI_mx, iI_mn, iI_nI, Int.toNat_natCast, forall_eq, br_1, br_2, br_3, br_4, br_in, br_5, br_6, br_7, br_8, ex_c, br_nl, br_le, br_ne, gp_1, gp_2, gp_3, gf_1, gf_2, c_pass, c_refuse, t1, t2, t3, t4, hC.2.2.1, c_isPlace_n t1 hN]
        exact hQ _ (RC.p (RC.r _)) gp_1
      · unfold wpX4_answer
        refine mo_1 hM hQ (fun M0 hM hQ => ?_)
        have hMT := hM.mt hj
        rw [hx] at hMT
        obtain ⟨u1, u2, u3, u4, u5, u6⟩ := hMT
        simp (disch := omega) only [iI_lit, iI_neg, iI_add, iI_sub, iI_mul, iI_lt, iI_le, iI_eq, iI_in, iI_clamp, iI_mx, iI_mn, iI_nI, Int.toNat_natCast, forall_eq, br_1, br_2, br_3, br_4, br_in, br_5, br_6, br_7, br_8, ex_c, br_nl, br_le, br_ne, gp_1, gp_2, gp_3, gf_1, gf_2, ix_0, ix_1, ix_2, ix_3, tn_1, tn_2, pp_1, m_isS_y hM hG hj, m_in_y, m_in_n, u1.1, u2, u3, u4, u5, hM.2.2.2.2.1, m_isPlace_n (show j < 6 by omega) u2 hN]
        exact m_refused hQ (RM.r _)
  · by_cases c2 : w < 0
    · skip
      refine Good.ro (iI (-1)) 1 hC hG (by omega) (fun Q hQ => ?_) (fun M1 hM Q hQ => ?_)
      · simp only [wpX3_answer, c_find_y hC hG hj, o_some]
        simp (disch := omega) only [iI_lit, iI_neg, iI_add, iI_sub, iI_mul, iI_lt, iI_le, iI_eq, iI_in, iI_clamp, iI_mx, iI_mn, iI_nI, Int.toNat_natCast, forall_eq, br_1, br_2, br_3, br_4, br_in, br_5, br_6, br_7, br_8, ex_c, br_nl, br_le, br_ne, gp_1, gp_2, gp_3, gf_1, gf_2, c_pass, c_refuse, t1, t2, t3, t4, hC.2.2.1, t1]
        exact hQ _ (RC.p (RC.r _)) gp_1
      · unfold wpX4_answer
        refine mo_1 hM hQ (fun M0 hM hQ => ?_)
        have hMT := hM.mt hj
        rw [hx] at hMT
        obtain ⟨u1, u2, u3, u4, u5, u6⟩ := hMT
        simp (disch := omega) only [iI_lit, iI_neg, iI_add, iI_sub, iI_mul, iI_lt, iI_le, iI_eq, iI_in, iI_clamp, iI_mx, iI_mn, iI_nI, Int.toNat_natCast, forall_eq, br_1, br_2, br_3, br_4, br_in, br_5, br_6, br_7, br_8, ex_c, br_nl, br_le, br_ne, gp_1, gp_2, gp_3, gf_1, gf_2, ix_0, ix_1, ix_2, ix_3, tn_1, tn_2, pp_1, m_isS_y hM hG hj, m_in_y, m_in_n, u1.1, u2, u3, u4, u5, hM.2.2.2.2.1, u2]
        exact m_refused hQ (RM.r _)
    · skip
      refine Good.ro (iI (-1)) 1 hC hG (by omega) (fun Q hQ => ?_) (fun M1 hM Q hQ => ?_)
      · simp only [wpX3_answer, c_find_y hC hG hj, o_some]
        simp (disch := omega) only [iI_lit, iI_neg, iI_add, iI_sub, iI_mul, iI_lt, iI_le, iI_eq, iI_in, iI_clamp, iI_mx, iI_mn, iI_nI, Int.toNat_natCast, forall_eq, br_1, br_2, br_3, br_4, br_in, br_5, br_6, br_7, br_8, ex_c, br_nl, br_le, br_ne, gp_1, gp_2, gp_3, gf_1, gf_2, c_pass, c_refuse, t1, t2, t3, t4, hC.2.2.1, t1]
        exact hQ _ (RC.p (RC.r _)) gp_1
      · unfold wpX4_answer
        refine mo_1 hM hQ (fun M0 hM hQ => ?_)
        have hMT := hM.mt hj
        rw [hx] at hMT
        obtain ⟨u1, u2, u3, u4, u5, u6⟩ := hMT
        simp (disch := omega) only [iI_lit, iI_neg, iI_add, iI_sub, iI_mul, iI_lt, iI_le, iI_eq, iI_in, iI_clamp, iI_mx, iI_mn, iI_nI, Int.toNat_natCast, forall_eq, br_1, br_2, br_3, br_4, br_in, br_5, br_6, br_7, br_8, ex_c, br_nl, br_le, br_ne, gp_1, gp_2, gp_3, gf_1, gf_2, ix_0, ix_1, ix_2, ix_3, tn_1, tn_2, pp_1, m_isS_y hM hG hj, m_in_y, m_in_n, u1.1, u2, u3, u4, u5, hM.2.2.2.2.1, u2]
        exact m_refused hQ (RM.r _)
