theorem l_mmeets {M : Mem} {Q : Qi} {b1 b2 n1 n2 N1 N2 sh : Nat} {v1 l1 d1 v2 l2 d2 : Nat → Int} {w : Int} (hw : 0 ≤ w ∧ w ≤ 2) (hs : 1 ≤ sh ∧ sh ≤ 100) (hb1 : b1 < 6) (hb2 : b2 < 6) (e1 : gI M 224 b1 = iI N1) (e2 : gI M 224 b2 = iI N2) (h1 : MR M b1 n1 v1 l1 d1) (h2 : MR M b2 n2 v2 l2 d2) (hR : RI N1 n1 v1 l1 d1) (hS : RI N2 n2 v2 l2 d2) (p1 : 0 < N1) (p2 : 0 < N2)
    (hQ : ∀ y, wpX4_good (pI M 200 31 y) (iI (fct (mP v1 l1 d1 v2 l2 d2 n1 n2 N1 N2 sh w) (sh + 1))) Q) :
    ∀ f k y, sh + 1 - k = f → k ≤ sh + 1 → ∃ m, wX4_meets_76 Q (iI b1) (iI b2) (iI sh) (iI w) m (pI M 200 31 y) (iI (fct (mP v1 l1 d1 v2 l2 d2 n1 n2 N1 N2 sh w) k)) (iI (k : Nat)) := by
  have hN1 := hR.1
  have hN2 := hS.1
  intro f
  induction f with
  | zero =>
    intro k y hf hk
    have e : k = sh + 1 := by omega
    subst e
    rw [ex_s rfl]
    simp only [wX4_meets_76]
    simp (disch := omega) only [iI_lit, iI_neg, iI_add, iI_sub, iI_mul, iI_lt, iI_le, iI_eq, iI_in, iI_clamp, iI_mx, iI_mn, iI_nI, Int.toNat_natCast, forall_eq, br_1, br_2, br_3, br_4, br_in, br_5, br_6, br_7, br_8, ex_c, br_nl, br_le, br_ne, gp_1, gp_2, gp_3, gf_1, gf_2, ix_0, ix_1, ix_2, ix_3, tn_1, tn_2, pp_1]
    exact hQ y
  | succ f ih =>
    intro k y hf hk
    have g1 : ∀ y, MR (pI M 200 31 y) b1 n1 v1 l1 d1 := fun y => h1.p
    have g2 : ∀ y, MR (pI M 200 31 y) b2 n2 v2 l2 d2 := fun y => h2.p
    have g3 : ∀ y, gI (pI M 200 31 y) 224 b1 = iI N1 := fun y => by simp (disch := omega) only [iI_lit, iI_neg, iI_add, iI_sub, iI_mul, iI_lt, iI_le, iI_eq, iI_in, iI_clamp, iI_mx, iI_mn, iI_nI, Int.toNat_natCast, forall_eq, br_1, br_2, br_3, br_4, br_in, br_5, br_6, br_7, br_8, ex_c, br_nl, br_le, br_ne, gp_1, gp_2, gp_3, gf_1, gf_2]; exact e1
    have g4 : ∀ y, gI (pI M 200 31 y) 224 b2 = iI N2 := fun y => by simp (disch := omega) only [iI_lit, iI_neg, iI_add, iI_sub, iI_mul, iI_lt, iI_le, iI_eq, iI_in, iI_clamp, iI_mx, iI_mn, iI_nI, Int.toNat_natCast, forall_eq, br_1, br_2, br_3, br_4, br_in, br_5, br_6, br_7, br_8, ex_c, br_nl, br_le, br_ne, gp_1, gp_2, gp_3, gf_1, gf_2]; exact e2
    have r1 := qv_b hR p1 k sh
    have r2 := qv_b hS p2 k sh
    have this := fun y => ih (k + 1) y (by omega) (by omega)
    rw [fct, mP] at this
    simp only [show ((k + 1 : Nat) : Int) - 1 = k by omega] at this
    rw [ex_s rfl]
    simp only [wX4_meets_76]
    by_cases w0 : w = 0
    · by_cases t : qv v1 l1 d1 n1 N1 k sh = qv v2 l2 d2 n2 N2 k sh
      · simp (disch := omega) only [iI_lit, iI_neg, iI_add, iI_sub, iI_mul, iI_lt, iI_le, iI_eq, iI_in, iI_clamp, iI_mx, iI_mn, iI_nI, Int.toNat_natCast, forall_eq, br_1, br_2, br_3, br_4, br_in, br_5, br_6, br_7, br_8, ex_c, br_nl, br_le, br_ne, gp_1, gp_2, gp_3, gf_1, gf_2, ix_0, ix_1, ix_2, ix_3, tn_1, tn_2, pp_1, m_quotaValue hb1 (g1 _) (g3 _) hR p1, m_quotaValue hb2 (g2 _) (g4 _) hS p2]
        simpa [w0, t] using this _
      · simp (disch := omega) only [iI_lit, iI_neg, iI_add, iI_sub, iI_mul, iI_lt, iI_le, iI_eq, iI_in, iI_clamp, iI_mx, iI_mn, iI_nI, Int.toNat_natCast, forall_eq, br_1, br_2, br_3, br_4, br_in, br_5, br_6, br_7, br_8, ex_c, br_nl, br_le, br_ne, gp_1, gp_2, gp_3, gf_1, gf_2, ix_0, ix_1, ix_2, ix_3, tn_1, tn_2, pp_1, m_quotaValue hb1 (g1 _) (g3 _) hR p1, m_quotaValue hb2 (g2 _) (g4 _) hS p2]
        simpa [w0, t] using this _
    · by_cases w1 : w = 1
      · by_cases t : qv v1 l1 d1 n1 N1 k sh < qv v2 l2 d2 n2 N2 k sh
        · simp (disch := omega) only [iI_lit, iI_neg, iI_add, iI_sub, iI_mul, iI_lt, iI_le, iI_eq, iI_in, iI_clamp, iI_mx, iI_mn, iI_nI, Int.toNat_natCast, forall_eq, br_1, br_2, br_3, br_4, br_in, br_5, br_6, br_7, br_8, ex_c, br_nl, br_le, br_ne, gp_1, gp_2, gp_3, gf_1, gf_2, ix_0, ix_1, ix_2, ix_3, tn_1, tn_2, pp_1, m_quotaValue hb1 (g1 _) (g3 _) hR p1, m_quotaValue hb2 (g2 _) (g4 _) hS p2]
          simpa [w1, t] using this _
        · simp (disch := omega) only [iI_lit, iI_neg, iI_add, iI_sub, iI_mul, iI_lt, iI_le, iI_eq, iI_in, iI_clamp, iI_mx, iI_mn, iI_nI, Int.toNat_natCast, forall_eq, br_1, br_2, br_3, br_4, br_in, br_5, br_6, br_7, br_8, ex_c, br_nl, br_le, br_ne, gp_1, gp_2, gp_3, gf_1, gf_2, ix_0, ix_1, ix_2, ix_3, tn_1, tn_2, pp_1, m_quotaValue hb1 (g1 _) (g3 _) hR p1, m_quotaValue hb2 (g2 _) (g4 _) hS p2]
          simpa [w1, t] using this _
      · by_cases t : qv v2 l2 d2 n2 N2 k sh < qv v1 l1 d1 n1 N1 k sh
        · simp (disch := omega) only [iI_lit, iI_neg, iI_add, iI_sub, iI_mul, iI_lt, iI_le, iI_eq, iI_in, iI_clamp, iI_mx, iI_mn, iI_nI, Int.toNat_natCast, forall_eq, br_1, br_2, br_3, br_4, br_in, br_5, br_6, br_7, br_8, ex_c, br_nl, br_le, br_ne, gp_1, gp_2, gp_3, gf_1, gf_2, ix_0, ix_1, ix_2, ix_3, tn_1, tn_2, pp_1, m_quotaValue hb1 (g1 _) (g3 _) hR p1, m_quotaValue hb2 (g2 _) (g4 _) hS p2]
          simpa [w0, w1, t] using this _
        · simp (disch := omega) only [iI_lit, iI_neg, iI_add, iI_sub, iI_mul, iI_lt, iI_le, iI_eq, iI_in, iI_clamp, iI_mx, iI_mn, iI_nI, Int.toNat_natCast, forall_eq, br_1, br_2, br_3, br_4, br_in, br_5, br_6, br_7, br_8, ex_c, br_nl, br_le, br_ne, gp_1, gp_2, gp_3, gf_1, gf_2, ix_0, ix_1, ix_2, ix_3, tn_1, tn_2, pp_1, m_quotaValue hb1 (g1 _) (g3 _) hR p1, m_quotaValue hb2 (g2 _) (g4 _) hS p2]
          simpa [w0, w1, t] using this _
theorem op_meets {mk : Nat} {S : Gs} {M : Mem} (hC : CS mk S M) (hG : GI S) (a b e g : Int32) : Good mk S (fun Q => wpX3_meets mk M a b e g Q) (fun M1 Q => wpX4_meets M1 a b e g Q) M := by
  obtain ⟨z, rfl, hz⟩ := iI_of a
  obtain ⟨y, rfl, hy⟩ := iI_of b
  obtain ⟨sh, rfl, hsh⟩ := iI_of e
  obtain ⟨w, rfl, hw⟩ := iI_of g
  by_cases c0 : ¬ (0 ≤ z ∧ z < gk S ∧ 0 ≤ y ∧ y < gk S ∧ ¬ z = y)
  · refine Good.ro (iI (-1)) 1 hC hG (by omega) (fun Q hQ => ?_) (fun M1 hM Q hQ => ?_)
    · unfold wpX3_meets
      rw [c_two_n hC hG hz hy c0]
      exact hQ _ (RC.p (RC.r _)) gp_1
    · unfold wpX4_meets
      refine mo_1 hM hQ (fun M0 hM hQ => ?_)
      simp (disch := omega) only [iI_lit, iI_neg, iI_add, iI_sub, iI_mul, iI_lt, iI_le, iI_eq, iI_in, iI_clamp, iI_mx, iI_mn, iI_nI, Int.toNat_natCast, forall_eq, br_1, br_2, br_3, br_4, br_in, br_5, br_6, br_7, br_8, ex_c, br_nl, br_le, br_ne, gp_1, gp_2, gp_3, gf_1, gf_2, m_two_n hM hG hz hy c0]
      exact m_refused hQ (RM.r _)
  obtain ⟨j, rfl⟩ : ∃ j : Nat, z = j := ⟨z.toNat, by omega⟩
  obtain ⟨i, rfl⟩ : ∃ j : Nat, y = j := ⟨y.toNat, by omega⟩
  have hj : j < gk S := by omega
  have hi : i < gk S := by omega
  have hji : ¬ j = i := by omega
  have hk := hG.1
  have hT := hC.ct hj
  have hT2 := hC.ct hi
  have hS := hG.si hj
  have hS2 := hG.si hi
  have hE := hG.er hj
  obtain ⟨x, hx⟩ : ∃ x, gT S j = x := ⟨_, rfl⟩
  obtain ⟨y, hy⟩ : ∃ y, gT S i = y := ⟨_, rfl⟩
  rw [hx] at hT hS
  rw [hy] at hT2 hS2
  have hN := hS.1.1
  have hn := hS.1.2.1
  have hN2 := hS2.1.1
  have hn2 := hS2.1.2.1
  obtain ⟨t1, t2, t3, t4, t5, t6⟩ := hT
  obtain ⟨s1, s2, s3, s4, s5, s6⟩ := hT2
  by_cases c1 : 0 ≤ w ∧ w ≤ 2
  · by_cases c2 : 1 ≤ sh ∧ sh ≤ 100
    · by_cases c3 : tN x = 0
      · skip
        refine Good.ro (iI (-1)) 5 hC hG (by omega) (fun Q hQ => ?_) (fun M1 hM Q hQ => ?_)
        · unfold wpX3_meets
          rw [c_two_y hC hG hj hi hji]
          simp (disch := omega) only [iI_lit, iI_neg, iI_add, iI_sub, iI_mul, iI_lt, iI_le, iI_eq, iI_in, iI_clamp, iI_mx, iI_mn, iI_nI, Int.toNat_natCast, forall_eq, br_1, br_2, br_3, br_4, br_in, br_5, br_6, br_7, br_8, ex_c, br_nl, br_le, br_ne, gp_1, gp_2, gp_3, gf_1, gf_2, c_pass, c_refuse, t1, s1, hC.2.2.1, c_isShare_y]
          exact hQ _ (RC.p (RC.r _)) gp_1
        · unfold wpX4_meets
          refine mo_1 hM hQ (fun M0 hM hQ => ?_)
          have hMT := hM.mt hj
          have hMU := hM.mt hi
          rw [hx] at hMT
          rw [hy] at hMU
          obtain ⟨u1, u2, u3, u4, u5, u6⟩ := hMT
          obtain ⟨v1, v2, v3, v4, v5, v6⟩ := hMU
          simp (disch := omega) only [iI_lit, iI_neg, iI_add, iI_sub, iI_mul, iI_lt, iI_le, iI_eq, iI_in, iI_clamp, iI_mx, iI_mn, iI_nI, Int.toNat_natCast, forall_eq, br_1, br_2, br_3, br_4, br_in, br_5, br_6, br_7, br_8, ex_c, br_nl, br_le, br_ne, gp_1, gp_2, gp_3, gf_1, gf_2, ix_0, ix_1, ix_2, ix_3, tn_1, tn_2, pp_1, m_two_y hM hG hj hi hji, m_in_y, m_in_n, u1.1, u2, v2, hM.2.2.2.2.1, u2]
          exact m_refused hQ (RM.r _)
      · by_cases c4 : tN y = 0
        · skip
          refine Good.ro (iI (-1)) 5 hC hG (by omega) (fun Q hQ => ?_) (fun M1 hM Q hQ => ?_)
          · unfold wpX3_meets
            rw [c_two_y hC hG hj hi hji]
            simp (disch := omega) only [iI_lit, iI_neg, iI_add, iI_sub, iI_mul, iI_lt, iI_le, iI_eq, iI_in, iI_clamp, iI_mx, iI_mn, iI_nI, Int.toNat_natCast, forall_eq, br_1, br_2, br_3, br_4, br_in, br_5, br_6, br_7, br_8, ex_c, br_nl, br_le, br_ne, gp_1, gp_2, gp_3, gf_1, gf_2, c_pass, c_refuse, t1, s1, hC.2.2.1, c_isShare_y]
            exact hQ _ (RC.p (RC.r _)) gp_1
          · unfold wpX4_meets
            refine mo_1 hM hQ (fun M0 hM hQ => ?_)
            have hMT := hM.mt hj
            have hMU := hM.mt hi
            rw [hx] at hMT
            rw [hy] at hMU
            obtain ⟨u1, u2, u3, u4, u5, u6⟩ := hMT
            obtain ⟨v1, v2, v3, v4, v5, v6⟩ := hMU
            simp (disch := omega) only [iI_lit, iI_neg, iI_add, iI_sub, iI_mul, iI_lt, iI_le, iI_eq, iI_in, iI_clamp, iI_mx, iI_mn, iI_nI, Int.toNat_natCast, forall_eq, br_1, br_2, br_3, br_4, br_in, br_5, br_6, br_7, br_8, ex_c, br_nl, br_le, br_ne, gp_1, gp_2, gp_3, gf_1, gf_2, ix_0, ix_1, ix_2, ix_3, tn_1, tn_2, pp_1, m_two_y hM hG hj hi hji, m_in_y, m_in_n, u1.1, u2, v2, hM.2.2.2.2.1, u2]
            exact m_refused hQ (RM.r _)
        · obtain ⟨sh, rfl⟩ : ∃ k' : Nat, sh = k' := ⟨sh.toNat, by omega⟩
          have hc := fun Q' : Qi => e_countMeets (Q := Q') c1 (show 1 ≤ sh ∧ sh ≤ 100 by omega) t1 s1 t6 s6 hS.1 hS2.1 (by omega) (by omega)
          refine Good.ro (iI (fct (mP (tv x) (tl x) (td x) (tv y) (tl y) (td y) (tn x) (tn y) (tN x) (tN y) sh w) (sh + 1))) 0 hC hG (by omega) (fun Q hQ => ?_) (fun M1 hM Q hQ => ?_)
          · unfold wpX3_meets
            rw [c_two_y hC hG hj hi hji]
            simp (disch := omega) only [iI_lit, iI_neg, iI_add, iI_sub, iI_mul, iI_lt, iI_le, iI_eq, iI_in, iI_clamp, iI_mx, iI_mn, iI_nI, Int.toNat_natCast, forall_eq, br_1, br_2, br_3, br_4, br_in, br_5, br_6, br_7, br_8, ex_c, br_nl, br_le, br_ne, gp_1, gp_2, gp_3, gf_1, gf_2, c_pass, c_refuse, t1, s1, hC.2.2.1, c_isShare_y, hc]
            exact hQ _ (RC.p (RC.r _)) gp_1
          · unfold wpX4_meets
            refine mo_1 hM hQ (fun M0 hM hQ => ?_)
            have hMT := hM.mt hj
            have hMU := hM.mt hi
            rw [hx] at hMT
            rw [hy] at hMU
            obtain ⟨u1, u2, u3, u4, u5, u6⟩ := hMT
            obtain ⟨v1, v2, v3, v4, v5, v6⟩ := hMU
            simp (disch := omega) only [iI_lit, iI_neg, iI_add, iI_sub, iI_mul, iI_lt, iI_le, iI_eq, iI_in, iI_clamp, iI_mx, iI_mn, iI_nI, Int.toNat_natCast, forall_eq, br_1, br_2, br_3, br_4, br_in, br_5, br_6, br_7, br_8, ex_c, br_nl, br_le, br_ne, gp_1, gp_2, gp_3, gf_1, gf_2, ix_0, ix_1, ix_2, ix_3, tn_1, tn_2, pp_1, m_two_y hM hG hj hi hji, m_in_y, m_in_n, u1.1, u2, v2, hM.2.2.2.2.1, u2]
            have := l_mmeets (M := M0) (Q := Q) c1 (show 1 ≤ sh ∧ sh ≤ 100 by omega) (show j < 6 by omega) (show i < 6 by omega) u2 v2 u1 v1 hS.1 hS2.1 (by omega) (by omega) (fun y' => m_good hQ (RM.p (RM.r _) (by omega))) (sh + 1) 0 (gI M0 200 31) rfl (by omega)
            rw [pp_2] at this
            simpa [fct] using this
    · skip
      refine Good.ro (iI (-1)) 2 hC hG (by omega) (fun Q hQ => ?_) (fun M1 hM Q hQ => ?_)
      · unfold wpX3_meets
        rw [c_two_y hC hG hj hi hji]
        simp (disch := omega) only [iI_lit, iI_neg, iI_add, iI_sub, iI_mul, iI_lt, iI_le, iI_eq, iI_in, iI_clamp, iI_mx, iI_mn, iI_nI, Int.toNat_natCast, forall_eq, br_1, br_2, br_3, br_4, br_in, br_5, br_6, br_7, br_8, ex_c, br_nl, br_le, br_ne, gp_1, gp_2, gp_3, gf_1, gf_2, c_pass, c_refuse, t1, s1, hC.2.2.1, c_isShare_n]
        exact hQ _ (RC.p (RC.r _)) gp_1
      · unfold wpX4_meets
        refine mo_1 hM hQ (fun M0 hM hQ => ?_)
        have hMT := hM.mt hj
        have hMU := hM.mt hi
        rw [hx] at hMT
        rw [hy] at hMU
        obtain ⟨u1, u2, u3, u4, u5, u6⟩ := hMT
        obtain ⟨v1, v2, v3, v4, v5, v6⟩ := hMU
        simp (disch := omega) only [iI_lit, iI_neg, iI_add, iI_sub, iI_mul, iI_lt, iI_le, iI_eq, iI_in, iI_clamp, iI_mx, iI_mn, iI_nI, Int.toNat_natCast, forall_eq, br_1, br_2, br_3, br_4, br_in, br_5, br_6, br_7, br_8, ex_c, br_nl, br_le, br_ne, gp_1, gp_2, gp_3, gf_1, gf_2, ix_0, ix_1, ix_2, ix_3, tn_1, tn_2, pp_1, m_two_y hM hG hj hi hji, m_in_y, m_in_n, u1.1, u2, v2, hM.2.2.2.2.1, u2]
        exact m_refused hQ (RM.r _)
  · by_cases c2 : w < 0
    · skip
      refine Good.ro (iI (-1)) 1 hC hG (by omega) (fun Q hQ => ?_) (fun M1 hM Q hQ => ?_)
      · unfold wpX3_meets
        rw [c_two_y hC hG hj hi hji]
        simp (disch := omega) only [iI_lit, iI_neg, iI_add, iI_sub, iI_mul, iI_lt, iI_le, iI_eq, iI_in, iI_clamp, iI_mx, iI_mn, iI_nI, Int.toNat_natCast, forall_eq, br_1, br_2, br_3, br_4, br_in, br_5, br_6, br_7, br_8, ex_c, br_nl, br_le, br_ne, gp_1, gp_2, gp_3, gf_1, gf_2, c_pass, c_refuse, t1, s1, hC.2.2.1, t1]
        exact hQ _ (RC.p (RC.r _)) gp_1
      · unfold wpX4_meets
        refine mo_1 hM hQ (fun M0 hM hQ => ?_)
        have hMT := hM.mt hj
        have hMU := hM.mt hi
        rw [hx] at hMT
        rw [hy] at hMU
        obtain ⟨u1, u2, u3, u4, u5, u6⟩ := hMT
        obtain ⟨v1, v2, v3, v4, v5, v6⟩ := hMU
        simp (disch := omega) only [iI_lit, iI_neg, iI_add, iI_sub, iI_mul, iI_lt, iI_le, iI_eq, iI_in, iI_clamp, iI_mx, iI_mn, iI_nI, Int.toNat_natCast, forall_eq, br_1, br_2, br_3, br_4, br_in, br_5, br_6, br_7, br_8, ex_c, br_nl, br_le, br_ne, gp_1, gp_2, gp_3, gf_1, gf_2, ix_0, ix_1, ix_2, ix_3, tn_1, tn_2, pp_1, m_two_y hM hG hj hi hji, m_in_y, m_in_n, u1.1, u2, v2, hM.2.2.2.2.1, u2]
        exact m_refused hQ (RM.r _)
    · skip
      refine Good.ro (iI (-1)) 1 hC hG (by omega) (fun Q hQ => ?_) (fun M1 hM Q hQ => ?_)
      · unfold wpX3_meets
        rw [c_two_y hC hG hj hi hji]
        simp (disch := omega) only [iI_lit, iI_neg, iI_add, iI_sub, iI_mul, iI_lt, iI_le, iI_eq, iI_in, iI_clamp, iI_mx, iI_mn, iI_nI, Int.toNat_natCast, forall_eq, br_1, br_2, br_3, br_4, br_in, br_5, br_6, br_7, br_8, ex_c, br_nl, br_le, br_ne, gp_1, gp_2, gp_3, gf_1, gf_2, c_pass, c_refuse, t1, s1, hC.2.2.1, t1]
        exact hQ _ (RC.p (RC.r _)) gp_1
      · unfold wpX4_meets
        refine mo_1 hM hQ (fun M0 hM hQ => ?_)
        have hMT := hM.mt hj
        have hMU := hM.mt hi
        rw [hx] at hMT
        rw [hy] at hMU
        obtain ⟨u1, u2, u3, u4, u5, u6⟩ := hMT
        obtain ⟨v1, v2, v3, v4, v5, v6⟩ := hMU
        simp (disch := omega) only [iI_lit, iI_neg, iI_add, iI_sub, iI_mul, iI_lt, iI_le, iI_eq, iI_in, iI_clamp, iI_mx, iI_mn, iI_nI, Int.toNat_natCast, forall_eq, br_1, br_2, br_3, br_4, br_in, br_5, br_6, br_7, br_8, ex_c, br_nl, br_le, br_ne, gp_1, gp_2, gp_3, gf_1, gf_2, ix_0, ix_1, ix_2, ix_3, tn_1, tn_2, pp_1, m_two_y hM hG hj hi hji, m_in_y, m_in_n, u1.1, u2, v2, hM.2.2.2.2.1, u2]
        exact m_refused hQ (RM.r _)
/-- what one stream's places win over another -/
def wns (v1 l1 d1 v2 l2 d2 : Nat → Int) (n1 n2 : Nat) (N2 : Int) (z : Int32) (r : Nat) : Int := if z = iI 0 then N2 - mst v2 l2 d2 n2 (v1 (cei l1 r n1)) else N2 - sur v2 l2 n2 (v1 (flr l1 d1 r n1))
theorem l_countWins {M : Mem} {Q : Qi} {b1 b2 n1 n2 N1 N2 : Nat} {v1 l1 d1 v2 l2 d2 : Nat → Int} (z : Int32) (h1 : CR M b1 n1 v1 l1 d1) (h2 : CR M b2 n2 v2 l2 d2) (hR : RI N1 n1 v1 l1 d1) (hS : RI N2 n2 v2 l2 d2) :
    ∀ f i a, N1 - i = f → i ≤ N1 → (i < N1 → a < n1) → (¬ z = iI 0 → l1 a + d1 a ≤ i ∨ a = 0) → (z = iI 0 → ∀ j, j < a → l1 j < (i : Int) + 1) → (∃ m, wX3_countWins_20 Q b1 b2 z (iI N1) (iI N2) m M (iI (a : Nat)) (iI (fsm (wns v1 l1 d1 v2 l2 d2 n1 n2 N2 z) i)) (iI (i + 1 : Nat))) = Q (iI (fsm (wns v1 l1 d1 v2 l2 d2 n1 n2 N2 z) N1)) M := by
  have hN1 := hR.1
  have hn1 := hR.2.1
  intro f
  induction f with
  | zero =>
    intro i a hf hi ha ha1 ha2
    have e : i = N1 := by omega
    subst e
    rw [ex_s rfl]
    simp only [wX3_countWins_20]
    simp (disch := omega) only [iI_lit, iI_neg, iI_add, iI_sub, iI_mul, iI_lt, iI_le, iI_eq, iI_in, iI_clamp, iI_mx, iI_mn, iI_nI, Int.toNat_natCast, forall_eq, br_1, br_2, br_3, br_4, br_in, br_5, br_6, br_7, br_8, ex_c, br_nl, br_le, br_ne, gp_1, gp_2, gp_3, gf_1, gf_2]
  | succ f ih =>
    intro i a hf hi ha ha1 ha2
    have hp := hR.pos (by omega)
    rw [ex_s rfl]
    simp only [wX3_countWins_20, wX3_countWins_49]
    by_cases c : z = iI 0
    · have c1 := cei_lt hR (r := (i + 1 : Nat)) (by omega)
      have g1 := (h1.2 _ c1).1
      have r1 := hR.2.2.2.1 _ c1
      have hce := fun Q' : Qi => e_ceilingAt (Q := Q') h1 hR (r := (i + 1 : Nat)) (lo := a) (by omega) (ha (by omega)) (fun j hj => by have := ha2 c j hj; omega)
      have this := ih (i + 1) (cei l1 (i + 1 : Nat) n1) (by omega) (by omega) (fun _ => c1) (fun q => absurd c q) (fun _ j hj => by
        have := (cei_prop (l := l1) (r := (i + 1 : Nat)) n1).1 j hj
        omega)
      rw [fsm, wns, if_pos c] at this
      subst c
      simp (disch := omega) only [iI_lit, iI_neg, iI_add, iI_sub, iI_mul, iI_lt, iI_le, iI_eq, iI_in, iI_clamp, iI_mx, iI_mn, iI_nI, Int.toNat_natCast, forall_eq, br_1, br_2, br_3, br_4, br_in, br_5, br_6, br_7, br_8, ex_c, br_nl, br_le, br_ne, gp_1, gp_2, gp_3, gf_1, gf_2, hce, g1, e_mostUpTo h2 hS]
      simpa using this
    · have c1 := flr_lt (l := l1) (d := d1) (r := (i + 1 : Nat)) n1 hp
      have g1 := (h1.2 _ c1).1
      have r1 := hR.2.2.2.1 _ c1
      have hce := fun Q' : Qi => e_floorAt (Q := Q') h1 hR (r := (i + 1 : Nat)) (lo := a) (by omega) (ha (by omega)) (by rcases ha1 c with q | q <;> omega)
      have this := ih (i + 1) (flr l1 d1 (i + 1 : Nat) n1) (by omega) (by omega) (fun _ => c1) (fun _ => by
        have := (flr_prop (l := l1) (d := d1) (r := (i + 1 : Nat)) n1 hp).1
        omega) (fun q => absurd q c)
      rw [fsm, wns, if_neg c] at this
      simp only [iI_lit, br_2 c]
      simp (disch := omega) only [iI_lit, iI_neg, iI_add, iI_sub, iI_mul, iI_lt, iI_le, iI_eq, iI_in, iI_clamp, iI_mx, iI_mn, iI_nI, Int.toNat_natCast, forall_eq, br_1, br_2, br_3, br_4, br_in, br_5, br_6, br_7, br_8, ex_c, br_nl, br_le, br_ne, gp_1, gp_2, gp_3, gf_1, gf_2, hce, g1, e_sureUpTo h2 hS]
      simpa using this
theorem e_countWins {M : Mem} {Q : Qi} {b1 b2 n1 n2 N1 N2 : Nat} {v1 l1 d1 v2 l2 d2 : Nat → Int} (z : Int32) (h1 : CR M b1 n1 v1 l1 d1) (h2 : CR M b2 n2 v2 l2 d2) (hR : RI N1 n1 v1 l1 d1) (hS : RI N2 n2 v2 l2 d2) : wpX3_countWins M b1 b2 z Q = Q (iI (fsm (wns v1 l1 d1 v2 l2 d2 n1 n2 N2 z) N1)) M := by
  have hN1 := hR.1
  have hn1 := hR.2.1
  have hN2 := hS.1
  have hn2 := hS.2.1
  unfold wpX3_countWins
  have := l_countWins (Q := Q) z h1 h2 hR hS N1 0 0 rfl (by omega) (fun q => hR.pos q) (fun _ => Or.inr rfl) (fun _ j hj => by omega)
  rw [show fsm (wns v1 l1 d1 v2 l2 d2 n1 n2 N2 z) 0 = 0 from rfl, Int.natCast_zero] at this
  simp (disch := omega) only [iI_lit, iI_neg, iI_add, iI_sub, iI_mul, iI_lt, iI_le, iI_eq, iI_in, iI_clamp, iI_mx, iI_mn, iI_nI, Int.toNat_natCast, forall_eq, e_places h1 (show n1 ≤ 1000 by omega), e_places h2 (show n2 ≤ 1000 by omega), hR.lpn, hS.lpn]
  simpa using this
theorem l_mwins {M : Mem} {Q : Qi} {b1 b2 n1 n2 N1 N2 : Nat} {v1 l1 d1 v2 l2 d2 : Nat → Int} (z : Int32) (hb1 : b1 < 6) (hb2 : b2 < 6) (e1 : gI M 224 b1 = iI N1) (e2 : gI M 224 b2 = iI N2) (h1 : MR M b1 n1 v1 l1 d1) (h2 : MR M b2 n2 v2 l2 d2) (hR : RI N1 n1 v1 l1 d1) (hS : RI N2 n2 v2 l2 d2) (hQ : wpX4_good M (iI (fsm (wns v1 l1 d1 v2 l2 d2 n1 n2 N2 z) N1)) Q) :
    ∀ f i, N1 - i = f → i ≤ N1 → ∃ m, wX4_wins_26 Q (iI b1) (iI b2) z m M (iI (fsm (wns v1 l1 d1 v2 l2 d2 n1 n2 N2 z) i)) (iI (i + 1 : Nat)) := by
  have hN1 := hR.1
  have hn1 := hR.2.1
  intro f
  induction f with
  | zero =>
    intro i hf hi
    have e : i = N1 := by omega
    subst e
    rw [ex_s rfl]
    simp only [wX4_wins_26]
    simp (disch := omega) only [iI_lit, iI_neg, iI_add, iI_sub, iI_mul, iI_lt, iI_le, iI_eq, iI_in, iI_clamp, iI_mx, iI_mn, iI_nI, Int.toNat_natCast, forall_eq, br_1, br_2, br_3, br_4, br_in, br_5, br_6, br_7, br_8, ex_c, br_nl, br_le, br_ne, gp_1, gp_2, gp_3, gf_1, gf_2, ix_0, ix_1, ix_2, ix_3, tn_1, tn_2, pp_1, e1]
    exact hQ
  | succ f ih =>
    intro i hf hi
    have hp := hR.pos (by omega)
    rw [ex_s rfl]
    simp only [wX4_wins_26]
    have this := ih (i + 1) (by omega) (by omega)
    rw [fsm, wns] at this
    by_cases c : z = iI 0
    · have c1 := cei_lt hR (r := (i + 1 : Nat)) (by omega)
      have r1 := hR.2.2.2.1 _ c1
      rw [if_pos c] at this
      subst c
      simp (disch := omega) only [iI_lit, iI_neg, iI_add, iI_sub, iI_mul, iI_lt, iI_le, iI_eq, iI_in, iI_clamp, iI_mx, iI_mn, iI_nI, Int.toNat_natCast, forall_eq, br_1, br_2, br_3, br_4, br_in, br_5, br_6, br_7, br_8, ex_c, br_nl, br_le, br_ne, gp_1, gp_2, gp_3, gf_1, gf_2, ix_0, ix_1, ix_2, ix_3, tn_1, tn_2, pp_1, e1, e2, m_ceilingOf hb1 h1 hR, m_atMost hb2 h2 e2 hS]
      simpa using this
    · have c1 := flr_lt (l := l1) (d := d1) (r := (i + 1 : Nat)) n1 hp
      have r1 := hR.2.2.2.1 _ c1
      rw [if_neg c] at this
      simp only [iI_lit, br_2 c]
      simp (disch := omega) only [iI_lit, iI_neg, iI_add, iI_sub, iI_mul, iI_lt, iI_le, iI_eq, iI_in, iI_clamp, iI_mx, iI_mn, iI_nI, Int.toNat_natCast, forall_eq, br_1, br_2, br_3, br_4, br_in, br_5, br_6, br_7, br_8, ex_c, br_nl, br_le, br_ne, gp_1, gp_2, gp_3, gf_1, gf_2, ix_0, ix_1, ix_2, ix_3, tn_1, tn_2, pp_1, e1, e2, m_floorOf hb1 h1 hR, m_sure hb2 h2 hS]
      simpa using this
theorem op_wins {mk : Nat} {S : Gs} {M : Mem} (hC : CS mk S M) (hG : GI S) (a b q : Int32) : Good mk S (fun Q => wpX3_wins mk M a b q Q) (fun M1 Q => wpX4_wins M1 a b q Q) M := by
  obtain ⟨z, rfl, hz⟩ := iI_of a
  obtain ⟨y, rfl, hy⟩ := iI_of b
  by_cases c0 : ¬ (0 ≤ z ∧ z < gk S ∧ 0 ≤ y ∧ y < gk S ∧ ¬ z = y)
  · refine Good.ro (iI (-1)) 1 hC hG (by omega) (fun Q hQ => ?_) (fun M1 hM Q hQ => ?_)
    · unfold wpX3_wins
      rw [c_two_n hC hG hz hy c0]
      exact hQ _ (RC.p (RC.r _)) gp_1
    · unfold wpX4_wins
      refine mo_1 hM hQ (fun M0 hM hQ => ?_)
      simp (disch := omega) only [iI_lit, iI_neg, iI_add, iI_sub, iI_mul, iI_lt, iI_le, iI_eq, iI_in, iI_clamp, iI_mx, iI_mn, iI_nI, Int.toNat_natCast, forall_eq, br_1, br_2, br_3, br_4, br_in, br_5, br_6, br_7, br_8, ex_c, br_nl, br_le, br_ne, gp_1, gp_2, gp_3, gf_1, gf_2, m_two_n hM hG hz hy c0]
      exact m_refused hQ (RM.r _)
  obtain ⟨j, rfl⟩ : ∃ j : Nat, z = j := ⟨z.toNat, by omega⟩
  obtain ⟨i, rfl⟩ : ∃ j : Nat, y = j := ⟨y.toNat, by omega⟩
  have hj : j < gk S := by omega
  have hi : i < gk S := by omega
  have hji : ¬ j = i := by omega
  have hk := hG.1
  have hT := hC.ct hj
  have hT2 := hC.ct hi
  have hS := hG.si hj
  have hS2 := hG.si hi
  have hE := hG.er hj
  obtain ⟨x, hx⟩ : ∃ x, gT S j = x := ⟨_, rfl⟩
  obtain ⟨y, hy⟩ : ∃ y, gT S i = y := ⟨_, rfl⟩
  rw [hx] at hT hS
  rw [hy] at hT2 hS2
  have hN := hS.1.1
  have hn := hS.1.2.1
  have hN2 := hS2.1.1
  have hn2 := hS2.1.2.1
  obtain ⟨t1, t2, t3, t4, t5, t6⟩ := hT
  obtain ⟨s1, s2, s3, s4, s5, s6⟩ := hT2
  refine Good.ro (iI (fsm (wns (tv x) (tl x) (td x) (tv y) (tl y) (td y) (tn x) (tn y) (tN y) q) (tN x))) 0 hC hG (by omega) (fun Q hQ => ?_) (fun M1 hM Q hQ => ?_)
  · unfold wpX3_wins
    rw [c_two_y hC hG hj hi hji]
    simp (disch := omega) only [iI_lit, iI_neg, iI_add, iI_sub, iI_mul, iI_lt, iI_le, iI_eq, iI_in, iI_clamp, iI_mx, iI_mn, iI_nI, Int.toNat_natCast, forall_eq, br_1, br_2, br_3, br_4, br_in, br_5, br_6, br_7, br_8, ex_c, br_nl, br_le, br_ne, gp_1, gp_2, gp_3, gf_1, gf_2, c_pass, c_refuse, t1, s1, hC.2.2.1, e_countWins q t6 s6 hS.1 hS2.1]
    exact hQ _ (RC.p (RC.r _)) gp_1
  · unfold wpX4_wins
    refine mo_1 hM hQ (fun M0 hM hQ => ?_)
    have hMT := hM.mt hj
    have hMU := hM.mt hi
    rw [hx] at hMT
    rw [hy] at hMU
    obtain ⟨u1, u2, u3, u4, u5, u6⟩ := hMT
    obtain ⟨v1, v2, v3, v4, v5, v6⟩ := hMU
    simp (disch := omega) only [iI_lit, iI_neg, iI_add, iI_sub, iI_mul, iI_lt, iI_le, iI_eq, iI_in, iI_clamp, iI_mx, iI_mn, iI_nI, Int.toNat_natCast, forall_eq, br_1, br_2, br_3, br_4, br_in, br_5, br_6, br_7, br_8, ex_c, br_nl, br_le, br_ne, gp_1, gp_2, gp_3, gf_1, gf_2, ix_0, ix_1, ix_2, ix_3, tn_1, tn_2, pp_1, m_two_y hM hG hj hi hji, m_in_y, m_in_n, u1.1, u2, v2, hM.2.2.2.2.1, u2]
    have := l_mwins (M := M0) (Q := Q) q (show j < 6 by omega) (show i < 6 by omega) u2 v2 u1 v1 hS.1 hS2.1 (m_good hQ (RM.r _)) (tN x) 0 rfl (by omega)
    simpa [fsm] using this
theorem op_would {mk : Nat} {S : Gs} {M : Mem} (hC : CS mk S M) (hG : GI S) (a b : Int32) : Good mk S (fun Q => wpX3_would mk M a b Q) (fun M1 Q => wpX4_would M1 a b Q) M := by
  obtain ⟨z, rfl, hz⟩ := iI_of a
  obtain ⟨y, rfl, hy⟩ := iI_of b
  by_cases c0 : ¬ (0 ≤ z ∧ z < gk S ∧ 0 ≤ y ∧ y < gk S ∧ ¬ z = y)
  · refine Good.ro (iI (-1)) 1 hC hG (by omega) (fun Q hQ => ?_) (fun M1 hM Q hQ => ?_)
    · unfold wpX3_would
      rw [c_two_n hC hG hz hy c0]
      exact hQ _ (RC.p (RC.r _)) gp_1
    · unfold wpX4_would
      refine mo_1 hM hQ (fun M0 hM hQ => ?_)
      simp (disch := omega) only [iI_lit, iI_neg, iI_add, iI_sub, iI_mul, iI_lt, iI_le, iI_eq, iI_in, iI_clamp, iI_mx, iI_mn, iI_nI, Int.toNat_natCast, forall_eq, br_1, br_2, br_3, br_4, br_in, br_5, br_6, br_7, br_8, ex_c, br_nl, br_le, br_ne, gp_1, gp_2, gp_3, gf_1, gf_2, m_two_n hM hG hz hy c0]
      exact m_refused hQ (RM.r _)
  obtain ⟨j, rfl⟩ : ∃ j : Nat, z = j := ⟨z.toNat, by omega⟩
  obtain ⟨i, rfl⟩ : ∃ j : Nat, y = j := ⟨y.toNat, by omega⟩
  have hj : j < gk S := by omega
  have hi : i < gk S := by omega
  have hji : ¬ j = i := by omega
  have hk := hG.1
  have hT := hC.ct hj
  have hT2 := hC.ct hi
  have hS := hG.si hj
  have hS2 := hG.si hi
  have hE := hG.er hj
  obtain ⟨x, hx⟩ : ∃ x, gT S j = x := ⟨_, rfl⟩
  obtain ⟨y, hy⟩ : ∃ y, gT S i = y := ⟨_, rfl⟩
  rw [hx] at hT hS
  rw [hy] at hT2 hS2
  have hN := hS.1.1
  have hn := hS.1.2.1
  have hN2 := hS2.1.1
  have hn2 := hS2.1.2.1
  obtain ⟨t1, t2, t3, t4, t5, t6⟩ := hT
  obtain ⟨s1, s2, s3, s4, s5, s6⟩ := hT2
  by_cases c1 : tN x + tN y ≤ 1000
  · have hbo := bo_b (n := (tN x + tN y : Nat)) (e := gE S) (by omega) hE.1
    have e4 : (tN x : Int) + tN y = (tN x + tN y : Nat) := by omega
    refine Good.ro (iI (((shK (tn x + tn y) (jL (tv x) (tv y) (tl x) (tl y) (tn x) (tn y)) (jD (tv x) (tv y) (tl x) (tl y) (td x) (td y) (tn x) (tn y)) (bo (tN x + tN y : Nat) (gE S))).length : Int))) 0 hC hG (by omega) (fun Q hQ => ?_) (fun M1 hM Q hQ => ?_)
    · unfold wpX3_would
      rw [c_two_y hC hG hj hi hji]
      simp (disch := omega) only [iI_lit, iI_neg, iI_add, iI_sub, iI_mul, iI_lt, iI_le, iI_eq, iI_in, iI_clamp, iI_mx, iI_mn, iI_nI, Int.toNat_natCast, forall_eq, br_1, br_2, br_3, br_4, br_in, br_5, br_6, br_7, br_8, ex_c, br_nl, br_le, br_ne, gp_1, gp_2, gp_3, gf_1, gf_2, t1, s1, e4]
      refine e_joinOf t6 s6 hS.1 hS2.1 c1 (by omega) (by omega) (fun M2 hF hC2 => ?_)
      simp (disch := omega) only [iI_lit, iI_neg, iI_add, iI_sub, iI_mul, iI_lt, iI_le, iI_eq, iI_in, iI_clamp, iI_mx, iI_mn, iI_nI, Int.toNat_natCast, forall_eq, br_1, br_2, br_3, br_4, br_in, br_5, br_6, br_7, br_8, ex_c, br_nl, br_le, br_ne, gp_1, gp_2, gp_3, gf_1, gf_2, hF.g (b := 100 + 20 * j) (by omega), hF.g (b := 100 + 20 * i) (by omega), hF.g (b := 0) (by omega), t1, s1, hC.2.2.1, e4, e_boundOf]
      refine e_shorten hC2 (RI_join hS.1 hS2.1 c1) (by omega) (fun M3 hF3 hC3 => ?_)
      rw [hC3.1]
      simp (disch := omega) only [iI_lit, iI_neg, iI_add, iI_sub, iI_mul, iI_lt, iI_le, iI_eq, iI_in, iI_clamp, iI_mx, iI_mn, iI_nI, Int.toNat_natCast, forall_eq, br_1, br_2, br_3, br_4, br_in, br_5, br_6, br_7, br_8, ex_c, br_nl, br_le, br_ne, gp_1, gp_2, gp_3, gf_1, gf_2, c_pass]
      exact hQ _ (RC.p (RC.f (RC.f (RC.r _) hF (by omega)) hF3 (by omega))) gp_1
    · unfold wpX4_would
      refine mo_1 hM hQ (fun M0 hM hQ => ?_)
      have hMT := hM.mt hj
      have hMU := hM.mt hi
      rw [hx] at hMT
      rw [hy] at hMU
      obtain ⟨u1, u2, u3, u4, u5, u6⟩ := hMT
      obtain ⟨v1, v2, v3, v4, v5, v6⟩ := hMU
      simp (disch := omega) only [iI_lit, iI_neg, iI_add, iI_sub, iI_mul, iI_lt, iI_le, iI_eq, iI_in, iI_clamp, iI_mx, iI_mn, iI_nI, Int.toNat_natCast, forall_eq, br_1, br_2, br_3, br_4, br_in, br_5, br_6, br_7, br_8, ex_c, br_nl, br_le, br_ne, gp_1, gp_2, gp_3, gf_1, gf_2, ix_0, ix_1, ix_2, ix_3, tn_1, tn_2, pp_1, m_two_y hM hG hj hi hji, m_in_y, m_in_n, u1.1, u2, v2, hM.2.2.2.2.1, e4]
      refine m_joins (t := 4) (show j < 6 by omega) (show i < 6 by omega) (by omega) (by omega) (by omega) u1 v1 hS.1 hS2.1 c1 u2 v2 hM.2.2.2.2.1 hE (fun M2 hF e hM2 => ?_)
      rw [show ((4 : Int)).toNat = 4 from rfl, hM2.1]
      exact m_good hQ (RM.w (RM.r _) hF (by omega))
  · skip
    refine Good.ro (iI (-1)) 3 hC hG (by omega) (fun Q hQ => ?_) (fun M1 hM Q hQ => ?_)
    · unfold wpX3_would
      rw [c_two_y hC hG hj hi hji]
      simp (disch := omega) only [iI_lit, iI_neg, iI_add, iI_sub, iI_mul, iI_lt, iI_le, iI_eq, iI_in, iI_clamp, iI_mx, iI_mn, iI_nI, Int.toNat_natCast, forall_eq, br_1, br_2, br_3, br_4, br_in, br_5, br_6, br_7, br_8, ex_c, br_nl, br_le, br_ne, gp_1, gp_2, gp_3, gf_1, gf_2, c_pass, c_refuse, t1, s1, hC.2.2.1, t1]
      exact hQ _ (RC.p (RC.r _)) gp_1
    · unfold wpX4_would
      refine mo_1 hM hQ (fun M0 hM hQ => ?_)
      have hMT := hM.mt hj
      have hMU := hM.mt hi
      rw [hx] at hMT
      rw [hy] at hMU
      obtain ⟨u1, u2, u3, u4, u5, u6⟩ := hMT
      obtain ⟨v1, v2, v3, v4, v5, v6⟩ := hMU
      simp (disch := omega) only [iI_lit, iI_neg, iI_add, iI_sub, iI_mul, iI_lt, iI_le, iI_eq, iI_in, iI_clamp, iI_mx, iI_mn, iI_nI, Int.toNat_natCast, forall_eq, br_1, br_2, br_3, br_4, br_in, br_5, br_6, br_7, br_8, ex_c, br_nl, br_le, br_ne, gp_1, gp_2, gp_3, gf_1, gf_2, ix_0, ix_1, ix_2, ix_3, tn_1, tn_2, pp_1, m_two_y hM hG hj hi hji, m_in_y, m_in_n, u1.1, u2, v2, hM.2.2.2.2.1, u2]
      exact m_refused hQ (RM.r _)
