theorem op_whole {mk : Nat} {S : Gs} {M : Mem} (hC : CS mk S M) (hG : GI S) (a : Int32) : Good mk S (fun Q => wpX3_whole mk M a Q) (fun M1 Q => wpX4_whole M1 a Q) M := by
  obtain ⟨q, rfl, hq⟩ := iI_of a
  have hk := hG.1
  by_cases c0 : gk S = 0
  · have he := hG.2.1 c0
    refine Good.ro (iI (-1)) 1 hC hG (by omega) (fun Q hQ => ?_) (fun M1 hM Q hQ => ?_)
    · unfold wpX3_whole
      simp (disch := omega) only [iI_lit, iI_neg, iI_add, iI_sub, iI_mul, iI_lt, iI_le, iI_eq, iI_in, iI_clamp, iI_mx, iI_mn, iI_nI, Int.toNat_natCast, forall_eq, br_1, br_2, br_3, br_4, br_in, br_5, br_6, br_7, br_8, ex_c, br_nl, br_le, br_ne, gp_1, gp_2, gp_3, gf_1, gf_2, hC.2.1, c_refuse]
      exact hQ _ (RC.p (RC.r _)) gp_1
    · unfold wpX4_whole
      refine mo_1 hM hQ (fun M0 hM hQ => ?_)
      simp (disch := omega) only [iI_lit, iI_neg, iI_add, iI_sub, iI_mul, iI_lt, iI_le, iI_eq, iI_in, iI_clamp, iI_mx, iI_mn, iI_nI, Int.toNat_natCast, forall_eq, br_1, br_2, br_3, br_4, br_in, br_5, br_6, br_7, br_8, ex_c, br_nl, br_le, br_ne, gp_1, gp_2, gp_3, gf_1, gf_2, hM.2.2.2.2.1]
      exact m_refused hQ (RM.r _)
  have he := hG.2.2.1 (by omega)
  by_cases c1 : 0 ≤ q ∧ q ≤ 2
  · have hsN := sN_b hG
    by_cases c2 : sN S = 0
    · refine Good.ro (iI (-1)) 5 hC hG (by omega) (fun Q hQ => ?_) (fun M1 hM Q hQ => ?_)
      · unfold wpX3_whole
        simp (disch := omega) only [iI_lit, iI_neg, iI_add, iI_sub, iI_mul, iI_lt, iI_le, iI_eq, iI_in, iI_clamp, iI_mx, iI_mn, iI_nI, Int.toNat_natCast, forall_eq, br_1, br_2, br_3, br_4, br_in, br_5, br_6, br_7, br_8, ex_c, br_nl, br_le, br_ne, gp_1, gp_2, gp_3, gf_1, gf_2, hC.2.1, c_refuse, c_wt_5 hC hG c2]
        exact hQ _ (RC.p (RC.r _)) gp_1
      · unfold wpX4_whole
        refine mo_1 hM hQ (fun M0 hM hQ => ?_)
        simp (disch := omega) only [iI_lit, iI_neg, iI_add, iI_sub, iI_mul, iI_lt, iI_le, iI_eq, iI_in, iI_clamp, iI_mx, iI_mn, iI_nI, Int.toNat_natCast, forall_eq, br_1, br_2, br_3, br_4, br_in, br_5, br_6, br_7, br_8, ex_c, br_nl, br_le, br_ne, gp_1, gp_2, gp_3, gf_1, gf_2, hM.2.2.2.2.1, m_in_y, m_wholeLays_5 hM hG c2]
        exact m_refused hQ (RM.r _)
    by_cases c3 : 1000 < sN S
    · refine Good.ro (iI (-1)) 3 hC hG (by omega) (fun Q hQ => ?_) (fun M1 hM Q hQ => ?_)
      · unfold wpX3_whole
        simp (disch := omega) only [iI_lit, iI_neg, iI_add, iI_sub, iI_mul, iI_lt, iI_le, iI_eq, iI_in, iI_clamp, iI_mx, iI_mn, iI_nI, Int.toNat_natCast, forall_eq, br_1, br_2, br_3, br_4, br_in, br_5, br_6, br_7, br_8, ex_c, br_nl, br_le, br_ne, gp_1, gp_2, gp_3, gf_1, gf_2, hC.2.1, c_refuse, c_wt_3 hC hG c3]
        exact hQ _ (RC.p (RC.r _)) gp_1
      · unfold wpX4_whole
        refine mo_1 hM hQ (fun M0 hM hQ => ?_)
        simp (disch := omega) only [iI_lit, iI_neg, iI_add, iI_sub, iI_mul, iI_lt, iI_le, iI_eq, iI_in, iI_clamp, iI_mx, iI_mn, iI_nI, Int.toNat_natCast, forall_eq, br_1, br_2, br_3, br_4, br_in, br_5, br_6, br_7, br_8, ex_c, br_nl, br_le, br_ne, gp_1, gp_2, gp_3, gf_1, gf_2, hM.2.2.2.2.1, m_in_y, m_wholeLays_3 hM hG c3]
        exact m_refused hQ (RM.r _)
    have hN : sN S ≤ 1000 := by omega
    have h0 : 0 < sN S := by omega
    have hw := wS_i hG hN (gk S) (Nat.le_refl _)
    obtain ⟨w, hw0⟩ : ∃ w, wS S (gk S) = w := ⟨_, rfl⟩
    rw [hw0] at hw
    have hwN : 0 < w.1 := by
      have h2 := hw.2
      unfold sN at h0
      omega
    have hwR : RI w.1 w.2.1 w.2.2.1 w.2.2.2.1 w.2.2.2.2 := hw.1
    have hn : w.2.1 ≤ 1000 := Nat.le_trans hwR.2.1 hwR.1
    have hfz := fmx_z (f := oa w.2.2.2.1 w.2.2.2.2 w.2.1) (N := w.1) (fun j a b => (oa_b hwR (r := j) (by omega)).1) hwN
    refine Good.ro (iI (if q = 0 then (w.1 : Int) else if q = 1 then (w.2.1 : Int) else fmx (oa w.2.2.2.1 w.2.2.2.2 w.2.1) 0 w.1)) 0 hC hG (by omega) (fun Q hQ => ?_) (fun M1 hM Q hQ => ?_)
    · unfold wpX3_whole
      simp (disch := omega) only [iI_lit, iI_neg, iI_add, iI_sub, iI_mul, iI_lt, iI_le, iI_eq, iI_in, iI_clamp, iI_mx, iI_mn, iI_nI, Int.toNat_natCast, forall_eq, br_1, br_2, br_3, br_4, br_in, br_5, br_6, br_7, br_8, ex_c, br_nl, br_le, br_ne, gp_1, gp_2, gp_3, gf_1, gf_2, hC.2.1, c_wt_0 hC hG hN h0]
      refine e_makeWhole hC hG hN (fun b M' hb hF hW => ?_)
      rw [hw0] at hW
      have hW' : CR M' b w.2.1 w.2.2.1 w.2.2.2.1 w.2.2.2.2 := hW
      by_cases q0 : q = 0
      · rw [if_pos q0] at hQ
        simp (disch := omega) only [iI_lit, iI_neg, iI_add, iI_sub, iI_mul, iI_lt, iI_le, iI_eq, iI_in, iI_clamp, iI_mx, iI_mn, iI_nI, Int.toNat_natCast, forall_eq, br_1, br_2, br_3, br_4, br_in, br_5, br_6, br_7, br_8, ex_c, br_nl, br_le, br_ne, gp_1, gp_2, gp_3, gf_1, gf_2, e_places hW' hn, hwR.lpn, c_pass]
        exact hQ _ (RC.p (RC.f (RC.r _) hF (by omega))) gp_1
      · rw [if_neg q0] at hQ
        by_cases q1 : q = 1
        · rw [if_pos q1] at hQ
          simp (disch := omega) only [iI_lit, iI_neg, iI_add, iI_sub, iI_mul, iI_lt, iI_le, iI_eq, iI_in, iI_clamp, iI_mx, iI_mn, iI_nI, Int.toNat_natCast, forall_eq, br_1, br_2, br_3, br_4, br_in, br_5, br_6, br_7, br_8, ex_c, br_nl, br_le, br_ne, gp_1, gp_2, gp_3, gf_1, gf_2, hW'.1, c_pass]
          exact hQ _ (RC.p (RC.f (RC.r _) hF (by omega))) gp_1
        · rw [if_neg q1] at hQ
          simp (disch := omega) only [iI_lit, iI_neg, iI_add, iI_sub, iI_mul, iI_lt, iI_le, iI_eq, iI_in, iI_clamp, iI_mx, iI_mn, iI_nI, Int.toNat_natCast, forall_eq, br_1, br_2, br_3, br_4, br_in, br_5, br_6, br_7, br_8, ex_c, br_nl, br_le, br_ne, gp_1, gp_2, gp_3, gf_1, gf_2, e_greatestOff hW' hwR hwN, c_pass]
          exact hQ _ (RC.p (RC.f (RC.r _) hF (by omega))) gp_1
    · unfold wpX4_whole
      refine mo_1 hM hQ (fun M0 hM hQ => ?_)
      simp (disch := omega) only [iI_lit, iI_neg, iI_add, iI_sub, iI_mul, iI_lt, iI_le, iI_eq, iI_in, iI_clamp, iI_mx, iI_mn, iI_nI, Int.toNat_natCast, forall_eq, br_1, br_2, br_3, br_4, br_in, br_5, br_6, br_7, br_8, ex_c, br_nl, br_le, br_ne, gp_1, gp_2, gp_3, gf_1, gf_2, hM.2.2.2.2.1, m_in_y]
      refine m_wholeLays hM hG hN h0 (fun M' hR hM' hW h4 => ?_)
      rw [hw0] at hW h4
      have hW' : MR M' 4 w.2.1 w.2.2.1 w.2.2.2.1 w.2.2.2.2 := hW
      by_cases q0 : q = 0
      · rw [if_pos q0] at hQ
        simp (disch := omega) only [iI_lit, iI_neg, iI_add, iI_sub, iI_mul, iI_lt, iI_le, iI_eq, iI_in, iI_clamp, iI_mx, iI_mn, iI_nI, Int.toNat_natCast, forall_eq, br_1, br_2, br_3, br_4, br_in, br_5, br_6, br_7, br_8, ex_c, br_nl, br_le, br_ne, gp_1, gp_2, gp_3, gf_1, gf_2, ix_0, ix_1, ix_2, ix_3, tn_1, tn_2, pp_1, show ((4 : Int)).toNat = 4 from rfl, h4]
        exact m_good hQ hR
      · rw [if_neg q0] at hQ
        by_cases q1 : q = 1
        · rw [if_pos q1] at hQ
          simp (disch := omega) only [iI_lit, iI_neg, iI_add, iI_sub, iI_mul, iI_lt, iI_le, iI_eq, iI_in, iI_clamp, iI_mx, iI_mn, iI_nI, Int.toNat_natCast, forall_eq, br_1, br_2, br_3, br_4, br_in, br_5, br_6, br_7, br_8, ex_c, br_nl, br_le, br_ne, gp_1, gp_2, gp_3, gf_1, gf_2, ix_0, ix_1, ix_2, ix_3, tn_1, tn_2, pp_1, show ((4 : Int)).toNat = 4 from rfl, hW'.1]
          exact m_good hQ hR
        · rw [if_neg q1] at hQ
          simp (disch := omega) only [iI_lit, iI_neg, iI_add, iI_sub, iI_mul, iI_lt, iI_le, iI_eq, iI_in, iI_clamp, iI_mx, iI_mn, iI_nI, Int.toNat_natCast, forall_eq, br_1, br_2, br_3, br_4, br_in, br_5, br_6, br_7, br_8, ex_c, br_nl, br_le, br_ne, gp_1, gp_2, gp_3, gf_1, gf_2, ix_0, ix_1, ix_2, ix_3, tn_1, tn_2, pp_1]
          refine m_worstOf (b := 4) (by omega) hW' h4 hwR (fun y => ?_)
          rw [hfz]
          exact m_good hQ (RM.p hR (by omega))
  · refine Good.ro (iI (-1)) 1 hC hG (by omega) (fun Q hQ => ?_) (fun M1 hM Q hQ => ?_)
    · unfold wpX3_whole
      by_cases c2 : q < 0
      · simp (disch := omega) only [iI_lit, iI_neg, iI_add, iI_sub, iI_mul, iI_lt, iI_le, iI_eq, iI_in, iI_clamp, iI_mx, iI_mn, iI_nI, Int.toNat_natCast, forall_eq, br_1, br_2, br_3, br_4, br_in, br_5, br_6, br_7, br_8, ex_c, br_nl, br_le, br_ne, gp_1, gp_2, gp_3, gf_1, gf_2, hC.2.1, c_refuse]
        exact hQ _ (RC.p (RC.r _)) gp_1
      · simp (disch := omega) only [iI_lit, iI_neg, iI_add, iI_sub, iI_mul, iI_lt, iI_le, iI_eq, iI_in, iI_clamp, iI_mx, iI_mn, iI_nI, Int.toNat_natCast, forall_eq, br_1, br_2, br_3, br_4, br_in, br_5, br_6, br_7, br_8, ex_c, br_nl, br_le, br_ne, gp_1, gp_2, gp_3, gf_1, gf_2, hC.2.1, c_refuse]
        exact hQ _ (RC.p (RC.r _)) gp_1
    · unfold wpX4_whole
      refine mo_1 hM hQ (fun M0 hM hQ => ?_)
      simp (disch := omega) only [iI_lit, iI_neg, iI_add, iI_sub, iI_mul, iI_lt, iI_le, iI_eq, iI_in, iI_clamp, iI_mx, iI_mn, iI_nI, Int.toNat_natCast, forall_eq, br_1, br_2, br_3, br_4, br_in, br_5, br_6, br_7, br_8, ex_c, br_nl, br_le, br_ne, gp_1, gp_2, gp_3, gf_1, gf_2, hM.2.2.2.2.1, m_in_n]
      exact m_refused hQ (RM.r _)
theorem op_overall {mk : Nat} {S : Gs} {M : Mem} (hC : CS mk S M) (hG : GI S) (a b : Int32) : Good mk S (fun Q => wpX3_overall mk M a b Q) (fun M1 Q => wpX4_overall M1 a b Q) M := by
  obtain ⟨r, rfl, hr⟩ := iI_of a
  obtain ⟨q, rfl, hq⟩ := iI_of b
  have hk := hG.1
  by_cases c0 : gk S = 0
  · have he := hG.2.1 c0
    refine Good.ro (iI (-1)) 1 hC hG (by omega) (fun Q hQ => ?_) (fun M1 hM Q hQ => ?_)
    · unfold wpX3_overall
      simp (disch := omega) only [iI_lit, iI_neg, iI_add, iI_sub, iI_mul, iI_lt, iI_le, iI_eq, iI_in, iI_clamp, iI_mx, iI_mn, iI_nI, Int.toNat_natCast, forall_eq, br_1, br_2, br_3, br_4, br_in, br_5, br_6, br_7, br_8, ex_c, br_nl, br_le, br_ne, gp_1, gp_2, gp_3, gf_1, gf_2, hC.2.1, c_refuse]
      exact hQ _ (RC.p (RC.r _)) gp_1
    · unfold wpX4_overall
      refine mo_1 hM hQ (fun M0 hM hQ => ?_)
      simp (disch := omega) only [iI_lit, iI_neg, iI_add, iI_sub, iI_mul, iI_lt, iI_le, iI_eq, iI_in, iI_clamp, iI_mx, iI_mn, iI_nI, Int.toNat_natCast, forall_eq, br_1, br_2, br_3, br_4, br_in, br_5, br_6, br_7, br_8, ex_c, br_nl, br_le, br_ne, gp_1, gp_2, gp_3, gf_1, gf_2, hM.2.2.2.2.1]
      exact m_refused hQ (RM.r _)
  have he := hG.2.2.1 (by omega)
  by_cases c1 : 0 ≤ q ∧ q ≤ 1
  · have hsN := sN_b hG
    by_cases c2 : sN S = 0
    · refine Good.ro (iI (-1)) 5 hC hG (by omega) (fun Q hQ => ?_) (fun M1 hM Q hQ => ?_)
      · unfold wpX3_overall
        simp (disch := omega) only [iI_lit, iI_neg, iI_add, iI_sub, iI_mul, iI_lt, iI_le, iI_eq, iI_in, iI_clamp, iI_mx, iI_mn, iI_nI, Int.toNat_natCast, forall_eq, br_1, br_2, br_3, br_4, br_in, br_5, br_6, br_7, br_8, ex_c, br_nl, br_le, br_ne, gp_1, gp_2, gp_3, gf_1, gf_2, hC.2.1, c_refuse, c_wt_5 hC hG c2]
        exact hQ _ (RC.p (RC.r _)) gp_1
      · unfold wpX4_overall
        refine mo_1 hM hQ (fun M0 hM hQ => ?_)
        simp (disch := omega) only [iI_lit, iI_neg, iI_add, iI_sub, iI_mul, iI_lt, iI_le, iI_eq, iI_in, iI_clamp, iI_mx, iI_mn, iI_nI, Int.toNat_natCast, forall_eq, br_1, br_2, br_3, br_4, br_in, br_5, br_6, br_7, br_8, ex_c, br_nl, br_le, br_ne, gp_1, gp_2, gp_3, gf_1, gf_2, hM.2.2.2.2.1, m_in_y, m_wholeLays_5 hM hG c2]
        exact m_refused hQ (RM.r _)
    by_cases c3 : 1000 < sN S
    · refine Good.ro (iI (-1)) 3 hC hG (by omega) (fun Q hQ => ?_) (fun M1 hM Q hQ => ?_)
      · unfold wpX3_overall
        simp (disch := omega) only [iI_lit, iI_neg, iI_add, iI_sub, iI_mul, iI_lt, iI_le, iI_eq, iI_in, iI_clamp, iI_mx, iI_mn, iI_nI, Int.toNat_natCast, forall_eq, br_1, br_2, br_3, br_4, br_in, br_5, br_6, br_7, br_8, ex_c, br_nl, br_le, br_ne, gp_1, gp_2, gp_3, gf_1, gf_2, hC.2.1, c_refuse, c_wt_3 hC hG c3]
        exact hQ _ (RC.p (RC.r _)) gp_1
      · unfold wpX4_overall
        refine mo_1 hM hQ (fun M0 hM hQ => ?_)
        simp (disch := omega) only [iI_lit, iI_neg, iI_add, iI_sub, iI_mul, iI_lt, iI_le, iI_eq, iI_in, iI_clamp, iI_mx, iI_mn, iI_nI, Int.toNat_natCast, forall_eq, br_1, br_2, br_3, br_4, br_in, br_5, br_6, br_7, br_8, ex_c, br_nl, br_le, br_ne, gp_1, gp_2, gp_3, gf_1, gf_2, hM.2.2.2.2.1, m_in_y, m_wholeLays_3 hM hG c3]
        exact m_refused hQ (RM.r _)
    have hN : sN S ≤ 1000 := by omega
    have h0 : 0 < sN S := by omega
    have hw := wS_i hG hN (gk S) (Nat.le_refl _)
    obtain ⟨w, hw0⟩ : ∃ w, wS S (gk S) = w := ⟨_, rfl⟩
    rw [hw0] at hw
    have hwR : RI w.1 w.2.1 w.2.2.1 w.2.2.2.1 w.2.2.2.2 := hw.1
    have hn : w.2.1 ≤ 1000 := Nat.le_trans hwR.2.1 hwR.1
    have hN1 := hwR.1
    by_cases c4 : 1 ≤ r ∧ r ≤ w.1
    · have h3 := ans_lt (l := w.2.2.2.1) (d := w.2.2.2.2) (hwR.pos (by omega)) r
      refine Good.ro (iI (if q = 0 then w.2.2.1 (ans w.2.2.2.1 w.2.2.2.2 w.2.1 r) else off w.2.2.2.1 w.2.2.2.2 r (ans w.2.2.2.1 w.2.2.2.2 w.2.1 r))) 0 hC hG (by omega) (fun Q hQ => ?_) (fun M1 hM Q hQ => ?_)
      · unfold wpX3_overall
        simp (disch := omega) only [iI_lit, iI_neg, iI_add, iI_sub, iI_mul, iI_lt, iI_le, iI_eq, iI_in, iI_clamp, iI_mx, iI_mn, iI_nI, Int.toNat_natCast, forall_eq, br_1, br_2, br_3, br_4, br_in, br_5, br_6, br_7, br_8, ex_c, br_nl, br_le, br_ne, gp_1, gp_2, gp_3, gf_1, gf_2, hC.2.1, c_wt_0 hC hG hN h0]
        refine e_makeWhole hC hG hN (fun b M' hb hF hW => ?_)
        rw [hw0] at hW
        have hW' : CR M' b w.2.1 w.2.2.1 w.2.2.2.1 w.2.2.2.2 := hW
        have g1 := (hW'.2 _ h3).1
        by_cases q0 : q = 0
        · rw [if_pos q0] at hQ
          simp (disch := omega) only [iI_lit, iI_neg, iI_add, iI_sub, iI_mul, iI_lt, iI_le, iI_eq, iI_in, iI_clamp, iI_mx, iI_mn, iI_nI, Int.toNat_natCast, forall_eq, br_1, br_2, br_3, br_4, br_in, br_5, br_6, br_7, br_8, ex_c, br_nl, br_le, br_ne, gp_1, gp_2, gp_3, gf_1, gf_2, e_places hW' hn, hwR.lpn, e_nearest0 hW' hwR, g1, c_pass]
          exact hQ _ (RC.p (RC.f (RC.r _) hF (by omega))) gp_1
        · rw [if_neg q0] at hQ
          simp (disch := omega) only [iI_lit, iI_neg, iI_add, iI_sub, iI_mul, iI_lt, iI_le, iI_eq, iI_in, iI_clamp, iI_mx, iI_mn, iI_nI, Int.toNat_natCast, forall_eq, br_1, br_2, br_3, br_4, br_in, br_5, br_6, br_7, br_8, ex_c, br_nl, br_le, br_ne, gp_1, gp_2, gp_3, gf_1, gf_2, e_places hW' hn, hwR.lpn, e_nearest0 hW' hwR, e_offBy hW' hwR, c_pass]
          exact hQ _ (RC.p (RC.f (RC.r _) hF (by omega))) gp_1
      · unfold wpX4_overall
        refine mo_1 hM hQ (fun M0 hM hQ => ?_)
        simp (disch := omega) only [iI_lit, iI_neg, iI_add, iI_sub, iI_mul, iI_lt, iI_le, iI_eq, iI_in, iI_clamp, iI_mx, iI_mn, iI_nI, Int.toNat_natCast, forall_eq, br_1, br_2, br_3, br_4, br_in, br_5, br_6, br_7, br_8, ex_c, br_nl, br_le, br_ne, gp_1, gp_2, gp_3, gf_1, gf_2, hM.2.2.2.2.1, m_in_y]
        refine m_wholeLays hM hG hN h0 (fun M' hR hM' hW h4 => ?_)
        rw [hw0] at hW h4
        have hW' : MR M' 4 w.2.1 w.2.2.1 w.2.2.2.1 w.2.2.2.2 := hW
        have g1 := (hW'.2 _ h3).1
        have e4 : ((4000 : Int) + (ans w.2.2.2.1 w.2.2.2.2 w.2.1 r : Nat)).toNat = 1000 * 4 + ans w.2.2.2.1 w.2.2.2.2 w.2.1 r := by omega
        have hp : ∀ Q' : Qi, wpX4_isPlace M' (iI 4) (iI r) Q' = Q' (iI 1) M' := fun Q' => m_isPlace_y (b := 4) (by omega) h4 hN1 c4
        have ha : ∀ Q' : Qi, wpX4_answers M' (iI 4) (iI r) Q' = Q' (iI (ans w.2.2.2.1 w.2.2.2.2 w.2.1 r)) (pI M' 200 31 (iI (off w.2.2.2.1 w.2.2.2.2 r (ans w.2.2.2.1 w.2.2.2.2 w.2.1 r)))) := fun Q' => m_answers (b := 4) (by omega) hW' hwR c4
        by_cases q0 : q = 0
        · rw [if_pos q0] at hQ
          simp (disch := omega) only [iI_lit, iI_neg, iI_add, iI_sub, iI_mul, iI_lt, iI_le, iI_eq, iI_in, iI_clamp, iI_mx, iI_mn, iI_nI, Int.toNat_natCast, forall_eq, br_1, br_2, br_3, br_4, br_in, br_5, br_6, br_7, br_8, ex_c, br_nl, br_le, br_ne, gp_1, gp_2, gp_3, gf_1, gf_2, ix_0, ix_1, ix_2, ix_3, tn_1, tn_2, pp_1, hp, ha, e4, g1]
          exact m_good hQ (RM.p hR (by omega))
        · rw [if_neg q0] at hQ
          simp (disch := omega) only [iI_lit, iI_neg, iI_add, iI_sub, iI_mul, iI_lt, iI_le, iI_eq, iI_in, iI_clamp, iI_mx, iI_mn, iI_nI, Int.toNat_natCast, forall_eq, br_1, br_2, br_3, br_4, br_in, br_5, br_6, br_7, br_8, ex_c, br_nl, br_le, br_ne, gp_1, gp_2, gp_3, gf_1, gf_2, ix_0, ix_1, ix_2, ix_3, tn_1, tn_2, pp_1, hp, ha]
          exact m_good hQ (RM.p hR (by omega))
    · refine Good.ro (iI (-1)) 2 hC hG (by omega) (fun Q hQ => ?_) (fun M1 hM Q hQ => ?_)
      · unfold wpX3_overall
        simp (disch := omega) only [iI_lit, iI_neg, iI_add, iI_sub, iI_mul, iI_lt, iI_le, iI_eq, iI_in, iI_clamp, iI_mx, iI_mn, iI_nI, Int.toNat_natCast, forall_eq, br_1, br_2, br_3, br_4, br_in, br_5, br_6, br_7, br_8, ex_c, br_nl, br_le, br_ne, gp_1, gp_2, gp_3, gf_1, gf_2, hC.2.1, c_wt_0 hC hG hN h0]
        refine e_makeWhole hC hG hN (fun b M' hb hF hW => ?_)
        rw [hw0] at hW
        have hW' : CR M' b w.2.1 w.2.2.1 w.2.2.2.1 w.2.2.2.2 := hW
        by_cases q0 : r < 1
        · simp (disch := omega) only [iI_lit, iI_neg, iI_add, iI_sub, iI_mul, iI_lt, iI_le, iI_eq, iI_in, iI_clamp, iI_mx, iI_mn, iI_nI, Int.toNat_natCast, forall_eq, br_1, br_2, br_3, br_4, br_in, br_5, br_6, br_7, br_8, ex_c, br_nl, br_le, br_ne, gp_1, gp_2, gp_3, gf_1, gf_2, c_refuse]
          exact hQ _ (RC.p (RC.f (RC.r _) hF (by omega))) gp_1
        · simp (disch := omega) only [iI_lit, iI_neg, iI_add, iI_sub, iI_mul, iI_lt, iI_le, iI_eq, iI_in, iI_clamp, iI_mx, iI_mn, iI_nI, Int.toNat_natCast, forall_eq, br_1, br_2, br_3, br_4, br_in, br_5, br_6, br_7, br_8, ex_c, br_nl, br_le, br_ne, gp_1, gp_2, gp_3, gf_1, gf_2, e_places hW' hn, hwR.lpn, c_refuse]
          exact hQ _ (RC.p (RC.f (RC.r _) hF (by omega))) gp_1
      · unfold wpX4_overall
        refine mo_1 hM hQ (fun M0 hM hQ => ?_)
        simp (disch := omega) only [iI_lit, iI_neg, iI_add, iI_sub, iI_mul, iI_lt, iI_le, iI_eq, iI_in, iI_clamp, iI_mx, iI_mn, iI_nI, Int.toNat_natCast, forall_eq, br_1, br_2, br_3, br_4, br_in, br_5, br_6, br_7, br_8, ex_c, br_nl, br_le, br_ne, gp_1, gp_2, gp_3, gf_1, gf_2, hM.2.2.2.2.1, m_in_y]
        refine m_wholeLays hM hG hN h0 (fun M' hR hM' hW h4 => ?_)
        rw [hw0] at hW h4
        have hp : ∀ Q' : Qi, wpX4_isPlace M' (iI 4) (iI r) Q' = Q' (iI 0) M' := fun Q' => m_isPlace_n (b := 4) (by omega) h4 hN1 c4 hr
        simp (disch := omega) only [iI_lit, iI_neg, iI_add, iI_sub, iI_mul, iI_lt, iI_le, iI_eq, iI_in, iI_clamp, iI_mx, iI_mn, iI_nI, Int.toNat_natCast, forall_eq, br_1, br_2, br_3, br_4, br_in, br_5, br_6, br_7, br_8, ex_c, br_nl, br_le, br_ne, gp_1, gp_2, gp_3, gf_1, gf_2, ix_0, ix_1, ix_2, ix_3, tn_1, tn_2, pp_1, hp]
        exact m_refused hQ hR
  · refine Good.ro (iI (-1)) 1 hC hG (by omega) (fun Q hQ => ?_) (fun M1 hM Q hQ => ?_)
    · unfold wpX3_overall
      by_cases c2 : q < 0
      · simp (disch := omega) only [iI_lit, iI_neg, iI_add, iI_sub, iI_mul, iI_lt, iI_le, iI_eq, iI_in, iI_clamp, iI_mx, iI_mn, iI_nI, Int.toNat_natCast, forall_eq, br_1, br_2, br_3, br_4, br_in, br_5, br_6, br_7, br_8, ex_c, br_nl, br_le, br_ne, gp_1, gp_2, gp_3, gf_1, gf_2, hC.2.1, c_refuse]
        exact hQ _ (RC.p (RC.r _)) gp_1
      · simp (disch := omega) only [iI_lit, iI_neg, iI_add, iI_sub, iI_mul, iI_lt, iI_le, iI_eq, iI_in, iI_clamp, iI_mx, iI_mn, iI_nI, Int.toNat_natCast, forall_eq, br_1, br_2, br_3, br_4, br_in, br_5, br_6, br_7, br_8, ex_c, br_nl, br_le, br_ne, gp_1, gp_2, gp_3, gf_1, gf_2, hC.2.1, c_refuse]
        exact hQ _ (RC.p (RC.r _)) gp_1
    · unfold wpX4_overall
      refine mo_1 hM hQ (fun M0 hM hQ => ?_)
      simp (disch := omega) only [iI_lit, iI_neg, iI_add, iI_sub, iI_mul, iI_lt, iI_le, iI_eq, iI_in, iI_clamp, iI_mx, iI_mn, iI_nI, Int.toNat_natCast, forall_eq, br_1, br_2, br_3, br_4, br_in, br_5, br_6, br_7, br_8, ex_c, br_nl, br_le, br_ne, gp_1, gp_2, gp_3, gf_1, gf_2, hM.2.2.2.2.1, m_in_n]
      exact m_refused hQ (RM.r _)
