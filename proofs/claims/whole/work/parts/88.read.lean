theorem d_rs54 {M : Mem} {Q : Mem → Prop} {f a : Int} (h : FT f a M) (hf : 1 ≤ f ∧ f ≤ 6) : wX4_readStream_54 Q M = Q M := by
  unfold wX4_readStream_54
  rw [forall_eq, d_goOn h hf, d_readPart (by omega) h hf]
  simp (disch := omega) only [iI_lit, iI_neg, iI_add, iI_sub, iI_mul, iI_lt, iI_le, iI_eq, iI_in, iI_clamp, iI_mx, iI_mn, iI_nI, Int.toNat_natCast, forall_eq, br_1, br_2, br_3, br_4, br_in, br_5, br_6, br_7, br_8, ex_c, br_nl, br_le, br_ne, gp_1, gp_2, gp_3, gf_1, gf_2, h.1]
theorem m_rs54_w {B : Nat → Int} {n : Nat} {r : Rd} {t t2 : Tk} {M : Mem} {Q : Mem → Prop} (hX : XM B n r t M) (ht : ¬ t.1 = 1) (T2 : TI B n t.2.2.1 t2) (M2 : StepM B n t.2.2.1 t2) (w : ¬ isW B t2 4) (hQ : ∀ M', F2 M M' → FT 1 t2.2.1 M' → Q M') : wX4_readStream_54 Q M := by
  unfold wX4_readStream_54
  rw [forall_eq]
  refine XM.st hX ht M2 (fun Ma fa xa => ?_)
  have hf := fM_1 (f := 1) xa.2.2
  unfold wpX4_readPart
  rw [m_needs_n xa.1 T2 xa.2.2 (by omega) (by rw [isW_5 (v := 4) (by omega)]; exact w), d_readWhole hf.2 (by omega)]
  simp (disch := omega) only [iI_lit, iI_neg, iI_add, iI_sub, iI_mul, iI_lt, iI_le, iI_eq, iI_in, iI_clamp, iI_mx, iI_mn, iI_nI, Int.toNat_natCast, forall_eq, br_1, br_2, br_3, br_4, br_in, br_5, br_6, br_7, br_8, ex_c, br_nl, br_le, br_ne, gp_1, gp_2, gp_3, gf_1, gf_2, hf.2.1]
  exact hQ _ (fa.t hf.1) hf.2
theorem sim_stream {B : Nat → Int} {n p : Nat} {r : Rd} {t : Tk} (hB : BI B n) (hK : KI B r) (hT : TI B n p t) (ht : t.1 = 2) (hn : 2 * rn r ≤ t.2.1) : Sim B n r t wpX2_readStream wpX4_readStream := by
  have hE := hK.1
  have hk4 := hK.2.1
  by_cases e0 : rE r = 0
  · have k0 : rk r = 0 := by
      rcases Nat.eq_zero_or_pos (rk r) with z | z
      · exact z
      · exact absurd e0 (hK.2.2.1 z)
    refine Or.inr ⟨6, t.2.1, by omega, fun M Q hX hQ => ?_, fun M Q hX hQ => ?_⟩
    · unfold wpX2_readStream
      simp (disch := omega) only [iI_lit, iI_neg, iI_add, iI_sub, iI_mul, iI_lt, iI_le, iI_eq, iI_in, iI_clamp, iI_mx, iI_mn, iI_nI, Int.toNat_natCast, forall_eq, br_1, br_2, br_3, br_4, br_in, br_5, br_6, br_7, br_8, ex_c, br_nl, br_le, br_ne, gp_1, gp_2, gp_3, gf_1, gf_2, hX.2.1.1, e0, e_fail hX.2.2.1]
      simp only [true_or, true_and]
      exact hQ _ fC_1.1 fC_1.2.1 fC_1.2.2
    · have hf := fM_1 (f := 6) hX.2.2
      unfold wpX4_readStream wX4_readStream_13
      simp (disch := omega) only [iI_lit, iI_neg, iI_add, iI_sub, iI_mul, iI_lt, iI_le, iI_eq, iI_in, iI_clamp, iI_mx, iI_mn, iI_nI, Int.toNat_natCast, forall_eq, br_1, br_2, br_3, br_4, br_in, br_5, br_6, br_7, br_8, ex_c, br_nl, br_le, br_ne, gp_1, gp_2, gp_3, gf_1, gf_2, hX.2.1.1, hX.2.1.2.1, e0, k0, m_flaw hX.1, d_goOn hf.2, d_needsName hf.2, hf.2.1, d_rs54 hf.2]
      exact hQ _ hf.1 hf.2
  by_cases k4 : rk r = 4
  · refine Or.inr ⟨5, t.2.1, by omega, fun M Q hX hQ => ?_, fun M Q hX hQ => ?_⟩
    · unfold wpX2_readStream
      simp (disch := omega) only [iI_lit, iI_neg, iI_add, iI_sub, iI_mul, iI_lt, iI_le, iI_eq, iI_in, iI_clamp, iI_mx, iI_mn, iI_nI, Int.toNat_natCast, forall_eq, br_1, br_2, br_3, br_4, br_in, br_5, br_6, br_7, br_8, ex_c, br_nl, br_le, br_ne, gp_1, gp_2, gp_3, gf_1, gf_2, hX.2.1.1, hX.2.1.2.1, k4, e_fail hX.2.2.1]
      simp only [true_or, true_and]
      exact hQ _ fC_1.1 fC_1.2.1 fC_1.2.2
    · have hf := fM_1 (f := 5) hX.2.2
      have g16 : gI (fM M 5) 200 16 = iI (rE r) := by
        unfold fM
        simp (disch := omega) only [iI_lit, iI_neg, iI_add, iI_sub, iI_mul, iI_lt, iI_le, iI_eq, iI_in, iI_clamp, iI_mx, iI_mn, iI_nI, Int.toNat_natCast, forall_eq, br_1, br_2, br_3, br_4, br_in, br_5, br_6, br_7, br_8, ex_c, br_nl, br_le, br_ne, gp_1, gp_2, gp_3, gf_1, gf_2]
        exact hX.2.1.1
      unfold wpX4_readStream wX4_readStream_13
      simp (disch := omega) only [iI_lit, iI_neg, iI_add, iI_sub, iI_mul, iI_lt, iI_le, iI_eq, iI_in, iI_clamp, iI_mx, iI_mn, iI_nI, Int.toNat_natCast, forall_eq, br_1, br_2, br_3, br_4, br_in, br_5, br_6, br_7, br_8, ex_c, br_nl, br_le, br_ne, gp_1, gp_2, gp_3, gf_1, gf_2, hX.2.1.2.1, k4, m_flaw hX.1, g16, d_goOn hf.2, d_needsName hf.2, hf.2.1, d_rs54 hf.2]
      exact hQ _ hf.1 hf.2
  obtain ⟨t1, T1, C1, M1⟩ := sim_step hB (hT.bn (by omega))
  have tt0 := hT.2.2.2.1 (by omega)
  have tp := T1.2.1
  by_cases w1 : isN B t1
  · have t12 := T1.2.2.2.2.1 w1.1
    have h1k : ¬ t1.1 = 1 := by rw [w1.1]; omega
    rcases nmd_b (B := B) (r := r) (z := fo 27 96 B t1.2.1 (t1.2.2.1 - t1.2.1)) (rk r) 0 with nm | nm
    · obtain ⟨t2, T2, C2, M2⟩ := sim_step hB (T1.bn h1k)
      have tp2 := T2.2.1
      by_cases w2 : isW B t2 4
      · have h2k : ¬ t2.1 = 1 := by rw [w2.1]; omega
        have t22 := T2.2.2.2.2.1 w2.1
        obtain ⟨t3, T3, C3, M3⟩ := sim_step hB (T2.bn h2k)
        have tp3 := T3.2.1
        by_cases k3 : t3.1 = 3
        · have t33 := T3.2.2.2.2.2.1 k3
          by_cases nb : 1 ≤ t3.2.2.2 ∧ t3.2.2.2 ≤ 60
          · obtain ⟨t4, T4, C4, M4⟩ := sim_step hB (T3.bn (by omega))
            have tp4 := T4.2.1
            refine Or.inl ⟨rS r t1.2.1 (t1.2.2.1 - t1.2.1) t3.2.2.2, t4, hK.s (by omega) e0 t12.2.2 (by omega) nb, ⟨T4.1, by omega, T4.2.2⟩, by show 2 * rn r ≤ t4.2.1; omega, fun M Q hX hQ => ?_, fun M Q hX hQ => ?_⟩
            · unfold wpX2_readStream
              simp (disch := omega) only [iI_lit, iI_neg, iI_add, iI_sub, iI_mul, iI_lt, iI_le, iI_eq, iI_in, iI_clamp, iI_mx, iI_mn, iI_nI, Int.toNat_natCast, forall_eq, br_1, br_2, br_3, br_4, br_in, br_5, br_6, br_7, br_8, ex_c, br_nl, br_le, br_ne, gp_1, gp_2, gp_3, gf_1, gf_2, hX.2.1.1, hX.2.1.2.1]
              refine XC.ss hX (by omega) C1 (fun Ma fa xa => ?_)
              have e6 := xa.2.2.1.2.2.2.1 w1.1
              simp (disch := omega) only [iI_lit, iI_neg, iI_add, iI_sub, iI_mul, iI_lt, iI_le, iI_eq, iI_in, iI_clamp, iI_mx, iI_mn, iI_nI, Int.toNat_natCast, forall_eq, br_1, br_2, br_3, br_4, br_in, br_5, br_6, br_7, br_8, ex_c, br_nl, br_le, br_ne, gp_1, gp_2, gp_3, gf_1, gf_2, e_isName_y hB xa.1 T1 xa.2.2.1 w1, e6, e_named hK xa.2.1 t12.2.2, nm, xa.2.1.2.1]
              refine XC.ss xa.nm h1k C2 (fun Mb fb xb => ?_)
              simp (disch := omega) only [iI_lit, iI_neg, iI_add, iI_sub, iI_mul, iI_lt, iI_le, iI_eq, iI_in, iI_clamp, iI_mx, iI_mn, iI_nI, Int.toNat_natCast, forall_eq, br_1, br_2, br_3, br_4, br_in, br_5, br_6, br_7, br_8, ex_c, br_nl, br_le, br_ne, gp_1, gp_2, gp_3, gf_1, gf_2, e_wantsWord_y hB xb.1 T2 xb.2.2.1 (show 4 < 10 by omega) w2]
              refine XC.ss xb h2k C3 (fun Mc fc xc => ?_)
              simp (disch := omega) only [iI_lit, iI_neg, iI_add, iI_sub, iI_mul, iI_lt, iI_le, iI_eq, iI_in, iI_clamp, iI_mx, iI_mn, iI_nI, Int.toNat_natCast, forall_eq, br_1, br_2, br_3, br_4, br_in, br_5, br_6, br_7, br_8, ex_c, br_nl, br_le, br_ne, gp_1, gp_2, gp_3, gf_1, gf_2, e_wantsWhole_y T3 xc.2.2.1 k3 nb, xc.2.2.1.2.2.2.2 k3, xc.2.1.2.1]
              have g3 : gI Mc 3 (rk r) = iI (fo 27 96 B t1.2.1 (t1.2.2.1 - t1.2.1)) := (fc.2 _ _ (by omega)).trans ((fb.2 _ _ (by omega)).trans gp_1)
              refine XC.st (xc.sn g3) (by omega) C4 (fun Md fd xd => ?_)
              exact hQ Md ((((((F1.s fa).p (by omega)).t (F1.s fb)).t (F1.s fc)).p (by omega) |>.p (by omega)).t fd) xd
            · unfold wpX4_readStream wX4_readStream_13
              simp (disch := omega) only [iI_lit, iI_neg, iI_add, iI_sub, iI_mul, iI_lt, iI_le, iI_eq, iI_in, iI_clamp, iI_mx, iI_mn, iI_nI, Int.toNat_natCast, forall_eq, br_1, br_2, br_3, br_4, br_in, br_5, br_6, br_7, br_8, ex_c, br_nl, br_le, br_ne, gp_1, gp_2, gp_3, gf_1, gf_2, hX.2.1.1, hX.2.1.2.1]
              refine XM.st hX (by omega) M1 (fun Ma fa xa => ?_)
              have e11 := xa.2.2.2.2.2.1 w1.1
              simp (disch := omega) only [iI_lit, iI_neg, iI_add, iI_sub, iI_mul, iI_lt, iI_le, iI_eq, iI_in, iI_clamp, iI_mx, iI_mn, iI_nI, Int.toNat_natCast, forall_eq, br_1, br_2, br_3, br_4, br_in, br_5, br_6, br_7, br_8, ex_c, br_nl, br_le, br_ne, gp_1, gp_2, gp_3, gf_1, gf_2, m_needsName_y T1 xa.2.2 w1, xa.1.2.1, m_named hK xa.2.1 t12.2.2 (show t1.2.2.1 - t1.2.1 ≤ 6 by omega) e11, nm]
              unfold wX4_readStream_54
              rw [forall_eq, e11]
              refine XM.st xa h1k M2 (fun Mb fb xb => ?_)
              unfold wpX4_readPart
              rw [m_needs_y T2 xb.2.2 (by omega) (by rw [isW_5 (v := 4) (by omega)]; exact w2)]
              refine XM.st xb h2k M3 (fun Mc fc xc => ?_)
              rw [iI_lit, iI_lit, m_readWhole_y T3 xc.2.2 k3 nb (by omega)]
              refine XM.st xc (by omega) M4 (fun Md fd xd => ?_)
              simp (disch := omega) only [iI_lit, iI_neg, iI_add, iI_sub, iI_mul, iI_lt, iI_le, iI_eq, iI_in, iI_clamp, iI_mx, iI_mn, iI_nI, Int.toNat_natCast, forall_eq, br_1, br_2, br_3, br_4, br_in, br_5, br_6, br_7, br_8, ex_c, br_nl, br_le, br_ne, gp_1, gp_2, gp_3, gf_1, gf_2, xd.1.2.1, xd.2.1.2.1, gI_pL]
              exact hQ _ ((((((fa.t fb).t fc).t fd).l).p (by omega)).p (by omega)) xd.sn
          · refine Or.inr ⟨2, t3.2.1, by omega, fun M Q hX hQ => ?_, fun M Q hX hQ => ?_⟩
            · unfold wpX2_readStream
              simp (disch := omega) only [iI_lit, iI_neg, iI_add, iI_sub, iI_mul, iI_lt, iI_le, iI_eq, iI_in, iI_clamp, iI_mx, iI_mn, iI_nI, Int.toNat_natCast, forall_eq, br_1, br_2, br_3, br_4, br_in, br_5, br_6, br_7, br_8, ex_c, br_nl, br_le, br_ne, gp_1, gp_2, gp_3, gf_1, gf_2, hX.2.1.1, hX.2.1.2.1]
              refine XC.ss hX (by omega) C1 (fun Ma fa xa => ?_)
              have e6 := xa.2.2.1.2.2.2.1 w1.1
              simp (disch := omega) only [iI_lit, iI_neg, iI_add, iI_sub, iI_mul, iI_lt, iI_le, iI_eq, iI_in, iI_clamp, iI_mx, iI_mn, iI_nI, Int.toNat_natCast, forall_eq, br_1, br_2, br_3, br_4, br_in, br_5, br_6, br_7, br_8, ex_c, br_nl, br_le, br_ne, gp_1, gp_2, gp_3, gf_1, gf_2, e_isName_y hB xa.1 T1 xa.2.2.1 w1, e6, e_named hK xa.2.1 t12.2.2, nm, xa.2.1.2.1]
              refine XC.ss xa.nm h1k C2 (fun Mb fb xb => ?_)
              simp (disch := omega) only [iI_lit, iI_neg, iI_add, iI_sub, iI_mul, iI_lt, iI_le, iI_eq, iI_in, iI_clamp, iI_mx, iI_mn, iI_nI, Int.toNat_natCast, forall_eq, br_1, br_2, br_3, br_4, br_in, br_5, br_6, br_7, br_8, ex_c, br_nl, br_le, br_ne, gp_1, gp_2, gp_3, gf_1, gf_2, e_wantsWord_y hB xb.1 T2 xb.2.2.1 (show 4 < 10 by omega) w2]
              refine XC.ss xb h2k C3 (fun Mc fc xc => ?_)
              simp (disch := omega) only [iI_lit, iI_neg, iI_add, iI_sub, iI_mul, iI_lt, iI_le, iI_eq, iI_in, iI_clamp, iI_mx, iI_mn, iI_nI, Int.toNat_natCast, forall_eq, br_1, br_2, br_3, br_4, br_in, br_5, br_6, br_7, br_8, ex_c, br_nl, br_le, br_ne, gp_1, gp_2, gp_3, gf_1, gf_2, e_wantsWhole_b T3 xc.2.2.1 k3 nb]
              exact hQ _ (((((F1.s fa).p (by omega)).t (F1.s fb)).t (F1.s fc)).t fC_1.1) fC_1.2.1 fC_1.2.2
            · unfold wpX4_readStream wX4_readStream_13
              simp (disch := omega) only [iI_lit, iI_neg, iI_add, iI_sub, iI_mul, iI_lt, iI_le, iI_eq, iI_in, iI_clamp, iI_mx, iI_mn, iI_nI, Int.toNat_natCast, forall_eq, br_1, br_2, br_3, br_4, br_in, br_5, br_6, br_7, br_8, ex_c, br_nl, br_le, br_ne, gp_1, gp_2, gp_3, gf_1, gf_2, hX.2.1.1, hX.2.1.2.1]
              refine XM.st hX (by omega) M1 (fun Ma fa xa => ?_)
              have e11 := xa.2.2.2.2.2.1 w1.1
              simp (disch := omega) only [iI_lit, iI_neg, iI_add, iI_sub, iI_mul, iI_lt, iI_le, iI_eq, iI_in, iI_clamp, iI_mx, iI_mn, iI_nI, Int.toNat_natCast, forall_eq, br_1, br_2, br_3, br_4, br_in, br_5, br_6, br_7, br_8, ex_c, br_nl, br_le, br_ne, gp_1, gp_2, gp_3, gf_1, gf_2, m_needsName_y T1 xa.2.2 w1, xa.1.2.1, m_named hK xa.2.1 t12.2.2 (show t1.2.2.1 - t1.2.1 ≤ 6 by omega) e11, nm]
              unfold wX4_readStream_54
              rw [forall_eq]
              refine XM.st xa h1k M2 (fun Mb fb xb => ?_)
              unfold wpX4_readPart
              rw [m_needs_y T2 xb.2.2 (by omega) (by rw [isW_5 (v := 4) (by omega)]; exact w2)]
              refine XM.st xb h2k M3 (fun Mc fc xc => ?_)
              rw [iI_lit, iI_lit, m_readWhole_b xc.1 T3 xc.2.2 k3 nb (by omega)]
              have hf := fM_1 (f := 2) xc.2.2
              simp (disch := omega) only [iI_lit, iI_neg, iI_add, iI_sub, iI_mul, iI_lt, iI_le, iI_eq, iI_in, iI_clamp, iI_mx, iI_mn, iI_nI, Int.toNat_natCast, forall_eq, br_1, br_2, br_3, br_4, br_in, br_5, br_6, br_7, br_8, ex_c, br_nl, br_le, br_ne, gp_1, gp_2, gp_3, gf_1, gf_2, hf.2.1]
              exact hQ _ (((fa.t fb).t fc).t hf.1) hf.2
        · refine Or.inr ⟨1, t3.2.1, by omega, fun M Q hX hQ => ?_, fun M Q hX hQ => ?_⟩
          · unfold wpX2_readStream
            simp (disch := omega) only [iI_lit, iI_neg, iI_add, iI_sub, iI_mul, iI_lt, iI_le, iI_eq, iI_in, iI_clamp, iI_mx, iI_mn, iI_nI, Int.toNat_natCast, forall_eq, br_1, br_2, br_3, br_4, br_in, br_5, br_6, br_7, br_8, ex_c, br_nl, br_le, br_ne, gp_1, gp_2, gp_3, gf_1, gf_2, hX.2.1.1, hX.2.1.2.1]
            refine XC.ss hX (by omega) C1 (fun Ma fa xa => ?_)
            have e6 := xa.2.2.1.2.2.2.1 w1.1
            simp (disch := omega) only [iI_lit, iI_neg, iI_add, iI_sub, iI_mul, iI_lt, iI_le, iI_eq, iI_in, iI_clamp, iI_mx, iI_mn, iI_nI, Int.toNat_natCast, forall_eq, br_1, br_2, br_3, br_4, br_in, br_5, br_6, br_7, br_8, ex_c, br_nl, br_le, br_ne, gp_1, gp_2, gp_3, gf_1, gf_2, e_isName_y hB xa.1 T1 xa.2.2.1 w1, e6, e_named hK xa.2.1 t12.2.2, nm, xa.2.1.2.1]
            refine XC.ss xa.nm h1k C2 (fun Mb fb xb => ?_)
            simp (disch := omega) only [iI_lit, iI_neg, iI_add, iI_sub, iI_mul, iI_lt, iI_le, iI_eq, iI_in, iI_clamp, iI_mx, iI_mn, iI_nI, Int.toNat_natCast, forall_eq, br_1, br_2, br_3, br_4, br_in, br_5, br_6, br_7, br_8, ex_c, br_nl, br_le, br_ne, gp_1, gp_2, gp_3, gf_1, gf_2, e_wantsWord_y hB xb.1 T2 xb.2.2.1 (show 4 < 10 by omega) w2]
            refine XC.ss xb h2k C3 (fun Mc fc xc => ?_)
            simp (disch := omega) only [iI_lit, iI_neg, iI_add, iI_sub, iI_mul, iI_lt, iI_le, iI_eq, iI_in, iI_clamp, iI_mx, iI_mn, iI_nI, Int.toNat_natCast, forall_eq, br_1, br_2, br_3, br_4, br_in, br_5, br_6, br_7, br_8, ex_c, br_nl, br_le, br_ne, gp_1, gp_2, gp_3, gf_1, gf_2, e_wantsWhole_k T3 xc.2.2.1 k3]
            exact hQ _ (((((F1.s fa).p (by omega)).t (F1.s fb)).t (F1.s fc)).t fC_1.1) fC_1.2.1 fC_1.2.2
          · unfold wpX4_readStream wX4_readStream_13
            simp (disch := omega) only [iI_lit, iI_neg, iI_add, iI_sub, iI_mul, iI_lt, iI_le, iI_eq, iI_in, iI_clamp, iI_mx, iI_mn, iI_nI, Int.toNat_natCast, forall_eq, br_1, br_2, br_3, br_4, br_in, br_5, br_6, br_7, br_8, ex_c, br_nl, br_le, br_ne, gp_1, gp_2, gp_3, gf_1, gf_2, hX.2.1.1, hX.2.1.2.1]
            refine XM.st hX (by omega) M1 (fun Ma fa xa => ?_)
            have e11 := xa.2.2.2.2.2.1 w1.1
            simp (disch := omega) only [iI_lit, iI_neg, iI_add, iI_sub, iI_mul, iI_lt, iI_le, iI_eq, iI_in, iI_clamp, iI_mx, iI_mn, iI_nI, Int.toNat_natCast, forall_eq, br_1, br_2, br_3, br_4, br_in, br_5, br_6, br_7, br_8, ex_c, br_nl, br_le, br_ne, gp_1, gp_2, gp_3, gf_1, gf_2, m_needsName_y T1 xa.2.2 w1, xa.1.2.1, m_named hK xa.2.1 t12.2.2 (show t1.2.2.1 - t1.2.1 ≤ 6 by omega) e11, nm]
            unfold wX4_readStream_54
            rw [forall_eq]
            refine XM.st xa h1k M2 (fun Mb fb xb => ?_)
            unfold wpX4_readPart
            rw [m_needs_y T2 xb.2.2 (by omega) (by rw [isW_5 (v := 4) (by omega)]; exact w2)]
            refine XM.st xb h2k M3 (fun Mc fc xc => ?_)
            rw [m_readWhole_k xc.1 T3 xc.2.2 k3]
            have hf := fM_1 (f := 1) xc.2.2
            simp (disch := omega) only [iI_lit, iI_neg, iI_add, iI_sub, iI_mul, iI_lt, iI_le, iI_eq, iI_in, iI_clamp, iI_mx, iI_mn, iI_nI, Int.toNat_natCast, forall_eq, br_1, br_2, br_3, br_4, br_in, br_5, br_6, br_7, br_8, ex_c, br_nl, br_le, br_ne, gp_1, gp_2, gp_3, gf_1, gf_2, hf.2.1]
            exact hQ _ (((fa.t fb).t fc).t hf.1) hf.2
      · refine Or.inr ⟨1, t2.2.1, by omega, fun M Q hX hQ => ?_, fun M Q hX hQ => ?_⟩
        · unfold wpX2_readStream
          simp (disch := omega) only [iI_lit, iI_neg, iI_add, iI_sub, iI_mul, iI_lt, iI_le, iI_eq, iI_in, iI_clamp, iI_mx, iI_mn, iI_nI, Int.toNat_natCast, forall_eq, br_1, br_2, br_3, br_4, br_in, br_5, br_6, br_7, br_8, ex_c, br_nl, br_le, br_ne, gp_1, gp_2, gp_3, gf_1, gf_2, hX.2.1.1, hX.2.1.2.1]
          refine XC.ss hX (by omega) C1 (fun Ma fa xa => ?_)
          have e6 := xa.2.2.1.2.2.2.1 w1.1
          simp (disch := omega) only [iI_lit, iI_neg, iI_add, iI_sub, iI_mul, iI_lt, iI_le, iI_eq, iI_in, iI_clamp, iI_mx, iI_mn, iI_nI, Int.toNat_natCast, forall_eq, br_1, br_2, br_3, br_4, br_in, br_5, br_6, br_7, br_8, ex_c, br_nl, br_le, br_ne, gp_1, gp_2, gp_3, gf_1, gf_2, e_isName_y hB xa.1 T1 xa.2.2.1 w1, e6, e_named hK xa.2.1 t12.2.2, nm, xa.2.1.2.1]
          refine XC.ss xa.nm h1k C2 (fun Mb fb xb => ?_)
          simp (disch := omega) only [iI_lit, iI_neg, iI_add, iI_sub, iI_mul, iI_lt, iI_le, iI_eq, iI_in, iI_clamp, iI_mx, iI_mn, iI_nI, Int.toNat_natCast, forall_eq, br_1, br_2, br_3, br_4, br_in, br_5, br_6, br_7, br_8, ex_c, br_nl, br_le, br_ne, gp_1, gp_2, gp_3, gf_1, gf_2, e_wantsWord_n hB xb.1 T2 xb.2.2.1 (show 4 < 10 by omega) w2]
          exact hQ _ ((((F1.s fa).p (by omega)).t (F1.s fb)).t fC_1.1) fC_1.2.1 fC_1.2.2
        · unfold wpX4_readStream wX4_readStream_13
          simp (disch := omega) only [iI_lit, iI_neg, iI_add, iI_sub, iI_mul, iI_lt, iI_le, iI_eq, iI_in, iI_clamp, iI_mx, iI_mn, iI_nI, Int.toNat_natCast, forall_eq, br_1, br_2, br_3, br_4, br_in, br_5, br_6, br_7, br_8, ex_c, br_nl, br_le, br_ne, gp_1, gp_2, gp_3, gf_1, gf_2, hX.2.1.1, hX.2.1.2.1]
          refine XM.st hX (by omega) M1 (fun Ma fa xa => ?_)
          have e11 := xa.2.2.2.2.2.1 w1.1
          simp (disch := omega) only [iI_lit, iI_neg, iI_add, iI_sub, iI_mul, iI_lt, iI_le, iI_eq, iI_in, iI_clamp, iI_mx, iI_mn, iI_nI, Int.toNat_natCast, forall_eq, br_1, br_2, br_3, br_4, br_in, br_5, br_6, br_7, br_8, ex_c, br_nl, br_le, br_ne, gp_1, gp_2, gp_3, gf_1, gf_2, m_needsName_y T1 xa.2.2 w1, xa.1.2.1, m_named hK xa.2.1 t12.2.2 (show t1.2.2.1 - t1.2.1 ≤ 6 by omega) e11, nm]
          exact m_rs54_w xa h1k T2 M2 w2 (fun M' fb hf => hQ M' (fa.t fb) hf)
    · refine Or.inr ⟨3, t1.2.1, by omega, fun M Q hX hQ => ?_, fun M Q hX hQ => ?_⟩
      · unfold wpX2_readStream
        simp (disch := omega) only [iI_lit, iI_neg, iI_add, iI_sub, iI_mul, iI_lt, iI_le, iI_eq, iI_in, iI_clamp, iI_mx, iI_mn, iI_nI, Int.toNat_natCast, forall_eq, br_1, br_2, br_3, br_4, br_in, br_5, br_6, br_7, br_8, ex_c, br_nl, br_le, br_ne, gp_1, gp_2, gp_3, gf_1, gf_2, hX.2.1.1, hX.2.1.2.1]
        refine XC.ss hX (by omega) C1 (fun Ma fa xa => ?_)
        have e6 := xa.2.2.1.2.2.2.1 w1.1
        simp (disch := omega) only [iI_lit, iI_neg, iI_add, iI_sub, iI_mul, iI_lt, iI_le, iI_eq, iI_in, iI_clamp, iI_mx, iI_mn, iI_nI, Int.toNat_natCast, forall_eq, br_1, br_2, br_3, br_4, br_in, br_5, br_6, br_7, br_8, ex_c, br_nl, br_le, br_ne, gp_1, gp_2, gp_3, gf_1, gf_2, e_isName_y hB xa.1 T1 xa.2.2.1 w1, e6, e_named hK xa.2.1 t12.2.2, e_fail xa.2.2.1]
        simp only [true_or, true_and]
        exact hQ _ ((F1.s fa).t fC_1.1) fC_1.2.1 fC_1.2.2
      · unfold wpX4_readStream wX4_readStream_13
        simp (disch := omega) only [iI_lit, iI_neg, iI_add, iI_sub, iI_mul, iI_lt, iI_le, iI_eq, iI_in, iI_clamp, iI_mx, iI_mn, iI_nI, Int.toNat_natCast, forall_eq, br_1, br_2, br_3, br_4, br_in, br_5, br_6, br_7, br_8, ex_c, br_nl, br_le, br_ne, gp_1, gp_2, gp_3, gf_1, gf_2, hX.2.1.1, hX.2.1.2.1]
        refine XM.st hX (by omega) M1 (fun Ma fa xa => ?_)
        have e11 := xa.2.2.2.2.2.1 w1.1
        have hf := fM_1 (f := 3) xa.2.2
        simp (disch := omega) only [iI_lit, iI_neg, iI_add, iI_sub, iI_mul, iI_lt, iI_le, iI_eq, iI_in, iI_clamp, iI_mx, iI_mn, iI_nI, Int.toNat_natCast, forall_eq, br_1, br_2, br_3, br_4, br_in, br_5, br_6, br_7, br_8, ex_c, br_nl, br_le, br_ne, gp_1, gp_2, gp_3, gf_1, gf_2, m_needsName_y T1 xa.2.2 w1, xa.1.2.1, m_named hK xa.2.1 t12.2.2 (show t1.2.2.1 - t1.2.1 ≤ 6 by omega) e11, m_flaw xa.1, d_rs54 hf.2]
        exact hQ _ (fa.t hf.1) hf.2
  · refine Or.inr ⟨1, t1.2.1, by omega, fun M Q hX hQ => ?_, fun M Q hX hQ => ?_⟩
    · unfold wpX2_readStream
      simp (disch := omega) only [iI_lit, iI_neg, iI_add, iI_sub, iI_mul, iI_lt, iI_le, iI_eq, iI_in, iI_clamp, iI_mx, iI_mn, iI_nI, Int.toNat_natCast, forall_eq, br_1, br_2, br_3, br_4, br_in, br_5, br_6, br_7, br_8, ex_c, br_nl, br_le, br_ne, gp_1, gp_2, gp_3, gf_1, gf_2, hX.2.1.1, hX.2.1.2.1]
      refine XC.ss hX (by omega) C1 (fun Ma fa xa => ?_)
      simp (disch := omega) only [iI_lit, iI_neg, iI_add, iI_sub, iI_mul, iI_lt, iI_le, iI_eq, iI_in, iI_clamp, iI_mx, iI_mn, iI_nI, Int.toNat_natCast, forall_eq, br_1, br_2, br_3, br_4, br_in, br_5, br_6, br_7, br_8, ex_c, br_nl, br_le, br_ne, gp_1, gp_2, gp_3, gf_1, gf_2, e_isName_n hB xa.1 T1 xa.2.2.1 w1, e_fail xa.2.2.1]
      simp only [true_or, true_and]
      exact hQ _ ((F1.s fa).t fC_1.1) fC_1.2.1 fC_1.2.2
    · unfold wpX4_readStream wX4_readStream_13
      simp (disch := omega) only [iI_lit, iI_neg, iI_add, iI_sub, iI_mul, iI_lt, iI_le, iI_eq, iI_in, iI_clamp, iI_mx, iI_mn, iI_nI, Int.toNat_natCast, forall_eq, br_1, br_2, br_3, br_4, br_in, br_5, br_6, br_7, br_8, ex_c, br_nl, br_le, br_ne, gp_1, gp_2, gp_3, gf_1, gf_2, hX.2.1.1, hX.2.1.2.1]
      refine XM.st hX (by omega) M1 (fun Ma fa xa => ?_)
      have hf := fM_1 (f := 1) xa.2.2
      simp (disch := omega) only [iI_lit, iI_neg, iI_add, iI_sub, iI_mul, iI_lt, iI_le, iI_eq, iI_in, iI_clamp, iI_mx, iI_mn, iI_nI, Int.toNat_natCast, forall_eq, br_1, br_2, br_3, br_4, br_in, br_5, br_6, br_7, br_8, ex_c, br_nl, br_le, br_ne, gp_1, gp_2, gp_3, gf_1, gf_2, m_needsName_n T1 xa.2.2 w1, m_flaw xa.1, hf.2.1, d_rs54 hf.2]
      exact hQ _ (fa.t hf.1) hf.2
