theorem d_rp41 {M : Mem} {Q : Mem → Prop} {f a : Int} (h : FT f a M) (hf : 1 ≤ f ∧ f ≤ 6) (hQ : Q M) : wX4_readPush_41 Q M := by
  have e : ∃ m, wX4_readPush_74 Q (-1) m M := ⟨1, by
    simp only [wX4_readPush_74]
    simp (disch := omega) only [iI_lit, iI_neg, iI_add, iI_sub, iI_mul, iI_lt, iI_le, iI_eq, iI_in, iI_clamp, iI_mx, iI_mn, iI_nI, Int.toNat_natCast, forall_eq, br_1, br_2, br_3, br_4, br_in, br_5, br_6, br_7, br_8, ex_c, br_nl, br_le, br_ne, gp_1, gp_2, gp_3, gf_1, gf_2, h.1]
    exact hQ⟩
  unfold wX4_readPush_41
  rw [h.1]
  refine ⟨fun _ => ?_, fun z => ?_⟩
  · rw [d_goOn h hf, d_readWhole h hf, d_pushed h hf]
    exact e
  · rw [iI_lit, iI_eq (by omega) (by omega)] at z
    omega
theorem sim_push {B : Nat → Int} {n p : Nat} {r : Rd} {t : Tk} (hB : BI B n) (hK : KI B r) (hT : TI B n p t) (ht : t.1 = 2) (hn : 2 * rn r ≤ t.2.1) : Sim B n r t wpX2_readPush wpX4_readPush := by
  have hE := hK.1
  have hk4 := hK.2.1
  by_cases e0 : rE r = 0
  · refine Or.inr ⟨6, t.2.1, by omega, fun M Q hX hQ => ?_, fun M Q hX hQ => ?_⟩
    · unfold wpX2_readPush
      simp (disch := omega) only [iI_lit, iI_neg, iI_add, iI_sub, iI_mul, iI_lt, iI_le, iI_eq, iI_in, iI_clamp, iI_mx, iI_mn, iI_nI, Int.toNat_natCast, forall_eq, br_1, br_2, br_3, br_4, br_in, br_5, br_6, br_7, br_8, ex_c, br_nl, br_le, br_ne, gp_1, gp_2, gp_3, gf_1, gf_2, hX.2.1.1, e0, e_fail hX.2.2.1]
      simp only [true_or, true_and]
      exact hQ _ fC_1.1 fC_1.2.1 fC_1.2.2
    · have hf := fM_1 (f := 6) hX.2.2
      unfold wpX4_readPush
      simp (disch := omega) only [iI_lit, iI_neg, iI_add, iI_sub, iI_mul, iI_lt, iI_le, iI_eq, iI_in, iI_clamp, iI_mx, iI_mn, iI_nI, Int.toNat_natCast, forall_eq, br_1, br_2, br_3, br_4, br_in, br_5, br_6, br_7, br_8, ex_c, br_nl, br_le, br_ne, gp_1, gp_2, gp_3, gf_1, gf_2, hX.2.1.1, e0, m_flaw hX.1, d_goOn hf.2, d_needsName hf.2, hf.2.1]
      exact d_rp41 hf.2 (by omega) (hQ _ hf.1 hf.2)
  obtain ⟨t1, T1, C1, M1⟩ := sim_step hB (hT.bn (by omega))
  have tt0 := hT.2.2.2.1 (by omega)
  have ttw := hT.2.2.2.2.1 ht
  have tp := T1.2.1
  by_cases w1 : isN B t1
  · have t12 := T1.2.2.2.2.1 w1.1
    have h1k : ¬ t1.1 = 1 := by rw [w1.1]; omega
    rcases nmd_b (B := B) (r := r) (z := fo 27 96 B t1.2.1 (t1.2.2.1 - t1.2.1)) (rk r) 0 with nm | nm
    · refine Or.inr ⟨3, t1.2.1, by omega, fun M Q hX hQ => ?_, fun M Q hX hQ => ?_⟩
      · unfold wpX2_readPush
        simp (disch := omega) only [iI_lit, iI_neg, iI_add, iI_sub, iI_mul, iI_lt, iI_le, iI_eq, iI_in, iI_clamp, iI_mx, iI_mn, iI_nI, Int.toNat_natCast, forall_eq, br_1, br_2, br_3, br_4, br_in, br_5, br_6, br_7, br_8, ex_c, br_nl, br_le, br_ne, gp_1, gp_2, gp_3, gf_1, gf_2, hX.2.1.1]
        refine XC.ss hX (by omega) C1 (fun Ma fa xa => ?_)
        have e6 := xa.2.2.1.2.2.2.1 w1.1
        simp (disch := omega) only [iI_lit, iI_neg, iI_add, iI_sub, iI_mul, iI_lt, iI_le, iI_eq, iI_in, iI_clamp, iI_mx, iI_mn, iI_nI, Int.toNat_natCast, forall_eq, br_1, br_2, br_3, br_4, br_in, br_5, br_6, br_7, br_8, ex_c, br_nl, br_le, br_ne, gp_1, gp_2, gp_3, gf_1, gf_2, e_isName_y hB xa.1 T1 xa.2.2.1 w1, e6, e_named hK xa.2.1 t12.2.2, nm, e_fail xa.2.2.1]
        simp only [true_or, true_and]
        exact hQ _ ((F1.s fa).t fC_1.1) fC_1.2.1 fC_1.2.2
      · unfold wpX4_readPush
        simp (disch := omega) only [iI_lit, iI_neg, iI_add, iI_sub, iI_mul, iI_lt, iI_le, iI_eq, iI_in, iI_clamp, iI_mx, iI_mn, iI_nI, Int.toNat_natCast, forall_eq, br_1, br_2, br_3, br_4, br_in, br_5, br_6, br_7, br_8, ex_c, br_nl, br_le, br_ne, gp_1, gp_2, gp_3, gf_1, gf_2, hX.2.1.1]
        refine XM.st hX (by omega) M1 (fun Ma fa xa => ?_)
        have e11 := xa.2.2.2.2.2.1 w1.1
        have hf := fM_1 (f := 3) xa.2.2
        simp (disch := omega) only [iI_lit, iI_neg, iI_add, iI_sub, iI_mul, iI_lt, iI_le, iI_eq, iI_in, iI_clamp, iI_mx, iI_mn, iI_nI, Int.toNat_natCast, forall_eq, br_1, br_2, br_3, br_4, br_in, br_5, br_6, br_7, br_8, ex_c, br_nl, br_le, br_ne, gp_1, gp_2, gp_3, gf_1, gf_2, m_needsName_y T1 xa.2.2 w1, xa.1.2.1, m_named hK xa.2.1 t12.2.2 (show t1.2.2.1 - t1.2.1 ≤ 6 by omega) e11, nm, m_flaw xa.1]
        exact d_rp41 hf.2 (by omega) (hQ _ (fa.t hf.1) hf.2)
    · obtain ⟨s, hs⟩ : ∃ s : Nat, nmd B r (fo 27 96 B t1.2.1 (t1.2.2.1 - t1.2.1)) (rk r) 0 = s := ⟨(nmd B r (fo 27 96 B t1.2.1 (t1.2.2.1 - t1.2.1)) (rk r) 0).toNat, by omega⟩
      have hsk : s < rk r := by omega
      obtain ⟨t2, T2, C2, M2⟩ := sim_step hB (T1.bn h1k)
      have tp2 := T2.2.1
      by_cases k3 : t2.1 = 3
      · have t23 := T2.2.2.2.2.2.1 k3
        obtain ⟨r', t', K', T', n', c', m', u'⟩ := sim_pushes (s := s) hB (n + 1) r t2 t1.2.2.1 (by omega) hK T2 hsk (by omega) (fun _ => by omega)
        have u := u' k3
        have tp' := T'.2.1
        refine Or.inl ⟨r', t', K', ⟨T'.1, by omega, T'.2.2⟩, n', fun M Q hX hQ => ?_, fun M Q hX hQ => ?_⟩
        · unfold wpX2_readPush
          simp (disch := omega) only [iI_lit, iI_neg, iI_add, iI_sub, iI_mul, iI_lt, iI_le, iI_eq, iI_in, iI_clamp, iI_mx, iI_mn, iI_nI, Int.toNat_natCast, forall_eq, br_1, br_2, br_3, br_4, br_in, br_5, br_6, br_7, br_8, ex_c, br_nl, br_le, br_ne, gp_1, gp_2, gp_3, gf_1, gf_2, hX.2.1.1]
          refine XC.ss hX (by omega) C1 (fun Ma fa xa => ?_)
          have e6 := xa.2.2.1.2.2.2.1 w1.1
          simp (disch := omega) only [iI_lit, iI_neg, iI_add, iI_sub, iI_mul, iI_lt, iI_le, iI_eq, iI_in, iI_clamp, iI_mx, iI_mn, iI_nI, Int.toNat_natCast, forall_eq, br_1, br_2, br_3, br_4, br_in, br_5, br_6, br_7, br_8, ex_c, br_nl, br_le, br_ne, gp_1, gp_2, gp_3, gf_1, gf_2, e_isName_y hB xa.1 T1 xa.2.2.1 w1, e6, e_named hK xa.2.1 t12.2.2, hs]
          refine XC.ss xa h1k C2 (fun Mb fb xb => ?_)
          simp (disch := omega) only [iI_lit, iI_neg, iI_add, iI_sub, iI_mul, iI_lt, iI_le, iI_eq, iI_in, iI_clamp, iI_mx, iI_mn, iI_nI, Int.toNat_natCast, forall_eq, br_1, br_2, br_3, br_4, br_in, br_5, br_6, br_7, br_8, ex_c, br_nl, br_le, br_ne, gp_1, gp_2, gp_3, gf_1, gf_2, e_wantsWhole_y T2 xb.2.2.1 k3 t23.2.2.2]
          exact ⟨n + 2, c' Mb Q 0 (n + 2) (by omega) (by omega) xb (fun M' fc xc => hQ M' (((F1.s fa).t (F1.s fb)).t fc) xc)⟩
        · unfold wpX4_readPush
          simp (disch := omega) only [iI_lit, iI_neg, iI_add, iI_sub, iI_mul, iI_lt, iI_le, iI_eq, iI_in, iI_clamp, iI_mx, iI_mn, iI_nI, Int.toNat_natCast, forall_eq, br_1, br_2, br_3, br_4, br_in, br_5, br_6, br_7, br_8, ex_c, br_nl, br_le, br_ne, gp_1, gp_2, gp_3, gf_1, gf_2, hX.2.1.1]
          refine XM.st hX (by omega) M1 (fun Ma fa xa => ?_)
          have e11 := xa.2.2.2.2.2.1 w1.1
          have hnm : ∀ Q' : Qi, wpX4_named Ma Q' = Q' (iI s) Ma := fun Q' => by
            rw [m_named hK xa.2.1 t12.2.2 (show t1.2.2.1 - t1.2.1 ≤ 6 by omega) e11, hs]
          unfold wX4_readPush_41
          simp (disch := omega) only [iI_lit, iI_neg, iI_add, iI_sub, iI_mul, iI_lt, iI_le, iI_eq, iI_in, iI_clamp, iI_mx, iI_mn, iI_nI, Int.toNat_natCast, forall_eq, br_1, br_2, br_3, br_4, br_in, br_5, br_6, br_7, br_8, ex_c, br_nl, br_le, br_ne, gp_1, gp_2, gp_3, gf_1, gf_2, m_needsName_y T1 xa.2.2 w1, xa.1.2.1, hnm]
          refine XM.st xa h1k M2 (fun Mb fb xb => ?_)
          exact u Mb Q xb (fun M' fc xc => hQ M' ((fa.t fb).t fc) xc)
      · refine Or.inr ⟨1, t2.2.1, by omega, fun M Q hX hQ => ?_, fun M Q hX hQ => ?_⟩
        · unfold wpX2_readPush
          simp (disch := omega) only [iI_lit, iI_neg, iI_add, iI_sub, iI_mul, iI_lt, iI_le, iI_eq, iI_in, iI_clamp, iI_mx, iI_mn, iI_nI, Int.toNat_natCast, forall_eq, br_1, br_2, br_3, br_4, br_in, br_5, br_6, br_7, br_8, ex_c, br_nl, br_le, br_ne, gp_1, gp_2, gp_3, gf_1, gf_2, hX.2.1.1]
          refine XC.ss hX (by omega) C1 (fun Ma fa xa => ?_)
          have e6 := xa.2.2.1.2.2.2.1 w1.1
          simp (disch := omega) only [iI_lit, iI_neg, iI_add, iI_sub, iI_mul, iI_lt, iI_le, iI_eq, iI_in, iI_clamp, iI_mx, iI_mn, iI_nI, Int.toNat_natCast, forall_eq, br_1, br_2, br_3, br_4, br_in, br_5, br_6, br_7, br_8, ex_c, br_nl, br_le, br_ne, gp_1, gp_2, gp_3, gf_1, gf_2, e_isName_y hB xa.1 T1 xa.2.2.1 w1, e6, e_named hK xa.2.1 t12.2.2, hs]
          refine XC.ss xa h1k C2 (fun Mb fb xb => ?_)
          simp (disch := omega) only [iI_lit, iI_neg, iI_add, iI_sub, iI_mul, iI_lt, iI_le, iI_eq, iI_in, iI_clamp, iI_mx, iI_mn, iI_nI, Int.toNat_natCast, forall_eq, br_1, br_2, br_3, br_4, br_in, br_5, br_6, br_7, br_8, ex_c, br_nl, br_le, br_ne, gp_1, gp_2, gp_3, gf_1, gf_2, e_wantsWhole_k T2 xb.2.2.1 k3]
          exact hQ _ (((F1.s fa).t (F1.s fb)).t fC_1.1) fC_1.2.1 fC_1.2.2
        · unfold wpX4_readPush
          simp (disch := omega) only [iI_lit, iI_neg, iI_add, iI_sub, iI_mul, iI_lt, iI_le, iI_eq, iI_in, iI_clamp, iI_mx, iI_mn, iI_nI, Int.toNat_natCast, forall_eq, br_1, br_2, br_3, br_4, br_in, br_5, br_6, br_7, br_8, ex_c, br_nl, br_le, br_ne, gp_1, gp_2, gp_3, gf_1, gf_2, hX.2.1.1]
          refine XM.st hX (by omega) M1 (fun Ma fa xa => ?_)
          have e11 := xa.2.2.2.2.2.1 w1.1
          have hnm : ∀ Q' : Qi, wpX4_named Ma Q' = Q' (iI s) Ma := fun Q' => by
            rw [m_named hK xa.2.1 t12.2.2 (show t1.2.2.1 - t1.2.1 ≤ 6 by omega) e11, hs]
          unfold wX4_readPush_41
          simp (disch := omega) only [iI_lit, iI_neg, iI_add, iI_sub, iI_mul, iI_lt, iI_le, iI_eq, iI_in, iI_clamp, iI_mx, iI_mn, iI_nI, Int.toNat_natCast, forall_eq, br_1, br_2, br_3, br_4, br_in, br_5, br_6, br_7, br_8, ex_c, br_nl, br_le, br_ne, gp_1, gp_2, gp_3, gf_1, gf_2, m_needsName_y T1 xa.2.2 w1, xa.1.2.1, hnm]
          refine XM.st xa h1k M2 (fun Mb fb xb => ?_)
          have hf := fM_1 (f := 1) xb.2.2
          rw [m_readWhole_k xb.1 T2 xb.2.2 k3, d_pushed hf.2 (by omega)]
          refine ⟨1, ?_⟩
          simp only [wX4_readPush_74]
          simp (disch := omega) only [iI_lit, iI_neg, iI_add, iI_sub, iI_mul, iI_lt, iI_le, iI_eq, iI_in, iI_clamp, iI_mx, iI_mn, iI_nI, Int.toNat_natCast, forall_eq, br_1, br_2, br_3, br_4, br_in, br_5, br_6, br_7, br_8, ex_c, br_nl, br_le, br_ne, gp_1, gp_2, gp_3, gf_1, gf_2, hf.2.1]
          exact hQ _ ((fa.t fb).t hf.1) hf.2
  · refine Or.inr ⟨1, t1.2.1, by omega, fun M Q hX hQ => ?_, fun M Q hX hQ => ?_⟩
    · unfold wpX2_readPush
      simp (disch := omega) only [iI_lit, iI_neg, iI_add, iI_sub, iI_mul, iI_lt, iI_le, iI_eq, iI_in, iI_clamp, iI_mx, iI_mn, iI_nI, Int.toNat_natCast, forall_eq, br_1, br_2, br_3, br_4, br_in, br_5, br_6, br_7, br_8, ex_c, br_nl, br_le, br_ne, gp_1, gp_2, gp_3, gf_1, gf_2, hX.2.1.1]
      refine XC.ss hX (by omega) C1 (fun Ma fa xa => ?_)
      simp (disch := omega) only [iI_lit, iI_neg, iI_add, iI_sub, iI_mul, iI_lt, iI_le, iI_eq, iI_in, iI_clamp, iI_mx, iI_mn, iI_nI, Int.toNat_natCast, forall_eq, br_1, br_2, br_3, br_4, br_in, br_5, br_6, br_7, br_8, ex_c, br_nl, br_le, br_ne, gp_1, gp_2, gp_3, gf_1, gf_2, e_isName_n hB xa.1 T1 xa.2.2.1 w1, e_fail xa.2.2.1]
      simp only [true_or, true_and]
      exact hQ _ ((F1.s fa).t fC_1.1) fC_1.2.1 fC_1.2.2
    · unfold wpX4_readPush
      simp (disch := omega) only [iI_lit, iI_neg, iI_add, iI_sub, iI_mul, iI_lt, iI_le, iI_eq, iI_in, iI_clamp, iI_mx, iI_mn, iI_nI, Int.toNat_natCast, forall_eq, br_1, br_2, br_3, br_4, br_in, br_5, br_6, br_7, br_8, ex_c, br_nl, br_le, br_ne, gp_1, gp_2, gp_3, gf_1, gf_2, hX.2.1.1]
      refine XM.st hX (by omega) M1 (fun Ma fa xa => ?_)
      have hf := fM_1 (f := 1) xa.2.2
      simp (disch := omega) only [iI_lit, iI_neg, iI_add, iI_sub, iI_mul, iI_lt, iI_le, iI_eq, iI_in, iI_clamp, iI_mx, iI_mn, iI_nI, Int.toNat_natCast, forall_eq, br_1, br_2, br_3, br_4, br_in, br_5, br_6, br_7, br_8, ex_c, br_nl, br_le, br_ne, gp_1, gp_2, gp_3, gf_1, gf_2, m_needsName_n T1 xa.2.2 w1, m_flaw xa.1, hf.2.1]
      exact d_rp41 hf.2 (by omega) (hQ _ (fa.t hf.1) hf.2)
/-- a sim through a caller that adds what is known of the answer -/
theorem Sim.up {B : Nat → Int} {n : Nat} {r : Rd} {t : Tk} {c c2 : Mem → Qi → Prop} {m m2 : Mem → (Mem → Prop) → Prop} (h : Sim B n r t c m) (hc : ∀ M Q, XC B n r t M → c M (fun r M' => ((r = iI 0 ∨ r = iI 1) ∧ Q r M')) → c2 M Q) (hm : ∀ M Q, XM B n r t M → m M Q → m2 M Q) : Sim B n r t c2 m2 := by
  rcases h with ⟨r', t', a1, a2, a3, a4, a5⟩ | ⟨f, a, b1, b2, b3⟩
  · exact Or.inl ⟨r', t', a1, a2, a3, fun M Q hX hQ => hc M Q hX (a4 M _ hX (fun M' f x => ⟨Or.inr rfl, hQ M' f x⟩)), fun M Q hX hQ => hm M Q hX (a5 M Q hX hQ)⟩
  · exact Or.inr ⟨f, a, b1, fun M Q hX hQ => hc M Q hX (b2 M _ hX (fun M' f x y => ⟨Or.inl rfl, hQ M' f x y⟩)), fun M Q hX hQ => hm M Q hX (b3 M Q hX hQ)⟩
theorem sim_line {B : Nat → Int} {n p : Nat} {r : Rd} {t : Tk} (hB : BI B n) (hK : KI B r) (hT : TI B n p t) (hn : 2 * rn r ≤ t.2.1) : Sim B n r t wpX2_readLine wpX4_readLine ∧ (¬ t.1 = 2 → ∃ f a, (1 ≤ f ∧ f ≤ 6) ∧ (∀ M Q, XC B n r t M → (∀ M', F1 M M' → gI M' 1 7 = iI f → gI M' 1 8 = iI a → Q (iI 0) M') → wpX2_readLine M Q) ∧ (∀ M Q, XM B n r t M → (∀ M', F2 M M' → FT f a M' → Q M') → wpX4_readLine M Q)) := by
  by_cases w0 : isW B t 0
  · refine ⟨(sim_ranks hB hK hT w0.1 hn).up (fun M Q hX h => ?_) (fun M Q hX h => ?_), fun z => absurd w0.1 z⟩
    · unfold wpX2_readLine
      simp (disch := omega) only [iI_lit, iI_neg, iI_add, iI_sub, iI_mul, iI_lt, iI_le, iI_eq, iI_in, iI_clamp, iI_mx, iI_mn, iI_nI, Int.toNat_natCast, forall_eq, br_1, br_2, br_3, br_4, br_in, br_5, br_6, br_7, br_8, ex_c, br_nl, br_le, br_ne, gp_1, gp_2, gp_3, gf_1, gf_2, e_isWord_y hB hX.1 hT hX.2.2.1 (show 0 < 10 by omega) w0]
      exact h
    · unfold wpX4_readLine
      simp (disch := omega) only [iI_lit, iI_neg, iI_add, iI_sub, iI_mul, iI_lt, iI_le, iI_eq, iI_in, iI_clamp, iI_mx, iI_mn, iI_nI, Int.toNat_natCast, forall_eq, br_1, br_2, br_3, br_4, br_in, br_5, br_6, br_7, br_8, ex_c, br_nl, br_le, br_ne, gp_1, gp_2, gp_3, gf_1, gf_2, m_isWord_y hT hX.2.2 (show 5 < 10 by omega) (by rw [isW_5 (v := 0) (by omega)]; exact w0)]
      exact h
  by_cases w1 : isW B t 1
  · refine ⟨(sim_stream hB hK hT w1.1 hn).up (fun M Q hX h => ?_) (fun M Q hX h => ?_), fun z => absurd w1.1 z⟩
    · unfold wpX2_readLine
      simp (disch := omega) only [iI_lit, iI_neg, iI_add, iI_sub, iI_mul, iI_lt, iI_le, iI_eq, iI_in, iI_clamp, iI_mx, iI_mn, iI_nI, Int.toNat_natCast, forall_eq, br_1, br_2, br_3, br_4, br_in, br_5, br_6, br_7, br_8, ex_c, br_nl, br_le, br_ne, gp_1, gp_2, gp_3, gf_1, gf_2, e_isWord_n hB hX.1 hT hX.2.2.1 (show 0 < 10 by omega) w0, e_isWord_y hB hX.1 hT hX.2.2.1 (show 1 < 10 by omega) w1]
      exact h
    · unfold wpX4_readLine
      simp (disch := omega) only [iI_lit, iI_neg, iI_add, iI_sub, iI_mul, iI_lt, iI_le, iI_eq, iI_in, iI_clamp, iI_mx, iI_mn, iI_nI, Int.toNat_natCast, forall_eq, br_1, br_2, br_3, br_4, br_in, br_5, br_6, br_7, br_8, ex_c, br_nl, br_le, br_ne, gp_1, gp_2, gp_3, gf_1, gf_2, m_isWord_n hT hX.2.2 (show 5 < 10 by omega) (by rw [isW_5 (v := 0) (by omega)]; exact w0), m_isWord_y hT hX.2.2 (show 6 < 10 by omega) (by rw [isW_5 (v := 1) (by omega)]; exact w1)]
      exact h
  by_cases w2 : isW B t 2
  · refine ⟨(sim_push hB hK hT w2.1 hn).up (fun M Q hX h => ?_) (fun M Q hX h => ?_), fun z => absurd w2.1 z⟩
    · unfold wpX2_readLine
      simp (disch := omega) only [iI_lit, iI_neg, iI_add, iI_sub, iI_mul, iI_lt, iI_le, iI_eq, iI_in, iI_clamp, iI_mx, iI_mn, iI_nI, Int.toNat_natCast, forall_eq, br_1, br_2, br_3, br_4, br_in, br_5, br_6, br_7, br_8, ex_c, br_nl, br_le, br_ne, gp_1, gp_2, gp_3, gf_1, gf_2, e_isWord_n hB hX.1 hT hX.2.2.1 (show 0 < 10 by omega) w0, e_isWord_n hB hX.1 hT hX.2.2.1 (show 1 < 10 by omega) w1, e_isWord_y hB hX.1 hT hX.2.2.1 (show 2 < 10 by omega) w2]
      exact h
    · unfold wpX4_readLine
      simp (disch := omega) only [iI_lit, iI_neg, iI_add, iI_sub, iI_mul, iI_lt, iI_le, iI_eq, iI_in, iI_clamp, iI_mx, iI_mn, iI_nI, Int.toNat_natCast, forall_eq, br_1, br_2, br_3, br_4, br_in, br_5, br_6, br_7, br_8, ex_c, br_nl, br_le, br_ne, gp_1, gp_2, gp_3, gf_1, gf_2, m_isWord_n hT hX.2.2 (show 5 < 10 by omega) (by rw [isW_5 (v := 0) (by omega)]; exact w0), m_isWord_n hT hX.2.2 (show 6 < 10 by omega) (by rw [isW_5 (v := 1) (by omega)]; exact w1), m_isWord_y hT hX.2.2 (show 7 < 10 by omega) (by rw [isW_5 (v := 2) (by omega)]; exact w2)]
      exact h
  have key : ∃ f a, (1 ≤ f ∧ f ≤ 6) ∧ (∀ M Q, XC B n r t M → (∀ M', F1 M M' → gI M' 1 7 = iI f → gI M' 1 8 = iI a → Q (iI 0) M') → wpX2_readLine M Q) ∧ (∀ M Q, XM B n r t M → (∀ M', F2 M M' → FT f a M' → Q M') → wpX4_readLine M Q) := by
    refine ⟨1, t.2.1, by omega, fun M Q hX hQ => ?_, fun M Q hX hQ => ?_⟩
    · unfold wpX2_readLine
      simp (disch := omega) only [iI_lit, iI_neg, iI_add, iI_sub, iI_mul, iI_lt, iI_le, iI_eq, iI_in, iI_clamp, iI_mx, iI_mn, iI_nI, Int.toNat_natCast, forall_eq, br_1, br_2, br_3, br_4, br_in, br_5, br_6, br_7, br_8, ex_c, br_nl, br_le, br_ne, gp_1, gp_2, gp_3, gf_1, gf_2, e_isWord_n hB hX.1 hT hX.2.2.1 (show 0 < 10 by omega) w0, e_isWord_n hB hX.1 hT hX.2.2.1 (show 1 < 10 by omega) w1, e_isWord_n hB hX.1 hT hX.2.2.1 (show 2 < 10 by omega) w2, e_fail hX.2.2.1]
      simp only [true_or, true_and]
      exact hQ _ fC_1.1 fC_1.2.1 fC_1.2.2
    · have hf := fM_1 (f := 1) hX.2.2
      unfold wpX4_readLine
      simp (disch := omega) only [iI_lit, iI_neg, iI_add, iI_sub, iI_mul, iI_lt, iI_le, iI_eq, iI_in, iI_clamp, iI_mx, iI_mn, iI_nI, Int.toNat_natCast, forall_eq, br_1, br_2, br_3, br_4, br_in, br_5, br_6, br_7, br_8, ex_c, br_nl, br_le, br_ne, gp_1, gp_2, gp_3, gf_1, gf_2, m_isWord_n hT hX.2.2 (show 5 < 10 by omega) (by rw [isW_5 (v := 0) (by omega)]; exact w0), m_isWord_n hT hX.2.2 (show 6 < 10 by omega) (by rw [isW_5 (v := 1) (by omega)]; exact w1), m_isWord_n hT hX.2.2 (show 7 < 10 by omega) (by rw [isW_5 (v := 2) (by omega)]; exact w2), m_flaw hX.1]
      exact hQ _ hf.1 hf.2
  exact ⟨Or.inr key, fun _ => key⟩
def PC (B : Nat → Int) (n : Nat) (r : Rd) (p : Nat) (M : Mem) : Prop := BC B n M ∧ KC B r M ∧ gI M 1 5 = iI p ∧ gI M 1 7 = iI 0 ∧ gI M 1 8 = iI (-1)
def PM (B : Nat → Int) (n : Nat) (r : Rd) (p : Nat) (M : Mem) : Prop := BM B n M ∧ KM B r M ∧ gI M 200 6 = iI p
theorem PC.st {B : Nat → Int} {n p : Nat} {r : Rd} {t' : Tk} {M : Mem} {Q : Mem → Prop} (h : PC B n r p M) (hC : StepC B n p t') (hQ : ∀ M', F1 M M' → XC B n r t' M' → Q M') : wpX2_step M Q :=
  hC M Q h.1 h.2.2.1 (fun M' hS hT => hQ M' (F1.s hS) ⟨h.1.s hS, h.2.1.s hS, hT, (hS.2 _ _ (by omega)).trans h.2.2.2.1, (hS.2 _ _ (by omega)).trans h.2.2.2.2⟩)
theorem PM.st {B : Nat → Int} {n p : Nat} {r : Rd} {t' : Tk} {M : Mem} {Q : Mem → Prop} (h : PM B n r p M) (hC : StepM B n p t') (hQ : ∀ M', F2 M M' → XM B n r t' M' → Q M') : wpX4_goOn M Q :=
  hC M Q h.1 h.2.2 (fun M' hS hT => hQ M' (F2.s hS) ⟨h.1.s hS, h.2.1.s hS, hT⟩)
theorem l_stop {M : Mem} {Q : Mem → Prop} {g : Nat} {l : Int} (hl : 0 ≤ l ∧ l ≤ 1000) (hQ : Q M) : wX2_readText_51 Q (g + 1) M (iI 0) (iI l) := by
  simp only [wX2_readText_51]
  by_cases c : 400 < l
  · simp (disch := omega) only [iI_lit, iI_neg, iI_add, iI_sub, iI_mul, iI_lt, iI_le, iI_eq, iI_in, iI_clamp, iI_mx, iI_mn, iI_nI, Int.toNat_natCast, forall_eq, br_1, br_2, br_3, br_4, br_in, br_5, br_6, br_7, br_8, ex_c, br_nl, br_le, br_ne, gp_1, gp_2, gp_3, gf_1, gf_2]
    exact hQ
  · simp (disch := omega) only [iI_lit, iI_neg, iI_add, iI_sub, iI_mul, iI_lt, iI_le, iI_eq, iI_in, iI_clamp, iI_mx, iI_mn, iI_nI, Int.toNat_natCast, forall_eq, br_1, br_2, br_3, br_4, br_in, br_5, br_6, br_7, br_8, ex_c, br_nl, br_le, br_ne, gp_1, gp_2, gp_3, gf_1, gf_2]
    exact hQ
theorem d_all {M : Mem} {Q : Mem → Prop} {f a : Int} {g : Nat} (h : FT f a M) (hf : 1 ≤ f ∧ f ≤ 6) (hQ : Q M) : wX4_readAll_23 Q (g + 1) M := by
  simp only [wX4_readAll_23]
  simp (disch := omega) only [iI_lit, iI_neg, iI_add, iI_sub, iI_mul, iI_lt, iI_le, iI_eq, iI_in, iI_clamp, iI_mx, iI_mn, iI_nI, Int.toNat_natCast, forall_eq, br_1, br_2, br_3, br_4, br_in, br_5, br_6, br_7, br_8, ex_c, br_nl, br_le, br_ne, gp_1, gp_2, gp_3, gf_1, gf_2, h.2.2, d_flaw h hf, h.1]
  exact hQ
theorem sim_text {B : Nat → Int} {n : Nat} (hB : BI B n) : ∀ f p r l, n - p < f → p ≤ n → KI B r → 2 * rn r ≤ p → l ≤ p →
    (∃ r', KI B r' ∧ 0 < rk r' ∧ (∀ M Q g, f < g → PC B n r p M → (∀ M', F1 M M' → KC B r' M' → gI M' 1 7 = iI 0 → gI M' 1 8 = iI (-1) → Q M') → wX2_readText_51 Q g M (iI 1) (iI (l : Nat))) ∧
      (∀ M Q (L : Mem → Prop), (∀ M2, (∀ g, f < g → wX4_readAll_23 Q g M2) → L M2) → PM B n r p M → (∀ M', F2 M M' → KM B r' M' → gI M' 200 10 = iI 0 → Q M') → wpX4_goOn M (fun M1 => wpX4_readLine M1 L))) ∨
    (∃ ft a, (1 ≤ ft ∧ ft ≤ 6) ∧ (∀ M Q g, f < g → PC B n r p M → (∀ M', F1 M M' → gI M' 1 7 = iI ft → gI M' 1 8 = iI a → Q M') → wX2_readText_51 Q g M (iI 1) (iI (l : Nat))) ∧
      (∀ M Q (L : Mem → Prop), (∀ M2, (∀ g, f < g → wX4_readAll_23 Q g M2) → L M2) → PM B n r p M → (∀ M', F2 M M' → FT ft a M' → Q M') → wpX4_goOn M (fun M1 => wpX4_readLine M1 L))) := by
  have hn := hB.1
  intro f
  induction f with
  | zero => intro p r l hf; omega
  | succ f ih =>
    intro p r l hf hp hK h2 hl
    obtain ⟨t, T, C, M0⟩ := sim_step hB hp
    have tp := T.2.1
    have tn := T.2.2.1
    have fault : (∃ f a, (1 ≤ f ∧ f ≤ 6) ∧ (∀ M Q, XC B n r t M → (∀ M', F1 M M' → gI M' 1 7 = iI f → gI M' 1 8 = iI a → Q (iI 0) M') → wpX2_readLine M Q) ∧ (∀ M Q, XM B n r t M → (∀ M', F2 M M' → FT f a M' → Q M') → wpX4_readLine M Q)) →
        (∃ ft a, (1 ≤ ft ∧ ft ≤ 6) ∧ (∀ M Q g, f + 1 < g → PC B n r p M → (∀ M', F1 M M' → gI M' 1 7 = iI ft → gI M' 1 8 = iI a → Q M') → wX2_readText_51 Q g M (iI 1) (iI (l : Nat))) ∧
      (∀ M Q (L : Mem → Prop), (∀ M2, (∀ g, f + 1 < g → wX4_readAll_23 Q g M2) → L M2) → PM B n r p M → (∀ M', F2 M M' → FT ft a M' → Q M') → wpX4_goOn M (fun M1 => wpX4_readLine M1 L))) := by
      rintro ⟨ft, a, hft, hc, hm⟩
      refine ⟨ft, a, hft, fun M Q g hg hP hQ => ?_, fun M Q L hL hP hQ => ?_⟩
      · obtain ⟨g, rfl⟩ : ∃ g', g = g' + 2 := ⟨g - 2, by omega⟩
        simp only [wX2_readText_51]
        simp (disch := omega) only [iI_lit, iI_neg, iI_add, iI_sub, iI_mul, iI_lt, iI_le, iI_eq, iI_in, iI_clamp, iI_mx, iI_mn, iI_nI, Int.toNat_natCast, forall_eq, br_1, br_2, br_3, br_4, br_in, br_5, br_6, br_7, br_8, ex_c, br_nl, br_le, br_ne, gp_1, gp_2, gp_3, gf_1, gf_2]
        refine hP.st C (fun Ma fa xa => ?_)
        refine hc Ma _ xa (fun Mb fb h7 h8 => ?_)
        have := l_stop (g := g) (l := (l : Int) + 1) (by omega) (hQ Mb (fa.t fb) h7 h8)
        simp only [wX2_readText_51] at this
        simp (disch := omega) only [iI_lit, iI_neg, iI_add, iI_sub, iI_mul, iI_lt, iI_le, iI_eq, iI_in, iI_clamp, iI_mx, iI_mn, iI_nI, Int.toNat_natCast, forall_eq, br_1, br_2, br_3, br_4, br_in, br_5, br_6, br_7, br_8, ex_c, br_nl, br_le, br_ne, gp_1, gp_2, gp_3, gf_1, gf_2] at this ⊢
        exact this
      · refine hP.st M0 (fun Ma fa xa => ?_)
        refine hm Ma _ xa (fun Mb fb hF => hL Mb (fun g hg => ?_))
        obtain ⟨g, rfl⟩ : ∃ g', g = g' + 1 := ⟨g - 1, by omega⟩
        exact d_all hF hft (hQ Mb (fa.t fb) hF)
    have SL := sim_line hB hK T (show 2 * rn r ≤ t.2.1 by omega)
    by_cases t2 : t.1 = 2
    · have tw := T.2.2.2.2.1 t2
      rcases SL.1 with ⟨r', t', K', T', n', c', m'⟩ | h
      · have tp' := T'.2.1
        have tn' := T'.2.2.1
        have k1 := T'.1
        have kb := km_b t'.1 T'.1
        by_cases k4 : t'.1 = 4
        · have tb' := T'.2.2.2.2.2.2 k4
          have tb2 := T'.2.2.2.1 (by omega)
          have e4 : km t'.1 = 4 := kb.2.2.2.2.1.mpr k4
          rcases ih t'.2.2.1 r' (l + 1) (by omega) (by omega) K' (by omega) (by omega) with ⟨r2, K2, z2, c2, m2⟩ | ⟨ft, a, hft, c2, m2⟩
          · refine Or.inl ⟨r2, K2, z2, fun M Q g hg hP hQ => ?_, fun M Q L hL hP hQ => ?_⟩
            · obtain ⟨g, rfl⟩ : ∃ g', g = g' + 1 := ⟨g - 1, by omega⟩
              simp only [wX2_readText_51]
              simp (disch := omega) only [iI_lit, iI_neg, iI_add, iI_sub, iI_mul, iI_lt, iI_le, iI_eq, iI_in, iI_clamp, iI_mx, iI_mn, iI_nI, Int.toNat_natCast, forall_eq, br_1, br_2, br_3, br_4, br_in, br_5, br_6, br_7, br_8, ex_c, br_nl, br_le, br_ne, gp_1, gp_2, gp_3, gf_1, gf_2]
              refine hP.st C (fun Ma fa xa => ?_)
              refine c' Ma _ xa (fun Mb fb xb => ?_)
              have e3 := xb.2.2.1.1
              rw [k4] at e3
              unfold wpX2_readParting
              simp (disch := omega) only [iI_lit, iI_neg, iI_add, iI_sub, iI_mul, iI_lt, iI_le, iI_eq, iI_in, iI_clamp, iI_mx, iI_mn, iI_nI, Int.toNat_natCast, forall_eq, br_1, br_2, br_3, br_4, br_in, br_5, br_6, br_7, br_8, ex_c, br_nl, br_le, br_ne, gp_1, gp_2, gp_3, gf_1, gf_2, e3]
              exact c2 Mb Q g (by omega) ⟨xb.1, xb.2.1, xb.2.2.1.2.2.1 (by omega), xb.2.2.2⟩ (fun M' fc => hQ M' ((fa.t fb).t fc))
            · refine hP.st M0 (fun Ma fa xa => ?_)
              refine m' Ma _ xa (fun Mb fb xb => hL Mb (fun g hg => ?_))
              obtain ⟨g, rfl⟩ : ∃ g', g = g' + 1 := ⟨g - 1, by omega⟩
              have e3 := xb.2.2.1
              rw [e4] at e3
              simp only [wX4_readAll_23]
              simp (disch := omega) only [iI_lit, iI_neg, iI_add, iI_sub, iI_mul, iI_lt, iI_le, iI_eq, iI_in, iI_clamp, iI_mx, iI_mn, iI_nI, Int.toNat_natCast, forall_eq, br_1, br_2, br_3, br_4, br_in, br_5, br_6, br_7, br_8, ex_c, br_nl, br_le, br_ne, gp_1, gp_2, gp_3, gf_1, gf_2, e3]
              exact m2 Mb Q _ (fun M2 h => h g (by omega)) ⟨xb.1, xb.2.1, xb.2.2.2.2.1 (by omega)⟩ (fun M' fc => hQ M' ((fa.t fb).t fc))
          · refine Or.inr ⟨ft, a, hft, fun M Q g hg hP hQ => ?_, fun M Q L hL hP hQ => ?_⟩
            · obtain ⟨g, rfl⟩ : ∃ g', g = g' + 1 := ⟨g - 1, by omega⟩
              simp only [wX2_readText_51]
              simp (disch := omega) only [iI_lit, iI_neg, iI_add, iI_sub, iI_mul, iI_lt, iI_le, iI_eq, iI_in, iI_clamp, iI_mx, iI_mn, iI_nI, Int.toNat_natCast, forall_eq, br_1, br_2, br_3, br_4, br_in, br_5, br_6, br_7, br_8, ex_c, br_nl, br_le, br_ne, gp_1, gp_2, gp_3, gf_1, gf_2]
              refine hP.st C (fun Ma fa xa => ?_)
              refine c' Ma _ xa (fun Mb fb xb => ?_)
              have e3 := xb.2.2.1.1
              rw [k4] at e3
              unfold wpX2_readParting
              simp (disch := omega) only [iI_lit, iI_neg, iI_add, iI_sub, iI_mul, iI_lt, iI_le, iI_eq, iI_in, iI_clamp, iI_mx, iI_mn, iI_nI, Int.toNat_natCast, forall_eq, br_1, br_2, br_3, br_4, br_in, br_5, br_6, br_7, br_8, ex_c, br_nl, br_le, br_ne, gp_1, gp_2, gp_3, gf_1, gf_2, e3]
              exact c2 Mb Q g (by omega) ⟨xb.1, xb.2.1, xb.2.2.1.2.2.1 (by omega), xb.2.2.2⟩ (fun M' fc => hQ M' ((fa.t fb).t fc))
            · refine hP.st M0 (fun Ma fa xa => ?_)
              refine m' Ma _ xa (fun Mb fb xb => hL Mb (fun g hg => ?_))
              obtain ⟨g, rfl⟩ : ∃ g', g = g' + 1 := ⟨g - 1, by omega⟩
              have e3 := xb.2.2.1
              rw [e4] at e3
              simp only [wX4_readAll_23]
              simp (disch := omega) only [iI_lit, iI_neg, iI_add, iI_sub, iI_mul, iI_lt, iI_le, iI_eq, iI_in, iI_clamp, iI_mx, iI_mn, iI_nI, Int.toNat_natCast, forall_eq, br_1, br_2, br_3, br_4, br_in, br_5, br_6, br_7, br_8, ex_c, br_nl, br_le, br_ne, gp_1, gp_2, gp_3, gf_1, gf_2, e3]
              exact m2 Mb Q _ (fun M2 h => h g (by omega)) ⟨xb.1, xb.2.1, xb.2.2.2.2.1 (by omega)⟩ (fun M' fc => hQ M' ((fa.t fb).t fc))
        · have n4 : ¬ km t'.1 = 4 := fun z => k4 (kb.2.2.2.2.1.mp z)
          by_cases k0 : t'.1 = 0
          · have e1 : km t'.1 = 1 := kb.2.2.2.2.2.1.mpr k0
            by_cases z : rk r' = 0
            · refine Or.inr ⟨6, t'.2.1, by omega, fun M Q g hg hP hQ => ?_, fun M Q L hL hP hQ => ?_⟩
              · obtain ⟨g, rfl⟩ : ∃ g', g = g' + 2 := ⟨g - 2, by omega⟩
                simp only [wX2_readText_51]
                simp (disch := omega) only [iI_lit, iI_neg, iI_add, iI_sub, iI_mul, iI_lt, iI_le, iI_eq, iI_in, iI_clamp, iI_mx, iI_mn, iI_nI, Int.toNat_natCast, forall_eq, br_1, br_2, br_3, br_4, br_in, br_5, br_6, br_7, br_8, ex_c, br_nl, br_le, br_ne, gp_1, gp_2, gp_3, gf_1, gf_2]
                refine hP.st C (fun Ma fa xa => ?_)
                refine c' Ma _ xa (fun Mb fb xb => ?_)
                have e3 := xb.2.2.1.1
                rw [k0] at e3
                unfold wpX2_readParting
                have := l_stop (g := g) (l := (l : Int) + 1) (by omega) (hQ _ ((fa.t fb).t fC_1.1) (fC_1 (M := Mb) (f := 6) (a := t'.2.1)).2.1 fC_1.2.2)
                simp only [wX2_readText_51] at this
                simp (disch := omega) only [iI_lit, iI_neg, iI_add, iI_sub, iI_mul, iI_lt, iI_le, iI_eq, iI_in, iI_clamp, iI_mx, iI_mn, iI_nI, Int.toNat_natCast, forall_eq, br_1, br_2, br_3, br_4, br_in, br_5, br_6, br_7, br_8, ex_c, br_nl, br_le, br_ne, gp_1, gp_2, gp_3, gf_1, gf_2, e3, xb.2.1.2.1, z, e_fail xb.2.2.1] at this ⊢
                exact this
              · refine hP.st M0 (fun Ma fa xa => ?_)
                refine m' Ma _ xa (fun Mb fb xb => hL Mb (fun g hg => ?_))
                obtain ⟨g, rfl⟩ : ∃ g', g = g' + 1 := ⟨g - 1, by omega⟩
                have e3 := xb.2.2.1
                rw [e1] at e3
                have hf := fM_1 (f := 6) xb.2.2
                simp only [wX4_readAll_23]
                simp (disch := omega) only [iI_lit, iI_neg, iI_add, iI_sub, iI_mul, iI_lt, iI_le, iI_eq, iI_in, iI_clamp, iI_mx, iI_mn, iI_nI, Int.toNat_natCast, forall_eq, br_1, br_2, br_3, br_4, br_in, br_5, br_6, br_7, br_8, ex_c, br_nl, br_le, br_ne, gp_1, gp_2, gp_3, gf_1, gf_2, e3, xb.1.2.1, xb.2.1.2.1, z, m_flaw xb.1]
                exact hQ _ ((fa.t fb).t hf.1) hf.2
            · have zb := K'.2.1
              refine Or.inl ⟨r', K', by omega, fun M Q g hg hP hQ => ?_, fun M Q L hL hP hQ => ?_⟩
              · obtain ⟨g, rfl⟩ : ∃ g', g = g' + 2 := ⟨g - 2, by omega⟩
                simp only [wX2_readText_51]
                simp (disch := omega) only [iI_lit, iI_neg, iI_add, iI_sub, iI_mul, iI_lt, iI_le, iI_eq, iI_in, iI_clamp, iI_mx, iI_mn, iI_nI, Int.toNat_natCast, forall_eq, br_1, br_2, br_3, br_4, br_in, br_5, br_6, br_7, br_8, ex_c, br_nl, br_le, br_ne, gp_1, gp_2, gp_3, gf_1, gf_2]
                refine hP.st C (fun Ma fa xa => ?_)
                refine c' Ma _ xa (fun Mb fb xb => ?_)
                have e3 := xb.2.2.1.1
                rw [k0] at e3
                unfold wpX2_readParting
                have := l_stop (g := g) (l := (l : Int) + 1) (by omega) (hQ _ (fa.t fb) xb.2.1 xb.2.2.2.1 xb.2.2.2.2)
                simp only [wX2_readText_51] at this
                simp (disch := omega) only [iI_lit, iI_neg, iI_add, iI_sub, iI_mul, iI_lt, iI_le, iI_eq, iI_in, iI_clamp, iI_mx, iI_mn, iI_nI, Int.toNat_natCast, forall_eq, br_1, br_2, br_3, br_4, br_in, br_5, br_6, br_7, br_8, ex_c, br_nl, br_le, br_ne, gp_1, gp_2, gp_3, gf_1, gf_2, e3, xb.2.1.2.1] at this ⊢
                exact this
              · refine hP.st M0 (fun Ma fa xa => ?_)
                refine m' Ma _ xa (fun Mb fb xb => hL Mb (fun g hg => ?_))
                obtain ⟨g, rfl⟩ : ∃ g', g = g' + 1 := ⟨g - 1, by omega⟩
                have e3 := xb.2.2.1
                rw [e1] at e3
                simp only [wX4_readAll_23]
                simp (disch := omega) only [iI_lit, iI_neg, iI_add, iI_sub, iI_mul, iI_lt, iI_le, iI_eq, iI_in, iI_clamp, iI_mx, iI_mn, iI_nI, Int.toNat_natCast, forall_eq, br_1, br_2, br_3, br_4, br_in, br_5, br_6, br_7, br_8, ex_c, br_nl, br_le, br_ne, gp_1, gp_2, gp_3, gf_1, gf_2, e3, xb.1.2.1, xb.2.1.2.1]
                exact hQ _ (fa.t fb) xb.2.1 xb.1.2.1
          · have n1 : ¬ km t'.1 = 1 := fun z => k0 (kb.2.2.2.2.2.1.mp z)
            refine Or.inr ⟨1, t'.2.1, by omega, fun M Q g hg hP hQ => ?_, fun M Q L hL hP hQ => ?_⟩
            · obtain ⟨g, rfl⟩ : ∃ g', g = g' + 2 := ⟨g - 2, by omega⟩
              simp only [wX2_readText_51]
              simp (disch := omega) only [iI_lit, iI_neg, iI_add, iI_sub, iI_mul, iI_lt, iI_le, iI_eq, iI_in, iI_clamp, iI_mx, iI_mn, iI_nI, Int.toNat_natCast, forall_eq, br_1, br_2, br_3, br_4, br_in, br_5, br_6, br_7, br_8, ex_c, br_nl, br_le, br_ne, gp_1, gp_2, gp_3, gf_1, gf_2]
              refine hP.st C (fun Ma fa xa => ?_)
              refine c' Ma _ xa (fun Mb fb xb => ?_)
              have e3 := xb.2.2.1.1
              unfold wpX2_readParting
              have := l_stop (g := g) (l := (l : Int) + 1) (by omega) (hQ _ ((fa.t fb).t fC_1.1) (fC_1 (M := Mb) (f := 1) (a := t'.2.1)).2.1 fC_1.2.2)
              simp only [wX2_readText_51] at this
              simp (disch := omega) only [iI_lit, iI_neg, iI_add, iI_sub, iI_mul, iI_lt, iI_le, iI_eq, iI_in, iI_clamp, iI_mx, iI_mn, iI_nI, Int.toNat_natCast, forall_eq, br_1, br_2, br_3, br_4, br_in, br_5, br_6, br_7, br_8, ex_c, br_nl, br_le, br_ne, gp_1, gp_2, gp_3, gf_1, gf_2, e3, e_fail xb.2.2.1] at this ⊢
              simp only [true_or, true_and]
              exact this
            · refine hP.st M0 (fun Ma fa xa => ?_)
              refine m' Ma _ xa (fun Mb fb xb => hL Mb (fun g hg => ?_))
              obtain ⟨g, rfl⟩ : ∃ g', g = g' + 1 := ⟨g - 1, by omega⟩
              have e3 := xb.2.2.1
              have hf := fM_1 (f := 1) xb.2.2
              simp only [wX4_readAll_23]
              simp (disch := omega) only [iI_lit, iI_neg, iI_add, iI_sub, iI_mul, iI_lt, iI_le, iI_eq, iI_in, iI_clamp, iI_mx, iI_mn, iI_nI, Int.toNat_natCast, forall_eq, br_1, br_2, br_3, br_4, br_in, br_5, br_6, br_7, br_8, ex_c, br_nl, br_le, br_ne, gp_1, gp_2, gp_3, gf_1, gf_2, e3, m_flaw xb.1, hf.2.1]
              exact hQ _ ((fa.t fb).t hf.1) hf.2
      · exact Or.inr (fault h)
    · exact Or.inr (fault (SL.2 t2))
