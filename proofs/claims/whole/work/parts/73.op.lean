theorem l_mrounds {M : Mem} {Q : Qi} {N : Nat} {er : Int} (he : 2 ≤ er ∧ er ≤ 1000) : ∀ f c n v l d M1 m, f < m → n ≤ f → c + f ≤ 1000 → FrW 4 M M1 → gI M1 224 4 = iI N → gI M1 200 28 = iI er → MR M1 4 n v l d → RI N n v l d → (∀ M', FrW 4 M M' → wpX4_good M' (iI (c + rl (bo N er) f n l d : Nat)) Q) → wX4_rounds_27 Q m M1 (iI (c : Nat)) := by
  intro f
  induction f with
  | zero =>
    intro c n v l d M1 m hm hnf hc hF h4 hE hC hR hQ
    have hN := hR.1
    have hb := bo_b (n := N) (e := er) (by omega) he.1
    have hn : n = 0 := by omega
    subst hn
    obtain ⟨m, rfl⟩ : ∃ m', m = m' + 1 := ⟨m - 1, by omega⟩
    simp only [wX4_rounds_27, iI_lit]
    have hbo : ∀ Q' : Qi, wpX4_boundOf M1 (iI 4) Q' = Q' (iI (bo N er)) M1 := fun Q' => m_boundOf (Q := Q') (M := M1) (b := 4) (by omega) h4 hE hN he
    rw [hbo]
    have hsh := m_shortens (M := M1) (b := 4) (bo := bo N er) (Q := fun r_8 M_7 => ((r_8 ≤ iI 0 → wpX4_good M_7 (iI c) (fun r_10 M_9 => Q r_10 M_9)) ∧ (¬ r_8 ≤ iI 0 → wX4_rounds_27 Q m M_7 (iI c + iI 1)))) (by omega) hC hR (by omega) (fun M' hF' _ hC' => by
      have := (RI_sh hR (bo N er)).2
      have e : (shK 0 l d (bo N er)).length = 0 := by omega
      rw [e]
      simp (disch := omega) only [iI_lit, iI_neg, iI_add, iI_sub, iI_mul, iI_lt, iI_le, iI_eq, iI_in, iI_clamp, iI_mx, iI_mn, iI_nI, Int.toNat_natCast, forall_eq, br_1, br_2, br_3, br_4, br_in, br_5, br_6, br_7, br_8, ex_c, br_nl, br_le, br_ne, gp_1, gp_2, gp_3, gf_1, gf_2]
      exact hQ M' (hF.t hF'))
    exact hsh
  | succ f ih =>
    intro c n v l d M1 m hm hnf hc hF h4 hE hC hR hQ
    have hN := hR.1
    have hb := bo_b (n := N) (e := er) (by omega) he.1
    have hr := RI_sh hR (bo N er)
    obtain ⟨m, rfl⟩ : ∃ m', m = m' + 1 := ⟨m - 1, by omega⟩
    simp only [wX4_rounds_27, iI_lit]
    have hn : n ≤ 1000 := Nat.le_trans hR.2.1 hR.1
    have hbo : ∀ Q' : Qi, wpX4_boundOf M1 (iI 4) Q' = Q' (iI (bo N er)) M1 := fun Q' => m_boundOf (Q := Q') (M := M1) (b := 4) (by omega) h4 hE hN he
    rw [hbo]
    rw [rl] at hQ
    have hsh := m_shortens (M := M1) (b := 4) (bo := bo N er) (Q := fun r_8 M_7 => ((r_8 ≤ iI 0 → wpX4_good M_7 (iI c) (fun r_10 M_9 => Q r_10 M_9)) ∧ (¬ r_8 ≤ iI 0 → wX4_rounds_27 Q m M_7 (iI c + iI 1)))) (by omega) hC hR (by omega) (fun M' hF' g4 hC' => by
      by_cases c1 : (shK n l d (bo N er)).length = n
      · simp (disch := omega) only [iI_lit, iI_neg, iI_add, iI_sub, iI_mul, iI_lt, iI_le, iI_eq, iI_in, iI_clamp, iI_mx, iI_mn, iI_nI, Int.toNat_natCast, forall_eq, br_1, br_2, br_3, br_4, br_in, br_5, br_6, br_7, br_8, ex_c, br_nl, br_le, br_ne, gp_1, gp_2, gp_3, gf_1, gf_2]
        have := hQ M' (hF.t hF')
        rw [if_pos c1] at this
        exact this
      · simp (disch := omega) only [iI_lit, iI_neg, iI_add, iI_sub, iI_mul, iI_lt, iI_le, iI_eq, iI_in, iI_clamp, iI_mx, iI_mn, iI_nI, Int.toNat_natCast, forall_eq, br_1, br_2, br_3, br_4, br_in, br_5, br_6, br_7, br_8, ex_c, br_nl, br_le, br_ne, gp_1, gp_2, gp_3, gf_1, gf_2]
        rw [if_neg c1] at hQ
        have := ih (c + 1) _ _ _ _ M' m (by omega) (by omega) (by omega) (hF.t hF') (g4.trans h4) ((hF'.2 _ _ (by omega) (by omega)).trans hE) hC' hr.1 (fun M2 hF2 => by
          have := hQ M2 hF2
          rw [show c + 1 + rl (bo N er) f (shK n l d (bo N er)).length (sel l (shK n l d (bo N er))) (sel d (shK n l d (bo N er))) = c + (rl (bo N er) f (shK n l d (bo N er)).length (sel l (shK n l d (bo N er))) (sel d (shK n l d (bo N er))) + 1) by omega]
          exact this)
        simpa using this)
    exact hsh
theorem op_rounds {mk : Nat} {S : Gs} {M : Mem} (hC : CS mk S M) (hG : GI S) (a : Int32) : Good mk S (fun Q => wpX3_rounds mk M a Q) (fun M1 Q => wpX4_rounds M1 a Q) M := by
  obtain ⟨z, rfl, hz⟩ := iI_of a
  by_cases c0 : ¬ (0 ≤ z ∧ z < gk S)
  · refine Good.ro (iI (-1)) 1 hC hG (by omega) (fun Q hQ => ?_) (fun M1 hM Q hQ => ?_)
    · simp only [wpX3_rounds, iI_lit, c_find_n hC hG hz c0, o_none, o_none2, c_refuse]
      exact hQ _ (RC.p (RC.r _)) gp_1
    · unfold wpX4_rounds
      refine mo_1 hM hQ (fun M0 hM hQ => ?_)
      simp (disch := omega) only [iI_lit, iI_neg, iI_add, iI_sub, iI_mul, iI_lt, iI_le, iI_eq, iI_in, iI_clamp, iI_mx, iI_mn, iI_nI, Int.toNat_natCast, forall_eq, br_1, br_2, br_3, br_4, br_in, br_5, br_6, br_7, br_8, ex_c, br_nl, br_le, br_ne, gp_1, gp_2, gp_3, gf_1, gf_2, m_isS_n hM hG hz c0]
      exact m_refused hQ (RM.r _)
  obtain ⟨j, rfl⟩ : ∃ j : Nat, z = j := ⟨z.toNat, by omega⟩
  have hj : j < gk S := by omega
  have hk := hG.1
  have hT := hC.ct hj
  have hS := hG.si hj
  have hE := hG.er hj
  obtain ⟨x, hx⟩ : ∃ x, gT S j = x := ⟨_, rfl⟩
  rw [hx] at hT hS
  have hN := hS.1.1
  have hn := hS.1.2.1
  obtain ⟨t1, t2, t3, t4, t5, t6⟩ := hT
  have hb := bo_b (n := tN x) (e := gE S) (by omega) hE.1
  refine Good.ro (iI (((rl (bo (tN x) (gE S)) (tn x) (tn x) (tl x) (td x) : Nat) : Int))) 0 hC hG (by omega) (fun Q hQ => ?_) (fun M1 hM Q hQ => ?_)
  · simp only [wpX3_rounds, c_find_y hC hG hj, o_some]
    refine e_copyOf t6 (by omega) (by omega) (fun M2 hF hC2 => ?_)
    simp (disch := omega) only [iI_lit, iI_neg, iI_add, iI_sub, iI_mul, iI_lt, iI_le, iI_eq, iI_in, iI_clamp, iI_mx, iI_mn, iI_nI, Int.toNat_natCast, forall_eq, br_1, br_2, br_3, br_4, br_in, br_5, br_6, br_7, br_8, ex_c, br_nl, br_le, br_ne, gp_1, gp_2, gp_3, gf_1, gf_2, hF.g (b := 100 + 20 * j) (by omega), hF.g (b := 0) (by omega), t1, hC.2.2.1, e_boundOf]
    refine e_roundsLeft hC2 hS.1 (by omega) (fun M3 hF3 => ?_)
    simp (disch := omega) only [iI_lit, iI_neg, iI_add, iI_sub, iI_mul, iI_lt, iI_le, iI_eq, iI_in, iI_clamp, iI_mx, iI_mn, iI_nI, Int.toNat_natCast, forall_eq, br_1, br_2, br_3, br_4, br_in, br_5, br_6, br_7, br_8, ex_c, br_nl, br_le, br_ne, gp_1, gp_2, gp_3, gf_1, gf_2, c_pass]
    exact hQ _ (RC.p (RC.f (RC.f (RC.r _) hF (by omega)) hF3 (by omega))) gp_1
  · unfold wpX4_rounds
    refine mo_1 hM hQ (fun M0 hM hQ => ?_)
    have hMT := hM.mt hj
    rw [hx] at hMT
    obtain ⟨u1, u2, u3, u4, u5, u6⟩ := hMT
    simp (disch := omega) only [iI_lit, iI_neg, iI_add, iI_sub, iI_mul, iI_lt, iI_le, iI_eq, iI_in, iI_clamp, iI_mx, iI_mn, iI_nI, Int.toNat_natCast, forall_eq, br_1, br_2, br_3, br_4, br_in, br_5, br_6, br_7, br_8, ex_c, br_nl, br_le, br_ne, gp_1, gp_2, gp_3, gf_1, gf_2, ix_0, ix_1, ix_2, ix_3, tn_1, tn_2, pp_1, m_isS_y hM hG hj, m_in_y, m_in_n, u1.1, u2, u3, u4, u5, hM.2.2.2.2.1, u2]
    refine m_copiesRow (b := j) (t := 4) (by omega) (by omega) (by omega) (by omega) u1 (fun M2 hF g4 hM2 => ?_)
    refine ⟨tn x + 1, ?_⟩
    have := l_mrounds (M := M2) (Q := Q) (N := tN x) hE (tn x) 0 _ _ _ _ M2 (tn x + 1) (by omega) (Nat.le_refl _) (by omega) (FrW.r _ _) (g4.trans u2) ((hF.2 _ _ (by omega) (by omega)).trans hM.2.2.2.2.1) hM2 hS.1 (fun M' hF' => by
      rw [Nat.zero_add]
      exact m_good hQ (RM.w (RM.w (RM.r _) hF (by omega)) hF' (by omega)))
    simpa using this
theorem op_coarse {mk : Nat} {S : Gs} {M : Mem} (hC : CS mk S M) (hG : GI S) (a b : Int32) : Good mk S (fun Q => wpX3_coarse mk M a b Q) (fun M1 Q => wpX4_coarse M1 a b Q) M := by
  obtain ⟨z, rfl, hz⟩ := iI_of a
  obtain ⟨q, rfl, hq⟩ := iI_of b
  by_cases c0 : ¬ (0 ≤ z ∧ z < gk S)
  · refine Good.ro (iI (-1)) 1 hC hG (by omega) (fun Q hQ => ?_) (fun M1 hM Q hQ => ?_)
    · simp only [wpX3_coarse, iI_lit, c_find_n hC hG hz c0, o_none, o_none2, c_refuse]
      exact hQ _ (RC.p (RC.r _)) gp_1
    · unfold wpX4_coarse
      refine mo_1 hM hQ (fun M0 hM hQ => ?_)
      simp (disch := omega) only [iI_lit, iI_neg, iI_add, iI_sub, iI_mul, iI_lt, iI_le, iI_eq, iI_in, iI_clamp, iI_mx, iI_mn, iI_nI, Int.toNat_natCast, forall_eq, br_1, br_2, br_3, br_4, br_in, br_5, br_6, br_7, br_8, ex_c, br_nl, br_le, br_ne, gp_1, gp_2, gp_3, gf_1, gf_2, m_isS_n hM hG hz c0]
      exact m_refused hQ (RM.r _)
  obtain ⟨j, rfl⟩ : ∃ j : Nat, z = j := ⟨z.toNat, by omega⟩
  have hj : j < gk S := by omega
  have hk := hG.1
  have hT := hC.ct hj
  have hS := hG.si hj
  have hE := hG.er hj
  obtain ⟨x, hx⟩ : ∃ x, gT S j = x := ⟨_, rfl⟩
  rw [hx] at hT hS
  have hN := hS.1.1
  have hn := hS.1.2.1
  obtain ⟨t1, t2, t3, t4, t5, t6⟩ := hT
  have he := hG.2.2.1 (show 0 < gk S by omega)
  by_cases c1 : 2 ≤ q ∧ q ≤ gE S
  · have hb := bo_b (n := tN x) (e := q) (by omega) c1.1
    refine Good.ro (iI (((shK (tn x) (tl x) (td x) (bo (tN x) q)).length : Int))) 0 hC hG (by omega) (fun Q hQ => ?_) (fun M1 hM Q hQ => ?_)
    · simp only [wpX3_coarse, c_find_y hC hG hj, o_some]
      simp (disch := omega) only [iI_lit, iI_neg, iI_add, iI_sub, iI_mul, iI_lt, iI_le, iI_eq, iI_in, iI_clamp, iI_mx, iI_mn, iI_nI, Int.toNat_natCast, forall_eq, br_1, br_2, br_3, br_4, br_in, br_5, br_6, br_7, br_8, ex_c, br_nl, br_le, br_ne, gp_1, gp_2, gp_3, gf_1, gf_2, hC.2.2.1]
      refine e_copyOf t6 (by omega) (by omega) (fun M2 hF hC2 => ?_)
      simp (disch := omega) only [iI_lit, iI_neg, iI_add, iI_sub, iI_mul, iI_lt, iI_le, iI_eq, iI_in, iI_clamp, iI_mx, iI_mn, iI_nI, Int.toNat_natCast, forall_eq, br_1, br_2, br_3, br_4, br_in, br_5, br_6, br_7, br_8, ex_c, br_nl, br_le, br_ne, gp_1, gp_2, gp_3, gf_1, gf_2, hF.g (b := 100 + 20 * j) (by omega), hF.g (b := 0) (by omega), t1, hC.2.2.1, e_boundOf]
      refine e_shorten hC2 hS.1 (by omega) (fun M3 hF3 hC3 => ?_)
      rw [hC3.1]
      simp (disch := omega) only [iI_lit, iI_neg, iI_add, iI_sub, iI_mul, iI_lt, iI_le, iI_eq, iI_in, iI_clamp, iI_mx, iI_mn, iI_nI, Int.toNat_natCast, forall_eq, br_1, br_2, br_3, br_4, br_in, br_5, br_6, br_7, br_8, ex_c, br_nl, br_le, br_ne, gp_1, gp_2, gp_3, gf_1, gf_2, c_pass]
      exact hQ _ (RC.p (RC.f (RC.f (RC.r _) hF (by omega)) hF3 (by omega))) gp_1
    · unfold wpX4_coarse
      refine mo_1 hM hQ (fun M0 hM hQ => ?_)
      have hMT := hM.mt hj
      rw [hx] at hMT
      obtain ⟨u1, u2, u3, u4, u5, u6⟩ := hMT
      simp (disch := omega) only [iI_lit, iI_neg, iI_add, iI_sub, iI_mul, iI_lt, iI_le, iI_eq, iI_in, iI_clamp, iI_mx, iI_mn, iI_nI, Int.toNat_natCast, forall_eq, br_1, br_2, br_3, br_4, br_in, br_5, br_6, br_7, br_8, ex_c, br_nl, br_le, br_ne, gp_1, gp_2, gp_3, gf_1, gf_2, ix_0, ix_1, ix_2, ix_3, tn_1, tn_2, pp_1, m_isS_y hM hG hj, m_in_y, m_in_n, u1.1, u2, u3, u4, u5, hM.2.2.2.2.1, u2]
      refine m_copiesRow (b := j) (t := 4) (by omega) (by omega) (by omega) (by omega) u1 (fun M2 hF g4 hM2 => ?_)
      simp (disch := omega) only [iI_lit, iI_neg, iI_add, iI_sub, iI_mul, iI_lt, iI_le, iI_eq, iI_in, iI_clamp, iI_mx, iI_mn, iI_nI, Int.toNat_natCast, forall_eq, br_1, br_2, br_3, br_4, br_in, br_5, br_6, br_7, br_8, ex_c, br_nl, br_le, br_ne, gp_1, gp_2, gp_3, gf_1, gf_2, ix_0, ix_1, ix_2, ix_3, tn_1, tn_2, pp_1, (hF.2 224 j (by omega) (by omega)).trans u2, m_boundBy]
      refine m_shortens (b := 4) (by omega) hM2 hS.1 (by omega) (fun M3 hF3 g5 hM3 => ?_)
      have e1 : gI M3 223 j = iI (tn x) := (hF3.2 223 j (by omega) (by omega)).trans ((hF.2 223 j (by omega) (by omega)).trans u1.1)
      have e2 : (tn x : Int) - ((tn x : Int) - (shK (tn x) (tl x) (td x) (bo (tN x) q)).length) = (shK (tn x) (tl x) (td x) (bo (tN x) q)).length := by omega
      simp (disch := omega) only [iI_lit, iI_neg, iI_add, iI_sub, iI_mul, iI_lt, iI_le, iI_eq, iI_in, iI_clamp, iI_mx, iI_mn, iI_nI, Int.toNat_natCast, forall_eq, br_1, br_2, br_3, br_4, br_in, br_5, br_6, br_7, br_8, ex_c, br_nl, br_le, br_ne, gp_1, gp_2, gp_3, gf_1, gf_2, ix_0, ix_1, ix_2, ix_3, tn_1, tn_2, pp_1, e1, e2]
      exact m_good hQ (RM.w (RM.w (RM.r _) hF (by omega)) hF3 (by omega))
  · by_cases c2 : q < 2
    · skip
      refine Good.ro (iI (-1)) 2 hC hG (by omega) (fun Q hQ => ?_) (fun M1 hM Q hQ => ?_)
      · simp only [wpX3_coarse, c_find_y hC hG hj, o_some]
        simp (disch := omega) only [iI_lit, iI_neg, iI_add, iI_sub, iI_mul, iI_lt, iI_le, iI_eq, iI_in, iI_clamp, iI_mx, iI_mn, iI_nI, Int.toNat_natCast, forall_eq, br_1, br_2, br_3, br_4, br_in, br_5, br_6, br_7, br_8, ex_c, br_nl, br_le, br_ne, gp_1, gp_2, gp_3, gf_1, gf_2, c_pass, c_refuse, t1, t2, t3, t4, hC.2.2.1, t1]
        exact hQ _ (RC.p (RC.r _)) gp_1
      · unfold wpX4_coarse
        refine mo_1 hM hQ (fun M0 hM hQ => ?_)
        have hMT := hM.mt hj
        rw [hx] at hMT
        obtain ⟨u1, u2, u3, u4, u5, u6⟩ := hMT
        simp (disch := omega) only [iI_lit, iI_neg, iI_add, iI_sub, iI_mul, iI_lt, iI_le, iI_eq, iI_in, iI_clamp, iI_mx, iI_mn, iI_nI, Int.toNat_natCast, forall_eq, br_1, br_2, br_3, br_4, br_in, br_5, br_6, br_7, br_8, ex_c, br_nl, br_le, br_ne, gp_1, gp_2, gp_3, gf_1, gf_2, ix_0, ix_1, ix_2, ix_3, tn_1, tn_2, pp_1, m_isS_y hM hG hj, m_in_y, m_in_n, u1.1, u2, u3, u4, u5, hM.2.2.2.2.1, u2]
        exact m_refused hQ (RM.r _)
    · skip
      refine Good.ro (iI (-1)) 2 hC hG (by omega) (fun Q hQ => ?_) (fun M1 hM Q hQ => ?_)
      · simp only [wpX3_coarse, c_find_y hC hG hj, o_some]
        simp (disch := omega) only [iI_lit, iI_neg, iI_add, iI_sub, iI_mul, iI_lt, iI_le, iI_eq, iI_in, iI_clamp, iI_mx, iI_mn, iI_nI, Int.toNat_natCast, forall_eq, br_1, br_2, br_3, br_4, br_in, br_5, br_6, br_7, br_8, ex_c, br_nl, br_le, br_ne, gp_1, gp_2, gp_3, gf_1, gf_2, c_pass, c_refuse, t1, t2, t3, t4, hC.2.2.1, t1]
        exact hQ _ (RC.p (RC.r _)) gp_1
      · unfold wpX4_coarse
        refine mo_1 hM hQ (fun M0 hM hQ => ?_)
        have hMT := hM.mt hj
        rw [hx] at hMT
        obtain ⟨u1, u2, u3, u4, u5, u6⟩ := hMT
        simp (disch := omega) only [iI_lit, iI_neg, iI_add, iI_sub, iI_mul, iI_lt, iI_le, iI_eq, iI_in, iI_clamp, iI_mx, iI_mn, iI_nI, Int.toNat_natCast, forall_eq, br_1, br_2, br_3, br_4, br_in, br_5, br_6, br_7, br_8, ex_c, br_nl, br_le, br_ne, gp_1, gp_2, gp_3, gf_1, gf_2, ix_0, ix_1, ix_2, ix_3, tn_1, tn_2, pp_1, m_isS_y hM hG hj, m_in_y, m_in_n, u1.1, u2, u3, u4, u5, hM.2.2.2.2.1, u2]
        exact m_refused hQ (RM.r _)
