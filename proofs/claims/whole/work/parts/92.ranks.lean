theorem MS.sp {S : Gs} {M : Mem} {p : Int} (h : MS (sT (sP S p) 0) M) : MS (sT S 0) M := by
  obtain ⟨h1, h2, h3, h4, h5, h6, h7, h8, h9⟩ := h
  refine ⟨h1, ?_, h3, h4, h5, h6, h7, h8, h9⟩
  have e : (if gt (sT (sP S p) 0) = 4 then gP (sT (sP S p) 0) else -1) = -1 := if_neg (by show ¬ (0 : Int) = 4; omega)
  have e2 : (if gt (sT S 0) = 4 then gP (sT S 0) else -1) = -1 := if_neg (by show ¬ (0 : Int) = 4; omega)
  rw [e] at h2
  rw [e2]
  exact h2
theorem op_ranks {mk : Nat} {S : Gs} {M : Mem} (hC : CS mk S M) (hG : GI S) (hmk : mk ≤ 4) (a : Int32) : ∃ S' r mk', mk ≤ mk' ∧ mk' ≤ 4 ∧ GI S' ∧ (∀ Q : Qi, (∀ M1, CS mk' S' M1 → Fr 0 199 M M1 → Q r M1) → wpX3_ranks mk' mk M a Q) ∧ ∀ M1, MS S M1 → ∀ Q : Qi, (∀ M2, MS S' M2 → FrI M1 M2 → Q r M2) → wpX4_ranks M1 a Q := by
  obtain ⟨z, rfl, hz⟩ := iI_of a
  have hn := hG.2.2.2.2.2.2.2.1
  have h11 := hC.2.2.2.2.2.2.2.1
  by_cases c0 : 0 ≤ z ∧ z ≤ gn S
  · obtain ⟨n, rfl⟩ : ∃ k : Nat, z = k := ⟨z.toNat, by omega⟩
    have hB : BI (gB S) n := ⟨by omega, fun i hi => hG.2.2.2.2.2.2.2.2.1 i (by omega)⟩
    rcases sim_read hB with ⟨r, K, hr, c, m⟩ | ⟨f, b, hf, c, m⟩
    · have hk4 := K.2.1
      have hE : 2 ≤ rE r ∧ rE r ≤ 40 := by
        rcases K.1 with q | q
        · exact absurd q (K.2.2.1 hr)
        · exact q
      have hX0 := GI_N0 (p := -1) hG K hr
      have hX1 := GI_N0 (p := gP S) hG K hr
      have hN0 : ∀ p, ∀ j, j < gk (sN0 S r p) → tN (gT (sN0 S r p) j) ≤ 0 := fun p j hj => Nat.le_refl 0
      have hU0 := uP_G K (rn r) 0 (sN0 S r (-1)) rfl (by omega) hX0 rfl (hN0 _)
      have hU1 := uP_G K (rn r) 0 (sN0 S r (gP S)) rfl (by omega) hX1 rfl (hN0 _)
      refine ⟨sT (uP r (rn r) 0 (sN0 S r (-1))) 0, iI (rk r : Nat), if rk r ≤ mk then mk else rk r, by split <;> omega, by split <;> omega, hU0.1.t (by omega), fun Q hQ => ?_, fun M1 hM Q hQ => ?_⟩
      · unfold wpX3_ranks
        simp (disch := omega) only [iI_lit, iI_neg, iI_add, iI_sub, iI_mul, iI_lt, iI_le, iI_eq, iI_in, iI_clamp, iI_mx, iI_mn, iI_nI, Int.toNat_natCast, forall_eq, br_1, br_2, br_3, br_4, br_in, br_5, br_6, br_7, br_8, ex_c, br_nl, br_le, br_ne, gp_1, gp_2, gp_3, gf_1, gf_2, h11]
        refine c M _ (gn S) (by omega) h11 (fun i hi => hC.2.2.2.2.2.2.2.2.1 i (by omega)) (fun M1 f1 g1 k1 k7 k8 => ?_)
        simp (disch := omega) only [iI_lit, iI_neg, iI_add, iI_sub, iI_mul, iI_lt, iI_le, iI_eq, iI_in, iI_clamp, iI_mx, iI_mn, iI_nI, Int.toNat_natCast, forall_eq, br_1, br_2, br_3, br_4, br_in, br_5, br_6, br_7, br_8, ex_c, br_nl, br_le, br_ne, gp_1, gp_2, gp_3, gf_1, gf_2, k7, k8]
        unfold wpX3_takeText
        simp (disch := omega) only [iI_lit, iI_neg, iI_add, iI_sub, iI_mul, iI_lt, iI_le, iI_eq, iI_in, iI_clamp, iI_mx, iI_mn, iI_nI, Int.toNat_natCast, forall_eq, br_1, br_2, br_3, br_4, br_in, br_5, br_6, br_7, br_8, ex_c, br_nl, br_le, br_ne, gp_1, gp_2, gp_3, gf_1, gf_2, k1.1, k1.2.1]
        have hF4 : Fr 0 6 M (pI (pI (pI (pI M1 0 6 (iI 0)) 0 7 (iI (-1))) 0 3 (iI (rE r))) 0 2 (iI (rk r : Nat))) := Fr.p (Fr.p (Fr.p (Fr.p (f1.w (by omega) (by omega)) (by omega)) (by omega)) (by omega)) (by omega)
        refine ⟨rk r + 1, ?_⟩
        have := l_cbegin (kF := if rk r ≤ mk then mk else rk r) (Q := fun M_5 => wpX3_pass M_5 (gI M_5 0 2) (fun r_1 M_6 => Q r_1 M_6)) (M := pI (pI (pI (pI M1 0 6 (iI 0)) 0 7 (iI (-1))) 0 3 (iI (rE r))) 0 2 (iI (rk r : Nat))) (m0 := mk) (by split <;> omega) K gp_1 (fun s hs => by simp (disch := omega) only [iI_lit, iI_neg, iI_add, iI_sub, iI_mul, iI_lt, iI_le, iI_eq, iI_in, iI_clamp, iI_mx, iI_mn, iI_nI, Int.toNat_natCast, forall_eq, br_1, br_2, br_3, br_4, br_in, br_5, br_6, br_7, br_8, ex_c, br_nl, br_le, br_ne, gp_1, gp_2, gp_3, gf_1, gf_2]; exact (k1.2.2.1 s hs).2) (fun M' hF hT => ?_) (rk r) 0 mk _ (rk r + 1) (by omega) rfl (by omega) (by omega) (Fr.r _ _ _) (fun s hs => by omega)
        · simpa using this
        · refine ⟨rn r + 1, ?_⟩
          have hFa : Fr 0 199 M M' := (hF4.w (by omega) (by omega)).t (hF.w (by omega) (by omega))
          have e4 : gI M1 0 4 = iI (gS S) := (f1.g (by omega) 4).trans hC.2.2.2.1
          have e5 : gI M1 0 5 = iI (gt S) := (f1.g (by omega) 5).trans hC.2.2.2.2.1
          have hCS : CS (if rk r ≤ mk then mk else rk r) (sN0 S r (-1)) M' := by
            refine ⟨by show rk r ≤ (if rk r ≤ mk then mk else rk r); split <;> omega, ?_, ?_, ?_, ?_, ?_, ?_, ?_, fun i hi => absurd hi (Nat.not_lt_zero i), hT⟩
            · rw [hF.g (by omega)]
              simp (disch := omega) only [iI_lit, iI_neg, iI_add, iI_sub, iI_mul, iI_lt, iI_le, iI_eq, iI_in, iI_clamp, iI_mx, iI_mn, iI_nI, Int.toNat_natCast, forall_eq, br_1, br_2, br_3, br_4, br_in, br_5, br_6, br_7, br_8, ex_c, br_nl, br_le, br_ne, gp_1, gp_2, gp_3, gf_1, gf_2]
              rfl
            · rw [hF.g (by omega)]
              simp (disch := omega) only [iI_lit, iI_neg, iI_add, iI_sub, iI_mul, iI_lt, iI_le, iI_eq, iI_in, iI_clamp, iI_mx, iI_mn, iI_nI, Int.toNat_natCast, forall_eq, br_1, br_2, br_3, br_4, br_in, br_5, br_6, br_7, br_8, ex_c, br_nl, br_le, br_ne, gp_1, gp_2, gp_3, gf_1, gf_2]
              rfl
            · rw [hF.g (by omega)]
              simp (disch := omega) only [iI_lit, iI_neg, iI_add, iI_sub, iI_mul, iI_lt, iI_le, iI_eq, iI_in, iI_clamp, iI_mx, iI_mn, iI_nI, Int.toNat_natCast, forall_eq, br_1, br_2, br_3, br_4, br_in, br_5, br_6, br_7, br_8, ex_c, br_nl, br_le, br_ne, gp_1, gp_2, gp_3, gf_1, gf_2]
              exact e4
            · rw [hF.g (by omega)]
              simp (disch := omega) only [iI_lit, iI_neg, iI_add, iI_sub, iI_mul, iI_lt, iI_le, iI_eq, iI_in, iI_clamp, iI_mx, iI_mn, iI_nI, Int.toNat_natCast, forall_eq, br_1, br_2, br_3, br_4, br_in, br_5, br_6, br_7, br_8, ex_c, br_nl, br_le, br_ne, gp_1, gp_2, gp_3, gf_1, gf_2]
              exact e5
            · rw [hF.g (by omega)]
              simp (disch := omega) only [iI_lit, iI_neg, iI_add, iI_sub, iI_mul, iI_lt, iI_le, iI_eq, iI_in, iI_clamp, iI_mx, iI_mn, iI_nI, Int.toNat_natCast, forall_eq, br_1, br_2, br_3, br_4, br_in, br_5, br_6, br_7, br_8, ex_c, br_nl, br_le, br_ne, gp_1, gp_2, gp_3, gf_1, gf_2]
              rfl
            · rw [hF.g (by omega)]
              simp (disch := omega) only [iI_lit, iI_neg, iI_add, iI_sub, iI_mul, iI_lt, iI_le, iI_eq, iI_in, iI_clamp, iI_mx, iI_mn, iI_nI, Int.toNat_natCast, forall_eq, br_1, br_2, br_3, br_4, br_in, br_5, br_6, br_7, br_8, ex_c, br_nl, br_le, br_ne, gp_1, gp_2, gp_3, gf_1, gf_2]
              rfl
            · rw [hF.g (by omega)]
              simp (disch := omega) only [iI_lit, iI_neg, iI_add, iI_sub, iI_mul, iI_lt, iI_le, iI_eq, iI_in, iI_clamp, iI_mx, iI_mn, iI_nI, Int.toNat_natCast, forall_eq, br_1, br_2, br_3, br_4, br_in, br_5, br_6, br_7, br_8, ex_c, br_nl, br_le, br_ne, gp_1, gp_2, gp_3, gf_1, gf_2]
              exact g1
          have := l_cpushes (mk := if rk r ≤ mk then mk else rk r) (Q := fun M_5 => wpX3_pass M_5 (gI M_5 0 2) (fun r_1 M_6 => Q r_1 M_6)) K (rn r) 0 (sN0 S r (-1)) M M' (rn r + 1) (by omega) rfl (by omega) hCS hX0 rfl (hN0 _) (by rw [hF.g (by omega)]; simp (disch := omega) only [iI_lit, iI_neg, iI_add, iI_sub, iI_mul, iI_lt, iI_le, iI_eq, iI_in, iI_clamp, iI_mx, iI_mn, iI_nI, Int.toNat_natCast, forall_eq, br_1, br_2, br_3, br_4, br_in, br_5, br_6, br_7, br_8, ex_c, br_nl, br_le, br_ne, gp_1, gp_2, gp_3, gf_1, gf_2]; exact k1.2.2.2.1) (fun i hi => by rw [hF.g (by omega), hF.g (by omega)]; simp (disch := omega) only [iI_lit, iI_neg, iI_add, iI_sub, iI_mul, iI_lt, iI_le, iI_eq, iI_in, iI_clamp, iI_mx, iI_mn, iI_nI, Int.toNat_natCast, forall_eq, br_1, br_2, br_3, br_4, br_in, br_5, br_6, br_7, br_8, ex_c, br_nl, br_le, br_ne, gp_1, gp_2, gp_3, gf_1, gf_2]; exact k1.2.2.2.2 i hi) hFa (fun M2 hC2 hF2 => by
            rw [hC2.2.1, hU0.2, c_pass]
            exact hQ _ (hC2.t hU0.1 (RC.p (RC.r _)) gp_1) (hF2.t (RC.fr (RC.p (RC.r _)))))
          exact this
      · unfold wpX4_ranks
        rw [forall_eq]
        simp only [iI_lit]
        have h0 : MS S (pI M1 200 0 (iI 0)) := hM.p (by omega)
        simp (disch := omega) only [iI_lit, iI_neg, iI_add, iI_sub, iI_mul, iI_lt, iI_le, iI_eq, iI_in, iI_clamp, iI_mx, iI_mn, iI_nI, Int.toNat_natCast, forall_eq, br_1, br_2, br_3, br_4, br_in, br_5, br_6, br_7, br_8, ex_c, br_nl, br_le, br_ne, gp_1, gp_2, gp_3, gf_1, gf_2, h0.2.2.1]
        refine m _ _ ⟨by simp (disch := omega) only [iI_lit, iI_neg, iI_add, iI_sub, iI_mul, iI_lt, iI_le, iI_eq, iI_in, iI_clamp, iI_mx, iI_mn, iI_nI, Int.toNat_natCast, forall_eq, br_1, br_2, br_3, br_4, br_in, br_5, br_6, br_7, br_8, ex_c, br_nl, br_le, br_ne, gp_1, gp_2, gp_3, gf_1, gf_2], by simp (disch := omega) only [iI_lit, iI_neg, iI_add, iI_sub, iI_mul, iI_lt, iI_le, iI_eq, iI_in, iI_clamp, iI_mx, iI_mn, iI_nI, Int.toNat_natCast, forall_eq, br_1, br_2, br_3, br_4, br_in, br_5, br_6, br_7, br_8, ex_c, br_nl, br_le, br_ne, gp_1, gp_2, gp_3, gf_1, gf_2], fun i hi => by simp (disch := omega) only [iI_lit, iI_neg, iI_add, iI_sub, iI_mul, iI_lt, iI_le, iI_eq, iI_in, iI_clamp, iI_mx, iI_mn, iI_nI, Int.toNat_natCast, forall_eq, br_1, br_2, br_3, br_4, br_in, br_5, br_6, br_7, br_8, ex_c, br_nl, br_le, br_ne, gp_1, gp_2, gp_3, gf_1, gf_2]; exact hM.2.2.2.2.2.2.2.1 i (by omega)⟩ (by simp (disch := omega) only [iI_lit, iI_neg, iI_add, iI_sub, iI_mul, iI_lt, iI_le, iI_eq, iI_in, iI_clamp, iI_mx, iI_mn, iI_nI, Int.toNat_natCast, forall_eq, br_1, br_2, br_3, br_4, br_in, br_5, br_6, br_7, br_8, ex_c, br_nl, br_le, br_ne, gp_1, gp_2, gp_3, gf_1, gf_2]) (fun M2 f2 k2 g10 => ?_)
        simp (disch := omega) only [iI_lit, iI_neg, iI_add, iI_sub, iI_mul, iI_lt, iI_le, iI_eq, iI_in, iI_clamp, iI_mx, iI_mn, iI_nI, Int.toNat_natCast, forall_eq, br_1, br_2, br_3, br_4, br_in, br_5, br_6, br_7, br_8, ex_c, br_nl, br_le, br_ne, gp_1, gp_2, gp_3, gf_1, gf_2, g10, k2.1, k2.2.1]
        refine ⟨rk r + 1, ?_⟩
        have := l_mbegin (Q := Q) (M := pI (pI M2 200 28 (iI (rE r))) 200 29 (iI (rk r : Nat))) K gp_1 (fun s hs => by simp (disch := omega) only [iI_lit, iI_neg, iI_add, iI_sub, iI_mul, iI_lt, iI_le, iI_eq, iI_in, iI_clamp, iI_mx, iI_mn, iI_nI, Int.toNat_natCast, forall_eq, br_1, br_2, br_3, br_4, br_in, br_5, br_6, br_7, br_8, ex_c, br_nl, br_le, br_ne, gp_1, gp_2, gp_3, gf_1, gf_2]; exact (k2.2.2.1 s hs).2) (fun M3 hF hT => ?_) (rk r) 0 _ (rk r + 1) (by omega) rfl (by omega) (fun _ _ _ => rfl) (fun s hs => by omega)
        · simpa using this
        · refine ⟨rn r + 1, ?_⟩
          have hMS : MS (sN0 S r (gP S)) M3 := by
            refine ⟨?_, ?_, ?_, ?_, ?_, ?_, ?_, fun i hi => absurd hi (Nat.not_lt_zero i), hT⟩
            · rw [hF _ _ (by omega)]
              simp (disch := omega) only [iI_lit, iI_neg, iI_add, iI_sub, iI_mul, iI_lt, iI_le, iI_eq, iI_in, iI_clamp, iI_mx, iI_mn, iI_nI, Int.toNat_natCast, forall_eq, br_1, br_2, br_3, br_4, br_in, br_5, br_6, br_7, br_8, ex_c, br_nl, br_le, br_ne, gp_1, gp_2, gp_3, gf_1, gf_2]
              rw [f2 _ _ (by omega) (by omega)]
              simp (disch := omega) only [iI_lit, iI_neg, iI_add, iI_sub, iI_mul, iI_lt, iI_le, iI_eq, iI_in, iI_clamp, iI_mx, iI_mn, iI_nI, Int.toNat_natCast, forall_eq, br_1, br_2, br_3, br_4, br_in, br_5, br_6, br_7, br_8, ex_c, br_nl, br_le, br_ne, gp_1, gp_2, gp_3, gf_1, gf_2]
              exact hM.1
            · rw [hF _ _ (by omega)]
              simp (disch := omega) only [iI_lit, iI_neg, iI_add, iI_sub, iI_mul, iI_lt, iI_le, iI_eq, iI_in, iI_clamp, iI_mx, iI_mn, iI_nI, Int.toNat_natCast, forall_eq, br_1, br_2, br_3, br_4, br_in, br_5, br_6, br_7, br_8, ex_c, br_nl, br_le, br_ne, gp_1, gp_2, gp_3, gf_1, gf_2]
              rw [f2 _ _ (by omega) (by omega)]
              simp (disch := omega) only [iI_lit, iI_neg, iI_add, iI_sub, iI_mul, iI_lt, iI_le, iI_eq, iI_in, iI_clamp, iI_mx, iI_mn, iI_nI, Int.toNat_natCast, forall_eq, br_1, br_2, br_3, br_4, br_in, br_5, br_6, br_7, br_8, ex_c, br_nl, br_le, br_ne, gp_1, gp_2, gp_3, gf_1, gf_2]
              exact hM.2.1
            · rw [hF _ _ (by omega)]
              simp (disch := omega) only [iI_lit, iI_neg, iI_add, iI_sub, iI_mul, iI_lt, iI_le, iI_eq, iI_in, iI_clamp, iI_mx, iI_mn, iI_nI, Int.toNat_natCast, forall_eq, br_1, br_2, br_3, br_4, br_in, br_5, br_6, br_7, br_8, ex_c, br_nl, br_le, br_ne, gp_1, gp_2, gp_3, gf_1, gf_2]
              rw [f2 _ _ (by omega) (by omega)]
              simp (disch := omega) only [iI_lit, iI_neg, iI_add, iI_sub, iI_mul, iI_lt, iI_le, iI_eq, iI_in, iI_clamp, iI_mx, iI_mn, iI_nI, Int.toNat_natCast, forall_eq, br_1, br_2, br_3, br_4, br_in, br_5, br_6, br_7, br_8, ex_c, br_nl, br_le, br_ne, gp_1, gp_2, gp_3, gf_1, gf_2]
              rfl
            · rw [hF _ _ (by omega)]
              simp (disch := omega) only [iI_lit, iI_neg, iI_add, iI_sub, iI_mul, iI_lt, iI_le, iI_eq, iI_in, iI_clamp, iI_mx, iI_mn, iI_nI, Int.toNat_natCast, forall_eq, br_1, br_2, br_3, br_4, br_in, br_5, br_6, br_7, br_8, ex_c, br_nl, br_le, br_ne, gp_1, gp_2, gp_3, gf_1, gf_2]
              exact g10
            · rw [hF _ _ (by omega)]
              simp (disch := omega) only [iI_lit, iI_neg, iI_add, iI_sub, iI_mul, iI_lt, iI_le, iI_eq, iI_in, iI_clamp, iI_mx, iI_mn, iI_nI, Int.toNat_natCast, forall_eq, br_1, br_2, br_3, br_4, br_in, br_5, br_6, br_7, br_8, ex_c, br_nl, br_le, br_ne, gp_1, gp_2, gp_3, gf_1, gf_2]
              rfl
            · rw [hF _ _ (by omega)]
              simp (disch := omega) only [iI_lit, iI_neg, iI_add, iI_sub, iI_mul, iI_lt, iI_le, iI_eq, iI_in, iI_clamp, iI_mx, iI_mn, iI_nI, Int.toNat_natCast, forall_eq, br_1, br_2, br_3, br_4, br_in, br_5, br_6, br_7, br_8, ex_c, br_nl, br_le, br_ne, gp_1, gp_2, gp_3, gf_1, gf_2]
              rfl
            · rw [hF _ _ (by omega)]
              simp (disch := omega) only [iI_lit, iI_neg, iI_add, iI_sub, iI_mul, iI_lt, iI_le, iI_eq, iI_in, iI_clamp, iI_mx, iI_mn, iI_nI, Int.toNat_natCast, forall_eq, br_1, br_2, br_3, br_4, br_in, br_5, br_6, br_7, br_8, ex_c, br_nl, br_le, br_ne, gp_1, gp_2, gp_3, gf_1, gf_2]
              rw [f2 _ _ (by omega) (by omega)]
              simp (disch := omega) only [iI_lit, iI_neg, iI_add, iI_sub, iI_mul, iI_lt, iI_le, iI_eq, iI_in, iI_clamp, iI_mx, iI_mn, iI_nI, Int.toNat_natCast, forall_eq, br_1, br_2, br_3, br_4, br_in, br_5, br_6, br_7, br_8, ex_c, br_nl, br_le, br_ne, gp_1, gp_2, gp_3, gf_1, gf_2]
              exact hM.2.2.2.2.2.2.1
          have hFI : FrI M1 M3 := fun b hb => funext (fun k => by
            show gI M3 b k = gI M1 b k
            rw [hF b k (by omega), gp_2 (by omega), gp_2 (by omega), f2 b k (by omega) (by omega), gp_2 (by omega), gp_2 (by omega), gp_2 (by omega), gp_2 (by omega), gp_2 (by omega)])
          have := l_mpushes (Q := Q) K (rn r) 0 (sN0 S r (gP S)) M1 M3 (rn r + 1) (by omega) rfl (by omega) hMS hX1 rfl (hN0 _) (by rw [hF _ _ (by omega)]; simp (disch := omega) only [iI_lit, iI_neg, iI_add, iI_sub, iI_mul, iI_lt, iI_le, iI_eq, iI_in, iI_clamp, iI_mx, iI_mn, iI_nI, Int.toNat_natCast, forall_eq, br_1, br_2, br_3, br_4, br_in, br_5, br_6, br_7, br_8, ex_c, br_nl, br_le, br_ne, gp_1, gp_2, gp_3, gf_1, gf_2]; exact k2.2.2.2.1) (fun i hi => by rw [hF _ _ (by omega), hF _ _ (by omega)]; simp (disch := omega) only [iI_lit, iI_neg, iI_add, iI_sub, iI_mul, iI_lt, iI_le, iI_eq, iI_in, iI_clamp, iI_mx, iI_mn, iI_nI, Int.toNat_natCast, forall_eq, br_1, br_2, br_3, br_4, br_in, br_5, br_6, br_7, br_8, ex_c, br_nl, br_le, br_ne, gp_1, gp_2, gp_3, gf_1, gf_2]; exact k2.2.2.2.2 i hi) hFI (fun M4 hM4 hF4 => by
            rw [m_good_eq]
            have e : uP r (rn r) 0 (sN0 S r (gP S)) = sP (uP r (rn r) 0 (sN0 S r (-1))) (gP S) := uP_sP (rn r) 0 (sN0 S r (-1))
            have h5 := hM4.t hU1.1 (RM.p (RM.p (RM.r M4) (show 1 = 0 ∨ 1 = 1 ∨ 1 = 2 ∨ 1 = 31 by omega) (x := iI 0)) (show 2 = 0 ∨ 2 = 1 ∨ 2 = 2 ∨ 2 = 31 by omega) (x := iI (-1))) (t := 0) (by simp (disch := omega) only [iI_lit, iI_neg, iI_add, iI_sub, iI_mul, iI_lt, iI_le, iI_eq, iI_in, iI_clamp, iI_mx, iI_mn, iI_nI, Int.toNat_natCast, forall_eq, br_1, br_2, br_3, br_4, br_in, br_5, br_6, br_7, br_8, ex_c, br_nl, br_le, br_ne, gp_1, gp_2, gp_3, gf_1, gf_2]) (by simp (disch := omega) only [iI_lit, iI_neg, iI_add, iI_sub, iI_mul, iI_lt, iI_le, iI_eq, iI_in, iI_clamp, iI_mx, iI_mn, iI_nI, Int.toNat_natCast, forall_eq, br_1, br_2, br_3, br_4, br_in, br_5, br_6, br_7, br_8, ex_c, br_nl, br_le, br_ne, gp_1, gp_2, gp_3, gf_1, gf_2]) (by omega)
            rw [e] at h5
            refine hQ _ h5.sp (fun b hb => ?_)
            rw [pI_fr (by omega), pI_fr (by omega)]
            exact hF4 b hb)
          simpa using this
    · refine ⟨sF S 4 f b, iI (-1), mk, Nat.le_refl _, hmk, ?_, fun Q hQ => ?_, fun M1 hM Q hQ => ?_⟩
      · obtain ⟨h1, h2, h3, h4, h5, h6, h7, h8, h9, h10⟩ := hG
        exact ⟨h1, h2, h3, h4, h5, by show (0 : Int) ≤ 4; omega, by show (4 : Int) ≤ 5; omega, by show 0 ≤ 400; omega, fun i hi => absurd hi (Nat.not_lt_zero i), h10⟩
      · unfold wpX3_ranks
        simp (disch := omega) only [iI_lit, iI_neg, iI_add, iI_sub, iI_mul, iI_lt, iI_le, iI_eq, iI_in, iI_clamp, iI_mx, iI_mn, iI_nI, Int.toNat_natCast, forall_eq, br_1, br_2, br_3, br_4, br_in, br_5, br_6, br_7, br_8, ex_c, br_nl, br_le, br_ne, gp_1, gp_2, gp_3, gf_1, gf_2, h11]
        refine c M _ (gn S) (by omega) h11 (fun i hi => hC.2.2.2.2.2.2.2.2.1 i (by omega)) (fun M1 f1 g1 k7 k8 => ?_)
        simp (disch := omega) only [iI_lit, iI_neg, iI_add, iI_sub, iI_mul, iI_lt, iI_le, iI_eq, iI_in, iI_clamp, iI_mx, iI_mn, iI_nI, Int.toNat_natCast, forall_eq, br_1, br_2, br_3, br_4, br_in, br_5, br_6, br_7, br_8, ex_c, br_nl, br_le, br_ne, gp_1, gp_2, gp_3, gf_1, gf_2, k7, k8, c_refuse]
        have hF4 : Fr 0 6 M (pI (pI (pI M1 0 6 (iI f)) 0 7 (iI b)) 0 5 (iI 4)) := Fr.p (Fr.p (Fr.p (f1.w (by omega) (by omega)) (by omega)) (by omega)) (by omega)
        refine ⟨trivial, hQ _ ?_ (hF4.w (by omega) (by omega))⟩
        obtain ⟨h1, h2, h3, h4, h5, h6, h7, h8, h9, h10⟩ := hC
        refine ⟨h1, ?_, ?_, ?_, by simp (disch := omega) only [iI_lit, iI_neg, iI_add, iI_sub, iI_mul, iI_lt, iI_le, iI_eq, iI_in, iI_clamp, iI_mx, iI_mn, iI_nI, Int.toNat_natCast, forall_eq, br_1, br_2, br_3, br_4, br_in, br_5, br_6, br_7, br_8, ex_c, br_nl, br_le, br_ne, gp_1, gp_2, gp_3, gf_1, gf_2]; rfl, by simp (disch := omega) only [iI_lit, iI_neg, iI_add, iI_sub, iI_mul, iI_lt, iI_le, iI_eq, iI_in, iI_clamp, iI_mx, iI_mn, iI_nI, Int.toNat_natCast, forall_eq, br_1, br_2, br_3, br_4, br_in, br_5, br_6, br_7, br_8, ex_c, br_nl, br_le, br_ne, gp_1, gp_2, gp_3, gf_1, gf_2]; rfl, by simp (disch := omega) only [iI_lit, iI_neg, iI_add, iI_sub, iI_mul, iI_lt, iI_le, iI_eq, iI_in, iI_clamp, iI_mx, iI_mn, iI_nI, Int.toNat_natCast, forall_eq, br_1, br_2, br_3, br_4, br_in, br_5, br_6, br_7, br_8, ex_c, br_nl, br_le, br_ne, gp_1, gp_2, gp_3, gf_1, gf_2]; rfl, ?_, fun i hi => absurd hi (Nat.not_lt_zero i), fun j hj => (h10 j hj).fr hF4 (by omega)⟩
        · simp (disch := omega) only [iI_lit, iI_neg, iI_add, iI_sub, iI_mul, iI_lt, iI_le, iI_eq, iI_in, iI_clamp, iI_mx, iI_mn, iI_nI, Int.toNat_natCast, forall_eq, br_1, br_2, br_3, br_4, br_in, br_5, br_6, br_7, br_8, ex_c, br_nl, br_le, br_ne, gp_1, gp_2, gp_3, gf_1, gf_2]
          rw [f1.g (by omega)]
          exact h2
        · simp (disch := omega) only [iI_lit, iI_neg, iI_add, iI_sub, iI_mul, iI_lt, iI_le, iI_eq, iI_in, iI_clamp, iI_mx, iI_mn, iI_nI, Int.toNat_natCast, forall_eq, br_1, br_2, br_3, br_4, br_in, br_5, br_6, br_7, br_8, ex_c, br_nl, br_le, br_ne, gp_1, gp_2, gp_3, gf_1, gf_2]
          rw [f1.g (by omega)]
          exact h3
        · simp (disch := omega) only [iI_lit, iI_neg, iI_add, iI_sub, iI_mul, iI_lt, iI_le, iI_eq, iI_in, iI_clamp, iI_mx, iI_mn, iI_nI, Int.toNat_natCast, forall_eq, br_1, br_2, br_3, br_4, br_in, br_5, br_6, br_7, br_8, ex_c, br_nl, br_le, br_ne, gp_1, gp_2, gp_3, gf_1, gf_2]
          rw [f1.g (by omega)]
          exact h4
        · simp (disch := omega) only [iI_lit, iI_neg, iI_add, iI_sub, iI_mul, iI_lt, iI_le, iI_eq, iI_in, iI_clamp, iI_mx, iI_mn, iI_nI, Int.toNat_natCast, forall_eq, br_1, br_2, br_3, br_4, br_in, br_5, br_6, br_7, br_8, ex_c, br_nl, br_le, br_ne, gp_1, gp_2, gp_3, gf_1, gf_2]
          exact g1
      · unfold wpX4_ranks
        rw [forall_eq]
        simp only [iI_lit]
        have h0 : MS S (pI M1 200 0 (iI 0)) := hM.p (by omega)
        simp (disch := omega) only [iI_lit, iI_neg, iI_add, iI_sub, iI_mul, iI_lt, iI_le, iI_eq, iI_in, iI_clamp, iI_mx, iI_mn, iI_nI, Int.toNat_natCast, forall_eq, br_1, br_2, br_3, br_4, br_in, br_5, br_6, br_7, br_8, ex_c, br_nl, br_le, br_ne, gp_1, gp_2, gp_3, gf_1, gf_2, h0.2.2.1]
        refine m _ _ ⟨by simp (disch := omega) only [iI_lit, iI_neg, iI_add, iI_sub, iI_mul, iI_lt, iI_le, iI_eq, iI_in, iI_clamp, iI_mx, iI_mn, iI_nI, Int.toNat_natCast, forall_eq, br_1, br_2, br_3, br_4, br_in, br_5, br_6, br_7, br_8, ex_c, br_nl, br_le, br_ne, gp_1, gp_2, gp_3, gf_1, gf_2], by simp (disch := omega) only [iI_lit, iI_neg, iI_add, iI_sub, iI_mul, iI_lt, iI_le, iI_eq, iI_in, iI_clamp, iI_mx, iI_mn, iI_nI, Int.toNat_natCast, forall_eq, br_1, br_2, br_3, br_4, br_in, br_5, br_6, br_7, br_8, ex_c, br_nl, br_le, br_ne, gp_1, gp_2, gp_3, gf_1, gf_2], fun i hi => by simp (disch := omega) only [iI_lit, iI_neg, iI_add, iI_sub, iI_mul, iI_lt, iI_le, iI_eq, iI_in, iI_clamp, iI_mx, iI_mn, iI_nI, Int.toNat_natCast, forall_eq, br_1, br_2, br_3, br_4, br_in, br_5, br_6, br_7, br_8, ex_c, br_nl, br_le, br_ne, gp_1, gp_2, gp_3, gf_1, gf_2]; exact hM.2.2.2.2.2.2.2.1 i (by omega)⟩ (by simp (disch := omega) only [iI_lit, iI_neg, iI_add, iI_sub, iI_mul, iI_lt, iI_le, iI_eq, iI_in, iI_clamp, iI_mx, iI_mn, iI_nI, Int.toNat_natCast, forall_eq, br_1, br_2, br_3, br_4, br_in, br_5, br_6, br_7, br_8, ex_c, br_nl, br_le, br_ne, gp_1, gp_2, gp_3, gf_1, gf_2]) (fun M2 f2 k2 => ?_)
        simp (disch := omega) only [iI_lit, iI_neg, iI_add, iI_sub, iI_mul, iI_lt, iI_le, iI_eq, iI_in, iI_clamp, iI_mx, iI_mn, iI_nI, Int.toNat_natCast, forall_eq, br_1, br_2, br_3, br_4, br_in, br_5, br_6, br_7, br_8, ex_c, br_nl, br_le, br_ne, gp_1, gp_2, gp_3, gf_1, gf_2, k2.1, k2.2.1]
        have hFI : ∀ x k, ¬ x = 200 → ¬ (213 ≤ x ∧ x ≤ 216) → gI M2 x k = gI M1 x k := fun x k p q => by
          rw [f2 x k (by omega) q, gp_2 (by omega), gp_2 (by omega), gp_2 (by omega), gp_2 (by omega), gp_2 (by omega)]
        refine hQ _ ?_ (fun x hx => ?_)
        · obtain ⟨h1, h2, h3, h4, h5, h6, h7, h8, h9⟩ := hM
          refine ⟨by simp (disch := omega) only [iI_lit, iI_neg, iI_add, iI_sub, iI_mul, iI_lt, iI_le, iI_eq, iI_in, iI_clamp, iI_mx, iI_mn, iI_nI, Int.toNat_natCast, forall_eq, br_1, br_2, br_3, br_4, br_in, br_5, br_6, br_7, br_8, ex_c, br_nl, br_le, br_ne, gp_1, gp_2, gp_3, gf_1, gf_2]; rfl, by simp (disch := omega) only [iI_lit, iI_neg, iI_add, iI_sub, iI_mul, iI_lt, iI_le, iI_eq, iI_in, iI_clamp, iI_mx, iI_mn, iI_nI, Int.toNat_natCast, forall_eq, br_1, br_2, br_3, br_4, br_in, br_5, br_6, br_7, br_8, ex_c, br_nl, br_le, br_ne, gp_1, gp_2, gp_3, gf_1, gf_2]; rfl, ?_, ?_, ?_, ?_, ?_, fun i hi => absurd hi (Nat.not_lt_zero i), fun j hj => ?_⟩
          · simp (disch := omega) only [iI_lit, iI_neg, iI_add, iI_sub, iI_mul, iI_lt, iI_le, iI_eq, iI_in, iI_clamp, iI_mx, iI_mn, iI_nI, Int.toNat_natCast, forall_eq, br_1, br_2, br_3, br_4, br_in, br_5, br_6, br_7, br_8, ex_c, br_nl, br_le, br_ne, gp_1, gp_2, gp_3, gf_1, gf_2]
            rw [f2 _ _ (by omega) (by omega)]
            simp (disch := omega) only [iI_lit, iI_neg, iI_add, iI_sub, iI_mul, iI_lt, iI_le, iI_eq, iI_in, iI_clamp, iI_mx, iI_mn, iI_nI, Int.toNat_natCast, forall_eq, br_1, br_2, br_3, br_4, br_in, br_5, br_6, br_7, br_8, ex_c, br_nl, br_le, br_ne, gp_1, gp_2, gp_3, gf_1, gf_2]
            rfl
          · simp (disch := omega) only [iI_lit, iI_neg, iI_add, iI_sub, iI_mul, iI_lt, iI_le, iI_eq, iI_in, iI_clamp, iI_mx, iI_mn, iI_nI, Int.toNat_natCast, forall_eq, br_1, br_2, br_3, br_4, br_in, br_5, br_6, br_7, br_8, ex_c, br_nl, br_le, br_ne, gp_1, gp_2, gp_3, gf_1, gf_2]
            exact k2.1
          · simp (disch := omega) only [iI_lit, iI_neg, iI_add, iI_sub, iI_mul, iI_lt, iI_le, iI_eq, iI_in, iI_clamp, iI_mx, iI_mn, iI_nI, Int.toNat_natCast, forall_eq, br_1, br_2, br_3, br_4, br_in, br_5, br_6, br_7, br_8, ex_c, br_nl, br_le, br_ne, gp_1, gp_2, gp_3, gf_1, gf_2]
            rw [f2 _ _ (by omega) (by omega)]
            simp (disch := omega) only [iI_lit, iI_neg, iI_add, iI_sub, iI_mul, iI_lt, iI_le, iI_eq, iI_in, iI_clamp, iI_mx, iI_mn, iI_nI, Int.toNat_natCast, forall_eq, br_1, br_2, br_3, br_4, br_in, br_5, br_6, br_7, br_8, ex_c, br_nl, br_le, br_ne, gp_1, gp_2, gp_3, gf_1, gf_2]
            exact h5
          · simp (disch := omega) only [iI_lit, iI_neg, iI_add, iI_sub, iI_mul, iI_lt, iI_le, iI_eq, iI_in, iI_clamp, iI_mx, iI_mn, iI_nI, Int.toNat_natCast, forall_eq, br_1, br_2, br_3, br_4, br_in, br_5, br_6, br_7, br_8, ex_c, br_nl, br_le, br_ne, gp_1, gp_2, gp_3, gf_1, gf_2]
            rw [f2 _ _ (by omega) (by omega)]
            simp (disch := omega) only [iI_lit, iI_neg, iI_add, iI_sub, iI_mul, iI_lt, iI_le, iI_eq, iI_in, iI_clamp, iI_mx, iI_mn, iI_nI, Int.toNat_natCast, forall_eq, br_1, br_2, br_3, br_4, br_in, br_5, br_6, br_7, br_8, ex_c, br_nl, br_le, br_ne, gp_1, gp_2, gp_3, gf_1, gf_2]
            exact h6
          · simp (disch := omega) only [iI_lit, iI_neg, iI_add, iI_sub, iI_mul, iI_lt, iI_le, iI_eq, iI_in, iI_clamp, iI_mx, iI_mn, iI_nI, Int.toNat_natCast, forall_eq, br_1, br_2, br_3, br_4, br_in, br_5, br_6, br_7, br_8, ex_c, br_nl, br_le, br_ne, gp_1, gp_2, gp_3, gf_1, gf_2]
            rw [f2 _ _ (by omega) (by omega)]
            simp (disch := omega) only [iI_lit, iI_neg, iI_add, iI_sub, iI_mul, iI_lt, iI_le, iI_eq, iI_in, iI_clamp, iI_mx, iI_mn, iI_nI, Int.toNat_natCast, forall_eq, br_1, br_2, br_3, br_4, br_in, br_5, br_6, br_7, br_8, ex_c, br_nl, br_le, br_ne, gp_1, gp_2, gp_3, gf_1, gf_2]
            exact h7
          · exact (h9 j hj).cg (hG.nb hj) (fun x k q => by
              rw [gp_2 (by omega), gp_2 (by omega)]
              exact hFI x k (by omega) (by omega))
        · rw [pI_fr (by omega), pI_fr (by omega)]
          exact funext (fun k => hFI x k (by omega) (by omega))
  · refine ⟨sT S 2, iI (-1), mk, Nat.le_refl _, hmk, hG.t (by omega), fun Q hQ => ?_, fun M1 hM Q hQ => ?_⟩
    · have := hQ (pI M 0 5 (iI 2)) (hC.t hG (RC.p (RC.r _)) gp_1) (RC.fr (RC.p (RC.r _)))
      unfold wpX3_ranks
      by_cases c1 : z < 0
      · simp (disch := omega) only [iI_lit, iI_neg, iI_add, iI_sub, iI_mul, iI_lt, iI_le, iI_eq, iI_in, iI_clamp, iI_mx, iI_mn, iI_nI, Int.toNat_natCast, forall_eq, br_1, br_2, br_3, br_4, br_in, br_5, br_6, br_7, br_8, ex_c, br_nl, br_le, br_ne, gp_1, gp_2, gp_3, gf_1, gf_2, c_refuse]
        exact ⟨trivial, this⟩
      · simp (disch := omega) only [iI_lit, iI_neg, iI_add, iI_sub, iI_mul, iI_lt, iI_le, iI_eq, iI_in, iI_clamp, iI_mx, iI_mn, iI_nI, Int.toNat_natCast, forall_eq, br_1, br_2, br_3, br_4, br_in, br_5, br_6, br_7, br_8, ex_c, br_nl, br_le, br_ne, gp_1, gp_2, gp_3, gf_1, gf_2, h11, c_refuse]
        exact ⟨trivial, this⟩
    · have h0 : MS S (pI M1 200 0 (iI 0)) := hM.p (by omega)
      have hF0 := RM.fr (RM.p (RM.p (RM.p (RM.r M1) (show 0 = 0 ∨ 0 = 1 ∨ 0 = 2 ∨ 0 = 31 by omega) (x := iI 0)) (show 1 = 0 ∨ 1 = 1 ∨ 1 = 2 ∨ 1 = 31 by omega) (x := iI 2)) (show 2 = 0 ∨ 2 = 1 ∨ 2 = 2 ∨ 2 = 31 by omega) (x := iI (-1)))
      have := hQ _ (h0.t hG (RM.p (RM.p (RM.r _) (show 1 = 0 ∨ 1 = 1 ∨ 1 = 2 ∨ 1 = 31 by omega) (x := iI 2)) (show 2 = 0 ∨ 2 = 1 ∨ 2 = 2 ∨ 2 = 31 by omega) (x := iI (-1))) (t := 2) (by simp (disch := omega) only [iI_lit, iI_neg, iI_add, iI_sub, iI_mul, iI_lt, iI_le, iI_eq, iI_in, iI_clamp, iI_mx, iI_mn, iI_nI, Int.toNat_natCast, forall_eq, br_1, br_2, br_3, br_4, br_in, br_5, br_6, br_7, br_8, ex_c, br_nl, br_le, br_ne, gp_1, gp_2, gp_3, gf_1, gf_2]) (by simp (disch := omega) only [iI_lit, iI_neg, iI_add, iI_sub, iI_mul, iI_lt, iI_le, iI_eq, iI_in, iI_clamp, iI_mx, iI_mn, iI_nI, Int.toNat_natCast, forall_eq, br_1, br_2, br_3, br_4, br_in, br_5, br_6, br_7, br_8, ex_c, br_nl, br_le, br_ne, gp_1, gp_2, gp_3, gf_1, gf_2]) (by omega)) hF0.2
      unfold wpX4_ranks
      rw [forall_eq]
      simp only [iI_lit]
      by_cases c1 : z < 0
      · simp (disch := omega) only [iI_lit, iI_neg, iI_add, iI_sub, iI_mul, iI_lt, iI_le, iI_eq, iI_in, iI_clamp, iI_mx, iI_mn, iI_nI, Int.toNat_natCast, forall_eq, br_1, br_2, br_3, br_4, br_in, br_5, br_6, br_7, br_8, ex_c, br_nl, br_le, br_ne, gp_1, gp_2, gp_3, gf_1, gf_2, m_ref_eq]
        exact this
      · simp (disch := omega) only [iI_lit, iI_neg, iI_add, iI_sub, iI_mul, iI_lt, iI_le, iI_eq, iI_in, iI_clamp, iI_mx, iI_mn, iI_nI, Int.toNat_natCast, forall_eq, br_1, br_2, br_3, br_4, br_in, br_5, br_6, br_7, br_8, ex_c, br_nl, br_le, br_ne, gp_1, gp_2, gp_3, gf_1, gf_2, h0.2.2.1, m_ref_eq]
        exact this
