/-- the greatest ERROR up to f + 2 that w keeps -/
def fin (N w : Int) : Nat → Int
  | 0 => 2
  | f + 1 => if w ≤ bo N ((f : Int) + 3) then (f : Int) + 3 else fin N w f
theorem l_cfin {mk : Nat} {M : Mem} {Q : Qi} {b N : Nat} {w : Int} (h : gI M b 2 = iI N) (hN : N ≤ 1000) (hw : 0 ≤ w ∧ w ≤ N) : ∀ f : Nat, f ≤ 38 → (∃ m, wX3_finest_28 mk Q b (iI w) m M (iI ((f : Int) + 2))) = Q (iI (fin N w f)) (pI M 0 5 (iI 0)) := by
  intro f
  induction f with
  | zero =>
    intro hf
    rw [ex_s rfl]
    simp only [wX3_finest_28]
    simp (disch := omega) only [iI_lit, iI_neg, iI_add, iI_sub, iI_mul, iI_lt, iI_le, iI_eq, iI_in, iI_clamp, iI_mx, iI_mn, iI_nI, Int.toNat_natCast, forall_eq, br_1, br_2, br_3, br_4, br_in, br_5, br_6, br_7, br_8, ex_c, br_nl, br_le, br_ne, gp_1, gp_2, gp_3, gf_1, gf_2, c_pass, fin]
  | succ f ih =>
    intro hf
    have e0 : ((f + 1 : Nat) : Int) + 2 = (f : Int) + 3 := by omega
    have h1 := bo_b (n := N) (e := (f : Int) + 3) (by omega) (by omega)
    rw [ex_s rfl, e0]
    simp only [wX3_finest_28]
    rw [fin]
    by_cases c : w ≤ bo N ((f : Int) + 3)
    · simp (disch := omega) only [iI_lit, iI_neg, iI_add, iI_sub, iI_mul, iI_lt, iI_le, iI_eq, iI_in, iI_clamp, iI_mx, iI_mn, iI_nI, Int.toNat_natCast, forall_eq, br_1, br_2, br_3, br_4, br_in, br_5, br_6, br_7, br_8, ex_c, br_nl, br_le, br_ne, gp_1, gp_2, gp_3, gf_1, gf_2, c_pass, h, e_boundOf]
      rw [if_pos c]
    · have e1 : (f : Int) + 3 + -1 = (f : Int) + 2 := by omega
      simp (disch := omega) only [iI_lit, iI_neg, iI_add, iI_sub, iI_mul, iI_lt, iI_le, iI_eq, iI_in, iI_clamp, iI_mx, iI_mn, iI_nI, Int.toNat_natCast, forall_eq, br_1, br_2, br_3, br_4, br_in, br_5, br_6, br_7, br_8, ex_c, br_nl, br_le, br_ne, gp_1, gp_2, gp_3, gf_1, gf_2, c_pass, h, e_boundOf, e1]
      rw [if_neg c]
      exact ih (by omega)
theorem l_mfin {M : Mem} {Q : Qi} {b n N : Nat} {v l d : Nat → Int} (hb : b < 6) (h : MR M b n v l d) (hN : gI M 224 b = iI N) (hR : RI N n v l d) : ∀ f : Nat, f ≤ 38 → wpX4_good M (iI (fin N (wd l d n) f)) Q → ∃ m, wX4_finest_22 Q (iI b) m M (iI ((f : Int) + 2)) := by
  have hN' := hR.1
  have hw := wd_b hR n (Nat.le_refl n)
  have hb2 : wd l d n ≤ bo N 2 := by
    unfold bo mx
    split <;> omega
  intro f
  induction f with
  | zero =>
    intro hf hQ
    have h1 := bo_b (n := N) (e := 2) (by omega) (by omega)
    rw [ex_s rfl, show ((0 : Nat) : Int) + 2 = 2 by omega]
    simp only [wX4_finest_22]
    simp (disch := omega) only [iI_lit, iI_neg, iI_add, iI_sub, iI_mul, iI_lt, iI_le, iI_eq, iI_in, iI_clamp, iI_mx, iI_mn, iI_nI, Int.toNat_natCast, forall_eq, br_1, br_2, br_3, br_4, br_in, br_5, br_6, br_7, br_8, ex_c, br_nl, br_le, br_ne, gp_1, gp_2, gp_3, gf_1, gf_2, ix_0, ix_1, ix_2, ix_3, tn_1, tn_2, pp_1, hN, m_widest hb h hR, m_boundBy]
    exact hQ
  | succ f ih =>
    intro hf hQ
    have e0 : ((f + 1 : Nat) : Int) + 2 = (f : Int) + 3 := by omega
    have h1 := bo_b (n := N) (e := (f : Int) + 3) (by omega) (by omega)
    rw [ex_s rfl, e0]
    simp only [wX4_finest_22]
    rw [fin] at hQ
    by_cases c : wd l d n ≤ bo N ((f : Int) + 3)
    · simp (disch := omega) only [iI_lit, iI_neg, iI_add, iI_sub, iI_mul, iI_lt, iI_le, iI_eq, iI_in, iI_clamp, iI_mx, iI_mn, iI_nI, Int.toNat_natCast, forall_eq, br_1, br_2, br_3, br_4, br_in, br_5, br_6, br_7, br_8, ex_c, br_nl, br_le, br_ne, gp_1, gp_2, gp_3, gf_1, gf_2, ix_0, ix_1, ix_2, ix_3, tn_1, tn_2, pp_1, hN, m_widest hb h hR, m_boundBy]
      rw [if_pos c] at hQ
      exact hQ
    · have e1 : (f : Int) + 3 + -1 = (f : Int) + 2 := by omega
      simp (disch := omega) only [iI_lit, iI_neg, iI_add, iI_sub, iI_mul, iI_lt, iI_le, iI_eq, iI_in, iI_clamp, iI_mx, iI_mn, iI_nI, Int.toNat_natCast, forall_eq, br_1, br_2, br_3, br_4, br_in, br_5, br_6, br_7, br_8, ex_c, br_nl, br_le, br_ne, gp_1, gp_2, gp_3, gf_1, gf_2, ix_0, ix_1, ix_2, ix_3, tn_1, tn_2, pp_1, hN, m_widest hb h hR, m_boundBy, e1]
      rw [if_neg c] at hQ
      exact ih (by omega) hQ
theorem op_finest {mk : Nat} {S : Gs} {M : Mem} (hC : CS mk S M) (hG : GI S) (a : Int32) : Good mk S (fun Q => wpX3_finest mk M a Q) (fun M1 Q => wpX4_finest M1 a Q) M := by
  obtain ⟨z, rfl, hz⟩ := iI_of a
  by_cases c0 : ¬ (0 ≤ z ∧ z < gk S)
  · refine Good.ro (iI (-1)) 1 hC hG (by omega) (fun Q hQ => ?_) (fun M1 hM Q hQ => ?_)
    · simp only [wpX3_finest, iI_lit, c_find_n hC hG hz c0, o_none, o_none2, c_refuse]
      exact hQ _ (RC.p (RC.r _)) gp_1
    · unfold wpX4_finest
      refine mo_1 hM hQ (fun M0 hM hQ => ?_)
      simp (disch := omega) only [iI_lit, iI_neg, iI_add, iI_sub, iI_mul, iI_lt, iI_le, iI_eq, iI_in, iI_clamp, iI_mx, iI_mn, iI_nI, Int.toNat_natCast, forall_eq, br_1, br_2, br_3, br_4, br_in, br_5, br_6, br_7, br_8, ex_c, br_nl, br_le, br_ne, gp_1, gp_2, gp_3, gf_1, gf_2, m_isS_n hM hG hz c0]
      exact m_refused hQ (RM.r _)
  obtain ⟨j, rfl⟩ : ∃ j : Nat, z = j := ⟨z.toNat, by omega⟩
  have hj : j < gk S := by omega
  have hk := hG.1
  have hT := hC.ct hj
  have hS := hG.si hj
  have hE := hG.er hj
  obtain ⟨x, hx⟩ : ∃ x, gT S j = x := ⟨_, rfl⟩
  rw [hx] at hT hS
  have hN := hS.1.1
  have hn := hS.1.2.1
  obtain ⟨t1, t2, t3, t4, t5, t6⟩ := hT
  have hw := wd_b hS.1 (tn x) (Nat.le_refl _)
  have hf := fun Q' : Qi => l_cfin (mk := mk) (Q := Q') t1 hN hw 38 (Nat.le_refl _)
  simp only [show ((38 : Nat) : Int) + 2 = 40 by omega] at hf
  refine Good.ro (iI (fin (tN x) (wd (tl x) (td x) (tn x)) 38)) 0 hC hG (by omega) (fun Q hQ => ?_) (fun M1 hM Q hQ => ?_)
  · simp only [wpX3_finest, c_find_y hC hG hj, o_some]
    simp (disch := omega) only [iI_lit, iI_neg, iI_add, iI_sub, iI_mul, iI_lt, iI_le, iI_eq, iI_in, iI_clamp, iI_mx, iI_mn, iI_nI, Int.toNat_natCast, forall_eq, br_1, br_2, br_3, br_4, br_in, br_5, br_6, br_7, br_8, ex_c, br_nl, br_le, br_ne, gp_1, gp_2, gp_3, gf_1, gf_2, c_pass, c_refuse, t1, t2, t3, t4, hC.2.2.1, e_widest t6 hS.1, hf]
    exact hQ _ (RC.p (RC.r _)) gp_1
  · unfold wpX4_finest
    refine mo_1 hM hQ (fun M0 hM hQ => ?_)
    have hMT := hM.mt hj
    rw [hx] at hMT
    obtain ⟨u1, u2, u3, u4, u5, u6⟩ := hMT
    simp (disch := omega) only [iI_lit, iI_neg, iI_add, iI_sub, iI_mul, iI_lt, iI_le, iI_eq, iI_in, iI_clamp, iI_mx, iI_mn, iI_nI, Int.toNat_natCast, forall_eq, br_1, br_2, br_3, br_4, br_in, br_5, br_6, br_7, br_8, ex_c, br_nl, br_le, br_ne, gp_1, gp_2, gp_3, gf_1, gf_2, ix_0, ix_1, ix_2, ix_3, tn_1, tn_2, pp_1, m_isS_y hM hG hj, m_in_y, m_in_n, u1.1, u2, u3, u4, u5, hM.2.2.2.2.1, u2]
    have := l_mfin (M := M0) (b := j) (Q := Q) (show j < 6 by omega) u1 u2 hS.1 38 (Nat.le_refl _) (m_good hQ (RM.r _))
    simpa using this
