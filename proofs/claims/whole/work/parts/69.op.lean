/-! sums over the streams -/
theorem l_sumOfAll {mk : Nat} {S : Gs} {M : Mem} {Q : Qi} {w : Int} (hC : CS mk S M) (hG : GI S) (hw : 2 ≤ w ∧ w ≤ 4) : ∀ f i, gk S - i = f → i ≤ gk S → (∃ m, wX3_sumOfAll_4 mk Q (iI w) m M (iI (csum (fun j => if w = 2 then (tN (gT S j) : Int) else if w = 3 then (tn (gT S j) : Int) else tk (gT S j)) i)) (iI (i : Nat))) = Q (iI (csum (fun j => if w = 2 then (tN (gT S j) : Int) else if w = 3 then (tn (gT S j) : Int) else tk (gT S j)) (gk S))) M := by
  have hk := hG.1
  intro f
  induction f with
  | zero =>
    intro i hf hi
    have e : i = gk S := by omega
    rw [ex_s rfl, e]
    simp only [wX3_sumOfAll_4]
    simp (disch := omega) only [iI_lit, iI_neg, iI_add, iI_sub, iI_mul, iI_lt, iI_le, iI_eq, iI_in, iI_clamp, iI_mx, iI_mn, iI_nI, Int.toNat_natCast, forall_eq, br_1, br_2, br_3, br_4, br_in, br_5, br_6, br_7, br_8, ex_c, br_nl, br_le, br_ne, gp_1, gp_2, gp_3, gf_1, gf_2, hC.2.1]
  | succ f ih =>
    intro i hf hi
    have hi' : i < gk S := by omega
    obtain ⟨t1, t2, t3, t4, t5, t6⟩ := hC.ct hi'
    rw [ex_s rfl]
    simp only [wX3_sumOfAll_4]
    have := ih (i + 1) (by omega) (by omega)
    rw [csum] at this
    by_cases c2 : w = 2
    · simp only [c_find_y hC hG hi', o_some]
      simp (disch := omega) only [iI_lit, iI_neg, iI_add, iI_sub, iI_mul, iI_lt, iI_le, iI_eq, iI_in, iI_clamp, iI_mx, iI_mn, iI_nI, Int.toNat_natCast, forall_eq, br_1, br_2, br_3, br_4, br_in, br_5, br_6, br_7, br_8, ex_c, br_nl, br_le, br_ne, gp_1, gp_2, gp_3, gf_1, gf_2, hC.2.1, t1]
      rw [if_pos c2] at this
      simpa using this
    · rw [if_neg c2] at this
      by_cases c3 : w = 3
      · simp only [c_find_y hC hG hi', o_some]
        simp (disch := omega) only [iI_lit, iI_neg, iI_add, iI_sub, iI_mul, iI_lt, iI_le, iI_eq, iI_in, iI_clamp, iI_mx, iI_mn, iI_nI, Int.toNat_natCast, forall_eq, br_1, br_2, br_3, br_4, br_in, br_5, br_6, br_7, br_8, ex_c, br_nl, br_le, br_ne, gp_1, gp_2, gp_3, gf_1, gf_2, hC.2.1, t6.1]
        rw [if_pos c3] at this
        simpa using this
      · simp only [c_find_y hC hG hi', o_some]
        simp (disch := omega) only [iI_lit, iI_neg, iI_add, iI_sub, iI_mul, iI_lt, iI_le, iI_eq, iI_in, iI_clamp, iI_mx, iI_mn, iI_nI, Int.toNat_natCast, forall_eq, br_1, br_2, br_3, br_4, br_in, br_5, br_6, br_7, br_8, ex_c, br_nl, br_le, br_ne, gp_1, gp_2, gp_3, gf_1, gf_2, hC.2.1, t4]
        rw [if_neg c3] at this
        simpa using this
theorem e_sumOfAll {mk : Nat} {S : Gs} {M : Mem} {Q : Qi} {w : Int} (hC : CS mk S M) (hG : GI S) (hw : 2 ≤ w ∧ w ≤ 4) : wpX3_sumOfAll mk M (iI w) Q = Q (iI (csum (fun j => if w = 2 then (tN (gT S j) : Int) else if w = 3 then (tn (gT S j) : Int) else tk (gT S j)) (gk S))) M := by
  unfold wpX3_sumOfAll
  have := l_sumOfAll (Q := Q) hC hG hw (gk S) 0 rfl (by omega)
  simp (disch := omega) only [iI_lit, iI_neg, iI_add, iI_sub, iI_mul, iI_lt, iI_le, iI_eq, iI_in, iI_clamp, iI_mx, iI_mn, iI_nI, Int.toNat_natCast, forall_eq]
  simpa [csum] using this
theorem l_msumOf {S : Gs} {M : Mem} {Q : Qi} {a n : Nat} {g : Nat → Int} (hk : gk S ≤ 4) (hn : 4 ≤ n) (hK : gI M 200 29 = iI (gk S)) (h : ∀ j, j < gk S → gI M a j = iI (g j)) : ∀ f i, gk S - i = f → i ≤ gk S → (∃ m, wX4_sumOf_4 Q a n m M (iI (csum g i)) (iI (i : Nat))) = Q (iI (csum g (gk S))) M := by
  intro f
  induction f with
  | zero =>
    intro i hf hi
    have e : i = gk S := by omega
    rw [ex_s rfl, e]
    simp only [wX4_sumOf_4]
    simp (disch := omega) only [iI_lit, iI_neg, iI_add, iI_sub, iI_mul, iI_lt, iI_le, iI_eq, iI_in, iI_clamp, iI_mx, iI_mn, iI_nI, Int.toNat_natCast, forall_eq, br_1, br_2, br_3, br_4, br_in, br_5, br_6, br_7, br_8, ex_c, br_nl, br_le, br_ne, gp_1, gp_2, gp_3, gf_1, gf_2, hK]
  | succ f ih =>
    intro i hf hi
    have hi' : i < gk S := by omega
    rw [ex_s rfl]
    simp only [wX4_sumOf_4]
    have := ih (i + 1) (by omega) (by omega)
    rw [csum] at this
    simp (disch := omega) only [iI_lit, iI_neg, iI_add, iI_sub, iI_mul, iI_lt, iI_le, iI_eq, iI_in, iI_clamp, iI_mx, iI_mn, iI_nI, Int.toNat_natCast, forall_eq, br_1, br_2, br_3, br_4, br_in, br_5, br_6, br_7, br_8, ex_c, br_nl, br_le, br_ne, gp_1, gp_2, gp_3, gf_1, gf_2, hK, h i hi']
    simpa using this
theorem m_sumOf {S : Gs} {M : Mem} {Q : Qi} {a n : Nat} {g : Nat → Int} (hk : gk S ≤ 4) (hn : 4 ≤ n) (hK : gI M 200 29 = iI (gk S)) (h : ∀ j, j < gk S → gI M a j = iI (g j)) : wpX4_sumOf M a n Q = Q (iI (csum g (gk S))) M := by
  unfold wpX4_sumOf
  have := l_msumOf (Q := Q) hk hn hK h (gk S) 0 rfl (by omega)
  simp (disch := omega) only [iI_lit, iI_neg, iI_add, iI_sub, iI_mul, iI_lt, iI_le, iI_eq, iI_in, iI_clamp, iI_mx, iI_mn, iI_nI, Int.toNat_natCast, forall_eq]
  simpa [csum] using this
theorem csum_cg {f g : Nat → Int} : ∀ n, (∀ k, k < n → f k = g k) → csum f n = csum g n := by
  intro n
  induction n with
  | zero => intro _; rfl
  | succ n ih =>
    intro h
    rw [csum, csum, ih (fun k hk => h k (by omega)), h n (by omega)]
theorem op_about {mk : Nat} {S : Gs} {M : Mem} (hC : CS mk S M) (hG : GI S) (a : Int32) : Good mk S (fun Q => wpX3_about mk M a Q) (fun M1 Q => wpX4_about M1 a Q) M := by
  obtain ⟨w, rfl, hw⟩ := iI_of a
  have hk := hG.1
  have hs := hG.2.2.2.1
  have hs2 := hG.2.2.2.2.1
  by_cases c0 : gk S = 0
  · have he := hG.2.1 c0
    refine Good.ro (iI (-1)) 1 hC hG (by omega) (fun Q hQ => ?_) (fun M1 hM Q hQ => ?_)
    · simp only [wpX3_about]
      simp (disch := omega) only [iI_lit, iI_neg, iI_add, iI_sub, iI_mul, iI_lt, iI_le, iI_eq, iI_in, iI_clamp, iI_mx, iI_mn, iI_nI, Int.toNat_natCast, forall_eq, br_1, br_2, br_3, br_4, br_in, br_5, br_6, br_7, br_8, ex_c, br_nl, br_le, br_ne, gp_1, gp_2, gp_3, gf_1, gf_2, c_refuse, hC.2.1]
      exact hQ _ (RC.p (RC.r _)) gp_1
    · unfold wpX4_about
      refine mo_1 hM hQ (fun M0 hM hQ => ?_)
      simp (disch := omega) only [iI_lit, iI_neg, iI_add, iI_sub, iI_mul, iI_lt, iI_le, iI_eq, iI_in, iI_clamp, iI_mx, iI_mn, iI_nI, Int.toNat_natCast, forall_eq, br_1, br_2, br_3, br_4, br_in, br_5, br_6, br_7, br_8, ex_c, br_nl, br_le, br_ne, gp_1, gp_2, gp_3, gf_1, gf_2, hM.2.2.2.2.1, he]
      exact m_refused hQ (RM.r _)
  have he := hG.2.2.1 (by omega)
  by_cases c1 : ¬ (0 ≤ w ∧ w ≤ 5)
  · refine Good.ro (iI (-1)) 1 hC hG (by omega) (fun Q hQ => ?_) (fun M1 hM Q hQ => ?_)
    · by_cases c2 : w < 0
      · simp only [wpX3_about]
        simp (disch := omega) only [iI_lit, iI_neg, iI_add, iI_sub, iI_mul, iI_lt, iI_le, iI_eq, iI_in, iI_clamp, iI_mx, iI_mn, iI_nI, Int.toNat_natCast, forall_eq, br_1, br_2, br_3, br_4, br_in, br_5, br_6, br_7, br_8, ex_c, br_nl, br_le, br_ne, gp_1, gp_2, gp_3, gf_1, gf_2, c_refuse, hC.2.1]
        exact hQ _ (RC.p (RC.r _)) gp_1
      · simp only [wpX3_about]
        simp (disch := omega) only [iI_lit, iI_neg, iI_add, iI_sub, iI_mul, iI_lt, iI_le, iI_eq, iI_in, iI_clamp, iI_mx, iI_mn, iI_nI, Int.toNat_natCast, forall_eq, br_1, br_2, br_3, br_4, br_in, br_5, br_6, br_7, br_8, ex_c, br_nl, br_le, br_ne, gp_1, gp_2, gp_3, gf_1, gf_2, c_refuse, hC.2.1]
        exact hQ _ (RC.p (RC.r _)) gp_1
    · unfold wpX4_about
      refine mo_1 hM hQ (fun M0 hM hQ => ?_)
      simp (disch := omega) only [iI_lit, iI_neg, iI_add, iI_sub, iI_mul, iI_lt, iI_le, iI_eq, iI_in, iI_clamp, iI_mx, iI_mn, iI_nI, Int.toNat_natCast, forall_eq, br_1, br_2, br_3, br_4, br_in, br_5, br_6, br_7, br_8, ex_c, br_nl, br_le, br_ne, gp_1, gp_2, gp_3, gf_1, gf_2, hM.2.2.2.2.1]
      refine ⟨?_, ?_, ?_, ?_, ?_, ?_, ?_⟩ <;> intros <;> first | omega | exact m_refused hQ (RM.r _)
  have hsum := fun (w : Int) (hw : 2 ≤ w ∧ w ≤ 4) (Q' : Qi) => e_sumOfAll (Q := Q') hC hG hw
  rcases (show w = 0 ∨ w = 1 ∨ w = 2 ∨ w = 3 ∨ w = 4 ∨ w = 5 by omega) with rfl | rfl | rfl | rfl | rfl | rfl
  · refine Good.ro (iI (gE S)) 0 hC hG (by omega) (fun Q hQ => ?_) (fun M1 hM Q hQ => ?_)
    · simp only [wpX3_about]
      simp (disch := omega) only [iI_lit, iI_neg, iI_add, iI_sub, iI_mul, iI_lt, iI_le, iI_eq, iI_in, iI_clamp, iI_mx, iI_mn, iI_nI, Int.toNat_natCast, forall_eq, br_1, br_2, br_3, br_4, br_in, br_5, br_6, br_7, br_8, ex_c, br_nl, br_le, br_ne, gp_1, gp_2, gp_3, gf_1, gf_2, Int.reduceEq, Int.reduceNeg, true_implies, false_implies, implies_true, not_true_eq_false, not_false_eq_true, true_and, and_true, c_pass, hC.2.1, hC.2.2.1]
      exact hQ _ (RC.p (RC.r _)) gp_1
    · unfold wpX4_about
      refine mo_1 hM hQ (fun M0 hM hQ => ?_)
      simp (disch := omega) only [iI_lit, iI_neg, iI_add, iI_sub, iI_mul, iI_lt, iI_le, iI_eq, iI_in, iI_clamp, iI_mx, iI_mn, iI_nI, Int.toNat_natCast, forall_eq, br_1, br_2, br_3, br_4, br_in, br_5, br_6, br_7, br_8, ex_c, br_nl, br_le, br_ne, gp_1, gp_2, gp_3, gf_1, gf_2, Int.reduceEq, Int.reduceNeg, true_implies, false_implies, implies_true, not_true_eq_false, not_false_eq_true, true_and, and_true, hM.2.2.2.2.1]
      exact m_good hQ (RM.r _)
  · refine Good.ro (iI (gk S)) 0 hC hG (by omega) (fun Q hQ => ?_) (fun M1 hM Q hQ => ?_)
    · simp only [wpX3_about]
      simp (disch := omega) only [iI_lit, iI_neg, iI_add, iI_sub, iI_mul, iI_lt, iI_le, iI_eq, iI_in, iI_clamp, iI_mx, iI_mn, iI_nI, Int.toNat_natCast, forall_eq, br_1, br_2, br_3, br_4, br_in, br_5, br_6, br_7, br_8, ex_c, br_nl, br_le, br_ne, gp_1, gp_2, gp_3, gf_1, gf_2, Int.reduceEq, Int.reduceNeg, true_implies, false_implies, implies_true, not_true_eq_false, not_false_eq_true, true_and, and_true, c_pass, hC.2.1, hC.2.2.1]
      exact hQ _ (RC.p (RC.r _)) gp_1
    · unfold wpX4_about
      refine mo_1 hM hQ (fun M0 hM hQ => ?_)
      simp (disch := omega) only [iI_lit, iI_neg, iI_add, iI_sub, iI_mul, iI_lt, iI_le, iI_eq, iI_in, iI_clamp, iI_mx, iI_mn, iI_nI, Int.toNat_natCast, forall_eq, br_1, br_2, br_3, br_4, br_in, br_5, br_6, br_7, br_8, ex_c, br_nl, br_le, br_ne, gp_1, gp_2, gp_3, gf_1, gf_2, Int.reduceEq, Int.reduceNeg, true_implies, false_implies, implies_true, not_true_eq_false, not_false_eq_true, true_and, and_true, hM.2.2.2.2.1, hM.2.2.2.2.2.1]
      exact m_good hQ (RM.r _)
  · refine Good.ro (iI (csum (fun j => (tN (gT S j) : Int)) (gk S))) 0 hC hG (by omega) (fun Q hQ => ?_) (fun M1 hM Q hQ => ?_)
    · have h2 := hsum 2 (by omega)
      simp only [if_pos (show (2 : Int) = 2 from rfl)] at h2
      simp only [wpX3_about]
      simp (disch := omega) only [iI_lit, iI_neg, iI_add, iI_sub, iI_mul, iI_lt, iI_le, iI_eq, iI_in, iI_clamp, iI_mx, iI_mn, iI_nI, Int.toNat_natCast, forall_eq, br_1, br_2, br_3, br_4, br_in, br_5, br_6, br_7, br_8, ex_c, br_nl, br_le, br_ne, gp_1, gp_2, gp_3, gf_1, gf_2, Int.reduceEq, Int.reduceNeg, true_implies, false_implies, implies_true, not_true_eq_false, not_false_eq_true, true_and, and_true, c_pass, hC.2.1, hC.2.2.1, h2]
      exact hQ _ (RC.p (RC.r _)) gp_1
    · unfold wpX4_about
      refine mo_1 hM hQ (fun M0 hM hQ => ?_)
      simp (disch := omega) only [iI_lit, iI_neg, iI_add, iI_sub, iI_mul, iI_lt, iI_le, iI_eq, iI_in, iI_clamp, iI_mx, iI_mn, iI_nI, Int.toNat_natCast, forall_eq, br_1, br_2, br_3, br_4, br_in, br_5, br_6, br_7, br_8, ex_c, br_nl, br_le, br_ne, gp_1, gp_2, gp_3, gf_1, gf_2, Int.reduceEq, Int.reduceNeg, true_implies, false_implies, implies_true, not_true_eq_false, not_false_eq_true, true_and, and_true, hM.2.2.2.2.1, m_sumOf (S := S) hk (show 4 ≤ 6 by omega) hM.2.2.2.2.2.1 (fun j hj => (hM.mt hj).2.1)]
      exact m_good hQ (RM.r _)
  · refine Good.ro (iI (csum (fun j => (tn (gT S j) : Int)) (gk S))) 0 hC hG (by omega) (fun Q hQ => ?_) (fun M1 hM Q hQ => ?_)
    · have h2 := hsum 3 (by omega)
      simp only [if_neg (show ¬ (3 : Int) = 2 by omega), if_pos (show (3 : Int) = 3 from rfl)] at h2
      simp only [wpX3_about]
      simp (disch := omega) only [iI_lit, iI_neg, iI_add, iI_sub, iI_mul, iI_lt, iI_le, iI_eq, iI_in, iI_clamp, iI_mx, iI_mn, iI_nI, Int.toNat_natCast, forall_eq, br_1, br_2, br_3, br_4, br_in, br_5, br_6, br_7, br_8, ex_c, br_nl, br_le, br_ne, gp_1, gp_2, gp_3, gf_1, gf_2, Int.reduceEq, Int.reduceNeg, true_implies, false_implies, implies_true, not_true_eq_false, not_false_eq_true, true_and, and_true, c_pass, hC.2.1, hC.2.2.1, h2]
      exact hQ _ (RC.p (RC.r _)) gp_1
    · unfold wpX4_about
      refine mo_1 hM hQ (fun M0 hM hQ => ?_)
      simp (disch := omega) only [iI_lit, iI_neg, iI_add, iI_sub, iI_mul, iI_lt, iI_le, iI_eq, iI_in, iI_clamp, iI_mx, iI_mn, iI_nI, Int.toNat_natCast, forall_eq, br_1, br_2, br_3, br_4, br_in, br_5, br_6, br_7, br_8, ex_c, br_nl, br_le, br_ne, gp_1, gp_2, gp_3, gf_1, gf_2, Int.reduceEq, Int.reduceNeg, true_implies, false_implies, implies_true, not_true_eq_false, not_false_eq_true, true_and, and_true, hM.2.2.2.2.1, m_sumOf (S := S) hk (show 4 ≤ 6 by omega) hM.2.2.2.2.2.1 (fun j hj => (hM.mt hj).1.1)]
      exact m_good hQ (RM.r _)
  · refine Good.ro (iI (csum (fun j => tk (gT S j)) (gk S))) 0 hC hG (by omega) (fun Q hQ => ?_) (fun M1 hM Q hQ => ?_)
    · have h2 := hsum 4 (by omega)
      simp only [if_neg (show ¬ (4 : Int) = 2 by omega), if_neg (show ¬ (4 : Int) = 3 by omega)] at h2
      simp only [wpX3_about]
      simp (disch := omega) only [iI_lit, iI_neg, iI_add, iI_sub, iI_mul, iI_lt, iI_le, iI_eq, iI_in, iI_clamp, iI_mx, iI_mn, iI_nI, Int.toNat_natCast, forall_eq, br_1, br_2, br_3, br_4, br_in, br_5, br_6, br_7, br_8, ex_c, br_nl, br_le, br_ne, gp_1, gp_2, gp_3, gf_1, gf_2, Int.reduceEq, Int.reduceNeg, true_implies, false_implies, implies_true, not_true_eq_false, not_false_eq_true, true_and, and_true, c_pass, hC.2.1, hC.2.2.1, h2]
      exact hQ _ (RC.p (RC.r _)) gp_1
    · unfold wpX4_about
      refine mo_1 hM hQ (fun M0 hM hQ => ?_)
      simp (disch := omega) only [iI_lit, iI_neg, iI_add, iI_sub, iI_mul, iI_lt, iI_le, iI_eq, iI_in, iI_clamp, iI_mx, iI_mn, iI_nI, Int.toNat_natCast, forall_eq, br_1, br_2, br_3, br_4, br_in, br_5, br_6, br_7, br_8, ex_c, br_nl, br_le, br_ne, gp_1, gp_2, gp_3, gf_1, gf_2, Int.reduceEq, Int.reduceNeg, true_implies, false_implies, implies_true, not_true_eq_false, not_false_eq_true, true_and, and_true, hM.2.2.2.2.1, m_sumOf (S := S) hk (show 4 ≤ 4 by omega) hM.2.2.2.2.2.1 (fun j hj => (hM.mt hj).2.2.2.2.1)]
      exact m_good hQ (RM.r _)
  · refine Good.ro (iI (gS S)) 0 hC hG (by omega) (fun Q hQ => ?_) (fun M1 hM Q hQ => ?_)
    · simp only [wpX3_about]
      simp (disch := omega) only [iI_lit, iI_neg, iI_add, iI_sub, iI_mul, iI_lt, iI_le, iI_eq, iI_in, iI_clamp, iI_mx, iI_mn, iI_nI, Int.toNat_natCast, forall_eq, br_1, br_2, br_3, br_4, br_in, br_5, br_6, br_7, br_8, ex_c, br_nl, br_le, br_ne, gp_1, gp_2, gp_3, gf_1, gf_2, Int.reduceEq, Int.reduceNeg, true_implies, false_implies, implies_true, not_true_eq_false, not_false_eq_true, true_and, and_true, c_pass, hC.2.1, hC.2.2.2.1]
      exact hQ _ (RC.p (RC.r _)) gp_1
    · unfold wpX4_about
      refine mo_1 hM hQ (fun M0 hM hQ => ?_)
      simp (disch := omega) only [iI_lit, iI_neg, iI_add, iI_sub, iI_mul, iI_lt, iI_le, iI_eq, iI_in, iI_clamp, iI_mx, iI_mn, iI_nI, Int.toNat_natCast, forall_eq, br_1, br_2, br_3, br_4, br_in, br_5, br_6, br_7, br_8, ex_c, br_nl, br_le, br_ne, gp_1, gp_2, gp_3, gf_1, gf_2, Int.reduceEq, Int.reduceNeg, true_implies, false_implies, implies_true, not_true_eq_false, not_false_eq_true, true_and, and_true, hM.2.2.2.2.1, hM.2.2.2.2.2.2.1]
      exact m_good hQ (RM.r _)
