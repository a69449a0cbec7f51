/-- whether f streams from i on keep the ERROR q -/
def eok (S : Gs) (q : Int) : Nat → Nat → Bool
  | 0, _ => true
  | f + 1, i => decide (wd (tl (gT S i)) (td (gT S i)) (tn (gT S i)) ≤ bo (tN (gT S i)) q) && eok S q f (i + 1)
theorem l_cerror {mk : Nat} {S : Gs} {M : Mem} {Q : Qi} {q : Int} (hC : CS mk S M) (hG : GI S) (hq : 2 ≤ q ∧ q ≤ 40) : ∀ f i, gk S - i = f → i ≤ gk S → (∃ m, wX3_error_32 mk Q (iI q) m M (iI (i : Nat))) = if eok S q f i = true then Q (iI (gE S)) (pI (pI M 0 3 (iI q)) 0 5 (iI 0)) else Q (iI (-1)) (pI M 0 5 (iI 5)) := by
  have hk := hG.1
  intro f
  induction f with
  | zero =>
    intro i hf hi
    have e : i = gk S := by omega
    subst e
    rw [ex_s rfl]
    simp only [wX3_error_32]
    rw [show eok S q 0 (gk S) = true from rfl, if_pos rfl]
    simp (disch := omega) only [iI_lit, iI_neg, iI_add, iI_sub, iI_mul, iI_lt, iI_le, iI_eq, iI_in, iI_clamp, iI_mx, iI_mn, iI_nI, Int.toNat_natCast, forall_eq, br_1, br_2, br_3, br_4, br_in, br_5, br_6, br_7, br_8, ex_c, br_nl, br_le, br_ne, gp_1, gp_2, gp_3, gf_1, gf_2, hC.2.1, hC.2.2.1, c_pass]
  | succ f ih =>
    intro i hf hi
    have hT := hC.ct (show i < gk S by omega)
    have hS := hG.si (show i < gk S by omega)
    have hN := hS.1.1
    have hw := wd_b hS.1 _ (Nat.le_refl _)
    have hb := bo_b (n := tN (gT S i)) (e := q) (by omega) hq.1
    rw [ex_s rfl]
    simp only [wX3_error_32]
    rw [eok]
    by_cases c : wd (tl (gT S i)) (td (gT S i)) (tn (gT S i)) ≤ bo (tN (gT S i)) q
    · have := ih (i + 1) (by omega) (by omega)
      simp (disch := omega) only [iI_lit, iI_neg, iI_add, iI_sub, iI_mul, iI_lt, iI_le, iI_eq, iI_in, iI_clamp, iI_mx, iI_mn, iI_nI, Int.toNat_natCast, forall_eq, br_1, br_2, br_3, br_4, br_in, br_5, br_6, br_7, br_8, ex_c, br_nl, br_le, br_ne, gp_1, gp_2, gp_3, gf_1, gf_2, hC.2.1, c_find_y hC hG (show i < gk S by omega), o_some, e_widest hT.cr hS.1, hT.1, e_boundOf]
      rw [decide_eq_true c, Bool.true_and]
      simpa using this
    · simp (disch := omega) only [iI_lit, iI_neg, iI_add, iI_sub, iI_mul, iI_lt, iI_le, iI_eq, iI_in, iI_clamp, iI_mx, iI_mn, iI_nI, Int.toNat_natCast, forall_eq, br_1, br_2, br_3, br_4, br_in, br_5, br_6, br_7, br_8, ex_c, br_nl, br_le, br_ne, gp_1, gp_2, gp_3, gf_1, gf_2, hC.2.1, c_find_y hC hG (show i < gk S by omega), o_some, e_widest hT.cr hS.1, hT.1, e_boundOf, c_refuse]
      rw [decide_eq_false c, Bool.false_and]
      simp
theorem l_merror {S : Gs} {M : Mem} {Q : Qi} {q : Int} (hM : MS S M) (hG : GI S) (hq : 2 ≤ q ∧ q ≤ 40) : ∀ f i, gk S - i = f → i ≤ gk S → (∃ m, wX4_error_36 Q (iI q) m M (iI (i : Nat))) = if eok S q f i = true then wpX4_good (pI M 200 28 (iI q)) (iI (gE S)) Q else wpX4_refused M (iI 5) Q := by
  have hk := hG.1
  intro f
  induction f with
  | zero =>
    intro i hf hi
    have e : i = gk S := by omega
    subst e
    rw [ex_s rfl]
    simp only [wX4_error_36]
    rw [show eok S q 0 (gk S) = true from rfl, if_pos rfl]
    simp (disch := omega) only [iI_lit, iI_neg, iI_add, iI_sub, iI_mul, iI_lt, iI_le, iI_eq, iI_in, iI_clamp, iI_mx, iI_mn, iI_nI, Int.toNat_natCast, forall_eq, br_1, br_2, br_3, br_4, br_in, br_5, br_6, br_7, br_8, ex_c, br_nl, br_le, br_ne, gp_1, gp_2, gp_3, gf_1, gf_2, hM.2.2.2.2.2.1, hM.2.2.2.2.1]
  | succ f ih =>
    intro i hf hi
    have hT := hM.mt (show i < gk S by omega)
    have hS := hG.si (show i < gk S by omega)
    have hN := hS.1.1
    have hw := wd_b hS.1 _ (Nat.le_refl _)
    have hb := bo_b (n := tN (gT S i)) (e := q) (by omega) hq.1
    rw [ex_s rfl]
    simp only [wX4_error_36]
    rw [eok]
    by_cases c : wd (tl (gT S i)) (td (gT S i)) (tn (gT S i)) ≤ bo (tN (gT S i)) q
    · have := ih (i + 1) (by omega) (by omega)
      simp (disch := omega) only [iI_lit, iI_neg, iI_add, iI_sub, iI_mul, iI_lt, iI_le, iI_eq, iI_in, iI_clamp, iI_mx, iI_mn, iI_nI, Int.toNat_natCast, forall_eq, br_1, br_2, br_3, br_4, br_in, br_5, br_6, br_7, br_8, ex_c, br_nl, br_le, br_ne, gp_1, gp_2, gp_3, gf_1, gf_2, ix_0, ix_1, ix_2, ix_3, tn_1, tn_2, pp_1, hM.2.2.2.2.2.1, m_widest (show i < 6 by omega) hT.1 hS.1, hT.2.1, m_boundBy]
      rw [decide_eq_true c, Bool.true_and]
      simpa using this
    · simp (disch := omega) only [iI_lit, iI_neg, iI_add, iI_sub, iI_mul, iI_lt, iI_le, iI_eq, iI_in, iI_clamp, iI_mx, iI_mn, iI_nI, Int.toNat_natCast, forall_eq, br_1, br_2, br_3, br_4, br_in, br_5, br_6, br_7, br_8, ex_c, br_nl, br_le, br_ne, gp_1, gp_2, gp_3, gf_1, gf_2, ix_0, ix_1, ix_2, ix_3, tn_1, tn_2, pp_1, hM.2.2.2.2.2.1, m_widest (show i < 6 by omega) hT.1 hS.1, hT.2.1, m_boundBy]
      rw [decide_eq_false c, Bool.false_and]
      simp
theorem op_error {mk : Nat} {S : Gs} {M : Mem} (hC : CS mk S M) (hG : GI S) (a : Int32) : Good mk S (fun Q => wpX3_error mk M a Q) (fun M1 Q => wpX4_error M1 a Q) M := by
  obtain ⟨q, rfl, hq⟩ := iI_of a
  have hk := hG.1
  by_cases c0 : gk S = 0
  · have he := hG.2.1 c0
    refine Good.ro (iI (-1)) 1 hC hG (by omega) (fun Q hQ => ?_) (fun M1 hM Q hQ => ?_)
    · unfold wpX3_error
      simp (disch := omega) only [iI_lit, iI_neg, iI_add, iI_sub, iI_mul, iI_lt, iI_le, iI_eq, iI_in, iI_clamp, iI_mx, iI_mn, iI_nI, Int.toNat_natCast, forall_eq, br_1, br_2, br_3, br_4, br_in, br_5, br_6, br_7, br_8, ex_c, br_nl, br_le, br_ne, gp_1, gp_2, gp_3, gf_1, gf_2, hC.2.1, c_refuse]
      exact hQ _ (RC.p (RC.r _)) gp_1
    · unfold wpX4_error
      refine mo_1 hM hQ (fun M0 hM hQ => ?_)
      simp (disch := omega) only [iI_lit, iI_neg, iI_add, iI_sub, iI_mul, iI_lt, iI_le, iI_eq, iI_in, iI_clamp, iI_mx, iI_mn, iI_nI, Int.toNat_natCast, forall_eq, br_1, br_2, br_3, br_4, br_in, br_5, br_6, br_7, br_8, ex_c, br_nl, br_le, br_ne, gp_1, gp_2, gp_3, gf_1, gf_2, hM.2.2.2.2.1]
      exact m_refused hQ (RM.r _)
  have he := hG.2.2.1 (by omega)
  by_cases c1 : 2 ≤ q ∧ q ≤ 40
  · cases c2 : eok S q (gk S) 0 with
    | true =>
      refine ⟨sE S q (gS S) 0, iI (gE S), hG.e ⟨fun h => absurd h c0, fun _ => c1⟩ ⟨hG.2.2.2.1, hG.2.2.2.2.1⟩ (by omega), fun Q hQ => ?_, fun M1 hM Q hQ => ?_⟩
      · have := l_cerror (Q := Q) hC hG c1 (gk S) 0 rfl (by omega)
        rw [c2, if_pos rfl, Int.natCast_zero] at this
        unfold wpX3_error
        simp (disch := omega) only [iI_lit, iI_neg, iI_add, iI_sub, iI_mul, iI_lt, iI_le, iI_eq, iI_in, iI_clamp, iI_mx, iI_mn, iI_nI, Int.toNat_natCast, forall_eq, br_1, br_2, br_3, br_4, br_in, br_5, br_6, br_7, br_8, ex_c, br_nl, br_le, br_ne, gp_1, gp_2, gp_3, gf_1, gf_2, hC.2.1, this]
        exact hQ _ (hC.e (Fr.p (Fr.p (Fr.r _ _ _) (by omega)) (by omega)) (by simp (disch := omega) only [iI_lit, iI_neg, iI_add, iI_sub, iI_mul, iI_lt, iI_le, iI_eq, iI_in, iI_clamp, iI_mx, iI_mn, iI_nI, Int.toNat_natCast, forall_eq, br_1, br_2, br_3, br_4, br_in, br_5, br_6, br_7, br_8, ex_c, br_nl, br_le, br_ne, gp_1, gp_2, gp_3, gf_1, gf_2]) (by simp (disch := omega) only [iI_lit, iI_neg, iI_add, iI_sub, iI_mul, iI_lt, iI_le, iI_eq, iI_in, iI_clamp, iI_mx, iI_mn, iI_nI, Int.toNat_natCast, forall_eq, br_1, br_2, br_3, br_4, br_in, br_5, br_6, br_7, br_8, ex_c, br_nl, br_le, br_ne, gp_1, gp_2, gp_3, gf_1, gf_2]) (by simp (disch := omega) only [iI_lit, iI_neg, iI_add, iI_sub, iI_mul, iI_lt, iI_le, iI_eq, iI_in, iI_clamp, iI_mx, iI_mn, iI_nI, Int.toNat_natCast, forall_eq, br_1, br_2, br_3, br_4, br_in, br_5, br_6, br_7, br_8, ex_c, br_nl, br_le, br_ne, gp_1, gp_2, gp_3, gf_1, gf_2]) (by simp (disch := omega) only [iI_lit, iI_neg, iI_add, iI_sub, iI_mul, iI_lt, iI_le, iI_eq, iI_in, iI_clamp, iI_mx, iI_mn, iI_nI, Int.toNat_natCast, forall_eq, br_1, br_2, br_3, br_4, br_in, br_5, br_6, br_7, br_8, ex_c, br_nl, br_le, br_ne, gp_1, gp_2, gp_3, gf_1, gf_2]) (by simp (disch := omega) only [iI_lit, iI_neg, iI_add, iI_sub, iI_mul, iI_lt, iI_le, iI_eq, iI_in, iI_clamp, iI_mx, iI_mn, iI_nI, Int.toNat_natCast, forall_eq, br_1, br_2, br_3, br_4, br_in, br_5, br_6, br_7, br_8, ex_c, br_nl, br_le, br_ne, gp_1, gp_2, gp_3, gf_1, gf_2, hC.2.2.2.1]) (by simp (disch := omega) only [iI_lit, iI_neg, iI_add, iI_sub, iI_mul, iI_lt, iI_le, iI_eq, iI_in, iI_clamp, iI_mx, iI_mn, iI_nI, Int.toNat_natCast, forall_eq, br_1, br_2, br_3, br_4, br_in, br_5, br_6, br_7, br_8, ex_c, br_nl, br_le, br_ne, gp_1, gp_2, gp_3, gf_1, gf_2])) (Fr.p (Fr.p (Fr.r _ _ _) (by omega)) (by omega))
      · have h0 : MS S (pI M1 200 0 (iI 0)) := hM.p (by omega)
        have := l_merror (Q := Q) h0 hG c1 (gk S) 0 rfl (by omega)
        rw [c2, if_pos rfl, Int.natCast_zero] at this
        show wpX4_error M1 (iI q) Q
        unfold wpX4_error
        rw [forall_eq]
        simp only [iI_lit]
        simp (disch := omega) only [iI_lit, iI_neg, iI_add, iI_sub, iI_mul, iI_lt, iI_le, iI_eq, iI_in, iI_clamp, iI_mx, iI_mn, iI_nI, Int.toNat_natCast, forall_eq, br_1, br_2, br_3, br_4, br_in, br_5, br_6, br_7, br_8, ex_c, br_nl, br_le, br_ne, gp_1, gp_2, gp_3, gf_1, gf_2, h0.2.2.2.2.1, m_in_y, this, m_good_eq]
        refine hQ _ (hM.e (Fr.p (Fr.p (Fr.p (Fr.p (Fr.r _ _ _) (by omega)) (by omega)) (by omega)) (by omega)) (by simp (disch := omega) only [iI_lit, iI_neg, iI_add, iI_sub, iI_mul, iI_lt, iI_le, iI_eq, iI_in, iI_clamp, iI_mx, iI_mn, iI_nI, Int.toNat_natCast, forall_eq, br_1, br_2, br_3, br_4, br_in, br_5, br_6, br_7, br_8, ex_c, br_nl, br_le, br_ne, gp_1, gp_2, gp_3, gf_1, gf_2]) (by simp (disch := omega) only [iI_lit, iI_neg, iI_add, iI_sub, iI_mul, iI_lt, iI_le, iI_eq, iI_in, iI_clamp, iI_mx, iI_mn, iI_nI, Int.toNat_natCast, forall_eq, br_1, br_2, br_3, br_4, br_in, br_5, br_6, br_7, br_8, ex_c, br_nl, br_le, br_ne, gp_1, gp_2, gp_3, gf_1, gf_2]) (by simp (disch := omega) only [iI_lit, iI_neg, iI_add, iI_sub, iI_mul, iI_lt, iI_le, iI_eq, iI_in, iI_clamp, iI_mx, iI_mn, iI_nI, Int.toNat_natCast, forall_eq, br_1, br_2, br_3, br_4, br_in, br_5, br_6, br_7, br_8, ex_c, br_nl, br_le, br_ne, gp_1, gp_2, gp_3, gf_1, gf_2]) (by simp (disch := omega) only [iI_lit, iI_neg, iI_add, iI_sub, iI_mul, iI_lt, iI_le, iI_eq, iI_in, iI_clamp, iI_mx, iI_mn, iI_nI, Int.toNat_natCast, forall_eq, br_1, br_2, br_3, br_4, br_in, br_5, br_6, br_7, br_8, ex_c, br_nl, br_le, br_ne, gp_1, gp_2, gp_3, gf_1, gf_2]) (by simp (disch := omega) only [iI_lit, iI_neg, iI_add, iI_sub, iI_mul, iI_lt, iI_le, iI_eq, iI_in, iI_clamp, iI_mx, iI_mn, iI_nI, Int.toNat_natCast, forall_eq, br_1, br_2, br_3, br_4, br_in, br_5, br_6, br_7, br_8, ex_c, br_nl, br_le, br_ne, gp_1, gp_2, gp_3, gf_1, gf_2, hM.2.2.2.2.2.2.1]) (by simp (disch := omega) only [iI_lit, iI_neg, iI_add, iI_sub, iI_mul, iI_lt, iI_le, iI_eq, iI_in, iI_clamp, iI_mx, iI_mn, iI_nI, Int.toNat_natCast, forall_eq, br_1, br_2, br_3, br_4, br_in, br_5, br_6, br_7, br_8, ex_c, br_nl, br_le, br_ne, gp_1, gp_2, gp_3, gf_1, gf_2]) (by simp (disch := omega) only [iI_lit, iI_neg, iI_add, iI_sub, iI_mul, iI_lt, iI_le, iI_eq, iI_in, iI_clamp, iI_mx, iI_mn, iI_nI, Int.toNat_natCast, forall_eq, br_1, br_2, br_3, br_4, br_in, br_5, br_6, br_7, br_8, ex_c, br_nl, br_le, br_ne, gp_1, gp_2, gp_3, gf_1, gf_2]; rfl)) (Fr.p (Fr.p (Fr.p (Fr.p (Fr.r _ _ _) (by omega)) (by omega)) (by omega)) (by omega))
    | false =>
      refine Good.ro (iI (-1)) 5 hC hG (by omega) (fun Q hQ => ?_) (fun M1 hM Q hQ => ?_)
      · have := l_cerror (Q := Q) hC hG c1 (gk S) 0 rfl (by omega)
        rw [c2, if_neg (by decide), Int.natCast_zero] at this
        unfold wpX3_error
        simp (disch := omega) only [iI_lit, iI_neg, iI_add, iI_sub, iI_mul, iI_lt, iI_le, iI_eq, iI_in, iI_clamp, iI_mx, iI_mn, iI_nI, Int.toNat_natCast, forall_eq, br_1, br_2, br_3, br_4, br_in, br_5, br_6, br_7, br_8, ex_c, br_nl, br_le, br_ne, gp_1, gp_2, gp_3, gf_1, gf_2, hC.2.1, this]
        exact hQ _ (RC.p (RC.r _)) gp_1
      · unfold wpX4_error
        refine mo_1 hM hQ (fun M0 hM hQ => ?_)
        have := l_merror (Q := Q) hM hG c1 (gk S) 0 rfl (by omega)
        rw [c2, if_neg (by decide), Int.natCast_zero] at this
        simp (disch := omega) only [iI_lit, iI_neg, iI_add, iI_sub, iI_mul, iI_lt, iI_le, iI_eq, iI_in, iI_clamp, iI_mx, iI_mn, iI_nI, Int.toNat_natCast, forall_eq, br_1, br_2, br_3, br_4, br_in, br_5, br_6, br_7, br_8, ex_c, br_nl, br_le, br_ne, gp_1, gp_2, gp_3, gf_1, gf_2, hM.2.2.2.2.1, m_in_y, this]
        exact m_refused hQ (RM.r _)
  · refine Good.ro (iI (-1)) 2 hC hG (by omega) (fun Q hQ => ?_) (fun M1 hM Q hQ => ?_)
    · unfold wpX3_error
      by_cases c2 : q < 2
      · simp (disch := omega) only [iI_lit, iI_neg, iI_add, iI_sub, iI_mul, iI_lt, iI_le, iI_eq, iI_in, iI_clamp, iI_mx, iI_mn, iI_nI, Int.toNat_natCast, forall_eq, br_1, br_2, br_3, br_4, br_in, br_5, br_6, br_7, br_8, ex_c, br_nl, br_le, br_ne, gp_1, gp_2, gp_3, gf_1, gf_2, hC.2.1, c_refuse]
        exact hQ _ (RC.p (RC.r _)) gp_1
      · simp (disch := omega) only [iI_lit, iI_neg, iI_add, iI_sub, iI_mul, iI_lt, iI_le, iI_eq, iI_in, iI_clamp, iI_mx, iI_mn, iI_nI, Int.toNat_natCast, forall_eq, br_1, br_2, br_3, br_4, br_in, br_5, br_6, br_7, br_8, ex_c, br_nl, br_le, br_ne, gp_1, gp_2, gp_3, gf_1, gf_2, hC.2.1, c_refuse]
        exact hQ _ (RC.p (RC.r _)) gp_1
    · unfold wpX4_error
      refine mo_1 hM hQ (fun M0 hM hQ => ?_)
      simp (disch := omega) only [iI_lit, iI_neg, iI_add, iI_sub, iI_mul, iI_lt, iI_le, iI_eq, iI_in, iI_clamp, iI_mx, iI_mn, iI_nI, Int.toNat_natCast, forall_eq, br_1, br_2, br_3, br_4, br_in, br_5, br_6, br_7, br_8, ex_c, br_nl, br_le, br_ne, gp_1, gp_2, gp_3, gf_1, gf_2, hM.2.2.2.2.1, m_in_n]
      exact m_refused hQ (RM.r _)
/-- the next number that is drawn -/
def nsd (s : Int) : Int := (75 * s + 74) % 65537
theorem nsd_b (s : Int) : 0 ≤ nsd s ∧ nsd s < 65537 := by
  unfold nsd
  omega
/-- one draw -/
def dS (S : Gs) (j : Nat) (m : Int) : Gs := sE (sX S j (xPush (gT S j) (nsd (gS S) % m) (gE S))) (gE S) (nsd (gS S)) (gt S)
def dN (j : Nat) (m : Int) : Nat → Gs → Gs
  | 0, S => S
  | f + 1, S => dN j m f (dS S j m)
theorem dS_n {S : Gs} {j : Nat} {m : Int} : tN (gT (dS S j m) j) = tN (gT S j) + 1 := by
  show tN (if j = j then _ else gT S j) = _
  rw [if_pos rfl]
  unfold xPush
  split <;> rfl
theorem dS_G {S : Gs} {j : Nat} {m : Int} (hG : GI S) (hj : j < gk S) (hm : 1 ≤ m ∧ m ≤ 1000) (hN : tN (gT S j) < 1000) : GI (dS S j m) := by
  have h1 : 0 ≤ nsd (gS S) % m := Int.emod_nonneg _ (by omega)
  have h2 : nsd (gS S) % m < m := Int.emod_lt_of_pos _ (by omega)
  exact GI.e (hG.x (SI_push _ (hG.si hj) hN (by omega))) ⟨hG.2.1, hG.2.2.1⟩ (nsd_b _) ⟨hG.2.2.2.2.2.1, hG.2.2.2.2.2.2.1⟩
theorem dN_G {j : Nat} {m : Int} (hm : 1 ≤ m ∧ m ≤ 1000) : ∀ f S, GI S → j < gk S → tN (gT S j) + f ≤ 1000 → GI (dN j m f S) := by
  intro f
  induction f with
  | zero => intro S h _ _; exact h
  | succ f ih =>
    intro S hG hj hN
    exact ih _ (dS_G hG hj hm (by omega)) hj (by rw [dS_n]; omega)
theorem dN_k {j : Nat} {m : Int} : ∀ f S, gk (dN j m f S) = gk S := by
  intro f
  induction f with
  | zero => intro S; rfl
  | succ f ih => intro S; exact (ih _).trans rfl
theorem l_cdraw {mk : Nat} {Q : Qi} {j n : Nat} {m : Int} (hm : 1 ≤ m ∧ m ≤ 1000) (hn : n ≤ 200) (hj4 : j < 4) : ∀ f i S M M1 g, f < g → n - i = f → i ≤ n → CS mk S M1 → GI S → j < gk S → tN (gT S j) + f ≤ 1000 → Fr 0 199 M M1 → (∀ M', CS mk (dN j m f S) M' → Fr 0 199 M M' → Q (iI (tn (gT (dN j m f S) j))) (pI M' 0 5 (iI 0))) → wX3_draw_70 mk Q (iI n) (iI m) (100 + 20 * j) g M1 (iI (i : Nat)) := by
  intro f
  induction f with
  | zero =>
    intro i S M M1 g hg hf hi hC hG hj hN hF hQ
    obtain ⟨g, rfl⟩ : ∃ g', g = g' + 1 := ⟨g - 1, by omega⟩
    simp only [wX3_draw_70]
    simp (disch := omega) only [iI_lit, iI_neg, iI_add, iI_sub, iI_mul, iI_lt, iI_le, iI_eq, iI_in, iI_clamp, iI_mx, iI_mn, iI_nI, Int.toNat_natCast, forall_eq, br_1, br_2, br_3, br_4, br_in, br_5, br_6, br_7, br_8, ex_c, br_nl, br_le, br_ne, gp_1, gp_2, gp_3, gf_1, gf_2, (hC.ct hj).cr.1, c_pass]
    exact hQ M1 hC hF
  | succ f ih =>
    intro i S M M1 g hg hf hi hC hG hj hN hF hQ
    obtain ⟨g, rfl⟩ : ∃ g', g = g' + 1 := ⟨g - 1, by omega⟩
    have hE := hG.er hj
    have s1 := hG.2.2.2.1
    have s2 := hG.2.2.2.2.1
    have n1 := nsd_b (gS S)
    have p1 : 0 ≤ nsd (gS S) % m := Int.emod_nonneg _ (by omega)
    have p2 : nsd (gS S) % m < m := Int.emod_lt_of_pos _ (by omega)
    have en : (75 * gS S + 74) % 65537 = nsd (gS S) := rfl
    simp only [wX3_draw_70]
    simp (disch := omega) only [iI_lit, iI_neg, iI_add, iI_sub, iI_mul, iI_lt, iI_le, iI_eq, iI_in, iI_clamp, iI_mx, iI_mn, iI_nI, Int.toNat_natCast, forall_eq, br_1, br_2, br_3, br_4, br_in, br_5, br_6, br_7, br_8, ex_c, br_nl, br_le, br_ne, gp_1, gp_2, gp_3, gf_1, gf_2, hC.2.2.2.1, hC.2.2.1, iI_rem, en]
    have hC1 : CS mk (sE S (gE S) (nsd (gS S)) (gt S)) (pI M1 0 4 (iI (nsd (gS S)))) := hC.e (Fr.p (Fr.r _ _ _) (by omega)) (by simp (disch := omega) only [iI_lit, iI_neg, iI_add, iI_sub, iI_mul, iI_lt, iI_le, iI_eq, iI_in, iI_clamp, iI_mx, iI_mn, iI_nI, Int.toNat_natCast, forall_eq, br_1, br_2, br_3, br_4, br_in, br_5, br_6, br_7, br_8, ex_c, br_nl, br_le, br_ne, gp_1, gp_2, gp_3, gf_1, gf_2]) (by simp (disch := omega) only [iI_lit, iI_neg, iI_add, iI_sub, iI_mul, iI_lt, iI_le, iI_eq, iI_in, iI_clamp, iI_mx, iI_mn, iI_nI, Int.toNat_natCast, forall_eq, br_1, br_2, br_3, br_4, br_in, br_5, br_6, br_7, br_8, ex_c, br_nl, br_le, br_ne, gp_1, gp_2, gp_3, gf_1, gf_2]) (by simp (disch := omega) only [iI_lit, iI_neg, iI_add, iI_sub, iI_mul, iI_lt, iI_le, iI_eq, iI_in, iI_clamp, iI_mx, iI_mn, iI_nI, Int.toNat_natCast, forall_eq, br_1, br_2, br_3, br_4, br_in, br_5, br_6, br_7, br_8, ex_c, br_nl, br_le, br_ne, gp_1, gp_2, gp_3, gf_1, gf_2]) (by simp (disch := omega) only [iI_lit, iI_neg, iI_add, iI_sub, iI_mul, iI_lt, iI_le, iI_eq, iI_in, iI_clamp, iI_mx, iI_mn, iI_nI, Int.toNat_natCast, forall_eq, br_1, br_2, br_3, br_4, br_in, br_5, br_6, br_7, br_8, ex_c, br_nl, br_le, br_ne, gp_1, gp_2, gp_3, gf_1, gf_2, hC.2.2.1]) (by simp (disch := omega) only [iI_lit, iI_neg, iI_add, iI_sub, iI_mul, iI_lt, iI_le, iI_eq, iI_in, iI_clamp, iI_mx, iI_mn, iI_nI, Int.toNat_natCast, forall_eq, br_1, br_2, br_3, br_4, br_in, br_5, br_6, br_7, br_8, ex_c, br_nl, br_le, br_ne, gp_1, gp_2, gp_3, gf_1, gf_2]) (by simp (disch := omega) only [iI_lit, iI_neg, iI_add, iI_sub, iI_mul, iI_lt, iI_le, iI_eq, iI_in, iI_clamp, iI_mx, iI_mn, iI_nI, Int.toNat_natCast, forall_eq, br_1, br_2, br_3, br_4, br_in, br_5, br_6, br_7, br_8, ex_c, br_nl, br_le, br_ne, gp_1, gp_2, gp_3, gf_1, gf_2, hC.2.2.2.2.1])
    have hG1 : GI (sE S (gE S) (nsd (gS S)) (gt S)) := hG.e ⟨hG.2.1, hG.2.2.1⟩ n1 ⟨hG.2.2.2.2.2.1, hG.2.2.2.2.2.2.1⟩
    refine e_pushValue (x := gT S j) hE (by omega) (hC1.ct hj) (hG.si hj) (by omega) (fun M2 hF2 hT2 => ?_)
    have := ih (i + 1) (dS S j m) M M2 g (by omega) (by omega) (by omega) (hC1.x hG1 hj hF2 hT2) (dS_G hG hj hm (by omega)) hj (by rw [dS_n]; omega) (Fr.t (Fr.t hF (Fr.p (Fr.r _ _ _) (by omega))) (hF2.w (by omega) (by omega))) hQ
    simpa using this
theorem l_mdraw {Q : Qi} {j n : Nat} {m : Int} (hm : 1 ≤ m ∧ m ≤ 1000) (hn : n ≤ 200) (hj4 : j < 4) : ∀ f i S M M1 g, f < g → n - i = f → i ≤ n → MS S M1 → GI S → j < gk S → tN (gT S j) + f ≤ 1000 → Fr 200 299 M M1 → (∀ M', MS (dN j m f S) M' → Fr 200 299 M M' → wpX4_good M' (iI (tn (gT (dN j m f S) j))) Q) → wX4_draw_70 Q (iI j) (iI n) (iI m) g M1 (iI (i : Nat)) := by
  intro f
  induction f with
  | zero =>
    intro i S M M1 g hg hf hi hM hG hj hN hF hQ
    obtain ⟨g, rfl⟩ : ∃ g', g = g' + 1 := ⟨g - 1, by omega⟩
    simp only [wX4_draw_70]
    simp (disch := omega) only [iI_lit, iI_neg, iI_add, iI_sub, iI_mul, iI_lt, iI_le, iI_eq, iI_in, iI_clamp, iI_mx, iI_mn, iI_nI, Int.toNat_natCast, forall_eq, br_1, br_2, br_3, br_4, br_in, br_5, br_6, br_7, br_8, ex_c, br_nl, br_le, br_ne, gp_1, gp_2, gp_3, gf_1, gf_2, ix_0, ix_1, ix_2, ix_3, tn_1, tn_2, pp_1, (hM.mt hj).1.1]
    exact hQ M1 hM hF
  | succ f ih =>
    intro i S M M1 g hg hf hi hM hG hj hN hF hQ
    obtain ⟨g, rfl⟩ : ∃ g', g = g' + 1 := ⟨g - 1, by omega⟩
    have hE := hG.er hj
    have s1 := hG.2.2.2.1
    have s2 := hG.2.2.2.2.1
    have n1 := nsd_b (gS S)
    have p1 : 0 ≤ nsd (gS S) % m := Int.emod_nonneg _ (by omega)
    have p2 : nsd (gS S) % m < m := Int.emod_lt_of_pos _ (by omega)
    have en : (75 * gS S + 74) % 65537 = nsd (gS S) := rfl
    simp only [wX4_draw_70]
    simp (disch := omega) only [iI_lit, iI_neg, iI_add, iI_sub, iI_mul, iI_lt, iI_le, iI_eq, iI_in, iI_clamp, iI_mx, iI_mn, iI_nI, Int.toNat_natCast, forall_eq, br_1, br_2, br_3, br_4, br_in, br_5, br_6, br_7, br_8, ex_c, br_nl, br_le, br_ne, gp_1, gp_2, gp_3, gf_1, gf_2, ix_0, ix_1, ix_2, ix_3, tn_1, tn_2, pp_1, hM.2.2.2.2.2.2.1, iI_rem, en]
    have hM1 : MS (sE S (gE S) (nsd (gS S)) (gt S)) (pI M1 200 30 (iI (nsd (gS S)))) := hM.e (Fr.p (Fr.r _ _ _) (by omega)) (by simp (disch := omega) only [iI_lit, iI_neg, iI_add, iI_sub, iI_mul, iI_lt, iI_le, iI_eq, iI_in, iI_clamp, iI_mx, iI_mn, iI_nI, Int.toNat_natCast, forall_eq, br_1, br_2, br_3, br_4, br_in, br_5, br_6, br_7, br_8, ex_c, br_nl, br_le, br_ne, gp_1, gp_2, gp_3, gf_1, gf_2]) (by simp (disch := omega) only [iI_lit, iI_neg, iI_add, iI_sub, iI_mul, iI_lt, iI_le, iI_eq, iI_in, iI_clamp, iI_mx, iI_mn, iI_nI, Int.toNat_natCast, forall_eq, br_1, br_2, br_3, br_4, br_in, br_5, br_6, br_7, br_8, ex_c, br_nl, br_le, br_ne, gp_1, gp_2, gp_3, gf_1, gf_2]) (by simp (disch := omega) only [iI_lit, iI_neg, iI_add, iI_sub, iI_mul, iI_lt, iI_le, iI_eq, iI_in, iI_clamp, iI_mx, iI_mn, iI_nI, Int.toNat_natCast, forall_eq, br_1, br_2, br_3, br_4, br_in, br_5, br_6, br_7, br_8, ex_c, br_nl, br_le, br_ne, gp_1, gp_2, gp_3, gf_1, gf_2]) (by simp (disch := omega) only [iI_lit, iI_neg, iI_add, iI_sub, iI_mul, iI_lt, iI_le, iI_eq, iI_in, iI_clamp, iI_mx, iI_mn, iI_nI, Int.toNat_natCast, forall_eq, br_1, br_2, br_3, br_4, br_in, br_5, br_6, br_7, br_8, ex_c, br_nl, br_le, br_ne, gp_1, gp_2, gp_3, gf_1, gf_2, hM.2.2.2.2.1]) (by simp (disch := omega) only [iI_lit, iI_neg, iI_add, iI_sub, iI_mul, iI_lt, iI_le, iI_eq, iI_in, iI_clamp, iI_mx, iI_mn, iI_nI, Int.toNat_natCast, forall_eq, br_1, br_2, br_3, br_4, br_in, br_5, br_6, br_7, br_8, ex_c, br_nl, br_le, br_ne, gp_1, gp_2, gp_3, gf_1, gf_2]) (by simp (disch := omega) only [iI_lit, iI_neg, iI_add, iI_sub, iI_mul, iI_lt, iI_le, iI_eq, iI_in, iI_clamp, iI_mx, iI_mn, iI_nI, Int.toNat_natCast, forall_eq, br_1, br_2, br_3, br_4, br_in, br_5, br_6, br_7, br_8, ex_c, br_nl, br_le, br_ne, gp_1, gp_2, gp_3, gf_1, gf_2, hM.1]) (by simp (disch := omega) only [iI_lit, iI_neg, iI_add, iI_sub, iI_mul, iI_lt, iI_le, iI_eq, iI_in, iI_clamp, iI_mx, iI_mn, iI_nI, Int.toNat_natCast, forall_eq, br_1, br_2, br_3, br_4, br_in, br_5, br_6, br_7, br_8, ex_c, br_nl, br_le, br_ne, gp_1, gp_2, gp_3, gf_1, gf_2]; exact hM.2.1)
    have hG1 : GI (sE S (gE S) (nsd (gS S)) (gt S)) := hG.e ⟨hG.2.1, hG.2.2.1⟩ n1 ⟨hG.2.2.2.2.2.1, hG.2.2.2.2.2.2.1⟩
    refine m_pushes (x := gT S j) hj4 hM1.2.2.2.2.1 hE (by omega) (hM1.mt hj) (hG.si hj) (by omega) (fun M2 hF2 hT2 => ?_)
    have := ih (i + 1) (dS S j m) M M2 g (by omega) (by omega) (by omega) (hM1.x hG1 hj hF2 hT2) (dS_G hG hj hm (by omega)) hj (by rw [dS_n]; omega) (Fr.t (Fr.t hF (Fr.p (Fr.r _ _ _) (by omega))) hF2.fr) hQ
    simpa using this
theorem op_draw {mk : Nat} {S : Gs} {M : Mem} (hC : CS mk S M) (hG : GI S) (a b e : Int32) : Good mk S (fun Q => wpX3_draw mk M a b e Q) (fun M1 Q => wpX4_draw M1 a b e Q) M := by
  obtain ⟨z, rfl, hz⟩ := iI_of a
  obtain ⟨n, rfl, hn⟩ := iI_of b
  obtain ⟨m, rfl, hm⟩ := iI_of e
  by_cases c0 : ¬ (0 ≤ z ∧ z < gk S)
  · refine Good.ro (iI (-1)) 1 hC hG (by omega) (fun Q hQ => ?_) (fun M1 hM Q hQ => ?_)
    · simp only [wpX3_draw, iI_lit, c_find_n hC hG hz c0, o_none, o_none2, c_refuse]
      exact hQ _ (RC.p (RC.r _)) gp_1
    · unfold wpX4_draw
      refine mo_1 hM hQ (fun M0 hM hQ => ?_)
      simp (disch := omega) only [iI_lit, iI_neg, iI_add, iI_sub, iI_mul, iI_lt, iI_le, iI_eq, iI_in, iI_clamp, iI_mx, iI_mn, iI_nI, Int.toNat_natCast, forall_eq, br_1, br_2, br_3, br_4, br_in, br_5, br_6, br_7, br_8, ex_c, br_nl, br_le, br_ne, gp_1, gp_2, gp_3, gf_1, gf_2, m_isS_n hM hG hz c0]
      exact m_refused hQ (RM.r _)
  obtain ⟨j, rfl⟩ : ∃ j : Nat, z = j := ⟨z.toNat, by omega⟩
  have hj : j < gk S := by omega
  have hk := hG.1
  have hT := hC.ct hj
  have hS := hG.si hj
  have hE := hG.er hj
  obtain ⟨x, hx⟩ : ∃ x, gT S j = x := ⟨_, rfl⟩
  rw [hx] at hT hS
  have hN := hS.1.1
  have hn := hS.1.2.1
  obtain ⟨t1, t2, t3, t4, t5, t6⟩ := hT
  by_cases c1 : 1 ≤ n ∧ n ≤ 200
  · by_cases c2 : 1 ≤ m ∧ m ≤ 1000
    · by_cases c3 : tN x + n ≤ 1000
      · obtain ⟨n, rfl⟩ : ∃ k : Nat, n = k := ⟨n.toNat, by omega⟩
        have hN0 : tN (gT S j) + n ≤ 1000 := by
          rw [hx]
          omega
        have hG' := dN_G c2 n S hG hj hN0
        refine ⟨sT (dN j m n S) 0, iI (tn (gT (dN j m n S) j)), hG'.t (by omega), fun Q hQ => ?_, fun M1 hM Q hQ => ?_⟩
        · simp only [wpX3_draw, c_find_y hC hG hj, o_some]
          simp (disch := omega) only [iI_lit, iI_neg, iI_add, iI_sub, iI_mul, iI_lt, iI_le, iI_eq, iI_in, iI_clamp, iI_mx, iI_mn, iI_nI, Int.toNat_natCast, forall_eq, br_1, br_2, br_3, br_4, br_in, br_5, br_6, br_7, br_8, ex_c, br_nl, br_le, br_ne, gp_1, gp_2, gp_3, gf_1, gf_2, t1]
          have := l_cdraw (mk := mk) (Q := Q) c2 (show n ≤ 200 by omega) (show j < 4 by omega) n 0 S M M (n + 1) (by omega) rfl (by omega) hC hG hj hN0 (Fr.r _ _ _) (fun M' hC' hF' => hQ _ (hC'.t hG' (RC.p (RC.r _)) gp_1) (Fr.t hF' (RC.fr (RC.p (RC.r _)))))
          exact ⟨n + 1, by simpa using this⟩
        · show wpX4_draw M1 (iI j) (iI n) (iI m) Q
          unfold wpX4_draw
          rw [forall_eq]
          simp only [iI_lit]
          have h0 : MS S (pI M1 200 0 (iI 0)) := hM.p (by omega)
          have hMT := h0.mt hj
          rw [hx] at hMT
          simp (disch := omega) only [iI_lit, iI_neg, iI_add, iI_sub, iI_mul, iI_lt, iI_le, iI_eq, iI_in, iI_clamp, iI_mx, iI_mn, iI_nI, Int.toNat_natCast, forall_eq, br_1, br_2, br_3, br_4, br_in, br_5, br_6, br_7, br_8, ex_c, br_nl, br_le, br_ne, gp_1, gp_2, gp_3, gf_1, gf_2, ix_0, ix_1, ix_2, ix_3, tn_1, tn_2, pp_1, m_isS_y h0 hG hj, m_in_y, hMT.2.1]
          have := l_mdraw (Q := Q) c2 (show n ≤ 200 by omega) (show j < 4 by omega) n 0 S M1 (pI M1 200 0 (iI 0)) (n + 1) (by omega) rfl (by omega) h0 hG hj hN0 (RM.fr (RM.p (RM.r _) (by omega))) (fun M' hM' hF' => by
            rw [m_good_eq]
            exact hQ _ (hM'.t hG' (RM.p (RM.p (RM.r _) (by omega)) (by omega)) (by simp (disch := omega) only [iI_lit, iI_neg, iI_add, iI_sub, iI_mul, iI_lt, iI_le, iI_eq, iI_in, iI_clamp, iI_mx, iI_mn, iI_nI, Int.toNat_natCast, forall_eq, br_1, br_2, br_3, br_4, br_in, br_5, br_6, br_7, br_8, ex_c, br_nl, br_le, br_ne, gp_1, gp_2, gp_3, gf_1, gf_2]) (by simp (disch := omega) only [iI_lit, iI_neg, iI_add, iI_sub, iI_mul, iI_lt, iI_le, iI_eq, iI_in, iI_clamp, iI_mx, iI_mn, iI_nI, Int.toNat_natCast, forall_eq, br_1, br_2, br_3, br_4, br_in, br_5, br_6, br_7, br_8, ex_c, br_nl, br_le, br_ne, gp_1, gp_2, gp_3, gf_1, gf_2]) (by omega)) (Fr.t hF' (RM.fr (RM.p (RM.p (RM.r _) (by omega)) (by omega)))))
          exact ⟨n + 1, by simpa using this⟩
      · skip
        refine Good.ro (iI (-1)) 3 hC hG (by omega) (fun Q hQ => ?_) (fun M1 hM Q hQ => ?_)
        · simp only [wpX3_draw, c_find_y hC hG hj, o_some]
          simp (disch := omega) only [iI_lit, iI_neg, iI_add, iI_sub, iI_mul, iI_lt, iI_le, iI_eq, iI_in, iI_clamp, iI_mx, iI_mn, iI_nI, Int.toNat_natCast, forall_eq, br_1, br_2, br_3, br_4, br_in, br_5, br_6, br_7, br_8, ex_c, br_nl, br_le, br_ne, gp_1, gp_2, gp_3, gf_1, gf_2, c_pass, c_refuse, t1, t2, t3, t4, hC.2.2.1, t1]
          exact hQ _ (RC.p (RC.r _)) gp_1
        · unfold wpX4_draw
          refine mo_1 hM hQ (fun M0 hM hQ => ?_)
          have hMT := hM.mt hj
          rw [hx] at hMT
          obtain ⟨u1, u2, u3, u4, u5, u6⟩ := hMT
          simp (disch := omega) only [iI_lit, iI_neg, iI_add, iI_sub, iI_mul, iI_lt, iI_le, iI_eq, iI_in, iI_clamp, iI_mx, iI_mn, iI_nI, Int.toNat_natCast, forall_eq, br_1, br_2, br_3, br_4, br_in, br_5, br_6, br_7, br_8, ex_c, br_nl, br_le, br_ne, gp_1, gp_2, gp_3, gf_1, gf_2, ix_0, ix_1, ix_2, ix_3, tn_1, tn_2, pp_1, m_isS_y hM hG hj, m_in_y, m_in_n, u1.1, u2, u3, u4, u5, hM.2.2.2.2.1, u2]
          exact m_refused hQ (RM.r _)
    · by_cases c3 : m < 1
      · skip
        refine Good.ro (iI (-1)) 2 hC hG (by omega) (fun Q hQ => ?_) (fun M1 hM Q hQ => ?_)
        · simp only [wpX3_draw, c_find_y hC hG hj, o_some]
          simp (disch := omega) only [iI_lit, iI_neg, iI_add, iI_sub, iI_mul, iI_lt, iI_le, iI_eq, iI_in, iI_clamp, iI_mx, iI_mn, iI_nI, Int.toNat_natCast, forall_eq, br_1, br_2, br_3, br_4, br_in, br_5, br_6, br_7, br_8, ex_c, br_nl, br_le, br_ne, gp_1, gp_2, gp_3, gf_1, gf_2, c_pass, c_refuse, t1, t2, t3, t4, hC.2.2.1, t1]
          exact hQ _ (RC.p (RC.r _)) gp_1
        · unfold wpX4_draw
          refine mo_1 hM hQ (fun M0 hM hQ => ?_)
          have hMT := hM.mt hj
          rw [hx] at hMT
          obtain ⟨u1, u2, u3, u4, u5, u6⟩ := hMT
          simp (disch := omega) only [iI_lit, iI_neg, iI_add, iI_sub, iI_mul, iI_lt, iI_le, iI_eq, iI_in, iI_clamp, iI_mx, iI_mn, iI_nI, Int.toNat_natCast, forall_eq, br_1, br_2, br_3, br_4, br_in, br_5, br_6, br_7, br_8, ex_c, br_nl, br_le, br_ne, gp_1, gp_2, gp_3, gf_1, gf_2, ix_0, ix_1, ix_2, ix_3, tn_1, tn_2, pp_1, m_isS_y hM hG hj, m_in_y, m_in_n, u1.1, u2, u3, u4, u5, hM.2.2.2.2.1, u2]
          exact m_refused hQ (RM.r _)
      · skip
        refine Good.ro (iI (-1)) 2 hC hG (by omega) (fun Q hQ => ?_) (fun M1 hM Q hQ => ?_)
        · simp only [wpX3_draw, c_find_y hC hG hj, o_some]
          simp (disch := omega) only [iI_lit, iI_neg, iI_add, iI_sub, iI_mul, iI_lt, iI_le, iI_eq, iI_in, iI_clamp, iI_mx, iI_mn, iI_nI, Int.toNat_natCast, forall_eq, br_1, br_2, br_3, br_4, br_in, br_5, br_6, br_7, br_8, ex_c, br_nl, br_le, br_ne, gp_1, gp_2, gp_3, gf_1, gf_2, c_pass, c_refuse, t1, t2, t3, t4, hC.2.2.1, t1]
          exact hQ _ (RC.p (RC.r _)) gp_1
        · unfold wpX4_draw
          refine mo_1 hM hQ (fun M0 hM hQ => ?_)
          have hMT := hM.mt hj
          rw [hx] at hMT
          obtain ⟨u1, u2, u3, u4, u5, u6⟩ := hMT
          simp (disch := omega) only [iI_lit, iI_neg, iI_add, iI_sub, iI_mul, iI_lt, iI_le, iI_eq, iI_in, iI_clamp, iI_mx, iI_mn, iI_nI, Int.toNat_natCast, forall_eq, br_1, br_2, br_3, br_4, br_in, br_5, br_6, br_7, br_8, ex_c, br_nl, br_le, br_ne, gp_1, gp_2, gp_3, gf_1, gf_2, ix_0, ix_1, ix_2, ix_3, tn_1, tn_2, pp_1, m_isS_y hM hG hj, m_in_y, m_in_n, u1.1, u2, u3, u4, u5, hM.2.2.2.2.1, u2]
          exact m_refused hQ (RM.r _)
  · by_cases c2 : n < 1
    · skip
      refine Good.ro (iI (-1)) 2 hC hG (by omega) (fun Q hQ => ?_) (fun M1 hM Q hQ => ?_)
      · simp only [wpX3_draw, c_find_y hC hG hj, o_some]
        simp (disch := omega) only [iI_lit, iI_neg, iI_add, iI_sub, iI_mul, iI_lt, iI_le, iI_eq, iI_in, iI_clamp, iI_mx, iI_mn, iI_nI, Int.toNat_natCast, forall_eq, br_1, br_2, br_3, br_4, br_in, br_5, br_6, br_7, br_8, ex_c, br_nl, br_le, br_ne, gp_1, gp_2, gp_3, gf_1, gf_2, c_pass, c_refuse, t1, t2, t3, t4, hC.2.2.1, t1]
        exact hQ _ (RC.p (RC.r _)) gp_1
      · unfold wpX4_draw
        refine mo_1 hM hQ (fun M0 hM hQ => ?_)
        have hMT := hM.mt hj
        rw [hx] at hMT
        obtain ⟨u1, u2, u3, u4, u5, u6⟩ := hMT
        simp (disch := omega) only [iI_lit, iI_neg, iI_add, iI_sub, iI_mul, iI_lt, iI_le, iI_eq, iI_in, iI_clamp, iI_mx, iI_mn, iI_nI, Int.toNat_natCast, forall_eq, br_1, br_2, br_3, br_4, br_in, br_5, br_6, br_7, br_8, ex_c, br_nl, br_le, br_ne, gp_1, gp_2, gp_3, gf_1, gf_2, ix_0, ix_1, ix_2, ix_3, tn_1, tn_2, pp_1, m_isS_y hM hG hj, m_in_y, m_in_n, u1.1, u2, u3, u4, u5, hM.2.2.2.2.1, u2]
        exact m_refused hQ (RM.r _)
    · skip
      refine Good.ro (iI (-1)) 2 hC hG (by omega) (fun Q hQ => ?_) (fun M1 hM Q hQ => ?_)
      · simp only [wpX3_draw, c_find_y hC hG hj, o_some]
        simp (disch := omega) only [iI_lit, iI_neg, iI_add, iI_sub, iI_mul, iI_lt, iI_le, iI_eq, iI_in, iI_clamp, iI_mx, iI_mn, iI_nI, Int.toNat_natCast, forall_eq, br_1, br_2, br_3, br_4, br_in, br_5, br_6, br_7, br_8, ex_c, br_nl, br_le, br_ne, gp_1, gp_2, gp_3, gf_1, gf_2, c_pass, c_refuse, t1, t2, t3, t4, hC.2.2.1, t1]
        exact hQ _ (RC.p (RC.r _)) gp_1
      · unfold wpX4_draw
        refine mo_1 hM hQ (fun M0 hM hQ => ?_)
        have hMT := hM.mt hj
        rw [hx] at hMT
        obtain ⟨u1, u2, u3, u4, u5, u6⟩ := hMT
        simp (disch := omega) only [iI_lit, iI_neg, iI_add, iI_sub, iI_mul, iI_lt, iI_le, iI_eq, iI_in, iI_clamp, iI_mx, iI_mn, iI_nI, Int.toNat_natCast, forall_eq, br_1, br_2, br_3, br_4, br_in, br_5, br_6, br_7, br_8, ex_c, br_nl, br_le, br_ne, gp_1, gp_2, gp_3, gf_1, gf_2, ix_0, ix_1, ix_2, ix_3, tn_1, tn_2, pp_1, m_isS_y hM hG hj, m_in_y, m_in_n, u1.1, u2, u3, u4, u5, hM.2.2.2.2.1, u2]
        exact m_refused hQ (RM.r _)
