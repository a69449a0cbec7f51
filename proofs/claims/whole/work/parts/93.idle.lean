/-! idle: the class throws, or answers -/
def wX3_idle_4 (mk : Nat) (Q : Int32 → Mem → Prop) (E : Mem → Prop) : Nat → Mem → Int32 → Int32 → Prop
  | 0, _, _, _ => False
  | n + 1, M, v2, v3 => (((gI M 0 2) ≤ v3 → E M) ∧ (¬ (gI M 0 2) ≤ v3 → wpX3_find mk M v3 (fun o M_1 => (o = none → wX3_idle_4 mk Q E n M_1 v2 (v3 + 1)) ∧ (∀ n_2 : Nat, o = some n_2 → ((¬ (gI M_1 n_2 2) = 0 → wX3_idle_4 mk Q E n M_1 v2 (v3 + 1)) ∧ ((gI M_1 n_2 2) = 0 → ((¬ v2 = 0 → wX3_idle_4 mk Q E n M_1 (v2 + (-1)) (v3 + 1)) ∧ (v2 = 0 → Q v3 M_1))))))))
def wpX3_idle (mk : Nat) (M : Mem) (v1 : Int32) (Q : Int32 → Mem → Prop) (E : Mem → Prop) : Prop := ∃ n, wX3_idle_4 mk Q E n M v1 0
theorem iI_s0 {z c : Int} (hz : -2147483648 ≤ z ∧ z < 2147483648) (hc : 0 ≤ c ∧ c ≤ 4) : (iI (z - c) = iI 0) = (z = c) := by
  refine propext ⟨fun h => ?_, fun h => by rw [h, Int.sub_self]⟩
  have h2 : iI (z - c) + iI c = iI 0 + iI c := by rw [h]
  rw [iI_add, iI_add, Int.sub_add_cancel, Int.zero_add] at h2
  exact (iI_eq hz (by omega)).mp h2
theorem l_idle {mk : Nat} {S : Gs} {M : Mem} {z : Int} (hC : CS mk S M) (hG : GI S) (hz : -2147483648 ≤ z ∧ z < 2147483648) : ∀ f i c, gk S - i = f → i ≤ gk S → c ≤ i →
    (∃ s : Int, (∀ Q E, Q (iI s) M → ∃ m, wX3_idle_4 mk Q E m M (iI (z - (c : Nat))) (iI (i : Nat))) ∧ ∀ M1 Q, MS S M1 → Q (iI s) M1 → ∃ m, wX4_idle_9 Q (iI z) m M1 (iI (c : Nat)) (iI (i : Nat))) ∨
    ((∀ Q E, E M → ∃ m, wX3_idle_4 mk Q E m M (iI (z - (c : Nat))) (iI (i : Nat))) ∧ ∀ M1 Q, MS S M1 → Q (iI 0) (pI M1 200 0 (iI 1)) → ∃ m, wX4_idle_9 Q (iI z) m M1 (iI (c : Nat)) (iI (i : Nat))) := by
  have hk := hG.1
  intro f
  induction f with
  | zero =>
    intro i c hf hi hc
    have e : i = gk S := by omega
    subst e
    refine Or.inr ⟨fun Q E hE => ?_, fun M1 Q hM hQ => ?_⟩
    · rw [ex_s rfl]
      simp only [wX3_idle_4]
      simp (disch := omega) only [iI_lit, iI_neg, iI_add, iI_sub, iI_mul, iI_lt, iI_le, iI_eq, iI_in, iI_clamp, iI_mx, iI_mn, iI_nI, Int.toNat_natCast, forall_eq, br_1, br_2, br_3, br_4, br_in, br_5, br_6, br_7, br_8, ex_c, br_nl, br_le, br_ne, gp_1, gp_2, gp_3, gf_1, gf_2, hC.2.1]
      exact hE
    · rw [ex_s rfl]
      simp only [wX4_idle_9]
      simp (disch := omega) only [iI_lit, iI_neg, iI_add, iI_sub, iI_mul, iI_lt, iI_le, iI_eq, iI_in, iI_clamp, iI_mx, iI_mn, iI_nI, Int.toNat_natCast, forall_eq, br_1, br_2, br_3, br_4, br_in, br_5, br_6, br_7, br_8, ex_c, br_nl, br_le, br_ne, gp_1, gp_2, gp_3, gf_1, gf_2, hM.2.2.2.2.2.1]
      exact hQ
  | succ f ih =>
    intro i c hf hi hc
    have hi' : i < gk S := by omega
    have hT := hC.ct hi'
    have hN := (hG.si hi').1.1
    by_cases c1 : tN (gT S i) = 0
    · have n0 : (tN (gT S i) : Int) = 0 := by omega
      by_cases c2 : z = c
      · refine Or.inl ⟨i, fun Q E hQ => ?_, fun M1 Q hM hQ => ?_⟩
        · rw [ex_s rfl]
          simp only [wX3_idle_4]
          simp (disch := omega) only [iI_lit, iI_neg, iI_add, iI_sub, iI_mul, iI_lt, iI_le, iI_eq, iI_in, iI_clamp, iI_mx, iI_mn, iI_nI, Int.toNat_natCast, forall_eq, br_1, br_2, br_3, br_4, br_in, br_5, br_6, br_7, br_8, ex_c, br_nl, br_le, br_ne, gp_1, gp_2, gp_3, gf_1, gf_2, hC.2.1, c_find_y hC hG hi', o_some, hT.1, n0, iI_s0 hz]
          exact hQ
        · rw [ex_s rfl]
          simp only [wX4_idle_9]
          simp (disch := omega) only [iI_lit, iI_neg, iI_add, iI_sub, iI_mul, iI_lt, iI_le, iI_eq, iI_in, iI_clamp, iI_mx, iI_mn, iI_nI, Int.toNat_natCast, forall_eq, br_1, br_2, br_3, br_4, br_in, br_5, br_6, br_7, br_8, ex_c, br_nl, br_le, br_ne, gp_1, gp_2, gp_3, gf_1, gf_2, hM.2.2.2.2.2.1, (hM.mt hi').2.1, n0]
          exact hQ
      · have e1 : z - (c : Nat) + -1 = z - ((c + 1 : Nat) : Int) := by omega
        rcases ih (i + 1) (c + 1) (by omega) (by omega) (by omega) with ⟨s, h1, h2⟩ | ⟨h1, h2⟩
        · refine Or.inl ⟨s, fun Q E hQ => ?_, fun M1 Q hM hQ => ?_⟩
          · have := h1 Q E hQ
            rw [ex_s rfl]
            simp only [wX3_idle_4]
            simp (disch := omega) only [iI_lit, iI_neg, iI_add, iI_sub, iI_mul, iI_lt, iI_le, iI_eq, iI_in, iI_clamp, iI_mx, iI_mn, iI_nI, Int.toNat_natCast, forall_eq, br_1, br_2, br_3, br_4, br_in, br_5, br_6, br_7, br_8, ex_c, br_nl, br_le, br_ne, gp_1, gp_2, gp_3, gf_1, gf_2, hC.2.1, c_find_y hC hG hi', o_some, hT.1, n0, iI_s0 hz, e1]
            exact this
          · have := h2 M1 Q hM hQ
            rw [ex_s rfl]
            simp only [wX4_idle_9]
            simp (disch := omega) only [iI_lit, iI_neg, iI_add, iI_sub, iI_mul, iI_lt, iI_le, iI_eq, iI_in, iI_clamp, iI_mx, iI_mn, iI_nI, Int.toNat_natCast, forall_eq, br_1, br_2, br_3, br_4, br_in, br_5, br_6, br_7, br_8, ex_c, br_nl, br_le, br_ne, gp_1, gp_2, gp_3, gf_1, gf_2, hM.2.2.2.2.2.1, (hM.mt hi').2.1, n0]
            exact this
        · refine Or.inr ⟨fun Q E hQ => ?_, fun M1 Q hM hQ => ?_⟩
          · have := h1 Q E hQ
            rw [ex_s rfl]
            simp only [wX3_idle_4]
            simp (disch := omega) only [iI_lit, iI_neg, iI_add, iI_sub, iI_mul, iI_lt, iI_le, iI_eq, iI_in, iI_clamp, iI_mx, iI_mn, iI_nI, Int.toNat_natCast, forall_eq, br_1, br_2, br_3, br_4, br_in, br_5, br_6, br_7, br_8, ex_c, br_nl, br_le, br_ne, gp_1, gp_2, gp_3, gf_1, gf_2, hC.2.1, c_find_y hC hG hi', o_some, hT.1, n0, iI_s0 hz, e1]
            exact this
          · have := h2 M1 Q hM hQ
            rw [ex_s rfl]
            simp only [wX4_idle_9]
            simp (disch := omega) only [iI_lit, iI_neg, iI_add, iI_sub, iI_mul, iI_lt, iI_le, iI_eq, iI_in, iI_clamp, iI_mx, iI_mn, iI_nI, Int.toNat_natCast, forall_eq, br_1, br_2, br_3, br_4, br_in, br_5, br_6, br_7, br_8, ex_c, br_nl, br_le, br_ne, gp_1, gp_2, gp_3, gf_1, gf_2, hM.2.2.2.2.2.1, (hM.mt hi').2.1, n0]
            exact this
    · rcases ih (i + 1) c (by omega) (by omega) (by omega) with ⟨s, h1, h2⟩ | ⟨h1, h2⟩
      · refine Or.inl ⟨s, fun Q E hQ => ?_, fun M1 Q hM hQ => ?_⟩
        · have := h1 Q E hQ
          rw [ex_s rfl]
          simp only [wX3_idle_4]
          simp (disch := omega) only [iI_lit, iI_neg, iI_add, iI_sub, iI_mul, iI_lt, iI_le, iI_eq, iI_in, iI_clamp, iI_mx, iI_mn, iI_nI, Int.toNat_natCast, forall_eq, br_1, br_2, br_3, br_4, br_in, br_5, br_6, br_7, br_8, ex_c, br_nl, br_le, br_ne, gp_1, gp_2, gp_3, gf_1, gf_2, hC.2.1, c_find_y hC hG hi', o_some, hT.1]
          exact this
        · have := h2 M1 Q hM hQ
          rw [ex_s rfl]
          simp only [wX4_idle_9]
          simp (disch := omega) only [iI_lit, iI_neg, iI_add, iI_sub, iI_mul, iI_lt, iI_le, iI_eq, iI_in, iI_clamp, iI_mx, iI_mn, iI_nI, Int.toNat_natCast, forall_eq, br_1, br_2, br_3, br_4, br_in, br_5, br_6, br_7, br_8, ex_c, br_nl, br_le, br_ne, gp_1, gp_2, gp_3, gf_1, gf_2, hM.2.2.2.2.2.1, (hM.mt hi').2.1]
          exact this
      · refine Or.inr ⟨fun Q E hQ => ?_, fun M1 Q hM hQ => ?_⟩
        · have := h1 Q E hQ
          rw [ex_s rfl]
          simp only [wX3_idle_4]
          simp (disch := omega) only [iI_lit, iI_neg, iI_add, iI_sub, iI_mul, iI_lt, iI_le, iI_eq, iI_in, iI_clamp, iI_mx, iI_mn, iI_nI, Int.toNat_natCast, forall_eq, br_1, br_2, br_3, br_4, br_in, br_5, br_6, br_7, br_8, ex_c, br_nl, br_le, br_ne, gp_1, gp_2, gp_3, gf_1, gf_2, hC.2.1, c_find_y hC hG hi', o_some, hT.1]
          exact this
        · have := h2 M1 Q hM hQ
          rw [ex_s rfl]
          simp only [wX4_idle_9]
          simp (disch := omega) only [iI_lit, iI_neg, iI_add, iI_sub, iI_mul, iI_lt, iI_le, iI_eq, iI_in, iI_clamp, iI_mx, iI_mn, iI_nI, Int.toNat_natCast, forall_eq, br_1, br_2, br_3, br_4, br_in, br_5, br_6, br_7, br_8, ex_c, br_nl, br_le, br_ne, gp_1, gp_2, gp_3, gf_1, gf_2, hM.2.2.2.2.2.1, (hM.mt hi').2.1]
          exact this
theorem op_idle {mk : Nat} {S : Gs} {M : Mem} (hC : CS mk S M) (hG : GI S) (a : Int32) :
    (∃ s : Int32, (∀ Q E, Q s M → wpX3_idle mk M a Q E) ∧ ∀ M1, MS S M1 → ∀ Q : Qi, (∀ M2, MS S M2 → Fr 200 299 M1 M2 → gI M2 200 0 = iI 0 → Q s M2) → wpX4_idle M1 a Q) ∨
    ((∀ Q E, E M → wpX3_idle mk M a Q E) ∧ ∀ M1, MS S M1 → ∀ Q : Qi, (∀ M2, MS S M2 → Fr 200 299 M1 M2 → gI M2 200 0 = iI 1 → Q (iI 0) M2) → wpX4_idle M1 a Q) := by
  obtain ⟨z, rfl, hz⟩ := iI_of a
  rcases l_idle hC hG hz (gk S) 0 0 rfl (by omega) (by omega) with ⟨s, h1, h2⟩ | ⟨h1, h2⟩
  · refine Or.inl ⟨iI s, fun Q E hQ => ?_, fun M1 hM Q hQ => ?_⟩
    · have := h1 Q E hQ
      rw [Int.natCast_zero, Int.sub_zero] at this
      exact this
    · unfold wpX4_idle
      rw [forall_eq]
      have h0 : MS S (pI M1 200 0 (iI 0)) := hM.p (by omega)
      exact h2 _ Q h0 (hQ _ h0 (RM.fr (RM.p (RM.r _) (by omega))) gp_1)
  · refine Or.inr ⟨fun Q E hQ => ?_, fun M1 hM Q hQ => ?_⟩
    · have := h1 Q E hQ
      rw [Int.natCast_zero, Int.sub_zero] at this
      exact this
    · unfold wpX4_idle
      rw [forall_eq]
      have h0 : MS S (pI M1 200 0 (iI 0)) := hM.p (by omega)
      exact h2 _ Q h0 (hQ _ (h0.p (by omega)) (RM.fr (RM.p (RM.p (RM.r _) (by omega)) (by omega))) gp_1)
