/-! two streams -/
theorem c_fo_n {mk : Nat} {S : Gs} {M : Mem} {Q : Option Nat → Mem → Prop} {z z' : Int} (hC : CS mk S M) (hG : GI S) (hz : -2147483648 ≤ z ∧ z < 2147483648) (hz' : -2147483648 ≤ z' ∧ z' < 2147483648) (h : ¬ (0 ≤ z' ∧ z' < gk S ∧ ¬ z = z')) : wpX3_findOther mk M (iI z) (iI z') Q = Q none M := by
  unfold wpX3_findOther
  by_cases c : z = z'
  · simp (disch := omega) only [iI_lit, iI_neg, iI_add, iI_sub, iI_mul, iI_lt, iI_le, iI_eq, iI_in, iI_clamp, iI_mx, iI_mn, iI_nI, Int.toNat_natCast, forall_eq, br_1, br_2, br_3, br_4, br_in, br_5, br_6, br_7, br_8, ex_c, br_nl, br_le, br_ne, gp_1, gp_2, gp_3, gf_1, gf_2]
  · simp only [c_find_n hC hG hz' (by omega), o_none, o_none2]
    simp (disch := omega) only [iI_lit, iI_neg, iI_add, iI_sub, iI_mul, iI_lt, iI_le, iI_eq, iI_in, iI_clamp, iI_mx, iI_mn, iI_nI, Int.toNat_natCast, forall_eq, br_1, br_2, br_3, br_4, br_in, br_5, br_6, br_7, br_8, ex_c, br_nl, br_le, br_ne, gp_1, gp_2, gp_3, gf_1, gf_2]
theorem c_fo_y {mk : Nat} {S : Gs} {M : Mem} {Q : Option Nat → Mem → Prop} {z : Int} {j : Nat} (hC : CS mk S M) (hG : GI S) (hz : -2147483648 ≤ z ∧ z < 2147483648) (hj : j < gk S) (h : ¬ z = j) : wpX3_findOther mk M (iI z) (iI j) Q = Q (some (100 + 20 * j)) M := by
  have := hG.1
  unfold wpX3_findOther
  simp only [c_find_y hC hG hj, o_some]
  simp (disch := omega) only [iI_lit, iI_neg, iI_add, iI_sub, iI_mul, iI_lt, iI_le, iI_eq, iI_in, iI_clamp, iI_mx, iI_mn, iI_nI, Int.toNat_natCast, forall_eq, br_1, br_2, br_3, br_4, br_in, br_5, br_6, br_7, br_8, ex_c, br_nl, br_le, br_ne, gp_1, gp_2, gp_3, gf_1, gf_2]
theorem c_two_n {mk : Nat} {S : Gs} {M : Mem} {Q : Qi} {z z' : Int} {B : Nat → Nat → Mem → Prop} (hC : CS mk S M) (hG : GI S) (hz : -2147483648 ≤ z ∧ z < 2147483648) (hz' : -2147483648 ≤ z' ∧ z' < 2147483648) (h : ¬ (0 ≤ z ∧ z < gk S ∧ 0 ≤ z' ∧ z' < gk S ∧ ¬ z = z')) :
    wpX3_find mk M (iI z) (fun o M_1 => (o = none → wpX3_findOther mk M_1 (iI z) (iI z') (fun o M_3 => (o = none → wpX3_refuse M_3 1 (fun r_6 M_5 => Q r_6 M_5)) ∧ (∀ n_4 : Nat, o = some n_4 → wpX3_refuse M_3 1 (fun r_8 M_7 => Q r_8 M_7)))) ∧ (∀ n_2 : Nat, o = some n_2 → wpX3_findOther mk M_1 (iI z) (iI z') (fun o M_9 => (o = none → wpX3_refuse M_9 1 (fun r_12 M_11 => Q r_12 M_11)) ∧ (∀ n_10 : Nat, o = some n_10 → B n_2 n_10 M_9)))) = Q (iI (-1)) (pI M 0 5 (iI 1)) := by
  have hk := hG.1
  by_cases c : 0 ≤ z ∧ z < gk S
  · obtain ⟨j, rfl⟩ : ∃ j : Nat, z = j := ⟨z.toNat, by omega⟩
    rw [c_find_y hC hG (by omega), o_some, c_fo_n hC hG hz hz' (by omega), o_none]
    simp only [iI_lit, c_refuse]
  · rw [c_find_n hC hG hz c, o_none]
    by_cases c2 : 0 ≤ z' ∧ z' < gk S ∧ ¬ z = z'
    · obtain ⟨j, rfl⟩ : ∃ j : Nat, z' = j := ⟨z'.toNat, by omega⟩
      rw [c_fo_y hC hG hz (by omega) (by omega), o_some]
      simp only [iI_lit, c_refuse]
    · rw [c_fo_n hC hG hz hz' c2, o_none]
      simp only [iI_lit, c_refuse]
theorem c_two_y {mk : Nat} {S : Gs} {M : Mem} {j i : Nat} {A : Mem → Prop} {C : Mem → Prop} {B : Nat → Nat → Mem → Prop} (hC : CS mk S M) (hG : GI S) (hj : j < gk S) (hi : i < gk S) (h : ¬ j = i) :
    wpX3_find mk M (iI j) (fun o M_1 => (o = none → A M_1) ∧ (∀ n_2 : Nat, o = some n_2 → wpX3_findOther mk M_1 (iI j) (iI i) (fun o M_9 => (o = none → C M_9) ∧ (∀ n_10 : Nat, o = some n_10 → B n_2 n_10 M_9)))) = B (100 + 20 * j) (100 + 20 * i) M := by
  have hk := hG.1
  rw [c_find_y hC hG hj, o_some, c_fo_y hC hG (by omega) hi (by omega), o_some]
theorem m_two_n {S : Gs} {M : Mem} {Q : Qi} {z z' : Int} (hM : MS S M) (hG : GI S) (hz : -2147483648 ≤ z ∧ z < 2147483648) (hz' : -2147483648 ≤ z' ∧ z' < 2147483648) (h : ¬ (0 ≤ z ∧ z < gk S ∧ 0 ≤ z' ∧ z' < gk S ∧ ¬ z = z')) : wpX4_areTwo M (iI z) (iI z') Q = Q (iI 0) M := by
  unfold wpX4_areTwo
  by_cases c : 0 ≤ z ∧ z < gk S
  · have e1 := fun Q' : Qi => m_isStream (Q := Q') hM hG hz
    simp only [if_pos c] at e1
    by_cases c2 : 0 ≤ z' ∧ z' < gk S
    · have e2 := fun Q' : Qi => m_isStream (Q := Q') hM hG hz'
      simp only [if_pos c2] at e2
      simp (disch := omega) only [iI_lit, iI_neg, iI_add, iI_sub, iI_mul, iI_lt, iI_le, iI_eq, iI_in, iI_clamp, iI_mx, iI_mn, iI_nI, Int.toNat_natCast, forall_eq, br_1, br_2, br_3, br_4, br_in, br_5, br_6, br_7, br_8, ex_c, br_nl, br_le, br_ne, gp_1, gp_2, gp_3, gf_1, gf_2, e1, e2]
    · simp (disch := omega) only [iI_lit, iI_neg, iI_add, iI_sub, iI_mul, iI_lt, iI_le, iI_eq, iI_in, iI_clamp, iI_mx, iI_mn, iI_nI, Int.toNat_natCast, forall_eq, br_1, br_2, br_3, br_4, br_in, br_5, br_6, br_7, br_8, ex_c, br_nl, br_le, br_ne, gp_1, gp_2, gp_3, gf_1, gf_2, e1, m_isS_n hM hG hz' c2]
  · simp (disch := omega) only [iI_lit, iI_neg, iI_add, iI_sub, iI_mul, iI_lt, iI_le, iI_eq, iI_in, iI_clamp, iI_mx, iI_mn, iI_nI, Int.toNat_natCast, forall_eq, br_1, br_2, br_3, br_4, br_in, br_5, br_6, br_7, br_8, ex_c, br_nl, br_le, br_ne, gp_1, gp_2, gp_3, gf_1, gf_2, m_isS_n hM hG hz c]
theorem m_two_y {S : Gs} {M : Mem} {Q : Qi} {j i : Nat} (hM : MS S M) (hG : GI S) (hj : j < gk S) (hi : i < gk S) (h : ¬ j = i) : wpX4_areTwo M (iI j) (iI i) Q = Q (iI 1) M := by
  have hk := hG.1
  unfold wpX4_areTwo
  simp (disch := omega) only [iI_lit, iI_neg, iI_add, iI_sub, iI_mul, iI_lt, iI_le, iI_eq, iI_in, iI_clamp, iI_mx, iI_mn, iI_nI, Int.toNat_natCast, forall_eq, br_1, br_2, br_3, br_4, br_in, br_5, br_6, br_7, br_8, ex_c, br_nl, br_le, br_ne, gp_1, gp_2, gp_3, gf_1, gf_2, m_isS_y hM hG hj, m_isS_y hM hG hi]
/-- how often two streams' shares stand to each other as w says -/
def mP (v1 l1 d1 v2 l2 d2 : Nat → Int) (n1 n2 : Nat) (N1 N2 sh w : Int) (r : Nat) : Bool := if w = 0 then decide (qv v1 l1 d1 n1 N1 ((r : Int) - 1) sh = qv v2 l2 d2 n2 N2 ((r : Int) - 1) sh) else if w = 1 then decide (qv v1 l1 d1 n1 N1 ((r : Int) - 1) sh < qv v2 l2 d2 n2 N2 ((r : Int) - 1) sh) else decide (qv v2 l2 d2 n2 N2 ((r : Int) - 1) sh < qv v1 l1 d1 n1 N1 ((r : Int) - 1) sh)
theorem l_countMeets {M : Mem} {Q : Qi} {b1 b2 n1 n2 N1 N2 sh : Nat} {v1 l1 d1 v2 l2 d2 : Nat → Int} {w : Int} (hw : 0 ≤ w ∧ w ≤ 2) (hs : 1 ≤ sh ∧ sh ≤ 100) (e1 : gI M b1 2 = iI N1) (e2 : gI M b2 2 = iI N2) (h1 : CR M (b1 + 5) n1 v1 l1 d1) (h2 : CR M (b2 + 5) n2 v2 l2 d2) (hR : RI N1 n1 v1 l1 d1) (hS : RI N2 n2 v2 l2 d2) (p1 : 0 < N1) (p2 : 0 < N2) :
    ∀ f k a c, sh + 1 - k = f → k ≤ sh + 1 → (k ≤ sh → a ≤ ans l1 d1 n1 (qp N1 k sh)) → (k ≤ sh → c ≤ ans l2 d2 n2 (qp N2 k sh)) → (∃ m, wX3_countMeets_12 Q b1 b2 (iI sh) (iI w) m M (iI (fct (mP v1 l1 d1 v2 l2 d2 n1 n2 N1 N2 sh w) k)) (iI (a : Nat)) (iI (c : Nat)) (iI (k : Nat))) = Q (iI (fct (mP v1 l1 d1 v2 l2 d2 n1 n2 N1 N2 sh w) (sh + 1))) M := by
  have hN1 := hR.1
  have hN2 := hS.1
  have hn1 := hR.2.1
  have hn2 := hS.2.1
  intro f
  induction f with
  | zero =>
    intro k a c hf hk ha hc
    have e : k = sh + 1 := by omega
    subst e
    rw [ex_s rfl]
    simp only [wX3_countMeets_12]
    simp (disch := omega) only [iI_lit, iI_neg, iI_add, iI_sub, iI_mul, iI_lt, iI_le, iI_eq, iI_in, iI_clamp, iI_mx, iI_mn, iI_nI, Int.toNat_natCast, forall_eq, br_1, br_2, br_3, br_4, br_in, br_5, br_6, br_7, br_8, ex_c, br_nl, br_le, br_ne, gp_1, gp_2, gp_3, gf_1, gf_2]
  | succ f ih =>
    intro k a c hf hk ha hc
    have q1 := qp_b (N := N1) (k := k) (sh := sh) (by omega) (by omega) (by omega)
    have q2 := qp_b (N := N2) (k := k) (sh := sh) (by omega) (by omega) (by omega)
    have a1 := qa_lt hR p1 k sh
    have a2 := qa_lt hS p2 k sh
    have g1 := (h1.2 _ a1).1
    have g2 := (h2.2 _ a2).1
    have r1 := hR.2.2.2.1 _ a1
    have r2 := hS.2.2.2.1 _ a2
    have m1 := ans_mono hR (hR.pos p1) (qp_m (N := N1) (k := k) (k' := (k + 1 : Nat)) (sh := sh) (by omega) (by omega) (by omega))
    have m2 := ans_mono hS (hS.pos p2) (qp_m (N := N2) (k := k) (k' := (k + 1 : Nat)) (sh := sh) (by omega) (by omega) (by omega))
    have nr1 := fun (Q : Qi) => e_nearest (Q := Q) h1 hR (r := qp N1 k sh) (by omega) (ha (by omega))
    have nr2 := fun (Q : Qi) => e_nearest (Q := Q) h2 hS (r := qp N2 k sh) (by omega) (hc (by omega))
    have this := ih (k + 1) (ans l1 d1 n1 (qp N1 k sh)) (ans l2 d2 n2 (qp N2 k sh)) (by omega) (by omega) (fun _ => m1) (fun _ => m2)
    rw [fct, mP] at this
    simp only [show ((k + 1 : Nat) : Int) - 1 = k by omega] at this
    unfold qv at this
    rw [ex_s rfl]
    simp only [wX3_countMeets_12]
    rcases Int.lt_trichotomy (v1 (ans l1 d1 n1 (qp N1 k sh))) (v2 (ans l2 d2 n2 (qp N2 k sh))) with t | t | t
    · by_cases w1 : w = 1
      · simp (disch := omega) only [iI_lit, iI_neg, iI_add, iI_sub, iI_mul, iI_lt, iI_le, iI_eq, iI_in, iI_clamp, iI_mx, iI_mn, iI_nI, Int.toNat_natCast, forall_eq, br_1, br_2, br_3, br_4, br_in, br_5, br_6, br_7, br_8, ex_c, br_nl, br_le, br_ne, gp_1, gp_2, gp_3, gf_1, gf_2, e_quotaPlace e1 hN1, e_quotaPlace e2 hN2, nr1, nr2, g1, g2]
        simpa [w1, t] using this
      · simp (disch := omega) only [iI_lit, iI_neg, iI_add, iI_sub, iI_mul, iI_lt, iI_le, iI_eq, iI_in, iI_clamp, iI_mx, iI_mn, iI_nI, Int.toNat_natCast, forall_eq, br_1, br_2, br_3, br_4, br_in, br_5, br_6, br_7, br_8, ex_c, br_nl, br_le, br_ne, gp_1, gp_2, gp_3, gf_1, gf_2, e_quotaPlace e1 hN1, e_quotaPlace e2 hN2, nr1, nr2, g1, g2]
        by_cases w0 : w = 0
        · simpa [w0, show ¬ v1 (ans l1 d1 n1 (qp N1 k sh)) = v2 (ans l2 d2 n2 (qp N2 k sh)) by omega] using this
        · simpa [w0, w1, show ¬ v2 (ans l2 d2 n2 (qp N2 k sh)) < v1 (ans l1 d1 n1 (qp N1 k sh)) by omega] using this
    · by_cases w0 : w = 0
      · simp (disch := omega) only [iI_lit, iI_neg, iI_add, iI_sub, iI_mul, iI_lt, iI_le, iI_eq, iI_in, iI_clamp, iI_mx, iI_mn, iI_nI, Int.toNat_natCast, forall_eq, br_1, br_2, br_3, br_4, br_in, br_5, br_6, br_7, br_8, ex_c, br_nl, br_le, br_ne, gp_1, gp_2, gp_3, gf_1, gf_2, e_quotaPlace e1 hN1, e_quotaPlace e2 hN2, nr1, nr2, g1, g2]
        simpa [w0, t] using this
      · simp (disch := omega) only [iI_lit, iI_neg, iI_add, iI_sub, iI_mul, iI_lt, iI_le, iI_eq, iI_in, iI_clamp, iI_mx, iI_mn, iI_nI, Int.toNat_natCast, forall_eq, br_1, br_2, br_3, br_4, br_in, br_5, br_6, br_7, br_8, ex_c, br_nl, br_le, br_ne, gp_1, gp_2, gp_3, gf_1, gf_2, e_quotaPlace e1 hN1, e_quotaPlace e2 hN2, nr1, nr2, g1, g2]
        by_cases w1 : w = 1
        · simpa [w1, t] using this
        · simpa [w0, w1, t] using this
    · by_cases w2 : w = 2
      · simp (disch := omega) only [iI_lit, iI_neg, iI_add, iI_sub, iI_mul, iI_lt, iI_le, iI_eq, iI_in, iI_clamp, iI_mx, iI_mn, iI_nI, Int.toNat_natCast, forall_eq, br_1, br_2, br_3, br_4, br_in, br_5, br_6, br_7, br_8, ex_c, br_nl, br_le, br_ne, gp_1, gp_2, gp_3, gf_1, gf_2, e_quotaPlace e1 hN1, e_quotaPlace e2 hN2, nr1, nr2, g1, g2]
        simpa [w2, t] using this
      · simp (disch := omega) only [iI_lit, iI_neg, iI_add, iI_sub, iI_mul, iI_lt, iI_le, iI_eq, iI_in, iI_clamp, iI_mx, iI_mn, iI_nI, Int.toNat_natCast, forall_eq, br_1, br_2, br_3, br_4, br_in, br_5, br_6, br_7, br_8, ex_c, br_nl, br_le, br_ne, gp_1, gp_2, gp_3, gf_1, gf_2, e_quotaPlace e1 hN1, e_quotaPlace e2 hN2, nr1, nr2, g1, g2]
        by_cases w0 : w = 0
        · simpa [w0, show ¬ v1 (ans l1 d1 n1 (qp N1 k sh)) = v2 (ans l2 d2 n2 (qp N2 k sh)) by omega] using this
        · simpa [show w = 1 by omega, show ¬ v1 (ans l1 d1 n1 (qp N1 k sh)) < v2 (ans l2 d2 n2 (qp N2 k sh)) by omega] using this
theorem e_countMeets {M : Mem} {Q : Qi} {b1 b2 n1 n2 N1 N2 sh : Nat} {v1 l1 d1 v2 l2 d2 : Nat → Int} {w : Int} (hw : 0 ≤ w ∧ w ≤ 2) (hs : 1 ≤ sh ∧ sh ≤ 100) (e1 : gI M b1 2 = iI N1) (e2 : gI M b2 2 = iI N2) (h1 : CR M (b1 + 5) n1 v1 l1 d1) (h2 : CR M (b2 + 5) n2 v2 l2 d2) (hR : RI N1 n1 v1 l1 d1) (hS : RI N2 n2 v2 l2 d2) (p1 : 0 < N1) (p2 : 0 < N2) : wpX3_countMeets M b1 b2 (iI sh) (iI w) Q = Q (iI (fct (mP v1 l1 d1 v2 l2 d2 n1 n2 N1 N2 sh w) (sh + 1))) M := by
  unfold wpX3_countMeets
  have := l_countMeets (Q := Q) hw hs e1 e2 h1 h2 hR hS p1 p2 (sh + 1) 0 0 0 rfl (by omega) (fun _ => Nat.zero_le _) (fun _ => Nat.zero_le _)
  rw [show fct (mP v1 l1 d1 v2 l2 d2 n1 n2 N1 N2 sh w) 0 = 0 from rfl, Int.natCast_zero] at this
  simp (disch := omega) only [iI_lit, iI_neg, iI_add, iI_sub, iI_mul, iI_lt, iI_le, iI_eq, iI_in, iI_clamp, iI_mx, iI_mn, iI_nI, Int.toNat_natCast, forall_eq]
  exact this
