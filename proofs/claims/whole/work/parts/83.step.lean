theorem l_mskip {B : Nat → Int} {n p q : Nat} {M : Mem} {Q : Mem → Prop} (hB : BI B n) (hb : BM B n M) (h1 : ∀ i, p ≤ i → i < q → B i = 32) (hq : q ≤ n) (hQ : ∀ M', S2 M M' → gI M' 200 6 = iI q → wX4_goOn_8 Q 1 M') :
    ∀ f i M1, q - i = f → p ≤ i → i ≤ q → S2 M M1 → gI M1 200 6 = iI i → ∃ m, wX4_goOn_8 Q m M1 := by
  have hn := hB.1
  intro f
  induction f with
  | zero =>
    intro i M1 hf hp hi hS h4
    have e : i = q := by omega
    subst e
    exact ⟨1, hQ M1 hS h4⟩
  | succ f ih =>
    intro i M1 hf hp hi hS h4
    have hb1 := hb.s hS
    have b1 := h1 i hp (by omega)
    have := ih (i + 1) (pI M1 200 6 (iI ((i : Int) + 1))) (by omega) (by omega) (by omega) (hS.p (by omega)) gp_1
    rw [ex_s rfl]
    simp only [wX4_goOn_8]
    simp (disch := omega) only [iI_lit, iI_neg, iI_add, iI_sub, iI_mul, iI_lt, iI_le, iI_eq, iI_in, iI_clamp, iI_mx, iI_mn, iI_nI, Int.toNat_natCast, forall_eq, br_1, br_2, br_3, br_4, br_in, br_5, br_6, br_7, br_8, ex_c, br_nl, br_le, br_ne, gp_1, gp_2, gp_3, gf_1, gf_2, h4, m_byte_y hB hb1 (show i < n by omega), b1]
    exact this
/-- a step over one token, on both sides -/
def StepC (B : Nat → Int) (n p : Nat) (t : Tk) : Prop := ∀ (M : Mem) (Q : Mem → Prop), BC B n M → gI M 1 5 = iI p → (∀ M', S1 M M' → TC B t M' → Q M') → wpX2_step M Q
def StepM (B : Nat → Int) (n p : Nat) (t : Tk) : Prop := ∀ (M : Mem) (Q : Mem → Prop), BM B n M → gI M 200 6 = iI p → (∀ M', S2 M M' → TM B t M' → Q M') → wpX4_goOn M Q
theorem sim_c {B : Nat → Int} {n p q : Nat} {t : Tk} (hB : BI B n) (hpq : p ≤ q) (h1 : ∀ i, p ≤ i → i < q → B i = 32) (hq : q ≤ n) (h2 : q < n → ¬ B q = 32)
    (h : ∀ (M M' : Mem) (Q : Mem → Prop), BC B n M' → gI M' 1 4 = iI q → (∀ M2, S1 M' M2 → TC B t M2 → Q M2) → wX2_step_46 Q M') : StepC B n p t := by
  intro M Q hb h5 hQ
  unfold wpX2_step
  rw [forall_eq]
  exact l_skip hB hb h1 hq h2 (fun M' hS h4 => h M M' Q (hb.s hS) h4 (fun M2 hS2 hT => hQ M2 (hS.t hS2) hT)) (q - p) p _ rfl (Nat.le_refl p) hpq (S1.p (S1.r _) (by omega)) (by rw [gp_1]; exact h5)
theorem sim_m {B : Nat → Int} {n p q : Nat} {t : Tk} (hB : BI B n) (hpq : p ≤ q) (h1 : ∀ i, p ≤ i → i < q → B i = 32) (hq : q ≤ n)
    (h : ∀ (M' : Mem) (Q : Mem → Prop), BM B n M' → gI M' 200 6 = iI q → (∀ M2, S2 M' M2 → TM B t M2 → Q M2) → wX4_goOn_8 Q 1 M') : StepM B n p t := by
  intro M Q hb h5 hQ
  unfold wpX4_goOn
  simp (disch := omega) only [iI_lit, iI_neg, iI_add, iI_sub, iI_mul, iI_lt, iI_le, iI_eq, iI_in, iI_clamp, iI_mx, iI_mn, iI_nI, Int.toNat_natCast, forall_eq, br_1, br_2, br_3, br_4, br_in, br_5, br_6, br_7, br_8, ex_c, br_nl, br_le, br_ne, gp_1, gp_2, gp_3, gf_1, gf_2, hb.2.1]
  exact l_mskip hB hb h1 hq (fun M' hS h4 => h M' Q (hb.s hS) h4 (fun M2 hS2 hT => hQ M2 (hS.t hS2) hT)) (q - p) p _ rfl (Nat.le_refl p) hpq (S2.r _) h5
theorem sim_step {B : Nat → Int} {n p : Nat} (hB : BI B n) (hp : p ≤ n) : ∃ t, TI B n p t ∧ StepC B n p t ∧ StepM B n p t := by
  have hn := hB.1
  obtain ⟨q, hpq, hq, h1, h2⟩ := run_ex (fun i => B i = 32) n (n - p) p rfl hp
  by_cases c0 : q < n
  · have bq := hB.2 q c0
    have nsp := h2 c0
    by_cases c1 : B q = 59
    · refine ⟨(4, q, q + 1, 0), ⟨by show 4 ≤ 4; omega, hpq, hq, fun _ => ⟨by show q ≤ q + 1; omega, by show q + 1 ≤ n; omega⟩, fun z => absurd z (by simp), fun z => absurd z (by simp), fun _ => rfl⟩, sim_c hB hpq h1 hq h2 (fun M M' Q hb h4 hQ => ?_), sim_m hB hpq h1 hq (fun M' Q hb h4 hQ => ?_)⟩
      · unfold wX2_step_46
        simp (disch := omega) only [iI_lit, iI_neg, iI_add, iI_sub, iI_mul, iI_lt, iI_le, iI_eq, iI_in, iI_clamp, iI_mx, iI_mn, iI_nI, Int.toNat_natCast, forall_eq, br_1, br_2, br_3, br_4, br_in, br_5, br_6, br_7, br_8, ex_c, br_nl, br_le, br_ne, gp_1, gp_2, gp_3, gf_1, gf_2, h4, hb.1, hb.2 q c0, c1]
        exact hQ _ ((((S1.r _).p (by omega)).p (by omega)).p (by omega) |>.p (by omega)) ⟨by simp (disch := omega) only [iI_lit, iI_neg, iI_add, iI_sub, iI_mul, iI_lt, iI_le, iI_eq, iI_in, iI_clamp, iI_mx, iI_mn, iI_nI, Int.toNat_natCast, forall_eq, br_1, br_2, br_3, br_4, br_in, br_5, br_6, br_7, br_8, ex_c, br_nl, br_le, br_ne, gp_1, gp_2, gp_3, gf_1, gf_2]; rfl, by simp (disch := omega) only [iI_lit, iI_neg, iI_add, iI_sub, iI_mul, iI_lt, iI_le, iI_eq, iI_in, iI_clamp, iI_mx, iI_mn, iI_nI, Int.toNat_natCast, forall_eq, br_1, br_2, br_3, br_4, br_in, br_5, br_6, br_7, br_8, ex_c, br_nl, br_le, br_ne, gp_1, gp_2, gp_3, gf_1, gf_2, h4], fun _ => by simp (disch := omega) only [iI_lit, iI_neg, iI_add, iI_sub, iI_mul, iI_lt, iI_le, iI_eq, iI_in, iI_clamp, iI_mx, iI_mn, iI_nI, Int.toNat_natCast, forall_eq, br_1, br_2, br_3, br_4, br_in, br_5, br_6, br_7, br_8, ex_c, br_nl, br_le, br_ne, gp_1, gp_2, gp_3, gf_1, gf_2]; rfl, fun z => absurd z (by simp), fun z => absurd z (by simp)⟩
      · simp only [wX4_goOn_8]
        have hb2 := hb.s (S2.p (k := 8) (x := iI q) (S2.r M') (by omega))
        simp (disch := omega) only [iI_lit, iI_neg, iI_add, iI_sub, iI_mul, iI_lt, iI_le, iI_eq, iI_in, iI_clamp, iI_mx, iI_mn, iI_nI, Int.toNat_natCast, forall_eq, br_1, br_2, br_3, br_4, br_in, br_5, br_6, br_7, br_8, ex_c, br_nl, br_le, br_ne, gp_1, gp_2, gp_3, gf_1, gf_2, h4, m_byte_y hB hb c0, m_byte_y hB hb2 c0, m_in_n, c1]
        exact hQ _ ((((S2.r _).p (by omega)).p (by omega)).p (by omega)) ⟨by simp (disch := omega) only [iI_lit, iI_neg, iI_add, iI_sub, iI_mul, iI_lt, iI_le, iI_eq, iI_in, iI_clamp, iI_mx, iI_mn, iI_nI, Int.toNat_natCast, forall_eq, br_1, br_2, br_3, br_4, br_in, br_5, br_6, br_7, br_8, ex_c, br_nl, br_le, br_ne, gp_1, gp_2, gp_3, gf_1, gf_2]; rfl, by simp (disch := omega) only [iI_lit, iI_neg, iI_add, iI_sub, iI_mul, iI_lt, iI_le, iI_eq, iI_in, iI_clamp, iI_mx, iI_mn, iI_nI, Int.toNat_natCast, forall_eq, br_1, br_2, br_3, br_4, br_in, br_5, br_6, br_7, br_8, ex_c, br_nl, br_le, br_ne, gp_1, gp_2, gp_3, gf_1, gf_2], fun _ => by simp (disch := omega) only [iI_lit, iI_neg, iI_add, iI_sub, iI_mul, iI_lt, iI_le, iI_eq, iI_in, iI_clamp, iI_mx, iI_mn, iI_nI, Int.toNat_natCast, forall_eq, br_1, br_2, br_3, br_4, br_in, br_5, br_6, br_7, br_8, ex_c, br_nl, br_le, br_ne, gp_1, gp_2, gp_3, gf_1, gf_2]; rfl, fun z => absurd z (by simp), fun z => absurd z (by simp)⟩
    · by_cases c2 : 97 ≤ B q ∧ B q ≤ 122
      · obtain ⟨e, hqe, he, e1, e2⟩ := run_ex (fun i => 97 ≤ B i ∧ B i ≤ 122) n (n - q) q rfl hq
        have hlt : q < e := by
          rcases Nat.lt_or_ge q e with z | z
          · exact z
          · have : e = q := by omega
            subst this
            exact absurd c2 (e2 c0)
        by_cases c3 : 6 < e - q
        · refine ⟨(1, q, q, 0), ⟨by show 1 ≤ 4; omega, hpq, hq, fun z => absurd rfl z, fun z => absurd z (by simp), fun z => absurd z (by simp), fun z => absurd z (by simp)⟩, sim_c hB hpq h1 hq h2 (fun M M' Q hb h4 hQ => ?_), sim_m hB hpq h1 hq (fun M' Q hb h4 hQ => ?_)⟩
          · unfold wX2_step_46
            simp (disch := omega) only [iI_lit, iI_neg, iI_add, iI_sub, iI_mul, iI_lt, iI_le, iI_eq, iI_in, iI_clamp, iI_mx, iI_mn, iI_nI, Int.toNat_natCast, forall_eq, br_1, br_2, br_3, br_4, br_in, br_5, br_6, br_7, br_8, ex_c, br_nl, br_le, br_ne, gp_1, gp_2, gp_3, gf_1, gf_2, h4, hb.1, hb.2 q c0, e_isL_y c2]
            unfold wpX2_stepOverWord
            have hS0 : S1 M' (pI (pI M' 1 5 (iI q)) 1 6 (iI 0)) := ((S1.r _).p (by omega)).p (by omega)
            refine l_word hB (hb.s hS0) e1 he hqe e2 (fun M2 hS k3 k4 k5 k6 => hQ M2 (hS0.t hS) ⟨?_, k4, fun z => absurd rfl z, fun z => absurd z (by simp), fun z => absurd z (by simp)⟩) (e - q) q _ rfl (Nat.le_refl q) hqe (S1.r _) (by simp (disch := omega) only [iI_lit, iI_neg, iI_add, iI_sub, iI_mul, iI_lt, iI_le, iI_eq, iI_in, iI_clamp, iI_mx, iI_mn, iI_nI, Int.toNat_natCast, forall_eq, br_1, br_2, br_3, br_4, br_in, br_5, br_6, br_7, br_8, ex_c, br_nl, br_le, br_ne, gp_1, gp_2, gp_3, gf_1, gf_2, h4]) (by simp (disch := omega) only [iI_lit, iI_neg, iI_add, iI_sub, iI_mul, iI_lt, iI_le, iI_eq, iI_in, iI_clamp, iI_mx, iI_mn, iI_nI, Int.toNat_natCast, forall_eq, br_1, br_2, br_3, br_4, br_in, br_5, br_6, br_7, br_8, ex_c, br_nl, br_le, br_ne, gp_1, gp_2, gp_3, gf_1, gf_2]) (by simp (disch := omega) only [iI_lit, iI_neg, iI_add, iI_sub, iI_mul, iI_lt, iI_le, iI_eq, iI_in, iI_clamp, iI_mx, iI_mn, iI_nI, Int.toNat_natCast, forall_eq, br_1, br_2, br_3, br_4, br_in, br_5, br_6, br_7, br_8, ex_c, br_nl, br_le, br_ne, gp_1, gp_2, gp_3, gf_1, gf_2]; rw [Nat.sub_self]; rfl)
            rw [k3, if_pos c3]
            rfl
          · simp only [wX4_goOn_8]
            have hS0 : S2 M' (pI M' 200 8 (iI q)) := S2.p (S2.r M') (by omega)
            have hb2 := hb.s hS0
            simp (disch := omega) only [iI_lit, iI_neg, iI_add, iI_sub, iI_mul, iI_lt, iI_le, iI_eq, iI_in, iI_clamp, iI_mx, iI_mn, iI_nI, Int.toNat_natCast, forall_eq, br_1, br_2, br_3, br_4, br_in, br_5, br_6, br_7, br_8, ex_c, br_nl, br_le, br_ne, gp_1, gp_2, gp_3, gf_1, gf_2, h4, m_byte_y hB hb c0, m_byte_y hB hb2 c0, m_in_y]
            unfold wpX4_goWord
            rw [forall_eq]
            refine l_mword hB hb2 e1 he hqe e2 (fun M2 hS k3 k4 k5 k6 => hQ M2 (hS0.t hS) ⟨?_, k4, fun z => absurd rfl z, fun z => absurd z (by simp), fun z => absurd z (by simp)⟩) (e - q) q _ rfl (Nat.le_refl q) hqe (S2.l (S2.r _)) (by simp (disch := omega) only [iI_lit, iI_neg, iI_add, iI_sub, iI_mul, iI_lt, iI_le, iI_eq, iI_in, iI_clamp, iI_mx, iI_mn, iI_nI, Int.toNat_natCast, forall_eq, br_1, br_2, br_3, br_4, br_in, br_5, br_6, br_7, br_8, ex_c, br_nl, br_le, br_ne, gp_1, gp_2, gp_3, gf_1, gf_2, gI_pL]) (by simp (disch := omega) only [iI_lit, iI_neg, iI_add, iI_sub, iI_mul, iI_lt, iI_le, iI_eq, iI_in, iI_clamp, iI_mx, iI_mn, iI_nI, Int.toNat_natCast, forall_eq, br_1, br_2, br_3, br_4, br_in, br_5, br_6, br_7, br_8, ex_c, br_nl, br_le, br_ne, gp_1, gp_2, gp_3, gf_1, gf_2, gI_pL, h4]) (fun _ => by rw [gL_pL, if_pos ⟨rfl, rfl⟩, Nat.sub_self]; rfl)
            rw [k3, if_pos c3]
            rfl
        · have hl : lt B q (e - q) := fun j hj => e1 (q + j) (by omega) (by omega)
          refine ⟨(2, q, e, 0), ⟨by show 2 ≤ 4; omega, hpq, hq, fun _ => ⟨hqe, he⟩, fun _ => ⟨hlt, by show e ≤ q + 6; omega, hl⟩, fun z => absurd z (by simp), fun z => absurd z (by simp)⟩, sim_c hB hpq h1 hq h2 (fun M M' Q hb h4 hQ => ?_), sim_m hB hpq h1 hq (fun M' Q hb h4 hQ => ?_)⟩
          · unfold wX2_step_46
            simp (disch := omega) only [iI_lit, iI_neg, iI_add, iI_sub, iI_mul, iI_lt, iI_le, iI_eq, iI_in, iI_clamp, iI_mx, iI_mn, iI_nI, Int.toNat_natCast, forall_eq, br_1, br_2, br_3, br_4, br_in, br_5, br_6, br_7, br_8, ex_c, br_nl, br_le, br_ne, gp_1, gp_2, gp_3, gf_1, gf_2, h4, hb.1, hb.2 q c0, e_isL_y c2]
            unfold wpX2_stepOverWord
            have hS0 : S1 M' (pI (pI M' 1 5 (iI q)) 1 6 (iI 0)) := ((S1.r _).p (by omega)).p (by omega)
            refine l_word hB (hb.s hS0) e1 he hqe e2 (fun M2 hS k3 k4 k5 k6 => hQ M2 (hS0.t hS) ⟨?_, k4, fun _ => k5, fun _ => k6, fun z => absurd z (by simp)⟩) (e - q) q _ rfl (Nat.le_refl q) hqe (S1.r _) (by simp (disch := omega) only [iI_lit, iI_neg, iI_add, iI_sub, iI_mul, iI_lt, iI_le, iI_eq, iI_in, iI_clamp, iI_mx, iI_mn, iI_nI, Int.toNat_natCast, forall_eq, br_1, br_2, br_3, br_4, br_in, br_5, br_6, br_7, br_8, ex_c, br_nl, br_le, br_ne, gp_1, gp_2, gp_3, gf_1, gf_2, h4]) (by simp (disch := omega) only [iI_lit, iI_neg, iI_add, iI_sub, iI_mul, iI_lt, iI_le, iI_eq, iI_in, iI_clamp, iI_mx, iI_mn, iI_nI, Int.toNat_natCast, forall_eq, br_1, br_2, br_3, br_4, br_in, br_5, br_6, br_7, br_8, ex_c, br_nl, br_le, br_ne, gp_1, gp_2, gp_3, gf_1, gf_2]) (by simp (disch := omega) only [iI_lit, iI_neg, iI_add, iI_sub, iI_mul, iI_lt, iI_le, iI_eq, iI_in, iI_clamp, iI_mx, iI_mn, iI_nI, Int.toNat_natCast, forall_eq, br_1, br_2, br_3, br_4, br_in, br_5, br_6, br_7, br_8, ex_c, br_nl, br_le, br_ne, gp_1, gp_2, gp_3, gf_1, gf_2]; rw [Nat.sub_self]; rfl)
            rw [k3, if_neg c3]
            rfl
          · simp only [wX4_goOn_8]
            have hS0 : S2 M' (pI M' 200 8 (iI q)) := S2.p (S2.r M') (by omega)
            have hb2 := hb.s hS0
            simp (disch := omega) only [iI_lit, iI_neg, iI_add, iI_sub, iI_mul, iI_lt, iI_le, iI_eq, iI_in, iI_clamp, iI_mx, iI_mn, iI_nI, Int.toNat_natCast, forall_eq, br_1, br_2, br_3, br_4, br_in, br_5, br_6, br_7, br_8, ex_c, br_nl, br_le, br_ne, gp_1, gp_2, gp_3, gf_1, gf_2, h4, m_byte_y hB hb c0, m_byte_y hB hb2 c0, m_in_y]
            unfold wpX4_goWord
            rw [forall_eq]
            refine l_mword hB hb2 e1 he hqe e2 (fun M2 hS k3 k4 k5 k6 => hQ M2 (hS0.t hS) ⟨?_, k4, fun _ => k5, fun _ => k6 (by omega), fun z => absurd z (by simp)⟩) (e - q) q _ rfl (Nat.le_refl q) hqe (S2.l (S2.r _)) (by simp (disch := omega) only [iI_lit, iI_neg, iI_add, iI_sub, iI_mul, iI_lt, iI_le, iI_eq, iI_in, iI_clamp, iI_mx, iI_mn, iI_nI, Int.toNat_natCast, forall_eq, br_1, br_2, br_3, br_4, br_in, br_5, br_6, br_7, br_8, ex_c, br_nl, br_le, br_ne, gp_1, gp_2, gp_3, gf_1, gf_2, gI_pL]) (by simp (disch := omega) only [iI_lit, iI_neg, iI_add, iI_sub, iI_mul, iI_lt, iI_le, iI_eq, iI_in, iI_clamp, iI_mx, iI_mn, iI_nI, Int.toNat_natCast, forall_eq, br_1, br_2, br_3, br_4, br_in, br_5, br_6, br_7, br_8, ex_c, br_nl, br_le, br_ne, gp_1, gp_2, gp_3, gf_1, gf_2, gI_pL, h4]) (fun _ => by rw [gL_pL, if_pos ⟨rfl, rfl⟩, Nat.sub_self]; rfl)
            rw [k3, if_neg c3]
            rfl
      · by_cases c4 : 48 ≤ B q ∧ B q ≤ 57
        · obtain ⟨e, hqe, he, e1, e2⟩ := run_ex (fun i => 48 ≤ B i ∧ B i ≤ 57) n (n - q) q rfl hq
          have hlt : q < e := by
            rcases Nat.lt_or_ge q e with z | z
            · exact z
            · have : e = q := by omega
              subst this
              exact absurd c4 (e2 c0)
          by_cases c3 : 3 < e - q
          · refine ⟨(1, q, q, 0), ⟨by show 1 ≤ 4; omega, hpq, hq, fun z => absurd rfl z, fun z => absurd z (by simp), fun z => absurd z (by simp), fun z => absurd z (by simp)⟩, sim_c hB hpq h1 hq h2 (fun M M' Q hb h4 hQ => ?_), sim_m hB hpq h1 hq (fun M' Q hb h4 hQ => ?_)⟩
            · unfold wX2_step_46
              simp (disch := omega) only [iI_lit, iI_neg, iI_add, iI_sub, iI_mul, iI_lt, iI_le, iI_eq, iI_in, iI_clamp, iI_mx, iI_mn, iI_nI, Int.toNat_natCast, forall_eq, br_1, br_2, br_3, br_4, br_in, br_5, br_6, br_7, br_8, ex_c, br_nl, br_le, br_ne, gp_1, gp_2, gp_3, gf_1, gf_2, h4, hb.1, hb.2 q c0, e_isL_n c2, e_isD_y c4]
              unfold wpX2_stepOverWhole
              have hS0 : S1 M' (pI (pI M' 1 5 (iI q)) 1 6 (iI 0)) := ((S1.r _).p (by omega)).p (by omega)
              refine l_whole hB (hb.s hS0) e1 he hqe e2 (fun M2 hS k3 k4 k5 k6 => hQ M2 (hS0.t hS) ⟨?_, k4, fun z => absurd rfl z, fun z => absurd z (by simp), fun z => absurd z (by simp)⟩) (e - q) q _ rfl (Nat.le_refl q) hqe (S1.r _) (by simp (disch := omega) only [iI_lit, iI_neg, iI_add, iI_sub, iI_mul, iI_lt, iI_le, iI_eq, iI_in, iI_clamp, iI_mx, iI_mn, iI_nI, Int.toNat_natCast, forall_eq, br_1, br_2, br_3, br_4, br_in, br_5, br_6, br_7, br_8, ex_c, br_nl, br_le, br_ne, gp_1, gp_2, gp_3, gf_1, gf_2, h4]) (by simp (disch := omega) only [iI_lit, iI_neg, iI_add, iI_sub, iI_mul, iI_lt, iI_le, iI_eq, iI_in, iI_clamp, iI_mx, iI_mn, iI_nI, Int.toNat_natCast, forall_eq, br_1, br_2, br_3, br_4, br_in, br_5, br_6, br_7, br_8, ex_c, br_nl, br_le, br_ne, gp_1, gp_2, gp_3, gf_1, gf_2]) (by simp (disch := omega) only [iI_lit, iI_neg, iI_add, iI_sub, iI_mul, iI_lt, iI_le, iI_eq, iI_in, iI_clamp, iI_mx, iI_mn, iI_nI, Int.toNat_natCast, forall_eq, br_1, br_2, br_3, br_4, br_in, br_5, br_6, br_7, br_8, ex_c, br_nl, br_le, br_ne, gp_1, gp_2, gp_3, gf_1, gf_2]; rw [Nat.sub_self]; rfl)
              rw [k3, if_pos c3]
              rfl
            · simp only [wX4_goOn_8]
              have hS0 : S2 M' (pI M' 200 8 (iI q)) := S2.p (S2.r M') (by omega)
              have hb2 := hb.s hS0
              simp (disch := omega) only [iI_lit, iI_neg, iI_add, iI_sub, iI_mul, iI_lt, iI_le, iI_eq, iI_in, iI_clamp, iI_mx, iI_mn, iI_nI, Int.toNat_natCast, forall_eq, br_1, br_2, br_3, br_4, br_in, br_5, br_6, br_7, br_8, ex_c, br_nl, br_le, br_ne, gp_1, gp_2, gp_3, gf_1, gf_2, h4, m_byte_y hB hb c0, m_byte_y hB hb2 c0, m_in_n c2, m_in_y]
              unfold wpX4_goWhole
              rw [forall_eq]
              refine l_mwhole hB hb2 e1 he hqe e2 (fun M2 hS k3 k4 k5 k6 => hQ M2 (hS0.t hS) ⟨?_, k4, fun z => absurd rfl z, fun z => absurd z (by simp), fun z => absurd z (by simp)⟩) (e - q) q _ rfl (Nat.le_refl q) hqe (S2.p (S2.r _) (by omega)) (by simp (disch := omega) only [iI_lit, iI_neg, iI_add, iI_sub, iI_mul, iI_lt, iI_le, iI_eq, iI_in, iI_clamp, iI_mx, iI_mn, iI_nI, Int.toNat_natCast, forall_eq, br_1, br_2, br_3, br_4, br_in, br_5, br_6, br_7, br_8, ex_c, br_nl, br_le, br_ne, gp_1, gp_2, gp_3, gf_1, gf_2]) (by simp (disch := omega) only [iI_lit, iI_neg, iI_add, iI_sub, iI_mul, iI_lt, iI_le, iI_eq, iI_in, iI_clamp, iI_mx, iI_mn, iI_nI, Int.toNat_natCast, forall_eq, br_1, br_2, br_3, br_4, br_in, br_5, br_6, br_7, br_8, ex_c, br_nl, br_le, br_ne, gp_1, gp_2, gp_3, gf_1, gf_2, h4]) (fun _ => by rw [gp_1, Nat.sub_self]; rfl)
              rw [k3, if_pos c3]
              rfl
          · have hu := fo_up (b := 10) (o := 48) (B := B) (q := q) (by omega) (e - q) (fun i hi => by
              have := e1 (q + i) (by omega) (by omega)
              omega)
            have hu2 : fo 10 48 B q (e - q) ≤ 999 := by
              rcases (show e - q = 1 ∨ e - q = 2 ∨ e - q = 3 by omega) with z | z | z <;> rw [z] at hu ⊢ <;> simp only [Int.reducePow] at hu <;> omega
            refine ⟨(3, q, e, fo 10 48 B q (e - q)), ⟨by show 3 ≤ 4; omega, hpq, hq, fun _ => ⟨hqe, he⟩, fun z => absurd z (by simp), fun _ => ⟨hlt, c4, e2, hu.1, hu2⟩, fun z => absurd z (by simp)⟩, sim_c hB hpq h1 hq h2 (fun M M' Q hb h4 hQ => ?_), sim_m hB hpq h1 hq (fun M' Q hb h4 hQ => ?_)⟩
            · unfold wX2_step_46
              simp (disch := omega) only [iI_lit, iI_neg, iI_add, iI_sub, iI_mul, iI_lt, iI_le, iI_eq, iI_in, iI_clamp, iI_mx, iI_mn, iI_nI, Int.toNat_natCast, forall_eq, br_1, br_2, br_3, br_4, br_in, br_5, br_6, br_7, br_8, ex_c, br_nl, br_le, br_ne, gp_1, gp_2, gp_3, gf_1, gf_2, h4, hb.1, hb.2 q c0, e_isL_n c2, e_isD_y c4]
              unfold wpX2_stepOverWhole
              have hS0 : S1 M' (pI (pI M' 1 5 (iI q)) 1 6 (iI 0)) := ((S1.r _).p (by omega)).p (by omega)
              refine l_whole hB (hb.s hS0) e1 he hqe e2 (fun M2 hS k3 k4 k5 k6 => hQ M2 (hS0.t hS) ⟨?_, k4, fun _ => k5, fun z => absurd z (by simp), fun _ => k6⟩) (e - q) q _ rfl (Nat.le_refl q) hqe (S1.r _) (by simp (disch := omega) only [iI_lit, iI_neg, iI_add, iI_sub, iI_mul, iI_lt, iI_le, iI_eq, iI_in, iI_clamp, iI_mx, iI_mn, iI_nI, Int.toNat_natCast, forall_eq, br_1, br_2, br_3, br_4, br_in, br_5, br_6, br_7, br_8, ex_c, br_nl, br_le, br_ne, gp_1, gp_2, gp_3, gf_1, gf_2, h4]) (by simp (disch := omega) only [iI_lit, iI_neg, iI_add, iI_sub, iI_mul, iI_lt, iI_le, iI_eq, iI_in, iI_clamp, iI_mx, iI_mn, iI_nI, Int.toNat_natCast, forall_eq, br_1, br_2, br_3, br_4, br_in, br_5, br_6, br_7, br_8, ex_c, br_nl, br_le, br_ne, gp_1, gp_2, gp_3, gf_1, gf_2]) (by simp (disch := omega) only [iI_lit, iI_neg, iI_add, iI_sub, iI_mul, iI_lt, iI_le, iI_eq, iI_in, iI_clamp, iI_mx, iI_mn, iI_nI, Int.toNat_natCast, forall_eq, br_1, br_2, br_3, br_4, br_in, br_5, br_6, br_7, br_8, ex_c, br_nl, br_le, br_ne, gp_1, gp_2, gp_3, gf_1, gf_2]; rw [Nat.sub_self]; rfl)
              rw [k3, if_neg c3]
              rfl
            · simp only [wX4_goOn_8]
              have hS0 : S2 M' (pI M' 200 8 (iI q)) := S2.p (S2.r M') (by omega)
              have hb2 := hb.s hS0
              simp (disch := omega) only [iI_lit, iI_neg, iI_add, iI_sub, iI_mul, iI_lt, iI_le, iI_eq, iI_in, iI_clamp, iI_mx, iI_mn, iI_nI, Int.toNat_natCast, forall_eq, br_1, br_2, br_3, br_4, br_in, br_5, br_6, br_7, br_8, ex_c, br_nl, br_le, br_ne, gp_1, gp_2, gp_3, gf_1, gf_2, h4, m_byte_y hB hb c0, m_byte_y hB hb2 c0, m_in_n c2, m_in_y]
              unfold wpX4_goWhole
              rw [forall_eq]
              refine l_mwhole hB hb2 e1 he hqe e2 (fun M2 hS k3 k4 k5 k6 => hQ M2 (hS0.t hS) ⟨?_, k4, fun _ => k5, fun z => absurd z (by simp), fun _ => k6 (by omega)⟩) (e - q) q _ rfl (Nat.le_refl q) hqe (S2.p (S2.r _) (by omega)) (by simp (disch := omega) only [iI_lit, iI_neg, iI_add, iI_sub, iI_mul, iI_lt, iI_le, iI_eq, iI_in, iI_clamp, iI_mx, iI_mn, iI_nI, Int.toNat_natCast, forall_eq, br_1, br_2, br_3, br_4, br_in, br_5, br_6, br_7, br_8, ex_c, br_nl, br_le, br_ne, gp_1, gp_2, gp_3, gf_1, gf_2]) (by simp (disch := omega) only [iI_lit, iI_neg, iI_add, iI_sub, iI_mul, iI_lt, iI_le, iI_eq, iI_in, iI_clamp, iI_mx, iI_mn, iI_nI, Int.toNat_natCast, forall_eq, br_1, br_2, br_3, br_4, br_in, br_5, br_6, br_7, br_8, ex_c, br_nl, br_le, br_ne, gp_1, gp_2, gp_3, gf_1, gf_2, h4]) (fun _ => by rw [gp_1, Nat.sub_self]; rfl)
              rw [k3, if_neg c3]
              rfl
        · refine ⟨(1, q, q, 0), ⟨by show 1 ≤ 4; omega, hpq, hq, fun z => absurd rfl z, fun z => absurd z (by simp), fun z => absurd z (by simp), fun z => absurd z (by simp)⟩, sim_c hB hpq h1 hq h2 (fun M M' Q hb h4 hQ => ?_), sim_m hB hpq h1 hq (fun M' Q hb h4 hQ => ?_)⟩
          · unfold wX2_step_46
            simp (disch := omega) only [iI_lit, iI_neg, iI_add, iI_sub, iI_mul, iI_lt, iI_le, iI_eq, iI_in, iI_clamp, iI_mx, iI_mn, iI_nI, Int.toNat_natCast, forall_eq, br_1, br_2, br_3, br_4, br_in, br_5, br_6, br_7, br_8, ex_c, br_nl, br_le, br_ne, gp_1, gp_2, gp_3, gf_1, gf_2, h4, hb.1, hb.2 q c0, e_isL_n c2, e_isD_n c4]
            exact hQ _ ((((S1.r _).p (by omega)).p (by omega)).p (by omega)) ⟨by simp (disch := omega) only [iI_lit, iI_neg, iI_add, iI_sub, iI_mul, iI_lt, iI_le, iI_eq, iI_in, iI_clamp, iI_mx, iI_mn, iI_nI, Int.toNat_natCast, forall_eq, br_1, br_2, br_3, br_4, br_in, br_5, br_6, br_7, br_8, ex_c, br_nl, br_le, br_ne, gp_1, gp_2, gp_3, gf_1, gf_2]; rfl, by simp (disch := omega) only [iI_lit, iI_neg, iI_add, iI_sub, iI_mul, iI_lt, iI_le, iI_eq, iI_in, iI_clamp, iI_mx, iI_mn, iI_nI, Int.toNat_natCast, forall_eq, br_1, br_2, br_3, br_4, br_in, br_5, br_6, br_7, br_8, ex_c, br_nl, br_le, br_ne, gp_1, gp_2, gp_3, gf_1, gf_2, h4], fun z => absurd rfl z, fun z => absurd z (by simp), fun z => absurd z (by simp)⟩
          · simp only [wX4_goOn_8]
            have hb2 := hb.s (S2.p (k := 8) (x := iI q) (S2.r M') (by omega))
            simp (disch := omega) only [iI_lit, iI_neg, iI_add, iI_sub, iI_mul, iI_lt, iI_le, iI_eq, iI_in, iI_clamp, iI_mx, iI_mn, iI_nI, Int.toNat_natCast, forall_eq, br_1, br_2, br_3, br_4, br_in, br_5, br_6, br_7, br_8, ex_c, br_nl, br_le, br_ne, gp_1, gp_2, gp_3, gf_1, gf_2, h4, m_byte_y hB hb c0, m_byte_y hB hb2 c0, m_in_n c2, m_in_n c4]
            exact hQ _ ((((S2.r _).p (by omega)).p (by omega)).p (by omega)) ⟨by simp (disch := omega) only [iI_lit, iI_neg, iI_add, iI_sub, iI_mul, iI_lt, iI_le, iI_eq, iI_in, iI_clamp, iI_mx, iI_mn, iI_nI, Int.toNat_natCast, forall_eq, br_1, br_2, br_3, br_4, br_in, br_5, br_6, br_7, br_8, ex_c, br_nl, br_le, br_ne, gp_1, gp_2, gp_3, gf_1, gf_2]; rfl, by simp (disch := omega) only [iI_lit, iI_neg, iI_add, iI_sub, iI_mul, iI_lt, iI_le, iI_eq, iI_in, iI_clamp, iI_mx, iI_mn, iI_nI, Int.toNat_natCast, forall_eq, br_1, br_2, br_3, br_4, br_in, br_5, br_6, br_7, br_8, ex_c, br_nl, br_le, br_ne, gp_1, gp_2, gp_3, gf_1, gf_2], fun z => absurd rfl z, fun z => absurd z (by simp), fun z => absurd z (by simp)⟩
  · refine ⟨(0, q, q, 0), ⟨by show 0 ≤ 4; omega, hpq, hq, fun _ => ⟨Nat.le_refl q, hq⟩, fun z => absurd z (by simp), fun z => absurd z (by simp), fun z => absurd z (by simp)⟩, sim_c hB hpq h1 hq h2 (fun M M' Q hb h4 hQ => ?_), sim_m hB hpq h1 hq (fun M' Q hb h4 hQ => ?_)⟩
    · unfold wX2_step_46
      simp (disch := omega) only [iI_lit, iI_neg, iI_add, iI_sub, iI_mul, iI_lt, iI_le, iI_eq, iI_in, iI_clamp, iI_mx, iI_mn, iI_nI, Int.toNat_natCast, forall_eq, br_1, br_2, br_3, br_4, br_in, br_5, br_6, br_7, br_8, ex_c, br_nl, br_le, br_ne, gp_1, gp_2, gp_3, gf_1, gf_2, h4, hb.1]
      exact hQ _ ((((S1.r _).p (by omega)).p (by omega)).p (by omega)) ⟨by simp (disch := omega) only [iI_lit, iI_neg, iI_add, iI_sub, iI_mul, iI_lt, iI_le, iI_eq, iI_in, iI_clamp, iI_mx, iI_mn, iI_nI, Int.toNat_natCast, forall_eq, br_1, br_2, br_3, br_4, br_in, br_5, br_6, br_7, br_8, ex_c, br_nl, br_le, br_ne, gp_1, gp_2, gp_3, gf_1, gf_2]; rfl, by simp (disch := omega) only [iI_lit, iI_neg, iI_add, iI_sub, iI_mul, iI_lt, iI_le, iI_eq, iI_in, iI_clamp, iI_mx, iI_mn, iI_nI, Int.toNat_natCast, forall_eq, br_1, br_2, br_3, br_4, br_in, br_5, br_6, br_7, br_8, ex_c, br_nl, br_le, br_ne, gp_1, gp_2, gp_3, gf_1, gf_2, h4], fun _ => by simp (disch := omega) only [iI_lit, iI_neg, iI_add, iI_sub, iI_mul, iI_lt, iI_le, iI_eq, iI_in, iI_clamp, iI_mx, iI_mn, iI_nI, Int.toNat_natCast, forall_eq, br_1, br_2, br_3, br_4, br_in, br_5, br_6, br_7, br_8, ex_c, br_nl, br_le, br_ne, gp_1, gp_2, gp_3, gf_1, gf_2], fun z => absurd z (by simp), fun z => absurd z (by simp)⟩
    · simp only [wX4_goOn_8]
      have hb2 := hb.s (S2.p (k := 8) (x := iI q) (S2.r M') (by omega))
      simp (disch := omega) only [iI_lit, iI_neg, iI_add, iI_sub, iI_mul, iI_lt, iI_le, iI_eq, iI_in, iI_clamp, iI_mx, iI_mn, iI_nI, Int.toNat_natCast, forall_eq, br_1, br_2, br_3, br_4, br_in, br_5, br_6, br_7, br_8, ex_c, br_nl, br_le, br_ne, gp_1, gp_2, gp_3, gf_1, gf_2, h4, m_byte_n hB hb (show n ≤ q by omega), m_byte_n hB hb2 (show n ≤ q by omega)]
      exact hQ _ (((S2.r _).p (by omega)).p (by omega)) ⟨by simp (disch := omega) only [iI_lit, iI_neg, iI_add, iI_sub, iI_mul, iI_lt, iI_le, iI_eq, iI_in, iI_clamp, iI_mx, iI_mn, iI_nI, Int.toNat_natCast, forall_eq, br_1, br_2, br_3, br_4, br_in, br_5, br_6, br_7, br_8, ex_c, br_nl, br_le, br_ne, gp_1, gp_2, gp_3, gf_1, gf_2]; rfl, by simp (disch := omega) only [iI_lit, iI_neg, iI_add, iI_sub, iI_mul, iI_lt, iI_le, iI_eq, iI_in, iI_clamp, iI_mx, iI_mn, iI_nI, Int.toNat_natCast, forall_eq, br_1, br_2, br_3, br_4, br_in, br_5, br_6, br_7, br_8, ex_c, br_nl, br_le, br_ne, gp_1, gp_2, gp_3, gf_1, gf_2], fun _ => by simp (disch := omega) only [iI_lit, iI_neg, iI_add, iI_sub, iI_mul, iI_lt, iI_le, iI_eq, iI_in, iI_clamp, iI_mx, iI_mn, iI_nI, Int.toNat_natCast, forall_eq, br_1, br_2, br_3, br_4, br_in, br_5, br_6, br_7, br_8, ex_c, br_nl, br_le, br_ne, gp_1, gp_2, gp_3, gf_1, gf_2, h4], fun z => absurd z (by simp), fun z => absurd z (by simp)⟩
