/-! tokens: what step and goOn do -/
abbrev Tk : Type := Nat × Nat × Nat × Int
/-- the reference's number of a kind -/
def km (k : Nat) : Int := if k = 0 then 1 else if k = 1 then 0 else (k : Int)
def BC (B : Nat → Int) (n : Nat) (M : Mem) : Prop := gI M 1 2 = iI n ∧ ∀ i, i < n → gI M 2 i = iI (B i)
def BM (B : Nat → Int) (n : Nat) (M : Mem) : Prop := gI M 200 5 = iI n ∧ gI M 200 10 = iI 0 ∧ ∀ i, i < n → gI M 204 i &&& iI 255 = iI (B i)
def BI (B : Nat → Int) (n : Nat) : Prop := n ≤ 400 ∧ ∀ i, i < n → 0 ≤ B i ∧ B i ≤ 255
def TC (B : Nat → Int) (t : Tk) (M : Mem) : Prop := gI M 1 3 = iI (t.1 : Nat) ∧ gI M 1 4 = iI (t.2.1 : Nat) ∧ (¬ t.1 = 1 → gI M 1 5 = iI (t.2.2.1 : Nat)) ∧ (t.1 = 2 → gI M 1 6 = iI (fo 27 96 B t.2.1 (t.2.2.1 - t.2.1))) ∧ (t.1 = 3 → gI M 1 6 = iI t.2.2.2)
def TM (B : Nat → Int) (t : Tk) (M : Mem) : Prop := gI M 200 7 = iI (km t.1) ∧ gI M 200 8 = iI (t.2.1 : Nat) ∧ (¬ t.1 = 1 → gI M 200 6 = iI (t.2.2.1 : Nat)) ∧ (t.1 = 2 → gL M 200 11 = iL (fo 256 0 B t.2.1 (t.2.2.1 - t.2.1))) ∧ (t.1 = 3 → gI M 200 9 = iI t.2.2.2)
def TI (B : Nat → Int) (n p : Nat) (t : Tk) : Prop := t.1 ≤ 4 ∧ p ≤ t.2.1 ∧ t.2.1 ≤ n ∧ (¬ t.1 = 1 → t.2.1 ≤ t.2.2.1 ∧ t.2.2.1 ≤ n) ∧ (t.1 = 2 → t.2.1 < t.2.2.1 ∧ t.2.2.1 ≤ t.2.1 + 6 ∧ lt B t.2.1 (t.2.2.1 - t.2.1)) ∧ (t.1 = 3 → t.2.1 < t.2.2.1 ∧ (48 ≤ B t.2.1 ∧ B t.2.1 ≤ 57) ∧ (t.2.2.1 < n → ¬ (48 ≤ B t.2.2.1 ∧ B t.2.2.1 ≤ 57)) ∧ 0 ≤ t.2.2.2 ∧ t.2.2.2 ≤ 999) ∧ (t.1 = 4 → t.2.2.1 = t.2.1 + 1)
def S1 (M M' : Mem) : Prop := M'.2 = M.2 ∧ ∀ b k, ¬ (b = 1 ∧ 3 ≤ k ∧ k ≤ 6) → gI M' b k = gI M b k
def S2 (M M' : Mem) : Prop := (∀ b k, ¬ (b = 200 ∧ 6 ≤ k ∧ k ≤ 9) → gI M' b k = gI M b k) ∧ ∀ b k, ¬ (b = 200 ∧ k = 11) → gL M' b k = gL M b k
theorem S1.r (M : Mem) : S1 M M := ⟨rfl, fun _ _ _ => rfl⟩
theorem S2.r (M : Mem) : S2 M M := ⟨fun _ _ _ => rfl, fun _ _ _ => rfl⟩
theorem S1.t {M M' M'' : Mem} (h : S1 M M') (h2 : S1 M' M'') : S1 M M'' := ⟨h2.1.trans h.1, fun b k p => (h2.2 b k p).trans (h.2 b k p)⟩
theorem S2.t {M M' M'' : Mem} (h : S2 M M') (h2 : S2 M' M'') : S2 M M'' := ⟨fun b k p => (h2.1 b k p).trans (h.1 b k p), fun b k p => (h2.2 b k p).trans (h.2 b k p)⟩
theorem S1.p {M M' : Mem} {k : Nat} {x : Int32} (h : S1 M M') (hk : 3 ≤ k ∧ k ≤ 6) : S1 M (pI M' 1 k x) := ⟨h.1, fun b j p => by
  rw [gI_pI, if_neg (by omega)]
  exact h.2 b j p⟩
theorem S2.p {M M' : Mem} {k : Nat} {x : Int32} (h : S2 M M') (hk : 6 ≤ k ∧ k ≤ 9) : S2 M (pI M' 200 k x) := ⟨fun b j p => by
  rw [gI_pI, if_neg (by omega)]
  exact h.1 b j p, fun b j p => by
  rw [gL_pI]
  exact h.2 b j p⟩
theorem S2.l {M M' : Mem} {x : Int64} (h : S2 M M') : S2 M (pL M' 200 11 x) := ⟨fun b j p => by
  rw [gI_pL]
  exact h.1 b j p, fun b j p => by
  rw [gL_pL, if_neg (by omega)]
  exact h.2 b j p⟩
theorem BC.s {B : Nat → Int} {n : Nat} {M M' : Mem} (h : BC B n M) (hS : S1 M M') : BC B n M' := ⟨(hS.2 _ _ (by omega)).trans h.1, fun i hi => (hS.2 _ _ (by omega)).trans (h.2 i hi)⟩
theorem BM.s {B : Nat → Int} {n : Nat} {M M' : Mem} (h : BM B n M) (hS : S2 M M') : BM B n M' := ⟨(hS.1 _ _ (by omega)).trans h.1, (hS.1 _ _ (by omega)).trans h.2.1, fun i hi => by
  rw [hS.1 _ _ (by omega)]
  exact h.2.2 i hi⟩
/-- where a run ends -/
theorem run_ex (P : Nat → Prop) (n : Nat) : ∀ f p, n - p = f → p ≤ n → ∃ q, p ≤ q ∧ q ≤ n ∧ (∀ i, p ≤ i → i < q → P i) ∧ (q < n → ¬ P q) := by
  intro f
  induction f with
  | zero => intro p hf hp; exact ⟨p, by omega, by omega, fun i _ _ => by omega, fun _ => by omega⟩
  | succ f ih =>
    intro p hf hp
    by_cases c : P p
    · obtain ⟨q, h1, h2, h3, h4⟩ := ih (p + 1) (by omega) (by omega)
      refine ⟨q, by omega, h2, fun i a b => ?_, h4⟩
      by_cases d : i = p
      · rw [d]
        exact c
      · exact h3 i (by omega) b
    · exact ⟨p, by omega, hp, fun i _ _ => by omega, fun _ => c⟩
theorem e_isL_y {M : Mem} {Q : Qi} {c : Int} (h : 97 ≤ c ∧ c ≤ 122) : wpX2_isLetter M (iI c) Q = Q (iI 1) M := by
  unfold wpX2_isLetter
  simp (disch := omega) only [iI_lit, iI_neg, iI_add, iI_sub, iI_mul, iI_lt, iI_le, iI_eq, iI_in, iI_clamp, iI_mx, iI_mn, iI_nI, Int.toNat_natCast, forall_eq, br_1, br_2, br_3, br_4, br_in, br_5, br_6, br_7, br_8, ex_c, br_nl, br_le, br_ne, gp_1, gp_2, gp_3, gf_1, gf_2]
theorem e_isL_n {M : Mem} {Q : Qi} {c : Int} (h : ¬ (97 ≤ c ∧ c ≤ 122)) (hc : 0 ≤ c ∧ c ≤ 255) : wpX2_isLetter M (iI c) Q = Q (iI 0) M := by
  unfold wpX2_isLetter
  by_cases q : c < 97
  · simp (disch := omega) only [iI_lit, iI_neg, iI_add, iI_sub, iI_mul, iI_lt, iI_le, iI_eq, iI_in, iI_clamp, iI_mx, iI_mn, iI_nI, Int.toNat_natCast, forall_eq, br_1, br_2, br_3, br_4, br_in, br_5, br_6, br_7, br_8, ex_c, br_nl, br_le, br_ne, gp_1, gp_2, gp_3, gf_1, gf_2]
  · simp (disch := omega) only [iI_lit, iI_neg, iI_add, iI_sub, iI_mul, iI_lt, iI_le, iI_eq, iI_in, iI_clamp, iI_mx, iI_mn, iI_nI, Int.toNat_natCast, forall_eq, br_1, br_2, br_3, br_4, br_in, br_5, br_6, br_7, br_8, ex_c, br_nl, br_le, br_ne, gp_1, gp_2, gp_3, gf_1, gf_2]
theorem e_isD_y {M : Mem} {Q : Qi} {c : Int} (h : 48 ≤ c ∧ c ≤ 57) : wpX2_isDigit M (iI c) Q = Q (iI 1) M := by
  unfold wpX2_isDigit
  simp (disch := omega) only [iI_lit, iI_neg, iI_add, iI_sub, iI_mul, iI_lt, iI_le, iI_eq, iI_in, iI_clamp, iI_mx, iI_mn, iI_nI, Int.toNat_natCast, forall_eq, br_1, br_2, br_3, br_4, br_in, br_5, br_6, br_7, br_8, ex_c, br_nl, br_le, br_ne, gp_1, gp_2, gp_3, gf_1, gf_2]
theorem e_isD_n {M : Mem} {Q : Qi} {c : Int} (h : ¬ (48 ≤ c ∧ c ≤ 57)) (hc : 0 ≤ c ∧ c ≤ 255) : wpX2_isDigit M (iI c) Q = Q (iI 0) M := by
  unfold wpX2_isDigit
  by_cases q : c < 48
  · simp (disch := omega) only [iI_lit, iI_neg, iI_add, iI_sub, iI_mul, iI_lt, iI_le, iI_eq, iI_in, iI_clamp, iI_mx, iI_mn, iI_nI, Int.toNat_natCast, forall_eq, br_1, br_2, br_3, br_4, br_in, br_5, br_6, br_7, br_8, ex_c, br_nl, br_le, br_ne, gp_1, gp_2, gp_3, gf_1, gf_2]
  · simp (disch := omega) only [iI_lit, iI_neg, iI_add, iI_sub, iI_mul, iI_lt, iI_le, iI_eq, iI_in, iI_clamp, iI_mx, iI_mn, iI_nI, Int.toNat_natCast, forall_eq, br_1, br_2, br_3, br_4, br_in, br_5, br_6, br_7, br_8, ex_c, br_nl, br_le, br_ne, gp_1, gp_2, gp_3, gf_1, gf_2]
theorem l_skip {B : Nat → Int} {n p q : Nat} {M : Mem} {Q : Mem → Prop} (hB : BI B n) (hb : BC B n M) (h1 : ∀ i, p ≤ i → i < q → B i = 32) (hq : q ≤ n) (h2 : q < n → ¬ B q = 32) (hQ : ∀ M', S1 M M' → gI M' 1 4 = iI q → wX2_step_46 Q M') :
    ∀ f i M1, q - i = f → p ≤ i → i ≤ q → S1 M M1 → gI M1 1 4 = iI i → ∃ m, wX2_step_8 Q m M1 := by
  have hn := hB.1
  intro f
  induction f with
  | zero =>
    intro i M1 hf hp hi hS h4
    have e : i = q := by omega
    subst e
    have hb1 := hb.s hS
    have := hQ M1 hS h4
    rw [ex_s rfl]
    simp only [wX2_step_8]
    by_cases c : i < n
    · have b1 := hB.2 i c
      have b2 := h2 c
      simp (disch := omega) only [iI_lit, iI_neg, iI_add, iI_sub, iI_mul, iI_lt, iI_le, iI_eq, iI_in, iI_clamp, iI_mx, iI_mn, iI_nI, Int.toNat_natCast, forall_eq, br_1, br_2, br_3, br_4, br_in, br_5, br_6, br_7, br_8, ex_c, br_nl, br_le, br_ne, gp_1, gp_2, gp_3, gf_1, gf_2, h4, hb1.1, hb1.2 i c]
      exact this
    · simp (disch := omega) only [iI_lit, iI_neg, iI_add, iI_sub, iI_mul, iI_lt, iI_le, iI_eq, iI_in, iI_clamp, iI_mx, iI_mn, iI_nI, Int.toNat_natCast, forall_eq, br_1, br_2, br_3, br_4, br_in, br_5, br_6, br_7, br_8, ex_c, br_nl, br_le, br_ne, gp_1, gp_2, gp_3, gf_1, gf_2, h4, hb1.1]
      exact this
  | succ f ih =>
    intro i M1 hf hp hi hS h4
    have hb1 := hb.s hS
    have b1 := h1 i hp (by omega)
    have := ih (i + 1) (pI M1 1 4 (iI ((i : Int) + 1))) (by omega) (by omega) (by omega) (hS.p (by omega)) gp_1
    rw [ex_s rfl]
    simp only [wX2_step_8]
    simp (disch := omega) only [iI_lit, iI_neg, iI_add, iI_sub, iI_mul, iI_lt, iI_le, iI_eq, iI_in, iI_clamp, iI_mx, iI_mn, iI_nI, Int.toNat_natCast, forall_eq, br_1, br_2, br_3, br_4, br_in, br_5, br_6, br_7, br_8, ex_c, br_nl, br_le, br_ne, gp_1, gp_2, gp_3, gf_1, gf_2, h4, hb1.1, hb1.2 i (by omega), b1]
    exact this
theorem l_word {B : Nat → Int} {n q e : Nat} {M : Mem} {Q : Mem → Prop} (hB : BI B n) (hb : BC B n M) (h1 : ∀ i, q ≤ i → i < e → 97 ≤ B i ∧ B i ≤ 122) (he : e ≤ n) (hqe : q ≤ e) (h2 : e < n → ¬ (97 ≤ B e ∧ B e ≤ 122))
    (hQ : ∀ M', S1 M M' → gI M' 1 3 = iI (if 6 < e - q then 1 else 2) → gI M' 1 4 = iI q → gI M' 1 5 = iI e → gI M' 1 6 = iI (fo 27 96 B q (e - q)) → Q M') :
    ∀ f i M1, e - i = f → q ≤ i → i ≤ e → S1 M M1 → gI M1 1 4 = iI q → gI M1 1 5 = iI i → gI M1 1 6 = iI (fo 27 96 B q (i - q)) → ∃ m, wX2_stepOverWord_0 Q m M1 := by
  have hn := hB.1
  intro f
  induction f with
  | zero =>
    intro i M1 hf hp hi hS h4 h5 h6
    have e0 : i = e := by omega
    subst e0
    have hb1 := hb.s hS
    have key : ∀ x, x = iI (if 6 < i - q then 1 else 2) → Q (pI M1 1 3 x) := fun x hx => hQ _ (hS.p (by omega)) (by rw [gp_1, hx]) (by simp (disch := omega) only [iI_lit, iI_neg, iI_add, iI_sub, iI_mul, iI_lt, iI_le, iI_eq, iI_in, iI_clamp, iI_mx, iI_mn, iI_nI, Int.toNat_natCast, forall_eq, br_1, br_2, br_3, br_4, br_in, br_5, br_6, br_7, br_8, ex_c, br_nl, br_le, br_ne, gp_1, gp_2, gp_3, gf_1, gf_2, h4]) (by simp (disch := omega) only [iI_lit, iI_neg, iI_add, iI_sub, iI_mul, iI_lt, iI_le, iI_eq, iI_in, iI_clamp, iI_mx, iI_mn, iI_nI, Int.toNat_natCast, forall_eq, br_1, br_2, br_3, br_4, br_in, br_5, br_6, br_7, br_8, ex_c, br_nl, br_le, br_ne, gp_1, gp_2, gp_3, gf_1, gf_2, h5]) (by simp (disch := omega) only [iI_lit, iI_neg, iI_add, iI_sub, iI_mul, iI_lt, iI_le, iI_eq, iI_in, iI_clamp, iI_mx, iI_mn, iI_nI, Int.toNat_natCast, forall_eq, br_1, br_2, br_3, br_4, br_in, br_5, br_6, br_7, br_8, ex_c, br_nl, br_le, br_ne, gp_1, gp_2, gp_3, gf_1, gf_2, h6])
    rw [ex_s rfl]
    simp only [wX2_stepOverWord_0]
    by_cases c2 : 6 < i - q
    · rw [if_pos c2] at key
      by_cases c : i < n
      · have b1 := hB.2 i c
        simp (disch := omega) only [iI_lit, iI_neg, iI_add, iI_sub, iI_mul, iI_lt, iI_le, iI_eq, iI_in, iI_clamp, iI_mx, iI_mn, iI_nI, Int.toNat_natCast, forall_eq, br_1, br_2, br_3, br_4, br_in, br_5, br_6, br_7, br_8, ex_c, br_nl, br_le, br_ne, gp_1, gp_2, gp_3, gf_1, gf_2, h4, h5, hb1.1, hb1.2 i c, e_isL_n (h2 c) b1]
        exact key _ rfl
      · simp (disch := omega) only [iI_lit, iI_neg, iI_add, iI_sub, iI_mul, iI_lt, iI_le, iI_eq, iI_in, iI_clamp, iI_mx, iI_mn, iI_nI, Int.toNat_natCast, forall_eq, br_1, br_2, br_3, br_4, br_in, br_5, br_6, br_7, br_8, ex_c, br_nl, br_le, br_ne, gp_1, gp_2, gp_3, gf_1, gf_2, h4, h5, hb1.1]
        exact key _ rfl
    · rw [if_neg c2] at key
      by_cases c : i < n
      · have b1 := hB.2 i c
        simp (disch := omega) only [iI_lit, iI_neg, iI_add, iI_sub, iI_mul, iI_lt, iI_le, iI_eq, iI_in, iI_clamp, iI_mx, iI_mn, iI_nI, Int.toNat_natCast, forall_eq, br_1, br_2, br_3, br_4, br_in, br_5, br_6, br_7, br_8, ex_c, br_nl, br_le, br_ne, gp_1, gp_2, gp_3, gf_1, gf_2, h4, h5, hb1.1, hb1.2 i c, e_isL_n (h2 c) b1]
        exact key _ rfl
      · simp (disch := omega) only [iI_lit, iI_neg, iI_add, iI_sub, iI_mul, iI_lt, iI_le, iI_eq, iI_in, iI_clamp, iI_mx, iI_mn, iI_nI, Int.toNat_natCast, forall_eq, br_1, br_2, br_3, br_4, br_in, br_5, br_6, br_7, br_8, ex_c, br_nl, br_le, br_ne, gp_1, gp_2, gp_3, gf_1, gf_2, h4, h5, hb1.1]
        exact key _ rfl
  | succ f ih =>
    intro i M1 hf hp hi hS h4 h5 h6
    have hb1 := hb.s hS
    have b1 := h1 i hp (by omega)
    have ef : fo 27 96 B q (i + 1 - q) = fo 27 96 B q (i - q) * 27 + B i - 97 + 1 := by
      rw [show i + 1 - q = (i - q) + 1 by omega, fo, show q + (i - q) = i by omega]
      omega
    have := ih (i + 1) (pI (pI M1 1 6 (iI (fo 27 96 B q (i - q) * 27 + B i - 97 + 1))) 1 5 (iI ((i : Int) + 1))) (by omega) (by omega) (by omega) ((hS.p (by omega)).p (by omega)) (by simp (disch := omega) only [iI_lit, iI_neg, iI_add, iI_sub, iI_mul, iI_lt, iI_le, iI_eq, iI_in, iI_clamp, iI_mx, iI_mn, iI_nI, Int.toNat_natCast, forall_eq, br_1, br_2, br_3, br_4, br_in, br_5, br_6, br_7, br_8, ex_c, br_nl, br_le, br_ne, gp_1, gp_2, gp_3, gf_1, gf_2, h4]) gp_1 (by rw [ef]; simp (disch := omega) only [iI_lit, iI_neg, iI_add, iI_sub, iI_mul, iI_lt, iI_le, iI_eq, iI_in, iI_clamp, iI_mx, iI_mn, iI_nI, Int.toNat_natCast, forall_eq, br_1, br_2, br_3, br_4, br_in, br_5, br_6, br_7, br_8, ex_c, br_nl, br_le, br_ne, gp_1, gp_2, gp_3, gf_1, gf_2])
    rw [ex_s rfl]
    simp only [wX2_stepOverWord_0]
    simp (disch := omega) only [iI_lit, iI_neg, iI_add, iI_sub, iI_mul, iI_lt, iI_le, iI_eq, iI_in, iI_clamp, iI_mx, iI_mn, iI_nI, Int.toNat_natCast, forall_eq, br_1, br_2, br_3, br_4, br_in, br_5, br_6, br_7, br_8, ex_c, br_nl, br_le, br_ne, gp_1, gp_2, gp_3, gf_1, gf_2, h4, h5, h6, hb1.1, hb1.2 i (by omega), e_isL_y b1]
    exact this
theorem l_whole {B : Nat → Int} {n q e : Nat} {M : Mem} {Q : Mem → Prop} (hB : BI B n) (hb : BC B n M) (h1 : ∀ i, q ≤ i → i < e → 48 ≤ B i ∧ B i ≤ 57) (he : e ≤ n) (hqe : q ≤ e) (h2 : e < n → ¬ (48 ≤ B e ∧ B e ≤ 57))
    (hQ : ∀ M', S1 M M' → gI M' 1 3 = iI (if 3 < e - q then 1 else 3) → gI M' 1 4 = iI q → gI M' 1 5 = iI e → gI M' 1 6 = iI (fo 10 48 B q (e - q)) → Q M') :
    ∀ f i M1, e - i = f → q ≤ i → i ≤ e → S1 M M1 → gI M1 1 4 = iI q → gI M1 1 5 = iI i → gI M1 1 6 = iI (fo 10 48 B q (i - q)) → ∃ m, wX2_stepOverWhole_0 Q m M1 := by
  have hn := hB.1
  intro f
  induction f with
  | zero =>
    intro i M1 hf hp hi hS h4 h5 h6
    have e0 : i = e := by omega
    subst e0
    have hb1 := hb.s hS
    have key : ∀ x, x = iI (if 3 < i - q then 1 else 3) → Q (pI M1 1 3 x) := fun x hx => hQ _ (hS.p (by omega)) (by rw [gp_1, hx]) (by simp (disch := omega) only [iI_lit, iI_neg, iI_add, iI_sub, iI_mul, iI_lt, iI_le, iI_eq, iI_in, iI_clamp, iI_mx, iI_mn, iI_nI, Int.toNat_natCast, forall_eq, br_1, br_2, br_3, br_4, br_in, br_5, br_6, br_7, br_8, ex_c, br_nl, br_le, br_ne, gp_1, gp_2, gp_3, gf_1, gf_2, h4]) (by simp (disch := omega) only [iI_lit, iI_neg, iI_add, iI_sub, iI_mul, iI_lt, iI_le, iI_eq, iI_in, iI_clamp, iI_mx, iI_mn, iI_nI, Int.toNat_natCast, forall_eq, br_1, br_2, br_3, br_4, br_in, br_5, br_6, br_7, br_8, ex_c, br_nl, br_le, br_ne, gp_1, gp_2, gp_3, gf_1, gf_2, h5]) (by simp (disch := omega) only [iI_lit, iI_neg, iI_add, iI_sub, iI_mul, iI_lt, iI_le, iI_eq, iI_in, iI_clamp, iI_mx, iI_mn, iI_nI, Int.toNat_natCast, forall_eq, br_1, br_2, br_3, br_4, br_in, br_5, br_6, br_7, br_8, ex_c, br_nl, br_le, br_ne, gp_1, gp_2, gp_3, gf_1, gf_2, h6])
    rw [ex_s rfl]
    simp only [wX2_stepOverWhole_0]
    by_cases c2 : 3 < i - q
    · rw [if_pos c2] at key
      by_cases c : i < n
      · have b1 := hB.2 i c
        simp (disch := omega) only [iI_lit, iI_neg, iI_add, iI_sub, iI_mul, iI_lt, iI_le, iI_eq, iI_in, iI_clamp, iI_mx, iI_mn, iI_nI, Int.toNat_natCast, forall_eq, br_1, br_2, br_3, br_4, br_in, br_5, br_6, br_7, br_8, ex_c, br_nl, br_le, br_ne, gp_1, gp_2, gp_3, gf_1, gf_2, h4, h5, hb1.1, hb1.2 i c, e_isD_n (h2 c) b1]
        exact key _ rfl
      · simp (disch := omega) only [iI_lit, iI_neg, iI_add, iI_sub, iI_mul, iI_lt, iI_le, iI_eq, iI_in, iI_clamp, iI_mx, iI_mn, iI_nI, Int.toNat_natCast, forall_eq, br_1, br_2, br_3, br_4, br_in, br_5, br_6, br_7, br_8, ex_c, br_nl, br_le, br_ne, gp_1, gp_2, gp_3, gf_1, gf_2, h4, h5, hb1.1]
        exact key _ rfl
    · rw [if_neg c2] at key
      by_cases c : i < n
      · have b1 := hB.2 i c
        simp (disch := omega) only [iI_lit, iI_neg, iI_add, iI_sub, iI_mul, iI_lt, iI_le, iI_eq, iI_in, iI_clamp, iI_mx, iI_mn, iI_nI, Int.toNat_natCast, forall_eq, br_1, br_2, br_3, br_4, br_in, br_5, br_6, br_7, br_8, ex_c, br_nl, br_le, br_ne, gp_1, gp_2, gp_3, gf_1, gf_2, h4, h5, hb1.1, hb1.2 i c, e_isD_n (h2 c) b1]
        exact key _ rfl
      · simp (disch := omega) only [iI_lit, iI_neg, iI_add, iI_sub, iI_mul, iI_lt, iI_le, iI_eq, iI_in, iI_clamp, iI_mx, iI_mn, iI_nI, Int.toNat_natCast, forall_eq, br_1, br_2, br_3, br_4, br_in, br_5, br_6, br_7, br_8, ex_c, br_nl, br_le, br_ne, gp_1, gp_2, gp_3, gf_1, gf_2, h4, h5, hb1.1]
        exact key _ rfl
  | succ f ih =>
    intro i M1 hf hp hi hS h4 h5 h6
    have hb1 := hb.s hS
    have b1 := h1 i hp (by omega)
    have ef : fo 10 48 B q (i + 1 - q) = fo 10 48 B q (i - q) * 10 + B i - 48 := by
      rw [show i + 1 - q = (i - q) + 1 by omega, fo, show q + (i - q) = i by omega]
      omega
    have := ih (i + 1) (pI (pI M1 1 6 (iI (fo 10 48 B q (i - q) * 10 + B i - 48))) 1 5 (iI ((i : Int) + 1))) (by omega) (by omega) (by omega) ((hS.p (by omega)).p (by omega)) (by simp (disch := omega) only [iI_lit, iI_neg, iI_add, iI_sub, iI_mul, iI_lt, iI_le, iI_eq, iI_in, iI_clamp, iI_mx, iI_mn, iI_nI, Int.toNat_natCast, forall_eq, br_1, br_2, br_3, br_4, br_in, br_5, br_6, br_7, br_8, ex_c, br_nl, br_le, br_ne, gp_1, gp_2, gp_3, gf_1, gf_2, h4]) gp_1 (by rw [ef]; simp (disch := omega) only [iI_lit, iI_neg, iI_add, iI_sub, iI_mul, iI_lt, iI_le, iI_eq, iI_in, iI_clamp, iI_mx, iI_mn, iI_nI, Int.toNat_natCast, forall_eq, br_1, br_2, br_3, br_4, br_in, br_5, br_6, br_7, br_8, ex_c, br_nl, br_le, br_ne, gp_1, gp_2, gp_3, gf_1, gf_2])
    rw [ex_s rfl]
    simp only [wX2_stepOverWhole_0]
    simp (disch := omega) only [iI_lit, iI_neg, iI_add, iI_sub, iI_mul, iI_lt, iI_le, iI_eq, iI_in, iI_clamp, iI_mx, iI_mn, iI_nI, Int.toNat_natCast, forall_eq, br_1, br_2, br_3, br_4, br_in, br_5, br_6, br_7, br_8, ex_c, br_nl, br_le, br_ne, gp_1, gp_2, gp_3, gf_1, gf_2, h4, h5, h6, hb1.1, hb1.2 i (by omega), e_isD_y b1]
    exact this
theorem m_byte_y {B : Nat → Int} {n k : Nat} {M : Mem} {Q : Qi} (hB : BI B n) (hb : BM B n M) (hk : k < n) : wpX4_byteAt M (iI k) Q = Q (iI (B k)) M := by
  have hn := hB.1
  unfold wpX4_byteAt
  simp (disch := omega) only [iI_lit, iI_neg, iI_add, iI_sub, iI_mul, iI_lt, iI_le, iI_eq, iI_in, iI_clamp, iI_mx, iI_mn, iI_nI, Int.toNat_natCast, forall_eq, br_1, br_2, br_3, br_4, br_in, br_5, br_6, br_7, br_8, ex_c, br_nl, br_le, br_ne, gp_1, gp_2, gp_3, gf_1, gf_2, hb.1, hb.2.2 k hk]
theorem m_byte_n {B : Nat → Int} {n k : Nat} {M : Mem} {Q : Qi} (hB : BI B n) (hb : BM B n M) (hk : n ≤ k) (hk2 : k ≤ 1000) : wpX4_byteAt M (iI k) Q = Q (iI (-1)) M := by
  have hn := hB.1
  unfold wpX4_byteAt
  simp (disch := omega) only [iI_lit, iI_neg, iI_add, iI_sub, iI_mul, iI_lt, iI_le, iI_eq, iI_in, iI_clamp, iI_mx, iI_mn, iI_nI, Int.toNat_natCast, forall_eq, br_1, br_2, br_3, br_4, br_in, br_5, br_6, br_7, br_8, ex_c, br_nl, br_le, br_ne, gp_1, gp_2, gp_3, gf_1, gf_2, hb.1]
theorem l_mword {B : Nat → Int} {n q e : Nat} {M : Mem} {Q : Mem → Prop} (hB : BI B n) (hb : BM B n M) (h1 : ∀ i, q ≤ i → i < e → 97 ≤ B i ∧ B i ≤ 122) (he : e ≤ n) (hqe : q ≤ e) (h2 : e < n → ¬ (97 ≤ B e ∧ B e ≤ 122))
    (hQ : ∀ M', S2 M M' → gI M' 200 7 = iI (if 6 < e - q then 0 else 2) → gI M' 200 8 = iI q → gI M' 200 6 = iI e → (e - q ≤ 6 → gL M' 200 11 = iL (fo 256 0 B q (e - q))) → Q M') :
    ∀ f i M1, e - i = f → q ≤ i → i ≤ e → S2 M M1 → gI M1 200 8 = iI q → gI M1 200 6 = iI i → (i - q ≤ 6 → gL M1 200 11 = iL (fo 256 0 B q (i - q))) → ∃ m, wX4_goWord_5 Q m M1 := by
  have hn := hB.1
  intro f
  induction f with
  | zero =>
    intro i M1 hf hp hi hS h4 h5 h6
    have e0 : i = e := by omega
    subst e0
    have hb1 := hb.s hS
    have key : ∀ x, x = iI (if 6 < i - q then 0 else 2) → Q (pI M1 200 7 x) := fun x hx => hQ _ (hS.p (by omega)) (by rw [gp_1, hx]) (by simp (disch := omega) only [iI_lit, iI_neg, iI_add, iI_sub, iI_mul, iI_lt, iI_le, iI_eq, iI_in, iI_clamp, iI_mx, iI_mn, iI_nI, Int.toNat_natCast, forall_eq, br_1, br_2, br_3, br_4, br_in, br_5, br_6, br_7, br_8, ex_c, br_nl, br_le, br_ne, gp_1, gp_2, gp_3, gf_1, gf_2, h4]) (by simp (disch := omega) only [iI_lit, iI_neg, iI_add, iI_sub, iI_mul, iI_lt, iI_le, iI_eq, iI_in, iI_clamp, iI_mx, iI_mn, iI_nI, Int.toNat_natCast, forall_eq, br_1, br_2, br_3, br_4, br_in, br_5, br_6, br_7, br_8, ex_c, br_nl, br_le, br_ne, gp_1, gp_2, gp_3, gf_1, gf_2, h5]) (fun z => by rw [gL_pI]; exact h6 z)
    rw [ex_s rfl]
    simp only [wX4_goWord_5]
    by_cases c2 : 6 < i - q
    · rw [if_pos c2] at key
      by_cases c : i < n
      · have b1 := hB.2 i c
        simp (disch := omega) only [iI_lit, iI_neg, iI_add, iI_sub, iI_mul, iI_lt, iI_le, iI_eq, iI_in, iI_clamp, iI_mx, iI_mn, iI_nI, Int.toNat_natCast, forall_eq, br_1, br_2, br_3, br_4, br_in, br_5, br_6, br_7, br_8, ex_c, br_nl, br_le, br_ne, gp_1, gp_2, gp_3, gf_1, gf_2, h4, h5, m_byte_y hB hb1 c, m_in_n (h2 c)]
        exact key _ rfl
      · simp (disch := omega) only [iI_lit, iI_neg, iI_add, iI_sub, iI_mul, iI_lt, iI_le, iI_eq, iI_in, iI_clamp, iI_mx, iI_mn, iI_nI, Int.toNat_natCast, forall_eq, br_1, br_2, br_3, br_4, br_in, br_5, br_6, br_7, br_8, ex_c, br_nl, br_le, br_ne, gp_1, gp_2, gp_3, gf_1, gf_2, h4, h5, m_byte_n hB hb1 (show n ≤ i by omega), m_in_n]
        exact key _ rfl
    · rw [if_neg c2] at key
      by_cases c : i < n
      · have b1 := hB.2 i c
        simp (disch := omega) only [iI_lit, iI_neg, iI_add, iI_sub, iI_mul, iI_lt, iI_le, iI_eq, iI_in, iI_clamp, iI_mx, iI_mn, iI_nI, Int.toNat_natCast, forall_eq, br_1, br_2, br_3, br_4, br_in, br_5, br_6, br_7, br_8, ex_c, br_nl, br_le, br_ne, gp_1, gp_2, gp_3, gf_1, gf_2, h4, h5, m_byte_y hB hb1 c, m_in_n (h2 c)]
        exact key _ rfl
      · simp (disch := omega) only [iI_lit, iI_neg, iI_add, iI_sub, iI_mul, iI_lt, iI_le, iI_eq, iI_in, iI_clamp, iI_mx, iI_mn, iI_nI, Int.toNat_natCast, forall_eq, br_1, br_2, br_3, br_4, br_in, br_5, br_6, br_7, br_8, ex_c, br_nl, br_le, br_ne, gp_1, gp_2, gp_3, gf_1, gf_2, h4, h5, m_byte_n hB hb1 (show n ≤ i by omega), m_in_n]
        exact key _ rfl
  | succ f ih =>
    intro i M1 hf hp hi hS h4 h5 h6
    have hb1 := hb.s hS
    have b1 := h1 i hp (by omega)
    rw [ex_s rfl]
    simp only [wX4_goWord_5]
    by_cases c2 : 6 ≤ i - q
    · have := ih (i + 1) (pI M1 200 6 (iI ((i : Int) + 1))) (by omega) (by omega) (by omega) (hS.p (by omega)) (by simp (disch := omega) only [iI_lit, iI_neg, iI_add, iI_sub, iI_mul, iI_lt, iI_le, iI_eq, iI_in, iI_clamp, iI_mx, iI_mn, iI_nI, Int.toNat_natCast, forall_eq, br_1, br_2, br_3, br_4, br_in, br_5, br_6, br_7, br_8, ex_c, br_nl, br_le, br_ne, gp_1, gp_2, gp_3, gf_1, gf_2, h4]) gp_1 (fun z => by omega)
      simp (disch := omega) only [iI_lit, iI_neg, iI_add, iI_sub, iI_mul, iI_lt, iI_le, iI_eq, iI_in, iI_clamp, iI_mx, iI_mn, iI_nI, Int.toNat_natCast, forall_eq, br_1, br_2, br_3, br_4, br_in, br_5, br_6, br_7, br_8, ex_c, br_nl, br_le, br_ne, gp_1, gp_2, gp_3, gf_1, gf_2, h4, h5, m_byte_y hB hb1 (show i < n by omega), m_in_y]
      exact this
    · have hl : lt B q (i - q) := fun j hj => h1 (q + j) (by omega) (by omega)
      have fb := fo256_b hl (by omega)
      have fb2 := fb.2.2 (by omega)
      have ef : fo 256 0 B q (i + 1 - q) = fo 256 0 B q (i - q) * 256 + B i := by
        rw [show i + 1 - q = (i - q) + 1 by omega, fo, show q + (i - q) = i by omega]
        omega
      have := ih (i + 1) (pI (pL M1 200 11 (iL (fo 256 0 B q (i - q) * 256 + B i))) 200 6 (iI ((i : Int) + 1))) (by omega) (by omega) (by omega) ((hS.l).p (by omega)) (by simp (disch := omega) only [iI_lit, iI_neg, iI_add, iI_sub, iI_mul, iI_lt, iI_le, iI_eq, iI_in, iI_clamp, iI_mx, iI_mn, iI_nI, Int.toNat_natCast, forall_eq, br_1, br_2, br_3, br_4, br_in, br_5, br_6, br_7, br_8, ex_c, br_nl, br_le, br_ne, gp_1, gp_2, gp_3, gf_1, gf_2, gI_pL, h4]) gp_1 (fun z => by
        rw [ef, gL_pI, gL_pL, if_pos ⟨rfl, rfl⟩])
      simp (disch := omega) only [iI_lit, iI_neg, iI_add, iI_sub, iI_mul, iI_lt, iI_le, iI_eq, iI_in, iI_clamp, iI_mx, iI_mn, iI_nI, Int.toNat_natCast, forall_eq, br_1, br_2, br_3, br_4, br_in, br_5, br_6, br_7, br_8, ex_c, br_nl, br_le, br_ne, gp_1, gp_2, gp_3, gf_1, gf_2, h4, h5, m_byte_y hB hb1 (show i < n by omega), m_in_y, h6 (by omega), iL_sh, gI_pL]
      exact this
theorem l_mwhole {B : Nat → Int} {n q e : Nat} {M : Mem} {Q : Mem → Prop} (hB : BI B n) (hb : BM B n M) (h1 : ∀ i, q ≤ i → i < e → 48 ≤ B i ∧ B i ≤ 57) (he : e ≤ n) (hqe : q ≤ e) (h2 : e < n → ¬ (48 ≤ B e ∧ B e ≤ 57))
    (hQ : ∀ M', S2 M M' → gI M' 200 7 = iI (if 3 < e - q then 0 else 3) → gI M' 200 8 = iI q → gI M' 200 6 = iI e → (e - q ≤ 3 → gI M' 200 9 = iI (fo 10 48 B q (e - q))) → Q M') :
    ∀ f i M1, e - i = f → q ≤ i → i ≤ e → S2 M M1 → gI M1 200 8 = iI q → gI M1 200 6 = iI i → (i - q ≤ 3 → gI M1 200 9 = iI (fo 10 48 B q (i - q))) → ∃ m, wX4_goWhole_5 Q m M1 := by
  have hn := hB.1
  intro f
  induction f with
  | zero =>
    intro i M1 hf hp hi hS h4 h5 h6
    have e0 : i = e := by omega
    subst e0
    have hb1 := hb.s hS
    have key : ∀ x, x = iI (if 3 < i - q then 0 else 3) → Q (pI M1 200 7 x) := fun x hx => hQ _ (hS.p (by omega)) (by rw [gp_1, hx]) (by simp (disch := omega) only [iI_lit, iI_neg, iI_add, iI_sub, iI_mul, iI_lt, iI_le, iI_eq, iI_in, iI_clamp, iI_mx, iI_mn, iI_nI, Int.toNat_natCast, forall_eq, br_1, br_2, br_3, br_4, br_in, br_5, br_6, br_7, br_8, ex_c, br_nl, br_le, br_ne, gp_1, gp_2, gp_3, gf_1, gf_2, h4]) (by simp (disch := omega) only [iI_lit, iI_neg, iI_add, iI_sub, iI_mul, iI_lt, iI_le, iI_eq, iI_in, iI_clamp, iI_mx, iI_mn, iI_nI, Int.toNat_natCast, forall_eq, br_1, br_2, br_3, br_4, br_in, br_5, br_6, br_7, br_8, ex_c, br_nl, br_le, br_ne, gp_1, gp_2, gp_3, gf_1, gf_2, h5]) (fun z => by simp (disch := omega) only [iI_lit, iI_neg, iI_add, iI_sub, iI_mul, iI_lt, iI_le, iI_eq, iI_in, iI_clamp, iI_mx, iI_mn, iI_nI, Int.toNat_natCast, forall_eq, br_1, br_2, br_3, br_4, br_in, br_5, br_6, br_7, br_8, ex_c, br_nl, br_le, br_ne, gp_1, gp_2, gp_3, gf_1, gf_2]; exact h6 z)
    rw [ex_s rfl]
    simp only [wX4_goWhole_5]
    by_cases c2 : 3 < i - q
    · rw [if_pos c2] at key
      by_cases c : i < n
      · have b1 := hB.2 i c
        simp (disch := omega) only [iI_lit, iI_neg, iI_add, iI_sub, iI_mul, iI_lt, iI_le, iI_eq, iI_in, iI_clamp, iI_mx, iI_mn, iI_nI, Int.toNat_natCast, forall_eq, br_1, br_2, br_3, br_4, br_in, br_5, br_6, br_7, br_8, ex_c, br_nl, br_le, br_ne, gp_1, gp_2, gp_3, gf_1, gf_2, h4, h5, m_byte_y hB hb1 c, m_in_n (h2 c)]
        exact key _ rfl
      · simp (disch := omega) only [iI_lit, iI_neg, iI_add, iI_sub, iI_mul, iI_lt, iI_le, iI_eq, iI_in, iI_clamp, iI_mx, iI_mn, iI_nI, Int.toNat_natCast, forall_eq, br_1, br_2, br_3, br_4, br_in, br_5, br_6, br_7, br_8, ex_c, br_nl, br_le, br_ne, gp_1, gp_2, gp_3, gf_1, gf_2, h4, h5, m_byte_n hB hb1 (show n ≤ i by omega), m_in_n]
        exact key _ rfl
    · rw [if_neg c2] at key
      by_cases c : i < n
      · have b1 := hB.2 i c
        simp (disch := omega) only [iI_lit, iI_neg, iI_add, iI_sub, iI_mul, iI_lt, iI_le, iI_eq, iI_in, iI_clamp, iI_mx, iI_mn, iI_nI, Int.toNat_natCast, forall_eq, br_1, br_2, br_3, br_4, br_in, br_5, br_6, br_7, br_8, ex_c, br_nl, br_le, br_ne, gp_1, gp_2, gp_3, gf_1, gf_2, h4, h5, m_byte_y hB hb1 c, m_in_n (h2 c)]
        exact key _ rfl
      · simp (disch := omega) only [iI_lit, iI_neg, iI_add, iI_sub, iI_mul, iI_lt, iI_le, iI_eq, iI_in, iI_clamp, iI_mx, iI_mn, iI_nI, Int.toNat_natCast, forall_eq, br_1, br_2, br_3, br_4, br_in, br_5, br_6, br_7, br_8, ex_c, br_nl, br_le, br_ne, gp_1, gp_2, gp_3, gf_1, gf_2, h4, h5, m_byte_n hB hb1 (show n ≤ i by omega), m_in_n]
        exact key _ rfl
  | succ f ih =>
    intro i M1 hf hp hi hS h4 h5 h6
    have hb1 := hb.s hS
    have b1 := h1 i hp (by omega)
    rw [ex_s rfl]
    simp only [wX4_goWhole_5]
    by_cases c2 : 3 ≤ i - q
    · have := ih (i + 1) (pI M1 200 6 (iI ((i : Int) + 1))) (by omega) (by omega) (by omega) (hS.p (by omega)) (by simp (disch := omega) only [iI_lit, iI_neg, iI_add, iI_sub, iI_mul, iI_lt, iI_le, iI_eq, iI_in, iI_clamp, iI_mx, iI_mn, iI_nI, Int.toNat_natCast, forall_eq, br_1, br_2, br_3, br_4, br_in, br_5, br_6, br_7, br_8, ex_c, br_nl, br_le, br_ne, gp_1, gp_2, gp_3, gf_1, gf_2, h4]) gp_1 (fun z => by omega)
      simp (disch := omega) only [iI_lit, iI_neg, iI_add, iI_sub, iI_mul, iI_lt, iI_le, iI_eq, iI_in, iI_clamp, iI_mx, iI_mn, iI_nI, Int.toNat_natCast, forall_eq, br_1, br_2, br_3, br_4, br_in, br_5, br_6, br_7, br_8, ex_c, br_nl, br_le, br_ne, gp_1, gp_2, gp_3, gf_1, gf_2, h4, h5, m_byte_y hB hb1 (show i < n by omega), m_in_y]
      exact this
    · have ef : fo 10 48 B q (i + 1 - q) = 10 * fo 10 48 B q (i - q) + B i - 48 := by
        rw [show i + 1 - q = (i - q) + 1 by omega, fo, show q + (i - q) = i by omega]
        omega
      have := ih (i + 1) (pI (pI M1 200 9 (iI (10 * fo 10 48 B q (i - q) + B i - 48))) 200 6 (iI ((i : Int) + 1))) (by omega) (by omega) (by omega) ((hS.p (by omega)).p (by omega)) (by simp (disch := omega) only [iI_lit, iI_neg, iI_add, iI_sub, iI_mul, iI_lt, iI_le, iI_eq, iI_in, iI_clamp, iI_mx, iI_mn, iI_nI, Int.toNat_natCast, forall_eq, br_1, br_2, br_3, br_4, br_in, br_5, br_6, br_7, br_8, ex_c, br_nl, br_le, br_ne, gp_1, gp_2, gp_3, gf_1, gf_2, h4]) gp_1 (fun z => by
        rw [ef]
        simp (disch := omega) only [iI_lit, iI_neg, iI_add, iI_sub, iI_mul, iI_lt, iI_le, iI_eq, iI_in, iI_clamp, iI_mx, iI_mn, iI_nI, Int.toNat_natCast, forall_eq, br_1, br_2, br_3, br_4, br_in, br_5, br_6, br_7, br_8, ex_c, br_nl, br_le, br_ne, gp_1, gp_2, gp_3, gf_1, gf_2])
      simp (disch := omega) only [iI_lit, iI_neg, iI_add, iI_sub, iI_mul, iI_lt, iI_le, iI_eq, iI_in, iI_clamp, iI_mx, iI_mn, iI_nI, Int.toNat_natCast, forall_eq, br_1, br_2, br_3, br_4, br_in, br_5, br_6, br_7, br_8, ex_c, br_nl, br_le, br_ne, gp_1, gp_2, gp_3, gf_1, gf_2, h4, h5, m_byte_y hB hb1 (show i < n by omega), m_in_y, h6 (by omega)]
      exact this
