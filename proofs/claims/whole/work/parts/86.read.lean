/-! what a reader has told: ERROR, streams (their names' places and lengths, EVERY), pushes (to, value) -/
abbrev Rd : Type := Int × Nat × (Nat → Nat) × (Nat → Nat) × (Nat → Int) × Nat × (Nat → Nat) × (Nat → Int)
abbrev rE (r : Rd) : Int := r.1
abbrev rk (r : Rd) : Nat := r.2.1
abbrev rq (r : Rd) : Nat → Nat := r.2.2.1
abbrev rL (r : Rd) : Nat → Nat := r.2.2.2.1
abbrev rv (r : Rd) : Nat → Int := r.2.2.2.2.1
abbrev rn (r : Rd) : Nat := r.2.2.2.2.2.1
abbrev rp (r : Rd) : Nat → Nat := r.2.2.2.2.2.2.1
abbrev ry (r : Rd) : Nat → Int := r.2.2.2.2.2.2.2
def KC (B : Nat → Int) (r : Rd) (M : Mem) : Prop := gI M 1 9 = iI (rE r) ∧ gI M 1 10 = iI (rk r : Nat) ∧ (∀ s, s < rk r → gI M 3 s = iI (fo 27 96 B (rq r s) (rL r s)) ∧ gI M 4 s = iI (rv r s)) ∧ gI M 1 13 = iI (rn r : Nat) ∧ ∀ i, i < rn r → gI M 5 i = iI (rp r i : Nat) ∧ gI M 6 i = iI (ry r i)
def KM (B : Nat → Int) (r : Rd) (M : Mem) : Prop := gI M 200 16 = iI (rE r) ∧ gI M 200 17 = iI (rk r : Nat) ∧ (∀ s, s < rk r → gL M 213 s = iL (fo 256 0 B (rq r s) (rL r s)) ∧ gI M 214 s = iI (rv r s)) ∧ gI M 200 18 = iI (rn r : Nat) ∧ ∀ i, i < rn r → gI M 215 i = iI (rp r i : Nat) ∧ gI M 216 i = iI (ry r i)
def KI (B : Nat → Int) (r : Rd) : Prop := (rE r = 0 ∨ (2 ≤ rE r ∧ rE r ≤ 40)) ∧ rk r ≤ 4 ∧ (0 < rk r → ¬ rE r = 0) ∧ (∀ s, s < rk r → rL r s ≤ 6 ∧ lt B (rq r s) (rL r s) ∧ 1 ≤ rv r s ∧ rv r s ≤ 60) ∧ rn r ≤ 200 ∧ ∀ i, i < rn r → rp r i < rk r ∧ 0 ≤ ry r i ∧ ry r i ≤ 999
def XC (B : Nat → Int) (n : Nat) (r : Rd) (t : Tk) (M : Mem) : Prop := BC B n M ∧ KC B r M ∧ TC B t M ∧ gI M 1 7 = iI 0 ∧ gI M 1 8 = iI (-1)
def XM (B : Nat → Int) (n : Nat) (r : Rd) (t : Tk) (M : Mem) : Prop := BM B n M ∧ KM B r M ∧ TM B t M
def F1 (M M' : Mem) : Prop := Fr 1 6 M M' ∧ gI M' 1 1 = gI M 1 1
def F2 (M M' : Mem) : Prop := ∀ b k, ¬ (b = 200 ∧ (6 ≤ k ∧ k ≤ 11 ∨ 16 ≤ k ∧ k ≤ 18)) → ¬ (213 ≤ b ∧ b ≤ 216) → gI M' b k = gI M b k
theorem F1.r (M : Mem) : F1 M M := ⟨Fr.r _ _ _, rfl⟩
theorem F2.r (M : Mem) : F2 M M := fun _ _ _ _ => rfl
theorem F1.t {M M' M'' : Mem} (h : F1 M M') (h2 : F1 M' M'') : F1 M M'' := ⟨h.1.t h2.1, h2.2.trans h.2⟩
theorem F2.t {M M' M'' : Mem} (h : F2 M M') (h2 : F2 M' M'') : F2 M M'' := fun b k p q => (h2 b k p q).trans (h b k p q)
theorem F1.p {M M' : Mem} {b k : Nat} {x : Int32} (h : F1 M M') (hb : 1 ≤ b ∧ b ≤ 6 ∧ ¬ (b = 1 ∧ k = 1)) : F1 M (pI M' b k x) := ⟨Fr.p h.1 (by omega), by
  rw [gI_pI, if_neg (by omega)]
  exact h.2⟩
theorem F2.p {M M' : Mem} {b k : Nat} {x : Int32} (h : F2 M M') (hb : (b = 200 ∧ (6 ≤ k ∧ k ≤ 11 ∨ 16 ≤ k ∧ k ≤ 18)) ∨ (213 ≤ b ∧ b ≤ 216)) : F2 M (pI M' b k x) := fun b' k' p q => by
  rw [gI_pI, if_neg (by omega)]
  exact h b' k' p q
theorem F2.l {M M' : Mem} {b k : Nat} {x : Int64} (h : F2 M M') : F2 M (pL M' b k x) := fun b' k' p q => by
  rw [gI_pL]
  exact h b' k' p q
theorem F1.s {M M' : Mem} (h : S1 M M') : F1 M M' := ⟨⟨h.1, fun b hb => funext (fun k => h.2 b k (by omega))⟩, h.2 _ _ (by omega)⟩
theorem F2.s {M M' : Mem} (h : S2 M M') : F2 M M' := fun b k p q => h.1 b k (by omega)
theorem KC.s {B : Nat → Int} {r : Rd} {M M' : Mem} (h : KC B r M) (hS : S1 M M') : KC B r M' := by
  obtain ⟨h1, h2, h3, h4, h5⟩ := h
  refine ⟨?_, ?_, fun s hs => ?_, ?_, fun i hi => ?_⟩
  · rw [hS.2 _ _ (by omega)]
    exact h1
  · rw [hS.2 _ _ (by omega)]
    exact h2
  · rw [hS.2 _ _ (by omega), hS.2 _ _ (by omega)]
    exact h3 s hs
  · rw [hS.2 _ _ (by omega)]
    exact h4
  · rw [hS.2 _ _ (by omega), hS.2 _ _ (by omega)]
    exact h5 i hi
theorem KM.s {B : Nat → Int} {r : Rd} {M M' : Mem} (h : KM B r M) (hS : S2 M M') : KM B r M' := by
  obtain ⟨h1, h2, h3, h4, h5⟩ := h
  refine ⟨?_, ?_, fun s hs => ?_, ?_, fun i hi => ?_⟩
  · rw [hS.1 _ _ (by omega)]
    exact h1
  · rw [hS.1 _ _ (by omega)]
    exact h2
  · rw [hS.2 _ _ (by omega), hS.1 _ _ (by omega)]
    exact h3 s hs
  · rw [hS.1 _ _ (by omega)]
    exact h4
  · rw [hS.1 _ _ (by omega), hS.1 _ _ (by omega)]
    exact h5 i hi
theorem XC.st {B : Nat → Int} {n : Nat} {r : Rd} {t t' : Tk} {M : Mem} {Q : Mem → Prop} (h : XC B n r t M) (ht : ¬ t.1 = 1) (hC : StepC B n t.2.2.1 t') (hQ : ∀ M', F1 M M' → XC B n r t' M' → Q M') : wpX2_step M Q :=
  hC M Q h.1 (h.2.2.1.2.2.1 ht) (fun M' hS hT => hQ M' (F1.s hS) ⟨h.1.s hS, h.2.1.s hS, hT, (hS.2 _ _ (by omega)).trans h.2.2.2.1, (hS.2 _ _ (by omega)).trans h.2.2.2.2⟩)
theorem XM.st {B : Nat → Int} {n : Nat} {r : Rd} {t t' : Tk} {M : Mem} {Q : Mem → Prop} (h : XM B n r t M) (ht : ¬ t.1 = 1) (hC : StepM B n t.2.2.1 t') (hQ : ∀ M', F2 M M' → XM B n r t' M' → Q M') : wpX4_goOn M Q :=
  hC M Q h.1 (h.2.2.2.2.1 ht) (fun M' hS hT => hQ M' (F2.s hS) ⟨h.1.s hS, h.2.1.s hS, hT⟩)
theorem TI.bn {B : Nat → Int} {n p : Nat} {t : Tk} (h : TI B n p t) (ht : ¬ t.1 = 1) : t.2.2.1 ≤ n := (h.2.2.2.1 ht).2
/-- the class has failed -/
def fC (M : Mem) (f a : Int) : Mem := pI (pI M 1 7 (iI f)) 1 8 (iI a)
theorem fC_1 {M : Mem} {f a : Int} : F1 M (fC M f a) ∧ gI (fC M f a) 1 7 = iI f ∧ gI (fC M f a) 1 8 = iI a := ⟨F1.p (F1.p (F1.r _) (by omega)) (by omega), by unfold fC; simp (disch := omega) only [iI_lit, iI_neg, iI_add, iI_sub, iI_mul, iI_lt, iI_le, iI_eq, iI_in, iI_clamp, iI_mx, iI_mn, iI_nI, Int.toNat_natCast, forall_eq, br_1, br_2, br_3, br_4, br_in, br_5, br_6, br_7, br_8, ex_c, br_nl, br_le, br_ne, gp_1, gp_2, gp_3, gf_1, gf_2], by unfold fC; simp (disch := omega) only [iI_lit, iI_neg, iI_add, iI_sub, iI_mul, iI_lt, iI_le, iI_eq, iI_in, iI_clamp, iI_mx, iI_mn, iI_nI, Int.toNat_natCast, forall_eq, br_1, br_2, br_3, br_4, br_in, br_5, br_6, br_7, br_8, ex_c, br_nl, br_le, br_ne, gp_1, gp_2, gp_3, gf_1, gf_2]⟩
theorem e_fail {B : Nat → Int} {t : Tk} {M : Mem} {Q : Qi} {v : Int} (ht : TC B t M) : wpX2_fail M (iI v) Q = Q (iI 0) (fC M v t.2.1) := by
  unfold wpX2_fail fC
  simp (disch := omega) only [iI_lit, iI_neg, iI_add, iI_sub, iI_mul, iI_lt, iI_le, iI_eq, iI_in, iI_clamp, iI_mx, iI_mn, iI_nI, Int.toNat_natCast, forall_eq, br_1, br_2, br_3, br_4, br_in, br_5, br_6, br_7, br_8, ex_c, br_nl, br_le, br_ne, gp_1, gp_2, gp_3, gf_1, gf_2, ht.2.1]
theorem e_wantsWord_y {B : Nat → Int} {n p v : Nat} {t : Tk} {M : Mem} {Q : Qi} (hB : BI B n) (hb : BC B n M) (hT : TI B n p t) (ht : TC B t M) (hv : v < 10) (h : isW B t v) : wpX2_wantsWord M v Q = Q (iI 1) M := by
  unfold wpX2_wantsWord
  simp (disch := omega) only [iI_lit, iI_neg, iI_add, iI_sub, iI_mul, iI_lt, iI_le, iI_eq, iI_in, iI_clamp, iI_mx, iI_mn, iI_nI, Int.toNat_natCast, forall_eq, br_1, br_2, br_3, br_4, br_in, br_5, br_6, br_7, br_8, ex_c, br_nl, br_le, br_ne, gp_1, gp_2, gp_3, gf_1, gf_2, e_isWord_y hB hb hT ht hv h]
theorem e_wantsWord_n {B : Nat → Int} {n p v : Nat} {t : Tk} {M : Mem} {Q : Qi} (hB : BI B n) (hb : BC B n M) (hT : TI B n p t) (ht : TC B t M) (hv : v < 10) (h : ¬ isW B t v) : wpX2_wantsWord M v Q = Q (iI 0) (fC M 1 t.2.1) := by
  unfold wpX2_wantsWord
  simp (disch := omega) only [iI_lit, iI_neg, iI_add, iI_sub, iI_mul, iI_lt, iI_le, iI_eq, iI_in, iI_clamp, iI_mx, iI_mn, iI_nI, Int.toNat_natCast, forall_eq, br_1, br_2, br_3, br_4, br_in, br_5, br_6, br_7, br_8, ex_c, br_nl, br_le, br_ne, gp_1, gp_2, gp_3, gf_1, gf_2, e_isWord_n hB hb hT ht hv h, e_fail ht]
theorem e_wantsWhole_y {B : Nat → Int} {n p : Nat} {t : Tk} {M : Mem} {Q : Qi} {lo hi : Int} (hT : TI B n p t) (ht : TC B t M) (h3 : t.1 = 3) (h : lo ≤ t.2.2.2 ∧ t.2.2.2 ≤ hi) (hl : 0 ≤ lo ∧ hi ≤ 999) : wpX2_wantsWhole M (iI lo) (iI hi) Q = Q (iI 1) M := by
  have k3 := ht.1
  rw [h3] at k3
  have k6 := ht.2.2.2.2 h3
  have kb := hT.2.2.2.2.2.1 h3
  unfold wpX2_wantsWhole
  simp (disch := omega) only [iI_lit, iI_neg, iI_add, iI_sub, iI_mul, iI_lt, iI_le, iI_eq, iI_in, iI_clamp, iI_mx, iI_mn, iI_nI, Int.toNat_natCast, forall_eq, br_1, br_2, br_3, br_4, br_in, br_5, br_6, br_7, br_8, ex_c, br_nl, br_le, br_ne, gp_1, gp_2, gp_3, gf_1, gf_2, k3, k6]
theorem e_wantsWhole_b {B : Nat → Int} {n p : Nat} {t : Tk} {M : Mem} {Q : Qi} {lo hi : Int} (hT : TI B n p t) (ht : TC B t M) (h3 : t.1 = 3) (h : ¬ (lo ≤ t.2.2.2 ∧ t.2.2.2 ≤ hi)) (hl : 0 ≤ lo ∧ lo ≤ 999 ∧ 0 ≤ hi ∧ hi ≤ 999) : wpX2_wantsWhole M (iI lo) (iI hi) Q = Q (iI 0) (fC M 2 t.2.1) := by
  have k3 := ht.1
  rw [h3] at k3
  have k6 := ht.2.2.2.2 h3
  have kb := hT.2.2.2.2.2.1 h3
  unfold wpX2_wantsWhole
  by_cases c : t.2.2.2 < lo
  · simp (disch := omega) only [iI_lit, iI_neg, iI_add, iI_sub, iI_mul, iI_lt, iI_le, iI_eq, iI_in, iI_clamp, iI_mx, iI_mn, iI_nI, Int.toNat_natCast, forall_eq, br_1, br_2, br_3, br_4, br_in, br_5, br_6, br_7, br_8, ex_c, br_nl, br_le, br_ne, gp_1, gp_2, gp_3, gf_1, gf_2, k3, k6, e_fail ht]
  · simp (disch := omega) only [iI_lit, iI_neg, iI_add, iI_sub, iI_mul, iI_lt, iI_le, iI_eq, iI_in, iI_clamp, iI_mx, iI_mn, iI_nI, Int.toNat_natCast, forall_eq, br_1, br_2, br_3, br_4, br_in, br_5, br_6, br_7, br_8, ex_c, br_nl, br_le, br_ne, gp_1, gp_2, gp_3, gf_1, gf_2, k3, k6, e_fail ht]
theorem e_wantsWhole_k {B : Nat → Int} {n p : Nat} {t : Tk} {M : Mem} {Q : Qi} {lo hi : Int32} (hT : TI B n p t) (ht : TC B t M) (h3 : ¬ t.1 = 3) : wpX2_wantsWhole M lo hi Q = Q (iI 0) (fC M 1 t.2.1) := by
  have k3 := ht.1
  have k1 := hT.1
  unfold wpX2_wantsWhole
  simp (disch := omega) only [iI_lit, iI_neg, iI_add, iI_sub, iI_mul, iI_lt, iI_le, iI_eq, iI_in, iI_clamp, iI_mx, iI_mn, iI_nI, Int.toNat_natCast, forall_eq, br_1, br_2, br_3, br_4, br_in, br_5, br_6, br_7, br_8, ex_c, br_nl, br_le, br_ne, gp_1, gp_2, gp_3, gf_1, gf_2, k3, e_fail ht]
  simp
/-- the reference has failed -/
def fM (M : Mem) (f : Int) : Mem := pI (pI M 200 10 (iI f)) 200 7 (iI 0)
def FT (f a : Int) (M : Mem) : Prop := gI M 200 10 = iI f ∧ gI M 200 8 = iI a ∧ gI M 200 7 = iI 0
theorem fM_1 {B : Nat → Int} {t : Tk} {M : Mem} {f : Int} (ht : TM B t M) : F2 M (fM M f) ∧ FT f t.2.1 (fM M f) := ⟨F2.p (F2.p (F2.r _) (by omega)) (by omega), by unfold fM; simp (disch := omega) only [iI_lit, iI_neg, iI_add, iI_sub, iI_mul, iI_lt, iI_le, iI_eq, iI_in, iI_clamp, iI_mx, iI_mn, iI_nI, Int.toNat_natCast, forall_eq, br_1, br_2, br_3, br_4, br_in, br_5, br_6, br_7, br_8, ex_c, br_nl, br_le, br_ne, gp_1, gp_2, gp_3, gf_1, gf_2], by unfold fM; simp (disch := omega) only [iI_lit, iI_neg, iI_add, iI_sub, iI_mul, iI_lt, iI_le, iI_eq, iI_in, iI_clamp, iI_mx, iI_mn, iI_nI, Int.toNat_natCast, forall_eq, br_1, br_2, br_3, br_4, br_in, br_5, br_6, br_7, br_8, ex_c, br_nl, br_le, br_ne, gp_1, gp_2, gp_3, gf_1, gf_2, ht.2.1], by unfold fM; simp (disch := omega) only [iI_lit, iI_neg, iI_add, iI_sub, iI_mul, iI_lt, iI_le, iI_eq, iI_in, iI_clamp, iI_mx, iI_mn, iI_nI, Int.toNat_natCast, forall_eq, br_1, br_2, br_3, br_4, br_in, br_5, br_6, br_7, br_8, ex_c, br_nl, br_le, br_ne, gp_1, gp_2, gp_3, gf_1, gf_2]⟩
theorem m_flaw {B : Nat → Int} {n : Nat} {M : Mem} {Q : Mem → Prop} {v : Int} (hb : BM B n M) : wpX4_flaw M (iI v) Q = Q (fM M v) := by
  unfold wpX4_flaw fM
  simp (disch := omega) only [iI_lit, iI_neg, iI_add, iI_sub, iI_mul, iI_lt, iI_le, iI_eq, iI_in, iI_clamp, iI_mx, iI_mn, iI_nI, Int.toNat_natCast, forall_eq, br_1, br_2, br_3, br_4, br_in, br_5, br_6, br_7, br_8, ex_c, br_nl, br_le, br_ne, gp_1, gp_2, gp_3, gf_1, gf_2, hb.2.1]
theorem d_flaw {M : Mem} {Q : Mem → Prop} {f a : Int} {v : Int32} (h : FT f a M) (hf : 1 ≤ f ∧ f ≤ 6) : wpX4_flaw M v Q = Q M := by
  unfold wpX4_flaw
  have e : pI M 200 7 (iI 0) = M := by
    rw [← h.2.2]
    exact pp_2
  simp (disch := omega) only [iI_lit, iI_neg, iI_add, iI_sub, iI_mul, iI_lt, iI_le, iI_eq, iI_in, iI_clamp, iI_mx, iI_mn, iI_nI, Int.toNat_natCast, forall_eq, br_1, br_2, br_3, br_4, br_in, br_5, br_6, br_7, br_8, ex_c, br_nl, br_le, br_ne, gp_1, gp_2, gp_3, gf_1, gf_2, h.1, e]
theorem d_goOn {M : Mem} {Q : Mem → Prop} {f a : Int} (h : FT f a M) (hf : 1 ≤ f ∧ f ≤ 6) : wpX4_goOn M Q = Q M := by
  unfold wpX4_goOn
  simp (disch := omega) only [iI_lit, iI_neg, iI_add, iI_sub, iI_mul, iI_lt, iI_le, iI_eq, iI_in, iI_clamp, iI_mx, iI_mn, iI_nI, Int.toNat_natCast, forall_eq, br_1, br_2, br_3, br_4, br_in, br_5, br_6, br_7, br_8, ex_c, br_nl, br_le, br_ne, gp_1, gp_2, gp_3, gf_1, gf_2, h.1]
theorem d_isWord {M : Mem} {Q : Qi} {f a : Int} {v : Nat} (hv : v < 10) (h : FT f a M) : wpX4_isWord M v Q = Q (iI 0) M := by
  rw [m_isWord_0 hv, h.2.2, iI_eq (by omega) (by omega)]
  exact br_3 (by omega)
theorem d_needs {M : Mem} {Q : Mem → Prop} {f a : Int} {v : Nat} (hv : v < 10) (h : FT f a M) (hf : 1 ≤ f ∧ f ≤ 6) : wpX4_needs M v Q = Q M := by
  unfold wpX4_needs
  simp (disch := omega) only [iI_lit, iI_neg, iI_add, iI_sub, iI_mul, iI_lt, iI_le, iI_eq, iI_in, iI_clamp, iI_mx, iI_mn, iI_nI, Int.toNat_natCast, forall_eq, br_1, br_2, br_3, br_4, br_in, br_5, br_6, br_7, br_8, ex_c, br_nl, br_le, br_ne, gp_1, gp_2, gp_3, gf_1, gf_2, d_isWord hv h, d_flaw h hf, d_goOn h hf]
theorem d_readWhole {M : Mem} {Q : Qi} {f a : Int} {lo hi : Int32} (h : FT f a M) (hf : 1 ≤ f ∧ f ≤ 6) : wpX4_readWhole M lo hi Q = Q (gI M 200 9) M := by
  unfold wpX4_readWhole
  simp (disch := omega) only [iI_lit, iI_neg, iI_add, iI_sub, iI_mul, iI_lt, iI_le, iI_eq, iI_in, iI_clamp, iI_mx, iI_mn, iI_nI, Int.toNat_natCast, forall_eq, br_1, br_2, br_3, br_4, br_in, br_5, br_6, br_7, br_8, ex_c, br_nl, br_le, br_ne, gp_1, gp_2, gp_3, gf_1, gf_2, h.2.2, d_flaw h hf, d_goOn h hf]
theorem d_readPart {M : Mem} {Q : Qi} {f a : Int} {v : Nat} {lo hi : Int32} (hv : v < 10) (h : FT f a M) (hf : 1 ≤ f ∧ f ≤ 6) : wpX4_readPart M v lo hi Q = Q (gI M 200 9) M := by
  unfold wpX4_readPart
  rw [d_needs hv h hf, d_readWhole h hf]
theorem d_needsName {M : Mem} {Q : Mem → Prop} {f a : Int} (h : FT f a M) (hf : 1 ≤ f ∧ f ≤ 6) : wpX4_needsName M Q = Q M := by
  unfold wpX4_needsName
  simp (disch := omega) only [iI_lit, iI_neg, iI_add, iI_sub, iI_mul, iI_lt, iI_le, iI_eq, iI_in, iI_clamp, iI_mx, iI_mn, iI_nI, Int.toNat_natCast, forall_eq, br_1, br_2, br_3, br_4, br_in, br_5, br_6, br_7, br_8, ex_c, br_nl, br_le, br_ne, gp_1, gp_2, gp_3, gf_1, gf_2, h.2.2, d_flaw h hf]
theorem m_needs_y {B : Nat → Int} {n p v : Nat} {t : Tk} {M : Mem} {Q : Mem → Prop} (hT : TI B n p t) (ht : TM B t M) (hv : v < 10) (h : isW B t v) : wpX4_needs M v Q = wpX4_goOn M Q := by
  unfold wpX4_needs
  simp (disch := omega) only [iI_lit, iI_neg, iI_add, iI_sub, iI_mul, iI_lt, iI_le, iI_eq, iI_in, iI_clamp, iI_mx, iI_mn, iI_nI, Int.toNat_natCast, forall_eq, br_1, br_2, br_3, br_4, br_in, br_5, br_6, br_7, br_8, ex_c, br_nl, br_le, br_ne, gp_1, gp_2, gp_3, gf_1, gf_2, m_isWord_y hT ht hv h]
theorem m_needs_n {B : Nat → Int} {n p v : Nat} {t : Tk} {M : Mem} {Q : Mem → Prop} (hb : BM B n M) (hT : TI B n p t) (ht : TM B t M) (hv : v < 10) (h : ¬ isW B t v) : wpX4_needs M v Q = Q (fM M 1) := by
  unfold wpX4_needs
  simp (disch := omega) only [iI_lit, iI_neg, iI_add, iI_sub, iI_mul, iI_lt, iI_le, iI_eq, iI_in, iI_clamp, iI_mx, iI_mn, iI_nI, Int.toNat_natCast, forall_eq, br_1, br_2, br_3, br_4, br_in, br_5, br_6, br_7, br_8, ex_c, br_nl, br_le, br_ne, gp_1, gp_2, gp_3, gf_1, gf_2, m_isWord_n hT ht hv h, m_flaw hb, d_goOn (fM_1 (f := 1) ht).2]
theorem m_readWhole_y {B : Nat → Int} {n p : Nat} {t : Tk} {M : Mem} {Q : Qi} {lo hi : Int} (hT : TI B n p t) (ht : TM B t M) (h3 : t.1 = 3) (h : lo ≤ t.2.2.2 ∧ t.2.2.2 ≤ hi) (hl : 0 ≤ lo ∧ hi ≤ 999) : wpX4_readWhole M (iI lo) (iI hi) Q = wpX4_goOn M (fun M' => Q (iI t.2.2.2) M') := by
  have k3 := ht.1
  rw [h3] at k3
  have k3' : gI M 200 7 = iI 3 := k3
  have k6 := ht.2.2.2.2 h3
  have kb := hT.2.2.2.2.2.1 h3
  unfold wpX4_readWhole
  simp (disch := omega) only [iI_lit, iI_neg, iI_add, iI_sub, iI_mul, iI_lt, iI_le, iI_eq, iI_in, iI_clamp, iI_mx, iI_mn, iI_nI, Int.toNat_natCast, forall_eq, br_1, br_2, br_3, br_4, br_in, br_5, br_6, br_7, br_8, ex_c, br_nl, br_le, br_ne, gp_1, gp_2, gp_3, gf_1, gf_2, k3', k6, m_in_y]
theorem m_readWhole_b {B : Nat → Int} {n p : Nat} {t : Tk} {M : Mem} {Q : Qi} {lo hi : Int} (hb : BM B n M) (hT : TI B n p t) (ht : TM B t M) (h3 : t.1 = 3) (h : ¬ (lo ≤ t.2.2.2 ∧ t.2.2.2 ≤ hi)) (hl : 0 ≤ lo ∧ lo ≤ 999 ∧ 0 ≤ hi ∧ hi ≤ 999) : wpX4_readWhole M (iI lo) (iI hi) Q = Q (gI (fM M 2) 200 9) (fM M 2) := by
  have k3 := ht.1
  rw [h3] at k3
  have k3' : gI M 200 7 = iI 3 := k3
  have k6 := ht.2.2.2.2 h3
  have kb := hT.2.2.2.2.2.1 h3
  unfold wpX4_readWhole
  simp (disch := omega) only [iI_lit, iI_neg, iI_add, iI_sub, iI_mul, iI_lt, iI_le, iI_eq, iI_in, iI_clamp, iI_mx, iI_mn, iI_nI, Int.toNat_natCast, forall_eq, br_1, br_2, br_3, br_4, br_in, br_5, br_6, br_7, br_8, ex_c, br_nl, br_le, br_ne, gp_1, gp_2, gp_3, gf_1, gf_2, k3', k6, m_in_n h, m_flaw hb, d_goOn (fM_1 (f := 2) ht).2]
theorem m_readWhole_k {B : Nat → Int} {n p : Nat} {t : Tk} {M : Mem} {Q : Qi} {lo hi : Int32} (hb : BM B n M) (hT : TI B n p t) (ht : TM B t M) (h3 : ¬ t.1 = 3) : wpX4_readWhole M lo hi Q = Q (gI (fM M 1) 200 9) (fM M 1) := by
  have k3 := ht.1
  have kb := km_b t.1 hT.1
  have c2 : ¬ km t.1 = 3 := fun z => h3 (kb.2.2.2.1.mp z)
  unfold wpX4_readWhole
  simp (disch := omega) only [iI_lit, iI_neg, iI_add, iI_sub, iI_mul, iI_lt, iI_le, iI_eq, iI_in, iI_clamp, iI_mx, iI_mn, iI_nI, Int.toNat_natCast, forall_eq, br_1, br_2, br_3, br_4, br_in, br_5, br_6, br_7, br_8, ex_c, br_nl, br_le, br_ne, gp_1, gp_2, gp_3, gf_1, gf_2, k3, m_flaw hb, d_goOn (fM_1 (f := 1) ht).2]
/-- class's c and reference's m read alike -/
def Sim (B : Nat → Int) (n : Nat) (r : Rd) (t : Tk) (c : Mem → Qi → Prop) (m : Mem → (Mem → Prop) → Prop) : Prop :=
  (∃ r' t', KI B r' ∧ TI B n t.2.2.1 t' ∧ 2 * rn r' ≤ t'.2.1 ∧ (∀ M Q, XC B n r t M → (∀ M', F1 M M' → XC B n r' t' M' → Q (iI 1) M') → c M Q) ∧ (∀ M Q, XM B n r t M → (∀ M', F2 M M' → XM B n r' t' M' → Q M') → m M Q)) ∨
  (∃ f a, (1 ≤ f ∧ f ≤ 6) ∧ (∀ M Q, XC B n r t M → (∀ M', F1 M M' → gI M' 1 7 = iI f → gI M' 1 8 = iI a → Q (iI 0) M') → c M Q) ∧ (∀ M Q, XM B n r t M → (∀ M', F2 M M' → FT f a M' → Q M') → m M Q))
theorem XC.e {B : Nat → Int} {n : Nat} {r : Rd} {t : Tk} {M : Mem} {e : Int} (h : XC B n r t M) : XC B n (e, r.2) t (pI M 1 9 (iI e)) := by
  obtain ⟨⟨a1, a2⟩, ⟨b1, b2, b3, b4, b5⟩, ⟨c1, c2, c3, c4, c5⟩, d, d2⟩ := h
  refine ⟨⟨by simp (disch := omega) only [iI_lit, iI_neg, iI_add, iI_sub, iI_mul, iI_lt, iI_le, iI_eq, iI_in, iI_clamp, iI_mx, iI_mn, iI_nI, Int.toNat_natCast, forall_eq, br_1, br_2, br_3, br_4, br_in, br_5, br_6, br_7, br_8, ex_c, br_nl, br_le, br_ne, gp_1, gp_2, gp_3, gf_1, gf_2]; exact a1, fun i hi => by simp (disch := omega) only [iI_lit, iI_neg, iI_add, iI_sub, iI_mul, iI_lt, iI_le, iI_eq, iI_in, iI_clamp, iI_mx, iI_mn, iI_nI, Int.toNat_natCast, forall_eq, br_1, br_2, br_3, br_4, br_in, br_5, br_6, br_7, br_8, ex_c, br_nl, br_le, br_ne, gp_1, gp_2, gp_3, gf_1, gf_2]; exact a2 i hi⟩, ⟨by simp (disch := omega) only [iI_lit, iI_neg, iI_add, iI_sub, iI_mul, iI_lt, iI_le, iI_eq, iI_in, iI_clamp, iI_mx, iI_mn, iI_nI, Int.toNat_natCast, forall_eq, br_1, br_2, br_3, br_4, br_in, br_5, br_6, br_7, br_8, ex_c, br_nl, br_le, br_ne, gp_1, gp_2, gp_3, gf_1, gf_2], by simp (disch := omega) only [iI_lit, iI_neg, iI_add, iI_sub, iI_mul, iI_lt, iI_le, iI_eq, iI_in, iI_clamp, iI_mx, iI_mn, iI_nI, Int.toNat_natCast, forall_eq, br_1, br_2, br_3, br_4, br_in, br_5, br_6, br_7, br_8, ex_c, br_nl, br_le, br_ne, gp_1, gp_2, gp_3, gf_1, gf_2]; exact b2, fun s hs => by simp (disch := omega) only [iI_lit, iI_neg, iI_add, iI_sub, iI_mul, iI_lt, iI_le, iI_eq, iI_in, iI_clamp, iI_mx, iI_mn, iI_nI, Int.toNat_natCast, forall_eq, br_1, br_2, br_3, br_4, br_in, br_5, br_6, br_7, br_8, ex_c, br_nl, br_le, br_ne, gp_1, gp_2, gp_3, gf_1, gf_2]; exact b3 s hs, by simp (disch := omega) only [iI_lit, iI_neg, iI_add, iI_sub, iI_mul, iI_lt, iI_le, iI_eq, iI_in, iI_clamp, iI_mx, iI_mn, iI_nI, Int.toNat_natCast, forall_eq, br_1, br_2, br_3, br_4, br_in, br_5, br_6, br_7, br_8, ex_c, br_nl, br_le, br_ne, gp_1, gp_2, gp_3, gf_1, gf_2]; exact b4, fun i hi => by simp (disch := omega) only [iI_lit, iI_neg, iI_add, iI_sub, iI_mul, iI_lt, iI_le, iI_eq, iI_in, iI_clamp, iI_mx, iI_mn, iI_nI, Int.toNat_natCast, forall_eq, br_1, br_2, br_3, br_4, br_in, br_5, br_6, br_7, br_8, ex_c, br_nl, br_le, br_ne, gp_1, gp_2, gp_3, gf_1, gf_2]; exact b5 i hi⟩, ⟨by simp (disch := omega) only [iI_lit, iI_neg, iI_add, iI_sub, iI_mul, iI_lt, iI_le, iI_eq, iI_in, iI_clamp, iI_mx, iI_mn, iI_nI, Int.toNat_natCast, forall_eq, br_1, br_2, br_3, br_4, br_in, br_5, br_6, br_7, br_8, ex_c, br_nl, br_le, br_ne, gp_1, gp_2, gp_3, gf_1, gf_2]; exact c1, by simp (disch := omega) only [iI_lit, iI_neg, iI_add, iI_sub, iI_mul, iI_lt, iI_le, iI_eq, iI_in, iI_clamp, iI_mx, iI_mn, iI_nI, Int.toNat_natCast, forall_eq, br_1, br_2, br_3, br_4, br_in, br_5, br_6, br_7, br_8, ex_c, br_nl, br_le, br_ne, gp_1, gp_2, gp_3, gf_1, gf_2]; exact c2, fun z => by simp (disch := omega) only [iI_lit, iI_neg, iI_add, iI_sub, iI_mul, iI_lt, iI_le, iI_eq, iI_in, iI_clamp, iI_mx, iI_mn, iI_nI, Int.toNat_natCast, forall_eq, br_1, br_2, br_3, br_4, br_in, br_5, br_6, br_7, br_8, ex_c, br_nl, br_le, br_ne, gp_1, gp_2, gp_3, gf_1, gf_2]; exact c3 z, fun z => by simp (disch := omega) only [iI_lit, iI_neg, iI_add, iI_sub, iI_mul, iI_lt, iI_le, iI_eq, iI_in, iI_clamp, iI_mx, iI_mn, iI_nI, Int.toNat_natCast, forall_eq, br_1, br_2, br_3, br_4, br_in, br_5, br_6, br_7, br_8, ex_c, br_nl, br_le, br_ne, gp_1, gp_2, gp_3, gf_1, gf_2]; exact c4 z, fun z => by simp (disch := omega) only [iI_lit, iI_neg, iI_add, iI_sub, iI_mul, iI_lt, iI_le, iI_eq, iI_in, iI_clamp, iI_mx, iI_mn, iI_nI, Int.toNat_natCast, forall_eq, br_1, br_2, br_3, br_4, br_in, br_5, br_6, br_7, br_8, ex_c, br_nl, br_le, br_ne, gp_1, gp_2, gp_3, gf_1, gf_2]; exact c5 z⟩, by simp (disch := omega) only [iI_lit, iI_neg, iI_add, iI_sub, iI_mul, iI_lt, iI_le, iI_eq, iI_in, iI_clamp, iI_mx, iI_mn, iI_nI, Int.toNat_natCast, forall_eq, br_1, br_2, br_3, br_4, br_in, br_5, br_6, br_7, br_8, ex_c, br_nl, br_le, br_ne, gp_1, gp_2, gp_3, gf_1, gf_2]; exact d, by simp (disch := omega) only [iI_lit, iI_neg, iI_add, iI_sub, iI_mul, iI_lt, iI_le, iI_eq, iI_in, iI_clamp, iI_mx, iI_mn, iI_nI, Int.toNat_natCast, forall_eq, br_1, br_2, br_3, br_4, br_in, br_5, br_6, br_7, br_8, ex_c, br_nl, br_le, br_ne, gp_1, gp_2, gp_3, gf_1, gf_2]; exact d2⟩
theorem XM.e {B : Nat → Int} {n : Nat} {r : Rd} {t : Tk} {M : Mem} {e : Int} (h : XM B n r t M) : XM B n (e, r.2) t (pI M 200 16 (iI e)) := by
  obtain ⟨⟨a1, a0, a2⟩, ⟨b1, b2, b3, b4, b5⟩, ⟨c1, c2, c3, c4, c5⟩⟩ := h
  refine ⟨⟨by simp (disch := omega) only [iI_lit, iI_neg, iI_add, iI_sub, iI_mul, iI_lt, iI_le, iI_eq, iI_in, iI_clamp, iI_mx, iI_mn, iI_nI, Int.toNat_natCast, forall_eq, br_1, br_2, br_3, br_4, br_in, br_5, br_6, br_7, br_8, ex_c, br_nl, br_le, br_ne, gp_1, gp_2, gp_3, gf_1, gf_2]; exact a1, by simp (disch := omega) only [iI_lit, iI_neg, iI_add, iI_sub, iI_mul, iI_lt, iI_le, iI_eq, iI_in, iI_clamp, iI_mx, iI_mn, iI_nI, Int.toNat_natCast, forall_eq, br_1, br_2, br_3, br_4, br_in, br_5, br_6, br_7, br_8, ex_c, br_nl, br_le, br_ne, gp_1, gp_2, gp_3, gf_1, gf_2]; exact a0, fun i hi => by simp (disch := omega) only [iI_lit, iI_neg, iI_add, iI_sub, iI_mul, iI_lt, iI_le, iI_eq, iI_in, iI_clamp, iI_mx, iI_mn, iI_nI, Int.toNat_natCast, forall_eq, br_1, br_2, br_3, br_4, br_in, br_5, br_6, br_7, br_8, ex_c, br_nl, br_le, br_ne, gp_1, gp_2, gp_3, gf_1, gf_2]; exact a2 i hi⟩, ⟨by simp (disch := omega) only [iI_lit, iI_neg, iI_add, iI_sub, iI_mul, iI_lt, iI_le, iI_eq, iI_in, iI_clamp, iI_mx, iI_mn, iI_nI, Int.toNat_natCast, forall_eq, br_1, br_2, br_3, br_4, br_in, br_5, br_6, br_7, br_8, ex_c, br_nl, br_le, br_ne, gp_1, gp_2, gp_3, gf_1, gf_2], by simp (disch := omega) only [iI_lit, iI_neg, iI_add, iI_sub, iI_mul, iI_lt, iI_le, iI_eq, iI_in, iI_clamp, iI_mx, iI_mn, iI_nI, Int.toNat_natCast, forall_eq, br_1, br_2, br_3, br_4, br_in, br_5, br_6, br_7, br_8, ex_c, br_nl, br_le, br_ne, gp_1, gp_2, gp_3, gf_1, gf_2]; exact b2, fun s hs => by simp (disch := omega) only [iI_lit, iI_neg, iI_add, iI_sub, iI_mul, iI_lt, iI_le, iI_eq, iI_in, iI_clamp, iI_mx, iI_mn, iI_nI, Int.toNat_natCast, forall_eq, br_1, br_2, br_3, br_4, br_in, br_5, br_6, br_7, br_8, ex_c, br_nl, br_le, br_ne, gp_1, gp_2, gp_3, gf_1, gf_2, gL_pI]; exact b3 s hs, by simp (disch := omega) only [iI_lit, iI_neg, iI_add, iI_sub, iI_mul, iI_lt, iI_le, iI_eq, iI_in, iI_clamp, iI_mx, iI_mn, iI_nI, Int.toNat_natCast, forall_eq, br_1, br_2, br_3, br_4, br_in, br_5, br_6, br_7, br_8, ex_c, br_nl, br_le, br_ne, gp_1, gp_2, gp_3, gf_1, gf_2]; exact b4, fun i hi => by simp (disch := omega) only [iI_lit, iI_neg, iI_add, iI_sub, iI_mul, iI_lt, iI_le, iI_eq, iI_in, iI_clamp, iI_mx, iI_mn, iI_nI, Int.toNat_natCast, forall_eq, br_1, br_2, br_3, br_4, br_in, br_5, br_6, br_7, br_8, ex_c, br_nl, br_le, br_ne, gp_1, gp_2, gp_3, gf_1, gf_2]; exact b5 i hi⟩, ⟨by simp (disch := omega) only [iI_lit, iI_neg, iI_add, iI_sub, iI_mul, iI_lt, iI_le, iI_eq, iI_in, iI_clamp, iI_mx, iI_mn, iI_nI, Int.toNat_natCast, forall_eq, br_1, br_2, br_3, br_4, br_in, br_5, br_6, br_7, br_8, ex_c, br_nl, br_le, br_ne, gp_1, gp_2, gp_3, gf_1, gf_2]; exact c1, by simp (disch := omega) only [iI_lit, iI_neg, iI_add, iI_sub, iI_mul, iI_lt, iI_le, iI_eq, iI_in, iI_clamp, iI_mx, iI_mn, iI_nI, Int.toNat_natCast, forall_eq, br_1, br_2, br_3, br_4, br_in, br_5, br_6, br_7, br_8, ex_c, br_nl, br_le, br_ne, gp_1, gp_2, gp_3, gf_1, gf_2]; exact c2, fun z => by simp (disch := omega) only [iI_lit, iI_neg, iI_add, iI_sub, iI_mul, iI_lt, iI_le, iI_eq, iI_in, iI_clamp, iI_mx, iI_mn, iI_nI, Int.toNat_natCast, forall_eq, br_1, br_2, br_3, br_4, br_in, br_5, br_6, br_7, br_8, ex_c, br_nl, br_le, br_ne, gp_1, gp_2, gp_3, gf_1, gf_2]; exact c3 z, fun z => by simp (disch := omega) only [iI_lit, iI_neg, iI_add, iI_sub, iI_mul, iI_lt, iI_le, iI_eq, iI_in, iI_clamp, iI_mx, iI_mn, iI_nI, Int.toNat_natCast, forall_eq, br_1, br_2, br_3, br_4, br_in, br_5, br_6, br_7, br_8, ex_c, br_nl, br_le, br_ne, gp_1, gp_2, gp_3, gf_1, gf_2, gL_pI]; exact c4 z, fun z => by simp (disch := omega) only [iI_lit, iI_neg, iI_add, iI_sub, iI_mul, iI_lt, iI_le, iI_eq, iI_in, iI_clamp, iI_mx, iI_mn, iI_nI, Int.toNat_natCast, forall_eq, br_1, br_2, br_3, br_4, br_in, br_5, br_6, br_7, br_8, ex_c, br_nl, br_le, br_ne, gp_1, gp_2, gp_3, gf_1, gf_2]; exact c5 z⟩⟩
theorem sim_ranks {B : Nat → Int} {n p : Nat} {r : Rd} {t : Tk} (hB : BI B n) (hK : KI B r) (hT : TI B n p t) (ht : t.1 = 2) (hn : 2 * rn r ≤ t.2.1) : Sim B n r t wpX2_readRanks wpX4_readRanks := by
  have hE := hK.1
  by_cases e0 : rE r = 0
  · obtain ⟨t1, T1, C1, M1⟩ := sim_step hB (hT.bn (by omega))
    by_cases w : isW B t1 3
    · obtain ⟨t2, T2, C2, M2⟩ := sim_step hB (T1.bn (by rw [w.1]; omega))
      have tt := T1.2.2.2.1 (by rw [w.1]; omega)
      have tt0 := hT.2.2.2.1 (by omega)
      have tp := T1.2.1
      have tp2 := T2.2.1
      by_cases k3 : t2.1 = 3
      · by_cases nb : 2 ≤ t2.2.2.2 ∧ t2.2.2.2 ≤ 40
        · obtain ⟨t3, T3, C3, M3⟩ := sim_step hB (T2.bn (by omega))
          have tt2 := T2.2.2.2.1 (by omega)
          have tp3 := T3.2.1
          refine Or.inl ⟨(t2.2.2.2, r.2), t3, ⟨Or.inr nb, hK.2.1, fun _ => by show ¬ t2.2.2.2 = 0; omega, hK.2.2.2.1, hK.2.2.2.2⟩, ⟨T3.1, by omega, T3.2.2⟩, by show 2 * rn r ≤ t3.2.1; omega, fun M Q hX hQ => ?_, fun M Q hX hQ => ?_⟩
          · unfold wpX2_readRanks
            simp (disch := omega) only [iI_lit, iI_neg, iI_add, iI_sub, iI_mul, iI_lt, iI_le, iI_eq, iI_in, iI_clamp, iI_mx, iI_mn, iI_nI, Int.toNat_natCast, forall_eq, br_1, br_2, br_3, br_4, br_in, br_5, br_6, br_7, br_8, ex_c, br_nl, br_le, br_ne, gp_1, gp_2, gp_3, gf_1, gf_2, hX.2.1.1, e0]
            refine XC.st hX (by omega) C1 (fun Ma fa xa => ?_)
            simp (disch := omega) only [iI_lit, iI_neg, iI_add, iI_sub, iI_mul, iI_lt, iI_le, iI_eq, iI_in, iI_clamp, iI_mx, iI_mn, iI_nI, Int.toNat_natCast, forall_eq, br_1, br_2, br_3, br_4, br_in, br_5, br_6, br_7, br_8, ex_c, br_nl, br_le, br_ne, gp_1, gp_2, gp_3, gf_1, gf_2, e_wantsWord_y hB xa.1 T1 xa.2.2.1 (show 3 < 10 by omega) w]
            refine XC.st xa (by rw [w.1]; omega) C2 (fun Mb fb xb => ?_)
            simp (disch := omega) only [iI_lit, iI_neg, iI_add, iI_sub, iI_mul, iI_lt, iI_le, iI_eq, iI_in, iI_clamp, iI_mx, iI_mn, iI_nI, Int.toNat_natCast, forall_eq, br_1, br_2, br_3, br_4, br_in, br_5, br_6, br_7, br_8, ex_c, br_nl, br_le, br_ne, gp_1, gp_2, gp_3, gf_1, gf_2, e_wantsWhole_y T2 xb.2.2.1 k3 nb, xb.2.2.1.2.2.2.2 k3]
            refine XC.st xb.e (by omega) C3 (fun Mc fc xc => ?_)
            exact hQ Mc (((fa.t fb).p (by omega)).t fc) xc
          · unfold wpX4_readRanks
            simp (disch := omega) only [iI_lit, iI_neg, iI_add, iI_sub, iI_mul, iI_lt, iI_le, iI_eq, iI_in, iI_clamp, iI_mx, iI_mn, iI_nI, Int.toNat_natCast, forall_eq, br_1, br_2, br_3, br_4, br_in, br_5, br_6, br_7, br_8, ex_c, br_nl, br_le, br_ne, gp_1, gp_2, gp_3, gf_1, gf_2, hX.2.1.1, e0]
            refine XM.st hX (by omega) M1 (fun Ma fa xa => ?_)
            unfold wpX4_readPart
            rw [m_needs_y T1 xa.2.2 (by omega) (by rw [isW_5 (v := 3) (by omega)]; exact w)]
            refine XM.st xa (by rw [w.1]; omega) M2 (fun Mb fb xb => ?_)
            rw [m_readWhole_y T2 xb.2.2 k3 nb (by omega)]
            refine XM.st xb (by omega) M3 (fun Mc fc xc => ?_)
            simp (disch := omega) only [iI_lit, iI_neg, iI_add, iI_sub, iI_mul, iI_lt, iI_le, iI_eq, iI_in, iI_clamp, iI_mx, iI_mn, iI_nI, Int.toNat_natCast, forall_eq, br_1, br_2, br_3, br_4, br_in, br_5, br_6, br_7, br_8, ex_c, br_nl, br_le, br_ne, gp_1, gp_2, gp_3, gf_1, gf_2, xc.1.2.1]
            exact hQ _ (((fa.t fb).t fc).p (by omega)) xc.e
        · refine Or.inr ⟨2, t2.2.1, by omega, fun M Q hX hQ => ?_, fun M Q hX hQ => ?_⟩
          · unfold wpX2_readRanks
            simp (disch := omega) only [iI_lit, iI_neg, iI_add, iI_sub, iI_mul, iI_lt, iI_le, iI_eq, iI_in, iI_clamp, iI_mx, iI_mn, iI_nI, Int.toNat_natCast, forall_eq, br_1, br_2, br_3, br_4, br_in, br_5, br_6, br_7, br_8, ex_c, br_nl, br_le, br_ne, gp_1, gp_2, gp_3, gf_1, gf_2, hX.2.1.1, e0]
            refine XC.st hX (by omega) C1 (fun Ma fa xa => ?_)
            simp (disch := omega) only [iI_lit, iI_neg, iI_add, iI_sub, iI_mul, iI_lt, iI_le, iI_eq, iI_in, iI_clamp, iI_mx, iI_mn, iI_nI, Int.toNat_natCast, forall_eq, br_1, br_2, br_3, br_4, br_in, br_5, br_6, br_7, br_8, ex_c, br_nl, br_le, br_ne, gp_1, gp_2, gp_3, gf_1, gf_2, e_wantsWord_y hB xa.1 T1 xa.2.2.1 (show 3 < 10 by omega) w]
            refine XC.st xa (by rw [w.1]; omega) C2 (fun Mb fb xb => ?_)
            simp (disch := omega) only [iI_lit, iI_neg, iI_add, iI_sub, iI_mul, iI_lt, iI_le, iI_eq, iI_in, iI_clamp, iI_mx, iI_mn, iI_nI, Int.toNat_natCast, forall_eq, br_1, br_2, br_3, br_4, br_in, br_5, br_6, br_7, br_8, ex_c, br_nl, br_le, br_ne, gp_1, gp_2, gp_3, gf_1, gf_2, e_wantsWhole_b T2 xb.2.2.1 k3 nb]
            exact hQ _ ((fa.t fb).t fC_1.1) fC_1.2.1 fC_1.2.2
          · unfold wpX4_readRanks
            simp (disch := omega) only [iI_lit, iI_neg, iI_add, iI_sub, iI_mul, iI_lt, iI_le, iI_eq, iI_in, iI_clamp, iI_mx, iI_mn, iI_nI, Int.toNat_natCast, forall_eq, br_1, br_2, br_3, br_4, br_in, br_5, br_6, br_7, br_8, ex_c, br_nl, br_le, br_ne, gp_1, gp_2, gp_3, gf_1, gf_2, hX.2.1.1, e0]
            refine XM.st hX (by omega) M1 (fun Ma fa xa => ?_)
            unfold wpX4_readPart
            rw [m_needs_y T1 xa.2.2 (by omega) (by rw [isW_5 (v := 3) (by omega)]; exact w)]
            refine XM.st xa (by rw [w.1]; omega) M2 (fun Mb fb xb => ?_)
            rw [m_readWhole_b xb.1 T2 xb.2.2 k3 nb (by omega)]
            have hf := fM_1 (f := 2) xb.2.2
            simp (disch := omega) only [iI_lit, iI_neg, iI_add, iI_sub, iI_mul, iI_lt, iI_le, iI_eq, iI_in, iI_clamp, iI_mx, iI_mn, iI_nI, Int.toNat_natCast, forall_eq, br_1, br_2, br_3, br_4, br_in, br_5, br_6, br_7, br_8, ex_c, br_nl, br_le, br_ne, gp_1, gp_2, gp_3, gf_1, gf_2, hf.2.1]
            exact hQ _ ((fa.t fb).t hf.1) hf.2
      · refine Or.inr ⟨1, t2.2.1, by omega, fun M Q hX hQ => ?_, fun M Q hX hQ => ?_⟩
        · unfold wpX2_readRanks
          simp (disch := omega) only [iI_lit, iI_neg, iI_add, iI_sub, iI_mul, iI_lt, iI_le, iI_eq, iI_in, iI_clamp, iI_mx, iI_mn, iI_nI, Int.toNat_natCast, forall_eq, br_1, br_2, br_3, br_4, br_in, br_5, br_6, br_7, br_8, ex_c, br_nl, br_le, br_ne, gp_1, gp_2, gp_3, gf_1, gf_2, hX.2.1.1, e0]
          refine XC.st hX (by omega) C1 (fun Ma fa xa => ?_)
          simp (disch := omega) only [iI_lit, iI_neg, iI_add, iI_sub, iI_mul, iI_lt, iI_le, iI_eq, iI_in, iI_clamp, iI_mx, iI_mn, iI_nI, Int.toNat_natCast, forall_eq, br_1, br_2, br_3, br_4, br_in, br_5, br_6, br_7, br_8, ex_c, br_nl, br_le, br_ne, gp_1, gp_2, gp_3, gf_1, gf_2, e_wantsWord_y hB xa.1 T1 xa.2.2.1 (show 3 < 10 by omega) w]
          refine XC.st xa (by rw [w.1]; omega) C2 (fun Mb fb xb => ?_)
          simp (disch := omega) only [iI_lit, iI_neg, iI_add, iI_sub, iI_mul, iI_lt, iI_le, iI_eq, iI_in, iI_clamp, iI_mx, iI_mn, iI_nI, Int.toNat_natCast, forall_eq, br_1, br_2, br_3, br_4, br_in, br_5, br_6, br_7, br_8, ex_c, br_nl, br_le, br_ne, gp_1, gp_2, gp_3, gf_1, gf_2, e_wantsWhole_k T2 xb.2.2.1 k3]
          exact hQ _ ((fa.t fb).t fC_1.1) fC_1.2.1 fC_1.2.2
        · unfold wpX4_readRanks
          simp (disch := omega) only [iI_lit, iI_neg, iI_add, iI_sub, iI_mul, iI_lt, iI_le, iI_eq, iI_in, iI_clamp, iI_mx, iI_mn, iI_nI, Int.toNat_natCast, forall_eq, br_1, br_2, br_3, br_4, br_in, br_5, br_6, br_7, br_8, ex_c, br_nl, br_le, br_ne, gp_1, gp_2, gp_3, gf_1, gf_2, hX.2.1.1, e0]
          refine XM.st hX (by omega) M1 (fun Ma fa xa => ?_)
          unfold wpX4_readPart
          rw [m_needs_y T1 xa.2.2 (by omega) (by rw [isW_5 (v := 3) (by omega)]; exact w)]
          refine XM.st xa (by rw [w.1]; omega) M2 (fun Mb fb xb => ?_)
          rw [m_readWhole_k xb.1 T2 xb.2.2 k3]
          have hf := fM_1 (f := 1) xb.2.2
          simp (disch := omega) only [iI_lit, iI_neg, iI_add, iI_sub, iI_mul, iI_lt, iI_le, iI_eq, iI_in, iI_clamp, iI_mx, iI_mn, iI_nI, Int.toNat_natCast, forall_eq, br_1, br_2, br_3, br_4, br_in, br_5, br_6, br_7, br_8, ex_c, br_nl, br_le, br_ne, gp_1, gp_2, gp_3, gf_1, gf_2, hf.2.1]
          exact hQ _ ((fa.t fb).t hf.1) hf.2
    · refine Or.inr ⟨1, t1.2.1, by omega, fun M Q hX hQ => ?_, fun M Q hX hQ => ?_⟩
      · unfold wpX2_readRanks
        simp (disch := omega) only [iI_lit, iI_neg, iI_add, iI_sub, iI_mul, iI_lt, iI_le, iI_eq, iI_in, iI_clamp, iI_mx, iI_mn, iI_nI, Int.toNat_natCast, forall_eq, br_1, br_2, br_3, br_4, br_in, br_5, br_6, br_7, br_8, ex_c, br_nl, br_le, br_ne, gp_1, gp_2, gp_3, gf_1, gf_2, hX.2.1.1, e0]
        refine XC.st hX (by omega) C1 (fun Ma fa xa => ?_)
        simp (disch := omega) only [iI_lit, iI_neg, iI_add, iI_sub, iI_mul, iI_lt, iI_le, iI_eq, iI_in, iI_clamp, iI_mx, iI_mn, iI_nI, Int.toNat_natCast, forall_eq, br_1, br_2, br_3, br_4, br_in, br_5, br_6, br_7, br_8, ex_c, br_nl, br_le, br_ne, gp_1, gp_2, gp_3, gf_1, gf_2, e_wantsWord_n hB xa.1 T1 xa.2.2.1 (show 3 < 10 by omega) w]
        exact hQ _ (fa.t fC_1.1) fC_1.2.1 fC_1.2.2
      · unfold wpX4_readRanks
        simp (disch := omega) only [iI_lit, iI_neg, iI_add, iI_sub, iI_mul, iI_lt, iI_le, iI_eq, iI_in, iI_clamp, iI_mx, iI_mn, iI_nI, Int.toNat_natCast, forall_eq, br_1, br_2, br_3, br_4, br_in, br_5, br_6, br_7, br_8, ex_c, br_nl, br_le, br_ne, gp_1, gp_2, gp_3, gf_1, gf_2, hX.2.1.1, e0]
        refine XM.st hX (by omega) M1 (fun Ma fa xa => ?_)
        unfold wpX4_readPart
        have hf := fM_1 (f := 1) xa.2.2
        rw [m_needs_n xa.1 T1 xa.2.2 (by omega) (by rw [isW_5 (v := 3) (by omega)]; exact w), d_readWhole hf.2 (by omega)]
        simp (disch := omega) only [iI_lit, iI_neg, iI_add, iI_sub, iI_mul, iI_lt, iI_le, iI_eq, iI_in, iI_clamp, iI_mx, iI_mn, iI_nI, Int.toNat_natCast, forall_eq, br_1, br_2, br_3, br_4, br_in, br_5, br_6, br_7, br_8, ex_c, br_nl, br_le, br_ne, gp_1, gp_2, gp_3, gf_1, gf_2, hf.2.1]
        exact hQ _ (fa.t hf.1) hf.2
  · refine Or.inr ⟨4, t.2.1, by omega, fun M Q hX hQ => ?_, fun M Q hX hQ => ?_⟩
    · unfold wpX2_readRanks
      simp (disch := omega) only [iI_lit, iI_neg, iI_add, iI_sub, iI_mul, iI_lt, iI_le, iI_eq, iI_in, iI_clamp, iI_mx, iI_mn, iI_nI, Int.toNat_natCast, forall_eq, br_1, br_2, br_3, br_4, br_in, br_5, br_6, br_7, br_8, ex_c, br_nl, br_le, br_ne, gp_1, gp_2, gp_3, gf_1, gf_2, hX.2.1.1, e_fail hX.2.2.1]
      simp only [true_or, true_and]
      exact hQ _ fC_1.1 fC_1.2.1 fC_1.2.2
    · unfold wpX4_readRanks
      have hf := fM_1 (f := 4) hX.2.2
      simp (disch := omega) only [iI_lit, iI_neg, iI_add, iI_sub, iI_mul, iI_lt, iI_le, iI_eq, iI_in, iI_clamp, iI_mx, iI_mn, iI_nI, Int.toNat_natCast, forall_eq, br_1, br_2, br_3, br_4, br_in, br_5, br_6, br_7, br_8, ex_c, br_nl, br_le, br_ne, gp_1, gp_2, gp_3, gf_1, gf_2, hX.2.1.1, m_flaw hX.1, d_goOn hf.2, d_readPart (show 8 < 10 by omega) hf.2, hf.2.1]
      exact hQ _ hf.1 hf.2
