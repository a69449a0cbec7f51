theorem l_fill {M : Mem} {a : Nat} {Q : Mem → Prop} (hQ : ∀ M', Fr a a M M' → (∀ k, k < 1000 → gI M' a k = iI 0) → Q M') : ∀ f i M1, 1000 - i = f → i ≤ 1000 → Fr a a M M1 → (∀ k, k < i → gI M1 a k = iI 0) → ∃ m, wJ7_fill_53178_5 Q a (iI 0) (iI 1000) m M1 (iI (i : Nat)) := by
  intro f
  induction f with
  | zero =>
    intro i M1 hf hi hF hk
    rw [ex_s rfl]
    simp only [wJ7_fill_53178_5]
    simp (disch := omega) only [iI_lit, iI_neg, iI_add, iI_sub, iI_mul, iI_lt, iI_le, iI_eq, iI_in, iI_clamp, iI_mx, iI_mn, iI_nI, Int.toNat_natCast, forall_eq, br_1, br_2, br_3, br_4, br_in, br_5, br_6, br_7, br_8, ex_c, br_nl, br_le, br_ne, gp_1, gp_2, gp_3, gf_1, gf_2]
    exact hQ M1 hF (fun k hk' => hk k (by omega))
  | succ f ih =>
    intro i M1 hf hi hF hk
    rw [ex_s rfl]
    simp only [wJ7_fill_53178_5]
    simp (disch := omega) only [iI_lit, iI_neg, iI_add, iI_sub, iI_mul, iI_lt, iI_le, iI_eq, iI_in, iI_clamp, iI_mx, iI_mn, iI_nI, Int.toNat_natCast, forall_eq, br_1, br_2, br_3, br_4, br_in, br_5, br_6, br_7, br_8, ex_c, br_nl, br_le, br_ne, gp_1, gp_2, gp_3, gf_1, gf_2]
    have := ih (i + 1) (pI M1 a i (iI 0)) (by omega) (by omega) (Fr.p hF (by omega)) (fun k hk' => by
      by_cases c : k = i
      · rw [c, gp_1]
      · rw [gp_3 c]
        exact hk k (by omega))
    simpa using this
theorem e_fill {M : Mem} {a : Nat} {Q : Mem → Prop} (hQ : ∀ M', Fr a a M M' → (∀ k, k < 1000 → gI M' a k = iI 0) → Q M') : wpJ7_fill_53178 M a (iI 0) Q := by
  unfold wpJ7_fill_53178
  have := l_fill hQ 1000 0 M rfl (by omega) (Fr.r _ _ _) (fun k hk => by omega)
  simp (disch := omega) only [iI_lit, iI_neg, iI_add, iI_sub, iI_mul, iI_lt, iI_le, iI_eq, iI_in, iI_clamp, iI_mx, iI_mn, iI_nI, Int.toNat_natCast, forall_eq]
  simpa using this
theorem e_dropValues {M : Mem} {b : Nat} {x : St} {Q : Mem → Prop} (h : CT M b x) (hQ : ∀ M', Fr b (b + 9) M M' → CT M' b (xDrop x) → Q M') : wpX1_dropValues M b Q := by
  obtain ⟨h1, h2, h3, h4, h5, h6⟩ := h
  unfold wpX1_dropValues
  simp only [iI_lit]
  refine e_fill (fun M1 hF hz => ?_)
  simp (disch := omega) only [iI_lit, iI_neg, iI_add, iI_sub, iI_mul, iI_lt, iI_le, iI_eq, iI_in, iI_clamp, iI_mx, iI_mn, iI_nI, Int.toNat_natCast, forall_eq, br_1, br_2, br_3, br_4, br_in, br_5, br_6, br_7, br_8, ex_c, br_nl, br_le, br_ne, gp_1, gp_2, gp_3, gf_1, gf_2]
  have e2 := hF.g (b := b) (by omega) 3
  have e3 := hF.g (b := b) (by omega) 5
  refine hQ _ (Fr.p (Fr.p (Fr.p (hF.w (by omega) (by omega)) (by omega)) (by omega)) (by omega)) ⟨?_, ?_, ?_, ?_, ?_, ?_, ?_⟩
  · simp (disch := omega) only [iI_lit, iI_neg, iI_add, iI_sub, iI_mul, iI_lt, iI_le, iI_eq, iI_in, iI_clamp, iI_mx, iI_mn, iI_nI, Int.toNat_natCast, forall_eq, br_1, br_2, br_3, br_4, br_in, br_5, br_6, br_7, br_8, ex_c, br_nl, br_le, br_ne, gp_1, gp_2, gp_3, gf_1, gf_2]
    rfl
  · simp (disch := omega) only [iI_lit, iI_neg, iI_add, iI_sub, iI_mul, iI_lt, iI_le, iI_eq, iI_in, iI_clamp, iI_mx, iI_mn, iI_nI, Int.toNat_natCast, forall_eq, br_1, br_2, br_3, br_4, br_in, br_5, br_6, br_7, br_8, ex_c, br_nl, br_le, br_ne, gp_1, gp_2, gp_3, gf_1, gf_2, e2]
    exact h2
  · simp (disch := omega) only [iI_lit, iI_neg, iI_add, iI_sub, iI_mul, iI_lt, iI_le, iI_eq, iI_in, iI_clamp, iI_mx, iI_mn, iI_nI, Int.toNat_natCast, forall_eq, br_1, br_2, br_3, br_4, br_in, br_5, br_6, br_7, br_8, ex_c, br_nl, br_le, br_ne, gp_1, gp_2, gp_3, gf_1, gf_2]
    rfl
  · simp (disch := omega) only [iI_lit, iI_neg, iI_add, iI_sub, iI_mul, iI_lt, iI_le, iI_eq, iI_in, iI_clamp, iI_mx, iI_mn, iI_nI, Int.toNat_natCast, forall_eq, br_1, br_2, br_3, br_4, br_in, br_5, br_6, br_7, br_8, ex_c, br_nl, br_le, br_ne, gp_1, gp_2, gp_3, gf_1, gf_2, e3]
    exact h4
  · intro k hk
    simp (disch := omega) only [iI_lit, iI_neg, iI_add, iI_sub, iI_mul, iI_lt, iI_le, iI_eq, iI_in, iI_clamp, iI_mx, iI_mn, iI_nI, Int.toNat_natCast, forall_eq, br_1, br_2, br_3, br_4, br_in, br_5, br_6, br_7, br_8, ex_c, br_nl, br_le, br_ne, gp_1, gp_2, gp_3, gf_1, gf_2]
    exact hz k hk
  · simp (disch := omega) only [iI_lit, iI_neg, iI_add, iI_sub, iI_mul, iI_lt, iI_le, iI_eq, iI_in, iI_clamp, iI_mx, iI_mn, iI_nI, Int.toNat_natCast, forall_eq, br_1, br_2, br_3, br_4, br_in, br_5, br_6, br_7, br_8, ex_c, br_nl, br_le, br_ne, gp_1, gp_2, gp_3, gf_1, gf_2]
    rfl
  · intro k hk
    exact absurd hk (Nat.not_lt_zero k)
theorem e_begin {M : Mem} {b : Nat} {x : St} {Q : Mem → Prop} {e : Int} (h : CT M b x) (hQ : ∀ M', Fr b (b + 9) M M' → CT M' b (xBegin x e) → Q M') : wpX1_begin M b (iI e) Q := by
  unfold wpX1_begin
  refine e_dropValues h (fun M1 hF hC => ?_)
  simp (disch := omega) only [iI_lit, iI_neg, iI_add, iI_sub, iI_mul, iI_lt, iI_le, iI_eq, iI_in, iI_clamp, iI_mx, iI_mn, iI_nI, Int.toNat_natCast, forall_eq, br_1, br_2, br_3, br_4, br_in, br_5, br_6, br_7, br_8, ex_c, br_nl, br_le, br_ne, gp_1, gp_2, gp_3, gf_1, gf_2]
  obtain ⟨h1, h2, h3, h4, h5, h6⟩ := hC
  refine hQ _ (Fr.p (Fr.p hF (by omega)) (by omega)) ⟨?_, ?_, ?_, ?_, ?_, ?_⟩
  · simp (disch := omega) only [iI_lit, iI_neg, iI_add, iI_sub, iI_mul, iI_lt, iI_le, iI_eq, iI_in, iI_clamp, iI_mx, iI_mn, iI_nI, Int.toNat_natCast, forall_eq, br_1, br_2, br_3, br_4, br_in, br_5, br_6, br_7, br_8, ex_c, br_nl, br_le, br_ne, gp_1, gp_2, gp_3, gf_1, gf_2]
    exact h1
  · simp (disch := omega) only [iI_lit, iI_neg, iI_add, iI_sub, iI_mul, iI_lt, iI_le, iI_eq, iI_in, iI_clamp, iI_mx, iI_mn, iI_nI, Int.toNat_natCast, forall_eq, br_1, br_2, br_3, br_4, br_in, br_5, br_6, br_7, br_8, ex_c, br_nl, br_le, br_ne, gp_1, gp_2, gp_3, gf_1, gf_2]
    rfl
  · simp (disch := omega) only [iI_lit, iI_neg, iI_add, iI_sub, iI_mul, iI_lt, iI_le, iI_eq, iI_in, iI_clamp, iI_mx, iI_mn, iI_nI, Int.toNat_natCast, forall_eq, br_1, br_2, br_3, br_4, br_in, br_5, br_6, br_7, br_8, ex_c, br_nl, br_le, br_ne, gp_1, gp_2, gp_3, gf_1, gf_2]
    exact h3
  · simp (disch := omega) only [iI_lit, iI_neg, iI_add, iI_sub, iI_mul, iI_lt, iI_le, iI_eq, iI_in, iI_clamp, iI_mx, iI_mn, iI_nI, Int.toNat_natCast, forall_eq, br_1, br_2, br_3, br_4, br_in, br_5, br_6, br_7, br_8, ex_c, br_nl, br_le, br_ne, gp_1, gp_2, gp_3, gf_1, gf_2]
    rfl
  · intro k hk
    simp (disch := omega) only [iI_lit, iI_neg, iI_add, iI_sub, iI_mul, iI_lt, iI_le, iI_eq, iI_in, iI_clamp, iI_mx, iI_mn, iI_nI, Int.toNat_natCast, forall_eq, br_1, br_2, br_3, br_4, br_in, br_5, br_6, br_7, br_8, ex_c, br_nl, br_le, br_ne, gp_1, gp_2, gp_3, gf_1, gf_2]
    exact h5 k hk
  · exact (h6.p (by omega)).p (by omega)
theorem e_shortenRow {M : Mem} {b : Nat} {x : St} {Q : Qi} {er : Int} (he : 2 ≤ er ∧ er ≤ 1000) (h : CT M b x) (hR : RI (tN x) (tn x) (tv x) (tl x) (td x)) (hQ : ∀ M', Fr b (b + 9) M M' → CT M' b (xShort x er) → Q (iI ((tn x : Int) - (xK x er).length)) M') : wpX1_shortenRow M b (iI er) Q := by
  obtain ⟨h1, h2, h3, h4, h5, h6⟩ := h
  have hN := hR.1
  unfold wpX1_shortenRow
  simp (disch := omega) only [iI_lit, iI_neg, iI_add, iI_sub, iI_mul, iI_lt, iI_le, iI_eq, iI_in, iI_clamp, iI_mx, iI_mn, iI_nI, Int.toNat_natCast, forall_eq, br_1, br_2, br_3, br_4, br_in, br_5, br_6, br_7, br_8, ex_c, br_nl, br_le, br_ne, gp_1, gp_2, gp_3, gf_1, gf_2, h4, h1, e_boundOf]
  have hb := bo_b (n := tN x) (e := er) (by omega) he.1
  refine e_shorten ((h6.p (by omega)).p (by omega)) hR (by omega) (fun M1 hF hC => ?_)
  refine hQ M1 (Fr.t (Fr.p (Fr.p (Fr.r _ _ _) (by omega)) (by omega)) (hF.w (by omega) (by omega))) ⟨?_, ?_, ?_, ?_, ?_, hC⟩
  · rw [hF.g (by omega)]
    simp (disch := omega) only [iI_lit, iI_neg, iI_add, iI_sub, iI_mul, iI_lt, iI_le, iI_eq, iI_in, iI_clamp, iI_mx, iI_mn, iI_nI, Int.toNat_natCast, forall_eq, br_1, br_2, br_3, br_4, br_in, br_5, br_6, br_7, br_8, ex_c, br_nl, br_le, br_ne, gp_1, gp_2, gp_3, gf_1, gf_2]
    exact h1
  · rw [hF.g (by omega)]
    simp (disch := omega) only [iI_lit, iI_neg, iI_add, iI_sub, iI_mul, iI_lt, iI_le, iI_eq, iI_in, iI_clamp, iI_mx, iI_mn, iI_nI, Int.toNat_natCast, forall_eq, br_1, br_2, br_3, br_4, br_in, br_5, br_6, br_7, br_8, ex_c, br_nl, br_le, br_ne, gp_1, gp_2, gp_3, gf_1, gf_2]
    exact h2
  · rw [hF.g (by omega)]
    simp (disch := omega) only [iI_lit, iI_neg, iI_add, iI_sub, iI_mul, iI_lt, iI_le, iI_eq, iI_in, iI_clamp, iI_mx, iI_mn, iI_nI, Int.toNat_natCast, forall_eq, br_1, br_2, br_3, br_4, br_in, br_5, br_6, br_7, br_8, ex_c, br_nl, br_le, br_ne, gp_1, gp_2, gp_3, gf_1, gf_2]
    rfl
  · rw [hF.g (by omega)]
    simp (disch := omega) only [iI_lit, iI_neg, iI_add, iI_sub, iI_mul, iI_lt, iI_le, iI_eq, iI_in, iI_clamp, iI_mx, iI_mn, iI_nI, Int.toNat_natCast, forall_eq, br_1, br_2, br_3, br_4, br_in, br_5, br_6, br_7, br_8, ex_c, br_nl, br_le, br_ne, gp_1, gp_2, gp_3, gf_1, gf_2]
    rfl
  · intro k hk
    rw [hF.g (by omega)]
    simp (disch := omega) only [iI_lit, iI_neg, iI_add, iI_sub, iI_mul, iI_lt, iI_le, iI_eq, iI_in, iI_clamp, iI_mx, iI_mn, iI_nI, Int.toNat_natCast, forall_eq, br_1, br_2, br_3, br_4, br_in, br_5, br_6, br_7, br_8, ex_c, br_nl, br_le, br_ne, gp_1, gp_2, gp_3, gf_1, gf_2]
    exact h5 k hk
theorem e_isDue {M : Mem} {b : Nat} {Q : Qi} {e s : Int} (h1 : gI M b 3 = iI e) (h2 : gI M b 4 = iI s) (he : 0 ≤ e ∧ e ≤ 60) (hs : 0 ≤ s ∧ s ≤ 1000) : wpX1_isDue M b Q = Q (iI (if e ≤ s then 1 else 0)) M := by
  unfold wpX1_isDue
  rw [h1, h2]
  by_cases c : e ≤ s
  · simp (disch := omega) only [iI_lit, iI_neg, iI_add, iI_sub, iI_mul, iI_lt, iI_le, iI_eq, iI_in, iI_clamp, iI_mx, iI_mn, iI_nI, Int.toNat_natCast, forall_eq, br_1, br_2, br_3, br_4, br_in, br_5, br_6, br_7, br_8, ex_c, br_nl, br_le, br_ne, gp_1, gp_2, gp_3, gf_1, gf_2]
    rw [if_pos c]
  · simp (disch := omega) only [iI_lit, iI_neg, iI_add, iI_sub, iI_mul, iI_lt, iI_le, iI_eq, iI_in, iI_clamp, iI_mx, iI_mn, iI_nI, Int.toNat_natCast, forall_eq, br_1, br_2, br_3, br_4, br_in, br_5, br_6, br_7, br_8, ex_c, br_nl, br_le, br_ne, gp_1, gp_2, gp_3, gf_1, gf_2]
    rw [if_neg c]
theorem e_isValue {M : Mem} {w : Int} {Q : Qi} (hw : 0 ≤ w ∧ w < 1000) : wpX3_isValue M (iI w) Q = Q (iI 1) M := by
  unfold wpX3_isValue
  simp (disch := omega) only [iI_lit, iI_neg, iI_add, iI_sub, iI_mul, iI_lt, iI_le, iI_eq, iI_in, iI_clamp, iI_mx, iI_mn, iI_nI, Int.toNat_natCast, forall_eq, br_1, br_2, br_3, br_4, br_in, br_5, br_6, br_7, br_8, ex_c, br_nl, br_le, br_ne, gp_1, gp_2, gp_3, gf_1, gf_2]
theorem e_pushValue {M : Mem} {b : Nat} {x : St} {Q : Mem → Prop} {w er : Int} (he : 2 ≤ er ∧ er ≤ 1000) (hw : 0 ≤ w ∧ w < 1000) (h : CT M b x) (hS : SI x) (hN : tN x < 1000) (hQ : ∀ M', Fr b (b + 9) M M' → CT M' b (xPush x w er) → Q M') : wpX1_pushValue M b (iI w) (iI er) Q := by
  obtain ⟨h1, h2, h3, h4, h5, h6⟩ := h
  obtain ⟨s1, s2, s3, s4, s5, s6⟩ := hS
  unfold wpX1_pushValue
  rw [h1]
  simp (disch := omega) only [iI_lit, iI_neg, iI_add, iI_sub, iI_mul, iI_lt, iI_le, iI_eq, iI_in, iI_clamp, iI_mx, iI_mn, iI_nI, Int.toNat_natCast, forall_eq, br_1, br_2, br_3, br_4, br_in, br_5, br_6, br_7, br_8, ex_c, br_nl, br_le, br_ne, gp_1, gp_2, gp_3, gf_1, gf_2, e_isValue]
  refine e_insert h6 s1 hN hw (fun M1 hF hC => ?_)
  have g1 := hF.g (b := b) (by omega) 2
  have g2 := hF.g (b := b) (by omega) 3
  have g3 := hF.g (b := b) (by omega) 4
  have g4 := hF.g (b := b) (by omega) 5
  have g5 := hF.g (b := b + 1) (by omega) w.toNat
  rw [h1] at g1
  rw [h2] at g2
  rw [h3] at g3
  rw [h4] at g4
  rw [h5 w.toNat (by omega)] at g5
  simp (disch := omega) only [iI_lit, iI_neg, iI_add, iI_sub, iI_mul, iI_lt, iI_le, iI_eq, iI_in, iI_clamp, iI_mx, iI_mn, iI_nI, Int.toNat_natCast, forall_eq, br_1, br_2, br_3, br_4, br_in, br_5, br_6, br_7, br_8, ex_c, br_nl, br_le, br_ne, gp_1, gp_2, gp_3, gf_1, gf_2, g1, g3, g5]
  have key : CT (pI (pI (pI M1 (b + 1) w.toNat (iI (tc x w.toNat + 1))) b 2 (iI ((tN x : Int) + 1))) b 4 (iI (ts x + 1))) b (xIns x w) := by
    refine ⟨?_, ?_, ?_, ?_, ?_, ?_⟩
    · simp (disch := omega) only [iI_lit, iI_neg, iI_add, iI_sub, iI_mul, iI_lt, iI_le, iI_eq, iI_in, iI_clamp, iI_mx, iI_mn, iI_nI, Int.toNat_natCast, forall_eq, br_1, br_2, br_3, br_4, br_in, br_5, br_6, br_7, br_8, ex_c, br_nl, br_le, br_ne, gp_1, gp_2, gp_3, gf_1, gf_2]
      rfl
    · simp (disch := omega) only [iI_lit, iI_neg, iI_add, iI_sub, iI_mul, iI_lt, iI_le, iI_eq, iI_in, iI_clamp, iI_mx, iI_mn, iI_nI, Int.toNat_natCast, forall_eq, br_1, br_2, br_3, br_4, br_in, br_5, br_6, br_7, br_8, ex_c, br_nl, br_le, br_ne, gp_1, gp_2, gp_3, gf_1, gf_2, g2]
      rfl
    · simp (disch := omega) only [iI_lit, iI_neg, iI_add, iI_sub, iI_mul, iI_lt, iI_le, iI_eq, iI_in, iI_clamp, iI_mx, iI_mn, iI_nI, Int.toNat_natCast, forall_eq, br_1, br_2, br_3, br_4, br_in, br_5, br_6, br_7, br_8, ex_c, br_nl, br_le, br_ne, gp_1, gp_2, gp_3, gf_1, gf_2]
      rfl
    · simp (disch := omega) only [iI_lit, iI_neg, iI_add, iI_sub, iI_mul, iI_lt, iI_le, iI_eq, iI_in, iI_clamp, iI_mx, iI_mn, iI_nI, Int.toNat_natCast, forall_eq, br_1, br_2, br_3, br_4, br_in, br_5, br_6, br_7, br_8, ex_c, br_nl, br_le, br_ne, gp_1, gp_2, gp_3, gf_1, gf_2, g4]
      rfl
    · intro k hk
      show _ = iI (upi (tc x) w.toNat (tc x w.toNat + 1) k)
      unfold upi
      by_cases c : k = w.toNat
      · subst c
        rw [if_pos rfl]
        simp (disch := omega) only [iI_lit, iI_neg, iI_add, iI_sub, iI_mul, iI_lt, iI_le, iI_eq, iI_in, iI_clamp, iI_mx, iI_mn, iI_nI, Int.toNat_natCast, forall_eq, br_1, br_2, br_3, br_4, br_in, br_5, br_6, br_7, br_8, ex_c, br_nl, br_le, br_ne, gp_1, gp_2, gp_3, gf_1, gf_2]
      · simp (disch := omega) only [iI_lit, iI_neg, iI_add, iI_sub, iI_mul, iI_lt, iI_le, iI_eq, iI_in, iI_clamp, iI_mx, iI_mn, iI_nI, Int.toNat_natCast, forall_eq, br_1, br_2, br_3, br_4, br_in, br_5, br_6, br_7, br_8, ex_c, br_nl, br_le, br_ne, gp_1, gp_2, gp_3, gf_1, gf_2]
        rw [if_neg c, hF.g (by omega)]
        exact h5 k hk
    · exact ((hC.p (by omega)).p (by omega)).p (by omega)
  have hFr : Fr b (b + 9) M (pI (pI (pI M1 (b + 1) w.toNat (iI (tc x w.toNat + 1))) b 2 (iI ((tN x : Int) + 1))) b 4 (iI (ts x + 1))) := Fr.p (Fr.p (Fr.p (hF.w (by omega) (by omega)) (by omega)) (by omega)) (by omega)
  have hd : ∀ Q' : Qi, wpX1_isDue (pI (pI (pI M1 (b + 1) w.toNat (iI (tc x w.toNat + 1))) b 2 (iI ((tN x : Int) + 1))) b 4 (iI (ts x + 1))) b Q' = Q' (iI (if te x ≤ ts x + 1 then 1 else 0)) (pI (pI (pI M1 (b + 1) w.toNat (iI (tc x w.toNat + 1))) b 2 (iI ((tN x : Int) + 1))) b 4 (iI (ts x + 1))) := fun Q' => e_isDue key.2.1 key.2.2.1 (by show 0 ≤ te x ∧ te x ≤ 60; omega) (by show 0 ≤ ts x + 1 ∧ ts x + 1 ≤ 1000; omega)
  unfold xPush at hQ
  by_cases c : te x ≤ ts x + 1
  · rw [if_pos c] at hQ
    simp only [if_pos c] at hd
    simp (disch := omega) only [iI_lit, iI_neg, iI_add, iI_sub, iI_mul, iI_lt, iI_le, iI_eq, iI_in, iI_clamp, iI_mx, iI_mn, iI_nI, Int.toNat_natCast, forall_eq, br_1, br_2, br_3, br_4, br_in, br_5, br_6, br_7, br_8, ex_c, br_nl, br_le, br_ne, gp_1, gp_2, gp_3, gf_1, gf_2, hd]
    exact e_shortenRow (Q := fun _ M => Q M) he key (RI_insert s1 hN hw) (fun M2 hF2 hC2 => hQ M2 (hFr.t hF2) hC2)
  · rw [if_neg c] at hQ
    simp only [if_neg c] at hd
    simp (disch := omega) only [iI_lit, iI_neg, iI_add, iI_sub, iI_mul, iI_lt, iI_le, iI_eq, iI_in, iI_clamp, iI_mx, iI_mn, iI_nI, Int.toNat_natCast, forall_eq, br_1, br_2, br_3, br_4, br_in, br_5, br_6, br_7, br_8, ex_c, br_nl, br_le, br_ne, gp_1, gp_2, gp_3, gf_1, gf_2, hd]
    exact hQ _ hFr key
theorem l_addCounts {M : Mem} {b b' N N' : Nat} {c c' : Nat → Int} {Q : Mem → Prop} (h1 : gI M b 2 = iI N) (h2 : gI M b' 2 = iI N') (hc : CC M b c) (hc' : CC M b' c') (hb : ¬ b' = b ∧ ¬ b' = b + 1 ∧ ¬ b' + 1 = b + 1)
    (hQ : ∀ M', (M'.2 = M.2 ∧ ∀ a, ¬ a = b + 1 → ¬ a = b → M'.1 a = M.1 a) → (∀ k, ¬ k = 2 → gI M' b k = gI M b k) → gI M' b 2 = iI (N + N' : Nat) → CC M' b (fun k => c k + c' k) → Q M') :
    ∀ f i M1, 1000 - i = f → i ≤ 1000 → (M1.2 = M.2 ∧ ∀ a, ¬ a = b + 1 → M1.1 a = M.1 a) → (∀ k, k < i → gI M1 (b + 1) k = iI (c k + c' k)) → (∀ k, i ≤ k → k < 1000 → gI M1 (b + 1) k = iI (c k)) → ∃ m, wX1_addCounts_2 Q b b' m M1 (iI (i : Nat)) := by
  intro f
  induction f with
  | zero =>
    intro i M1 hf hi hF hlo hhi
    have g : ∀ a k, ¬ a = b + 1 → gI M1 a k = gI M a k := fun a k q => congrFun (hF.2 a q) k
    rw [ex_s rfl]
    simp only [wX1_addCounts_2]
    rw [g b 2 (by omega), g b' 2 (by omega), h1, h2]
    simp (disch := omega) only [iI_lit, iI_neg, iI_add, iI_sub, iI_mul, iI_lt, iI_le, iI_eq, iI_in, iI_clamp, iI_mx, iI_mn, iI_nI, Int.toNat_natCast, forall_eq, br_1, br_2, br_3, br_4, br_in, br_5, br_6, br_7, br_8, ex_c, br_nl, br_le, br_ne, gp_1, gp_2, gp_3, gf_1, gf_2]
    refine hQ _ ⟨hF.1, fun a q1 q2 => (pI_fr q2).trans (hF.2 a q1)⟩ (fun k hk => by rw [gp_3 hk]; exact g b k (by omega)) ?_ ?_
    · simp (disch := omega) only [iI_lit, iI_neg, iI_add, iI_sub, iI_mul, iI_lt, iI_le, iI_eq, iI_in, iI_clamp, iI_mx, iI_mn, iI_nI, Int.toNat_natCast, forall_eq, br_1, br_2, br_3, br_4, br_in, br_5, br_6, br_7, br_8, ex_c, br_nl, br_le, br_ne, gp_1, gp_2, gp_3, gf_1, gf_2]
      rfl
    · intro k hk
      simp (disch := omega) only [iI_lit, iI_neg, iI_add, iI_sub, iI_mul, iI_lt, iI_le, iI_eq, iI_in, iI_clamp, iI_mx, iI_mn, iI_nI, Int.toNat_natCast, forall_eq, br_1, br_2, br_3, br_4, br_in, br_5, br_6, br_7, br_8, ex_c, br_nl, br_le, br_ne, gp_1, gp_2, gp_3, gf_1, gf_2]
      exact hlo k (by omega)
  | succ f ih =>
    intro i M1 hf hi hF hlo hhi
    have g : ∀ a k, ¬ a = b + 1 → gI M1 a k = gI M a k := fun a k q => congrFun (hF.2 a q) k
    have g1 := hhi i (Nat.le_refl i) (by omega)
    have g2 := g (b' + 1) i hb.2.2
    rw [hc' i (by omega)] at g2
    rw [ex_s rfl]
    simp only [wX1_addCounts_2]
    simp (disch := omega) only [iI_lit, iI_neg, iI_add, iI_sub, iI_mul, iI_lt, iI_le, iI_eq, iI_in, iI_clamp, iI_mx, iI_mn, iI_nI, Int.toNat_natCast, forall_eq, br_1, br_2, br_3, br_4, br_in, br_5, br_6, br_7, br_8, ex_c, br_nl, br_le, br_ne, gp_1, gp_2, gp_3, gf_1, gf_2, g1, g2]
    have := ih (i + 1) (pI M1 (b + 1) i (iI (c i + c' i))) (by omega) (by omega) ⟨hF.1, fun a q => (pI_fr q).trans (hF.2 a q)⟩ (fun k hk => by
      by_cases q : k = i
      · rw [q, gp_1]
      · rw [gp_3 q]
        exact hlo k (by omega)) (fun k hk hk2 => by
      rw [gp_3 (by omega)]
      exact hhi k (by omega) hk2)
    simpa using this
theorem e_addCounts {M : Mem} {b b' N N' : Nat} {c c' : Nat → Int} {Q : Mem → Prop} (h1 : gI M b 2 = iI N) (h2 : gI M b' 2 = iI N') (hc : CC M b c) (hc' : CC M b' c') (hb : b + 1 < b' ∨ b' + 1 < b)
    (hQ : ∀ M', Fr b (b + 1) M M' → (∀ k, ¬ k = 2 → gI M' b k = gI M b k) → gI M' b 2 = iI (N + N' : Nat) → CC M' b (fun k => c k + c' k) → Q M') : wpX1_addCounts M b b' Q := by
  unfold wpX1_addCounts
  have := l_addCounts (Q := Q) h1 h2 hc hc' (by omega) (fun M' hF => hQ M' ⟨hF.1, fun a ha => hF.2 a (by omega) (by omega)⟩) 1000 0 M rfl (by omega) ⟨rfl, fun _ _ => rfl⟩ (fun k hk => by omega) (fun k _ hk => hc k hk)
  simp (disch := omega) only [iI_lit, iI_neg, iI_add, iI_sub, iI_mul, iI_lt, iI_le, iI_eq, iI_in, iI_clamp, iI_mx, iI_mn, iI_nI, Int.toNat_natCast, forall_eq]
  simpa using this
