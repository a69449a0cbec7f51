/-! THE WHOLE -/
abbrev Rw : Type := Nat × Nat × (Nat → Int) × (Nat → Int) × (Nat → Int)
def wK (w : Rw) (x : St) (er : Int) : List Nat := shK (w.2.1 + tn x) (jL w.2.2.1 (tv x) w.2.2.2.1 (tl x) w.2.1 (tn x)) (jD w.2.2.1 (tv x) w.2.2.2.1 (tl x) w.2.2.2.2 (td x) w.2.1 (tn x)) (bo (w.1 + tN x : Nat) er)
def wJ (w : Rw) (x : St) (er : Int) : Rw := (w.1 + tN x, (wK w x er).length, sel (jV w.2.2.1 (tv x) w.2.1 (tn x)) (wK w x er), sel (jL w.2.2.1 (tv x) w.2.2.2.1 (tl x) w.2.1 (tn x)) (wK w x er), sel (jD w.2.2.1 (tv x) w.2.2.2.1 (tl x) w.2.2.2.2 (td x) w.2.1 (tn x)) (wK w x er))
def wT (w : Rw) (x : St) (er : Int) : Rw := if tN x = 0 then w else if w.2.1 = 0 then (tN x, tn x, tv x, tl x, td x) else wJ w x er
def wS (S : Gs) : Nat → Rw
  | 0 => (0, 0, fun _ => 0, fun _ => 0, fun _ => 0)
  | j + 1 => wT (wS S j) (gT S j) (gE S)
/-- how many values all streams have -/
def sN (S : Gs) : Int := csum (fun j => (tN (gT S j) : Int)) (gk S)
def WR (w : Rw) : Prop := RI w.1 w.2.1 w.2.2.1 w.2.2.2.1 w.2.2.2.2
theorem csum_le {f : Nat → Int} : ∀ n, (∀ k, k < n → 0 ≤ f k ∧ f k ≤ 1000) → 0 ≤ csum f n ∧ csum f n ≤ 1000 * n := by
  intro n
  induction n with
  | zero => intro _; simp [csum]
  | succ n ih =>
    intro h
    have h1 := ih (fun k hk => h k (by omega))
    have h2 := h n (by omega)
    rw [csum]
    omega
theorem sN_b {S : Gs} (hG : GI S) : 0 ≤ sN S ∧ sN S ≤ 4000 := by
  have hk := hG.1
  have := csum_le (f := fun j => (tN (gT S j) : Int)) (gk S) (fun k hk => by
    have := (hG.si hk).1.1
    show 0 ≤ (tN (gT S k) : Int) ∧ (tN (gT S k) : Int) ≤ 1000
    omega)
  unfold sN
  omega
theorem wS_i {S : Gs} (hG : GI S) (hN : sN S ≤ 1000) : ∀ i, i ≤ gk S → WR (wS S i) ∧ ((wS S i).1 : Int) = csum (fun j => (tN (gT S j) : Int)) i := by
  intro i
  induction i with
  | zero => intro _; exact ⟨RI_0 _ _ _, rfl⟩
  | succ i ih =>
    intro hi
    obtain ⟨h1, h2⟩ := ih (by omega)
    have hS := hG.si (show i < gk S by omega)
    have hm := csum_mono (c := fun j => (tN (gT S j) : Int)) (n := gk S) (fun k _ => by show (0 : Int) ≤ (tN (gT S k) : Int); omega) (gk S - (i + 1)) (i + 1) (by omega)
    rw [show i + 1 + (gk S - (i + 1)) = gk S by omega] at hm
    unfold sN at hN
    rw [csum] at hm ⊢
    rw [wS, wT]
    by_cases c1 : tN (gT S i) = 0
    · rw [if_pos c1]
      refine ⟨h1, ?_⟩
      omega
    · rw [if_neg c1]
      by_cases c2 : (wS S i).2.1 = 0
      · rw [if_pos c2]
        refine ⟨hS.1, ?_⟩
        have := h1.2.2.1 c2
        show (tN (gT S i) : Int) = _
        omega
      · rw [if_neg c2]
        have hN2 : (wS S i).1 + tN (gT S i) ≤ 1000 := by omega
        refine ⟨(RI_sh (RI_join h1 hS.1 hN2) _).1, ?_⟩
        show (((wS S i).1 + tN (gT S i) : Nat) : Int) = _
        omega
theorem wS_b {S : Gs} (hG : GI S) (hN : sN S ≤ 1000) {i : Nat} (hi : i < gk S) : (wS S i).1 + tN (gT S i) ≤ 1000 := by
  have h2 := (wS_i hG hN i (by omega)).2
  have hm := csum_mono (c := fun j => (tN (gT S j) : Int)) (n := gk S) (fun k _ => by show (0 : Int) ≤ (tN (gT S k) : Int); omega) (gk S - (i + 1)) (i + 1) (by omega)
  rw [show i + 1 + (gk S - (i + 1)) = gk S by omega, csum] at hm
  unfold sN at hN
  omega
theorem CS.w {mk : Nat} {S : Gs} {M M' : Mem} (h : CS mk S M) (hG : GI S) (hF : Fr 10 24 M M') : CS mk S M' := h.t hG (RC.f (RC.r _) hF (by omega)) ((hF.g (by omega) 5).trans h.2.2.2.2.1)
theorem MS.w {b : Nat} {S : Gs} {M M' : Mem} (h : MS S M) (hG : GI S) (hF : FrW b M M') (hb : b = 4 ∨ b = 5) : MS S M' := h.rm hG (RM.w (RM.r _) hF hb) (hF.2 _ _ (by omega) (by omega)) (hF.2 _ _ (by omega) (by omega))
def WC (M : Mem) (a : Nat) (w : Rw) : Prop := CR M a w.2.1 w.2.2.1 w.2.2.2.1 w.2.2.2.2
def WM (M : Mem) (a : Nat) (w : Rw) : Prop := MR M a w.2.1 w.2.2.1 w.2.2.2.1 w.2.2.2.2
theorem l_makeWhole {mk : Nat} {S : Gs} {M : Mem} {Q : Nat → Mem → Prop} (hG : GI S) (hN : sN S ≤ 1000) (hQ : ∀ a M', (a = 10 ∨ a = 20) → Fr 10 24 M M' → WC M' a (wS S (gk S)) → Q a M') :
    ∀ f i M1 a b g, f < g → gk S - i = f → i ≤ gk S → ((a = 10 ∧ b = 20) ∨ (a = 20 ∧ b = 10)) → Fr 10 24 M M1 → CS mk S M1 → WC M1 a (wS S i) → wX3_makeWhole_17 mk Q g M1 a b (iI (i : Nat)) := by
  have hk := hG.1
  intro f
  induction f with
  | zero =>
    intro i M1 a b g hg hf hi hab hF hC hW
    have e : i = gk S := by omega
    subst e
    obtain ⟨g, rfl⟩ : ∃ g', g = g' + 1 := ⟨g - 1, by omega⟩
    simp only [wX3_makeWhole_17]
    simp (disch := omega) only [iI_lit, iI_neg, iI_add, iI_sub, iI_mul, iI_lt, iI_le, iI_eq, iI_in, iI_clamp, iI_mx, iI_mn, iI_nI, Int.toNat_natCast, forall_eq, br_1, br_2, br_3, br_4, br_in, br_5, br_6, br_7, br_8, ex_c, br_nl, br_le, br_ne, gp_1, gp_2, gp_3, gf_1, gf_2, hC.2.1]
    exact hQ a M1 (by omega) hF hW
  | succ f ih =>
    intro i M1 a b g hg hf hi hab hF hC hW
    obtain ⟨g, rfl⟩ : ∃ g', g = g' + 1 := ⟨g - 1, by omega⟩
    have hi' : i < gk S := by omega
    have hT := hC.ct hi'
    have hS := hG.si hi'
    have hE := hG.er hi'
    have hb := wS_b hG hN hi'
    have hwi := (wS_i hG hN i hi).1
    have hn1 : (wS S i).2.1 ≤ 1000 := Nat.le_trans hwi.2.1 hwi.1
    have hn2 := hG.nb hi'
    have hN1 := hS.1.1
    have hw1 : wS S (i + 1) = wT (wS S i) (gT S i) (gE S) := rfl
    unfold wT at hw1
    simp only [wX3_makeWhole_17]
    by_cases c1 : tN (gT S i) = 0
    · rw [if_pos c1] at hw1
      have := ih (i + 1) M1 a b g (by omega) (by omega) (by omega) hab hF hC (by rw [hw1]; exact hW)
      simp (disch := omega) only [iI_lit, iI_neg, iI_add, iI_sub, iI_mul, iI_lt, iI_le, iI_eq, iI_in, iI_clamp, iI_mx, iI_mn, iI_nI, Int.toNat_natCast, forall_eq, br_1, br_2, br_3, br_4, br_in, br_5, br_6, br_7, br_8, ex_c, br_nl, br_le, br_ne, gp_1, gp_2, gp_3, gf_1, gf_2, hC.2.1, c_find_y hC hG hi', o_some, hT.1]
      simpa using this
    · rw [if_neg c1] at hw1
      by_cases c2 : (wS S i).2.1 = 0
      · rw [if_pos c2] at hw1
        have h4 : gI M1 a 4 = iI ((wS S i).2.1 : Nat) := hW.1
        simp (disch := omega) only [iI_lit, iI_neg, iI_add, iI_sub, iI_mul, iI_lt, iI_le, iI_eq, iI_in, iI_clamp, iI_mx, iI_mn, iI_nI, Int.toNat_natCast, forall_eq, br_1, br_2, br_3, br_4, br_in, br_5, br_6, br_7, br_8, ex_c, br_nl, br_le, br_ne, gp_1, gp_2, gp_3, gf_1, gf_2, hC.2.1, c_find_y hC hG hi', o_some, hT.1, h4]
        refine e_copyOf hT.cr hn2 (by omega) (fun M2 hF2 hC2 => ?_)
        have hF2' : Fr 10 24 M1 M2 := hF2.w (by omega) (by omega)
        have := ih (i + 1) M2 a b g (by omega) (by omega) (by omega) hab (hF.t hF2') (hC.w hG hF2') (by rw [hw1]; exact hC2)
        simpa using this
      · rw [if_neg c2] at hw1
        have h4 : gI M1 a 4 = iI ((wS S i).2.1 : Nat) := hW.1
        simp (disch := omega) only [iI_lit, iI_neg, iI_add, iI_sub, iI_mul, iI_lt, iI_le, iI_eq, iI_in, iI_clamp, iI_mx, iI_mn, iI_nI, Int.toNat_natCast, forall_eq, br_1, br_2, br_3, br_4, br_in, br_5, br_6, br_7, br_8, ex_c, br_nl, br_le, br_ne, gp_1, gp_2, gp_3, gf_1, gf_2, hC.2.1, c_find_y hC hG hi', o_some, hT.1, h4]
        refine e_joinOf (a := b) hW hT.cr hwi hS.1 hb (by omega) (by omega) (fun M2 hF2 hC2 => ?_)
        have hRj := RI_join hwi hS.1 hb
        have hbo := bo_b (n := ((wS S i).1 + tN (gT S i) : Nat)) (e := gE S) (by omega) hE.1
        have g03 : gI M2 0 3 = iI (gE S) := (hF2.g (by omega) 3).trans hC.2.2.1
        rw [e_places hC2 (Nat.le_trans hRj.2.1 hRj.1), hRj.lpn, g03, e_boundOf (by omega) hE]
        refine e_shorten hC2 hRj (by omega) (fun M3 hF3 hC3 => ?_)
        have hF2' : Fr 10 24 M1 M3 := (hF2.w (by omega) (by omega)).t (hF3.w (by omega) (by omega))
        have := ih (i + 1) M3 b a g (by omega) (by omega) (by omega) (by omega) (hF.t hF2') (hC.w hG hF2') (by rw [hw1]; exact hC3)
        simpa using this
theorem e_makeWhole {mk : Nat} {S : Gs} {M : Mem} {Q : Nat → Mem → Prop} (hC : CS mk S M) (hG : GI S) (hN : sN S ≤ 1000) (hQ : ∀ a M', (a = 10 ∨ a = 20) → Fr 10 24 M M' → WC M' a (wS S (gk S)) → Q a M') : wpX3_makeWhole mk M Q := by
  have hF : Fr 10 24 M (pI M 10 4 (iI 0)) := Fr.p (Fr.r _ _ _) (by omega)
  have := l_makeWhole (mk := mk) hG hN hQ (gk S) 0 (pI M 10 4 (iI 0)) 10 20 (gk S + 1) (by omega) rfl (by omega) (by omega) hF (hC.w hG hF) ⟨gp_1, fun k hk => absurd hk (Nat.not_lt_zero k)⟩
  unfold wpX3_makeWhole
  rw [forall_eq]
  exact ⟨gk S + 1, by simpa [iI_lit] using this⟩
theorem l_wholeLays {S : Gs} {M : Mem} {Q : Qi} (hG : GI S) (hN : sN S ≤ 1000) (hQ : ∀ M', RM M M' → MS S M' → WM M' 4 (wS S (gk S)) → (¬ (wS S (gk S)).2.1 = 0 → gI M' 224 4 = iI ((wS S (gk S)).1 : Nat)) → Q (iI 0) M') :
    ∀ f i M1 g, f < g → gk S - i = f → i ≤ gk S → RM M M1 → MS S M1 → WM M1 4 (wS S i) → (¬ (wS S i).2.1 = 0 → gI M1 224 4 = iI ((wS S i).1 : Nat)) → wX4_wholeLays_38 Q g M1 (iI (i : Nat)) := by
  have hk := hG.1
  intro f
  induction f with
  | zero =>
    intro i M1 g hg hf hi hR hM hW h4
    have e : i = gk S := by omega
    subst e
    obtain ⟨g, rfl⟩ : ∃ g', g = g' + 1 := ⟨g - 1, by omega⟩
    simp only [wX4_wholeLays_38]
    simp (disch := omega) only [iI_lit, iI_neg, iI_add, iI_sub, iI_mul, iI_lt, iI_le, iI_eq, iI_in, iI_clamp, iI_mx, iI_mn, iI_nI, Int.toNat_natCast, forall_eq, br_1, br_2, br_3, br_4, br_in, br_5, br_6, br_7, br_8, ex_c, br_nl, br_le, br_ne, gp_1, gp_2, gp_3, gf_1, gf_2, hM.2.2.2.2.2.1]
    exact hQ M1 hR hM hW h4
  | succ f ih =>
    intro i M1 g hg hf hi hR hM hW h4
    obtain ⟨g, rfl⟩ : ∃ g', g = g' + 1 := ⟨g - 1, by omega⟩
    have hi' : i < gk S := by omega
    have hT := hM.mt hi'
    have hS := hG.si hi'
    have hE := hG.er hi'
    have hb := wS_b hG hN hi'
    have hwi := (wS_i hG hN i hi).1
    have hn1 : (wS S i).2.1 ≤ 1000 := Nat.le_trans hwi.2.1 hwi.1
    have hn2 := hG.nb hi'
    have hN1 := hS.1.1
    have hw1 : wS S (i + 1) = wT (wS S i) (gT S i) (gE S) := rfl
    unfold wT at hw1
    have h40 : gI M1 223 4 = iI ((wS S i).2.1 : Nat) := hW.1
    simp only [wX4_wholeLays_38]
    by_cases c1 : tN (gT S i) = 0
    · rw [if_pos c1] at hw1
      have := ih (i + 1) M1 g (by omega) (by omega) (by omega) hR hM (by rw [hw1]; exact hW) (by rw [hw1]; exact h4)
      simp (disch := omega) only [iI_lit, iI_neg, iI_add, iI_sub, iI_mul, iI_lt, iI_le, iI_eq, iI_in, iI_clamp, iI_mx, iI_mn, iI_nI, Int.toNat_natCast, forall_eq, br_1, br_2, br_3, br_4, br_in, br_5, br_6, br_7, br_8, ex_c, br_nl, br_le, br_ne, gp_1, gp_2, gp_3, gf_1, gf_2, ix_0, ix_1, ix_2, ix_3, tn_1, tn_2, pp_1, hM.2.2.2.2.2.1, hT.2.1]
      simpa using this
    · rw [if_neg c1] at hw1
      by_cases c2 : (wS S i).2.1 = 0
      · rw [if_pos c2] at hw1
        simp (disch := omega) only [iI_lit, iI_neg, iI_add, iI_sub, iI_mul, iI_lt, iI_le, iI_eq, iI_in, iI_clamp, iI_mx, iI_mn, iI_nI, Int.toNat_natCast, forall_eq, br_1, br_2, br_3, br_4, br_in, br_5, br_6, br_7, br_8, ex_c, br_nl, br_le, br_ne, gp_1, gp_2, gp_3, gf_1, gf_2, ix_0, ix_1, ix_2, ix_3, tn_1, tn_2, pp_1, hM.2.2.2.2.2.1, hT.2.1, show ((4 : Int)).toNat = 4 from rfl, h40]
        refine m_copiesRow (b := i) (t := 4) (by omega) (by omega) (by omega) hn2 hT.1 (fun M2 hF2 e2 hM2 => ?_)
        have := ih (i + 1) M2 g (by omega) (by omega) (by omega) (RM.w hR hF2 (by omega)) (hM.w hG hF2 (by omega)) (by rw [hw1]; exact hM2) (by rw [hw1]; exact fun _ => e2.trans hT.2.1)
        simpa using this
      · rw [if_neg c2] at hw1
        simp (disch := omega) only [iI_lit, iI_neg, iI_add, iI_sub, iI_mul, iI_lt, iI_le, iI_eq, iI_in, iI_clamp, iI_mx, iI_mn, iI_nI, Int.toNat_natCast, forall_eq, br_1, br_2, br_3, br_4, br_in, br_5, br_6, br_7, br_8, ex_c, br_nl, br_le, br_ne, gp_1, gp_2, gp_3, gf_1, gf_2, ix_0, ix_1, ix_2, ix_3, tn_1, tn_2, pp_1, hM.2.2.2.2.2.1, hT.2.1, show ((4 : Int)).toNat = 4 from rfl, h40]
        refine m_joins (b1 := 4) (b2 := i) (t := 5) (by omega) (by omega) (by omega) (by omega) (by omega) hW hT.1 hwi hS.1 hb (h4 c2) hT.2.1 hM.2.2.2.2.1 hE (fun M2 hF2 e2 hM2 => ?_)
        have hl := (RI_sh (RI_join hwi hS.1 hb) (bo ((wS S i).1 + tN (gT S i) : Nat) (gE S))).2
        have hq1 := hwi.2.1
        have hq2 := hS.1.2.1
        refine m_copiesRow (b := 5) (t := 4) (by omega) (by omega) (by omega) (by omega) hM2 (fun M3 hF3 e3 hM3 => ?_)
        have := ih (i + 1) M3 g (by omega) (by omega) (by omega) (RM.w (RM.w hR hF2 (by omega)) hF3 (by omega)) ((hM.w hG hF2 (by omega)).w hG hF3 (by omega)) (by rw [hw1]; exact hM3) (by rw [hw1]; exact fun _ => e3.trans e2)
        simpa using this
theorem m_sN {S : Gs} {M : Mem} {Q : Qi} (hM : MS S M) (hG : GI S) : wpX4_sumOf M 224 6 Q = Q (iI (sN S)) M := m_sumOf hG.1 (by omega) hM.2.2.2.2.2.1 (fun j hj => (hM.mt hj).2.1)
theorem m_wholeLays {S : Gs} {M : Mem} {Q : Qi} (hM : MS S M) (hG : GI S) (hN : sN S ≤ 1000) (h0 : 0 < sN S) (hQ : ∀ M', RM M M' → MS S M' → WM M' 4 (wS S (gk S)) → gI M' 224 4 = iI ((wS S (gk S)).1 : Nat) → Q (iI 0) M') : wpX4_wholeLays M Q := by
  have hF : FrW 4 M (pI M 223 4 (iI 0)) := FrW.p (FrW.r _ _) (by omega)
  have hw := wS_i hG hN (gk S) (Nat.le_refl _)
  have h1 : ¬ (wS S (gk S)).2.1 = 0 := fun q => by
    have h2 := hw.1.2.2.1 q
    have h3 := hw.2
    unfold sN at h0
    omega
  have := l_wholeLays (M := M) hG hN (fun M' a b c d => hQ M' a b c (d h1)) (gk S) 0 (pI M 223 4 (iI 0)) (gk S + 1) (by omega) rfl (by omega) (RM.w (RM.r _) hF (by omega)) (hM.w hG hF (by omega)) ⟨gp_1, fun k hk => absurd hk (Nat.not_lt_zero k)⟩ (fun q => absurd rfl q)
  unfold wpX4_wholeLays
  simp (disch := omega) only [iI_lit, iI_neg, iI_add, iI_sub, iI_mul, iI_lt, iI_le, iI_eq, iI_in, iI_clamp, iI_mx, iI_mn, iI_nI, Int.toNat_natCast, forall_eq, br_1, br_2, br_3, br_4, br_in, br_5, br_6, br_7, br_8, ex_c, br_nl, br_le, br_ne, gp_1, gp_2, gp_3, gf_1, gf_2, m_sN hM hG]
  exact ⟨gk S + 1, by simpa using this⟩
theorem m_wholeLays_5 {S : Gs} {M : Mem} {Q : Qi} (hM : MS S M) (hG : GI S) (h0 : sN S = 0) : wpX4_wholeLays M Q = Q (iI 5) M := by
  unfold wpX4_wholeLays
  simp (disch := omega) only [iI_lit, iI_neg, iI_add, iI_sub, iI_mul, iI_lt, iI_le, iI_eq, iI_in, iI_clamp, iI_mx, iI_mn, iI_nI, Int.toNat_natCast, forall_eq, br_1, br_2, br_3, br_4, br_in, br_5, br_6, br_7, br_8, ex_c, br_nl, br_le, br_ne, gp_1, gp_2, gp_3, gf_1, gf_2, m_sN hM hG]
theorem m_wholeLays_3 {S : Gs} {M : Mem} {Q : Qi} (hM : MS S M) (hG : GI S) (h0 : 1000 < sN S) : wpX4_wholeLays M Q = Q (iI 3) M := by
  have := sN_b hG
  unfold wpX4_wholeLays
  simp (disch := omega) only [iI_lit, iI_neg, iI_add, iI_sub, iI_mul, iI_lt, iI_le, iI_eq, iI_in, iI_clamp, iI_mx, iI_mn, iI_nI, Int.toNat_natCast, forall_eq, br_1, br_2, br_3, br_4, br_in, br_5, br_6, br_7, br_8, ex_c, br_nl, br_le, br_ne, gp_1, gp_2, gp_3, gf_1, gf_2, m_sN hM hG]
theorem c_sN {mk : Nat} {S : Gs} {M : Mem} {Q : Qi} (hC : CS mk S M) (hG : GI S) : wpX3_sumOfAll mk M (iI 2) Q = Q (iI (sN S)) M := by
  rw [e_sumOfAll hC hG (by omega)]
  unfold sN
  rw [csum_cg (f := fun j => if (2 : Int) = 2 then (tN (gT S j) : Int) else if (2 : Int) = 3 then (tn (gT S j) : Int) else tk (gT S j)) (g := fun j => (tN (gT S j) : Int)) (gk S) (fun k _ => rfl)]
theorem c_wt_5 {mk : Nat} {S : Gs} {M : Mem} {Q : Qi} (hC : CS mk S M) (hG : GI S) (h0 : sN S = 0) : wpX3_wholeTrouble mk M Q = Q (iI 5) M := by
  unfold wpX3_wholeTrouble
  simp (disch := omega) only [iI_lit, iI_neg, iI_add, iI_sub, iI_mul, iI_lt, iI_le, iI_eq, iI_in, iI_clamp, iI_mx, iI_mn, iI_nI, Int.toNat_natCast, forall_eq, br_1, br_2, br_3, br_4, br_in, br_5, br_6, br_7, br_8, ex_c, br_nl, br_le, br_ne, gp_1, gp_2, gp_3, gf_1, gf_2, c_sN hC hG]
theorem c_wt_3 {mk : Nat} {S : Gs} {M : Mem} {Q : Qi} (hC : CS mk S M) (hG : GI S) (h0 : 1000 < sN S) : wpX3_wholeTrouble mk M Q = Q (iI 3) M := by
  have := sN_b hG
  unfold wpX3_wholeTrouble
  simp (disch := omega) only [iI_lit, iI_neg, iI_add, iI_sub, iI_mul, iI_lt, iI_le, iI_eq, iI_in, iI_clamp, iI_mx, iI_mn, iI_nI, Int.toNat_natCast, forall_eq, br_1, br_2, br_3, br_4, br_in, br_5, br_6, br_7, br_8, ex_c, br_nl, br_le, br_ne, gp_1, gp_2, gp_3, gf_1, gf_2, c_sN hC hG]
theorem c_wt_0 {mk : Nat} {S : Gs} {M : Mem} {Q : Qi} (hC : CS mk S M) (hG : GI S) (hN : sN S ≤ 1000) (h0 : 0 < sN S) : wpX3_wholeTrouble mk M Q = Q (iI 0) M := by
  unfold wpX3_wholeTrouble
  simp (disch := omega) only [iI_lit, iI_neg, iI_add, iI_sub, iI_mul, iI_lt, iI_le, iI_eq, iI_in, iI_clamp, iI_mx, iI_mn, iI_nI, Int.toNat_natCast, forall_eq, br_1, br_2, br_3, br_4, br_in, br_5, br_6, br_7, br_8, ex_c, br_nl, br_le, br_ne, gp_1, gp_2, gp_3, gf_1, gf_2, c_sN hC hG]
