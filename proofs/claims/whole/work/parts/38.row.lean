/-- tuple i laid at t -/
def mvT (M : Mem) (a i t : Nat) : Mem := pI (pI (pI (pI M (a + 1) t (gI M (a + 1) i)) (a + 2) t (gI M (a + 2) i)) (a + 3) t (gI M (a + 3) i)) (a + 4) t (gI M (a + 4) i)
theorem e_moveTuple {M : Mem} {a : Nat} {i t : Int} {Q : Mem → Prop} (hi : 0 ≤ i ∧ i < 1000) (ht : 0 ≤ t ∧ t < 1000) : wpX0_moveTuple M a (iI i) (iI t) Q = Q (mvT M a i.toNat t.toNat) := by
  unfold wpX0_moveTuple mvT
  simp (disch := omega) only [iI_lit, iI_neg, iI_add, iI_sub, iI_mul, iI_lt, iI_le, iI_eq, iI_in, iI_clamp, iI_mx, iI_mn, iI_nI, Int.toNat_natCast, forall_eq, br_1, br_2, br_3, br_4, br_in, br_5, br_6, br_7, br_8, ex_c, br_nl, br_le, br_ne, gp_1, gp_2, gp_3, gf_1, gf_2]
theorem mvT_4 {M : Mem} {a i t : Nat} : gI (mvT M a i t) a 4 = gI M a 4 := by
  unfold mvT
  simp (disch := omega) only [iI_lit, iI_neg, iI_add, iI_sub, iI_mul, iI_lt, iI_le, iI_eq, iI_in, iI_clamp, iI_mx, iI_mn, iI_nI, Int.toNat_natCast, forall_eq, br_1, br_2, br_3, br_4, br_in, br_5, br_6, br_7, br_8, ex_c, br_nl, br_le, br_ne, gp_1, gp_2, gp_3, gf_1, gf_2]
theorem mvT_e {M : Mem} {a i t : Nat} : gI (mvT M a i t) (a + 1) t = gI M (a + 1) i ∧ gI (mvT M a i t) (a + 2) t = gI M (a + 2) i ∧ gI (mvT M a i t) (a + 3) t = gI M (a + 3) i ∧ gI (mvT M a i t) (a + 4) t = gI M (a + 4) i := by
  unfold mvT
  simp (disch := omega) only [iI_lit, iI_neg, iI_add, iI_sub, iI_mul, iI_lt, iI_le, iI_eq, iI_in, iI_clamp, iI_mx, iI_mn, iI_nI, Int.toNat_natCast, forall_eq, br_1, br_2, br_3, br_4, br_in, br_5, br_6, br_7, br_8, ex_c, br_nl, br_le, br_ne, gp_1, gp_2, gp_3, gf_1, gf_2]
  trivial
theorem mvT_n {M : Mem} {a i t k : Nat} (h : ¬ k = t) : gI (mvT M a i t) (a + 1) k = gI M (a + 1) k ∧ gI (mvT M a i t) (a + 2) k = gI M (a + 2) k ∧ gI (mvT M a i t) (a + 3) k = gI M (a + 3) k ∧ gI (mvT M a i t) (a + 4) k = gI M (a + 4) k := by
  unfold mvT
  simp (disch := omega) only [iI_lit, iI_neg, iI_add, iI_sub, iI_mul, iI_lt, iI_le, iI_eq, iI_in, iI_clamp, iI_mx, iI_mn, iI_nI, Int.toNat_natCast, forall_eq, br_1, br_2, br_3, br_4, br_in, br_5, br_6, br_7, br_8, ex_c, br_nl, br_le, br_ne, gp_1, gp_2, gp_3, gf_1, gf_2]
  trivial
theorem mvT_f {M M' : Mem} {a i t : Nat} (h : Fr a (a + 4) M M') : Fr a (a + 4) M (mvT M' a i t) := by
  unfold mvT
  refine Fr.p (Fr.p (Fr.p (Fr.p h ?_) ?_) ?_) ?_ <;> omega
/-- those that are kept, from i down, K behind -/
def kp (B : Nat → Nat) (l d : Nat → Int) (bo : Int) : Nat → Nat → List Nat → List Nat
  | 0, _, K => 0 :: K
  | f + 1, i, K => if i = 0 then 0 :: K else if B i ≤ B (K.getD 0 0) ∧ l (K.getD 0 0) - lp l (fam B (B i) i) + d (K.getD 0 0) ≤ bo then kp B l d bo f (fam B (B i) i - 1) K else kp B l d bo f (i - 1) (i :: K)
def sel (f : Nat → Int) (K : List Nat) (k : Nat) : Int := f (K.getD k 0)
/-- grows, from above i to n - 1 -/
def SL (n i : Nat) (K : List Nat) : Prop := 0 < K.length ∧ (∀ q, q + 1 < K.length → K.getD q 0 < K.getD (q + 1) 0) ∧ i < K.getD 0 0 ∧ K.getD (K.length - 1) 0 = n - 1
theorem SL.le {n i j : Nat} {K : List Nat} (h : SL n i K) (hj : j ≤ i) : SL n j K := ⟨h.1, h.2.1, Nat.lt_of_le_of_lt hj h.2.2.1, h.2.2.2⟩
theorem SL.co {n i j : Nat} {K : List Nat} (h : SL n i K) : (∀ q, q + 1 < (i :: K).length → (i :: K).getD q 0 < (i :: K).getD (q + 1) 0) ∧ (i :: K).getD ((i :: K).length - 1) 0 = n - 1 := by
  obtain ⟨h1, h2, h3, h4⟩ := h
  constructor
  · intro q hq
    cases q with
    | zero => simpa using h3
    | succ q =>
      have := h2 q (by simpa using hq)
      simpa using this
  · cases K with
    | nil => simp at h1
    | cons x K => simpa using h4
theorem SL.up {n i : Nat} {K : List Nat} (h : SL n i K) : ∀ q, q < K.length → i + q < K.getD q 0 := by
  intro q
  induction q with
  | zero => intro _; exact h.2.2.1
  | succ q ih =>
    intro hq
    have := ih (by omega)
    have := h.2.1 q hq
    omega
theorem SL.hi {n i : Nat} {K : List Nat} (h : SL n i K) : ∀ j q, q + j = K.length - 1 → K.getD q 0 + j ≤ n - 1 := by
  intro j
  induction j with
  | zero =>
    intro q hq
    have := h.2.2.2
    rw [show K.length - 1 = q by omega] at this
    omega
  | succ j ih =>
    intro q hq
    have := ih (q + 1) (by omega)
    have := h.2.1 q (by omega)
    omega
/-- grows from 0 to n - 1 -/
def SZ (n : Nat) (K : List Nat) : Prop := 0 < K.length ∧ (∀ q, q + 1 < K.length → K.getD q 0 < K.getD (q + 1) 0) ∧ K.getD 0 0 = 0 ∧ K.getD (K.length - 1) 0 = n - 1
theorem SL.z {n i : Nat} {K : List Nat} (h : SL n i K) : SZ n (0 :: K) := by
  have := (h.le (Nat.zero_le i)).co (j := 0)
  exact ⟨by simp, this.1, by simp, this.2⟩
theorem kp_ok {n : Nat} {B : Nat → Nat} {l d : Nat → Int} {bo : Int} : ∀ f i K, SL n i K → SZ n (kp B l d bo f i K) := by
  intro f
  induction f with
  | zero =>
    intro i K h
    exact h.z
  | succ f ih =>
    intro i K h
    rw [kp]
    split
    · exact h.z
    · rename_i c
      have := fam_b B (B i) i (by omega)
      split
      · exact ih _ _ (h.le (by omega))
      · have := h.co (j := 0)
        exact ih _ _ ⟨by simp, this.1, by simp; omega, this.2⟩
theorem RI_sel {N n : Nat} {v l d : Nat → Int} {K : List Nat} (hR : RI N n v l d) (hn : 0 < n) (h : SZ n K) : RI N K.length (sel v K) (sel l K) (sel d K) ∧ K.length ≤ n := by
  obtain ⟨h1, h2, h3, h4⟩ := h
  have lo : ∀ q, q < K.length → q ≤ K.getD q 0 := by
    intro q
    induction q with
    | zero => omega
    | succ q ih =>
      intro hq
      have := ih (by omega)
      have := h2 q hq
      omega
  have hi : ∀ j q, q + j = K.length - 1 → K.getD q 0 + j ≤ n - 1 := by
    intro j
    induction j with
    | zero =>
      intro q hq
      rw [show K.length - 1 = q by omega] at h4
      omega
    | succ j ih =>
      intro q hq
      have := ih (q + 1) (by omega)
      have := h2 q (by omega)
      omega
  have hl : K.length ≤ n := by
    have := lo (K.length - 1) (by omega)
    omega
  have hr := hR
  obtain ⟨r1, r2, r3, r4, r5, r6⟩ := hr
  refine ⟨⟨r1, by omega, by omega, ?_, ?_, ?_⟩, hl⟩
  · intro k hk
    have := hi (K.length - 1 - k) k (by omega)
    exact r4 (K.getD k 0) (by omega)
  · intro k hk
    have q1 := hi (K.length - 1 - (k + 1)) (k + 1) (by omega)
    have q2 := h2 k hk
    have q3 := hR.vmono (K.getD (k + 1) 0 - K.getD k 0) (K.getD k 0) (by omega)
    have q4 := hR.lm q2 (by omega)
    rw [show K.getD k 0 + (K.getD (k + 1) 0 - K.getD k 0) = K.getD (k + 1) 0 by omega] at q3
    exact ⟨q3, q4⟩
  · intro _
    unfold sel
    rw [h3, h4]
    exact r6 hn
theorem l_shorten {M : Mem} {N a n : Nat} {v l d : Nat → Int} {Q : Qi} {B : Nat → Nat} {bo : Int} {Kf : List Nat} (hR : RI N n v l d) (hb : 0 ≤ bo ∧ bo ≤ 1000) (hB : ∀ k, B k ≤ 12)
    (hQ : ∀ M', Fr a (a + 4) M M' → CR M' a Kf.length (sel v Kf) (sel l Kf) (sel d Kf) → Q (iI ((n : Int) - Kf.length)) M') :
    ∀ f i t K M1, i ≤ f → kp B l d bo f i K = Kf → Fr a (a + 4) M M1 → gI M1 a 4 = iI n → t + K.length = n → i < t → SL n i K →
      (∀ k, k ≤ i → gI M1 (a + 1) k = iI (v k) ∧ gI M1 (a + 2) k = iI (l k) ∧ gI M1 (a + 3) k = iI (d k) ∧ gI M1 (a + 4) k = iI (B k)) →
      (∀ q, q < K.length → gI M1 (a + 1) (t + q) = iI (v (K.getD q 0)) ∧ gI M1 (a + 2) (t + q) = iI (l (K.getD q 0)) ∧ gI M1 (a + 3) (t + q) = iI (d (K.getD q 0)) ∧ gI M1 (a + 4) (t + q) = iI (B (K.getD q 0))) →
      ∃ m, wX0_shorten_29 Q a (iI bo) m M1 (iI (t : Nat)) (iI (i : Nat)) := by
  have hn : n ≤ 1000 := Nat.le_trans hR.2.1 hR.1
  have hN := hR.1
  have fin : ∀ i t K M1, 0 :: K = Kf → i = 0 → Fr a (a + 4) M M1 → gI M1 a 4 = iI n → t + K.length = n → i < t → SL n i K →
      (∀ k, k ≤ i → gI M1 (a + 1) k = iI (v k) ∧ gI M1 (a + 2) k = iI (l k) ∧ gI M1 (a + 3) k = iI (d k) ∧ gI M1 (a + 4) k = iI (B k)) →
      (∀ q, q < K.length → gI M1 (a + 1) (t + q) = iI (v (K.getD q 0)) ∧ gI M1 (a + 2) (t + q) = iI (l (K.getD q 0)) ∧ gI M1 (a + 3) (t + q) = iI (d (K.getD q 0)) ∧ gI M1 (a + 4) (t + q) = iI (B (K.getD q 0))) →
      ∃ m, wX0_shorten_29 Q a (iI bo) m M1 (iI (t : Nat)) (iI (i : Nat)) := by
    intro i t K M1 hKf hi hF h4 htn hit hS hlo hhi
    subst hi
    subst hKf
    have z := hlo 0 (Nat.le_refl 0)
    rw [ex_s rfl]
    have e1 : (t : Int) + -1 = (t - 1 : Nat) := by omega
    have e2 : (n : Int) - (t - 1 : Nat) = (K.length + 1 : Nat) := by omega
    simp only [wX0_shorten_29]
    simp (disch := omega) only [iI_lit, iI_neg, iI_add, iI_sub, iI_mul, iI_lt, iI_le, iI_eq, iI_in, iI_clamp, iI_mx, iI_mn, iI_nI, Int.toNat_natCast, forall_eq, br_1, br_2, br_3, br_4, br_in, br_5, br_6, br_7, br_8, ex_c, br_nl, br_le, br_ne, gp_1, gp_2, gp_3, gf_1, gf_2, e1, e_moveTuple, Int.toNat_zero]
    unfold wpX0_dropAhead
    rw [mvT_4, h4]
    simp (disch := omega) only [iI_lit, iI_neg, iI_add, iI_sub, iI_mul, iI_lt, iI_le, iI_eq, iI_in, iI_clamp, iI_mx, iI_mn, iI_nI, Int.toNat_natCast, forall_eq, br_1, br_2, br_3, br_4, br_in, br_5, br_6, br_7, br_8, ex_c, br_nl, br_le, br_ne, gp_1, gp_2, gp_3, gf_1, gf_2, e2, Int.toNat_zero]
    have e3 : ((t - 1 : Nat) : Int) = (n : Int) - ((0 :: K).length : Nat) := by
      rw [List.length_cons]
      omega
    rw [e3]
    refine hQ _ (Fr.f (Fr.f (Fr.f (Fr.p (mvT_f hF) ?_) ?_) ?_) ?_) ?_
    · omega
    · omega
    · omega
    · omega
    · refine ⟨?_, fun k hk => ?_⟩
      · simp (disch := omega) only [iI_lit, iI_neg, iI_add, iI_sub, iI_mul, iI_lt, iI_le, iI_eq, iI_in, iI_clamp, iI_mx, iI_mn, iI_nI, Int.toNat_natCast, forall_eq, br_1, br_2, br_3, br_4, br_in, br_5, br_6, br_7, br_8, ex_c, br_nl, br_le, br_ne, gp_1, gp_2, gp_3, gf_1, gf_2]
        rw [List.length_cons]
      · rw [List.length_cons] at hk
        simp (disch := omega) only [iI_lit, iI_neg, iI_add, iI_sub, iI_mul, iI_lt, iI_le, iI_eq, iI_in, iI_clamp, iI_mx, iI_mn, iI_nI, Int.toNat_natCast, forall_eq, br_1, br_2, br_3, br_4, br_in, br_5, br_6, br_7, br_8, ex_c, br_nl, br_le, br_ne, gp_1, gp_2, gp_3, gf_1, gf_2, gc_1]
        rw [if_pos (by omega), if_pos (by omega), if_pos (by omega), Nat.sub_zero]
        cases k with
        | zero =>
          have := mvT_e (M := M1) (a := a) (i := 0) (t := t - 1)
          simp only [Nat.add_zero]
          rw [this.1, this.2.1, this.2.2.1]
          exact ⟨z.1, z.2.1, z.2.2.1⟩
        | succ q =>
          have := mvT_n (M := M1) (a := a) (i := 0) (t := t - 1) (k := t - 1 + (q + 1)) (by omega)
          rw [this.1, this.2.1, this.2.2.1]
          have := hhi q (by omega)
          rw [show t - 1 + (q + 1) = t + q by omega]
          simpa [sel] using ⟨this.1, this.2.1, this.2.2.1⟩
  intro f
  induction f with
  | zero =>
    intro i t K M1 hif hK hF h4 htn hit hS hlo hhi
    exact fin i t K M1 hK (by omega) hF h4 htn hit hS hlo hhi
  | succ f ih =>
    intro i t K M1 hif hK hF h4 htn hit hS hlo hhi
    rw [kp] at hK
    by_cases c0 : i = 0
    · rw [if_pos c0] at hK
      exact fin i t K M1 hK c0 hF h4 htn hit hS hlo hhi
    · rw [if_neg c0] at hK
      have hf := fam_b B (B i) i (by omega)
      have b0 := hhi 0 hS.1
      rw [Nat.add_zero] at b0
      have b1 := hlo i (Nat.le_refl i)
      have b2 := hS.hi (K.length - 1) 0 (by omega)
      have h0 := hS.1
      have b3 := hR.2.2.2.1 (K.getD 0 0) (by omega)
      have b4 := hB (K.getD 0 0)
      have b5 := hB i
      have b6 := hR.lpb (k := fam B (B i) i) (by omega)
      have e1 : (t : Int) + -1 = (t - 1 : Nat) := by omega
      have e2 : (i : Int) + -1 = (i - 1 : Nat) := by omega
      have e3 : (fam B (B i) i : Int) - 1 = (fam B (B i) i - 1 : Nat) := by omega
      have hg : ∀ Q' : Qi, wpX0_mayGo M1 a (iI i) (iI (fam B (B i) i)) (iI t) (iI bo) Q' = Q' (iI (if B i ≤ B (K.getD 0 0) ∧ l (K.getD 0 0) - lp l (fam B (B i) i) + d (K.getD 0 0) ≤ bo then 1 else 0)) M1 := by
        intro Q'
        exact e_mayGo (by omega) hf.2 (by omega) ⟨b1.2.2.2, b5⟩ ⟨b0.2.2.2, b4⟩ ⟨b0.2.1, by omega, by omega⟩ ⟨b0.2.2.1, by omega, by omega⟩ hb (fun q => (hlo _ (by omega)).2.1) (by omega)
      have hfam : ∀ Q' : Qi, wpX0_familyFrom M1 a (iI i) Q' = Q' (iI (fam B (B i) i)) M1 := fun Q' => e_familyFrom (by omega) (fun k hk => ⟨(hlo k hk).2.2.2, hB k⟩)
      rw [ex_s rfl]
      simp only [wX0_shorten_29]
      by_cases c : B i ≤ B (K.getD 0 0) ∧ l (K.getD 0 0) - lp l (fam B (B i) i) + d (K.getD 0 0) ≤ bo
      · rw [if_pos c] at hK
        simp only [if_pos c] at hg
        simp (disch := omega) only [iI_lit, iI_neg, iI_add, iI_sub, iI_mul, iI_lt, iI_le, iI_eq, iI_in, iI_clamp, iI_mx, iI_mn, iI_nI, Int.toNat_natCast, forall_eq, br_1, br_2, br_3, br_4, br_in, br_5, br_6, br_7, br_8, ex_c, br_nl, br_le, br_ne, gp_1, gp_2, gp_3, gf_1, gf_2, hfam, hg, e3]
        exact ih _ t K M1 (by omega) hK hF h4 htn (by omega) (hS.le (by omega)) (fun k hk => hlo k (by omega)) hhi
      · rw [if_neg c] at hK
        simp only [if_neg c] at hg
        simp (disch := omega) only [iI_lit, iI_neg, iI_add, iI_sub, iI_mul, iI_lt, iI_le, iI_eq, iI_in, iI_clamp, iI_mx, iI_mn, iI_nI, Int.toNat_natCast, forall_eq, br_1, br_2, br_3, br_4, br_in, br_5, br_6, br_7, br_8, ex_c, br_nl, br_le, br_ne, gp_1, gp_2, gp_3, gf_1, gf_2, hfam, hg, e1, e2, e_moveTuple]
        have hc := hS.co (j := 0)
        refine ih (i - 1) (t - 1) (i :: K) (mvT M1 a i (t - 1)) (by omega) hK (mvT_f hF) (by rw [mvT_4]; exact h4) (by rw [List.length_cons]; omega) (by omega) ⟨by simp, hc.1, by simp; omega, hc.2⟩ ?_ ?_
        · intro k hk
          have := mvT_n (M := M1) (a := a) (i := i) (t := t - 1) (k := k) (by omega)
          rw [this.1, this.2.1, this.2.2.1, this.2.2.2]
          exact hlo k (by omega)
        · intro q hq
          cases q with
          | zero =>
            have := mvT_e (M := M1) (a := a) (i := i) (t := t - 1)
            simp only [Nat.add_zero]
            rw [this.1, this.2.1, this.2.2.1, this.2.2.2]
            simpa using b1
          | succ q =>
            have := mvT_n (M := M1) (a := a) (i := i) (t := t - 1) (k := t - 1 + (q + 1)) (by omega)
            rw [this.1, this.2.1, this.2.2.1, this.2.2.2]
            have := hhi q (by simpa using hq)
            rw [show t - 1 + (q + 1) = t + q by omega]
            simpa using this
/-- the kept ones of a row shortened by the BOUND bo -/
def shK (n : Nat) (l d : Nat → Int) (bo : Int) : List Nat := if n < 3 then List.range n else kp (fun k => bd (d k) bo) l d bo (n - 2) (n - 2) [n - 1]
theorem SL_1 {n : Nat} (hn : 2 ≤ n) : SL n (n - 2) [n - 1] := ⟨by simp, by simp, by simp; omega, by simp⟩
theorem shK_z {n : Nat} {l d : Nat → Int} {bo : Int} (hn : 3 ≤ n) : SZ n (shK n l d bo) := by
  unfold shK
  rw [if_neg (by omega)]
  exact kp_ok _ _ _ (SL_1 (by omega))
theorem range_at {n k : Nat} (h : k < n) : (List.range n).getD k 0 = k := by
  rw [List.getD_eq_getElem?_getD, List.getElem?_range h]
  rfl
theorem RI.cg {N n : Nat} {v l d v' l' d' : Nat → Int} (h : RI N n v l d) (hv : ∀ k, k < n → v k = v' k ∧ l k = l' k ∧ d k = d' k) : RI N n v' l' d' := by
  obtain ⟨r1, r2, r3, r4, r5, r6⟩ := h
  refine ⟨r1, r2, r3, ?_, ?_, ?_⟩
  · intro k hk
    obtain ⟨e1, e2, e3⟩ := hv k hk
    rw [← e1, ← e2, ← e3]
    exact r4 k hk
  · intro k hk
    obtain ⟨e1, e2, e3⟩ := hv k (by omega)
    obtain ⟨e4, e5, e6⟩ := hv (k + 1) hk
    rw [← e1, ← e2, ← e4, ← e5]
    exact r5 k hk
  · intro h0
    obtain ⟨e1, e2, e3⟩ := hv 0 h0
    obtain ⟨e4, e5, e6⟩ := hv (n - 1) (by omega)
    rw [← e2, ← e3, ← e5, ← e6]
    exact r6 h0
theorem RI_sh {N n : Nat} {v l d : Nat → Int} (hR : RI N n v l d) (bo : Int) : RI N (shK n l d bo).length (sel v (shK n l d bo)) (sel l (shK n l d bo)) (sel d (shK n l d bo)) ∧ (shK n l d bo).length ≤ n := by
  by_cases c : n < 3
  · have e : shK n l d bo = List.range n := by
      unfold shK
      rw [if_pos c]
    rw [e, List.length_range]
    refine ⟨hR.cg (fun k hk => ?_), Nat.le_refl n⟩
    unfold sel
    rw [range_at hk]
    exact ⟨rfl, rfl, rfl⟩
  · exact RI_sel hR (by omega) (shK_z (by omega))
theorem e_shorten {M : Mem} {N a n : Nat} {v l d : Nat → Int} {Q : Qi} (h : CR M a n v l d) (hR : RI N n v l d) {bo : Int} (hb : 0 ≤ bo ∧ bo ≤ 1000)
    (hQ : ∀ M', Fr a (a + 4) M M' → CR M' a (shK n l d bo).length (sel v (shK n l d bo)) (sel l (shK n l d bo)) (sel d (shK n l d bo)) → Q (iI ((n : Int) - (shK n l d bo).length)) M') : wpX0_shorten M a (iI bo) Q := by
  have hn : n ≤ 1000 := Nat.le_trans hR.2.1 hR.1
  unfold wpX0_shorten
  rw [h.1]
  by_cases c : 3 ≤ n
  · simp (disch := omega) only [iI_lit, iI_neg, iI_add, iI_sub, iI_mul, iI_lt, iI_le, iI_eq, iI_in, iI_clamp, iI_mx, iI_mn, iI_nI, Int.toNat_natCast, forall_eq, br_1, br_2, br_3, br_4, br_in, br_5, br_6, br_7, br_8, ex_c, br_nl, br_le, br_ne, gp_1, gp_2, gp_3, gf_1, gf_2]
    refine e_takeBands h hR hb (fun M1 hF hC hB => ?_)
    rw [hC.1]
    have e1 : (n : Int) - 1 = (n - 1 : Nat) := by omega
    have e2 : (n : Int) - 2 = (n - 2 : Nat) := by omega
    simp (disch := omega) only [iI_lit, iI_neg, iI_add, iI_sub, iI_mul, iI_lt, iI_le, iI_eq, iI_in, iI_clamp, iI_mx, iI_mn, iI_nI, Int.toNat_natCast, forall_eq, br_1, br_2, br_3, br_4, br_in, br_5, br_6, br_7, br_8, ex_c, br_nl, br_le, br_ne, gp_1, gp_2, gp_3, gf_1, gf_2, e1, e2]
    refine l_shorten (M := M1) (n := n) (v := v) (l := l) (d := d) (B := fun k => bd (d k) bo) (Kf := shK n l d bo) hR hb (fun k => bd_le _ _) ?_ (n - 2) (n - 2) (n - 1) [n - 1] M1 (Nat.le_refl _) ?_ (Fr.r _ _ _) hC.1 ?_ ?_ (SL_1 (by omega)) ?_ ?_
    · intro M' hF' hC'
      exact hQ M' ((hF.w (by omega) (by omega)).t hF') hC'
    · unfold shK
      rw [if_neg (by omega)]
    · simp
      omega
    · omega
    · intro k hk
      have := hC.2 k (by omega)
      exact ⟨this.1, this.2.1, this.2.2, hB k (by omega)⟩
    · intro q hq
      have : q = 0 := by simpa using hq
      subst this
      have := hC.2 (n - 1) (by omega)
      simpa using ⟨this.1, this.2.1, this.2.2, hB (n - 1) (by omega)⟩
  · simp (disch := omega) only [iI_lit, iI_neg, iI_add, iI_sub, iI_mul, iI_lt, iI_le, iI_eq, iI_in, iI_clamp, iI_mx, iI_mn, iI_nI, Int.toNat_natCast, forall_eq, br_1, br_2, br_3, br_4, br_in, br_5, br_6, br_7, br_8, ex_c, br_nl, br_le, br_ne, gp_1, gp_2, gp_3, gf_1, gf_2]
    have e : shK n l d bo = List.range n := by
      unfold shK
      rw [if_pos (by omega)]
    have := hQ M (Fr.r _ _ _)
    rw [e, List.length_range, Int.sub_self] at this
    refine this (h.cg (fun k hk => ?_))
    unfold sel
    rw [range_at hk]
    exact ⟨rfl, rfl, rfl⟩
/-- rounds until nothing goes -/
def rl (bo : Int) : Nat → Nat → (Nat → Int) → (Nat → Int) → Nat
  | 0, _, _, _ => 0
  | f + 1, n, l, d => if (shK n l d bo).length = n then 0 else rl bo f (shK n l d bo).length (sel l (shK n l d bo)) (sel d (shK n l d bo)) + 1
theorem rl_b (bo : Int) : ∀ f n l d, rl bo f n l d ≤ f := by
  intro f
  induction f with
  | zero => intro n l d; simp [rl]
  | succ f ih =>
    intro n l d
    rw [rl]
    split
    · omega
    · have := ih (shK n l d bo).length (sel l (shK n l d bo)) (sel d (shK n l d bo))
      omega
theorem l_roundsLeft {M : Mem} {N a : Nat} {Q : Qi} {bo : Int} (hb : 0 ≤ bo ∧ bo ≤ 1000) : ∀ f c n v l d M1 m, f < m → n ≤ f → c + f ≤ 1000 → Fr a (a + 4) M M1 → CR M1 a n v l d → RI N n v l d → (∀ M', Fr a (a + 4) M M' → Q (iI (c + rl bo f n l d : Nat)) M') → wX0_roundsLeft_2 Q a (iI bo) m M1 (iI (c : Nat)) := by
  intro f
  induction f with
  | zero =>
    intro c n v l d M1 m hm hnf hc hF hC hR hQ
    have hn : n = 0 := by omega
    subst hn
    obtain ⟨m, rfl⟩ : ∃ m', m = m' + 1 := ⟨m - 1, by omega⟩
    simp only [wX0_roundsLeft_2]
    by_cases c1 : 1000 ≤ c
    · simp (disch := omega) only [iI_lit, iI_neg, iI_add, iI_sub, iI_mul, iI_lt, iI_le, iI_eq, iI_in, iI_clamp, iI_mx, iI_mn, iI_nI, Int.toNat_natCast, forall_eq, br_1, br_2, br_3, br_4, br_in, br_5, br_6, br_7, br_8, ex_c, br_nl, br_le, br_ne, gp_1, gp_2, gp_3, gf_1, gf_2]
      exact hQ M1 hF
    · simp (disch := omega) only [iI_lit, iI_neg, iI_add, iI_sub, iI_mul, iI_lt, iI_le, iI_eq, iI_in, iI_clamp, iI_mx, iI_mn, iI_nI, Int.toNat_natCast, forall_eq, br_1, br_2, br_3, br_4, br_in, br_5, br_6, br_7, br_8, ex_c, br_nl, br_le, br_ne, gp_1, gp_2, gp_3, gf_1, gf_2]
      refine e_shorten hC hR hb (fun M' hF' hC' => ?_)
      have := (RI_sh hR bo).2
      have e : (shK 0 l d bo).length = 0 := by omega
      rw [e]
      simp (disch := omega) only [iI_lit, iI_neg, iI_add, iI_sub, iI_mul, iI_lt, iI_le, iI_eq, iI_in, iI_clamp, iI_mx, iI_mn, iI_nI, Int.toNat_natCast, forall_eq, br_1, br_2, br_3, br_4, br_in, br_5, br_6, br_7, br_8, ex_c, br_nl, br_le, br_ne, gp_1, gp_2, gp_3, gf_1, gf_2]
      exact hQ M' (hF.t hF')
  | succ f ih =>
    intro c n v l d M1 m hm hnf hc hF hC hR hQ
    have hr := RI_sh hR bo
    obtain ⟨m, rfl⟩ : ∃ m', m = m' + 1 := ⟨m - 1, by omega⟩
    simp only [wX0_roundsLeft_2]
    have hn : n ≤ 1000 := Nat.le_trans hR.2.1 hR.1
    simp (disch := omega) only [iI_lit, iI_neg, iI_add, iI_sub, iI_mul, iI_lt, iI_le, iI_eq, iI_in, iI_clamp, iI_mx, iI_mn, iI_nI, Int.toNat_natCast, forall_eq, br_1, br_2, br_3, br_4, br_in, br_5, br_6, br_7, br_8, ex_c, br_nl, br_le, br_ne, gp_1, gp_2, gp_3, gf_1, gf_2]
    refine e_shorten hC hR hb (fun M' hF' hC' => ?_)
    rw [rl] at hQ
    by_cases c1 : (shK n l d bo).length = n
    · simp (disch := omega) only [iI_lit, iI_neg, iI_add, iI_sub, iI_mul, iI_lt, iI_le, iI_eq, iI_in, iI_clamp, iI_mx, iI_mn, iI_nI, Int.toNat_natCast, forall_eq, br_1, br_2, br_3, br_4, br_in, br_5, br_6, br_7, br_8, ex_c, br_nl, br_le, br_ne, gp_1, gp_2, gp_3, gf_1, gf_2]
      have := hQ M' (hF.t hF')
      rw [if_pos c1] at this
      exact this
    · simp (disch := omega) only [iI_lit, iI_neg, iI_add, iI_sub, iI_mul, iI_lt, iI_le, iI_eq, iI_in, iI_clamp, iI_mx, iI_mn, iI_nI, Int.toNat_natCast, forall_eq, br_1, br_2, br_3, br_4, br_in, br_5, br_6, br_7, br_8, ex_c, br_nl, br_le, br_ne, gp_1, gp_2, gp_3, gf_1, gf_2]
      rw [if_neg c1] at hQ
      have := ih (c + 1) _ _ _ _ M' m (by omega) (by omega) (by omega) (hF.t hF') hC' hr.1 (fun M2 hF2 => by
        have := hQ M2 hF2
        rw [show c + 1 + rl bo f (shK n l d bo).length (sel l (shK n l d bo)) (sel d (shK n l d bo)) = c + (rl bo f (shK n l d bo).length (sel l (shK n l d bo)) (sel d (shK n l d bo)) + 1) by omega]
        exact this)
      simpa using this
theorem e_roundsLeft {M : Mem} {N a n : Nat} {v l d : Nat → Int} {Q : Qi} (h : CR M a n v l d) (hR : RI N n v l d) {bo : Int} (hb : 0 ≤ bo ∧ bo ≤ 1000)
    (hQ : ∀ M', Fr a (a + 4) M M' → Q (iI (rl bo n n l d : Nat)) M') : wpX0_roundsLeft M a (iI bo) Q := by
  have hn : n ≤ 1000 := Nat.le_trans hR.2.1 hR.1
  unfold wpX0_roundsLeft
  have := l_roundsLeft (Q := Q) hb n 0 n v l d M (n + 1) (by omega) (by omega) (by omega) (Fr.r _ _ _) h hR (by simpa using hQ)
  simp (disch := omega) only [iI_lit, iI_neg, iI_add, iI_sub, iI_mul, iI_lt, iI_le, iI_eq, iI_in, iI_clamp, iI_mx, iI_mn, iI_nI, Int.toNat_natCast, forall_eq]
  exact ⟨n + 1, by simpa using this⟩
