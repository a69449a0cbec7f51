/-! ===== the reference's rows changed ===== -/
/-- nothing but row b has changed -/
def FrW (b : Nat) (M M' : Mem) : Prop := M'.2 = M.2 ∧ ∀ a k, ¬ (220 ≤ a ∧ a ≤ 222 ∧ 1000 * b ≤ k ∧ k < 1000 * b + 1000) → ¬ (223 ≤ a ∧ a ≤ 224 ∧ k = b) → gI M' a k = gI M a k
theorem FrW.r (b : Nat) (M : Mem) : FrW b M M := ⟨rfl, fun _ _ _ _ => rfl⟩
theorem FrW.t {b : Nat} {M M' M'' : Mem} (h : FrW b M M') (h2 : FrW b M' M'') : FrW b M M'' := ⟨h2.1.trans h.1, fun a k p q => (h2.2 a k p q).trans (h.2 a k p q)⟩
theorem FrW.p {b a k : Nat} {M M' : Mem} {x : Int32} (h : FrW b M M') (hp : (220 ≤ a ∧ a ≤ 222 ∧ 1000 * b ≤ k ∧ k < 1000 * b + 1000) ∨ (223 ≤ a ∧ a ≤ 224 ∧ k = b)) : FrW b M (pI M' a k x) := by
  refine ⟨h.1, fun a' k' p q => ?_⟩
  rw [gI_pI, if_neg (by intro z; obtain ⟨z1, z2⟩ := z; subst z1; subst z2; omega)]
  exact h.2 a' k' p q
theorem MR.fw {b c n : Nat} {v l d : Nat → Int} {M M' : Mem} (h : MR M b n v l d) (hn : n ≤ 1000) (hF : FrW c M M') (hc : ¬ b = c) : MR M' b n v l d := by
  refine ⟨?_, fun k hk => ?_⟩
  · rw [hF.2 _ _ (by omega) (by omega)]
    exact h.1
  · rw [hF.2 _ _ (by omega) (by omega), hF.2 _ _ (by omega) (by omega), hF.2 _ _ (by omega) (by omega)]
    exact h.2 k hk
/-- tuple i of row b laid at t -/
def cpT (M : Mem) (b i t : Nat) : Mem := pI (pI (pI M 220 (1000 * b + t) (gI M 220 (1000 * b + i))) 221 (1000 * b + t) (gI M 221 (1000 * b + i))) 222 (1000 * b + t) (gI M 222 (1000 * b + i))
theorem cpT_e {M : Mem} {b i t a : Nat} (h : 220 ≤ a ∧ a ≤ 222) : gI (cpT M b i t) a (1000 * b + t) = gI M a (1000 * b + i) := by
  unfold cpT
  rcases (show a = 220 ∨ a = 221 ∨ a = 222 by omega) with rfl | rfl | rfl <;> simp (disch := omega) only [iI_lit, iI_neg, iI_add, iI_sub, iI_mul, iI_lt, iI_le, iI_eq, iI_in, iI_clamp, iI_mx, iI_mn, iI_nI, Int.toNat_natCast, forall_eq, br_1, br_2, br_3, br_4, br_in, br_5, br_6, br_7, br_8, ex_c, br_nl, br_le, br_ne, gp_1, gp_2, gp_3, gf_1, gf_2]
theorem cpT_n {M : Mem} {b i t a k : Nat} (h : ¬ k = 1000 * b + t ∨ a < 220 ∨ 222 < a) : gI (cpT M b i t) a k = gI M a k := by
  unfold cpT
  rw [gI_pI, if_neg (by omega), gI_pI, if_neg (by omega), gI_pI, if_neg (by omega)]
theorem cpT_f {M M' : Mem} {b i t : Nat} (h : FrW b M M') (ht : t < 1000) : FrW b M (cpT M' b i t) := by
  unfold cpT
  exact FrW.p (FrW.p (FrW.p h (by omega)) (by omega)) (by omega)
theorem m_copies {M : Mem} {b : Nat} {i t : Int} {Q : Mem → Prop} (hb : b < 6) (hi : 0 ≤ i ∧ i < 1000) (ht : 0 ≤ t ∧ t < 1000) : wpX4_copies M (iI b) (iI i) (iI t) Q = Q (cpT M b i.toNat t.toNat) := by
  unfold wpX4_copies cpT
  simp (disch := omega) only [iI_lit, iI_neg, iI_add, iI_sub, iI_mul, iI_lt, iI_le, iI_eq, iI_in, iI_clamp, iI_mx, iI_mn, iI_nI, Int.toNat_natCast, forall_eq, br_1, br_2, br_3, br_4, br_in, br_5, br_6, br_7, br_8, ex_c, br_nl, br_le, br_ne, gp_1, gp_2, gp_3, gf_1, gf_2, ix_0, ix_1, ix_2, ix_3, tn_1, tn_2, pp_1]
theorem l_shiftUp {M : Mem} {b n p : Nat} {Q : Mem → Prop} (hb : b < 6) (hn : n < 1000) (hp : p ≤ n) (h : gI M 223 b = iI n)
    (hQ : ∀ M', FrW b M M' → gI M' 223 b = iI (n + 1 : Nat) → gI M' 224 b = gI M 224 b → (∀ a k, 220 ≤ a → a ≤ 222 → k < p → gI M' a (1000 * b + k) = gI M a (1000 * b + k)) → (∀ a k, 220 ≤ a → a ≤ 222 → p < k → k ≤ n → gI M' a (1000 * b + k) = gI M a (1000 * b + (k - 1))) → Q M') :
    ∀ f j M1, j - p = f → p ≤ j → j ≤ n → FrW b M M1 → gI M1 223 b = iI n → gI M1 224 b = gI M 224 b → (∀ a k, 220 ≤ a → a ≤ 222 → k < j → gI M1 a (1000 * b + k) = gI M a (1000 * b + k)) → (∀ a k, 220 ≤ a → a ≤ 222 → j < k → k ≤ n → gI M1 a (1000 * b + k) = gI M a (1000 * b + (k - 1))) →
      ∃ m, wX4_shifts_14 Q (iI b) (iI p) (iI 1) m M1 (iI ((j : Int) - 1)) := by
  intro f
  induction f with
  | zero =>
    intro j M1 hf hpj hj hF h3 h4 hlo hhi
    have e : j = p := by omega
    subst e
    rw [ex_s rfl]
    simp only [wX4_shifts_14]
    simp (disch := omega) only [iI_lit, iI_neg, iI_add, iI_sub, iI_mul, iI_lt, iI_le, iI_eq, iI_in, iI_clamp, iI_mx, iI_mn, iI_nI, Int.toNat_natCast, forall_eq, br_1, br_2, br_3, br_4, br_in, br_5, br_6, br_7, br_8, ex_c, br_nl, br_le, br_ne, gp_1, gp_2, gp_3, gf_1, gf_2, ix_0, ix_1, ix_2, ix_3, tn_1, tn_2, pp_1, h3]
    refine hQ _ (FrW.p hF (by omega)) (by simp (disch := omega) only [iI_lit, iI_neg, iI_add, iI_sub, iI_mul, iI_lt, iI_le, iI_eq, iI_in, iI_clamp, iI_mx, iI_mn, iI_nI, Int.toNat_natCast, forall_eq, br_1, br_2, br_3, br_4, br_in, br_5, br_6, br_7, br_8, ex_c, br_nl, br_le, br_ne, gp_1, gp_2, gp_3, gf_1, gf_2]; rfl) (by simp (disch := omega) only [iI_lit, iI_neg, iI_add, iI_sub, iI_mul, iI_lt, iI_le, iI_eq, iI_in, iI_clamp, iI_mx, iI_mn, iI_nI, Int.toNat_natCast, forall_eq, br_1, br_2, br_3, br_4, br_in, br_5, br_6, br_7, br_8, ex_c, br_nl, br_le, br_ne, gp_1, gp_2, gp_3, gf_1, gf_2]; exact h4) (fun a k q1 q2 q3 => ?_) (fun a k q1 q2 q3 q4 => ?_)
    · rw [gp_2 (by omega)]
      exact hlo a k q1 q2 q3
    · rw [gp_2 (by omega)]
      exact hhi a k q1 q2 q3 q4
  | succ f ih =>
    intro j M1 hf hpj hj hF h3 h4 hlo hhi
    have e1 : (j : Int) - 1 + -1 = ((j - 1 : Nat) : Int) - 1 := by omega
    have e2 : (j : Int) - 1 + 1 = j := by omega
    rw [ex_s rfl]
    simp only [wX4_shifts_14]
    simp (disch := omega) only [iI_lit, iI_neg, iI_add, iI_sub, iI_mul, iI_lt, iI_le, iI_eq, iI_in, iI_clamp, iI_mx, iI_mn, iI_nI, Int.toNat_natCast, forall_eq, br_1, br_2, br_3, br_4, br_in, br_5, br_6, br_7, br_8, ex_c, br_nl, br_le, br_ne, gp_1, gp_2, gp_3, gf_1, gf_2, ix_0, ix_1, ix_2, ix_3, tn_1, tn_2, pp_1, h3, e1, e2, m_copies]
    refine ih (j - 1) (cpT M1 b (j - 1) j) (by omega) (by omega) (by omega) (cpT_f hF (by omega)) ?_ ?_ ?_ ?_
    · rw [cpT_n (by omega)]
      exact h3
    · rw [cpT_n (by omega)]
      exact h4
    · intro a k q1 q2 q3
      rw [cpT_n (by omega)]
      exact hlo a k q1 q2 (by omega)
    · intro a k q1 q2 q3 q4
      by_cases c : k = j
      · subst c
        rw [cpT_e ⟨q1, q2⟩]
        exact hlo a (k - 1) q1 q2 (by omega)
      · rw [cpT_n (by omega)]
        exact hhi a k q1 q2 (by omega) q4
theorem m_shiftUp {M : Mem} {b n p : Nat} {Q : Mem → Prop} (hb : b < 6) (hn : n < 1000) (hp : p ≤ n) (h : gI M 223 b = iI n)
    (hQ : ∀ M', FrW b M M' → gI M' 223 b = iI (n + 1 : Nat) → gI M' 224 b = gI M 224 b → (∀ a k, 220 ≤ a → a ≤ 222 → k < p → gI M' a (1000 * b + k) = gI M a (1000 * b + k)) → (∀ a k, 220 ≤ a → a ≤ 222 → p < k → k ≤ n → gI M' a (1000 * b + k) = gI M a (1000 * b + (k - 1))) → Q M') : wpX4_shifts M (iI b) (iI p) (iI 1) Q := by
  unfold wpX4_shifts
  simp (disch := omega) only [iI_lit, iI_neg, iI_add, iI_sub, iI_mul, iI_lt, iI_le, iI_eq, iI_in, iI_clamp, iI_mx, iI_mn, iI_nI, Int.toNat_natCast, forall_eq, br_1, br_2, br_3, br_4, br_in, br_5, br_6, br_7, br_8, ex_c, br_nl, br_le, br_ne, gp_1, gp_2, gp_3, gf_1, gf_2, ix_0, ix_1, ix_2, ix_3, tn_1, tn_2, pp_1, h]
  exact l_shiftUp hb hn hp h hQ (n - p) n M rfl hp (Nat.le_refl n) (FrW.r _ _) h rfl (fun _ _ _ _ _ => rfl) (fun _ _ _ _ _ _ => by omega)
theorem l_shiftDn {M : Mem} {b n p g : Nat} {Q : Mem → Prop} (hb : b < 6) (hn : n ≤ 1000) (hg : 1 ≤ g ∧ g ≤ p) (h : gI M 223 b = iI n)
    (hQ : ∀ M', FrW b M M' → gI M' 223 b = iI (n - g : Nat) → gI M' 224 b = gI M 224 b → (∀ a k, 220 ≤ a → a ≤ 222 → k < p - g → gI M' a (1000 * b + k) = gI M a (1000 * b + k)) → (∀ a k, 220 ≤ a → a ≤ 222 → p ≤ k → k < n → gI M' a (1000 * b + (k - g)) = gI M a (1000 * b + k)) → Q M') :
    ∀ f i M1, n - i = f → p ≤ i → i ≤ n → FrW b M M1 → gI M1 223 b = iI n → gI M1 224 b = gI M 224 b → (∀ a k, 220 ≤ a → a ≤ 222 → k < p - g ∨ i ≤ k → gI M1 a (1000 * b + k) = gI M a (1000 * b + k)) → (∀ a k, 220 ≤ a → a ≤ 222 → p ≤ k → k < i → gI M1 a (1000 * b + (k - g)) = gI M a (1000 * b + k)) →
      ∃ m, wX4_shifts_43 Q (iI b) (iI (-(g : Int))) m M1 (iI (i : Nat)) := by
  intro f
  induction f with
  | zero =>
    intro i M1 hf hpi hi hF h3 h4 hlo hhi
    have e : (n : Int) + -(g : Int) = (n - g : Nat) := by omega
    rw [ex_s rfl]
    simp only [wX4_shifts_43]
    simp (disch := omega) only [iI_lit, iI_neg, iI_add, iI_sub, iI_mul, iI_lt, iI_le, iI_eq, iI_in, iI_clamp, iI_mx, iI_mn, iI_nI, Int.toNat_natCast, forall_eq, br_1, br_2, br_3, br_4, br_in, br_5, br_6, br_7, br_8, ex_c, br_nl, br_le, br_ne, gp_1, gp_2, gp_3, gf_1, gf_2, ix_0, ix_1, ix_2, ix_3, tn_1, tn_2, pp_1, h3, e]
    refine hQ _ (FrW.p hF (by omega)) (by simp (disch := omega) only [iI_lit, iI_neg, iI_add, iI_sub, iI_mul, iI_lt, iI_le, iI_eq, iI_in, iI_clamp, iI_mx, iI_mn, iI_nI, Int.toNat_natCast, forall_eq, br_1, br_2, br_3, br_4, br_in, br_5, br_6, br_7, br_8, ex_c, br_nl, br_le, br_ne, gp_1, gp_2, gp_3, gf_1, gf_2]) (by simp (disch := omega) only [iI_lit, iI_neg, iI_add, iI_sub, iI_mul, iI_lt, iI_le, iI_eq, iI_in, iI_clamp, iI_mx, iI_mn, iI_nI, Int.toNat_natCast, forall_eq, br_1, br_2, br_3, br_4, br_in, br_5, br_6, br_7, br_8, ex_c, br_nl, br_le, br_ne, gp_1, gp_2, gp_3, gf_1, gf_2]; exact h4) (fun a k q1 q2 q3 => ?_) (fun a k q1 q2 q3 q4 => ?_)
    · rw [gp_2 (by omega)]
      exact hlo a k q1 q2 (by omega)
    · rw [gp_2 (by omega)]
      exact hhi a k q1 q2 q3 (by omega)
  | succ f ih =>
    intro i M1 hf hpi hi hF h3 h4 hlo hhi
    have e1 : (i : Int) + -(g : Int) = (i - g : Nat) := by omega
    rw [ex_s rfl]
    simp only [wX4_shifts_43]
    simp (disch := omega) only [iI_lit, iI_neg, iI_add, iI_sub, iI_mul, iI_lt, iI_le, iI_eq, iI_in, iI_clamp, iI_mx, iI_mn, iI_nI, Int.toNat_natCast, forall_eq, br_1, br_2, br_3, br_4, br_in, br_5, br_6, br_7, br_8, ex_c, br_nl, br_le, br_ne, gp_1, gp_2, gp_3, gf_1, gf_2, ix_0, ix_1, ix_2, ix_3, tn_1, tn_2, pp_1, h3, e1, m_copies]
    have := ih (i + 1) (cpT M1 b i (i - g)) (by omega) (by omega) (by omega) (cpT_f hF (by omega)) (by rw [cpT_n (by omega)]; exact h3) (by rw [cpT_n (by omega)]; exact h4) (fun a k q1 q2 q3 => by
      rw [cpT_n (by omega)]
      exact hlo a k q1 q2 (by omega)) (fun a k q1 q2 q3 q4 => by
      by_cases c : k = i
      · subst c
        rw [cpT_e ⟨q1, q2⟩]
        exact hlo a k q1 q2 (by omega)
      · rw [cpT_n (by omega)]
        exact hhi a k q1 q2 q3 (by omega))
    simpa using this
theorem m_shiftDn {M : Mem} {b n p g : Nat} {Q : Mem → Prop} (hb : b < 6) (hn : n ≤ 1000) (hp : p ≤ n) (hg : 1 ≤ g ∧ g ≤ p) (h : gI M 223 b = iI n)
    (hQ : ∀ M', FrW b M M' → gI M' 223 b = iI (n - g : Nat) → gI M' 224 b = gI M 224 b → (∀ a k, 220 ≤ a → a ≤ 222 → k < p - g → gI M' a (1000 * b + k) = gI M a (1000 * b + k)) → (∀ a k, 220 ≤ a → a ≤ 222 → p ≤ k → k < n → gI M' a (1000 * b + (k - g)) = gI M a (1000 * b + k)) → Q M') : wpX4_shifts M (iI b) (iI p) (iI (-(g : Int))) Q := by
  unfold wpX4_shifts
  simp (disch := omega) only [iI_lit, iI_neg, iI_add, iI_sub, iI_mul, iI_lt, iI_le, iI_eq, iI_in, iI_clamp, iI_mx, iI_mn, iI_nI, Int.toNat_natCast, forall_eq, br_1, br_2, br_3, br_4, br_in, br_5, br_6, br_7, br_8, ex_c, br_nl, br_le, br_ne, gp_1, gp_2, gp_3, gf_1, gf_2, ix_0, ix_1, ix_2, ix_3, tn_1, tn_2, pp_1, h]
  exact l_shiftDn hb hn hg h hQ (n - p) p M rfl (Nat.le_refl p) hp (FrW.r _ _) h rfl (fun _ _ _ _ _ => rfl) (fun _ _ _ _ _ _ => by omega)
theorem m_lays {M : Mem} {b : Nat} {i : Int} {x y z : Int32} {Q : Mem → Prop} (hb : b < 6) (hi : 0 ≤ i ∧ i < 1000) : wpX4_lays M (iI b) (iI i) x y z Q = Q (pI (pI (pI M 220 (1000 * b + i.toNat) x) 221 (1000 * b + i.toNat) y) 222 (1000 * b + i.toNat) z) := by
  unfold wpX4_lays
  simp (disch := omega) only [iI_lit, iI_neg, iI_add, iI_sub, iI_mul, iI_lt, iI_le, iI_eq, iI_in, iI_clamp, iI_mx, iI_mn, iI_nI, Int.toNat_natCast, forall_eq, br_1, br_2, br_3, br_4, br_in, br_5, br_6, br_7, br_8, ex_c, br_nl, br_le, br_ne, gp_1, gp_2, gp_3, gf_1, gf_2, ix_0, ix_1, ix_2, ix_3, tn_1, tn_2, pp_1]
