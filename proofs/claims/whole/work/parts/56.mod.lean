theorem m_joins {M : Mem} {N1 N2 b1 b2 t n1 n2 : Nat} {v1 l1 d1 v2 l2 d2 : Nat → Int} {Q : Mem → Prop} {er : Int} (hb1 : b1 < 6) (hb2 : b2 < 6) (ht : t < 6) (h1t : ¬ b1 = t) (h2t : ¬ b2 = t) (h1 : MR M b1 n1 v1 l1 d1) (h2 : MR M b2 n2 v2 l2 d2) (hR : RI N1 n1 v1 l1 d1) (hS : RI N2 n2 v2 l2 d2) (hN : N1 + N2 ≤ 1000) (e1 : gI M 224 b1 = iI N1) (e2 : gI M 224 b2 = iI N2) (hE : gI M 200 28 = iI er) (he : 2 ≤ er ∧ er ≤ 1000)
    (hQ : ∀ M', FrW t M M' → gI M' 224 t = iI (N1 + N2 : Nat) → MR M' t (shK (n1 + n2) (jL v1 v2 l1 l2 n1 n2) (jD v1 v2 l1 l2 d1 d2 n1 n2) (bo (N1 + N2 : Nat) er)).length (sel (jV v1 v2 n1 n2) (shK (n1 + n2) (jL v1 v2 l1 l2 n1 n2) (jD v1 v2 l1 l2 d1 d2 n1 n2) (bo (N1 + N2 : Nat) er))) (sel (jL v1 v2 l1 l2 n1 n2) (shK (n1 + n2) (jL v1 v2 l1 l2 n1 n2) (jD v1 v2 l1 l2 d1 d2 n1 n2) (bo (N1 + N2 : Nat) er))) (sel (jD v1 v2 l1 l2 d1 d2 n1 n2) (shK (n1 + n2) (jL v1 v2 l1 l2 n1 n2) (jD v1 v2 l1 l2 d1 d2 n1 n2) (bo (N1 + N2 : Nat) er))) → Q M') : wpX4_joins M (iI b1) (iI b2) (iI t) Q := by
  unfold wpX4_joins
  have := l_mjoins hb1 hb2 ht h1t h2t h1 h2 hR hS hN e1 e2 hE he hQ (n1 + n2) 0 M rfl (by omega) (FrW.r _ _) (fun q hq => by omega)
  rw [show jI v1 v2 n1 n2 0 = 0 from rfl] at this
  simp (disch := omega) only [iI_lit, iI_neg, iI_add, iI_sub, iI_mul, iI_lt, iI_le, iI_eq, iI_in, iI_clamp, iI_mx, iI_mn, iI_nI, Int.toNat_natCast, forall_eq]
  simpa using this
/-! ===== the reference's streams ===== -/
/-- nothing but stream s has changed -/
def FrM (s : Nat) (M M' : Mem) : Prop := M'.2 = M.2 ∧ ∀ a k, ¬ ((220 ≤ a ∧ a ≤ 222 ∨ a = 228) ∧ 1000 * s ≤ k ∧ k < 1000 * s + 1000) → ¬ (223 ≤ a ∧ a ≤ 227 ∧ k = s) → gI M' a k = gI M a k
theorem FrM.r (b : Nat) (M : Mem) : FrM b M M := ⟨rfl, fun _ _ _ _ => rfl⟩
theorem FrM.t {b : Nat} {M M' M'' : Mem} (h : FrM b M M') (h2 : FrM b M' M'') : FrM b M M'' := ⟨h2.1.trans h.1, fun a k p q => (h2.2 a k p q).trans (h.2 a k p q)⟩
theorem FrM.p {b a k : Nat} {M M' : Mem} {x : Int32} (h : FrM b M M') (hp : ((220 ≤ a ∧ a ≤ 222 ∨ a = 228) ∧ 1000 * b ≤ k ∧ k < 1000 * b + 1000) ∨ (223 ≤ a ∧ a ≤ 227 ∧ k = b)) : FrM b M (pI M' a k x) := by
  refine ⟨h.1, fun a' k' p q => ?_⟩
  rw [gI_pI, if_neg (by intro z; obtain ⟨z1, z2⟩ := z; subst z1; subst z2; omega)]
  exact h.2 a' k' p q
theorem FrW.m {b : Nat} {M M' : Mem} (h : FrW b M M') : FrM b M M' := ⟨h.1, fun a k p q => h.2 a k (by omega) (by omega)⟩
/-- the reference's stream s is x -/
def MT (M : Mem) (s : Nat) (x : St) : Prop := MR M s (tn x) (tv x) (tl x) (td x) ∧ gI M 224 s = iI (tN x) ∧ gI M 225 s = iI (te x) ∧ gI M 226 s = iI (ts x) ∧ gI M 227 s = iI (tk x) ∧ ∀ k, k < 1000 → gI M 228 (1000 * s + k) = iI (tc x k)
theorem MT.fm {s t : Nat} {x : St} {M M' : Mem} (h : MT M s x) (hn : tn x ≤ 1000) (hF : FrM t M M') (hc : ¬ s = t) : MT M' s x := by
  obtain ⟨h1, h2, h3, h4, h5, h6⟩ := h
  refine ⟨⟨?_, fun k hk => ?_⟩, ?_, ?_, ?_, ?_, fun k hk => ?_⟩
  · rw [hF.2 _ _ (by omega) (by omega)]
    exact h1.1
  · rw [hF.2 _ _ (by omega) (by omega), hF.2 _ _ (by omega) (by omega), hF.2 _ _ (by omega) (by omega)]
    exact h1.2 k hk
  · rw [hF.2 _ _ (by omega) (by omega)]
    exact h2
  · rw [hF.2 _ _ (by omega) (by omega)]
    exact h3
  · rw [hF.2 _ _ (by omega) (by omega)]
    exact h4
  · rw [hF.2 _ _ (by omega) (by omega)]
    exact h5
  · rw [hF.2 _ _ (by omega) (by omega)]
    exact h6 k hk
theorem l_empties {M : Mem} {s : Nat} {Q : Mem → Prop} (hs : s < 4) (hQ : ∀ M', FrM s M M' → (∀ a, ¬ a = 228 → ∀ k, gI M' a k = gI M a k) → (∀ k, k < 1000 → gI M' 228 (1000 * s + k) = iI 0) → Q M') : ∀ f i M1, 1000 - i = f → i ≤ 1000 → FrM s M M1 → (∀ a, ¬ a = 228 → ∀ k, gI M1 a k = gI M a k) → (∀ k, k < i → gI M1 228 (1000 * s + k) = iI 0) → ∃ m, wX4_empties_23 Q (iI s) m M1 (iI (i : Nat)) := by
  intro f
  induction f with
  | zero =>
    intro i M1 hf hi hF hs' hk
    rw [ex_s rfl]
    simp only [wX4_empties_23]
    simp (disch := omega) only [iI_lit, iI_neg, iI_add, iI_sub, iI_mul, iI_lt, iI_le, iI_eq, iI_in, iI_clamp, iI_mx, iI_mn, iI_nI, Int.toNat_natCast, forall_eq, br_1, br_2, br_3, br_4, br_in, br_5, br_6, br_7, br_8, ex_c, br_nl, br_le, br_ne, gp_1, gp_2, gp_3, gf_1, gf_2, ix_0, ix_1, ix_2, ix_3, tn_1, tn_2, pp_1]
    exact hQ M1 hF hs' (fun k hk' => hk k (by omega))
  | succ f ih =>
    intro i M1 hf hi hF hs' hk
    rw [ex_s rfl]
    simp only [wX4_empties_23]
    simp (disch := omega) only [iI_lit, iI_neg, iI_add, iI_sub, iI_mul, iI_lt, iI_le, iI_eq, iI_in, iI_clamp, iI_mx, iI_mn, iI_nI, Int.toNat_natCast, forall_eq, br_1, br_2, br_3, br_4, br_in, br_5, br_6, br_7, br_8, ex_c, br_nl, br_le, br_ne, gp_1, gp_2, gp_3, gf_1, gf_2, ix_0, ix_1, ix_2, ix_3, tn_1, tn_2, pp_1]
    have := ih (i + 1) (pI M1 228 (1000 * s + i) (iI 0)) (by omega) (by omega) (FrM.p hF (by omega)) (fun a ha k => by rw [gp_2 ha]; exact hs' a ha k) (fun k hk' => by
      by_cases c : k = i
      · rw [c, gp_1]
      · rw [gp_3 (by omega)]
        exact hk k (by omega))
    simpa using this
theorem m_empties {M : Mem} {s : Nat} {x : St} {Q : Mem → Prop} (hs : s < 4) (h : MT M s x) (hQ : ∀ M', FrM s M M' → MT M' s (xDrop x) → Q M') : wpX4_empties M (iI s) Q := by
  obtain ⟨h1, h2, h3, h4, h5, h6⟩ := h
  unfold wpX4_empties
  simp (disch := omega) only [iI_lit, iI_neg, iI_add, iI_sub, iI_mul, iI_lt, iI_le, iI_eq, iI_in, iI_clamp, iI_mx, iI_mn, iI_nI, Int.toNat_natCast, forall_eq, br_1, br_2, br_3, br_4, br_in, br_5, br_6, br_7, br_8, ex_c, br_nl, br_le, br_ne, gp_1, gp_2, gp_3, gf_1, gf_2, ix_0, ix_1, ix_2, ix_3, tn_1, tn_2, pp_1]
  have := l_empties (M := pI (pI (pI M 223 s (iI 0)) 224 s (iI 0)) 226 s (iI 0)) (Q := Q) hs (fun M' hF hs' hk => ?_) 1000 0 _ rfl (by omega) (FrM.r _ _) (fun _ _ _ => rfl) (fun k hk => by omega)
  · simpa using this
  · refine hQ M' (FrM.t (FrM.p (FrM.p (FrM.p (FrM.r _ _) (by omega)) (by omega)) (by omega)) hF) ⟨⟨?_, fun k hk' => absurd hk' (Nat.not_lt_zero k)⟩, ?_, ?_, ?_, ?_, hk⟩
    · rw [hs' _ (by omega)]
      simp (disch := omega) only [iI_lit, iI_neg, iI_add, iI_sub, iI_mul, iI_lt, iI_le, iI_eq, iI_in, iI_clamp, iI_mx, iI_mn, iI_nI, Int.toNat_natCast, forall_eq, br_1, br_2, br_3, br_4, br_in, br_5, br_6, br_7, br_8, ex_c, br_nl, br_le, br_ne, gp_1, gp_2, gp_3, gf_1, gf_2]
      rfl
    · rw [hs' _ (by omega)]
      simp (disch := omega) only [iI_lit, iI_neg, iI_add, iI_sub, iI_mul, iI_lt, iI_le, iI_eq, iI_in, iI_clamp, iI_mx, iI_mn, iI_nI, Int.toNat_natCast, forall_eq, br_1, br_2, br_3, br_4, br_in, br_5, br_6, br_7, br_8, ex_c, br_nl, br_le, br_ne, gp_1, gp_2, gp_3, gf_1, gf_2]
      rfl
    · rw [hs' _ (by omega)]
      simp (disch := omega) only [iI_lit, iI_neg, iI_add, iI_sub, iI_mul, iI_lt, iI_le, iI_eq, iI_in, iI_clamp, iI_mx, iI_mn, iI_nI, Int.toNat_natCast, forall_eq, br_1, br_2, br_3, br_4, br_in, br_5, br_6, br_7, br_8, ex_c, br_nl, br_le, br_ne, gp_1, gp_2, gp_3, gf_1, gf_2]
      exact h3
    · rw [hs' _ (by omega)]
      simp (disch := omega) only [iI_lit, iI_neg, iI_add, iI_sub, iI_mul, iI_lt, iI_le, iI_eq, iI_in, iI_clamp, iI_mx, iI_mn, iI_nI, Int.toNat_natCast, forall_eq, br_1, br_2, br_3, br_4, br_in, br_5, br_6, br_7, br_8, ex_c, br_nl, br_le, br_ne, gp_1, gp_2, gp_3, gf_1, gf_2]
      rfl
    · rw [hs' _ (by omega)]
      simp (disch := omega) only [iI_lit, iI_neg, iI_add, iI_sub, iI_mul, iI_lt, iI_le, iI_eq, iI_in, iI_clamp, iI_mx, iI_mn, iI_nI, Int.toNat_natCast, forall_eq, br_1, br_2, br_3, br_4, br_in, br_5, br_6, br_7, br_8, ex_c, br_nl, br_le, br_ne, gp_1, gp_2, gp_3, gf_1, gf_2]
      exact h5
theorem m_compresses {M : Mem} {s : Nat} {x : St} {Q : Qi} {er : Int} (hs : s < 4) (hE : gI M 200 28 = iI er) (he : 2 ≤ er ∧ er ≤ 1000) (h : MT M s x) (hR : RI (tN x) (tn x) (tv x) (tl x) (td x)) (hQ : ∀ M', FrM s M M' → MT M' s (xShort x er) → Q (iI ((tn x : Int) - (xK x er).length)) M') : wpX4_compresses M (iI s) Q := by
  obtain ⟨h1, h2, h3, h4, h5, h6⟩ := h
  have hN := hR.1
  have hb := bo_b (n := tN x) (e := er) (by omega) he.1
  unfold wpX4_compresses
  simp (disch := omega) only [iI_lit, iI_neg, iI_add, iI_sub, iI_mul, iI_lt, iI_le, iI_eq, iI_in, iI_clamp, iI_mx, iI_mn, iI_nI, Int.toNat_natCast, forall_eq, br_1, br_2, br_3, br_4, br_in, br_5, br_6, br_7, br_8, ex_c, br_nl, br_le, br_ne, gp_1, gp_2, gp_3, gf_1, gf_2, ix_0, ix_1, ix_2, ix_3, tn_1, tn_2, pp_1, h5]
  rw [m_boundOf (M := pI (pI M 227 s (iI (tk x + 1))) 226 s (iI 0)) (b := s) (N := tN x) (e := er) (by omega) (by simp (disch := omega) only [iI_lit, iI_neg, iI_add, iI_sub, iI_mul, iI_lt, iI_le, iI_eq, iI_in, iI_clamp, iI_mx, iI_mn, iI_nI, Int.toNat_natCast, forall_eq, br_1, br_2, br_3, br_4, br_in, br_5, br_6, br_7, br_8, ex_c, br_nl, br_le, br_ne, gp_1, gp_2, gp_3, gf_1, gf_2]; exact h2) (by simp (disch := omega) only [iI_lit, iI_neg, iI_add, iI_sub, iI_mul, iI_lt, iI_le, iI_eq, iI_in, iI_clamp, iI_mx, iI_mn, iI_nI, Int.toNat_natCast, forall_eq, br_1, br_2, br_3, br_4, br_in, br_5, br_6, br_7, br_8, ex_c, br_nl, br_le, br_ne, gp_1, gp_2, gp_3, gf_1, gf_2]; exact hE) hN he]
  have hM : MR (pI (pI M 227 s (iI (tk x + 1))) 226 s (iI 0)) s (tn x) (tv x) (tl x) (td x) := by
    refine ⟨by simp (disch := omega) only [iI_lit, iI_neg, iI_add, iI_sub, iI_mul, iI_lt, iI_le, iI_eq, iI_in, iI_clamp, iI_mx, iI_mn, iI_nI, Int.toNat_natCast, forall_eq, br_1, br_2, br_3, br_4, br_in, br_5, br_6, br_7, br_8, ex_c, br_nl, br_le, br_ne, gp_1, gp_2, gp_3, gf_1, gf_2]; exact h1.1, fun k hk => ?_⟩
    simp (disch := omega) only [iI_lit, iI_neg, iI_add, iI_sub, iI_mul, iI_lt, iI_le, iI_eq, iI_in, iI_clamp, iI_mx, iI_mn, iI_nI, Int.toNat_natCast, forall_eq, br_1, br_2, br_3, br_4, br_in, br_5, br_6, br_7, br_8, ex_c, br_nl, br_le, br_ne, gp_1, gp_2, gp_3, gf_1, gf_2]
    exact h1.2 k hk
  refine m_shortens (by omega) hM hR (by omega) (fun M1 hF g4 hM1 => ?_)
  refine hQ M1 (FrM.t (FrM.p (FrM.p (FrM.r _ _) (by omega)) (by omega)) hF.m) ⟨hM1, ?_, ?_, ?_, ?_, fun k hk => ?_⟩
  · rw [g4]
    simp (disch := omega) only [iI_lit, iI_neg, iI_add, iI_sub, iI_mul, iI_lt, iI_le, iI_eq, iI_in, iI_clamp, iI_mx, iI_mn, iI_nI, Int.toNat_natCast, forall_eq, br_1, br_2, br_3, br_4, br_in, br_5, br_6, br_7, br_8, ex_c, br_nl, br_le, br_ne, gp_1, gp_2, gp_3, gf_1, gf_2]
    exact h2
  · rw [hF.2 _ _ (by omega) (by omega)]
    simp (disch := omega) only [iI_lit, iI_neg, iI_add, iI_sub, iI_mul, iI_lt, iI_le, iI_eq, iI_in, iI_clamp, iI_mx, iI_mn, iI_nI, Int.toNat_natCast, forall_eq, br_1, br_2, br_3, br_4, br_in, br_5, br_6, br_7, br_8, ex_c, br_nl, br_le, br_ne, gp_1, gp_2, gp_3, gf_1, gf_2]
    exact h3
  · rw [hF.2 _ _ (by omega) (by omega)]
    simp (disch := omega) only [iI_lit, iI_neg, iI_add, iI_sub, iI_mul, iI_lt, iI_le, iI_eq, iI_in, iI_clamp, iI_mx, iI_mn, iI_nI, Int.toNat_natCast, forall_eq, br_1, br_2, br_3, br_4, br_in, br_5, br_6, br_7, br_8, ex_c, br_nl, br_le, br_ne, gp_1, gp_2, gp_3, gf_1, gf_2]
    rfl
  · rw [hF.2 _ _ (by omega) (by omega)]
    simp (disch := omega) only [iI_lit, iI_neg, iI_add, iI_sub, iI_mul, iI_lt, iI_le, iI_eq, iI_in, iI_clamp, iI_mx, iI_mn, iI_nI, Int.toNat_natCast, forall_eq, br_1, br_2, br_3, br_4, br_in, br_5, br_6, br_7, br_8, ex_c, br_nl, br_le, br_ne, gp_1, gp_2, gp_3, gf_1, gf_2]
    rfl
  · rw [hF.2 _ _ (by omega) (by omega)]
    simp (disch := omega) only [iI_lit, iI_neg, iI_add, iI_sub, iI_mul, iI_lt, iI_le, iI_eq, iI_in, iI_clamp, iI_mx, iI_mn, iI_nI, Int.toNat_natCast, forall_eq, br_1, br_2, br_3, br_4, br_in, br_5, br_6, br_7, br_8, ex_c, br_nl, br_le, br_ne, gp_1, gp_2, gp_3, gf_1, gf_2]
    exact h6 k hk
theorem lp_insL {l : Nat → Int} {p k : Nat} : lp (insL l p) k = if k ≤ p then lp l k else if k = p + 1 then lp l p + 1 else l (k - 2) + 1 := by
  unfold lp
  by_cases c : k = 0
  · subst c
    simp
  · rw [if_neg c, if_neg c]
    unfold insL
    rcases Nat.lt_trichotomy k (p + 1) with q | q | q
    · rw [if_pos (by omega), if_pos (by omega)]
    · subst q
      simp only [Nat.add_sub_cancel, Nat.lt_irrefl, if_false, if_true, if_neg (show ¬ p + 1 ≤ p by omega)]
      rfl
    · rw [if_neg (by omega), if_neg (by omega), if_neg (by omega), if_neg (by omega), show k - 1 - 1 = k - 2 by omega]
theorem m_insert {M : Mem} {N b n : Nat} {v l d : Nat → Int} {Q : Mem → Prop} (hb : b < 6) (h : MR M b n v l d) (hR : RI N n v l d) (hN : N < 1000) {x : Int} (hx : 0 ≤ x ∧ x < 1000)
    (hQ : ∀ M', FrW b M M' → gI M' 224 b = gI M 224 b → MR M' b (n + 1) (ins v (plc v x n) x) (insL l (plc v x n)) (ins d (plc v x n) (sAh l d n (plc v x n))) → Q M') :
    wpX4_place M (iI b) (iI x) (fun r_2 M_1 => wpX4_spreadAt M_1 (iI b) r_2 (fun r_4 M_3 => wpX4_shifts M_3 (iI b) r_2 (iI 1) (fun M_5 => wpX4_lays M_5 (iI b) r_2 (iI x) (iI 1) r_4 Q))) := by
  have hn := hR.2.1
  have hp := plc_le v x n
  rw [m_place hb h hR (by omega), m_spreadAt hb h hR hp]
  refine m_shiftUp hb (by omega) hp h.1 (fun M1 hF g3 g4 glo ghi => ?_)
  rw [m_lays hb (by omega), Int.toNat_natCast]
  refine hQ _ (FrW.p (FrW.p (FrW.p hF (by omega)) (by omega)) (by omega)) (by simp (disch := omega) only [iI_lit, iI_neg, iI_add, iI_sub, iI_mul, iI_lt, iI_le, iI_eq, iI_in, iI_clamp, iI_mx, iI_mn, iI_nI, Int.toNat_natCast, forall_eq, br_1, br_2, br_3, br_4, br_in, br_5, br_6, br_7, br_8, ex_c, br_nl, br_le, br_ne, gp_1, gp_2, gp_3, gf_1, gf_2]; exact g4) ⟨by simp (disch := omega) only [iI_lit, iI_neg, iI_add, iI_sub, iI_mul, iI_lt, iI_le, iI_eq, iI_in, iI_clamp, iI_mx, iI_mn, iI_nI, Int.toNat_natCast, forall_eq, br_1, br_2, br_3, br_4, br_in, br_5, br_6, br_7, br_8, ex_c, br_nl, br_le, br_ne, gp_1, gp_2, gp_3, gf_1, gf_2]; exact g3, fun k hk => ?_⟩
  rw [lp_insL]
  unfold ins insL
  rcases Nat.lt_trichotomy k (plc v x n) with q | q | q
  · simp (disch := omega) only [iI_lit, iI_neg, iI_add, iI_sub, iI_mul, iI_lt, iI_le, iI_eq, iI_in, iI_clamp, iI_mx, iI_mn, iI_nI, Int.toNat_natCast, forall_eq, br_1, br_2, br_3, br_4, br_in, br_5, br_6, br_7, br_8, ex_c, br_nl, br_le, br_ne, gp_1, gp_2, gp_3, gf_1, gf_2, glo 220 k (by omega) (by omega) q, glo 221 k (by omega) (by omega) q, glo 222 k (by omega) (by omega) q]
    have := h.2 k (by omega)
    rw [if_pos q, if_pos q, if_pos q, if_pos (by omega)]
    exact this
  · subst q
    simp (disch := omega) only [iI_lit, iI_neg, iI_add, iI_sub, iI_mul, iI_lt, iI_le, iI_eq, iI_in, iI_clamp, iI_mx, iI_mn, iI_nI, Int.toNat_natCast, forall_eq, br_1, br_2, br_3, br_4, br_in, br_5, br_6, br_7, br_8, ex_c, br_nl, br_le, br_ne, gp_1, gp_2, gp_3, gf_1, gf_2]
    simp
    congr 1
    omega
  · simp (disch := omega) only [iI_lit, iI_neg, iI_add, iI_sub, iI_mul, iI_lt, iI_le, iI_eq, iI_in, iI_clamp, iI_mx, iI_mn, iI_nI, Int.toNat_natCast, forall_eq, br_1, br_2, br_3, br_4, br_in, br_5, br_6, br_7, br_8, ex_c, br_nl, br_le, br_ne, gp_1, gp_2, gp_3, gf_1, gf_2, ghi 220 k (by omega) (by omega) q (by omega), ghi 221 k (by omega) (by omega) q (by omega), ghi 222 k (by omega) (by omega) q (by omega)]
    have := h.2 (k - 1) (by omega)
    simp only [if_neg (show ¬ k < plc v x n by omega), if_neg (show ¬ k = plc v x n by omega), if_neg (show ¬ k ≤ plc v x n by omega)]
    refine ⟨this.1, ?_, this.2.2⟩
    rw [this.2.1]
    by_cases c : k = plc v x n + 1
    · rw [if_pos c, show k - 1 = plc v x n by omega]
      congr 1
      omega
    · rw [if_neg c]
      have : lp l (k - 1) = l (k - 2) := by simp [lp, show ¬ k - 1 = 0 by omega]; rfl
      rw [this]
      congr 1
      omega
theorem m_pushes {M : Mem} {s : Nat} {x : St} {Q : Mem → Prop} {w er : Int} (hs : s < 4) (hE : gI M 200 28 = iI er) (he : 2 ≤ er ∧ er ≤ 1000) (hw : 0 ≤ w ∧ w < 1000) (h : MT M s x) (hS : SI x) (hN : tN x < 1000) (hQ : ∀ M', FrM s M M' → MT M' s (xPush x w er) → Q M') : wpX4_pushes M (iI s) (iI w) Q := by
  obtain ⟨h1, h2, h3, h4, h5, h6⟩ := h
  obtain ⟨s1, s2, s3, s4, s5, s6⟩ := hS
  unfold wpX4_pushes
  simp only [iI_lit]
  refine m_insert (by omega) h1 s1 hN hw (fun M1 hF g4 hM => ?_)
  have k2 : gI M1 224 s = iI (tN x) := g4.trans h2
  have k3 : gI M1 225 s = iI (te x) := (hF.2 _ _ (by omega) (by omega)).trans h3
  have k4 : gI M1 226 s = iI (ts x) := (hF.2 _ _ (by omega) (by omega)).trans h4
  have k5 : gI M1 227 s = iI (tk x) := (hF.2 _ _ (by omega) (by omega)).trans h5
  have k6 : ∀ k, k < 1000 → gI M1 228 (1000 * s + k) = iI (tc x k) := fun k hk => (hF.2 _ _ (by omega) (by omega)).trans (h6 k hk)
  have kE : gI M1 200 28 = iI er := (hF.2 _ _ (by omega) (by omega)).trans hE
  simp (disch := omega) only [iI_lit, iI_neg, iI_add, iI_sub, iI_mul, iI_lt, iI_le, iI_eq, iI_in, iI_clamp, iI_mx, iI_mn, iI_nI, Int.toNat_natCast, forall_eq, br_1, br_2, br_3, br_4, br_in, br_5, br_6, br_7, br_8, ex_c, br_nl, br_le, br_ne, gp_1, gp_2, gp_3, gf_1, gf_2, ix_0, ix_1, ix_2, ix_3, tn_1, tn_2, pp_1, k2, k4, k3, k6 w.toNat (by omega)]
  have hFr : FrM s M (pI (pI (pI M1 224 s (iI ((tN x : Int) + 1))) 228 (1000 * s + w.toNat) (iI (tc x w.toNat + 1))) 226 s (iI (ts x + 1))) := FrM.p (FrM.p (FrM.p hF.m (by omega)) (by omega)) (by omega)
  have key : MT (pI (pI (pI M1 224 s (iI ((tN x : Int) + 1))) 228 (1000 * s + w.toNat) (iI (tc x w.toNat + 1))) 226 s (iI (ts x + 1))) s (xIns x w) := by
    refine ⟨⟨by simp (disch := omega) only [iI_lit, iI_neg, iI_add, iI_sub, iI_mul, iI_lt, iI_le, iI_eq, iI_in, iI_clamp, iI_mx, iI_mn, iI_nI, Int.toNat_natCast, forall_eq, br_1, br_2, br_3, br_4, br_in, br_5, br_6, br_7, br_8, ex_c, br_nl, br_le, br_ne, gp_1, gp_2, gp_3, gf_1, gf_2]; exact hM.1, fun k hk => by simp (disch := omega) only [iI_lit, iI_neg, iI_add, iI_sub, iI_mul, iI_lt, iI_le, iI_eq, iI_in, iI_clamp, iI_mx, iI_mn, iI_nI, Int.toNat_natCast, forall_eq, br_1, br_2, br_3, br_4, br_in, br_5, br_6, br_7, br_8, ex_c, br_nl, br_le, br_ne, gp_1, gp_2, gp_3, gf_1, gf_2]; exact hM.2 k hk⟩, by simp (disch := omega) only [iI_lit, iI_neg, iI_add, iI_sub, iI_mul, iI_lt, iI_le, iI_eq, iI_in, iI_clamp, iI_mx, iI_mn, iI_nI, Int.toNat_natCast, forall_eq, br_1, br_2, br_3, br_4, br_in, br_5, br_6, br_7, br_8, ex_c, br_nl, br_le, br_ne, gp_1, gp_2, gp_3, gf_1, gf_2]; rfl, by simp (disch := omega) only [iI_lit, iI_neg, iI_add, iI_sub, iI_mul, iI_lt, iI_le, iI_eq, iI_in, iI_clamp, iI_mx, iI_mn, iI_nI, Int.toNat_natCast, forall_eq, br_1, br_2, br_3, br_4, br_in, br_5, br_6, br_7, br_8, ex_c, br_nl, br_le, br_ne, gp_1, gp_2, gp_3, gf_1, gf_2]; exact k3, by simp (disch := omega) only [iI_lit, iI_neg, iI_add, iI_sub, iI_mul, iI_lt, iI_le, iI_eq, iI_in, iI_clamp, iI_mx, iI_mn, iI_nI, Int.toNat_natCast, forall_eq, br_1, br_2, br_3, br_4, br_in, br_5, br_6, br_7, br_8, ex_c, br_nl, br_le, br_ne, gp_1, gp_2, gp_3, gf_1, gf_2]; rfl, by simp (disch := omega) only [iI_lit, iI_neg, iI_add, iI_sub, iI_mul, iI_lt, iI_le, iI_eq, iI_in, iI_clamp, iI_mx, iI_mn, iI_nI, Int.toNat_natCast, forall_eq, br_1, br_2, br_3, br_4, br_in, br_5, br_6, br_7, br_8, ex_c, br_nl, br_le, br_ne, gp_1, gp_2, gp_3, gf_1, gf_2]; exact k5, fun k hk => ?_⟩
    show _ = iI (upi (tc x) w.toNat (tc x w.toNat + 1) k)
    unfold upi
    by_cases c : k = w.toNat
    · subst c
      rw [if_pos rfl]
      simp (disch := omega) only [iI_lit, iI_neg, iI_add, iI_sub, iI_mul, iI_lt, iI_le, iI_eq, iI_in, iI_clamp, iI_mx, iI_mn, iI_nI, Int.toNat_natCast, forall_eq, br_1, br_2, br_3, br_4, br_in, br_5, br_6, br_7, br_8, ex_c, br_nl, br_le, br_ne, gp_1, gp_2, gp_3, gf_1, gf_2]
    · rw [if_neg c]
      simp (disch := omega) only [iI_lit, iI_neg, iI_add, iI_sub, iI_mul, iI_lt, iI_le, iI_eq, iI_in, iI_clamp, iI_mx, iI_mn, iI_nI, Int.toNat_natCast, forall_eq, br_1, br_2, br_3, br_4, br_in, br_5, br_6, br_7, br_8, ex_c, br_nl, br_le, br_ne, gp_1, gp_2, gp_3, gf_1, gf_2]
      exact k6 k hk
  unfold xPush at hQ
  by_cases c : te x ≤ ts x + 1
  · rw [if_pos c] at hQ
    simp (disch := omega) only [iI_lit, iI_neg, iI_add, iI_sub, iI_mul, iI_lt, iI_le, iI_eq, iI_in, iI_clamp, iI_mx, iI_mn, iI_nI, Int.toNat_natCast, forall_eq, br_1, br_2, br_3, br_4, br_in, br_5, br_6, br_7, br_8, ex_c, br_nl, br_le, br_ne, gp_1, gp_2, gp_3, gf_1, gf_2, ix_0, ix_1, ix_2, ix_3, tn_1, tn_2, pp_1]
    exact m_compresses (Q := fun _ M => Q M) hs (by simp (disch := omega) only [iI_lit, iI_neg, iI_add, iI_sub, iI_mul, iI_lt, iI_le, iI_eq, iI_in, iI_clamp, iI_mx, iI_mn, iI_nI, Int.toNat_natCast, forall_eq, br_1, br_2, br_3, br_4, br_in, br_5, br_6, br_7, br_8, ex_c, br_nl, br_le, br_ne, gp_1, gp_2, gp_3, gf_1, gf_2]; exact kE) he key (RI_insert s1 hN hw) (fun M2 hF2 hC2 => hQ M2 (hFr.t hF2) hC2)
  · rw [if_neg c] at hQ
    simp (disch := omega) only [iI_lit, iI_neg, iI_add, iI_sub, iI_mul, iI_lt, iI_le, iI_eq, iI_in, iI_clamp, iI_mx, iI_mn, iI_nI, Int.toNat_natCast, forall_eq, br_1, br_2, br_3, br_4, br_in, br_5, br_6, br_7, br_8, ex_c, br_nl, br_le, br_ne, gp_1, gp_2, gp_3, gf_1, gf_2, ix_0, ix_1, ix_2, ix_3, tn_1, tn_2, pp_1]
    exact hQ _ hFr key
