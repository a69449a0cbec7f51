/-! bytes -/
/-- the byte of v at a shift -/
def bZ (v : Int32) (z : Int) : Int32 := ((Int32.toUInt32 v >>> (Int32.toUInt32 (iI z) &&& Int32.toUInt32 (iI 31))).toInt32) &&& iI 255
theorem iI_ti (x : Int32) : iI x.toInt = x := by
  unfold iI
  rw [Int32.ofInt_toInt]
theorem and255 (y : Int32) : 0 ≤ (y &&& iI 255).toInt ∧ (y &&& iI 255).toInt ≤ 255 := by
  have h : (y &&& iI 255).toBitVec.toNat ≤ 255 := by
    rw [Int32.toBitVec_and, BitVec.toNat_and]
    exact Nat.le_trans Nat.and_le_right (by decide)
  have h2 : (y &&& iI 255).toInt = (y &&& iI 255).toBitVec.toNat := by
    rw [← Int32.toInt_toBitVec]
    exact BitVec.toInt_eq_toNat_of_lt (by omega)
  rw [h2]
  omega
theorem bit255 {i : Nat} (h : 8 ≤ i) : (iI 255).toBitVec.getLsbD i = false := by
  have : (iI 255).toBitVec.toNat = 255 := by decide
  rw [← BitVec.testBit_toNat, this]
  exact Nat.testBit_lt_two_pow (Nat.lt_of_lt_of_le (by decide) (Nat.pow_le_pow_right (by decide) h))
theorem by_bits (b : BitVec 32) (s : Nat) (hs : s ≤ 24) : ((((b.sshiftRight s).signExtend 8).signExtend 32).signExtend 8).signExtend 32 &&& (iI 255).toBitVec = (b >>> s) &&& (iI 255).toBitVec := by
  apply BitVec.eq_of_getLsbD_eq
  intro i hi
  by_cases c : 8 ≤ i
  · rw [BitVec.getLsbD_and, BitVec.getLsbD_and, bit255 c, Bool.and_false, Bool.and_false]
  · rw [BitVec.getLsbD_and, BitVec.getLsbD_and, BitVec.getLsbD_signExtend, BitVec.getLsbD_signExtend, BitVec.getLsbD_signExtend, BitVec.getLsbD_signExtend, BitVec.getLsbD_sshiftRight, BitVec.getLsbD_ushiftRight]
    simp [show i < 8 by omega, show i < 32 by omega, show s + i < 32 by omega, show ¬ 32 ≤ i by omega]
theorem by_eq (v : Int32) {z : Int} (hz : z = 0 ∨ z = 8 ∨ z = 16 ∨ z = 24) : vp_nar .byte (Int8.toInt32 (Int32.toInt8 (v >>> (iI z &&& iI 31)))) &&& iI 255 = bZ v z := by
  apply Int32.toBitVec.inj
  rcases hz with rfl | rfl | rfl | rfl
  · exact by_bits v.toBitVec 0 (by decide)
  · exact by_bits v.toBitVec 8 (by decide)
  · exact by_bits v.toBitVec 16 (by decide)
  · exact by_bits v.toBitVec 24 (by decide)
theorem nc_1 (k : Nat) : (k : Int) + 1 = ((k + 1 : Nat) : Int) := rfl
theorem e_put {M : Mem} {n w : Nat} {v : Int32} {B : Nat → Int} {Q : Mem → Prop} (h : gI M 1 1 = iI (n + 4 * w : Nat)) (hn : n + 4 * w + 4 ≤ 400) (hB : ∀ t, t < 4 → B (4 * w + t) = (bZ v (24 - 8 * (t : Int))).toInt) (hb : ∀ t, t < 4 * w → gI M 2 (n + t) = iI (B t))
    (hQ : ∀ M', Fr 1 2 M M' → gI M' 1 1 = iI (n + 4 * (w + 1) : Nat) → (∀ i, i < n → gI M' 2 i = gI M 2 i) → (∀ t, t < 4 * (w + 1) → gI M' 2 (n + t) = iI (B t)) → Q M') : wpX2_putBytes M v Q := by
  obtain ⟨m, hm⟩ : ∃ m, n + 4 * w = m := ⟨_, rfl⟩
  rw [hm] at h hn
  have b0 : iI (B (4 * w + 0)) = bZ v 24 := by rw [hB 0 (by omega), iI_ti]; rfl
  have b1 : iI (B (4 * w + 1)) = bZ v 16 := by rw [hB 1 (by omega), iI_ti]; rfl
  have b2 : iI (B (4 * w + 2)) = bZ v 8 := by rw [hB 2 (by omega), iI_ti]; rfl
  have b3 : iI (B (4 * w + 3)) = bZ v 0 := by rw [hB 3 (by omega), iI_ti]; rfl
  unfold wpX2_putBytes
  refine ⟨5, ?_⟩
  simp only [wX2_putBytes_3]
  simp (disch := omega) only [iI_lit, iI_neg, iI_add, iI_sub, iI_mul, iI_lt, iI_le, iI_eq, iI_in, iI_clamp, iI_mx, iI_mn, iI_nI, Int.toNat_natCast, forall_eq, br_1, br_2, br_3, br_4, br_in, br_5, br_6, br_7, br_8, ex_c, br_nl, br_le, br_ne, gp_1, gp_2, gp_3, gf_1, gf_2, ix_0, ix_1, ix_2, ix_3, tn_1, tn_2, pp_1, h, nc_1, show (24 : Int) + -8 = 16 from rfl, show (16 : Int) + -8 = 8 from rfl, show (8 : Int) + -8 = 0 from rfl, show (0 : Int) + -8 = -8 from rfl]
  refine hQ _ ?_ ?_ ?_ ?_
  · repeat (first | exact Fr.r _ _ _ | refine Fr.p ?_ (by omega))
  · simp (disch := omega) only [iI_lit, iI_neg, iI_add, iI_sub, iI_mul, iI_lt, iI_le, iI_eq, iI_in, iI_clamp, iI_mx, iI_mn, iI_nI, Int.toNat_natCast, forall_eq, br_1, br_2, br_3, br_4, br_in, br_5, br_6, br_7, br_8, ex_c, br_nl, br_le, br_ne, gp_1, gp_2, gp_3, gf_1, gf_2, ix_0, ix_1, ix_2, ix_3, tn_1, tn_2, pp_1, h, nc_1]
    rw [show n + 4 * (w + 1) = m + 1 + 1 + 1 + 1 by omega]
  · intro i hi
    simp (disch := omega) only [iI_lit, iI_neg, iI_add, iI_sub, iI_mul, iI_lt, iI_le, iI_eq, iI_in, iI_clamp, iI_mx, iI_mn, iI_nI, Int.toNat_natCast, forall_eq, br_1, br_2, br_3, br_4, br_in, br_5, br_6, br_7, br_8, ex_c, br_nl, br_le, br_ne, gp_1, gp_2, gp_3, gf_1, gf_2, ix_0, ix_1, ix_2, ix_3, tn_1, tn_2, pp_1]
  · intro t ht
    rcases (show t < 4 * w ∨ t = 4 * w + 0 ∨ t = 4 * w + 1 ∨ t = 4 * w + 2 ∨ t = 4 * w + 3 by omega) with q | q | q | q | q
    · simp (disch := omega) only [iI_lit, iI_neg, iI_add, iI_sub, iI_mul, iI_lt, iI_le, iI_eq, iI_in, iI_clamp, iI_mx, iI_mn, iI_nI, Int.toNat_natCast, forall_eq, br_1, br_2, br_3, br_4, br_in, br_5, br_6, br_7, br_8, ex_c, br_nl, br_le, br_ne, gp_1, gp_2, gp_3, gf_1, gf_2, ix_0, ix_1, ix_2, ix_3, tn_1, tn_2, pp_1]
      exact hb t q
    · rw [q, b0, show n + (4 * w + 0) = m by omega]
      simp (disch := omega) only [iI_lit, iI_neg, iI_add, iI_sub, iI_mul, iI_lt, iI_le, iI_eq, iI_in, iI_clamp, iI_mx, iI_mn, iI_nI, Int.toNat_natCast, forall_eq, br_1, br_2, br_3, br_4, br_in, br_5, br_6, br_7, br_8, ex_c, br_nl, br_le, br_ne, gp_1, gp_2, gp_3, gf_1, gf_2, ix_0, ix_1, ix_2, ix_3, tn_1, tn_2, pp_1]
      rfl
    · rw [q, b1, show n + (4 * w + 1) = m + 1 by omega]
      simp (disch := omega) only [iI_lit, iI_neg, iI_add, iI_sub, iI_mul, iI_lt, iI_le, iI_eq, iI_in, iI_clamp, iI_mx, iI_mn, iI_nI, Int.toNat_natCast, forall_eq, br_1, br_2, br_3, br_4, br_in, br_5, br_6, br_7, br_8, ex_c, br_nl, br_le, br_ne, gp_1, gp_2, gp_3, gf_1, gf_2, ix_0, ix_1, ix_2, ix_3, tn_1, tn_2, pp_1]
      rfl
    · rw [q, b2, show n + (4 * w + 2) = m + 1 + 1 by omega]
      simp (disch := omega) only [iI_lit, iI_neg, iI_add, iI_sub, iI_mul, iI_lt, iI_le, iI_eq, iI_in, iI_clamp, iI_mx, iI_mn, iI_nI, Int.toNat_natCast, forall_eq, br_1, br_2, br_3, br_4, br_in, br_5, br_6, br_7, br_8, ex_c, br_nl, br_le, br_ne, gp_1, gp_2, gp_3, gf_1, gf_2, ix_0, ix_1, ix_2, ix_3, tn_1, tn_2, pp_1]
      rfl
    · rw [q, b3, show n + (4 * w + 3) = m + 1 + 1 + 1 by omega]
      simp (disch := omega) only [iI_lit, iI_neg, iI_add, iI_sub, iI_mul, iI_lt, iI_le, iI_eq, iI_in, iI_clamp, iI_mx, iI_mn, iI_nI, Int.toNat_natCast, forall_eq, br_1, br_2, br_3, br_4, br_in, br_5, br_6, br_7, br_8, ex_c, br_nl, br_le, br_ne, gp_1, gp_2, gp_3, gf_1, gf_2, ix_0, ix_1, ix_2, ix_3, tn_1, tn_2, pp_1]
      rfl
/-- the t-th byte of five numbers -/
def fw (a b c d e : Int32) (t : Nat) : Int32 := if t < 4 then a else if t < 8 then b else if t < 12 then c else if t < 16 then d else e
def fB (a b c d e : Int32) (t : Nat) : Int := (bZ (fw a b c d e t) (24 - 8 * ((t : Int) % 4))).toInt
theorem l_mfeed {M : Mem} {n : Nat} {a b c d e : Int32} {Q : Qi} (hn : n + 20 ≤ 400)
    (hQ : ∀ M', (M'.2 = M.2 ∧ ∀ x k, ¬ (x = 200 ∧ k = 4) → ¬ (x = 204 ∧ n ≤ k ∧ k < n + 20) → gI M' x k = gI M x k) → gI M' 200 4 = iI (n + 20 : Nat) → (∀ t, t < 20 → gI M' 204 (n + t) &&& iI 255 = iI (fB a b c d e t)) → Q (iI (n + 20 : Nat)) M') :
    ∀ f i M1, 20 - i = f → i ≤ 20 → (M1.2 = M.2 ∧ ∀ x k, ¬ (x = 200 ∧ k = 4) → ¬ (x = 204 ∧ n ≤ k ∧ k < n + 20) → gI M1 x k = gI M x k) → gI M1 200 4 = iI (n + i : Nat) → (∀ t, t < i → gI M1 204 (n + t) &&& iI 255 = iI (fB a b c d e t)) → ∃ m, wX4_feed_23 Q a b c d e m M1 (iI (i : Nat)) := by
  intro f
  induction f with
  | zero =>
    intro i M1 hf hi hF h4 hb
    have e0 : i = 20 := by omega
    subst e0
    rw [ex_s rfl]
    simp only [wX4_feed_23]
    simp (disch := omega) only [iI_lit, iI_neg, iI_add, iI_sub, iI_mul, iI_lt, iI_le, iI_eq, iI_in, iI_clamp, iI_mx, iI_mn, iI_nI, Int.toNat_natCast, forall_eq, br_1, br_2, br_3, br_4, br_in, br_5, br_6, br_7, br_8, ex_c, br_nl, br_le, br_ne, gp_1, gp_2, gp_3, gf_1, gf_2, h4]
    exact hQ M1 hF h4 hb
  | succ f ih =>
    intro i M1 hf hi hF h4 hb
    rw [ex_s rfl]
    simp only [wX4_feed_23, wX4_feed_76]
    have key : ∀ w : Int32, w = fw a b c d e i → ∃ m, wX4_feed_23 Q a b c d e m (pI (pI M1 204 (n + i) (vp_nar .byte (Int8.toInt32 (Int32.toInt8 (w >>> (iI (24 - 8 * ((i : Int) % 4)) &&& iI 31)))))) 200 4 (iI (n + i + 1 : Nat))) (iI (i + 1 : Nat)) := by
      intro w hw
      refine ih (i + 1) _ (by omega) (by omega) ⟨hF.1, fun x k p q => ?_⟩ ?_ ?_
      · rw [gI_pI, if_neg p, gI_pI, if_neg (by omega)]
        exact hF.2 x k p q
      · rw [gp_1]
        rfl
      · intro t ht
        rw [gp_2 (by omega)]
        by_cases c0 : t = i
        · subst c0
          rw [gp_1, by_eq _ (by omega), hw]
          unfold fB
          rw [iI_ti]
        · rw [gp_3 (by omega)]
          exact hb t (by omega)
    have k1 := key _ rfl
    unfold fw at k1
    by_cases c1 : i < 4
    · rw [if_pos c1] at k1
      simp (disch := omega) only [iI_lit, iI_neg, iI_add, iI_sub, iI_mul, iI_lt, iI_le, iI_eq, iI_in, iI_clamp, iI_mx, iI_mn, iI_nI, Int.toNat_natCast, forall_eq, br_1, br_2, br_3, br_4, br_in, br_5, br_6, br_7, br_8, ex_c, br_nl, br_le, br_ne, gp_1, gp_2, gp_3, gf_1, gf_2, ix_0, ix_1, ix_2, ix_3, tn_1, tn_2, pp_1, h4, iI_rem, nc_1]
      exact k1
    · rw [if_neg c1] at k1
      by_cases c2 : i < 8
      · rw [if_pos c2] at k1
        simp (disch := omega) only [iI_lit, iI_neg, iI_add, iI_sub, iI_mul, iI_lt, iI_le, iI_eq, iI_in, iI_clamp, iI_mx, iI_mn, iI_nI, Int.toNat_natCast, forall_eq, br_1, br_2, br_3, br_4, br_in, br_5, br_6, br_7, br_8, ex_c, br_nl, br_le, br_ne, gp_1, gp_2, gp_3, gf_1, gf_2, ix_0, ix_1, ix_2, ix_3, tn_1, tn_2, pp_1, h4, iI_rem, nc_1]
        exact k1
      · rw [if_neg c2] at k1
        by_cases c3 : i < 12
        · rw [if_pos c3] at k1
          simp (disch := omega) only [iI_lit, iI_neg, iI_add, iI_sub, iI_mul, iI_lt, iI_le, iI_eq, iI_in, iI_clamp, iI_mx, iI_mn, iI_nI, Int.toNat_natCast, forall_eq, br_1, br_2, br_3, br_4, br_in, br_5, br_6, br_7, br_8, ex_c, br_nl, br_le, br_ne, gp_1, gp_2, gp_3, gf_1, gf_2, ix_0, ix_1, ix_2, ix_3, tn_1, tn_2, pp_1, h4, iI_rem, nc_1]
          exact k1
        · rw [if_neg c3] at k1
          by_cases c4 : i < 16
          · rw [if_pos c4] at k1
            simp (disch := omega) only [iI_lit, iI_neg, iI_add, iI_sub, iI_mul, iI_lt, iI_le, iI_eq, iI_in, iI_clamp, iI_mx, iI_mn, iI_nI, Int.toNat_natCast, forall_eq, br_1, br_2, br_3, br_4, br_in, br_5, br_6, br_7, br_8, ex_c, br_nl, br_le, br_ne, gp_1, gp_2, gp_3, gf_1, gf_2, ix_0, ix_1, ix_2, ix_3, tn_1, tn_2, pp_1, h4, iI_rem, nc_1]
            exact k1
          · rw [if_neg c4] at k1
            simp (disch := omega) only [iI_lit, iI_neg, iI_add, iI_sub, iI_mul, iI_lt, iI_le, iI_eq, iI_in, iI_clamp, iI_mx, iI_mn, iI_nI, Int.toNat_natCast, forall_eq, br_1, br_2, br_3, br_4, br_in, br_5, br_6, br_7, br_8, ex_c, br_nl, br_le, br_ne, gp_1, gp_2, gp_3, gf_1, gf_2, ix_0, ix_1, ix_2, ix_3, tn_1, tn_2, pp_1, h4, iI_rem, nc_1]
            exact k1
def sB (S : Gs) (a b c d e : Int32) : Gs := (gT S, gk S, gE S, gS S, gt S, gF S, gP S, fun i => if i < gn S then gB S i else fB a b c d e (i - gn S), gn S + 20)
theorem op_feed {mk : Nat} {S : Gs} {M : Mem} (hC : CS mk S M) (hG : GI S) (a b c d e : Int32) : Good mk S (fun Q => wpX3_feed M a b c d e Q) (fun M1 Q => wpX4_feed M1 a b c d e Q) M := by
  have hn := hG.2.2.2.2.2.2.2.1
  by_cases c0 : gn S + 20 ≤ 400
  · refine ⟨sB S a b c d e, iI (gn S + 20 : Nat), ?_, fun Q hQ => ?_, fun M1 hM Q hQ => ?_⟩
    · obtain ⟨h1, h2, h3, h4, h5, h6, h7, h8, h9, h10⟩ := hG
      refine ⟨h1, h2, h3, h4, h5, h6, h7, c0, ?_, h10⟩
      intro i hi
      show 0 ≤ (if i < gn S then gB S i else fB a b c d e (i - gn S)) ∧ (if i < gn S then gB S i else fB a b c d e (i - gn S)) ≤ 255
      split
      · rename_i q
        exact h9 i q
      · exact and255 _
    · show wpX3_feed M a b c d e Q
      unfold wpX3_feed
      have h1 := hC.2.2.2.2.2.2.2.1
      simp (disch := omega) only [iI_lit, iI_neg, iI_add, iI_sub, iI_mul, iI_lt, iI_le, iI_eq, iI_in, iI_clamp, iI_mx, iI_mn, iI_nI, Int.toNat_natCast, forall_eq, br_1, br_2, br_3, br_4, br_in, br_5, br_6, br_7, br_8, ex_c, br_nl, br_le, br_ne, gp_1, gp_2, gp_3, gf_1, gf_2, h1]
      refine e_put (n := gn S) (w := 0) (B := fB a b c d e) h1 (by omega) (fun t ht => ?_) (fun t ht => by omega) (fun M2 hF2 g2 k2 p2 => ?_)
      · rcases (show t = 0 ∨ t = 1 ∨ t = 2 ∨ t = 3 by omega) with rfl | rfl | rfl | rfl <;> rfl
      refine e_put (n := gn S) (w := 1) (B := fB a b c d e) g2 (by omega) (fun t ht => ?_) p2 (fun M3 hF3 g3 k3 p3 => ?_)
      · rcases (show t = 0 ∨ t = 1 ∨ t = 2 ∨ t = 3 by omega) with rfl | rfl | rfl | rfl <;> rfl
      refine e_put (n := gn S) (w := 2) (B := fB a b c d e) g3 (by omega) (fun t ht => ?_) p3 (fun M4 hF4 g4 k4 p4 => ?_)
      · rcases (show t = 0 ∨ t = 1 ∨ t = 2 ∨ t = 3 by omega) with rfl | rfl | rfl | rfl <;> rfl
      refine e_put (n := gn S) (w := 3) (B := fB a b c d e) g4 (by omega) (fun t ht => ?_) p4 (fun M5 hF5 g5 k5 p5 => ?_)
      · rcases (show t = 0 ∨ t = 1 ∨ t = 2 ∨ t = 3 by omega) with rfl | rfl | rfl | rfl <;> rfl
      refine e_put (n := gn S) (w := 4) (B := fB a b c d e) g5 (by omega) (fun t ht => ?_) p5 (fun M6 hF6 g6 k6 p6 => ?_)
      · rcases (show t = 0 ∨ t = 1 ∨ t = 2 ∨ t = 3 by omega) with rfl | rfl | rfl | rfl <;> rfl
      rw [g6]
      have hF : Fr 1 2 M M6 := (((hF2.t hF3).t hF4).t hF5).t hF6
      refine hQ M6 ?_ (hF.w (by omega) (by omega))
      obtain ⟨h1, h2, h3, h4, h5, h6, h7, h8, h9, h10⟩ := hC
      have hk := hG.1
      refine ⟨h1, ?_, ?_, ?_, ?_, ?_, ?_, g6, ?_, ?_⟩
      · rw [hF.g (by omega)]
        exact h2
      · rw [hF.g (by omega)]
        exact h3
      · rw [hF.g (by omega)]
        exact h4
      · rw [hF.g (by omega)]
        exact h5
      · rw [hF.g (by omega)]
        exact h6
      · rw [hF.g (by omega)]
        exact h7
      · intro i hi
        have hi' : i < gn S + 20 := hi
        show gI M6 2 i = iI (if i < gn S then gB S i else fB a b c d e (i - gn S))
        by_cases q : i < gn S
        · rw [if_pos q, k6 i q, k5 i q, k4 i q, k3 i q, k2 i q]
          exact h9 i q
        · rw [if_neg q]
          have := p6 (i - gn S) (by omega)
          rw [show gn S + (i - gn S) = i by omega] at this
          exact this
      · intro j hj
        exact (h10 j hj).fr hF (by omega)
    · show wpX4_feed M1 a b c d e Q
      unfold wpX4_feed
      rw [forall_eq]
      simp only [iI_lit]
      have h0 : MS S (pI M1 200 0 (iI 0)) := hM.p (by omega)
      simp (disch := omega) only [iI_lit, iI_neg, iI_add, iI_sub, iI_mul, iI_lt, iI_le, iI_eq, iI_in, iI_clamp, iI_mx, iI_mn, iI_nI, Int.toNat_natCast, forall_eq, br_1, br_2, br_3, br_4, br_in, br_5, br_6, br_7, br_8, ex_c, br_nl, br_le, br_ne, gp_1, gp_2, gp_3, gf_1, gf_2, h0.2.2.1]
      have := l_mfeed (M := pI M1 200 0 (iI 0)) (n := gn S) (a := a) (b := b) (c := c) (d := d) (e := e) (Q := Q) c0 (fun M' hF g4 p => by
        refine hQ M' ?_ (Fr.t (RM.fr (RM.p (RM.r _) (by omega))) ⟨hF.1, fun x hx => funext (fun k => hF.2 x k (by omega) (by omega))⟩)
        obtain ⟨h1, h2, h3, h4', h5, h6, h7, h8, h9⟩ := h0
        refine ⟨?_, ?_, g4, ?_, ?_, ?_, ?_, ?_, ?_⟩
        · rw [hF.2 _ _ (by omega) (by omega)]
          exact h1
        · rw [hF.2 _ _ (by omega) (by omega)]
          exact h2
        · rw [hF.2 _ _ (by omega) (by omega)]
          exact h4'
        · rw [hF.2 _ _ (by omega) (by omega)]
          exact h5
        · rw [hF.2 _ _ (by omega) (by omega)]
          exact h6
        · rw [hF.2 _ _ (by omega) (by omega)]
          exact h7
        · intro i hi
          have hi' : i < gn S + 20 := hi
          show gI M' 204 i &&& iI 255 = iI (if i < gn S then gB S i else fB a b c d e (i - gn S))
          by_cases q : i < gn S
          · rw [if_pos q, hF.2 _ _ (by omega) (by omega)]
            exact h8 i q
          · rw [if_neg q]
            have := p (i - gn S) (by omega)
            rw [show gn S + (i - gn S) = i by omega] at this
            exact this
        · intro j hj
          exact (h9 j hj).cg (hG.nb hj) (fun x k q => hF.2 x k (by omega) (by omega))) 20 0 (pI M1 200 0 (iI 0)) rfl (by omega) ⟨rfl, fun _ _ _ _ => rfl⟩ h0.2.2.1 (fun t ht => by omega)
      simpa using this
  · refine ⟨S, iI (-1), hG, fun Q hQ => ?_, fun M1 hM Q hQ => ?_⟩
    · show wpX3_feed M a b c d e Q
      unfold wpX3_feed
      simp (disch := omega) only [iI_lit, iI_neg, iI_add, iI_sub, iI_mul, iI_lt, iI_le, iI_eq, iI_in, iI_clamp, iI_mx, iI_mn, iI_nI, Int.toNat_natCast, forall_eq, br_1, br_2, br_3, br_4, br_in, br_5, br_6, br_7, br_8, ex_c, br_nl, br_le, br_ne, gp_1, gp_2, gp_3, gf_1, gf_2, hC.2.2.2.2.2.2.2.1]
      exact hQ M hC (Fr.r _ _ _)
    · show wpX4_feed M1 a b c d e Q
      unfold wpX4_feed
      rw [forall_eq]
      simp only [iI_lit]
      have h0 : MS S (pI M1 200 0 (iI 0)) := hM.p (by omega)
      simp (disch := omega) only [iI_lit, iI_neg, iI_add, iI_sub, iI_mul, iI_lt, iI_le, iI_eq, iI_in, iI_clamp, iI_mx, iI_mn, iI_nI, Int.toNat_natCast, forall_eq, br_1, br_2, br_3, br_4, br_in, br_5, br_6, br_7, br_8, ex_c, br_nl, br_le, br_ne, gp_1, gp_2, gp_3, gf_1, gf_2, h0.2.2.1]
      exact hQ _ h0 (RM.fr (RM.p (RM.r _) (by omega)))
