/-! ===== ranks: the class's predicate (streams may be made: mk grows), and both sides ===== -/
def nS (M : Mem) (b : Nat) : Mem := (fun a => if b ≤ a ∧ a ≤ b + 9 then (fun k => if a = b ∧ k = 3 then 1 else 0) else M.1 a, M.2)
def wX3_takeText_80 (mk : Nat) (Q : Mem → Prop) : Nat → Mem → Int32 → Prop
  | 0, _, _ => False
  | n + 1, M, v1 => (((gI M 1 13) ≤ v1 → Q M) ∧ (¬ (gI M 1 13) ≤ v1 → (vp_in v1 200 ∧ wpX3_find mk M (gI M 5 (Int32.toNatClampNeg v1)) (fun o M_2 => (o = none → wX3_takeText_80 mk Q n M_2 (v1 + 1)) ∧ (∀ n_3 : Nat, o = some n_3 → (vp_in v1 200 ∧ wpX1_pushValue M_2 n_3 (gI M_2 6 (Int32.toNatClampNeg v1)) (gI M_2 0 3) (fun M_4 => wX3_takeText_80 mk Q n M_4 (v1 + 1))))))))
def wX3_takeText_24 (kF : Nat) (Q : Mem → Prop) : Nat → Nat → Mem → Int32 → Prop
  | 0, _, _, _ => False
  | n + 1, mj, M, v1 => (((gI M 0 2) ≤ v1 → (mj = kF ∧ ∃ g, wX3_takeText_80 kF Q g M 0)) ∧ (¬ (gI M 0 2) ≤ v1 → (vp_in v1 4 ∧ (¬ Int32.toNatClampNeg v1 < mj → ((Int32.toNatClampNeg v1 = mj ∧ mj < kF) ∧ wpX1_begin (nS M (100 + 20 * mj)) (100 + 20 * mj) (gI M 4 (Int32.toNatClampNeg v1)) (fun M_1 => wX3_takeText_24 kF Q n (mj + 1) M_1 (v1 + 1)))) ∧ (Int32.toNatClampNeg v1 < mj → wpX1_begin M (100 + 20 * Int32.toNatClampNeg v1) (gI M 4 (Int32.toNatClampNeg v1)) (fun M_1 => wX3_takeText_24 kF Q n mj M_1 (v1 + 1))))))
def wpX3_takeText (kF mk : Nat) (M : Mem) (Q : Mem → Prop) : Prop := (∀ M_1 : Mem, M_1 = pI M 0 3 (gI M 1 9) → (∀ M_2 : Mem, M_2 = pI M_1 0 2 (gI M_1 1 10) → ∃ n, wX3_takeText_24 kF Q n mk M_2 0))
def wpX3_ranks (kF mk : Nat) (M : Mem) (v1 : Int32) (Q : Int32 → Mem → Prop) : Prop := ((v1 < 0 → mk = kF ∧ wpX3_refuse M 2 (fun r M_1 => Q r M_1)) ∧ (¬ v1 < 0 → ((v1 ≤ (gI M 1 1) → wpX2_readText M v1 (fun M_2 => (∀ M_3 : Mem, M_3 = pI M_2 0 6 (gI M_2 1 7) → (∀ M_4 : Mem, M_4 = pI M_3 0 7 (gI M_3 1 8) → (((gI M_4 0 6) = 0 → wpX3_takeText kF mk M_4 (fun M_5 => wpX3_pass M_5 (gI M_5 0 2) (fun r M_6 => Q r M_6))) ∧ (¬ (gI M_4 0 6) = 0 → mk = kF ∧ wpX3_refuse M_4 4 (fun r M_7 => Q r M_7))))))) ∧ (¬ v1 ≤ (gI M 1 1) → mk = kF ∧ wpX3_refuse M 2 (fun r M_8 => Q r M_8)))))
def r0 : Rd := (0, 0, fun _ => 0, fun _ => 0, fun _ => 0, 0, fun _ => 0, fun _ => 0)
theorem KI_0 (B : Nat → Int) : KI B r0 := ⟨Or.inl rfl, by show 0 ≤ 4; omega, fun h => absurd h (Nat.lt_irrefl 0), fun s hs => absurd hs (Nat.not_lt_zero s), by show 0 ≤ 200; omega, fun i hi => absurd hi (Nat.not_lt_zero i)⟩
theorem c_text {B : Nat → Int} {n m : Nat} {M : Mem} {Q : Mem → Prop} (hB : BI B n) (hm : n ≤ m ∧ m ≤ 400) (h1 : gI M 1 1 = iI m) (hb : ∀ i, i < n → gI M 2 i = iI (B i)) (h : ∀ M', Fr 1 6 M M' → gI M' 1 1 = iI 0 → PC B n r0 0 M' → ∃ g, wX2_readText_51 Q g M' (iI 1) (iI 0)) : wpX2_readText M (iI n) Q := by
  have hn := hB.1
  have e : (if iI (m : Int) < iI (n : Int) then iI (m : Int) else iI (n : Int)) = iI n := if_neg (by rw [iI_lt (by omega) (by omega)]; omega)
  unfold wpX2_readText
  rw [h1, e]
  simp only [forall_eq, iI_lit, iI_neg]
  refine h _ (Fr.p (Fr.p (Fr.p (Fr.p (Fr.p (Fr.p (Fr.p (Fr.p (Fr.r _ _ _) (by omega)) (by omega)) (by omega)) (by omega)) (by omega)) (by omega)) (by omega)) (by omega)) (by simp (disch := omega) only [iI_lit, iI_neg, iI_add, iI_sub, iI_mul, iI_lt, iI_le, iI_eq, iI_in, iI_clamp, iI_mx, iI_mn, iI_nI, Int.toNat_natCast, forall_eq, br_1, br_2, br_3, br_4, br_in, br_5, br_6, br_7, br_8, ex_c, br_nl, br_le, br_ne, gp_1, gp_2, gp_3, gf_1, gf_2]) ⟨⟨by simp (disch := omega) only [iI_lit, iI_neg, iI_add, iI_sub, iI_mul, iI_lt, iI_le, iI_eq, iI_in, iI_clamp, iI_mx, iI_mn, iI_nI, Int.toNat_natCast, forall_eq, br_1, br_2, br_3, br_4, br_in, br_5, br_6, br_7, br_8, ex_c, br_nl, br_le, br_ne, gp_1, gp_2, gp_3, gf_1, gf_2], fun i hi => by simp (disch := omega) only [iI_lit, iI_neg, iI_add, iI_sub, iI_mul, iI_lt, iI_le, iI_eq, iI_in, iI_clamp, iI_mx, iI_mn, iI_nI, Int.toNat_natCast, forall_eq, br_1, br_2, br_3, br_4, br_in, br_5, br_6, br_7, br_8, ex_c, br_nl, br_le, br_ne, gp_1, gp_2, gp_3, gf_1, gf_2]; exact hb i hi⟩, ⟨by simp (disch := omega) only [iI_lit, iI_neg, iI_add, iI_sub, iI_mul, iI_lt, iI_le, iI_eq, iI_in, iI_clamp, iI_mx, iI_mn, iI_nI, Int.toNat_natCast, forall_eq, br_1, br_2, br_3, br_4, br_in, br_5, br_6, br_7, br_8, ex_c, br_nl, br_le, br_ne, gp_1, gp_2, gp_3, gf_1, gf_2]; rfl, by simp (disch := omega) only [iI_lit, iI_neg, iI_add, iI_sub, iI_mul, iI_lt, iI_le, iI_eq, iI_in, iI_clamp, iI_mx, iI_mn, iI_nI, Int.toNat_natCast, forall_eq, br_1, br_2, br_3, br_4, br_in, br_5, br_6, br_7, br_8, ex_c, br_nl, br_le, br_ne, gp_1, gp_2, gp_3, gf_1, gf_2]; rfl, fun s hs => absurd hs (Nat.not_lt_zero s), by simp (disch := omega) only [iI_lit, iI_neg, iI_add, iI_sub, iI_mul, iI_lt, iI_le, iI_eq, iI_in, iI_clamp, iI_mx, iI_mn, iI_nI, Int.toNat_natCast, forall_eq, br_1, br_2, br_3, br_4, br_in, br_5, br_6, br_7, br_8, ex_c, br_nl, br_le, br_ne, gp_1, gp_2, gp_3, gf_1, gf_2]; rfl, fun i hi => absurd hi (Nat.not_lt_zero i)⟩, by simp (disch := omega) only [iI_lit, iI_neg, iI_add, iI_sub, iI_mul, iI_lt, iI_le, iI_eq, iI_in, iI_clamp, iI_mx, iI_mn, iI_nI, Int.toNat_natCast, forall_eq, br_1, br_2, br_3, br_4, br_in, br_5, br_6, br_7, br_8, ex_c, br_nl, br_le, br_ne, gp_1, gp_2, gp_3, gf_1, gf_2]; rfl, by simp (disch := omega) only [iI_lit, iI_neg, iI_add, iI_sub, iI_mul, iI_lt, iI_le, iI_eq, iI_in, iI_clamp, iI_mx, iI_mn, iI_nI, Int.toNat_natCast, forall_eq, br_1, br_2, br_3, br_4, br_in, br_5, br_6, br_7, br_8, ex_c, br_nl, br_le, br_ne, gp_1, gp_2, gp_3, gf_1, gf_2], by simp (disch := omega) only [iI_lit, iI_neg, iI_add, iI_sub, iI_mul, iI_lt, iI_le, iI_eq, iI_in, iI_clamp, iI_mx, iI_mn, iI_nI, Int.toNat_natCast, forall_eq, br_1, br_2, br_3, br_4, br_in, br_5, br_6, br_7, br_8, ex_c, br_nl, br_le, br_ne, gp_1, gp_2, gp_3, gf_1, gf_2]⟩
theorem m_text {B : Nat → Int} {n : Nat} {M : Mem} {Q : Mem → Prop} (hb : BM B n M) (h6 : gI M 200 6 = iI 0) (h : ∀ M', F2 M M' → PM B n r0 0 M' → wpX4_goOn M' (fun M1 => wpX4_readLine M1 (fun M2 => ∃ g, wX4_readAll_23 Q g M2))) : wpX4_readAll M Q := by
  unfold wpX4_readAll
  simp only [forall_eq, iI_lit]
  exact h _ (F2.p (F2.p (F2.p (F2.r _) (by omega)) (by omega)) (by omega)) ⟨⟨by simp (disch := omega) only [iI_lit, iI_neg, iI_add, iI_sub, iI_mul, iI_lt, iI_le, iI_eq, iI_in, iI_clamp, iI_mx, iI_mn, iI_nI, Int.toNat_natCast, forall_eq, br_1, br_2, br_3, br_4, br_in, br_5, br_6, br_7, br_8, ex_c, br_nl, br_le, br_ne, gp_1, gp_2, gp_3, gf_1, gf_2]; exact hb.1, by simp (disch := omega) only [iI_lit, iI_neg, iI_add, iI_sub, iI_mul, iI_lt, iI_le, iI_eq, iI_in, iI_clamp, iI_mx, iI_mn, iI_nI, Int.toNat_natCast, forall_eq, br_1, br_2, br_3, br_4, br_in, br_5, br_6, br_7, br_8, ex_c, br_nl, br_le, br_ne, gp_1, gp_2, gp_3, gf_1, gf_2]; exact hb.2.1, fun i hi => by simp (disch := omega) only [iI_lit, iI_neg, iI_add, iI_sub, iI_mul, iI_lt, iI_le, iI_eq, iI_in, iI_clamp, iI_mx, iI_mn, iI_nI, Int.toNat_natCast, forall_eq, br_1, br_2, br_3, br_4, br_in, br_5, br_6, br_7, br_8, ex_c, br_nl, br_le, br_ne, gp_1, gp_2, gp_3, gf_1, gf_2]; exact hb.2.2 i hi⟩, ⟨by simp (disch := omega) only [iI_lit, iI_neg, iI_add, iI_sub, iI_mul, iI_lt, iI_le, iI_eq, iI_in, iI_clamp, iI_mx, iI_mn, iI_nI, Int.toNat_natCast, forall_eq, br_1, br_2, br_3, br_4, br_in, br_5, br_6, br_7, br_8, ex_c, br_nl, br_le, br_ne, gp_1, gp_2, gp_3, gf_1, gf_2]; rfl, by simp (disch := omega) only [iI_lit, iI_neg, iI_add, iI_sub, iI_mul, iI_lt, iI_le, iI_eq, iI_in, iI_clamp, iI_mx, iI_mn, iI_nI, Int.toNat_natCast, forall_eq, br_1, br_2, br_3, br_4, br_in, br_5, br_6, br_7, br_8, ex_c, br_nl, br_le, br_ne, gp_1, gp_2, gp_3, gf_1, gf_2]; rfl, fun s hs => absurd hs (Nat.not_lt_zero s), by simp (disch := omega) only [iI_lit, iI_neg, iI_add, iI_sub, iI_mul, iI_lt, iI_le, iI_eq, iI_in, iI_clamp, iI_mx, iI_mn, iI_nI, Int.toNat_natCast, forall_eq, br_1, br_2, br_3, br_4, br_in, br_5, br_6, br_7, br_8, ex_c, br_nl, br_le, br_ne, gp_1, gp_2, gp_3, gf_1, gf_2]; rfl, fun i hi => absurd hi (Nat.not_lt_zero i)⟩, by simp (disch := omega) only [iI_lit, iI_neg, iI_add, iI_sub, iI_mul, iI_lt, iI_le, iI_eq, iI_in, iI_clamp, iI_mx, iI_mn, iI_nI, Int.toNat_natCast, forall_eq, br_1, br_2, br_3, br_4, br_in, br_5, br_6, br_7, br_8, ex_c, br_nl, br_le, br_ne, gp_1, gp_2, gp_3, gf_1, gf_2]; exact h6⟩
theorem sim_read {B : Nat → Int} {n : Nat} (hB : BI B n) :
    (∃ r, KI B r ∧ 0 < rk r ∧ (∀ M Q m, (n ≤ m ∧ m ≤ 400) → gI M 1 1 = iI (m : Nat) → (∀ i, i < n → gI M 2 i = iI (B i)) → (∀ M', Fr 1 6 M M' → gI M' 1 1 = iI 0 → KC B r M' → gI M' 1 7 = iI 0 → gI M' 1 8 = iI (-1) → Q M') → wpX2_readText M (iI n) Q) ∧
      (∀ M Q, BM B n M → gI M 200 6 = iI 0 → (∀ M', F2 M M' → KM B r M' → gI M' 200 10 = iI 0 → Q M') → wpX4_readAll M Q)) ∨
    (∃ f a, (1 ≤ f ∧ f ≤ 6) ∧ (∀ M Q m, (n ≤ m ∧ m ≤ 400) → gI M 1 1 = iI (m : Nat) → (∀ i, i < n → gI M 2 i = iI (B i)) → (∀ M', Fr 1 6 M M' → gI M' 1 1 = iI 0 → gI M' 1 7 = iI f → gI M' 1 8 = iI a → Q M') → wpX2_readText M (iI n) Q) ∧
      (∀ M Q, BM B n M → gI M 200 6 = iI 0 → (∀ M', F2 M M' → FT f a M' → Q M') → wpX4_readAll M Q)) := by
  rcases sim_text hB (n + 1) 0 r0 0 (by omega) (by omega) (KI_0 B) (by show 2 * 0 ≤ 0; omega) (by omega) with ⟨r, K, z, c, m⟩ | ⟨f, a, hf, c, m⟩
  · refine Or.inl ⟨r, K, z, fun M Q k hk h1 hb hQ => ?_, fun M Q hb h6 hQ => ?_⟩
    · exact c_text hB hk h1 hb (fun M' f1 g1 hP => ⟨n + 2, c M' Q (n + 2) (by omega) hP (fun M2 f2 x2 y2 z2 => hQ M2 (f1.t f2.1) (f2.2.trans g1) x2 y2 z2)⟩)
    · exact m_text hb h6 (fun M' f1 hP => m M' Q _ (fun M2 h => ⟨n + 2, h (n + 2) (by omega)⟩) hP (fun M2 f2 x2 y2 => hQ M2 (f1.t f2) x2 y2))
  · refine Or.inr ⟨f, a, hf, fun M Q k hk h1 hb hQ => ?_, fun M Q hb h6 hQ => ?_⟩
    · exact c_text hB hk h1 hb (fun M' f1 g1 hP => ⟨n + 2, c M' Q (n + 2) (by omega) hP (fun M2 f2 y2 z2 => hQ M2 (f1.t f2.1) (f2.2.trans g1) y2 z2)⟩)
    · exact m_text hb h6 (fun M' f1 hP => m M' Q _ (fun M2 h => ⟨n + 2, h (n + 2) (by omega)⟩) hP (fun M2 f2 x2 => hQ M2 (f1.t f2) x2))
/-- a stream as it begins -/
def xB (e : Int) : St := (0, 0, fun _ => 0, fun _ => 0, fun _ => 0, fun _ => 0, e, 0, 0)
theorem SI_xB {e : Int} (h : 1 ≤ e ∧ e ≤ 60) : SI (xB e) := SI_begin (x := xB 1) h
theorem e_begin0 {M : Mem} {b : Nat} {Q : Mem → Prop} {e : Int} (hQ : ∀ M', Fr b (b + 9) M M' → CT M' b (xB e) → Q M') : wpX1_begin M b (iI e) Q := by
  unfold wpX1_begin wpX1_dropValues
  simp only [iI_lit]
  refine e_fill (fun M1 hF hz => ?_)
  simp (disch := omega) only [iI_lit, iI_neg, iI_add, iI_sub, iI_mul, iI_lt, iI_le, iI_eq, iI_in, iI_clamp, iI_mx, iI_mn, iI_nI, Int.toNat_natCast, forall_eq, br_1, br_2, br_3, br_4, br_in, br_5, br_6, br_7, br_8, ex_c, br_nl, br_le, br_ne, gp_1, gp_2, gp_3, gf_1, gf_2]
  refine hQ _ (Fr.p (Fr.p (Fr.p (Fr.p (Fr.p (hF.w (by omega) (by omega)) (by omega)) (by omega)) (by omega)) (by omega)) (by omega)) ⟨?_, ?_, ?_, ?_, ?_, ?_, ?_⟩
  · simp (disch := omega) only [iI_lit, iI_neg, iI_add, iI_sub, iI_mul, iI_lt, iI_le, iI_eq, iI_in, iI_clamp, iI_mx, iI_mn, iI_nI, Int.toNat_natCast, forall_eq, br_1, br_2, br_3, br_4, br_in, br_5, br_6, br_7, br_8, ex_c, br_nl, br_le, br_ne, gp_1, gp_2, gp_3, gf_1, gf_2]
    rfl
  · simp (disch := omega) only [iI_lit, iI_neg, iI_add, iI_sub, iI_mul, iI_lt, iI_le, iI_eq, iI_in, iI_clamp, iI_mx, iI_mn, iI_nI, Int.toNat_natCast, forall_eq, br_1, br_2, br_3, br_4, br_in, br_5, br_6, br_7, br_8, ex_c, br_nl, br_le, br_ne, gp_1, gp_2, gp_3, gf_1, gf_2]
    rfl
  · simp (disch := omega) only [iI_lit, iI_neg, iI_add, iI_sub, iI_mul, iI_lt, iI_le, iI_eq, iI_in, iI_clamp, iI_mx, iI_mn, iI_nI, Int.toNat_natCast, forall_eq, br_1, br_2, br_3, br_4, br_in, br_5, br_6, br_7, br_8, ex_c, br_nl, br_le, br_ne, gp_1, gp_2, gp_3, gf_1, gf_2]
    rfl
  · simp (disch := omega) only [iI_lit, iI_neg, iI_add, iI_sub, iI_mul, iI_lt, iI_le, iI_eq, iI_in, iI_clamp, iI_mx, iI_mn, iI_nI, Int.toNat_natCast, forall_eq, br_1, br_2, br_3, br_4, br_in, br_5, br_6, br_7, br_8, ex_c, br_nl, br_le, br_ne, gp_1, gp_2, gp_3, gf_1, gf_2]
    rfl
  · intro k hk
    simp (disch := omega) only [iI_lit, iI_neg, iI_add, iI_sub, iI_mul, iI_lt, iI_le, iI_eq, iI_in, iI_clamp, iI_mx, iI_mn, iI_nI, Int.toNat_natCast, forall_eq, br_1, br_2, br_3, br_4, br_in, br_5, br_6, br_7, br_8, ex_c, br_nl, br_le, br_ne, gp_1, gp_2, gp_3, gf_1, gf_2]
    exact hz k hk
  · simp (disch := omega) only [iI_lit, iI_neg, iI_add, iI_sub, iI_mul, iI_lt, iI_le, iI_eq, iI_in, iI_clamp, iI_mx, iI_mn, iI_nI, Int.toNat_natCast, forall_eq, br_1, br_2, br_3, br_4, br_in, br_5, br_6, br_7, br_8, ex_c, br_nl, br_le, br_ne, gp_1, gp_2, gp_3, gf_1, gf_2]
    rfl
  · intro k hk
    exact absurd hk (Nat.not_lt_zero k)
theorem m_empties0 {M : Mem} {s : Nat} {e : Int} {Q : Mem → Prop} (hs : s < 4) (h3 : gI M 225 s = iI e) (h5 : gI M 227 s = iI 0) (hQ : ∀ M', FrM s M M' → MT M' s (xB e) → Q M') : wpX4_empties M (iI s) Q := by
  unfold wpX4_empties
  simp (disch := omega) only [iI_lit, iI_neg, iI_add, iI_sub, iI_mul, iI_lt, iI_le, iI_eq, iI_in, iI_clamp, iI_mx, iI_mn, iI_nI, Int.toNat_natCast, forall_eq, br_1, br_2, br_3, br_4, br_in, br_5, br_6, br_7, br_8, ex_c, br_nl, br_le, br_ne, gp_1, gp_2, gp_3, gf_1, gf_2, ix_0, ix_1, ix_2, ix_3, tn_1, tn_2, pp_1]
  have := l_empties (M := pI (pI (pI M 223 s (iI 0)) 224 s (iI 0)) 226 s (iI 0)) (Q := Q) hs (fun M' hF hs' hk => ?_) 1000 0 _ rfl (by omega) (FrM.r _ _) (fun _ _ _ => rfl) (fun k hk => by omega)
  · simpa using this
  · refine hQ M' (FrM.t (FrM.p (FrM.p (FrM.p (FrM.r _ _) (by omega)) (by omega)) (by omega)) hF) ⟨⟨?_, fun k hk' => absurd hk' (Nat.not_lt_zero k)⟩, ?_, ?_, ?_, ?_, hk⟩
    · rw [hs' _ (by omega)]
      simp (disch := omega) only [iI_lit, iI_neg, iI_add, iI_sub, iI_mul, iI_lt, iI_le, iI_eq, iI_in, iI_clamp, iI_mx, iI_mn, iI_nI, Int.toNat_natCast, forall_eq, br_1, br_2, br_3, br_4, br_in, br_5, br_6, br_7, br_8, ex_c, br_nl, br_le, br_ne, gp_1, gp_2, gp_3, gf_1, gf_2]
      rfl
    · rw [hs' _ (by omega)]
      simp (disch := omega) only [iI_lit, iI_neg, iI_add, iI_sub, iI_mul, iI_lt, iI_le, iI_eq, iI_in, iI_clamp, iI_mx, iI_mn, iI_nI, Int.toNat_natCast, forall_eq, br_1, br_2, br_3, br_4, br_in, br_5, br_6, br_7, br_8, ex_c, br_nl, br_le, br_ne, gp_1, gp_2, gp_3, gf_1, gf_2]
      rfl
    · rw [hs' _ (by omega)]
      simp (disch := omega) only [iI_lit, iI_neg, iI_add, iI_sub, iI_mul, iI_lt, iI_le, iI_eq, iI_in, iI_clamp, iI_mx, iI_mn, iI_nI, Int.toNat_natCast, forall_eq, br_1, br_2, br_3, br_4, br_in, br_5, br_6, br_7, br_8, ex_c, br_nl, br_le, br_ne, gp_1, gp_2, gp_3, gf_1, gf_2]
      exact h3
    · rw [hs' _ (by omega)]
      simp (disch := omega) only [iI_lit, iI_neg, iI_add, iI_sub, iI_mul, iI_lt, iI_le, iI_eq, iI_in, iI_clamp, iI_mx, iI_mn, iI_nI, Int.toNat_natCast, forall_eq, br_1, br_2, br_3, br_4, br_in, br_5, br_6, br_7, br_8, ex_c, br_nl, br_le, br_ne, gp_1, gp_2, gp_3, gf_1, gf_2]
      rfl
    · rw [hs' _ (by omega)]
      simp (disch := omega) only [iI_lit, iI_neg, iI_add, iI_sub, iI_mul, iI_lt, iI_le, iI_eq, iI_in, iI_clamp, iI_mx, iI_mn, iI_nI, Int.toNat_natCast, forall_eq, br_1, br_2, br_3, br_4, br_in, br_5, br_6, br_7, br_8, ex_c, br_nl, br_le, br_ne, gp_1, gp_2, gp_3, gf_1, gf_2]
      exact h5
