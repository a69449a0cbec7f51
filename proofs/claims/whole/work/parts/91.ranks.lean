/-- the pushes that a text tells, from the i-th on -/
def uP (r : Rd) : Nat → Nat → Gs → Gs
  | 0, _, S => S
  | f + 1, i, S => uP r f (i + 1) (sX S (rp r i) (xPush (gT S (rp r i)) (ry r i) (gE S)))
def sP (S : Gs) (p : Int) : Gs := (gT S, gk S, gE S, gS S, gt S, gF S, p, gB S, gn S)
theorem uP_sP {r : Rd} {p : Int} : ∀ f i S, uP r f i (sP S p) = sP (uP r f i S) p := by
  intro f
  induction f with
  | zero => intro i S; rfl
  | succ f ih => intro i S; exact ih (i + 1) (sX S (rp r i) (xPush (gT S (rp r i)) (ry r i) (gE S)))
theorem xPush_n {x : St} {w er : Int} : tN (xPush x w er) = tN x + 1 := by
  unfold xPush
  split <;> rfl
theorem uP_st {B : Nat → Int} {r : Rd} {S : Gs} {i : Nat} (hK : KI B r) (hG : GI S) (hk : gk S = rk r) (hi : i < rn r) (hN : ∀ j, j < gk S → tN (gT S j) ≤ i) : GI (sX S (rp r i) (xPush (gT S (rp r i)) (ry r i) (gE S))) ∧ ∀ j, j < gk S → tN (gT (sX S (rp r i) (xPush (gT S (rp r i)) (ry r i) (gE S))) j) ≤ i + 1 := by
  have h5 := hK.2.2.2.2.1
  have h6 := hK.2.2.2.2.2 i hi
  have hp : rp r i < gk S := by rw [hk]; exact h6.1
  have hn := hN (rp r i) hp
  refine ⟨hG.x (SI_push _ (hG.si hp) (by omega) (by omega)), fun j hj => ?_⟩
  show tN (if j = rp r i then _ else gT S j) ≤ i + 1
  by_cases c : j = rp r i
  · rw [if_pos c, xPush_n]
    omega
  · rw [if_neg c]
    have := hN j hj
    omega
theorem uP_G {B : Nat → Int} {r : Rd} (hK : KI B r) : ∀ f i S, rn r - i = f → i ≤ rn r → GI S → gk S = rk r → (∀ j, j < gk S → tN (gT S j) ≤ i) → GI (uP r f i S) ∧ gk (uP r f i S) = rk r := by
  intro f
  induction f with
  | zero => intro i S _ _ hG hk _; exact ⟨hG, hk⟩
  | succ f ih =>
    intro i S hf hi hG hk hN
    have h := uP_st hK hG hk (by omega) hN
    exact ih (i + 1) _ (by omega) (by omega) h.1 hk h.2
theorem l_cpushes {mk : Nat} {B : Nat → Int} {r : Rd} {Q : Mem → Prop} (hK : KI B r) : ∀ f i S M M1 g, f < g → rn r - i = f → i ≤ rn r → CS mk S M1 → GI S → gk S = rk r → (∀ j, j < gk S → tN (gT S j) ≤ i) → gI M1 1 13 = iI (rn r : Nat) → (∀ i, i < rn r → gI M1 5 i = iI (rp r i : Nat) ∧ gI M1 6 i = iI (ry r i)) → Fr 0 199 M M1 → (∀ M', CS mk (uP r f i S) M' → Fr 0 199 M M' → Q M') → wX3_takeText_80 mk Q g M1 (iI (i : Nat)) := by
  have h5 := hK.2.2.2.2.1
  intro f
  induction f with
  | zero =>
    intro i S M M1 g hg hf hi hC hG hk hN k1 k2 hF hQ
    obtain ⟨g, rfl⟩ : ∃ g', g = g' + 1 := ⟨g - 1, by omega⟩
    simp only [wX3_takeText_80]
    simp (disch := omega) only [iI_lit, iI_neg, iI_add, iI_sub, iI_mul, iI_lt, iI_le, iI_eq, iI_in, iI_clamp, iI_mx, iI_mn, iI_nI, Int.toNat_natCast, forall_eq, br_1, br_2, br_3, br_4, br_in, br_5, br_6, br_7, br_8, ex_c, br_nl, br_le, br_ne, gp_1, gp_2, gp_3, gf_1, gf_2, k1]
    exact hQ M1 hC hF
  | succ f ih =>
    intro i S M M1 g hg hf hi hC hG hk hN k1 k2 hF hQ
    obtain ⟨g, rfl⟩ : ∃ g', g = g' + 1 := ⟨g - 1, by omega⟩
    have h6 := hK.2.2.2.2.2 i (by omega)
    have hp : rp r i < gk S := by rw [hk]; exact h6.1
    have hp4 := hG.1
    have hE := hG.er hp
    have hn := hN (rp r i) hp
    have h := uP_st hK hG hk (show i < rn r by omega) hN
    have k := k2 i (by omega)
    simp only [wX3_takeText_80]
    simp (disch := omega) only [iI_lit, iI_neg, iI_add, iI_sub, iI_mul, iI_lt, iI_le, iI_eq, iI_in, iI_clamp, iI_mx, iI_mn, iI_nI, Int.toNat_natCast, forall_eq, br_1, br_2, br_3, br_4, br_in, br_5, br_6, br_7, br_8, ex_c, br_nl, br_le, br_ne, gp_1, gp_2, gp_3, gf_1, gf_2, k1, k.1, c_find_y hC hG hp, o_some, k.2, hC.2.2.1]
    refine e_pushValue (x := gT S (rp r i)) hE (by omega) (hC.ct hp) (hG.si hp) (by omega) (fun M2 hF2 hT2 => ?_)
    have := ih (i + 1) _ M M2 g (by omega) (by omega) (by omega) (hC.x hG hp hF2 hT2) h.1 hk h.2 ((hF2.g (by omega) _).trans k1) (fun j hj => ⟨(hF2.g (by omega) _).trans (k2 j hj).1, (hF2.g (by omega) _).trans (k2 j hj).2⟩) (hF.t (hF2.w (by omega) (by omega))) hQ
    simpa using this
def FrI (M M' : Mem) : Prop := ∀ b, (b < 200 ∨ 299 < b) → M'.1 b = M.1 b
theorem l_mpushes {B : Nat → Int} {r : Rd} {Q : Qi} (hK : KI B r) : ∀ f i S M M1 g, f < g → rn r - i = f → i ≤ rn r → MS S M1 → GI S → gk S = rk r → (∀ j, j < gk S → tN (gT S j) ≤ i) → gI M1 200 18 = iI (rn r : Nat) → (∀ i, i < rn r → gI M1 215 i = iI (rp r i : Nat) ∧ gI M1 216 i = iI (ry r i)) → FrI M M1 → (∀ M', MS (uP r f i S) M' → FrI M M' → wpX4_good M' (iI (rk r : Nat)) Q) → wX4_ranks_127 Q g M1 (iI (i : Nat)) := by
  have h5 := hK.2.2.2.2.1
  intro f
  induction f with
  | zero =>
    intro i S M M1 g hg hf hi hM hG hk hN k1 k2 hF hQ
    obtain ⟨g, rfl⟩ : ∃ g', g = g' + 1 := ⟨g - 1, by omega⟩
    simp only [wX4_ranks_127]
    simp (disch := omega) only [iI_lit, iI_neg, iI_add, iI_sub, iI_mul, iI_lt, iI_le, iI_eq, iI_in, iI_clamp, iI_mx, iI_mn, iI_nI, Int.toNat_natCast, forall_eq, br_1, br_2, br_3, br_4, br_in, br_5, br_6, br_7, br_8, ex_c, br_nl, br_le, br_ne, gp_1, gp_2, gp_3, gf_1, gf_2, k1, hM.2.2.2.2.2.1, hk]
    exact hQ M1 hM hF
  | succ f ih =>
    intro i S M M1 g hg hf hi hM hG hk hN k1 k2 hF hQ
    obtain ⟨g, rfl⟩ : ∃ g', g = g' + 1 := ⟨g - 1, by omega⟩
    have h6 := hK.2.2.2.2.2 i (by omega)
    have hp : rp r i < gk S := by rw [hk]; exact h6.1
    have hp4 := hG.1
    have hE := hG.er hp
    have hn := hN (rp r i) hp
    have h := uP_st hK hG hk (show i < rn r by omega) hN
    have k := k2 i (by omega)
    simp only [wX4_ranks_127]
    simp (disch := omega) only [iI_lit, iI_neg, iI_add, iI_sub, iI_mul, iI_lt, iI_le, iI_eq, iI_in, iI_clamp, iI_mx, iI_mn, iI_nI, Int.toNat_natCast, forall_eq, br_1, br_2, br_3, br_4, br_in, br_5, br_6, br_7, br_8, ex_c, br_nl, br_le, br_ne, gp_1, gp_2, gp_3, gf_1, gf_2, k1, k.1, k.2]
    refine m_pushes (x := gT S (rp r i)) (by omega) hM.2.2.2.2.1 hE (by omega) (hM.mt hp) (hG.si hp) (by omega) (fun M2 hF2 hT2 => ?_)
    have := ih (i + 1) _ M M2 g (by omega) (by omega) (by omega) (hM.x hG hp hF2 hT2) h.1 hk h.2 ((hF2.2 _ _ (by omega) (by omega)).trans k1) (fun j hj => ⟨(hF2.2 _ _ (by omega) (by omega)).trans (k2 j hj).1, (hF2.2 _ _ (by omega) (by omega)).trans (k2 j hj).2⟩) (fun b hb => (hF2.fr.2 b hb).trans (hF b hb)) hQ
    simpa using this
theorem nS_fr {M : Mem} {b : Nat} : Fr b (b + 9) M (nS M b) := ⟨rfl, fun a ha => by
  show (if b ≤ a ∧ a ≤ b + 9 then _ else M.1 a) = M.1 a
  rw [if_neg (by omega)]⟩
theorem l_cbegin {B : Nat → Int} {r : Rd} {M : Mem} {Q : Mem → Prop} {m0 kF : Nat} (hm0 : (kF = m0 ∧ rk r ≤ m0) ∨ (kF = rk r ∧ m0 ≤ rk r)) (hK : KI B r) (h2 : gI M 0 2 = iI (rk r : Nat)) (h4 : ∀ s, s < rk r → gI M 4 s = iI (rv r s))
    (hQ : ∀ M', Fr 100 179 M M' → (∀ s, s < rk r → CT M' (100 + 20 * s) (xB (rv r s))) → ∃ g, wX3_takeText_80 kF Q g M' 0) :
    ∀ f i mj M1 g, f < g → rk r - i = f → i ≤ rk r → ((mj = m0 ∧ i ≤ m0) ∨ (mj = i ∧ m0 ≤ i)) → Fr 100 179 M M1 → (∀ s, s < i → CT M1 (100 + 20 * s) (xB (rv r s))) → wX3_takeText_24 kF Q g mj M1 (iI (i : Nat)) := by
  have hk := hK.2.1
  intro f
  induction f with
  | zero =>
    intro i mj M1 g hg hf hi hm hF hT
    have e : i = rk r := by omega
    subst e
    obtain ⟨g, rfl⟩ : ∃ g', g = g' + 1 := ⟨g - 1, by omega⟩
    have g2 := (hF.g (b := 0) (by omega) 2).trans h2
    simp only [wX3_takeText_24]
    simp (disch := omega) only [iI_lit, iI_neg, iI_add, iI_sub, iI_mul, iI_lt, iI_le, iI_eq, iI_in, iI_clamp, iI_mx, iI_mn, iI_nI, Int.toNat_natCast, forall_eq, br_1, br_2, br_3, br_4, br_in, br_5, br_6, br_7, br_8, ex_c, br_nl, br_le, br_ne, gp_1, gp_2, gp_3, gf_1, gf_2, g2]
    exact ⟨by omega, hQ M1 hF hT⟩
  | succ f ih =>
    intro i mj M1 g hg hf hi hm hF hT
    obtain ⟨g, rfl⟩ : ∃ g', g = g' + 1 := ⟨g - 1, by omega⟩
    have g2 := (hF.g (b := 0) (by omega) 2).trans h2
    have g4 := (hF.g (b := 4) (by omega) i).trans (h4 i (by omega))
    simp only [wX3_takeText_24]
    by_cases c : i < mj
    · simp (disch := omega) only [iI_lit, iI_neg, iI_add, iI_sub, iI_mul, iI_lt, iI_le, iI_eq, iI_in, iI_clamp, iI_mx, iI_mn, iI_nI, Int.toNat_natCast, forall_eq, br_1, br_2, br_3, br_4, br_in, br_5, br_6, br_7, br_8, ex_c, br_nl, br_le, br_ne, gp_1, gp_2, gp_3, gf_1, gf_2, g2]
      rw [g4]
      refine e_begin0 (fun M2 hF2 hT2 => ?_)
      have := ih (i + 1) mj M2 g (by omega) (by omega) (by omega) (by omega) (hF.t (hF2.w (by omega) (by omega))) (fun s hs => by
        by_cases q : s = i
        · rw [q]
          exact hT2
        · exact (hT s (by omega)).fr hF2 (by omega))
      simpa using this
    · have e : i = mj := by omega
      simp (disch := omega) only [iI_lit, iI_neg, iI_add, iI_sub, iI_mul, iI_lt, iI_le, iI_eq, iI_in, iI_clamp, iI_mx, iI_mn, iI_nI, Int.toNat_natCast, forall_eq, br_1, br_2, br_3, br_4, br_in, br_5, br_6, br_7, br_8, ex_c, br_nl, br_le, br_ne, gp_1, gp_2, gp_3, gf_1, gf_2, g2]
      refine ⟨⟨e, by omega⟩, ?_⟩
      rw [g4]
      refine e_begin0 (fun M2 hF2 hT2 => ?_)
      have hF3 : Fr (100 + 20 * mj) (100 + 20 * mj + 9) M1 M2 := nS_fr.t hF2
      have := ih (i + 1) (mj + 1) M2 g (by omega) (by omega) (by omega) (by omega) (hF.t (hF3.w (by omega) (by omega))) (fun s hs => by
        by_cases q : s = i
        · rw [q, e]
          rw [← e]
          rw [← e] at hT2
          exact hT2
        · exact (hT s (by omega)).fr hF3 (by omega))
      simpa using this
theorem l_mbegin {B : Nat → Int} {r : Rd} {M : Mem} {Q : Qi} (hK : KI B r) (h2 : gI M 200 29 = iI (rk r : Nat)) (h4 : ∀ s, s < rk r → gI M 214 s = iI (rv r s))
    (hQ : ∀ M', (∀ b k, ¬ (220 ≤ b ∧ b ≤ 228) → gI M' b k = gI M b k) → (∀ s, s < rk r → MT M' s (xB (rv r s))) → ∃ g, wX4_ranks_127 Q g M' (iI 0)) :
    ∀ f i M1 g, f < g → rk r - i = f → i ≤ rk r → (∀ b k, ¬ (220 ≤ b ∧ b ≤ 228) → gI M1 b k = gI M b k) → (∀ s, s < i → MT M1 s (xB (rv r s))) → wX4_ranks_87 Q g M1 (iI (i : Nat)) := by
  have hk := hK.2.1
  intro f
  induction f with
  | zero =>
    intro i M1 g hg hf hi hF hT
    have e : i = rk r := by omega
    subst e
    obtain ⟨g, rfl⟩ : ∃ g', g = g' + 1 := ⟨g - 1, by omega⟩
    have g2 := (hF 200 29 (by omega)).trans h2
    simp only [wX4_ranks_87]
    simp (disch := omega) only [iI_lit, iI_neg, iI_add, iI_sub, iI_mul, iI_lt, iI_le, iI_eq, iI_in, iI_clamp, iI_mx, iI_mn, iI_nI, Int.toNat_natCast, forall_eq, br_1, br_2, br_3, br_4, br_in, br_5, br_6, br_7, br_8, ex_c, br_nl, br_le, br_ne, gp_1, gp_2, gp_3, gf_1, gf_2, g2]
    exact hQ M1 hF hT
  | succ f ih =>
    intro i M1 g hg hf hi hF hT
    obtain ⟨g, rfl⟩ : ∃ g', g = g' + 1 := ⟨g - 1, by omega⟩
    have g2 := (hF 200 29 (by omega)).trans h2
    have g4 := (hF 214 i (by omega)).trans (h4 i (by omega))
    simp only [wX4_ranks_87]
    simp (disch := omega) only [iI_lit, iI_neg, iI_add, iI_sub, iI_mul, iI_lt, iI_le, iI_eq, iI_in, iI_clamp, iI_mx, iI_mn, iI_nI, Int.toNat_natCast, forall_eq, br_1, br_2, br_3, br_4, br_in, br_5, br_6, br_7, br_8, ex_c, br_nl, br_le, br_ne, gp_1, gp_2, gp_3, gf_1, gf_2, g2, g4]
    refine m_empties0 (e := rv r i) (by omega) (by simp (disch := omega) only [iI_lit, iI_neg, iI_add, iI_sub, iI_mul, iI_lt, iI_le, iI_eq, iI_in, iI_clamp, iI_mx, iI_mn, iI_nI, Int.toNat_natCast, forall_eq, br_1, br_2, br_3, br_4, br_in, br_5, br_6, br_7, br_8, ex_c, br_nl, br_le, br_ne, gp_1, gp_2, gp_3, gf_1, gf_2]) (by simp (disch := omega) only [iI_lit, iI_neg, iI_add, iI_sub, iI_mul, iI_lt, iI_le, iI_eq, iI_in, iI_clamp, iI_mx, iI_mn, iI_nI, Int.toNat_natCast, forall_eq, br_1, br_2, br_3, br_4, br_in, br_5, br_6, br_7, br_8, ex_c, br_nl, br_le, br_ne, gp_1, gp_2, gp_3, gf_1, gf_2]) (fun M2 hF2 hT2 => ?_)
    have hF3 : FrM i M1 M2 := FrM.t (FrM.p (FrM.p (FrM.r _ _) (by omega)) (by omega)) hF2
    have := ih (i + 1) M2 g (by omega) (by omega) (by omega) (fun b k q => (hF3.2 b k (by omega) (by omega)).trans (hF b k q)) (fun s hs => by
      by_cases q : s = i
      · rw [q]
        exact hT2
      · exact (hT s (by omega)).fm (by show 0 ≤ 1000; omega) hF3 q)
    simpa using this
/-- all streams as they begin -/
def sN0 (S : Gs) (r : Rd) (p : Int) : Gs := (fun j => xB (rv r j), rk r, rE r, gS S, gt S, 0, p, gB S, 0)
def sF (S : Gs) (t f a : Int) : Gs := (gT S, gk S, gE S, gS S, t, f, a, gB S, 0)
theorem GI_N0 {B : Nat → Int} {S : Gs} {r : Rd} {p : Int} (hG : GI S) (hK : KI B r) (hr : 0 < rk r) : GI (sN0 S r p) := by
  obtain ⟨h1, h2, h3, h4, h5, h6, h7, h8, h9, h10⟩ := hG
  have e := hK.2.2.1 hr
  refine ⟨hK.2.1, fun z => absurd z (show ¬ rk r = 0 by omega), fun _ => ?_, h4, h5, h6, h7, by show 0 ≤ 400; omega, fun i hi => absurd hi (Nat.not_lt_zero i), fun j hj => SI_xB (hK.2.2.2.1 j hj).2.2⟩
  rcases hK.1 with q | q
  · exact absurd q e
  · exact q
