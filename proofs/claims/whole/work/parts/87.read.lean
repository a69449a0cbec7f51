/-! names -/
def nmd (B : Nat → Int) (r : Rd) (z : Int) : Nat → Nat → Int
  | 0, _ => -1
  | f + 1, i => if fo 27 96 B (rq r i) (rL r i) = z then (i : Int) else nmd B r z f (i + 1)
theorem nmd_b {B : Nat → Int} {r : Rd} {z : Int} : ∀ f i, nmd B r z f i = -1 ∨ ((i : Int) ≤ nmd B r z f i ∧ nmd B r z f i < (i : Int) + f) := by
  intro f
  induction f with
  | zero => intro i; exact Or.inl rfl
  | succ f ih =>
    intro i
    rw [nmd]
    split
    · right
      omega
    · rcases ih (i + 1) with h | h
      · exact Or.inl h
      · right
        omega
theorem l_named {B : Nat → Int} {r : Rd} {M : Mem} {Q : Qi} {q k : Nat} (hK : KI B r) (h : KC B r M) (hl : lt B q k) (hk : k ≤ 6) : ∀ f i, rk r - i = f → i ≤ rk r → (∃ m, wX2_streamNamed_2 Q (iI (fo 27 96 B q k)) m M (iI (i : Nat))) = Q (iI (nmd B r (fo 27 96 B q k) f i)) M := by
  have h4 := hK.2.1
  have b1 := fo27_b hl hk
  intro f
  induction f with
  | zero =>
    intro i hf hi
    have e : i = rk r := by omega
    rw [ex_s rfl, nmd, e]
    simp only [wX2_streamNamed_2]
    simp (disch := omega) only [iI_lit, iI_neg, iI_add, iI_sub, iI_mul, iI_lt, iI_le, iI_eq, iI_in, iI_clamp, iI_mx, iI_mn, iI_nI, Int.toNat_natCast, forall_eq, br_1, br_2, br_3, br_4, br_in, br_5, br_6, br_7, br_8, ex_c, br_nl, br_le, br_ne, gp_1, gp_2, gp_3, gf_1, gf_2, h.2.1]
  | succ f ih =>
    intro i hf hi
    have hs := hK.2.2.2.1 i (by omega)
    have b2 := fo27_b hs.2.1 hs.1
    have := ih (i + 1) (by omega) (by omega)
    rw [ex_s rfl, nmd]
    simp only [wX2_streamNamed_2]
    by_cases c : fo 27 96 B (rq r i) (rL r i) = fo 27 96 B q k
    · rw [if_pos c]
      simp (disch := omega) only [iI_lit, iI_neg, iI_add, iI_sub, iI_mul, iI_lt, iI_le, iI_eq, iI_in, iI_clamp, iI_mx, iI_mn, iI_nI, Int.toNat_natCast, forall_eq, br_1, br_2, br_3, br_4, br_in, br_5, br_6, br_7, br_8, ex_c, br_nl, br_le, br_ne, gp_1, gp_2, gp_3, gf_1, gf_2, h.2.1, (h.2.2.1 i (by omega)).1]
    · rw [if_neg c, ← this]
      simp (disch := omega) only [iI_lit, iI_neg, iI_add, iI_sub, iI_mul, iI_lt, iI_le, iI_eq, iI_in, iI_clamp, iI_mx, iI_mn, iI_nI, Int.toNat_natCast, forall_eq, br_1, br_2, br_3, br_4, br_in, br_5, br_6, br_7, br_8, ex_c, br_nl, br_le, br_ne, gp_1, gp_2, gp_3, gf_1, gf_2, h.2.1, (h.2.2.1 i (by omega)).1]
      rfl
theorem e_named {B : Nat → Int} {r : Rd} {M : Mem} {Q : Qi} {q k : Nat} (hK : KI B r) (h : KC B r M) (hl : lt B q k) (hk : k ≤ 6) : wpX2_streamNamed M (iI (fo 27 96 B q k)) Q = Q (iI (nmd B r (fo 27 96 B q k) (rk r) 0)) M := by
  rw [← l_named (Q := Q) hK h hl hk (rk r) 0 rfl (by omega)]
  rfl
theorem l_mnamed {B : Nat → Int} {r : Rd} {M : Mem} {Q : Qi} {q k : Nat} (hK : KI B r) (h : KM B r M) (hl : lt B q k) (hk : k ≤ 6) (h11 : gL M 200 11 = iL (fo 256 0 B q k)) : ∀ f i, rk r - i = f → i ≤ rk r → (∃ m, wX4_named_2 Q m M (iI (i : Nat))) = Q (iI (nmd B r (fo 27 96 B q k) f i)) M := by
  have h4 := hK.2.1
  have b1 := fo256_b hl hk
  intro f
  induction f with
  | zero =>
    intro i hf hi
    have e : i = rk r := by omega
    rw [ex_s rfl, nmd, e]
    simp only [wX4_named_2]
    simp (disch := omega) only [iI_lit, iI_neg, iI_add, iI_sub, iI_mul, iI_lt, iI_le, iI_eq, iI_in, iI_clamp, iI_mx, iI_mn, iI_nI, Int.toNat_natCast, forall_eq, br_1, br_2, br_3, br_4, br_in, br_5, br_6, br_7, br_8, ex_c, br_nl, br_le, br_ne, gp_1, gp_2, gp_3, gf_1, gf_2, h.2.1]
  | succ f ih =>
    intro i hf hi
    have hs := hK.2.2.2.1 i (by omega)
    have b2 := fo256_b hs.2.1 hs.1
    have hsame := fo_same hs.2.1 hl
    have := ih (i + 1) (by omega) (by omega)
    rw [ex_s rfl, nmd]
    simp only [wX4_named_2]
    by_cases c : fo 27 96 B (rq r i) (rL r i) = fo 27 96 B q k
    · have c' := hsame.2.mpr (hsame.1.mp c)
      rw [if_pos c]
      simp (disch := omega) only [iI_lit, iI_neg, iI_add, iI_sub, iI_mul, iI_lt, iI_le, iI_eq, iI_in, iI_clamp, iI_mx, iI_mn, iI_nI, Int.toNat_natCast, forall_eq, br_1, br_2, br_3, br_4, br_in, br_5, br_6, br_7, br_8, ex_c, br_nl, br_le, br_ne, gp_1, gp_2, gp_3, gf_1, gf_2, h.2.1, (h.2.2.1 i (by omega)).1, h11, lgc, iL_eq]
    · have c' : ¬ fo 256 0 B (rq r i) (rL r i) = fo 256 0 B q k := fun z => c (hsame.1.mpr (hsame.2.mp z))
      rw [if_neg c, ← this]
      simp (disch := omega) only [iI_lit, iI_neg, iI_add, iI_sub, iI_mul, iI_lt, iI_le, iI_eq, iI_in, iI_clamp, iI_mx, iI_mn, iI_nI, Int.toNat_natCast, forall_eq, br_1, br_2, br_3, br_4, br_in, br_5, br_6, br_7, br_8, ex_c, br_nl, br_le, br_ne, gp_1, gp_2, gp_3, gf_1, gf_2, h.2.1, (h.2.2.1 i (by omega)).1, h11, lgc, iL_eq]
      rfl
theorem m_named {B : Nat → Int} {r : Rd} {M : Mem} {Q : Qi} {q k : Nat} (hK : KI B r) (h : KM B r M) (hl : lt B q k) (hk : k ≤ 6) (h11 : gL M 200 11 = iL (fo 256 0 B q k)) : wpX4_named M Q = Q (iI (nmd B r (fo 27 96 B q k) (rk r) 0)) M := by
  rw [← l_mnamed (Q := Q) hK h hl hk h11 (rk r) 0 rfl (by omega)]
  rfl
theorem XC.ss {B : Nat → Int} {n : Nat} {r : Rd} {t t' : Tk} {M : Mem} {Q : Mem → Prop} (h : XC B n r t M) (ht : ¬ t.1 = 1) (hC : StepC B n t.2.2.1 t') (hQ : ∀ M', S1 M M' → XC B n r t' M' → Q M') : wpX2_step M Q :=
  hC M Q h.1 (h.2.2.1.2.2.1 ht) (fun M' hS hT => hQ M' hS ⟨h.1.s hS, h.2.1.s hS, hT, (hS.2 _ _ (by omega)).trans h.2.2.2.1, (hS.2 _ _ (by omega)).trans h.2.2.2.2⟩)
def rS (r : Rd) (q k : Nat) (e : Int) : Rd := (rE r, rk r + 1, fun j => if j = rk r then q else rq r j, fun j => if j = rk r then k else rL r j, fun j => if j = rk r then e else rv r j, rn r, rp r, ry r)
def rP (r : Rd) (s : Nat) (v : Int) : Rd := (rE r, rk r, rq r, rL r, rv r, rn r + 1, fun j => if j = rn r then s else rp r j, fun j => if j = rn r then v else ry r j)
theorem KI.s {B : Nat → Int} {r : Rd} {q k : Nat} {e : Int} (h : KI B r) (hk : rk r < 4) (he : ¬ rE r = 0) (hl : lt B q k) (h6 : k ≤ 6) (h1 : 1 ≤ e ∧ e ≤ 60) : KI B (rS r q k e) := by
  obtain ⟨a1, a2, a3, a4, a5, a6⟩ := h
  refine ⟨a1, by show rk r + 1 ≤ 4; omega, fun _ => he, fun s hs => ?_, a5, fun i hi => ⟨?_, (a6 i hi).2⟩⟩
  · have hs' : s < rk r + 1 := hs
    show (if s = rk r then k else rL r s) ≤ 6 ∧ lt B (if s = rk r then q else rq r s) (if s = rk r then k else rL r s) ∧ 1 ≤ (if s = rk r then e else rv r s) ∧ (if s = rk r then e else rv r s) ≤ 60
    by_cases c : s = rk r
    · simp only [if_pos c]
      exact ⟨h6, hl, h1⟩
    · simp only [if_neg c]
      exact a4 s (by omega)
  · have := (a6 i hi).1
    show rp r i < rk r + 1
    omega
theorem KI.p {B : Nat → Int} {r : Rd} {s : Nat} {v : Int} (h : KI B r) (hk : s < rk r) (hn : rn r < 200) (hv : 0 ≤ v ∧ v ≤ 999) : KI B (rP r s v) := by
  obtain ⟨a1, a2, a3, a4, a5, a6⟩ := h
  refine ⟨a1, a2, a3, a4, by show rn r + 1 ≤ 200; omega, fun i hi => ?_⟩
  have hi' : i < rn r + 1 := hi
  show (if i = rn r then s else rp r i) < rk r ∧ 0 ≤ (if i = rn r then v else ry r i) ∧ (if i = rn r then v else ry r i) ≤ 999
  by_cases c : i = rn r
  · simp only [if_pos c]
    exact ⟨hk, hv⟩
  · simp only [if_neg c]
    exact a6 i (by omega)
theorem XC.nm {B : Nat → Int} {n : Nat} {r : Rd} {t : Tk} {M : Mem} {x : Int32} (h : XC B n r t M) : XC B n r t (pI M 3 (rk r) x) := by
  obtain ⟨⟨a1, a2⟩, ⟨b1, b2, b3, b4, b5⟩, ⟨c1, c2, c3, c4, c5⟩, d, d2⟩ := h
  refine ⟨⟨by simp (disch := omega) only [iI_lit, iI_neg, iI_add, iI_sub, iI_mul, iI_lt, iI_le, iI_eq, iI_in, iI_clamp, iI_mx, iI_mn, iI_nI, Int.toNat_natCast, forall_eq, br_1, br_2, br_3, br_4, br_in, br_5, br_6, br_7, br_8, ex_c, br_nl, br_le, br_ne, gp_1, gp_2, gp_3, gf_1, gf_2]; exact a1, fun i hi => by simp (disch := omega) only [iI_lit, iI_neg, iI_add, iI_sub, iI_mul, iI_lt, iI_le, iI_eq, iI_in, iI_clamp, iI_mx, iI_mn, iI_nI, Int.toNat_natCast, forall_eq, br_1, br_2, br_3, br_4, br_in, br_5, br_6, br_7, br_8, ex_c, br_nl, br_le, br_ne, gp_1, gp_2, gp_3, gf_1, gf_2]; exact a2 i hi⟩, ⟨by simp (disch := omega) only [iI_lit, iI_neg, iI_add, iI_sub, iI_mul, iI_lt, iI_le, iI_eq, iI_in, iI_clamp, iI_mx, iI_mn, iI_nI, Int.toNat_natCast, forall_eq, br_1, br_2, br_3, br_4, br_in, br_5, br_6, br_7, br_8, ex_c, br_nl, br_le, br_ne, gp_1, gp_2, gp_3, gf_1, gf_2]; exact b1, by simp (disch := omega) only [iI_lit, iI_neg, iI_add, iI_sub, iI_mul, iI_lt, iI_le, iI_eq, iI_in, iI_clamp, iI_mx, iI_mn, iI_nI, Int.toNat_natCast, forall_eq, br_1, br_2, br_3, br_4, br_in, br_5, br_6, br_7, br_8, ex_c, br_nl, br_le, br_ne, gp_1, gp_2, gp_3, gf_1, gf_2]; exact b2, fun s hs => by simp (disch := omega) only [iI_lit, iI_neg, iI_add, iI_sub, iI_mul, iI_lt, iI_le, iI_eq, iI_in, iI_clamp, iI_mx, iI_mn, iI_nI, Int.toNat_natCast, forall_eq, br_1, br_2, br_3, br_4, br_in, br_5, br_6, br_7, br_8, ex_c, br_nl, br_le, br_ne, gp_1, gp_2, gp_3, gf_1, gf_2]; exact b3 s hs, by simp (disch := omega) only [iI_lit, iI_neg, iI_add, iI_sub, iI_mul, iI_lt, iI_le, iI_eq, iI_in, iI_clamp, iI_mx, iI_mn, iI_nI, Int.toNat_natCast, forall_eq, br_1, br_2, br_3, br_4, br_in, br_5, br_6, br_7, br_8, ex_c, br_nl, br_le, br_ne, gp_1, gp_2, gp_3, gf_1, gf_2]; exact b4, fun i hi => by simp (disch := omega) only [iI_lit, iI_neg, iI_add, iI_sub, iI_mul, iI_lt, iI_le, iI_eq, iI_in, iI_clamp, iI_mx, iI_mn, iI_nI, Int.toNat_natCast, forall_eq, br_1, br_2, br_3, br_4, br_in, br_5, br_6, br_7, br_8, ex_c, br_nl, br_le, br_ne, gp_1, gp_2, gp_3, gf_1, gf_2]; exact b5 i hi⟩, ⟨by simp (disch := omega) only [iI_lit, iI_neg, iI_add, iI_sub, iI_mul, iI_lt, iI_le, iI_eq, iI_in, iI_clamp, iI_mx, iI_mn, iI_nI, Int.toNat_natCast, forall_eq, br_1, br_2, br_3, br_4, br_in, br_5, br_6, br_7, br_8, ex_c, br_nl, br_le, br_ne, gp_1, gp_2, gp_3, gf_1, gf_2]; exact c1, by simp (disch := omega) only [iI_lit, iI_neg, iI_add, iI_sub, iI_mul, iI_lt, iI_le, iI_eq, iI_in, iI_clamp, iI_mx, iI_mn, iI_nI, Int.toNat_natCast, forall_eq, br_1, br_2, br_3, br_4, br_in, br_5, br_6, br_7, br_8, ex_c, br_nl, br_le, br_ne, gp_1, gp_2, gp_3, gf_1, gf_2]; exact c2, fun z => by simp (disch := omega) only [iI_lit, iI_neg, iI_add, iI_sub, iI_mul, iI_lt, iI_le, iI_eq, iI_in, iI_clamp, iI_mx, iI_mn, iI_nI, Int.toNat_natCast, forall_eq, br_1, br_2, br_3, br_4, br_in, br_5, br_6, br_7, br_8, ex_c, br_nl, br_le, br_ne, gp_1, gp_2, gp_3, gf_1, gf_2]; exact c3 z, fun z => by simp (disch := omega) only [iI_lit, iI_neg, iI_add, iI_sub, iI_mul, iI_lt, iI_le, iI_eq, iI_in, iI_clamp, iI_mx, iI_mn, iI_nI, Int.toNat_natCast, forall_eq, br_1, br_2, br_3, br_4, br_in, br_5, br_6, br_7, br_8, ex_c, br_nl, br_le, br_ne, gp_1, gp_2, gp_3, gf_1, gf_2]; exact c4 z, fun z => by simp (disch := omega) only [iI_lit, iI_neg, iI_add, iI_sub, iI_mul, iI_lt, iI_le, iI_eq, iI_in, iI_clamp, iI_mx, iI_mn, iI_nI, Int.toNat_natCast, forall_eq, br_1, br_2, br_3, br_4, br_in, br_5, br_6, br_7, br_8, ex_c, br_nl, br_le, br_ne, gp_1, gp_2, gp_3, gf_1, gf_2]; exact c5 z⟩, by simp (disch := omega) only [iI_lit, iI_neg, iI_add, iI_sub, iI_mul, iI_lt, iI_le, iI_eq, iI_in, iI_clamp, iI_mx, iI_mn, iI_nI, Int.toNat_natCast, forall_eq, br_1, br_2, br_3, br_4, br_in, br_5, br_6, br_7, br_8, ex_c, br_nl, br_le, br_ne, gp_1, gp_2, gp_3, gf_1, gf_2]; exact d, by simp (disch := omega) only [iI_lit, iI_neg, iI_add, iI_sub, iI_mul, iI_lt, iI_le, iI_eq, iI_in, iI_clamp, iI_mx, iI_mn, iI_nI, Int.toNat_natCast, forall_eq, br_1, br_2, br_3, br_4, br_in, br_5, br_6, br_7, br_8, ex_c, br_nl, br_le, br_ne, gp_1, gp_2, gp_3, gf_1, gf_2]; exact d2⟩
theorem XC.sn {B : Nat → Int} {n : Nat} {r : Rd} {t : Tk} {M : Mem} {q k : Nat} {e : Int} (h : XC B n r t M) (h3 : gI M 3 (rk r) = iI (fo 27 96 B q k)) : XC B n (rS r q k e) t (pI (pI M 4 (rk r) (iI e)) 1 10 (iI ((rk r : Int) + 1))) := by
  obtain ⟨⟨a1, a2⟩, ⟨b1, b2, b3, b4, b5⟩, ⟨c1, c2, c3, c4, c5⟩, d, d2⟩ := h
  refine ⟨⟨by simp (disch := omega) only [iI_lit, iI_neg, iI_add, iI_sub, iI_mul, iI_lt, iI_le, iI_eq, iI_in, iI_clamp, iI_mx, iI_mn, iI_nI, Int.toNat_natCast, forall_eq, br_1, br_2, br_3, br_4, br_in, br_5, br_6, br_7, br_8, ex_c, br_nl, br_le, br_ne, gp_1, gp_2, gp_3, gf_1, gf_2]; exact a1, fun i hi => by simp (disch := omega) only [iI_lit, iI_neg, iI_add, iI_sub, iI_mul, iI_lt, iI_le, iI_eq, iI_in, iI_clamp, iI_mx, iI_mn, iI_nI, Int.toNat_natCast, forall_eq, br_1, br_2, br_3, br_4, br_in, br_5, br_6, br_7, br_8, ex_c, br_nl, br_le, br_ne, gp_1, gp_2, gp_3, gf_1, gf_2]; exact a2 i hi⟩, ⟨by simp (disch := omega) only [iI_lit, iI_neg, iI_add, iI_sub, iI_mul, iI_lt, iI_le, iI_eq, iI_in, iI_clamp, iI_mx, iI_mn, iI_nI, Int.toNat_natCast, forall_eq, br_1, br_2, br_3, br_4, br_in, br_5, br_6, br_7, br_8, ex_c, br_nl, br_le, br_ne, gp_1, gp_2, gp_3, gf_1, gf_2]; exact b1, by simp (disch := omega) only [iI_lit, iI_neg, iI_add, iI_sub, iI_mul, iI_lt, iI_le, iI_eq, iI_in, iI_clamp, iI_mx, iI_mn, iI_nI, Int.toNat_natCast, forall_eq, br_1, br_2, br_3, br_4, br_in, br_5, br_6, br_7, br_8, ex_c, br_nl, br_le, br_ne, gp_1, gp_2, gp_3, gf_1, gf_2]; rfl, fun s hs => ?_, by simp (disch := omega) only [iI_lit, iI_neg, iI_add, iI_sub, iI_mul, iI_lt, iI_le, iI_eq, iI_in, iI_clamp, iI_mx, iI_mn, iI_nI, Int.toNat_natCast, forall_eq, br_1, br_2, br_3, br_4, br_in, br_5, br_6, br_7, br_8, ex_c, br_nl, br_le, br_ne, gp_1, gp_2, gp_3, gf_1, gf_2]; exact b4, fun i hi => by simp (disch := omega) only [iI_lit, iI_neg, iI_add, iI_sub, iI_mul, iI_lt, iI_le, iI_eq, iI_in, iI_clamp, iI_mx, iI_mn, iI_nI, Int.toNat_natCast, forall_eq, br_1, br_2, br_3, br_4, br_in, br_5, br_6, br_7, br_8, ex_c, br_nl, br_le, br_ne, gp_1, gp_2, gp_3, gf_1, gf_2]; exact b5 i hi⟩, ⟨by simp (disch := omega) only [iI_lit, iI_neg, iI_add, iI_sub, iI_mul, iI_lt, iI_le, iI_eq, iI_in, iI_clamp, iI_mx, iI_mn, iI_nI, Int.toNat_natCast, forall_eq, br_1, br_2, br_3, br_4, br_in, br_5, br_6, br_7, br_8, ex_c, br_nl, br_le, br_ne, gp_1, gp_2, gp_3, gf_1, gf_2]; exact c1, by simp (disch := omega) only [iI_lit, iI_neg, iI_add, iI_sub, iI_mul, iI_lt, iI_le, iI_eq, iI_in, iI_clamp, iI_mx, iI_mn, iI_nI, Int.toNat_natCast, forall_eq, br_1, br_2, br_3, br_4, br_in, br_5, br_6, br_7, br_8, ex_c, br_nl, br_le, br_ne, gp_1, gp_2, gp_3, gf_1, gf_2]; exact c2, fun z => by simp (disch := omega) only [iI_lit, iI_neg, iI_add, iI_sub, iI_mul, iI_lt, iI_le, iI_eq, iI_in, iI_clamp, iI_mx, iI_mn, iI_nI, Int.toNat_natCast, forall_eq, br_1, br_2, br_3, br_4, br_in, br_5, br_6, br_7, br_8, ex_c, br_nl, br_le, br_ne, gp_1, gp_2, gp_3, gf_1, gf_2]; exact c3 z, fun z => by simp (disch := omega) only [iI_lit, iI_neg, iI_add, iI_sub, iI_mul, iI_lt, iI_le, iI_eq, iI_in, iI_clamp, iI_mx, iI_mn, iI_nI, Int.toNat_natCast, forall_eq, br_1, br_2, br_3, br_4, br_in, br_5, br_6, br_7, br_8, ex_c, br_nl, br_le, br_ne, gp_1, gp_2, gp_3, gf_1, gf_2]; exact c4 z, fun z => by simp (disch := omega) only [iI_lit, iI_neg, iI_add, iI_sub, iI_mul, iI_lt, iI_le, iI_eq, iI_in, iI_clamp, iI_mx, iI_mn, iI_nI, Int.toNat_natCast, forall_eq, br_1, br_2, br_3, br_4, br_in, br_5, br_6, br_7, br_8, ex_c, br_nl, br_le, br_ne, gp_1, gp_2, gp_3, gf_1, gf_2]; exact c5 z⟩, by simp (disch := omega) only [iI_lit, iI_neg, iI_add, iI_sub, iI_mul, iI_lt, iI_le, iI_eq, iI_in, iI_clamp, iI_mx, iI_mn, iI_nI, Int.toNat_natCast, forall_eq, br_1, br_2, br_3, br_4, br_in, br_5, br_6, br_7, br_8, ex_c, br_nl, br_le, br_ne, gp_1, gp_2, gp_3, gf_1, gf_2]; exact d, by simp (disch := omega) only [iI_lit, iI_neg, iI_add, iI_sub, iI_mul, iI_lt, iI_le, iI_eq, iI_in, iI_clamp, iI_mx, iI_mn, iI_nI, Int.toNat_natCast, forall_eq, br_1, br_2, br_3, br_4, br_in, br_5, br_6, br_7, br_8, ex_c, br_nl, br_le, br_ne, gp_1, gp_2, gp_3, gf_1, gf_2]; exact d2⟩
  have hs' : s < rk r + 1 := hs
  show _ = iI (fo 27 96 B (if s = rk r then q else rq r s) (if s = rk r then k else rL r s)) ∧ _ = iI (if s = rk r then e else rv r s)
  by_cases c : s = rk r
  · simp only [if_pos c]
    rw [c]
    refine ⟨by simp (disch := omega) only [iI_lit, iI_neg, iI_add, iI_sub, iI_mul, iI_lt, iI_le, iI_eq, iI_in, iI_clamp, iI_mx, iI_mn, iI_nI, Int.toNat_natCast, forall_eq, br_1, br_2, br_3, br_4, br_in, br_5, br_6, br_7, br_8, ex_c, br_nl, br_le, br_ne, gp_1, gp_2, gp_3, gf_1, gf_2]; exact h3, by simp (disch := omega) only [iI_lit, iI_neg, iI_add, iI_sub, iI_mul, iI_lt, iI_le, iI_eq, iI_in, iI_clamp, iI_mx, iI_mn, iI_nI, Int.toNat_natCast, forall_eq, br_1, br_2, br_3, br_4, br_in, br_5, br_6, br_7, br_8, ex_c, br_nl, br_le, br_ne, gp_1, gp_2, gp_3, gf_1, gf_2]⟩
  · simp only [if_neg c]
    have := b3 s (by omega)
    exact ⟨by simp (disch := omega) only [iI_lit, iI_neg, iI_add, iI_sub, iI_mul, iI_lt, iI_le, iI_eq, iI_in, iI_clamp, iI_mx, iI_mn, iI_nI, Int.toNat_natCast, forall_eq, br_1, br_2, br_3, br_4, br_in, br_5, br_6, br_7, br_8, ex_c, br_nl, br_le, br_ne, gp_1, gp_2, gp_3, gf_1, gf_2]; exact this.1, by simp (disch := omega) only [iI_lit, iI_neg, iI_add, iI_sub, iI_mul, iI_lt, iI_le, iI_eq, iI_in, iI_clamp, iI_mx, iI_mn, iI_nI, Int.toNat_natCast, forall_eq, br_1, br_2, br_3, br_4, br_in, br_5, br_6, br_7, br_8, ex_c, br_nl, br_le, br_ne, gp_1, gp_2, gp_3, gf_1, gf_2]; exact this.2⟩
theorem XM.sn {B : Nat → Int} {n : Nat} {r : Rd} {t : Tk} {M : Mem} {q k : Nat} {e : Int} (h : XM B n r t M) : XM B n (rS r q k e) t (pI (pI (pL M 213 (rk r) (iL (fo 256 0 B q k))) 214 (rk r) (iI e)) 200 17 (iI ((rk r : Int) + 1))) := by
  obtain ⟨⟨a1, a0, a2⟩, ⟨b1, b2, b3, b4, b5⟩, ⟨c1, c2, c3, c4, c5⟩⟩ := h
  refine ⟨⟨by simp (disch := omega) only [iI_lit, iI_neg, iI_add, iI_sub, iI_mul, iI_lt, iI_le, iI_eq, iI_in, iI_clamp, iI_mx, iI_mn, iI_nI, Int.toNat_natCast, forall_eq, br_1, br_2, br_3, br_4, br_in, br_5, br_6, br_7, br_8, ex_c, br_nl, br_le, br_ne, gp_1, gp_2, gp_3, gf_1, gf_2, gI_pL]; exact a1, by simp (disch := omega) only [iI_lit, iI_neg, iI_add, iI_sub, iI_mul, iI_lt, iI_le, iI_eq, iI_in, iI_clamp, iI_mx, iI_mn, iI_nI, Int.toNat_natCast, forall_eq, br_1, br_2, br_3, br_4, br_in, br_5, br_6, br_7, br_8, ex_c, br_nl, br_le, br_ne, gp_1, gp_2, gp_3, gf_1, gf_2, gI_pL]; exact a0, fun i hi => by simp (disch := omega) only [iI_lit, iI_neg, iI_add, iI_sub, iI_mul, iI_lt, iI_le, iI_eq, iI_in, iI_clamp, iI_mx, iI_mn, iI_nI, Int.toNat_natCast, forall_eq, br_1, br_2, br_3, br_4, br_in, br_5, br_6, br_7, br_8, ex_c, br_nl, br_le, br_ne, gp_1, gp_2, gp_3, gf_1, gf_2, gI_pL]; exact a2 i hi⟩, ⟨by simp (disch := omega) only [iI_lit, iI_neg, iI_add, iI_sub, iI_mul, iI_lt, iI_le, iI_eq, iI_in, iI_clamp, iI_mx, iI_mn, iI_nI, Int.toNat_natCast, forall_eq, br_1, br_2, br_3, br_4, br_in, br_5, br_6, br_7, br_8, ex_c, br_nl, br_le, br_ne, gp_1, gp_2, gp_3, gf_1, gf_2, gI_pL]; exact b1, by simp (disch := omega) only [iI_lit, iI_neg, iI_add, iI_sub, iI_mul, iI_lt, iI_le, iI_eq, iI_in, iI_clamp, iI_mx, iI_mn, iI_nI, Int.toNat_natCast, forall_eq, br_1, br_2, br_3, br_4, br_in, br_5, br_6, br_7, br_8, ex_c, br_nl, br_le, br_ne, gp_1, gp_2, gp_3, gf_1, gf_2]; rfl, fun s hs => ?_, by simp (disch := omega) only [iI_lit, iI_neg, iI_add, iI_sub, iI_mul, iI_lt, iI_le, iI_eq, iI_in, iI_clamp, iI_mx, iI_mn, iI_nI, Int.toNat_natCast, forall_eq, br_1, br_2, br_3, br_4, br_in, br_5, br_6, br_7, br_8, ex_c, br_nl, br_le, br_ne, gp_1, gp_2, gp_3, gf_1, gf_2, gI_pL]; exact b4, fun i hi => by simp (disch := omega) only [iI_lit, iI_neg, iI_add, iI_sub, iI_mul, iI_lt, iI_le, iI_eq, iI_in, iI_clamp, iI_mx, iI_mn, iI_nI, Int.toNat_natCast, forall_eq, br_1, br_2, br_3, br_4, br_in, br_5, br_6, br_7, br_8, ex_c, br_nl, br_le, br_ne, gp_1, gp_2, gp_3, gf_1, gf_2, gI_pL]; exact b5 i hi⟩, ⟨by simp (disch := omega) only [iI_lit, iI_neg, iI_add, iI_sub, iI_mul, iI_lt, iI_le, iI_eq, iI_in, iI_clamp, iI_mx, iI_mn, iI_nI, Int.toNat_natCast, forall_eq, br_1, br_2, br_3, br_4, br_in, br_5, br_6, br_7, br_8, ex_c, br_nl, br_le, br_ne, gp_1, gp_2, gp_3, gf_1, gf_2, gI_pL]; exact c1, by simp (disch := omega) only [iI_lit, iI_neg, iI_add, iI_sub, iI_mul, iI_lt, iI_le, iI_eq, iI_in, iI_clamp, iI_mx, iI_mn, iI_nI, Int.toNat_natCast, forall_eq, br_1, br_2, br_3, br_4, br_in, br_5, br_6, br_7, br_8, ex_c, br_nl, br_le, br_ne, gp_1, gp_2, gp_3, gf_1, gf_2, gI_pL]; exact c2, fun z => by simp (disch := omega) only [iI_lit, iI_neg, iI_add, iI_sub, iI_mul, iI_lt, iI_le, iI_eq, iI_in, iI_clamp, iI_mx, iI_mn, iI_nI, Int.toNat_natCast, forall_eq, br_1, br_2, br_3, br_4, br_in, br_5, br_6, br_7, br_8, ex_c, br_nl, br_le, br_ne, gp_1, gp_2, gp_3, gf_1, gf_2, gI_pL]; exact c3 z, fun z => by rw [gL_pI, gL_pI, gL_pL, if_neg (by omega)]; exact c4 z, fun z => by simp (disch := omega) only [iI_lit, iI_neg, iI_add, iI_sub, iI_mul, iI_lt, iI_le, iI_eq, iI_in, iI_clamp, iI_mx, iI_mn, iI_nI, Int.toNat_natCast, forall_eq, br_1, br_2, br_3, br_4, br_in, br_5, br_6, br_7, br_8, ex_c, br_nl, br_le, br_ne, gp_1, gp_2, gp_3, gf_1, gf_2, gI_pL]; exact c5 z⟩⟩
  have hs' : s < rk r + 1 := hs
  show _ = iL (fo 256 0 B (if s = rk r then q else rq r s) (if s = rk r then k else rL r s)) ∧ _ = iI (if s = rk r then e else rv r s)
  by_cases c : s = rk r
  · simp only [if_pos c]
    rw [c]
    refine ⟨by rw [gL_pI, gL_pI, gL_pL, if_pos ⟨rfl, rfl⟩], by simp (disch := omega) only [iI_lit, iI_neg, iI_add, iI_sub, iI_mul, iI_lt, iI_le, iI_eq, iI_in, iI_clamp, iI_mx, iI_mn, iI_nI, Int.toNat_natCast, forall_eq, br_1, br_2, br_3, br_4, br_in, br_5, br_6, br_7, br_8, ex_c, br_nl, br_le, br_ne, gp_1, gp_2, gp_3, gf_1, gf_2]⟩
  · simp only [if_neg c]
    have := b3 s (by omega)
    exact ⟨by rw [gL_pI, gL_pI, gL_pL, if_neg (by omega)]; exact this.1, by simp (disch := omega) only [iI_lit, iI_neg, iI_add, iI_sub, iI_mul, iI_lt, iI_le, iI_eq, iI_in, iI_clamp, iI_mx, iI_mn, iI_nI, Int.toNat_natCast, forall_eq, br_1, br_2, br_3, br_4, br_in, br_5, br_6, br_7, br_8, ex_c, br_nl, br_le, br_ne, gp_1, gp_2, gp_3, gf_1, gf_2, gI_pL]; exact this.2⟩
theorem XC.ph {B : Nat → Int} {n : Nat} {r : Rd} {t : Tk} {M : Mem} {s : Nat} {v : Int} (h : XC B n r t M) : XC B n (rP r s v) t (pI (pI (pI M 5 (rn r) (iI s)) 6 (rn r) (iI v)) 1 13 (iI ((rn r : Int) + 1))) := by
  obtain ⟨⟨a1, a2⟩, ⟨b1, b2, b3, b4, b5⟩, ⟨c1, c2, c3, c4, c5⟩, d, d2⟩ := h
  refine ⟨⟨by simp (disch := omega) only [iI_lit, iI_neg, iI_add, iI_sub, iI_mul, iI_lt, iI_le, iI_eq, iI_in, iI_clamp, iI_mx, iI_mn, iI_nI, Int.toNat_natCast, forall_eq, br_1, br_2, br_3, br_4, br_in, br_5, br_6, br_7, br_8, ex_c, br_nl, br_le, br_ne, gp_1, gp_2, gp_3, gf_1, gf_2]; exact a1, fun i hi => by simp (disch := omega) only [iI_lit, iI_neg, iI_add, iI_sub, iI_mul, iI_lt, iI_le, iI_eq, iI_in, iI_clamp, iI_mx, iI_mn, iI_nI, Int.toNat_natCast, forall_eq, br_1, br_2, br_3, br_4, br_in, br_5, br_6, br_7, br_8, ex_c, br_nl, br_le, br_ne, gp_1, gp_2, gp_3, gf_1, gf_2]; exact a2 i hi⟩, ⟨by simp (disch := omega) only [iI_lit, iI_neg, iI_add, iI_sub, iI_mul, iI_lt, iI_le, iI_eq, iI_in, iI_clamp, iI_mx, iI_mn, iI_nI, Int.toNat_natCast, forall_eq, br_1, br_2, br_3, br_4, br_in, br_5, br_6, br_7, br_8, ex_c, br_nl, br_le, br_ne, gp_1, gp_2, gp_3, gf_1, gf_2]; exact b1, by simp (disch := omega) only [iI_lit, iI_neg, iI_add, iI_sub, iI_mul, iI_lt, iI_le, iI_eq, iI_in, iI_clamp, iI_mx, iI_mn, iI_nI, Int.toNat_natCast, forall_eq, br_1, br_2, br_3, br_4, br_in, br_5, br_6, br_7, br_8, ex_c, br_nl, br_le, br_ne, gp_1, gp_2, gp_3, gf_1, gf_2]; exact b2, fun s hs => by simp (disch := omega) only [iI_lit, iI_neg, iI_add, iI_sub, iI_mul, iI_lt, iI_le, iI_eq, iI_in, iI_clamp, iI_mx, iI_mn, iI_nI, Int.toNat_natCast, forall_eq, br_1, br_2, br_3, br_4, br_in, br_5, br_6, br_7, br_8, ex_c, br_nl, br_le, br_ne, gp_1, gp_2, gp_3, gf_1, gf_2]; exact b3 s hs, by simp (disch := omega) only [iI_lit, iI_neg, iI_add, iI_sub, iI_mul, iI_lt, iI_le, iI_eq, iI_in, iI_clamp, iI_mx, iI_mn, iI_nI, Int.toNat_natCast, forall_eq, br_1, br_2, br_3, br_4, br_in, br_5, br_6, br_7, br_8, ex_c, br_nl, br_le, br_ne, gp_1, gp_2, gp_3, gf_1, gf_2]; rfl, fun i hi => ?_⟩, ⟨by simp (disch := omega) only [iI_lit, iI_neg, iI_add, iI_sub, iI_mul, iI_lt, iI_le, iI_eq, iI_in, iI_clamp, iI_mx, iI_mn, iI_nI, Int.toNat_natCast, forall_eq, br_1, br_2, br_3, br_4, br_in, br_5, br_6, br_7, br_8, ex_c, br_nl, br_le, br_ne, gp_1, gp_2, gp_3, gf_1, gf_2]; exact c1, by simp (disch := omega) only [iI_lit, iI_neg, iI_add, iI_sub, iI_mul, iI_lt, iI_le, iI_eq, iI_in, iI_clamp, iI_mx, iI_mn, iI_nI, Int.toNat_natCast, forall_eq, br_1, br_2, br_3, br_4, br_in, br_5, br_6, br_7, br_8, ex_c, br_nl, br_le, br_ne, gp_1, gp_2, gp_3, gf_1, gf_2]; exact c2, fun z => by simp (disch := omega) only [iI_lit, iI_neg, iI_add, iI_sub, iI_mul, iI_lt, iI_le, iI_eq, iI_in, iI_clamp, iI_mx, iI_mn, iI_nI, Int.toNat_natCast, forall_eq, br_1, br_2, br_3, br_4, br_in, br_5, br_6, br_7, br_8, ex_c, br_nl, br_le, br_ne, gp_1, gp_2, gp_3, gf_1, gf_2]; exact c3 z, fun z => by simp (disch := omega) only [iI_lit, iI_neg, iI_add, iI_sub, iI_mul, iI_lt, iI_le, iI_eq, iI_in, iI_clamp, iI_mx, iI_mn, iI_nI, Int.toNat_natCast, forall_eq, br_1, br_2, br_3, br_4, br_in, br_5, br_6, br_7, br_8, ex_c, br_nl, br_le, br_ne, gp_1, gp_2, gp_3, gf_1, gf_2]; exact c4 z, fun z => by simp (disch := omega) only [iI_lit, iI_neg, iI_add, iI_sub, iI_mul, iI_lt, iI_le, iI_eq, iI_in, iI_clamp, iI_mx, iI_mn, iI_nI, Int.toNat_natCast, forall_eq, br_1, br_2, br_3, br_4, br_in, br_5, br_6, br_7, br_8, ex_c, br_nl, br_le, br_ne, gp_1, gp_2, gp_3, gf_1, gf_2]; exact c5 z⟩, by simp (disch := omega) only [iI_lit, iI_neg, iI_add, iI_sub, iI_mul, iI_lt, iI_le, iI_eq, iI_in, iI_clamp, iI_mx, iI_mn, iI_nI, Int.toNat_natCast, forall_eq, br_1, br_2, br_3, br_4, br_in, br_5, br_6, br_7, br_8, ex_c, br_nl, br_le, br_ne, gp_1, gp_2, gp_3, gf_1, gf_2]; exact d, by simp (disch := omega) only [iI_lit, iI_neg, iI_add, iI_sub, iI_mul, iI_lt, iI_le, iI_eq, iI_in, iI_clamp, iI_mx, iI_mn, iI_nI, Int.toNat_natCast, forall_eq, br_1, br_2, br_3, br_4, br_in, br_5, br_6, br_7, br_8, ex_c, br_nl, br_le, br_ne, gp_1, gp_2, gp_3, gf_1, gf_2]; exact d2⟩
  have hi' : i < rn r + 1 := hi
  show _ = iI ((if i = rn r then s else rp r i : Nat) : Int) ∧ _ = iI (if i = rn r then v else ry r i)
  by_cases c : i = rn r
  · simp only [if_pos c]
    rw [c]
    refine ⟨by simp (disch := omega) only [iI_lit, iI_neg, iI_add, iI_sub, iI_mul, iI_lt, iI_le, iI_eq, iI_in, iI_clamp, iI_mx, iI_mn, iI_nI, Int.toNat_natCast, forall_eq, br_1, br_2, br_3, br_4, br_in, br_5, br_6, br_7, br_8, ex_c, br_nl, br_le, br_ne, gp_1, gp_2, gp_3, gf_1, gf_2], by simp (disch := omega) only [iI_lit, iI_neg, iI_add, iI_sub, iI_mul, iI_lt, iI_le, iI_eq, iI_in, iI_clamp, iI_mx, iI_mn, iI_nI, Int.toNat_natCast, forall_eq, br_1, br_2, br_3, br_4, br_in, br_5, br_6, br_7, br_8, ex_c, br_nl, br_le, br_ne, gp_1, gp_2, gp_3, gf_1, gf_2]⟩
  · simp only [if_neg c]
    have := b5 i (by omega)
    exact ⟨by simp (disch := omega) only [iI_lit, iI_neg, iI_add, iI_sub, iI_mul, iI_lt, iI_le, iI_eq, iI_in, iI_clamp, iI_mx, iI_mn, iI_nI, Int.toNat_natCast, forall_eq, br_1, br_2, br_3, br_4, br_in, br_5, br_6, br_7, br_8, ex_c, br_nl, br_le, br_ne, gp_1, gp_2, gp_3, gf_1, gf_2]; exact this.1, by simp (disch := omega) only [iI_lit, iI_neg, iI_add, iI_sub, iI_mul, iI_lt, iI_le, iI_eq, iI_in, iI_clamp, iI_mx, iI_mn, iI_nI, Int.toNat_natCast, forall_eq, br_1, br_2, br_3, br_4, br_in, br_5, br_6, br_7, br_8, ex_c, br_nl, br_le, br_ne, gp_1, gp_2, gp_3, gf_1, gf_2]; exact this.2⟩
theorem XM.ph {B : Nat → Int} {n : Nat} {r : Rd} {t : Tk} {M : Mem} {s : Nat} {v : Int} (h : XM B n r t M) : XM B n (rP r s v) t (pI (pI (pI M 215 (rn r) (iI s)) 216 (rn r) (iI v)) 200 18 (iI ((rn r : Int) + 1))) := by
  obtain ⟨⟨a1, a0, a2⟩, ⟨b1, b2, b3, b4, b5⟩, ⟨c1, c2, c3, c4, c5⟩⟩ := h
  refine ⟨⟨by simp (disch := omega) only [iI_lit, iI_neg, iI_add, iI_sub, iI_mul, iI_lt, iI_le, iI_eq, iI_in, iI_clamp, iI_mx, iI_mn, iI_nI, Int.toNat_natCast, forall_eq, br_1, br_2, br_3, br_4, br_in, br_5, br_6, br_7, br_8, ex_c, br_nl, br_le, br_ne, gp_1, gp_2, gp_3, gf_1, gf_2]; exact a1, by simp (disch := omega) only [iI_lit, iI_neg, iI_add, iI_sub, iI_mul, iI_lt, iI_le, iI_eq, iI_in, iI_clamp, iI_mx, iI_mn, iI_nI, Int.toNat_natCast, forall_eq, br_1, br_2, br_3, br_4, br_in, br_5, br_6, br_7, br_8, ex_c, br_nl, br_le, br_ne, gp_1, gp_2, gp_3, gf_1, gf_2]; exact a0, fun i hi => by simp (disch := omega) only [iI_lit, iI_neg, iI_add, iI_sub, iI_mul, iI_lt, iI_le, iI_eq, iI_in, iI_clamp, iI_mx, iI_mn, iI_nI, Int.toNat_natCast, forall_eq, br_1, br_2, br_3, br_4, br_in, br_5, br_6, br_7, br_8, ex_c, br_nl, br_le, br_ne, gp_1, gp_2, gp_3, gf_1, gf_2]; exact a2 i hi⟩, ⟨by simp (disch := omega) only [iI_lit, iI_neg, iI_add, iI_sub, iI_mul, iI_lt, iI_le, iI_eq, iI_in, iI_clamp, iI_mx, iI_mn, iI_nI, Int.toNat_natCast, forall_eq, br_1, br_2, br_3, br_4, br_in, br_5, br_6, br_7, br_8, ex_c, br_nl, br_le, br_ne, gp_1, gp_2, gp_3, gf_1, gf_2]; exact b1, by simp (disch := omega) only [iI_lit, iI_neg, iI_add, iI_sub, iI_mul, iI_lt, iI_le, iI_eq, iI_in, iI_clamp, iI_mx, iI_mn, iI_nI, Int.toNat_natCast, forall_eq, br_1, br_2, br_3, br_4, br_in, br_5, br_6, br_7, br_8, ex_c, br_nl, br_le, br_ne, gp_1, gp_2, gp_3, gf_1, gf_2]; exact b2, fun s hs => by simp (disch := omega) only [iI_lit, iI_neg, iI_add, iI_sub, iI_mul, iI_lt, iI_le, iI_eq, iI_in, iI_clamp, iI_mx, iI_mn, iI_nI, Int.toNat_natCast, forall_eq, br_1, br_2, br_3, br_4, br_in, br_5, br_6, br_7, br_8, ex_c, br_nl, br_le, br_ne, gp_1, gp_2, gp_3, gf_1, gf_2, gL_pI]; exact b3 s hs, by simp (disch := omega) only [iI_lit, iI_neg, iI_add, iI_sub, iI_mul, iI_lt, iI_le, iI_eq, iI_in, iI_clamp, iI_mx, iI_mn, iI_nI, Int.toNat_natCast, forall_eq, br_1, br_2, br_3, br_4, br_in, br_5, br_6, br_7, br_8, ex_c, br_nl, br_le, br_ne, gp_1, gp_2, gp_3, gf_1, gf_2]; rfl, fun i hi => ?_⟩, ⟨by simp (disch := omega) only [iI_lit, iI_neg, iI_add, iI_sub, iI_mul, iI_lt, iI_le, iI_eq, iI_in, iI_clamp, iI_mx, iI_mn, iI_nI, Int.toNat_natCast, forall_eq, br_1, br_2, br_3, br_4, br_in, br_5, br_6, br_7, br_8, ex_c, br_nl, br_le, br_ne, gp_1, gp_2, gp_3, gf_1, gf_2]; exact c1, by simp (disch := omega) only [iI_lit, iI_neg, iI_add, iI_sub, iI_mul, iI_lt, iI_le, iI_eq, iI_in, iI_clamp, iI_mx, iI_mn, iI_nI, Int.toNat_natCast, forall_eq, br_1, br_2, br_3, br_4, br_in, br_5, br_6, br_7, br_8, ex_c, br_nl, br_le, br_ne, gp_1, gp_2, gp_3, gf_1, gf_2]; exact c2, fun z => by simp (disch := omega) only [iI_lit, iI_neg, iI_add, iI_sub, iI_mul, iI_lt, iI_le, iI_eq, iI_in, iI_clamp, iI_mx, iI_mn, iI_nI, Int.toNat_natCast, forall_eq, br_1, br_2, br_3, br_4, br_in, br_5, br_6, br_7, br_8, ex_c, br_nl, br_le, br_ne, gp_1, gp_2, gp_3, gf_1, gf_2]; exact c3 z, fun z => by simp (disch := omega) only [iI_lit, iI_neg, iI_add, iI_sub, iI_mul, iI_lt, iI_le, iI_eq, iI_in, iI_clamp, iI_mx, iI_mn, iI_nI, Int.toNat_natCast, forall_eq, br_1, br_2, br_3, br_4, br_in, br_5, br_6, br_7, br_8, ex_c, br_nl, br_le, br_ne, gp_1, gp_2, gp_3, gf_1, gf_2, gL_pI]; exact c4 z, fun z => by simp (disch := omega) only [iI_lit, iI_neg, iI_add, iI_sub, iI_mul, iI_lt, iI_le, iI_eq, iI_in, iI_clamp, iI_mx, iI_mn, iI_nI, Int.toNat_natCast, forall_eq, br_1, br_2, br_3, br_4, br_in, br_5, br_6, br_7, br_8, ex_c, br_nl, br_le, br_ne, gp_1, gp_2, gp_3, gf_1, gf_2]; exact c5 z⟩⟩
  have hi' : i < rn r + 1 := hi
  show _ = iI ((if i = rn r then s else rp r i : Nat) : Int) ∧ _ = iI (if i = rn r then v else ry r i)
  by_cases c : i = rn r
  · simp only [if_pos c]
    rw [c]
    refine ⟨by simp (disch := omega) only [iI_lit, iI_neg, iI_add, iI_sub, iI_mul, iI_lt, iI_le, iI_eq, iI_in, iI_clamp, iI_mx, iI_mn, iI_nI, Int.toNat_natCast, forall_eq, br_1, br_2, br_3, br_4, br_in, br_5, br_6, br_7, br_8, ex_c, br_nl, br_le, br_ne, gp_1, gp_2, gp_3, gf_1, gf_2], by simp (disch := omega) only [iI_lit, iI_neg, iI_add, iI_sub, iI_mul, iI_lt, iI_le, iI_eq, iI_in, iI_clamp, iI_mx, iI_mn, iI_nI, Int.toNat_natCast, forall_eq, br_1, br_2, br_3, br_4, br_in, br_5, br_6, br_7, br_8, ex_c, br_nl, br_le, br_ne, gp_1, gp_2, gp_3, gf_1, gf_2]⟩
  · simp only [if_neg c]
    have := b5 i (by omega)
    exact ⟨by simp (disch := omega) only [iI_lit, iI_neg, iI_add, iI_sub, iI_mul, iI_lt, iI_le, iI_eq, iI_in, iI_clamp, iI_mx, iI_mn, iI_nI, Int.toNat_natCast, forall_eq, br_1, br_2, br_3, br_4, br_in, br_5, br_6, br_7, br_8, ex_c, br_nl, br_le, br_ne, gp_1, gp_2, gp_3, gf_1, gf_2]; exact this.1, by simp (disch := omega) only [iI_lit, iI_neg, iI_add, iI_sub, iI_mul, iI_lt, iI_le, iI_eq, iI_in, iI_clamp, iI_mx, iI_mn, iI_nI, Int.toNat_natCast, forall_eq, br_1, br_2, br_3, br_4, br_in, br_5, br_6, br_7, br_8, ex_c, br_nl, br_le, br_ne, gp_1, gp_2, gp_3, gf_1, gf_2]; exact this.2⟩
theorem e_keep {B : Nat → Int} {r : Rd} {M : Mem} {Q : Mem → Prop} {s : Nat} {v : Int} (h : KC B r M) (hn : rn r < 200) : wpX2_keepPush M (iI s) (iI v) Q = Q (pI (pI (pI M 5 (rn r) (iI s)) 6 (rn r) (iI v)) 1 13 (iI ((rn r : Int) + 1))) := by
  unfold wpX2_keepPush
  simp (disch := omega) only [iI_lit, iI_neg, iI_add, iI_sub, iI_mul, iI_lt, iI_le, iI_eq, iI_in, iI_clamp, iI_mx, iI_mn, iI_nI, Int.toNat_natCast, forall_eq, br_1, br_2, br_3, br_4, br_in, br_5, br_6, br_7, br_8, ex_c, br_nl, br_le, br_ne, gp_1, gp_2, gp_3, gf_1, gf_2, h.2.2.2.1]
theorem m_pushed {B : Nat → Int} {n : Nat} {r : Rd} {M : Mem} {Q : Mem → Prop} {s : Nat} {v : Int} (hb : BM B n M) (h : KM B r M) (hn : rn r < 200) : wpX4_pushed M (iI s) (iI v) Q = Q (pI (pI (pI M 215 (rn r) (iI s)) 216 (rn r) (iI v)) 200 18 (iI ((rn r : Int) + 1))) := by
  unfold wpX4_pushed
  simp (disch := omega) only [iI_lit, iI_neg, iI_add, iI_sub, iI_mul, iI_lt, iI_le, iI_eq, iI_in, iI_clamp, iI_mx, iI_mn, iI_nI, Int.toNat_natCast, forall_eq, br_1, br_2, br_3, br_4, br_in, br_5, br_6, br_7, br_8, ex_c, br_nl, br_le, br_ne, gp_1, gp_2, gp_3, gf_1, gf_2, hb.2.1, h.2.2.2.1]
theorem d_pushed {M : Mem} {Q : Mem → Prop} {f a : Int} {s v : Int32} (h : FT f a M) (hf : 1 ≤ f ∧ f ≤ 6) : wpX4_pushed M s v Q = Q M := by
  unfold wpX4_pushed
  simp (disch := omega) only [iI_lit, iI_neg, iI_add, iI_sub, iI_mul, iI_lt, iI_le, iI_eq, iI_in, iI_clamp, iI_mx, iI_mn, iI_nI, Int.toNat_natCast, forall_eq, br_1, br_2, br_3, br_4, br_in, br_5, br_6, br_7, br_8, ex_c, br_nl, br_le, br_ne, gp_1, gp_2, gp_3, gf_1, gf_2, h.1]
theorem sim_pushes {B : Nat → Int} {n s : Nat} (hB : BI B n) : ∀ f r t p, n - t.2.1 < f → KI B r → TI B n p t → s < rk r → 2 * rn r ≤ t.2.1 → (t.1 = 3 → 2 * rn r + 1 ≤ t.2.1) →
    ∃ r' t', KI B r' ∧ TI B n t.2.1 t' ∧ 2 * rn r' ≤ t'.2.1 ∧ (∀ M Q i g, f < g → i ≤ rn r → XC B n r t M → (∀ M', F1 M M' → XC B n r' t' M' → Q (iI 1) M') → wX2_readPush_70 Q (iI s) g M (iI (i : Nat))) ∧
    (∀ M Q g, f < g → XM B n r t M → (∀ M', F2 M M' → XM B n r' t' M' → Q M') → wX4_readPush_74 Q (iI s) g M) ∧
    (t.1 = 3 → ∀ M Q, XM B n r t M → (∀ M', F2 M M' → XM B n r' t' M' → Q M') → wpX4_readWhole M (iI 0) (iI 999) (fun x M' => wpX4_pushed M' (iI s) x (fun M'' => ∃ m, wX4_readPush_74 Q (iI s) m M''))) := by
  have hn := hB.1
  intro f
  induction f with
  | zero => intro r t p hf; omega
  | succ f ih =>
    intro r t p hf hK hT hs h2 h3
    have hK5 := hK.2.2.2.2.1
    have hk1 := hT.1
    by_cases k3 : t.1 = 3
    · have h3' := h3 k3
      have tt := hT.2.2.2.2.2.1 k3
      have tb := hT.2.2.2.1 (by omega)
      have hrn : rn r < 200 := by omega
      obtain ⟨t1, T1, C1, M1⟩ := sim_step hB (hT.bn (by omega))
      have tp := T1.2.1
      have t13 : t1.1 = 3 → t.2.2.1 + 1 ≤ t1.2.1 := fun z => by
        have z1 := T1.2.2.2.2.2.1 z
        have z2 := T1.2.2.2.1 (by omega)
        rcases Nat.lt_or_ge t.2.2.1 t1.2.1 with q | q
        · exact q
        · have e : t1.2.1 = t.2.2.1 := by omega
          have z3 := tt.2.2.1 (by omega)
          rw [e] at z1
          exact absurd z1.2.1 z3
      obtain ⟨r', t', K', T', n', c', m', -⟩ := ih (rP r s t.2.2.2) t1 t.2.2.1 (by omega) (hK.p hs hrn tt.2.2.2) T1 hs (by show 2 * (rn r + 1) ≤ t1.2.1; omega) (fun z => by
        have := t13 z
        show 2 * (rn r + 1) + 1 ≤ t1.2.1
        omega)
      have hW : ∀ M Q, XM B n r t M → (∀ M', F2 M M' → XM B n r' t' M' → Q M') → ∀ g, f < g → wpX4_readWhole M (iI 0) (iI 999) (fun x M' => wpX4_pushed M' (iI s) x (fun M'' => wX4_readPush_74 Q (iI s) g M'')) := by
        intro M Q hX hQ g hg
        rw [m_readWhole_y hT hX.2.2 k3 tt.2.2.2 (by omega)]
        refine XM.st hX (by omega) M1 (fun Ma fa xa => ?_)
        rw [m_pushed xa.1 xa.2.1 hrn]
        exact m' _ Q g hg xa.ph (fun M' fb xb => hQ M' ((((fa.p (by omega)).p (by omega)).p (by omega)).t fb) xb)
      refine ⟨r', t', K', ⟨T'.1, by have := T'.2.1; omega, T'.2.2⟩, n', fun M Q i g hg hi hX hQ => ?_, fun M Q g hg hX hQ => ?_, fun _ M Q hX hQ => ?_⟩
      · obtain ⟨g, rfl⟩ : ∃ g', g = g' + 1 := ⟨g - 1, by omega⟩
        have e3 := hX.2.2.1.1
        rw [k3] at e3
        simp only [wX2_readPush_70]
        simp (disch := omega) only [iI_lit, iI_neg, iI_add, iI_sub, iI_mul, iI_lt, iI_le, iI_eq, iI_in, iI_clamp, iI_mx, iI_mn, iI_nI, Int.toNat_natCast, forall_eq, br_1, br_2, br_3, br_4, br_in, br_5, br_6, br_7, br_8, ex_c, br_nl, br_le, br_ne, gp_1, gp_2, gp_3, gf_1, gf_2, e3, hX.2.2.1.2.2.2.2 k3, e_keep hX.2.1 hrn]
        refine XC.st hX.ph (by omega) C1 (fun Ma fa xa => ?_)
        exact c' Ma Q (i + 1) g (by omega) (by show i + 1 ≤ rn r + 1; omega) xa (fun M' fb xb => hQ M' (((((F1.r _).p (by omega)).p (by omega)).p (by omega)).t (fa.t fb)) xb)
      · obtain ⟨g, rfl⟩ : ∃ g', g = g' + 1 := ⟨g - 1, by omega⟩
        have e3 := hX.2.2.1
        rw [k3] at e3
        have e3' : gI M 200 7 = iI 3 := e3
        simp only [wX4_readPush_74]
        simp (disch := omega) only [iI_lit, iI_neg, iI_add, iI_sub, iI_mul, iI_lt, iI_le, iI_eq, iI_in, iI_clamp, iI_mx, iI_mn, iI_nI, Int.toNat_natCast, forall_eq, br_1, br_2, br_3, br_4, br_in, br_5, br_6, br_7, br_8, ex_c, br_nl, br_le, br_ne, gp_1, gp_2, gp_3, gf_1, gf_2, hX.1.2.1, e3']
        exact hW M Q hX hQ g (by omega)
      · rw [m_readWhole_y hT hX.2.2 k3 tt.2.2.2 (by omega)]
        refine XM.st hX (by omega) M1 (fun Ma fa xa => ?_)
        rw [m_pushed xa.1 xa.2.1 hrn]
        exact ⟨f + 1, m' _ Q (f + 1) (by omega) xa.ph (fun M' fb xb => hQ M' ((((fa.p (by omega)).p (by omega)).p (by omega)).t fb) xb)⟩
    · refine ⟨r, t, hK, ⟨hT.1, Nat.le_refl _, hT.2.2⟩, h2, fun M Q i g hg hi hX hQ => ?_, fun M Q g hg hX hQ => ?_, fun z => absurd z k3⟩
      · obtain ⟨g, rfl⟩ : ∃ g', g = g' + 1 := ⟨g - 1, by omega⟩
        have e3 := hX.2.2.1.1
        have := hQ M (F1.r _) hX
        simp only [wX2_readPush_70]
        by_cases c : 200 ≤ i
        · simp (disch := omega) only [iI_lit, iI_neg, iI_add, iI_sub, iI_mul, iI_lt, iI_le, iI_eq, iI_in, iI_clamp, iI_mx, iI_mn, iI_nI, Int.toNat_natCast, forall_eq, br_1, br_2, br_3, br_4, br_in, br_5, br_6, br_7, br_8, ex_c, br_nl, br_le, br_ne, gp_1, gp_2, gp_3, gf_1, gf_2, e3]
          exact this
        · simp (disch := omega) only [iI_lit, iI_neg, iI_add, iI_sub, iI_mul, iI_lt, iI_le, iI_eq, iI_in, iI_clamp, iI_mx, iI_mn, iI_nI, Int.toNat_natCast, forall_eq, br_1, br_2, br_3, br_4, br_in, br_5, br_6, br_7, br_8, ex_c, br_nl, br_le, br_ne, gp_1, gp_2, gp_3, gf_1, gf_2, e3]
          exact this
      · obtain ⟨g, rfl⟩ : ∃ g', g = g' + 1 := ⟨g - 1, by omega⟩
        have e3 := hX.2.2.1
        have kb := km_b t.1 hT.1
        have c2 : ¬ km t.1 = 3 := fun z => k3 (kb.2.2.2.1.mp z)
        simp only [wX4_readPush_74]
        simp (disch := omega) only [iI_lit, iI_neg, iI_add, iI_sub, iI_mul, iI_lt, iI_le, iI_eq, iI_in, iI_clamp, iI_mx, iI_mn, iI_nI, Int.toNat_natCast, forall_eq, br_1, br_2, br_3, br_4, br_in, br_5, br_6, br_7, br_8, ex_c, br_nl, br_le, br_ne, gp_1, gp_2, gp_3, gf_1, gf_2, hX.1.2.1, e3]
        exact hQ M (F2.r _) hX
