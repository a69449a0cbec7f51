/-! words and names -/
def slv (v i : Nat) : Int := (sch v i).toInt
theorem slv_ok : ∀ v, v < 10 → (slB v).length ≤ 6 ∧ ∀ i, i < (slB v).length → 97 ≤ (sch v i).toInt ∧ (sch v i).toInt ≤ 122 := by decide +kernel
theorem sch_iI (v i : Nat) : sch v i = iI (slv v i) := (iI_ti _).symm
theorem tn_3 (a b : Nat) : ((a : Int) + (b : Int)).toNat = a + b := by omega
def isW (B : Nat → Int) (t : Tk) (v : Nat) : Prop := t.1 = 2 ∧ t.2.2.1 - t.2.1 = (slB v).length ∧ ∀ i, i < (slB v).length → B (t.2.1 + i) = slv v i
def mtc (B : Nat → Int) (q v : Nat) : Nat → Nat → Bool
  | 0, _ => true
  | f + 1, i => decide (B (q + i) = slv v i) && mtc B q v f (i + 1)
theorem mtc_iff {B : Nat → Int} {q v : Nat} : ∀ f i, mtc B q v f i = true ↔ ∀ k, i ≤ k → k < i + f → B (q + k) = slv v k := by
  intro f
  induction f with
  | zero => intro i; exact ⟨fun _ k h1 h2 => by omega, fun _ => rfl⟩
  | succ f ih =>
    intro i
    rw [mtc, Bool.and_eq_true, decide_eq_true_eq, ih]
    refine ⟨fun h k h1 h2 => ?_, fun h => ⟨h i (by omega) (by omega), fun k h1 h2 => h k (by omega) (by omega)⟩⟩
    by_cases c : k = i
    · rw [c]
      exact h.1
    · exact h.2 k (by omega) (by omega)
theorem l_isWord {B : Nat → Int} {n q v : Nat} {M : Mem} {Q : Qi} (hB : BI B n) (hb : BC B n M) (hv : v < 10) (h4 : gI M 1 4 = iI q) (hq : q + (slB v).length ≤ n) : ∀ f i, (slB v).length - i = f → i ≤ (slB v).length → (∃ m, wX2_isWord_28 Q v m M (iI (i : Nat))) = Q (iI (if mtc B q v f i = true then 1 else 0)) M := by
  have hn := hB.1
  have hs := slv_ok v hv
  intro f
  induction f with
  | zero =>
    intro i hf hi
    rw [ex_s rfl]
    simp only [wX2_isWord_28]
    rw [show mtc B q v 0 i = true from rfl, if_pos rfl]
    simp (disch := omega) only [iI_lit, iI_neg, iI_add, iI_sub, iI_mul, iI_lt, iI_le, iI_eq, iI_in, iI_clamp, iI_mx, iI_mn, iI_nI, Int.toNat_natCast, forall_eq, br_1, br_2, br_3, br_4, br_in, br_5, br_6, br_7, br_8, ex_c, br_nl, br_le, br_ne, gp_1, gp_2, gp_3, gf_1, gf_2]
  | succ f ih =>
    intro i hf hi
    have hx := hs.2 i (by omega)
    have hx' : 97 ≤ slv v i ∧ slv v i ≤ 122 := hx
    have hbq := hB.2 (q + i) (by omega)
    have hg := hb.2 (q + i) (by omega)
    rw [ex_s rfl]
    simp only [wX2_isWord_28]
    rw [mtc]
    by_cases c : B (q + i) = slv v i
    · have := ih (i + 1) (by omega) (by omega)
      rw [decide_eq_true c, Bool.true_and, ← this]
      simp (disch := omega) only [iI_lit, iI_neg, iI_add, iI_sub, iI_mul, iI_lt, iI_le, iI_eq, iI_in, iI_clamp, iI_mx, iI_mn, iI_nI, Int.toNat_natCast, forall_eq, br_1, br_2, br_3, br_4, br_in, br_5, br_6, br_7, br_8, ex_c, br_nl, br_le, br_ne, gp_1, gp_2, gp_3, gf_1, gf_2, h4, tn_3, hg, sch_iI, c]
      rfl
    · rw [decide_eq_false c, Bool.false_and]
      simp (disch := omega) only [iI_lit, iI_neg, iI_add, iI_sub, iI_mul, iI_lt, iI_le, iI_eq, iI_in, iI_clamp, iI_mx, iI_mn, iI_nI, Int.toNat_natCast, forall_eq, br_1, br_2, br_3, br_4, br_in, br_5, br_6, br_7, br_8, ex_c, br_nl, br_le, br_ne, gp_1, gp_2, gp_3, gf_1, gf_2, h4, tn_3, hg, sch_iI]
      rfl
theorem e_isWord_y {B : Nat → Int} {n p v : Nat} {t : Tk} {M : Mem} {Q : Qi} (hB : BI B n) (hb : BC B n M) (hT : TI B n p t) (ht : TC B t M) (hv : v < 10) (h : isW B t v) : wpX2_isWord M v Q = Q (iI 1) M := by
  have hn := hB.1
  have hs := slv_ok v hv
  obtain ⟨h1, h2, h3⟩ := h
  have t2 := hT.2.2.2.2.1 h1
  have t3 := hT.2.2.2.1 (by omega)
  have k3 := ht.1
  rw [h1] at k3
  have k4 := ht.2.1
  have k5 := ht.2.2.1 (by omega)
  have hl := l_isWord (Q := Q) hB hb hv k4 (by omega) (slB v).length 0 rfl (by omega)
  rw [(mtc_iff _ 0).mpr (fun k _ h => h3 k (by omega)), if_pos rfl, Int.natCast_zero] at hl
  unfold wpX2_isWord
  have e2 : (t.2.2.1 : Int) - t.2.1 = (slB v).length := by omega
  simp (disch := omega) only [iI_lit, iI_neg, iI_add, iI_sub, iI_mul, iI_lt, iI_le, iI_eq, iI_in, iI_clamp, iI_mx, iI_mn, iI_nI, Int.toNat_natCast, forall_eq, br_1, br_2, br_3, br_4, br_in, br_5, br_6, br_7, br_8, ex_c, br_nl, br_le, br_ne, gp_1, gp_2, gp_3, gf_1, gf_2, k3, k4, k5, e2, hl]
theorem e_isWord_n {B : Nat → Int} {n p v : Nat} {t : Tk} {M : Mem} {Q : Qi} (hB : BI B n) (hb : BC B n M) (hT : TI B n p t) (ht : TC B t M) (hv : v < 10) (h : ¬ isW B t v) : wpX2_isWord M v Q = Q (iI 0) M := by
  have hn := hB.1
  have hs := slv_ok v hv
  have k1 := hT.1
  have k3 := ht.1
  have k4 := ht.2.1
  unfold wpX2_isWord
  by_cases c1 : t.1 = 2
  · have t2 := hT.2.2.2.2.1 c1
    have t3 := hT.2.2.2.1 (by omega)
    have k5 := ht.2.2.1 (by omega)
    rw [c1] at k3
    by_cases c2 : t.2.2.1 - t.2.1 = (slB v).length
    · have hl := l_isWord (Q := Q) hB hb hv k4 (by omega) (slB v).length 0 rfl (by omega)
      have c3 : ¬ mtc B t.2.1 v (slB v).length 0 = true := fun z => h ⟨c1, c2, fun i hi => (mtc_iff _ 0).mp z i (by omega) (by omega)⟩
      rw [if_neg c3, Int.natCast_zero] at hl
      have e2 : (t.2.2.1 : Int) - t.2.1 = (slB v).length := by omega
      simp (disch := omega) only [iI_lit, iI_neg, iI_add, iI_sub, iI_mul, iI_lt, iI_le, iI_eq, iI_in, iI_clamp, iI_mx, iI_mn, iI_nI, Int.toNat_natCast, forall_eq, br_1, br_2, br_3, br_4, br_in, br_5, br_6, br_7, br_8, ex_c, br_nl, br_le, br_ne, gp_1, gp_2, gp_3, gf_1, gf_2, k3, k4, k5, e2, hl]
    · have e2 : ¬ (t.2.2.1 : Int) - t.2.1 = (slB v).length := by omega
      simp (disch := omega) only [iI_lit, iI_neg, iI_add, iI_sub, iI_mul, iI_lt, iI_le, iI_eq, iI_in, iI_clamp, iI_mx, iI_mn, iI_nI, Int.toNat_natCast, forall_eq, br_1, br_2, br_3, br_4, br_in, br_5, br_6, br_7, br_8, ex_c, br_nl, br_le, br_ne, gp_1, gp_2, gp_3, gf_1, gf_2, k3, k4, k5]
  · simp (disch := omega) only [iI_lit, iI_neg, iI_add, iI_sub, iI_mul, iI_lt, iI_le, iI_eq, iI_in, iI_clamp, iI_mx, iI_mn, iI_nI, Int.toNat_natCast, forall_eq, br_1, br_2, br_3, br_4, br_in, br_5, br_6, br_7, br_8, ex_c, br_nl, br_le, br_ne, gp_1, gp_2, gp_3, gf_1, gf_2, k3]
theorem lgc {x y : Int64} : (lg_cmp x y = iI 0) = (x = y) := propext (lg_cmp_eq x y)
theorem l_misWord {M : Mem} {Q : Qi} {v : Nat} (hv : v < 10) : ∀ f i, (slB v).length - i = f → i ≤ (slB v).length → (∃ m, wX4_isWord_5 Q v m M (iL (fo 256 0 (slv v) 0 i)) (iI (i : Nat))) = ((¬ gI M 200 7 = iI 2 → Q (iI 0) M) ∧ (gI M 200 7 = iI 2 → ((¬ gL M 200 11 = iL (fo 256 0 (slv v) 0 (slB v).length) → Q (iI 0) M) ∧ (gL M 200 11 = iL (fo 256 0 (slv v) 0 (slB v).length) → Q (iI 1) M)))) := by
  have hs := slv_ok v hv
  intro f
  induction f with
  | zero =>
    intro i hf hi
    have e : i = (slB v).length := by omega
    rw [ex_s rfl, e]
    simp only [wX4_isWord_5]
    simp (disch := omega) only [iI_lit, iI_neg, iI_add, iI_sub, iI_mul, iI_lt, iI_le, iI_eq, iI_in, iI_clamp, iI_mx, iI_mn, iI_nI, Int.toNat_natCast, forall_eq, br_1, br_2, br_3, br_4, br_in, br_5, br_6, br_7, br_8, ex_c, br_nl, br_le, br_ne, gp_1, gp_2, gp_3, gf_1, gf_2, lgc]
  | succ f ih =>
    intro i hf hi
    have hx := hs.2 i (by omega)
    have hx' : 97 ≤ slv v i ∧ slv v i ≤ 122 := hx
    have hl : lt (slv v) 0 i := fun j hj => by
      rw [Nat.zero_add]
      exact hs.2 j (by omega)
    have fb := fo256_b hl (by omega)
    have fb2 := fb.2.2 (by omega)
    have ef : fo 256 0 (slv v) 0 (i + 1) = fo 256 0 (slv v) 0 i * 256 + slv v i := by
      rw [fo, Nat.zero_add]
      omega
    have := ih (i + 1) (by omega) (by omega)
    rw [ex_s rfl]
    simp only [wX4_isWord_5]
    rw [← this, ef]
    simp (disch := omega) only [iI_lit, iI_neg, iI_add, iI_sub, iI_mul, iI_lt, iI_le, iI_eq, iI_in, iI_clamp, iI_mx, iI_mn, iI_nI, Int.toNat_natCast, forall_eq, br_1, br_2, br_3, br_4, br_in, br_5, br_6, br_7, br_8, ex_c, br_nl, br_le, br_ne, gp_1, gp_2, gp_3, gf_1, gf_2, sch_iI, iL_sh]
    rfl
theorem m_isWord_0 {M : Mem} {Q : Qi} {v : Nat} (hv : v < 10) : wpX4_isWord M v Q = ((¬ gI M 200 7 = iI 2 → Q (iI 0) M) ∧ (gI M 200 7 = iI 2 → ((¬ gL M 200 11 = iL (fo 256 0 (slv v) 0 (slB v).length) → Q (iI 0) M) ∧ (gL M 200 11 = iL (fo 256 0 (slv v) 0 (slB v).length) → Q (iI 1) M)))) := by
  rw [← l_misWord hv (slB v).length 0 rfl (by omega)]
  rfl
theorem m_isWord_y {B : Nat → Int} {n p v : Nat} {t : Tk} {M : Mem} {Q : Qi} (hT : TI B n p t) (ht : TM B t M) (hv : v < 10) (h : isW B t v) : wpX4_isWord M v Q = Q (iI 1) M := by
  have hs := slv_ok v hv
  obtain ⟨h1, h2, h3⟩ := h
  have k7 := ht.1
  rw [h1] at k7
  have k7' : gI M 200 7 = iI 2 := k7
  have k11 := ht.2.2.2.1 h1
  rw [h2, fo_cg (B' := slv v) (q' := 0) _ (fun i hi => by rw [Nat.zero_add]; exact h3 i hi)] at k11
  rw [m_isWord_0 hv, br_4 k7', br_4 k11]
theorem km_b (k : Nat) (h : k ≤ 4) : 0 ≤ km k ∧ km k ≤ 4 ∧ (km k = 2 ↔ k = 2) ∧ (km k = 3 ↔ k = 3) ∧ (km k = 4 ↔ k = 4) ∧ (km k = 1 ↔ k = 0) ∧ (km k = 0 ↔ k = 1) := by
  rcases (show k = 0 ∨ k = 1 ∨ k = 2 ∨ k = 3 ∨ k = 4 by omega) with rfl | rfl | rfl | rfl | rfl <;> decide
theorem m_isWord_n {B : Nat → Int} {n p v : Nat} {t : Tk} {M : Mem} {Q : Qi} (hT : TI B n p t) (ht : TM B t M) (hv : v < 10) (h : ¬ isW B t v) : wpX4_isWord M v Q = Q (iI 0) M := by
  have hs := slv_ok v hv
  have k7 := ht.1
  have kb := km_b t.1 hT.1
  rw [m_isWord_0 hv, k7, iI_eq (by omega) (by omega)]
  by_cases c1 : t.1 = 2
  · have c2 : km t.1 = 2 := kb.2.2.1.mpr c1
    have t2 := hT.2.2.2.2.1 c1
    have k11 := ht.2.2.2.1 c1
    have hl : lt (slv v) 0 (slB v).length := fun j hj => by
      rw [Nat.zero_add]
      exact hs.2 j (by omega)
    have f1 := fo256_b t2.2.2 (by omega)
    have f2 := fo256_b hl (by omega)
    rw [br_4 c2, k11, iL_eq (by omega) (by omega)]
    refine br_3 (fun z => h ⟨c1, ?_⟩)
    have := ((fo_same t2.2.2 hl).2.mp z)
    refine ⟨this.1, fun i hi => ?_⟩
    have h4 := this.2 i (by omega)
    rw [Nat.zero_add] at h4
    exact h4
  · have c2 : ¬ km t.1 = 2 := fun z => c1 (kb.2.2.1.mp z)
    exact br_3 c2
def isN (B : Nat → Int) (t : Tk) : Prop := t.1 = 2 ∧ ¬ isW B t 0 ∧ ¬ isW B t 1 ∧ ¬ isW B t 2
theorem e_isName_y {B : Nat → Int} {n p : Nat} {t : Tk} {M : Mem} {Q : Qi} (hB : BI B n) (hb : BC B n M) (hT : TI B n p t) (ht : TC B t M) (h : isN B t) : wpX2_isName M Q = Q (iI 1) M := by
  have k3 := ht.1
  rw [h.1] at k3
  unfold wpX2_isName
  simp (disch := omega) only [iI_lit, iI_neg, iI_add, iI_sub, iI_mul, iI_lt, iI_le, iI_eq, iI_in, iI_clamp, iI_mx, iI_mn, iI_nI, Int.toNat_natCast, forall_eq, br_1, br_2, br_3, br_4, br_in, br_5, br_6, br_7, br_8, ex_c, br_nl, br_le, br_ne, gp_1, gp_2, gp_3, gf_1, gf_2, k3, e_isWord_n hB hb hT ht (show 0 < 10 by omega) h.2.1, e_isWord_n hB hb hT ht (show 1 < 10 by omega) h.2.2.1, e_isWord_n hB hb hT ht (show 2 < 10 by omega) h.2.2.2]
theorem e_isName_n {B : Nat → Int} {n p : Nat} {t : Tk} {M : Mem} {Q : Qi} (hB : BI B n) (hb : BC B n M) (hT : TI B n p t) (ht : TC B t M) (h : ¬ isN B t) : wpX2_isName M Q = Q (iI 0) M := by
  have k3 := ht.1
  have k1 := hT.1
  unfold wpX2_isName
  by_cases c : t.1 = 2
  · rw [c] at k3
    by_cases w0 : isW B t 0
    · simp (disch := omega) only [iI_lit, iI_neg, iI_add, iI_sub, iI_mul, iI_lt, iI_le, iI_eq, iI_in, iI_clamp, iI_mx, iI_mn, iI_nI, Int.toNat_natCast, forall_eq, br_1, br_2, br_3, br_4, br_in, br_5, br_6, br_7, br_8, ex_c, br_nl, br_le, br_ne, gp_1, gp_2, gp_3, gf_1, gf_2, k3, e_isWord_y hB hb hT ht (show 0 < 10 by omega) w0]
    · by_cases w1 : isW B t 1
      · simp (disch := omega) only [iI_lit, iI_neg, iI_add, iI_sub, iI_mul, iI_lt, iI_le, iI_eq, iI_in, iI_clamp, iI_mx, iI_mn, iI_nI, Int.toNat_natCast, forall_eq, br_1, br_2, br_3, br_4, br_in, br_5, br_6, br_7, br_8, ex_c, br_nl, br_le, br_ne, gp_1, gp_2, gp_3, gf_1, gf_2, k3, e_isWord_n hB hb hT ht (show 0 < 10 by omega) w0, e_isWord_y hB hb hT ht (show 1 < 10 by omega) w1]
      · by_cases w2 : isW B t 2
        · simp (disch := omega) only [iI_lit, iI_neg, iI_add, iI_sub, iI_mul, iI_lt, iI_le, iI_eq, iI_in, iI_clamp, iI_mx, iI_mn, iI_nI, Int.toNat_natCast, forall_eq, br_1, br_2, br_3, br_4, br_in, br_5, br_6, br_7, br_8, ex_c, br_nl, br_le, br_ne, gp_1, gp_2, gp_3, gf_1, gf_2, k3, e_isWord_n hB hb hT ht (show 0 < 10 by omega) w0, e_isWord_n hB hb hT ht (show 1 < 10 by omega) w1, e_isWord_y hB hb hT ht (show 2 < 10 by omega) w2]
        · exact absurd ⟨c, w0, w1, w2⟩ h
  · simp (disch := omega) only [iI_lit, iI_neg, iI_add, iI_sub, iI_mul, iI_lt, iI_le, iI_eq, iI_in, iI_clamp, iI_mx, iI_mn, iI_nI, Int.toNat_natCast, forall_eq, br_1, br_2, br_3, br_4, br_in, br_5, br_6, br_7, br_8, ex_c, br_nl, br_le, br_ne, gp_1, gp_2, gp_3, gf_1, gf_2, k3]
theorem isW_5 {B : Nat → Int} {t : Tk} {v : Nat} (hv : v < 5) : isW B t (v + 5) = isW B t v := by
  rcases (show v = 0 ∨ v = 1 ∨ v = 2 ∨ v = 3 ∨ v = 4 by omega) with rfl | rfl | rfl | rfl | rfl <;> rfl
theorem m_needsName_y {B : Nat → Int} {n p : Nat} {t : Tk} {M : Mem} {Q : Mem → Prop} (hT : TI B n p t) (ht : TM B t M) (h : isN B t) : wpX4_needsName M Q = Q M := by
  have k7 := ht.1
  rw [h.1] at k7
  have k7' : gI M 200 7 = iI 2 := k7
  unfold wpX4_needsName
  simp (disch := omega) only [iI_lit, iI_neg, iI_add, iI_sub, iI_mul, iI_lt, iI_le, iI_eq, iI_in, iI_clamp, iI_mx, iI_mn, iI_nI, Int.toNat_natCast, forall_eq, br_1, br_2, br_3, br_4, br_in, br_5, br_6, br_7, br_8, ex_c, br_nl, br_le, br_ne, gp_1, gp_2, gp_3, gf_1, gf_2, k7', m_isWord_n hT ht (show 5 < 10 by omega) (by rw [isW_5 (v := 0) (by omega)]; exact h.2.1), m_isWord_n hT ht (show 6 < 10 by omega) (by rw [isW_5 (v := 1) (by omega)]; exact h.2.2.1), m_isWord_n hT ht (show 7 < 10 by omega) (by rw [isW_5 (v := 2) (by omega)]; exact h.2.2.2)]
theorem m_needsName_n {B : Nat → Int} {n p : Nat} {t : Tk} {M : Mem} {Q : Mem → Prop} (hT : TI B n p t) (ht : TM B t M) (h : ¬ isN B t) : wpX4_needsName M Q = wpX4_flaw M (iI 1) Q := by
  have k7 := ht.1
  have kb := km_b t.1 hT.1
  unfold wpX4_needsName
  by_cases c : t.1 = 2
  · rw [c] at k7
    have k7' : gI M 200 7 = iI 2 := k7
    by_cases w0 : isW B t 0
    · simp (disch := omega) only [iI_lit, iI_neg, iI_add, iI_sub, iI_mul, iI_lt, iI_le, iI_eq, iI_in, iI_clamp, iI_mx, iI_mn, iI_nI, Int.toNat_natCast, forall_eq, br_1, br_2, br_3, br_4, br_in, br_5, br_6, br_7, br_8, ex_c, br_nl, br_le, br_ne, gp_1, gp_2, gp_3, gf_1, gf_2, k7', m_isWord_y hT ht (show 5 < 10 by omega) (by rw [isW_5 (v := 0) (by omega)]; exact w0)]
    · by_cases w1 : isW B t 1
      · simp (disch := omega) only [iI_lit, iI_neg, iI_add, iI_sub, iI_mul, iI_lt, iI_le, iI_eq, iI_in, iI_clamp, iI_mx, iI_mn, iI_nI, Int.toNat_natCast, forall_eq, br_1, br_2, br_3, br_4, br_in, br_5, br_6, br_7, br_8, ex_c, br_nl, br_le, br_ne, gp_1, gp_2, gp_3, gf_1, gf_2, k7', m_isWord_n hT ht (show 5 < 10 by omega) (by rw [isW_5 (v := 0) (by omega)]; exact w0), m_isWord_y hT ht (show 6 < 10 by omega) (by rw [isW_5 (v := 1) (by omega)]; exact w1)]
      · by_cases w2 : isW B t 2
        · simp (disch := omega) only [iI_lit, iI_neg, iI_add, iI_sub, iI_mul, iI_lt, iI_le, iI_eq, iI_in, iI_clamp, iI_mx, iI_mn, iI_nI, Int.toNat_natCast, forall_eq, br_1, br_2, br_3, br_4, br_in, br_5, br_6, br_7, br_8, ex_c, br_nl, br_le, br_ne, gp_1, gp_2, gp_3, gf_1, gf_2, k7', m_isWord_n hT ht (show 5 < 10 by omega) (by rw [isW_5 (v := 0) (by omega)]; exact w0), m_isWord_n hT ht (show 6 < 10 by omega) (by rw [isW_5 (v := 1) (by omega)]; exact w1), m_isWord_y hT ht (show 7 < 10 by omega) (by rw [isW_5 (v := 2) (by omega)]; exact w2)]
        · exact absurd ⟨c, w0, w1, w2⟩ h
  · have c2 : ¬ km t.1 = 2 := fun z => c (kb.2.2.1.mp z)
    simp (disch := omega) only [iI_lit, iI_neg, iI_add, iI_sub, iI_mul, iI_lt, iI_le, iI_eq, iI_in, iI_clamp, iI_mx, iI_mn, iI_nI, Int.toNat_natCast, forall_eq, br_1, br_2, br_3, br_4, br_in, br_5, br_6, br_7, br_8, ex_c, br_nl, br_le, br_ne, gp_1, gp_2, gp_3, gf_1, gf_2, k7]
