theorem tdiv_b {a b : Int} (hb : 0 < b) (ha : -2147483647 ≤ a ∧ a ≤ 2147483647) : -2147483647 ≤ a.tdiv b ∧ a.tdiv b ≤ 2147483647 := by
  have key : ∀ c : Int, 0 ≤ c → c ≤ 2147483647 → 0 ≤ c.tdiv b ∧ c.tdiv b ≤ 2147483647 := by
    intro c h0 h1
    rw [Int.tdiv_eq_ediv_of_nonneg h0]
    have := Int.ediv_nonneg h0 (show 0 ≤ b by omega)
    have := Int.ediv_le_self b h0
    omega
  by_cases c : 0 ≤ a
  · have := key a c ha.2
    omega
  · have h2 := key (-a) (by omega) (by omega)
    rw [Int.neg_tdiv] at h2
    omega
theorem iI_tdiv {a b : Int} (ha : -2147483647 ≤ a ∧ a ≤ 2147483647) (hb : 0 < b ∧ b < 2147483648) : iI a / iI b = iI (a.tdiv b) := by
  apply Int32.toInt_inj.mp
  have h1 : (iI a).toInt = a := iI_toInt ⟨by omega, by omega⟩
  have h2 : (iI b).toInt = b := iI_toInt ⟨by omega, hb.2⟩
  rw [Int32.toInt_div_of_ne_right _ _ (fun h => by
    have := congrArg Int32.toInt h
    rw [h2] at this
    have h3 : (-1 : Int32).toInt = -1 := by decide
    rw [h3] at this
    omega), h1, h2]
  have := tdiv_b hb.1 ha
  rw [iI_toInt ⟨by omega, by omega⟩]
/-- hundredths by which the first surely has more up to w -/
def hda (v1 l1 v2 l2 d2 : Nat → Int) (n1 n2 : Nat) (N1 N2 : Nat) (w : Int) : Int := (100 * (sur v1 l1 n1 w * N2 - mst v2 l2 d2 n2 w * N1)).tdiv (N1 * N2)
theorem hda_a {N1 N2 n1 n2 : Nat} {v1 l1 d1 v2 l2 d2 : Nat → Int} (hR : RI N1 n1 v1 l1 d1) (hS : RI N2 n2 v2 l2 d2) (p1 : 0 < N1) (p2 : 0 < N2) (w : Int) : 0 ≤ sur v1 l1 n1 w * N2 ∧ sur v1 l1 n1 w * N2 ≤ 1000000 ∧ 0 ≤ mst v2 l2 d2 n2 w * N1 ∧ mst v2 l2 d2 n2 w * N1 ≤ 1000000 ∧ 0 < (N1 : Int) * N2 ∧ (N1 : Int) * N2 ≤ 1000000 := by
  have a1 := sur_b hR w
  have a2 := mst_b hS w
  have h1 := hR.1
  have h2 := hS.1
  have b1 : 0 ≤ sur v1 l1 n1 w * N2 := Int.mul_nonneg a1.1 (by omega)
  have b2 : sur v1 l1 n1 w * N2 ≤ 1000 * N2 := Int.mul_le_mul_of_nonneg_right (by omega) (by omega)
  have b3 : 0 ≤ mst v2 l2 d2 n2 w * N1 := Int.mul_nonneg a2.1 (by omega)
  have b4 : mst v2 l2 d2 n2 w * N1 ≤ 1000 * N1 := Int.mul_le_mul_of_nonneg_right (by omega) (by omega)
  have b5 : 0 < (N1 : Int) * N2 := Int.mul_pos (by omega) (by omega)
  have b6 : (N1 : Int) * N2 ≤ 1000 * N2 := Int.mul_le_mul_of_nonneg_right (by omega) (by omega)
  omega
theorem hda_b {N1 N2 n1 n2 : Nat} {v1 l1 d1 v2 l2 d2 : Nat → Int} (hR : RI N1 n1 v1 l1 d1) (hS : RI N2 n2 v2 l2 d2) (p1 : 0 < N1) (p2 : 0 < N2) (w : Int) : -2147483647 ≤ hda v1 l1 v2 l2 d2 n1 n2 N1 N2 w ∧ hda v1 l1 v2 l2 d2 n1 n2 N1 N2 w ≤ 2147483647 := by
  have := hda_a hR hS p1 p2 w
  exact tdiv_b (by omega) (by omega)
theorem e_hundredths {M : Mem} {Q : Qi} {b1 b2 n1 n2 N1 N2 : Nat} {v1 l1 d1 v2 l2 d2 : Nat → Int} (h1 : CR M b1 n1 v1 l1 d1) (h2 : CR M b2 n2 v2 l2 d2) (hR : RI N1 n1 v1 l1 d1) (hS : RI N2 n2 v2 l2 d2) (p1 : 0 < N1) (p2 : 0 < N2) {w : Int} (hw : 0 ≤ w ∧ w < 1000) : wpX3_hundredthsApart M b1 b2 (iI w) Q = Q (iI (hda v1 l1 v2 l2 d2 n1 n2 N1 N2 w)) M := by
  have hN1 := hR.1
  have hn1 := hR.2.1
  have hN2 := hS.1
  have hn2 := hS.2.1
  have := hda_a hR hS p1 p2 w
  unfold wpX3_hundredthsApart hda
  simp (disch := omega) only [iI_lit, iI_neg, iI_add, iI_sub, iI_mul, iI_lt, iI_le, iI_eq, iI_in, iI_clamp, iI_mx, iI_mn, iI_nI, Int.toNat_natCast, forall_eq, br_1, br_2, br_3, br_4, br_in, br_5, br_6, br_7, br_8, ex_c, br_nl, br_le, br_ne, gp_1, gp_2, gp_3, gf_1, gf_2, e_places h1 (show n1 ≤ 1000 by omega), e_places h2 (show n2 ≤ 1000 by omega), hR.lpn, hS.lpn, e_sureUpTo h1 hR, e_mostUpTo h2 hS, iI_tdiv]
/-- greatest, over values -/
theorem l_apartOver {M : Mem} {Q : Qi} {b b1 b2 n N n1 n2 N1 N2 : Nat} {v l d v1 l1 d1 v2 l2 d2 : Nat → Int} (h : CR M b n v l d) (h1 : CR M b1 n1 v1 l1 d1) (h2 : CR M b2 n2 v2 l2 d2) (hV : RI N n v l d) (hR : RI N1 n1 v1 l1 d1) (hS : RI N2 n2 v2 l2 d2) (p1 : 0 < N1) (p2 : 0 < N2) : ∀ f i, n - i = f → i ≤ n → (∃ m, wX3_apartOver_5 Q b b1 b2 m M (iI (fmx (fun r => mx (hda v1 l1 v2 l2 d2 n1 n2 N1 N2 (v (r - 1))) (hda v2 l2 v1 l1 d1 n2 n1 N2 N1 (v (r - 1)))) 0 i)) (iI (i : Nat))) = Q (iI (fmx (fun r => mx (hda v1 l1 v2 l2 d2 n1 n2 N1 N2 (v (r - 1))) (hda v2 l2 v1 l1 d1 n2 n1 N2 N1 (v (r - 1)))) 0 n)) M := by
  have hn := Nat.le_trans hV.2.1 hV.1
  have hb : ∀ r, mx (hda v1 l1 v2 l2 d2 n1 n2 N1 N2 (v (r - 1))) (hda v2 l2 v1 l1 d1 n2 n1 N2 N1 (v (r - 1))) ≤ 2147483647 := by
    intro r
    have a := hda_b hR hS p1 p2 (v (r - 1))
    have b := hda_b hS hR p2 p1 (v (r - 1))
    unfold mx
    split <;> omega
  intro f
  induction f with
  | zero =>
    intro i hf hi
    have e : i = n := by omega
    subst e
    rw [ex_s rfl]
    simp only [wX3_apartOver_5]
    simp (disch := omega) only [iI_lit, iI_neg, iI_add, iI_sub, iI_mul, iI_lt, iI_le, iI_eq, iI_in, iI_clamp, iI_mx, iI_mn, iI_nI, Int.toNat_natCast, forall_eq, br_1, br_2, br_3, br_4, br_in, br_5, br_6, br_7, br_8, ex_c, br_nl, br_le, br_ne, gp_1, gp_2, gp_3, gf_1, gf_2, h.1]
  | succ f ih =>
    intro i hf hi
    have g := (h.2 i (by omega)).1
    have r := hV.2.2.2.1 i (by omega)
    have a := hda_b hR hS p1 p2 (v i)
    have b := hda_b hS hR p2 p1 (v i)
    have c := fmx_b (f := fun r => mx (hda v1 l1 v2 l2 d2 n1 n2 N1 N2 (v (r - 1))) (hda v2 l2 v1 l1 d1 n2 n1 N2 N1 (v (r - 1)))) (z := 0) (B := 2147483647) (by omega) i (fun j _ _ => hb j)
    have c2 : -2147483647 ≤ mx (hda v1 l1 v2 l2 d2 n1 n2 N1 N2 (v i)) (hda v2 l2 v1 l1 d1 n2 n1 N2 N1 (v i)) ∧ mx (hda v1 l1 v2 l2 d2 n1 n2 N1 N2 (v i)) (hda v2 l2 v1 l1 d1 n2 n1 N2 N1 (v i)) ≤ 2147483647 := by
      unfold mx
      split <;> omega
    rw [ex_s rfl]
    simp only [wX3_apartOver_5]
    simp (disch := omega) only [iI_lit, iI_neg, iI_add, iI_sub, iI_mul, iI_lt, iI_le, iI_eq, iI_in, iI_clamp, iI_mx, iI_mn, iI_nI, Int.toNat_natCast, forall_eq, br_1, br_2, br_3, br_4, br_in, br_5, br_6, br_7, br_8, ex_c, br_nl, br_le, br_ne, gp_1, gp_2, gp_3, gf_1, gf_2, h.1, g, e_hundredths h1 h2 hR hS p1 p2, e_hundredths h2 h1 hS hR p2 p1]
    have := ih (i + 1) (by omega) (by omega)
    rw [fmx] at this
    simpa using this
theorem e_apartOver {M : Mem} {Q : Qi} {b b1 b2 n N n1 n2 N1 N2 : Nat} {v l d v1 l1 d1 v2 l2 d2 : Nat → Int} (h : CR M b n v l d) (h1 : CR M b1 n1 v1 l1 d1) (h2 : CR M b2 n2 v2 l2 d2) (hV : RI N n v l d) (hR : RI N1 n1 v1 l1 d1) (hS : RI N2 n2 v2 l2 d2) (p1 : 0 < N1) (p2 : 0 < N2) : wpX3_apartOver M b b1 b2 Q = Q (iI (fmx (fun r => mx (hda v1 l1 v2 l2 d2 n1 n2 N1 N2 (v (r - 1))) (hda v2 l2 v1 l1 d1 n2 n1 N2 N1 (v (r - 1)))) 0 n)) M := by
  unfold wpX3_apartOver
  have := l_apartOver (Q := Q) h h1 h2 hV hR hS p1 p2 n 0 rfl (by omega)
  simp (disch := omega) only [iI_lit, iI_neg, iI_add, iI_sub, iI_mul, iI_lt, iI_le, iI_eq, iI_in, iI_clamp, iI_mx, iI_mn, iI_nI, Int.toNat_natCast, forall_eq]
  simpa [fmx] using this
theorem m_between2 {M : Mem} {Q : Qi} {b1 b2 n1 n2 N1 N2 : Nat} {v1 l1 d1 v2 l2 d2 : Nat → Int} (hb1 : b1 < 6) (hb2 : b2 < 6) (e1 : gI M 224 b1 = iI N1) (e2 : gI M 224 b2 = iI N2) (h1 : MR M b1 n1 v1 l1 d1) (h2 : MR M b2 n2 v2 l2 d2) (hR : RI N1 n1 v1 l1 d1) (hS : RI N2 n2 v2 l2 d2) (p1 : 0 < N1) (p2 : 0 < N2) {w : Int} (hw : 0 ≤ w ∧ w < 1000) : wpX4_between_ M (iI b1) (iI b2) (iI w) Q = Q (iI (hda v1 l1 v2 l2 d2 n1 n2 N1 N2 w)) M := by
  have hN1 := hR.1
  have hN2 := hS.1
  have := hda_a hR hS p1 p2 w
  have e : 100 * sur v1 l1 n1 w * N2 - 100 * mst v2 l2 d2 n2 w * N1 = 100 * (sur v1 l1 n1 w * N2 - mst v2 l2 d2 n2 w * N1) := by
    rw [Int.mul_sub, Int.mul_assoc, Int.mul_assoc]
  unfold wpX4_between_ hda
  simp (disch := omega) only [iI_lit, iI_neg, iI_add, iI_sub, iI_mul, iI_lt, iI_le, iI_eq, iI_in, iI_clamp, iI_mx, iI_mn, iI_nI, Int.toNat_natCast, forall_eq, br_1, br_2, br_3, br_4, br_in, br_5, br_6, br_7, br_8, ex_c, br_nl, br_le, br_ne, gp_1, gp_2, gp_3, gf_1, gf_2, ix_0, ix_1, ix_2, ix_3, tn_1, tn_2, pp_1, m_sure hb1 h1 hR, m_atMost hb2 h2 e2 hS, e1, e2, e, iI_tdiv]
theorem l_apartBy {M : Mem} {Q : Qi} {b b1 b2 n N n1 n2 N1 N2 : Nat} {v l d v1 l1 d1 v2 l2 d2 : Nat → Int} (hb : b < 6) (hb1 : b1 < 6) (hb2 : b2 < 6) (e1 : gI M 224 b1 = iI N1) (e2 : gI M 224 b2 = iI N2) (h : MR M b n v l d) (h1 : MR M b1 n1 v1 l1 d1) (h2 : MR M b2 n2 v2 l2 d2) (hV : RI N n v l d) (hR : RI N1 n1 v1 l1 d1) (hS : RI N2 n2 v2 l2 d2) (p1 : 0 < N1) (p2 : 0 < N2) : ∀ f i, n - i = f → i ≤ n → (∃ m, wX4_apartBy_6 Q (iI b1) (iI b2) (iI b) m M (iI (fmx (fun r => hda v1 l1 v2 l2 d2 n1 n2 N1 N2 (v (r - 1))) 0 i)) (iI (i : Nat))) = Q (iI (fmx (fun r => hda v1 l1 v2 l2 d2 n1 n2 N1 N2 (v (r - 1))) 0 n)) M := by
  have hn := Nat.le_trans hV.2.1 hV.1
  intro f
  induction f with
  | zero =>
    intro i hf hi
    have e : i = n := by omega
    subst e
    rw [ex_s rfl]
    simp only [wX4_apartBy_6]
    simp (disch := omega) only [iI_lit, iI_neg, iI_add, iI_sub, iI_mul, iI_lt, iI_le, iI_eq, iI_in, iI_clamp, iI_mx, iI_mn, iI_nI, Int.toNat_natCast, forall_eq, br_1, br_2, br_3, br_4, br_in, br_5, br_6, br_7, br_8, ex_c, br_nl, br_le, br_ne, gp_1, gp_2, gp_3, gf_1, gf_2, ix_0, ix_1, ix_2, ix_3, tn_1, tn_2, pp_1, h.1]
  | succ f ih =>
    intro i hf hi
    have g := (h.2 i (by omega)).1
    have r := hV.2.2.2.1 i (by omega)
    have a := hda_b hR hS p1 p2 (v i)
    have c := fmx_b (f := fun r => hda v1 l1 v2 l2 d2 n1 n2 N1 N2 (v (r - 1))) (z := 0) (B := 2147483647) (by omega) i (fun j _ _ => (hda_b hR hS p1 p2 _).2)
    rw [ex_s rfl]
    simp only [wX4_apartBy_6]
    have := ih (i + 1) (by omega) (by omega)
    rw [fmx, mx] at this
    simp only [Nat.add_sub_cancel] at this
    by_cases q : fmx (fun r => hda v1 l1 v2 l2 d2 n1 n2 N1 N2 (v (r - 1))) 0 i < hda v1 l1 v2 l2 d2 n1 n2 N1 N2 (v i)
    · simp (disch := omega) only [iI_lit, iI_neg, iI_add, iI_sub, iI_mul, iI_lt, iI_le, iI_eq, iI_in, iI_clamp, iI_mx, iI_mn, iI_nI, Int.toNat_natCast, forall_eq, br_1, br_2, br_3, br_4, br_in, br_5, br_6, br_7, br_8, ex_c, br_nl, br_le, br_ne, gp_1, gp_2, gp_3, gf_1, gf_2, ix_0, ix_1, ix_2, ix_3, tn_1, tn_2, pp_1, h.1, g, m_between2 hb1 hb2 e1 e2 h1 h2 hR hS p1 p2]
      rw [if_pos q] at this
      simpa using this
    · simp (disch := omega) only [iI_lit, iI_neg, iI_add, iI_sub, iI_mul, iI_lt, iI_le, iI_eq, iI_in, iI_clamp, iI_mx, iI_mn, iI_nI, Int.toNat_natCast, forall_eq, br_1, br_2, br_3, br_4, br_in, br_5, br_6, br_7, br_8, ex_c, br_nl, br_le, br_ne, gp_1, gp_2, gp_3, gf_1, gf_2, ix_0, ix_1, ix_2, ix_3, tn_1, tn_2, pp_1, h.1, g, m_between2 hb1 hb2 e1 e2 h1 h2 hR hS p1 p2]
      rw [if_neg q] at this
      simpa using this
theorem m_apartBy {M : Mem} {Q : Qi} {b b1 b2 n N n1 n2 N1 N2 : Nat} {v l d v1 l1 d1 v2 l2 d2 : Nat → Int} (hb : b < 6) (hb1 : b1 < 6) (hb2 : b2 < 6) (e1 : gI M 224 b1 = iI N1) (e2 : gI M 224 b2 = iI N2) (h : MR M b n v l d) (h1 : MR M b1 n1 v1 l1 d1) (h2 : MR M b2 n2 v2 l2 d2) (hV : RI N n v l d) (hR : RI N1 n1 v1 l1 d1) (hS : RI N2 n2 v2 l2 d2) (p1 : 0 < N1) (p2 : 0 < N2) : wpX4_apartBy M (iI b1) (iI b2) (iI b) Q = Q (iI (fmx (fun r => hda v1 l1 v2 l2 d2 n1 n2 N1 N2 (v (r - 1))) 0 n)) M := by
  unfold wpX4_apartBy
  have := l_apartBy (Q := Q) hb hb1 hb2 e1 e2 h h1 h2 hV hR hS p1 p2 n 0 rfl (by omega)
  simp (disch := omega) only [iI_lit, iI_neg, iI_add, iI_sub, iI_mul, iI_lt, iI_le, iI_eq, iI_in, iI_clamp, iI_mx, iI_mn, iI_nI, Int.toNat_natCast, forall_eq]
  simpa [fmx] using this
theorem fmx_mx (f g : Nat → Int) : ∀ n, fmx (fun r => mx (f r) (g r)) 0 n = mx (fmx f 0 n) (fmx g 0 n) := by
  intro n
  induction n with
  | zero => rfl
  | succ n ih =>
    rw [fmx, fmx, fmx, ih]
    unfold mx
    grind
theorem l_mapart {M : Mem} {Q : Qi} {b1 b2 : Nat} {A B C D : Int} (hA : 0 ≤ A ∧ A ≤ 2147483647) (hB : 0 ≤ B ∧ B ≤ 2147483647) (hC : 0 ≤ C ∧ C ≤ 2147483647) (hD : 0 ≤ D ∧ D ≤ 2147483647)
    (h1 : ∀ Q' : Qi, wpX4_apartBy M (iI b1) (iI b2) (iI b1) Q' = Q' (iI A) M) (h2 : ∀ Q' : Qi, wpX4_apartBy M (iI b1) (iI b2) (iI b2) Q' = Q' (iI B) M) (h3 : ∀ Q' : Qi, wpX4_apartBy M (iI b2) (iI b1) (iI b1) Q' = Q' (iI C) M) (h4 : ∀ Q' : Qi, wpX4_apartBy M (iI b2) (iI b1) (iI b2) Q' = Q' (iI D) M)
    (hQ : wpX4_good M (iI (mx (mx (mx A B) C) D)) Q) : ∃ m, wX4_apart_49 Q (iI b1) (iI b2) m M (iI 0) (iI 0) := by
  have st : ∀ (k : Int) (X Y : Int), 0 ≤ k → k < 4 → 0 ≤ X ∧ X ≤ 2147483647 → 0 ≤ Y ∧ Y ≤ 2147483647 → (∀ Q' : Qi, (if k = 0 then wpX4_apartBy M (iI b1) (iI b2) (iI b1) Q' else if k = 1 then wpX4_apartBy M (iI b1) (iI b2) (iI b2) Q' else if k = 2 then wpX4_apartBy M (iI b2) (iI b1) (iI b1) Q' else wpX4_apartBy M (iI b2) (iI b1) (iI b2) Q') = Q' (iI Y) M) → (∃ m, wX4_apart_49 Q (iI b1) (iI b2) m M (iI (mx X Y)) (iI (k + 1))) → ∃ m, wX4_apart_49 Q (iI b1) (iI b2) m M (iI X) (iI k) := by
    intro k X Y k0 k4 hX hY hK hN
    unfold mx at hN
    rw [ex_s rfl]
    simp only [wX4_apart_49]
    rcases (show k = 0 ∨ k = 1 ∨ k = 2 ∨ k = 3 by omega) with rfl | rfl | rfl | rfl
    · simp only [if_true] at hK
      by_cases q : X < Y
      · rw [if_pos q] at hN
        simp (disch := omega) only [iI_lit, iI_neg, iI_add, iI_sub, iI_mul, iI_lt, iI_le, iI_eq, iI_in, iI_clamp, iI_mx, iI_mn, iI_nI, Int.toNat_natCast, forall_eq, br_1, br_2, br_3, br_4, br_in, br_5, br_6, br_7, br_8, ex_c, br_nl, br_le, br_ne, gp_1, gp_2, gp_3, gf_1, gf_2, hK]
        exact hN
      · rw [if_neg q] at hN
        simp (disch := omega) only [iI_lit, iI_neg, iI_add, iI_sub, iI_mul, iI_lt, iI_le, iI_eq, iI_in, iI_clamp, iI_mx, iI_mn, iI_nI, Int.toNat_natCast, forall_eq, br_1, br_2, br_3, br_4, br_in, br_5, br_6, br_7, br_8, ex_c, br_nl, br_le, br_ne, gp_1, gp_2, gp_3, gf_1, gf_2, hK]
        exact hN
    · simp only [show ¬ (1 : Int) = 0 by omega, if_false, if_true] at hK
      by_cases q : X < Y
      · rw [if_pos q] at hN
        simp (disch := omega) only [iI_lit, iI_neg, iI_add, iI_sub, iI_mul, iI_lt, iI_le, iI_eq, iI_in, iI_clamp, iI_mx, iI_mn, iI_nI, Int.toNat_natCast, forall_eq, br_1, br_2, br_3, br_4, br_in, br_5, br_6, br_7, br_8, ex_c, br_nl, br_le, br_ne, gp_1, gp_2, gp_3, gf_1, gf_2, hK]
        exact hN
      · rw [if_neg q] at hN
        simp (disch := omega) only [iI_lit, iI_neg, iI_add, iI_sub, iI_mul, iI_lt, iI_le, iI_eq, iI_in, iI_clamp, iI_mx, iI_mn, iI_nI, Int.toNat_natCast, forall_eq, br_1, br_2, br_3, br_4, br_in, br_5, br_6, br_7, br_8, ex_c, br_nl, br_le, br_ne, gp_1, gp_2, gp_3, gf_1, gf_2, hK]
        exact hN
    · simp only [show ¬ (2 : Int) = 0 by omega, show ¬ (2 : Int) = 1 by omega, if_false, if_true] at hK
      by_cases q : X < Y
      · rw [if_pos q] at hN
        simp (disch := omega) only [iI_lit, iI_neg, iI_add, iI_sub, iI_mul, iI_lt, iI_le, iI_eq, iI_in, iI_clamp, iI_mx, iI_mn, iI_nI, Int.toNat_natCast, forall_eq, br_1, br_2, br_3, br_4, br_in, br_5, br_6, br_7, br_8, ex_c, br_nl, br_le, br_ne, gp_1, gp_2, gp_3, gf_1, gf_2, hK]
        exact hN
      · rw [if_neg q] at hN
        simp (disch := omega) only [iI_lit, iI_neg, iI_add, iI_sub, iI_mul, iI_lt, iI_le, iI_eq, iI_in, iI_clamp, iI_mx, iI_mn, iI_nI, Int.toNat_natCast, forall_eq, br_1, br_2, br_3, br_4, br_in, br_5, br_6, br_7, br_8, ex_c, br_nl, br_le, br_ne, gp_1, gp_2, gp_3, gf_1, gf_2, hK]
        exact hN
    · simp only [show ¬ (3 : Int) = 0 by omega, show ¬ (3 : Int) = 1 by omega, show ¬ (3 : Int) = 2 by omega, if_false] at hK
      by_cases q : X < Y
      · rw [if_pos q] at hN
        simp (disch := omega) only [iI_lit, iI_neg, iI_add, iI_sub, iI_mul, iI_lt, iI_le, iI_eq, iI_in, iI_clamp, iI_mx, iI_mn, iI_nI, Int.toNat_natCast, forall_eq, br_1, br_2, br_3, br_4, br_in, br_5, br_6, br_7, br_8, ex_c, br_nl, br_le, br_ne, gp_1, gp_2, gp_3, gf_1, gf_2, hK]
        exact hN
      · rw [if_neg q] at hN
        simp (disch := omega) only [iI_lit, iI_neg, iI_add, iI_sub, iI_mul, iI_lt, iI_le, iI_eq, iI_in, iI_clamp, iI_mx, iI_mn, iI_nI, Int.toNat_natCast, forall_eq, br_1, br_2, br_3, br_4, br_in, br_5, br_6, br_7, br_8, ex_c, br_nl, br_le, br_ne, gp_1, gp_2, gp_3, gf_1, gf_2, hK]
        exact hN
  have mb : ∀ X Y : Int, 0 ≤ X ∧ X ≤ 2147483647 → 0 ≤ Y ∧ Y ≤ 2147483647 → 0 ≤ mx X Y ∧ mx X Y ≤ 2147483647 := by
    intro X Y hX hY
    unfold mx
    split <;> omega
  have e0 : mx 0 A = A := by
    unfold mx
    split <;> omega
  refine st 0 0 A (by omega) (by omega) (by omega) hA (fun Q' => by simpa using h1 Q') ?_
  rw [e0]
  refine st 1 A B (by omega) (by omega) hA hB (fun Q' => by simpa using h2 Q') ?_
  refine st 2 (mx A B) C (by omega) (by omega) (mb _ _ hA hB) hC (fun Q' => by simpa using h3 Q') ?_
  refine st 3 (mx (mx A B) C) D (by omega) (by omega) (mb _ _ (mb _ _ hA hB) hC) hD (fun Q' => by simpa using h4 Q') ?_
  rw [ex_s rfl]
  simp only [wX4_apart_49]
  simp (disch := omega) only [iI_lit, iI_neg, iI_add, iI_sub, iI_mul, iI_lt, iI_le, iI_eq, iI_in, iI_clamp, iI_mx, iI_mn, iI_nI, Int.toNat_natCast, forall_eq, br_1, br_2, br_3, br_4, br_in, br_5, br_6, br_7, br_8, ex_c, br_nl, br_le, br_ne, gp_1, gp_2, gp_3, gf_1, gf_2]
  exact hQ
theorem op_apart {mk : Nat} {S : Gs} {M : Mem} (hC : CS mk S M) (hG : GI S) (a b : Int32) : Good mk S (fun Q => wpX3_apart mk M a b Q) (fun M1 Q => wpX4_apart M1 a b Q) M := by
  obtain ⟨z, rfl, hz⟩ := iI_of a
  obtain ⟨y, rfl, hy⟩ := iI_of b
  by_cases c0 : ¬ (0 ≤ z ∧ z < gk S ∧ 0 ≤ y ∧ y < gk S ∧ ¬ z = y)
  · refine Good.ro (iI (-1)) 1 hC hG (by omega) (fun Q hQ => ?_) (fun M1 hM Q hQ => ?_)
    · unfold wpX3_apart
      rw [c_two_n hC hG hz hy c0]
      exact hQ _ (RC.p (RC.r _)) gp_1
    · unfold wpX4_apart
      refine mo_1 hM hQ (fun M0 hM hQ => ?_)
      simp (disch := omega) only [iI_lit, iI_neg, iI_add, iI_sub, iI_mul, iI_lt, iI_le, iI_eq, iI_in, iI_clamp, iI_mx, iI_mn, iI_nI, Int.toNat_natCast, forall_eq, br_1, br_2, br_3, br_4, br_in, br_5, br_6, br_7, br_8, ex_c, br_nl, br_le, br_ne, gp_1, gp_2, gp_3, gf_1, gf_2, m_two_n hM hG hz hy c0]
      exact m_refused hQ (RM.r _)
  obtain ⟨j, rfl⟩ : ∃ j : Nat, z = j := ⟨z.toNat, by omega⟩
  obtain ⟨i, rfl⟩ : ∃ j : Nat, y = j := ⟨y.toNat, by omega⟩
  have hj : j < gk S := by omega
  have hi : i < gk S := by omega
  have hji : ¬ j = i := by omega
  have hk := hG.1
  have hT := hC.ct hj
  have hT2 := hC.ct hi
  have hS := hG.si hj
  have hS2 := hG.si hi
  have hE := hG.er hj
  obtain ⟨x, hx⟩ : ∃ x, gT S j = x := ⟨_, rfl⟩
  obtain ⟨y, hy⟩ : ∃ y, gT S i = y := ⟨_, rfl⟩
  rw [hx] at hT hS
  rw [hy] at hT2 hS2
  have hN := hS.1.1
  have hn := hS.1.2.1
  have hN2 := hS2.1.1
  have hn2 := hS2.1.2.1
  obtain ⟨t1, t2, t3, t4, t5, t6⟩ := hT
  obtain ⟨s1, s2, s3, s4, s5, s6⟩ := hT2
  by_cases c3 : tN x = 0
  · skip
    refine Good.ro (iI (-1)) 5 hC hG (by omega) (fun Q hQ => ?_) (fun M1 hM Q hQ => ?_)
    · unfold wpX3_apart
      rw [c_two_y hC hG hj hi hji]
      simp (disch := omega) only [iI_lit, iI_neg, iI_add, iI_sub, iI_mul, iI_lt, iI_le, iI_eq, iI_in, iI_clamp, iI_mx, iI_mn, iI_nI, Int.toNat_natCast, forall_eq, br_1, br_2, br_3, br_4, br_in, br_5, br_6, br_7, br_8, ex_c, br_nl, br_le, br_ne, gp_1, gp_2, gp_3, gf_1, gf_2, c_pass, c_refuse, t1, s1, hC.2.2.1, t1]
      exact hQ _ (RC.p (RC.r _)) gp_1
    · unfold wpX4_apart
      refine mo_1 hM hQ (fun M0 hM hQ => ?_)
      have hMT := hM.mt hj
      have hMU := hM.mt hi
      rw [hx] at hMT
      rw [hy] at hMU
      obtain ⟨u1, u2, u3, u4, u5, u6⟩ := hMT
      obtain ⟨v1, v2, v3, v4, v5, v6⟩ := hMU
      simp (disch := omega) only [iI_lit, iI_neg, iI_add, iI_sub, iI_mul, iI_lt, iI_le, iI_eq, iI_in, iI_clamp, iI_mx, iI_mn, iI_nI, Int.toNat_natCast, forall_eq, br_1, br_2, br_3, br_4, br_in, br_5, br_6, br_7, br_8, ex_c, br_nl, br_le, br_ne, gp_1, gp_2, gp_3, gf_1, gf_2, ix_0, ix_1, ix_2, ix_3, tn_1, tn_2, pp_1, m_two_y hM hG hj hi hji, m_in_y, m_in_n, u1.1, u2, v2, hM.2.2.2.2.1, u2]
      exact m_refused hQ (RM.r _)
  · by_cases c4 : tN y = 0
    · skip
      refine Good.ro (iI (-1)) 5 hC hG (by omega) (fun Q hQ => ?_) (fun M1 hM Q hQ => ?_)
      · unfold wpX3_apart
        rw [c_two_y hC hG hj hi hji]
        simp (disch := omega) only [iI_lit, iI_neg, iI_add, iI_sub, iI_mul, iI_lt, iI_le, iI_eq, iI_in, iI_clamp, iI_mx, iI_mn, iI_nI, Int.toNat_natCast, forall_eq, br_1, br_2, br_3, br_4, br_in, br_5, br_6, br_7, br_8, ex_c, br_nl, br_le, br_ne, gp_1, gp_2, gp_3, gf_1, gf_2, c_pass, c_refuse, t1, s1, hC.2.2.1, t1]
        exact hQ _ (RC.p (RC.r _)) gp_1
      · unfold wpX4_apart
        refine mo_1 hM hQ (fun M0 hM hQ => ?_)
        have hMT := hM.mt hj
        have hMU := hM.mt hi
        rw [hx] at hMT
        rw [hy] at hMU
        obtain ⟨u1, u2, u3, u4, u5, u6⟩ := hMT
        obtain ⟨v1, v2, v3, v4, v5, v6⟩ := hMU
        simp (disch := omega) only [iI_lit, iI_neg, iI_add, iI_sub, iI_mul, iI_lt, iI_le, iI_eq, iI_in, iI_clamp, iI_mx, iI_mn, iI_nI, Int.toNat_natCast, forall_eq, br_1, br_2, br_3, br_4, br_in, br_5, br_6, br_7, br_8, ex_c, br_nl, br_le, br_ne, gp_1, gp_2, gp_3, gf_1, gf_2, ix_0, ix_1, ix_2, ix_3, tn_1, tn_2, pp_1, m_two_y hM hG hj hi hji, m_in_y, m_in_n, u1.1, u2, v2, hM.2.2.2.2.1, u2]
        exact m_refused hQ (RM.r _)
    · have p1 : 0 < tN x := by omega
      have p2 : 0 < tN y := by omega
      have bb : ∀ (f : Nat → Int) n, (∀ r, f r ≤ 2147483647) → 0 ≤ fmx f 0 n ∧ fmx f 0 n ≤ 2147483647 := fun f n hf => fmx_b (by omega) n (fun r _ _ => hf r)
      have a1 := bb (fun r => hda (tv x) (tl x) (tv y) (tl y) (td y) (tn x) (tn y) (tN x) (tN y) (tv x (r - 1))) (tn x) (fun r => (hda_b hS.1 hS2.1 p1 p2 _).2)
      have a2 := bb (fun r => hda (tv x) (tl x) (tv y) (tl y) (td y) (tn x) (tn y) (tN x) (tN y) (tv y (r - 1))) (tn y) (fun r => (hda_b hS.1 hS2.1 p1 p2 _).2)
      have a3 := bb (fun r => hda (tv y) (tl y) (tv x) (tl x) (td x) (tn y) (tn x) (tN y) (tN x) (tv x (r - 1))) (tn x) (fun r => (hda_b hS2.1 hS.1 p2 p1 _).2)
      have a4 := bb (fun r => hda (tv y) (tl y) (tv x) (tl x) (td x) (tn y) (tn x) (tN y) (tN x) (tv y (r - 1))) (tn y) (fun r => (hda_b hS2.1 hS.1 p2 p1 _).2)
      have o1 := fun Q' : Qi => e_apartOver (Q := Q') t6 t6 s6 hS.1 hS.1 hS2.1 p1 p2
      have o2 := fun Q' : Qi => e_apartOver (Q := Q') s6 t6 s6 hS2.1 hS.1 hS2.1 p1 p2
      simp only [fmx_mx] at o1 o2
      generalize eA : fmx (fun r => hda (tv x) (tl x) (tv y) (tl y) (td y) (tn x) (tn y) (tN x) (tN y) (tv x (r - 1))) 0 (tn x) = A at *
      generalize eB : fmx (fun r => hda (tv x) (tl x) (tv y) (tl y) (td y) (tn x) (tn y) (tN x) (tN y) (tv y (r - 1))) 0 (tn y) = B at *
      generalize eC : fmx (fun r => hda (tv y) (tl y) (tv x) (tl x) (td x) (tn y) (tn x) (tN y) (tN x) (tv x (r - 1))) 0 (tn x) = C at *
      generalize eD : fmx (fun r => hda (tv y) (tl y) (tv x) (tl x) (td x) (tn y) (tn x) (tN y) (tN x) (tv y (r - 1))) 0 (tn y) = D at *
      have m1 : 0 ≤ mx A C ∧ mx A C ≤ 2147483647 := by
        unfold mx
        split <;> omega
      have m2 : 0 ≤ mx B D ∧ mx B D ≤ 2147483647 := by
        unfold mx
        split <;> omega
      have em : mx (mx (mx A B) C) D = mx (mx A C) (mx B D) := by
        unfold mx
        grind
      refine Good.ro (iI (mx (mx A C) (mx B D))) 0 hC hG (by omega) (fun Q hQ => ?_) (fun M1 hM Q hQ => ?_)
      · unfold wpX3_apart
        rw [c_two_y hC hG hj hi hji]
        simp (disch := omega) only [iI_lit, iI_neg, iI_add, iI_sub, iI_mul, iI_lt, iI_le, iI_eq, iI_in, iI_clamp, iI_mx, iI_mn, iI_nI, Int.toNat_natCast, forall_eq, br_1, br_2, br_3, br_4, br_in, br_5, br_6, br_7, br_8, ex_c, br_nl, br_le, br_ne, gp_1, gp_2, gp_3, gf_1, gf_2, c_pass, c_refuse, t1, s1, hC.2.2.1, o1, o2]
        exact hQ _ (RC.p (RC.r _)) gp_1
      · unfold wpX4_apart
        refine mo_1 hM hQ (fun M0 hM hQ => ?_)
        have hMT := hM.mt hj
        have hMU := hM.mt hi
        rw [hx] at hMT
        rw [hy] at hMU
        obtain ⟨u1, u2, u3, u4, u5, u6⟩ := hMT
        obtain ⟨v1, v2, v3, v4, v5, v6⟩ := hMU
        simp (disch := omega) only [iI_lit, iI_neg, iI_add, iI_sub, iI_mul, iI_lt, iI_le, iI_eq, iI_in, iI_clamp, iI_mx, iI_mn, iI_nI, Int.toNat_natCast, forall_eq, br_1, br_2, br_3, br_4, br_in, br_5, br_6, br_7, br_8, ex_c, br_nl, br_le, br_ne, gp_1, gp_2, gp_3, gf_1, gf_2, ix_0, ix_1, ix_2, ix_3, tn_1, tn_2, pp_1, m_two_y hM hG hj hi hji, m_in_y, m_in_n, u1.1, u2, v2, hM.2.2.2.2.1, u2]
        refine l_mapart (M := M0) (Q := Q) a1 a2 a3 a4 (fun Q' => ?_) (fun Q' => ?_) (fun Q' => ?_) (fun Q' => ?_) (by rw [em]; exact m_good hQ (RM.r _))
        · rw [m_apartBy (show j < 6 by omega) (show j < 6 by omega) (show i < 6 by omega) u2 v2 u1 u1 v1 hS.1 hS.1 hS2.1 p1 p2, eA]
        · rw [m_apartBy (show i < 6 by omega) (show j < 6 by omega) (show i < 6 by omega) u2 v2 v1 u1 v1 hS2.1 hS.1 hS2.1 p1 p2, eB]
        · rw [m_apartBy (show j < 6 by omega) (show i < 6 by omega) (show j < 6 by omega) v2 u2 u1 v1 u1 hS.1 hS2.1 hS.1 p2 p1, eC]
        · rw [m_apartBy (show i < 6 by omega) (show i < 6 by omega) (show j < 6 by omega) v2 u2 v1 v1 u1 hS2.1 hS2.1 hS.1 p2 p1, eD]
