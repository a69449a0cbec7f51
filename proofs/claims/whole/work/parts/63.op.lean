/-- the reference's counts -/
def MC (M : Mem) (b : Nat) (c : Nat → Int) : Prop := ∀ k, k < 1000 → gI M 228 (1000 * b + k) = iI (c k)
theorem l_below {M : Mem} {b w : Nat} {c : Nat → Int} {Q : Qi} (hb : b < 4) (h : MC M b c) (hw : w ≤ 1000) : ∀ f i, w - i = f → i ≤ w → (∃ m, wX4_below_5 Q (iI b) (iI w) m M (iI (csum c i)) (iI (i : Nat))) = Q (iI (csum c w)) M := by
  intro f
  induction f with
  | zero =>
    intro i hf hi
    have e : i = w := by omega
    subst e
    rw [ex_s rfl]
    simp only [wX4_below_5]
    simp (disch := omega) only [iI_lit, iI_neg, iI_add, iI_sub, iI_mul, iI_lt, iI_le, iI_eq, iI_in, iI_clamp, iI_mx, iI_mn, iI_nI, Int.toNat_natCast, forall_eq, br_1, br_2, br_3, br_4, br_in, br_5, br_6, br_7, br_8, ex_c, br_nl, br_le, br_ne, gp_1, gp_2, gp_3, gf_1, gf_2, ix_0, ix_1, ix_2, ix_3, tn_1, tn_2, pp_1]
  | succ f ih =>
    intro i hf hi
    have h1 := h i (by omega)
    rw [ex_s rfl]
    simp only [wX4_below_5]
    simp (disch := omega) only [iI_lit, iI_neg, iI_add, iI_sub, iI_mul, iI_lt, iI_le, iI_eq, iI_in, iI_clamp, iI_mx, iI_mn, iI_nI, Int.toNat_natCast, forall_eq, br_1, br_2, br_3, br_4, br_in, br_5, br_6, br_7, br_8, ex_c, br_nl, br_le, br_ne, gp_1, gp_2, gp_3, gf_1, gf_2, ix_0, ix_1, ix_2, ix_3, tn_1, tn_2, pp_1, h1]
    have := ih (i + 1) (by omega) (by omega)
    rw [csum] at this
    simpa using this
theorem m_below {M : Mem} {b : Nat} {c : Nat → Int} {Q : Qi} {w : Int} (hb : b < 4) (h : MC M b c) (hw : 0 ≤ w ∧ w ≤ 1000) : wpX4_below M (iI b) (iI w) Q = Q (iI (csum c w.toNat)) M := by
  unfold wpX4_below
  have := l_below (Q := Q) (w := w.toNat) hb h (by omega) w.toNat 0 rfl (by omega)
  rw [Int.toNat_of_nonneg hw.1] at this
  simp (disch := omega) only [iI_lit, iI_neg, iI_add, iI_sub, iI_mul, iI_lt, iI_le, iI_eq, iI_in, iI_clamp, iI_mx, iI_mn, iI_nI, Int.toNat_natCast, forall_eq]
  simpa [csum] using this
theorem m_missOf {M : Mem} {N b n : Nat} {c v l d : Nat → Int} {Q : Qi} {r : Int} (hb : b < 4) (h : MR M b n v l d) (hc : MC M b c) (hC : CI N c) (hR : RI N n v l d) (hr : 1 ≤ r ∧ r ≤ N) : wpX4_missOf M (iI b) (iI r) Q = Q (iI (ms c v l d n r)) (pI M 200 31 (iI (off l d r (ans l d n r)))) := by
  have hN := hR.1
  have h1 := ans_lt (l := l) (d := d) (hR.pos (by omega)) r
  have h2 := hR.2.2.2.1 (ans l d n r) h1
  have h3 := hC.b (k := (v (ans l d n r)).toNat) (by omega)
  have h4 := (h.2 (ans l d n r) h1).1
  have hn : n ≤ N := hR.2.1
  have h5 := hc (v (ans l d n r)).toNat (by omega)
  have h6 := hC.e (k := (v (ans l d n r)).toNat) (by omega)
  have g : ∀ y, MC (pI M 200 31 y) b c := fun y k hk => by
    rw [gp_2 (by omega)]
    exact hc k hk
  unfold wpX4_missOf ms mso mx
  by_cases c1 : csum c (v (ans l d n r)).toNat + 1 ≤ r
  · by_cases c2 : r ≤ csum c (v (ans l d n r)).toNat + 1 + c (v (ans l d n r)).toNat - 1
    · simp (disch := omega) only [iI_lit, iI_neg, iI_add, iI_sub, iI_mul, iI_lt, iI_le, iI_eq, iI_in, iI_clamp, iI_mx, iI_mn, iI_nI, Int.toNat_natCast, forall_eq, br_1, br_2, br_3, br_4, br_in, br_5, br_6, br_7, br_8, ex_c, br_nl, br_le, br_ne, gp_1, gp_2, gp_3, gf_1, gf_2, ix_0, ix_1, ix_2, ix_3, tn_1, tn_2, pp_1, m_answers (show b < 6 by omega) h hR, h4, m_below hb (g _), h5]
      congr 2
      split <;> split <;> omega
    · simp (disch := omega) only [iI_lit, iI_neg, iI_add, iI_sub, iI_mul, iI_lt, iI_le, iI_eq, iI_in, iI_clamp, iI_mx, iI_mn, iI_nI, Int.toNat_natCast, forall_eq, br_1, br_2, br_3, br_4, br_in, br_5, br_6, br_7, br_8, ex_c, br_nl, br_le, br_ne, gp_1, gp_2, gp_3, gf_1, gf_2, ix_0, ix_1, ix_2, ix_3, tn_1, tn_2, pp_1, m_answers (show b < 6 by omega) h hR, h4, m_below hb (g _), h5]
      congr 2
      split <;> split <;> omega
  · simp (disch := omega) only [iI_lit, iI_neg, iI_add, iI_sub, iI_mul, iI_lt, iI_le, iI_eq, iI_in, iI_clamp, iI_mx, iI_mn, iI_nI, Int.toNat_natCast, forall_eq, br_1, br_2, br_3, br_4, br_in, br_5, br_6, br_7, br_8, ex_c, br_nl, br_le, br_ne, gp_1, gp_2, gp_3, gf_1, gf_2, ix_0, ix_1, ix_2, ix_3, tn_1, tn_2, pp_1, m_answers (show b < 6 by omega) h hR, h4, m_below hb (g _), h5]
    congr 2
    split <;> split <;> omega
theorem op_miss {mk : Nat} {S : Gs} {M : Mem} (hC : CS mk S M) (hG : GI S) (a b : Int32) : Good mk S (fun Q => wpX3_miss mk M a b Q) (fun M1 Q => wpX4_miss M1 a b Q) M := by
  obtain ⟨z, rfl, hz⟩ := iI_of a
  obtain ⟨q, rfl, hq⟩ := iI_of b
  by_cases c0 : ¬ (0 ≤ z ∧ z < gk S)
  · refine Good.ro (iI (-1)) 1 hC hG (by omega) (fun Q hQ => ?_) (fun M1 hM Q hQ => ?_)
    · simp only [wpX3_miss, iI_lit, c_find_n hC hG hz c0, o_none, o_none2, c_refuse]
      exact hQ _ (RC.p (RC.r _)) gp_1
    · unfold wpX4_miss
      refine mo_1 hM hQ (fun M0 hM hQ => ?_)
      simp (disch := omega) only [iI_lit, iI_neg, iI_add, iI_sub, iI_mul, iI_lt, iI_le, iI_eq, iI_in, iI_clamp, iI_mx, iI_mn, iI_nI, Int.toNat_natCast, forall_eq, br_1, br_2, br_3, br_4, br_in, br_5, br_6, br_7, br_8, ex_c, br_nl, br_le, br_ne, gp_1, gp_2, gp_3, gf_1, gf_2, m_isS_n hM hG hz c0]
      exact m_refused hQ (RM.r _)
  obtain ⟨j, rfl⟩ : ∃ j : Nat, z = j := ⟨z.toNat, by omega⟩
  have hj : j < gk S := by omega
  have hk := hG.1
  have hT := hC.ct hj
  have hS := hG.si hj
  have hE := hG.er hj
  obtain ⟨x, hx⟩ : ∃ x, gT S j = x := ⟨_, rfl⟩
  rw [hx] at hT hS
  have hN := hS.1.1
  have hn := hS.1.2.1
  obtain ⟨t1, t2, t3, t4, t5, t6⟩ := hT
  by_cases c1 : 1 ≤ q ∧ q ≤ tN x
  · skip
    refine Good.ro (iI (ms (tc x) (tv x) (tl x) (td x) (tn x) q)) 0 hC hG (by omega) (fun Q hQ => ?_) (fun M1 hM Q hQ => ?_)
    · simp only [wpX3_miss, c_find_y hC hG hj, o_some]
      simp (disch := omega) only [iI_lit, iI_neg, iI_add, iI_sub, iI_mul, iI_lt, iI_le, iI_eq, iI_in, iI_clamp, iI_mx, iI_mn, iI_nI, Int.toNat_natCast, forall_eq, br_1, br_2, br_3, br_4, br_in, br_5, br_6, br_7, br_8, ex_c, br_nl, br_le, br_ne, gp_1, gp_2, gp_3, gf_1, gf_2, c_pass, c_refuse, t1, t2, t3, t4, hC.2.2.1, c_isPlace_y t1 hN, e_missAt t5 hS.2.1 t6 hS.1]
      exact hQ _ (RC.p (RC.r _)) gp_1
    · unfold wpX4_miss
      refine mo_1 hM hQ (fun M0 hM hQ => ?_)
      have hMT := hM.mt hj
      rw [hx] at hMT
      obtain ⟨u1, u2, u3, u4, u5, u6⟩ := hMT
      simp (disch := omega) only [iI_lit, iI_neg, iI_add, iI_sub, iI_mul, iI_lt, iI_le, iI_eq, iI_in, iI_clamp, iI_mx, iI_mn, iI_nI, Int.toNat_natCast, forall_eq, br_1, br_2, br_3, br_4, br_in, br_5, br_6, br_7, br_8, ex_c, br_nl, br_le, br_ne, gp_1, gp_2, gp_3, gf_1, gf_2, ix_0, ix_1, ix_2, ix_3, tn_1, tn_2, pp_1, m_isS_y hM hG hj, m_in_y, m_in_n, u1.1, u2, u3, u4, u5, hM.2.2.2.2.1, m_isPlace_y (show j < 6 by omega) u2 hN, m_missOf (show j < 4 by omega) u1 u6 hS.2.1 hS.1]
      exact m_good hQ (RM.p (RM.r _) (by omega))
  · skip
    refine Good.ro (iI (-1)) 2 hC hG (by omega) (fun Q hQ => ?_) (fun M1 hM Q hQ => ?_)
    · simp only [wpX3_miss, c_find_y hC hG hj, o_some]
      simp (disch := omega) only [iI_lit, iI_neg, iI_add, iI_sub, iI_mul, iI_lt, iI_le, iI_eq, iI_in, iI_clamp, iI_mx, iI_mn, iI_nI, Int.toNat_natCast, forall_eq, br_1, br_2, br_3, br_4, br_in, br_5, br_6, br_7, br_8, ex_c, br_nl, br_le, br_ne, gp_1, gp_2, gp_3, gf_1, gf_2, c_pass, c_refuse, t1, t2, t3, t4, hC.2.2.1, c_isPlace_n t1 hN]
      exact hQ _ (RC.p (RC.r _)) gp_1
    · unfold wpX4_miss
      refine mo_1 hM hQ (fun M0 hM hQ => ?_)
      have hMT := hM.mt hj
      rw [hx] at hMT
      obtain ⟨u1, u2, u3, u4, u5, u6⟩ := hMT
      simp (disch := omega) only [iI_lit, iI_neg, iI_add, iI_sub, iI_mul, iI_lt, iI_le, iI_eq, iI_in, iI_clamp, iI_mx, iI_mn, iI_nI, Int.toNat_natCast, forall_eq, br_1, br_2, br_3, br_4, br_in, br_5, br_6, br_7, br_8, ex_c, br_nl, br_le, br_ne, gp_1, gp_2, gp_3, gf_1, gf_2, ix_0, ix_1, ix_2, ix_3, tn_1, tn_2, pp_1, m_isS_y hM hG hj, m_in_y, m_in_n, u1.1, u2, u3, u4, u5, hM.2.2.2.2.1, m_isPlace_n (show j < 6 by omega) u2 hN]
      exact m_refused hQ (RM.r _)
theorem l_mmissed {M : Mem} {Q : Qi} {b n N : Nat} {c v l d : Nat → Int} (hb : b < 4) (h : MR M b n v l d) (hN : gI M 224 b = iI N) (hc : MC M b c) (hC : CI N c) (hR : RI N n v l d) (hQ : ∀ y, wpX4_good (pI M 200 31 y) (iI (fmx (fun r => ms c v l d n r) (-2) N)) Q) : ∀ f i y, N - i = f → i ≤ N → ∃ m, wX4_missed_24 Q (iI b) m (pI M 200 31 y) (iI (fmx (fun r => ms c v l d n r) (-2) i)) (iI (i + 1 : Nat)) := by
  have hN' := hR.1
  have hn := hR.2.1
  intro f
  induction f with
  | zero =>
    intro i y hf hi
    have e : i = N := by omega
    subst e
    rw [ex_s rfl]
    simp only [wX4_missed_24]
    simp (disch := omega) only [iI_lit, iI_neg, iI_add, iI_sub, iI_mul, iI_lt, iI_le, iI_eq, iI_in, iI_clamp, iI_mx, iI_mn, iI_nI, Int.toNat_natCast, forall_eq, br_1, br_2, br_3, br_4, br_in, br_5, br_6, br_7, br_8, ex_c, br_nl, br_le, br_ne, gp_1, gp_2, gp_3, gf_1, gf_2, ix_0, ix_1, ix_2, ix_3, tn_1, tn_2, pp_1, hN]
    exact hQ y
  | succ f ih =>
    intro i y hf hi
    have h1 := ms_b hC hR (r := (i + 1 : Nat)) (by omega)
    have h2 := fmx_b (f := fun r : Nat => ms c v l d n r) (z := -2) (B := N) (by omega) i (fun j a b => (ms_b hC hR (by omega)).2)
    have hg : ∀ y, MR (pI M 200 31 y) b n v l d := fun y => h.p
    have hg2 : ∀ y, MC (pI M 200 31 y) b c := fun y k hk => by
      rw [gp_2 (by omega)]
      exact hc k hk
    rw [ex_s rfl]
    simp only [wX4_missed_24]
    have := fun y => ih (i + 1) y (by omega) (by omega)
    rw [fmx, mx] at this
    by_cases q : fmx (fun r => ms c v l d n r) (-2) i < ms c v l d n (i + 1 : Nat)
    · simp (disch := omega) only [iI_lit, iI_neg, iI_add, iI_sub, iI_mul, iI_lt, iI_le, iI_eq, iI_in, iI_clamp, iI_mx, iI_mn, iI_nI, Int.toNat_natCast, forall_eq, br_1, br_2, br_3, br_4, br_in, br_5, br_6, br_7, br_8, ex_c, br_nl, br_le, br_ne, gp_1, gp_2, gp_3, gf_1, gf_2, ix_0, ix_1, ix_2, ix_3, tn_1, tn_2, pp_1, hN, m_missOf hb (hg _) (hg2 _) hC hR]
      rw [if_pos q] at this
      simpa using this _
    · simp (disch := omega) only [iI_lit, iI_neg, iI_add, iI_sub, iI_mul, iI_lt, iI_le, iI_eq, iI_in, iI_clamp, iI_mx, iI_mn, iI_nI, Int.toNat_natCast, forall_eq, br_1, br_2, br_3, br_4, br_in, br_5, br_6, br_7, br_8, ex_c, br_nl, br_le, br_ne, gp_1, gp_2, gp_3, gf_1, gf_2, ix_0, ix_1, ix_2, ix_3, tn_1, tn_2, pp_1, hN, m_missOf hb (hg _) (hg2 _) hC hR]
      rw [if_neg q] at this
      simpa using this _
theorem op_missed {mk : Nat} {S : Gs} {M : Mem} (hC : CS mk S M) (hG : GI S) (a : Int32) : Good mk S (fun Q => wpX3_missed mk M a Q) (fun M1 Q => wpX4_missed M1 a Q) M := by
  obtain ⟨z, rfl, hz⟩ := iI_of a
  by_cases c0 : ¬ (0 ≤ z ∧ z < gk S)
  · refine Good.ro (iI (-1)) 1 hC hG (by omega) (fun Q hQ => ?_) (fun M1 hM Q hQ => ?_)
    · simp only [wpX3_missed, iI_lit, c_find_n hC hG hz c0, o_none, o_none2, c_refuse]
      exact hQ _ (RC.p (RC.r _)) gp_1
    · unfold wpX4_missed
      refine mo_1 hM hQ (fun M0 hM hQ => ?_)
      simp (disch := omega) only [iI_lit, iI_neg, iI_add, iI_sub, iI_mul, iI_lt, iI_le, iI_eq, iI_in, iI_clamp, iI_mx, iI_mn, iI_nI, Int.toNat_natCast, forall_eq, br_1, br_2, br_3, br_4, br_in, br_5, br_6, br_7, br_8, ex_c, br_nl, br_le, br_ne, gp_1, gp_2, gp_3, gf_1, gf_2, m_isS_n hM hG hz c0]
      exact m_refused hQ (RM.r _)
  obtain ⟨j, rfl⟩ : ∃ j : Nat, z = j := ⟨z.toNat, by omega⟩
  have hj : j < gk S := by omega
  have hk := hG.1
  have hT := hC.ct hj
  have hS := hG.si hj
  have hE := hG.er hj
  obtain ⟨x, hx⟩ : ∃ x, gT S j = x := ⟨_, rfl⟩
  rw [hx] at hT hS
  have hN := hS.1.1
  have hn := hS.1.2.1
  obtain ⟨t1, t2, t3, t4, t5, t6⟩ := hT
  by_cases c1 : tN x = 0
  · skip
    refine Good.ro (iI (-2)) 0 hC hG (by omega) (fun Q hQ => ?_) (fun M1 hM Q hQ => ?_)
    · simp only [wpX3_missed, c_find_y hC hG hj, o_some]
      simp (disch := omega) only [iI_lit, iI_neg, iI_add, iI_sub, iI_mul, iI_lt, iI_le, iI_eq, iI_in, iI_clamp, iI_mx, iI_mn, iI_nI, Int.toNat_natCast, forall_eq, br_1, br_2, br_3, br_4, br_in, br_5, br_6, br_7, br_8, ex_c, br_nl, br_le, br_ne, gp_1, gp_2, gp_3, gf_1, gf_2, c_pass, c_refuse, t1, t2, t3, t4, hC.2.2.1, c1]
      exact hQ _ (RC.p (RC.r _)) gp_1
    · unfold wpX4_missed
      refine mo_1 hM hQ (fun M0 hM hQ => ?_)
      have hMT := hM.mt hj
      rw [hx] at hMT
      obtain ⟨u1, u2, u3, u4, u5, u6⟩ := hMT
      simp (disch := omega) only [iI_lit, iI_neg, iI_add, iI_sub, iI_mul, iI_lt, iI_le, iI_eq, iI_in, iI_clamp, iI_mx, iI_mn, iI_nI, Int.toNat_natCast, forall_eq, br_1, br_2, br_3, br_4, br_in, br_5, br_6, br_7, br_8, ex_c, br_nl, br_le, br_ne, gp_1, gp_2, gp_3, gf_1, gf_2, ix_0, ix_1, ix_2, ix_3, tn_1, tn_2, pp_1, m_isS_y hM hG hj, m_in_y, m_in_n, u1.1, u2, u3, u4, u5, hM.2.2.2.2.1, u2]
      have := l_mmissed (M := M0) (b := j) (Q := Q) (show j < 4 by omega) u1 u2 u6 hS.2.1 hS.1 (fun y => by rw [c1]; exact m_good hQ (RM.p (RM.r _) (by omega))) (tN x) 0 (gI M0 200 31) rfl (by omega)
      rw [pp_2] at this
      simpa [fmx] using this
  · have hg := fun Q => e_greatestMiss (Q := Q) t1 t5 hS.2.1 t6 hS.1 (by omega)
    refine Good.ro (iI (fmx (fun r => ms (tc x) (tv x) (tl x) (td x) (tn x) r) 0 (tN x))) 0 hC hG (by omega) (fun Q hQ => ?_) (fun M1 hM Q hQ => ?_)
    · simp only [wpX3_missed, c_find_y hC hG hj, o_some]
      simp (disch := omega) only [iI_lit, iI_neg, iI_add, iI_sub, iI_mul, iI_lt, iI_le, iI_eq, iI_in, iI_clamp, iI_mx, iI_mn, iI_nI, Int.toNat_natCast, forall_eq, br_1, br_2, br_3, br_4, br_in, br_5, br_6, br_7, br_8, ex_c, br_nl, br_le, br_ne, gp_1, gp_2, gp_3, gf_1, gf_2, c_pass, c_refuse, t1, t2, t3, t4, hC.2.2.1, hg]
      exact hQ _ (RC.p (RC.r _)) gp_1
    · unfold wpX4_missed
      refine mo_1 hM hQ (fun M0 hM hQ => ?_)
      have hMT := hM.mt hj
      rw [hx] at hMT
      obtain ⟨u1, u2, u3, u4, u5, u6⟩ := hMT
      simp (disch := omega) only [iI_lit, iI_neg, iI_add, iI_sub, iI_mul, iI_lt, iI_le, iI_eq, iI_in, iI_clamp, iI_mx, iI_mn, iI_nI, Int.toNat_natCast, forall_eq, br_1, br_2, br_3, br_4, br_in, br_5, br_6, br_7, br_8, ex_c, br_nl, br_le, br_ne, gp_1, gp_2, gp_3, gf_1, gf_2, ix_0, ix_1, ix_2, ix_3, tn_1, tn_2, pp_1, m_isS_y hM hG hj, m_in_y, m_in_n, u1.1, u2, u3, u4, u5, hM.2.2.2.2.1, u2]
      have := l_mmissed (M := M0) (b := j) (Q := Q) (show j < 4 by omega) u1 u2 u6 hS.2.1 hS.1 (fun y => by
        rw [fmx_z (fun q q1 q2 => (ms_b hS.2.1 hS.1 (by omega)).1) (by omega)]
        exact m_good hQ (RM.p (RM.r _) (by omega))) (tN x) 0 (gI M0 200 31) rfl (by omega)
      rw [pp_2] at this
      simpa [fmx] using this
theorem l_msum {M : Mem} {Q : Qi} {b : Nat} {c : Nat → Int} (hb : b < 4) (hc : MC M b c) (hQ : wpX4_good M (iI (csum (fun k => k * c k) 1000)) Q) : ∀ f i, 1000 - i = f → i ≤ 1000 → ∃ m, wX4_sum_23 Q (iI b) m M (iI (csum (fun k => k * c k) i)) (iI (i : Nat)) := by
  intro f
  induction f with
  | zero =>
    intro i hf hi
    have e : i = 1000 := by omega
    subst e
    rw [ex_s rfl]
    simp only [wX4_sum_23]
    simp (disch := omega) only [iI_lit, iI_neg, iI_add, iI_sub, iI_mul, iI_lt, iI_le, iI_eq, iI_in, iI_clamp, iI_mx, iI_mn, iI_nI, Int.toNat_natCast, forall_eq, br_1, br_2, br_3, br_4, br_in, br_5, br_6, br_7, br_8, ex_c, br_nl, br_le, br_ne, gp_1, gp_2, gp_3, gf_1, gf_2, ix_0, ix_1, ix_2, ix_3, tn_1, tn_2, pp_1]
    exact hQ
  | succ f ih =>
    intro i hf hi
    have h1 := hc i (by omega)
    rw [ex_s rfl]
    simp only [wX4_sum_23]
    have := ih (i + 1) (by omega) (by omega)
    rw [csum] at this
    simp (disch := omega) only [iI_lit, iI_neg, iI_add, iI_sub, iI_mul, iI_lt, iI_le, iI_eq, iI_in, iI_clamp, iI_mx, iI_mn, iI_nI, Int.toNat_natCast, forall_eq, br_1, br_2, br_3, br_4, br_in, br_5, br_6, br_7, br_8, ex_c, br_nl, br_le, br_ne, gp_1, gp_2, gp_3, gf_1, gf_2, ix_0, ix_1, ix_2, ix_3, tn_1, tn_2, pp_1, h1]
    simpa using this
theorem op_sum {mk : Nat} {S : Gs} {M : Mem} (hC : CS mk S M) (hG : GI S) (a : Int32) : Good mk S (fun Q => wpX3_sum mk M a Q) (fun M1 Q => wpX4_sum M1 a Q) M := by
  obtain ⟨z, rfl, hz⟩ := iI_of a
  by_cases c0 : ¬ (0 ≤ z ∧ z < gk S)
  · refine Good.ro (iI (-1)) 1 hC hG (by omega) (fun Q hQ => ?_) (fun M1 hM Q hQ => ?_)
    · simp only [wpX3_sum, iI_lit, c_find_n hC hG hz c0, o_none, o_none2, c_refuse]
      exact hQ _ (RC.p (RC.r _)) gp_1
    · unfold wpX4_sum
      refine mo_1 hM hQ (fun M0 hM hQ => ?_)
      simp (disch := omega) only [iI_lit, iI_neg, iI_add, iI_sub, iI_mul, iI_lt, iI_le, iI_eq, iI_in, iI_clamp, iI_mx, iI_mn, iI_nI, Int.toNat_natCast, forall_eq, br_1, br_2, br_3, br_4, br_in, br_5, br_6, br_7, br_8, ex_c, br_nl, br_le, br_ne, gp_1, gp_2, gp_3, gf_1, gf_2, m_isS_n hM hG hz c0]
      exact m_refused hQ (RM.r _)
  obtain ⟨j, rfl⟩ : ∃ j : Nat, z = j := ⟨z.toNat, by omega⟩
  have hj : j < gk S := by omega
  have hk := hG.1
  have hT := hC.ct hj
  have hS := hG.si hj
  have hE := hG.er hj
  obtain ⟨x, hx⟩ : ∃ x, gT S j = x := ⟨_, rfl⟩
  rw [hx] at hT hS
  have hN := hS.1.1
  have hn := hS.1.2.1
  obtain ⟨t1, t2, t3, t4, t5, t6⟩ := hT
  refine Good.ro (iI (csum (fun k => k * tc x k) 1000)) 0 hC hG (by omega) (fun Q hQ => ?_) (fun M1 hM Q hQ => ?_)
  · simp only [wpX3_sum, c_find_y hC hG hj, o_some]
    simp (disch := omega) only [iI_lit, iI_neg, iI_add, iI_sub, iI_mul, iI_lt, iI_le, iI_eq, iI_in, iI_clamp, iI_mx, iI_mn, iI_nI, Int.toNat_natCast, forall_eq, br_1, br_2, br_3, br_4, br_in, br_5, br_6, br_7, br_8, ex_c, br_nl, br_le, br_ne, gp_1, gp_2, gp_3, gf_1, gf_2, c_pass, c_refuse, t1, t2, t3, t4, hC.2.2.1, e_sumOfValues t5]
    exact hQ _ (RC.p (RC.r _)) gp_1
  · unfold wpX4_sum
    refine mo_1 hM hQ (fun M0 hM hQ => ?_)
    have hMT := hM.mt hj
    rw [hx] at hMT
    obtain ⟨u1, u2, u3, u4, u5, u6⟩ := hMT
    simp (disch := omega) only [iI_lit, iI_neg, iI_add, iI_sub, iI_mul, iI_lt, iI_le, iI_eq, iI_in, iI_clamp, iI_mx, iI_mn, iI_nI, Int.toNat_natCast, forall_eq, br_1, br_2, br_3, br_4, br_in, br_5, br_6, br_7, br_8, ex_c, br_nl, br_le, br_ne, gp_1, gp_2, gp_3, gf_1, gf_2, ix_0, ix_1, ix_2, ix_3, tn_1, tn_2, pp_1, m_isS_y hM hG hj, m_in_y, m_in_n, u1.1, u2, u3, u4, u5, hM.2.2.2.2.1, u2]
    have := l_msum (M := M0) (b := j) (Q := Q) (show j < 4 by omega) u6 (m_good hQ (RM.r _)) 1000 0 rfl (by omega)
    rw [show csum (fun k => k * tc x k) 0 = 0 from rfl, Int.natCast_zero] at this
    exact this
theorem l_msorted {M : Mem} {Q : Qi} {b N : Nat} {c : Nat → Int} {r : Int} (hb : b < 4) (hc : MC M b c) (hC : CI N c) (hr : 1 ≤ r ∧ r ≤ N) (hQ : wpX4_good M (iI (vat c r 1000)) Q) : ∀ f i, 1000 - i = f → i < 1000 → (∀ k, k ≤ i → csum c k < r) → ∃ m, wX4_sorted_48 Q (iI b) (iI r) m M (iI (i : Nat)) (iI (csum c (i + 1))) := by
  have hN := hC.1
  intro f
  induction f with
  | zero => intro i hf hi; omega
  | succ f ih =>
    intro i hf hi hlo
    have h4 := hC.b (k := i + 1) (by omega)
    rw [ex_s rfl]
    simp only [wX4_sorted_48]
    by_cases q : r ≤ csum c (i + 1)
    · simp (disch := omega) only [iI_lit, iI_neg, iI_add, iI_sub, iI_mul, iI_lt, iI_le, iI_eq, iI_in, iI_clamp, iI_mx, iI_mn, iI_nI, Int.toNat_natCast, forall_eq, br_1, br_2, br_3, br_4, br_in, br_5, br_6, br_7, br_8, ex_c, br_nl, br_le, br_ne, gp_1, gp_2, gp_3, gf_1, gf_2, ix_0, ix_1, ix_2, ix_3, tn_1, tn_2, pp_1]
      rw [vat_is hC.2.1 (by omega) hlo q 1000 (by omega), if_neg (by omega)] at hQ
      exact hQ
    · have hi2 : i + 1 < 1000 := by
        rcases Nat.lt_or_ge (i + 1) 1000 with z | z
        · exact z
        · have := hC.2.2
          rw [show 1000 = i + 1 by omega] at this
          omega
      have h1 := hc (i + 1) hi2
      simp (disch := omega) only [iI_lit, iI_neg, iI_add, iI_sub, iI_mul, iI_lt, iI_le, iI_eq, iI_in, iI_clamp, iI_mx, iI_mn, iI_nI, Int.toNat_natCast, forall_eq, br_1, br_2, br_3, br_4, br_in, br_5, br_6, br_7, br_8, ex_c, br_nl, br_le, br_ne, gp_1, gp_2, gp_3, gf_1, gf_2, ix_0, ix_1, ix_2, ix_3, tn_1, tn_2, pp_1, h1]
      have := ih (i + 1) (by omega) hi2 (fun k hk => by
        by_cases z : k = i + 1
        · rw [z]
          omega
        · exact hlo k (by omega))
      rw [csum] at this
      simpa using this
theorem op_sorted {mk : Nat} {S : Gs} {M : Mem} (hC : CS mk S M) (hG : GI S) (a b : Int32) : Good mk S (fun Q => wpX3_sorted mk M a b Q) (fun M1 Q => wpX4_sorted M1 a b Q) M := by
  obtain ⟨z, rfl, hz⟩ := iI_of a
  obtain ⟨q, rfl, hq⟩ := iI_of b
  by_cases c0 : ¬ (0 ≤ z ∧ z < gk S)
  · refine Good.ro (iI (-1)) 1 hC hG (by omega) (fun Q hQ => ?_) (fun M1 hM Q hQ => ?_)
    · simp only [wpX3_sorted, iI_lit, c_find_n hC hG hz c0, o_none, o_none2, c_refuse]
      exact hQ _ (RC.p (RC.r _)) gp_1
    · unfold wpX4_sorted
      refine mo_1 hM hQ (fun M0 hM hQ => ?_)
      simp (disch := omega) only [iI_lit, iI_neg, iI_add, iI_sub, iI_mul, iI_lt, iI_le, iI_eq, iI_in, iI_clamp, iI_mx, iI_mn, iI_nI, Int.toNat_natCast, forall_eq, br_1, br_2, br_3, br_4, br_in, br_5, br_6, br_7, br_8, ex_c, br_nl, br_le, br_ne, gp_1, gp_2, gp_3, gf_1, gf_2, m_isS_n hM hG hz c0]
      exact m_refused hQ (RM.r _)
  obtain ⟨j, rfl⟩ : ∃ j : Nat, z = j := ⟨z.toNat, by omega⟩
  have hj : j < gk S := by omega
  have hk := hG.1
  have hT := hC.ct hj
  have hS := hG.si hj
  have hE := hG.er hj
  obtain ⟨x, hx⟩ : ∃ x, gT S j = x := ⟨_, rfl⟩
  rw [hx] at hT hS
  have hN := hS.1.1
  have hn := hS.1.2.1
  obtain ⟨t1, t2, t3, t4, t5, t6⟩ := hT
  by_cases c1 : 1 ≤ q ∧ q ≤ tN x
  · skip
    refine Good.ro (iI (vat (tc x) q 1000)) 0 hC hG (by omega) (fun Q hQ => ?_) (fun M1 hM Q hQ => ?_)
    · simp only [wpX3_sorted, c_find_y hC hG hj, o_some]
      simp (disch := omega) only [iI_lit, iI_neg, iI_add, iI_sub, iI_mul, iI_lt, iI_le, iI_eq, iI_in, iI_clamp, iI_mx, iI_mn, iI_nI, Int.toNat_natCast, forall_eq, br_1, br_2, br_3, br_4, br_in, br_5, br_6, br_7, br_8, ex_c, br_nl, br_le, br_ne, gp_1, gp_2, gp_3, gf_1, gf_2, c_pass, c_refuse, t1, t2, t3, t4, hC.2.2.1, c_isPlace_y t1 hN, e_valueAt t5 hS.2.1]
      exact hQ _ (RC.p (RC.r _)) gp_1
    · unfold wpX4_sorted
      refine mo_1 hM hQ (fun M0 hM hQ => ?_)
      have hMT := hM.mt hj
      rw [hx] at hMT
      obtain ⟨u1, u2, u3, u4, u5, u6⟩ := hMT
      simp (disch := omega) only [iI_lit, iI_neg, iI_add, iI_sub, iI_mul, iI_lt, iI_le, iI_eq, iI_in, iI_clamp, iI_mx, iI_mn, iI_nI, Int.toNat_natCast, forall_eq, br_1, br_2, br_3, br_4, br_in, br_5, br_6, br_7, br_8, ex_c, br_nl, br_le, br_ne, gp_1, gp_2, gp_3, gf_1, gf_2, ix_0, ix_1, ix_2, ix_3, tn_1, tn_2, pp_1, m_isS_y hM hG hj, m_in_y, m_in_n, u1.1, u2, u3, u4, u5, hM.2.2.2.2.1, m_isPlace_y (show j < 6 by omega) u2 hN, u6 0 (by omega)]
      have := l_msorted (M := M0) (b := j) (Q := Q) (show j < 4 by omega) u6 hS.2.1 c1 (m_good hQ (RM.r _)) 1000 0 rfl (by omega) (fun k hk => by
        have : k = 0 := by omega
        subst this
        rw [csum]
        omega)
      have e := u6 0 (by omega)
      rw [Nat.add_zero] at e
      rw [e]
      rw [show csum (tc x) (0 + 1) = tc x 0 by simp [csum], Int.natCast_zero] at this
      exact this
  · skip
    refine Good.ro (iI (-1)) 2 hC hG (by omega) (fun Q hQ => ?_) (fun M1 hM Q hQ => ?_)
    · simp only [wpX3_sorted, c_find_y hC hG hj, o_some]
      simp (disch := omega) only [iI_lit, iI_neg, iI_add, iI_sub, iI_mul, iI_lt, iI_le, iI_eq, iI_in, iI_clamp, iI_mx, iI_mn, iI_nI, Int.toNat_natCast, forall_eq, br_1, br_2, br_3, br_4, br_in, br_5, br_6, br_7, br_8, ex_c, br_nl, br_le, br_ne, gp_1, gp_2, gp_3, gf_1, gf_2, c_pass, c_refuse, t1, t2, t3, t4, hC.2.2.1, c_isPlace_n t1 hN]
      exact hQ _ (RC.p (RC.r _)) gp_1
    · unfold wpX4_sorted
      refine mo_1 hM hQ (fun M0 hM hQ => ?_)
      have hMT := hM.mt hj
      rw [hx] at hMT
      obtain ⟨u1, u2, u3, u4, u5, u6⟩ := hMT
      simp (disch := omega) only [iI_lit, iI_neg, iI_add, iI_sub, iI_mul, iI_lt, iI_le, iI_eq, iI_in, iI_clamp, iI_mx, iI_mn, iI_nI, Int.toNat_natCast, forall_eq, br_1, br_2, br_3, br_4, br_in, br_5, br_6, br_7, br_8, ex_c, br_nl, br_le, br_ne, gp_1, gp_2, gp_3, gf_1, gf_2, ix_0, ix_1, ix_2, ix_3, tn_1, tn_2, pp_1, m_isS_y hM hG hj, m_in_y, m_in_n, u1.1, u2, u3, u4, u5, hM.2.2.2.2.1, m_isPlace_n (show j < 6 by omega) u2 hN]
      exact m_refused hQ (RM.r _)
