theorem o_none2 {A : Prop} {B : Nat → Prop} : ((True → A) ∧ ∀ n : Nat, (none : Option Nat) = some n → B n) = A := by
  simp
theorem m_in_y {M : Mem} {Q : Qi} {v lo hi : Int} (h : lo ≤ v ∧ v ≤ hi) (hv : -2147483648 ≤ v ∧ v < 2147483648) (hl : -2147483648 ≤ lo ∧ lo < 2147483648) (hh : -2147483648 ≤ hi ∧ hi < 2147483648) : wpX4_in M (iI v) (iI lo) (iI hi) Q = Q (iI 1) M := by
  rw [m_in hv hl hh, if_pos h]
theorem m_in_n {M : Mem} {Q : Qi} {v lo hi : Int} (h : ¬ (lo ≤ v ∧ v ≤ hi)) (hv : -2147483648 ≤ v ∧ v < 2147483648) (hl : -2147483648 ≤ lo ∧ lo < 2147483648) (hh : -2147483648 ≤ hi ∧ hi < 2147483648) : wpX4_in M (iI v) (iI lo) (iI hi) Q = Q (iI 0) M := by
  rw [m_in hv hl hh, if_neg h]
theorem c_isValue_n {M : Mem} {w : Int} {Q : Qi} (hw : ¬ (0 ≤ w ∧ w < 1000)) (hz : -2147483648 ≤ w ∧ w < 2147483648) : wpX3_isValue M (iI w) Q = Q (iI 0) M := by
  unfold wpX3_isValue
  by_cases c : w < 0
  · simp (disch := omega) only [iI_lit, iI_neg, iI_add, iI_sub, iI_mul, iI_lt, iI_le, iI_eq, iI_in, iI_clamp, iI_mx, iI_mn, iI_nI, Int.toNat_natCast, forall_eq, br_1, br_2, br_3, br_4, br_in, br_5, br_6, br_7, br_8, ex_c, br_nl, br_le, br_ne, gp_1, gp_2, gp_3, gf_1, gf_2]
  · simp (disch := omega) only [iI_lit, iI_neg, iI_add, iI_sub, iI_mul, iI_lt, iI_le, iI_eq, iI_in, iI_clamp, iI_mx, iI_mn, iI_nI, Int.toNat_natCast, forall_eq, br_1, br_2, br_3, br_4, br_in, br_5, br_6, br_7, br_8, ex_c, br_nl, br_le, br_ne, gp_1, gp_2, gp_3, gf_1, gf_2]
theorem m_isValue_y {M : Mem} {w : Int} {Q : Qi} (hw : 0 ≤ w ∧ w < 1000) : wpX4_isValue M (iI w) Q = Q (iI 1) M := by
  unfold wpX4_isValue
  simp (disch := omega) only [iI_lit, iI_neg, iI_add, iI_sub, iI_mul, iI_lt, iI_le, iI_eq, iI_in, iI_clamp, iI_mx, iI_mn, iI_nI, Int.toNat_natCast, forall_eq, br_1, br_2, br_3, br_4, br_in, br_5, br_6, br_7, br_8, ex_c, br_nl, br_le, br_ne, gp_1, gp_2, gp_3, gf_1, gf_2, m_in_y]
  simp
theorem m_isValue_n {M : Mem} {w : Int} {Q : Qi} (hw : ¬ (0 ≤ w ∧ w < 1000)) (hz : -2147483648 ≤ w ∧ w < 2147483648) : wpX4_isValue M (iI w) Q = Q (iI 0) M := by
  unfold wpX4_isValue
  simp (disch := omega) only [iI_lit, iI_neg, iI_add, iI_sub, iI_mul, iI_lt, iI_le, iI_eq, iI_in, iI_clamp, iI_mx, iI_mn, iI_nI, Int.toNat_natCast, forall_eq, br_1, br_2, br_3, br_4, br_in, br_5, br_6, br_7, br_8, ex_c, br_nl, br_le, br_ne, gp_1, gp_2, gp_3, gf_1, gf_2, m_in_n]
  simp
theorem c_isShare_y {M : Mem} {w : Int} {Q : Qi} (hw : 1 ≤ w ∧ w ≤ 100) : wpX3_isShare M (iI w) Q = Q (iI 1) M := by
  unfold wpX3_isShare
  simp (disch := omega) only [iI_lit, iI_neg, iI_add, iI_sub, iI_mul, iI_lt, iI_le, iI_eq, iI_in, iI_clamp, iI_mx, iI_mn, iI_nI, Int.toNat_natCast, forall_eq, br_1, br_2, br_3, br_4, br_in, br_5, br_6, br_7, br_8, ex_c, br_nl, br_le, br_ne, gp_1, gp_2, gp_3, gf_1, gf_2]
theorem c_isShare_n {M : Mem} {w : Int} {Q : Qi} (hw : ¬ (1 ≤ w ∧ w ≤ 100)) (hz : -2147483648 ≤ w ∧ w < 2147483648) : wpX3_isShare M (iI w) Q = Q (iI 0) M := by
  unfold wpX3_isShare
  by_cases c : w < 1
  · simp (disch := omega) only [iI_lit, iI_neg, iI_add, iI_sub, iI_mul, iI_lt, iI_le, iI_eq, iI_in, iI_clamp, iI_mx, iI_mn, iI_nI, Int.toNat_natCast, forall_eq, br_1, br_2, br_3, br_4, br_in, br_5, br_6, br_7, br_8, ex_c, br_nl, br_le, br_ne, gp_1, gp_2, gp_3, gf_1, gf_2]
  · simp (disch := omega) only [iI_lit, iI_neg, iI_add, iI_sub, iI_mul, iI_lt, iI_le, iI_eq, iI_in, iI_clamp, iI_mx, iI_mn, iI_nI, Int.toNat_natCast, forall_eq, br_1, br_2, br_3, br_4, br_in, br_5, br_6, br_7, br_8, ex_c, br_nl, br_le, br_ne, gp_1, gp_2, gp_3, gf_1, gf_2]
theorem c_isPlace_y {M : Mem} {b N : Nat} {w : Int} {Q : Qi} (h : gI M b 2 = iI N) (hN : N ≤ 1000) (hw : 1 ≤ w ∧ w ≤ N) : wpX3_isPlace M b (iI w) Q = Q (iI 1) M := by
  unfold wpX3_isPlace
  rw [h]
  simp (disch := omega) only [iI_lit, iI_neg, iI_add, iI_sub, iI_mul, iI_lt, iI_le, iI_eq, iI_in, iI_clamp, iI_mx, iI_mn, iI_nI, Int.toNat_natCast, forall_eq, br_1, br_2, br_3, br_4, br_in, br_5, br_6, br_7, br_8, ex_c, br_nl, br_le, br_ne, gp_1, gp_2, gp_3, gf_1, gf_2]
theorem c_isPlace_n {M : Mem} {b N : Nat} {w : Int} {Q : Qi} (h : gI M b 2 = iI N) (hN : N ≤ 1000) (hw : ¬ (1 ≤ w ∧ w ≤ N)) (hz : -2147483648 ≤ w ∧ w < 2147483648) : wpX3_isPlace M b (iI w) Q = Q (iI 0) M := by
  unfold wpX3_isPlace
  rw [h]
  by_cases c : w < 1
  · simp (disch := omega) only [iI_lit, iI_neg, iI_add, iI_sub, iI_mul, iI_lt, iI_le, iI_eq, iI_in, iI_clamp, iI_mx, iI_mn, iI_nI, Int.toNat_natCast, forall_eq, br_1, br_2, br_3, br_4, br_in, br_5, br_6, br_7, br_8, ex_c, br_nl, br_le, br_ne, gp_1, gp_2, gp_3, gf_1, gf_2]
  · simp (disch := omega) only [iI_lit, iI_neg, iI_add, iI_sub, iI_mul, iI_lt, iI_le, iI_eq, iI_in, iI_clamp, iI_mx, iI_mn, iI_nI, Int.toNat_natCast, forall_eq, br_1, br_2, br_3, br_4, br_in, br_5, br_6, br_7, br_8, ex_c, br_nl, br_le, br_ne, gp_1, gp_2, gp_3, gf_1, gf_2]
theorem m_isPlace_y {M : Mem} {b N : Nat} {w : Int} {Q : Qi} (hb : b < 6) (h : gI M 224 b = iI N) (hN : N ≤ 1000) (hw : 1 ≤ w ∧ w ≤ N) : wpX4_isPlace M (iI b) (iI w) Q = Q (iI 1) M := by
  unfold wpX4_isPlace
  simp (disch := omega) only [iI_lit, iI_neg, iI_add, iI_sub, iI_mul, iI_lt, iI_le, iI_eq, iI_in, iI_clamp, iI_mx, iI_mn, iI_nI, Int.toNat_natCast, forall_eq, br_1, br_2, br_3, br_4, br_in, br_5, br_6, br_7, br_8, ex_c, br_nl, br_le, br_ne, gp_1, gp_2, gp_3, gf_1, gf_2, ix_0, ix_1, ix_2, ix_3, tn_1, tn_2, pp_1, h, m_in_y]
  simp
theorem m_isPlace_n {M : Mem} {b N : Nat} {w : Int} {Q : Qi} (hb : b < 6) (h : gI M 224 b = iI N) (hN : N ≤ 1000) (hw : ¬ (1 ≤ w ∧ w ≤ N)) (hz : -2147483648 ≤ w ∧ w < 2147483648) : wpX4_isPlace M (iI b) (iI w) Q = Q (iI 0) M := by
  unfold wpX4_isPlace
  simp (disch := omega) only [iI_lit, iI_neg, iI_add, iI_sub, iI_mul, iI_lt, iI_le, iI_eq, iI_in, iI_clamp, iI_mx, iI_mn, iI_nI, Int.toNat_natCast, forall_eq, br_1, br_2, br_3, br_4, br_in, br_5, br_6, br_7, br_8, ex_c, br_nl, br_le, br_ne, gp_1, gp_2, gp_3, gf_1, gf_2, ix_0, ix_1, ix_2, ix_3, tn_1, tn_2, pp_1, h, m_in_n]
  simp
theorem op_check {mk : Nat} {S : Gs} {M : Mem} (hC : CS mk S M) (hG : GI S) (a : Int32) : Good mk S (fun Q => wpX3_check mk M a Q) (fun M1 Q => wpX4_check M1 a Q) M := by
  obtain ⟨z, rfl, hz⟩ := iI_of a
  by_cases c0 : ¬ (0 ≤ z ∧ z < gk S)
  · refine Good.ro (iI (-1)) 1 hC hG (by omega) (fun Q hQ => ?_) (fun M1 hM Q hQ => ?_)
    · simp only [wpX3_check, iI_lit, c_find_n hC hG hz c0, o_none, o_none2, c_refuse]
      exact hQ _ (RC.p (RC.r _)) gp_1
    · unfold wpX4_check
      refine mo_1 hM hQ (fun M0 hM hQ => ?_)
      simp (disch := omega) only [iI_lit, iI_neg, iI_add, iI_sub, iI_mul, iI_lt, iI_le, iI_eq, iI_in, iI_clamp, iI_mx, iI_mn, iI_nI, Int.toNat_natCast, forall_eq, br_1, br_2, br_3, br_4, br_in, br_5, br_6, br_7, br_8, ex_c, br_nl, br_le, br_ne, gp_1, gp_2, gp_3, gf_1, gf_2, m_isS_n hM hG hz c0]
      exact m_refused hQ (RM.r _)
  obtain ⟨j, rfl⟩ : ∃ j : Nat, z = j := ⟨z.toNat, by omega⟩
  have hj : j < gk S := by omega
  have hk := hG.1
  have hT := hC.ct hj
  have hS := hG.si hj
  have hE := hG.er hj
  obtain ⟨x, hx⟩ : ∃ x, gT S j = x := ⟨_, rfl⟩
  rw [hx] at hT hS
  have hN := hS.1.1
  have hn := hS.1.2.1
  obtain ⟨t1, t2, t3, t4, t5, t6⟩ := hT
  have hb := bo_b (n := tN x) (e := gE S) (by omega) hE.1
  refine Good.ro (iI (if wd (tl x) (td x) (tn x) ≤ bo (tN x) (gE S) then 0 else 4)) 0 hC hG (by omega) (fun Q hQ => ?_) (fun M1 hM Q hQ => ?_)
  · simp only [wpX3_check, c_find_y hC hG hj, o_some]
    simp (disch := omega) only [iI_lit, iI_neg, iI_add, iI_sub, iI_mul, iI_lt, iI_le, iI_eq, iI_in, iI_clamp, iI_mx, iI_mn, iI_nI, Int.toNat_natCast, forall_eq, br_1, br_2, br_3, br_4, br_in, br_5, br_6, br_7, br_8, ex_c, br_nl, br_le, br_ne, gp_1, gp_2, gp_3, gf_1, gf_2, c_pass, c_refuse, t1, t2, t3, t4, hC.2.2.1, e_boundOf, e_firstWrong t6 hS.1]
    exact hQ _ (RC.p (RC.r _)) gp_1
  · unfold wpX4_check
    refine mo_1 hM hQ (fun M0 hM hQ => ?_)
    have hMT := hM.mt hj
    rw [hx] at hMT
    obtain ⟨u1, u2, u3, u4, u5, u6⟩ := hMT
    simp (disch := omega) only [iI_lit, iI_neg, iI_add, iI_sub, iI_mul, iI_lt, iI_le, iI_eq, iI_in, iI_clamp, iI_mx, iI_mn, iI_nI, Int.toNat_natCast, forall_eq, br_1, br_2, br_3, br_4, br_in, br_5, br_6, br_7, br_8, ex_c, br_nl, br_le, br_ne, gp_1, gp_2, gp_3, gf_1, gf_2, ix_0, ix_1, ix_2, ix_3, tn_1, tn_2, pp_1, m_isS_y hM hG hj, m_in_y, m_in_n, u1.1, u2, u3, u4, u5, hM.2.2.2.2.1, m_wrongOf (show j < 6 by omega) u1 u2 hM.2.2.2.2.1 hE hS.1]
    exact m_good hQ (RM.r _)
theorem l_mbands {S : Gs} {M : Mem} {Q : Qi} {b n : Nat} {N : Nat} {v l d : Nat → Int} {er q : Int} (hb : b < 6) (h : MR M b n v l d) (hN : gI M 224 b = iI N) (hE : gI M 200 28 = iI er) (he : 2 ≤ er ∧ er ≤ 1000) (hR : RI N n v l d) (hq : 0 ≤ q ∧ q ≤ 12) (hQ : wpX4_good M (iI (fct (fun r => decide ((bd (d (r - 1)) (bo N er) : Int) = q)) n)) Q) : ∀ f i, n - i = f → i ≤ n → ∃ m, wX4_bands_40 Q (iI b) (iI q) m M (iI (fct (fun r => decide ((bd (d (r - 1)) (bo N er) : Int) = q)) i)) (iI (i : Nat)) := by
  have hn : n ≤ 1000 := Nat.le_trans hR.2.1 hR.1
  have hN' := hR.1
  have hbo := bo_b (n := N) (e := er) (by omega) he.1
  intro f
  induction f with
  | zero =>
    intro i hf hi
    have e : i = n := by omega
    subst e
    rw [ex_s rfl]
    simp only [wX4_bands_40]
    simp (disch := omega) only [iI_lit, iI_neg, iI_add, iI_sub, iI_mul, iI_lt, iI_le, iI_eq, iI_in, iI_clamp, iI_mx, iI_mn, iI_nI, Int.toNat_natCast, forall_eq, br_1, br_2, br_3, br_4, br_in, br_5, br_6, br_7, br_8, ex_c, br_nl, br_le, br_ne, gp_1, gp_2, gp_3, gf_1, gf_2, ix_0, ix_1, ix_2, ix_3, tn_1, tn_2, pp_1, h.1]
    exact hQ
  | succ f ih =>
    intro i hf hi
    have h3 := h.2 i (by omega)
    have h4 := hR.2.2.2.1 i (by omega)
    have h5 := bd_le (d i) (bo N er)
    rw [ex_s rfl]
    simp only [wX4_bands_40]
    have := ih (i + 1) (by omega) (by omega)
    rw [fct] at this
    by_cases c : (bd (d i) (bo N er) : Int) = q
    · simp (disch := omega) only [iI_lit, iI_neg, iI_add, iI_sub, iI_mul, iI_lt, iI_le, iI_eq, iI_in, iI_clamp, iI_mx, iI_mn, iI_nI, Int.toNat_natCast, forall_eq, br_1, br_2, br_3, br_4, br_in, br_5, br_6, br_7, br_8, ex_c, br_nl, br_le, br_ne, gp_1, gp_2, gp_3, gf_1, gf_2, ix_0, ix_1, ix_2, ix_3, tn_1, tn_2, pp_1, h.1, m_boundOf hb hN hE, m_bandAt hb (show i < 1000 by omega) h3.2.2]
      simp only [Nat.add_sub_cancel, c, decide_true, if_true] at this
      simpa using this
    · simp (disch := omega) only [iI_lit, iI_neg, iI_add, iI_sub, iI_mul, iI_lt, iI_le, iI_eq, iI_in, iI_clamp, iI_mx, iI_mn, iI_nI, Int.toNat_natCast, forall_eq, br_1, br_2, br_3, br_4, br_in, br_5, br_6, br_7, br_8, ex_c, br_nl, br_le, br_ne, gp_1, gp_2, gp_3, gf_1, gf_2, ix_0, ix_1, ix_2, ix_3, tn_1, tn_2, pp_1, h.1, m_boundOf hb hN hE, m_bandAt hb (show i < 1000 by omega) h3.2.2]
      simp only [Nat.add_sub_cancel, c, decide_false, Bool.false_eq_true, if_false] at this
      simpa using this
theorem op_bands {mk : Nat} {S : Gs} {M : Mem} (hC : CS mk S M) (hG : GI S) (a b : Int32) : Good mk S (fun Q => wpX3_bands mk M a b Q) (fun M1 Q => wpX4_bands M1 a b Q) M := by
  obtain ⟨z, rfl, hz⟩ := iI_of a
  obtain ⟨q, rfl, hq⟩ := iI_of b
  by_cases c0 : ¬ (0 ≤ z ∧ z < gk S)
  · refine Good.ro (iI (-1)) 1 hC hG (by omega) (fun Q hQ => ?_) (fun M1 hM Q hQ => ?_)
    · simp only [wpX3_bands, iI_lit, c_find_n hC hG hz c0, o_none, o_none2, c_refuse]
      exact hQ _ (RC.p (RC.r _)) gp_1
    · unfold wpX4_bands
      refine mo_1 hM hQ (fun M0 hM hQ => ?_)
      simp (disch := omega) only [iI_lit, iI_neg, iI_add, iI_sub, iI_mul, iI_lt, iI_le, iI_eq, iI_in, iI_clamp, iI_mx, iI_mn, iI_nI, Int.toNat_natCast, forall_eq, br_1, br_2, br_3, br_4, br_in, br_5, br_6, br_7, br_8, ex_c, br_nl, br_le, br_ne, gp_1, gp_2, gp_3, gf_1, gf_2, m_isS_n hM hG hz c0]
      exact m_refused hQ (RM.r _)
  obtain ⟨j, rfl⟩ : ∃ j : Nat, z = j := ⟨z.toNat, by omega⟩
  have hj : j < gk S := by omega
  have hk := hG.1
  have hT := hC.ct hj
  have hS := hG.si hj
  have hE := hG.er hj
  obtain ⟨x, hx⟩ : ∃ x, gT S j = x := ⟨_, rfl⟩
  rw [hx] at hT hS
  have hN := hS.1.1
  have hn := hS.1.2.1
  obtain ⟨t1, t2, t3, t4, t5, t6⟩ := hT
  have hb := bo_b (n := tN x) (e := gE S) (by omega) hE.1
  by_cases c1 : 0 ≤ q ∧ q ≤ 12
  · skip
    refine Good.ro (iI (fct (fun r => decide ((bd (td x (r - 1)) (bo (tN x) (gE S)) : Int) = q)) (tn x))) 0 hC hG (by omega) (fun Q hQ => ?_) (fun M1 hM Q hQ => ?_)
    · simp only [wpX3_bands, c_find_y hC hG hj, o_some]
      simp (disch := omega) only [iI_lit, iI_neg, iI_add, iI_sub, iI_mul, iI_lt, iI_le, iI_eq, iI_in, iI_clamp, iI_mx, iI_mn, iI_nI, Int.toNat_natCast, forall_eq, br_1, br_2, br_3, br_4, br_in, br_5, br_6, br_7, br_8, ex_c, br_nl, br_le, br_ne, gp_1, gp_2, gp_3, gf_1, gf_2, c_pass, c_refuse, t1, t2, t3, t4, hC.2.2.1, e_boundOf, e_tuplesOfBand t6 hS.1]
      exact hQ _ (RC.p (RC.r _)) gp_1
    · unfold wpX4_bands
      refine mo_1 hM hQ (fun M0 hM hQ => ?_)
      have hMT := hM.mt hj
      rw [hx] at hMT
      obtain ⟨u1, u2, u3, u4, u5, u6⟩ := hMT
      simp (disch := omega) only [iI_lit, iI_neg, iI_add, iI_sub, iI_mul, iI_lt, iI_le, iI_eq, iI_in, iI_clamp, iI_mx, iI_mn, iI_nI, Int.toNat_natCast, forall_eq, br_1, br_2, br_3, br_4, br_in, br_5, br_6, br_7, br_8, ex_c, br_nl, br_le, br_ne, gp_1, gp_2, gp_3, gf_1, gf_2, ix_0, ix_1, ix_2, ix_3, tn_1, tn_2, pp_1, m_isS_y hM hG hj, m_in_y, m_in_n, u1.1, u2, u3, u4, u5, hM.2.2.2.2.1, u2]
      have := l_mbands (S := S) (M := M0) (b := j) (show j < 6 by omega) u1 u2 hM.2.2.2.2.1 hE hS.1 c1 (m_good hQ (RM.r _)) (tn x) 0 rfl (by omega)
      simpa [fct] using this
  · by_cases c2 : q < 0
    · skip
      refine Good.ro (iI (-1)) 2 hC hG (by omega) (fun Q hQ => ?_) (fun M1 hM Q hQ => ?_)
      · simp only [wpX3_bands, c_find_y hC hG hj, o_some]
        simp (disch := omega) only [iI_lit, iI_neg, iI_add, iI_sub, iI_mul, iI_lt, iI_le, iI_eq, iI_in, iI_clamp, iI_mx, iI_mn, iI_nI, Int.toNat_natCast, forall_eq, br_1, br_2, br_3, br_4, br_in, br_5, br_6, br_7, br_8, ex_c, br_nl, br_le, br_ne, gp_1, gp_2, gp_3, gf_1, gf_2, c_pass, c_refuse, t1, t2, t3, t4, hC.2.2.1, t1]
        exact hQ _ (RC.p (RC.r _)) gp_1
      · unfold wpX4_bands
        refine mo_1 hM hQ (fun M0 hM hQ => ?_)
        have hMT := hM.mt hj
        rw [hx] at hMT
        obtain ⟨u1, u2, u3, u4, u5, u6⟩ := hMT
        simp (disch := omega) only [iI_lit, iI_neg, iI_add, iI_sub, iI_mul, iI_lt, iI_le, iI_eq, iI_in, iI_clamp, iI_mx, iI_mn, iI_nI, Int.toNat_natCast, forall_eq, br_1, br_2, br_3, br_4, br_in, br_5, br_6, br_7, br_8, ex_c, br_nl, br_le, br_ne, gp_1, gp_2, gp_3, gf_1, gf_2, ix_0, ix_1, ix_2, ix_3, tn_1, tn_2, pp_1, m_isS_y hM hG hj, m_in_y, m_in_n, u1.1, u2, u3, u4, u5, hM.2.2.2.2.1, u2]
        exact m_refused hQ (RM.r _)
    · skip
      refine Good.ro (iI (-1)) 2 hC hG (by omega) (fun Q hQ => ?_) (fun M1 hM Q hQ => ?_)
      · simp only [wpX3_bands, c_find_y hC hG hj, o_some]
        simp (disch := omega) only [iI_lit, iI_neg, iI_add, iI_sub, iI_mul, iI_lt, iI_le, iI_eq, iI_in, iI_clamp, iI_mx, iI_mn, iI_nI, Int.toNat_natCast, forall_eq, br_1, br_2, br_3, br_4, br_in, br_5, br_6, br_7, br_8, ex_c, br_nl, br_le, br_ne, gp_1, gp_2, gp_3, gf_1, gf_2, c_pass, c_refuse, t1, t2, t3, t4, hC.2.2.1, t1]
        exact hQ _ (RC.p (RC.r _)) gp_1
      · unfold wpX4_bands
        refine mo_1 hM hQ (fun M0 hM hQ => ?_)
        have hMT := hM.mt hj
        rw [hx] at hMT
        obtain ⟨u1, u2, u3, u4, u5, u6⟩ := hMT
        simp (disch := omega) only [iI_lit, iI_neg, iI_add, iI_sub, iI_mul, iI_lt, iI_le, iI_eq, iI_in, iI_clamp, iI_mx, iI_mn, iI_nI, Int.toNat_natCast, forall_eq, br_1, br_2, br_3, br_4, br_in, br_5, br_6, br_7, br_8, ex_c, br_nl, br_le, br_ne, gp_1, gp_2, gp_3, gf_1, gf_2, ix_0, ix_1, ix_2, ix_3, tn_1, tn_2, pp_1, m_isS_y hM hG hj, m_in_y, m_in_n, u1.1, u2, u3, u4, u5, hM.2.2.2.2.1, u2]
        exact m_refused hQ (RM.r _)
