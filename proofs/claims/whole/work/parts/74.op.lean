/-! calls that change a stream -/
def sX (S : Gs) (j : Nat) (x : St) : Gs := (fun i => if i = j then x else gT S i, gk S, gE S, gS S, gt S, gF S, gP S, gB S, gn S)
theorem CS.x {mk j : Nat} {S : Gs} {M M' : Mem} {x : St} (h : CS mk S M) (hG : GI S) (hj : j < gk S) (hF : Fr (100 + 20 * j) (100 + 20 * j + 9) M M') (hT : CT M' (100 + 20 * j) x) : CS mk (sX S j x) M' := by
  obtain ⟨h1, h2, h3, h4, h5, h6, h7, h8, h9, h10⟩ := h
  have hk := hG.1
  refine ⟨h1, ?_, ?_, ?_, ?_, ?_, ?_, ?_, ?_, ?_⟩
  · rw [hF.g (by omega)]
    exact h2
  · rw [hF.g (by omega)]
    exact h3
  · rw [hF.g (by omega)]
    exact h4
  · rw [hF.g (by omega)]
    exact h5
  · rw [hF.g (by omega)]
    exact h6
  · rw [hF.g (by omega)]
    exact h7
  · rw [hF.g (by omega)]
    exact h8
  · intro i hi
    rw [hF.g (by omega)]
    exact h9 i hi
  · intro i hi
    have hi' : i < gk S := hi
    show CT M' (100 + 20 * i) (if i = j then x else gT S i)
    by_cases c : i = j
    · rw [if_pos c, c]
      exact hT
    · rw [if_neg c]
      exact (h10 i hi).fr hF (by omega)
theorem GI.nb {S : Gs} (h : GI S) {j : Nat} (hj : j < gk S) : tn (gT S j) ≤ 1000 := Nat.le_trans (h.si hj).1.2.1 (h.si hj).1.1
theorem MS.x {j : Nat} {S : Gs} {M M' : Mem} {x : St} (h : MS S M) (hG : GI S) (hj : j < gk S) (hF : FrM j M M') (hT : MT M' j x) : MS (sX S j x) M' := by
  obtain ⟨h1, h2, h3, h4', h5, h6, h7, h8, h9⟩ := h
  have hk := hG.1
  refine ⟨?_, ?_, ?_, ?_, ?_, ?_, ?_, ?_, ?_⟩
  · rw [hF.2 _ _ (by omega) (by omega)]
    exact h1
  · rw [hF.2 _ _ (by omega) (by omega)]
    exact h2
  · rw [hF.2 _ _ (by omega) (by omega)]
    exact h3
  · rw [hF.2 _ _ (by omega) (by omega)]
    exact h4'
  · rw [hF.2 _ _ (by omega) (by omega)]
    exact h5
  · rw [hF.2 _ _ (by omega) (by omega)]
    exact h6
  · rw [hF.2 _ _ (by omega) (by omega)]
    exact h7
  · intro i hi
    rw [hF.2 _ _ (by omega) (by omega)]
    exact h8 i hi
  · intro i hi
    have hi' : i < gk S := hi
    show MT M' i (if i = j then x else gT S i)
    by_cases c : i = j
    · rw [if_pos c, c]
      exact hT
    · rw [if_neg c]
      exact (h9 i hi).fm (hG.nb hi') hF c
theorem GI.x {S : Gs} {j : Nat} {x : St} (h : GI S) (hx : SI x) : GI (sX S j x) := by
  obtain ⟨h1, h2, h3, h4, h5, h6, h7, h8, h9, h10⟩ := h
  refine ⟨h1, h2, h3, h4, h5, h6, h7, h8, h9, ?_⟩
  intro i hi
  show SI (if i = j then x else gT S i)
  split
  · exact hx
  · exact h10 i hi
theorem FrM.fr {j : Nat} {M M' : Mem} (h : FrM j M M') : Fr 200 299 M M' := ⟨h.1, fun b hb => funext (fun k => h.2 b k (by omega) (by omega))⟩
theorem MS.rm {S : Gs} {M M' : Mem} (h : MS S M) (hG : GI S) (hR : RM M M') (h1 : gI M' 200 1 = gI M 200 1) (h2 : gI M' 200 2 = gI M 200 2) : MS S M' := by
  obtain ⟨a1, a2, h3, h4', h5, h6, h7, h8, h9⟩ := h
  have hk := hG.1
  refine ⟨h1.trans a1, h2.trans a2, ?_, ?_, ?_, ?_, ?_, ?_, ?_⟩
  · rw [hR.2 _ _ (by omega) (by omega) (by omega)]
    exact h3
  · rw [hR.2 _ _ (by omega) (by omega) (by omega)]
    exact h4'
  · rw [hR.2 _ _ (by omega) (by omega) (by omega)]
    exact h5
  · rw [hR.2 _ _ (by omega) (by omega) (by omega)]
    exact h6
  · rw [hR.2 _ _ (by omega) (by omega) (by omega)]
    exact h7
  · intro i hi
    rw [hR.2 _ _ (by omega) (by omega) (by omega)]
    exact h8 i hi
  · intro j hj
    have hn := hG.nb hj
    obtain ⟨t1, t2, t3, t4, t5, t6⟩ := h9 j hj
    refine ⟨⟨?_, ?_⟩, ?_, ?_, ?_, ?_, ?_⟩
    · rw [hR.2 _ _ (by omega) (by omega) (by omega)]
      exact t1.1
    · intro k hk'
      rw [hR.2 _ _ (by omega) (by omega) (by omega), hR.2 _ _ (by omega) (by omega) (by omega), hR.2 _ _ (by omega) (by omega) (by omega)]
      exact t1.2 k hk'
    · rw [hR.2 _ _ (by omega) (by omega) (by omega)]
      exact t2
    · rw [hR.2 _ _ (by omega) (by omega) (by omega)]
      exact t3
    · rw [hR.2 _ _ (by omega) (by omega) (by omega)]
      exact t4
    · rw [hR.2 _ _ (by omega) (by omega) (by omega)]
      exact t5
    · intro k hk'
      rw [hR.2 _ _ (by omega) (by omega) (by omega)]
      exact t6 k hk'
theorem m_good_eq {M : Mem} {Q : Qi} {r : Int32} : wpX4_good M r Q = Q r (pI (pI M 200 1 (iI 0)) 200 2 (iI (-1))) := by
  unfold wpX4_good
  simp (disch := omega) only [iI_lit, iI_neg, iI_add, iI_sub, iI_mul, iI_lt, iI_le, iI_eq, iI_in, iI_clamp, iI_mx, iI_mn, iI_nI, Int.toNat_natCast, forall_eq, br_1, br_2, br_3, br_4, br_in, br_5, br_6, br_7, br_8, ex_c, br_nl, br_le, br_ne, gp_1, gp_2, gp_3, gf_1, gf_2]
theorem m_ref_eq {M : Mem} {Q : Qi} {t : Int} : wpX4_refused M (iI t) Q = Q (iI (-1)) (pI (pI M 200 1 (iI t)) 200 2 (iI (-1))) := by
  unfold wpX4_refused
  simp (disch := omega) only [iI_lit, iI_neg, iI_add, iI_sub, iI_mul, iI_lt, iI_le, iI_eq, iI_in, iI_clamp, iI_mx, iI_mn, iI_nI, Int.toNat_natCast, forall_eq, br_1, br_2, br_3, br_4, br_in, br_5, br_6, br_7, br_8, ex_c, br_nl, br_le, br_ne, gp_1, gp_2, gp_3, gf_1, gf_2]
theorem Good.up {mk j : Nat} {S : Gs} {M : Mem} {c : Qi → Prop} {m : Mem → Qi → Prop} (r : Int32) (x' : St) (hC : CS mk S M) (hG : GI S) (hj : j < gk S) (hx : SI x')
    (h1 : ∀ Q : Qi, (∀ M1, Fr (100 + 20 * j) (100 + 20 * j + 9) M M1 → CT M1 (100 + 20 * j) x' → Q r (pI M1 0 5 (iI 0))) → c Q)
    (h2 : ∀ M1, MS S M1 → ∀ Q : Qi, (∀ M2, FrM j (pI M1 200 0 (iI 0)) M2 → MT M2 j x' → wpX4_good M2 r Q) → m M1 Q) : Good mk S c m M := by
  have hk := hG.1
  refine ⟨sT (sX S j x') 0, r, (hG.x hx).t (by omega), fun Q hQ => h1 Q (fun M1 hF hT => ?_), fun M1 hM Q hQ => h2 M1 hM Q (fun M2 hF hT => ?_)⟩
  · refine hQ _ ((hC.x hG hj hF hT).t (hG.x hx) (RC.p (RC.r _)) gp_1) (Fr.t (hF.w (by omega) (by omega)) (RC.fr (RC.p (RC.r _))))
  · rw [m_good_eq]
    have hM0 : MS S (pI M1 200 0 (iI 0)) := hM.p (by omega)
    have hM2 := hM0.x hG hj hF hT
    refine hQ _ (hM2.t (hG.x hx) (RM.p (RM.p (RM.r _) (by omega)) (by omega)) (by simp (disch := omega) only [iI_lit, iI_neg, iI_add, iI_sub, iI_mul, iI_lt, iI_le, iI_eq, iI_in, iI_clamp, iI_mx, iI_mn, iI_nI, Int.toNat_natCast, forall_eq, br_1, br_2, br_3, br_4, br_in, br_5, br_6, br_7, br_8, ex_c, br_nl, br_le, br_ne, gp_1, gp_2, gp_3, gf_1, gf_2]) (by simp (disch := omega) only [iI_lit, iI_neg, iI_add, iI_sub, iI_mul, iI_lt, iI_le, iI_eq, iI_in, iI_clamp, iI_mx, iI_mn, iI_nI, Int.toNat_natCast, forall_eq, br_1, br_2, br_3, br_4, br_in, br_5, br_6, br_7, br_8, ex_c, br_nl, br_le, br_ne, gp_1, gp_2, gp_3, gf_1, gf_2]) (by omega)) ?_
    exact Fr.t (Fr.t (RM.fr (RM.p (RM.r _) (by omega))) hF.fr) (RM.fr (RM.p (RM.p (RM.r _) (by omega)) (by omega)))
theorem op_push {mk : Nat} {S : Gs} {M : Mem} (hC : CS mk S M) (hG : GI S) (a b : Int32) : Good mk S (fun Q => wpX3_push mk M a b Q) (fun M1 Q => wpX4_push M1 a b Q) M := by
  obtain ⟨z, rfl, hz⟩ := iI_of a
  obtain ⟨q, rfl, hq⟩ := iI_of b
  by_cases c0 : ¬ (0 ≤ z ∧ z < gk S)
  · refine Good.ro (iI (-1)) 1 hC hG (by omega) (fun Q hQ => ?_) (fun M1 hM Q hQ => ?_)
    · simp only [wpX3_push, iI_lit, c_find_n hC hG hz c0, o_none, o_none2, c_refuse]
      exact hQ _ (RC.p (RC.r _)) gp_1
    · unfold wpX4_push
      refine mo_1 hM hQ (fun M0 hM hQ => ?_)
      simp (disch := omega) only [iI_lit, iI_neg, iI_add, iI_sub, iI_mul, iI_lt, iI_le, iI_eq, iI_in, iI_clamp, iI_mx, iI_mn, iI_nI, Int.toNat_natCast, forall_eq, br_1, br_2, br_3, br_4, br_in, br_5, br_6, br_7, br_8, ex_c, br_nl, br_le, br_ne, gp_1, gp_2, gp_3, gf_1, gf_2, m_isS_n hM hG hz c0]
      exact m_refused hQ (RM.r _)
  obtain ⟨j, rfl⟩ : ∃ j : Nat, z = j := ⟨z.toNat, by omega⟩
  have hj : j < gk S := by omega
  have hk := hG.1
  have hT := hC.ct hj
  have hS := hG.si hj
  have hE := hG.er hj
  obtain ⟨x, hx⟩ : ∃ x, gT S j = x := ⟨_, rfl⟩
  rw [hx] at hT hS
  have hN := hS.1.1
  have hn := hS.1.2.1
  obtain ⟨t1, t2, t3, t4, t5, t6⟩ := hT
  by_cases c1 : 0 ≤ q ∧ q < 1000
  · by_cases c2 : tN x < 1000
    · refine Good.up (iI (tn (xPush x q (gE S)))) (xPush x q (gE S)) hC hG hj (SI_push _ hS c2 c1) (fun Q hQ => ?_) (fun M1 hM Q hQ => ?_)
      · simp only [wpX3_push, c_find_y hC hG hj, o_some]
        simp (disch := omega) only [iI_lit, iI_neg, iI_add, iI_sub, iI_mul, iI_lt, iI_le, iI_eq, iI_in, iI_clamp, iI_mx, iI_mn, iI_nI, Int.toNat_natCast, forall_eq, br_1, br_2, br_3, br_4, br_in, br_5, br_6, br_7, br_8, ex_c, br_nl, br_le, br_ne, gp_1, gp_2, gp_3, gf_1, gf_2, e_isValue, t1, hC.2.2.1]
        refine e_pushValue hE c1 ⟨t1, t2, t3, t4, t5, t6⟩ hS c2 (fun M2 hF hT => ?_)
        rw [hT.cr.1, c_pass]
        exact hQ M2 hF hT
      · unfold wpX4_push
        rw [forall_eq]
        simp only [iI_lit]
        have hM : MS S (pI M1 200 0 (iI 0)) := hM.p (by omega)
        have hMT := hM.mt hj
        rw [hx] at hMT
        simp (disch := omega) only [iI_lit, iI_neg, iI_add, iI_sub, iI_mul, iI_lt, iI_le, iI_eq, iI_in, iI_clamp, iI_mx, iI_mn, iI_nI, Int.toNat_natCast, forall_eq, br_1, br_2, br_3, br_4, br_in, br_5, br_6, br_7, br_8, ex_c, br_nl, br_le, br_ne, gp_1, gp_2, gp_3, gf_1, gf_2, ix_0, ix_1, ix_2, ix_3, tn_1, tn_2, pp_1, m_isS_y hM hG hj, m_isValue_y, hMT.2.1]
        refine m_pushes (by omega) hM.2.2.2.2.1 hE c1 hMT hS c2 (fun M2 hF hT => ?_)
        simp (disch := omega) only [iI_lit, iI_neg, iI_add, iI_sub, iI_mul, iI_lt, iI_le, iI_eq, iI_in, iI_clamp, iI_mx, iI_mn, iI_nI, Int.toNat_natCast, forall_eq, br_1, br_2, br_3, br_4, br_in, br_5, br_6, br_7, br_8, ex_c, br_nl, br_le, br_ne, gp_1, gp_2, gp_3, gf_1, gf_2, ix_0, ix_1, ix_2, ix_3, tn_1, tn_2, pp_1, hT.1.1]
        exact hQ M2 hF hT
    · skip
      refine Good.ro (iI (-1)) 3 hC hG (by omega) (fun Q hQ => ?_) (fun M1 hM Q hQ => ?_)
      · simp only [wpX3_push, c_find_y hC hG hj, o_some]
        simp (disch := omega) only [iI_lit, iI_neg, iI_add, iI_sub, iI_mul, iI_lt, iI_le, iI_eq, iI_in, iI_clamp, iI_mx, iI_mn, iI_nI, Int.toNat_natCast, forall_eq, br_1, br_2, br_3, br_4, br_in, br_5, br_6, br_7, br_8, ex_c, br_nl, br_le, br_ne, gp_1, gp_2, gp_3, gf_1, gf_2, c_pass, c_refuse, t1, t2, t3, t4, hC.2.2.1, e_isValue]
        exact hQ _ (RC.p (RC.r _)) gp_1
      · unfold wpX4_push
        refine mo_1 hM hQ (fun M0 hM hQ => ?_)
        have hMT := hM.mt hj
        rw [hx] at hMT
        obtain ⟨u1, u2, u3, u4, u5, u6⟩ := hMT
        simp (disch := omega) only [iI_lit, iI_neg, iI_add, iI_sub, iI_mul, iI_lt, iI_le, iI_eq, iI_in, iI_clamp, iI_mx, iI_mn, iI_nI, Int.toNat_natCast, forall_eq, br_1, br_2, br_3, br_4, br_in, br_5, br_6, br_7, br_8, ex_c, br_nl, br_le, br_ne, gp_1, gp_2, gp_3, gf_1, gf_2, ix_0, ix_1, ix_2, ix_3, tn_1, tn_2, pp_1, m_isS_y hM hG hj, m_in_y, m_in_n, u1.1, u2, u3, u4, u5, hM.2.2.2.2.1, m_isValue_y]
        exact m_refused hQ (RM.r _)
  · skip
    refine Good.ro (iI (-1)) 2 hC hG (by omega) (fun Q hQ => ?_) (fun M1 hM Q hQ => ?_)
    · simp only [wpX3_push, c_find_y hC hG hj, o_some]
      simp (disch := omega) only [iI_lit, iI_neg, iI_add, iI_sub, iI_mul, iI_lt, iI_le, iI_eq, iI_in, iI_clamp, iI_mx, iI_mn, iI_nI, Int.toNat_natCast, forall_eq, br_1, br_2, br_3, br_4, br_in, br_5, br_6, br_7, br_8, ex_c, br_nl, br_le, br_ne, gp_1, gp_2, gp_3, gf_1, gf_2, c_pass, c_refuse, t1, t2, t3, t4, hC.2.2.1, c_isValue_n]
      exact hQ _ (RC.p (RC.r _)) gp_1
    · unfold wpX4_push
      refine mo_1 hM hQ (fun M0 hM hQ => ?_)
      have hMT := hM.mt hj
      rw [hx] at hMT
      obtain ⟨u1, u2, u3, u4, u5, u6⟩ := hMT
      simp (disch := omega) only [iI_lit, iI_neg, iI_add, iI_sub, iI_mul, iI_lt, iI_le, iI_eq, iI_in, iI_clamp, iI_mx, iI_mn, iI_nI, Int.toNat_natCast, forall_eq, br_1, br_2, br_3, br_4, br_in, br_5, br_6, br_7, br_8, ex_c, br_nl, br_le, br_ne, gp_1, gp_2, gp_3, gf_1, gf_2, ix_0, ix_1, ix_2, ix_3, tn_1, tn_2, pp_1, m_isS_y hM hG hj, m_in_y, m_in_n, u1.1, u2, u3, u4, u5, hM.2.2.2.2.1, m_isValue_n]
      exact m_refused hQ (RM.r _)
theorem op_compress {mk : Nat} {S : Gs} {M : Mem} (hC : CS mk S M) (hG : GI S) (a : Int32) : Good mk S (fun Q => wpX3_compress mk M a Q) (fun M1 Q => wpX4_compress M1 a Q) M := by
  obtain ⟨z, rfl, hz⟩ := iI_of a
  by_cases c0 : ¬ (0 ≤ z ∧ z < gk S)
  · refine Good.ro (iI (-1)) 1 hC hG (by omega) (fun Q hQ => ?_) (fun M1 hM Q hQ => ?_)
    · simp only [wpX3_compress, iI_lit, c_find_n hC hG hz c0, o_none, o_none2, c_refuse]
      exact hQ _ (RC.p (RC.r _)) gp_1
    · unfold wpX4_compress
      refine mo_1 hM hQ (fun M0 hM hQ => ?_)
      simp (disch := omega) only [iI_lit, iI_neg, iI_add, iI_sub, iI_mul, iI_lt, iI_le, iI_eq, iI_in, iI_clamp, iI_mx, iI_mn, iI_nI, Int.toNat_natCast, forall_eq, br_1, br_2, br_3, br_4, br_in, br_5, br_6, br_7, br_8, ex_c, br_nl, br_le, br_ne, gp_1, gp_2, gp_3, gf_1, gf_2, m_isS_n hM hG hz c0]
      exact m_refused hQ (RM.r _)
  obtain ⟨j, rfl⟩ : ∃ j : Nat, z = j := ⟨z.toNat, by omega⟩
  have hj : j < gk S := by omega
  have hk := hG.1
  have hT := hC.ct hj
  have hS := hG.si hj
  have hE := hG.er hj
  obtain ⟨x, hx⟩ : ∃ x, gT S j = x := ⟨_, rfl⟩
  rw [hx] at hT hS
  have hN := hS.1.1
  have hn := hS.1.2.1
  obtain ⟨t1, t2, t3, t4, t5, t6⟩ := hT
  refine Good.up (iI ((tn x : Int) - (xK x (gE S)).length)) (xShort x (gE S)) hC hG hj (SI_short _ hS.1 hS.2.1 ⟨hS.2.2.1, hS.2.2.2.1⟩) (fun Q hQ => ?_) (fun M1 hM Q hQ => ?_)
  · simp only [wpX3_compress, c_find_y hC hG hj, o_some]
    simp (disch := omega) only [iI_lit, iI_neg, iI_add, iI_sub, iI_mul, iI_lt, iI_le, iI_eq, iI_in, iI_clamp, iI_mx, iI_mn, iI_nI, Int.toNat_natCast, forall_eq, br_1, br_2, br_3, br_4, br_in, br_5, br_6, br_7, br_8, ex_c, br_nl, br_le, br_ne, gp_1, gp_2, gp_3, gf_1, gf_2, hC.2.2.1]
    refine e_shortenRow hE ⟨t1, t2, t3, t4, t5, t6⟩ hS.1 (fun M2 hF hT => ?_)
    rw [c_pass]
    exact hQ M2 hF hT
  · unfold wpX4_compress
    rw [forall_eq]
    simp only [iI_lit]
    have hM : MS S (pI M1 200 0 (iI 0)) := hM.p (by omega)
    have hMT := hM.mt hj
    rw [hx] at hMT
    simp (disch := omega) only [iI_lit, iI_neg, iI_add, iI_sub, iI_mul, iI_lt, iI_le, iI_eq, iI_in, iI_clamp, iI_mx, iI_mn, iI_nI, Int.toNat_natCast, forall_eq, br_1, br_2, br_3, br_4, br_in, br_5, br_6, br_7, br_8, ex_c, br_nl, br_le, br_ne, gp_1, gp_2, gp_3, gf_1, gf_2, ix_0, ix_1, ix_2, ix_3, tn_1, tn_2, pp_1, m_isS_y hM hG hj]
    exact m_compresses (by omega) hM.2.2.2.2.1 hE hMT hS.1 (fun M2 hF hT => hQ M2 hF hT)
theorem op_clear {mk : Nat} {S : Gs} {M : Mem} (hC : CS mk S M) (hG : GI S) (a : Int32) : Good mk S (fun Q => wpX3_clear mk M a Q) (fun M1 Q => wpX4_clear M1 a Q) M := by
  obtain ⟨z, rfl, hz⟩ := iI_of a
  by_cases c0 : ¬ (0 ≤ z ∧ z < gk S)
  · refine Good.ro (iI (-1)) 1 hC hG (by omega) (fun Q hQ => ?_) (fun M1 hM Q hQ => ?_)
    · simp only [wpX3_clear, iI_lit, c_find_n hC hG hz c0, o_none, o_none2, c_refuse]
      exact hQ _ (RC.p (RC.r _)) gp_1
    · unfold wpX4_clear
      refine mo_1 hM hQ (fun M0 hM hQ => ?_)
      simp (disch := omega) only [iI_lit, iI_neg, iI_add, iI_sub, iI_mul, iI_lt, iI_le, iI_eq, iI_in, iI_clamp, iI_mx, iI_mn, iI_nI, Int.toNat_natCast, forall_eq, br_1, br_2, br_3, br_4, br_in, br_5, br_6, br_7, br_8, ex_c, br_nl, br_le, br_ne, gp_1, gp_2, gp_3, gf_1, gf_2, m_isS_n hM hG hz c0]
      exact m_refused hQ (RM.r _)
  obtain ⟨j, rfl⟩ : ∃ j : Nat, z = j := ⟨z.toNat, by omega⟩
  have hj : j < gk S := by omega
  have hk := hG.1
  have hT := hC.ct hj
  have hS := hG.si hj
  have hE := hG.er hj
  obtain ⟨x, hx⟩ : ∃ x, gT S j = x := ⟨_, rfl⟩
  rw [hx] at hT hS
  have hN := hS.1.1
  have hn := hS.1.2.1
  obtain ⟨t1, t2, t3, t4, t5, t6⟩ := hT
  refine Good.up (iI (tN x)) (xDrop x) hC hG hj (SI_drop hS) (fun Q hQ => ?_) (fun M1 hM Q hQ => ?_)
  · simp only [wpX3_clear, c_find_y hC hG hj, o_some]
    simp (disch := omega) only [iI_lit, iI_neg, iI_add, iI_sub, iI_mul, iI_lt, iI_le, iI_eq, iI_in, iI_clamp, iI_mx, iI_mn, iI_nI, Int.toNat_natCast, forall_eq, br_1, br_2, br_3, br_4, br_in, br_5, br_6, br_7, br_8, ex_c, br_nl, br_le, br_ne, gp_1, gp_2, gp_3, gf_1, gf_2, t1]
    refine e_dropValues ⟨t1, t2, t3, t4, t5, t6⟩ (fun M2 hF hT => ?_)
    rw [c_pass]
    exact hQ M2 hF hT
  · unfold wpX4_clear
    rw [forall_eq]
    simp only [iI_lit]
    have hM : MS S (pI M1 200 0 (iI 0)) := hM.p (by omega)
    have hMT := hM.mt hj
    rw [hx] at hMT
    simp (disch := omega) only [iI_lit, iI_neg, iI_add, iI_sub, iI_mul, iI_lt, iI_le, iI_eq, iI_in, iI_clamp, iI_mx, iI_mn, iI_nI, Int.toNat_natCast, forall_eq, br_1, br_2, br_3, br_4, br_in, br_5, br_6, br_7, br_8, ex_c, br_nl, br_le, br_ne, gp_1, gp_2, gp_3, gf_1, gf_2, ix_0, ix_1, ix_2, ix_3, tn_1, tn_2, pp_1, m_isS_y hM hG hj, hMT.2.1]
    exact m_empties (by omega) hMT (fun M2 hF hT => hQ M2 hF hT)
