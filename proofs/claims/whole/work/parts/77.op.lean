/-! MERGED -/
theorem CT.cg {b : Nat} {x : St} {M M' : Mem} (h : CT M b x) (hF : ∀ a, b ≤ a → a ≤ b + 9 → M'.1 a = M.1 a) : CT M' b x := by
  have g : ∀ a k, b ≤ a → a ≤ b + 9 → gI M' a k = gI M a k := fun a k p q => congrFun (hF a p q) k
  obtain ⟨h1, h2, h3, h4, h5, h6, h7⟩ := h
  refine ⟨?_, ?_, ?_, ?_, ?_, ?_, ?_⟩
  · rw [g _ _ (by omega) (by omega)]
    exact h1
  · rw [g _ _ (by omega) (by omega)]
    exact h2
  · rw [g _ _ (by omega) (by omega)]
    exact h3
  · rw [g _ _ (by omega) (by omega)]
    exact h4
  · intro k hk
    rw [g _ _ (by omega) (by omega)]
    exact h5 k hk
  · rw [g _ _ (by omega) (by omega)]
    exact h6
  · intro k hk
    rw [g _ _ (by omega) (by omega), g _ _ (by omega) (by omega), g _ _ (by omega) (by omega)]
    exact h7 k hk
theorem CS.y {mk j i : Nat} {S : Gs} {M M' : Mem} {x y : St} (h : CS mk S M) (hG : GI S) (hj : j < gk S) (hi : i < gk S)
    (hF : ∀ b, ¬ (10 ≤ b ∧ b ≤ 24) → ¬ (100 + 20 * j ≤ b ∧ b ≤ 100 + 20 * j + 9) → ¬ (100 + 20 * i ≤ b ∧ b ≤ 100 + 20 * i + 9) → M'.1 b = M.1 b) (hT : CT M' (100 + 20 * j) x) (hU : CT M' (100 + 20 * i) y) : CS mk (sX (sX S j x) i y) M' := by
  obtain ⟨h1, h2, h3, h4, h5, h6, h7, h8, h9, h10⟩ := h
  have hk := hG.1
  have g : ∀ b k, b < 10 → gI M' b k = gI M b k := fun b k q => congrFun (hF b (by omega) (by omega) (by omega)) k
  refine ⟨h1, ?_, ?_, ?_, ?_, ?_, ?_, ?_, ?_, ?_⟩
  · rw [g _ _ (by omega)]
    exact h2
  · rw [g _ _ (by omega)]
    exact h3
  · rw [g _ _ (by omega)]
    exact h4
  · rw [g _ _ (by omega)]
    exact h5
  · rw [g _ _ (by omega)]
    exact h6
  · rw [g _ _ (by omega)]
    exact h7
  · rw [g _ _ (by omega)]
    exact h8
  · intro i hi
    rw [g _ _ (by omega)]
    exact h9 i hi
  · intro k hk'
    have hk2 : k < gk S := hk'
    show CT M' (100 + 20 * k) (if k = i then y else if k = j then x else gT S k)
    by_cases c : k = i
    · rw [if_pos c, c]
      exact hU
    · rw [if_neg c]
      by_cases c2 : k = j
      · rw [if_pos c2, c2]
        exact hT
      · rw [if_neg c2]
        exact (h10 k hk').cg (fun a p q => hF a (by omega) (by omega) (by omega))
theorem MT.cg {s : Nat} {x : St} {M M' : Mem} (h : MT M s x) (hn : tn x ≤ 1000) (hF : ∀ a k, ((220 ≤ a ∧ a ≤ 222 ∨ a = 228) ∧ 1000 * s ≤ k ∧ k < 1000 * s + 1000) ∨ (223 ≤ a ∧ a ≤ 227 ∧ k = s) → gI M' a k = gI M a k) : MT M' s x := by
  obtain ⟨t1, t2, t3, t4, t5, t6⟩ := h
  refine ⟨⟨?_, ?_⟩, ?_, ?_, ?_, ?_, ?_⟩
  · rw [hF _ _ (by omega)]
    exact t1.1
  · intro k hk
    rw [hF _ _ (by omega), hF _ _ (by omega), hF _ _ (by omega)]
    exact t1.2 k hk
  · rw [hF _ _ (by omega)]
    exact t2
  · rw [hF _ _ (by omega)]
    exact t3
  · rw [hF _ _ (by omega)]
    exact t4
  · rw [hF _ _ (by omega)]
    exact t5
  · intro k hk
    rw [hF _ _ (by omega)]
    exact t6 k hk
def inM (s a k : Nat) : Prop := ((220 ≤ a ∧ a ≤ 222 ∨ a = 228) ∧ 1000 * s ≤ k ∧ k < 1000 * s + 1000) ∨ (223 ≤ a ∧ a ≤ 227 ∧ k = s)
theorem MS.y {j i : Nat} {S : Gs} {M M' : Mem} {x y : St} (h : MS S M) (hG : GI S) (hj : j < gk S) (hi : i < gk S)
    (hF : ∀ a k, ¬ inM 4 a k → ¬ inM j a k → ¬ inM i a k → gI M' a k = gI M a k) (hT : MT M' j x) (hU : MT M' i y) : MS (sX (sX S j x) i y) M' := by
  obtain ⟨h1, h2, h3, h4', h5, h6, h7, h8, h9⟩ := h
  have hk := hG.1
  unfold inM at hF
  have g : ∀ b k, b < 220 → gI M' b k = gI M b k := fun b k q => hF b k (by omega) (by omega) (by omega)
  refine ⟨?_, ?_, ?_, ?_, ?_, ?_, ?_, ?_, ?_⟩
  · rw [g _ _ (by omega)]
    exact h1
  · rw [g _ _ (by omega)]
    exact h2
  · rw [g _ _ (by omega)]
    exact h3
  · rw [g _ _ (by omega)]
    exact h4'
  · rw [g _ _ (by omega)]
    exact h5
  · rw [g _ _ (by omega)]
    exact h6
  · rw [g _ _ (by omega)]
    exact h7
  · intro i hi
    rw [g _ _ (by omega)]
    exact h8 i hi
  · intro k hk'
    have hk2 : k < gk S := hk'
    show MT M' k (if k = i then y else if k = j then x else gT S k)
    by_cases c : k = i
    · rw [if_pos c, c]
      exact hU
    · rw [if_neg c]
      by_cases c2 : k = j
      · rw [if_pos c2, c2]
        exact hT
      · rw [if_neg c2]
        exact (h9 k hk').cg (hG.nb hk2) (fun a q hq => hF a q (by omega) (by omega) (by omega))
theorem l_mmerge {M : Mem} {Q : Qi} {j i : Nat} {c c' : Nat → Int} (hj : j < 4) (hi : i < 4) (hji : ¬ j = i) (hc' : MC M i c')
    (hQ : ∀ M', (M'.2 = M.2 ∧ ∀ a k, ¬ (a = 228 ∧ 1000 * j ≤ k ∧ k < 1000 * j + 1000) → gI M' a k = gI M a k) → MC M' j (fun k => c k + c' k) →
      wpX4_copiesRow M' (iI 4) (iI j) (fun M_5 => wpX4_empties M_5 (iI i) (fun M_6 => ∀ M_8 : Mem, M_8 = pI (pI M_6 226 j (iI 0)) 227 j (gI (pI M_6 226 j (iI 0)) 227 j + iI 1) → wpX4_good M_8 (gI M_8 223 j) Q))) :
    ∀ f v M1, 1000 - v = f → v ≤ 1000 → (M1.2 = M.2 ∧ ∀ a k, ¬ (a = 228 ∧ 1000 * j ≤ k ∧ k < 1000 * j + 1000) → gI M1 a k = gI M a k) → (∀ k, k < v → gI M1 228 (1000 * j + k) = iI (c k + c' k)) → (∀ k, v ≤ k → k < 1000 → gI M1 228 (1000 * j + k) = iI (c k)) → ∃ m, wX4_merge_54 Q (iI j) (iI i) m M1 (iI (v : Nat)) := by
  intro f
  induction f with
  | zero =>
    intro v M1 hf hv hF hlo hhi
    have := hQ M1 hF (fun k hk => hlo k (by omega))
    rw [ex_s rfl]
    simp only [wX4_merge_54]
    simp (disch := omega) only [iI_lit, iI_neg, iI_add, iI_sub, iI_mul, iI_lt, iI_le, iI_eq, iI_in, iI_clamp, iI_mx, iI_mn, iI_nI, Int.toNat_natCast, forall_eq, br_1, br_2, br_3, br_4, br_in, br_5, br_6, br_7, br_8, ex_c, br_nl, br_le, br_ne, gp_1, gp_2, gp_3, gf_1, gf_2, ix_0, ix_1, ix_2, ix_3, tn_1, tn_2, pp_1]
    simp only [forall_eq, iI_add] at this
    exact this
  | succ f ih =>
    intro v M1 hf hv hF hlo hhi
    have g1 := hhi v (Nat.le_refl v) (by omega)
    have g2 := hF.2 228 (1000 * i + v) (by omega)
    rw [hc' v (by omega)] at g2
    rw [ex_s rfl]
    simp only [wX4_merge_54]
    simp (disch := omega) only [iI_lit, iI_neg, iI_add, iI_sub, iI_mul, iI_lt, iI_le, iI_eq, iI_in, iI_clamp, iI_mx, iI_mn, iI_nI, Int.toNat_natCast, forall_eq, br_1, br_2, br_3, br_4, br_in, br_5, br_6, br_7, br_8, ex_c, br_nl, br_le, br_ne, gp_1, gp_2, gp_3, gf_1, gf_2, ix_0, ix_1, ix_2, ix_3, tn_1, tn_2, pp_1, g1, g2]
    have := ih (v + 1) (pI M1 228 (1000 * j + v) (iI (c v + c' v))) (by omega) (by omega) ⟨hF.1, fun a k q => by
      rw [gI_pI, if_neg (by omega)]
      exact hF.2 a k q⟩ (fun k hk => by
      by_cases q : k = v
      · rw [q, gp_1]
      · rw [gp_3 (by omega)]
        exact hlo k (by omega)) (fun k hk hk2 => by
      rw [gp_3 (by omega)]
      exact hhi k (by omega) hk2)
    simpa using this
theorem op_merge {mk : Nat} {S : Gs} {M : Mem} (hC : CS mk S M) (hG : GI S) (a b : Int32) : Good mk S (fun Q => wpX3_merge mk M a b Q) (fun M1 Q => wpX4_merge M1 a b Q) M := by
  obtain ⟨z, rfl, hz⟩ := iI_of a
  obtain ⟨y, rfl, hy⟩ := iI_of b
  by_cases c0 : ¬ (0 ≤ z ∧ z < gk S ∧ 0 ≤ y ∧ y < gk S ∧ ¬ z = y)
  · refine Good.ro (iI (-1)) 1 hC hG (by omega) (fun Q hQ => ?_) (fun M1 hM Q hQ => ?_)
    · unfold wpX3_merge
      rw [c_two_n hC hG hz hy c0]
      exact hQ _ (RC.p (RC.r _)) gp_1
    · unfold wpX4_merge
      refine mo_1 hM hQ (fun M0 hM hQ => ?_)
      simp (disch := omega) only [iI_lit, iI_neg, iI_add, iI_sub, iI_mul, iI_lt, iI_le, iI_eq, iI_in, iI_clamp, iI_mx, iI_mn, iI_nI, Int.toNat_natCast, forall_eq, br_1, br_2, br_3, br_4, br_in, br_5, br_6, br_7, br_8, ex_c, br_nl, br_le, br_ne, gp_1, gp_2, gp_3, gf_1, gf_2, m_two_n hM hG hz hy c0]
      exact m_refused hQ (RM.r _)
  obtain ⟨j, rfl⟩ : ∃ j : Nat, z = j := ⟨z.toNat, by omega⟩
  obtain ⟨i, rfl⟩ : ∃ j : Nat, y = j := ⟨y.toNat, by omega⟩
  have hj : j < gk S := by omega
  have hi : i < gk S := by omega
  have hji : ¬ j = i := by omega
  have hk := hG.1
  have hT := hC.ct hj
  have hT2 := hC.ct hi
  have hS := hG.si hj
  have hS2 := hG.si hi
  have hE := hG.er hj
  obtain ⟨x, hx⟩ : ∃ x, gT S j = x := ⟨_, rfl⟩
  obtain ⟨y, hy⟩ : ∃ y, gT S i = y := ⟨_, rfl⟩
  rw [hx] at hT hS
  rw [hy] at hT2 hS2
  have hN := hS.1.1
  have hn := hS.1.2.1
  have hN2 := hS2.1.1
  have hn2 := hS2.1.2.1
  obtain ⟨t1, t2, t3, t4, t5, t6⟩ := hT
  obtain ⟨s1, s2, s3, s4, s5, s6⟩ := hT2
  by_cases c1 : tN x + tN y ≤ 1000
  · have hbo := bo_b (n := (tN x + tN y : Nat)) (e := gE S) (by omega) hE.1
    have e4 : (tN x : Int) + tN y = (tN x + tN y : Nat) := by omega
    have hSI : SI (xShort (xJoin x y) (gE S)) := SI_merge _ hS hS2 c1
    have hG' : GI (sX (sX S j (xShort (xJoin x y) (gE S))) i (xDrop y)) := (hG.x hSI).x (SI_drop hS2)
    refine ⟨sT (sX (sX S j (xShort (xJoin x y) (gE S))) i (xDrop y)) 0, iI (tn (xShort (xJoin x y) (gE S))), hG'.t (by omega), fun Q hQ => ?_, fun M1 hM Q hQ => ?_⟩
    · show wpX3_merge mk M (iI j) (iI i) Q
      unfold wpX3_merge
      rw [c_two_y hC hG hj hi hji]
      simp (disch := omega) only [iI_lit, iI_neg, iI_add, iI_sub, iI_mul, iI_lt, iI_le, iI_eq, iI_in, iI_clamp, iI_mx, iI_mn, iI_nI, Int.toNat_natCast, forall_eq, br_1, br_2, br_3, br_4, br_in, br_5, br_6, br_7, br_8, ex_c, br_nl, br_le, br_ne, gp_1, gp_2, gp_3, gf_1, gf_2, t1, s1, e4]
      refine e_joinOf t6 s6 hS.1 hS2.1 c1 (by omega) (by omega) (fun M2 hF2 hC2 => ?_)
      refine e_copyOf hC2 (by omega) (by omega) (fun M3 hF3 hC3 => ?_)
      have b1 : ∀ k, gI M3 (100 + 20 * j) k = gI M (100 + 20 * j) k := fun k => (hF3.g (by omega) k).trans (hF2.g (by omega) k)
      have b2 : ∀ k, gI M3 (100 + 20 * i) k = gI M (100 + 20 * i) k := fun k => (hF3.g (by omega) k).trans (hF2.g (by omega) k)
      refine e_addCounts ((b1 2).trans t1) ((b2 2).trans s1) ((t5.fr hF2 (by omega)).fr hF3 (by omega)) ((s5.fr hF2 (by omega)).fr hF3 (by omega)) (by omega) (fun M4 hF4 k4 e5 hC4 => ?_)
      have key : CT M4 (100 + 20 * j) (xJoin x y) := ⟨e5, (k4 3 (by omega)).trans ((b1 3).trans t2), (k4 4 (by omega)).trans ((b1 4).trans t3), (k4 5 (by omega)).trans ((b1 5).trans t4), hC4, hC3.fr hF4 (by omega)⟩
      have keyU : CT M4 (100 + 20 * i) y := CT.fr (CT.fr (CT.fr ⟨s1, s2, s3, s4, s5, s6⟩ hF2 (by omega)) hF3 (by omega)) hF4 (by omega)
      refine e_dropValues keyU (fun M5 hF5 hT5 => ?_)
      have g03 : gI M5 0 3 = iI (gE S) := (hF5.g (by omega) 3).trans ((hF4.g (by omega) 3).trans ((hF3.g (by omega) 3).trans ((hF2.g (by omega) 3).trans hC.2.2.1)))
      rw [g03]
      refine e_shortenRow hE (key.fr hF5 (by omega)) (RI_join hS.1 hS2.1 c1) (fun M6 hF6 hT6 => ?_)
      rw [hT6.cr.1, c_pass]
      have hFa : ∀ b, ¬ (10 ≤ b ∧ b ≤ 24) → ¬ (100 + 20 * j ≤ b ∧ b ≤ 100 + 20 * j + 9) → ¬ (100 + 20 * i ≤ b ∧ b ≤ 100 + 20 * i + 9) → M6.1 b = M.1 b := fun b p q r => (hF6.2 b (by omega)).trans ((hF5.2 b (by omega)).trans ((hF4.2 b (by omega)).trans ((hF3.2 b (by omega)).trans (hF2.2 b (by omega)))))
      have hC6 := hC.y hG hj hi hFa hT6 (hT5.fr hF6 (by omega))
      refine hQ _ (hC6.t hG' (RC.p (RC.r _)) gp_1) (Fr.t ⟨?_, fun b hb => hFa b (by omega) (by omega) (by omega)⟩ (RC.fr (RC.p (RC.r _))))
      exact hF6.1.trans (hF5.1.trans (hF4.1.trans (hF3.1.trans hF2.1)))
    · show wpX4_merge M1 (iI j) (iI i) Q
      unfold wpX4_merge
      rw [forall_eq]
      simp only [iI_lit]
      have h0 : MS S (pI M1 200 0 (iI 0)) := hM.p (by omega)
      have hMT := h0.mt hj
      have hMU := h0.mt hi
      rw [hx] at hMT
      rw [hy] at hMU
      obtain ⟨u1, u2, u3, u4, u5, u6⟩ := hMT
      obtain ⟨v1, v2, v3, v4, v5, v6⟩ := hMU
      simp (disch := omega) only [iI_lit, iI_neg, iI_add, iI_sub, iI_mul, iI_lt, iI_le, iI_eq, iI_in, iI_clamp, iI_mx, iI_mn, iI_nI, Int.toNat_natCast, forall_eq, br_1, br_2, br_3, br_4, br_in, br_5, br_6, br_7, br_8, ex_c, br_nl, br_le, br_ne, gp_1, gp_2, gp_3, gf_1, gf_2, ix_0, ix_1, ix_2, ix_3, tn_1, tn_2, pp_1, m_two_y h0 hG hj hi hji, u2, v2, e4]
      refine m_joins (t := 4) (show j < 6 by omega) (show i < 6 by omega) (by omega) (by omega) (by omega) u1 v1 hS.1 hS2.1 c1 u2 v2 h0.2.2.2.2.1 hE (fun M2 hF2 g4 hM2 => ?_)
      have g : ∀ a k, ¬ inM 4 a k → gI M2 a k = gI (pI M1 200 0 (iI 0)) a k := fun a k q => by
        unfold inM at q
        exact hF2.2 a k (by omega) (by omega)
      have g' : ∀ a k, ¬ (220 ≤ a ∧ a ≤ 224) → gI M2 a k = gI (pI M1 200 0 (iI 0)) a k := fun a k q => hF2.2 a k (by omega) (by omega)
      have hl := (RI_sh (RI_join hS.1 hS2.1 c1) (bo (tN x + tN y : Nat) (gE S))).2
      have := l_mmerge (M := M2) (Q := Q) (c := tc x) (c' := tc y) (show j < 4 by omega) (show i < 4 by omega) hji (fun k hk => (g' _ _ (by omega)).trans (v6 k hk)) (fun M3 hF3 hc3 => by
        have hM3 : MR M3 4 (shK (tn x + tn y) (jL (tv x) (tv y) (tl x) (tl y) (tn x) (tn y)) (jD (tv x) (tv y) (tl x) (tl y) (td x) (td y) (tn x) (tn y)) (bo (tN x + tN y : Nat) (gE S))).length _ _ _ := ⟨(hF3.2 _ _ (by omega)).trans hM2.1, fun k hk => ⟨(hF3.2 _ _ (by omega)).trans (hM2.2 k hk).1, (hF3.2 _ _ (by omega)).trans (hM2.2 k hk).2.1, (hF3.2 _ _ (by omega)).trans (hM2.2 k hk).2.2⟩⟩
        refine m_copiesRow (b := 4) (t := j) (by omega) (by omega) (by omega) (by omega) hM3 (fun M4 hF4 g44 hM4 => ?_)
        have keyU : MT M4 i y := (MT.cg (x := y) ⟨v1, v2, v3, v4, v5, v6⟩ (by omega) (fun a k q => by
          rw [hF4.2 a k (by omega) (by omega), hF3.2 a k (by omega), hF2.2 a k (by omega) (by omega)]))
        refine m_empties (by omega) keyU (fun M5 hF5 hT5 => ?_)
        rw [forall_eq]
        have key : MT (pI (pI M5 226 j (iI 0)) 227 j (gI (pI M5 226 j (iI 0)) 227 j + iI 1)) j (xShort (xJoin x y) (gE S)) := by
          have k5 : ∀ a k, inM j a k → gI M5 a k = gI M4 a k := fun a k q => by
            unfold inM at q
            exact hF5.2 a k (by omega) (by omega)
          unfold inM at k5
          refine ⟨⟨?_, ?_⟩, ?_, ?_, ?_, ?_, ?_⟩
          · simp (disch := omega) only [iI_lit, iI_neg, iI_add, iI_sub, iI_mul, iI_lt, iI_le, iI_eq, iI_in, iI_clamp, iI_mx, iI_mn, iI_nI, Int.toNat_natCast, forall_eq, br_1, br_2, br_3, br_4, br_in, br_5, br_6, br_7, br_8, ex_c, br_nl, br_le, br_ne, gp_1, gp_2, gp_3, gf_1, gf_2, k5]
            exact hM4.1
          · intro k hk
            have hk' : k < (shK (tn x + tn y) (jL (tv x) (tv y) (tl x) (tl y) (tn x) (tn y)) (jD (tv x) (tv y) (tl x) (tl y) (td x) (td y) (tn x) (tn y)) (bo (tN x + tN y : Nat) (gE S))).length := hk
            rw [gp_2 (by omega), gp_2 (by omega), gp_2 (by omega), gp_2 (by omega), gp_2 (by omega), gp_2 (by omega), k5 _ _ (by omega), k5 _ _ (by omega), k5 _ _ (by omega)]
            exact hM4.2 k hk
          · rw [gp_2 (by omega), gp_2 (by omega), k5 _ _ (by omega), g44, hF3.2 _ _ (by omega)]
            exact g4
          · rw [gp_2 (by omega), gp_2 (by omega), k5 _ _ (by omega), hF4.2 _ _ (by omega) (by omega), hF3.2 _ _ (by omega), g' _ _ (by omega)]
            exact u3
          · rw [gp_2 (by omega), gp_1]
            rfl
          · rw [gp_1, gp_2 (by omega), k5 _ _ (by omega), hF4.2 _ _ (by omega) (by omega), hF3.2 _ _ (by omega), g' _ _ (by omega), u5, iI_add]
            rfl
          · intro k hk
            rw [gp_2 (by omega), gp_2 (by omega), k5 _ _ (by omega), hF4.2 _ _ (by omega) (by omega)]
            exact hc3 k hk
        rw [key.1.1, m_good_eq]
        have hFa : ∀ a k, ¬ inM 4 a k → ¬ inM j a k → ¬ inM i a k → gI (pI (pI M5 226 j (iI 0)) 227 j (gI (pI M5 226 j (iI 0)) 227 j + iI 1)) a k = gI (pI M1 200 0 (iI 0)) a k := fun a k p q r => by
          unfold inM at p q r
          rw [gI_pI, if_neg (by omega), gI_pI, if_neg (by omega), hF5.2 a k (by omega) (by omega), hF4.2 a k (by omega) (by omega), hF3.2 a k (by omega), hF2.2 a k (by omega) (by omega)]
        have hMy := h0.y hG hj hi hFa key (hT5.cg (by show 0 ≤ 1000; omega) (fun a k q => by
          rw [gI_pI, if_neg (by omega), gI_pI, if_neg (by omega)]))
        refine hQ _ (hMy.t hG' (RM.p (RM.p (RM.r _) (by omega)) (by omega)) (by simp (disch := omega) only [iI_lit, iI_neg, iI_add, iI_sub, iI_mul, iI_lt, iI_le, iI_eq, iI_in, iI_clamp, iI_mx, iI_mn, iI_nI, Int.toNat_natCast, forall_eq, br_1, br_2, br_3, br_4, br_in, br_5, br_6, br_7, br_8, ex_c, br_nl, br_le, br_ne, gp_1, gp_2, gp_3, gf_1, gf_2]) (by simp (disch := omega) only [iI_lit, iI_neg, iI_add, iI_sub, iI_mul, iI_lt, iI_le, iI_eq, iI_in, iI_clamp, iI_mx, iI_mn, iI_nI, Int.toNat_natCast, forall_eq, br_1, br_2, br_3, br_4, br_in, br_5, br_6, br_7, br_8, ex_c, br_nl, br_le, br_ne, gp_1, gp_2, gp_3, gf_1, gf_2]) (by omega)) (Fr.t (Fr.t (RM.fr (RM.p (RM.r _) (by omega))) ⟨?_, fun b hb => funext (fun k => hFa b k (by unfold inM; omega) (by unfold inM; omega) (by unfold inM; omega))⟩) (RM.fr (RM.p (RM.p (RM.r _) (by omega)) (by omega))))
        exact hF5.1.trans (hF4.1.trans (hF3.1.trans hF2.1))) 1000 0 M2 rfl (by omega) ⟨rfl, fun _ _ _ => rfl⟩ (fun k hk => by omega) (fun k _ hk => (g' _ _ (by omega)).trans (u6 k hk))
      simpa using this
  · skip
    refine Good.ro (iI (-1)) 3 hC hG (by omega) (fun Q hQ => ?_) (fun M1 hM Q hQ => ?_)
    · unfold wpX3_merge
      rw [c_two_y hC hG hj hi hji]
      simp (disch := omega) only [iI_lit, iI_neg, iI_add, iI_sub, iI_mul, iI_lt, iI_le, iI_eq, iI_in, iI_clamp, iI_mx, iI_mn, iI_nI, Int.toNat_natCast, forall_eq, br_1, br_2, br_3, br_4, br_in, br_5, br_6, br_7, br_8, ex_c, br_nl, br_le, br_ne, gp_1, gp_2, gp_3, gf_1, gf_2, c_pass, c_refuse, t1, s1, hC.2.2.1, t1]
      exact hQ _ (RC.p (RC.r _)) gp_1
    · unfold wpX4_merge
      refine mo_1 hM hQ (fun M0 hM hQ => ?_)
      have hMT := hM.mt hj
      have hMU := hM.mt hi
      rw [hx] at hMT
      rw [hy] at hMU
      obtain ⟨u1, u2, u3, u4, u5, u6⟩ := hMT
      obtain ⟨v1, v2, v3, v4, v5, v6⟩ := hMU
      simp (disch := omega) only [iI_lit, iI_neg, iI_add, iI_sub, iI_mul, iI_lt, iI_le, iI_eq, iI_in, iI_clamp, iI_mx, iI_mn, iI_nI, Int.toNat_natCast, forall_eq, br_1, br_2, br_3, br_4, br_in, br_5, br_6, br_7, br_8, ex_c, br_nl, br_le, br_ne, gp_1, gp_2, gp_3, gf_1, gf_2, ix_0, ix_1, ix_2, ix_3, tn_1, tn_2, pp_1, m_two_y hM hG hj hi hji, m_in_y, m_in_n, u1.1, u2, v2, hM.2.2.2.2.1, u2]
      exact m_refused hQ (RM.r _)
