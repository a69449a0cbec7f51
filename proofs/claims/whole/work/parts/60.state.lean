/-! ===== class and reference side by side ===== -/
/-- streams, how many, ERROR, SEED, TROUBLE, FAULT, its place, bytes, how many -/
abbrev Gs : Type := (Nat → St) × Nat × Int × Int × Int × Int × Int × (Nat → Int) × Nat
abbrev gT (S : Gs) : Nat → St := S.1
abbrev gk (S : Gs) : Nat := S.2.1
abbrev gE (S : Gs) : Int := S.2.2.1
abbrev gS (S : Gs) : Int := S.2.2.2.1
abbrev gt (S : Gs) : Int := S.2.2.2.2.1
abbrev gF (S : Gs) : Int := S.2.2.2.2.2.1
abbrev gP (S : Gs) : Int := S.2.2.2.2.2.2.1
abbrev gB (S : Gs) : Nat → Int := S.2.2.2.2.2.2.2.1
abbrev gn (S : Gs) : Nat := S.2.2.2.2.2.2.2.2
def sT (S : Gs) (t : Int) : Gs := (gT S, gk S, gE S, gS S, t, gF S, gP S, gB S, gn S)
/-- the class's memory -/
def CS (mk : Nat) (S : Gs) (M : Mem) : Prop := gk S ≤ mk ∧ gI M 0 2 = iI (gk S) ∧ gI M 0 3 = iI (gE S) ∧ gI M 0 4 = iI (gS S) ∧ gI M 0 5 = iI (gt S) ∧ gI M 0 6 = iI (gF S) ∧ gI M 0 7 = iI (gP S) ∧ gI M 1 1 = iI (gn S) ∧ (∀ i, i < gn S → gI M 2 i = iI (gB S i)) ∧ ∀ j, j < gk S → CT M (100 + 20 * j) (gT S j)
/-- the reference's memory -/
def MS (S : Gs) (M : Mem) : Prop := gI M 200 1 = iI (gt S) ∧ gI M 200 2 = iI (if gt S = 4 then gP S else -1) ∧ gI M 200 4 = iI (gn S) ∧ gI M 200 10 = iI (gF S) ∧ gI M 200 28 = iI (gE S) ∧ gI M 200 29 = iI (gk S) ∧ gI M 200 30 = iI (gS S) ∧ (∀ i, i < gn S → gI M 204 i &&& iI 255 = iI (gB S i)) ∧ ∀ j, j < gk S → MT M j (gT S j)
/-- what holds of both -/
def GI (S : Gs) : Prop := gk S ≤ 4 ∧ (gk S = 0 → gE S = 0) ∧ (0 < gk S → 2 ≤ gE S ∧ gE S ≤ 40) ∧ 0 ≤ gS S ∧ gS S < 65537 ∧ 0 ≤ gt S ∧ gt S ≤ 5 ∧ gn S ≤ 400 ∧ (∀ i, i < gn S → 0 ≤ gB S i ∧ gB S i ≤ 255) ∧ ∀ j, j < gk S → SI (gT S j)
theorem GI.t {S : Gs} (h : GI S) {t : Int} (ht : 0 ≤ t ∧ t ≤ 5) : GI (sT S t) := by
  obtain ⟨h1, h2, h3, h4, h5, h6, h7, h8, h9, h10⟩ := h
  exact ⟨h1, h2, h3, h4, h5, ht.1, ht.2, h8, h9, h10⟩
/-- the class has told t; its other rows may have changed -/
def RC (M M' : Mem) : Prop := M'.2 = M.2 ∧ ∀ b k, ¬ (b = 0 ∧ k = 5) → ¬ (10 ≤ b ∧ b ≤ 24) → ¬ (b = 109 ∨ b = 129 ∨ b = 149 ∨ b = 169) → gI M' b k = gI M b k
theorem RC.r (M : Mem) : RC M M := ⟨rfl, fun _ _ _ _ _ => rfl⟩
theorem RC.t {M M' M'' : Mem} (h : RC M M') (h2 : RC M' M'') : RC M M'' := ⟨h2.1.trans h.1, fun b k p q r => (h2.2 b k p q r).trans (h.2 b k p q r)⟩
theorem RC.f {lo hi : Nat} {M M' M'' : Mem} (h : RC M M') (h2 : Fr lo hi M' M'') (hl : (10 ≤ lo ∧ hi ≤ 24) ∨ (lo = hi ∧ (lo = 109 ∨ lo = 129 ∨ lo = 149 ∨ lo = 169))) : RC M M'' := ⟨h2.1.trans h.1, fun b k p q r => (h2.g (by omega) k).trans (h.2 b k p q r)⟩
theorem RC.p {M M' : Mem} {x : Int32} (h : RC M M') : RC M (pI M' 0 5 x) := ⟨h.1, fun b k p q r => by
  rw [gI_pI, if_neg p]
  exact h.2 b k p q r⟩
/-- the reference has told t; its other rows may have changed -/
def RM (M M' : Mem) : Prop := M'.2 = M.2 ∧ ∀ a k, ¬ (a = 200 ∧ (k = 0 ∨ k = 1 ∨ k = 2 ∨ k = 31)) → ¬ (220 ≤ a ∧ a ≤ 222 ∧ 4000 ≤ k ∧ k < 6000) → ¬ (223 ≤ a ∧ a ≤ 224 ∧ (k = 4 ∨ k = 5)) → gI M' a k = gI M a k
theorem RM.r (M : Mem) : RM M M := ⟨rfl, fun _ _ _ _ _ => rfl⟩
theorem RM.t {M M' M'' : Mem} (h : RM M M') (h2 : RM M' M'') : RM M M'' := ⟨h2.1.trans h.1, fun b k p q r => (h2.2 b k p q r).trans (h.2 b k p q r)⟩
theorem RM.w {b : Nat} {M M' M'' : Mem} (h : RM M M') (h2 : FrW b M' M'') (hb : b = 4 ∨ b = 5) : RM M M'' := ⟨h2.1.trans h.1, fun a k p q r => (h2.2 a k (by omega) (by omega)).trans (h.2 a k p q r)⟩
theorem RM.p {M M' : Mem} {i : Nat} {x : Int32} (h : RM M M') (hi : i = 0 ∨ i = 1 ∨ i = 2 ∨ i = 31) : RM M (pI M' 200 i x) := ⟨h.1, fun a k p q r => by
  rw [gI_pI, if_neg (by omega)]
  exact h.2 a k p q r⟩
theorem RM.q {M M' : Mem} {a i : Nat} {x : Int32} (h : RM M M') (hi : 223 ≤ a ∧ a ≤ 224 ∧ (i = 4 ∨ i = 5)) : RM M (pI M' a i x) := ⟨h.1, fun a' k p q r => by
  rw [gI_pI, if_neg (by omega)]
  exact h.2 a' k p q r⟩
theorem CS.t {mk : Nat} {S : Gs} {M M' : Mem} {t : Int} (h : CS mk S M) (hG : GI S) (hR : RC M M') (ht : gI M' 0 5 = iI t) : CS mk (sT S t) M' := by
  obtain ⟨h1, h2, h3, h4, h5, h6, h7, h8, h9, h10⟩ := h
  have hk := hG.1
  refine ⟨h1, ?_, ?_, ?_, ht, ?_, ?_, ?_, ?_, ?_⟩
  · rw [hR.2 _ _ (by omega) (by omega) (by omega)]
    exact h2
  · rw [hR.2 _ _ (by omega) (by omega) (by omega)]
    exact h3
  · rw [hR.2 _ _ (by omega) (by omega) (by omega)]
    exact h4
  · rw [hR.2 _ _ (by omega) (by omega) (by omega)]
    exact h6
  · rw [hR.2 _ _ (by omega) (by omega) (by omega)]
    exact h7
  · rw [hR.2 _ _ (by omega) (by omega) (by omega)]
    exact h8
  · intro i hi
    rw [hR.2 _ _ (by omega) (by omega) (by omega)]
    exact h9 i hi
  · intro j hj
    have hj' : j < gk S := hj
    obtain ⟨t1, t2, t3, t4, t5, t6, t7⟩ := h10 j hj
    refine ⟨?_, ?_, ?_, ?_, ?_, ?_, ?_⟩
    · rw [hR.2 _ _ (by omega) (by omega) (by omega)]
      exact t1
    · rw [hR.2 _ _ (by omega) (by omega) (by omega)]
      exact t2
    · rw [hR.2 _ _ (by omega) (by omega) (by omega)]
      exact t3
    · rw [hR.2 _ _ (by omega) (by omega) (by omega)]
      exact t4
    · intro k hk'
      rw [hR.2 _ _ (by omega) (by omega) (by omega)]
      exact t5 k hk'
    · rw [hR.2 _ _ (by omega) (by omega) (by omega)]
      exact t6
    · intro k hk'
      rw [hR.2 _ _ (by omega) (by omega) (by omega), hR.2 _ _ (by omega) (by omega) (by omega), hR.2 _ _ (by omega) (by omega) (by omega)]
      exact t7 k hk'
theorem MS.t {S : Gs} {M M' : Mem} {t : Int} (h : MS S M) (hG : GI S) (hR : RM M M') (ht : gI M' 200 1 = iI t) (ht2 : gI M' 200 2 = iI (-1)) (h4 : ¬ t = 4) : MS (sT S t) M' := by
  obtain ⟨h1, h2, h3, h4', h5, h6, h7, h8, h9⟩ := h
  have hk := hG.1
  refine ⟨ht, ?_, ?_, ?_, ?_, ?_, ?_, ?_, ?_⟩
  · show _ = iI (if t = 4 then gP S else -1)
    rw [if_neg h4]
    exact ht2
  · rw [hR.2 _ _ (by omega) (by omega) (by omega)]
    exact h3
  · rw [hR.2 _ _ (by omega) (by omega) (by omega)]
    exact h4'
  · rw [hR.2 _ _ (by omega) (by omega) (by omega)]
    exact h5
  · rw [hR.2 _ _ (by omega) (by omega) (by omega)]
    exact h6
  · rw [hR.2 _ _ (by omega) (by omega) (by omega)]
    exact h7
  · intro i hi
    rw [hR.2 _ _ (by omega) (by omega) (by omega)]
    exact h8 i hi
  · intro j hj
    have hj' : j < gk S := hj
    have hn : tn (gT S j) ≤ 1000 := Nat.le_trans (hG.2.2.2.2.2.2.2.2.2 j hj).1.2.1 (hG.2.2.2.2.2.2.2.2.2 j hj).1.1
    obtain ⟨t1, t2, t3, t4, t5, t6⟩ := h9 j hj
    refine ⟨⟨?_, ?_⟩, ?_, ?_, ?_, ?_, ?_⟩
    · rw [hR.2 _ _ (by omega) (by omega) (by omega)]
      exact t1.1
    · intro k hk'
      have hk2 : k < tn (gT S j) := hk'
      rw [hR.2 _ _ (by omega) (by omega) (by omega), hR.2 _ _ (by omega) (by omega) (by omega), hR.2 _ _ (by omega) (by omega) (by omega)]
      exact t1.2 k hk'
    · rw [hR.2 _ _ (by omega) (by omega) (by omega)]
      exact t2
    · rw [hR.2 _ _ (by omega) (by omega) (by omega)]
      exact t3
    · rw [hR.2 _ _ (by omega) (by omega) (by omega)]
      exact t4
    · rw [hR.2 _ _ (by omega) (by omega) (by omega)]
      exact t5
    · intro k hk'
      rw [hR.2 _ _ (by omega) (by omega) (by omega)]
      exact t6 k hk'
/-- the class's call c and the reference's call m, one behind the other, answer alike -/
def Good (mk : Nat) (S : Gs) (c : Qi → Prop) (m : Mem → Qi → Prop) (M : Mem) : Prop := ∃ S' r, GI S' ∧ (∀ Q : Qi, (∀ M1, CS mk S' M1 → Fr 0 199 M M1 → Q r M1) → c Q) ∧ ∀ M1, MS S M1 → ∀ Q : Qi, (∀ M2, MS S' M2 → Fr 200 299 M1 M2 → Q r M2) → m M1 Q
theorem RC.fr {M M' : Mem} (h : RC M M') : Fr 0 199 M M' := ⟨h.1, fun b hb => funext (fun k => h.2 b k (by omega) (by omega) (by omega))⟩
theorem RM.fr {M M' : Mem} (h : RM M M') : Fr 200 299 M M' := ⟨h.1, fun b hb => funext (fun k => h.2 b k (by omega) (by omega) (by omega))⟩
theorem Good.ro {mk : Nat} {S : Gs} {M : Mem} {c : Qi → Prop} {m : Mem → Qi → Prop} (r : Int32) (t : Int) (hC : CS mk S M) (hG : GI S) (ht : 0 ≤ t ∧ t ≤ 5 ∧ ¬ t = 4)
    (h1 : ∀ Q : Qi, (∀ M1, RC M M1 → gI M1 0 5 = iI t → Q r M1) → c Q)
    (h2 : ∀ M1, MS S M1 → ∀ Q : Qi, (∀ M2, RM M1 M2 → gI M2 200 1 = iI t → gI M2 200 2 = iI (-1) → Q r M2) → m M1 Q) : Good mk S c m M := by
  refine ⟨sT S t, r, hG.t (by omega), fun Q hQ => h1 Q (fun M1 hR e => hQ M1 (hC.t hG hR e) hR.fr), fun M1 hM Q hQ => h2 M1 hM Q (fun M2 hR e e2 => hQ M2 (hM.t hG hR e e2 ht.2.2) hR.fr)⟩
theorem c_refuse {M : Mem} {Q : Qi} {t : Int} : wpX3_refuse M (iI t) Q = Q (iI (-1)) (pI M 0 5 (iI t)) := by
  unfold wpX3_refuse
  simp (disch := omega) only [iI_lit, iI_neg, iI_add, iI_sub, iI_mul, iI_lt, iI_le, iI_eq, iI_in, iI_clamp, iI_mx, iI_mn, iI_nI, Int.toNat_natCast, forall_eq, br_1, br_2, br_3, br_4, br_in, br_5, br_6, br_7, br_8, ex_c, br_nl, br_le, br_ne, gp_1, gp_2, gp_3, gf_1, gf_2]
theorem c_pass {M : Mem} {Q : Qi} {x : Int32} : wpX3_pass M x Q = Q x (pI M 0 5 (iI 0)) := by
  unfold wpX3_pass
  simp (disch := omega) only [iI_lit, iI_neg, iI_add, iI_sub, iI_mul, iI_lt, iI_le, iI_eq, iI_in, iI_clamp, iI_mx, iI_mn, iI_nI, Int.toNat_natCast, forall_eq, br_1, br_2, br_3, br_4, br_in, br_5, br_6, br_7, br_8, ex_c, br_nl, br_le, br_ne, gp_1, gp_2, gp_3, gf_1, gf_2]
theorem c_find_n {mk : Nat} {S : Gs} {M : Mem} {Q : Option Nat → Mem → Prop} {z : Int} (hC : CS mk S M) (hG : GI S) (hz : -2147483648 ≤ z ∧ z < 2147483648) (h : ¬ (0 ≤ z ∧ z < gk S)) : wpX3_find mk M (iI z) Q = Q none M := by
  have := hG.1
  unfold wpX3_find
  rw [hC.2.1]
  by_cases c : z < 0
  · simp (disch := omega) only [iI_lit, iI_neg, iI_add, iI_sub, iI_mul, iI_lt, iI_le, iI_eq, iI_in, iI_clamp, iI_mx, iI_mn, iI_nI, Int.toNat_natCast, forall_eq, br_1, br_2, br_3, br_4, br_in, br_5, br_6, br_7, br_8, ex_c, br_nl, br_le, br_ne, gp_1, gp_2, gp_3, gf_1, gf_2]
  · simp (disch := omega) only [iI_lit, iI_neg, iI_add, iI_sub, iI_mul, iI_lt, iI_le, iI_eq, iI_in, iI_clamp, iI_mx, iI_mn, iI_nI, Int.toNat_natCast, forall_eq, br_1, br_2, br_3, br_4, br_in, br_5, br_6, br_7, br_8, ex_c, br_nl, br_le, br_ne, gp_1, gp_2, gp_3, gf_1, gf_2]
theorem c_find_y {mk : Nat} {S : Gs} {M : Mem} {Q : Option Nat → Mem → Prop} {j : Nat} (hC : CS mk S M) (hG : GI S) (h : j < gk S) : wpX3_find mk M (iI j) Q = Q (some (100 + 20 * j)) M := by
  have := hG.1
  have hk := hC.1
  unfold wpX3_find
  rw [hC.2.1]
  simp (disch := omega) only [iI_lit, iI_neg, iI_add, iI_sub, iI_mul, iI_lt, iI_le, iI_eq, iI_in, iI_clamp, iI_mx, iI_mn, iI_nI, Int.toNat_natCast, forall_eq, br_1, br_2, br_3, br_4, br_in, br_5, br_6, br_7, br_8, ex_c, br_nl, br_le, br_ne, gp_1, gp_2, gp_3, gf_1, gf_2]
theorem o_none {A : Prop} {B : Nat → Prop} : (((none : Option Nat) = none → A) ∧ ∀ n : Nat, (none : Option Nat) = some n → B n) = A := by
  simp
theorem o_some {A : Prop} {B : Nat → Prop} {a : Nat} : ((some a = none → A) ∧ ∀ n : Nat, some a = some n → B n) = B a := by
  simp
theorem MS.p {S : Gs} {M : Mem} {i : Nat} {x : Int32} (h : MS S M) (hi : i = 0 ∨ i = 31) : MS S (pI M 200 i x) := by
  obtain ⟨h1, h2, h3, h4', h5, h6, h7, h8, h9⟩ := h
  refine ⟨?_, ?_, ?_, ?_, ?_, ?_, ?_, ?_, ?_⟩
  · rw [gp_3 (by omega)]
    exact h1
  · rw [gp_3 (by omega)]
    exact h2
  · rw [gp_3 (by omega)]
    exact h3
  · rw [gp_3 (by omega)]
    exact h4'
  · rw [gp_3 (by omega)]
    exact h5
  · rw [gp_3 (by omega)]
    exact h6
  · rw [gp_3 (by omega)]
    exact h7
  · intro i hi
    rw [gp_2 (by omega)]
    exact h8 i hi
  · intro j hj
    obtain ⟨t1, t2, t3, t4, t5, t6⟩ := h9 j hj
    refine ⟨t1.p, ?_, ?_, ?_, ?_, ?_⟩
    · rw [gp_2 (by omega)]
      exact t2
    · rw [gp_2 (by omega)]
      exact t3
    · rw [gp_2 (by omega)]
      exact t4
    · rw [gp_2 (by omega)]
      exact t5
    · intro k hk
      rw [gp_2 (by omega)]
      exact t6 k hk
theorem mo_1 {S : Gs} {M1 : Mem} {Q : Qi} {r : Int32} {t : Int} {w : Mem → Prop} (hM : MS S M1) (hQ : ∀ M2, RM M1 M2 → gI M2 200 1 = iI t → gI M2 200 2 = iI (-1) → Q r M2)
    (h : ∀ M0, MS S M0 → (∀ M2, RM M0 M2 → gI M2 200 1 = iI t → gI M2 200 2 = iI (-1) → Q r M2) → w M0) : ∀ M_1 : Mem, M_1 = pI M1 200 0 0 → w M_1 := by
  intro M_1 e
  subst e
  exact h _ (hM.p (by omega)) (fun M2 hR => hQ M2 (RM.t (RM.p (RM.r _) (by omega)) hR))
theorem m_good {M0 M' : Mem} {Q : Qi} {r : Int32} (hQ : ∀ M2, RM M0 M2 → gI M2 200 1 = iI 0 → gI M2 200 2 = iI (-1) → Q r M2) (h : RM M0 M') : wpX4_good M' r Q := by
  unfold wpX4_good
  simp (disch := omega) only [iI_lit, iI_neg, iI_add, iI_sub, iI_mul, iI_lt, iI_le, iI_eq, iI_in, iI_clamp, iI_mx, iI_mn, iI_nI, Int.toNat_natCast, forall_eq, br_1, br_2, br_3, br_4, br_in, br_5, br_6, br_7, br_8, ex_c, br_nl, br_le, br_ne, gp_1, gp_2, gp_3, gf_1, gf_2]
  exact hQ _ (RM.p (RM.p h (by omega)) (by omega)) (by simp (disch := omega) only [iI_lit, iI_neg, iI_add, iI_sub, iI_mul, iI_lt, iI_le, iI_eq, iI_in, iI_clamp, iI_mx, iI_mn, iI_nI, Int.toNat_natCast, forall_eq, br_1, br_2, br_3, br_4, br_in, br_5, br_6, br_7, br_8, ex_c, br_nl, br_le, br_ne, gp_1, gp_2, gp_3, gf_1, gf_2]) (by simp (disch := omega) only [iI_lit, iI_neg, iI_add, iI_sub, iI_mul, iI_lt, iI_le, iI_eq, iI_in, iI_clamp, iI_mx, iI_mn, iI_nI, Int.toNat_natCast, forall_eq, br_1, br_2, br_3, br_4, br_in, br_5, br_6, br_7, br_8, ex_c, br_nl, br_le, br_ne, gp_1, gp_2, gp_3, gf_1, gf_2])
theorem m_refused {M0 M' : Mem} {Q : Qi} {t : Int} (hQ : ∀ M2, RM M0 M2 → gI M2 200 1 = iI t → gI M2 200 2 = iI (-1) → Q (iI (-1)) M2) (h : RM M0 M') : wpX4_refused M' (iI t) Q := by
  unfold wpX4_refused
  simp (disch := omega) only [iI_lit, iI_neg, iI_add, iI_sub, iI_mul, iI_lt, iI_le, iI_eq, iI_in, iI_clamp, iI_mx, iI_mn, iI_nI, Int.toNat_natCast, forall_eq, br_1, br_2, br_3, br_4, br_in, br_5, br_6, br_7, br_8, ex_c, br_nl, br_le, br_ne, gp_1, gp_2, gp_3, gf_1, gf_2]
  exact hQ _ (RM.p (RM.p h (by omega)) (by omega)) (by simp (disch := omega) only [iI_lit, iI_neg, iI_add, iI_sub, iI_mul, iI_lt, iI_le, iI_eq, iI_in, iI_clamp, iI_mx, iI_mn, iI_nI, Int.toNat_natCast, forall_eq, br_1, br_2, br_3, br_4, br_in, br_5, br_6, br_7, br_8, ex_c, br_nl, br_le, br_ne, gp_1, gp_2, gp_3, gf_1, gf_2]) (by simp (disch := omega) only [iI_lit, iI_neg, iI_add, iI_sub, iI_mul, iI_lt, iI_le, iI_eq, iI_in, iI_clamp, iI_mx, iI_mn, iI_nI, Int.toNat_natCast, forall_eq, br_1, br_2, br_3, br_4, br_in, br_5, br_6, br_7, br_8, ex_c, br_nl, br_le, br_ne, gp_1, gp_2, gp_3, gf_1, gf_2])
theorem m_isStream {S : Gs} {M : Mem} {Q : Qi} {z : Int} (hM : MS S M) (hG : GI S) (hz : -2147483648 ≤ z ∧ z < 2147483648) : wpX4_isStream M (iI z) Q = Q (iI (if 0 ≤ z ∧ z < gk S then 1 else 0)) M := by
  have := hG.1
  have h2 := hG.2.1
  have h3 := hG.2.2.1
  unfold wpX4_isStream
  rw [hM.2.2.2.2.1, hM.2.2.2.2.2.1]
  by_cases c : gk S = 0
  · have := h2 c
    simp (disch := omega) only [iI_lit, iI_neg, iI_add, iI_sub, iI_mul, iI_lt, iI_le, iI_eq, iI_in, iI_clamp, iI_mx, iI_mn, iI_nI, Int.toNat_natCast, forall_eq, br_1, br_2, br_3, br_4, br_in, br_5, br_6, br_7, br_8, ex_c, br_nl, br_le, br_ne, gp_1, gp_2, gp_3, gf_1, gf_2]
    rw [if_neg (by omega)]
  · have := h3 (by omega)
    by_cases c2 : 0 ≤ z ∧ z ≤ gk S - 1
    · have e : (if 0 ≤ z ∧ z ≤ (gk S : Int) - 1 then (1 : Int) else 0) = 1 := if_pos c2
      simp (disch := omega) only [iI_lit, iI_neg, iI_add, iI_sub, iI_mul, iI_lt, iI_le, iI_eq, iI_in, iI_clamp, iI_mx, iI_mn, iI_nI, Int.toNat_natCast, forall_eq, br_1, br_2, br_3, br_4, br_in, br_5, br_6, br_7, br_8, ex_c, br_nl, br_le, br_ne, gp_1, gp_2, gp_3, gf_1, gf_2, m_in, e]
      rw [if_pos (by omega)]
    · have e : (if 0 ≤ z ∧ z ≤ (gk S : Int) - 1 then (1 : Int) else 0) = 0 := if_neg c2
      simp (disch := omega) only [iI_lit, iI_neg, iI_add, iI_sub, iI_mul, iI_lt, iI_le, iI_eq, iI_in, iI_clamp, iI_mx, iI_mn, iI_nI, Int.toNat_natCast, forall_eq, br_1, br_2, br_3, br_4, br_in, br_5, br_6, br_7, br_8, ex_c, br_nl, br_le, br_ne, gp_1, gp_2, gp_3, gf_1, gf_2, m_in, e]
      rw [if_neg (by omega)]
theorem m_isS_y {S : Gs} {M : Mem} {Q : Qi} {j : Nat} (hM : MS S M) (hG : GI S) (hj : j < gk S) : wpX4_isStream M (iI j) Q = Q (iI 1) M := by
  have := hG.1
  rw [m_isStream hM hG (by omega), if_pos (by omega)]
theorem m_isS_n {S : Gs} {M : Mem} {Q : Qi} {z : Int} (hM : MS S M) (hG : GI S) (hz : -2147483648 ≤ z ∧ z < 2147483648) (h : ¬ (0 ≤ z ∧ z < gk S)) : wpX4_isStream M (iI z) Q = Q (iI 0) M := by
  rw [m_isStream hM hG hz, if_neg h]
theorem CS.ct {mk : Nat} {S : Gs} {M : Mem} (h : CS mk S M) {j : Nat} (hj : j < gk S) : CT M (100 + 20 * j) (gT S j) := h.2.2.2.2.2.2.2.2.2 j hj
theorem MS.mt {S : Gs} {M : Mem} (h : MS S M) {j : Nat} (hj : j < gk S) : MT M j (gT S j) := h.2.2.2.2.2.2.2.2 j hj
theorem GI.si {S : Gs} (h : GI S) {j : Nat} (hj : j < gk S) : SI (gT S j) := h.2.2.2.2.2.2.2.2.2 j hj
theorem CT.cr {M : Mem} {b : Nat} {x : St} (h : CT M b x) : CR M (b + 5) (tn x) (tv x) (tl x) (td x) := h.2.2.2.2.2
theorem CT.cc {M : Mem} {b : Nat} {x : St} (h : CT M b x) : CC M b (tc x) := h.2.2.2.2.1
theorem GI.er {S : Gs} (h : GI S) {j : Nat} (hj : j < gk S) : 2 ≤ gE S ∧ gE S ≤ 1000 := by
  have := h.2.2.1 (by omega)
  omega
