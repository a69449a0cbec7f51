theorem CR.fr {lo hi a n : Nat} {v l d : Nat → Int} {M M' : Mem} (h : CR M a n v l d) (hF : Fr lo hi M M') (ho : a + 4 < lo ∨ hi < a) : CR M' a n v l d := by
  refine ⟨by rw [hF.g (by omega)]; exact h.1, fun k hk => ?_⟩
  rw [hF.g (by omega), hF.g (by omega), hF.g (by omega)]
  exact h.2 k hk
theorem CR.cg {a n : Nat} {v l d v' l' d' : Nat → Int} {M : Mem} (h : CR M a n v l d) (hv : ∀ k, k < n → v k = v' k ∧ l k = l' k ∧ d k = d' k) : CR M a n v' l' d' := by
  refine ⟨h.1, fun k hk => ?_⟩
  obtain ⟨e1, e2, e3⟩ := hv k hk
  rw [← e1, ← e2, ← e3]
  exact h.2 k hk
theorem e_copyOf {M : Mem} {a b n : Nat} {v l d : Nat → Int} {Q : Mem → Prop} (h : CR M b n v l d) (hn : n ≤ 1000) (hab : a + 4 < b ∨ b + 4 < a) (hQ : ∀ M', Fr a (a + 4) M M' → CR M' a n v l d → Q M') : wpX0_copyOf M a b Q := by
  unfold wpX0_copyOf
  rw [h.1]
  simp (disch := omega) only [iI_lit, iI_neg, iI_add, iI_sub, iI_mul, iI_lt, iI_le, iI_eq, iI_in, iI_clamp, iI_mx, iI_mn, iI_nI, Int.toNat_natCast, forall_eq, br_1, br_2, br_3, br_4, br_in, br_5, br_6, br_7, br_8, ex_c, br_nl, br_le, br_ne, gp_1, gp_2, gp_3, gf_1, gf_2, Int.toNat_zero]
  refine hQ _ (Fr.f (Fr.f (Fr.f (Fr.p (Fr.r _ _ _) ?_) ?_) ?_) ?_) ?_
  · omega
  · omega
  · omega
  · omega
  · refine ⟨by simp (disch := omega) only [iI_lit, iI_neg, iI_add, iI_sub, iI_mul, iI_lt, iI_le, iI_eq, iI_in, iI_clamp, iI_mx, iI_mn, iI_nI, Int.toNat_natCast, forall_eq, br_1, br_2, br_3, br_4, br_in, br_5, br_6, br_7, br_8, ex_c, br_nl, br_le, br_ne, gp_1, gp_2, gp_3, gf_1, gf_2], fun k hk => ?_⟩
    have h3 := h.2 k hk
    simp (disch := omega) only [iI_lit, iI_neg, iI_add, iI_sub, iI_mul, iI_lt, iI_le, iI_eq, iI_in, iI_clamp, iI_mx, iI_mn, iI_nI, Int.toNat_natCast, forall_eq, br_1, br_2, br_3, br_4, br_in, br_5, br_6, br_7, br_8, ex_c, br_nl, br_le, br_ne, gp_1, gp_2, gp_3, gf_1, gf_2, gc_1]
    rw [if_pos (by omega), if_pos (by omega), if_pos (by omega), show 0 + (k - 0) = k by omega]
    exact h3
/-- how many of the first's tuples are among the k first of the two joined -/
def jI (v1 v2 : Nat → Int) (n1 n2 : Nat) : Nat → Nat
  | 0 => 0
  | k + 1 => if n2 ≤ k - jI v1 v2 n1 n2 k ∨ (jI v1 v2 n1 n2 k < n1 ∧ v1 (jI v1 v2 n1 n2 k) ≤ v2 (k - jI v1 v2 n1 n2 k)) then jI v1 v2 n1 n2 k + 1 else jI v1 v2 n1 n2 k
def jF (v1 v2 : Nat → Int) (n1 n2 k : Nat) : Bool := decide (n2 ≤ k - jI v1 v2 n1 n2 k ∨ (jI v1 v2 n1 n2 k < n1 ∧ v1 (jI v1 v2 n1 n2 k) ≤ v2 (k - jI v1 v2 n1 n2 k)))
theorem jI_s (v1 v2 : Nat → Int) (n1 n2 k : Nat) : jI v1 v2 n1 n2 (k + 1) = if jF v1 v2 n1 n2 k then jI v1 v2 n1 n2 k + 1 else jI v1 v2 n1 n2 k := by
  rw [jI]
  simp only [jF, decide_eq_true_eq]
theorem jI_b (v1 v2 : Nat → Int) (n1 n2 : Nat) : ∀ k, k ≤ n1 + n2 → jI v1 v2 n1 n2 k ≤ k ∧ jI v1 v2 n1 n2 k ≤ n1 ∧ k - jI v1 v2 n1 n2 k ≤ n2 := by
  intro k
  induction k with
  | zero => intro _; simp [jI]
  | succ k ih =>
    intro hk
    have := ih (by omega)
    rw [jI_s]
    split
    · rename_i c
      simp only [jF, decide_eq_true_eq] at c
      omega
    · rename_i c
      simp only [jF, decide_eq_true_eq] at c
      omega
/-- the two joined -/
def jV (v1 v2 : Nat → Int) (n1 n2 k : Nat) : Int := if jF v1 v2 n1 n2 k then v1 (jI v1 v2 n1 n2 k) else v2 (k - jI v1 v2 n1 n2 k)
def jA (v1 v2 l1 l2 : Nat → Int) (n1 n2 k : Nat) : Int := lp l1 (jI v1 v2 n1 n2 k) + lp l2 (k - jI v1 v2 n1 n2 k)
def jL (v1 v2 l1 l2 : Nat → Int) (n1 n2 k : Nat) : Int := jA v1 v2 l1 l2 n1 n2 (k + 1)
def aW (l d : Nat → Int) (n i : Nat) : Int := if i < n then l i - lp l i + d i - 1 else 0
def jD (v1 v2 l1 l2 d1 d2 : Nat → Int) (n1 n2 k : Nat) : Int := if jF v1 v2 n1 n2 k then d1 (jI v1 v2 n1 n2 k) + aW l2 d2 n2 (k - jI v1 v2 n1 n2 k) else d2 (k - jI v1 v2 n1 n2 k) + aW l1 d1 n1 (jI v1 v2 n1 n2 k)
theorem lp_s (l : Nat → Int) (k : Nat) : lp l (k + 1) = l k := by simp [lp]
theorem jL_1 {v1 v2 l1 l2 : Nat → Int} {n1 n2 k : Nat} (hk : k < n1 + n2) (c : jF v1 v2 n1 n2 k) : jL v1 v2 l1 l2 n1 n2 k = l1 (jI v1 v2 n1 n2 k) + lp l2 (k - jI v1 v2 n1 n2 k) := by
  have := jI_b v1 v2 n1 n2 k (by omega)
  unfold jL jA
  rw [jI_s, if_pos c, lp_s, show k + 1 - (jI v1 v2 n1 n2 k + 1) = k - jI v1 v2 n1 n2 k by omega]
theorem jL_2 {v1 v2 l1 l2 : Nat → Int} {n1 n2 k : Nat} (hk : k < n1 + n2) (c : ¬ jF v1 v2 n1 n2 k) : jL v1 v2 l1 l2 n1 n2 k = l2 (k - jI v1 v2 n1 n2 k) + lp l1 (jI v1 v2 n1 n2 k) := by
  have := jI_b v1 v2 n1 n2 k (by omega)
  unfold jL jA
  rw [jI_s, if_neg c, show k + 1 - jI v1 v2 n1 n2 k = k - jI v1 v2 n1 n2 k + 1 by omega, lp_s, Int.add_comm]
theorem lp_jL {v1 v2 l1 l2 : Nat → Int} {n1 n2 k : Nat} : lp (jL v1 v2 l1 l2 n1 n2) k = jA v1 v2 l1 l2 n1 n2 k := by
  unfold lp
  split
  · rename_i c
    subst c
    simp [jA, jI, lp]
  · rename_i c
    unfold jL
    rw [show k - 1 + 1 = k by omega]
theorem RI_join {N1 N2 n1 n2 : Nat} {v1 l1 d1 v2 l2 d2 : Nat → Int} (hR : RI N1 n1 v1 l1 d1) (hS : RI N2 n2 v2 l2 d2) (hN : N1 + N2 ≤ 1000) : RI (N1 + N2) (n1 + n2) (jV v1 v2 n1 n2) (jL v1 v2 l1 l2 n1 n2) (jD v1 v2 l1 l2 d1 d2 n1 n2) := by
  have a1 := fun k (hk : k < n1) => hR.lpl hk
  have a2 := fun k (hk : k < n2) => hS.lpl hk
  have b1 := fun k (hk : k ≤ n1) => hR.lpb hk
  have b2 := fun k (hk : k ≤ n2) => hS.lpb hk
  have c1 := hR.lpn
  have c2 := hS.lpn
  obtain ⟨r1, r2, r3, r4, r5, r6⟩ := hR
  obtain ⟨s1, s2, s3, s4, s5, s6⟩ := hS
  have hb := jI_b v1 v2 n1 n2
  have w1 : ∀ i, i ≤ n1 → 0 ≤ aW l1 d1 n1 i ∧ lp l1 i + aW l1 d1 n1 i ≤ N1 := by
    intro i hi
    unfold aW
    have := b1 i hi
    split
    · rename_i c
      have := r4 i c
      have := a1 i c
      omega
    · omega
  have w2 : ∀ i, i ≤ n2 → 0 ≤ aW l2 d2 n2 i ∧ lp l2 i + aW l2 d2 n2 i ≤ N2 := by
    intro i hi
    unfold aW
    have := b2 i hi
    split
    · rename_i c
      have := s4 i c
      have := a2 i c
      omega
    · omega
  refine ⟨hN, by omega, by omega, ?_, ?_, ?_⟩
  · intro k hk
    have h1 := hb k (by omega)
    unfold jV jD
    by_cases c : jF v1 v2 n1 n2 k
    · rw [if_pos c, if_pos c, jL_1 hk c]
      have c' := c
      simp only [jF, decide_eq_true_eq] at c'
      have := r4 (jI v1 v2 n1 n2 k) (by omega)
      have := b2 (k - jI v1 v2 n1 n2 k) (by omega)
      have := w2 (k - jI v1 v2 n1 n2 k) (by omega)
      omega
    · rw [if_neg c, if_neg c, jL_2 hk c]
      have c' := c
      simp only [jF, decide_eq_true_eq] at c'
      have := s4 (k - jI v1 v2 n1 n2 k) (by omega)
      have := b1 (jI v1 v2 n1 n2 k) (by omega)
      have := w1 (jI v1 v2 n1 n2 k) (by omega)
      omega
  · intro k hk
    have h1 := hb k (by omega)
    have h2 := hb (k + 1) (by omega)
    constructor
    · have g1 : jI v1 v2 n1 n2 (k + 1) < n1 → jV v1 v2 n1 n2 k ≤ v1 (jI v1 v2 n1 n2 (k + 1)) := by
        unfold jV
        rw [jI_s]
        by_cases c : jF v1 v2 n1 n2 k
        · rw [if_pos c, if_pos c]
          intro q
          exact (r5 _ q).1
        · rw [if_neg c, if_neg c]
          intro q
          simp only [jF, decide_eq_true_eq] at c
          omega
      have g2 : k + 1 - jI v1 v2 n1 n2 (k + 1) < n2 → jV v1 v2 n1 n2 k ≤ v2 (k + 1 - jI v1 v2 n1 n2 (k + 1)) := by
        unfold jV
        rw [jI_s]
        by_cases c : jF v1 v2 n1 n2 k
        · rw [if_pos c, if_pos c, show k + 1 - (jI v1 v2 n1 n2 k + 1) = k - jI v1 v2 n1 n2 k by omega]
          intro q
          simp only [jF, decide_eq_true_eq] at c
          omega
        · rw [if_neg c, if_neg c, show k + 1 - jI v1 v2 n1 n2 k = k - jI v1 v2 n1 n2 k + 1 by omega]
          intro q
          exact (s5 _ q).1
      rw [jV.eq_1 v1 v2 n1 n2 (k + 1)]
      by_cases c : jF v1 v2 n1 n2 (k + 1)
      · rw [if_pos c]
        simp only [jF, decide_eq_true_eq] at c
        exact g1 (by omega)
      · rw [if_neg c]
        simp only [jF, decide_eq_true_eq] at c
        exact g2 (by omega)
    · have g : ∀ j, j < n1 + n2 → jA v1 v2 l1 l2 n1 n2 j < jL v1 v2 l1 l2 n1 n2 j := by
        intro j hj
        have h3 := hb j (by omega)
        by_cases c : jF v1 v2 n1 n2 j
        · rw [jL_1 hj c]
          simp only [jF, decide_eq_true_eq] at c
          have := a1 (jI v1 v2 n1 n2 j) (by omega)
          unfold jA
          omega
        · rw [jL_2 hj c]
          simp only [jF, decide_eq_true_eq] at c
          have := a2 (j - jI v1 v2 n1 n2 j) (by omega)
          unfold jA
          omega
      exact g (k + 1) hk
  · intro h0
    have z0 : jI v1 v2 n1 n2 0 = 0 := rfl
    have q1 : jL v1 v2 l1 l2 n1 n2 0 = 1 ∧ jD v1 v2 l1 l2 d1 d2 n1 n2 0 = 0 := by
      unfold jD
      by_cases c : jF v1 v2 n1 n2 0
      · rw [jL_1 h0 c, if_pos c, z0]
        simp only [jF, decide_eq_true_eq] at c
        rw [z0] at c
        have := r6 (by omega)
        unfold aW lp
        simp only [Nat.sub_zero, if_true]
        by_cases c3 : 0 < n2
        · have := s6 c3
          rw [if_pos c3]
          omega
        · rw [if_neg c3]
          omega
      · rw [jL_2 h0 c, if_neg c, z0]
        simp only [jF, decide_eq_true_eq] at c
        rw [z0] at c
        have := s6 (by omega)
        unfold aW lp
        simp only [Nat.sub_zero, if_true]
        by_cases c3 : 0 < n1
        · have := r6 c3
          rw [if_pos c3]
          omega
        · rw [if_neg c3]
          omega
    refine ⟨q1.1, q1.2, ?_⟩
    have h3 := hb (n1 + n2 - 1) (by omega)
    unfold jD
    by_cases c : jF v1 v2 n1 n2 (n1 + n2 - 1)
    · rw [jL_1 (by omega) c, if_pos c]
      simp only [jF, decide_eq_true_eq] at c
      have e1 : n1 + n2 - 1 - jI v1 v2 n1 n2 (n1 + n2 - 1) = n2 := by omega
      have e2 : jI v1 v2 n1 n2 (n1 + n2 - 1) = n1 - 1 := by omega
      rw [e1, e2]
      have := r6 (by omega)
      unfold aW
      rw [if_neg (by omega)]
      omega
    · rw [jL_2 (by omega) c, if_neg c]
      simp only [jF, decide_eq_true_eq] at c
      have e1 : n1 + n2 - 1 - jI v1 v2 n1 n2 (n1 + n2 - 1) = n2 - 1 := by omega
      have e2 : jI v1 v2 n1 n2 (n1 + n2 - 1) = n1 := by omega
      rw [e1, e2]
      have := s6 (by omega)
      unfold aW
      rw [if_neg (by omega)]
      omega
