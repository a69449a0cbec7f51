theorem l_floorAt {M : Mem} {N a n : Nat} {v l d : Nat → Int} {Q : Qi} (h : CR M a n v l d) (hR : RI N n v l d) {r : Int} (hr : 0 ≤ r ∧ r ≤ 1000) : ∀ k i b, n - i = k → i ≤ n → b < n → (l b + d b ≤ r ∨ b = 0) → (∀ j, b < j → j < i → ¬ l j + d j ≤ r) → (∃ m, wX0_floorAt_5 Q a (iI r) m M (iI b) (iI i)) = Q (iI (flr l d r n)) M := by
  have hn : n ≤ 1000 := Nat.le_trans hR.2.1 hR.1
  have hN := hR.1
  intro k
  induction k with
  | zero =>
    intro i b hk hi hb h1 h2
    have e : i = n := by omega
    subst e
    rw [ex_s rfl, flr_is i b hb h1 h2]
    simp only [wX0_floorAt_5, h.1]
    simp (disch := omega) only [iI_lit, iI_neg, iI_add, iI_sub, iI_mul, iI_lt, iI_le, iI_eq, iI_in, iI_clamp, iI_mx, iI_mn, iI_nI, Int.toNat_natCast, forall_eq]
    simp only [br_1 (show (i : Int) ≤ i by omega), ex_c]
  | succ k ih =>
    intro i b hk hi hb h1 h2
    have h3 := h.2 i (by omega)
    have h4 := hR.2.2.2.1 i (by omega)
    rw [ex_s rfl]
    simp only [wX0_floorAt_5, h.1]
    simp (disch := omega) only [iI_lit, iI_neg, iI_add, iI_sub, iI_mul, iI_lt, iI_le, iI_eq, iI_in, iI_clamp, iI_mx, iI_mn, iI_nI, Int.toNat_natCast, forall_eq, h3.1, h3.2.1, h3.2.2, e_high h hn]
    simp only [br_2 (show ¬ (n : Int) ≤ i by omega), and_1 (show 0 ≤ (i : Int) ∧ (i : Int) < (1000 : Nat) by omega)]
    by_cases c : r < l i
    · simp only [br_1 c, ex_c]
      rw [flr_is n b hb h1 (fun j p q => ?_)]
      rcases Nat.lt_or_ge j i with z | z
      · exact h2 j p z
      · have h5 := hR.2.2.2.1 j q
        have h6 := hR.lmono (j - i) i (by omega)
        rw [show i + (j - i) = j by omega] at h6
        omega
    · simp only [br_2 c]
      by_cases c2 : r < l i + d i
      · simp only [br_1 c2]
        have := ih (i + 1) b (by omega) (by omega) hb h1 (fun j p q => by
          rcases Nat.lt_or_ge j i with z | z
          · exact h2 j p z
          · have e : j = i := by omega
            subst e
            omega)
        simpa using this
      · simp only [br_2 c2]
        have := ih (i + 1) i (by omega) (by omega) (by omega) (Or.inl (by omega)) (fun j p q => by omega)
        simpa using this
theorem e_floorAt {M : Mem} {N a n lo : Nat} {v l d : Nat → Int} {Q : Qi} (h : CR M a n v l d) (hR : RI N n v l d) {r : Int} (hr : 0 ≤ r ∧ r ≤ 1000) (hlo : lo < n) (h1 : l lo + d lo ≤ r ∨ lo = 0) : wpX0_floorAt M a (iI r) (iI lo) Q = Q (iI (flr l d r n)) M :=
  l_floorAt h hR hr (n - lo) lo lo rfl (by omega) hlo h1 (fun j p q => by omega)
theorem cei_lt {N n : Nat} {v l d : Nat → Int} (hR : RI N n v l d) {r : Int} (hr : 1 ≤ r ∧ r ≤ N) : cei l r n < n := by
  have h0 := hR.pos (by omega)
  rcases Nat.lt_or_ge (cei l r n) n with c | c
  · exact c
  · have h1 := (cei_prop (l := l) (r := r) n).1 (n - 1) (by omega)
    have h2 := (hR.2.2.2.2.2 h0).2.2.1
    omega
theorem l_ceilingAt {M : Mem} {N a n : Nat} {v l d : Nat → Int} {Q : Qi} (h : CR M a n v l d) (hR : RI N n v l d) {r : Int} (hr : 1 ≤ r ∧ r ≤ N) : ∀ k i, n - i = k → i < n → (∀ j, j < i → l j < r) → (∃ m, wX0_ceilingAt_2 Q a (iI r) m M (iI i)) = Q (iI (cei l r n)) M := by
  have hn : n ≤ 1000 := Nat.le_trans hR.2.1 hR.1
  have hN := hR.1
  have h0 := hR.pos (by omega)
  have hl := (hR.2.2.2.2.2 h0).2.2.1
  intro k
  induction k with
  | zero => intro i hk hi; omega
  | succ k ih =>
    intro i hk hi h1
    have h3 := h.2 i (by omega)
    have h4 := hR.2.2.2.1 i (by omega)
    rw [ex_s rfl]
    simp only [wX0_ceilingAt_2, h.1]
    simp (disch := omega) only [iI_lit, iI_neg, iI_add, iI_sub, iI_mul, iI_lt, iI_le, iI_eq, iI_in, iI_clamp, iI_mx, iI_mn, iI_nI, Int.toNat_natCast, forall_eq, h3.1, h3.2.1, h3.2.2]
    by_cases c : (n : Int) - 1 ≤ i
    · simp only [br_1 c, ex_c]
      have e : i = n - 1 := by omega
      rw [cei_is n i (by omega) h1 (fun _ => by rw [e, hl]; omega)]
    · simp only [br_2 c, and_1 (show 0 ≤ (i : Int) ∧ (i : Int) < (1000 : Nat) by omega)]
      by_cases c2 : r ≤ l i
      · simp only [br_1 c2, ex_c]
        rw [cei_is n i (by omega) h1 (fun _ => c2)]
      · simp only [br_2 c2]
        have := ih (i + 1) (by omega) (by omega) (fun j hj => by
          rcases Nat.lt_or_ge j i with z | z
          · exact h1 j z
          · have e : j = i := by omega
            subst e
            omega)
        simpa using this
theorem e_ceilingAt {M : Mem} {N a n lo : Nat} {v l d : Nat → Int} {Q : Qi} (h : CR M a n v l d) (hR : RI N n v l d) {r : Int} (hr : 1 ≤ r ∧ r ≤ N) (hlo : lo < n) (h1 : ∀ j, j < lo → l j < r) : wpX0_ceilingAt M a (iI r) (iI lo) Q = Q (iI (cei l r n)) M :=
  l_ceilingAt h hR hr (n - lo) lo rfl hlo h1
/-- what a place's CEILING and FLOOR are apart -/
def gd (v l d : Nat → Int) (n r : Nat) : Int := v (cei l r n) - v (flr l d r n)
theorem gd_b {N n : Nat} {v l d : Nat → Int} (hR : RI N n v l d) {r : Nat} (hr : 1 ≤ r ∧ r ≤ N) : -1000 ≤ gd v l d n r ∧ gd v l d n r ≤ 1000 := by
  have h1 := hR.2.2.2.1 _ (cei_lt hR (r := r) (by omega))
  have h2 := hR.2.2.2.1 _ (flr_lt (l := l) (d := d) (r := r) n (hR.pos (by omega)))
  unfold gd
  omega
theorem l_doubts {M : Mem} {N a n : Nat} {v l d : Nat → Int} {Q : Qi} (h : CR M a n v l d) (hR : RI N n v l d) (z : Int32) : ∀ k i b c, N - i = k → i ≤ N → b < n → c < n → (l b + d b ≤ i ∨ b = 0) → (∀ j, j < c → l j < (i : Int) + 1) →
    (∃ m, wX0_doubts_19 Q a z (iI N) m M (iI (fct (fun r => decide (¬ gd v l d n r = 0)) i)) (iI (fmx (gd v l d n) 0 i)) (iI b) (iI c) (iI (i + 1 : Nat))) = Q (iI (if z = iI 0 then fct (fun r => decide (¬ gd v l d n r = 0)) N else fmx (gd v l d n) 0 N)) M := by
  have hn : n ≤ 1000 := Nat.le_trans hR.2.1 hR.1
  have hN := hR.1
  intro k
  induction k with
  | zero =>
    intro i b c hk hi hb hc h1 h2
    have e : i = N := by omega
    subst e
    rw [ex_s rfl]
    simp only [wX0_doubts_19]
    simp (disch := omega) only [iI_lit, iI_neg, iI_add, iI_sub, iI_mul, iI_lt, iI_le, iI_eq, iI_in, iI_clamp, iI_mx, iI_mn, iI_nI, Int.toNat_natCast, forall_eq]
    simp only [br_1 (show (i : Int) < (i + 1 : Nat) by omega), ex_c]
    by_cases q : z = iI 0
    · simp only [br_1 q, if_pos q]
    · simp only [br_2 q, if_neg q]
  | succ k ih =>
    intro i b c hk hi hb hc h1 h2
    have g1 := gd_b hR (r := i + 1) (by omega)
    unfold gd at g1
    have g2 := fmx_b (f := gd v l d n) (z := 0) (B := 1000) (by omega) i (fun j a b => (gd_b hR (by omega)).2)
    have g3 := cei_lt hR (r := (i + 1 : Nat)) (by omega)
    have g4 := flr_lt (l := l) (d := d) (r := (i + 1 : Nat)) n (hR.pos (by omega))
    have m1 := (h.2 _ g3).1
    have m2 := (h.2 _ g4).1
    rw [ex_s rfl]
    simp only [wX0_doubts_19]
    have hf := fun (Q : Qi) => e_floorAt (Q := Q) h hR (r := (i + 1 : Nat)) (lo := b) (by omega) hb (by rcases h1 with q | q; exact Or.inl (by omega); exact Or.inr q)
    have hg := fun (Q : Qi) => e_ceilingAt (Q := Q) h hR (r := (i + 1 : Nat)) (lo := c) (by omega) hc (fun j hj => by have := h2 j hj; omega)
    simp only [hf, hg]
    simp (disch := omega) only [iI_lit, iI_neg, iI_add, iI_sub, iI_mul, iI_lt, iI_le, iI_eq, iI_in, iI_clamp, iI_mx, iI_mn, iI_nI, Int.toNat_natCast, forall_eq, m1, m2, Int.add_zero]
    simp only [br_2 (show ¬ (N : Int) < (i + 1 : Nat) by omega), and_1 (show 0 ≤ (cei l (i + 1 : Nat) n : Int) ∧ (cei l (i + 1 : Nat) n : Int) < (1000 : Nat) by omega), and_1 (show 0 ≤ (flr l d (i + 1 : Nat) n : Int) ∧ (flr l d (i + 1 : Nat) n : Int) < (1000 : Nat) by omega)]
    have hp := flr_prop (l := l) (d := d) (r := (i + 1 : Nat)) n (hR.pos (by omega))
    have hq := cei_prop (l := l) (r := (i + 1 : Nat)) n
    have := ih (i + 1) _ _ (by omega) (by omega) g4 g3 hp.1 (fun j hj => by have := hq.1 j hj; omega)
    rw [fct, fmx] at this
    by_cases q : v (cei l (i + 1 : Nat) n) - v (flr l d (i + 1 : Nat) n) = 0
    · simp only [br_1 q]
      have q' : gd v l d n (i + 1) = 0 := q
      have e : decide (¬ gd v l d n (i + 1) = 0) = false := by simp [q']
      simp only [e, Bool.false_eq_true, if_false] at this
      simpa [gd] using this
    · simp only [br_2 q]
      have q' : ¬ gd v l d n (i + 1) = 0 := q
      have e : decide (¬ gd v l d n (i + 1) = 0) = true := by simp [q']
      simp only [e, if_true] at this
      simpa [gd] using this
theorem e_doubts {M : Mem} {N a n : Nat} {v l d : Nat → Int} {Q : Qi} (h : CR M a n v l d) (hR : RI N n v l d) (z : Int32) : wpX0_doubts M a z Q = Q (iI (if z = iI 0 then fct (fun r => decide (¬ gd v l d n r = 0)) N else fmx (gd v l d n) 0 N)) M := by
  have hn : n ≤ 1000 := Nat.le_trans hR.2.1 hR.1
  unfold wpX0_doubts
  simp (disch := omega) only [iI_lit, iI_neg, iI_add, iI_sub, iI_mul, iI_lt, iI_le, iI_eq, iI_in, iI_clamp, iI_mx, iI_mn, iI_nI, Int.toNat_natCast, forall_eq, e_places h hn, hR.lpn]
  rcases Nat.eq_zero_or_pos N with c | c
  · subst c
    rw [ex_s rfl]
    simp only [wX0_doubts_19]
    simp (disch := omega) only [iI_lit, iI_neg, iI_add, iI_sub, iI_mul, iI_lt, iI_le, iI_eq, iI_in, iI_clamp, iI_mx, iI_mn, iI_nI, Int.toNat_natCast, forall_eq]
    simp only [br_1 (show ((0 : Nat) : Int) < 1 by omega), ex_c]
    by_cases q : z = iI 0
    · simp only [br_1 q, if_pos q]
      rfl
    · simp only [br_2 q, if_neg q]
      rfl
  · have := l_doubts (Q := Q) h hR z N 0 0 0 rfl (by omega) (hR.pos c) (hR.pos c) (Or.inr rfl) (fun j hj => by omega)
    simpa [fct, fmx] using this
def fsm (f : Nat → Int) : Nat → Int
  | 0 => 0
  | k + 1 => fsm f k + f (k + 1)
theorem l_sumOfPlaces {M : Mem} {N a n : Nat} {v l d : Nat → Int} {Q : Qi} (h : CR M a n v l d) (hR : RI N n v l d) (z : Int32) : ∀ k i b, N - i = k → i ≤ N → b < n → (z = iI 0 → l b + d b ≤ i ∨ b = 0) → (¬ z = iI 0 → ∀ j, j < b → l j < (i : Int) + 1) →
    (∃ m, wX0_sumOfPlaces_13 Q a z (iI N) m M (iI (fsm (fun r => if z = iI 0 then v (flr l d r n) else v (cei l r n)) i)) (iI b) (iI (i + 1 : Nat))) = Q (iI (fsm (fun r => if z = iI 0 then v (flr l d r n) else v (cei l r n)) N)) M := by
  have hn : n ≤ 1000 := Nat.le_trans hR.2.1 hR.1
  have hN := hR.1
  intro k
  induction k with
  | zero =>
    intro i b hk hi hb h1 h2
    have e : i = N := by omega
    subst e
    rw [ex_s rfl]
    simp only [wX0_sumOfPlaces_13]
    simp (disch := omega) only [iI_lit, iI_neg, iI_add, iI_sub, iI_mul, iI_lt, iI_le, iI_eq, iI_in, iI_clamp, iI_mx, iI_mn, iI_nI, Int.toNat_natCast, forall_eq]
    simp only [br_1 (show (i : Int) < (i + 1 : Nat) by omega), ex_c]
  | succ k ih =>
    intro i b hk hi hb h1 h2
    have g3 := cei_lt hR (r := (i + 1 : Nat)) (by omega)
    have g4 := flr_lt (l := l) (d := d) (r := (i + 1 : Nat)) n (hR.pos (by omega))
    have m1 := (h.2 _ g3).1
    have m2 := (h.2 _ g4).1
    have hp := flr_prop (l := l) (d := d) (r := (i + 1 : Nat)) n (hR.pos (by omega))
    have hq := cei_prop (l := l) (r := (i + 1 : Nat)) n
    rw [ex_s rfl]
    simp only [wX0_sumOfPlaces_13]
    by_cases q : z = iI 0
    · have hf := fun (Q : Qi) => e_floorAt (Q := Q) h hR (r := (i + 1 : Nat)) (lo := b) (by omega) hb (by rcases h1 q with y | y; exact Or.inl (by omega); exact Or.inr y)
      simp only [br_1 q, hf]
      simp (disch := omega) only [iI_lit, iI_neg, iI_add, iI_sub, iI_mul, iI_lt, iI_le, iI_eq, iI_in, iI_clamp, iI_mx, iI_mn, iI_nI, Int.toNat_natCast, forall_eq, m1, m2, Int.add_zero]
      simp only [br_2 (show ¬ (N : Int) < (i + 1 : Nat) by omega), and_1 (show 0 ≤ (flr l d (i + 1 : Nat) n : Int) ∧ (flr l d (i + 1 : Nat) n : Int) < (1000 : Nat) by omega)]
      have := ih (i + 1) _ (by omega) (by omega) g4 (fun _ => hp.1) (fun y => absurd q y)
      rw [fsm] at this
      simp only [q, if_true] at this ⊢
      simpa using this
    · have hg := fun (Q : Qi) => e_ceilingAt (Q := Q) h hR (r := (i + 1 : Nat)) (lo := b) (by omega) hb (fun j hj => by have := h2 q j hj; omega)
      simp only [br_2 q, hg]
      simp (disch := omega) only [iI_lit, iI_neg, iI_add, iI_sub, iI_mul, iI_lt, iI_le, iI_eq, iI_in, iI_clamp, iI_mx, iI_mn, iI_nI, Int.toNat_natCast, forall_eq, m1, m2, Int.add_zero]
      simp only [br_2 (show ¬ (N : Int) < (i + 1 : Nat) by omega), and_1 (show 0 ≤ (cei l (i + 1 : Nat) n : Int) ∧ (cei l (i + 1 : Nat) n : Int) < (1000 : Nat) by omega)]
      have := ih (i + 1) _ (by omega) (by omega) g3 (fun y => absurd y q) (fun _ j hj => by have := hq.1 j hj; omega)
      rw [fsm] at this
      simp only [q, if_false] at this ⊢
      simpa using this
theorem e_sumOfPlaces {M : Mem} {N a n : Nat} {v l d : Nat → Int} {Q : Qi} (h : CR M a n v l d) (hR : RI N n v l d) (z : Int32) : wpX0_sumOfPlaces M a z Q = Q (iI (fsm (fun r => if z = iI 0 then v (flr l d r n) else v (cei l r n)) N)) M := by
  have hn : n ≤ 1000 := Nat.le_trans hR.2.1 hR.1
  unfold wpX0_sumOfPlaces
  simp (disch := omega) only [iI_lit, iI_neg, iI_add, iI_sub, iI_mul, iI_lt, iI_le, iI_eq, iI_in, iI_clamp, iI_mx, iI_mn, iI_nI, Int.toNat_natCast, forall_eq, e_places h hn, hR.lpn]
  rcases Nat.eq_zero_or_pos N with c | c
  · subst c
    rw [ex_s rfl]
    simp only [wX0_sumOfPlaces_13]
    simp (disch := omega) only [iI_lit, iI_neg, iI_add, iI_sub, iI_mul, iI_lt, iI_le, iI_eq, iI_in, iI_clamp, iI_mx, iI_mn, iI_nI, Int.toNat_natCast, forall_eq]
    simp only [br_1 (show ((0 : Nat) : Int) < 1 by omega), ex_c]
    rfl
  · have := l_sumOfPlaces (Q := Q) h hR z N 0 0 rfl (by omega) (hR.pos c) (fun _ => Or.inr rfl) (fun _ j hj => by omega)
    simpa [fsm] using this
