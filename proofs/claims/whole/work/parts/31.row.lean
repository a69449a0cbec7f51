/-! ===== a Row: n tuples of value v, LOW l, SPREAD d ===== -/
/-- LOW of the one ahead -/
def lp (l : Nat → Int) (k : Nat) : Int := if k = 0 then 0 else l (k - 1)
/-- the class's Row a holds it -/
def CR (M : Mem) (a n : Nat) (v l d : Nat → Int) : Prop := gI M a 4 = iI n ∧ ∀ k, k < n → gI M (a + 1) k = iI (v k) ∧ gI M (a + 2) k = iI (l k) ∧ gI M (a + 3) k = iI (d k)
/-- what holds of a row of N values -/
def RI (N n : Nat) (v l d : Nat → Int) : Prop :=
  N ≤ 1000 ∧ n ≤ N ∧ (n = 0 → N = 0) ∧ (∀ k, k < n → 0 ≤ v k ∧ v k < 1000 ∧ 1 ≤ l k ∧ 0 ≤ d k ∧ l k + d k ≤ N) ∧ (∀ k, k + 1 < n → v k ≤ v (k + 1) ∧ l k < l (k + 1)) ∧ (0 < n → l 0 = 1 ∧ d 0 = 0 ∧ l (n - 1) = N ∧ d (n - 1) = 0)
abbrev Qi : Type := Int32 → Mem → Prop
theorem e_lowAhead {M : Mem} {a n : Nat} {v l d : Nat → Int} {Q : Int32 → Mem → Prop} (h : CR M a n v l d) (hn : n ≤ 1000) {i : Int} (hi : 0 ≤ i ∧ i ≤ n) : wpX0_lowAhead M a (iI i) Q = Q (iI (lp l i.toNat)) M := by
  unfold wpX0_lowAhead
  have h2 : 1 ≤ i → gI M (a + 2) (i - 1).toNat = iI (l (i - 1).toNat) := fun q => (h.2 _ (by omega)).2.1
  simp +contextual (disch := omega) only [iI_lit, iI_neg, iI_add, iI_sub, iI_mul, iI_lt, iI_le, iI_eq, iI_in, iI_clamp, iI_mx, iI_mn, iI_nI, Int.toNat_natCast, forall_eq, h2]
  grind [lp]
theorem e_places {M : Mem} {a n : Nat} {v l d : Nat → Int} {Q : Int32 → Mem → Prop} (h : CR M a n v l d) (hn : n ≤ 1000) : wpX0_places M a Q = Q (iI (lp l n)) M := by
  unfold wpX0_places
  rw [h.1]
  simp (disch := omega) only [iI_lit, iI_neg, iI_add, iI_sub, iI_mul, iI_lt, iI_le, iI_eq, iI_in, iI_clamp, iI_mx, iI_mn, iI_nI, Int.toNat_natCast, forall_eq, e_lowAhead h hn]
theorem e_gap {M : Mem} {a n : Nat} {v l d : Nat → Int} {Q : Int32 → Mem → Prop} (h : CR M a n v l d) (hn : n ≤ 1000) {i : Int} (hi : 0 ≤ i ∧ i < n) : wpX0_gap M a (iI i) Q = Q (iI (l i.toNat - lp l i.toNat)) M := by
  unfold wpX0_gap
  have h2 := h.2 i.toNat (by omega)
  simp +contextual (disch := omega) only [iI_lit, iI_neg, iI_add, iI_sub, iI_mul, iI_lt, iI_le, iI_eq, iI_in, iI_clamp, iI_mx, iI_mn, iI_nI, Int.toNat_natCast, forall_eq, e_lowAhead h hn, h2.1, h2.2.1, h2.2.2]
  grind
theorem e_high {M : Mem} {a n : Nat} {v l d : Nat → Int} {Q : Int32 → Mem → Prop} (h : CR M a n v l d) (hn : n ≤ 1000) {i : Int} (hi : 0 ≤ i ∧ i < n) : wpX0_high M a (iI i) Q = Q (iI (l i.toNat + d i.toNat)) M := by
  unfold wpX0_high
  have h2 := h.2 i.toNat (by omega)
  simp +contextual (disch := omega) only [iI_lit, iI_neg, iI_add, iI_sub, iI_mul, iI_lt, iI_le, iI_eq, iI_in, iI_clamp, iI_mx, iI_mn, iI_nI, Int.toNat_natCast, forall_eq, e_lowAhead h hn, h2.1, h2.2.1, h2.2.2]
  grind
theorem e_width {M : Mem} {a n : Nat} {v l d : Nat → Int} {Q : Int32 → Mem → Prop} (h : CR M a n v l d) (hn : n ≤ 1000) {i : Int} (hi : 0 ≤ i ∧ i < n) : wpX0_width M a (iI i) Q = Q (iI (l i.toNat - lp l i.toNat + d i.toNat)) M := by
  unfold wpX0_width
  have h2 := h.2 i.toNat (by omega)
  simp +contextual (disch := omega) only [iI_lit, iI_neg, iI_add, iI_sub, iI_mul, iI_lt, iI_le, iI_eq, iI_in, iI_clamp, iI_mx, iI_mn, iI_nI, Int.toNat_natCast, forall_eq, e_lowAhead h hn, h2.1, h2.2.1, h2.2.2]
  grind
/-- the greatest GAP and SPREAD together -/
def wd (l d : Nat → Int) : Nat → Int
  | 0 => 0
  | k + 1 => mx (wd l d k) (l k - lp l k + d k)
theorem RI.lpb {N n : Nat} {v l d : Nat → Int} (h : RI N n v l d) {k : Nat} (hk : k ≤ n) : 0 ≤ lp l k ∧ lp l k ≤ N := by
  obtain ⟨h1, h2, h3, h4, h5, h6⟩ := h
  unfold lp
  split
  · omega
  · have := h4 (k - 1) (by omega)
    omega
theorem RI.lpl {N n : Nat} {v l d : Nat → Int} (h : RI N n v l d) {k : Nat} (hk : k < n) : lp l k < l k := by
  obtain ⟨h1, h2, h3, h4, h5, h6⟩ := h
  unfold lp
  split
  · have := h4 k hk
    omega
  · have := h5 (k - 1) (by omega)
    rw [show k - 1 + 1 = k by omega] at this
    omega
theorem wd_b {N n : Nat} {v l d : Nat → Int} (h : RI N n v l d) : ∀ k, k ≤ n → 0 ≤ wd l d k ∧ wd l d k ≤ N := by
  intro k
  induction k with
  | zero => intro _; simp [wd]
  | succ k ih =>
    intro hk
    have h1 := ih (by omega)
    have h2 := h.lpl (k := k) (by omega)
    have h3 := h.lpb (k := k) (by omega)
    have h4 := h.2.2.2.1 k (by omega)
    grind [wd, mx]
theorem l_widest {M : Mem} {N a n : Nat} {v l d : Nat → Int} {Q : Int32 → Mem → Prop} (h : CR M a n v l d) (hR : RI N n v l d) : ∀ m i : Nat, i ≤ n → wX0_widest_4 Q a m M (iI (wd l d i)) (iI i) = (n - i < m ∧ Q (iI (wd l d n)) M) := by
  have hn : n ≤ 1000 := Nat.le_trans hR.2.1 hR.1
  intro m
  induction m with
  | zero => intro i hi; simp [wX0_widest_4]
  | succ m ih =>
    intro i hi
    rw [wX0_widest_4, h.1]
    rcases Nat.lt_or_ge i n with c | c
    · have h1 := ih (i + 1) c
      have h2 := hR.lpl c
      have h3 := hR.lpb hi
      have h4 := hR.2.2.2.1 i c
      have h5 := wd_b hR i hi
      have h6 := hR.1
      rw [wd] at h1
      simp +contextual (disch := omega) only [iI_lit, iI_neg, iI_add, iI_sub, iI_mul, iI_lt, iI_le, iI_eq, iI_in, iI_clamp, iI_mx, iI_mn, iI_nI, Int.toNat_natCast, forall_eq, e_width h hn]
      rw [Int.natCast_add] at h1
      grind
    · have e : i = n := by omega
      subst e
      simp +contextual (disch := omega) only [iI_lit, iI_neg, iI_add, iI_sub, iI_mul, iI_lt, iI_le, iI_eq, iI_in, iI_clamp, iI_mx, iI_mn, iI_nI, Int.toNat_natCast, forall_eq]
      grind
theorem e_widest {M : Mem} {N a n : Nat} {v l d : Nat → Int} {Q : Int32 → Mem → Prop} (h : CR M a n v l d) (hR : RI N n v l d) : wpX0_widest M a Q = Q (iI (wd l d n)) M := by
  unfold wpX0_widest
  have := fun m => l_widest (Q := Q) h hR m 0 (Nat.zero_le n)
  simp only [wd] at this
  simp (disch := omega) only [iI_lit, iI_neg, iI_add, iI_sub, iI_mul, iI_lt, iI_le, iI_eq, iI_in, iI_clamp, iI_mx, iI_mn, iI_nI, Int.toNat_natCast, forall_eq]
  simp only [Int.natCast_zero] at this
  simp only [this, ex_lt]
/-- how many stand ahead of the first one with a value above x -/
def plc (v : Nat → Int) (x : Int) : Nat → Nat
  | 0 => 0
  | k + 1 => if plc v x k = k ∧ v k ≤ x then k + 1 else plc v x k
theorem plc_le (v : Nat → Int) (x : Int) : ∀ n, plc v x n ≤ n := by
  intro n
  induction n with
  | zero => simp [plc]
  | succ n ih => grind [plc]
theorem plc_lo (v : Nat → Int) (x : Int) : ∀ n k, k < plc v x n → v k ≤ x := by
  intro n
  induction n with
  | zero => intro k h; simp [plc] at h
  | succ n ih =>
    intro k h
    have := ih k
    have := plc_le v x n
    grind [plc]
theorem plc_hi (v : Nat → Int) (x : Int) : ∀ n, plc v x n < n → x < v (plc v x n) := by
  intro n
  induction n with
  | zero => intro h; omega
  | succ n ih =>
    intro h
    have := plc_le v x n
    grind [plc]
theorem RI.vmono {N n : Nat} {v l d : Nat → Int} (h : RI N n v l d) : ∀ j i, i + j < n → v i ≤ v (i + j) := by
  intro j
  induction j with
  | zero => intro i _; simp
  | succ j ih =>
    intro i hi
    have h1 := ih i (by omega)
    have h2 := (h.2.2.2.2.1 (i + j) (by omega)).1
    rw [show i + (j + 1) = i + j + 1 by omega]
    omega
theorem RI.lmono {N n : Nat} {v l d : Nat → Int} (h : RI N n v l d) : ∀ j i, i + j < n → l i + j ≤ l (i + j) := by
  intro j
  induction j with
  | zero => intro i _; simp
  | succ j ih =>
    intro i hi
    have h1 := ih i (by omega)
    have h2 := (h.2.2.2.2.1 (i + j) (by omega)).2
    rw [show i + (j + 1) = i + j + 1 by omega]
    omega
theorem plc_iff {N n : Nat} {v l d : Nat → Int} (h : RI N n v l d) (x : Int) {k : Nat} (hk : k < n) : v k ≤ x ↔ k < plc v x n := by
  refine ⟨fun q => ?_, fun q => plc_lo v x n k q⟩
  rcases Nat.lt_or_ge k (plc v x n) with c | c
  · exact c
  · have h1 := plc_hi v x n (by omega)
    have h2 := h.vmono (k - plc v x n) (plc v x n) (by omega)
    rw [show plc v x n + (k - plc v x n) = k by omega] at h2
    omega
theorem l_tuplesUpTo {M : Mem} {N a n : Nat} {v l d : Nat → Int} {Q : Qi} (h : CR M a n v l d) (hR : RI N n v l d) (x : Int) (hx : -1 ≤ x ∧ x ≤ 1000) : ∀ (j m c : Nat) (s : Int), s = 2 ^ j → j < 11 → c ≤ plc v x n → plc v x n < c + 2 * s → wX0_tuplesUpTo_6 Q a (iI x) m M (iI c) (iI s) = (j + 1 < m ∧ Q (iI (plc v x n)) M) := by
  have hn : n ≤ 1000 := Nat.le_trans hR.2.1 hR.1
  have hp := plc_le v x n
  have fin : ∀ (m : Nat) (c : Int), wX0_tuplesUpTo_6 Q a (iI x) m M (iI c) (iI 0) = (0 < m ∧ Q (iI c) M) := by
    intro m c
    cases m with
    | zero => simp [wX0_tuplesUpTo_6]
    | succ m =>
      rw [wX0_tuplesUpTo_6]
      simp +contextual (disch := omega) only [iI_lit, iI_neg, iI_add, iI_sub, iI_mul, iI_lt, iI_le, iI_eq, iI_in, iI_clamp, iI_mx, iI_mn, iI_nI, Int.toNat_natCast, forall_eq]
      simp
  intro j
  induction j with
  | zero =>
    intro m c s hs hj hc hp2
    cases m with
    | zero => simp [wX0_tuplesUpTo_6]
    | succ m =>
      rw [wX0_tuplesUpTo_6, h.1]
      have e1 : s = 1 := by simpa using hs
      subst e1
      have hv : c + 1 ≤ n → gI M (a + 1) c = iI (v c) := fun q => (h.2 c (by omega)).1
      have hb : c + 1 ≤ n → 0 ≤ v c ∧ v c < 1000 := fun q => ⟨(hR.2.2.2.1 c (by omega)).1, (hR.2.2.2.1 c (by omega)).2.1⟩
      have hi : c + 1 ≤ n → (v c ≤ x ↔ c < plc v x n) := fun q => plc_iff hR x (by omega)
      rcases Nat.lt_or_ge n (c + 1) with q | q
      · simp +contextual (disch := omega) only [iI_lit, iI_neg, iI_add, iI_sub, iI_mul, iI_lt, iI_le, iI_eq, iI_in, iI_clamp, iI_mx, iI_mn, iI_nI, Int.toNat_natCast, forall_eq, iI_div]
        have := fin m c
        grind
      · have hv := hv q
        have hb := hb q
        have hi := hi q
        have e2 : ((c : Int) + 1 - 1).toNat = c := by omega
        simp +contextual (disch := omega) only [iI_lit, iI_neg, iI_add, iI_sub, iI_mul, iI_lt, iI_le, iI_eq, iI_in, iI_clamp, iI_mx, iI_mn, iI_nI, Int.toNat_natCast, forall_eq, iI_div, e2, hv]
        have f1 := fin m c
        have f2 := fin m (c + 1)
        grind
  | succ j ih =>
    intro m c s hs hj hc hp2
    cases m with
    | zero => simp [wX0_tuplesUpTo_6]
    | succ m =>
      rw [wX0_tuplesUpTo_6, h.1]
      have e0 : s = 2 * 2 ^ j := by rw [hs, Int.pow_succ]; omega
      have e3 : (2 : Int) ^ j ≤ 1024 ∧ 1 ≤ (2 : Int) ^ j := by
        have : j < 10 := by omega
        rcases (show j = 0 ∨ j = 1 ∨ j = 2 ∨ j = 3 ∨ j = 4 ∨ j = 5 ∨ j = 6 ∨ j = 7 ∨ j = 8 ∨ j = 9 by omega) with rfl | rfl | rfl | rfl | rfl | rfl | rfl | rfl | rfl | rfl <;> decide
      obtain ⟨t, ht⟩ : ∃ t : Int, t = 2 ^ j := ⟨_, rfl⟩
      rw [← ht] at e0 e3
      subst e0
      have e4 : 2 * t / 2 = t := by omega
      obtain ⟨tn, rfl⟩ : ∃ tn : Nat, t = tn := ⟨t.toNat, by omega⟩
      have i1 := ih m c tn ht (by omega) hc
      have i2 := ih m (c + 2 * tn) tn ht (by omega)
      have hv : c + 2 * tn ≤ n → gI M (a + 1) (c + 2 * tn - 1) = iI (v (c + 2 * tn - 1)) := fun q => (h.2 _ (by omega)).1
      have hb : c + 2 * tn ≤ n → 0 ≤ v (c + 2 * tn - 1) ∧ v (c + 2 * tn - 1) < 1000 := fun q => ⟨(hR.2.2.2.1 _ (by omega)).1, (hR.2.2.2.1 _ (by omega)).2.1⟩
      have hi : c + 2 * tn ≤ n → (v (c + 2 * tn - 1) ≤ x ↔ c + 2 * tn - 1 < plc v x n) := fun q => plc_iff hR x (by omega)
      rcases Nat.lt_or_ge n (c + 2 * tn) with q | q
      · simp +contextual (disch := omega) only [iI_lit, iI_neg, iI_add, iI_sub, iI_mul, iI_lt, iI_le, iI_eq, iI_in, iI_clamp, iI_mx, iI_mn, iI_nI, Int.toNat_natCast, forall_eq, iI_div, e4]
        grind
      · have hv := hv q
        have hb := hb q
        have hi := hi q
        have e2 : ((c : Int) + 2 * tn - 1).toNat = c + 2 * tn - 1 := by omega
        simp +contextual (disch := omega) only [iI_lit, iI_neg, iI_add, iI_sub, iI_mul, iI_lt, iI_le, iI_eq, iI_in, iI_clamp, iI_mx, iI_mn, iI_nI, Int.toNat_natCast, forall_eq, iI_div, e2, hv, e4]
        grind
theorem e_tuplesUpTo {M : Mem} {N a n : Nat} {v l d : Nat → Int} {Q : Qi} (h : CR M a n v l d) (hR : RI N n v l d) {x : Int} (hx : -1 ≤ x ∧ x ≤ 1000) : wpX0_tuplesUpTo M a (iI x) Q = Q (iI (plc v x n)) M := by
  unfold wpX0_tuplesUpTo
  have hn : n ≤ 1000 := Nat.le_trans hR.2.1 hR.1
  have hp := plc_le v x n
  have := fun m => l_tuplesUpTo (Q := Q) h hR x hx 9 m 0 512 (by decide) (by omega) (by omega) (by omega)
  simp only [Int.natCast_zero] at this
  simp (disch := omega) only [iI_lit, iI_neg, iI_add, iI_sub, iI_mul, iI_lt, iI_le, iI_eq, iI_in, iI_clamp, iI_mx, iI_mn, iI_nI, Int.toNat_natCast, forall_eq]
  simp only [this, ex_lt]
theorem RI.lpn {N n : Nat} {v l d : Nat → Int} (h : RI N n v l d) : lp l n = N := by
  obtain ⟨h1, h2, h3, h4, h5, h6⟩ := h
  unfold lp
  split
  · have := h3 (by assumption)
    omega
  · exact (h6 (by omega)).2.2.1
def sur (v l : Nat → Int) (n : Nat) (x : Int) : Int := lp l (plc v x n)
def mst (v l d : Nat → Int) (n : Nat) (x : Int) : Int := if plc v x n < n then l (plc v x n) + d (plc v x n) - 1 else lp l n
theorem sur_b {N n : Nat} {v l d : Nat → Int} (h : RI N n v l d) (x : Int) : 0 ≤ sur v l n x ∧ sur v l n x ≤ N := h.lpb (plc_le v x n)
theorem mst_b {N n : Nat} {v l d : Nat → Int} (h : RI N n v l d) (x : Int) : 0 ≤ mst v l d n x ∧ mst v l d n x ≤ N := by
  unfold mst
  split
  · have := h.2.2.2.1 (plc v x n) (by assumption)
    omega
  · exact h.lpb (Nat.le_refl n)
theorem e_sureUpTo {M : Mem} {N a n : Nat} {v l d : Nat → Int} {Q : Qi} (h : CR M a n v l d) (hR : RI N n v l d) {x : Int} (hx : -1 ≤ x ∧ x ≤ 1000) : wpX0_sureUpTo M a (iI x) Q = Q (iI (sur v l n x)) M := by
  have hn : n ≤ 1000 := Nat.le_trans hR.2.1 hR.1
  have hp := plc_le v x n
  unfold wpX0_sureUpTo
  simp (disch := omega) only [iI_lit, iI_neg, iI_add, iI_sub, iI_mul, iI_lt, iI_le, iI_eq, iI_in, iI_clamp, iI_mx, iI_mn, iI_nI, Int.toNat_natCast, forall_eq, e_tuplesUpTo h hR, e_lowAhead h hn]
  rfl
theorem e_mostUpTo {M : Mem} {N a n : Nat} {v l d : Nat → Int} {Q : Qi} (h : CR M a n v l d) (hR : RI N n v l d) {x : Int} (hx : -1 ≤ x ∧ x ≤ 1000) : wpX0_mostUpTo M a (iI x) Q = Q (iI (mst v l d n x)) M := by
  have hn : n ≤ 1000 := Nat.le_trans hR.2.1 hR.1
  have hp := plc_le v x n
  unfold wpX0_mostUpTo
  simp (disch := omega) only [iI_lit, iI_neg, iI_add, iI_sub, iI_mul, iI_lt, iI_le, iI_eq, iI_in, iI_clamp, iI_mx, iI_mn, iI_nI, Int.toNat_natCast, forall_eq, e_tuplesUpTo h hR, e_lowAhead h hn, h.1, e_places h hn]
  unfold mst
  rcases Nat.lt_or_ge (plc v x n) n with c | c
  · simp (disch := omega) only [iI_lit, iI_neg, iI_add, iI_sub, iI_mul, iI_lt, iI_le, iI_eq, iI_in, iI_clamp, iI_mx, iI_mn, iI_nI, Int.toNat_natCast, forall_eq, e_high h hn]
    grind
  · grind
/-- how many lie above x and no greater than y: at least, at most -/
def cab (v l d : Nat → Int) (n : Nat) (x y : Int) (most : Bool) : Int :=
  if most then mst v l d n y - sur v l n x else mx 0 (sur v l n y - mst v l d n x)
theorem e_countAbove {M : Mem} {N a n : Nat} {v l d : Nat → Int} {Q : Qi} (h : CR M a n v l d) (hR : RI N n v l d) {x y : Int} (hx : -1 ≤ x ∧ x ≤ 1000) (hy : -1 ≤ y ∧ y ≤ 1000) (z : Int32) : wpX0_countAbove M a (iI x) (iI y) z Q = Q (iI (cab v l d n x y (decide (¬ z = iI 0)))) M := by
  have h1 := sur_b hR x
  have h2 := sur_b hR y
  have h3 := mst_b hR x
  have h4 := mst_b hR y
  have h5 := hR.1
  unfold wpX0_countAbove
  by_cases c : z = iI 0
  · unfold cab
    simp (disch := omega) only [iI_lit, iI_neg, iI_add, iI_sub, iI_mul, iI_lt, iI_le, iI_eq, iI_in, iI_clamp, iI_mx, iI_mn, iI_nI, Int.toNat_natCast, forall_eq, e_sureUpTo h hR, e_mostUpTo h hR]
    simp [c]
  · unfold cab
    simp (disch := omega) only [iI_lit, iI_neg, iI_add, iI_sub, iI_mul, iI_lt, iI_le, iI_eq, iI_in, iI_clamp, iI_mx, iI_mn, iI_nI, Int.toNat_natCast, forall_eq, e_sureUpTo h hR, e_mostUpTo h hR]
    simp [c]
/-- how far off -/
def off (l d : Nat → Int) (r : Int) (k : Nat) : Int := mx (r - l k) (l k + d k - r)
theorem e_offBy {M : Mem} {N a n : Nat} {v l d : Nat → Int} {Q : Qi} (h : CR M a n v l d) (hR : RI N n v l d) {i r : Int} (hi : 0 ≤ i ∧ i < n) (hr : 0 ≤ r ∧ r ≤ 1001) : wpX0_offBy M a (iI i) (iI r) Q = Q (iI (off l d r i.toNat)) M := by
  have hn : n ≤ 1000 := Nat.le_trans hR.2.1 hR.1
  have h2 := h.2 i.toNat (by omega)
  have h3 := hR.2.2.2.1 i.toNat (by omega)
  have h4 := hR.1
  unfold wpX0_offBy
  simp (disch := omega) only [iI_lit, iI_neg, iI_add, iI_sub, iI_mul, iI_lt, iI_le, iI_eq, iI_in, iI_clamp, iI_mx, iI_mn, iI_nI, Int.toNat_natCast, forall_eq, h2.1, h2.2.1, h2.2.2, e_high h hn]
  unfold off
  grind
theorem off_b {N n : Nat} {v l d : Nat → Int} (h : RI N n v l d) {r : Int} {k : Nat} (hk : k < n) (hr : 1 ≤ r ∧ r ≤ N) : 0 ≤ off l d r k ∧ off l d r k ≤ N := by
  have h3 := h.2.2.2.1 k hk
  unfold off mx
  split <;> omega
/-- the first of the least off, from lo on, below hi -/
def IsB (l d : Nat → Int) (r : Int) (lo hi i : Nat) : Prop := lo ≤ i ∧ i < hi ∧ ∀ j, lo ≤ j → j < hi → off l d r i ≤ off l d r j ∧ (j < i → off l d r i < off l d r j)
theorem IsB.one {l d : Nat → Int} {r : Int} {lo hi i j : Nat} (h1 : IsB l d r lo hi i) (h2 : IsB l d r lo hi j) : i = j := by
  have a := h1.2.2 j h2.1 h2.2.1
  have b := h2.2.2 i h1.1 h1.2.1
  rcases Nat.lt_trichotomy i j with c | c | c
  · have := b.2 c; omega
  · exact c
  · have := a.2 c; omega
theorem l_nearest {M : Mem} {N a n t lo : Nat} {v l d : Nat → Int} {Q : Qi} (h : CR M a n v l d) (hR : RI N n v l d) {r : Int} (hr : 1 ≤ r ∧ r ≤ N) (ht : IsB l d r lo n t) : ∀ k i b, n - i = k → i ≤ n → IsB l d r lo i b → (∃ m, wX0_nearest_15 Q a (iI r) m M (iI b) (iI (off l d r b)) (iI i)) = Q (iI t) M := by
  have hn : n ≤ 1000 := Nat.le_trans hR.2.1 hR.1
  have hN := hR.1
  intro k
  induction k with
  | zero =>
    intro i b hk hi hb
    have e : i = n := by omega
    subst e
    have e2 := hb.one ht
    subst e2
    rw [ex_s rfl]
    simp only [wX0_nearest_15, h.1]
    simp (disch := omega) only [iI_lit, iI_neg, iI_add, iI_sub, iI_mul, iI_lt, iI_le, iI_eq, iI_in, iI_clamp, iI_mx, iI_mn, iI_nI, Int.toNat_natCast, forall_eq]
    simp only [br_1 (show (i : Int) ≤ i by omega), ex_c]
  | succ k ih =>
    intro i b hk hi hb
    rw [ex_s rfl]
    have h2 := h.2 i (by omega)
    have h3 := hR.2.2.2.1 i (by omega)
    have h4 := hb.2.1
    have h5 := hb.1
    have h6 := off_b hR (r := r) (k := b) (by omega) hr
    have h7 := off_b hR (r := r) (k := i) (by omega) hr
    simp only [wX0_nearest_15, h.1]
    simp (disch := omega) only [iI_lit, iI_neg, iI_add, iI_sub, iI_mul, iI_lt, iI_le, iI_eq, iI_in, iI_clamp, iI_mx, iI_mn, iI_nI, Int.toNat_natCast, forall_eq, h2.1, h2.2.1, h2.2.2, e_offBy h hR]
    simp only [br_2 (show ¬ (n : Int) ≤ i by omega), and_1 (show 0 ≤ (i : Int) ∧ (i : Int) < (1000 : Nat) by omega)]
    by_cases c : off l d r b ≤ l i - r
    · simp only [br_1 c, ex_c]
      have e2 : IsB l d r lo n b := by
        refine ⟨h5, by omega, fun j hj hj2 => ?_⟩
        rcases Nat.lt_or_ge j i with q | q
        · exact hb.2.2 j hj q
        · have h8 := hR.lmono (j - i) i (by omega)
          rw [show i + (j - i) = j by omega] at h8
          have h9 := hR.2.2.2.1 j hj2
          refine ⟨?_, fun q2 => by omega⟩
          unfold off at c ⊢
          grind [mx]
      rw [e2.one ht]
    · simp only [br_2 c]
      by_cases c2 : off l d r b ≤ off l d r i
      · simp only [br_1 c2]
        have := ih (i + 1) b (by omega) (by omega) ⟨h5, by omega, fun j hj hj2 => by
          rcases Nat.lt_or_ge j i with q | q
          · exact hb.2.2 j hj q
          · have e : j = i := by omega
            subst e
            exact ⟨c2, fun q2 => by omega⟩⟩
        simpa using this
      · simp only [br_2 c2]
        have := ih (i + 1) i (by omega) (by omega) ⟨by omega, by omega, fun j hj hj2 => by
          rcases Nat.lt_or_ge j i with q | q
          · have := hb.2.2 j hj q
            omega
          · have e : j = i := by omega
            subst e
            omega⟩
        simpa using this
def bs (l d : Nat → Int) (r : Int) : Nat → Nat
  | 0 => 0
  | k + 1 => if off l d r (k + 1) < off l d r (bs l d r k) then k + 1 else bs l d r k
theorem bs_is (l d : Nat → Int) (r : Int) : ∀ k, IsB l d r 0 (k + 1) (bs l d r k) := by
  intro k
  induction k with
  | zero =>
    refine ⟨Nat.le_refl _, by simp [bs], fun j h1 h2 => ?_⟩
    have e : j = 0 := by omega
    subst e
    simp [bs]
  | succ k ih =>
    obtain ⟨h1, h2, h3⟩ := ih
    rw [bs]
    split
    · refine ⟨by omega, by omega, fun j h4 h5 => ?_⟩
      rcases Nat.lt_or_ge j (k + 1) with q | q
      · have := h3 j h4 q
        omega
      · have e : j = k + 1 := by omega
        subst e
        omega
    · refine ⟨h1, by omega, fun j h4 h5 => ?_⟩
      rcases Nat.lt_or_ge j (k + 1) with q | q
      · exact h3 j h4 q
      · have e : j = k + 1 := by omega
        subst e
        omega
/-- the ANSWER to a place: which tuple -/
def ans (l d : Nat → Int) (n : Nat) (r : Int) : Nat := bs l d r (n - 1)
theorem ans_is {l d : Nat → Int} {n : Nat} (hn : 0 < n) (r : Int) : IsB l d r 0 n (ans l d n r) := by
  have := bs_is l d r (n - 1)
  rw [show n - 1 + 1 = n by omega] at this
  exact this
theorem RI.lm {N n : Nat} {v l d : Nat → Int} (h : RI N n v l d) {i j : Nat} (hij : i < j) (hj : j < n) : l i < l j := by
  have := h.lmono (j - i) i (by omega)
  rw [show i + (j - i) = j by omega] at this
  omega
theorem ans_mono {N n : Nat} {v l d : Nat → Int} (h : RI N n v l d) (hn : 0 < n) {r r' : Int} (hr : r ≤ r') : ans l d n r ≤ ans l d n r' := by
  have h1 := ans_is (l := l) (d := d) hn r
  have h2 := ans_is (l := l) (d := d) hn r'
  rcases Nat.lt_or_ge (ans l d n r') (ans l d n r) with c | c
  · have a := (h1.2.2 _ (Nat.zero_le _) h2.2.1).2 c
    have b := (h2.2.2 _ (Nat.zero_le _) h1.2.1).1
    have e := h.lm c h1.2.1
    unfold off at a b
    grind [mx]
  · exact c
theorem ans_lt {l d : Nat → Int} {n : Nat} (hn : 0 < n) (r : Int) : ans l d n r < n := (ans_is hn r).2.1
theorem e_nearest {M : Mem} {N a n lo : Nat} {v l d : Nat → Int} {Q : Qi} (h : CR M a n v l d) (hR : RI N n v l d) {r : Int} (hr : 1 ≤ r ∧ r ≤ N) (hlo : lo ≤ ans l d n r) : wpX0_nearest M a (iI r) (iI lo) Q = Q (iI (ans l d n r)) M := by
  have hn : n ≤ 1000 := Nat.le_trans hR.2.1 hR.1
  have hN := hR.1
  have hn0 : 0 < n := by
    rcases Nat.lt_or_ge 0 n with q | q
    · exact q
    · have := hR.2.2.1 (by omega)
      omega
  have h1 := ans_is (l := l) (d := d) hn0 r
  have h2 := h1.2.1
  unfold wpX0_nearest
  have ht : IsB l d r lo n (ans l d n r) := ⟨hlo, h2, fun j hj hj2 => h1.2.2 j (Nat.zero_le _) hj2⟩
  have := l_nearest (Q := Q) h hR hr ht (n - (lo + 1)) (lo + 1) lo rfl (by omega) ⟨Nat.le_refl _, Nat.lt_succ_self _, fun j hj hj2 => by
    have e : j = lo := by omega
    subst e
    omega⟩
  simp (disch := omega) only [iI_lit, iI_neg, iI_add, iI_sub, iI_mul, iI_lt, iI_le, iI_eq, iI_in, iI_clamp, iI_mx, iI_mn, iI_nI, Int.toNat_natCast, forall_eq, e_offBy h hR]
  simpa using this
theorem e_nearest0 {M : Mem} {N a n : Nat} {v l d : Nat → Int} {Q : Qi} (h : CR M a n v l d) (hR : RI N n v l d) {r : Int} (hr : 1 ≤ r ∧ r ≤ N) : wpX0_nearest M a (iI r) (iI 0) Q = Q (iI (ans l d n r)) M := by
  have := e_nearest (Q := Q) h hR hr (Nat.zero_le _)
  simpa using this
/-- a greatest over places, from a start on -/
def fmx (f : Nat → Int) (z : Int) : Nat → Int
  | 0 => z
  | k + 1 => mx (fmx f z k) (f (k + 1))
theorem fmx_b {f : Nat → Int} {z B : Int} (hz : z ≤ B) : ∀ k, (∀ j, 1 ≤ j → j ≤ k → f j ≤ B) → z ≤ fmx f z k ∧ fmx f z k ≤ B := by
  intro k
  induction k with
  | zero => intro _; simp [fmx]; exact hz
  | succ k ih =>
    intro h
    have h1 := ih (fun j a b => h j a (by omega))
    have h2 := h (k + 1) (by omega) (Nat.le_refl _)
    grind [fmx, mx]
theorem RI.pos {N n : Nat} {v l d : Nat → Int} (h : RI N n v l d) (hN : 0 < N) : 0 < n := by
  rcases Nat.lt_or_ge 0 n with q | q
  · exact q
  · have := h.2.2.1 (by omega)
    omega
/-- how far off the ANSWER to r -/
def oa (l d : Nat → Int) (n : Nat) (r : Nat) : Int := off l d r (ans l d n r)
theorem oa_b {N n : Nat} {v l d : Nat → Int} (h : RI N n v l d) {r : Nat} (hr : 1 ≤ r ∧ r ≤ N) : 0 ≤ oa l d n r ∧ oa l d n r ≤ N := off_b h (ans_lt (h.pos (by omega)) _) (by omega)
theorem l_greatestOff {M : Mem} {N a n : Nat} {v l d : Nat → Int} {Q : Qi} (h : CR M a n v l d) (hR : RI N n v l d) : ∀ k i b, N - i = k → i ≤ N → b < n → (i < N → b ≤ ans l d n (i + 1 : Nat)) → (∃ m, wX0_greatestOff_12 Q a (iI N) m M (iI (fmx (oa l d n) 0 i)) (iI b) (iI (i + 1 : Nat))) = Q (iI (fmx (oa l d n) 0 N)) M := by
  have hN := hR.1
  intro k
  induction k with
  | zero =>
    intro i b hk hi hb hb2
    have e : i = N := by omega
    subst e
    rw [ex_s rfl]
    simp only [wX0_greatestOff_12]
    simp (disch := omega) only [iI_lit, iI_neg, iI_add, iI_sub, iI_mul, iI_lt, iI_le, iI_eq, iI_in, iI_clamp, iI_mx, iI_mn, iI_nI, Int.toNat_natCast, forall_eq]
    simp only [br_1 (show (i : Int) < (i + 1 : Nat) by omega), ex_c]
  | succ k ih =>
    intro i b hk hi hb hb2
    have h1 := oa_b hR (r := i + 1) (by omega)
    unfold oa at h1
    have h2 := fmx_b (f := oa l d n) (z := 0) (B := N) (by omega) i (fun j a b => (oa_b hR (by omega)).2)
    have h3 := ans_lt (l := l) (d := d) (hR.pos (by omega)) (i + 1 : Nat)
    rw [ex_s rfl]
    simp only [wX0_greatestOff_12]
    have hnr := fun (Q : Qi) => e_nearest (Q := Q) h hR (r := (i + 1 : Nat)) (by omega) (hb2 (by omega))
    simp only [hnr]
    simp (disch := omega) only [iI_lit, iI_neg, iI_add, iI_sub, iI_mul, iI_lt, iI_le, iI_eq, iI_in, iI_clamp, iI_mx, iI_mn, iI_nI, Int.toNat_natCast, forall_eq, e_offBy h hR]
    simp only [br_2 (show ¬ (N : Int) < (i + 1 : Nat) by omega)]
    have := ih (i + 1) (ans l d n (i + 1 : Nat)) (by omega) (by omega) h3 (fun _ => ans_mono hR (by omega) (by omega))
    rw [fmx] at this
    simpa [oa] using this
theorem e_greatestOff {M : Mem} {N a n : Nat} {v l d : Nat → Int} {Q : Qi} (h : CR M a n v l d) (hR : RI N n v l d) (hN : 0 < N) : wpX0_greatestOff M a Q = Q (iI (fmx (oa l d n) 0 N)) M := by
  have hn : n ≤ 1000 := Nat.le_trans hR.2.1 hR.1
  unfold wpX0_greatestOff
  have := l_greatestOff (Q := Q) h hR N 0 0 rfl (by omega) (hR.pos hN) (fun _ => Nat.zero_le _)
  simp (disch := omega) only [iI_lit, iI_neg, iI_add, iI_sub, iI_mul, iI_lt, iI_le, iI_eq, iI_in, iI_clamp, iI_mx, iI_mn, iI_nI, Int.toNat_natCast, forall_eq, e_places h hn, hR.lpn]
  simpa [fmx] using this
/-- a count over places -/
def fct (p : Nat → Bool) : Nat → Int
  | 0 => 0
  | k + 1 => if p (k + 1) then fct p k + 1 else fct p k
theorem fct_b (p : Nat → Bool) : ∀ k, 0 ≤ fct p k ∧ fct p k ≤ k := by
  intro k
  induction k with
  | zero => simp [fct]
  | succ k ih => grind [fct]
theorem l_exactPlaces {M : Mem} {N a n : Nat} {v l d : Nat → Int} {Q : Qi} (h : CR M a n v l d) (hR : RI N n v l d) : ∀ k i b, N - i = k → i ≤ N → b < n → (i < N → b ≤ ans l d n (i + 1 : Nat)) → (∃ m, wX0_exactPlaces_12 Q a (iI N) m M (iI (fct (fun r => decide (oa l d n r = 0)) i)) (iI b) (iI (i + 1 : Nat))) = Q (iI (fct (fun r => decide (oa l d n r = 0)) N)) M := by
  have hN := hR.1
  intro k
  induction k with
  | zero =>
    intro i b hk hi hb hb2
    have e : i = N := by omega
    subst e
    rw [ex_s rfl]
    simp only [wX0_exactPlaces_12]
    simp (disch := omega) only [iI_lit, iI_neg, iI_add, iI_sub, iI_mul, iI_lt, iI_le, iI_eq, iI_in, iI_clamp, iI_mx, iI_mn, iI_nI, Int.toNat_natCast, forall_eq]
    simp only [br_1 (show (i : Int) < (i + 1 : Nat) by omega), ex_c]
  | succ k ih =>
    intro i b hk hi hb hb2
    have h1 := oa_b hR (r := i + 1) (by omega)
    unfold oa at h1
    have h2 := fct_b (fun r => decide (oa l d n r = 0)) i
    have h3 := ans_lt (l := l) (d := d) (hR.pos (by omega)) (i + 1 : Nat)
    rw [ex_s rfl]
    simp only [wX0_exactPlaces_12]
    have hnr := fun (Q : Qi) => e_nearest (Q := Q) h hR (r := (i + 1 : Nat)) (by omega) (hb2 (by omega))
    simp only [hnr]
    simp (disch := omega) only [iI_lit, iI_neg, iI_add, iI_sub, iI_mul, iI_lt, iI_le, iI_eq, iI_in, iI_clamp, iI_mx, iI_mn, iI_nI, Int.toNat_natCast, forall_eq, e_offBy h hR]
    simp only [br_2 (show ¬ (N : Int) < (i + 1 : Nat) by omega)]
    have := ih (i + 1) (ans l d n (i + 1 : Nat)) (by omega) (by omega) h3 (fun _ => ans_mono hR (by omega) (by omega))
    rw [fct] at this
    by_cases c : off l d (i + 1 : Nat) (ans l d n (i + 1 : Nat)) = 0
    · simp only [br_4 c]
      have c' : oa l d n (i + 1) = 0 := c
      simp only [c', decide_true, if_true] at this
      simpa using this
    · simp only [br_3 c]
      have c' : ¬ oa l d n (i + 1) = 0 := c
      simp only [c', decide_false, Bool.false_eq_true, if_false] at this
      simpa using this
theorem e_exactPlaces {M : Mem} {N a n : Nat} {v l d : Nat → Int} {Q : Qi} (h : CR M a n v l d) (hR : RI N n v l d) : wpX0_exactPlaces M a Q = Q (iI (fct (fun r => decide (oa l d n r = 0)) N)) M := by
  have hn : n ≤ 1000 := Nat.le_trans hR.2.1 hR.1
  unfold wpX0_exactPlaces
  simp (disch := omega) only [iI_lit, iI_neg, iI_add, iI_sub, iI_mul, iI_lt, iI_le, iI_eq, iI_in, iI_clamp, iI_mx, iI_mn, iI_nI, Int.toNat_natCast, forall_eq, e_places h hn, hR.lpn]
  rcases Nat.eq_zero_or_pos N with c | c
  · subst c
    rw [ex_s rfl]
    simp only [wX0_exactPlaces_12]
    simp (disch := omega) only [iI_lit, iI_neg, iI_add, iI_sub, iI_mul, iI_lt, iI_le, iI_eq, iI_in, iI_clamp, iI_mx, iI_mn, iI_nI, Int.toNat_natCast, forall_eq]
    simp only [br_1 (show ((0 : Nat) : Int) < 1 by omega), ex_c]
    rfl
  · have := l_exactPlaces (Q := Q) h hR N 0 0 rfl (by omega) (hR.pos c) (fun _ => Nat.zero_le _)
    simpa [fct] using this
/-- FLOOR: the last one whose HIGH is no greater -/
def flr (l d : Nat → Int) (r : Int) : Nat → Nat
  | 0 => 0
  | k + 1 => if l k + d k ≤ r then k else flr l d r k
/-- CEILING: the first one whose LOW is no less -/
def cei (l : Nat → Int) (r : Int) : Nat → Nat
  | 0 => 0
  | k + 1 => if cei l r k < k then cei l r k else if r ≤ l k then k else k + 1
theorem flr_lt {l d : Nat → Int} {r : Int} : ∀ k, 0 < k → flr l d r k < k := by
  intro k
  induction k with
  | zero => intro h; omega
  | succ k ih =>
    intro _
    rcases Nat.eq_zero_or_pos k with c | c
    · subst c; simp [flr]
    · have := ih c
      grind [flr]
/-- told by what it is -/
theorem flr_is {l d : Nat → Int} {r : Int} : ∀ n i, i < n → (l i + d i ≤ r ∨ i = 0) → (∀ j, i < j → j < n → ¬ l j + d j ≤ r) → flr l d r n = i := by
  intro n
  induction n with
  | zero => intro i h; omega
  | succ n ih =>
    intro i h1 h2 h3
    rcases Nat.lt_or_ge i n with c | c
    · have a := h3 n c (Nat.lt_succ_self n)
      have b := ih i c h2 (fun j p q => h3 j p (by omega))
      grind [flr]
    · have e : i = n := by omega
      subst e
      rcases h2 with q | q
      · grind [flr]
      · subst q
        simp [flr]
theorem flr_prop {l d : Nat → Int} {r : Int} : ∀ n, 0 < n → (l (flr l d r n) + d (flr l d r n) ≤ r ∨ flr l d r n = 0) ∧ (∀ j, flr l d r n < j → j < n → ¬ l j + d j ≤ r) := by
  intro n
  induction n with
  | zero => intro h; omega
  | succ n ih =>
    intro _
    rcases Nat.eq_zero_or_pos n with c | c
    · subst c
      refine ⟨Or.inr (by simp [flr]), fun j h1 h2 => ?_⟩
      simp [flr] at h1
      omega
    · obtain ⟨h1, h2⟩ := ih c
      rw [flr]
      split
      · rename_i q
        exact ⟨Or.inl q, fun j a b => by omega⟩
      · rename_i q
        refine ⟨h1, fun j a b => ?_⟩
        rcases Nat.lt_or_ge j n with z | z
        · exact h2 j a z
        · have e : j = n := by omega
          subst e
          exact q
theorem cei_le {l : Nat → Int} {r : Int} : ∀ n, cei l r n ≤ n := by
  intro n
  induction n with
  | zero => simp [cei]
  | succ n ih => grind [cei]
theorem cei_is {l : Nat → Int} {r : Int} : ∀ n i, i ≤ n → (∀ j, j < i → l j < r) → (i < n → r ≤ l i) → cei l r n = i := by
  intro n
  induction n with
  | zero => intro i h1 h2 h3; have : i = 0 := by omega
            subst this; rfl
  | succ n ih =>
    intro i h1 h2 h3
    rcases Nat.lt_or_ge i n with c | c
    · have := ih i (by omega) h2 (fun _ => h3 (by omega))
      grind [cei]
    · rcases Nat.eq_or_lt_of_le c with q | q
      · subst q
        have := ih n (Nat.le_refl n) h2 (fun z => by omega)
        grind [cei]
      · have e : i = n + 1 := by omega
        subst e
        have := ih n (Nat.le_refl n) (fun j hj => h2 j (by omega)) (fun z => by omega)
        have := h2 n (by omega)
        grind [cei]
theorem cei_prop {l : Nat → Int} {r : Int} : ∀ n, (∀ j, j < cei l r n → l j < r) ∧ (cei l r n < n → r ≤ l (cei l r n)) := by
  intro n
  induction n with
  | zero => exact ⟨fun j h => by simp [cei] at h, fun h => by omega⟩
  | succ n ih =>
    obtain ⟨h1, h2⟩ := ih
    have h3 := cei_le (l := l) (r := r) n
    rw [cei]
    split
    · rename_i q
      exact ⟨h1, fun _ => h2 q⟩
    · rename_i q
      have e : cei l r n = n := by omega
      rw [e] at h1
      split
      · rename_i z
        exact ⟨h1, fun _ => z⟩
      · rename_i z
        refine ⟨fun j hj => ?_, fun h => by omega⟩
        rcases Nat.lt_or_ge j n with y | y
        · exact h1 j y
        · have e2 : j = n := by omega
          subst e2
          omega
