theorem m_canGo {M : Mem} {b n i : Nat} {l d : Nat → Int} {Q : Qi} {gb db bo : Int} (hb : b < 6) (h1 : 1 ≤ i) (hi : i + 1 < n) (hn : n ≤ 1000) (h : gI M 223 b = iI n) (ho : 0 ≤ bo ∧ bo ≤ 1000) (hd : ∀ k, k ≤ i → gI M 222 (1000 * b + k) = iI (d k) ∧ 0 ≤ d k ∧ d k ≤ 1000) (hg : ∀ k, k ≤ i → gI M 221 (1000 * b + k) = iI (l k - lp l k)) (hl : ∀ k, k ≤ i + 1 → 0 ≤ lp l k ∧ lp l k ≤ 1000)
    (e1 : gI M 221 (1000 * b + (i + 1)) = iI gb) (hgb : 0 ≤ gb ∧ gb ≤ 1000) (e2 : gI M 222 (1000 * b + (i + 1)) = iI db) (hdb : 0 ≤ db ∧ db ≤ 1000) :
    wpX4_canGo M (iI b) (iI i) (iI bo) Q = Q (iI (if bd (d i) bo ≤ bd db bo ∧ l i - lp l (fam (fun k => bd (d k) bo) (bd (d i) bo) i) + gb + db ≤ bo then 1 else 0)) M := by
  have b3 := bd_le (d i) bo
  have b4 := bd_le db bo
  have hf := fam_b (fun k => bd (d k) bo) (bd (d i) bo) i h1
  have q1 := hl (fam (fun k => bd (d k) bo) (bd (d i) bo) i) (by omega)
  have q2 := hl (i + 1) (by omega)
  have di := hd i (Nat.le_refl i)
  rw [lp_s] at q2
  have hA := fun Q' : Qi => m_bandAt (Q := Q') hb (show i < 1000 by omega) di.1 di.2 ho
  have hB := fun Q' : Qi => m_bandAt (Q := Q') (i := i + 1) hb (by omega) e2 hdb ho
  have hF := fun Q' : Qi => m_familyFrom (Q := Q') hb (show i < 1000 by omega) ho hd
  have hG := fun Q' : Qi => m_gaps (Q := Q') (l := l) hb (show i + 1 ≤ 1000 by omega) (show fam (fun k => bd (d k) bo) (bd (d i) bo) i ≤ i + 1 by omega) (fun k _ q => hg k (by omega)) (t := i) (by omega)
  rw [lp_s] at hG
  have e : iI (i : Int) + iI 1 = iI ((i + 1 : Nat) : Int) := iI_add _ _
  unfold wpX4_canGo
  simp only [iI_lit, e, hA, hB, hF, hG]
  by_cases c : bd (d i) bo ≤ bd db bo
  · by_cases c2 : l i - lp l (fam (fun k => bd (d k) bo) (bd (d i) bo) i) + gb + db ≤ bo
    · simp (disch := omega) only [iI_lit, iI_neg, iI_add, iI_sub, iI_mul, iI_lt, iI_le, iI_eq, iI_in, iI_clamp, iI_mx, iI_mn, iI_nI, Int.toNat_natCast, forall_eq, br_1, br_2, br_3, br_4, br_in, br_5, br_6, br_7, br_8, ex_c, br_nl, br_le, br_ne, gp_1, gp_2, gp_3, gf_1, gf_2, ix_0, ix_1, ix_2, ix_3, tn_1, tn_2, pp_1, h, e1, e2]
      rw [if_pos (by omega)]
    · simp (disch := omega) only [iI_lit, iI_neg, iI_add, iI_sub, iI_mul, iI_lt, iI_le, iI_eq, iI_in, iI_clamp, iI_mx, iI_mn, iI_nI, Int.toNat_natCast, forall_eq, br_1, br_2, br_3, br_4, br_in, br_5, br_6, br_7, br_8, ex_c, br_nl, br_le, br_ne, gp_1, gp_2, gp_3, gf_1, gf_2, ix_0, ix_1, ix_2, ix_3, tn_1, tn_2, pp_1, h, e1, e2]
      rw [if_neg (by omega)]
  · simp (disch := omega) only [iI_lit, iI_neg, iI_add, iI_sub, iI_mul, iI_lt, iI_le, iI_eq, iI_in, iI_clamp, iI_mx, iI_mn, iI_nI, Int.toNat_natCast, forall_eq, br_1, br_2, br_3, br_4, br_in, br_5, br_6, br_7, br_8, ex_c, br_nl, br_le, br_ne, gp_1, gp_2, gp_3, gf_1, gf_2, ix_0, ix_1, ix_2, ix_3, tn_1, tn_2, pp_1, h, e1, e2]
    rw [if_neg (by omega)]
theorem l_mwidest {M : Mem} {N b n : Nat} {v l d : Nat → Int} {Q : Qi} (hb : b < 6) (h : MR M b n v l d) (hR : RI N n v l d) : ∀ f i, n - i = f → i ≤ n → (∃ m, wX4_widest_4 Q (iI b) m M (iI (wd l d i)) (iI (i : Nat))) = Q (iI (wd l d n)) M := by
  have hn : n ≤ 1000 := Nat.le_trans hR.2.1 hR.1
  have hN := hR.1
  intro f
  induction f with
  | zero =>
    intro i hf hi
    have e : i = n := by omega
    subst e
    rw [ex_s rfl]
    simp only [wX4_widest_4]
    simp (disch := omega) only [iI_lit, iI_neg, iI_add, iI_sub, iI_mul, iI_lt, iI_le, iI_eq, iI_in, iI_clamp, iI_mx, iI_mn, iI_nI, Int.toNat_natCast, forall_eq, br_1, br_2, br_3, br_4, br_in, br_5, br_6, br_7, br_8, ex_c, br_nl, br_le, br_ne, gp_1, gp_2, gp_3, gf_1, gf_2, ix_0, ix_1, ix_2, ix_3, tn_1, tn_2, pp_1, h.1]
  | succ f ih =>
    intro i hf hi
    have h3 := h.2 i (by omega)
    have h4 := hR.2.2.2.1 i (by omega)
    have h5 := hR.lpb (k := i) (by omega)
    have h6 := wd_b hR i (by omega)
    have h7 := hR.lpl (k := i) (by omega)
    rw [ex_s rfl]
    simp only [wX4_widest_4]
    have := ih (i + 1) (by omega) (by omega)
    rw [wd, mx] at this
    by_cases c : wd l d i < l i - lp l i + d i
    · simp (disch := omega) only [iI_lit, iI_neg, iI_add, iI_sub, iI_mul, iI_lt, iI_le, iI_eq, iI_in, iI_clamp, iI_mx, iI_mn, iI_nI, Int.toNat_natCast, forall_eq, br_1, br_2, br_3, br_4, br_in, br_5, br_6, br_7, br_8, ex_c, br_nl, br_le, br_ne, gp_1, gp_2, gp_3, gf_1, gf_2, ix_0, ix_1, ix_2, ix_3, tn_1, tn_2, pp_1, h.1, h3.2.1, h3.2.2]
      rw [if_pos c] at this
      simpa using this
    · simp (disch := omega) only [iI_lit, iI_neg, iI_add, iI_sub, iI_mul, iI_lt, iI_le, iI_eq, iI_in, iI_clamp, iI_mx, iI_mn, iI_nI, Int.toNat_natCast, forall_eq, br_1, br_2, br_3, br_4, br_in, br_5, br_6, br_7, br_8, ex_c, br_nl, br_le, br_ne, gp_1, gp_2, gp_3, gf_1, gf_2, ix_0, ix_1, ix_2, ix_3, tn_1, tn_2, pp_1, h.1, h3.2.1, h3.2.2]
      rw [if_neg c] at this
      simpa using this
theorem m_widest {M : Mem} {N b n : Nat} {v l d : Nat → Int} {Q : Qi} (hb : b < 6) (h : MR M b n v l d) (hR : RI N n v l d) : wpX4_widest M (iI b) Q = Q (iI (wd l d n)) M := by
  unfold wpX4_widest
  have := l_mwidest (Q := Q) hb h hR n 0 rfl (by omega)
  simp (disch := omega) only [iI_lit, iI_neg, iI_add, iI_sub, iI_mul, iI_lt, iI_le, iI_eq, iI_in, iI_clamp, iI_mx, iI_mn, iI_nI, Int.toNat_natCast, forall_eq]
  simpa [wd] using this
theorem m_low {M : Mem} {N b n : Nat} {v l d : Nat → Int} {Q : Qi} (hb : b < 6) (h : MR M b n v l d) (hR : RI N n v l d) {i : Nat} (hi : i < n) : wpX4_low M (iI b) (iI i) Q = Q (iI (l i)) M := by
  have hn : n ≤ 1000 := Nat.le_trans hR.2.1 hR.1
  unfold wpX4_low
  have := m_gaps (Q := Q) (M := M) (l := l) hb (lo := 0) (hi := i + 1) (by omega) (by omega) (fun k _ q => (h.2 k (by omega)).2.1) (t := i) (by omega)
  rw [lp_s, show lp l 0 = 0 from rfl, Int.sub_zero, Int.natCast_zero] at this
  simp only [iI_lit]
  exact this
theorem m_high {M : Mem} {N b n : Nat} {v l d : Nat → Int} {Q : Qi} (hb : b < 6) (h : MR M b n v l d) (hR : RI N n v l d) {i : Nat} (hi : i < n) : wpX4_high M (iI b) (iI i) Q = Q (iI (l i + d i)) M := by
  have hn : n ≤ 1000 := Nat.le_trans hR.2.1 hR.1
  unfold wpX4_high
  simp (disch := omega) only [iI_lit, iI_neg, iI_add, iI_sub, iI_mul, iI_lt, iI_le, iI_eq, iI_in, iI_clamp, iI_mx, iI_mn, iI_nI, Int.toNat_natCast, forall_eq, br_1, br_2, br_3, br_4, br_in, br_5, br_6, br_7, br_8, ex_c, br_nl, br_le, br_ne, gp_1, gp_2, gp_3, gf_1, gf_2, ix_0, ix_1, ix_2, ix_3, tn_1, tn_2, pp_1, m_low hb h hR hi, (h.2 i hi).2.2]
theorem l_sure {M : Mem} {N b n : Nat} {v l d : Nat → Int} {Q : Qi} (hb : b < 6) (h : MR M b n v l d) (hR : RI N n v l d) {x : Int} (hx : -1 ≤ x ∧ x ≤ 1000) : ∀ f i, n - i = f → i ≤ n → (∀ k, k < i → v k ≤ x) → (∃ m, wX4_sure_5 Q (iI b) (iI x) m M (iI (lp l i)) (iI (i : Nat))) = Q (iI (sur v l n x)) M := by
  have hn : n ≤ 1000 := Nat.le_trans hR.2.1 hR.1
  have hp := plc_le v x n
  have fin : ∀ i, i ≤ n → (∀ k, k < i → v k ≤ x) → (i < n → x < v i) → plc v x n = i := by
    intro i hi hlo hhi
    rcases Nat.lt_trichotomy (plc v x n) i with q | q | q
    · have := hlo _ q
      have := plc_hi v x n (by omega)
      omega
    · exact q
    · have := (plc_iff hR x (k := i) (by omega)).2 q
      have := hhi (by omega)
      omega
  intro f
  induction f with
  | zero =>
    intro i hf hi hlo
    have e := fin i hi hlo (fun q => by omega)
    rw [ex_s rfl]
    simp only [wX4_sure_5]
    simp (disch := omega) only [iI_lit, iI_neg, iI_add, iI_sub, iI_mul, iI_lt, iI_le, iI_eq, iI_in, iI_clamp, iI_mx, iI_mn, iI_nI, Int.toNat_natCast, forall_eq, br_1, br_2, br_3, br_4, br_in, br_5, br_6, br_7, br_8, ex_c, br_nl, br_le, br_ne, gp_1, gp_2, gp_3, gf_1, gf_2, ix_0, ix_1, ix_2, ix_3, tn_1, tn_2, pp_1, h.1, sur, e]
  | succ f ih =>
    intro i hf hi hlo
    have h3 := h.2 i (by omega)
    have h4 := hR.2.2.2.1 i (by omega)
    rw [ex_s rfl]
    simp only [wX4_sure_5]
    by_cases c : v i ≤ x
    · simp (disch := omega) only [iI_lit, iI_neg, iI_add, iI_sub, iI_mul, iI_lt, iI_le, iI_eq, iI_in, iI_clamp, iI_mx, iI_mn, iI_nI, Int.toNat_natCast, forall_eq, br_1, br_2, br_3, br_4, br_in, br_5, br_6, br_7, br_8, ex_c, br_nl, br_le, br_ne, gp_1, gp_2, gp_3, gf_1, gf_2, ix_0, ix_1, ix_2, ix_3, tn_1, tn_2, pp_1, h.1, h3.1, h3.2.1]
      have := ih (i + 1) (by omega) (by omega) (fun k hk => by
        by_cases q : k = i
        · rw [q]
          exact c
        · exact hlo k (by omega))
      rw [lp_s, show l i = lp l i + (l i - lp l i) by omega] at this
      simpa using this
    · have e := fin i hi hlo (fun q => by omega)
      simp (disch := omega) only [iI_lit, iI_neg, iI_add, iI_sub, iI_mul, iI_lt, iI_le, iI_eq, iI_in, iI_clamp, iI_mx, iI_mn, iI_nI, Int.toNat_natCast, forall_eq, br_1, br_2, br_3, br_4, br_in, br_5, br_6, br_7, br_8, ex_c, br_nl, br_le, br_ne, gp_1, gp_2, gp_3, gf_1, gf_2, ix_0, ix_1, ix_2, ix_3, tn_1, tn_2, pp_1, h.1, h3.1, sur, e]
theorem m_sure {M : Mem} {N b n : Nat} {v l d : Nat → Int} {Q : Qi} (hb : b < 6) (h : MR M b n v l d) (hR : RI N n v l d) {x : Int} (hx : -1 ≤ x ∧ x ≤ 1000) : wpX4_sure M (iI b) (iI x) Q = Q (iI (sur v l n x)) M := by
  unfold wpX4_sure
  have := l_sure (Q := Q) hb h hR hx n 0 rfl (by omega) (fun k hk => by omega)
  simp (disch := omega) only [iI_lit, iI_neg, iI_add, iI_sub, iI_mul, iI_lt, iI_le, iI_eq, iI_in, iI_clamp, iI_mx, iI_mn, iI_nI, Int.toNat_natCast, forall_eq]
  simpa [lp] using this
theorem m_atMost {M : Mem} {N b n : Nat} {v l d : Nat → Int} {Q : Qi} (hb : b < 6) (h : MR M b n v l d) (hN : gI M 224 b = iI N) (hR : RI N n v l d) {x : Int} (hx : -1 ≤ x ∧ x ≤ 1000) : wpX4_atMost M (iI b) (iI x) Q = Q (iI (mst v l d n x)) M := by
  have hn : n ≤ 1000 := Nat.le_trans hR.2.1 hR.1
  have hp := plc_le v x n
  unfold wpX4_atMost mst
  by_cases c : plc v x n < n
  · simp (disch := omega) only [iI_lit, iI_neg, iI_add, iI_sub, iI_mul, iI_lt, iI_le, iI_eq, iI_in, iI_clamp, iI_mx, iI_mn, iI_nI, Int.toNat_natCast, forall_eq, br_1, br_2, br_3, br_4, br_in, br_5, br_6, br_7, br_8, ex_c, br_nl, br_le, br_ne, gp_1, gp_2, gp_3, gf_1, gf_2, ix_0, ix_1, ix_2, ix_3, tn_1, tn_2, pp_1, m_place hb h hR, h.1, m_high hb h hR c]
    rw [if_pos c]
  · simp (disch := omega) only [iI_lit, iI_neg, iI_add, iI_sub, iI_mul, iI_lt, iI_le, iI_eq, iI_in, iI_clamp, iI_mx, iI_mn, iI_nI, Int.toNat_natCast, forall_eq, br_1, br_2, br_3, br_4, br_in, br_5, br_6, br_7, br_8, ex_c, br_nl, br_le, br_ne, gp_1, gp_2, gp_3, gf_1, gf_2, ix_0, ix_1, ix_2, ix_3, tn_1, tn_2, pp_1, m_place hb h hR, h.1, hN]
    rw [if_neg c, hR.lpn]
theorem l_wrongOf2 {M : Mem} {N b n : Nat} {v l d : Nat → Int} {Q : Qi} {er : Int} (hb : b < 6) (h : MR M b n v l d) (hN : gI M 224 b = iI N) (hE : gI M 200 28 = iI er) (he : 2 ≤ er ∧ er ≤ 1000) (hR : RI N n v l d) : ∀ f i, n - i = f → i ≤ n → (∃ m, wX4_wrongOf_57 Q (iI b) (iI (1000 * (b : Int) + n - 1)) m M (iI (1000 * (b : Int) + i))) = Q (iI (if wd l d n ≤ bo N er then 0 else 4)) M := by
  have hn : n ≤ 1000 := Nat.le_trans hR.2.1 hR.1
  have hN' := hR.1
  have hw := wd_b hR n (Nat.le_refl n)
  have hbo := bo_b (n := N) (e := er) (by omega) he.1
  have hG : ∀ Q' : Qi, wpX4_gaps M (iI b) (iI 0) (iI ((n : Int) - 1)) Q' = Q' (iI N) M := by
    intro Q'
    have := m_gaps (Q := Q') (M := M) (l := l) hb (lo := 0) (hi := n) hn (by omega) (fun k _ q => (h.2 k q).2.1) (t := (n : Int) - 1) rfl
    rw [hR.lpn, show lp l 0 = 0 from rfl, Int.sub_zero, Int.natCast_zero] at this
    exact this
  intro f
  induction f with
  | zero =>
    intro i hf hi
    have e : i = n := by omega
    subst e
    rw [ex_s rfl]
    simp only [wX4_wrongOf_57]
    by_cases c : wd l d i ≤ bo N er
    · rw [if_pos c]
      rcases Nat.eq_zero_or_pos i with q | q
      · simp (disch := omega) only [iI_lit, iI_neg, iI_add, iI_sub, iI_mul, iI_lt, iI_le, iI_eq, iI_in, iI_clamp, iI_mx, iI_mn, iI_nI, Int.toNat_natCast, forall_eq, br_1, br_2, br_3, br_4, br_in, br_5, br_6, br_7, br_8, ex_c, br_nl, br_le, br_ne, gp_1, gp_2, gp_3, gf_1, gf_2, ix_0, ix_1, ix_2, ix_3, tn_1, tn_2, pp_1, h.1, hG, hN, m_widest hb h hR, m_boundOf hb hN hE]
      · have q1 := h.2 0 q
        have q2 := h.2 (i - 1) (by omega)
        have q3 := hR.2.2.2.2.2 q
        rw [show lp l 0 = 0 from rfl, q3.1, q3.2.1, Nat.add_zero] at q1
        rw [q3.2.2.2] at q2
        have e1 : (1000 * (b : Int) + i - 1).toNat = 1000 * b + (i - 1) := by omega
        simp (disch := omega) only [iI_lit, iI_neg, iI_add, iI_sub, iI_mul, iI_lt, iI_le, iI_eq, iI_in, iI_clamp, iI_mx, iI_mn, iI_nI, Int.toNat_natCast, forall_eq, br_1, br_2, br_3, br_4, br_in, br_5, br_6, br_7, br_8, ex_c, br_nl, br_le, br_ne, gp_1, gp_2, gp_3, gf_1, gf_2, ix_0, ix_1, ix_2, ix_3, tn_1, tn_2, pp_1, h.1, hG, hN, m_widest hb h hR, m_boundOf hb hN hE, q1.2.1, q1.2.2, e1, q2.2.2]
    · rw [if_neg c]
      simp (disch := omega) only [iI_lit, iI_neg, iI_add, iI_sub, iI_mul, iI_lt, iI_le, iI_eq, iI_in, iI_clamp, iI_mx, iI_mn, iI_nI, Int.toNat_natCast, forall_eq, br_1, br_2, br_3, br_4, br_in, br_5, br_6, br_7, br_8, ex_c, br_nl, br_le, br_ne, gp_1, gp_2, gp_3, gf_1, gf_2, ix_0, ix_1, ix_2, ix_3, tn_1, tn_2, pp_1, h.1, hG, hN, m_widest hb h hR, m_boundOf hb hN hE]
  | succ f ih =>
    intro i hf hi
    have h3 := h.2 i (by omega)
    have h4 := hR.2.2.2.1 i (by omega)
    have h5 := hR.lpl (k := i) (by omega)
    have h6 := hR.lpb (k := i) (by omega)
    rw [ex_s rfl]
    simp only [wX4_wrongOf_57]
    simp (disch := omega) only [iI_lit, iI_neg, iI_add, iI_sub, iI_mul, iI_lt, iI_le, iI_eq, iI_in, iI_clamp, iI_mx, iI_mn, iI_nI, Int.toNat_natCast, forall_eq, br_1, br_2, br_3, br_4, br_in, br_5, br_6, br_7, br_8, ex_c, br_nl, br_le, br_ne, gp_1, gp_2, gp_3, gf_1, gf_2, ix_0, ix_1, ix_2, ix_3, tn_1, tn_2, pp_1, h3.2.1, h3.2.2]
    have := ih (i + 1) (by omega) (by omega)
    rw [show 1000 * (b : Int) + ((i + 1 : Nat) : Int) = 1000 * (b : Int) + i + 1 by omega] at this
    exact this
theorem l_wrongOf {M : Mem} {N b n : Nat} {v l d : Nat → Int} {Q : Qi} {er : Int} (hb : b < 6) (h : MR M b n v l d) (hN : gI M 224 b = iI N) (hE : gI M 200 28 = iI er) (he : 2 ≤ er ∧ er ≤ 1000) (hR : RI N n v l d) : ∀ f i, n - 1 - i = f → i ≤ n → (∃ m, wX4_wrongOf_21 Q (iI b) (iI (1000 * (b : Int) + n - 1)) m M (iI (1000 * (b : Int) + i))) = Q (iI (if wd l d n ≤ bo N er then 0 else 4)) M := by
  have hn : n ≤ 1000 := Nat.le_trans hR.2.1 hR.1
  intro f
  induction f with
  | zero =>
    intro i hf hi
    have := l_wrongOf2 (Q := Q) hb h hN hE he hR n 0 rfl (by omega)
    rw [Int.natCast_zero, Int.add_zero] at this
    rw [ex_s rfl]
    simp only [wX4_wrongOf_21]
    simp (disch := omega) only [iI_lit, iI_neg, iI_add, iI_sub, iI_mul, iI_lt, iI_le, iI_eq, iI_in, iI_clamp, iI_mx, iI_mn, iI_nI, Int.toNat_natCast, forall_eq, br_1, br_2, br_3, br_4, br_in, br_5, br_6, br_7, br_8, ex_c, br_nl, br_le, br_ne, gp_1, gp_2, gp_3, gf_1, gf_2, ix_0, ix_1, ix_2, ix_3, tn_1, tn_2, pp_1, this]
  | succ f ih =>
    intro i hf hi
    have h3 := h.2 i (by omega)
    have h3' := h.2 (i + 1) (by omega)
    have h4 := hR.2.2.2.1 i (by omega)
    have h4' := hR.2.2.2.1 (i + 1) (by omega)
    have h5 := hR.2.2.2.2.1 i (by omega)
    rw [ex_s rfl]
    simp only [wX4_wrongOf_21]
    simp (disch := omega) only [iI_lit, iI_neg, iI_add, iI_sub, iI_mul, iI_lt, iI_le, iI_eq, iI_in, iI_clamp, iI_mx, iI_mn, iI_nI, Int.toNat_natCast, forall_eq, br_1, br_2, br_3, br_4, br_in, br_5, br_6, br_7, br_8, ex_c, br_nl, br_le, br_ne, gp_1, gp_2, gp_3, gf_1, gf_2, ix_0, ix_1, ix_2, ix_3, tn_1, tn_2, pp_1, h3.1, h3'.1]
    have := ih (i + 1) (by omega) (by omega)
    rw [show 1000 * (b : Int) + ((i + 1 : Nat) : Int) = 1000 * (b : Int) + i + 1 by omega] at this
    exact this
theorem m_wrongOf {M : Mem} {N b n : Nat} {v l d : Nat → Int} {Q : Qi} {er : Int} (hb : b < 6) (h : MR M b n v l d) (hN : gI M 224 b = iI N) (hE : gI M 200 28 = iI er) (he : 2 ≤ er ∧ er ≤ 1000) (hR : RI N n v l d) : wpX4_wrongOf M (iI b) Q = Q (iI (if wd l d n ≤ bo N er then 0 else 4)) M := by
  have hn : n ≤ 1000 := Nat.le_trans hR.2.1 hR.1
  unfold wpX4_wrongOf
  have := l_wrongOf (Q := Q) hb h hN hE he hR (n - 1) 0 (by omega) (by omega)
  rw [Int.natCast_zero, Int.add_zero] at this
  simp (disch := omega) only [iI_lit, iI_neg, iI_add, iI_sub, iI_mul, iI_lt, iI_le, iI_eq, iI_in, iI_clamp, iI_mx, iI_mn, iI_nI, Int.toNat_natCast, forall_eq, br_1, br_2, br_3, br_4, br_in, br_5, br_6, br_7, br_8, ex_c, br_nl, br_le, br_ne, gp_1, gp_2, gp_3, gf_1, gf_2, ix_0, ix_1, ix_2, ix_3, tn_1, tn_2, pp_1, h.1]
  exact this
