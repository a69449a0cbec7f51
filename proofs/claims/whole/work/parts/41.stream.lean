theorem e_countAbove1 {M : Mem} {N a n : Nat} {v l d : Nat → Int} {Q : Qi} (h : CR M a n v l d) (hR : RI N n v l d) {x y : Int} (hx : -1 ≤ x ∧ x ≤ 1000) (hy : -1 ≤ y ∧ y ≤ 1000) : wpX0_countAbove M a (iI x) (iI y) (iI 1) Q = Q (iI (cab v l d n x y true)) M := by
  rw [e_countAbove h hR hx hy]
  have : ¬ iI 1 = iI 0 := by
    rw [iI_eq (by omega) (by omega)]
    omega
  simp [this]
/-- a least -/
def fmn (f : Nat → Int) (z : Int) : Nat → Int
  | 0 => z
  | k + 1 => mn (f (k + 1)) (fmn f z k)
theorem fmn_b {f : Nat → Int} {z B : Int} (hz : B ≤ z) : ∀ k, (∀ j, 1 ≤ j → j ≤ k → B ≤ f j) → B ≤ fmn f z k ∧ fmn f z k ≤ z := by
  intro k
  induction k with
  | zero => intro _; simp [fmn]; exact hz
  | succ k ih =>
    intro h
    have h1 := ih (fun j a b => h j a (by omega))
    have h2 := h (k + 1) (by omega) (Nat.le_refl _)
    grind [fmn, mn]
/-- the value of a share -/
def qv (v l d : Nat → Int) (n : Nat) (N k sh : Int) : Int := v (ans l d n (qp N k sh))
/-- what lies in the k th share -/
def brk (v l d : Nat → Int) (n : Nat) (N sh : Int) (most : Bool) (k : Nat) : Int := cab v l d n (qv v l d n N ((k : Int) - 1) sh) (qv v l d n N k sh) most
theorem qa_lt {N n : Nat} {v l d : Nat → Int} (hR : RI N n v l d) (h0 : 0 < N) (k sh : Int) : ans l d n (qp N k sh) < n := ans_lt (hR.pos h0) _
theorem qv_b {N n : Nat} {v l d : Nat → Int} (hR : RI N n v l d) (h0 : 0 < N) (k sh : Int) : 0 ≤ qv v l d n N k sh ∧ qv v l d n N k sh < 1000 := by
  have := hR.2.2.2.1 _ (qa_lt hR h0 k sh)
  unfold qv
  omega
theorem l_unevenness {M : Mem} {N b n : Nat} {v l d : Nat → Int} {Q : Qi} (h2 : gI M b 2 = iI N) (hr : CR M (b + 5) n v l d) (hR : RI N n v l d) (h0 : 0 < N) {sh : Nat} (hs : 1 ≤ sh ∧ sh ≤ 100) : ∀ k i, sh - i = k → i ≤ sh → (∃ m, wX1_unevenness_25 Q b (iI sh) m M (iI (fmx (brk v l d n N sh true) 0 i)) (iI (fmn (brk v l d n N sh false) 1000 i)) (iI (ans l d n (qp N i sh))) (iI (i + 1 : Nat))) = Q (iI (fmx (brk v l d n N sh true) 0 sh - fmn (brk v l d n N sh false) 1000 sh)) M := by
  have hN := hR.1
  have hn : n ≤ N := hR.2.1
  intro k
  induction k with
  | zero =>
    intro i hk hi
    have e : i = sh := by omega
    subst e
    rw [ex_s rfl]
    simp only [wX1_unevenness_25]
    simp (disch := omega) only [iI_lit, iI_neg, iI_add, iI_sub, iI_mul, iI_lt, iI_le, iI_eq, iI_in, iI_clamp, iI_mx, iI_mn, iI_nI, Int.toNat_natCast, forall_eq, br_1, br_2, br_3, br_4, br_in, br_5, br_6, br_7, br_8, ex_c, br_nl, br_le, br_ne, gp_1, gp_2, gp_3, gf_1, gf_2]
  | succ k ih =>
    intro i hk hi
    have a1 := qa_lt hR h0 i sh
    have a2 := qa_lt hR h0 (i + 1 : Nat) sh
    have g1 := (hr.2 _ a1).1
    have g2 := (hr.2 _ a2).1
    have v1 := hR.2.2.2.1 _ a1
    have v2 := hR.2.2.2.1 _ a2
    have q1 := qp_b (N := N) (k := (i + 1 : Nat)) (sh := sh) (by omega) (by omega) (by omega)
    have q2 := qp_m (N := N) (k := i) (k' := (i + 1 : Nat)) (sh := sh) (by omega) (by omega) (by omega)
    have hnr := fun (Q : Qi) => e_nearest (Q := Q) hr hR (r := qp N (i + 1 : Nat) sh) (lo := ans l d n (qp N i sh)) (by omega) (ans_mono hR (hR.pos h0) q2)
    have f1 := fmx_b (f := brk v l d n N sh true) (z := 0) (B := 1000) (by omega) i (fun j a b => (cab_b hR _ _ _).2)
    have f2 := fmn_b (f := brk v l d n N sh false) (z := 1000) (B := -1000) (by omega) i (fun j a b => (cab_b hR _ _ _).1)
    have c1 := cab_b hR (v (ans l d n (qp N i sh))) (v (ans l d n (qp N (i + 1 : Nat) sh))) true
    have c2 := cab_b hR (v (ans l d n (qp N i sh))) (v (ans l d n (qp N (i + 1 : Nat) sh))) false
    rw [ex_s rfl]
    simp only [wX1_unevenness_25]
    simp (disch := omega) only [iI_lit, iI_neg, iI_add, iI_sub, iI_mul, iI_lt, iI_le, iI_eq, iI_in, iI_clamp, iI_mx, iI_mn, iI_nI, Int.toNat_natCast, forall_eq, br_1, br_2, br_3, br_4, br_in, br_5, br_6, br_7, br_8, ex_c, br_nl, br_le, br_ne, gp_1, gp_2, gp_3, gf_1, gf_2, e_quotaPlace h2 hN, hnr, g1, g2, e_countAbove0 hr hR, e_countAbove1 hr hR]
    have := ih (i + 1) (by omega) (by omega)
    rw [fmx, fmn, brk, brk, qv, qv, show ((i + 1 : Nat) : Int) - 1 = i by omega] at this
    simpa using this
theorem e_unevenness {M : Mem} {N b n : Nat} {v l d : Nat → Int} {Q : Qi} (h2 : gI M b 2 = iI N) (hr : CR M (b + 5) n v l d) (hR : RI N n v l d) (h0 : 0 < N) {sh : Nat} (hs : 1 ≤ sh ∧ sh ≤ 100) : wpX1_unevenness M b (iI sh) Q = Q (iI (fmx (brk v l d n N sh true) 0 sh - fmn (brk v l d n N sh false) 1000 sh)) M := by
  have hN := hR.1
  have q1 := qp_b (N := N) (k := (0 : Nat)) (sh := sh) (by omega) (by omega) (by omega)
  have := l_unevenness (Q := Q) h2 hr hR h0 hs sh 0 rfl (by omega)
  rw [show fmx (brk v l d n N sh true) 0 0 = 0 from rfl, show fmn (brk v l d n N sh false) 1000 0 = 1000 from rfl] at this
  rw [Int.natCast_zero] at q1
  unfold wpX1_unevenness
  simp (disch := omega) only [iI_lit, iI_neg, iI_add, iI_sub, iI_mul, iI_lt, iI_le, iI_eq, iI_in, iI_clamp, iI_mx, iI_mn, iI_nI, Int.toNat_natCast, forall_eq, br_1, br_2, br_3, br_4, br_in, br_5, br_6, br_7, br_8, ex_c, br_nl, br_le, br_ne, gp_1, gp_2, gp_3, gf_1, gf_2, e_quotaPlace h2 hN, e_nearest0 hr hR]
  simpa using this
/-! ===== a Stream changed ===== -/
abbrev St : Type := Nat × Nat × (Nat → Int) × (Nat → Int) × (Nat → Int) × (Nat → Int) × Int × Int × Int
abbrev tN (x : St) : Nat := x.1
abbrev tn (x : St) : Nat := x.2.1
abbrev tv (x : St) : Nat → Int := x.2.2.1
abbrev tl (x : St) : Nat → Int := x.2.2.2.1
abbrev td (x : St) : Nat → Int := x.2.2.2.2.1
abbrev tc (x : St) : Nat → Int := x.2.2.2.2.2.1
abbrev te (x : St) : Int := x.2.2.2.2.2.2.1
abbrev ts (x : St) : Int := x.2.2.2.2.2.2.2.1
abbrev tk (x : St) : Int := x.2.2.2.2.2.2.2.2
/-- the class's Stream b is x -/
def CT (M : Mem) (b : Nat) (x : St) : Prop := gI M b 2 = iI (tN x) ∧ gI M b 3 = iI (te x) ∧ gI M b 4 = iI (ts x) ∧ gI M b 5 = iI (tk x) ∧ CC M b (tc x) ∧ CR M (b + 5) (tn x) (tv x) (tl x) (td x)
/-- what holds of a Stream -/
def SI (x : St) : Prop := RI (tN x) (tn x) (tv x) (tl x) (td x) ∧ CI (tN x) (tc x) ∧ 1 ≤ te x ∧ te x ≤ 60 ∧ 0 ≤ ts x ∧ ts x < te x
def xDrop (x : St) : St := (0, 0, tv x, tl x, td x, fun _ => 0, te x, 0, tk x)
def xBegin (x : St) (e : Int) : St := (0, 0, tv x, tl x, td x, fun _ => 0, e, 0, 0)
def upi (c : Nat → Int) (k : Nat) (y : Int) (j : Nat) : Int := if j = k then y else c j
def xIns (x : St) (w : Int) : St := (tN x + 1, tn x + 1, ins (tv x) (plc (tv x) w (tn x)) w, insL (tl x) (plc (tv x) w (tn x)), ins (td x) (plc (tv x) w (tn x)) (sAh (tl x) (td x) (tn x) (plc (tv x) w (tn x))), upi (tc x) w.toNat (tc x w.toNat + 1), te x, ts x + 1, tk x)
def xK (x : St) (er : Int) : List Nat := shK (tn x) (tl x) (td x) (bo (tN x) er)
def xShort (x : St) (er : Int) : St := (tN x, (xK x er).length, sel (tv x) (xK x er), sel (tl x) (xK x er), sel (td x) (xK x er), tc x, te x, 0, tk x + 1)
def xPush (x : St) (w er : Int) : St := if te x ≤ ts x + 1 then xShort (xIns x w) er else xIns x w
def xJoin (x y : St) : St := (tN x + tN y, tn x + tn y, jV (tv x) (tv y) (tn x) (tn y), jL (tv x) (tv y) (tl x) (tl y) (tn x) (tn y), jD (tv x) (tv y) (tl x) (tl y) (td x) (td y) (tn x) (tn y), fun k => tc x k + tc y k, te x, ts x, tk x)
theorem CC.fr {lo hi b : Nat} {c : Nat → Int} {M M' : Mem} (h : CC M b c) (hF : Fr lo hi M M') (ho : b + 1 < lo ∨ hi < b + 1) : CC M' b c := fun k hk => by
  rw [hF.g (by omega)]
  exact h k hk
theorem CT.fr {lo hi b : Nat} {x : St} {M M' : Mem} (h : CT M b x) (hF : Fr lo hi M M') (ho : b + 9 < lo ∨ hi < b) : CT M' b x := by
  obtain ⟨h1, h2, h3, h4, h5, h6⟩ := h
  refine ⟨?_, ?_, ?_, ?_, h5.fr hF (by omega), h6.fr hF (by omega)⟩ <;> rw [hF.g (by omega)] <;> assumption
theorem csum_0 : ∀ k, csum (fun _ => 0) k = 0 := by
  intro k
  induction k with
  | zero => rfl
  | succ k ih => rw [csum, ih]; rfl
theorem csum_upi {c : Nat → Int} {w : Nat} {y : Int} : ∀ k, csum (upi c w y) k = csum c k + if w < k then y - c w else 0 := by
  intro k
  induction k with
  | zero => simp [csum]
  | succ k ih =>
    rw [csum, csum, ih, upi]
    by_cases q : k = w
    · subst q
      simp
      omega
    · by_cases q2 : w < k
      · simp [q, q2, show w < k + 1 by omega]
        omega
      · simp [q, q2, show ¬ w < k + 1 by omega]
theorem csum_add {c c' : Nat → Int} : ∀ k, csum (fun j => c j + c' j) k = csum c k + csum c' k := by
  intro k
  induction k with
  | zero => rfl
  | succ k ih =>
    rw [csum, csum, csum, ih]
    omega
theorem RI_0 (v l d : Nat → Int) : RI 0 0 v l d := ⟨by omega, by omega, by omega, fun _ h => by omega, fun _ h => by omega, fun h => by omega⟩
theorem CI_0 : CI 0 (fun _ => 0) := ⟨by omega, fun _ _ => Int.le_refl 0, csum_0 1000⟩
theorem SI_drop {x : St} (h : SI x) : SI (xDrop x) := ⟨RI_0 _ _ _, CI_0, h.2.2.1, h.2.2.2.1, Int.le_refl 0, by have := h.2.2.1; show (0 : Int) < te x; omega⟩
theorem SI_begin {x : St} {e : Int} (h : 1 ≤ e ∧ e ≤ 60) : SI (xBegin x e) := ⟨RI_0 _ _ _, CI_0, h.1, h.2, Int.le_refl 0, by show (0 : Int) < e; omega⟩
theorem CI_ins {N w : Nat} {c : Nat → Int} (h : CI N c) (hN : N < 1000) (hw : w < 1000) : CI (N + 1) (upi c w (c w + 1)) := by
  refine ⟨by omega, ?_, ?_⟩
  · intro k hk
    have := h.2.1 k hk
    have := h.2.1 w hw
    unfold upi
    split <;> omega
  · rw [csum_upi, h.2.2, if_pos hw]
    omega
theorem SI_short {x : St} (er : Int) (h : RI (tN x) (tn x) (tv x) (tl x) (td x)) (h2 : CI (tN x) (tc x)) (h3 : 1 ≤ te x ∧ te x ≤ 60) : SI (xShort x er) := ⟨(RI_sh h _).1, h2, h3.1, h3.2, Int.le_refl 0, by show (0 : Int) < te x; omega⟩
theorem SI_push {x : St} {w : Int} (er : Int) (h : SI x) (hN : tN x < 1000) (hw : 0 ≤ w ∧ w < 1000) : SI (xPush x w er) := by
  obtain ⟨h1, h2, h3, h4, h5, h6⟩ := h
  have r := RI_insert h1 hN hw
  have c := CI_ins h2 hN (w := w.toNat) (by omega)
  unfold xPush
  split
  · exact SI_short er r c ⟨h3, h4⟩
  · exact ⟨r, c, h3, h4, by show (0 : Int) ≤ ts x + 1; omega, by show ts x + 1 < te x; omega⟩
theorem CI_join {N1 N2 : Nat} {c c' : Nat → Int} (h : CI N1 c) (h' : CI N2 c') (hN : N1 + N2 ≤ 1000) : CI (N1 + N2) (fun k => c k + c' k) := by
  refine ⟨hN, ?_, ?_⟩
  · intro k hk
    have := h.2.1 k hk
    have := h'.2.1 k hk
    show 0 ≤ c k + c' k
    omega
  · rw [csum_add, h.2.2, h'.2.2]
    omega
theorem SI_merge {x y : St} (er : Int) (h : SI x) (h' : SI y) (hN : tN x + tN y ≤ 1000) : SI (xShort (xJoin x y) er) := SI_short er (RI_join h.1 h'.1 hN) (CI_join h.2.1 h'.2.1 hN) ⟨h.2.2.1, h.2.2.2.1⟩
