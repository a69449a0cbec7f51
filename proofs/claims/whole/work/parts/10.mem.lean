/-! ===== MEMORY: the cells of the class and of the reference by names; ints and longs by a name and a place ===== -/
abbrev Mem : Type := (Nat → Nat → Int32) × (Nat → Nat → Int64)
def gI (M : Mem) (a k : Nat) : Int32 := M.1 a k
def gL (M : Mem) (a k : Nat) : Int64 := M.2 a k
def pF (M : Mem) (a : Nat) (f : Nat → Int32) : Mem := (fun b => if b = a then f else M.1 b, M.2)
def pI (M : Mem) (a k : Nat) (x : Int32) : Mem := pF M a (upd (M.1 a) k x)
def pL (M : Mem) (a k : Nat) (x : Int64) : Mem := (M.1, fun b => if b = a then vp_updL (M.2 a) k x else M.2 b)
theorem pF_eq (M : Mem) (a : Nat) (f : Nat → Int32) : (pF M a f).1 a = f := by simp [pF]
theorem pF_ne (M : Mem) {a b : Nat} (f : Nat → Int32) (h : b ≠ a) : (pF M a f).1 b = M.1 b := by simp [pF, h]
theorem pF_l (M : Mem) (a : Nat) (f : Nat → Int32) : (pF M a f).2 = M.2 := rfl
theorem pL_eq (M : Mem) (a k : Nat) (x : Int64) : (pL M a k x).2 a = vp_updL (M.2 a) k x := by simp [pL]
theorem pL_ne (M : Mem) {a b k : Nat} (x : Int64) (h : b ≠ a) : (pL M a k x).2 b = M.2 b := by simp [pL, h]
theorem pL_i (M : Mem) (a k : Nat) (x : Int64) : (pL M a k x).1 = M.1 := rfl
theorem gI_pI (M : Mem) (a k : Nat) (x : Int32) (b j : Nat) : gI (pI M a k x) b j = if b = a ∧ j = k then x else gI M b j := by
  unfold gI pI
  by_cases h : b = a
  · subst h
    rw [pF_eq]
    unfold upd
    by_cases h2 : j = k <;> simp [h2]
  · rw [pF_ne _ _ h]
    simp [h]
theorem gI_pL (M : Mem) (a k : Nat) (x : Int64) (b j : Nat) : gI (pL M a k x) b j = gI M b j := rfl
theorem gL_pI (M : Mem) (a k : Nat) (x : Int32) (b j : Nat) : gL (pI M a k x) b j = gL M b j := rfl
theorem gL_pL (M : Mem) (a k : Nat) (x : Int64) (b j : Nat) : gL (pL M a k x) b j = if b = a ∧ j = k then x else gL M b j := by
  unfold gL
  by_cases h : b = a
  · subst h
    rw [pL_eq]
    unfold vp_updL
    by_cases h2 : j = k <;> simp [h2]
  · rw [pL_ne _ _ h]
    simp [h]
/-! kinds: 0 Row, 1 Stream, 2 TextReader, 3 GapRows, 4 GapRowsModel, 5 bytes, 6 ints, 7 longs, 8 Streams; 9 no cell -/
def kdA : Nat → Nat × Nat
  | 0 => (3, 0) | 1 => (2, 0) | 2 => (6, 400) | 3 => (6, 4) | 4 => (6, 4) | 5 => (6, 200) | 6 => (6, 200) | 7 => (8, 4)
  | 10 => (0, 0) | 11 => (6, 1000) | 12 => (6, 1000) | 13 => (6, 1000) | 14 => (6, 1000)
  | 20 => (0, 0) | 21 => (6, 1000) | 22 => (6, 1000) | 23 => (6, 1000) | 24 => (6, 1000) | _ => (9, 0)
def kdB : Nat → Nat × Nat
  | 0 => (1, 0) | 1 => (6, 1000) | 5 => (0, 0) | 6 => (6, 1000) | 7 => (6, 1000) | 8 => (6, 1000) | 9 => (6, 1000) | _ => (9, 0)
def kdC : Nat → Nat × Nat
  | 0 => (4, 0) | 4 => (5, 400) | 13 => (7, 4) | 14 => (6, 4) | 15 => (6, 400) | 16 => (6, 400) | 20 => (6, 6000) | 21 => (6, 6000) | 22 => (6, 6000)
  | 23 => (6, 6) | 24 => (6, 6) | 25 => (6, 4) | 26 => (6, 4) | 27 => (6, 4) | 28 => (6, 4000) | 100 => (7, 1) | _ => (9, 0)
def kd (a : Nat) : Nat × Nat := if a < 100 then kdA a else if a < 180 then kdB ((a - 100) % 20) else if a < 200 then (9, 0) else kdC (a - 200)
def lvb (mk a : Nat) : Bool := decide ((kd a).1 < 9) && (decide (a < 100) || decide (200 ≤ a) || decide ((a - 100) / 20 < mk))
def nms (mk : Nat) : List Nat := (List.range 400).filter (lvb mk)
def Lz (mk a : Nat) : Prop := a < 400 ∧ lvb mk a = true
theorem Lz.mem {mk a : Nat} (h : Lz mk a) : a ∈ nms mk := List.mem_filter.mpr ⟨List.mem_range.mpr h.1, h.2⟩
/-- a cell of a kind that lives -/
def Iz (mk a : Nat) (t : Nat × Nat) : Prop := Lz mk a ∧ kd a = t
theorem Iz.base {mk a : Nat} (t : Nat × Nat) (h : decide (a < 400 ∧ kd a = t ∧ t.1 < 9 ∧ (a < 100 ∨ 200 ≤ a)) = true) : Iz mk a t := by
  obtain ⟨h1, h2, h3, h4⟩ := of_decide_eq_true h
  refine ⟨⟨h1, ?_⟩, h2⟩
  unfold lvb
  rw [h2]
  rcases h4 with h4 | h4 <;> simp [h3, h4]
theorem kd_row : ∀ a, a < 400 → kd a = (0, 0) → (a < 96 ∨ (100 ≤ a ∧ a < 176 ∧ (a - 100) / 20 = (a + 4 - 100) / 20)) ∧ kd (a + 1) = (6, 1000) ∧ kd (a + 2) = (6, 1000) ∧ kd (a + 3) = (6, 1000) ∧ kd (a + 4) = (6, 1000) := by decide +kernel
theorem kd_str : ∀ a, a < 400 → kd a = (1, 0) → (100 ≤ a ∧ a < 170 ∧ (a - 100) / 20 = (a + 9 - 100) / 20) ∧ kd (a + 1) = (6, 1000) ∧ kd (a + 5) = (0, 0) := by decide +kernel
theorem Iz.row {mk a : Nat} (h : Iz mk a (0, 0)) : Iz mk (a + 1) (6, 1000) ∧ Iz mk (a + 2) (6, 1000) ∧ Iz mk (a + 3) (6, 1000) ∧ Iz mk (a + 4) (6, 1000) := by
  obtain ⟨⟨h1, h2⟩, h3⟩ := h
  obtain ⟨h4, k1, k2, k3, k4⟩ := kd_row a h1 h3
  have key : ∀ j, j ≤ 4 → kd (a + j) = (6, 1000) → Iz mk (a + j) (6, 1000) := by
    intro j hj hk
    refine ⟨⟨by omega, ?_⟩, hk⟩
    unfold lvb at h2 ⊢
    rw [hk]
    simp only [Bool.and_eq_true, Bool.or_eq_true, decide_eq_true_eq] at h2 ⊢
    refine ⟨by decide, ?_⟩
    rcases h4 with h4 | ⟨h5, h6, h7⟩
    · exact Or.inl (Or.inl (by omega))
    · have : (a - 100) / 20 < mk := by
        rcases h2.2 with (h | h) | h
        · omega
        · omega
        · exact h
      exact Or.inr (by omega)
  exact ⟨key 1 (by omega) k1, key 2 (by omega) k2, key 3 (by omega) k3, key 4 (by omega) k4⟩
theorem Iz.str {mk a : Nat} (h : Iz mk a (1, 0)) : Iz mk (a + 1) (6, 1000) ∧ Iz mk (a + 5) (0, 0) := by
  obtain ⟨⟨h1, h2⟩, h3⟩ := h
  obtain ⟨⟨h5, h6, h7⟩, k1, k5⟩ := kd_str a h1 h3
  have key : ∀ (j : Nat) (t : Nat × Nat), j ≤ 9 → t.1 < 9 → kd (a + j) = t → Iz mk (a + j) t := by
    intro j t hj ht hk
    refine ⟨⟨by omega, ?_⟩, hk⟩
    unfold lvb at h2 ⊢
    rw [hk]
    simp only [Bool.and_eq_true, Bool.or_eq_true, decide_eq_true_eq] at h2 ⊢
    refine ⟨ht, ?_⟩
    have : (a - 100) / 20 < mk := by
      rcases h2.2 with (h | h) | h
      · omega
      · omega
      · exact h
    exact Or.inr (by omega)
  exact ⟨key 1 _ (by omega) (by decide) k1, key 5 _ (by omega) (by decide) k5⟩
theorem Iz.mkd {mk j : Nat} (hj : j < 4) (h : j < mk) : Iz mk (100 + 20 * j) (1, 0) := by
  have hk : kd (100 + 20 * j) = (1, 0) := by
    rcases (show j = 0 ∨ j = 1 ∨ j = 2 ∨ j = 3 by omega) with rfl | rfl | rfl | rfl <;> decide +kernel
  refine ⟨⟨by omega, ?_⟩, hk⟩
  unfold lvb
  rw [hk]
  simp only [Bool.and_eq_true, Bool.or_eq_true, decide_eq_true_eq]
  exact ⟨by decide, Or.inr (by omega)⟩
/-! an object's fields: 0 an int, 1 a long, n + 2 the cell whose name is n above -/
def fcs : Nat → List Nat
  | 0 => [3, 4, 5, 6, 0]
  | 1 => [7, 3, 0, 0, 0, 0]
  | 2 => [3, 0, 0, 0, 0, 0, 0, 0, 0, 0, 0, 4, 5, 0, 6, 7]
  | 3 => [3, 9, 0, 0, 0, 0, 0, 0, 12, 22]
  | _ => [0, 0, 0, 6, 0, 0, 0, 0, 0, 0, 0, 1, 15, 16, 17, 18, 0, 0, 0, 22, 23, 24, 25, 26, 27, 28, 29, 30, 0, 0, 0, 0]
def fv (al : Nat → Nat) (a : Nat) (f : Nat → Int32) (g : Nat → Int64) (k : Nat) : Nat → Value
  | 0 => .int (f k)
  | 1 => .long (g k)
  | n + 2 => .ref (al (a + n))
def fls (al : Nat → Nat) (a : Nat) (f : Nat → Int32) (g : Nat → Int64) : Nat → List Nat → List Value
  | _, [] => []
  | k, c :: cs => fv al a f g k c :: fls al a f g (k + 1) cs
theorem fls_at (al : Nat → Nat) (a : Nat) (f : Nat → Int32) (g : Nat → Int64) : ∀ (cs : List Nat) (k i : Nat), (fls al a f g k cs)[i]? = (cs[i]?).map (fv al a f g (k + i))
  | [], k, i => by simp [fls]
  | c :: cs, k, 0 => by simp [fls]
  | c :: cs, k, i + 1 => by
    simp only [fls, List.getElem?_cons_succ]
    rw [fls_at al a f g cs (k + 1) i, show k + 1 + i = k + (i + 1) by omega]
theorem fls_len (al : Nat → Nat) (a : Nat) (f : Nat → Int32) (g : Nat → Int64) : ∀ (cs : List Nat) (k : Nat), (fls al a f g k cs).length = cs.length
  | [], _ => rfl
  | c :: cs, k => by simp only [fls, List.length_cons, fls_len al a f g cs (k + 1)]
theorem fls_setI (al : Nat → Nat) (a : Nat) (f : Nat → Int32) (g : Nat → Int64) (cs : List Nat) (j : Nat) (x : Int32) (h : cs[j]? = some 0) : (fls al a f g 0 cs).set j (.int x) = fls al a (upd f j x) g 0 cs := by
  have hl : j < cs.length := (List.getElem?_eq_some_iff.mp h).1
  apply List.ext_getElem?
  intro i
  by_cases hi : i = j
  · subst hi
    rw [List.getElem?_set_self (by rw [fls_len]; exact hl), fls_at, h]
    simp [fv, upd]
  · rw [List.getElem?_set_ne (Ne.symm hi), fls_at, fls_at]
    cases hc : cs[i]? with
    | none => rfl
    | some c =>
      match c with
      | 0 => simp [fv, upd, hi]
      | 1 => rfl
      | n + 2 => rfl
theorem fls_setL (al : Nat → Nat) (a : Nat) (f : Nat → Int32) (g : Nat → Int64) (cs : List Nat) (j : Nat) (x : Int64) (h : cs[j]? = some 1) : (fls al a f g 0 cs).set j (.long x) = fls al a f (vp_updL g j x) 0 cs := by
  have hl : j < cs.length := (List.getElem?_eq_some_iff.mp h).1
  apply List.ext_getElem?
  intro i
  by_cases hi : i = j
  · subst hi
    rw [List.getElem?_set_self (by rw [fls_len]; exact hl), fls_at, h]
    simp [fv, vp_updL]
  · rw [List.getElem?_set_ne (Ne.symm hi), fls_at, fls_at]
    cases hc : cs[i]? with
    | none => rfl
    | some c =>
      match c with
      | 0 => rfl
      | 1 => simp [fv, vp_updL, hi]
      | n + 2 => rfl
/-- the Streams' array -/
def stF (al : Nat → Nat) (mk : Nat) : Nat → Option Nat := fun j => if j < mk then some (al (100 + 20 * j)) else none
def cellK (cy : Nat → ClassId) (al : Nat → Nat) (mk a : Nat) (f : Nat → Int32) (g : Nat → Int64) : Nat × Nat → va_E
  | (5, n) => .inl (cy 5, n, .inl f)
  | (6, n) => .inl (cy 6, n, .inl f)
  | (7, n) => .inl (cy 7, n, .inr (.inl g))
  | (8, n) => .inl (cy 8, n, .inr (.inr (.inr (.inr (stF al mk)))))
  | (c, _) => .inr (c, fls al a f g 0 (fcs c))
def cellOf (cy : Nat → ClassId) (al : Nat → Nat) (mk : Nat) (M : Mem) (a : Nat) : va_E := cellK cy al mk a (M.1 a) (M.2 a) (kd a)
def wsOf (cy : Nat → ClassId) (al : Nat → Nat) (mk : Nat) (M : Mem) : va_W := (nms mk).map (fun a => (al a, cellOf cy al mk M a))
theorem ws_q {mk a : Nat} (h : Lz mk a) : ∃ q : Nat, (nms mk)[q]? = some a := List.getElem?_of_mem h.mem
theorem ws_at {cy : Nat → ClassId} {al : Nat → Nat} {mk : Nat} {M : Mem} {q a : Nat} (hq : (nms mk)[q]? = some a) : (wsOf cy al mk M)[q]? = some (al a, cellOf cy al mk M a) := by
  unfold wsOf
  rw [List.getElem?_map, hq]
  rfl
theorem ws_set {A : Nat → Prop} {cy : Nat → ClassId} {al : Nat → Nat} {mk : Nat} {M M' : Mem} {q a : Nat} {e : va_E} (hD : va_D A (wsOf cy al mk M)) (hq : (nms mk)[q]? = some a) (he : e = cellOf cy al mk M' a) (ho : ∀ b, b ≠ a → M'.1 b = M.1 b ∧ M'.2 b = M.2 b) : (wsOf cy al mk M).set q (al a, e) = wsOf cy al mk M' := by
  subst he
  have hl : q < (wsOf cy al mk M).length := (List.getElem?_eq_some_iff.mp (ws_at (cy := cy) (al := al) (M := M) hq)).1
  apply List.ext_getElem?
  intro i
  by_cases hi : i = q
  · subst hi
    rw [List.getElem?_set_self hl, ws_at hq]
  · rw [List.getElem?_set_ne (Ne.symm hi)]
    cases hb : (nms mk)[i]? with
    | none =>
      unfold wsOf
      rw [List.getElem?_map, List.getElem?_map, hb]
      rfl
    | some b =>
      have hba : b ≠ a := by
        intro z
        subst z
        exact hi (hD.1 i q _ _ (ws_at hb) (ws_at hq) rfl)
      rw [ws_at hb, ws_at hb]
      unfold cellOf
      rw [(ho b hba).1, (ho b hba).2]
