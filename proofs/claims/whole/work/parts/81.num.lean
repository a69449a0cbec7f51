/-! ===== THE TEXT: numbers of words ===== -/
def iL (z : Int) : Int64 := Int64.ofInt z
theorem iL_toInt {z : Int} (h : -9223372036854775808 ≤ z ∧ z < 9223372036854775808) : (iL z).toInt = z := by
  unfold iL
  rw [Int64.toInt_ofInt]
  have hs : (Int64.size : Int) = 18446744073709551616 := rfl
  exact Int.bmod_eq_of_le (by omega) (by omega)
theorem iL_eq {a b : Int} (ha : -9223372036854775808 ≤ a ∧ a < 9223372036854775808) (hb : -9223372036854775808 ≤ b ∧ b < 9223372036854775808) : iL a = iL b ↔ a = b := by
  refine ⟨fun h => ?_, fun h => by rw [h]⟩
  have := congrArg Int64.toInt h
  rw [iL_toInt ha, iL_toInt hb] at this
  exact this
theorem iL_of {c : Int} (h : -2147483648 ≤ c ∧ c < 2147483648) : Int32.toInt64 (iI c) = iL c := by
  apply Int64.toInt_inj.mp
  rw [Int32.toInt_toInt64, iI_toInt h, iL_toInt (by omega)]
theorem iL_sh {a c : Int} (ha : 0 ≤ a ∧ a < 1099511627776) (hc : 0 ≤ c ∧ c < 256) : (iL a <<< (Int32.toInt64 (iI 8) &&& 63)) ||| Int32.toInt64 (iI c) = iL (a * 256 + c) := by
  rw [iL_of (c := c) (by omega)]
  obtain ⟨A, rfl⟩ : ∃ A : Nat, a = A := ⟨a.toNat, by omega⟩
  obtain ⟨C, rfl⟩ : ∃ C : Nat, c = C := ⟨c.toNat, by omega⟩
  apply Int64.toBitVec.inj
  have e1 : (Int32.toInt64 (iI 8) &&& 63).toBitVec.smod 64 = 8#64 := by decide
  show (BitVec.ofInt 64 A <<< ((Int32.toInt64 (iI 8) &&& 63).toBitVec.smod 64)) ||| BitVec.ofInt 64 C = BitVec.ofInt 64 (A * 256 + C)
  rw [e1]
  apply BitVec.eq_of_toNat_eq
  rw [BitVec.toNat_or]
  show ((BitVec.ofInt 64 A).toNat <<< 8) % 2 ^ 64 ||| (BitVec.ofInt 64 C).toNat = _
  rw [BitVec.toNat_ofInt, BitVec.toNat_ofInt, BitVec.toNat_ofInt]
  have f1 : ((A : Int) % (2 ^ 64 : Nat)).toNat = A := by omega
  have f2 : ((C : Int) % (2 ^ 64 : Nat)).toNat = C := by omega
  have f3 : ((A * 256 + C : Int) % (2 ^ 64 : Nat)).toNat = A * 256 + C := by omega
  rw [f1, f2, f3]
  have f4 : A <<< 8 = A * 256 := by rw [Nat.shiftLeft_eq]
  have f5 : (A <<< 8) % 2 ^ 64 = A <<< 8 := by
    rw [f4]
    omega
  rw [f5, ← Nat.shiftLeft_add_eq_or_of_lt (by omega), f4]
/-- a word's number, its letters less o as figures to the base b -/
def fo (b o : Int) (B : Nat → Int) (q : Nat) : Nat → Int
  | 0 => 0
  | k + 1 => fo b o B q k * b + (B (q + k) - o)
theorem fo_0 {b o : Int} {B : Nat → Int} {q : Nat} (hb : 0 ≤ b) : ∀ k, (∀ i, i < k → 1 ≤ B (q + i) - o) → 0 ≤ fo b o B q k ∧ (0 < k → 0 < fo b o B q k) := by
  intro k
  induction k with
  | zero => intro _; exact ⟨Int.le_refl 0, fun h => absurd h (Nat.lt_irrefl 0)⟩
  | succ k ih =>
    intro h
    have h1 := (ih (fun i hi => h i (by omega))).1
    have h2 := h k (by omega)
    have h3 : 0 ≤ fo b o B q k * b := Int.mul_nonneg h1 hb
    rw [fo]
    exact ⟨by omega, fun _ => by omega⟩
theorem fo_up {b o : Int} {B : Nat → Int} {q : Nat} (hb : 1 ≤ b) : ∀ k, (∀ i, i < k → 0 ≤ B (q + i) - o ∧ B (q + i) - o < b) → 0 ≤ fo b o B q k ∧ fo b o B q k < b ^ k := by
  intro k
  induction k with
  | zero => intro _; rw [fo]; exact ⟨Int.le_refl 0, by simp⟩
  | succ k ih =>
    intro h
    have h1 := ih (fun i hi => h i (by omega))
    have h2 := h k (by omega)
    have h3 : 0 ≤ fo b o B q k * b := Int.mul_nonneg h1.1 (by omega)
    have h4 : (fo b o B q k + 1) * b ≤ b ^ k * b := Int.mul_le_mul_of_nonneg_right (by omega) (by omega)
    rw [Int.add_mul] at h4
    rw [fo, Int.pow_succ]
    omega
theorem fo_step {b x y d e : Int} (hd : 1 ≤ d ∧ d < b) (he : 1 ≤ e ∧ e < b) (h : x * b + d = y * b + e) : x = y ∧ d = e := by
  have key : ∀ x y d e : Int, 1 ≤ d → d < b → 1 ≤ e → e < b → x * b + d = y * b + e → ¬ x < y := by
    intro x y d e d1 d2 e1 e2 h c
    have h4 : (x + 1) * b ≤ y * b := Int.mul_le_mul_of_nonneg_right (by omega) (by omega)
    rw [Int.add_mul] at h4
    omega
  have h1 := key x y d e hd.1 hd.2 he.1 he.2 h
  have h2 := key y x e d he.1 he.2 hd.1 hd.2 h.symm
  have h3 : x = y := by omega
  subst h3
  exact ⟨rfl, by omega⟩
theorem fo_inj {b o : Int} {B B' : Nat → Int} {q q' : Nat} : ∀ k k', (∀ i, i < k → 1 ≤ B (q + i) - o ∧ B (q + i) - o < b) → (∀ i, i < k' → 1 ≤ B' (q' + i) - o ∧ B' (q' + i) - o < b) → fo b o B q k = fo b o B' q' k' → k = k' ∧ ∀ i, i < k → B (q + i) = B' (q' + i) := by
  intro k
  induction k with
  | zero =>
    intro k' _ h2 h
    by_cases c : k' = 0
    · exact ⟨c.symm, fun i hi => by omega⟩
    · have h3 := h2 0 (by omega)
      have := (fo_0 (B := B') (q := q') (b := b) (o := o) (by omega) k' (fun i hi => (h2 i hi).1)).2 (by omega)
      rw [fo] at h
      omega
  | succ k ih =>
    intro k' h1 h2 h
    have h3 := h1 k (by omega)
    cases k' with
    | zero =>
      have := (fo_0 (B := B) (q := q) (b := b) (o := o) (by omega) (k + 1) (fun i hi => (h1 i hi).1)).2 (by omega)
      rw [show fo b o B' q' 0 = 0 from rfl] at h
      omega
    | succ k' =>
      rw [fo, fo] at h
      have h4 := fo_step h3 (h2 k' (by omega)) h
      have h5 := ih k' (fun i hi => h1 i (by omega)) (fun i hi => h2 i (by omega)) h4.1
      refine ⟨by omega, fun i hi => ?_⟩
      by_cases c : i = k
      · rw [c]
        have := h4.2
        rw [h5.1]
        rw [← h5.1] at this ⊢
        omega
      · exact h5.2 i (by omega)
theorem fo_cg {b o : Int} {B B' : Nat → Int} {q q' : Nat} : ∀ k, (∀ i, i < k → B (q + i) = B' (q' + i)) → fo b o B q k = fo b o B' q' k := by
  intro k
  induction k with
  | zero => intro _; rfl
  | succ k ih =>
    intro h
    rw [fo, fo, ih (fun i hi => h i (by omega)), h k (by omega)]
/-- letters from q on -/
def lt (B : Nat → Int) (q k : Nat) : Prop := ∀ i, i < k → 97 ≤ B (q + i) ∧ B (q + i) ≤ 122
theorem fo_same {B B' : Nat → Int} {q q' k k' : Nat} (h : lt B q k) (h' : lt B' q' k') : (fo 27 96 B q k = fo 27 96 B' q' k' ↔ (k = k' ∧ ∀ i, i < k → B (q + i) = B' (q' + i))) ∧ (fo 256 0 B q k = fo 256 0 B' q' k' ↔ (k = k' ∧ ∀ i, i < k → B (q + i) = B' (q' + i))) := by
  refine ⟨⟨fun e => fo_inj k k' (fun i hi => ?_) (fun i hi => ?_) e, fun e => ?_⟩, ⟨fun e => fo_inj k k' (fun i hi => ?_) (fun i hi => ?_) e, fun e => ?_⟩⟩
  · have := h i hi
    omega
  · have := h' i hi
    omega
  · rw [← e.1]
    exact fo_cg k e.2
  · have := h i hi
    omega
  · have := h' i hi
    omega
  · rw [← e.1]
    exact fo_cg k e.2
theorem fo27_b {B : Nat → Int} {q k : Nat} (h : lt B q k) (hk : k ≤ 6) : 0 ≤ fo 27 96 B q k ∧ fo 27 96 B q k < 387420489 := by
  have h1 := fo_up (b := 27) (o := 96) (B := B) (q := q) (by omega) k (fun i hi => by
    have := h i hi
    omega)
  rcases (show k = 0 ∨ k = 1 ∨ k = 2 ∨ k = 3 ∨ k = 4 ∨ k = 5 ∨ k = 6 by omega) with rfl | rfl | rfl | rfl | rfl | rfl | rfl <;> simp only [Int.reducePow] at h1 <;> omega
theorem fo256_b {B : Nat → Int} {q k : Nat} (h : lt B q k) (hk : k ≤ 6) : 0 ≤ fo 256 0 B q k ∧ fo 256 0 B q k < 281474976710656 ∧ (k ≤ 5 → fo 256 0 B q k < 1099511627776) := by
  have h1 := fo_up (b := 256) (o := 0) (B := B) (q := q) (by omega) k (fun i hi => by
    have := h i hi
    omega)
  rcases (show k = 0 ∨ k = 1 ∨ k = 2 ∨ k = 3 ∨ k = 4 ∨ k = 5 ∨ k = 6 by omega) with rfl | rfl | rfl | rfl | rfl | rfl | rfl <;> simp only [Int.reducePow] at h1 <;> omega
