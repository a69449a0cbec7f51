/-! ===== STEP 2: whole numbers behind the ints ===== -/
def iI (z : Int) : Int32 := Int32.ofInt z
/-- within an int -/
def In (z : Int) : Prop := -2147483648 ≤ z ∧ z < 2147483648
theorem iI_toInt {z : Int} (h : -2147483648 ≤ z ∧ z < 2147483648) : (iI z).toInt = z := by
  unfold iI
  rw [Int32.toInt_ofInt]
  have hs : (Int32.size : Int) = 4294967296 := rfl
  exact Int.bmod_eq_of_le (by omega) (by omega)
theorem iI_of (x : Int32) : ∃ z : Int, x = iI z ∧ -2147483648 ≤ z ∧ z < 2147483648 := by
  refine ⟨x.toInt, ?_, ?_, ?_⟩
  · unfold iI
    rw [Int32.ofInt_toInt]
  · have := Int32.le_toInt x
    simpa using this
  · have := Int32.toInt_lt x
    simpa using this
theorem iI_add (a b : Int) : iI a + iI b = iI (a + b) := (Int32.ofInt_add a b).symm
theorem iI_sub (a b : Int) : iI a - iI b = iI (a - b) := (Int32.ofInt_sub a b).symm
theorem iI_mul (a b : Int) : iI a * iI b = iI (a * b) := (Int32.ofInt_mul a b).symm
theorem iI_neg (a : Int) : -iI a = iI (-a) := (Int32.ofInt_neg a).symm
theorem iI_lt {a b : Int} (ha : -2147483648 ≤ a ∧ a < 2147483648) (hb : -2147483648 ≤ b ∧ b < 2147483648) : iI a < iI b ↔ a < b := by
  rw [Int32.lt_iff_toInt_lt, iI_toInt ha, iI_toInt hb]
theorem iI_le {a b : Int} (ha : -2147483648 ≤ a ∧ a < 2147483648) (hb : -2147483648 ≤ b ∧ b < 2147483648) : iI a ≤ iI b ↔ a ≤ b := by
  rw [Int32.le_iff_toInt_le, iI_toInt ha, iI_toInt hb]
theorem iI_eq {a b : Int} (ha : -2147483648 ≤ a ∧ a < 2147483648) (hb : -2147483648 ≤ b ∧ b < 2147483648) : iI a = iI b ↔ a = b := by
  refine ⟨fun h => ?_, fun h => by rw [h]⟩
  have := congrArg Int32.toInt h
  rw [iI_toInt ha, iI_toInt hb] at this
  exact this
theorem iI_nI (n : Nat) : nI n = iI (n : Int) := by
  unfold nI iI
  rw [Int32.ofInt_eq_ofNat]
theorem iI_lit (n : Nat) : (OfNat.ofNat n : Int32) = iI (OfNat.ofNat n) := by
  unfold iI
  exact (Int32.ofInt_eq_ofNat).symm
theorem iI_clamp {a : Int} (h : 0 ≤ a ∧ a < 2147483648) : (iI a).toNatClampNeg = a.toNat := by
  show (iI a).toInt.toNat = _
  rw [iI_toInt ⟨by omega, h.2⟩]
theorem iI_in {a : Int} {n : Nat} (h : -2147483648 ≤ a ∧ a < 2147483648) : vp_in (iI a) n ↔ 0 ≤ a ∧ a < n := by
  rw [vp_in_iff, iI_toInt h]
theorem iI_div {a b : Int} (ha : 0 ≤ a ∧ a < 2147483648) (hb : 0 < b ∧ b < 2147483648) : iI a / iI b = iI (a / b) := by
  apply Int32.toInt_inj.mp
  have h1 : (iI a).toInt = a := iI_toInt ⟨by omega, ha.2⟩
  have h2 : (iI b).toInt = b := iI_toInt ⟨by omega, hb.2⟩
  rw [Int32.toInt_div_of_ne_right _ _ (fun h => by
    have := congrArg Int32.toInt h
    rw [h2] at this
    have h3 : (-1 : Int32).toInt = -1 := by decide
    rw [h3] at this
    omega), h1, h2]
  have h4 : 0 ≤ a / b := Int.ediv_nonneg ha.1 (by omega)
  have h5 : a / b ≤ a := Int.ediv_le_self b ha.1
  rw [iI_toInt ⟨by omega, by omega⟩, Int.tdiv_eq_ediv_of_nonneg ha.1]
theorem iI_rem {a b : Int} (ha : 0 ≤ a ∧ a < 2147483648) (hb : 0 < b ∧ b < 2147483648) : iI a - iI a / iI b * iI b = iI (a % b) := by
  rw [iI_div ha hb, iI_mul, iI_sub]
  congr 1
  rw [Int.emod_def, Int.mul_comm b]
def mx (a b : Int) : Int := if a < b then b else a
def mn (a b : Int) : Int := if a < b then a else b
theorem iI_mx (a b : Int) [Decidable (a < b)] : (if a < b then iI b else iI a) = iI (mx a b) := by unfold mx; split <;> rfl
theorem iI_mn (a b : Int) [Decidable (a < b)] : (if a < b then iI a else iI b) = iI (mn a b) := by unfold mn; split <;> rfl
theorem ex_lt (k : Nat) (P : Prop) : (∃ m, k < m ∧ P) = P := propext ⟨fun ⟨_, _, h⟩ => h, fun h => ⟨k + 1, Nat.lt_succ_self k, h⟩⟩
theorem ex_s {f : Nat → Prop} (h : f 0 = False) : (∃ m, f m) = ∃ m, f (m + 1) := propext ⟨fun ⟨m, q⟩ => by
  cases m with
  | zero => rw [h] at q; exact q.elim
  | succ m => exact ⟨m, q⟩, fun ⟨m, q⟩ => ⟨m + 1, q⟩⟩
theorem ex_c (P : Prop) : (∃ _ : Nat, P) = P := propext ⟨fun ⟨_, h⟩ => h, fun h => ⟨0, h⟩⟩
theorem br_1 {c A B : Prop} (h : c) : ((c → A) ∧ (¬ c → B)) = A := propext ⟨fun q => q.1 h, fun a => ⟨fun _ => a, fun z => absurd h z⟩⟩
theorem br_2 {c A B : Prop} (h : ¬ c) : ((c → A) ∧ (¬ c → B)) = B := propext ⟨fun q => q.2 h, fun b => ⟨fun z => absurd z h, fun _ => b⟩⟩
theorem br_3 {c A B : Prop} (h : ¬ c) : ((¬ c → A) ∧ (c → B)) = A := propext ⟨fun q => q.1 h, fun a => ⟨fun _ => a, fun z => absurd z h⟩⟩
theorem br_4 {c A B : Prop} (h : c) : ((¬ c → A) ∧ (c → B)) = B := propext ⟨fun q => q.2 h, fun b => ⟨fun z => absurd h z, fun _ => b⟩⟩
theorem and_1 {A B : Prop} (h : A) : (A ∧ B) = B := propext ⟨fun q => q.2, fun b => ⟨h, b⟩⟩
theorem br_in {i : Int} {k : Nat} {B : Prop} (h : 0 ≤ i ∧ i < k) : ((0 ≤ i ∧ i < k) ∧ B) = B := and_1 h
theorem br_5 {A B : Prop} : ((True → A) ∧ (¬ True → B)) = A := br_1 trivial
theorem br_6 {A B : Prop} : ((¬ True → A) ∧ (True → B)) = B := br_4 trivial
theorem br_7 {A B : Prop} : ((False → A) ∧ (¬ False → B)) = B := br_2 id
theorem br_8 {A B : Prop} : ((¬ False → A) ∧ (False → B)) = A := br_3 id
theorem br_nl {a b : Int} {B : Prop} (h : ¬ a < b) : (¬ a < b ∧ B) = B := and_1 h
theorem br_le {a b : Nat} {B : Prop} (h : a ≤ b) : (a ≤ b ∧ B) = B := and_1 h
theorem br_ne {a b : Int} {B : Prop} (h : ¬ a = b) : (¬ a = b ∧ B) = B := and_1 h
theorem gp_1 {M : Mem} {a k : Nat} {x : Int32} : gI (pI M a k x) a k = x := by rw [gI_pI, if_pos ⟨rfl, rfl⟩]
theorem gp_2 {M : Mem} {a b k j : Nat} {x : Int32} (h : ¬ b = a) : gI (pI M a k x) b j = gI M b j := by rw [gI_pI, if_neg (fun q => h q.1)]
theorem gp_3 {M : Mem} {a k j : Nat} {x : Int32} (h : ¬ j = k) : gI (pI M a k x) a j = gI M a j := by rw [gI_pI, if_neg (fun q => h q.2)]
theorem gf_1 {M : Mem} {a k : Nat} {f : Nat → Int32} : gI (pF M a f) a k = f k := congrFun (pF_eq M a f) k
theorem gf_2 {M : Mem} {a b k : Nat} {f : Nat → Int32} (h : ¬ b = a) : gI (pF M a f) b k = gI M b k := congrFun (pF_ne M f h) k
theorem gc_1 {M M' : Mem} {a b s t n k : Nat} : va_cpy (Prod.fst M a) (Prod.fst M' b) s t n k = if t ≤ k ∧ k < t + n then gI M a (s + (k - t)) else gI M' b k := rfl
theorem gi_eq {M : Mem} {a b k : Nat} {x : Int32} (h : b = a) : gI (pI M a k x) b k = x := by rw [h, gp_1]
theorem pI_fr {M : Mem} {a b k : Nat} {x : Int32} (h : ¬ b = a) : (pI M a k x).1 b = M.1 b := pF_ne M _ h
theorem pF_fr {M : Mem} {a b : Nat} {f : Nat → Int32} (h : ¬ b = a) : (pF M a f).1 b = M.1 b := pF_ne M _ h
theorem pI_l2 {M : Mem} {a k : Nat} {x : Int32} : (pI M a k x).2 = M.2 := rfl
theorem pF_l2 {M : Mem} {a : Nat} {f : Nat → Int32} : (pF M a f).2 = M.2 := rfl
/-- but the names lo .. hi nothing has changed -/
def Fr (lo hi : Nat) (M M' : Mem) : Prop := M'.2 = M.2 ∧ ∀ b, (b < lo ∨ hi < b) → M'.1 b = M.1 b
theorem Fr.g {lo hi : Nat} {M M' : Mem} (h : Fr lo hi M M') {b : Nat} (hb : b < lo ∨ hi < b) (k : Nat) : gI M' b k = gI M b k := congrFun (h.2 b hb) k
theorem Fr.r (lo hi : Nat) (M : Mem) : Fr lo hi M M := ⟨rfl, fun _ _ => rfl⟩
theorem Fr.t {lo hi : Nat} {M M' M'' : Mem} (h : Fr lo hi M M') (h2 : Fr lo hi M' M'') : Fr lo hi M M'' := ⟨h2.1.trans h.1, fun b hb => (h2.2 b hb).trans (h.2 b hb)⟩
theorem Fr.w {lo hi lo' hi' : Nat} {M M' : Mem} (h : Fr lo hi M M') (h1 : lo' ≤ lo) (h2 : hi ≤ hi') : Fr lo' hi' M M' := ⟨h.1, fun b hb => h.2 b (by omega)⟩
theorem Fr.p {lo hi : Nat} {M M' : Mem} (h : Fr lo hi M M') {a k : Nat} {x : Int32} (ha : lo ≤ a ∧ a ≤ hi) : Fr lo hi M (pI M' a k x) := ⟨h.1, fun b hb => (pI_fr (by omega)).trans (h.2 b hb)⟩
theorem Fr.f {lo hi : Nat} {M M' : Mem} (h : Fr lo hi M M') {a : Nat} {f : Nat → Int32} (ha : lo ≤ a ∧ a ≤ hi) : Fr lo hi M (pF M' a f) := ⟨h.1, fun b hb => (pF_fr (by omega)).trans (h.2 b hb)⟩
