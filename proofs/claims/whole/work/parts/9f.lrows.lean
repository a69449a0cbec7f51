/-! ===== THE LAW: what a call leaves, and its own rows ===== -/
theorem CS.keep {mk : Nat} {S : Gs} {M M' : Mem} (h : CS mk S M) (hG : GI S) (e : ∀ b k, b < 200 → gI M' b k = gI M b k) : CS mk S M' := by
  obtain ⟨h1, h2, h3, h4, h5, h6, h7, h8, h9, h10⟩ := h
  have hk := hG.1
  refine ⟨h1, ?_, ?_, ?_, ?_, ?_, ?_, ?_, ?_, ?_⟩
  · rw [e _ _ (by omega)]
    exact h2
  · rw [e _ _ (by omega)]
    exact h3
  · rw [e _ _ (by omega)]
    exact h4
  · rw [e _ _ (by omega)]
    exact h5
  · rw [e _ _ (by omega)]
    exact h6
  · rw [e _ _ (by omega)]
    exact h7
  · rw [e _ _ (by omega)]
    exact h8
  · intro i hi
    rw [e _ _ (by omega)]
    exact h9 i hi
  · intro j hj
    have hj' : j < gk S := hj
    obtain ⟨t1, t2, t3, t4, t5, t6, t7⟩ := h10 j hj
    refine ⟨?_, ?_, ?_, ?_, ?_, ?_, ?_⟩
    · rw [e _ _ (by omega)]
      exact t1
    · rw [e _ _ (by omega)]
      exact t2
    · rw [e _ _ (by omega)]
      exact t3
    · rw [e _ _ (by omega)]
      exact t4
    · intro k hk'
      rw [e _ _ (by omega)]
      exact t5 k hk'
    · rw [e _ _ (by omega)]
      exact t6
    · intro k hk'
      rw [e _ _ (by omega), e _ _ (by omega), e _ _ (by omega)]
      exact t7 k hk'
theorem MS.keep {S : Gs} {M M' : Mem} (h : MS S M) (e : ∀ b k, 200 ≤ b → b < 300 → gI M' b k = gI M b k) : MS S M' := by
  obtain ⟨h1, h2, h3, h4, h5, h6, h7, h8, h9⟩ := h
  refine ⟨?_, ?_, ?_, ?_, ?_, ?_, ?_, ?_, ?_⟩
  · rw [e _ _ (by omega) (by omega)]
    exact h1
  · rw [e _ _ (by omega) (by omega)]
    exact h2
  · rw [e _ _ (by omega) (by omega)]
    exact h3
  · rw [e _ _ (by omega) (by omega)]
    exact h4
  · rw [e _ _ (by omega) (by omega)]
    exact h5
  · rw [e _ _ (by omega) (by omega)]
    exact h6
  · rw [e _ _ (by omega) (by omega)]
    exact h7
  · intro i hi
    rw [e _ _ (by omega) (by omega)]
    exact h8 i hi
  · intro j hj
    obtain ⟨t1, t2, t3, t4, t5, t6⟩ := h9 j hj
    refine ⟨⟨?_, ?_⟩, ?_, ?_, ?_, ?_, ?_⟩
    · rw [e _ _ (by omega) (by omega)]
      exact t1.1
    · intro k hk'
      rw [e _ _ (by omega) (by omega), e _ _ (by omega) (by omega), e _ _ (by omega) (by omega)]
      exact t1.2 k hk'
    · rw [e _ _ (by omega) (by omega)]
      exact t2
    · rw [e _ _ (by omega) (by omega)]
      exact t3
    · rw [e _ _ (by omega) (by omega)]
      exact t4
    · rw [e _ _ (by omega) (by omega)]
      exact t5
    · intro k hk'
      rw [e _ _ (by omega) (by omega)]
      exact t6 k hk'
theorem CS.fr {mk : Nat} {S : Gs} {M M' : Mem} (h : CS mk S M) (hG : GI S) (f : Fr 200 299 M M') : CS mk S M' := h.keep hG (fun _ k q => f.g (by omega) k)
theorem CS.fri {mk : Nat} {S : Gs} {M M' : Mem} (h : CS mk S M) (hG : GI S) (f : FrI M M') : CS mk S M' := h.keep hG (fun b k q => congrFun (f b (by omega)) k)
theorem MS.fr {S : Gs} {M M' : Mem} (h : MS S M) (f : Fr 0 199 M M') : MS S M' := h.keep (fun _ k q q' => f.g (by omega) k)
def Lx (p : Program) (s : State) (m : MethodId) (meth : Method) (c : Code) (G : Gl) (b L : Nat) (xs : Nat → Int32) : Prop := Cx p s m meth c G RL cL_law 7 ret ∧ va_X b L xs s s.heap ∧ b < s.heap.size ∧ G.2.2.2.2 = s.heap.size ∧ Sy G s ∧ L ≤ 3072
abbrev lwl (al : Nat → Nat) (b i : Nat) : List (Nat × Value) := [(0, .ref b), (1, .ref (al 0)), (2, .ref (al 200)), (3, .ref (al 300)), (4, .int (iI i))]
section LAW
variable {p : Program} {l : Launch} {e : Env} {R : Room} {s : State} {m : MethodId} {args : Array Value} {below : List Frame} {meth : Method} {c : Code} {G : Gl} {al : Nat → Nat} {mk cs ss : Nat} {Q : State → Prop} {M : Mem} {pc : Nat} {lo : List (Nat × Value)} {st : List Value} {b L i : Nat} {xs : Nat → Int32}
theorem a_sld (X : Lx p s m meth c G b L xs) {j : Nat} {v : Int32} (hv : v = iI j) (hj : j < L) (d : decode cL_law pc = .ok (.iaload, 1)) (K : Wa p l e R s m args below meth c 7 G al mk cs ss Q M (pc + 1) lo (.int (xs j) :: st)) : Wa p l e R s m args below meth c 7 G al mk cs ss Q M pc lo (.int v :: .ref b :: st) := by
  obtain ⟨X, hX, hbl, hba, -, hL⟩ := X
  subst hv
  intro H locs ls hH hS hl
  have hin : vp_in (iI (j : Int)) L := (iI_in (by omega)).mpr ⟨by omega, by omega⟩
  refine va_sld X.1 X.2.1 hX hbl (fun h => absurd (show G.2.2.2.2 ≤ b from h) (by omega)) hS hin d ?_
  rw [iI_clamp ⟨by omega, by omega⟩, Int.toNat_natCast]
  exact K H locs ls hH hS hl
theorem a_lslen (X : Lx p s m meth c G b L xs) (d : decode cL_law pc = .ok (.arraylength, 1)) (K : Wa p l e R s m args below meth c 7 G al mk cs ss Q M (pc + 1) lo (.int (iI L) :: st)) : Wa p l e R s m args below meth c 7 G al mk cs ss Q M pc lo (.ref b :: st) := by
  obtain ⟨X, hX, hbl, hba, -, hL⟩ := X
  intro H locs ls hH hS hl
  refine va_slen X.1 X.2.1 hX hbl (fun h => absurd (show G.2.2.2.2 ≤ b from h) (by omega)) hS d ?_
  rw [show Int32.ofNat L = iI L from iI_nI L]
  exact K H locs ls hH hS hl
theorem a_arg (X : Lx p s m meth c G b L xs) (k : Nat) {n : Int} (hn : Int32.ofInt n = iI k) (d0 : decode cL_law pc = .ok (.aload_n 0, 1)) (d1 : decode cL_law (pc + 1) = .ok (.iload 4, 2)) (d2 : decode cL_law (pc + 3) = .ok (.iconst n, 1)) (d3 : decode cL_law (pc + 4) = .ok (.iadd, 1)) (d4 : decode cL_law (pc + 5) = .ok (.iaload, 1)) (hj : i + k < L) (K : Wa p l e R s m args below meth c 7 G al mk cs ss Q M (pc + 6) (lwl al b i) (.int (xs (i + k)) :: st)) : Wa p l e R s m args below meth c 7 G al mk cs ss Q M pc (lwl al b i) st := by
  refine a_aload_n X.1 d0 rfl 0 rfl ?_
  refine a_iload X.1 d1 4 rfl ?_
  refine a_iconst (v := iI k) X.1 d2 hn ?_
  refine a_iadd X.1 d3 ?_
  exact a_sld X (j := i + k) (by rw [iI_add, Int.natCast_add]) hj d4 K
theorem a_ne0 (X : Lx p s m meth c G b L xs) {x : Int32} (d0 : decode cL_law pc = .ok (.ifCond .eq 7, 3)) (d1 : decode cL_law (pc + 3) = .ok (.iconst 1, 1)) (d2 : decode cL_law (pc + 4) = .ok (.goto 4, 3)) (d3 : decode cL_law (pc + 7) = .ok (.iconst 0, 1)) (K : Wa p l e R s m args below meth c 7 G al mk cs ss Q M (pc + 8) lo (.int (if x = 0 then 0 else 1) :: st)) : Wa p l e R s m args below meth c 7 G al mk cs ss Q M pc lo (.int x :: st) := by
  refine a_if_eq (tgt := pc + 7) X.1 d0 (by omega) (fun z => ?_) (fun z => ?_)
  · rw [if_pos z] at K
    exact a_iconst (v := 0) X.1 d3 ic_0 K
  · rw [if_neg z] at K
    refine a_iconst (v := 1) X.1 d1 ic_1 ?_
    exact a_goto (tgt := pc + 8) X.1 d2 (by omega) K
end LAW
