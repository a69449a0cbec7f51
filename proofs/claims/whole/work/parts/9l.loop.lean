/-! ===== the loop ===== -/
set_option maxHeartbeats 8000000 in
set_option maxRecDepth 100000 in
theorem law_loop {p : Program} {l : Launch} {e : Env} {s : State} {m : MethodId} {below : List Frame} {meth : Method} {c : Code} {G : Gl} {b L : Nat} {xs : Nat → Int32} (hl : l.stackTraces = false) (X : Lx p s m meth c G b L xs) : ∀ (n i : Nat), L + 6 ≤ i + 6 * n → i ≤ L → ∀ (al : Nat → Nat) (mk cs ss : Nat) (M : Mem) (S : Gs), CS mk S M → MS S M → GI S → mk ≤ 4 → cs ≤ 34 + 7 * mk + i → ss ≤ 32113 + 5011 * mk + i → Wa p l e room_1 s m #[Value.ref b] below meth c 7 G al mk cs ss (lw_Z below #[Value.ref b] s) M 23 (lwl al b i) [] := by
  have hL := X.2.2.2.2.2
  have hc0 : room_1.cells = 601024 := rfl
  have hs0 : room_1.slots = 7293034 := rfl
  intro n
  induction n with
  | zero =>
    intro i h1 h2
    omega
  | succ n ih =>
    intro i h1 h2 al mk cs ss M S hC hM hG hk hcs hss
    refine a_iload X.1 dL_law_23 4 rfl ?_
    refine a_aload_n X.1 dL_law_25 rfl 0 rfl ?_
    refine a_lslen X dL_law_26 ?_
    refine a_bipush (v := iI 6) X.1 dL_law_27 (by decide) ?_
    refine a_isub X.1 dL_law_29 ?_
    rw [iI_sub]
    refine a_icmp_gt (tgt := 2122) X.1 dL_law_30 (by decide) (fun z => ?_) (fun z => ?_)
    · refine a_iconst (v := 1) X.1 dL_law_2122 ic_1 ?_
      exact fun H locs ls hH hS hlv => va_forget (fun q hq => by have h9 := hS.2.2 q hq; rw [← X.2.2.2.1]; exact h9) (W.widen (k := 601024) (n := 7293034) (by omega) (by omega) (lw_ret X.1.1 X.1.2.1 X.1.2.2.2.2.1 X.1.2.2.2.2.2.1 dL_law_2123))
    · have hlt : i + 5 < L := by
        have h9 := mt (iI_lt (a := (L : Int) - 6) (b := i) (by omega) (by omega)).mpr z
        omega
      refine law_sw hl X hC hM hG hk hlt ⟨by omega, by omega⟩ (fun al' mk' cs' ss' S' M' q1 q2 q3 q4 q5 q6 q7 => ?_)
      refine a_iinc (v := iI ((i + 6 : Nat) : Int)) (lo' := [(4, .int (iI ((i + 6 : Nat) : Int))), (0, .ref b), (1, .ref (al' 0)), (2, .ref (al' 200)), (3, .ref (al' 300))]) X.1 dL_law_2116 4 rfl (by rw [show Int32.ofInt 6 = iI 6 from rfl, iI_add]; rfl) (by decide) rfl ?_
      refine a_goto (tgt := 23) X.1 dL_law_2119 (by decide) ?_
      refine a_sub (ks := [1, 2, 3, 4, 0]) (lo' := lwl al' b (i + 6)) rfl ?_
      exact ih (i + 6) (by omega) (by omega) al' mk' cs' ss' M' S' q5 q6 q7 q2 (by omega) (by omega)
