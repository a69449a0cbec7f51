/-! ===== WHAT HOLDS AT THE LAW'S ENTRY ===== -/
abbrev nwC : Cond := Jvm.Cond.and given_1 narrow_1
abbrev slX (i : Nat) : Term := .string (slO i) (slK i)
theorem nw_ex : ∀ i, i < 10 → Cond.exactly (slX i) RJ0 ∈ flatC nwC := by decide +kernel
theorem nw_co : ∀ i, i < 10 → Cond.eq (.field (slX i) RJ0 "code\x72" "B") (.int 0) ∈ flatC nwC := by decide +kernel
theorem nw_ar : ∀ i, i < 10 → Cond.arrayOf (.field (slX i) RJ0 "value" "[B") .byte ∈ flatC nwC := by decide +kernel
theorem nw_le : ∀ i, i < 10 → Cond.eq (.length (.field (slX i) RJ0 "value" "[B")) (.int (Int32.ofNat (slB i).length)) ∈ flatC nwC := by decide +kernel
theorem nw_el : ∀ i, i < 10 → ∀ j, j < (slB i).length → Cond.eq (.elem (.field (slX i) RJ0 "value" "[B") (.int (Int32.ofNat j))) (.int ((slB i).getD j 0)) ∈ flatC nwC := by decide +kernel
theorem nw_0 : Cond.eq (.static RJ0 "COMPACT_STRINGS" "Z") (.int 1) ∈ flatC nwC := by decide +kernel
theorem nw_1 : Cond.isRef (.static RJ3 "SIOOBE_FORMATTE\x52" "Ljava/util/function/BiFunction;") ∈ flatC nwC := by decide +kernel
theorem nw_2 : Cond.isRef (.static Bundle.tN "UNASSIGNED_STACK" Bundle.steD) ∈ flatC nwC := by decide +kernel
theorem nw_3 : Cond.isRef (.static Bundle.tN "SUPPRESSED_SENTINEL" Bundle.listD) ∈ flatC nwC := by decide +kernel
theorem nw_4 : Cond.exactly (.string RX3 290) RJ0 ∈ flatC nwC := by decide +kernel
theorem nw_5 : ∀ x ∈ nse_d, Cond.declares x ∈ nse_x := by decide +kernel
theorem sl_in : ∀ i, i < 10 → Cond.stringRef (slO i) (slK i) (slT i) ∈ lw_tbl := by
  intro i hi
  match i, hi with
  | 0, _ => exact mt1_4 (List.mem_of_getElem? (i := 36) (by decide +kernel))
  | 1, _ => exact mt2_0 (List.mem_of_getElem? (i := 26) (by decide +kernel))
  | 2, _ => exact mt2_0 (List.mem_of_getElem? (i := 35) (by decide +kernel))
  | 3, _ => exact mt2_0 (List.mem_of_getElem? (i := 17) (by decide +kernel))
  | 4, _ => exact mt2_1 (List.mem_of_getElem? (i := 0) (by decide +kernel))
  | 5, _ => exact mt5_1 (List.mem_of_getElem? (i := 22) (by decide +kernel))
  | 6, _ => exact mt5_2 (List.mem_of_getElem? (i := 10) (by decide +kernel))
  | 7, _ => exact mt5_2 (List.mem_of_getElem? (i := 19) (by decide +kernel))
  | 8, _ => exact mt5_1 (List.mem_of_getElem? (i := 37) (by decide +kernel))
  | 9, _ => exact mt5_2 (List.mem_of_getElem? (i := 24) (by decide +kernel))
set_option maxHeartbeats 4000000 in
set_option maxRecDepth 100000 in
theorem start_G {p : Program} {s : State} {m : MethodId} {meth : Method} {c : Code} {b L : Nat} {xs : Nat → Int32} (C0 : lw_At p s m meth c b L xs) : ∃ G : Gl, G.2.2.2.2 = s.heap.size ∧ Sx G s ∧ Sy G s ∧ va_AO "GapRows$Stream" s := by
  obtain ⟨hx, hb, hr, hml, hown, hts, hX, hbl, hlocks, hgv⟩ := C0
  have hs := flat_of_before _ hgv
  have hA : ∀ a : Nat, a < s.heap.size → ¬ (fun q : Nat => s.heap.size ≤ q) a := fun a h => Nat.not_le.mpr h
  obtain ⟨c0, i0, k0⟩ := u_known (C := RX0) (T := TX0) (N := 5) (n := 5) hts (fun w hw => (fw0.2.1 w hw).1) (hts (.instantiable RX0 5) (mt1_2 (List.mem_of_getElem? (i := 13) (by decide +kernel))))
  obtain ⟨c1, i1, k1⟩ := u_known (C := RX1) (T := TX1) (N := 6) (n := 6) hts (fun w hw => (fw1.2.1 w hw).1) (hts (.instantiable RX1 6) (mt2_1 (List.mem_of_getElem? (i := 17) (by decide +kernel))))
  obtain ⟨c2, i2, k2⟩ := u_known (C := RX2) (T := TX2) (N := 16) (n := 16) hts (fun w hw => (fw2.2.1 w hw).1) (hts (.instantiable RX2 16) (mt1_0 (List.mem_of_getElem? (i := 26) (by decide +kernel))))
  obtain ⟨c3, i3, k3⟩ := u_known (C := RX3) (T := TX3) (N := 10) (n := 10) hts (fun w hw => (fw3.2.1 w hw).1) (hts (.instantiable RX3 10) (mt1_0 (List.mem_of_getElem? (i := 18) (by decide +kernel))))
  obtain ⟨c4, i4, k4⟩ := u_known (C := RX4) (T := TX4) (N := 32) (n := 32) hts (fun w hw => (fw4.2.1 w hw).1) (hts (.instantiable RX4 32) (mt4_3 (List.mem_of_getElem? (i := 36) (by decide +kernel))))
  obtain ⟨aB, kB, oB, fB, hB, tB⟩ := Cond.arrayClass_spec (hts (.arrayClass .byte) (mt2_2 (List.mem_of_getElem? (i := 9) (by decide +kernel))))
  obtain ⟨aI, kI, oI, fI, hI, tI⟩ := Cond.arrayClass_spec (hts (.arrayClass .int) (mt1_2 (List.mem_of_getElem? (i := 9) (by decide +kernel))))
  obtain ⟨aL, kL, oL, fL, hL, tL⟩ := Cond.arrayClass_spec (hts (.arrayClass .long) (mt5_0 (List.mem_of_getElem? (i := 18) (by decide +kernel))))
  have hO := hts (.arrayOver (.object "GapRows$Stream")) (mt1_2 (List.mem_of_getElem? (i := 11) (by decide +kernel)))
  obtain ⟨oS, aS, kS, fS, -, hS, tS, nS⟩ := Cond.arrayOver_spec hO
  have h0 : ∀ i : Nat, ∃ q : Nat × Nat, i < 10 → (slX i).eval #[Value.ref b] s none [] s = some (.ref q.1) ∧ va_O RJ0 q.1 (fun q : Nat => s.heap.size ≤ q) s s.heap ∧ va_OF RJ0 "code\x72" "B" (.int 0) q.1 (fun q : Nat => s.heap.size ≤ q) s s.heap ∧ va_OF RJ0 "value" "[B" (.ref q.2) q.1 (fun q : Nat => s.heap.size ≤ q) s s.heap ∧ va_T .byte q.2 (slB i).length (fun j => .int ((slB i).getD j 0)) (fun q : Nat => s.heap.size ≤ q) s s.heap := by
    intro i
    by_cases hi : i < 10
    · obtain ⟨a, c, cA, kA, q1, q2, q3, q4, q5, q6, -⟩ := Cond.exactly_spec (args := #[Value.ref b]) (first := s) (o := none) (s := s) (idx := []) (t := slX i) (cls := RJ0) (hs _ (nw_ex i hi))
      obtain ⟨t, ht, hT⟩ := va_Tof (f := fun j => .int ((slB i).getD j 0)) (A := fun q : Nat => s.heap.size ≤ q) (sch_len i hi).1 (hs _ (nw_ar i hi)) (va_eqt (hs _ (nw_le i hi))) (fun j hj => va_eqt (hs _ (nw_el i hi j hj))) hA
      exact ⟨(a, t), fun _ => ⟨q1, ⟨cA, q3, q5, by rw [q6]; exact q2, hA a (Array.getElem?_eq_some_iff.mp q3).1⟩, vk_OFof q1 (va_eqt (hs _ (nw_co i hi))) hA, vk_OFof q1 ht hA, hT⟩⟩
    · exact ⟨(0, 0), fun h => absurd h hi⟩
  obtain ⟨ad, had⟩ := Classical.axiomOfChoice h0
  obtain ⟨a9, c9, cA9, kA9, q9, -⟩ := Cond.exactly_spec (args := #[Value.ref b]) (first := s) (o := none) (s := s) (idx := []) (t := .string RX3 290) (cls := RJ0) (hs _ nw_4)
  refine ⟨((fun k => if k = 0 then c0 else if k = 1 then c1 else if k = 2 then c2 else if k = 3 then c3 else c4, fun k => if k = 0 then i0 else if k = 1 then i1 else if k = 2 then i2 else if k = 3 then i3 else i4), (fun k => if k = 5 then aB else if k = 6 then aI else if k = 7 then aL else aS), fun i => (ad i).1, fun i => (ad i).2, s.heap.size), rfl, ⟨fun w hw hg a => word_at (State.WarmedH.refl s) (good_of_word hg) (hts w hw), ⟨?_, ?_⟩, fun i hi => (had i hi).2, fun i hi => vk_R.of (hts _ (sl_in i hi)) (had i hi).1, ?_, ?_, fun a i x h hm => va_Nw.of rfl (hts _ hm)⟩, ⟨fun x hx => va_Nw.of rfl (hts _ (nse_in _ (nw_5 x hx))), va_Nw.of rfl (hts (.castable "java/util/NoSuchElementException" "java/util/NoSuchElementException") (mt4_2 (List.mem_of_getElem? (i := 12) (by decide +kernel)))), ?_, ?_, a9, vk_R.of (hts (.stringRef RX3 290 "no such stream without values") (mt4_3 (List.mem_of_getElem? (i := 9) (by decide +kernel)))) q9⟩, va_AO.of hO⟩
  · intro k q hq
    match k, hq with
    | 0, hq => cases hq; exact k0
    | 1, hq => cases hq; exact k1
    | 2, hq => cases hq; exact k2
    | 3, hq => cases hq; exact k3
    | 4, hq => cases hq; exact k4
    | k + 5, hq => simp [vwCl] at hq
  · intro k q hq
    match k, hq with
    | 0, hq => cases hq; exact ⟨fun n z => ⟨fun k h => (by cases h), kB, hB, oB, tB⟩, fB⟩
    | 1, hq => cases hq; exact ⟨fun n z => ⟨fun k h => (by cases h), kI, hI, oI, tI⟩, fI⟩
    | 2, hq => cases hq; exact ⟨fun n z => ⟨fun k h => (by cases h), kL, hL, oL, tL⟩, fL⟩
    | 3, hq => cases hq; exact ⟨fun n z => ⟨fun k h => (by cases h), kS, hS, oS, tS⟩, kS, oS, hS, tS, fS, nS⟩
    | k + 4, hq => simp [tysOf] at hq
  · exact va_Zof (hts (.laysStatic RJ0 "COMPACT_STRINGS" "Z") (mt1_5 (List.mem_of_getElem? (i := 10) (by decide +kernel)))) (hts (.initialized RJ0) (mt1_0 (List.mem_of_getElem? (i := 6) (by decide +kernel)))) (va_eqt (hs _ nw_0)) hA
  · exact va_Zqof (hts (.laysStatic RJ3 "SIOOBE_FORMATTE\x52" "Ljava/util/function/BiFunction;") (mt1_5 (List.mem_of_getElem? (i := 26) (by decide +kernel)))) (hts (.initialized RJ3) (mt1_0 (List.mem_of_getElem? (i := 8) (by decide +kernel)))) (hs _ nw_1) hA
  · exact vx_Zqof (hts (.laysStatic Bundle.tN "UNASSIGNED_STACK" Bundle.steD) (mt4_2 (List.mem_of_getElem? (i := 37) (by decide +kernel)))) (hts (.initialized Bundle.tN) (mt1_0 (List.mem_of_getElem? (i := 13) (by decide +kernel)))) (hs _ nw_2) hA
  · exact vx_Zqof (hts (.laysStatic Bundle.tN "SUPPRESSED_SENTINEL" Bundle.listD) (mt4_2 (List.mem_of_getElem? (i := 39) (by decide +kernel)))) (hts (.initialized Bundle.tN) (mt1_0 (List.mem_of_getElem? (i := 13) (by decide +kernel)))) (hs _ nw_3) hA
