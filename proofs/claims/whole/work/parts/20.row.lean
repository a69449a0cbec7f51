variable {p : Program} {l : Launch} {e : Env} {s : State} {m : MethodId} {args : Array Value} {below : List Frame} {meth : Method} {c : Code} {G : Gl} {al : Nat → Nat} {mk : Nat}

abbrev rm_X3_bandOf : Room := { frames := 0, cells := 0, slots := 0, locals := 0 }
def wX3_bandOf_2 (Q : Int32 → Mem → Prop) (v0 : Int32) (v1 : Int32) : Nat → Mem → Int32 → Prop
  | 0, _, _ => False
  | n + 1, M, v2 => ((12 ≤ v2 → Q v2 M) ∧ (¬ 12 ≤ v2 → (((((v1 >>> (v2 &&& 31)) - 1) <<< (v2 &&& 31)) < v0 → Q v2 M) ∧ (¬ (((v1 >>> (v2 &&& 31)) - 1) <<< (v2 &&& 31)) < v0 → wX3_bandOf_2 Q v0 v1 n M (v2 + 1)))))
def wpX3_bandOf (M : Mem) (v0 : Int32) (v1 : Int32) (Q : Int32 → Mem → Prop) : Prop := ∃ n, wX3_bandOf_2 Q v0 v1 n M 0
set_option maxHeartbeats 4000000 in
set_option maxRecDepth 100000 in
theorem tX3_bandOf_2 (X : Cx p s m meth c G RX3 cX3_bandOf 3 (some .int)) {Q : Int32 → Mem → Prop} {v0 : Int32} {v1 : Int32} : ∀ (n : Nat) (M : Mem) (v2 : Int32), wX3_bandOf_2 Q v0 v1 n M v2 → Wa p l e rm_X3_bandOf s m args below meth c 3 G al mk 0 0 (MQ below (QI G al mk Q) args s 0 0 (gA G)) M 2 [(0, .int v0), (1, .int v1), (2, .int v2)] [] := by
  intro n
  induction n with
  | zero =>
    intro M v2 h
    exact False.elim h
  | succ n ih =>
    intro M v2 h
    rw [wX3_bandOf_2] at h
    refine a_iload_n X dX3_bandOf_2 rfl 2 rfl ?_
    refine a_bipush (v := 12) X dX3_bandOf_3 bc_12 ?_
    refine a_icmp_ge (tgt := 25) X dX3_bandOf_5 (by decide) (fun z => ?_) (fun z => ?_)
    · have h := h.1 z
      refine a_iload_n X dX3_bandOf_25 rfl 2 rfl ?_
      exact a_iret X h dX3_bandOf_26
    · have h := h.2 z
      refine a_iload_n X dX3_bandOf_8 rfl 0 rfl ?_
      refine a_iload_n X dX3_bandOf_9 rfl 1 rfl ?_
      refine a_iload_n X dX3_bandOf_10 rfl 2 rfl ?_
      refine a_ishr X dX3_bandOf_11 ?_
      refine a_iconst (v := 1) X dX3_bandOf_12 ic_1 ?_
      refine a_isub X dX3_bandOf_13 ?_
      refine a_iload_n X dX3_bandOf_14 rfl 2 rfl ?_
      refine a_ishl X dX3_bandOf_15 ?_
      refine a_icmp_gt (tgt := 25) X dX3_bandOf_16 (by decide) (fun z => ?_) (fun z => ?_)
      · have h := h.1 z
        refine a_iload_n X dX3_bandOf_25 rfl 2 rfl ?_
        exact a_iret X h dX3_bandOf_26
      · have h := h.2 z
        refine a_iinc (v := v2 + 1) (lo' := [(2, .int (v2 + 1)), (0, .int v0), (1, .int v1)]) X dX3_bandOf_19 2 rfl (ii_1 _) (by decide) rfl ?_
        refine a_goto (tgt := 2) X dX3_bandOf_22 (by decide) ?_
        refine a_sub (ks := [1, 2, 0]) (lo' := [(0, .int v0), (1, .int v1), (2, .int (v2 + 1))]) rfl ?_
        exact ih _ _ h
set_option maxHeartbeats 4000000 in
set_option maxRecDepth 100000 in
theorem cX3_bandOf_ok (l : Launch) {G : Gl} {al : Nat → Nat} {mk : Nat} {M : Mem} {v0 : Int32} {v1 : Int32} {Q : Int32 → Mem → Prop} (h : wpX3_bandOf M v0 v1 Q) : Kv l yX3_bandOf cX3_bandOf 3 (some .int) rm_X3_bandOf G al mk M [.int v0, .int v1] (QI G al mk Q) := by
  refine a_head (by decide) (Nat.le_of_ble_eq_true rfl) (fun p e s m below meth c X => ?_)
  have X : Cx p s m meth c G RX3 cX3_bandOf 3 (some .int) := X
  unfold wpX3_bandOf at h
  refine a_sub (ks := [0, 1]) (lo' := [(0, .int v0), (1, .int v1)]) rfl ?_
  refine a_iconst (v := 0) X dX3_bandOf_0 ic_0 ?_
  refine a_istore_n (lo' := [(2, .int 0), (0, .int v0), (1, .int v1)]) X dX3_bandOf_1 rfl (by decide) rfl ?_
  refine a_sub (ks := [1, 2, 0]) (lo' := [(0, .int v0), (1, .int v1), (2, .int 0)]) rfl ?_
  obtain ⟨n9, h⟩ := h
  exact tX3_bandOf_2 X n9 _ _ h
abbrev rm_X3_boundOf : Room := { frames := 1, cells := 0, slots := 0, locals := 21 }
def wpX3_boundOf (M : Mem) (v0 : Int32) (v1 : Int32) (Q : Int32 → Mem → Prop) : Prop := ((1 ≤ v1 → (¬ v1 = 0 ∧ Q (if 1 < ((2 * v0) / v1) then ((2 * v0) / v1) else 1) M)) ∧ (¬ 1 ≤ v1 → Q 1 M))
set_option maxHeartbeats 4000000 in
set_option maxRecDepth 100000 in
theorem cX3_boundOf_ok (l : Launch) {G : Gl} {al : Nat → Nat} {mk : Nat} {M : Mem} {v0 : Int32} {v1 : Int32} {Q : Int32 → Mem → Prop} (h : wpX3_boundOf M v0 v1 Q) : Kv l yX3_boundOf cX3_boundOf 2 (some .int) rm_X3_boundOf G al mk M [.int v0, .int v1] (QI G al mk Q) := by
  refine a_head (by decide) (Nat.le_of_ble_eq_true rfl) (fun p e s m below meth c X => ?_)
  have X : Cx p s m meth c G RX3 cX3_boundOf 2 (some .int) := X
  unfold wpX3_boundOf at h
  refine a_sub (ks := [0, 1]) (lo' := [(0, .int v0), (1, .int v1)]) rfl ?_
  refine a_iload_n X dX3_boundOf_0 rfl 1 rfl ?_
  refine a_iconst (v := 1) X dX3_boundOf_1 ic_1 ?_
  refine a_icmp_ge (tgt := 9) X dX3_boundOf_2 (by decide) (fun z => ?_) (fun z => ?_)
  · have h := h.1 z
    refine a_iconst (v := 1) X dX3_boundOf_9 ic_1 ?_
    refine a_iconst (v := 2) X dX3_boundOf_10 ic_2 ?_
    refine a_iload_n X dX3_boundOf_11 rfl 0 rfl ?_
    refine a_imul X dX3_boundOf_12 ?_
    refine a_iload_n X dX3_boundOf_13 rfl 1 rfl ?_
    refine a_idiv X dX3_boundOf_14 h.1 ?_
    have h := h.2
    refine a_mmax X mlX3_230 mm_max ⟨by decide, Nat.le_of_ble_eq_true rfl, Nat.le_refl _, Nat.le_refl _⟩ dX3_boundOf_15 ?_
    exact a_iret X h dX3_boundOf_18
  · have h := h.2 z
    refine a_iconst (v := 1) X dX3_boundOf_5 ic_1 ?_
    refine a_goto (tgt := 18) X dX3_boundOf_6 (by decide) ?_
    exact a_iret X h dX3_boundOf_18
abbrev rm_X3_isValue : Room := { frames := 0, cells := 0, slots := 0, locals := 0 }
def wpX3_isValue (M : Mem) (v0 : Int32) (Q : Int32 → Mem → Prop) : Prop := ((v0 < 0 → Q 0 M) ∧ (¬ v0 < 0 → ((1000 ≤ v0 → Q 0 M) ∧ (¬ 1000 ≤ v0 → Q 1 M))))
set_option maxHeartbeats 4000000 in
set_option maxRecDepth 100000 in
theorem cX3_isValue_ok (l : Launch) {G : Gl} {al : Nat → Nat} {mk : Nat} {M : Mem} {v0 : Int32} {Q : Int32 → Mem → Prop} (h : wpX3_isValue M v0 Q) : Kv l yX3_isValue cX3_isValue 1 (some .boolean) rm_X3_isValue G al mk M [.int v0] (QI G al mk Q) := by
  refine a_head (by decide) (Nat.le_of_ble_eq_true rfl) (fun p e s m below meth c X => ?_)
  have X : Cx p s m meth c G RX3 cX3_isValue 1 (some .boolean) := X
  unfold wpX3_isValue at h
  refine a_sub (ks := [0]) (lo' := [(0, .int v0)]) rfl ?_
  refine a_iload_n X dX3_isValue_0 rfl 0 rfl ?_
  refine a_if_lt (tgt := 15) X dX3_isValue_1 (by decide) (fun z => ?_) (fun z => ?_)
  · have h := h.1 z
    refine a_iconst (v := 0) X dX3_isValue_15 ic_0 ?_
    exact a_zret X (by decide) h dX3_isValue_16
  · have h := h.2 z
    refine a_iload_n X dX3_isValue_4 rfl 0 rfl ?_
    refine a_sipush (v := 1000) X dX3_isValue_5 sc_1000 ?_
    refine a_icmp_ge (tgt := 15) X dX3_isValue_8 (by decide) (fun z => ?_) (fun z => ?_)
    · have h := h.1 z
      refine a_iconst (v := 0) X dX3_isValue_15 ic_0 ?_
      exact a_zret X (by decide) h dX3_isValue_16
    · have h := h.2 z
      refine a_iconst (v := 1) X dX3_isValue_11 ic_1 ?_
      refine a_goto (tgt := 16) X dX3_isValue_12 (by decide) ?_
      exact a_zret X (by decide) h dX3_isValue_16
abbrev rm_X3_isShare : Room := { frames := 0, cells := 0, slots := 0, locals := 0 }
def wpX3_isShare (M : Mem) (v0 : Int32) (Q : Int32 → Mem → Prop) : Prop := ((v0 < 1 → Q 0 M) ∧ (¬ v0 < 1 → ((100 < v0 → Q 0 M) ∧ (¬ 100 < v0 → Q 1 M))))
set_option maxHeartbeats 4000000 in
set_option maxRecDepth 100000 in
theorem cX3_isShare_ok (l : Launch) {G : Gl} {al : Nat → Nat} {mk : Nat} {M : Mem} {v0 : Int32} {Q : Int32 → Mem → Prop} (h : wpX3_isShare M v0 Q) : Kv l yX3_isShare cX3_isShare 1 (some .boolean) rm_X3_isShare G al mk M [.int v0] (QI G al mk Q) := by
  refine a_head (by decide) (Nat.le_of_ble_eq_true rfl) (fun p e s m below meth c X => ?_)
  have X : Cx p s m meth c G RX3 cX3_isShare 1 (some .boolean) := X
  unfold wpX3_isShare at h
  refine a_sub (ks := [0]) (lo' := [(0, .int v0)]) rfl ?_
  refine a_iload_n X dX3_isShare_0 rfl 0 rfl ?_
  refine a_iconst (v := 1) X dX3_isShare_1 ic_1 ?_
  refine a_icmp_lt (tgt := 15) X dX3_isShare_2 (by decide) (fun z => ?_) (fun z => ?_)
  · have h := h.1 z
    refine a_iconst (v := 0) X dX3_isShare_15 ic_0 ?_
    exact a_zret X (by decide) h dX3_isShare_16
  · have h := h.2 z
    refine a_iload_n X dX3_isShare_5 rfl 0 rfl ?_
    refine a_bipush (v := 100) X dX3_isShare_6 bc_100 ?_
    refine a_icmp_gt (tgt := 15) X dX3_isShare_8 (by decide) (fun z => ?_) (fun z => ?_)
    · have h := h.1 z
      refine a_iconst (v := 0) X dX3_isShare_15 ic_0 ?_
      exact a_zret X (by decide) h dX3_isShare_16
    · have h := h.2 z
      refine a_iconst (v := 1) X dX3_isShare_11 ic_1 ?_
      refine a_goto (tgt := 16) X dX3_isShare_12 (by decide) ?_
      exact a_zret X (by decide) h dX3_isShare_16
abbrev rm_X3_isPlace : Room := { frames := 0, cells := 0, slots := 0, locals := 0 }
def wpX3_isPlace (M : Mem) (v0 : Nat) (v1 : Int32) (Q : Int32 → Mem → Prop) : Prop := ((v1 < 1 → Q 0 M) ∧ (¬ v1 < 1 → (((gI M v0 2) < v1 → Q 0 M) ∧ (¬ (gI M v0 2) < v1 → Q 1 M))))
set_option maxHeartbeats 4000000 in
set_option maxRecDepth 100000 in
theorem cX3_isPlace_ok (l : Launch) {G : Gl} {al : Nat → Nat} {mk : Nat} {M : Mem} {v0 : Nat} {v1 : Int32} {Q : Int32 → Mem → Prop} (i0 : Iz mk v0 (1, 0)) (h : wpX3_isPlace M v0 v1 Q) : Kv l yX3_isPlace cX3_isPlace 2 (some .boolean) rm_X3_isPlace G al mk M [.ref (al v0), .int v1] (QI G al mk Q) := by
  refine a_head (by decide) (Nat.le_of_ble_eq_true rfl) (fun p e s m below meth c X => ?_)
  have X : Cx p s m meth c G RX3 cX3_isPlace 2 (some .boolean) := X
  unfold wpX3_isPlace at h
  refine a_sub (ks := [0, 1]) (lo' := [(0, .ref (al v0)), (1, .int v1)]) rfl ?_
  refine a_iload_n X dX3_isPlace_0 rfl 1 rfl ?_
  refine a_iconst (v := 1) X dX3_isPlace_1 ic_1 ?_
  refine a_icmp_lt (tgt := 17) X dX3_isPlace_2 (by decide) (fun z => ?_) (fun z => ?_)
  · have h := h.1 z
    refine a_iconst (v := 0) X dX3_isPlace_17 ic_0 ?_
    exact a_zret X (by decide) h dX3_isPlace_18
  · have h := h.2 z
    refine a_iload_n X dX3_isPlace_5 rfl 1 rfl ?_
    refine a_aload_n X dX3_isPlace_6 rfl 0 rfl ?_
    refine a_getI (k := 2) X fw1 i0 rfl flX3_84 rfl dX3_isPlace_7 ?_
    refine a_icmp_gt (tgt := 17) X dX3_isPlace_10 (by decide) (fun z => ?_) (fun z => ?_)
    · have h := h.1 z
      refine a_iconst (v := 0) X dX3_isPlace_17 ic_0 ?_
      exact a_zret X (by decide) h dX3_isPlace_18
    · have h := h.2 z
      refine a_iconst (v := 1) X dX3_isPlace_13 ic_1 ?_
      refine a_goto (tgt := 18) X dX3_isPlace_14 (by decide) ?_
      exact a_zret X (by decide) h dX3_isPlace_18
abbrev rm_X0_lowAhead : Room := { frames := 0, cells := 0, slots := 0, locals := 0 }
def wpX0_lowAhead (M : Mem) (v0 : Nat) (v1 : Int32) (Q : Int32 → Mem → Prop) : Prop := ((v1 < 1 → Q 0 M) ∧ (¬ v1 < 1 → ((v1 ≤ 1000 → (vp_in (v1 - 1) 1000 ∧ Q (gI M (v0 + 2) (Int32.toNatClampNeg (v1 - 1))) M)) ∧ (¬ v1 ≤ 1000 → Q 0 M))))
set_option maxHeartbeats 4000000 in
set_option maxRecDepth 100000 in
theorem cX0_lowAhead_ok (l : Launch) {G : Gl} {al : Nat → Nat} {mk : Nat} {M : Mem} {v0 : Nat} {v1 : Int32} {Q : Int32 → Mem → Prop} (i0 : Iz mk v0 (0, 0)) (h : wpX0_lowAhead M v0 v1 Q) : Kv l yX0_lowAhead cX0_lowAhead 2 (some .int) rm_X0_lowAhead G al mk M [.ref (al v0), .int v1] (QI G al mk Q) := by
  refine a_head (by decide) (Nat.le_of_ble_eq_true rfl) (fun p e s m below meth c X => ?_)
  have X : Cx p s m meth c G RX0 cX0_lowAhead 2 (some .int) := X
  unfold wpX0_lowAhead at h
  refine a_sub (ks := [0, 1]) (lo' := [(0, .ref (al v0)), (1, .int v1)]) rfl ?_
  refine a_iload_n X dX0_lowAhead_0 rfl 1 rfl ?_
  refine a_iconst (v := 1) X dX0_lowAhead_1 ic_1 ?_
  refine a_icmp_lt (tgt := 12) X dX0_lowAhead_2 (by decide) (fun z => ?_) (fun z => ?_)
  · have h := h.1 z
    refine a_iconst (v := 0) X dX0_lowAhead_12 ic_0 ?_
    refine a_goto (tgt := 24) X dX0_lowAhead_13 (by decide) ?_
    exact a_iret X h dX0_lowAhead_24
  · have h := h.2 z
    refine a_iload_n X dX0_lowAhead_5 rfl 1 rfl ?_
    refine a_sipush (v := 1000) X dX0_lowAhead_6 sc_1000 ?_
    refine a_icmp_le (tgt := 16) X dX0_lowAhead_9 (by decide) (fun z => ?_) (fun z => ?_)
    · have h := h.1 z
      refine a_aload_n X dX0_lowAhead_16 rfl 0 rfl ?_
      refine a_getR (k := 1) X 2 (b := (v0 + 2)) fw0 i0 rfl rfl flX0_15 rfl dX0_lowAhead_17 ?_
      refine a_iload_n X dX0_lowAhead_20 rfl 1 rfl ?_
      refine a_iconst (v := 1) X dX0_lowAhead_21 ic_1 ?_
      refine a_isub X dX0_lowAhead_22 ?_
      refine a_iald X i0.row.2.1 h.1 dX0_lowAhead_23 ?_
      have h := h.2
      exact a_iret X h dX0_lowAhead_24
    · have h := h.2 z
      refine a_iconst (v := 0) X dX0_lowAhead_12 ic_0 ?_
      refine a_goto (tgt := 24) X dX0_lowAhead_13 (by decide) ?_
      exact a_iret X h dX0_lowAhead_24
abbrev rm_X0_places : Room := { frames := 1, cells := 0, slots := 0, locals := 21 }
def wpX0_places (M : Mem) (v0 : Nat) (Q : Int32 → Mem → Prop) : Prop := wpX0_lowAhead M v0 (gI M v0 4) (fun r_2 M_1 => Q r_2 M_1)
set_option maxHeartbeats 4000000 in
set_option maxRecDepth 100000 in
theorem cX0_places_ok (l : Launch) {G : Gl} {al : Nat → Nat} {mk : Nat} {M : Mem} {v0 : Nat} {Q : Int32 → Mem → Prop} (i0 : Iz mk v0 (0, 0)) (h : wpX0_places M v0 Q) : Kv l yX0_places cX0_places 1 (some .int) rm_X0_places G al mk M [.ref (al v0)] (QI G al mk Q) := by
  refine a_head (by decide) (Nat.le_of_ble_eq_true rfl) (fun p e s m below meth c X => ?_)
  have X : Cx p s m meth c G RX0 cX0_places 1 (some .int) := X
  unfold wpX0_places at h
  refine a_sub (ks := [0]) (lo' := [(0, .ref (al v0))]) rfl ?_
  refine a_aload_n X dX0_places_0 rfl 0 rfl ?_
  refine a_aload_n X dX0_places_1 rfl 0 rfl ?_
  refine a_getI (k := 4) X fw0 i0 rfl flX0_24 rfl dX0_places_2 ?_
  refine a_cVi (As := [.int (gI M v0 4)]) (st := []) X fw0 i0 (cX0_lowAhead_ok l i0 h) mlX0_28 mvX0_lowAhead (rz rfl) (Nat.le_of_ble_eq_true rfl) rfl dX0_places_5 (fun r_2 M_1 h => ?_)
  exact a_iret X h dX0_places_8
abbrev rm_X0_gap : Room := { frames := 1, cells := 0, slots := 0, locals := 21 }
def wpX0_gap (M : Mem) (v0 : Nat) (v1 : Int32) (Q : Int32 → Mem → Prop) : Prop := (vp_in v1 1000 ∧ wpX0_lowAhead M v0 v1 (fun r_2 M_1 => Q ((gI M (v0 + 2) (Int32.toNatClampNeg v1)) - r_2) M_1))
set_option maxHeartbeats 4000000 in
set_option maxRecDepth 100000 in
theorem cX0_gap_ok (l : Launch) {G : Gl} {al : Nat → Nat} {mk : Nat} {M : Mem} {v0 : Nat} {v1 : Int32} {Q : Int32 → Mem → Prop} (i0 : Iz mk v0 (0, 0)) (h : wpX0_gap M v0 v1 Q) : Kv l yX0_gap cX0_gap 2 (some .int) rm_X0_gap G al mk M [.ref (al v0), .int v1] (QI G al mk Q) := by
  refine a_head (by decide) (Nat.le_of_ble_eq_true rfl) (fun p e s m below meth c X => ?_)
  have X : Cx p s m meth c G RX0 cX0_gap 2 (some .int) := X
  unfold wpX0_gap at h
  refine a_sub (ks := [0, 1]) (lo' := [(0, .ref (al v0)), (1, .int v1)]) rfl ?_
  refine a_aload_n X dX0_gap_0 rfl 0 rfl ?_
  refine a_getR (k := 1) X 2 (b := (v0 + 2)) fw0 i0 rfl rfl flX0_15 rfl dX0_gap_1 ?_
  refine a_iload_n X dX0_gap_4 rfl 1 rfl ?_
  refine a_iald X i0.row.2.1 h.1 dX0_gap_5 ?_
  have h := h.2
  refine a_aload_n X dX0_gap_6 rfl 0 rfl ?_
  refine a_iload_n X dX0_gap_7 rfl 1 rfl ?_
  refine a_cVi (As := [.int v1]) (st := [.int (gI M (v0 + 2) (Int32.toNatClampNeg v1))]) X fw0 i0 (cX0_lowAhead_ok l i0 h) mlX0_28 mvX0_lowAhead (rz rfl) (Nat.le_of_ble_eq_true rfl) rfl dX0_gap_8 (fun r_2 M_1 h => ?_)
  refine a_isub X dX0_gap_11 ?_
  exact a_iret X h dX0_gap_12
abbrev rm_X0_high : Room := { frames := 0, cells := 0, slots := 0, locals := 0 }
def wpX0_high (M : Mem) (v0 : Nat) (v1 : Int32) (Q : Int32 → Mem → Prop) : Prop := (vp_in v1 1000 ∧ (vp_in v1 1000 ∧ Q ((gI M (v0 + 2) (Int32.toNatClampNeg v1)) + (gI M (v0 + 3) (Int32.toNatClampNeg v1))) M))
set_option maxHeartbeats 4000000 in
set_option maxRecDepth 100000 in
theorem cX0_high_ok (l : Launch) {G : Gl} {al : Nat → Nat} {mk : Nat} {M : Mem} {v0 : Nat} {v1 : Int32} {Q : Int32 → Mem → Prop} (i0 : Iz mk v0 (0, 0)) (h : wpX0_high M v0 v1 Q) : Kv l yX0_high cX0_high 2 (some .int) rm_X0_high G al mk M [.ref (al v0), .int v1] (QI G al mk Q) := by
  refine a_head (by decide) (Nat.le_of_ble_eq_true rfl) (fun p e s m below meth c X => ?_)
  have X : Cx p s m meth c G RX0 cX0_high 2 (some .int) := X
  unfold wpX0_high at h
  refine a_sub (ks := [0, 1]) (lo' := [(0, .ref (al v0)), (1, .int v1)]) rfl ?_
  refine a_aload_n X dX0_high_0 rfl 0 rfl ?_
  refine a_getR (k := 1) X 2 (b := (v0 + 2)) fw0 i0 rfl rfl flX0_15 rfl dX0_high_1 ?_
  refine a_iload_n X dX0_high_4 rfl 1 rfl ?_
  refine a_iald X i0.row.2.1 h.1 dX0_high_5 ?_
  have h := h.2
  refine a_aload_n X dX0_high_6 rfl 0 rfl ?_
  refine a_getR (k := 2) X 3 (b := (v0 + 3)) fw0 i0 rfl rfl flX0_18 rfl dX0_high_7 ?_
  refine a_iload_n X dX0_high_10 rfl 1 rfl ?_
  refine a_iald X i0.row.2.2.1 h.1 dX0_high_11 ?_
  have h := h.2
  refine a_iadd X dX0_high_12 ?_
  exact a_iret X h dX0_high_13
abbrev rm_X0_width : Room := { frames := 1, cells := 0, slots := 0, locals := 21 }
def wpX0_width (M : Mem) (v0 : Nat) (v1 : Int32) (Q : Int32 → Mem → Prop) : Prop := (vp_in v1 1000 ∧ wpX0_lowAhead M v0 v1 (fun r_2 M_1 => (vp_in v1 1000 ∧ Q (((gI M (v0 + 2) (Int32.toNatClampNeg v1)) - r_2) + (gI M_1 (v0 + 3) (Int32.toNatClampNeg v1))) M_1)))
set_option maxHeartbeats 4000000 in
set_option maxRecDepth 100000 in
theorem cX0_width_ok (l : Launch) {G : Gl} {al : Nat → Nat} {mk : Nat} {M : Mem} {v0 : Nat} {v1 : Int32} {Q : Int32 → Mem → Prop} (i0 : Iz mk v0 (0, 0)) (h : wpX0_width M v0 v1 Q) : Kv l yX0_width cX0_width 2 (some .int) rm_X0_width G al mk M [.ref (al v0), .int v1] (QI G al mk Q) := by
  refine a_head (by decide) (Nat.le_of_ble_eq_true rfl) (fun p e s m below meth c X => ?_)
  have X : Cx p s m meth c G RX0 cX0_width 2 (some .int) := X
  unfold wpX0_width at h
  refine a_sub (ks := [0, 1]) (lo' := [(0, .ref (al v0)), (1, .int v1)]) rfl ?_
  refine a_aload_n X dX0_width_0 rfl 0 rfl ?_
  refine a_getR (k := 1) X 2 (b := (v0 + 2)) fw0 i0 rfl rfl flX0_15 rfl dX0_width_1 ?_
  refine a_iload_n X dX0_width_4 rfl 1 rfl ?_
  refine a_iald X i0.row.2.1 h.1 dX0_width_5 ?_
  have h := h.2
  refine a_aload_n X dX0_width_6 rfl 0 rfl ?_
  refine a_iload_n X dX0_width_7 rfl 1 rfl ?_
  refine a_cVi (As := [.int v1]) (st := [.int (gI M (v0 + 2) (Int32.toNatClampNeg v1))]) X fw0 i0 (cX0_lowAhead_ok l i0 h) mlX0_28 mvX0_lowAhead (rz rfl) (Nat.le_of_ble_eq_true rfl) rfl dX0_width_8 (fun r_2 M_1 h => ?_)
  refine a_isub X dX0_width_11 ?_
  refine a_aload_n X dX0_width_12 rfl 0 rfl ?_
  refine a_getR (k := 2) X 3 (b := (v0 + 3)) fw0 i0 rfl rfl flX0_18 rfl dX0_width_13 ?_
  refine a_iload_n X dX0_width_16 rfl 1 rfl ?_
  refine a_iald X i0.row.2.2.1 h.1 dX0_width_17 ?_
  have h := h.2
  refine a_iadd X dX0_width_18 ?_
  exact a_iret X h dX0_width_19
abbrev rm_X0_widest : Room := { frames := 2, cells := 0, slots := 0, locals := 42 }
def wX0_widest_4 (Q : Int32 → Mem → Prop) (v0 : Nat) : Nat → Mem → Int32 → Int32 → Prop
  | 0, _, _, _ => False
  | n + 1, M, v1, v2 => (((gI M v0 4) ≤ v2 → Q v1 M) ∧ (¬ (gI M v0 4) ≤ v2 → wpX0_width M v0 v2 (fun r_2 M_1 => (∀ x_3 : Int32, x_3 = (if v1 < r_2 then r_2 else v1) → wX0_widest_4 Q v0 n M_1 x_3 (v2 + 1)))))
def wpX0_widest (M : Mem) (v0 : Nat) (Q : Int32 → Mem → Prop) : Prop := ∃ n, wX0_widest_4 Q v0 n M 0 0
set_option maxHeartbeats 4000000 in
set_option maxRecDepth 100000 in
theorem tX0_widest_4 (X : Cx p s m meth c G RX0 cX0_widest 3 (some .int)) {Q : Int32 → Mem → Prop} {v0 : Nat} (i0 : Iz mk v0 (0, 0)) : ∀ (n : Nat) (M : Mem) (v1 : Int32) (v2 : Int32), wX0_widest_4 Q v0 n M v1 v2 → Wa p l e rm_X0_widest s m args below meth c 3 G al mk 0 0 (MQ below (QI G al mk Q) args s 0 0 (gA G)) M 4 [(0, .ref (al v0)), (1, .int v1), (2, .int v2)] [] := by
  intro n
  induction n with
  | zero =>
    intro M v1 v2 h
    exact False.elim h
  | succ n ih =>
    intro M v1 v2 h
    rw [wX0_widest_4] at h
    refine a_iload_n X dX0_widest_4 rfl 2 rfl ?_
    refine a_aload_n X dX0_widest_5 rfl 0 rfl ?_
    refine a_getI (k := 4) X fw0 i0 rfl flX0_24 rfl dX0_widest_6 ?_
    refine a_icmp_ge (tgt := 28) X dX0_widest_9 (by decide) (fun z => ?_) (fun z => ?_)
    · have h := h.1 z
      refine a_iload_n X dX0_widest_28 rfl 1 rfl ?_
      exact a_iret X h dX0_widest_29
    · have h := h.2 z
      refine a_iload_n X dX0_widest_12 rfl 1 rfl ?_
      refine a_aload_n X dX0_widest_13 rfl 0 rfl ?_
      refine a_iload_n X dX0_widest_14 rfl 2 rfl ?_
      refine a_cVi (As := [.int v2]) (st := [.int v1]) X fw0 i0 (cX0_width_ok l i0 h) mlX0_32 mvX0_width (rz rfl) (Nat.le_of_ble_eq_true rfl) rfl dX0_widest_15 (fun r_2 M_1 h => ?_)
      refine a_mmax X mlX0_35 mm_max ⟨by decide, Nat.le_of_ble_eq_true rfl, Nat.le_refl _, Nat.le_refl _⟩ dX0_widest_18 ?_
      refine a_topi (fun x_3 ex_3 => ?_)
      have h := h x_3 ex_3
      refine a_istore_n (lo' := [(1, .int x_3), (0, .ref (al v0)), (2, .int v2)]) X dX0_widest_21 rfl (by decide) rfl ?_
      refine a_iinc (v := v2 + 1) (lo' := [(2, .int (v2 + 1)), (1, .int x_3), (0, .ref (al v0))]) X dX0_widest_22 2 rfl (ii_1 _) (by decide) rfl ?_
      refine a_goto (tgt := 4) X dX0_widest_25 (by decide) ?_
      refine a_sub (ks := [2, 1, 0]) (lo' := [(0, .ref (al v0)), (1, .int x_3), (2, .int (v2 + 1))]) rfl ?_
      exact ih _ _ _ h
set_option maxHeartbeats 4000000 in
set_option maxRecDepth 100000 in
theorem cX0_widest_ok (l : Launch) {G : Gl} {al : Nat → Nat} {mk : Nat} {M : Mem} {v0 : Nat} {Q : Int32 → Mem → Prop} (i0 : Iz mk v0 (0, 0)) (h : wpX0_widest M v0 Q) : Kv l yX0_widest cX0_widest 3 (some .int) rm_X0_widest G al mk M [.ref (al v0)] (QI G al mk Q) := by
  refine a_head (by decide) (Nat.le_of_ble_eq_true rfl) (fun p e s m below meth c X => ?_)
  have X : Cx p s m meth c G RX0 cX0_widest 3 (some .int) := X
  unfold wpX0_widest at h
  refine a_sub (ks := [0]) (lo' := [(0, .ref (al v0))]) rfl ?_
  refine a_iconst (v := 0) X dX0_widest_0 ic_0 ?_
  refine a_istore_n (lo' := [(1, .int 0), (0, .ref (al v0))]) X dX0_widest_1 rfl (by decide) rfl ?_
  refine a_iconst (v := 0) X dX0_widest_2 ic_0 ?_
  refine a_istore_n (lo' := [(2, .int 0), (1, .int 0), (0, .ref (al v0))]) X dX0_widest_3 rfl (by decide) rfl ?_
  refine a_sub (ks := [2, 1, 0]) (lo' := [(0, .ref (al v0)), (1, .int 0), (2, .int 0)]) rfl ?_
  obtain ⟨n9, h⟩ := h
  exact tX0_widest_4 X i0 n9 _ _ _ h
abbrev rm_X0_tuplesUpTo : Room := { frames := 0, cells := 0, slots := 0, locals := 0 }
def wX0_tuplesUpTo_6 (Q : Int32 → Mem → Prop) (v0 : Nat) (v1 : Int32) : Nat → Mem → Int32 → Int32 → Prop
  | 0, _, _, _ => False
  | n + 1, M, v2, v3 => ((v3 ≤ 0 → Q v2 M) ∧ (¬ v3 ≤ 0 → (((gI M v0 4) < (v2 + v3) → (∀ x_1 : Int32, x_1 = (v3 / 2) → wX0_tuplesUpTo_6 Q v0 v1 n M v2 x_1)) ∧ (¬ (gI M v0 4) < (v2 + v3) → (vp_in ((v2 + v3) - 1) 1000 ∧ ((v1 < (gI M (v0 + 1) (Int32.toNatClampNeg ((v2 + v3) - 1))) → (∀ x_2 : Int32, x_2 = (v3 / 2) → wX0_tuplesUpTo_6 Q v0 v1 n M v2 x_2)) ∧ (¬ v1 < (gI M (v0 + 1) (Int32.toNatClampNeg ((v2 + v3) - 1))) → (∀ x_3 : Int32, x_3 = (v2 + v3) → (∀ x_4 : Int32, x_4 = (v3 / 2) → wX0_tuplesUpTo_6 Q v0 v1 n M x_3 x_4)))))))))
def wpX0_tuplesUpTo (M : Mem) (v0 : Nat) (v1 : Int32) (Q : Int32 → Mem → Prop) : Prop := ∃ n, wX0_tuplesUpTo_6 Q v0 v1 n M 0 512
set_option maxHeartbeats 4000000 in
set_option maxRecDepth 100000 in
theorem tX0_tuplesUpTo_6 (X : Cx p s m meth c G RX0 cX0_tuplesUpTo 4 (some .int)) {Q : Int32 → Mem → Prop} {v0 : Nat} {v1 : Int32} (i0 : Iz mk v0 (0, 0)) : ∀ (n : Nat) (M : Mem) (v2 : Int32) (v3 : Int32), wX0_tuplesUpTo_6 Q v0 v1 n M v2 v3 → Wa p l e rm_X0_tuplesUpTo s m args below meth c 4 G al mk 0 0 (MQ below (QI G al mk Q) args s 0 0 (gA G)) M 6 [(0, .ref (al v0)), (1, .int v1), (2, .int v2), (3, .int v3)] [] := by
  intro n
  induction n with
  | zero =>
    intro M v2 v3 h
    exact False.elim h
  | succ n ih =>
    intro M v2 v3 h
    rw [wX0_tuplesUpTo_6] at h
    refine a_iload_n X dX0_tuplesUpTo_6 rfl 3 rfl ?_
    refine a_if_le (tgt := 45) X dX0_tuplesUpTo_7 (by decide) (fun z => ?_) (fun z => ?_)
    · have h := h.1 z
      refine a_iload_n X dX0_tuplesUpTo_45 rfl 2 rfl ?_
      exact a_iret X h dX0_tuplesUpTo_46
    · have h := h.2 z
      refine a_iload_n X dX0_tuplesUpTo_10 rfl 2 rfl ?_
      refine a_iload_n X dX0_tuplesUpTo_11 rfl 3 rfl ?_
      refine a_iadd X dX0_tuplesUpTo_12 ?_
      refine a_aload_n X dX0_tuplesUpTo_13 rfl 0 rfl ?_
      refine a_getI (k := 4) X fw0 i0 rfl flX0_24 rfl dX0_tuplesUpTo_14 ?_
      refine a_icmp_gt (tgt := 38) X dX0_tuplesUpTo_17 (by decide) (fun z => ?_) (fun z => ?_)
      · have h := h.1 z
        refine a_iload_n X dX0_tuplesUpTo_38 rfl 3 rfl ?_
        refine a_iconst (v := 2) X dX0_tuplesUpTo_39 ic_2 ?_
        refine a_idiv X dX0_tuplesUpTo_40 (by decide) ?_
        refine a_topi (fun x_1 ex_1 => ?_)
        have h := h x_1 ex_1
        refine a_istore_n (lo' := [(3, .int x_1), (0, .ref (al v0)), (1, .int v1), (2, .int v2)]) X dX0_tuplesUpTo_41 rfl (by decide) rfl ?_
        refine a_goto (tgt := 6) X dX0_tuplesUpTo_42 (by decide) ?_
        refine a_sub (ks := [1, 2, 3, 0]) (lo' := [(0, .ref (al v0)), (1, .int v1), (2, .int v2), (3, .int x_1)]) rfl ?_
        exact ih _ _ _ h
      · have h := h.2 z
        refine a_aload_n X dX0_tuplesUpTo_20 rfl 0 rfl ?_
        refine a_getR (k := 0) X 1 (b := (v0 + 1)) fw0 i0 rfl rfl flX0_9 rfl dX0_tuplesUpTo_21 ?_
        refine a_iload_n X dX0_tuplesUpTo_24 rfl 2 rfl ?_
        refine a_iload_n X dX0_tuplesUpTo_25 rfl 3 rfl ?_
        refine a_iadd X dX0_tuplesUpTo_26 ?_
        refine a_iconst (v := 1) X dX0_tuplesUpTo_27 ic_1 ?_
        refine a_isub X dX0_tuplesUpTo_28 ?_
        refine a_iald X i0.row.1 h.1 dX0_tuplesUpTo_29 ?_
        have h := h.2
        refine a_iload_n X dX0_tuplesUpTo_30 rfl 1 rfl ?_
        refine a_icmp_gt (tgt := 38) X dX0_tuplesUpTo_31 (by decide) (fun z => ?_) (fun z => ?_)
        · have h := h.1 z
          refine a_iload_n X dX0_tuplesUpTo_38 rfl 3 rfl ?_
          refine a_iconst (v := 2) X dX0_tuplesUpTo_39 ic_2 ?_
          refine a_idiv X dX0_tuplesUpTo_40 (by decide) ?_
          refine a_topi (fun x_2 ex_2 => ?_)
          have h := h x_2 ex_2
          refine a_istore_n (lo' := [(3, .int x_2), (0, .ref (al v0)), (1, .int v1), (2, .int v2)]) X dX0_tuplesUpTo_41 rfl (by decide) rfl ?_
          refine a_goto (tgt := 6) X dX0_tuplesUpTo_42 (by decide) ?_
          refine a_sub (ks := [1, 2, 3, 0]) (lo' := [(0, .ref (al v0)), (1, .int v1), (2, .int v2), (3, .int x_2)]) rfl ?_
          exact ih _ _ _ h
        · have h := h.2 z
          refine a_iload_n X dX0_tuplesUpTo_34 rfl 2 rfl ?_
          refine a_iload_n X dX0_tuplesUpTo_35 rfl 3 rfl ?_
          refine a_iadd X dX0_tuplesUpTo_36 ?_
          refine a_topi (fun x_3 ex_3 => ?_)
          have h := h x_3 ex_3
          refine a_istore_n (lo' := [(2, .int x_3), (0, .ref (al v0)), (1, .int v1), (3, .int v3)]) X dX0_tuplesUpTo_37 rfl (by decide) rfl ?_
          refine a_iload_n X dX0_tuplesUpTo_38 rfl 3 rfl ?_
          refine a_iconst (v := 2) X dX0_tuplesUpTo_39 ic_2 ?_
          refine a_idiv X dX0_tuplesUpTo_40 (by decide) ?_
          refine a_topi (fun x_4 ex_4 => ?_)
          have h := h x_4 ex_4
          refine a_istore_n (lo' := [(3, .int x_4), (2, .int x_3), (0, .ref (al v0)), (1, .int v1)]) X dX0_tuplesUpTo_41 rfl (by decide) rfl ?_
          refine a_goto (tgt := 6) X dX0_tuplesUpTo_42 (by decide) ?_
          refine a_sub (ks := [2, 3, 1, 0]) (lo' := [(0, .ref (al v0)), (1, .int v1), (2, .int x_3), (3, .int x_4)]) rfl ?_
          exact ih _ _ _ h
set_option maxHeartbeats 4000000 in
set_option maxRecDepth 100000 in
theorem cX0_tuplesUpTo_ok (l : Launch) {G : Gl} {al : Nat → Nat} {mk : Nat} {M : Mem} {v0 : Nat} {v1 : Int32} {Q : Int32 → Mem → Prop} (i0 : Iz mk v0 (0, 0)) (h : wpX0_tuplesUpTo M v0 v1 Q) : Kv l yX0_tuplesUpTo cX0_tuplesUpTo 4 (some .int) rm_X0_tuplesUpTo G al mk M [.ref (al v0), .int v1] (QI G al mk Q) := by
  refine a_head (by decide) (Nat.le_of_ble_eq_true rfl) (fun p e s m below meth c X => ?_)
  have X : Cx p s m meth c G RX0 cX0_tuplesUpTo 4 (some .int) := X
  unfold wpX0_tuplesUpTo at h
  refine a_sub (ks := [0, 1]) (lo' := [(0, .ref (al v0)), (1, .int v1)]) rfl ?_
  refine a_iconst (v := 0) X dX0_tuplesUpTo_0 ic_0 ?_
  refine a_istore_n (lo' := [(2, .int 0), (0, .ref (al v0)), (1, .int v1)]) X dX0_tuplesUpTo_1 rfl (by decide) rfl ?_
  refine a_sipush (v := 512) X dX0_tuplesUpTo_2 sc_512 ?_
  refine a_istore_n (lo' := [(3, .int 512), (2, .int 0), (0, .ref (al v0)), (1, .int v1)]) X dX0_tuplesUpTo_5 rfl (by decide) rfl ?_
  refine a_sub (ks := [2, 3, 1, 0]) (lo' := [(0, .ref (al v0)), (1, .int v1), (2, .int 0), (3, .int 512)]) rfl ?_
  obtain ⟨n9, h⟩ := h
  exact tX0_tuplesUpTo_6 X i0 n9 _ _ _ h
abbrev rm_X0_sureUpTo : Room := { frames := 1, cells := 0, slots := 0, locals := 23 }
def wpX0_sureUpTo (M : Mem) (v0 : Nat) (v1 : Int32) (Q : Int32 → Mem → Prop) : Prop := wpX0_tuplesUpTo M v0 v1 (fun r_2 M_1 => wpX0_lowAhead M_1 v0 r_2 (fun r_4 M_3 => Q r_4 M_3))
set_option maxHeartbeats 4000000 in
set_option maxRecDepth 100000 in
theorem cX0_sureUpTo_ok (l : Launch) {G : Gl} {al : Nat → Nat} {mk : Nat} {M : Mem} {v0 : Nat} {v1 : Int32} {Q : Int32 → Mem → Prop} (i0 : Iz mk v0 (0, 0)) (h : wpX0_sureUpTo M v0 v1 Q) : Kv l yX0_sureUpTo cX0_sureUpTo 2 (some .int) rm_X0_sureUpTo G al mk M [.ref (al v0), .int v1] (QI G al mk Q) := by
  refine a_head (by decide) (Nat.le_of_ble_eq_true rfl) (fun p e s m below meth c X => ?_)
  have X : Cx p s m meth c G RX0 cX0_sureUpTo 2 (some .int) := X
  unfold wpX0_sureUpTo at h
  refine a_sub (ks := [0, 1]) (lo' := [(0, .ref (al v0)), (1, .int v1)]) rfl ?_
  refine a_aload_n X dX0_sureUpTo_0 rfl 0 rfl ?_
  refine a_aload_n X dX0_sureUpTo_1 rfl 0 rfl ?_
  refine a_iload_n X dX0_sureUpTo_2 rfl 1 rfl ?_
  refine a_cVi (As := [.int v1]) (st := [.ref (al v0)]) X fw0 i0 (cX0_tuplesUpTo_ok l i0 h) mlX0_41 mvX0_tuplesUpTo (rz rfl) (Nat.le_of_ble_eq_true rfl) rfl dX0_sureUpTo_3 (fun r_2 M_1 h => ?_)
  refine a_cVi (As := [.int r_2]) (st := []) X fw0 i0 (cX0_lowAhead_ok l i0 h) mlX0_28 mvX0_lowAhead (rz rfl) (Nat.le_of_ble_eq_true rfl) rfl dX0_sureUpTo_6 (fun r_4 M_3 h => ?_)
  exact a_iret X h dX0_sureUpTo_9
abbrev rm_X0_mostUpTo : Room := { frames := 2, cells := 0, slots := 0, locals := 41 }
def wpX0_mostUpTo (M : Mem) (v0 : Nat) (v1 : Int32) (Q : Int32 → Mem → Prop) : Prop := wpX0_tuplesUpTo M v0 v1 (fun r_2 M_1 => (((gI M_1 v0 4) ≤ r_2 → wpX0_places M_1 v0 (fun r_4 M_3 => Q r_4 M_3)) ∧ (¬ (gI M_1 v0 4) ≤ r_2 → wpX0_high M_1 v0 r_2 (fun r_6 M_5 => Q (r_6 - 1) M_5))))
set_option maxHeartbeats 4000000 in
set_option maxRecDepth 100000 in
theorem cX0_mostUpTo_ok (l : Launch) {G : Gl} {al : Nat → Nat} {mk : Nat} {M : Mem} {v0 : Nat} {v1 : Int32} {Q : Int32 → Mem → Prop} (i0 : Iz mk v0 (0, 0)) (h : wpX0_mostUpTo M v0 v1 Q) : Kv l yX0_mostUpTo cX0_mostUpTo 3 (some .int) rm_X0_mostUpTo G al mk M [.ref (al v0), .int v1] (QI G al mk Q) := by
  refine a_head (by decide) (Nat.le_of_ble_eq_true rfl) (fun p e s m below meth c X => ?_)
  have X : Cx p s m meth c G RX0 cX0_mostUpTo 3 (some .int) := X
  unfold wpX0_mostUpTo at h
  refine a_sub (ks := [0, 1]) (lo' := [(0, .ref (al v0)), (1, .int v1)]) rfl ?_
  refine a_aload_n X dX0_mostUpTo_0 rfl 0 rfl ?_
  refine a_iload_n X dX0_mostUpTo_1 rfl 1 rfl ?_
  refine a_cVi (As := [.int v1]) (st := []) X fw0 i0 (cX0_tuplesUpTo_ok l i0 h) mlX0_41 mvX0_tuplesUpTo (rz rfl) (Nat.le_of_ble_eq_true rfl) rfl dX0_mostUpTo_2 (fun r_2 M_1 h => ?_)
  refine a_istore_n (lo' := [(2, .int r_2), (0, .ref (al v0)), (1, .int v1)]) X dX0_mostUpTo_5 rfl (by decide) rfl ?_
  refine a_iload_n X dX0_mostUpTo_6 rfl 0 rfl ?_
  refine a_aload_n X dX0_mostUpTo_7 rfl 1 rfl ?_
  refine a_getI (k := 4) X fw0 i0 rfl flX0_24 rfl dX0_mostUpTo_8 ?_
  refine a_icmp_ge (tgt := 24) X dX0_mostUpTo_11 (by decide) (fun z => ?_) (fun z => ?_)
  · have h := h.1 z
    refine a_aload_n X dX0_mostUpTo_24 rfl 1 rfl ?_
    refine a_cVi (As := []) (st := []) X fw0 i0 (cX0_places_ok l i0 h) mlX0_47 mvX0_places (rz rfl) (Nat.le_of_ble_eq_true rfl) rfl dX0_mostUpTo_25 (fun r_4 M_3 h => ?_)
    exact a_iret X h dX0_mostUpTo_28
  · have h := h.2 z
    refine a_aload_n X dX0_mostUpTo_14 rfl 1 rfl ?_
    refine a_iload_n X dX0_mostUpTo_15 rfl 0 rfl ?_
    refine a_cVi (As := [.int r_2]) (st := []) X fw0 i0 (cX0_high_ok l i0 h) mlX0_44 mvX0_high (rz rfl) (Nat.le_of_ble_eq_true rfl) rfl dX0_mostUpTo_16 (fun r_6 M_5 h => ?_)
    refine a_iconst (v := 1) X dX0_mostUpTo_19 ic_1 ?_
    refine a_isub X dX0_mostUpTo_20 ?_
    refine a_goto (tgt := 28) X dX0_mostUpTo_21 (by decide) ?_
    exact a_iret X h dX0_mostUpTo_28
abbrev rm_X0_countAbove : Room := { frames := 3, cells := 0, slots := 0, locals := 63 }
def wpX0_countAbove (M : Mem) (v0 : Nat) (v1 : Int32) (v2 : Int32) (v3 : Int32) (Q : Int32 → Mem → Prop) : Prop := ((v3 = 0 → wpX0_sureUpTo M v0 v2 (fun r_2 M_1 => wpX0_mostUpTo M_1 v0 v1 (fun r_4 M_3 => Q (if 0 < (r_2 - r_4) then (r_2 - r_4) else 0) M_3))) ∧ (¬ v3 = 0 → wpX0_mostUpTo M v0 v2 (fun r_6 M_5 => wpX0_sureUpTo M_5 v0 v1 (fun r_8 M_7 => Q (r_6 - r_8) M_7))))
set_option maxHeartbeats 4000000 in
set_option maxRecDepth 100000 in
theorem cX0_countAbove_ok (l : Launch) {G : Gl} {al : Nat → Nat} {mk : Nat} {M : Mem} {v0 : Nat} {v1 : Int32} {v2 : Int32} {v3 : Int32} {Q : Int32 → Mem → Prop} (i0 : Iz mk v0 (0, 0)) (h : wpX0_countAbove M v0 v1 v2 v3 Q) : Kv l yX0_countAbove cX0_countAbove 4 (some .int) rm_X0_countAbove G al mk M [.ref (al v0), .int v1, .int v2, .int v3] (QI G al mk Q) := by
  refine a_head (by decide) (Nat.le_of_ble_eq_true rfl) (fun p e s m below meth c X => ?_)
  have X : Cx p s m meth c G RX0 cX0_countAbove 4 (some .int) := X
  unfold wpX0_countAbove at h
  refine a_sub (ks := [0, 1, 2, 3]) (lo' := [(0, .ref (al v0)), (1, .int v1), (2, .int v2), (3, .int v3)]) rfl ?_
  refine a_iload_n X dX0_countAbove_0 rfl 3 rfl ?_
  refine a_if_eq (tgt := 16) X dX0_countAbove_1 (by decide) (fun z => ?_) (fun z => ?_)
  · have h := h.1 z
    refine a_iconst (v := 0) X dX0_countAbove_16 ic_0 ?_
    refine a_aload_n X dX0_countAbove_17 rfl 0 rfl ?_
    refine a_iload_n X dX0_countAbove_18 rfl 2 rfl ?_
    refine a_cVi (As := [.int v2]) (st := [.int 0]) X fw0 i0 (cX0_sureUpTo_ok l i0 h) mlX0_54 mvX0_sureUpTo (rz rfl) (Nat.le_of_ble_eq_true rfl) rfl dX0_countAbove_19 (fun r_2 M_1 h => ?_)
    refine a_aload_n X dX0_countAbove_22 rfl 0 rfl ?_
    refine a_iload_n X dX0_countAbove_23 rfl 1 rfl ?_
    refine a_cVi (As := [.int v1]) (st := [.int r_2, .int 0]) X fw0 i0 (cX0_mostUpTo_ok l i0 h) mlX0_51 mvX0_mostUpTo (rz rfl) (Nat.le_of_ble_eq_true rfl) rfl dX0_countAbove_24 (fun r_4 M_3 h => ?_)
    refine a_isub X dX0_countAbove_27 ?_
    refine a_mmax X mlX0_35 mm_max ⟨by decide, Nat.le_of_ble_eq_true rfl, Nat.le_refl _, Nat.le_refl _⟩ dX0_countAbove_28 ?_
    exact a_iret X h dX0_countAbove_31
  · have h := h.2 z
    refine a_aload_n X dX0_countAbove_4 rfl 0 rfl ?_
    refine a_iload_n X dX0_countAbove_5 rfl 2 rfl ?_
    refine a_cVi (As := [.int v2]) (st := []) X fw0 i0 (cX0_mostUpTo_ok l i0 h) mlX0_51 mvX0_mostUpTo (rz rfl) (Nat.le_of_ble_eq_true rfl) rfl dX0_countAbove_6 (fun r_6 M_5 h => ?_)
    refine a_aload_n X dX0_countAbove_9 rfl 0 rfl ?_
    refine a_iload_n X dX0_countAbove_10 rfl 1 rfl ?_
    refine a_cVi (As := [.int v1]) (st := [.int r_6]) X fw0 i0 (cX0_sureUpTo_ok l i0 h) mlX0_54 mvX0_sureUpTo (rz rfl) (Nat.le_of_ble_eq_true rfl) rfl dX0_countAbove_11 (fun r_8 M_7 h => ?_)
    refine a_isub X dX0_countAbove_14 ?_
    exact a_iret X h dX0_countAbove_15
abbrev rm_X0_endsAreTold : Room := { frames := 0, cells := 0, slots := 0, locals := 0 }
def wpX0_endsAreTold (M : Mem) (v0 : Nat) (Q : Int32 → Mem → Prop) : Prop := (vp_in 0 1000 ∧ ((¬ (gI M (v0 + 2) (Int32.toNatClampNeg 0)) = 1 → Q 0 M) ∧ ((gI M (v0 + 2) (Int32.toNatClampNeg 0)) = 1 → (vp_in 0 1000 ∧ ((¬ (gI M (v0 + 3) (Int32.toNatClampNeg 0)) = 0 → Q 0 M) ∧ ((gI M (v0 + 3) (Int32.toNatClampNeg 0)) = 0 → (((gI M v0 4) < 1 → Q 1 M) ∧ (¬ (gI M v0 4) < 1 → (vp_in ((gI M v0 4) - 1) 1000 ∧ ((¬ (gI M (v0 + 3) (Int32.toNatClampNeg ((gI M v0 4) - 1))) = 0 → Q 0 M) ∧ ((gI M (v0 + 3) (Int32.toNatClampNeg ((gI M v0 4) - 1))) = 0 → Q 1 M)))))))))))
set_option maxHeartbeats 4000000 in
set_option maxRecDepth 100000 in
theorem cX0_endsAreTold_ok (l : Launch) {G : Gl} {al : Nat → Nat} {mk : Nat} {M : Mem} {v0 : Nat} {Q : Int32 → Mem → Prop} (i0 : Iz mk v0 (0, 0)) (h : wpX0_endsAreTold M v0 Q) : Kv l yX0_endsAreTold cX0_endsAreTold 1 (some .boolean) rm_X0_endsAreTold G al mk M [.ref (al v0)] (QI G al mk Q) := by
  refine a_head (by decide) (Nat.le_of_ble_eq_true rfl) (fun p e s m below meth c X => ?_)
  have X : Cx p s m meth c G RX0 cX0_endsAreTold 1 (some .boolean) := X
  unfold wpX0_endsAreTold at h
  refine a_sub (ks := [0]) (lo' := [(0, .ref (al v0))]) rfl ?_
  refine a_aload_n X dX0_endsAreTold_0 rfl 0 rfl ?_
  refine a_getR (k := 1) X 2 (b := (v0 + 2)) fw0 i0 rfl rfl flX0_15 rfl dX0_endsAreTold_1 ?_
  refine a_iconst (v := 0) X dX0_endsAreTold_4 ic_0 ?_
  refine a_iald X i0.row.2.1 h.1 dX0_endsAreTold_5 ?_
  have h := h.2
  refine a_iconst (v := 1) X dX0_endsAreTold_6 ic_1 ?_
  refine a_icmp_ne (tgt := 45) X dX0_endsAreTold_7 (by decide) (fun z => ?_) (fun z => ?_)
  · have h := h.1 z
    refine a_iconst (v := 0) X dX0_endsAreTold_45 ic_0 ?_
    exact a_zret X (by decide) h dX0_endsAreTold_46
  · have h := h.2 z
    refine a_aload_n X dX0_endsAreTold_10 rfl 0 rfl ?_
    refine a_getR (k := 2) X 3 (b := (v0 + 3)) fw0 i0 rfl rfl flX0_18 rfl dX0_endsAreTold_11 ?_
    refine a_iconst (v := 0) X dX0_endsAreTold_14 ic_0 ?_
    refine a_iald X i0.row.2.2.1 h.1 dX0_endsAreTold_15 ?_
    have h := h.2
    refine a_if_ne (tgt := 45) X dX0_endsAreTold_16 (by decide) (fun z => ?_) (fun z => ?_)
    · have h := h.1 z
      refine a_iconst (v := 0) X dX0_endsAreTold_45 ic_0 ?_
      exact a_zret X (by decide) h dX0_endsAreTold_46
    · have h := h.2 z
      refine a_aload_n X dX0_endsAreTold_19 rfl 0 rfl ?_
      refine a_getI (k := 4) X fw0 i0 rfl flX0_24 rfl dX0_endsAreTold_20 ?_
      refine a_iconst (v := 1) X dX0_endsAreTold_23 ic_1 ?_
      refine a_icmp_lt (tgt := 41) X dX0_endsAreTold_24 (by decide) (fun z => ?_) (fun z => ?_)
      · have h := h.1 z
        refine a_iconst (v := 1) X dX0_endsAreTold_41 ic_1 ?_
        refine a_goto (tgt := 46) X dX0_endsAreTold_42 (by decide) ?_
        exact a_zret X (by decide) h dX0_endsAreTold_46
      · have h := h.2 z
        refine a_aload_n X dX0_endsAreTold_27 rfl 0 rfl ?_
        refine a_getR (k := 2) X 3 (b := (v0 + 3)) fw0 i0 rfl rfl flX0_18 rfl dX0_endsAreTold_28 ?_
        refine a_aload_n X dX0_endsAreTold_31 rfl 0 rfl ?_
        refine a_getI (k := 4) X fw0 i0 rfl flX0_24 rfl dX0_endsAreTold_32 ?_
        refine a_iconst (v := 1) X dX0_endsAreTold_35 ic_1 ?_
        refine a_isub X dX0_endsAreTold_36 ?_
        refine a_iald X i0.row.2.2.1 h.1 dX0_endsAreTold_37 ?_
        have h := h.2
        refine a_if_ne (tgt := 45) X dX0_endsAreTold_38 (by decide) (fun z => ?_) (fun z => ?_)
        · have h := h.1 z
          refine a_iconst (v := 0) X dX0_endsAreTold_45 ic_0 ?_
          exact a_zret X (by decide) h dX0_endsAreTold_46
        · have h := h.2 z
          refine a_iconst (v := 1) X dX0_endsAreTold_41 ic_1 ?_
          refine a_goto (tgt := 46) X dX0_endsAreTold_42 (by decide) ?_
          exact a_zret X (by decide) h dX0_endsAreTold_46
abbrev rm_X0_firstWrong : Room := { frames := 3, cells := 0, slots := 0, locals := 64 }
def wX0_firstWrong_37 (Q : Int32 → Mem → Prop) (v0 : Nat) (v1 : Int32) (v2 : Int32) : Nat → Mem → Int32 → Prop
  | 0, _, _ => False
  | n + 1, M, v3 => (((gI M v0 4) ≤ v3 → wpX0_places M v0 (fun r_2 M_1 => ((r_2 = v1 → wpX0_widest M_1 v0 (fun r_4 M_3 => ((r_4 ≤ v2 → (((gI M_3 v0 4) = 0 → Q 0 M_3) ∧ (¬ (gI M_3 v0 4) = 0 → wpX0_endsAreTold M_3 v0 (fun r_6 M_5 => ((r_6 = 0 → Q 5 M_5) ∧ (¬ r_6 = 0 → Q 0 M_5)))))) ∧ (¬ r_4 ≤ v2 → Q 4 M_3)))) ∧ (¬ r_2 = v1 → Q 3 M_1)))) ∧ (¬ (gI M v0 4) ≤ v3 → wpX0_gap M v0 v3 (fun r_8 M_7 => ((r_8 < 1 → Q 2 M_7) ∧ (¬ r_8 < 1 → (vp_in v3 1000 ∧ ((0 ≤ (gI M_7 (v0 + 3) (Int32.toNatClampNeg v3)) → wX0_firstWrong_37 Q v0 v1 v2 n M_7 (v3 + 1)) ∧ (¬ 0 ≤ (gI M_7 (v0 + 3) (Int32.toNatClampNeg v3)) → Q 2 M_7))))))))
def wX0_firstWrong_2 (Q : Int32 → Mem → Prop) (v0 : Nat) (v1 : Int32) (v2 : Int32) : Nat → Mem → Int32 → Prop
  | 0, _, _ => False
  | n + 1, M, v3 => (((gI M v0 4) ≤ v3 → ∃ n, wX0_firstWrong_37 Q v0 v1 v2 n M 0) ∧ (¬ (gI M v0 4) ≤ v3 → (vp_in v3 1000 ∧ (vp_in (v3 - 1) 1000 ∧ (((gI M (v0 + 1) (Int32.toNatClampNeg (v3 - 1))) ≤ (gI M (v0 + 1) (Int32.toNatClampNeg v3)) → wX0_firstWrong_2 Q v0 v1 v2 n M (v3 + 1)) ∧ (¬ (gI M (v0 + 1) (Int32.toNatClampNeg (v3 - 1))) ≤ (gI M (v0 + 1) (Int32.toNatClampNeg v3)) → Q 1 M))))))
def wpX0_firstWrong (M : Mem) (v0 : Nat) (v1 : Int32) (v2 : Int32) (Q : Int32 → Mem → Prop) : Prop := ∃ n, wX0_firstWrong_2 Q v0 v1 v2 n M 1
set_option maxHeartbeats 4000000 in
set_option maxRecDepth 100000 in
theorem tX0_firstWrong_37 (X : Cx p s m meth c G RX0 cX0_firstWrong 4 (some .int)) {Q : Int32 → Mem → Prop} {v0 : Nat} {v1 : Int32} {v2 : Int32} (i0 : Iz mk v0 (0, 0)) : ∀ (n : Nat) (M : Mem) (v3 : Int32), wX0_firstWrong_37 Q v0 v1 v2 n M v3 → Wa p l e rm_X0_firstWrong s m args below meth c 4 G al mk 0 0 (MQ below (QI G al mk Q) args s 0 0 (gA G)) M 37 [(0, .ref (al v0)), (1, .int v1), (2, .int v2), (3, .int v3)] [] := by
  intro n
  induction n with
  | zero =>
    intro M v3 h
    exact False.elim h
  | succ n ih =>
    intro M v3 h
    rw [wX0_firstWrong_37] at h
    refine a_iload_n X dX0_firstWrong_37 rfl 3 rfl ?_
    refine a_aload_n X dX0_firstWrong_38 rfl 0 rfl ?_
    refine a_getI (k := 4) X fw0 i0 rfl flX0_24 rfl dX0_firstWrong_39 ?_
    refine a_icmp_ge (tgt := 71) X dX0_firstWrong_42 (by decide) (fun z => ?_) (fun z => ?_)
    · have h := h.1 z
      refine a_aload_n X dX0_firstWrong_71 rfl 0 rfl ?_
      refine a_cVi (As := []) (st := []) X fw0 i0 (cX0_places_ok l i0 h) mlX0_47 mvX0_places (rz rfl) (Nat.le_of_ble_eq_true rfl) rfl dX0_firstWrong_72 (fun r_2 M_1 h => ?_)
      refine a_iload_n X dX0_firstWrong_75 rfl 1 rfl ?_
      refine a_icmp_eq (tgt := 81) X dX0_firstWrong_76 (by decide) (fun z => ?_) (fun z => ?_)
      · have h := h.1 z
        refine a_aload_n X dX0_firstWrong_81 rfl 0 rfl ?_
        refine a_cVi (As := []) (st := []) X fw0 i0 (cX0_widest_ok l i0 h) mlX0_60 mvX0_widest (rz rfl) (Nat.le_of_ble_eq_true rfl) rfl dX0_firstWrong_82 (fun r_4 M_3 h => ?_)
        refine a_iload_n X dX0_firstWrong_85 rfl 2 rfl ?_
        refine a_icmp_le (tgt := 91) X dX0_firstWrong_86 (by decide) (fun z => ?_) (fun z => ?_)
        · have h := h.1 z
          refine a_aload_n X dX0_firstWrong_91 rfl 0 rfl ?_
          refine a_getI (k := 4) X fw0 i0 rfl flX0_24 rfl dX0_firstWrong_92 ?_
          refine a_if_eq (tgt := 105) X dX0_firstWrong_95 (by decide) (fun z => ?_) (fun z => ?_)
          · have h := h.1 z
            refine a_iconst (v := 0) X dX0_firstWrong_105 ic_0 ?_
            refine a_goto (tgt := 110) X dX0_firstWrong_106 (by decide) ?_
            exact a_iret X h dX0_firstWrong_110
          · have h := h.2 z
            refine a_aload_n X dX0_firstWrong_98 rfl 0 rfl ?_
            refine a_cVi (As := []) (st := []) X fw0 i0 (cX0_endsAreTold_ok l i0 h) mlX0_63 mvX0_endsAreTold (rz rfl) (Nat.le_of_ble_eq_true rfl) rfl dX0_firstWrong_99 (fun r_6 M_5 h => ?_)
            refine a_if_eq (tgt := 109) X dX0_firstWrong_102 (by decide) (fun z => ?_) (fun z => ?_)
            · have h := h.1 z
              refine a_iconst (v := 5) X dX0_firstWrong_109 ic_5 ?_
              exact a_iret X h dX0_firstWrong_110
            · have h := h.2 z
              refine a_iconst (v := 0) X dX0_firstWrong_105 ic_0 ?_
              refine a_goto (tgt := 110) X dX0_firstWrong_106 (by decide) ?_
              exact a_iret X h dX0_firstWrong_110
        · have h := h.2 z
          refine a_iconst (v := 4) X dX0_firstWrong_89 ic_4 ?_
          exact a_iret X h dX0_firstWrong_90
      · have h := h.2 z
        refine a_iconst (v := 3) X dX0_firstWrong_79 ic_3 ?_
        exact a_iret X h dX0_firstWrong_80
    · have h := h.2 z
      refine a_aload_n X dX0_firstWrong_45 rfl 0 rfl ?_
      refine a_iload_n X dX0_firstWrong_46 rfl 3 rfl ?_
      refine a_cVi (As := [.int v3]) (st := []) X fw0 i0 (cX0_gap_ok l i0 h) mlX0_57 mvX0_gap (rz rfl) (Nat.le_of_ble_eq_true rfl) rfl dX0_firstWrong_47 (fun r_8 M_7 h => ?_)
      refine a_iconst (v := 1) X dX0_firstWrong_50 ic_1 ?_
      refine a_icmp_lt (tgt := 63) X dX0_firstWrong_51 (by decide) (fun z => ?_) (fun z => ?_)
      · have h := h.1 z
        refine a_iconst (v := 2) X dX0_firstWrong_63 ic_2 ?_
        exact a_iret X h dX0_firstWrong_64
      · have h := h.2 z
        refine a_aload_n X dX0_firstWrong_54 rfl 0 rfl ?_
        refine a_getR (k := 2) X 3 (b := (v0 + 3)) fw0 i0 rfl rfl flX0_18 rfl dX0_firstWrong_55 ?_
        refine a_iload_n X dX0_firstWrong_58 rfl 3 rfl ?_
        refine a_iald X i0.row.2.2.1 h.1 dX0_firstWrong_59 ?_
        have h := h.2
        refine a_if_ge (tgt := 65) X dX0_firstWrong_60 (by decide) (fun z => ?_) (fun z => ?_)
        · have h := h.1 z
          refine a_iinc (v := v3 + 1) (lo' := [(3, .int (v3 + 1)), (0, .ref (al v0)), (1, .int v1), (2, .int v2)]) X dX0_firstWrong_65 3 rfl (ii_1 _) (by decide) rfl ?_
          refine a_goto (tgt := 37) X dX0_firstWrong_68 (by decide) ?_
          refine a_sub (ks := [1, 2, 3, 0]) (lo' := [(0, .ref (al v0)), (1, .int v1), (2, .int v2), (3, .int (v3 + 1))]) rfl ?_
          exact ih _ _ h
        · have h := h.2 z
          refine a_iconst (v := 2) X dX0_firstWrong_63 ic_2 ?_
          exact a_iret X h dX0_firstWrong_64
set_option maxHeartbeats 4000000 in
set_option maxRecDepth 100000 in
theorem tX0_firstWrong_2 (X : Cx p s m meth c G RX0 cX0_firstWrong 4 (some .int)) {Q : Int32 → Mem → Prop} {v0 : Nat} {v1 : Int32} {v2 : Int32} (i0 : Iz mk v0 (0, 0)) : ∀ (n : Nat) (M : Mem) (v3 : Int32), wX0_firstWrong_2 Q v0 v1 v2 n M v3 → Wa p l e rm_X0_firstWrong s m args below meth c 4 G al mk 0 0 (MQ below (QI G al mk Q) args s 0 0 (gA G)) M 2 [(0, .ref (al v0)), (1, .int v1), (2, .int v2), (3, .int v3)] [] := by
  intro n
  induction n with
  | zero =>
    intro M v3 h
    exact False.elim h
  | succ n ih =>
    intro M v3 h
    rw [wX0_firstWrong_2] at h
    refine a_iload_n X dX0_firstWrong_2 rfl 3 rfl ?_
    refine a_aload_n X dX0_firstWrong_3 rfl 0 rfl ?_
    refine a_getI (k := 4) X fw0 i0 rfl flX0_24 rfl dX0_firstWrong_4 ?_
    refine a_icmp_ge (tgt := 35) X dX0_firstWrong_7 (by decide) (fun z => ?_) (fun z => ?_)
    · have h := h.1 z
      refine a_iconst (v := 0) X dX0_firstWrong_35 ic_0 ?_
      refine a_istore_n (lo' := [(3, .int 0), (0, .ref (al v0)), (1, .int v1), (2, .int v2)]) X dX0_firstWrong_36 rfl (by decide) rfl ?_
      refine a_sub (ks := [1, 2, 3, 0]) (lo' := [(0, .ref (al v0)), (1, .int v1), (2, .int v2), (3, .int 0)]) rfl ?_
      obtain ⟨n9, h⟩ := h
      exact tX0_firstWrong_37 X i0 n9 _ _ h
    · have h := h.2 z
      refine a_aload_n X dX0_firstWrong_10 rfl 0 rfl ?_
      refine a_getR (k := 0) X 1 (b := (v0 + 1)) fw0 i0 rfl rfl flX0_9 rfl dX0_firstWrong_11 ?_
      refine a_iload_n X dX0_firstWrong_14 rfl 3 rfl ?_
      refine a_iald X i0.row.1 h.1 dX0_firstWrong_15 ?_
      have h := h.2
      refine a_aload_n X dX0_firstWrong_16 rfl 0 rfl ?_
      refine a_getR (k := 0) X 1 (b := (v0 + 1)) fw0 i0 rfl rfl flX0_9 rfl dX0_firstWrong_17 ?_
      refine a_iload_n X dX0_firstWrong_20 rfl 3 rfl ?_
      refine a_iconst (v := 1) X dX0_firstWrong_21 ic_1 ?_
      refine a_isub X dX0_firstWrong_22 ?_
      refine a_iald X i0.row.1 h.1 dX0_firstWrong_23 ?_
      have h := h.2
      refine a_icmp_ge (tgt := 29) X dX0_firstWrong_24 (by decide) (fun z => ?_) (fun z => ?_)
      · have h := h.1 z
        refine a_iinc (v := v3 + 1) (lo' := [(3, .int (v3 + 1)), (0, .ref (al v0)), (1, .int v1), (2, .int v2)]) X dX0_firstWrong_29 3 rfl (ii_1 _) (by decide) rfl ?_
        refine a_goto (tgt := 2) X dX0_firstWrong_32 (by decide) ?_
        refine a_sub (ks := [1, 2, 3, 0]) (lo' := [(0, .ref (al v0)), (1, .int v1), (2, .int v2), (3, .int (v3 + 1))]) rfl ?_
        exact ih _ _ h
      · have h := h.2 z
        refine a_iconst (v := 1) X dX0_firstWrong_27 ic_1 ?_
        exact a_iret X h dX0_firstWrong_28
set_option maxHeartbeats 4000000 in
set_option maxRecDepth 100000 in
theorem cX0_firstWrong_ok (l : Launch) {G : Gl} {al : Nat → Nat} {mk : Nat} {M : Mem} {v0 : Nat} {v1 : Int32} {v2 : Int32} {Q : Int32 → Mem → Prop} (i0 : Iz mk v0 (0, 0)) (h : wpX0_firstWrong M v0 v1 v2 Q) : Kv l yX0_firstWrong cX0_firstWrong 4 (some .int) rm_X0_firstWrong G al mk M [.ref (al v0), .int v1, .int v2] (QI G al mk Q) := by
  refine a_head (by decide) (Nat.le_of_ble_eq_true rfl) (fun p e s m below meth c X => ?_)
  have X : Cx p s m meth c G RX0 cX0_firstWrong 4 (some .int) := X
  unfold wpX0_firstWrong at h
  refine a_sub (ks := [0, 1, 2]) (lo' := [(0, .ref (al v0)), (1, .int v1), (2, .int v2)]) rfl ?_
  refine a_iconst (v := 1) X dX0_firstWrong_0 ic_1 ?_
  refine a_istore_n (lo' := [(3, .int 1), (0, .ref (al v0)), (1, .int v1), (2, .int v2)]) X dX0_firstWrong_1 rfl (by decide) rfl ?_
  refine a_sub (ks := [1, 2, 3, 0]) (lo' := [(0, .ref (al v0)), (1, .int v1), (2, .int v2), (3, .int 1)]) rfl ?_
  obtain ⟨n9, h⟩ := h
  exact tX0_firstWrong_2 X i0 n9 _ _ h
abbrev rm_X0_spreadAhead : Room := { frames := 2, cells := 0, slots := 0, locals := 42 }
def wpX0_spreadAhead (M : Mem) (v0 : Nat) (v1 : Int32) (Q : Int32 → Mem → Prop) : Prop := ((v1 ≤ 0 → Q 0 M) ∧ (¬ v1 ≤ 0 → ((v1 < (gI M v0 4) → wpX0_width M v0 v1 (fun r_2 M_1 => Q (r_2 - 1) M_1)) ∧ (¬ v1 < (gI M v0 4) → Q 0 M))))
set_option maxHeartbeats 4000000 in
set_option maxRecDepth 100000 in
theorem cX0_spreadAhead_ok (l : Launch) {G : Gl} {al : Nat → Nat} {mk : Nat} {M : Mem} {v0 : Nat} {v1 : Int32} {Q : Int32 → Mem → Prop} (i0 : Iz mk v0 (0, 0)) (h : wpX0_spreadAhead M v0 v1 Q) : Kv l yX0_spreadAhead cX0_spreadAhead 2 (some .int) rm_X0_spreadAhead G al mk M [.ref (al v0), .int v1] (QI G al mk Q) := by
  refine a_head (by decide) (Nat.le_of_ble_eq_true rfl) (fun p e s m below meth c X => ?_)
  have X : Cx p s m meth c G RX0 cX0_spreadAhead 2 (some .int) := X
  unfold wpX0_spreadAhead at h
  refine a_sub (ks := [0, 1]) (lo' := [(0, .ref (al v0)), (1, .int v1)]) rfl ?_
  refine a_iload_n X dX0_spreadAhead_0 rfl 1 rfl ?_
  refine a_if_le (tgt := 12) X dX0_spreadAhead_1 (by decide) (fun z => ?_) (fun z => ?_)
  · have h := h.1 z
    refine a_iconst (v := 0) X dX0_spreadAhead_12 ic_0 ?_
    refine a_goto (tgt := 23) X dX0_spreadAhead_13 (by decide) ?_
    exact a_iret X h dX0_spreadAhead_23
  · have h := h.2 z
    refine a_iload_n X dX0_spreadAhead_4 rfl 1 rfl ?_
    refine a_aload_n X dX0_spreadAhead_5 rfl 0 rfl ?_
    refine a_getI (k := 4) X fw0 i0 rfl flX0_24 rfl dX0_spreadAhead_6 ?_
    refine a_icmp_lt (tgt := 16) X dX0_spreadAhead_9 (by decide) (fun z => ?_) (fun z => ?_)
    · have h := h.1 z
      refine a_aload_n X dX0_spreadAhead_16 rfl 0 rfl ?_
      refine a_iload_n X dX0_spreadAhead_17 rfl 1 rfl ?_
      refine a_cVi (As := [.int v1]) (st := []) X fw0 i0 (cX0_width_ok l i0 h) mlX0_32 mvX0_width (rz rfl) (Nat.le_of_ble_eq_true rfl) rfl dX0_spreadAhead_18 (fun r_2 M_1 h => ?_)
      refine a_iconst (v := 1) X dX0_spreadAhead_21 ic_1 ?_
      refine a_isub X dX0_spreadAhead_22 ?_
      exact a_iret X h dX0_spreadAhead_23
    · have h := h.2 z
      refine a_iconst (v := 0) X dX0_spreadAhead_12 ic_0 ?_
      refine a_goto (tgt := 23) X dX0_spreadAhead_13 (by decide) ?_
      exact a_iret X h dX0_spreadAhead_23
abbrev rm_X0_insert : Room := { frames := 3, cells := 0, slots := 0, locals := 63 }
def wX0_insert_71 (Q : Mem → Prop) (v0 : Nat) (v1 : Int32) (v2 : Int32) (v3 : Int32) : Nat → Mem → Int32 → Prop
  | 0, _, _ => False
  | n + 1, M, v4 => ((v4 ≤ v2 → (vp_in v2 1000 ∧ ∀ M_8 : Mem, M_8 = pI M (v0 + 1) (Int32.toNatClampNeg v2) v1 → (vp_in v2 1000 ∧ ∀ M_9 : Mem, M_9 = pI M_8 (v0 + 3) (Int32.toNatClampNeg v2) v3 → wpX0_lowAhead M_9 v0 v2 (fun r_11 M_10 => (vp_in v2 1000 ∧ ∀ M_12 : Mem, M_12 = pI M_10 (v0 + 2) (Int32.toNatClampNeg v2) (r_11 + 1) → (∀ M_13 : Mem, M_13 = pI M_12 v0 4 ((gI M_12 v0 4) + 1) → Q M_13)))))) ∧ (¬ v4 ≤ v2 → (vp_in (v4 - 1) 1000 ∧ (vp_in v4 1000 ∧ ∀ M_14 : Mem, M_14 = pI M (v0 + 2) (Int32.toNatClampNeg v4) ((gI M (v0 + 2) (Int32.toNatClampNeg (v4 - 1))) + 1) → wX0_insert_71 Q v0 v1 v2 v3 n M_14 (v4 + (-1))))))
def wpX0_insert (M : Mem) (v0 : Nat) (v1 : Int32) (Q : Mem → Prop) : Prop := (((gI M v0 4) < 1000 → wpX0_tuplesUpTo M v0 v1 (fun r_2 M_1 => wpX0_spreadAhead M_1 v0 r_2 (fun r_4 M_3 => (¬ r_2 < 0 ∧ ¬ (r_2 + 1) < 0 ∧ ¬ ((gI M_3 v0 4) - r_2) < 0 ∧ Int32.toNatClampNeg r_2 + Int32.toNatClampNeg ((gI M_3 v0 4) - r_2) ≤ 1000 ∧ Int32.toNatClampNeg (r_2 + 1) + Int32.toNatClampNeg ((gI M_3 v0 4) - r_2) ≤ 1000 ∧ ∀ M_5 : Mem, M_5 = pF M_3 (v0 + 1) (va_cpy (Prod.fst M_3 (v0 + 1)) (Prod.fst M_3 (v0 + 1)) (Int32.toNatClampNeg r_2) (Int32.toNatClampNeg (r_2 + 1)) (Int32.toNatClampNeg ((gI M_3 v0 4) - r_2))) → (¬ r_2 < 0 ∧ ¬ (r_2 + 1) < 0 ∧ ¬ ((gI M_5 v0 4) - r_2) < 0 ∧ Int32.toNatClampNeg r_2 + Int32.toNatClampNeg ((gI M_5 v0 4) - r_2) ≤ 1000 ∧ Int32.toNatClampNeg (r_2 + 1) + Int32.toNatClampNeg ((gI M_5 v0 4) - r_2) ≤ 1000 ∧ ∀ M_6 : Mem, M_6 = pF M_5 (v0 + 3) (va_cpy (Prod.fst M_5 (v0 + 3)) (Prod.fst M_5 (v0 + 3)) (Int32.toNatClampNeg r_2) (Int32.toNatClampNeg (r_2 + 1)) (Int32.toNatClampNeg ((gI M_5 v0 4) - r_2))) → (∀ x_7 : Int32, x_7 = (gI M_6 v0 4) → ∃ n, wX0_insert_71 Q v0 v1 r_2 r_4 n M_6 x_7)))))) ∧ (¬ (gI M v0 4) < 1000 → Q M))
set_option maxHeartbeats 4000000 in
set_option maxRecDepth 100000 in
theorem tX0_insert_71 (X : Cx p s m meth c G RX0 cX0_insert 5 none) {Q : Mem → Prop} {v0 : Nat} {v1 : Int32} {v2 : Int32} {v3 : Int32} (i0 : Iz mk v0 (0, 0)) : ∀ (n : Nat) (M : Mem) (v4 : Int32), wX0_insert_71 Q v0 v1 v2 v3 n M v4 → Wa p l e rm_X0_insert s m args below meth c 5 G al mk 0 0 (MQ below (QV G al mk Q) args s 0 0 (gA G)) M 71 [(0, .ref (al v0)), (1, .int v1), (2, .int v2), (3, .int v3), (4, .int v4)] [] := by
  intro n
  induction n with
  | zero =>
    intro M v4 h
    exact False.elim h
  | succ n ih =>
    intro M v4 h
    rw [wX0_insert_71] at h
    refine a_iload X dX0_insert_71 4 rfl ?_
    refine a_iload_n X dX0_insert_73 rfl 2 rfl ?_
    refine a_icmp_le (tgt := 101) X dX0_insert_74 (by decide) (fun z => ?_) (fun z => ?_)
    · have h := h.1 z
      refine a_aload_n X dX0_insert_101 rfl 0 rfl ?_
      refine a_getR (k := 0) X 1 (b := (v0 + 1)) fw0 i0 rfl rfl flX0_9 rfl dX0_insert_102 ?_
      refine a_iload_n X dX0_insert_105 rfl 2 rfl ?_
      refine a_iload_n X dX0_insert_106 rfl 1 rfl ?_
      refine a_iast X i0.row.1 h.1 dX0_insert_107 (fun M_8 eM_8 => ?_)
      have h := h.2 M_8 eM_8
      refine a_aload_n X dX0_insert_108 rfl 0 rfl ?_
      refine a_getR (k := 2) X 3 (b := (v0 + 3)) fw0 i0 rfl rfl flX0_18 rfl dX0_insert_109 ?_
      refine a_iload_n X dX0_insert_112 rfl 2 rfl ?_
      refine a_iload_n X dX0_insert_113 rfl 3 rfl ?_
      refine a_iast X i0.row.2.2.1 h.1 dX0_insert_114 (fun M_9 eM_9 => ?_)
      have h := h.2 M_9 eM_9
      refine a_aload_n X dX0_insert_115 rfl 0 rfl ?_
      refine a_getR (k := 1) X 2 (b := (v0 + 2)) fw0 i0 rfl rfl flX0_15 rfl dX0_insert_116 ?_
      refine a_iload_n X dX0_insert_119 rfl 2 rfl ?_
      refine a_aload_n X dX0_insert_120 rfl 0 rfl ?_
      refine a_iload_n X dX0_insert_121 rfl 2 rfl ?_
      refine a_cVi (As := [.int v2]) (st := [.int v2, .ref (al (v0 + 2))]) X fw0 i0 (cX0_lowAhead_ok l i0 h) mlX0_28 mvX0_lowAhead (rz rfl) (Nat.le_of_ble_eq_true rfl) rfl dX0_insert_122 (fun r_11 M_10 h => ?_)
      refine a_iconst (v := 1) X dX0_insert_125 ic_1 ?_
      refine a_iadd X dX0_insert_126 ?_
      refine a_iast X i0.row.2.1 h.1 dX0_insert_127 (fun M_12 eM_12 => ?_)
      have h := h.2 M_12 eM_12
      refine a_aload_n X dX0_insert_128 rfl 0 rfl ?_
      refine a_dup X dX0_insert_129 rfl ?_
      refine a_getI (k := 4) X fw0 i0 rfl flX0_24 rfl dX0_insert_130 ?_
      refine a_iconst (v := 1) X dX0_insert_133 ic_1 ?_
      refine a_iadd X dX0_insert_134 ?_
      refine a_putI (k := 4) X fw0 i0 rfl flX0_24 rfl rfl dX0_insert_135 (fun M_13 eM_13 => ?_)
      have h := h M_13 eM_13
      exact a_vret X h dX0_insert_138
    · have h := h.2 z
      refine a_aload_n X dX0_insert_77 rfl 0 rfl ?_
      refine a_getR (k := 1) X 2 (b := (v0 + 2)) fw0 i0 rfl rfl flX0_15 rfl dX0_insert_78 ?_
      refine a_iload X dX0_insert_81 4 rfl ?_
      refine a_aload_n X dX0_insert_83 rfl 0 rfl ?_
      refine a_getR (k := 1) X 2 (b := (v0 + 2)) fw0 i0 rfl rfl flX0_15 rfl dX0_insert_84 ?_
      refine a_iload X dX0_insert_87 4 rfl ?_
      refine a_iconst (v := 1) X dX0_insert_89 ic_1 ?_
      refine a_isub X dX0_insert_90 ?_
      refine a_iald X i0.row.2.1 h.1 dX0_insert_91 ?_
      have h := h.2
      refine a_iconst (v := 1) X dX0_insert_92 ic_1 ?_
      refine a_iadd X dX0_insert_93 ?_
      refine a_iast X i0.row.2.1 h.1 dX0_insert_94 (fun M_14 eM_14 => ?_)
      have h := h.2 M_14 eM_14
      refine a_iinc (v := v4 + (-1)) (lo' := [(4, .int (v4 + (-1))), (0, .ref (al v0)), (1, .int v1), (2, .int v2), (3, .int v3)]) X dX0_insert_95 4 rfl (ii_m1 _) (by decide) rfl ?_
      refine a_goto (tgt := 71) X dX0_insert_98 (by decide) ?_
      refine a_sub (ks := [1, 2, 3, 4, 0]) (lo' := [(0, .ref (al v0)), (1, .int v1), (2, .int v2), (3, .int v3), (4, .int (v4 + (-1)))]) rfl ?_
      exact ih _ _ h
set_option maxHeartbeats 4000000 in
set_option maxRecDepth 100000 in
theorem cX0_insert_ok (l : Launch) {G : Gl} {al : Nat → Nat} {mk : Nat} {M : Mem} {v0 : Nat} {v1 : Int32} {Q : Mem → Prop} (i0 : Iz mk v0 (0, 0)) (h : wpX0_insert M v0 v1 Q) : Kv l yX0_insert cX0_insert 5 none rm_X0_insert G al mk M [.ref (al v0), .int v1] (QV G al mk Q) := by
  refine a_head (by decide) (Nat.le_of_ble_eq_true rfl) (fun p e s m below meth c X => ?_)
  have X : Cx p s m meth c G RX0 cX0_insert 5 none := X
  unfold wpX0_insert at h
  refine a_sub (ks := [0, 1]) (lo' := [(0, .ref (al v0)), (1, .int v1)]) rfl ?_
  refine a_aload_n X dX0_insert_0 rfl 0 rfl ?_
  refine a_getI (k := 4) X fw0 i0 rfl flX0_24 rfl dX0_insert_1 ?_
  refine a_sipush (v := 1000) X dX0_insert_4 sc_1000 ?_
  refine a_icmp_lt (tgt := 11) X dX0_insert_7 (by decide) (fun z => ?_) (fun z => ?_)
  · have h := h.1 z
    refine a_aload_n X dX0_insert_11 rfl 0 rfl ?_
    refine a_iload_n X dX0_insert_12 rfl 1 rfl ?_
    refine a_cVi (As := [.int v1]) (st := []) X fw0 i0 (cX0_tuplesUpTo_ok l i0 h) mlX0_41 mvX0_tuplesUpTo (rz rfl) (Nat.le_of_ble_eq_true rfl) rfl dX0_insert_13 (fun r_2 M_1 h => ?_)
    refine a_istore_n (lo' := [(2, .int r_2), (0, .ref (al v0)), (1, .int v1)]) X dX0_insert_16 rfl (by decide) rfl ?_
    refine a_aload_n X dX0_insert_17 rfl 1 rfl ?_
    refine a_iload_n X dX0_insert_18 rfl 0 rfl ?_
    refine a_cVi (As := [.int r_2]) (st := []) X fw0 i0 (cX0_spreadAhead_ok l i0 h) mlX0_67 mvX0_spreadAhead (rz rfl) (Nat.le_of_ble_eq_true rfl) rfl dX0_insert_19 (fun r_4 M_3 h => ?_)
    refine a_istore_n (lo' := [(3, .int r_4), (2, .int r_2), (0, .ref (al v0)), (1, .int v1)]) X dX0_insert_22 rfl (by decide) rfl ?_
    refine a_aload_n X dX0_insert_23 rfl 2 rfl ?_
    refine a_getR (k := 0) X 1 (b := (v0 + 1)) fw0 i0 rfl rfl flX0_9 rfl dX0_insert_24 ?_
    refine a_iload_n X dX0_insert_27 rfl 1 rfl ?_
    refine a_aload_n X dX0_insert_28 rfl 2 rfl ?_
    refine a_getR (k := 0) X 1 (b := (v0 + 1)) fw0 i0 rfl rfl flX0_9 rfl dX0_insert_29 ?_
    refine a_iload_n X dX0_insert_32 rfl 1 rfl ?_
    refine a_iconst (v := 1) X dX0_insert_33 ic_1 ?_
    refine a_iadd X dX0_insert_34 ?_
    refine a_aload_n X dX0_insert_35 rfl 2 rfl ?_
    refine a_getI (k := 4) X fw0 i0 rfl flX0_24 rfl dX0_insert_36 ?_
    refine a_iload_n X dX0_insert_39 rfl 1 rfl ?_
    refine a_isub X dX0_insert_40 ?_
    refine a_copy X mlX0_70 mm_copy i0.row.1 i0.row.1 h.1 h.2.1 h.2.2.1 h.2.2.2.1 h.2.2.2.2.1 ⟨by decide, by decide +kernel⟩ dX0_insert_41 (fun M_5 eM_5 => ?_)
    have h := h.2.2.2.2.2 M_5 eM_5
    refine a_aload_n X dX0_insert_44 rfl 2 rfl ?_
    refine a_getR (k := 2) X 3 (b := (v0 + 3)) fw0 i0 rfl rfl flX0_18 rfl dX0_insert_45 ?_
    refine a_iload_n X dX0_insert_48 rfl 1 rfl ?_
    refine a_aload_n X dX0_insert_49 rfl 2 rfl ?_
    refine a_getR (k := 2) X 3 (b := (v0 + 3)) fw0 i0 rfl rfl flX0_18 rfl dX0_insert_50 ?_
    refine a_iload_n X dX0_insert_53 rfl 1 rfl ?_
    refine a_iconst (v := 1) X dX0_insert_54 ic_1 ?_
    refine a_iadd X dX0_insert_55 ?_
    refine a_aload_n X dX0_insert_56 rfl 2 rfl ?_
    refine a_getI (k := 4) X fw0 i0 rfl flX0_24 rfl dX0_insert_57 ?_
    refine a_iload_n X dX0_insert_60 rfl 1 rfl ?_
    refine a_isub X dX0_insert_61 ?_
    refine a_copy X mlX0_70 mm_copy i0.row.2.2.1 i0.row.2.2.1 h.1 h.2.1 h.2.2.1 h.2.2.2.1 h.2.2.2.2.1 ⟨by decide, by decide +kernel⟩ dX0_insert_62 (fun M_6 eM_6 => ?_)
    have h := h.2.2.2.2.2 M_6 eM_6
    refine a_aload_n X dX0_insert_65 rfl 2 rfl ?_
    refine a_getI (k := 4) X fw0 i0 rfl flX0_24 rfl dX0_insert_66 ?_
    refine a_topi (fun x_7 ex_7 => ?_)
    have h := h x_7 ex_7
    refine a_istore (lo' := [(4, .int x_7), (3, .int r_4), (2, .int r_2), (0, .ref (al v0)), (1, .int v1)]) X dX0_insert_69 (by decide) rfl ?_
    refine a_sub (ks := [3, 4, 2, 1, 0]) (lo' := [(0, .ref (al v0)), (1, .int v1), (2, .int r_2), (3, .int r_4), (4, .int x_7)]) rfl ?_
    obtain ⟨n9, h⟩ := h
    exact tX0_insert_71 X i0 n9 _ _ h
  · have h := h.2 z
    exact a_vret X h dX0_insert_10
abbrev rm_X0_copyOf : Room := { frames := 1, cells := 0, slots := 0, locals := 48 }
def wpX0_copyOf (M : Mem) (v0 : Nat) (v1 : Nat) (Q : Mem → Prop) : Prop := (∀ M_1 : Mem, M_1 = pI M v0 4 (gI M v1 4) → (¬ (0 : Int32) < 0 ∧ ¬ (0 : Int32) < 0 ∧ ¬ (gI M_1 v0 4) < 0 ∧ Int32.toNatClampNeg (0 : Int32) + Int32.toNatClampNeg (gI M_1 v0 4) ≤ 1000 ∧ Int32.toNatClampNeg (0 : Int32) + Int32.toNatClampNeg (gI M_1 v0 4) ≤ 1000 ∧ ∀ M_2 : Mem, M_2 = pF M_1 (v0 + 1) (va_cpy (Prod.fst M_1 (v1 + 1)) (Prod.fst M_1 (v0 + 1)) (Int32.toNatClampNeg (0 : Int32)) (Int32.toNatClampNeg (0 : Int32)) (Int32.toNatClampNeg (gI M_1 v0 4))) → (¬ (0 : Int32) < 0 ∧ ¬ (0 : Int32) < 0 ∧ ¬ (gI M_2 v0 4) < 0 ∧ Int32.toNatClampNeg (0 : Int32) + Int32.toNatClampNeg (gI M_2 v0 4) ≤ 1000 ∧ Int32.toNatClampNeg (0 : Int32) + Int32.toNatClampNeg (gI M_2 v0 4) ≤ 1000 ∧ ∀ M_3 : Mem, M_3 = pF M_2 (v0 + 2) (va_cpy (Prod.fst M_2 (v1 + 2)) (Prod.fst M_2 (v0 + 2)) (Int32.toNatClampNeg (0 : Int32)) (Int32.toNatClampNeg (0 : Int32)) (Int32.toNatClampNeg (gI M_2 v0 4))) → (¬ (0 : Int32) < 0 ∧ ¬ (0 : Int32) < 0 ∧ ¬ (gI M_3 v0 4) < 0 ∧ Int32.toNatClampNeg (0 : Int32) + Int32.toNatClampNeg (gI M_3 v0 4) ≤ 1000 ∧ Int32.toNatClampNeg (0 : Int32) + Int32.toNatClampNeg (gI M_3 v0 4) ≤ 1000 ∧ ∀ M_4 : Mem, M_4 = pF M_3 (v0 + 3) (va_cpy (Prod.fst M_3 (v1 + 3)) (Prod.fst M_3 (v0 + 3)) (Int32.toNatClampNeg (0 : Int32)) (Int32.toNatClampNeg (0 : Int32)) (Int32.toNatClampNeg (gI M_3 v0 4))) → Q M_4))))
set_option maxHeartbeats 4000000 in
set_option maxRecDepth 100000 in
theorem cX0_copyOf_ok (l : Launch) {G : Gl} {al : Nat → Nat} {mk : Nat} {M : Mem} {v0 : Nat} {v1 : Nat} {Q : Mem → Prop} (i0 : Iz mk v0 (0, 0)) (i1 : Iz mk v1 (0, 0)) (h : wpX0_copyOf M v0 v1 Q) : Kv l yX0_copyOf cX0_copyOf 2 none rm_X0_copyOf G al mk M [.ref (al v0), .ref (al v1)] (QV G al mk Q) := by
  refine a_head (by decide) (Nat.le_of_ble_eq_true rfl) (fun p e s m below meth c X => ?_)
  have X : Cx p s m meth c G RX0 cX0_copyOf 2 none := X
  unfold wpX0_copyOf at h
  refine a_sub (ks := [0, 1]) (lo' := [(0, .ref (al v0)), (1, .ref (al v1))]) rfl ?_
  refine a_aload_n X dX0_copyOf_0 rfl 0 rfl ?_
  refine a_aload_n X dX0_copyOf_1 rfl 1 rfl ?_
  refine a_getI (k := 4) X fw0 i1 rfl flX0_24 rfl dX0_copyOf_2 ?_
  refine a_putI (k := 4) X fw0 i0 rfl flX0_24 rfl rfl dX0_copyOf_5 (fun M_1 eM_1 => ?_)
  have h := h M_1 eM_1
  refine a_aload_n X dX0_copyOf_8 rfl 1 rfl ?_
  refine a_getR (k := 0) X 1 (b := (v1 + 1)) fw0 i1 rfl rfl flX0_9 rfl dX0_copyOf_9 ?_
  refine a_iconst (v := 0) X dX0_copyOf_12 ic_0 ?_
  refine a_aload_n X dX0_copyOf_13 rfl 0 rfl ?_
  refine a_getR (k := 0) X 1 (b := (v0 + 1)) fw0 i0 rfl rfl flX0_9 rfl dX0_copyOf_14 ?_
  refine a_iconst (v := 0) X dX0_copyOf_17 ic_0 ?_
  refine a_aload_n X dX0_copyOf_18 rfl 0 rfl ?_
  refine a_getI (k := 4) X fw0 i0 rfl flX0_24 rfl dX0_copyOf_19 ?_
  refine a_copy X mlX0_70 mm_copy i1.row.1 i0.row.1 h.1 h.2.1 h.2.2.1 h.2.2.2.1 h.2.2.2.2.1 ⟨by decide, by decide +kernel⟩ dX0_copyOf_22 (fun M_2 eM_2 => ?_)
  have h := h.2.2.2.2.2 M_2 eM_2
  refine a_aload_n X dX0_copyOf_25 rfl 1 rfl ?_
  refine a_getR (k := 1) X 2 (b := (v1 + 2)) fw0 i1 rfl rfl flX0_15 rfl dX0_copyOf_26 ?_
  refine a_iconst (v := 0) X dX0_copyOf_29 ic_0 ?_
  refine a_aload_n X dX0_copyOf_30 rfl 0 rfl ?_
  refine a_getR (k := 1) X 2 (b := (v0 + 2)) fw0 i0 rfl rfl flX0_15 rfl dX0_copyOf_31 ?_
  refine a_iconst (v := 0) X dX0_copyOf_34 ic_0 ?_
  refine a_aload_n X dX0_copyOf_35 rfl 0 rfl ?_
  refine a_getI (k := 4) X fw0 i0 rfl flX0_24 rfl dX0_copyOf_36 ?_
  refine a_copy X mlX0_70 mm_copy i1.row.2.1 i0.row.2.1 h.1 h.2.1 h.2.2.1 h.2.2.2.1 h.2.2.2.2.1 ⟨by decide, by decide +kernel⟩ dX0_copyOf_39 (fun M_3 eM_3 => ?_)
  have h := h.2.2.2.2.2 M_3 eM_3
  refine a_aload_n X dX0_copyOf_42 rfl 1 rfl ?_
  refine a_getR (k := 2) X 3 (b := (v1 + 3)) fw0 i1 rfl rfl flX0_18 rfl dX0_copyOf_43 ?_
  refine a_iconst (v := 0) X dX0_copyOf_46 ic_0 ?_
  refine a_aload_n X dX0_copyOf_47 rfl 0 rfl ?_
  refine a_getR (k := 2) X 3 (b := (v0 + 3)) fw0 i0 rfl rfl flX0_18 rfl dX0_copyOf_48 ?_
  refine a_iconst (v := 0) X dX0_copyOf_51 ic_0 ?_
  refine a_aload_n X dX0_copyOf_52 rfl 0 rfl ?_
  refine a_getI (k := 4) X fw0 i0 rfl flX0_24 rfl dX0_copyOf_53 ?_
  refine a_copy X mlX0_70 mm_copy i1.row.2.2.1 i0.row.2.2.1 h.1 h.2.1 h.2.2.1 h.2.2.2.1 h.2.2.2.2.1 ⟨by decide, by decide +kernel⟩ dX0_copyOf_56 (fun M_4 eM_4 => ?_)
  have h := h.2.2.2.2.2 M_4 eM_4
  exact a_vret X h dX0_copyOf_59
abbrev rm_X0_joinTuple : Room := { frames := 2, cells := 0, slots := 0, locals := 42 }
def wpX0_joinTuple (M : Mem) (v0 : Nat) (v1 : Int32) (v2 : Nat) (v3 : Int32) (v4 : Nat) (v5 : Int32) (Q : Mem → Prop) : Prop := (vp_in v3 1000 ∧ (vp_in v1 1000 ∧ ∀ M_1 : Mem, M_1 = pI M (v0 + 1) (Int32.toNatClampNeg v1) (gI M (v2 + 1) (Int32.toNatClampNeg v3)) → (vp_in v3 1000 ∧ wpX0_lowAhead M_1 v4 v5 (fun r_3 M_2 => (vp_in v1 1000 ∧ ∀ M_4 : Mem, M_4 = pI M_2 (v0 + 2) (Int32.toNatClampNeg v1) ((gI M_1 (v2 + 2) (Int32.toNatClampNeg v3)) + r_3) → (vp_in v3 1000 ∧ (((gI M_4 v4 4) ≤ v5 → (vp_in v1 1000 ∧ ∀ M_5 : Mem, M_5 = pI M_4 (v0 + 3) (Int32.toNatClampNeg v1) ((gI M_4 (v2 + 3) (Int32.toNatClampNeg v3)) + 0) → Q M_5)) ∧ (¬ (gI M_4 v4 4) ≤ v5 → wpX0_width M_4 v4 v5 (fun r_7 M_6 => (vp_in v1 1000 ∧ ∀ M_8 : Mem, M_8 = pI M_6 (v0 + 3) (Int32.toNatClampNeg v1) ((gI M_4 (v2 + 3) (Int32.toNatClampNeg v3)) + (r_7 - 1)) → Q M_8))))))))))
set_option maxHeartbeats 4000000 in
set_option maxRecDepth 100000 in
theorem cX0_joinTuple_ok (l : Launch) {G : Gl} {al : Nat → Nat} {mk : Nat} {M : Mem} {v0 : Nat} {v1 : Int32} {v2 : Nat} {v3 : Int32} {v4 : Nat} {v5 : Int32} {Q : Mem → Prop} (i0 : Iz mk v0 (0, 0)) (i2 : Iz mk v2 (0, 0)) (i4 : Iz mk v4 (0, 0)) (h : wpX0_joinTuple M v0 v1 v2 v3 v4 v5 Q) : Kv l yX0_joinTuple cX0_joinTuple 6 none rm_X0_joinTuple G al mk M [.ref (al v0), .int v1, .ref (al v2), .int v3, .ref (al v4), .int v5] (QV G al mk Q) := by
  refine a_head (by decide) (Nat.le_of_ble_eq_true rfl) (fun p e s m below meth c X => ?_)
  have X : Cx p s m meth c G RX0 cX0_joinTuple 6 none := X
  unfold wpX0_joinTuple at h
  refine a_sub (ks := [0, 1, 2, 3, 4, 5]) (lo' := [(0, .ref (al v0)), (1, .int v1), (2, .ref (al v2)), (3, .int v3), (4, .ref (al v4)), (5, .int v5)]) rfl ?_
  refine a_aload_n X dX0_joinTuple_0 rfl 0 rfl ?_
  refine a_getR (k := 0) X 1 (b := (v0 + 1)) fw0 i0 rfl rfl flX0_9 rfl dX0_joinTuple_1 ?_
  refine a_iload_n X dX0_joinTuple_4 rfl 1 rfl ?_
  refine a_aload_n X dX0_joinTuple_5 rfl 2 rfl ?_
  refine a_getR (k := 0) X 1 (b := (v2 + 1)) fw0 i2 rfl rfl flX0_9 rfl dX0_joinTuple_6 ?_
  refine a_iload_n X dX0_joinTuple_9 rfl 3 rfl ?_
  refine a_iald X i2.row.1 h.1 dX0_joinTuple_10 ?_
  have h := h.2
  refine a_iast X i0.row.1 h.1 dX0_joinTuple_11 (fun M_1 eM_1 => ?_)
  have h := h.2 M_1 eM_1
  refine a_aload_n X dX0_joinTuple_12 rfl 0 rfl ?_
  refine a_getR (k := 1) X 2 (b := (v0 + 2)) fw0 i0 rfl rfl flX0_15 rfl dX0_joinTuple_13 ?_
  refine a_iload_n X dX0_joinTuple_16 rfl 1 rfl ?_
  refine a_aload_n X dX0_joinTuple_17 rfl 2 rfl ?_
  refine a_getR (k := 1) X 2 (b := (v2 + 2)) fw0 i2 rfl rfl flX0_15 rfl dX0_joinTuple_18 ?_
  refine a_iload_n X dX0_joinTuple_21 rfl 3 rfl ?_
  refine a_iald X i2.row.2.1 h.1 dX0_joinTuple_22 ?_
  have h := h.2
  refine a_aload X dX0_joinTuple_23 4 rfl ?_
  refine a_iload X dX0_joinTuple_25 5 rfl ?_
  refine a_cVi (As := [.int v5]) (st := [.int (gI M_1 (v2 + 2) (Int32.toNatClampNeg v3)), .int v1, .ref (al (v0 + 2))]) X fw0 i4 (cX0_lowAhead_ok l i4 h) mlX0_28 mvX0_lowAhead (rz rfl) (Nat.le_of_ble_eq_true rfl) rfl dX0_joinTuple_27 (fun r_3 M_2 h => ?_)
  refine a_iadd X dX0_joinTuple_30 ?_
  refine a_iast X i0.row.2.1 h.1 dX0_joinTuple_31 (fun M_4 eM_4 => ?_)
  have h := h.2 M_4 eM_4
  refine a_aload_n X dX0_joinTuple_32 rfl 0 rfl ?_
  refine a_getR (k := 2) X 3 (b := (v0 + 3)) fw0 i0 rfl rfl flX0_18 rfl dX0_joinTuple_33 ?_
  refine a_iload_n X dX0_joinTuple_36 rfl 1 rfl ?_
  refine a_aload_n X dX0_joinTuple_37 rfl 2 rfl ?_
  refine a_getR (k := 2) X 3 (b := (v2 + 3)) fw0 i2 rfl rfl flX0_18 rfl dX0_joinTuple_38 ?_
  refine a_iload_n X dX0_joinTuple_41 rfl 3 rfl ?_
  refine a_iald X i2.row.2.2.1 h.1 dX0_joinTuple_42 ?_
  have h := h.2
  refine a_iload X dX0_joinTuple_43 5 rfl ?_
  refine a_aload X dX0_joinTuple_45 4 rfl ?_
  refine a_getI (k := 4) X fw0 i4 rfl flX0_24 rfl dX0_joinTuple_47 ?_
  refine a_icmp_ge (tgt := 65) X dX0_joinTuple_50 (by decide) (fun z => ?_) (fun z => ?_)
  · have h := h.1 z
    refine a_iconst (v := 0) X dX0_joinTuple_65 ic_0 ?_
    refine a_iadd X dX0_joinTuple_66 ?_
    refine a_iast X i0.row.2.2.1 h.1 dX0_joinTuple_67 (fun M_5 eM_5 => ?_)
    have h := h.2 M_5 eM_5
    exact a_vret X h dX0_joinTuple_68
  · have h := h.2 z
    refine a_aload X dX0_joinTuple_53 4 rfl ?_
    refine a_iload X dX0_joinTuple_55 5 rfl ?_
    refine a_cVi (As := [.int v5]) (st := [.int (gI M_4 (v2 + 3) (Int32.toNatClampNeg v3)), .int v1, .ref (al (v0 + 3))]) X fw0 i4 (cX0_width_ok l i4 h) mlX0_32 mvX0_width (rz rfl) (Nat.le_of_ble_eq_true rfl) rfl dX0_joinTuple_57 (fun r_7 M_6 h => ?_)
    refine a_iconst (v := 1) X dX0_joinTuple_60 ic_1 ?_
    refine a_isub X dX0_joinTuple_61 ?_
    refine a_goto (tgt := 66) X dX0_joinTuple_62 (by decide) ?_
    refine a_iadd X dX0_joinTuple_66 ?_
    refine a_iast X i0.row.2.2.1 h.1 dX0_joinTuple_67 (fun M_8 eM_8 => ?_)
    have h := h.2 M_8 eM_8
    exact a_vret X h dX0_joinTuple_68
abbrev rm_X0_joinOf : Room := { frames := 3, cells := 0, slots := 0, locals := 67 }
def wX0_joinOf_74 (Q : Mem → Prop) (K27 : Mem → Int32 → Int32 → Int32 → Prop) (M : Mem) (v0 : Nat) (v1 : Nat) (v2 : Nat) (v3 : Int32) (v4 : Int32) (v5 : Int32) (s0 : Int32) : Prop := ((s0 = 0 → wpX0_joinTuple M v0 v5 v2 v4 v1 v3 (fun M_2 => K27 M_2 v3 (v4 + 1) (v5 + 1))) ∧ (¬ s0 = 0 → wpX0_joinTuple M v0 v5 v1 v3 v2 v4 (fun M_3 => K27 M_3 (v3 + 1) v4 (v5 + 1))))
def wX0_joinOf_27 (Q : Mem → Prop) (v0 : Nat) (v1 : Nat) (v2 : Nat) : Nat → Mem → Int32 → Int32 → Int32 → Prop
  | 0, _, _, _, _ => False
  | n + 1, M, v3, v4, v5 => (((gI M v0 4) ≤ v5 → Q M) ∧ (¬ (gI M v0 4) ≤ v5 → (((gI M v2 4) ≤ v4 → wX0_joinOf_74 Q (wX0_joinOf_27 Q v0 v1 v2 n) M v0 v1 v2 v3 v4 v5 1) ∧ (¬ (gI M v2 4) ≤ v4 → (((gI M v1 4) ≤ v3 → wX0_joinOf_74 Q (wX0_joinOf_27 Q v0 v1 v2 n) M v0 v1 v2 v3 v4 v5 0) ∧ (¬ (gI M v1 4) ≤ v3 → (vp_in v3 1000 ∧ (vp_in v4 1000 ∧ (((gI M (v2 + 1) (Int32.toNatClampNeg v4)) < (gI M (v1 + 1) (Int32.toNatClampNeg v3)) → wX0_joinOf_74 Q (wX0_joinOf_27 Q v0 v1 v2 n) M v0 v1 v2 v3 v4 v5 0) ∧ (¬ (gI M (v2 + 1) (Int32.toNatClampNeg v4)) < (gI M (v1 + 1) (Int32.toNatClampNeg v3)) → wX0_joinOf_74 Q (wX0_joinOf_27 Q v0 v1 v2 n) M v0 v1 v2 v3 v4 v5 1))))))))))
def wpX0_joinOf (M : Mem) (v0 : Nat) (v1 : Nat) (v2 : Nat) (Q : Mem → Prop) : Prop := (∀ M_1 : Mem, M_1 = pI M v0 4 (if ((gI M v1 4) + (gI M v2 4)) < 1000 then ((gI M v1 4) + (gI M v2 4)) else 1000) → ∃ n, wX0_joinOf_27 Q v0 v1 v2 n M_1 0 0 0)
set_option maxHeartbeats 4000000 in
set_option maxRecDepth 100000 in
theorem tX0_joinOf_74 (X : Cx p s m meth c G RX0 cX0_joinOf 7 none) {Q : Mem → Prop} {K27 : Mem → Int32 → Int32 → Int32 → Prop} {v0 : Nat} {v1 : Nat} {v2 : Nat} {v3 : Int32} {v4 : Int32} {v5 : Int32} {s0 : Int32} (i0 : Iz mk v0 (0, 0)) (i1 : Iz mk v1 (0, 0)) (i2 : Iz mk v2 (0, 0)) (hK27 : ∀ (M : Mem) (v3 : Int32) (v4 : Int32) (v5 : Int32), K27 M v3 v4 v5 → Wa p l e rm_X0_joinOf s m args below meth c 7 G al mk 0 0 (MQ below (QV G al mk Q) args s 0 0 (gA G)) M 27 [(0, .ref (al v0)), (1, .ref (al v1)), (2, .ref (al v2)), (3, .int v3), (4, .int v4), (5, .int v5)] []) {M : Mem} (h : wX0_joinOf_74 Q K27 M v0 v1 v2 v3 v4 v5 s0) : Wa p l e rm_X0_joinOf s m args below meth c 7 G al mk 0 0 (MQ below (QV G al mk Q) args s 0 0 (gA G)) M 74 [(0, .ref (al v0)), (1, .ref (al v1)), (2, .ref (al v2)), (3, .int v3), (4, .int v4), (5, .int v5)] [.int s0] := by
  unfold wX0_joinOf_74 at h
  refine a_istore (lo' := [(6, .int s0), (0, .ref (al v0)), (1, .ref (al v1)), (2, .ref (al v2)), (3, .int v3), (4, .int v4), (5, .int v5)]) X dX0_joinOf_74 (by decide) rfl ?_
  refine a_iload X dX0_joinOf_76 0 rfl ?_
  refine a_if_eq (tgt := 98) X dX0_joinOf_78 (by decide) (fun z => ?_) (fun z => ?_)
  · have h := h.1 z
    refine a_aload_n X dX0_joinOf_98 rfl 1 rfl ?_
    refine a_iload X dX0_joinOf_99 6 rfl ?_
    refine a_aload_n X dX0_joinOf_101 rfl 3 rfl ?_
    refine a_iload X dX0_joinOf_102 5 rfl ?_
    refine a_aload_n X dX0_joinOf_104 rfl 2 rfl ?_
    refine a_iload_n X dX0_joinOf_105 rfl 4 rfl ?_
    refine a_cVv (As := [.int v5, .ref (al v2), .int v4, .ref (al v1), .int v3]) (st := []) X fw0 i0 (cX0_joinTuple_ok l i0 i2 i1 h) mlX0_79 mvX0_joinTuple (rz rfl) (Nat.le_of_ble_eq_true rfl) rfl dX0_joinOf_106 (fun M_2 h => ?_)
    refine a_iinc (v := v4 + 1) (lo' := [(4, .int (v4 + 1)), (6, .int s0), (0, .ref (al v0)), (1, .ref (al v1)), (2, .ref (al v2)), (3, .int v3), (5, .int v5)]) X dX0_joinOf_109 5 rfl (ii_1 _) (by decide) rfl ?_
    refine a_iinc (v := v5 + 1) (lo' := [(5, .int (v5 + 1)), (4, .int (v4 + 1)), (6, .int s0), (0, .ref (al v0)), (1, .ref (al v1)), (2, .ref (al v2)), (3, .int v3)]) X dX0_joinOf_112 6 rfl (ii_1 _) (by decide) rfl ?_
    refine a_goto (tgt := 27) X dX0_joinOf_115 (by decide) ?_
    refine a_sub (ks := [3, 4, 5, 6, 1, 0]) (lo' := [(0, .ref (al v0)), (1, .ref (al v1)), (2, .ref (al v2)), (3, .int v3), (4, .int (v4 + 1)), (5, .int (v5 + 1))]) rfl ?_
    exact hK27 _ _ _ _ h
  · have h := h.2 z
    refine a_aload_n X dX0_joinOf_81 rfl 1 rfl ?_
    refine a_iload X dX0_joinOf_82 6 rfl ?_
    refine a_aload_n X dX0_joinOf_84 rfl 2 rfl ?_
    refine a_iload_n X dX0_joinOf_85 rfl 4 rfl ?_
    refine a_aload_n X dX0_joinOf_86 rfl 3 rfl ?_
    refine a_iload X dX0_joinOf_87 5 rfl ?_
    refine a_cVv (As := [.int v5, .ref (al v1), .int v3, .ref (al v2), .int v4]) (st := []) X fw0 i0 (cX0_joinTuple_ok l i0 i1 i2 h) mlX0_79 mvX0_joinTuple (rz rfl) (Nat.le_of_ble_eq_true rfl) rfl dX0_joinOf_89 (fun M_3 h => ?_)
    refine a_iinc (v := v3 + 1) (lo' := [(3, .int (v3 + 1)), (6, .int s0), (0, .ref (al v0)), (1, .ref (al v1)), (2, .ref (al v2)), (4, .int v4), (5, .int v5)]) X dX0_joinOf_92 4 rfl (ii_1 _) (by decide) rfl ?_
    refine a_goto (tgt := 112) X dX0_joinOf_95 (by decide) ?_
    refine a_iinc (v := v5 + 1) (lo' := [(5, .int (v5 + 1)), (3, .int (v3 + 1)), (6, .int s0), (0, .ref (al v0)), (1, .ref (al v1)), (2, .ref (al v2)), (4, .int v4)]) X dX0_joinOf_112 6 rfl (ii_1 _) (by decide) rfl ?_
    refine a_goto (tgt := 27) X dX0_joinOf_115 (by decide) ?_
    refine a_sub (ks := [3, 4, 5, 1, 6, 0]) (lo' := [(0, .ref (al v0)), (1, .ref (al v1)), (2, .ref (al v2)), (3, .int (v3 + 1)), (4, .int v4), (5, .int (v5 + 1))]) rfl ?_
    exact hK27 _ _ _ _ h
set_option maxHeartbeats 4000000 in
set_option maxRecDepth 100000 in
theorem tX0_joinOf_27 (X : Cx p s m meth c G RX0 cX0_joinOf 7 none) {Q : Mem → Prop} {v0 : Nat} {v1 : Nat} {v2 : Nat} (i0 : Iz mk v0 (0, 0)) (i1 : Iz mk v1 (0, 0)) (i2 : Iz mk v2 (0, 0)) : ∀ (n : Nat) (M : Mem) (v3 : Int32) (v4 : Int32) (v5 : Int32), wX0_joinOf_27 Q v0 v1 v2 n M v3 v4 v5 → Wa p l e rm_X0_joinOf s m args below meth c 7 G al mk 0 0 (MQ below (QV G al mk Q) args s 0 0 (gA G)) M 27 [(0, .ref (al v0)), (1, .ref (al v1)), (2, .ref (al v2)), (3, .int v3), (4, .int v4), (5, .int v5)] [] := by
  intro n
  induction n with
  | zero =>
    intro M v3 v4 v5 h
    exact False.elim h
  | succ n ih =>
    intro M v3 v4 v5 h
    rw [wX0_joinOf_27] at h
    refine a_iload X dX0_joinOf_27 5 rfl ?_
    refine a_aload_n X dX0_joinOf_29 rfl 0 rfl ?_
    refine a_getI (k := 4) X fw0 i0 rfl flX0_24 rfl dX0_joinOf_30 ?_
    refine a_icmp_ge (tgt := 118) X dX0_joinOf_33 (by decide) (fun z => ?_) (fun z => ?_)
    · have h := h.1 z
      exact a_vret X h dX0_joinOf_118
    · have h := h.2 z
      refine a_iload X dX0_joinOf_36 4 rfl ?_
      refine a_aload_n X dX0_joinOf_38 rfl 2 rfl ?_
      refine a_getI (k := 4) X fw0 i2 rfl flX0_24 rfl dX0_joinOf_39 ?_
      refine a_icmp_ge (tgt := 69) X dX0_joinOf_42 (by decide) (fun z => ?_) (fun z => ?_)
      · have h := h.1 z
        refine a_iconst (v := 1) X dX0_joinOf_69 ic_1 ?_
        refine a_goto (tgt := 74) X dX0_joinOf_70 (by decide) ?_
        exact tX0_joinOf_74 X i0 i1 i2 ih h
      · have h := h.2 z
        refine a_iload_n X dX0_joinOf_45 rfl 3 rfl ?_
        refine a_aload_n X dX0_joinOf_46 rfl 1 rfl ?_
        refine a_getI (k := 4) X fw0 i1 rfl flX0_24 rfl dX0_joinOf_47 ?_
        refine a_icmp_ge (tgt := 73) X dX0_joinOf_50 (by decide) (fun z => ?_) (fun z => ?_)
        · have h := h.1 z
          refine a_iconst (v := 0) X dX0_joinOf_73 ic_0 ?_
          exact tX0_joinOf_74 X i0 i1 i2 ih h
        · have h := h.2 z
          refine a_aload_n X dX0_joinOf_53 rfl 1 rfl ?_
          refine a_getR (k := 0) X 1 (b := (v1 + 1)) fw0 i1 rfl rfl flX0_9 rfl dX0_joinOf_54 ?_
          refine a_iload_n X dX0_joinOf_57 rfl 3 rfl ?_
          refine a_iald X i1.row.1 h.1 dX0_joinOf_58 ?_
          have h := h.2
          refine a_aload_n X dX0_joinOf_59 rfl 2 rfl ?_
          refine a_getR (k := 0) X 1 (b := (v2 + 1)) fw0 i2 rfl rfl flX0_9 rfl dX0_joinOf_60 ?_
          refine a_iload X dX0_joinOf_63 4 rfl ?_
          refine a_iald X i2.row.1 h.1 dX0_joinOf_65 ?_
          have h := h.2
          refine a_icmp_gt (tgt := 73) X dX0_joinOf_66 (by decide) (fun z => ?_) (fun z => ?_)
          · have h := h.1 z
            refine a_iconst (v := 0) X dX0_joinOf_73 ic_0 ?_
            exact tX0_joinOf_74 X i0 i1 i2 ih h
          · have h := h.2 z
            refine a_iconst (v := 1) X dX0_joinOf_69 ic_1 ?_
            refine a_goto (tgt := 74) X dX0_joinOf_70 (by decide) ?_
            exact tX0_joinOf_74 X i0 i1 i2 ih h
set_option maxHeartbeats 4000000 in
set_option maxRecDepth 100000 in
theorem cX0_joinOf_ok (l : Launch) {G : Gl} {al : Nat → Nat} {mk : Nat} {M : Mem} {v0 : Nat} {v1 : Nat} {v2 : Nat} {Q : Mem → Prop} (i0 : Iz mk v0 (0, 0)) (i1 : Iz mk v1 (0, 0)) (i2 : Iz mk v2 (0, 0)) (h : wpX0_joinOf M v0 v1 v2 Q) : Kv l yX0_joinOf cX0_joinOf 7 none rm_X0_joinOf G al mk M [.ref (al v0), .ref (al v1), .ref (al v2)] (QV G al mk Q) := by
  refine a_head (by decide) (Nat.le_of_ble_eq_true rfl) (fun p e s m below meth c X => ?_)
  have X : Cx p s m meth c G RX0 cX0_joinOf 7 none := X
  unfold wpX0_joinOf at h
  refine a_sub (ks := [0, 1, 2]) (lo' := [(0, .ref (al v0)), (1, .ref (al v1)), (2, .ref (al v2))]) rfl ?_
  refine a_iconst (v := 0) X dX0_joinOf_0 ic_0 ?_
  refine a_istore_n (lo' := [(3, .int 0), (0, .ref (al v0)), (1, .ref (al v1)), (2, .ref (al v2))]) X dX0_joinOf_1 rfl (by decide) rfl ?_
  refine a_iconst (v := 0) X dX0_joinOf_2 ic_0 ?_
  refine a_istore (lo' := [(4, .int 0), (3, .int 0), (0, .ref (al v0)), (1, .ref (al v1)), (2, .ref (al v2))]) X dX0_joinOf_3 (by decide) rfl ?_
  refine a_aload_n X dX0_joinOf_5 rfl 2 rfl ?_
  refine a_sipush (v := 1000) X dX0_joinOf_6 sc_1000 ?_
  refine a_aload_n X dX0_joinOf_9 rfl 3 rfl ?_
  refine a_getI (k := 4) X fw0 i1 rfl flX0_24 rfl dX0_joinOf_10 ?_
  refine a_aload_n X dX0_joinOf_13 rfl 4 rfl ?_
  refine a_getI (k := 4) X fw0 i2 rfl flX0_24 rfl dX0_joinOf_14 ?_
  refine a_iadd X dX0_joinOf_17 ?_
  refine a_mmin X mlX0_76 mm_min ⟨by decide, Nat.le_of_ble_eq_true rfl, Nat.le_refl _, Nat.le_refl _⟩ dX0_joinOf_18 ?_
  refine a_putI (k := 4) X fw0 i0 rfl flX0_24 rfl rfl dX0_joinOf_21 (fun M_1 eM_1 => ?_)
  have h := h M_1 eM_1
  refine a_iconst (v := 0) X dX0_joinOf_24 ic_0 ?_
  refine a_istore (lo' := [(5, .int 0), (4, .int 0), (3, .int 0), (0, .ref (al v0)), (1, .ref (al v1)), (2, .ref (al v2))]) X dX0_joinOf_25 (by decide) rfl ?_
  refine a_sub (ks := [3, 4, 5, 2, 1, 0]) (lo' := [(0, .ref (al v0)), (1, .ref (al v1)), (2, .ref (al v2)), (3, .int 0), (4, .int 0), (5, .int 0)]) rfl ?_
  obtain ⟨n9, h⟩ := h
  exact tX0_joinOf_27 X i0 i1 i2 n9 _ _ _ _ h
abbrev rm_X0_takeBands : Room := { frames := 1, cells := 0, slots := 0, locals := 22 }
def wX0_takeBands_2 (Q : Mem → Prop) (v0 : Nat) (v1 : Int32) : Nat → Mem → Int32 → Prop
  | 0, _, _ => False
  | n + 1, M, v2 => (((gI M v0 4) ≤ v2 → Q M) ∧ (¬ (gI M v0 4) ≤ v2 → (vp_in v2 1000 ∧ wpX3_bandOf M (gI M (v0 + 3) (Int32.toNatClampNeg v2)) v1 (fun r_2 M_1 => (vp_in v2 1000 ∧ ∀ M_3 : Mem, M_3 = pI M_1 (v0 + 4) (Int32.toNatClampNeg v2) r_2 → wX0_takeBands_2 Q v0 v1 n M_3 (v2 + 1))))))
def wpX0_takeBands (M : Mem) (v0 : Nat) (v1 : Int32) (Q : Mem → Prop) : Prop := ∃ n, wX0_takeBands_2 Q v0 v1 n M 0
set_option maxHeartbeats 4000000 in
set_option maxRecDepth 100000 in
theorem tX0_takeBands_2 (X : Cx p s m meth c G RX0 cX0_takeBands 3 none) {Q : Mem → Prop} {v0 : Nat} {v1 : Int32} (i0 : Iz mk v0 (0, 0)) : ∀ (n : Nat) (M : Mem) (v2 : Int32), wX0_takeBands_2 Q v0 v1 n M v2 → Wa p l e rm_X0_takeBands s m args below meth c 3 G al mk 0 0 (MQ below (QV G al mk Q) args s 0 0 (gA G)) M 2 [(0, .ref (al v0)), (1, .int v1), (2, .int v2)] [] := by
  intro n
  induction n with
  | zero =>
    intro M v2 h
    exact False.elim h
  | succ n ih =>
    intro M v2 h
    rw [wX0_takeBands_2] at h
    refine a_iload_n X dX0_takeBands_2 rfl 2 rfl ?_
    refine a_aload_n X dX0_takeBands_3 rfl 0 rfl ?_
    refine a_getI (k := 4) X fw0 i0 rfl flX0_24 rfl dX0_takeBands_4 ?_
    refine a_icmp_ge (tgt := 32) X dX0_takeBands_7 (by decide) (fun z => ?_) (fun z => ?_)
    · have h := h.1 z
      exact a_vret X h dX0_takeBands_32
    · have h := h.2 z
      refine a_aload_n X dX0_takeBands_10 rfl 0 rfl ?_
      refine a_getR (k := 3) X 4 (b := (v0 + 4)) fw0 i0 rfl rfl flX0_21 rfl dX0_takeBands_11 ?_
      refine a_iload_n X dX0_takeBands_14 rfl 2 rfl ?_
      refine a_aload_n X dX0_takeBands_15 rfl 0 rfl ?_
      refine a_getR (k := 2) X 3 (b := (v0 + 3)) fw0 i0 rfl rfl flX0_18 rfl dX0_takeBands_16 ?_
      refine a_iload_n X dX0_takeBands_19 rfl 2 rfl ?_
      refine a_iald X i0.row.2.2.1 h.1 dX0_takeBands_20 ?_
      have h := h.2
      refine a_iload_n X dX0_takeBands_21 rfl 1 rfl ?_
      refine a_cNi (As := [.int (gI M (v0 + 3) (Int32.toNatClampNeg v2)), .int v1]) (st := [.int v2, .ref (al (v0 + 4))]) X (cX3_bandOf_ok l h) nlX0_83 msX3_bandOf (rz rfl) (Nat.le_of_ble_eq_true rfl) rfl dX0_takeBands_22 (fun r_2 M_1 h => ?_)
      refine a_iast X i0.row.2.2.2 h.1 dX0_takeBands_25 (fun M_3 eM_3 => ?_)
      have h := h.2 M_3 eM_3
      refine a_iinc (v := v2 + 1) (lo' := [(2, .int (v2 + 1)), (0, .ref (al v0)), (1, .int v1)]) X dX0_takeBands_26 2 rfl (ii_1 _) (by decide) rfl ?_
      refine a_goto (tgt := 2) X dX0_takeBands_29 (by decide) ?_
      refine a_sub (ks := [1, 2, 0]) (lo' := [(0, .ref (al v0)), (1, .int v1), (2, .int (v2 + 1))]) rfl ?_
      exact ih _ _ h
set_option maxHeartbeats 4000000 in
set_option maxRecDepth 100000 in
theorem cX0_takeBands_ok (l : Launch) {G : Gl} {al : Nat → Nat} {mk : Nat} {M : Mem} {v0 : Nat} {v1 : Int32} {Q : Mem → Prop} (i0 : Iz mk v0 (0, 0)) (h : wpX0_takeBands M v0 v1 Q) : Kv l yX0_takeBands cX0_takeBands 3 none rm_X0_takeBands G al mk M [.ref (al v0), .int v1] (QV G al mk Q) := by
  refine a_head (by decide) (Nat.le_of_ble_eq_true rfl) (fun p e s m below meth c X => ?_)
  have X : Cx p s m meth c G RX0 cX0_takeBands 3 none := X
  unfold wpX0_takeBands at h
  refine a_sub (ks := [0, 1]) (lo' := [(0, .ref (al v0)), (1, .int v1)]) rfl ?_
  refine a_iconst (v := 0) X dX0_takeBands_0 ic_0 ?_
  refine a_istore_n (lo' := [(2, .int 0), (0, .ref (al v0)), (1, .int v1)]) X dX0_takeBands_1 rfl (by decide) rfl ?_
  refine a_sub (ks := [1, 2, 0]) (lo' := [(0, .ref (al v0)), (1, .int v1), (2, .int 0)]) rfl ?_
  obtain ⟨n9, h⟩ := h
  exact tX0_takeBands_2 X i0 n9 _ _ h
abbrev rm_X0_familyFrom : Room := { frames := 0, cells := 0, slots := 0, locals := 0 }
def wX0_familyFrom_2 (Q : Int32 → Mem → Prop) (v0 : Nat) (v1 : Int32) : Nat → Mem → Int32 → Prop
  | 0, _, _ => False
  | n + 1, M, v2 => ((v2 ≤ 1 → Q v2 M) ∧ (¬ v2 ≤ 1 → (vp_in (v2 - 1) 1000 ∧ (vp_in v1 1000 ∧ (((gI M (v0 + 4) (Int32.toNatClampNeg v1)) ≤ (gI M (v0 + 4) (Int32.toNatClampNeg (v2 - 1))) → Q v2 M) ∧ (¬ (gI M (v0 + 4) (Int32.toNatClampNeg v1)) ≤ (gI M (v0 + 4) (Int32.toNatClampNeg (v2 - 1))) → wX0_familyFrom_2 Q v0 v1 n M (v2 + (-1))))))))
def wpX0_familyFrom (M : Mem) (v0 : Nat) (v1 : Int32) (Q : Int32 → Mem → Prop) : Prop := ∃ n, wX0_familyFrom_2 Q v0 v1 n M v1
set_option maxHeartbeats 4000000 in
set_option maxRecDepth 100000 in
theorem tX0_familyFrom_2 (X : Cx p s m meth c G RX0 cX0_familyFrom 3 (some .int)) {Q : Int32 → Mem → Prop} {v0 : Nat} {v1 : Int32} (i0 : Iz mk v0 (0, 0)) : ∀ (n : Nat) (M : Mem) (v2 : Int32), wX0_familyFrom_2 Q v0 v1 n M v2 → Wa p l e rm_X0_familyFrom s m args below meth c 3 G al mk 0 0 (MQ below (QI G al mk Q) args s 0 0 (gA G)) M 2 [(0, .ref (al v0)), (1, .int v1), (2, .int v2)] [] := by
  intro n
  induction n with
  | zero =>
    intro M v2 h
    exact False.elim h
  | succ n ih =>
    intro M v2 h
    rw [wX0_familyFrom_2] at h
    refine a_iload_n X dX0_familyFrom_2 rfl 2 rfl ?_
    refine a_iconst (v := 1) X dX0_familyFrom_3 ic_1 ?_
    refine a_icmp_le (tgt := 30) X dX0_familyFrom_4 (by decide) (fun z => ?_) (fun z => ?_)
    · have h := h.1 z
      refine a_iload_n X dX0_familyFrom_30 rfl 2 rfl ?_
      exact a_iret X h dX0_familyFrom_31
    · have h := h.2 z
      refine a_aload_n X dX0_familyFrom_7 rfl 0 rfl ?_
      refine a_getR (k := 3) X 4 (b := (v0 + 4)) fw0 i0 rfl rfl flX0_21 rfl dX0_familyFrom_8 ?_
      refine a_iload_n X dX0_familyFrom_11 rfl 2 rfl ?_
      refine a_iconst (v := 1) X dX0_familyFrom_12 ic_1 ?_
      refine a_isub X dX0_familyFrom_13 ?_
      refine a_iald X i0.row.2.2.2 h.1 dX0_familyFrom_14 ?_
      have h := h.2
      refine a_aload_n X dX0_familyFrom_15 rfl 0 rfl ?_
      refine a_getR (k := 3) X 4 (b := (v0 + 4)) fw0 i0 rfl rfl flX0_21 rfl dX0_familyFrom_16 ?_
      refine a_iload_n X dX0_familyFrom_19 rfl 1 rfl ?_
      refine a_iald X i0.row.2.2.2 h.1 dX0_familyFrom_20 ?_
      have h := h.2
      refine a_icmp_ge (tgt := 30) X dX0_familyFrom_21 (by decide) (fun z => ?_) (fun z => ?_)
      · have h := h.1 z
        refine a_iload_n X dX0_familyFrom_30 rfl 2 rfl ?_
        exact a_iret X h dX0_familyFrom_31
      · have h := h.2 z
        refine a_iinc (v := v2 + (-1)) (lo' := [(2, .int (v2 + (-1))), (0, .ref (al v0)), (1, .int v1)]) X dX0_familyFrom_24 2 rfl (ii_m1 _) (by decide) rfl ?_
        refine a_goto (tgt := 2) X dX0_familyFrom_27 (by decide) ?_
        refine a_sub (ks := [1, 2, 0]) (lo' := [(0, .ref (al v0)), (1, .int v1), (2, .int (v2 + (-1)))]) rfl ?_
        exact ih _ _ h
set_option maxHeartbeats 4000000 in
set_option maxRecDepth 100000 in
theorem cX0_familyFrom_ok (l : Launch) {G : Gl} {al : Nat → Nat} {mk : Nat} {M : Mem} {v0 : Nat} {v1 : Int32} {Q : Int32 → Mem → Prop} (i0 : Iz mk v0 (0, 0)) (h : wpX0_familyFrom M v0 v1 Q) : Kv l yX0_familyFrom cX0_familyFrom 3 (some .int) rm_X0_familyFrom G al mk M [.ref (al v0), .int v1] (QI G al mk Q) := by
  refine a_head (by decide) (Nat.le_of_ble_eq_true rfl) (fun p e s m below meth c X => ?_)
  have X : Cx p s m meth c G RX0 cX0_familyFrom 3 (some .int) := X
  unfold wpX0_familyFrom at h
  refine a_sub (ks := [0, 1]) (lo' := [(0, .ref (al v0)), (1, .int v1)]) rfl ?_
  refine a_iload_n X dX0_familyFrom_0 rfl 1 rfl ?_
  refine a_istore_n (lo' := [(2, .int v1), (0, .ref (al v0)), (1, .int v1)]) X dX0_familyFrom_1 rfl (by decide) rfl ?_
  refine a_sub (ks := [1, 2, 0]) (lo' := [(0, .ref (al v0)), (1, .int v1), (2, .int v1)]) rfl ?_
  obtain ⟨n9, h⟩ := h
  exact tX0_familyFrom_2 X i0 n9 _ _ h
abbrev rm_X0_mayGo : Room := { frames := 1, cells := 0, slots := 0, locals := 21 }
def wpX0_mayGo (M : Mem) (v0 : Nat) (v1 : Int32) (v2 : Int32) (v3 : Int32) (v4 : Int32) (Q : Int32 → Mem → Prop) : Prop := (vp_in v1 1000 ∧ (vp_in v3 1000 ∧ (((gI M (v0 + 4) (Int32.toNatClampNeg v3)) < (gI M (v0 + 4) (Int32.toNatClampNeg v1)) → Q 0 M) ∧ (¬ (gI M (v0 + 4) (Int32.toNatClampNeg v3)) < (gI M (v0 + 4) (Int32.toNatClampNeg v1)) → (vp_in v3 1000 ∧ wpX0_lowAhead M v0 v2 (fun r_2 M_1 => (vp_in v3 1000 ∧ ((v4 < (((gI M (v0 + 2) (Int32.toNatClampNeg v3)) - r_2) + (gI M_1 (v0 + 3) (Int32.toNatClampNeg v3))) → Q 0 M_1) ∧ (¬ v4 < (((gI M (v0 + 2) (Int32.toNatClampNeg v3)) - r_2) + (gI M_1 (v0 + 3) (Int32.toNatClampNeg v3))) → Q 1 M_1)))))))))
set_option maxHeartbeats 4000000 in
set_option maxRecDepth 100000 in
theorem cX0_mayGo_ok (l : Launch) {G : Gl} {al : Nat → Nat} {mk : Nat} {M : Mem} {v0 : Nat} {v1 : Int32} {v2 : Int32} {v3 : Int32} {v4 : Int32} {Q : Int32 → Mem → Prop} (i0 : Iz mk v0 (0, 0)) (h : wpX0_mayGo M v0 v1 v2 v3 v4 Q) : Kv l yX0_mayGo cX0_mayGo 5 (some .boolean) rm_X0_mayGo G al mk M [.ref (al v0), .int v1, .int v2, .int v3, .int v4] (QI G al mk Q) := by
  refine a_head (by decide) (Nat.le_of_ble_eq_true rfl) (fun p e s m below meth c X => ?_)
  have X : Cx p s m meth c G RX0 cX0_mayGo 5 (some .boolean) := X
  unfold wpX0_mayGo at h
  refine a_sub (ks := [0, 1, 2, 3, 4]) (lo' := [(0, .ref (al v0)), (1, .int v1), (2, .int v2), (3, .int v3), (4, .int v4)]) rfl ?_
  refine a_aload_n X dX0_mayGo_0 rfl 0 rfl ?_
  refine a_getR (k := 3) X 4 (b := (v0 + 4)) fw0 i0 rfl rfl flX0_21 rfl dX0_mayGo_1 ?_
  refine a_iload_n X dX0_mayGo_4 rfl 1 rfl ?_
  refine a_iald X i0.row.2.2.2 h.1 dX0_mayGo_5 ?_
  have h := h.2
  refine a_aload_n X dX0_mayGo_6 rfl 0 rfl ?_
  refine a_getR (k := 3) X 4 (b := (v0 + 4)) fw0 i0 rfl rfl flX0_21 rfl dX0_mayGo_7 ?_
  refine a_iload_n X dX0_mayGo_10 rfl 3 rfl ?_
  refine a_iald X i0.row.2.2.2 h.1 dX0_mayGo_11 ?_
  have h := h.2
  refine a_icmp_gt (tgt := 43) X dX0_mayGo_12 (by decide) (fun z => ?_) (fun z => ?_)
  · have h := h.1 z
    refine a_iconst (v := 0) X dX0_mayGo_43 ic_0 ?_
    exact a_zret X (by decide) h dX0_mayGo_44
  · have h := h.2 z
    refine a_aload_n X dX0_mayGo_15 rfl 0 rfl ?_
    refine a_getR (k := 1) X 2 (b := (v0 + 2)) fw0 i0 rfl rfl flX0_15 rfl dX0_mayGo_16 ?_
    refine a_iload_n X dX0_mayGo_19 rfl 3 rfl ?_
    refine a_iald X i0.row.2.1 h.1 dX0_mayGo_20 ?_
    have h := h.2
    refine a_aload_n X dX0_mayGo_21 rfl 0 rfl ?_
    refine a_iload_n X dX0_mayGo_22 rfl 2 rfl ?_
    refine a_cVi (As := [.int v2]) (st := [.int (gI M (v0 + 2) (Int32.toNatClampNeg v3))]) X fw0 i0 (cX0_lowAhead_ok l i0 h) mlX0_28 mvX0_lowAhead (rz rfl) (Nat.le_of_ble_eq_true rfl) rfl dX0_mayGo_23 (fun r_2 M_1 h => ?_)
    refine a_isub X dX0_mayGo_26 ?_
    refine a_aload_n X dX0_mayGo_27 rfl 0 rfl ?_
    refine a_getR (k := 2) X 3 (b := (v0 + 3)) fw0 i0 rfl rfl flX0_18 rfl dX0_mayGo_28 ?_
    refine a_iload_n X dX0_mayGo_31 rfl 3 rfl ?_
    refine a_iald X i0.row.2.2.1 h.1 dX0_mayGo_32 ?_
    have h := h.2
    refine a_iadd X dX0_mayGo_33 ?_
    refine a_iload X dX0_mayGo_34 4 rfl ?_
    refine a_icmp_gt (tgt := 43) X dX0_mayGo_36 (by decide) (fun z => ?_) (fun z => ?_)
    · have h := h.1 z
      refine a_iconst (v := 0) X dX0_mayGo_43 ic_0 ?_
      exact a_zret X (by decide) h dX0_mayGo_44
    · have h := h.2 z
      refine a_iconst (v := 1) X dX0_mayGo_39 ic_1 ?_
      refine a_goto (tgt := 44) X dX0_mayGo_40 (by decide) ?_
      exact a_zret X (by decide) h dX0_mayGo_44
abbrev rm_X0_moveTuple : Room := { frames := 0, cells := 0, slots := 0, locals := 0 }
def wpX0_moveTuple (M : Mem) (v0 : Nat) (v1 : Int32) (v2 : Int32) (Q : Mem → Prop) : Prop := (vp_in v1 1000 ∧ (vp_in v2 1000 ∧ ∀ M_1 : Mem, M_1 = pI M (v0 + 1) (Int32.toNatClampNeg v2) (gI M (v0 + 1) (Int32.toNatClampNeg v1)) → (vp_in v1 1000 ∧ (vp_in v2 1000 ∧ ∀ M_2 : Mem, M_2 = pI M_1 (v0 + 2) (Int32.toNatClampNeg v2) (gI M_1 (v0 + 2) (Int32.toNatClampNeg v1)) → (vp_in v1 1000 ∧ (vp_in v2 1000 ∧ ∀ M_3 : Mem, M_3 = pI M_2 (v0 + 3) (Int32.toNatClampNeg v2) (gI M_2 (v0 + 3) (Int32.toNatClampNeg v1)) → (vp_in v1 1000 ∧ (vp_in v2 1000 ∧ ∀ M_4 : Mem, M_4 = pI M_3 (v0 + 4) (Int32.toNatClampNeg v2) (gI M_3 (v0 + 4) (Int32.toNatClampNeg v1)) → Q M_4))))))))
set_option maxHeartbeats 4000000 in
set_option maxRecDepth 100000 in
theorem cX0_moveTuple_ok (l : Launch) {G : Gl} {al : Nat → Nat} {mk : Nat} {M : Mem} {v0 : Nat} {v1 : Int32} {v2 : Int32} {Q : Mem → Prop} (i0 : Iz mk v0 (0, 0)) (h : wpX0_moveTuple M v0 v1 v2 Q) : Kv l yX0_moveTuple cX0_moveTuple 3 none rm_X0_moveTuple G al mk M [.ref (al v0), .int v1, .int v2] (QV G al mk Q) := by
  refine a_head (by decide) (Nat.le_of_ble_eq_true rfl) (fun p e s m below meth c X => ?_)
  have X : Cx p s m meth c G RX0 cX0_moveTuple 3 none := X
  unfold wpX0_moveTuple at h
  refine a_sub (ks := [0, 1, 2]) (lo' := [(0, .ref (al v0)), (1, .int v1), (2, .int v2)]) rfl ?_
  refine a_aload_n X dX0_moveTuple_0 rfl 0 rfl ?_
  refine a_getR (k := 0) X 1 (b := (v0 + 1)) fw0 i0 rfl rfl flX0_9 rfl dX0_moveTuple_1 ?_
  refine a_iload_n X dX0_moveTuple_4 rfl 2 rfl ?_
  refine a_aload_n X dX0_moveTuple_5 rfl 0 rfl ?_
  refine a_getR (k := 0) X 1 (b := (v0 + 1)) fw0 i0 rfl rfl flX0_9 rfl dX0_moveTuple_6 ?_
  refine a_iload_n X dX0_moveTuple_9 rfl 1 rfl ?_
  refine a_iald X i0.row.1 h.1 dX0_moveTuple_10 ?_
  have h := h.2
  refine a_iast X i0.row.1 h.1 dX0_moveTuple_11 (fun M_1 eM_1 => ?_)
  have h := h.2 M_1 eM_1
  refine a_aload_n X dX0_moveTuple_12 rfl 0 rfl ?_
  refine a_getR (k := 1) X 2 (b := (v0 + 2)) fw0 i0 rfl rfl flX0_15 rfl dX0_moveTuple_13 ?_
  refine a_iload_n X dX0_moveTuple_16 rfl 2 rfl ?_
  refine a_aload_n X dX0_moveTuple_17 rfl 0 rfl ?_
  refine a_getR (k := 1) X 2 (b := (v0 + 2)) fw0 i0 rfl rfl flX0_15 rfl dX0_moveTuple_18 ?_
  refine a_iload_n X dX0_moveTuple_21 rfl 1 rfl ?_
  refine a_iald X i0.row.2.1 h.1 dX0_moveTuple_22 ?_
  have h := h.2
  refine a_iast X i0.row.2.1 h.1 dX0_moveTuple_23 (fun M_2 eM_2 => ?_)
  have h := h.2 M_2 eM_2
  refine a_aload_n X dX0_moveTuple_24 rfl 0 rfl ?_
  refine a_getR (k := 2) X 3 (b := (v0 + 3)) fw0 i0 rfl rfl flX0_18 rfl dX0_moveTuple_25 ?_
  refine a_iload_n X dX0_moveTuple_28 rfl 2 rfl ?_
  refine a_aload_n X dX0_moveTuple_29 rfl 0 rfl ?_
  refine a_getR (k := 2) X 3 (b := (v0 + 3)) fw0 i0 rfl rfl flX0_18 rfl dX0_moveTuple_30 ?_
  refine a_iload_n X dX0_moveTuple_33 rfl 1 rfl ?_
  refine a_iald X i0.row.2.2.1 h.1 dX0_moveTuple_34 ?_
  have h := h.2
  refine a_iast X i0.row.2.2.1 h.1 dX0_moveTuple_35 (fun M_3 eM_3 => ?_)
  have h := h.2 M_3 eM_3
  refine a_aload_n X dX0_moveTuple_36 rfl 0 rfl ?_
  refine a_getR (k := 3) X 4 (b := (v0 + 4)) fw0 i0 rfl rfl flX0_21 rfl dX0_moveTuple_37 ?_
  refine a_iload_n X dX0_moveTuple_40 rfl 2 rfl ?_
  refine a_aload_n X dX0_moveTuple_41 rfl 0 rfl ?_
  refine a_getR (k := 3) X 4 (b := (v0 + 4)) fw0 i0 rfl rfl flX0_21 rfl dX0_moveTuple_42 ?_
  refine a_iload_n X dX0_moveTuple_45 rfl 1 rfl ?_
  refine a_iald X i0.row.2.2.2 h.1 dX0_moveTuple_46 ?_
  have h := h.2
  refine a_iast X i0.row.2.2.2 h.1 dX0_moveTuple_47 (fun M_4 eM_4 => ?_)
  have h := h.2 M_4 eM_4
  exact a_vret X h dX0_moveTuple_48
abbrev rm_X0_dropAhead : Room := { frames := 1, cells := 0, slots := 0, locals := 48 }
def wpX0_dropAhead (M : Mem) (v0 : Nat) (v1 : Int32) (Q : Mem → Prop) : Prop := (∀ M_1 : Mem, M_1 = pI M v0 4 ((gI M v0 4) - v1) → (¬ v1 < 0 ∧ ¬ (0 : Int32) < 0 ∧ ¬ (gI M_1 v0 4) < 0 ∧ Int32.toNatClampNeg v1 + Int32.toNatClampNeg (gI M_1 v0 4) ≤ 1000 ∧ Int32.toNatClampNeg (0 : Int32) + Int32.toNatClampNeg (gI M_1 v0 4) ≤ 1000 ∧ ∀ M_2 : Mem, M_2 = pF M_1 (v0 + 1) (va_cpy (Prod.fst M_1 (v0 + 1)) (Prod.fst M_1 (v0 + 1)) (Int32.toNatClampNeg v1) (Int32.toNatClampNeg (0 : Int32)) (Int32.toNatClampNeg (gI M_1 v0 4))) → (¬ v1 < 0 ∧ ¬ (0 : Int32) < 0 ∧ ¬ (gI M_2 v0 4) < 0 ∧ Int32.toNatClampNeg v1 + Int32.toNatClampNeg (gI M_2 v0 4) ≤ 1000 ∧ Int32.toNatClampNeg (0 : Int32) + Int32.toNatClampNeg (gI M_2 v0 4) ≤ 1000 ∧ ∀ M_3 : Mem, M_3 = pF M_2 (v0 + 2) (va_cpy (Prod.fst M_2 (v0 + 2)) (Prod.fst M_2 (v0 + 2)) (Int32.toNatClampNeg v1) (Int32.toNatClampNeg (0 : Int32)) (Int32.toNatClampNeg (gI M_2 v0 4))) → (¬ v1 < 0 ∧ ¬ (0 : Int32) < 0 ∧ ¬ (gI M_3 v0 4) < 0 ∧ Int32.toNatClampNeg v1 + Int32.toNatClampNeg (gI M_3 v0 4) ≤ 1000 ∧ Int32.toNatClampNeg (0 : Int32) + Int32.toNatClampNeg (gI M_3 v0 4) ≤ 1000 ∧ ∀ M_4 : Mem, M_4 = pF M_3 (v0 + 3) (va_cpy (Prod.fst M_3 (v0 + 3)) (Prod.fst M_3 (v0 + 3)) (Int32.toNatClampNeg v1) (Int32.toNatClampNeg (0 : Int32)) (Int32.toNatClampNeg (gI M_3 v0 4))) → Q M_4))))
set_option maxHeartbeats 4000000 in
set_option maxRecDepth 100000 in
theorem cX0_dropAhead_ok (l : Launch) {G : Gl} {al : Nat → Nat} {mk : Nat} {M : Mem} {v0 : Nat} {v1 : Int32} {Q : Mem → Prop} (i0 : Iz mk v0 (0, 0)) (h : wpX0_dropAhead M v0 v1 Q) : Kv l yX0_dropAhead cX0_dropAhead 2 none rm_X0_dropAhead G al mk M [.ref (al v0), .int v1] (QV G al mk Q) := by
  refine a_head (by decide) (Nat.le_of_ble_eq_true rfl) (fun p e s m below meth c X => ?_)
  have X : Cx p s m meth c G RX0 cX0_dropAhead 2 none := X
  unfold wpX0_dropAhead at h
  refine a_sub (ks := [0, 1]) (lo' := [(0, .ref (al v0)), (1, .int v1)]) rfl ?_
  refine a_aload_n X dX0_dropAhead_0 rfl 0 rfl ?_
  refine a_dup X dX0_dropAhead_1 rfl ?_
  refine a_getI (k := 4) X fw0 i0 rfl flX0_24 rfl dX0_dropAhead_2 ?_
  refine a_iload_n X dX0_dropAhead_5 rfl 1 rfl ?_
  refine a_isub X dX0_dropAhead_6 ?_
  refine a_putI (k := 4) X fw0 i0 rfl flX0_24 rfl rfl dX0_dropAhead_7 (fun M_1 eM_1 => ?_)
  have h := h M_1 eM_1
  refine a_aload_n X dX0_dropAhead_10 rfl 0 rfl ?_
  refine a_getR (k := 0) X 1 (b := (v0 + 1)) fw0 i0 rfl rfl flX0_9 rfl dX0_dropAhead_11 ?_
  refine a_iload_n X dX0_dropAhead_14 rfl 1 rfl ?_
  refine a_aload_n X dX0_dropAhead_15 rfl 0 rfl ?_
  refine a_getR (k := 0) X 1 (b := (v0 + 1)) fw0 i0 rfl rfl flX0_9 rfl dX0_dropAhead_16 ?_
  refine a_iconst (v := 0) X dX0_dropAhead_19 ic_0 ?_
  refine a_aload_n X dX0_dropAhead_20 rfl 0 rfl ?_
  refine a_getI (k := 4) X fw0 i0 rfl flX0_24 rfl dX0_dropAhead_21 ?_
  refine a_copy X mlX0_70 mm_copy i0.row.1 i0.row.1 h.1 h.2.1 h.2.2.1 h.2.2.2.1 h.2.2.2.2.1 ⟨by decide, by decide +kernel⟩ dX0_dropAhead_24 (fun M_2 eM_2 => ?_)
  have h := h.2.2.2.2.2 M_2 eM_2
  refine a_aload_n X dX0_dropAhead_27 rfl 0 rfl ?_
  refine a_getR (k := 1) X 2 (b := (v0 + 2)) fw0 i0 rfl rfl flX0_15 rfl dX0_dropAhead_28 ?_
  refine a_iload_n X dX0_dropAhead_31 rfl 1 rfl ?_
  refine a_aload_n X dX0_dropAhead_32 rfl 0 rfl ?_
  refine a_getR (k := 1) X 2 (b := (v0 + 2)) fw0 i0 rfl rfl flX0_15 rfl dX0_dropAhead_33 ?_
  refine a_iconst (v := 0) X dX0_dropAhead_36 ic_0 ?_
  refine a_aload_n X dX0_dropAhead_37 rfl 0 rfl ?_
  refine a_getI (k := 4) X fw0 i0 rfl flX0_24 rfl dX0_dropAhead_38 ?_
  refine a_copy X mlX0_70 mm_copy i0.row.2.1 i0.row.2.1 h.1 h.2.1 h.2.2.1 h.2.2.2.1 h.2.2.2.2.1 ⟨by decide, by decide +kernel⟩ dX0_dropAhead_41 (fun M_3 eM_3 => ?_)
  have h := h.2.2.2.2.2 M_3 eM_3
  refine a_aload_n X dX0_dropAhead_44 rfl 0 rfl ?_
  refine a_getR (k := 2) X 3 (b := (v0 + 3)) fw0 i0 rfl rfl flX0_18 rfl dX0_dropAhead_45 ?_
  refine a_iload_n X dX0_dropAhead_48 rfl 1 rfl ?_
  refine a_aload_n X dX0_dropAhead_49 rfl 0 rfl ?_
  refine a_getR (k := 2) X 3 (b := (v0 + 3)) fw0 i0 rfl rfl flX0_18 rfl dX0_dropAhead_50 ?_
  refine a_iconst (v := 0) X dX0_dropAhead_53 ic_0 ?_
  refine a_aload_n X dX0_dropAhead_54 rfl 0 rfl ?_
  refine a_getI (k := 4) X fw0 i0 rfl flX0_24 rfl dX0_dropAhead_55 ?_
  refine a_copy X mlX0_70 mm_copy i0.row.2.2.1 i0.row.2.2.1 h.1 h.2.1 h.2.2.1 h.2.2.2.1 h.2.2.2.2.1 ⟨by decide, by decide +kernel⟩ dX0_dropAhead_58 (fun M_4 eM_4 => ?_)
  have h := h.2.2.2.2.2 M_4 eM_4
  exact a_vret X h dX0_dropAhead_61
abbrev rm_X0_shorten : Room := { frames := 2, cells := 0, slots := 0, locals := 69 }
def wX0_shorten_29 (Q : Int32 → Mem → Prop) (v0 : Nat) (v1 : Int32) : Nat → Mem → Int32 → Int32 → Prop
  | 0, _, _, _ => False
  | n + 1, M, v2, v3 => ((v3 < 1 → wpX0_moveTuple M v0 0 (v2 + (-1)) (fun M_4 => wpX0_dropAhead M_4 v0 (v2 + (-1)) (fun M_5 => Q (v2 + (-1)) M_5))) ∧ (¬ v3 < 1 → wpX0_familyFrom M v0 v3 (fun r_7 M_6 => wpX0_mayGo M_6 v0 v3 r_7 v2 v1 (fun r_9 M_8 => ((r_9 = 0 → wpX0_moveTuple M_8 v0 v3 (v2 + (-1)) (fun M_10 => wX0_shorten_29 Q v0 v1 n M_10 (v2 + (-1)) (v3 + (-1)))) ∧ (¬ r_9 = 0 → (∀ x_11 : Int32, x_11 = (r_7 - 1) → wX0_shorten_29 Q v0 v1 n M_8 v2 x_11)))))))
def wpX0_shorten (M : Mem) (v0 : Nat) (v1 : Int32) (Q : Int32 → Mem → Prop) : Prop := ((3 ≤ (gI M v0 4) → wpX0_takeBands M v0 v1 (fun M_1 => (∀ x_2 : Int32, x_2 = ((gI M_1 v0 4) - 1) → (∀ x_3 : Int32, x_3 = ((gI M_1 v0 4) - 2) → ∃ n, wX0_shorten_29 Q v0 v1 n M_1 x_2 x_3)))) ∧ (¬ 3 ≤ (gI M v0 4) → Q 0 M))
set_option maxHeartbeats 4000000 in
set_option maxRecDepth 100000 in
theorem tX0_shorten_29 (X : Cx p s m meth c G RX0 cX0_shorten 5 (some .int)) {Q : Int32 → Mem → Prop} {v0 : Nat} {v1 : Int32} (i0 : Iz mk v0 (0, 0)) : ∀ (n : Nat) (M : Mem) (v2 : Int32) (v3 : Int32), wX0_shorten_29 Q v0 v1 n M v2 v3 → Wa p l e rm_X0_shorten s m args below meth c 5 G al mk 0 0 (MQ below (QI G al mk Q) args s 0 0 (gA G)) M 29 [(0, .ref (al v0)), (1, .int v1), (2, .int v2), (3, .int v3)] [] := by
  intro n
  induction n with
  | zero =>
    intro M v2 v3 h
    exact False.elim h
  | succ n ih =>
    intro M v2 v3 h
    rw [wX0_shorten_29] at h
    refine a_iload_n X dX0_shorten_29 rfl 3 rfl ?_
    refine a_iconst (v := 1) X dX0_shorten_30 ic_1 ?_
    refine a_icmp_lt (tgt := 76) X dX0_shorten_31 (by decide) (fun z => ?_) (fun z => ?_)
    · have h := h.1 z
      refine a_iinc (v := v2 + (-1)) (lo' := [(2, .int (v2 + (-1))), (0, .ref (al v0)), (1, .int v1), (3, .int v3)]) X dX0_shorten_76 2 rfl (ii_m1 _) (by decide) rfl ?_
      refine a_aload_n X dX0_shorten_79 rfl 1 rfl ?_
      refine a_iconst (v := 0) X dX0_shorten_80 ic_0 ?_
      refine a_iload_n X dX0_shorten_81 rfl 0 rfl ?_
      refine a_cVv (As := [.int 0, .int (v2 + (-1))]) (st := []) X fw0 i0 (cX0_moveTuple_ok l i0 h) mlX0_97 mvX0_moveTuple (rz rfl) (Nat.le_of_ble_eq_true rfl) rfl dX0_shorten_82 (fun M_4 h => ?_)
      refine a_aload_n X dX0_shorten_85 rfl 1 rfl ?_
      refine a_iload_n X dX0_shorten_86 rfl 0 rfl ?_
      refine a_cVv (As := [.int (v2 + (-1))]) (st := []) X fw0 i0 (cX0_dropAhead_ok l i0 h) mlX0_101 mvX0_dropAhead (rz rfl) (Nat.le_of_ble_eq_true rfl) rfl dX0_shorten_87 (fun M_5 h => ?_)
      refine a_iload_n X dX0_shorten_90 rfl 0 rfl ?_
      exact a_iret X h dX0_shorten_91
    · have h := h.2 z
      refine a_aload_n X dX0_shorten_34 rfl 0 rfl ?_
      refine a_iload_n X dX0_shorten_35 rfl 3 rfl ?_
      refine a_cVi (As := [.int v3]) (st := []) X fw0 i0 (cX0_familyFrom_ok l i0 h) mlX0_90 mvX0_familyFrom (rz rfl) (Nat.le_of_ble_eq_true rfl) rfl dX0_shorten_36 (fun r_7 M_6 h => ?_)
      refine a_istore (lo' := [(4, .int r_7), (0, .ref (al v0)), (1, .int v1), (2, .int v2), (3, .int v3)]) X dX0_shorten_39 (by decide) rfl ?_
      refine a_aload_n X dX0_shorten_41 rfl 1 rfl ?_
      refine a_iload_n X dX0_shorten_42 rfl 4 rfl ?_
      refine a_iload X dX0_shorten_43 0 rfl ?_
      refine a_iload_n X dX0_shorten_45 rfl 3 rfl ?_
      refine a_iload_n X dX0_shorten_46 rfl 2 rfl ?_
      refine a_cVi (As := [.int v3, .int r_7, .int v2, .int v1]) (st := []) X fw0 i0 (cX0_mayGo_ok l i0 h) mlX0_93 mvX0_mayGo (rz rfl) (Nat.le_of_ble_eq_true rfl) rfl dX0_shorten_47 (fun r_9 M_8 h => ?_)
      refine a_if_eq (tgt := 61) X dX0_shorten_50 (by decide) (fun z => ?_) (fun z => ?_)
      · have h := h.1 z
        refine a_iinc (v := v2 + (-1)) (lo' := [(2, .int (v2 + (-1))), (4, .int r_7), (0, .ref (al v0)), (1, .int v1), (3, .int v3)]) X dX0_shorten_61 3 rfl (ii_m1 _) (by decide) rfl ?_
        refine a_aload_n X dX0_shorten_64 rfl 2 rfl ?_
        refine a_iload_n X dX0_shorten_65 rfl 4 rfl ?_
        refine a_iload_n X dX0_shorten_66 rfl 0 rfl ?_
        refine a_cVv (As := [.int v3, .int (v2 + (-1))]) (st := []) X fw0 i0 (cX0_moveTuple_ok l i0 h) mlX0_97 mvX0_moveTuple (rz rfl) (Nat.le_of_ble_eq_true rfl) rfl dX0_shorten_67 (fun M_10 h => ?_)
        refine a_iinc (v := v3 + (-1)) (lo' := [(3, .int (v3 + (-1))), (2, .int (v2 + (-1))), (4, .int r_7), (0, .ref (al v0)), (1, .int v1)]) X dX0_shorten_70 4 rfl (ii_m1 _) (by decide) rfl ?_
        refine a_goto (tgt := 29) X dX0_shorten_73 (by decide) ?_
        refine a_sub (ks := [3, 4, 1, 0]) (lo' := [(0, .ref (al v0)), (1, .int v1), (2, .int (v2 + (-1))), (3, .int (v3 + (-1)))]) rfl ?_
        exact ih _ _ _ h
      · have h := h.2 z
        refine a_iload X dX0_shorten_53 0 rfl ?_
        refine a_iconst (v := 1) X dX0_shorten_55 ic_1 ?_
        refine a_isub X dX0_shorten_56 ?_
        refine a_topi (fun x_11 ex_11 => ?_)
        have h := h x_11 ex_11
        refine a_istore_n (lo' := [(3, .int x_11), (4, .int r_7), (0, .ref (al v0)), (1, .int v1), (2, .int v2)]) X dX0_shorten_57 rfl (by decide) rfl ?_
        refine a_goto (tgt := 73) X dX0_shorten_58 (by decide) ?_
        refine a_goto (tgt := 29) X dX0_shorten_73 (by decide) ?_
        refine a_sub (ks := [2, 3, 4, 0]) (lo' := [(0, .ref (al v0)), (1, .int v1), (2, .int v2), (3, .int x_11)]) rfl ?_
        exact ih _ _ _ h
set_option maxHeartbeats 4000000 in
set_option maxRecDepth 100000 in
theorem cX0_shorten_ok (l : Launch) {G : Gl} {al : Nat → Nat} {mk : Nat} {M : Mem} {v0 : Nat} {v1 : Int32} {Q : Int32 → Mem → Prop} (i0 : Iz mk v0 (0, 0)) (h : wpX0_shorten M v0 v1 Q) : Kv l yX0_shorten cX0_shorten 5 (some .int) rm_X0_shorten G al mk M [.ref (al v0), .int v1] (QI G al mk Q) := by
  refine a_head (by decide) (Nat.le_of_ble_eq_true rfl) (fun p e s m below meth c X => ?_)
  have X : Cx p s m meth c G RX0 cX0_shorten 5 (some .int) := X
  unfold wpX0_shorten at h
  refine a_sub (ks := [0, 1]) (lo' := [(0, .ref (al v0)), (1, .int v1)]) rfl ?_
  refine a_aload_n X dX0_shorten_0 rfl 0 rfl ?_
  refine a_getI (k := 4) X fw0 i0 rfl flX0_24 rfl dX0_shorten_1 ?_
  refine a_iconst (v := 3) X dX0_shorten_4 ic_3 ?_
  refine a_icmp_ge (tgt := 10) X dX0_shorten_5 (by decide) (fun z => ?_) (fun z => ?_)
  · have h := h.1 z
    refine a_aload_n X dX0_shorten_10 rfl 0 rfl ?_
    refine a_iload_n X dX0_shorten_11 rfl 1 rfl ?_
    refine a_cVv (As := [.int v1]) (st := []) X fw0 i0 (cX0_takeBands_ok l i0 h) mlX0_86 mvX0_takeBands (rz rfl) (Nat.le_of_ble_eq_true rfl) rfl dX0_shorten_12 (fun M_1 h => ?_)
    refine a_aload_n X dX0_shorten_15 rfl 0 rfl ?_
    refine a_getI (k := 4) X fw0 i0 rfl flX0_24 rfl dX0_shorten_16 ?_
    refine a_iconst (v := 1) X dX0_shorten_19 ic_1 ?_
    refine a_isub X dX0_shorten_20 ?_
    refine a_topi (fun x_2 ex_2 => ?_)
    have h := h x_2 ex_2
    refine a_istore_n (lo' := [(2, .int x_2), (0, .ref (al v0)), (1, .int v1)]) X dX0_shorten_21 rfl (by decide) rfl ?_
    refine a_aload_n X dX0_shorten_22 rfl 1 rfl ?_
    refine a_getI (k := 4) X fw0 i0 rfl flX0_24 rfl dX0_shorten_23 ?_
    refine a_iconst (v := 2) X dX0_shorten_26 ic_2 ?_
    refine a_isub X dX0_shorten_27 ?_
    refine a_topi (fun x_3 ex_3 => ?_)
    have h := h x_3 ex_3
    refine a_istore_n (lo' := [(3, .int x_3), (2, .int x_2), (0, .ref (al v0)), (1, .int v1)]) X dX0_shorten_28 rfl (by decide) rfl ?_
    refine a_sub (ks := [2, 3, 1, 0]) (lo' := [(0, .ref (al v0)), (1, .int v1), (2, .int x_2), (3, .int x_3)]) rfl ?_
    obtain ⟨n9, h⟩ := h
    exact tX0_shorten_29 X i0 n9 _ _ _ h
  · have h := h.2 z
    refine a_iconst (v := 0) X dX0_shorten_8 ic_0 ?_
    exact a_iret X h dX0_shorten_9
abbrev rm_X0_roundsLeft : Room := { frames := 3, cells := 0, slots := 0, locals := 93 }
def wX0_roundsLeft_2 (Q : Int32 → Mem → Prop) (v0 : Nat) (v1 : Int32) : Nat → Mem → Int32 → Prop
  | 0, _, _ => False
  | n + 1, M, v2 => ((1000 ≤ v2 → Q v2 M) ∧ (¬ 1000 ≤ v2 → wpX0_shorten M v0 v1 (fun r_2 M_1 => ((r_2 ≤ 0 → Q v2 M_1) ∧ (¬ r_2 ≤ 0 → wX0_roundsLeft_2 Q v0 v1 n M_1 (v2 + 1))))))
def wpX0_roundsLeft (M : Mem) (v0 : Nat) (v1 : Int32) (Q : Int32 → Mem → Prop) : Prop := ∃ n, wX0_roundsLeft_2 Q v0 v1 n M 0
set_option maxHeartbeats 4000000 in
set_option maxRecDepth 100000 in
theorem tX0_roundsLeft_2 (X : Cx p s m meth c G RX0 cX0_roundsLeft 3 (some .int)) {Q : Int32 → Mem → Prop} {v0 : Nat} {v1 : Int32} (i0 : Iz mk v0 (0, 0)) : ∀ (n : Nat) (M : Mem) (v2 : Int32), wX0_roundsLeft_2 Q v0 v1 n M v2 → Wa p l e rm_X0_roundsLeft s m args below meth c 3 G al mk 0 0 (MQ below (QI G al mk Q) args s 0 0 (gA G)) M 2 [(0, .ref (al v0)), (1, .int v1), (2, .int v2)] [] := by
  intro n
  induction n with
  | zero =>
    intro M v2 h
    exact False.elim h
  | succ n ih =>
    intro M v2 h
    rw [wX0_roundsLeft_2] at h
    refine a_iload_n X dX0_roundsLeft_2 rfl 2 rfl ?_
    refine a_sipush (v := 1000) X dX0_roundsLeft_3 sc_1000 ?_
    refine a_icmp_ge (tgt := 23) X dX0_roundsLeft_6 (by decide) (fun z => ?_) (fun z => ?_)
    · have h := h.1 z
      refine a_iload_n X dX0_roundsLeft_23 rfl 2 rfl ?_
      exact a_iret X h dX0_roundsLeft_24
    · have h := h.2 z
      refine a_aload_n X dX0_roundsLeft_9 rfl 0 rfl ?_
      refine a_iload_n X dX0_roundsLeft_10 rfl 1 rfl ?_
      refine a_cVi (As := [.int v1]) (st := []) X fw0 i0 (cX0_shorten_ok l i0 h) mlX0_104 mvX0_shorten (rz rfl) (Nat.le_of_ble_eq_true rfl) rfl dX0_roundsLeft_11 (fun r_2 M_1 h => ?_)
      refine a_if_le (tgt := 23) X dX0_roundsLeft_14 (by decide) (fun z => ?_) (fun z => ?_)
      · have h := h.1 z
        refine a_iload_n X dX0_roundsLeft_23 rfl 2 rfl ?_
        exact a_iret X h dX0_roundsLeft_24
      · have h := h.2 z
        refine a_iinc (v := v2 + 1) (lo' := [(2, .int (v2 + 1)), (0, .ref (al v0)), (1, .int v1)]) X dX0_roundsLeft_17 2 rfl (ii_1 _) (by decide) rfl ?_
        refine a_goto (tgt := 2) X dX0_roundsLeft_20 (by decide) ?_
        refine a_sub (ks := [1, 2, 0]) (lo' := [(0, .ref (al v0)), (1, .int v1), (2, .int (v2 + 1))]) rfl ?_
        exact ih _ _ h
set_option maxHeartbeats 4000000 in
set_option maxRecDepth 100000 in
theorem cX0_roundsLeft_ok (l : Launch) {G : Gl} {al : Nat → Nat} {mk : Nat} {M : Mem} {v0 : Nat} {v1 : Int32} {Q : Int32 → Mem → Prop} (i0 : Iz mk v0 (0, 0)) (h : wpX0_roundsLeft M v0 v1 Q) : Kv l yX0_roundsLeft cX0_roundsLeft 3 (some .int) rm_X0_roundsLeft G al mk M [.ref (al v0), .int v1] (QI G al mk Q) := by
  refine a_head (by decide) (Nat.le_of_ble_eq_true rfl) (fun p e s m below meth c X => ?_)
  have X : Cx p s m meth c G RX0 cX0_roundsLeft 3 (some .int) := X
  unfold wpX0_roundsLeft at h
  refine a_sub (ks := [0, 1]) (lo' := [(0, .ref (al v0)), (1, .int v1)]) rfl ?_
  refine a_iconst (v := 0) X dX0_roundsLeft_0 ic_0 ?_
  refine a_istore_n (lo' := [(2, .int 0), (0, .ref (al v0)), (1, .int v1)]) X dX0_roundsLeft_1 rfl (by decide) rfl ?_
  refine a_sub (ks := [1, 2, 0]) (lo' := [(0, .ref (al v0)), (1, .int v1), (2, .int 0)]) rfl ?_
  obtain ⟨n9, h⟩ := h
  exact tX0_roundsLeft_2 X i0 n9 _ _ h
abbrev rm_X0_tuplesOfBand : Room := { frames := 1, cells := 0, slots := 0, locals := 22 }
def wX0_tuplesOfBand_5 (Q : Int32 → Mem → Prop) (v0 : Nat) (v1 : Int32) (v2 : Int32) : Nat → Mem → Int32 → Int32 → Prop
  | 0, _, _, _ => False
  | n + 1, M, v3, v4 => (((gI M v0 4) ≤ v4 → Q v3 M) ∧ (¬ (gI M v0 4) ≤ v4 → (vp_in v4 1000 ∧ wpX3_bandOf M (gI M (v0 + 3) (Int32.toNatClampNeg v4)) v2 (fun r_2 M_1 => ((¬ r_2 = v1 → wX0_tuplesOfBand_5 Q v0 v1 v2 n M_1 v3 (v4 + 1)) ∧ (r_2 = v1 → wX0_tuplesOfBand_5 Q v0 v1 v2 n M_1 (v3 + 1) (v4 + 1)))))))
def wpX0_tuplesOfBand (M : Mem) (v0 : Nat) (v1 : Int32) (v2 : Int32) (Q : Int32 → Mem → Prop) : Prop := ∃ n, wX0_tuplesOfBand_5 Q v0 v1 v2 n M 0 0
set_option maxHeartbeats 4000000 in
set_option maxRecDepth 100000 in
theorem tX0_tuplesOfBand_5 (X : Cx p s m meth c G RX0 cX0_tuplesOfBand 5 (some .int)) {Q : Int32 → Mem → Prop} {v0 : Nat} {v1 : Int32} {v2 : Int32} (i0 : Iz mk v0 (0, 0)) : ∀ (n : Nat) (M : Mem) (v3 : Int32) (v4 : Int32), wX0_tuplesOfBand_5 Q v0 v1 v2 n M v3 v4 → Wa p l e rm_X0_tuplesOfBand s m args below meth c 5 G al mk 0 0 (MQ below (QI G al mk Q) args s 0 0 (gA G)) M 5 [(0, .ref (al v0)), (1, .int v1), (2, .int v2), (3, .int v3), (4, .int v4)] [] := by
  intro n
  induction n with
  | zero =>
    intro M v3 v4 h
    exact False.elim h
  | succ n ih =>
    intro M v3 v4 h
    rw [wX0_tuplesOfBand_5] at h
    refine a_iload X dX0_tuplesOfBand_5 4 rfl ?_
    refine a_aload_n X dX0_tuplesOfBand_7 rfl 0 rfl ?_
    refine a_getI (k := 4) X fw0 i0 rfl flX0_24 rfl dX0_tuplesOfBand_8 ?_
    refine a_icmp_ge (tgt := 38) X dX0_tuplesOfBand_11 (by decide) (fun z => ?_) (fun z => ?_)
    · have h := h.1 z
      refine a_iload_n X dX0_tuplesOfBand_38 rfl 3 rfl ?_
      exact a_iret X h dX0_tuplesOfBand_39
    · have h := h.2 z
      refine a_aload_n X dX0_tuplesOfBand_14 rfl 0 rfl ?_
      refine a_getR (k := 2) X 3 (b := (v0 + 3)) fw0 i0 rfl rfl flX0_18 rfl dX0_tuplesOfBand_15 ?_
      refine a_iload X dX0_tuplesOfBand_18 4 rfl ?_
      refine a_iald X i0.row.2.2.1 h.1 dX0_tuplesOfBand_20 ?_
      have h := h.2
      refine a_iload_n X dX0_tuplesOfBand_21 rfl 2 rfl ?_
      refine a_cNi (As := [.int (gI M (v0 + 3) (Int32.toNatClampNeg v4)), .int v2]) (st := []) X (cX3_bandOf_ok l h) nlX0_83 msX3_bandOf (rz rfl) (Nat.le_of_ble_eq_true rfl) rfl dX0_tuplesOfBand_22 (fun r_2 M_1 h => ?_)
      refine a_iload_n X dX0_tuplesOfBand_25 rfl 1 rfl ?_
      refine a_icmp_ne (tgt := 32) X dX0_tuplesOfBand_26 (by decide) (fun z => ?_) (fun z => ?_)
      · have h := h.1 z
        refine a_iinc (v := v4 + 1) (lo' := [(4, .int (v4 + 1)), (0, .ref (al v0)), (1, .int v1), (2, .int v2), (3, .int v3)]) X dX0_tuplesOfBand_32 4 rfl (ii_1 _) (by decide) rfl ?_
        refine a_goto (tgt := 5) X dX0_tuplesOfBand_35 (by decide) ?_
        refine a_sub (ks := [1, 2, 3, 4, 0]) (lo' := [(0, .ref (al v0)), (1, .int v1), (2, .int v2), (3, .int v3), (4, .int (v4 + 1))]) rfl ?_
        exact ih _ _ _ h
      · have h := h.2 z
        refine a_iinc (v := v3 + 1) (lo' := [(3, .int (v3 + 1)), (0, .ref (al v0)), (1, .int v1), (2, .int v2), (4, .int v4)]) X dX0_tuplesOfBand_29 3 rfl (ii_1 _) (by decide) rfl ?_
        refine a_iinc (v := v4 + 1) (lo' := [(4, .int (v4 + 1)), (3, .int (v3 + 1)), (0, .ref (al v0)), (1, .int v1), (2, .int v2)]) X dX0_tuplesOfBand_32 4 rfl (ii_1 _) (by decide) rfl ?_
        refine a_goto (tgt := 5) X dX0_tuplesOfBand_35 (by decide) ?_
        refine a_sub (ks := [2, 3, 4, 1, 0]) (lo' := [(0, .ref (al v0)), (1, .int v1), (2, .int v2), (3, .int (v3 + 1)), (4, .int (v4 + 1))]) rfl ?_
        exact ih _ _ _ h
set_option maxHeartbeats 4000000 in
set_option maxRecDepth 100000 in
theorem cX0_tuplesOfBand_ok (l : Launch) {G : Gl} {al : Nat → Nat} {mk : Nat} {M : Mem} {v0 : Nat} {v1 : Int32} {v2 : Int32} {Q : Int32 → Mem → Prop} (i0 : Iz mk v0 (0, 0)) (h : wpX0_tuplesOfBand M v0 v1 v2 Q) : Kv l yX0_tuplesOfBand cX0_tuplesOfBand 5 (some .int) rm_X0_tuplesOfBand G al mk M [.ref (al v0), .int v1, .int v2] (QI G al mk Q) := by
  refine a_head (by decide) (Nat.le_of_ble_eq_true rfl) (fun p e s m below meth c X => ?_)
  have X : Cx p s m meth c G RX0 cX0_tuplesOfBand 5 (some .int) := X
  unfold wpX0_tuplesOfBand at h
  refine a_sub (ks := [0, 1, 2]) (lo' := [(0, .ref (al v0)), (1, .int v1), (2, .int v2)]) rfl ?_
  refine a_iconst (v := 0) X dX0_tuplesOfBand_0 ic_0 ?_
  refine a_istore_n (lo' := [(3, .int 0), (0, .ref (al v0)), (1, .int v1), (2, .int v2)]) X dX0_tuplesOfBand_1 rfl (by decide) rfl ?_
  refine a_iconst (v := 0) X dX0_tuplesOfBand_2 ic_0 ?_
  refine a_istore (lo' := [(4, .int 0), (3, .int 0), (0, .ref (al v0)), (1, .int v1), (2, .int v2)]) X dX0_tuplesOfBand_3 (by decide) rfl ?_
  refine a_sub (ks := [2, 3, 4, 1, 0]) (lo' := [(0, .ref (al v0)), (1, .int v1), (2, .int v2), (3, .int 0), (4, .int 0)]) rfl ?_
  obtain ⟨n9, h⟩ := h
  exact tX0_tuplesOfBand_5 X i0 n9 _ _ _ h
abbrev rm_X0_offBy : Room := { frames := 1, cells := 0, slots := 0, locals := 21 }
def wpX0_offBy (M : Mem) (v0 : Nat) (v1 : Int32) (v2 : Int32) (Q : Int32 → Mem → Prop) : Prop := (vp_in v1 1000 ∧ wpX0_high M v0 v1 (fun r_2 M_1 => Q (if (v2 - (gI M (v0 + 2) (Int32.toNatClampNeg v1))) < (r_2 - v2) then (r_2 - v2) else (v2 - (gI M (v0 + 2) (Int32.toNatClampNeg v1)))) M_1))
set_option maxHeartbeats 4000000 in
set_option maxRecDepth 100000 in
theorem cX0_offBy_ok (l : Launch) {G : Gl} {al : Nat → Nat} {mk : Nat} {M : Mem} {v0 : Nat} {v1 : Int32} {v2 : Int32} {Q : Int32 → Mem → Prop} (i0 : Iz mk v0 (0, 0)) (h : wpX0_offBy M v0 v1 v2 Q) : Kv l yX0_offBy cX0_offBy 3 (some .int) rm_X0_offBy G al mk M [.ref (al v0), .int v1, .int v2] (QI G al mk Q) := by
  refine a_head (by decide) (Nat.le_of_ble_eq_true rfl) (fun p e s m below meth c X => ?_)
  have X : Cx p s m meth c G RX0 cX0_offBy 3 (some .int) := X
  unfold wpX0_offBy at h
  refine a_sub (ks := [0, 1, 2]) (lo' := [(0, .ref (al v0)), (1, .int v1), (2, .int v2)]) rfl ?_
  refine a_iload_n X dX0_offBy_0 rfl 2 rfl ?_
  refine a_aload_n X dX0_offBy_1 rfl 0 rfl ?_
  refine a_getR (k := 1) X 2 (b := (v0 + 2)) fw0 i0 rfl rfl flX0_15 rfl dX0_offBy_2 ?_
  refine a_iload_n X dX0_offBy_5 rfl 1 rfl ?_
  refine a_iald X i0.row.2.1 h.1 dX0_offBy_6 ?_
  have h := h.2
  refine a_isub X dX0_offBy_7 ?_
  refine a_aload_n X dX0_offBy_8 rfl 0 rfl ?_
  refine a_iload_n X dX0_offBy_9 rfl 1 rfl ?_
  refine a_cVi (As := [.int v1]) (st := [.int (v2 - (gI M (v0 + 2) (Int32.toNatClampNeg v1)))]) X fw0 i0 (cX0_high_ok l i0 h) mlX0_44 mvX0_high (rz rfl) (Nat.le_of_ble_eq_true rfl) rfl dX0_offBy_10 (fun r_2 M_1 h => ?_)
  refine a_iload_n X dX0_offBy_13 rfl 2 rfl ?_
  refine a_isub X dX0_offBy_14 ?_
  refine a_mmax X mlX0_35 mm_max ⟨by decide, Nat.le_of_ble_eq_true rfl, Nat.le_refl _, Nat.le_refl _⟩ dX0_offBy_15 ?_
  exact a_iret X h dX0_offBy_18
abbrev rm_X0_nearest : Room := { frames := 2, cells := 0, slots := 0, locals := 43 }
def wX0_nearest_15 (Q : Int32 → Mem → Prop) (v0 : Nat) (v1 : Int32) : Nat → Mem → Int32 → Int32 → Int32 → Prop
  | 0, _, _, _, _ => False
  | n + 1, M, v3, v4, v5 => (((gI M v0 4) ≤ v5 → Q v3 M) ∧ (¬ (gI M v0 4) ≤ v5 → (vp_in v5 1000 ∧ ((v4 ≤ ((gI M (v0 + 2) (Int32.toNatClampNeg v5)) - v1) → Q v3 M) ∧ (¬ v4 ≤ ((gI M (v0 + 2) (Int32.toNatClampNeg v5)) - v1) → wpX0_offBy M v0 v5 v1 (fun r_5 M_4 => ((v4 ≤ r_5 → wX0_nearest_15 Q v0 v1 n M_4 v3 v4 (v5 + 1)) ∧ (¬ v4 ≤ r_5 → wX0_nearest_15 Q v0 v1 n M_4 v5 r_5 (v5 + 1)))))))))
def wpX0_nearest (M : Mem) (v0 : Nat) (v1 : Int32) (v2 : Int32) (Q : Int32 → Mem → Prop) : Prop := wpX0_offBy M v0 v2 v1 (fun r_2 M_1 => (∀ x_3 : Int32, x_3 = (v2 + 1) → ∃ n, wX0_nearest_15 Q v0 v1 n M_1 v2 r_2 x_3))
set_option maxHeartbeats 4000000 in
set_option maxRecDepth 100000 in
theorem tX0_nearest_15 (X : Cx p s m meth c G RX0 cX0_nearest 7 (some .int)) {Q : Int32 → Mem → Prop} {v0 : Nat} {v1 : Int32} (i0 : Iz mk v0 (0, 0)) : ∀ (n : Nat) (M : Mem) (v3 : Int32) (v4 : Int32) (v5 : Int32), wX0_nearest_15 Q v0 v1 n M v3 v4 v5 → Wa p l e rm_X0_nearest s m args below meth c 7 G al mk 0 0 (MQ below (QI G al mk Q) args s 0 0 (gA G)) M 15 [(0, .ref (al v0)), (1, .int v1), (3, .int v3), (4, .int v4), (5, .int v5)] [] := by
  intro n
  induction n with
  | zero =>
    intro M v3 v4 v5 h
    exact False.elim h
  | succ n ih =>
    intro M v3 v4 v5 h
    rw [wX0_nearest_15] at h
    refine a_iload X dX0_nearest_15 4 rfl ?_
    refine a_aload_n X dX0_nearest_17 rfl 0 rfl ?_
    refine a_getI (k := 4) X fw0 i0 rfl flX0_24 rfl dX0_nearest_18 ?_
    refine a_icmp_ge (tgt := 67) X dX0_nearest_21 (by decide) (fun z => ?_) (fun z => ?_)
    · have h := h.1 z
      refine a_iload_n X dX0_nearest_67 rfl 2 rfl ?_
      exact a_iret X h dX0_nearest_68
    · have h := h.2 z
      refine a_aload_n X dX0_nearest_24 rfl 0 rfl ?_
      refine a_getR (k := 1) X 2 (b := (v0 + 2)) fw0 i0 rfl rfl flX0_15 rfl dX0_nearest_25 ?_
      refine a_iload X dX0_nearest_28 4 rfl ?_
      refine a_iald X i0.row.2.1 h.1 dX0_nearest_30 ?_
      have h := h.2
      refine a_iload_n X dX0_nearest_31 rfl 1 rfl ?_
      refine a_isub X dX0_nearest_32 ?_
      refine a_iload X dX0_nearest_33 3 rfl ?_
      refine a_icmp_ge (tgt := 67) X dX0_nearest_35 (by decide) (fun z => ?_) (fun z => ?_)
      · have h := h.1 z
        refine a_iload_n X dX0_nearest_67 rfl 2 rfl ?_
        exact a_iret X h dX0_nearest_68
      · have h := h.2 z
        refine a_aload_n X dX0_nearest_38 rfl 0 rfl ?_
        refine a_iload X dX0_nearest_39 4 rfl ?_
        refine a_iload_n X dX0_nearest_41 rfl 1 rfl ?_
        refine a_cVi (As := [.int v5, .int v1]) (st := []) X fw0 i0 (cX0_offBy_ok l i0 h) mlX0_107 mvX0_offBy (rz rfl) (Nat.le_of_ble_eq_true rfl) rfl dX0_nearest_42 (fun r_5 M_4 h => ?_)
        refine a_istore (lo' := [(6, .int r_5), (0, .ref (al v0)), (1, .int v1), (3, .int v3), (4, .int v4), (5, .int v5)]) X dX0_nearest_45 (by decide) rfl ?_
        refine a_iload X dX0_nearest_47 0 rfl ?_
        refine a_iload X dX0_nearest_49 4 rfl ?_
        refine a_icmp_ge (tgt := 61) X dX0_nearest_51 (by decide) (fun z => ?_) (fun z => ?_)
        · have h := h.1 z
          refine a_iinc (v := v5 + 1) (lo' := [(5, .int (v5 + 1)), (6, .int r_5), (0, .ref (al v0)), (1, .int v1), (3, .int v3), (4, .int v4)]) X dX0_nearest_61 5 rfl (ii_1 _) (by decide) rfl ?_
          refine a_goto (tgt := 15) X dX0_nearest_64 (by decide) ?_
          refine a_sub (ks := [2, 3, 4, 5, 0]) (lo' := [(0, .ref (al v0)), (1, .int v1), (3, .int v3), (4, .int v4), (5, .int (v5 + 1))]) rfl ?_
          exact ih _ _ _ _ h
        · have h := h.2 z
          refine a_iload X dX0_nearest_54 0 rfl ?_
          refine a_istore (lo' := [(4, .int r_5), (6, .int r_5), (0, .ref (al v0)), (1, .int v1), (3, .int v3), (5, .int v5)]) X dX0_nearest_56 (by decide) rfl ?_
          refine a_iload X dX0_nearest_58 5 rfl ?_
          refine a_istore_n (lo' := [(3, .int v5), (4, .int r_5), (6, .int r_5), (0, .ref (al v0)), (1, .int v1), (5, .int v5)]) X dX0_nearest_60 rfl (by decide) rfl ?_
          refine a_iinc (v := v5 + 1) (lo' := [(5, .int (v5 + 1)), (3, .int v5), (4, .int r_5), (6, .int r_5), (0, .ref (al v0)), (1, .int v1)]) X dX0_nearest_61 5 rfl (ii_1 _) (by decide) rfl ?_
          refine a_goto (tgt := 15) X dX0_nearest_64 (by decide) ?_
          refine a_sub (ks := [4, 5, 1, 2, 0]) (lo' := [(0, .ref (al v0)), (1, .int v1), (3, .int v5), (4, .int r_5), (5, .int (v5 + 1))]) rfl ?_
          exact ih _ _ _ _ h
set_option maxHeartbeats 4000000 in
set_option maxRecDepth 100000 in
theorem cX0_nearest_ok (l : Launch) {G : Gl} {al : Nat → Nat} {mk : Nat} {M : Mem} {v0 : Nat} {v1 : Int32} {v2 : Int32} {Q : Int32 → Mem → Prop} (i0 : Iz mk v0 (0, 0)) (h : wpX0_nearest M v0 v1 v2 Q) : Kv l yX0_nearest cX0_nearest 7 (some .int) rm_X0_nearest G al mk M [.ref (al v0), .int v1, .int v2] (QI G al mk Q) := by
  refine a_head (by decide) (Nat.le_of_ble_eq_true rfl) (fun p e s m below meth c X => ?_)
  have X : Cx p s m meth c G RX0 cX0_nearest 7 (some .int) := X
  unfold wpX0_nearest at h
  refine a_sub (ks := [0, 1, 2]) (lo' := [(0, .ref (al v0)), (1, .int v1), (2, .int v2)]) rfl ?_
  refine a_iload_n X dX0_nearest_0 rfl 2 rfl ?_
  refine a_istore_n (lo' := [(3, .int v2), (0, .ref (al v0)), (1, .int v1), (2, .int v2)]) X dX0_nearest_1 rfl (by decide) rfl ?_
  refine a_aload_n X dX0_nearest_2 rfl 1 rfl ?_
  refine a_iload_n X dX0_nearest_3 rfl 3 rfl ?_
  refine a_iload_n X dX0_nearest_4 rfl 2 rfl ?_
  refine a_cVi (As := [.int v2, .int v1]) (st := []) X fw0 i0 (cX0_offBy_ok l i0 h) mlX0_107 mvX0_offBy (rz rfl) (Nat.le_of_ble_eq_true rfl) rfl dX0_nearest_5 (fun r_2 M_1 h => ?_)
  refine a_istore (lo' := [(4, .int r_2), (3, .int v2), (0, .ref (al v0)), (1, .int v1), (2, .int v2)]) X dX0_nearest_8 (by decide) rfl ?_
  refine a_iload_n X dX0_nearest_10 rfl 4 rfl ?_
  refine a_iconst (v := 1) X dX0_nearest_11 ic_1 ?_
  refine a_iadd X dX0_nearest_12 ?_
  refine a_topi (fun x_3 ex_3 => ?_)
  have h := h x_3 ex_3
  refine a_istore (lo' := [(5, .int x_3), (4, .int r_2), (3, .int v2), (0, .ref (al v0)), (1, .int v1), (2, .int v2)]) X dX0_nearest_13 (by decide) rfl ?_
  refine a_sub (ks := [3, 4, 2, 1, 0]) (lo' := [(0, .ref (al v0)), (1, .int v1), (3, .int v2), (4, .int r_2), (5, .int x_3)]) rfl ?_
  obtain ⟨n9, h⟩ := h
  exact tX0_nearest_15 X i0 n9 _ _ _ _ h
abbrev rm_X0_greatestOff : Room := { frames := 3, cells := 0, slots := 0, locals := 69 }
def wX0_greatestOff_12 (Q : Int32 → Mem → Prop) (v0 : Nat) (v3 : Int32) : Nat → Mem → Int32 → Int32 → Int32 → Prop
  | 0, _, _, _, _ => False
  | n + 1, M, v1, v2, v4 => ((v3 < v4 → Q v1 M) ∧ (¬ v3 < v4 → wpX0_nearest M v0 v4 v2 (fun r_4 M_3 => wpX0_offBy M_3 v0 r_4 v4 (fun r_6 M_5 => (∀ x_7 : Int32, x_7 = (if v1 < r_6 then r_6 else v1) → wX0_greatestOff_12 Q v0 v3 n M_5 x_7 r_4 (v4 + 1))))))
def wpX0_greatestOff (M : Mem) (v0 : Nat) (Q : Int32 → Mem → Prop) : Prop := wpX0_places M v0 (fun r_2 M_1 => ∃ n, wX0_greatestOff_12 Q v0 r_2 n M_1 0 0 1)
set_option maxHeartbeats 4000000 in
set_option maxRecDepth 100000 in
theorem tX0_greatestOff_12 (X : Cx p s m meth c G RX0 cX0_greatestOff 5 (some .int)) {Q : Int32 → Mem → Prop} {v0 : Nat} {v3 : Int32} (i0 : Iz mk v0 (0, 0)) : ∀ (n : Nat) (M : Mem) (v1 : Int32) (v2 : Int32) (v4 : Int32), wX0_greatestOff_12 Q v0 v3 n M v1 v2 v4 → Wa p l e rm_X0_greatestOff s m args below meth c 5 G al mk 0 0 (MQ below (QI G al mk Q) args s 0 0 (gA G)) M 12 [(0, .ref (al v0)), (1, .int v1), (2, .int v2), (3, .int v3), (4, .int v4)] [] := by
  intro n
  induction n with
  | zero =>
    intro M v1 v2 v4 h
    exact False.elim h
  | succ n ih =>
    intro M v1 v2 v4 h
    rw [wX0_greatestOff_12] at h
    refine a_iload X dX0_greatestOff_12 4 rfl ?_
    refine a_iload_n X dX0_greatestOff_14 rfl 3 rfl ?_
    refine a_icmp_gt (tgt := 44) X dX0_greatestOff_15 (by decide) (fun z => ?_) (fun z => ?_)
    · have h := h.1 z
      refine a_iload_n X dX0_greatestOff_44 rfl 1 rfl ?_
      exact a_iret X h dX0_greatestOff_45
    · have h := h.2 z
      refine a_aload_n X dX0_greatestOff_18 rfl 0 rfl ?_
      refine a_iload X dX0_greatestOff_19 4 rfl ?_
      refine a_iload_n X dX0_greatestOff_21 rfl 2 rfl ?_
      refine a_cVi (As := [.int v4, .int v2]) (st := []) X fw0 i0 (cX0_nearest_ok l i0 h) mlX0_110 mvX0_nearest (rz rfl) (Nat.le_of_ble_eq_true rfl) rfl dX0_greatestOff_22 (fun r_4 M_3 h => ?_)
      refine a_istore_n (lo' := [(2, .int r_4), (0, .ref (al v0)), (1, .int v1), (3, .int v3), (4, .int v4)]) X dX0_greatestOff_25 rfl (by decide) rfl ?_
      refine a_iload_n X dX0_greatestOff_26 rfl 2 rfl ?_
      refine a_aload_n X dX0_greatestOff_27 rfl 1 rfl ?_
      refine a_iload_n X dX0_greatestOff_28 rfl 0 rfl ?_
      refine a_iload X dX0_greatestOff_29 4 rfl ?_
      refine a_cVi (As := [.int r_4, .int v4]) (st := [.int v1]) X fw0 i0 (cX0_offBy_ok l i0 h) mlX0_107 mvX0_offBy (rz rfl) (Nat.le_of_ble_eq_true rfl) rfl dX0_greatestOff_31 (fun r_6 M_5 h => ?_)
      refine a_mmax X mlX0_35 mm_max ⟨by decide, Nat.le_of_ble_eq_true rfl, Nat.le_refl _, Nat.le_refl _⟩ dX0_greatestOff_34 ?_
      refine a_topi (fun x_7 ex_7 => ?_)
      have h := h x_7 ex_7
      refine a_istore_n (lo' := [(1, .int x_7), (2, .int r_4), (0, .ref (al v0)), (3, .int v3), (4, .int v4)]) X dX0_greatestOff_37 rfl (by decide) rfl ?_
      refine a_iinc (v := v4 + 1) (lo' := [(4, .int (v4 + 1)), (1, .int x_7), (2, .int r_4), (0, .ref (al v0)), (3, .int v3)]) X dX0_greatestOff_38 4 rfl (ii_1 _) (by decide) rfl ?_
      refine a_goto (tgt := 12) X dX0_greatestOff_41 (by decide) ?_
      refine a_sub (ks := [3, 1, 2, 4, 0]) (lo' := [(0, .ref (al v0)), (1, .int x_7), (2, .int r_4), (3, .int v3), (4, .int (v4 + 1))]) rfl ?_
      exact ih _ _ _ _ h
set_option maxHeartbeats 4000000 in
set_option maxRecDepth 100000 in
theorem cX0_greatestOff_ok (l : Launch) {G : Gl} {al : Nat → Nat} {mk : Nat} {M : Mem} {v0 : Nat} {Q : Int32 → Mem → Prop} (i0 : Iz mk v0 (0, 0)) (h : wpX0_greatestOff M v0 Q) : Kv l yX0_greatestOff cX0_greatestOff 5 (some .int) rm_X0_greatestOff G al mk M [.ref (al v0)] (QI G al mk Q) := by
  refine a_head (by decide) (Nat.le_of_ble_eq_true rfl) (fun p e s m below meth c X => ?_)
  have X : Cx p s m meth c G RX0 cX0_greatestOff 5 (some .int) := X
  unfold wpX0_greatestOff at h
  refine a_sub (ks := [0]) (lo' := [(0, .ref (al v0))]) rfl ?_
  refine a_iconst (v := 0) X dX0_greatestOff_0 ic_0 ?_
  refine a_istore_n (lo' := [(1, .int 0), (0, .ref (al v0))]) X dX0_greatestOff_1 rfl (by decide) rfl ?_
  refine a_iconst (v := 0) X dX0_greatestOff_2 ic_0 ?_
  refine a_istore_n (lo' := [(2, .int 0), (1, .int 0), (0, .ref (al v0))]) X dX0_greatestOff_3 rfl (by decide) rfl ?_
  refine a_aload_n X dX0_greatestOff_4 rfl 2 rfl ?_
  refine a_cVi (As := []) (st := []) X fw0 i0 (cX0_places_ok l i0 h) mlX0_47 mvX0_places (rz rfl) (Nat.le_of_ble_eq_true rfl) rfl dX0_greatestOff_5 (fun r_2 M_1 h => ?_)
  refine a_istore_n (lo' := [(3, .int r_2), (2, .int 0), (1, .int 0), (0, .ref (al v0))]) X dX0_greatestOff_8 rfl (by decide) rfl ?_
  refine a_iconst (v := 1) X dX0_greatestOff_9 ic_1 ?_
  refine a_istore (lo' := [(4, .int 1), (3, .int r_2), (2, .int 0), (1, .int 0), (0, .ref (al v0))]) X dX0_greatestOff_10 (by decide) rfl ?_
  refine a_sub (ks := [4, 3, 2, 1, 0]) (lo' := [(0, .ref (al v0)), (1, .int 0), (2, .int 0), (3, .int r_2), (4, .int 1)]) rfl ?_
  obtain ⟨n9, h⟩ := h
  exact tX0_greatestOff_12 X i0 n9 _ _ _ _ h
abbrev rm_X0_exactPlaces : Room := { frames := 3, cells := 0, slots := 0, locals := 69 }
def wX0_exactPlaces_12 (Q : Int32 → Mem → Prop) (v0 : Nat) (v3 : Int32) : Nat → Mem → Int32 → Int32 → Int32 → Prop
  | 0, _, _, _, _ => False
  | n + 1, M, v1, v2, v4 => ((v3 < v4 → Q v1 M) ∧ (¬ v3 < v4 → wpX0_nearest M v0 v4 v2 (fun r_4 M_3 => wpX0_offBy M_3 v0 r_4 v4 (fun r_6 M_5 => ((¬ r_6 = 0 → wX0_exactPlaces_12 Q v0 v3 n M_5 v1 r_4 (v4 + 1)) ∧ (r_6 = 0 → wX0_exactPlaces_12 Q v0 v3 n M_5 (v1 + 1) r_4 (v4 + 1)))))))
def wpX0_exactPlaces (M : Mem) (v0 : Nat) (Q : Int32 → Mem → Prop) : Prop := wpX0_places M v0 (fun r_2 M_1 => ∃ n, wX0_exactPlaces_12 Q v0 r_2 n M_1 0 0 1)
set_option maxHeartbeats 4000000 in
set_option maxRecDepth 100000 in
theorem tX0_exactPlaces_12 (X : Cx p s m meth c G RX0 cX0_exactPlaces 5 (some .int)) {Q : Int32 → Mem → Prop} {v0 : Nat} {v3 : Int32} (i0 : Iz mk v0 (0, 0)) : ∀ (n : Nat) (M : Mem) (v1 : Int32) (v2 : Int32) (v4 : Int32), wX0_exactPlaces_12 Q v0 v3 n M v1 v2 v4 → Wa p l e rm_X0_exactPlaces s m args below meth c 5 G al mk 0 0 (MQ below (QI G al mk Q) args s 0 0 (gA G)) M 12 [(0, .ref (al v0)), (1, .int v1), (2, .int v2), (3, .int v3), (4, .int v4)] [] := by
  intro n
  induction n with
  | zero =>
    intro M v1 v2 v4 h
    exact False.elim h
  | succ n ih =>
    intro M v1 v2 v4 h
    rw [wX0_exactPlaces_12] at h
    refine a_iload X dX0_exactPlaces_12 4 rfl ?_
    refine a_iload_n X dX0_exactPlaces_14 rfl 3 rfl ?_
    refine a_icmp_gt (tgt := 45) X dX0_exactPlaces_15 (by decide) (fun z => ?_) (fun z => ?_)
    · have h := h.1 z
      refine a_iload_n X dX0_exactPlaces_45 rfl 1 rfl ?_
      exact a_iret X h dX0_exactPlaces_46
    · have h := h.2 z
      refine a_aload_n X dX0_exactPlaces_18 rfl 0 rfl ?_
      refine a_iload X dX0_exactPlaces_19 4 rfl ?_
      refine a_iload_n X dX0_exactPlaces_21 rfl 2 rfl ?_
      refine a_cVi (As := [.int v4, .int v2]) (st := []) X fw0 i0 (cX0_nearest_ok l i0 h) mlX0_110 mvX0_nearest (rz rfl) (Nat.le_of_ble_eq_true rfl) rfl dX0_exactPlaces_22 (fun r_4 M_3 h => ?_)
      refine a_istore_n (lo' := [(2, .int r_4), (0, .ref (al v0)), (1, .int v1), (3, .int v3), (4, .int v4)]) X dX0_exactPlaces_25 rfl (by decide) rfl ?_
      refine a_aload_n X dX0_exactPlaces_26 rfl 1 rfl ?_
      refine a_iload_n X dX0_exactPlaces_27 rfl 0 rfl ?_
      refine a_iload X dX0_exactPlaces_28 4 rfl ?_
      refine a_cVi (As := [.int r_4, .int v4]) (st := []) X fw0 i0 (cX0_offBy_ok l i0 h) mlX0_107 mvX0_offBy (rz rfl) (Nat.le_of_ble_eq_true rfl) rfl dX0_exactPlaces_30 (fun r_6 M_5 h => ?_)
      refine a_if_ne (tgt := 39) X dX0_exactPlaces_33 (by decide) (fun z => ?_) (fun z => ?_)
      · have h := h.1 z
        refine a_iinc (v := v4 + 1) (lo' := [(4, .int (v4 + 1)), (2, .int r_4), (0, .ref (al v0)), (1, .int v1), (3, .int v3)]) X dX0_exactPlaces_39 4 rfl (ii_1 _) (by decide) rfl ?_
        refine a_goto (tgt := 12) X dX0_exactPlaces_42 (by decide) ?_
        refine a_sub (ks := [2, 3, 1, 4, 0]) (lo' := [(0, .ref (al v0)), (1, .int v1), (2, .int r_4), (3, .int v3), (4, .int (v4 + 1))]) rfl ?_
        exact ih _ _ _ _ h
      · have h := h.2 z
        refine a_iinc (v := v1 + 1) (lo' := [(1, .int (v1 + 1)), (2, .int r_4), (0, .ref (al v0)), (3, .int v3), (4, .int v4)]) X dX0_exactPlaces_36 2 rfl (ii_1 _) (by decide) rfl ?_
        refine a_iinc (v := v4 + 1) (lo' := [(4, .int (v4 + 1)), (1, .int (v1 + 1)), (2, .int r_4), (0, .ref (al v0)), (3, .int v3)]) X dX0_exactPlaces_39 4 rfl (ii_1 _) (by decide) rfl ?_
        refine a_goto (tgt := 12) X dX0_exactPlaces_42 (by decide) ?_
        refine a_sub (ks := [3, 1, 2, 4, 0]) (lo' := [(0, .ref (al v0)), (1, .int (v1 + 1)), (2, .int r_4), (3, .int v3), (4, .int (v4 + 1))]) rfl ?_
        exact ih _ _ _ _ h
set_option maxHeartbeats 4000000 in
set_option maxRecDepth 100000 in
theorem cX0_exactPlaces_ok (l : Launch) {G : Gl} {al : Nat → Nat} {mk : Nat} {M : Mem} {v0 : Nat} {Q : Int32 → Mem → Prop} (i0 : Iz mk v0 (0, 0)) (h : wpX0_exactPlaces M v0 Q) : Kv l yX0_exactPlaces cX0_exactPlaces 5 (some .int) rm_X0_exactPlaces G al mk M [.ref (al v0)] (QI G al mk Q) := by
  refine a_head (by decide) (Nat.le_of_ble_eq_true rfl) (fun p e s m below meth c X => ?_)
  have X : Cx p s m meth c G RX0 cX0_exactPlaces 5 (some .int) := X
  unfold wpX0_exactPlaces at h
  refine a_sub (ks := [0]) (lo' := [(0, .ref (al v0))]) rfl ?_
  refine a_iconst (v := 0) X dX0_exactPlaces_0 ic_0 ?_
  refine a_istore_n (lo' := [(1, .int 0), (0, .ref (al v0))]) X dX0_exactPlaces_1 rfl (by decide) rfl ?_
  refine a_iconst (v := 0) X dX0_exactPlaces_2 ic_0 ?_
  refine a_istore_n (lo' := [(2, .int 0), (1, .int 0), (0, .ref (al v0))]) X dX0_exactPlaces_3 rfl (by decide) rfl ?_
  refine a_aload_n X dX0_exactPlaces_4 rfl 2 rfl ?_
  refine a_cVi (As := []) (st := []) X fw0 i0 (cX0_places_ok l i0 h) mlX0_47 mvX0_places (rz rfl) (Nat.le_of_ble_eq_true rfl) rfl dX0_exactPlaces_5 (fun r_2 M_1 h => ?_)
  refine a_istore_n (lo' := [(3, .int r_2), (2, .int 0), (1, .int 0), (0, .ref (al v0))]) X dX0_exactPlaces_8 rfl (by decide) rfl ?_
  refine a_iconst (v := 1) X dX0_exactPlaces_9 ic_1 ?_
  refine a_istore (lo' := [(4, .int 1), (3, .int r_2), (2, .int 0), (1, .int 0), (0, .ref (al v0))]) X dX0_exactPlaces_10 (by decide) rfl ?_
  refine a_sub (ks := [4, 3, 2, 1, 0]) (lo' := [(0, .ref (al v0)), (1, .int 0), (2, .int 0), (3, .int r_2), (4, .int 1)]) rfl ?_
  obtain ⟨n9, h⟩ := h
  exact tX0_exactPlaces_12 X i0 n9 _ _ _ _ h
abbrev rm_X0_floorAt : Room := { frames := 1, cells := 0, slots := 0, locals := 21 }
def wX0_floorAt_5 (Q : Int32 → Mem → Prop) (v0 : Nat) (v1 : Int32) : Nat → Mem → Int32 → Int32 → Prop
  | 0, _, _, _ => False
  | n + 1, M, v3, v4 => (((gI M v0 4) ≤ v4 → Q v3 M) ∧ (¬ (gI M v0 4) ≤ v4 → (vp_in v4 1000 ∧ ((v1 < (gI M (v0 + 2) (Int32.toNatClampNeg v4)) → Q v3 M) ∧ (¬ v1 < (gI M (v0 + 2) (Int32.toNatClampNeg v4)) → wpX0_high M v0 v4 (fun r_2 M_1 => ((v1 < r_2 → wX0_floorAt_5 Q v0 v1 n M_1 v3 (v4 + 1)) ∧ (¬ v1 < r_2 → wX0_floorAt_5 Q v0 v1 n M_1 v4 (v4 + 1)))))))))
def wpX0_floorAt (M : Mem) (v0 : Nat) (v1 : Int32) (v2 : Int32) (Q : Int32 → Mem → Prop) : Prop := ∃ n, wX0_floorAt_5 Q v0 v1 n M v2 v2
set_option maxHeartbeats 4000000 in
set_option maxRecDepth 100000 in
theorem tX0_floorAt_5 (X : Cx p s m meth c G RX0 cX0_floorAt 5 (some .int)) {Q : Int32 → Mem → Prop} {v0 : Nat} {v1 : Int32} (i0 : Iz mk v0 (0, 0)) : ∀ (n : Nat) (M : Mem) (v3 : Int32) (v4 : Int32), wX0_floorAt_5 Q v0 v1 n M v3 v4 → Wa p l e rm_X0_floorAt s m args below meth c 5 G al mk 0 0 (MQ below (QI G al mk Q) args s 0 0 (gA G)) M 5 [(0, .ref (al v0)), (1, .int v1), (3, .int v3), (4, .int v4)] [] := by
  intro n
  induction n with
  | zero =>
    intro M v3 v4 h
    exact False.elim h
  | succ n ih =>
    intro M v3 v4 h
    rw [wX0_floorAt_5] at h
    refine a_iload X dX0_floorAt_5 3 rfl ?_
    refine a_aload_n X dX0_floorAt_7 rfl 0 rfl ?_
    refine a_getI (k := 4) X fw0 i0 rfl flX0_24 rfl dX0_floorAt_8 ?_
    refine a_icmp_ge (tgt := 44) X dX0_floorAt_11 (by decide) (fun z => ?_) (fun z => ?_)
    · have h := h.1 z
      refine a_iload_n X dX0_floorAt_44 rfl 2 rfl ?_
      exact a_iret X h dX0_floorAt_45
    · have h := h.2 z
      refine a_aload_n X dX0_floorAt_14 rfl 0 rfl ?_
      refine a_getR (k := 1) X 2 (b := (v0 + 2)) fw0 i0 rfl rfl flX0_15 rfl dX0_floorAt_15 ?_
      refine a_iload X dX0_floorAt_18 3 rfl ?_
      refine a_iald X i0.row.2.1 h.1 dX0_floorAt_20 ?_
      have h := h.2
      refine a_iload_n X dX0_floorAt_21 rfl 1 rfl ?_
      refine a_icmp_gt (tgt := 44) X dX0_floorAt_22 (by decide) (fun z => ?_) (fun z => ?_)
      · have h := h.1 z
        refine a_iload_n X dX0_floorAt_44 rfl 2 rfl ?_
        exact a_iret X h dX0_floorAt_45
      · have h := h.2 z
        refine a_aload_n X dX0_floorAt_25 rfl 0 rfl ?_
        refine a_iload X dX0_floorAt_26 3 rfl ?_
        refine a_cVi (As := [.int v4]) (st := []) X fw0 i0 (cX0_high_ok l i0 h) mlX0_44 mvX0_high (rz rfl) (Nat.le_of_ble_eq_true rfl) rfl dX0_floorAt_28 (fun r_2 M_1 h => ?_)
        refine a_iload_n X dX0_floorAt_31 rfl 1 rfl ?_
        refine a_icmp_gt (tgt := 38) X dX0_floorAt_32 (by decide) (fun z => ?_) (fun z => ?_)
        · have h := h.1 z
          refine a_iinc (v := v4 + 1) (lo' := [(4, .int (v4 + 1)), (0, .ref (al v0)), (1, .int v1), (3, .int v3)]) X dX0_floorAt_38 3 rfl (ii_1 _) (by decide) rfl ?_
          refine a_goto (tgt := 5) X dX0_floorAt_41 (by decide) ?_
          refine a_sub (ks := [1, 2, 3, 0]) (lo' := [(0, .ref (al v0)), (1, .int v1), (3, .int v3), (4, .int (v4 + 1))]) rfl ?_
          exact ih _ _ _ h
        · have h := h.2 z
          refine a_iload X dX0_floorAt_35 3 rfl ?_
          refine a_istore_n (lo' := [(3, .int v4), (0, .ref (al v0)), (1, .int v1), (4, .int v4)]) X dX0_floorAt_37 rfl (by decide) rfl ?_
          refine a_iinc (v := v4 + 1) (lo' := [(4, .int (v4 + 1)), (3, .int v4), (0, .ref (al v0)), (1, .int v1)]) X dX0_floorAt_38 3 rfl (ii_1 _) (by decide) rfl ?_
          refine a_goto (tgt := 5) X dX0_floorAt_41 (by decide) ?_
          refine a_sub (ks := [2, 3, 1, 0]) (lo' := [(0, .ref (al v0)), (1, .int v1), (3, .int v4), (4, .int (v4 + 1))]) rfl ?_
          exact ih _ _ _ h
set_option maxHeartbeats 4000000 in
set_option maxRecDepth 100000 in
theorem cX0_floorAt_ok (l : Launch) {G : Gl} {al : Nat → Nat} {mk : Nat} {M : Mem} {v0 : Nat} {v1 : Int32} {v2 : Int32} {Q : Int32 → Mem → Prop} (i0 : Iz mk v0 (0, 0)) (h : wpX0_floorAt M v0 v1 v2 Q) : Kv l yX0_floorAt cX0_floorAt 5 (some .int) rm_X0_floorAt G al mk M [.ref (al v0), .int v1, .int v2] (QI G al mk Q) := by
  refine a_head (by decide) (Nat.le_of_ble_eq_true rfl) (fun p e s m below meth c X => ?_)
  have X : Cx p s m meth c G RX0 cX0_floorAt 5 (some .int) := X
  unfold wpX0_floorAt at h
  refine a_sub (ks := [0, 1, 2]) (lo' := [(0, .ref (al v0)), (1, .int v1), (2, .int v2)]) rfl ?_
  refine a_iload_n X dX0_floorAt_0 rfl 2 rfl ?_
  refine a_istore_n (lo' := [(3, .int v2), (0, .ref (al v0)), (1, .int v1), (2, .int v2)]) X dX0_floorAt_1 rfl (by decide) rfl ?_
  refine a_iload_n X dX0_floorAt_2 rfl 3 rfl ?_
  refine a_istore (lo' := [(4, .int v2), (3, .int v2), (0, .ref (al v0)), (1, .int v1), (2, .int v2)]) X dX0_floorAt_3 (by decide) rfl ?_
  refine a_sub (ks := [2, 3, 1, 0]) (lo' := [(0, .ref (al v0)), (1, .int v1), (3, .int v2), (4, .int v2)]) rfl ?_
  obtain ⟨n9, h⟩ := h
  exact tX0_floorAt_5 X i0 n9 _ _ _ h
abbrev rm_X0_ceilingAt : Room := { frames := 0, cells := 0, slots := 0, locals := 0 }
def wX0_ceilingAt_2 (Q : Int32 → Mem → Prop) (v0 : Nat) (v1 : Int32) : Nat → Mem → Int32 → Prop
  | 0, _, _ => False
  | n + 1, M, v3 => ((((gI M v0 4) - 1) ≤ v3 → Q v3 M) ∧ (¬ ((gI M v0 4) - 1) ≤ v3 → (vp_in v3 1000 ∧ ((v1 ≤ (gI M (v0 + 2) (Int32.toNatClampNeg v3)) → Q v3 M) ∧ (¬ v1 ≤ (gI M (v0 + 2) (Int32.toNatClampNeg v3)) → wX0_ceilingAt_2 Q v0 v1 n M (v3 + 1))))))
def wpX0_ceilingAt (M : Mem) (v0 : Nat) (v1 : Int32) (v2 : Int32) (Q : Int32 → Mem → Prop) : Prop := ∃ n, wX0_ceilingAt_2 Q v0 v1 n M v2
set_option maxHeartbeats 4000000 in
set_option maxRecDepth 100000 in
theorem tX0_ceilingAt_2 (X : Cx p s m meth c G RX0 cX0_ceilingAt 4 (some .int)) {Q : Int32 → Mem → Prop} {v0 : Nat} {v1 : Int32} (i0 : Iz mk v0 (0, 0)) : ∀ (n : Nat) (M : Mem) (v3 : Int32), wX0_ceilingAt_2 Q v0 v1 n M v3 → Wa p l e rm_X0_ceilingAt s m args below meth c 4 G al mk 0 0 (MQ below (QI G al mk Q) args s 0 0 (gA G)) M 2 [(0, .ref (al v0)), (1, .int v1), (3, .int v3)] [] := by
  intro n
  induction n with
  | zero =>
    intro M v3 h
    exact False.elim h
  | succ n ih =>
    intro M v3 h
    rw [wX0_ceilingAt_2] at h
    refine a_iload_n X dX0_ceilingAt_2 rfl 2 rfl ?_
    refine a_aload_n X dX0_ceilingAt_3 rfl 0 rfl ?_
    refine a_getI (k := 4) X fw0 i0 rfl flX0_24 rfl dX0_ceilingAt_4 ?_
    refine a_iconst (v := 1) X dX0_ceilingAt_7 ic_1 ?_
    refine a_isub X dX0_ceilingAt_8 ?_
    refine a_icmp_ge (tgt := 28) X dX0_ceilingAt_9 (by decide) (fun z => ?_) (fun z => ?_)
    · have h := h.1 z
      refine a_iload_n X dX0_ceilingAt_28 rfl 2 rfl ?_
      exact a_iret X h dX0_ceilingAt_29
    · have h := h.2 z
      refine a_aload_n X dX0_ceilingAt_12 rfl 0 rfl ?_
      refine a_getR (k := 1) X 2 (b := (v0 + 2)) fw0 i0 rfl rfl flX0_15 rfl dX0_ceilingAt_13 ?_
      refine a_iload_n X dX0_ceilingAt_16 rfl 2 rfl ?_
      refine a_iald X i0.row.2.1 h.1 dX0_ceilingAt_17 ?_
      have h := h.2
      refine a_iload_n X dX0_ceilingAt_18 rfl 1 rfl ?_
      refine a_icmp_ge (tgt := 28) X dX0_ceilingAt_19 (by decide) (fun z => ?_) (fun z => ?_)
      · have h := h.1 z
        refine a_iload_n X dX0_ceilingAt_28 rfl 2 rfl ?_
        exact a_iret X h dX0_ceilingAt_29
      · have h := h.2 z
        refine a_iinc (v := v3 + 1) (lo' := [(3, .int (v3 + 1)), (0, .ref (al v0)), (1, .int v1)]) X dX0_ceilingAt_22 2 rfl (ii_1 _) (by decide) rfl ?_
        refine a_goto (tgt := 2) X dX0_ceilingAt_25 (by decide) ?_
        refine a_sub (ks := [1, 2, 0]) (lo' := [(0, .ref (al v0)), (1, .int v1), (3, .int (v3 + 1))]) rfl ?_
        exact ih _ _ h
set_option maxHeartbeats 4000000 in
set_option maxRecDepth 100000 in
theorem cX0_ceilingAt_ok (l : Launch) {G : Gl} {al : Nat → Nat} {mk : Nat} {M : Mem} {v0 : Nat} {v1 : Int32} {v2 : Int32} {Q : Int32 → Mem → Prop} (i0 : Iz mk v0 (0, 0)) (h : wpX0_ceilingAt M v0 v1 v2 Q) : Kv l yX0_ceilingAt cX0_ceilingAt 4 (some .int) rm_X0_ceilingAt G al mk M [.ref (al v0), .int v1, .int v2] (QI G al mk Q) := by
  refine a_head (by decide) (Nat.le_of_ble_eq_true rfl) (fun p e s m below meth c X => ?_)
  have X : Cx p s m meth c G RX0 cX0_ceilingAt 4 (some .int) := X
  unfold wpX0_ceilingAt at h
  refine a_sub (ks := [0, 1, 2]) (lo' := [(0, .ref (al v0)), (1, .int v1), (2, .int v2)]) rfl ?_
  refine a_iload_n X dX0_ceilingAt_0 rfl 2 rfl ?_
  refine a_istore_n (lo' := [(3, .int v2), (0, .ref (al v0)), (1, .int v1), (2, .int v2)]) X dX0_ceilingAt_1 rfl (by decide) rfl ?_
  refine a_sub (ks := [1, 2, 0]) (lo' := [(0, .ref (al v0)), (1, .int v1), (3, .int v2)]) rfl ?_
  obtain ⟨n9, h⟩ := h
  exact tX0_ceilingAt_2 X i0 n9 _ _ h
abbrev rm_X0_doubts : Room := { frames := 2, cells := 0, slots := 0, locals := 45 }
def wX0_doubts_19 (Q : Int32 → Mem → Prop) (v0 : Nat) (v1 : Int32) (v6 : Int32) : Nat → Mem → Int32 → Int32 → Int32 → Int32 → Int32 → Prop
  | 0, _, _, _, _, _, _ => False
  | n + 1, M, v2, v3, v4, v5, v7 => ((v6 < v7 → ((v1 = 0 → Q v2 M) ∧ (¬ v1 = 0 → Q v3 M))) ∧ (¬ v6 < v7 → wpX0_floorAt M v0 v7 v4 (fun r_4 M_3 => wpX0_ceilingAt M_3 v0 v7 v5 (fun r_6 M_5 => (vp_in r_6 1000 ∧ (vp_in r_4 1000 ∧ (∀ x_7 : Int32, x_7 = ((gI M_5 (v0 + 1) (Int32.toNatClampNeg r_6)) - (gI M_5 (v0 + 1) (Int32.toNatClampNeg r_4))) → (∀ x_8 : Int32, x_8 = (if v3 < x_7 then x_7 else v3) → ((x_7 = 0 → (∀ x_9 : Int32, x_9 = (v2 + 0) → wX0_doubts_19 Q v0 v1 v6 n M_5 x_9 x_8 r_4 r_6 (v7 + 1))) ∧ (¬ x_7 = 0 → (∀ x_10 : Int32, x_10 = (v2 + 1) → wX0_doubts_19 Q v0 v1 v6 n M_5 x_10 x_8 r_4 r_6 (v7 + 1))))))))))))
def wpX0_doubts (M : Mem) (v0 : Nat) (v1 : Int32) (Q : Int32 → Mem → Prop) : Prop := wpX0_places M v0 (fun r_2 M_1 => ∃ n, wX0_doubts_19 Q v0 v1 r_2 n M_1 0 0 0 0 1)
set_option maxHeartbeats 4000000 in
set_option maxRecDepth 100000 in
theorem tX0_doubts_19 (X : Cx p s m meth c G RX0 cX0_doubts 9 (some .int)) {Q : Int32 → Mem → Prop} {v0 : Nat} {v1 : Int32} {v6 : Int32} (i0 : Iz mk v0 (0, 0)) : ∀ (n : Nat) (M : Mem) (v2 : Int32) (v3 : Int32) (v4 : Int32) (v5 : Int32) (v7 : Int32), wX0_doubts_19 Q v0 v1 v6 n M v2 v3 v4 v5 v7 → Wa p l e rm_X0_doubts s m args below meth c 9 G al mk 0 0 (MQ below (QI G al mk Q) args s 0 0 (gA G)) M 19 [(0, .ref (al v0)), (1, .int v1), (2, .int v2), (3, .int v3), (4, .int v4), (5, .int v5), (6, .int v6), (7, .int v7)] [] := by
  intro n
  induction n with
  | zero =>
    intro M v2 v3 v4 v5 v7 h
    exact False.elim h
  | succ n ih =>
    intro M v2 v3 v4 v5 v7 h
    rw [wX0_doubts_19] at h
    refine a_iload X dX0_doubts_19 7 rfl ?_
    refine a_iload X dX0_doubts_21 6 rfl ?_
    refine a_icmp_gt (tgt := 89) X dX0_doubts_23 (by decide) (fun z => ?_) (fun z => ?_)
    · have h := h.1 z
      refine a_iload_n X dX0_doubts_89 rfl 1 rfl ?_
      refine a_if_eq (tgt := 97) X dX0_doubts_90 (by decide) (fun z => ?_) (fun z => ?_)
      · have h := h.1 z
        refine a_iload_n X dX0_doubts_97 rfl 2 rfl ?_
        exact a_iret X h dX0_doubts_98
      · have h := h.2 z
        refine a_iload_n X dX0_doubts_93 rfl 3 rfl ?_
        refine a_goto (tgt := 98) X dX0_doubts_94 (by decide) ?_
        exact a_iret X h dX0_doubts_98
    · have h := h.2 z
      refine a_aload_n X dX0_doubts_26 rfl 0 rfl ?_
      refine a_iload X dX0_doubts_27 7 rfl ?_
      refine a_iload X dX0_doubts_29 4 rfl ?_
      refine a_cVi (As := [.int v7, .int v4]) (st := []) X fw0 i0 (cX0_floorAt_ok l i0 h) mlX0_113 mvX0_floorAt (rz rfl) (Nat.le_of_ble_eq_true rfl) rfl dX0_doubts_31 (fun r_4 M_3 h => ?_)
      refine a_istore (lo' := [(4, .int r_4), (0, .ref (al v0)), (1, .int v1), (2, .int v2), (3, .int v3), (5, .int v5), (6, .int v6), (7, .int v7)]) X dX0_doubts_34 (by decide) rfl ?_
      refine a_aload_n X dX0_doubts_36 rfl 1 rfl ?_
      refine a_iload X dX0_doubts_37 7 rfl ?_
      refine a_iload X dX0_doubts_39 5 rfl ?_
      refine a_cVi (As := [.int v7, .int v5]) (st := []) X fw0 i0 (cX0_ceilingAt_ok l i0 h) mlX0_116 mvX0_ceilingAt (rz rfl) (Nat.le_of_ble_eq_true rfl) rfl dX0_doubts_41 (fun r_6 M_5 h => ?_)
      refine a_istore (lo' := [(5, .int r_6), (4, .int r_4), (0, .ref (al v0)), (1, .int v1), (2, .int v2), (3, .int v3), (6, .int v6), (7, .int v7)]) X dX0_doubts_44 (by decide) rfl ?_
      refine a_aload_n X dX0_doubts_46 rfl 2 rfl ?_
      refine a_getR (k := 0) X 1 (b := (v0 + 1)) fw0 i0 rfl rfl flX0_9 rfl dX0_doubts_47 ?_
      refine a_iload X dX0_doubts_50 0 rfl ?_
      refine a_iald X i0.row.1 h.1 dX0_doubts_52 ?_
      have h := h.2
      refine a_aload_n X dX0_doubts_53 rfl 2 rfl ?_
      refine a_getR (k := 0) X 1 (b := (v0 + 1)) fw0 i0 rfl rfl flX0_9 rfl dX0_doubts_54 ?_
      refine a_iload X dX0_doubts_57 1 rfl ?_
      refine a_iald X i0.row.1 h.1 dX0_doubts_59 ?_
      have h := h.2
      refine a_isub X dX0_doubts_60 ?_
      refine a_topi (fun x_7 ex_7 => ?_)
      have h := h x_7 ex_7
      refine a_istore (lo' := [(8, .int x_7), (5, .int r_6), (4, .int r_4), (0, .ref (al v0)), (1, .int v1), (2, .int v2), (3, .int v3), (6, .int v6), (7, .int v7)]) X dX0_doubts_61 (by decide) rfl ?_
      refine a_iload_n X dX0_doubts_63 rfl 6 rfl ?_
      refine a_iload X dX0_doubts_64 0 rfl ?_
      refine a_mmax X mlX0_35 mm_max ⟨by decide, Nat.le_of_ble_eq_true rfl, Nat.le_refl _, Nat.le_refl _⟩ dX0_doubts_66 ?_
      refine a_topi (fun x_8 ex_8 => ?_)
      have h := h x_8 ex_8
      refine a_istore_n (lo' := [(3, .int x_8), (8, .int x_7), (5, .int r_6), (4, .int r_4), (0, .ref (al v0)), (1, .int v1), (2, .int v2), (6, .int v6), (7, .int v7)]) X dX0_doubts_69 rfl (by decide) rfl ?_
      refine a_iload_n X dX0_doubts_70 rfl 6 rfl ?_
      refine a_iload X dX0_doubts_71 1 rfl ?_
      refine a_if_eq (tgt := 80) X dX0_doubts_73 (by decide) (fun z => ?_) (fun z => ?_)
      · have h := h.1 z
        refine a_iconst (v := 0) X dX0_doubts_80 ic_0 ?_
        refine a_iadd X dX0_doubts_81 ?_
        refine a_topi (fun x_9 ex_9 => ?_)
        have h := h x_9 ex_9
        refine a_istore_n (lo' := [(2, .int x_9), (3, .int x_8), (8, .int x_7), (5, .int r_6), (4, .int r_4), (0, .ref (al v0)), (1, .int v1), (6, .int v6), (7, .int v7)]) X dX0_doubts_82 rfl (by decide) rfl ?_
        refine a_iinc (v := v7 + 1) (lo' := [(7, .int (v7 + 1)), (2, .int x_9), (3, .int x_8), (8, .int x_7), (5, .int r_6), (4, .int r_4), (0, .ref (al v0)), (1, .int v1), (6, .int v6)]) X dX0_doubts_83 8 rfl (ii_1 _) (by decide) rfl ?_
        refine a_goto (tgt := 19) X dX0_doubts_86 (by decide) ?_
        refine a_sub (ks := [6, 7, 1, 2, 5, 4, 8, 0]) (lo' := [(0, .ref (al v0)), (1, .int v1), (2, .int x_9), (3, .int x_8), (4, .int r_4), (5, .int r_6), (6, .int v6), (7, .int (v7 + 1))]) rfl ?_
        exact ih _ _ _ _ _ _ h
      · have h := h.2 z
        refine a_iconst (v := 1) X dX0_doubts_76 ic_1 ?_
        refine a_goto (tgt := 81) X dX0_doubts_77 (by decide) ?_
        refine a_iadd X dX0_doubts_81 ?_
        refine a_topi (fun x_10 ex_10 => ?_)
        have h := h x_10 ex_10
        refine a_istore_n (lo' := [(2, .int x_10), (3, .int x_8), (8, .int x_7), (5, .int r_6), (4, .int r_4), (0, .ref (al v0)), (1, .int v1), (6, .int v6), (7, .int v7)]) X dX0_doubts_82 rfl (by decide) rfl ?_
        refine a_iinc (v := v7 + 1) (lo' := [(7, .int (v7 + 1)), (2, .int x_10), (3, .int x_8), (8, .int x_7), (5, .int r_6), (4, .int r_4), (0, .ref (al v0)), (1, .int v1), (6, .int v6)]) X dX0_doubts_83 8 rfl (ii_1 _) (by decide) rfl ?_
        refine a_goto (tgt := 19) X dX0_doubts_86 (by decide) ?_
        refine a_sub (ks := [6, 7, 1, 2, 5, 4, 8, 0]) (lo' := [(0, .ref (al v0)), (1, .int v1), (2, .int x_10), (3, .int x_8), (4, .int r_4), (5, .int r_6), (6, .int v6), (7, .int (v7 + 1))]) rfl ?_
        exact ih _ _ _ _ _ _ h
set_option maxHeartbeats 4000000 in
set_option maxRecDepth 100000 in
theorem cX0_doubts_ok (l : Launch) {G : Gl} {al : Nat → Nat} {mk : Nat} {M : Mem} {v0 : Nat} {v1 : Int32} {Q : Int32 → Mem → Prop} (i0 : Iz mk v0 (0, 0)) (h : wpX0_doubts M v0 v1 Q) : Kv l yX0_doubts cX0_doubts 9 (some .int) rm_X0_doubts G al mk M [.ref (al v0), .int v1] (QI G al mk Q) := by
  refine a_head (by decide) (Nat.le_of_ble_eq_true rfl) (fun p e s m below meth c X => ?_)
  have X : Cx p s m meth c G RX0 cX0_doubts 9 (some .int) := X
  unfold wpX0_doubts at h
  refine a_sub (ks := [0, 1]) (lo' := [(0, .ref (al v0)), (1, .int v1)]) rfl ?_
  refine a_iconst (v := 0) X dX0_doubts_0 ic_0 ?_
  refine a_istore_n (lo' := [(2, .int 0), (0, .ref (al v0)), (1, .int v1)]) X dX0_doubts_1 rfl (by decide) rfl ?_
  refine a_iconst (v := 0) X dX0_doubts_2 ic_0 ?_
  refine a_istore_n (lo' := [(3, .int 0), (2, .int 0), (0, .ref (al v0)), (1, .int v1)]) X dX0_doubts_3 rfl (by decide) rfl ?_
  refine a_iconst (v := 0) X dX0_doubts_4 ic_0 ?_
  refine a_istore (lo' := [(4, .int 0), (3, .int 0), (2, .int 0), (0, .ref (al v0)), (1, .int v1)]) X dX0_doubts_5 (by decide) rfl ?_
  refine a_iconst (v := 0) X dX0_doubts_7 ic_0 ?_
  refine a_istore (lo' := [(5, .int 0), (4, .int 0), (3, .int 0), (2, .int 0), (0, .ref (al v0)), (1, .int v1)]) X dX0_doubts_8 (by decide) rfl ?_
  refine a_aload_n X dX0_doubts_10 rfl 4 rfl ?_
  refine a_cVi (As := []) (st := []) X fw0 i0 (cX0_places_ok l i0 h) mlX0_47 mvX0_places (rz rfl) (Nat.le_of_ble_eq_true rfl) rfl dX0_doubts_11 (fun r_2 M_1 h => ?_)
  refine a_istore (lo' := [(6, .int r_2), (5, .int 0), (4, .int 0), (3, .int 0), (2, .int 0), (0, .ref (al v0)), (1, .int v1)]) X dX0_doubts_14 (by decide) rfl ?_
  refine a_iconst (v := 1) X dX0_doubts_16 ic_1 ?_
  refine a_istore (lo' := [(7, .int 1), (6, .int r_2), (5, .int 0), (4, .int 0), (3, .int 0), (2, .int 0), (0, .ref (al v0)), (1, .int v1)]) X dX0_doubts_17 (by decide) rfl ?_
  refine a_sub (ks := [6, 7, 5, 4, 3, 2, 1, 0]) (lo' := [(0, .ref (al v0)), (1, .int v1), (2, .int 0), (3, .int 0), (4, .int 0), (5, .int 0), (6, .int r_2), (7, .int 1)]) rfl ?_
  obtain ⟨n9, h⟩ := h
  exact tX0_doubts_19 X i0 n9 _ _ _ _ _ _ h
abbrev rm_X0_sumOfPlaces : Room := { frames := 2, cells := 0, slots := 0, locals := 45 }
def wX0_sumOfPlaces_13 (Q : Int32 → Mem → Prop) (v0 : Nat) (v1 : Int32) (v4 : Int32) : Nat → Mem → Int32 → Int32 → Int32 → Prop
  | 0, _, _, _, _ => False
  | n + 1, M, v2, v3, v5 => ((v4 < v5 → Q v2 M) ∧ (¬ v4 < v5 → ((v1 = 0 → wpX0_floorAt M v0 v5 v3 (fun r_4 M_3 => (vp_in r_4 1000 ∧ (∀ x_5 : Int32, x_5 = (v2 + (gI M_3 (v0 + 1) (Int32.toNatClampNeg r_4))) → wX0_sumOfPlaces_13 Q v0 v1 v4 n M_3 x_5 r_4 (v5 + 1))))) ∧ (¬ v1 = 0 → wpX0_ceilingAt M v0 v5 v3 (fun r_7 M_6 => (vp_in r_7 1000 ∧ (∀ x_8 : Int32, x_8 = (v2 + (gI M_6 (v0 + 1) (Int32.toNatClampNeg r_7))) → wX0_sumOfPlaces_13 Q v0 v1 v4 n M_6 x_8 r_7 (v5 + 1))))))))
def wpX0_sumOfPlaces (M : Mem) (v0 : Nat) (v1 : Int32) (Q : Int32 → Mem → Prop) : Prop := wpX0_places M v0 (fun r_2 M_1 => ∃ n, wX0_sumOfPlaces_13 Q v0 v1 r_2 n M_1 0 0 1)
set_option maxHeartbeats 4000000 in
set_option maxRecDepth 100000 in
theorem tX0_sumOfPlaces_13 (X : Cx p s m meth c G RX0 cX0_sumOfPlaces 6 (some .int)) {Q : Int32 → Mem → Prop} {v0 : Nat} {v1 : Int32} {v4 : Int32} (i0 : Iz mk v0 (0, 0)) : ∀ (n : Nat) (M : Mem) (v2 : Int32) (v3 : Int32) (v5 : Int32), wX0_sumOfPlaces_13 Q v0 v1 v4 n M v2 v3 v5 → Wa p l e rm_X0_sumOfPlaces s m args below meth c 6 G al mk 0 0 (MQ below (QI G al mk Q) args s 0 0 (gA G)) M 13 [(0, .ref (al v0)), (1, .int v1), (2, .int v2), (3, .int v3), (4, .int v4), (5, .int v5)] [] := by
  intro n
  induction n with
  | zero =>
    intro M v2 v3 v5 h
    exact False.elim h
  | succ n ih =>
    intro M v2 v3 v5 h
    rw [wX0_sumOfPlaces_13] at h
    refine a_iload X dX0_sumOfPlaces_13 5 rfl ?_
    refine a_iload X dX0_sumOfPlaces_15 4 rfl ?_
    refine a_icmp_gt (tgt := 57) X dX0_sumOfPlaces_17 (by decide) (fun z => ?_) (fun z => ?_)
    · have h := h.1 z
      refine a_iload_n X dX0_sumOfPlaces_57 rfl 2 rfl ?_
      exact a_iret X h dX0_sumOfPlaces_58
    · have h := h.2 z
      refine a_iload_n X dX0_sumOfPlaces_20 rfl 1 rfl ?_
      refine a_if_eq (tgt := 34) X dX0_sumOfPlaces_21 (by decide) (fun z => ?_) (fun z => ?_)
      · have h := h.1 z
        refine a_aload_n X dX0_sumOfPlaces_34 rfl 0 rfl ?_
        refine a_iload X dX0_sumOfPlaces_35 5 rfl ?_
        refine a_iload_n X dX0_sumOfPlaces_37 rfl 3 rfl ?_
        refine a_cVi (As := [.int v5, .int v3]) (st := []) X fw0 i0 (cX0_floorAt_ok l i0 h) mlX0_113 mvX0_floorAt (rz rfl) (Nat.le_of_ble_eq_true rfl) rfl dX0_sumOfPlaces_38 (fun r_4 M_3 h => ?_)
        refine a_istore_n (lo' := [(3, .int r_4), (0, .ref (al v0)), (1, .int v1), (2, .int v2), (4, .int v4), (5, .int v5)]) X dX0_sumOfPlaces_41 rfl (by decide) rfl ?_
        refine a_iload_n X dX0_sumOfPlaces_42 rfl 3 rfl ?_
        refine a_aload_n X dX0_sumOfPlaces_43 rfl 1 rfl ?_
        refine a_getR (k := 0) X 1 (b := (v0 + 1)) fw0 i0 rfl rfl flX0_9 rfl dX0_sumOfPlaces_44 ?_
        refine a_iload_n X dX0_sumOfPlaces_47 rfl 0 rfl ?_
        refine a_iald X i0.row.1 h.1 dX0_sumOfPlaces_48 ?_
        have h := h.2
        refine a_iadd X dX0_sumOfPlaces_49 ?_
        refine a_topi (fun x_5 ex_5 => ?_)
        have h := h x_5 ex_5
        refine a_istore_n (lo' := [(2, .int x_5), (3, .int r_4), (0, .ref (al v0)), (1, .int v1), (4, .int v4), (5, .int v5)]) X dX0_sumOfPlaces_50 rfl (by decide) rfl ?_
        refine a_iinc (v := v5 + 1) (lo' := [(5, .int (v5 + 1)), (2, .int x_5), (3, .int r_4), (0, .ref (al v0)), (1, .int v1), (4, .int v4)]) X dX0_sumOfPlaces_51 5 rfl (ii_1 _) (by decide) rfl ?_
        refine a_goto (tgt := 13) X dX0_sumOfPlaces_54 (by decide) ?_
        refine a_sub (ks := [3, 4, 1, 2, 5, 0]) (lo' := [(0, .ref (al v0)), (1, .int v1), (2, .int x_5), (3, .int r_4), (4, .int v4), (5, .int (v5 + 1))]) rfl ?_
        exact ih _ _ _ _ h
      · have h := h.2 z
        refine a_aload_n X dX0_sumOfPlaces_24 rfl 0 rfl ?_
        refine a_iload X dX0_sumOfPlaces_25 5 rfl ?_
        refine a_iload_n X dX0_sumOfPlaces_27 rfl 3 rfl ?_
        refine a_cVi (As := [.int v5, .int v3]) (st := []) X fw0 i0 (cX0_ceilingAt_ok l i0 h) mlX0_116 mvX0_ceilingAt (rz rfl) (Nat.le_of_ble_eq_true rfl) rfl dX0_sumOfPlaces_28 (fun r_7 M_6 h => ?_)
        refine a_goto (tgt := 41) X dX0_sumOfPlaces_31 (by decide) ?_
        refine a_istore_n (lo' := [(3, .int r_7), (0, .ref (al v0)), (1, .int v1), (2, .int v2), (4, .int v4), (5, .int v5)]) X dX0_sumOfPlaces_41 rfl (by decide) rfl ?_
        refine a_iload_n X dX0_sumOfPlaces_42 rfl 3 rfl ?_
        refine a_aload_n X dX0_sumOfPlaces_43 rfl 1 rfl ?_
        refine a_getR (k := 0) X 1 (b := (v0 + 1)) fw0 i0 rfl rfl flX0_9 rfl dX0_sumOfPlaces_44 ?_
        refine a_iload_n X dX0_sumOfPlaces_47 rfl 0 rfl ?_
        refine a_iald X i0.row.1 h.1 dX0_sumOfPlaces_48 ?_
        have h := h.2
        refine a_iadd X dX0_sumOfPlaces_49 ?_
        refine a_topi (fun x_8 ex_8 => ?_)
        have h := h x_8 ex_8
        refine a_istore_n (lo' := [(2, .int x_8), (3, .int r_7), (0, .ref (al v0)), (1, .int v1), (4, .int v4), (5, .int v5)]) X dX0_sumOfPlaces_50 rfl (by decide) rfl ?_
        refine a_iinc (v := v5 + 1) (lo' := [(5, .int (v5 + 1)), (2, .int x_8), (3, .int r_7), (0, .ref (al v0)), (1, .int v1), (4, .int v4)]) X dX0_sumOfPlaces_51 5 rfl (ii_1 _) (by decide) rfl ?_
        refine a_goto (tgt := 13) X dX0_sumOfPlaces_54 (by decide) ?_
        refine a_sub (ks := [3, 4, 1, 2, 5, 0]) (lo' := [(0, .ref (al v0)), (1, .int v1), (2, .int x_8), (3, .int r_7), (4, .int v4), (5, .int (v5 + 1))]) rfl ?_
        exact ih _ _ _ _ h
set_option maxHeartbeats 4000000 in
set_option maxRecDepth 100000 in
theorem cX0_sumOfPlaces_ok (l : Launch) {G : Gl} {al : Nat → Nat} {mk : Nat} {M : Mem} {v0 : Nat} {v1 : Int32} {Q : Int32 → Mem → Prop} (i0 : Iz mk v0 (0, 0)) (h : wpX0_sumOfPlaces M v0 v1 Q) : Kv l yX0_sumOfPlaces cX0_sumOfPlaces 6 (some .int) rm_X0_sumOfPlaces G al mk M [.ref (al v0), .int v1] (QI G al mk Q) := by
  refine a_head (by decide) (Nat.le_of_ble_eq_true rfl) (fun p e s m below meth c X => ?_)
  have X : Cx p s m meth c G RX0 cX0_sumOfPlaces 6 (some .int) := X
  unfold wpX0_sumOfPlaces at h
  refine a_sub (ks := [0, 1]) (lo' := [(0, .ref (al v0)), (1, .int v1)]) rfl ?_
  refine a_iconst (v := 0) X dX0_sumOfPlaces_0 ic_0 ?_
  refine a_istore_n (lo' := [(2, .int 0), (0, .ref (al v0)), (1, .int v1)]) X dX0_sumOfPlaces_1 rfl (by decide) rfl ?_
  refine a_iconst (v := 0) X dX0_sumOfPlaces_2 ic_0 ?_
  refine a_istore_n (lo' := [(3, .int 0), (2, .int 0), (0, .ref (al v0)), (1, .int v1)]) X dX0_sumOfPlaces_3 rfl (by decide) rfl ?_
  refine a_aload_n X dX0_sumOfPlaces_4 rfl 2 rfl ?_
  refine a_cVi (As := []) (st := []) X fw0 i0 (cX0_places_ok l i0 h) mlX0_47 mvX0_places (rz rfl) (Nat.le_of_ble_eq_true rfl) rfl dX0_sumOfPlaces_5 (fun r_2 M_1 h => ?_)
  refine a_istore (lo' := [(4, .int r_2), (3, .int 0), (2, .int 0), (0, .ref (al v0)), (1, .int v1)]) X dX0_sumOfPlaces_8 (by decide) rfl ?_
  refine a_iconst (v := 1) X dX0_sumOfPlaces_10 ic_1 ?_
  refine a_istore (lo' := [(5, .int 1), (4, .int r_2), (3, .int 0), (2, .int 0), (0, .ref (al v0)), (1, .int v1)]) X dX0_sumOfPlaces_11 (by decide) rfl ?_
  refine a_sub (ks := [4, 5, 3, 2, 1, 0]) (lo' := [(0, .ref (al v0)), (1, .int v1), (2, .int 0), (3, .int 0), (4, .int r_2), (5, .int 1)]) rfl ?_
  obtain ⟨n9, h⟩ := h
  exact tX0_sumOfPlaces_13 X i0 n9 _ _ _ _ h
abbrev rm_X0_heavyValue : Room := { frames := 4, cells := 0, slots := 0, locals := 86 }
def wX0_heavyValue_49 (Q : Int32 → Mem → Prop) (K11 : Mem → Int32 → Int32 → Prop) (M : Mem) (v0 : Nat) (v1 : Int32) (v3 : Int32) (v4 : Int32) (v5 : Int32) (s0 : Int32) : Prop := ((¬ s0 = 0 → K11 M v4 (v5 + 1)) ∧ (s0 = 0 → (vp_in v5 1000 ∧ (vp_in v5 1000 ∧ wpX0_countAbove M v0 ((gI M (v0 + 1) (Int32.toNatClampNeg v5)) - 1) (gI M (v0 + 1) (Int32.toNatClampNeg v5)) 0 (fun r_4 M_3 => (((r_4 * v1) < v3 → K11 M_3 v4 (v5 + 1)) ∧ (¬ (r_4 * v1) < v3 → ((¬ v4 = 0 → K11 M_3 (v4 + (-1)) (v5 + 1)) ∧ (v4 = 0 → (vp_in v5 1000 ∧ Q (gI M_3 (v0 + 1) (Int32.toNatClampNeg v5)) M_3))))))))))
def wX0_heavyValue_11 (Q : Int32 → Mem → Prop) (v0 : Nat) (v1 : Int32) (v3 : Int32) : Nat → Mem → Int32 → Int32 → Prop
  | 0, _, _, _ => False
  | n + 1, M, v4, v5 => (((gI M v0 4) ≤ v5 → Q (-2) M) ∧ (¬ (gI M v0 4) ≤ v5 → ((v5 ≤ 0 → wX0_heavyValue_49 Q (wX0_heavyValue_11 Q v0 v1 v3 n) M v0 v1 v3 v4 v5 0) ∧ (¬ v5 ≤ 0 → (vp_in v5 1000 ∧ (vp_in (v5 - 1) 1000 ∧ ((¬ (gI M (v0 + 1) (Int32.toNatClampNeg v5)) = (gI M (v0 + 1) (Int32.toNatClampNeg (v5 - 1))) → wX0_heavyValue_49 Q (wX0_heavyValue_11 Q v0 v1 v3 n) M v0 v1 v3 v4 v5 0) ∧ ((gI M (v0 + 1) (Int32.toNatClampNeg v5)) = (gI M (v0 + 1) (Int32.toNatClampNeg (v5 - 1))) → wX0_heavyValue_49 Q (wX0_heavyValue_11 Q v0 v1 v3 n) M v0 v1 v3 v4 v5 1))))))))
def wpX0_heavyValue (M : Mem) (v0 : Nat) (v1 : Int32) (v2 : Int32) (Q : Int32 → Mem → Prop) : Prop := wpX0_places M v0 (fun r_2 M_1 => ∃ n, wX0_heavyValue_11 Q v0 v1 r_2 n M_1 v2 0)
set_option maxHeartbeats 4000000 in
set_option maxRecDepth 100000 in
theorem tX0_heavyValue_49 (X : Cx p s m meth c G RX0 cX0_heavyValue 7 (some .int)) {Q : Int32 → Mem → Prop} {K11 : Mem → Int32 → Int32 → Prop} {v0 : Nat} {v1 : Int32} {v3 : Int32} {v4 : Int32} {v5 : Int32} {s0 : Int32} (i0 : Iz mk v0 (0, 0)) (hK11 : ∀ (M : Mem) (v4 : Int32) (v5 : Int32), K11 M v4 v5 → Wa p l e rm_X0_heavyValue s m args below meth c 7 G al mk 0 0 (MQ below (QI G al mk Q) args s 0 0 (gA G)) M 11 [(0, .ref (al v0)), (1, .int v1), (3, .int v3), (4, .int v4), (5, .int v5)] []) {M : Mem} (h : wX0_heavyValue_49 Q K11 M v0 v1 v3 v4 v5 s0) : Wa p l e rm_X0_heavyValue s m args below meth c 7 G al mk 0 0 (MQ below (QI G al mk Q) args s 0 0 (gA G)) M 49 [(0, .ref (al v0)), (1, .int v1), (3, .int v3), (4, .int v4), (5, .int v5)] [.int s0] := by
  unfold wX0_heavyValue_49 at h
  refine a_istore (lo' := [(6, .int s0), (0, .ref (al v0)), (1, .int v1), (3, .int v3), (4, .int v4), (5, .int v5)]) X dX0_heavyValue_49 (by decide) rfl ?_
  refine a_iload X dX0_heavyValue_51 0 rfl ?_
  refine a_if_ne (tgt := 99) X dX0_heavyValue_53 (by decide) (fun z => ?_) (fun z => ?_)
  · have h := h.1 z
    refine a_iinc (v := v5 + 1) (lo' := [(5, .int (v5 + 1)), (6, .int s0), (0, .ref (al v0)), (1, .int v1), (3, .int v3), (4, .int v4)]) X dX0_heavyValue_99 5 rfl (ii_1 _) (by decide) rfl ?_
    refine a_goto (tgt := 11) X dX0_heavyValue_102 (by decide) ?_
    refine a_sub (ks := [2, 3, 4, 5, 0]) (lo' := [(0, .ref (al v0)), (1, .int v1), (3, .int v3), (4, .int v4), (5, .int (v5 + 1))]) rfl ?_
    exact hK11 _ _ _ h
  · have h := h.2 z
    refine a_aload_n X dX0_heavyValue_56 rfl 1 rfl ?_
    refine a_aload_n X dX0_heavyValue_57 rfl 1 rfl ?_
    refine a_getR (k := 0) X 1 (b := (v0 + 1)) fw0 i0 rfl rfl flX0_9 rfl dX0_heavyValue_58 ?_
    refine a_iload X dX0_heavyValue_61 5 rfl ?_
    refine a_iald X i0.row.1 h.1 dX0_heavyValue_63 ?_
    have h := h.2
    refine a_iconst (v := 1) X dX0_heavyValue_64 ic_1 ?_
    refine a_isub X dX0_heavyValue_65 ?_
    refine a_aload_n X dX0_heavyValue_66 rfl 1 rfl ?_
    refine a_getR (k := 0) X 1 (b := (v0 + 1)) fw0 i0 rfl rfl flX0_9 rfl dX0_heavyValue_67 ?_
    refine a_iload X dX0_heavyValue_70 5 rfl ?_
    refine a_iald X i0.row.1 h.1 dX0_heavyValue_72 ?_
    have h := h.2
    refine a_iconst (v := 0) X dX0_heavyValue_73 ic_0 ?_
    refine a_cVi (As := [.int ((gI M (v0 + 1) (Int32.toNatClampNeg v5)) - 1), .int (gI M (v0 + 1) (Int32.toNatClampNeg v5)), .int 0]) (st := []) X fw0 i0 (cX0_countAbove_ok l i0 h) mlX0_119 mvX0_countAbove (rz rfl) (Nat.le_of_ble_eq_true rfl) rfl dX0_heavyValue_74 (fun r_4 M_3 h => ?_)
    refine a_iload_n X dX0_heavyValue_77 rfl 2 rfl ?_
    refine a_imul X dX0_heavyValue_78 ?_
    refine a_iload_n X dX0_heavyValue_79 rfl 3 rfl ?_
    refine a_icmp_lt (tgt := 99) X dX0_heavyValue_80 (by decide) (fun z => ?_) (fun z => ?_)
    · have h := h.1 z
      refine a_iinc (v := v5 + 1) (lo' := [(5, .int (v5 + 1)), (6, .int s0), (0, .ref (al v0)), (1, .int v1), (3, .int v3), (4, .int v4)]) X dX0_heavyValue_99 5 rfl (ii_1 _) (by decide) rfl ?_
      refine a_goto (tgt := 11) X dX0_heavyValue_102 (by decide) ?_
      refine a_sub (ks := [2, 3, 4, 5, 0]) (lo' := [(0, .ref (al v0)), (1, .int v1), (3, .int v3), (4, .int v4), (5, .int (v5 + 1))]) rfl ?_
      exact hK11 _ _ _ h
    · have h := h.2 z
      refine a_iload X dX0_heavyValue_83 4 rfl ?_
      refine a_if_ne (tgt := 96) X dX0_heavyValue_85 (by decide) (fun z => ?_) (fun z => ?_)
      · have h := h.1 z
        refine a_iinc (v := v4 + (-1)) (lo' := [(4, .int (v4 + (-1))), (6, .int s0), (0, .ref (al v0)), (1, .int v1), (3, .int v3), (5, .int v5)]) X dX0_heavyValue_96 4 rfl (ii_m1 _) (by decide) rfl ?_
        refine a_iinc (v := v5 + 1) (lo' := [(5, .int (v5 + 1)), (4, .int (v4 + (-1))), (6, .int s0), (0, .ref (al v0)), (1, .int v1), (3, .int v3)]) X dX0_heavyValue_99 5 rfl (ii_1 _) (by decide) rfl ?_
        refine a_goto (tgt := 11) X dX0_heavyValue_102 (by decide) ?_
        refine a_sub (ks := [3, 4, 5, 1, 0]) (lo' := [(0, .ref (al v0)), (1, .int v1), (3, .int v3), (4, .int (v4 + (-1))), (5, .int (v5 + 1))]) rfl ?_
        exact hK11 _ _ _ h
      · have h := h.2 z
        refine a_aload_n X dX0_heavyValue_88 rfl 1 rfl ?_
        refine a_getR (k := 0) X 1 (b := (v0 + 1)) fw0 i0 rfl rfl flX0_9 rfl dX0_heavyValue_89 ?_
        refine a_iload X dX0_heavyValue_92 5 rfl ?_
        refine a_iald X i0.row.1 h.1 dX0_heavyValue_94 ?_
        have h := h.2
        exact a_iret X h dX0_heavyValue_95
set_option maxHeartbeats 4000000 in
set_option maxRecDepth 100000 in
theorem tX0_heavyValue_11 (X : Cx p s m meth c G RX0 cX0_heavyValue 7 (some .int)) {Q : Int32 → Mem → Prop} {v0 : Nat} {v1 : Int32} {v3 : Int32} (i0 : Iz mk v0 (0, 0)) : ∀ (n : Nat) (M : Mem) (v4 : Int32) (v5 : Int32), wX0_heavyValue_11 Q v0 v1 v3 n M v4 v5 → Wa p l e rm_X0_heavyValue s m args below meth c 7 G al mk 0 0 (MQ below (QI G al mk Q) args s 0 0 (gA G)) M 11 [(0, .ref (al v0)), (1, .int v1), (3, .int v3), (4, .int v4), (5, .int v5)] [] := by
  intro n
  induction n with
  | zero =>
    intro M v4 v5 h
    exact False.elim h
  | succ n ih =>
    intro M v4 v5 h
    rw [wX0_heavyValue_11] at h
    refine a_iload X dX0_heavyValue_11 4 rfl ?_
    refine a_aload_n X dX0_heavyValue_13 rfl 0 rfl ?_
    refine a_getI (k := 4) X fw0 i0 rfl flX0_24 rfl dX0_heavyValue_14 ?_
    refine a_icmp_ge (tgt := 105) X dX0_heavyValue_17 (by decide) (fun z => ?_) (fun z => ?_)
    · have h := h.1 z
      refine a_bipush (v := (-2)) X dX0_heavyValue_105 bc_m2 ?_
      exact a_iret X h dX0_heavyValue_107
    · have h := h.2 z
      refine a_iload X dX0_heavyValue_20 4 rfl ?_
      refine a_if_le (tgt := 48) X dX0_heavyValue_22 (by decide) (fun z => ?_) (fun z => ?_)
      · have h := h.1 z
        refine a_iconst (v := 0) X dX0_heavyValue_48 ic_0 ?_
        exact tX0_heavyValue_49 X i0 ih h
      · have h := h.2 z
        refine a_aload_n X dX0_heavyValue_25 rfl 0 rfl ?_
        refine a_getR (k := 0) X 1 (b := (v0 + 1)) fw0 i0 rfl rfl flX0_9 rfl dX0_heavyValue_26 ?_
        refine a_iload X dX0_heavyValue_29 4 rfl ?_
        refine a_iald X i0.row.1 h.1 dX0_heavyValue_31 ?_
        have h := h.2
        refine a_aload_n X dX0_heavyValue_32 rfl 0 rfl ?_
        refine a_getR (k := 0) X 1 (b := (v0 + 1)) fw0 i0 rfl rfl flX0_9 rfl dX0_heavyValue_33 ?_
        refine a_iload X dX0_heavyValue_36 4 rfl ?_
        refine a_iconst (v := 1) X dX0_heavyValue_38 ic_1 ?_
        refine a_isub X dX0_heavyValue_39 ?_
        refine a_iald X i0.row.1 h.1 dX0_heavyValue_40 ?_
        have h := h.2
        refine a_icmp_ne (tgt := 48) X dX0_heavyValue_41 (by decide) (fun z => ?_) (fun z => ?_)
        · have h := h.1 z
          refine a_iconst (v := 0) X dX0_heavyValue_48 ic_0 ?_
          exact tX0_heavyValue_49 X i0 ih h
        · have h := h.2 z
          refine a_iconst (v := 1) X dX0_heavyValue_44 ic_1 ?_
          refine a_goto (tgt := 49) X dX0_heavyValue_45 (by decide) ?_
          exact tX0_heavyValue_49 X i0 ih h
set_option maxHeartbeats 4000000 in
set_option maxRecDepth 100000 in
theorem cX0_heavyValue_ok (l : Launch) {G : Gl} {al : Nat → Nat} {mk : Nat} {M : Mem} {v0 : Nat} {v1 : Int32} {v2 : Int32} {Q : Int32 → Mem → Prop} (i0 : Iz mk v0 (0, 0)) (h : wpX0_heavyValue M v0 v1 v2 Q) : Kv l yX0_heavyValue cX0_heavyValue 7 (some .int) rm_X0_heavyValue G al mk M [.ref (al v0), .int v1, .int v2] (QI G al mk Q) := by
  refine a_head (by decide) (Nat.le_of_ble_eq_true rfl) (fun p e s m below meth c X => ?_)
  have X : Cx p s m meth c G RX0 cX0_heavyValue 7 (some .int) := X
  unfold wpX0_heavyValue at h
  refine a_sub (ks := [0, 1, 2]) (lo' := [(0, .ref (al v0)), (1, .int v1), (2, .int v2)]) rfl ?_
  refine a_aload_n X dX0_heavyValue_0 rfl 0 rfl ?_
  refine a_cVi (As := []) (st := []) X fw0 i0 (cX0_places_ok l i0 h) mlX0_47 mvX0_places (rz rfl) (Nat.le_of_ble_eq_true rfl) rfl dX0_heavyValue_1 (fun r_2 M_1 h => ?_)
  refine a_istore_n (lo' := [(3, .int r_2), (0, .ref (al v0)), (1, .int v1), (2, .int v2)]) X dX0_heavyValue_4 rfl (by decide) rfl ?_
  refine a_iload_n X dX0_heavyValue_5 rfl 3 rfl ?_
  refine a_istore (lo' := [(4, .int v2), (3, .int r_2), (0, .ref (al v0)), (1, .int v1), (2, .int v2)]) X dX0_heavyValue_6 (by decide) rfl ?_
  refine a_iconst (v := 0) X dX0_heavyValue_8 ic_0 ?_
  refine a_istore (lo' := [(5, .int 0), (4, .int v2), (3, .int r_2), (0, .ref (al v0)), (1, .int v1), (2, .int v2)]) X dX0_heavyValue_9 (by decide) rfl ?_
  refine a_sub (ks := [3, 4, 2, 1, 0]) (lo' := [(0, .ref (al v0)), (1, .int v1), (3, .int r_2), (4, .int v2), (5, .int 0)]) rfl ?_
  obtain ⟨n9, h⟩ := h
  exact tX0_heavyValue_11 X i0 n9 _ _ _ h
