variable {p : Program} {l : Launch} {e : Env} {s : State} {m : MethodId} {args : Array Value} {below : List Frame} {meth : Method} {c : Code} {G : Gl} {al : Nat → Nat} {mk : Nat}

abbrev rm_X4_thrown : Room := { frames := 0, cells := 0, slots := 0, locals := 0 }
def wpX4_thrown (M : Mem) (Q : Int32 → Mem → Prop) : Prop := Q (gI M 200 0) M
set_option maxHeartbeats 4000000 in
set_option maxRecDepth 100000 in
theorem cX4_thrown_ok (l : Launch) {G : Gl} {al : Nat → Nat} {mk : Nat} {M : Mem} {Q : Int32 → Mem → Prop} (h : wpX4_thrown M Q) : Kv l yX4_thrown cX4_thrown 1 (some .int) rm_X4_thrown G al mk M [.ref (al 200)] (QI G al mk Q) := by
  refine a_head (by decide) (Nat.le_of_ble_eq_true rfl) (fun p e s m below meth c X => ?_)
  have X : Cx p s m meth c G RX4 cX4_thrown 1 (some .int) := X
  unfold wpX4_thrown at h
  refine a_sub (ks := [0]) (lo' := [(0, .ref (al 200))]) rfl ?_
  refine a_aload_n X dX4_thrown_0 rfl 0 rfl ?_
  refine a_getI (k := 0) X fw4 iz_200 rfl flX4_61 rfl dX4_thrown_1 ?_
  exact a_iret X h dX4_thrown_4
abbrev rm_X4_refused : Room := { frames := 0, cells := 0, slots := 0, locals := 0 }
def wpX4_refused (M : Mem) (v1 : Int32) (Q : Int32 → Mem → Prop) : Prop := (∀ M_1 : Mem, M_1 = pI M 200 1 v1 → (∀ M_2 : Mem, M_2 = pI M_1 200 2 (-1) → Q (-1) M_2))
set_option maxHeartbeats 4000000 in
set_option maxRecDepth 100000 in
theorem cX4_refused_ok (l : Launch) {G : Gl} {al : Nat → Nat} {mk : Nat} {M : Mem} {v1 : Int32} {Q : Int32 → Mem → Prop} (h : wpX4_refused M v1 Q) : Kv l yX4_refused cX4_refused 2 (some .int) rm_X4_refused G al mk M [.ref (al 200), .int v1] (QI G al mk Q) := by
  refine a_head (by decide) (Nat.le_of_ble_eq_true rfl) (fun p e s m below meth c X => ?_)
  have X : Cx p s m meth c G RX4 cX4_refused 2 (some .int) := X
  unfold wpX4_refused at h
  refine a_sub (ks := [0, 1]) (lo' := [(0, .ref (al 200)), (1, .int v1)]) rfl ?_
  refine a_aload_n X dX4_refused_0 rfl 0 rfl ?_
  refine a_iload_n X dX4_refused_1 rfl 1 rfl ?_
  refine a_putI (k := 1) X fw4 iz_200 rfl flX4_64 rfl rfl dX4_refused_2 (fun M_1 eM_1 => ?_)
  have h := h M_1 eM_1
  refine a_aload_n X dX4_refused_5 rfl 0 rfl ?_
  refine a_iconst (v := (-1)) X dX4_refused_6 ic_m1 ?_
  refine a_putI (k := 2) X fw4 iz_200 rfl flX4_9 rfl rfl dX4_refused_7 (fun M_2 eM_2 => ?_)
  have h := h M_2 eM_2
  refine a_iconst (v := (-1)) X dX4_refused_10 ic_m1 ?_
  exact a_iret X h dX4_refused_11
abbrev rm_X4_good : Room := { frames := 0, cells := 0, slots := 0, locals := 0 }
def wpX4_good (M : Mem) (v1 : Int32) (Q : Int32 → Mem → Prop) : Prop := (∀ M_1 : Mem, M_1 = pI M 200 1 0 → (∀ M_2 : Mem, M_2 = pI M_1 200 2 (-1) → Q v1 M_2))
set_option maxHeartbeats 4000000 in
set_option maxRecDepth 100000 in
theorem cX4_good_ok (l : Launch) {G : Gl} {al : Nat → Nat} {mk : Nat} {M : Mem} {v1 : Int32} {Q : Int32 → Mem → Prop} (h : wpX4_good M v1 Q) : Kv l yX4_good cX4_good 2 (some .int) rm_X4_good G al mk M [.ref (al 200), .int v1] (QI G al mk Q) := by
  refine a_head (by decide) (Nat.le_of_ble_eq_true rfl) (fun p e s m below meth c X => ?_)
  have X : Cx p s m meth c G RX4 cX4_good 2 (some .int) := X
  unfold wpX4_good at h
  refine a_sub (ks := [0, 1]) (lo' := [(0, .ref (al 200)), (1, .int v1)]) rfl ?_
  refine a_aload_n X dX4_good_0 rfl 0 rfl ?_
  refine a_iconst (v := 0) X dX4_good_1 ic_0 ?_
  refine a_putI (k := 1) X fw4 iz_200 rfl flX4_64 rfl rfl dX4_good_2 (fun M_1 eM_1 => ?_)
  have h := h M_1 eM_1
  refine a_aload_n X dX4_good_5 rfl 0 rfl ?_
  refine a_iconst (v := (-1)) X dX4_good_6 ic_m1 ?_
  refine a_putI (k := 2) X fw4 iz_200 rfl flX4_9 rfl rfl dX4_good_7 (fun M_2 eM_2 => ?_)
  have h := h M_2 eM_2
  refine a_iload_n X dX4_good_10 rfl 1 rfl ?_
  exact a_iret X h dX4_good_11
abbrev rm_X4_in : Room := { frames := 0, cells := 0, slots := 0, locals := 0 }
def wpX4_in (M : Mem) (v0 : Int32) (v1 : Int32) (v2 : Int32) (Q : Int32 → Mem → Prop) : Prop := ((v0 < v1 → Q 0 M) ∧ (¬ v0 < v1 → ((v2 < v0 → Q 0 M) ∧ (¬ v2 < v0 → Q 1 M))))
set_option maxHeartbeats 4000000 in
set_option maxRecDepth 100000 in
theorem cX4_in_ok (l : Launch) {G : Gl} {al : Nat → Nat} {mk : Nat} {M : Mem} {v0 : Int32} {v1 : Int32} {v2 : Int32} {Q : Int32 → Mem → Prop} (h : wpX4_in M v0 v1 v2 Q) : Kv l yX4_in cX4_in 3 (some .boolean) rm_X4_in G al mk M [.int v0, .int v1, .int v2] (QI G al mk Q) := by
  refine a_head (by decide) (Nat.le_of_ble_eq_true rfl) (fun p e s m below meth c X => ?_)
  have X : Cx p s m meth c G RX4 cX4_in 3 (some .boolean) := X
  unfold wpX4_in at h
  refine a_sub (ks := [0, 1, 2]) (lo' := [(0, .int v0), (1, .int v1), (2, .int v2)]) rfl ?_
  refine a_iload_n X dX4_in_0 rfl 0 rfl ?_
  refine a_iload_n X dX4_in_1 rfl 1 rfl ?_
  refine a_icmp_lt (tgt := 14) X dX4_in_2 (by decide) (fun z => ?_) (fun z => ?_)
  · have h := h.1 z
    refine a_iconst (v := 0) X dX4_in_14 ic_0 ?_
    exact a_zret X (by decide) h dX4_in_15
  · have h := h.2 z
    refine a_iload_n X dX4_in_5 rfl 0 rfl ?_
    refine a_iload_n X dX4_in_6 rfl 2 rfl ?_
    refine a_icmp_gt (tgt := 14) X dX4_in_7 (by decide) (fun z => ?_) (fun z => ?_)
    · have h := h.1 z
      refine a_iconst (v := 0) X dX4_in_14 ic_0 ?_
      exact a_zret X (by decide) h dX4_in_15
    · have h := h.2 z
      refine a_iconst (v := 1) X dX4_in_10 ic_1 ?_
      refine a_goto (tgt := 15) X dX4_in_11 (by decide) ?_
      exact a_zret X (by decide) h dX4_in_15
abbrev rm_X4_byteAt : Room := { frames := 0, cells := 0, slots := 0, locals := 0 }
def wpX4_byteAt (M : Mem) (v1 : Int32) (Q : Int32 → Mem → Prop) : Prop := (((gI M 200 5) ≤ v1 → Q (-1) M) ∧ (¬ (gI M 200 5) ≤ v1 → (vp_in v1 400 ∧ Q ((gI M 204 (Int32.toNatClampNeg v1)) &&& 255) M)))
set_option maxHeartbeats 4000000 in
set_option maxRecDepth 100000 in
theorem cX4_byteAt_ok (l : Launch) {G : Gl} {al : Nat → Nat} {mk : Nat} {M : Mem} {v1 : Int32} {Q : Int32 → Mem → Prop} (h : wpX4_byteAt M v1 Q) : Kv l yX4_byteAt cX4_byteAt 2 (some .int) rm_X4_byteAt G al mk M [.ref (al 200), .int v1] (QI G al mk Q) := by
  refine a_head (by decide) (Nat.le_of_ble_eq_true rfl) (fun p e s m below meth c X => ?_)
  have X : Cx p s m meth c G RX4 cX4_byteAt 2 (some .int) := X
  unfold wpX4_byteAt at h
  refine a_sub (ks := [0, 1]) (lo' := [(0, .ref (al 200)), (1, .int v1)]) rfl ?_
  refine a_iload_n X dX4_byteAt_0 rfl 1 rfl ?_
  refine a_aload_n X dX4_byteAt_1 rfl 0 rfl ?_
  refine a_getI (k := 5) X fw4 iz_200 rfl flX4_67 rfl dX4_byteAt_2 ?_
  refine a_icmp_ge (tgt := 21) X dX4_byteAt_5 (by decide) (fun z => ?_) (fun z => ?_)
  · have h := h.1 z
    refine a_iconst (v := (-1)) X dX4_byteAt_21 ic_m1 ?_
    exact a_iret X h dX4_byteAt_22
  · have h := h.2 z
    refine a_aload_n X dX4_byteAt_8 rfl 0 rfl ?_
    refine a_getR (k := 3) X 4 (b := 204) fw4 iz_200 rfl rfl flX4_13 rfl dX4_byteAt_9 ?_
    refine a_iload_n X dX4_byteAt_12 rfl 1 rfl ?_
    refine a_bald X iz_204 h.1 dX4_byteAt_13 ?_
    have h := h.2
    refine a_sipush (v := 255) X dX4_byteAt_14 sc_255 ?_
    refine a_iand X dX4_byteAt_17 ?_
    refine a_goto (tgt := 22) X dX4_byteAt_18 (by decide) ?_
    exact a_iret X h dX4_byteAt_22
abbrev rm_X4_goWord : Room := { frames := 1, cells := 0, slots := 0, locals := 22 }
def wX4_goWord_5 (Q : Mem → Prop) : Nat → Mem → Prop
  | 0, _ => False
  | n + 1, M => wpX4_byteAt M (gI M 200 6) (fun r_3 M_2 => wpX4_in M_2 r_3 97 122 (fun r_5 M_4 => ((r_5 = 0 → ((((gI M_4 200 6) - (gI M_4 200 8)) ≤ 6 → (∀ M_6 : Mem, M_6 = pI M_4 200 7 2 → Q M_6)) ∧ (¬ ((gI M_4 200 6) - (gI M_4 200 8)) ≤ 6 → (∀ M_7 : Mem, M_7 = pI M_4 200 7 0 → Q M_7)))) ∧ (¬ r_5 = 0 → ((6 ≤ ((gI M_4 200 6) - (gI M_4 200 8)) → (∀ M_8 : Mem, M_8 = pI M_4 200 6 ((gI M_4 200 6) + 1) → wX4_goWord_5 Q n M_8)) ∧ (¬ 6 ≤ ((gI M_4 200 6) - (gI M_4 200 8)) → wpX4_byteAt M_4 (gI M_4 200 6) (fun r_10 M_9 => (∀ M_11 : Mem, M_11 = pL M_9 200 11 (((gL M_4 200 11) <<< (Int32.toInt64 8 &&& 63)) ||| (Int32.toInt64 r_10)) → (∀ M_12 : Mem, M_12 = pI M_11 200 6 ((gI M_11 200 6) + 1) → wX4_goWord_5 Q n M_12)))))))))
def wpX4_goWord (M : Mem) (Q : Mem → Prop) : Prop := (∀ M_1 : Mem, M_1 = pL M 200 11 0 → ∃ n, wX4_goWord_5 Q n M_1)
set_option maxHeartbeats 4000000 in
set_option maxRecDepth 100000 in
theorem tX4_goWord_5 (X : Cx p s m meth c G RX4 cX4_goWord 1 none) {Q : Mem → Prop} : ∀ (n : Nat) (M : Mem), wX4_goWord_5 Q n M → Wa p l e rm_X4_goWord s m args below meth c 1 G al mk 0 0 (MQ below (QV G al mk Q) args s 0 0 (gA G)) M 5 [(0, .ref (al 200))] [] := by
  intro n
  induction n with
  | zero =>
    intro M h
    exact False.elim h
  | succ n ih =>
    intro M h
    rw [wX4_goWord_5] at h
    refine a_aload_n X dX4_goWord_5 rfl 0 rfl ?_
    refine a_aload_n X dX4_goWord_6 rfl 0 rfl ?_
    refine a_getI (k := 6) X fw4 iz_200 rfl flX4_73 rfl dX4_goWord_7 ?_
    refine a_cVi (As := [.int (gI M 200 6)]) (st := []) X fw4 iz_200 (cX4_byteAt_ok l h) mlX4_76 mvX4_byteAt (rz rfl) (Nat.le_of_ble_eq_true rfl) rfl dX4_goWord_10 (fun r_3 M_2 h => ?_)
    refine a_bipush (v := 97) X dX4_goWord_13 bc_97 ?_
    refine a_bipush (v := 122) X dX4_goWord_15 bc_122 ?_
    refine a_cSi (As := [.int r_3, .int 97, .int 122]) (st := []) X (cX4_in_ok l h) mlX4_86 msX4_in (rz rfl) (Nat.le_of_ble_eq_true rfl) rfl dX4_goWord_17 (fun r_5 M_4 h => ?_)
    refine a_if_eq (tgt := 71) X dX4_goWord_20 (by decide) (fun z => ?_) (fun z => ?_)
    · have h := h.1 z
      refine a_aload_n X dX4_goWord_71 rfl 0 rfl ?_
      refine a_aload_n X dX4_goWord_72 rfl 0 rfl ?_
      refine a_getI (k := 6) X fw4 iz_200 rfl flX4_73 rfl dX4_goWord_73 ?_
      refine a_aload_n X dX4_goWord_76 rfl 0 rfl ?_
      refine a_getI (k := 8) X fw4 iz_200 rfl flX4_80 rfl dX4_goWord_77 ?_
      refine a_isub X dX4_goWord_80 ?_
      refine a_bipush (v := 6) X dX4_goWord_81 bc_6 ?_
      refine a_icmp_le (tgt := 90) X dX4_goWord_83 (by decide) (fun z => ?_) (fun z => ?_)
      · have h := h.1 z
        refine a_iconst (v := 2) X dX4_goWord_90 ic_2 ?_
        refine a_putI (k := 7) X fw4 iz_200 rfl flX4_83 rfl rfl dX4_goWord_91 (fun M_6 eM_6 => ?_)
        have h := h M_6 eM_6
        exact a_vret X h dX4_goWord_94
      · have h := h.2 z
        refine a_iconst (v := 0) X dX4_goWord_86 ic_0 ?_
        refine a_goto (tgt := 91) X dX4_goWord_87 (by decide) ?_
        refine a_putI (k := 7) X fw4 iz_200 rfl flX4_83 rfl rfl dX4_goWord_91 (fun M_7 eM_7 => ?_)
        have h := h M_7 eM_7
        exact a_vret X h dX4_goWord_94
    · have h := h.2 z
      refine a_aload_n X dX4_goWord_23 rfl 0 rfl ?_
      refine a_getI (k := 6) X fw4 iz_200 rfl flX4_73 rfl dX4_goWord_24 ?_
      refine a_aload_n X dX4_goWord_27 rfl 0 rfl ?_
      refine a_getI (k := 8) X fw4 iz_200 rfl flX4_80 rfl dX4_goWord_28 ?_
      refine a_isub X dX4_goWord_31 ?_
      refine a_bipush (v := 6) X dX4_goWord_32 bc_6 ?_
      refine a_icmp_ge (tgt := 58) X dX4_goWord_34 (by decide) (fun z => ?_) (fun z => ?_)
      · have h := h.1 z
        refine a_aload_n X dX4_goWord_58 rfl 0 rfl ?_
        refine a_dup X dX4_goWord_59 rfl ?_
        refine a_getI (k := 6) X fw4 iz_200 rfl flX4_73 rfl dX4_goWord_60 ?_
        refine a_iconst (v := 1) X dX4_goWord_63 ic_1 ?_
        refine a_iadd X dX4_goWord_64 ?_
        refine a_putI (k := 6) X fw4 iz_200 rfl flX4_73 rfl rfl dX4_goWord_65 (fun M_8 eM_8 => ?_)
        have h := h M_8 eM_8
        refine a_goto (tgt := 5) X dX4_goWord_68 (by decide) ?_
        exact ih _ h
      · have h := h.2 z
        refine a_aload_n X dX4_goWord_37 rfl 0 rfl ?_
        refine a_aload_n X dX4_goWord_38 rfl 0 rfl ?_
        refine a_getL (k := 11) X fw4 iz_200 rfl flX4_96 rfl dX4_goWord_39 ?_
        refine a_bipush (v := 8) X dX4_goWord_42 bc_8 ?_
        refine a_lshl X dX4_goWord_44 ?_
        refine a_aload_n X dX4_goWord_45 rfl 0 rfl ?_
        refine a_aload_n X dX4_goWord_46 rfl 0 rfl ?_
        refine a_getI (k := 6) X fw4 iz_200 rfl flX4_73 rfl dX4_goWord_47 ?_
        refine a_cVi (As := [.int (gI M_4 200 6)]) (st := [.long ((gL M_4 200 11) <<< (Int32.toInt64 8 &&& 63)), .ref (al 200)]) X fw4 iz_200 (cX4_byteAt_ok l h) mlX4_76 mvX4_byteAt (rz rfl) (Nat.le_of_ble_eq_true rfl) rfl dX4_goWord_50 (fun r_10 M_9 h => ?_)
        refine a_i2l X dX4_goWord_53 ?_
        refine a_lor X dX4_goWord_54 ?_
        refine a_putL (k := 11) X fw4 iz_200 rfl flX4_96 rfl rfl dX4_goWord_55 (fun M_11 eM_11 => ?_)
        have h := h M_11 eM_11
        refine a_aload_n X dX4_goWord_58 rfl 0 rfl ?_
        refine a_dup X dX4_goWord_59 rfl ?_
        refine a_getI (k := 6) X fw4 iz_200 rfl flX4_73 rfl dX4_goWord_60 ?_
        refine a_iconst (v := 1) X dX4_goWord_63 ic_1 ?_
        refine a_iadd X dX4_goWord_64 ?_
        refine a_putI (k := 6) X fw4 iz_200 rfl flX4_73 rfl rfl dX4_goWord_65 (fun M_12 eM_12 => ?_)
        have h := h M_12 eM_12
        refine a_goto (tgt := 5) X dX4_goWord_68 (by decide) ?_
        exact ih _ h
set_option maxHeartbeats 4000000 in
set_option maxRecDepth 100000 in
theorem cX4_goWord_ok (l : Launch) {G : Gl} {al : Nat → Nat} {mk : Nat} {M : Mem} {Q : Mem → Prop} (h : wpX4_goWord M Q) : Kv l yX4_goWord cX4_goWord 1 none rm_X4_goWord G al mk M [.ref (al 200)] (QV G al mk Q) := by
  refine a_head (by decide) (Nat.le_of_ble_eq_true rfl) (fun p e s m below meth c X => ?_)
  have X : Cx p s m meth c G RX4 cX4_goWord 1 none := X
  unfold wpX4_goWord at h
  refine a_sub (ks := [0]) (lo' := [(0, .ref (al 200))]) rfl ?_
  refine a_aload_n X dX4_goWord_0 rfl 0 rfl ?_
  refine a_lconst (v := 0) X dX4_goWord_1 (by decide) ?_
  refine a_putL (k := 11) X fw4 iz_200 rfl flX4_96 rfl rfl dX4_goWord_2 (fun M_1 eM_1 => ?_)
  have h := h M_1 eM_1
  obtain ⟨n9, h⟩ := h
  exact tX4_goWord_5 X n9 _ h
abbrev rm_X4_goWhole : Room := { frames := 1, cells := 0, slots := 0, locals := 22 }
def wX4_goWhole_5 (Q : Mem → Prop) : Nat → Mem → Prop
  | 0, _ => False
  | n + 1, M => wpX4_byteAt M (gI M 200 6) (fun r_3 M_2 => wpX4_in M_2 r_3 48 57 (fun r_5 M_4 => ((r_5 = 0 → ((((gI M_4 200 6) - (gI M_4 200 8)) ≤ 3 → (∀ M_6 : Mem, M_6 = pI M_4 200 7 3 → Q M_6)) ∧ (¬ ((gI M_4 200 6) - (gI M_4 200 8)) ≤ 3 → (∀ M_7 : Mem, M_7 = pI M_4 200 7 0 → Q M_7)))) ∧ (¬ r_5 = 0 → ((3 ≤ ((gI M_4 200 6) - (gI M_4 200 8)) → (∀ M_8 : Mem, M_8 = pI M_4 200 6 ((gI M_4 200 6) + 1) → wX4_goWhole_5 Q n M_8)) ∧ (¬ 3 ≤ ((gI M_4 200 6) - (gI M_4 200 8)) → wpX4_byteAt M_4 (gI M_4 200 6) (fun r_10 M_9 => (∀ M_11 : Mem, M_11 = pI M_9 200 9 (((10 * (gI M_4 200 9)) + r_10) - 48) → (∀ M_12 : Mem, M_12 = pI M_11 200 6 ((gI M_11 200 6) + 1) → wX4_goWhole_5 Q n M_12)))))))))
def wpX4_goWhole (M : Mem) (Q : Mem → Prop) : Prop := (∀ M_1 : Mem, M_1 = pI M 200 9 0 → ∃ n, wX4_goWhole_5 Q n M_1)
set_option maxHeartbeats 4000000 in
set_option maxRecDepth 100000 in
theorem tX4_goWhole_5 (X : Cx p s m meth c G RX4 cX4_goWhole 1 none) {Q : Mem → Prop} : ∀ (n : Nat) (M : Mem), wX4_goWhole_5 Q n M → Wa p l e rm_X4_goWhole s m args below meth c 1 G al mk 0 0 (MQ below (QV G al mk Q) args s 0 0 (gA G)) M 5 [(0, .ref (al 200))] [] := by
  intro n
  induction n with
  | zero =>
    intro M h
    exact False.elim h
  | succ n ih =>
    intro M h
    rw [wX4_goWhole_5] at h
    refine a_aload_n X dX4_goWhole_5 rfl 0 rfl ?_
    refine a_aload_n X dX4_goWhole_6 rfl 0 rfl ?_
    refine a_getI (k := 6) X fw4 iz_200 rfl flX4_73 rfl dX4_goWhole_7 ?_
    refine a_cVi (As := [.int (gI M 200 6)]) (st := []) X fw4 iz_200 (cX4_byteAt_ok l h) mlX4_76 mvX4_byteAt (rz rfl) (Nat.le_of_ble_eq_true rfl) rfl dX4_goWhole_10 (fun r_3 M_2 h => ?_)
    refine a_bipush (v := 48) X dX4_goWhole_13 bc_48 ?_
    refine a_bipush (v := 57) X dX4_goWhole_15 bc_57 ?_
    refine a_cSi (As := [.int r_3, .int 48, .int 57]) (st := []) X (cX4_in_ok l h) mlX4_86 msX4_in (rz rfl) (Nat.le_of_ble_eq_true rfl) rfl dX4_goWhole_17 (fun r_5 M_4 h => ?_)
    refine a_if_eq (tgt := 72) X dX4_goWhole_20 (by decide) (fun z => ?_) (fun z => ?_)
    · have h := h.1 z
      refine a_aload_n X dX4_goWhole_72 rfl 0 rfl ?_
      refine a_aload_n X dX4_goWhole_73 rfl 0 rfl ?_
      refine a_getI (k := 6) X fw4 iz_200 rfl flX4_73 rfl dX4_goWhole_74 ?_
      refine a_aload_n X dX4_goWhole_77 rfl 0 rfl ?_
      refine a_getI (k := 8) X fw4 iz_200 rfl flX4_80 rfl dX4_goWhole_78 ?_
      refine a_isub X dX4_goWhole_81 ?_
      refine a_iconst (v := 3) X dX4_goWhole_82 ic_3 ?_
      refine a_icmp_le (tgt := 90) X dX4_goWhole_83 (by decide) (fun z => ?_) (fun z => ?_)
      · have h := h.1 z
        refine a_iconst (v := 3) X dX4_goWhole_90 ic_3 ?_
        refine a_putI (k := 7) X fw4 iz_200 rfl flX4_83 rfl rfl dX4_goWhole_91 (fun M_6 eM_6 => ?_)
        have h := h M_6 eM_6
        exact a_vret X h dX4_goWhole_94
      · have h := h.2 z
        refine a_iconst (v := 0) X dX4_goWhole_86 ic_0 ?_
        refine a_goto (tgt := 91) X dX4_goWhole_87 (by decide) ?_
        refine a_putI (k := 7) X fw4 iz_200 rfl flX4_83 rfl rfl dX4_goWhole_91 (fun M_7 eM_7 => ?_)
        have h := h M_7 eM_7
        exact a_vret X h dX4_goWhole_94
    · have h := h.2 z
      refine a_aload_n X dX4_goWhole_23 rfl 0 rfl ?_
      refine a_getI (k := 6) X fw4 iz_200 rfl flX4_73 rfl dX4_goWhole_24 ?_
      refine a_aload_n X dX4_goWhole_27 rfl 0 rfl ?_
      refine a_getI (k := 8) X fw4 iz_200 rfl flX4_80 rfl dX4_goWhole_28 ?_
      refine a_isub X dX4_goWhole_31 ?_
      refine a_iconst (v := 3) X dX4_goWhole_32 ic_3 ?_
      refine a_icmp_ge (tgt := 59) X dX4_goWhole_33 (by decide) (fun z => ?_) (fun z => ?_)
      · have h := h.1 z
        refine a_aload_n X dX4_goWhole_59 rfl 0 rfl ?_
        refine a_dup X dX4_goWhole_60 rfl ?_
        refine a_getI (k := 6) X fw4 iz_200 rfl flX4_73 rfl dX4_goWhole_61 ?_
        refine a_iconst (v := 1) X dX4_goWhole_64 ic_1 ?_
        refine a_iadd X dX4_goWhole_65 ?_
        refine a_putI (k := 6) X fw4 iz_200 rfl flX4_73 rfl rfl dX4_goWhole_66 (fun M_8 eM_8 => ?_)
        have h := h M_8 eM_8
        refine a_goto (tgt := 5) X dX4_goWhole_69 (by decide) ?_
        exact ih _ h
      · have h := h.2 z
        refine a_aload_n X dX4_goWhole_36 rfl 0 rfl ?_
        refine a_bipush (v := 10) X dX4_goWhole_37 bc_10 ?_
        refine a_aload_n X dX4_goWhole_39 rfl 0 rfl ?_
        refine a_getI (k := 9) X fw4 iz_200 rfl flX4_100 rfl dX4_goWhole_40 ?_
        refine a_imul X dX4_goWhole_43 ?_
        refine a_aload_n X dX4_goWhole_44 rfl 0 rfl ?_
        refine a_aload_n X dX4_goWhole_45 rfl 0 rfl ?_
        refine a_getI (k := 6) X fw4 iz_200 rfl flX4_73 rfl dX4_goWhole_46 ?_
        refine a_cVi (As := [.int (gI M_4 200 6)]) (st := [.int (10 * (gI M_4 200 9)), .ref (al 200)]) X fw4 iz_200 (cX4_byteAt_ok l h) mlX4_76 mvX4_byteAt (rz rfl) (Nat.le_of_ble_eq_true rfl) rfl dX4_goWhole_49 (fun r_10 M_9 h => ?_)
        refine a_iadd X dX4_goWhole_52 ?_
        refine a_bipush (v := 48) X dX4_goWhole_53 bc_48 ?_
        refine a_isub X dX4_goWhole_55 ?_
        refine a_putI (k := 9) X fw4 iz_200 rfl flX4_100 rfl rfl dX4_goWhole_56 (fun M_11 eM_11 => ?_)
        have h := h M_11 eM_11
        refine a_aload_n X dX4_goWhole_59 rfl 0 rfl ?_
        refine a_dup X dX4_goWhole_60 rfl ?_
        refine a_getI (k := 6) X fw4 iz_200 rfl flX4_73 rfl dX4_goWhole_61 ?_
        refine a_iconst (v := 1) X dX4_goWhole_64 ic_1 ?_
        refine a_iadd X dX4_goWhole_65 ?_
        refine a_putI (k := 6) X fw4 iz_200 rfl flX4_73 rfl rfl dX4_goWhole_66 (fun M_12 eM_12 => ?_)
        have h := h M_12 eM_12
        refine a_goto (tgt := 5) X dX4_goWhole_69 (by decide) ?_
        exact ih _ h
set_option maxHeartbeats 4000000 in
set_option maxRecDepth 100000 in
theorem cX4_goWhole_ok (l : Launch) {G : Gl} {al : Nat → Nat} {mk : Nat} {M : Mem} {Q : Mem → Prop} (h : wpX4_goWhole M Q) : Kv l yX4_goWhole cX4_goWhole 1 none rm_X4_goWhole G al mk M [.ref (al 200)] (QV G al mk Q) := by
  refine a_head (by decide) (Nat.le_of_ble_eq_true rfl) (fun p e s m below meth c X => ?_)
  have X : Cx p s m meth c G RX4 cX4_goWhole 1 none := X
  unfold wpX4_goWhole at h
  refine a_sub (ks := [0]) (lo' := [(0, .ref (al 200))]) rfl ?_
  refine a_aload_n X dX4_goWhole_0 rfl 0 rfl ?_
  refine a_iconst (v := 0) X dX4_goWhole_1 ic_0 ?_
  refine a_putI (k := 9) X fw4 iz_200 rfl flX4_100 rfl rfl dX4_goWhole_2 (fun M_1 eM_1 => ?_)
  have h := h M_1 eM_1
  obtain ⟨n9, h⟩ := h
  exact tX4_goWhole_5 X n9 _ h
abbrev rm_X4_goOn : Room := { frames := 2, cells := 0, slots := 0, locals := 42 }
def wX4_goOn_8 (Q : Mem → Prop) : Nat → Mem → Prop
  | 0, _ => False
  | n + 1, M => wpX4_byteAt M (gI M 200 6) (fun r_2 M_1 => ((¬ r_2 = 32 → (∀ M_3 : Mem, M_3 = pI M_1 200 8 (gI M_1 200 6) → wpX4_byteAt M_3 (gI M_3 200 6) (fun r_5 M_4 => ((¬ r_5 = (-1) → wpX4_in M_4 r_5 97 122 (fun r_7 M_6 => ((r_7 = 0 → wpX4_in M_6 r_5 48 57 (fun r_9 M_8 => ((r_9 = 0 → ((¬ r_5 = 59 → (∀ M_10 : Mem, M_10 = pI M_8 200 7 0 → (∀ M_11 : Mem, M_11 = pI M_10 200 6 ((gI M_10 200 6) + 1) → Q M_11))) ∧ (r_5 = 59 → (∀ M_12 : Mem, M_12 = pI M_8 200 7 4 → (∀ M_13 : Mem, M_13 = pI M_12 200 6 ((gI M_12 200 6) + 1) → Q M_13))))) ∧ (¬ r_9 = 0 → wpX4_goWhole M_8 (fun M_14 => Q M_14))))) ∧ (¬ r_7 = 0 → wpX4_goWord M_6 (fun M_15 => Q M_15))))) ∧ (r_5 = (-1) → (∀ M_16 : Mem, M_16 = pI M_4 200 7 1 → Q M_16)))))) ∧ (r_2 = 32 → (∀ M_17 : Mem, M_17 = pI M_1 200 6 ((gI M_1 200 6) + 1) → wX4_goOn_8 Q n M_17))))
def wpX4_goOn (M : Mem) (Q : Mem → Prop) : Prop := (((gI M 200 10) ≤ 0 → ∃ n, wX4_goOn_8 Q n M) ∧ (¬ (gI M 200 10) ≤ 0 → Q M))
set_option maxHeartbeats 4000000 in
set_option maxRecDepth 100000 in
theorem tX4_goOn_8 (X : Cx p s m meth c G RX4 cX4_goOn 2 none) {Q : Mem → Prop} : ∀ (n : Nat) (M : Mem), wX4_goOn_8 Q n M → Wa p l e rm_X4_goOn s m args below meth c 2 G al mk 0 0 (MQ below (QV G al mk Q) args s 0 0 (gA G)) M 8 [(0, .ref (al 200))] [] := by
  intro n
  induction n with
  | zero =>
    intro M h
    exact False.elim h
  | succ n ih =>
    intro M h
    rw [wX4_goOn_8] at h
    refine a_aload_n X dX4_goOn_8 rfl 0 rfl ?_
    refine a_aload_n X dX4_goOn_9 rfl 0 rfl ?_
    refine a_getI (k := 6) X fw4 iz_200 rfl flX4_73 rfl dX4_goOn_10 ?_
    refine a_cVi (As := [.int (gI M 200 6)]) (st := []) X fw4 iz_200 (cX4_byteAt_ok l h) mlX4_76 mvX4_byteAt (rz rfl) (Nat.le_of_ble_eq_true rfl) rfl dX4_goOn_13 (fun r_2 M_1 h => ?_)
    refine a_bipush (v := 32) X dX4_goOn_16 bc_32 ?_
    refine a_icmp_ne (tgt := 34) X dX4_goOn_18 (by decide) (fun z => ?_) (fun z => ?_)
    · have h := h.1 z
      refine a_aload_n X dX4_goOn_34 rfl 0 rfl ?_
      refine a_aload_n X dX4_goOn_35 rfl 0 rfl ?_
      refine a_getI (k := 6) X fw4 iz_200 rfl flX4_73 rfl dX4_goOn_36 ?_
      refine a_putI (k := 8) X fw4 iz_200 rfl flX4_80 rfl rfl dX4_goOn_39 (fun M_3 eM_3 => ?_)
      have h := h M_3 eM_3
      refine a_aload_n X dX4_goOn_42 rfl 0 rfl ?_
      refine a_aload_n X dX4_goOn_43 rfl 0 rfl ?_
      refine a_getI (k := 6) X fw4 iz_200 rfl flX4_73 rfl dX4_goOn_44 ?_
      refine a_cVi (As := [.int (gI M_3 200 6)]) (st := []) X fw4 iz_200 (cX4_byteAt_ok l h) mlX4_76 mvX4_byteAt (rz rfl) (Nat.le_of_ble_eq_true rfl) rfl dX4_goOn_47 (fun r_5 M_4 h => ?_)
      refine a_istore_n (lo' := [(1, .int r_5), (0, .ref (al 200))]) X dX4_goOn_50 rfl (by decide) rfl ?_
      refine a_iload_n X dX4_goOn_51 rfl 0 rfl ?_
      refine a_iconst (v := (-1)) X dX4_goOn_52 ic_m1 ?_
      refine a_icmp_ne (tgt := 64) X dX4_goOn_53 (by decide) (fun z => ?_) (fun z => ?_)
      · have h := h.1 z
        refine a_iload_n X dX4_goOn_64 rfl 0 rfl ?_
        refine a_bipush (v := 97) X dX4_goOn_65 bc_97 ?_
        refine a_bipush (v := 122) X dX4_goOn_67 bc_122 ?_
        refine a_cSi (As := [.int r_5, .int 97, .int 122]) (st := []) X (cX4_in_ok l h) mlX4_86 msX4_in (rz rfl) (Nat.le_of_ble_eq_true rfl) rfl dX4_goOn_69 (fun r_7 M_6 h => ?_)
        refine a_if_eq (tgt := 82) X dX4_goOn_72 (by decide) (fun z => ?_) (fun z => ?_)
        · have h := h.1 z
          refine a_iload_n X dX4_goOn_82 rfl 0 rfl ?_
          refine a_bipush (v := 48) X dX4_goOn_83 bc_48 ?_
          refine a_bipush (v := 57) X dX4_goOn_85 bc_57 ?_
          refine a_cSi (As := [.int r_5, .int 48, .int 57]) (st := []) X (cX4_in_ok l h) mlX4_86 msX4_in (rz rfl) (Nat.le_of_ble_eq_true rfl) rfl dX4_goOn_87 (fun r_9 M_8 h => ?_)
          refine a_if_eq (tgt := 100) X dX4_goOn_90 (by decide) (fun z => ?_) (fun z => ?_)
          · have h := h.1 z
            refine a_aload_n X dX4_goOn_100 rfl 1 rfl ?_
            refine a_iload_n X dX4_goOn_101 rfl 0 rfl ?_
            refine a_bipush (v := 59) X dX4_goOn_102 bc_59 ?_
            refine a_icmp_ne (tgt := 111) X dX4_goOn_104 (by decide) (fun z => ?_) (fun z => ?_)
            · have h := h.1 z
              refine a_iconst (v := 0) X dX4_goOn_111 ic_0 ?_
              refine a_putI (k := 7) X fw4 iz_200 rfl flX4_83 rfl rfl dX4_goOn_112 (fun M_10 eM_10 => ?_)
              have h := h M_10 eM_10
              refine a_aload_n X dX4_goOn_115 rfl 1 rfl ?_
              refine a_dup X dX4_goOn_116 rfl ?_
              refine a_getI (k := 6) X fw4 iz_200 rfl flX4_73 rfl dX4_goOn_117 ?_
              refine a_iconst (v := 1) X dX4_goOn_120 ic_1 ?_
              refine a_iadd X dX4_goOn_121 ?_
              refine a_putI (k := 6) X fw4 iz_200 rfl flX4_73 rfl rfl dX4_goOn_122 (fun M_11 eM_11 => ?_)
              have h := h M_11 eM_11
              exact a_vret X h dX4_goOn_125
            · have h := h.2 z
              refine a_iconst (v := 4) X dX4_goOn_107 ic_4 ?_
              refine a_goto (tgt := 112) X dX4_goOn_108 (by decide) ?_
              refine a_putI (k := 7) X fw4 iz_200 rfl flX4_83 rfl rfl dX4_goOn_112 (fun M_12 eM_12 => ?_)
              have h := h M_12 eM_12
              refine a_aload_n X dX4_goOn_115 rfl 1 rfl ?_
              refine a_dup X dX4_goOn_116 rfl ?_
              refine a_getI (k := 6) X fw4 iz_200 rfl flX4_73 rfl dX4_goOn_117 ?_
              refine a_iconst (v := 1) X dX4_goOn_120 ic_1 ?_
              refine a_iadd X dX4_goOn_121 ?_
              refine a_putI (k := 6) X fw4 iz_200 rfl flX4_73 rfl rfl dX4_goOn_122 (fun M_13 eM_13 => ?_)
              have h := h M_13 eM_13
              exact a_vret X h dX4_goOn_125
          · have h := h.2 z
            refine a_aload_n X dX4_goOn_93 rfl 1 rfl ?_
            refine a_cVv (As := []) (st := []) X fw4 iz_200 (cX4_goWhole_ok l h) mlX4_93 mvX4_goWhole (rz rfl) (Nat.le_of_ble_eq_true rfl) rfl dX4_goOn_94 (fun M_14 h => ?_)
            refine a_goto (tgt := 125) X dX4_goOn_97 (by decide) ?_
            exact a_vret X h dX4_goOn_125
        · have h := h.2 z
          refine a_aload_n X dX4_goOn_75 rfl 1 rfl ?_
          refine a_cVv (As := []) (st := []) X fw4 iz_200 (cX4_goWord_ok l h) mlX4_90 mvX4_goWord (rz rfl) (Nat.le_of_ble_eq_true rfl) rfl dX4_goOn_76 (fun M_15 h => ?_)
          refine a_goto (tgt := 125) X dX4_goOn_79 (by decide) ?_
          exact a_vret X h dX4_goOn_125
      · have h := h.2 z
        refine a_aload_n X dX4_goOn_56 rfl 1 rfl ?_
        refine a_iconst (v := 1) X dX4_goOn_57 ic_1 ?_
        refine a_putI (k := 7) X fw4 iz_200 rfl flX4_83 rfl rfl dX4_goOn_58 (fun M_16 eM_16 => ?_)
        have h := h M_16 eM_16
        refine a_goto (tgt := 125) X dX4_goOn_61 (by decide) ?_
        exact a_vret X h dX4_goOn_125
    · have h := h.2 z
      refine a_aload_n X dX4_goOn_21 rfl 0 rfl ?_
      refine a_dup X dX4_goOn_22 rfl ?_
      refine a_getI (k := 6) X fw4 iz_200 rfl flX4_73 rfl dX4_goOn_23 ?_
      refine a_iconst (v := 1) X dX4_goOn_26 ic_1 ?_
      refine a_iadd X dX4_goOn_27 ?_
      refine a_putI (k := 6) X fw4 iz_200 rfl flX4_73 rfl rfl dX4_goOn_28 (fun M_17 eM_17 => ?_)
      have h := h M_17 eM_17
      refine a_goto (tgt := 8) X dX4_goOn_31 (by decide) ?_
      exact ih _ h
set_option maxHeartbeats 4000000 in
set_option maxRecDepth 100000 in
theorem cX4_goOn_ok (l : Launch) {G : Gl} {al : Nat → Nat} {mk : Nat} {M : Mem} {Q : Mem → Prop} (h : wpX4_goOn M Q) : Kv l yX4_goOn cX4_goOn 2 none rm_X4_goOn G al mk M [.ref (al 200)] (QV G al mk Q) := by
  refine a_head (by decide) (Nat.le_of_ble_eq_true rfl) (fun p e s m below meth c X => ?_)
  have X : Cx p s m meth c G RX4 cX4_goOn 2 none := X
  unfold wpX4_goOn at h
  refine a_sub (ks := [0]) (lo' := [(0, .ref (al 200))]) rfl ?_
  refine a_aload_n X dX4_goOn_0 rfl 0 rfl ?_
  refine a_getI (k := 10) X fw4 iz_200 rfl flX4_70 rfl dX4_goOn_1 ?_
  refine a_if_le (tgt := 8) X dX4_goOn_4 (by decide) (fun z => ?_) (fun z => ?_)
  · have h := h.1 z
    obtain ⟨n9, h⟩ := h
    exact tX4_goOn_8 X n9 _ h
  · have h := h.2 z
    exact a_vret X h dX4_goOn_7
abbrev rm_X4_flaw : Room := { frames := 0, cells := 0, slots := 0, locals := 0 }
def wpX4_flaw (M : Mem) (v1 : Int32) (Q : Mem → Prop) : Prop := ((¬ (gI M 200 10) = 0 → (∀ M_1 : Mem, M_1 = pI M 200 7 0 → Q M_1)) ∧ ((gI M 200 10) = 0 → (∀ M_2 : Mem, M_2 = pI M 200 10 v1 → (∀ M_3 : Mem, M_3 = pI M_2 200 7 0 → Q M_3))))
set_option maxHeartbeats 4000000 in
set_option maxRecDepth 100000 in
theorem cX4_flaw_ok (l : Launch) {G : Gl} {al : Nat → Nat} {mk : Nat} {M : Mem} {v1 : Int32} {Q : Mem → Prop} (h : wpX4_flaw M v1 Q) : Kv l yX4_flaw cX4_flaw 2 none rm_X4_flaw G al mk M [.ref (al 200), .int v1] (QV G al mk Q) := by
  refine a_head (by decide) (Nat.le_of_ble_eq_true rfl) (fun p e s m below meth c X => ?_)
  have X : Cx p s m meth c G RX4 cX4_flaw 2 none := X
  unfold wpX4_flaw at h
  refine a_sub (ks := [0, 1]) (lo' := [(0, .ref (al 200)), (1, .int v1)]) rfl ?_
  refine a_aload_n X dX4_flaw_0 rfl 0 rfl ?_
  refine a_getI (k := 10) X fw4 iz_200 rfl flX4_70 rfl dX4_flaw_1 ?_
  refine a_if_ne (tgt := 12) X dX4_flaw_4 (by decide) (fun z => ?_) (fun z => ?_)
  · have h := h.1 z
    refine a_aload_n X dX4_flaw_12 rfl 0 rfl ?_
    refine a_iconst (v := 0) X dX4_flaw_13 ic_0 ?_
    refine a_putI (k := 7) X fw4 iz_200 rfl flX4_83 rfl rfl dX4_flaw_14 (fun M_1 eM_1 => ?_)
    have h := h M_1 eM_1
    exact a_vret X h dX4_flaw_17
  · have h := h.2 z
    refine a_aload_n X dX4_flaw_7 rfl 0 rfl ?_
    refine a_iload_n X dX4_flaw_8 rfl 1 rfl ?_
    refine a_putI (k := 10) X fw4 iz_200 rfl flX4_70 rfl rfl dX4_flaw_9 (fun M_2 eM_2 => ?_)
    have h := h M_2 eM_2
    refine a_aload_n X dX4_flaw_12 rfl 0 rfl ?_
    refine a_iconst (v := 0) X dX4_flaw_13 ic_0 ?_
    refine a_putI (k := 7) X fw4 iz_200 rfl flX4_83 rfl rfl dX4_flaw_14 (fun M_3 eM_3 => ?_)
    have h := h M_3 eM_3
    exact a_vret X h dX4_flaw_17
abbrev rm_X4_isWord : Room := { frames := 5, cells := 0, slots := 0, locals := 160 }
def wX4_isWord_5 (Q : Int32 → Mem → Prop) (v1 : Nat) : Nat → Mem → Int64 → Int32 → Prop
  | 0, _, _, _ => False
  | n + 1, M, v2, v4 => (((nI (slB v1).length) ≤ v4 → ((¬ (gI M 200 7) = 2 → Q 0 M) ∧ ((gI M 200 7) = 2 → ((¬ (lg_cmp (gL M 200 11) v2) = 0 → Q 0 M) ∧ ((lg_cmp (gL M 200 11) v2) = 0 → Q 1 M))))) ∧ (¬ (nI (slB v1).length) ≤ v4 → (vp_in v4 (slB v1).length ∧ (∀ x_1 : Int64, x_1 = ((v2 <<< (Int32.toInt64 8 &&& 63)) ||| (Int32.toInt64 (sch v1 (Int32.toNatClampNeg v4)))) → wX4_isWord_5 Q v1 n M x_1 (v4 + 1)))))
def wpX4_isWord (M : Mem) (v1 : Nat) (Q : Int32 → Mem → Prop) : Prop := ∃ n, wX4_isWord_5 Q v1 n M 0 0
set_option maxHeartbeats 4000000 in
set_option maxRecDepth 100000 in
theorem tX4_isWord_5 (X : Cx p s m meth c G RX4 cX4_isWord 5 (some .boolean)) {Q : Int32 → Mem → Prop} {v1 : Nat} (i1 : v1 < 10) : ∀ (n : Nat) (M : Mem) (v2 : Int64) (v4 : Int32), wX4_isWord_5 Q v1 n M v2 v4 → Wa p l e rm_X4_isWord s m args below meth c 5 G al mk 0 0 (MQ below (QI G al mk Q) args s 0 0 (gA G)) M 5 [(0, .ref (al 200)), (1, .ref (G.2.2.1 v1)), (2, .long v2), (4, .int v4)] [] := by
  intro n
  induction n with
  | zero =>
    intro M v2 v4 h
    exact False.elim h
  | succ n ih =>
    intro M v2 v4 h
    rw [wX4_isWord_5] at h
    refine a_iload X dX4_isWord_5 3 rfl ?_
    refine a_aload_n X dX4_isWord_7 rfl 1 rfl ?_
    refine a_slen X i1 mlX4_103 rfl dX4_isWord_8 ?_
    refine a_icmp_ge (tgt := 33) X dX4_isWord_11 (by decide) (fun z => ?_) (fun z => ?_)
    · have h := h.1 z
      refine a_aload_n X dX4_isWord_33 rfl 0 rfl ?_
      refine a_getI (k := 7) X fw4 iz_200 rfl flX4_83 rfl dX4_isWord_34 ?_
      refine a_iconst (v := 2) X dX4_isWord_37 ic_2 ?_
      refine a_icmp_ne (tgt := 54) X dX4_isWord_38 (by decide) (fun z => ?_) (fun z => ?_)
      · have h := h.1 z
        refine a_iconst (v := 0) X dX4_isWord_54 ic_0 ?_
        exact a_zret X (by decide) h dX4_isWord_55
      · have h := h.2 z
        refine a_aload_n X dX4_isWord_41 rfl 0 rfl ?_
        refine a_getL (k := 11) X fw4 iz_200 rfl flX4_96 rfl dX4_isWord_42 ?_
        refine a_lload_n X dX4_isWord_45 rfl 2 rfl ?_
        refine a_lcmp X dX4_isWord_46 ?_
        refine a_if_ne (tgt := 54) X dX4_isWord_47 (by decide) (fun z => ?_) (fun z => ?_)
        · have h := h.1 z
          refine a_iconst (v := 0) X dX4_isWord_54 ic_0 ?_
          exact a_zret X (by decide) h dX4_isWord_55
        · have h := h.2 z
          refine a_iconst (v := 1) X dX4_isWord_50 ic_1 ?_
          refine a_goto (tgt := 55) X dX4_isWord_51 (by decide) ?_
          exact a_zret X (by decide) h dX4_isWord_55
    · have h := h.2 z
      refine a_lload_n X dX4_isWord_14 rfl 2 rfl ?_
      refine a_bipush (v := 8) X dX4_isWord_15 bc_8 ?_
      refine a_lshl X dX4_isWord_17 ?_
      refine a_aload_n X dX4_isWord_18 rfl 1 rfl ?_
      refine a_iload X dX4_isWord_19 3 rfl ?_
      refine a_schr (st := [.long (v2 <<< (Int32.toInt64 8 &&& 63))]) X i1 mlX4_109 rfl (Nat.le_of_ble_eq_true rfl) h.1 dX4_isWord_21 ?_
      have h := h.2
      refine a_i2l X dX4_isWord_24 ?_
      refine a_lor X dX4_isWord_25 ?_
      refine a_topl (fun x_1 ex_1 => ?_)
      have h := h x_1 ex_1
      refine a_lstore_n (lo' := [(2, .long x_1), (0, .ref (al 200)), (1, .ref (G.2.2.1 v1)), (4, .int v4)]) X dX4_isWord_26 rfl (by decide) rfl ?_
      refine a_iinc (v := v4 + 1) (lo' := [(4, .int (v4 + 1)), (2, .long x_1), (0, .ref (al 200)), (1, .ref (G.2.2.1 v1))]) X dX4_isWord_27 3 rfl (ii_1 _) (by decide) rfl ?_
      refine a_goto (tgt := 5) X dX4_isWord_30 (by decide) ?_
      refine a_sub (ks := [2, 3, 1, 0]) (lo' := [(0, .ref (al 200)), (1, .ref (G.2.2.1 v1)), (2, .long x_1), (4, .int (v4 + 1))]) rfl ?_
      exact ih _ _ _ h
set_option maxHeartbeats 4000000 in
set_option maxRecDepth 100000 in
theorem cX4_isWord_ok (l : Launch) {G : Gl} {al : Nat → Nat} {mk : Nat} {M : Mem} {v1 : Nat} {Q : Int32 → Mem → Prop} (i1 : v1 < 10) (h : wpX4_isWord M v1 Q) : Kv l yX4_isWord cX4_isWord 5 (some .boolean) rm_X4_isWord G al mk M [.ref (al 200), .ref (G.2.2.1 v1)] (QI G al mk Q) := by
  refine a_head (by decide) (Nat.le_of_ble_eq_true rfl) (fun p e s m below meth c X => ?_)
  have X : Cx p s m meth c G RX4 cX4_isWord 5 (some .boolean) := X
  unfold wpX4_isWord at h
  refine a_sub (ks := [0, 1]) (lo' := [(0, .ref (al 200)), (1, .ref (G.2.2.1 v1))]) rfl ?_
  refine a_lconst (v := 0) X dX4_isWord_0 (by decide) ?_
  refine a_lstore_n (lo' := [(2, .long 0), (0, .ref (al 200)), (1, .ref (G.2.2.1 v1))]) X dX4_isWord_1 rfl (by decide) rfl ?_
  refine a_iconst (v := 0) X dX4_isWord_2 ic_0 ?_
  refine a_istore (lo' := [(4, .int 0), (2, .long 0), (0, .ref (al 200)), (1, .ref (G.2.2.1 v1))]) X dX4_isWord_3 (by decide) rfl ?_
  refine a_sub (ks := [2, 3, 1, 0]) (lo' := [(0, .ref (al 200)), (1, .ref (G.2.2.1 v1)), (2, .long 0), (4, .int 0)]) rfl ?_
  obtain ⟨n9, h⟩ := h
  exact tX4_isWord_5 X i1 n9 _ _ _ h
abbrev rm_X4_needs : Room := { frames := 6, cells := 0, slots := 0, locals := 184 }
def wpX4_needs (M : Mem) (v1 : Nat) (Q : Mem → Prop) : Prop := wpX4_isWord M v1 (fun r_2 M_1 => ((¬ r_2 = 0 → wpX4_goOn M_1 (fun M_3 => Q M_3)) ∧ (r_2 = 0 → wpX4_flaw M_1 1 (fun M_4 => wpX4_goOn M_4 (fun M_5 => Q M_5)))))
set_option maxHeartbeats 4000000 in
set_option maxRecDepth 100000 in
theorem cX4_needs_ok (l : Launch) {G : Gl} {al : Nat → Nat} {mk : Nat} {M : Mem} {v1 : Nat} {Q : Mem → Prop} (i1 : v1 < 10) (h : wpX4_needs M v1 Q) : Kv l yX4_needs cX4_needs 2 none rm_X4_needs G al mk M [.ref (al 200), .ref (G.2.2.1 v1)] (QV G al mk Q) := by
  refine a_head (by decide) (Nat.le_of_ble_eq_true rfl) (fun p e s m below meth c X => ?_)
  have X : Cx p s m meth c G RX4 cX4_needs 2 none := X
  unfold wpX4_needs at h
  refine a_sub (ks := [0, 1]) (lo' := [(0, .ref (al 200)), (1, .ref (G.2.2.1 v1))]) rfl ?_
  refine a_aload_n X dX4_needs_0 rfl 0 rfl ?_
  refine a_aload_n X dX4_needs_1 rfl 1 rfl ?_
  refine a_cVi (As := [.ref (G.2.2.1 v1)]) (st := []) X fw4 iz_200 (cX4_isWord_ok l i1 h) mlX4_113 mvX4_isWord (rz rfl) (Nat.le_of_ble_eq_true rfl) rfl dX4_needs_2 (fun r_2 M_1 h => ?_)
  refine a_if_ne (tgt := 13) X dX4_needs_5 (by decide) (fun z => ?_) (fun z => ?_)
  · have h := h.1 z
    refine a_aload_n X dX4_needs_13 rfl 0 rfl ?_
    refine a_cVv (As := []) (st := []) X fw4 iz_200 (cX4_goOn_ok l h) mlX4_121 mvX4_goOn (rz rfl) (Nat.le_of_ble_eq_true rfl) rfl dX4_needs_14 (fun M_3 h => ?_)
    exact a_vret X h dX4_needs_17
  · have h := h.2 z
    refine a_aload_n X dX4_needs_8 rfl 0 rfl ?_
    refine a_iconst (v := 1) X dX4_needs_9 ic_1 ?_
    refine a_cVv (As := [.int 1]) (st := []) X fw4 iz_200 (cX4_flaw_ok l h) mlX4_117 mvX4_flaw (rz rfl) (Nat.le_of_ble_eq_true rfl) rfl dX4_needs_10 (fun M_4 h => ?_)
    refine a_aload_n X dX4_needs_13 rfl 0 rfl ?_
    refine a_cVv (As := []) (st := []) X fw4 iz_200 (cX4_goOn_ok l h) mlX4_121 mvX4_goOn (rz rfl) (Nat.le_of_ble_eq_true rfl) rfl dX4_needs_14 (fun M_5 h => ?_)
    exact a_vret X h dX4_needs_17
abbrev rm_X4_readWhole : Room := { frames := 3, cells := 0, slots := 0, locals := 63 }
def wpX4_readWhole (M : Mem) (v1 : Int32) (v2 : Int32) (Q : Int32 → Mem → Prop) : Prop := (((gI M 200 7) = 3 → wpX4_in M (gI M 200 9) v1 v2 (fun r_2 M_1 => ((¬ r_2 = 0 → (∀ x_3 : Int32, x_3 = (gI M_1 200 9) → wpX4_goOn M_1 (fun M_4 => Q x_3 M_4))) ∧ (r_2 = 0 → wpX4_flaw M_1 2 (fun M_5 => (∀ x_6 : Int32, x_6 = (gI M_5 200 9) → wpX4_goOn M_5 (fun M_7 => Q x_6 M_7))))))) ∧ (¬ (gI M 200 7) = 3 → wpX4_flaw M 1 (fun M_8 => (∀ x_9 : Int32, x_9 = (gI M_8 200 9) → wpX4_goOn M_8 (fun M_10 => Q x_9 M_10)))))
set_option maxHeartbeats 4000000 in
set_option maxRecDepth 100000 in
theorem cX4_readWhole_ok (l : Launch) {G : Gl} {al : Nat → Nat} {mk : Nat} {M : Mem} {v1 : Int32} {v2 : Int32} {Q : Int32 → Mem → Prop} (h : wpX4_readWhole M v1 v2 Q) : Kv l yX4_readWhole cX4_readWhole 4 (some .int) rm_X4_readWhole G al mk M [.ref (al 200), .int v1, .int v2] (QI G al mk Q) := by
  refine a_head (by decide) (Nat.le_of_ble_eq_true rfl) (fun p e s m below meth c X => ?_)
  have X : Cx p s m meth c G RX4 cX4_readWhole 4 (some .int) := X
  unfold wpX4_readWhole at h
  refine a_sub (ks := [0, 1, 2]) (lo' := [(0, .ref (al 200)), (1, .int v1), (2, .int v2)]) rfl ?_
  refine a_aload_n X dX4_readWhole_0 rfl 0 rfl ?_
  refine a_getI (k := 7) X fw4 iz_200 rfl flX4_83 rfl dX4_readWhole_1 ?_
  refine a_iconst (v := 3) X dX4_readWhole_4 ic_3 ?_
  refine a_icmp_eq (tgt := 16) X dX4_readWhole_5 (by decide) (fun z => ?_) (fun z => ?_)
  · have h := h.1 z
    refine a_aload_n X dX4_readWhole_16 rfl 0 rfl ?_
    refine a_getI (k := 9) X fw4 iz_200 rfl flX4_100 rfl dX4_readWhole_17 ?_
    refine a_iload_n X dX4_readWhole_20 rfl 1 rfl ?_
    refine a_iload_n X dX4_readWhole_21 rfl 2 rfl ?_
    refine a_cSi (As := [.int (gI M 200 9), .int v1, .int v2]) (st := []) X (cX4_in_ok l h) mlX4_86 msX4_in (rz rfl) (Nat.le_of_ble_eq_true rfl) rfl dX4_readWhole_22 (fun r_2 M_1 h => ?_)
    refine a_if_ne (tgt := 33) X dX4_readWhole_25 (by decide) (fun z => ?_) (fun z => ?_)
    · have h := h.1 z
      refine a_aload_n X dX4_readWhole_33 rfl 0 rfl ?_
      refine a_getI (k := 9) X fw4 iz_200 rfl flX4_100 rfl dX4_readWhole_34 ?_
      refine a_topi (fun x_3 ex_3 => ?_)
      have h := h x_3 ex_3
      refine a_istore_n (lo' := [(3, .int x_3), (0, .ref (al 200)), (1, .int v1), (2, .int v2)]) X dX4_readWhole_37 rfl (by decide) rfl ?_
      refine a_aload_n X dX4_readWhole_38 rfl 1 rfl ?_
      refine a_cVv (As := []) (st := []) X fw4 iz_200 (cX4_goOn_ok l h) mlX4_121 mvX4_goOn (rz rfl) (Nat.le_of_ble_eq_true rfl) rfl dX4_readWhole_39 (fun M_4 h => ?_)
      refine a_iload_n X dX4_readWhole_42 rfl 0 rfl ?_
      exact a_iret X h dX4_readWhole_43
    · have h := h.2 z
      refine a_aload_n X dX4_readWhole_28 rfl 0 rfl ?_
      refine a_iconst (v := 2) X dX4_readWhole_29 ic_2 ?_
      refine a_cVv (As := [.int 2]) (st := []) X fw4 iz_200 (cX4_flaw_ok l h) mlX4_117 mvX4_flaw (rz rfl) (Nat.le_of_ble_eq_true rfl) rfl dX4_readWhole_30 (fun M_5 h => ?_)
      refine a_aload_n X dX4_readWhole_33 rfl 0 rfl ?_
      refine a_getI (k := 9) X fw4 iz_200 rfl flX4_100 rfl dX4_readWhole_34 ?_
      refine a_topi (fun x_6 ex_6 => ?_)
      have h := h x_6 ex_6
      refine a_istore_n (lo' := [(3, .int x_6), (0, .ref (al 200)), (1, .int v1), (2, .int v2)]) X dX4_readWhole_37 rfl (by decide) rfl ?_
      refine a_aload_n X dX4_readWhole_38 rfl 1 rfl ?_
      refine a_cVv (As := []) (st := []) X fw4 iz_200 (cX4_goOn_ok l h) mlX4_121 mvX4_goOn (rz rfl) (Nat.le_of_ble_eq_true rfl) rfl dX4_readWhole_39 (fun M_7 h => ?_)
      refine a_iload_n X dX4_readWhole_42 rfl 0 rfl ?_
      exact a_iret X h dX4_readWhole_43
  · have h := h.2 z
    refine a_aload_n X dX4_readWhole_8 rfl 0 rfl ?_
    refine a_iconst (v := 1) X dX4_readWhole_9 ic_1 ?_
    refine a_cVv (As := [.int 1]) (st := []) X fw4 iz_200 (cX4_flaw_ok l h) mlX4_117 mvX4_flaw (rz rfl) (Nat.le_of_ble_eq_true rfl) rfl dX4_readWhole_10 (fun M_8 h => ?_)
    refine a_goto (tgt := 33) X dX4_readWhole_13 (by decide) ?_
    refine a_aload_n X dX4_readWhole_33 rfl 0 rfl ?_
    refine a_getI (k := 9) X fw4 iz_200 rfl flX4_100 rfl dX4_readWhole_34 ?_
    refine a_topi (fun x_9 ex_9 => ?_)
    have h := h x_9 ex_9
    refine a_istore_n (lo' := [(3, .int x_9), (0, .ref (al 200)), (1, .int v1), (2, .int v2)]) X dX4_readWhole_37 rfl (by decide) rfl ?_
    refine a_aload_n X dX4_readWhole_38 rfl 1 rfl ?_
    refine a_cVv (As := []) (st := []) X fw4 iz_200 (cX4_goOn_ok l h) mlX4_121 mvX4_goOn (rz rfl) (Nat.le_of_ble_eq_true rfl) rfl dX4_readWhole_39 (fun M_10 h => ?_)
    refine a_iload_n X dX4_readWhole_42 rfl 0 rfl ?_
    exact a_iret X h dX4_readWhole_43
abbrev rm_X4_readPart : Room := { frames := 7, cells := 0, slots := 0, locals := 205 }
def wpX4_readPart (M : Mem) (v1 : Nat) (v2 : Int32) (v3 : Int32) (Q : Int32 → Mem → Prop) : Prop := wpX4_needs M v1 (fun M_1 => wpX4_readWhole M_1 v2 v3 (fun r_3 M_2 => Q r_3 M_2))
set_option maxHeartbeats 4000000 in
set_option maxRecDepth 100000 in
theorem cX4_readPart_ok (l : Launch) {G : Gl} {al : Nat → Nat} {mk : Nat} {M : Mem} {v1 : Nat} {v2 : Int32} {v3 : Int32} {Q : Int32 → Mem → Prop} (i1 : v1 < 10) (h : wpX4_readPart M v1 v2 v3 Q) : Kv l yX4_readPart cX4_readPart 4 (some .int) rm_X4_readPart G al mk M [.ref (al 200), .ref (G.2.2.1 v1), .int v2, .int v3] (QI G al mk Q) := by
  refine a_head (by decide) (Nat.le_of_ble_eq_true rfl) (fun p e s m below meth c X => ?_)
  have X : Cx p s m meth c G RX4 cX4_readPart 4 (some .int) := X
  unfold wpX4_readPart at h
  refine a_sub (ks := [0, 1, 2, 3]) (lo' := [(0, .ref (al 200)), (1, .ref (G.2.2.1 v1)), (2, .int v2), (3, .int v3)]) rfl ?_
  refine a_aload_n X dX4_readPart_0 rfl 0 rfl ?_
  refine a_aload_n X dX4_readPart_1 rfl 1 rfl ?_
  refine a_cVv (As := [.ref (G.2.2.1 v1)]) (st := []) X fw4 iz_200 (cX4_needs_ok l i1 h) mlX4_124 mvX4_needs (rz rfl) (Nat.le_of_ble_eq_true rfl) rfl dX4_readPart_2 (fun M_1 h => ?_)
  refine a_aload_n X dX4_readPart_5 rfl 0 rfl ?_
  refine a_iload_n X dX4_readPart_6 rfl 2 rfl ?_
  refine a_iload_n X dX4_readPart_7 rfl 3 rfl ?_
  refine a_cVi (As := [.int v2, .int v3]) (st := []) X fw4 iz_200 (cX4_readWhole_ok l h) mlX4_128 mvX4_readWhole (rz rfl) (Nat.le_of_ble_eq_true rfl) rfl dX4_readPart_8 (fun r_3 M_2 h => ?_)
  exact a_iret X h dX4_readPart_11
abbrev rm_X4_feed : Room := { frames := 0, cells := 0, slots := 0, locals := 0 }
def wX4_feed_76 (Q : Int32 → Mem → Prop) (K23 : Mem → Int32 → Prop) (M : Mem) (v1 : Int32) (v2 : Int32) (v3 : Int32) (v4 : Int32) (v5 : Int32) (v6 : Int32) (s0 : Int32) : Prop := (vp_in (gI M 200 4) 400 ∧ ∀ M_2 : Mem, M_2 = pI M 204 (Int32.toNatClampNeg (gI M 200 4)) (vp_nar .byte (Int8.toInt32 (Int32.toInt8 (s0 >>> ((24 - (8 * (v6 - v6 / 4 * 4))) &&& 31))))) → (∀ M_3 : Mem, M_3 = pI M_2 200 4 ((gI M_2 200 4) + 1) → K23 M_3 (v6 + 1)))
def wX4_feed_23 (Q : Int32 → Mem → Prop) (v1 : Int32) (v2 : Int32) (v3 : Int32) (v4 : Int32) (v5 : Int32) : Nat → Mem → Int32 → Prop
  | 0, _, _ => False
  | n + 1, M, v6 => ((20 ≤ v6 → Q (gI M 200 4) M) ∧ (¬ 20 ≤ v6 → ((4 ≤ v6 → ((8 ≤ v6 → ((12 ≤ v6 → ((16 ≤ v6 → wX4_feed_76 Q (wX4_feed_23 Q v1 v2 v3 v4 v5 n) M v1 v2 v3 v4 v5 v6 v5) ∧ (¬ 16 ≤ v6 → wX4_feed_76 Q (wX4_feed_23 Q v1 v2 v3 v4 v5 n) M v1 v2 v3 v4 v5 v6 v4))) ∧ (¬ 12 ≤ v6 → wX4_feed_76 Q (wX4_feed_23 Q v1 v2 v3 v4 v5 n) M v1 v2 v3 v4 v5 v6 v3))) ∧ (¬ 8 ≤ v6 → wX4_feed_76 Q (wX4_feed_23 Q v1 v2 v3 v4 v5 n) M v1 v2 v3 v4 v5 v6 v2))) ∧ (¬ 4 ≤ v6 → wX4_feed_76 Q (wX4_feed_23 Q v1 v2 v3 v4 v5 n) M v1 v2 v3 v4 v5 v6 v1))))
def wpX4_feed (M : Mem) (v1 : Int32) (v2 : Int32) (v3 : Int32) (v4 : Int32) (v5 : Int32) (Q : Int32 → Mem → Prop) : Prop := (∀ M_1 : Mem, M_1 = pI M 200 0 0 → ((((gI M_1 200 4) + 20) ≤ 400 → ∃ n, wX4_feed_23 Q v1 v2 v3 v4 v5 n M_1 0) ∧ (¬ ((gI M_1 200 4) + 20) ≤ 400 → Q (-1) M_1)))
set_option maxHeartbeats 4000000 in
set_option maxRecDepth 100000 in
theorem tX4_feed_76 (X : Cx p s m meth c G RX4 cX4_feed 8 (some .int)) {Q : Int32 → Mem → Prop} {K23 : Mem → Int32 → Prop} {v1 : Int32} {v2 : Int32} {v3 : Int32} {v4 : Int32} {v5 : Int32} {v6 : Int32} {s0 : Int32} (hK23 : ∀ (M : Mem) (v6 : Int32), K23 M v6 → Wa p l e rm_X4_feed s m args below meth c 8 G al mk 0 0 (MQ below (QI G al mk Q) args s 0 0 (gA G)) M 23 [(0, .ref (al 200)), (1, .int v1), (2, .int v2), (3, .int v3), (4, .int v4), (5, .int v5), (6, .int v6)] []) {M : Mem} (h : wX4_feed_76 Q K23 M v1 v2 v3 v4 v5 v6 s0) : Wa p l e rm_X4_feed s m args below meth c 8 G al mk 0 0 (MQ below (QI G al mk Q) args s 0 0 (gA G)) M 76 [(0, .ref (al 200)), (1, .int v1), (2, .int v2), (3, .int v3), (4, .int v4), (5, .int v5), (6, .int v6)] [.int s0] := by
  unfold wX4_feed_76 at h
  refine a_istore (lo' := [(7, .int s0), (0, .ref (al 200)), (1, .int v1), (2, .int v2), (3, .int v3), (4, .int v4), (5, .int v5), (6, .int v6)]) X dX4_feed_76 (by decide) rfl ?_
  refine a_aload_n X dX4_feed_78 rfl 1 rfl ?_
  refine a_getR (k := 3) X 4 (b := 204) fw4 iz_200 rfl rfl flX4_13 rfl dX4_feed_79 ?_
  refine a_aload_n X dX4_feed_82 rfl 1 rfl ?_
  refine a_getI (k := 4) X fw4 iz_200 rfl flX4_132 rfl dX4_feed_83 ?_
  refine a_iload X dX4_feed_86 0 rfl ?_
  refine a_bipush (v := 24) X dX4_feed_88 bc_24 ?_
  refine a_bipush (v := 8) X dX4_feed_90 bc_8 ?_
  refine a_iload X dX4_feed_92 7 rfl ?_
  refine a_iconst (v := 4) X dX4_feed_94 ic_4 ?_
  refine a_irem X dX4_feed_95 (by decide) ?_
  refine a_imul X dX4_feed_96 ?_
  refine a_isub X dX4_feed_97 ?_
  refine a_ishr X dX4_feed_98 ?_
  refine a_i2b X dX4_feed_99 ?_
  refine a_bast X iz_204 h.1 dX4_feed_100 (fun M_2 eM_2 => ?_)
  have h := h.2 M_2 eM_2
  refine a_aload_n X dX4_feed_101 rfl 1 rfl ?_
  refine a_dup X dX4_feed_102 rfl ?_
  refine a_getI (k := 4) X fw4 iz_200 rfl flX4_132 rfl dX4_feed_103 ?_
  refine a_iconst (v := 1) X dX4_feed_106 ic_1 ?_
  refine a_iadd X dX4_feed_107 ?_
  refine a_putI (k := 4) X fw4 iz_200 rfl flX4_132 rfl rfl dX4_feed_108 (fun M_3 eM_3 => ?_)
  have h := h M_3 eM_3
  refine a_iinc (v := v6 + 1) (lo' := [(6, .int (v6 + 1)), (7, .int s0), (0, .ref (al 200)), (1, .int v1), (2, .int v2), (3, .int v3), (4, .int v4), (5, .int v5)]) X dX4_feed_111 7 rfl (ii_1 _) (by decide) rfl ?_
  refine a_goto (tgt := 23) X dX4_feed_114 (by decide) ?_
  refine a_sub (ks := [2, 3, 4, 5, 6, 7, 0]) (lo' := [(0, .ref (al 200)), (1, .int v1), (2, .int v2), (3, .int v3), (4, .int v4), (5, .int v5), (6, .int (v6 + 1))]) rfl ?_
  exact hK23 _ _ h
set_option maxHeartbeats 4000000 in
set_option maxRecDepth 100000 in
theorem tX4_feed_23 (X : Cx p s m meth c G RX4 cX4_feed 8 (some .int)) {Q : Int32 → Mem → Prop} {v1 : Int32} {v2 : Int32} {v3 : Int32} {v4 : Int32} {v5 : Int32} : ∀ (n : Nat) (M : Mem) (v6 : Int32), wX4_feed_23 Q v1 v2 v3 v4 v5 n M v6 → Wa p l e rm_X4_feed s m args below meth c 8 G al mk 0 0 (MQ below (QI G al mk Q) args s 0 0 (gA G)) M 23 [(0, .ref (al 200)), (1, .int v1), (2, .int v2), (3, .int v3), (4, .int v4), (5, .int v5), (6, .int v6)] [] := by
  intro n
  induction n with
  | zero =>
    intro M v6 h
    exact False.elim h
  | succ n ih =>
    intro M v6 h
    rw [wX4_feed_23] at h
    refine a_iload X dX4_feed_23 6 rfl ?_
    refine a_bipush (v := 20) X dX4_feed_25 bc_20 ?_
    refine a_icmp_ge (tgt := 117) X dX4_feed_27 (by decide) (fun z => ?_) (fun z => ?_)
    · have h := h.1 z
      refine a_aload_n X dX4_feed_117 rfl 0 rfl ?_
      refine a_getI (k := 4) X fw4 iz_200 rfl flX4_132 rfl dX4_feed_118 ?_
      exact a_iret X h dX4_feed_121
    · have h := h.2 z
      refine a_iload X dX4_feed_30 6 rfl ?_
      refine a_iconst (v := 4) X dX4_feed_32 ic_4 ?_
      refine a_icmp_ge (tgt := 40) X dX4_feed_33 (by decide) (fun z => ?_) (fun z => ?_)
      · have h := h.1 z
        refine a_iload X dX4_feed_40 6 rfl ?_
        refine a_bipush (v := 8) X dX4_feed_42 bc_8 ?_
        refine a_icmp_ge (tgt := 51) X dX4_feed_44 (by decide) (fun z => ?_) (fun z => ?_)
        · have h := h.1 z
          refine a_iload X dX4_feed_51 6 rfl ?_
          refine a_bipush (v := 12) X dX4_feed_53 bc_12 ?_
          refine a_icmp_ge (tgt := 62) X dX4_feed_55 (by decide) (fun z => ?_) (fun z => ?_)
          · have h := h.1 z
            refine a_iload X dX4_feed_62 6 rfl ?_
            refine a_bipush (v := 16) X dX4_feed_64 bc_16 ?_
            refine a_icmp_ge (tgt := 74) X dX4_feed_66 (by decide) (fun z => ?_) (fun z => ?_)
            · have h := h.1 z
              refine a_iload X dX4_feed_74 5 rfl ?_
              exact tX4_feed_76 X ih h
            · have h := h.2 z
              refine a_iload X dX4_feed_69 4 rfl ?_
              refine a_goto (tgt := 76) X dX4_feed_71 (by decide) ?_
              exact tX4_feed_76 X ih h
          · have h := h.2 z
            refine a_iload_n X dX4_feed_58 rfl 3 rfl ?_
            refine a_goto (tgt := 76) X dX4_feed_59 (by decide) ?_
            exact tX4_feed_76 X ih h
        · have h := h.2 z
          refine a_iload_n X dX4_feed_47 rfl 2 rfl ?_
          refine a_goto (tgt := 76) X dX4_feed_48 (by decide) ?_
          exact tX4_feed_76 X ih h
      · have h := h.2 z
        refine a_iload_n X dX4_feed_36 rfl 1 rfl ?_
        refine a_goto (tgt := 76) X dX4_feed_37 (by decide) ?_
        exact tX4_feed_76 X ih h
set_option maxHeartbeats 4000000 in
set_option maxRecDepth 100000 in
theorem cX4_feed_ok (l : Launch) {G : Gl} {al : Nat → Nat} {mk : Nat} {M : Mem} {v1 : Int32} {v2 : Int32} {v3 : Int32} {v4 : Int32} {v5 : Int32} {Q : Int32 → Mem → Prop} (h : wpX4_feed M v1 v2 v3 v4 v5 Q) : Kv l yX4_feed cX4_feed 8 (some .int) rm_X4_feed G al mk M [.ref (al 200), .int v1, .int v2, .int v3, .int v4, .int v5] (QI G al mk Q) := by
  refine a_head (by decide) (Nat.le_of_ble_eq_true rfl) (fun p e s m below meth c X => ?_)
  have X : Cx p s m meth c G RX4 cX4_feed 8 (some .int) := X
  unfold wpX4_feed at h
  refine a_sub (ks := [0, 1, 2, 3, 4, 5]) (lo' := [(0, .ref (al 200)), (1, .int v1), (2, .int v2), (3, .int v3), (4, .int v4), (5, .int v5)]) rfl ?_
  refine a_aload_n X dX4_feed_0 rfl 0 rfl ?_
  refine a_iconst (v := 0) X dX4_feed_1 ic_0 ?_
  refine a_putI (k := 0) X fw4 iz_200 rfl flX4_61 rfl rfl dX4_feed_2 (fun M_1 eM_1 => ?_)
  have h := h M_1 eM_1
  refine a_aload_n X dX4_feed_5 rfl 0 rfl ?_
  refine a_getI (k := 4) X fw4 iz_200 rfl flX4_132 rfl dX4_feed_6 ?_
  refine a_bipush (v := 20) X dX4_feed_9 bc_20 ?_
  refine a_iadd X dX4_feed_11 ?_
  refine a_sipush (v := 400) X dX4_feed_12 sc_400 ?_
  refine a_icmp_le (tgt := 20) X dX4_feed_15 (by decide) (fun z => ?_) (fun z => ?_)
  · have h := h.1 z
    refine a_iconst (v := 0) X dX4_feed_20 ic_0 ?_
    refine a_istore (lo' := [(6, .int 0), (0, .ref (al 200)), (1, .int v1), (2, .int v2), (3, .int v3), (4, .int v4), (5, .int v5)]) X dX4_feed_21 (by decide) rfl ?_
    refine a_sub (ks := [1, 2, 3, 4, 5, 6, 0]) (lo' := [(0, .ref (al 200)), (1, .int v1), (2, .int v2), (3, .int v3), (4, .int v4), (5, .int v5), (6, .int 0)]) rfl ?_
    obtain ⟨n9, h⟩ := h
    exact tX4_feed_23 X n9 _ _ h
  · have h := h.2 z
    refine a_iconst (v := (-1)) X dX4_feed_18 ic_m1 ?_
    exact a_iret X h dX4_feed_19
abbrev rm_X4_readRanks : Room := { frames := 8, cells := 0, slots := 0, locals := 228 }
def wpX4_readRanks (M : Mem) (Q : Mem → Prop) : Prop := (((gI M 200 16) ≤ 0 → wpX4_goOn M (fun M_1 => wpX4_readPart M_1 8 2 40 (fun r_3 M_2 => ((¬ (gI M_2 200 10) = 0 → Q M_2) ∧ ((gI M_2 200 10) = 0 → (∀ M_4 : Mem, M_4 = pI M_2 200 16 r_3 → Q M_4)))))) ∧ (¬ (gI M 200 16) ≤ 0 → wpX4_flaw M 4 (fun M_5 => wpX4_goOn M_5 (fun M_6 => wpX4_readPart M_6 8 2 40 (fun r_8 M_7 => ((¬ (gI M_7 200 10) = 0 → Q M_7) ∧ ((gI M_7 200 10) = 0 → (∀ M_9 : Mem, M_9 = pI M_7 200 16 r_8 → Q M_9))))))))
set_option maxHeartbeats 4000000 in
set_option maxRecDepth 100000 in
theorem cX4_readRanks_ok (l : Launch) {G : Gl} {al : Nat → Nat} {mk : Nat} {M : Mem} {Q : Mem → Prop} (h : wpX4_readRanks M Q) : Kv l yX4_readRanks cX4_readRanks 2 none rm_X4_readRanks G al mk M [.ref (al 200)] (QV G al mk Q) := by
  refine a_head (by decide) (Nat.le_of_ble_eq_true rfl) (fun p e s m below meth c X => ?_)
  have X : Cx p s m meth c G RX4 cX4_readRanks 2 none := X
  unfold wpX4_readRanks at h
  refine a_sub (ks := [0]) (lo' := [(0, .ref (al 200))]) rfl ?_
  refine a_aload_n X dX4_readRanks_0 rfl 0 rfl ?_
  refine a_getI (k := 16) X fw4 iz_200 rfl flX4_135 rfl dX4_readRanks_1 ?_
  refine a_if_le (tgt := 12) X dX4_readRanks_4 (by decide) (fun z => ?_) (fun z => ?_)
  · have h := h.1 z
    refine a_aload_n X dX4_readRanks_12 rfl 0 rfl ?_
    refine a_cVv (As := []) (st := []) X fw4 iz_200 (cX4_goOn_ok l h) mlX4_121 mvX4_goOn (rz rfl) (Nat.le_of_ble_eq_true rfl) rfl dX4_readRanks_13 (fun M_1 h => ?_)
    refine a_aload_n X dX4_readRanks_16 rfl 0 rfl ?_
    refine a_ldcS X 8 (by decide) rfl rfl dX4_readRanks_17 ?_
    refine a_iconst (v := 2) X dX4_readRanks_19 ic_2 ?_
    refine a_bipush (v := 40) X dX4_readRanks_20 bc_40 ?_
    refine a_cVi (As := [.ref (G.2.2.1 8), .int 2, .int 40]) (st := []) X fw4 iz_200 (cX4_readPart_ok l (by decide) h) mlX4_164 mvX4_readPart (rz rfl) (Nat.le_of_ble_eq_true rfl) rfl dX4_readRanks_22 (fun r_3 M_2 h => ?_)
    refine a_istore_n (lo' := [(1, .int r_3), (0, .ref (al 200))]) X dX4_readRanks_25 rfl (by decide) rfl ?_
    refine a_aload_n X dX4_readRanks_26 rfl 1 rfl ?_
    refine a_getI (k := 10) X fw4 iz_200 rfl flX4_70 rfl dX4_readRanks_27 ?_
    refine a_if_ne (tgt := 38) X dX4_readRanks_30 (by decide) (fun z => ?_) (fun z => ?_)
    · have h := h.1 z
      exact a_vret X h dX4_readRanks_38
    · have h := h.2 z
      refine a_aload_n X dX4_readRanks_33 rfl 1 rfl ?_
      refine a_iload_n X dX4_readRanks_34 rfl 0 rfl ?_
      refine a_putI (k := 16) X fw4 iz_200 rfl flX4_135 rfl rfl dX4_readRanks_35 (fun M_4 eM_4 => ?_)
      have h := h M_4 eM_4
      exact a_vret X h dX4_readRanks_38
  · have h := h.2 z
    refine a_aload_n X dX4_readRanks_7 rfl 0 rfl ?_
    refine a_iconst (v := 4) X dX4_readRanks_8 ic_4 ?_
    refine a_cVv (As := [.int 4]) (st := []) X fw4 iz_200 (cX4_flaw_ok l h) mlX4_117 mvX4_flaw (rz rfl) (Nat.le_of_ble_eq_true rfl) rfl dX4_readRanks_9 (fun M_5 h => ?_)
    refine a_aload_n X dX4_readRanks_12 rfl 0 rfl ?_
    refine a_cVv (As := []) (st := []) X fw4 iz_200 (cX4_goOn_ok l h) mlX4_121 mvX4_goOn (rz rfl) (Nat.le_of_ble_eq_true rfl) rfl dX4_readRanks_13 (fun M_6 h => ?_)
    refine a_aload_n X dX4_readRanks_16 rfl 0 rfl ?_
    refine a_ldcS X 8 (by decide) rfl rfl dX4_readRanks_17 ?_
    refine a_iconst (v := 2) X dX4_readRanks_19 ic_2 ?_
    refine a_bipush (v := 40) X dX4_readRanks_20 bc_40 ?_
    refine a_cVi (As := [.ref (G.2.2.1 8), .int 2, .int 40]) (st := []) X fw4 iz_200 (cX4_readPart_ok l (by decide) h) mlX4_164 mvX4_readPart (rz rfl) (Nat.le_of_ble_eq_true rfl) rfl dX4_readRanks_22 (fun r_8 M_7 h => ?_)
    refine a_istore_n (lo' := [(1, .int r_8), (0, .ref (al 200))]) X dX4_readRanks_25 rfl (by decide) rfl ?_
    refine a_aload_n X dX4_readRanks_26 rfl 1 rfl ?_
    refine a_getI (k := 10) X fw4 iz_200 rfl flX4_70 rfl dX4_readRanks_27 ?_
    refine a_if_ne (tgt := 38) X dX4_readRanks_30 (by decide) (fun z => ?_) (fun z => ?_)
    · have h := h.1 z
      exact a_vret X h dX4_readRanks_38
    · have h := h.2 z
      refine a_aload_n X dX4_readRanks_33 rfl 1 rfl ?_
      refine a_iload_n X dX4_readRanks_34 rfl 0 rfl ?_
      refine a_putI (k := 16) X fw4 iz_200 rfl flX4_135 rfl rfl dX4_readRanks_35 (fun M_9 eM_9 => ?_)
      have h := h M_9 eM_9
      exact a_vret X h dX4_readRanks_38
abbrev rm_X4_needsName : Room := { frames := 6, cells := 0, slots := 0, locals := 184 }
def wpX4_needsName (M : Mem) (Q : Mem → Prop) : Prop := ((¬ (gI M 200 7) = 2 → wpX4_flaw M 1 (fun M_1 => Q M_1)) ∧ ((gI M 200 7) = 2 → wpX4_isWord M 5 (fun r_3 M_2 => ((¬ r_3 = 0 → wpX4_flaw M_2 1 (fun M_4 => Q M_4)) ∧ (r_3 = 0 → wpX4_isWord M_2 6 (fun r_6 M_5 => ((¬ r_6 = 0 → wpX4_flaw M_5 1 (fun M_7 => Q M_7)) ∧ (r_6 = 0 → wpX4_isWord M_5 7 (fun r_9 M_8 => ((r_9 = 0 → Q M_8) ∧ (¬ r_9 = 0 → wpX4_flaw M_8 1 (fun M_10 => Q M_10))))))))))))
set_option maxHeartbeats 4000000 in
set_option maxRecDepth 100000 in
theorem cX4_needsName_ok (l : Launch) {G : Gl} {al : Nat → Nat} {mk : Nat} {M : Mem} {Q : Mem → Prop} (h : wpX4_needsName M Q) : Kv l yX4_needsName cX4_needsName 1 none rm_X4_needsName G al mk M [.ref (al 200)] (QV G al mk Q) := by
  refine a_head (by decide) (Nat.le_of_ble_eq_true rfl) (fun p e s m below meth c X => ?_)
  have X : Cx p s m meth c G RX4 cX4_needsName 1 none := X
  unfold wpX4_needsName at h
  refine a_sub (ks := [0]) (lo' := [(0, .ref (al 200))]) rfl ?_
  refine a_aload_n X dX4_needsName_0 rfl 0 rfl ?_
  refine a_getI (k := 7) X fw4 iz_200 rfl flX4_83 rfl dX4_needsName_1 ?_
  refine a_iconst (v := 2) X dX4_needsName_4 ic_2 ?_
  refine a_icmp_ne (tgt := 35) X dX4_needsName_5 (by decide) (fun z => ?_) (fun z => ?_)
  · have h := h.1 z
    refine a_aload_n X dX4_needsName_35 rfl 0 rfl ?_
    refine a_iconst (v := 1) X dX4_needsName_36 ic_1 ?_
    refine a_cVv (As := [.int 1]) (st := []) X fw4 iz_200 (cX4_flaw_ok l h) mlX4_117 mvX4_flaw (rz rfl) (Nat.le_of_ble_eq_true rfl) rfl dX4_needsName_37 (fun M_1 h => ?_)
    exact a_vret X h dX4_needsName_40
  · have h := h.2 z
    refine a_aload_n X dX4_needsName_8 rfl 0 rfl ?_
    refine a_ldcS X 5 (by decide) rfl rfl dX4_needsName_9 ?_
    refine a_cVi (As := [.ref (G.2.2.1 5)]) (st := []) X fw4 iz_200 (cX4_isWord_ok l (by decide) h) mlX4_113 mvX4_isWord (rz rfl) (Nat.le_of_ble_eq_true rfl) rfl dX4_needsName_11 (fun r_3 M_2 h => ?_)
    refine a_if_ne (tgt := 35) X dX4_needsName_14 (by decide) (fun z => ?_) (fun z => ?_)
    · have h := h.1 z
      refine a_aload_n X dX4_needsName_35 rfl 0 rfl ?_
      refine a_iconst (v := 1) X dX4_needsName_36 ic_1 ?_
      refine a_cVv (As := [.int 1]) (st := []) X fw4 iz_200 (cX4_flaw_ok l h) mlX4_117 mvX4_flaw (rz rfl) (Nat.le_of_ble_eq_true rfl) rfl dX4_needsName_37 (fun M_4 h => ?_)
      exact a_vret X h dX4_needsName_40
    · have h := h.2 z
      refine a_aload_n X dX4_needsName_17 rfl 0 rfl ?_
      refine a_ldcS X 6 (by decide) rfl rfl dX4_needsName_18 ?_
      refine a_cVi (As := [.ref (G.2.2.1 6)]) (st := []) X fw4 iz_200 (cX4_isWord_ok l (by decide) h) mlX4_113 mvX4_isWord (rz rfl) (Nat.le_of_ble_eq_true rfl) rfl dX4_needsName_20 (fun r_6 M_5 h => ?_)
      refine a_if_ne (tgt := 35) X dX4_needsName_23 (by decide) (fun z => ?_) (fun z => ?_)
      · have h := h.1 z
        refine a_aload_n X dX4_needsName_35 rfl 0 rfl ?_
        refine a_iconst (v := 1) X dX4_needsName_36 ic_1 ?_
        refine a_cVv (As := [.int 1]) (st := []) X fw4 iz_200 (cX4_flaw_ok l h) mlX4_117 mvX4_flaw (rz rfl) (Nat.le_of_ble_eq_true rfl) rfl dX4_needsName_37 (fun M_7 h => ?_)
        exact a_vret X h dX4_needsName_40
      · have h := h.2 z
        refine a_aload_n X dX4_needsName_26 rfl 0 rfl ?_
        refine a_ldcS X 7 (by decide) rfl rfl dX4_needsName_27 ?_
        refine a_cVi (As := [.ref (G.2.2.1 7)]) (st := []) X fw4 iz_200 (cX4_isWord_ok l (by decide) h) mlX4_113 mvX4_isWord (rz rfl) (Nat.le_of_ble_eq_true rfl) rfl dX4_needsName_29 (fun r_9 M_8 h => ?_)
        refine a_if_eq (tgt := 40) X dX4_needsName_32 (by decide) (fun z => ?_) (fun z => ?_)
        · have h := h.1 z
          exact a_vret X h dX4_needsName_40
        · have h := h.2 z
          refine a_aload_n X dX4_needsName_35 rfl 0 rfl ?_
          refine a_iconst (v := 1) X dX4_needsName_36 ic_1 ?_
          refine a_cVv (As := [.int 1]) (st := []) X fw4 iz_200 (cX4_flaw_ok l h) mlX4_117 mvX4_flaw (rz rfl) (Nat.le_of_ble_eq_true rfl) rfl dX4_needsName_37 (fun M_10 h => ?_)
          exact a_vret X h dX4_needsName_40
abbrev rm_X4_named : Room := { frames := 0, cells := 0, slots := 0, locals := 0 }
def wX4_named_2 (Q : Int32 → Mem → Prop) : Nat → Mem → Int32 → Prop
  | 0, _, _ => False
  | n + 1, M, v1 => (((gI M 200 17) ≤ v1 → Q (-1) M) ∧ (¬ (gI M 200 17) ≤ v1 → (vp_in v1 4 ∧ ((¬ (lg_cmp (gL M 213 (Int32.toNatClampNeg v1)) (gL M 200 11)) = 0 → wX4_named_2 Q n M (v1 + 1)) ∧ ((lg_cmp (gL M 213 (Int32.toNatClampNeg v1)) (gL M 200 11)) = 0 → Q v1 M)))))
def wpX4_named (M : Mem) (Q : Int32 → Mem → Prop) : Prop := ∃ n, wX4_named_2 Q n M 0
set_option maxHeartbeats 4000000 in
set_option maxRecDepth 100000 in
theorem tX4_named_2 (X : Cx p s m meth c G RX4 cX4_named 2 (some .int)) {Q : Int32 → Mem → Prop} : ∀ (n : Nat) (M : Mem) (v1 : Int32), wX4_named_2 Q n M v1 → Wa p l e rm_X4_named s m args below meth c 2 G al mk 0 0 (MQ below (QI G al mk Q) args s 0 0 (gA G)) M 2 [(0, .ref (al 200)), (1, .int v1)] [] := by
  intro n
  induction n with
  | zero =>
    intro M v1 h
    exact False.elim h
  | succ n ih =>
    intro M v1 h
    rw [wX4_named_2] at h
    refine a_iload_n X dX4_named_2 rfl 1 rfl ?_
    refine a_aload_n X dX4_named_3 rfl 0 rfl ?_
    refine a_getI (k := 17) X fw4 iz_200 rfl flX4_138 rfl dX4_named_4 ?_
    refine a_icmp_ge (tgt := 32) X dX4_named_7 (by decide) (fun z => ?_) (fun z => ?_)
    · have h := h.1 z
      refine a_iconst (v := (-1)) X dX4_named_32 ic_m1 ?_
      exact a_iret X h dX4_named_33
    · have h := h.2 z
      refine a_aload_n X dX4_named_10 rfl 0 rfl ?_
      refine a_getR (k := 12) X 13 (b := 213) fw4 iz_200 rfl rfl flX4_17 rfl dX4_named_11 ?_
      refine a_iload_n X dX4_named_14 rfl 1 rfl ?_
      refine a_lald X iz_213 h.1 dX4_named_15 ?_
      have h := h.2
      refine a_aload_n X dX4_named_16 rfl 0 rfl ?_
      refine a_getL (k := 11) X fw4 iz_200 rfl flX4_96 rfl dX4_named_17 ?_
      refine a_lcmp X dX4_named_20 ?_
      refine a_if_ne (tgt := 26) X dX4_named_21 (by decide) (fun z => ?_) (fun z => ?_)
      · have h := h.1 z
        refine a_iinc (v := v1 + 1) (lo' := [(1, .int (v1 + 1)), (0, .ref (al 200))]) X dX4_named_26 1 rfl (ii_1 _) (by decide) rfl ?_
        refine a_goto (tgt := 2) X dX4_named_29 (by decide) ?_
        refine a_sub (ks := [1, 0]) (lo' := [(0, .ref (al 200)), (1, .int (v1 + 1))]) rfl ?_
        exact ih _ _ h
      · have h := h.2 z
        refine a_iload_n X dX4_named_24 rfl 1 rfl ?_
        exact a_iret X h dX4_named_25
set_option maxHeartbeats 4000000 in
set_option maxRecDepth 100000 in
theorem cX4_named_ok (l : Launch) {G : Gl} {al : Nat → Nat} {mk : Nat} {M : Mem} {Q : Int32 → Mem → Prop} (h : wpX4_named M Q) : Kv l yX4_named cX4_named 2 (some .int) rm_X4_named G al mk M [.ref (al 200)] (QI G al mk Q) := by
  refine a_head (by decide) (Nat.le_of_ble_eq_true rfl) (fun p e s m below meth c X => ?_)
  have X : Cx p s m meth c G RX4 cX4_named 2 (some .int) := X
  unfold wpX4_named at h
  refine a_sub (ks := [0]) (lo' := [(0, .ref (al 200))]) rfl ?_
  refine a_iconst (v := 0) X dX4_named_0 ic_0 ?_
  refine a_istore_n (lo' := [(1, .int 0), (0, .ref (al 200))]) X dX4_named_1 rfl (by decide) rfl ?_
  refine a_sub (ks := [1, 0]) (lo' := [(0, .ref (al 200)), (1, .int 0)]) rfl ?_
  obtain ⟨n9, h⟩ := h
  exact tX4_named_2 X n9 _ _ h
abbrev rm_X4_readStream : Room := { frames := 8, cells := 0, slots := 0, locals := 228 }
def wX4_readStream_54 (Q : Mem → Prop) (M : Mem) : Prop := (∀ x_3 : Int64, x_3 = (gL M 200 11) → wpX4_goOn M (fun M_4 => wpX4_readPart M_4 9 1 60 (fun r_6 M_5 => (((gI M_5 200 10) ≤ 0 → (vp_in (gI M_5 200 17) 4 ∧ ∀ M_7 : Mem, M_7 = pL M_5 213 (Int32.toNatClampNeg (gI M_5 200 17)) x_3 → (vp_in (gI M_7 200 17) 4 ∧ ∀ M_8 : Mem, M_8 = pI M_7 214 (Int32.toNatClampNeg (gI M_7 200 17)) r_6 → (∀ M_9 : Mem, M_9 = pI M_8 200 17 ((gI M_8 200 17) + 1) → Q M_9)))) ∧ (¬ (gI M_5 200 10) ≤ 0 → Q M_5)))))
def wX4_readStream_13 (Q : Mem → Prop) (M : Mem) : Prop := ((¬ (gI M 200 16) = 0 → wpX4_goOn M (fun M_1 => wpX4_needsName M_1 (fun M_2 => ((¬ (gI M_2 200 10) = 0 → wX4_readStream_54 Q M_2) ∧ ((gI M_2 200 10) = 0 → wpX4_named M_2 (fun r_11 M_10 => ((r_11 = (-1) → wX4_readStream_54 Q M_10) ∧ (¬ r_11 = (-1) → wpX4_flaw M_10 3 (fun M_12 => wX4_readStream_54 Q M_12))))))))) ∧ ((gI M 200 16) = 0 → wpX4_flaw M 6 (fun M_13 => wpX4_goOn M_13 (fun M_14 => wpX4_needsName M_14 (fun M_15 => ((¬ (gI M_15 200 10) = 0 → wX4_readStream_54 Q M_15) ∧ ((gI M_15 200 10) = 0 → wpX4_named M_15 (fun r_17 M_16 => ((r_17 = (-1) → wX4_readStream_54 Q M_16) ∧ (¬ r_17 = (-1) → wpX4_flaw M_16 3 (fun M_18 => wX4_readStream_54 Q M_18)))))))))))
def wpX4_readStream (M : Mem) (Q : Mem → Prop) : Prop := ((¬ (gI M 200 17) = 4 → wX4_readStream_13 Q M) ∧ ((gI M 200 17) = 4 → wpX4_flaw M 5 (fun M_19 => wX4_readStream_13 Q M_19)))
set_option maxHeartbeats 4000000 in
set_option maxRecDepth 100000 in
theorem tX4_readStream_54 (X : Cx p s m meth c G RX4 cX4_readStream 4 none) {Q : Mem → Prop} {M : Mem} (h : wX4_readStream_54 Q M) : Wa p l e rm_X4_readStream s m args below meth c 4 G al mk 0 0 (MQ below (QV G al mk Q) args s 0 0 (gA G)) M 54 [(0, .ref (al 200))] [] := by
  unfold wX4_readStream_54 at h
  refine a_aload_n X dX4_readStream_54 rfl 0 rfl ?_
  refine a_getL (k := 11) X fw4 iz_200 rfl flX4_96 rfl dX4_readStream_55 ?_
  refine a_topl (fun x_3 ex_3 => ?_)
  have h := h x_3 ex_3
  refine a_lstore_n (lo' := [(1, .long x_3), (0, .ref (al 200))]) X dX4_readStream_58 rfl (by decide) rfl ?_
  refine a_aload_n X dX4_readStream_59 rfl 1 rfl ?_
  refine a_cVv (As := []) (st := []) X fw4 iz_200 (cX4_goOn_ok l h) mlX4_121 mvX4_goOn (rz rfl) (Nat.le_of_ble_eq_true rfl) rfl dX4_readStream_60 (fun M_4 h => ?_)
  refine a_aload_n X dX4_readStream_63 rfl 1 rfl ?_
  refine a_ldcS X 9 (by decide) rfl rfl dX4_readStream_64 ?_
  refine a_iconst (v := 1) X dX4_readStream_66 ic_1 ?_
  refine a_bipush (v := 60) X dX4_readStream_67 bc_60 ?_
  refine a_cVi (As := [.ref (G.2.2.1 9), .int 1, .int 60]) (st := []) X fw4 iz_200 (cX4_readPart_ok l (by decide) h) mlX4_164 mvX4_readPart (rz rfl) (Nat.le_of_ble_eq_true rfl) rfl dX4_readStream_69 (fun r_6 M_5 h => ?_)
  refine a_istore_n (lo' := [(3, .int r_6), (1, .long x_3), (0, .ref (al 200))]) X dX4_readStream_72 rfl (by decide) rfl ?_
  refine a_aload_n X dX4_readStream_73 rfl 2 rfl ?_
  refine a_getI (k := 10) X fw4 iz_200 rfl flX4_70 rfl dX4_readStream_74 ?_
  refine a_if_le (tgt := 81) X dX4_readStream_77 (by decide) (fun z => ?_) (fun z => ?_)
  · have h := h.1 z
    refine a_aload_n X dX4_readStream_81 rfl 2 rfl ?_
    refine a_getR (k := 12) X 13 (b := 213) fw4 iz_200 rfl rfl flX4_17 rfl dX4_readStream_82 ?_
    refine a_aload_n X dX4_readStream_85 rfl 2 rfl ?_
    refine a_getI (k := 17) X fw4 iz_200 rfl flX4_138 rfl dX4_readStream_86 ?_
    refine a_lload_n X dX4_readStream_89 rfl 1 rfl ?_
    refine a_last X iz_213 h.1 dX4_readStream_90 (fun M_7 eM_7 => ?_)
    have h := h.2 M_7 eM_7
    refine a_aload_n X dX4_readStream_91 rfl 2 rfl ?_
    refine a_getR (k := 13) X 14 (b := 214) fw4 iz_200 rfl rfl flX4_21 rfl dX4_readStream_92 ?_
    refine a_aload_n X dX4_readStream_95 rfl 2 rfl ?_
    refine a_getI (k := 17) X fw4 iz_200 rfl flX4_138 rfl dX4_readStream_96 ?_
    refine a_iload_n X dX4_readStream_99 rfl 0 rfl ?_
    refine a_iast X iz_214 h.1 dX4_readStream_100 (fun M_8 eM_8 => ?_)
    have h := h.2 M_8 eM_8
    refine a_aload_n X dX4_readStream_101 rfl 2 rfl ?_
    refine a_dup X dX4_readStream_102 rfl ?_
    refine a_getI (k := 17) X fw4 iz_200 rfl flX4_138 rfl dX4_readStream_103 ?_
    refine a_iconst (v := 1) X dX4_readStream_106 ic_1 ?_
    refine a_iadd X dX4_readStream_107 ?_
    refine a_putI (k := 17) X fw4 iz_200 rfl flX4_138 rfl rfl dX4_readStream_108 (fun M_9 eM_9 => ?_)
    have h := h M_9 eM_9
    exact a_vret X h dX4_readStream_111
  · have h := h.2 z
    exact a_vret X h dX4_readStream_80
set_option maxHeartbeats 4000000 in
set_option maxRecDepth 100000 in
theorem tX4_readStream_13 (X : Cx p s m meth c G RX4 cX4_readStream 4 none) {Q : Mem → Prop} {M : Mem} (h : wX4_readStream_13 Q M) : Wa p l e rm_X4_readStream s m args below meth c 4 G al mk 0 0 (MQ below (QV G al mk Q) args s 0 0 (gA G)) M 13 [(0, .ref (al 200))] [] := by
  unfold wX4_readStream_13 at h
  refine a_aload_n X dX4_readStream_13 rfl 0 rfl ?_
  refine a_getI (k := 16) X fw4 iz_200 rfl flX4_135 rfl dX4_readStream_14 ?_
  refine a_if_ne (tgt := 26) X dX4_readStream_17 (by decide) (fun z => ?_) (fun z => ?_)
  · have h := h.1 z
    refine a_aload_n X dX4_readStream_26 rfl 0 rfl ?_
    refine a_cVv (As := []) (st := []) X fw4 iz_200 (cX4_goOn_ok l h) mlX4_121 mvX4_goOn (rz rfl) (Nat.le_of_ble_eq_true rfl) rfl dX4_readStream_27 (fun M_1 h => ?_)
    refine a_aload_n X dX4_readStream_30 rfl 0 rfl ?_
    refine a_cVv (As := []) (st := []) X fw4 iz_200 (cX4_needsName_ok l h) mlX4_168 mvX4_needsName (rz rfl) (Nat.le_of_ble_eq_true rfl) rfl dX4_readStream_31 (fun M_2 h => ?_)
    refine a_aload_n X dX4_readStream_34 rfl 0 rfl ?_
    refine a_getI (k := 10) X fw4 iz_200 rfl flX4_70 rfl dX4_readStream_35 ?_
    refine a_if_ne (tgt := 54) X dX4_readStream_38 (by decide) (fun z => ?_) (fun z => ?_)
    · have h := h.1 z
      exact tX4_readStream_54 X h
    · have h := h.2 z
      refine a_aload_n X dX4_readStream_41 rfl 0 rfl ?_
      refine a_cVi (As := []) (st := []) X fw4 iz_200 (cX4_named_ok l h) mlX4_171 mvX4_named (rz rfl) (Nat.le_of_ble_eq_true rfl) rfl dX4_readStream_42 (fun r_11 M_10 h => ?_)
      refine a_iconst (v := (-1)) X dX4_readStream_45 ic_m1 ?_
      refine a_icmp_eq (tgt := 54) X dX4_readStream_46 (by decide) (fun z => ?_) (fun z => ?_)
      · have h := h.1 z
        exact tX4_readStream_54 X h
      · have h := h.2 z
        refine a_aload_n X dX4_readStream_49 rfl 0 rfl ?_
        refine a_iconst (v := 3) X dX4_readStream_50 ic_3 ?_
        refine a_cVv (As := [.int 3]) (st := []) X fw4 iz_200 (cX4_flaw_ok l h) mlX4_117 mvX4_flaw (rz rfl) (Nat.le_of_ble_eq_true rfl) rfl dX4_readStream_51 (fun M_12 h => ?_)
        exact tX4_readStream_54 X h
  · have h := h.2 z
    refine a_aload_n X dX4_readStream_20 rfl 0 rfl ?_
    refine a_bipush (v := 6) X dX4_readStream_21 bc_6 ?_
    refine a_cVv (As := [.int 6]) (st := []) X fw4 iz_200 (cX4_flaw_ok l h) mlX4_117 mvX4_flaw (rz rfl) (Nat.le_of_ble_eq_true rfl) rfl dX4_readStream_23 (fun M_13 h => ?_)
    refine a_aload_n X dX4_readStream_26 rfl 0 rfl ?_
    refine a_cVv (As := []) (st := []) X fw4 iz_200 (cX4_goOn_ok l h) mlX4_121 mvX4_goOn (rz rfl) (Nat.le_of_ble_eq_true rfl) rfl dX4_readStream_27 (fun M_14 h => ?_)
    refine a_aload_n X dX4_readStream_30 rfl 0 rfl ?_
    refine a_cVv (As := []) (st := []) X fw4 iz_200 (cX4_needsName_ok l h) mlX4_168 mvX4_needsName (rz rfl) (Nat.le_of_ble_eq_true rfl) rfl dX4_readStream_31 (fun M_15 h => ?_)
    refine a_aload_n X dX4_readStream_34 rfl 0 rfl ?_
    refine a_getI (k := 10) X fw4 iz_200 rfl flX4_70 rfl dX4_readStream_35 ?_
    refine a_if_ne (tgt := 54) X dX4_readStream_38 (by decide) (fun z => ?_) (fun z => ?_)
    · have h := h.1 z
      exact tX4_readStream_54 X h
    · have h := h.2 z
      refine a_aload_n X dX4_readStream_41 rfl 0 rfl ?_
      refine a_cVi (As := []) (st := []) X fw4 iz_200 (cX4_named_ok l h) mlX4_171 mvX4_named (rz rfl) (Nat.le_of_ble_eq_true rfl) rfl dX4_readStream_42 (fun r_17 M_16 h => ?_)
      refine a_iconst (v := (-1)) X dX4_readStream_45 ic_m1 ?_
      refine a_icmp_eq (tgt := 54) X dX4_readStream_46 (by decide) (fun z => ?_) (fun z => ?_)
      · have h := h.1 z
        exact tX4_readStream_54 X h
      · have h := h.2 z
        refine a_aload_n X dX4_readStream_49 rfl 0 rfl ?_
        refine a_iconst (v := 3) X dX4_readStream_50 ic_3 ?_
        refine a_cVv (As := [.int 3]) (st := []) X fw4 iz_200 (cX4_flaw_ok l h) mlX4_117 mvX4_flaw (rz rfl) (Nat.le_of_ble_eq_true rfl) rfl dX4_readStream_51 (fun M_18 h => ?_)
        exact tX4_readStream_54 X h
set_option maxHeartbeats 4000000 in
set_option maxRecDepth 100000 in
theorem cX4_readStream_ok (l : Launch) {G : Gl} {al : Nat → Nat} {mk : Nat} {M : Mem} {Q : Mem → Prop} (h : wpX4_readStream M Q) : Kv l yX4_readStream cX4_readStream 4 none rm_X4_readStream G al mk M [.ref (al 200)] (QV G al mk Q) := by
  refine a_head (by decide) (Nat.le_of_ble_eq_true rfl) (fun p e s m below meth c X => ?_)
  have X : Cx p s m meth c G RX4 cX4_readStream 4 none := X
  unfold wpX4_readStream at h
  refine a_sub (ks := [0]) (lo' := [(0, .ref (al 200))]) rfl ?_
  refine a_aload_n X dX4_readStream_0 rfl 0 rfl ?_
  refine a_getI (k := 17) X fw4 iz_200 rfl flX4_138 rfl dX4_readStream_1 ?_
  refine a_iconst (v := 4) X dX4_readStream_4 ic_4 ?_
  refine a_icmp_ne (tgt := 13) X dX4_readStream_5 (by decide) (fun z => ?_) (fun z => ?_)
  · have h := h.1 z
    exact tX4_readStream_13 X h
  · have h := h.2 z
    refine a_aload_n X dX4_readStream_8 rfl 0 rfl ?_
    refine a_iconst (v := 5) X dX4_readStream_9 ic_5 ?_
    refine a_cVv (As := [.int 5]) (st := []) X fw4 iz_200 (cX4_flaw_ok l h) mlX4_117 mvX4_flaw (rz rfl) (Nat.le_of_ble_eq_true rfl) rfl dX4_readStream_10 (fun M_19 h => ?_)
    exact tX4_readStream_13 X h
abbrev rm_X4_pushed : Room := { frames := 0, cells := 0, slots := 0, locals := 0 }
def wpX4_pushed (M : Mem) (v1 : Int32) (v2 : Int32) (Q : Mem → Prop) : Prop := (((gI M 200 10) ≤ 0 → (vp_in (gI M 200 18) 400 ∧ ∀ M_1 : Mem, M_1 = pI M 215 (Int32.toNatClampNeg (gI M 200 18)) v1 → (vp_in (gI M_1 200 18) 400 ∧ ∀ M_2 : Mem, M_2 = pI M_1 216 (Int32.toNatClampNeg (gI M_1 200 18)) v2 → (∀ M_3 : Mem, M_3 = pI M_2 200 18 ((gI M_2 200 18) + 1) → Q M_3)))) ∧ (¬ (gI M 200 10) ≤ 0 → Q M))
set_option maxHeartbeats 4000000 in
set_option maxRecDepth 100000 in
theorem cX4_pushed_ok (l : Launch) {G : Gl} {al : Nat → Nat} {mk : Nat} {M : Mem} {v1 : Int32} {v2 : Int32} {Q : Mem → Prop} (h : wpX4_pushed M v1 v2 Q) : Kv l yX4_pushed cX4_pushed 3 none rm_X4_pushed G al mk M [.ref (al 200), .int v1, .int v2] (QV G al mk Q) := by
  refine a_head (by decide) (Nat.le_of_ble_eq_true rfl) (fun p e s m below meth c X => ?_)
  have X : Cx p s m meth c G RX4 cX4_pushed 3 none := X
  unfold wpX4_pushed at h
  refine a_sub (ks := [0, 1, 2]) (lo' := [(0, .ref (al 200)), (1, .int v1), (2, .int v2)]) rfl ?_
  refine a_aload_n X dX4_pushed_0 rfl 0 rfl ?_
  refine a_getI (k := 10) X fw4 iz_200 rfl flX4_70 rfl dX4_pushed_1 ?_
  refine a_if_le (tgt := 8) X dX4_pushed_4 (by decide) (fun z => ?_) (fun z => ?_)
  · have h := h.1 z
    refine a_aload_n X dX4_pushed_8 rfl 0 rfl ?_
    refine a_getR (k := 14) X 15 (b := 215) fw4 iz_200 rfl rfl flX4_25 rfl dX4_pushed_9 ?_
    refine a_aload_n X dX4_pushed_12 rfl 0 rfl ?_
    refine a_getI (k := 18) X fw4 iz_200 rfl flX4_141 rfl dX4_pushed_13 ?_
    refine a_iload_n X dX4_pushed_16 rfl 1 rfl ?_
    refine a_iast X iz_215 h.1 dX4_pushed_17 (fun M_1 eM_1 => ?_)
    have h := h.2 M_1 eM_1
    refine a_aload_n X dX4_pushed_18 rfl 0 rfl ?_
    refine a_getR (k := 15) X 16 (b := 216) fw4 iz_200 rfl rfl flX4_28 rfl dX4_pushed_19 ?_
    refine a_aload_n X dX4_pushed_22 rfl 0 rfl ?_
    refine a_getI (k := 18) X fw4 iz_200 rfl flX4_141 rfl dX4_pushed_23 ?_
    refine a_iload_n X dX4_pushed_26 rfl 2 rfl ?_
    refine a_iast X iz_216 h.1 dX4_pushed_27 (fun M_2 eM_2 => ?_)
    have h := h.2 M_2 eM_2
    refine a_aload_n X dX4_pushed_28 rfl 0 rfl ?_
    refine a_dup X dX4_pushed_29 rfl ?_
    refine a_getI (k := 18) X fw4 iz_200 rfl flX4_141 rfl dX4_pushed_30 ?_
    refine a_iconst (v := 1) X dX4_pushed_33 ic_1 ?_
    refine a_iadd X dX4_pushed_34 ?_
    refine a_putI (k := 18) X fw4 iz_200 rfl flX4_141 rfl rfl dX4_pushed_35 (fun M_3 eM_3 => ?_)
    have h := h M_3 eM_3
    exact a_vret X h dX4_pushed_38
  · have h := h.2 z
    exact a_vret X h dX4_pushed_7
abbrev rm_X4_readPush : Room := { frames := 7, cells := 0, slots := 0, locals := 204 }
def wX4_readPush_74 (Q : Mem → Prop) (v1 : Int32) : Nat → Mem → Prop
  | 0, _ => False
  | n + 1, M => ((¬ (gI M 200 10) = 0 → Q M) ∧ ((gI M 200 10) = 0 → ((¬ (gI M 200 7) = 3 → Q M) ∧ ((gI M 200 7) = 3 → wpX4_readWhole M 0 999 (fun r_8 M_7 => wpX4_pushed M_7 v1 r_8 (fun M_9 => wX4_readPush_74 Q v1 n M_9))))))
def wX4_readPush_41 (Q : Mem → Prop) (M : Mem) : Prop := ((¬ (gI M 200 10) = 0 → wpX4_goOn M (fun M_3 => wpX4_readWhole M_3 0 999 (fun r_5 M_4 => wpX4_pushed M_4 (-1) r_5 (fun M_6 => ∃ n, wX4_readPush_74 Q (-1) n M_6)))) ∧ ((gI M 200 10) = 0 → wpX4_named M (fun r_11 M_10 => wpX4_goOn M_10 (fun M_12 => wpX4_readWhole M_12 0 999 (fun r_14 M_13 => wpX4_pushed M_13 r_11 r_14 (fun M_15 => ∃ n, wX4_readPush_74 Q r_11 n M_15))))))
def wpX4_readPush (M : Mem) (Q : Mem → Prop) : Prop := ((¬ (gI M 200 16) = 0 → wpX4_goOn M (fun M_1 => wpX4_needsName M_1 (fun M_2 => ((¬ (gI M_2 200 10) = 0 → wX4_readPush_41 Q M_2) ∧ ((gI M_2 200 10) = 0 → wpX4_named M_2 (fun r_17 M_16 => ((¬ r_17 = (-1) → wX4_readPush_41 Q M_16) ∧ (r_17 = (-1) → wpX4_flaw M_16 3 (fun M_18 => wX4_readPush_41 Q M_18))))))))) ∧ ((gI M 200 16) = 0 → wpX4_flaw M 6 (fun M_19 => wpX4_goOn M_19 (fun M_20 => wpX4_needsName M_20 (fun M_21 => ((¬ (gI M_21 200 10) = 0 → wX4_readPush_41 Q M_21) ∧ ((gI M_21 200 10) = 0 → wpX4_named M_21 (fun r_23 M_22 => ((¬ r_23 = (-1) → wX4_readPush_41 Q M_22) ∧ (r_23 = (-1) → wpX4_flaw M_22 3 (fun M_24 => wX4_readPush_41 Q M_24)))))))))))
set_option maxHeartbeats 4000000 in
set_option maxRecDepth 100000 in
theorem tX4_readPush_74 (X : Cx p s m meth c G RX4 cX4_readPush 2 none) {Q : Mem → Prop} {v1 : Int32} : ∀ (n : Nat) (M : Mem), wX4_readPush_74 Q v1 n M → Wa p l e rm_X4_readPush s m args below meth c 2 G al mk 0 0 (MQ below (QV G al mk Q) args s 0 0 (gA G)) M 74 [(0, .ref (al 200)), (1, .int v1)] [] := by
  intro n
  induction n with
  | zero =>
    intro M h
    exact False.elim h
  | succ n ih =>
    intro M h
    rw [wX4_readPush_74] at h
    refine a_aload_n X dX4_readPush_74 rfl 0 rfl ?_
    refine a_getI (k := 10) X fw4 iz_200 rfl flX4_70 rfl dX4_readPush_75 ?_
    refine a_if_ne (tgt := 105) X dX4_readPush_78 (by decide) (fun z => ?_) (fun z => ?_)
    · have h := h.1 z
      exact a_vret X h dX4_readPush_105
    · have h := h.2 z
      refine a_aload_n X dX4_readPush_81 rfl 0 rfl ?_
      refine a_getI (k := 7) X fw4 iz_200 rfl flX4_83 rfl dX4_readPush_82 ?_
      refine a_iconst (v := 3) X dX4_readPush_85 ic_3 ?_
      refine a_icmp_ne (tgt := 105) X dX4_readPush_86 (by decide) (fun z => ?_) (fun z => ?_)
      · have h := h.1 z
        exact a_vret X h dX4_readPush_105
      · have h := h.2 z
        refine a_aload_n X dX4_readPush_89 rfl 0 rfl ?_
        refine a_iload_n X dX4_readPush_90 rfl 1 rfl ?_
        refine a_aload_n X dX4_readPush_91 rfl 0 rfl ?_
        refine a_iconst (v := 0) X dX4_readPush_92 ic_0 ?_
        refine a_sipush (v := 999) X dX4_readPush_93 sc_999 ?_
        refine a_cVi (As := [.int 0, .int 999]) (st := [.int v1, .ref (al 200)]) X fw4 iz_200 (cX4_readWhole_ok l h) mlX4_128 mvX4_readWhole (rz rfl) (Nat.le_of_ble_eq_true rfl) rfl dX4_readPush_96 (fun r_8 M_7 h => ?_)
        refine a_cVv (As := [.int v1, .int r_8]) (st := []) X fw4 iz_200 (cX4_pushed_ok l h) mlX4_175 mvX4_pushed (rz rfl) (Nat.le_of_ble_eq_true rfl) rfl dX4_readPush_99 (fun M_9 h => ?_)
        refine a_goto (tgt := 74) X dX4_readPush_102 (by decide) ?_
        exact ih _ h
set_option maxHeartbeats 4000000 in
set_option maxRecDepth 100000 in
theorem tX4_readPush_41 (X : Cx p s m meth c G RX4 cX4_readPush 2 none) {Q : Mem → Prop} {M : Mem} (h : wX4_readPush_41 Q M) : Wa p l e rm_X4_readPush s m args below meth c 2 G al mk 0 0 (MQ below (QV G al mk Q) args s 0 0 (gA G)) M 41 [(0, .ref (al 200))] [] := by
  unfold wX4_readPush_41 at h
  refine a_aload_n X dX4_readPush_41 rfl 0 rfl ?_
  refine a_getI (k := 10) X fw4 iz_200 rfl flX4_70 rfl dX4_readPush_42 ?_
  refine a_if_ne (tgt := 55) X dX4_readPush_45 (by decide) (fun z => ?_) (fun z => ?_)
  · have h := h.1 z
    refine a_iconst (v := (-1)) X dX4_readPush_55 ic_m1 ?_
    refine a_istore_n (lo' := [(1, .int (-1)), (0, .ref (al 200))]) X dX4_readPush_56 rfl (by decide) rfl ?_
    refine a_aload_n X dX4_readPush_57 rfl 1 rfl ?_
    refine a_cVv (As := []) (st := []) X fw4 iz_200 (cX4_goOn_ok l h) mlX4_121 mvX4_goOn (rz rfl) (Nat.le_of_ble_eq_true rfl) rfl dX4_readPush_58 (fun M_3 h => ?_)
    refine a_aload_n X dX4_readPush_61 rfl 1 rfl ?_
    refine a_iload_n X dX4_readPush_62 rfl 0 rfl ?_
    refine a_aload_n X dX4_readPush_63 rfl 1 rfl ?_
    refine a_iconst (v := 0) X dX4_readPush_64 ic_0 ?_
    refine a_sipush (v := 999) X dX4_readPush_65 sc_999 ?_
    refine a_cVi (As := [.int 0, .int 999]) (st := [.int (-1), .ref (al 200)]) X fw4 iz_200 (cX4_readWhole_ok l h) mlX4_128 mvX4_readWhole (rz rfl) (Nat.le_of_ble_eq_true rfl) rfl dX4_readPush_68 (fun r_5 M_4 h => ?_)
    refine a_cVv (As := [.int (-1), .int r_5]) (st := []) X fw4 iz_200 (cX4_pushed_ok l h) mlX4_175 mvX4_pushed (rz rfl) (Nat.le_of_ble_eq_true rfl) rfl dX4_readPush_71 (fun M_6 h => ?_)
    refine a_sub (ks := [1, 0]) (lo' := [(0, .ref (al 200)), (1, .int (-1))]) rfl ?_
    obtain ⟨n9, h⟩ := h
    exact tX4_readPush_74 X n9 _ h
  · have h := h.2 z
    refine a_aload_n X dX4_readPush_48 rfl 0 rfl ?_
    refine a_cVi (As := []) (st := []) X fw4 iz_200 (cX4_named_ok l h) mlX4_171 mvX4_named (rz rfl) (Nat.le_of_ble_eq_true rfl) rfl dX4_readPush_49 (fun r_11 M_10 h => ?_)
    refine a_goto (tgt := 56) X dX4_readPush_52 (by decide) ?_
    refine a_istore_n (lo' := [(1, .int r_11), (0, .ref (al 200))]) X dX4_readPush_56 rfl (by decide) rfl ?_
    refine a_aload_n X dX4_readPush_57 rfl 1 rfl ?_
    refine a_cVv (As := []) (st := []) X fw4 iz_200 (cX4_goOn_ok l h) mlX4_121 mvX4_goOn (rz rfl) (Nat.le_of_ble_eq_true rfl) rfl dX4_readPush_58 (fun M_12 h => ?_)
    refine a_aload_n X dX4_readPush_61 rfl 1 rfl ?_
    refine a_iload_n X dX4_readPush_62 rfl 0 rfl ?_
    refine a_aload_n X dX4_readPush_63 rfl 1 rfl ?_
    refine a_iconst (v := 0) X dX4_readPush_64 ic_0 ?_
    refine a_sipush (v := 999) X dX4_readPush_65 sc_999 ?_
    refine a_cVi (As := [.int 0, .int 999]) (st := [.int r_11, .ref (al 200)]) X fw4 iz_200 (cX4_readWhole_ok l h) mlX4_128 mvX4_readWhole (rz rfl) (Nat.le_of_ble_eq_true rfl) rfl dX4_readPush_68 (fun r_14 M_13 h => ?_)
    refine a_cVv (As := [.int r_11, .int r_14]) (st := []) X fw4 iz_200 (cX4_pushed_ok l h) mlX4_175 mvX4_pushed (rz rfl) (Nat.le_of_ble_eq_true rfl) rfl dX4_readPush_71 (fun M_15 h => ?_)
    refine a_sub (ks := [1, 0]) (lo' := [(0, .ref (al 200)), (1, .int r_11)]) rfl ?_
    obtain ⟨n9, h⟩ := h
    exact tX4_readPush_74 X n9 _ h
set_option maxHeartbeats 4000000 in
set_option maxRecDepth 100000 in
theorem cX4_readPush_ok (l : Launch) {G : Gl} {al : Nat → Nat} {mk : Nat} {M : Mem} {Q : Mem → Prop} (h : wpX4_readPush M Q) : Kv l yX4_readPush cX4_readPush 2 none rm_X4_readPush G al mk M [.ref (al 200)] (QV G al mk Q) := by
  refine a_head (by decide) (Nat.le_of_ble_eq_true rfl) (fun p e s m below meth c X => ?_)
  have X : Cx p s m meth c G RX4 cX4_readPush 2 none := X
  unfold wpX4_readPush at h
  refine a_sub (ks := [0]) (lo' := [(0, .ref (al 200))]) rfl ?_
  refine a_aload_n X dX4_readPush_0 rfl 0 rfl ?_
  refine a_getI (k := 16) X fw4 iz_200 rfl flX4_135 rfl dX4_readPush_1 ?_
  refine a_if_ne (tgt := 13) X dX4_readPush_4 (by decide) (fun z => ?_) (fun z => ?_)
  · have h := h.1 z
    refine a_aload_n X dX4_readPush_13 rfl 0 rfl ?_
    refine a_cVv (As := []) (st := []) X fw4 iz_200 (cX4_goOn_ok l h) mlX4_121 mvX4_goOn (rz rfl) (Nat.le_of_ble_eq_true rfl) rfl dX4_readPush_14 (fun M_1 h => ?_)
    refine a_aload_n X dX4_readPush_17 rfl 0 rfl ?_
    refine a_cVv (As := []) (st := []) X fw4 iz_200 (cX4_needsName_ok l h) mlX4_168 mvX4_needsName (rz rfl) (Nat.le_of_ble_eq_true rfl) rfl dX4_readPush_18 (fun M_2 h => ?_)
    refine a_aload_n X dX4_readPush_21 rfl 0 rfl ?_
    refine a_getI (k := 10) X fw4 iz_200 rfl flX4_70 rfl dX4_readPush_22 ?_
    refine a_if_ne (tgt := 41) X dX4_readPush_25 (by decide) (fun z => ?_) (fun z => ?_)
    · have h := h.1 z
      exact tX4_readPush_41 X h
    · have h := h.2 z
      refine a_aload_n X dX4_readPush_28 rfl 0 rfl ?_
      refine a_cVi (As := []) (st := []) X fw4 iz_200 (cX4_named_ok l h) mlX4_171 mvX4_named (rz rfl) (Nat.le_of_ble_eq_true rfl) rfl dX4_readPush_29 (fun r_17 M_16 h => ?_)
      refine a_iconst (v := (-1)) X dX4_readPush_32 ic_m1 ?_
      refine a_icmp_ne (tgt := 41) X dX4_readPush_33 (by decide) (fun z => ?_) (fun z => ?_)
      · have h := h.1 z
        exact tX4_readPush_41 X h
      · have h := h.2 z
        refine a_aload_n X dX4_readPush_36 rfl 0 rfl ?_
        refine a_iconst (v := 3) X dX4_readPush_37 ic_3 ?_
        refine a_cVv (As := [.int 3]) (st := []) X fw4 iz_200 (cX4_flaw_ok l h) mlX4_117 mvX4_flaw (rz rfl) (Nat.le_of_ble_eq_true rfl) rfl dX4_readPush_38 (fun M_18 h => ?_)
        exact tX4_readPush_41 X h
  · have h := h.2 z
    refine a_aload_n X dX4_readPush_7 rfl 0 rfl ?_
    refine a_bipush (v := 6) X dX4_readPush_8 bc_6 ?_
    refine a_cVv (As := [.int 6]) (st := []) X fw4 iz_200 (cX4_flaw_ok l h) mlX4_117 mvX4_flaw (rz rfl) (Nat.le_of_ble_eq_true rfl) rfl dX4_readPush_10 (fun M_19 h => ?_)
    refine a_aload_n X dX4_readPush_13 rfl 0 rfl ?_
    refine a_cVv (As := []) (st := []) X fw4 iz_200 (cX4_goOn_ok l h) mlX4_121 mvX4_goOn (rz rfl) (Nat.le_of_ble_eq_true rfl) rfl dX4_readPush_14 (fun M_20 h => ?_)
    refine a_aload_n X dX4_readPush_17 rfl 0 rfl ?_
    refine a_cVv (As := []) (st := []) X fw4 iz_200 (cX4_needsName_ok l h) mlX4_168 mvX4_needsName (rz rfl) (Nat.le_of_ble_eq_true rfl) rfl dX4_readPush_18 (fun M_21 h => ?_)
    refine a_aload_n X dX4_readPush_21 rfl 0 rfl ?_
    refine a_getI (k := 10) X fw4 iz_200 rfl flX4_70 rfl dX4_readPush_22 ?_
    refine a_if_ne (tgt := 41) X dX4_readPush_25 (by decide) (fun z => ?_) (fun z => ?_)
    · have h := h.1 z
      exact tX4_readPush_41 X h
    · have h := h.2 z
      refine a_aload_n X dX4_readPush_28 rfl 0 rfl ?_
      refine a_cVi (As := []) (st := []) X fw4 iz_200 (cX4_named_ok l h) mlX4_171 mvX4_named (rz rfl) (Nat.le_of_ble_eq_true rfl) rfl dX4_readPush_29 (fun r_23 M_22 h => ?_)
      refine a_iconst (v := (-1)) X dX4_readPush_32 ic_m1 ?_
      refine a_icmp_ne (tgt := 41) X dX4_readPush_33 (by decide) (fun z => ?_) (fun z => ?_)
      · have h := h.1 z
        exact tX4_readPush_41 X h
      · have h := h.2 z
        refine a_aload_n X dX4_readPush_36 rfl 0 rfl ?_
        refine a_iconst (v := 3) X dX4_readPush_37 ic_3 ?_
        refine a_cVv (As := [.int 3]) (st := []) X fw4 iz_200 (cX4_flaw_ok l h) mlX4_117 mvX4_flaw (rz rfl) (Nat.le_of_ble_eq_true rfl) rfl dX4_readPush_38 (fun M_24 h => ?_)
        exact tX4_readPush_41 X h
abbrev rm_X4_readLine : Room := { frames := 9, cells := 0, slots := 0, locals := 251 }
def wpX4_readLine (M : Mem) (Q : Mem → Prop) : Prop := wpX4_isWord M 5 (fun r_2 M_1 => ((r_2 = 0 → wpX4_isWord M_1 6 (fun r_4 M_3 => ((r_4 = 0 → wpX4_isWord M_3 7 (fun r_6 M_5 => ((r_6 = 0 → wpX4_flaw M_5 1 (fun M_7 => Q M_7)) ∧ (¬ r_6 = 0 → wpX4_readPush M_5 (fun M_8 => Q M_8))))) ∧ (¬ r_4 = 0 → wpX4_readStream M_3 (fun M_9 => Q M_9))))) ∧ (¬ r_2 = 0 → wpX4_readRanks M_1 (fun M_10 => Q M_10))))
set_option maxHeartbeats 4000000 in
set_option maxRecDepth 100000 in
theorem cX4_readLine_ok (l : Launch) {G : Gl} {al : Nat → Nat} {mk : Nat} {M : Mem} {Q : Mem → Prop} (h : wpX4_readLine M Q) : Kv l yX4_readLine cX4_readLine 1 none rm_X4_readLine G al mk M [.ref (al 200)] (QV G al mk Q) := by
  refine a_head (by decide) (Nat.le_of_ble_eq_true rfl) (fun p e s m below meth c X => ?_)
  have X : Cx p s m meth c G RX4 cX4_readLine 1 none := X
  unfold wpX4_readLine at h
  refine a_sub (ks := [0]) (lo' := [(0, .ref (al 200))]) rfl ?_
  refine a_aload_n X dX4_readLine_0 rfl 0 rfl ?_
  refine a_ldcS X 5 (by decide) rfl rfl dX4_readLine_1 ?_
  refine a_cVi (As := [.ref (G.2.2.1 5)]) (st := []) X fw4 iz_200 (cX4_isWord_ok l (by decide) h) mlX4_113 mvX4_isWord (rz rfl) (Nat.le_of_ble_eq_true rfl) rfl dX4_readLine_3 (fun r_2 M_1 h => ?_)
  refine a_if_eq (tgt := 16) X dX4_readLine_6 (by decide) (fun z => ?_) (fun z => ?_)
  · have h := h.1 z
    refine a_aload_n X dX4_readLine_16 rfl 0 rfl ?_
    refine a_ldcS X 6 (by decide) rfl rfl dX4_readLine_17 ?_
    refine a_cVi (As := [.ref (G.2.2.1 6)]) (st := []) X fw4 iz_200 (cX4_isWord_ok l (by decide) h) mlX4_113 mvX4_isWord (rz rfl) (Nat.le_of_ble_eq_true rfl) rfl dX4_readLine_19 (fun r_4 M_3 h => ?_)
    refine a_if_eq (tgt := 32) X dX4_readLine_22 (by decide) (fun z => ?_) (fun z => ?_)
    · have h := h.1 z
      refine a_aload_n X dX4_readLine_32 rfl 0 rfl ?_
      refine a_ldcS X 7 (by decide) rfl rfl dX4_readLine_33 ?_
      refine a_cVi (As := [.ref (G.2.2.1 7)]) (st := []) X fw4 iz_200 (cX4_isWord_ok l (by decide) h) mlX4_113 mvX4_isWord (rz rfl) (Nat.le_of_ble_eq_true rfl) rfl dX4_readLine_35 (fun r_6 M_5 h => ?_)
      refine a_if_eq (tgt := 48) X dX4_readLine_38 (by decide) (fun z => ?_) (fun z => ?_)
      · have h := h.1 z
        refine a_aload_n X dX4_readLine_48 rfl 0 rfl ?_
        refine a_iconst (v := 1) X dX4_readLine_49 ic_1 ?_
        refine a_cVv (As := [.int 1]) (st := []) X fw4 iz_200 (cX4_flaw_ok l h) mlX4_117 mvX4_flaw (rz rfl) (Nat.le_of_ble_eq_true rfl) rfl dX4_readLine_50 (fun M_7 h => ?_)
        exact a_vret X h dX4_readLine_53
      · have h := h.2 z
        refine a_aload_n X dX4_readLine_41 rfl 0 rfl ?_
        refine a_cVv (As := []) (st := []) X fw4 iz_200 (cX4_readPush_ok l h) mlX4_159 mvX4_readPush (rz rfl) (Nat.le_of_ble_eq_true rfl) rfl dX4_readLine_42 (fun M_8 h => ?_)
        refine a_goto (tgt := 53) X dX4_readLine_45 (by decide) ?_
        exact a_vret X h dX4_readLine_53
    · have h := h.2 z
      refine a_aload_n X dX4_readLine_25 rfl 0 rfl ?_
      refine a_cVv (As := []) (st := []) X fw4 iz_200 (cX4_readStream_ok l h) mlX4_154 mvX4_readStream (rz rfl) (Nat.le_of_ble_eq_true rfl) rfl dX4_readLine_26 (fun M_9 h => ?_)
      refine a_goto (tgt := 53) X dX4_readLine_29 (by decide) ?_
      exact a_vret X h dX4_readLine_53
  · have h := h.2 z
    refine a_aload_n X dX4_readLine_9 rfl 0 rfl ?_
    refine a_cVv (As := []) (st := []) X fw4 iz_200 (cX4_readRanks_ok l h) mlX4_149 mvX4_readRanks (rz rfl) (Nat.le_of_ble_eq_true rfl) rfl dX4_readLine_10 (fun M_10 h => ?_)
    refine a_goto (tgt := 53) X dX4_readLine_13 (by decide) ?_
    exact a_vret X h dX4_readLine_53
abbrev rm_X4_readAll : Room := { frames := 10, cells := 0, slots := 0, locals := 271 }
def wX4_readAll_23 (Q : Mem → Prop) : Nat → Mem → Prop
  | 0, _ => False
  | n + 1, M => ((¬ (gI M 200 7) = 4 → (((gI M 200 7) = 1 → ((¬ (gI M 200 10) = 0 → Q M) ∧ ((gI M 200 10) = 0 → ((¬ (gI M 200 17) = 0 → Q M) ∧ ((gI M 200 17) = 0 → wpX4_flaw M 6 (fun M_6 => Q M_6)))))) ∧ (¬ (gI M 200 7) = 1 → wpX4_flaw M 1 (fun M_7 => ((¬ (gI M_7 200 10) = 0 → Q M_7) ∧ ((gI M_7 200 10) = 0 → ((¬ (gI M_7 200 17) = 0 → Q M_7) ∧ ((gI M_7 200 17) = 0 → wpX4_flaw M_7 6 (fun M_8 => Q M_8))))))))) ∧ ((gI M 200 7) = 4 → wpX4_goOn M (fun M_9 => wpX4_readLine M_9 (fun M_10 => wX4_readAll_23 Q n M_10))))
def wpX4_readAll (M : Mem) (Q : Mem → Prop) : Prop := (∀ M_1 : Mem, M_1 = pI M 200 16 0 → (∀ M_2 : Mem, M_2 = pI M_1 200 17 0 → (∀ M_3 : Mem, M_3 = pI M_2 200 18 0 → wpX4_goOn M_3 (fun M_4 => wpX4_readLine M_4 (fun M_5 => ∃ n, wX4_readAll_23 Q n M_5)))))
set_option maxHeartbeats 4000000 in
set_option maxRecDepth 100000 in
theorem tX4_readAll_23 (X : Cx p s m meth c G RX4 cX4_readAll 1 none) {Q : Mem → Prop} : ∀ (n : Nat) (M : Mem), wX4_readAll_23 Q n M → Wa p l e rm_X4_readAll s m args below meth c 1 G al mk 0 0 (MQ below (QV G al mk Q) args s 0 0 (gA G)) M 23 [(0, .ref (al 200))] [] := by
  intro n
  induction n with
  | zero =>
    intro M h
    exact False.elim h
  | succ n ih =>
    intro M h
    rw [wX4_readAll_23] at h
    refine a_aload_n X dX4_readAll_23 rfl 0 rfl ?_
    refine a_getI (k := 7) X fw4 iz_200 rfl flX4_83 rfl dX4_readAll_24 ?_
    refine a_iconst (v := 4) X dX4_readAll_27 ic_4 ?_
    refine a_icmp_ne (tgt := 42) X dX4_readAll_28 (by decide) (fun z => ?_) (fun z => ?_)
    · have h := h.1 z
      refine a_aload_n X dX4_readAll_42 rfl 0 rfl ?_
      refine a_getI (k := 7) X fw4 iz_200 rfl flX4_83 rfl dX4_readAll_43 ?_
      refine a_iconst (v := 1) X dX4_readAll_46 ic_1 ?_
      refine a_icmp_eq (tgt := 55) X dX4_readAll_47 (by decide) (fun z => ?_) (fun z => ?_)
      · have h := h.1 z
        refine a_aload_n X dX4_readAll_55 rfl 0 rfl ?_
        refine a_getI (k := 10) X fw4 iz_200 rfl flX4_70 rfl dX4_readAll_56 ?_
        refine a_if_ne (tgt := 75) X dX4_readAll_59 (by decide) (fun z => ?_) (fun z => ?_)
        · have h := h.1 z
          exact a_vret X h dX4_readAll_75
        · have h := h.2 z
          refine a_aload_n X dX4_readAll_62 rfl 0 rfl ?_
          refine a_getI (k := 17) X fw4 iz_200 rfl flX4_138 rfl dX4_readAll_63 ?_
          refine a_if_ne (tgt := 75) X dX4_readAll_66 (by decide) (fun z => ?_) (fun z => ?_)
          · have h := h.1 z
            exact a_vret X h dX4_readAll_75
          · have h := h.2 z
            refine a_aload_n X dX4_readAll_69 rfl 0 rfl ?_
            refine a_bipush (v := 6) X dX4_readAll_70 bc_6 ?_
            refine a_cVv (As := [.int 6]) (st := []) X fw4 iz_200 (cX4_flaw_ok l h) mlX4_117 mvX4_flaw (rz rfl) (Nat.le_of_ble_eq_true rfl) rfl dX4_readAll_72 (fun M_6 h => ?_)
            exact a_vret X h dX4_readAll_75
      · have h := h.2 z
        refine a_aload_n X dX4_readAll_50 rfl 0 rfl ?_
        refine a_iconst (v := 1) X dX4_readAll_51 ic_1 ?_
        refine a_cVv (As := [.int 1]) (st := []) X fw4 iz_200 (cX4_flaw_ok l h) mlX4_117 mvX4_flaw (rz rfl) (Nat.le_of_ble_eq_true rfl) rfl dX4_readAll_52 (fun M_7 h => ?_)
        refine a_aload_n X dX4_readAll_55 rfl 0 rfl ?_
        refine a_getI (k := 10) X fw4 iz_200 rfl flX4_70 rfl dX4_readAll_56 ?_
        refine a_if_ne (tgt := 75) X dX4_readAll_59 (by decide) (fun z => ?_) (fun z => ?_)
        · have h := h.1 z
          exact a_vret X h dX4_readAll_75
        · have h := h.2 z
          refine a_aload_n X dX4_readAll_62 rfl 0 rfl ?_
          refine a_getI (k := 17) X fw4 iz_200 rfl flX4_138 rfl dX4_readAll_63 ?_
          refine a_if_ne (tgt := 75) X dX4_readAll_66 (by decide) (fun z => ?_) (fun z => ?_)
          · have h := h.1 z
            exact a_vret X h dX4_readAll_75
          · have h := h.2 z
            refine a_aload_n X dX4_readAll_69 rfl 0 rfl ?_
            refine a_bipush (v := 6) X dX4_readAll_70 bc_6 ?_
            refine a_cVv (As := [.int 6]) (st := []) X fw4 iz_200 (cX4_flaw_ok l h) mlX4_117 mvX4_flaw (rz rfl) (Nat.le_of_ble_eq_true rfl) rfl dX4_readAll_72 (fun M_8 h => ?_)
            exact a_vret X h dX4_readAll_75
    · have h := h.2 z
      refine a_aload_n X dX4_readAll_31 rfl 0 rfl ?_
      refine a_cVv (As := []) (st := []) X fw4 iz_200 (cX4_goOn_ok l h) mlX4_121 mvX4_goOn (rz rfl) (Nat.le_of_ble_eq_true rfl) rfl dX4_readAll_32 (fun M_9 h => ?_)
      refine a_aload_n X dX4_readAll_35 rfl 0 rfl ?_
      refine a_cVv (As := []) (st := []) X fw4 iz_200 (cX4_readLine_ok l h) mlX4_144 mvX4_readLine (rz rfl) (Nat.le_of_ble_eq_true rfl) rfl dX4_readAll_36 (fun M_10 h => ?_)
      refine a_goto (tgt := 23) X dX4_readAll_39 (by decide) ?_
      exact ih _ h
set_option maxHeartbeats 4000000 in
set_option maxRecDepth 100000 in
theorem cX4_readAll_ok (l : Launch) {G : Gl} {al : Nat → Nat} {mk : Nat} {M : Mem} {Q : Mem → Prop} (h : wpX4_readAll M Q) : Kv l yX4_readAll cX4_readAll 1 none rm_X4_readAll G al mk M [.ref (al 200)] (QV G al mk Q) := by
  refine a_head (by decide) (Nat.le_of_ble_eq_true rfl) (fun p e s m below meth c X => ?_)
  have X : Cx p s m meth c G RX4 cX4_readAll 1 none := X
  unfold wpX4_readAll at h
  refine a_sub (ks := [0]) (lo' := [(0, .ref (al 200))]) rfl ?_
  refine a_aload_n X dX4_readAll_0 rfl 0 rfl ?_
  refine a_iconst (v := 0) X dX4_readAll_1 ic_0 ?_
  refine a_putI (k := 16) X fw4 iz_200 rfl flX4_135 rfl rfl dX4_readAll_2 (fun M_1 eM_1 => ?_)
  have h := h M_1 eM_1
  refine a_aload_n X dX4_readAll_5 rfl 0 rfl ?_
  refine a_iconst (v := 0) X dX4_readAll_6 ic_0 ?_
  refine a_putI (k := 17) X fw4 iz_200 rfl flX4_138 rfl rfl dX4_readAll_7 (fun M_2 eM_2 => ?_)
  have h := h M_2 eM_2
  refine a_aload_n X dX4_readAll_10 rfl 0 rfl ?_
  refine a_iconst (v := 0) X dX4_readAll_11 ic_0 ?_
  refine a_putI (k := 18) X fw4 iz_200 rfl flX4_141 rfl rfl dX4_readAll_12 (fun M_3 eM_3 => ?_)
  have h := h M_3 eM_3
  refine a_aload_n X dX4_readAll_15 rfl 0 rfl ?_
  refine a_cVv (As := []) (st := []) X fw4 iz_200 (cX4_goOn_ok l h) mlX4_121 mvX4_goOn (rz rfl) (Nat.le_of_ble_eq_true rfl) rfl dX4_readAll_16 (fun M_4 h => ?_)
  refine a_aload_n X dX4_readAll_19 rfl 0 rfl ?_
  refine a_cVv (As := []) (st := []) X fw4 iz_200 (cX4_readLine_ok l h) mlX4_144 mvX4_readLine (rz rfl) (Nat.le_of_ble_eq_true rfl) rfl dX4_readAll_20 (fun M_5 h => ?_)
  obtain ⟨n9, h⟩ := h
  exact tX4_readAll_23 X n9 _ h
abbrev rm_X4_empties : Room := { frames := 0, cells := 0, slots := 0, locals := 0 }
def wX4_empties_23 (Q : Mem → Prop) (v1 : Int32) : Nat → Mem → Int32 → Prop
  | 0, _, _ => False
  | n + 1, M, v2 => ((1000 ≤ v2 → Q M) ∧ (¬ 1000 ≤ v2 → (vp_in ((1000 * v1) + v2) 4000 ∧ ∀ M_4 : Mem, M_4 = pI M 228 (Int32.toNatClampNeg ((1000 * v1) + v2)) 0 → wX4_empties_23 Q v1 n M_4 (v2 + 1))))
def wpX4_empties (M : Mem) (v1 : Int32) (Q : Mem → Prop) : Prop := (vp_in v1 6 ∧ ∀ M_1 : Mem, M_1 = pI M 223 (Int32.toNatClampNeg v1) 0 → (vp_in v1 6 ∧ ∀ M_2 : Mem, M_2 = pI M_1 224 (Int32.toNatClampNeg v1) 0 → (vp_in v1 4 ∧ ∀ M_3 : Mem, M_3 = pI M_2 226 (Int32.toNatClampNeg v1) 0 → ∃ n, wX4_empties_23 Q v1 n M_3 0)))
set_option maxHeartbeats 4000000 in
set_option maxRecDepth 100000 in
theorem tX4_empties_23 (X : Cx p s m meth c G RX4 cX4_empties 3 none) {Q : Mem → Prop} {v1 : Int32} : ∀ (n : Nat) (M : Mem) (v2 : Int32), wX4_empties_23 Q v1 n M v2 → Wa p l e rm_X4_empties s m args below meth c 3 G al mk 0 0 (MQ below (QV G al mk Q) args s 0 0 (gA G)) M 23 [(0, .ref (al 200)), (1, .int v1), (2, .int v2)] [] := by
  intro n
  induction n with
  | zero =>
    intro M v2 h
    exact False.elim h
  | succ n ih =>
    intro M v2 h
    rw [wX4_empties_23] at h
    refine a_iload_n X dX4_empties_23 rfl 2 rfl ?_
    refine a_sipush (v := 1000) X dX4_empties_24 sc_1000 ?_
    refine a_icmp_ge (tgt := 49) X dX4_empties_27 (by decide) (fun z => ?_) (fun z => ?_)
    · have h := h.1 z
      exact a_vret X h dX4_empties_49
    · have h := h.2 z
      refine a_aload_n X dX4_empties_30 rfl 0 rfl ?_
      refine a_getR (k := 27) X 28 (b := 228) fw4 iz_200 rfl rfl flX4_55 rfl dX4_empties_31 ?_
      refine a_sipush (v := 1000) X dX4_empties_34 sc_1000 ?_
      refine a_iload_n X dX4_empties_37 rfl 1 rfl ?_
      refine a_imul X dX4_empties_38 ?_
      refine a_iload_n X dX4_empties_39 rfl 2 rfl ?_
      refine a_iadd X dX4_empties_40 ?_
      refine a_iconst (v := 0) X dX4_empties_41 ic_0 ?_
      refine a_iast X iz_228 h.1 dX4_empties_42 (fun M_4 eM_4 => ?_)
      have h := h.2 M_4 eM_4
      refine a_iinc (v := v2 + 1) (lo' := [(2, .int (v2 + 1)), (0, .ref (al 200)), (1, .int v1)]) X dX4_empties_43 2 rfl (ii_1 _) (by decide) rfl ?_
      refine a_goto (tgt := 23) X dX4_empties_46 (by decide) ?_
      refine a_sub (ks := [1, 2, 0]) (lo' := [(0, .ref (al 200)), (1, .int v1), (2, .int (v2 + 1))]) rfl ?_
      exact ih _ _ h
set_option maxHeartbeats 4000000 in
set_option maxRecDepth 100000 in
theorem cX4_empties_ok (l : Launch) {G : Gl} {al : Nat → Nat} {mk : Nat} {M : Mem} {v1 : Int32} {Q : Mem → Prop} (h : wpX4_empties M v1 Q) : Kv l yX4_empties cX4_empties 3 none rm_X4_empties G al mk M [.ref (al 200), .int v1] (QV G al mk Q) := by
  refine a_head (by decide) (Nat.le_of_ble_eq_true rfl) (fun p e s m below meth c X => ?_)
  have X : Cx p s m meth c G RX4 cX4_empties 3 none := X
  unfold wpX4_empties at h
  refine a_sub (ks := [0, 1]) (lo' := [(0, .ref (al 200)), (1, .int v1)]) rfl ?_
  refine a_aload_n X dX4_empties_0 rfl 0 rfl ?_
  refine a_getR (k := 22) X 23 (b := 223) fw4 iz_200 rfl rfl flX4_40 rfl dX4_empties_1 ?_
  refine a_iload_n X dX4_empties_4 rfl 1 rfl ?_
  refine a_iconst (v := 0) X dX4_empties_5 ic_0 ?_
  refine a_iast X iz_223 h.1 dX4_empties_6 (fun M_1 eM_1 => ?_)
  have h := h.2 M_1 eM_1
  refine a_aload_n X dX4_empties_7 rfl 0 rfl ?_
  refine a_getR (k := 23) X 24 (b := 224) fw4 iz_200 rfl rfl flX4_43 rfl dX4_empties_8 ?_
  refine a_iload_n X dX4_empties_11 rfl 1 rfl ?_
  refine a_iconst (v := 0) X dX4_empties_12 ic_0 ?_
  refine a_iast X iz_224 h.1 dX4_empties_13 (fun M_2 eM_2 => ?_)
  have h := h.2 M_2 eM_2
  refine a_aload_n X dX4_empties_14 rfl 0 rfl ?_
  refine a_getR (k := 25) X 26 (b := 226) fw4 iz_200 rfl rfl flX4_49 rfl dX4_empties_15 ?_
  refine a_iload_n X dX4_empties_18 rfl 1 rfl ?_
  refine a_iconst (v := 0) X dX4_empties_19 ic_0 ?_
  refine a_iast X iz_226 h.1 dX4_empties_20 (fun M_3 eM_3 => ?_)
  have h := h.2 M_3 eM_3
  refine a_iconst (v := 0) X dX4_empties_21 ic_0 ?_
  refine a_istore_n (lo' := [(2, .int 0), (0, .ref (al 200)), (1, .int v1)]) X dX4_empties_22 rfl (by decide) rfl ?_
  refine a_sub (ks := [1, 2, 0]) (lo' := [(0, .ref (al 200)), (1, .int v1), (2, .int 0)]) rfl ?_
  obtain ⟨n9, h⟩ := h
  exact tX4_empties_23 X n9 _ _ h
abbrev rm_X4_place : Room := { frames := 0, cells := 0, slots := 0, locals := 0 }
def wX4_place_2 (Q : Int32 → Mem → Prop) (v1 : Int32) (v2 : Int32) : Nat → Mem → Int32 → Prop
  | 0, _, _ => False
  | n + 1, M, v3 => (vp_in v1 6 ∧ (((gI M 223 (Int32.toNatClampNeg v1)) ≤ v3 → Q v3 M) ∧ (¬ (gI M 223 (Int32.toNatClampNeg v1)) ≤ v3 → (vp_in ((1000 * v1) + v3) 6000 ∧ ((v2 < (gI M 220 (Int32.toNatClampNeg ((1000 * v1) + v3))) → Q v3 M) ∧ (¬ v2 < (gI M 220 (Int32.toNatClampNeg ((1000 * v1) + v3))) → wX4_place_2 Q v1 v2 n M (v3 + 1)))))))
def wpX4_place (M : Mem) (v1 : Int32) (v2 : Int32) (Q : Int32 → Mem → Prop) : Prop := ∃ n, wX4_place_2 Q v1 v2 n M 0
set_option maxHeartbeats 4000000 in
set_option maxRecDepth 100000 in
theorem tX4_place_2 (X : Cx p s m meth c G RX4 cX4_place 4 (some .int)) {Q : Int32 → Mem → Prop} {v1 : Int32} {v2 : Int32} : ∀ (n : Nat) (M : Mem) (v3 : Int32), wX4_place_2 Q v1 v2 n M v3 → Wa p l e rm_X4_place s m args below meth c 4 G al mk 0 0 (MQ below (QI G al mk Q) args s 0 0 (gA G)) M 2 [(0, .ref (al 200)), (1, .int v1), (2, .int v2), (3, .int v3)] [] := by
  intro n
  induction n with
  | zero =>
    intro M v3 h
    exact False.elim h
  | succ n ih =>
    intro M v3 h
    rw [wX4_place_2] at h
    refine a_iload_n X dX4_place_2 rfl 3 rfl ?_
    refine a_aload_n X dX4_place_3 rfl 0 rfl ?_
    refine a_getR (k := 22) X 23 (b := 223) fw4 iz_200 rfl rfl flX4_40 rfl dX4_place_4 ?_
    refine a_iload_n X dX4_place_7 rfl 1 rfl ?_
    refine a_iald X iz_223 h.1 dX4_place_8 ?_
    have h := h.2
    refine a_icmp_ge (tgt := 34) X dX4_place_9 (by decide) (fun z => ?_) (fun z => ?_)
    · have h := h.1 z
      refine a_iload_n X dX4_place_34 rfl 3 rfl ?_
      exact a_iret X h dX4_place_35
    · have h := h.2 z
      refine a_aload_n X dX4_place_12 rfl 0 rfl ?_
      refine a_getR (k := 19) X 20 (b := 220) fw4 iz_200 rfl rfl flX4_31 rfl dX4_place_13 ?_
      refine a_sipush (v := 1000) X dX4_place_16 sc_1000 ?_
      refine a_iload_n X dX4_place_19 rfl 1 rfl ?_
      refine a_imul X dX4_place_20 ?_
      refine a_iload_n X dX4_place_21 rfl 3 rfl ?_
      refine a_iadd X dX4_place_22 ?_
      refine a_iald X iz_220 h.1 dX4_place_23 ?_
      have h := h.2
      refine a_iload_n X dX4_place_24 rfl 2 rfl ?_
      refine a_icmp_gt (tgt := 34) X dX4_place_25 (by decide) (fun z => ?_) (fun z => ?_)
      · have h := h.1 z
        refine a_iload_n X dX4_place_34 rfl 3 rfl ?_
        exact a_iret X h dX4_place_35
      · have h := h.2 z
        refine a_iinc (v := v3 + 1) (lo' := [(3, .int (v3 + 1)), (0, .ref (al 200)), (1, .int v1), (2, .int v2)]) X dX4_place_28 3 rfl (ii_1 _) (by decide) rfl ?_
        refine a_goto (tgt := 2) X dX4_place_31 (by decide) ?_
        refine a_sub (ks := [1, 2, 3, 0]) (lo' := [(0, .ref (al 200)), (1, .int v1), (2, .int v2), (3, .int (v3 + 1))]) rfl ?_
        exact ih _ _ h
set_option maxHeartbeats 4000000 in
set_option maxRecDepth 100000 in
theorem cX4_place_ok (l : Launch) {G : Gl} {al : Nat → Nat} {mk : Nat} {M : Mem} {v1 : Int32} {v2 : Int32} {Q : Int32 → Mem → Prop} (h : wpX4_place M v1 v2 Q) : Kv l yX4_place cX4_place 4 (some .int) rm_X4_place G al mk M [.ref (al 200), .int v1, .int v2] (QI G al mk Q) := by
  refine a_head (by decide) (Nat.le_of_ble_eq_true rfl) (fun p e s m below meth c X => ?_)
  have X : Cx p s m meth c G RX4 cX4_place 4 (some .int) := X
  unfold wpX4_place at h
  refine a_sub (ks := [0, 1, 2]) (lo' := [(0, .ref (al 200)), (1, .int v1), (2, .int v2)]) rfl ?_
  refine a_iconst (v := 0) X dX4_place_0 ic_0 ?_
  refine a_istore_n (lo' := [(3, .int 0), (0, .ref (al 200)), (1, .int v1), (2, .int v2)]) X dX4_place_1 rfl (by decide) rfl ?_
  refine a_sub (ks := [1, 2, 3, 0]) (lo' := [(0, .ref (al 200)), (1, .int v1), (2, .int v2), (3, .int 0)]) rfl ?_
  obtain ⟨n9, h⟩ := h
  exact tX4_place_2 X n9 _ _ h
abbrev rm_X4_spreadAt : Room := { frames := 0, cells := 0, slots := 0, locals := 0 }
def wpX4_spreadAt (M : Mem) (v1 : Int32) (v2 : Int32) (Q : Int32 → Mem → Prop) : Prop := ((v2 = 0 → Q 0 M) ∧ (¬ v2 = 0 → (vp_in v1 6 ∧ ((¬ v2 = (gI M 223 (Int32.toNatClampNeg v1)) → (vp_in ((1000 * v1) + v2) 6000 ∧ (vp_in ((1000 * v1) + v2) 6000 ∧ Q (((gI M 221 (Int32.toNatClampNeg ((1000 * v1) + v2))) + (gI M 222 (Int32.toNatClampNeg ((1000 * v1) + v2)))) - 1) M))) ∧ (v2 = (gI M 223 (Int32.toNatClampNeg v1)) → Q 0 M)))))
set_option maxHeartbeats 4000000 in
set_option maxRecDepth 100000 in
theorem cX4_spreadAt_ok (l : Launch) {G : Gl} {al : Nat → Nat} {mk : Nat} {M : Mem} {v1 : Int32} {v2 : Int32} {Q : Int32 → Mem → Prop} (h : wpX4_spreadAt M v1 v2 Q) : Kv l yX4_spreadAt cX4_spreadAt 3 (some .int) rm_X4_spreadAt G al mk M [.ref (al 200), .int v1, .int v2] (QI G al mk Q) := by
  refine a_head (by decide) (Nat.le_of_ble_eq_true rfl) (fun p e s m below meth c X => ?_)
  have X : Cx p s m meth c G RX4 cX4_spreadAt 3 (some .int) := X
  unfold wpX4_spreadAt at h
  refine a_sub (ks := [0, 1, 2]) (lo' := [(0, .ref (al 200)), (1, .int v1), (2, .int v2)]) rfl ?_
  refine a_iload_n X dX4_spreadAt_0 rfl 2 rfl ?_
  refine a_if_eq (tgt := 14) X dX4_spreadAt_1 (by decide) (fun z => ?_) (fun z => ?_)
  · have h := h.1 z
    refine a_iconst (v := 0) X dX4_spreadAt_14 ic_0 ?_
    refine a_goto (tgt := 45) X dX4_spreadAt_15 (by decide) ?_
    exact a_iret X h dX4_spreadAt_45
  · have h := h.2 z
    refine a_iload_n X dX4_spreadAt_4 rfl 2 rfl ?_
    refine a_aload_n X dX4_spreadAt_5 rfl 0 rfl ?_
    refine a_getR (k := 22) X 23 (b := 223) fw4 iz_200 rfl rfl flX4_40 rfl dX4_spreadAt_6 ?_
    refine a_iload_n X dX4_spreadAt_9 rfl 1 rfl ?_
    refine a_iald X iz_223 h.1 dX4_spreadAt_10 ?_
    have h := h.2
    refine a_icmp_ne (tgt := 18) X dX4_spreadAt_11 (by decide) (fun z => ?_) (fun z => ?_)
    · have h := h.1 z
      refine a_aload_n X dX4_spreadAt_18 rfl 0 rfl ?_
      refine a_getR (k := 20) X 21 (b := 221) fw4 iz_200 rfl rfl flX4_34 rfl dX4_spreadAt_19 ?_
      refine a_sipush (v := 1000) X dX4_spreadAt_22 sc_1000 ?_
      refine a_iload_n X dX4_spreadAt_25 rfl 1 rfl ?_
      refine a_imul X dX4_spreadAt_26 ?_
      refine a_iload_n X dX4_spreadAt_27 rfl 2 rfl ?_
      refine a_iadd X dX4_spreadAt_28 ?_
      refine a_iald X iz_221 h.1 dX4_spreadAt_29 ?_
      have h := h.2
      refine a_aload_n X dX4_spreadAt_30 rfl 0 rfl ?_
      refine a_getR (k := 21) X 22 (b := 222) fw4 iz_200 rfl rfl flX4_37 rfl dX4_spreadAt_31 ?_
      refine a_sipush (v := 1000) X dX4_spreadAt_34 sc_1000 ?_
      refine a_iload_n X dX4_spreadAt_37 rfl 1 rfl ?_
      refine a_imul X dX4_spreadAt_38 ?_
      refine a_iload_n X dX4_spreadAt_39 rfl 2 rfl ?_
      refine a_iadd X dX4_spreadAt_40 ?_
      refine a_iald X iz_222 h.1 dX4_spreadAt_41 ?_
      have h := h.2
      refine a_iadd X dX4_spreadAt_42 ?_
      refine a_iconst (v := 1) X dX4_spreadAt_43 ic_1 ?_
      refine a_isub X dX4_spreadAt_44 ?_
      exact a_iret X h dX4_spreadAt_45
    · have h := h.2 z
      refine a_iconst (v := 0) X dX4_spreadAt_14 ic_0 ?_
      refine a_goto (tgt := 45) X dX4_spreadAt_15 (by decide) ?_
      exact a_iret X h dX4_spreadAt_45
abbrev rm_X4_copies : Room := { frames := 0, cells := 0, slots := 0, locals := 0 }
def wpX4_copies (M : Mem) (v1 : Int32) (v2 : Int32) (v3 : Int32) (Q : Mem → Prop) : Prop := (vp_in ((1000 * v1) + v2) 6000 ∧ (vp_in ((1000 * v1) + v3) 6000 ∧ ∀ M_1 : Mem, M_1 = pI M 220 (Int32.toNatClampNeg ((1000 * v1) + v3)) (gI M 220 (Int32.toNatClampNeg ((1000 * v1) + v2))) → (vp_in ((1000 * v1) + v2) 6000 ∧ (vp_in ((1000 * v1) + v3) 6000 ∧ ∀ M_2 : Mem, M_2 = pI M_1 221 (Int32.toNatClampNeg ((1000 * v1) + v3)) (gI M_1 221 (Int32.toNatClampNeg ((1000 * v1) + v2))) → (vp_in ((1000 * v1) + v2) 6000 ∧ (vp_in ((1000 * v1) + v3) 6000 ∧ ∀ M_3 : Mem, M_3 = pI M_2 222 (Int32.toNatClampNeg ((1000 * v1) + v3)) (gI M_2 222 (Int32.toNatClampNeg ((1000 * v1) + v2))) → Q M_3))))))
set_option maxHeartbeats 4000000 in
set_option maxRecDepth 100000 in
theorem cX4_copies_ok (l : Launch) {G : Gl} {al : Nat → Nat} {mk : Nat} {M : Mem} {v1 : Int32} {v2 : Int32} {v3 : Int32} {Q : Mem → Prop} (h : wpX4_copies M v1 v2 v3 Q) : Kv l yX4_copies cX4_copies 4 none rm_X4_copies G al mk M [.ref (al 200), .int v1, .int v2, .int v3] (QV G al mk Q) := by
  refine a_head (by decide) (Nat.le_of_ble_eq_true rfl) (fun p e s m below meth c X => ?_)
  have X : Cx p s m meth c G RX4 cX4_copies 4 none := X
  unfold wpX4_copies at h
  refine a_sub (ks := [0, 1, 2, 3]) (lo' := [(0, .ref (al 200)), (1, .int v1), (2, .int v2), (3, .int v3)]) rfl ?_
  refine a_aload_n X dX4_copies_0 rfl 0 rfl ?_
  refine a_getR (k := 19) X 20 (b := 220) fw4 iz_200 rfl rfl flX4_31 rfl dX4_copies_1 ?_
  refine a_sipush (v := 1000) X dX4_copies_4 sc_1000 ?_
  refine a_iload_n X dX4_copies_7 rfl 1 rfl ?_
  refine a_imul X dX4_copies_8 ?_
  refine a_iload_n X dX4_copies_9 rfl 3 rfl ?_
  refine a_iadd X dX4_copies_10 ?_
  refine a_aload_n X dX4_copies_11 rfl 0 rfl ?_
  refine a_getR (k := 19) X 20 (b := 220) fw4 iz_200 rfl rfl flX4_31 rfl dX4_copies_12 ?_
  refine a_sipush (v := 1000) X dX4_copies_15 sc_1000 ?_
  refine a_iload_n X dX4_copies_18 rfl 1 rfl ?_
  refine a_imul X dX4_copies_19 ?_
  refine a_iload_n X dX4_copies_20 rfl 2 rfl ?_
  refine a_iadd X dX4_copies_21 ?_
  refine a_iald X iz_220 h.1 dX4_copies_22 ?_
  have h := h.2
  refine a_iast X iz_220 h.1 dX4_copies_23 (fun M_1 eM_1 => ?_)
  have h := h.2 M_1 eM_1
  refine a_aload_n X dX4_copies_24 rfl 0 rfl ?_
  refine a_getR (k := 20) X 21 (b := 221) fw4 iz_200 rfl rfl flX4_34 rfl dX4_copies_25 ?_
  refine a_sipush (v := 1000) X dX4_copies_28 sc_1000 ?_
  refine a_iload_n X dX4_copies_31 rfl 1 rfl ?_
  refine a_imul X dX4_copies_32 ?_
  refine a_iload_n X dX4_copies_33 rfl 3 rfl ?_
  refine a_iadd X dX4_copies_34 ?_
  refine a_aload_n X dX4_copies_35 rfl 0 rfl ?_
  refine a_getR (k := 20) X 21 (b := 221) fw4 iz_200 rfl rfl flX4_34 rfl dX4_copies_36 ?_
  refine a_sipush (v := 1000) X dX4_copies_39 sc_1000 ?_
  refine a_iload_n X dX4_copies_42 rfl 1 rfl ?_
  refine a_imul X dX4_copies_43 ?_
  refine a_iload_n X dX4_copies_44 rfl 2 rfl ?_
  refine a_iadd X dX4_copies_45 ?_
  refine a_iald X iz_221 h.1 dX4_copies_46 ?_
  have h := h.2
  refine a_iast X iz_221 h.1 dX4_copies_47 (fun M_2 eM_2 => ?_)
  have h := h.2 M_2 eM_2
  refine a_aload_n X dX4_copies_48 rfl 0 rfl ?_
  refine a_getR (k := 21) X 22 (b := 222) fw4 iz_200 rfl rfl flX4_37 rfl dX4_copies_49 ?_
  refine a_sipush (v := 1000) X dX4_copies_52 sc_1000 ?_
  refine a_iload_n X dX4_copies_55 rfl 1 rfl ?_
  refine a_imul X dX4_copies_56 ?_
  refine a_iload_n X dX4_copies_57 rfl 3 rfl ?_
  refine a_iadd X dX4_copies_58 ?_
  refine a_aload_n X dX4_copies_59 rfl 0 rfl ?_
  refine a_getR (k := 21) X 22 (b := 222) fw4 iz_200 rfl rfl flX4_37 rfl dX4_copies_60 ?_
  refine a_sipush (v := 1000) X dX4_copies_63 sc_1000 ?_
  refine a_iload_n X dX4_copies_66 rfl 1 rfl ?_
  refine a_imul X dX4_copies_67 ?_
  refine a_iload_n X dX4_copies_68 rfl 2 rfl ?_
  refine a_iadd X dX4_copies_69 ?_
  refine a_iald X iz_222 h.1 dX4_copies_70 ?_
  have h := h.2
  refine a_iast X iz_222 h.1 dX4_copies_71 (fun M_3 eM_3 => ?_)
  have h := h.2 M_3 eM_3
  exact a_vret X h dX4_copies_72
abbrev rm_X4_shifts : Room := { frames := 1, cells := 0, slots := 0, locals := 23 }
def wX4_shifts_43 (Q : Mem → Prop) (v1 : Int32) (v3 : Int32) : Nat → Mem → Int32 → Prop
  | 0, _, _ => False
  | n + 1, M, v4 => (vp_in v1 6 ∧ (((gI M 223 (Int32.toNatClampNeg v1)) ≤ v4 → (vp_in v1 6 ∧ (vp_in v1 6 ∧ ∀ M_1 : Mem, M_1 = pI M 223 (Int32.toNatClampNeg v1) ((gI M 223 (Int32.toNatClampNeg v1)) + v3) → Q M_1))) ∧ (¬ (gI M 223 (Int32.toNatClampNeg v1)) ≤ v4 → wpX4_copies M v1 v4 (v4 + v3) (fun M_2 => wX4_shifts_43 Q v1 v3 n M_2 (v4 + 1)))))
def wX4_shifts_14 (Q : Mem → Prop) (v1 : Int32) (v2 : Int32) (v3 : Int32) : Nat → Mem → Int32 → Prop
  | 0, _, _ => False
  | n + 1, M, v4 => ((v4 < v2 → (vp_in v1 6 ∧ (vp_in v1 6 ∧ ∀ M_4 : Mem, M_4 = pI M 223 (Int32.toNatClampNeg v1) ((gI M 223 (Int32.toNatClampNeg v1)) + v3) → Q M_4))) ∧ (¬ v4 < v2 → wpX4_copies M v1 v4 (v4 + v3) (fun M_5 => wX4_shifts_14 Q v1 v2 v3 n M_5 (v4 + (-1)))))
def wpX4_shifts (M : Mem) (v1 : Int32) (v2 : Int32) (v3 : Int32) (Q : Mem → Prop) : Prop := ((v3 ≤ 0 → ∃ n, wX4_shifts_43 Q v1 v3 n M v2) ∧ (¬ v3 ≤ 0 → (vp_in v1 6 ∧ (∀ x_3 : Int32, x_3 = ((gI M 223 (Int32.toNatClampNeg v1)) - 1) → ∃ n, wX4_shifts_14 Q v1 v2 v3 n M x_3))))
set_option maxHeartbeats 4000000 in
set_option maxRecDepth 100000 in
theorem tX4_shifts_43 (X : Cx p s m meth c G RX4 cX4_shifts 5 none) {Q : Mem → Prop} {v1 : Int32} {v3 : Int32} : ∀ (n : Nat) (M : Mem) (v4 : Int32), wX4_shifts_43 Q v1 v3 n M v4 → Wa p l e rm_X4_shifts s m args below meth c 5 G al mk 0 0 (MQ below (QV G al mk Q) args s 0 0 (gA G)) M 43 [(0, .ref (al 200)), (1, .int v1), (3, .int v3), (4, .int v4)] [] := by
  intro n
  induction n with
  | zero =>
    intro M v4 h
    exact False.elim h
  | succ n ih =>
    intro M v4 h
    rw [wX4_shifts_43] at h
    refine a_iload X dX4_shifts_43 3 rfl ?_
    refine a_aload_n X dX4_shifts_45 rfl 0 rfl ?_
    refine a_getR (k := 22) X 23 (b := 223) fw4 iz_200 rfl rfl flX4_40 rfl dX4_shifts_46 ?_
    refine a_iload_n X dX4_shifts_49 rfl 1 rfl ?_
    refine a_iald X iz_223 h.1 dX4_shifts_50 ?_
    have h := h.2
    refine a_icmp_ge (tgt := 71) X dX4_shifts_51 (by decide) (fun z => ?_) (fun z => ?_)
    · have h := h.1 z
      refine a_aload_n X dX4_shifts_71 rfl 0 rfl ?_
      refine a_getR (k := 22) X 23 (b := 223) fw4 iz_200 rfl rfl flX4_40 rfl dX4_shifts_72 ?_
      refine a_iload_n X dX4_shifts_75 rfl 1 rfl ?_
      refine a_dup2 X dX4_shifts_76 rfl rfl ?_
      refine a_iald X iz_223 h.1 dX4_shifts_77 ?_
      have h := h.2
      refine a_iload_n X dX4_shifts_78 rfl 2 rfl ?_
      refine a_iadd X dX4_shifts_79 ?_
      refine a_iast X iz_223 h.1 dX4_shifts_80 (fun M_1 eM_1 => ?_)
      have h := h.2 M_1 eM_1
      exact a_vret X h dX4_shifts_81
    · have h := h.2 z
      refine a_aload_n X dX4_shifts_54 rfl 0 rfl ?_
      refine a_iload_n X dX4_shifts_55 rfl 1 rfl ?_
      refine a_iload X dX4_shifts_56 3 rfl ?_
      refine a_iload X dX4_shifts_58 3 rfl ?_
      refine a_iload_n X dX4_shifts_60 rfl 2 rfl ?_
      refine a_iadd X dX4_shifts_61 ?_
      refine a_cVv (As := [.int v1, .int v4, .int (v4 + v3)]) (st := []) X fw4 iz_200 (cX4_copies_ok l h) mlX4_201 mvX4_copies (rz rfl) (Nat.le_of_ble_eq_true rfl) rfl dX4_shifts_62 (fun M_2 h => ?_)
      refine a_iinc (v := v4 + 1) (lo' := [(4, .int (v4 + 1)), (0, .ref (al 200)), (1, .int v1), (3, .int v3)]) X dX4_shifts_65 3 rfl (ii_1 _) (by decide) rfl ?_
      refine a_goto (tgt := 43) X dX4_shifts_68 (by decide) ?_
      refine a_sub (ks := [1, 2, 3, 0]) (lo' := [(0, .ref (al 200)), (1, .int v1), (3, .int v3), (4, .int (v4 + 1))]) rfl ?_
      exact ih _ _ h
set_option maxHeartbeats 4000000 in
set_option maxRecDepth 100000 in
theorem tX4_shifts_14 (X : Cx p s m meth c G RX4 cX4_shifts 5 none) {Q : Mem → Prop} {v1 : Int32} {v2 : Int32} {v3 : Int32} : ∀ (n : Nat) (M : Mem) (v4 : Int32), wX4_shifts_14 Q v1 v2 v3 n M v4 → Wa p l e rm_X4_shifts s m args below meth c 5 G al mk 0 0 (MQ below (QV G al mk Q) args s 0 0 (gA G)) M 14 [(0, .ref (al 200)), (1, .int v1), (2, .int v2), (3, .int v3), (4, .int v4)] [] := by
  intro n
  induction n with
  | zero =>
    intro M v4 h
    exact False.elim h
  | succ n ih =>
    intro M v4 h
    rw [wX4_shifts_14] at h
    refine a_iload X dX4_shifts_14 4 rfl ?_
    refine a_iload_n X dX4_shifts_16 rfl 2 rfl ?_
    refine a_icmp_lt (tgt := 37) X dX4_shifts_17 (by decide) (fun z => ?_) (fun z => ?_)
    · have h := h.1 z
      refine a_goto (tgt := 71) X dX4_shifts_37 (by decide) ?_
      refine a_aload_n X dX4_shifts_71 rfl 0 rfl ?_
      refine a_getR (k := 22) X 23 (b := 223) fw4 iz_200 rfl rfl flX4_40 rfl dX4_shifts_72 ?_
      refine a_iload_n X dX4_shifts_75 rfl 1 rfl ?_
      refine a_dup2 X dX4_shifts_76 rfl rfl ?_
      refine a_iald X iz_223 h.1 dX4_shifts_77 ?_
      have h := h.2
      refine a_iload_n X dX4_shifts_78 rfl 3 rfl ?_
      refine a_iadd X dX4_shifts_79 ?_
      refine a_iast X iz_223 h.1 dX4_shifts_80 (fun M_4 eM_4 => ?_)
      have h := h.2 M_4 eM_4
      exact a_vret X h dX4_shifts_81
    · have h := h.2 z
      refine a_aload_n X dX4_shifts_20 rfl 0 rfl ?_
      refine a_iload_n X dX4_shifts_21 rfl 1 rfl ?_
      refine a_iload X dX4_shifts_22 4 rfl ?_
      refine a_iload X dX4_shifts_24 4 rfl ?_
      refine a_iload_n X dX4_shifts_26 rfl 3 rfl ?_
      refine a_iadd X dX4_shifts_27 ?_
      refine a_cVv (As := [.int v1, .int v4, .int (v4 + v3)]) (st := []) X fw4 iz_200 (cX4_copies_ok l h) mlX4_201 mvX4_copies (rz rfl) (Nat.le_of_ble_eq_true rfl) rfl dX4_shifts_28 (fun M_5 h => ?_)
      refine a_iinc (v := v4 + (-1)) (lo' := [(4, .int (v4 + (-1))), (0, .ref (al 200)), (1, .int v1), (2, .int v2), (3, .int v3)]) X dX4_shifts_31 4 rfl (ii_m1 _) (by decide) rfl ?_
      refine a_goto (tgt := 14) X dX4_shifts_34 (by decide) ?_
      refine a_sub (ks := [1, 2, 3, 4, 0]) (lo' := [(0, .ref (al 200)), (1, .int v1), (2, .int v2), (3, .int v3), (4, .int (v4 + (-1)))]) rfl ?_
      exact ih _ _ h
set_option maxHeartbeats 4000000 in
set_option maxRecDepth 100000 in
theorem cX4_shifts_ok (l : Launch) {G : Gl} {al : Nat → Nat} {mk : Nat} {M : Mem} {v1 : Int32} {v2 : Int32} {v3 : Int32} {Q : Mem → Prop} (h : wpX4_shifts M v1 v2 v3 Q) : Kv l yX4_shifts cX4_shifts 5 none rm_X4_shifts G al mk M [.ref (al 200), .int v1, .int v2, .int v3] (QV G al mk Q) := by
  refine a_head (by decide) (Nat.le_of_ble_eq_true rfl) (fun p e s m below meth c X => ?_)
  have X : Cx p s m meth c G RX4 cX4_shifts 5 none := X
  unfold wpX4_shifts at h
  refine a_sub (ks := [0, 1, 2, 3]) (lo' := [(0, .ref (al 200)), (1, .int v1), (2, .int v2), (3, .int v3)]) rfl ?_
  refine a_iload_n X dX4_shifts_0 rfl 3 rfl ?_
  refine a_if_le (tgt := 40) X dX4_shifts_1 (by decide) (fun z => ?_) (fun z => ?_)
  · have h := h.1 z
    refine a_iload_n X dX4_shifts_40 rfl 2 rfl ?_
    refine a_istore (lo' := [(4, .int v2), (0, .ref (al 200)), (1, .int v1), (2, .int v2), (3, .int v3)]) X dX4_shifts_41 (by decide) rfl ?_
    refine a_sub (ks := [1, 2, 4, 0]) (lo' := [(0, .ref (al 200)), (1, .int v1), (3, .int v3), (4, .int v2)]) rfl ?_
    obtain ⟨n9, h⟩ := h
    exact tX4_shifts_43 X n9 _ _ h
  · have h := h.2 z
    refine a_aload_n X dX4_shifts_4 rfl 0 rfl ?_
    refine a_getR (k := 22) X 23 (b := 223) fw4 iz_200 rfl rfl flX4_40 rfl dX4_shifts_5 ?_
    refine a_iload_n X dX4_shifts_8 rfl 1 rfl ?_
    refine a_iald X iz_223 h.1 dX4_shifts_9 ?_
    have h := h.2
    refine a_iconst (v := 1) X dX4_shifts_10 ic_1 ?_
    refine a_isub X dX4_shifts_11 ?_
    refine a_topi (fun x_3 ex_3 => ?_)
    have h := h x_3 ex_3
    refine a_istore (lo' := [(4, .int x_3), (0, .ref (al 200)), (1, .int v1), (2, .int v2), (3, .int v3)]) X dX4_shifts_12 (by decide) rfl ?_
    refine a_sub (ks := [1, 2, 3, 4, 0]) (lo' := [(0, .ref (al 200)), (1, .int v1), (2, .int v2), (3, .int v3), (4, .int x_3)]) rfl ?_
    obtain ⟨n9, h⟩ := h
    exact tX4_shifts_14 X n9 _ _ h
abbrev rm_X4_lays : Room := { frames := 0, cells := 0, slots := 0, locals := 0 }
def wpX4_lays (M : Mem) (v1 : Int32) (v2 : Int32) (v3 : Int32) (v4 : Int32) (v5 : Int32) (Q : Mem → Prop) : Prop := (vp_in ((1000 * v1) + v2) 6000 ∧ ∀ M_1 : Mem, M_1 = pI M 220 (Int32.toNatClampNeg ((1000 * v1) + v2)) v3 → (vp_in ((1000 * v1) + v2) 6000 ∧ ∀ M_2 : Mem, M_2 = pI M_1 221 (Int32.toNatClampNeg ((1000 * v1) + v2)) v4 → (vp_in ((1000 * v1) + v2) 6000 ∧ ∀ M_3 : Mem, M_3 = pI M_2 222 (Int32.toNatClampNeg ((1000 * v1) + v2)) v5 → Q M_3)))
set_option maxHeartbeats 4000000 in
set_option maxRecDepth 100000 in
theorem cX4_lays_ok (l : Launch) {G : Gl} {al : Nat → Nat} {mk : Nat} {M : Mem} {v1 : Int32} {v2 : Int32} {v3 : Int32} {v4 : Int32} {v5 : Int32} {Q : Mem → Prop} (h : wpX4_lays M v1 v2 v3 v4 v5 Q) : Kv l yX4_lays cX4_lays 6 none rm_X4_lays G al mk M [.ref (al 200), .int v1, .int v2, .int v3, .int v4, .int v5] (QV G al mk Q) := by
  refine a_head (by decide) (Nat.le_of_ble_eq_true rfl) (fun p e s m below meth c X => ?_)
  have X : Cx p s m meth c G RX4 cX4_lays 6 none := X
  unfold wpX4_lays at h
  refine a_sub (ks := [0, 1, 2, 3, 4, 5]) (lo' := [(0, .ref (al 200)), (1, .int v1), (2, .int v2), (3, .int v3), (4, .int v4), (5, .int v5)]) rfl ?_
  refine a_aload_n X dX4_lays_0 rfl 0 rfl ?_
  refine a_getR (k := 19) X 20 (b := 220) fw4 iz_200 rfl rfl flX4_31 rfl dX4_lays_1 ?_
  refine a_sipush (v := 1000) X dX4_lays_4 sc_1000 ?_
  refine a_iload_n X dX4_lays_7 rfl 1 rfl ?_
  refine a_imul X dX4_lays_8 ?_
  refine a_iload_n X dX4_lays_9 rfl 2 rfl ?_
  refine a_iadd X dX4_lays_10 ?_
  refine a_iload_n X dX4_lays_11 rfl 3 rfl ?_
  refine a_iast X iz_220 h.1 dX4_lays_12 (fun M_1 eM_1 => ?_)
  have h := h.2 M_1 eM_1
  refine a_aload_n X dX4_lays_13 rfl 0 rfl ?_
  refine a_getR (k := 20) X 21 (b := 221) fw4 iz_200 rfl rfl flX4_34 rfl dX4_lays_14 ?_
  refine a_sipush (v := 1000) X dX4_lays_17 sc_1000 ?_
  refine a_iload_n X dX4_lays_20 rfl 1 rfl ?_
  refine a_imul X dX4_lays_21 ?_
  refine a_iload_n X dX4_lays_22 rfl 2 rfl ?_
  refine a_iadd X dX4_lays_23 ?_
  refine a_iload X dX4_lays_24 4 rfl ?_
  refine a_iast X iz_221 h.1 dX4_lays_26 (fun M_2 eM_2 => ?_)
  have h := h.2 M_2 eM_2
  refine a_aload_n X dX4_lays_27 rfl 0 rfl ?_
  refine a_getR (k := 21) X 22 (b := 222) fw4 iz_200 rfl rfl flX4_37 rfl dX4_lays_28 ?_
  refine a_sipush (v := 1000) X dX4_lays_31 sc_1000 ?_
  refine a_iload_n X dX4_lays_34 rfl 1 rfl ?_
  refine a_imul X dX4_lays_35 ?_
  refine a_iload_n X dX4_lays_36 rfl 2 rfl ?_
  refine a_iadd X dX4_lays_37 ?_
  refine a_iload X dX4_lays_38 5 rfl ?_
  refine a_iast X iz_222 h.1 dX4_lays_40 (fun M_3 eM_3 => ?_)
  have h := h.2 M_3 eM_3
  exact a_vret X h dX4_lays_41
abbrev rm_X4_boundBy : Room := { frames := 0, cells := 0, slots := 0, locals := 0 }
def wpX4_boundBy (M : Mem) (v0 : Int32) (v1 : Int32) (Q : Int32 → Mem → Prop) : Prop := (¬ v1 = 0 ∧ ((((2 * v0) / v1) ≤ 1 → Q 1 M) ∧ (¬ ((2 * v0) / v1) ≤ 1 → (¬ v1 = 0 ∧ Q ((2 * v0) / v1) M))))
set_option maxHeartbeats 4000000 in
set_option maxRecDepth 100000 in
theorem cX4_boundBy_ok (l : Launch) {G : Gl} {al : Nat → Nat} {mk : Nat} {M : Mem} {v0 : Int32} {v1 : Int32} {Q : Int32 → Mem → Prop} (h : wpX4_boundBy M v0 v1 Q) : Kv l yX4_boundBy cX4_boundBy 2 (some .int) rm_X4_boundBy G al mk M [.int v0, .int v1] (QI G al mk Q) := by
  refine a_head (by decide) (Nat.le_of_ble_eq_true rfl) (fun p e s m below meth c X => ?_)
  have X : Cx p s m meth c G RX4 cX4_boundBy 2 (some .int) := X
  unfold wpX4_boundBy at h
  refine a_sub (ks := [0, 1]) (lo' := [(0, .int v0), (1, .int v1)]) rfl ?_
  refine a_iconst (v := 2) X dX4_boundBy_0 ic_2 ?_
  refine a_iload_n X dX4_boundBy_1 rfl 0 rfl ?_
  refine a_imul X dX4_boundBy_2 ?_
  refine a_iload_n X dX4_boundBy_3 rfl 1 rfl ?_
  refine a_idiv X dX4_boundBy_4 h.1 ?_
  have h := h.2
  refine a_iconst (v := 1) X dX4_boundBy_5 ic_1 ?_
  refine a_icmp_le (tgt := 17) X dX4_boundBy_6 (by decide) (fun z => ?_) (fun z => ?_)
  · have h := h.1 z
    refine a_iconst (v := 1) X dX4_boundBy_17 ic_1 ?_
    exact a_iret X h dX4_boundBy_18
  · have h := h.2 z
    refine a_iconst (v := 2) X dX4_boundBy_9 ic_2 ?_
    refine a_iload_n X dX4_boundBy_10 rfl 0 rfl ?_
    refine a_imul X dX4_boundBy_11 ?_
    refine a_iload_n X dX4_boundBy_12 rfl 1 rfl ?_
    refine a_idiv X dX4_boundBy_13 h.1 ?_
    have h := h.2
    refine a_goto (tgt := 18) X dX4_boundBy_14 (by decide) ?_
    exact a_iret X h dX4_boundBy_18
abbrev rm_X4_boundOf : Room := { frames := 1, cells := 0, slots := 0, locals := 21 }
def wpX4_boundOf (M : Mem) (v1 : Int32) (Q : Int32 → Mem → Prop) : Prop := (vp_in v1 6 ∧ wpX4_boundBy M (gI M 224 (Int32.toNatClampNeg v1)) (gI M 200 28) (fun r_2 M_1 => Q r_2 M_1))
set_option maxHeartbeats 4000000 in
set_option maxRecDepth 100000 in
theorem cX4_boundOf_ok (l : Launch) {G : Gl} {al : Nat → Nat} {mk : Nat} {M : Mem} {v1 : Int32} {Q : Int32 → Mem → Prop} (h : wpX4_boundOf M v1 Q) : Kv l yX4_boundOf cX4_boundOf 2 (some .int) rm_X4_boundOf G al mk M [.ref (al 200), .int v1] (QI G al mk Q) := by
  refine a_head (by decide) (Nat.le_of_ble_eq_true rfl) (fun p e s m below meth c X => ?_)
  have X : Cx p s m meth c G RX4 cX4_boundOf 2 (some .int) := X
  unfold wpX4_boundOf at h
  refine a_sub (ks := [0, 1]) (lo' := [(0, .ref (al 200)), (1, .int v1)]) rfl ?_
  refine a_aload_n X dX4_boundOf_0 rfl 0 rfl ?_
  refine a_getR (k := 23) X 24 (b := 224) fw4 iz_200 rfl rfl flX4_43 rfl dX4_boundOf_1 ?_
  refine a_iload_n X dX4_boundOf_4 rfl 1 rfl ?_
  refine a_iald X iz_224 h.1 dX4_boundOf_5 ?_
  have h := h.2
  refine a_aload_n X dX4_boundOf_6 rfl 0 rfl ?_
  refine a_getI (k := 28) X fw4 iz_200 rfl flX4_185 rfl dX4_boundOf_7 ?_
  refine a_cSi (As := [.int (gI M 224 (Int32.toNatClampNeg v1)), .int (gI M 200 28)]) (st := []) X (cX4_boundBy_ok l h) mlX4_198 msX4_boundBy (rz rfl) (Nat.le_of_ble_eq_true rfl) rfl dX4_boundOf_10 (fun r_2 M_1 h => ?_)
  exact a_iret X h dX4_boundOf_13
abbrev rm_X4_bandOf : Room := { frames := 0, cells := 0, slots := 0, locals := 0 }
def wX4_bandOf_2 (Q : Int32 → Mem → Prop) (v0 : Int32) (v1 : Int32) : Nat → Mem → Int32 → Prop
  | 0, _, _ => False
  | n + 1, M, v2 => (¬ (1 <<< (v2 &&& 31)) = 0 ∧ ((((v1 - (1 <<< (v2 &&& 31))) - (v1 - v1 / (1 <<< (v2 &&& 31)) * (1 <<< (v2 &&& 31)))) < v0 → Q v2 M) ∧ (¬ ((v1 - (1 <<< (v2 &&& 31))) - (v1 - v1 / (1 <<< (v2 &&& 31)) * (1 <<< (v2 &&& 31)))) < v0 → wX4_bandOf_2 Q v0 v1 n M (v2 + 1))))
def wpX4_bandOf (M : Mem) (v0 : Int32) (v1 : Int32) (Q : Int32 → Mem → Prop) : Prop := ∃ n, wX4_bandOf_2 Q v0 v1 n M 0
set_option maxHeartbeats 4000000 in
set_option maxRecDepth 100000 in
theorem tX4_bandOf_2 (X : Cx p s m meth c G RX4 cX4_bandOf 3 (some .int)) {Q : Int32 → Mem → Prop} {v0 : Int32} {v1 : Int32} : ∀ (n : Nat) (M : Mem) (v2 : Int32), wX4_bandOf_2 Q v0 v1 n M v2 → Wa p l e rm_X4_bandOf s m args below meth c 3 G al mk 0 0 (MQ below (QI G al mk Q) args s 0 0 (gA G)) M 2 [(0, .int v0), (1, .int v1), (2, .int v2)] [] := by
  intro n
  induction n with
  | zero =>
    intro M v2 h
    exact False.elim h
  | succ n ih =>
    intro M v2 h
    rw [wX4_bandOf_2] at h
    refine a_iload_n X dX4_bandOf_2 rfl 0 rfl ?_
    refine a_iload_n X dX4_bandOf_3 rfl 1 rfl ?_
    refine a_iconst (v := 1) X dX4_bandOf_4 ic_1 ?_
    refine a_iload_n X dX4_bandOf_5 rfl 2 rfl ?_
    refine a_ishl X dX4_bandOf_6 ?_
    refine a_isub X dX4_bandOf_7 ?_
    refine a_iload_n X dX4_bandOf_8 rfl 1 rfl ?_
    refine a_iconst (v := 1) X dX4_bandOf_9 ic_1 ?_
    refine a_iload_n X dX4_bandOf_10 rfl 2 rfl ?_
    refine a_ishl X dX4_bandOf_11 ?_
    refine a_irem X dX4_bandOf_12 h.1 ?_
    have h := h.2
    refine a_isub X dX4_bandOf_13 ?_
    refine a_icmp_gt (tgt := 23) X dX4_bandOf_14 (by decide) (fun z => ?_) (fun z => ?_)
    · have h := h.1 z
      refine a_iload_n X dX4_bandOf_23 rfl 2 rfl ?_
      exact a_iret X h dX4_bandOf_24
    · have h := h.2 z
      refine a_iinc (v := v2 + 1) (lo' := [(2, .int (v2 + 1)), (0, .int v0), (1, .int v1)]) X dX4_bandOf_17 2 rfl (ii_1 _) (by decide) rfl ?_
      refine a_goto (tgt := 2) X dX4_bandOf_20 (by decide) ?_
      refine a_sub (ks := [1, 2, 0]) (lo' := [(0, .int v0), (1, .int v1), (2, .int (v2 + 1))]) rfl ?_
      exact ih _ _ h
set_option maxHeartbeats 4000000 in
set_option maxRecDepth 100000 in
theorem cX4_bandOf_ok (l : Launch) {G : Gl} {al : Nat → Nat} {mk : Nat} {M : Mem} {v0 : Int32} {v1 : Int32} {Q : Int32 → Mem → Prop} (h : wpX4_bandOf M v0 v1 Q) : Kv l yX4_bandOf cX4_bandOf 3 (some .int) rm_X4_bandOf G al mk M [.int v0, .int v1] (QI G al mk Q) := by
  refine a_head (by decide) (Nat.le_of_ble_eq_true rfl) (fun p e s m below meth c X => ?_)
  have X : Cx p s m meth c G RX4 cX4_bandOf 3 (some .int) := X
  unfold wpX4_bandOf at h
  refine a_sub (ks := [0, 1]) (lo' := [(0, .int v0), (1, .int v1)]) rfl ?_
  refine a_iconst (v := 0) X dX4_bandOf_0 ic_0 ?_
  refine a_istore_n (lo' := [(2, .int 0), (0, .int v0), (1, .int v1)]) X dX4_bandOf_1 rfl (by decide) rfl ?_
  refine a_sub (ks := [1, 2, 0]) (lo' := [(0, .int v0), (1, .int v1), (2, .int 0)]) rfl ?_
  obtain ⟨n9, h⟩ := h
  exact tX4_bandOf_2 X n9 _ _ h
abbrev rm_X4_bandAt : Room := { frames := 1, cells := 0, slots := 0, locals := 22 }
def wpX4_bandAt (M : Mem) (v1 : Int32) (v2 : Int32) (v3 : Int32) (Q : Int32 → Mem → Prop) : Prop := (vp_in ((1000 * v1) + v2) 6000 ∧ wpX4_bandOf M (gI M 222 (Int32.toNatClampNeg ((1000 * v1) + v2))) v3 (fun r_2 M_1 => Q r_2 M_1))
set_option maxHeartbeats 4000000 in
set_option maxRecDepth 100000 in
theorem cX4_bandAt_ok (l : Launch) {G : Gl} {al : Nat → Nat} {mk : Nat} {M : Mem} {v1 : Int32} {v2 : Int32} {v3 : Int32} {Q : Int32 → Mem → Prop} (h : wpX4_bandAt M v1 v2 v3 Q) : Kv l yX4_bandAt cX4_bandAt 4 (some .int) rm_X4_bandAt G al mk M [.ref (al 200), .int v1, .int v2, .int v3] (QI G al mk Q) := by
  refine a_head (by decide) (Nat.le_of_ble_eq_true rfl) (fun p e s m below meth c X => ?_)
  have X : Cx p s m meth c G RX4 cX4_bandAt 4 (some .int) := X
  unfold wpX4_bandAt at h
  refine a_sub (ks := [0, 1, 2, 3]) (lo' := [(0, .ref (al 200)), (1, .int v1), (2, .int v2), (3, .int v3)]) rfl ?_
  refine a_aload_n X dX4_bandAt_0 rfl 0 rfl ?_
  refine a_getR (k := 21) X 22 (b := 222) fw4 iz_200 rfl rfl flX4_37 rfl dX4_bandAt_1 ?_
  refine a_sipush (v := 1000) X dX4_bandAt_4 sc_1000 ?_
  refine a_iload_n X dX4_bandAt_7 rfl 1 rfl ?_
  refine a_imul X dX4_bandAt_8 ?_
  refine a_iload_n X dX4_bandAt_9 rfl 2 rfl ?_
  refine a_iadd X dX4_bandAt_10 ?_
  refine a_iald X iz_222 h.1 dX4_bandAt_11 ?_
  have h := h.2
  refine a_iload_n X dX4_bandAt_12 rfl 3 rfl ?_
  refine a_cSi (As := [.int (gI M 222 (Int32.toNatClampNeg ((1000 * v1) + v2))), .int v3]) (st := []) X (cX4_bandOf_ok l h) mlX4_221 msX4_bandOf (rz rfl) (Nat.le_of_ble_eq_true rfl) rfl dX4_bandAt_13 (fun r_2 M_1 h => ?_)
  exact a_iret X h dX4_bandAt_16
abbrev rm_X4_familyFrom : Room := { frames := 2, cells := 0, slots := 0, locals := 45 }
def wX4_familyFrom_3 (Q : Int32 → Mem → Prop) (v1 : Int32) (v2 : Int32) (v3 : Int32) : Nat → Mem → Int32 → Prop
  | 0, _, _ => False
  | n + 1, M, v4 => ((v4 ≤ 1 → Q v4 M) ∧ (¬ v4 ≤ 1 → wpX4_bandAt M v1 (v4 - 1) v3 (fun r_2 M_1 => wpX4_bandAt M_1 v1 v2 v3 (fun r_4 M_3 => ((r_4 ≤ r_2 → Q v4 M_3) ∧ (¬ r_4 ≤ r_2 → wX4_familyFrom_3 Q v1 v2 v3 n M_3 (v4 + (-1))))))))
def wpX4_familyFrom (M : Mem) (v1 : Int32) (v2 : Int32) (v3 : Int32) (Q : Int32 → Mem → Prop) : Prop := ∃ n, wX4_familyFrom_3 Q v1 v2 v3 n M v2
set_option maxHeartbeats 4000000 in
set_option maxRecDepth 100000 in
theorem tX4_familyFrom_3 (X : Cx p s m meth c G RX4 cX4_familyFrom 5 (some .int)) {Q : Int32 → Mem → Prop} {v1 : Int32} {v2 : Int32} {v3 : Int32} : ∀ (n : Nat) (M : Mem) (v4 : Int32), wX4_familyFrom_3 Q v1 v2 v3 n M v4 → Wa p l e rm_X4_familyFrom s m args below meth c 5 G al mk 0 0 (MQ below (QI G al mk Q) args s 0 0 (gA G)) M 3 [(0, .ref (al 200)), (1, .int v1), (2, .int v2), (3, .int v3), (4, .int v4)] [] := by
  intro n
  induction n with
  | zero =>
    intro M v4 h
    exact False.elim h
  | succ n ih =>
    intro M v4 h
    rw [wX4_familyFrom_3] at h
    refine a_iload X dX4_familyFrom_3 4 rfl ?_
    refine a_iconst (v := 1) X dX4_familyFrom_5 ic_1 ?_
    refine a_icmp_le (tgt := 35) X dX4_familyFrom_6 (by decide) (fun z => ?_) (fun z => ?_)
    · have h := h.1 z
      refine a_iload X dX4_familyFrom_35 4 rfl ?_
      exact a_iret X h dX4_familyFrom_37
    · have h := h.2 z
      refine a_aload_n X dX4_familyFrom_9 rfl 0 rfl ?_
      refine a_iload_n X dX4_familyFrom_10 rfl 1 rfl ?_
      refine a_iload X dX4_familyFrom_11 4 rfl ?_
      refine a_iconst (v := 1) X dX4_familyFrom_13 ic_1 ?_
      refine a_isub X dX4_familyFrom_14 ?_
      refine a_iload_n X dX4_familyFrom_15 rfl 3 rfl ?_
      refine a_cVi (As := [.int v1, .int (v4 - 1), .int v3]) (st := []) X fw4 iz_200 (cX4_bandAt_ok l h) mlX4_224 mvX4_bandAt (rz rfl) (Nat.le_of_ble_eq_true rfl) rfl dX4_familyFrom_16 (fun r_2 M_1 h => ?_)
      refine a_aload_n X dX4_familyFrom_19 rfl 0 rfl ?_
      refine a_iload_n X dX4_familyFrom_20 rfl 1 rfl ?_
      refine a_iload_n X dX4_familyFrom_21 rfl 2 rfl ?_
      refine a_iload_n X dX4_familyFrom_22 rfl 3 rfl ?_
      refine a_cVi (As := [.int v1, .int v2, .int v3]) (st := [.int r_2]) X fw4 iz_200 (cX4_bandAt_ok l h) mlX4_224 mvX4_bandAt (rz rfl) (Nat.le_of_ble_eq_true rfl) rfl dX4_familyFrom_23 (fun r_4 M_3 h => ?_)
      refine a_icmp_ge (tgt := 35) X dX4_familyFrom_26 (by decide) (fun z => ?_) (fun z => ?_)
      · have h := h.1 z
        refine a_iload X dX4_familyFrom_35 4 rfl ?_
        exact a_iret X h dX4_familyFrom_37
      · have h := h.2 z
        refine a_iinc (v := v4 + (-1)) (lo' := [(4, .int (v4 + (-1))), (0, .ref (al 200)), (1, .int v1), (2, .int v2), (3, .int v3)]) X dX4_familyFrom_29 4 rfl (ii_m1 _) (by decide) rfl ?_
        refine a_goto (tgt := 3) X dX4_familyFrom_32 (by decide) ?_
        refine a_sub (ks := [1, 2, 3, 4, 0]) (lo' := [(0, .ref (al 200)), (1, .int v1), (2, .int v2), (3, .int v3), (4, .int (v4 + (-1)))]) rfl ?_
        exact ih _ _ h
set_option maxHeartbeats 4000000 in
set_option maxRecDepth 100000 in
theorem cX4_familyFrom_ok (l : Launch) {G : Gl} {al : Nat → Nat} {mk : Nat} {M : Mem} {v1 : Int32} {v2 : Int32} {v3 : Int32} {Q : Int32 → Mem → Prop} (h : wpX4_familyFrom M v1 v2 v3 Q) : Kv l yX4_familyFrom cX4_familyFrom 5 (some .int) rm_X4_familyFrom G al mk M [.ref (al 200), .int v1, .int v2, .int v3] (QI G al mk Q) := by
  refine a_head (by decide) (Nat.le_of_ble_eq_true rfl) (fun p e s m below meth c X => ?_)
  have X : Cx p s m meth c G RX4 cX4_familyFrom 5 (some .int) := X
  unfold wpX4_familyFrom at h
  refine a_sub (ks := [0, 1, 2, 3]) (lo' := [(0, .ref (al 200)), (1, .int v1), (2, .int v2), (3, .int v3)]) rfl ?_
  refine a_iload_n X dX4_familyFrom_0 rfl 2 rfl ?_
  refine a_istore (lo' := [(4, .int v2), (0, .ref (al 200)), (1, .int v1), (2, .int v2), (3, .int v3)]) X dX4_familyFrom_1 (by decide) rfl ?_
  refine a_sub (ks := [1, 2, 3, 4, 0]) (lo' := [(0, .ref (al 200)), (1, .int v1), (2, .int v2), (3, .int v3), (4, .int v2)]) rfl ?_
  obtain ⟨n9, h⟩ := h
  exact tX4_familyFrom_3 X n9 _ _ h
abbrev rm_X4_gaps : Room := { frames := 0, cells := 0, slots := 0, locals := 0 }
def wX4_gaps_6 (Q : Int32 → Mem → Prop) (v1 : Int32) (v3 : Int32) : Nat → Mem → Int32 → Int32 → Prop
  | 0, _, _, _ => False
  | n + 1, M, v4, v5 => ((v3 < v5 → Q v4 M) ∧ (¬ v3 < v5 → (vp_in ((1000 * v1) + v5) 6000 ∧ (∀ x_1 : Int32, x_1 = (v4 + (gI M 221 (Int32.toNatClampNeg ((1000 * v1) + v5)))) → wX4_gaps_6 Q v1 v3 n M x_1 (v5 + 1)))))
def wpX4_gaps (M : Mem) (v1 : Int32) (v2 : Int32) (v3 : Int32) (Q : Int32 → Mem → Prop) : Prop := ∃ n, wX4_gaps_6 Q v1 v3 n M 0 v2
set_option maxHeartbeats 4000000 in
set_option maxRecDepth 100000 in
theorem tX4_gaps_6 (X : Cx p s m meth c G RX4 cX4_gaps 6 (some .int)) {Q : Int32 → Mem → Prop} {v1 : Int32} {v3 : Int32} : ∀ (n : Nat) (M : Mem) (v4 : Int32) (v5 : Int32), wX4_gaps_6 Q v1 v3 n M v4 v5 → Wa p l e rm_X4_gaps s m args below meth c 6 G al mk 0 0 (MQ below (QI G al mk Q) args s 0 0 (gA G)) M 6 [(0, .ref (al 200)), (1, .int v1), (3, .int v3), (4, .int v4), (5, .int v5)] [] := by
  intro n
  induction n with
  | zero =>
    intro M v4 v5 h
    exact False.elim h
  | succ n ih =>
    intro M v4 v5 h
    rw [wX4_gaps_6] at h
    refine a_iload X dX4_gaps_6 4 rfl ?_
    refine a_iload_n X dX4_gaps_8 rfl 2 rfl ?_
    refine a_icmp_gt (tgt := 36) X dX4_gaps_9 (by decide) (fun z => ?_) (fun z => ?_)
    · have h := h.1 z
      refine a_iload X dX4_gaps_36 3 rfl ?_
      exact a_iret X h dX4_gaps_38
    · have h := h.2 z
      refine a_iload X dX4_gaps_12 3 rfl ?_
      refine a_aload_n X dX4_gaps_14 rfl 0 rfl ?_
      refine a_getR (k := 20) X 21 (b := 221) fw4 iz_200 rfl rfl flX4_34 rfl dX4_gaps_15 ?_
      refine a_sipush (v := 1000) X dX4_gaps_18 sc_1000 ?_
      refine a_iload_n X dX4_gaps_21 rfl 1 rfl ?_
      refine a_imul X dX4_gaps_22 ?_
      refine a_iload X dX4_gaps_23 4 rfl ?_
      refine a_iadd X dX4_gaps_25 ?_
      refine a_iald X iz_221 h.1 dX4_gaps_26 ?_
      have h := h.2
      refine a_iadd X dX4_gaps_27 ?_
      refine a_topi (fun x_1 ex_1 => ?_)
      have h := h x_1 ex_1
      refine a_istore (lo' := [(4, .int x_1), (0, .ref (al 200)), (1, .int v1), (3, .int v3), (5, .int v5)]) X dX4_gaps_28 (by decide) rfl ?_
      refine a_iinc (v := v5 + 1) (lo' := [(5, .int (v5 + 1)), (4, .int x_1), (0, .ref (al 200)), (1, .int v1), (3, .int v3)]) X dX4_gaps_30 4 rfl (ii_1 _) (by decide) rfl ?_
      refine a_goto (tgt := 6) X dX4_gaps_33 (by decide) ?_
      refine a_sub (ks := [2, 3, 4, 1, 0]) (lo' := [(0, .ref (al 200)), (1, .int v1), (3, .int v3), (4, .int x_1), (5, .int (v5 + 1))]) rfl ?_
      exact ih _ _ _ h
set_option maxHeartbeats 4000000 in
set_option maxRecDepth 100000 in
theorem cX4_gaps_ok (l : Launch) {G : Gl} {al : Nat → Nat} {mk : Nat} {M : Mem} {v1 : Int32} {v2 : Int32} {v3 : Int32} {Q : Int32 → Mem → Prop} (h : wpX4_gaps M v1 v2 v3 Q) : Kv l yX4_gaps cX4_gaps 6 (some .int) rm_X4_gaps G al mk M [.ref (al 200), .int v1, .int v2, .int v3] (QI G al mk Q) := by
  refine a_head (by decide) (Nat.le_of_ble_eq_true rfl) (fun p e s m below meth c X => ?_)
  have X : Cx p s m meth c G RX4 cX4_gaps 6 (some .int) := X
  unfold wpX4_gaps at h
  refine a_sub (ks := [0, 1, 2, 3]) (lo' := [(0, .ref (al 200)), (1, .int v1), (2, .int v2), (3, .int v3)]) rfl ?_
  refine a_iconst (v := 0) X dX4_gaps_0 ic_0 ?_
  refine a_istore (lo' := [(4, .int 0), (0, .ref (al 200)), (1, .int v1), (2, .int v2), (3, .int v3)]) X dX4_gaps_1 (by decide) rfl ?_
  refine a_iload_n X dX4_gaps_3 rfl 3 rfl ?_
  refine a_istore (lo' := [(5, .int v2), (4, .int 0), (0, .ref (al 200)), (1, .int v1), (2, .int v2), (3, .int v3)]) X dX4_gaps_4 (by decide) rfl ?_
  refine a_sub (ks := [2, 3, 5, 1, 0]) (lo' := [(0, .ref (al 200)), (1, .int v1), (3, .int v3), (4, .int 0), (5, .int v2)]) rfl ?_
  obtain ⟨n9, h⟩ := h
  exact tX4_gaps_6 X n9 _ _ _ h
abbrev rm_X4_canGo : Room := { frames := 3, cells := 0, slots := 0, locals := 69 }
def wpX4_canGo (M : Mem) (v1 : Int32) (v2 : Int32) (v3 : Int32) (Q : Int32 → Mem → Prop) : Prop := ((v2 < 1 → Q 0 M) ∧ (¬ v2 < 1 → (vp_in v1 6 ∧ ((((gI M 223 (Int32.toNatClampNeg v1)) - 2) < v2 → Q 0 M) ∧ (¬ ((gI M 223 (Int32.toNatClampNeg v1)) - 2) < v2 → wpX4_bandAt M v1 v2 v3 (fun r_2 M_1 => wpX4_bandAt M_1 v1 (v2 + 1) v3 (fun r_4 M_3 => ((r_2 ≤ r_4 → wpX4_familyFrom M_3 v1 v2 v3 (fun r_6 M_5 => wpX4_gaps M_5 v1 r_6 v2 (fun r_8 M_7 => (vp_in (((1000 * v1) + v2) + 1) 6000 ∧ (vp_in (((1000 * v1) + v2) + 1) 6000 ∧ ((v3 < ((r_8 + (gI M_7 221 (Int32.toNatClampNeg (((1000 * v1) + v2) + 1)))) + (gI M_7 222 (Int32.toNatClampNeg (((1000 * v1) + v2) + 1)))) → Q 0 M_7) ∧ (¬ v3 < ((r_8 + (gI M_7 221 (Int32.toNatClampNeg (((1000 * v1) + v2) + 1)))) + (gI M_7 222 (Int32.toNatClampNeg (((1000 * v1) + v2) + 1)))) → Q 1 M_7))))))) ∧ (¬ r_2 ≤ r_4 → Q 0 M_3)))))))))
set_option maxHeartbeats 4000000 in
set_option maxRecDepth 100000 in
theorem cX4_canGo_ok (l : Launch) {G : Gl} {al : Nat → Nat} {mk : Nat} {M : Mem} {v1 : Int32} {v2 : Int32} {v3 : Int32} {Q : Int32 → Mem → Prop} (h : wpX4_canGo M v1 v2 v3 Q) : Kv l yX4_canGo cX4_canGo 4 (some .boolean) rm_X4_canGo G al mk M [.ref (al 200), .int v1, .int v2, .int v3] (QI G al mk Q) := by
  refine a_head (by decide) (Nat.le_of_ble_eq_true rfl) (fun p e s m below meth c X => ?_)
  have X : Cx p s m meth c G RX4 cX4_canGo 4 (some .boolean) := X
  unfold wpX4_canGo at h
  refine a_sub (ks := [0, 1, 2, 3]) (lo' := [(0, .ref (al 200)), (1, .int v1), (2, .int v2), (3, .int v3)]) rfl ?_
  refine a_iload_n X dX4_canGo_0 rfl 2 rfl ?_
  refine a_iconst (v := 1) X dX4_canGo_1 ic_1 ?_
  refine a_icmp_lt (tgt := 36) X dX4_canGo_2 (by decide) (fun z => ?_) (fun z => ?_)
  · have h := h.1 z
    refine a_iconst (v := 0) X dX4_canGo_36 ic_0 ?_
    exact a_zret X (by decide) h dX4_canGo_37
  · have h := h.2 z
    refine a_iload_n X dX4_canGo_5 rfl 2 rfl ?_
    refine a_aload_n X dX4_canGo_6 rfl 0 rfl ?_
    refine a_getR (k := 22) X 23 (b := 223) fw4 iz_200 rfl rfl flX4_40 rfl dX4_canGo_7 ?_
    refine a_iload_n X dX4_canGo_10 rfl 1 rfl ?_
    refine a_iald X iz_223 h.1 dX4_canGo_11 ?_
    have h := h.2
    refine a_iconst (v := 2) X dX4_canGo_12 ic_2 ?_
    refine a_isub X dX4_canGo_13 ?_
    refine a_icmp_gt (tgt := 36) X dX4_canGo_14 (by decide) (fun z => ?_) (fun z => ?_)
    · have h := h.1 z
      refine a_iconst (v := 0) X dX4_canGo_36 ic_0 ?_
      exact a_zret X (by decide) h dX4_canGo_37
    · have h := h.2 z
      refine a_aload_n X dX4_canGo_17 rfl 0 rfl ?_
      refine a_iload_n X dX4_canGo_18 rfl 1 rfl ?_
      refine a_iload_n X dX4_canGo_19 rfl 2 rfl ?_
      refine a_iload_n X dX4_canGo_20 rfl 3 rfl ?_
      refine a_cVi (As := [.int v1, .int v2, .int v3]) (st := []) X fw4 iz_200 (cX4_bandAt_ok l h) mlX4_224 mvX4_bandAt (rz rfl) (Nat.le_of_ble_eq_true rfl) rfl dX4_canGo_21 (fun r_2 M_1 h => ?_)
      refine a_aload_n X dX4_canGo_24 rfl 0 rfl ?_
      refine a_iload_n X dX4_canGo_25 rfl 1 rfl ?_
      refine a_iload_n X dX4_canGo_26 rfl 2 rfl ?_
      refine a_iconst (v := 1) X dX4_canGo_27 ic_1 ?_
      refine a_iadd X dX4_canGo_28 ?_
      refine a_iload_n X dX4_canGo_29 rfl 3 rfl ?_
      refine a_cVi (As := [.int v1, .int (v2 + 1), .int v3]) (st := [.int r_2]) X fw4 iz_200 (cX4_bandAt_ok l h) mlX4_224 mvX4_bandAt (rz rfl) (Nat.le_of_ble_eq_true rfl) rfl dX4_canGo_30 (fun r_4 M_3 h => ?_)
      refine a_icmp_le (tgt := 38) X dX4_canGo_33 (by decide) (fun z => ?_) (fun z => ?_)
      · have h := h.1 z
        refine a_aload_n X dX4_canGo_38 rfl 0 rfl ?_
        refine a_iload_n X dX4_canGo_39 rfl 1 rfl ?_
        refine a_aload_n X dX4_canGo_40 rfl 0 rfl ?_
        refine a_iload_n X dX4_canGo_41 rfl 1 rfl ?_
        refine a_iload_n X dX4_canGo_42 rfl 2 rfl ?_
        refine a_iload_n X dX4_canGo_43 rfl 3 rfl ?_
        refine a_cVi (As := [.int v1, .int v2, .int v3]) (st := [.int v1, .ref (al 200)]) X fw4 iz_200 (cX4_familyFrom_ok l h) mlX4_228 mvX4_familyFrom (rz rfl) (Nat.le_of_ble_eq_true rfl) rfl dX4_canGo_44 (fun r_6 M_5 h => ?_)
        refine a_iload_n X dX4_canGo_47 rfl 2 rfl ?_
        refine a_cVi (As := [.int v1, .int r_6, .int v2]) (st := []) X fw4 iz_200 (cX4_gaps_ok l h) mlX4_231 mvX4_gaps (rz rfl) (Nat.le_of_ble_eq_true rfl) rfl dX4_canGo_48 (fun r_8 M_7 h => ?_)
        refine a_aload_n X dX4_canGo_51 rfl 0 rfl ?_
        refine a_getR (k := 20) X 21 (b := 221) fw4 iz_200 rfl rfl flX4_34 rfl dX4_canGo_52 ?_
        refine a_sipush (v := 1000) X dX4_canGo_55 sc_1000 ?_
        refine a_iload_n X dX4_canGo_58 rfl 1 rfl ?_
        refine a_imul X dX4_canGo_59 ?_
        refine a_iload_n X dX4_canGo_60 rfl 2 rfl ?_
        refine a_iadd X dX4_canGo_61 ?_
        refine a_iconst (v := 1) X dX4_canGo_62 ic_1 ?_
        refine a_iadd X dX4_canGo_63 ?_
        refine a_iald X iz_221 h.1 dX4_canGo_64 ?_
        have h := h.2
        refine a_iadd X dX4_canGo_65 ?_
        refine a_aload_n X dX4_canGo_66 rfl 0 rfl ?_
        refine a_getR (k := 21) X 22 (b := 222) fw4 iz_200 rfl rfl flX4_37 rfl dX4_canGo_67 ?_
        refine a_sipush (v := 1000) X dX4_canGo_70 sc_1000 ?_
        refine a_iload_n X dX4_canGo_73 rfl 1 rfl ?_
        refine a_imul X dX4_canGo_74 ?_
        refine a_iload_n X dX4_canGo_75 rfl 2 rfl ?_
        refine a_iadd X dX4_canGo_76 ?_
        refine a_iconst (v := 1) X dX4_canGo_77 ic_1 ?_
        refine a_iadd X dX4_canGo_78 ?_
        refine a_iald X iz_222 h.1 dX4_canGo_79 ?_
        have h := h.2
        refine a_iadd X dX4_canGo_80 ?_
        refine a_iload_n X dX4_canGo_81 rfl 3 rfl ?_
        refine a_icmp_gt (tgt := 89) X dX4_canGo_82 (by decide) (fun z => ?_) (fun z => ?_)
        · have h := h.1 z
          refine a_iconst (v := 0) X dX4_canGo_89 ic_0 ?_
          exact a_zret X (by decide) h dX4_canGo_90
        · have h := h.2 z
          refine a_iconst (v := 1) X dX4_canGo_85 ic_1 ?_
          refine a_goto (tgt := 90) X dX4_canGo_86 (by decide) ?_
          exact a_zret X (by decide) h dX4_canGo_90
      · have h := h.2 z
        refine a_iconst (v := 0) X dX4_canGo_36 ic_0 ?_
        exact a_zret X (by decide) h dX4_canGo_37
abbrev rm_X4_shortens : Room := { frames := 4, cells := 0, slots := 0, locals := 92 }
def wX4_shortens_12 (Q : Int32 → Mem → Prop) (v1 : Int32) (v2 : Int32) (v3 : Int32) : Nat → Mem → Int32 → Prop
  | 0, _, _ => False
  | n + 1, M, v4 => ((v4 ≤ 0 → (vp_in v1 6 ∧ Q (v3 - (gI M 223 (Int32.toNatClampNeg v1))) M)) ∧ (¬ v4 ≤ 0 → wpX4_canGo M v1 v4 v2 (fun r_4 M_3 => ((r_4 = 0 → wX4_shortens_12 Q v1 v2 v3 n M_3 (v4 + (-1))) ∧ (¬ r_4 = 0 → wpX4_familyFrom M_3 v1 v4 v2 (fun r_6 M_5 => (vp_in (((1000 * v1) + v4) + 1) 6000 ∧ wpX4_gaps M_5 v1 r_6 v4 (fun r_8 M_7 => (vp_in (((1000 * v1) + v4) + 1) 6000 ∧ ∀ M_9 : Mem, M_9 = pI M_7 221 (Int32.toNatClampNeg (((1000 * v1) + v4) + 1)) ((gI M_5 221 (Int32.toNatClampNeg (((1000 * v1) + v4) + 1))) + r_8) → wpX4_shifts M_9 v1 (v4 + 1) ((r_6 - v4) - 1) (fun M_10 => (∀ x_11 : Int32, x_11 = (r_6 - 1) → wX4_shortens_12 Q v1 v2 v3 n M_10 x_11)))))))))))
def wpX4_shortens (M : Mem) (v1 : Int32) (v2 : Int32) (Q : Int32 → Mem → Prop) : Prop := (vp_in v1 6 ∧ (∀ x_1 : Int32, x_1 = (gI M 223 (Int32.toNatClampNeg v1)) → (∀ x_2 : Int32, x_2 = (x_1 - 2) → ∃ n, wX4_shortens_12 Q v1 v2 x_1 n M x_2)))
set_option maxHeartbeats 4000000 in
set_option maxRecDepth 100000 in
theorem tX4_shortens_12 (X : Cx p s m meth c G RX4 cX4_shortens 6 (some .int)) {Q : Int32 → Mem → Prop} {v1 : Int32} {v2 : Int32} {v3 : Int32} : ∀ (n : Nat) (M : Mem) (v4 : Int32), wX4_shortens_12 Q v1 v2 v3 n M v4 → Wa p l e rm_X4_shortens s m args below meth c 6 G al mk 0 0 (MQ below (QI G al mk Q) args s 0 0 (gA G)) M 12 [(0, .ref (al 200)), (1, .int v1), (2, .int v2), (3, .int v3), (4, .int v4)] [] := by
  intro n
  induction n with
  | zero =>
    intro M v4 h
    exact False.elim h
  | succ n ih =>
    intro M v4 h
    rw [wX4_shortens_12] at h
    refine a_iload X dX4_shortens_12 4 rfl ?_
    refine a_if_le (tgt := 96) X dX4_shortens_14 (by decide) (fun z => ?_) (fun z => ?_)
    · have h := h.1 z
      refine a_iload_n X dX4_shortens_96 rfl 3 rfl ?_
      refine a_aload_n X dX4_shortens_97 rfl 0 rfl ?_
      refine a_getR (k := 22) X 23 (b := 223) fw4 iz_200 rfl rfl flX4_40 rfl dX4_shortens_98 ?_
      refine a_iload_n X dX4_shortens_101 rfl 1 rfl ?_
      refine a_iald X iz_223 h.1 dX4_shortens_102 ?_
      have h := h.2
      refine a_isub X dX4_shortens_103 ?_
      exact a_iret X h dX4_shortens_104
    · have h := h.2 z
      refine a_aload_n X dX4_shortens_17 rfl 0 rfl ?_
      refine a_iload_n X dX4_shortens_18 rfl 1 rfl ?_
      refine a_iload X dX4_shortens_19 4 rfl ?_
      refine a_iload_n X dX4_shortens_21 rfl 2 rfl ?_
      refine a_cVi (As := [.int v1, .int v4, .int v2]) (st := []) X fw4 iz_200 (cX4_canGo_ok l h) mlX4_234 mvX4_canGo (rz rfl) (Nat.le_of_ble_eq_true rfl) rfl dX4_shortens_22 (fun r_4 M_3 h => ?_)
      refine a_if_eq (tgt := 90) X dX4_shortens_25 (by decide) (fun z => ?_) (fun z => ?_)
      · have h := h.1 z
        refine a_iinc (v := v4 + (-1)) (lo' := [(4, .int (v4 + (-1))), (0, .ref (al 200)), (1, .int v1), (2, .int v2), (3, .int v3)]) X dX4_shortens_90 4 rfl (ii_m1 _) (by decide) rfl ?_
        refine a_goto (tgt := 12) X dX4_shortens_93 (by decide) ?_
        refine a_sub (ks := [1, 2, 3, 4, 0]) (lo' := [(0, .ref (al 200)), (1, .int v1), (2, .int v2), (3, .int v3), (4, .int (v4 + (-1)))]) rfl ?_
        exact ih _ _ h
      · have h := h.2 z
        refine a_aload_n X dX4_shortens_28 rfl 0 rfl ?_
        refine a_iload_n X dX4_shortens_29 rfl 1 rfl ?_
        refine a_iload X dX4_shortens_30 4 rfl ?_
        refine a_iload_n X dX4_shortens_32 rfl 2 rfl ?_
        refine a_cVi (As := [.int v1, .int v4, .int v2]) (st := []) X fw4 iz_200 (cX4_familyFrom_ok l h) mlX4_228 mvX4_familyFrom (rz rfl) (Nat.le_of_ble_eq_true rfl) rfl dX4_shortens_33 (fun r_6 M_5 h => ?_)
        refine a_istore (lo' := [(5, .int r_6), (0, .ref (al 200)), (1, .int v1), (2, .int v2), (3, .int v3), (4, .int v4)]) X dX4_shortens_36 (by decide) rfl ?_
        refine a_aload_n X dX4_shortens_38 rfl 1 rfl ?_
        refine a_getR (k := 20) X 21 (b := 221) fw4 iz_200 rfl rfl flX4_34 rfl dX4_shortens_39 ?_
        refine a_sipush (v := 1000) X dX4_shortens_42 sc_1000 ?_
        refine a_iload_n X dX4_shortens_45 rfl 2 rfl ?_
        refine a_imul X dX4_shortens_46 ?_
        refine a_iload X dX4_shortens_47 5 rfl ?_
        refine a_iadd X dX4_shortens_49 ?_
        refine a_iconst (v := 1) X dX4_shortens_50 ic_1 ?_
        refine a_iadd X dX4_shortens_51 ?_
        refine a_dup2 X dX4_shortens_52 rfl rfl ?_
        refine a_iald X iz_221 h.1 dX4_shortens_53 ?_
        have h := h.2
        refine a_aload_n X dX4_shortens_54 rfl 1 rfl ?_
        refine a_iload_n X dX4_shortens_55 rfl 2 rfl ?_
        refine a_iload X dX4_shortens_56 0 rfl ?_
        refine a_iload X dX4_shortens_58 5 rfl ?_
        refine a_cVi (As := [.int v1, .int r_6, .int v4]) (st := [.int (gI M_5 221 (Int32.toNatClampNeg (((1000 * v1) + v4) + 1))), .int (((1000 * v1) + v4) + 1), .ref (al 221)]) X fw4 iz_200 (cX4_gaps_ok l h) mlX4_231 mvX4_gaps (rz rfl) (Nat.le_of_ble_eq_true rfl) rfl dX4_shortens_60 (fun r_8 M_7 h => ?_)
        refine a_iadd X dX4_shortens_63 ?_
        refine a_iast X iz_221 h.1 dX4_shortens_64 (fun M_9 eM_9 => ?_)
        have h := h.2 M_9 eM_9
        refine a_aload_n X dX4_shortens_65 rfl 1 rfl ?_
        refine a_iload_n X dX4_shortens_66 rfl 2 rfl ?_
        refine a_iload X dX4_shortens_67 5 rfl ?_
        refine a_iconst (v := 1) X dX4_shortens_69 ic_1 ?_
        refine a_iadd X dX4_shortens_70 ?_
        refine a_iload X dX4_shortens_71 0 rfl ?_
        refine a_iload X dX4_shortens_73 5 rfl ?_
        refine a_isub X dX4_shortens_75 ?_
        refine a_iconst (v := 1) X dX4_shortens_76 ic_1 ?_
        refine a_isub X dX4_shortens_77 ?_
        refine a_cVv (As := [.int v1, .int (v4 + 1), .int ((r_6 - v4) - 1)]) (st := []) X fw4 iz_200 (cX4_shifts_ok l h) mlX4_211 mvX4_shifts (rz rfl) (Nat.le_of_ble_eq_true rfl) rfl dX4_shortens_78 (fun M_10 h => ?_)
        refine a_iload X dX4_shortens_81 0 rfl ?_
        refine a_iconst (v := 1) X dX4_shortens_83 ic_1 ?_
        refine a_isub X dX4_shortens_84 ?_
        refine a_topi (fun x_11 ex_11 => ?_)
        have h := h x_11 ex_11
        refine a_istore (lo' := [(4, .int x_11), (5, .int r_6), (0, .ref (al 200)), (1, .int v1), (2, .int v2), (3, .int v3)]) X dX4_shortens_85 (by decide) rfl ?_
        refine a_goto (tgt := 12) X dX4_shortens_87 (by decide) ?_
        refine a_sub (ks := [2, 3, 4, 5, 0]) (lo' := [(0, .ref (al 200)), (1, .int v1), (2, .int v2), (3, .int v3), (4, .int x_11)]) rfl ?_
        exact ih _ _ h
set_option maxHeartbeats 4000000 in
set_option maxRecDepth 100000 in
theorem cX4_shortens_ok (l : Launch) {G : Gl} {al : Nat → Nat} {mk : Nat} {M : Mem} {v1 : Int32} {v2 : Int32} {Q : Int32 → Mem → Prop} (h : wpX4_shortens M v1 v2 Q) : Kv l yX4_shortens cX4_shortens 6 (some .int) rm_X4_shortens G al mk M [.ref (al 200), .int v1, .int v2] (QI G al mk Q) := by
  refine a_head (by decide) (Nat.le_of_ble_eq_true rfl) (fun p e s m below meth c X => ?_)
  have X : Cx p s m meth c G RX4 cX4_shortens 6 (some .int) := X
  unfold wpX4_shortens at h
  refine a_sub (ks := [0, 1, 2]) (lo' := [(0, .ref (al 200)), (1, .int v1), (2, .int v2)]) rfl ?_
  refine a_aload_n X dX4_shortens_0 rfl 0 rfl ?_
  refine a_getR (k := 22) X 23 (b := 223) fw4 iz_200 rfl rfl flX4_40 rfl dX4_shortens_1 ?_
  refine a_iload_n X dX4_shortens_4 rfl 1 rfl ?_
  refine a_iald X iz_223 h.1 dX4_shortens_5 ?_
  have h := h.2
  refine a_topi (fun x_1 ex_1 => ?_)
  have h := h x_1 ex_1
  refine a_istore_n (lo' := [(3, .int x_1), (0, .ref (al 200)), (1, .int v1), (2, .int v2)]) X dX4_shortens_6 rfl (by decide) rfl ?_
  refine a_iload_n X dX4_shortens_7 rfl 0 rfl ?_
  refine a_iconst (v := 2) X dX4_shortens_8 ic_2 ?_
  refine a_isub X dX4_shortens_9 ?_
  refine a_topi (fun x_2 ex_2 => ?_)
  have h := h x_2 ex_2
  refine a_istore (lo' := [(4, .int x_2), (3, .int x_1), (0, .ref (al 200)), (1, .int v1), (2, .int v2)]) X dX4_shortens_10 (by decide) rfl ?_
  refine a_sub (ks := [2, 3, 4, 1, 0]) (lo' := [(0, .ref (al 200)), (1, .int v1), (2, .int v2), (3, .int x_1), (4, .int x_2)]) rfl ?_
  obtain ⟨n9, h⟩ := h
  exact tX4_shortens_12 X n9 _ _ h
abbrev rm_X4_compresses : Room := { frames := 5, cells := 0, slots := 0, locals := 117 }
def wpX4_compresses (M : Mem) (v1 : Int32) (Q : Int32 → Mem → Prop) : Prop := (vp_in v1 4 ∧ (vp_in v1 4 ∧ ∀ M_1 : Mem, M_1 = pI M 227 (Int32.toNatClampNeg v1) ((gI M 227 (Int32.toNatClampNeg v1)) + 1) → (vp_in v1 4 ∧ ∀ M_2 : Mem, M_2 = pI M_1 226 (Int32.toNatClampNeg v1) 0 → wpX4_boundOf M_2 v1 (fun r_4 M_3 => wpX4_shortens M_3 v1 r_4 (fun r_6 M_5 => Q r_6 M_5)))))
set_option maxHeartbeats 4000000 in
set_option maxRecDepth 100000 in
theorem cX4_compresses_ok (l : Launch) {G : Gl} {al : Nat → Nat} {mk : Nat} {M : Mem} {v1 : Int32} {Q : Int32 → Mem → Prop} (h : wpX4_compresses M v1 Q) : Kv l yX4_compresses cX4_compresses 2 (some .int) rm_X4_compresses G al mk M [.ref (al 200), .int v1] (QI G al mk Q) := by
  refine a_head (by decide) (Nat.le_of_ble_eq_true rfl) (fun p e s m below meth c X => ?_)
  have X : Cx p s m meth c G RX4 cX4_compresses 2 (some .int) := X
  unfold wpX4_compresses at h
  refine a_sub (ks := [0, 1]) (lo' := [(0, .ref (al 200)), (1, .int v1)]) rfl ?_
  refine a_aload_n X dX4_compresses_0 rfl 0 rfl ?_
  refine a_getR (k := 26) X 27 (b := 227) fw4 iz_200 rfl rfl flX4_52 rfl dX4_compresses_1 ?_
  refine a_iload_n X dX4_compresses_4 rfl 1 rfl ?_
  refine a_dup2 X dX4_compresses_5 rfl rfl ?_
  refine a_iald X iz_227 h.1 dX4_compresses_6 ?_
  have h := h.2
  refine a_iconst (v := 1) X dX4_compresses_7 ic_1 ?_
  refine a_iadd X dX4_compresses_8 ?_
  refine a_iast X iz_227 h.1 dX4_compresses_9 (fun M_1 eM_1 => ?_)
  have h := h.2 M_1 eM_1
  refine a_aload_n X dX4_compresses_10 rfl 0 rfl ?_
  refine a_getR (k := 25) X 26 (b := 226) fw4 iz_200 rfl rfl flX4_49 rfl dX4_compresses_11 ?_
  refine a_iload_n X dX4_compresses_14 rfl 1 rfl ?_
  refine a_iconst (v := 0) X dX4_compresses_15 ic_0 ?_
  refine a_iast X iz_226 h.1 dX4_compresses_16 (fun M_2 eM_2 => ?_)
  have h := h.2 M_2 eM_2
  refine a_aload_n X dX4_compresses_17 rfl 0 rfl ?_
  refine a_iload_n X dX4_compresses_18 rfl 1 rfl ?_
  refine a_aload_n X dX4_compresses_19 rfl 0 rfl ?_
  refine a_iload_n X dX4_compresses_20 rfl 1 rfl ?_
  refine a_cVi (As := [.int v1]) (st := [.int v1, .ref (al 200)]) X fw4 iz_200 (cX4_boundOf_ok l h) mlX4_237 mvX4_boundOf (rz rfl) (Nat.le_of_ble_eq_true rfl) rfl dX4_compresses_21 (fun r_4 M_3 h => ?_)
  refine a_cVi (As := [.int v1, .int r_4]) (st := []) X fw4 iz_200 (cX4_shortens_ok l h) mlX4_240 mvX4_shortens (rz rfl) (Nat.le_of_ble_eq_true rfl) rfl dX4_compresses_24 (fun r_6 M_5 h => ?_)
  exact a_iret X h dX4_compresses_27
abbrev rm_X4_pushes : Room := { frames := 6, cells := 0, slots := 0, locals := 138 }
def wpX4_pushes (M : Mem) (v1 : Int32) (v2 : Int32) (Q : Mem → Prop) : Prop := wpX4_place M v1 v2 (fun r_2 M_1 => wpX4_spreadAt M_1 v1 r_2 (fun r_4 M_3 => wpX4_shifts M_3 v1 r_2 1 (fun M_5 => wpX4_lays M_5 v1 r_2 v2 1 r_4 (fun M_6 => (vp_in v1 6 ∧ (vp_in v1 6 ∧ ∀ M_7 : Mem, M_7 = pI M_6 224 (Int32.toNatClampNeg v1) ((gI M_6 224 (Int32.toNatClampNeg v1)) + 1) → (vp_in ((1000 * v1) + v2) 4000 ∧ (vp_in ((1000 * v1) + v2) 4000 ∧ ∀ M_8 : Mem, M_8 = pI M_7 228 (Int32.toNatClampNeg ((1000 * v1) + v2)) ((gI M_7 228 (Int32.toNatClampNeg ((1000 * v1) + v2))) + 1) → (vp_in v1 4 ∧ (vp_in v1 4 ∧ ∀ M_9 : Mem, M_9 = pI M_8 226 (Int32.toNatClampNeg v1) ((gI M_8 226 (Int32.toNatClampNeg v1)) + 1) → (vp_in v1 4 ∧ (vp_in v1 4 ∧ (((gI M_9 226 (Int32.toNatClampNeg v1)) < (gI M_9 225 (Int32.toNatClampNeg v1)) → Q M_9) ∧ (¬ (gI M_9 226 (Int32.toNatClampNeg v1)) < (gI M_9 225 (Int32.toNatClampNeg v1)) → wpX4_compresses M_9 v1 (fun r_11 M_10 => Q M_10)))))))))))))))
set_option maxHeartbeats 4000000 in
set_option maxRecDepth 100000 in
theorem cX4_pushes_ok (l : Launch) {G : Gl} {al : Nat → Nat} {mk : Nat} {M : Mem} {v1 : Int32} {v2 : Int32} {Q : Mem → Prop} (h : wpX4_pushes M v1 v2 Q) : Kv l yX4_pushes cX4_pushes 5 none rm_X4_pushes G al mk M [.ref (al 200), .int v1, .int v2] (QV G al mk Q) := by
  refine a_head (by decide) (Nat.le_of_ble_eq_true rfl) (fun p e s m below meth c X => ?_)
  have X : Cx p s m meth c G RX4 cX4_pushes 5 none := X
  unfold wpX4_pushes at h
  refine a_sub (ks := [0, 1, 2]) (lo' := [(0, .ref (al 200)), (1, .int v1), (2, .int v2)]) rfl ?_
  refine a_aload_n X dX4_pushes_0 rfl 0 rfl ?_
  refine a_iload_n X dX4_pushes_1 rfl 1 rfl ?_
  refine a_iload_n X dX4_pushes_2 rfl 2 rfl ?_
  refine a_cVi (As := [.int v1, .int v2]) (st := []) X fw4 iz_200 (cX4_place_ok l h) mlX4_205 mvX4_place (rz rfl) (Nat.le_of_ble_eq_true rfl) rfl dX4_pushes_3 (fun r_2 M_1 h => ?_)
  refine a_istore_n (lo' := [(3, .int r_2), (0, .ref (al 200)), (1, .int v1), (2, .int v2)]) X dX4_pushes_6 rfl (by decide) rfl ?_
  refine a_aload_n X dX4_pushes_7 rfl 1 rfl ?_
  refine a_iload_n X dX4_pushes_8 rfl 2 rfl ?_
  refine a_iload_n X dX4_pushes_9 rfl 0 rfl ?_
  refine a_cVi (As := [.int v1, .int r_2]) (st := []) X fw4 iz_200 (cX4_spreadAt_ok l h) mlX4_208 mvX4_spreadAt (rz rfl) (Nat.le_of_ble_eq_true rfl) rfl dX4_pushes_10 (fun r_4 M_3 h => ?_)
  refine a_istore (lo' := [(4, .int r_4), (3, .int r_2), (0, .ref (al 200)), (1, .int v1), (2, .int v2)]) X dX4_pushes_13 (by decide) rfl ?_
  refine a_aload_n X dX4_pushes_15 rfl 2 rfl ?_
  refine a_iload_n X dX4_pushes_16 rfl 3 rfl ?_
  refine a_iload_n X dX4_pushes_17 rfl 1 rfl ?_
  refine a_iconst (v := 1) X dX4_pushes_18 ic_1 ?_
  refine a_cVv (As := [.int v1, .int r_2, .int 1]) (st := []) X fw4 iz_200 (cX4_shifts_ok l h) mlX4_211 mvX4_shifts (rz rfl) (Nat.le_of_ble_eq_true rfl) rfl dX4_pushes_19 (fun M_5 h => ?_)
  refine a_aload_n X dX4_pushes_22 rfl 2 rfl ?_
  refine a_iload_n X dX4_pushes_23 rfl 3 rfl ?_
  refine a_iload_n X dX4_pushes_24 rfl 1 rfl ?_
  refine a_iload_n X dX4_pushes_25 rfl 4 rfl ?_
  refine a_iconst (v := 1) X dX4_pushes_26 ic_1 ?_
  refine a_iload X dX4_pushes_27 0 rfl ?_
  refine a_cVv (As := [.int v1, .int r_2, .int v2, .int 1, .int r_4]) (st := []) X fw4 iz_200 (cX4_lays_ok l h) mlX4_214 mvX4_lays (rz rfl) (Nat.le_of_ble_eq_true rfl) rfl dX4_pushes_29 (fun M_6 h => ?_)
  refine a_aload_n X dX4_pushes_32 rfl 2 rfl ?_
  refine a_getR (k := 23) X 24 (b := 224) fw4 iz_200 rfl rfl flX4_43 rfl dX4_pushes_33 ?_
  refine a_iload_n X dX4_pushes_36 rfl 3 rfl ?_
  refine a_dup2 X dX4_pushes_37 rfl rfl ?_
  refine a_iald X iz_224 h.1 dX4_pushes_38 ?_
  have h := h.2
  refine a_iconst (v := 1) X dX4_pushes_39 ic_1 ?_
  refine a_iadd X dX4_pushes_40 ?_
  refine a_iast X iz_224 h.1 dX4_pushes_41 (fun M_7 eM_7 => ?_)
  have h := h.2 M_7 eM_7
  refine a_aload_n X dX4_pushes_42 rfl 2 rfl ?_
  refine a_getR (k := 27) X 28 (b := 228) fw4 iz_200 rfl rfl flX4_55 rfl dX4_pushes_43 ?_
  refine a_sipush (v := 1000) X dX4_pushes_46 sc_1000 ?_
  refine a_iload_n X dX4_pushes_49 rfl 3 rfl ?_
  refine a_imul X dX4_pushes_50 ?_
  refine a_iload_n X dX4_pushes_51 rfl 4 rfl ?_
  refine a_iadd X dX4_pushes_52 ?_
  refine a_dup2 X dX4_pushes_53 rfl rfl ?_
  refine a_iald X iz_228 h.1 dX4_pushes_54 ?_
  have h := h.2
  refine a_iconst (v := 1) X dX4_pushes_55 ic_1 ?_
  refine a_iadd X dX4_pushes_56 ?_
  refine a_iast X iz_228 h.1 dX4_pushes_57 (fun M_8 eM_8 => ?_)
  have h := h.2 M_8 eM_8
  refine a_aload_n X dX4_pushes_58 rfl 2 rfl ?_
  refine a_getR (k := 25) X 26 (b := 226) fw4 iz_200 rfl rfl flX4_49 rfl dX4_pushes_59 ?_
  refine a_iload_n X dX4_pushes_62 rfl 3 rfl ?_
  refine a_dup2 X dX4_pushes_63 rfl rfl ?_
  refine a_iald X iz_226 h.1 dX4_pushes_64 ?_
  have h := h.2
  refine a_iconst (v := 1) X dX4_pushes_65 ic_1 ?_
  refine a_iadd X dX4_pushes_66 ?_
  refine a_iast X iz_226 h.1 dX4_pushes_67 (fun M_9 eM_9 => ?_)
  have h := h.2 M_9 eM_9
  refine a_aload_n X dX4_pushes_68 rfl 2 rfl ?_
  refine a_getR (k := 25) X 26 (b := 226) fw4 iz_200 rfl rfl flX4_49 rfl dX4_pushes_69 ?_
  refine a_iload_n X dX4_pushes_72 rfl 3 rfl ?_
  refine a_iald X iz_226 h.1 dX4_pushes_73 ?_
  have h := h.2
  refine a_aload_n X dX4_pushes_74 rfl 2 rfl ?_
  refine a_getR (k := 24) X 25 (b := 225) fw4 iz_200 rfl rfl flX4_46 rfl dX4_pushes_75 ?_
  refine a_iload_n X dX4_pushes_78 rfl 3 rfl ?_
  refine a_iald X iz_225 h.1 dX4_pushes_79 ?_
  have h := h.2
  refine a_icmp_lt (tgt := 89) X dX4_pushes_80 (by decide) (fun z => ?_) (fun z => ?_)
  · have h := h.1 z
    exact a_vret X h dX4_pushes_89
  · have h := h.2 z
    refine a_aload_n X dX4_pushes_83 rfl 2 rfl ?_
    refine a_iload_n X dX4_pushes_84 rfl 3 rfl ?_
    refine a_cVi (As := [.int v1]) (st := []) X fw4 iz_200 (cX4_compresses_ok l h) mlX4_218 mvX4_compresses (rz rfl) (Nat.le_of_ble_eq_true rfl) rfl dX4_pushes_85 (fun r_11 M_10 h => ?_)
    refine a_pop X dX4_pushes_88 rfl ?_
    exact a_vret X h dX4_pushes_89
abbrev rm_X4_ranks : Room := { frames := 11, cells := 0, slots := 0, locals := 291 }
def wX4_ranks_127 (Q : Int32 → Mem → Prop) : Nat → Mem → Int32 → Prop
  | 0, _, _ => False
  | n + 1, M, v2 => (((gI M 200 18) ≤ v2 → wpX4_good M (gI M 200 29) (fun r_12 M_11 => Q r_12 M_11)) ∧ (¬ (gI M 200 18) ≤ v2 → (vp_in v2 400 ∧ (vp_in v2 400 ∧ wpX4_pushes M (gI M 215 (Int32.toNatClampNeg v2)) (gI M 216 (Int32.toNatClampNeg v2)) (fun M_13 => wX4_ranks_127 Q n M_13 (v2 + 1))))))
def wX4_ranks_87 (Q : Int32 → Mem → Prop) : Nat → Mem → Int32 → Prop
  | 0, _, _ => False
  | n + 1, M, v2 => (((gI M 200 29) ≤ v2 → ∃ n, wX4_ranks_127 Q n M 0) ∧ (¬ (gI M 200 29) ≤ v2 → (vp_in v2 4 ∧ (vp_in v2 4 ∧ ∀ M_14 : Mem, M_14 = pI M 225 (Int32.toNatClampNeg v2) (gI M 214 (Int32.toNatClampNeg v2)) → (vp_in v2 4 ∧ ∀ M_15 : Mem, M_15 = pI M_14 227 (Int32.toNatClampNeg v2) 0 → wpX4_empties M_15 v2 (fun M_16 => wX4_ranks_87 Q n M_16 (v2 + 1)))))))
def wpX4_ranks (M : Mem) (v1 : Int32) (Q : Int32 → Mem → Prop) : Prop := (∀ M_1 : Mem, M_1 = pI M 200 0 0 → ((v1 < 0 → wpX4_refused M_1 2 (fun r_3 M_2 => Q r_3 M_2)) ∧ (¬ v1 < 0 → ((v1 ≤ (gI M_1 200 4) → (∀ M_4 : Mem, M_4 = pI M_1 200 5 v1 → (∀ M_5 : Mem, M_5 = pI M_4 200 4 0 → (∀ M_6 : Mem, M_6 = pI M_5 200 6 0 → (∀ M_7 : Mem, M_7 = pI M_6 200 10 0 → wpX4_readAll M_7 (fun M_8 => (((gI M_8 200 10) ≤ 0 → (∀ M_9 : Mem, M_9 = pI M_8 200 28 (gI M_8 200 16) → (∀ M_10 : Mem, M_10 = pI M_9 200 29 (gI M_9 200 17) → ∃ n, wX4_ranks_87 Q n M_10 0))) ∧ (¬ (gI M_8 200 10) ≤ 0 → (∀ M_17 : Mem, M_17 = pI M_8 200 1 4 → (∀ M_18 : Mem, M_18 = pI M_17 200 2 (gI M_17 200 8) → Q (-1) M_18)))))))))) ∧ (¬ v1 ≤ (gI M_1 200 4) → wpX4_refused M_1 2 (fun r_20 M_19 => Q r_20 M_19))))))
set_option maxHeartbeats 4000000 in
set_option maxRecDepth 100000 in
theorem tX4_ranks_127 (X : Cx p s m meth c G RX4 cX4_ranks 3 (some .int)) {Q : Int32 → Mem → Prop} : ∀ (n : Nat) (M : Mem) (v2 : Int32), wX4_ranks_127 Q n M v2 → Wa p l e rm_X4_ranks s m args below meth c 3 G al mk 0 0 (MQ below (QI G al mk Q) args s 0 0 (gA G)) M 127 [(0, .ref (al 200)), (2, .int v2)] [] := by
  intro n
  induction n with
  | zero =>
    intro M v2 h
    exact False.elim h
  | succ n ih =>
    intro M v2 h
    rw [wX4_ranks_127] at h
    refine a_iload_n X dX4_ranks_127 rfl 1 rfl ?_
    refine a_aload_n X dX4_ranks_128 rfl 0 rfl ?_
    refine a_getI (k := 18) X fw4 iz_200 rfl flX4_141 rfl dX4_ranks_129 ?_
    refine a_icmp_ge (tgt := 157) X dX4_ranks_132 (by decide) (fun z => ?_) (fun z => ?_)
    · have h := h.1 z
      refine a_aload_n X dX4_ranks_157 rfl 0 rfl ?_
      refine a_aload_n X dX4_ranks_158 rfl 0 rfl ?_
      refine a_getI (k := 29) X fw4 iz_200 rfl flX4_187 rfl dX4_ranks_159 ?_
      refine a_cVi (As := [.int (gI M 200 29)]) (st := []) X fw4 iz_200 (cX4_good_ok l h) mlX4_195 mvX4_good (rz rfl) (Nat.le_of_ble_eq_true rfl) rfl dX4_ranks_162 (fun r_12 M_11 h => ?_)
      exact a_iret X h dX4_ranks_165
    · have h := h.2 z
      refine a_aload_n X dX4_ranks_135 rfl 0 rfl ?_
      refine a_aload_n X dX4_ranks_136 rfl 0 rfl ?_
      refine a_getR (k := 14) X 15 (b := 215) fw4 iz_200 rfl rfl flX4_25 rfl dX4_ranks_137 ?_
      refine a_iload_n X dX4_ranks_140 rfl 1 rfl ?_
      refine a_iald X iz_215 h.1 dX4_ranks_141 ?_
      have h := h.2
      refine a_aload_n X dX4_ranks_142 rfl 0 rfl ?_
      refine a_getR (k := 15) X 16 (b := 216) fw4 iz_200 rfl rfl flX4_28 rfl dX4_ranks_143 ?_
      refine a_iload_n X dX4_ranks_146 rfl 1 rfl ?_
      refine a_iald X iz_216 h.1 dX4_ranks_147 ?_
      have h := h.2
      refine a_cVv (As := [.int (gI M 215 (Int32.toNatClampNeg v2)), .int (gI M 216 (Int32.toNatClampNeg v2))]) (st := []) X fw4 iz_200 (cX4_pushes_ok l h) mlX4_193 mvX4_pushes (rz rfl) (Nat.le_of_ble_eq_true rfl) rfl dX4_ranks_148 (fun M_13 h => ?_)
      refine a_iinc (v := v2 + 1) (lo' := [(2, .int (v2 + 1)), (0, .ref (al 200))]) X dX4_ranks_151 1 rfl (ii_1 _) (by decide) rfl ?_
      refine a_goto (tgt := 127) X dX4_ranks_154 (by decide) ?_
      refine a_sub (ks := [1, 0]) (lo' := [(0, .ref (al 200)), (2, .int (v2 + 1))]) rfl ?_
      exact ih _ _ h
set_option maxHeartbeats 4000000 in
set_option maxRecDepth 100000 in
theorem tX4_ranks_87 (X : Cx p s m meth c G RX4 cX4_ranks 3 (some .int)) {Q : Int32 → Mem → Prop} : ∀ (n : Nat) (M : Mem) (v2 : Int32), wX4_ranks_87 Q n M v2 → Wa p l e rm_X4_ranks s m args below meth c 3 G al mk 0 0 (MQ below (QI G al mk Q) args s 0 0 (gA G)) M 87 [(0, .ref (al 200)), (2, .int v2)] [] := by
  intro n
  induction n with
  | zero =>
    intro M v2 h
    exact False.elim h
  | succ n ih =>
    intro M v2 h
    rw [wX4_ranks_87] at h
    refine a_iload_n X dX4_ranks_87 rfl 1 rfl ?_
    refine a_aload_n X dX4_ranks_88 rfl 0 rfl ?_
    refine a_getI (k := 29) X fw4 iz_200 rfl flX4_187 rfl dX4_ranks_89 ?_
    refine a_icmp_ge (tgt := 125) X dX4_ranks_92 (by decide) (fun z => ?_) (fun z => ?_)
    · have h := h.1 z
      refine a_iconst (v := 0) X dX4_ranks_125 ic_0 ?_
      refine a_istore_n (lo' := [(2, .int 0), (0, .ref (al 200))]) X dX4_ranks_126 rfl (by decide) rfl ?_
      refine a_sub (ks := [1, 0]) (lo' := [(0, .ref (al 200)), (2, .int 0)]) rfl ?_
      obtain ⟨n9, h⟩ := h
      exact tX4_ranks_127 X n9 _ _ h
    · have h := h.2 z
      refine a_aload_n X dX4_ranks_95 rfl 0 rfl ?_
      refine a_getR (k := 24) X 25 (b := 225) fw4 iz_200 rfl rfl flX4_46 rfl dX4_ranks_96 ?_
      refine a_iload_n X dX4_ranks_99 rfl 1 rfl ?_
      refine a_aload_n X dX4_ranks_100 rfl 0 rfl ?_
      refine a_getR (k := 13) X 14 (b := 214) fw4 iz_200 rfl rfl flX4_21 rfl dX4_ranks_101 ?_
      refine a_iload_n X dX4_ranks_104 rfl 1 rfl ?_
      refine a_iald X iz_214 h.1 dX4_ranks_105 ?_
      have h := h.2
      refine a_iast X iz_225 h.1 dX4_ranks_106 (fun M_14 eM_14 => ?_)
      have h := h.2 M_14 eM_14
      refine a_aload_n X dX4_ranks_107 rfl 0 rfl ?_
      refine a_getR (k := 26) X 27 (b := 227) fw4 iz_200 rfl rfl flX4_52 rfl dX4_ranks_108 ?_
      refine a_iload_n X dX4_ranks_111 rfl 1 rfl ?_
      refine a_iconst (v := 0) X dX4_ranks_112 ic_0 ?_
      refine a_iast X iz_227 h.1 dX4_ranks_113 (fun M_15 eM_15 => ?_)
      have h := h.2 M_15 eM_15
      refine a_aload_n X dX4_ranks_114 rfl 0 rfl ?_
      refine a_iload_n X dX4_ranks_115 rfl 1 rfl ?_
      refine a_cVv (As := [.int v2]) (st := []) X fw4 iz_200 (cX4_empties_ok l h) mlX4_190 mvX4_empties (rz rfl) (Nat.le_of_ble_eq_true rfl) rfl dX4_ranks_116 (fun M_16 h => ?_)
      refine a_iinc (v := v2 + 1) (lo' := [(2, .int (v2 + 1)), (0, .ref (al 200))]) X dX4_ranks_119 1 rfl (ii_1 _) (by decide) rfl ?_
      refine a_goto (tgt := 87) X dX4_ranks_122 (by decide) ?_
      refine a_sub (ks := [1, 0]) (lo' := [(0, .ref (al 200)), (2, .int (v2 + 1))]) rfl ?_
      exact ih _ _ h
set_option maxHeartbeats 4000000 in
set_option maxRecDepth 100000 in
theorem cX4_ranks_ok (l : Launch) {G : Gl} {al : Nat → Nat} {mk : Nat} {M : Mem} {v1 : Int32} {Q : Int32 → Mem → Prop} (h : wpX4_ranks M v1 Q) : Kv l yX4_ranks cX4_ranks 3 (some .int) rm_X4_ranks G al mk M [.ref (al 200), .int v1] (QI G al mk Q) := by
  refine a_head (by decide) (Nat.le_of_ble_eq_true rfl) (fun p e s m below meth c X => ?_)
  have X : Cx p s m meth c G RX4 cX4_ranks 3 (some .int) := X
  unfold wpX4_ranks at h
  refine a_sub (ks := [0, 1]) (lo' := [(0, .ref (al 200)), (1, .int v1)]) rfl ?_
  refine a_aload_n X dX4_ranks_0 rfl 0 rfl ?_
  refine a_iconst (v := 0) X dX4_ranks_1 ic_0 ?_
  refine a_putI (k := 0) X fw4 iz_200 rfl flX4_61 rfl rfl dX4_ranks_2 (fun M_1 eM_1 => ?_)
  have h := h M_1 eM_1
  refine a_iload_n X dX4_ranks_5 rfl 1 rfl ?_
  refine a_if_lt (tgt := 17) X dX4_ranks_6 (by decide) (fun z => ?_) (fun z => ?_)
  · have h := h.1 z
    refine a_aload_n X dX4_ranks_17 rfl 0 rfl ?_
    refine a_iconst (v := 2) X dX4_ranks_18 ic_2 ?_
    refine a_cVi (As := [.int 2]) (st := []) X fw4 iz_200 (cX4_refused_ok l h) mlX4_179 mvX4_refused (rz rfl) (Nat.le_of_ble_eq_true rfl) rfl dX4_ranks_19 (fun r_3 M_2 h => ?_)
    exact a_iret X h dX4_ranks_22
  · have h := h.2 z
    refine a_iload_n X dX4_ranks_9 rfl 1 rfl ?_
    refine a_aload_n X dX4_ranks_10 rfl 0 rfl ?_
    refine a_getI (k := 4) X fw4 iz_200 rfl flX4_132 rfl dX4_ranks_11 ?_
    refine a_icmp_le (tgt := 23) X dX4_ranks_14 (by decide) (fun z => ?_) (fun z => ?_)
    · have h := h.1 z
      refine a_aload_n X dX4_ranks_23 rfl 0 rfl ?_
      refine a_iload_n X dX4_ranks_24 rfl 1 rfl ?_
      refine a_putI (k := 5) X fw4 iz_200 rfl flX4_67 rfl rfl dX4_ranks_25 (fun M_4 eM_4 => ?_)
      have h := h M_4 eM_4
      refine a_aload_n X dX4_ranks_28 rfl 0 rfl ?_
      refine a_iconst (v := 0) X dX4_ranks_29 ic_0 ?_
      refine a_putI (k := 4) X fw4 iz_200 rfl flX4_132 rfl rfl dX4_ranks_30 (fun M_5 eM_5 => ?_)
      have h := h M_5 eM_5
      refine a_aload_n X dX4_ranks_33 rfl 0 rfl ?_
      refine a_iconst (v := 0) X dX4_ranks_34 ic_0 ?_
      refine a_putI (k := 6) X fw4 iz_200 rfl flX4_73 rfl rfl dX4_ranks_35 (fun M_6 eM_6 => ?_)
      have h := h M_6 eM_6
      refine a_aload_n X dX4_ranks_38 rfl 0 rfl ?_
      refine a_iconst (v := 0) X dX4_ranks_39 ic_0 ?_
      refine a_putI (k := 10) X fw4 iz_200 rfl flX4_70 rfl rfl dX4_ranks_40 (fun M_7 eM_7 => ?_)
      have h := h M_7 eM_7
      refine a_aload_n X dX4_ranks_43 rfl 0 rfl ?_
      refine a_cVv (As := []) (st := []) X fw4 iz_200 (cX4_readAll_ok l h) mlX4_182 mvX4_readAll (rz rfl) (Nat.le_of_ble_eq_true rfl) rfl dX4_ranks_44 (fun M_8 h => ?_)
      refine a_aload_n X dX4_ranks_47 rfl 0 rfl ?_
      refine a_getI (k := 10) X fw4 iz_200 rfl flX4_70 rfl dX4_ranks_48 ?_
      refine a_if_le (tgt := 69) X dX4_ranks_51 (by decide) (fun z => ?_) (fun z => ?_)
      · have h := h.1 z
        refine a_aload_n X dX4_ranks_69 rfl 0 rfl ?_
        refine a_aload_n X dX4_ranks_70 rfl 0 rfl ?_
        refine a_getI (k := 16) X fw4 iz_200 rfl flX4_135 rfl dX4_ranks_71 ?_
        refine a_putI (k := 28) X fw4 iz_200 rfl flX4_185 rfl rfl dX4_ranks_74 (fun M_9 eM_9 => ?_)
        have h := h M_9 eM_9
        refine a_aload_n X dX4_ranks_77 rfl 0 rfl ?_
        refine a_aload_n X dX4_ranks_78 rfl 0 rfl ?_
        refine a_getI (k := 17) X fw4 iz_200 rfl flX4_138 rfl dX4_ranks_79 ?_
        refine a_putI (k := 29) X fw4 iz_200 rfl flX4_187 rfl rfl dX4_ranks_82 (fun M_10 eM_10 => ?_)
        have h := h M_10 eM_10
        refine a_iconst (v := 0) X dX4_ranks_85 ic_0 ?_
        refine a_istore_n (lo' := [(2, .int 0), (0, .ref (al 200)), (1, .int v1)]) X dX4_ranks_86 rfl (by decide) rfl ?_
        refine a_sub (ks := [1, 0]) (lo' := [(0, .ref (al 200)), (2, .int 0)]) rfl ?_
        obtain ⟨n9, h⟩ := h
        exact tX4_ranks_87 X n9 _ _ h
      · have h := h.2 z
        refine a_aload_n X dX4_ranks_54 rfl 0 rfl ?_
        refine a_iconst (v := 4) X dX4_ranks_55 ic_4 ?_
        refine a_putI (k := 1) X fw4 iz_200 rfl flX4_64 rfl rfl dX4_ranks_56 (fun M_17 eM_17 => ?_)
        have h := h M_17 eM_17
        refine a_aload_n X dX4_ranks_59 rfl 0 rfl ?_
        refine a_aload_n X dX4_ranks_60 rfl 0 rfl ?_
        refine a_getI (k := 8) X fw4 iz_200 rfl flX4_80 rfl dX4_ranks_61 ?_
        refine a_putI (k := 2) X fw4 iz_200 rfl flX4_9 rfl rfl dX4_ranks_64 (fun M_18 eM_18 => ?_)
        have h := h M_18 eM_18
        refine a_iconst (v := (-1)) X dX4_ranks_67 ic_m1 ?_
        exact a_iret X h dX4_ranks_68
    · have h := h.2 z
      refine a_aload_n X dX4_ranks_17 rfl 0 rfl ?_
      refine a_iconst (v := 2) X dX4_ranks_18 ic_2 ?_
      refine a_cVi (As := [.int 2]) (st := []) X fw4 iz_200 (cX4_refused_ok l h) mlX4_179 mvX4_refused (rz rfl) (Nat.le_of_ble_eq_true rfl) rfl dX4_ranks_19 (fun r_20 M_19 h => ?_)
      exact a_iret X h dX4_ranks_22
abbrev rm_X4_fault : Room := { frames := 0, cells := 0, slots := 0, locals := 0 }
def wpX4_fault (M : Mem) (Q : Int32 → Mem → Prop) : Prop := (∀ M_1 : Mem, M_1 = pI M 200 0 0 → Q (gI M_1 200 10) M_1)
set_option maxHeartbeats 4000000 in
set_option maxRecDepth 100000 in
theorem cX4_fault_ok (l : Launch) {G : Gl} {al : Nat → Nat} {mk : Nat} {M : Mem} {Q : Int32 → Mem → Prop} (h : wpX4_fault M Q) : Kv l yX4_fault cX4_fault 1 (some .int) rm_X4_fault G al mk M [.ref (al 200)] (QI G al mk Q) := by
  refine a_head (by decide) (Nat.le_of_ble_eq_true rfl) (fun p e s m below meth c X => ?_)
  have X : Cx p s m meth c G RX4 cX4_fault 1 (some .int) := X
  unfold wpX4_fault at h
  refine a_sub (ks := [0]) (lo' := [(0, .ref (al 200))]) rfl ?_
  refine a_aload_n X dX4_fault_0 rfl 0 rfl ?_
  refine a_iconst (v := 0) X dX4_fault_1 ic_0 ?_
  refine a_putI (k := 0) X fw4 iz_200 rfl flX4_61 rfl rfl dX4_fault_2 (fun M_1 eM_1 => ?_)
  have h := h M_1 eM_1
  refine a_aload_n X dX4_fault_5 rfl 0 rfl ?_
  refine a_getI (k := 10) X fw4 iz_200 rfl flX4_70 rfl dX4_fault_6 ?_
  exact a_iret X h dX4_fault_9
abbrev rm_X4_where : Room := { frames := 0, cells := 0, slots := 0, locals := 0 }
def wpX4_where (M : Mem) (Q : Int32 → Mem → Prop) : Prop := (∀ M_1 : Mem, M_1 = pI M 200 0 0 → Q (gI M_1 200 2) M_1)
set_option maxHeartbeats 4000000 in
set_option maxRecDepth 100000 in
theorem cX4_where_ok (l : Launch) {G : Gl} {al : Nat → Nat} {mk : Nat} {M : Mem} {Q : Int32 → Mem → Prop} (h : wpX4_where M Q) : Kv l yX4_where cX4_where 1 (some .int) rm_X4_where G al mk M [.ref (al 200)] (QI G al mk Q) := by
  refine a_head (by decide) (Nat.le_of_ble_eq_true rfl) (fun p e s m below meth c X => ?_)
  have X : Cx p s m meth c G RX4 cX4_where 1 (some .int) := X
  unfold wpX4_where at h
  refine a_sub (ks := [0]) (lo' := [(0, .ref (al 200))]) rfl ?_
  refine a_aload_n X dX4_where_0 rfl 0 rfl ?_
  refine a_iconst (v := 0) X dX4_where_1 ic_0 ?_
  refine a_putI (k := 0) X fw4 iz_200 rfl flX4_61 rfl rfl dX4_where_2 (fun M_1 eM_1 => ?_)
  have h := h M_1 eM_1
  refine a_aload_n X dX4_where_5 rfl 0 rfl ?_
  refine a_getI (k := 2) X fw4 iz_200 rfl flX4_9 rfl dX4_where_6 ?_
  exact a_iret X h dX4_where_9
abbrev rm_X4_copiesRow : Room := { frames := 1, cells := 0, slots := 0, locals := 25 }
def wX4_copiesRow_2 (Q : Mem → Prop) (v1 : Int32) (v2 : Int32) : Nat → Mem → Int32 → Prop
  | 0, _, _ => False
  | n + 1, M, v3 => (vp_in v1 6 ∧ (((gI M 223 (Int32.toNatClampNeg v1)) ≤ v3 → (vp_in v1 6 ∧ (vp_in v2 6 ∧ ∀ M_1 : Mem, M_1 = pI M 223 (Int32.toNatClampNeg v2) (gI M 223 (Int32.toNatClampNeg v1)) → (vp_in v1 6 ∧ (vp_in v2 6 ∧ ∀ M_2 : Mem, M_2 = pI M_1 224 (Int32.toNatClampNeg v2) (gI M_1 224 (Int32.toNatClampNeg v1)) → Q M_2))))) ∧ (¬ (gI M 223 (Int32.toNatClampNeg v1)) ≤ v3 → (vp_in ((1000 * v1) + v3) 6000 ∧ (vp_in ((1000 * v1) + v3) 6000 ∧ (vp_in ((1000 * v1) + v3) 6000 ∧ wpX4_lays M v2 v3 (gI M 220 (Int32.toNatClampNeg ((1000 * v1) + v3))) (gI M 221 (Int32.toNatClampNeg ((1000 * v1) + v3))) (gI M 222 (Int32.toNatClampNeg ((1000 * v1) + v3))) (fun M_3 => wX4_copiesRow_2 Q v1 v2 n M_3 (v3 + 1))))))))
def wpX4_copiesRow (M : Mem) (v1 : Int32) (v2 : Int32) (Q : Mem → Prop) : Prop := ∃ n, wX4_copiesRow_2 Q v1 v2 n M 0
set_option maxHeartbeats 4000000 in
set_option maxRecDepth 100000 in
theorem tX4_copiesRow_2 (X : Cx p s m meth c G RX4 cX4_copiesRow 4 none) {Q : Mem → Prop} {v1 : Int32} {v2 : Int32} : ∀ (n : Nat) (M : Mem) (v3 : Int32), wX4_copiesRow_2 Q v1 v2 n M v3 → Wa p l e rm_X4_copiesRow s m args below meth c 4 G al mk 0 0 (MQ below (QV G al mk Q) args s 0 0 (gA G)) M 2 [(0, .ref (al 200)), (1, .int v1), (2, .int v2), (3, .int v3)] [] := by
  intro n
  induction n with
  | zero =>
    intro M v3 h
    exact False.elim h
  | succ n ih =>
    intro M v3 h
    rw [wX4_copiesRow_2] at h
    refine a_iload_n X dX4_copiesRow_2 rfl 3 rfl ?_
    refine a_aload_n X dX4_copiesRow_3 rfl 0 rfl ?_
    refine a_getR (k := 22) X 23 (b := 223) fw4 iz_200 rfl rfl flX4_40 rfl dX4_copiesRow_4 ?_
    refine a_iload_n X dX4_copiesRow_7 rfl 1 rfl ?_
    refine a_iald X iz_223 h.1 dX4_copiesRow_8 ?_
    have h := h.2
    refine a_icmp_ge (tgt := 60) X dX4_copiesRow_9 (by decide) (fun z => ?_) (fun z => ?_)
    · have h := h.1 z
      refine a_aload_n X dX4_copiesRow_60 rfl 0 rfl ?_
      refine a_getR (k := 22) X 23 (b := 223) fw4 iz_200 rfl rfl flX4_40 rfl dX4_copiesRow_61 ?_
      refine a_iload_n X dX4_copiesRow_64 rfl 2 rfl ?_
      refine a_aload_n X dX4_copiesRow_65 rfl 0 rfl ?_
      refine a_getR (k := 22) X 23 (b := 223) fw4 iz_200 rfl rfl flX4_40 rfl dX4_copiesRow_66 ?_
      refine a_iload_n X dX4_copiesRow_69 rfl 1 rfl ?_
      refine a_iald X iz_223 h.1 dX4_copiesRow_70 ?_
      have h := h.2
      refine a_iast X iz_223 h.1 dX4_copiesRow_71 (fun M_1 eM_1 => ?_)
      have h := h.2 M_1 eM_1
      refine a_aload_n X dX4_copiesRow_72 rfl 0 rfl ?_
      refine a_getR (k := 23) X 24 (b := 224) fw4 iz_200 rfl rfl flX4_43 rfl dX4_copiesRow_73 ?_
      refine a_iload_n X dX4_copiesRow_76 rfl 2 rfl ?_
      refine a_aload_n X dX4_copiesRow_77 rfl 0 rfl ?_
      refine a_getR (k := 23) X 24 (b := 224) fw4 iz_200 rfl rfl flX4_43 rfl dX4_copiesRow_78 ?_
      refine a_iload_n X dX4_copiesRow_81 rfl 1 rfl ?_
      refine a_iald X iz_224 h.1 dX4_copiesRow_82 ?_
      have h := h.2
      refine a_iast X iz_224 h.1 dX4_copiesRow_83 (fun M_2 eM_2 => ?_)
      have h := h.2 M_2 eM_2
      exact a_vret X h dX4_copiesRow_84
    · have h := h.2 z
      refine a_aload_n X dX4_copiesRow_12 rfl 0 rfl ?_
      refine a_iload_n X dX4_copiesRow_13 rfl 2 rfl ?_
      refine a_iload_n X dX4_copiesRow_14 rfl 3 rfl ?_
      refine a_aload_n X dX4_copiesRow_15 rfl 0 rfl ?_
      refine a_getR (k := 19) X 20 (b := 220) fw4 iz_200 rfl rfl flX4_31 rfl dX4_copiesRow_16 ?_
      refine a_sipush (v := 1000) X dX4_copiesRow_19 sc_1000 ?_
      refine a_iload_n X dX4_copiesRow_22 rfl 1 rfl ?_
      refine a_imul X dX4_copiesRow_23 ?_
      refine a_iload_n X dX4_copiesRow_24 rfl 3 rfl ?_
      refine a_iadd X dX4_copiesRow_25 ?_
      refine a_iald X iz_220 h.1 dX4_copiesRow_26 ?_
      have h := h.2
      refine a_aload_n X dX4_copiesRow_27 rfl 0 rfl ?_
      refine a_getR (k := 20) X 21 (b := 221) fw4 iz_200 rfl rfl flX4_34 rfl dX4_copiesRow_28 ?_
      refine a_sipush (v := 1000) X dX4_copiesRow_31 sc_1000 ?_
      refine a_iload_n X dX4_copiesRow_34 rfl 1 rfl ?_
      refine a_imul X dX4_copiesRow_35 ?_
      refine a_iload_n X dX4_copiesRow_36 rfl 3 rfl ?_
      refine a_iadd X dX4_copiesRow_37 ?_
      refine a_iald X iz_221 h.1 dX4_copiesRow_38 ?_
      have h := h.2
      refine a_aload_n X dX4_copiesRow_39 rfl 0 rfl ?_
      refine a_getR (k := 21) X 22 (b := 222) fw4 iz_200 rfl rfl flX4_37 rfl dX4_copiesRow_40 ?_
      refine a_sipush (v := 1000) X dX4_copiesRow_43 sc_1000 ?_
      refine a_iload_n X dX4_copiesRow_46 rfl 1 rfl ?_
      refine a_imul X dX4_copiesRow_47 ?_
      refine a_iload_n X dX4_copiesRow_48 rfl 3 rfl ?_
      refine a_iadd X dX4_copiesRow_49 ?_
      refine a_iald X iz_222 h.1 dX4_copiesRow_50 ?_
      have h := h.2
      refine a_cVv (As := [.int v2, .int v3, .int (gI M 220 (Int32.toNatClampNeg ((1000 * v1) + v3))), .int (gI M 221 (Int32.toNatClampNeg ((1000 * v1) + v3))), .int (gI M 222 (Int32.toNatClampNeg ((1000 * v1) + v3)))]) (st := []) X fw4 iz_200 (cX4_lays_ok l h) mlX4_214 mvX4_lays (rz rfl) (Nat.le_of_ble_eq_true rfl) rfl dX4_copiesRow_51 (fun M_3 h => ?_)
      refine a_iinc (v := v3 + 1) (lo' := [(3, .int (v3 + 1)), (0, .ref (al 200)), (1, .int v1), (2, .int v2)]) X dX4_copiesRow_54 3 rfl (ii_1 _) (by decide) rfl ?_
      refine a_goto (tgt := 2) X dX4_copiesRow_57 (by decide) ?_
      refine a_sub (ks := [1, 2, 3, 0]) (lo' := [(0, .ref (al 200)), (1, .int v1), (2, .int v2), (3, .int (v3 + 1))]) rfl ?_
      exact ih _ _ h
set_option maxHeartbeats 4000000 in
set_option maxRecDepth 100000 in
theorem cX4_copiesRow_ok (l : Launch) {G : Gl} {al : Nat → Nat} {mk : Nat} {M : Mem} {v1 : Int32} {v2 : Int32} {Q : Mem → Prop} (h : wpX4_copiesRow M v1 v2 Q) : Kv l yX4_copiesRow cX4_copiesRow 4 none rm_X4_copiesRow G al mk M [.ref (al 200), .int v1, .int v2] (QV G al mk Q) := by
  refine a_head (by decide) (Nat.le_of_ble_eq_true rfl) (fun p e s m below meth c X => ?_)
  have X : Cx p s m meth c G RX4 cX4_copiesRow 4 none := X
  unfold wpX4_copiesRow at h
  refine a_sub (ks := [0, 1, 2]) (lo' := [(0, .ref (al 200)), (1, .int v1), (2, .int v2)]) rfl ?_
  refine a_iconst (v := 0) X dX4_copiesRow_0 ic_0 ?_
  refine a_istore_n (lo' := [(3, .int 0), (0, .ref (al 200)), (1, .int v1), (2, .int v2)]) X dX4_copiesRow_1 rfl (by decide) rfl ?_
  refine a_sub (ks := [1, 2, 3, 0]) (lo' := [(0, .ref (al 200)), (1, .int v1), (2, .int v2), (3, .int 0)]) rfl ?_
  obtain ⟨n9, h⟩ := h
  exact tX4_copiesRow_2 X n9 _ _ h
abbrev rm_X4_joins : Room := { frames := 5, cells := 0, slots := 0, locals := 117 }
def wX4_joins_230 (Q : Mem → Prop) (K9 : Mem → Int32 → Int32 → Int32 → Prop) (M : Mem) (v1 : Int32) (v2 : Int32) (v3 : Int32) (v4 : Int32) (v5 : Int32) (v6 : Int32) (v7 : Int32) (s0 : Int32) (s1 : Int32) (s2 : Int32) (s3 : Int32) (s4 : Int32) (s5 : Int32) : Prop := wpX4_lays M s5 s4 s3 s2 (s1 + s0) (fun M_8 => ((v7 = 0 → (∀ x_9 : Int32, x_9 = (v4 + 0) → ((v7 = 0 → (∀ x_10 : Int32, x_10 = (v5 + 1) → K9 M_8 x_9 x_10 (v6 + 1))) ∧ (¬ v7 = 0 → (∀ x_11 : Int32, x_11 = (v5 + 0) → K9 M_8 x_9 x_11 (v6 + 1)))))) ∧ (¬ v7 = 0 → (∀ x_12 : Int32, x_12 = (v4 + 1) → ((v7 = 0 → (∀ x_13 : Int32, x_13 = (v5 + 1) → K9 M_8 x_12 x_13 (v6 + 1))) ∧ (¬ v7 = 0 → (∀ x_14 : Int32, x_14 = (v5 + 0) → K9 M_8 x_12 x_14 (v6 + 1))))))))
def wX4_joins_177 (Q : Mem → Prop) (K9 : Mem → Int32 → Int32 → Int32 → Prop) (M : Mem) (v1 : Int32) (v2 : Int32) (v3 : Int32) (v4 : Int32) (v5 : Int32) (v6 : Int32) (v7 : Int32) (v8 : Int32) (v9 : Int32) (s0 : Int32) : Prop := (vp_in v8 6000 ∧ (vp_in v8 6000 ∧ (vp_in v8 6000 ∧ ((s0 = 0 → wX4_joins_230 Q K9 M v1 v2 v3 v4 v5 v6 v7 0 (gI M 222 (Int32.toNatClampNeg v8)) (gI M 221 (Int32.toNatClampNeg v8)) (gI M 220 (Int32.toNatClampNeg v8)) v6 v3) ∧ (¬ s0 = 0 → (vp_in v9 6000 ∧ (vp_in v9 6000 ∧ wX4_joins_230 Q K9 M v1 v2 v3 v4 v5 v6 v7 (((gI M 221 (Int32.toNatClampNeg v9)) + (gI M 222 (Int32.toNatClampNeg v9))) - 1) (gI M 222 (Int32.toNatClampNeg v8)) (gI M 221 (Int32.toNatClampNeg v8)) (gI M 220 (Int32.toNatClampNeg v8)) v6 v3)))))))
def wX4_joins_135 (Q : Mem → Prop) (K9 : Mem → Int32 → Int32 → Int32 → Prop) (M : Mem) (v1 : Int32) (v2 : Int32) (v3 : Int32) (v4 : Int32) (v5 : Int32) (v6 : Int32) (v7 : Int32) (v8 : Int32) (s0 : Int32) : Prop := ((v7 = 0 → (vp_in v1 6 ∧ (((gI M 223 (Int32.toNatClampNeg v1)) ≤ v4 → wX4_joins_177 Q K9 M v1 v2 v3 v4 v5 v6 v7 v8 s0 0) ∧ (¬ (gI M 223 (Int32.toNatClampNeg v1)) ≤ v4 → wX4_joins_177 Q K9 M v1 v2 v3 v4 v5 v6 v7 v8 s0 1)))) ∧ (¬ v7 = 0 → (vp_in v2 6 ∧ (((gI M 223 (Int32.toNatClampNeg v2)) ≤ v5 → wX4_joins_177 Q K9 M v1 v2 v3 v4 v5 v6 v7 v8 s0 0) ∧ (¬ (gI M 223 (Int32.toNatClampNeg v2)) ≤ v5 → wX4_joins_177 Q K9 M v1 v2 v3 v4 v5 v6 v7 v8 s0 1)))))
def wX4_joins_83 (Q : Mem → Prop) (K9 : Mem → Int32 → Int32 → Int32 → Prop) (M : Mem) (v1 : Int32) (v2 : Int32) (v3 : Int32) (v4 : Int32) (v5 : Int32) (v6 : Int32) (s0 : Int32) : Prop := ((s0 = 0 → (∀ x_7 : Int32, x_7 = ((1000 * v2) + v5) → ((s0 = 0 → wX4_joins_135 Q K9 M v1 v2 v3 v4 v5 v6 s0 x_7 ((1000 * v1) + v4)) ∧ (¬ s0 = 0 → wX4_joins_135 Q K9 M v1 v2 v3 v4 v5 v6 s0 x_7 ((1000 * v2) + v5))))) ∧ (¬ s0 = 0 → (∀ x_15 : Int32, x_15 = ((1000 * v1) + v4) → ((s0 = 0 → wX4_joins_135 Q K9 M v1 v2 v3 v4 v5 v6 s0 x_15 ((1000 * v1) + v4)) ∧ (¬ s0 = 0 → wX4_joins_135 Q K9 M v1 v2 v3 v4 v5 v6 s0 x_15 ((1000 * v2) + v5))))))
def wX4_joins_9 (Q : Mem → Prop) (v1 : Int32) (v2 : Int32) (v3 : Int32) : Nat → Mem → Int32 → Int32 → Int32 → Prop
  | 0, _, _, _, _ => False
  | n + 1, M, v4, v5, v6 => (vp_in v1 6 ∧ (vp_in v2 6 ∧ ((((gI M 223 (Int32.toNatClampNeg v1)) + (gI M 223 (Int32.toNatClampNeg v2))) ≤ v6 → (vp_in v1 6 ∧ (vp_in v2 6 ∧ (vp_in v3 6 ∧ ∀ M_1 : Mem, M_1 = pI M 223 (Int32.toNatClampNeg v3) ((gI M 223 (Int32.toNatClampNeg v1)) + (gI M 223 (Int32.toNatClampNeg v2))) → (vp_in v1 6 ∧ (vp_in v2 6 ∧ (vp_in v3 6 ∧ ∀ M_2 : Mem, M_2 = pI M_1 224 (Int32.toNatClampNeg v3) ((gI M_1 224 (Int32.toNatClampNeg v1)) + (gI M_1 224 (Int32.toNatClampNeg v2))) → wpX4_boundOf M_2 v3 (fun r_4 M_3 => wpX4_shortens M_3 v3 r_4 (fun r_6 M_5 => Q M_5))))))))) ∧ (¬ ((gI M 223 (Int32.toNatClampNeg v1)) + (gI M 223 (Int32.toNatClampNeg v2))) ≤ v6 → (vp_in v2 6 ∧ ((v5 = (gI M 223 (Int32.toNatClampNeg v2)) → wX4_joins_83 Q (wX4_joins_9 Q v1 v2 v3 n) M v1 v2 v3 v4 v5 v6 1) ∧ (¬ v5 = (gI M 223 (Int32.toNatClampNeg v2)) → (vp_in v1 6 ∧ (((gI M 223 (Int32.toNatClampNeg v1)) ≤ v4 → wX4_joins_83 Q (wX4_joins_9 Q v1 v2 v3 n) M v1 v2 v3 v4 v5 v6 0) ∧ (¬ (gI M 223 (Int32.toNatClampNeg v1)) ≤ v4 → (vp_in ((1000 * v1) + v4) 6000 ∧ (vp_in ((1000 * v2) + v5) 6000 ∧ (((gI M 220 (Int32.toNatClampNeg ((1000 * v2) + v5))) < (gI M 220 (Int32.toNatClampNeg ((1000 * v1) + v4))) → wX4_joins_83 Q (wX4_joins_9 Q v1 v2 v3 n) M v1 v2 v3 v4 v5 v6 0) ∧ (¬ (gI M 220 (Int32.toNatClampNeg ((1000 * v2) + v5))) < (gI M 220 (Int32.toNatClampNeg ((1000 * v1) + v4))) → wX4_joins_83 Q (wX4_joins_9 Q v1 v2 v3 n) M v1 v2 v3 v4 v5 v6 1))))))))))))))
def wpX4_joins (M : Mem) (v1 : Int32) (v2 : Int32) (v3 : Int32) (Q : Mem → Prop) : Prop := ∃ n, wX4_joins_9 Q v1 v2 v3 n M 0 0 0
set_option maxHeartbeats 4000000 in
set_option maxRecDepth 100000 in
theorem tX4_joins_230 (X : Cx p s m meth c G RX4 cX4_joins 11 none) {Q : Mem → Prop} {K9 : Mem → Int32 → Int32 → Int32 → Prop} {v1 : Int32} {v2 : Int32} {v3 : Int32} {v4 : Int32} {v5 : Int32} {v6 : Int32} {v7 : Int32} {s0 : Int32} {s1 : Int32} {s2 : Int32} {s3 : Int32} {s4 : Int32} {s5 : Int32} (hK9 : ∀ (M : Mem) (v4 : Int32) (v5 : Int32) (v6 : Int32), K9 M v4 v5 v6 → Wa p l e rm_X4_joins s m args below meth c 11 G al mk 0 0 (MQ below (QV G al mk Q) args s 0 0 (gA G)) M 9 [(0, .ref (al 200)), (1, .int v1), (2, .int v2), (3, .int v3), (4, .int v4), (5, .int v5), (6, .int v6)] []) {M : Mem} (h : wX4_joins_230 Q K9 M v1 v2 v3 v4 v5 v6 v7 s0 s1 s2 s3 s4 s5) : Wa p l e rm_X4_joins s m args below meth c 11 G al mk 0 0 (MQ below (QV G al mk Q) args s 0 0 (gA G)) M 230 [(0, .ref (al 200)), (1, .int v1), (2, .int v2), (3, .int v3), (4, .int v4), (5, .int v5), (6, .int v6), (7, .int v7)] [.int s0, .int s1, .int s2, .int s3, .int s4, .int s5, .ref (al 200)] := by
  unfold wX4_joins_230 at h
  refine a_iadd X dX4_joins_230 ?_
  refine a_cVv (As := [.int s5, .int s4, .int s3, .int s2, .int (s1 + s0)]) (st := []) X fw4 iz_200 (cX4_lays_ok l h) mlX4_214 mvX4_lays (rz rfl) (Nat.le_of_ble_eq_true rfl) rfl dX4_joins_231 (fun M_8 h => ?_)
  refine a_iload X dX4_joins_234 4 rfl ?_
  refine a_iload X dX4_joins_236 7 rfl ?_
  refine a_if_eq (tgt := 245) X dX4_joins_238 (by decide) (fun z => ?_) (fun z => ?_)
  · have h := h.1 z
    refine a_iconst (v := 0) X dX4_joins_245 ic_0 ?_
    refine a_iadd X dX4_joins_246 ?_
    refine a_topi (fun x_9 ex_9 => ?_)
    have h := h x_9 ex_9
    refine a_istore (lo' := [(4, .int x_9), (0, .ref (al 200)), (1, .int v1), (2, .int v2), (3, .int v3), (5, .int v5), (6, .int v6), (7, .int v7)]) X dX4_joins_247 (by decide) rfl ?_
    refine a_iload X dX4_joins_249 5 rfl ?_
    refine a_iload X dX4_joins_251 7 rfl ?_
    refine a_if_eq (tgt := 260) X dX4_joins_253 (by decide) (fun z => ?_) (fun z => ?_)
    · have h := h.1 z
      refine a_iconst (v := 1) X dX4_joins_260 ic_1 ?_
      refine a_iadd X dX4_joins_261 ?_
      refine a_topi (fun x_10 ex_10 => ?_)
      have h := h x_10 ex_10
      refine a_istore (lo' := [(5, .int x_10), (4, .int x_9), (0, .ref (al 200)), (1, .int v1), (2, .int v2), (3, .int v3), (6, .int v6), (7, .int v7)]) X dX4_joins_262 (by decide) rfl ?_
      refine a_iinc (v := v6 + 1) (lo' := [(6, .int (v6 + 1)), (5, .int x_10), (4, .int x_9), (0, .ref (al 200)), (1, .int v1), (2, .int v2), (3, .int v3), (7, .int v7)]) X dX4_joins_264 6 rfl (ii_1 _) (by decide) rfl ?_
      refine a_goto (tgt := 9) X dX4_joins_267 (by decide) ?_
      refine a_sub (ks := [3, 4, 5, 6, 2, 1, 0]) (lo' := [(0, .ref (al 200)), (1, .int v1), (2, .int v2), (3, .int v3), (4, .int x_9), (5, .int x_10), (6, .int (v6 + 1))]) rfl ?_
      exact hK9 _ _ _ _ h
    · have h := h.2 z
      refine a_iconst (v := 0) X dX4_joins_256 ic_0 ?_
      refine a_goto (tgt := 261) X dX4_joins_257 (by decide) ?_
      refine a_iadd X dX4_joins_261 ?_
      refine a_topi (fun x_11 ex_11 => ?_)
      have h := h x_11 ex_11
      refine a_istore (lo' := [(5, .int x_11), (4, .int x_9), (0, .ref (al 200)), (1, .int v1), (2, .int v2), (3, .int v3), (6, .int v6), (7, .int v7)]) X dX4_joins_262 (by decide) rfl ?_
      refine a_iinc (v := v6 + 1) (lo' := [(6, .int (v6 + 1)), (5, .int x_11), (4, .int x_9), (0, .ref (al 200)), (1, .int v1), (2, .int v2), (3, .int v3), (7, .int v7)]) X dX4_joins_264 6 rfl (ii_1 _) (by decide) rfl ?_
      refine a_goto (tgt := 9) X dX4_joins_267 (by decide) ?_
      refine a_sub (ks := [3, 4, 5, 6, 2, 1, 0]) (lo' := [(0, .ref (al 200)), (1, .int v1), (2, .int v2), (3, .int v3), (4, .int x_9), (5, .int x_11), (6, .int (v6 + 1))]) rfl ?_
      exact hK9 _ _ _ _ h
  · have h := h.2 z
    refine a_iconst (v := 1) X dX4_joins_241 ic_1 ?_
    refine a_goto (tgt := 246) X dX4_joins_242 (by decide) ?_
    refine a_iadd X dX4_joins_246 ?_
    refine a_topi (fun x_12 ex_12 => ?_)
    have h := h x_12 ex_12
    refine a_istore (lo' := [(4, .int x_12), (0, .ref (al 200)), (1, .int v1), (2, .int v2), (3, .int v3), (5, .int v5), (6, .int v6), (7, .int v7)]) X dX4_joins_247 (by decide) rfl ?_
    refine a_iload X dX4_joins_249 5 rfl ?_
    refine a_iload X dX4_joins_251 7 rfl ?_
    refine a_if_eq (tgt := 260) X dX4_joins_253 (by decide) (fun z => ?_) (fun z => ?_)
    · have h := h.1 z
      refine a_iconst (v := 1) X dX4_joins_260 ic_1 ?_
      refine a_iadd X dX4_joins_261 ?_
      refine a_topi (fun x_13 ex_13 => ?_)
      have h := h x_13 ex_13
      refine a_istore (lo' := [(5, .int x_13), (4, .int x_12), (0, .ref (al 200)), (1, .int v1), (2, .int v2), (3, .int v3), (6, .int v6), (7, .int v7)]) X dX4_joins_262 (by decide) rfl ?_
      refine a_iinc (v := v6 + 1) (lo' := [(6, .int (v6 + 1)), (5, .int x_13), (4, .int x_12), (0, .ref (al 200)), (1, .int v1), (2, .int v2), (3, .int v3), (7, .int v7)]) X dX4_joins_264 6 rfl (ii_1 _) (by decide) rfl ?_
      refine a_goto (tgt := 9) X dX4_joins_267 (by decide) ?_
      refine a_sub (ks := [3, 4, 5, 6, 2, 1, 0]) (lo' := [(0, .ref (al 200)), (1, .int v1), (2, .int v2), (3, .int v3), (4, .int x_12), (5, .int x_13), (6, .int (v6 + 1))]) rfl ?_
      exact hK9 _ _ _ _ h
    · have h := h.2 z
      refine a_iconst (v := 0) X dX4_joins_256 ic_0 ?_
      refine a_goto (tgt := 261) X dX4_joins_257 (by decide) ?_
      refine a_iadd X dX4_joins_261 ?_
      refine a_topi (fun x_14 ex_14 => ?_)
      have h := h x_14 ex_14
      refine a_istore (lo' := [(5, .int x_14), (4, .int x_12), (0, .ref (al 200)), (1, .int v1), (2, .int v2), (3, .int v3), (6, .int v6), (7, .int v7)]) X dX4_joins_262 (by decide) rfl ?_
      refine a_iinc (v := v6 + 1) (lo' := [(6, .int (v6 + 1)), (5, .int x_14), (4, .int x_12), (0, .ref (al 200)), (1, .int v1), (2, .int v2), (3, .int v3), (7, .int v7)]) X dX4_joins_264 6 rfl (ii_1 _) (by decide) rfl ?_
      refine a_goto (tgt := 9) X dX4_joins_267 (by decide) ?_
      refine a_sub (ks := [3, 4, 5, 6, 2, 1, 0]) (lo' := [(0, .ref (al 200)), (1, .int v1), (2, .int v2), (3, .int v3), (4, .int x_12), (5, .int x_14), (6, .int (v6 + 1))]) rfl ?_
      exact hK9 _ _ _ _ h
set_option maxHeartbeats 4000000 in
set_option maxRecDepth 100000 in
theorem tX4_joins_177 (X : Cx p s m meth c G RX4 cX4_joins 11 none) {Q : Mem → Prop} {K9 : Mem → Int32 → Int32 → Int32 → Prop} {v1 : Int32} {v2 : Int32} {v3 : Int32} {v4 : Int32} {v5 : Int32} {v6 : Int32} {v7 : Int32} {v8 : Int32} {v9 : Int32} {s0 : Int32} (hK9 : ∀ (M : Mem) (v4 : Int32) (v5 : Int32) (v6 : Int32), K9 M v4 v5 v6 → Wa p l e rm_X4_joins s m args below meth c 11 G al mk 0 0 (MQ below (QV G al mk Q) args s 0 0 (gA G)) M 9 [(0, .ref (al 200)), (1, .int v1), (2, .int v2), (3, .int v3), (4, .int v4), (5, .int v5), (6, .int v6)] []) {M : Mem} (h : wX4_joins_177 Q K9 M v1 v2 v3 v4 v5 v6 v7 v8 v9 s0) : Wa p l e rm_X4_joins s m args below meth c 11 G al mk 0 0 (MQ below (QV G al mk Q) args s 0 0 (gA G)) M 177 [(0, .ref (al 200)), (1, .int v1), (2, .int v2), (3, .int v3), (4, .int v4), (5, .int v5), (6, .int v6), (7, .int v7), (8, .int v8), (9, .int v9)] [.int s0] := by
  unfold wX4_joins_177 at h
  refine a_istore (lo' := [(10, .int s0), (0, .ref (al 200)), (1, .int v1), (2, .int v2), (3, .int v3), (4, .int v4), (5, .int v5), (6, .int v6), (7, .int v7), (8, .int v8), (9, .int v9)]) X dX4_joins_177 (by decide) rfl ?_
  refine a_aload_n X dX4_joins_179 rfl 1 rfl ?_
  refine a_iload_n X dX4_joins_180 rfl 4 rfl ?_
  refine a_iload X dX4_joins_181 7 rfl ?_
  refine a_aload_n X dX4_joins_183 rfl 1 rfl ?_
  refine a_getR (k := 19) X 20 (b := 220) fw4 iz_200 rfl rfl flX4_31 rfl dX4_joins_184 ?_
  refine a_iload X dX4_joins_187 9 rfl ?_
  refine a_iald X iz_220 h.1 dX4_joins_189 ?_
  have h := h.2
  refine a_aload_n X dX4_joins_190 rfl 1 rfl ?_
  refine a_getR (k := 20) X 21 (b := 221) fw4 iz_200 rfl rfl flX4_34 rfl dX4_joins_191 ?_
  refine a_iload X dX4_joins_194 9 rfl ?_
  refine a_iald X iz_221 h.1 dX4_joins_196 ?_
  have h := h.2
  refine a_aload_n X dX4_joins_197 rfl 1 rfl ?_
  refine a_getR (k := 21) X 22 (b := 222) fw4 iz_200 rfl rfl flX4_37 rfl dX4_joins_198 ?_
  refine a_iload X dX4_joins_201 9 rfl ?_
  refine a_iald X iz_222 h.1 dX4_joins_203 ?_
  have h := h.2
  refine a_iload X dX4_joins_204 0 rfl ?_
  refine a_if_eq (tgt := 229) X dX4_joins_206 (by decide) (fun z => ?_) (fun z => ?_)
  · have h := h.1 z
    refine a_iconst (v := 0) X dX4_joins_229 ic_0 ?_
    refine a_sub (ks := [1, 2, 3, 4, 5, 6, 7, 8]) (lo' := [(0, .ref (al 200)), (1, .int v1), (2, .int v2), (3, .int v3), (4, .int v4), (5, .int v5), (6, .int v6), (7, .int v7)]) rfl ?_
    exact tX4_joins_230 X hK9 h
  · have h := h.2 z
    refine a_aload_n X dX4_joins_209 rfl 1 rfl ?_
    refine a_getR (k := 20) X 21 (b := 221) fw4 iz_200 rfl rfl flX4_34 rfl dX4_joins_210 ?_
    refine a_iload X dX4_joins_213 10 rfl ?_
    refine a_iald X iz_221 h.1 dX4_joins_215 ?_
    have h := h.2
    refine a_aload_n X dX4_joins_216 rfl 1 rfl ?_
    refine a_getR (k := 21) X 22 (b := 222) fw4 iz_200 rfl rfl flX4_37 rfl dX4_joins_217 ?_
    refine a_iload X dX4_joins_220 10 rfl ?_
    refine a_iald X iz_222 h.1 dX4_joins_222 ?_
    have h := h.2
    refine a_iadd X dX4_joins_223 ?_
    refine a_iconst (v := 1) X dX4_joins_224 ic_1 ?_
    refine a_isub X dX4_joins_225 ?_
    refine a_goto (tgt := 230) X dX4_joins_226 (by decide) ?_
    refine a_sub (ks := [1, 2, 3, 4, 5, 6, 7, 8]) (lo' := [(0, .ref (al 200)), (1, .int v1), (2, .int v2), (3, .int v3), (4, .int v4), (5, .int v5), (6, .int v6), (7, .int v7)]) rfl ?_
    exact tX4_joins_230 X hK9 h
set_option maxHeartbeats 4000000 in
set_option maxRecDepth 100000 in
theorem tX4_joins_135 (X : Cx p s m meth c G RX4 cX4_joins 11 none) {Q : Mem → Prop} {K9 : Mem → Int32 → Int32 → Int32 → Prop} {v1 : Int32} {v2 : Int32} {v3 : Int32} {v4 : Int32} {v5 : Int32} {v6 : Int32} {v7 : Int32} {v8 : Int32} {s0 : Int32} (hK9 : ∀ (M : Mem) (v4 : Int32) (v5 : Int32) (v6 : Int32), K9 M v4 v5 v6 → Wa p l e rm_X4_joins s m args below meth c 11 G al mk 0 0 (MQ below (QV G al mk Q) args s 0 0 (gA G)) M 9 [(0, .ref (al 200)), (1, .int v1), (2, .int v2), (3, .int v3), (4, .int v4), (5, .int v5), (6, .int v6)] []) {M : Mem} (h : wX4_joins_135 Q K9 M v1 v2 v3 v4 v5 v6 v7 v8 s0) : Wa p l e rm_X4_joins s m args below meth c 11 G al mk 0 0 (MQ below (QV G al mk Q) args s 0 0 (gA G)) M 135 [(0, .ref (al 200)), (1, .int v1), (2, .int v2), (3, .int v3), (4, .int v4), (5, .int v5), (6, .int v6), (7, .int v7), (8, .int v8)] [.int s0] := by
  unfold wX4_joins_135 at h
  refine a_istore (lo' := [(9, .int s0), (0, .ref (al 200)), (1, .int v1), (2, .int v2), (3, .int v3), (4, .int v4), (5, .int v5), (6, .int v6), (7, .int v7), (8, .int v8)]) X dX4_joins_135 (by decide) rfl ?_
  refine a_iload X dX4_joins_137 8 rfl ?_
  refine a_if_eq (tgt := 161) X dX4_joins_139 (by decide) (fun z => ?_) (fun z => ?_)
  · have h := h.1 z
    refine a_iload X dX4_joins_161 5 rfl ?_
    refine a_aload_n X dX4_joins_163 rfl 1 rfl ?_
    refine a_getR (k := 22) X 23 (b := 223) fw4 iz_200 rfl rfl flX4_40 rfl dX4_joins_164 ?_
    refine a_iload_n X dX4_joins_167 rfl 2 rfl ?_
    refine a_iald X iz_223 h.1 dX4_joins_168 ?_
    have h := h.2
    refine a_icmp_ge (tgt := 176) X dX4_joins_169 (by decide) (fun z => ?_) (fun z => ?_)
    · have h := h.1 z
      refine a_iconst (v := 0) X dX4_joins_176 ic_0 ?_
      refine a_sub (ks := [1, 2, 3, 4, 5, 6, 7, 8, 9, 0]) (lo' := [(0, .ref (al 200)), (1, .int v1), (2, .int v2), (3, .int v3), (4, .int v4), (5, .int v5), (6, .int v6), (7, .int v7), (8, .int v8), (9, .int s0)]) rfl ?_
      exact tX4_joins_177 X hK9 h
    · have h := h.2 z
      refine a_iconst (v := 1) X dX4_joins_172 ic_1 ?_
      refine a_goto (tgt := 177) X dX4_joins_173 (by decide) ?_
      refine a_sub (ks := [1, 2, 3, 4, 5, 6, 7, 8, 9, 0]) (lo' := [(0, .ref (al 200)), (1, .int v1), (2, .int v2), (3, .int v3), (4, .int v4), (5, .int v5), (6, .int v6), (7, .int v7), (8, .int v8), (9, .int s0)]) rfl ?_
      exact tX4_joins_177 X hK9 h
  · have h := h.2 z
    refine a_iload X dX4_joins_142 6 rfl ?_
    refine a_aload_n X dX4_joins_144 rfl 1 rfl ?_
    refine a_getR (k := 22) X 23 (b := 223) fw4 iz_200 rfl rfl flX4_40 rfl dX4_joins_145 ?_
    refine a_iload_n X dX4_joins_148 rfl 3 rfl ?_
    refine a_iald X iz_223 h.1 dX4_joins_149 ?_
    have h := h.2
    refine a_icmp_ge (tgt := 157) X dX4_joins_150 (by decide) (fun z => ?_) (fun z => ?_)
    · have h := h.1 z
      refine a_iconst (v := 0) X dX4_joins_157 ic_0 ?_
      refine a_goto (tgt := 177) X dX4_joins_158 (by decide) ?_
      refine a_sub (ks := [1, 2, 3, 4, 5, 6, 7, 8, 9, 0]) (lo' := [(0, .ref (al 200)), (1, .int v1), (2, .int v2), (3, .int v3), (4, .int v4), (5, .int v5), (6, .int v6), (7, .int v7), (8, .int v8), (9, .int s0)]) rfl ?_
      exact tX4_joins_177 X hK9 h
    · have h := h.2 z
      refine a_iconst (v := 1) X dX4_joins_153 ic_1 ?_
      refine a_goto (tgt := 177) X dX4_joins_154 (by decide) ?_
      refine a_sub (ks := [1, 2, 3, 4, 5, 6, 7, 8, 9, 0]) (lo' := [(0, .ref (al 200)), (1, .int v1), (2, .int v2), (3, .int v3), (4, .int v4), (5, .int v5), (6, .int v6), (7, .int v7), (8, .int v8), (9, .int s0)]) rfl ?_
      exact tX4_joins_177 X hK9 h
set_option maxHeartbeats 4000000 in
set_option maxRecDepth 100000 in
theorem tX4_joins_83 (X : Cx p s m meth c G RX4 cX4_joins 11 none) {Q : Mem → Prop} {K9 : Mem → Int32 → Int32 → Int32 → Prop} {v1 : Int32} {v2 : Int32} {v3 : Int32} {v4 : Int32} {v5 : Int32} {v6 : Int32} {s0 : Int32} (hK9 : ∀ (M : Mem) (v4 : Int32) (v5 : Int32) (v6 : Int32), K9 M v4 v5 v6 → Wa p l e rm_X4_joins s m args below meth c 11 G al mk 0 0 (MQ below (QV G al mk Q) args s 0 0 (gA G)) M 9 [(0, .ref (al 200)), (1, .int v1), (2, .int v2), (3, .int v3), (4, .int v4), (5, .int v5), (6, .int v6)] []) {M : Mem} (h : wX4_joins_83 Q K9 M v1 v2 v3 v4 v5 v6 s0) : Wa p l e rm_X4_joins s m args below meth c 11 G al mk 0 0 (MQ below (QV G al mk Q) args s 0 0 (gA G)) M 83 [(0, .ref (al 200)), (1, .int v1), (2, .int v2), (3, .int v3), (4, .int v4), (5, .int v5), (6, .int v6)] [.int s0] := by
  unfold wX4_joins_83 at h
  refine a_istore (lo' := [(7, .int s0), (0, .ref (al 200)), (1, .int v1), (2, .int v2), (3, .int v3), (4, .int v4), (5, .int v5), (6, .int v6)]) X dX4_joins_83 (by decide) rfl ?_
  refine a_iload X dX4_joins_85 0 rfl ?_
  refine a_if_eq (tgt := 101) X dX4_joins_87 (by decide) (fun z => ?_) (fun z => ?_)
  · have h := h.1 z
    refine a_sipush (v := 1000) X dX4_joins_101 sc_1000 ?_
    refine a_iload_n X dX4_joins_104 rfl 3 rfl ?_
    refine a_imul X dX4_joins_105 ?_
    refine a_iload X dX4_joins_106 6 rfl ?_
    refine a_iadd X dX4_joins_108 ?_
    refine a_topi (fun x_7 ex_7 => ?_)
    have h := h x_7 ex_7
    refine a_istore (lo' := [(8, .int x_7), (7, .int s0), (0, .ref (al 200)), (1, .int v1), (2, .int v2), (3, .int v3), (4, .int v4), (5, .int v5), (6, .int v6)]) X dX4_joins_109 (by decide) rfl ?_
    refine a_iload X dX4_joins_111 1 rfl ?_
    refine a_if_eq (tgt := 127) X dX4_joins_113 (by decide) (fun z => ?_) (fun z => ?_)
    · have h := h.1 z
      refine a_sipush (v := 1000) X dX4_joins_127 sc_1000 ?_
      refine a_iload_n X dX4_joins_130 rfl 3 rfl ?_
      refine a_imul X dX4_joins_131 ?_
      refine a_iload X dX4_joins_132 6 rfl ?_
      refine a_iadd X dX4_joins_134 ?_
      refine a_sub (ks := [2, 3, 4, 5, 6, 7, 8, 1, 0]) (lo' := [(0, .ref (al 200)), (1, .int v1), (2, .int v2), (3, .int v3), (4, .int v4), (5, .int v5), (6, .int v6), (7, .int s0), (8, .int x_7)]) rfl ?_
      exact tX4_joins_135 X hK9 h
    · have h := h.2 z
      refine a_sipush (v := 1000) X dX4_joins_116 sc_1000 ?_
      refine a_iload_n X dX4_joins_119 rfl 4 rfl ?_
      refine a_imul X dX4_joins_120 ?_
      refine a_iload X dX4_joins_121 7 rfl ?_
      refine a_iadd X dX4_joins_123 ?_
      refine a_goto (tgt := 135) X dX4_joins_124 (by decide) ?_
      refine a_sub (ks := [2, 3, 4, 5, 6, 7, 8, 1, 0]) (lo' := [(0, .ref (al 200)), (1, .int v1), (2, .int v2), (3, .int v3), (4, .int v4), (5, .int v5), (6, .int v6), (7, .int s0), (8, .int x_7)]) rfl ?_
      exact tX4_joins_135 X hK9 h
  · have h := h.2 z
    refine a_sipush (v := 1000) X dX4_joins_90 sc_1000 ?_
    refine a_iload_n X dX4_joins_93 rfl 2 rfl ?_
    refine a_imul X dX4_joins_94 ?_
    refine a_iload X dX4_joins_95 5 rfl ?_
    refine a_iadd X dX4_joins_97 ?_
    refine a_goto (tgt := 109) X dX4_joins_98 (by decide) ?_
    refine a_topi (fun x_15 ex_15 => ?_)
    have h := h x_15 ex_15
    refine a_istore (lo' := [(8, .int x_15), (7, .int s0), (0, .ref (al 200)), (1, .int v1), (2, .int v2), (3, .int v3), (4, .int v4), (5, .int v5), (6, .int v6)]) X dX4_joins_109 (by decide) rfl ?_
    refine a_iload X dX4_joins_111 1 rfl ?_
    refine a_if_eq (tgt := 127) X dX4_joins_113 (by decide) (fun z => ?_) (fun z => ?_)
    · have h := h.1 z
      refine a_sipush (v := 1000) X dX4_joins_127 sc_1000 ?_
      refine a_iload_n X dX4_joins_130 rfl 3 rfl ?_
      refine a_imul X dX4_joins_131 ?_
      refine a_iload X dX4_joins_132 6 rfl ?_
      refine a_iadd X dX4_joins_134 ?_
      refine a_sub (ks := [2, 3, 4, 5, 6, 7, 8, 1, 0]) (lo' := [(0, .ref (al 200)), (1, .int v1), (2, .int v2), (3, .int v3), (4, .int v4), (5, .int v5), (6, .int v6), (7, .int s0), (8, .int x_15)]) rfl ?_
      exact tX4_joins_135 X hK9 h
    · have h := h.2 z
      refine a_sipush (v := 1000) X dX4_joins_116 sc_1000 ?_
      refine a_iload_n X dX4_joins_119 rfl 4 rfl ?_
      refine a_imul X dX4_joins_120 ?_
      refine a_iload X dX4_joins_121 7 rfl ?_
      refine a_iadd X dX4_joins_123 ?_
      refine a_goto (tgt := 135) X dX4_joins_124 (by decide) ?_
      refine a_sub (ks := [2, 3, 4, 5, 6, 7, 8, 1, 0]) (lo' := [(0, .ref (al 200)), (1, .int v1), (2, .int v2), (3, .int v3), (4, .int v4), (5, .int v5), (6, .int v6), (7, .int s0), (8, .int x_15)]) rfl ?_
      exact tX4_joins_135 X hK9 h
set_option maxHeartbeats 4000000 in
set_option maxRecDepth 100000 in
theorem tX4_joins_9 (X : Cx p s m meth c G RX4 cX4_joins 11 none) {Q : Mem → Prop} {v1 : Int32} {v2 : Int32} {v3 : Int32} : ∀ (n : Nat) (M : Mem) (v4 : Int32) (v5 : Int32) (v6 : Int32), wX4_joins_9 Q v1 v2 v3 n M v4 v5 v6 → Wa p l e rm_X4_joins s m args below meth c 11 G al mk 0 0 (MQ below (QV G al mk Q) args s 0 0 (gA G)) M 9 [(0, .ref (al 200)), (1, .int v1), (2, .int v2), (3, .int v3), (4, .int v4), (5, .int v5), (6, .int v6)] [] := by
  intro n
  induction n with
  | zero =>
    intro M v4 v5 v6 h
    exact False.elim h
  | succ n ih =>
    intro M v4 v5 v6 h
    rw [wX4_joins_9] at h
    refine a_iload X dX4_joins_9 6 rfl ?_
    refine a_aload_n X dX4_joins_11 rfl 0 rfl ?_
    refine a_getR (k := 22) X 23 (b := 223) fw4 iz_200 rfl rfl flX4_40 rfl dX4_joins_12 ?_
    refine a_iload_n X dX4_joins_15 rfl 1 rfl ?_
    refine a_iald X iz_223 h.1 dX4_joins_16 ?_
    have h := h.2
    refine a_aload_n X dX4_joins_17 rfl 0 rfl ?_
    refine a_getR (k := 22) X 23 (b := 223) fw4 iz_200 rfl rfl flX4_40 rfl dX4_joins_18 ?_
    refine a_iload_n X dX4_joins_21 rfl 2 rfl ?_
    refine a_iald X iz_223 h.1 dX4_joins_22 ?_
    have h := h.2
    refine a_iadd X dX4_joins_23 ?_
    refine a_icmp_ge (tgt := 270) X dX4_joins_24 (by decide) (fun z => ?_) (fun z => ?_)
    · have h := h.1 z
      refine a_aload_n X dX4_joins_270 rfl 0 rfl ?_
      refine a_getR (k := 22) X 23 (b := 223) fw4 iz_200 rfl rfl flX4_40 rfl dX4_joins_271 ?_
      refine a_iload_n X dX4_joins_274 rfl 3 rfl ?_
      refine a_aload_n X dX4_joins_275 rfl 0 rfl ?_
      refine a_getR (k := 22) X 23 (b := 223) fw4 iz_200 rfl rfl flX4_40 rfl dX4_joins_276 ?_
      refine a_iload_n X dX4_joins_279 rfl 1 rfl ?_
      refine a_iald X iz_223 h.1 dX4_joins_280 ?_
      have h := h.2
      refine a_aload_n X dX4_joins_281 rfl 0 rfl ?_
      refine a_getR (k := 22) X 23 (b := 223) fw4 iz_200 rfl rfl flX4_40 rfl dX4_joins_282 ?_
      refine a_iload_n X dX4_joins_285 rfl 2 rfl ?_
      refine a_iald X iz_223 h.1 dX4_joins_286 ?_
      have h := h.2
      refine a_iadd X dX4_joins_287 ?_
      refine a_iast X iz_223 h.1 dX4_joins_288 (fun M_1 eM_1 => ?_)
      have h := h.2 M_1 eM_1
      refine a_aload_n X dX4_joins_289 rfl 0 rfl ?_
      refine a_getR (k := 23) X 24 (b := 224) fw4 iz_200 rfl rfl flX4_43 rfl dX4_joins_290 ?_
      refine a_iload_n X dX4_joins_293 rfl 3 rfl ?_
      refine a_aload_n X dX4_joins_294 rfl 0 rfl ?_
      refine a_getR (k := 23) X 24 (b := 224) fw4 iz_200 rfl rfl flX4_43 rfl dX4_joins_295 ?_
      refine a_iload_n X dX4_joins_298 rfl 1 rfl ?_
      refine a_iald X iz_224 h.1 dX4_joins_299 ?_
      have h := h.2
      refine a_aload_n X dX4_joins_300 rfl 0 rfl ?_
      refine a_getR (k := 23) X 24 (b := 224) fw4 iz_200 rfl rfl flX4_43 rfl dX4_joins_301 ?_
      refine a_iload_n X dX4_joins_304 rfl 2 rfl ?_
      refine a_iald X iz_224 h.1 dX4_joins_305 ?_
      have h := h.2
      refine a_iadd X dX4_joins_306 ?_
      refine a_iast X iz_224 h.1 dX4_joins_307 (fun M_2 eM_2 => ?_)
      have h := h.2 M_2 eM_2
      refine a_aload_n X dX4_joins_308 rfl 0 rfl ?_
      refine a_iload_n X dX4_joins_309 rfl 3 rfl ?_
      refine a_aload_n X dX4_joins_310 rfl 0 rfl ?_
      refine a_iload_n X dX4_joins_311 rfl 3 rfl ?_
      refine a_cVi (As := [.int v3]) (st := [.int v3, .ref (al 200)]) X fw4 iz_200 (cX4_boundOf_ok l h) mlX4_237 mvX4_boundOf (rz rfl) (Nat.le_of_ble_eq_true rfl) rfl dX4_joins_312 (fun r_4 M_3 h => ?_)
      refine a_cVi (As := [.int v3, .int r_4]) (st := []) X fw4 iz_200 (cX4_shortens_ok l h) mlX4_240 mvX4_shortens (rz rfl) (Nat.le_of_ble_eq_true rfl) rfl dX4_joins_315 (fun r_6 M_5 h => ?_)
      refine a_istore (lo' := [(6, .int r_6), (0, .ref (al 200)), (1, .int v1), (2, .int v2), (3, .int v3), (4, .int v4), (5, .int v5)]) X dX4_joins_318 (by decide) rfl ?_
      exact a_vret X h dX4_joins_320
    · have h := h.2 z
      refine a_iload X dX4_joins_27 5 rfl ?_
      refine a_aload_n X dX4_joins_29 rfl 0 rfl ?_
      refine a_getR (k := 22) X 23 (b := 223) fw4 iz_200 rfl rfl flX4_40 rfl dX4_joins_30 ?_
      refine a_iload_n X dX4_joins_33 rfl 2 rfl ?_
      refine a_iald X iz_223 h.1 dX4_joins_34 ?_
      have h := h.2
      refine a_icmp_eq (tgt := 78) X dX4_joins_35 (by decide) (fun z => ?_) (fun z => ?_)
      · have h := h.1 z
        refine a_iconst (v := 1) X dX4_joins_78 ic_1 ?_
        refine a_goto (tgt := 83) X dX4_joins_79 (by decide) ?_
        exact tX4_joins_83 X ih h
      · have h := h.2 z
        refine a_iload X dX4_joins_38 4 rfl ?_
        refine a_aload_n X dX4_joins_40 rfl 0 rfl ?_
        refine a_getR (k := 22) X 23 (b := 223) fw4 iz_200 rfl rfl flX4_40 rfl dX4_joins_41 ?_
        refine a_iload_n X dX4_joins_44 rfl 1 rfl ?_
        refine a_iald X iz_223 h.1 dX4_joins_45 ?_
        have h := h.2
        refine a_icmp_ge (tgt := 82) X dX4_joins_46 (by decide) (fun z => ?_) (fun z => ?_)
        · have h := h.1 z
          refine a_iconst (v := 0) X dX4_joins_82 ic_0 ?_
          exact tX4_joins_83 X ih h
        · have h := h.2 z
          refine a_aload_n X dX4_joins_49 rfl 0 rfl ?_
          refine a_getR (k := 19) X 20 (b := 220) fw4 iz_200 rfl rfl flX4_31 rfl dX4_joins_50 ?_
          refine a_sipush (v := 1000) X dX4_joins_53 sc_1000 ?_
          refine a_iload_n X dX4_joins_56 rfl 1 rfl ?_
          refine a_imul X dX4_joins_57 ?_
          refine a_iload X dX4_joins_58 4 rfl ?_
          refine a_iadd X dX4_joins_60 ?_
          refine a_iald X iz_220 h.1 dX4_joins_61 ?_
          have h := h.2
          refine a_aload_n X dX4_joins_62 rfl 0 rfl ?_
          refine a_getR (k := 19) X 20 (b := 220) fw4 iz_200 rfl rfl flX4_31 rfl dX4_joins_63 ?_
          refine a_sipush (v := 1000) X dX4_joins_66 sc_1000 ?_
          refine a_iload_n X dX4_joins_69 rfl 2 rfl ?_
          refine a_imul X dX4_joins_70 ?_
          refine a_iload X dX4_joins_71 5 rfl ?_
          refine a_iadd X dX4_joins_73 ?_
          refine a_iald X iz_220 h.1 dX4_joins_74 ?_
          have h := h.2
          refine a_icmp_gt (tgt := 82) X dX4_joins_75 (by decide) (fun z => ?_) (fun z => ?_)
          · have h := h.1 z
            refine a_iconst (v := 0) X dX4_joins_82 ic_0 ?_
            exact tX4_joins_83 X ih h
          · have h := h.2 z
            refine a_iconst (v := 1) X dX4_joins_78 ic_1 ?_
            refine a_goto (tgt := 83) X dX4_joins_79 (by decide) ?_
            exact tX4_joins_83 X ih h
set_option maxHeartbeats 4000000 in
set_option maxRecDepth 100000 in
theorem cX4_joins_ok (l : Launch) {G : Gl} {al : Nat → Nat} {mk : Nat} {M : Mem} {v1 : Int32} {v2 : Int32} {v3 : Int32} {Q : Mem → Prop} (h : wpX4_joins M v1 v2 v3 Q) : Kv l yX4_joins cX4_joins 11 none rm_X4_joins G al mk M [.ref (al 200), .int v1, .int v2, .int v3] (QV G al mk Q) := by
  refine a_head (by decide) (Nat.le_of_ble_eq_true rfl) (fun p e s m below meth c X => ?_)
  have X : Cx p s m meth c G RX4 cX4_joins 11 none := X
  unfold wpX4_joins at h
  refine a_sub (ks := [0, 1, 2, 3]) (lo' := [(0, .ref (al 200)), (1, .int v1), (2, .int v2), (3, .int v3)]) rfl ?_
  refine a_iconst (v := 0) X dX4_joins_0 ic_0 ?_
  refine a_istore (lo' := [(4, .int 0), (0, .ref (al 200)), (1, .int v1), (2, .int v2), (3, .int v3)]) X dX4_joins_1 (by decide) rfl ?_
  refine a_iconst (v := 0) X dX4_joins_3 ic_0 ?_
  refine a_istore (lo' := [(5, .int 0), (4, .int 0), (0, .ref (al 200)), (1, .int v1), (2, .int v2), (3, .int v3)]) X dX4_joins_4 (by decide) rfl ?_
  refine a_iconst (v := 0) X dX4_joins_6 ic_0 ?_
  refine a_istore (lo' := [(6, .int 0), (5, .int 0), (4, .int 0), (0, .ref (al 200)), (1, .int v1), (2, .int v2), (3, .int v3)]) X dX4_joins_7 (by decide) rfl ?_
  refine a_sub (ks := [3, 4, 5, 6, 2, 1, 0]) (lo' := [(0, .ref (al 200)), (1, .int v1), (2, .int v2), (3, .int v3), (4, .int 0), (5, .int 0), (6, .int 0)]) rfl ?_
  obtain ⟨n9, h⟩ := h
  exact tX4_joins_9 X n9 _ _ _ _ h
abbrev rm_X4_isStream : Room := { frames := 1, cells := 0, slots := 0, locals := 22 }
def wpX4_isStream (M : Mem) (v1 : Int32) (Q : Int32 → Mem → Prop) : Prop := (((gI M 200 28) ≤ 0 → Q 0 M) ∧ (¬ (gI M 200 28) ≤ 0 → wpX4_in M v1 0 ((gI M 200 29) - 1) (fun r_2 M_1 => ((r_2 = 0 → Q 0 M_1) ∧ (¬ r_2 = 0 → Q 1 M_1)))))
set_option maxHeartbeats 4000000 in
set_option maxRecDepth 100000 in
theorem cX4_isStream_ok (l : Launch) {G : Gl} {al : Nat → Nat} {mk : Nat} {M : Mem} {v1 : Int32} {Q : Int32 → Mem → Prop} (h : wpX4_isStream M v1 Q) : Kv l yX4_isStream cX4_isStream 2 (some .boolean) rm_X4_isStream G al mk M [.ref (al 200), .int v1] (QI G al mk Q) := by
  refine a_head (by decide) (Nat.le_of_ble_eq_true rfl) (fun p e s m below meth c X => ?_)
  have X : Cx p s m meth c G RX4 cX4_isStream 2 (some .boolean) := X
  unfold wpX4_isStream at h
  refine a_sub (ks := [0, 1]) (lo' := [(0, .ref (al 200)), (1, .int v1)]) rfl ?_
  refine a_aload_n X dX4_isStream_0 rfl 0 rfl ?_
  refine a_getI (k := 28) X fw4 iz_200 rfl flX4_185 rfl dX4_isStream_1 ?_
  refine a_if_le (tgt := 25) X dX4_isStream_4 (by decide) (fun z => ?_) (fun z => ?_)
  · have h := h.1 z
    refine a_iconst (v := 0) X dX4_isStream_25 ic_0 ?_
    exact a_zret X (by decide) h dX4_isStream_26
  · have h := h.2 z
    refine a_iload_n X dX4_isStream_7 rfl 1 rfl ?_
    refine a_iconst (v := 0) X dX4_isStream_8 ic_0 ?_
    refine a_aload_n X dX4_isStream_9 rfl 0 rfl ?_
    refine a_getI (k := 29) X fw4 iz_200 rfl flX4_187 rfl dX4_isStream_10 ?_
    refine a_iconst (v := 1) X dX4_isStream_13 ic_1 ?_
    refine a_isub X dX4_isStream_14 ?_
    refine a_cSi (As := [.int v1, .int 0, .int ((gI M 200 29) - 1)]) (st := []) X (cX4_in_ok l h) mlX4_86 msX4_in (rz rfl) (Nat.le_of_ble_eq_true rfl) rfl dX4_isStream_15 (fun r_2 M_1 h => ?_)
    refine a_if_eq (tgt := 25) X dX4_isStream_18 (by decide) (fun z => ?_) (fun z => ?_)
    · have h := h.1 z
      refine a_iconst (v := 0) X dX4_isStream_25 ic_0 ?_
      exact a_zret X (by decide) h dX4_isStream_26
    · have h := h.2 z
      refine a_iconst (v := 1) X dX4_isStream_21 ic_1 ?_
      refine a_goto (tgt := 26) X dX4_isStream_22 (by decide) ?_
      exact a_zret X (by decide) h dX4_isStream_26
abbrev rm_X4_sumOf : Room := { frames := 0, cells := 0, slots := 0, locals := 0 }
def wX4_sumOf_4 (Q : Int32 → Mem → Prop) (v1 : Nat) (n1 : Nat) : Nat → Mem → Int32 → Int32 → Prop
  | 0, _, _, _ => False
  | n + 1, M, v2, v3 => (((gI M 200 29) ≤ v3 → Q v2 M) ∧ (¬ (gI M 200 29) ≤ v3 → (vp_in v3 n1 ∧ (∀ x_1 : Int32, x_1 = (v2 + (gI M v1 (Int32.toNatClampNeg v3))) → wX4_sumOf_4 Q v1 n1 n M x_1 (v3 + 1)))))
def wpX4_sumOf (M : Mem) (v1 : Nat) (n1 : Nat) (Q : Int32 → Mem → Prop) : Prop := ∃ n, wX4_sumOf_4 Q v1 n1 n M 0 0
set_option maxHeartbeats 4000000 in
set_option maxRecDepth 100000 in
theorem tX4_sumOf_4 (X : Cx p s m meth c G RX4 cX4_sumOf 4 (some .int)) {Q : Int32 → Mem → Prop} {v1 : Nat} {n1 : Nat} (i1 : Iz mk v1 (6, n1)) : ∀ (n : Nat) (M : Mem) (v2 : Int32) (v3 : Int32), wX4_sumOf_4 Q v1 n1 n M v2 v3 → Wa p l e rm_X4_sumOf s m args below meth c 4 G al mk 0 0 (MQ below (QI G al mk Q) args s 0 0 (gA G)) M 4 [(0, .ref (al 200)), (1, .ref (al v1)), (2, .int v2), (3, .int v3)] [] := by
  intro n
  induction n with
  | zero =>
    intro M v2 v3 h
    exact False.elim h
  | succ n ih =>
    intro M v2 v3 h
    rw [wX4_sumOf_4] at h
    refine a_iload_n X dX4_sumOf_4 rfl 3 rfl ?_
    refine a_aload_n X dX4_sumOf_5 rfl 0 rfl ?_
    refine a_getI (k := 29) X fw4 iz_200 rfl flX4_187 rfl dX4_sumOf_6 ?_
    refine a_icmp_ge (tgt := 24) X dX4_sumOf_9 (by decide) (fun z => ?_) (fun z => ?_)
    · have h := h.1 z
      refine a_iload_n X dX4_sumOf_24 rfl 2 rfl ?_
      exact a_iret X h dX4_sumOf_25
    · have h := h.2 z
      refine a_iload_n X dX4_sumOf_12 rfl 2 rfl ?_
      refine a_aload_n X dX4_sumOf_13 rfl 1 rfl ?_
      refine a_iload_n X dX4_sumOf_14 rfl 3 rfl ?_
      refine a_iald X i1 h.1 dX4_sumOf_15 ?_
      have h := h.2
      refine a_iadd X dX4_sumOf_16 ?_
      refine a_topi (fun x_1 ex_1 => ?_)
      have h := h x_1 ex_1
      refine a_istore_n (lo' := [(2, .int x_1), (0, .ref (al 200)), (1, .ref (al v1)), (3, .int v3)]) X dX4_sumOf_17 rfl (by decide) rfl ?_
      refine a_iinc (v := v3 + 1) (lo' := [(3, .int (v3 + 1)), (2, .int x_1), (0, .ref (al 200)), (1, .ref (al v1))]) X dX4_sumOf_18 3 rfl (ii_1 _) (by decide) rfl ?_
      refine a_goto (tgt := 4) X dX4_sumOf_21 (by decide) ?_
      refine a_sub (ks := [2, 3, 1, 0]) (lo' := [(0, .ref (al 200)), (1, .ref (al v1)), (2, .int x_1), (3, .int (v3 + 1))]) rfl ?_
      exact ih _ _ _ h
set_option maxHeartbeats 4000000 in
set_option maxRecDepth 100000 in
theorem cX4_sumOf_ok (l : Launch) {G : Gl} {al : Nat → Nat} {mk : Nat} {M : Mem} {v1 : Nat} {n1 : Nat} {Q : Int32 → Mem → Prop} (i1 : Iz mk v1 (6, n1)) (h : wpX4_sumOf M v1 n1 Q) : Kv l yX4_sumOf cX4_sumOf 4 (some .int) rm_X4_sumOf G al mk M [.ref (al 200), .ref (al v1)] (QI G al mk Q) := by
  refine a_head (by decide) (Nat.le_of_ble_eq_true rfl) (fun p e s m below meth c X => ?_)
  have X : Cx p s m meth c G RX4 cX4_sumOf 4 (some .int) := X
  unfold wpX4_sumOf at h
  refine a_sub (ks := [0, 1]) (lo' := [(0, .ref (al 200)), (1, .ref (al v1))]) rfl ?_
  refine a_iconst (v := 0) X dX4_sumOf_0 ic_0 ?_
  refine a_istore_n (lo' := [(2, .int 0), (0, .ref (al 200)), (1, .ref (al v1))]) X dX4_sumOf_1 rfl (by decide) rfl ?_
  refine a_iconst (v := 0) X dX4_sumOf_2 ic_0 ?_
  refine a_istore_n (lo' := [(3, .int 0), (2, .int 0), (0, .ref (al 200)), (1, .ref (al v1))]) X dX4_sumOf_3 rfl (by decide) rfl ?_
  refine a_sub (ks := [2, 3, 1, 0]) (lo' := [(0, .ref (al 200)), (1, .ref (al v1)), (2, .int 0), (3, .int 0)]) rfl ?_
  obtain ⟨n9, h⟩ := h
  exact tX4_sumOf_4 X i1 n9 _ _ _ h
abbrev rm_X4_about : Room := { frames := 1, cells := 0, slots := 0, locals := 23 }
def wpX4_about (M : Mem) (v1 : Int32) (Q : Int32 → Mem → Prop) : Prop := (∀ M_1 : Mem, M_1 = pI M 200 0 0 → ((¬ (gI M_1 200 28) = 0 → ((v1 = 0 → wpX4_good M_1 (gI M_1 200 28) (fun r_3 M_2 => Q r_3 M_2)) ∧ (v1 = 1 → wpX4_good M_1 (gI M_1 200 29) (fun r_5 M_4 => Q r_5 M_4)) ∧ (v1 = 2 → wpX4_sumOf M_1 224 6 (fun r_7 M_6 => wpX4_good M_6 r_7 (fun r_9 M_8 => Q r_9 M_8))) ∧ (v1 = 3 → wpX4_sumOf M_1 223 6 (fun r_11 M_10 => wpX4_good M_10 r_11 (fun r_13 M_12 => Q r_13 M_12))) ∧ (v1 = 4 → wpX4_sumOf M_1 227 4 (fun r_15 M_14 => wpX4_good M_14 r_15 (fun r_17 M_16 => Q r_17 M_16))) ∧ (v1 = 5 → wpX4_good M_1 (gI M_1 200 30) (fun r_19 M_18 => Q r_19 M_18)) ∧ (¬ v1 = 0 → ¬ v1 = 1 → ¬ v1 = 2 → ¬ v1 = 3 → ¬ v1 = 4 → ¬ v1 = 5 → wpX4_refused M_1 1 (fun r_21 M_20 => Q r_21 M_20)))) ∧ ((gI M_1 200 28) = 0 → wpX4_refused M_1 1 (fun r_23 M_22 => Q r_23 M_22))))
set_option maxHeartbeats 4000000 in
set_option maxRecDepth 100000 in
theorem cX4_about_ok (l : Launch) {G : Gl} {al : Nat → Nat} {mk : Nat} {M : Mem} {v1 : Int32} {Q : Int32 → Mem → Prop} (h : wpX4_about M v1 Q) : Kv l yX4_about cX4_about 2 (some .int) rm_X4_about G al mk M [.ref (al 200), .int v1] (QI G al mk Q) := by
  refine a_head (by decide) (Nat.le_of_ble_eq_true rfl) (fun p e s m below meth c X => ?_)
  have X : Cx p s m meth c G RX4 cX4_about 2 (some .int) := X
  unfold wpX4_about at h
  refine a_sub (ks := [0, 1]) (lo' := [(0, .ref (al 200)), (1, .int v1)]) rfl ?_
  refine a_aload_n X dX4_about_0 rfl 0 rfl ?_
  refine a_iconst (v := 0) X dX4_about_1 ic_0 ?_
  refine a_putI (k := 0) X fw4 iz_200 rfl flX4_61 rfl rfl dX4_about_2 (fun M_1 eM_1 => ?_)
  have h := h M_1 eM_1
  refine a_aload_n X dX4_about_5 rfl 0 rfl ?_
  refine a_getI (k := 28) X fw4 iz_200 rfl flX4_185 rfl dX4_about_6 ?_
  refine a_if_ne (tgt := 18) X dX4_about_9 (by decide) (fun z => ?_) (fun z => ?_)
  · have h := h.1 z
    refine a_iload_n X dX4_about_18 rfl 1 rfl ?_
    by_cases z0 : v1 = 0
    · have h := h.1 z0
      refine a_ts (k := 0) (tgt := 56) X z0 dX4_about_19 (by decide) (by decide) rfl (by decide) ?_
      refine a_aload_n X dX4_about_56 rfl 0 rfl ?_
      refine a_aload_n X dX4_about_57 rfl 0 rfl ?_
      refine a_getI (k := 28) X fw4 iz_200 rfl flX4_185 rfl dX4_about_58 ?_
      refine a_cVi (As := [.int (gI M_1 200 28)]) (st := []) X fw4 iz_200 (cX4_good_ok l h) mlX4_195 mvX4_good (rz rfl) (Nat.le_of_ble_eq_true rfl) rfl dX4_about_61 (fun r_3 M_2 h => ?_)
      exact a_iret X h dX4_about_64
    by_cases z1 : v1 = 1
    · have h := h.2.1 z1
      refine a_ts (k := 1) (tgt := 65) X z1 dX4_about_19 (by decide) (by decide) rfl (by decide) ?_
      refine a_aload_n X dX4_about_65 rfl 0 rfl ?_
      refine a_aload_n X dX4_about_66 rfl 0 rfl ?_
      refine a_getI (k := 29) X fw4 iz_200 rfl flX4_187 rfl dX4_about_67 ?_
      refine a_cVi (As := [.int (gI M_1 200 29)]) (st := []) X fw4 iz_200 (cX4_good_ok l h) mlX4_195 mvX4_good (rz rfl) (Nat.le_of_ble_eq_true rfl) rfl dX4_about_70 (fun r_5 M_4 h => ?_)
      exact a_iret X h dX4_about_73
    by_cases z2 : v1 = 2
    · have h := h.2.2.1 z2
      refine a_ts (k := 2) (tgt := 74) X z2 dX4_about_19 (by decide) (by decide) rfl (by decide) ?_
      refine a_aload_n X dX4_about_74 rfl 0 rfl ?_
      refine a_aload_n X dX4_about_75 rfl 0 rfl ?_
      refine a_aload_n X dX4_about_76 rfl 0 rfl ?_
      refine a_getR (k := 23) X 24 (b := 224) fw4 iz_200 rfl rfl flX4_43 rfl dX4_about_77 ?_
      refine a_cVi (As := [.ref (al 224)]) (st := [.ref (al 200)]) X fw4 iz_200 (cX4_sumOf_ok l iz_224 h) mlX4_243 mvX4_sumOf (rz rfl) (Nat.le_of_ble_eq_true rfl) rfl dX4_about_80 (fun r_7 M_6 h => ?_)
      refine a_cVi (As := [.int r_7]) (st := []) X fw4 iz_200 (cX4_good_ok l h) mlX4_195 mvX4_good (rz rfl) (Nat.le_of_ble_eq_true rfl) rfl dX4_about_83 (fun r_9 M_8 h => ?_)
      exact a_iret X h dX4_about_86
    by_cases z3 : v1 = 3
    · have h := h.2.2.2.1 z3
      refine a_ts (k := 3) (tgt := 87) X z3 dX4_about_19 (by decide) (by decide) rfl (by decide) ?_
      refine a_aload_n X dX4_about_87 rfl 0 rfl ?_
      refine a_aload_n X dX4_about_88 rfl 0 rfl ?_
      refine a_aload_n X dX4_about_89 rfl 0 rfl ?_
      refine a_getR (k := 22) X 23 (b := 223) fw4 iz_200 rfl rfl flX4_40 rfl dX4_about_90 ?_
      refine a_cVi (As := [.ref (al 223)]) (st := [.ref (al 200)]) X fw4 iz_200 (cX4_sumOf_ok l iz_223 h) mlX4_243 mvX4_sumOf (rz rfl) (Nat.le_of_ble_eq_true rfl) rfl dX4_about_93 (fun r_11 M_10 h => ?_)
      refine a_cVi (As := [.int r_11]) (st := []) X fw4 iz_200 (cX4_good_ok l h) mlX4_195 mvX4_good (rz rfl) (Nat.le_of_ble_eq_true rfl) rfl dX4_about_96 (fun r_13 M_12 h => ?_)
      exact a_iret X h dX4_about_99
    by_cases z4 : v1 = 4
    · have h := h.2.2.2.2.1 z4
      refine a_ts (k := 4) (tgt := 100) X z4 dX4_about_19 (by decide) (by decide) rfl (by decide) ?_
      refine a_aload_n X dX4_about_100 rfl 0 rfl ?_
      refine a_aload_n X dX4_about_101 rfl 0 rfl ?_
      refine a_aload_n X dX4_about_102 rfl 0 rfl ?_
      refine a_getR (k := 26) X 27 (b := 227) fw4 iz_200 rfl rfl flX4_52 rfl dX4_about_103 ?_
      refine a_cVi (As := [.ref (al 227)]) (st := [.ref (al 200)]) X fw4 iz_200 (cX4_sumOf_ok l iz_227 h) mlX4_243 mvX4_sumOf (rz rfl) (Nat.le_of_ble_eq_true rfl) rfl dX4_about_106 (fun r_15 M_14 h => ?_)
      refine a_cVi (As := [.int r_15]) (st := []) X fw4 iz_200 (cX4_good_ok l h) mlX4_195 mvX4_good (rz rfl) (Nat.le_of_ble_eq_true rfl) rfl dX4_about_109 (fun r_17 M_16 h => ?_)
      exact a_iret X h dX4_about_112
    by_cases z5 : v1 = 5
    · have h := h.2.2.2.2.2.1 z5
      refine a_ts (k := 5) (tgt := 113) X z5 dX4_about_19 (by decide) (by decide) rfl (by decide) ?_
      refine a_aload_n X dX4_about_113 rfl 0 rfl ?_
      refine a_aload_n X dX4_about_114 rfl 0 rfl ?_
      refine a_getI (k := 30) X fw4 iz_200 rfl flX4_58 rfl dX4_about_115 ?_
      refine a_cVi (As := [.int (gI M_1 200 30)]) (st := []) X fw4 iz_200 (cX4_good_ok l h) mlX4_195 mvX4_good (rz rfl) (Nat.le_of_ble_eq_true rfl) rfl dX4_about_118 (fun r_19 M_18 h => ?_)
      exact a_iret X h dX4_about_121
    have h := h.2.2.2.2.2.2 z0 z1 z2 z3 z4 z5
    refine a_tsD (tgt := 122) X dX4_about_19 (ts_out 6 (by decide) (fun k hk => by rcases (show k = 0 ∨ k = 1 ∨ k = 2 ∨ k = 3 ∨ k = 4 ∨ k = 5 by omega) with rfl | rfl | rfl | rfl | rfl | rfl <;> assumption)) (by decide) ?_
    refine a_aload_n X dX4_about_122 rfl 0 rfl ?_
    refine a_iconst (v := 1) X dX4_about_123 ic_1 ?_
    refine a_cVi (As := [.int 1]) (st := []) X fw4 iz_200 (cX4_refused_ok l h) mlX4_179 mvX4_refused (rz rfl) (Nat.le_of_ble_eq_true rfl) rfl dX4_about_124 (fun r_21 M_20 h => ?_)
    exact a_iret X h dX4_about_127
  · have h := h.2 z
    refine a_aload_n X dX4_about_12 rfl 0 rfl ?_
    refine a_iconst (v := 1) X dX4_about_13 ic_1 ?_
    refine a_cVi (As := [.int 1]) (st := []) X fw4 iz_200 (cX4_refused_ok l h) mlX4_179 mvX4_refused (rz rfl) (Nat.le_of_ble_eq_true rfl) rfl dX4_about_14 (fun r_23 M_22 h => ?_)
    exact a_iret X h dX4_about_17
abbrev rm_X4_widest : Room := { frames := 0, cells := 0, slots := 0, locals := 0 }
def wX4_widest_4 (Q : Int32 → Mem → Prop) (v1 : Int32) : Nat → Mem → Int32 → Int32 → Prop
  | 0, _, _, _ => False
  | n + 1, M, v2, v3 => (vp_in v1 6 ∧ (((gI M 223 (Int32.toNatClampNeg v1)) ≤ v3 → Q v2 M) ∧ (¬ (gI M 223 (Int32.toNatClampNeg v1)) ≤ v3 → (vp_in ((1000 * v1) + v3) 6000 ∧ (vp_in ((1000 * v1) + v3) 6000 ∧ ((((gI M 221 (Int32.toNatClampNeg ((1000 * v1) + v3))) + (gI M 222 (Int32.toNatClampNeg ((1000 * v1) + v3)))) ≤ v2 → wX4_widest_4 Q v1 n M v2 (v3 + 1)) ∧ (¬ ((gI M 221 (Int32.toNatClampNeg ((1000 * v1) + v3))) + (gI M 222 (Int32.toNatClampNeg ((1000 * v1) + v3)))) ≤ v2 → (vp_in ((1000 * v1) + v3) 6000 ∧ (vp_in ((1000 * v1) + v3) 6000 ∧ (∀ x_1 : Int32, x_1 = ((gI M 221 (Int32.toNatClampNeg ((1000 * v1) + v3))) + (gI M 222 (Int32.toNatClampNeg ((1000 * v1) + v3)))) → wX4_widest_4 Q v1 n M x_1 (v3 + 1)))))))))))
def wpX4_widest (M : Mem) (v1 : Int32) (Q : Int32 → Mem → Prop) : Prop := ∃ n, wX4_widest_4 Q v1 n M 0 0
set_option maxHeartbeats 4000000 in
set_option maxRecDepth 100000 in
theorem tX4_widest_4 (X : Cx p s m meth c G RX4 cX4_widest 4 (some .int)) {Q : Int32 → Mem → Prop} {v1 : Int32} : ∀ (n : Nat) (M : Mem) (v2 : Int32) (v3 : Int32), wX4_widest_4 Q v1 n M v2 v3 → Wa p l e rm_X4_widest s m args below meth c 4 G al mk 0 0 (MQ below (QI G al mk Q) args s 0 0 (gA G)) M 4 [(0, .ref (al 200)), (1, .int v1), (2, .int v2), (3, .int v3)] [] := by
  intro n
  induction n with
  | zero =>
    intro M v2 v3 h
    exact False.elim h
  | succ n ih =>
    intro M v2 v3 h
    rw [wX4_widest_4] at h
    refine a_iload_n X dX4_widest_4 rfl 3 rfl ?_
    refine a_aload_n X dX4_widest_5 rfl 0 rfl ?_
    refine a_getR (k := 22) X 23 (b := 223) fw4 iz_200 rfl rfl flX4_40 rfl dX4_widest_6 ?_
    refine a_iload_n X dX4_widest_9 rfl 1 rfl ?_
    refine a_iald X iz_223 h.1 dX4_widest_10 ?_
    have h := h.2
    refine a_icmp_ge (tgt := 75) X dX4_widest_11 (by decide) (fun z => ?_) (fun z => ?_)
    · have h := h.1 z
      refine a_iload_n X dX4_widest_75 rfl 2 rfl ?_
      exact a_iret X h dX4_widest_76
    · have h := h.2 z
      refine a_aload_n X dX4_widest_14 rfl 0 rfl ?_
      refine a_getR (k := 20) X 21 (b := 221) fw4 iz_200 rfl rfl flX4_34 rfl dX4_widest_15 ?_
      refine a_sipush (v := 1000) X dX4_widest_18 sc_1000 ?_
      refine a_iload_n X dX4_widest_21 rfl 1 rfl ?_
      refine a_imul X dX4_widest_22 ?_
      refine a_iload_n X dX4_widest_23 rfl 3 rfl ?_
      refine a_iadd X dX4_widest_24 ?_
      refine a_iald X iz_221 h.1 dX4_widest_25 ?_
      have h := h.2
      refine a_aload_n X dX4_widest_26 rfl 0 rfl ?_
      refine a_getR (k := 21) X 22 (b := 222) fw4 iz_200 rfl rfl flX4_37 rfl dX4_widest_27 ?_
      refine a_sipush (v := 1000) X dX4_widest_30 sc_1000 ?_
      refine a_iload_n X dX4_widest_33 rfl 1 rfl ?_
      refine a_imul X dX4_widest_34 ?_
      refine a_iload_n X dX4_widest_35 rfl 3 rfl ?_
      refine a_iadd X dX4_widest_36 ?_
      refine a_iald X iz_222 h.1 dX4_widest_37 ?_
      have h := h.2
      refine a_iadd X dX4_widest_38 ?_
      refine a_iload_n X dX4_widest_39 rfl 2 rfl ?_
      refine a_icmp_le (tgt := 69) X dX4_widest_40 (by decide) (fun z => ?_) (fun z => ?_)
      · have h := h.1 z
        refine a_iinc (v := v3 + 1) (lo' := [(3, .int (v3 + 1)), (0, .ref (al 200)), (1, .int v1), (2, .int v2)]) X dX4_widest_69 3 rfl (ii_1 _) (by decide) rfl ?_
        refine a_goto (tgt := 4) X dX4_widest_72 (by decide) ?_
        refine a_sub (ks := [1, 2, 3, 0]) (lo' := [(0, .ref (al 200)), (1, .int v1), (2, .int v2), (3, .int (v3 + 1))]) rfl ?_
        exact ih _ _ _ h
      · have h := h.2 z
        refine a_aload_n X dX4_widest_43 rfl 0 rfl ?_
        refine a_getR (k := 20) X 21 (b := 221) fw4 iz_200 rfl rfl flX4_34 rfl dX4_widest_44 ?_
        refine a_sipush (v := 1000) X dX4_widest_47 sc_1000 ?_
        refine a_iload_n X dX4_widest_50 rfl 1 rfl ?_
        refine a_imul X dX4_widest_51 ?_
        refine a_iload_n X dX4_widest_52 rfl 3 rfl ?_
        refine a_iadd X dX4_widest_53 ?_
        refine a_iald X iz_221 h.1 dX4_widest_54 ?_
        have h := h.2
        refine a_aload_n X dX4_widest_55 rfl 0 rfl ?_
        refine a_getR (k := 21) X 22 (b := 222) fw4 iz_200 rfl rfl flX4_37 rfl dX4_widest_56 ?_
        refine a_sipush (v := 1000) X dX4_widest_59 sc_1000 ?_
        refine a_iload_n X dX4_widest_62 rfl 1 rfl ?_
        refine a_imul X dX4_widest_63 ?_
        refine a_iload_n X dX4_widest_64 rfl 3 rfl ?_
        refine a_iadd X dX4_widest_65 ?_
        refine a_iald X iz_222 h.1 dX4_widest_66 ?_
        have h := h.2
        refine a_iadd X dX4_widest_67 ?_
        refine a_topi (fun x_1 ex_1 => ?_)
        have h := h x_1 ex_1
        refine a_istore_n (lo' := [(2, .int x_1), (0, .ref (al 200)), (1, .int v1), (3, .int v3)]) X dX4_widest_68 rfl (by decide) rfl ?_
        refine a_iinc (v := v3 + 1) (lo' := [(3, .int (v3 + 1)), (2, .int x_1), (0, .ref (al 200)), (1, .int v1)]) X dX4_widest_69 3 rfl (ii_1 _) (by decide) rfl ?_
        refine a_goto (tgt := 4) X dX4_widest_72 (by decide) ?_
        refine a_sub (ks := [2, 3, 1, 0]) (lo' := [(0, .ref (al 200)), (1, .int v1), (2, .int x_1), (3, .int (v3 + 1))]) rfl ?_
        exact ih _ _ _ h
set_option maxHeartbeats 4000000 in
set_option maxRecDepth 100000 in
theorem cX4_widest_ok (l : Launch) {G : Gl} {al : Nat → Nat} {mk : Nat} {M : Mem} {v1 : Int32} {Q : Int32 → Mem → Prop} (h : wpX4_widest M v1 Q) : Kv l yX4_widest cX4_widest 4 (some .int) rm_X4_widest G al mk M [.ref (al 200), .int v1] (QI G al mk Q) := by
  refine a_head (by decide) (Nat.le_of_ble_eq_true rfl) (fun p e s m below meth c X => ?_)
  have X : Cx p s m meth c G RX4 cX4_widest 4 (some .int) := X
  unfold wpX4_widest at h
  refine a_sub (ks := [0, 1]) (lo' := [(0, .ref (al 200)), (1, .int v1)]) rfl ?_
  refine a_iconst (v := 0) X dX4_widest_0 ic_0 ?_
  refine a_istore_n (lo' := [(2, .int 0), (0, .ref (al 200)), (1, .int v1)]) X dX4_widest_1 rfl (by decide) rfl ?_
  refine a_iconst (v := 0) X dX4_widest_2 ic_0 ?_
  refine a_istore_n (lo' := [(3, .int 0), (2, .int 0), (0, .ref (al 200)), (1, .int v1)]) X dX4_widest_3 rfl (by decide) rfl ?_
  refine a_sub (ks := [2, 3, 1, 0]) (lo' := [(0, .ref (al 200)), (1, .int v1), (2, .int 0), (3, .int 0)]) rfl ?_
  obtain ⟨n9, h⟩ := h
  exact tX4_widest_4 X n9 _ _ _ h
abbrev rm_X4_unlike : Room := { frames := 0, cells := 0, slots := 0, locals := 0 }
def wX4_unlike_4 (Q : Int32 → Mem → Prop) (v1 : Int32) : Nat → Mem → Int32 → Int32 → Prop
  | 0, _, _, _ => False
  | n + 1, M, v2, v3 => ((1000 ≤ v3 → Q v2 M) ∧ (¬ 1000 ≤ v3 → (vp_in ((1000 * v1) + v3) 4000 ∧ (((gI M 228 (Int32.toNatClampNeg ((1000 * v1) + v3))) ≤ 0 → (∀ x_1 : Int32, x_1 = (v2 + 0) → wX4_unlike_4 Q v1 n M x_1 (v3 + 1))) ∧ (¬ (gI M 228 (Int32.toNatClampNeg ((1000 * v1) + v3))) ≤ 0 → (∀ x_2 : Int32, x_2 = (v2 + 1) → wX4_unlike_4 Q v1 n M x_2 (v3 + 1)))))))
def wpX4_unlike (M : Mem) (v1 : Int32) (Q : Int32 → Mem → Prop) : Prop := ∃ n, wX4_unlike_4 Q v1 n M 0 0
set_option maxHeartbeats 4000000 in
set_option maxRecDepth 100000 in
theorem tX4_unlike_4 (X : Cx p s m meth c G RX4 cX4_unlike 4 (some .int)) {Q : Int32 → Mem → Prop} {v1 : Int32} : ∀ (n : Nat) (M : Mem) (v2 : Int32) (v3 : Int32), wX4_unlike_4 Q v1 n M v2 v3 → Wa p l e rm_X4_unlike s m args below meth c 4 G al mk 0 0 (MQ below (QI G al mk Q) args s 0 0 (gA G)) M 4 [(0, .ref (al 200)), (1, .int v1), (2, .int v2), (3, .int v3)] [] := by
  intro n
  induction n with
  | zero =>
    intro M v2 v3 h
    exact False.elim h
  | succ n ih =>
    intro M v2 v3 h
    rw [wX4_unlike_4] at h
    refine a_iload_n X dX4_unlike_4 rfl 3 rfl ?_
    refine a_sipush (v := 1000) X dX4_unlike_5 sc_1000 ?_
    refine a_icmp_ge (tgt := 40) X dX4_unlike_8 (by decide) (fun z => ?_) (fun z => ?_)
    · have h := h.1 z
      refine a_iload_n X dX4_unlike_40 rfl 2 rfl ?_
      exact a_iret X h dX4_unlike_41
    · have h := h.2 z
      refine a_iload_n X dX4_unlike_11 rfl 2 rfl ?_
      refine a_aload_n X dX4_unlike_12 rfl 0 rfl ?_
      refine a_getR (k := 27) X 28 (b := 228) fw4 iz_200 rfl rfl flX4_55 rfl dX4_unlike_13 ?_
      refine a_sipush (v := 1000) X dX4_unlike_16 sc_1000 ?_
      refine a_iload_n X dX4_unlike_19 rfl 1 rfl ?_
      refine a_imul X dX4_unlike_20 ?_
      refine a_iload_n X dX4_unlike_21 rfl 3 rfl ?_
      refine a_iadd X dX4_unlike_22 ?_
      refine a_iald X iz_228 h.1 dX4_unlike_23 ?_
      have h := h.2
      refine a_if_le (tgt := 31) X dX4_unlike_24 (by decide) (fun z => ?_) (fun z => ?_)
      · have h := h.1 z
        refine a_iconst (v := 0) X dX4_unlike_31 ic_0 ?_
        refine a_iadd X dX4_unlike_32 ?_
        refine a_topi (fun x_1 ex_1 => ?_)
        have h := h x_1 ex_1
        refine a_istore_n (lo' := [(2, .int x_1), (0, .ref (al 200)), (1, .int v1), (3, .int v3)]) X dX4_unlike_33 rfl (by decide) rfl ?_
        refine a_iinc (v := v3 + 1) (lo' := [(3, .int (v3 + 1)), (2, .int x_1), (0, .ref (al 200)), (1, .int v1)]) X dX4_unlike_34 3 rfl (ii_1 _) (by decide) rfl ?_
        refine a_goto (tgt := 4) X dX4_unlike_37 (by decide) ?_
        refine a_sub (ks := [2, 3, 1, 0]) (lo' := [(0, .ref (al 200)), (1, .int v1), (2, .int x_1), (3, .int (v3 + 1))]) rfl ?_
        exact ih _ _ _ h
      · have h := h.2 z
        refine a_iconst (v := 1) X dX4_unlike_27 ic_1 ?_
        refine a_goto (tgt := 32) X dX4_unlike_28 (by decide) ?_
        refine a_iadd X dX4_unlike_32 ?_
        refine a_topi (fun x_2 ex_2 => ?_)
        have h := h x_2 ex_2
        refine a_istore_n (lo' := [(2, .int x_2), (0, .ref (al 200)), (1, .int v1), (3, .int v3)]) X dX4_unlike_33 rfl (by decide) rfl ?_
        refine a_iinc (v := v3 + 1) (lo' := [(3, .int (v3 + 1)), (2, .int x_2), (0, .ref (al 200)), (1, .int v1)]) X dX4_unlike_34 3 rfl (ii_1 _) (by decide) rfl ?_
        refine a_goto (tgt := 4) X dX4_unlike_37 (by decide) ?_
        refine a_sub (ks := [2, 3, 1, 0]) (lo' := [(0, .ref (al 200)), (1, .int v1), (2, .int x_2), (3, .int (v3 + 1))]) rfl ?_
        exact ih _ _ _ h
set_option maxHeartbeats 4000000 in
set_option maxRecDepth 100000 in
theorem cX4_unlike_ok (l : Launch) {G : Gl} {al : Nat → Nat} {mk : Nat} {M : Mem} {v1 : Int32} {Q : Int32 → Mem → Prop} (h : wpX4_unlike M v1 Q) : Kv l yX4_unlike cX4_unlike 4 (some .int) rm_X4_unlike G al mk M [.ref (al 200), .int v1] (QI G al mk Q) := by
  refine a_head (by decide) (Nat.le_of_ble_eq_true rfl) (fun p e s m below meth c X => ?_)
  have X : Cx p s m meth c G RX4 cX4_unlike 4 (some .int) := X
  unfold wpX4_unlike at h
  refine a_sub (ks := [0, 1]) (lo' := [(0, .ref (al 200)), (1, .int v1)]) rfl ?_
  refine a_iconst (v := 0) X dX4_unlike_0 ic_0 ?_
  refine a_istore_n (lo' := [(2, .int 0), (0, .ref (al 200)), (1, .int v1)]) X dX4_unlike_1 rfl (by decide) rfl ?_
  refine a_iconst (v := 0) X dX4_unlike_2 ic_0 ?_
  refine a_istore_n (lo' := [(3, .int 0), (2, .int 0), (0, .ref (al 200)), (1, .int v1)]) X dX4_unlike_3 rfl (by decide) rfl ?_
  refine a_sub (ks := [2, 3, 1, 0]) (lo' := [(0, .ref (al 200)), (1, .int v1), (2, .int 0), (3, .int 0)]) rfl ?_
  obtain ⟨n9, h⟩ := h
  exact tX4_unlike_4 X n9 _ _ _ h
abbrev rm_X4_stream : Room := { frames := 2, cells := 0, slots := 0, locals := 43 }
def wpX4_stream (M : Mem) (v1 : Int32) (v2 : Int32) (Q : Int32 → Mem → Prop) : Prop := (∀ M_1 : Mem, M_1 = pI M 200 0 0 → wpX4_isStream M_1 v1 (fun r_3 M_2 => ((¬ r_3 = 0 → ((v2 = 0 → (vp_in v1 6 ∧ wpX4_good M_2 (gI M_2 224 (Int32.toNatClampNeg v1)) (fun r_5 M_4 => Q r_5 M_4))) ∧ (v2 = 1 → (vp_in v1 6 ∧ wpX4_good M_2 (gI M_2 223 (Int32.toNatClampNeg v1)) (fun r_7 M_6 => Q r_7 M_6))) ∧ (v2 = 2 → wpX4_boundOf M_2 v1 (fun r_9 M_8 => wpX4_good M_8 r_9 (fun r_11 M_10 => Q r_11 M_10))) ∧ (v2 = 3 → (vp_in v1 4 ∧ wpX4_good M_2 (gI M_2 225 (Int32.toNatClampNeg v1)) (fun r_13 M_12 => Q r_13 M_12))) ∧ (v2 = 4 → (vp_in v1 4 ∧ wpX4_good M_2 (gI M_2 226 (Int32.toNatClampNeg v1)) (fun r_15 M_14 => Q r_15 M_14))) ∧ (v2 = 5 → (vp_in v1 4 ∧ wpX4_good M_2 (gI M_2 227 (Int32.toNatClampNeg v1)) (fun r_17 M_16 => Q r_17 M_16))) ∧ (v2 = 6 → (vp_in v1 6 ∧ ((¬ (gI M_2 223 (Int32.toNatClampNeg v1)) = 0 → (vp_in (1000 * v1) 6000 ∧ wpX4_good M_2 (gI M_2 220 (Int32.toNatClampNeg (1000 * v1))) (fun r_19 M_18 => Q r_19 M_18))) ∧ ((gI M_2 223 (Int32.toNatClampNeg v1)) = 0 → wpX4_good M_2 (-2) (fun r_21 M_20 => Q r_21 M_20))))) ∧ (v2 = 7 → (vp_in v1 6 ∧ ((¬ (gI M_2 223 (Int32.toNatClampNeg v1)) = 0 → (vp_in v1 6 ∧ (vp_in (((1000 * v1) + (gI M_2 223 (Int32.toNatClampNeg v1))) - 1) 6000 ∧ wpX4_good M_2 (gI M_2 220 (Int32.toNatClampNeg (((1000 * v1) + (gI M_2 223 (Int32.toNatClampNeg v1))) - 1))) (fun r_23 M_22 => Q r_23 M_22)))) ∧ ((gI M_2 223 (Int32.toNatClampNeg v1)) = 0 → wpX4_good M_2 (-2) (fun r_25 M_24 => Q r_25 M_24))))) ∧ (v2 = 8 → wpX4_widest M_2 v1 (fun r_27 M_26 => wpX4_good M_26 r_27 (fun r_29 M_28 => Q r_29 M_28))) ∧ (v2 = 9 → wpX4_unlike M_2 v1 (fun r_31 M_30 => wpX4_good M_30 r_31 (fun r_33 M_32 => Q r_33 M_32))) ∧ (¬ v2 = 0 → ¬ v2 = 1 → ¬ v2 = 2 → ¬ v2 = 3 → ¬ v2 = 4 → ¬ v2 = 5 → ¬ v2 = 6 → ¬ v2 = 7 → ¬ v2 = 8 → ¬ v2 = 9 → wpX4_refused M_2 1 (fun r_35 M_34 => Q r_35 M_34)))) ∧ (r_3 = 0 → wpX4_refused M_2 1 (fun r_37 M_36 => Q r_37 M_36)))))
set_option maxHeartbeats 4000000 in
set_option maxRecDepth 100000 in
theorem cX4_stream_ok (l : Launch) {G : Gl} {al : Nat → Nat} {mk : Nat} {M : Mem} {v1 : Int32} {v2 : Int32} {Q : Int32 → Mem → Prop} (h : wpX4_stream M v1 v2 Q) : Kv l yX4_stream cX4_stream 3 (some .int) rm_X4_stream G al mk M [.ref (al 200), .int v1, .int v2] (QI G al mk Q) := by
  refine a_head (by decide) (Nat.le_of_ble_eq_true rfl) (fun p e s m below meth c X => ?_)
  have X : Cx p s m meth c G RX4 cX4_stream 3 (some .int) := X
  unfold wpX4_stream at h
  refine a_sub (ks := [0, 1, 2]) (lo' := [(0, .ref (al 200)), (1, .int v1), (2, .int v2)]) rfl ?_
  refine a_aload_n X dX4_stream_0 rfl 0 rfl ?_
  refine a_iconst (v := 0) X dX4_stream_1 ic_0 ?_
  refine a_putI (k := 0) X fw4 iz_200 rfl flX4_61 rfl rfl dX4_stream_2 (fun M_1 eM_1 => ?_)
  have h := h M_1 eM_1
  refine a_aload_n X dX4_stream_5 rfl 0 rfl ?_
  refine a_iload_n X dX4_stream_6 rfl 1 rfl ?_
  refine a_cVi (As := [.int v1]) (st := []) X fw4 iz_200 (cX4_isStream_ok l h) mlX4_247 mvX4_isStream (rz rfl) (Nat.le_of_ble_eq_true rfl) rfl dX4_stream_7 (fun r_3 M_2 h => ?_)
  refine a_if_ne (tgt := 19) X dX4_stream_10 (by decide) (fun z => ?_) (fun z => ?_)
  · have h := h.1 z
    refine a_iload_n X dX4_stream_19 rfl 2 rfl ?_
    by_cases z0 : v2 = 0
    · have h := h.1 z0
      refine a_ts (k := 0) (tgt := 76) X z0 dX4_stream_20 (by decide) (by decide) rfl (by decide) ?_
      refine a_aload_n X dX4_stream_76 rfl 0 rfl ?_
      refine a_aload_n X dX4_stream_77 rfl 0 rfl ?_
      refine a_getR (k := 23) X 24 (b := 224) fw4 iz_200 rfl rfl flX4_43 rfl dX4_stream_78 ?_
      refine a_iload_n X dX4_stream_81 rfl 1 rfl ?_
      refine a_iald X iz_224 h.1 dX4_stream_82 ?_
      have h := h.2
      refine a_cVi (As := [.int (gI M_2 224 (Int32.toNatClampNeg v1))]) (st := []) X fw4 iz_200 (cX4_good_ok l h) mlX4_195 mvX4_good (rz rfl) (Nat.le_of_ble_eq_true rfl) rfl dX4_stream_83 (fun r_5 M_4 h => ?_)
      exact a_iret X h dX4_stream_86
    by_cases z1 : v2 = 1
    · have h := h.2.1 z1
      refine a_ts (k := 1) (tgt := 87) X z1 dX4_stream_20 (by decide) (by decide) rfl (by decide) ?_
      refine a_aload_n X dX4_stream_87 rfl 0 rfl ?_
      refine a_aload_n X dX4_stream_88 rfl 0 rfl ?_
      refine a_getR (k := 22) X 23 (b := 223) fw4 iz_200 rfl rfl flX4_40 rfl dX4_stream_89 ?_
      refine a_iload_n X dX4_stream_92 rfl 1 rfl ?_
      refine a_iald X iz_223 h.1 dX4_stream_93 ?_
      have h := h.2
      refine a_cVi (As := [.int (gI M_2 223 (Int32.toNatClampNeg v1))]) (st := []) X fw4 iz_200 (cX4_good_ok l h) mlX4_195 mvX4_good (rz rfl) (Nat.le_of_ble_eq_true rfl) rfl dX4_stream_94 (fun r_7 M_6 h => ?_)
      exact a_iret X h dX4_stream_97
    by_cases z2 : v2 = 2
    · have h := h.2.2.1 z2
      refine a_ts (k := 2) (tgt := 98) X z2 dX4_stream_20 (by decide) (by decide) rfl (by decide) ?_
      refine a_aload_n X dX4_stream_98 rfl 0 rfl ?_
      refine a_aload_n X dX4_stream_99 rfl 0 rfl ?_
      refine a_iload_n X dX4_stream_100 rfl 1 rfl ?_
      refine a_cVi (As := [.int v1]) (st := [.ref (al 200)]) X fw4 iz_200 (cX4_boundOf_ok l h) mlX4_237 mvX4_boundOf (rz rfl) (Nat.le_of_ble_eq_true rfl) rfl dX4_stream_101 (fun r_9 M_8 h => ?_)
      refine a_cVi (As := [.int r_9]) (st := []) X fw4 iz_200 (cX4_good_ok l h) mlX4_195 mvX4_good (rz rfl) (Nat.le_of_ble_eq_true rfl) rfl dX4_stream_104 (fun r_11 M_10 h => ?_)
      exact a_iret X h dX4_stream_107
    by_cases z3 : v2 = 3
    · have h := h.2.2.2.1 z3
      refine a_ts (k := 3) (tgt := 108) X z3 dX4_stream_20 (by decide) (by decide) rfl (by decide) ?_
      refine a_aload_n X dX4_stream_108 rfl 0 rfl ?_
      refine a_aload_n X dX4_stream_109 rfl 0 rfl ?_
      refine a_getR (k := 24) X 25 (b := 225) fw4 iz_200 rfl rfl flX4_46 rfl dX4_stream_110 ?_
      refine a_iload_n X dX4_stream_113 rfl 1 rfl ?_
      refine a_iald X iz_225 h.1 dX4_stream_114 ?_
      have h := h.2
      refine a_cVi (As := [.int (gI M_2 225 (Int32.toNatClampNeg v1))]) (st := []) X fw4 iz_200 (cX4_good_ok l h) mlX4_195 mvX4_good (rz rfl) (Nat.le_of_ble_eq_true rfl) rfl dX4_stream_115 (fun r_13 M_12 h => ?_)
      exact a_iret X h dX4_stream_118
    by_cases z4 : v2 = 4
    · have h := h.2.2.2.2.1 z4
      refine a_ts (k := 4) (tgt := 119) X z4 dX4_stream_20 (by decide) (by decide) rfl (by decide) ?_
      refine a_aload_n X dX4_stream_119 rfl 0 rfl ?_
      refine a_aload_n X dX4_stream_120 rfl 0 rfl ?_
      refine a_getR (k := 25) X 26 (b := 226) fw4 iz_200 rfl rfl flX4_49 rfl dX4_stream_121 ?_
      refine a_iload_n X dX4_stream_124 rfl 1 rfl ?_
      refine a_iald X iz_226 h.1 dX4_stream_125 ?_
      have h := h.2
      refine a_cVi (As := [.int (gI M_2 226 (Int32.toNatClampNeg v1))]) (st := []) X fw4 iz_200 (cX4_good_ok l h) mlX4_195 mvX4_good (rz rfl) (Nat.le_of_ble_eq_true rfl) rfl dX4_stream_126 (fun r_15 M_14 h => ?_)
      exact a_iret X h dX4_stream_129
    by_cases z5 : v2 = 5
    · have h := h.2.2.2.2.2.1 z5
      refine a_ts (k := 5) (tgt := 130) X z5 dX4_stream_20 (by decide) (by decide) rfl (by decide) ?_
      refine a_aload_n X dX4_stream_130 rfl 0 rfl ?_
      refine a_aload_n X dX4_stream_131 rfl 0 rfl ?_
      refine a_getR (k := 26) X 27 (b := 227) fw4 iz_200 rfl rfl flX4_52 rfl dX4_stream_132 ?_
      refine a_iload_n X dX4_stream_135 rfl 1 rfl ?_
      refine a_iald X iz_227 h.1 dX4_stream_136 ?_
      have h := h.2
      refine a_cVi (As := [.int (gI M_2 227 (Int32.toNatClampNeg v1))]) (st := []) X fw4 iz_200 (cX4_good_ok l h) mlX4_195 mvX4_good (rz rfl) (Nat.le_of_ble_eq_true rfl) rfl dX4_stream_137 (fun r_17 M_16 h => ?_)
      exact a_iret X h dX4_stream_140
    by_cases z6 : v2 = 6
    · have h := h.2.2.2.2.2.2.1 z6
      refine a_ts (k := 6) (tgt := 141) X z6 dX4_stream_20 (by decide) (by decide) rfl (by decide) ?_
      refine a_aload_n X dX4_stream_141 rfl 0 rfl ?_
      refine a_aload_n X dX4_stream_142 rfl 0 rfl ?_
      refine a_getR (k := 22) X 23 (b := 223) fw4 iz_200 rfl rfl flX4_40 rfl dX4_stream_143 ?_
      refine a_iload_n X dX4_stream_146 rfl 1 rfl ?_
      refine a_iald X iz_223 h.1 dX4_stream_147 ?_
      have h := h.2
      refine a_if_ne (tgt := 156) X dX4_stream_148 (by decide) (fun z => ?_) (fun z => ?_)
      · have h := h.1 z
        refine a_aload_n X dX4_stream_156 rfl 0 rfl ?_
        refine a_getR (k := 19) X 20 (b := 220) fw4 iz_200 rfl rfl flX4_31 rfl dX4_stream_157 ?_
        refine a_sipush (v := 1000) X dX4_stream_160 sc_1000 ?_
        refine a_iload_n X dX4_stream_163 rfl 1 rfl ?_
        refine a_imul X dX4_stream_164 ?_
        refine a_iald X iz_220 h.1 dX4_stream_165 ?_
        have h := h.2
        refine a_cVi (As := [.int (gI M_2 220 (Int32.toNatClampNeg (1000 * v1)))]) (st := []) X fw4 iz_200 (cX4_good_ok l h) mlX4_195 mvX4_good (rz rfl) (Nat.le_of_ble_eq_true rfl) rfl dX4_stream_166 (fun r_19 M_18 h => ?_)
        exact a_iret X h dX4_stream_169
      · have h := h.2 z
        refine a_bipush (v := (-2)) X dX4_stream_151 bc_m2 ?_
        refine a_goto (tgt := 166) X dX4_stream_153 (by decide) ?_
        refine a_cVi (As := [.int (-2)]) (st := []) X fw4 iz_200 (cX4_good_ok l h) mlX4_195 mvX4_good (rz rfl) (Nat.le_of_ble_eq_true rfl) rfl dX4_stream_166 (fun r_21 M_20 h => ?_)
        exact a_iret X h dX4_stream_169
    by_cases z7 : v2 = 7
    · have h := h.2.2.2.2.2.2.2.1 z7
      refine a_ts (k := 7) (tgt := 170) X z7 dX4_stream_20 (by decide) (by decide) rfl (by decide) ?_
      refine a_aload_n X dX4_stream_170 rfl 0 rfl ?_
      refine a_aload_n X dX4_stream_171 rfl 0 rfl ?_
      refine a_getR (k := 22) X 23 (b := 223) fw4 iz_200 rfl rfl flX4_40 rfl dX4_stream_172 ?_
      refine a_iload_n X dX4_stream_175 rfl 1 rfl ?_
      refine a_iald X iz_223 h.1 dX4_stream_176 ?_
      have h := h.2
      refine a_if_ne (tgt := 185) X dX4_stream_177 (by decide) (fun z => ?_) (fun z => ?_)
      · have h := h.1 z
        refine a_aload_n X dX4_stream_185 rfl 0 rfl ?_
        refine a_getR (k := 19) X 20 (b := 220) fw4 iz_200 rfl rfl flX4_31 rfl dX4_stream_186 ?_
        refine a_sipush (v := 1000) X dX4_stream_189 sc_1000 ?_
        refine a_iload_n X dX4_stream_192 rfl 1 rfl ?_
        refine a_imul X dX4_stream_193 ?_
        refine a_aload_n X dX4_stream_194 rfl 0 rfl ?_
        refine a_getR (k := 22) X 23 (b := 223) fw4 iz_200 rfl rfl flX4_40 rfl dX4_stream_195 ?_
        refine a_iload_n X dX4_stream_198 rfl 1 rfl ?_
        refine a_iald X iz_223 h.1 dX4_stream_199 ?_
        have h := h.2
        refine a_iadd X dX4_stream_200 ?_
        refine a_iconst (v := 1) X dX4_stream_201 ic_1 ?_
        refine a_isub X dX4_stream_202 ?_
        refine a_iald X iz_220 h.1 dX4_stream_203 ?_
        have h := h.2
        refine a_cVi (As := [.int (gI M_2 220 (Int32.toNatClampNeg (((1000 * v1) + (gI M_2 223 (Int32.toNatClampNeg v1))) - 1)))]) (st := []) X fw4 iz_200 (cX4_good_ok l h) mlX4_195 mvX4_good (rz rfl) (Nat.le_of_ble_eq_true rfl) rfl dX4_stream_204 (fun r_23 M_22 h => ?_)
        exact a_iret X h dX4_stream_207
      · have h := h.2 z
        refine a_bipush (v := (-2)) X dX4_stream_180 bc_m2 ?_
        refine a_goto (tgt := 204) X dX4_stream_182 (by decide) ?_
        refine a_cVi (As := [.int (-2)]) (st := []) X fw4 iz_200 (cX4_good_ok l h) mlX4_195 mvX4_good (rz rfl) (Nat.le_of_ble_eq_true rfl) rfl dX4_stream_204 (fun r_25 M_24 h => ?_)
        exact a_iret X h dX4_stream_207
    by_cases z8 : v2 = 8
    · have h := h.2.2.2.2.2.2.2.2.1 z8
      refine a_ts (k := 8) (tgt := 208) X z8 dX4_stream_20 (by decide) (by decide) rfl (by decide) ?_
      refine a_aload_n X dX4_stream_208 rfl 0 rfl ?_
      refine a_aload_n X dX4_stream_209 rfl 0 rfl ?_
      refine a_iload_n X dX4_stream_210 rfl 1 rfl ?_
      refine a_cVi (As := [.int v1]) (st := [.ref (al 200)]) X fw4 iz_200 (cX4_widest_ok l h) mlX4_251 mvX4_widest (rz rfl) (Nat.le_of_ble_eq_true rfl) rfl dX4_stream_211 (fun r_27 M_26 h => ?_)
      refine a_cVi (As := [.int r_27]) (st := []) X fw4 iz_200 (cX4_good_ok l h) mlX4_195 mvX4_good (rz rfl) (Nat.le_of_ble_eq_true rfl) rfl dX4_stream_214 (fun r_29 M_28 h => ?_)
      exact a_iret X h dX4_stream_217
    by_cases z9 : v2 = 9
    · have h := h.2.2.2.2.2.2.2.2.2.1 z9
      refine a_ts (k := 9) (tgt := 218) X z9 dX4_stream_20 (by decide) (by decide) rfl (by decide) ?_
      refine a_aload_n X dX4_stream_218 rfl 0 rfl ?_
      refine a_aload_n X dX4_stream_219 rfl 0 rfl ?_
      refine a_iload_n X dX4_stream_220 rfl 1 rfl ?_
      refine a_cVi (As := [.int v1]) (st := [.ref (al 200)]) X fw4 iz_200 (cX4_unlike_ok l h) mlX4_254 mvX4_unlike (rz rfl) (Nat.le_of_ble_eq_true rfl) rfl dX4_stream_221 (fun r_31 M_30 h => ?_)
      refine a_cVi (As := [.int r_31]) (st := []) X fw4 iz_200 (cX4_good_ok l h) mlX4_195 mvX4_good (rz rfl) (Nat.le_of_ble_eq_true rfl) rfl dX4_stream_224 (fun r_33 M_32 h => ?_)
      exact a_iret X h dX4_stream_227
    have h := h.2.2.2.2.2.2.2.2.2.2 z0 z1 z2 z3 z4 z5 z6 z7 z8 z9
    refine a_tsD (tgt := 228) X dX4_stream_20 (ts_out 10 (by decide) (fun k hk => by rcases (show k = 0 ∨ k = 1 ∨ k = 2 ∨ k = 3 ∨ k = 4 ∨ k = 5 ∨ k = 6 ∨ k = 7 ∨ k = 8 ∨ k = 9 by omega) with rfl | rfl | rfl | rfl | rfl | rfl | rfl | rfl | rfl | rfl <;> assumption)) (by decide) ?_
    refine a_aload_n X dX4_stream_228 rfl 0 rfl ?_
    refine a_iconst (v := 1) X dX4_stream_229 ic_1 ?_
    refine a_cVi (As := [.int 1]) (st := []) X fw4 iz_200 (cX4_refused_ok l h) mlX4_179 mvX4_refused (rz rfl) (Nat.le_of_ble_eq_true rfl) rfl dX4_stream_230 (fun r_35 M_34 h => ?_)
    exact a_iret X h dX4_stream_233
  · have h := h.2 z
    refine a_aload_n X dX4_stream_13 rfl 0 rfl ?_
    refine a_iconst (v := 1) X dX4_stream_14 ic_1 ?_
    refine a_cVi (As := [.int 1]) (st := []) X fw4 iz_200 (cX4_refused_ok l h) mlX4_179 mvX4_refused (rz rfl) (Nat.le_of_ble_eq_true rfl) rfl dX4_stream_15 (fun r_37 M_36 h => ?_)
    exact a_iret X h dX4_stream_18
abbrev rm_X4_isTuple : Room := { frames := 2, cells := 0, slots := 0, locals := 43 }
def wpX4_isTuple (M : Mem) (v1 : Int32) (v2 : Int32) (Q : Int32 → Mem → Prop) : Prop := wpX4_isStream M v1 (fun r_2 M_1 => ((r_2 = 0 → Q 0 M_1) ∧ (¬ r_2 = 0 → (vp_in v1 6 ∧ wpX4_in M_1 v2 0 ((gI M_1 223 (Int32.toNatClampNeg v1)) - 1) (fun r_4 M_3 => ((r_4 = 0 → Q 0 M_3) ∧ (¬ r_4 = 0 → Q 1 M_3)))))))
set_option maxHeartbeats 4000000 in
set_option maxRecDepth 100000 in
theorem cX4_isTuple_ok (l : Launch) {G : Gl} {al : Nat → Nat} {mk : Nat} {M : Mem} {v1 : Int32} {v2 : Int32} {Q : Int32 → Mem → Prop} (h : wpX4_isTuple M v1 v2 Q) : Kv l yX4_isTuple cX4_isTuple 3 (some .boolean) rm_X4_isTuple G al mk M [.ref (al 200), .int v1, .int v2] (QI G al mk Q) := by
  refine a_head (by decide) (Nat.le_of_ble_eq_true rfl) (fun p e s m below meth c X => ?_)
  have X : Cx p s m meth c G RX4 cX4_isTuple 3 (some .boolean) := X
  unfold wpX4_isTuple at h
  refine a_sub (ks := [0, 1, 2]) (lo' := [(0, .ref (al 200)), (1, .int v1), (2, .int v2)]) rfl ?_
  refine a_aload_n X dX4_isTuple_0 rfl 0 rfl ?_
  refine a_iload_n X dX4_isTuple_1 rfl 1 rfl ?_
  refine a_cVi (As := [.int v1]) (st := []) X fw4 iz_200 (cX4_isStream_ok l h) mlX4_247 mvX4_isStream (rz rfl) (Nat.le_of_ble_eq_true rfl) rfl dX4_isTuple_2 (fun r_2 M_1 h => ?_)
  refine a_if_eq (tgt := 28) X dX4_isTuple_5 (by decide) (fun z => ?_) (fun z => ?_)
  · have h := h.1 z
    refine a_iconst (v := 0) X dX4_isTuple_28 ic_0 ?_
    exact a_zret X (by decide) h dX4_isTuple_29
  · have h := h.2 z
    refine a_iload_n X dX4_isTuple_8 rfl 2 rfl ?_
    refine a_iconst (v := 0) X dX4_isTuple_9 ic_0 ?_
    refine a_aload_n X dX4_isTuple_10 rfl 0 rfl ?_
    refine a_getR (k := 22) X 23 (b := 223) fw4 iz_200 rfl rfl flX4_40 rfl dX4_isTuple_11 ?_
    refine a_iload_n X dX4_isTuple_14 rfl 1 rfl ?_
    refine a_iald X iz_223 h.1 dX4_isTuple_15 ?_
    have h := h.2
    refine a_iconst (v := 1) X dX4_isTuple_16 ic_1 ?_
    refine a_isub X dX4_isTuple_17 ?_
    refine a_cSi (As := [.int v2, .int 0, .int ((gI M_1 223 (Int32.toNatClampNeg v1)) - 1)]) (st := []) X (cX4_in_ok l h) mlX4_86 msX4_in (rz rfl) (Nat.le_of_ble_eq_true rfl) rfl dX4_isTuple_18 (fun r_4 M_3 h => ?_)
    refine a_if_eq (tgt := 28) X dX4_isTuple_21 (by decide) (fun z => ?_) (fun z => ?_)
    · have h := h.1 z
      refine a_iconst (v := 0) X dX4_isTuple_28 ic_0 ?_
      exact a_zret X (by decide) h dX4_isTuple_29
    · have h := h.2 z
      refine a_iconst (v := 1) X dX4_isTuple_24 ic_1 ?_
      refine a_goto (tgt := 29) X dX4_isTuple_25 (by decide) ?_
      exact a_zret X (by decide) h dX4_isTuple_29
abbrev rm_X4_low : Room := { frames := 1, cells := 0, slots := 0, locals := 25 }
def wpX4_low (M : Mem) (v1 : Int32) (v2 : Int32) (Q : Int32 → Mem → Prop) : Prop := wpX4_gaps M v1 0 v2 (fun r_2 M_1 => Q r_2 M_1)
set_option maxHeartbeats 4000000 in
set_option maxRecDepth 100000 in
theorem cX4_low_ok (l : Launch) {G : Gl} {al : Nat → Nat} {mk : Nat} {M : Mem} {v1 : Int32} {v2 : Int32} {Q : Int32 → Mem → Prop} (h : wpX4_low M v1 v2 Q) : Kv l yX4_low cX4_low 3 (some .int) rm_X4_low G al mk M [.ref (al 200), .int v1, .int v2] (QI G al mk Q) := by
  refine a_head (by decide) (Nat.le_of_ble_eq_true rfl) (fun p e s m below meth c X => ?_)
  have X : Cx p s m meth c G RX4 cX4_low 3 (some .int) := X
  unfold wpX4_low at h
  refine a_sub (ks := [0, 1, 2]) (lo' := [(0, .ref (al 200)), (1, .int v1), (2, .int v2)]) rfl ?_
  refine a_aload_n X dX4_low_0 rfl 0 rfl ?_
  refine a_iload_n X dX4_low_1 rfl 1 rfl ?_
  refine a_iconst (v := 0) X dX4_low_2 ic_0 ?_
  refine a_iload_n X dX4_low_3 rfl 2 rfl ?_
  refine a_cVi (As := [.int v1, .int 0, .int v2]) (st := []) X fw4 iz_200 (cX4_gaps_ok l h) mlX4_231 mvX4_gaps (rz rfl) (Nat.le_of_ble_eq_true rfl) rfl dX4_low_4 (fun r_2 M_1 h => ?_)
  exact a_iret X h dX4_low_7
abbrev rm_X4_high : Room := { frames := 2, cells := 0, slots := 0, locals := 47 }
def wpX4_high (M : Mem) (v1 : Int32) (v2 : Int32) (Q : Int32 → Mem → Prop) : Prop := wpX4_low M v1 v2 (fun r_2 M_1 => (vp_in ((1000 * v1) + v2) 6000 ∧ Q (r_2 + (gI M_1 222 (Int32.toNatClampNeg ((1000 * v1) + v2)))) M_1))
set_option maxHeartbeats 4000000 in
set_option maxRecDepth 100000 in
theorem cX4_high_ok (l : Launch) {G : Gl} {al : Nat → Nat} {mk : Nat} {M : Mem} {v1 : Int32} {v2 : Int32} {Q : Int32 → Mem → Prop} (h : wpX4_high M v1 v2 Q) : Kv l yX4_high cX4_high 3 (some .int) rm_X4_high G al mk M [.ref (al 200), .int v1, .int v2] (QI G al mk Q) := by
  refine a_head (by decide) (Nat.le_of_ble_eq_true rfl) (fun p e s m below meth c X => ?_)
  have X : Cx p s m meth c G RX4 cX4_high 3 (some .int) := X
  unfold wpX4_high at h
  refine a_sub (ks := [0, 1, 2]) (lo' := [(0, .ref (al 200)), (1, .int v1), (2, .int v2)]) rfl ?_
  refine a_aload_n X dX4_high_0 rfl 0 rfl ?_
  refine a_iload_n X dX4_high_1 rfl 1 rfl ?_
  refine a_iload_n X dX4_high_2 rfl 2 rfl ?_
  refine a_cVi (As := [.int v1, .int v2]) (st := []) X fw4 iz_200 (cX4_low_ok l h) mlX4_257 mvX4_low (rz rfl) (Nat.le_of_ble_eq_true rfl) rfl dX4_high_3 (fun r_2 M_1 h => ?_)
  refine a_aload_n X dX4_high_6 rfl 0 rfl ?_
  refine a_getR (k := 21) X 22 (b := 222) fw4 iz_200 rfl rfl flX4_37 rfl dX4_high_7 ?_
  refine a_sipush (v := 1000) X dX4_high_10 sc_1000 ?_
  refine a_iload_n X dX4_high_13 rfl 1 rfl ?_
  refine a_imul X dX4_high_14 ?_
  refine a_iload_n X dX4_high_15 rfl 2 rfl ?_
  refine a_iadd X dX4_high_16 ?_
  refine a_iald X iz_222 h.1 dX4_high_17 ?_
  have h := h.2
  refine a_iadd X dX4_high_18 ?_
  exact a_iret X h dX4_high_19
abbrev rm_X4_tuple : Room := { frames := 3, cells := 0, slots := 0, locals := 69 }
def wpX4_tuple (M : Mem) (v1 : Int32) (v2 : Int32) (v3 : Int32) (Q : Int32 → Mem → Prop) : Prop := (∀ M_1 : Mem, M_1 = pI M 200 0 0 → wpX4_isTuple M_1 v1 v2 (fun r_3 M_2 => ((¬ r_3 = 0 → ((v3 = 0 → (vp_in ((1000 * v1) + v2) 6000 ∧ wpX4_good M_2 (gI M_2 220 (Int32.toNatClampNeg ((1000 * v1) + v2))) (fun r_5 M_4 => Q r_5 M_4))) ∧ (v3 = 1 → (vp_in ((1000 * v1) + v2) 6000 ∧ wpX4_good M_2 (gI M_2 221 (Int32.toNatClampNeg ((1000 * v1) + v2))) (fun r_7 M_6 => Q r_7 M_6))) ∧ (v3 = 2 → (vp_in ((1000 * v1) + v2) 6000 ∧ wpX4_good M_2 (gI M_2 222 (Int32.toNatClampNeg ((1000 * v1) + v2))) (fun r_9 M_8 => Q r_9 M_8))) ∧ (v3 = 3 → wpX4_low M_2 v1 v2 (fun r_11 M_10 => wpX4_good M_10 r_11 (fun r_13 M_12 => Q r_13 M_12))) ∧ (v3 = 4 → wpX4_high M_2 v1 v2 (fun r_15 M_14 => wpX4_good M_14 r_15 (fun r_17 M_16 => Q r_17 M_16))) ∧ (v3 = 5 → wpX4_boundOf M_2 v1 (fun r_19 M_18 => wpX4_bandAt M_18 v1 v2 r_19 (fun r_21 M_20 => wpX4_good M_20 r_21 (fun r_23 M_22 => Q r_23 M_22)))) ∧ (v3 = 6 → wpX4_boundOf M_2 v1 (fun r_25 M_24 => wpX4_familyFrom M_24 v1 v2 r_25 (fun r_27 M_26 => wpX4_good M_26 ((v2 - r_27) + 1) (fun r_29 M_28 => Q r_29 M_28)))) ∧ (¬ v3 = 0 → ¬ v3 = 1 → ¬ v3 = 2 → ¬ v3 = 3 → ¬ v3 = 4 → ¬ v3 = 5 → ¬ v3 = 6 → wpX4_refused M_2 1 (fun r_31 M_30 => Q r_31 M_30)))) ∧ (r_3 = 0 → wpX4_refused M_2 1 (fun r_33 M_32 => Q r_33 M_32)))))
set_option maxHeartbeats 4000000 in
set_option maxRecDepth 100000 in
theorem cX4_tuple_ok (l : Launch) {G : Gl} {al : Nat → Nat} {mk : Nat} {M : Mem} {v1 : Int32} {v2 : Int32} {v3 : Int32} {Q : Int32 → Mem → Prop} (h : wpX4_tuple M v1 v2 v3 Q) : Kv l yX4_tuple cX4_tuple 4 (some .int) rm_X4_tuple G al mk M [.ref (al 200), .int v1, .int v2, .int v3] (QI G al mk Q) := by
  refine a_head (by decide) (Nat.le_of_ble_eq_true rfl) (fun p e s m below meth c X => ?_)
  have X : Cx p s m meth c G RX4 cX4_tuple 4 (some .int) := X
  unfold wpX4_tuple at h
  refine a_sub (ks := [0, 1, 2, 3]) (lo' := [(0, .ref (al 200)), (1, .int v1), (2, .int v2), (3, .int v3)]) rfl ?_
  refine a_aload_n X dX4_tuple_0 rfl 0 rfl ?_
  refine a_iconst (v := 0) X dX4_tuple_1 ic_0 ?_
  refine a_putI (k := 0) X fw4 iz_200 rfl flX4_61 rfl rfl dX4_tuple_2 (fun M_1 eM_1 => ?_)
  have h := h M_1 eM_1
  refine a_aload_n X dX4_tuple_5 rfl 0 rfl ?_
  refine a_iload_n X dX4_tuple_6 rfl 1 rfl ?_
  refine a_iload_n X dX4_tuple_7 rfl 2 rfl ?_
  refine a_cVi (As := [.int v1, .int v2]) (st := []) X fw4 iz_200 (cX4_isTuple_ok l h) mlX4_260 mvX4_isTuple (rz rfl) (Nat.le_of_ble_eq_true rfl) rfl dX4_tuple_8 (fun r_3 M_2 h => ?_)
  refine a_if_ne (tgt := 20) X dX4_tuple_11 (by decide) (fun z => ?_) (fun z => ?_)
  · have h := h.1 z
    refine a_iload_n X dX4_tuple_20 rfl 3 rfl ?_
    by_cases z0 : v3 = 0
    · have h := h.1 z0
      refine a_ts (k := 0) (tgt := 64) X z0 dX4_tuple_21 (by decide) (by decide) rfl (by decide) ?_
      refine a_aload_n X dX4_tuple_64 rfl 0 rfl ?_
      refine a_aload_n X dX4_tuple_65 rfl 0 rfl ?_
      refine a_getR (k := 19) X 20 (b := 220) fw4 iz_200 rfl rfl flX4_31 rfl dX4_tuple_66 ?_
      refine a_sipush (v := 1000) X dX4_tuple_69 sc_1000 ?_
      refine a_iload_n X dX4_tuple_72 rfl 1 rfl ?_
      refine a_imul X dX4_tuple_73 ?_
      refine a_iload_n X dX4_tuple_74 rfl 2 rfl ?_
      refine a_iadd X dX4_tuple_75 ?_
      refine a_iald X iz_220 h.1 dX4_tuple_76 ?_
      have h := h.2
      refine a_cVi (As := [.int (gI M_2 220 (Int32.toNatClampNeg ((1000 * v1) + v2)))]) (st := []) X fw4 iz_200 (cX4_good_ok l h) mlX4_195 mvX4_good (rz rfl) (Nat.le_of_ble_eq_true rfl) rfl dX4_tuple_77 (fun r_5 M_4 h => ?_)
      exact a_iret X h dX4_tuple_80
    by_cases z1 : v3 = 1
    · have h := h.2.1 z1
      refine a_ts (k := 1) (tgt := 81) X z1 dX4_tuple_21 (by decide) (by decide) rfl (by decide) ?_
      refine a_aload_n X dX4_tuple_81 rfl 0 rfl ?_
      refine a_aload_n X dX4_tuple_82 rfl 0 rfl ?_
      refine a_getR (k := 20) X 21 (b := 221) fw4 iz_200 rfl rfl flX4_34 rfl dX4_tuple_83 ?_
      refine a_sipush (v := 1000) X dX4_tuple_86 sc_1000 ?_
      refine a_iload_n X dX4_tuple_89 rfl 1 rfl ?_
      refine a_imul X dX4_tuple_90 ?_
      refine a_iload_n X dX4_tuple_91 rfl 2 rfl ?_
      refine a_iadd X dX4_tuple_92 ?_
      refine a_iald X iz_221 h.1 dX4_tuple_93 ?_
      have h := h.2
      refine a_cVi (As := [.int (gI M_2 221 (Int32.toNatClampNeg ((1000 * v1) + v2)))]) (st := []) X fw4 iz_200 (cX4_good_ok l h) mlX4_195 mvX4_good (rz rfl) (Nat.le_of_ble_eq_true rfl) rfl dX4_tuple_94 (fun r_7 M_6 h => ?_)
      exact a_iret X h dX4_tuple_97
    by_cases z2 : v3 = 2
    · have h := h.2.2.1 z2
      refine a_ts (k := 2) (tgt := 98) X z2 dX4_tuple_21 (by decide) (by decide) rfl (by decide) ?_
      refine a_aload_n X dX4_tuple_98 rfl 0 rfl ?_
      refine a_aload_n X dX4_tuple_99 rfl 0 rfl ?_
      refine a_getR (k := 21) X 22 (b := 222) fw4 iz_200 rfl rfl flX4_37 rfl dX4_tuple_100 ?_
      refine a_sipush (v := 1000) X dX4_tuple_103 sc_1000 ?_
      refine a_iload_n X dX4_tuple_106 rfl 1 rfl ?_
      refine a_imul X dX4_tuple_107 ?_
      refine a_iload_n X dX4_tuple_108 rfl 2 rfl ?_
      refine a_iadd X dX4_tuple_109 ?_
      refine a_iald X iz_222 h.1 dX4_tuple_110 ?_
      have h := h.2
      refine a_cVi (As := [.int (gI M_2 222 (Int32.toNatClampNeg ((1000 * v1) + v2)))]) (st := []) X fw4 iz_200 (cX4_good_ok l h) mlX4_195 mvX4_good (rz rfl) (Nat.le_of_ble_eq_true rfl) rfl dX4_tuple_111 (fun r_9 M_8 h => ?_)
      exact a_iret X h dX4_tuple_114
    by_cases z3 : v3 = 3
    · have h := h.2.2.2.1 z3
      refine a_ts (k := 3) (tgt := 115) X z3 dX4_tuple_21 (by decide) (by decide) rfl (by decide) ?_
      refine a_aload_n X dX4_tuple_115 rfl 0 rfl ?_
      refine a_aload_n X dX4_tuple_116 rfl 0 rfl ?_
      refine a_iload_n X dX4_tuple_117 rfl 1 rfl ?_
      refine a_iload_n X dX4_tuple_118 rfl 2 rfl ?_
      refine a_cVi (As := [.int v1, .int v2]) (st := [.ref (al 200)]) X fw4 iz_200 (cX4_low_ok l h) mlX4_257 mvX4_low (rz rfl) (Nat.le_of_ble_eq_true rfl) rfl dX4_tuple_119 (fun r_11 M_10 h => ?_)
      refine a_cVi (As := [.int r_11]) (st := []) X fw4 iz_200 (cX4_good_ok l h) mlX4_195 mvX4_good (rz rfl) (Nat.le_of_ble_eq_true rfl) rfl dX4_tuple_122 (fun r_13 M_12 h => ?_)
      exact a_iret X h dX4_tuple_125
    by_cases z4 : v3 = 4
    · have h := h.2.2.2.2.1 z4
      refine a_ts (k := 4) (tgt := 126) X z4 dX4_tuple_21 (by decide) (by decide) rfl (by decide) ?_
      refine a_aload_n X dX4_tuple_126 rfl 0 rfl ?_
      refine a_aload_n X dX4_tuple_127 rfl 0 rfl ?_
      refine a_iload_n X dX4_tuple_128 rfl 1 rfl ?_
      refine a_iload_n X dX4_tuple_129 rfl 2 rfl ?_
      refine a_cVi (As := [.int v1, .int v2]) (st := [.ref (al 200)]) X fw4 iz_200 (cX4_high_ok l h) mlX4_264 mvX4_high (rz rfl) (Nat.le_of_ble_eq_true rfl) rfl dX4_tuple_130 (fun r_15 M_14 h => ?_)
      refine a_cVi (As := [.int r_15]) (st := []) X fw4 iz_200 (cX4_good_ok l h) mlX4_195 mvX4_good (rz rfl) (Nat.le_of_ble_eq_true rfl) rfl dX4_tuple_133 (fun r_17 M_16 h => ?_)
      exact a_iret X h dX4_tuple_136
    by_cases z5 : v3 = 5
    · have h := h.2.2.2.2.2.1 z5
      refine a_ts (k := 5) (tgt := 137) X z5 dX4_tuple_21 (by decide) (by decide) rfl (by decide) ?_
      refine a_aload_n X dX4_tuple_137 rfl 0 rfl ?_
      refine a_aload_n X dX4_tuple_138 rfl 0 rfl ?_
      refine a_iload_n X dX4_tuple_139 rfl 1 rfl ?_
      refine a_iload_n X dX4_tuple_140 rfl 2 rfl ?_
      refine a_aload_n X dX4_tuple_141 rfl 0 rfl ?_
      refine a_iload_n X dX4_tuple_142 rfl 1 rfl ?_
      refine a_cVi (As := [.int v1]) (st := [.int v2, .int v1, .ref (al 200), .ref (al 200)]) X fw4 iz_200 (cX4_boundOf_ok l h) mlX4_237 mvX4_boundOf (rz rfl) (Nat.le_of_ble_eq_true rfl) rfl dX4_tuple_143 (fun r_19 M_18 h => ?_)
      refine a_cVi (As := [.int v1, .int v2, .int r_19]) (st := [.ref (al 200)]) X fw4 iz_200 (cX4_bandAt_ok l h) mlX4_224 mvX4_bandAt (rz rfl) (Nat.le_of_ble_eq_true rfl) rfl dX4_tuple_146 (fun r_21 M_20 h => ?_)
      refine a_cVi (As := [.int r_21]) (st := []) X fw4 iz_200 (cX4_good_ok l h) mlX4_195 mvX4_good (rz rfl) (Nat.le_of_ble_eq_true rfl) rfl dX4_tuple_149 (fun r_23 M_22 h => ?_)
      exact a_iret X h dX4_tuple_152
    by_cases z6 : v3 = 6
    · have h := h.2.2.2.2.2.2.1 z6
      refine a_ts (k := 6) (tgt := 153) X z6 dX4_tuple_21 (by decide) (by decide) rfl (by decide) ?_
      refine a_aload_n X dX4_tuple_153 rfl 0 rfl ?_
      refine a_iload_n X dX4_tuple_154 rfl 2 rfl ?_
      refine a_aload_n X dX4_tuple_155 rfl 0 rfl ?_
      refine a_iload_n X dX4_tuple_156 rfl 1 rfl ?_
      refine a_iload_n X dX4_tuple_157 rfl 2 rfl ?_
      refine a_aload_n X dX4_tuple_158 rfl 0 rfl ?_
      refine a_iload_n X dX4_tuple_159 rfl 1 rfl ?_
      refine a_cVi (As := [.int v1]) (st := [.int v2, .int v1, .ref (al 200), .int v2, .ref (al 200)]) X fw4 iz_200 (cX4_boundOf_ok l h) mlX4_237 mvX4_boundOf (rz rfl) (Nat.le_of_ble_eq_true rfl) rfl dX4_tuple_160 (fun r_25 M_24 h => ?_)
      refine a_cVi (As := [.int v1, .int v2, .int r_25]) (st := [.int v2, .ref (al 200)]) X fw4 iz_200 (cX4_familyFrom_ok l h) mlX4_228 mvX4_familyFrom (rz rfl) (Nat.le_of_ble_eq_true rfl) rfl dX4_tuple_163 (fun r_27 M_26 h => ?_)
      refine a_isub X dX4_tuple_166 ?_
      refine a_iconst (v := 1) X dX4_tuple_167 ic_1 ?_
      refine a_iadd X dX4_tuple_168 ?_
      refine a_cVi (As := [.int ((v2 - r_27) + 1)]) (st := []) X fw4 iz_200 (cX4_good_ok l h) mlX4_195 mvX4_good (rz rfl) (Nat.le_of_ble_eq_true rfl) rfl dX4_tuple_169 (fun r_29 M_28 h => ?_)
      exact a_iret X h dX4_tuple_172
    have h := h.2.2.2.2.2.2.2 z0 z1 z2 z3 z4 z5 z6
    refine a_tsD (tgt := 173) X dX4_tuple_21 (ts_out 7 (by decide) (fun k hk => by rcases (show k = 0 ∨ k = 1 ∨ k = 2 ∨ k = 3 ∨ k = 4 ∨ k = 5 ∨ k = 6 by omega) with rfl | rfl | rfl | rfl | rfl | rfl | rfl <;> assumption)) (by decide) ?_
    refine a_aload_n X dX4_tuple_173 rfl 0 rfl ?_
    refine a_iconst (v := 1) X dX4_tuple_174 ic_1 ?_
    refine a_cVi (As := [.int 1]) (st := []) X fw4 iz_200 (cX4_refused_ok l h) mlX4_179 mvX4_refused (rz rfl) (Nat.le_of_ble_eq_true rfl) rfl dX4_tuple_175 (fun r_31 M_30 h => ?_)
    exact a_iret X h dX4_tuple_178
  · have h := h.2 z
    refine a_aload_n X dX4_tuple_14 rfl 0 rfl ?_
    refine a_iconst (v := 1) X dX4_tuple_15 ic_1 ?_
    refine a_cVi (As := [.int 1]) (st := []) X fw4 iz_200 (cX4_refused_ok l h) mlX4_179 mvX4_refused (rz rfl) (Nat.le_of_ble_eq_true rfl) rfl dX4_tuple_16 (fun r_33 M_32 h => ?_)
    exact a_iret X h dX4_tuple_19
abbrev rm_X4_goes : Room := { frames := 4, cells := 0, slots := 0, locals := 92 }
def wpX4_goes (M : Mem) (v1 : Int32) (v2 : Int32) (Q : Int32 → Mem → Prop) : Prop := (∀ M_1 : Mem, M_1 = pI M 200 0 0 → wpX4_isTuple M_1 v1 v2 (fun r_3 M_2 => ((¬ r_3 = 0 → wpX4_boundOf M_2 v1 (fun r_5 M_4 => wpX4_canGo M_4 v1 v2 r_5 (fun r_7 M_6 => ((r_7 = 0 → wpX4_good M_6 0 (fun r_9 M_8 => Q r_9 M_8)) ∧ (¬ r_7 = 0 → wpX4_good M_6 1 (fun r_11 M_10 => Q r_11 M_10)))))) ∧ (r_3 = 0 → wpX4_refused M_2 1 (fun r_13 M_12 => Q r_13 M_12)))))
set_option maxHeartbeats 4000000 in
set_option maxRecDepth 100000 in
theorem cX4_goes_ok (l : Launch) {G : Gl} {al : Nat → Nat} {mk : Nat} {M : Mem} {v1 : Int32} {v2 : Int32} {Q : Int32 → Mem → Prop} (h : wpX4_goes M v1 v2 Q) : Kv l yX4_goes cX4_goes 3 (some .int) rm_X4_goes G al mk M [.ref (al 200), .int v1, .int v2] (QI G al mk Q) := by
  refine a_head (by decide) (Nat.le_of_ble_eq_true rfl) (fun p e s m below meth c X => ?_)
  have X : Cx p s m meth c G RX4 cX4_goes 3 (some .int) := X
  unfold wpX4_goes at h
  refine a_sub (ks := [0, 1, 2]) (lo' := [(0, .ref (al 200)), (1, .int v1), (2, .int v2)]) rfl ?_
  refine a_aload_n X dX4_goes_0 rfl 0 rfl ?_
  refine a_iconst (v := 0) X dX4_goes_1 ic_0 ?_
  refine a_putI (k := 0) X fw4 iz_200 rfl flX4_61 rfl rfl dX4_goes_2 (fun M_1 eM_1 => ?_)
  have h := h M_1 eM_1
  refine a_aload_n X dX4_goes_5 rfl 0 rfl ?_
  refine a_iload_n X dX4_goes_6 rfl 1 rfl ?_
  refine a_iload_n X dX4_goes_7 rfl 2 rfl ?_
  refine a_cVi (As := [.int v1, .int v2]) (st := []) X fw4 iz_200 (cX4_isTuple_ok l h) mlX4_260 mvX4_isTuple (rz rfl) (Nat.le_of_ble_eq_true rfl) rfl dX4_goes_8 (fun r_3 M_2 h => ?_)
  refine a_if_ne (tgt := 20) X dX4_goes_11 (by decide) (fun z => ?_) (fun z => ?_)
  · have h := h.1 z
    refine a_aload_n X dX4_goes_20 rfl 0 rfl ?_
    refine a_aload_n X dX4_goes_21 rfl 0 rfl ?_
    refine a_iload_n X dX4_goes_22 rfl 1 rfl ?_
    refine a_iload_n X dX4_goes_23 rfl 2 rfl ?_
    refine a_aload_n X dX4_goes_24 rfl 0 rfl ?_
    refine a_iload_n X dX4_goes_25 rfl 1 rfl ?_
    refine a_cVi (As := [.int v1]) (st := [.int v2, .int v1, .ref (al 200), .ref (al 200)]) X fw4 iz_200 (cX4_boundOf_ok l h) mlX4_237 mvX4_boundOf (rz rfl) (Nat.le_of_ble_eq_true rfl) rfl dX4_goes_26 (fun r_5 M_4 h => ?_)
    refine a_cVi (As := [.int v1, .int v2, .int r_5]) (st := [.ref (al 200)]) X fw4 iz_200 (cX4_canGo_ok l h) mlX4_234 mvX4_canGo (rz rfl) (Nat.le_of_ble_eq_true rfl) rfl dX4_goes_29 (fun r_7 M_6 h => ?_)
    refine a_if_eq (tgt := 39) X dX4_goes_32 (by decide) (fun z => ?_) (fun z => ?_)
    · have h := h.1 z
      refine a_iconst (v := 0) X dX4_goes_39 ic_0 ?_
      refine a_cVi (As := [.int 0]) (st := []) X fw4 iz_200 (cX4_good_ok l h) mlX4_195 mvX4_good (rz rfl) (Nat.le_of_ble_eq_true rfl) rfl dX4_goes_40 (fun r_9 M_8 h => ?_)
      exact a_iret X h dX4_goes_43
    · have h := h.2 z
      refine a_iconst (v := 1) X dX4_goes_35 ic_1 ?_
      refine a_goto (tgt := 40) X dX4_goes_36 (by decide) ?_
      refine a_cVi (As := [.int 1]) (st := []) X fw4 iz_200 (cX4_good_ok l h) mlX4_195 mvX4_good (rz rfl) (Nat.le_of_ble_eq_true rfl) rfl dX4_goes_40 (fun r_11 M_10 h => ?_)
      exact a_iret X h dX4_goes_43
  · have h := h.2 z
    refine a_aload_n X dX4_goes_14 rfl 0 rfl ?_
    refine a_iconst (v := 1) X dX4_goes_15 ic_1 ?_
    refine a_cVi (As := [.int 1]) (st := []) X fw4 iz_200 (cX4_refused_ok l h) mlX4_179 mvX4_refused (rz rfl) (Nat.le_of_ble_eq_true rfl) rfl dX4_goes_16 (fun r_13 M_12 h => ?_)
    exact a_iret X h dX4_goes_19
abbrev rm_X4_band : Room := { frames := 1, cells := 0, slots := 0, locals := 22 }
def wpX4_band (M : Mem) (v1 : Int32) (v2 : Int32) (Q : Int32 → Mem → Prop) : Prop := (∀ M_1 : Mem, M_1 = pI M 200 0 0 → wpX4_in M_1 v1 0 999 (fun r_3 M_2 => ((r_3 = 0 → wpX4_refused M_2 2 (fun r_5 M_4 => Q r_5 M_4)) ∧ (¬ r_3 = 0 → wpX4_in M_2 v2 1 1000 (fun r_7 M_6 => ((r_7 = 0 → wpX4_refused M_6 2 (fun r_9 M_8 => Q r_9 M_8)) ∧ (¬ r_7 = 0 → wpX4_bandOf M_6 v1 v2 (fun r_11 M_10 => wpX4_good M_10 r_11 (fun r_13 M_12 => Q r_13 M_12)))))))))
set_option maxHeartbeats 4000000 in
set_option maxRecDepth 100000 in
theorem cX4_band_ok (l : Launch) {G : Gl} {al : Nat → Nat} {mk : Nat} {M : Mem} {v1 : Int32} {v2 : Int32} {Q : Int32 → Mem → Prop} (h : wpX4_band M v1 v2 Q) : Kv l yX4_band cX4_band 3 (some .int) rm_X4_band G al mk M [.ref (al 200), .int v1, .int v2] (QI G al mk Q) := by
  refine a_head (by decide) (Nat.le_of_ble_eq_true rfl) (fun p e s m below meth c X => ?_)
  have X : Cx p s m meth c G RX4 cX4_band 3 (some .int) := X
  unfold wpX4_band at h
  refine a_sub (ks := [0, 1, 2]) (lo' := [(0, .ref (al 200)), (1, .int v1), (2, .int v2)]) rfl ?_
  refine a_aload_n X dX4_band_0 rfl 0 rfl ?_
  refine a_iconst (v := 0) X dX4_band_1 ic_0 ?_
  refine a_putI (k := 0) X fw4 iz_200 rfl flX4_61 rfl rfl dX4_band_2 (fun M_1 eM_1 => ?_)
  have h := h M_1 eM_1
  refine a_iload_n X dX4_band_5 rfl 1 rfl ?_
  refine a_iconst (v := 0) X dX4_band_6 ic_0 ?_
  refine a_sipush (v := 999) X dX4_band_7 sc_999 ?_
  refine a_cSi (As := [.int v1, .int 0, .int 999]) (st := []) X (cX4_in_ok l h) mlX4_86 msX4_in (rz rfl) (Nat.le_of_ble_eq_true rfl) rfl dX4_band_10 (fun r_3 M_2 h => ?_)
  refine a_if_eq (tgt := 39) X dX4_band_13 (by decide) (fun z => ?_) (fun z => ?_)
  · have h := h.1 z
    refine a_aload_n X dX4_band_39 rfl 0 rfl ?_
    refine a_iconst (v := 2) X dX4_band_40 ic_2 ?_
    refine a_cVi (As := [.int 2]) (st := []) X fw4 iz_200 (cX4_refused_ok l h) mlX4_179 mvX4_refused (rz rfl) (Nat.le_of_ble_eq_true rfl) rfl dX4_band_41 (fun r_5 M_4 h => ?_)
    exact a_iret X h dX4_band_44
  · have h := h.2 z
    refine a_iload_n X dX4_band_16 rfl 2 rfl ?_
    refine a_iconst (v := 1) X dX4_band_17 ic_1 ?_
    refine a_sipush (v := 1000) X dX4_band_18 sc_1000 ?_
    refine a_cSi (As := [.int v2, .int 1, .int 1000]) (st := []) X (cX4_in_ok l h) mlX4_86 msX4_in (rz rfl) (Nat.le_of_ble_eq_true rfl) rfl dX4_band_21 (fun r_7 M_6 h => ?_)
    refine a_if_eq (tgt := 39) X dX4_band_24 (by decide) (fun z => ?_) (fun z => ?_)
    · have h := h.1 z
      refine a_aload_n X dX4_band_39 rfl 0 rfl ?_
      refine a_iconst (v := 2) X dX4_band_40 ic_2 ?_
      refine a_cVi (As := [.int 2]) (st := []) X fw4 iz_200 (cX4_refused_ok l h) mlX4_179 mvX4_refused (rz rfl) (Nat.le_of_ble_eq_true rfl) rfl dX4_band_41 (fun r_9 M_8 h => ?_)
      exact a_iret X h dX4_band_44
    · have h := h.2 z
      refine a_aload_n X dX4_band_27 rfl 0 rfl ?_
      refine a_iload_n X dX4_band_28 rfl 1 rfl ?_
      refine a_iload_n X dX4_band_29 rfl 2 rfl ?_
      refine a_cSi (As := [.int v1, .int v2]) (st := [.ref (al 200)]) X (cX4_bandOf_ok l h) mlX4_221 msX4_bandOf (rz rfl) (Nat.le_of_ble_eq_true rfl) rfl dX4_band_30 (fun r_11 M_10 h => ?_)
      refine a_cVi (As := [.int r_11]) (st := []) X fw4 iz_200 (cX4_good_ok l h) mlX4_195 mvX4_good (rz rfl) (Nat.le_of_ble_eq_true rfl) rfl dX4_band_33 (fun r_13 M_12 h => ?_)
      refine a_goto (tgt := 44) X dX4_band_36 (by decide) ?_
      exact a_iret X h dX4_band_44
abbrev rm_X4_bands : Room := { frames := 2, cells := 0, slots := 0, locals := 45 }
def wX4_bands_40 (Q : Int32 → Mem → Prop) (v1 : Int32) (v2 : Int32) : Nat → Mem → Int32 → Int32 → Prop
  | 0, _, _, _ => False
  | n + 1, M, v3, v4 => (vp_in v1 6 ∧ (((gI M 223 (Int32.toNatClampNeg v1)) ≤ v4 → wpX4_good M v3 (fun r_7 M_6 => Q r_7 M_6)) ∧ (¬ (gI M 223 (Int32.toNatClampNeg v1)) ≤ v4 → wpX4_boundOf M v1 (fun r_9 M_8 => wpX4_bandAt M_8 v1 v4 r_9 (fun r_11 M_10 => ((¬ r_11 = v2 → (∀ x_12 : Int32, x_12 = (v3 + 0) → wX4_bands_40 Q v1 v2 n M_10 x_12 (v4 + 1))) ∧ (r_11 = v2 → (∀ x_13 : Int32, x_13 = (v3 + 1) → wX4_bands_40 Q v1 v2 n M_10 x_13 (v4 + 1)))))))))
def wpX4_bands (M : Mem) (v1 : Int32) (v2 : Int32) (Q : Int32 → Mem → Prop) : Prop := (∀ M_1 : Mem, M_1 = pI M 200 0 0 → wpX4_isStream M_1 v1 (fun r_3 M_2 => ((¬ r_3 = 0 → wpX4_in M_2 v2 0 12 (fun r_5 M_4 => ((¬ r_5 = 0 → ∃ n, wX4_bands_40 Q v1 v2 n M_4 0 0) ∧ (r_5 = 0 → wpX4_refused M_4 2 (fun r_15 M_14 => Q r_15 M_14))))) ∧ (r_3 = 0 → wpX4_refused M_2 1 (fun r_17 M_16 => Q r_17 M_16)))))
set_option maxHeartbeats 4000000 in
set_option maxRecDepth 100000 in
theorem tX4_bands_40 (X : Cx p s m meth c G RX4 cX4_bands 5 (some .int)) {Q : Int32 → Mem → Prop} {v1 : Int32} {v2 : Int32} : ∀ (n : Nat) (M : Mem) (v3 : Int32) (v4 : Int32), wX4_bands_40 Q v1 v2 n M v3 v4 → Wa p l e rm_X4_bands s m args below meth c 5 G al mk 0 0 (MQ below (QI G al mk Q) args s 0 0 (gA G)) M 40 [(0, .ref (al 200)), (1, .int v1), (2, .int v2), (3, .int v3), (4, .int v4)] [] := by
  intro n
  induction n with
  | zero =>
    intro M v3 v4 h
    exact False.elim h
  | succ n ih =>
    intro M v3 v4 h
    rw [wX4_bands_40] at h
    refine a_iload X dX4_bands_40 4 rfl ?_
    refine a_aload_n X dX4_bands_42 rfl 0 rfl ?_
    refine a_getR (k := 22) X 23 (b := 223) fw4 iz_200 rfl rfl flX4_40 rfl dX4_bands_43 ?_
    refine a_iload_n X dX4_bands_46 rfl 1 rfl ?_
    refine a_iald X iz_223 h.1 dX4_bands_47 ?_
    have h := h.2
    refine a_icmp_ge (tgt := 81) X dX4_bands_48 (by decide) (fun z => ?_) (fun z => ?_)
    · have h := h.1 z
      refine a_aload_n X dX4_bands_81 rfl 0 rfl ?_
      refine a_iload_n X dX4_bands_82 rfl 3 rfl ?_
      refine a_cVi (As := [.int v3]) (st := []) X fw4 iz_200 (cX4_good_ok l h) mlX4_195 mvX4_good (rz rfl) (Nat.le_of_ble_eq_true rfl) rfl dX4_bands_83 (fun r_7 M_6 h => ?_)
      exact a_iret X h dX4_bands_86
    · have h := h.2 z
      refine a_iload_n X dX4_bands_51 rfl 3 rfl ?_
      refine a_aload_n X dX4_bands_52 rfl 0 rfl ?_
      refine a_iload_n X dX4_bands_53 rfl 1 rfl ?_
      refine a_iload X dX4_bands_54 4 rfl ?_
      refine a_aload_n X dX4_bands_56 rfl 0 rfl ?_
      refine a_iload_n X dX4_bands_57 rfl 1 rfl ?_
      refine a_cVi (As := [.int v1]) (st := [.int v4, .int v1, .ref (al 200), .int v3]) X fw4 iz_200 (cX4_boundOf_ok l h) mlX4_237 mvX4_boundOf (rz rfl) (Nat.le_of_ble_eq_true rfl) rfl dX4_bands_58 (fun r_9 M_8 h => ?_)
      refine a_cVi (As := [.int v1, .int v4, .int r_9]) (st := [.int v3]) X fw4 iz_200 (cX4_bandAt_ok l h) mlX4_224 mvX4_bandAt (rz rfl) (Nat.le_of_ble_eq_true rfl) rfl dX4_bands_61 (fun r_11 M_10 h => ?_)
      refine a_iload_n X dX4_bands_64 rfl 2 rfl ?_
      refine a_icmp_ne (tgt := 72) X dX4_bands_65 (by decide) (fun z => ?_) (fun z => ?_)
      · have h := h.1 z
        refine a_iconst (v := 0) X dX4_bands_72 ic_0 ?_
        refine a_iadd X dX4_bands_73 ?_
        refine a_topi (fun x_12 ex_12 => ?_)
        have h := h x_12 ex_12
        refine a_istore_n (lo' := [(3, .int x_12), (0, .ref (al 200)), (1, .int v1), (2, .int v2), (4, .int v4)]) X dX4_bands_74 rfl (by decide) rfl ?_
        refine a_iinc (v := v4 + 1) (lo' := [(4, .int (v4 + 1)), (3, .int x_12), (0, .ref (al 200)), (1, .int v1), (2, .int v2)]) X dX4_bands_75 4 rfl (ii_1 _) (by decide) rfl ?_
        refine a_goto (tgt := 40) X dX4_bands_78 (by decide) ?_
        refine a_sub (ks := [2, 3, 4, 1, 0]) (lo' := [(0, .ref (al 200)), (1, .int v1), (2, .int v2), (3, .int x_12), (4, .int (v4 + 1))]) rfl ?_
        exact ih _ _ _ h
      · have h := h.2 z
        refine a_iconst (v := 1) X dX4_bands_68 ic_1 ?_
        refine a_goto (tgt := 73) X dX4_bands_69 (by decide) ?_
        refine a_iadd X dX4_bands_73 ?_
        refine a_topi (fun x_13 ex_13 => ?_)
        have h := h x_13 ex_13
        refine a_istore_n (lo' := [(3, .int x_13), (0, .ref (al 200)), (1, .int v1), (2, .int v2), (4, .int v4)]) X dX4_bands_74 rfl (by decide) rfl ?_
        refine a_iinc (v := v4 + 1) (lo' := [(4, .int (v4 + 1)), (3, .int x_13), (0, .ref (al 200)), (1, .int v1), (2, .int v2)]) X dX4_bands_75 4 rfl (ii_1 _) (by decide) rfl ?_
        refine a_goto (tgt := 40) X dX4_bands_78 (by decide) ?_
        refine a_sub (ks := [2, 3, 4, 1, 0]) (lo' := [(0, .ref (al 200)), (1, .int v1), (2, .int v2), (3, .int x_13), (4, .int (v4 + 1))]) rfl ?_
        exact ih _ _ _ h
set_option maxHeartbeats 4000000 in
set_option maxRecDepth 100000 in
theorem cX4_bands_ok (l : Launch) {G : Gl} {al : Nat → Nat} {mk : Nat} {M : Mem} {v1 : Int32} {v2 : Int32} {Q : Int32 → Mem → Prop} (h : wpX4_bands M v1 v2 Q) : Kv l yX4_bands cX4_bands 5 (some .int) rm_X4_bands G al mk M [.ref (al 200), .int v1, .int v2] (QI G al mk Q) := by
  refine a_head (by decide) (Nat.le_of_ble_eq_true rfl) (fun p e s m below meth c X => ?_)
  have X : Cx p s m meth c G RX4 cX4_bands 5 (some .int) := X
  unfold wpX4_bands at h
  refine a_sub (ks := [0, 1, 2]) (lo' := [(0, .ref (al 200)), (1, .int v1), (2, .int v2)]) rfl ?_
  refine a_aload_n X dX4_bands_0 rfl 0 rfl ?_
  refine a_iconst (v := 0) X dX4_bands_1 ic_0 ?_
  refine a_putI (k := 0) X fw4 iz_200 rfl flX4_61 rfl rfl dX4_bands_2 (fun M_1 eM_1 => ?_)
  have h := h M_1 eM_1
  refine a_aload_n X dX4_bands_5 rfl 0 rfl ?_
  refine a_iload_n X dX4_bands_6 rfl 1 rfl ?_
  refine a_cVi (As := [.int v1]) (st := []) X fw4 iz_200 (cX4_isStream_ok l h) mlX4_247 mvX4_isStream (rz rfl) (Nat.le_of_ble_eq_true rfl) rfl dX4_bands_7 (fun r_3 M_2 h => ?_)
  refine a_if_ne (tgt := 19) X dX4_bands_10 (by decide) (fun z => ?_) (fun z => ?_)
  · have h := h.1 z
    refine a_iload_n X dX4_bands_19 rfl 2 rfl ?_
    refine a_iconst (v := 0) X dX4_bands_20 ic_0 ?_
    refine a_bipush (v := 12) X dX4_bands_21 bc_12 ?_
    refine a_cSi (As := [.int v2, .int 0, .int 12]) (st := []) X (cX4_in_ok l h) mlX4_86 msX4_in (rz rfl) (Nat.le_of_ble_eq_true rfl) rfl dX4_bands_23 (fun r_5 M_4 h => ?_)
    refine a_if_ne (tgt := 35) X dX4_bands_26 (by decide) (fun z => ?_) (fun z => ?_)
    · have h := h.1 z
      refine a_iconst (v := 0) X dX4_bands_35 ic_0 ?_
      refine a_istore_n (lo' := [(3, .int 0), (0, .ref (al 200)), (1, .int v1), (2, .int v2)]) X dX4_bands_36 rfl (by decide) rfl ?_
      refine a_iconst (v := 0) X dX4_bands_37 ic_0 ?_
      refine a_istore (lo' := [(4, .int 0), (3, .int 0), (0, .ref (al 200)), (1, .int v1), (2, .int v2)]) X dX4_bands_38 (by decide) rfl ?_
      refine a_sub (ks := [2, 3, 4, 1, 0]) (lo' := [(0, .ref (al 200)), (1, .int v1), (2, .int v2), (3, .int 0), (4, .int 0)]) rfl ?_
      obtain ⟨n9, h⟩ := h
      exact tX4_bands_40 X n9 _ _ _ h
    · have h := h.2 z
      refine a_aload_n X dX4_bands_29 rfl 0 rfl ?_
      refine a_iconst (v := 2) X dX4_bands_30 ic_2 ?_
      refine a_cVi (As := [.int 2]) (st := []) X fw4 iz_200 (cX4_refused_ok l h) mlX4_179 mvX4_refused (rz rfl) (Nat.le_of_ble_eq_true rfl) rfl dX4_bands_31 (fun r_15 M_14 h => ?_)
      exact a_iret X h dX4_bands_34
  · have h := h.2 z
    refine a_aload_n X dX4_bands_13 rfl 0 rfl ?_
    refine a_iconst (v := 1) X dX4_bands_14 ic_1 ?_
    refine a_cVi (As := [.int 1]) (st := []) X fw4 iz_200 (cX4_refused_ok l h) mlX4_179 mvX4_refused (rz rfl) (Nat.le_of_ble_eq_true rfl) rfl dX4_bands_15 (fun r_17 M_16 h => ?_)
    exact a_iret X h dX4_bands_18
abbrev rm_X4_wrongOf : Room := { frames := 2, cells := 0, slots := 0, locals := 42 }
def wX4_wrongOf_57 (Q : Int32 → Mem → Prop) (v1 : Int32) (v2 : Int32) : Nat → Mem → Int32 → Prop
  | 0, _, _ => False
  | n + 1, M, v3 => ((v2 < v3 → (vp_in v1 6 ∧ wpX4_gaps M v1 0 ((gI M 223 (Int32.toNatClampNeg v1)) - 1) (fun r_5 M_4 => (vp_in v1 6 ∧ ((r_5 = (gI M_4 224 (Int32.toNatClampNeg v1)) → wpX4_widest M_4 v1 (fun r_7 M_6 => wpX4_boundOf M_6 v1 (fun r_9 M_8 => ((r_7 ≤ r_9 → (vp_in v1 6 ∧ (((gI M_8 223 (Int32.toNatClampNeg v1)) ≤ 0 → Q 0 M_8) ∧ (¬ (gI M_8 223 (Int32.toNatClampNeg v1)) ≤ 0 → (vp_in (1000 * v1) 6000 ∧ ((¬ (gI M_8 221 (Int32.toNatClampNeg (1000 * v1))) = 1 → Q 5 M_8) ∧ ((gI M_8 221 (Int32.toNatClampNeg (1000 * v1))) = 1 → (vp_in (1000 * v1) 6000 ∧ ((¬ (gI M_8 222 (Int32.toNatClampNeg (1000 * v1))) = 0 → Q 5 M_8) ∧ ((gI M_8 222 (Int32.toNatClampNeg (1000 * v1))) = 0 → (vp_in v2 6000 ∧ (((gI M_8 222 (Int32.toNatClampNeg v2)) = 0 → Q 0 M_8) ∧ (¬ (gI M_8 222 (Int32.toNatClampNeg v2)) = 0 → Q 5 M_8))))))))))))) ∧ (¬ r_7 ≤ r_9 → Q 4 M_8))))) ∧ (¬ r_5 = (gI M_4 224 (Int32.toNatClampNeg v1)) → Q 3 M_4)))))) ∧ (¬ v2 < v3 → (vp_in v3 6000 ∧ (((gI M 221 (Int32.toNatClampNeg v3)) < 1 → Q 2 M) ∧ (¬ (gI M 221 (Int32.toNatClampNeg v3)) < 1 → (vp_in v3 6000 ∧ ((0 ≤ (gI M 222 (Int32.toNatClampNeg v3)) → wX4_wrongOf_57 Q v1 v2 n M (v3 + 1)) ∧ (¬ 0 ≤ (gI M 222 (Int32.toNatClampNeg v3)) → Q 2 M))))))))
def wX4_wrongOf_21 (Q : Int32 → Mem → Prop) (v1 : Int32) (v2 : Int32) : Nat → Mem → Int32 → Prop
  | 0, _, _ => False
  | n + 1, M, v3 => ((v2 ≤ v3 → (∀ x_3 : Int32, x_3 = (1000 * v1) → ∃ n, wX4_wrongOf_57 Q v1 v2 n M x_3)) ∧ (¬ v2 ≤ v3 → (vp_in v3 6000 ∧ (vp_in (v3 + 1) 6000 ∧ (((gI M 220 (Int32.toNatClampNeg v3)) ≤ (gI M 220 (Int32.toNatClampNeg (v3 + 1))) → wX4_wrongOf_21 Q v1 v2 n M (v3 + 1)) ∧ (¬ (gI M 220 (Int32.toNatClampNeg v3)) ≤ (gI M 220 (Int32.toNatClampNeg (v3 + 1))) → Q 1 M))))))
def wpX4_wrongOf (M : Mem) (v1 : Int32) (Q : Int32 → Mem → Prop) : Prop := (vp_in v1 6 ∧ (∀ x_1 : Int32, x_1 = (((1000 * v1) + (gI M 223 (Int32.toNatClampNeg v1))) - 1) → (∀ x_2 : Int32, x_2 = (1000 * v1) → ∃ n, wX4_wrongOf_21 Q v1 x_1 n M x_2)))
set_option maxHeartbeats 4000000 in
set_option maxRecDepth 100000 in
theorem tX4_wrongOf_57 (X : Cx p s m meth c G RX4 cX4_wrongOf 4 (some .int)) {Q : Int32 → Mem → Prop} {v1 : Int32} {v2 : Int32} : ∀ (n : Nat) (M : Mem) (v3 : Int32), wX4_wrongOf_57 Q v1 v2 n M v3 → Wa p l e rm_X4_wrongOf s m args below meth c 4 G al mk 0 0 (MQ below (QI G al mk Q) args s 0 0 (gA G)) M 57 [(0, .ref (al 200)), (1, .int v1), (2, .int v2), (3, .int v3)] [] := by
  intro n
  induction n with
  | zero =>
    intro M v3 h
    exact False.elim h
  | succ n ih =>
    intro M v3 h
    rw [wX4_wrongOf_57] at h
    refine a_iload_n X dX4_wrongOf_57 rfl 3 rfl ?_
    refine a_iload_n X dX4_wrongOf_58 rfl 2 rfl ?_
    refine a_icmp_gt (tgt := 89) X dX4_wrongOf_59 (by decide) (fun z => ?_) (fun z => ?_)
    · have h := h.1 z
      refine a_aload_n X dX4_wrongOf_89 rfl 0 rfl ?_
      refine a_iload_n X dX4_wrongOf_90 rfl 1 rfl ?_
      refine a_iconst (v := 0) X dX4_wrongOf_91 ic_0 ?_
      refine a_aload_n X dX4_wrongOf_92 rfl 0 rfl ?_
      refine a_getR (k := 22) X 23 (b := 223) fw4 iz_200 rfl rfl flX4_40 rfl dX4_wrongOf_93 ?_
      refine a_iload_n X dX4_wrongOf_96 rfl 1 rfl ?_
      refine a_iald X iz_223 h.1 dX4_wrongOf_97 ?_
      have h := h.2
      refine a_iconst (v := 1) X dX4_wrongOf_98 ic_1 ?_
      refine a_isub X dX4_wrongOf_99 ?_
      refine a_cVi (As := [.int v1, .int 0, .int ((gI M 223 (Int32.toNatClampNeg v1)) - 1)]) (st := []) X fw4 iz_200 (cX4_gaps_ok l h) mlX4_231 mvX4_gaps (rz rfl) (Nat.le_of_ble_eq_true rfl) rfl dX4_wrongOf_100 (fun r_5 M_4 h => ?_)
      refine a_aload_n X dX4_wrongOf_103 rfl 0 rfl ?_
      refine a_getR (k := 23) X 24 (b := 224) fw4 iz_200 rfl rfl flX4_43 rfl dX4_wrongOf_104 ?_
      refine a_iload_n X dX4_wrongOf_107 rfl 1 rfl ?_
      refine a_iald X iz_224 h.1 dX4_wrongOf_108 ?_
      have h := h.2
      refine a_icmp_eq (tgt := 114) X dX4_wrongOf_109 (by decide) (fun z => ?_) (fun z => ?_)
      · have h := h.1 z
        refine a_aload_n X dX4_wrongOf_114 rfl 0 rfl ?_
        refine a_iload_n X dX4_wrongOf_115 rfl 1 rfl ?_
        refine a_cVi (As := [.int v1]) (st := []) X fw4 iz_200 (cX4_widest_ok l h) mlX4_251 mvX4_widest (rz rfl) (Nat.le_of_ble_eq_true rfl) rfl dX4_wrongOf_116 (fun r_7 M_6 h => ?_)
        refine a_aload_n X dX4_wrongOf_119 rfl 0 rfl ?_
        refine a_iload_n X dX4_wrongOf_120 rfl 1 rfl ?_
        refine a_cVi (As := [.int v1]) (st := [.int r_7]) X fw4 iz_200 (cX4_boundOf_ok l h) mlX4_237 mvX4_boundOf (rz rfl) (Nat.le_of_ble_eq_true rfl) rfl dX4_wrongOf_121 (fun r_9 M_8 h => ?_)
        refine a_icmp_le (tgt := 129) X dX4_wrongOf_124 (by decide) (fun z => ?_) (fun z => ?_)
        · have h := h.1 z
          refine a_aload_n X dX4_wrongOf_129 rfl 0 rfl ?_
          refine a_getR (k := 22) X 23 (b := 223) fw4 iz_200 rfl rfl flX4_40 rfl dX4_wrongOf_130 ?_
          refine a_iload_n X dX4_wrongOf_133 rfl 1 rfl ?_
          refine a_iald X iz_223 h.1 dX4_wrongOf_134 ?_
          have h := h.2
          refine a_if_le (tgt := 178) X dX4_wrongOf_135 (by decide) (fun z => ?_) (fun z => ?_)
          · have h := h.1 z
            refine a_iconst (v := 0) X dX4_wrongOf_178 ic_0 ?_
            exact a_iret X h dX4_wrongOf_179
          · have h := h.2 z
            refine a_aload_n X dX4_wrongOf_138 rfl 0 rfl ?_
            refine a_getR (k := 20) X 21 (b := 221) fw4 iz_200 rfl rfl flX4_34 rfl dX4_wrongOf_139 ?_
            refine a_sipush (v := 1000) X dX4_wrongOf_142 sc_1000 ?_
            refine a_iload_n X dX4_wrongOf_145 rfl 1 rfl ?_
            refine a_imul X dX4_wrongOf_146 ?_
            refine a_iald X iz_221 h.1 dX4_wrongOf_147 ?_
            have h := h.2
            refine a_iconst (v := 1) X dX4_wrongOf_148 ic_1 ?_
            refine a_icmp_ne (tgt := 174) X dX4_wrongOf_149 (by decide) (fun z => ?_) (fun z => ?_)
            · have h := h.1 z
              refine a_iconst (v := 5) X dX4_wrongOf_174 ic_5 ?_
              refine a_goto (tgt := 179) X dX4_wrongOf_175 (by decide) ?_
              exact a_iret X h dX4_wrongOf_179
            · have h := h.2 z
              refine a_aload_n X dX4_wrongOf_152 rfl 0 rfl ?_
              refine a_getR (k := 21) X 22 (b := 222) fw4 iz_200 rfl rfl flX4_37 rfl dX4_wrongOf_153 ?_
              refine a_sipush (v := 1000) X dX4_wrongOf_156 sc_1000 ?_
              refine a_iload_n X dX4_wrongOf_159 rfl 1 rfl ?_
              refine a_imul X dX4_wrongOf_160 ?_
              refine a_iald X iz_222 h.1 dX4_wrongOf_161 ?_
              have h := h.2
              refine a_if_ne (tgt := 174) X dX4_wrongOf_162 (by decide) (fun z => ?_) (fun z => ?_)
              · have h := h.1 z
                refine a_iconst (v := 5) X dX4_wrongOf_174 ic_5 ?_
                refine a_goto (tgt := 179) X dX4_wrongOf_175 (by decide) ?_
                exact a_iret X h dX4_wrongOf_179
              · have h := h.2 z
                refine a_aload_n X dX4_wrongOf_165 rfl 0 rfl ?_
                refine a_getR (k := 21) X 22 (b := 222) fw4 iz_200 rfl rfl flX4_37 rfl dX4_wrongOf_166 ?_
                refine a_iload_n X dX4_wrongOf_169 rfl 2 rfl ?_
                refine a_iald X iz_222 h.1 dX4_wrongOf_170 ?_
                have h := h.2
                refine a_if_eq (tgt := 178) X dX4_wrongOf_171 (by decide) (fun z => ?_) (fun z => ?_)
                · have h := h.1 z
                  refine a_iconst (v := 0) X dX4_wrongOf_178 ic_0 ?_
                  exact a_iret X h dX4_wrongOf_179
                · have h := h.2 z
                  refine a_iconst (v := 5) X dX4_wrongOf_174 ic_5 ?_
                  refine a_goto (tgt := 179) X dX4_wrongOf_175 (by decide) ?_
                  exact a_iret X h dX4_wrongOf_179
        · have h := h.2 z
          refine a_iconst (v := 4) X dX4_wrongOf_127 ic_4 ?_
          exact a_iret X h dX4_wrongOf_128
      · have h := h.2 z
        refine a_iconst (v := 3) X dX4_wrongOf_112 ic_3 ?_
        exact a_iret X h dX4_wrongOf_113
    · have h := h.2 z
      refine a_aload_n X dX4_wrongOf_62 rfl 0 rfl ?_
      refine a_getR (k := 20) X 21 (b := 221) fw4 iz_200 rfl rfl flX4_34 rfl dX4_wrongOf_63 ?_
      refine a_iload_n X dX4_wrongOf_66 rfl 3 rfl ?_
      refine a_iald X iz_221 h.1 dX4_wrongOf_67 ?_
      have h := h.2
      refine a_iconst (v := 1) X dX4_wrongOf_68 ic_1 ?_
      refine a_icmp_lt (tgt := 81) X dX4_wrongOf_69 (by decide) (fun z => ?_) (fun z => ?_)
      · have h := h.1 z
        refine a_iconst (v := 2) X dX4_wrongOf_81 ic_2 ?_
        exact a_iret X h dX4_wrongOf_82
      · have h := h.2 z
        refine a_aload_n X dX4_wrongOf_72 rfl 0 rfl ?_
        refine a_getR (k := 21) X 22 (b := 222) fw4 iz_200 rfl rfl flX4_37 rfl dX4_wrongOf_73 ?_
        refine a_iload_n X dX4_wrongOf_76 rfl 3 rfl ?_
        refine a_iald X iz_222 h.1 dX4_wrongOf_77 ?_
        have h := h.2
        refine a_if_ge (tgt := 83) X dX4_wrongOf_78 (by decide) (fun z => ?_) (fun z => ?_)
        · have h := h.1 z
          refine a_iinc (v := v3 + 1) (lo' := [(3, .int (v3 + 1)), (0, .ref (al 200)), (1, .int v1), (2, .int v2)]) X dX4_wrongOf_83 3 rfl (ii_1 _) (by decide) rfl ?_
          refine a_goto (tgt := 57) X dX4_wrongOf_86 (by decide) ?_
          refine a_sub (ks := [1, 2, 3, 0]) (lo' := [(0, .ref (al 200)), (1, .int v1), (2, .int v2), (3, .int (v3 + 1))]) rfl ?_
          exact ih _ _ h
        · have h := h.2 z
          refine a_iconst (v := 2) X dX4_wrongOf_81 ic_2 ?_
          exact a_iret X h dX4_wrongOf_82
set_option maxHeartbeats 4000000 in
set_option maxRecDepth 100000 in
theorem tX4_wrongOf_21 (X : Cx p s m meth c G RX4 cX4_wrongOf 4 (some .int)) {Q : Int32 → Mem → Prop} {v1 : Int32} {v2 : Int32} : ∀ (n : Nat) (M : Mem) (v3 : Int32), wX4_wrongOf_21 Q v1 v2 n M v3 → Wa p l e rm_X4_wrongOf s m args below meth c 4 G al mk 0 0 (MQ below (QI G al mk Q) args s 0 0 (gA G)) M 21 [(0, .ref (al 200)), (1, .int v1), (2, .int v2), (3, .int v3)] [] := by
  intro n
  induction n with
  | zero =>
    intro M v3 h
    exact False.elim h
  | succ n ih =>
    intro M v3 h
    rw [wX4_wrongOf_21] at h
    refine a_iload_n X dX4_wrongOf_21 rfl 3 rfl ?_
    refine a_iload_n X dX4_wrongOf_22 rfl 2 rfl ?_
    refine a_icmp_ge (tgt := 51) X dX4_wrongOf_23 (by decide) (fun z => ?_) (fun z => ?_)
    · have h := h.1 z
      refine a_sipush (v := 1000) X dX4_wrongOf_51 sc_1000 ?_
      refine a_iload_n X dX4_wrongOf_54 rfl 1 rfl ?_
      refine a_imul X dX4_wrongOf_55 ?_
      refine a_topi (fun x_3 ex_3 => ?_)
      have h := h x_3 ex_3
      refine a_istore_n (lo' := [(3, .int x_3), (0, .ref (al 200)), (1, .int v1), (2, .int v2)]) X dX4_wrongOf_56 rfl (by decide) rfl ?_
      refine a_sub (ks := [1, 2, 3, 0]) (lo' := [(0, .ref (al 200)), (1, .int v1), (2, .int v2), (3, .int x_3)]) rfl ?_
      obtain ⟨n9, h⟩ := h
      exact tX4_wrongOf_57 X n9 _ _ h
    · have h := h.2 z
      refine a_aload_n X dX4_wrongOf_26 rfl 0 rfl ?_
      refine a_getR (k := 19) X 20 (b := 220) fw4 iz_200 rfl rfl flX4_31 rfl dX4_wrongOf_27 ?_
      refine a_iload_n X dX4_wrongOf_30 rfl 3 rfl ?_
      refine a_iald X iz_220 h.1 dX4_wrongOf_31 ?_
      have h := h.2
      refine a_aload_n X dX4_wrongOf_32 rfl 0 rfl ?_
      refine a_getR (k := 19) X 20 (b := 220) fw4 iz_200 rfl rfl flX4_31 rfl dX4_wrongOf_33 ?_
      refine a_iload_n X dX4_wrongOf_36 rfl 3 rfl ?_
      refine a_iconst (v := 1) X dX4_wrongOf_37 ic_1 ?_
      refine a_iadd X dX4_wrongOf_38 ?_
      refine a_iald X iz_220 h.1 dX4_wrongOf_39 ?_
      have h := h.2
      refine a_icmp_le (tgt := 45) X dX4_wrongOf_40 (by decide) (fun z => ?_) (fun z => ?_)
      · have h := h.1 z
        refine a_iinc (v := v3 + 1) (lo' := [(3, .int (v3 + 1)), (0, .ref (al 200)), (1, .int v1), (2, .int v2)]) X dX4_wrongOf_45 3 rfl (ii_1 _) (by decide) rfl ?_
        refine a_goto (tgt := 21) X dX4_wrongOf_48 (by decide) ?_
        refine a_sub (ks := [1, 2, 3, 0]) (lo' := [(0, .ref (al 200)), (1, .int v1), (2, .int v2), (3, .int (v3 + 1))]) rfl ?_
        exact ih _ _ h
      · have h := h.2 z
        refine a_iconst (v := 1) X dX4_wrongOf_43 ic_1 ?_
        exact a_iret X h dX4_wrongOf_44
set_option maxHeartbeats 4000000 in
set_option maxRecDepth 100000 in
theorem cX4_wrongOf_ok (l : Launch) {G : Gl} {al : Nat → Nat} {mk : Nat} {M : Mem} {v1 : Int32} {Q : Int32 → Mem → Prop} (h : wpX4_wrongOf M v1 Q) : Kv l yX4_wrongOf cX4_wrongOf 4 (some .int) rm_X4_wrongOf G al mk M [.ref (al 200), .int v1] (QI G al mk Q) := by
  refine a_head (by decide) (Nat.le_of_ble_eq_true rfl) (fun p e s m below meth c X => ?_)
  have X : Cx p s m meth c G RX4 cX4_wrongOf 4 (some .int) := X
  unfold wpX4_wrongOf at h
  refine a_sub (ks := [0, 1]) (lo' := [(0, .ref (al 200)), (1, .int v1)]) rfl ?_
  refine a_sipush (v := 1000) X dX4_wrongOf_0 sc_1000 ?_
  refine a_iload_n X dX4_wrongOf_3 rfl 1 rfl ?_
  refine a_imul X dX4_wrongOf_4 ?_
  refine a_aload_n X dX4_wrongOf_5 rfl 0 rfl ?_
  refine a_getR (k := 22) X 23 (b := 223) fw4 iz_200 rfl rfl flX4_40 rfl dX4_wrongOf_6 ?_
  refine a_iload_n X dX4_wrongOf_9 rfl 1 rfl ?_
  refine a_iald X iz_223 h.1 dX4_wrongOf_10 ?_
  have h := h.2
  refine a_iadd X dX4_wrongOf_11 ?_
  refine a_iconst (v := 1) X dX4_wrongOf_12 ic_1 ?_
  refine a_isub X dX4_wrongOf_13 ?_
  refine a_topi (fun x_1 ex_1 => ?_)
  have h := h x_1 ex_1
  refine a_istore_n (lo' := [(2, .int x_1), (0, .ref (al 200)), (1, .int v1)]) X dX4_wrongOf_14 rfl (by decide) rfl ?_
  refine a_sipush (v := 1000) X dX4_wrongOf_15 sc_1000 ?_
  refine a_iload_n X dX4_wrongOf_18 rfl 2 rfl ?_
  refine a_imul X dX4_wrongOf_19 ?_
  refine a_topi (fun x_2 ex_2 => ?_)
  have h := h x_2 ex_2
  refine a_istore_n (lo' := [(3, .int x_2), (2, .int x_1), (0, .ref (al 200)), (1, .int v1)]) X dX4_wrongOf_20 rfl (by decide) rfl ?_
  refine a_sub (ks := [2, 3, 1, 0]) (lo' := [(0, .ref (al 200)), (1, .int v1), (2, .int x_1), (3, .int x_2)]) rfl ?_
  obtain ⟨n9, h⟩ := h
  exact tX4_wrongOf_21 X n9 _ _ h
abbrev rm_X4_check : Room := { frames := 3, cells := 0, slots := 0, locals := 65 }
def wpX4_check (M : Mem) (v1 : Int32) (Q : Int32 → Mem → Prop) : Prop := (∀ M_1 : Mem, M_1 = pI M 200 0 0 → wpX4_isStream M_1 v1 (fun r_3 M_2 => ((r_3 = 0 → wpX4_refused M_2 1 (fun r_5 M_4 => Q r_5 M_4)) ∧ (¬ r_3 = 0 → wpX4_wrongOf M_2 v1 (fun r_7 M_6 => wpX4_good M_6 r_7 (fun r_9 M_8 => Q r_9 M_8))))))
set_option maxHeartbeats 4000000 in
set_option maxRecDepth 100000 in
theorem cX4_check_ok (l : Launch) {G : Gl} {al : Nat → Nat} {mk : Nat} {M : Mem} {v1 : Int32} {Q : Int32 → Mem → Prop} (h : wpX4_check M v1 Q) : Kv l yX4_check cX4_check 2 (some .int) rm_X4_check G al mk M [.ref (al 200), .int v1] (QI G al mk Q) := by
  refine a_head (by decide) (Nat.le_of_ble_eq_true rfl) (fun p e s m below meth c X => ?_)
  have X : Cx p s m meth c G RX4 cX4_check 2 (some .int) := X
  unfold wpX4_check at h
  refine a_sub (ks := [0, 1]) (lo' := [(0, .ref (al 200)), (1, .int v1)]) rfl ?_
  refine a_aload_n X dX4_check_0 rfl 0 rfl ?_
  refine a_iconst (v := 0) X dX4_check_1 ic_0 ?_
  refine a_putI (k := 0) X fw4 iz_200 rfl flX4_61 rfl rfl dX4_check_2 (fun M_1 eM_1 => ?_)
  have h := h M_1 eM_1
  refine a_aload_n X dX4_check_5 rfl 0 rfl ?_
  refine a_iload_n X dX4_check_6 rfl 1 rfl ?_
  refine a_cVi (As := [.int v1]) (st := []) X fw4 iz_200 (cX4_isStream_ok l h) mlX4_247 mvX4_isStream (rz rfl) (Nat.le_of_ble_eq_true rfl) rfl dX4_check_7 (fun r_3 M_2 h => ?_)
  refine a_if_eq (tgt := 25) X dX4_check_10 (by decide) (fun z => ?_) (fun z => ?_)
  · have h := h.1 z
    refine a_aload_n X dX4_check_25 rfl 0 rfl ?_
    refine a_iconst (v := 1) X dX4_check_26 ic_1 ?_
    refine a_cVi (As := [.int 1]) (st := []) X fw4 iz_200 (cX4_refused_ok l h) mlX4_179 mvX4_refused (rz rfl) (Nat.le_of_ble_eq_true rfl) rfl dX4_check_27 (fun r_5 M_4 h => ?_)
    exact a_iret X h dX4_check_30
  · have h := h.2 z
    refine a_aload_n X dX4_check_13 rfl 0 rfl ?_
    refine a_aload_n X dX4_check_14 rfl 0 rfl ?_
    refine a_iload_n X dX4_check_15 rfl 1 rfl ?_
    refine a_cVi (As := [.int v1]) (st := [.ref (al 200)]) X fw4 iz_200 (cX4_wrongOf_ok l h) mlX4_267 mvX4_wrongOf (rz rfl) (Nat.le_of_ble_eq_true rfl) rfl dX4_check_16 (fun r_7 M_6 h => ?_)
    refine a_cVi (As := [.int r_7]) (st := []) X fw4 iz_200 (cX4_good_ok l h) mlX4_195 mvX4_good (rz rfl) (Nat.le_of_ble_eq_true rfl) rfl dX4_check_19 (fun r_9 M_8 h => ?_)
    refine a_goto (tgt := 30) X dX4_check_22 (by decide) ?_
    exact a_iret X h dX4_check_30
abbrev rm_X4_answers : Room := { frames := 0, cells := 0, slots := 0, locals := 0 }
def wX4_answers_77 (Q : Int32 → Mem → Prop) (K8 : Mem → Int32 → Int32 → Int32 → Prop) (M : Mem) (v1 : Int32) (v2 : Int32) (v3 : Int32) (v4 : Int32) (v5 : Int32) (s0 : Int32) : Prop := ((v3 = (-1) → (∀ M_4 : Mem, M_4 = pI M 200 31 s0 → K8 M_4 v5 v4 (v5 + 1))) ∧ (¬ v3 = (-1) → ((s0 < (gI M 200 31) → (∀ M_5 : Mem, M_5 = pI M 200 31 s0 → K8 M_5 v5 v4 (v5 + 1))) ∧ (¬ s0 < (gI M 200 31) → K8 M v3 v4 (v5 + 1)))))
def wX4_answers_8 (Q : Int32 → Mem → Prop) (v1 : Int32) (v2 : Int32) : Nat → Mem → Int32 → Int32 → Int32 → Prop
  | 0, _, _, _, _ => False
  | n + 1, M, v3, v4, v5 => (vp_in v1 6 ∧ (((gI M 223 (Int32.toNatClampNeg v1)) ≤ v5 → Q v3 M) ∧ (¬ (gI M 223 (Int32.toNatClampNeg v1)) ≤ v5 → (vp_in ((1000 * v1) + v5) 6000 ∧ (∀ x_1 : Int32, x_1 = (v4 + (gI M 221 (Int32.toNatClampNeg ((1000 * v1) + v5)))) → (∀ x_2 : Int32, x_2 = (v2 - x_1) → (vp_in ((1000 * v1) + v5) 6000 ∧ (∀ x_3 : Int32, x_3 = ((x_1 + (gI M 222 (Int32.toNatClampNeg ((1000 * v1) + v5)))) - v2) → ((x_2 ≤ x_3 → wX4_answers_77 Q (wX4_answers_8 Q v1 v2 n) M v1 v2 v3 x_1 v5 x_3) ∧ (¬ x_2 ≤ x_3 → wX4_answers_77 Q (wX4_answers_8 Q v1 v2 n) M v1 v2 v3 x_1 v5 x_2))))))))))
def wpX4_answers (M : Mem) (v1 : Int32) (v2 : Int32) (Q : Int32 → Mem → Prop) : Prop := ∃ n, wX4_answers_8 Q v1 v2 n M (-1) 0 0
set_option maxHeartbeats 4000000 in
set_option maxRecDepth 100000 in
theorem tX4_answers_77 (X : Cx p s m meth c G RX4 cX4_answers 9 (some .int)) {Q : Int32 → Mem → Prop} {K8 : Mem → Int32 → Int32 → Int32 → Prop} {v1 : Int32} {v2 : Int32} {v3 : Int32} {v4 : Int32} {v5 : Int32} {s0 : Int32} (hK8 : ∀ (M : Mem) (v3 : Int32) (v4 : Int32) (v5 : Int32), K8 M v3 v4 v5 → Wa p l e rm_X4_answers s m args below meth c 9 G al mk 0 0 (MQ below (QI G al mk Q) args s 0 0 (gA G)) M 8 [(0, .ref (al 200)), (1, .int v1), (2, .int v2), (3, .int v3), (4, .int v4), (5, .int v5)] []) {M : Mem} (h : wX4_answers_77 Q K8 M v1 v2 v3 v4 v5 s0) : Wa p l e rm_X4_answers s m args below meth c 9 G al mk 0 0 (MQ below (QI G al mk Q) args s 0 0 (gA G)) M 77 [(0, .ref (al 200)), (1, .int v1), (2, .int v2), (3, .int v3), (4, .int v4), (5, .int v5)] [.int s0] := by
  unfold wX4_answers_77 at h
  refine a_istore (lo' := [(8, .int s0), (0, .ref (al 200)), (1, .int v1), (2, .int v2), (3, .int v3), (4, .int v4), (5, .int v5)]) X dX4_answers_77 (by decide) rfl ?_
  refine a_iload_n X dX4_answers_79 rfl 4 rfl ?_
  refine a_iconst (v := (-1)) X dX4_answers_80 ic_m1 ?_
  refine a_icmp_eq (tgt := 96) X dX4_answers_81 (by decide) (fun z => ?_) (fun z => ?_)
  · have h := h.1 z
    refine a_iload X dX4_answers_96 6 rfl ?_
    refine a_istore_n (lo' := [(3, .int v5), (8, .int s0), (0, .ref (al 200)), (1, .int v1), (2, .int v2), (4, .int v4), (5, .int v5)]) X dX4_answers_98 rfl (by decide) rfl ?_
    refine a_aload_n X dX4_answers_99 rfl 2 rfl ?_
    refine a_iload X dX4_answers_100 1 rfl ?_
    refine a_putI (k := 31) X fw4 iz_200 rfl flX4_270 rfl rfl dX4_answers_102 (fun M_4 eM_4 => ?_)
    have h := h M_4 eM_4
    refine a_iinc (v := v5 + 1) (lo' := [(5, .int (v5 + 1)), (3, .int v5), (8, .int s0), (0, .ref (al 200)), (1, .int v1), (2, .int v2), (4, .int v4)]) X dX4_answers_105 6 rfl (ii_1 _) (by decide) rfl ?_
    refine a_goto (tgt := 8) X dX4_answers_108 (by decide) ?_
    refine a_sub (ks := [3, 4, 5, 1, 6, 0]) (lo' := [(0, .ref (al 200)), (1, .int v1), (2, .int v2), (3, .int v5), (4, .int v4), (5, .int (v5 + 1))]) rfl ?_
    exact hK8 _ _ _ _ h
  · have h := h.2 z
    refine a_iload X dX4_answers_84 0 rfl ?_
    refine a_aload_n X dX4_answers_86 rfl 1 rfl ?_
    refine a_getI (k := 31) X fw4 iz_200 rfl flX4_270 rfl dX4_answers_87 ?_
    refine a_icmp_lt (tgt := 96) X dX4_answers_90 (by decide) (fun z => ?_) (fun z => ?_)
    · have h := h.1 z
      refine a_iload X dX4_answers_96 6 rfl ?_
      refine a_istore_n (lo' := [(3, .int v5), (8, .int s0), (0, .ref (al 200)), (1, .int v1), (2, .int v2), (4, .int v4), (5, .int v5)]) X dX4_answers_98 rfl (by decide) rfl ?_
      refine a_aload_n X dX4_answers_99 rfl 2 rfl ?_
      refine a_iload X dX4_answers_100 1 rfl ?_
      refine a_putI (k := 31) X fw4 iz_200 rfl flX4_270 rfl rfl dX4_answers_102 (fun M_5 eM_5 => ?_)
      have h := h M_5 eM_5
      refine a_iinc (v := v5 + 1) (lo' := [(5, .int (v5 + 1)), (3, .int v5), (8, .int s0), (0, .ref (al 200)), (1, .int v1), (2, .int v2), (4, .int v4)]) X dX4_answers_105 6 rfl (ii_1 _) (by decide) rfl ?_
      refine a_goto (tgt := 8) X dX4_answers_108 (by decide) ?_
      refine a_sub (ks := [3, 4, 5, 1, 6, 0]) (lo' := [(0, .ref (al 200)), (1, .int v1), (2, .int v2), (3, .int v5), (4, .int v4), (5, .int (v5 + 1))]) rfl ?_
      exact hK8 _ _ _ _ h
    · have h := h.2 z
      refine a_goto (tgt := 105) X dX4_answers_93 (by decide) ?_
      refine a_iinc (v := v5 + 1) (lo' := [(5, .int (v5 + 1)), (8, .int s0), (0, .ref (al 200)), (1, .int v1), (2, .int v2), (3, .int v3), (4, .int v4)]) X dX4_answers_105 6 rfl (ii_1 _) (by decide) rfl ?_
      refine a_goto (tgt := 8) X dX4_answers_108 (by decide) ?_
      refine a_sub (ks := [2, 3, 4, 5, 6, 0]) (lo' := [(0, .ref (al 200)), (1, .int v1), (2, .int v2), (3, .int v3), (4, .int v4), (5, .int (v5 + 1))]) rfl ?_
      exact hK8 _ _ _ _ h
set_option maxHeartbeats 4000000 in
set_option maxRecDepth 100000 in
theorem tX4_answers_8 (X : Cx p s m meth c G RX4 cX4_answers 9 (some .int)) {Q : Int32 → Mem → Prop} {v1 : Int32} {v2 : Int32} : ∀ (n : Nat) (M : Mem) (v3 : Int32) (v4 : Int32) (v5 : Int32), wX4_answers_8 Q v1 v2 n M v3 v4 v5 → Wa p l e rm_X4_answers s m args below meth c 9 G al mk 0 0 (MQ below (QI G al mk Q) args s 0 0 (gA G)) M 8 [(0, .ref (al 200)), (1, .int v1), (2, .int v2), (3, .int v3), (4, .int v4), (5, .int v5)] [] := by
  intro n
  induction n with
  | zero =>
    intro M v3 v4 v5 h
    exact False.elim h
  | succ n ih =>
    intro M v3 v4 v5 h
    rw [wX4_answers_8] at h
    refine a_iload X dX4_answers_8 5 rfl ?_
    refine a_aload_n X dX4_answers_10 rfl 0 rfl ?_
    refine a_getR (k := 22) X 23 (b := 223) fw4 iz_200 rfl rfl flX4_40 rfl dX4_answers_11 ?_
    refine a_iload_n X dX4_answers_14 rfl 1 rfl ?_
    refine a_iald X iz_223 h.1 dX4_answers_15 ?_
    have h := h.2
    refine a_icmp_ge (tgt := 111) X dX4_answers_16 (by decide) (fun z => ?_) (fun z => ?_)
    · have h := h.1 z
      refine a_iload_n X dX4_answers_111 rfl 3 rfl ?_
      exact a_iret X h dX4_answers_112
    · have h := h.2 z
      refine a_iload X dX4_answers_19 4 rfl ?_
      refine a_aload_n X dX4_answers_21 rfl 0 rfl ?_
      refine a_getR (k := 20) X 21 (b := 221) fw4 iz_200 rfl rfl flX4_34 rfl dX4_answers_22 ?_
      refine a_sipush (v := 1000) X dX4_answers_25 sc_1000 ?_
      refine a_iload_n X dX4_answers_28 rfl 1 rfl ?_
      refine a_imul X dX4_answers_29 ?_
      refine a_iload X dX4_answers_30 5 rfl ?_
      refine a_iadd X dX4_answers_32 ?_
      refine a_iald X iz_221 h.1 dX4_answers_33 ?_
      have h := h.2
      refine a_iadd X dX4_answers_34 ?_
      refine a_topi (fun x_1 ex_1 => ?_)
      have h := h x_1 ex_1
      refine a_istore (lo' := [(4, .int x_1), (0, .ref (al 200)), (1, .int v1), (2, .int v2), (3, .int v3), (5, .int v5)]) X dX4_answers_35 (by decide) rfl ?_
      refine a_iload_n X dX4_answers_37 rfl 3 rfl ?_
      refine a_iload X dX4_answers_38 0 rfl ?_
      refine a_isub X dX4_answers_40 ?_
      refine a_topi (fun x_2 ex_2 => ?_)
      have h := h x_2 ex_2
      refine a_istore (lo' := [(6, .int x_2), (4, .int x_1), (0, .ref (al 200)), (1, .int v1), (2, .int v2), (3, .int v3), (5, .int v5)]) X dX4_answers_41 (by decide) rfl ?_
      refine a_iload X dX4_answers_43 1 rfl ?_
      refine a_aload_n X dX4_answers_45 rfl 2 rfl ?_
      refine a_getR (k := 21) X 22 (b := 222) fw4 iz_200 rfl rfl flX4_37 rfl dX4_answers_46 ?_
      refine a_sipush (v := 1000) X dX4_answers_49 sc_1000 ?_
      refine a_iload_n X dX4_answers_52 rfl 3 rfl ?_
      refine a_imul X dX4_answers_53 ?_
      refine a_iload X dX4_answers_54 6 rfl ?_
      refine a_iadd X dX4_answers_56 ?_
      refine a_iald X iz_222 h.1 dX4_answers_57 ?_
      have h := h.2
      refine a_iadd X dX4_answers_58 ?_
      refine a_iload_n X dX4_answers_59 rfl 4 rfl ?_
      refine a_isub X dX4_answers_60 ?_
      refine a_topi (fun x_3 ex_3 => ?_)
      have h := h x_3 ex_3
      refine a_istore (lo' := [(7, .int x_3), (6, .int x_2), (4, .int x_1), (0, .ref (al 200)), (1, .int v1), (2, .int v2), (3, .int v3), (5, .int v5)]) X dX4_answers_61 (by decide) rfl ?_
      refine a_iload X dX4_answers_63 1 rfl ?_
      refine a_iload X dX4_answers_65 0 rfl ?_
      refine a_icmp_le (tgt := 75) X dX4_answers_67 (by decide) (fun z => ?_) (fun z => ?_)
      · have h := h.1 z
        refine a_iload X dX4_answers_75 0 rfl ?_
        refine a_sub (ks := [3, 4, 5, 6, 2, 7]) (lo' := [(0, .ref (al 200)), (1, .int v1), (2, .int v2), (3, .int v3), (4, .int x_1), (5, .int v5)]) rfl ?_
        exact tX4_answers_77 X ih h
      · have h := h.2 z
        refine a_iload X dX4_answers_70 1 rfl ?_
        refine a_goto (tgt := 77) X dX4_answers_72 (by decide) ?_
        refine a_sub (ks := [3, 4, 5, 6, 2, 7]) (lo' := [(0, .ref (al 200)), (1, .int v1), (2, .int v2), (3, .int v3), (4, .int x_1), (5, .int v5)]) rfl ?_
        exact tX4_answers_77 X ih h
set_option maxHeartbeats 4000000 in
set_option maxRecDepth 100000 in
theorem cX4_answers_ok (l : Launch) {G : Gl} {al : Nat → Nat} {mk : Nat} {M : Mem} {v1 : Int32} {v2 : Int32} {Q : Int32 → Mem → Prop} (h : wpX4_answers M v1 v2 Q) : Kv l yX4_answers cX4_answers 9 (some .int) rm_X4_answers G al mk M [.ref (al 200), .int v1, .int v2] (QI G al mk Q) := by
  refine a_head (by decide) (Nat.le_of_ble_eq_true rfl) (fun p e s m below meth c X => ?_)
  have X : Cx p s m meth c G RX4 cX4_answers 9 (some .int) := X
  unfold wpX4_answers at h
  refine a_sub (ks := [0, 1, 2]) (lo' := [(0, .ref (al 200)), (1, .int v1), (2, .int v2)]) rfl ?_
  refine a_iconst (v := (-1)) X dX4_answers_0 ic_m1 ?_
  refine a_istore_n (lo' := [(3, .int (-1)), (0, .ref (al 200)), (1, .int v1), (2, .int v2)]) X dX4_answers_1 rfl (by decide) rfl ?_
  refine a_iconst (v := 0) X dX4_answers_2 ic_0 ?_
  refine a_istore (lo' := [(4, .int 0), (3, .int (-1)), (0, .ref (al 200)), (1, .int v1), (2, .int v2)]) X dX4_answers_3 (by decide) rfl ?_
  refine a_iconst (v := 0) X dX4_answers_5 ic_0 ?_
  refine a_istore (lo' := [(5, .int 0), (4, .int 0), (3, .int (-1)), (0, .ref (al 200)), (1, .int v1), (2, .int v2)]) X dX4_answers_6 (by decide) rfl ?_
  refine a_sub (ks := [3, 4, 5, 2, 1, 0]) (lo' := [(0, .ref (al 200)), (1, .int v1), (2, .int v2), (3, .int (-1)), (4, .int 0), (5, .int 0)]) rfl ?_
  obtain ⟨n9, h⟩ := h
  exact tX4_answers_8 X n9 _ _ _ _ h
abbrev rm_X4_isPlace : Room := { frames := 1, cells := 0, slots := 0, locals := 22 }
def wpX4_isPlace (M : Mem) (v1 : Int32) (v2 : Int32) (Q : Int32 → Mem → Prop) : Prop := (vp_in v1 6 ∧ wpX4_in M v2 1 (gI M 224 (Int32.toNatClampNeg v1)) (fun r_2 M_1 => ((r_2 = 0 ∨ r_2 = 1) ∧ Q r_2 M_1)))
set_option maxHeartbeats 4000000 in
set_option maxRecDepth 100000 in
theorem cX4_isPlace_ok (l : Launch) {G : Gl} {al : Nat → Nat} {mk : Nat} {M : Mem} {v1 : Int32} {v2 : Int32} {Q : Int32 → Mem → Prop} (h : wpX4_isPlace M v1 v2 Q) : Kv l yX4_isPlace cX4_isPlace 3 (some .boolean) rm_X4_isPlace G al mk M [.ref (al 200), .int v1, .int v2] (QI G al mk Q) := by
  refine a_head (by decide) (Nat.le_of_ble_eq_true rfl) (fun p e s m below meth c X => ?_)
  have X : Cx p s m meth c G RX4 cX4_isPlace 3 (some .boolean) := X
  unfold wpX4_isPlace at h
  refine a_sub (ks := [0, 1, 2]) (lo' := [(0, .ref (al 200)), (1, .int v1), (2, .int v2)]) rfl ?_
  refine a_iload_n X dX4_isPlace_0 rfl 2 rfl ?_
  refine a_iconst (v := 1) X dX4_isPlace_1 ic_1 ?_
  refine a_aload_n X dX4_isPlace_2 rfl 0 rfl ?_
  refine a_getR (k := 23) X 24 (b := 224) fw4 iz_200 rfl rfl flX4_43 rfl dX4_isPlace_3 ?_
  refine a_iload_n X dX4_isPlace_6 rfl 1 rfl ?_
  refine a_iald X iz_224 h.1 dX4_isPlace_7 ?_
  have h := h.2
  refine a_cSi (As := [.int v2, .int 1, .int (gI M 224 (Int32.toNatClampNeg v1))]) (st := []) X (cX4_in_ok l h) mlX4_86 msX4_in (rz rfl) (Nat.le_of_ble_eq_true rfl) rfl dX4_isPlace_8 (fun r_2 M_1 h => ?_)
  exact a_zret X h.1 h.2 dX4_isPlace_11
