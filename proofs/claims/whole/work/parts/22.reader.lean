variable {p : Program} {l : Launch} {e : Env} {s : State} {m : MethodId} {args : Array Value} {below : List Frame} {meth : Method} {c : Code} {G : Gl} {al : Nat → Nat} {mk : Nat}

abbrev rm_X2_putBytes : Room := { frames := 0, cells := 0, slots := 0, locals := 0 }
def wX2_putBytes_3 (Q : Mem → Prop) (v1 : Int32) : Nat → Mem → Int32 → Prop
  | 0, _, _ => False
  | n + 1, M, v2 => ((v2 < 0 → Q M) ∧ (¬ v2 < 0 → ((400 ≤ (gI M 1 1) → wX2_putBytes_3 Q v1 n M (v2 + (-8))) ∧ (¬ 400 ≤ (gI M 1 1) → (vp_in (gI M 1 1) 400 ∧ ∀ M_1 : Mem, M_1 = pI M 2 (Int32.toNatClampNeg (gI M 1 1)) (((Int32.toUInt32 v1 >>> (Int32.toUInt32 v2 &&& Int32.toUInt32 31)).toInt32) &&& 255) → (∀ M_2 : Mem, M_2 = pI M_1 1 1 ((gI M_1 1 1) + 1) → wX2_putBytes_3 Q v1 n M_2 (v2 + (-8))))))))
def wpX2_putBytes (M : Mem) (v1 : Int32) (Q : Mem → Prop) : Prop := ∃ n, wX2_putBytes_3 Q v1 n M 24
set_option maxHeartbeats 4000000 in
set_option maxRecDepth 100000 in
theorem tX2_putBytes_3 (X : Cx p s m meth c G RX2 cX2_putBytes 3 none) {Q : Mem → Prop} {v1 : Int32} : ∀ (n : Nat) (M : Mem) (v2 : Int32), wX2_putBytes_3 Q v1 n M v2 → Wa p l e rm_X2_putBytes s m args below meth c 3 G al mk 0 0 (MQ below (QV G al mk Q) args s 0 0 (gA G)) M 3 [(0, .ref (al 1)), (1, .int v1), (2, .int v2)] [] := by
  intro n
  induction n with
  | zero =>
    intro M v2 h
    exact False.elim h
  | succ n ih =>
    intro M v2 h
    rw [wX2_putBytes_3] at h
    refine a_iload_n X dX2_putBytes_3 rfl 2 rfl ?_
    refine a_if_lt (tgt := 49) X dX2_putBytes_4 (by decide) (fun z => ?_) (fun z => ?_)
    · have h := h.1 z
      exact a_vret X h dX2_putBytes_49
    · have h := h.2 z
      refine a_aload_n X dX2_putBytes_7 rfl 0 rfl ?_
      refine a_getI (k := 1) X fw2 iz_1 rfl flX2_15 rfl dX2_putBytes_8 ?_
      refine a_sipush (v := 400) X dX2_putBytes_11 sc_400 ?_
      refine a_icmp_ge (tgt := 43) X dX2_putBytes_14 (by decide) (fun z => ?_) (fun z => ?_)
      · have h := h.1 z
        refine a_iinc (v := v2 + (-8)) (lo' := [(2, .int (v2 + (-8))), (0, .ref (al 1)), (1, .int v1)]) X dX2_putBytes_43 2 rfl (ii_m8 _) (by decide) rfl ?_
        refine a_goto (tgt := 3) X dX2_putBytes_46 (by decide) ?_
        refine a_sub (ks := [1, 2, 0]) (lo' := [(0, .ref (al 1)), (1, .int v1), (2, .int (v2 + (-8)))]) rfl ?_
        exact ih _ _ h
      · have h := h.2 z
        refine a_aload_n X dX2_putBytes_17 rfl 0 rfl ?_
        refine a_getR (k := 0) X 1 (b := 2) fw2 iz_1 rfl rfl flX2_9 rfl dX2_putBytes_18 ?_
        refine a_aload_n X dX2_putBytes_21 rfl 0 rfl ?_
        refine a_getI (k := 1) X fw2 iz_1 rfl flX2_15 rfl dX2_putBytes_22 ?_
        refine a_iload_n X dX2_putBytes_25 rfl 1 rfl ?_
        refine a_iload_n X dX2_putBytes_26 rfl 2 rfl ?_
        refine a_iushr X dX2_putBytes_27 ?_
        refine a_sipush (v := 255) X dX2_putBytes_28 sc_255 ?_
        refine a_iand X dX2_putBytes_31 ?_
        refine a_iast X iz_2 h.1 dX2_putBytes_32 (fun M_1 eM_1 => ?_)
        have h := h.2 M_1 eM_1
        refine a_aload_n X dX2_putBytes_33 rfl 0 rfl ?_
        refine a_dup X dX2_putBytes_34 rfl ?_
        refine a_getI (k := 1) X fw2 iz_1 rfl flX2_15 rfl dX2_putBytes_35 ?_
        refine a_iconst (v := 1) X dX2_putBytes_38 ic_1 ?_
        refine a_iadd X dX2_putBytes_39 ?_
        refine a_putI (k := 1) X fw2 iz_1 rfl flX2_15 rfl rfl dX2_putBytes_40 (fun M_2 eM_2 => ?_)
        have h := h M_2 eM_2
        refine a_iinc (v := v2 + (-8)) (lo' := [(2, .int (v2 + (-8))), (0, .ref (al 1)), (1, .int v1)]) X dX2_putBytes_43 2 rfl (ii_m8 _) (by decide) rfl ?_
        refine a_goto (tgt := 3) X dX2_putBytes_46 (by decide) ?_
        refine a_sub (ks := [1, 2, 0]) (lo' := [(0, .ref (al 1)), (1, .int v1), (2, .int (v2 + (-8)))]) rfl ?_
        exact ih _ _ h
set_option maxHeartbeats 4000000 in
set_option maxRecDepth 100000 in
theorem cX2_putBytes_ok (l : Launch) {G : Gl} {al : Nat → Nat} {mk : Nat} {M : Mem} {v1 : Int32} {Q : Mem → Prop} (h : wpX2_putBytes M v1 Q) : Kv l yX2_putBytes cX2_putBytes 3 none rm_X2_putBytes G al mk M [.ref (al 1), .int v1] (QV G al mk Q) := by
  refine a_head (by decide) (Nat.le_of_ble_eq_true rfl) (fun p e s m below meth c X => ?_)
  have X : Cx p s m meth c G RX2 cX2_putBytes 3 none := X
  unfold wpX2_putBytes at h
  refine a_sub (ks := [0, 1]) (lo' := [(0, .ref (al 1)), (1, .int v1)]) rfl ?_
  refine a_bipush (v := 24) X dX2_putBytes_0 bc_24 ?_
  refine a_istore_n (lo' := [(2, .int 24), (0, .ref (al 1)), (1, .int v1)]) X dX2_putBytes_2 rfl (by decide) rfl ?_
  refine a_sub (ks := [1, 2, 0]) (lo' := [(0, .ref (al 1)), (1, .int v1), (2, .int 24)]) rfl ?_
  obtain ⟨n9, h⟩ := h
  exact tX2_putBytes_3 X n9 _ _ h
abbrev rm_X2_isLetter : Room := { frames := 0, cells := 0, slots := 0, locals := 0 }
def wpX2_isLetter (M : Mem) (v0 : Int32) (Q : Int32 → Mem → Prop) : Prop := ((v0 < 97 → Q 0 M) ∧ (¬ v0 < 97 → ((122 < v0 → Q 0 M) ∧ (¬ 122 < v0 → Q 1 M))))
set_option maxHeartbeats 4000000 in
set_option maxRecDepth 100000 in
theorem cX2_isLetter_ok (l : Launch) {G : Gl} {al : Nat → Nat} {mk : Nat} {M : Mem} {v0 : Int32} {Q : Int32 → Mem → Prop} (h : wpX2_isLetter M v0 Q) : Kv l yX2_isLetter cX2_isLetter 1 (some .boolean) rm_X2_isLetter G al mk M [.int v0] (QI G al mk Q) := by
  refine a_head (by decide) (Nat.le_of_ble_eq_true rfl) (fun p e s m below meth c X => ?_)
  have X : Cx p s m meth c G RX2 cX2_isLetter 1 (some .boolean) := X
  unfold wpX2_isLetter at h
  refine a_sub (ks := [0]) (lo' := [(0, .int v0)]) rfl ?_
  refine a_iload_n X dX2_isLetter_0 rfl 0 rfl ?_
  refine a_bipush (v := 97) X dX2_isLetter_1 bc_97 ?_
  refine a_icmp_lt (tgt := 16) X dX2_isLetter_3 (by decide) (fun z => ?_) (fun z => ?_)
  · have h := h.1 z
    refine a_iconst (v := 0) X dX2_isLetter_16 ic_0 ?_
    exact a_zret X (by decide) h dX2_isLetter_17
  · have h := h.2 z
    refine a_iload_n X dX2_isLetter_6 rfl 0 rfl ?_
    refine a_bipush (v := 122) X dX2_isLetter_7 bc_122 ?_
    refine a_icmp_gt (tgt := 16) X dX2_isLetter_9 (by decide) (fun z => ?_) (fun z => ?_)
    · have h := h.1 z
      refine a_iconst (v := 0) X dX2_isLetter_16 ic_0 ?_
      exact a_zret X (by decide) h dX2_isLetter_17
    · have h := h.2 z
      refine a_iconst (v := 1) X dX2_isLetter_12 ic_1 ?_
      refine a_goto (tgt := 17) X dX2_isLetter_13 (by decide) ?_
      exact a_zret X (by decide) h dX2_isLetter_17
abbrev rm_X2_stepOverWord : Room := { frames := 1, cells := 0, slots := 0, locals := 20 }
def wX2_stepOverWord_0 (Q : Mem → Prop) : Nat → Mem → Prop
  | 0, _ => False
  | n + 1, M => (((gI M 1 2) ≤ (gI M 1 5) → ((6 < ((gI M 1 5) - (gI M 1 4)) → (∀ M_1 : Mem, M_1 = pI M 1 3 1 → Q M_1)) ∧ (¬ 6 < ((gI M 1 5) - (gI M 1 4)) → (∀ M_2 : Mem, M_2 = pI M 1 3 2 → Q M_2)))) ∧ (¬ (gI M 1 2) ≤ (gI M 1 5) → (vp_in (gI M 1 5) 400 ∧ wpX2_isLetter M (gI M 2 (Int32.toNatClampNeg (gI M 1 5))) (fun r_4 M_3 => ((r_4 = 0 → ((6 < ((gI M_3 1 5) - (gI M_3 1 4)) → (∀ M_5 : Mem, M_5 = pI M_3 1 3 1 → Q M_5)) ∧ (¬ 6 < ((gI M_3 1 5) - (gI M_3 1 4)) → (∀ M_6 : Mem, M_6 = pI M_3 1 3 2 → Q M_6)))) ∧ (¬ r_4 = 0 → (vp_in (gI M_3 1 5) 400 ∧ (∀ M_7 : Mem, M_7 = pI M_3 1 6 (((((gI M_3 1 6) * 27) + (gI M_3 2 (Int32.toNatClampNeg (gI M_3 1 5)))) - 97) + 1) → (∀ M_8 : Mem, M_8 = pI M_7 1 5 ((gI M_7 1 5) + 1) → wX2_stepOverWord_0 Q n M_8)))))))))
def wpX2_stepOverWord (M : Mem) (Q : Mem → Prop) : Prop := ∃ n, wX2_stepOverWord_0 Q n M
set_option maxHeartbeats 4000000 in
set_option maxRecDepth 100000 in
theorem tX2_stepOverWord_0 (X : Cx p s m meth c G RX2 cX2_stepOverWord 1 none) {Q : Mem → Prop} : ∀ (n : Nat) (M : Mem), wX2_stepOverWord_0 Q n M → Wa p l e rm_X2_stepOverWord s m args below meth c 1 G al mk 0 0 (MQ below (QV G al mk Q) args s 0 0 (gA G)) M 0 [(0, .ref (al 1))] [] := by
  intro n
  induction n with
  | zero =>
    intro M h
    exact False.elim h
  | succ n ih =>
    intro M h
    rw [wX2_stepOverWord_0] at h
    refine a_aload_n X dX2_stepOverWord_0 rfl 0 rfl ?_
    refine a_getI (k := 5) X fw2 iz_1 rfl flX2_28 rfl dX2_stepOverWord_1 ?_
    refine a_aload_n X dX2_stepOverWord_4 rfl 0 rfl ?_
    refine a_getI (k := 2) X fw2 iz_1 rfl flX2_19 rfl dX2_stepOverWord_5 ?_
    refine a_icmp_ge (tgt := 65) X dX2_stepOverWord_8 (by decide) (fun z => ?_) (fun z => ?_)
    · have h := h.1 z
      refine a_aload_n X dX2_stepOverWord_65 rfl 0 rfl ?_
      refine a_aload_n X dX2_stepOverWord_66 rfl 0 rfl ?_
      refine a_getI (k := 5) X fw2 iz_1 rfl flX2_28 rfl dX2_stepOverWord_67 ?_
      refine a_aload_n X dX2_stepOverWord_70 rfl 0 rfl ?_
      refine a_getI (k := 4) X fw2 iz_1 rfl flX2_25 rfl dX2_stepOverWord_71 ?_
      refine a_isub X dX2_stepOverWord_74 ?_
      refine a_bipush (v := 6) X dX2_stepOverWord_75 bc_6 ?_
      refine a_icmp_gt (tgt := 84) X dX2_stepOverWord_77 (by decide) (fun z => ?_) (fun z => ?_)
      · have h := h.1 z
        refine a_iconst (v := 1) X dX2_stepOverWord_84 ic_1 ?_
        refine a_putI (k := 3) X fw2 iz_1 rfl flX2_22 rfl rfl dX2_stepOverWord_85 (fun M_1 eM_1 => ?_)
        have h := h M_1 eM_1
        exact a_vret X h dX2_stepOverWord_88
      · have h := h.2 z
        refine a_iconst (v := 2) X dX2_stepOverWord_80 ic_2 ?_
        refine a_goto (tgt := 85) X dX2_stepOverWord_81 (by decide) ?_
        refine a_putI (k := 3) X fw2 iz_1 rfl flX2_22 rfl rfl dX2_stepOverWord_85 (fun M_2 eM_2 => ?_)
        have h := h M_2 eM_2
        exact a_vret X h dX2_stepOverWord_88
    · have h := h.2 z
      refine a_aload_n X dX2_stepOverWord_11 rfl 0 rfl ?_
      refine a_getR (k := 0) X 1 (b := 2) fw2 iz_1 rfl rfl flX2_9 rfl dX2_stepOverWord_12 ?_
      refine a_aload_n X dX2_stepOverWord_15 rfl 0 rfl ?_
      refine a_getI (k := 5) X fw2 iz_1 rfl flX2_28 rfl dX2_stepOverWord_16 ?_
      refine a_iald X iz_2 h.1 dX2_stepOverWord_19 ?_
      have h := h.2
      refine a_cSi (As := [.int (gI M 2 (Int32.toNatClampNeg (gI M 1 5)))]) (st := []) X (cX2_isLetter_ok l h) mlX2_132 msX2_isLetter (rz rfl) (Nat.le_of_ble_eq_true rfl) rfl dX2_stepOverWord_20 (fun r_4 M_3 h => ?_)
      refine a_if_eq (tgt := 65) X dX2_stepOverWord_23 (by decide) (fun z => ?_) (fun z => ?_)
      · have h := h.1 z
        refine a_aload_n X dX2_stepOverWord_65 rfl 0 rfl ?_
        refine a_aload_n X dX2_stepOverWord_66 rfl 0 rfl ?_
        refine a_getI (k := 5) X fw2 iz_1 rfl flX2_28 rfl dX2_stepOverWord_67 ?_
        refine a_aload_n X dX2_stepOverWord_70 rfl 0 rfl ?_
        refine a_getI (k := 4) X fw2 iz_1 rfl flX2_25 rfl dX2_stepOverWord_71 ?_
        refine a_isub X dX2_stepOverWord_74 ?_
        refine a_bipush (v := 6) X dX2_stepOverWord_75 bc_6 ?_
        refine a_icmp_gt (tgt := 84) X dX2_stepOverWord_77 (by decide) (fun z => ?_) (fun z => ?_)
        · have h := h.1 z
          refine a_iconst (v := 1) X dX2_stepOverWord_84 ic_1 ?_
          refine a_putI (k := 3) X fw2 iz_1 rfl flX2_22 rfl rfl dX2_stepOverWord_85 (fun M_5 eM_5 => ?_)
          have h := h M_5 eM_5
          exact a_vret X h dX2_stepOverWord_88
        · have h := h.2 z
          refine a_iconst (v := 2) X dX2_stepOverWord_80 ic_2 ?_
          refine a_goto (tgt := 85) X dX2_stepOverWord_81 (by decide) ?_
          refine a_putI (k := 3) X fw2 iz_1 rfl flX2_22 rfl rfl dX2_stepOverWord_85 (fun M_6 eM_6 => ?_)
          have h := h M_6 eM_6
          exact a_vret X h dX2_stepOverWord_88
      · have h := h.2 z
        refine a_aload_n X dX2_stepOverWord_26 rfl 0 rfl ?_
        refine a_aload_n X dX2_stepOverWord_27 rfl 0 rfl ?_
        refine a_getI (k := 6) X fw2 iz_1 rfl flX2_31 rfl dX2_stepOverWord_28 ?_
        refine a_bipush (v := 27) X dX2_stepOverWord_31 bc_27 ?_
        refine a_imul X dX2_stepOverWord_33 ?_
        refine a_aload_n X dX2_stepOverWord_34 rfl 0 rfl ?_
        refine a_getR (k := 0) X 1 (b := 2) fw2 iz_1 rfl rfl flX2_9 rfl dX2_stepOverWord_35 ?_
        refine a_aload_n X dX2_stepOverWord_38 rfl 0 rfl ?_
        refine a_getI (k := 5) X fw2 iz_1 rfl flX2_28 rfl dX2_stepOverWord_39 ?_
        refine a_iald X iz_2 h.1 dX2_stepOverWord_42 ?_
        have h := h.2
        refine a_iadd X dX2_stepOverWord_43 ?_
        refine a_bipush (v := 97) X dX2_stepOverWord_44 bc_97 ?_
        refine a_isub X dX2_stepOverWord_46 ?_
        refine a_iconst (v := 1) X dX2_stepOverWord_47 ic_1 ?_
        refine a_iadd X dX2_stepOverWord_48 ?_
        refine a_putI (k := 6) X fw2 iz_1 rfl flX2_31 rfl rfl dX2_stepOverWord_49 (fun M_7 eM_7 => ?_)
        have h := h M_7 eM_7
        refine a_aload_n X dX2_stepOverWord_52 rfl 0 rfl ?_
        refine a_dup X dX2_stepOverWord_53 rfl ?_
        refine a_getI (k := 5) X fw2 iz_1 rfl flX2_28 rfl dX2_stepOverWord_54 ?_
        refine a_iconst (v := 1) X dX2_stepOverWord_57 ic_1 ?_
        refine a_iadd X dX2_stepOverWord_58 ?_
        refine a_putI (k := 5) X fw2 iz_1 rfl flX2_28 rfl rfl dX2_stepOverWord_59 (fun M_8 eM_8 => ?_)
        have h := h M_8 eM_8
        refine a_goto (tgt := 0) X dX2_stepOverWord_62 (by decide) ?_
        exact ih _ h
set_option maxHeartbeats 4000000 in
set_option maxRecDepth 100000 in
theorem cX2_stepOverWord_ok (l : Launch) {G : Gl} {al : Nat → Nat} {mk : Nat} {M : Mem} {Q : Mem → Prop} (h : wpX2_stepOverWord M Q) : Kv l yX2_stepOverWord cX2_stepOverWord 1 none rm_X2_stepOverWord G al mk M [.ref (al 1)] (QV G al mk Q) := by
  refine a_head (by decide) (Nat.le_of_ble_eq_true rfl) (fun p e s m below meth c X => ?_)
  have X : Cx p s m meth c G RX2 cX2_stepOverWord 1 none := X
  unfold wpX2_stepOverWord at h
  refine a_sub (ks := [0]) (lo' := [(0, .ref (al 1))]) rfl ?_
  obtain ⟨n9, h⟩ := h
  exact tX2_stepOverWord_0 X n9 _ h
abbrev rm_X2_isDigit : Room := { frames := 0, cells := 0, slots := 0, locals := 0 }
def wpX2_isDigit (M : Mem) (v0 : Int32) (Q : Int32 → Mem → Prop) : Prop := ((v0 < 48 → Q 0 M) ∧ (¬ v0 < 48 → ((57 < v0 → Q 0 M) ∧ (¬ 57 < v0 → Q 1 M))))
set_option maxHeartbeats 4000000 in
set_option maxRecDepth 100000 in
theorem cX2_isDigit_ok (l : Launch) {G : Gl} {al : Nat → Nat} {mk : Nat} {M : Mem} {v0 : Int32} {Q : Int32 → Mem → Prop} (h : wpX2_isDigit M v0 Q) : Kv l yX2_isDigit cX2_isDigit 1 (some .boolean) rm_X2_isDigit G al mk M [.int v0] (QI G al mk Q) := by
  refine a_head (by decide) (Nat.le_of_ble_eq_true rfl) (fun p e s m below meth c X => ?_)
  have X : Cx p s m meth c G RX2 cX2_isDigit 1 (some .boolean) := X
  unfold wpX2_isDigit at h
  refine a_sub (ks := [0]) (lo' := [(0, .int v0)]) rfl ?_
  refine a_iload_n X dX2_isDigit_0 rfl 0 rfl ?_
  refine a_bipush (v := 48) X dX2_isDigit_1 bc_48 ?_
  refine a_icmp_lt (tgt := 16) X dX2_isDigit_3 (by decide) (fun z => ?_) (fun z => ?_)
  · have h := h.1 z
    refine a_iconst (v := 0) X dX2_isDigit_16 ic_0 ?_
    exact a_zret X (by decide) h dX2_isDigit_17
  · have h := h.2 z
    refine a_iload_n X dX2_isDigit_6 rfl 0 rfl ?_
    refine a_bipush (v := 57) X dX2_isDigit_7 bc_57 ?_
    refine a_icmp_gt (tgt := 16) X dX2_isDigit_9 (by decide) (fun z => ?_) (fun z => ?_)
    · have h := h.1 z
      refine a_iconst (v := 0) X dX2_isDigit_16 ic_0 ?_
      exact a_zret X (by decide) h dX2_isDigit_17
    · have h := h.2 z
      refine a_iconst (v := 1) X dX2_isDigit_12 ic_1 ?_
      refine a_goto (tgt := 17) X dX2_isDigit_13 (by decide) ?_
      exact a_zret X (by decide) h dX2_isDigit_17
abbrev rm_X2_stepOverWhole : Room := { frames := 1, cells := 0, slots := 0, locals := 20 }
def wX2_stepOverWhole_0 (Q : Mem → Prop) : Nat → Mem → Prop
  | 0, _ => False
  | n + 1, M => (((gI M 1 2) ≤ (gI M 1 5) → ((3 < ((gI M 1 5) - (gI M 1 4)) → (∀ M_1 : Mem, M_1 = pI M 1 3 1 → Q M_1)) ∧ (¬ 3 < ((gI M 1 5) - (gI M 1 4)) → (∀ M_2 : Mem, M_2 = pI M 1 3 3 → Q M_2)))) ∧ (¬ (gI M 1 2) ≤ (gI M 1 5) → (vp_in (gI M 1 5) 400 ∧ wpX2_isDigit M (gI M 2 (Int32.toNatClampNeg (gI M 1 5))) (fun r_4 M_3 => ((r_4 = 0 → ((3 < ((gI M_3 1 5) - (gI M_3 1 4)) → (∀ M_5 : Mem, M_5 = pI M_3 1 3 1 → Q M_5)) ∧ (¬ 3 < ((gI M_3 1 5) - (gI M_3 1 4)) → (∀ M_6 : Mem, M_6 = pI M_3 1 3 3 → Q M_6)))) ∧ (¬ r_4 = 0 → (vp_in (gI M_3 1 5) 400 ∧ (∀ M_7 : Mem, M_7 = pI M_3 1 6 ((((gI M_3 1 6) * 10) + (gI M_3 2 (Int32.toNatClampNeg (gI M_3 1 5)))) - 48) → (∀ M_8 : Mem, M_8 = pI M_7 1 5 ((gI M_7 1 5) + 1) → wX2_stepOverWhole_0 Q n M_8)))))))))
def wpX2_stepOverWhole (M : Mem) (Q : Mem → Prop) : Prop := ∃ n, wX2_stepOverWhole_0 Q n M
set_option maxHeartbeats 4000000 in
set_option maxRecDepth 100000 in
theorem tX2_stepOverWhole_0 (X : Cx p s m meth c G RX2 cX2_stepOverWhole 1 none) {Q : Mem → Prop} : ∀ (n : Nat) (M : Mem), wX2_stepOverWhole_0 Q n M → Wa p l e rm_X2_stepOverWhole s m args below meth c 1 G al mk 0 0 (MQ below (QV G al mk Q) args s 0 0 (gA G)) M 0 [(0, .ref (al 1))] [] := by
  intro n
  induction n with
  | zero =>
    intro M h
    exact False.elim h
  | succ n ih =>
    intro M h
    rw [wX2_stepOverWhole_0] at h
    refine a_aload_n X dX2_stepOverWhole_0 rfl 0 rfl ?_
    refine a_getI (k := 5) X fw2 iz_1 rfl flX2_28 rfl dX2_stepOverWhole_1 ?_
    refine a_aload_n X dX2_stepOverWhole_4 rfl 0 rfl ?_
    refine a_getI (k := 2) X fw2 iz_1 rfl flX2_19 rfl dX2_stepOverWhole_5 ?_
    refine a_icmp_ge (tgt := 63) X dX2_stepOverWhole_8 (by decide) (fun z => ?_) (fun z => ?_)
    · have h := h.1 z
      refine a_aload_n X dX2_stepOverWhole_63 rfl 0 rfl ?_
      refine a_aload_n X dX2_stepOverWhole_64 rfl 0 rfl ?_
      refine a_getI (k := 5) X fw2 iz_1 rfl flX2_28 rfl dX2_stepOverWhole_65 ?_
      refine a_aload_n X dX2_stepOverWhole_68 rfl 0 rfl ?_
      refine a_getI (k := 4) X fw2 iz_1 rfl flX2_25 rfl dX2_stepOverWhole_69 ?_
      refine a_isub X dX2_stepOverWhole_72 ?_
      refine a_iconst (v := 3) X dX2_stepOverWhole_73 ic_3 ?_
      refine a_icmp_gt (tgt := 81) X dX2_stepOverWhole_74 (by decide) (fun z => ?_) (fun z => ?_)
      · have h := h.1 z
        refine a_iconst (v := 1) X dX2_stepOverWhole_81 ic_1 ?_
        refine a_putI (k := 3) X fw2 iz_1 rfl flX2_22 rfl rfl dX2_stepOverWhole_82 (fun M_1 eM_1 => ?_)
        have h := h M_1 eM_1
        exact a_vret X h dX2_stepOverWhole_85
      · have h := h.2 z
        refine a_iconst (v := 3) X dX2_stepOverWhole_77 ic_3 ?_
        refine a_goto (tgt := 82) X dX2_stepOverWhole_78 (by decide) ?_
        refine a_putI (k := 3) X fw2 iz_1 rfl flX2_22 rfl rfl dX2_stepOverWhole_82 (fun M_2 eM_2 => ?_)
        have h := h M_2 eM_2
        exact a_vret X h dX2_stepOverWhole_85
    · have h := h.2 z
      refine a_aload_n X dX2_stepOverWhole_11 rfl 0 rfl ?_
      refine a_getR (k := 0) X 1 (b := 2) fw2 iz_1 rfl rfl flX2_9 rfl dX2_stepOverWhole_12 ?_
      refine a_aload_n X dX2_stepOverWhole_15 rfl 0 rfl ?_
      refine a_getI (k := 5) X fw2 iz_1 rfl flX2_28 rfl dX2_stepOverWhole_16 ?_
      refine a_iald X iz_2 h.1 dX2_stepOverWhole_19 ?_
      have h := h.2
      refine a_cSi (As := [.int (gI M 2 (Int32.toNatClampNeg (gI M 1 5)))]) (st := []) X (cX2_isDigit_ok l h) mlX2_138 msX2_isDigit (rz rfl) (Nat.le_of_ble_eq_true rfl) rfl dX2_stepOverWhole_20 (fun r_4 M_3 h => ?_)
      refine a_if_eq (tgt := 63) X dX2_stepOverWhole_23 (by decide) (fun z => ?_) (fun z => ?_)
      · have h := h.1 z
        refine a_aload_n X dX2_stepOverWhole_63 rfl 0 rfl ?_
        refine a_aload_n X dX2_stepOverWhole_64 rfl 0 rfl ?_
        refine a_getI (k := 5) X fw2 iz_1 rfl flX2_28 rfl dX2_stepOverWhole_65 ?_
        refine a_aload_n X dX2_stepOverWhole_68 rfl 0 rfl ?_
        refine a_getI (k := 4) X fw2 iz_1 rfl flX2_25 rfl dX2_stepOverWhole_69 ?_
        refine a_isub X dX2_stepOverWhole_72 ?_
        refine a_iconst (v := 3) X dX2_stepOverWhole_73 ic_3 ?_
        refine a_icmp_gt (tgt := 81) X dX2_stepOverWhole_74 (by decide) (fun z => ?_) (fun z => ?_)
        · have h := h.1 z
          refine a_iconst (v := 1) X dX2_stepOverWhole_81 ic_1 ?_
          refine a_putI (k := 3) X fw2 iz_1 rfl flX2_22 rfl rfl dX2_stepOverWhole_82 (fun M_5 eM_5 => ?_)
          have h := h M_5 eM_5
          exact a_vret X h dX2_stepOverWhole_85
        · have h := h.2 z
          refine a_iconst (v := 3) X dX2_stepOverWhole_77 ic_3 ?_
          refine a_goto (tgt := 82) X dX2_stepOverWhole_78 (by decide) ?_
          refine a_putI (k := 3) X fw2 iz_1 rfl flX2_22 rfl rfl dX2_stepOverWhole_82 (fun M_6 eM_6 => ?_)
          have h := h M_6 eM_6
          exact a_vret X h dX2_stepOverWhole_85
      · have h := h.2 z
        refine a_aload_n X dX2_stepOverWhole_26 rfl 0 rfl ?_
        refine a_aload_n X dX2_stepOverWhole_27 rfl 0 rfl ?_
        refine a_getI (k := 6) X fw2 iz_1 rfl flX2_31 rfl dX2_stepOverWhole_28 ?_
        refine a_bipush (v := 10) X dX2_stepOverWhole_31 bc_10 ?_
        refine a_imul X dX2_stepOverWhole_33 ?_
        refine a_aload_n X dX2_stepOverWhole_34 rfl 0 rfl ?_
        refine a_getR (k := 0) X 1 (b := 2) fw2 iz_1 rfl rfl flX2_9 rfl dX2_stepOverWhole_35 ?_
        refine a_aload_n X dX2_stepOverWhole_38 rfl 0 rfl ?_
        refine a_getI (k := 5) X fw2 iz_1 rfl flX2_28 rfl dX2_stepOverWhole_39 ?_
        refine a_iald X iz_2 h.1 dX2_stepOverWhole_42 ?_
        have h := h.2
        refine a_iadd X dX2_stepOverWhole_43 ?_
        refine a_bipush (v := 48) X dX2_stepOverWhole_44 bc_48 ?_
        refine a_isub X dX2_stepOverWhole_46 ?_
        refine a_putI (k := 6) X fw2 iz_1 rfl flX2_31 rfl rfl dX2_stepOverWhole_47 (fun M_7 eM_7 => ?_)
        have h := h M_7 eM_7
        refine a_aload_n X dX2_stepOverWhole_50 rfl 0 rfl ?_
        refine a_dup X dX2_stepOverWhole_51 rfl ?_
        refine a_getI (k := 5) X fw2 iz_1 rfl flX2_28 rfl dX2_stepOverWhole_52 ?_
        refine a_iconst (v := 1) X dX2_stepOverWhole_55 ic_1 ?_
        refine a_iadd X dX2_stepOverWhole_56 ?_
        refine a_putI (k := 5) X fw2 iz_1 rfl flX2_28 rfl rfl dX2_stepOverWhole_57 (fun M_8 eM_8 => ?_)
        have h := h M_8 eM_8
        refine a_goto (tgt := 0) X dX2_stepOverWhole_60 (by decide) ?_
        exact ih _ h
set_option maxHeartbeats 4000000 in
set_option maxRecDepth 100000 in
theorem cX2_stepOverWhole_ok (l : Launch) {G : Gl} {al : Nat → Nat} {mk : Nat} {M : Mem} {Q : Mem → Prop} (h : wpX2_stepOverWhole M Q) : Kv l yX2_stepOverWhole cX2_stepOverWhole 1 none rm_X2_stepOverWhole G al mk M [.ref (al 1)] (QV G al mk Q) := by
  refine a_head (by decide) (Nat.le_of_ble_eq_true rfl) (fun p e s m below meth c X => ?_)
  have X : Cx p s m meth c G RX2 cX2_stepOverWhole 1 none := X
  unfold wpX2_stepOverWhole at h
  refine a_sub (ks := [0]) (lo' := [(0, .ref (al 1))]) rfl ?_
  obtain ⟨n9, h⟩ := h
  exact tX2_stepOverWhole_0 X n9 _ h
abbrev rm_X2_step : Room := { frames := 2, cells := 0, slots := 0, locals := 40 }
def wX2_step_46 (Q : Mem → Prop) (M : Mem) : Prop := (∀ M_2 : Mem, M_2 = pI M 1 5 (gI M 1 4) → (∀ M_3 : Mem, M_3 = pI M_2 1 6 0 → (((gI M_3 1 4) < (gI M_3 1 2) → (vp_in (gI M_3 1 4) 400 ∧ ((¬ (gI M_3 2 (Int32.toNatClampNeg (gI M_3 1 4))) = 59 → (vp_in (gI M_3 1 4) 400 ∧ wpX2_isLetter M_3 (gI M_3 2 (Int32.toNatClampNeg (gI M_3 1 4))) (fun r_5 M_4 => ((r_5 = 0 → (vp_in (gI M_4 1 4) 400 ∧ wpX2_isDigit M_4 (gI M_4 2 (Int32.toNatClampNeg (gI M_4 1 4))) (fun r_7 M_6 => ((r_7 = 0 → (∀ M_8 : Mem, M_8 = pI M_6 1 3 1 → Q M_8)) ∧ (¬ r_7 = 0 → wpX2_stepOverWhole M_6 (fun M_9 => Q M_9)))))) ∧ (¬ r_5 = 0 → wpX2_stepOverWord M_4 (fun M_10 => Q M_10)))))) ∧ ((gI M_3 2 (Int32.toNatClampNeg (gI M_3 1 4))) = 59 → (∀ M_11 : Mem, M_11 = pI M_3 1 3 4 → (∀ M_12 : Mem, M_12 = pI M_11 1 5 ((gI M_11 1 5) + 1) → Q M_12)))))) ∧ (¬ (gI M_3 1 4) < (gI M_3 1 2) → (∀ M_13 : Mem, M_13 = pI M_3 1 3 0 → Q M_13)))))
def wX2_step_8 (Q : Mem → Prop) : Nat → Mem → Prop
  | 0, _ => False
  | n + 1, M => (((gI M 1 2) ≤ (gI M 1 4) → wX2_step_46 Q M) ∧ (¬ (gI M 1 2) ≤ (gI M 1 4) → (vp_in (gI M 1 4) 400 ∧ ((¬ (gI M 2 (Int32.toNatClampNeg (gI M 1 4))) = 32 → wX2_step_46 Q M) ∧ ((gI M 2 (Int32.toNatClampNeg (gI M 1 4))) = 32 → (∀ M_14 : Mem, M_14 = pI M 1 4 ((gI M 1 4) + 1) → wX2_step_8 Q n M_14))))))
def wpX2_step (M : Mem) (Q : Mem → Prop) : Prop := (∀ M_1 : Mem, M_1 = pI M 1 4 (gI M 1 5) → ∃ n, wX2_step_8 Q n M_1)
set_option maxHeartbeats 4000000 in
set_option maxRecDepth 100000 in
theorem tX2_step_46 (X : Cx p s m meth c G RX2 cX2_step 1 none) {Q : Mem → Prop} {M : Mem} (h : wX2_step_46 Q M) : Wa p l e rm_X2_step s m args below meth c 1 G al mk 0 0 (MQ below (QV G al mk Q) args s 0 0 (gA G)) M 46 [(0, .ref (al 1))] [] := by
  unfold wX2_step_46 at h
  refine a_aload_n X dX2_step_46 rfl 0 rfl ?_
  refine a_aload_n X dX2_step_47 rfl 0 rfl ?_
  refine a_getI (k := 4) X fw2 iz_1 rfl flX2_25 rfl dX2_step_48 ?_
  refine a_putI (k := 5) X fw2 iz_1 rfl flX2_28 rfl rfl dX2_step_51 (fun M_2 eM_2 => ?_)
  have h := h M_2 eM_2
  refine a_aload_n X dX2_step_54 rfl 0 rfl ?_
  refine a_iconst (v := 0) X dX2_step_55 ic_0 ?_
  refine a_putI (k := 6) X fw2 iz_1 rfl flX2_31 rfl rfl dX2_step_56 (fun M_3 eM_3 => ?_)
  have h := h M_3 eM_3
  refine a_aload_n X dX2_step_59 rfl 0 rfl ?_
  refine a_getI (k := 4) X fw2 iz_1 rfl flX2_25 rfl dX2_step_60 ?_
  refine a_aload_n X dX2_step_63 rfl 0 rfl ?_
  refine a_getI (k := 2) X fw2 iz_1 rfl flX2_19 rfl dX2_step_64 ?_
  refine a_icmp_lt (tgt := 78) X dX2_step_67 (by decide) (fun z => ?_) (fun z => ?_)
  · have h := h.1 z
    refine a_aload_n X dX2_step_78 rfl 0 rfl ?_
    refine a_getR (k := 0) X 1 (b := 2) fw2 iz_1 rfl rfl flX2_9 rfl dX2_step_79 ?_
    refine a_aload_n X dX2_step_82 rfl 0 rfl ?_
    refine a_getI (k := 4) X fw2 iz_1 rfl flX2_25 rfl dX2_step_83 ?_
    refine a_iald X iz_2 h.1 dX2_step_86 ?_
    have h := h.2
    refine a_bipush (v := 59) X dX2_step_87 bc_59 ?_
    refine a_icmp_ne (tgt := 110) X dX2_step_89 (by decide) (fun z => ?_) (fun z => ?_)
    · have h := h.1 z
      refine a_aload_n X dX2_step_110 rfl 0 rfl ?_
      refine a_getR (k := 0) X 1 (b := 2) fw2 iz_1 rfl rfl flX2_9 rfl dX2_step_111 ?_
      refine a_aload_n X dX2_step_114 rfl 0 rfl ?_
      refine a_getI (k := 4) X fw2 iz_1 rfl flX2_25 rfl dX2_step_115 ?_
      refine a_iald X iz_2 h.1 dX2_step_118 ?_
      have h := h.2
      refine a_cSi (As := [.int (gI M_3 2 (Int32.toNatClampNeg (gI M_3 1 4)))]) (st := []) X (cX2_isLetter_ok l h) mlX2_132 msX2_isLetter (rz rfl) (Nat.le_of_ble_eq_true rfl) rfl dX2_step_119 (fun r_5 M_4 h => ?_)
      refine a_if_eq (tgt := 132) X dX2_step_122 (by decide) (fun z => ?_) (fun z => ?_)
      · have h := h.1 z
        refine a_aload_n X dX2_step_132 rfl 0 rfl ?_
        refine a_getR (k := 0) X 1 (b := 2) fw2 iz_1 rfl rfl flX2_9 rfl dX2_step_133 ?_
        refine a_aload_n X dX2_step_136 rfl 0 rfl ?_
        refine a_getI (k := 4) X fw2 iz_1 rfl flX2_25 rfl dX2_step_137 ?_
        refine a_iald X iz_2 h.1 dX2_step_140 ?_
        have h := h.2
        refine a_cSi (As := [.int (gI M_4 2 (Int32.toNatClampNeg (gI M_4 1 4)))]) (st := []) X (cX2_isDigit_ok l h) mlX2_138 msX2_isDigit (rz rfl) (Nat.le_of_ble_eq_true rfl) rfl dX2_step_141 (fun r_7 M_6 h => ?_)
        refine a_if_eq (tgt := 154) X dX2_step_144 (by decide) (fun z => ?_) (fun z => ?_)
        · have h := h.1 z
          refine a_aload_n X dX2_step_154 rfl 0 rfl ?_
          refine a_iconst (v := 1) X dX2_step_155 ic_1 ?_
          refine a_putI (k := 3) X fw2 iz_1 rfl flX2_22 rfl rfl dX2_step_156 (fun M_8 eM_8 => ?_)
          have h := h M_8 eM_8
          exact a_vret X h dX2_step_159
        · have h := h.2 z
          refine a_aload_n X dX2_step_147 rfl 0 rfl ?_
          refine a_cVv (As := []) (st := []) X fw2 iz_1 (cX2_stepOverWhole_ok l h) mlX2_141 mvX2_stepOverWhole (rz rfl) (Nat.le_of_ble_eq_true rfl) rfl dX2_step_148 (fun M_9 h => ?_)
          refine a_goto (tgt := 159) X dX2_step_151 (by decide) ?_
          exact a_vret X h dX2_step_159
      · have h := h.2 z
        refine a_aload_n X dX2_step_125 rfl 0 rfl ?_
        refine a_cVv (As := []) (st := []) X fw2 iz_1 (cX2_stepOverWord_ok l h) mlX2_135 mvX2_stepOverWord (rz rfl) (Nat.le_of_ble_eq_true rfl) rfl dX2_step_126 (fun M_10 h => ?_)
        refine a_goto (tgt := 159) X dX2_step_129 (by decide) ?_
        exact a_vret X h dX2_step_159
    · have h := h.2 z
      refine a_aload_n X dX2_step_92 rfl 0 rfl ?_
      refine a_iconst (v := 4) X dX2_step_93 ic_4 ?_
      refine a_putI (k := 3) X fw2 iz_1 rfl flX2_22 rfl rfl dX2_step_94 (fun M_11 eM_11 => ?_)
      have h := h M_11 eM_11
      refine a_aload_n X dX2_step_97 rfl 0 rfl ?_
      refine a_dup X dX2_step_98 rfl ?_
      refine a_getI (k := 5) X fw2 iz_1 rfl flX2_28 rfl dX2_step_99 ?_
      refine a_iconst (v := 1) X dX2_step_102 ic_1 ?_
      refine a_iadd X dX2_step_103 ?_
      refine a_putI (k := 5) X fw2 iz_1 rfl flX2_28 rfl rfl dX2_step_104 (fun M_12 eM_12 => ?_)
      have h := h M_12 eM_12
      refine a_goto (tgt := 159) X dX2_step_107 (by decide) ?_
      exact a_vret X h dX2_step_159
  · have h := h.2 z
    refine a_aload_n X dX2_step_70 rfl 0 rfl ?_
    refine a_iconst (v := 0) X dX2_step_71 ic_0 ?_
    refine a_putI (k := 3) X fw2 iz_1 rfl flX2_22 rfl rfl dX2_step_72 (fun M_13 eM_13 => ?_)
    have h := h M_13 eM_13
    refine a_goto (tgt := 159) X dX2_step_75 (by decide) ?_
    exact a_vret X h dX2_step_159
set_option maxHeartbeats 4000000 in
set_option maxRecDepth 100000 in
theorem tX2_step_8 (X : Cx p s m meth c G RX2 cX2_step 1 none) {Q : Mem → Prop} : ∀ (n : Nat) (M : Mem), wX2_step_8 Q n M → Wa p l e rm_X2_step s m args below meth c 1 G al mk 0 0 (MQ below (QV G al mk Q) args s 0 0 (gA G)) M 8 [(0, .ref (al 1))] [] := by
  intro n
  induction n with
  | zero =>
    intro M h
    exact False.elim h
  | succ n ih =>
    intro M h
    rw [wX2_step_8] at h
    refine a_aload_n X dX2_step_8 rfl 0 rfl ?_
    refine a_getI (k := 4) X fw2 iz_1 rfl flX2_25 rfl dX2_step_9 ?_
    refine a_aload_n X dX2_step_12 rfl 0 rfl ?_
    refine a_getI (k := 2) X fw2 iz_1 rfl flX2_19 rfl dX2_step_13 ?_
    refine a_icmp_ge (tgt := 46) X dX2_step_16 (by decide) (fun z => ?_) (fun z => ?_)
    · have h := h.1 z
      exact tX2_step_46 X h
    · have h := h.2 z
      refine a_aload_n X dX2_step_19 rfl 0 rfl ?_
      refine a_getR (k := 0) X 1 (b := 2) fw2 iz_1 rfl rfl flX2_9 rfl dX2_step_20 ?_
      refine a_aload_n X dX2_step_23 rfl 0 rfl ?_
      refine a_getI (k := 4) X fw2 iz_1 rfl flX2_25 rfl dX2_step_24 ?_
      refine a_iald X iz_2 h.1 dX2_step_27 ?_
      have h := h.2
      refine a_bipush (v := 32) X dX2_step_28 bc_32 ?_
      refine a_icmp_ne (tgt := 46) X dX2_step_30 (by decide) (fun z => ?_) (fun z => ?_)
      · have h := h.1 z
        exact tX2_step_46 X h
      · have h := h.2 z
        refine a_aload_n X dX2_step_33 rfl 0 rfl ?_
        refine a_dup X dX2_step_34 rfl ?_
        refine a_getI (k := 4) X fw2 iz_1 rfl flX2_25 rfl dX2_step_35 ?_
        refine a_iconst (v := 1) X dX2_step_38 ic_1 ?_
        refine a_iadd X dX2_step_39 ?_
        refine a_putI (k := 4) X fw2 iz_1 rfl flX2_25 rfl rfl dX2_step_40 (fun M_14 eM_14 => ?_)
        have h := h M_14 eM_14
        refine a_goto (tgt := 8) X dX2_step_43 (by decide) ?_
        exact ih _ h
set_option maxHeartbeats 4000000 in
set_option maxRecDepth 100000 in
theorem cX2_step_ok (l : Launch) {G : Gl} {al : Nat → Nat} {mk : Nat} {M : Mem} {Q : Mem → Prop} (h : wpX2_step M Q) : Kv l yX2_step cX2_step 1 none rm_X2_step G al mk M [.ref (al 1)] (QV G al mk Q) := by
  refine a_head (by decide) (Nat.le_of_ble_eq_true rfl) (fun p e s m below meth c X => ?_)
  have X : Cx p s m meth c G RX2 cX2_step 1 none := X
  unfold wpX2_step at h
  refine a_sub (ks := [0]) (lo' := [(0, .ref (al 1))]) rfl ?_
  refine a_aload_n X dX2_step_0 rfl 0 rfl ?_
  refine a_aload_n X dX2_step_1 rfl 0 rfl ?_
  refine a_getI (k := 5) X fw2 iz_1 rfl flX2_28 rfl dX2_step_2 ?_
  refine a_putI (k := 4) X fw2 iz_1 rfl flX2_25 rfl rfl dX2_step_5 (fun M_1 eM_1 => ?_)
  have h := h M_1 eM_1
  obtain ⟨n9, h⟩ := h
  exact tX2_step_8 X n9 _ h
abbrev rm_X2_isWord : Room := { frames := 5, cells := 0, slots := 0, locals := 160 }
def wX2_isWord_28 (Q : Int32 → Mem → Prop) (v1 : Nat) : Nat → Mem → Int32 → Prop
  | 0, _, _ => False
  | n + 1, M, v2 => (((nI (slB v1).length) ≤ v2 → Q 1 M) ∧ (¬ (nI (slB v1).length) ≤ v2 → (vp_in ((gI M 1 4) + v2) 400 ∧ (vp_in v2 (slB v1).length ∧ (((gI M 2 (Int32.toNatClampNeg ((gI M 1 4) + v2))) = (sch v1 (Int32.toNatClampNeg v2)) → wX2_isWord_28 Q v1 n M (v2 + 1)) ∧ (¬ (gI M 2 (Int32.toNatClampNeg ((gI M 1 4) + v2))) = (sch v1 (Int32.toNatClampNeg v2)) → Q 0 M))))))
def wpX2_isWord (M : Mem) (v1 : Nat) (Q : Int32 → Mem → Prop) : Prop := ((¬ (gI M 1 3) = 2 → Q 0 M) ∧ ((gI M 1 3) = 2 → ((((gI M 1 5) - (gI M 1 4)) = (nI (slB v1).length) → ∃ n, wX2_isWord_28 Q v1 n M 0) ∧ (¬ ((gI M 1 5) - (gI M 1 4)) = (nI (slB v1).length) → Q 0 M))))
set_option maxHeartbeats 4000000 in
set_option maxRecDepth 100000 in
theorem tX2_isWord_28 (X : Cx p s m meth c G RX2 cX2_isWord 3 (some .boolean)) {Q : Int32 → Mem → Prop} {v1 : Nat} (i1 : v1 < 10) : ∀ (n : Nat) (M : Mem) (v2 : Int32), wX2_isWord_28 Q v1 n M v2 → Wa p l e rm_X2_isWord s m args below meth c 3 G al mk 0 0 (MQ below (QI G al mk Q) args s 0 0 (gA G)) M 28 [(0, .ref (al 1)), (1, .ref (G.2.2.1 v1)), (2, .int v2)] [] := by
  intro n
  induction n with
  | zero =>
    intro M v2 h
    exact False.elim h
  | succ n ih =>
    intro M v2 h
    rw [wX2_isWord_28] at h
    refine a_iload_n X dX2_isWord_28 rfl 2 rfl ?_
    refine a_aload_n X dX2_isWord_29 rfl 1 rfl ?_
    refine a_slen X i1 mlX2_122 rfl dX2_isWord_30 ?_
    refine a_icmp_ge (tgt := 63) X dX2_isWord_33 (by decide) (fun z => ?_) (fun z => ?_)
    · have h := h.1 z
      refine a_iconst (v := 1) X dX2_isWord_63 ic_1 ?_
      exact a_zret X (by decide) h dX2_isWord_64
    · have h := h.2 z
      refine a_aload_n X dX2_isWord_36 rfl 0 rfl ?_
      refine a_getR (k := 0) X 1 (b := 2) fw2 iz_1 rfl rfl flX2_9 rfl dX2_isWord_37 ?_
      refine a_aload_n X dX2_isWord_40 rfl 0 rfl ?_
      refine a_getI (k := 4) X fw2 iz_1 rfl flX2_25 rfl dX2_isWord_41 ?_
      refine a_iload_n X dX2_isWord_44 rfl 2 rfl ?_
      refine a_iadd X dX2_isWord_45 ?_
      refine a_iald X iz_2 h.1 dX2_isWord_46 ?_
      have h := h.2
      refine a_aload_n X dX2_isWord_47 rfl 1 rfl ?_
      refine a_iload_n X dX2_isWord_48 rfl 2 rfl ?_
      refine a_schr (st := [.int (gI M 2 (Int32.toNatClampNeg ((gI M 1 4) + v2)))]) X i1 mlX2_128 rfl (Nat.le_of_ble_eq_true rfl) h.1 dX2_isWord_49 ?_
      have h := h.2
      refine a_icmp_eq (tgt := 57) X dX2_isWord_52 (by decide) (fun z => ?_) (fun z => ?_)
      · have h := h.1 z
        refine a_iinc (v := v2 + 1) (lo' := [(2, .int (v2 + 1)), (0, .ref (al 1)), (1, .ref (G.2.2.1 v1))]) X dX2_isWord_57 2 rfl (ii_1 _) (by decide) rfl ?_
        refine a_goto (tgt := 28) X dX2_isWord_60 (by decide) ?_
        refine a_sub (ks := [1, 2, 0]) (lo' := [(0, .ref (al 1)), (1, .ref (G.2.2.1 v1)), (2, .int (v2 + 1))]) rfl ?_
        exact ih _ _ h
      · have h := h.2 z
        refine a_iconst (v := 0) X dX2_isWord_55 ic_0 ?_
        exact a_zret X (by decide) h dX2_isWord_56
set_option maxHeartbeats 4000000 in
set_option maxRecDepth 100000 in
theorem cX2_isWord_ok (l : Launch) {G : Gl} {al : Nat → Nat} {mk : Nat} {M : Mem} {v1 : Nat} {Q : Int32 → Mem → Prop} (i1 : v1 < 10) (h : wpX2_isWord M v1 Q) : Kv l yX2_isWord cX2_isWord 3 (some .boolean) rm_X2_isWord G al mk M [.ref (al 1), .ref (G.2.2.1 v1)] (QI G al mk Q) := by
  refine a_head (by decide) (Nat.le_of_ble_eq_true rfl) (fun p e s m below meth c X => ?_)
  have X : Cx p s m meth c G RX2 cX2_isWord 3 (some .boolean) := X
  unfold wpX2_isWord at h
  refine a_sub (ks := [0, 1]) (lo' := [(0, .ref (al 1)), (1, .ref (G.2.2.1 v1))]) rfl ?_
  refine a_aload_n X dX2_isWord_0 rfl 0 rfl ?_
  refine a_getI (k := 3) X fw2 iz_1 rfl flX2_22 rfl dX2_isWord_1 ?_
  refine a_iconst (v := 2) X dX2_isWord_4 ic_2 ?_
  refine a_icmp_ne (tgt := 24) X dX2_isWord_5 (by decide) (fun z => ?_) (fun z => ?_)
  · have h := h.1 z
    refine a_iconst (v := 0) X dX2_isWord_24 ic_0 ?_
    exact a_zret X (by decide) h dX2_isWord_25
  · have h := h.2 z
    refine a_aload_n X dX2_isWord_8 rfl 0 rfl ?_
    refine a_getI (k := 5) X fw2 iz_1 rfl flX2_28 rfl dX2_isWord_9 ?_
    refine a_aload_n X dX2_isWord_12 rfl 0 rfl ?_
    refine a_getI (k := 4) X fw2 iz_1 rfl flX2_25 rfl dX2_isWord_13 ?_
    refine a_isub X dX2_isWord_16 ?_
    refine a_aload_n X dX2_isWord_17 rfl 1 rfl ?_
    refine a_slen X i1 mlX2_122 rfl dX2_isWord_18 ?_
    refine a_icmp_eq (tgt := 26) X dX2_isWord_21 (by decide) (fun z => ?_) (fun z => ?_)
    · have h := h.1 z
      refine a_iconst (v := 0) X dX2_isWord_26 ic_0 ?_
      refine a_istore_n (lo' := [(2, .int 0), (0, .ref (al 1)), (1, .ref (G.2.2.1 v1))]) X dX2_isWord_27 rfl (by decide) rfl ?_
      refine a_sub (ks := [1, 2, 0]) (lo' := [(0, .ref (al 1)), (1, .ref (G.2.2.1 v1)), (2, .int 0)]) rfl ?_
      obtain ⟨n9, h⟩ := h
      exact tX2_isWord_28 X i1 n9 _ _ h
    · have h := h.2 z
      refine a_iconst (v := 0) X dX2_isWord_24 ic_0 ?_
      exact a_zret X (by decide) h dX2_isWord_25
abbrev rm_X2_fail : Room := { frames := 0, cells := 0, slots := 0, locals := 0 }
def wpX2_fail (M : Mem) (v1 : Int32) (Q : Int32 → Mem → Prop) : Prop := (∀ M_1 : Mem, M_1 = pI M 1 7 v1 → (∀ M_2 : Mem, M_2 = pI M_1 1 8 (gI M_1 1 4) → Q 0 M_2))
set_option maxHeartbeats 4000000 in
set_option maxRecDepth 100000 in
theorem cX2_fail_ok (l : Launch) {G : Gl} {al : Nat → Nat} {mk : Nat} {M : Mem} {v1 : Int32} {Q : Int32 → Mem → Prop} (h : wpX2_fail M v1 Q) : Kv l yX2_fail cX2_fail 2 (some .boolean) rm_X2_fail G al mk M [.ref (al 1), .int v1] (QI G al mk Q) := by
  refine a_head (by decide) (Nat.le_of_ble_eq_true rfl) (fun p e s m below meth c X => ?_)
  have X : Cx p s m meth c G RX2 cX2_fail 2 (some .boolean) := X
  unfold wpX2_fail at h
  refine a_sub (ks := [0, 1]) (lo' := [(0, .ref (al 1)), (1, .int v1)]) rfl ?_
  refine a_aload_n X dX2_fail_0 rfl 0 rfl ?_
  refine a_iload_n X dX2_fail_1 rfl 1 rfl ?_
  refine a_putI (k := 7) X fw2 iz_1 rfl flX2_34 rfl rfl dX2_fail_2 (fun M_1 eM_1 => ?_)
  have h := h M_1 eM_1
  refine a_aload_n X dX2_fail_5 rfl 0 rfl ?_
  refine a_aload_n X dX2_fail_6 rfl 0 rfl ?_
  refine a_getI (k := 4) X fw2 iz_1 rfl flX2_25 rfl dX2_fail_7 ?_
  refine a_putI (k := 8) X fw2 iz_1 rfl flX2_37 rfl rfl dX2_fail_10 (fun M_2 eM_2 => ?_)
  have h := h M_2 eM_2
  refine a_iconst (v := 0) X dX2_fail_13 ic_0 ?_
  exact a_zret X (by decide) h dX2_fail_14
abbrev rm_X2_wantsWord : Room := { frames := 6, cells := 0, slots := 0, locals := 182 }
def wpX2_wantsWord (M : Mem) (v1 : Nat) (Q : Int32 → Mem → Prop) : Prop := wpX2_isWord M v1 (fun r_2 M_1 => ((¬ r_2 = 0 → Q 1 M_1) ∧ (r_2 = 0 → wpX2_fail M_1 1 (fun r_4 M_3 => ((r_4 = 0 → Q 0 M_3) ∧ (¬ r_4 = 0 → Q 1 M_3))))))
set_option maxHeartbeats 4000000 in
set_option maxRecDepth 100000 in
theorem cX2_wantsWord_ok (l : Launch) {G : Gl} {al : Nat → Nat} {mk : Nat} {M : Mem} {v1 : Nat} {Q : Int32 → Mem → Prop} (i1 : v1 < 10) (h : wpX2_wantsWord M v1 Q) : Kv l yX2_wantsWord cX2_wantsWord 2 (some .boolean) rm_X2_wantsWord G al mk M [.ref (al 1), .ref (G.2.2.1 v1)] (QI G al mk Q) := by
  refine a_head (by decide) (Nat.le_of_ble_eq_true rfl) (fun p e s m below meth c X => ?_)
  have X : Cx p s m meth c G RX2 cX2_wantsWord 2 (some .boolean) := X
  unfold wpX2_wantsWord at h
  refine a_sub (ks := [0, 1]) (lo' := [(0, .ref (al 1)), (1, .ref (G.2.2.1 v1))]) rfl ?_
  refine a_aload_n X dX2_wantsWord_0 rfl 0 rfl ?_
  refine a_aload_n X dX2_wantsWord_1 rfl 1 rfl ?_
  refine a_cVi (As := [.ref (G.2.2.1 v1)]) (st := []) X fw2 iz_1 (cX2_isWord_ok l i1 h) mlX2_83 mvX2_isWord (rz rfl) (Nat.le_of_ble_eq_true rfl) rfl dX2_wantsWord_2 (fun r_2 M_1 h => ?_)
  refine a_if_ne (tgt := 16) X dX2_wantsWord_5 (by decide) (fun z => ?_) (fun z => ?_)
  · have h := h.1 z
    refine a_iconst (v := 1) X dX2_wantsWord_16 ic_1 ?_
    refine a_goto (tgt := 21) X dX2_wantsWord_17 (by decide) ?_
    exact a_zret X (by decide) h dX2_wantsWord_21
  · have h := h.2 z
    refine a_aload_n X dX2_wantsWord_8 rfl 0 rfl ?_
    refine a_iconst (v := 1) X dX2_wantsWord_9 ic_1 ?_
    refine a_cVi (As := [.int 1]) (st := []) X fw2 iz_1 (cX2_fail_ok l h) mlX2_77 mvX2_fail (rz rfl) (Nat.le_of_ble_eq_true rfl) rfl dX2_wantsWord_10 (fun r_4 M_3 h => ?_)
    refine a_if_eq (tgt := 20) X dX2_wantsWord_13 (by decide) (fun z => ?_) (fun z => ?_)
    · have h := h.1 z
      refine a_iconst (v := 0) X dX2_wantsWord_20 ic_0 ?_
      exact a_zret X (by decide) h dX2_wantsWord_21
    · have h := h.2 z
      refine a_iconst (v := 1) X dX2_wantsWord_16 ic_1 ?_
      refine a_goto (tgt := 21) X dX2_wantsWord_17 (by decide) ?_
      exact a_zret X (by decide) h dX2_wantsWord_21
abbrev rm_X2_wantsWhole : Room := { frames := 1, cells := 0, slots := 0, locals := 21 }
def wpX2_wantsWhole (M : Mem) (v1 : Int32) (v2 : Int32) (Q : Int32 → Mem → Prop) : Prop := (((gI M 1 3) = 3 → (((gI M 1 6) < v1 → wpX2_fail M 2 (fun r_2 M_1 => ((r_2 = 0 → Q 0 M_1) ∧ (¬ r_2 = 0 → Q 1 M_1)))) ∧ (¬ (gI M 1 6) < v1 → (((gI M 1 6) ≤ v2 → Q 1 M) ∧ (¬ (gI M 1 6) ≤ v2 → wpX2_fail M 2 (fun r_4 M_3 => ((r_4 = 0 → Q 0 M_3) ∧ (¬ r_4 = 0 → Q 1 M_3)))))))) ∧ (¬ (gI M 1 3) = 3 → wpX2_fail M 1 (fun r_6 M_5 => ((r_6 = 0 ∨ r_6 = 1) ∧ Q r_6 M_5))))
set_option maxHeartbeats 4000000 in
set_option maxRecDepth 100000 in
theorem cX2_wantsWhole_ok (l : Launch) {G : Gl} {al : Nat → Nat} {mk : Nat} {M : Mem} {v1 : Int32} {v2 : Int32} {Q : Int32 → Mem → Prop} (h : wpX2_wantsWhole M v1 v2 Q) : Kv l yX2_wantsWhole cX2_wantsWhole 3 (some .boolean) rm_X2_wantsWhole G al mk M [.ref (al 1), .int v1, .int v2] (QI G al mk Q) := by
  refine a_head (by decide) (Nat.le_of_ble_eq_true rfl) (fun p e s m below meth c X => ?_)
  have X : Cx p s m meth c G RX2 cX2_wantsWhole 3 (some .boolean) := X
  unfold wpX2_wantsWhole at h
  refine a_sub (ks := [0, 1, 2]) (lo' := [(0, .ref (al 1)), (1, .int v1), (2, .int v2)]) rfl ?_
  refine a_aload_n X dX2_wantsWhole_0 rfl 0 rfl ?_
  refine a_getI (k := 3) X fw2 iz_1 rfl flX2_22 rfl dX2_wantsWhole_1 ?_
  refine a_iconst (v := 3) X dX2_wantsWhole_4 ic_3 ?_
  refine a_icmp_eq (tgt := 14) X dX2_wantsWhole_5 (by decide) (fun z => ?_) (fun z => ?_)
  · have h := h.1 z
    refine a_aload_n X dX2_wantsWhole_14 rfl 0 rfl ?_
    refine a_getI (k := 6) X fw2 iz_1 rfl flX2_31 rfl dX2_wantsWhole_15 ?_
    refine a_iload_n X dX2_wantsWhole_18 rfl 1 rfl ?_
    refine a_icmp_lt (tgt := 30) X dX2_wantsWhole_19 (by decide) (fun z => ?_) (fun z => ?_)
    · have h := h.1 z
      refine a_aload_n X dX2_wantsWhole_30 rfl 0 rfl ?_
      refine a_iconst (v := 2) X dX2_wantsWhole_31 ic_2 ?_
      refine a_cVi (As := [.int 2]) (st := []) X fw2 iz_1 (cX2_fail_ok l h) mlX2_77 mvX2_fail (rz rfl) (Nat.le_of_ble_eq_true rfl) rfl dX2_wantsWhole_32 (fun r_2 M_1 h => ?_)
      refine a_if_eq (tgt := 42) X dX2_wantsWhole_35 (by decide) (fun z => ?_) (fun z => ?_)
      · have h := h.1 z
        refine a_iconst (v := 0) X dX2_wantsWhole_42 ic_0 ?_
        exact a_zret X (by decide) h dX2_wantsWhole_43
      · have h := h.2 z
        refine a_iconst (v := 1) X dX2_wantsWhole_38 ic_1 ?_
        refine a_goto (tgt := 43) X dX2_wantsWhole_39 (by decide) ?_
        exact a_zret X (by decide) h dX2_wantsWhole_43
    · have h := h.2 z
      refine a_aload_n X dX2_wantsWhole_22 rfl 0 rfl ?_
      refine a_getI (k := 6) X fw2 iz_1 rfl flX2_31 rfl dX2_wantsWhole_23 ?_
      refine a_iload_n X dX2_wantsWhole_26 rfl 2 rfl ?_
      refine a_icmp_le (tgt := 38) X dX2_wantsWhole_27 (by decide) (fun z => ?_) (fun z => ?_)
      · have h := h.1 z
        refine a_iconst (v := 1) X dX2_wantsWhole_38 ic_1 ?_
        refine a_goto (tgt := 43) X dX2_wantsWhole_39 (by decide) ?_
        exact a_zret X (by decide) h dX2_wantsWhole_43
      · have h := h.2 z
        refine a_aload_n X dX2_wantsWhole_30 rfl 0 rfl ?_
        refine a_iconst (v := 2) X dX2_wantsWhole_31 ic_2 ?_
        refine a_cVi (As := [.int 2]) (st := []) X fw2 iz_1 (cX2_fail_ok l h) mlX2_77 mvX2_fail (rz rfl) (Nat.le_of_ble_eq_true rfl) rfl dX2_wantsWhole_32 (fun r_4 M_3 h => ?_)
        refine a_if_eq (tgt := 42) X dX2_wantsWhole_35 (by decide) (fun z => ?_) (fun z => ?_)
        · have h := h.1 z
          refine a_iconst (v := 0) X dX2_wantsWhole_42 ic_0 ?_
          exact a_zret X (by decide) h dX2_wantsWhole_43
        · have h := h.2 z
          refine a_iconst (v := 1) X dX2_wantsWhole_38 ic_1 ?_
          refine a_goto (tgt := 43) X dX2_wantsWhole_39 (by decide) ?_
          exact a_zret X (by decide) h dX2_wantsWhole_43
  · have h := h.2 z
    refine a_aload_n X dX2_wantsWhole_8 rfl 0 rfl ?_
    refine a_iconst (v := 1) X dX2_wantsWhole_9 ic_1 ?_
    refine a_cVi (As := [.int 1]) (st := []) X fw2 iz_1 (cX2_fail_ok l h) mlX2_77 mvX2_fail (rz rfl) (Nat.le_of_ble_eq_true rfl) rfl dX2_wantsWhole_10 (fun r_6 M_5 h => ?_)
    exact a_zret X h.1 h.2 dX2_wantsWhole_13
abbrev rm_X2_readRanks : Room := { frames := 7, cells := 0, slots := 0, locals := 203 }
def wpX2_readRanks (M : Mem) (Q : Int32 → Mem → Prop) : Prop := (((gI M 1 9) = 0 → wpX2_step M (fun M_1 => wpX2_wantsWord M_1 3 (fun r_3 M_2 => ((¬ r_3 = 0 → wpX2_step M_2 (fun M_4 => wpX2_wantsWhole M_4 2 40 (fun r_6 M_5 => ((¬ r_6 = 0 → (∀ M_7 : Mem, M_7 = pI M_5 1 9 (gI M_5 1 6) → wpX2_step M_7 (fun M_8 => Q 1 M_8))) ∧ (r_6 = 0 → Q 0 M_5))))) ∧ (r_3 = 0 → Q 0 M_2))))) ∧ (¬ (gI M 1 9) = 0 → wpX2_fail M 4 (fun r_10 M_9 => ((r_10 = 0 ∨ r_10 = 1) ∧ Q r_10 M_9))))
set_option maxHeartbeats 4000000 in
set_option maxRecDepth 100000 in
theorem cX2_readRanks_ok (l : Launch) {G : Gl} {al : Nat → Nat} {mk : Nat} {M : Mem} {Q : Int32 → Mem → Prop} (h : wpX2_readRanks M Q) : Kv l yX2_readRanks cX2_readRanks 1 (some .boolean) rm_X2_readRanks G al mk M [.ref (al 1)] (QI G al mk Q) := by
  refine a_head (by decide) (Nat.le_of_ble_eq_true rfl) (fun p e s m below meth c X => ?_)
  have X : Cx p s m meth c G RX2 cX2_readRanks 1 (some .boolean) := X
  unfold wpX2_readRanks at h
  refine a_sub (ks := [0]) (lo' := [(0, .ref (al 1))]) rfl ?_
  refine a_aload_n X dX2_readRanks_0 rfl 0 rfl ?_
  refine a_getI (k := 9) X fw2 iz_1 rfl flX2_40 rfl dX2_readRanks_1 ?_
  refine a_if_eq (tgt := 13) X dX2_readRanks_4 (by decide) (fun z => ?_) (fun z => ?_)
  · have h := h.1 z
    refine a_aload_n X dX2_readRanks_13 rfl 0 rfl ?_
    refine a_cVv (As := []) (st := []) X fw2 iz_1 (cX2_step_ok l h) mlX2_67 mvX2_step (rz rfl) (Nat.le_of_ble_eq_true rfl) rfl dX2_readRanks_14 (fun M_1 h => ?_)
    refine a_aload_n X dX2_readRanks_17 rfl 0 rfl ?_
    refine a_ldcS X 3 (by decide) rfl rfl dX2_readRanks_18 ?_
    refine a_cVi (As := [.ref (G.2.2.1 3)]) (st := []) X fw2 iz_1 (cX2_wantsWord_ok l (by decide) h) mlX2_102 mvX2_wantsWord (rz rfl) (Nat.le_of_ble_eq_true rfl) rfl dX2_readRanks_20 (fun r_3 M_2 h => ?_)
    refine a_if_ne (tgt := 28) X dX2_readRanks_23 (by decide) (fun z => ?_) (fun z => ?_)
    · have h := h.1 z
      refine a_aload_n X dX2_readRanks_28 rfl 0 rfl ?_
      refine a_cVv (As := []) (st := []) X fw2 iz_1 (cX2_step_ok l h) mlX2_67 mvX2_step (rz rfl) (Nat.le_of_ble_eq_true rfl) rfl dX2_readRanks_29 (fun M_4 h => ?_)
      refine a_aload_n X dX2_readRanks_32 rfl 0 rfl ?_
      refine a_iconst (v := 2) X dX2_readRanks_33 ic_2 ?_
      refine a_bipush (v := 40) X dX2_readRanks_34 bc_40 ?_
      refine a_cVi (As := [.int 2, .int 40]) (st := []) X fw2 iz_1 (cX2_wantsWhole_ok l h) mlX2_105 mvX2_wantsWhole (rz rfl) (Nat.le_of_ble_eq_true rfl) rfl dX2_readRanks_36 (fun r_6 M_5 h => ?_)
      refine a_if_ne (tgt := 44) X dX2_readRanks_39 (by decide) (fun z => ?_) (fun z => ?_)
      · have h := h.1 z
        refine a_aload_n X dX2_readRanks_44 rfl 0 rfl ?_
        refine a_aload_n X dX2_readRanks_45 rfl 0 rfl ?_
        refine a_getI (k := 6) X fw2 iz_1 rfl flX2_31 rfl dX2_readRanks_46 ?_
        refine a_putI (k := 9) X fw2 iz_1 rfl flX2_40 rfl rfl dX2_readRanks_49 (fun M_7 eM_7 => ?_)
        have h := h M_7 eM_7
        refine a_aload_n X dX2_readRanks_52 rfl 0 rfl ?_
        refine a_cVv (As := []) (st := []) X fw2 iz_1 (cX2_step_ok l h) mlX2_67 mvX2_step (rz rfl) (Nat.le_of_ble_eq_true rfl) rfl dX2_readRanks_53 (fun M_8 h => ?_)
        refine a_iconst (v := 1) X dX2_readRanks_56 ic_1 ?_
        exact a_zret X (by decide) h dX2_readRanks_57
      · have h := h.2 z
        refine a_iconst (v := 0) X dX2_readRanks_42 ic_0 ?_
        exact a_zret X (by decide) h dX2_readRanks_43
    · have h := h.2 z
      refine a_iconst (v := 0) X dX2_readRanks_26 ic_0 ?_
      exact a_zret X (by decide) h dX2_readRanks_27
  · have h := h.2 z
    refine a_aload_n X dX2_readRanks_7 rfl 0 rfl ?_
    refine a_iconst (v := 4) X dX2_readRanks_8 ic_4 ?_
    refine a_cVi (As := [.int 4]) (st := []) X fw2 iz_1 (cX2_fail_ok l h) mlX2_77 mvX2_fail (rz rfl) (Nat.le_of_ble_eq_true rfl) rfl dX2_readRanks_9 (fun r_10 M_9 h => ?_)
    exact a_zret X h.1 h.2 dX2_readRanks_12
abbrev rm_X2_isName : Room := { frames := 6, cells := 0, slots := 0, locals := 182 }
def wpX2_isName (M : Mem) (Q : Int32 → Mem → Prop) : Prop := ((¬ (gI M 1 3) = 2 → Q 0 M) ∧ ((gI M 1 3) = 2 → wpX2_isWord M 0 (fun r_2 M_1 => ((¬ r_2 = 0 → Q 0 M_1) ∧ (r_2 = 0 → wpX2_isWord M_1 1 (fun r_4 M_3 => ((¬ r_4 = 0 → Q 0 M_3) ∧ (r_4 = 0 → wpX2_isWord M_3 2 (fun r_6 M_5 => ((¬ r_6 = 0 → Q 0 M_5) ∧ (r_6 = 0 → Q 1 M_5)))))))))))
set_option maxHeartbeats 4000000 in
set_option maxRecDepth 100000 in
theorem cX2_isName_ok (l : Launch) {G : Gl} {al : Nat → Nat} {mk : Nat} {M : Mem} {Q : Int32 → Mem → Prop} (h : wpX2_isName M Q) : Kv l yX2_isName cX2_isName 1 (some .boolean) rm_X2_isName G al mk M [.ref (al 1)] (QI G al mk Q) := by
  refine a_head (by decide) (Nat.le_of_ble_eq_true rfl) (fun p e s m below meth c X => ?_)
  have X : Cx p s m meth c G RX2 cX2_isName 1 (some .boolean) := X
  unfold wpX2_isName at h
  refine a_sub (ks := [0]) (lo' := [(0, .ref (al 1))]) rfl ?_
  refine a_aload_n X dX2_isName_0 rfl 0 rfl ?_
  refine a_getI (k := 3) X fw2 iz_1 rfl flX2_22 rfl dX2_isName_1 ?_
  refine a_iconst (v := 2) X dX2_isName_4 ic_2 ?_
  refine a_icmp_ne (tgt := 39) X dX2_isName_5 (by decide) (fun z => ?_) (fun z => ?_)
  · have h := h.1 z
    refine a_iconst (v := 0) X dX2_isName_39 ic_0 ?_
    exact a_zret X (by decide) h dX2_isName_40
  · have h := h.2 z
    refine a_aload_n X dX2_isName_8 rfl 0 rfl ?_
    refine a_ldcS X 0 (by decide) rfl rfl dX2_isName_9 ?_
    refine a_cVi (As := [.ref (G.2.2.1 0)]) (st := []) X fw2 iz_1 (cX2_isWord_ok l (by decide) h) mlX2_83 mvX2_isWord (rz rfl) (Nat.le_of_ble_eq_true rfl) rfl dX2_isName_11 (fun r_2 M_1 h => ?_)
    refine a_if_ne (tgt := 39) X dX2_isName_14 (by decide) (fun z => ?_) (fun z => ?_)
    · have h := h.1 z
      refine a_iconst (v := 0) X dX2_isName_39 ic_0 ?_
      exact a_zret X (by decide) h dX2_isName_40
    · have h := h.2 z
      refine a_aload_n X dX2_isName_17 rfl 0 rfl ?_
      refine a_ldcS X 1 (by decide) rfl rfl dX2_isName_18 ?_
      refine a_cVi (As := [.ref (G.2.2.1 1)]) (st := []) X fw2 iz_1 (cX2_isWord_ok l (by decide) h) mlX2_83 mvX2_isWord (rz rfl) (Nat.le_of_ble_eq_true rfl) rfl dX2_isName_20 (fun r_4 M_3 h => ?_)
      refine a_if_ne (tgt := 39) X dX2_isName_23 (by decide) (fun z => ?_) (fun z => ?_)
      · have h := h.1 z
        refine a_iconst (v := 0) X dX2_isName_39 ic_0 ?_
        exact a_zret X (by decide) h dX2_isName_40
      · have h := h.2 z
        refine a_aload_n X dX2_isName_26 rfl 0 rfl ?_
        refine a_ldcS X 2 (by decide) rfl rfl dX2_isName_27 ?_
        refine a_cVi (As := [.ref (G.2.2.1 2)]) (st := []) X fw2 iz_1 (cX2_isWord_ok l (by decide) h) mlX2_83 mvX2_isWord (rz rfl) (Nat.le_of_ble_eq_true rfl) rfl dX2_isName_29 (fun r_6 M_5 h => ?_)
        refine a_if_ne (tgt := 39) X dX2_isName_32 (by decide) (fun z => ?_) (fun z => ?_)
        · have h := h.1 z
          refine a_iconst (v := 0) X dX2_isName_39 ic_0 ?_
          exact a_zret X (by decide) h dX2_isName_40
        · have h := h.2 z
          refine a_iconst (v := 1) X dX2_isName_35 ic_1 ?_
          refine a_goto (tgt := 40) X dX2_isName_36 (by decide) ?_
          exact a_zret X (by decide) h dX2_isName_40
abbrev rm_X2_streamNamed : Room := { frames := 0, cells := 0, slots := 0, locals := 0 }
def wX2_streamNamed_2 (Q : Int32 → Mem → Prop) (v1 : Int32) : Nat → Mem → Int32 → Prop
  | 0, _, _ => False
  | n + 1, M, v2 => (((gI M 1 10) ≤ v2 → Q (-1) M) ∧ (¬ (gI M 1 10) ≤ v2 → (vp_in v2 4 ∧ ((¬ (gI M 3 (Int32.toNatClampNeg v2)) = v1 → wX2_streamNamed_2 Q v1 n M (v2 + 1)) ∧ ((gI M 3 (Int32.toNatClampNeg v2)) = v1 → Q v2 M)))))
def wpX2_streamNamed (M : Mem) (v1 : Int32) (Q : Int32 → Mem → Prop) : Prop := ∃ n, wX2_streamNamed_2 Q v1 n M 0
set_option maxHeartbeats 4000000 in
set_option maxRecDepth 100000 in
theorem tX2_streamNamed_2 (X : Cx p s m meth c G RX2 cX2_streamNamed 3 (some .int)) {Q : Int32 → Mem → Prop} {v1 : Int32} : ∀ (n : Nat) (M : Mem) (v2 : Int32), wX2_streamNamed_2 Q v1 n M v2 → Wa p l e rm_X2_streamNamed s m args below meth c 3 G al mk 0 0 (MQ below (QI G al mk Q) args s 0 0 (gA G)) M 2 [(0, .ref (al 1)), (1, .int v1), (2, .int v2)] [] := by
  intro n
  induction n with
  | zero =>
    intro M v2 h
    exact False.elim h
  | succ n ih =>
    intro M v2 h
    rw [wX2_streamNamed_2] at h
    refine a_iload_n X dX2_streamNamed_2 rfl 2 rfl ?_
    refine a_aload_n X dX2_streamNamed_3 rfl 0 rfl ?_
    refine a_getI (k := 10) X fw2 iz_1 rfl flX2_43 rfl dX2_streamNamed_4 ?_
    refine a_icmp_ge (tgt := 28) X dX2_streamNamed_7 (by decide) (fun z => ?_) (fun z => ?_)
    · have h := h.1 z
      refine a_iconst (v := (-1)) X dX2_streamNamed_28 ic_m1 ?_
      exact a_iret X h dX2_streamNamed_29
    · have h := h.2 z
      refine a_aload_n X dX2_streamNamed_10 rfl 0 rfl ?_
      refine a_getR (k := 11) X 2 (b := 3) fw2 iz_1 rfl rfl flX2_46 rfl dX2_streamNamed_11 ?_
      refine a_iload_n X dX2_streamNamed_14 rfl 2 rfl ?_
      refine a_iald X iz_3 h.1 dX2_streamNamed_15 ?_
      have h := h.2
      refine a_iload_n X dX2_streamNamed_16 rfl 1 rfl ?_
      refine a_icmp_ne (tgt := 22) X dX2_streamNamed_17 (by decide) (fun z => ?_) (fun z => ?_)
      · have h := h.1 z
        refine a_iinc (v := v2 + 1) (lo' := [(2, .int (v2 + 1)), (0, .ref (al 1)), (1, .int v1)]) X dX2_streamNamed_22 2 rfl (ii_1 _) (by decide) rfl ?_
        refine a_goto (tgt := 2) X dX2_streamNamed_25 (by decide) ?_
        refine a_sub (ks := [1, 2, 0]) (lo' := [(0, .ref (al 1)), (1, .int v1), (2, .int (v2 + 1))]) rfl ?_
        exact ih _ _ h
      · have h := h.2 z
        refine a_iload_n X dX2_streamNamed_20 rfl 2 rfl ?_
        exact a_iret X h dX2_streamNamed_21
set_option maxHeartbeats 4000000 in
set_option maxRecDepth 100000 in
theorem cX2_streamNamed_ok (l : Launch) {G : Gl} {al : Nat → Nat} {mk : Nat} {M : Mem} {v1 : Int32} {Q : Int32 → Mem → Prop} (h : wpX2_streamNamed M v1 Q) : Kv l yX2_streamNamed cX2_streamNamed 3 (some .int) rm_X2_streamNamed G al mk M [.ref (al 1), .int v1] (QI G al mk Q) := by
  refine a_head (by decide) (Nat.le_of_ble_eq_true rfl) (fun p e s m below meth c X => ?_)
  have X : Cx p s m meth c G RX2 cX2_streamNamed 3 (some .int) := X
  unfold wpX2_streamNamed at h
  refine a_sub (ks := [0, 1]) (lo' := [(0, .ref (al 1)), (1, .int v1)]) rfl ?_
  refine a_iconst (v := 0) X dX2_streamNamed_0 ic_0 ?_
  refine a_istore_n (lo' := [(2, .int 0), (0, .ref (al 1)), (1, .int v1)]) X dX2_streamNamed_1 rfl (by decide) rfl ?_
  refine a_sub (ks := [1, 2, 0]) (lo' := [(0, .ref (al 1)), (1, .int v1), (2, .int 0)]) rfl ?_
  obtain ⟨n9, h⟩ := h
  exact tX2_streamNamed_2 X n9 _ _ h
abbrev rm_X2_readStream : Room := { frames := 7, cells := 0, slots := 0, locals := 203 }
def wpX2_readStream (M : Mem) (Q : Int32 → Mem → Prop) : Prop := ((¬ (gI M 1 9) = 0 → (((gI M 1 10) < 4 → wpX2_step M (fun M_1 => wpX2_isName M_1 (fun r_3 M_2 => ((¬ r_3 = 0 → wpX2_streamNamed M_2 (gI M_2 1 6) (fun r_5 M_4 => ((r_5 = (-1) → (vp_in (gI M_4 1 10) 4 ∧ ∀ M_6 : Mem, M_6 = pI M_4 3 (Int32.toNatClampNeg (gI M_4 1 10)) (gI M_4 1 6) → wpX2_step M_6 (fun M_7 => wpX2_wantsWord M_7 4 (fun r_9 M_8 => ((¬ r_9 = 0 → wpX2_step M_8 (fun M_10 => wpX2_wantsWhole M_10 1 60 (fun r_12 M_11 => ((¬ r_12 = 0 → (vp_in (gI M_11 1 10) 4 ∧ ∀ M_13 : Mem, M_13 = pI M_11 4 (Int32.toNatClampNeg (gI M_11 1 10)) (gI M_11 1 6) → (∀ M_14 : Mem, M_14 = pI M_13 1 10 ((gI M_13 1 10) + 1) → wpX2_step M_14 (fun M_15 => Q 1 M_15)))) ∧ (r_12 = 0 → Q 0 M_11))))) ∧ (r_9 = 0 → Q 0 M_8)))))) ∧ (¬ r_5 = (-1) → wpX2_fail M_4 3 (fun r_17 M_16 => ((r_17 = 0 ∨ r_17 = 1) ∧ Q r_17 M_16)))))) ∧ (r_3 = 0 → wpX2_fail M_2 1 (fun r_19 M_18 => ((r_19 = 0 ∨ r_19 = 1) ∧ Q r_19 M_18))))))) ∧ (¬ (gI M 1 10) < 4 → wpX2_fail M 5 (fun r_21 M_20 => ((r_21 = 0 ∨ r_21 = 1) ∧ Q r_21 M_20))))) ∧ ((gI M 1 9) = 0 → wpX2_fail M 6 (fun r_23 M_22 => ((r_23 = 0 ∨ r_23 = 1) ∧ Q r_23 M_22))))
set_option maxHeartbeats 4000000 in
set_option maxRecDepth 100000 in
theorem cX2_readStream_ok (l : Launch) {G : Gl} {al : Nat → Nat} {mk : Nat} {M : Mem} {Q : Int32 → Mem → Prop} (h : wpX2_readStream M Q) : Kv l yX2_readStream cX2_readStream 1 (some .boolean) rm_X2_readStream G al mk M [.ref (al 1)] (QI G al mk Q) := by
  refine a_head (by decide) (Nat.le_of_ble_eq_true rfl) (fun p e s m below meth c X => ?_)
  have X : Cx p s m meth c G RX2 cX2_readStream 1 (some .boolean) := X
  unfold wpX2_readStream at h
  refine a_sub (ks := [0]) (lo' := [(0, .ref (al 1))]) rfl ?_
  refine a_aload_n X dX2_readStream_0 rfl 0 rfl ?_
  refine a_getI (k := 9) X fw2 iz_1 rfl flX2_40 rfl dX2_readStream_1 ?_
  refine a_if_ne (tgt := 14) X dX2_readStream_4 (by decide) (fun z => ?_) (fun z => ?_)
  · have h := h.1 z
    refine a_aload_n X dX2_readStream_14 rfl 0 rfl ?_
    refine a_getI (k := 10) X fw2 iz_1 rfl flX2_43 rfl dX2_readStream_15 ?_
    refine a_iconst (v := 4) X dX2_readStream_18 ic_4 ?_
    refine a_icmp_lt (tgt := 28) X dX2_readStream_19 (by decide) (fun z => ?_) (fun z => ?_)
    · have h := h.1 z
      refine a_aload_n X dX2_readStream_28 rfl 0 rfl ?_
      refine a_cVv (As := []) (st := []) X fw2 iz_1 (cX2_step_ok l h) mlX2_67 mvX2_step (rz rfl) (Nat.le_of_ble_eq_true rfl) rfl dX2_readStream_29 (fun M_1 h => ?_)
      refine a_aload_n X dX2_readStream_32 rfl 0 rfl ?_
      refine a_cVi (As := []) (st := []) X fw2 iz_1 (cX2_isName_ok l h) mlX2_109 mvX2_isName (rz rfl) (Nat.le_of_ble_eq_true rfl) rfl dX2_readStream_33 (fun r_3 M_2 h => ?_)
      refine a_if_ne (tgt := 45) X dX2_readStream_36 (by decide) (fun z => ?_) (fun z => ?_)
      · have h := h.1 z
        refine a_aload_n X dX2_readStream_45 rfl 0 rfl ?_
        refine a_aload_n X dX2_readStream_46 rfl 0 rfl ?_
        refine a_getI (k := 6) X fw2 iz_1 rfl flX2_31 rfl dX2_readStream_47 ?_
        refine a_cVi (As := [.int (gI M_2 1 6)]) (st := []) X fw2 iz_1 (cX2_streamNamed_ok l h) mlX2_112 mvX2_streamNamed (rz rfl) (Nat.le_of_ble_eq_true rfl) rfl dX2_readStream_50 (fun r_5 M_4 h => ?_)
        refine a_iconst (v := (-1)) X dX2_readStream_53 ic_m1 ?_
        refine a_icmp_eq (tgt := 63) X dX2_readStream_54 (by decide) (fun z => ?_) (fun z => ?_)
        · have h := h.1 z
          refine a_aload_n X dX2_readStream_63 rfl 0 rfl ?_
          refine a_getR (k := 11) X 2 (b := 3) fw2 iz_1 rfl rfl flX2_46 rfl dX2_readStream_64 ?_
          refine a_aload_n X dX2_readStream_67 rfl 0 rfl ?_
          refine a_getI (k := 10) X fw2 iz_1 rfl flX2_43 rfl dX2_readStream_68 ?_
          refine a_aload_n X dX2_readStream_71 rfl 0 rfl ?_
          refine a_getI (k := 6) X fw2 iz_1 rfl flX2_31 rfl dX2_readStream_72 ?_
          refine a_iast X iz_3 h.1 dX2_readStream_75 (fun M_6 eM_6 => ?_)
          have h := h.2 M_6 eM_6
          refine a_aload_n X dX2_readStream_76 rfl 0 rfl ?_
          refine a_cVv (As := []) (st := []) X fw2 iz_1 (cX2_step_ok l h) mlX2_67 mvX2_step (rz rfl) (Nat.le_of_ble_eq_true rfl) rfl dX2_readStream_77 (fun M_7 h => ?_)
          refine a_aload_n X dX2_readStream_80 rfl 0 rfl ?_
          refine a_ldcS X 4 (by decide) rfl rfl dX2_readStream_81 ?_
          refine a_cVi (As := [.ref (G.2.2.1 4)]) (st := []) X fw2 iz_1 (cX2_wantsWord_ok l (by decide) h) mlX2_102 mvX2_wantsWord (rz rfl) (Nat.le_of_ble_eq_true rfl) rfl dX2_readStream_83 (fun r_9 M_8 h => ?_)
          refine a_if_ne (tgt := 91) X dX2_readStream_86 (by decide) (fun z => ?_) (fun z => ?_)
          · have h := h.1 z
            refine a_aload_n X dX2_readStream_91 rfl 0 rfl ?_
            refine a_cVv (As := []) (st := []) X fw2 iz_1 (cX2_step_ok l h) mlX2_67 mvX2_step (rz rfl) (Nat.le_of_ble_eq_true rfl) rfl dX2_readStream_92 (fun M_10 h => ?_)
            refine a_aload_n X dX2_readStream_95 rfl 0 rfl ?_
            refine a_iconst (v := 1) X dX2_readStream_96 ic_1 ?_
            refine a_bipush (v := 60) X dX2_readStream_97 bc_60 ?_
            refine a_cVi (As := [.int 1, .int 60]) (st := []) X fw2 iz_1 (cX2_wantsWhole_ok l h) mlX2_105 mvX2_wantsWhole (rz rfl) (Nat.le_of_ble_eq_true rfl) rfl dX2_readStream_99 (fun r_12 M_11 h => ?_)
            refine a_if_ne (tgt := 107) X dX2_readStream_102 (by decide) (fun z => ?_) (fun z => ?_)
            · have h := h.1 z
              refine a_aload_n X dX2_readStream_107 rfl 0 rfl ?_
              refine a_getR (k := 12) X 3 (b := 4) fw2 iz_1 rfl rfl flX2_49 rfl dX2_readStream_108 ?_
              refine a_aload_n X dX2_readStream_111 rfl 0 rfl ?_
              refine a_getI (k := 10) X fw2 iz_1 rfl flX2_43 rfl dX2_readStream_112 ?_
              refine a_aload_n X dX2_readStream_115 rfl 0 rfl ?_
              refine a_getI (k := 6) X fw2 iz_1 rfl flX2_31 rfl dX2_readStream_116 ?_
              refine a_iast X iz_4 h.1 dX2_readStream_119 (fun M_13 eM_13 => ?_)
              have h := h.2 M_13 eM_13
              refine a_aload_n X dX2_readStream_120 rfl 0 rfl ?_
              refine a_dup X dX2_readStream_121 rfl ?_
              refine a_getI (k := 10) X fw2 iz_1 rfl flX2_43 rfl dX2_readStream_122 ?_
              refine a_iconst (v := 1) X dX2_readStream_125 ic_1 ?_
              refine a_iadd X dX2_readStream_126 ?_
              refine a_putI (k := 10) X fw2 iz_1 rfl flX2_43 rfl rfl dX2_readStream_127 (fun M_14 eM_14 => ?_)
              have h := h M_14 eM_14
              refine a_aload_n X dX2_readStream_130 rfl 0 rfl ?_
              refine a_cVv (As := []) (st := []) X fw2 iz_1 (cX2_step_ok l h) mlX2_67 mvX2_step (rz rfl) (Nat.le_of_ble_eq_true rfl) rfl dX2_readStream_131 (fun M_15 h => ?_)
              refine a_iconst (v := 1) X dX2_readStream_134 ic_1 ?_
              exact a_zret X (by decide) h dX2_readStream_135
            · have h := h.2 z
              refine a_iconst (v := 0) X dX2_readStream_105 ic_0 ?_
              exact a_zret X (by decide) h dX2_readStream_106
          · have h := h.2 z
            refine a_iconst (v := 0) X dX2_readStream_89 ic_0 ?_
            exact a_zret X (by decide) h dX2_readStream_90
        · have h := h.2 z
          refine a_aload_n X dX2_readStream_57 rfl 0 rfl ?_
          refine a_iconst (v := 3) X dX2_readStream_58 ic_3 ?_
          refine a_cVi (As := [.int 3]) (st := []) X fw2 iz_1 (cX2_fail_ok l h) mlX2_77 mvX2_fail (rz rfl) (Nat.le_of_ble_eq_true rfl) rfl dX2_readStream_59 (fun r_17 M_16 h => ?_)
          exact a_zret X h.1 h.2 dX2_readStream_62
      · have h := h.2 z
        refine a_aload_n X dX2_readStream_39 rfl 0 rfl ?_
        refine a_iconst (v := 1) X dX2_readStream_40 ic_1 ?_
        refine a_cVi (As := [.int 1]) (st := []) X fw2 iz_1 (cX2_fail_ok l h) mlX2_77 mvX2_fail (rz rfl) (Nat.le_of_ble_eq_true rfl) rfl dX2_readStream_41 (fun r_19 M_18 h => ?_)
        exact a_zret X h.1 h.2 dX2_readStream_44
    · have h := h.2 z
      refine a_aload_n X dX2_readStream_22 rfl 0 rfl ?_
      refine a_iconst (v := 5) X dX2_readStream_23 ic_5 ?_
      refine a_cVi (As := [.int 5]) (st := []) X fw2 iz_1 (cX2_fail_ok l h) mlX2_77 mvX2_fail (rz rfl) (Nat.le_of_ble_eq_true rfl) rfl dX2_readStream_24 (fun r_21 M_20 h => ?_)
      exact a_zret X h.1 h.2 dX2_readStream_27
  · have h := h.2 z
    refine a_aload_n X dX2_readStream_7 rfl 0 rfl ?_
    refine a_bipush (v := 6) X dX2_readStream_8 bc_6 ?_
    refine a_cVi (As := [.int 6]) (st := []) X fw2 iz_1 (cX2_fail_ok l h) mlX2_77 mvX2_fail (rz rfl) (Nat.le_of_ble_eq_true rfl) rfl dX2_readStream_10 (fun r_23 M_22 h => ?_)
    exact a_zret X h.1 h.2 dX2_readStream_13
abbrev rm_X2_keepPush : Room := { frames := 0, cells := 0, slots := 0, locals := 0 }
def wpX2_keepPush (M : Mem) (v1 : Int32) (v2 : Int32) (Q : Mem → Prop) : Prop := ((200 ≤ (gI M 1 13) → Q M) ∧ (¬ 200 ≤ (gI M 1 13) → (vp_in (gI M 1 13) 200 ∧ ∀ M_1 : Mem, M_1 = pI M 5 (Int32.toNatClampNeg (gI M 1 13)) v1 → (vp_in (gI M_1 1 13) 200 ∧ ∀ M_2 : Mem, M_2 = pI M_1 6 (Int32.toNatClampNeg (gI M_1 1 13)) v2 → (∀ M_3 : Mem, M_3 = pI M_2 1 13 ((gI M_2 1 13) + 1) → Q M_3)))))
set_option maxHeartbeats 4000000 in
set_option maxRecDepth 100000 in
theorem cX2_keepPush_ok (l : Launch) {G : Gl} {al : Nat → Nat} {mk : Nat} {M : Mem} {v1 : Int32} {v2 : Int32} {Q : Mem → Prop} (h : wpX2_keepPush M v1 v2 Q) : Kv l yX2_keepPush cX2_keepPush 3 none rm_X2_keepPush G al mk M [.ref (al 1), .int v1, .int v2] (QV G al mk Q) := by
  refine a_head (by decide) (Nat.le_of_ble_eq_true rfl) (fun p e s m below meth c X => ?_)
  have X : Cx p s m meth c G RX2 cX2_keepPush 3 none := X
  unfold wpX2_keepPush at h
  refine a_sub (ks := [0, 1, 2]) (lo' := [(0, .ref (al 1)), (1, .int v1), (2, .int v2)]) rfl ?_
  refine a_aload_n X dX2_keepPush_0 rfl 0 rfl ?_
  refine a_getI (k := 13) X fw2 iz_1 rfl flX2_52 rfl dX2_keepPush_1 ?_
  refine a_sipush (v := 200) X dX2_keepPush_4 sc_200 ?_
  refine a_icmp_ge (tgt := 40) X dX2_keepPush_7 (by decide) (fun z => ?_) (fun z => ?_)
  · have h := h.1 z
    exact a_vret X h dX2_keepPush_40
  · have h := h.2 z
    refine a_aload_n X dX2_keepPush_10 rfl 0 rfl ?_
    refine a_getR (k := 14) X 4 (b := 5) fw2 iz_1 rfl rfl flX2_55 rfl dX2_keepPush_11 ?_
    refine a_aload_n X dX2_keepPush_14 rfl 0 rfl ?_
    refine a_getI (k := 13) X fw2 iz_1 rfl flX2_52 rfl dX2_keepPush_15 ?_
    refine a_iload_n X dX2_keepPush_18 rfl 1 rfl ?_
    refine a_iast X iz_5 h.1 dX2_keepPush_19 (fun M_1 eM_1 => ?_)
    have h := h.2 M_1 eM_1
    refine a_aload_n X dX2_keepPush_20 rfl 0 rfl ?_
    refine a_getR (k := 15) X 5 (b := 6) fw2 iz_1 rfl rfl flX2_58 rfl dX2_keepPush_21 ?_
    refine a_aload_n X dX2_keepPush_24 rfl 0 rfl ?_
    refine a_getI (k := 13) X fw2 iz_1 rfl flX2_52 rfl dX2_keepPush_25 ?_
    refine a_iload_n X dX2_keepPush_28 rfl 2 rfl ?_
    refine a_iast X iz_6 h.1 dX2_keepPush_29 (fun M_2 eM_2 => ?_)
    have h := h.2 M_2 eM_2
    refine a_aload_n X dX2_keepPush_30 rfl 0 rfl ?_
    refine a_dup X dX2_keepPush_31 rfl ?_
    refine a_getI (k := 13) X fw2 iz_1 rfl flX2_52 rfl dX2_keepPush_32 ?_
    refine a_iconst (v := 1) X dX2_keepPush_35 ic_1 ?_
    refine a_iadd X dX2_keepPush_36 ?_
    refine a_putI (k := 13) X fw2 iz_1 rfl flX2_52 rfl rfl dX2_keepPush_37 (fun M_3 eM_3 => ?_)
    have h := h M_3 eM_3
    exact a_vret X h dX2_keepPush_40
abbrev rm_X2_readPush : Room := { frames := 7, cells := 0, slots := 0, locals := 202 }
def wX2_readPush_70 (Q : Int32 → Mem → Prop) (v1 : Int32) : Nat → Mem → Int32 → Prop
  | 0, _, _ => False
  | n + 1, M, v2 => ((200 ≤ v2 → Q 1 M) ∧ (¬ 200 ≤ v2 → ((¬ (gI M 1 3) = 3 → Q 1 M) ∧ ((gI M 1 3) = 3 → wpX2_keepPush M v1 (gI M 1 6) (fun M_9 => wpX2_step M_9 (fun M_10 => wX2_readPush_70 Q v1 n M_10 (v2 + 1)))))))
def wpX2_readPush (M : Mem) (Q : Int32 → Mem → Prop) : Prop := ((¬ (gI M 1 9) = 0 → wpX2_step M (fun M_1 => wpX2_isName M_1 (fun r_3 M_2 => ((¬ r_3 = 0 → wpX2_streamNamed M_2 (gI M_2 1 6) (fun r_5 M_4 => ((¬ r_5 = (-1) → wpX2_step M_4 (fun M_6 => wpX2_wantsWhole M_6 0 999 (fun r_8 M_7 => ((¬ r_8 = 0 → ∃ n, wX2_readPush_70 Q r_5 n M_7 0) ∧ (r_8 = 0 → Q 0 M_7))))) ∧ (r_5 = (-1) → wpX2_fail M_4 3 (fun r_12 M_11 => ((r_12 = 0 ∨ r_12 = 1) ∧ Q r_12 M_11)))))) ∧ (r_3 = 0 → wpX2_fail M_2 1 (fun r_14 M_13 => ((r_14 = 0 ∨ r_14 = 1) ∧ Q r_14 M_13))))))) ∧ ((gI M 1 9) = 0 → wpX2_fail M 6 (fun r_16 M_15 => ((r_16 = 0 ∨ r_16 = 1) ∧ Q r_16 M_15))))
set_option maxHeartbeats 4000000 in
set_option maxRecDepth 100000 in
theorem tX2_readPush_70 (X : Cx p s m meth c G RX2 cX2_readPush 3 (some .boolean)) {Q : Int32 → Mem → Prop} {v1 : Int32} : ∀ (n : Nat) (M : Mem) (v2 : Int32), wX2_readPush_70 Q v1 n M v2 → Wa p l e rm_X2_readPush s m args below meth c 3 G al mk 0 0 (MQ below (QI G al mk Q) args s 0 0 (gA G)) M 70 [(0, .ref (al 1)), (1, .int v1), (2, .int v2)] [] := by
  intro n
  induction n with
  | zero =>
    intro M v2 h
    exact False.elim h
  | succ n ih =>
    intro M v2 h
    rw [wX2_readPush_70] at h
    refine a_iload_n X dX2_readPush_70 rfl 2 rfl ?_
    refine a_sipush (v := 200) X dX2_readPush_71 sc_200 ?_
    refine a_icmp_ge (tgt := 104) X dX2_readPush_74 (by decide) (fun z => ?_) (fun z => ?_)
    · have h := h.1 z
      refine a_iconst (v := 1) X dX2_readPush_104 ic_1 ?_
      exact a_zret X (by decide) h dX2_readPush_105
    · have h := h.2 z
      refine a_aload_n X dX2_readPush_77 rfl 0 rfl ?_
      refine a_getI (k := 3) X fw2 iz_1 rfl flX2_22 rfl dX2_readPush_78 ?_
      refine a_iconst (v := 3) X dX2_readPush_81 ic_3 ?_
      refine a_icmp_ne (tgt := 104) X dX2_readPush_82 (by decide) (fun z => ?_) (fun z => ?_)
      · have h := h.1 z
        refine a_iconst (v := 1) X dX2_readPush_104 ic_1 ?_
        exact a_zret X (by decide) h dX2_readPush_105
      · have h := h.2 z
        refine a_aload_n X dX2_readPush_85 rfl 0 rfl ?_
        refine a_iload_n X dX2_readPush_86 rfl 1 rfl ?_
        refine a_aload_n X dX2_readPush_87 rfl 0 rfl ?_
        refine a_getI (k := 6) X fw2 iz_1 rfl flX2_31 rfl dX2_readPush_88 ?_
        refine a_cVv (As := [.int v1, .int (gI M 1 6)]) (st := []) X fw2 iz_1 (cX2_keepPush_ok l h) mlX2_118 mvX2_keepPush (rz rfl) (Nat.le_of_ble_eq_true rfl) rfl dX2_readPush_91 (fun M_9 h => ?_)
        refine a_aload_n X dX2_readPush_94 rfl 0 rfl ?_
        refine a_cVv (As := []) (st := []) X fw2 iz_1 (cX2_step_ok l h) mlX2_67 mvX2_step (rz rfl) (Nat.le_of_ble_eq_true rfl) rfl dX2_readPush_95 (fun M_10 h => ?_)
        refine a_iinc (v := v2 + 1) (lo' := [(2, .int (v2 + 1)), (0, .ref (al 1)), (1, .int v1)]) X dX2_readPush_98 2 rfl (ii_1 _) (by decide) rfl ?_
        refine a_goto (tgt := 70) X dX2_readPush_101 (by decide) ?_
        refine a_sub (ks := [1, 2, 0]) (lo' := [(0, .ref (al 1)), (1, .int v1), (2, .int (v2 + 1))]) rfl ?_
        exact ih _ _ h
set_option maxHeartbeats 4000000 in
set_option maxRecDepth 100000 in
theorem cX2_readPush_ok (l : Launch) {G : Gl} {al : Nat → Nat} {mk : Nat} {M : Mem} {Q : Int32 → Mem → Prop} (h : wpX2_readPush M Q) : Kv l yX2_readPush cX2_readPush 3 (some .boolean) rm_X2_readPush G al mk M [.ref (al 1)] (QI G al mk Q) := by
  refine a_head (by decide) (Nat.le_of_ble_eq_true rfl) (fun p e s m below meth c X => ?_)
  have X : Cx p s m meth c G RX2 cX2_readPush 3 (some .boolean) := X
  unfold wpX2_readPush at h
  refine a_sub (ks := [0]) (lo' := [(0, .ref (al 1))]) rfl ?_
  refine a_aload_n X dX2_readPush_0 rfl 0 rfl ?_
  refine a_getI (k := 9) X fw2 iz_1 rfl flX2_40 rfl dX2_readPush_1 ?_
  refine a_if_ne (tgt := 14) X dX2_readPush_4 (by decide) (fun z => ?_) (fun z => ?_)
  · have h := h.1 z
    refine a_aload_n X dX2_readPush_14 rfl 0 rfl ?_
    refine a_cVv (As := []) (st := []) X fw2 iz_1 (cX2_step_ok l h) mlX2_67 mvX2_step (rz rfl) (Nat.le_of_ble_eq_true rfl) rfl dX2_readPush_15 (fun M_1 h => ?_)
    refine a_aload_n X dX2_readPush_18 rfl 0 rfl ?_
    refine a_cVi (As := []) (st := []) X fw2 iz_1 (cX2_isName_ok l h) mlX2_109 mvX2_isName (rz rfl) (Nat.le_of_ble_eq_true rfl) rfl dX2_readPush_19 (fun r_3 M_2 h => ?_)
    refine a_if_ne (tgt := 31) X dX2_readPush_22 (by decide) (fun z => ?_) (fun z => ?_)
    · have h := h.1 z
      refine a_aload_n X dX2_readPush_31 rfl 0 rfl ?_
      refine a_aload_n X dX2_readPush_32 rfl 0 rfl ?_
      refine a_getI (k := 6) X fw2 iz_1 rfl flX2_31 rfl dX2_readPush_33 ?_
      refine a_cVi (As := [.int (gI M_2 1 6)]) (st := []) X fw2 iz_1 (cX2_streamNamed_ok l h) mlX2_112 mvX2_streamNamed (rz rfl) (Nat.le_of_ble_eq_true rfl) rfl dX2_readPush_36 (fun r_5 M_4 h => ?_)
      refine a_istore_n (lo' := [(1, .int r_5), (0, .ref (al 1))]) X dX2_readPush_39 rfl (by decide) rfl ?_
      refine a_iload_n X dX2_readPush_40 rfl 0 rfl ?_
      refine a_iconst (v := (-1)) X dX2_readPush_41 ic_m1 ?_
      refine a_icmp_ne (tgt := 51) X dX2_readPush_42 (by decide) (fun z => ?_) (fun z => ?_)
      · have h := h.1 z
        refine a_aload_n X dX2_readPush_51 rfl 1 rfl ?_
        refine a_cVv (As := []) (st := []) X fw2 iz_1 (cX2_step_ok l h) mlX2_67 mvX2_step (rz rfl) (Nat.le_of_ble_eq_true rfl) rfl dX2_readPush_52 (fun M_6 h => ?_)
        refine a_aload_n X dX2_readPush_55 rfl 1 rfl ?_
        refine a_iconst (v := 0) X dX2_readPush_56 ic_0 ?_
        refine a_sipush (v := 999) X dX2_readPush_57 sc_999 ?_
        refine a_cVi (As := [.int 0, .int 999]) (st := []) X fw2 iz_1 (cX2_wantsWhole_ok l h) mlX2_105 mvX2_wantsWhole (rz rfl) (Nat.le_of_ble_eq_true rfl) rfl dX2_readPush_60 (fun r_8 M_7 h => ?_)
        refine a_if_ne (tgt := 68) X dX2_readPush_63 (by decide) (fun z => ?_) (fun z => ?_)
        · have h := h.1 z
          refine a_iconst (v := 0) X dX2_readPush_68 ic_0 ?_
          refine a_istore_n (lo' := [(2, .int 0), (1, .int r_5), (0, .ref (al 1))]) X dX2_readPush_69 rfl (by decide) rfl ?_
          refine a_sub (ks := [2, 1, 0]) (lo' := [(0, .ref (al 1)), (1, .int r_5), (2, .int 0)]) rfl ?_
          obtain ⟨n9, h⟩ := h
          exact tX2_readPush_70 X n9 _ _ h
        · have h := h.2 z
          refine a_iconst (v := 0) X dX2_readPush_66 ic_0 ?_
          exact a_zret X (by decide) h dX2_readPush_67
      · have h := h.2 z
        refine a_aload_n X dX2_readPush_45 rfl 1 rfl ?_
        refine a_iconst (v := 3) X dX2_readPush_46 ic_3 ?_
        refine a_cVi (As := [.int 3]) (st := []) X fw2 iz_1 (cX2_fail_ok l h) mlX2_77 mvX2_fail (rz rfl) (Nat.le_of_ble_eq_true rfl) rfl dX2_readPush_47 (fun r_12 M_11 h => ?_)
        exact a_zret X h.1 h.2 dX2_readPush_50
    · have h := h.2 z
      refine a_aload_n X dX2_readPush_25 rfl 0 rfl ?_
      refine a_iconst (v := 1) X dX2_readPush_26 ic_1 ?_
      refine a_cVi (As := [.int 1]) (st := []) X fw2 iz_1 (cX2_fail_ok l h) mlX2_77 mvX2_fail (rz rfl) (Nat.le_of_ble_eq_true rfl) rfl dX2_readPush_27 (fun r_14 M_13 h => ?_)
      exact a_zret X h.1 h.2 dX2_readPush_30
  · have h := h.2 z
    refine a_aload_n X dX2_readPush_7 rfl 0 rfl ?_
    refine a_bipush (v := 6) X dX2_readPush_8 bc_6 ?_
    refine a_cVi (As := [.int 6]) (st := []) X fw2 iz_1 (cX2_fail_ok l h) mlX2_77 mvX2_fail (rz rfl) (Nat.le_of_ble_eq_true rfl) rfl dX2_readPush_10 (fun r_16 M_15 h => ?_)
    exact a_zret X h.1 h.2 dX2_readPush_13
abbrev rm_X2_readLine : Room := { frames := 8, cells := 0, slots := 0, locals := 224 }
def wpX2_readLine (M : Mem) (Q : Int32 → Mem → Prop) : Prop := wpX2_isWord M 0 (fun r_2 M_1 => ((r_2 = 0 → wpX2_isWord M_1 1 (fun r_4 M_3 => ((r_4 = 0 → wpX2_isWord M_3 2 (fun r_6 M_5 => ((r_6 = 0 → wpX2_fail M_5 1 (fun r_8 M_7 => ((r_8 = 0 ∨ r_8 = 1) ∧ Q r_8 M_7))) ∧ (¬ r_6 = 0 → wpX2_readPush M_5 (fun r_10 M_9 => ((r_10 = 0 ∨ r_10 = 1) ∧ Q r_10 M_9)))))) ∧ (¬ r_4 = 0 → wpX2_readStream M_3 (fun r_12 M_11 => ((r_12 = 0 ∨ r_12 = 1) ∧ Q r_12 M_11)))))) ∧ (¬ r_2 = 0 → wpX2_readRanks M_1 (fun r_14 M_13 => ((r_14 = 0 ∨ r_14 = 1) ∧ Q r_14 M_13)))))
set_option maxHeartbeats 4000000 in
set_option maxRecDepth 100000 in
theorem cX2_readLine_ok (l : Launch) {G : Gl} {al : Nat → Nat} {mk : Nat} {M : Mem} {Q : Int32 → Mem → Prop} (h : wpX2_readLine M Q) : Kv l yX2_readLine cX2_readLine 1 (some .boolean) rm_X2_readLine G al mk M [.ref (al 1)] (QI G al mk Q) := by
  refine a_head (by decide) (Nat.le_of_ble_eq_true rfl) (fun p e s m below meth c X => ?_)
  have X : Cx p s m meth c G RX2 cX2_readLine 1 (some .boolean) := X
  unfold wpX2_readLine at h
  refine a_sub (ks := [0]) (lo' := [(0, .ref (al 1))]) rfl ?_
  refine a_aload_n X dX2_readLine_0 rfl 0 rfl ?_
  refine a_ldcS X 0 (by decide) rfl rfl dX2_readLine_1 ?_
  refine a_cVi (As := [.ref (G.2.2.1 0)]) (st := []) X fw2 iz_1 (cX2_isWord_ok l (by decide) h) mlX2_83 mvX2_isWord (rz rfl) (Nat.le_of_ble_eq_true rfl) rfl dX2_readLine_3 (fun r_2 M_1 h => ?_)
  refine a_if_eq (tgt := 14) X dX2_readLine_6 (by decide) (fun z => ?_) (fun z => ?_)
  · have h := h.1 z
    refine a_aload_n X dX2_readLine_14 rfl 0 rfl ?_
    refine a_ldcS X 1 (by decide) rfl rfl dX2_readLine_15 ?_
    refine a_cVi (As := [.ref (G.2.2.1 1)]) (st := []) X fw2 iz_1 (cX2_isWord_ok l (by decide) h) mlX2_83 mvX2_isWord (rz rfl) (Nat.le_of_ble_eq_true rfl) rfl dX2_readLine_17 (fun r_4 M_3 h => ?_)
    refine a_if_eq (tgt := 28) X dX2_readLine_20 (by decide) (fun z => ?_) (fun z => ?_)
    · have h := h.1 z
      refine a_aload_n X dX2_readLine_28 rfl 0 rfl ?_
      refine a_ldcS X 2 (by decide) rfl rfl dX2_readLine_29 ?_
      refine a_cVi (As := [.ref (G.2.2.1 2)]) (st := []) X fw2 iz_1 (cX2_isWord_ok l (by decide) h) mlX2_83 mvX2_isWord (rz rfl) (Nat.le_of_ble_eq_true rfl) rfl dX2_readLine_31 (fun r_6 M_5 h => ?_)
      refine a_if_eq (tgt := 42) X dX2_readLine_34 (by decide) (fun z => ?_) (fun z => ?_)
      · have h := h.1 z
        refine a_aload_n X dX2_readLine_42 rfl 0 rfl ?_
        refine a_iconst (v := 1) X dX2_readLine_43 ic_1 ?_
        refine a_cVi (As := [.int 1]) (st := []) X fw2 iz_1 (cX2_fail_ok l h) mlX2_77 mvX2_fail (rz rfl) (Nat.le_of_ble_eq_true rfl) rfl dX2_readLine_44 (fun r_8 M_7 h => ?_)
        exact a_zret X h.1 h.2 dX2_readLine_47
      · have h := h.2 z
        refine a_aload_n X dX2_readLine_37 rfl 0 rfl ?_
        refine a_cVi (As := []) (st := []) X fw2 iz_1 (cX2_readPush_ok l h) mlX2_97 mvX2_readPush (rz rfl) (Nat.le_of_ble_eq_true rfl) rfl dX2_readLine_38 (fun r_10 M_9 h => ?_)
        exact a_zret X h.1 h.2 dX2_readLine_41
    · have h := h.2 z
      refine a_aload_n X dX2_readLine_23 rfl 0 rfl ?_
      refine a_cVi (As := []) (st := []) X fw2 iz_1 (cX2_readStream_ok l h) mlX2_92 mvX2_readStream (rz rfl) (Nat.le_of_ble_eq_true rfl) rfl dX2_readLine_24 (fun r_12 M_11 h => ?_)
      exact a_zret X h.1 h.2 dX2_readLine_27
  · have h := h.2 z
    refine a_aload_n X dX2_readLine_9 rfl 0 rfl ?_
    refine a_cVi (As := []) (st := []) X fw2 iz_1 (cX2_readRanks_ok l h) mlX2_87 mvX2_readRanks (rz rfl) (Nat.le_of_ble_eq_true rfl) rfl dX2_readLine_10 (fun r_14 M_13 h => ?_)
    exact a_zret X h.1 h.2 dX2_readLine_13
abbrev rm_X2_readParting : Room := { frames := 1, cells := 0, slots := 0, locals := 21 }
def wpX2_readParting (M : Mem) (Q : Int32 → Mem → Prop) : Prop := ((¬ (gI M 1 3) = 4 → (((gI M 1 3) = 0 → ((¬ (gI M 1 10) = 0 → Q 0 M) ∧ ((gI M 1 10) = 0 → wpX2_fail M 6 (fun r_2 M_1 => ((r_2 = 0 → Q 0 M_1) ∧ (¬ r_2 = 0 → Q 1 M_1)))))) ∧ (¬ (gI M 1 3) = 0 → wpX2_fail M 1 (fun r_4 M_3 => ((r_4 = 0 ∨ r_4 = 1) ∧ Q r_4 M_3))))) ∧ ((gI M 1 3) = 4 → Q 1 M))
set_option maxHeartbeats 4000000 in
set_option maxRecDepth 100000 in
theorem cX2_readParting_ok (l : Launch) {G : Gl} {al : Nat → Nat} {mk : Nat} {M : Mem} {Q : Int32 → Mem → Prop} (h : wpX2_readParting M Q) : Kv l yX2_readParting cX2_readParting 1 (some .boolean) rm_X2_readParting G al mk M [.ref (al 1)] (QI G al mk Q) := by
  refine a_head (by decide) (Nat.le_of_ble_eq_true rfl) (fun p e s m below meth c X => ?_)
  have X : Cx p s m meth c G RX2 cX2_readParting 1 (some .boolean) := X
  unfold wpX2_readParting at h
  refine a_sub (ks := [0]) (lo' := [(0, .ref (al 1))]) rfl ?_
  refine a_aload_n X dX2_readParting_0 rfl 0 rfl ?_
  refine a_getI (k := 3) X fw2 iz_1 rfl flX2_22 rfl dX2_readParting_1 ?_
  refine a_iconst (v := 4) X dX2_readParting_4 ic_4 ?_
  refine a_icmp_ne (tgt := 10) X dX2_readParting_5 (by decide) (fun z => ?_) (fun z => ?_)
  · have h := h.1 z
    refine a_aload_n X dX2_readParting_10 rfl 0 rfl ?_
    refine a_getI (k := 3) X fw2 iz_1 rfl flX2_22 rfl dX2_readParting_11 ?_
    refine a_if_eq (tgt := 23) X dX2_readParting_14 (by decide) (fun z => ?_) (fun z => ?_)
    · have h := h.1 z
      refine a_aload_n X dX2_readParting_23 rfl 0 rfl ?_
      refine a_getI (k := 10) X fw2 iz_1 rfl flX2_43 rfl dX2_readParting_24 ?_
      refine a_if_ne (tgt := 43) X dX2_readParting_27 (by decide) (fun z => ?_) (fun z => ?_)
      · have h := h.1 z
        refine a_iconst (v := 0) X dX2_readParting_43 ic_0 ?_
        exact a_zret X (by decide) h dX2_readParting_44
      · have h := h.2 z
        refine a_aload_n X dX2_readParting_30 rfl 0 rfl ?_
        refine a_bipush (v := 6) X dX2_readParting_31 bc_6 ?_
        refine a_cVi (As := [.int 6]) (st := []) X fw2 iz_1 (cX2_fail_ok l h) mlX2_77 mvX2_fail (rz rfl) (Nat.le_of_ble_eq_true rfl) rfl dX2_readParting_33 (fun r_2 M_1 h => ?_)
        refine a_if_eq (tgt := 43) X dX2_readParting_36 (by decide) (fun z => ?_) (fun z => ?_)
        · have h := h.1 z
          refine a_iconst (v := 0) X dX2_readParting_43 ic_0 ?_
          exact a_zret X (by decide) h dX2_readParting_44
        · have h := h.2 z
          refine a_iconst (v := 1) X dX2_readParting_39 ic_1 ?_
          refine a_goto (tgt := 44) X dX2_readParting_40 (by decide) ?_
          exact a_zret X (by decide) h dX2_readParting_44
    · have h := h.2 z
      refine a_aload_n X dX2_readParting_17 rfl 0 rfl ?_
      refine a_iconst (v := 1) X dX2_readParting_18 ic_1 ?_
      refine a_cVi (As := [.int 1]) (st := []) X fw2 iz_1 (cX2_fail_ok l h) mlX2_77 mvX2_fail (rz rfl) (Nat.le_of_ble_eq_true rfl) rfl dX2_readParting_19 (fun r_4 M_3 h => ?_)
      exact a_zret X h.1 h.2 dX2_readParting_22
  · have h := h.2 z
    refine a_iconst (v := 1) X dX2_readParting_8 ic_1 ?_
    exact a_zret X (by decide) h dX2_readParting_9
abbrev rm_X2_readText : Room := { frames := 9, cells := 0, slots := 0, locals := 244 }
def wX2_readText_51 (Q : Mem → Prop) : Nat → Mem → Int32 → Int32 → Prop
  | 0, _, _, _ => False
  | n + 1, M, v2, v3 => ((400 < v3 → Q M) ∧ (¬ 400 < v3 → ((v2 = 0 → Q M) ∧ (¬ v2 = 0 → wpX2_step M (fun M_9 => wpX2_readLine M_9 (fun r_11 M_10 => ((r_11 = 0 → wX2_readText_51 Q n M_10 0 (v3 + 1)) ∧ (¬ r_11 = 0 → wpX2_readParting M_10 (fun r_13 M_12 => ((r_13 = 0 → wX2_readText_51 Q n M_12 0 (v3 + 1)) ∧ (¬ r_13 = 0 → wX2_readText_51 Q n M_12 1 (v3 + 1))))))))))))
def wpX2_readText (M : Mem) (v1 : Int32) (Q : Mem → Prop) : Prop := (∀ M_1 : Mem, M_1 = pI M 1 2 (if (gI M 1 1) < v1 then (gI M 1 1) else v1) → (∀ M_2 : Mem, M_2 = pI M_1 1 1 0 → (∀ M_3 : Mem, M_3 = pI M_2 1 5 0 → (∀ M_4 : Mem, M_4 = pI M_3 1 7 0 → (∀ M_5 : Mem, M_5 = pI M_4 1 8 (-1) → (∀ M_6 : Mem, M_6 = pI M_5 1 9 0 → (∀ M_7 : Mem, M_7 = pI M_6 1 10 0 → (∀ M_8 : Mem, M_8 = pI M_7 1 13 0 → ∃ n, wX2_readText_51 Q n M_8 1 0))))))))
set_option maxHeartbeats 4000000 in
set_option maxRecDepth 100000 in
theorem tX2_readText_51 (X : Cx p s m meth c G RX2 cX2_readText 4 none) {Q : Mem → Prop} : ∀ (n : Nat) (M : Mem) (v2 : Int32) (v3 : Int32), wX2_readText_51 Q n M v2 v3 → Wa p l e rm_X2_readText s m args below meth c 4 G al mk 0 0 (MQ below (QV G al mk Q) args s 0 0 (gA G)) M 51 [(0, .ref (al 1)), (2, .int v2), (3, .int v3)] [] := by
  intro n
  induction n with
  | zero =>
    intro M v2 v3 h
    exact False.elim h
  | succ n ih =>
    intro M v2 v3 h
    rw [wX2_readText_51] at h
    refine a_iload_n X dX2_readText_51 rfl 2 rfl ?_
    refine a_sipush (v := 400) X dX2_readText_52 sc_400 ?_
    refine a_icmp_gt (tgt := 92) X dX2_readText_55 (by decide) (fun z => ?_) (fun z => ?_)
    · have h := h.1 z
      exact a_vret X h dX2_readText_92
    · have h := h.2 z
      refine a_iload_n X dX2_readText_58 rfl 1 rfl ?_
      refine a_if_eq (tgt := 92) X dX2_readText_59 (by decide) (fun z => ?_) (fun z => ?_)
      · have h := h.1 z
        exact a_vret X h dX2_readText_92
      · have h := h.2 z
        refine a_aload_n X dX2_readText_62 rfl 0 rfl ?_
        refine a_cVv (As := []) (st := []) X fw2 iz_1 (cX2_step_ok l h) mlX2_67 mvX2_step (rz rfl) (Nat.le_of_ble_eq_true rfl) rfl dX2_readText_63 (fun M_9 h => ?_)
        refine a_aload_n X dX2_readText_66 rfl 0 rfl ?_
        refine a_cVi (As := []) (st := []) X fw2 iz_1 (cX2_readLine_ok l h) mlX2_70 mvX2_readLine (rz rfl) (Nat.le_of_ble_eq_true rfl) rfl dX2_readText_67 (fun r_11 M_10 h => ?_)
        refine a_if_eq (tgt := 84) X dX2_readText_70 (by decide) (fun z => ?_) (fun z => ?_)
        · have h := h.1 z
          refine a_iconst (v := 0) X dX2_readText_84 ic_0 ?_
          refine a_istore_n (lo' := [(2, .int 0), (0, .ref (al 1)), (3, .int v3)]) X dX2_readText_85 rfl (by decide) rfl ?_
          refine a_iinc (v := v3 + 1) (lo' := [(3, .int (v3 + 1)), (2, .int 0), (0, .ref (al 1))]) X dX2_readText_86 2 rfl (ii_1 _) (by decide) rfl ?_
          refine a_goto (tgt := 51) X dX2_readText_89 (by decide) ?_
          refine a_sub (ks := [2, 1, 0]) (lo' := [(0, .ref (al 1)), (2, .int 0), (3, .int (v3 + 1))]) rfl ?_
          exact ih _ _ _ h
        · have h := h.2 z
          refine a_aload_n X dX2_readText_73 rfl 0 rfl ?_
          refine a_cVi (As := []) (st := []) X fw2 iz_1 (cX2_readParting_ok l h) mlX2_74 mvX2_readParting (rz rfl) (Nat.le_of_ble_eq_true rfl) rfl dX2_readText_74 (fun r_13 M_12 h => ?_)
          refine a_if_eq (tgt := 84) X dX2_readText_77 (by decide) (fun z => ?_) (fun z => ?_)
          · have h := h.1 z
            refine a_iconst (v := 0) X dX2_readText_84 ic_0 ?_
            refine a_istore_n (lo' := [(2, .int 0), (0, .ref (al 1)), (3, .int v3)]) X dX2_readText_85 rfl (by decide) rfl ?_
            refine a_iinc (v := v3 + 1) (lo' := [(3, .int (v3 + 1)), (2, .int 0), (0, .ref (al 1))]) X dX2_readText_86 2 rfl (ii_1 _) (by decide) rfl ?_
            refine a_goto (tgt := 51) X dX2_readText_89 (by decide) ?_
            refine a_sub (ks := [2, 1, 0]) (lo' := [(0, .ref (al 1)), (2, .int 0), (3, .int (v3 + 1))]) rfl ?_
            exact ih _ _ _ h
          · have h := h.2 z
            refine a_iconst (v := 1) X dX2_readText_80 ic_1 ?_
            refine a_goto (tgt := 85) X dX2_readText_81 (by decide) ?_
            refine a_istore_n (lo' := [(2, .int 1), (0, .ref (al 1)), (3, .int v3)]) X dX2_readText_85 rfl (by decide) rfl ?_
            refine a_iinc (v := v3 + 1) (lo' := [(3, .int (v3 + 1)), (2, .int 1), (0, .ref (al 1))]) X dX2_readText_86 2 rfl (ii_1 _) (by decide) rfl ?_
            refine a_goto (tgt := 51) X dX2_readText_89 (by decide) ?_
            refine a_sub (ks := [2, 1, 0]) (lo' := [(0, .ref (al 1)), (2, .int 1), (3, .int (v3 + 1))]) rfl ?_
            exact ih _ _ _ h
set_option maxHeartbeats 4000000 in
set_option maxRecDepth 100000 in
theorem cX2_readText_ok (l : Launch) {G : Gl} {al : Nat → Nat} {mk : Nat} {M : Mem} {v1 : Int32} {Q : Mem → Prop} (h : wpX2_readText M v1 Q) : Kv l yX2_readText cX2_readText 4 none rm_X2_readText G al mk M [.ref (al 1), .int v1] (QV G al mk Q) := by
  refine a_head (by decide) (Nat.le_of_ble_eq_true rfl) (fun p e s m below meth c X => ?_)
  have X : Cx p s m meth c G RX2 cX2_readText 4 none := X
  unfold wpX2_readText at h
  refine a_sub (ks := [0, 1]) (lo' := [(0, .ref (al 1)), (1, .int v1)]) rfl ?_
  refine a_aload_n X dX2_readText_0 rfl 0 rfl ?_
  refine a_iload_n X dX2_readText_1 rfl 1 rfl ?_
  refine a_aload_n X dX2_readText_2 rfl 0 rfl ?_
  refine a_getI (k := 1) X fw2 iz_1 rfl flX2_15 rfl dX2_readText_3 ?_
  refine a_mmin X mlX2_61 mm_min ⟨by decide, Nat.le_of_ble_eq_true rfl, Nat.le_refl _, Nat.le_refl _⟩ dX2_readText_6 ?_
  refine a_putI (k := 2) X fw2 iz_1 rfl flX2_19 rfl rfl dX2_readText_9 (fun M_1 eM_1 => ?_)
  have h := h M_1 eM_1
  refine a_aload_n X dX2_readText_12 rfl 0 rfl ?_
  refine a_iconst (v := 0) X dX2_readText_13 ic_0 ?_
  refine a_putI (k := 1) X fw2 iz_1 rfl flX2_15 rfl rfl dX2_readText_14 (fun M_2 eM_2 => ?_)
  have h := h M_2 eM_2
  refine a_aload_n X dX2_readText_17 rfl 0 rfl ?_
  refine a_iconst (v := 0) X dX2_readText_18 ic_0 ?_
  refine a_putI (k := 5) X fw2 iz_1 rfl flX2_28 rfl rfl dX2_readText_19 (fun M_3 eM_3 => ?_)
  have h := h M_3 eM_3
  refine a_aload_n X dX2_readText_22 rfl 0 rfl ?_
  refine a_iconst (v := 0) X dX2_readText_23 ic_0 ?_
  refine a_putI (k := 7) X fw2 iz_1 rfl flX2_34 rfl rfl dX2_readText_24 (fun M_4 eM_4 => ?_)
  have h := h M_4 eM_4
  refine a_aload_n X dX2_readText_27 rfl 0 rfl ?_
  refine a_iconst (v := (-1)) X dX2_readText_28 ic_m1 ?_
  refine a_putI (k := 8) X fw2 iz_1 rfl flX2_37 rfl rfl dX2_readText_29 (fun M_5 eM_5 => ?_)
  have h := h M_5 eM_5
  refine a_aload_n X dX2_readText_32 rfl 0 rfl ?_
  refine a_iconst (v := 0) X dX2_readText_33 ic_0 ?_
  refine a_putI (k := 9) X fw2 iz_1 rfl flX2_40 rfl rfl dX2_readText_34 (fun M_6 eM_6 => ?_)
  have h := h M_6 eM_6
  refine a_aload_n X dX2_readText_37 rfl 0 rfl ?_
  refine a_iconst (v := 0) X dX2_readText_38 ic_0 ?_
  refine a_putI (k := 10) X fw2 iz_1 rfl flX2_43 rfl rfl dX2_readText_39 (fun M_7 eM_7 => ?_)
  have h := h M_7 eM_7
  refine a_aload_n X dX2_readText_42 rfl 0 rfl ?_
  refine a_iconst (v := 0) X dX2_readText_43 ic_0 ?_
  refine a_putI (k := 13) X fw2 iz_1 rfl flX2_52 rfl rfl dX2_readText_44 (fun M_8 eM_8 => ?_)
  have h := h M_8 eM_8
  refine a_iconst (v := 1) X dX2_readText_47 ic_1 ?_
  refine a_istore_n (lo' := [(2, .int 1), (0, .ref (al 1)), (1, .int v1)]) X dX2_readText_48 rfl (by decide) rfl ?_
  refine a_iconst (v := 0) X dX2_readText_49 ic_0 ?_
  refine a_istore_n (lo' := [(3, .int 0), (2, .int 1), (0, .ref (al 1)), (1, .int v1)]) X dX2_readText_50 rfl (by decide) rfl ?_
  refine a_sub (ks := [2, 1, 0]) (lo' := [(0, .ref (al 1)), (2, .int 1), (3, .int 0)]) rfl ?_
  obtain ⟨n9, h⟩ := h
  exact tX2_readText_51 X n9 _ _ _ h
