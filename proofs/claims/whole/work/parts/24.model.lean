variable {p : Program} {l : Launch} {e : Env} {s : State} {m : MethodId} {args : Array Value} {below : List Frame} {meth : Method} {c : Code} {G : Gl} {al : Nat → Nat} {mk : Nat}

abbrev rm_X4_answer : Room := { frames := 2, cells := 0, slots := 0, locals := 44 }
def wpX4_answer (M : Mem) (v1 : Int32) (v2 : Int32) (v3 : Int32) (Q : Int32 → Mem → Prop) : Prop := (∀ M_1 : Mem, M_1 = pI M 200 0 0 → wpX4_isStream M_1 v1 (fun r_3 M_2 => ((r_3 = 0 → wpX4_refused M_2 1 (fun r_5 M_4 => Q r_5 M_4)) ∧ (¬ r_3 = 0 → wpX4_in M_2 v3 0 2 (fun r_7 M_6 => ((¬ r_7 = 0 → wpX4_isPlace M_6 v1 v2 (fun r_9 M_8 => ((¬ r_9 = 0 → wpX4_answers M_8 v1 v2 (fun r_11 M_10 => ((¬ v3 = 0 → ((¬ v3 = 1 → wpX4_good M_10 r_11 (fun r_13 M_12 => Q r_13 M_12)) ∧ (v3 = 1 → wpX4_good M_10 (gI M_10 200 31) (fun r_15 M_14 => Q r_15 M_14)))) ∧ (v3 = 0 → (vp_in ((1000 * v1) + r_11) 6000 ∧ wpX4_good M_10 (gI M_10 220 (Int32.toNatClampNeg ((1000 * v1) + r_11))) (fun r_17 M_16 => Q r_17 M_16)))))) ∧ (r_9 = 0 → wpX4_refused M_8 2 (fun r_19 M_18 => Q r_19 M_18))))) ∧ (r_7 = 0 → wpX4_refused M_6 1 (fun r_21 M_20 => Q r_21 M_20))))))))
set_option maxHeartbeats 4000000 in
set_option maxRecDepth 100000 in
theorem cX4_answer_ok (l : Launch) {G : Gl} {al : Nat → Nat} {mk : Nat} {M : Mem} {v1 : Int32} {v2 : Int32} {v3 : Int32} {Q : Int32 → Mem → Prop} (h : wpX4_answer M v1 v2 v3 Q) : Kv l yX4_answer cX4_answer 5 (some .int) rm_X4_answer G al mk M [.ref (al 200), .int v1, .int v2, .int v3] (QI G al mk Q) := by
  refine a_head (by decide) (Nat.le_of_ble_eq_true rfl) (fun p e s m below meth c X => ?_)
  have X : Cx p s m meth c G RX4 cX4_answer 5 (some .int) := X
  unfold wpX4_answer at h
  refine a_sub (ks := [0, 1, 2, 3]) (lo' := [(0, .ref (al 200)), (1, .int v1), (2, .int v2), (3, .int v3)]) rfl ?_
  refine a_aload_n X dX4_answer_0 rfl 0 rfl ?_
  refine a_iconst (v := 0) X dX4_answer_1 ic_0 ?_
  refine a_putI (k := 0) X fw4 iz_200 rfl flX4_61 rfl rfl dX4_answer_2 (fun M_1 eM_1 => ?_)
  have h := h M_1 eM_1
  refine a_aload_n X dX4_answer_5 rfl 0 rfl ?_
  refine a_iload_n X dX4_answer_6 rfl 1 rfl ?_
  refine a_cVi (As := [.int v1]) (st := []) X fw4 iz_200 (cX4_isStream_ok l h) mlX4_247 mvX4_isStream (rz rfl) (Nat.le_of_ble_eq_true rfl) rfl dX4_answer_7 (fun r_3 M_2 h => ?_)
  refine a_if_eq (tgt := 22) X dX4_answer_10 (by decide) (fun z => ?_) (fun z => ?_)
  · have h := h.1 z
    refine a_aload_n X dX4_answer_22 rfl 0 rfl ?_
    refine a_iconst (v := 1) X dX4_answer_23 ic_1 ?_
    refine a_cVi (As := [.int 1]) (st := []) X fw4 iz_200 (cX4_refused_ok l h) mlX4_179 mvX4_refused (rz rfl) (Nat.le_of_ble_eq_true rfl) rfl dX4_answer_24 (fun r_5 M_4 h => ?_)
    exact a_iret X h dX4_answer_27
  · have h := h.2 z
    refine a_iload_n X dX4_answer_13 rfl 3 rfl ?_
    refine a_iconst (v := 0) X dX4_answer_14 ic_0 ?_
    refine a_iconst (v := 2) X dX4_answer_15 ic_2 ?_
    refine a_cSi (As := [.int v3, .int 0, .int 2]) (st := []) X (cX4_in_ok l h) mlX4_86 msX4_in (rz rfl) (Nat.le_of_ble_eq_true rfl) rfl dX4_answer_16 (fun r_7 M_6 h => ?_)
    refine a_if_ne (tgt := 28) X dX4_answer_19 (by decide) (fun z => ?_) (fun z => ?_)
    · have h := h.1 z
      refine a_aload_n X dX4_answer_28 rfl 0 rfl ?_
      refine a_iload_n X dX4_answer_29 rfl 1 rfl ?_
      refine a_iload_n X dX4_answer_30 rfl 2 rfl ?_
      refine a_cVi (As := [.int v1, .int v2]) (st := []) X fw4 iz_200 (cX4_isPlace_ok l h) mlX4_273 mvX4_isPlace (rz rfl) (Nat.le_of_ble_eq_true rfl) rfl dX4_answer_31 (fun r_9 M_8 h => ?_)
      refine a_if_ne (tgt := 43) X dX4_answer_34 (by decide) (fun z => ?_) (fun z => ?_)
      · have h := h.1 z
        refine a_aload_n X dX4_answer_43 rfl 0 rfl ?_
        refine a_iload_n X dX4_answer_44 rfl 1 rfl ?_
        refine a_iload_n X dX4_answer_45 rfl 2 rfl ?_
        refine a_cVi (As := [.int v1, .int v2]) (st := []) X fw4 iz_200 (cX4_answers_ok l h) mlX4_276 mvX4_answers (rz rfl) (Nat.le_of_ble_eq_true rfl) rfl dX4_answer_46 (fun r_11 M_10 h => ?_)
        refine a_istore (lo' := [(4, .int r_11), (0, .ref (al 200)), (1, .int v1), (2, .int v2), (3, .int v3)]) X dX4_answer_49 (by decide) rfl ?_
        refine a_aload_n X dX4_answer_51 rfl 1 rfl ?_
        refine a_iload_n X dX4_answer_52 rfl 4 rfl ?_
        refine a_if_ne (tgt := 72) X dX4_answer_53 (by decide) (fun z => ?_) (fun z => ?_)
        · have h := h.1 z
          refine a_iload_n X dX4_answer_72 rfl 4 rfl ?_
          refine a_iconst (v := 1) X dX4_answer_73 ic_1 ?_
          refine a_icmp_ne (tgt := 84) X dX4_answer_74 (by decide) (fun z => ?_) (fun z => ?_)
          · have h := h.1 z
            refine a_iload X dX4_answer_84 0 rfl ?_
            refine a_cVi (As := [.int r_11]) (st := []) X fw4 iz_200 (cX4_good_ok l h) mlX4_195 mvX4_good (rz rfl) (Nat.le_of_ble_eq_true rfl) rfl dX4_answer_86 (fun r_13 M_12 h => ?_)
            exact a_iret X h dX4_answer_89
          · have h := h.2 z
            refine a_aload_n X dX4_answer_77 rfl 1 rfl ?_
            refine a_getI (k := 31) X fw4 iz_200 rfl flX4_270 rfl dX4_answer_78 ?_
            refine a_goto (tgt := 86) X dX4_answer_81 (by decide) ?_
            refine a_cVi (As := [.int (gI M_10 200 31)]) (st := []) X fw4 iz_200 (cX4_good_ok l h) mlX4_195 mvX4_good (rz rfl) (Nat.le_of_ble_eq_true rfl) rfl dX4_answer_86 (fun r_15 M_14 h => ?_)
            exact a_iret X h dX4_answer_89
        · have h := h.2 z
          refine a_aload_n X dX4_answer_56 rfl 1 rfl ?_
          refine a_getR (k := 19) X 20 (b := 220) fw4 iz_200 rfl rfl flX4_31 rfl dX4_answer_57 ?_
          refine a_sipush (v := 1000) X dX4_answer_60 sc_1000 ?_
          refine a_iload_n X dX4_answer_63 rfl 2 rfl ?_
          refine a_imul X dX4_answer_64 ?_
          refine a_iload X dX4_answer_65 0 rfl ?_
          refine a_iadd X dX4_answer_67 ?_
          refine a_iald X iz_220 h.1 dX4_answer_68 ?_
          have h := h.2
          refine a_goto (tgt := 86) X dX4_answer_69 (by decide) ?_
          refine a_cVi (As := [.int (gI M_10 220 (Int32.toNatClampNeg ((1000 * v1) + r_11)))]) (st := []) X fw4 iz_200 (cX4_good_ok l h) mlX4_195 mvX4_good (rz rfl) (Nat.le_of_ble_eq_true rfl) rfl dX4_answer_86 (fun r_17 M_16 h => ?_)
          exact a_iret X h dX4_answer_89
      · have h := h.2 z
        refine a_aload_n X dX4_answer_37 rfl 0 rfl ?_
        refine a_iconst (v := 2) X dX4_answer_38 ic_2 ?_
        refine a_cVi (As := [.int 2]) (st := []) X fw4 iz_200 (cX4_refused_ok l h) mlX4_179 mvX4_refused (rz rfl) (Nat.le_of_ble_eq_true rfl) rfl dX4_answer_39 (fun r_19 M_18 h => ?_)
        exact a_iret X h dX4_answer_42
    · have h := h.2 z
      refine a_aload_n X dX4_answer_22 rfl 0 rfl ?_
      refine a_iconst (v := 1) X dX4_answer_23 ic_1 ?_
      refine a_cVi (As := [.int 1]) (st := []) X fw4 iz_200 (cX4_refused_ok l h) mlX4_179 mvX4_refused (rz rfl) (Nat.le_of_ble_eq_true rfl) rfl dX4_answer_24 (fun r_21 M_20 h => ?_)
      exact a_iret X h dX4_answer_27
abbrev rm_X4_quotaPlace : Room := { frames := 0, cells := 0, slots := 0, locals := 0 }
def wpX4_quotaPlace (M : Mem) (v1 : Int32) (v2 : Int32) (v3 : Int32) (Q : Int32 → Mem → Prop) : Prop := (vp_in v1 6 ∧ (¬ v3 = 0 ∧ (∀ x_1 : Int32, x_1 = (((((gI M 224 (Int32.toNatClampNeg v1)) * v2) + v3) - 1) / v3) → ((¬ x_1 = 0 → Q x_1 M) ∧ (x_1 = 0 → Q 1 M)))))
set_option maxHeartbeats 4000000 in
set_option maxRecDepth 100000 in
theorem cX4_quotaPlace_ok (l : Launch) {G : Gl} {al : Nat → Nat} {mk : Nat} {M : Mem} {v1 : Int32} {v2 : Int32} {v3 : Int32} {Q : Int32 → Mem → Prop} (h : wpX4_quotaPlace M v1 v2 v3 Q) : Kv l yX4_quotaPlace cX4_quotaPlace 5 (some .int) rm_X4_quotaPlace G al mk M [.ref (al 200), .int v1, .int v2, .int v3] (QI G al mk Q) := by
  refine a_head (by decide) (Nat.le_of_ble_eq_true rfl) (fun p e s m below meth c X => ?_)
  have X : Cx p s m meth c G RX4 cX4_quotaPlace 5 (some .int) := X
  unfold wpX4_quotaPlace at h
  refine a_sub (ks := [0, 1, 2, 3]) (lo' := [(0, .ref (al 200)), (1, .int v1), (2, .int v2), (3, .int v3)]) rfl ?_
  refine a_aload_n X dX4_quotaPlace_0 rfl 0 rfl ?_
  refine a_getR (k := 23) X 24 (b := 224) fw4 iz_200 rfl rfl flX4_43 rfl dX4_quotaPlace_1 ?_
  refine a_iload_n X dX4_quotaPlace_4 rfl 1 rfl ?_
  refine a_iald X iz_224 h.1 dX4_quotaPlace_5 ?_
  have h := h.2
  refine a_iload_n X dX4_quotaPlace_6 rfl 2 rfl ?_
  refine a_imul X dX4_quotaPlace_7 ?_
  refine a_iload_n X dX4_quotaPlace_8 rfl 3 rfl ?_
  refine a_iadd X dX4_quotaPlace_9 ?_
  refine a_iconst (v := 1) X dX4_quotaPlace_10 ic_1 ?_
  refine a_isub X dX4_quotaPlace_11 ?_
  refine a_iload_n X dX4_quotaPlace_12 rfl 3 rfl ?_
  refine a_idiv X dX4_quotaPlace_13 h.1 ?_
  have h := h.2
  refine a_topi (fun x_1 ex_1 => ?_)
  have h := h x_1 ex_1
  refine a_istore (lo' := [(4, .int x_1), (0, .ref (al 200)), (1, .int v1), (2, .int v2), (3, .int v3)]) X dX4_quotaPlace_14 (by decide) rfl ?_
  refine a_iload X dX4_quotaPlace_16 0 rfl ?_
  refine a_if_ne (tgt := 25) X dX4_quotaPlace_18 (by decide) (fun z => ?_) (fun z => ?_)
  · have h := h.1 z
    refine a_iload X dX4_quotaPlace_25 0 rfl ?_
    exact a_iret X h dX4_quotaPlace_27
  · have h := h.2 z
    refine a_iconst (v := 1) X dX4_quotaPlace_21 ic_1 ?_
    refine a_goto (tgt := 27) X dX4_quotaPlace_22 (by decide) ?_
    exact a_iret X h dX4_quotaPlace_27
abbrev rm_X4_quotaValue : Room := { frames := 1, cells := 0, slots := 0, locals := 28 }
def wpX4_quotaValue (M : Mem) (v1 : Int32) (v2 : Int32) (v3 : Int32) (Q : Int32 → Mem → Prop) : Prop := wpX4_quotaPlace M v1 v2 v3 (fun r_2 M_1 => wpX4_answers M_1 v1 r_2 (fun r_4 M_3 => (vp_in ((1000 * v1) + r_4) 6000 ∧ Q (gI M_3 220 (Int32.toNatClampNeg ((1000 * v1) + r_4))) M_3)))
set_option maxHeartbeats 4000000 in
set_option maxRecDepth 100000 in
theorem cX4_quotaValue_ok (l : Launch) {G : Gl} {al : Nat → Nat} {mk : Nat} {M : Mem} {v1 : Int32} {v2 : Int32} {v3 : Int32} {Q : Int32 → Mem → Prop} (h : wpX4_quotaValue M v1 v2 v3 Q) : Kv l yX4_quotaValue cX4_quotaValue 4 (some .int) rm_X4_quotaValue G al mk M [.ref (al 200), .int v1, .int v2, .int v3] (QI G al mk Q) := by
  refine a_head (by decide) (Nat.le_of_ble_eq_true rfl) (fun p e s m below meth c X => ?_)
  have X : Cx p s m meth c G RX4 cX4_quotaValue 4 (some .int) := X
  unfold wpX4_quotaValue at h
  refine a_sub (ks := [0, 1, 2, 3]) (lo' := [(0, .ref (al 200)), (1, .int v1), (2, .int v2), (3, .int v3)]) rfl ?_
  refine a_aload_n X dX4_quotaValue_0 rfl 0 rfl ?_
  refine a_getR (k := 19) X 20 (b := 220) fw4 iz_200 rfl rfl flX4_31 rfl dX4_quotaValue_1 ?_
  refine a_sipush (v := 1000) X dX4_quotaValue_4 sc_1000 ?_
  refine a_iload_n X dX4_quotaValue_7 rfl 1 rfl ?_
  refine a_imul X dX4_quotaValue_8 ?_
  refine a_aload_n X dX4_quotaValue_9 rfl 0 rfl ?_
  refine a_iload_n X dX4_quotaValue_10 rfl 1 rfl ?_
  refine a_aload_n X dX4_quotaValue_11 rfl 0 rfl ?_
  refine a_iload_n X dX4_quotaValue_12 rfl 1 rfl ?_
  refine a_iload_n X dX4_quotaValue_13 rfl 2 rfl ?_
  refine a_iload_n X dX4_quotaValue_14 rfl 3 rfl ?_
  refine a_cVi (As := [.int v1, .int v2, .int v3]) (st := [.int v1, .ref (al 200), .int (1000 * v1), .ref (al 220)]) X fw4 iz_200 (cX4_quotaPlace_ok l h) mlX4_279 mvX4_quotaPlace (rz rfl) (Nat.le_of_ble_eq_true rfl) rfl dX4_quotaValue_15 (fun r_2 M_1 h => ?_)
  refine a_cVi (As := [.int v1, .int r_2]) (st := [.int (1000 * v1), .ref (al 220)]) X fw4 iz_200 (cX4_answers_ok l h) mlX4_276 mvX4_answers (rz rfl) (Nat.le_of_ble_eq_true rfl) rfl dX4_quotaValue_18 (fun r_4 M_3 h => ?_)
  refine a_iadd X dX4_quotaValue_21 ?_
  refine a_iald X iz_220 h.1 dX4_quotaValue_22 ?_
  have h := h.2
  exact a_iret X h dX4_quotaValue_23
abbrev rm_X4_atMost : Room := { frames := 3, cells := 0, slots := 0, locals := 69 }
def wpX4_atMost (M : Mem) (v1 : Int32) (v2 : Int32) (Q : Int32 → Mem → Prop) : Prop := wpX4_place M v1 v2 (fun r_2 M_1 => (vp_in v1 6 ∧ ((¬ r_2 = (gI M_1 223 (Int32.toNatClampNeg v1)) → wpX4_high M_1 v1 r_2 (fun r_4 M_3 => Q (r_4 - 1) M_3)) ∧ (r_2 = (gI M_1 223 (Int32.toNatClampNeg v1)) → (vp_in v1 6 ∧ Q (gI M_1 224 (Int32.toNatClampNeg v1)) M_1)))))
set_option maxHeartbeats 4000000 in
set_option maxRecDepth 100000 in
theorem cX4_atMost_ok (l : Launch) {G : Gl} {al : Nat → Nat} {mk : Nat} {M : Mem} {v1 : Int32} {v2 : Int32} {Q : Int32 → Mem → Prop} (h : wpX4_atMost M v1 v2 Q) : Kv l yX4_atMost cX4_atMost 4 (some .int) rm_X4_atMost G al mk M [.ref (al 200), .int v1, .int v2] (QI G al mk Q) := by
  refine a_head (by decide) (Nat.le_of_ble_eq_true rfl) (fun p e s m below meth c X => ?_)
  have X : Cx p s m meth c G RX4 cX4_atMost 4 (some .int) := X
  unfold wpX4_atMost at h
  refine a_sub (ks := [0, 1, 2]) (lo' := [(0, .ref (al 200)), (1, .int v1), (2, .int v2)]) rfl ?_
  refine a_aload_n X dX4_atMost_0 rfl 0 rfl ?_
  refine a_iload_n X dX4_atMost_1 rfl 1 rfl ?_
  refine a_iload_n X dX4_atMost_2 rfl 2 rfl ?_
  refine a_cVi (As := [.int v1, .int v2]) (st := []) X fw4 iz_200 (cX4_place_ok l h) mlX4_205 mvX4_place (rz rfl) (Nat.le_of_ble_eq_true rfl) rfl dX4_atMost_3 (fun r_2 M_1 h => ?_)
  refine a_istore_n (lo' := [(3, .int r_2), (0, .ref (al 200)), (1, .int v1), (2, .int v2)]) X dX4_atMost_6 rfl (by decide) rfl ?_
  refine a_iload_n X dX4_atMost_7 rfl 0 rfl ?_
  refine a_aload_n X dX4_atMost_8 rfl 1 rfl ?_
  refine a_getR (k := 22) X 23 (b := 223) fw4 iz_200 rfl rfl flX4_40 rfl dX4_atMost_9 ?_
  refine a_iload_n X dX4_atMost_12 rfl 2 rfl ?_
  refine a_iald X iz_223 h.1 dX4_atMost_13 ?_
  have h := h.2
  refine a_icmp_ne (tgt := 26) X dX4_atMost_14 (by decide) (fun z => ?_) (fun z => ?_)
  · have h := h.1 z
    refine a_aload_n X dX4_atMost_26 rfl 1 rfl ?_
    refine a_iload_n X dX4_atMost_27 rfl 2 rfl ?_
    refine a_iload_n X dX4_atMost_28 rfl 0 rfl ?_
    refine a_cVi (As := [.int v1, .int r_2]) (st := []) X fw4 iz_200 (cX4_high_ok l h) mlX4_264 mvX4_high (rz rfl) (Nat.le_of_ble_eq_true rfl) rfl dX4_atMost_29 (fun r_4 M_3 h => ?_)
    refine a_iconst (v := 1) X dX4_atMost_32 ic_1 ?_
    refine a_isub X dX4_atMost_33 ?_
    exact a_iret X h dX4_atMost_34
  · have h := h.2 z
    refine a_aload_n X dX4_atMost_17 rfl 1 rfl ?_
    refine a_getR (k := 23) X 24 (b := 224) fw4 iz_200 rfl rfl flX4_43 rfl dX4_atMost_18 ?_
    refine a_iload_n X dX4_atMost_21 rfl 2 rfl ?_
    refine a_iald X iz_224 h.1 dX4_atMost_22 ?_
    have h := h.2
    refine a_goto (tgt := 34) X dX4_atMost_23 (by decide) ?_
    exact a_iret X h dX4_atMost_34
abbrev rm_X4_sure : Room := { frames := 0, cells := 0, slots := 0, locals := 0 }
def wX4_sure_5 (Q : Int32 → Mem → Prop) (v1 : Int32) (v2 : Int32) : Nat → Mem → Int32 → Int32 → Prop
  | 0, _, _, _ => False
  | n + 1, M, v3, v4 => (vp_in v1 6 ∧ (((gI M 223 (Int32.toNatClampNeg v1)) ≤ v4 → Q v3 M) ∧ (¬ (gI M 223 (Int32.toNatClampNeg v1)) ≤ v4 → (vp_in ((1000 * v1) + v4) 6000 ∧ ((v2 < (gI M 220 (Int32.toNatClampNeg ((1000 * v1) + v4))) → Q v3 M) ∧ (¬ v2 < (gI M 220 (Int32.toNatClampNeg ((1000 * v1) + v4))) → (vp_in ((1000 * v1) + v4) 6000 ∧ (∀ x_1 : Int32, x_1 = (v3 + (gI M 221 (Int32.toNatClampNeg ((1000 * v1) + v4)))) → wX4_sure_5 Q v1 v2 n M x_1 (v4 + 1)))))))))
def wpX4_sure (M : Mem) (v1 : Int32) (v2 : Int32) (Q : Int32 → Mem → Prop) : Prop := ∃ n, wX4_sure_5 Q v1 v2 n M 0 0
set_option maxHeartbeats 4000000 in
set_option maxRecDepth 100000 in
theorem tX4_sure_5 (X : Cx p s m meth c G RX4 cX4_sure 5 (some .int)) {Q : Int32 → Mem → Prop} {v1 : Int32} {v2 : Int32} : ∀ (n : Nat) (M : Mem) (v3 : Int32) (v4 : Int32), wX4_sure_5 Q v1 v2 n M v3 v4 → Wa p l e rm_X4_sure s m args below meth c 5 G al mk 0 0 (MQ below (QI G al mk Q) args s 0 0 (gA G)) M 5 [(0, .ref (al 200)), (1, .int v1), (2, .int v2), (3, .int v3), (4, .int v4)] [] := by
  intro n
  induction n with
  | zero =>
    intro M v3 v4 h
    exact False.elim h
  | succ n ih =>
    intro M v3 v4 h
    rw [wX4_sure_5] at h
    refine a_iload X dX4_sure_5 4 rfl ?_
    refine a_aload_n X dX4_sure_7 rfl 0 rfl ?_
    refine a_getR (k := 22) X 23 (b := 223) fw4 iz_200 rfl rfl flX4_40 rfl dX4_sure_8 ?_
    refine a_iload_n X dX4_sure_11 rfl 1 rfl ?_
    refine a_iald X iz_223 h.1 dX4_sure_12 ?_
    have h := h.2
    refine a_icmp_ge (tgt := 55) X dX4_sure_13 (by decide) (fun z => ?_) (fun z => ?_)
    · have h := h.1 z
      refine a_iload_n X dX4_sure_55 rfl 3 rfl ?_
      exact a_iret X h dX4_sure_56
    · have h := h.2 z
      refine a_aload_n X dX4_sure_16 rfl 0 rfl ?_
      refine a_getR (k := 19) X 20 (b := 220) fw4 iz_200 rfl rfl flX4_31 rfl dX4_sure_17 ?_
      refine a_sipush (v := 1000) X dX4_sure_20 sc_1000 ?_
      refine a_iload_n X dX4_sure_23 rfl 1 rfl ?_
      refine a_imul X dX4_sure_24 ?_
      refine a_iload X dX4_sure_25 4 rfl ?_
      refine a_iadd X dX4_sure_27 ?_
      refine a_iald X iz_220 h.1 dX4_sure_28 ?_
      have h := h.2
      refine a_iload_n X dX4_sure_29 rfl 2 rfl ?_
      refine a_icmp_gt (tgt := 55) X dX4_sure_30 (by decide) (fun z => ?_) (fun z => ?_)
      · have h := h.1 z
        refine a_iload_n X dX4_sure_55 rfl 3 rfl ?_
        exact a_iret X h dX4_sure_56
      · have h := h.2 z
        refine a_iload_n X dX4_sure_33 rfl 3 rfl ?_
        refine a_aload_n X dX4_sure_34 rfl 0 rfl ?_
        refine a_getR (k := 20) X 21 (b := 221) fw4 iz_200 rfl rfl flX4_34 rfl dX4_sure_35 ?_
        refine a_sipush (v := 1000) X dX4_sure_38 sc_1000 ?_
        refine a_iload_n X dX4_sure_41 rfl 1 rfl ?_
        refine a_imul X dX4_sure_42 ?_
        refine a_iload X dX4_sure_43 4 rfl ?_
        refine a_iadd X dX4_sure_45 ?_
        refine a_iald X iz_221 h.1 dX4_sure_46 ?_
        have h := h.2
        refine a_iadd X dX4_sure_47 ?_
        refine a_topi (fun x_1 ex_1 => ?_)
        have h := h x_1 ex_1
        refine a_istore_n (lo' := [(3, .int x_1), (0, .ref (al 200)), (1, .int v1), (2, .int v2), (4, .int v4)]) X dX4_sure_48 rfl (by decide) rfl ?_
        refine a_iinc (v := v4 + 1) (lo' := [(4, .int (v4 + 1)), (3, .int x_1), (0, .ref (al 200)), (1, .int v1), (2, .int v2)]) X dX4_sure_49 4 rfl (ii_1 _) (by decide) rfl ?_
        refine a_goto (tgt := 5) X dX4_sure_52 (by decide) ?_
        refine a_sub (ks := [2, 3, 4, 1, 0]) (lo' := [(0, .ref (al 200)), (1, .int v1), (2, .int v2), (3, .int x_1), (4, .int (v4 + 1))]) rfl ?_
        exact ih _ _ _ h
set_option maxHeartbeats 4000000 in
set_option maxRecDepth 100000 in
theorem cX4_sure_ok (l : Launch) {G : Gl} {al : Nat → Nat} {mk : Nat} {M : Mem} {v1 : Int32} {v2 : Int32} {Q : Int32 → Mem → Prop} (h : wpX4_sure M v1 v2 Q) : Kv l yX4_sure cX4_sure 5 (some .int) rm_X4_sure G al mk M [.ref (al 200), .int v1, .int v2] (QI G al mk Q) := by
  refine a_head (by decide) (Nat.le_of_ble_eq_true rfl) (fun p e s m below meth c X => ?_)
  have X : Cx p s m meth c G RX4 cX4_sure 5 (some .int) := X
  unfold wpX4_sure at h
  refine a_sub (ks := [0, 1, 2]) (lo' := [(0, .ref (al 200)), (1, .int v1), (2, .int v2)]) rfl ?_
  refine a_iconst (v := 0) X dX4_sure_0 ic_0 ?_
  refine a_istore_n (lo' := [(3, .int 0), (0, .ref (al 200)), (1, .int v1), (2, .int v2)]) X dX4_sure_1 rfl (by decide) rfl ?_
  refine a_iconst (v := 0) X dX4_sure_2 ic_0 ?_
  refine a_istore (lo' := [(4, .int 0), (3, .int 0), (0, .ref (al 200)), (1, .int v1), (2, .int v2)]) X dX4_sure_3 (by decide) rfl ?_
  refine a_sub (ks := [2, 3, 4, 1, 0]) (lo' := [(0, .ref (al 200)), (1, .int v1), (2, .int v2), (3, .int 0), (4, .int 0)]) rfl ?_
  obtain ⟨n9, h⟩ := h
  exact tX4_sure_5 X n9 _ _ _ h
abbrev rm_X4_barOf : Room := { frames := 4, cells := 0, slots := 0, locals := 92 }
def wpX4_barOf (M : Mem) (v1 : Int32) (v2 : Int32) (v3 : Int32) (v4 : Int32) (Q : Int32 → Mem → Prop) : Prop := wpX4_quotaValue M v1 v2 v3 (fun r_2 M_1 => wpX4_quotaValue M_1 v1 (v2 + 1) v3 (fun r_4 M_3 => ((v4 = 0 → wpX4_sure M_3 v1 r_4 (fun r_6 M_5 => wpX4_atMost M_5 v1 r_2 (fun r_8 M_7 => (∀ x_9 : Int32, x_9 = (r_6 - r_8) → ((0 ≤ x_9 → Q x_9 M_7) ∧ (¬ 0 ≤ x_9 → Q 0 M_7)))))) ∧ (¬ v4 = 0 → wpX4_atMost M_3 v1 r_4 (fun r_11 M_10 => wpX4_sure M_10 v1 r_2 (fun r_13 M_12 => Q (r_11 - r_13) M_12))))))
set_option maxHeartbeats 4000000 in
set_option maxRecDepth 100000 in
theorem cX4_barOf_ok (l : Launch) {G : Gl} {al : Nat → Nat} {mk : Nat} {M : Mem} {v1 : Int32} {v2 : Int32} {v3 : Int32} {v4 : Int32} {Q : Int32 → Mem → Prop} (h : wpX4_barOf M v1 v2 v3 v4 Q) : Kv l yX4_barOf cX4_barOf 8 (some .int) rm_X4_barOf G al mk M [.ref (al 200), .int v1, .int v2, .int v3, .int v4] (QI G al mk Q) := by
  refine a_head (by decide) (Nat.le_of_ble_eq_true rfl) (fun p e s m below meth c X => ?_)
  have X : Cx p s m meth c G RX4 cX4_barOf 8 (some .int) := X
  unfold wpX4_barOf at h
  refine a_sub (ks := [0, 1, 2, 3, 4]) (lo' := [(0, .ref (al 200)), (1, .int v1), (2, .int v2), (3, .int v3), (4, .int v4)]) rfl ?_
  refine a_aload_n X dX4_barOf_0 rfl 0 rfl ?_
  refine a_iload_n X dX4_barOf_1 rfl 1 rfl ?_
  refine a_iload_n X dX4_barOf_2 rfl 2 rfl ?_
  refine a_iload_n X dX4_barOf_3 rfl 3 rfl ?_
  refine a_cVi (As := [.int v1, .int v2, .int v3]) (st := []) X fw4 iz_200 (cX4_quotaValue_ok l h) mlX4_282 mvX4_quotaValue (rz rfl) (Nat.le_of_ble_eq_true rfl) rfl dX4_barOf_4 (fun r_2 M_1 h => ?_)
  refine a_istore (lo' := [(5, .int r_2), (0, .ref (al 200)), (1, .int v1), (2, .int v2), (3, .int v3), (4, .int v4)]) X dX4_barOf_7 (by decide) rfl ?_
  refine a_aload_n X dX4_barOf_9 rfl 1 rfl ?_
  refine a_iload_n X dX4_barOf_10 rfl 2 rfl ?_
  refine a_iload_n X dX4_barOf_11 rfl 3 rfl ?_
  refine a_iconst (v := 1) X dX4_barOf_12 ic_1 ?_
  refine a_iadd X dX4_barOf_13 ?_
  refine a_iload_n X dX4_barOf_14 rfl 4 rfl ?_
  refine a_cVi (As := [.int v1, .int (v2 + 1), .int v3]) (st := []) X fw4 iz_200 (cX4_quotaValue_ok l h) mlX4_282 mvX4_quotaValue (rz rfl) (Nat.le_of_ble_eq_true rfl) rfl dX4_barOf_15 (fun r_4 M_3 h => ?_)
  refine a_istore (lo' := [(6, .int r_4), (5, .int r_2), (0, .ref (al 200)), (1, .int v1), (2, .int v2), (3, .int v3), (4, .int v4)]) X dX4_barOf_18 (by decide) rfl ?_
  refine a_iload X dX4_barOf_20 6 rfl ?_
  refine a_if_eq (tgt := 41) X dX4_barOf_22 (by decide) (fun z => ?_) (fun z => ?_)
  · have h := h.1 z
    refine a_aload_n X dX4_barOf_41 rfl 2 rfl ?_
    refine a_iload_n X dX4_barOf_42 rfl 3 rfl ?_
    refine a_iload X dX4_barOf_43 0 rfl ?_
    refine a_cVi (As := [.int v1, .int r_4]) (st := []) X fw4 iz_200 (cX4_sure_ok l h) mlX4_288 mvX4_sure (rz rfl) (Nat.le_of_ble_eq_true rfl) rfl dX4_barOf_45 (fun r_6 M_5 h => ?_)
    refine a_aload_n X dX4_barOf_48 rfl 2 rfl ?_
    refine a_iload_n X dX4_barOf_49 rfl 3 rfl ?_
    refine a_iload X dX4_barOf_50 1 rfl ?_
    refine a_cVi (As := [.int v1, .int r_2]) (st := [.int r_6]) X fw4 iz_200 (cX4_atMost_ok l h) mlX4_285 mvX4_atMost (rz rfl) (Nat.le_of_ble_eq_true rfl) rfl dX4_barOf_52 (fun r_8 M_7 h => ?_)
    refine a_isub X dX4_barOf_55 ?_
    refine a_topi (fun x_9 ex_9 => ?_)
    have h := h x_9 ex_9
    refine a_istore (lo' := [(7, .int x_9), (6, .int r_4), (5, .int r_2), (0, .ref (al 200)), (1, .int v1), (2, .int v2), (3, .int v3), (4, .int v4)]) X dX4_barOf_56 (by decide) rfl ?_
    refine a_iload X dX4_barOf_58 0 rfl ?_
    refine a_if_ge (tgt := 67) X dX4_barOf_60 (by decide) (fun z => ?_) (fun z => ?_)
    · have h := h.1 z
      refine a_iload X dX4_barOf_67 0 rfl ?_
      exact a_iret X h dX4_barOf_69
    · have h := h.2 z
      refine a_iconst (v := 0) X dX4_barOf_63 ic_0 ?_
      refine a_goto (tgt := 69) X dX4_barOf_64 (by decide) ?_
      exact a_iret X h dX4_barOf_69
  · have h := h.2 z
    refine a_aload_n X dX4_barOf_25 rfl 2 rfl ?_
    refine a_iload_n X dX4_barOf_26 rfl 3 rfl ?_
    refine a_iload X dX4_barOf_27 0 rfl ?_
    refine a_cVi (As := [.int v1, .int r_4]) (st := []) X fw4 iz_200 (cX4_atMost_ok l h) mlX4_285 mvX4_atMost (rz rfl) (Nat.le_of_ble_eq_true rfl) rfl dX4_barOf_29 (fun r_11 M_10 h => ?_)
    refine a_aload_n X dX4_barOf_32 rfl 2 rfl ?_
    refine a_iload_n X dX4_barOf_33 rfl 3 rfl ?_
    refine a_iload X dX4_barOf_34 1 rfl ?_
    refine a_cVi (As := [.int v1, .int r_2]) (st := [.int r_11]) X fw4 iz_200 (cX4_sure_ok l h) mlX4_288 mvX4_sure (rz rfl) (Nat.le_of_ble_eq_true rfl) rfl dX4_barOf_36 (fun r_13 M_12 h => ?_)
    refine a_isub X dX4_barOf_39 ?_
    exact a_iret X h dX4_barOf_40
abbrev rm_X4_bar : Room := { frames := 5, cells := 0, slots := 0, locals := 119 }
def wpX4_bar (M : Mem) (v1 : Int32) (v2 : Int32) (v3 : Int32) (v4 : Int32) (Q : Int32 → Mem → Prop) : Prop := (∀ M_1 : Mem, M_1 = pI M 200 0 0 → wpX4_isStream M_1 v1 (fun r_3 M_2 => ((¬ r_3 = 0 → wpX4_in M_2 v3 1 100 (fun r_5 M_4 => ((r_5 = 0 → wpX4_refused M_4 2 (fun r_7 M_6 => Q r_7 M_6)) ∧ (¬ r_5 = 0 → wpX4_in M_4 v2 0 (v3 - 1) (fun r_9 M_8 => ((¬ r_9 = 0 → (vp_in v1 6 ∧ ((¬ (gI M_8 224 (Int32.toNatClampNeg v1)) = 0 → wpX4_barOf M_8 v1 v2 v3 v4 (fun r_11 M_10 => wpX4_good M_10 r_11 (fun r_13 M_12 => Q r_13 M_12))) ∧ ((gI M_8 224 (Int32.toNatClampNeg v1)) = 0 → wpX4_refused M_8 5 (fun r_15 M_14 => Q r_15 M_14))))) ∧ (r_9 = 0 → wpX4_refused M_8 2 (fun r_17 M_16 => Q r_17 M_16)))))))) ∧ (r_3 = 0 → wpX4_refused M_2 1 (fun r_19 M_18 => Q r_19 M_18)))))
set_option maxHeartbeats 4000000 in
set_option maxRecDepth 100000 in
theorem cX4_bar_ok (l : Launch) {G : Gl} {al : Nat → Nat} {mk : Nat} {M : Mem} {v1 : Int32} {v2 : Int32} {v3 : Int32} {v4 : Int32} {Q : Int32 → Mem → Prop} (h : wpX4_bar M v1 v2 v3 v4 Q) : Kv l yX4_bar cX4_bar 5 (some .int) rm_X4_bar G al mk M [.ref (al 200), .int v1, .int v2, .int v3, .int v4] (QI G al mk Q) := by
  refine a_head (by decide) (Nat.le_of_ble_eq_true rfl) (fun p e s m below meth c X => ?_)
  have X : Cx p s m meth c G RX4 cX4_bar 5 (some .int) := X
  unfold wpX4_bar at h
  refine a_sub (ks := [0, 1, 2, 3, 4]) (lo' := [(0, .ref (al 200)), (1, .int v1), (2, .int v2), (3, .int v3), (4, .int v4)]) rfl ?_
  refine a_aload_n X dX4_bar_0 rfl 0 rfl ?_
  refine a_iconst (v := 0) X dX4_bar_1 ic_0 ?_
  refine a_putI (k := 0) X fw4 iz_200 rfl flX4_61 rfl rfl dX4_bar_2 (fun M_1 eM_1 => ?_)
  have h := h M_1 eM_1
  refine a_aload_n X dX4_bar_5 rfl 0 rfl ?_
  refine a_iload_n X dX4_bar_6 rfl 1 rfl ?_
  refine a_cVi (As := [.int v1]) (st := []) X fw4 iz_200 (cX4_isStream_ok l h) mlX4_247 mvX4_isStream (rz rfl) (Nat.le_of_ble_eq_true rfl) rfl dX4_bar_7 (fun r_3 M_2 h => ?_)
  refine a_if_ne (tgt := 19) X dX4_bar_10 (by decide) (fun z => ?_) (fun z => ?_)
  · have h := h.1 z
    refine a_iload_n X dX4_bar_19 rfl 3 rfl ?_
    refine a_iconst (v := 1) X dX4_bar_20 ic_1 ?_
    refine a_bipush (v := 100) X dX4_bar_21 bc_100 ?_
    refine a_cSi (As := [.int v3, .int 1, .int 100]) (st := []) X (cX4_in_ok l h) mlX4_86 msX4_in (rz rfl) (Nat.le_of_ble_eq_true rfl) rfl dX4_bar_23 (fun r_5 M_4 h => ?_)
    refine a_if_eq (tgt := 40) X dX4_bar_26 (by decide) (fun z => ?_) (fun z => ?_)
    · have h := h.1 z
      refine a_aload_n X dX4_bar_40 rfl 0 rfl ?_
      refine a_iconst (v := 2) X dX4_bar_41 ic_2 ?_
      refine a_cVi (As := [.int 2]) (st := []) X fw4 iz_200 (cX4_refused_ok l h) mlX4_179 mvX4_refused (rz rfl) (Nat.le_of_ble_eq_true rfl) rfl dX4_bar_42 (fun r_7 M_6 h => ?_)
      exact a_iret X h dX4_bar_45
    · have h := h.2 z
      refine a_iload_n X dX4_bar_29 rfl 2 rfl ?_
      refine a_iconst (v := 0) X dX4_bar_30 ic_0 ?_
      refine a_iload_n X dX4_bar_31 rfl 3 rfl ?_
      refine a_iconst (v := 1) X dX4_bar_32 ic_1 ?_
      refine a_isub X dX4_bar_33 ?_
      refine a_cSi (As := [.int v2, .int 0, .int (v3 - 1)]) (st := []) X (cX4_in_ok l h) mlX4_86 msX4_in (rz rfl) (Nat.le_of_ble_eq_true rfl) rfl dX4_bar_34 (fun r_9 M_8 h => ?_)
      refine a_if_ne (tgt := 46) X dX4_bar_37 (by decide) (fun z => ?_) (fun z => ?_)
      · have h := h.1 z
        refine a_aload_n X dX4_bar_46 rfl 0 rfl ?_
        refine a_getR (k := 23) X 24 (b := 224) fw4 iz_200 rfl rfl flX4_43 rfl dX4_bar_47 ?_
        refine a_iload_n X dX4_bar_50 rfl 1 rfl ?_
        refine a_iald X iz_224 h.1 dX4_bar_51 ?_
        have h := h.2
        refine a_if_ne (tgt := 63) X dX4_bar_52 (by decide) (fun z => ?_) (fun z => ?_)
        · have h := h.1 z
          refine a_aload_n X dX4_bar_63 rfl 0 rfl ?_
          refine a_aload_n X dX4_bar_64 rfl 0 rfl ?_
          refine a_iload_n X dX4_bar_65 rfl 1 rfl ?_
          refine a_iload_n X dX4_bar_66 rfl 2 rfl ?_
          refine a_iload_n X dX4_bar_67 rfl 3 rfl ?_
          refine a_iload X dX4_bar_68 4 rfl ?_
          refine a_cVi (As := [.int v1, .int v2, .int v3, .int v4]) (st := [.ref (al 200)]) X fw4 iz_200 (cX4_barOf_ok l h) mlX4_291 mvX4_barOf (rz rfl) (Nat.le_of_ble_eq_true rfl) rfl dX4_bar_70 (fun r_11 M_10 h => ?_)
          refine a_cVi (As := [.int r_11]) (st := []) X fw4 iz_200 (cX4_good_ok l h) mlX4_195 mvX4_good (rz rfl) (Nat.le_of_ble_eq_true rfl) rfl dX4_bar_73 (fun r_13 M_12 h => ?_)
          exact a_iret X h dX4_bar_76
        · have h := h.2 z
          refine a_aload_n X dX4_bar_55 rfl 0 rfl ?_
          refine a_iconst (v := 5) X dX4_bar_56 ic_5 ?_
          refine a_cVi (As := [.int 5]) (st := []) X fw4 iz_200 (cX4_refused_ok l h) mlX4_179 mvX4_refused (rz rfl) (Nat.le_of_ble_eq_true rfl) rfl dX4_bar_57 (fun r_15 M_14 h => ?_)
          refine a_goto (tgt := 76) X dX4_bar_60 (by decide) ?_
          exact a_iret X h dX4_bar_76
      · have h := h.2 z
        refine a_aload_n X dX4_bar_40 rfl 0 rfl ?_
        refine a_iconst (v := 2) X dX4_bar_41 ic_2 ?_
        refine a_cVi (As := [.int 2]) (st := []) X fw4 iz_200 (cX4_refused_ok l h) mlX4_179 mvX4_refused (rz rfl) (Nat.le_of_ble_eq_true rfl) rfl dX4_bar_42 (fun r_17 M_16 h => ?_)
        exact a_iret X h dX4_bar_45
  · have h := h.2 z
    refine a_aload_n X dX4_bar_13 rfl 0 rfl ?_
    refine a_iconst (v := 1) X dX4_bar_14 ic_1 ?_
    refine a_cVi (As := [.int 1]) (st := []) X fw4 iz_200 (cX4_refused_ok l h) mlX4_179 mvX4_refused (rz rfl) (Nat.le_of_ble_eq_true rfl) rfl dX4_bar_15 (fun r_19 M_18 h => ?_)
    exact a_iret X h dX4_bar_18
abbrev rm_X4_uneven : Room := { frames := 5, cells := 0, slots := 0, locals := 119 }
def wX4_uneven_60 (Q : Int32 → Mem → Prop) (v1 : Int32) (v2 : Int32) : Nat → Mem → Int32 → Int32 → Int32 → Prop
  | 0, _, _, _, _ => False
  | n + 1, M, v3, v4, v5 => ((v2 ≤ v5 → wpX4_good M (v3 - v4) (fun r_7 M_6 => Q r_7 M_6)) ∧ (¬ v2 ≤ v5 → wpX4_barOf M v1 v5 v2 1 (fun r_9 M_8 => wpX4_barOf M_8 v1 v5 v2 0 (fun r_11 M_10 => ((r_9 ≤ v3 → ((v4 ≤ r_11 → wX4_uneven_60 Q v1 v2 n M_10 v3 v4 (v5 + 1)) ∧ (¬ v4 ≤ r_11 → wX4_uneven_60 Q v1 v2 n M_10 v3 r_11 (v5 + 1)))) ∧ (¬ r_9 ≤ v3 → ((v4 ≤ r_11 → wX4_uneven_60 Q v1 v2 n M_10 r_9 v4 (v5 + 1)) ∧ (¬ v4 ≤ r_11 → wX4_uneven_60 Q v1 v2 n M_10 r_9 r_11 (v5 + 1)))))))))
def wpX4_uneven (M : Mem) (v1 : Int32) (v2 : Int32) (Q : Int32 → Mem → Prop) : Prop := (∀ M_1 : Mem, M_1 = pI M 200 0 0 → wpX4_isStream M_1 v1 (fun r_3 M_2 => ((¬ r_3 = 0 → wpX4_in M_2 v2 1 100 (fun r_5 M_4 => ((¬ r_5 = 0 → (vp_in v1 6 ∧ ((¬ (gI M_4 224 (Int32.toNatClampNeg v1)) = 0 → ∃ n, wX4_uneven_60 Q v1 v2 n M_4 0 1000 0) ∧ ((gI M_4 224 (Int32.toNatClampNeg v1)) = 0 → wpX4_refused M_4 5 (fun r_13 M_12 => Q r_13 M_12))))) ∧ (r_5 = 0 → wpX4_refused M_4 2 (fun r_15 M_14 => Q r_15 M_14))))) ∧ (r_3 = 0 → wpX4_refused M_2 1 (fun r_17 M_16 => Q r_17 M_16)))))
set_option maxHeartbeats 4000000 in
set_option maxRecDepth 100000 in
theorem tX4_uneven_60 (X : Cx p s m meth c G RX4 cX4_uneven 8 (some .int)) {Q : Int32 → Mem → Prop} {v1 : Int32} {v2 : Int32} : ∀ (n : Nat) (M : Mem) (v3 : Int32) (v4 : Int32) (v5 : Int32), wX4_uneven_60 Q v1 v2 n M v3 v4 v5 → Wa p l e rm_X4_uneven s m args below meth c 8 G al mk 0 0 (MQ below (QI G al mk Q) args s 0 0 (gA G)) M 60 [(0, .ref (al 200)), (1, .int v1), (2, .int v2), (3, .int v3), (4, .int v4), (5, .int v5)] [] := by
  intro n
  induction n with
  | zero =>
    intro M v3 v4 v5 h
    exact False.elim h
  | succ n ih =>
    intro M v3 v4 v5 h
    rw [wX4_uneven_60] at h
    refine a_iload X dX4_uneven_60 5 rfl ?_
    refine a_iload_n X dX4_uneven_62 rfl 2 rfl ?_
    refine a_icmp_ge (tgt := 114) X dX4_uneven_63 (by decide) (fun z => ?_) (fun z => ?_)
    · have h := h.1 z
      refine a_aload_n X dX4_uneven_114 rfl 0 rfl ?_
      refine a_iload_n X dX4_uneven_115 rfl 3 rfl ?_
      refine a_iload X dX4_uneven_116 4 rfl ?_
      refine a_isub X dX4_uneven_118 ?_
      refine a_cVi (As := [.int (v3 - v4)]) (st := []) X fw4 iz_200 (cX4_good_ok l h) mlX4_195 mvX4_good (rz rfl) (Nat.le_of_ble_eq_true rfl) rfl dX4_uneven_119 (fun r_7 M_6 h => ?_)
      exact a_iret X h dX4_uneven_122
    · have h := h.2 z
      refine a_aload_n X dX4_uneven_66 rfl 0 rfl ?_
      refine a_iload_n X dX4_uneven_67 rfl 1 rfl ?_
      refine a_iload X dX4_uneven_68 5 rfl ?_
      refine a_iload_n X dX4_uneven_70 rfl 2 rfl ?_
      refine a_iconst (v := 1) X dX4_uneven_71 ic_1 ?_
      refine a_cVi (As := [.int v1, .int v5, .int v2, .int 1]) (st := []) X fw4 iz_200 (cX4_barOf_ok l h) mlX4_291 mvX4_barOf (rz rfl) (Nat.le_of_ble_eq_true rfl) rfl dX4_uneven_72 (fun r_9 M_8 h => ?_)
      refine a_istore (lo' := [(6, .int r_9), (0, .ref (al 200)), (1, .int v1), (2, .int v2), (3, .int v3), (4, .int v4), (5, .int v5)]) X dX4_uneven_75 (by decide) rfl ?_
      refine a_aload_n X dX4_uneven_77 rfl 1 rfl ?_
      refine a_iload_n X dX4_uneven_78 rfl 2 rfl ?_
      refine a_iload X dX4_uneven_79 6 rfl ?_
      refine a_iload_n X dX4_uneven_81 rfl 3 rfl ?_
      refine a_iconst (v := 0) X dX4_uneven_82 ic_0 ?_
      refine a_cVi (As := [.int v1, .int v5, .int v2, .int 0]) (st := []) X fw4 iz_200 (cX4_barOf_ok l h) mlX4_291 mvX4_barOf (rz rfl) (Nat.le_of_ble_eq_true rfl) rfl dX4_uneven_83 (fun r_11 M_10 h => ?_)
      refine a_istore (lo' := [(7, .int r_11), (6, .int r_9), (0, .ref (al 200)), (1, .int v1), (2, .int v2), (3, .int v3), (4, .int v4), (5, .int v5)]) X dX4_uneven_86 (by decide) rfl ?_
      refine a_iload X dX4_uneven_88 1 rfl ?_
      refine a_iload_n X dX4_uneven_90 rfl 5 rfl ?_
      refine a_icmp_le (tgt := 97) X dX4_uneven_91 (by decide) (fun z => ?_) (fun z => ?_)
      · have h := h.1 z
        refine a_iload X dX4_uneven_97 0 rfl ?_
        refine a_iload X dX4_uneven_99 6 rfl ?_
        refine a_icmp_ge (tgt := 108) X dX4_uneven_101 (by decide) (fun z => ?_) (fun z => ?_)
        · have h := h.1 z
          refine a_iinc (v := v5 + 1) (lo' := [(5, .int (v5 + 1)), (7, .int r_11), (6, .int r_9), (0, .ref (al 200)), (1, .int v1), (2, .int v2), (3, .int v3), (4, .int v4)]) X dX4_uneven_108 7 rfl (ii_1 _) (by decide) rfl ?_
          refine a_goto (tgt := 60) X dX4_uneven_111 (by decide) ?_
          refine a_sub (ks := [3, 4, 5, 6, 7, 0]) (lo' := [(0, .ref (al 200)), (1, .int v1), (2, .int v2), (3, .int v3), (4, .int v4), (5, .int (v5 + 1))]) rfl ?_
          exact ih _ _ _ _ h
        · have h := h.2 z
          refine a_iload X dX4_uneven_104 0 rfl ?_
          refine a_istore (lo' := [(4, .int r_11), (7, .int r_11), (6, .int r_9), (0, .ref (al 200)), (1, .int v1), (2, .int v2), (3, .int v3), (5, .int v5)]) X dX4_uneven_106 (by decide) rfl ?_
          refine a_iinc (v := v5 + 1) (lo' := [(5, .int (v5 + 1)), (4, .int r_11), (7, .int r_11), (6, .int r_9), (0, .ref (al 200)), (1, .int v1), (2, .int v2), (3, .int v3)]) X dX4_uneven_108 7 rfl (ii_1 _) (by decide) rfl ?_
          refine a_goto (tgt := 60) X dX4_uneven_111 (by decide) ?_
          refine a_sub (ks := [4, 5, 6, 7, 1, 0]) (lo' := [(0, .ref (al 200)), (1, .int v1), (2, .int v2), (3, .int v3), (4, .int r_11), (5, .int (v5 + 1))]) rfl ?_
          exact ih _ _ _ _ h
      · have h := h.2 z
        refine a_iload X dX4_uneven_94 1 rfl ?_
        refine a_istore_n (lo' := [(3, .int r_9), (7, .int r_11), (6, .int r_9), (0, .ref (al 200)), (1, .int v1), (2, .int v2), (4, .int v4), (5, .int v5)]) X dX4_uneven_96 rfl (by decide) rfl ?_
        refine a_iload X dX4_uneven_97 1 rfl ?_
        refine a_iload X dX4_uneven_99 6 rfl ?_
        refine a_icmp_ge (tgt := 108) X dX4_uneven_101 (by decide) (fun z => ?_) (fun z => ?_)
        · have h := h.1 z
          refine a_iinc (v := v5 + 1) (lo' := [(5, .int (v5 + 1)), (3, .int r_9), (7, .int r_11), (6, .int r_9), (0, .ref (al 200)), (1, .int v1), (2, .int v2), (4, .int v4)]) X dX4_uneven_108 7 rfl (ii_1 _) (by decide) rfl ?_
          refine a_goto (tgt := 60) X dX4_uneven_111 (by decide) ?_
          refine a_sub (ks := [4, 5, 6, 1, 7, 0]) (lo' := [(0, .ref (al 200)), (1, .int v1), (2, .int v2), (3, .int r_9), (4, .int v4), (5, .int (v5 + 1))]) rfl ?_
          exact ih _ _ _ _ h
        · have h := h.2 z
          refine a_iload X dX4_uneven_104 1 rfl ?_
          refine a_istore (lo' := [(4, .int r_11), (3, .int r_9), (7, .int r_11), (6, .int r_9), (0, .ref (al 200)), (1, .int v1), (2, .int v2), (5, .int v5)]) X dX4_uneven_106 (by decide) rfl ?_
          refine a_iinc (v := v5 + 1) (lo' := [(5, .int (v5 + 1)), (4, .int r_11), (3, .int r_9), (7, .int r_11), (6, .int r_9), (0, .ref (al 200)), (1, .int v1), (2, .int v2)]) X dX4_uneven_108 7 rfl (ii_1 _) (by decide) rfl ?_
          refine a_goto (tgt := 60) X dX4_uneven_111 (by decide) ?_
          refine a_sub (ks := [5, 6, 7, 2, 1, 0]) (lo' := [(0, .ref (al 200)), (1, .int v1), (2, .int v2), (3, .int r_9), (4, .int r_11), (5, .int (v5 + 1))]) rfl ?_
          exact ih _ _ _ _ h
set_option maxHeartbeats 4000000 in
set_option maxRecDepth 100000 in
theorem cX4_uneven_ok (l : Launch) {G : Gl} {al : Nat → Nat} {mk : Nat} {M : Mem} {v1 : Int32} {v2 : Int32} {Q : Int32 → Mem → Prop} (h : wpX4_uneven M v1 v2 Q) : Kv l yX4_uneven cX4_uneven 8 (some .int) rm_X4_uneven G al mk M [.ref (al 200), .int v1, .int v2] (QI G al mk Q) := by
  refine a_head (by decide) (Nat.le_of_ble_eq_true rfl) (fun p e s m below meth c X => ?_)
  have X : Cx p s m meth c G RX4 cX4_uneven 8 (some .int) := X
  unfold wpX4_uneven at h
  refine a_sub (ks := [0, 1, 2]) (lo' := [(0, .ref (al 200)), (1, .int v1), (2, .int v2)]) rfl ?_
  refine a_aload_n X dX4_uneven_0 rfl 0 rfl ?_
  refine a_iconst (v := 0) X dX4_uneven_1 ic_0 ?_
  refine a_putI (k := 0) X fw4 iz_200 rfl flX4_61 rfl rfl dX4_uneven_2 (fun M_1 eM_1 => ?_)
  have h := h M_1 eM_1
  refine a_aload_n X dX4_uneven_5 rfl 0 rfl ?_
  refine a_iload_n X dX4_uneven_6 rfl 1 rfl ?_
  refine a_cVi (As := [.int v1]) (st := []) X fw4 iz_200 (cX4_isStream_ok l h) mlX4_247 mvX4_isStream (rz rfl) (Nat.le_of_ble_eq_true rfl) rfl dX4_uneven_7 (fun r_3 M_2 h => ?_)
  refine a_if_ne (tgt := 19) X dX4_uneven_10 (by decide) (fun z => ?_) (fun z => ?_)
  · have h := h.1 z
    refine a_iload_n X dX4_uneven_19 rfl 2 rfl ?_
    refine a_iconst (v := 1) X dX4_uneven_20 ic_1 ?_
    refine a_bipush (v := 100) X dX4_uneven_21 bc_100 ?_
    refine a_cSi (As := [.int v2, .int 1, .int 100]) (st := []) X (cX4_in_ok l h) mlX4_86 msX4_in (rz rfl) (Nat.le_of_ble_eq_true rfl) rfl dX4_uneven_23 (fun r_5 M_4 h => ?_)
    refine a_if_ne (tgt := 35) X dX4_uneven_26 (by decide) (fun z => ?_) (fun z => ?_)
    · have h := h.1 z
      refine a_aload_n X dX4_uneven_35 rfl 0 rfl ?_
      refine a_getR (k := 23) X 24 (b := 224) fw4 iz_200 rfl rfl flX4_43 rfl dX4_uneven_36 ?_
      refine a_iload_n X dX4_uneven_39 rfl 1 rfl ?_
      refine a_iald X iz_224 h.1 dX4_uneven_40 ?_
      have h := h.2
      refine a_if_ne (tgt := 50) X dX4_uneven_41 (by decide) (fun z => ?_) (fun z => ?_)
      · have h := h.1 z
        refine a_iconst (v := 0) X dX4_uneven_50 ic_0 ?_
        refine a_istore_n (lo' := [(3, .int 0), (0, .ref (al 200)), (1, .int v1), (2, .int v2)]) X dX4_uneven_51 rfl (by decide) rfl ?_
        refine a_sipush (v := 1000) X dX4_uneven_52 sc_1000 ?_
        refine a_istore (lo' := [(4, .int 1000), (3, .int 0), (0, .ref (al 200)), (1, .int v1), (2, .int v2)]) X dX4_uneven_55 (by decide) rfl ?_
        refine a_iconst (v := 0) X dX4_uneven_57 ic_0 ?_
        refine a_istore (lo' := [(5, .int 0), (4, .int 1000), (3, .int 0), (0, .ref (al 200)), (1, .int v1), (2, .int v2)]) X dX4_uneven_58 (by decide) rfl ?_
        refine a_sub (ks := [3, 4, 5, 2, 1, 0]) (lo' := [(0, .ref (al 200)), (1, .int v1), (2, .int v2), (3, .int 0), (4, .int 1000), (5, .int 0)]) rfl ?_
        obtain ⟨n9, h⟩ := h
        exact tX4_uneven_60 X n9 _ _ _ _ h
      · have h := h.2 z
        refine a_aload_n X dX4_uneven_44 rfl 0 rfl ?_
        refine a_iconst (v := 5) X dX4_uneven_45 ic_5 ?_
        refine a_cVi (As := [.int 5]) (st := []) X fw4 iz_200 (cX4_refused_ok l h) mlX4_179 mvX4_refused (rz rfl) (Nat.le_of_ble_eq_true rfl) rfl dX4_uneven_46 (fun r_13 M_12 h => ?_)
        exact a_iret X h dX4_uneven_49
    · have h := h.2 z
      refine a_aload_n X dX4_uneven_29 rfl 0 rfl ?_
      refine a_iconst (v := 2) X dX4_uneven_30 ic_2 ?_
      refine a_cVi (As := [.int 2]) (st := []) X fw4 iz_200 (cX4_refused_ok l h) mlX4_179 mvX4_refused (rz rfl) (Nat.le_of_ble_eq_true rfl) rfl dX4_uneven_31 (fun r_15 M_14 h => ?_)
      exact a_iret X h dX4_uneven_34
  · have h := h.2 z
    refine a_aload_n X dX4_uneven_13 rfl 0 rfl ?_
    refine a_iconst (v := 1) X dX4_uneven_14 ic_1 ?_
    refine a_cVi (As := [.int 1]) (st := []) X fw4 iz_200 (cX4_refused_ok l h) mlX4_179 mvX4_refused (rz rfl) (Nat.le_of_ble_eq_true rfl) rfl dX4_uneven_15 (fun r_17 M_16 h => ?_)
    exact a_iret X h dX4_uneven_18
abbrev rm_X4_areTwo : Room := { frames := 2, cells := 0, slots := 0, locals := 43 }
def wpX4_areTwo (M : Mem) (v1 : Int32) (v2 : Int32) (Q : Int32 → Mem → Prop) : Prop := wpX4_isStream M v1 (fun r_2 M_1 => ((r_2 = 0 → Q 0 M_1) ∧ (¬ r_2 = 0 → wpX4_isStream M_1 v2 (fun r_4 M_3 => ((r_4 = 0 → Q 0 M_3) ∧ (¬ r_4 = 0 → ((v1 = v2 → Q 0 M_3) ∧ (¬ v1 = v2 → Q 1 M_3))))))))
set_option maxHeartbeats 4000000 in
set_option maxRecDepth 100000 in
theorem cX4_areTwo_ok (l : Launch) {G : Gl} {al : Nat → Nat} {mk : Nat} {M : Mem} {v1 : Int32} {v2 : Int32} {Q : Int32 → Mem → Prop} (h : wpX4_areTwo M v1 v2 Q) : Kv l yX4_areTwo cX4_areTwo 3 (some .boolean) rm_X4_areTwo G al mk M [.ref (al 200), .int v1, .int v2] (QI G al mk Q) := by
  refine a_head (by decide) (Nat.le_of_ble_eq_true rfl) (fun p e s m below meth c X => ?_)
  have X : Cx p s m meth c G RX4 cX4_areTwo 3 (some .boolean) := X
  unfold wpX4_areTwo at h
  refine a_sub (ks := [0, 1, 2]) (lo' := [(0, .ref (al 200)), (1, .int v1), (2, .int v2)]) rfl ?_
  refine a_aload_n X dX4_areTwo_0 rfl 0 rfl ?_
  refine a_iload_n X dX4_areTwo_1 rfl 1 rfl ?_
  refine a_cVi (As := [.int v1]) (st := []) X fw4 iz_200 (cX4_isStream_ok l h) mlX4_247 mvX4_isStream (rz rfl) (Nat.le_of_ble_eq_true rfl) rfl dX4_areTwo_2 (fun r_2 M_1 h => ?_)
  refine a_if_eq (tgt := 25) X dX4_areTwo_5 (by decide) (fun z => ?_) (fun z => ?_)
  · have h := h.1 z
    refine a_iconst (v := 0) X dX4_areTwo_25 ic_0 ?_
    exact a_zret X (by decide) h dX4_areTwo_26
  · have h := h.2 z
    refine a_aload_n X dX4_areTwo_8 rfl 0 rfl ?_
    refine a_iload_n X dX4_areTwo_9 rfl 2 rfl ?_
    refine a_cVi (As := [.int v2]) (st := []) X fw4 iz_200 (cX4_isStream_ok l h) mlX4_247 mvX4_isStream (rz rfl) (Nat.le_of_ble_eq_true rfl) rfl dX4_areTwo_10 (fun r_4 M_3 h => ?_)
    refine a_if_eq (tgt := 25) X dX4_areTwo_13 (by decide) (fun z => ?_) (fun z => ?_)
    · have h := h.1 z
      refine a_iconst (v := 0) X dX4_areTwo_25 ic_0 ?_
      exact a_zret X (by decide) h dX4_areTwo_26
    · have h := h.2 z
      refine a_iload_n X dX4_areTwo_16 rfl 1 rfl ?_
      refine a_iload_n X dX4_areTwo_17 rfl 2 rfl ?_
      refine a_icmp_eq (tgt := 25) X dX4_areTwo_18 (by decide) (fun z => ?_) (fun z => ?_)
      · have h := h.1 z
        refine a_iconst (v := 0) X dX4_areTwo_25 ic_0 ?_
        exact a_zret X (by decide) h dX4_areTwo_26
      · have h := h.2 z
        refine a_iconst (v := 1) X dX4_areTwo_21 ic_1 ?_
        refine a_goto (tgt := 26) X dX4_areTwo_22 (by decide) ?_
        exact a_zret X (by decide) h dX4_areTwo_26
abbrev rm_X4_meets : Room := { frames := 3, cells := 0, slots := 0, locals := 65 }
def wX4_meets_76 (Q : Int32 → Mem → Prop) (v1 : Int32) (v2 : Int32) (v3 : Int32) (v4 : Int32) : Nat → Mem → Int32 → Int32 → Prop
  | 0, _, _, _ => False
  | n + 1, M, v5, v6 => ((v3 < v6 → wpX4_good M v5 (fun r_13 M_12 => Q r_13 M_12)) ∧ (¬ v3 < v6 → wpX4_quotaValue M v1 v6 v3 (fun r_15 M_14 => wpX4_quotaValue M_14 v2 v6 v3 (fun r_17 M_16 => (∀ x_18 : Int32, x_18 = (r_15 - r_17) → ((¬ v4 = 0 → ((¬ v4 = 1 → ((x_18 ≤ 0 → (∀ x_19 : Int32, x_19 = (v5 + 0) → wX4_meets_76 Q v1 v2 v3 v4 n M_16 x_19 (v6 + 1))) ∧ (¬ x_18 ≤ 0 → (∀ x_20 : Int32, x_20 = (v5 + 1) → wX4_meets_76 Q v1 v2 v3 v4 n M_16 x_20 (v6 + 1))))) ∧ (v4 = 1 → ((0 ≤ x_18 → (∀ x_21 : Int32, x_21 = (v5 + 0) → wX4_meets_76 Q v1 v2 v3 v4 n M_16 x_21 (v6 + 1))) ∧ (¬ 0 ≤ x_18 → (∀ x_22 : Int32, x_22 = (v5 + 1) → wX4_meets_76 Q v1 v2 v3 v4 n M_16 x_22 (v6 + 1))))))) ∧ (v4 = 0 → ((¬ x_18 = 0 → (∀ x_23 : Int32, x_23 = (v5 + 0) → wX4_meets_76 Q v1 v2 v3 v4 n M_16 x_23 (v6 + 1))) ∧ (x_18 = 0 → (∀ x_24 : Int32, x_24 = (v5 + 1) → wX4_meets_76 Q v1 v2 v3 v4 n M_16 x_24 (v6 + 1)))))))))))
def wpX4_meets (M : Mem) (v1 : Int32) (v2 : Int32) (v3 : Int32) (v4 : Int32) (Q : Int32 → Mem → Prop) : Prop := (∀ M_1 : Mem, M_1 = pI M 200 0 0 → wpX4_areTwo M_1 v1 v2 (fun r_3 M_2 => ((r_3 = 0 → wpX4_refused M_2 1 (fun r_5 M_4 => Q r_5 M_4)) ∧ (¬ r_3 = 0 → wpX4_in M_2 v4 0 2 (fun r_7 M_6 => ((¬ r_7 = 0 → wpX4_in M_6 v3 1 100 (fun r_9 M_8 => ((¬ r_9 = 0 → (vp_in v1 6 ∧ (((gI M_8 224 (Int32.toNatClampNeg v1)) = 0 → wpX4_refused M_8 5 (fun r_11 M_10 => Q r_11 M_10)) ∧ (¬ (gI M_8 224 (Int32.toNatClampNeg v1)) = 0 → (vp_in v2 6 ∧ ((¬ (gI M_8 224 (Int32.toNatClampNeg v2)) = 0 → ∃ n, wX4_meets_76 Q v1 v2 v3 v4 n M_8 0 0) ∧ ((gI M_8 224 (Int32.toNatClampNeg v2)) = 0 → wpX4_refused M_8 5 (fun r_26 M_25 => Q r_26 M_25)))))))) ∧ (r_9 = 0 → wpX4_refused M_8 2 (fun r_28 M_27 => Q r_28 M_27))))) ∧ (r_7 = 0 → wpX4_refused M_6 1 (fun r_30 M_29 => Q r_30 M_29))))))))
set_option maxHeartbeats 4000000 in
set_option maxRecDepth 100000 in
theorem tX4_meets_76 (X : Cx p s m meth c G RX4 cX4_meets 8 (some .int)) {Q : Int32 → Mem → Prop} {v1 : Int32} {v2 : Int32} {v3 : Int32} {v4 : Int32} : ∀ (n : Nat) (M : Mem) (v5 : Int32) (v6 : Int32), wX4_meets_76 Q v1 v2 v3 v4 n M v5 v6 → Wa p l e rm_X4_meets s m args below meth c 8 G al mk 0 0 (MQ below (QI G al mk Q) args s 0 0 (gA G)) M 76 [(0, .ref (al 200)), (1, .int v1), (2, .int v2), (3, .int v3), (4, .int v4), (5, .int v5), (6, .int v6)] [] := by
  intro n
  induction n with
  | zero =>
    intro M v5 v6 h
    exact False.elim h
  | succ n ih =>
    intro M v5 v6 h
    rw [wX4_meets_76] at h
    refine a_iload X dX4_meets_76 6 rfl ?_
    refine a_iload_n X dX4_meets_78 rfl 3 rfl ?_
    refine a_icmp_gt (tgt := 149) X dX4_meets_79 (by decide) (fun z => ?_) (fun z => ?_)
    · have h := h.1 z
      refine a_aload_n X dX4_meets_149 rfl 0 rfl ?_
      refine a_iload X dX4_meets_150 5 rfl ?_
      refine a_cVi (As := [.int v5]) (st := []) X fw4 iz_200 (cX4_good_ok l h) mlX4_195 mvX4_good (rz rfl) (Nat.le_of_ble_eq_true rfl) rfl dX4_meets_152 (fun r_13 M_12 h => ?_)
      exact a_iret X h dX4_meets_155
    · have h := h.2 z
      refine a_aload_n X dX4_meets_82 rfl 0 rfl ?_
      refine a_iload_n X dX4_meets_83 rfl 1 rfl ?_
      refine a_iload X dX4_meets_84 6 rfl ?_
      refine a_iload_n X dX4_meets_86 rfl 3 rfl ?_
      refine a_cVi (As := [.int v1, .int v6, .int v3]) (st := []) X fw4 iz_200 (cX4_quotaValue_ok l h) mlX4_282 mvX4_quotaValue (rz rfl) (Nat.le_of_ble_eq_true rfl) rfl dX4_meets_87 (fun r_15 M_14 h => ?_)
      refine a_aload_n X dX4_meets_90 rfl 0 rfl ?_
      refine a_iload_n X dX4_meets_91 rfl 2 rfl ?_
      refine a_iload X dX4_meets_92 6 rfl ?_
      refine a_iload_n X dX4_meets_94 rfl 3 rfl ?_
      refine a_cVi (As := [.int v2, .int v6, .int v3]) (st := [.int r_15]) X fw4 iz_200 (cX4_quotaValue_ok l h) mlX4_282 mvX4_quotaValue (rz rfl) (Nat.le_of_ble_eq_true rfl) rfl dX4_meets_95 (fun r_17 M_16 h => ?_)
      refine a_isub X dX4_meets_98 ?_
      refine a_topi (fun x_18 ex_18 => ?_)
      have h := h x_18 ex_18
      refine a_istore (lo' := [(7, .int x_18), (0, .ref (al 200)), (1, .int v1), (2, .int v2), (3, .int v3), (4, .int v4), (5, .int v5), (6, .int v6)]) X dX4_meets_99 (by decide) rfl ?_
      refine a_iload X dX4_meets_101 6 rfl ?_
      refine a_iload X dX4_meets_103 5 rfl ?_
      refine a_if_ne (tgt := 116) X dX4_meets_105 (by decide) (fun z => ?_) (fun z => ?_)
      · have h := h.1 z
        refine a_iload X dX4_meets_116 5 rfl ?_
        refine a_iconst (v := 1) X dX4_meets_118 ic_1 ?_
        refine a_icmp_ne (tgt := 130) X dX4_meets_119 (by decide) (fun z => ?_) (fun z => ?_)
        · have h := h.1 z
          refine a_iload X dX4_meets_130 0 rfl ?_
          refine a_if_le (tgt := 139) X dX4_meets_132 (by decide) (fun z => ?_) (fun z => ?_)
          · have h := h.1 z
            refine a_iconst (v := 0) X dX4_meets_139 ic_0 ?_
            refine a_iadd X dX4_meets_140 ?_
            refine a_topi (fun x_19 ex_19 => ?_)
            have h := h x_19 ex_19
            refine a_istore (lo' := [(5, .int x_19), (7, .int x_18), (0, .ref (al 200)), (1, .int v1), (2, .int v2), (3, .int v3), (4, .int v4), (6, .int v6)]) X dX4_meets_141 (by decide) rfl ?_
            refine a_iinc (v := v6 + 1) (lo' := [(6, .int (v6 + 1)), (5, .int x_19), (7, .int x_18), (0, .ref (al 200)), (1, .int v1), (2, .int v2), (3, .int v3), (4, .int v4)]) X dX4_meets_143 7 rfl (ii_1 _) (by decide) rfl ?_
            refine a_goto (tgt := 76) X dX4_meets_146 (by decide) ?_
            refine a_sub (ks := [3, 4, 5, 6, 7, 1, 0]) (lo' := [(0, .ref (al 200)), (1, .int v1), (2, .int v2), (3, .int v3), (4, .int v4), (5, .int x_19), (6, .int (v6 + 1))]) rfl ?_
            exact ih _ _ _ h
          · have h := h.2 z
            refine a_iconst (v := 1) X dX4_meets_135 ic_1 ?_
            refine a_goto (tgt := 140) X dX4_meets_136 (by decide) ?_
            refine a_iadd X dX4_meets_140 ?_
            refine a_topi (fun x_20 ex_20 => ?_)
            have h := h x_20 ex_20
            refine a_istore (lo' := [(5, .int x_20), (7, .int x_18), (0, .ref (al 200)), (1, .int v1), (2, .int v2), (3, .int v3), (4, .int v4), (6, .int v6)]) X dX4_meets_141 (by decide) rfl ?_
            refine a_iinc (v := v6 + 1) (lo' := [(6, .int (v6 + 1)), (5, .int x_20), (7, .int x_18), (0, .ref (al 200)), (1, .int v1), (2, .int v2), (3, .int v3), (4, .int v4)]) X dX4_meets_143 7 rfl (ii_1 _) (by decide) rfl ?_
            refine a_goto (tgt := 76) X dX4_meets_146 (by decide) ?_
            refine a_sub (ks := [3, 4, 5, 6, 7, 1, 0]) (lo' := [(0, .ref (al 200)), (1, .int v1), (2, .int v2), (3, .int v3), (4, .int v4), (5, .int x_20), (6, .int (v6 + 1))]) rfl ?_
            exact ih _ _ _ h
        · have h := h.2 z
          refine a_iload X dX4_meets_122 0 rfl ?_
          refine a_if_ge (tgt := 139) X dX4_meets_124 (by decide) (fun z => ?_) (fun z => ?_)
          · have h := h.1 z
            refine a_iconst (v := 0) X dX4_meets_139 ic_0 ?_
            refine a_iadd X dX4_meets_140 ?_
            refine a_topi (fun x_21 ex_21 => ?_)
            have h := h x_21 ex_21
            refine a_istore (lo' := [(5, .int x_21), (7, .int x_18), (0, .ref (al 200)), (1, .int v1), (2, .int v2), (3, .int v3), (4, .int v4), (6, .int v6)]) X dX4_meets_141 (by decide) rfl ?_
            refine a_iinc (v := v6 + 1) (lo' := [(6, .int (v6 + 1)), (5, .int x_21), (7, .int x_18), (0, .ref (al 200)), (1, .int v1), (2, .int v2), (3, .int v3), (4, .int v4)]) X dX4_meets_143 7 rfl (ii_1 _) (by decide) rfl ?_
            refine a_goto (tgt := 76) X dX4_meets_146 (by decide) ?_
            refine a_sub (ks := [3, 4, 5, 6, 7, 1, 0]) (lo' := [(0, .ref (al 200)), (1, .int v1), (2, .int v2), (3, .int v3), (4, .int v4), (5, .int x_21), (6, .int (v6 + 1))]) rfl ?_
            exact ih _ _ _ h
          · have h := h.2 z
            refine a_goto (tgt := 135) X dX4_meets_127 (by decide) ?_
            refine a_iconst (v := 1) X dX4_meets_135 ic_1 ?_
            refine a_goto (tgt := 140) X dX4_meets_136 (by decide) ?_
            refine a_iadd X dX4_meets_140 ?_
            refine a_topi (fun x_22 ex_22 => ?_)
            have h := h x_22 ex_22
            refine a_istore (lo' := [(5, .int x_22), (7, .int x_18), (0, .ref (al 200)), (1, .int v1), (2, .int v2), (3, .int v3), (4, .int v4), (6, .int v6)]) X dX4_meets_141 (by decide) rfl ?_
            refine a_iinc (v := v6 + 1) (lo' := [(6, .int (v6 + 1)), (5, .int x_22), (7, .int x_18), (0, .ref (al 200)), (1, .int v1), (2, .int v2), (3, .int v3), (4, .int v4)]) X dX4_meets_143 7 rfl (ii_1 _) (by decide) rfl ?_
            refine a_goto (tgt := 76) X dX4_meets_146 (by decide) ?_
            refine a_sub (ks := [3, 4, 5, 6, 7, 1, 0]) (lo' := [(0, .ref (al 200)), (1, .int v1), (2, .int v2), (3, .int v3), (4, .int v4), (5, .int x_22), (6, .int (v6 + 1))]) rfl ?_
            exact ih _ _ _ h
      · have h := h.2 z
        refine a_iload X dX4_meets_108 0 rfl ?_
        refine a_if_ne (tgt := 139) X dX4_meets_110 (by decide) (fun z => ?_) (fun z => ?_)
        · have h := h.1 z
          refine a_iconst (v := 0) X dX4_meets_139 ic_0 ?_
          refine a_iadd X dX4_meets_140 ?_
          refine a_topi (fun x_23 ex_23 => ?_)
          have h := h x_23 ex_23
          refine a_istore (lo' := [(5, .int x_23), (7, .int x_18), (0, .ref (al 200)), (1, .int v1), (2, .int v2), (3, .int v3), (4, .int v4), (6, .int v6)]) X dX4_meets_141 (by decide) rfl ?_
          refine a_iinc (v := v6 + 1) (lo' := [(6, .int (v6 + 1)), (5, .int x_23), (7, .int x_18), (0, .ref (al 200)), (1, .int v1), (2, .int v2), (3, .int v3), (4, .int v4)]) X dX4_meets_143 7 rfl (ii_1 _) (by decide) rfl ?_
          refine a_goto (tgt := 76) X dX4_meets_146 (by decide) ?_
          refine a_sub (ks := [3, 4, 5, 6, 7, 1, 0]) (lo' := [(0, .ref (al 200)), (1, .int v1), (2, .int v2), (3, .int v3), (4, .int v4), (5, .int x_23), (6, .int (v6 + 1))]) rfl ?_
          exact ih _ _ _ h
        · have h := h.2 z
          refine a_goto (tgt := 135) X dX4_meets_113 (by decide) ?_
          refine a_iconst (v := 1) X dX4_meets_135 ic_1 ?_
          refine a_goto (tgt := 140) X dX4_meets_136 (by decide) ?_
          refine a_iadd X dX4_meets_140 ?_
          refine a_topi (fun x_24 ex_24 => ?_)
          have h := h x_24 ex_24
          refine a_istore (lo' := [(5, .int x_24), (7, .int x_18), (0, .ref (al 200)), (1, .int v1), (2, .int v2), (3, .int v3), (4, .int v4), (6, .int v6)]) X dX4_meets_141 (by decide) rfl ?_
          refine a_iinc (v := v6 + 1) (lo' := [(6, .int (v6 + 1)), (5, .int x_24), (7, .int x_18), (0, .ref (al 200)), (1, .int v1), (2, .int v2), (3, .int v3), (4, .int v4)]) X dX4_meets_143 7 rfl (ii_1 _) (by decide) rfl ?_
          refine a_goto (tgt := 76) X dX4_meets_146 (by decide) ?_
          refine a_sub (ks := [3, 4, 5, 6, 7, 1, 0]) (lo' := [(0, .ref (al 200)), (1, .int v1), (2, .int v2), (3, .int v3), (4, .int v4), (5, .int x_24), (6, .int (v6 + 1))]) rfl ?_
          exact ih _ _ _ h
set_option maxHeartbeats 4000000 in
set_option maxRecDepth 100000 in
theorem cX4_meets_ok (l : Launch) {G : Gl} {al : Nat → Nat} {mk : Nat} {M : Mem} {v1 : Int32} {v2 : Int32} {v3 : Int32} {v4 : Int32} {Q : Int32 → Mem → Prop} (h : wpX4_meets M v1 v2 v3 v4 Q) : Kv l yX4_meets cX4_meets 8 (some .int) rm_X4_meets G al mk M [.ref (al 200), .int v1, .int v2, .int v3, .int v4] (QI G al mk Q) := by
  refine a_head (by decide) (Nat.le_of_ble_eq_true rfl) (fun p e s m below meth c X => ?_)
  have X : Cx p s m meth c G RX4 cX4_meets 8 (some .int) := X
  unfold wpX4_meets at h
  refine a_sub (ks := [0, 1, 2, 3, 4]) (lo' := [(0, .ref (al 200)), (1, .int v1), (2, .int v2), (3, .int v3), (4, .int v4)]) rfl ?_
  refine a_aload_n X dX4_meets_0 rfl 0 rfl ?_
  refine a_iconst (v := 0) X dX4_meets_1 ic_0 ?_
  refine a_putI (k := 0) X fw4 iz_200 rfl flX4_61 rfl rfl dX4_meets_2 (fun M_1 eM_1 => ?_)
  have h := h M_1 eM_1
  refine a_aload_n X dX4_meets_5 rfl 0 rfl ?_
  refine a_iload_n X dX4_meets_6 rfl 1 rfl ?_
  refine a_iload_n X dX4_meets_7 rfl 2 rfl ?_
  refine a_cVi (As := [.int v1, .int v2]) (st := []) X fw4 iz_200 (cX4_areTwo_ok l h) mlX4_295 mvX4_areTwo (rz rfl) (Nat.le_of_ble_eq_true rfl) rfl dX4_meets_8 (fun r_3 M_2 h => ?_)
  refine a_if_eq (tgt := 24) X dX4_meets_11 (by decide) (fun z => ?_) (fun z => ?_)
  · have h := h.1 z
    refine a_aload_n X dX4_meets_24 rfl 0 rfl ?_
    refine a_iconst (v := 1) X dX4_meets_25 ic_1 ?_
    refine a_cVi (As := [.int 1]) (st := []) X fw4 iz_200 (cX4_refused_ok l h) mlX4_179 mvX4_refused (rz rfl) (Nat.le_of_ble_eq_true rfl) rfl dX4_meets_26 (fun r_5 M_4 h => ?_)
    exact a_iret X h dX4_meets_29
  · have h := h.2 z
    refine a_iload X dX4_meets_14 4 rfl ?_
    refine a_iconst (v := 0) X dX4_meets_16 ic_0 ?_
    refine a_iconst (v := 2) X dX4_meets_17 ic_2 ?_
    refine a_cSi (As := [.int v4, .int 0, .int 2]) (st := []) X (cX4_in_ok l h) mlX4_86 msX4_in (rz rfl) (Nat.le_of_ble_eq_true rfl) rfl dX4_meets_18 (fun r_7 M_6 h => ?_)
    refine a_if_ne (tgt := 30) X dX4_meets_21 (by decide) (fun z => ?_) (fun z => ?_)
    · have h := h.1 z
      refine a_iload_n X dX4_meets_30 rfl 3 rfl ?_
      refine a_iconst (v := 1) X dX4_meets_31 ic_1 ?_
      refine a_bipush (v := 100) X dX4_meets_32 bc_100 ?_
      refine a_cSi (As := [.int v3, .int 1, .int 100]) (st := []) X (cX4_in_ok l h) mlX4_86 msX4_in (rz rfl) (Nat.le_of_ble_eq_true rfl) rfl dX4_meets_34 (fun r_9 M_8 h => ?_)
      refine a_if_ne (tgt := 46) X dX4_meets_37 (by decide) (fun z => ?_) (fun z => ?_)
      · have h := h.1 z
        refine a_aload_n X dX4_meets_46 rfl 0 rfl ?_
        refine a_getR (k := 23) X 24 (b := 224) fw4 iz_200 rfl rfl flX4_43 rfl dX4_meets_47 ?_
        refine a_iload_n X dX4_meets_50 rfl 1 rfl ?_
        refine a_iald X iz_224 h.1 dX4_meets_51 ?_
        have h := h.2
        refine a_if_eq (tgt := 64) X dX4_meets_52 (by decide) (fun z => ?_) (fun z => ?_)
        · have h := h.1 z
          refine a_aload_n X dX4_meets_64 rfl 0 rfl ?_
          refine a_iconst (v := 5) X dX4_meets_65 ic_5 ?_
          refine a_cVi (As := [.int 5]) (st := []) X fw4 iz_200 (cX4_refused_ok l h) mlX4_179 mvX4_refused (rz rfl) (Nat.le_of_ble_eq_true rfl) rfl dX4_meets_66 (fun r_11 M_10 h => ?_)
          exact a_iret X h dX4_meets_69
        · have h := h.2 z
          refine a_aload_n X dX4_meets_55 rfl 0 rfl ?_
          refine a_getR (k := 23) X 24 (b := 224) fw4 iz_200 rfl rfl flX4_43 rfl dX4_meets_56 ?_
          refine a_iload_n X dX4_meets_59 rfl 2 rfl ?_
          refine a_iald X iz_224 h.1 dX4_meets_60 ?_
          have h := h.2
          refine a_if_ne (tgt := 70) X dX4_meets_61 (by decide) (fun z => ?_) (fun z => ?_)
          · have h := h.1 z
            refine a_iconst (v := 0) X dX4_meets_70 ic_0 ?_
            refine a_istore (lo' := [(5, .int 0), (0, .ref (al 200)), (1, .int v1), (2, .int v2), (3, .int v3), (4, .int v4)]) X dX4_meets_71 (by decide) rfl ?_
            refine a_iconst (v := 0) X dX4_meets_73 ic_0 ?_
            refine a_istore (lo' := [(6, .int 0), (5, .int 0), (0, .ref (al 200)), (1, .int v1), (2, .int v2), (3, .int v3), (4, .int v4)]) X dX4_meets_74 (by decide) rfl ?_
            refine a_sub (ks := [2, 3, 4, 5, 6, 1, 0]) (lo' := [(0, .ref (al 200)), (1, .int v1), (2, .int v2), (3, .int v3), (4, .int v4), (5, .int 0), (6, .int 0)]) rfl ?_
            obtain ⟨n9, h⟩ := h
            exact tX4_meets_76 X n9 _ _ _ h
          · have h := h.2 z
            refine a_aload_n X dX4_meets_64 rfl 0 rfl ?_
            refine a_iconst (v := 5) X dX4_meets_65 ic_5 ?_
            refine a_cVi (As := [.int 5]) (st := []) X fw4 iz_200 (cX4_refused_ok l h) mlX4_179 mvX4_refused (rz rfl) (Nat.le_of_ble_eq_true rfl) rfl dX4_meets_66 (fun r_26 M_25 h => ?_)
            exact a_iret X h dX4_meets_69
      · have h := h.2 z
        refine a_aload_n X dX4_meets_40 rfl 0 rfl ?_
        refine a_iconst (v := 2) X dX4_meets_41 ic_2 ?_
        refine a_cVi (As := [.int 2]) (st := []) X fw4 iz_200 (cX4_refused_ok l h) mlX4_179 mvX4_refused (rz rfl) (Nat.le_of_ble_eq_true rfl) rfl dX4_meets_42 (fun r_28 M_27 h => ?_)
        exact a_iret X h dX4_meets_45
    · have h := h.2 z
      refine a_aload_n X dX4_meets_24 rfl 0 rfl ?_
      refine a_iconst (v := 1) X dX4_meets_25 ic_1 ?_
      refine a_cVi (As := [.int 1]) (st := []) X fw4 iz_200 (cX4_refused_ok l h) mlX4_179 mvX4_refused (rz rfl) (Nat.le_of_ble_eq_true rfl) rfl dX4_meets_26 (fun r_30 M_29 h => ?_)
      exact a_iret X h dX4_meets_29
abbrev rm_X4_ceilingOf : Room := { frames := 0, cells := 0, slots := 0, locals := 0 }
def wX4_ceilingOf_14 (Q : Int32 → Mem → Prop) (v1 : Int32) (v2 : Int32) : Nat → Mem → Int32 → Int32 → Prop
  | 0, _, _, _ => False
  | n + 1, M, v3, v4 => ((v2 ≤ v4 → (vp_in ((1000 * v1) + v3) 6000 ∧ Q (gI M 220 (Int32.toNatClampNeg ((1000 * v1) + v3))) M)) ∧ (¬ v2 ≤ v4 → (vp_in ((1000 * v1) + (v3 + 1)) 6000 ∧ (∀ x_2 : Int32, x_2 = (v4 + (gI M 221 (Int32.toNatClampNeg ((1000 * v1) + (v3 + 1))))) → wX4_ceilingOf_14 Q v1 v2 n M (v3 + 1) x_2))))
def wpX4_ceilingOf (M : Mem) (v1 : Int32) (v2 : Int32) (Q : Int32 → Mem → Prop) : Prop := (vp_in (1000 * v1) 6000 ∧ (∀ x_1 : Int32, x_1 = (gI M 221 (Int32.toNatClampNeg (1000 * v1))) → ∃ n, wX4_ceilingOf_14 Q v1 v2 n M 0 x_1))
set_option maxHeartbeats 4000000 in
set_option maxRecDepth 100000 in
theorem tX4_ceilingOf_14 (X : Cx p s m meth c G RX4 cX4_ceilingOf 5 (some .int)) {Q : Int32 → Mem → Prop} {v1 : Int32} {v2 : Int32} : ∀ (n : Nat) (M : Mem) (v3 : Int32) (v4 : Int32), wX4_ceilingOf_14 Q v1 v2 n M v3 v4 → Wa p l e rm_X4_ceilingOf s m args below meth c 5 G al mk 0 0 (MQ below (QI G al mk Q) args s 0 0 (gA G)) M 14 [(0, .ref (al 200)), (1, .int v1), (2, .int v2), (3, .int v3), (4, .int v4)] [] := by
  intro n
  induction n with
  | zero =>
    intro M v3 v4 h
    exact False.elim h
  | succ n ih =>
    intro M v3 v4 h
    rw [wX4_ceilingOf_14] at h
    refine a_iload X dX4_ceilingOf_14 4 rfl ?_
    refine a_iload_n X dX4_ceilingOf_16 rfl 2 rfl ?_
    refine a_icmp_ge (tgt := 43) X dX4_ceilingOf_17 (by decide) (fun z => ?_) (fun z => ?_)
    · have h := h.1 z
      refine a_aload_n X dX4_ceilingOf_43 rfl 0 rfl ?_
      refine a_getR (k := 19) X 20 (b := 220) fw4 iz_200 rfl rfl flX4_31 rfl dX4_ceilingOf_44 ?_
      refine a_sipush (v := 1000) X dX4_ceilingOf_47 sc_1000 ?_
      refine a_iload_n X dX4_ceilingOf_50 rfl 1 rfl ?_
      refine a_imul X dX4_ceilingOf_51 ?_
      refine a_iload_n X dX4_ceilingOf_52 rfl 3 rfl ?_
      refine a_iadd X dX4_ceilingOf_53 ?_
      refine a_iald X iz_220 h.1 dX4_ceilingOf_54 ?_
      have h := h.2
      exact a_iret X h dX4_ceilingOf_55
    · have h := h.2 z
      refine a_iinc (v := v3 + 1) (lo' := [(3, .int (v3 + 1)), (0, .ref (al 200)), (1, .int v1), (2, .int v2), (4, .int v4)]) X dX4_ceilingOf_20 3 rfl (ii_1 _) (by decide) rfl ?_
      refine a_iload X dX4_ceilingOf_23 4 rfl ?_
      refine a_aload_n X dX4_ceilingOf_25 rfl 1 rfl ?_
      refine a_getR (k := 20) X 21 (b := 221) fw4 iz_200 rfl rfl flX4_34 rfl dX4_ceilingOf_26 ?_
      refine a_sipush (v := 1000) X dX4_ceilingOf_29 sc_1000 ?_
      refine a_iload_n X dX4_ceilingOf_32 rfl 2 rfl ?_
      refine a_imul X dX4_ceilingOf_33 ?_
      refine a_iload_n X dX4_ceilingOf_34 rfl 0 rfl ?_
      refine a_iadd X dX4_ceilingOf_35 ?_
      refine a_iald X iz_221 h.1 dX4_ceilingOf_36 ?_
      have h := h.2
      refine a_iadd X dX4_ceilingOf_37 ?_
      refine a_topi (fun x_2 ex_2 => ?_)
      have h := h x_2 ex_2
      refine a_istore (lo' := [(4, .int x_2), (3, .int (v3 + 1)), (0, .ref (al 200)), (1, .int v1), (2, .int v2)]) X dX4_ceilingOf_38 (by decide) rfl ?_
      refine a_goto (tgt := 14) X dX4_ceilingOf_40 (by decide) ?_
      refine a_sub (ks := [2, 3, 4, 1, 0]) (lo' := [(0, .ref (al 200)), (1, .int v1), (2, .int v2), (3, .int (v3 + 1)), (4, .int x_2)]) rfl ?_
      exact ih _ _ _ h
set_option maxHeartbeats 4000000 in
set_option maxRecDepth 100000 in
theorem cX4_ceilingOf_ok (l : Launch) {G : Gl} {al : Nat → Nat} {mk : Nat} {M : Mem} {v1 : Int32} {v2 : Int32} {Q : Int32 → Mem → Prop} (h : wpX4_ceilingOf M v1 v2 Q) : Kv l yX4_ceilingOf cX4_ceilingOf 5 (some .int) rm_X4_ceilingOf G al mk M [.ref (al 200), .int v1, .int v2] (QI G al mk Q) := by
  refine a_head (by decide) (Nat.le_of_ble_eq_true rfl) (fun p e s m below meth c X => ?_)
  have X : Cx p s m meth c G RX4 cX4_ceilingOf 5 (some .int) := X
  unfold wpX4_ceilingOf at h
  refine a_sub (ks := [0, 1, 2]) (lo' := [(0, .ref (al 200)), (1, .int v1), (2, .int v2)]) rfl ?_
  refine a_iconst (v := 0) X dX4_ceilingOf_0 ic_0 ?_
  refine a_istore_n (lo' := [(3, .int 0), (0, .ref (al 200)), (1, .int v1), (2, .int v2)]) X dX4_ceilingOf_1 rfl (by decide) rfl ?_
  refine a_aload_n X dX4_ceilingOf_2 rfl 1 rfl ?_
  refine a_getR (k := 20) X 21 (b := 221) fw4 iz_200 rfl rfl flX4_34 rfl dX4_ceilingOf_3 ?_
  refine a_sipush (v := 1000) X dX4_ceilingOf_6 sc_1000 ?_
  refine a_iload_n X dX4_ceilingOf_9 rfl 2 rfl ?_
  refine a_imul X dX4_ceilingOf_10 ?_
  refine a_iald X iz_221 h.1 dX4_ceilingOf_11 ?_
  have h := h.2
  refine a_topi (fun x_1 ex_1 => ?_)
  have h := h x_1 ex_1
  refine a_istore (lo' := [(4, .int x_1), (3, .int 0), (0, .ref (al 200)), (1, .int v1), (2, .int v2)]) X dX4_ceilingOf_12 (by decide) rfl ?_
  refine a_sub (ks := [2, 3, 4, 1, 0]) (lo' := [(0, .ref (al 200)), (1, .int v1), (2, .int v2), (3, .int 0), (4, .int x_1)]) rfl ?_
  obtain ⟨n9, h⟩ := h
  exact tX4_ceilingOf_14 X n9 _ _ _ h
abbrev rm_X4_floorOf : Room := { frames := 0, cells := 0, slots := 0, locals := 0 }
def wX4_floorOf_8 (Q : Int32 → Mem → Prop) (v1 : Int32) (v2 : Int32) : Nat → Mem → Int32 → Int32 → Int32 → Prop
  | 0, _, _, _, _ => False
  | n + 1, M, v3, v4, v5 => (vp_in v1 6 ∧ (((gI M 223 (Int32.toNatClampNeg v1)) ≤ v5 → Q v3 M) ∧ (¬ (gI M 223 (Int32.toNatClampNeg v1)) ≤ v5 → (vp_in ((1000 * v1) + v5) 6000 ∧ (∀ x_1 : Int32, x_1 = (v4 + (gI M 221 (Int32.toNatClampNeg ((1000 * v1) + v5)))) → (vp_in ((1000 * v1) + v5) 6000 ∧ ((v2 < (x_1 + (gI M 222 (Int32.toNatClampNeg ((1000 * v1) + v5)))) → wX4_floorOf_8 Q v1 v2 n M v3 x_1 (v5 + 1)) ∧ (¬ v2 < (x_1 + (gI M 222 (Int32.toNatClampNeg ((1000 * v1) + v5)))) → (vp_in ((1000 * v1) + v5) 6000 ∧ (∀ x_2 : Int32, x_2 = (gI M 220 (Int32.toNatClampNeg ((1000 * v1) + v5))) → wX4_floorOf_8 Q v1 v2 n M x_2 x_1 (v5 + 1)))))))))))
def wpX4_floorOf (M : Mem) (v1 : Int32) (v2 : Int32) (Q : Int32 → Mem → Prop) : Prop := ∃ n, wX4_floorOf_8 Q v1 v2 n M (-1) 0 0
set_option maxHeartbeats 4000000 in
set_option maxRecDepth 100000 in
theorem tX4_floorOf_8 (X : Cx p s m meth c G RX4 cX4_floorOf 6 (some .int)) {Q : Int32 → Mem → Prop} {v1 : Int32} {v2 : Int32} : ∀ (n : Nat) (M : Mem) (v3 : Int32) (v4 : Int32) (v5 : Int32), wX4_floorOf_8 Q v1 v2 n M v3 v4 v5 → Wa p l e rm_X4_floorOf s m args below meth c 6 G al mk 0 0 (MQ below (QI G al mk Q) args s 0 0 (gA G)) M 8 [(0, .ref (al 200)), (1, .int v1), (2, .int v2), (3, .int v3), (4, .int v4), (5, .int v5)] [] := by
  intro n
  induction n with
  | zero =>
    intro M v3 v4 v5 h
    exact False.elim h
  | succ n ih =>
    intro M v3 v4 v5 h
    rw [wX4_floorOf_8] at h
    refine a_iload X dX4_floorOf_8 5 rfl ?_
    refine a_aload_n X dX4_floorOf_10 rfl 0 rfl ?_
    refine a_getR (k := 22) X 23 (b := 223) fw4 iz_200 rfl rfl flX4_40 rfl dX4_floorOf_11 ?_
    refine a_iload_n X dX4_floorOf_14 rfl 1 rfl ?_
    refine a_iald X iz_223 h.1 dX4_floorOf_15 ?_
    have h := h.2
    refine a_icmp_ge (tgt := 77) X dX4_floorOf_16 (by decide) (fun z => ?_) (fun z => ?_)
    · have h := h.1 z
      refine a_iload_n X dX4_floorOf_77 rfl 3 rfl ?_
      exact a_iret X h dX4_floorOf_78
    · have h := h.2 z
      refine a_iload X dX4_floorOf_19 4 rfl ?_
      refine a_aload_n X dX4_floorOf_21 rfl 0 rfl ?_
      refine a_getR (k := 20) X 21 (b := 221) fw4 iz_200 rfl rfl flX4_34 rfl dX4_floorOf_22 ?_
      refine a_sipush (v := 1000) X dX4_floorOf_25 sc_1000 ?_
      refine a_iload_n X dX4_floorOf_28 rfl 1 rfl ?_
      refine a_imul X dX4_floorOf_29 ?_
      refine a_iload X dX4_floorOf_30 5 rfl ?_
      refine a_iadd X dX4_floorOf_32 ?_
      refine a_iald X iz_221 h.1 dX4_floorOf_33 ?_
      have h := h.2
      refine a_iadd X dX4_floorOf_34 ?_
      refine a_topi (fun x_1 ex_1 => ?_)
      have h := h x_1 ex_1
      refine a_istore (lo' := [(4, .int x_1), (0, .ref (al 200)), (1, .int v1), (2, .int v2), (3, .int v3), (5, .int v5)]) X dX4_floorOf_35 (by decide) rfl ?_
      refine a_iload X dX4_floorOf_37 0 rfl ?_
      refine a_aload_n X dX4_floorOf_39 rfl 1 rfl ?_
      refine a_getR (k := 21) X 22 (b := 222) fw4 iz_200 rfl rfl flX4_37 rfl dX4_floorOf_40 ?_
      refine a_sipush (v := 1000) X dX4_floorOf_43 sc_1000 ?_
      refine a_iload_n X dX4_floorOf_46 rfl 2 rfl ?_
      refine a_imul X dX4_floorOf_47 ?_
      refine a_iload X dX4_floorOf_48 5 rfl ?_
      refine a_iadd X dX4_floorOf_50 ?_
      refine a_iald X iz_222 h.1 dX4_floorOf_51 ?_
      have h := h.2
      refine a_iadd X dX4_floorOf_52 ?_
      refine a_iload_n X dX4_floorOf_53 rfl 3 rfl ?_
      refine a_icmp_gt (tgt := 71) X dX4_floorOf_54 (by decide) (fun z => ?_) (fun z => ?_)
      · have h := h.1 z
        refine a_iinc (v := v5 + 1) (lo' := [(5, .int (v5 + 1)), (4, .int x_1), (0, .ref (al 200)), (1, .int v1), (2, .int v2), (3, .int v3)]) X dX4_floorOf_71 5 rfl (ii_1 _) (by decide) rfl ?_
        refine a_goto (tgt := 8) X dX4_floorOf_74 (by decide) ?_
        refine a_sub (ks := [2, 3, 4, 5, 1, 0]) (lo' := [(0, .ref (al 200)), (1, .int v1), (2, .int v2), (3, .int v3), (4, .int x_1), (5, .int (v5 + 1))]) rfl ?_
        exact ih _ _ _ _ h
      · have h := h.2 z
        refine a_aload_n X dX4_floorOf_57 rfl 1 rfl ?_
        refine a_getR (k := 19) X 20 (b := 220) fw4 iz_200 rfl rfl flX4_31 rfl dX4_floorOf_58 ?_
        refine a_sipush (v := 1000) X dX4_floorOf_61 sc_1000 ?_
        refine a_iload_n X dX4_floorOf_64 rfl 2 rfl ?_
        refine a_imul X dX4_floorOf_65 ?_
        refine a_iload X dX4_floorOf_66 5 rfl ?_
        refine a_iadd X dX4_floorOf_68 ?_
        refine a_iald X iz_220 h.1 dX4_floorOf_69 ?_
        have h := h.2
        refine a_topi (fun x_2 ex_2 => ?_)
        have h := h x_2 ex_2
        refine a_istore_n (lo' := [(3, .int x_2), (4, .int x_1), (0, .ref (al 200)), (1, .int v1), (2, .int v2), (5, .int v5)]) X dX4_floorOf_70 rfl (by decide) rfl ?_
        refine a_iinc (v := v5 + 1) (lo' := [(5, .int (v5 + 1)), (3, .int x_2), (4, .int x_1), (0, .ref (al 200)), (1, .int v1), (2, .int v2)]) X dX4_floorOf_71 5 rfl (ii_1 _) (by decide) rfl ?_
        refine a_goto (tgt := 8) X dX4_floorOf_74 (by decide) ?_
        refine a_sub (ks := [3, 4, 5, 1, 2, 0]) (lo' := [(0, .ref (al 200)), (1, .int v1), (2, .int v2), (3, .int x_2), (4, .int x_1), (5, .int (v5 + 1))]) rfl ?_
        exact ih _ _ _ _ h
set_option maxHeartbeats 4000000 in
set_option maxRecDepth 100000 in
theorem cX4_floorOf_ok (l : Launch) {G : Gl} {al : Nat → Nat} {mk : Nat} {M : Mem} {v1 : Int32} {v2 : Int32} {Q : Int32 → Mem → Prop} (h : wpX4_floorOf M v1 v2 Q) : Kv l yX4_floorOf cX4_floorOf 6 (some .int) rm_X4_floorOf G al mk M [.ref (al 200), .int v1, .int v2] (QI G al mk Q) := by
  refine a_head (by decide) (Nat.le_of_ble_eq_true rfl) (fun p e s m below meth c X => ?_)
  have X : Cx p s m meth c G RX4 cX4_floorOf 6 (some .int) := X
  unfold wpX4_floorOf at h
  refine a_sub (ks := [0, 1, 2]) (lo' := [(0, .ref (al 200)), (1, .int v1), (2, .int v2)]) rfl ?_
  refine a_iconst (v := (-1)) X dX4_floorOf_0 ic_m1 ?_
  refine a_istore_n (lo' := [(3, .int (-1)), (0, .ref (al 200)), (1, .int v1), (2, .int v2)]) X dX4_floorOf_1 rfl (by decide) rfl ?_
  refine a_iconst (v := 0) X dX4_floorOf_2 ic_0 ?_
  refine a_istore (lo' := [(4, .int 0), (3, .int (-1)), (0, .ref (al 200)), (1, .int v1), (2, .int v2)]) X dX4_floorOf_3 (by decide) rfl ?_
  refine a_iconst (v := 0) X dX4_floorOf_5 ic_0 ?_
  refine a_istore (lo' := [(5, .int 0), (4, .int 0), (3, .int (-1)), (0, .ref (al 200)), (1, .int v1), (2, .int v2)]) X dX4_floorOf_6 (by decide) rfl ?_
  refine a_sub (ks := [3, 4, 5, 2, 1, 0]) (lo' := [(0, .ref (al 200)), (1, .int v1), (2, .int v2), (3, .int (-1)), (4, .int 0), (5, .int 0)]) rfl ?_
  obtain ⟨n9, h⟩ := h
  exact tX4_floorOf_8 X n9 _ _ _ _ h
abbrev rm_X4_unsure : Room := { frames := 2, cells := 0, slots := 0, locals := 43 }
def wX4_unsure_36 (Q : Int32 → Mem → Prop) (v1 : Int32) (v2 : Int32) : Nat → Mem → Int32 → Int32 → Int32 → Prop
  | 0, _, _, _, _ => False
  | n + 1, M, v3, v4, v5 => (vp_in v1 6 ∧ (((gI M 224 (Int32.toNatClampNeg v1)) < v5 → ((¬ v2 = 0 → wpX4_good M v4 (fun r_9 M_8 => Q r_9 M_8)) ∧ (v2 = 0 → wpX4_good M v3 (fun r_11 M_10 => Q r_11 M_10)))) ∧ (¬ (gI M 224 (Int32.toNatClampNeg v1)) < v5 → wpX4_ceilingOf M v1 v5 (fun r_13 M_12 => wpX4_floorOf M_12 v1 v5 (fun r_15 M_14 => (∀ x_16 : Int32, x_16 = (r_13 - r_15) → ((x_16 = 0 → (∀ x_17 : Int32, x_17 = (v3 + 0) → ((x_16 ≤ v4 → wX4_unsure_36 Q v1 v2 n M_14 x_17 v4 (v5 + 1)) ∧ (¬ x_16 ≤ v4 → wX4_unsure_36 Q v1 v2 n M_14 x_17 x_16 (v5 + 1))))) ∧ (¬ x_16 = 0 → (∀ x_18 : Int32, x_18 = (v3 + 1) → ((x_16 ≤ v4 → wX4_unsure_36 Q v1 v2 n M_14 x_18 v4 (v5 + 1)) ∧ (¬ x_16 ≤ v4 → wX4_unsure_36 Q v1 v2 n M_14 x_18 x_16 (v5 + 1))))))))))))
def wpX4_unsure (M : Mem) (v1 : Int32) (v2 : Int32) (Q : Int32 → Mem → Prop) : Prop := (∀ M_1 : Mem, M_1 = pI M 200 0 0 → wpX4_isStream M_1 v1 (fun r_3 M_2 => ((r_3 = 0 → wpX4_refused M_2 1 (fun r_5 M_4 => Q r_5 M_4)) ∧ (¬ r_3 = 0 → wpX4_in M_2 v2 0 1 (fun r_7 M_6 => ((¬ r_7 = 0 → ∃ n, wX4_unsure_36 Q v1 v2 n M_6 0 0 1) ∧ (r_7 = 0 → wpX4_refused M_6 1 (fun r_20 M_19 => Q r_20 M_19))))))))
set_option maxHeartbeats 4000000 in
set_option maxRecDepth 100000 in
theorem tX4_unsure_36 (X : Cx p s m meth c G RX4 cX4_unsure 7 (some .int)) {Q : Int32 → Mem → Prop} {v1 : Int32} {v2 : Int32} : ∀ (n : Nat) (M : Mem) (v3 : Int32) (v4 : Int32) (v5 : Int32), wX4_unsure_36 Q v1 v2 n M v3 v4 v5 → Wa p l e rm_X4_unsure s m args below meth c 7 G al mk 0 0 (MQ below (QI G al mk Q) args s 0 0 (gA G)) M 36 [(0, .ref (al 200)), (1, .int v1), (2, .int v2), (3, .int v3), (4, .int v4), (5, .int v5)] [] := by
  intro n
  induction n with
  | zero =>
    intro M v3 v4 v5 h
    exact False.elim h
  | succ n ih =>
    intro M v3 v4 v5 h
    rw [wX4_unsure_36] at h
    refine a_iload X dX4_unsure_36 5 rfl ?_
    refine a_aload_n X dX4_unsure_38 rfl 0 rfl ?_
    refine a_getR (k := 23) X 24 (b := 224) fw4 iz_200 rfl rfl flX4_43 rfl dX4_unsure_39 ?_
    refine a_iload_n X dX4_unsure_42 rfl 1 rfl ?_
    refine a_iald X iz_224 h.1 dX4_unsure_43 ?_
    have h := h.2
    refine a_icmp_gt (tgt := 94) X dX4_unsure_44 (by decide) (fun z => ?_) (fun z => ?_)
    · have h := h.1 z
      refine a_aload_n X dX4_unsure_94 rfl 0 rfl ?_
      refine a_iload_n X dX4_unsure_95 rfl 2 rfl ?_
      refine a_if_ne (tgt := 103) X dX4_unsure_96 (by decide) (fun z => ?_) (fun z => ?_)
      · have h := h.1 z
        refine a_iload X dX4_unsure_103 4 rfl ?_
        refine a_cVi (As := [.int v4]) (st := []) X fw4 iz_200 (cX4_good_ok l h) mlX4_195 mvX4_good (rz rfl) (Nat.le_of_ble_eq_true rfl) rfl dX4_unsure_105 (fun r_9 M_8 h => ?_)
        exact a_iret X h dX4_unsure_108
      · have h := h.2 z
        refine a_iload_n X dX4_unsure_99 rfl 3 rfl ?_
        refine a_goto (tgt := 105) X dX4_unsure_100 (by decide) ?_
        refine a_cVi (As := [.int v3]) (st := []) X fw4 iz_200 (cX4_good_ok l h) mlX4_195 mvX4_good (rz rfl) (Nat.le_of_ble_eq_true rfl) rfl dX4_unsure_105 (fun r_11 M_10 h => ?_)
        exact a_iret X h dX4_unsure_108
    · have h := h.2 z
      refine a_aload_n X dX4_unsure_47 rfl 0 rfl ?_
      refine a_iload_n X dX4_unsure_48 rfl 1 rfl ?_
      refine a_iload X dX4_unsure_49 5 rfl ?_
      refine a_cVi (As := [.int v1, .int v5]) (st := []) X fw4 iz_200 (cX4_ceilingOf_ok l h) mlX4_298 mvX4_ceilingOf (rz rfl) (Nat.le_of_ble_eq_true rfl) rfl dX4_unsure_51 (fun r_13 M_12 h => ?_)
      refine a_aload_n X dX4_unsure_54 rfl 0 rfl ?_
      refine a_iload_n X dX4_unsure_55 rfl 1 rfl ?_
      refine a_iload X dX4_unsure_56 5 rfl ?_
      refine a_cVi (As := [.int v1, .int v5]) (st := [.int r_13]) X fw4 iz_200 (cX4_floorOf_ok l h) mlX4_301 mvX4_floorOf (rz rfl) (Nat.le_of_ble_eq_true rfl) rfl dX4_unsure_58 (fun r_15 M_14 h => ?_)
      refine a_isub X dX4_unsure_61 ?_
      refine a_topi (fun x_16 ex_16 => ?_)
      have h := h x_16 ex_16
      refine a_istore (lo' := [(6, .int x_16), (0, .ref (al 200)), (1, .int v1), (2, .int v2), (3, .int v3), (4, .int v4), (5, .int v5)]) X dX4_unsure_62 (by decide) rfl ?_
      refine a_iload_n X dX4_unsure_64 rfl 4 rfl ?_
      refine a_iload X dX4_unsure_65 0 rfl ?_
      refine a_if_eq (tgt := 74) X dX4_unsure_67 (by decide) (fun z => ?_) (fun z => ?_)
      · have h := h.1 z
        refine a_iconst (v := 0) X dX4_unsure_74 ic_0 ?_
        refine a_iadd X dX4_unsure_75 ?_
        refine a_topi (fun x_17 ex_17 => ?_)
        have h := h x_17 ex_17
        refine a_istore_n (lo' := [(3, .int x_17), (6, .int x_16), (0, .ref (al 200)), (1, .int v1), (2, .int v2), (4, .int v4), (5, .int v5)]) X dX4_unsure_76 rfl (by decide) rfl ?_
        refine a_iload X dX4_unsure_77 1 rfl ?_
        refine a_iload X dX4_unsure_79 5 rfl ?_
        refine a_icmp_le (tgt := 88) X dX4_unsure_81 (by decide) (fun z => ?_) (fun z => ?_)
        · have h := h.1 z
          refine a_iinc (v := v5 + 1) (lo' := [(5, .int (v5 + 1)), (3, .int x_17), (6, .int x_16), (0, .ref (al 200)), (1, .int v1), (2, .int v2), (4, .int v4)]) X dX4_unsure_88 6 rfl (ii_1 _) (by decide) rfl ?_
          refine a_goto (tgt := 36) X dX4_unsure_91 (by decide) ?_
          refine a_sub (ks := [3, 4, 5, 1, 6, 0]) (lo' := [(0, .ref (al 200)), (1, .int v1), (2, .int v2), (3, .int x_17), (4, .int v4), (5, .int (v5 + 1))]) rfl ?_
          exact ih _ _ _ _ h
        · have h := h.2 z
          refine a_iload X dX4_unsure_84 1 rfl ?_
          refine a_istore (lo' := [(4, .int x_16), (3, .int x_17), (6, .int x_16), (0, .ref (al 200)), (1, .int v1), (2, .int v2), (5, .int v5)]) X dX4_unsure_86 (by decide) rfl ?_
          refine a_iinc (v := v5 + 1) (lo' := [(5, .int (v5 + 1)), (4, .int x_16), (3, .int x_17), (6, .int x_16), (0, .ref (al 200)), (1, .int v1), (2, .int v2)]) X dX4_unsure_88 6 rfl (ii_1 _) (by decide) rfl ?_
          refine a_goto (tgt := 36) X dX4_unsure_91 (by decide) ?_
          refine a_sub (ks := [4, 5, 6, 2, 1, 0]) (lo' := [(0, .ref (al 200)), (1, .int v1), (2, .int v2), (3, .int x_17), (4, .int x_16), (5, .int (v5 + 1))]) rfl ?_
          exact ih _ _ _ _ h
      · have h := h.2 z
        refine a_iconst (v := 1) X dX4_unsure_70 ic_1 ?_
        refine a_goto (tgt := 75) X dX4_unsure_71 (by decide) ?_
        refine a_iadd X dX4_unsure_75 ?_
        refine a_topi (fun x_18 ex_18 => ?_)
        have h := h x_18 ex_18
        refine a_istore_n (lo' := [(3, .int x_18), (6, .int x_16), (0, .ref (al 200)), (1, .int v1), (2, .int v2), (4, .int v4), (5, .int v5)]) X dX4_unsure_76 rfl (by decide) rfl ?_
        refine a_iload X dX4_unsure_77 1 rfl ?_
        refine a_iload X dX4_unsure_79 5 rfl ?_
        refine a_icmp_le (tgt := 88) X dX4_unsure_81 (by decide) (fun z => ?_) (fun z => ?_)
        · have h := h.1 z
          refine a_iinc (v := v5 + 1) (lo' := [(5, .int (v5 + 1)), (3, .int x_18), (6, .int x_16), (0, .ref (al 200)), (1, .int v1), (2, .int v2), (4, .int v4)]) X dX4_unsure_88 6 rfl (ii_1 _) (by decide) rfl ?_
          refine a_goto (tgt := 36) X dX4_unsure_91 (by decide) ?_
          refine a_sub (ks := [3, 4, 5, 1, 6, 0]) (lo' := [(0, .ref (al 200)), (1, .int v1), (2, .int v2), (3, .int x_18), (4, .int v4), (5, .int (v5 + 1))]) rfl ?_
          exact ih _ _ _ _ h
        · have h := h.2 z
          refine a_iload X dX4_unsure_84 1 rfl ?_
          refine a_istore (lo' := [(4, .int x_16), (3, .int x_18), (6, .int x_16), (0, .ref (al 200)), (1, .int v1), (2, .int v2), (5, .int v5)]) X dX4_unsure_86 (by decide) rfl ?_
          refine a_iinc (v := v5 + 1) (lo' := [(5, .int (v5 + 1)), (4, .int x_16), (3, .int x_18), (6, .int x_16), (0, .ref (al 200)), (1, .int v1), (2, .int v2)]) X dX4_unsure_88 6 rfl (ii_1 _) (by decide) rfl ?_
          refine a_goto (tgt := 36) X dX4_unsure_91 (by decide) ?_
          refine a_sub (ks := [4, 5, 6, 2, 1, 0]) (lo' := [(0, .ref (al 200)), (1, .int v1), (2, .int v2), (3, .int x_18), (4, .int x_16), (5, .int (v5 + 1))]) rfl ?_
          exact ih _ _ _ _ h
set_option maxHeartbeats 4000000 in
set_option maxRecDepth 100000 in
theorem cX4_unsure_ok (l : Launch) {G : Gl} {al : Nat → Nat} {mk : Nat} {M : Mem} {v1 : Int32} {v2 : Int32} {Q : Int32 → Mem → Prop} (h : wpX4_unsure M v1 v2 Q) : Kv l yX4_unsure cX4_unsure 7 (some .int) rm_X4_unsure G al mk M [.ref (al 200), .int v1, .int v2] (QI G al mk Q) := by
  refine a_head (by decide) (Nat.le_of_ble_eq_true rfl) (fun p e s m below meth c X => ?_)
  have X : Cx p s m meth c G RX4 cX4_unsure 7 (some .int) := X
  unfold wpX4_unsure at h
  refine a_sub (ks := [0, 1, 2]) (lo' := [(0, .ref (al 200)), (1, .int v1), (2, .int v2)]) rfl ?_
  refine a_aload_n X dX4_unsure_0 rfl 0 rfl ?_
  refine a_iconst (v := 0) X dX4_unsure_1 ic_0 ?_
  refine a_putI (k := 0) X fw4 iz_200 rfl flX4_61 rfl rfl dX4_unsure_2 (fun M_1 eM_1 => ?_)
  have h := h M_1 eM_1
  refine a_aload_n X dX4_unsure_5 rfl 0 rfl ?_
  refine a_iload_n X dX4_unsure_6 rfl 1 rfl ?_
  refine a_cVi (As := [.int v1]) (st := []) X fw4 iz_200 (cX4_isStream_ok l h) mlX4_247 mvX4_isStream (rz rfl) (Nat.le_of_ble_eq_true rfl) rfl dX4_unsure_7 (fun r_3 M_2 h => ?_)
  refine a_if_eq (tgt := 22) X dX4_unsure_10 (by decide) (fun z => ?_) (fun z => ?_)
  · have h := h.1 z
    refine a_aload_n X dX4_unsure_22 rfl 0 rfl ?_
    refine a_iconst (v := 1) X dX4_unsure_23 ic_1 ?_
    refine a_cVi (As := [.int 1]) (st := []) X fw4 iz_200 (cX4_refused_ok l h) mlX4_179 mvX4_refused (rz rfl) (Nat.le_of_ble_eq_true rfl) rfl dX4_unsure_24 (fun r_5 M_4 h => ?_)
    exact a_iret X h dX4_unsure_27
  · have h := h.2 z
    refine a_iload_n X dX4_unsure_13 rfl 2 rfl ?_
    refine a_iconst (v := 0) X dX4_unsure_14 ic_0 ?_
    refine a_iconst (v := 1) X dX4_unsure_15 ic_1 ?_
    refine a_cSi (As := [.int v2, .int 0, .int 1]) (st := []) X (cX4_in_ok l h) mlX4_86 msX4_in (rz rfl) (Nat.le_of_ble_eq_true rfl) rfl dX4_unsure_16 (fun r_7 M_6 h => ?_)
    refine a_if_ne (tgt := 28) X dX4_unsure_19 (by decide) (fun z => ?_) (fun z => ?_)
    · have h := h.1 z
      refine a_iconst (v := 0) X dX4_unsure_28 ic_0 ?_
      refine a_istore_n (lo' := [(3, .int 0), (0, .ref (al 200)), (1, .int v1), (2, .int v2)]) X dX4_unsure_29 rfl (by decide) rfl ?_
      refine a_iconst (v := 0) X dX4_unsure_30 ic_0 ?_
      refine a_istore (lo' := [(4, .int 0), (3, .int 0), (0, .ref (al 200)), (1, .int v1), (2, .int v2)]) X dX4_unsure_31 (by decide) rfl ?_
      refine a_iconst (v := 1) X dX4_unsure_33 ic_1 ?_
      refine a_istore (lo' := [(5, .int 1), (4, .int 0), (3, .int 0), (0, .ref (al 200)), (1, .int v1), (2, .int v2)]) X dX4_unsure_34 (by decide) rfl ?_
      refine a_sub (ks := [3, 4, 5, 2, 1, 0]) (lo' := [(0, .ref (al 200)), (1, .int v1), (2, .int v2), (3, .int 0), (4, .int 0), (5, .int 1)]) rfl ?_
      obtain ⟨n9, h⟩ := h
      exact tX4_unsure_36 X n9 _ _ _ _ h
    · have h := h.2 z
      refine a_aload_n X dX4_unsure_22 rfl 0 rfl ?_
      refine a_iconst (v := 1) X dX4_unsure_23 ic_1 ?_
      refine a_cVi (As := [.int 1]) (st := []) X fw4 iz_200 (cX4_refused_ok l h) mlX4_179 mvX4_refused (rz rfl) (Nat.le_of_ble_eq_true rfl) rfl dX4_unsure_24 (fun r_20 M_19 h => ?_)
      exact a_iret X h dX4_unsure_27
abbrev rm_X4_quota : Room := { frames := 2, cells := 0, slots := 0, locals := 43 }
def wpX4_quota (M : Mem) (v1 : Int32) (v2 : Int32) (v3 : Int32) (v4 : Int32) (Q : Int32 → Mem → Prop) : Prop := (∀ M_1 : Mem, M_1 = pI M 200 0 0 → wpX4_isStream M_1 v1 (fun r_3 M_2 => ((r_3 = 0 → wpX4_refused M_2 1 (fun r_5 M_4 => Q r_5 M_4)) ∧ (¬ r_3 = 0 → wpX4_in M_2 v4 0 2 (fun r_7 M_6 => ((¬ r_7 = 0 → wpX4_in M_6 v3 1 100 (fun r_9 M_8 => ((r_9 = 0 → wpX4_refused M_8 2 (fun r_11 M_10 => Q r_11 M_10)) ∧ (¬ r_9 = 0 → wpX4_in M_8 v2 0 v3 (fun r_13 M_12 => ((¬ r_13 = 0 → (vp_in v1 6 ∧ ((¬ (gI M_12 224 (Int32.toNatClampNeg v1)) = 0 → wpX4_quotaPlace M_12 v1 v2 v3 (fun r_15 M_14 => wpX4_answers M_14 v1 r_15 (fun r_17 M_16 => ((¬ v4 = 0 → ((¬ v4 = 1 → wpX4_good M_16 r_15 (fun r_19 M_18 => Q r_19 M_18)) ∧ (v4 = 1 → wpX4_good M_16 (gI M_16 200 31) (fun r_21 M_20 => Q r_21 M_20)))) ∧ (v4 = 0 → (vp_in ((1000 * v1) + r_17) 6000 ∧ wpX4_good M_16 (gI M_16 220 (Int32.toNatClampNeg ((1000 * v1) + r_17))) (fun r_23 M_22 => Q r_23 M_22))))))) ∧ ((gI M_12 224 (Int32.toNatClampNeg v1)) = 0 → wpX4_refused M_12 5 (fun r_25 M_24 => Q r_25 M_24))))) ∧ (r_13 = 0 → wpX4_refused M_12 2 (fun r_27 M_26 => Q r_27 M_26)))))))) ∧ (r_7 = 0 → wpX4_refused M_6 1 (fun r_29 M_28 => Q r_29 M_28))))))))
set_option maxHeartbeats 4000000 in
set_option maxRecDepth 100000 in
theorem cX4_quota_ok (l : Launch) {G : Gl} {al : Nat → Nat} {mk : Nat} {M : Mem} {v1 : Int32} {v2 : Int32} {v3 : Int32} {v4 : Int32} {Q : Int32 → Mem → Prop} (h : wpX4_quota M v1 v2 v3 v4 Q) : Kv l yX4_quota cX4_quota 7 (some .int) rm_X4_quota G al mk M [.ref (al 200), .int v1, .int v2, .int v3, .int v4] (QI G al mk Q) := by
  refine a_head (by decide) (Nat.le_of_ble_eq_true rfl) (fun p e s m below meth c X => ?_)
  have X : Cx p s m meth c G RX4 cX4_quota 7 (some .int) := X
  unfold wpX4_quota at h
  refine a_sub (ks := [0, 1, 2, 3, 4]) (lo' := [(0, .ref (al 200)), (1, .int v1), (2, .int v2), (3, .int v3), (4, .int v4)]) rfl ?_
  refine a_aload_n X dX4_quota_0 rfl 0 rfl ?_
  refine a_iconst (v := 0) X dX4_quota_1 ic_0 ?_
  refine a_putI (k := 0) X fw4 iz_200 rfl flX4_61 rfl rfl dX4_quota_2 (fun M_1 eM_1 => ?_)
  have h := h M_1 eM_1
  refine a_aload_n X dX4_quota_5 rfl 0 rfl ?_
  refine a_iload_n X dX4_quota_6 rfl 1 rfl ?_
  refine a_cVi (As := [.int v1]) (st := []) X fw4 iz_200 (cX4_isStream_ok l h) mlX4_247 mvX4_isStream (rz rfl) (Nat.le_of_ble_eq_true rfl) rfl dX4_quota_7 (fun r_3 M_2 h => ?_)
  refine a_if_eq (tgt := 23) X dX4_quota_10 (by decide) (fun z => ?_) (fun z => ?_)
  · have h := h.1 z
    refine a_aload_n X dX4_quota_23 rfl 0 rfl ?_
    refine a_iconst (v := 1) X dX4_quota_24 ic_1 ?_
    refine a_cVi (As := [.int 1]) (st := []) X fw4 iz_200 (cX4_refused_ok l h) mlX4_179 mvX4_refused (rz rfl) (Nat.le_of_ble_eq_true rfl) rfl dX4_quota_25 (fun r_5 M_4 h => ?_)
    exact a_iret X h dX4_quota_28
  · have h := h.2 z
    refine a_iload X dX4_quota_13 4 rfl ?_
    refine a_iconst (v := 0) X dX4_quota_15 ic_0 ?_
    refine a_iconst (v := 2) X dX4_quota_16 ic_2 ?_
    refine a_cSi (As := [.int v4, .int 0, .int 2]) (st := []) X (cX4_in_ok l h) mlX4_86 msX4_in (rz rfl) (Nat.le_of_ble_eq_true rfl) rfl dX4_quota_17 (fun r_7 M_6 h => ?_)
    refine a_if_ne (tgt := 29) X dX4_quota_20 (by decide) (fun z => ?_) (fun z => ?_)
    · have h := h.1 z
      refine a_iload_n X dX4_quota_29 rfl 3 rfl ?_
      refine a_iconst (v := 1) X dX4_quota_30 ic_1 ?_
      refine a_bipush (v := 100) X dX4_quota_31 bc_100 ?_
      refine a_cSi (As := [.int v3, .int 1, .int 100]) (st := []) X (cX4_in_ok l h) mlX4_86 msX4_in (rz rfl) (Nat.le_of_ble_eq_true rfl) rfl dX4_quota_33 (fun r_9 M_8 h => ?_)
      refine a_if_eq (tgt := 48) X dX4_quota_36 (by decide) (fun z => ?_) (fun z => ?_)
      · have h := h.1 z
        refine a_aload_n X dX4_quota_48 rfl 0 rfl ?_
        refine a_iconst (v := 2) X dX4_quota_49 ic_2 ?_
        refine a_cVi (As := [.int 2]) (st := []) X fw4 iz_200 (cX4_refused_ok l h) mlX4_179 mvX4_refused (rz rfl) (Nat.le_of_ble_eq_true rfl) rfl dX4_quota_50 (fun r_11 M_10 h => ?_)
        exact a_iret X h dX4_quota_53
      · have h := h.2 z
        refine a_iload_n X dX4_quota_39 rfl 2 rfl ?_
        refine a_iconst (v := 0) X dX4_quota_40 ic_0 ?_
        refine a_iload_n X dX4_quota_41 rfl 3 rfl ?_
        refine a_cSi (As := [.int v2, .int 0, .int v3]) (st := []) X (cX4_in_ok l h) mlX4_86 msX4_in (rz rfl) (Nat.le_of_ble_eq_true rfl) rfl dX4_quota_42 (fun r_13 M_12 h => ?_)
        refine a_if_ne (tgt := 54) X dX4_quota_45 (by decide) (fun z => ?_) (fun z => ?_)
        · have h := h.1 z
          refine a_aload_n X dX4_quota_54 rfl 0 rfl ?_
          refine a_getR (k := 23) X 24 (b := 224) fw4 iz_200 rfl rfl flX4_43 rfl dX4_quota_55 ?_
          refine a_iload_n X dX4_quota_58 rfl 1 rfl ?_
          refine a_iald X iz_224 h.1 dX4_quota_59 ?_
          have h := h.2
          refine a_if_ne (tgt := 69) X dX4_quota_60 (by decide) (fun z => ?_) (fun z => ?_)
          · have h := h.1 z
            refine a_aload_n X dX4_quota_69 rfl 0 rfl ?_
            refine a_iload_n X dX4_quota_70 rfl 1 rfl ?_
            refine a_iload_n X dX4_quota_71 rfl 2 rfl ?_
            refine a_iload_n X dX4_quota_72 rfl 3 rfl ?_
            refine a_cVi (As := [.int v1, .int v2, .int v3]) (st := []) X fw4 iz_200 (cX4_quotaPlace_ok l h) mlX4_279 mvX4_quotaPlace (rz rfl) (Nat.le_of_ble_eq_true rfl) rfl dX4_quota_73 (fun r_15 M_14 h => ?_)
            refine a_istore (lo' := [(5, .int r_15), (0, .ref (al 200)), (1, .int v1), (2, .int v2), (3, .int v3), (4, .int v4)]) X dX4_quota_76 (by decide) rfl ?_
            refine a_aload_n X dX4_quota_78 rfl 1 rfl ?_
            refine a_iload_n X dX4_quota_79 rfl 2 rfl ?_
            refine a_iload X dX4_quota_80 0 rfl ?_
            refine a_cVi (As := [.int v1, .int r_15]) (st := []) X fw4 iz_200 (cX4_answers_ok l h) mlX4_276 mvX4_answers (rz rfl) (Nat.le_of_ble_eq_true rfl) rfl dX4_quota_82 (fun r_17 M_16 h => ?_)
            refine a_istore (lo' := [(6, .int r_17), (5, .int r_15), (0, .ref (al 200)), (1, .int v1), (2, .int v2), (3, .int v3), (4, .int v4)]) X dX4_quota_85 (by decide) rfl ?_
            refine a_aload_n X dX4_quota_87 rfl 2 rfl ?_
            refine a_iload X dX4_quota_88 6 rfl ?_
            refine a_if_ne (tgt := 109) X dX4_quota_90 (by decide) (fun z => ?_) (fun z => ?_)
            · have h := h.1 z
              refine a_iload X dX4_quota_109 6 rfl ?_
              refine a_iconst (v := 1) X dX4_quota_111 ic_1 ?_
              refine a_icmp_ne (tgt := 122) X dX4_quota_112 (by decide) (fun z => ?_) (fun z => ?_)
              · have h := h.1 z
                refine a_iload X dX4_quota_122 1 rfl ?_
                refine a_cVi (As := [.int r_15]) (st := []) X fw4 iz_200 (cX4_good_ok l h) mlX4_195 mvX4_good (rz rfl) (Nat.le_of_ble_eq_true rfl) rfl dX4_quota_124 (fun r_19 M_18 h => ?_)
                exact a_iret X h dX4_quota_127
              · have h := h.2 z
                refine a_aload_n X dX4_quota_115 rfl 2 rfl ?_
                refine a_getI (k := 31) X fw4 iz_200 rfl flX4_270 rfl dX4_quota_116 ?_
                refine a_goto (tgt := 124) X dX4_quota_119 (by decide) ?_
                refine a_cVi (As := [.int (gI M_16 200 31)]) (st := []) X fw4 iz_200 (cX4_good_ok l h) mlX4_195 mvX4_good (rz rfl) (Nat.le_of_ble_eq_true rfl) rfl dX4_quota_124 (fun r_21 M_20 h => ?_)
                exact a_iret X h dX4_quota_127
            · have h := h.2 z
              refine a_aload_n X dX4_quota_93 rfl 2 rfl ?_
              refine a_getR (k := 19) X 20 (b := 220) fw4 iz_200 rfl rfl flX4_31 rfl dX4_quota_94 ?_
              refine a_sipush (v := 1000) X dX4_quota_97 sc_1000 ?_
              refine a_iload_n X dX4_quota_100 rfl 3 rfl ?_
              refine a_imul X dX4_quota_101 ?_
              refine a_iload X dX4_quota_102 0 rfl ?_
              refine a_iadd X dX4_quota_104 ?_
              refine a_iald X iz_220 h.1 dX4_quota_105 ?_
              have h := h.2
              refine a_goto (tgt := 124) X dX4_quota_106 (by decide) ?_
              refine a_cVi (As := [.int (gI M_16 220 (Int32.toNatClampNeg ((1000 * v1) + r_17)))]) (st := []) X fw4 iz_200 (cX4_good_ok l h) mlX4_195 mvX4_good (rz rfl) (Nat.le_of_ble_eq_true rfl) rfl dX4_quota_124 (fun r_23 M_22 h => ?_)
              exact a_iret X h dX4_quota_127
          · have h := h.2 z
            refine a_aload_n X dX4_quota_63 rfl 0 rfl ?_
            refine a_iconst (v := 5) X dX4_quota_64 ic_5 ?_
            refine a_cVi (As := [.int 5]) (st := []) X fw4 iz_200 (cX4_refused_ok l h) mlX4_179 mvX4_refused (rz rfl) (Nat.le_of_ble_eq_true rfl) rfl dX4_quota_65 (fun r_25 M_24 h => ?_)
            exact a_iret X h dX4_quota_68
        · have h := h.2 z
          refine a_aload_n X dX4_quota_48 rfl 0 rfl ?_
          refine a_iconst (v := 2) X dX4_quota_49 ic_2 ?_
          refine a_cVi (As := [.int 2]) (st := []) X fw4 iz_200 (cX4_refused_ok l h) mlX4_179 mvX4_refused (rz rfl) (Nat.le_of_ble_eq_true rfl) rfl dX4_quota_50 (fun r_27 M_26 h => ?_)
          exact a_iret X h dX4_quota_53
    · have h := h.2 z
      refine a_aload_n X dX4_quota_23 rfl 0 rfl ?_
      refine a_iconst (v := 1) X dX4_quota_24 ic_1 ?_
      refine a_cVi (As := [.int 1]) (st := []) X fw4 iz_200 (cX4_refused_ok l h) mlX4_179 mvX4_refused (rz rfl) (Nat.le_of_ble_eq_true rfl) rfl dX4_quota_25 (fun r_29 M_28 h => ?_)
      exact a_iret X h dX4_quota_28
abbrev rm_X4_isValue : Room := { frames := 1, cells := 0, slots := 0, locals := 22 }
def wpX4_isValue (M : Mem) (v0 : Int32) (Q : Int32 → Mem → Prop) : Prop := wpX4_in M v0 0 999 (fun r_2 M_1 => ((r_2 = 0 ∨ r_2 = 1) ∧ Q r_2 M_1))
set_option maxHeartbeats 4000000 in
set_option maxRecDepth 100000 in
theorem cX4_isValue_ok (l : Launch) {G : Gl} {al : Nat → Nat} {mk : Nat} {M : Mem} {v0 : Int32} {Q : Int32 → Mem → Prop} (h : wpX4_isValue M v0 Q) : Kv l yX4_isValue cX4_isValue 1 (some .boolean) rm_X4_isValue G al mk M [.int v0] (QI G al mk Q) := by
  refine a_head (by decide) (Nat.le_of_ble_eq_true rfl) (fun p e s m below meth c X => ?_)
  have X : Cx p s m meth c G RX4 cX4_isValue 1 (some .boolean) := X
  unfold wpX4_isValue at h
  refine a_sub (ks := [0]) (lo' := [(0, .int v0)]) rfl ?_
  refine a_iload_n X dX4_isValue_0 rfl 0 rfl ?_
  refine a_iconst (v := 0) X dX4_isValue_1 ic_0 ?_
  refine a_sipush (v := 999) X dX4_isValue_2 sc_999 ?_
  refine a_cSi (As := [.int v0, .int 0, .int 999]) (st := []) X (cX4_in_ok l h) mlX4_86 msX4_in (rz rfl) (Nat.le_of_ble_eq_true rfl) rfl dX4_isValue_5 (fun r_2 M_1 h => ?_)
  exact a_zret X h.1 h.2 dX4_isValue_8
abbrev rm_X4_rank : Room := { frames := 4, cells := 0, slots := 0, locals := 92 }
def wpX4_rank (M : Mem) (v1 : Int32) (v2 : Int32) (v3 : Int32) (Q : Int32 → Mem → Prop) : Prop := (∀ M_1 : Mem, M_1 = pI M 200 0 0 → wpX4_isStream M_1 v1 (fun r_3 M_2 => ((¬ r_3 = 0 → wpX4_isValue M_2 v2 (fun r_5 M_4 => ((¬ r_5 = 0 → ((v3 = 0 → wpX4_sure M_4 v1 v2 (fun r_7 M_6 => wpX4_good M_6 r_7 (fun r_9 M_8 => Q r_9 M_8))) ∧ (¬ v3 = 0 → wpX4_atMost M_4 v1 v2 (fun r_11 M_10 => wpX4_good M_10 r_11 (fun r_13 M_12 => Q r_13 M_12))))) ∧ (r_5 = 0 → wpX4_refused M_4 2 (fun r_15 M_14 => Q r_15 M_14))))) ∧ (r_3 = 0 → wpX4_refused M_2 1 (fun r_17 M_16 => Q r_17 M_16)))))
set_option maxHeartbeats 4000000 in
set_option maxRecDepth 100000 in
theorem cX4_rank_ok (l : Launch) {G : Gl} {al : Nat → Nat} {mk : Nat} {M : Mem} {v1 : Int32} {v2 : Int32} {v3 : Int32} {Q : Int32 → Mem → Prop} (h : wpX4_rank M v1 v2 v3 Q) : Kv l yX4_rank cX4_rank 4 (some .int) rm_X4_rank G al mk M [.ref (al 200), .int v1, .int v2, .int v3] (QI G al mk Q) := by
  refine a_head (by decide) (Nat.le_of_ble_eq_true rfl) (fun p e s m below meth c X => ?_)
  have X : Cx p s m meth c G RX4 cX4_rank 4 (some .int) := X
  unfold wpX4_rank at h
  refine a_sub (ks := [0, 1, 2, 3]) (lo' := [(0, .ref (al 200)), (1, .int v1), (2, .int v2), (3, .int v3)]) rfl ?_
  refine a_aload_n X dX4_rank_0 rfl 0 rfl ?_
  refine a_iconst (v := 0) X dX4_rank_1 ic_0 ?_
  refine a_putI (k := 0) X fw4 iz_200 rfl flX4_61 rfl rfl dX4_rank_2 (fun M_1 eM_1 => ?_)
  have h := h M_1 eM_1
  refine a_aload_n X dX4_rank_5 rfl 0 rfl ?_
  refine a_iload_n X dX4_rank_6 rfl 1 rfl ?_
  refine a_cVi (As := [.int v1]) (st := []) X fw4 iz_200 (cX4_isStream_ok l h) mlX4_247 mvX4_isStream (rz rfl) (Nat.le_of_ble_eq_true rfl) rfl dX4_rank_7 (fun r_3 M_2 h => ?_)
  refine a_if_ne (tgt := 19) X dX4_rank_10 (by decide) (fun z => ?_) (fun z => ?_)
  · have h := h.1 z
    refine a_iload_n X dX4_rank_19 rfl 2 rfl ?_
    refine a_cSi (As := [.int v2]) (st := []) X (cX4_isValue_ok l h) mlX4_304 msX4_isValue (rz rfl) (Nat.le_of_ble_eq_true rfl) rfl dX4_rank_20 (fun r_5 M_4 h => ?_)
    refine a_if_ne (tgt := 32) X dX4_rank_23 (by decide) (fun z => ?_) (fun z => ?_)
    · have h := h.1 z
      refine a_aload_n X dX4_rank_32 rfl 0 rfl ?_
      refine a_iload_n X dX4_rank_33 rfl 3 rfl ?_
      refine a_if_eq (tgt := 46) X dX4_rank_34 (by decide) (fun z => ?_) (fun z => ?_)
      · have h := h.1 z
        refine a_aload_n X dX4_rank_46 rfl 0 rfl ?_
        refine a_iload_n X dX4_rank_47 rfl 1 rfl ?_
        refine a_iload_n X dX4_rank_48 rfl 2 rfl ?_
        refine a_cVi (As := [.int v1, .int v2]) (st := [.ref (al 200)]) X fw4 iz_200 (cX4_sure_ok l h) mlX4_288 mvX4_sure (rz rfl) (Nat.le_of_ble_eq_true rfl) rfl dX4_rank_49 (fun r_7 M_6 h => ?_)
        refine a_cVi (As := [.int r_7]) (st := []) X fw4 iz_200 (cX4_good_ok l h) mlX4_195 mvX4_good (rz rfl) (Nat.le_of_ble_eq_true rfl) rfl dX4_rank_52 (fun r_9 M_8 h => ?_)
        exact a_iret X h dX4_rank_55
      · have h := h.2 z
        refine a_aload_n X dX4_rank_37 rfl 0 rfl ?_
        refine a_iload_n X dX4_rank_38 rfl 1 rfl ?_
        refine a_iload_n X dX4_rank_39 rfl 2 rfl ?_
        refine a_cVi (As := [.int v1, .int v2]) (st := [.ref (al 200)]) X fw4 iz_200 (cX4_atMost_ok l h) mlX4_285 mvX4_atMost (rz rfl) (Nat.le_of_ble_eq_true rfl) rfl dX4_rank_40 (fun r_11 M_10 h => ?_)
        refine a_goto (tgt := 52) X dX4_rank_43 (by decide) ?_
        refine a_cVi (As := [.int r_11]) (st := []) X fw4 iz_200 (cX4_good_ok l h) mlX4_195 mvX4_good (rz rfl) (Nat.le_of_ble_eq_true rfl) rfl dX4_rank_52 (fun r_13 M_12 h => ?_)
        exact a_iret X h dX4_rank_55
    · have h := h.2 z
      refine a_aload_n X dX4_rank_26 rfl 0 rfl ?_
      refine a_iconst (v := 2) X dX4_rank_27 ic_2 ?_
      refine a_cVi (As := [.int 2]) (st := []) X fw4 iz_200 (cX4_refused_ok l h) mlX4_179 mvX4_refused (rz rfl) (Nat.le_of_ble_eq_true rfl) rfl dX4_rank_28 (fun r_15 M_14 h => ?_)
      exact a_iret X h dX4_rank_31
  · have h := h.2 z
    refine a_aload_n X dX4_rank_13 rfl 0 rfl ?_
    refine a_iconst (v := 1) X dX4_rank_14 ic_1 ?_
    refine a_cVi (As := [.int 1]) (st := []) X fw4 iz_200 (cX4_refused_ok l h) mlX4_179 mvX4_refused (rz rfl) (Nat.le_of_ble_eq_true rfl) rfl dX4_rank_15 (fun r_17 M_16 h => ?_)
    exact a_iret X h dX4_rank_18
abbrev rm_X4_leastFrom : Room := { frames := 4, cells := 0, slots := 0, locals := 92 }
def wpX4_leastFrom (M : Mem) (v1 : Int32) (v2 : Int32) (v3 : Int32) (Q : Int32 → Mem → Prop) : Prop := wpX4_sure M v1 v3 (fun r_2 M_1 => ((¬ v2 = 0 → wpX4_atMost M_1 v1 (v2 - 1) (fun r_4 M_3 => Q (r_2 - r_4) M_3)) ∧ (v2 = 0 → Q (r_2 - 0) M_1)))
set_option maxHeartbeats 4000000 in
set_option maxRecDepth 100000 in
theorem cX4_leastFrom_ok (l : Launch) {G : Gl} {al : Nat → Nat} {mk : Nat} {M : Mem} {v1 : Int32} {v2 : Int32} {v3 : Int32} {Q : Int32 → Mem → Prop} (h : wpX4_leastFrom M v1 v2 v3 Q) : Kv l yX4_leastFrom cX4_leastFrom 4 (some .int) rm_X4_leastFrom G al mk M [.ref (al 200), .int v1, .int v2, .int v3] (QI G al mk Q) := by
  refine a_head (by decide) (Nat.le_of_ble_eq_true rfl) (fun p e s m below meth c X => ?_)
  have X : Cx p s m meth c G RX4 cX4_leastFrom 4 (some .int) := X
  unfold wpX4_leastFrom at h
  refine a_sub (ks := [0, 1, 2, 3]) (lo' := [(0, .ref (al 200)), (1, .int v1), (2, .int v2), (3, .int v3)]) rfl ?_
  refine a_aload_n X dX4_leastFrom_0 rfl 0 rfl ?_
  refine a_iload_n X dX4_leastFrom_1 rfl 1 rfl ?_
  refine a_iload_n X dX4_leastFrom_2 rfl 3 rfl ?_
  refine a_cVi (As := [.int v1, .int v3]) (st := []) X fw4 iz_200 (cX4_sure_ok l h) mlX4_288 mvX4_sure (rz rfl) (Nat.le_of_ble_eq_true rfl) rfl dX4_leastFrom_3 (fun r_2 M_1 h => ?_)
  refine a_iload_n X dX4_leastFrom_6 rfl 2 rfl ?_
  refine a_if_ne (tgt := 14) X dX4_leastFrom_7 (by decide) (fun z => ?_) (fun z => ?_)
  · have h := h.1 z
    refine a_aload_n X dX4_leastFrom_14 rfl 0 rfl ?_
    refine a_iload_n X dX4_leastFrom_15 rfl 1 rfl ?_
    refine a_iload_n X dX4_leastFrom_16 rfl 2 rfl ?_
    refine a_iconst (v := 1) X dX4_leastFrom_17 ic_1 ?_
    refine a_isub X dX4_leastFrom_18 ?_
    refine a_cVi (As := [.int v1, .int (v2 - 1)]) (st := [.int r_2]) X fw4 iz_200 (cX4_atMost_ok l h) mlX4_285 mvX4_atMost (rz rfl) (Nat.le_of_ble_eq_true rfl) rfl dX4_leastFrom_19 (fun r_4 M_3 h => ?_)
    refine a_isub X dX4_leastFrom_22 ?_
    exact a_iret X h dX4_leastFrom_23
  · have h := h.2 z
    refine a_iconst (v := 0) X dX4_leastFrom_10 ic_0 ?_
    refine a_goto (tgt := 22) X dX4_leastFrom_11 (by decide) ?_
    refine a_isub X dX4_leastFrom_22 ?_
    exact a_iret X h dX4_leastFrom_23
abbrev rm_X4_between : Room := { frames := 5, cells := 0, slots := 0, locals := 115 }
def wpX4_between (M : Mem) (v1 : Int32) (v2 : Int32) (v3 : Int32) (v4 : Int32) (Q : Int32 → Mem → Prop) : Prop := (∀ M_1 : Mem, M_1 = pI M 200 0 0 → wpX4_isStream M_1 v1 (fun r_3 M_2 => ((¬ r_3 = 0 → wpX4_isValue M_2 v2 (fun r_5 M_4 => ((r_5 = 0 → wpX4_refused M_4 2 (fun r_7 M_6 => Q r_7 M_6)) ∧ (¬ r_5 = 0 → wpX4_isValue M_4 v3 (fun r_9 M_8 => ((r_9 = 0 → wpX4_refused M_8 2 (fun r_11 M_10 => Q r_11 M_10)) ∧ (¬ r_9 = 0 → ((v2 ≤ v3 → ((v4 = 0 → wpX4_leastFrom M_8 v1 v2 v3 (fun r_13 M_12 => ((0 ≤ r_13 → wpX4_good M_12 r_13 (fun r_15 M_14 => Q r_15 M_14)) ∧ (¬ 0 ≤ r_13 → wpX4_good M_12 0 (fun r_17 M_16 => Q r_17 M_16))))) ∧ (¬ v4 = 0 → wpX4_atMost M_8 v1 v3 (fun r_19 M_18 => ((¬ v2 = 0 → wpX4_sure M_18 v1 (v2 - 1) (fun r_21 M_20 => wpX4_good M_20 (r_19 - r_21) (fun r_23 M_22 => Q r_23 M_22))) ∧ (v2 = 0 → wpX4_good M_18 (r_19 - 0) (fun r_25 M_24 => Q r_25 M_24))))))) ∧ (¬ v2 ≤ v3 → wpX4_refused M_8 2 (fun r_27 M_26 => Q r_27 M_26)))))))))) ∧ (r_3 = 0 → wpX4_refused M_2 1 (fun r_29 M_28 => Q r_29 M_28)))))
set_option maxHeartbeats 4000000 in
set_option maxRecDepth 100000 in
theorem cX4_between_ok (l : Launch) {G : Gl} {al : Nat → Nat} {mk : Nat} {M : Mem} {v1 : Int32} {v2 : Int32} {v3 : Int32} {v4 : Int32} {Q : Int32 → Mem → Prop} (h : wpX4_between M v1 v2 v3 v4 Q) : Kv l yX4_between cX4_between 6 (some .int) rm_X4_between G al mk M [.ref (al 200), .int v1, .int v2, .int v3, .int v4] (QI G al mk Q) := by
  refine a_head (by decide) (Nat.le_of_ble_eq_true rfl) (fun p e s m below meth c X => ?_)
  have X : Cx p s m meth c G RX4 cX4_between 6 (some .int) := X
  unfold wpX4_between at h
  refine a_sub (ks := [0, 1, 2, 3, 4]) (lo' := [(0, .ref (al 200)), (1, .int v1), (2, .int v2), (3, .int v3), (4, .int v4)]) rfl ?_
  refine a_aload_n X dX4_between_0 rfl 0 rfl ?_
  refine a_iconst (v := 0) X dX4_between_1 ic_0 ?_
  refine a_putI (k := 0) X fw4 iz_200 rfl flX4_61 rfl rfl dX4_between_2 (fun M_1 eM_1 => ?_)
  have h := h M_1 eM_1
  refine a_aload_n X dX4_between_5 rfl 0 rfl ?_
  refine a_iload_n X dX4_between_6 rfl 1 rfl ?_
  refine a_cVi (As := [.int v1]) (st := []) X fw4 iz_200 (cX4_isStream_ok l h) mlX4_247 mvX4_isStream (rz rfl) (Nat.le_of_ble_eq_true rfl) rfl dX4_between_7 (fun r_3 M_2 h => ?_)
  refine a_if_ne (tgt := 19) X dX4_between_10 (by decide) (fun z => ?_) (fun z => ?_)
  · have h := h.1 z
    refine a_iload_n X dX4_between_19 rfl 2 rfl ?_
    refine a_cSi (As := [.int v2]) (st := []) X (cX4_isValue_ok l h) mlX4_304 msX4_isValue (rz rfl) (Nat.le_of_ble_eq_true rfl) rfl dX4_between_20 (fun r_5 M_4 h => ?_)
    refine a_if_eq (tgt := 38) X dX4_between_23 (by decide) (fun z => ?_) (fun z => ?_)
    · have h := h.1 z
      refine a_aload_n X dX4_between_38 rfl 0 rfl ?_
      refine a_iconst (v := 2) X dX4_between_39 ic_2 ?_
      refine a_cVi (As := [.int 2]) (st := []) X fw4 iz_200 (cX4_refused_ok l h) mlX4_179 mvX4_refused (rz rfl) (Nat.le_of_ble_eq_true rfl) rfl dX4_between_40 (fun r_7 M_6 h => ?_)
      exact a_iret X h dX4_between_43
    · have h := h.2 z
      refine a_iload_n X dX4_between_26 rfl 3 rfl ?_
      refine a_cSi (As := [.int v3]) (st := []) X (cX4_isValue_ok l h) mlX4_304 msX4_isValue (rz rfl) (Nat.le_of_ble_eq_true rfl) rfl dX4_between_27 (fun r_9 M_8 h => ?_)
      refine a_if_eq (tgt := 38) X dX4_between_30 (by decide) (fun z => ?_) (fun z => ?_)
      · have h := h.1 z
        refine a_aload_n X dX4_between_38 rfl 0 rfl ?_
        refine a_iconst (v := 2) X dX4_between_39 ic_2 ?_
        refine a_cVi (As := [.int 2]) (st := []) X fw4 iz_200 (cX4_refused_ok l h) mlX4_179 mvX4_refused (rz rfl) (Nat.le_of_ble_eq_true rfl) rfl dX4_between_40 (fun r_11 M_10 h => ?_)
        exact a_iret X h dX4_between_43
      · have h := h.2 z
        refine a_iload_n X dX4_between_33 rfl 3 rfl ?_
        refine a_iload_n X dX4_between_34 rfl 2 rfl ?_
        refine a_icmp_ge (tgt := 44) X dX4_between_35 (by decide) (fun z => ?_) (fun z => ?_)
        · have h := h.1 z
          refine a_iload X dX4_between_44 4 rfl ?_
          refine a_if_eq (tgt := 77) X dX4_between_46 (by decide) (fun z => ?_) (fun z => ?_)
          · have h := h.1 z
            refine a_aload_n X dX4_between_77 rfl 0 rfl ?_
            refine a_iload_n X dX4_between_78 rfl 1 rfl ?_
            refine a_iload_n X dX4_between_79 rfl 2 rfl ?_
            refine a_iload_n X dX4_between_80 rfl 3 rfl ?_
            refine a_cVi (As := [.int v1, .int v2, .int v3]) (st := []) X fw4 iz_200 (cX4_leastFrom_ok l h) mlX4_307 mvX4_leastFrom (rz rfl) (Nat.le_of_ble_eq_true rfl) rfl dX4_between_81 (fun r_13 M_12 h => ?_)
            refine a_istore (lo' := [(5, .int r_13), (0, .ref (al 200)), (1, .int v1), (2, .int v2), (3, .int v3), (4, .int v4)]) X dX4_between_84 (by decide) rfl ?_
            refine a_aload_n X dX4_between_86 rfl 1 rfl ?_
            refine a_iload X dX4_between_87 0 rfl ?_
            refine a_if_ge (tgt := 96) X dX4_between_89 (by decide) (fun z => ?_) (fun z => ?_)
            · have h := h.1 z
              refine a_iload X dX4_between_96 0 rfl ?_
              refine a_cVi (As := [.int r_13]) (st := []) X fw4 iz_200 (cX4_good_ok l h) mlX4_195 mvX4_good (rz rfl) (Nat.le_of_ble_eq_true rfl) rfl dX4_between_98 (fun r_15 M_14 h => ?_)
              exact a_iret X h dX4_between_101
            · have h := h.2 z
              refine a_iconst (v := 0) X dX4_between_92 ic_0 ?_
              refine a_goto (tgt := 98) X dX4_between_93 (by decide) ?_
              refine a_cVi (As := [.int 0]) (st := []) X fw4 iz_200 (cX4_good_ok l h) mlX4_195 mvX4_good (rz rfl) (Nat.le_of_ble_eq_true rfl) rfl dX4_between_98 (fun r_17 M_16 h => ?_)
              exact a_iret X h dX4_between_101
          · have h := h.2 z
            refine a_aload_n X dX4_between_49 rfl 0 rfl ?_
            refine a_aload_n X dX4_between_50 rfl 0 rfl ?_
            refine a_iload_n X dX4_between_51 rfl 1 rfl ?_
            refine a_iload_n X dX4_between_52 rfl 3 rfl ?_
            refine a_cVi (As := [.int v1, .int v3]) (st := [.ref (al 200)]) X fw4 iz_200 (cX4_atMost_ok l h) mlX4_285 mvX4_atMost (rz rfl) (Nat.le_of_ble_eq_true rfl) rfl dX4_between_53 (fun r_19 M_18 h => ?_)
            refine a_iload_n X dX4_between_56 rfl 2 rfl ?_
            refine a_if_ne (tgt := 64) X dX4_between_57 (by decide) (fun z => ?_) (fun z => ?_)
            · have h := h.1 z
              refine a_aload_n X dX4_between_64 rfl 0 rfl ?_
              refine a_iload_n X dX4_between_65 rfl 1 rfl ?_
              refine a_iload_n X dX4_between_66 rfl 2 rfl ?_
              refine a_iconst (v := 1) X dX4_between_67 ic_1 ?_
              refine a_isub X dX4_between_68 ?_
              refine a_cVi (As := [.int v1, .int (v2 - 1)]) (st := [.int r_19, .ref (al 200)]) X fw4 iz_200 (cX4_sure_ok l h) mlX4_288 mvX4_sure (rz rfl) (Nat.le_of_ble_eq_true rfl) rfl dX4_between_69 (fun r_21 M_20 h => ?_)
              refine a_isub X dX4_between_72 ?_
              refine a_cVi (As := [.int (r_19 - r_21)]) (st := []) X fw4 iz_200 (cX4_good_ok l h) mlX4_195 mvX4_good (rz rfl) (Nat.le_of_ble_eq_true rfl) rfl dX4_between_73 (fun r_23 M_22 h => ?_)
              exact a_iret X h dX4_between_76
            · have h := h.2 z
              refine a_iconst (v := 0) X dX4_between_60 ic_0 ?_
              refine a_goto (tgt := 72) X dX4_between_61 (by decide) ?_
              refine a_isub X dX4_between_72 ?_
              refine a_cVi (As := [.int (r_19 - 0)]) (st := []) X fw4 iz_200 (cX4_good_ok l h) mlX4_195 mvX4_good (rz rfl) (Nat.le_of_ble_eq_true rfl) rfl dX4_between_73 (fun r_25 M_24 h => ?_)
              exact a_iret X h dX4_between_76
        · have h := h.2 z
          refine a_aload_n X dX4_between_38 rfl 0 rfl ?_
          refine a_iconst (v := 2) X dX4_between_39 ic_2 ?_
          refine a_cVi (As := [.int 2]) (st := []) X fw4 iz_200 (cX4_refused_ok l h) mlX4_179 mvX4_refused (rz rfl) (Nat.le_of_ble_eq_true rfl) rfl dX4_between_40 (fun r_27 M_26 h => ?_)
          exact a_iret X h dX4_between_43
  · have h := h.2 z
    refine a_aload_n X dX4_between_13 rfl 0 rfl ?_
    refine a_iconst (v := 1) X dX4_between_14 ic_1 ?_
    refine a_cVi (As := [.int 1]) (st := []) X fw4 iz_200 (cX4_refused_ok l h) mlX4_179 mvX4_refused (rz rfl) (Nat.le_of_ble_eq_true rfl) rfl dX4_between_15 (fun r_29 M_28 h => ?_)
    exact a_iret X h dX4_between_18
abbrev rm_X4_exact : Room := { frames := 2, cells := 0, slots := 0, locals := 43 }
def wX4_exact_23 (Q : Int32 → Mem → Prop) (v1 : Int32) : Nat → Mem → Int32 → Int32 → Prop
  | 0, _, _, _ => False
  | n + 1, M, v2, v3 => (vp_in v1 6 ∧ (((gI M 224 (Int32.toNatClampNeg v1)) < v3 → wpX4_good M v2 (fun r_5 M_4 => Q r_5 M_4)) ∧ (¬ (gI M 224 (Int32.toNatClampNeg v1)) < v3 → wpX4_answers M v1 v3 (fun r_7 M_6 => ((r_7 = (-1) → (∀ x_8 : Int32, x_8 = (v2 + 0) → wX4_exact_23 Q v1 n M_6 x_8 (v3 + 1))) ∧ (¬ r_7 = (-1) → ((¬ (gI M_6 200 31) = 0 → (∀ x_9 : Int32, x_9 = (v2 + 0) → wX4_exact_23 Q v1 n M_6 x_9 (v3 + 1))) ∧ ((gI M_6 200 31) = 0 → (∀ x_10 : Int32, x_10 = (v2 + 1) → wX4_exact_23 Q v1 n M_6 x_10 (v3 + 1))))))))))
def wpX4_exact (M : Mem) (v1 : Int32) (Q : Int32 → Mem → Prop) : Prop := (∀ M_1 : Mem, M_1 = pI M 200 0 0 → wpX4_isStream M_1 v1 (fun r_3 M_2 => ((¬ r_3 = 0 → ∃ n, wX4_exact_23 Q v1 n M_2 0 1) ∧ (r_3 = 0 → wpX4_refused M_2 1 (fun r_12 M_11 => Q r_12 M_11)))))
set_option maxHeartbeats 4000000 in
set_option maxRecDepth 100000 in
theorem tX4_exact_23 (X : Cx p s m meth c G RX4 cX4_exact 4 (some .int)) {Q : Int32 → Mem → Prop} {v1 : Int32} : ∀ (n : Nat) (M : Mem) (v2 : Int32) (v3 : Int32), wX4_exact_23 Q v1 n M v2 v3 → Wa p l e rm_X4_exact s m args below meth c 4 G al mk 0 0 (MQ below (QI G al mk Q) args s 0 0 (gA G)) M 23 [(0, .ref (al 200)), (1, .int v1), (2, .int v2), (3, .int v3)] [] := by
  intro n
  induction n with
  | zero =>
    intro M v2 v3 h
    exact False.elim h
  | succ n ih =>
    intro M v2 v3 h
    rw [wX4_exact_23] at h
    refine a_iload_n X dX4_exact_23 rfl 3 rfl ?_
    refine a_aload_n X dX4_exact_24 rfl 0 rfl ?_
    refine a_getR (k := 23) X 24 (b := 224) fw4 iz_200 rfl rfl flX4_43 rfl dX4_exact_25 ?_
    refine a_iload_n X dX4_exact_28 rfl 1 rfl ?_
    refine a_iald X iz_224 h.1 dX4_exact_29 ?_
    have h := h.2
    refine a_icmp_gt (tgt := 64) X dX4_exact_30 (by decide) (fun z => ?_) (fun z => ?_)
    · have h := h.1 z
      refine a_aload_n X dX4_exact_64 rfl 0 rfl ?_
      refine a_iload_n X dX4_exact_65 rfl 2 rfl ?_
      refine a_cVi (As := [.int v2]) (st := []) X fw4 iz_200 (cX4_good_ok l h) mlX4_195 mvX4_good (rz rfl) (Nat.le_of_ble_eq_true rfl) rfl dX4_exact_66 (fun r_5 M_4 h => ?_)
      exact a_iret X h dX4_exact_69
    · have h := h.2 z
      refine a_iload_n X dX4_exact_33 rfl 2 rfl ?_
      refine a_aload_n X dX4_exact_34 rfl 0 rfl ?_
      refine a_iload_n X dX4_exact_35 rfl 1 rfl ?_
      refine a_iload_n X dX4_exact_36 rfl 3 rfl ?_
      refine a_cVi (As := [.int v1, .int v3]) (st := [.int v2]) X fw4 iz_200 (cX4_answers_ok l h) mlX4_276 mvX4_answers (rz rfl) (Nat.le_of_ble_eq_true rfl) rfl dX4_exact_37 (fun r_7 M_6 h => ?_)
      refine a_iconst (v := (-1)) X dX4_exact_40 ic_m1 ?_
      refine a_icmp_eq (tgt := 55) X dX4_exact_41 (by decide) (fun z => ?_) (fun z => ?_)
      · have h := h.1 z
        refine a_iconst (v := 0) X dX4_exact_55 ic_0 ?_
        refine a_iadd X dX4_exact_56 ?_
        refine a_topi (fun x_8 ex_8 => ?_)
        have h := h x_8 ex_8
        refine a_istore_n (lo' := [(2, .int x_8), (0, .ref (al 200)), (1, .int v1), (3, .int v3)]) X dX4_exact_57 rfl (by decide) rfl ?_
        refine a_iinc (v := v3 + 1) (lo' := [(3, .int (v3 + 1)), (2, .int x_8), (0, .ref (al 200)), (1, .int v1)]) X dX4_exact_58 3 rfl (ii_1 _) (by decide) rfl ?_
        refine a_goto (tgt := 23) X dX4_exact_61 (by decide) ?_
        refine a_sub (ks := [2, 3, 1, 0]) (lo' := [(0, .ref (al 200)), (1, .int v1), (2, .int x_8), (3, .int (v3 + 1))]) rfl ?_
        exact ih _ _ _ h
      · have h := h.2 z
        refine a_aload_n X dX4_exact_44 rfl 0 rfl ?_
        refine a_getI (k := 31) X fw4 iz_200 rfl flX4_270 rfl dX4_exact_45 ?_
        refine a_if_ne (tgt := 55) X dX4_exact_48 (by decide) (fun z => ?_) (fun z => ?_)
        · have h := h.1 z
          refine a_iconst (v := 0) X dX4_exact_55 ic_0 ?_
          refine a_iadd X dX4_exact_56 ?_
          refine a_topi (fun x_9 ex_9 => ?_)
          have h := h x_9 ex_9
          refine a_istore_n (lo' := [(2, .int x_9), (0, .ref (al 200)), (1, .int v1), (3, .int v3)]) X dX4_exact_57 rfl (by decide) rfl ?_
          refine a_iinc (v := v3 + 1) (lo' := [(3, .int (v3 + 1)), (2, .int x_9), (0, .ref (al 200)), (1, .int v1)]) X dX4_exact_58 3 rfl (ii_1 _) (by decide) rfl ?_
          refine a_goto (tgt := 23) X dX4_exact_61 (by decide) ?_
          refine a_sub (ks := [2, 3, 1, 0]) (lo' := [(0, .ref (al 200)), (1, .int v1), (2, .int x_9), (3, .int (v3 + 1))]) rfl ?_
          exact ih _ _ _ h
        · have h := h.2 z
          refine a_iconst (v := 1) X dX4_exact_51 ic_1 ?_
          refine a_goto (tgt := 56) X dX4_exact_52 (by decide) ?_
          refine a_iadd X dX4_exact_56 ?_
          refine a_topi (fun x_10 ex_10 => ?_)
          have h := h x_10 ex_10
          refine a_istore_n (lo' := [(2, .int x_10), (0, .ref (al 200)), (1, .int v1), (3, .int v3)]) X dX4_exact_57 rfl (by decide) rfl ?_
          refine a_iinc (v := v3 + 1) (lo' := [(3, .int (v3 + 1)), (2, .int x_10), (0, .ref (al 200)), (1, .int v1)]) X dX4_exact_58 3 rfl (ii_1 _) (by decide) rfl ?_
          refine a_goto (tgt := 23) X dX4_exact_61 (by decide) ?_
          refine a_sub (ks := [2, 3, 1, 0]) (lo' := [(0, .ref (al 200)), (1, .int v1), (2, .int x_10), (3, .int (v3 + 1))]) rfl ?_
          exact ih _ _ _ h
set_option maxHeartbeats 4000000 in
set_option maxRecDepth 100000 in
theorem cX4_exact_ok (l : Launch) {G : Gl} {al : Nat → Nat} {mk : Nat} {M : Mem} {v1 : Int32} {Q : Int32 → Mem → Prop} (h : wpX4_exact M v1 Q) : Kv l yX4_exact cX4_exact 4 (some .int) rm_X4_exact G al mk M [.ref (al 200), .int v1] (QI G al mk Q) := by
  refine a_head (by decide) (Nat.le_of_ble_eq_true rfl) (fun p e s m below meth c X => ?_)
  have X : Cx p s m meth c G RX4 cX4_exact 4 (some .int) := X
  unfold wpX4_exact at h
  refine a_sub (ks := [0, 1]) (lo' := [(0, .ref (al 200)), (1, .int v1)]) rfl ?_
  refine a_aload_n X dX4_exact_0 rfl 0 rfl ?_
  refine a_iconst (v := 0) X dX4_exact_1 ic_0 ?_
  refine a_putI (k := 0) X fw4 iz_200 rfl flX4_61 rfl rfl dX4_exact_2 (fun M_1 eM_1 => ?_)
  have h := h M_1 eM_1
  refine a_aload_n X dX4_exact_5 rfl 0 rfl ?_
  refine a_iload_n X dX4_exact_6 rfl 1 rfl ?_
  refine a_cVi (As := [.int v1]) (st := []) X fw4 iz_200 (cX4_isStream_ok l h) mlX4_247 mvX4_isStream (rz rfl) (Nat.le_of_ble_eq_true rfl) rfl dX4_exact_7 (fun r_3 M_2 h => ?_)
  refine a_if_ne (tgt := 19) X dX4_exact_10 (by decide) (fun z => ?_) (fun z => ?_)
  · have h := h.1 z
    refine a_iconst (v := 0) X dX4_exact_19 ic_0 ?_
    refine a_istore_n (lo' := [(2, .int 0), (0, .ref (al 200)), (1, .int v1)]) X dX4_exact_20 rfl (by decide) rfl ?_
    refine a_iconst (v := 1) X dX4_exact_21 ic_1 ?_
    refine a_istore_n (lo' := [(3, .int 1), (2, .int 0), (0, .ref (al 200)), (1, .int v1)]) X dX4_exact_22 rfl (by decide) rfl ?_
    refine a_sub (ks := [2, 3, 1, 0]) (lo' := [(0, .ref (al 200)), (1, .int v1), (2, .int 0), (3, .int 1)]) rfl ?_
    obtain ⟨n9, h⟩ := h
    exact tX4_exact_23 X n9 _ _ _ h
  · have h := h.2 z
    refine a_aload_n X dX4_exact_13 rfl 0 rfl ?_
    refine a_iconst (v := 1) X dX4_exact_14 ic_1 ?_
    refine a_cVi (As := [.int 1]) (st := []) X fw4 iz_200 (cX4_refused_ok l h) mlX4_179 mvX4_refused (rz rfl) (Nat.le_of_ble_eq_true rfl) rfl dX4_exact_15 (fun r_12 M_11 h => ?_)
    exact a_iret X h dX4_exact_18
abbrev rm_X4_worstOf : Room := { frames := 1, cells := 0, slots := 0, locals := 28 }
def wX4_worstOf_5 (Q : Int32 → Mem → Prop) (v1 : Int32) : Nat → Mem → Int32 → Int32 → Prop
  | 0, _, _, _ => False
  | n + 1, M, v2, v3 => (vp_in v1 6 ∧ (((gI M 224 (Int32.toNatClampNeg v1)) < v3 → Q v2 M) ∧ (¬ (gI M 224 (Int32.toNatClampNeg v1)) < v3 → wpX4_answers M v1 v3 (fun r_2 M_1 => ((r_2 = (-1) → wX4_worstOf_5 Q v1 n M_1 v2 (v3 + 1)) ∧ (¬ r_2 = (-1) → (((gI M_1 200 31) ≤ v2 → wX4_worstOf_5 Q v1 n M_1 v2 (v3 + 1)) ∧ (¬ (gI M_1 200 31) ≤ v2 → (∀ x_3 : Int32, x_3 = (gI M_1 200 31) → wX4_worstOf_5 Q v1 n M_1 x_3 (v3 + 1))))))))))
def wpX4_worstOf (M : Mem) (v1 : Int32) (Q : Int32 → Mem → Prop) : Prop := ∃ n, wX4_worstOf_5 Q v1 n M (-2) 1
set_option maxHeartbeats 4000000 in
set_option maxRecDepth 100000 in
theorem tX4_worstOf_5 (X : Cx p s m meth c G RX4 cX4_worstOf 4 (some .int)) {Q : Int32 → Mem → Prop} {v1 : Int32} : ∀ (n : Nat) (M : Mem) (v2 : Int32) (v3 : Int32), wX4_worstOf_5 Q v1 n M v2 v3 → Wa p l e rm_X4_worstOf s m args below meth c 4 G al mk 0 0 (MQ below (QI G al mk Q) args s 0 0 (gA G)) M 5 [(0, .ref (al 200)), (1, .int v1), (2, .int v2), (3, .int v3)] [] := by
  intro n
  induction n with
  | zero =>
    intro M v2 v3 h
    exact False.elim h
  | succ n ih =>
    intro M v2 v3 h
    rw [wX4_worstOf_5] at h
    refine a_iload_n X dX4_worstOf_5 rfl 3 rfl ?_
    refine a_aload_n X dX4_worstOf_6 rfl 0 rfl ?_
    refine a_getR (k := 23) X 24 (b := 224) fw4 iz_200 rfl rfl flX4_43 rfl dX4_worstOf_7 ?_
    refine a_iload_n X dX4_worstOf_10 rfl 1 rfl ?_
    refine a_iald X iz_224 h.1 dX4_worstOf_11 ?_
    have h := h.2
    refine a_icmp_gt (tgt := 44) X dX4_worstOf_12 (by decide) (fun z => ?_) (fun z => ?_)
    · have h := h.1 z
      refine a_iload_n X dX4_worstOf_44 rfl 2 rfl ?_
      exact a_iret X h dX4_worstOf_45
    · have h := h.2 z
      refine a_aload_n X dX4_worstOf_15 rfl 0 rfl ?_
      refine a_iload_n X dX4_worstOf_16 rfl 1 rfl ?_
      refine a_iload_n X dX4_worstOf_17 rfl 3 rfl ?_
      refine a_cVi (As := [.int v1, .int v3]) (st := []) X fw4 iz_200 (cX4_answers_ok l h) mlX4_276 mvX4_answers (rz rfl) (Nat.le_of_ble_eq_true rfl) rfl dX4_worstOf_18 (fun r_2 M_1 h => ?_)
      refine a_iconst (v := (-1)) X dX4_worstOf_21 ic_m1 ?_
      refine a_icmp_eq (tgt := 38) X dX4_worstOf_22 (by decide) (fun z => ?_) (fun z => ?_)
      · have h := h.1 z
        refine a_iinc (v := v3 + 1) (lo' := [(3, .int (v3 + 1)), (0, .ref (al 200)), (1, .int v1), (2, .int v2)]) X dX4_worstOf_38 3 rfl (ii_1 _) (by decide) rfl ?_
        refine a_goto (tgt := 5) X dX4_worstOf_41 (by decide) ?_
        refine a_sub (ks := [1, 2, 3, 0]) (lo' := [(0, .ref (al 200)), (1, .int v1), (2, .int v2), (3, .int (v3 + 1))]) rfl ?_
        exact ih _ _ _ h
      · have h := h.2 z
        refine a_aload_n X dX4_worstOf_25 rfl 0 rfl ?_
        refine a_getI (k := 31) X fw4 iz_200 rfl flX4_270 rfl dX4_worstOf_26 ?_
        refine a_iload_n X dX4_worstOf_29 rfl 2 rfl ?_
        refine a_icmp_le (tgt := 38) X dX4_worstOf_30 (by decide) (fun z => ?_) (fun z => ?_)
        · have h := h.1 z
          refine a_iinc (v := v3 + 1) (lo' := [(3, .int (v3 + 1)), (0, .ref (al 200)), (1, .int v1), (2, .int v2)]) X dX4_worstOf_38 3 rfl (ii_1 _) (by decide) rfl ?_
          refine a_goto (tgt := 5) X dX4_worstOf_41 (by decide) ?_
          refine a_sub (ks := [1, 2, 3, 0]) (lo' := [(0, .ref (al 200)), (1, .int v1), (2, .int v2), (3, .int (v3 + 1))]) rfl ?_
          exact ih _ _ _ h
        · have h := h.2 z
          refine a_aload_n X dX4_worstOf_33 rfl 0 rfl ?_
          refine a_getI (k := 31) X fw4 iz_200 rfl flX4_270 rfl dX4_worstOf_34 ?_
          refine a_topi (fun x_3 ex_3 => ?_)
          have h := h x_3 ex_3
          refine a_istore_n (lo' := [(2, .int x_3), (0, .ref (al 200)), (1, .int v1), (3, .int v3)]) X dX4_worstOf_37 rfl (by decide) rfl ?_
          refine a_iinc (v := v3 + 1) (lo' := [(3, .int (v3 + 1)), (2, .int x_3), (0, .ref (al 200)), (1, .int v1)]) X dX4_worstOf_38 3 rfl (ii_1 _) (by decide) rfl ?_
          refine a_goto (tgt := 5) X dX4_worstOf_41 (by decide) ?_
          refine a_sub (ks := [2, 3, 1, 0]) (lo' := [(0, .ref (al 200)), (1, .int v1), (2, .int x_3), (3, .int (v3 + 1))]) rfl ?_
          exact ih _ _ _ h
set_option maxHeartbeats 4000000 in
set_option maxRecDepth 100000 in
theorem cX4_worstOf_ok (l : Launch) {G : Gl} {al : Nat → Nat} {mk : Nat} {M : Mem} {v1 : Int32} {Q : Int32 → Mem → Prop} (h : wpX4_worstOf M v1 Q) : Kv l yX4_worstOf cX4_worstOf 4 (some .int) rm_X4_worstOf G al mk M [.ref (al 200), .int v1] (QI G al mk Q) := by
  refine a_head (by decide) (Nat.le_of_ble_eq_true rfl) (fun p e s m below meth c X => ?_)
  have X : Cx p s m meth c G RX4 cX4_worstOf 4 (some .int) := X
  unfold wpX4_worstOf at h
  refine a_sub (ks := [0, 1]) (lo' := [(0, .ref (al 200)), (1, .int v1)]) rfl ?_
  refine a_bipush (v := (-2)) X dX4_worstOf_0 bc_m2 ?_
  refine a_istore_n (lo' := [(2, .int (-2)), (0, .ref (al 200)), (1, .int v1)]) X dX4_worstOf_2 rfl (by decide) rfl ?_
  refine a_iconst (v := 1) X dX4_worstOf_3 ic_1 ?_
  refine a_istore_n (lo' := [(3, .int 1), (2, .int (-2)), (0, .ref (al 200)), (1, .int v1)]) X dX4_worstOf_4 rfl (by decide) rfl ?_
  refine a_sub (ks := [2, 3, 1, 0]) (lo' := [(0, .ref (al 200)), (1, .int v1), (2, .int (-2)), (3, .int 1)]) rfl ?_
  obtain ⟨n9, h⟩ := h
  exact tX4_worstOf_5 X n9 _ _ _ h
abbrev rm_X4_worst : Room := { frames := 2, cells := 0, slots := 0, locals := 51 }
def wpX4_worst (M : Mem) (v1 : Int32) (Q : Int32 → Mem → Prop) : Prop := (∀ M_1 : Mem, M_1 = pI M 200 0 0 → wpX4_isStream M_1 v1 (fun r_3 M_2 => ((r_3 = 0 → wpX4_refused M_2 1 (fun r_5 M_4 => Q r_5 M_4)) ∧ (¬ r_3 = 0 → wpX4_worstOf M_2 v1 (fun r_7 M_6 => wpX4_good M_6 r_7 (fun r_9 M_8 => Q r_9 M_8))))))
set_option maxHeartbeats 4000000 in
set_option maxRecDepth 100000 in
theorem cX4_worst_ok (l : Launch) {G : Gl} {al : Nat → Nat} {mk : Nat} {M : Mem} {v1 : Int32} {Q : Int32 → Mem → Prop} (h : wpX4_worst M v1 Q) : Kv l yX4_worst cX4_worst 2 (some .int) rm_X4_worst G al mk M [.ref (al 200), .int v1] (QI G al mk Q) := by
  refine a_head (by decide) (Nat.le_of_ble_eq_true rfl) (fun p e s m below meth c X => ?_)
  have X : Cx p s m meth c G RX4 cX4_worst 2 (some .int) := X
  unfold wpX4_worst at h
  refine a_sub (ks := [0, 1]) (lo' := [(0, .ref (al 200)), (1, .int v1)]) rfl ?_
  refine a_aload_n X dX4_worst_0 rfl 0 rfl ?_
  refine a_iconst (v := 0) X dX4_worst_1 ic_0 ?_
  refine a_putI (k := 0) X fw4 iz_200 rfl flX4_61 rfl rfl dX4_worst_2 (fun M_1 eM_1 => ?_)
  have h := h M_1 eM_1
  refine a_aload_n X dX4_worst_5 rfl 0 rfl ?_
  refine a_iload_n X dX4_worst_6 rfl 1 rfl ?_
  refine a_cVi (As := [.int v1]) (st := []) X fw4 iz_200 (cX4_isStream_ok l h) mlX4_247 mvX4_isStream (rz rfl) (Nat.le_of_ble_eq_true rfl) rfl dX4_worst_7 (fun r_3 M_2 h => ?_)
  refine a_if_eq (tgt := 25) X dX4_worst_10 (by decide) (fun z => ?_) (fun z => ?_)
  · have h := h.1 z
    refine a_aload_n X dX4_worst_25 rfl 0 rfl ?_
    refine a_iconst (v := 1) X dX4_worst_26 ic_1 ?_
    refine a_cVi (As := [.int 1]) (st := []) X fw4 iz_200 (cX4_refused_ok l h) mlX4_179 mvX4_refused (rz rfl) (Nat.le_of_ble_eq_true rfl) rfl dX4_worst_27 (fun r_5 M_4 h => ?_)
    exact a_iret X h dX4_worst_30
  · have h := h.2 z
    refine a_aload_n X dX4_worst_13 rfl 0 rfl ?_
    refine a_aload_n X dX4_worst_14 rfl 0 rfl ?_
    refine a_iload_n X dX4_worst_15 rfl 1 rfl ?_
    refine a_cVi (As := [.int v1]) (st := [.ref (al 200)]) X fw4 iz_200 (cX4_worstOf_ok l h) mlX4_310 mvX4_worstOf (rz rfl) (Nat.le_of_ble_eq_true rfl) rfl dX4_worst_16 (fun r_7 M_6 h => ?_)
    refine a_cVi (As := [.int r_7]) (st := []) X fw4 iz_200 (cX4_good_ok l h) mlX4_195 mvX4_good (rz rfl) (Nat.le_of_ble_eq_true rfl) rfl dX4_worst_19 (fun r_9 M_8 h => ?_)
    refine a_goto (tgt := 30) X dX4_worst_22 (by decide) ?_
    exact a_iret X h dX4_worst_30
abbrev rm_X4_bounds : Room := { frames := 2, cells := 0, slots := 0, locals := 44 }
def wpX4_bounds (M : Mem) (v1 : Int32) (v2 : Int32) (v3 : Int32) (Q : Int32 → Mem → Prop) : Prop := (∀ M_1 : Mem, M_1 = pI M 200 0 0 → wpX4_isStream M_1 v1 (fun r_3 M_2 => ((r_3 = 0 → wpX4_refused M_2 1 (fun r_5 M_4 => Q r_5 M_4)) ∧ (¬ r_3 = 0 → wpX4_in M_2 v3 0 1 (fun r_7 M_6 => ((¬ r_7 = 0 → wpX4_isPlace M_6 v1 v2 (fun r_9 M_8 => ((¬ r_9 = 0 → ((¬ v3 = 0 → wpX4_ceilingOf M_8 v1 v2 (fun r_11 M_10 => wpX4_good M_10 r_11 (fun r_13 M_12 => Q r_13 M_12))) ∧ (v3 = 0 → wpX4_floorOf M_8 v1 v2 (fun r_15 M_14 => wpX4_good M_14 r_15 (fun r_17 M_16 => Q r_17 M_16))))) ∧ (r_9 = 0 → wpX4_refused M_8 2 (fun r_19 M_18 => Q r_19 M_18))))) ∧ (r_7 = 0 → wpX4_refused M_6 1 (fun r_21 M_20 => Q r_21 M_20))))))))
set_option maxHeartbeats 4000000 in
set_option maxRecDepth 100000 in
theorem cX4_bounds_ok (l : Launch) {G : Gl} {al : Nat → Nat} {mk : Nat} {M : Mem} {v1 : Int32} {v2 : Int32} {v3 : Int32} {Q : Int32 → Mem → Prop} (h : wpX4_bounds M v1 v2 v3 Q) : Kv l yX4_bounds cX4_bounds 4 (some .int) rm_X4_bounds G al mk M [.ref (al 200), .int v1, .int v2, .int v3] (QI G al mk Q) := by
  refine a_head (by decide) (Nat.le_of_ble_eq_true rfl) (fun p e s m below meth c X => ?_)
  have X : Cx p s m meth c G RX4 cX4_bounds 4 (some .int) := X
  unfold wpX4_bounds at h
  refine a_sub (ks := [0, 1, 2, 3]) (lo' := [(0, .ref (al 200)), (1, .int v1), (2, .int v2), (3, .int v3)]) rfl ?_
  refine a_aload_n X dX4_bounds_0 rfl 0 rfl ?_
  refine a_iconst (v := 0) X dX4_bounds_1 ic_0 ?_
  refine a_putI (k := 0) X fw4 iz_200 rfl flX4_61 rfl rfl dX4_bounds_2 (fun M_1 eM_1 => ?_)
  have h := h M_1 eM_1
  refine a_aload_n X dX4_bounds_5 rfl 0 rfl ?_
  refine a_iload_n X dX4_bounds_6 rfl 1 rfl ?_
  refine a_cVi (As := [.int v1]) (st := []) X fw4 iz_200 (cX4_isStream_ok l h) mlX4_247 mvX4_isStream (rz rfl) (Nat.le_of_ble_eq_true rfl) rfl dX4_bounds_7 (fun r_3 M_2 h => ?_)
  refine a_if_eq (tgt := 22) X dX4_bounds_10 (by decide) (fun z => ?_) (fun z => ?_)
  · have h := h.1 z
    refine a_aload_n X dX4_bounds_22 rfl 0 rfl ?_
    refine a_iconst (v := 1) X dX4_bounds_23 ic_1 ?_
    refine a_cVi (As := [.int 1]) (st := []) X fw4 iz_200 (cX4_refused_ok l h) mlX4_179 mvX4_refused (rz rfl) (Nat.le_of_ble_eq_true rfl) rfl dX4_bounds_24 (fun r_5 M_4 h => ?_)
    exact a_iret X h dX4_bounds_27
  · have h := h.2 z
    refine a_iload_n X dX4_bounds_13 rfl 3 rfl ?_
    refine a_iconst (v := 0) X dX4_bounds_14 ic_0 ?_
    refine a_iconst (v := 1) X dX4_bounds_15 ic_1 ?_
    refine a_cSi (As := [.int v3, .int 0, .int 1]) (st := []) X (cX4_in_ok l h) mlX4_86 msX4_in (rz rfl) (Nat.le_of_ble_eq_true rfl) rfl dX4_bounds_16 (fun r_7 M_6 h => ?_)
    refine a_if_ne (tgt := 28) X dX4_bounds_19 (by decide) (fun z => ?_) (fun z => ?_)
    · have h := h.1 z
      refine a_aload_n X dX4_bounds_28 rfl 0 rfl ?_
      refine a_iload_n X dX4_bounds_29 rfl 1 rfl ?_
      refine a_iload_n X dX4_bounds_30 rfl 2 rfl ?_
      refine a_cVi (As := [.int v1, .int v2]) (st := []) X fw4 iz_200 (cX4_isPlace_ok l h) mlX4_273 mvX4_isPlace (rz rfl) (Nat.le_of_ble_eq_true rfl) rfl dX4_bounds_31 (fun r_9 M_8 h => ?_)
      refine a_if_ne (tgt := 43) X dX4_bounds_34 (by decide) (fun z => ?_) (fun z => ?_)
      · have h := h.1 z
        refine a_aload_n X dX4_bounds_43 rfl 0 rfl ?_
        refine a_iload_n X dX4_bounds_44 rfl 3 rfl ?_
        refine a_if_ne (tgt := 57) X dX4_bounds_45 (by decide) (fun z => ?_) (fun z => ?_)
        · have h := h.1 z
          refine a_aload_n X dX4_bounds_57 rfl 0 rfl ?_
          refine a_iload_n X dX4_bounds_58 rfl 1 rfl ?_
          refine a_iload_n X dX4_bounds_59 rfl 2 rfl ?_
          refine a_cVi (As := [.int v1, .int v2]) (st := [.ref (al 200)]) X fw4 iz_200 (cX4_ceilingOf_ok l h) mlX4_298 mvX4_ceilingOf (rz rfl) (Nat.le_of_ble_eq_true rfl) rfl dX4_bounds_60 (fun r_11 M_10 h => ?_)
          refine a_cVi (As := [.int r_11]) (st := []) X fw4 iz_200 (cX4_good_ok l h) mlX4_195 mvX4_good (rz rfl) (Nat.le_of_ble_eq_true rfl) rfl dX4_bounds_63 (fun r_13 M_12 h => ?_)
          exact a_iret X h dX4_bounds_66
        · have h := h.2 z
          refine a_aload_n X dX4_bounds_48 rfl 0 rfl ?_
          refine a_iload_n X dX4_bounds_49 rfl 1 rfl ?_
          refine a_iload_n X dX4_bounds_50 rfl 2 rfl ?_
          refine a_cVi (As := [.int v1, .int v2]) (st := [.ref (al 200)]) X fw4 iz_200 (cX4_floorOf_ok l h) mlX4_301 mvX4_floorOf (rz rfl) (Nat.le_of_ble_eq_true rfl) rfl dX4_bounds_51 (fun r_15 M_14 h => ?_)
          refine a_goto (tgt := 63) X dX4_bounds_54 (by decide) ?_
          refine a_cVi (As := [.int r_15]) (st := []) X fw4 iz_200 (cX4_good_ok l h) mlX4_195 mvX4_good (rz rfl) (Nat.le_of_ble_eq_true rfl) rfl dX4_bounds_63 (fun r_17 M_16 h => ?_)
          exact a_iret X h dX4_bounds_66
      · have h := h.2 z
        refine a_aload_n X dX4_bounds_37 rfl 0 rfl ?_
        refine a_iconst (v := 2) X dX4_bounds_38 ic_2 ?_
        refine a_cVi (As := [.int 2]) (st := []) X fw4 iz_200 (cX4_refused_ok l h) mlX4_179 mvX4_refused (rz rfl) (Nat.le_of_ble_eq_true rfl) rfl dX4_bounds_39 (fun r_19 M_18 h => ?_)
        exact a_iret X h dX4_bounds_42
    · have h := h.2 z
      refine a_aload_n X dX4_bounds_22 rfl 0 rfl ?_
      refine a_iconst (v := 1) X dX4_bounds_23 ic_1 ?_
      refine a_cVi (As := [.int 1]) (st := []) X fw4 iz_200 (cX4_refused_ok l h) mlX4_179 mvX4_refused (rz rfl) (Nat.le_of_ble_eq_true rfl) rfl dX4_bounds_24 (fun r_21 M_20 h => ?_)
      exact a_iret X h dX4_bounds_27
abbrev rm_X4_total : Room := { frames := 2, cells := 0, slots := 0, locals := 43 }
def wX4_total_24 (Q : Int32 → Mem → Prop) (v1 : Int32) (v2 : Int32) : Nat → Mem → Int32 → Int32 → Prop
  | 0, _, _, _ => False
  | n + 1, M, v3, v4 => (vp_in v1 6 ∧ (((gI M 224 (Int32.toNatClampNeg v1)) < v4 → wpX4_good M v3 (fun r_5 M_4 => Q r_5 M_4)) ∧ (¬ (gI M 224 (Int32.toNatClampNeg v1)) < v4 → ((v2 = 0 → wpX4_floorOf M v1 v4 (fun r_7 M_6 => (∀ x_8 : Int32, x_8 = (v3 + r_7) → wX4_total_24 Q v1 v2 n M_6 x_8 (v4 + 1)))) ∧ (¬ v2 = 0 → wpX4_ceilingOf M v1 v4 (fun r_10 M_9 => (∀ x_11 : Int32, x_11 = (v3 + r_10) → wX4_total_24 Q v1 v2 n M_9 x_11 (v4 + 1))))))))
def wpX4_total (M : Mem) (v1 : Int32) (v2 : Int32) (Q : Int32 → Mem → Prop) : Prop := (∀ M_1 : Mem, M_1 = pI M 200 0 0 → wpX4_isStream M_1 v1 (fun r_3 M_2 => ((¬ r_3 = 0 → ∃ n, wX4_total_24 Q v1 v2 n M_2 0 1) ∧ (r_3 = 0 → wpX4_refused M_2 1 (fun r_13 M_12 => Q r_13 M_12)))))
set_option maxHeartbeats 4000000 in
set_option maxRecDepth 100000 in
theorem tX4_total_24 (X : Cx p s m meth c G RX4 cX4_total 5 (some .int)) {Q : Int32 → Mem → Prop} {v1 : Int32} {v2 : Int32} : ∀ (n : Nat) (M : Mem) (v3 : Int32) (v4 : Int32), wX4_total_24 Q v1 v2 n M v3 v4 → Wa p l e rm_X4_total s m args below meth c 5 G al mk 0 0 (MQ below (QI G al mk Q) args s 0 0 (gA G)) M 24 [(0, .ref (al 200)), (1, .int v1), (2, .int v2), (3, .int v3), (4, .int v4)] [] := by
  intro n
  induction n with
  | zero =>
    intro M v3 v4 h
    exact False.elim h
  | succ n ih =>
    intro M v3 v4 h
    rw [wX4_total_24] at h
    refine a_iload X dX4_total_24 4 rfl ?_
    refine a_aload_n X dX4_total_26 rfl 0 rfl ?_
    refine a_getR (k := 23) X 24 (b := 224) fw4 iz_200 rfl rfl flX4_43 rfl dX4_total_27 ?_
    refine a_iload_n X dX4_total_30 rfl 1 rfl ?_
    refine a_iald X iz_224 h.1 dX4_total_31 ?_
    have h := h.2
    refine a_icmp_gt (tgt := 65) X dX4_total_32 (by decide) (fun z => ?_) (fun z => ?_)
    · have h := h.1 z
      refine a_aload_n X dX4_total_65 rfl 0 rfl ?_
      refine a_iload_n X dX4_total_66 rfl 3 rfl ?_
      refine a_cVi (As := [.int v3]) (st := []) X fw4 iz_200 (cX4_good_ok l h) mlX4_195 mvX4_good (rz rfl) (Nat.le_of_ble_eq_true rfl) rfl dX4_total_67 (fun r_5 M_4 h => ?_)
      exact a_iret X h dX4_total_70
    · have h := h.2 z
      refine a_iload_n X dX4_total_35 rfl 3 rfl ?_
      refine a_iload_n X dX4_total_36 rfl 2 rfl ?_
      refine a_if_eq (tgt := 50) X dX4_total_37 (by decide) (fun z => ?_) (fun z => ?_)
      · have h := h.1 z
        refine a_aload_n X dX4_total_50 rfl 0 rfl ?_
        refine a_iload_n X dX4_total_51 rfl 1 rfl ?_
        refine a_iload X dX4_total_52 4 rfl ?_
        refine a_cVi (As := [.int v1, .int v4]) (st := [.int v3]) X fw4 iz_200 (cX4_floorOf_ok l h) mlX4_301 mvX4_floorOf (rz rfl) (Nat.le_of_ble_eq_true rfl) rfl dX4_total_54 (fun r_7 M_6 h => ?_)
        refine a_iadd X dX4_total_57 ?_
        refine a_topi (fun x_8 ex_8 => ?_)
        have h := h x_8 ex_8
        refine a_istore_n (lo' := [(3, .int x_8), (0, .ref (al 200)), (1, .int v1), (2, .int v2), (4, .int v4)]) X dX4_total_58 rfl (by decide) rfl ?_
        refine a_iinc (v := v4 + 1) (lo' := [(4, .int (v4 + 1)), (3, .int x_8), (0, .ref (al 200)), (1, .int v1), (2, .int v2)]) X dX4_total_59 4 rfl (ii_1 _) (by decide) rfl ?_
        refine a_goto (tgt := 24) X dX4_total_62 (by decide) ?_
        refine a_sub (ks := [2, 3, 4, 1, 0]) (lo' := [(0, .ref (al 200)), (1, .int v1), (2, .int v2), (3, .int x_8), (4, .int (v4 + 1))]) rfl ?_
        exact ih _ _ _ h
      · have h := h.2 z
        refine a_aload_n X dX4_total_40 rfl 0 rfl ?_
        refine a_iload_n X dX4_total_41 rfl 1 rfl ?_
        refine a_iload X dX4_total_42 4 rfl ?_
        refine a_cVi (As := [.int v1, .int v4]) (st := [.int v3]) X fw4 iz_200 (cX4_ceilingOf_ok l h) mlX4_298 mvX4_ceilingOf (rz rfl) (Nat.le_of_ble_eq_true rfl) rfl dX4_total_44 (fun r_10 M_9 h => ?_)
        refine a_goto (tgt := 57) X dX4_total_47 (by decide) ?_
        refine a_iadd X dX4_total_57 ?_
        refine a_topi (fun x_11 ex_11 => ?_)
        have h := h x_11 ex_11
        refine a_istore_n (lo' := [(3, .int x_11), (0, .ref (al 200)), (1, .int v1), (2, .int v2), (4, .int v4)]) X dX4_total_58 rfl (by decide) rfl ?_
        refine a_iinc (v := v4 + 1) (lo' := [(4, .int (v4 + 1)), (3, .int x_11), (0, .ref (al 200)), (1, .int v1), (2, .int v2)]) X dX4_total_59 4 rfl (ii_1 _) (by decide) rfl ?_
        refine a_goto (tgt := 24) X dX4_total_62 (by decide) ?_
        refine a_sub (ks := [2, 3, 4, 1, 0]) (lo' := [(0, .ref (al 200)), (1, .int v1), (2, .int v2), (3, .int x_11), (4, .int (v4 + 1))]) rfl ?_
        exact ih _ _ _ h
set_option maxHeartbeats 4000000 in
set_option maxRecDepth 100000 in
theorem cX4_total_ok (l : Launch) {G : Gl} {al : Nat → Nat} {mk : Nat} {M : Mem} {v1 : Int32} {v2 : Int32} {Q : Int32 → Mem → Prop} (h : wpX4_total M v1 v2 Q) : Kv l yX4_total cX4_total 5 (some .int) rm_X4_total G al mk M [.ref (al 200), .int v1, .int v2] (QI G al mk Q) := by
  refine a_head (by decide) (Nat.le_of_ble_eq_true rfl) (fun p e s m below meth c X => ?_)
  have X : Cx p s m meth c G RX4 cX4_total 5 (some .int) := X
  unfold wpX4_total at h
  refine a_sub (ks := [0, 1, 2]) (lo' := [(0, .ref (al 200)), (1, .int v1), (2, .int v2)]) rfl ?_
  refine a_aload_n X dX4_total_0 rfl 0 rfl ?_
  refine a_iconst (v := 0) X dX4_total_1 ic_0 ?_
  refine a_putI (k := 0) X fw4 iz_200 rfl flX4_61 rfl rfl dX4_total_2 (fun M_1 eM_1 => ?_)
  have h := h M_1 eM_1
  refine a_aload_n X dX4_total_5 rfl 0 rfl ?_
  refine a_iload_n X dX4_total_6 rfl 1 rfl ?_
  refine a_cVi (As := [.int v1]) (st := []) X fw4 iz_200 (cX4_isStream_ok l h) mlX4_247 mvX4_isStream (rz rfl) (Nat.le_of_ble_eq_true rfl) rfl dX4_total_7 (fun r_3 M_2 h => ?_)
  refine a_if_ne (tgt := 19) X dX4_total_10 (by decide) (fun z => ?_) (fun z => ?_)
  · have h := h.1 z
    refine a_iconst (v := 0) X dX4_total_19 ic_0 ?_
    refine a_istore_n (lo' := [(3, .int 0), (0, .ref (al 200)), (1, .int v1), (2, .int v2)]) X dX4_total_20 rfl (by decide) rfl ?_
    refine a_iconst (v := 1) X dX4_total_21 ic_1 ?_
    refine a_istore (lo' := [(4, .int 1), (3, .int 0), (0, .ref (al 200)), (1, .int v1), (2, .int v2)]) X dX4_total_22 (by decide) rfl ?_
    refine a_sub (ks := [2, 3, 4, 1, 0]) (lo' := [(0, .ref (al 200)), (1, .int v1), (2, .int v2), (3, .int 0), (4, .int 1)]) rfl ?_
    obtain ⟨n9, h⟩ := h
    exact tX4_total_24 X n9 _ _ _ h
  · have h := h.2 z
    refine a_aload_n X dX4_total_13 rfl 0 rfl ?_
    refine a_iconst (v := 1) X dX4_total_14 ic_1 ?_
    refine a_cVi (As := [.int 1]) (st := []) X fw4 iz_200 (cX4_refused_ok l h) mlX4_179 mvX4_refused (rz rfl) (Nat.le_of_ble_eq_true rfl) rfl dX4_total_15 (fun r_13 M_12 h => ?_)
    exact a_iret X h dX4_total_18
abbrev rm_X4_below : Room := { frames := 0, cells := 0, slots := 0, locals := 0 }
def wX4_below_5 (Q : Int32 → Mem → Prop) (v1 : Int32) (v2 : Int32) : Nat → Mem → Int32 → Int32 → Prop
  | 0, _, _, _ => False
  | n + 1, M, v3, v4 => ((v2 ≤ v4 → Q v3 M) ∧ (¬ v2 ≤ v4 → (vp_in ((1000 * v1) + v4) 4000 ∧ (∀ x_1 : Int32, x_1 = (v3 + (gI M 228 (Int32.toNatClampNeg ((1000 * v1) + v4)))) → wX4_below_5 Q v1 v2 n M x_1 (v4 + 1)))))
def wpX4_below (M : Mem) (v1 : Int32) (v2 : Int32) (Q : Int32 → Mem → Prop) : Prop := ∃ n, wX4_below_5 Q v1 v2 n M 0 0
set_option maxHeartbeats 4000000 in
set_option maxRecDepth 100000 in
theorem tX4_below_5 (X : Cx p s m meth c G RX4 cX4_below 5 (some .int)) {Q : Int32 → Mem → Prop} {v1 : Int32} {v2 : Int32} : ∀ (n : Nat) (M : Mem) (v3 : Int32) (v4 : Int32), wX4_below_5 Q v1 v2 n M v3 v4 → Wa p l e rm_X4_below s m args below meth c 5 G al mk 0 0 (MQ below (QI G al mk Q) args s 0 0 (gA G)) M 5 [(0, .ref (al 200)), (1, .int v1), (2, .int v2), (3, .int v3), (4, .int v4)] [] := by
  intro n
  induction n with
  | zero =>
    intro M v3 v4 h
    exact False.elim h
  | succ n ih =>
    intro M v3 v4 h
    rw [wX4_below_5] at h
    refine a_iload X dX4_below_5 4 rfl ?_
    refine a_iload_n X dX4_below_7 rfl 2 rfl ?_
    refine a_icmp_ge (tgt := 33) X dX4_below_8 (by decide) (fun z => ?_) (fun z => ?_)
    · have h := h.1 z
      refine a_iload_n X dX4_below_33 rfl 3 rfl ?_
      exact a_iret X h dX4_below_34
    · have h := h.2 z
      refine a_iload_n X dX4_below_11 rfl 3 rfl ?_
      refine a_aload_n X dX4_below_12 rfl 0 rfl ?_
      refine a_getR (k := 27) X 28 (b := 228) fw4 iz_200 rfl rfl flX4_55 rfl dX4_below_13 ?_
      refine a_sipush (v := 1000) X dX4_below_16 sc_1000 ?_
      refine a_iload_n X dX4_below_19 rfl 1 rfl ?_
      refine a_imul X dX4_below_20 ?_
      refine a_iload X dX4_below_21 4 rfl ?_
      refine a_iadd X dX4_below_23 ?_
      refine a_iald X iz_228 h.1 dX4_below_24 ?_
      have h := h.2
      refine a_iadd X dX4_below_25 ?_
      refine a_topi (fun x_1 ex_1 => ?_)
      have h := h x_1 ex_1
      refine a_istore_n (lo' := [(3, .int x_1), (0, .ref (al 200)), (1, .int v1), (2, .int v2), (4, .int v4)]) X dX4_below_26 rfl (by decide) rfl ?_
      refine a_iinc (v := v4 + 1) (lo' := [(4, .int (v4 + 1)), (3, .int x_1), (0, .ref (al 200)), (1, .int v1), (2, .int v2)]) X dX4_below_27 4 rfl (ii_1 _) (by decide) rfl ?_
      refine a_goto (tgt := 5) X dX4_below_30 (by decide) ?_
      refine a_sub (ks := [2, 3, 4, 1, 0]) (lo' := [(0, .ref (al 200)), (1, .int v1), (2, .int v2), (3, .int x_1), (4, .int (v4 + 1))]) rfl ?_
      exact ih _ _ _ h
set_option maxHeartbeats 4000000 in
set_option maxRecDepth 100000 in
theorem cX4_below_ok (l : Launch) {G : Gl} {al : Nat → Nat} {mk : Nat} {M : Mem} {v1 : Int32} {v2 : Int32} {Q : Int32 → Mem → Prop} (h : wpX4_below M v1 v2 Q) : Kv l yX4_below cX4_below 5 (some .int) rm_X4_below G al mk M [.ref (al 200), .int v1, .int v2] (QI G al mk Q) := by
  refine a_head (by decide) (Nat.le_of_ble_eq_true rfl) (fun p e s m below meth c X => ?_)
  have X : Cx p s m meth c G RX4 cX4_below 5 (some .int) := X
  unfold wpX4_below at h
  refine a_sub (ks := [0, 1, 2]) (lo' := [(0, .ref (al 200)), (1, .int v1), (2, .int v2)]) rfl ?_
  refine a_iconst (v := 0) X dX4_below_0 ic_0 ?_
  refine a_istore_n (lo' := [(3, .int 0), (0, .ref (al 200)), (1, .int v1), (2, .int v2)]) X dX4_below_1 rfl (by decide) rfl ?_
  refine a_iconst (v := 0) X dX4_below_2 ic_0 ?_
  refine a_istore (lo' := [(4, .int 0), (3, .int 0), (0, .ref (al 200)), (1, .int v1), (2, .int v2)]) X dX4_below_3 (by decide) rfl ?_
  refine a_sub (ks := [2, 3, 4, 1, 0]) (lo' := [(0, .ref (al 200)), (1, .int v1), (2, .int v2), (3, .int 0), (4, .int 0)]) rfl ?_
  obtain ⟨n9, h⟩ := h
  exact tX4_below_5 X n9 _ _ _ h
abbrev rm_X4_sorted : Room := { frames := 2, cells := 0, slots := 0, locals := 44 }
def wX4_sorted_48 (Q : Int32 → Mem → Prop) (v1 : Int32) (v2 : Int32) : Nat → Mem → Int32 → Int32 → Prop
  | 0, _, _, _ => False
  | n + 1, M, v3, v4 => ((v2 ≤ v4 → wpX4_good M v3 (fun r_8 M_7 => Q r_8 M_7)) ∧ (¬ v2 ≤ v4 → (vp_in ((1000 * v1) + (v3 + 1)) 4000 ∧ (∀ x_9 : Int32, x_9 = (v4 + (gI M 228 (Int32.toNatClampNeg ((1000 * v1) + (v3 + 1))))) → wX4_sorted_48 Q v1 v2 n M (v3 + 1) x_9))))
def wpX4_sorted (M : Mem) (v1 : Int32) (v2 : Int32) (Q : Int32 → Mem → Prop) : Prop := (∀ M_1 : Mem, M_1 = pI M 200 0 0 → wpX4_isStream M_1 v1 (fun r_3 M_2 => ((¬ r_3 = 0 → wpX4_isPlace M_2 v1 v2 (fun r_5 M_4 => ((¬ r_5 = 0 → (vp_in (1000 * v1) 4000 ∧ (∀ x_6 : Int32, x_6 = (gI M_4 228 (Int32.toNatClampNeg (1000 * v1))) → ∃ n, wX4_sorted_48 Q v1 v2 n M_4 0 x_6))) ∧ (r_5 = 0 → wpX4_refused M_4 2 (fun r_11 M_10 => Q r_11 M_10))))) ∧ (r_3 = 0 → wpX4_refused M_2 1 (fun r_13 M_12 => Q r_13 M_12)))))
set_option maxHeartbeats 4000000 in
set_option maxRecDepth 100000 in
theorem tX4_sorted_48 (X : Cx p s m meth c G RX4 cX4_sorted 5 (some .int)) {Q : Int32 → Mem → Prop} {v1 : Int32} {v2 : Int32} : ∀ (n : Nat) (M : Mem) (v3 : Int32) (v4 : Int32), wX4_sorted_48 Q v1 v2 n M v3 v4 → Wa p l e rm_X4_sorted s m args below meth c 5 G al mk 0 0 (MQ below (QI G al mk Q) args s 0 0 (gA G)) M 48 [(0, .ref (al 200)), (1, .int v1), (2, .int v2), (3, .int v3), (4, .int v4)] [] := by
  intro n
  induction n with
  | zero =>
    intro M v3 v4 h
    exact False.elim h
  | succ n ih =>
    intro M v3 v4 h
    rw [wX4_sorted_48] at h
    refine a_iload X dX4_sorted_48 4 rfl ?_
    refine a_iload_n X dX4_sorted_50 rfl 2 rfl ?_
    refine a_icmp_ge (tgt := 77) X dX4_sorted_51 (by decide) (fun z => ?_) (fun z => ?_)
    · have h := h.1 z
      refine a_aload_n X dX4_sorted_77 rfl 0 rfl ?_
      refine a_iload_n X dX4_sorted_78 rfl 3 rfl ?_
      refine a_cVi (As := [.int v3]) (st := []) X fw4 iz_200 (cX4_good_ok l h) mlX4_195 mvX4_good (rz rfl) (Nat.le_of_ble_eq_true rfl) rfl dX4_sorted_79 (fun r_8 M_7 h => ?_)
      exact a_iret X h dX4_sorted_82
    · have h := h.2 z
      refine a_iinc (v := v3 + 1) (lo' := [(3, .int (v3 + 1)), (0, .ref (al 200)), (1, .int v1), (2, .int v2), (4, .int v4)]) X dX4_sorted_54 3 rfl (ii_1 _) (by decide) rfl ?_
      refine a_iload X dX4_sorted_57 4 rfl ?_
      refine a_aload_n X dX4_sorted_59 rfl 1 rfl ?_
      refine a_getR (k := 27) X 28 (b := 228) fw4 iz_200 rfl rfl flX4_55 rfl dX4_sorted_60 ?_
      refine a_sipush (v := 1000) X dX4_sorted_63 sc_1000 ?_
      refine a_iload_n X dX4_sorted_66 rfl 2 rfl ?_
      refine a_imul X dX4_sorted_67 ?_
      refine a_iload_n X dX4_sorted_68 rfl 0 rfl ?_
      refine a_iadd X dX4_sorted_69 ?_
      refine a_iald X iz_228 h.1 dX4_sorted_70 ?_
      have h := h.2
      refine a_iadd X dX4_sorted_71 ?_
      refine a_topi (fun x_9 ex_9 => ?_)
      have h := h x_9 ex_9
      refine a_istore (lo' := [(4, .int x_9), (3, .int (v3 + 1)), (0, .ref (al 200)), (1, .int v1), (2, .int v2)]) X dX4_sorted_72 (by decide) rfl ?_
      refine a_goto (tgt := 48) X dX4_sorted_74 (by decide) ?_
      refine a_sub (ks := [2, 3, 4, 1, 0]) (lo' := [(0, .ref (al 200)), (1, .int v1), (2, .int v2), (3, .int (v3 + 1)), (4, .int x_9)]) rfl ?_
      exact ih _ _ _ h
set_option maxHeartbeats 4000000 in
set_option maxRecDepth 100000 in
theorem cX4_sorted_ok (l : Launch) {G : Gl} {al : Nat → Nat} {mk : Nat} {M : Mem} {v1 : Int32} {v2 : Int32} {Q : Int32 → Mem → Prop} (h : wpX4_sorted M v1 v2 Q) : Kv l yX4_sorted cX4_sorted 5 (some .int) rm_X4_sorted G al mk M [.ref (al 200), .int v1, .int v2] (QI G al mk Q) := by
  refine a_head (by decide) (Nat.le_of_ble_eq_true rfl) (fun p e s m below meth c X => ?_)
  have X : Cx p s m meth c G RX4 cX4_sorted 5 (some .int) := X
  unfold wpX4_sorted at h
  refine a_sub (ks := [0, 1, 2]) (lo' := [(0, .ref (al 200)), (1, .int v1), (2, .int v2)]) rfl ?_
  refine a_aload_n X dX4_sorted_0 rfl 0 rfl ?_
  refine a_iconst (v := 0) X dX4_sorted_1 ic_0 ?_
  refine a_putI (k := 0) X fw4 iz_200 rfl flX4_61 rfl rfl dX4_sorted_2 (fun M_1 eM_1 => ?_)
  have h := h M_1 eM_1
  refine a_aload_n X dX4_sorted_5 rfl 0 rfl ?_
  refine a_iload_n X dX4_sorted_6 rfl 1 rfl ?_
  refine a_cVi (As := [.int v1]) (st := []) X fw4 iz_200 (cX4_isStream_ok l h) mlX4_247 mvX4_isStream (rz rfl) (Nat.le_of_ble_eq_true rfl) rfl dX4_sorted_7 (fun r_3 M_2 h => ?_)
  refine a_if_ne (tgt := 19) X dX4_sorted_10 (by decide) (fun z => ?_) (fun z => ?_)
  · have h := h.1 z
    refine a_aload_n X dX4_sorted_19 rfl 0 rfl ?_
    refine a_iload_n X dX4_sorted_20 rfl 1 rfl ?_
    refine a_iload_n X dX4_sorted_21 rfl 2 rfl ?_
    refine a_cVi (As := [.int v1, .int v2]) (st := []) X fw4 iz_200 (cX4_isPlace_ok l h) mlX4_273 mvX4_isPlace (rz rfl) (Nat.le_of_ble_eq_true rfl) rfl dX4_sorted_22 (fun r_5 M_4 h => ?_)
    refine a_if_ne (tgt := 34) X dX4_sorted_25 (by decide) (fun z => ?_) (fun z => ?_)
    · have h := h.1 z
      refine a_iconst (v := 0) X dX4_sorted_34 ic_0 ?_
      refine a_istore_n (lo' := [(3, .int 0), (0, .ref (al 200)), (1, .int v1), (2, .int v2)]) X dX4_sorted_35 rfl (by decide) rfl ?_
      refine a_aload_n X dX4_sorted_36 rfl 1 rfl ?_
      refine a_getR (k := 27) X 28 (b := 228) fw4 iz_200 rfl rfl flX4_55 rfl dX4_sorted_37 ?_
      refine a_sipush (v := 1000) X dX4_sorted_40 sc_1000 ?_
      refine a_iload_n X dX4_sorted_43 rfl 2 rfl ?_
      refine a_imul X dX4_sorted_44 ?_
      refine a_iald X iz_228 h.1 dX4_sorted_45 ?_
      have h := h.2
      refine a_topi (fun x_6 ex_6 => ?_)
      have h := h x_6 ex_6
      refine a_istore (lo' := [(4, .int x_6), (3, .int 0), (0, .ref (al 200)), (1, .int v1), (2, .int v2)]) X dX4_sorted_46 (by decide) rfl ?_
      refine a_sub (ks := [2, 3, 4, 1, 0]) (lo' := [(0, .ref (al 200)), (1, .int v1), (2, .int v2), (3, .int 0), (4, .int x_6)]) rfl ?_
      obtain ⟨n9, h⟩ := h
      exact tX4_sorted_48 X n9 _ _ _ h
    · have h := h.2 z
      refine a_aload_n X dX4_sorted_28 rfl 0 rfl ?_
      refine a_iconst (v := 2) X dX4_sorted_29 ic_2 ?_
      refine a_cVi (As := [.int 2]) (st := []) X fw4 iz_200 (cX4_refused_ok l h) mlX4_179 mvX4_refused (rz rfl) (Nat.le_of_ble_eq_true rfl) rfl dX4_sorted_30 (fun r_11 M_10 h => ?_)
      exact a_iret X h dX4_sorted_33
  · have h := h.2 z
    refine a_aload_n X dX4_sorted_13 rfl 0 rfl ?_
    refine a_iconst (v := 1) X dX4_sorted_14 ic_1 ?_
    refine a_cVi (As := [.int 1]) (st := []) X fw4 iz_200 (cX4_refused_ok l h) mlX4_179 mvX4_refused (rz rfl) (Nat.le_of_ble_eq_true rfl) rfl dX4_sorted_15 (fun r_13 M_12 h => ?_)
    exact a_iret X h dX4_sorted_18
abbrev rm_X4_times : Room := { frames := 2, cells := 0, slots := 0, locals := 43 }
def wpX4_times (M : Mem) (v1 : Int32) (v2 : Int32) (Q : Int32 → Mem → Prop) : Prop := (∀ M_1 : Mem, M_1 = pI M 200 0 0 → wpX4_isStream M_1 v1 (fun r_3 M_2 => ((¬ r_3 = 0 → wpX4_isValue M_2 v2 (fun r_5 M_4 => ((r_5 = 0 → wpX4_refused M_4 2 (fun r_7 M_6 => Q r_7 M_6)) ∧ (¬ r_5 = 0 → (vp_in ((1000 * v1) + v2) 4000 ∧ wpX4_good M_4 (gI M_4 228 (Int32.toNatClampNeg ((1000 * v1) + v2))) (fun r_9 M_8 => Q r_9 M_8)))))) ∧ (r_3 = 0 → wpX4_refused M_2 1 (fun r_11 M_10 => Q r_11 M_10)))))
set_option maxHeartbeats 4000000 in
set_option maxRecDepth 100000 in
theorem cX4_times_ok (l : Launch) {G : Gl} {al : Nat → Nat} {mk : Nat} {M : Mem} {v1 : Int32} {v2 : Int32} {Q : Int32 → Mem → Prop} (h : wpX4_times M v1 v2 Q) : Kv l yX4_times cX4_times 3 (some .int) rm_X4_times G al mk M [.ref (al 200), .int v1, .int v2] (QI G al mk Q) := by
  refine a_head (by decide) (Nat.le_of_ble_eq_true rfl) (fun p e s m below meth c X => ?_)
  have X : Cx p s m meth c G RX4 cX4_times 3 (some .int) := X
  unfold wpX4_times at h
  refine a_sub (ks := [0, 1, 2]) (lo' := [(0, .ref (al 200)), (1, .int v1), (2, .int v2)]) rfl ?_
  refine a_aload_n X dX4_times_0 rfl 0 rfl ?_
  refine a_iconst (v := 0) X dX4_times_1 ic_0 ?_
  refine a_putI (k := 0) X fw4 iz_200 rfl flX4_61 rfl rfl dX4_times_2 (fun M_1 eM_1 => ?_)
  have h := h M_1 eM_1
  refine a_aload_n X dX4_times_5 rfl 0 rfl ?_
  refine a_iload_n X dX4_times_6 rfl 1 rfl ?_
  refine a_cVi (As := [.int v1]) (st := []) X fw4 iz_200 (cX4_isStream_ok l h) mlX4_247 mvX4_isStream (rz rfl) (Nat.le_of_ble_eq_true rfl) rfl dX4_times_7 (fun r_3 M_2 h => ?_)
  refine a_if_ne (tgt := 19) X dX4_times_10 (by decide) (fun z => ?_) (fun z => ?_)
  · have h := h.1 z
    refine a_iload_n X dX4_times_19 rfl 2 rfl ?_
    refine a_cSi (As := [.int v2]) (st := []) X (cX4_isValue_ok l h) mlX4_304 msX4_isValue (rz rfl) (Nat.le_of_ble_eq_true rfl) rfl dX4_times_20 (fun r_5 M_4 h => ?_)
    refine a_if_eq (tgt := 45) X dX4_times_23 (by decide) (fun z => ?_) (fun z => ?_)
    · have h := h.1 z
      refine a_aload_n X dX4_times_45 rfl 0 rfl ?_
      refine a_iconst (v := 2) X dX4_times_46 ic_2 ?_
      refine a_cVi (As := [.int 2]) (st := []) X fw4 iz_200 (cX4_refused_ok l h) mlX4_179 mvX4_refused (rz rfl) (Nat.le_of_ble_eq_true rfl) rfl dX4_times_47 (fun r_7 M_6 h => ?_)
      exact a_iret X h dX4_times_50
    · have h := h.2 z
      refine a_aload_n X dX4_times_26 rfl 0 rfl ?_
      refine a_aload_n X dX4_times_27 rfl 0 rfl ?_
      refine a_getR (k := 27) X 28 (b := 228) fw4 iz_200 rfl rfl flX4_55 rfl dX4_times_28 ?_
      refine a_sipush (v := 1000) X dX4_times_31 sc_1000 ?_
      refine a_iload_n X dX4_times_34 rfl 1 rfl ?_
      refine a_imul X dX4_times_35 ?_
      refine a_iload_n X dX4_times_36 rfl 2 rfl ?_
      refine a_iadd X dX4_times_37 ?_
      refine a_iald X iz_228 h.1 dX4_times_38 ?_
      have h := h.2
      refine a_cVi (As := [.int (gI M_4 228 (Int32.toNatClampNeg ((1000 * v1) + v2)))]) (st := []) X fw4 iz_200 (cX4_good_ok l h) mlX4_195 mvX4_good (rz rfl) (Nat.le_of_ble_eq_true rfl) rfl dX4_times_39 (fun r_9 M_8 h => ?_)
      refine a_goto (tgt := 50) X dX4_times_42 (by decide) ?_
      exact a_iret X h dX4_times_50
  · have h := h.2 z
    refine a_aload_n X dX4_times_13 rfl 0 rfl ?_
    refine a_iconst (v := 1) X dX4_times_14 ic_1 ?_
    refine a_cVi (As := [.int 1]) (st := []) X fw4 iz_200 (cX4_refused_ok l h) mlX4_179 mvX4_refused (rz rfl) (Nat.le_of_ble_eq_true rfl) rfl dX4_times_15 (fun r_11 M_10 h => ?_)
    exact a_iret X h dX4_times_18
abbrev rm_X4_missOf : Room := { frames := 1, cells := 0, slots := 0, locals := 28 }
def wpX4_missOf (M : Mem) (v1 : Int32) (v2 : Int32) (Q : Int32 → Mem → Prop) : Prop := wpX4_answers M v1 v2 (fun r_2 M_1 => (vp_in ((1000 * v1) + r_2) 6000 ∧ (∀ x_3 : Int32, x_3 = (gI M_1 220 (Int32.toNatClampNeg ((1000 * v1) + r_2))) → wpX4_below M_1 v1 x_3 (fun r_5 M_4 => (∀ x_6 : Int32, x_6 = (r_5 + 1) → (vp_in ((1000 * v1) + x_3) 4000 ∧ (∀ x_7 : Int32, x_7 = ((x_6 + (gI M_4 228 (Int32.toNatClampNeg ((1000 * v1) + x_3)))) - 1) → ((x_6 ≤ v2 → ((v2 ≤ x_7 → Q 0 M_4) ∧ (¬ v2 ≤ x_7 → Q (v2 - x_7) M_4))) ∧ (¬ x_6 ≤ v2 → Q (x_6 - v2) M_4)))))))))
set_option maxHeartbeats 4000000 in
set_option maxRecDepth 100000 in
theorem cX4_missOf_ok (l : Launch) {G : Gl} {al : Nat → Nat} {mk : Nat} {M : Mem} {v1 : Int32} {v2 : Int32} {Q : Int32 → Mem → Prop} (h : wpX4_missOf M v1 v2 Q) : Kv l yX4_missOf cX4_missOf 6 (some .int) rm_X4_missOf G al mk M [.ref (al 200), .int v1, .int v2] (QI G al mk Q) := by
  refine a_head (by decide) (Nat.le_of_ble_eq_true rfl) (fun p e s m below meth c X => ?_)
  have X : Cx p s m meth c G RX4 cX4_missOf 6 (some .int) := X
  unfold wpX4_missOf at h
  refine a_sub (ks := [0, 1, 2]) (lo' := [(0, .ref (al 200)), (1, .int v1), (2, .int v2)]) rfl ?_
  refine a_aload_n X dX4_missOf_0 rfl 0 rfl ?_
  refine a_getR (k := 19) X 20 (b := 220) fw4 iz_200 rfl rfl flX4_31 rfl dX4_missOf_1 ?_
  refine a_sipush (v := 1000) X dX4_missOf_4 sc_1000 ?_
  refine a_iload_n X dX4_missOf_7 rfl 1 rfl ?_
  refine a_imul X dX4_missOf_8 ?_
  refine a_aload_n X dX4_missOf_9 rfl 0 rfl ?_
  refine a_iload_n X dX4_missOf_10 rfl 1 rfl ?_
  refine a_iload_n X dX4_missOf_11 rfl 2 rfl ?_
  refine a_cVi (As := [.int v1, .int v2]) (st := [.int (1000 * v1), .ref (al 220)]) X fw4 iz_200 (cX4_answers_ok l h) mlX4_276 mvX4_answers (rz rfl) (Nat.le_of_ble_eq_true rfl) rfl dX4_missOf_12 (fun r_2 M_1 h => ?_)
  refine a_iadd X dX4_missOf_15 ?_
  refine a_iald X iz_220 h.1 dX4_missOf_16 ?_
  have h := h.2
  refine a_topi (fun x_3 ex_3 => ?_)
  have h := h x_3 ex_3
  refine a_istore_n (lo' := [(3, .int x_3), (0, .ref (al 200)), (1, .int v1), (2, .int v2)]) X dX4_missOf_17 rfl (by decide) rfl ?_
  refine a_aload_n X dX4_missOf_18 rfl 1 rfl ?_
  refine a_iload_n X dX4_missOf_19 rfl 2 rfl ?_
  refine a_iload_n X dX4_missOf_20 rfl 0 rfl ?_
  refine a_cVi (As := [.int v1, .int x_3]) (st := []) X fw4 iz_200 (cX4_below_ok l h) mlX4_313 mvX4_below (rz rfl) (Nat.le_of_ble_eq_true rfl) rfl dX4_missOf_21 (fun r_5 M_4 h => ?_)
  refine a_iconst (v := 1) X dX4_missOf_24 ic_1 ?_
  refine a_iadd X dX4_missOf_25 ?_
  refine a_topi (fun x_6 ex_6 => ?_)
  have h := h x_6 ex_6
  refine a_istore (lo' := [(4, .int x_6), (3, .int x_3), (0, .ref (al 200)), (1, .int v1), (2, .int v2)]) X dX4_missOf_26 (by decide) rfl ?_
  refine a_iload X dX4_missOf_28 0 rfl ?_
  refine a_aload_n X dX4_missOf_30 rfl 2 rfl ?_
  refine a_getR (k := 27) X 28 (b := 228) fw4 iz_200 rfl rfl flX4_55 rfl dX4_missOf_31 ?_
  refine a_sipush (v := 1000) X dX4_missOf_34 sc_1000 ?_
  refine a_iload_n X dX4_missOf_37 rfl 3 rfl ?_
  refine a_imul X dX4_missOf_38 ?_
  refine a_iload_n X dX4_missOf_39 rfl 1 rfl ?_
  refine a_iadd X dX4_missOf_40 ?_
  refine a_iald X iz_228 h.1 dX4_missOf_41 ?_
  have h := h.2
  refine a_iadd X dX4_missOf_42 ?_
  refine a_iconst (v := 1) X dX4_missOf_43 ic_1 ?_
  refine a_isub X dX4_missOf_44 ?_
  refine a_topi (fun x_7 ex_7 => ?_)
  have h := h x_7 ex_7
  refine a_istore (lo' := [(5, .int x_7), (4, .int x_6), (3, .int x_3), (0, .ref (al 200)), (1, .int v1), (2, .int v2)]) X dX4_missOf_45 (by decide) rfl ?_
  refine a_iload_n X dX4_missOf_47 rfl 5 rfl ?_
  refine a_iload X dX4_missOf_48 1 rfl ?_
  refine a_icmp_ge (tgt := 60) X dX4_missOf_50 (by decide) (fun z => ?_) (fun z => ?_)
  · have h := h.1 z
    refine a_iload_n X dX4_missOf_60 rfl 5 rfl ?_
    refine a_iload X dX4_missOf_61 0 rfl ?_
    refine a_icmp_le (tgt := 73) X dX4_missOf_63 (by decide) (fun z => ?_) (fun z => ?_)
    · have h := h.1 z
      refine a_iconst (v := 0) X dX4_missOf_73 ic_0 ?_
      exact a_iret X h dX4_missOf_74
    · have h := h.2 z
      refine a_iload_n X dX4_missOf_66 rfl 5 rfl ?_
      refine a_iload X dX4_missOf_67 0 rfl ?_
      refine a_isub X dX4_missOf_69 ?_
      refine a_goto (tgt := 74) X dX4_missOf_70 (by decide) ?_
      exact a_iret X h dX4_missOf_74
  · have h := h.2 z
    refine a_iload X dX4_missOf_53 1 rfl ?_
    refine a_iload_n X dX4_missOf_55 rfl 5 rfl ?_
    refine a_isub X dX4_missOf_56 ?_
    refine a_goto (tgt := 74) X dX4_missOf_57 (by decide) ?_
    exact a_iret X h dX4_missOf_74
abbrev rm_X4_miss : Room := { frames := 2, cells := 0, slots := 0, locals := 53 }
def wpX4_miss (M : Mem) (v1 : Int32) (v2 : Int32) (Q : Int32 → Mem → Prop) : Prop := (∀ M_1 : Mem, M_1 = pI M 200 0 0 → wpX4_isStream M_1 v1 (fun r_3 M_2 => ((¬ r_3 = 0 → wpX4_isPlace M_2 v1 v2 (fun r_5 M_4 => ((r_5 = 0 → wpX4_refused M_4 2 (fun r_7 M_6 => Q r_7 M_6)) ∧ (¬ r_5 = 0 → wpX4_missOf M_4 v1 v2 (fun r_9 M_8 => wpX4_good M_8 r_9 (fun r_11 M_10 => Q r_11 M_10)))))) ∧ (r_3 = 0 → wpX4_refused M_2 1 (fun r_13 M_12 => Q r_13 M_12)))))
set_option maxHeartbeats 4000000 in
set_option maxRecDepth 100000 in
theorem cX4_miss_ok (l : Launch) {G : Gl} {al : Nat → Nat} {mk : Nat} {M : Mem} {v1 : Int32} {v2 : Int32} {Q : Int32 → Mem → Prop} (h : wpX4_miss M v1 v2 Q) : Kv l yX4_miss cX4_miss 3 (some .int) rm_X4_miss G al mk M [.ref (al 200), .int v1, .int v2] (QI G al mk Q) := by
  refine a_head (by decide) (Nat.le_of_ble_eq_true rfl) (fun p e s m below meth c X => ?_)
  have X : Cx p s m meth c G RX4 cX4_miss 3 (some .int) := X
  unfold wpX4_miss at h
  refine a_sub (ks := [0, 1, 2]) (lo' := [(0, .ref (al 200)), (1, .int v1), (2, .int v2)]) rfl ?_
  refine a_aload_n X dX4_miss_0 rfl 0 rfl ?_
  refine a_iconst (v := 0) X dX4_miss_1 ic_0 ?_
  refine a_putI (k := 0) X fw4 iz_200 rfl flX4_61 rfl rfl dX4_miss_2 (fun M_1 eM_1 => ?_)
  have h := h M_1 eM_1
  refine a_aload_n X dX4_miss_5 rfl 0 rfl ?_
  refine a_iload_n X dX4_miss_6 rfl 1 rfl ?_
  refine a_cVi (As := [.int v1]) (st := []) X fw4 iz_200 (cX4_isStream_ok l h) mlX4_247 mvX4_isStream (rz rfl) (Nat.le_of_ble_eq_true rfl) rfl dX4_miss_7 (fun r_3 M_2 h => ?_)
  refine a_if_ne (tgt := 19) X dX4_miss_10 (by decide) (fun z => ?_) (fun z => ?_)
  · have h := h.1 z
    refine a_aload_n X dX4_miss_19 rfl 0 rfl ?_
    refine a_iload_n X dX4_miss_20 rfl 1 rfl ?_
    refine a_iload_n X dX4_miss_21 rfl 2 rfl ?_
    refine a_cVi (As := [.int v1, .int v2]) (st := []) X fw4 iz_200 (cX4_isPlace_ok l h) mlX4_273 mvX4_isPlace (rz rfl) (Nat.le_of_ble_eq_true rfl) rfl dX4_miss_22 (fun r_5 M_4 h => ?_)
    refine a_if_eq (tgt := 41) X dX4_miss_25 (by decide) (fun z => ?_) (fun z => ?_)
    · have h := h.1 z
      refine a_aload_n X dX4_miss_41 rfl 0 rfl ?_
      refine a_iconst (v := 2) X dX4_miss_42 ic_2 ?_
      refine a_cVi (As := [.int 2]) (st := []) X fw4 iz_200 (cX4_refused_ok l h) mlX4_179 mvX4_refused (rz rfl) (Nat.le_of_ble_eq_true rfl) rfl dX4_miss_43 (fun r_7 M_6 h => ?_)
      exact a_iret X h dX4_miss_46
    · have h := h.2 z
      refine a_aload_n X dX4_miss_28 rfl 0 rfl ?_
      refine a_aload_n X dX4_miss_29 rfl 0 rfl ?_
      refine a_iload_n X dX4_miss_30 rfl 1 rfl ?_
      refine a_iload_n X dX4_miss_31 rfl 2 rfl ?_
      refine a_cVi (As := [.int v1, .int v2]) (st := [.ref (al 200)]) X fw4 iz_200 (cX4_missOf_ok l h) mlX4_316 mvX4_missOf (rz rfl) (Nat.le_of_ble_eq_true rfl) rfl dX4_miss_32 (fun r_9 M_8 h => ?_)
      refine a_cVi (As := [.int r_9]) (st := []) X fw4 iz_200 (cX4_good_ok l h) mlX4_195 mvX4_good (rz rfl) (Nat.le_of_ble_eq_true rfl) rfl dX4_miss_35 (fun r_11 M_10 h => ?_)
      refine a_goto (tgt := 46) X dX4_miss_38 (by decide) ?_
      exact a_iret X h dX4_miss_46
  · have h := h.2 z
    refine a_aload_n X dX4_miss_13 rfl 0 rfl ?_
    refine a_iconst (v := 1) X dX4_miss_14 ic_1 ?_
    refine a_cVi (As := [.int 1]) (st := []) X fw4 iz_200 (cX4_refused_ok l h) mlX4_179 mvX4_refused (rz rfl) (Nat.le_of_ble_eq_true rfl) rfl dX4_miss_15 (fun r_13 M_12 h => ?_)
    exact a_iret X h dX4_miss_18
abbrev rm_X4_missed : Room := { frames := 2, cells := 0, slots := 0, locals := 53 }
def wX4_missed_24 (Q : Int32 → Mem → Prop) (v1 : Int32) : Nat → Mem → Int32 → Int32 → Prop
  | 0, _, _, _ => False
  | n + 1, M, v2, v3 => (vp_in v1 6 ∧ (((gI M 224 (Int32.toNatClampNeg v1)) < v3 → wpX4_good M v2 (fun r_5 M_4 => Q r_5 M_4)) ∧ (¬ (gI M 224 (Int32.toNatClampNeg v1)) < v3 → wpX4_missOf M v1 v3 (fun r_7 M_6 => ((r_7 ≤ v2 → wX4_missed_24 Q v1 n M_6 v2 (v3 + 1)) ∧ (¬ r_7 ≤ v2 → wpX4_missOf M_6 v1 v3 (fun r_9 M_8 => wX4_missed_24 Q v1 n M_8 r_9 (v3 + 1))))))))
def wpX4_missed (M : Mem) (v1 : Int32) (Q : Int32 → Mem → Prop) : Prop := (∀ M_1 : Mem, M_1 = pI M 200 0 0 → wpX4_isStream M_1 v1 (fun r_3 M_2 => ((¬ r_3 = 0 → ∃ n, wX4_missed_24 Q v1 n M_2 (-2) 1) ∧ (r_3 = 0 → wpX4_refused M_2 1 (fun r_11 M_10 => Q r_11 M_10)))))
set_option maxHeartbeats 4000000 in
set_option maxRecDepth 100000 in
theorem tX4_missed_24 (X : Cx p s m meth c G RX4 cX4_missed 4 (some .int)) {Q : Int32 → Mem → Prop} {v1 : Int32} : ∀ (n : Nat) (M : Mem) (v2 : Int32) (v3 : Int32), wX4_missed_24 Q v1 n M v2 v3 → Wa p l e rm_X4_missed s m args below meth c 4 G al mk 0 0 (MQ below (QI G al mk Q) args s 0 0 (gA G)) M 24 [(0, .ref (al 200)), (1, .int v1), (2, .int v2), (3, .int v3)] [] := by
  intro n
  induction n with
  | zero =>
    intro M v2 v3 h
    exact False.elim h
  | succ n ih =>
    intro M v2 v3 h
    rw [wX4_missed_24] at h
    refine a_iload_n X dX4_missed_24 rfl 3 rfl ?_
    refine a_aload_n X dX4_missed_25 rfl 0 rfl ?_
    refine a_getR (k := 23) X 24 (b := 224) fw4 iz_200 rfl rfl flX4_43 rfl dX4_missed_26 ?_
    refine a_iload_n X dX4_missed_29 rfl 1 rfl ?_
    refine a_iald X iz_224 h.1 dX4_missed_30 ?_
    have h := h.2
    refine a_icmp_gt (tgt := 57) X dX4_missed_31 (by decide) (fun z => ?_) (fun z => ?_)
    · have h := h.1 z
      refine a_aload_n X dX4_missed_57 rfl 0 rfl ?_
      refine a_iload_n X dX4_missed_58 rfl 2 rfl ?_
      refine a_cVi (As := [.int v2]) (st := []) X fw4 iz_200 (cX4_good_ok l h) mlX4_195 mvX4_good (rz rfl) (Nat.le_of_ble_eq_true rfl) rfl dX4_missed_59 (fun r_5 M_4 h => ?_)
      exact a_iret X h dX4_missed_62
    · have h := h.2 z
      refine a_aload_n X dX4_missed_34 rfl 0 rfl ?_
      refine a_iload_n X dX4_missed_35 rfl 1 rfl ?_
      refine a_iload_n X dX4_missed_36 rfl 3 rfl ?_
      refine a_cVi (As := [.int v1, .int v3]) (st := []) X fw4 iz_200 (cX4_missOf_ok l h) mlX4_316 mvX4_missOf (rz rfl) (Nat.le_of_ble_eq_true rfl) rfl dX4_missed_37 (fun r_7 M_6 h => ?_)
      refine a_iload_n X dX4_missed_40 rfl 2 rfl ?_
      refine a_icmp_le (tgt := 51) X dX4_missed_41 (by decide) (fun z => ?_) (fun z => ?_)
      · have h := h.1 z
        refine a_iinc (v := v3 + 1) (lo' := [(3, .int (v3 + 1)), (0, .ref (al 200)), (1, .int v1), (2, .int v2)]) X dX4_missed_51 3 rfl (ii_1 _) (by decide) rfl ?_
        refine a_goto (tgt := 24) X dX4_missed_54 (by decide) ?_
        refine a_sub (ks := [1, 2, 3, 0]) (lo' := [(0, .ref (al 200)), (1, .int v1), (2, .int v2), (3, .int (v3 + 1))]) rfl ?_
        exact ih _ _ _ h
      · have h := h.2 z
        refine a_aload_n X dX4_missed_44 rfl 0 rfl ?_
        refine a_iload_n X dX4_missed_45 rfl 1 rfl ?_
        refine a_iload_n X dX4_missed_46 rfl 3 rfl ?_
        refine a_cVi (As := [.int v1, .int v3]) (st := []) X fw4 iz_200 (cX4_missOf_ok l h) mlX4_316 mvX4_missOf (rz rfl) (Nat.le_of_ble_eq_true rfl) rfl dX4_missed_47 (fun r_9 M_8 h => ?_)
        refine a_istore_n (lo' := [(2, .int r_9), (0, .ref (al 200)), (1, .int v1), (3, .int v3)]) X dX4_missed_50 rfl (by decide) rfl ?_
        refine a_iinc (v := v3 + 1) (lo' := [(3, .int (v3 + 1)), (2, .int r_9), (0, .ref (al 200)), (1, .int v1)]) X dX4_missed_51 3 rfl (ii_1 _) (by decide) rfl ?_
        refine a_goto (tgt := 24) X dX4_missed_54 (by decide) ?_
        refine a_sub (ks := [2, 3, 1, 0]) (lo' := [(0, .ref (al 200)), (1, .int v1), (2, .int r_9), (3, .int (v3 + 1))]) rfl ?_
        exact ih _ _ _ h
set_option maxHeartbeats 4000000 in
set_option maxRecDepth 100000 in
theorem cX4_missed_ok (l : Launch) {G : Gl} {al : Nat → Nat} {mk : Nat} {M : Mem} {v1 : Int32} {Q : Int32 → Mem → Prop} (h : wpX4_missed M v1 Q) : Kv l yX4_missed cX4_missed 4 (some .int) rm_X4_missed G al mk M [.ref (al 200), .int v1] (QI G al mk Q) := by
  refine a_head (by decide) (Nat.le_of_ble_eq_true rfl) (fun p e s m below meth c X => ?_)
  have X : Cx p s m meth c G RX4 cX4_missed 4 (some .int) := X
  unfold wpX4_missed at h
  refine a_sub (ks := [0, 1]) (lo' := [(0, .ref (al 200)), (1, .int v1)]) rfl ?_
  refine a_aload_n X dX4_missed_0 rfl 0 rfl ?_
  refine a_iconst (v := 0) X dX4_missed_1 ic_0 ?_
  refine a_putI (k := 0) X fw4 iz_200 rfl flX4_61 rfl rfl dX4_missed_2 (fun M_1 eM_1 => ?_)
  have h := h M_1 eM_1
  refine a_aload_n X dX4_missed_5 rfl 0 rfl ?_
  refine a_iload_n X dX4_missed_6 rfl 1 rfl ?_
  refine a_cVi (As := [.int v1]) (st := []) X fw4 iz_200 (cX4_isStream_ok l h) mlX4_247 mvX4_isStream (rz rfl) (Nat.le_of_ble_eq_true rfl) rfl dX4_missed_7 (fun r_3 M_2 h => ?_)
  refine a_if_ne (tgt := 19) X dX4_missed_10 (by decide) (fun z => ?_) (fun z => ?_)
  · have h := h.1 z
    refine a_bipush (v := (-2)) X dX4_missed_19 bc_m2 ?_
    refine a_istore_n (lo' := [(2, .int (-2)), (0, .ref (al 200)), (1, .int v1)]) X dX4_missed_21 rfl (by decide) rfl ?_
    refine a_iconst (v := 1) X dX4_missed_22 ic_1 ?_
    refine a_istore_n (lo' := [(3, .int 1), (2, .int (-2)), (0, .ref (al 200)), (1, .int v1)]) X dX4_missed_23 rfl (by decide) rfl ?_
    refine a_sub (ks := [2, 3, 1, 0]) (lo' := [(0, .ref (al 200)), (1, .int v1), (2, .int (-2)), (3, .int 1)]) rfl ?_
    obtain ⟨n9, h⟩ := h
    exact tX4_missed_24 X n9 _ _ _ h
  · have h := h.2 z
    refine a_aload_n X dX4_missed_13 rfl 0 rfl ?_
    refine a_iconst (v := 1) X dX4_missed_14 ic_1 ?_
    refine a_cVi (As := [.int 1]) (st := []) X fw4 iz_200 (cX4_refused_ok l h) mlX4_179 mvX4_refused (rz rfl) (Nat.le_of_ble_eq_true rfl) rfl dX4_missed_15 (fun r_11 M_10 h => ?_)
    exact a_iret X h dX4_missed_18
abbrev rm_X4_sum : Room := { frames := 2, cells := 0, slots := 0, locals := 43 }
def wX4_sum_23 (Q : Int32 → Mem → Prop) (v1 : Int32) : Nat → Mem → Int32 → Int32 → Prop
  | 0, _, _, _ => False
  | n + 1, M, v2, v3 => ((1000 ≤ v3 → wpX4_good M v2 (fun r_5 M_4 => Q r_5 M_4)) ∧ (¬ 1000 ≤ v3 → (vp_in ((1000 * v1) + v3) 4000 ∧ (∀ x_6 : Int32, x_6 = (v2 + (v3 * (gI M 228 (Int32.toNatClampNeg ((1000 * v1) + v3))))) → wX4_sum_23 Q v1 n M x_6 (v3 + 1)))))
def wpX4_sum (M : Mem) (v1 : Int32) (Q : Int32 → Mem → Prop) : Prop := (∀ M_1 : Mem, M_1 = pI M 200 0 0 → wpX4_isStream M_1 v1 (fun r_3 M_2 => ((¬ r_3 = 0 → ∃ n, wX4_sum_23 Q v1 n M_2 0 0) ∧ (r_3 = 0 → wpX4_refused M_2 1 (fun r_8 M_7 => Q r_8 M_7)))))
set_option maxHeartbeats 4000000 in
set_option maxRecDepth 100000 in
theorem tX4_sum_23 (X : Cx p s m meth c G RX4 cX4_sum 4 (some .int)) {Q : Int32 → Mem → Prop} {v1 : Int32} : ∀ (n : Nat) (M : Mem) (v2 : Int32) (v3 : Int32), wX4_sum_23 Q v1 n M v2 v3 → Wa p l e rm_X4_sum s m args below meth c 4 G al mk 0 0 (MQ below (QI G al mk Q) args s 0 0 (gA G)) M 23 [(0, .ref (al 200)), (1, .int v1), (2, .int v2), (3, .int v3)] [] := by
  intro n
  induction n with
  | zero =>
    intro M v2 v3 h
    exact False.elim h
  | succ n ih =>
    intro M v2 v3 h
    rw [wX4_sum_23] at h
    refine a_iload_n X dX4_sum_23 rfl 3 rfl ?_
    refine a_sipush (v := 1000) X dX4_sum_24 sc_1000 ?_
    refine a_icmp_ge (tgt := 53) X dX4_sum_27 (by decide) (fun z => ?_) (fun z => ?_)
    · have h := h.1 z
      refine a_aload_n X dX4_sum_53 rfl 0 rfl ?_
      refine a_iload_n X dX4_sum_54 rfl 2 rfl ?_
      refine a_cVi (As := [.int v2]) (st := []) X fw4 iz_200 (cX4_good_ok l h) mlX4_195 mvX4_good (rz rfl) (Nat.le_of_ble_eq_true rfl) rfl dX4_sum_55 (fun r_5 M_4 h => ?_)
      exact a_iret X h dX4_sum_58
    · have h := h.2 z
      refine a_iload_n X dX4_sum_30 rfl 2 rfl ?_
      refine a_iload_n X dX4_sum_31 rfl 3 rfl ?_
      refine a_aload_n X dX4_sum_32 rfl 0 rfl ?_
      refine a_getR (k := 27) X 28 (b := 228) fw4 iz_200 rfl rfl flX4_55 rfl dX4_sum_33 ?_
      refine a_sipush (v := 1000) X dX4_sum_36 sc_1000 ?_
      refine a_iload_n X dX4_sum_39 rfl 1 rfl ?_
      refine a_imul X dX4_sum_40 ?_
      refine a_iload_n X dX4_sum_41 rfl 3 rfl ?_
      refine a_iadd X dX4_sum_42 ?_
      refine a_iald X iz_228 h.1 dX4_sum_43 ?_
      have h := h.2
      refine a_imul X dX4_sum_44 ?_
      refine a_iadd X dX4_sum_45 ?_
      refine a_topi (fun x_6 ex_6 => ?_)
      have h := h x_6 ex_6
      refine a_istore_n (lo' := [(2, .int x_6), (0, .ref (al 200)), (1, .int v1), (3, .int v3)]) X dX4_sum_46 rfl (by decide) rfl ?_
      refine a_iinc (v := v3 + 1) (lo' := [(3, .int (v3 + 1)), (2, .int x_6), (0, .ref (al 200)), (1, .int v1)]) X dX4_sum_47 3 rfl (ii_1 _) (by decide) rfl ?_
      refine a_goto (tgt := 23) X dX4_sum_50 (by decide) ?_
      refine a_sub (ks := [2, 3, 1, 0]) (lo' := [(0, .ref (al 200)), (1, .int v1), (2, .int x_6), (3, .int (v3 + 1))]) rfl ?_
      exact ih _ _ _ h
set_option maxHeartbeats 4000000 in
set_option maxRecDepth 100000 in
theorem cX4_sum_ok (l : Launch) {G : Gl} {al : Nat → Nat} {mk : Nat} {M : Mem} {v1 : Int32} {Q : Int32 → Mem → Prop} (h : wpX4_sum M v1 Q) : Kv l yX4_sum cX4_sum 4 (some .int) rm_X4_sum G al mk M [.ref (al 200), .int v1] (QI G al mk Q) := by
  refine a_head (by decide) (Nat.le_of_ble_eq_true rfl) (fun p e s m below meth c X => ?_)
  have X : Cx p s m meth c G RX4 cX4_sum 4 (some .int) := X
  unfold wpX4_sum at h
  refine a_sub (ks := [0, 1]) (lo' := [(0, .ref (al 200)), (1, .int v1)]) rfl ?_
  refine a_aload_n X dX4_sum_0 rfl 0 rfl ?_
  refine a_iconst (v := 0) X dX4_sum_1 ic_0 ?_
  refine a_putI (k := 0) X fw4 iz_200 rfl flX4_61 rfl rfl dX4_sum_2 (fun M_1 eM_1 => ?_)
  have h := h M_1 eM_1
  refine a_aload_n X dX4_sum_5 rfl 0 rfl ?_
  refine a_iload_n X dX4_sum_6 rfl 1 rfl ?_
  refine a_cVi (As := [.int v1]) (st := []) X fw4 iz_200 (cX4_isStream_ok l h) mlX4_247 mvX4_isStream (rz rfl) (Nat.le_of_ble_eq_true rfl) rfl dX4_sum_7 (fun r_3 M_2 h => ?_)
  refine a_if_ne (tgt := 19) X dX4_sum_10 (by decide) (fun z => ?_) (fun z => ?_)
  · have h := h.1 z
    refine a_iconst (v := 0) X dX4_sum_19 ic_0 ?_
    refine a_istore_n (lo' := [(2, .int 0), (0, .ref (al 200)), (1, .int v1)]) X dX4_sum_20 rfl (by decide) rfl ?_
    refine a_iconst (v := 0) X dX4_sum_21 ic_0 ?_
    refine a_istore_n (lo' := [(3, .int 0), (2, .int 0), (0, .ref (al 200)), (1, .int v1)]) X dX4_sum_22 rfl (by decide) rfl ?_
    refine a_sub (ks := [2, 3, 1, 0]) (lo' := [(0, .ref (al 200)), (1, .int v1), (2, .int 0), (3, .int 0)]) rfl ?_
    obtain ⟨n9, h⟩ := h
    exact tX4_sum_23 X n9 _ _ _ h
  · have h := h.2 z
    refine a_aload_n X dX4_sum_13 rfl 0 rfl ?_
    refine a_iconst (v := 1) X dX4_sum_14 ic_1 ?_
    refine a_cVi (As := [.int 1]) (st := []) X fw4 iz_200 (cX4_refused_ok l h) mlX4_179 mvX4_refused (rz rfl) (Nat.le_of_ble_eq_true rfl) rfl dX4_sum_15 (fun r_8 M_7 h => ?_)
    exact a_iret X h dX4_sum_18
abbrev rm_X4_heavy : Room := { frames := 5, cells := 0, slots := 0, locals := 115 }
def wX4_heavy_96 (Q : Int32 → Mem → Prop) (K45 : Mem → Int32 → Int32 → Prop) (M : Mem) (v1 : Int32) (v2 : Int32) (v4 : Int32) (v5 : Int32) (v6 : Int32) : Prop := wpX4_leastFrom M v1 v6 v6 (fun r_12 M_11 => (vp_in v1 6 ∧ (((gI M_11 224 (Int32.toNatClampNeg v1)) ≤ (r_12 * v2) → ((¬ v4 = 0 → K45 M_11 (v4 + (-1)) (v5 + 1)) ∧ (v4 = 0 → wpX4_good M_11 v6 (fun r_14 M_13 => Q r_14 M_13)))) ∧ (¬ (gI M_11 224 (Int32.toNatClampNeg v1)) ≤ (r_12 * v2) → K45 M_11 v4 (v5 + 1)))))
def wX4_heavy_45 (Q : Int32 → Mem → Prop) (v1 : Int32) (v2 : Int32) : Nat → Mem → Int32 → Int32 → Prop
  | 0, _, _, _ => False
  | n + 1, M, v4, v5 => (vp_in v1 6 ∧ (((gI M 223 (Int32.toNatClampNeg v1)) ≤ v5 → wpX4_good M (-2) (fun r_9 M_8 => Q r_9 M_8)) ∧ (¬ (gI M 223 (Int32.toNatClampNeg v1)) ≤ v5 → (vp_in ((1000 * v1) + v5) 6000 ∧ (∀ x_10 : Int32, x_10 = (gI M 220 (Int32.toNatClampNeg ((1000 * v1) + v5))) → ((v5 ≤ 0 → wX4_heavy_96 Q (wX4_heavy_45 Q v1 v2 n) M v1 v2 v4 v5 x_10) ∧ (¬ v5 ≤ 0 → (vp_in (((1000 * v1) + v5) - 1) 6000 ∧ ((x_10 = (gI M 220 (Int32.toNatClampNeg (((1000 * v1) + v5) - 1))) → wX4_heavy_45 Q v1 v2 n M v4 (v5 + 1)) ∧ (¬ x_10 = (gI M 220 (Int32.toNatClampNeg (((1000 * v1) + v5) - 1))) → wX4_heavy_96 Q (wX4_heavy_45 Q v1 v2 n) M v1 v2 v4 v5 x_10))))))))))
def wpX4_heavy (M : Mem) (v1 : Int32) (v2 : Int32) (v3 : Int32) (Q : Int32 → Mem → Prop) : Prop := (∀ M_1 : Mem, M_1 = pI M 200 0 0 → wpX4_isStream M_1 v1 (fun r_3 M_2 => ((r_3 = 0 → wpX4_refused M_2 1 (fun r_5 M_4 => Q r_5 M_4)) ∧ (¬ r_3 = 0 → ((0 ≤ v3 → wpX4_in M_2 v2 1 100 (fun r_7 M_6 => ((¬ r_7 = 0 → ∃ n, wX4_heavy_45 Q v1 v2 n M_6 v3 0) ∧ (r_7 = 0 → wpX4_refused M_6 2 (fun r_16 M_15 => Q r_16 M_15))))) ∧ (¬ 0 ≤ v3 → wpX4_refused M_2 1 (fun r_18 M_17 => Q r_18 M_17)))))))
set_option maxHeartbeats 4000000 in
set_option maxRecDepth 100000 in
theorem tX4_heavy_96 (X : Cx p s m meth c G RX4 cX4_heavy 7 (some .int)) {Q : Int32 → Mem → Prop} {K45 : Mem → Int32 → Int32 → Prop} {v1 : Int32} {v2 : Int32} {v4 : Int32} {v5 : Int32} {v6 : Int32} (hK45 : ∀ (M : Mem) (v4 : Int32) (v5 : Int32), K45 M v4 v5 → Wa p l e rm_X4_heavy s m args below meth c 7 G al mk 0 0 (MQ below (QI G al mk Q) args s 0 0 (gA G)) M 45 [(0, .ref (al 200)), (1, .int v1), (2, .int v2), (4, .int v4), (5, .int v5)] []) {M : Mem} (h : wX4_heavy_96 Q K45 M v1 v2 v4 v5 v6) : Wa p l e rm_X4_heavy s m args below meth c 7 G al mk 0 0 (MQ below (QI G al mk Q) args s 0 0 (gA G)) M 96 [(0, .ref (al 200)), (1, .int v1), (2, .int v2), (4, .int v4), (5, .int v5), (6, .int v6)] [] := by
  unfold wX4_heavy_96 at h
  refine a_aload_n X dX4_heavy_96 rfl 0 rfl ?_
  refine a_iload_n X dX4_heavy_97 rfl 1 rfl ?_
  refine a_iload X dX4_heavy_98 5 rfl ?_
  refine a_iload X dX4_heavy_100 5 rfl ?_
  refine a_cVi (As := [.int v1, .int v6, .int v6]) (st := []) X fw4 iz_200 (cX4_leastFrom_ok l h) mlX4_307 mvX4_leastFrom (rz rfl) (Nat.le_of_ble_eq_true rfl) rfl dX4_heavy_102 (fun r_12 M_11 h => ?_)
  refine a_iload_n X dX4_heavy_105 rfl 2 rfl ?_
  refine a_imul X dX4_heavy_106 ?_
  refine a_aload_n X dX4_heavy_107 rfl 0 rfl ?_
  refine a_getR (k := 23) X 24 (b := 224) fw4 iz_200 rfl rfl flX4_43 rfl dX4_heavy_108 ?_
  refine a_iload_n X dX4_heavy_111 rfl 1 rfl ?_
  refine a_iald X iz_224 h.1 dX4_heavy_112 ?_
  have h := h.2
  refine a_icmp_ge (tgt := 119) X dX4_heavy_113 (by decide) (fun z => ?_) (fun z => ?_)
  · have h := h.1 z
    refine a_iload X dX4_heavy_119 3 rfl ?_
    refine a_if_ne (tgt := 131) X dX4_heavy_121 (by decide) (fun z => ?_) (fun z => ?_)
    · have h := h.1 z
      refine a_iinc (v := v4 + (-1)) (lo' := [(4, .int (v4 + (-1))), (0, .ref (al 200)), (1, .int v1), (2, .int v2), (5, .int v5), (6, .int v6)]) X dX4_heavy_131 3 rfl (ii_m1 _) (by decide) rfl ?_
      refine a_iinc (v := v5 + 1) (lo' := [(5, .int (v5 + 1)), (4, .int (v4 + (-1))), (0, .ref (al 200)), (1, .int v1), (2, .int v2), (6, .int v6)]) X dX4_heavy_134 4 rfl (ii_1 _) (by decide) rfl ?_
      refine a_goto (tgt := 45) X dX4_heavy_137 (by decide) ?_
      refine a_sub (ks := [2, 3, 4, 1, 0]) (lo' := [(0, .ref (al 200)), (1, .int v1), (2, .int v2), (4, .int (v4 + (-1))), (5, .int (v5 + 1))]) rfl ?_
      exact hK45 _ _ _ h
    · have h := h.2 z
      refine a_aload_n X dX4_heavy_124 rfl 0 rfl ?_
      refine a_iload X dX4_heavy_125 5 rfl ?_
      refine a_cVi (As := [.int v6]) (st := []) X fw4 iz_200 (cX4_good_ok l h) mlX4_195 mvX4_good (rz rfl) (Nat.le_of_ble_eq_true rfl) rfl dX4_heavy_127 (fun r_14 M_13 h => ?_)
      exact a_iret X h dX4_heavy_130
  · have h := h.2 z
    refine a_goto (tgt := 134) X dX4_heavy_116 (by decide) ?_
    refine a_iinc (v := v5 + 1) (lo' := [(5, .int (v5 + 1)), (0, .ref (al 200)), (1, .int v1), (2, .int v2), (4, .int v4), (6, .int v6)]) X dX4_heavy_134 4 rfl (ii_1 _) (by decide) rfl ?_
    refine a_goto (tgt := 45) X dX4_heavy_137 (by decide) ?_
    refine a_sub (ks := [1, 2, 3, 4, 0]) (lo' := [(0, .ref (al 200)), (1, .int v1), (2, .int v2), (4, .int v4), (5, .int (v5 + 1))]) rfl ?_
    exact hK45 _ _ _ h
set_option maxHeartbeats 4000000 in
set_option maxRecDepth 100000 in
theorem tX4_heavy_45 (X : Cx p s m meth c G RX4 cX4_heavy 7 (some .int)) {Q : Int32 → Mem → Prop} {v1 : Int32} {v2 : Int32} : ∀ (n : Nat) (M : Mem) (v4 : Int32) (v5 : Int32), wX4_heavy_45 Q v1 v2 n M v4 v5 → Wa p l e rm_X4_heavy s m args below meth c 7 G al mk 0 0 (MQ below (QI G al mk Q) args s 0 0 (gA G)) M 45 [(0, .ref (al 200)), (1, .int v1), (2, .int v2), (4, .int v4), (5, .int v5)] [] := by
  intro n
  induction n with
  | zero =>
    intro M v4 v5 h
    exact False.elim h
  | succ n ih =>
    intro M v4 v5 h
    rw [wX4_heavy_45] at h
    refine a_iload X dX4_heavy_45 4 rfl ?_
    refine a_aload_n X dX4_heavy_47 rfl 0 rfl ?_
    refine a_getR (k := 22) X 23 (b := 223) fw4 iz_200 rfl rfl flX4_40 rfl dX4_heavy_48 ?_
    refine a_iload_n X dX4_heavy_51 rfl 1 rfl ?_
    refine a_iald X iz_223 h.1 dX4_heavy_52 ?_
    have h := h.2
    refine a_icmp_ge (tgt := 140) X dX4_heavy_53 (by decide) (fun z => ?_) (fun z => ?_)
    · have h := h.1 z
      refine a_aload_n X dX4_heavy_140 rfl 0 rfl ?_
      refine a_bipush (v := (-2)) X dX4_heavy_141 bc_m2 ?_
      refine a_cVi (As := [.int (-2)]) (st := []) X fw4 iz_200 (cX4_good_ok l h) mlX4_195 mvX4_good (rz rfl) (Nat.le_of_ble_eq_true rfl) rfl dX4_heavy_143 (fun r_9 M_8 h => ?_)
      exact a_iret X h dX4_heavy_146
    · have h := h.2 z
      refine a_aload_n X dX4_heavy_56 rfl 0 rfl ?_
      refine a_getR (k := 19) X 20 (b := 220) fw4 iz_200 rfl rfl flX4_31 rfl dX4_heavy_57 ?_
      refine a_sipush (v := 1000) X dX4_heavy_60 sc_1000 ?_
      refine a_iload_n X dX4_heavy_63 rfl 1 rfl ?_
      refine a_imul X dX4_heavy_64 ?_
      refine a_iload X dX4_heavy_65 4 rfl ?_
      refine a_iadd X dX4_heavy_67 ?_
      refine a_iald X iz_220 h.1 dX4_heavy_68 ?_
      have h := h.2
      refine a_topi (fun x_10 ex_10 => ?_)
      have h := h x_10 ex_10
      refine a_istore (lo' := [(6, .int x_10), (0, .ref (al 200)), (1, .int v1), (2, .int v2), (4, .int v4), (5, .int v5)]) X dX4_heavy_69 (by decide) rfl ?_
      refine a_iload X dX4_heavy_71 5 rfl ?_
      refine a_if_le (tgt := 96) X dX4_heavy_73 (by decide) (fun z => ?_) (fun z => ?_)
      · have h := h.1 z
        refine a_sub (ks := [1, 2, 3, 4, 5, 0]) (lo' := [(0, .ref (al 200)), (1, .int v1), (2, .int v2), (4, .int v4), (5, .int v5), (6, .int x_10)]) rfl ?_
        exact tX4_heavy_96 X ih h
      · have h := h.2 z
        refine a_iload X dX4_heavy_76 0 rfl ?_
        refine a_aload_n X dX4_heavy_78 rfl 1 rfl ?_
        refine a_getR (k := 19) X 20 (b := 220) fw4 iz_200 rfl rfl flX4_31 rfl dX4_heavy_79 ?_
        refine a_sipush (v := 1000) X dX4_heavy_82 sc_1000 ?_
        refine a_iload_n X dX4_heavy_85 rfl 2 rfl ?_
        refine a_imul X dX4_heavy_86 ?_
        refine a_iload X dX4_heavy_87 5 rfl ?_
        refine a_iadd X dX4_heavy_89 ?_
        refine a_iconst (v := 1) X dX4_heavy_90 ic_1 ?_
        refine a_isub X dX4_heavy_91 ?_
        refine a_iald X iz_220 h.1 dX4_heavy_92 ?_
        have h := h.2
        refine a_icmp_eq (tgt := 134) X dX4_heavy_93 (by decide) (fun z => ?_) (fun z => ?_)
        · have h := h.1 z
          refine a_iinc (v := v5 + 1) (lo' := [(5, .int (v5 + 1)), (6, .int x_10), (0, .ref (al 200)), (1, .int v1), (2, .int v2), (4, .int v4)]) X dX4_heavy_134 5 rfl (ii_1 _) (by decide) rfl ?_
          refine a_goto (tgt := 45) X dX4_heavy_137 (by decide) ?_
          refine a_sub (ks := [2, 3, 4, 5, 0]) (lo' := [(0, .ref (al 200)), (1, .int v1), (2, .int v2), (4, .int v4), (5, .int (v5 + 1))]) rfl ?_
          exact ih _ _ _ h
        · have h := h.2 z
          refine a_sub (ks := [1, 2, 3, 4, 5, 0]) (lo' := [(0, .ref (al 200)), (1, .int v1), (2, .int v2), (4, .int v4), (5, .int v5), (6, .int x_10)]) rfl ?_
          exact tX4_heavy_96 X ih h
set_option maxHeartbeats 4000000 in
set_option maxRecDepth 100000 in
theorem cX4_heavy_ok (l : Launch) {G : Gl} {al : Nat → Nat} {mk : Nat} {M : Mem} {v1 : Int32} {v2 : Int32} {v3 : Int32} {Q : Int32 → Mem → Prop} (h : wpX4_heavy M v1 v2 v3 Q) : Kv l yX4_heavy cX4_heavy 7 (some .int) rm_X4_heavy G al mk M [.ref (al 200), .int v1, .int v2, .int v3] (QI G al mk Q) := by
  refine a_head (by decide) (Nat.le_of_ble_eq_true rfl) (fun p e s m below meth c X => ?_)
  have X : Cx p s m meth c G RX4 cX4_heavy 7 (some .int) := X
  unfold wpX4_heavy at h
  refine a_sub (ks := [0, 1, 2, 3]) (lo' := [(0, .ref (al 200)), (1, .int v1), (2, .int v2), (3, .int v3)]) rfl ?_
  refine a_aload_n X dX4_heavy_0 rfl 0 rfl ?_
  refine a_iconst (v := 0) X dX4_heavy_1 ic_0 ?_
  refine a_putI (k := 0) X fw4 iz_200 rfl flX4_61 rfl rfl dX4_heavy_2 (fun M_1 eM_1 => ?_)
  have h := h M_1 eM_1
  refine a_aload_n X dX4_heavy_5 rfl 0 rfl ?_
  refine a_iload_n X dX4_heavy_6 rfl 1 rfl ?_
  refine a_cVi (As := [.int v1]) (st := []) X fw4 iz_200 (cX4_isStream_ok l h) mlX4_247 mvX4_isStream (rz rfl) (Nat.le_of_ble_eq_true rfl) rfl dX4_heavy_7 (fun r_3 M_2 h => ?_)
  refine a_if_eq (tgt := 17) X dX4_heavy_10 (by decide) (fun z => ?_) (fun z => ?_)
  · have h := h.1 z
    refine a_aload_n X dX4_heavy_17 rfl 0 rfl ?_
    refine a_iconst (v := 1) X dX4_heavy_18 ic_1 ?_
    refine a_cVi (As := [.int 1]) (st := []) X fw4 iz_200 (cX4_refused_ok l h) mlX4_179 mvX4_refused (rz rfl) (Nat.le_of_ble_eq_true rfl) rfl dX4_heavy_19 (fun r_5 M_4 h => ?_)
    exact a_iret X h dX4_heavy_22
  · have h := h.2 z
    refine a_iload_n X dX4_heavy_13 rfl 3 rfl ?_
    refine a_if_ge (tgt := 23) X dX4_heavy_14 (by decide) (fun z => ?_) (fun z => ?_)
    · have h := h.1 z
      refine a_iload_n X dX4_heavy_23 rfl 2 rfl ?_
      refine a_iconst (v := 1) X dX4_heavy_24 ic_1 ?_
      refine a_bipush (v := 100) X dX4_heavy_25 bc_100 ?_
      refine a_cSi (As := [.int v2, .int 1, .int 100]) (st := []) X (cX4_in_ok l h) mlX4_86 msX4_in (rz rfl) (Nat.le_of_ble_eq_true rfl) rfl dX4_heavy_27 (fun r_7 M_6 h => ?_)
      refine a_if_ne (tgt := 39) X dX4_heavy_30 (by decide) (fun z => ?_) (fun z => ?_)
      · have h := h.1 z
        refine a_iload_n X dX4_heavy_39 rfl 3 rfl ?_
        refine a_istore (lo' := [(4, .int v3), (0, .ref (al 200)), (1, .int v1), (2, .int v2), (3, .int v3)]) X dX4_heavy_40 (by decide) rfl ?_
        refine a_iconst (v := 0) X dX4_heavy_42 ic_0 ?_
        refine a_istore (lo' := [(5, .int 0), (4, .int v3), (0, .ref (al 200)), (1, .int v1), (2, .int v2), (3, .int v3)]) X dX4_heavy_43 (by decide) rfl ?_
        refine a_sub (ks := [2, 3, 4, 1, 0]) (lo' := [(0, .ref (al 200)), (1, .int v1), (2, .int v2), (4, .int v3), (5, .int 0)]) rfl ?_
        obtain ⟨n9, h⟩ := h
        exact tX4_heavy_45 X n9 _ _ _ h
      · have h := h.2 z
        refine a_aload_n X dX4_heavy_33 rfl 0 rfl ?_
        refine a_iconst (v := 2) X dX4_heavy_34 ic_2 ?_
        refine a_cVi (As := [.int 2]) (st := []) X fw4 iz_200 (cX4_refused_ok l h) mlX4_179 mvX4_refused (rz rfl) (Nat.le_of_ble_eq_true rfl) rfl dX4_heavy_35 (fun r_16 M_15 h => ?_)
        exact a_iret X h dX4_heavy_38
    · have h := h.2 z
      refine a_aload_n X dX4_heavy_17 rfl 0 rfl ?_
      refine a_iconst (v := 1) X dX4_heavy_18 ic_1 ?_
      refine a_cVi (As := [.int 1]) (st := []) X fw4 iz_200 (cX4_refused_ok l h) mlX4_179 mvX4_refused (rz rfl) (Nat.le_of_ble_eq_true rfl) rfl dX4_heavy_19 (fun r_18 M_17 h => ?_)
      exact a_iret X h dX4_heavy_22
abbrev rm_X4_between_ : Room := { frames := 4, cells := 0, slots := 0, locals := 92 }
def wpX4_between_ (M : Mem) (v1 : Int32) (v2 : Int32) (v3 : Int32) (Q : Int32 → Mem → Prop) : Prop := wpX4_sure M v1 v3 (fun r_2 M_1 => (vp_in v2 6 ∧ wpX4_atMost M_1 v2 v3 (fun r_4 M_3 => (vp_in v1 6 ∧ (∀ x_5 : Int32, x_5 = (((100 * r_2) * (gI M_1 224 (Int32.toNatClampNeg v2))) - ((100 * r_4) * (gI M_3 224 (Int32.toNatClampNeg v1)))) → (vp_in v1 6 ∧ (vp_in v2 6 ∧ (¬ ((gI M_3 224 (Int32.toNatClampNeg v1)) * (gI M_3 224 (Int32.toNatClampNeg v2))) = 0 ∧ Q (x_5 / ((gI M_3 224 (Int32.toNatClampNeg v1)) * (gI M_3 224 (Int32.toNatClampNeg v2)))) M_3))))))))
set_option maxHeartbeats 4000000 in
set_option maxRecDepth 100000 in
theorem cX4_between__ok (l : Launch) {G : Gl} {al : Nat → Nat} {mk : Nat} {M : Mem} {v1 : Int32} {v2 : Int32} {v3 : Int32} {Q : Int32 → Mem → Prop} (h : wpX4_between_ M v1 v2 v3 Q) : Kv l yX4_between_ cX4_between_ 5 (some .int) rm_X4_between_ G al mk M [.ref (al 200), .int v1, .int v2, .int v3] (QI G al mk Q) := by
  refine a_head (by decide) (Nat.le_of_ble_eq_true rfl) (fun p e s m below meth c X => ?_)
  have X : Cx p s m meth c G RX4 cX4_between_ 5 (some .int) := X
  unfold wpX4_between_ at h
  refine a_sub (ks := [0, 1, 2, 3]) (lo' := [(0, .ref (al 200)), (1, .int v1), (2, .int v2), (3, .int v3)]) rfl ?_
  refine a_bipush (v := 100) X dX4_between__0 bc_100 ?_
  refine a_aload_n X dX4_between__2 rfl 0 rfl ?_
  refine a_iload_n X dX4_between__3 rfl 1 rfl ?_
  refine a_iload_n X dX4_between__4 rfl 3 rfl ?_
  refine a_cVi (As := [.int v1, .int v3]) (st := [.int 100]) X fw4 iz_200 (cX4_sure_ok l h) mlX4_288 mvX4_sure (rz rfl) (Nat.le_of_ble_eq_true rfl) rfl dX4_between__5 (fun r_2 M_1 h => ?_)
  refine a_imul X dX4_between__8 ?_
  refine a_aload_n X dX4_between__9 rfl 0 rfl ?_
  refine a_getR (k := 23) X 24 (b := 224) fw4 iz_200 rfl rfl flX4_43 rfl dX4_between__10 ?_
  refine a_iload_n X dX4_between__13 rfl 2 rfl ?_
  refine a_iald X iz_224 h.1 dX4_between__14 ?_
  have h := h.2
  refine a_imul X dX4_between__15 ?_
  refine a_bipush (v := 100) X dX4_between__16 bc_100 ?_
  refine a_aload_n X dX4_between__18 rfl 0 rfl ?_
  refine a_iload_n X dX4_between__19 rfl 2 rfl ?_
  refine a_iload_n X dX4_between__20 rfl 3 rfl ?_
  refine a_cVi (As := [.int v2, .int v3]) (st := [.int 100, .int ((100 * r_2) * (gI M_1 224 (Int32.toNatClampNeg v2)))]) X fw4 iz_200 (cX4_atMost_ok l h) mlX4_285 mvX4_atMost (rz rfl) (Nat.le_of_ble_eq_true rfl) rfl dX4_between__21 (fun r_4 M_3 h => ?_)
  refine a_imul X dX4_between__24 ?_
  refine a_aload_n X dX4_between__25 rfl 0 rfl ?_
  refine a_getR (k := 23) X 24 (b := 224) fw4 iz_200 rfl rfl flX4_43 rfl dX4_between__26 ?_
  refine a_iload_n X dX4_between__29 rfl 1 rfl ?_
  refine a_iald X iz_224 h.1 dX4_between__30 ?_
  have h := h.2
  refine a_imul X dX4_between__31 ?_
  refine a_isub X dX4_between__32 ?_
  refine a_topi (fun x_5 ex_5 => ?_)
  have h := h x_5 ex_5
  refine a_istore (lo' := [(4, .int x_5), (0, .ref (al 200)), (1, .int v1), (2, .int v2), (3, .int v3)]) X dX4_between__33 (by decide) rfl ?_
  refine a_iload X dX4_between__35 0 rfl ?_
  refine a_aload_n X dX4_between__37 rfl 1 rfl ?_
  refine a_getR (k := 23) X 24 (b := 224) fw4 iz_200 rfl rfl flX4_43 rfl dX4_between__38 ?_
  refine a_iload_n X dX4_between__41 rfl 2 rfl ?_
  refine a_iald X iz_224 h.1 dX4_between__42 ?_
  have h := h.2
  refine a_aload_n X dX4_between__43 rfl 1 rfl ?_
  refine a_getR (k := 23) X 24 (b := 224) fw4 iz_200 rfl rfl flX4_43 rfl dX4_between__44 ?_
  refine a_iload_n X dX4_between__47 rfl 3 rfl ?_
  refine a_iald X iz_224 h.1 dX4_between__48 ?_
  have h := h.2
  refine a_imul X dX4_between__49 ?_
  refine a_idiv X dX4_between__50 h.1 ?_
  have h := h.2
  exact a_iret X h dX4_between__51
abbrev rm_X4_apartBy : Room := { frames := 5, cells := 0, slots := 0, locals := 116 }
def wX4_apartBy_6 (Q : Int32 → Mem → Prop) (v1 : Int32) (v2 : Int32) (v3 : Int32) : Nat → Mem → Int32 → Int32 → Prop
  | 0, _, _, _ => False
  | n + 1, M, v4, v5 => (vp_in v3 6 ∧ (((gI M 223 (Int32.toNatClampNeg v3)) ≤ v5 → Q v4 M) ∧ (¬ (gI M 223 (Int32.toNatClampNeg v3)) ≤ v5 → (vp_in ((1000 * v3) + v5) 6000 ∧ wpX4_between_ M v1 v2 (gI M 220 (Int32.toNatClampNeg ((1000 * v3) + v5))) (fun r_2 M_1 => ((r_2 ≤ v4 → wX4_apartBy_6 Q v1 v2 v3 n M_1 v4 (v5 + 1)) ∧ (¬ r_2 ≤ v4 → wX4_apartBy_6 Q v1 v2 v3 n M_1 r_2 (v5 + 1))))))))
def wpX4_apartBy (M : Mem) (v1 : Int32) (v2 : Int32) (v3 : Int32) (Q : Int32 → Mem → Prop) : Prop := ∃ n, wX4_apartBy_6 Q v1 v2 v3 n M 0 0
set_option maxHeartbeats 4000000 in
set_option maxRecDepth 100000 in
theorem tX4_apartBy_6 (X : Cx p s m meth c G RX4 cX4_apartBy 7 (some .int)) {Q : Int32 → Mem → Prop} {v1 : Int32} {v2 : Int32} {v3 : Int32} : ∀ (n : Nat) (M : Mem) (v4 : Int32) (v5 : Int32), wX4_apartBy_6 Q v1 v2 v3 n M v4 v5 → Wa p l e rm_X4_apartBy s m args below meth c 7 G al mk 0 0 (MQ below (QI G al mk Q) args s 0 0 (gA G)) M 6 [(0, .ref (al 200)), (1, .int v1), (2, .int v2), (3, .int v3), (4, .int v4), (5, .int v5)] [] := by
  intro n
  induction n with
  | zero =>
    intro M v4 v5 h
    exact False.elim h
  | succ n ih =>
    intro M v4 v5 h
    rw [wX4_apartBy_6] at h
    refine a_iload X dX4_apartBy_6 5 rfl ?_
    refine a_aload_n X dX4_apartBy_8 rfl 0 rfl ?_
    refine a_getR (k := 22) X 23 (b := 223) fw4 iz_200 rfl rfl flX4_40 rfl dX4_apartBy_9 ?_
    refine a_iload_n X dX4_apartBy_12 rfl 3 rfl ?_
    refine a_iald X iz_223 h.1 dX4_apartBy_13 ?_
    have h := h.2
    refine a_icmp_ge (tgt := 55) X dX4_apartBy_14 (by decide) (fun z => ?_) (fun z => ?_)
    · have h := h.1 z
      refine a_iload X dX4_apartBy_55 4 rfl ?_
      exact a_iret X h dX4_apartBy_57
    · have h := h.2 z
      refine a_aload_n X dX4_apartBy_17 rfl 0 rfl ?_
      refine a_iload_n X dX4_apartBy_18 rfl 1 rfl ?_
      refine a_iload_n X dX4_apartBy_19 rfl 2 rfl ?_
      refine a_aload_n X dX4_apartBy_20 rfl 0 rfl ?_
      refine a_getR (k := 19) X 20 (b := 220) fw4 iz_200 rfl rfl flX4_31 rfl dX4_apartBy_21 ?_
      refine a_sipush (v := 1000) X dX4_apartBy_24 sc_1000 ?_
      refine a_iload_n X dX4_apartBy_27 rfl 3 rfl ?_
      refine a_imul X dX4_apartBy_28 ?_
      refine a_iload X dX4_apartBy_29 5 rfl ?_
      refine a_iadd X dX4_apartBy_31 ?_
      refine a_iald X iz_220 h.1 dX4_apartBy_32 ?_
      have h := h.2
      refine a_cVi (As := [.int v1, .int v2, .int (gI M 220 (Int32.toNatClampNeg ((1000 * v3) + v5)))]) (st := []) X fw4 iz_200 (cX4_between__ok l h) mlX4_319 mvX4_between_ (rz rfl) (Nat.le_of_ble_eq_true rfl) rfl dX4_apartBy_33 (fun r_2 M_1 h => ?_)
      refine a_istore (lo' := [(6, .int r_2), (0, .ref (al 200)), (1, .int v1), (2, .int v2), (3, .int v3), (4, .int v4), (5, .int v5)]) X dX4_apartBy_36 (by decide) rfl ?_
      refine a_iload X dX4_apartBy_38 0 rfl ?_
      refine a_iload X dX4_apartBy_40 5 rfl ?_
      refine a_icmp_le (tgt := 49) X dX4_apartBy_42 (by decide) (fun z => ?_) (fun z => ?_)
      · have h := h.1 z
        refine a_iinc (v := v5 + 1) (lo' := [(5, .int (v5 + 1)), (6, .int r_2), (0, .ref (al 200)), (1, .int v1), (2, .int v2), (3, .int v3), (4, .int v4)]) X dX4_apartBy_49 6 rfl (ii_1 _) (by decide) rfl ?_
        refine a_goto (tgt := 6) X dX4_apartBy_52 (by decide) ?_
        refine a_sub (ks := [2, 3, 4, 5, 6, 0]) (lo' := [(0, .ref (al 200)), (1, .int v1), (2, .int v2), (3, .int v3), (4, .int v4), (5, .int (v5 + 1))]) rfl ?_
        exact ih _ _ _ h
      · have h := h.2 z
        refine a_iload X dX4_apartBy_45 0 rfl ?_
        refine a_istore (lo' := [(4, .int r_2), (6, .int r_2), (0, .ref (al 200)), (1, .int v1), (2, .int v2), (3, .int v3), (5, .int v5)]) X dX4_apartBy_47 (by decide) rfl ?_
        refine a_iinc (v := v5 + 1) (lo' := [(5, .int (v5 + 1)), (4, .int r_2), (6, .int r_2), (0, .ref (al 200)), (1, .int v1), (2, .int v2), (3, .int v3)]) X dX4_apartBy_49 6 rfl (ii_1 _) (by decide) rfl ?_
        refine a_goto (tgt := 6) X dX4_apartBy_52 (by decide) ?_
        refine a_sub (ks := [3, 4, 5, 6, 1, 0]) (lo' := [(0, .ref (al 200)), (1, .int v1), (2, .int v2), (3, .int v3), (4, .int r_2), (5, .int (v5 + 1))]) rfl ?_
        exact ih _ _ _ h
set_option maxHeartbeats 4000000 in
set_option maxRecDepth 100000 in
theorem cX4_apartBy_ok (l : Launch) {G : Gl} {al : Nat → Nat} {mk : Nat} {M : Mem} {v1 : Int32} {v2 : Int32} {v3 : Int32} {Q : Int32 → Mem → Prop} (h : wpX4_apartBy M v1 v2 v3 Q) : Kv l yX4_apartBy cX4_apartBy 7 (some .int) rm_X4_apartBy G al mk M [.ref (al 200), .int v1, .int v2, .int v3] (QI G al mk Q) := by
  refine a_head (by decide) (Nat.le_of_ble_eq_true rfl) (fun p e s m below meth c X => ?_)
  have X : Cx p s m meth c G RX4 cX4_apartBy 7 (some .int) := X
  unfold wpX4_apartBy at h
  refine a_sub (ks := [0, 1, 2, 3]) (lo' := [(0, .ref (al 200)), (1, .int v1), (2, .int v2), (3, .int v3)]) rfl ?_
  refine a_iconst (v := 0) X dX4_apartBy_0 ic_0 ?_
  refine a_istore (lo' := [(4, .int 0), (0, .ref (al 200)), (1, .int v1), (2, .int v2), (3, .int v3)]) X dX4_apartBy_1 (by decide) rfl ?_
  refine a_iconst (v := 0) X dX4_apartBy_3 ic_0 ?_
  refine a_istore (lo' := [(5, .int 0), (4, .int 0), (0, .ref (al 200)), (1, .int v1), (2, .int v2), (3, .int v3)]) X dX4_apartBy_4 (by decide) rfl ?_
  refine a_sub (ks := [2, 3, 4, 5, 1, 0]) (lo' := [(0, .ref (al 200)), (1, .int v1), (2, .int v2), (3, .int v3), (4, .int 0), (5, .int 0)]) rfl ?_
  obtain ⟨n9, h⟩ := h
  exact tX4_apartBy_6 X n9 _ _ _ h
abbrev rm_X4_apart : Room := { frames := 6, cells := 0, slots := 0, locals := 142 }
def wX4_apart_49 (Q : Int32 → Mem → Prop) (v1 : Int32) (v2 : Int32) : Nat → Mem → Int32 → Int32 → Prop
  | 0, _, _, _ => False
  | n + 1, M, v3, v4 => ((4 ≤ v4 → wpX4_good M v3 (fun r_7 M_6 => Q r_7 M_6)) ∧ (¬ 4 ≤ v4 → ((2 ≤ v4 → ((¬ v4 = 2 → wpX4_apartBy M v2 v1 v2 (fun r_9 M_8 => ((r_9 ≤ v3 → wX4_apart_49 Q v1 v2 n M_8 v3 (v4 + 1)) ∧ (¬ r_9 ≤ v3 → wX4_apart_49 Q v1 v2 n M_8 r_9 (v4 + 1))))) ∧ (v4 = 2 → wpX4_apartBy M v2 v1 v1 (fun r_11 M_10 => ((r_11 ≤ v3 → wX4_apart_49 Q v1 v2 n M_10 v3 (v4 + 1)) ∧ (¬ r_11 ≤ v3 → wX4_apart_49 Q v1 v2 n M_10 r_11 (v4 + 1))))))) ∧ (¬ 2 ≤ v4 → ((¬ v4 = 0 → wpX4_apartBy M v1 v2 v2 (fun r_13 M_12 => ((r_13 ≤ v3 → wX4_apart_49 Q v1 v2 n M_12 v3 (v4 + 1)) ∧ (¬ r_13 ≤ v3 → wX4_apart_49 Q v1 v2 n M_12 r_13 (v4 + 1))))) ∧ (v4 = 0 → wpX4_apartBy M v1 v2 v1 (fun r_15 M_14 => ((r_15 ≤ v3 → wX4_apart_49 Q v1 v2 n M_14 v3 (v4 + 1)) ∧ (¬ r_15 ≤ v3 → wX4_apart_49 Q v1 v2 n M_14 r_15 (v4 + 1))))))))))
def wpX4_apart (M : Mem) (v1 : Int32) (v2 : Int32) (Q : Int32 → Mem → Prop) : Prop := (∀ M_1 : Mem, M_1 = pI M 200 0 0 → wpX4_areTwo M_1 v1 v2 (fun r_3 M_2 => ((¬ r_3 = 0 → (vp_in v1 6 ∧ (((gI M_2 224 (Int32.toNatClampNeg v1)) = 0 → wpX4_refused M_2 5 (fun r_5 M_4 => Q r_5 M_4)) ∧ (¬ (gI M_2 224 (Int32.toNatClampNeg v1)) = 0 → (vp_in v2 6 ∧ ((¬ (gI M_2 224 (Int32.toNatClampNeg v2)) = 0 → ∃ n, wX4_apart_49 Q v1 v2 n M_2 0 0) ∧ ((gI M_2 224 (Int32.toNatClampNeg v2)) = 0 → wpX4_refused M_2 5 (fun r_17 M_16 => Q r_17 M_16)))))))) ∧ (r_3 = 0 → wpX4_refused M_2 1 (fun r_19 M_18 => Q r_19 M_18)))))
set_option maxHeartbeats 4000000 in
set_option maxRecDepth 100000 in
theorem tX4_apart_49 (X : Cx p s m meth c G RX4 cX4_apart 6 (some .int)) {Q : Int32 → Mem → Prop} {v1 : Int32} {v2 : Int32} : ∀ (n : Nat) (M : Mem) (v3 : Int32) (v4 : Int32), wX4_apart_49 Q v1 v2 n M v3 v4 → Wa p l e rm_X4_apart s m args below meth c 6 G al mk 0 0 (MQ below (QI G al mk Q) args s 0 0 (gA G)) M 49 [(0, .ref (al 200)), (1, .int v1), (2, .int v2), (3, .int v3), (4, .int v4)] [] := by
  intro n
  induction n with
  | zero =>
    intro M v3 v4 h
    exact False.elim h
  | succ n ih =>
    intro M v3 v4 h
    rw [wX4_apart_49] at h
    refine a_iload X dX4_apart_49 4 rfl ?_
    refine a_iconst (v := 4) X dX4_apart_51 ic_4 ?_
    refine a_icmp_ge (tgt := 114) X dX4_apart_52 (by decide) (fun z => ?_) (fun z => ?_)
    · have h := h.1 z
      refine a_aload_n X dX4_apart_114 rfl 0 rfl ?_
      refine a_iload_n X dX4_apart_115 rfl 3 rfl ?_
      refine a_cVi (As := [.int v3]) (st := []) X fw4 iz_200 (cX4_good_ok l h) mlX4_195 mvX4_good (rz rfl) (Nat.le_of_ble_eq_true rfl) rfl dX4_apart_116 (fun r_7 M_6 h => ?_)
      exact a_iret X h dX4_apart_119
    · have h := h.2 z
      refine a_iload X dX4_apart_55 4 rfl ?_
      refine a_iconst (v := 2) X dX4_apart_57 ic_2 ?_
      refine a_icmp_ge (tgt := 80) X dX4_apart_58 (by decide) (fun z => ?_) (fun z => ?_)
      · have h := h.1 z
        refine a_aload_n X dX4_apart_80 rfl 0 rfl ?_
        refine a_iload_n X dX4_apart_81 rfl 2 rfl ?_
        refine a_iload_n X dX4_apart_82 rfl 1 rfl ?_
        refine a_iload X dX4_apart_83 4 rfl ?_
        refine a_iconst (v := 2) X dX4_apart_85 ic_2 ?_
        refine a_icmp_ne (tgt := 93) X dX4_apart_86 (by decide) (fun z => ?_) (fun z => ?_)
        · have h := h.1 z
          refine a_iload_n X dX4_apart_93 rfl 2 rfl ?_
          refine a_cVi (As := [.int v2, .int v1, .int v2]) (st := []) X fw4 iz_200 (cX4_apartBy_ok l h) mlX4_322 mvX4_apartBy (rz rfl) (Nat.le_of_ble_eq_true rfl) rfl dX4_apart_94 (fun r_9 M_8 h => ?_)
          refine a_istore (lo' := [(5, .int r_9), (0, .ref (al 200)), (1, .int v1), (2, .int v2), (3, .int v3), (4, .int v4)]) X dX4_apart_97 (by decide) rfl ?_
          refine a_iload X dX4_apart_99 0 rfl ?_
          refine a_iload_n X dX4_apart_101 rfl 4 rfl ?_
          refine a_icmp_le (tgt := 108) X dX4_apart_102 (by decide) (fun z => ?_) (fun z => ?_)
          · have h := h.1 z
            refine a_iinc (v := v4 + 1) (lo' := [(4, .int (v4 + 1)), (5, .int r_9), (0, .ref (al 200)), (1, .int v1), (2, .int v2), (3, .int v3)]) X dX4_apart_108 5 rfl (ii_1 _) (by decide) rfl ?_
            refine a_goto (tgt := 49) X dX4_apart_111 (by decide) ?_
            refine a_sub (ks := [2, 3, 4, 5, 0]) (lo' := [(0, .ref (al 200)), (1, .int v1), (2, .int v2), (3, .int v3), (4, .int (v4 + 1))]) rfl ?_
            exact ih _ _ _ h
          · have h := h.2 z
            refine a_iload X dX4_apart_105 0 rfl ?_
            refine a_istore_n (lo' := [(3, .int r_9), (5, .int r_9), (0, .ref (al 200)), (1, .int v1), (2, .int v2), (4, .int v4)]) X dX4_apart_107 rfl (by decide) rfl ?_
            refine a_iinc (v := v4 + 1) (lo' := [(4, .int (v4 + 1)), (3, .int r_9), (5, .int r_9), (0, .ref (al 200)), (1, .int v1), (2, .int v2)]) X dX4_apart_108 5 rfl (ii_1 _) (by decide) rfl ?_
            refine a_goto (tgt := 49) X dX4_apart_111 (by decide) ?_
            refine a_sub (ks := [3, 4, 5, 1, 0]) (lo' := [(0, .ref (al 200)), (1, .int v1), (2, .int v2), (3, .int r_9), (4, .int (v4 + 1))]) rfl ?_
            exact ih _ _ _ h
        · have h := h.2 z
          refine a_iload_n X dX4_apart_89 rfl 1 rfl ?_
          refine a_goto (tgt := 94) X dX4_apart_90 (by decide) ?_
          refine a_cVi (As := [.int v2, .int v1, .int v1]) (st := []) X fw4 iz_200 (cX4_apartBy_ok l h) mlX4_322 mvX4_apartBy (rz rfl) (Nat.le_of_ble_eq_true rfl) rfl dX4_apart_94 (fun r_11 M_10 h => ?_)
          refine a_istore (lo' := [(5, .int r_11), (0, .ref (al 200)), (1, .int v1), (2, .int v2), (3, .int v3), (4, .int v4)]) X dX4_apart_97 (by decide) rfl ?_
          refine a_iload X dX4_apart_99 0 rfl ?_
          refine a_iload_n X dX4_apart_101 rfl 4 rfl ?_
          refine a_icmp_le (tgt := 108) X dX4_apart_102 (by decide) (fun z => ?_) (fun z => ?_)
          · have h := h.1 z
            refine a_iinc (v := v4 + 1) (lo' := [(4, .int (v4 + 1)), (5, .int r_11), (0, .ref (al 200)), (1, .int v1), (2, .int v2), (3, .int v3)]) X dX4_apart_108 5 rfl (ii_1 _) (by decide) rfl ?_
            refine a_goto (tgt := 49) X dX4_apart_111 (by decide) ?_
            refine a_sub (ks := [2, 3, 4, 5, 0]) (lo' := [(0, .ref (al 200)), (1, .int v1), (2, .int v2), (3, .int v3), (4, .int (v4 + 1))]) rfl ?_
            exact ih _ _ _ h
          · have h := h.2 z
            refine a_iload X dX4_apart_105 0 rfl ?_
            refine a_istore_n (lo' := [(3, .int r_11), (5, .int r_11), (0, .ref (al 200)), (1, .int v1), (2, .int v2), (4, .int v4)]) X dX4_apart_107 rfl (by decide) rfl ?_
            refine a_iinc (v := v4 + 1) (lo' := [(4, .int (v4 + 1)), (3, .int r_11), (5, .int r_11), (0, .ref (al 200)), (1, .int v1), (2, .int v2)]) X dX4_apart_108 5 rfl (ii_1 _) (by decide) rfl ?_
            refine a_goto (tgt := 49) X dX4_apart_111 (by decide) ?_
            refine a_sub (ks := [3, 4, 5, 1, 0]) (lo' := [(0, .ref (al 200)), (1, .int v1), (2, .int v2), (3, .int r_11), (4, .int (v4 + 1))]) rfl ?_
            exact ih _ _ _ h
      · have h := h.2 z
        refine a_aload_n X dX4_apart_61 rfl 0 rfl ?_
        refine a_iload_n X dX4_apart_62 rfl 1 rfl ?_
        refine a_iload_n X dX4_apart_63 rfl 2 rfl ?_
        refine a_iload X dX4_apart_64 4 rfl ?_
        refine a_if_ne (tgt := 73) X dX4_apart_66 (by decide) (fun z => ?_) (fun z => ?_)
        · have h := h.1 z
          refine a_iload_n X dX4_apart_73 rfl 2 rfl ?_
          refine a_cVi (As := [.int v1, .int v2, .int v2]) (st := []) X fw4 iz_200 (cX4_apartBy_ok l h) mlX4_322 mvX4_apartBy (rz rfl) (Nat.le_of_ble_eq_true rfl) rfl dX4_apart_74 (fun r_13 M_12 h => ?_)
          refine a_goto (tgt := 97) X dX4_apart_77 (by decide) ?_
          refine a_istore (lo' := [(5, .int r_13), (0, .ref (al 200)), (1, .int v1), (2, .int v2), (3, .int v3), (4, .int v4)]) X dX4_apart_97 (by decide) rfl ?_
          refine a_iload X dX4_apart_99 0 rfl ?_
          refine a_iload_n X dX4_apart_101 rfl 4 rfl ?_
          refine a_icmp_le (tgt := 108) X dX4_apart_102 (by decide) (fun z => ?_) (fun z => ?_)
          · have h := h.1 z
            refine a_iinc (v := v4 + 1) (lo' := [(4, .int (v4 + 1)), (5, .int r_13), (0, .ref (al 200)), (1, .int v1), (2, .int v2), (3, .int v3)]) X dX4_apart_108 5 rfl (ii_1 _) (by decide) rfl ?_
            refine a_goto (tgt := 49) X dX4_apart_111 (by decide) ?_
            refine a_sub (ks := [2, 3, 4, 5, 0]) (lo' := [(0, .ref (al 200)), (1, .int v1), (2, .int v2), (3, .int v3), (4, .int (v4 + 1))]) rfl ?_
            exact ih _ _ _ h
          · have h := h.2 z
            refine a_iload X dX4_apart_105 0 rfl ?_
            refine a_istore_n (lo' := [(3, .int r_13), (5, .int r_13), (0, .ref (al 200)), (1, .int v1), (2, .int v2), (4, .int v4)]) X dX4_apart_107 rfl (by decide) rfl ?_
            refine a_iinc (v := v4 + 1) (lo' := [(4, .int (v4 + 1)), (3, .int r_13), (5, .int r_13), (0, .ref (al 200)), (1, .int v1), (2, .int v2)]) X dX4_apart_108 5 rfl (ii_1 _) (by decide) rfl ?_
            refine a_goto (tgt := 49) X dX4_apart_111 (by decide) ?_
            refine a_sub (ks := [3, 4, 5, 1, 0]) (lo' := [(0, .ref (al 200)), (1, .int v1), (2, .int v2), (3, .int r_13), (4, .int (v4 + 1))]) rfl ?_
            exact ih _ _ _ h
        · have h := h.2 z
          refine a_iload_n X dX4_apart_69 rfl 1 rfl ?_
          refine a_goto (tgt := 74) X dX4_apart_70 (by decide) ?_
          refine a_cVi (As := [.int v1, .int v2, .int v1]) (st := []) X fw4 iz_200 (cX4_apartBy_ok l h) mlX4_322 mvX4_apartBy (rz rfl) (Nat.le_of_ble_eq_true rfl) rfl dX4_apart_74 (fun r_15 M_14 h => ?_)
          refine a_goto (tgt := 97) X dX4_apart_77 (by decide) ?_
          refine a_istore (lo' := [(5, .int r_15), (0, .ref (al 200)), (1, .int v1), (2, .int v2), (3, .int v3), (4, .int v4)]) X dX4_apart_97 (by decide) rfl ?_
          refine a_iload X dX4_apart_99 0 rfl ?_
          refine a_iload_n X dX4_apart_101 rfl 4 rfl ?_
          refine a_icmp_le (tgt := 108) X dX4_apart_102 (by decide) (fun z => ?_) (fun z => ?_)
          · have h := h.1 z
            refine a_iinc (v := v4 + 1) (lo' := [(4, .int (v4 + 1)), (5, .int r_15), (0, .ref (al 200)), (1, .int v1), (2, .int v2), (3, .int v3)]) X dX4_apart_108 5 rfl (ii_1 _) (by decide) rfl ?_
            refine a_goto (tgt := 49) X dX4_apart_111 (by decide) ?_
            refine a_sub (ks := [2, 3, 4, 5, 0]) (lo' := [(0, .ref (al 200)), (1, .int v1), (2, .int v2), (3, .int v3), (4, .int (v4 + 1))]) rfl ?_
            exact ih _ _ _ h
          · have h := h.2 z
            refine a_iload X dX4_apart_105 0 rfl ?_
            refine a_istore_n (lo' := [(3, .int r_15), (5, .int r_15), (0, .ref (al 200)), (1, .int v1), (2, .int v2), (4, .int v4)]) X dX4_apart_107 rfl (by decide) rfl ?_
            refine a_iinc (v := v4 + 1) (lo' := [(4, .int (v4 + 1)), (3, .int r_15), (5, .int r_15), (0, .ref (al 200)), (1, .int v1), (2, .int v2)]) X dX4_apart_108 5 rfl (ii_1 _) (by decide) rfl ?_
            refine a_goto (tgt := 49) X dX4_apart_111 (by decide) ?_
            refine a_sub (ks := [3, 4, 5, 1, 0]) (lo' := [(0, .ref (al 200)), (1, .int v1), (2, .int v2), (3, .int r_15), (4, .int (v4 + 1))]) rfl ?_
            exact ih _ _ _ h
set_option maxHeartbeats 4000000 in
set_option maxRecDepth 100000 in
theorem cX4_apart_ok (l : Launch) {G : Gl} {al : Nat → Nat} {mk : Nat} {M : Mem} {v1 : Int32} {v2 : Int32} {Q : Int32 → Mem → Prop} (h : wpX4_apart M v1 v2 Q) : Kv l yX4_apart cX4_apart 6 (some .int) rm_X4_apart G al mk M [.ref (al 200), .int v1, .int v2] (QI G al mk Q) := by
  refine a_head (by decide) (Nat.le_of_ble_eq_true rfl) (fun p e s m below meth c X => ?_)
  have X : Cx p s m meth c G RX4 cX4_apart 6 (some .int) := X
  unfold wpX4_apart at h
  refine a_sub (ks := [0, 1, 2]) (lo' := [(0, .ref (al 200)), (1, .int v1), (2, .int v2)]) rfl ?_
  refine a_aload_n X dX4_apart_0 rfl 0 rfl ?_
  refine a_iconst (v := 0) X dX4_apart_1 ic_0 ?_
  refine a_putI (k := 0) X fw4 iz_200 rfl flX4_61 rfl rfl dX4_apart_2 (fun M_1 eM_1 => ?_)
  have h := h M_1 eM_1
  refine a_aload_n X dX4_apart_5 rfl 0 rfl ?_
  refine a_iload_n X dX4_apart_6 rfl 1 rfl ?_
  refine a_iload_n X dX4_apart_7 rfl 2 rfl ?_
  refine a_cVi (As := [.int v1, .int v2]) (st := []) X fw4 iz_200 (cX4_areTwo_ok l h) mlX4_295 mvX4_areTwo (rz rfl) (Nat.le_of_ble_eq_true rfl) rfl dX4_apart_8 (fun r_3 M_2 h => ?_)
  refine a_if_ne (tgt := 20) X dX4_apart_11 (by decide) (fun z => ?_) (fun z => ?_)
  · have h := h.1 z
    refine a_aload_n X dX4_apart_20 rfl 0 rfl ?_
    refine a_getR (k := 23) X 24 (b := 224) fw4 iz_200 rfl rfl flX4_43 rfl dX4_apart_21 ?_
    refine a_iload_n X dX4_apart_24 rfl 1 rfl ?_
    refine a_iald X iz_224 h.1 dX4_apart_25 ?_
    have h := h.2
    refine a_if_eq (tgt := 38) X dX4_apart_26 (by decide) (fun z => ?_) (fun z => ?_)
    · have h := h.1 z
      refine a_aload_n X dX4_apart_38 rfl 0 rfl ?_
      refine a_iconst (v := 5) X dX4_apart_39 ic_5 ?_
      refine a_cVi (As := [.int 5]) (st := []) X fw4 iz_200 (cX4_refused_ok l h) mlX4_179 mvX4_refused (rz rfl) (Nat.le_of_ble_eq_true rfl) rfl dX4_apart_40 (fun r_5 M_4 h => ?_)
      exact a_iret X h dX4_apart_43
    · have h := h.2 z
      refine a_aload_n X dX4_apart_29 rfl 0 rfl ?_
      refine a_getR (k := 23) X 24 (b := 224) fw4 iz_200 rfl rfl flX4_43 rfl dX4_apart_30 ?_
      refine a_iload_n X dX4_apart_33 rfl 2 rfl ?_
      refine a_iald X iz_224 h.1 dX4_apart_34 ?_
      have h := h.2
      refine a_if_ne (tgt := 44) X dX4_apart_35 (by decide) (fun z => ?_) (fun z => ?_)
      · have h := h.1 z
        refine a_iconst (v := 0) X dX4_apart_44 ic_0 ?_
        refine a_istore_n (lo' := [(3, .int 0), (0, .ref (al 200)), (1, .int v1), (2, .int v2)]) X dX4_apart_45 rfl (by decide) rfl ?_
        refine a_iconst (v := 0) X dX4_apart_46 ic_0 ?_
        refine a_istore (lo' := [(4, .int 0), (3, .int 0), (0, .ref (al 200)), (1, .int v1), (2, .int v2)]) X dX4_apart_47 (by decide) rfl ?_
        refine a_sub (ks := [2, 3, 4, 1, 0]) (lo' := [(0, .ref (al 200)), (1, .int v1), (2, .int v2), (3, .int 0), (4, .int 0)]) rfl ?_
        obtain ⟨n9, h⟩ := h
        exact tX4_apart_49 X n9 _ _ _ h
      · have h := h.2 z
        refine a_aload_n X dX4_apart_38 rfl 0 rfl ?_
        refine a_iconst (v := 5) X dX4_apart_39 ic_5 ?_
        refine a_cVi (As := [.int 5]) (st := []) X fw4 iz_200 (cX4_refused_ok l h) mlX4_179 mvX4_refused (rz rfl) (Nat.le_of_ble_eq_true rfl) rfl dX4_apart_40 (fun r_17 M_16 h => ?_)
        exact a_iret X h dX4_apart_43
  · have h := h.2 z
    refine a_aload_n X dX4_apart_14 rfl 0 rfl ?_
    refine a_iconst (v := 1) X dX4_apart_15 ic_1 ?_
    refine a_cVi (As := [.int 1]) (st := []) X fw4 iz_200 (cX4_refused_ok l h) mlX4_179 mvX4_refused (rz rfl) (Nat.le_of_ble_eq_true rfl) rfl dX4_apart_16 (fun r_19 M_18 h => ?_)
    exact a_iret X h dX4_apart_19
abbrev rm_X4_wins : Room := { frames := 4, cells := 0, slots := 0, locals := 92 }
def wX4_wins_26 (Q : Int32 → Mem → Prop) (v1 : Int32) (v2 : Int32) (v3 : Int32) : Nat → Mem → Int32 → Int32 → Prop
  | 0, _, _, _ => False
  | n + 1, M, v4, v5 => (vp_in v1 6 ∧ (((gI M 224 (Int32.toNatClampNeg v1)) < v5 → wpX4_good M v4 (fun r_5 M_4 => Q r_5 M_4)) ∧ (¬ (gI M 224 (Int32.toNatClampNeg v1)) < v5 → (vp_in v2 6 ∧ ((v3 = 0 → wpX4_ceilingOf M v1 v5 (fun r_7 M_6 => wpX4_atMost M_6 v2 r_7 (fun r_9 M_8 => (∀ x_10 : Int32, x_10 = (v4 + ((gI M 224 (Int32.toNatClampNeg v2)) - r_9)) → wX4_wins_26 Q v1 v2 v3 n M_8 x_10 (v5 + 1))))) ∧ (¬ v3 = 0 → wpX4_floorOf M v1 v5 (fun r_12 M_11 => wpX4_sure M_11 v2 r_12 (fun r_14 M_13 => (∀ x_15 : Int32, x_15 = (v4 + ((gI M 224 (Int32.toNatClampNeg v2)) - r_14)) → wX4_wins_26 Q v1 v2 v3 n M_13 x_15 (v5 + 1))))))))))
def wpX4_wins (M : Mem) (v1 : Int32) (v2 : Int32) (v3 : Int32) (Q : Int32 → Mem → Prop) : Prop := (∀ M_1 : Mem, M_1 = pI M 200 0 0 → wpX4_areTwo M_1 v1 v2 (fun r_3 M_2 => ((¬ r_3 = 0 → ∃ n, wX4_wins_26 Q v1 v2 v3 n M_2 0 1) ∧ (r_3 = 0 → wpX4_refused M_2 1 (fun r_17 M_16 => Q r_17 M_16)))))
set_option maxHeartbeats 4000000 in
set_option maxRecDepth 100000 in
theorem tX4_wins_26 (X : Cx p s m meth c G RX4 cX4_wins 6 (some .int)) {Q : Int32 → Mem → Prop} {v1 : Int32} {v2 : Int32} {v3 : Int32} : ∀ (n : Nat) (M : Mem) (v4 : Int32) (v5 : Int32), wX4_wins_26 Q v1 v2 v3 n M v4 v5 → Wa p l e rm_X4_wins s m args below meth c 6 G al mk 0 0 (MQ below (QI G al mk Q) args s 0 0 (gA G)) M 26 [(0, .ref (al 200)), (1, .int v1), (2, .int v2), (3, .int v3), (4, .int v4), (5, .int v5)] [] := by
  intro n
  induction n with
  | zero =>
    intro M v4 v5 h
    exact False.elim h
  | succ n ih =>
    intro M v4 v5 h
    rw [wX4_wins_26] at h
    refine a_iload X dX4_wins_26 5 rfl ?_
    refine a_aload_n X dX4_wins_28 rfl 0 rfl ?_
    refine a_getR (k := 23) X 24 (b := 224) fw4 iz_200 rfl rfl flX4_43 rfl dX4_wins_29 ?_
    refine a_iload_n X dX4_wins_32 rfl 1 rfl ?_
    refine a_iald X iz_224 h.1 dX4_wins_33 ?_
    have h := h.2
    refine a_icmp_gt (tgt := 86) X dX4_wins_34 (by decide) (fun z => ?_) (fun z => ?_)
    · have h := h.1 z
      refine a_aload_n X dX4_wins_86 rfl 0 rfl ?_
      refine a_iload X dX4_wins_87 4 rfl ?_
      refine a_cVi (As := [.int v4]) (st := []) X fw4 iz_200 (cX4_good_ok l h) mlX4_195 mvX4_good (rz rfl) (Nat.le_of_ble_eq_true rfl) rfl dX4_wins_89 (fun r_5 M_4 h => ?_)
      exact a_iret X h dX4_wins_92
    · have h := h.2 z
      refine a_iload X dX4_wins_37 4 rfl ?_
      refine a_aload_n X dX4_wins_39 rfl 0 rfl ?_
      refine a_getR (k := 23) X 24 (b := 224) fw4 iz_200 rfl rfl flX4_43 rfl dX4_wins_40 ?_
      refine a_iload_n X dX4_wins_43 rfl 2 rfl ?_
      refine a_iald X iz_224 h.1 dX4_wins_44 ?_
      have h := h.2
      refine a_iload_n X dX4_wins_45 rfl 3 rfl ?_
      refine a_if_eq (tgt := 64) X dX4_wins_46 (by decide) (fun z => ?_) (fun z => ?_)
      · have h := h.1 z
        refine a_aload_n X dX4_wins_64 rfl 0 rfl ?_
        refine a_iload_n X dX4_wins_65 rfl 2 rfl ?_
        refine a_aload_n X dX4_wins_66 rfl 0 rfl ?_
        refine a_iload_n X dX4_wins_67 rfl 1 rfl ?_
        refine a_iload X dX4_wins_68 5 rfl ?_
        refine a_cVi (As := [.int v1, .int v5]) (st := [.int v2, .ref (al 200), .int (gI M 224 (Int32.toNatClampNeg v2)), .int v4]) X fw4 iz_200 (cX4_ceilingOf_ok l h) mlX4_298 mvX4_ceilingOf (rz rfl) (Nat.le_of_ble_eq_true rfl) rfl dX4_wins_70 (fun r_7 M_6 h => ?_)
        refine a_cVi (As := [.int v2, .int r_7]) (st := [.int (gI M 224 (Int32.toNatClampNeg v2)), .int v4]) X fw4 iz_200 (cX4_atMost_ok l h) mlX4_285 mvX4_atMost (rz rfl) (Nat.le_of_ble_eq_true rfl) rfl dX4_wins_73 (fun r_9 M_8 h => ?_)
        refine a_isub X dX4_wins_76 ?_
        refine a_iadd X dX4_wins_77 ?_
        refine a_topi (fun x_10 ex_10 => ?_)
        have h := h x_10 ex_10
        refine a_istore (lo' := [(4, .int x_10), (0, .ref (al 200)), (1, .int v1), (2, .int v2), (3, .int v3), (5, .int v5)]) X dX4_wins_78 (by decide) rfl ?_
        refine a_iinc (v := v5 + 1) (lo' := [(5, .int (v5 + 1)), (4, .int x_10), (0, .ref (al 200)), (1, .int v1), (2, .int v2), (3, .int v3)]) X dX4_wins_80 5 rfl (ii_1 _) (by decide) rfl ?_
        refine a_goto (tgt := 26) X dX4_wins_83 (by decide) ?_
        refine a_sub (ks := [2, 3, 4, 5, 1, 0]) (lo' := [(0, .ref (al 200)), (1, .int v1), (2, .int v2), (3, .int v3), (4, .int x_10), (5, .int (v5 + 1))]) rfl ?_
        exact ih _ _ _ h
      · have h := h.2 z
        refine a_aload_n X dX4_wins_49 rfl 0 rfl ?_
        refine a_iload_n X dX4_wins_50 rfl 2 rfl ?_
        refine a_aload_n X dX4_wins_51 rfl 0 rfl ?_
        refine a_iload_n X dX4_wins_52 rfl 1 rfl ?_
        refine a_iload X dX4_wins_53 5 rfl ?_
        refine a_cVi (As := [.int v1, .int v5]) (st := [.int v2, .ref (al 200), .int (gI M 224 (Int32.toNatClampNeg v2)), .int v4]) X fw4 iz_200 (cX4_floorOf_ok l h) mlX4_301 mvX4_floorOf (rz rfl) (Nat.le_of_ble_eq_true rfl) rfl dX4_wins_55 (fun r_12 M_11 h => ?_)
        refine a_cVi (As := [.int v2, .int r_12]) (st := [.int (gI M 224 (Int32.toNatClampNeg v2)), .int v4]) X fw4 iz_200 (cX4_sure_ok l h) mlX4_288 mvX4_sure (rz rfl) (Nat.le_of_ble_eq_true rfl) rfl dX4_wins_58 (fun r_14 M_13 h => ?_)
        refine a_goto (tgt := 76) X dX4_wins_61 (by decide) ?_
        refine a_isub X dX4_wins_76 ?_
        refine a_iadd X dX4_wins_77 ?_
        refine a_topi (fun x_15 ex_15 => ?_)
        have h := h x_15 ex_15
        refine a_istore (lo' := [(4, .int x_15), (0, .ref (al 200)), (1, .int v1), (2, .int v2), (3, .int v3), (5, .int v5)]) X dX4_wins_78 (by decide) rfl ?_
        refine a_iinc (v := v5 + 1) (lo' := [(5, .int (v5 + 1)), (4, .int x_15), (0, .ref (al 200)), (1, .int v1), (2, .int v2), (3, .int v3)]) X dX4_wins_80 5 rfl (ii_1 _) (by decide) rfl ?_
        refine a_goto (tgt := 26) X dX4_wins_83 (by decide) ?_
        refine a_sub (ks := [2, 3, 4, 5, 1, 0]) (lo' := [(0, .ref (al 200)), (1, .int v1), (2, .int v2), (3, .int v3), (4, .int x_15), (5, .int (v5 + 1))]) rfl ?_
        exact ih _ _ _ h
set_option maxHeartbeats 4000000 in
set_option maxRecDepth 100000 in
theorem cX4_wins_ok (l : Launch) {G : Gl} {al : Nat → Nat} {mk : Nat} {M : Mem} {v1 : Int32} {v2 : Int32} {v3 : Int32} {Q : Int32 → Mem → Prop} (h : wpX4_wins M v1 v2 v3 Q) : Kv l yX4_wins cX4_wins 6 (some .int) rm_X4_wins G al mk M [.ref (al 200), .int v1, .int v2, .int v3] (QI G al mk Q) := by
  refine a_head (by decide) (Nat.le_of_ble_eq_true rfl) (fun p e s m below meth c X => ?_)
  have X : Cx p s m meth c G RX4 cX4_wins 6 (some .int) := X
  unfold wpX4_wins at h
  refine a_sub (ks := [0, 1, 2, 3]) (lo' := [(0, .ref (al 200)), (1, .int v1), (2, .int v2), (3, .int v3)]) rfl ?_
  refine a_aload_n X dX4_wins_0 rfl 0 rfl ?_
  refine a_iconst (v := 0) X dX4_wins_1 ic_0 ?_
  refine a_putI (k := 0) X fw4 iz_200 rfl flX4_61 rfl rfl dX4_wins_2 (fun M_1 eM_1 => ?_)
  have h := h M_1 eM_1
  refine a_aload_n X dX4_wins_5 rfl 0 rfl ?_
  refine a_iload_n X dX4_wins_6 rfl 1 rfl ?_
  refine a_iload_n X dX4_wins_7 rfl 2 rfl ?_
  refine a_cVi (As := [.int v1, .int v2]) (st := []) X fw4 iz_200 (cX4_areTwo_ok l h) mlX4_295 mvX4_areTwo (rz rfl) (Nat.le_of_ble_eq_true rfl) rfl dX4_wins_8 (fun r_3 M_2 h => ?_)
  refine a_if_ne (tgt := 20) X dX4_wins_11 (by decide) (fun z => ?_) (fun z => ?_)
  · have h := h.1 z
    refine a_iconst (v := 0) X dX4_wins_20 ic_0 ?_
    refine a_istore (lo' := [(4, .int 0), (0, .ref (al 200)), (1, .int v1), (2, .int v2), (3, .int v3)]) X dX4_wins_21 (by decide) rfl ?_
    refine a_iconst (v := 1) X dX4_wins_23 ic_1 ?_
    refine a_istore (lo' := [(5, .int 1), (4, .int 0), (0, .ref (al 200)), (1, .int v1), (2, .int v2), (3, .int v3)]) X dX4_wins_24 (by decide) rfl ?_
    refine a_sub (ks := [2, 3, 4, 5, 1, 0]) (lo' := [(0, .ref (al 200)), (1, .int v1), (2, .int v2), (3, .int v3), (4, .int 0), (5, .int 1)]) rfl ?_
    obtain ⟨n9, h⟩ := h
    exact tX4_wins_26 X n9 _ _ _ h
  · have h := h.2 z
    refine a_aload_n X dX4_wins_14 rfl 0 rfl ?_
    refine a_iconst (v := 1) X dX4_wins_15 ic_1 ?_
    refine a_cVi (As := [.int 1]) (st := []) X fw4 iz_200 (cX4_refused_ok l h) mlX4_179 mvX4_refused (rz rfl) (Nat.le_of_ble_eq_true rfl) rfl dX4_wins_16 (fun r_17 M_16 h => ?_)
    exact a_iret X h dX4_wins_19
abbrev rm_X4_would : Room := { frames := 6, cells := 0, slots := 0, locals := 147 }
def wpX4_would (M : Mem) (v1 : Int32) (v2 : Int32) (Q : Int32 → Mem → Prop) : Prop := (∀ M_1 : Mem, M_1 = pI M 200 0 0 → wpX4_areTwo M_1 v1 v2 (fun r_3 M_2 => ((¬ r_3 = 0 → (vp_in v1 6 ∧ (vp_in v2 6 ∧ ((((gI M_2 224 (Int32.toNatClampNeg v1)) + (gI M_2 224 (Int32.toNatClampNeg v2))) ≤ 1000 → wpX4_joins M_2 v1 v2 4 (fun M_4 => (vp_in 4 6 ∧ wpX4_good M_4 (gI M_4 223 (Int32.toNatClampNeg 4)) (fun r_6 M_5 => Q r_6 M_5)))) ∧ (¬ ((gI M_2 224 (Int32.toNatClampNeg v1)) + (gI M_2 224 (Int32.toNatClampNeg v2))) ≤ 1000 → wpX4_refused M_2 3 (fun r_8 M_7 => Q r_8 M_7)))))) ∧ (r_3 = 0 → wpX4_refused M_2 1 (fun r_10 M_9 => Q r_10 M_9)))))
set_option maxHeartbeats 4000000 in
set_option maxRecDepth 100000 in
theorem cX4_would_ok (l : Launch) {G : Gl} {al : Nat → Nat} {mk : Nat} {M : Mem} {v1 : Int32} {v2 : Int32} {Q : Int32 → Mem → Prop} (h : wpX4_would M v1 v2 Q) : Kv l yX4_would cX4_would 3 (some .int) rm_X4_would G al mk M [.ref (al 200), .int v1, .int v2] (QI G al mk Q) := by
  refine a_head (by decide) (Nat.le_of_ble_eq_true rfl) (fun p e s m below meth c X => ?_)
  have X : Cx p s m meth c G RX4 cX4_would 3 (some .int) := X
  unfold wpX4_would at h
  refine a_sub (ks := [0, 1, 2]) (lo' := [(0, .ref (al 200)), (1, .int v1), (2, .int v2)]) rfl ?_
  refine a_aload_n X dX4_would_0 rfl 0 rfl ?_
  refine a_iconst (v := 0) X dX4_would_1 ic_0 ?_
  refine a_putI (k := 0) X fw4 iz_200 rfl flX4_61 rfl rfl dX4_would_2 (fun M_1 eM_1 => ?_)
  have h := h M_1 eM_1
  refine a_aload_n X dX4_would_5 rfl 0 rfl ?_
  refine a_iload_n X dX4_would_6 rfl 1 rfl ?_
  refine a_iload_n X dX4_would_7 rfl 2 rfl ?_
  refine a_cVi (As := [.int v1, .int v2]) (st := []) X fw4 iz_200 (cX4_areTwo_ok l h) mlX4_295 mvX4_areTwo (rz rfl) (Nat.le_of_ble_eq_true rfl) rfl dX4_would_8 (fun r_3 M_2 h => ?_)
  refine a_if_ne (tgt := 20) X dX4_would_11 (by decide) (fun z => ?_) (fun z => ?_)
  · have h := h.1 z
    refine a_aload_n X dX4_would_20 rfl 0 rfl ?_
    refine a_getR (k := 23) X 24 (b := 224) fw4 iz_200 rfl rfl flX4_43 rfl dX4_would_21 ?_
    refine a_iload_n X dX4_would_24 rfl 1 rfl ?_
    refine a_iald X iz_224 h.1 dX4_would_25 ?_
    have h := h.2
    refine a_aload_n X dX4_would_26 rfl 0 rfl ?_
    refine a_getR (k := 23) X 24 (b := 224) fw4 iz_200 rfl rfl flX4_43 rfl dX4_would_27 ?_
    refine a_iload_n X dX4_would_30 rfl 2 rfl ?_
    refine a_iald X iz_224 h.1 dX4_would_31 ?_
    have h := h.2
    refine a_iadd X dX4_would_32 ?_
    refine a_sipush (v := 1000) X dX4_would_33 sc_1000 ?_
    refine a_icmp_le (tgt := 45) X dX4_would_36 (by decide) (fun z => ?_) (fun z => ?_)
    · have h := h.1 z
      refine a_aload_n X dX4_would_45 rfl 0 rfl ?_
      refine a_iload_n X dX4_would_46 rfl 1 rfl ?_
      refine a_iload_n X dX4_would_47 rfl 2 rfl ?_
      refine a_iconst (v := 4) X dX4_would_48 ic_4 ?_
      refine a_cVv (As := [.int v1, .int v2, .int 4]) (st := []) X fw4 iz_200 (cX4_joins_ok l h) mlX4_325 mvX4_joins (rz rfl) (Nat.le_of_ble_eq_true rfl) rfl dX4_would_49 (fun M_4 h => ?_)
      refine a_aload_n X dX4_would_52 rfl 0 rfl ?_
      refine a_aload_n X dX4_would_53 rfl 0 rfl ?_
      refine a_getR (k := 22) X 23 (b := 223) fw4 iz_200 rfl rfl flX4_40 rfl dX4_would_54 ?_
      refine a_iconst (v := 4) X dX4_would_57 ic_4 ?_
      refine a_iald X iz_223 h.1 dX4_would_58 ?_
      have h := h.2
      refine a_cVi (As := [.int (gI M_4 223 (Int32.toNatClampNeg 4))]) (st := []) X fw4 iz_200 (cX4_good_ok l h) mlX4_195 mvX4_good (rz rfl) (Nat.le_of_ble_eq_true rfl) rfl dX4_would_59 (fun r_6 M_5 h => ?_)
      exact a_iret X h dX4_would_62
    · have h := h.2 z
      refine a_aload_n X dX4_would_39 rfl 0 rfl ?_
      refine a_iconst (v := 3) X dX4_would_40 ic_3 ?_
      refine a_cVi (As := [.int 3]) (st := []) X fw4 iz_200 (cX4_refused_ok l h) mlX4_179 mvX4_refused (rz rfl) (Nat.le_of_ble_eq_true rfl) rfl dX4_would_41 (fun r_8 M_7 h => ?_)
      exact a_iret X h dX4_would_44
  · have h := h.2 z
    refine a_aload_n X dX4_would_14 rfl 0 rfl ?_
    refine a_iconst (v := 1) X dX4_would_15 ic_1 ?_
    refine a_cVi (As := [.int 1]) (st := []) X fw4 iz_200 (cX4_refused_ok l h) mlX4_179 mvX4_refused (rz rfl) (Nat.le_of_ble_eq_true rfl) rfl dX4_would_16 (fun r_10 M_9 h => ?_)
    exact a_iret X h dX4_would_19
abbrev rm_X4_spread : Room := { frames := 2, cells := 0, slots := 0, locals := 43 }
def wpX4_spread (M : Mem) (v1 : Int32) (v2 : Int32) (Q : Int32 → Mem → Prop) : Prop := (∀ M_1 : Mem, M_1 = pI M 200 0 0 → wpX4_isStream M_1 v1 (fun r_3 M_2 => ((¬ r_3 = 0 → wpX4_isValue M_2 v2 (fun r_5 M_4 => ((r_5 = 0 → wpX4_refused M_4 2 (fun r_7 M_6 => Q r_7 M_6)) ∧ (¬ r_5 = 0 → wpX4_place M_4 v1 v2 (fun r_9 M_8 => wpX4_spreadAt M_8 v1 r_9 (fun r_11 M_10 => wpX4_good M_10 r_11 (fun r_13 M_12 => Q r_13 M_12))))))) ∧ (r_3 = 0 → wpX4_refused M_2 1 (fun r_15 M_14 => Q r_15 M_14)))))
set_option maxHeartbeats 4000000 in
set_option maxRecDepth 100000 in
theorem cX4_spread_ok (l : Launch) {G : Gl} {al : Nat → Nat} {mk : Nat} {M : Mem} {v1 : Int32} {v2 : Int32} {Q : Int32 → Mem → Prop} (h : wpX4_spread M v1 v2 Q) : Kv l yX4_spread cX4_spread 3 (some .int) rm_X4_spread G al mk M [.ref (al 200), .int v1, .int v2] (QI G al mk Q) := by
  refine a_head (by decide) (Nat.le_of_ble_eq_true rfl) (fun p e s m below meth c X => ?_)
  have X : Cx p s m meth c G RX4 cX4_spread 3 (some .int) := X
  unfold wpX4_spread at h
  refine a_sub (ks := [0, 1, 2]) (lo' := [(0, .ref (al 200)), (1, .int v1), (2, .int v2)]) rfl ?_
  refine a_aload_n X dX4_spread_0 rfl 0 rfl ?_
  refine a_iconst (v := 0) X dX4_spread_1 ic_0 ?_
  refine a_putI (k := 0) X fw4 iz_200 rfl flX4_61 rfl rfl dX4_spread_2 (fun M_1 eM_1 => ?_)
  have h := h M_1 eM_1
  refine a_aload_n X dX4_spread_5 rfl 0 rfl ?_
  refine a_iload_n X dX4_spread_6 rfl 1 rfl ?_
  refine a_cVi (As := [.int v1]) (st := []) X fw4 iz_200 (cX4_isStream_ok l h) mlX4_247 mvX4_isStream (rz rfl) (Nat.le_of_ble_eq_true rfl) rfl dX4_spread_7 (fun r_3 M_2 h => ?_)
  refine a_if_ne (tgt := 19) X dX4_spread_10 (by decide) (fun z => ?_) (fun z => ?_)
  · have h := h.1 z
    refine a_iload_n X dX4_spread_19 rfl 2 rfl ?_
    refine a_cSi (As := [.int v2]) (st := []) X (cX4_isValue_ok l h) mlX4_304 msX4_isValue (rz rfl) (Nat.le_of_ble_eq_true rfl) rfl dX4_spread_20 (fun r_5 M_4 h => ?_)
    refine a_if_eq (tgt := 44) X dX4_spread_23 (by decide) (fun z => ?_) (fun z => ?_)
    · have h := h.1 z
      refine a_aload_n X dX4_spread_44 rfl 0 rfl ?_
      refine a_iconst (v := 2) X dX4_spread_45 ic_2 ?_
      refine a_cVi (As := [.int 2]) (st := []) X fw4 iz_200 (cX4_refused_ok l h) mlX4_179 mvX4_refused (rz rfl) (Nat.le_of_ble_eq_true rfl) rfl dX4_spread_46 (fun r_7 M_6 h => ?_)
      exact a_iret X h dX4_spread_49
    · have h := h.2 z
      refine a_aload_n X dX4_spread_26 rfl 0 rfl ?_
      refine a_aload_n X dX4_spread_27 rfl 0 rfl ?_
      refine a_iload_n X dX4_spread_28 rfl 1 rfl ?_
      refine a_aload_n X dX4_spread_29 rfl 0 rfl ?_
      refine a_iload_n X dX4_spread_30 rfl 1 rfl ?_
      refine a_iload_n X dX4_spread_31 rfl 2 rfl ?_
      refine a_cVi (As := [.int v1, .int v2]) (st := [.int v1, .ref (al 200), .ref (al 200)]) X fw4 iz_200 (cX4_place_ok l h) mlX4_205 mvX4_place (rz rfl) (Nat.le_of_ble_eq_true rfl) rfl dX4_spread_32 (fun r_9 M_8 h => ?_)
      refine a_cVi (As := [.int v1, .int r_9]) (st := [.ref (al 200)]) X fw4 iz_200 (cX4_spreadAt_ok l h) mlX4_208 mvX4_spreadAt (rz rfl) (Nat.le_of_ble_eq_true rfl) rfl dX4_spread_35 (fun r_11 M_10 h => ?_)
      refine a_cVi (As := [.int r_11]) (st := []) X fw4 iz_200 (cX4_good_ok l h) mlX4_195 mvX4_good (rz rfl) (Nat.le_of_ble_eq_true rfl) rfl dX4_spread_38 (fun r_13 M_12 h => ?_)
      refine a_goto (tgt := 49) X dX4_spread_41 (by decide) ?_
      exact a_iret X h dX4_spread_49
  · have h := h.2 z
    refine a_aload_n X dX4_spread_13 rfl 0 rfl ?_
    refine a_iconst (v := 1) X dX4_spread_14 ic_1 ?_
    refine a_cVi (As := [.int 1]) (st := []) X fw4 iz_200 (cX4_refused_ok l h) mlX4_179 mvX4_refused (rz rfl) (Nat.le_of_ble_eq_true rfl) rfl dX4_spread_15 (fun r_15 M_14 h => ?_)
    exact a_iret X h dX4_spread_18
abbrev rm_X4_finest : Room := { frames := 2, cells := 0, slots := 0, locals := 43 }
def wX4_finest_22 (Q : Int32 → Mem → Prop) (v1 : Int32) : Nat → Mem → Int32 → Prop
  | 0, _, _ => False
  | n + 1, M, v2 => ((v2 ≤ 1 → wpX4_good M (-2) (fun r_5 M_4 => Q r_5 M_4)) ∧ (¬ v2 ≤ 1 → wpX4_widest M v1 (fun r_7 M_6 => (vp_in v1 6 ∧ wpX4_boundBy M_6 (gI M_6 224 (Int32.toNatClampNeg v1)) v2 (fun r_9 M_8 => ((r_9 < r_7 → wX4_finest_22 Q v1 n M_8 (v2 + (-1))) ∧ (¬ r_9 < r_7 → wpX4_good M_8 v2 (fun r_11 M_10 => Q r_11 M_10))))))))
def wpX4_finest (M : Mem) (v1 : Int32) (Q : Int32 → Mem → Prop) : Prop := (∀ M_1 : Mem, M_1 = pI M 200 0 0 → wpX4_isStream M_1 v1 (fun r_3 M_2 => ((¬ r_3 = 0 → ∃ n, wX4_finest_22 Q v1 n M_2 40) ∧ (r_3 = 0 → wpX4_refused M_2 1 (fun r_13 M_12 => Q r_13 M_12)))))
set_option maxHeartbeats 4000000 in
set_option maxRecDepth 100000 in
theorem tX4_finest_22 (X : Cx p s m meth c G RX4 cX4_finest 3 (some .int)) {Q : Int32 → Mem → Prop} {v1 : Int32} : ∀ (n : Nat) (M : Mem) (v2 : Int32), wX4_finest_22 Q v1 n M v2 → Wa p l e rm_X4_finest s m args below meth c 3 G al mk 0 0 (MQ below (QI G al mk Q) args s 0 0 (gA G)) M 22 [(0, .ref (al 200)), (1, .int v1), (2, .int v2)] [] := by
  intro n
  induction n with
  | zero =>
    intro M v2 h
    exact False.elim h
  | succ n ih =>
    intro M v2 h
    rw [wX4_finest_22] at h
    refine a_iload_n X dX4_finest_22 rfl 2 rfl ?_
    refine a_iconst (v := 1) X dX4_finest_23 ic_1 ?_
    refine a_icmp_le (tgt := 57) X dX4_finest_24 (by decide) (fun z => ?_) (fun z => ?_)
    · have h := h.1 z
      refine a_aload_n X dX4_finest_57 rfl 0 rfl ?_
      refine a_bipush (v := (-2)) X dX4_finest_58 bc_m2 ?_
      refine a_cVi (As := [.int (-2)]) (st := []) X fw4 iz_200 (cX4_good_ok l h) mlX4_195 mvX4_good (rz rfl) (Nat.le_of_ble_eq_true rfl) rfl dX4_finest_60 (fun r_5 M_4 h => ?_)
      exact a_iret X h dX4_finest_63
    · have h := h.2 z
      refine a_aload_n X dX4_finest_27 rfl 0 rfl ?_
      refine a_iload_n X dX4_finest_28 rfl 1 rfl ?_
      refine a_cVi (As := [.int v1]) (st := []) X fw4 iz_200 (cX4_widest_ok l h) mlX4_251 mvX4_widest (rz rfl) (Nat.le_of_ble_eq_true rfl) rfl dX4_finest_29 (fun r_7 M_6 h => ?_)
      refine a_aload_n X dX4_finest_32 rfl 0 rfl ?_
      refine a_getR (k := 23) X 24 (b := 224) fw4 iz_200 rfl rfl flX4_43 rfl dX4_finest_33 ?_
      refine a_iload_n X dX4_finest_36 rfl 1 rfl ?_
      refine a_iald X iz_224 h.1 dX4_finest_37 ?_
      have h := h.2
      refine a_iload_n X dX4_finest_38 rfl 2 rfl ?_
      refine a_cSi (As := [.int (gI M_6 224 (Int32.toNatClampNeg v1)), .int v2]) (st := [.int r_7]) X (cX4_boundBy_ok l h) mlX4_198 msX4_boundBy (rz rfl) (Nat.le_of_ble_eq_true rfl) rfl dX4_finest_39 (fun r_9 M_8 h => ?_)
      refine a_icmp_gt (tgt := 51) X dX4_finest_42 (by decide) (fun z => ?_) (fun z => ?_)
      · have h := h.1 z
        refine a_iinc (v := v2 + (-1)) (lo' := [(2, .int (v2 + (-1))), (0, .ref (al 200)), (1, .int v1)]) X dX4_finest_51 2 rfl (ii_m1 _) (by decide) rfl ?_
        refine a_goto (tgt := 22) X dX4_finest_54 (by decide) ?_
        refine a_sub (ks := [1, 2, 0]) (lo' := [(0, .ref (al 200)), (1, .int v1), (2, .int (v2 + (-1)))]) rfl ?_
        exact ih _ _ h
      · have h := h.2 z
        refine a_aload_n X dX4_finest_45 rfl 0 rfl ?_
        refine a_iload_n X dX4_finest_46 rfl 2 rfl ?_
        refine a_cVi (As := [.int v2]) (st := []) X fw4 iz_200 (cX4_good_ok l h) mlX4_195 mvX4_good (rz rfl) (Nat.le_of_ble_eq_true rfl) rfl dX4_finest_47 (fun r_11 M_10 h => ?_)
        exact a_iret X h dX4_finest_50
set_option maxHeartbeats 4000000 in
set_option maxRecDepth 100000 in
theorem cX4_finest_ok (l : Launch) {G : Gl} {al : Nat → Nat} {mk : Nat} {M : Mem} {v1 : Int32} {Q : Int32 → Mem → Prop} (h : wpX4_finest M v1 Q) : Kv l yX4_finest cX4_finest 3 (some .int) rm_X4_finest G al mk M [.ref (al 200), .int v1] (QI G al mk Q) := by
  refine a_head (by decide) (Nat.le_of_ble_eq_true rfl) (fun p e s m below meth c X => ?_)
  have X : Cx p s m meth c G RX4 cX4_finest 3 (some .int) := X
  unfold wpX4_finest at h
  refine a_sub (ks := [0, 1]) (lo' := [(0, .ref (al 200)), (1, .int v1)]) rfl ?_
  refine a_aload_n X dX4_finest_0 rfl 0 rfl ?_
  refine a_iconst (v := 0) X dX4_finest_1 ic_0 ?_
  refine a_putI (k := 0) X fw4 iz_200 rfl flX4_61 rfl rfl dX4_finest_2 (fun M_1 eM_1 => ?_)
  have h := h M_1 eM_1
  refine a_aload_n X dX4_finest_5 rfl 0 rfl ?_
  refine a_iload_n X dX4_finest_6 rfl 1 rfl ?_
  refine a_cVi (As := [.int v1]) (st := []) X fw4 iz_200 (cX4_isStream_ok l h) mlX4_247 mvX4_isStream (rz rfl) (Nat.le_of_ble_eq_true rfl) rfl dX4_finest_7 (fun r_3 M_2 h => ?_)
  refine a_if_ne (tgt := 19) X dX4_finest_10 (by decide) (fun z => ?_) (fun z => ?_)
  · have h := h.1 z
    refine a_bipush (v := 40) X dX4_finest_19 bc_40 ?_
    refine a_istore_n (lo' := [(2, .int 40), (0, .ref (al 200)), (1, .int v1)]) X dX4_finest_21 rfl (by decide) rfl ?_
    refine a_sub (ks := [1, 2, 0]) (lo' := [(0, .ref (al 200)), (1, .int v1), (2, .int 40)]) rfl ?_
    obtain ⟨n9, h⟩ := h
    exact tX4_finest_22 X n9 _ _ h
  · have h := h.2 z
    refine a_aload_n X dX4_finest_13 rfl 0 rfl ?_
    refine a_iconst (v := 1) X dX4_finest_14 ic_1 ?_
    refine a_cVi (As := [.int 1]) (st := []) X fw4 iz_200 (cX4_refused_ok l h) mlX4_179 mvX4_refused (rz rfl) (Nat.le_of_ble_eq_true rfl) rfl dX4_finest_15 (fun r_13 M_12 h => ?_)
    exact a_iret X h dX4_finest_18
abbrev rm_X4_wholeLays : Room := { frames := 6, cells := 0, slots := 0, locals := 147 }
def wX4_wholeLays_38 (Q : Int32 → Mem → Prop) : Nat → Mem → Int32 → Prop
  | 0, _, _ => False
  | n + 1, M, v1 => (((gI M 200 29) ≤ v1 → Q 0 M) ∧ (¬ (gI M 200 29) ≤ v1 → (vp_in v1 6 ∧ ((¬ (gI M 224 (Int32.toNatClampNeg v1)) = 0 → (vp_in 4 6 ∧ ((¬ (gI M 223 (Int32.toNatClampNeg 4)) = 0 → wpX4_joins M 4 v1 5 (fun M_6 => wpX4_copiesRow M_6 5 4 (fun M_7 => wX4_wholeLays_38 Q n M_7 (v1 + 1)))) ∧ ((gI M 223 (Int32.toNatClampNeg 4)) = 0 → wpX4_copiesRow M v1 4 (fun M_8 => wX4_wholeLays_38 Q n M_8 (v1 + 1)))))) ∧ ((gI M 224 (Int32.toNatClampNeg v1)) = 0 → wX4_wholeLays_38 Q n M (v1 + 1))))))
def wpX4_wholeLays (M : Mem) (Q : Int32 → Mem → Prop) : Prop := wpX4_sumOf M 224 6 (fun r_2 M_1 => ((¬ r_2 = 0 → wpX4_sumOf M_1 224 6 (fun r_4 M_3 => ((r_4 ≤ 1000 → (vp_in 4 6 ∧ ∀ M_5 : Mem, M_5 = pI M_3 223 (Int32.toNatClampNeg 4) 0 → ∃ n, wX4_wholeLays_38 Q n M_5 0)) ∧ (¬ r_4 ≤ 1000 → Q 3 M_3)))) ∧ (r_2 = 0 → Q 5 M_1)))
set_option maxHeartbeats 4000000 in
set_option maxRecDepth 100000 in
theorem tX4_wholeLays_38 (X : Cx p s m meth c G RX4 cX4_wholeLays 2 (some .int)) {Q : Int32 → Mem → Prop} : ∀ (n : Nat) (M : Mem) (v1 : Int32), wX4_wholeLays_38 Q n M v1 → Wa p l e rm_X4_wholeLays s m args below meth c 2 G al mk 0 0 (MQ below (QI G al mk Q) args s 0 0 (gA G)) M 38 [(0, .ref (al 200)), (1, .int v1)] [] := by
  intro n
  induction n with
  | zero =>
    intro M v1 h
    exact False.elim h
  | succ n ih =>
    intro M v1 h
    rw [wX4_wholeLays_38] at h
    refine a_iload_n X dX4_wholeLays_38 rfl 1 rfl ?_
    refine a_aload_n X dX4_wholeLays_39 rfl 0 rfl ?_
    refine a_getI (k := 29) X fw4 iz_200 rfl flX4_187 rfl dX4_wholeLays_40 ?_
    refine a_icmp_ge (tgt := 95) X dX4_wholeLays_43 (by decide) (fun z => ?_) (fun z => ?_)
    · have h := h.1 z
      refine a_iconst (v := 0) X dX4_wholeLays_95 ic_0 ?_
      exact a_iret X h dX4_wholeLays_96
    · have h := h.2 z
      refine a_aload_n X dX4_wholeLays_46 rfl 0 rfl ?_
      refine a_getR (k := 23) X 24 (b := 224) fw4 iz_200 rfl rfl flX4_43 rfl dX4_wholeLays_47 ?_
      refine a_iload_n X dX4_wholeLays_50 rfl 1 rfl ?_
      refine a_iald X iz_224 h.1 dX4_wholeLays_51 ?_
      have h := h.2
      refine a_if_ne (tgt := 58) X dX4_wholeLays_52 (by decide) (fun z => ?_) (fun z => ?_)
      · have h := h.1 z
        refine a_aload_n X dX4_wholeLays_58 rfl 0 rfl ?_
        refine a_getR (k := 22) X 23 (b := 223) fw4 iz_200 rfl rfl flX4_40 rfl dX4_wholeLays_59 ?_
        refine a_iconst (v := 4) X dX4_wholeLays_62 ic_4 ?_
        refine a_iald X iz_223 h.1 dX4_wholeLays_63 ?_
        have h := h.2
        refine a_if_ne (tgt := 76) X dX4_wholeLays_64 (by decide) (fun z => ?_) (fun z => ?_)
        · have h := h.1 z
          refine a_aload_n X dX4_wholeLays_76 rfl 0 rfl ?_
          refine a_iconst (v := 4) X dX4_wholeLays_77 ic_4 ?_
          refine a_iload_n X dX4_wholeLays_78 rfl 1 rfl ?_
          refine a_iconst (v := 5) X dX4_wholeLays_79 ic_5 ?_
          refine a_cVv (As := [.int 4, .int v1, .int 5]) (st := []) X fw4 iz_200 (cX4_joins_ok l h) mlX4_325 mvX4_joins (rz rfl) (Nat.le_of_ble_eq_true rfl) rfl dX4_wholeLays_80 (fun M_6 h => ?_)
          refine a_aload_n X dX4_wholeLays_83 rfl 0 rfl ?_
          refine a_iconst (v := 5) X dX4_wholeLays_84 ic_5 ?_
          refine a_iconst (v := 4) X dX4_wholeLays_85 ic_4 ?_
          refine a_cVv (As := [.int 5, .int 4]) (st := []) X fw4 iz_200 (cX4_copiesRow_ok l h) mlX4_328 mvX4_copiesRow (rz rfl) (Nat.le_of_ble_eq_true rfl) rfl dX4_wholeLays_86 (fun M_7 h => ?_)
          refine a_iinc (v := v1 + 1) (lo' := [(1, .int (v1 + 1)), (0, .ref (al 200))]) X dX4_wholeLays_89 1 rfl (ii_1 _) (by decide) rfl ?_
          refine a_goto (tgt := 38) X dX4_wholeLays_92 (by decide) ?_
          refine a_sub (ks := [1, 0]) (lo' := [(0, .ref (al 200)), (1, .int (v1 + 1))]) rfl ?_
          exact ih _ _ h
        · have h := h.2 z
          refine a_aload_n X dX4_wholeLays_67 rfl 0 rfl ?_
          refine a_iload_n X dX4_wholeLays_68 rfl 1 rfl ?_
          refine a_iconst (v := 4) X dX4_wholeLays_69 ic_4 ?_
          refine a_cVv (As := [.int v1, .int 4]) (st := []) X fw4 iz_200 (cX4_copiesRow_ok l h) mlX4_328 mvX4_copiesRow (rz rfl) (Nat.le_of_ble_eq_true rfl) rfl dX4_wholeLays_70 (fun M_8 h => ?_)
          refine a_goto (tgt := 89) X dX4_wholeLays_73 (by decide) ?_
          refine a_iinc (v := v1 + 1) (lo' := [(1, .int (v1 + 1)), (0, .ref (al 200))]) X dX4_wholeLays_89 1 rfl (ii_1 _) (by decide) rfl ?_
          refine a_goto (tgt := 38) X dX4_wholeLays_92 (by decide) ?_
          refine a_sub (ks := [1, 0]) (lo' := [(0, .ref (al 200)), (1, .int (v1 + 1))]) rfl ?_
          exact ih _ _ h
      · have h := h.2 z
        refine a_goto (tgt := 89) X dX4_wholeLays_55 (by decide) ?_
        refine a_iinc (v := v1 + 1) (lo' := [(1, .int (v1 + 1)), (0, .ref (al 200))]) X dX4_wholeLays_89 1 rfl (ii_1 _) (by decide) rfl ?_
        refine a_goto (tgt := 38) X dX4_wholeLays_92 (by decide) ?_
        refine a_sub (ks := [1, 0]) (lo' := [(0, .ref (al 200)), (1, .int (v1 + 1))]) rfl ?_
        exact ih _ _ h
set_option maxHeartbeats 4000000 in
set_option maxRecDepth 100000 in
theorem cX4_wholeLays_ok (l : Launch) {G : Gl} {al : Nat → Nat} {mk : Nat} {M : Mem} {Q : Int32 → Mem → Prop} (h : wpX4_wholeLays M Q) : Kv l yX4_wholeLays cX4_wholeLays 2 (some .int) rm_X4_wholeLays G al mk M [.ref (al 200)] (QI G al mk Q) := by
  refine a_head (by decide) (Nat.le_of_ble_eq_true rfl) (fun p e s m below meth c X => ?_)
  have X : Cx p s m meth c G RX4 cX4_wholeLays 2 (some .int) := X
  unfold wpX4_wholeLays at h
  refine a_sub (ks := [0]) (lo' := [(0, .ref (al 200))]) rfl ?_
  refine a_aload_n X dX4_wholeLays_0 rfl 0 rfl ?_
  refine a_aload_n X dX4_wholeLays_1 rfl 0 rfl ?_
  refine a_getR (k := 23) X 24 (b := 224) fw4 iz_200 rfl rfl flX4_43 rfl dX4_wholeLays_2 ?_
  refine a_cVi (As := [.ref (al 224)]) (st := []) X fw4 iz_200 (cX4_sumOf_ok l iz_224 h) mlX4_243 mvX4_sumOf (rz rfl) (Nat.le_of_ble_eq_true rfl) rfl dX4_wholeLays_5 (fun r_2 M_1 h => ?_)
  refine a_if_ne (tgt := 13) X dX4_wholeLays_8 (by decide) (fun z => ?_) (fun z => ?_)
  · have h := h.1 z
    refine a_aload_n X dX4_wholeLays_13 rfl 0 rfl ?_
    refine a_aload_n X dX4_wholeLays_14 rfl 0 rfl ?_
    refine a_getR (k := 23) X 24 (b := 224) fw4 iz_200 rfl rfl flX4_43 rfl dX4_wholeLays_15 ?_
    refine a_cVi (As := [.ref (al 224)]) (st := []) X fw4 iz_200 (cX4_sumOf_ok l iz_224 h) mlX4_243 mvX4_sumOf (rz rfl) (Nat.le_of_ble_eq_true rfl) rfl dX4_wholeLays_18 (fun r_4 M_3 h => ?_)
    refine a_sipush (v := 1000) X dX4_wholeLays_21 sc_1000 ?_
    refine a_icmp_le (tgt := 29) X dX4_wholeLays_24 (by decide) (fun z => ?_) (fun z => ?_)
    · have h := h.1 z
      refine a_aload_n X dX4_wholeLays_29 rfl 0 rfl ?_
      refine a_getR (k := 22) X 23 (b := 223) fw4 iz_200 rfl rfl flX4_40 rfl dX4_wholeLays_30 ?_
      refine a_iconst (v := 4) X dX4_wholeLays_33 ic_4 ?_
      refine a_iconst (v := 0) X dX4_wholeLays_34 ic_0 ?_
      refine a_iast X iz_223 h.1 dX4_wholeLays_35 (fun M_5 eM_5 => ?_)
      have h := h.2 M_5 eM_5
      refine a_iconst (v := 0) X dX4_wholeLays_36 ic_0 ?_
      refine a_istore_n (lo' := [(1, .int 0), (0, .ref (al 200))]) X dX4_wholeLays_37 rfl (by decide) rfl ?_
      refine a_sub (ks := [1, 0]) (lo' := [(0, .ref (al 200)), (1, .int 0)]) rfl ?_
      obtain ⟨n9, h⟩ := h
      exact tX4_wholeLays_38 X n9 _ _ h
    · have h := h.2 z
      refine a_iconst (v := 3) X dX4_wholeLays_27 ic_3 ?_
      exact a_iret X h dX4_wholeLays_28
  · have h := h.2 z
    refine a_iconst (v := 5) X dX4_wholeLays_11 ic_5 ?_
    exact a_iret X h dX4_wholeLays_12
abbrev rm_X4_whole : Room := { frames := 7, cells := 0, slots := 0, locals := 168 }
def wpX4_whole (M : Mem) (v1 : Int32) (Q : Int32 → Mem → Prop) : Prop := (∀ M_1 : Mem, M_1 = pI M 200 0 0 → (((gI M_1 200 28) = 0 → wpX4_refused M_1 1 (fun r_3 M_2 => Q r_3 M_2)) ∧ (¬ (gI M_1 200 28) = 0 → wpX4_in M_1 v1 0 2 (fun r_5 M_4 => ((¬ r_5 = 0 → wpX4_wholeLays M_4 (fun r_7 M_6 => ((r_7 ≤ 0 → ((¬ v1 = 0 → ((¬ v1 = 1 → wpX4_worstOf M_6 4 (fun r_9 M_8 => wpX4_good M_8 r_9 (fun r_11 M_10 => Q r_11 M_10))) ∧ (v1 = 1 → (vp_in 4 6 ∧ wpX4_good M_6 (gI M_6 223 (Int32.toNatClampNeg 4)) (fun r_13 M_12 => Q r_13 M_12))))) ∧ (v1 = 0 → (vp_in 4 6 ∧ wpX4_good M_6 (gI M_6 224 (Int32.toNatClampNeg 4)) (fun r_15 M_14 => Q r_15 M_14))))) ∧ (¬ r_7 ≤ 0 → wpX4_refused M_6 r_7 (fun r_17 M_16 => Q r_17 M_16))))) ∧ (r_5 = 0 → wpX4_refused M_4 1 (fun r_19 M_18 => Q r_19 M_18)))))))
set_option maxHeartbeats 4000000 in
set_option maxRecDepth 100000 in
theorem cX4_whole_ok (l : Launch) {G : Gl} {al : Nat → Nat} {mk : Nat} {M : Mem} {v1 : Int32} {Q : Int32 → Mem → Prop} (h : wpX4_whole M v1 Q) : Kv l yX4_whole cX4_whole 3 (some .int) rm_X4_whole G al mk M [.ref (al 200), .int v1] (QI G al mk Q) := by
  refine a_head (by decide) (Nat.le_of_ble_eq_true rfl) (fun p e s m below meth c X => ?_)
  have X : Cx p s m meth c G RX4 cX4_whole 3 (some .int) := X
  unfold wpX4_whole at h
  refine a_sub (ks := [0, 1]) (lo' := [(0, .ref (al 200)), (1, .int v1)]) rfl ?_
  refine a_aload_n X dX4_whole_0 rfl 0 rfl ?_
  refine a_iconst (v := 0) X dX4_whole_1 ic_0 ?_
  refine a_putI (k := 0) X fw4 iz_200 rfl flX4_61 rfl rfl dX4_whole_2 (fun M_1 eM_1 => ?_)
  have h := h M_1 eM_1
  refine a_aload_n X dX4_whole_5 rfl 0 rfl ?_
  refine a_getI (k := 28) X fw4 iz_200 rfl flX4_185 rfl dX4_whole_6 ?_
  refine a_if_eq (tgt := 21) X dX4_whole_9 (by decide) (fun z => ?_) (fun z => ?_)
  · have h := h.1 z
    refine a_aload_n X dX4_whole_21 rfl 0 rfl ?_
    refine a_iconst (v := 1) X dX4_whole_22 ic_1 ?_
    refine a_cVi (As := [.int 1]) (st := []) X fw4 iz_200 (cX4_refused_ok l h) mlX4_179 mvX4_refused (rz rfl) (Nat.le_of_ble_eq_true rfl) rfl dX4_whole_23 (fun r_3 M_2 h => ?_)
    exact a_iret X h dX4_whole_26
  · have h := h.2 z
    refine a_iload_n X dX4_whole_12 rfl 1 rfl ?_
    refine a_iconst (v := 0) X dX4_whole_13 ic_0 ?_
    refine a_iconst (v := 2) X dX4_whole_14 ic_2 ?_
    refine a_cSi (As := [.int v1, .int 0, .int 2]) (st := []) X (cX4_in_ok l h) mlX4_86 msX4_in (rz rfl) (Nat.le_of_ble_eq_true rfl) rfl dX4_whole_15 (fun r_5 M_4 h => ?_)
    refine a_if_ne (tgt := 27) X dX4_whole_18 (by decide) (fun z => ?_) (fun z => ?_)
    · have h := h.1 z
      refine a_aload_n X dX4_whole_27 rfl 0 rfl ?_
      refine a_cVi (As := []) (st := []) X fw4 iz_200 (cX4_wholeLays_ok l h) mlX4_331 mvX4_wholeLays (rz rfl) (Nat.le_of_ble_eq_true rfl) rfl dX4_whole_28 (fun r_7 M_6 h => ?_)
      refine a_istore_n (lo' := [(2, .int r_7), (0, .ref (al 200)), (1, .int v1)]) X dX4_whole_31 rfl (by decide) rfl ?_
      refine a_iload_n X dX4_whole_32 rfl 0 rfl ?_
      refine a_if_le (tgt := 42) X dX4_whole_33 (by decide) (fun z => ?_) (fun z => ?_)
      · have h := h.1 z
        refine a_aload_n X dX4_whole_42 rfl 1 rfl ?_
        refine a_iload_n X dX4_whole_43 rfl 2 rfl ?_
        refine a_if_ne (tgt := 56) X dX4_whole_44 (by decide) (fun z => ?_) (fun z => ?_)
        · have h := h.1 z
          refine a_iload_n X dX4_whole_56 rfl 2 rfl ?_
          refine a_iconst (v := 1) X dX4_whole_57 ic_1 ?_
          refine a_icmp_ne (tgt := 70) X dX4_whole_58 (by decide) (fun z => ?_) (fun z => ?_)
          · have h := h.1 z
            refine a_aload_n X dX4_whole_70 rfl 1 rfl ?_
            refine a_iconst (v := 4) X dX4_whole_71 ic_4 ?_
            refine a_cVi (As := [.int 4]) (st := [.ref (al 200)]) X fw4 iz_200 (cX4_worstOf_ok l h) mlX4_310 mvX4_worstOf (rz rfl) (Nat.le_of_ble_eq_true rfl) rfl dX4_whole_72 (fun r_9 M_8 h => ?_)
            refine a_cVi (As := [.int r_9]) (st := []) X fw4 iz_200 (cX4_good_ok l h) mlX4_195 mvX4_good (rz rfl) (Nat.le_of_ble_eq_true rfl) rfl dX4_whole_75 (fun r_11 M_10 h => ?_)
            exact a_iret X h dX4_whole_78
          · have h := h.2 z
            refine a_aload_n X dX4_whole_61 rfl 1 rfl ?_
            refine a_getR (k := 22) X 23 (b := 223) fw4 iz_200 rfl rfl flX4_40 rfl dX4_whole_62 ?_
            refine a_iconst (v := 4) X dX4_whole_65 ic_4 ?_
            refine a_iald X iz_223 h.1 dX4_whole_66 ?_
            have h := h.2
            refine a_goto (tgt := 75) X dX4_whole_67 (by decide) ?_
            refine a_cVi (As := [.int (gI M_6 223 (Int32.toNatClampNeg 4))]) (st := []) X fw4 iz_200 (cX4_good_ok l h) mlX4_195 mvX4_good (rz rfl) (Nat.le_of_ble_eq_true rfl) rfl dX4_whole_75 (fun r_13 M_12 h => ?_)
            exact a_iret X h dX4_whole_78
        · have h := h.2 z
          refine a_aload_n X dX4_whole_47 rfl 1 rfl ?_
          refine a_getR (k := 23) X 24 (b := 224) fw4 iz_200 rfl rfl flX4_43 rfl dX4_whole_48 ?_
          refine a_iconst (v := 4) X dX4_whole_51 ic_4 ?_
          refine a_iald X iz_224 h.1 dX4_whole_52 ?_
          have h := h.2
          refine a_goto (tgt := 75) X dX4_whole_53 (by decide) ?_
          refine a_cVi (As := [.int (gI M_6 224 (Int32.toNatClampNeg 4))]) (st := []) X fw4 iz_200 (cX4_good_ok l h) mlX4_195 mvX4_good (rz rfl) (Nat.le_of_ble_eq_true rfl) rfl dX4_whole_75 (fun r_15 M_14 h => ?_)
          exact a_iret X h dX4_whole_78
      · have h := h.2 z
        refine a_aload_n X dX4_whole_36 rfl 1 rfl ?_
        refine a_iload_n X dX4_whole_37 rfl 0 rfl ?_
        refine a_cVi (As := [.int r_7]) (st := []) X fw4 iz_200 (cX4_refused_ok l h) mlX4_179 mvX4_refused (rz rfl) (Nat.le_of_ble_eq_true rfl) rfl dX4_whole_38 (fun r_17 M_16 h => ?_)
        exact a_iret X h dX4_whole_41
    · have h := h.2 z
      refine a_aload_n X dX4_whole_21 rfl 0 rfl ?_
      refine a_iconst (v := 1) X dX4_whole_22 ic_1 ?_
      refine a_cVi (As := [.int 1]) (st := []) X fw4 iz_200 (cX4_refused_ok l h) mlX4_179 mvX4_refused (rz rfl) (Nat.le_of_ble_eq_true rfl) rfl dX4_whole_23 (fun r_19 M_18 h => ?_)
      exact a_iret X h dX4_whole_26
abbrev rm_X4_overall : Room := { frames := 7, cells := 0, slots := 0, locals := 168 }
def wpX4_overall (M : Mem) (v1 : Int32) (v2 : Int32) (Q : Int32 → Mem → Prop) : Prop := (∀ M_1 : Mem, M_1 = pI M 200 0 0 → (((gI M_1 200 28) = 0 → wpX4_refused M_1 1 (fun r_3 M_2 => Q r_3 M_2)) ∧ (¬ (gI M_1 200 28) = 0 → wpX4_in M_1 v2 0 1 (fun r_5 M_4 => ((¬ r_5 = 0 → wpX4_wholeLays M_4 (fun r_7 M_6 => ((r_7 ≤ 0 → wpX4_isPlace M_6 4 v1 (fun r_9 M_8 => ((¬ r_9 = 0 → wpX4_answers M_8 4 v1 (fun r_11 M_10 => ((¬ v2 = 0 → wpX4_good M_10 (gI M_10 200 31) (fun r_13 M_12 => Q r_13 M_12)) ∧ (v2 = 0 → (vp_in (4000 + r_11) 6000 ∧ wpX4_good M_10 (gI M_10 220 (Int32.toNatClampNeg (4000 + r_11))) (fun r_15 M_14 => Q r_15 M_14)))))) ∧ (r_9 = 0 → wpX4_refused M_8 2 (fun r_17 M_16 => Q r_17 M_16))))) ∧ (¬ r_7 ≤ 0 → wpX4_refused M_6 r_7 (fun r_19 M_18 => Q r_19 M_18))))) ∧ (r_5 = 0 → wpX4_refused M_4 1 (fun r_21 M_20 => Q r_21 M_20)))))))
set_option maxHeartbeats 4000000 in
set_option maxRecDepth 100000 in
theorem cX4_overall_ok (l : Launch) {G : Gl} {al : Nat → Nat} {mk : Nat} {M : Mem} {v1 : Int32} {v2 : Int32} {Q : Int32 → Mem → Prop} (h : wpX4_overall M v1 v2 Q) : Kv l yX4_overall cX4_overall 5 (some .int) rm_X4_overall G al mk M [.ref (al 200), .int v1, .int v2] (QI G al mk Q) := by
  refine a_head (by decide) (Nat.le_of_ble_eq_true rfl) (fun p e s m below meth c X => ?_)
  have X : Cx p s m meth c G RX4 cX4_overall 5 (some .int) := X
  unfold wpX4_overall at h
  refine a_sub (ks := [0, 1, 2]) (lo' := [(0, .ref (al 200)), (1, .int v1), (2, .int v2)]) rfl ?_
  refine a_aload_n X dX4_overall_0 rfl 0 rfl ?_
  refine a_iconst (v := 0) X dX4_overall_1 ic_0 ?_
  refine a_putI (k := 0) X fw4 iz_200 rfl flX4_61 rfl rfl dX4_overall_2 (fun M_1 eM_1 => ?_)
  have h := h M_1 eM_1
  refine a_aload_n X dX4_overall_5 rfl 0 rfl ?_
  refine a_getI (k := 28) X fw4 iz_200 rfl flX4_185 rfl dX4_overall_6 ?_
  refine a_if_eq (tgt := 21) X dX4_overall_9 (by decide) (fun z => ?_) (fun z => ?_)
  · have h := h.1 z
    refine a_aload_n X dX4_overall_21 rfl 0 rfl ?_
    refine a_iconst (v := 1) X dX4_overall_22 ic_1 ?_
    refine a_cVi (As := [.int 1]) (st := []) X fw4 iz_200 (cX4_refused_ok l h) mlX4_179 mvX4_refused (rz rfl) (Nat.le_of_ble_eq_true rfl) rfl dX4_overall_23 (fun r_3 M_2 h => ?_)
    exact a_iret X h dX4_overall_26
  · have h := h.2 z
    refine a_iload_n X dX4_overall_12 rfl 2 rfl ?_
    refine a_iconst (v := 0) X dX4_overall_13 ic_0 ?_
    refine a_iconst (v := 1) X dX4_overall_14 ic_1 ?_
    refine a_cSi (As := [.int v2, .int 0, .int 1]) (st := []) X (cX4_in_ok l h) mlX4_86 msX4_in (rz rfl) (Nat.le_of_ble_eq_true rfl) rfl dX4_overall_15 (fun r_5 M_4 h => ?_)
    refine a_if_ne (tgt := 27) X dX4_overall_18 (by decide) (fun z => ?_) (fun z => ?_)
    · have h := h.1 z
      refine a_aload_n X dX4_overall_27 rfl 0 rfl ?_
      refine a_cVi (As := []) (st := []) X fw4 iz_200 (cX4_wholeLays_ok l h) mlX4_331 mvX4_wholeLays (rz rfl) (Nat.le_of_ble_eq_true rfl) rfl dX4_overall_28 (fun r_7 M_6 h => ?_)
      refine a_istore_n (lo' := [(3, .int r_7), (0, .ref (al 200)), (1, .int v1), (2, .int v2)]) X dX4_overall_31 rfl (by decide) rfl ?_
      refine a_iload_n X dX4_overall_32 rfl 0 rfl ?_
      refine a_if_le (tgt := 42) X dX4_overall_33 (by decide) (fun z => ?_) (fun z => ?_)
      · have h := h.1 z
        refine a_aload_n X dX4_overall_42 rfl 1 rfl ?_
        refine a_iconst (v := 4) X dX4_overall_43 ic_4 ?_
        refine a_iload_n X dX4_overall_44 rfl 2 rfl ?_
        refine a_cVi (As := [.int 4, .int v1]) (st := []) X fw4 iz_200 (cX4_isPlace_ok l h) mlX4_273 mvX4_isPlace (rz rfl) (Nat.le_of_ble_eq_true rfl) rfl dX4_overall_45 (fun r_9 M_8 h => ?_)
        refine a_if_ne (tgt := 57) X dX4_overall_48 (by decide) (fun z => ?_) (fun z => ?_)
        · have h := h.1 z
          refine a_aload_n X dX4_overall_57 rfl 1 rfl ?_
          refine a_iconst (v := 4) X dX4_overall_58 ic_4 ?_
          refine a_iload_n X dX4_overall_59 rfl 2 rfl ?_
          refine a_cVi (As := [.int 4, .int v1]) (st := []) X fw4 iz_200 (cX4_answers_ok l h) mlX4_276 mvX4_answers (rz rfl) (Nat.le_of_ble_eq_true rfl) rfl dX4_overall_60 (fun r_11 M_10 h => ?_)
          refine a_istore (lo' := [(4, .int r_11), (3, .int r_7), (0, .ref (al 200)), (1, .int v1), (2, .int v2)]) X dX4_overall_63 (by decide) rfl ?_
          refine a_aload_n X dX4_overall_65 rfl 2 rfl ?_
          refine a_iload_n X dX4_overall_66 rfl 4 rfl ?_
          refine a_if_ne (tgt := 84) X dX4_overall_67 (by decide) (fun z => ?_) (fun z => ?_)
          · have h := h.1 z
            refine a_aload_n X dX4_overall_84 rfl 2 rfl ?_
            refine a_getI (k := 31) X fw4 iz_200 rfl flX4_270 rfl dX4_overall_85 ?_
            refine a_cVi (As := [.int (gI M_10 200 31)]) (st := []) X fw4 iz_200 (cX4_good_ok l h) mlX4_195 mvX4_good (rz rfl) (Nat.le_of_ble_eq_true rfl) rfl dX4_overall_88 (fun r_13 M_12 h => ?_)
            exact a_iret X h dX4_overall_91
          · have h := h.2 z
            refine a_aload_n X dX4_overall_70 rfl 2 rfl ?_
            refine a_getR (k := 19) X 20 (b := 220) fw4 iz_200 rfl rfl flX4_31 rfl dX4_overall_71 ?_
            refine a_sipush (v := 4000) X dX4_overall_74 sc_4000 ?_
            refine a_iload X dX4_overall_77 0 rfl ?_
            refine a_iadd X dX4_overall_79 ?_
            refine a_iald X iz_220 h.1 dX4_overall_80 ?_
            have h := h.2
            refine a_goto (tgt := 88) X dX4_overall_81 (by decide) ?_
            refine a_cVi (As := [.int (gI M_10 220 (Int32.toNatClampNeg (4000 + r_11)))]) (st := []) X fw4 iz_200 (cX4_good_ok l h) mlX4_195 mvX4_good (rz rfl) (Nat.le_of_ble_eq_true rfl) rfl dX4_overall_88 (fun r_15 M_14 h => ?_)
            exact a_iret X h dX4_overall_91
        · have h := h.2 z
          refine a_aload_n X dX4_overall_51 rfl 1 rfl ?_
          refine a_iconst (v := 2) X dX4_overall_52 ic_2 ?_
          refine a_cVi (As := [.int 2]) (st := []) X fw4 iz_200 (cX4_refused_ok l h) mlX4_179 mvX4_refused (rz rfl) (Nat.le_of_ble_eq_true rfl) rfl dX4_overall_53 (fun r_17 M_16 h => ?_)
          exact a_iret X h dX4_overall_56
      · have h := h.2 z
        refine a_aload_n X dX4_overall_36 rfl 1 rfl ?_
        refine a_iload_n X dX4_overall_37 rfl 0 rfl ?_
        refine a_cVi (As := [.int r_7]) (st := []) X fw4 iz_200 (cX4_refused_ok l h) mlX4_179 mvX4_refused (rz rfl) (Nat.le_of_ble_eq_true rfl) rfl dX4_overall_38 (fun r_19 M_18 h => ?_)
        exact a_iret X h dX4_overall_41
    · have h := h.2 z
      refine a_aload_n X dX4_overall_21 rfl 0 rfl ?_
      refine a_iconst (v := 1) X dX4_overall_22 ic_1 ?_
      refine a_cVi (As := [.int 1]) (st := []) X fw4 iz_200 (cX4_refused_ok l h) mlX4_179 mvX4_refused (rz rfl) (Nat.le_of_ble_eq_true rfl) rfl dX4_overall_23 (fun r_21 M_20 h => ?_)
      exact a_iret X h dX4_overall_26
abbrev rm_X4_rounds : Room := { frames := 5, cells := 0, slots := 0, locals := 117 }
def wX4_rounds_27 (Q : Int32 → Mem → Prop) : Nat → Mem → Int32 → Prop
  | 0, _, _ => False
  | n + 1, M, v2 => wpX4_boundOf M 4 (fun r_6 M_5 => wpX4_shortens M_5 4 r_6 (fun r_8 M_7 => ((r_8 ≤ 0 → wpX4_good M_7 v2 (fun r_10 M_9 => Q r_10 M_9)) ∧ (¬ r_8 ≤ 0 → wX4_rounds_27 Q n M_7 (v2 + 1)))))
def wpX4_rounds (M : Mem) (v1 : Int32) (Q : Int32 → Mem → Prop) : Prop := (∀ M_1 : Mem, M_1 = pI M 200 0 0 → wpX4_isStream M_1 v1 (fun r_3 M_2 => ((¬ r_3 = 0 → wpX4_copiesRow M_2 v1 4 (fun M_4 => ∃ n, wX4_rounds_27 Q n M_4 0)) ∧ (r_3 = 0 → wpX4_refused M_2 1 (fun r_12 M_11 => Q r_12 M_11)))))
set_option maxHeartbeats 4000000 in
set_option maxRecDepth 100000 in
theorem tX4_rounds_27 (X : Cx p s m meth c G RX4 cX4_rounds 3 (some .int)) {Q : Int32 → Mem → Prop} : ∀ (n : Nat) (M : Mem) (v2 : Int32), wX4_rounds_27 Q n M v2 → Wa p l e rm_X4_rounds s m args below meth c 3 G al mk 0 0 (MQ below (QI G al mk Q) args s 0 0 (gA G)) M 27 [(0, .ref (al 200)), (2, .int v2)] [] := by
  intro n
  induction n with
  | zero =>
    intro M v2 h
    exact False.elim h
  | succ n ih =>
    intro M v2 h
    rw [wX4_rounds_27] at h
    refine a_aload_n X dX4_rounds_27 rfl 0 rfl ?_
    refine a_iconst (v := 4) X dX4_rounds_28 ic_4 ?_
    refine a_aload_n X dX4_rounds_29 rfl 0 rfl ?_
    refine a_iconst (v := 4) X dX4_rounds_30 ic_4 ?_
    refine a_cVi (As := [.int 4]) (st := [.int 4, .ref (al 200)]) X fw4 iz_200 (cX4_boundOf_ok l h) mlX4_237 mvX4_boundOf (rz rfl) (Nat.le_of_ble_eq_true rfl) rfl dX4_rounds_31 (fun r_6 M_5 h => ?_)
    refine a_cVi (As := [.int 4, .int r_6]) (st := []) X fw4 iz_200 (cX4_shortens_ok l h) mlX4_240 mvX4_shortens (rz rfl) (Nat.le_of_ble_eq_true rfl) rfl dX4_rounds_34 (fun r_8 M_7 h => ?_)
    refine a_if_le (tgt := 46) X dX4_rounds_37 (by decide) (fun z => ?_) (fun z => ?_)
    · have h := h.1 z
      refine a_aload_n X dX4_rounds_46 rfl 0 rfl ?_
      refine a_iload_n X dX4_rounds_47 rfl 1 rfl ?_
      refine a_cVi (As := [.int v2]) (st := []) X fw4 iz_200 (cX4_good_ok l h) mlX4_195 mvX4_good (rz rfl) (Nat.le_of_ble_eq_true rfl) rfl dX4_rounds_48 (fun r_10 M_9 h => ?_)
      exact a_iret X h dX4_rounds_51
    · have h := h.2 z
      refine a_iinc (v := v2 + 1) (lo' := [(2, .int (v2 + 1)), (0, .ref (al 200))]) X dX4_rounds_40 1 rfl (ii_1 _) (by decide) rfl ?_
      refine a_goto (tgt := 27) X dX4_rounds_43 (by decide) ?_
      refine a_sub (ks := [1, 0]) (lo' := [(0, .ref (al 200)), (2, .int (v2 + 1))]) rfl ?_
      exact ih _ _ h
set_option maxHeartbeats 4000000 in
set_option maxRecDepth 100000 in
theorem cX4_rounds_ok (l : Launch) {G : Gl} {al : Nat → Nat} {mk : Nat} {M : Mem} {v1 : Int32} {Q : Int32 → Mem → Prop} (h : wpX4_rounds M v1 Q) : Kv l yX4_rounds cX4_rounds 3 (some .int) rm_X4_rounds G al mk M [.ref (al 200), .int v1] (QI G al mk Q) := by
  refine a_head (by decide) (Nat.le_of_ble_eq_true rfl) (fun p e s m below meth c X => ?_)
  have X : Cx p s m meth c G RX4 cX4_rounds 3 (some .int) := X
  unfold wpX4_rounds at h
  refine a_sub (ks := [0, 1]) (lo' := [(0, .ref (al 200)), (1, .int v1)]) rfl ?_
  refine a_aload_n X dX4_rounds_0 rfl 0 rfl ?_
  refine a_iconst (v := 0) X dX4_rounds_1 ic_0 ?_
  refine a_putI (k := 0) X fw4 iz_200 rfl flX4_61 rfl rfl dX4_rounds_2 (fun M_1 eM_1 => ?_)
  have h := h M_1 eM_1
  refine a_aload_n X dX4_rounds_5 rfl 0 rfl ?_
  refine a_iload_n X dX4_rounds_6 rfl 1 rfl ?_
  refine a_cVi (As := [.int v1]) (st := []) X fw4 iz_200 (cX4_isStream_ok l h) mlX4_247 mvX4_isStream (rz rfl) (Nat.le_of_ble_eq_true rfl) rfl dX4_rounds_7 (fun r_3 M_2 h => ?_)
  refine a_if_ne (tgt := 19) X dX4_rounds_10 (by decide) (fun z => ?_) (fun z => ?_)
  · have h := h.1 z
    refine a_aload_n X dX4_rounds_19 rfl 0 rfl ?_
    refine a_iload_n X dX4_rounds_20 rfl 1 rfl ?_
    refine a_iconst (v := 4) X dX4_rounds_21 ic_4 ?_
    refine a_cVv (As := [.int v1, .int 4]) (st := []) X fw4 iz_200 (cX4_copiesRow_ok l h) mlX4_328 mvX4_copiesRow (rz rfl) (Nat.le_of_ble_eq_true rfl) rfl dX4_rounds_22 (fun M_4 h => ?_)
    refine a_iconst (v := 0) X dX4_rounds_25 ic_0 ?_
    refine a_istore_n (lo' := [(2, .int 0), (0, .ref (al 200)), (1, .int v1)]) X dX4_rounds_26 rfl (by decide) rfl ?_
    refine a_sub (ks := [1, 0]) (lo' := [(0, .ref (al 200)), (2, .int 0)]) rfl ?_
    obtain ⟨n9, h⟩ := h
    exact tX4_rounds_27 X n9 _ _ h
  · have h := h.2 z
    refine a_aload_n X dX4_rounds_13 rfl 0 rfl ?_
    refine a_iconst (v := 1) X dX4_rounds_14 ic_1 ?_
    refine a_cVi (As := [.int 1]) (st := []) X fw4 iz_200 (cX4_refused_ok l h) mlX4_179 mvX4_refused (rz rfl) (Nat.le_of_ble_eq_true rfl) rfl dX4_rounds_15 (fun r_12 M_11 h => ?_)
    exact a_iret X h dX4_rounds_18
abbrev rm_X4_coarse : Room := { frames := 5, cells := 0, slots := 0, locals := 117 }
def wpX4_coarse (M : Mem) (v1 : Int32) (v2 : Int32) (Q : Int32 → Mem → Prop) : Prop := (∀ M_1 : Mem, M_1 = pI M 200 0 0 → wpX4_isStream M_1 v1 (fun r_3 M_2 => ((¬ r_3 = 0 → wpX4_in M_2 v2 2 (gI M_2 200 28) (fun r_5 M_4 => ((¬ r_5 = 0 → wpX4_copiesRow M_4 v1 4 (fun M_6 => (vp_in v1 6 ∧ wpX4_boundBy M_6 (gI M_6 224 (Int32.toNatClampNeg v1)) v2 (fun r_8 M_7 => wpX4_shortens M_7 4 r_8 (fun r_10 M_9 => (vp_in v1 6 ∧ wpX4_good M_9 ((gI M_9 223 (Int32.toNatClampNeg v1)) - r_10) (fun r_12 M_11 => Q r_12 M_11))))))) ∧ (r_5 = 0 → wpX4_refused M_4 2 (fun r_14 M_13 => Q r_14 M_13))))) ∧ (r_3 = 0 → wpX4_refused M_2 1 (fun r_16 M_15 => Q r_16 M_15)))))
set_option maxHeartbeats 4000000 in
set_option maxRecDepth 100000 in
theorem cX4_coarse_ok (l : Launch) {G : Gl} {al : Nat → Nat} {mk : Nat} {M : Mem} {v1 : Int32} {v2 : Int32} {Q : Int32 → Mem → Prop} (h : wpX4_coarse M v1 v2 Q) : Kv l yX4_coarse cX4_coarse 4 (some .int) rm_X4_coarse G al mk M [.ref (al 200), .int v1, .int v2] (QI G al mk Q) := by
  refine a_head (by decide) (Nat.le_of_ble_eq_true rfl) (fun p e s m below meth c X => ?_)
  have X : Cx p s m meth c G RX4 cX4_coarse 4 (some .int) := X
  unfold wpX4_coarse at h
  refine a_sub (ks := [0, 1, 2]) (lo' := [(0, .ref (al 200)), (1, .int v1), (2, .int v2)]) rfl ?_
  refine a_aload_n X dX4_coarse_0 rfl 0 rfl ?_
  refine a_iconst (v := 0) X dX4_coarse_1 ic_0 ?_
  refine a_putI (k := 0) X fw4 iz_200 rfl flX4_61 rfl rfl dX4_coarse_2 (fun M_1 eM_1 => ?_)
  have h := h M_1 eM_1
  refine a_aload_n X dX4_coarse_5 rfl 0 rfl ?_
  refine a_iload_n X dX4_coarse_6 rfl 1 rfl ?_
  refine a_cVi (As := [.int v1]) (st := []) X fw4 iz_200 (cX4_isStream_ok l h) mlX4_247 mvX4_isStream (rz rfl) (Nat.le_of_ble_eq_true rfl) rfl dX4_coarse_7 (fun r_3 M_2 h => ?_)
  refine a_if_ne (tgt := 19) X dX4_coarse_10 (by decide) (fun z => ?_) (fun z => ?_)
  · have h := h.1 z
    refine a_iload_n X dX4_coarse_19 rfl 2 rfl ?_
    refine a_iconst (v := 2) X dX4_coarse_20 ic_2 ?_
    refine a_aload_n X dX4_coarse_21 rfl 0 rfl ?_
    refine a_getI (k := 28) X fw4 iz_200 rfl flX4_185 rfl dX4_coarse_22 ?_
    refine a_cSi (As := [.int v2, .int 2, .int (gI M_2 200 28)]) (st := []) X (cX4_in_ok l h) mlX4_86 msX4_in (rz rfl) (Nat.le_of_ble_eq_true rfl) rfl dX4_coarse_25 (fun r_5 M_4 h => ?_)
    refine a_if_ne (tgt := 37) X dX4_coarse_28 (by decide) (fun z => ?_) (fun z => ?_)
    · have h := h.1 z
      refine a_aload_n X dX4_coarse_37 rfl 0 rfl ?_
      refine a_iload_n X dX4_coarse_38 rfl 1 rfl ?_
      refine a_iconst (v := 4) X dX4_coarse_39 ic_4 ?_
      refine a_cVv (As := [.int v1, .int 4]) (st := []) X fw4 iz_200 (cX4_copiesRow_ok l h) mlX4_328 mvX4_copiesRow (rz rfl) (Nat.le_of_ble_eq_true rfl) rfl dX4_coarse_40 (fun M_6 h => ?_)
      refine a_aload_n X dX4_coarse_43 rfl 0 rfl ?_
      refine a_iconst (v := 4) X dX4_coarse_44 ic_4 ?_
      refine a_aload_n X dX4_coarse_45 rfl 0 rfl ?_
      refine a_getR (k := 23) X 24 (b := 224) fw4 iz_200 rfl rfl flX4_43 rfl dX4_coarse_46 ?_
      refine a_iload_n X dX4_coarse_49 rfl 1 rfl ?_
      refine a_iald X iz_224 h.1 dX4_coarse_50 ?_
      have h := h.2
      refine a_iload_n X dX4_coarse_51 rfl 2 rfl ?_
      refine a_cSi (As := [.int (gI M_6 224 (Int32.toNatClampNeg v1)), .int v2]) (st := [.int 4, .ref (al 200)]) X (cX4_boundBy_ok l h) mlX4_198 msX4_boundBy (rz rfl) (Nat.le_of_ble_eq_true rfl) rfl dX4_coarse_52 (fun r_8 M_7 h => ?_)
      refine a_cVi (As := [.int 4, .int r_8]) (st := []) X fw4 iz_200 (cX4_shortens_ok l h) mlX4_240 mvX4_shortens (rz rfl) (Nat.le_of_ble_eq_true rfl) rfl dX4_coarse_55 (fun r_10 M_9 h => ?_)
      refine a_istore_n (lo' := [(3, .int r_10), (0, .ref (al 200)), (1, .int v1), (2, .int v2)]) X dX4_coarse_58 rfl (by decide) rfl ?_
      refine a_aload_n X dX4_coarse_59 rfl 1 rfl ?_
      refine a_aload_n X dX4_coarse_60 rfl 1 rfl ?_
      refine a_getR (k := 22) X 23 (b := 223) fw4 iz_200 rfl rfl flX4_40 rfl dX4_coarse_61 ?_
      refine a_iload_n X dX4_coarse_64 rfl 2 rfl ?_
      refine a_iald X iz_223 h.1 dX4_coarse_65 ?_
      have h := h.2
      refine a_iload_n X dX4_coarse_66 rfl 0 rfl ?_
      refine a_isub X dX4_coarse_67 ?_
      refine a_cVi (As := [.int ((gI M_9 223 (Int32.toNatClampNeg v1)) - r_10)]) (st := []) X fw4 iz_200 (cX4_good_ok l h) mlX4_195 mvX4_good (rz rfl) (Nat.le_of_ble_eq_true rfl) rfl dX4_coarse_68 (fun r_12 M_11 h => ?_)
      exact a_iret X h dX4_coarse_71
    · have h := h.2 z
      refine a_aload_n X dX4_coarse_31 rfl 0 rfl ?_
      refine a_iconst (v := 2) X dX4_coarse_32 ic_2 ?_
      refine a_cVi (As := [.int 2]) (st := []) X fw4 iz_200 (cX4_refused_ok l h) mlX4_179 mvX4_refused (rz rfl) (Nat.le_of_ble_eq_true rfl) rfl dX4_coarse_33 (fun r_14 M_13 h => ?_)
      exact a_iret X h dX4_coarse_36
  · have h := h.2 z
    refine a_aload_n X dX4_coarse_13 rfl 0 rfl ?_
    refine a_iconst (v := 1) X dX4_coarse_14 ic_1 ?_
    refine a_cVi (As := [.int 1]) (st := []) X fw4 iz_200 (cX4_refused_ok l h) mlX4_179 mvX4_refused (rz rfl) (Nat.le_of_ble_eq_true rfl) rfl dX4_coarse_15 (fun r_16 M_15 h => ?_)
    exact a_iret X h dX4_coarse_18
abbrev rm_X4_push : Room := { frames := 7, cells := 0, slots := 0, locals := 162 }
def wpX4_push (M : Mem) (v1 : Int32) (v2 : Int32) (Q : Int32 → Mem → Prop) : Prop := (∀ M_1 : Mem, M_1 = pI M 200 0 0 → wpX4_isStream M_1 v1 (fun r_3 M_2 => ((¬ r_3 = 0 → wpX4_isValue M_2 v2 (fun r_5 M_4 => ((¬ r_5 = 0 → (vp_in v1 6 ∧ ((¬ (gI M_4 224 (Int32.toNatClampNeg v1)) = 1000 → wpX4_pushes M_4 v1 v2 (fun M_6 => (vp_in v1 6 ∧ wpX4_good M_6 (gI M_6 223 (Int32.toNatClampNeg v1)) (fun r_8 M_7 => Q r_8 M_7)))) ∧ ((gI M_4 224 (Int32.toNatClampNeg v1)) = 1000 → wpX4_refused M_4 3 (fun r_10 M_9 => Q r_10 M_9))))) ∧ (r_5 = 0 → wpX4_refused M_4 2 (fun r_12 M_11 => Q r_12 M_11))))) ∧ (r_3 = 0 → wpX4_refused M_2 1 (fun r_14 M_13 => Q r_14 M_13)))))
set_option maxHeartbeats 4000000 in
set_option maxRecDepth 100000 in
theorem cX4_push_ok (l : Launch) {G : Gl} {al : Nat → Nat} {mk : Nat} {M : Mem} {v1 : Int32} {v2 : Int32} {Q : Int32 → Mem → Prop} (h : wpX4_push M v1 v2 Q) : Kv l yX4_push cX4_push 3 (some .int) rm_X4_push G al mk M [.ref (al 200), .int v1, .int v2] (QI G al mk Q) := by
  refine a_head (by decide) (Nat.le_of_ble_eq_true rfl) (fun p e s m below meth c X => ?_)
  have X : Cx p s m meth c G RX4 cX4_push 3 (some .int) := X
  unfold wpX4_push at h
  refine a_sub (ks := [0, 1, 2]) (lo' := [(0, .ref (al 200)), (1, .int v1), (2, .int v2)]) rfl ?_
  refine a_aload_n X dX4_push_0 rfl 0 rfl ?_
  refine a_iconst (v := 0) X dX4_push_1 ic_0 ?_
  refine a_putI (k := 0) X fw4 iz_200 rfl flX4_61 rfl rfl dX4_push_2 (fun M_1 eM_1 => ?_)
  have h := h M_1 eM_1
  refine a_aload_n X dX4_push_5 rfl 0 rfl ?_
  refine a_iload_n X dX4_push_6 rfl 1 rfl ?_
  refine a_cVi (As := [.int v1]) (st := []) X fw4 iz_200 (cX4_isStream_ok l h) mlX4_247 mvX4_isStream (rz rfl) (Nat.le_of_ble_eq_true rfl) rfl dX4_push_7 (fun r_3 M_2 h => ?_)
  refine a_if_ne (tgt := 19) X dX4_push_10 (by decide) (fun z => ?_) (fun z => ?_)
  · have h := h.1 z
    refine a_iload_n X dX4_push_19 rfl 2 rfl ?_
    refine a_cSi (As := [.int v2]) (st := []) X (cX4_isValue_ok l h) mlX4_304 msX4_isValue (rz rfl) (Nat.le_of_ble_eq_true rfl) rfl dX4_push_20 (fun r_5 M_4 h => ?_)
    refine a_if_ne (tgt := 32) X dX4_push_23 (by decide) (fun z => ?_) (fun z => ?_)
    · have h := h.1 z
      refine a_aload_n X dX4_push_32 rfl 0 rfl ?_
      refine a_getR (k := 23) X 24 (b := 224) fw4 iz_200 rfl rfl flX4_43 rfl dX4_push_33 ?_
      refine a_iload_n X dX4_push_36 rfl 1 rfl ?_
      refine a_iald X iz_224 h.1 dX4_push_37 ?_
      have h := h.2
      refine a_sipush (v := 1000) X dX4_push_38 sc_1000 ?_
      refine a_icmp_ne (tgt := 50) X dX4_push_41 (by decide) (fun z => ?_) (fun z => ?_)
      · have h := h.1 z
        refine a_aload_n X dX4_push_50 rfl 0 rfl ?_
        refine a_iload_n X dX4_push_51 rfl 1 rfl ?_
        refine a_iload_n X dX4_push_52 rfl 2 rfl ?_
        refine a_cVv (As := [.int v1, .int v2]) (st := []) X fw4 iz_200 (cX4_pushes_ok l h) mlX4_193 mvX4_pushes (rz rfl) (Nat.le_of_ble_eq_true rfl) rfl dX4_push_53 (fun M_6 h => ?_)
        refine a_aload_n X dX4_push_56 rfl 0 rfl ?_
        refine a_aload_n X dX4_push_57 rfl 0 rfl ?_
        refine a_getR (k := 22) X 23 (b := 223) fw4 iz_200 rfl rfl flX4_40 rfl dX4_push_58 ?_
        refine a_iload_n X dX4_push_61 rfl 1 rfl ?_
        refine a_iald X iz_223 h.1 dX4_push_62 ?_
        have h := h.2
        refine a_cVi (As := [.int (gI M_6 223 (Int32.toNatClampNeg v1))]) (st := []) X fw4 iz_200 (cX4_good_ok l h) mlX4_195 mvX4_good (rz rfl) (Nat.le_of_ble_eq_true rfl) rfl dX4_push_63 (fun r_8 M_7 h => ?_)
        exact a_iret X h dX4_push_66
      · have h := h.2 z
        refine a_aload_n X dX4_push_44 rfl 0 rfl ?_
        refine a_iconst (v := 3) X dX4_push_45 ic_3 ?_
        refine a_cVi (As := [.int 3]) (st := []) X fw4 iz_200 (cX4_refused_ok l h) mlX4_179 mvX4_refused (rz rfl) (Nat.le_of_ble_eq_true rfl) rfl dX4_push_46 (fun r_10 M_9 h => ?_)
        exact a_iret X h dX4_push_49
    · have h := h.2 z
      refine a_aload_n X dX4_push_26 rfl 0 rfl ?_
      refine a_iconst (v := 2) X dX4_push_27 ic_2 ?_
      refine a_cVi (As := [.int 2]) (st := []) X fw4 iz_200 (cX4_refused_ok l h) mlX4_179 mvX4_refused (rz rfl) (Nat.le_of_ble_eq_true rfl) rfl dX4_push_28 (fun r_12 M_11 h => ?_)
      exact a_iret X h dX4_push_31
  · have h := h.2 z
    refine a_aload_n X dX4_push_13 rfl 0 rfl ?_
    refine a_iconst (v := 1) X dX4_push_14 ic_1 ?_
    refine a_cVi (As := [.int 1]) (st := []) X fw4 iz_200 (cX4_refused_ok l h) mlX4_179 mvX4_refused (rz rfl) (Nat.le_of_ble_eq_true rfl) rfl dX4_push_15 (fun r_14 M_13 h => ?_)
    exact a_iret X h dX4_push_18
abbrev rm_X4_draw : Room := { frames := 7, cells := 0, slots := 0, locals := 162 }
def wX4_draw_70 (Q : Int32 → Mem → Prop) (v1 : Int32) (v2 : Int32) (v3 : Int32) : Nat → Mem → Int32 → Prop
  | 0, _, _ => False
  | n + 1, M, v4 => ((v2 ≤ v4 → (vp_in v1 6 ∧ wpX4_good M (gI M 223 (Int32.toNatClampNeg v1)) (fun r_11 M_10 => Q r_11 M_10))) ∧ (¬ v2 ≤ v4 → (∀ M_12 : Mem, M_12 = pI M 200 30 (((75 * (gI M 200 30)) + 74) - ((75 * (gI M 200 30)) + 74) / 65537 * 65537) → (¬ v3 = 0 ∧ wpX4_pushes M_12 v1 ((gI M_12 200 30) - (gI M_12 200 30) / v3 * v3) (fun M_13 => wX4_draw_70 Q v1 v2 v3 n M_13 (v4 + 1))))))
def wpX4_draw (M : Mem) (v1 : Int32) (v2 : Int32) (v3 : Int32) (Q : Int32 → Mem → Prop) : Prop := (∀ M_1 : Mem, M_1 = pI M 200 0 0 → wpX4_isStream M_1 v1 (fun r_3 M_2 => ((¬ r_3 = 0 → wpX4_in M_2 v2 1 200 (fun r_5 M_4 => ((r_5 = 0 → wpX4_refused M_4 2 (fun r_7 M_6 => Q r_7 M_6)) ∧ (¬ r_5 = 0 → wpX4_in M_4 v3 1 1000 (fun r_9 M_8 => ((¬ r_9 = 0 → (vp_in v1 6 ∧ ((((gI M_8 224 (Int32.toNatClampNeg v1)) + v2) ≤ 1000 → ∃ n, wX4_draw_70 Q v1 v2 v3 n M_8 0) ∧ (¬ ((gI M_8 224 (Int32.toNatClampNeg v1)) + v2) ≤ 1000 → wpX4_refused M_8 3 (fun r_15 M_14 => Q r_15 M_14))))) ∧ (r_9 = 0 → wpX4_refused M_8 2 (fun r_17 M_16 => Q r_17 M_16)))))))) ∧ (r_3 = 0 → wpX4_refused M_2 1 (fun r_19 M_18 => Q r_19 M_18)))))
set_option maxHeartbeats 4000000 in
set_option maxRecDepth 100000 in
theorem tX4_draw_70 (X : Cx p s m meth c G RX4 cX4_draw 5 (some .int)) {Q : Int32 → Mem → Prop} {v1 : Int32} {v2 : Int32} {v3 : Int32} : ∀ (n : Nat) (M : Mem) (v4 : Int32), wX4_draw_70 Q v1 v2 v3 n M v4 → Wa p l e rm_X4_draw s m args below meth c 5 G al mk 0 0 (MQ below (QI G al mk Q) args s 0 0 (gA G)) M 70 [(0, .ref (al 200)), (1, .int v1), (2, .int v2), (3, .int v3), (4, .int v4)] [] := by
  intro n
  induction n with
  | zero =>
    intro M v4 h
    exact False.elim h
  | succ n ih =>
    intro M v4 h
    rw [wX4_draw_70] at h
    refine a_iload X dX4_draw_70 4 rfl ?_
    refine a_iload_n X dX4_draw_72 rfl 2 rfl ?_
    refine a_icmp_ge (tgt := 111) X dX4_draw_73 (by decide) (fun z => ?_) (fun z => ?_)
    · have h := h.1 z
      refine a_aload_n X dX4_draw_111 rfl 0 rfl ?_
      refine a_aload_n X dX4_draw_112 rfl 0 rfl ?_
      refine a_getR (k := 22) X 23 (b := 223) fw4 iz_200 rfl rfl flX4_40 rfl dX4_draw_113 ?_
      refine a_iload_n X dX4_draw_116 rfl 1 rfl ?_
      refine a_iald X iz_223 h.1 dX4_draw_117 ?_
      have h := h.2
      refine a_cVi (As := [.int (gI M 223 (Int32.toNatClampNeg v1))]) (st := []) X fw4 iz_200 (cX4_good_ok l h) mlX4_195 mvX4_good (rz rfl) (Nat.le_of_ble_eq_true rfl) rfl dX4_draw_118 (fun r_11 M_10 h => ?_)
      exact a_iret X h dX4_draw_121
    · have h := h.2 z
      refine a_aload_n X dX4_draw_76 rfl 0 rfl ?_
      refine a_bipush (v := 75) X dX4_draw_77 bc_75 ?_
      refine a_aload_n X dX4_draw_79 rfl 0 rfl ?_
      refine a_getI (k := 30) X fw4 iz_200 rfl flX4_58 rfl dX4_draw_80 ?_
      refine a_imul X dX4_draw_83 ?_
      refine a_bipush (v := 74) X dX4_draw_84 bc_74 ?_
      refine a_iadd X dX4_draw_86 ?_
      refine a_ldcw X cnX4_334 dX4_draw_87 ?_
      refine a_irem X dX4_draw_90 (by decide) ?_
      refine a_putI (k := 30) X fw4 iz_200 rfl flX4_58 rfl rfl dX4_draw_91 (fun M_12 eM_12 => ?_)
      have h := h M_12 eM_12
      refine a_aload_n X dX4_draw_94 rfl 0 rfl ?_
      refine a_iload_n X dX4_draw_95 rfl 1 rfl ?_
      refine a_aload_n X dX4_draw_96 rfl 0 rfl ?_
      refine a_getI (k := 30) X fw4 iz_200 rfl flX4_58 rfl dX4_draw_97 ?_
      refine a_iload_n X dX4_draw_100 rfl 3 rfl ?_
      refine a_irem X dX4_draw_101 h.1 ?_
      have h := h.2
      refine a_cVv (As := [.int v1, .int ((gI M_12 200 30) - (gI M_12 200 30) / v3 * v3)]) (st := []) X fw4 iz_200 (cX4_pushes_ok l h) mlX4_193 mvX4_pushes (rz rfl) (Nat.le_of_ble_eq_true rfl) rfl dX4_draw_102 (fun M_13 h => ?_)
      refine a_iinc (v := v4 + 1) (lo' := [(4, .int (v4 + 1)), (0, .ref (al 200)), (1, .int v1), (2, .int v2), (3, .int v3)]) X dX4_draw_105 4 rfl (ii_1 _) (by decide) rfl ?_
      refine a_goto (tgt := 70) X dX4_draw_108 (by decide) ?_
      refine a_sub (ks := [1, 2, 3, 4, 0]) (lo' := [(0, .ref (al 200)), (1, .int v1), (2, .int v2), (3, .int v3), (4, .int (v4 + 1))]) rfl ?_
      exact ih _ _ h
set_option maxHeartbeats 4000000 in
set_option maxRecDepth 100000 in
theorem cX4_draw_ok (l : Launch) {G : Gl} {al : Nat → Nat} {mk : Nat} {M : Mem} {v1 : Int32} {v2 : Int32} {v3 : Int32} {Q : Int32 → Mem → Prop} (h : wpX4_draw M v1 v2 v3 Q) : Kv l yX4_draw cX4_draw 5 (some .int) rm_X4_draw G al mk M [.ref (al 200), .int v1, .int v2, .int v3] (QI G al mk Q) := by
  refine a_head (by decide) (Nat.le_of_ble_eq_true rfl) (fun p e s m below meth c X => ?_)
  have X : Cx p s m meth c G RX4 cX4_draw 5 (some .int) := X
  unfold wpX4_draw at h
  refine a_sub (ks := [0, 1, 2, 3]) (lo' := [(0, .ref (al 200)), (1, .int v1), (2, .int v2), (3, .int v3)]) rfl ?_
  refine a_aload_n X dX4_draw_0 rfl 0 rfl ?_
  refine a_iconst (v := 0) X dX4_draw_1 ic_0 ?_
  refine a_putI (k := 0) X fw4 iz_200 rfl flX4_61 rfl rfl dX4_draw_2 (fun M_1 eM_1 => ?_)
  have h := h M_1 eM_1
  refine a_aload_n X dX4_draw_5 rfl 0 rfl ?_
  refine a_iload_n X dX4_draw_6 rfl 1 rfl ?_
  refine a_cVi (As := [.int v1]) (st := []) X fw4 iz_200 (cX4_isStream_ok l h) mlX4_247 mvX4_isStream (rz rfl) (Nat.le_of_ble_eq_true rfl) rfl dX4_draw_7 (fun r_3 M_2 h => ?_)
  refine a_if_ne (tgt := 19) X dX4_draw_10 (by decide) (fun z => ?_) (fun z => ?_)
  · have h := h.1 z
    refine a_iload_n X dX4_draw_19 rfl 2 rfl ?_
    refine a_iconst (v := 1) X dX4_draw_20 ic_1 ?_
    refine a_sipush (v := 200) X dX4_draw_21 sc_200 ?_
    refine a_cSi (As := [.int v2, .int 1, .int 200]) (st := []) X (cX4_in_ok l h) mlX4_86 msX4_in (rz rfl) (Nat.le_of_ble_eq_true rfl) rfl dX4_draw_24 (fun r_5 M_4 h => ?_)
    refine a_if_eq (tgt := 41) X dX4_draw_27 (by decide) (fun z => ?_) (fun z => ?_)
    · have h := h.1 z
      refine a_aload_n X dX4_draw_41 rfl 0 rfl ?_
      refine a_iconst (v := 2) X dX4_draw_42 ic_2 ?_
      refine a_cVi (As := [.int 2]) (st := []) X fw4 iz_200 (cX4_refused_ok l h) mlX4_179 mvX4_refused (rz rfl) (Nat.le_of_ble_eq_true rfl) rfl dX4_draw_43 (fun r_7 M_6 h => ?_)
      exact a_iret X h dX4_draw_46
    · have h := h.2 z
      refine a_iload_n X dX4_draw_30 rfl 3 rfl ?_
      refine a_iconst (v := 1) X dX4_draw_31 ic_1 ?_
      refine a_sipush (v := 1000) X dX4_draw_32 sc_1000 ?_
      refine a_cSi (As := [.int v3, .int 1, .int 1000]) (st := []) X (cX4_in_ok l h) mlX4_86 msX4_in (rz rfl) (Nat.le_of_ble_eq_true rfl) rfl dX4_draw_35 (fun r_9 M_8 h => ?_)
      refine a_if_ne (tgt := 47) X dX4_draw_38 (by decide) (fun z => ?_) (fun z => ?_)
      · have h := h.1 z
        refine a_aload_n X dX4_draw_47 rfl 0 rfl ?_
        refine a_getR (k := 23) X 24 (b := 224) fw4 iz_200 rfl rfl flX4_43 rfl dX4_draw_48 ?_
        refine a_iload_n X dX4_draw_51 rfl 1 rfl ?_
        refine a_iald X iz_224 h.1 dX4_draw_52 ?_
        have h := h.2
        refine a_iload_n X dX4_draw_53 rfl 2 rfl ?_
        refine a_iadd X dX4_draw_54 ?_
        refine a_sipush (v := 1000) X dX4_draw_55 sc_1000 ?_
        refine a_icmp_le (tgt := 67) X dX4_draw_58 (by decide) (fun z => ?_) (fun z => ?_)
        · have h := h.1 z
          refine a_iconst (v := 0) X dX4_draw_67 ic_0 ?_
          refine a_istore (lo' := [(4, .int 0), (0, .ref (al 200)), (1, .int v1), (2, .int v2), (3, .int v3)]) X dX4_draw_68 (by decide) rfl ?_
          refine a_sub (ks := [1, 2, 3, 4, 0]) (lo' := [(0, .ref (al 200)), (1, .int v1), (2, .int v2), (3, .int v3), (4, .int 0)]) rfl ?_
          obtain ⟨n9, h⟩ := h
          exact tX4_draw_70 X n9 _ _ h
        · have h := h.2 z
          refine a_aload_n X dX4_draw_61 rfl 0 rfl ?_
          refine a_iconst (v := 3) X dX4_draw_62 ic_3 ?_
          refine a_cVi (As := [.int 3]) (st := []) X fw4 iz_200 (cX4_refused_ok l h) mlX4_179 mvX4_refused (rz rfl) (Nat.le_of_ble_eq_true rfl) rfl dX4_draw_63 (fun r_15 M_14 h => ?_)
          exact a_iret X h dX4_draw_66
      · have h := h.2 z
        refine a_aload_n X dX4_draw_41 rfl 0 rfl ?_
        refine a_iconst (v := 2) X dX4_draw_42 ic_2 ?_
        refine a_cVi (As := [.int 2]) (st := []) X fw4 iz_200 (cX4_refused_ok l h) mlX4_179 mvX4_refused (rz rfl) (Nat.le_of_ble_eq_true rfl) rfl dX4_draw_43 (fun r_17 M_16 h => ?_)
        exact a_iret X h dX4_draw_46
  · have h := h.2 z
    refine a_aload_n X dX4_draw_13 rfl 0 rfl ?_
    refine a_iconst (v := 1) X dX4_draw_14 ic_1 ?_
    refine a_cVi (As := [.int 1]) (st := []) X fw4 iz_200 (cX4_refused_ok l h) mlX4_179 mvX4_refused (rz rfl) (Nat.le_of_ble_eq_true rfl) rfl dX4_draw_15 (fun r_19 M_18 h => ?_)
    exact a_iret X h dX4_draw_18
abbrev rm_X4_seed : Room := { frames := 1, cells := 0, slots := 0, locals := 22 }
def wpX4_seed (M : Mem) (v1 : Int32) (Q : Int32 → Mem → Prop) : Prop := (∀ M_1 : Mem, M_1 = pI M 200 0 0 → wpX4_in M_1 v1 0 65536 (fun r_3 M_2 => ((r_3 = 0 → ((r_3 = 0 → wpX4_refused M_2 2 (fun r_5 M_4 => ((r_3 = 0 ∨ r_3 = 1) ∧ Q r_3 M_4))) ∧ (¬ r_3 = 0 → wpX4_good M_2 0 (fun r_7 M_6 => ((r_3 = 0 ∨ r_3 = 1) ∧ Q r_3 M_6))))) ∧ (¬ r_3 = 0 → (∀ M_8 : Mem, M_8 = pI M_2 200 30 v1 → ((r_3 = 0 → wpX4_refused M_8 2 (fun r_10 M_9 => ((r_3 = 0 ∨ r_3 = 1) ∧ Q r_3 M_9))) ∧ (¬ r_3 = 0 → wpX4_good M_8 0 (fun r_12 M_11 => ((r_3 = 0 ∨ r_3 = 1) ∧ Q r_3 M_11)))))))))
set_option maxHeartbeats 4000000 in
set_option maxRecDepth 100000 in
theorem cX4_seed_ok (l : Launch) {G : Gl} {al : Nat → Nat} {mk : Nat} {M : Mem} {v1 : Int32} {Q : Int32 → Mem → Prop} (h : wpX4_seed M v1 Q) : Kv l yX4_seed cX4_seed 4 (some .boolean) rm_X4_seed G al mk M [.ref (al 200), .int v1] (QI G al mk Q) := by
  refine a_head (by decide) (Nat.le_of_ble_eq_true rfl) (fun p e s m below meth c X => ?_)
  have X : Cx p s m meth c G RX4 cX4_seed 4 (some .boolean) := X
  unfold wpX4_seed at h
  refine a_sub (ks := [0, 1]) (lo' := [(0, .ref (al 200)), (1, .int v1)]) rfl ?_
  refine a_aload_n X dX4_seed_0 rfl 0 rfl ?_
  refine a_iconst (v := 0) X dX4_seed_1 ic_0 ?_
  refine a_putI (k := 0) X fw4 iz_200 rfl flX4_61 rfl rfl dX4_seed_2 (fun M_1 eM_1 => ?_)
  have h := h M_1 eM_1
  refine a_iload_n X dX4_seed_5 rfl 1 rfl ?_
  refine a_iconst (v := 0) X dX4_seed_6 ic_0 ?_
  refine a_ldcw X cnX4_335 dX4_seed_7 ?_
  refine a_cSi (As := [.int v1, .int 0, .int 65536]) (st := []) X (cX4_in_ok l h) mlX4_86 msX4_in (rz rfl) (Nat.le_of_ble_eq_true rfl) rfl dX4_seed_10 (fun r_3 M_2 h => ?_)
  refine a_istore_n (lo' := [(2, .int r_3), (0, .ref (al 200)), (1, .int v1)]) X dX4_seed_13 rfl (by decide) rfl ?_
  refine a_iload_n X dX4_seed_14 rfl 0 rfl ?_
  refine a_if_eq (tgt := 23) X dX4_seed_15 (by decide) (fun z => ?_) (fun z => ?_)
  · have h := h.1 z
    refine a_iload_n X dX4_seed_23 rfl 0 rfl ?_
    refine a_if_eq (tgt := 35) X dX4_seed_24 (by decide) (fun z => ?_) (fun z => ?_)
    · have h := h.1 z
      refine a_aload_n X dX4_seed_35 rfl 1 rfl ?_
      refine a_iconst (v := 2) X dX4_seed_36 ic_2 ?_
      refine a_cVi (As := [.int 2]) (st := []) X fw4 iz_200 (cX4_refused_ok l h) mlX4_179 mvX4_refused (rz rfl) (Nat.le_of_ble_eq_true rfl) rfl dX4_seed_37 (fun r_5 M_4 h => ?_)
      refine a_istore_n (lo' := [(3, .int r_5), (2, .int r_3), (0, .ref (al 200)), (1, .int v1)]) X dX4_seed_40 rfl (by decide) rfl ?_
      refine a_iload_n X dX4_seed_41 rfl 1 rfl ?_
      exact a_zret X h.1 h.2 dX4_seed_42
    · have h := h.2 z
      refine a_aload_n X dX4_seed_27 rfl 1 rfl ?_
      refine a_iconst (v := 0) X dX4_seed_28 ic_0 ?_
      refine a_cVi (As := [.int 0]) (st := []) X fw4 iz_200 (cX4_good_ok l h) mlX4_195 mvX4_good (rz rfl) (Nat.le_of_ble_eq_true rfl) rfl dX4_seed_29 (fun r_7 M_6 h => ?_)
      refine a_goto (tgt := 40) X dX4_seed_32 (by decide) ?_
      refine a_istore_n (lo' := [(3, .int r_7), (2, .int r_3), (0, .ref (al 200)), (1, .int v1)]) X dX4_seed_40 rfl (by decide) rfl ?_
      refine a_iload_n X dX4_seed_41 rfl 1 rfl ?_
      exact a_zret X h.1 h.2 dX4_seed_42
  · have h := h.2 z
    refine a_aload_n X dX4_seed_18 rfl 1 rfl ?_
    refine a_iload_n X dX4_seed_19 rfl 2 rfl ?_
    refine a_putI (k := 30) X fw4 iz_200 rfl flX4_58 rfl rfl dX4_seed_20 (fun M_8 eM_8 => ?_)
    have h := h M_8 eM_8
    refine a_iload_n X dX4_seed_23 rfl 0 rfl ?_
    refine a_if_eq (tgt := 35) X dX4_seed_24 (by decide) (fun z => ?_) (fun z => ?_)
    · have h := h.1 z
      refine a_aload_n X dX4_seed_35 rfl 1 rfl ?_
      refine a_iconst (v := 2) X dX4_seed_36 ic_2 ?_
      refine a_cVi (As := [.int 2]) (st := []) X fw4 iz_200 (cX4_refused_ok l h) mlX4_179 mvX4_refused (rz rfl) (Nat.le_of_ble_eq_true rfl) rfl dX4_seed_37 (fun r_10 M_9 h => ?_)
      refine a_istore_n (lo' := [(3, .int r_10), (2, .int r_3), (0, .ref (al 200)), (1, .int v1)]) X dX4_seed_40 rfl (by decide) rfl ?_
      refine a_iload_n X dX4_seed_41 rfl 1 rfl ?_
      exact a_zret X h.1 h.2 dX4_seed_42
    · have h := h.2 z
      refine a_aload_n X dX4_seed_27 rfl 1 rfl ?_
      refine a_iconst (v := 0) X dX4_seed_28 ic_0 ?_
      refine a_cVi (As := [.int 0]) (st := []) X fw4 iz_200 (cX4_good_ok l h) mlX4_195 mvX4_good (rz rfl) (Nat.le_of_ble_eq_true rfl) rfl dX4_seed_29 (fun r_12 M_11 h => ?_)
      refine a_goto (tgt := 40) X dX4_seed_32 (by decide) ?_
      refine a_istore_n (lo' := [(3, .int r_12), (2, .int r_3), (0, .ref (al 200)), (1, .int v1)]) X dX4_seed_40 rfl (by decide) rfl ?_
      refine a_iload_n X dX4_seed_41 rfl 1 rfl ?_
      exact a_zret X h.1 h.2 dX4_seed_42
abbrev rm_X4_compress : Room := { frames := 6, cells := 0, slots := 0, locals := 138 }
def wpX4_compress (M : Mem) (v1 : Int32) (Q : Int32 → Mem → Prop) : Prop := (∀ M_1 : Mem, M_1 = pI M 200 0 0 → wpX4_isStream M_1 v1 (fun r_3 M_2 => ((r_3 = 0 → wpX4_refused M_2 1 (fun r_5 M_4 => Q r_5 M_4)) ∧ (¬ r_3 = 0 → wpX4_compresses M_2 v1 (fun r_7 M_6 => wpX4_good M_6 r_7 (fun r_9 M_8 => Q r_9 M_8))))))
set_option maxHeartbeats 4000000 in
set_option maxRecDepth 100000 in
theorem cX4_compress_ok (l : Launch) {G : Gl} {al : Nat → Nat} {mk : Nat} {M : Mem} {v1 : Int32} {Q : Int32 → Mem → Prop} (h : wpX4_compress M v1 Q) : Kv l yX4_compress cX4_compress 2 (some .int) rm_X4_compress G al mk M [.ref (al 200), .int v1] (QI G al mk Q) := by
  refine a_head (by decide) (Nat.le_of_ble_eq_true rfl) (fun p e s m below meth c X => ?_)
  have X : Cx p s m meth c G RX4 cX4_compress 2 (some .int) := X
  unfold wpX4_compress at h
  refine a_sub (ks := [0, 1]) (lo' := [(0, .ref (al 200)), (1, .int v1)]) rfl ?_
  refine a_aload_n X dX4_compress_0 rfl 0 rfl ?_
  refine a_iconst (v := 0) X dX4_compress_1 ic_0 ?_
  refine a_putI (k := 0) X fw4 iz_200 rfl flX4_61 rfl rfl dX4_compress_2 (fun M_1 eM_1 => ?_)
  have h := h M_1 eM_1
  refine a_aload_n X dX4_compress_5 rfl 0 rfl ?_
  refine a_iload_n X dX4_compress_6 rfl 1 rfl ?_
  refine a_cVi (As := [.int v1]) (st := []) X fw4 iz_200 (cX4_isStream_ok l h) mlX4_247 mvX4_isStream (rz rfl) (Nat.le_of_ble_eq_true rfl) rfl dX4_compress_7 (fun r_3 M_2 h => ?_)
  refine a_if_eq (tgt := 25) X dX4_compress_10 (by decide) (fun z => ?_) (fun z => ?_)
  · have h := h.1 z
    refine a_aload_n X dX4_compress_25 rfl 0 rfl ?_
    refine a_iconst (v := 1) X dX4_compress_26 ic_1 ?_
    refine a_cVi (As := [.int 1]) (st := []) X fw4 iz_200 (cX4_refused_ok l h) mlX4_179 mvX4_refused (rz rfl) (Nat.le_of_ble_eq_true rfl) rfl dX4_compress_27 (fun r_5 M_4 h => ?_)
    exact a_iret X h dX4_compress_30
  · have h := h.2 z
    refine a_aload_n X dX4_compress_13 rfl 0 rfl ?_
    refine a_aload_n X dX4_compress_14 rfl 0 rfl ?_
    refine a_iload_n X dX4_compress_15 rfl 1 rfl ?_
    refine a_cVi (As := [.int v1]) (st := [.ref (al 200)]) X fw4 iz_200 (cX4_compresses_ok l h) mlX4_218 mvX4_compresses (rz rfl) (Nat.le_of_ble_eq_true rfl) rfl dX4_compress_16 (fun r_7 M_6 h => ?_)
    refine a_cVi (As := [.int r_7]) (st := []) X fw4 iz_200 (cX4_good_ok l h) mlX4_195 mvX4_good (rz rfl) (Nat.le_of_ble_eq_true rfl) rfl dX4_compress_19 (fun r_9 M_8 h => ?_)
    refine a_goto (tgt := 30) X dX4_compress_22 (by decide) ?_
    exact a_iret X h dX4_compress_30
abbrev rm_X4_merge : Room := { frames := 6, cells := 0, slots := 0, locals := 147 }
def wX4_merge_54 (Q : Int32 → Mem → Prop) (v1 : Int32) (v2 : Int32) : Nat → Mem → Int32 → Prop
  | 0, _, _ => False
  | n + 1, M, v3 => ((1000 ≤ v3 → wpX4_copiesRow M 4 v1 (fun M_5 => wpX4_empties M_5 v2 (fun M_6 => (vp_in v1 4 ∧ ∀ M_7 : Mem, M_7 = pI M_6 226 (Int32.toNatClampNeg v1) 0 → (vp_in v1 4 ∧ (vp_in v1 4 ∧ ∀ M_8 : Mem, M_8 = pI M_7 227 (Int32.toNatClampNeg v1) ((gI M_7 227 (Int32.toNatClampNeg v1)) + 1) → (vp_in v1 6 ∧ wpX4_good M_8 (gI M_8 223 (Int32.toNatClampNeg v1)) (fun r_10 M_9 => Q r_10 M_9)))))))) ∧ (¬ 1000 ≤ v3 → (vp_in ((1000 * v1) + v3) 4000 ∧ (vp_in ((1000 * v2) + v3) 4000 ∧ (vp_in ((1000 * v1) + v3) 4000 ∧ ∀ M_11 : Mem, M_11 = pI M 228 (Int32.toNatClampNeg ((1000 * v1) + v3)) ((gI M 228 (Int32.toNatClampNeg ((1000 * v1) + v3))) + (gI M 228 (Int32.toNatClampNeg ((1000 * v2) + v3)))) → wX4_merge_54 Q v1 v2 n M_11 (v3 + 1))))))
def wpX4_merge (M : Mem) (v1 : Int32) (v2 : Int32) (Q : Int32 → Mem → Prop) : Prop := (∀ M_1 : Mem, M_1 = pI M 200 0 0 → wpX4_areTwo M_1 v1 v2 (fun r_3 M_2 => ((¬ r_3 = 0 → (vp_in v1 6 ∧ (vp_in v2 6 ∧ ((((gI M_2 224 (Int32.toNatClampNeg v1)) + (gI M_2 224 (Int32.toNatClampNeg v2))) ≤ 1000 → wpX4_joins M_2 v1 v2 4 (fun M_4 => ∃ n, wX4_merge_54 Q v1 v2 n M_4 0)) ∧ (¬ ((gI M_2 224 (Int32.toNatClampNeg v1)) + (gI M_2 224 (Int32.toNatClampNeg v2))) ≤ 1000 → wpX4_refused M_2 3 (fun r_13 M_12 => Q r_13 M_12)))))) ∧ (r_3 = 0 → wpX4_refused M_2 1 (fun r_15 M_14 => Q r_15 M_14)))))
set_option maxHeartbeats 4000000 in
set_option maxRecDepth 100000 in
theorem tX4_merge_54 (X : Cx p s m meth c G RX4 cX4_merge 4 (some .int)) {Q : Int32 → Mem → Prop} {v1 : Int32} {v2 : Int32} : ∀ (n : Nat) (M : Mem) (v3 : Int32), wX4_merge_54 Q v1 v2 n M v3 → Wa p l e rm_X4_merge s m args below meth c 4 G al mk 0 0 (MQ below (QI G al mk Q) args s 0 0 (gA G)) M 54 [(0, .ref (al 200)), (1, .int v1), (2, .int v2), (3, .int v3)] [] := by
  intro n
  induction n with
  | zero =>
    intro M v3 h
    exact False.elim h
  | succ n ih =>
    intro M v3 h
    rw [wX4_merge_54] at h
    refine a_iload_n X dX4_merge_54 rfl 3 rfl ?_
    refine a_sipush (v := 1000) X dX4_merge_55 sc_1000 ?_
    refine a_icmp_ge (tgt := 94) X dX4_merge_58 (by decide) (fun z => ?_) (fun z => ?_)
    · have h := h.1 z
      refine a_aload_n X dX4_merge_94 rfl 0 rfl ?_
      refine a_iconst (v := 4) X dX4_merge_95 ic_4 ?_
      refine a_iload_n X dX4_merge_96 rfl 1 rfl ?_
      refine a_cVv (As := [.int 4, .int v1]) (st := []) X fw4 iz_200 (cX4_copiesRow_ok l h) mlX4_328 mvX4_copiesRow (rz rfl) (Nat.le_of_ble_eq_true rfl) rfl dX4_merge_97 (fun M_5 h => ?_)
      refine a_aload_n X dX4_merge_100 rfl 0 rfl ?_
      refine a_iload_n X dX4_merge_101 rfl 2 rfl ?_
      refine a_cVv (As := [.int v2]) (st := []) X fw4 iz_200 (cX4_empties_ok l h) mlX4_190 mvX4_empties (rz rfl) (Nat.le_of_ble_eq_true rfl) rfl dX4_merge_102 (fun M_6 h => ?_)
      refine a_aload_n X dX4_merge_105 rfl 0 rfl ?_
      refine a_getR (k := 25) X 26 (b := 226) fw4 iz_200 rfl rfl flX4_49 rfl dX4_merge_106 ?_
      refine a_iload_n X dX4_merge_109 rfl 1 rfl ?_
      refine a_iconst (v := 0) X dX4_merge_110 ic_0 ?_
      refine a_iast X iz_226 h.1 dX4_merge_111 (fun M_7 eM_7 => ?_)
      have h := h.2 M_7 eM_7
      refine a_aload_n X dX4_merge_112 rfl 0 rfl ?_
      refine a_getR (k := 26) X 27 (b := 227) fw4 iz_200 rfl rfl flX4_52 rfl dX4_merge_113 ?_
      refine a_iload_n X dX4_merge_116 rfl 1 rfl ?_
      refine a_dup2 X dX4_merge_117 rfl rfl ?_
      refine a_iald X iz_227 h.1 dX4_merge_118 ?_
      have h := h.2
      refine a_iconst (v := 1) X dX4_merge_119 ic_1 ?_
      refine a_iadd X dX4_merge_120 ?_
      refine a_iast X iz_227 h.1 dX4_merge_121 (fun M_8 eM_8 => ?_)
      have h := h.2 M_8 eM_8
      refine a_aload_n X dX4_merge_122 rfl 0 rfl ?_
      refine a_aload_n X dX4_merge_123 rfl 0 rfl ?_
      refine a_getR (k := 22) X 23 (b := 223) fw4 iz_200 rfl rfl flX4_40 rfl dX4_merge_124 ?_
      refine a_iload_n X dX4_merge_127 rfl 1 rfl ?_
      refine a_iald X iz_223 h.1 dX4_merge_128 ?_
      have h := h.2
      refine a_cVi (As := [.int (gI M_8 223 (Int32.toNatClampNeg v1))]) (st := []) X fw4 iz_200 (cX4_good_ok l h) mlX4_195 mvX4_good (rz rfl) (Nat.le_of_ble_eq_true rfl) rfl dX4_merge_129 (fun r_10 M_9 h => ?_)
      exact a_iret X h dX4_merge_132
    · have h := h.2 z
      refine a_aload_n X dX4_merge_61 rfl 0 rfl ?_
      refine a_getR (k := 27) X 28 (b := 228) fw4 iz_200 rfl rfl flX4_55 rfl dX4_merge_62 ?_
      refine a_sipush (v := 1000) X dX4_merge_65 sc_1000 ?_
      refine a_iload_n X dX4_merge_68 rfl 1 rfl ?_
      refine a_imul X dX4_merge_69 ?_
      refine a_iload_n X dX4_merge_70 rfl 3 rfl ?_
      refine a_iadd X dX4_merge_71 ?_
      refine a_dup2 X dX4_merge_72 rfl rfl ?_
      refine a_iald X iz_228 h.1 dX4_merge_73 ?_
      have h := h.2
      refine a_aload_n X dX4_merge_74 rfl 0 rfl ?_
      refine a_getR (k := 27) X 28 (b := 228) fw4 iz_200 rfl rfl flX4_55 rfl dX4_merge_75 ?_
      refine a_sipush (v := 1000) X dX4_merge_78 sc_1000 ?_
      refine a_iload_n X dX4_merge_81 rfl 2 rfl ?_
      refine a_imul X dX4_merge_82 ?_
      refine a_iload_n X dX4_merge_83 rfl 3 rfl ?_
      refine a_iadd X dX4_merge_84 ?_
      refine a_iald X iz_228 h.1 dX4_merge_85 ?_
      have h := h.2
      refine a_iadd X dX4_merge_86 ?_
      refine a_iast X iz_228 h.1 dX4_merge_87 (fun M_11 eM_11 => ?_)
      have h := h.2 M_11 eM_11
      refine a_iinc (v := v3 + 1) (lo' := [(3, .int (v3 + 1)), (0, .ref (al 200)), (1, .int v1), (2, .int v2)]) X dX4_merge_88 3 rfl (ii_1 _) (by decide) rfl ?_
      refine a_goto (tgt := 54) X dX4_merge_91 (by decide) ?_
      refine a_sub (ks := [1, 2, 3, 0]) (lo' := [(0, .ref (al 200)), (1, .int v1), (2, .int v2), (3, .int (v3 + 1))]) rfl ?_
      exact ih _ _ h
set_option maxHeartbeats 4000000 in
set_option maxRecDepth 100000 in
theorem cX4_merge_ok (l : Launch) {G : Gl} {al : Nat → Nat} {mk : Nat} {M : Mem} {v1 : Int32} {v2 : Int32} {Q : Int32 → Mem → Prop} (h : wpX4_merge M v1 v2 Q) : Kv l yX4_merge cX4_merge 4 (some .int) rm_X4_merge G al mk M [.ref (al 200), .int v1, .int v2] (QI G al mk Q) := by
  refine a_head (by decide) (Nat.le_of_ble_eq_true rfl) (fun p e s m below meth c X => ?_)
  have X : Cx p s m meth c G RX4 cX4_merge 4 (some .int) := X
  unfold wpX4_merge at h
  refine a_sub (ks := [0, 1, 2]) (lo' := [(0, .ref (al 200)), (1, .int v1), (2, .int v2)]) rfl ?_
  refine a_aload_n X dX4_merge_0 rfl 0 rfl ?_
  refine a_iconst (v := 0) X dX4_merge_1 ic_0 ?_
  refine a_putI (k := 0) X fw4 iz_200 rfl flX4_61 rfl rfl dX4_merge_2 (fun M_1 eM_1 => ?_)
  have h := h M_1 eM_1
  refine a_aload_n X dX4_merge_5 rfl 0 rfl ?_
  refine a_iload_n X dX4_merge_6 rfl 1 rfl ?_
  refine a_iload_n X dX4_merge_7 rfl 2 rfl ?_
  refine a_cVi (As := [.int v1, .int v2]) (st := []) X fw4 iz_200 (cX4_areTwo_ok l h) mlX4_295 mvX4_areTwo (rz rfl) (Nat.le_of_ble_eq_true rfl) rfl dX4_merge_8 (fun r_3 M_2 h => ?_)
  refine a_if_ne (tgt := 20) X dX4_merge_11 (by decide) (fun z => ?_) (fun z => ?_)
  · have h := h.1 z
    refine a_aload_n X dX4_merge_20 rfl 0 rfl ?_
    refine a_getR (k := 23) X 24 (b := 224) fw4 iz_200 rfl rfl flX4_43 rfl dX4_merge_21 ?_
    refine a_iload_n X dX4_merge_24 rfl 1 rfl ?_
    refine a_iald X iz_224 h.1 dX4_merge_25 ?_
    have h := h.2
    refine a_aload_n X dX4_merge_26 rfl 0 rfl ?_
    refine a_getR (k := 23) X 24 (b := 224) fw4 iz_200 rfl rfl flX4_43 rfl dX4_merge_27 ?_
    refine a_iload_n X dX4_merge_30 rfl 2 rfl ?_
    refine a_iald X iz_224 h.1 dX4_merge_31 ?_
    have h := h.2
    refine a_iadd X dX4_merge_32 ?_
    refine a_sipush (v := 1000) X dX4_merge_33 sc_1000 ?_
    refine a_icmp_le (tgt := 45) X dX4_merge_36 (by decide) (fun z => ?_) (fun z => ?_)
    · have h := h.1 z
      refine a_aload_n X dX4_merge_45 rfl 0 rfl ?_
      refine a_iload_n X dX4_merge_46 rfl 1 rfl ?_
      refine a_iload_n X dX4_merge_47 rfl 2 rfl ?_
      refine a_iconst (v := 4) X dX4_merge_48 ic_4 ?_
      refine a_cVv (As := [.int v1, .int v2, .int 4]) (st := []) X fw4 iz_200 (cX4_joins_ok l h) mlX4_325 mvX4_joins (rz rfl) (Nat.le_of_ble_eq_true rfl) rfl dX4_merge_49 (fun M_4 h => ?_)
      refine a_iconst (v := 0) X dX4_merge_52 ic_0 ?_
      refine a_istore_n (lo' := [(3, .int 0), (0, .ref (al 200)), (1, .int v1), (2, .int v2)]) X dX4_merge_53 rfl (by decide) rfl ?_
      refine a_sub (ks := [1, 2, 3, 0]) (lo' := [(0, .ref (al 200)), (1, .int v1), (2, .int v2), (3, .int 0)]) rfl ?_
      obtain ⟨n9, h⟩ := h
      exact tX4_merge_54 X n9 _ _ h
    · have h := h.2 z
      refine a_aload_n X dX4_merge_39 rfl 0 rfl ?_
      refine a_iconst (v := 3) X dX4_merge_40 ic_3 ?_
      refine a_cVi (As := [.int 3]) (st := []) X fw4 iz_200 (cX4_refused_ok l h) mlX4_179 mvX4_refused (rz rfl) (Nat.le_of_ble_eq_true rfl) rfl dX4_merge_41 (fun r_13 M_12 h => ?_)
      exact a_iret X h dX4_merge_44
  · have h := h.2 z
    refine a_aload_n X dX4_merge_14 rfl 0 rfl ?_
    refine a_iconst (v := 1) X dX4_merge_15 ic_1 ?_
    refine a_cVi (As := [.int 1]) (st := []) X fw4 iz_200 (cX4_refused_ok l h) mlX4_179 mvX4_refused (rz rfl) (Nat.le_of_ble_eq_true rfl) rfl dX4_merge_16 (fun r_15 M_14 h => ?_)
    exact a_iret X h dX4_merge_19
abbrev rm_X4_clear : Room := { frames := 2, cells := 0, slots := 0, locals := 43 }
def wpX4_clear (M : Mem) (v1 : Int32) (Q : Int32 → Mem → Prop) : Prop := (∀ M_1 : Mem, M_1 = pI M 200 0 0 → wpX4_isStream M_1 v1 (fun r_3 M_2 => ((¬ r_3 = 0 → (vp_in v1 6 ∧ (∀ x_4 : Int32, x_4 = (gI M_2 224 (Int32.toNatClampNeg v1)) → wpX4_empties M_2 v1 (fun M_5 => wpX4_good M_5 x_4 (fun r_7 M_6 => Q r_7 M_6))))) ∧ (r_3 = 0 → wpX4_refused M_2 1 (fun r_9 M_8 => Q r_9 M_8)))))
set_option maxHeartbeats 4000000 in
set_option maxRecDepth 100000 in
theorem cX4_clear_ok (l : Launch) {G : Gl} {al : Nat → Nat} {mk : Nat} {M : Mem} {v1 : Int32} {Q : Int32 → Mem → Prop} (h : wpX4_clear M v1 Q) : Kv l yX4_clear cX4_clear 3 (some .int) rm_X4_clear G al mk M [.ref (al 200), .int v1] (QI G al mk Q) := by
  refine a_head (by decide) (Nat.le_of_ble_eq_true rfl) (fun p e s m below meth c X => ?_)
  have X : Cx p s m meth c G RX4 cX4_clear 3 (some .int) := X
  unfold wpX4_clear at h
  refine a_sub (ks := [0, 1]) (lo' := [(0, .ref (al 200)), (1, .int v1)]) rfl ?_
  refine a_aload_n X dX4_clear_0 rfl 0 rfl ?_
  refine a_iconst (v := 0) X dX4_clear_1 ic_0 ?_
  refine a_putI (k := 0) X fw4 iz_200 rfl flX4_61 rfl rfl dX4_clear_2 (fun M_1 eM_1 => ?_)
  have h := h M_1 eM_1
  refine a_aload_n X dX4_clear_5 rfl 0 rfl ?_
  refine a_iload_n X dX4_clear_6 rfl 1 rfl ?_
  refine a_cVi (As := [.int v1]) (st := []) X fw4 iz_200 (cX4_isStream_ok l h) mlX4_247 mvX4_isStream (rz rfl) (Nat.le_of_ble_eq_true rfl) rfl dX4_clear_7 (fun r_3 M_2 h => ?_)
  refine a_if_ne (tgt := 19) X dX4_clear_10 (by decide) (fun z => ?_) (fun z => ?_)
  · have h := h.1 z
    refine a_aload_n X dX4_clear_19 rfl 0 rfl ?_
    refine a_getR (k := 23) X 24 (b := 224) fw4 iz_200 rfl rfl flX4_43 rfl dX4_clear_20 ?_
    refine a_iload_n X dX4_clear_23 rfl 1 rfl ?_
    refine a_iald X iz_224 h.1 dX4_clear_24 ?_
    have h := h.2
    refine a_topi (fun x_4 ex_4 => ?_)
    have h := h x_4 ex_4
    refine a_istore_n (lo' := [(2, .int x_4), (0, .ref (al 200)), (1, .int v1)]) X dX4_clear_25 rfl (by decide) rfl ?_
    refine a_aload_n X dX4_clear_26 rfl 1 rfl ?_
    refine a_iload_n X dX4_clear_27 rfl 2 rfl ?_
    refine a_cVv (As := [.int v1]) (st := []) X fw4 iz_200 (cX4_empties_ok l h) mlX4_190 mvX4_empties (rz rfl) (Nat.le_of_ble_eq_true rfl) rfl dX4_clear_28 (fun M_5 h => ?_)
    refine a_aload_n X dX4_clear_31 rfl 1 rfl ?_
    refine a_iload_n X dX4_clear_32 rfl 0 rfl ?_
    refine a_cVi (As := [.int x_4]) (st := []) X fw4 iz_200 (cX4_good_ok l h) mlX4_195 mvX4_good (rz rfl) (Nat.le_of_ble_eq_true rfl) rfl dX4_clear_33 (fun r_7 M_6 h => ?_)
    exact a_iret X h dX4_clear_36
  · have h := h.2 z
    refine a_aload_n X dX4_clear_13 rfl 0 rfl ?_
    refine a_iconst (v := 1) X dX4_clear_14 ic_1 ?_
    refine a_cVi (As := [.int 1]) (st := []) X fw4 iz_200 (cX4_refused_ok l h) mlX4_179 mvX4_refused (rz rfl) (Nat.le_of_ble_eq_true rfl) rfl dX4_clear_15 (fun r_9 M_8 h => ?_)
    exact a_iret X h dX4_clear_18
abbrev rm_X4_every : Room := { frames := 6, cells := 0, slots := 0, locals := 138 }
def wpX4_every (M : Mem) (v1 : Int32) (v2 : Int32) (Q : Int32 → Mem → Prop) : Prop := (∀ M_1 : Mem, M_1 = pI M 200 0 0 → wpX4_isStream M_1 v1 (fun r_3 M_2 => ((¬ r_3 = 0 → wpX4_in M_2 v2 1 60 (fun r_5 M_4 => ((¬ r_5 = 0 → (vp_in v1 4 ∧ ∀ M_6 : Mem, M_6 = pI M_4 225 (Int32.toNatClampNeg v1) v2 → (vp_in v1 4 ∧ (((gI M_6 226 (Int32.toNatClampNeg v1)) < v2 → (vp_in v1 6 ∧ wpX4_good M_6 (gI M_6 223 (Int32.toNatClampNeg v1)) (fun r_8 M_7 => Q r_8 M_7))) ∧ (¬ (gI M_6 226 (Int32.toNatClampNeg v1)) < v2 → wpX4_compresses M_6 v1 (fun r_10 M_9 => (vp_in v1 6 ∧ wpX4_good M_9 (gI M_9 223 (Int32.toNatClampNeg v1)) (fun r_12 M_11 => Q r_12 M_11)))))))) ∧ (r_5 = 0 → wpX4_refused M_4 2 (fun r_14 M_13 => Q r_14 M_13))))) ∧ (r_3 = 0 → wpX4_refused M_2 1 (fun r_16 M_15 => Q r_16 M_15)))))
set_option maxHeartbeats 4000000 in
set_option maxRecDepth 100000 in
theorem cX4_every_ok (l : Launch) {G : Gl} {al : Nat → Nat} {mk : Nat} {M : Mem} {v1 : Int32} {v2 : Int32} {Q : Int32 → Mem → Prop} (h : wpX4_every M v1 v2 Q) : Kv l yX4_every cX4_every 4 (some .int) rm_X4_every G al mk M [.ref (al 200), .int v1, .int v2] (QI G al mk Q) := by
  refine a_head (by decide) (Nat.le_of_ble_eq_true rfl) (fun p e s m below meth c X => ?_)
  have X : Cx p s m meth c G RX4 cX4_every 4 (some .int) := X
  unfold wpX4_every at h
  refine a_sub (ks := [0, 1, 2]) (lo' := [(0, .ref (al 200)), (1, .int v1), (2, .int v2)]) rfl ?_
  refine a_aload_n X dX4_every_0 rfl 0 rfl ?_
  refine a_iconst (v := 0) X dX4_every_1 ic_0 ?_
  refine a_putI (k := 0) X fw4 iz_200 rfl flX4_61 rfl rfl dX4_every_2 (fun M_1 eM_1 => ?_)
  have h := h M_1 eM_1
  refine a_aload_n X dX4_every_5 rfl 0 rfl ?_
  refine a_iload_n X dX4_every_6 rfl 1 rfl ?_
  refine a_cVi (As := [.int v1]) (st := []) X fw4 iz_200 (cX4_isStream_ok l h) mlX4_247 mvX4_isStream (rz rfl) (Nat.le_of_ble_eq_true rfl) rfl dX4_every_7 (fun r_3 M_2 h => ?_)
  refine a_if_ne (tgt := 19) X dX4_every_10 (by decide) (fun z => ?_) (fun z => ?_)
  · have h := h.1 z
    refine a_iload_n X dX4_every_19 rfl 2 rfl ?_
    refine a_iconst (v := 1) X dX4_every_20 ic_1 ?_
    refine a_bipush (v := 60) X dX4_every_21 bc_60 ?_
    refine a_cSi (As := [.int v2, .int 1, .int 60]) (st := []) X (cX4_in_ok l h) mlX4_86 msX4_in (rz rfl) (Nat.le_of_ble_eq_true rfl) rfl dX4_every_23 (fun r_5 M_4 h => ?_)
    refine a_if_ne (tgt := 35) X dX4_every_26 (by decide) (fun z => ?_) (fun z => ?_)
    · have h := h.1 z
      refine a_aload_n X dX4_every_35 rfl 0 rfl ?_
      refine a_getR (k := 24) X 25 (b := 225) fw4 iz_200 rfl rfl flX4_46 rfl dX4_every_36 ?_
      refine a_iload_n X dX4_every_39 rfl 1 rfl ?_
      refine a_iload_n X dX4_every_40 rfl 2 rfl ?_
      refine a_iast X iz_225 h.1 dX4_every_41 (fun M_6 eM_6 => ?_)
      have h := h.2 M_6 eM_6
      refine a_aload_n X dX4_every_42 rfl 0 rfl ?_
      refine a_getR (k := 25) X 26 (b := 226) fw4 iz_200 rfl rfl flX4_49 rfl dX4_every_43 ?_
      refine a_iload_n X dX4_every_46 rfl 1 rfl ?_
      refine a_iald X iz_226 h.1 dX4_every_47 ?_
      have h := h.2
      refine a_iload_n X dX4_every_48 rfl 2 rfl ?_
      refine a_icmp_lt (tgt := 58) X dX4_every_49 (by decide) (fun z => ?_) (fun z => ?_)
      · have h := h.1 z
        refine a_aload_n X dX4_every_58 rfl 0 rfl ?_
        refine a_aload_n X dX4_every_59 rfl 0 rfl ?_
        refine a_getR (k := 22) X 23 (b := 223) fw4 iz_200 rfl rfl flX4_40 rfl dX4_every_60 ?_
        refine a_iload_n X dX4_every_63 rfl 1 rfl ?_
        refine a_iald X iz_223 h.1 dX4_every_64 ?_
        have h := h.2
        refine a_cVi (As := [.int (gI M_6 223 (Int32.toNatClampNeg v1))]) (st := []) X fw4 iz_200 (cX4_good_ok l h) mlX4_195 mvX4_good (rz rfl) (Nat.le_of_ble_eq_true rfl) rfl dX4_every_65 (fun r_8 M_7 h => ?_)
        exact a_iret X h dX4_every_68
      · have h := h.2 z
        refine a_aload_n X dX4_every_52 rfl 0 rfl ?_
        refine a_iload_n X dX4_every_53 rfl 1 rfl ?_
        refine a_cVi (As := [.int v1]) (st := []) X fw4 iz_200 (cX4_compresses_ok l h) mlX4_218 mvX4_compresses (rz rfl) (Nat.le_of_ble_eq_true rfl) rfl dX4_every_54 (fun r_10 M_9 h => ?_)
        refine a_istore_n (lo' := [(3, .int r_10), (0, .ref (al 200)), (1, .int v1), (2, .int v2)]) X dX4_every_57 rfl (by decide) rfl ?_
        refine a_aload_n X dX4_every_58 rfl 1 rfl ?_
        refine a_aload_n X dX4_every_59 rfl 1 rfl ?_
        refine a_getR (k := 22) X 23 (b := 223) fw4 iz_200 rfl rfl flX4_40 rfl dX4_every_60 ?_
        refine a_iload_n X dX4_every_63 rfl 2 rfl ?_
        refine a_iald X iz_223 h.1 dX4_every_64 ?_
        have h := h.2
        refine a_cVi (As := [.int (gI M_9 223 (Int32.toNatClampNeg v1))]) (st := []) X fw4 iz_200 (cX4_good_ok l h) mlX4_195 mvX4_good (rz rfl) (Nat.le_of_ble_eq_true rfl) rfl dX4_every_65 (fun r_12 M_11 h => ?_)
        exact a_iret X h dX4_every_68
    · have h := h.2 z
      refine a_aload_n X dX4_every_29 rfl 0 rfl ?_
      refine a_iconst (v := 2) X dX4_every_30 ic_2 ?_
      refine a_cVi (As := [.int 2]) (st := []) X fw4 iz_200 (cX4_refused_ok l h) mlX4_179 mvX4_refused (rz rfl) (Nat.le_of_ble_eq_true rfl) rfl dX4_every_31 (fun r_14 M_13 h => ?_)
      exact a_iret X h dX4_every_34
  · have h := h.2 z
    refine a_aload_n X dX4_every_13 rfl 0 rfl ?_
    refine a_iconst (v := 1) X dX4_every_14 ic_1 ?_
    refine a_cVi (As := [.int 1]) (st := []) X fw4 iz_200 (cX4_refused_ok l h) mlX4_179 mvX4_refused (rz rfl) (Nat.le_of_ble_eq_true rfl) rfl dX4_every_15 (fun r_16 M_15 h => ?_)
    exact a_iret X h dX4_every_18
abbrev rm_X4_error : Room := { frames := 1, cells := 0, slots := 0, locals := 23 }
def wX4_error_36 (Q : Int32 → Mem → Prop) (v1 : Int32) : Nat → Mem → Int32 → Prop
  | 0, _, _ => False
  | n + 1, M, v2 => (((gI M 200 29) ≤ v2 → (∀ x_4 : Int32, x_4 = (gI M 200 28) → (∀ M_5 : Mem, M_5 = pI M 200 28 v1 → wpX4_good M_5 x_4 (fun r_7 M_6 => Q r_7 M_6)))) ∧ (¬ (gI M 200 29) ≤ v2 → wpX4_widest M v2 (fun r_9 M_8 => (vp_in v2 6 ∧ wpX4_boundBy M_8 (gI M_8 224 (Int32.toNatClampNeg v2)) v1 (fun r_11 M_10 => ((r_9 ≤ r_11 → wX4_error_36 Q v1 n M_10 (v2 + 1)) ∧ (¬ r_9 ≤ r_11 → wpX4_refused M_10 5 (fun r_13 M_12 => Q r_13 M_12))))))))
def wpX4_error (M : Mem) (v1 : Int32) (Q : Int32 → Mem → Prop) : Prop := (∀ M_1 : Mem, M_1 = pI M 200 0 0 → ((¬ (gI M_1 200 28) = 0 → wpX4_in M_1 v1 2 40 (fun r_3 M_2 => ((¬ r_3 = 0 → ∃ n, wX4_error_36 Q v1 n M_2 0) ∧ (r_3 = 0 → wpX4_refused M_2 2 (fun r_15 M_14 => Q r_15 M_14))))) ∧ ((gI M_1 200 28) = 0 → wpX4_refused M_1 1 (fun r_17 M_16 => Q r_17 M_16))))
set_option maxHeartbeats 4000000 in
set_option maxRecDepth 100000 in
theorem tX4_error_36 (X : Cx p s m meth c G RX4 cX4_error 3 (some .int)) {Q : Int32 → Mem → Prop} {v1 : Int32} : ∀ (n : Nat) (M : Mem) (v2 : Int32), wX4_error_36 Q v1 n M v2 → Wa p l e rm_X4_error s m args below meth c 3 G al mk 0 0 (MQ below (QI G al mk Q) args s 0 0 (gA G)) M 36 [(0, .ref (al 200)), (1, .int v1), (2, .int v2)] [] := by
  intro n
  induction n with
  | zero =>
    intro M v2 h
    exact False.elim h
  | succ n ih =>
    intro M v2 h
    rw [wX4_error_36] at h
    refine a_iload_n X dX4_error_36 rfl 2 rfl ?_
    refine a_aload_n X dX4_error_37 rfl 0 rfl ?_
    refine a_getI (k := 29) X fw4 iz_200 rfl flX4_187 rfl dX4_error_38 ?_
    refine a_icmp_ge (tgt := 74) X dX4_error_41 (by decide) (fun z => ?_) (fun z => ?_)
    · have h := h.1 z
      refine a_aload_n X dX4_error_74 rfl 0 rfl ?_
      refine a_getI (k := 28) X fw4 iz_200 rfl flX4_185 rfl dX4_error_75 ?_
      refine a_topi (fun x_4 ex_4 => ?_)
      have h := h x_4 ex_4
      refine a_istore_n (lo' := [(2, .int x_4), (0, .ref (al 200)), (1, .int v1)]) X dX4_error_78 rfl (by decide) rfl ?_
      refine a_aload_n X dX4_error_79 rfl 1 rfl ?_
      refine a_iload_n X dX4_error_80 rfl 2 rfl ?_
      refine a_putI (k := 28) X fw4 iz_200 rfl flX4_185 rfl rfl dX4_error_81 (fun M_5 eM_5 => ?_)
      have h := h M_5 eM_5
      refine a_aload_n X dX4_error_84 rfl 1 rfl ?_
      refine a_iload_n X dX4_error_85 rfl 0 rfl ?_
      refine a_cVi (As := [.int x_4]) (st := []) X fw4 iz_200 (cX4_good_ok l h) mlX4_195 mvX4_good (rz rfl) (Nat.le_of_ble_eq_true rfl) rfl dX4_error_86 (fun r_7 M_6 h => ?_)
      exact a_iret X h dX4_error_89
    · have h := h.2 z
      refine a_aload_n X dX4_error_44 rfl 0 rfl ?_
      refine a_iload_n X dX4_error_45 rfl 2 rfl ?_
      refine a_cVi (As := [.int v2]) (st := []) X fw4 iz_200 (cX4_widest_ok l h) mlX4_251 mvX4_widest (rz rfl) (Nat.le_of_ble_eq_true rfl) rfl dX4_error_46 (fun r_9 M_8 h => ?_)
      refine a_aload_n X dX4_error_49 rfl 0 rfl ?_
      refine a_getR (k := 23) X 24 (b := 224) fw4 iz_200 rfl rfl flX4_43 rfl dX4_error_50 ?_
      refine a_iload_n X dX4_error_53 rfl 2 rfl ?_
      refine a_iald X iz_224 h.1 dX4_error_54 ?_
      have h := h.2
      refine a_iload_n X dX4_error_55 rfl 1 rfl ?_
      refine a_cSi (As := [.int (gI M_8 224 (Int32.toNatClampNeg v2)), .int v1]) (st := [.int r_9]) X (cX4_boundBy_ok l h) mlX4_198 msX4_boundBy (rz rfl) (Nat.le_of_ble_eq_true rfl) rfl dX4_error_56 (fun r_11 M_10 h => ?_)
      refine a_icmp_le (tgt := 68) X dX4_error_59 (by decide) (fun z => ?_) (fun z => ?_)
      · have h := h.1 z
        refine a_iinc (v := v2 + 1) (lo' := [(2, .int (v2 + 1)), (0, .ref (al 200)), (1, .int v1)]) X dX4_error_68 2 rfl (ii_1 _) (by decide) rfl ?_
        refine a_goto (tgt := 36) X dX4_error_71 (by decide) ?_
        refine a_sub (ks := [1, 2, 0]) (lo' := [(0, .ref (al 200)), (1, .int v1), (2, .int (v2 + 1))]) rfl ?_
        exact ih _ _ h
      · have h := h.2 z
        refine a_aload_n X dX4_error_62 rfl 0 rfl ?_
        refine a_iconst (v := 5) X dX4_error_63 ic_5 ?_
        refine a_cVi (As := [.int 5]) (st := []) X fw4 iz_200 (cX4_refused_ok l h) mlX4_179 mvX4_refused (rz rfl) (Nat.le_of_ble_eq_true rfl) rfl dX4_error_64 (fun r_13 M_12 h => ?_)
        exact a_iret X h dX4_error_67
set_option maxHeartbeats 4000000 in
set_option maxRecDepth 100000 in
theorem cX4_error_ok (l : Launch) {G : Gl} {al : Nat → Nat} {mk : Nat} {M : Mem} {v1 : Int32} {Q : Int32 → Mem → Prop} (h : wpX4_error M v1 Q) : Kv l yX4_error cX4_error 3 (some .int) rm_X4_error G al mk M [.ref (al 200), .int v1] (QI G al mk Q) := by
  refine a_head (by decide) (Nat.le_of_ble_eq_true rfl) (fun p e s m below meth c X => ?_)
  have X : Cx p s m meth c G RX4 cX4_error 3 (some .int) := X
  unfold wpX4_error at h
  refine a_sub (ks := [0, 1]) (lo' := [(0, .ref (al 200)), (1, .int v1)]) rfl ?_
  refine a_aload_n X dX4_error_0 rfl 0 rfl ?_
  refine a_iconst (v := 0) X dX4_error_1 ic_0 ?_
  refine a_putI (k := 0) X fw4 iz_200 rfl flX4_61 rfl rfl dX4_error_2 (fun M_1 eM_1 => ?_)
  have h := h M_1 eM_1
  refine a_aload_n X dX4_error_5 rfl 0 rfl ?_
  refine a_getI (k := 28) X fw4 iz_200 rfl flX4_185 rfl dX4_error_6 ?_
  refine a_if_ne (tgt := 18) X dX4_error_9 (by decide) (fun z => ?_) (fun z => ?_)
  · have h := h.1 z
    refine a_iload_n X dX4_error_18 rfl 1 rfl ?_
    refine a_iconst (v := 2) X dX4_error_19 ic_2 ?_
    refine a_bipush (v := 40) X dX4_error_20 bc_40 ?_
    refine a_cSi (As := [.int v1, .int 2, .int 40]) (st := []) X (cX4_in_ok l h) mlX4_86 msX4_in (rz rfl) (Nat.le_of_ble_eq_true rfl) rfl dX4_error_22 (fun r_3 M_2 h => ?_)
    refine a_if_ne (tgt := 34) X dX4_error_25 (by decide) (fun z => ?_) (fun z => ?_)
    · have h := h.1 z
      refine a_iconst (v := 0) X dX4_error_34 ic_0 ?_
      refine a_istore_n (lo' := [(2, .int 0), (0, .ref (al 200)), (1, .int v1)]) X dX4_error_35 rfl (by decide) rfl ?_
      refine a_sub (ks := [1, 2, 0]) (lo' := [(0, .ref (al 200)), (1, .int v1), (2, .int 0)]) rfl ?_
      obtain ⟨n9, h⟩ := h
      exact tX4_error_36 X n9 _ _ h
    · have h := h.2 z
      refine a_aload_n X dX4_error_28 rfl 0 rfl ?_
      refine a_iconst (v := 2) X dX4_error_29 ic_2 ?_
      refine a_cVi (As := [.int 2]) (st := []) X fw4 iz_200 (cX4_refused_ok l h) mlX4_179 mvX4_refused (rz rfl) (Nat.le_of_ble_eq_true rfl) rfl dX4_error_30 (fun r_15 M_14 h => ?_)
      exact a_iret X h dX4_error_33
  · have h := h.2 z
    refine a_aload_n X dX4_error_12 rfl 0 rfl ?_
    refine a_iconst (v := 1) X dX4_error_13 ic_1 ?_
    refine a_cVi (As := [.int 1]) (st := []) X fw4 iz_200 (cX4_refused_ok l h) mlX4_179 mvX4_refused (rz rfl) (Nat.le_of_ble_eq_true rfl) rfl dX4_error_14 (fun r_17 M_16 h => ?_)
    exact a_iret X h dX4_error_17
abbrev rm_X4_idle : Room := { frames := 0, cells := 0, slots := 0, locals := 0 }
def wX4_idle_9 (Q : Int32 → Mem → Prop) (v1 : Int32) : Nat → Mem → Int32 → Int32 → Prop
  | 0, _, _, _ => False
  | n + 1, M, v2, v3 => (((gI M 200 29) ≤ v3 → (∀ M_2 : Mem, M_2 = pI M 200 0 1 → Q 0 M_2)) ∧ (¬ (gI M 200 29) ≤ v3 → (vp_in v3 6 ∧ (((gI M 224 (Int32.toNatClampNeg v3)) ≤ 0 → ((¬ v2 = v1 → wX4_idle_9 Q v1 n M (v2 + 1) (v3 + 1)) ∧ (v2 = v1 → Q v3 M))) ∧ (¬ (gI M 224 (Int32.toNatClampNeg v3)) ≤ 0 → wX4_idle_9 Q v1 n M v2 (v3 + 1))))))
def wpX4_idle (M : Mem) (v1 : Int32) (Q : Int32 → Mem → Prop) : Prop := (∀ M_1 : Mem, M_1 = pI M 200 0 0 → ∃ n, wX4_idle_9 Q v1 n M_1 0 0)
set_option maxHeartbeats 4000000 in
set_option maxRecDepth 100000 in
theorem tX4_idle_9 (X : Cx p s m meth c G RX4 cX4_idle 4 (some .int)) {Q : Int32 → Mem → Prop} {v1 : Int32} : ∀ (n : Nat) (M : Mem) (v2 : Int32) (v3 : Int32), wX4_idle_9 Q v1 n M v2 v3 → Wa p l e rm_X4_idle s m args below meth c 4 G al mk 0 0 (MQ below (QI G al mk Q) args s 0 0 (gA G)) M 9 [(0, .ref (al 200)), (1, .int v1), (2, .int v2), (3, .int v3)] [] := by
  intro n
  induction n with
  | zero =>
    intro M v2 v3 h
    exact False.elim h
  | succ n ih =>
    intro M v2 v3 h
    rw [wX4_idle_9] at h
    refine a_iload_n X dX4_idle_9 rfl 3 rfl ?_
    refine a_aload_n X dX4_idle_10 rfl 0 rfl ?_
    refine a_getI (k := 29) X fw4 iz_200 rfl flX4_187 rfl dX4_idle_11 ?_
    refine a_icmp_ge (tgt := 45) X dX4_idle_14 (by decide) (fun z => ?_) (fun z => ?_)
    · have h := h.1 z
      refine a_aload_n X dX4_idle_45 rfl 0 rfl ?_
      refine a_iconst (v := 1) X dX4_idle_46 ic_1 ?_
      refine a_putI (k := 0) X fw4 iz_200 rfl flX4_61 rfl rfl dX4_idle_47 (fun M_2 eM_2 => ?_)
      have h := h M_2 eM_2
      refine a_iconst (v := 0) X dX4_idle_50 ic_0 ?_
      exact a_iret X h dX4_idle_51
    · have h := h.2 z
      refine a_aload_n X dX4_idle_17 rfl 0 rfl ?_
      refine a_getR (k := 23) X 24 (b := 224) fw4 iz_200 rfl rfl flX4_43 rfl dX4_idle_18 ?_
      refine a_iload_n X dX4_idle_21 rfl 3 rfl ?_
      refine a_iald X iz_224 h.1 dX4_idle_22 ?_
      have h := h.2
      refine a_if_le (tgt := 29) X dX4_idle_23 (by decide) (fun z => ?_) (fun z => ?_)
      · have h := h.1 z
        refine a_iload_n X dX4_idle_29 rfl 2 rfl ?_
        refine a_iload_n X dX4_idle_30 rfl 1 rfl ?_
        refine a_icmp_ne (tgt := 36) X dX4_idle_31 (by decide) (fun z => ?_) (fun z => ?_)
        · have h := h.1 z
          refine a_iinc (v := v2 + 1) (lo' := [(2, .int (v2 + 1)), (0, .ref (al 200)), (1, .int v1), (3, .int v3)]) X dX4_idle_36 2 rfl (ii_1 _) (by decide) rfl ?_
          refine a_iinc (v := v3 + 1) (lo' := [(3, .int (v3 + 1)), (2, .int (v2 + 1)), (0, .ref (al 200)), (1, .int v1)]) X dX4_idle_39 3 rfl (ii_1 _) (by decide) rfl ?_
          refine a_goto (tgt := 9) X dX4_idle_42 (by decide) ?_
          refine a_sub (ks := [2, 3, 1, 0]) (lo' := [(0, .ref (al 200)), (1, .int v1), (2, .int (v2 + 1)), (3, .int (v3 + 1))]) rfl ?_
          exact ih _ _ _ h
        · have h := h.2 z
          refine a_iload_n X dX4_idle_34 rfl 3 rfl ?_
          exact a_iret X h dX4_idle_35
      · have h := h.2 z
        refine a_goto (tgt := 39) X dX4_idle_26 (by decide) ?_
        refine a_iinc (v := v3 + 1) (lo' := [(3, .int (v3 + 1)), (0, .ref (al 200)), (1, .int v1), (2, .int v2)]) X dX4_idle_39 3 rfl (ii_1 _) (by decide) rfl ?_
        refine a_goto (tgt := 9) X dX4_idle_42 (by decide) ?_
        refine a_sub (ks := [1, 2, 3, 0]) (lo' := [(0, .ref (al 200)), (1, .int v1), (2, .int v2), (3, .int (v3 + 1))]) rfl ?_
        exact ih _ _ _ h
set_option maxHeartbeats 4000000 in
set_option maxRecDepth 100000 in
theorem cX4_idle_ok (l : Launch) {G : Gl} {al : Nat → Nat} {mk : Nat} {M : Mem} {v1 : Int32} {Q : Int32 → Mem → Prop} (h : wpX4_idle M v1 Q) : Kv l yX4_idle cX4_idle 4 (some .int) rm_X4_idle G al mk M [.ref (al 200), .int v1] (QI G al mk Q) := by
  refine a_head (by decide) (Nat.le_of_ble_eq_true rfl) (fun p e s m below meth c X => ?_)
  have X : Cx p s m meth c G RX4 cX4_idle 4 (some .int) := X
  unfold wpX4_idle at h
  refine a_sub (ks := [0, 1]) (lo' := [(0, .ref (al 200)), (1, .int v1)]) rfl ?_
  refine a_aload_n X dX4_idle_0 rfl 0 rfl ?_
  refine a_iconst (v := 0) X dX4_idle_1 ic_0 ?_
  refine a_putI (k := 0) X fw4 iz_200 rfl flX4_61 rfl rfl dX4_idle_2 (fun M_1 eM_1 => ?_)
  have h := h M_1 eM_1
  refine a_iconst (v := 0) X dX4_idle_5 ic_0 ?_
  refine a_istore_n (lo' := [(2, .int 0), (0, .ref (al 200)), (1, .int v1)]) X dX4_idle_6 rfl (by decide) rfl ?_
  refine a_iconst (v := 0) X dX4_idle_7 ic_0 ?_
  refine a_istore_n (lo' := [(3, .int 0), (2, .int 0), (0, .ref (al 200)), (1, .int v1)]) X dX4_idle_8 rfl (by decide) rfl ?_
  refine a_sub (ks := [2, 3, 1, 0]) (lo' := [(0, .ref (al 200)), (1, .int v1), (2, .int 0), (3, .int 0)]) rfl ?_
  obtain ⟨n9, h⟩ := h
  exact tX4_idle_9 X n9 _ _ _ h
abbrev rm_X4_size : Room := { frames := 0, cells := 0, slots := 0, locals := 0 }
def wpX4_size (M : Mem) (Q : Int32 → Mem → Prop) : Prop := (∀ M_1 : Mem, M_1 = pI M 200 0 0 → Q (gI M_1 200 4) M_1)
set_option maxHeartbeats 4000000 in
set_option maxRecDepth 100000 in
theorem cX4_size_ok (l : Launch) {G : Gl} {al : Nat → Nat} {mk : Nat} {M : Mem} {Q : Int32 → Mem → Prop} (h : wpX4_size M Q) : Kv l yX4_size cX4_size 1 (some .int) rm_X4_size G al mk M [.ref (al 200)] (QI G al mk Q) := by
  refine a_head (by decide) (Nat.le_of_ble_eq_true rfl) (fun p e s m below meth c X => ?_)
  have X : Cx p s m meth c G RX4 cX4_size 1 (some .int) := X
  unfold wpX4_size at h
  refine a_sub (ks := [0]) (lo' := [(0, .ref (al 200))]) rfl ?_
  refine a_aload_n X dX4_size_0 rfl 0 rfl ?_
  refine a_iconst (v := 0) X dX4_size_1 ic_0 ?_
  refine a_putI (k := 0) X fw4 iz_200 rfl flX4_61 rfl rfl dX4_size_2 (fun M_1 eM_1 => ?_)
  have h := h M_1 eM_1
  refine a_aload_n X dX4_size_5 rfl 0 rfl ?_
  refine a_getI (k := 4) X fw4 iz_200 rfl flX4_132 rfl dX4_size_6 ?_
  exact a_iret X h dX4_size_9
abbrev rm_X4_trouble : Room := { frames := 0, cells := 0, slots := 0, locals := 0 }
def wpX4_trouble (M : Mem) (Q : Int32 → Mem → Prop) : Prop := (∀ M_1 : Mem, M_1 = pI M 200 0 0 → Q (gI M_1 200 1) M_1)
set_option maxHeartbeats 4000000 in
set_option maxRecDepth 100000 in
theorem cX4_trouble_ok (l : Launch) {G : Gl} {al : Nat → Nat} {mk : Nat} {M : Mem} {Q : Int32 → Mem → Prop} (h : wpX4_trouble M Q) : Kv l yX4_trouble cX4_trouble 1 (some .int) rm_X4_trouble G al mk M [.ref (al 200)] (QI G al mk Q) := by
  refine a_head (by decide) (Nat.le_of_ble_eq_true rfl) (fun p e s m below meth c X => ?_)
  have X : Cx p s m meth c G RX4 cX4_trouble 1 (some .int) := X
  unfold wpX4_trouble at h
  refine a_sub (ks := [0]) (lo' := [(0, .ref (al 200))]) rfl ?_
  refine a_aload_n X dX4_trouble_0 rfl 0 rfl ?_
  refine a_iconst (v := 0) X dX4_trouble_1 ic_0 ?_
  refine a_putI (k := 0) X fw4 iz_200 rfl flX4_61 rfl rfl dX4_trouble_2 (fun M_1 eM_1 => ?_)
  have h := h M_1 eM_1
  refine a_aload_n X dX4_trouble_5 rfl 0 rfl ?_
  refine a_getI (k := 1) X fw4 iz_200 rfl flX4_64 rfl dX4_trouble_6 ?_
  exact a_iret X h dX4_trouble_9
