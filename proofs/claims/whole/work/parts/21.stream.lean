variable {p : Program} {l : Launch} {e : Env} {s : State} {m : MethodId} {args : Array Value} {below : List Frame} {meth : Method} {c : Code} {G : Gl} {al : Nat → Nat} {mk : Nat}

abbrev rm_J7_fill_53178 : Room := { frames := 0, cells := 0, slots := 0, locals := 0 }
def wJ7_fill_53178_5 (Q : Mem → Prop) (v0 : Nat) (v1 : Int32) (v3 : Int32) : Nat → Mem → Int32 → Prop
  | 0, _, _ => False
  | n + 1, M, v2 => ((v3 ≤ v2 → Q M) ∧ (¬ v3 ≤ v2 → (vp_in v2 1000 ∧ ∀ M_2 : Mem, M_2 = pI M v0 (Int32.toNatClampNeg v2) v1 → wJ7_fill_53178_5 Q v0 v1 v3 n M_2 (v2 + 1))))
def wpJ7_fill_53178 (M : Mem) (v0 : Nat) (v1 : Int32) (Q : Mem → Prop) : Prop := (∀ x_1 : Int32, x_1 = (nI 1000) → ∃ n, wJ7_fill_53178_5 Q v0 v1 x_1 n M 0)
set_option maxHeartbeats 4000000 in
set_option maxRecDepth 100000 in
theorem tJ7_fill_53178_5 (X : Cx p s m meth c G RJ7 cJ7_fill_53178 4 none) {Q : Mem → Prop} {v0 : Nat} {v1 : Int32} {v3 : Int32} (i0 : Iz mk v0 (6, 1000)) : ∀ (n : Nat) (M : Mem) (v2 : Int32), wJ7_fill_53178_5 Q v0 v1 v3 n M v2 → Wa p l e rm_J7_fill_53178 s m args below meth c 4 G al mk 0 0 (MQ below (QV G al mk Q) args s 0 0 (gA G)) M 5 [(0, .ref (al v0)), (1, .int v1), (2, .int v2), (3, .int v3)] [] := by
  intro n
  induction n with
  | zero =>
    intro M v2 h
    exact False.elim h
  | succ n ih =>
    intro M v2 h
    rw [wJ7_fill_53178_5] at h
    refine a_iload_n X dJ7_fill_53178_5 rfl 2 rfl ?_
    refine a_iload_n X dJ7_fill_53178_6 rfl 3 rfl ?_
    refine a_icmp_ge (tgt := 20) X dJ7_fill_53178_7 (by decide) (fun z => ?_) (fun z => ?_)
    · have h := h.1 z
      exact a_vret X h dJ7_fill_53178_20
    · have h := h.2 z
      refine a_aload_n X dJ7_fill_53178_10 rfl 0 rfl ?_
      refine a_iload_n X dJ7_fill_53178_11 rfl 2 rfl ?_
      refine a_iload_n X dJ7_fill_53178_12 rfl 1 rfl ?_
      refine a_iast X i0 h.1 dJ7_fill_53178_13 (fun M_2 eM_2 => ?_)
      have h := h.2 M_2 eM_2
      refine a_iinc (v := v2 + 1) (lo' := [(2, .int (v2 + 1)), (0, .ref (al v0)), (1, .int v1), (3, .int v3)]) X dJ7_fill_53178_14 2 rfl (ii_1 _) (by decide) rfl ?_
      refine a_goto (tgt := 5) X dJ7_fill_53178_17 (by decide) ?_
      refine a_sub (ks := [1, 2, 0, 3]) (lo' := [(0, .ref (al v0)), (1, .int v1), (2, .int (v2 + 1)), (3, .int v3)]) rfl ?_
      exact ih _ _ h
set_option maxHeartbeats 4000000 in
set_option maxRecDepth 100000 in
theorem cJ7_fill_53178_ok (l : Launch) {G : Gl} {al : Nat → Nat} {mk : Nat} {M : Mem} {v0 : Nat} {v1 : Int32} {Q : Mem → Prop} (i0 : Iz mk v0 (6, 1000)) (h : wpJ7_fill_53178 M v0 v1 Q) : Kv l yJ7_fill_53178 cJ7_fill_53178 4 none rm_J7_fill_53178 G al mk M [.ref (al v0), .int v1] (QV G al mk Q) := by
  refine a_head (by decide) (Nat.le_of_ble_eq_true rfl) (fun p e s m below meth c X => ?_)
  have X : Cx p s m meth c G RJ7 cJ7_fill_53178 4 none := X
  unfold wpJ7_fill_53178 at h
  refine a_sub (ks := [0, 1]) (lo' := [(0, .ref (al v0)), (1, .int v1)]) rfl ?_
  refine a_iconst (v := 0) X dJ7_fill_53178_0 ic_0 ?_
  refine a_istore_n (lo' := [(2, .int 0), (0, .ref (al v0)), (1, .int v1)]) X dJ7_fill_53178_1 rfl (by decide) rfl ?_
  refine a_aload_n X dJ7_fill_53178_2 rfl 1 rfl ?_
  refine a_alen X i0 dJ7_fill_53178_3 ?_
  refine a_topi (fun x_1 ex_1 => ?_)
  have h := h x_1 ex_1
  refine a_istore_n (lo' := [(3, .int x_1), (2, .int 0), (0, .ref (al v0)), (1, .int v1)]) X dJ7_fill_53178_4 rfl (by decide) rfl ?_
  refine a_sub (ks := [2, 3, 1, 0]) (lo' := [(0, .ref (al v0)), (1, .int v1), (2, .int 0), (3, .int x_1)]) rfl ?_
  obtain ⟨n9, h⟩ := h
  exact tJ7_fill_53178_5 X i0 n9 _ _ h
abbrev rm_X1_dropValues : Room := { frames := 1, cells := 0, slots := 0, locals := 23 }
def wpX1_dropValues (M : Mem) (v0 : Nat) (Q : Mem → Prop) : Prop := wpJ7_fill_53178 M (v0 + 1) 0 (fun M_1 => (∀ M_2 : Mem, M_2 = pI M_1 (v0 + 5) 4 0 → (∀ M_3 : Mem, M_3 = pI M_2 v0 2 0 → (∀ M_4 : Mem, M_4 = pI M_3 v0 4 0 → Q M_4))))
set_option maxHeartbeats 4000000 in
set_option maxRecDepth 100000 in
theorem cX1_dropValues_ok (l : Launch) {G : Gl} {al : Nat → Nat} {mk : Nat} {M : Mem} {v0 : Nat} {Q : Mem → Prop} (i0 : Iz mk v0 (1, 0)) (h : wpX1_dropValues M v0 Q) : Kv l yX1_dropValues cX1_dropValues 1 none rm_X1_dropValues G al mk M [.ref (al v0)] (QV G al mk Q) := by
  refine a_head (by decide) (Nat.le_of_ble_eq_true rfl) (fun p e s m below meth c X => ?_)
  have X : Cx p s m meth c G RX1 cX1_dropValues 1 none := X
  unfold wpX1_dropValues at h
  refine a_sub (ks := [0]) (lo' := [(0, .ref (al v0))]) rfl ?_
  refine a_aload_n X dX1_dropValues_0 rfl 0 rfl ?_
  refine a_getR (k := 1) X 1 (b := (v0 + 1)) fw1 i0 rfl rfl flX1_18 rfl dX1_dropValues_1 ?_
  refine a_iconst (v := 0) X dX1_dropValues_4 ic_0 ?_
  refine a_cSv (As := [.ref (al (v0 + 1)), .int 0]) (st := []) X (cJ7_fill_53178_ok l i0.str.1 h) mlX1_38 msJ7_fill_53178 (rz rfl) (Nat.le_of_ble_eq_true rfl) rfl dX1_dropValues_5 (fun M_1 h => ?_)
  refine a_aload_n X dX1_dropValues_8 rfl 0 rfl ?_
  refine a_getR (k := 0) X 5 (b := (v0 + 5)) fw1 i0 rfl rfl flX1_12 rfl dX1_dropValues_9 ?_
  refine a_iconst (v := 0) X dX1_dropValues_12 ic_0 ?_
  refine a_putI (k := 4) X fw0 i0.str.2 rfl flX1_44 rfl rfl dX1_dropValues_13 (fun M_2 eM_2 => ?_)
  have h := h M_2 eM_2
  refine a_aload_n X dX1_dropValues_16 rfl 0 rfl ?_
  refine a_iconst (v := 0) X dX1_dropValues_17 ic_0 ?_
  refine a_putI (k := 2) X fw1 i0 rfl flX1_22 rfl rfl dX1_dropValues_18 (fun M_3 eM_3 => ?_)
  have h := h M_3 eM_3
  refine a_aload_n X dX1_dropValues_21 rfl 0 rfl ?_
  refine a_iconst (v := 0) X dX1_dropValues_22 ic_0 ?_
  refine a_putI (k := 4) X fw1 i0 rfl flX1_29 rfl rfl dX1_dropValues_23 (fun M_4 eM_4 => ?_)
  have h := h M_4 eM_4
  exact a_vret X h dX1_dropValues_26
abbrev rm_X1_begin : Room := { frames := 2, cells := 0, slots := 0, locals := 43 }
def wpX1_begin (M : Mem) (v0 : Nat) (v1 : Int32) (Q : Mem → Prop) : Prop := wpX1_dropValues M v0 (fun M_1 => (∀ M_2 : Mem, M_2 = pI M_1 v0 3 v1 → (∀ M_3 : Mem, M_3 = pI M_2 v0 5 0 → Q M_3)))
set_option maxHeartbeats 4000000 in
set_option maxRecDepth 100000 in
theorem cX1_begin_ok (l : Launch) {G : Gl} {al : Nat → Nat} {mk : Nat} {M : Mem} {v0 : Nat} {v1 : Int32} {Q : Mem → Prop} (i0 : Iz mk v0 (1, 0)) (h : wpX1_begin M v0 v1 Q) : Kv l yX1_begin cX1_begin 2 none rm_X1_begin G al mk M [.ref (al v0), .int v1] (QV G al mk Q) := by
  refine a_head (by decide) (Nat.le_of_ble_eq_true rfl) (fun p e s m below meth c X => ?_)
  have X : Cx p s m meth c G RX1 cX1_begin 2 none := X
  unfold wpX1_begin at h
  refine a_sub (ks := [0, 1]) (lo' := [(0, .ref (al v0)), (1, .int v1)]) rfl ?_
  refine a_aload_n X dX1_begin_0 rfl 0 rfl ?_
  refine a_cVv (As := []) (st := []) X fw1 i0 (cX1_dropValues_ok l i0 h) mlX1_35 mvX1_dropValues (rz rfl) (Nat.le_of_ble_eq_true rfl) rfl dX1_begin_1 (fun M_1 h => ?_)
  refine a_aload_n X dX1_begin_4 rfl 0 rfl ?_
  refine a_iload_n X dX1_begin_5 rfl 1 rfl ?_
  refine a_putI (k := 3) X fw1 i0 rfl flX1_26 rfl rfl dX1_begin_6 (fun M_2 eM_2 => ?_)
  have h := h M_2 eM_2
  refine a_aload_n X dX1_begin_9 rfl 0 rfl ?_
  refine a_iconst (v := 0) X dX1_begin_10 ic_0 ?_
  refine a_putI (k := 5) X fw1 i0 rfl flX1_32 rfl rfl dX1_begin_11 (fun M_3 eM_3 => ?_)
  have h := h M_3 eM_3
  exact a_vret X h dX1_begin_14
abbrev rm_X1_isDue : Room := { frames := 0, cells := 0, slots := 0, locals := 0 }
def wpX1_isDue (M : Mem) (v0 : Nat) (Q : Int32 → Mem → Prop) : Prop := (((gI M v0 4) < (gI M v0 3) → Q 0 M) ∧ (¬ (gI M v0 4) < (gI M v0 3) → Q 1 M))
set_option maxHeartbeats 4000000 in
set_option maxRecDepth 100000 in
theorem cX1_isDue_ok (l : Launch) {G : Gl} {al : Nat → Nat} {mk : Nat} {M : Mem} {v0 : Nat} {Q : Int32 → Mem → Prop} (i0 : Iz mk v0 (1, 0)) (h : wpX1_isDue M v0 Q) : Kv l yX1_isDue cX1_isDue 1 (some .boolean) rm_X1_isDue G al mk M [.ref (al v0)] (QI G al mk Q) := by
  refine a_head (by decide) (Nat.le_of_ble_eq_true rfl) (fun p e s m below meth c X => ?_)
  have X : Cx p s m meth c G RX1 cX1_isDue 1 (some .boolean) := X
  unfold wpX1_isDue at h
  refine a_sub (ks := [0]) (lo' := [(0, .ref (al v0))]) rfl ?_
  refine a_aload_n X dX1_isDue_0 rfl 0 rfl ?_
  refine a_getI (k := 4) X fw1 i0 rfl flX1_29 rfl dX1_isDue_1 ?_
  refine a_aload_n X dX1_isDue_4 rfl 0 rfl ?_
  refine a_getI (k := 3) X fw1 i0 rfl flX1_26 rfl dX1_isDue_5 ?_
  refine a_icmp_lt (tgt := 15) X dX1_isDue_8 (by decide) (fun z => ?_) (fun z => ?_)
  · have h := h.1 z
    refine a_iconst (v := 0) X dX1_isDue_15 ic_0 ?_
    exact a_zret X (by decide) h dX1_isDue_16
  · have h := h.2 z
    refine a_iconst (v := 1) X dX1_isDue_11 ic_1 ?_
    refine a_goto (tgt := 16) X dX1_isDue_12 (by decide) ?_
    exact a_zret X (by decide) h dX1_isDue_16
abbrev rm_X1_shortenRow : Room := { frames := 3, cells := 0, slots := 0, locals := 93 }
def wpX1_shortenRow (M : Mem) (v0 : Nat) (v1 : Int32) (Q : Int32 → Mem → Prop) : Prop := (∀ M_1 : Mem, M_1 = pI M v0 4 0 → (∀ M_2 : Mem, M_2 = pI M_1 v0 5 ((gI M_1 v0 5) + 1) → wpX3_boundOf M_2 (gI M_2 v0 2) v1 (fun r_4 M_3 => wpX0_shorten M_3 (v0 + 5) r_4 (fun r_6 M_5 => Q r_6 M_5))))
set_option maxHeartbeats 4000000 in
set_option maxRecDepth 100000 in
theorem cX1_shortenRow_ok (l : Launch) {G : Gl} {al : Nat → Nat} {mk : Nat} {M : Mem} {v0 : Nat} {v1 : Int32} {Q : Int32 → Mem → Prop} (i0 : Iz mk v0 (1, 0)) (h : wpX1_shortenRow M v0 v1 Q) : Kv l yX1_shortenRow cX1_shortenRow 2 (some .int) rm_X1_shortenRow G al mk M [.ref (al v0), .int v1] (QI G al mk Q) := by
  refine a_head (by decide) (Nat.le_of_ble_eq_true rfl) (fun p e s m below meth c X => ?_)
  have X : Cx p s m meth c G RX1 cX1_shortenRow 2 (some .int) := X
  unfold wpX1_shortenRow at h
  refine a_sub (ks := [0, 1]) (lo' := [(0, .ref (al v0)), (1, .int v1)]) rfl ?_
  refine a_aload_n X dX1_shortenRow_0 rfl 0 rfl ?_
  refine a_iconst (v := 0) X dX1_shortenRow_1 ic_0 ?_
  refine a_putI (k := 4) X fw1 i0 rfl flX1_29 rfl rfl dX1_shortenRow_2 (fun M_1 eM_1 => ?_)
  have h := h M_1 eM_1
  refine a_aload_n X dX1_shortenRow_5 rfl 0 rfl ?_
  refine a_dup X dX1_shortenRow_6 rfl ?_
  refine a_getI (k := 5) X fw1 i0 rfl flX1_32 rfl dX1_shortenRow_7 ?_
  refine a_iconst (v := 1) X dX1_shortenRow_10 ic_1 ?_
  refine a_iadd X dX1_shortenRow_11 ?_
  refine a_putI (k := 5) X fw1 i0 rfl flX1_32 rfl rfl dX1_shortenRow_12 (fun M_2 eM_2 => ?_)
  have h := h M_2 eM_2
  refine a_aload_n X dX1_shortenRow_15 rfl 0 rfl ?_
  refine a_getR (k := 0) X 5 (b := (v0 + 5)) fw1 i0 rfl rfl flX1_12 rfl dX1_shortenRow_16 ?_
  refine a_aload_n X dX1_shortenRow_19 rfl 0 rfl ?_
  refine a_getI (k := 2) X fw1 i0 rfl flX1_22 rfl dX1_shortenRow_20 ?_
  refine a_iload_n X dX1_shortenRow_23 rfl 1 rfl ?_
  refine a_cNi (As := [.int (gI M_2 v0 2), .int v1]) (st := [.ref (al (v0 + 5))]) X (cX3_boundOf_ok l h) nlX1_63 msX3_boundOf (rz rfl) (Nat.le_of_ble_eq_true rfl) rfl dX1_shortenRow_24 (fun r_4 M_3 h => ?_)
  refine a_cVi (As := [.int r_4]) (st := []) X fw0 i0.str.2 (cX0_shorten_ok l i0.str.2 h) mlX1_67 mvX0_shorten (rz rfl) (Nat.le_of_ble_eq_true rfl) rfl dX1_shortenRow_27 (fun r_6 M_5 h => ?_)
  exact a_iret X h dX1_shortenRow_30
abbrev rm_X1_pushValue : Room := { frames := 4, cells := 0, slots := 0, locals := 114 }
def wpX1_pushValue (M : Mem) (v0 : Nat) (v1 : Int32) (v2 : Int32) (Q : Mem → Prop) : Prop := ((1000 ≤ (gI M v0 2) → Q M) ∧ (¬ 1000 ≤ (gI M v0 2) → wpX3_isValue M v1 (fun r_2 M_1 => ((¬ r_2 = 0 → wpX0_insert M_1 (v0 + 5) v1 (fun M_3 => (vp_in v1 1000 ∧ (vp_in v1 1000 ∧ ∀ M_4 : Mem, M_4 = pI M_3 (v0 + 1) (Int32.toNatClampNeg v1) ((gI M_3 (v0 + 1) (Int32.toNatClampNeg v1)) + 1) → (∀ M_5 : Mem, M_5 = pI M_4 v0 2 ((gI M_4 v0 2) + 1) → (∀ M_6 : Mem, M_6 = pI M_5 v0 4 ((gI M_5 v0 4) + 1) → wpX1_isDue M_6 v0 (fun r_8 M_7 => ((r_8 = 0 → Q M_7) ∧ (¬ r_8 = 0 → wpX1_shortenRow M_7 v0 v2 (fun r_10 M_9 => Q M_9)))))))))) ∧ (r_2 = 0 → Q M_1)))))
set_option maxHeartbeats 4000000 in
set_option maxRecDepth 100000 in
theorem cX1_pushValue_ok (l : Launch) {G : Gl} {al : Nat → Nat} {mk : Nat} {M : Mem} {v0 : Nat} {v1 : Int32} {v2 : Int32} {Q : Mem → Prop} (i0 : Iz mk v0 (1, 0)) (h : wpX1_pushValue M v0 v1 v2 Q) : Kv l yX1_pushValue cX1_pushValue 3 none rm_X1_pushValue G al mk M [.ref (al v0), .int v1, .int v2] (QV G al mk Q) := by
  refine a_head (by decide) (Nat.le_of_ble_eq_true rfl) (fun p e s m below meth c X => ?_)
  have X : Cx p s m meth c G RX1 cX1_pushValue 3 none := X
  unfold wpX1_pushValue at h
  refine a_sub (ks := [0, 1, 2]) (lo' := [(0, .ref (al v0)), (1, .int v1), (2, .int v2)]) rfl ?_
  refine a_aload_n X dX1_pushValue_0 rfl 0 rfl ?_
  refine a_getI (k := 2) X fw1 i0 rfl flX1_22 rfl dX1_pushValue_1 ?_
  refine a_sipush (v := 1000) X dX1_pushValue_4 sc_1000 ?_
  refine a_icmp_ge (tgt := 17) X dX1_pushValue_7 (by decide) (fun z => ?_) (fun z => ?_)
  · have h := h.1 z
    exact a_vret X h dX1_pushValue_17
  · have h := h.2 z
    refine a_iload_n X dX1_pushValue_10 rfl 1 rfl ?_
    refine a_cNi (As := [.int v1]) (st := []) X (cX3_isValue_ok l h) nlX1_47 msX3_isValue (rz rfl) (Nat.le_of_ble_eq_true rfl) rfl dX1_pushValue_11 (fun r_2 M_1 h => ?_)
    refine a_if_ne (tgt := 18) X dX1_pushValue_14 (by decide) (fun z => ?_) (fun z => ?_)
    · have h := h.1 z
      refine a_aload_n X dX1_pushValue_18 rfl 0 rfl ?_
      refine a_getR (k := 0) X 5 (b := (v0 + 5)) fw1 i0 rfl rfl flX1_12 rfl dX1_pushValue_19 ?_
      refine a_iload_n X dX1_pushValue_22 rfl 1 rfl ?_
      refine a_cVv (As := [.int v1]) (st := []) X fw0 i0.str.2 (cX0_insert_ok l i0.str.2 h) mlX1_51 mvX0_insert (rz rfl) (Nat.le_of_ble_eq_true rfl) rfl dX1_pushValue_23 (fun M_3 h => ?_)
      refine a_aload_n X dX1_pushValue_26 rfl 0 rfl ?_
      refine a_getR (k := 1) X 1 (b := (v0 + 1)) fw1 i0 rfl rfl flX1_18 rfl dX1_pushValue_27 ?_
      refine a_iload_n X dX1_pushValue_30 rfl 1 rfl ?_
      refine a_dup2 X dX1_pushValue_31 rfl rfl ?_
      refine a_iald X i0.str.1 h.1 dX1_pushValue_32 ?_
      have h := h.2
      refine a_iconst (v := 1) X dX1_pushValue_33 ic_1 ?_
      refine a_iadd X dX1_pushValue_34 ?_
      refine a_iast X i0.str.1 h.1 dX1_pushValue_35 (fun M_4 eM_4 => ?_)
      have h := h.2 M_4 eM_4
      refine a_aload_n X dX1_pushValue_36 rfl 0 rfl ?_
      refine a_dup X dX1_pushValue_37 rfl ?_
      refine a_getI (k := 2) X fw1 i0 rfl flX1_22 rfl dX1_pushValue_38 ?_
      refine a_iconst (v := 1) X dX1_pushValue_41 ic_1 ?_
      refine a_iadd X dX1_pushValue_42 ?_
      refine a_putI (k := 2) X fw1 i0 rfl flX1_22 rfl rfl dX1_pushValue_43 (fun M_5 eM_5 => ?_)
      have h := h M_5 eM_5
      refine a_aload_n X dX1_pushValue_46 rfl 0 rfl ?_
      refine a_dup X dX1_pushValue_47 rfl ?_
      refine a_getI (k := 4) X fw1 i0 rfl flX1_29 rfl dX1_pushValue_48 ?_
      refine a_iconst (v := 1) X dX1_pushValue_51 ic_1 ?_
      refine a_iadd X dX1_pushValue_52 ?_
      refine a_putI (k := 4) X fw1 i0 rfl flX1_29 rfl rfl dX1_pushValue_53 (fun M_6 eM_6 => ?_)
      have h := h M_6 eM_6
      refine a_aload_n X dX1_pushValue_56 rfl 0 rfl ?_
      refine a_cVi (As := []) (st := []) X fw1 i0 (cX1_isDue_ok l i0 h) mlX1_55 mvX1_isDue (rz rfl) (Nat.le_of_ble_eq_true rfl) rfl dX1_pushValue_57 (fun r_8 M_7 h => ?_)
      refine a_if_eq (tgt := 69) X dX1_pushValue_60 (by decide) (fun z => ?_) (fun z => ?_)
      · have h := h.1 z
        exact a_vret X h dX1_pushValue_69
      · have h := h.2 z
        refine a_aload_n X dX1_pushValue_63 rfl 0 rfl ?_
        refine a_iload_n X dX1_pushValue_64 rfl 2 rfl ?_
        refine a_cVi (As := [.int v2]) (st := []) X fw1 i0 (cX1_shortenRow_ok l i0 h) mlX1_59 mvX1_shortenRow (rz rfl) (Nat.le_of_ble_eq_true rfl) rfl dX1_pushValue_65 (fun r_10 M_9 h => ?_)
        refine a_pop X dX1_pushValue_68 rfl ?_
        exact a_vret X h dX1_pushValue_69
    · have h := h.2 z
      exact a_vret X h dX1_pushValue_17
abbrev rm_X1_addCounts : Room := { frames := 0, cells := 0, slots := 0, locals := 0 }
def wX1_addCounts_2 (Q : Mem → Prop) (v0 : Nat) (v1 : Nat) : Nat → Mem → Int32 → Prop
  | 0, _, _ => False
  | n + 1, M, v2 => ((1000 ≤ v2 → (∀ M_1 : Mem, M_1 = pI M v0 2 ((gI M v0 2) + (gI M v1 2)) → Q M_1)) ∧ (¬ 1000 ≤ v2 → (vp_in v2 1000 ∧ (vp_in v2 1000 ∧ (vp_in v2 1000 ∧ ∀ M_2 : Mem, M_2 = pI M (v0 + 1) (Int32.toNatClampNeg v2) ((gI M (v0 + 1) (Int32.toNatClampNeg v2)) + (gI M (v1 + 1) (Int32.toNatClampNeg v2))) → wX1_addCounts_2 Q v0 v1 n M_2 (v2 + 1))))))
def wpX1_addCounts (M : Mem) (v0 : Nat) (v1 : Nat) (Q : Mem → Prop) : Prop := ∃ n, wX1_addCounts_2 Q v0 v1 n M 0
set_option maxHeartbeats 4000000 in
set_option maxRecDepth 100000 in
theorem tX1_addCounts_2 (X : Cx p s m meth c G RX1 cX1_addCounts 3 none) {Q : Mem → Prop} {v0 : Nat} {v1 : Nat} (i0 : Iz mk v0 (1, 0)) (i1 : Iz mk v1 (1, 0)) : ∀ (n : Nat) (M : Mem) (v2 : Int32), wX1_addCounts_2 Q v0 v1 n M v2 → Wa p l e rm_X1_addCounts s m args below meth c 3 G al mk 0 0 (MQ below (QV G al mk Q) args s 0 0 (gA G)) M 2 [(0, .ref (al v0)), (1, .ref (al v1)), (2, .int v2)] [] := by
  intro n
  induction n with
  | zero =>
    intro M v2 h
    exact False.elim h
  | succ n ih =>
    intro M v2 h
    rw [wX1_addCounts_2] at h
    refine a_iload_n X dX1_addCounts_2 rfl 2 rfl ?_
    refine a_sipush (v := 1000) X dX1_addCounts_3 sc_1000 ?_
    refine a_icmp_ge (tgt := 30) X dX1_addCounts_6 (by decide) (fun z => ?_) (fun z => ?_)
    · have h := h.1 z
      refine a_aload_n X dX1_addCounts_30 rfl 0 rfl ?_
      refine a_dup X dX1_addCounts_31 rfl ?_
      refine a_getI (k := 2) X fw1 i0 rfl flX1_22 rfl dX1_addCounts_32 ?_
      refine a_aload_n X dX1_addCounts_35 rfl 1 rfl ?_
      refine a_getI (k := 2) X fw1 i1 rfl flX1_22 rfl dX1_addCounts_36 ?_
      refine a_iadd X dX1_addCounts_39 ?_
      refine a_putI (k := 2) X fw1 i0 rfl flX1_22 rfl rfl dX1_addCounts_40 (fun M_1 eM_1 => ?_)
      have h := h M_1 eM_1
      exact a_vret X h dX1_addCounts_43
    · have h := h.2 z
      refine a_aload_n X dX1_addCounts_9 rfl 0 rfl ?_
      refine a_getR (k := 1) X 1 (b := (v0 + 1)) fw1 i0 rfl rfl flX1_18 rfl dX1_addCounts_10 ?_
      refine a_iload_n X dX1_addCounts_13 rfl 2 rfl ?_
      refine a_dup2 X dX1_addCounts_14 rfl rfl ?_
      refine a_iald X i0.str.1 h.1 dX1_addCounts_15 ?_
      have h := h.2
      refine a_aload_n X dX1_addCounts_16 rfl 1 rfl ?_
      refine a_getR (k := 1) X 1 (b := (v1 + 1)) fw1 i1 rfl rfl flX1_18 rfl dX1_addCounts_17 ?_
      refine a_iload_n X dX1_addCounts_20 rfl 2 rfl ?_
      refine a_iald X i1.str.1 h.1 dX1_addCounts_21 ?_
      have h := h.2
      refine a_iadd X dX1_addCounts_22 ?_
      refine a_iast X i0.str.1 h.1 dX1_addCounts_23 (fun M_2 eM_2 => ?_)
      have h := h.2 M_2 eM_2
      refine a_iinc (v := v2 + 1) (lo' := [(2, .int (v2 + 1)), (0, .ref (al v0)), (1, .ref (al v1))]) X dX1_addCounts_24 2 rfl (ii_1 _) (by decide) rfl ?_
      refine a_goto (tgt := 2) X dX1_addCounts_27 (by decide) ?_
      refine a_sub (ks := [1, 2, 0]) (lo' := [(0, .ref (al v0)), (1, .ref (al v1)), (2, .int (v2 + 1))]) rfl ?_
      exact ih _ _ h
set_option maxHeartbeats 4000000 in
set_option maxRecDepth 100000 in
theorem cX1_addCounts_ok (l : Launch) {G : Gl} {al : Nat → Nat} {mk : Nat} {M : Mem} {v0 : Nat} {v1 : Nat} {Q : Mem → Prop} (i0 : Iz mk v0 (1, 0)) (i1 : Iz mk v1 (1, 0)) (h : wpX1_addCounts M v0 v1 Q) : Kv l yX1_addCounts cX1_addCounts 3 none rm_X1_addCounts G al mk M [.ref (al v0), .ref (al v1)] (QV G al mk Q) := by
  refine a_head (by decide) (Nat.le_of_ble_eq_true rfl) (fun p e s m below meth c X => ?_)
  have X : Cx p s m meth c G RX1 cX1_addCounts 3 none := X
  unfold wpX1_addCounts at h
  refine a_sub (ks := [0, 1]) (lo' := [(0, .ref (al v0)), (1, .ref (al v1))]) rfl ?_
  refine a_iconst (v := 0) X dX1_addCounts_0 ic_0 ?_
  refine a_istore_n (lo' := [(2, .int 0), (0, .ref (al v0)), (1, .ref (al v1))]) X dX1_addCounts_1 rfl (by decide) rfl ?_
  refine a_sub (ks := [1, 2, 0]) (lo' := [(0, .ref (al v0)), (1, .ref (al v1)), (2, .int 0)]) rfl ?_
  obtain ⟨n9, h⟩ := h
  exact tX1_addCounts_2 X i0 i1 n9 _ _ h
abbrev rm_X1_unlikeValues : Room := { frames := 0, cells := 0, slots := 0, locals := 0 }
def wX1_unlikeValues_4 (Q : Int32 → Mem → Prop) (v0 : Nat) : Nat → Mem → Int32 → Int32 → Prop
  | 0, _, _, _ => False
  | n + 1, M, v1, v2 => ((1000 ≤ v2 → Q v1 M) ∧ (¬ 1000 ≤ v2 → (vp_in v2 1000 ∧ (((gI M (v0 + 1) (Int32.toNatClampNeg v2)) ≤ 0 → wX1_unlikeValues_4 Q v0 n M v1 (v2 + 1)) ∧ (¬ (gI M (v0 + 1) (Int32.toNatClampNeg v2)) ≤ 0 → wX1_unlikeValues_4 Q v0 n M (v1 + 1) (v2 + 1))))))
def wpX1_unlikeValues (M : Mem) (v0 : Nat) (Q : Int32 → Mem → Prop) : Prop := ∃ n, wX1_unlikeValues_4 Q v0 n M 0 0
set_option maxHeartbeats 4000000 in
set_option maxRecDepth 100000 in
theorem tX1_unlikeValues_4 (X : Cx p s m meth c G RX1 cX1_unlikeValues 3 (some .int)) {Q : Int32 → Mem → Prop} {v0 : Nat} (i0 : Iz mk v0 (1, 0)) : ∀ (n : Nat) (M : Mem) (v1 : Int32) (v2 : Int32), wX1_unlikeValues_4 Q v0 n M v1 v2 → Wa p l e rm_X1_unlikeValues s m args below meth c 3 G al mk 0 0 (MQ below (QI G al mk Q) args s 0 0 (gA G)) M 4 [(0, .ref (al v0)), (1, .int v1), (2, .int v2)] [] := by
  intro n
  induction n with
  | zero =>
    intro M v1 v2 h
    exact False.elim h
  | succ n ih =>
    intro M v1 v2 h
    rw [wX1_unlikeValues_4] at h
    refine a_iload_n X dX1_unlikeValues_4 rfl 2 rfl ?_
    refine a_sipush (v := 1000) X dX1_unlikeValues_5 sc_1000 ?_
    refine a_icmp_ge (tgt := 29) X dX1_unlikeValues_8 (by decide) (fun z => ?_) (fun z => ?_)
    · have h := h.1 z
      refine a_iload_n X dX1_unlikeValues_29 rfl 1 rfl ?_
      exact a_iret X h dX1_unlikeValues_30
    · have h := h.2 z
      refine a_aload_n X dX1_unlikeValues_11 rfl 0 rfl ?_
      refine a_getR (k := 1) X 1 (b := (v0 + 1)) fw1 i0 rfl rfl flX1_18 rfl dX1_unlikeValues_12 ?_
      refine a_iload_n X dX1_unlikeValues_15 rfl 2 rfl ?_
      refine a_iald X i0.str.1 h.1 dX1_unlikeValues_16 ?_
      have h := h.2
      refine a_if_le (tgt := 23) X dX1_unlikeValues_17 (by decide) (fun z => ?_) (fun z => ?_)
      · have h := h.1 z
        refine a_iinc (v := v2 + 1) (lo' := [(2, .int (v2 + 1)), (0, .ref (al v0)), (1, .int v1)]) X dX1_unlikeValues_23 2 rfl (ii_1 _) (by decide) rfl ?_
        refine a_goto (tgt := 4) X dX1_unlikeValues_26 (by decide) ?_
        refine a_sub (ks := [1, 2, 0]) (lo' := [(0, .ref (al v0)), (1, .int v1), (2, .int (v2 + 1))]) rfl ?_
        exact ih _ _ _ h
      · have h := h.2 z
        refine a_iinc (v := v1 + 1) (lo' := [(1, .int (v1 + 1)), (0, .ref (al v0)), (2, .int v2)]) X dX1_unlikeValues_20 1 rfl (ii_1 _) (by decide) rfl ?_
        refine a_iinc (v := v2 + 1) (lo' := [(2, .int (v2 + 1)), (1, .int (v1 + 1)), (0, .ref (al v0))]) X dX1_unlikeValues_23 2 rfl (ii_1 _) (by decide) rfl ?_
        refine a_goto (tgt := 4) X dX1_unlikeValues_26 (by decide) ?_
        refine a_sub (ks := [2, 1, 0]) (lo' := [(0, .ref (al v0)), (1, .int (v1 + 1)), (2, .int (v2 + 1))]) rfl ?_
        exact ih _ _ _ h
set_option maxHeartbeats 4000000 in
set_option maxRecDepth 100000 in
theorem cX1_unlikeValues_ok (l : Launch) {G : Gl} {al : Nat → Nat} {mk : Nat} {M : Mem} {v0 : Nat} {Q : Int32 → Mem → Prop} (i0 : Iz mk v0 (1, 0)) (h : wpX1_unlikeValues M v0 Q) : Kv l yX1_unlikeValues cX1_unlikeValues 3 (some .int) rm_X1_unlikeValues G al mk M [.ref (al v0)] (QI G al mk Q) := by
  refine a_head (by decide) (Nat.le_of_ble_eq_true rfl) (fun p e s m below meth c X => ?_)
  have X : Cx p s m meth c G RX1 cX1_unlikeValues 3 (some .int) := X
  unfold wpX1_unlikeValues at h
  refine a_sub (ks := [0]) (lo' := [(0, .ref (al v0))]) rfl ?_
  refine a_iconst (v := 0) X dX1_unlikeValues_0 ic_0 ?_
  refine a_istore_n (lo' := [(1, .int 0), (0, .ref (al v0))]) X dX1_unlikeValues_1 rfl (by decide) rfl ?_
  refine a_iconst (v := 0) X dX1_unlikeValues_2 ic_0 ?_
  refine a_istore_n (lo' := [(2, .int 0), (1, .int 0), (0, .ref (al v0))]) X dX1_unlikeValues_3 rfl (by decide) rfl ?_
  refine a_sub (ks := [2, 1, 0]) (lo' := [(0, .ref (al v0)), (1, .int 0), (2, .int 0)]) rfl ?_
  obtain ⟨n9, h⟩ := h
  exact tX1_unlikeValues_4 X i0 n9 _ _ _ h
abbrev rm_X1_sumOfValues : Room := { frames := 0, cells := 0, slots := 0, locals := 0 }
def wX1_sumOfValues_4 (Q : Int32 → Mem → Prop) (v0 : Nat) : Nat → Mem → Int32 → Int32 → Prop
  | 0, _, _, _ => False
  | n + 1, M, v1, v2 => ((1000 ≤ v2 → Q v1 M) ∧ (¬ 1000 ≤ v2 → (vp_in v2 1000 ∧ (∀ x_1 : Int32, x_1 = (v1 + (v2 * (gI M (v0 + 1) (Int32.toNatClampNeg v2)))) → wX1_sumOfValues_4 Q v0 n M x_1 (v2 + 1)))))
def wpX1_sumOfValues (M : Mem) (v0 : Nat) (Q : Int32 → Mem → Prop) : Prop := ∃ n, wX1_sumOfValues_4 Q v0 n M 0 0
set_option maxHeartbeats 4000000 in
set_option maxRecDepth 100000 in
theorem tX1_sumOfValues_4 (X : Cx p s m meth c G RX1 cX1_sumOfValues 3 (some .int)) {Q : Int32 → Mem → Prop} {v0 : Nat} (i0 : Iz mk v0 (1, 0)) : ∀ (n : Nat) (M : Mem) (v1 : Int32) (v2 : Int32), wX1_sumOfValues_4 Q v0 n M v1 v2 → Wa p l e rm_X1_sumOfValues s m args below meth c 3 G al mk 0 0 (MQ below (QI G al mk Q) args s 0 0 (gA G)) M 4 [(0, .ref (al v0)), (1, .int v1), (2, .int v2)] [] := by
  intro n
  induction n with
  | zero =>
    intro M v1 v2 h
    exact False.elim h
  | succ n ih =>
    intro M v1 v2 h
    rw [wX1_sumOfValues_4] at h
    refine a_iload_n X dX1_sumOfValues_4 rfl 2 rfl ?_
    refine a_sipush (v := 1000) X dX1_sumOfValues_5 sc_1000 ?_
    refine a_icmp_ge (tgt := 28) X dX1_sumOfValues_8 (by decide) (fun z => ?_) (fun z => ?_)
    · have h := h.1 z
      refine a_iload_n X dX1_sumOfValues_28 rfl 1 rfl ?_
      exact a_iret X h dX1_sumOfValues_29
    · have h := h.2 z
      refine a_iload_n X dX1_sumOfValues_11 rfl 1 rfl ?_
      refine a_iload_n X dX1_sumOfValues_12 rfl 2 rfl ?_
      refine a_aload_n X dX1_sumOfValues_13 rfl 0 rfl ?_
      refine a_getR (k := 1) X 1 (b := (v0 + 1)) fw1 i0 rfl rfl flX1_18 rfl dX1_sumOfValues_14 ?_
      refine a_iload_n X dX1_sumOfValues_17 rfl 2 rfl ?_
      refine a_iald X i0.str.1 h.1 dX1_sumOfValues_18 ?_
      have h := h.2
      refine a_imul X dX1_sumOfValues_19 ?_
      refine a_iadd X dX1_sumOfValues_20 ?_
      refine a_topi (fun x_1 ex_1 => ?_)
      have h := h x_1 ex_1
      refine a_istore_n (lo' := [(1, .int x_1), (0, .ref (al v0)), (2, .int v2)]) X dX1_sumOfValues_21 rfl (by decide) rfl ?_
      refine a_iinc (v := v2 + 1) (lo' := [(2, .int (v2 + 1)), (1, .int x_1), (0, .ref (al v0))]) X dX1_sumOfValues_22 2 rfl (ii_1 _) (by decide) rfl ?_
      refine a_goto (tgt := 4) X dX1_sumOfValues_25 (by decide) ?_
      refine a_sub (ks := [2, 1, 0]) (lo' := [(0, .ref (al v0)), (1, .int x_1), (2, .int (v2 + 1))]) rfl ?_
      exact ih _ _ _ h
set_option maxHeartbeats 4000000 in
set_option maxRecDepth 100000 in
theorem cX1_sumOfValues_ok (l : Launch) {G : Gl} {al : Nat → Nat} {mk : Nat} {M : Mem} {v0 : Nat} {Q : Int32 → Mem → Prop} (i0 : Iz mk v0 (1, 0)) (h : wpX1_sumOfValues M v0 Q) : Kv l yX1_sumOfValues cX1_sumOfValues 3 (some .int) rm_X1_sumOfValues G al mk M [.ref (al v0)] (QI G al mk Q) := by
  refine a_head (by decide) (Nat.le_of_ble_eq_true rfl) (fun p e s m below meth c X => ?_)
  have X : Cx p s m meth c G RX1 cX1_sumOfValues 3 (some .int) := X
  unfold wpX1_sumOfValues at h
  refine a_sub (ks := [0]) (lo' := [(0, .ref (al v0))]) rfl ?_
  refine a_iconst (v := 0) X dX1_sumOfValues_0 ic_0 ?_
  refine a_istore_n (lo' := [(1, .int 0), (0, .ref (al v0))]) X dX1_sumOfValues_1 rfl (by decide) rfl ?_
  refine a_iconst (v := 0) X dX1_sumOfValues_2 ic_0 ?_
  refine a_istore_n (lo' := [(2, .int 0), (1, .int 0), (0, .ref (al v0))]) X dX1_sumOfValues_3 rfl (by decide) rfl ?_
  refine a_sub (ks := [2, 1, 0]) (lo' := [(0, .ref (al v0)), (1, .int 0), (2, .int 0)]) rfl ?_
  obtain ⟨n9, h⟩ := h
  exact tX1_sumOfValues_4 X i0 n9 _ _ _ h
abbrev rm_X1_valueAt : Room := { frames := 0, cells := 0, slots := 0, locals := 0 }
def wX1_valueAt_4 (Q : Int32 → Mem → Prop) (v0 : Nat) : Nat → Mem → Int32 → Int32 → Prop
  | 0, _, _, _ => False
  | n + 1, M, v2, v3 => ((1000 ≤ v3 → Q (-1) M) ∧ (¬ 1000 ≤ v3 → (vp_in v3 1000 ∧ (∀ x_1 : Int32, x_1 = (v2 - (gI M (v0 + 1) (Int32.toNatClampNeg v3))) → ((0 < x_1 → wX1_valueAt_4 Q v0 n M x_1 (v3 + 1)) ∧ (¬ 0 < x_1 → Q v3 M))))))
def wpX1_valueAt (M : Mem) (v0 : Nat) (v1 : Int32) (Q : Int32 → Mem → Prop) : Prop := ∃ n, wX1_valueAt_4 Q v0 n M v1 0
set_option maxHeartbeats 4000000 in
set_option maxRecDepth 100000 in
theorem tX1_valueAt_4 (X : Cx p s m meth c G RX1 cX1_valueAt 4 (some .int)) {Q : Int32 → Mem → Prop} {v0 : Nat} (i0 : Iz mk v0 (1, 0)) : ∀ (n : Nat) (M : Mem) (v2 : Int32) (v3 : Int32), wX1_valueAt_4 Q v0 n M v2 v3 → Wa p l e rm_X1_valueAt s m args below meth c 4 G al mk 0 0 (MQ below (QI G al mk Q) args s 0 0 (gA G)) M 4 [(0, .ref (al v0)), (2, .int v2), (3, .int v3)] [] := by
  intro n
  induction n with
  | zero =>
    intro M v2 v3 h
    exact False.elim h
  | succ n ih =>
    intro M v2 v3 h
    rw [wX1_valueAt_4] at h
    refine a_iload_n X dX1_valueAt_4 rfl 2 rfl ?_
    refine a_sipush (v := 1000) X dX1_valueAt_5 sc_1000 ?_
    refine a_icmp_ge (tgt := 32) X dX1_valueAt_8 (by decide) (fun z => ?_) (fun z => ?_)
    · have h := h.1 z
      refine a_iconst (v := (-1)) X dX1_valueAt_32 ic_m1 ?_
      exact a_iret X h dX1_valueAt_33
    · have h := h.2 z
      refine a_iload_n X dX1_valueAt_11 rfl 1 rfl ?_
      refine a_aload_n X dX1_valueAt_12 rfl 0 rfl ?_
      refine a_getR (k := 1) X 1 (b := (v0 + 1)) fw1 i0 rfl rfl flX1_18 rfl dX1_valueAt_13 ?_
      refine a_iload_n X dX1_valueAt_16 rfl 2 rfl ?_
      refine a_iald X i0.str.1 h.1 dX1_valueAt_17 ?_
      have h := h.2
      refine a_isub X dX1_valueAt_18 ?_
      refine a_topi (fun x_1 ex_1 => ?_)
      have h := h x_1 ex_1
      refine a_istore_n (lo' := [(2, .int x_1), (0, .ref (al v0)), (3, .int v3)]) X dX1_valueAt_19 rfl (by decide) rfl ?_
      refine a_iload_n X dX1_valueAt_20 rfl 0 rfl ?_
      refine a_if_gt (tgt := 26) X dX1_valueAt_21 (by decide) (fun z => ?_) (fun z => ?_)
      · have h := h.1 z
        refine a_iinc (v := v3 + 1) (lo' := [(3, .int (v3 + 1)), (2, .int x_1), (0, .ref (al v0))]) X dX1_valueAt_26 2 rfl (ii_1 _) (by decide) rfl ?_
        refine a_goto (tgt := 4) X dX1_valueAt_29 (by decide) ?_
        refine a_sub (ks := [2, 1, 0]) (lo' := [(0, .ref (al v0)), (2, .int x_1), (3, .int (v3 + 1))]) rfl ?_
        exact ih _ _ _ h
      · have h := h.2 z
        refine a_iload_n X dX1_valueAt_24 rfl 2 rfl ?_
        exact a_iret X h dX1_valueAt_25
set_option maxHeartbeats 4000000 in
set_option maxRecDepth 100000 in
theorem cX1_valueAt_ok (l : Launch) {G : Gl} {al : Nat → Nat} {mk : Nat} {M : Mem} {v0 : Nat} {v1 : Int32} {Q : Int32 → Mem → Prop} (i0 : Iz mk v0 (1, 0)) (h : wpX1_valueAt M v0 v1 Q) : Kv l yX1_valueAt cX1_valueAt 4 (some .int) rm_X1_valueAt G al mk M [.ref (al v0), .int v1] (QI G al mk Q) := by
  refine a_head (by decide) (Nat.le_of_ble_eq_true rfl) (fun p e s m below meth c X => ?_)
  have X : Cx p s m meth c G RX1 cX1_valueAt 4 (some .int) := X
  unfold wpX1_valueAt at h
  refine a_sub (ks := [0, 1]) (lo' := [(0, .ref (al v0)), (1, .int v1)]) rfl ?_
  refine a_iload_n X dX1_valueAt_0 rfl 1 rfl ?_
  refine a_istore_n (lo' := [(2, .int v1), (0, .ref (al v0)), (1, .int v1)]) X dX1_valueAt_1 rfl (by decide) rfl ?_
  refine a_iconst (v := 0) X dX1_valueAt_2 ic_0 ?_
  refine a_istore_n (lo' := [(3, .int 0), (2, .int v1), (0, .ref (al v0)), (1, .int v1)]) X dX1_valueAt_3 rfl (by decide) rfl ?_
  refine a_sub (ks := [2, 1, 0]) (lo' := [(0, .ref (al v0)), (2, .int v1), (3, .int 0)]) rfl ?_
  obtain ⟨n9, h⟩ := h
  exact tX1_valueAt_4 X i0 n9 _ _ _ h
abbrev rm_X1_quotaPlace : Room := { frames := 1, cells := 0, slots := 0, locals := 21 }
def wpX1_quotaPlace (M : Mem) (v0 : Nat) (v1 : Int32) (v2 : Int32) (Q : Int32 → Mem → Prop) : Prop := ((1 ≤ v2 → (¬ v2 = 0 ∧ Q (if 1 < (((((gI M v0 2) * v1) + v2) - 1) / v2) then (((((gI M v0 2) * v1) + v2) - 1) / v2) else 1) M)) ∧ (¬ 1 ≤ v2 → Q 1 M))
set_option maxHeartbeats 4000000 in
set_option maxRecDepth 100000 in
theorem cX1_quotaPlace_ok (l : Launch) {G : Gl} {al : Nat → Nat} {mk : Nat} {M : Mem} {v0 : Nat} {v1 : Int32} {v2 : Int32} {Q : Int32 → Mem → Prop} (i0 : Iz mk v0 (1, 0)) (h : wpX1_quotaPlace M v0 v1 v2 Q) : Kv l yX1_quotaPlace cX1_quotaPlace 3 (some .int) rm_X1_quotaPlace G al mk M [.ref (al v0), .int v1, .int v2] (QI G al mk Q) := by
  refine a_head (by decide) (Nat.le_of_ble_eq_true rfl) (fun p e s m below meth c X => ?_)
  have X : Cx p s m meth c G RX1 cX1_quotaPlace 3 (some .int) := X
  unfold wpX1_quotaPlace at h
  refine a_sub (ks := [0, 1, 2]) (lo' := [(0, .ref (al v0)), (1, .int v1), (2, .int v2)]) rfl ?_
  refine a_iload_n X dX1_quotaPlace_0 rfl 2 rfl ?_
  refine a_iconst (v := 1) X dX1_quotaPlace_1 ic_1 ?_
  refine a_icmp_ge (tgt := 9) X dX1_quotaPlace_2 (by decide) (fun z => ?_) (fun z => ?_)
  · have h := h.1 z
    refine a_iconst (v := 1) X dX1_quotaPlace_9 ic_1 ?_
    refine a_aload_n X dX1_quotaPlace_10 rfl 0 rfl ?_
    refine a_getI (k := 2) X fw1 i0 rfl flX1_22 rfl dX1_quotaPlace_11 ?_
    refine a_iload_n X dX1_quotaPlace_14 rfl 1 rfl ?_
    refine a_imul X dX1_quotaPlace_15 ?_
    refine a_iload_n X dX1_quotaPlace_16 rfl 2 rfl ?_
    refine a_iadd X dX1_quotaPlace_17 ?_
    refine a_iconst (v := 1) X dX1_quotaPlace_18 ic_1 ?_
    refine a_isub X dX1_quotaPlace_19 ?_
    refine a_iload_n X dX1_quotaPlace_20 rfl 2 rfl ?_
    refine a_idiv X dX1_quotaPlace_21 h.1 ?_
    have h := h.2
    refine a_mmax X mlX1_70 mm_max ⟨by decide, Nat.le_of_ble_eq_true rfl, Nat.le_refl _, Nat.le_refl _⟩ dX1_quotaPlace_22 ?_
    exact a_iret X h dX1_quotaPlace_25
  · have h := h.2 z
    refine a_iconst (v := 1) X dX1_quotaPlace_5 ic_1 ?_
    refine a_goto (tgt := 25) X dX1_quotaPlace_6 (by decide) ?_
    exact a_iret X h dX1_quotaPlace_25
abbrev rm_X1_valuesBetween : Room := { frames := 0, cells := 0, slots := 0, locals := 0 }
def wX1_valuesBetween_5 (Q : Int32 → Mem → Prop) (v0 : Nat) (v2 : Int32) : Nat → Mem → Int32 → Int32 → Prop
  | 0, _, _, _ => False
  | n + 1, M, v3, v4 => ((v2 ≤ v4 → Q v3 M) ∧ (¬ v2 ≤ v4 → ((1000 ≤ v4 → Q v3 M) ∧ (¬ 1000 ≤ v4 → (vp_in v4 1000 ∧ (∀ x_1 : Int32, x_1 = (v3 + (gI M (v0 + 1) (Int32.toNatClampNeg v4))) → wX1_valuesBetween_5 Q v0 v2 n M x_1 (v4 + 1)))))))
def wpX1_valuesBetween (M : Mem) (v0 : Nat) (v1 : Int32) (v2 : Int32) (Q : Int32 → Mem → Prop) : Prop := ∃ n, wX1_valuesBetween_5 Q v0 v2 n M 0 v1
set_option maxHeartbeats 4000000 in
set_option maxRecDepth 100000 in
theorem tX1_valuesBetween_5 (X : Cx p s m meth c G RX1 cX1_valuesBetween 5 (some .int)) {Q : Int32 → Mem → Prop} {v0 : Nat} {v2 : Int32} (i0 : Iz mk v0 (1, 0)) : ∀ (n : Nat) (M : Mem) (v3 : Int32) (v4 : Int32), wX1_valuesBetween_5 Q v0 v2 n M v3 v4 → Wa p l e rm_X1_valuesBetween s m args below meth c 5 G al mk 0 0 (MQ below (QI G al mk Q) args s 0 0 (gA G)) M 5 [(0, .ref (al v0)), (2, .int v2), (3, .int v3), (4, .int v4)] [] := by
  intro n
  induction n with
  | zero =>
    intro M v3 v4 h
    exact False.elim h
  | succ n ih =>
    intro M v3 v4 h
    rw [wX1_valuesBetween_5] at h
    refine a_iload X dX1_valuesBetween_5 3 rfl ?_
    refine a_iload_n X dX1_valuesBetween_7 rfl 1 rfl ?_
    refine a_icmp_ge (tgt := 35) X dX1_valuesBetween_8 (by decide) (fun z => ?_) (fun z => ?_)
    · have h := h.1 z
      refine a_iload_n X dX1_valuesBetween_35 rfl 2 rfl ?_
      exact a_iret X h dX1_valuesBetween_36
    · have h := h.2 z
      refine a_iload X dX1_valuesBetween_11 3 rfl ?_
      refine a_sipush (v := 1000) X dX1_valuesBetween_13 sc_1000 ?_
      refine a_icmp_ge (tgt := 35) X dX1_valuesBetween_16 (by decide) (fun z => ?_) (fun z => ?_)
      · have h := h.1 z
        refine a_iload_n X dX1_valuesBetween_35 rfl 2 rfl ?_
        exact a_iret X h dX1_valuesBetween_36
      · have h := h.2 z
        refine a_iload_n X dX1_valuesBetween_19 rfl 2 rfl ?_
        refine a_aload_n X dX1_valuesBetween_20 rfl 0 rfl ?_
        refine a_getR (k := 1) X 1 (b := (v0 + 1)) fw1 i0 rfl rfl flX1_18 rfl dX1_valuesBetween_21 ?_
        refine a_iload X dX1_valuesBetween_24 3 rfl ?_
        refine a_iald X i0.str.1 h.1 dX1_valuesBetween_26 ?_
        have h := h.2
        refine a_iadd X dX1_valuesBetween_27 ?_
        refine a_topi (fun x_1 ex_1 => ?_)
        have h := h x_1 ex_1
        refine a_istore_n (lo' := [(3, .int x_1), (0, .ref (al v0)), (2, .int v2), (4, .int v4)]) X dX1_valuesBetween_28 rfl (by decide) rfl ?_
        refine a_iinc (v := v4 + 1) (lo' := [(4, .int (v4 + 1)), (3, .int x_1), (0, .ref (al v0)), (2, .int v2)]) X dX1_valuesBetween_29 3 rfl (ii_1 _) (by decide) rfl ?_
        refine a_goto (tgt := 5) X dX1_valuesBetween_32 (by decide) ?_
        refine a_sub (ks := [2, 3, 1, 0]) (lo' := [(0, .ref (al v0)), (2, .int v2), (3, .int x_1), (4, .int (v4 + 1))]) rfl ?_
        exact ih _ _ _ h
set_option maxHeartbeats 4000000 in
set_option maxRecDepth 100000 in
theorem cX1_valuesBetween_ok (l : Launch) {G : Gl} {al : Nat → Nat} {mk : Nat} {M : Mem} {v0 : Nat} {v1 : Int32} {v2 : Int32} {Q : Int32 → Mem → Prop} (i0 : Iz mk v0 (1, 0)) (h : wpX1_valuesBetween M v0 v1 v2 Q) : Kv l yX1_valuesBetween cX1_valuesBetween 5 (some .int) rm_X1_valuesBetween G al mk M [.ref (al v0), .int v1, .int v2] (QI G al mk Q) := by
  refine a_head (by decide) (Nat.le_of_ble_eq_true rfl) (fun p e s m below meth c X => ?_)
  have X : Cx p s m meth c G RX1 cX1_valuesBetween 5 (some .int) := X
  unfold wpX1_valuesBetween at h
  refine a_sub (ks := [0, 1, 2]) (lo' := [(0, .ref (al v0)), (1, .int v1), (2, .int v2)]) rfl ?_
  refine a_iconst (v := 0) X dX1_valuesBetween_0 ic_0 ?_
  refine a_istore_n (lo' := [(3, .int 0), (0, .ref (al v0)), (1, .int v1), (2, .int v2)]) X dX1_valuesBetween_1 rfl (by decide) rfl ?_
  refine a_iload_n X dX1_valuesBetween_2 rfl 2 rfl ?_
  refine a_istore (lo' := [(4, .int v1), (3, .int 0), (0, .ref (al v0)), (1, .int v1), (2, .int v2)]) X dX1_valuesBetween_3 (by decide) rfl ?_
  refine a_sub (ks := [2, 4, 1, 0]) (lo' := [(0, .ref (al v0)), (2, .int v2), (3, .int 0), (4, .int v1)]) rfl ?_
  obtain ⟨n9, h⟩ := h
  exact tX1_valuesBetween_5 X i0 n9 _ _ _ h
abbrev rm_X1_missOf : Room := { frames := 1, cells := 0, slots := 0, locals := 21 }
def wpX1_missOf (M : Mem) (v0 : Nat) (v1 : Int32) (v2 : Int32) (v3 : Int32) (Q : Int32 → Mem → Prop) : Prop := (∀ x_1 : Int32, x_1 = ((v3 + 1) - v1) → (vp_in v2 1000 ∧ (∀ x_2 : Int32, x_2 = ((v1 - v3) - (gI M (v0 + 1) (Int32.toNatClampNeg v2))) → Q (if 0 < (if x_1 < x_2 then x_2 else x_1) then (if x_1 < x_2 then x_2 else x_1) else 0) M)))
set_option maxHeartbeats 4000000 in
set_option maxRecDepth 100000 in
theorem cX1_missOf_ok (l : Launch) {G : Gl} {al : Nat → Nat} {mk : Nat} {M : Mem} {v0 : Nat} {v1 : Int32} {v2 : Int32} {v3 : Int32} {Q : Int32 → Mem → Prop} (i0 : Iz mk v0 (1, 0)) (h : wpX1_missOf M v0 v1 v2 v3 Q) : Kv l yX1_missOf cX1_missOf 6 (some .int) rm_X1_missOf G al mk M [.ref (al v0), .int v1, .int v2, .int v3] (QI G al mk Q) := by
  refine a_head (by decide) (Nat.le_of_ble_eq_true rfl) (fun p e s m below meth c X => ?_)
  have X : Cx p s m meth c G RX1 cX1_missOf 6 (some .int) := X
  unfold wpX1_missOf at h
  refine a_sub (ks := [0, 1, 2, 3]) (lo' := [(0, .ref (al v0)), (1, .int v1), (2, .int v2), (3, .int v3)]) rfl ?_
  refine a_iload_n X dX1_missOf_0 rfl 3 rfl ?_
  refine a_iconst (v := 1) X dX1_missOf_1 ic_1 ?_
  refine a_iadd X dX1_missOf_2 ?_
  refine a_iload_n X dX1_missOf_3 rfl 1 rfl ?_
  refine a_isub X dX1_missOf_4 ?_
  refine a_topi (fun x_1 ex_1 => ?_)
  have h := h x_1 ex_1
  refine a_istore (lo' := [(4, .int x_1), (0, .ref (al v0)), (1, .int v1), (2, .int v2), (3, .int v3)]) X dX1_missOf_5 (by decide) rfl ?_
  refine a_iload_n X dX1_missOf_7 rfl 2 rfl ?_
  refine a_iload_n X dX1_missOf_8 rfl 4 rfl ?_
  refine a_isub X dX1_missOf_9 ?_
  refine a_aload_n X dX1_missOf_10 rfl 1 rfl ?_
  refine a_getR (k := 1) X 1 (b := (v0 + 1)) fw1 i0 rfl rfl flX1_18 rfl dX1_missOf_11 ?_
  refine a_iload_n X dX1_missOf_14 rfl 3 rfl ?_
  refine a_iald X i0.str.1 h.1 dX1_missOf_15 ?_
  have h := h.2
  refine a_isub X dX1_missOf_16 ?_
  refine a_topi (fun x_2 ex_2 => ?_)
  have h := h x_2 ex_2
  refine a_istore (lo' := [(5, .int x_2), (4, .int x_1), (0, .ref (al v0)), (1, .int v1), (2, .int v2), (3, .int v3)]) X dX1_missOf_17 (by decide) rfl ?_
  refine a_iconst (v := 0) X dX1_missOf_19 ic_0 ?_
  refine a_iload X dX1_missOf_20 1 rfl ?_
  refine a_iload X dX1_missOf_22 0 rfl ?_
  refine a_mmax X mlX1_70 mm_max ⟨by decide, Nat.le_of_ble_eq_true rfl, Nat.le_refl _, Nat.le_refl _⟩ dX1_missOf_24 ?_
  refine a_mmax X mlX1_70 mm_max ⟨by decide, Nat.le_of_ble_eq_true rfl, Nat.le_refl _, Nat.le_refl _⟩ dX1_missOf_27 ?_
  exact a_iret X h dX1_missOf_30
abbrev rm_X1_missAt : Room := { frames := 3, cells := 0, slots := 0, locals := 69 }
def wpX1_missAt (M : Mem) (v0 : Nat) (v1 : Int32) (Q : Int32 → Mem → Prop) : Prop := wpX0_nearest M (v0 + 5) v1 0 (fun r_2 M_1 => (vp_in r_2 1000 ∧ (∀ x_3 : Int32, x_3 = (gI M_1 ((v0 + 5) + 1) (Int32.toNatClampNeg r_2)) → wpX1_valuesBetween M_1 v0 0 x_3 (fun r_5 M_4 => wpX1_missOf M_4 v0 v1 x_3 r_5 (fun r_7 M_6 => Q r_7 M_6)))))
set_option maxHeartbeats 4000000 in
set_option maxRecDepth 100000 in
theorem cX1_missAt_ok (l : Launch) {G : Gl} {al : Nat → Nat} {mk : Nat} {M : Mem} {v0 : Nat} {v1 : Int32} {Q : Int32 → Mem → Prop} (i0 : Iz mk v0 (1, 0)) (h : wpX1_missAt M v0 v1 Q) : Kv l yX1_missAt cX1_missAt 3 (some .int) rm_X1_missAt G al mk M [.ref (al v0), .int v1] (QI G al mk Q) := by
  refine a_head (by decide) (Nat.le_of_ble_eq_true rfl) (fun p e s m below meth c X => ?_)
  have X : Cx p s m meth c G RX1 cX1_missAt 3 (some .int) := X
  unfold wpX1_missAt at h
  refine a_sub (ks := [0, 1]) (lo' := [(0, .ref (al v0)), (1, .int v1)]) rfl ?_
  refine a_aload_n X dX1_missAt_0 rfl 0 rfl ?_
  refine a_getR (k := 0) X 5 (b := (v0 + 5)) fw1 i0 rfl rfl flX1_12 rfl dX1_missAt_1 ?_
  refine a_getR (k := 0) X 1 (b := ((v0 + 5) + 1)) fw0 i0.str.2 rfl rfl flX1_75 rfl dX1_missAt_4 ?_
  refine a_aload_n X dX1_missAt_7 rfl 0 rfl ?_
  refine a_getR (k := 0) X 5 (b := (v0 + 5)) fw1 i0 rfl rfl flX1_12 rfl dX1_missAt_8 ?_
  refine a_iload_n X dX1_missAt_11 rfl 1 rfl ?_
  refine a_iconst (v := 0) X dX1_missAt_12 ic_0 ?_
  refine a_cVi (As := [.int v1, .int 0]) (st := [.ref (al ((v0 + 5) + 1))]) X fw0 i0.str.2 (cX0_nearest_ok l i0.str.2 h) mlX1_78 mvX0_nearest (rz rfl) (Nat.le_of_ble_eq_true rfl) rfl dX1_missAt_13 (fun r_2 M_1 h => ?_)
  refine a_iald X i0.str.2.row.1 h.1 dX1_missAt_16 ?_
  have h := h.2
  refine a_topi (fun x_3 ex_3 => ?_)
  have h := h x_3 ex_3
  refine a_istore_n (lo' := [(2, .int x_3), (0, .ref (al v0)), (1, .int v1)]) X dX1_missAt_17 rfl (by decide) rfl ?_
  refine a_aload_n X dX1_missAt_18 rfl 1 rfl ?_
  refine a_iload_n X dX1_missAt_19 rfl 2 rfl ?_
  refine a_iload_n X dX1_missAt_20 rfl 0 rfl ?_
  refine a_aload_n X dX1_missAt_21 rfl 1 rfl ?_
  refine a_iconst (v := 0) X dX1_missAt_22 ic_0 ?_
  refine a_iload_n X dX1_missAt_23 rfl 0 rfl ?_
  refine a_cVi (As := [.int 0, .int x_3]) (st := [.int x_3, .int v1, .ref (al v0)]) X fw1 i0 (cX1_valuesBetween_ok l i0 h) mlX1_81 mvX1_valuesBetween (rz rfl) (Nat.le_of_ble_eq_true rfl) rfl dX1_missAt_24 (fun r_5 M_4 h => ?_)
  refine a_cVi (As := [.int v1, .int x_3, .int r_5]) (st := []) X fw1 i0 (cX1_missOf_ok l i0 h) mlX1_84 mvX1_missOf (rz rfl) (Nat.le_of_ble_eq_true rfl) rfl dX1_missAt_27 (fun r_7 M_6 h => ?_)
  exact a_iret X h dX1_missAt_30
abbrev rm_X1_greatestMiss : Room := { frames := 3, cells := 0, slots := 0, locals := 69 }
def wX1_greatestMiss_12 (Q : Int32 → Mem → Prop) (v0 : Nat) : Nat → Mem → Int32 → Int32 → Int32 → Int32 → Int32 → Prop
  | 0, _, _, _, _, _, _ => False
  | n + 1, M, v1, v2, v3, v4, v5 => (((gI M v0 2) < v5 → Q v1 M) ∧ (¬ (gI M v0 2) < v5 → wpX0_nearest M (v0 + 5) v5 v2 (fun r_2 M_1 => (vp_in r_2 1000 ∧ wpX1_valuesBetween M_1 v0 v3 (gI M_1 ((v0 + 5) + 1) (Int32.toNatClampNeg r_2)) (fun r_4 M_3 => (∀ x_5 : Int32, x_5 = (v4 + r_4) → (vp_in r_2 1000 ∧ (∀ x_6 : Int32, x_6 = (gI M_3 ((v0 + 5) + 1) (Int32.toNatClampNeg r_2)) → wpX1_missOf M_3 v0 v5 x_6 x_5 (fun r_8 M_7 => (∀ x_9 : Int32, x_9 = (if v1 < r_8 then r_8 else v1) → wX1_greatestMiss_12 Q v0 n M_7 x_9 r_2 x_6 x_5 (v5 + 1)))))))))))
def wpX1_greatestMiss (M : Mem) (v0 : Nat) (Q : Int32 → Mem → Prop) : Prop := ∃ n, wX1_greatestMiss_12 Q v0 n M 0 0 0 0 1
set_option maxHeartbeats 4000000 in
set_option maxRecDepth 100000 in
theorem tX1_greatestMiss_12 (X : Cx p s m meth c G RX1 cX1_greatestMiss 6 (some .int)) {Q : Int32 → Mem → Prop} {v0 : Nat} (i0 : Iz mk v0 (1, 0)) : ∀ (n : Nat) (M : Mem) (v1 : Int32) (v2 : Int32) (v3 : Int32) (v4 : Int32) (v5 : Int32), wX1_greatestMiss_12 Q v0 n M v1 v2 v3 v4 v5 → Wa p l e rm_X1_greatestMiss s m args below meth c 6 G al mk 0 0 (MQ below (QI G al mk Q) args s 0 0 (gA G)) M 12 [(0, .ref (al v0)), (1, .int v1), (2, .int v2), (3, .int v3), (4, .int v4), (5, .int v5)] [] := by
  intro n
  induction n with
  | zero =>
    intro M v1 v2 v3 v4 v5 h
    exact False.elim h
  | succ n ih =>
    intro M v1 v2 v3 v4 v5 h
    rw [wX1_greatestMiss_12] at h
    refine a_iload X dX1_greatestMiss_12 5 rfl ?_
    refine a_aload_n X dX1_greatestMiss_14 rfl 0 rfl ?_
    refine a_getI (k := 2) X fw1 i0 rfl flX1_22 rfl dX1_greatestMiss_15 ?_
    refine a_icmp_gt (tgt := 81) X dX1_greatestMiss_18 (by decide) (fun z => ?_) (fun z => ?_)
    · have h := h.1 z
      refine a_iload_n X dX1_greatestMiss_81 rfl 1 rfl ?_
      exact a_iret X h dX1_greatestMiss_82
    · have h := h.2 z
      refine a_aload_n X dX1_greatestMiss_21 rfl 0 rfl ?_
      refine a_getR (k := 0) X 5 (b := (v0 + 5)) fw1 i0 rfl rfl flX1_12 rfl dX1_greatestMiss_22 ?_
      refine a_iload X dX1_greatestMiss_25 5 rfl ?_
      refine a_iload_n X dX1_greatestMiss_27 rfl 2 rfl ?_
      refine a_cVi (As := [.int v5, .int v2]) (st := []) X fw0 i0.str.2 (cX0_nearest_ok l i0.str.2 h) mlX1_78 mvX0_nearest (rz rfl) (Nat.le_of_ble_eq_true rfl) rfl dX1_greatestMiss_28 (fun r_2 M_1 h => ?_)
      refine a_istore_n (lo' := [(2, .int r_2), (0, .ref (al v0)), (1, .int v1), (3, .int v3), (4, .int v4), (5, .int v5)]) X dX1_greatestMiss_31 rfl (by decide) rfl ?_
      refine a_iload X dX1_greatestMiss_32 4 rfl ?_
      refine a_aload_n X dX1_greatestMiss_34 rfl 1 rfl ?_
      refine a_iload_n X dX1_greatestMiss_35 rfl 3 rfl ?_
      refine a_aload_n X dX1_greatestMiss_36 rfl 1 rfl ?_
      refine a_getR (k := 0) X 5 (b := (v0 + 5)) fw1 i0 rfl rfl flX1_12 rfl dX1_greatestMiss_37 ?_
      refine a_getR (k := 0) X 1 (b := ((v0 + 5) + 1)) fw0 i0.str.2 rfl rfl flX1_75 rfl dX1_greatestMiss_40 ?_
      refine a_iload_n X dX1_greatestMiss_43 rfl 0 rfl ?_
      refine a_iald X i0.str.2.row.1 h.1 dX1_greatestMiss_44 ?_
      have h := h.2
      refine a_cVi (As := [.int v3, .int (gI M_1 ((v0 + 5) + 1) (Int32.toNatClampNeg r_2))]) (st := [.int v4]) X fw1 i0 (cX1_valuesBetween_ok l i0 h) mlX1_81 mvX1_valuesBetween (rz rfl) (Nat.le_of_ble_eq_true rfl) rfl dX1_greatestMiss_45 (fun r_4 M_3 h => ?_)
      refine a_iadd X dX1_greatestMiss_48 ?_
      refine a_topi (fun x_5 ex_5 => ?_)
      have h := h x_5 ex_5
      refine a_istore (lo' := [(4, .int x_5), (2, .int r_2), (0, .ref (al v0)), (1, .int v1), (3, .int v3), (5, .int v5)]) X dX1_greatestMiss_49 (by decide) rfl ?_
      refine a_aload_n X dX1_greatestMiss_51 rfl 2 rfl ?_
      refine a_getR (k := 0) X 5 (b := (v0 + 5)) fw1 i0 rfl rfl flX1_12 rfl dX1_greatestMiss_52 ?_
      refine a_getR (k := 0) X 1 (b := ((v0 + 5) + 1)) fw0 i0.str.2 rfl rfl flX1_75 rfl dX1_greatestMiss_55 ?_
      refine a_iload_n X dX1_greatestMiss_58 rfl 1 rfl ?_
      refine a_iald X i0.str.2.row.1 h.1 dX1_greatestMiss_59 ?_
      have h := h.2
      refine a_topi (fun x_6 ex_6 => ?_)
      have h := h x_6 ex_6
      refine a_istore_n (lo' := [(3, .int x_6), (4, .int x_5), (2, .int r_2), (0, .ref (al v0)), (1, .int v1), (5, .int v5)]) X dX1_greatestMiss_60 rfl (by decide) rfl ?_
      refine a_iload_n X dX1_greatestMiss_61 rfl 4 rfl ?_
      refine a_aload_n X dX1_greatestMiss_62 rfl 3 rfl ?_
      refine a_iload X dX1_greatestMiss_63 5 rfl ?_
      refine a_iload_n X dX1_greatestMiss_65 rfl 0 rfl ?_
      refine a_iload X dX1_greatestMiss_66 1 rfl ?_
      refine a_cVi (As := [.int v5, .int x_6, .int x_5]) (st := [.int v1]) X fw1 i0 (cX1_missOf_ok l i0 h) mlX1_84 mvX1_missOf (rz rfl) (Nat.le_of_ble_eq_true rfl) rfl dX1_greatestMiss_68 (fun r_8 M_7 h => ?_)
      refine a_mmax X mlX1_70 mm_max ⟨by decide, Nat.le_of_ble_eq_true rfl, Nat.le_refl _, Nat.le_refl _⟩ dX1_greatestMiss_71 ?_
      refine a_topi (fun x_9 ex_9 => ?_)
      have h := h x_9 ex_9
      refine a_istore_n (lo' := [(1, .int x_9), (3, .int x_6), (4, .int x_5), (2, .int r_2), (0, .ref (al v0)), (5, .int v5)]) X dX1_greatestMiss_74 rfl (by decide) rfl ?_
      refine a_iinc (v := v5 + 1) (lo' := [(5, .int (v5 + 1)), (1, .int x_9), (3, .int x_6), (4, .int x_5), (2, .int r_2), (0, .ref (al v0))]) X dX1_greatestMiss_75 5 rfl (ii_1 _) (by decide) rfl ?_
      refine a_goto (tgt := 12) X dX1_greatestMiss_78 (by decide) ?_
      refine a_sub (ks := [5, 1, 4, 2, 3, 0]) (lo' := [(0, .ref (al v0)), (1, .int x_9), (2, .int r_2), (3, .int x_6), (4, .int x_5), (5, .int (v5 + 1))]) rfl ?_
      exact ih _ _ _ _ _ _ h
set_option maxHeartbeats 4000000 in
set_option maxRecDepth 100000 in
theorem cX1_greatestMiss_ok (l : Launch) {G : Gl} {al : Nat → Nat} {mk : Nat} {M : Mem} {v0 : Nat} {Q : Int32 → Mem → Prop} (i0 : Iz mk v0 (1, 0)) (h : wpX1_greatestMiss M v0 Q) : Kv l yX1_greatestMiss cX1_greatestMiss 6 (some .int) rm_X1_greatestMiss G al mk M [.ref (al v0)] (QI G al mk Q) := by
  refine a_head (by decide) (Nat.le_of_ble_eq_true rfl) (fun p e s m below meth c X => ?_)
  have X : Cx p s m meth c G RX1 cX1_greatestMiss 6 (some .int) := X
  unfold wpX1_greatestMiss at h
  refine a_sub (ks := [0]) (lo' := [(0, .ref (al v0))]) rfl ?_
  refine a_iconst (v := 0) X dX1_greatestMiss_0 ic_0 ?_
  refine a_istore_n (lo' := [(1, .int 0), (0, .ref (al v0))]) X dX1_greatestMiss_1 rfl (by decide) rfl ?_
  refine a_iconst (v := 0) X dX1_greatestMiss_2 ic_0 ?_
  refine a_istore_n (lo' := [(2, .int 0), (1, .int 0), (0, .ref (al v0))]) X dX1_greatestMiss_3 rfl (by decide) rfl ?_
  refine a_iconst (v := 0) X dX1_greatestMiss_4 ic_0 ?_
  refine a_istore_n (lo' := [(3, .int 0), (2, .int 0), (1, .int 0), (0, .ref (al v0))]) X dX1_greatestMiss_5 rfl (by decide) rfl ?_
  refine a_iconst (v := 0) X dX1_greatestMiss_6 ic_0 ?_
  refine a_istore (lo' := [(4, .int 0), (3, .int 0), (2, .int 0), (1, .int 0), (0, .ref (al v0))]) X dX1_greatestMiss_7 (by decide) rfl ?_
  refine a_iconst (v := 1) X dX1_greatestMiss_9 ic_1 ?_
  refine a_istore (lo' := [(5, .int 1), (4, .int 0), (3, .int 0), (2, .int 0), (1, .int 0), (0, .ref (al v0))]) X dX1_greatestMiss_10 (by decide) rfl ?_
  refine a_sub (ks := [5, 4, 3, 2, 1, 0]) (lo' := [(0, .ref (al v0)), (1, .int 0), (2, .int 0), (3, .int 0), (4, .int 0), (5, .int 1)]) rfl ?_
  obtain ⟨n9, h⟩ := h
  exact tX1_greatestMiss_12 X i0 n9 _ _ _ _ _ _ h
abbrev rm_X1_unevenness : Room := { frames := 4, cells := 0, slots := 0, locals := 86 }
def wX1_unevenness_25 (Q : Int32 → Mem → Prop) (v0 : Nat) (v1 : Int32) : Nat → Mem → Int32 → Int32 → Int32 → Int32 → Prop
  | 0, _, _, _, _, _ => False
  | n + 1, M, v2, v3, v4, v5 => ((v1 < v5 → Q (v2 - v3) M) ∧ (¬ v1 < v5 → wpX1_quotaPlace M v0 v5 v1 (fun r_6 M_5 => wpX0_nearest M_5 (v0 + 5) r_6 v4 (fun r_8 M_7 => (vp_in v4 1000 ∧ (vp_in r_8 1000 ∧ wpX0_countAbove M_7 (v0 + 5) (gI M_7 ((v0 + 5) + 1) (Int32.toNatClampNeg v4)) (gI M_7 ((v0 + 5) + 1) (Int32.toNatClampNeg r_8)) 1 (fun r_10 M_9 => (∀ x_11 : Int32, x_11 = (if v2 < r_10 then r_10 else v2) → (vp_in v4 1000 ∧ (vp_in r_8 1000 ∧ wpX0_countAbove M_9 (v0 + 5) (gI M_9 ((v0 + 5) + 1) (Int32.toNatClampNeg v4)) (gI M_9 ((v0 + 5) + 1) (Int32.toNatClampNeg r_8)) 0 (fun r_13 M_12 => (∀ x_14 : Int32, x_14 = (if r_13 < v3 then r_13 else v3) → wX1_unevenness_25 Q v0 v1 n M_12 x_11 x_14 r_8 (v5 + 1)))))))))))))
def wpX1_unevenness (M : Mem) (v0 : Nat) (v1 : Int32) (Q : Int32 → Mem → Prop) : Prop := wpX1_quotaPlace M v0 0 v1 (fun r_2 M_1 => wpX0_nearest M_1 (v0 + 5) r_2 0 (fun r_4 M_3 => ∃ n, wX1_unevenness_25 Q v0 v1 n M_3 0 1000 r_4 1))
set_option maxHeartbeats 4000000 in
set_option maxRecDepth 100000 in
theorem tX1_unevenness_25 (X : Cx p s m meth c G RX1 cX1_unevenness 7 (some .int)) {Q : Int32 → Mem → Prop} {v0 : Nat} {v1 : Int32} (i0 : Iz mk v0 (1, 0)) : ∀ (n : Nat) (M : Mem) (v2 : Int32) (v3 : Int32) (v4 : Int32) (v5 : Int32), wX1_unevenness_25 Q v0 v1 n M v2 v3 v4 v5 → Wa p l e rm_X1_unevenness s m args below meth c 7 G al mk 0 0 (MQ below (QI G al mk Q) args s 0 0 (gA G)) M 25 [(0, .ref (al v0)), (1, .int v1), (2, .int v2), (3, .int v3), (4, .int v4), (5, .int v5)] [] := by
  intro n
  induction n with
  | zero =>
    intro M v2 v3 v4 v5 h
    exact False.elim h
  | succ n ih =>
    intro M v2 v3 v4 v5 h
    rw [wX1_unevenness_25] at h
    refine a_iload X dX1_unevenness_25 5 rfl ?_
    refine a_iload_n X dX1_unevenness_27 rfl 1 rfl ?_
    refine a_icmp_gt (tgt := 125) X dX1_unevenness_28 (by decide) (fun z => ?_) (fun z => ?_)
    · have h := h.1 z
      refine a_iload_n X dX1_unevenness_125 rfl 2 rfl ?_
      refine a_iload_n X dX1_unevenness_126 rfl 3 rfl ?_
      refine a_isub X dX1_unevenness_127 ?_
      exact a_iret X h dX1_unevenness_128
    · have h := h.2 z
      refine a_aload_n X dX1_unevenness_31 rfl 0 rfl ?_
      refine a_getR (k := 0) X 5 (b := (v0 + 5)) fw1 i0 rfl rfl flX1_12 rfl dX1_unevenness_32 ?_
      refine a_aload_n X dX1_unevenness_35 rfl 0 rfl ?_
      refine a_iload X dX1_unevenness_36 5 rfl ?_
      refine a_iload_n X dX1_unevenness_38 rfl 1 rfl ?_
      refine a_cVi (As := [.int v5, .int v1]) (st := [.ref (al (v0 + 5))]) X fw1 i0 (cX1_quotaPlace_ok l i0 h) mlX1_88 mvX1_quotaPlace (rz rfl) (Nat.le_of_ble_eq_true rfl) rfl dX1_unevenness_39 (fun r_6 M_5 h => ?_)
      refine a_iload X dX1_unevenness_42 4 rfl ?_
      refine a_cVi (As := [.int r_6, .int v4]) (st := []) X fw0 i0.str.2 (cX0_nearest_ok l i0.str.2 h) mlX1_78 mvX0_nearest (rz rfl) (Nat.le_of_ble_eq_true rfl) rfl dX1_unevenness_44 (fun r_8 M_7 h => ?_)
      refine a_istore (lo' := [(6, .int r_8), (0, .ref (al v0)), (1, .int v1), (2, .int v2), (3, .int v3), (4, .int v4), (5, .int v5)]) X dX1_unevenness_47 (by decide) rfl ?_
      refine a_iload_n X dX1_unevenness_49 rfl 3 rfl ?_
      refine a_aload_n X dX1_unevenness_50 rfl 1 rfl ?_
      refine a_getR (k := 0) X 5 (b := (v0 + 5)) fw1 i0 rfl rfl flX1_12 rfl dX1_unevenness_51 ?_
      refine a_aload_n X dX1_unevenness_54 rfl 1 rfl ?_
      refine a_getR (k := 0) X 5 (b := (v0 + 5)) fw1 i0 rfl rfl flX1_12 rfl dX1_unevenness_55 ?_
      refine a_getR (k := 0) X 1 (b := ((v0 + 5) + 1)) fw0 i0.str.2 rfl rfl flX1_75 rfl dX1_unevenness_58 ?_
      refine a_iload X dX1_unevenness_61 5 rfl ?_
      refine a_iald X i0.str.2.row.1 h.1 dX1_unevenness_63 ?_
      have h := h.2
      refine a_aload_n X dX1_unevenness_64 rfl 1 rfl ?_
      refine a_getR (k := 0) X 5 (b := (v0 + 5)) fw1 i0 rfl rfl flX1_12 rfl dX1_unevenness_65 ?_
      refine a_getR (k := 0) X 1 (b := ((v0 + 5) + 1)) fw0 i0.str.2 rfl rfl flX1_75 rfl dX1_unevenness_68 ?_
      refine a_iload X dX1_unevenness_71 0 rfl ?_
      refine a_iald X i0.str.2.row.1 h.1 dX1_unevenness_73 ?_
      have h := h.2
      refine a_iconst (v := 1) X dX1_unevenness_74 ic_1 ?_
      refine a_cVi (As := [.int (gI M_7 ((v0 + 5) + 1) (Int32.toNatClampNeg v4)), .int (gI M_7 ((v0 + 5) + 1) (Int32.toNatClampNeg r_8)), .int 1]) (st := [.int v2]) X fw0 i0.str.2 (cX0_countAbove_ok l i0.str.2 h) mlX1_91 mvX0_countAbove (rz rfl) (Nat.le_of_ble_eq_true rfl) rfl dX1_unevenness_75 (fun r_10 M_9 h => ?_)
      refine a_mmax X mlX1_70 mm_max ⟨by decide, Nat.le_of_ble_eq_true rfl, Nat.le_refl _, Nat.le_refl _⟩ dX1_unevenness_78 ?_
      refine a_topi (fun x_11 ex_11 => ?_)
      have h := h x_11 ex_11
      refine a_istore_n (lo' := [(2, .int x_11), (6, .int r_8), (0, .ref (al v0)), (1, .int v1), (3, .int v3), (4, .int v4), (5, .int v5)]) X dX1_unevenness_81 rfl (by decide) rfl ?_
      refine a_iload_n X dX1_unevenness_82 rfl 4 rfl ?_
      refine a_aload_n X dX1_unevenness_83 rfl 2 rfl ?_
      refine a_getR (k := 0) X 5 (b := (v0 + 5)) fw1 i0 rfl rfl flX1_12 rfl dX1_unevenness_84 ?_
      refine a_aload_n X dX1_unevenness_87 rfl 2 rfl ?_
      refine a_getR (k := 0) X 5 (b := (v0 + 5)) fw1 i0 rfl rfl flX1_12 rfl dX1_unevenness_88 ?_
      refine a_getR (k := 0) X 1 (b := ((v0 + 5) + 1)) fw0 i0.str.2 rfl rfl flX1_75 rfl dX1_unevenness_91 ?_
      refine a_iload X dX1_unevenness_94 5 rfl ?_
      refine a_iald X i0.str.2.row.1 h.1 dX1_unevenness_96 ?_
      have h := h.2
      refine a_aload_n X dX1_unevenness_97 rfl 2 rfl ?_
      refine a_getR (k := 0) X 5 (b := (v0 + 5)) fw1 i0 rfl rfl flX1_12 rfl dX1_unevenness_98 ?_
      refine a_getR (k := 0) X 1 (b := ((v0 + 5) + 1)) fw0 i0.str.2 rfl rfl flX1_75 rfl dX1_unevenness_101 ?_
      refine a_iload X dX1_unevenness_104 1 rfl ?_
      refine a_iald X i0.str.2.row.1 h.1 dX1_unevenness_106 ?_
      have h := h.2
      refine a_iconst (v := 0) X dX1_unevenness_107 ic_0 ?_
      refine a_cVi (As := [.int (gI M_9 ((v0 + 5) + 1) (Int32.toNatClampNeg v4)), .int (gI M_9 ((v0 + 5) + 1) (Int32.toNatClampNeg r_8)), .int 0]) (st := [.int v3]) X fw0 i0.str.2 (cX0_countAbove_ok l i0.str.2 h) mlX1_91 mvX0_countAbove (rz rfl) (Nat.le_of_ble_eq_true rfl) rfl dX1_unevenness_108 (fun r_13 M_12 h => ?_)
      refine a_mmin X mlX1_95 mm_min ⟨by decide, Nat.le_of_ble_eq_true rfl, Nat.le_refl _, Nat.le_refl _⟩ dX1_unevenness_111 ?_
      refine a_topi (fun x_14 ex_14 => ?_)
      have h := h x_14 ex_14
      refine a_istore_n (lo' := [(3, .int x_14), (2, .int x_11), (6, .int r_8), (0, .ref (al v0)), (1, .int v1), (4, .int v4), (5, .int v5)]) X dX1_unevenness_114 rfl (by decide) rfl ?_
      refine a_iload X dX1_unevenness_115 2 rfl ?_
      refine a_istore (lo' := [(4, .int r_8), (3, .int x_14), (2, .int x_11), (6, .int r_8), (0, .ref (al v0)), (1, .int v1), (5, .int v5)]) X dX1_unevenness_117 (by decide) rfl ?_
      refine a_iinc (v := v5 + 1) (lo' := [(5, .int (v5 + 1)), (4, .int r_8), (3, .int x_14), (2, .int x_11), (6, .int r_8), (0, .ref (al v0)), (1, .int v1)]) X dX1_unevenness_119 6 rfl (ii_1 _) (by decide) rfl ?_
      refine a_goto (tgt := 25) X dX1_unevenness_122 (by decide) ?_
      refine a_sub (ks := [5, 6, 3, 2, 1, 0]) (lo' := [(0, .ref (al v0)), (1, .int v1), (2, .int x_11), (3, .int x_14), (4, .int r_8), (5, .int (v5 + 1))]) rfl ?_
      exact ih _ _ _ _ _ h
set_option maxHeartbeats 4000000 in
set_option maxRecDepth 100000 in
theorem cX1_unevenness_ok (l : Launch) {G : Gl} {al : Nat → Nat} {mk : Nat} {M : Mem} {v0 : Nat} {v1 : Int32} {Q : Int32 → Mem → Prop} (i0 : Iz mk v0 (1, 0)) (h : wpX1_unevenness M v0 v1 Q) : Kv l yX1_unevenness cX1_unevenness 7 (some .int) rm_X1_unevenness G al mk M [.ref (al v0), .int v1] (QI G al mk Q) := by
  refine a_head (by decide) (Nat.le_of_ble_eq_true rfl) (fun p e s m below meth c X => ?_)
  have X : Cx p s m meth c G RX1 cX1_unevenness 7 (some .int) := X
  unfold wpX1_unevenness at h
  refine a_sub (ks := [0, 1]) (lo' := [(0, .ref (al v0)), (1, .int v1)]) rfl ?_
  refine a_iconst (v := 0) X dX1_unevenness_0 ic_0 ?_
  refine a_istore_n (lo' := [(2, .int 0), (0, .ref (al v0)), (1, .int v1)]) X dX1_unevenness_1 rfl (by decide) rfl ?_
  refine a_sipush (v := 1000) X dX1_unevenness_2 sc_1000 ?_
  refine a_istore_n (lo' := [(3, .int 1000), (2, .int 0), (0, .ref (al v0)), (1, .int v1)]) X dX1_unevenness_5 rfl (by decide) rfl ?_
  refine a_aload_n X dX1_unevenness_6 rfl 2 rfl ?_
  refine a_getR (k := 0) X 5 (b := (v0 + 5)) fw1 i0 rfl rfl flX1_12 rfl dX1_unevenness_7 ?_
  refine a_aload_n X dX1_unevenness_10 rfl 2 rfl ?_
  refine a_iconst (v := 0) X dX1_unevenness_11 ic_0 ?_
  refine a_iload_n X dX1_unevenness_12 rfl 3 rfl ?_
  refine a_cVi (As := [.int 0, .int v1]) (st := [.ref (al (v0 + 5))]) X fw1 i0 (cX1_quotaPlace_ok l i0 h) mlX1_88 mvX1_quotaPlace (rz rfl) (Nat.le_of_ble_eq_true rfl) rfl dX1_unevenness_13 (fun r_2 M_1 h => ?_)
  refine a_iconst (v := 0) X dX1_unevenness_16 ic_0 ?_
  refine a_cVi (As := [.int r_2, .int 0]) (st := []) X fw0 i0.str.2 (cX0_nearest_ok l i0.str.2 h) mlX1_78 mvX0_nearest (rz rfl) (Nat.le_of_ble_eq_true rfl) rfl dX1_unevenness_17 (fun r_4 M_3 h => ?_)
  refine a_istore (lo' := [(4, .int r_4), (3, .int 1000), (2, .int 0), (0, .ref (al v0)), (1, .int v1)]) X dX1_unevenness_20 (by decide) rfl ?_
  refine a_iconst (v := 1) X dX1_unevenness_22 ic_1 ?_
  refine a_istore (lo' := [(5, .int 1), (4, .int r_4), (3, .int 1000), (2, .int 0), (0, .ref (al v0)), (1, .int v1)]) X dX1_unevenness_23 (by decide) rfl ?_
  refine a_sub (ks := [4, 5, 3, 2, 1, 0]) (lo' := [(0, .ref (al v0)), (1, .int v1), (2, .int 0), (3, .int 1000), (4, .int r_4), (5, .int 1)]) rfl ?_
  obtain ⟨n9, h⟩ := h
  exact tX1_unevenness_25 X i0 n9 _ _ _ _ _ h
