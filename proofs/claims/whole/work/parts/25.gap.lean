variable {p : Program} {l : Launch} {e : Env} {s : State} {m : MethodId} {args : Array Value} {below : List Frame} {meth : Method} {c : Code} {G : Gl} {al : Nat → Nat} {mk : Nat}

abbrev rm_X3_feed : Room := { frames := 1, cells := 0, slots := 0, locals := 22 }
def wpX3_feed (M : Mem) (v1 : Int32) (v2 : Int32) (v3 : Int32) (v4 : Int32) (v5 : Int32) (Q : Int32 → Mem → Prop) : Prop := ((((gI M 1 1) + 20) ≤ 400 → wpX2_putBytes M v1 (fun M_1 => wpX2_putBytes M_1 v2 (fun M_2 => wpX2_putBytes M_2 v3 (fun M_3 => wpX2_putBytes M_3 v4 (fun M_4 => wpX2_putBytes M_4 v5 (fun M_5 => Q (gI M_5 1 1) M_5)))))) ∧ (¬ ((gI M 1 1) + 20) ≤ 400 → Q (-1) M))
set_option maxHeartbeats 4000000 in
set_option maxRecDepth 100000 in
theorem cX3_feed_ok (l : Launch) {G : Gl} {al : Nat → Nat} {mk : Nat} {M : Mem} {v1 : Int32} {v2 : Int32} {v3 : Int32} {v4 : Int32} {v5 : Int32} {Q : Int32 → Mem → Prop} (h : wpX3_feed M v1 v2 v3 v4 v5 Q) : Kv l yX3_feed cX3_feed 6 (some .int) rm_X3_feed G al mk M [.ref (al 0), .int v1, .int v2, .int v3, .int v4, .int v5] (QI G al mk Q) := by
  refine a_head (by decide) (Nat.le_of_ble_eq_true rfl) (fun p e s m below meth c X => ?_)
  have X : Cx p s m meth c G RX3 cX3_feed 6 (some .int) := X
  unfold wpX3_feed at h
  refine a_sub (ks := [0, 1, 2, 3, 4, 5]) (lo' := [(0, .ref (al 0)), (1, .int v1), (2, .int v2), (3, .int v3), (4, .int v4), (5, .int v5)]) rfl ?_
  refine a_aload_n X dX3_feed_0 rfl 0 rfl ?_
  refine a_getR (k := 0) X 1 (b := 1) fw3 iz_0 rfl rfl flX3_10 rfl dX3_feed_1 ?_
  refine a_getI (k := 1) X fw2 iz_1 rfl flX3_51 rfl dX3_feed_4 ?_
  refine a_bipush (v := 20) X dX3_feed_7 bc_20 ?_
  refine a_iadd X dX3_feed_9 ?_
  refine a_sipush (v := 400) X dX3_feed_10 sc_400 ?_
  refine a_icmp_le (tgt := 18) X dX3_feed_13 (by decide) (fun z => ?_) (fun z => ?_)
  · have h := h.1 z
    refine a_aload_n X dX3_feed_18 rfl 0 rfl ?_
    refine a_getR (k := 0) X 1 (b := 1) fw3 iz_0 rfl rfl flX3_10 rfl dX3_feed_19 ?_
    refine a_iload_n X dX3_feed_22 rfl 1 rfl ?_
    refine a_cVv (As := [.int v1]) (st := []) X fw2 iz_1 (cX2_putBytes_ok l h) mlX3_54 mvX2_putBytes (rz rfl) (Nat.le_of_ble_eq_true rfl) rfl dX3_feed_23 (fun M_1 h => ?_)
    refine a_aload_n X dX3_feed_26 rfl 0 rfl ?_
    refine a_getR (k := 0) X 1 (b := 1) fw3 iz_0 rfl rfl flX3_10 rfl dX3_feed_27 ?_
    refine a_iload_n X dX3_feed_30 rfl 2 rfl ?_
    refine a_cVv (As := [.int v2]) (st := []) X fw2 iz_1 (cX2_putBytes_ok l h) mlX3_54 mvX2_putBytes (rz rfl) (Nat.le_of_ble_eq_true rfl) rfl dX3_feed_31 (fun M_2 h => ?_)
    refine a_aload_n X dX3_feed_34 rfl 0 rfl ?_
    refine a_getR (k := 0) X 1 (b := 1) fw3 iz_0 rfl rfl flX3_10 rfl dX3_feed_35 ?_
    refine a_iload_n X dX3_feed_38 rfl 3 rfl ?_
    refine a_cVv (As := [.int v3]) (st := []) X fw2 iz_1 (cX2_putBytes_ok l h) mlX3_54 mvX2_putBytes (rz rfl) (Nat.le_of_ble_eq_true rfl) rfl dX3_feed_39 (fun M_3 h => ?_)
    refine a_aload_n X dX3_feed_42 rfl 0 rfl ?_
    refine a_getR (k := 0) X 1 (b := 1) fw3 iz_0 rfl rfl flX3_10 rfl dX3_feed_43 ?_
    refine a_iload X dX3_feed_46 4 rfl ?_
    refine a_cVv (As := [.int v4]) (st := []) X fw2 iz_1 (cX2_putBytes_ok l h) mlX3_54 mvX2_putBytes (rz rfl) (Nat.le_of_ble_eq_true rfl) rfl dX3_feed_48 (fun M_4 h => ?_)
    refine a_aload_n X dX3_feed_51 rfl 0 rfl ?_
    refine a_getR (k := 0) X 1 (b := 1) fw3 iz_0 rfl rfl flX3_10 rfl dX3_feed_52 ?_
    refine a_iload X dX3_feed_55 5 rfl ?_
    refine a_cVv (As := [.int v5]) (st := []) X fw2 iz_1 (cX2_putBytes_ok l h) mlX3_54 mvX2_putBytes (rz rfl) (Nat.le_of_ble_eq_true rfl) rfl dX3_feed_57 (fun M_5 h => ?_)
    refine a_aload_n X dX3_feed_60 rfl 0 rfl ?_
    refine a_getR (k := 0) X 1 (b := 1) fw3 iz_0 rfl rfl flX3_10 rfl dX3_feed_61 ?_
    refine a_getI (k := 1) X fw2 iz_1 rfl flX3_51 rfl dX3_feed_64 ?_
    exact a_iret X h dX3_feed_67
  · have h := h.2 z
    refine a_iconst (v := (-1)) X dX3_feed_16 ic_m1 ?_
    exact a_iret X h dX3_feed_17
abbrev rm_X3_fault : Room := { frames := 0, cells := 0, slots := 0, locals := 0 }
def wpX3_fault (M : Mem) (Q : Int32 → Mem → Prop) : Prop := Q (gI M 0 6) M
set_option maxHeartbeats 4000000 in
set_option maxRecDepth 100000 in
theorem cX3_fault_ok (l : Launch) {G : Gl} {al : Nat → Nat} {mk : Nat} {M : Mem} {Q : Int32 → Mem → Prop} (h : wpX3_fault M Q) : Kv l yX3_fault cX3_fault 1 (some .int) rm_X3_fault G al mk M [.ref (al 0)] (QI G al mk Q) := by
  refine a_head (by decide) (Nat.le_of_ble_eq_true rfl) (fun p e s m below meth c X => ?_)
  have X : Cx p s m meth c G RX3 cX3_fault 1 (some .int) := X
  unfold wpX3_fault at h
  refine a_sub (ks := [0]) (lo' := [(0, .ref (al 0))]) rfl ?_
  refine a_aload_n X dX3_fault_0 rfl 0 rfl ?_
  refine a_getI (k := 6) X fw3 iz_0 rfl flX3_35 rfl dX3_fault_1 ?_
  exact a_iret X h dX3_fault_4
abbrev rm_X3_where : Room := { frames := 0, cells := 0, slots := 0, locals := 0 }
def wpX3_where (M : Mem) (Q : Int32 → Mem → Prop) : Prop := ((¬ (gI M 0 5) = 4 → Q (-1) M) ∧ ((gI M 0 5) = 4 → Q (gI M 0 7) M))
set_option maxHeartbeats 4000000 in
set_option maxRecDepth 100000 in
theorem cX3_where_ok (l : Launch) {G : Gl} {al : Nat → Nat} {mk : Nat} {M : Mem} {Q : Int32 → Mem → Prop} (h : wpX3_where M Q) : Kv l yX3_where cX3_where 1 (some .int) rm_X3_where G al mk M [.ref (al 0)] (QI G al mk Q) := by
  refine a_head (by decide) (Nat.le_of_ble_eq_true rfl) (fun p e s m below meth c X => ?_)
  have X : Cx p s m meth c G RX3 cX3_where 1 (some .int) := X
  unfold wpX3_where at h
  refine a_sub (ks := [0]) (lo' := [(0, .ref (al 0))]) rfl ?_
  refine a_aload_n X dX3_where_0 rfl 0 rfl ?_
  refine a_getI (k := 5) X fw3 iz_0 rfl flX3_32 rfl dX3_where_1 ?_
  refine a_iconst (v := 4) X dX3_where_4 ic_4 ?_
  refine a_icmp_ne (tgt := 15) X dX3_where_5 (by decide) (fun z => ?_) (fun z => ?_)
  · have h := h.1 z
    refine a_iconst (v := (-1)) X dX3_where_15 ic_m1 ?_
    exact a_iret X h dX3_where_16
  · have h := h.2 z
    refine a_aload_n X dX3_where_8 rfl 0 rfl ?_
    refine a_getI (k := 7) X fw3 iz_0 rfl flX3_38 rfl dX3_where_9 ?_
    refine a_goto (tgt := 16) X dX3_where_12 (by decide) ?_
    exact a_iret X h dX3_where_16
abbrev rm_X3_refuse : Room := { frames := 0, cells := 0, slots := 0, locals := 0 }
def wpX3_refuse (M : Mem) (v1 : Int32) (Q : Int32 → Mem → Prop) : Prop := (∀ M_1 : Mem, M_1 = pI M 0 5 v1 → Q (-1) M_1)
set_option maxHeartbeats 4000000 in
set_option maxRecDepth 100000 in
theorem cX3_refuse_ok (l : Launch) {G : Gl} {al : Nat → Nat} {mk : Nat} {M : Mem} {v1 : Int32} {Q : Int32 → Mem → Prop} (h : wpX3_refuse M v1 Q) : Kv l yX3_refuse cX3_refuse 2 (some .int) rm_X3_refuse G al mk M [.ref (al 0), .int v1] (QI G al mk Q) := by
  refine a_head (by decide) (Nat.le_of_ble_eq_true rfl) (fun p e s m below meth c X => ?_)
  have X : Cx p s m meth c G RX3 cX3_refuse 2 (some .int) := X
  unfold wpX3_refuse at h
  refine a_sub (ks := [0, 1]) (lo' := [(0, .ref (al 0)), (1, .int v1)]) rfl ?_
  refine a_aload_n X dX3_refuse_0 rfl 0 rfl ?_
  refine a_iload_n X dX3_refuse_1 rfl 1 rfl ?_
  refine a_putI (k := 5) X fw3 iz_0 rfl flX3_32 rfl rfl dX3_refuse_2 (fun M_1 eM_1 => ?_)
  have h := h M_1 eM_1
  refine a_iconst (v := (-1)) X dX3_refuse_5 ic_m1 ?_
  exact a_iret X h dX3_refuse_6
abbrev rm_X3_pass : Room := { frames := 0, cells := 0, slots := 0, locals := 0 }
def wpX3_pass (M : Mem) (v1 : Int32) (Q : Int32 → Mem → Prop) : Prop := (∀ M_1 : Mem, M_1 = pI M 0 5 0 → Q v1 M_1)
set_option maxHeartbeats 4000000 in
set_option maxRecDepth 100000 in
theorem cX3_pass_ok (l : Launch) {G : Gl} {al : Nat → Nat} {mk : Nat} {M : Mem} {v1 : Int32} {Q : Int32 → Mem → Prop} (h : wpX3_pass M v1 Q) : Kv l yX3_pass cX3_pass 2 (some .int) rm_X3_pass G al mk M [.ref (al 0), .int v1] (QI G al mk Q) := by
  refine a_head (by decide) (Nat.le_of_ble_eq_true rfl) (fun p e s m below meth c X => ?_)
  have X : Cx p s m meth c G RX3 cX3_pass 2 (some .int) := X
  unfold wpX3_pass at h
  refine a_sub (ks := [0, 1]) (lo' := [(0, .ref (al 0)), (1, .int v1)]) rfl ?_
  refine a_aload_n X dX3_pass_0 rfl 0 rfl ?_
  refine a_iconst (v := 0) X dX3_pass_1 ic_0 ?_
  refine a_putI (k := 5) X fw3 iz_0 rfl flX3_32 rfl rfl dX3_pass_2 (fun M_1 eM_1 => ?_)
  have h := h M_1 eM_1
  refine a_iload_n X dX3_pass_5 rfl 1 rfl ?_
  exact a_iret X h dX3_pass_6
abbrev rm_X3_find : Room := { frames := 0, cells := 0, slots := 0, locals := 0 }
def wpX3_find (mk : Nat) (M : Mem) (v1 : Int32) (Q : Option Nat → Mem → Prop) : Prop := ((v1 < 0 → Q none M) ∧ (¬ v1 < 0 → (((gI M 0 2) ≤ v1 → Q none M) ∧ (¬ (gI M 0 2) ≤ v1 → ((4 ≤ v1 → Q none M) ∧ (¬ 4 ≤ v1 → (vp_in v1 4 ∧ (¬ Int32.toNatClampNeg v1 < mk → Q none M) ∧ (Int32.toNatClampNeg v1 < mk → Q (some (100 + 20 * Int32.toNatClampNeg v1)) M))))))))
set_option maxHeartbeats 4000000 in
set_option maxRecDepth 100000 in
theorem cX3_find_ok (l : Launch) {G : Gl} {al : Nat → Nat} {mk : Nat} {M : Mem} {v1 : Int32} {Q : Option Nat → Mem → Prop} (h : wpX3_find mk M v1 Q) : Kv l yX3_find cX3_find 2 (some (.object "GapRows$Stream")) rm_X3_find G al mk M [.ref (al 0), .int v1] (QQ G al mk Q) := by
  refine a_head (by decide) (Nat.le_of_ble_eq_true rfl) (fun p e s m below meth c X => ?_)
  have X : Cx p s m meth c G RX3 cX3_find 2 (some (.object "GapRows$Stream")) := X
  unfold wpX3_find at h
  refine a_sub (ks := [0, 1]) (lo' := [(0, .ref (al 0)), (1, .int v1)]) rfl ?_
  refine a_iload_n X dX3_find_0 rfl 1 rfl ?_
  refine a_if_lt (tgt := 26) X dX3_find_1 (by decide) (fun z => ?_) (fun z => ?_)
  · have h := h.1 z
    refine a_null X dX3_find_26 ?_
    exact a_qretN X h dX3_find_27
  · have h := h.2 z
    refine a_iload_n X dX3_find_4 rfl 1 rfl ?_
    refine a_aload_n X dX3_find_5 rfl 0 rfl ?_
    refine a_getI (k := 2) X fw3 iz_0 rfl flX3_22 rfl dX3_find_6 ?_
    refine a_icmp_ge (tgt := 26) X dX3_find_9 (by decide) (fun z => ?_) (fun z => ?_)
    · have h := h.1 z
      refine a_null X dX3_find_26 ?_
      exact a_qretN X h dX3_find_27
    · have h := h.2 z
      refine a_iload_n X dX3_find_12 rfl 1 rfl ?_
      refine a_iconst (v := 4) X dX3_find_13 ic_4 ?_
      refine a_icmp_ge (tgt := 26) X dX3_find_14 (by decide) (fun z => ?_) (fun z => ?_)
      · have h := h.1 z
        refine a_null X dX3_find_26 ?_
        exact a_qretN X h dX3_find_27
      · have h := h.2 z
        refine a_aload_n X dX3_find_17 rfl 0 rfl ?_
        refine a_getR (k := 1) X 7 (b := 7) fw3 iz_0 rfl rfl flX3_18 rfl dX3_find_18 ?_
        refine a_iload_n X dX3_find_21 rfl 1 rfl ?_
        have h0 := h
        refine a_aald X h.1 dX3_find_22 (fun z_1 => ?_) (fun z_1 => ?_)
        · have h := h.2.1 z_1
          refine a_goto (tgt := 27) X dX3_find_23 (by decide) ?_
          exact a_qretN X h dX3_find_27
        · have h := h.2.2 z_1
          refine a_goto (tgt := 27) X dX3_find_23 (by decide) ?_
          exact a_qret X (Iz.mkd (Nat.not_le.mp fun q => h0.1 (Or.inr q)) z_1) h dX3_find_27
abbrev rm_X3_sumOfAll : Room := { frames := 1, cells := 0, slots := 0, locals := 21 }
def wX3_sumOfAll_4 (mk : Nat) (Q : Int32 → Mem → Prop) (v1 : Int32) : Nat → Mem → Int32 → Int32 → Prop
  | 0, _, _, _ => False
  | n + 1, M, v2, v3 => (((gI M 0 2) ≤ v3 → Q v2 M) ∧ (¬ (gI M 0 2) ≤ v3 → wpX3_find mk M v3 (fun o M_1 => (o = none → wX3_sumOfAll_4 mk Q v1 n M_1 v2 (v3 + 1)) ∧ (∀ n_2 : Nat, o = some n_2 → ((¬ v1 = 2 → ((¬ v1 = 3 → (∀ x_3 : Int32, x_3 = (v2 + (gI M_1 n_2 5)) → wX3_sumOfAll_4 mk Q v1 n M_1 x_3 (v3 + 1))) ∧ (v1 = 3 → (∀ x_4 : Int32, x_4 = (v2 + (gI M_1 (n_2 + 5) 4)) → wX3_sumOfAll_4 mk Q v1 n M_1 x_4 (v3 + 1))))) ∧ (v1 = 2 → (∀ x_5 : Int32, x_5 = (v2 + (gI M_1 n_2 2)) → wX3_sumOfAll_4 mk Q v1 n M_1 x_5 (v3 + 1))))))))
def wpX3_sumOfAll (mk : Nat) (M : Mem) (v1 : Int32) (Q : Int32 → Mem → Prop) : Prop := ∃ n, wX3_sumOfAll_4 mk Q v1 n M 0 0
set_option maxHeartbeats 4000000 in
set_option maxRecDepth 100000 in
theorem tX3_sumOfAll_4 (X : Cx p s m meth c G RX3 cX3_sumOfAll 5 (some .int)) {Q : Int32 → Mem → Prop} {v1 : Int32} : ∀ (n : Nat) (M : Mem) (v2 : Int32) (v3 : Int32), wX3_sumOfAll_4 mk Q v1 n M v2 v3 → Wa p l e rm_X3_sumOfAll s m args below meth c 5 G al mk 0 0 (MQ below (QI G al mk Q) args s 0 0 (gA G)) M 4 [(0, .ref (al 0)), (1, .int v1), (2, .int v2), (3, .int v3)] [] := by
  intro n
  induction n with
  | zero =>
    intro M v2 v3 h
    exact False.elim h
  | succ n ih =>
    intro M v2 v3 h
    rw [wX3_sumOfAll_4] at h
    refine a_iload_n X dX3_sumOfAll_4 rfl 3 rfl ?_
    refine a_aload_n X dX3_sumOfAll_5 rfl 0 rfl ?_
    refine a_getI (k := 2) X fw3 iz_0 rfl flX3_22 rfl dX3_sumOfAll_6 ?_
    refine a_icmp_ge (tgt := 67) X dX3_sumOfAll_9 (by decide) (fun z => ?_) (fun z => ?_)
    · have h := h.1 z
      refine a_iload_n X dX3_sumOfAll_67 rfl 2 rfl ?_
      exact a_iret X h dX3_sumOfAll_68
    · have h := h.2 z
      refine a_aload_n X dX3_sumOfAll_12 rfl 0 rfl ?_
      refine a_iload_n X dX3_sumOfAll_13 rfl 3 rfl ?_
      refine a_cVq (As := [.int v3]) (st := []) X fw3 iz_0 (cX3_find_ok l h) mlX3_80 mvX3_find (rz rfl) (Nat.le_of_ble_eq_true rfl) rfl dX3_sumOfAll_14 (fun M_1 h => ?_) (fun n_2 M_1 in_2 h => ?_)
      · have h := h.1 rfl
        refine a_astoreN (lo' := [(4, .null), (0, .ref (al 0)), (1, .int v1), (2, .int v2), (3, .int v3)]) X dX3_sumOfAll_17 (by decide) rfl ?_
        refine a_aloadN X dX3_sumOfAll_19 0 rfl ?_
        refine a_ifnullN (tgt := 61) X dX3_sumOfAll_21 (by decide) ?_
        refine a_iinc (v := v3 + 1) (lo' := [(3, .int (v3 + 1)), (4, .null), (0, .ref (al 0)), (1, .int v1), (2, .int v2)]) X dX3_sumOfAll_61 4 rfl (ii_1 _) (by decide) rfl ?_
        refine a_goto (tgt := 4) X dX3_sumOfAll_64 (by decide) ?_
        refine a_sub (ks := [2, 3, 4, 0]) (lo' := [(0, .ref (al 0)), (1, .int v1), (2, .int v2), (3, .int (v3 + 1))]) rfl ?_
        exact ih _ _ _ h
      · have h := h.2 n_2 rfl
        refine a_astore (lo' := [(4, .ref (al n_2)), (0, .ref (al 0)), (1, .int v1), (2, .int v2), (3, .int v3)]) X dX3_sumOfAll_17 (by decide) rfl ?_
        refine a_aload X dX3_sumOfAll_19 0 rfl ?_
        refine a_ifnull X dX3_sumOfAll_21 ?_
        refine a_iload_n X dX3_sumOfAll_24 rfl 3 rfl ?_
        refine a_iload_n X dX3_sumOfAll_25 rfl 2 rfl ?_
        refine a_iconst (v := 2) X dX3_sumOfAll_26 ic_2 ?_
        refine a_icmp_ne (tgt := 38) X dX3_sumOfAll_27 (by decide) (fun z => ?_) (fun z => ?_)
        · have h := h.1 z
          refine a_iload_n X dX3_sumOfAll_38 rfl 2 rfl ?_
          refine a_iconst (v := 3) X dX3_sumOfAll_39 ic_3 ?_
          refine a_icmp_ne (tgt := 54) X dX3_sumOfAll_40 (by decide) (fun z => ?_) (fun z => ?_)
          · have h := h.1 z
            refine a_aload X dX3_sumOfAll_54 0 rfl ?_
            refine a_getI (k := 5) X fw1 in_2 rfl flX3_103 rfl dX3_sumOfAll_56 ?_
            refine a_iadd X dX3_sumOfAll_59 ?_
            refine a_topi (fun x_3 ex_3 => ?_)
            have h := h x_3 ex_3
            refine a_istore_n (lo' := [(2, .int x_3), (4, .ref (al n_2)), (0, .ref (al 0)), (1, .int v1), (3, .int v3)]) X dX3_sumOfAll_60 rfl (by decide) rfl ?_
            refine a_iinc (v := v3 + 1) (lo' := [(3, .int (v3 + 1)), (2, .int x_3), (4, .ref (al n_2)), (0, .ref (al 0)), (1, .int v1)]) X dX3_sumOfAll_61 4 rfl (ii_1 _) (by decide) rfl ?_
            refine a_goto (tgt := 4) X dX3_sumOfAll_64 (by decide) ?_
            refine a_sub (ks := [3, 4, 1, 0]) (lo' := [(0, .ref (al 0)), (1, .int v1), (2, .int x_3), (3, .int (v3 + 1))]) rfl ?_
            exact ih _ _ _ h
          · have h := h.2 z
            refine a_aload X dX3_sumOfAll_43 0 rfl ?_
            refine a_getR (k := 0) X 5 (b := (n_2 + 5)) fw1 in_2 rfl rfl flX3_87 rfl dX3_sumOfAll_45 ?_
            refine a_getI (k := 4) X fw0 in_2.str.2 rfl flX3_90 rfl dX3_sumOfAll_48 ?_
            refine a_goto (tgt := 59) X dX3_sumOfAll_51 (by decide) ?_
            refine a_iadd X dX3_sumOfAll_59 ?_
            refine a_topi (fun x_4 ex_4 => ?_)
            have h := h x_4 ex_4
            refine a_istore_n (lo' := [(2, .int x_4), (4, .ref (al n_2)), (0, .ref (al 0)), (1, .int v1), (3, .int v3)]) X dX3_sumOfAll_60 rfl (by decide) rfl ?_
            refine a_iinc (v := v3 + 1) (lo' := [(3, .int (v3 + 1)), (2, .int x_4), (4, .ref (al n_2)), (0, .ref (al 0)), (1, .int v1)]) X dX3_sumOfAll_61 4 rfl (ii_1 _) (by decide) rfl ?_
            refine a_goto (tgt := 4) X dX3_sumOfAll_64 (by decide) ?_
            refine a_sub (ks := [3, 4, 1, 0]) (lo' := [(0, .ref (al 0)), (1, .int v1), (2, .int x_4), (3, .int (v3 + 1))]) rfl ?_
            exact ih _ _ _ h
        · have h := h.2 z
          refine a_aload X dX3_sumOfAll_30 0 rfl ?_
          refine a_getI (k := 2) X fw1 in_2 rfl flX3_84 rfl dX3_sumOfAll_32 ?_
          refine a_goto (tgt := 59) X dX3_sumOfAll_35 (by decide) ?_
          refine a_iadd X dX3_sumOfAll_59 ?_
          refine a_topi (fun x_5 ex_5 => ?_)
          have h := h x_5 ex_5
          refine a_istore_n (lo' := [(2, .int x_5), (4, .ref (al n_2)), (0, .ref (al 0)), (1, .int v1), (3, .int v3)]) X dX3_sumOfAll_60 rfl (by decide) rfl ?_
          refine a_iinc (v := v3 + 1) (lo' := [(3, .int (v3 + 1)), (2, .int x_5), (4, .ref (al n_2)), (0, .ref (al 0)), (1, .int v1)]) X dX3_sumOfAll_61 4 rfl (ii_1 _) (by decide) rfl ?_
          refine a_goto (tgt := 4) X dX3_sumOfAll_64 (by decide) ?_
          refine a_sub (ks := [3, 4, 1, 0]) (lo' := [(0, .ref (al 0)), (1, .int v1), (2, .int x_5), (3, .int (v3 + 1))]) rfl ?_
          exact ih _ _ _ h
set_option maxHeartbeats 4000000 in
set_option maxRecDepth 100000 in
theorem cX3_sumOfAll_ok (l : Launch) {G : Gl} {al : Nat → Nat} {mk : Nat} {M : Mem} {v1 : Int32} {Q : Int32 → Mem → Prop} (h : wpX3_sumOfAll mk M v1 Q) : Kv l yX3_sumOfAll cX3_sumOfAll 5 (some .int) rm_X3_sumOfAll G al mk M [.ref (al 0), .int v1] (QI G al mk Q) := by
  refine a_head (by decide) (Nat.le_of_ble_eq_true rfl) (fun p e s m below meth c X => ?_)
  have X : Cx p s m meth c G RX3 cX3_sumOfAll 5 (some .int) := X
  unfold wpX3_sumOfAll at h
  refine a_sub (ks := [0, 1]) (lo' := [(0, .ref (al 0)), (1, .int v1)]) rfl ?_
  refine a_iconst (v := 0) X dX3_sumOfAll_0 ic_0 ?_
  refine a_istore_n (lo' := [(2, .int 0), (0, .ref (al 0)), (1, .int v1)]) X dX3_sumOfAll_1 rfl (by decide) rfl ?_
  refine a_iconst (v := 0) X dX3_sumOfAll_2 ic_0 ?_
  refine a_istore_n (lo' := [(3, .int 0), (2, .int 0), (0, .ref (al 0)), (1, .int v1)]) X dX3_sumOfAll_3 rfl (by decide) rfl ?_
  refine a_sub (ks := [2, 3, 1, 0]) (lo' := [(0, .ref (al 0)), (1, .int v1), (2, .int 0), (3, .int 0)]) rfl ?_
  obtain ⟨n9, h⟩ := h
  exact tX3_sumOfAll_4 X n9 _ _ _ h
abbrev rm_X3_about : Room := { frames := 2, cells := 0, slots := 0, locals := 45 }
def wpX3_about (mk : Nat) (M : Mem) (v1 : Int32) (Q : Int32 → Mem → Prop) : Prop := (((gI M 0 2) = 0 → wpX3_refuse M 1 (fun r_2 M_1 => Q r_2 M_1)) ∧ (¬ (gI M 0 2) = 0 → ((v1 < 0 → wpX3_refuse M 1 (fun r_4 M_3 => Q r_4 M_3)) ∧ (¬ v1 < 0 → ((v1 ≤ 5 → ((v1 = 0 → wpX3_pass M (gI M 0 3) (fun r_6 M_5 => Q r_6 M_5)) ∧ (v1 = 1 → wpX3_pass M (gI M 0 2) (fun r_8 M_7 => Q r_8 M_7)) ∧ (v1 = 5 → wpX3_pass M (gI M 0 4) (fun r_10 M_9 => Q r_10 M_9)) ∧ (¬ v1 = 0 → ¬ v1 = 1 → ¬ v1 = 5 → wpX3_sumOfAll mk M v1 (fun r_12 M_11 => wpX3_pass M_11 r_12 (fun r_14 M_13 => Q r_14 M_13))))) ∧ (¬ v1 ≤ 5 → wpX3_refuse M 1 (fun r_16 M_15 => Q r_16 M_15)))))))
set_option maxHeartbeats 4000000 in
set_option maxRecDepth 100000 in
theorem cX3_about_ok (l : Launch) {G : Gl} {al : Nat → Nat} {mk : Nat} {M : Mem} {v1 : Int32} {Q : Int32 → Mem → Prop} (h : wpX3_about mk M v1 Q) : Kv l yX3_about cX3_about 2 (some .int) rm_X3_about G al mk M [.ref (al 0), .int v1] (QI G al mk Q) := by
  refine a_head (by decide) (Nat.le_of_ble_eq_true rfl) (fun p e s m below meth c X => ?_)
  have X : Cx p s m meth c G RX3 cX3_about 2 (some .int) := X
  unfold wpX3_about at h
  refine a_sub (ks := [0, 1]) (lo' := [(0, .ref (al 0)), (1, .int v1)]) rfl ?_
  refine a_aload_n X dX3_about_0 rfl 0 rfl ?_
  refine a_getI (k := 2) X fw3 iz_0 rfl flX3_22 rfl dX3_about_1 ?_
  refine a_if_eq (tgt := 16) X dX3_about_4 (by decide) (fun z => ?_) (fun z => ?_)
  · have h := h.1 z
    refine a_aload_n X dX3_about_16 rfl 0 rfl ?_
    refine a_iconst (v := 1) X dX3_about_17 ic_1 ?_
    refine a_cVi (As := [.int 1]) (st := []) X fw3 iz_0 (cX3_refuse_ok l h) mlX3_58 mvX3_refuse (rz rfl) (Nat.le_of_ble_eq_true rfl) rfl dX3_about_18 (fun r_2 M_1 h => ?_)
    exact a_iret X h dX3_about_21
  · have h := h.2 z
    refine a_iload_n X dX3_about_7 rfl 1 rfl ?_
    refine a_if_lt (tgt := 16) X dX3_about_8 (by decide) (fun z => ?_) (fun z => ?_)
    · have h := h.1 z
      refine a_aload_n X dX3_about_16 rfl 0 rfl ?_
      refine a_iconst (v := 1) X dX3_about_17 ic_1 ?_
      refine a_cVi (As := [.int 1]) (st := []) X fw3 iz_0 (cX3_refuse_ok l h) mlX3_58 mvX3_refuse (rz rfl) (Nat.le_of_ble_eq_true rfl) rfl dX3_about_18 (fun r_4 M_3 h => ?_)
      exact a_iret X h dX3_about_21
    · have h := h.2 z
      refine a_iload_n X dX3_about_11 rfl 1 rfl ?_
      refine a_iconst (v := 5) X dX3_about_12 ic_5 ?_
      refine a_icmp_le (tgt := 22) X dX3_about_13 (by decide) (fun z => ?_) (fun z => ?_)
      · have h := h.1 z
        refine a_iload_n X dX3_about_22 rfl 1 rfl ?_
        by_cases z0 : v1 = 0
        · have h := h.1 z0
          refine a_ls (off := 33) (tgt := 56) X dX3_about_23 (by decide) (by rw [z0]; rfl) (by decide) ?_
          refine a_aload_n X dX3_about_56 rfl 0 rfl ?_
          refine a_aload_n X dX3_about_57 rfl 0 rfl ?_
          refine a_getI (k := 3) X fw3 iz_0 rfl flX3_26 rfl dX3_about_58 ?_
          refine a_cVi (As := [.int (gI M 0 3)]) (st := []) X fw3 iz_0 (cX3_pass_ok l h) mlX3_74 mvX3_pass (rz rfl) (Nat.le_of_ble_eq_true rfl) rfl dX3_about_61 (fun r_6 M_5 h => ?_)
          exact a_iret X h dX3_about_64
        by_cases z1 : v1 = 1
        · have h := h.2.1 z1
          refine a_ls (off := 42) (tgt := 65) X dX3_about_23 (by decide) (by rw [z1]; rfl) (by decide) ?_
          refine a_aload_n X dX3_about_65 rfl 0 rfl ?_
          refine a_aload_n X dX3_about_66 rfl 0 rfl ?_
          refine a_getI (k := 2) X fw3 iz_0 rfl flX3_22 rfl dX3_about_67 ?_
          refine a_cVi (As := [.int (gI M 0 2)]) (st := []) X fw3 iz_0 (cX3_pass_ok l h) mlX3_74 mvX3_pass (rz rfl) (Nat.le_of_ble_eq_true rfl) rfl dX3_about_70 (fun r_8 M_7 h => ?_)
          exact a_iret X h dX3_about_73
        by_cases z2 : v1 = 5
        · have h := h.2.2.1 z2
          refine a_ls (off := 51) (tgt := 74) X dX3_about_23 (by decide) (by rw [z2]; rfl) (by decide) ?_
          refine a_aload_n X dX3_about_74 rfl 0 rfl ?_
          refine a_aload_n X dX3_about_75 rfl 0 rfl ?_
          refine a_getI (k := 4) X fw3 iz_0 rfl flX3_29 rfl dX3_about_76 ?_
          refine a_cVi (As := [.int (gI M 0 4)]) (st := []) X fw3 iz_0 (cX3_pass_ok l h) mlX3_74 mvX3_pass (rz rfl) (Nat.le_of_ble_eq_true rfl) rfl dX3_about_79 (fun r_10 M_9 h => ?_)
          exact a_iret X h dX3_about_82
        have h := h.2.2.2 z0 z1 z2
        refine a_ls (off := 60) (tgt := 83) X dX3_about_23 (by decide) (by show Op.lookupswitch.offset [(0, 33), (1, 42), (5, 51)] 60 _ = _; rw [lv_osw z0 (by decide)]; rw [lv_osw z1 (by decide)]; rw [lv_osw z2 (by decide)]; rfl) (by decide) ?_
        refine a_aload_n X dX3_about_83 rfl 0 rfl ?_
        refine a_aload_n X dX3_about_84 rfl 0 rfl ?_
        refine a_iload_n X dX3_about_85 rfl 1 rfl ?_
        refine a_cVi (As := [.int v1]) (st := [.ref (al 0)]) X fw3 iz_0 (cX3_sumOfAll_ok l h) mlX3_77 mvX3_sumOfAll (rz rfl) (Nat.le_of_ble_eq_true rfl) rfl dX3_about_86 (fun r_12 M_11 h => ?_)
        refine a_cVi (As := [.int r_12]) (st := []) X fw3 iz_0 (cX3_pass_ok l h) mlX3_74 mvX3_pass (rz rfl) (Nat.le_of_ble_eq_true rfl) rfl dX3_about_89 (fun r_14 M_13 h => ?_)
        exact a_iret X h dX3_about_92
      · have h := h.2 z
        refine a_aload_n X dX3_about_16 rfl 0 rfl ?_
        refine a_iconst (v := 1) X dX3_about_17 ic_1 ?_
        refine a_cVi (As := [.int 1]) (st := []) X fw3 iz_0 (cX3_refuse_ok l h) mlX3_58 mvX3_refuse (rz rfl) (Nat.le_of_ble_eq_true rfl) rfl dX3_about_18 (fun r_16 M_15 h => ?_)
        exact a_iret X h dX3_about_21
abbrev rm_X3_stream : Room := { frames := 3, cells := 0, slots := 0, locals := 64 }
def wpX3_stream (mk : Nat) (M : Mem) (v1 : Int32) (v2 : Int32) (Q : Int32 → Mem → Prop) : Prop := wpX3_find mk M v1 (fun o M_1 => (o = none → wpX3_refuse M_1 1 (fun r_4 M_3 => Q r_4 M_3)) ∧ (∀ n_2 : Nat, o = some n_2 → ((v2 < 0 → wpX3_refuse M_1 1 (fun r_6 M_5 => Q r_6 M_5)) ∧ (¬ v2 < 0 → ((v2 ≤ 9 → ((v2 = 0 → wpX3_pass M_1 (gI M_1 n_2 2) (fun r_8 M_7 => Q r_8 M_7)) ∧ (v2 = 1 → wpX3_pass M_1 (gI M_1 (n_2 + 5) 4) (fun r_10 M_9 => Q r_10 M_9)) ∧ (v2 = 2 → wpX3_boundOf M_1 (gI M_1 n_2 2) (gI M_1 0 3) (fun r_12 M_11 => wpX3_pass M_11 r_12 (fun r_14 M_13 => Q r_14 M_13))) ∧ (v2 = 3 → wpX3_pass M_1 (gI M_1 n_2 3) (fun r_16 M_15 => Q r_16 M_15)) ∧ (v2 = 4 → wpX3_pass M_1 (gI M_1 n_2 4) (fun r_18 M_17 => Q r_18 M_17)) ∧ (v2 = 5 → wpX3_pass M_1 (gI M_1 n_2 5) (fun r_20 M_19 => Q r_20 M_19)) ∧ (v2 = 6 → ((¬ (gI M_1 (n_2 + 5) 4) = 0 → (vp_in 0 1000 ∧ wpX3_pass M_1 (gI M_1 ((n_2 + 5) + 1) (Int32.toNatClampNeg 0)) (fun r_22 M_21 => Q r_22 M_21))) ∧ ((gI M_1 (n_2 + 5) 4) = 0 → wpX3_pass M_1 (-2) (fun r_24 M_23 => Q r_24 M_23)))) ∧ (v2 = 7 → ((¬ (gI M_1 (n_2 + 5) 4) = 0 → (vp_in ((gI M_1 (n_2 + 5) 4) - 1) 1000 ∧ wpX3_pass M_1 (gI M_1 ((n_2 + 5) + 1) (Int32.toNatClampNeg ((gI M_1 (n_2 + 5) 4) - 1))) (fun r_26 M_25 => Q r_26 M_25))) ∧ ((gI M_1 (n_2 + 5) 4) = 0 → wpX3_pass M_1 (-2) (fun r_28 M_27 => Q r_28 M_27)))) ∧ (v2 = 8 → wpX0_widest M_1 (n_2 + 5) (fun r_30 M_29 => wpX3_pass M_29 r_30 (fun r_32 M_31 => Q r_32 M_31))) ∧ (¬ v2 = 0 → ¬ v2 = 1 → ¬ v2 = 2 → ¬ v2 = 3 → ¬ v2 = 4 → ¬ v2 = 5 → ¬ v2 = 6 → ¬ v2 = 7 → ¬ v2 = 8 → wpX1_unlikeValues M_1 n_2 (fun r_34 M_33 => wpX3_pass M_33 r_34 (fun r_36 M_35 => Q r_36 M_35))))) ∧ (¬ v2 ≤ 9 → wpX3_refuse M_1 1 (fun r_38 M_37 => Q r_38 M_37)))))))
set_option maxHeartbeats 4000000 in
set_option maxRecDepth 100000 in
theorem cX3_stream_ok (l : Launch) {G : Gl} {al : Nat → Nat} {mk : Nat} {M : Mem} {v1 : Int32} {v2 : Int32} {Q : Int32 → Mem → Prop} (h : wpX3_stream mk M v1 v2 Q) : Kv l yX3_stream cX3_stream 4 (some .int) rm_X3_stream G al mk M [.ref (al 0), .int v1, .int v2] (QI G al mk Q) := by
  refine a_head (by decide) (Nat.le_of_ble_eq_true rfl) (fun p e s m below meth c X => ?_)
  have X : Cx p s m meth c G RX3 cX3_stream 4 (some .int) := X
  unfold wpX3_stream at h
  refine a_sub (ks := [0, 1, 2]) (lo' := [(0, .ref (al 0)), (1, .int v1), (2, .int v2)]) rfl ?_
  refine a_aload_n X dX3_stream_0 rfl 0 rfl ?_
  refine a_iload_n X dX3_stream_1 rfl 1 rfl ?_
  refine a_cVq (As := [.int v1]) (st := []) X fw3 iz_0 (cX3_find_ok l h) mlX3_80 mvX3_find (rz rfl) (Nat.le_of_ble_eq_true rfl) rfl dX3_stream_2 (fun M_1 h => ?_) (fun n_2 M_1 in_2 h => ?_)
  · have h := h.1 rfl
    refine a_astore_nN (lo' := [(3, .null), (0, .ref (al 0)), (1, .int v1), (2, .int v2)]) X dX3_stream_5 rfl (by decide) rfl ?_
    refine a_aload_nN X dX3_stream_6 rfl 0 rfl ?_
    refine a_ifnullN (tgt := 20) X dX3_stream_7 (by decide) ?_
    refine a_aload_n X dX3_stream_20 rfl 1 rfl ?_
    refine a_iconst (v := 1) X dX3_stream_21 ic_1 ?_
    refine a_cVi (As := [.int 1]) (st := []) X fw3 iz_0 (cX3_refuse_ok l h) mlX3_58 mvX3_refuse (rz rfl) (Nat.le_of_ble_eq_true rfl) rfl dX3_stream_22 (fun r_4 M_3 h => ?_)
    exact a_iret X h dX3_stream_25
  · have h := h.2 n_2 rfl
    refine a_astore_n (lo' := [(3, .ref (al n_2)), (0, .ref (al 0)), (1, .int v1), (2, .int v2)]) X dX3_stream_5 rfl (by decide) rfl ?_
    refine a_aload_n X dX3_stream_6 rfl 0 rfl ?_
    refine a_ifnull X dX3_stream_7 ?_
    refine a_iload_n X dX3_stream_10 rfl 3 rfl ?_
    refine a_if_lt (tgt := 20) X dX3_stream_11 (by decide) (fun z => ?_) (fun z => ?_)
    · have h := h.1 z
      refine a_aload_n X dX3_stream_20 rfl 1 rfl ?_
      refine a_iconst (v := 1) X dX3_stream_21 ic_1 ?_
      refine a_cVi (As := [.int 1]) (st := []) X fw3 iz_0 (cX3_refuse_ok l h) mlX3_58 mvX3_refuse (rz rfl) (Nat.le_of_ble_eq_true rfl) rfl dX3_stream_22 (fun r_6 M_5 h => ?_)
      exact a_iret X h dX3_stream_25
    · have h := h.2 z
      refine a_iload_n X dX3_stream_14 rfl 3 rfl ?_
      refine a_bipush (v := 9) X dX3_stream_15 bc_9 ?_
      refine a_icmp_le (tgt := 26) X dX3_stream_17 (by decide) (fun z => ?_) (fun z => ?_)
      · have h := h.1 z
        refine a_iload_n X dX3_stream_26 rfl 3 rfl ?_
        by_cases z0 : v2 = 0
        · have h := h.1 z0
          refine a_ts (k := 0) (tgt := 76) X z0 dX3_stream_27 (by decide) (by decide) rfl (by decide) ?_
          refine a_aload_n X dX3_stream_76 rfl 1 rfl ?_
          refine a_aload_n X dX3_stream_77 rfl 0 rfl ?_
          refine a_getI (k := 2) X fw1 in_2 rfl flX3_84 rfl dX3_stream_78 ?_
          refine a_cVi (As := [.int (gI M_1 n_2 2)]) (st := []) X fw3 iz_0 (cX3_pass_ok l h) mlX3_74 mvX3_pass (rz rfl) (Nat.le_of_ble_eq_true rfl) rfl dX3_stream_81 (fun r_8 M_7 h => ?_)
          exact a_iret X h dX3_stream_84
        by_cases z1 : v2 = 1
        · have h := h.2.1 z1
          refine a_ts (k := 1) (tgt := 85) X z1 dX3_stream_27 (by decide) (by decide) rfl (by decide) ?_
          refine a_aload_n X dX3_stream_85 rfl 1 rfl ?_
          refine a_aload_n X dX3_stream_86 rfl 0 rfl ?_
          refine a_getR (k := 0) X 5 (b := (n_2 + 5)) fw1 in_2 rfl rfl flX3_87 rfl dX3_stream_87 ?_
          refine a_getI (k := 4) X fw0 in_2.str.2 rfl flX3_90 rfl dX3_stream_90 ?_
          refine a_cVi (As := [.int (gI M_1 (n_2 + 5) 4)]) (st := []) X fw3 iz_0 (cX3_pass_ok l h) mlX3_74 mvX3_pass (rz rfl) (Nat.le_of_ble_eq_true rfl) rfl dX3_stream_93 (fun r_10 M_9 h => ?_)
          exact a_iret X h dX3_stream_96
        by_cases z2 : v2 = 2
        · have h := h.2.2.1 z2
          refine a_ts (k := 2) (tgt := 97) X z2 dX3_stream_27 (by decide) (by decide) rfl (by decide) ?_
          refine a_aload_n X dX3_stream_97 rfl 1 rfl ?_
          refine a_aload_n X dX3_stream_98 rfl 0 rfl ?_
          refine a_getI (k := 2) X fw1 in_2 rfl flX3_84 rfl dX3_stream_99 ?_
          refine a_aload_n X dX3_stream_102 rfl 1 rfl ?_
          refine a_getI (k := 3) X fw3 iz_0 rfl flX3_26 rfl dX3_stream_103 ?_
          refine a_cSi (As := [.int (gI M_1 n_2 2), .int (gI M_1 0 3)]) (st := [.ref (al 0)]) X (cX3_boundOf_ok l h) mlX3_93 msX3_boundOf (rz rfl) (Nat.le_of_ble_eq_true rfl) rfl dX3_stream_106 (fun r_12 M_11 h => ?_)
          refine a_cVi (As := [.int r_12]) (st := []) X fw3 iz_0 (cX3_pass_ok l h) mlX3_74 mvX3_pass (rz rfl) (Nat.le_of_ble_eq_true rfl) rfl dX3_stream_109 (fun r_14 M_13 h => ?_)
          exact a_iret X h dX3_stream_112
        by_cases z3 : v2 = 3
        · have h := h.2.2.2.1 z3
          refine a_ts (k := 3) (tgt := 113) X z3 dX3_stream_27 (by decide) (by decide) rfl (by decide) ?_
          refine a_aload_n X dX3_stream_113 rfl 1 rfl ?_
          refine a_aload_n X dX3_stream_114 rfl 0 rfl ?_
          refine a_getI (k := 3) X fw1 in_2 rfl flX3_97 rfl dX3_stream_115 ?_
          refine a_cVi (As := [.int (gI M_1 n_2 3)]) (st := []) X fw3 iz_0 (cX3_pass_ok l h) mlX3_74 mvX3_pass (rz rfl) (Nat.le_of_ble_eq_true rfl) rfl dX3_stream_118 (fun r_16 M_15 h => ?_)
          exact a_iret X h dX3_stream_121
        by_cases z4 : v2 = 4
        · have h := h.2.2.2.2.1 z4
          refine a_ts (k := 4) (tgt := 122) X z4 dX3_stream_27 (by decide) (by decide) rfl (by decide) ?_
          refine a_aload_n X dX3_stream_122 rfl 1 rfl ?_
          refine a_aload_n X dX3_stream_123 rfl 0 rfl ?_
          refine a_getI (k := 4) X fw1 in_2 rfl flX3_100 rfl dX3_stream_124 ?_
          refine a_cVi (As := [.int (gI M_1 n_2 4)]) (st := []) X fw3 iz_0 (cX3_pass_ok l h) mlX3_74 mvX3_pass (rz rfl) (Nat.le_of_ble_eq_true rfl) rfl dX3_stream_127 (fun r_18 M_17 h => ?_)
          exact a_iret X h dX3_stream_130
        by_cases z5 : v2 = 5
        · have h := h.2.2.2.2.2.1 z5
          refine a_ts (k := 5) (tgt := 131) X z5 dX3_stream_27 (by decide) (by decide) rfl (by decide) ?_
          refine a_aload_n X dX3_stream_131 rfl 1 rfl ?_
          refine a_aload_n X dX3_stream_132 rfl 0 rfl ?_
          refine a_getI (k := 5) X fw1 in_2 rfl flX3_103 rfl dX3_stream_133 ?_
          refine a_cVi (As := [.int (gI M_1 n_2 5)]) (st := []) X fw3 iz_0 (cX3_pass_ok l h) mlX3_74 mvX3_pass (rz rfl) (Nat.le_of_ble_eq_true rfl) rfl dX3_stream_136 (fun r_20 M_19 h => ?_)
          exact a_iret X h dX3_stream_139
        by_cases z6 : v2 = 6
        · have h := h.2.2.2.2.2.2.1 z6
          refine a_ts (k := 6) (tgt := 140) X z6 dX3_stream_27 (by decide) (by decide) rfl (by decide) ?_
          refine a_aload_n X dX3_stream_140 rfl 1 rfl ?_
          refine a_aload_n X dX3_stream_141 rfl 0 rfl ?_
          refine a_getR (k := 0) X 5 (b := (n_2 + 5)) fw1 in_2 rfl rfl flX3_87 rfl dX3_stream_142 ?_
          refine a_getI (k := 4) X fw0 in_2.str.2 rfl flX3_90 rfl dX3_stream_145 ?_
          refine a_if_ne (tgt := 156) X dX3_stream_148 (by decide) (fun z => ?_) (fun z => ?_)
          · have h := h.1 z
            refine a_aload_n X dX3_stream_156 rfl 0 rfl ?_
            refine a_getR (k := 0) X 5 (b := (n_2 + 5)) fw1 in_2 rfl rfl flX3_87 rfl dX3_stream_157 ?_
            refine a_getR (k := 0) X 1 (b := ((n_2 + 5) + 1)) fw0 in_2.str.2 rfl rfl flX3_106 rfl dX3_stream_160 ?_
            refine a_iconst (v := 0) X dX3_stream_163 ic_0 ?_
            refine a_iald X in_2.str.2.row.1 h.1 dX3_stream_164 ?_
            have h := h.2
            refine a_cVi (As := [.int (gI M_1 ((n_2 + 5) + 1) (Int32.toNatClampNeg 0))]) (st := []) X fw3 iz_0 (cX3_pass_ok l h) mlX3_74 mvX3_pass (rz rfl) (Nat.le_of_ble_eq_true rfl) rfl dX3_stream_165 (fun r_22 M_21 h => ?_)
            exact a_iret X h dX3_stream_168
          · have h := h.2 z
            refine a_bipush (v := (-2)) X dX3_stream_151 bc_m2 ?_
            refine a_goto (tgt := 165) X dX3_stream_153 (by decide) ?_
            refine a_cVi (As := [.int (-2)]) (st := []) X fw3 iz_0 (cX3_pass_ok l h) mlX3_74 mvX3_pass (rz rfl) (Nat.le_of_ble_eq_true rfl) rfl dX3_stream_165 (fun r_24 M_23 h => ?_)
            exact a_iret X h dX3_stream_168
        by_cases z7 : v2 = 7
        · have h := h.2.2.2.2.2.2.2.1 z7
          refine a_ts (k := 7) (tgt := 169) X z7 dX3_stream_27 (by decide) (by decide) rfl (by decide) ?_
          refine a_aload_n X dX3_stream_169 rfl 1 rfl ?_
          refine a_aload_n X dX3_stream_170 rfl 0 rfl ?_
          refine a_getR (k := 0) X 5 (b := (n_2 + 5)) fw1 in_2 rfl rfl flX3_87 rfl dX3_stream_171 ?_
          refine a_getI (k := 4) X fw0 in_2.str.2 rfl flX3_90 rfl dX3_stream_174 ?_
          refine a_if_ne (tgt := 185) X dX3_stream_177 (by decide) (fun z => ?_) (fun z => ?_)
          · have h := h.1 z
            refine a_aload_n X dX3_stream_185 rfl 0 rfl ?_
            refine a_getR (k := 0) X 5 (b := (n_2 + 5)) fw1 in_2 rfl rfl flX3_87 rfl dX3_stream_186 ?_
            refine a_getR (k := 0) X 1 (b := ((n_2 + 5) + 1)) fw0 in_2.str.2 rfl rfl flX3_106 rfl dX3_stream_189 ?_
            refine a_aload_n X dX3_stream_192 rfl 0 rfl ?_
            refine a_getR (k := 0) X 5 (b := (n_2 + 5)) fw1 in_2 rfl rfl flX3_87 rfl dX3_stream_193 ?_
            refine a_getI (k := 4) X fw0 in_2.str.2 rfl flX3_90 rfl dX3_stream_196 ?_
            refine a_iconst (v := 1) X dX3_stream_199 ic_1 ?_
            refine a_isub X dX3_stream_200 ?_
            refine a_iald X in_2.str.2.row.1 h.1 dX3_stream_201 ?_
            have h := h.2
            refine a_cVi (As := [.int (gI M_1 ((n_2 + 5) + 1) (Int32.toNatClampNeg ((gI M_1 (n_2 + 5) 4) - 1)))]) (st := []) X fw3 iz_0 (cX3_pass_ok l h) mlX3_74 mvX3_pass (rz rfl) (Nat.le_of_ble_eq_true rfl) rfl dX3_stream_202 (fun r_26 M_25 h => ?_)
            exact a_iret X h dX3_stream_205
          · have h := h.2 z
            refine a_bipush (v := (-2)) X dX3_stream_180 bc_m2 ?_
            refine a_goto (tgt := 202) X dX3_stream_182 (by decide) ?_
            refine a_cVi (As := [.int (-2)]) (st := []) X fw3 iz_0 (cX3_pass_ok l h) mlX3_74 mvX3_pass (rz rfl) (Nat.le_of_ble_eq_true rfl) rfl dX3_stream_202 (fun r_28 M_27 h => ?_)
            exact a_iret X h dX3_stream_205
        by_cases z8 : v2 = 8
        · have h := h.2.2.2.2.2.2.2.2.1 z8
          refine a_ts (k := 8) (tgt := 206) X z8 dX3_stream_27 (by decide) (by decide) rfl (by decide) ?_
          refine a_aload_n X dX3_stream_206 rfl 1 rfl ?_
          refine a_aload_n X dX3_stream_207 rfl 0 rfl ?_
          refine a_getR (k := 0) X 5 (b := (n_2 + 5)) fw1 in_2 rfl rfl flX3_87 rfl dX3_stream_208 ?_
          refine a_cVi (As := []) (st := [.ref (al 0)]) X fw0 in_2.str.2 (cX0_widest_ok l in_2.str.2 h) mlX3_110 mvX0_widest (rz rfl) (Nat.le_of_ble_eq_true rfl) rfl dX3_stream_211 (fun r_30 M_29 h => ?_)
          refine a_cVi (As := [.int r_30]) (st := []) X fw3 iz_0 (cX3_pass_ok l h) mlX3_74 mvX3_pass (rz rfl) (Nat.le_of_ble_eq_true rfl) rfl dX3_stream_214 (fun r_32 M_31 h => ?_)
          exact a_iret X h dX3_stream_217
        have h := h.2.2.2.2.2.2.2.2.2 z0 z1 z2 z3 z4 z5 z6 z7 z8
        refine a_tsD (tgt := 218) X dX3_stream_27 (ts_out 9 (by decide) (fun k hk => by rcases (show k = 0 ∨ k = 1 ∨ k = 2 ∨ k = 3 ∨ k = 4 ∨ k = 5 ∨ k = 6 ∨ k = 7 ∨ k = 8 by omega) with rfl | rfl | rfl | rfl | rfl | rfl | rfl | rfl | rfl <;> assumption)) (by decide) ?_
        refine a_aload_n X dX3_stream_218 rfl 1 rfl ?_
        refine a_aload_n X dX3_stream_219 rfl 0 rfl ?_
        refine a_cVi (As := []) (st := [.ref (al 0)]) X fw1 in_2 (cX1_unlikeValues_ok l in_2 h) mlX3_114 mvX1_unlikeValues (rz rfl) (Nat.le_of_ble_eq_true rfl) rfl dX3_stream_220 (fun r_34 M_33 h => ?_)
        refine a_cVi (As := [.int r_34]) (st := []) X fw3 iz_0 (cX3_pass_ok l h) mlX3_74 mvX3_pass (rz rfl) (Nat.le_of_ble_eq_true rfl) rfl dX3_stream_223 (fun r_36 M_35 h => ?_)
        exact a_iret X h dX3_stream_226
      · have h := h.2 z
        refine a_aload_n X dX3_stream_20 rfl 1 rfl ?_
        refine a_iconst (v := 1) X dX3_stream_21 ic_1 ?_
        refine a_cVi (As := [.int 1]) (st := []) X fw3 iz_0 (cX3_refuse_ok l h) mlX3_58 mvX3_refuse (rz rfl) (Nat.le_of_ble_eq_true rfl) rfl dX3_stream_22 (fun r_38 M_37 h => ?_)
        exact a_iret X h dX3_stream_25
abbrev rm_X3_tuple : Room := { frames := 2, cells := 0, slots := 0, locals := 44 }
def wpX3_tuple (mk : Nat) (M : Mem) (v1 : Int32) (v2 : Int32) (v3 : Int32) (Q : Int32 → Mem → Prop) : Prop := wpX3_find mk M v1 (fun o M_1 => (o = none → wpX3_refuse M_1 1 (fun r_4 M_3 => Q r_4 M_3)) ∧ (∀ n_2 : Nat, o = some n_2 → ((v2 < 0 → wpX3_refuse M_1 1 (fun r_6 M_5 => Q r_6 M_5)) ∧ (¬ v2 < 0 → (((gI M_1 (n_2 + 5) 4) ≤ v2 → wpX3_refuse M_1 1 (fun r_8 M_7 => Q r_8 M_7)) ∧ (¬ (gI M_1 (n_2 + 5) 4) ≤ v2 → ((v3 < 0 → wpX3_refuse M_1 1 (fun r_10 M_9 => Q r_10 M_9)) ∧ (¬ v3 < 0 → ((v3 ≤ 6 → ((v3 = 0 → (vp_in v2 1000 ∧ wpX3_pass M_1 (gI M_1 ((n_2 + 5) + 1) (Int32.toNatClampNeg v2)) (fun r_12 M_11 => Q r_12 M_11))) ∧ (v3 = 1 → wpX0_gap M_1 (n_2 + 5) v2 (fun r_14 M_13 => wpX3_pass M_13 r_14 (fun r_16 M_15 => Q r_16 M_15))) ∧ (v3 = 2 → (vp_in v2 1000 ∧ wpX3_pass M_1 (gI M_1 ((n_2 + 5) + 3) (Int32.toNatClampNeg v2)) (fun r_18 M_17 => Q r_18 M_17))) ∧ (v3 = 3 → (vp_in v2 1000 ∧ wpX3_pass M_1 (gI M_1 ((n_2 + 5) + 2) (Int32.toNatClampNeg v2)) (fun r_20 M_19 => Q r_20 M_19))) ∧ (v3 = 4 → wpX0_high M_1 (n_2 + 5) v2 (fun r_22 M_21 => wpX3_pass M_21 r_22 (fun r_24 M_23 => Q r_24 M_23))) ∧ (v3 = 5 → (vp_in v2 1000 ∧ wpX3_boundOf M_1 (gI M_1 n_2 2) (gI M_1 0 3) (fun r_26 M_25 => wpX3_bandOf M_25 (gI M_1 ((n_2 + 5) + 3) (Int32.toNatClampNeg v2)) r_26 (fun r_28 M_27 => wpX3_pass M_27 r_28 (fun r_30 M_29 => Q r_30 M_29))))) ∧ (¬ v3 = 0 → ¬ v3 = 1 → ¬ v3 = 2 → ¬ v3 = 3 → ¬ v3 = 4 → ¬ v3 = 5 → wpX3_boundOf M_1 (gI M_1 n_2 2) (gI M_1 0 3) (fun r_32 M_31 => wpX0_takeBands M_31 (n_2 + 5) r_32 (fun M_33 => wpX0_familyFrom M_33 (n_2 + 5) v2 (fun r_35 M_34 => wpX3_pass M_34 ((v2 - r_35) + 1) (fun r_37 M_36 => Q r_37 M_36))))))) ∧ (¬ v3 ≤ 6 → wpX3_refuse M_1 1 (fun r_39 M_38 => Q r_39 M_38)))))))))))
set_option maxHeartbeats 4000000 in
set_option maxRecDepth 100000 in
theorem cX3_tuple_ok (l : Launch) {G : Gl} {al : Nat → Nat} {mk : Nat} {M : Mem} {v1 : Int32} {v2 : Int32} {v3 : Int32} {Q : Int32 → Mem → Prop} (h : wpX3_tuple mk M v1 v2 v3 Q) : Kv l yX3_tuple cX3_tuple 6 (some .int) rm_X3_tuple G al mk M [.ref (al 0), .int v1, .int v2, .int v3] (QI G al mk Q) := by
  refine a_head (by decide) (Nat.le_of_ble_eq_true rfl) (fun p e s m below meth c X => ?_)
  have X : Cx p s m meth c G RX3 cX3_tuple 6 (some .int) := X
  unfold wpX3_tuple at h
  refine a_sub (ks := [0, 1, 2, 3]) (lo' := [(0, .ref (al 0)), (1, .int v1), (2, .int v2), (3, .int v3)]) rfl ?_
  refine a_aload_n X dX3_tuple_0 rfl 0 rfl ?_
  refine a_iload_n X dX3_tuple_1 rfl 1 rfl ?_
  refine a_cVq (As := [.int v1]) (st := []) X fw3 iz_0 (cX3_find_ok l h) mlX3_80 mvX3_find (rz rfl) (Nat.le_of_ble_eq_true rfl) rfl dX3_tuple_2 (fun M_1 h => ?_) (fun n_2 M_1 in_2 h => ?_)
  · have h := h.1 rfl
    refine a_astoreN (lo' := [(4, .null), (0, .ref (al 0)), (1, .int v1), (2, .int v2), (3, .int v3)]) X dX3_tuple_5 (by decide) rfl ?_
    refine a_aloadN X dX3_tuple_7 0 rfl ?_
    refine a_ifnullN (tgt := 38) X dX3_tuple_9 (by decide) ?_
    refine a_aload_n X dX3_tuple_38 rfl 1 rfl ?_
    refine a_iconst (v := 1) X dX3_tuple_39 ic_1 ?_
    refine a_cVi (As := [.int 1]) (st := []) X fw3 iz_0 (cX3_refuse_ok l h) mlX3_58 mvX3_refuse (rz rfl) (Nat.le_of_ble_eq_true rfl) rfl dX3_tuple_40 (fun r_4 M_3 h => ?_)
    exact a_iret X h dX3_tuple_43
  · have h := h.2 n_2 rfl
    refine a_astore (lo' := [(4, .ref (al n_2)), (0, .ref (al 0)), (1, .int v1), (2, .int v2), (3, .int v3)]) X dX3_tuple_5 (by decide) rfl ?_
    refine a_aload X dX3_tuple_7 0 rfl ?_
    refine a_ifnull X dX3_tuple_9 ?_
    refine a_iload_n X dX3_tuple_12 rfl 3 rfl ?_
    refine a_if_lt (tgt := 38) X dX3_tuple_13 (by decide) (fun z => ?_) (fun z => ?_)
    · have h := h.1 z
      refine a_aload_n X dX3_tuple_38 rfl 1 rfl ?_
      refine a_iconst (v := 1) X dX3_tuple_39 ic_1 ?_
      refine a_cVi (As := [.int 1]) (st := []) X fw3 iz_0 (cX3_refuse_ok l h) mlX3_58 mvX3_refuse (rz rfl) (Nat.le_of_ble_eq_true rfl) rfl dX3_tuple_40 (fun r_6 M_5 h => ?_)
      exact a_iret X h dX3_tuple_43
    · have h := h.2 z
      refine a_iload_n X dX3_tuple_16 rfl 3 rfl ?_
      refine a_aload X dX3_tuple_17 0 rfl ?_
      refine a_getR (k := 0) X 5 (b := (n_2 + 5)) fw1 in_2 rfl rfl flX3_87 rfl dX3_tuple_19 ?_
      refine a_getI (k := 4) X fw0 in_2.str.2 rfl flX3_90 rfl dX3_tuple_22 ?_
      refine a_icmp_ge (tgt := 38) X dX3_tuple_25 (by decide) (fun z => ?_) (fun z => ?_)
      · have h := h.1 z
        refine a_aload_n X dX3_tuple_38 rfl 1 rfl ?_
        refine a_iconst (v := 1) X dX3_tuple_39 ic_1 ?_
        refine a_cVi (As := [.int 1]) (st := []) X fw3 iz_0 (cX3_refuse_ok l h) mlX3_58 mvX3_refuse (rz rfl) (Nat.le_of_ble_eq_true rfl) rfl dX3_tuple_40 (fun r_8 M_7 h => ?_)
        exact a_iret X h dX3_tuple_43
      · have h := h.2 z
        refine a_iload_n X dX3_tuple_28 rfl 4 rfl ?_
        refine a_if_lt (tgt := 38) X dX3_tuple_29 (by decide) (fun z => ?_) (fun z => ?_)
        · have h := h.1 z
          refine a_aload_n X dX3_tuple_38 rfl 1 rfl ?_
          refine a_iconst (v := 1) X dX3_tuple_39 ic_1 ?_
          refine a_cVi (As := [.int 1]) (st := []) X fw3 iz_0 (cX3_refuse_ok l h) mlX3_58 mvX3_refuse (rz rfl) (Nat.le_of_ble_eq_true rfl) rfl dX3_tuple_40 (fun r_10 M_9 h => ?_)
          exact a_iret X h dX3_tuple_43
        · have h := h.2 z
          refine a_iload_n X dX3_tuple_32 rfl 4 rfl ?_
          refine a_bipush (v := 6) X dX3_tuple_33 bc_6 ?_
          refine a_icmp_le (tgt := 44) X dX3_tuple_35 (by decide) (fun z => ?_) (fun z => ?_)
          · have h := h.1 z
            refine a_aload X dX3_tuple_44 0 rfl ?_
            refine a_getR (k := 0) X 5 (b := (n_2 + 5)) fw1 in_2 rfl rfl flX3_87 rfl dX3_tuple_46 ?_
            refine a_astore (lo' := [(5, .ref (al (n_2 + 5))), (4, .ref (al n_2)), (0, .ref (al 0)), (1, .int v1), (2, .int v2), (3, .int v3)]) X dX3_tuple_49 (by decide) rfl ?_
            refine a_iload_n X dX3_tuple_51 rfl 5 rfl ?_
            by_cases z0 : v3 = 0
            · have h := h.1 z0
              refine a_ts (k := 0) (tgt := 92) X z0 dX3_tuple_52 (by decide) (by decide) rfl (by decide) ?_
              refine a_aload_n X dX3_tuple_92 rfl 2 rfl ?_
              refine a_aload X dX3_tuple_93 0 rfl ?_
              refine a_getR (k := 0) X 1 (b := ((n_2 + 5) + 1)) fw0 in_2.str.2 rfl rfl flX3_106 rfl dX3_tuple_95 ?_
              refine a_iload_n X dX3_tuple_98 rfl 4 rfl ?_
              refine a_iald X in_2.str.2.row.1 h.1 dX3_tuple_99 ?_
              have h := h.2
              refine a_cVi (As := [.int (gI M_1 ((n_2 + 5) + 1) (Int32.toNatClampNeg v2))]) (st := []) X fw3 iz_0 (cX3_pass_ok l h) mlX3_74 mvX3_pass (rz rfl) (Nat.le_of_ble_eq_true rfl) rfl dX3_tuple_100 (fun r_12 M_11 h => ?_)
              exact a_iret X h dX3_tuple_103
            by_cases z1 : v3 = 1
            · have h := h.2.1 z1
              refine a_ts (k := 1) (tgt := 104) X z1 dX3_tuple_52 (by decide) (by decide) rfl (by decide) ?_
              refine a_aload_n X dX3_tuple_104 rfl 2 rfl ?_
              refine a_aload X dX3_tuple_105 0 rfl ?_
              refine a_iload_n X dX3_tuple_107 rfl 4 rfl ?_
              refine a_cVi (As := [.int v2]) (st := [.ref (al 0)]) X fw0 in_2.str.2 (cX0_gap_ok l in_2.str.2 h) mlX3_117 mvX0_gap (rz rfl) (Nat.le_of_ble_eq_true rfl) rfl dX3_tuple_108 (fun r_14 M_13 h => ?_)
              refine a_cVi (As := [.int r_14]) (st := []) X fw3 iz_0 (cX3_pass_ok l h) mlX3_74 mvX3_pass (rz rfl) (Nat.le_of_ble_eq_true rfl) rfl dX3_tuple_111 (fun r_16 M_15 h => ?_)
              exact a_iret X h dX3_tuple_114
            by_cases z2 : v3 = 2
            · have h := h.2.2.1 z2
              refine a_ts (k := 2) (tgt := 115) X z2 dX3_tuple_52 (by decide) (by decide) rfl (by decide) ?_
              refine a_aload_n X dX3_tuple_115 rfl 2 rfl ?_
              refine a_aload X dX3_tuple_116 0 rfl ?_
              refine a_getR (k := 2) X 3 (b := ((n_2 + 5) + 3)) fw0 in_2.str.2 rfl rfl flX3_120 rfl dX3_tuple_118 ?_
              refine a_iload_n X dX3_tuple_121 rfl 4 rfl ?_
              refine a_iald X in_2.str.2.row.2.2.1 h.1 dX3_tuple_122 ?_
              have h := h.2
              refine a_cVi (As := [.int (gI M_1 ((n_2 + 5) + 3) (Int32.toNatClampNeg v2))]) (st := []) X fw3 iz_0 (cX3_pass_ok l h) mlX3_74 mvX3_pass (rz rfl) (Nat.le_of_ble_eq_true rfl) rfl dX3_tuple_123 (fun r_18 M_17 h => ?_)
              exact a_iret X h dX3_tuple_126
            by_cases z3 : v3 = 3
            · have h := h.2.2.2.1 z3
              refine a_ts (k := 3) (tgt := 127) X z3 dX3_tuple_52 (by decide) (by decide) rfl (by decide) ?_
              refine a_aload_n X dX3_tuple_127 rfl 2 rfl ?_
              refine a_aload X dX3_tuple_128 0 rfl ?_
              refine a_getR (k := 1) X 2 (b := ((n_2 + 5) + 2)) fw0 in_2.str.2 rfl rfl flX3_123 rfl dX3_tuple_130 ?_
              refine a_iload_n X dX3_tuple_133 rfl 4 rfl ?_
              refine a_iald X in_2.str.2.row.2.1 h.1 dX3_tuple_134 ?_
              have h := h.2
              refine a_cVi (As := [.int (gI M_1 ((n_2 + 5) + 2) (Int32.toNatClampNeg v2))]) (st := []) X fw3 iz_0 (cX3_pass_ok l h) mlX3_74 mvX3_pass (rz rfl) (Nat.le_of_ble_eq_true rfl) rfl dX3_tuple_135 (fun r_20 M_19 h => ?_)
              exact a_iret X h dX3_tuple_138
            by_cases z4 : v3 = 4
            · have h := h.2.2.2.2.1 z4
              refine a_ts (k := 4) (tgt := 139) X z4 dX3_tuple_52 (by decide) (by decide) rfl (by decide) ?_
              refine a_aload_n X dX3_tuple_139 rfl 2 rfl ?_
              refine a_aload X dX3_tuple_140 0 rfl ?_
              refine a_iload_n X dX3_tuple_142 rfl 4 rfl ?_
              refine a_cVi (As := [.int v2]) (st := [.ref (al 0)]) X fw0 in_2.str.2 (cX0_high_ok l in_2.str.2 h) mlX3_126 mvX0_high (rz rfl) (Nat.le_of_ble_eq_true rfl) rfl dX3_tuple_143 (fun r_22 M_21 h => ?_)
              refine a_cVi (As := [.int r_22]) (st := []) X fw3 iz_0 (cX3_pass_ok l h) mlX3_74 mvX3_pass (rz rfl) (Nat.le_of_ble_eq_true rfl) rfl dX3_tuple_146 (fun r_24 M_23 h => ?_)
              exact a_iret X h dX3_tuple_149
            by_cases z5 : v3 = 5
            · have h := h.2.2.2.2.2.1 z5
              refine a_ts (k := 5) (tgt := 150) X z5 dX3_tuple_52 (by decide) (by decide) rfl (by decide) ?_
              refine a_aload_n X dX3_tuple_150 rfl 2 rfl ?_
              refine a_aload X dX3_tuple_151 0 rfl ?_
              refine a_getR (k := 2) X 3 (b := ((n_2 + 5) + 3)) fw0 in_2.str.2 rfl rfl flX3_120 rfl dX3_tuple_153 ?_
              refine a_iload_n X dX3_tuple_156 rfl 4 rfl ?_
              refine a_iald X in_2.str.2.row.2.2.1 h.1 dX3_tuple_157 ?_
              have h := h.2
              refine a_aload X dX3_tuple_158 1 rfl ?_
              refine a_getI (k := 2) X fw1 in_2 rfl flX3_84 rfl dX3_tuple_160 ?_
              refine a_aload_n X dX3_tuple_163 rfl 2 rfl ?_
              refine a_getI (k := 3) X fw3 iz_0 rfl flX3_26 rfl dX3_tuple_164 ?_
              refine a_cSi (As := [.int (gI M_1 n_2 2), .int (gI M_1 0 3)]) (st := [.int (gI M_1 ((n_2 + 5) + 3) (Int32.toNatClampNeg v2)), .ref (al 0)]) X (cX3_boundOf_ok l h) mlX3_93 msX3_boundOf (rz rfl) (Nat.le_of_ble_eq_true rfl) rfl dX3_tuple_167 (fun r_26 M_25 h => ?_)
              refine a_cSi (As := [.int (gI M_1 ((n_2 + 5) + 3) (Int32.toNatClampNeg v2)), .int r_26]) (st := [.ref (al 0)]) X (cX3_bandOf_ok l h) mlX3_129 msX3_bandOf (rz rfl) (Nat.le_of_ble_eq_true rfl) rfl dX3_tuple_170 (fun r_28 M_27 h => ?_)
              refine a_cVi (As := [.int r_28]) (st := []) X fw3 iz_0 (cX3_pass_ok l h) mlX3_74 mvX3_pass (rz rfl) (Nat.le_of_ble_eq_true rfl) rfl dX3_tuple_173 (fun r_30 M_29 h => ?_)
              exact a_iret X h dX3_tuple_176
            have h := h.2.2.2.2.2.2 z0 z1 z2 z3 z4 z5
            refine a_tsD (tgt := 177) X dX3_tuple_52 (ts_out 6 (by decide) (fun k hk => by rcases (show k = 0 ∨ k = 1 ∨ k = 2 ∨ k = 3 ∨ k = 4 ∨ k = 5 by omega) with rfl | rfl | rfl | rfl | rfl | rfl <;> assumption)) (by decide) ?_
            refine a_aload X dX3_tuple_177 0 rfl ?_
            refine a_aload X dX3_tuple_179 1 rfl ?_
            refine a_getI (k := 2) X fw1 in_2 rfl flX3_84 rfl dX3_tuple_181 ?_
            refine a_aload_n X dX3_tuple_184 rfl 2 rfl ?_
            refine a_getI (k := 3) X fw3 iz_0 rfl flX3_26 rfl dX3_tuple_185 ?_
            refine a_cSi (As := [.int (gI M_1 n_2 2), .int (gI M_1 0 3)]) (st := [.ref (al (n_2 + 5))]) X (cX3_boundOf_ok l h) mlX3_93 msX3_boundOf (rz rfl) (Nat.le_of_ble_eq_true rfl) rfl dX3_tuple_188 (fun r_32 M_31 h => ?_)
            refine a_cVv (As := [.int r_32]) (st := []) X fw0 in_2.str.2 (cX0_takeBands_ok l in_2.str.2 h) mlX3_132 mvX0_takeBands (rz rfl) (Nat.le_of_ble_eq_true rfl) rfl dX3_tuple_191 (fun M_33 h => ?_)
            refine a_aload_n X dX3_tuple_194 rfl 2 rfl ?_
            refine a_iload_n X dX3_tuple_195 rfl 4 rfl ?_
            refine a_aload X dX3_tuple_196 0 rfl ?_
            refine a_iload_n X dX3_tuple_198 rfl 4 rfl ?_
            refine a_cVi (As := [.int v2]) (st := [.int v2, .ref (al 0)]) X fw0 in_2.str.2 (cX0_familyFrom_ok l in_2.str.2 h) mlX3_135 mvX0_familyFrom (rz rfl) (Nat.le_of_ble_eq_true rfl) rfl dX3_tuple_199 (fun r_35 M_34 h => ?_)
            refine a_isub X dX3_tuple_202 ?_
            refine a_iconst (v := 1) X dX3_tuple_203 ic_1 ?_
            refine a_iadd X dX3_tuple_204 ?_
            refine a_cVi (As := [.int ((v2 - r_35) + 1)]) (st := []) X fw3 iz_0 (cX3_pass_ok l h) mlX3_74 mvX3_pass (rz rfl) (Nat.le_of_ble_eq_true rfl) rfl dX3_tuple_205 (fun r_37 M_36 h => ?_)
            exact a_iret X h dX3_tuple_208
          · have h := h.2 z
            refine a_aload_n X dX3_tuple_38 rfl 1 rfl ?_
            refine a_iconst (v := 1) X dX3_tuple_39 ic_1 ?_
            refine a_cVi (As := [.int 1]) (st := []) X fw3 iz_0 (cX3_refuse_ok l h) mlX3_58 mvX3_refuse (rz rfl) (Nat.le_of_ble_eq_true rfl) rfl dX3_tuple_40 (fun r_39 M_38 h => ?_)
            exact a_iret X h dX3_tuple_43
abbrev rm_X3_goes : Room := { frames := 2, cells := 0, slots := 0, locals := 45 }
def wpX3_goes (mk : Nat) (M : Mem) (v1 : Int32) (v2 : Int32) (Q : Int32 → Mem → Prop) : Prop := wpX3_find mk M v1 (fun o M_1 => (o = none → wpX3_refuse M_1 1 (fun r_4 M_3 => Q r_4 M_3)) ∧ (∀ n_2 : Nat, o = some n_2 → ((v2 < 0 → wpX3_refuse M_1 1 (fun r_6 M_5 => Q r_6 M_5)) ∧ (¬ v2 < 0 → ((v2 < (gI M_1 (n_2 + 5) 4) → ((v2 = 0 → wpX3_pass M_1 0 (fun r_8 M_7 => Q r_8 M_7)) ∧ (¬ v2 = 0 → ((¬ v2 = ((gI M_1 (n_2 + 5) 4) - 1) → wpX3_boundOf M_1 (gI M_1 n_2 2) (gI M_1 0 3) (fun r_10 M_9 => wpX0_takeBands M_9 (n_2 + 5) r_10 (fun M_11 => wpX0_familyFrom M_11 (n_2 + 5) v2 (fun r_13 M_12 => wpX0_mayGo M_12 (n_2 + 5) v2 r_13 (v2 + 1) r_10 (fun r_15 M_14 => ((r_15 = 0 → wpX3_pass M_14 0 (fun r_17 M_16 => Q r_17 M_16)) ∧ (¬ r_15 = 0 → wpX3_pass M_14 1 (fun r_19 M_18 => Q r_19 M_18)))))))) ∧ (v2 = ((gI M_1 (n_2 + 5) 4) - 1) → wpX3_pass M_1 0 (fun r_21 M_20 => Q r_21 M_20)))))) ∧ (¬ v2 < (gI M_1 (n_2 + 5) 4) → wpX3_refuse M_1 1 (fun r_23 M_22 => Q r_23 M_22)))))))
set_option maxHeartbeats 4000000 in
set_option maxRecDepth 100000 in
theorem cX3_goes_ok (l : Launch) {G : Gl} {al : Nat → Nat} {mk : Nat} {M : Mem} {v1 : Int32} {v2 : Int32} {Q : Int32 → Mem → Prop} (h : wpX3_goes mk M v1 v2 Q) : Kv l yX3_goes cX3_goes 6 (some .int) rm_X3_goes G al mk M [.ref (al 0), .int v1, .int v2] (QI G al mk Q) := by
  refine a_head (by decide) (Nat.le_of_ble_eq_true rfl) (fun p e s m below meth c X => ?_)
  have X : Cx p s m meth c G RX3 cX3_goes 6 (some .int) := X
  unfold wpX3_goes at h
  refine a_sub (ks := [0, 1, 2]) (lo' := [(0, .ref (al 0)), (1, .int v1), (2, .int v2)]) rfl ?_
  refine a_aload_n X dX3_goes_0 rfl 0 rfl ?_
  refine a_iload_n X dX3_goes_1 rfl 1 rfl ?_
  refine a_cVq (As := [.int v1]) (st := []) X fw3 iz_0 (cX3_find_ok l h) mlX3_80 mvX3_find (rz rfl) (Nat.le_of_ble_eq_true rfl) rfl dX3_goes_2 (fun M_1 h => ?_) (fun n_2 M_1 in_2 h => ?_)
  · have h := h.1 rfl
    refine a_astore_nN (lo' := [(3, .null), (0, .ref (al 0)), (1, .int v1), (2, .int v2)]) X dX3_goes_5 rfl (by decide) rfl ?_
    refine a_aload_nN X dX3_goes_6 rfl 0 rfl ?_
    refine a_ifnullN (tgt := 25) X dX3_goes_7 (by decide) ?_
    refine a_aload_n X dX3_goes_25 rfl 1 rfl ?_
    refine a_iconst (v := 1) X dX3_goes_26 ic_1 ?_
    refine a_cVi (As := [.int 1]) (st := []) X fw3 iz_0 (cX3_refuse_ok l h) mlX3_58 mvX3_refuse (rz rfl) (Nat.le_of_ble_eq_true rfl) rfl dX3_goes_27 (fun r_4 M_3 h => ?_)
    exact a_iret X h dX3_goes_30
  · have h := h.2 n_2 rfl
    refine a_astore_n (lo' := [(3, .ref (al n_2)), (0, .ref (al 0)), (1, .int v1), (2, .int v2)]) X dX3_goes_5 rfl (by decide) rfl ?_
    refine a_aload_n X dX3_goes_6 rfl 0 rfl ?_
    refine a_ifnull X dX3_goes_7 ?_
    refine a_iload_n X dX3_goes_10 rfl 3 rfl ?_
    refine a_if_lt (tgt := 25) X dX3_goes_11 (by decide) (fun z => ?_) (fun z => ?_)
    · have h := h.1 z
      refine a_aload_n X dX3_goes_25 rfl 1 rfl ?_
      refine a_iconst (v := 1) X dX3_goes_26 ic_1 ?_
      refine a_cVi (As := [.int 1]) (st := []) X fw3 iz_0 (cX3_refuse_ok l h) mlX3_58 mvX3_refuse (rz rfl) (Nat.le_of_ble_eq_true rfl) rfl dX3_goes_27 (fun r_6 M_5 h => ?_)
      exact a_iret X h dX3_goes_30
    · have h := h.2 z
      refine a_iload_n X dX3_goes_14 rfl 3 rfl ?_
      refine a_aload_n X dX3_goes_15 rfl 0 rfl ?_
      refine a_getR (k := 0) X 5 (b := (n_2 + 5)) fw1 in_2 rfl rfl flX3_87 rfl dX3_goes_16 ?_
      refine a_getI (k := 4) X fw0 in_2.str.2 rfl flX3_90 rfl dX3_goes_19 ?_
      refine a_icmp_lt (tgt := 31) X dX3_goes_22 (by decide) (fun z => ?_) (fun z => ?_)
      · have h := h.1 z
        refine a_iload_n X dX3_goes_31 rfl 3 rfl ?_
        refine a_if_eq (tgt := 48) X dX3_goes_32 (by decide) (fun z => ?_) (fun z => ?_)
        · have h := h.1 z
          refine a_aload_n X dX3_goes_48 rfl 1 rfl ?_
          refine a_iconst (v := 0) X dX3_goes_49 ic_0 ?_
          refine a_cVi (As := [.int 0]) (st := []) X fw3 iz_0 (cX3_pass_ok l h) mlX3_74 mvX3_pass (rz rfl) (Nat.le_of_ble_eq_true rfl) rfl dX3_goes_50 (fun r_8 M_7 h => ?_)
          exact a_iret X h dX3_goes_53
        · have h := h.2 z
          refine a_iload_n X dX3_goes_35 rfl 3 rfl ?_
          refine a_aload_n X dX3_goes_36 rfl 0 rfl ?_
          refine a_getR (k := 0) X 5 (b := (n_2 + 5)) fw1 in_2 rfl rfl flX3_87 rfl dX3_goes_37 ?_
          refine a_getI (k := 4) X fw0 in_2.str.2 rfl flX3_90 rfl dX3_goes_40 ?_
          refine a_iconst (v := 1) X dX3_goes_43 ic_1 ?_
          refine a_isub X dX3_goes_44 ?_
          refine a_icmp_ne (tgt := 54) X dX3_goes_45 (by decide) (fun z => ?_) (fun z => ?_)
          · have h := h.1 z
            refine a_aload_n X dX3_goes_54 rfl 0 rfl ?_
            refine a_getI (k := 2) X fw1 in_2 rfl flX3_84 rfl dX3_goes_55 ?_
            refine a_aload_n X dX3_goes_58 rfl 1 rfl ?_
            refine a_getI (k := 3) X fw3 iz_0 rfl flX3_26 rfl dX3_goes_59 ?_
            refine a_cSi (As := [.int (gI M_1 n_2 2), .int (gI M_1 0 3)]) (st := []) X (cX3_boundOf_ok l h) mlX3_93 msX3_boundOf (rz rfl) (Nat.le_of_ble_eq_true rfl) rfl dX3_goes_62 (fun r_10 M_9 h => ?_)
            refine a_istore (lo' := [(4, .int r_10), (3, .ref (al n_2)), (0, .ref (al 0)), (1, .int v1), (2, .int v2)]) X dX3_goes_65 (by decide) rfl ?_
            refine a_aload_n X dX3_goes_67 rfl 1 rfl ?_
            refine a_getR (k := 0) X 5 (b := (n_2 + 5)) fw1 in_2 rfl rfl flX3_87 rfl dX3_goes_68 ?_
            refine a_iload X dX3_goes_71 0 rfl ?_
            refine a_cVv (As := [.int r_10]) (st := []) X fw0 in_2.str.2 (cX0_takeBands_ok l in_2.str.2 h) mlX3_132 mvX0_takeBands (rz rfl) (Nat.le_of_ble_eq_true rfl) rfl dX3_goes_73 (fun M_11 h => ?_)
            refine a_aload_n X dX3_goes_76 rfl 1 rfl ?_
            refine a_getR (k := 0) X 5 (b := (n_2 + 5)) fw1 in_2 rfl rfl flX3_87 rfl dX3_goes_77 ?_
            refine a_iload_n X dX3_goes_80 rfl 4 rfl ?_
            refine a_aload_n X dX3_goes_81 rfl 1 rfl ?_
            refine a_getR (k := 0) X 5 (b := (n_2 + 5)) fw1 in_2 rfl rfl flX3_87 rfl dX3_goes_82 ?_
            refine a_iload_n X dX3_goes_85 rfl 4 rfl ?_
            refine a_cVi (As := [.int v2]) (st := [.int v2, .ref (al (n_2 + 5))]) X fw0 in_2.str.2 (cX0_familyFrom_ok l in_2.str.2 h) mlX3_135 mvX0_familyFrom (rz rfl) (Nat.le_of_ble_eq_true rfl) rfl dX3_goes_86 (fun r_13 M_12 h => ?_)
            refine a_iload_n X dX3_goes_89 rfl 4 rfl ?_
            refine a_iconst (v := 1) X dX3_goes_90 ic_1 ?_
            refine a_iadd X dX3_goes_91 ?_
            refine a_iload X dX3_goes_92 0 rfl ?_
            refine a_cVi (As := [.int v2, .int r_13, .int (v2 + 1), .int r_10]) (st := []) X fw0 in_2.str.2 (cX0_mayGo_ok l in_2.str.2 h) mlX3_138 mvX0_mayGo (rz rfl) (Nat.le_of_ble_eq_true rfl) rfl dX3_goes_94 (fun r_15 M_14 h => ?_)
            refine a_istore (lo' := [(5, .int r_15), (4, .int r_10), (3, .ref (al n_2)), (0, .ref (al 0)), (1, .int v1), (2, .int v2)]) X dX3_goes_97 (by decide) rfl ?_
            refine a_aload_n X dX3_goes_99 rfl 3 rfl ?_
            refine a_iload X dX3_goes_100 0 rfl ?_
            refine a_if_eq (tgt := 109) X dX3_goes_102 (by decide) (fun z => ?_) (fun z => ?_)
            · have h := h.1 z
              refine a_iconst (v := 0) X dX3_goes_109 ic_0 ?_
              refine a_cVi (As := [.int 0]) (st := []) X fw3 iz_0 (cX3_pass_ok l h) mlX3_74 mvX3_pass (rz rfl) (Nat.le_of_ble_eq_true rfl) rfl dX3_goes_110 (fun r_17 M_16 h => ?_)
              exact a_iret X h dX3_goes_113
            · have h := h.2 z
              refine a_iconst (v := 1) X dX3_goes_105 ic_1 ?_
              refine a_goto (tgt := 110) X dX3_goes_106 (by decide) ?_
              refine a_cVi (As := [.int 1]) (st := []) X fw3 iz_0 (cX3_pass_ok l h) mlX3_74 mvX3_pass (rz rfl) (Nat.le_of_ble_eq_true rfl) rfl dX3_goes_110 (fun r_19 M_18 h => ?_)
              exact a_iret X h dX3_goes_113
          · have h := h.2 z
            refine a_aload_n X dX3_goes_48 rfl 1 rfl ?_
            refine a_iconst (v := 0) X dX3_goes_49 ic_0 ?_
            refine a_cVi (As := [.int 0]) (st := []) X fw3 iz_0 (cX3_pass_ok l h) mlX3_74 mvX3_pass (rz rfl) (Nat.le_of_ble_eq_true rfl) rfl dX3_goes_50 (fun r_21 M_20 h => ?_)
            exact a_iret X h dX3_goes_53
      · have h := h.2 z
        refine a_aload_n X dX3_goes_25 rfl 1 rfl ?_
        refine a_iconst (v := 1) X dX3_goes_26 ic_1 ?_
        refine a_cVi (As := [.int 1]) (st := []) X fw3 iz_0 (cX3_refuse_ok l h) mlX3_58 mvX3_refuse (rz rfl) (Nat.le_of_ble_eq_true rfl) rfl dX3_goes_27 (fun r_23 M_22 h => ?_)
        exact a_iret X h dX3_goes_30
abbrev rm_X3_band : Room := { frames := 1, cells := 0, slots := 0, locals := 22 }
def wpX3_band (M : Mem) (v1 : Int32) (v2 : Int32) (Q : Int32 → Mem → Prop) : Prop := ((v1 < 0 → wpX3_refuse M 2 (fun r_2 M_1 => Q r_2 M_1)) ∧ (¬ v1 < 0 → ((1000 ≤ v1 → wpX3_refuse M 2 (fun r_4 M_3 => Q r_4 M_3)) ∧ (¬ 1000 ≤ v1 → ((v2 < 1 → wpX3_refuse M 2 (fun r_6 M_5 => Q r_6 M_5)) ∧ (¬ v2 < 1 → ((v2 ≤ 1000 → wpX3_bandOf M v1 v2 (fun r_8 M_7 => wpX3_pass M_7 r_8 (fun r_10 M_9 => Q r_10 M_9))) ∧ (¬ v2 ≤ 1000 → wpX3_refuse M 2 (fun r_12 M_11 => Q r_12 M_11)))))))))
set_option maxHeartbeats 4000000 in
set_option maxRecDepth 100000 in
theorem cX3_band_ok (l : Launch) {G : Gl} {al : Nat → Nat} {mk : Nat} {M : Mem} {v1 : Int32} {v2 : Int32} {Q : Int32 → Mem → Prop} (h : wpX3_band M v1 v2 Q) : Kv l yX3_band cX3_band 3 (some .int) rm_X3_band G al mk M [.ref (al 0), .int v1, .int v2] (QI G al mk Q) := by
  refine a_head (by decide) (Nat.le_of_ble_eq_true rfl) (fun p e s m below meth c X => ?_)
  have X : Cx p s m meth c G RX3 cX3_band 3 (some .int) := X
  unfold wpX3_band at h
  refine a_sub (ks := [0, 1, 2]) (lo' := [(0, .ref (al 0)), (1, .int v1), (2, .int v2)]) rfl ?_
  refine a_iload_n X dX3_band_0 rfl 1 rfl ?_
  refine a_if_lt (tgt := 23) X dX3_band_1 (by decide) (fun z => ?_) (fun z => ?_)
  · have h := h.1 z
    refine a_aload_n X dX3_band_23 rfl 0 rfl ?_
    refine a_iconst (v := 2) X dX3_band_24 ic_2 ?_
    refine a_cVi (As := [.int 2]) (st := []) X fw3 iz_0 (cX3_refuse_ok l h) mlX3_58 mvX3_refuse (rz rfl) (Nat.le_of_ble_eq_true rfl) rfl dX3_band_25 (fun r_2 M_1 h => ?_)
    exact a_iret X h dX3_band_28
  · have h := h.2 z
    refine a_iload_n X dX3_band_4 rfl 1 rfl ?_
    refine a_sipush (v := 1000) X dX3_band_5 sc_1000 ?_
    refine a_icmp_ge (tgt := 23) X dX3_band_8 (by decide) (fun z => ?_) (fun z => ?_)
    · have h := h.1 z
      refine a_aload_n X dX3_band_23 rfl 0 rfl ?_
      refine a_iconst (v := 2) X dX3_band_24 ic_2 ?_
      refine a_cVi (As := [.int 2]) (st := []) X fw3 iz_0 (cX3_refuse_ok l h) mlX3_58 mvX3_refuse (rz rfl) (Nat.le_of_ble_eq_true rfl) rfl dX3_band_25 (fun r_4 M_3 h => ?_)
      exact a_iret X h dX3_band_28
    · have h := h.2 z
      refine a_iload_n X dX3_band_11 rfl 2 rfl ?_
      refine a_iconst (v := 1) X dX3_band_12 ic_1 ?_
      refine a_icmp_lt (tgt := 23) X dX3_band_13 (by decide) (fun z => ?_) (fun z => ?_)
      · have h := h.1 z
        refine a_aload_n X dX3_band_23 rfl 0 rfl ?_
        refine a_iconst (v := 2) X dX3_band_24 ic_2 ?_
        refine a_cVi (As := [.int 2]) (st := []) X fw3 iz_0 (cX3_refuse_ok l h) mlX3_58 mvX3_refuse (rz rfl) (Nat.le_of_ble_eq_true rfl) rfl dX3_band_25 (fun r_6 M_5 h => ?_)
        exact a_iret X h dX3_band_28
      · have h := h.2 z
        refine a_iload_n X dX3_band_16 rfl 2 rfl ?_
        refine a_sipush (v := 1000) X dX3_band_17 sc_1000 ?_
        refine a_icmp_le (tgt := 29) X dX3_band_20 (by decide) (fun z => ?_) (fun z => ?_)
        · have h := h.1 z
          refine a_aload_n X dX3_band_29 rfl 0 rfl ?_
          refine a_iload_n X dX3_band_30 rfl 1 rfl ?_
          refine a_iload_n X dX3_band_31 rfl 2 rfl ?_
          refine a_cSi (As := [.int v1, .int v2]) (st := [.ref (al 0)]) X (cX3_bandOf_ok l h) mlX3_129 msX3_bandOf (rz rfl) (Nat.le_of_ble_eq_true rfl) rfl dX3_band_32 (fun r_8 M_7 h => ?_)
          refine a_cVi (As := [.int r_8]) (st := []) X fw3 iz_0 (cX3_pass_ok l h) mlX3_74 mvX3_pass (rz rfl) (Nat.le_of_ble_eq_true rfl) rfl dX3_band_35 (fun r_10 M_9 h => ?_)
          exact a_iret X h dX3_band_38
        · have h := h.2 z
          refine a_aload_n X dX3_band_23 rfl 0 rfl ?_
          refine a_iconst (v := 2) X dX3_band_24 ic_2 ?_
          refine a_cVi (As := [.int 2]) (st := []) X fw3 iz_0 (cX3_refuse_ok l h) mlX3_58 mvX3_refuse (rz rfl) (Nat.le_of_ble_eq_true rfl) rfl dX3_band_25 (fun r_12 M_11 h => ?_)
          exact a_iret X h dX3_band_28
abbrev rm_X3_check : Room := { frames := 4, cells := 0, slots := 0, locals := 87 }
def wpX3_check (mk : Nat) (M : Mem) (v1 : Int32) (Q : Int32 → Mem → Prop) : Prop := wpX3_find mk M v1 (fun o M_1 => (o = none → wpX3_refuse M_1 1 (fun r_4 M_3 => Q r_4 M_3)) ∧ (∀ n_2 : Nat, o = some n_2 → wpX3_boundOf M_1 (gI M_1 n_2 2) (gI M_1 0 3) (fun r_6 M_5 => wpX0_firstWrong M_5 (n_2 + 5) (gI M_1 n_2 2) r_6 (fun r_8 M_7 => wpX3_pass M_7 r_8 (fun r_10 M_9 => Q r_10 M_9)))))
set_option maxHeartbeats 4000000 in
set_option maxRecDepth 100000 in
theorem cX3_check_ok (l : Launch) {G : Gl} {al : Nat → Nat} {mk : Nat} {M : Mem} {v1 : Int32} {Q : Int32 → Mem → Prop} (h : wpX3_check mk M v1 Q) : Kv l yX3_check cX3_check 3 (some .int) rm_X3_check G al mk M [.ref (al 0), .int v1] (QI G al mk Q) := by
  refine a_head (by decide) (Nat.le_of_ble_eq_true rfl) (fun p e s m below meth c X => ?_)
  have X : Cx p s m meth c G RX3 cX3_check 3 (some .int) := X
  unfold wpX3_check at h
  refine a_sub (ks := [0, 1]) (lo' := [(0, .ref (al 0)), (1, .int v1)]) rfl ?_
  refine a_aload_n X dX3_check_0 rfl 0 rfl ?_
  refine a_iload_n X dX3_check_1 rfl 1 rfl ?_
  refine a_cVq (As := [.int v1]) (st := []) X fw3 iz_0 (cX3_find_ok l h) mlX3_80 mvX3_find (rz rfl) (Nat.le_of_ble_eq_true rfl) rfl dX3_check_2 (fun M_1 h => ?_) (fun n_2 M_1 in_2 h => ?_)
  · have h := h.1 rfl
    refine a_astore_nN (lo' := [(2, .null), (0, .ref (al 0)), (1, .int v1)]) X dX3_check_5 rfl (by decide) rfl ?_
    refine a_aload_nN X dX3_check_6 rfl 0 rfl ?_
    refine a_ifnonnullN X dX3_check_7 ?_
    refine a_aload_n X dX3_check_10 rfl 1 rfl ?_
    refine a_iconst (v := 1) X dX3_check_11 ic_1 ?_
    refine a_cVi (As := [.int 1]) (st := []) X fw3 iz_0 (cX3_refuse_ok l h) mlX3_58 mvX3_refuse (rz rfl) (Nat.le_of_ble_eq_true rfl) rfl dX3_check_12 (fun r_4 M_3 h => ?_)
    exact a_iret X h dX3_check_15
  · have h := h.2 n_2 rfl
    refine a_astore_n (lo' := [(2, .ref (al n_2)), (0, .ref (al 0)), (1, .int v1)]) X dX3_check_5 rfl (by decide) rfl ?_
    refine a_aload_n X dX3_check_6 rfl 0 rfl ?_
    refine a_ifnonnull (tgt := 16) X dX3_check_7 (by decide) ?_
    refine a_aload_n X dX3_check_16 rfl 1 rfl ?_
    refine a_aload_n X dX3_check_17 rfl 0 rfl ?_
    refine a_getR (k := 0) X 5 (b := (n_2 + 5)) fw1 in_2 rfl rfl flX3_87 rfl dX3_check_18 ?_
    refine a_aload_n X dX3_check_21 rfl 0 rfl ?_
    refine a_getI (k := 2) X fw1 in_2 rfl flX3_84 rfl dX3_check_22 ?_
    refine a_aload_n X dX3_check_25 rfl 0 rfl ?_
    refine a_getI (k := 2) X fw1 in_2 rfl flX3_84 rfl dX3_check_26 ?_
    refine a_aload_n X dX3_check_29 rfl 1 rfl ?_
    refine a_getI (k := 3) X fw3 iz_0 rfl flX3_26 rfl dX3_check_30 ?_
    refine a_cSi (As := [.int (gI M_1 n_2 2), .int (gI M_1 0 3)]) (st := [.int (gI M_1 n_2 2), .ref (al (n_2 + 5)), .ref (al 0)]) X (cX3_boundOf_ok l h) mlX3_93 msX3_boundOf (rz rfl) (Nat.le_of_ble_eq_true rfl) rfl dX3_check_33 (fun r_6 M_5 h => ?_)
    refine a_cVi (As := [.int (gI M_1 n_2 2), .int r_6]) (st := [.ref (al 0)]) X fw0 in_2.str.2 (cX0_firstWrong_ok l in_2.str.2 h) mlX3_142 mvX0_firstWrong (rz rfl) (Nat.le_of_ble_eq_true rfl) rfl dX3_check_36 (fun r_8 M_7 h => ?_)
    refine a_cVi (As := [.int r_8]) (st := []) X fw3 iz_0 (cX3_pass_ok l h) mlX3_74 mvX3_pass (rz rfl) (Nat.le_of_ble_eq_true rfl) rfl dX3_check_39 (fun r_10 M_9 h => ?_)
    exact a_iret X h dX3_check_42
abbrev rm_X3_answer : Room := { frames := 3, cells := 0, slots := 0, locals := 69 }
def wpX3_answer (mk : Nat) (M : Mem) (v1 : Int32) (v2 : Int32) (v3 : Int32) (Q : Int32 → Mem → Prop) : Prop := wpX3_find mk M v1 (fun o M_1 => (o = none → wpX3_refuse M_1 1 (fun r_4 M_3 => Q r_4 M_3)) ∧ (∀ n_2 : Nat, o = some n_2 → ((v3 < 0 → wpX3_refuse M_1 1 (fun r_6 M_5 => Q r_6 M_5)) ∧ (¬ v3 < 0 → ((v3 ≤ 2 → wpX3_isPlace M_1 n_2 v2 (fun r_8 M_7 => ((¬ r_8 = 0 → wpX0_nearest M_7 (n_2 + 5) v2 0 (fun r_10 M_9 => ((¬ v3 = 2 → ((¬ v3 = 0 → wpX0_offBy M_9 (n_2 + 5) r_10 v2 (fun r_12 M_11 => wpX3_pass M_11 r_12 (fun r_14 M_13 => Q r_14 M_13))) ∧ (v3 = 0 → (vp_in r_10 1000 ∧ wpX3_pass M_9 (gI M_9 ((n_2 + 5) + 1) (Int32.toNatClampNeg r_10)) (fun r_16 M_15 => Q r_16 M_15))))) ∧ (v3 = 2 → wpX3_pass M_9 r_10 (fun r_18 M_17 => Q r_18 M_17))))) ∧ (r_8 = 0 → wpX3_refuse M_7 2 (fun r_20 M_19 => Q r_20 M_19))))) ∧ (¬ v3 ≤ 2 → wpX3_refuse M_1 1 (fun r_22 M_21 => Q r_22 M_21)))))))
set_option maxHeartbeats 4000000 in
set_option maxRecDepth 100000 in
theorem cX3_answer_ok (l : Launch) {G : Gl} {al : Nat → Nat} {mk : Nat} {M : Mem} {v1 : Int32} {v2 : Int32} {v3 : Int32} {Q : Int32 → Mem → Prop} (h : wpX3_answer mk M v1 v2 v3 Q) : Kv l yX3_answer cX3_answer 6 (some .int) rm_X3_answer G al mk M [.ref (al 0), .int v1, .int v2, .int v3] (QI G al mk Q) := by
  refine a_head (by decide) (Nat.le_of_ble_eq_true rfl) (fun p e s m below meth c X => ?_)
  have X : Cx p s m meth c G RX3 cX3_answer 6 (some .int) := X
  unfold wpX3_answer at h
  refine a_sub (ks := [0, 1, 2, 3]) (lo' := [(0, .ref (al 0)), (1, .int v1), (2, .int v2), (3, .int v3)]) rfl ?_
  refine a_aload_n X dX3_answer_0 rfl 0 rfl ?_
  refine a_iload_n X dX3_answer_1 rfl 1 rfl ?_
  refine a_cVq (As := [.int v1]) (st := []) X fw3 iz_0 (cX3_find_ok l h) mlX3_80 mvX3_find (rz rfl) (Nat.le_of_ble_eq_true rfl) rfl dX3_answer_2 (fun M_1 h => ?_) (fun n_2 M_1 in_2 h => ?_)
  · have h := h.1 rfl
    refine a_astoreN (lo' := [(4, .null), (0, .ref (al 0)), (1, .int v1), (2, .int v2), (3, .int v3)]) X dX3_answer_5 (by decide) rfl ?_
    refine a_aloadN X dX3_answer_7 0 rfl ?_
    refine a_ifnullN (tgt := 21) X dX3_answer_9 (by decide) ?_
    refine a_aload_n X dX3_answer_21 rfl 1 rfl ?_
    refine a_iconst (v := 1) X dX3_answer_22 ic_1 ?_
    refine a_cVi (As := [.int 1]) (st := []) X fw3 iz_0 (cX3_refuse_ok l h) mlX3_58 mvX3_refuse (rz rfl) (Nat.le_of_ble_eq_true rfl) rfl dX3_answer_23 (fun r_4 M_3 h => ?_)
    exact a_iret X h dX3_answer_26
  · have h := h.2 n_2 rfl
    refine a_astore (lo' := [(4, .ref (al n_2)), (0, .ref (al 0)), (1, .int v1), (2, .int v2), (3, .int v3)]) X dX3_answer_5 (by decide) rfl ?_
    refine a_aload X dX3_answer_7 0 rfl ?_
    refine a_ifnull X dX3_answer_9 ?_
    refine a_iload_n X dX3_answer_12 rfl 4 rfl ?_
    refine a_if_lt (tgt := 21) X dX3_answer_13 (by decide) (fun z => ?_) (fun z => ?_)
    · have h := h.1 z
      refine a_aload_n X dX3_answer_21 rfl 1 rfl ?_
      refine a_iconst (v := 1) X dX3_answer_22 ic_1 ?_
      refine a_cVi (As := [.int 1]) (st := []) X fw3 iz_0 (cX3_refuse_ok l h) mlX3_58 mvX3_refuse (rz rfl) (Nat.le_of_ble_eq_true rfl) rfl dX3_answer_23 (fun r_6 M_5 h => ?_)
      exact a_iret X h dX3_answer_26
    · have h := h.2 z
      refine a_iload_n X dX3_answer_16 rfl 4 rfl ?_
      refine a_iconst (v := 2) X dX3_answer_17 ic_2 ?_
      refine a_icmp_le (tgt := 27) X dX3_answer_18 (by decide) (fun z => ?_) (fun z => ?_)
      · have h := h.1 z
        refine a_aload X dX3_answer_27 0 rfl ?_
        refine a_iload_n X dX3_answer_29 rfl 3 rfl ?_
        refine a_cSi (As := [.ref (al n_2), .int v2]) (st := []) X (cX3_isPlace_ok l in_2 h) mlX3_145 msX3_isPlace (rz rfl) (Nat.le_of_ble_eq_true rfl) rfl dX3_answer_30 (fun r_8 M_7 h => ?_)
        refine a_if_ne (tgt := 42) X dX3_answer_33 (by decide) (fun z => ?_) (fun z => ?_)
        · have h := h.1 z
          refine a_aload X dX3_answer_42 0 rfl ?_
          refine a_getR (k := 0) X 5 (b := (n_2 + 5)) fw1 in_2 rfl rfl flX3_87 rfl dX3_answer_44 ?_
          refine a_iload_n X dX3_answer_47 rfl 3 rfl ?_
          refine a_iconst (v := 0) X dX3_answer_48 ic_0 ?_
          refine a_cVi (As := [.int v2, .int 0]) (st := []) X fw0 in_2.str.2 (cX0_nearest_ok l in_2.str.2 h) mlX3_149 mvX0_nearest (rz rfl) (Nat.le_of_ble_eq_true rfl) rfl dX3_answer_49 (fun r_10 M_9 h => ?_)
          refine a_istore (lo' := [(5, .int r_10), (4, .ref (al n_2)), (0, .ref (al 0)), (1, .int v1), (2, .int v2), (3, .int v3)]) X dX3_answer_52 (by decide) rfl ?_
          refine a_iload_n X dX3_answer_54 rfl 5 rfl ?_
          refine a_iconst (v := 2) X dX3_answer_55 ic_2 ?_
          refine a_icmp_ne (tgt := 66) X dX3_answer_56 (by decide) (fun z => ?_) (fun z => ?_)
          · have h := h.1 z
            refine a_aload_n X dX3_answer_66 rfl 2 rfl ?_
            refine a_iload_n X dX3_answer_67 rfl 5 rfl ?_
            refine a_if_ne (tgt := 85) X dX3_answer_68 (by decide) (fun z => ?_) (fun z => ?_)
            · have h := h.1 z
              refine a_aload X dX3_answer_85 1 rfl ?_
              refine a_getR (k := 0) X 5 (b := (n_2 + 5)) fw1 in_2 rfl rfl flX3_87 rfl dX3_answer_87 ?_
              refine a_iload X dX3_answer_90 0 rfl ?_
              refine a_iload_n X dX3_answer_92 rfl 4 rfl ?_
              refine a_cVi (As := [.int r_10, .int v2]) (st := [.ref (al 0)]) X fw0 in_2.str.2 (cX0_offBy_ok l in_2.str.2 h) mlX3_152 mvX0_offBy (rz rfl) (Nat.le_of_ble_eq_true rfl) rfl dX3_answer_93 (fun r_12 M_11 h => ?_)
              refine a_cVi (As := [.int r_12]) (st := []) X fw3 iz_0 (cX3_pass_ok l h) mlX3_74 mvX3_pass (rz rfl) (Nat.le_of_ble_eq_true rfl) rfl dX3_answer_96 (fun r_14 M_13 h => ?_)
              exact a_iret X h dX3_answer_99
            · have h := h.2 z
              refine a_aload X dX3_answer_71 1 rfl ?_
              refine a_getR (k := 0) X 5 (b := (n_2 + 5)) fw1 in_2 rfl rfl flX3_87 rfl dX3_answer_73 ?_
              refine a_getR (k := 0) X 1 (b := ((n_2 + 5) + 1)) fw0 in_2.str.2 rfl rfl flX3_106 rfl dX3_answer_76 ?_
              refine a_iload X dX3_answer_79 0 rfl ?_
              refine a_iald X in_2.str.2.row.1 h.1 dX3_answer_81 ?_
              have h := h.2
              refine a_goto (tgt := 96) X dX3_answer_82 (by decide) ?_
              refine a_cVi (As := [.int (gI M_9 ((n_2 + 5) + 1) (Int32.toNatClampNeg r_10))]) (st := []) X fw3 iz_0 (cX3_pass_ok l h) mlX3_74 mvX3_pass (rz rfl) (Nat.le_of_ble_eq_true rfl) rfl dX3_answer_96 (fun r_16 M_15 h => ?_)
              exact a_iret X h dX3_answer_99
          · have h := h.2 z
            refine a_aload_n X dX3_answer_59 rfl 2 rfl ?_
            refine a_iload X dX3_answer_60 0 rfl ?_
            refine a_cVi (As := [.int r_10]) (st := []) X fw3 iz_0 (cX3_pass_ok l h) mlX3_74 mvX3_pass (rz rfl) (Nat.le_of_ble_eq_true rfl) rfl dX3_answer_62 (fun r_18 M_17 h => ?_)
            exact a_iret X h dX3_answer_65
        · have h := h.2 z
          refine a_aload_n X dX3_answer_36 rfl 1 rfl ?_
          refine a_iconst (v := 2) X dX3_answer_37 ic_2 ?_
          refine a_cVi (As := [.int 2]) (st := []) X fw3 iz_0 (cX3_refuse_ok l h) mlX3_58 mvX3_refuse (rz rfl) (Nat.le_of_ble_eq_true rfl) rfl dX3_answer_38 (fun r_20 M_19 h => ?_)
          exact a_iret X h dX3_answer_41
      · have h := h.2 z
        refine a_aload_n X dX3_answer_21 rfl 1 rfl ?_
        refine a_iconst (v := 1) X dX3_answer_22 ic_1 ?_
        refine a_cVi (As := [.int 1]) (st := []) X fw3 iz_0 (cX3_refuse_ok l h) mlX3_58 mvX3_refuse (rz rfl) (Nat.le_of_ble_eq_true rfl) rfl dX3_answer_23 (fun r_22 M_21 h => ?_)
        exact a_iret X h dX3_answer_26
abbrev rm_X3_quota : Room := { frames := 3, cells := 0, slots := 0, locals := 69 }
def wpX3_quota (mk : Nat) (M : Mem) (v1 : Int32) (v2 : Int32) (v3 : Int32) (v4 : Int32) (Q : Int32 → Mem → Prop) : Prop := wpX3_find mk M v1 (fun o M_1 => (o = none → wpX3_refuse M_1 1 (fun r_4 M_3 => Q r_4 M_3)) ∧ (∀ n_2 : Nat, o = some n_2 → ((v4 < 0 → wpX3_refuse M_1 1 (fun r_6 M_5 => Q r_6 M_5)) ∧ (¬ v4 < 0 → ((v4 ≤ 2 → wpX3_isShare M_1 v3 (fun r_8 M_7 => ((r_8 = 0 → wpX3_refuse M_7 2 (fun r_10 M_9 => Q r_10 M_9)) ∧ (¬ r_8 = 0 → ((v2 < 0 → wpX3_refuse M_7 2 (fun r_12 M_11 => Q r_12 M_11)) ∧ (¬ v2 < 0 → ((v2 ≤ v3 → ((¬ (gI M_7 n_2 2) = 0 → wpX1_quotaPlace M_7 n_2 v2 v3 (fun r_14 M_13 => ((¬ v4 = 2 → wpX0_nearest M_13 (n_2 + 5) r_14 0 (fun r_16 M_15 => ((¬ v4 = 0 → wpX0_offBy M_15 (n_2 + 5) r_16 r_14 (fun r_18 M_17 => wpX3_pass M_17 r_18 (fun r_20 M_19 => Q r_20 M_19))) ∧ (v4 = 0 → (vp_in r_16 1000 ∧ wpX3_pass M_15 (gI M_15 ((n_2 + 5) + 1) (Int32.toNatClampNeg r_16)) (fun r_22 M_21 => Q r_22 M_21)))))) ∧ (v4 = 2 → wpX3_pass M_13 r_14 (fun r_24 M_23 => Q r_24 M_23))))) ∧ ((gI M_7 n_2 2) = 0 → wpX3_refuse M_7 5 (fun r_26 M_25 => Q r_26 M_25)))) ∧ (¬ v2 ≤ v3 → wpX3_refuse M_7 2 (fun r_28 M_27 => Q r_28 M_27))))))))) ∧ (¬ v4 ≤ 2 → wpX3_refuse M_1 1 (fun r_30 M_29 => Q r_30 M_29)))))))
set_option maxHeartbeats 4000000 in
set_option maxRecDepth 100000 in
theorem cX3_quota_ok (l : Launch) {G : Gl} {al : Nat → Nat} {mk : Nat} {M : Mem} {v1 : Int32} {v2 : Int32} {v3 : Int32} {v4 : Int32} {Q : Int32 → Mem → Prop} (h : wpX3_quota mk M v1 v2 v3 v4 Q) : Kv l yX3_quota cX3_quota 8 (some .int) rm_X3_quota G al mk M [.ref (al 0), .int v1, .int v2, .int v3, .int v4] (QI G al mk Q) := by
  refine a_head (by decide) (Nat.le_of_ble_eq_true rfl) (fun p e s m below meth c X => ?_)
  have X : Cx p s m meth c G RX3 cX3_quota 8 (some .int) := X
  unfold wpX3_quota at h
  refine a_sub (ks := [0, 1, 2, 3, 4]) (lo' := [(0, .ref (al 0)), (1, .int v1), (2, .int v2), (3, .int v3), (4, .int v4)]) rfl ?_
  refine a_aload_n X dX3_quota_0 rfl 0 rfl ?_
  refine a_iload_n X dX3_quota_1 rfl 1 rfl ?_
  refine a_cVq (As := [.int v1]) (st := []) X fw3 iz_0 (cX3_find_ok l h) mlX3_80 mvX3_find (rz rfl) (Nat.le_of_ble_eq_true rfl) rfl dX3_quota_2 (fun M_1 h => ?_) (fun n_2 M_1 in_2 h => ?_)
  · have h := h.1 rfl
    refine a_astoreN (lo' := [(5, .null), (0, .ref (al 0)), (1, .int v1), (2, .int v2), (3, .int v3), (4, .int v4)]) X dX3_quota_5 (by decide) rfl ?_
    refine a_aloadN X dX3_quota_7 0 rfl ?_
    refine a_ifnullN (tgt := 23) X dX3_quota_9 (by decide) ?_
    refine a_aload_n X dX3_quota_23 rfl 1 rfl ?_
    refine a_iconst (v := 1) X dX3_quota_24 ic_1 ?_
    refine a_cVi (As := [.int 1]) (st := []) X fw3 iz_0 (cX3_refuse_ok l h) mlX3_58 mvX3_refuse (rz rfl) (Nat.le_of_ble_eq_true rfl) rfl dX3_quota_25 (fun r_4 M_3 h => ?_)
    exact a_iret X h dX3_quota_28
  · have h := h.2 n_2 rfl
    refine a_astore (lo' := [(5, .ref (al n_2)), (0, .ref (al 0)), (1, .int v1), (2, .int v2), (3, .int v3), (4, .int v4)]) X dX3_quota_5 (by decide) rfl ?_
    refine a_aload X dX3_quota_7 0 rfl ?_
    refine a_ifnull X dX3_quota_9 ?_
    refine a_iload X dX3_quota_12 5 rfl ?_
    refine a_if_lt (tgt := 23) X dX3_quota_14 (by decide) (fun z => ?_) (fun z => ?_)
    · have h := h.1 z
      refine a_aload_n X dX3_quota_23 rfl 1 rfl ?_
      refine a_iconst (v := 1) X dX3_quota_24 ic_1 ?_
      refine a_cVi (As := [.int 1]) (st := []) X fw3 iz_0 (cX3_refuse_ok l h) mlX3_58 mvX3_refuse (rz rfl) (Nat.le_of_ble_eq_true rfl) rfl dX3_quota_25 (fun r_6 M_5 h => ?_)
      exact a_iret X h dX3_quota_28
    · have h := h.2 z
      refine a_iload X dX3_quota_17 5 rfl ?_
      refine a_iconst (v := 2) X dX3_quota_19 ic_2 ?_
      refine a_icmp_le (tgt := 29) X dX3_quota_20 (by decide) (fun z => ?_) (fun z => ?_)
      · have h := h.1 z
        refine a_iload_n X dX3_quota_29 rfl 4 rfl ?_
        refine a_cSi (As := [.int v3]) (st := []) X (cX3_isShare_ok l h) mlX3_155 msX3_isShare (rz rfl) (Nat.le_of_ble_eq_true rfl) rfl dX3_quota_30 (fun r_8 M_7 h => ?_)
        refine a_if_eq (tgt := 45) X dX3_quota_33 (by decide) (fun z => ?_) (fun z => ?_)
        · have h := h.1 z
          refine a_aload_n X dX3_quota_45 rfl 1 rfl ?_
          refine a_iconst (v := 2) X dX3_quota_46 ic_2 ?_
          refine a_cVi (As := [.int 2]) (st := []) X fw3 iz_0 (cX3_refuse_ok l h) mlX3_58 mvX3_refuse (rz rfl) (Nat.le_of_ble_eq_true rfl) rfl dX3_quota_47 (fun r_10 M_9 h => ?_)
          exact a_iret X h dX3_quota_50
        · have h := h.2 z
          refine a_iload_n X dX3_quota_36 rfl 3 rfl ?_
          refine a_if_lt (tgt := 45) X dX3_quota_37 (by decide) (fun z => ?_) (fun z => ?_)
          · have h := h.1 z
            refine a_aload_n X dX3_quota_45 rfl 1 rfl ?_
            refine a_iconst (v := 2) X dX3_quota_46 ic_2 ?_
            refine a_cVi (As := [.int 2]) (st := []) X fw3 iz_0 (cX3_refuse_ok l h) mlX3_58 mvX3_refuse (rz rfl) (Nat.le_of_ble_eq_true rfl) rfl dX3_quota_47 (fun r_12 M_11 h => ?_)
            exact a_iret X h dX3_quota_50
          · have h := h.2 z
            refine a_iload_n X dX3_quota_40 rfl 3 rfl ?_
            refine a_iload_n X dX3_quota_41 rfl 4 rfl ?_
            refine a_icmp_le (tgt := 51) X dX3_quota_42 (by decide) (fun z => ?_) (fun z => ?_)
            · have h := h.1 z
              refine a_aload X dX3_quota_51 0 rfl ?_
              refine a_getI (k := 2) X fw1 in_2 rfl flX3_84 rfl dX3_quota_53 ?_
              refine a_if_ne (tgt := 65) X dX3_quota_56 (by decide) (fun z => ?_) (fun z => ?_)
              · have h := h.1 z
                refine a_aload X dX3_quota_65 0 rfl ?_
                refine a_iload_n X dX3_quota_67 rfl 3 rfl ?_
                refine a_iload_n X dX3_quota_68 rfl 4 rfl ?_
                refine a_cVi (As := [.int v2, .int v3]) (st := []) X fw1 in_2 (cX1_quotaPlace_ok l in_2 h) mlX3_159 mvX1_quotaPlace (rz rfl) (Nat.le_of_ble_eq_true rfl) rfl dX3_quota_69 (fun r_14 M_13 h => ?_)
                refine a_istore (lo' := [(6, .int r_14), (5, .ref (al n_2)), (0, .ref (al 0)), (1, .int v1), (2, .int v2), (3, .int v3), (4, .int v4)]) X dX3_quota_72 (by decide) rfl ?_
                refine a_iload X dX3_quota_74 6 rfl ?_
                refine a_iconst (v := 2) X dX3_quota_76 ic_2 ?_
                refine a_icmp_ne (tgt := 87) X dX3_quota_77 (by decide) (fun z => ?_) (fun z => ?_)
                · have h := h.1 z
                  refine a_aload X dX3_quota_87 1 rfl ?_
                  refine a_getR (k := 0) X 5 (b := (n_2 + 5)) fw1 in_2 rfl rfl flX3_87 rfl dX3_quota_89 ?_
                  refine a_iload X dX3_quota_92 0 rfl ?_
                  refine a_iconst (v := 0) X dX3_quota_94 ic_0 ?_
                  refine a_cVi (As := [.int r_14, .int 0]) (st := []) X fw0 in_2.str.2 (cX0_nearest_ok l in_2.str.2 h) mlX3_149 mvX0_nearest (rz rfl) (Nat.le_of_ble_eq_true rfl) rfl dX3_quota_95 (fun r_16 M_15 h => ?_)
                  refine a_istore (lo' := [(7, .int r_16), (6, .int r_14), (5, .ref (al n_2)), (0, .ref (al 0)), (1, .int v1), (2, .int v2), (3, .int v3), (4, .int v4)]) X dX3_quota_98 (by decide) rfl ?_
                  refine a_aload_n X dX3_quota_100 rfl 3 rfl ?_
                  refine a_iload X dX3_quota_101 7 rfl ?_
                  refine a_if_ne (tgt := 120) X dX3_quota_103 (by decide) (fun z => ?_) (fun z => ?_)
                  · have h := h.1 z
                    refine a_aload X dX3_quota_120 2 rfl ?_
                    refine a_getR (k := 0) X 5 (b := (n_2 + 5)) fw1 in_2 rfl rfl flX3_87 rfl dX3_quota_122 ?_
                    refine a_iload X dX3_quota_125 0 rfl ?_
                    refine a_iload X dX3_quota_127 1 rfl ?_
                    refine a_cVi (As := [.int r_16, .int r_14]) (st := [.ref (al 0)]) X fw0 in_2.str.2 (cX0_offBy_ok l in_2.str.2 h) mlX3_152 mvX0_offBy (rz rfl) (Nat.le_of_ble_eq_true rfl) rfl dX3_quota_129 (fun r_18 M_17 h => ?_)
                    refine a_cVi (As := [.int r_18]) (st := []) X fw3 iz_0 (cX3_pass_ok l h) mlX3_74 mvX3_pass (rz rfl) (Nat.le_of_ble_eq_true rfl) rfl dX3_quota_132 (fun r_20 M_19 h => ?_)
                    exact a_iret X h dX3_quota_135
                  · have h := h.2 z
                    refine a_aload X dX3_quota_106 2 rfl ?_
                    refine a_getR (k := 0) X 5 (b := (n_2 + 5)) fw1 in_2 rfl rfl flX3_87 rfl dX3_quota_108 ?_
                    refine a_getR (k := 0) X 1 (b := ((n_2 + 5) + 1)) fw0 in_2.str.2 rfl rfl flX3_106 rfl dX3_quota_111 ?_
                    refine a_iload X dX3_quota_114 0 rfl ?_
                    refine a_iald X in_2.str.2.row.1 h.1 dX3_quota_116 ?_
                    have h := h.2
                    refine a_goto (tgt := 132) X dX3_quota_117 (by decide) ?_
                    refine a_cVi (As := [.int (gI M_15 ((n_2 + 5) + 1) (Int32.toNatClampNeg r_16))]) (st := []) X fw3 iz_0 (cX3_pass_ok l h) mlX3_74 mvX3_pass (rz rfl) (Nat.le_of_ble_eq_true rfl) rfl dX3_quota_132 (fun r_22 M_21 h => ?_)
                    exact a_iret X h dX3_quota_135
                · have h := h.2 z
                  refine a_aload_n X dX3_quota_80 rfl 2 rfl ?_
                  refine a_iload X dX3_quota_81 0 rfl ?_
                  refine a_cVi (As := [.int r_14]) (st := []) X fw3 iz_0 (cX3_pass_ok l h) mlX3_74 mvX3_pass (rz rfl) (Nat.le_of_ble_eq_true rfl) rfl dX3_quota_83 (fun r_24 M_23 h => ?_)
                  exact a_iret X h dX3_quota_86
              · have h := h.2 z
                refine a_aload_n X dX3_quota_59 rfl 1 rfl ?_
                refine a_iconst (v := 5) X dX3_quota_60 ic_5 ?_
                refine a_cVi (As := [.int 5]) (st := []) X fw3 iz_0 (cX3_refuse_ok l h) mlX3_58 mvX3_refuse (rz rfl) (Nat.le_of_ble_eq_true rfl) rfl dX3_quota_61 (fun r_26 M_25 h => ?_)
                exact a_iret X h dX3_quota_64
            · have h := h.2 z
              refine a_aload_n X dX3_quota_45 rfl 1 rfl ?_
              refine a_iconst (v := 2) X dX3_quota_46 ic_2 ?_
              refine a_cVi (As := [.int 2]) (st := []) X fw3 iz_0 (cX3_refuse_ok l h) mlX3_58 mvX3_refuse (rz rfl) (Nat.le_of_ble_eq_true rfl) rfl dX3_quota_47 (fun r_28 M_27 h => ?_)
              exact a_iret X h dX3_quota_50
      · have h := h.2 z
        refine a_aload_n X dX3_quota_23 rfl 1 rfl ?_
        refine a_iconst (v := 1) X dX3_quota_24 ic_1 ?_
        refine a_cVi (As := [.int 1]) (st := []) X fw3 iz_0 (cX3_refuse_ok l h) mlX3_58 mvX3_refuse (rz rfl) (Nat.le_of_ble_eq_true rfl) rfl dX3_quota_25 (fun r_30 M_29 h => ?_)
        exact a_iret X h dX3_quota_28
abbrev rm_X3_rank : Room := { frames := 3, cells := 0, slots := 0, locals := 63 }
def wpX3_rank (mk : Nat) (M : Mem) (v1 : Int32) (v2 : Int32) (v3 : Int32) (Q : Int32 → Mem → Prop) : Prop := wpX3_find mk M v1 (fun o M_1 => (o = none → wpX3_refuse M_1 1 (fun r_4 M_3 => Q r_4 M_3)) ∧ (∀ n_2 : Nat, o = some n_2 → wpX3_isValue M_1 v2 (fun r_6 M_5 => ((¬ r_6 = 0 → ((v3 = 0 → wpX0_sureUpTo M_5 (n_2 + 5) v2 (fun r_8 M_7 => wpX3_pass M_7 r_8 (fun r_10 M_9 => Q r_10 M_9))) ∧ (¬ v3 = 0 → wpX0_mostUpTo M_5 (n_2 + 5) v2 (fun r_12 M_11 => wpX3_pass M_11 r_12 (fun r_14 M_13 => Q r_14 M_13))))) ∧ (r_6 = 0 → wpX3_refuse M_5 2 (fun r_16 M_15 => Q r_16 M_15))))))
set_option maxHeartbeats 4000000 in
set_option maxRecDepth 100000 in
theorem cX3_rank_ok (l : Launch) {G : Gl} {al : Nat → Nat} {mk : Nat} {M : Mem} {v1 : Int32} {v2 : Int32} {v3 : Int32} {Q : Int32 → Mem → Prop} (h : wpX3_rank mk M v1 v2 v3 Q) : Kv l yX3_rank cX3_rank 5 (some .int) rm_X3_rank G al mk M [.ref (al 0), .int v1, .int v2, .int v3] (QI G al mk Q) := by
  refine a_head (by decide) (Nat.le_of_ble_eq_true rfl) (fun p e s m below meth c X => ?_)
  have X : Cx p s m meth c G RX3 cX3_rank 5 (some .int) := X
  unfold wpX3_rank at h
  refine a_sub (ks := [0, 1, 2, 3]) (lo' := [(0, .ref (al 0)), (1, .int v1), (2, .int v2), (3, .int v3)]) rfl ?_
  refine a_aload_n X dX3_rank_0 rfl 0 rfl ?_
  refine a_iload_n X dX3_rank_1 rfl 1 rfl ?_
  refine a_cVq (As := [.int v1]) (st := []) X fw3 iz_0 (cX3_find_ok l h) mlX3_80 mvX3_find (rz rfl) (Nat.le_of_ble_eq_true rfl) rfl dX3_rank_2 (fun M_1 h => ?_) (fun n_2 M_1 in_2 h => ?_)
  · have h := h.1 rfl
    refine a_astoreN (lo' := [(4, .null), (0, .ref (al 0)), (1, .int v1), (2, .int v2), (3, .int v3)]) X dX3_rank_5 (by decide) rfl ?_
    refine a_aloadN X dX3_rank_7 0 rfl ?_
    refine a_ifnonnullN X dX3_rank_9 ?_
    refine a_aload_n X dX3_rank_12 rfl 1 rfl ?_
    refine a_iconst (v := 1) X dX3_rank_13 ic_1 ?_
    refine a_cVi (As := [.int 1]) (st := []) X fw3 iz_0 (cX3_refuse_ok l h) mlX3_58 mvX3_refuse (rz rfl) (Nat.le_of_ble_eq_true rfl) rfl dX3_rank_14 (fun r_4 M_3 h => ?_)
    exact a_iret X h dX3_rank_17
  · have h := h.2 n_2 rfl
    refine a_astore (lo' := [(4, .ref (al n_2)), (0, .ref (al 0)), (1, .int v1), (2, .int v2), (3, .int v3)]) X dX3_rank_5 (by decide) rfl ?_
    refine a_aload X dX3_rank_7 0 rfl ?_
    refine a_ifnonnull (tgt := 18) X dX3_rank_9 (by decide) ?_
    refine a_iload_n X dX3_rank_18 rfl 3 rfl ?_
    refine a_cSi (As := [.int v2]) (st := []) X (cX3_isValue_ok l h) mlX3_162 msX3_isValue (rz rfl) (Nat.le_of_ble_eq_true rfl) rfl dX3_rank_19 (fun r_6 M_5 h => ?_)
    refine a_if_ne (tgt := 31) X dX3_rank_22 (by decide) (fun z => ?_) (fun z => ?_)
    · have h := h.1 z
      refine a_aload_n X dX3_rank_31 rfl 1 rfl ?_
      refine a_iload_n X dX3_rank_32 rfl 4 rfl ?_
      refine a_if_eq (tgt := 48) X dX3_rank_33 (by decide) (fun z => ?_) (fun z => ?_)
      · have h := h.1 z
        refine a_aload X dX3_rank_48 0 rfl ?_
        refine a_getR (k := 0) X 5 (b := (n_2 + 5)) fw1 in_2 rfl rfl flX3_87 rfl dX3_rank_50 ?_
        refine a_iload_n X dX3_rank_53 rfl 3 rfl ?_
        refine a_cVi (As := [.int v2]) (st := [.ref (al 0)]) X fw0 in_2.str.2 (cX0_sureUpTo_ok l in_2.str.2 h) mlX3_168 mvX0_sureUpTo (rz rfl) (Nat.le_of_ble_eq_true rfl) rfl dX3_rank_54 (fun r_8 M_7 h => ?_)
        refine a_cVi (As := [.int r_8]) (st := []) X fw3 iz_0 (cX3_pass_ok l h) mlX3_74 mvX3_pass (rz rfl) (Nat.le_of_ble_eq_true rfl) rfl dX3_rank_57 (fun r_10 M_9 h => ?_)
        exact a_iret X h dX3_rank_60
      · have h := h.2 z
        refine a_aload X dX3_rank_36 0 rfl ?_
        refine a_getR (k := 0) X 5 (b := (n_2 + 5)) fw1 in_2 rfl rfl flX3_87 rfl dX3_rank_38 ?_
        refine a_iload_n X dX3_rank_41 rfl 3 rfl ?_
        refine a_cVi (As := [.int v2]) (st := [.ref (al 0)]) X fw0 in_2.str.2 (cX0_mostUpTo_ok l in_2.str.2 h) mlX3_165 mvX0_mostUpTo (rz rfl) (Nat.le_of_ble_eq_true rfl) rfl dX3_rank_42 (fun r_12 M_11 h => ?_)
        refine a_goto (tgt := 57) X dX3_rank_45 (by decide) ?_
        refine a_cVi (As := [.int r_12]) (st := []) X fw3 iz_0 (cX3_pass_ok l h) mlX3_74 mvX3_pass (rz rfl) (Nat.le_of_ble_eq_true rfl) rfl dX3_rank_57 (fun r_14 M_13 h => ?_)
        exact a_iret X h dX3_rank_60
    · have h := h.2 z
      refine a_aload_n X dX3_rank_25 rfl 1 rfl ?_
      refine a_iconst (v := 2) X dX3_rank_26 ic_2 ?_
      refine a_cVi (As := [.int 2]) (st := []) X fw3 iz_0 (cX3_refuse_ok l h) mlX3_58 mvX3_refuse (rz rfl) (Nat.le_of_ble_eq_true rfl) rfl dX3_rank_27 (fun r_16 M_15 h => ?_)
      exact a_iret X h dX3_rank_30
abbrev rm_X3_between : Room := { frames := 4, cells := 0, slots := 0, locals := 86 }
def wpX3_between (mk : Nat) (M : Mem) (v1 : Int32) (v2 : Int32) (v3 : Int32) (v4 : Int32) (Q : Int32 → Mem → Prop) : Prop := wpX3_find mk M v1 (fun o M_1 => (o = none → wpX3_refuse M_1 1 (fun r_4 M_3 => Q r_4 M_3)) ∧ (∀ n_2 : Nat, o = some n_2 → wpX3_isValue M_1 v2 (fun r_6 M_5 => ((r_6 = 0 → wpX3_refuse M_5 2 (fun r_8 M_7 => Q r_8 M_7)) ∧ (¬ r_6 = 0 → wpX3_isValue M_5 v3 (fun r_10 M_9 => ((r_10 = 0 → wpX3_refuse M_9 2 (fun r_12 M_11 => Q r_12 M_11)) ∧ (¬ r_10 = 0 → ((v2 ≤ v3 → wpX0_countAbove M_9 (n_2 + 5) (v2 - 1) v3 v4 (fun r_14 M_13 => wpX3_pass M_13 r_14 (fun r_16 M_15 => Q r_16 M_15))) ∧ (¬ v2 ≤ v3 → wpX3_refuse M_9 2 (fun r_18 M_17 => Q r_18 M_17)))))))))))
set_option maxHeartbeats 4000000 in
set_option maxRecDepth 100000 in
theorem cX3_between_ok (l : Launch) {G : Gl} {al : Nat → Nat} {mk : Nat} {M : Mem} {v1 : Int32} {v2 : Int32} {v3 : Int32} {v4 : Int32} {Q : Int32 → Mem → Prop} (h : wpX3_between mk M v1 v2 v3 v4 Q) : Kv l yX3_between cX3_between 6 (some .int) rm_X3_between G al mk M [.ref (al 0), .int v1, .int v2, .int v3, .int v4] (QI G al mk Q) := by
  refine a_head (by decide) (Nat.le_of_ble_eq_true rfl) (fun p e s m below meth c X => ?_)
  have X : Cx p s m meth c G RX3 cX3_between 6 (some .int) := X
  unfold wpX3_between at h
  refine a_sub (ks := [0, 1, 2, 3, 4]) (lo' := [(0, .ref (al 0)), (1, .int v1), (2, .int v2), (3, .int v3), (4, .int v4)]) rfl ?_
  refine a_aload_n X dX3_between_0 rfl 0 rfl ?_
  refine a_iload_n X dX3_between_1 rfl 1 rfl ?_
  refine a_cVq (As := [.int v1]) (st := []) X fw3 iz_0 (cX3_find_ok l h) mlX3_80 mvX3_find (rz rfl) (Nat.le_of_ble_eq_true rfl) rfl dX3_between_2 (fun M_1 h => ?_) (fun n_2 M_1 in_2 h => ?_)
  · have h := h.1 rfl
    refine a_astoreN (lo' := [(5, .null), (0, .ref (al 0)), (1, .int v1), (2, .int v2), (3, .int v3), (4, .int v4)]) X dX3_between_5 (by decide) rfl ?_
    refine a_aloadN X dX3_between_7 0 rfl ?_
    refine a_ifnonnullN X dX3_between_9 ?_
    refine a_aload_n X dX3_between_12 rfl 1 rfl ?_
    refine a_iconst (v := 1) X dX3_between_13 ic_1 ?_
    refine a_cVi (As := [.int 1]) (st := []) X fw3 iz_0 (cX3_refuse_ok l h) mlX3_58 mvX3_refuse (rz rfl) (Nat.le_of_ble_eq_true rfl) rfl dX3_between_14 (fun r_4 M_3 h => ?_)
    exact a_iret X h dX3_between_17
  · have h := h.2 n_2 rfl
    refine a_astore (lo' := [(5, .ref (al n_2)), (0, .ref (al 0)), (1, .int v1), (2, .int v2), (3, .int v3), (4, .int v4)]) X dX3_between_5 (by decide) rfl ?_
    refine a_aload X dX3_between_7 0 rfl ?_
    refine a_ifnonnull (tgt := 18) X dX3_between_9 (by decide) ?_
    refine a_iload_n X dX3_between_18 rfl 3 rfl ?_
    refine a_cSi (As := [.int v2]) (st := []) X (cX3_isValue_ok l h) mlX3_162 msX3_isValue (rz rfl) (Nat.le_of_ble_eq_true rfl) rfl dX3_between_19 (fun r_6 M_5 h => ?_)
    refine a_if_eq (tgt := 37) X dX3_between_22 (by decide) (fun z => ?_) (fun z => ?_)
    · have h := h.1 z
      refine a_aload_n X dX3_between_37 rfl 1 rfl ?_
      refine a_iconst (v := 2) X dX3_between_38 ic_2 ?_
      refine a_cVi (As := [.int 2]) (st := []) X fw3 iz_0 (cX3_refuse_ok l h) mlX3_58 mvX3_refuse (rz rfl) (Nat.le_of_ble_eq_true rfl) rfl dX3_between_39 (fun r_8 M_7 h => ?_)
      exact a_iret X h dX3_between_42
    · have h := h.2 z
      refine a_iload_n X dX3_between_25 rfl 4 rfl ?_
      refine a_cSi (As := [.int v3]) (st := []) X (cX3_isValue_ok l h) mlX3_162 msX3_isValue (rz rfl) (Nat.le_of_ble_eq_true rfl) rfl dX3_between_26 (fun r_10 M_9 h => ?_)
      refine a_if_eq (tgt := 37) X dX3_between_29 (by decide) (fun z => ?_) (fun z => ?_)
      · have h := h.1 z
        refine a_aload_n X dX3_between_37 rfl 1 rfl ?_
        refine a_iconst (v := 2) X dX3_between_38 ic_2 ?_
        refine a_cVi (As := [.int 2]) (st := []) X fw3 iz_0 (cX3_refuse_ok l h) mlX3_58 mvX3_refuse (rz rfl) (Nat.le_of_ble_eq_true rfl) rfl dX3_between_39 (fun r_12 M_11 h => ?_)
        exact a_iret X h dX3_between_42
      · have h := h.2 z
        refine a_iload_n X dX3_between_32 rfl 4 rfl ?_
        refine a_iload_n X dX3_between_33 rfl 3 rfl ?_
        refine a_icmp_ge (tgt := 43) X dX3_between_34 (by decide) (fun z => ?_) (fun z => ?_)
        · have h := h.1 z
          refine a_aload_n X dX3_between_43 rfl 1 rfl ?_
          refine a_aload X dX3_between_44 0 rfl ?_
          refine a_getR (k := 0) X 5 (b := (n_2 + 5)) fw1 in_2 rfl rfl flX3_87 rfl dX3_between_46 ?_
          refine a_iload_n X dX3_between_49 rfl 3 rfl ?_
          refine a_iconst (v := 1) X dX3_between_50 ic_1 ?_
          refine a_isub X dX3_between_51 ?_
          refine a_iload_n X dX3_between_52 rfl 4 rfl ?_
          refine a_iload X dX3_between_53 5 rfl ?_
          refine a_cVi (As := [.int (v2 - 1), .int v3, .int v4]) (st := [.ref (al 0)]) X fw0 in_2.str.2 (cX0_countAbove_ok l in_2.str.2 h) mlX3_171 mvX0_countAbove (rz rfl) (Nat.le_of_ble_eq_true rfl) rfl dX3_between_55 (fun r_14 M_13 h => ?_)
          refine a_cVi (As := [.int r_14]) (st := []) X fw3 iz_0 (cX3_pass_ok l h) mlX3_74 mvX3_pass (rz rfl) (Nat.le_of_ble_eq_true rfl) rfl dX3_between_58 (fun r_16 M_15 h => ?_)
          exact a_iret X h dX3_between_61
        · have h := h.2 z
          refine a_aload_n X dX3_between_37 rfl 1 rfl ?_
          refine a_iconst (v := 2) X dX3_between_38 ic_2 ?_
          refine a_cVi (As := [.int 2]) (st := []) X fw3 iz_0 (cX3_refuse_ok l h) mlX3_58 mvX3_refuse (rz rfl) (Nat.le_of_ble_eq_true rfl) rfl dX3_between_39 (fun r_18 M_17 h => ?_)
          exact a_iret X h dX3_between_42
abbrev rm_X3_exact : Room := { frames := 4, cells := 0, slots := 0, locals := 93 }
def wpX3_exact (mk : Nat) (M : Mem) (v1 : Int32) (Q : Int32 → Mem → Prop) : Prop := wpX3_find mk M v1 (fun o M_1 => (o = none → wpX3_refuse M_1 1 (fun r_4 M_3 => Q r_4 M_3)) ∧ (∀ n_2 : Nat, o = some n_2 → wpX0_exactPlaces M_1 (n_2 + 5) (fun r_6 M_5 => wpX3_pass M_5 r_6 (fun r_8 M_7 => Q r_8 M_7))))
set_option maxHeartbeats 4000000 in
set_option maxRecDepth 100000 in
theorem cX3_exact_ok (l : Launch) {G : Gl} {al : Nat → Nat} {mk : Nat} {M : Mem} {v1 : Int32} {Q : Int32 → Mem → Prop} (h : wpX3_exact mk M v1 Q) : Kv l yX3_exact cX3_exact 3 (some .int) rm_X3_exact G al mk M [.ref (al 0), .int v1] (QI G al mk Q) := by
  refine a_head (by decide) (Nat.le_of_ble_eq_true rfl) (fun p e s m below meth c X => ?_)
  have X : Cx p s m meth c G RX3 cX3_exact 3 (some .int) := X
  unfold wpX3_exact at h
  refine a_sub (ks := [0, 1]) (lo' := [(0, .ref (al 0)), (1, .int v1)]) rfl ?_
  refine a_aload_n X dX3_exact_0 rfl 0 rfl ?_
  refine a_iload_n X dX3_exact_1 rfl 1 rfl ?_
  refine a_cVq (As := [.int v1]) (st := []) X fw3 iz_0 (cX3_find_ok l h) mlX3_80 mvX3_find (rz rfl) (Nat.le_of_ble_eq_true rfl) rfl dX3_exact_2 (fun M_1 h => ?_) (fun n_2 M_1 in_2 h => ?_)
  · have h := h.1 rfl
    refine a_astore_nN (lo' := [(2, .null), (0, .ref (al 0)), (1, .int v1)]) X dX3_exact_5 rfl (by decide) rfl ?_
    refine a_aload_nN X dX3_exact_6 rfl 0 rfl ?_
    refine a_ifnonnullN X dX3_exact_7 ?_
    refine a_aload_n X dX3_exact_10 rfl 1 rfl ?_
    refine a_iconst (v := 1) X dX3_exact_11 ic_1 ?_
    refine a_cVi (As := [.int 1]) (st := []) X fw3 iz_0 (cX3_refuse_ok l h) mlX3_58 mvX3_refuse (rz rfl) (Nat.le_of_ble_eq_true rfl) rfl dX3_exact_12 (fun r_4 M_3 h => ?_)
    exact a_iret X h dX3_exact_15
  · have h := h.2 n_2 rfl
    refine a_astore_n (lo' := [(2, .ref (al n_2)), (0, .ref (al 0)), (1, .int v1)]) X dX3_exact_5 rfl (by decide) rfl ?_
    refine a_aload_n X dX3_exact_6 rfl 0 rfl ?_
    refine a_ifnonnull (tgt := 16) X dX3_exact_7 (by decide) ?_
    refine a_aload_n X dX3_exact_16 rfl 1 rfl ?_
    refine a_aload_n X dX3_exact_17 rfl 0 rfl ?_
    refine a_getR (k := 0) X 5 (b := (n_2 + 5)) fw1 in_2 rfl rfl flX3_87 rfl dX3_exact_18 ?_
    refine a_cVi (As := []) (st := [.ref (al 0)]) X fw0 in_2.str.2 (cX0_exactPlaces_ok l in_2.str.2 h) mlX3_175 mvX0_exactPlaces (rz rfl) (Nat.le_of_ble_eq_true rfl) rfl dX3_exact_21 (fun r_6 M_5 h => ?_)
    refine a_cVi (As := [.int r_6]) (st := []) X fw3 iz_0 (cX3_pass_ok l h) mlX3_74 mvX3_pass (rz rfl) (Nat.le_of_ble_eq_true rfl) rfl dX3_exact_24 (fun r_8 M_7 h => ?_)
    exact a_iret X h dX3_exact_27
abbrev rm_X3_worst : Room := { frames := 4, cells := 0, slots := 0, locals := 93 }
def wpX3_worst (mk : Nat) (M : Mem) (v1 : Int32) (Q : Int32 → Mem → Prop) : Prop := wpX3_find mk M v1 (fun o M_1 => (o = none → wpX3_refuse M_1 1 (fun r_4 M_3 => Q r_4 M_3)) ∧ (∀ n_2 : Nat, o = some n_2 → ((¬ (gI M_1 n_2 2) = 0 → wpX0_greatestOff M_1 (n_2 + 5) (fun r_6 M_5 => wpX3_pass M_5 r_6 (fun r_8 M_7 => Q r_8 M_7))) ∧ ((gI M_1 n_2 2) = 0 → wpX3_pass M_1 (-2) (fun r_10 M_9 => Q r_10 M_9)))))
set_option maxHeartbeats 4000000 in
set_option maxRecDepth 100000 in
theorem cX3_worst_ok (l : Launch) {G : Gl} {al : Nat → Nat} {mk : Nat} {M : Mem} {v1 : Int32} {Q : Int32 → Mem → Prop} (h : wpX3_worst mk M v1 Q) : Kv l yX3_worst cX3_worst 3 (some .int) rm_X3_worst G al mk M [.ref (al 0), .int v1] (QI G al mk Q) := by
  refine a_head (by decide) (Nat.le_of_ble_eq_true rfl) (fun p e s m below meth c X => ?_)
  have X : Cx p s m meth c G RX3 cX3_worst 3 (some .int) := X
  unfold wpX3_worst at h
  refine a_sub (ks := [0, 1]) (lo' := [(0, .ref (al 0)), (1, .int v1)]) rfl ?_
  refine a_aload_n X dX3_worst_0 rfl 0 rfl ?_
  refine a_iload_n X dX3_worst_1 rfl 1 rfl ?_
  refine a_cVq (As := [.int v1]) (st := []) X fw3 iz_0 (cX3_find_ok l h) mlX3_80 mvX3_find (rz rfl) (Nat.le_of_ble_eq_true rfl) rfl dX3_worst_2 (fun M_1 h => ?_) (fun n_2 M_1 in_2 h => ?_)
  · have h := h.1 rfl
    refine a_astore_nN (lo' := [(2, .null), (0, .ref (al 0)), (1, .int v1)]) X dX3_worst_5 rfl (by decide) rfl ?_
    refine a_aload_nN X dX3_worst_6 rfl 0 rfl ?_
    refine a_ifnonnullN X dX3_worst_7 ?_
    refine a_aload_n X dX3_worst_10 rfl 1 rfl ?_
    refine a_iconst (v := 1) X dX3_worst_11 ic_1 ?_
    refine a_cVi (As := [.int 1]) (st := []) X fw3 iz_0 (cX3_refuse_ok l h) mlX3_58 mvX3_refuse (rz rfl) (Nat.le_of_ble_eq_true rfl) rfl dX3_worst_12 (fun r_4 M_3 h => ?_)
    exact a_iret X h dX3_worst_15
  · have h := h.2 n_2 rfl
    refine a_astore_n (lo' := [(2, .ref (al n_2)), (0, .ref (al 0)), (1, .int v1)]) X dX3_worst_5 rfl (by decide) rfl ?_
    refine a_aload_n X dX3_worst_6 rfl 0 rfl ?_
    refine a_ifnonnull (tgt := 16) X dX3_worst_7 (by decide) ?_
    refine a_aload_n X dX3_worst_16 rfl 1 rfl ?_
    refine a_aload_n X dX3_worst_17 rfl 0 rfl ?_
    refine a_getI (k := 2) X fw1 in_2 rfl flX3_84 rfl dX3_worst_18 ?_
    refine a_if_ne (tgt := 29) X dX3_worst_21 (by decide) (fun z => ?_) (fun z => ?_)
    · have h := h.1 z
      refine a_aload_n X dX3_worst_29 rfl 0 rfl ?_
      refine a_getR (k := 0) X 5 (b := (n_2 + 5)) fw1 in_2 rfl rfl flX3_87 rfl dX3_worst_30 ?_
      refine a_cVi (As := []) (st := [.ref (al 0)]) X fw0 in_2.str.2 (cX0_greatestOff_ok l in_2.str.2 h) mlX3_178 mvX0_greatestOff (rz rfl) (Nat.le_of_ble_eq_true rfl) rfl dX3_worst_33 (fun r_6 M_5 h => ?_)
      refine a_cVi (As := [.int r_6]) (st := []) X fw3 iz_0 (cX3_pass_ok l h) mlX3_74 mvX3_pass (rz rfl) (Nat.le_of_ble_eq_true rfl) rfl dX3_worst_36 (fun r_8 M_7 h => ?_)
      exact a_iret X h dX3_worst_39
    · have h := h.2 z
      refine a_bipush (v := (-2)) X dX3_worst_24 bc_m2 ?_
      refine a_goto (tgt := 36) X dX3_worst_26 (by decide) ?_
      refine a_cVi (As := [.int (-2)]) (st := []) X fw3 iz_0 (cX3_pass_ok l h) mlX3_74 mvX3_pass (rz rfl) (Nat.le_of_ble_eq_true rfl) rfl dX3_worst_36 (fun r_10 M_9 h => ?_)
      exact a_iret X h dX3_worst_39
abbrev rm_X3_bounds : Room := { frames := 2, cells := 0, slots := 0, locals := 45 }
def wpX3_bounds (mk : Nat) (M : Mem) (v1 : Int32) (v2 : Int32) (v3 : Int32) (Q : Int32 → Mem → Prop) : Prop := wpX3_find mk M v1 (fun o M_1 => (o = none → wpX3_refuse M_1 1 (fun r_4 M_3 => Q r_4 M_3)) ∧ (∀ n_2 : Nat, o = some n_2 → ((v3 < 0 → wpX3_refuse M_1 1 (fun r_6 M_5 => Q r_6 M_5)) ∧ (¬ v3 < 0 → ((v3 ≤ 1 → wpX3_isPlace M_1 n_2 v2 (fun r_8 M_7 => ((¬ r_8 = 0 → ((¬ v3 = 0 → wpX0_ceilingAt M_7 (n_2 + 5) v2 0 (fun r_10 M_9 => (vp_in r_10 1000 ∧ wpX3_pass M_9 (gI M_9 ((n_2 + 5) + 1) (Int32.toNatClampNeg r_10)) (fun r_12 M_11 => Q r_12 M_11)))) ∧ (v3 = 0 → wpX0_floorAt M_7 (n_2 + 5) v2 0 (fun r_14 M_13 => (vp_in r_14 1000 ∧ wpX3_pass M_13 (gI M_13 ((n_2 + 5) + 1) (Int32.toNatClampNeg r_14)) (fun r_16 M_15 => Q r_16 M_15)))))) ∧ (r_8 = 0 → wpX3_refuse M_7 2 (fun r_18 M_17 => Q r_18 M_17))))) ∧ (¬ v3 ≤ 1 → wpX3_refuse M_1 1 (fun r_20 M_19 => Q r_20 M_19)))))))
set_option maxHeartbeats 4000000 in
set_option maxRecDepth 100000 in
theorem cX3_bounds_ok (l : Launch) {G : Gl} {al : Nat → Nat} {mk : Nat} {M : Mem} {v1 : Int32} {v2 : Int32} {v3 : Int32} {Q : Int32 → Mem → Prop} (h : wpX3_bounds mk M v1 v2 v3 Q) : Kv l yX3_bounds cX3_bounds 6 (some .int) rm_X3_bounds G al mk M [.ref (al 0), .int v1, .int v2, .int v3] (QI G al mk Q) := by
  refine a_head (by decide) (Nat.le_of_ble_eq_true rfl) (fun p e s m below meth c X => ?_)
  have X : Cx p s m meth c G RX3 cX3_bounds 6 (some .int) := X
  unfold wpX3_bounds at h
  refine a_sub (ks := [0, 1, 2, 3]) (lo' := [(0, .ref (al 0)), (1, .int v1), (2, .int v2), (3, .int v3)]) rfl ?_
  refine a_aload_n X dX3_bounds_0 rfl 0 rfl ?_
  refine a_iload_n X dX3_bounds_1 rfl 1 rfl ?_
  refine a_cVq (As := [.int v1]) (st := []) X fw3 iz_0 (cX3_find_ok l h) mlX3_80 mvX3_find (rz rfl) (Nat.le_of_ble_eq_true rfl) rfl dX3_bounds_2 (fun M_1 h => ?_) (fun n_2 M_1 in_2 h => ?_)
  · have h := h.1 rfl
    refine a_astoreN (lo' := [(4, .null), (0, .ref (al 0)), (1, .int v1), (2, .int v2), (3, .int v3)]) X dX3_bounds_5 (by decide) rfl ?_
    refine a_aloadN X dX3_bounds_7 0 rfl ?_
    refine a_ifnullN (tgt := 21) X dX3_bounds_9 (by decide) ?_
    refine a_aload_n X dX3_bounds_21 rfl 1 rfl ?_
    refine a_iconst (v := 1) X dX3_bounds_22 ic_1 ?_
    refine a_cVi (As := [.int 1]) (st := []) X fw3 iz_0 (cX3_refuse_ok l h) mlX3_58 mvX3_refuse (rz rfl) (Nat.le_of_ble_eq_true rfl) rfl dX3_bounds_23 (fun r_4 M_3 h => ?_)
    exact a_iret X h dX3_bounds_26
  · have h := h.2 n_2 rfl
    refine a_astore (lo' := [(4, .ref (al n_2)), (0, .ref (al 0)), (1, .int v1), (2, .int v2), (3, .int v3)]) X dX3_bounds_5 (by decide) rfl ?_
    refine a_aload X dX3_bounds_7 0 rfl ?_
    refine a_ifnull X dX3_bounds_9 ?_
    refine a_iload_n X dX3_bounds_12 rfl 4 rfl ?_
    refine a_if_lt (tgt := 21) X dX3_bounds_13 (by decide) (fun z => ?_) (fun z => ?_)
    · have h := h.1 z
      refine a_aload_n X dX3_bounds_21 rfl 1 rfl ?_
      refine a_iconst (v := 1) X dX3_bounds_22 ic_1 ?_
      refine a_cVi (As := [.int 1]) (st := []) X fw3 iz_0 (cX3_refuse_ok l h) mlX3_58 mvX3_refuse (rz rfl) (Nat.le_of_ble_eq_true rfl) rfl dX3_bounds_23 (fun r_6 M_5 h => ?_)
      exact a_iret X h dX3_bounds_26
    · have h := h.2 z
      refine a_iload_n X dX3_bounds_16 rfl 4 rfl ?_
      refine a_iconst (v := 1) X dX3_bounds_17 ic_1 ?_
      refine a_icmp_le (tgt := 27) X dX3_bounds_18 (by decide) (fun z => ?_) (fun z => ?_)
      · have h := h.1 z
        refine a_aload X dX3_bounds_27 0 rfl ?_
        refine a_iload_n X dX3_bounds_29 rfl 3 rfl ?_
        refine a_cSi (As := [.ref (al n_2), .int v2]) (st := []) X (cX3_isPlace_ok l in_2 h) mlX3_145 msX3_isPlace (rz rfl) (Nat.le_of_ble_eq_true rfl) rfl dX3_bounds_30 (fun r_8 M_7 h => ?_)
        refine a_if_ne (tgt := 42) X dX3_bounds_33 (by decide) (fun z => ?_) (fun z => ?_)
        · have h := h.1 z
          refine a_iload_n X dX3_bounds_42 rfl 4 rfl ?_
          refine a_if_ne (tgt := 59) X dX3_bounds_43 (by decide) (fun z => ?_) (fun z => ?_)
          · have h := h.1 z
            refine a_aload X dX3_bounds_59 0 rfl ?_
            refine a_getR (k := 0) X 5 (b := (n_2 + 5)) fw1 in_2 rfl rfl flX3_87 rfl dX3_bounds_61 ?_
            refine a_iload_n X dX3_bounds_64 rfl 3 rfl ?_
            refine a_iconst (v := 0) X dX3_bounds_65 ic_0 ?_
            refine a_cVi (As := [.int v2, .int 0]) (st := []) X fw0 in_2.str.2 (cX0_ceilingAt_ok l in_2.str.2 h) mlX3_184 mvX0_ceilingAt (rz rfl) (Nat.le_of_ble_eq_true rfl) rfl dX3_bounds_66 (fun r_10 M_9 h => ?_)
            refine a_istore (lo' := [(5, .int r_10), (4, .ref (al n_2)), (0, .ref (al 0)), (1, .int v1), (2, .int v2), (3, .int v3)]) X dX3_bounds_69 (by decide) rfl ?_
            refine a_aload_n X dX3_bounds_71 rfl 2 rfl ?_
            refine a_aload X dX3_bounds_72 1 rfl ?_
            refine a_getR (k := 0) X 5 (b := (n_2 + 5)) fw1 in_2 rfl rfl flX3_87 rfl dX3_bounds_74 ?_
            refine a_getR (k := 0) X 1 (b := ((n_2 + 5) + 1)) fw0 in_2.str.2 rfl rfl flX3_106 rfl dX3_bounds_77 ?_
            refine a_iload X dX3_bounds_80 0 rfl ?_
            refine a_iald X in_2.str.2.row.1 h.1 dX3_bounds_82 ?_
            have h := h.2
            refine a_cVi (As := [.int (gI M_9 ((n_2 + 5) + 1) (Int32.toNatClampNeg r_10))]) (st := []) X fw3 iz_0 (cX3_pass_ok l h) mlX3_74 mvX3_pass (rz rfl) (Nat.le_of_ble_eq_true rfl) rfl dX3_bounds_83 (fun r_12 M_11 h => ?_)
            exact a_iret X h dX3_bounds_86
          · have h := h.2 z
            refine a_aload X dX3_bounds_46 0 rfl ?_
            refine a_getR (k := 0) X 5 (b := (n_2 + 5)) fw1 in_2 rfl rfl flX3_87 rfl dX3_bounds_48 ?_
            refine a_iload_n X dX3_bounds_51 rfl 3 rfl ?_
            refine a_iconst (v := 0) X dX3_bounds_52 ic_0 ?_
            refine a_cVi (As := [.int v2, .int 0]) (st := []) X fw0 in_2.str.2 (cX0_floorAt_ok l in_2.str.2 h) mlX3_181 mvX0_floorAt (rz rfl) (Nat.le_of_ble_eq_true rfl) rfl dX3_bounds_53 (fun r_14 M_13 h => ?_)
            refine a_goto (tgt := 69) X dX3_bounds_56 (by decide) ?_
            refine a_istore (lo' := [(5, .int r_14), (4, .ref (al n_2)), (0, .ref (al 0)), (1, .int v1), (2, .int v2), (3, .int v3)]) X dX3_bounds_69 (by decide) rfl ?_
            refine a_aload_n X dX3_bounds_71 rfl 2 rfl ?_
            refine a_aload X dX3_bounds_72 1 rfl ?_
            refine a_getR (k := 0) X 5 (b := (n_2 + 5)) fw1 in_2 rfl rfl flX3_87 rfl dX3_bounds_74 ?_
            refine a_getR (k := 0) X 1 (b := ((n_2 + 5) + 1)) fw0 in_2.str.2 rfl rfl flX3_106 rfl dX3_bounds_77 ?_
            refine a_iload X dX3_bounds_80 0 rfl ?_
            refine a_iald X in_2.str.2.row.1 h.1 dX3_bounds_82 ?_
            have h := h.2
            refine a_cVi (As := [.int (gI M_13 ((n_2 + 5) + 1) (Int32.toNatClampNeg r_14))]) (st := []) X fw3 iz_0 (cX3_pass_ok l h) mlX3_74 mvX3_pass (rz rfl) (Nat.le_of_ble_eq_true rfl) rfl dX3_bounds_83 (fun r_16 M_15 h => ?_)
            exact a_iret X h dX3_bounds_86
        · have h := h.2 z
          refine a_aload_n X dX3_bounds_36 rfl 1 rfl ?_
          refine a_iconst (v := 2) X dX3_bounds_37 ic_2 ?_
          refine a_cVi (As := [.int 2]) (st := []) X fw3 iz_0 (cX3_refuse_ok l h) mlX3_58 mvX3_refuse (rz rfl) (Nat.le_of_ble_eq_true rfl) rfl dX3_bounds_38 (fun r_18 M_17 h => ?_)
          exact a_iret X h dX3_bounds_41
      · have h := h.2 z
        refine a_aload_n X dX3_bounds_21 rfl 1 rfl ?_
        refine a_iconst (v := 1) X dX3_bounds_22 ic_1 ?_
        refine a_cVi (As := [.int 1]) (st := []) X fw3 iz_0 (cX3_refuse_ok l h) mlX3_58 mvX3_refuse (rz rfl) (Nat.le_of_ble_eq_true rfl) rfl dX3_bounds_23 (fun r_20 M_19 h => ?_)
        exact a_iret X h dX3_bounds_26
abbrev rm_X3_unsure : Room := { frames := 3, cells := 0, slots := 0, locals := 73 }
def wpX3_unsure (mk : Nat) (M : Mem) (v1 : Int32) (v2 : Int32) (Q : Int32 → Mem → Prop) : Prop := wpX3_find mk M v1 (fun o M_1 => (o = none → wpX3_refuse M_1 1 (fun r_4 M_3 => Q r_4 M_3)) ∧ (∀ n_2 : Nat, o = some n_2 → ((v2 < 0 → wpX3_refuse M_1 1 (fun r_6 M_5 => Q r_6 M_5)) ∧ (¬ v2 < 0 → ((v2 ≤ 1 → ((¬ v2 = 1 → wpX0_doubts M_1 (n_2 + 5) 0 (fun r_8 M_7 => wpX3_pass M_7 r_8 (fun r_10 M_9 => Q r_10 M_9))) ∧ (v2 = 1 → wpX0_doubts M_1 (n_2 + 5) 1 (fun r_12 M_11 => wpX3_pass M_11 r_12 (fun r_14 M_13 => Q r_14 M_13))))) ∧ (¬ v2 ≤ 1 → wpX3_refuse M_1 1 (fun r_16 M_15 => Q r_16 M_15)))))))
set_option maxHeartbeats 4000000 in
set_option maxRecDepth 100000 in
theorem cX3_unsure_ok (l : Launch) {G : Gl} {al : Nat → Nat} {mk : Nat} {M : Mem} {v1 : Int32} {v2 : Int32} {Q : Int32 → Mem → Prop} (h : wpX3_unsure mk M v1 v2 Q) : Kv l yX3_unsure cX3_unsure 4 (some .int) rm_X3_unsure G al mk M [.ref (al 0), .int v1, .int v2] (QI G al mk Q) := by
  refine a_head (by decide) (Nat.le_of_ble_eq_true rfl) (fun p e s m below meth c X => ?_)
  have X : Cx p s m meth c G RX3 cX3_unsure 4 (some .int) := X
  unfold wpX3_unsure at h
  refine a_sub (ks := [0, 1, 2]) (lo' := [(0, .ref (al 0)), (1, .int v1), (2, .int v2)]) rfl ?_
  refine a_aload_n X dX3_unsure_0 rfl 0 rfl ?_
  refine a_iload_n X dX3_unsure_1 rfl 1 rfl ?_
  refine a_cVq (As := [.int v1]) (st := []) X fw3 iz_0 (cX3_find_ok l h) mlX3_80 mvX3_find (rz rfl) (Nat.le_of_ble_eq_true rfl) rfl dX3_unsure_2 (fun M_1 h => ?_) (fun n_2 M_1 in_2 h => ?_)
  · have h := h.1 rfl
    refine a_astore_nN (lo' := [(3, .null), (0, .ref (al 0)), (1, .int v1), (2, .int v2)]) X dX3_unsure_5 rfl (by decide) rfl ?_
    refine a_aload_nN X dX3_unsure_6 rfl 0 rfl ?_
    refine a_ifnullN (tgt := 19) X dX3_unsure_7 (by decide) ?_
    refine a_aload_n X dX3_unsure_19 rfl 1 rfl ?_
    refine a_iconst (v := 1) X dX3_unsure_20 ic_1 ?_
    refine a_cVi (As := [.int 1]) (st := []) X fw3 iz_0 (cX3_refuse_ok l h) mlX3_58 mvX3_refuse (rz rfl) (Nat.le_of_ble_eq_true rfl) rfl dX3_unsure_21 (fun r_4 M_3 h => ?_)
    exact a_iret X h dX3_unsure_24
  · have h := h.2 n_2 rfl
    refine a_astore_n (lo' := [(3, .ref (al n_2)), (0, .ref (al 0)), (1, .int v1), (2, .int v2)]) X dX3_unsure_5 rfl (by decide) rfl ?_
    refine a_aload_n X dX3_unsure_6 rfl 0 rfl ?_
    refine a_ifnull X dX3_unsure_7 ?_
    refine a_iload_n X dX3_unsure_10 rfl 3 rfl ?_
    refine a_if_lt (tgt := 19) X dX3_unsure_11 (by decide) (fun z => ?_) (fun z => ?_)
    · have h := h.1 z
      refine a_aload_n X dX3_unsure_19 rfl 1 rfl ?_
      refine a_iconst (v := 1) X dX3_unsure_20 ic_1 ?_
      refine a_cVi (As := [.int 1]) (st := []) X fw3 iz_0 (cX3_refuse_ok l h) mlX3_58 mvX3_refuse (rz rfl) (Nat.le_of_ble_eq_true rfl) rfl dX3_unsure_21 (fun r_6 M_5 h => ?_)
      exact a_iret X h dX3_unsure_24
    · have h := h.2 z
      refine a_iload_n X dX3_unsure_14 rfl 3 rfl ?_
      refine a_iconst (v := 1) X dX3_unsure_15 ic_1 ?_
      refine a_icmp_le (tgt := 25) X dX3_unsure_16 (by decide) (fun z => ?_) (fun z => ?_)
      · have h := h.1 z
        refine a_aload_n X dX3_unsure_25 rfl 1 rfl ?_
        refine a_aload_n X dX3_unsure_26 rfl 0 rfl ?_
        refine a_getR (k := 0) X 5 (b := (n_2 + 5)) fw1 in_2 rfl rfl flX3_87 rfl dX3_unsure_27 ?_
        refine a_iload_n X dX3_unsure_30 rfl 3 rfl ?_
        refine a_iconst (v := 1) X dX3_unsure_31 ic_1 ?_
        refine a_icmp_ne (tgt := 39) X dX3_unsure_32 (by decide) (fun z => ?_) (fun z => ?_)
        · have h := h.1 z
          refine a_iconst (v := 0) X dX3_unsure_39 ic_0 ?_
          refine a_cVi (As := [.int 0]) (st := [.ref (al 0)]) X fw0 in_2.str.2 (cX0_doubts_ok l in_2.str.2 h) mlX3_187 mvX0_doubts (rz rfl) (Nat.le_of_ble_eq_true rfl) rfl dX3_unsure_40 (fun r_8 M_7 h => ?_)
          refine a_cVi (As := [.int r_8]) (st := []) X fw3 iz_0 (cX3_pass_ok l h) mlX3_74 mvX3_pass (rz rfl) (Nat.le_of_ble_eq_true rfl) rfl dX3_unsure_43 (fun r_10 M_9 h => ?_)
          exact a_iret X h dX3_unsure_46
        · have h := h.2 z
          refine a_iconst (v := 1) X dX3_unsure_35 ic_1 ?_
          refine a_goto (tgt := 40) X dX3_unsure_36 (by decide) ?_
          refine a_cVi (As := [.int 1]) (st := [.ref (al 0)]) X fw0 in_2.str.2 (cX0_doubts_ok l in_2.str.2 h) mlX3_187 mvX0_doubts (rz rfl) (Nat.le_of_ble_eq_true rfl) rfl dX3_unsure_40 (fun r_12 M_11 h => ?_)
          refine a_cVi (As := [.int r_12]) (st := []) X fw3 iz_0 (cX3_pass_ok l h) mlX3_74 mvX3_pass (rz rfl) (Nat.le_of_ble_eq_true rfl) rfl dX3_unsure_43 (fun r_14 M_13 h => ?_)
          exact a_iret X h dX3_unsure_46
      · have h := h.2 z
        refine a_aload_n X dX3_unsure_19 rfl 1 rfl ?_
        refine a_iconst (v := 1) X dX3_unsure_20 ic_1 ?_
        refine a_cVi (As := [.int 1]) (st := []) X fw3 iz_0 (cX3_refuse_ok l h) mlX3_58 mvX3_refuse (rz rfl) (Nat.le_of_ble_eq_true rfl) rfl dX3_unsure_21 (fun r_16 M_15 h => ?_)
        exact a_iret X h dX3_unsure_24
abbrev rm_X3_total : Room := { frames := 3, cells := 0, slots := 0, locals := 70 }
def wpX3_total (mk : Nat) (M : Mem) (v1 : Int32) (v2 : Int32) (Q : Int32 → Mem → Prop) : Prop := wpX3_find mk M v1 (fun o M_1 => (o = none → wpX3_refuse M_1 1 (fun r_4 M_3 => Q r_4 M_3)) ∧ (∀ n_2 : Nat, o = some n_2 → wpX0_sumOfPlaces M_1 (n_2 + 5) v2 (fun r_6 M_5 => wpX3_pass M_5 r_6 (fun r_8 M_7 => Q r_8 M_7))))
set_option maxHeartbeats 4000000 in
set_option maxRecDepth 100000 in
theorem cX3_total_ok (l : Launch) {G : Gl} {al : Nat → Nat} {mk : Nat} {M : Mem} {v1 : Int32} {v2 : Int32} {Q : Int32 → Mem → Prop} (h : wpX3_total mk M v1 v2 Q) : Kv l yX3_total cX3_total 4 (some .int) rm_X3_total G al mk M [.ref (al 0), .int v1, .int v2] (QI G al mk Q) := by
  refine a_head (by decide) (Nat.le_of_ble_eq_true rfl) (fun p e s m below meth c X => ?_)
  have X : Cx p s m meth c G RX3 cX3_total 4 (some .int) := X
  unfold wpX3_total at h
  refine a_sub (ks := [0, 1, 2]) (lo' := [(0, .ref (al 0)), (1, .int v1), (2, .int v2)]) rfl ?_
  refine a_aload_n X dX3_total_0 rfl 0 rfl ?_
  refine a_iload_n X dX3_total_1 rfl 1 rfl ?_
  refine a_cVq (As := [.int v1]) (st := []) X fw3 iz_0 (cX3_find_ok l h) mlX3_80 mvX3_find (rz rfl) (Nat.le_of_ble_eq_true rfl) rfl dX3_total_2 (fun M_1 h => ?_) (fun n_2 M_1 in_2 h => ?_)
  · have h := h.1 rfl
    refine a_astore_nN (lo' := [(3, .null), (0, .ref (al 0)), (1, .int v1), (2, .int v2)]) X dX3_total_5 rfl (by decide) rfl ?_
    refine a_aload_nN X dX3_total_6 rfl 0 rfl ?_
    refine a_ifnonnullN X dX3_total_7 ?_
    refine a_aload_n X dX3_total_10 rfl 1 rfl ?_
    refine a_iconst (v := 1) X dX3_total_11 ic_1 ?_
    refine a_cVi (As := [.int 1]) (st := []) X fw3 iz_0 (cX3_refuse_ok l h) mlX3_58 mvX3_refuse (rz rfl) (Nat.le_of_ble_eq_true rfl) rfl dX3_total_12 (fun r_4 M_3 h => ?_)
    exact a_iret X h dX3_total_15
  · have h := h.2 n_2 rfl
    refine a_astore_n (lo' := [(3, .ref (al n_2)), (0, .ref (al 0)), (1, .int v1), (2, .int v2)]) X dX3_total_5 rfl (by decide) rfl ?_
    refine a_aload_n X dX3_total_6 rfl 0 rfl ?_
    refine a_ifnonnull (tgt := 16) X dX3_total_7 (by decide) ?_
    refine a_aload_n X dX3_total_16 rfl 1 rfl ?_
    refine a_aload_n X dX3_total_17 rfl 0 rfl ?_
    refine a_getR (k := 0) X 5 (b := (n_2 + 5)) fw1 in_2 rfl rfl flX3_87 rfl dX3_total_18 ?_
    refine a_iload_n X dX3_total_21 rfl 3 rfl ?_
    refine a_cVi (As := [.int v2]) (st := [.ref (al 0)]) X fw0 in_2.str.2 (cX0_sumOfPlaces_ok l in_2.str.2 h) mlX3_191 mvX0_sumOfPlaces (rz rfl) (Nat.le_of_ble_eq_true rfl) rfl dX3_total_22 (fun r_6 M_5 h => ?_)
    refine a_cVi (As := [.int r_6]) (st := []) X fw3 iz_0 (cX3_pass_ok l h) mlX3_74 mvX3_pass (rz rfl) (Nat.le_of_ble_eq_true rfl) rfl dX3_total_25 (fun r_8 M_7 h => ?_)
    exact a_iret X h dX3_total_28
abbrev rm_X3_bands : Room := { frames := 2, cells := 0, slots := 0, locals := 46 }
def wpX3_bands (mk : Nat) (M : Mem) (v1 : Int32) (v2 : Int32) (Q : Int32 → Mem → Prop) : Prop := wpX3_find mk M v1 (fun o M_1 => (o = none → wpX3_refuse M_1 1 (fun r_4 M_3 => Q r_4 M_3)) ∧ (∀ n_2 : Nat, o = some n_2 → ((v2 < 0 → wpX3_refuse M_1 2 (fun r_6 M_5 => Q r_6 M_5)) ∧ (¬ v2 < 0 → ((v2 ≤ 12 → wpX3_boundOf M_1 (gI M_1 n_2 2) (gI M_1 0 3) (fun r_8 M_7 => wpX0_tuplesOfBand M_7 (n_2 + 5) v2 r_8 (fun r_10 M_9 => wpX3_pass M_9 r_10 (fun r_12 M_11 => Q r_12 M_11)))) ∧ (¬ v2 ≤ 12 → wpX3_refuse M_1 2 (fun r_14 M_13 => Q r_14 M_13)))))))
set_option maxHeartbeats 4000000 in
set_option maxRecDepth 100000 in
theorem cX3_bands_ok (l : Launch) {G : Gl} {al : Nat → Nat} {mk : Nat} {M : Mem} {v1 : Int32} {v2 : Int32} {Q : Int32 → Mem → Prop} (h : wpX3_bands mk M v1 v2 Q) : Kv l yX3_bands cX3_bands 4 (some .int) rm_X3_bands G al mk M [.ref (al 0), .int v1, .int v2] (QI G al mk Q) := by
  refine a_head (by decide) (Nat.le_of_ble_eq_true rfl) (fun p e s m below meth c X => ?_)
  have X : Cx p s m meth c G RX3 cX3_bands 4 (some .int) := X
  unfold wpX3_bands at h
  refine a_sub (ks := [0, 1, 2]) (lo' := [(0, .ref (al 0)), (1, .int v1), (2, .int v2)]) rfl ?_
  refine a_aload_n X dX3_bands_0 rfl 0 rfl ?_
  refine a_iload_n X dX3_bands_1 rfl 1 rfl ?_
  refine a_cVq (As := [.int v1]) (st := []) X fw3 iz_0 (cX3_find_ok l h) mlX3_80 mvX3_find (rz rfl) (Nat.le_of_ble_eq_true rfl) rfl dX3_bands_2 (fun M_1 h => ?_) (fun n_2 M_1 in_2 h => ?_)
  · have h := h.1 rfl
    refine a_astore_nN (lo' := [(3, .null), (0, .ref (al 0)), (1, .int v1), (2, .int v2)]) X dX3_bands_5 rfl (by decide) rfl ?_
    refine a_aload_nN X dX3_bands_6 rfl 0 rfl ?_
    refine a_ifnonnullN X dX3_bands_7 ?_
    refine a_aload_n X dX3_bands_10 rfl 1 rfl ?_
    refine a_iconst (v := 1) X dX3_bands_11 ic_1 ?_
    refine a_cVi (As := [.int 1]) (st := []) X fw3 iz_0 (cX3_refuse_ok l h) mlX3_58 mvX3_refuse (rz rfl) (Nat.le_of_ble_eq_true rfl) rfl dX3_bands_12 (fun r_4 M_3 h => ?_)
    exact a_iret X h dX3_bands_15
  · have h := h.2 n_2 rfl
    refine a_astore_n (lo' := [(3, .ref (al n_2)), (0, .ref (al 0)), (1, .int v1), (2, .int v2)]) X dX3_bands_5 rfl (by decide) rfl ?_
    refine a_aload_n X dX3_bands_6 rfl 0 rfl ?_
    refine a_ifnonnull (tgt := 16) X dX3_bands_7 (by decide) ?_
    refine a_iload_n X dX3_bands_16 rfl 3 rfl ?_
    refine a_if_lt (tgt := 26) X dX3_bands_17 (by decide) (fun z => ?_) (fun z => ?_)
    · have h := h.1 z
      refine a_aload_n X dX3_bands_26 rfl 1 rfl ?_
      refine a_iconst (v := 2) X dX3_bands_27 ic_2 ?_
      refine a_cVi (As := [.int 2]) (st := []) X fw3 iz_0 (cX3_refuse_ok l h) mlX3_58 mvX3_refuse (rz rfl) (Nat.le_of_ble_eq_true rfl) rfl dX3_bands_28 (fun r_6 M_5 h => ?_)
      exact a_iret X h dX3_bands_31
    · have h := h.2 z
      refine a_iload_n X dX3_bands_20 rfl 3 rfl ?_
      refine a_bipush (v := 12) X dX3_bands_21 bc_12 ?_
      refine a_icmp_le (tgt := 32) X dX3_bands_23 (by decide) (fun z => ?_) (fun z => ?_)
      · have h := h.1 z
        refine a_aload_n X dX3_bands_32 rfl 1 rfl ?_
        refine a_aload_n X dX3_bands_33 rfl 0 rfl ?_
        refine a_getR (k := 0) X 5 (b := (n_2 + 5)) fw1 in_2 rfl rfl flX3_87 rfl dX3_bands_34 ?_
        refine a_iload_n X dX3_bands_37 rfl 3 rfl ?_
        refine a_aload_n X dX3_bands_38 rfl 0 rfl ?_
        refine a_getI (k := 2) X fw1 in_2 rfl flX3_84 rfl dX3_bands_39 ?_
        refine a_aload_n X dX3_bands_42 rfl 1 rfl ?_
        refine a_getI (k := 3) X fw3 iz_0 rfl flX3_26 rfl dX3_bands_43 ?_
        refine a_cSi (As := [.int (gI M_1 n_2 2), .int (gI M_1 0 3)]) (st := [.int v2, .ref (al (n_2 + 5)), .ref (al 0)]) X (cX3_boundOf_ok l h) mlX3_93 msX3_boundOf (rz rfl) (Nat.le_of_ble_eq_true rfl) rfl dX3_bands_46 (fun r_8 M_7 h => ?_)
        refine a_cVi (As := [.int v2, .int r_8]) (st := [.ref (al 0)]) X fw0 in_2.str.2 (cX0_tuplesOfBand_ok l in_2.str.2 h) mlX3_194 mvX0_tuplesOfBand (rz rfl) (Nat.le_of_ble_eq_true rfl) rfl dX3_bands_49 (fun r_10 M_9 h => ?_)
        refine a_cVi (As := [.int r_10]) (st := []) X fw3 iz_0 (cX3_pass_ok l h) mlX3_74 mvX3_pass (rz rfl) (Nat.le_of_ble_eq_true rfl) rfl dX3_bands_52 (fun r_12 M_11 h => ?_)
        exact a_iret X h dX3_bands_55
      · have h := h.2 z
        refine a_aload_n X dX3_bands_26 rfl 1 rfl ?_
        refine a_iconst (v := 2) X dX3_bands_27 ic_2 ?_
        refine a_cVi (As := [.int 2]) (st := []) X fw3 iz_0 (cX3_refuse_ok l h) mlX3_58 mvX3_refuse (rz rfl) (Nat.le_of_ble_eq_true rfl) rfl dX3_bands_28 (fun r_14 M_13 h => ?_)
        exact a_iret X h dX3_bands_31
abbrev rm_X3_bar : Room := { frames := 4, cells := 0, slots := 0, locals := 86 }
def wpX3_bar (mk : Nat) (M : Mem) (v1 : Int32) (v2 : Int32) (v3 : Int32) (v4 : Int32) (Q : Int32 → Mem → Prop) : Prop := wpX3_find mk M v1 (fun o M_1 => (o = none → wpX3_refuse M_1 1 (fun r_4 M_3 => Q r_4 M_3)) ∧ (∀ n_2 : Nat, o = some n_2 → wpX3_isShare M_1 v3 (fun r_6 M_5 => ((r_6 = 0 → wpX3_refuse M_5 2 (fun r_8 M_7 => Q r_8 M_7)) ∧ (¬ r_6 = 0 → ((v2 < 0 → wpX3_refuse M_5 2 (fun r_10 M_9 => Q r_10 M_9)) ∧ (¬ v2 < 0 → ((v2 < v3 → ((¬ (gI M_5 n_2 2) = 0 → wpX1_quotaPlace M_5 n_2 v2 v3 (fun r_12 M_11 => wpX0_nearest M_11 (n_2 + 5) r_12 0 (fun r_14 M_13 => wpX1_quotaPlace M_13 n_2 (v2 + 1) v3 (fun r_16 M_15 => wpX0_nearest M_15 (n_2 + 5) r_16 r_14 (fun r_18 M_17 => (vp_in r_14 1000 ∧ (vp_in r_18 1000 ∧ wpX0_countAbove M_17 (n_2 + 5) (gI M_17 ((n_2 + 5) + 1) (Int32.toNatClampNeg r_14)) (gI M_17 ((n_2 + 5) + 1) (Int32.toNatClampNeg r_18)) v4 (fun r_20 M_19 => wpX3_pass M_19 r_20 (fun r_22 M_21 => Q r_22 M_21))))))))) ∧ ((gI M_5 n_2 2) = 0 → wpX3_refuse M_5 5 (fun r_24 M_23 => Q r_24 M_23)))) ∧ (¬ v2 < v3 → wpX3_refuse M_5 2 (fun r_26 M_25 => Q r_26 M_25))))))))))
set_option maxHeartbeats 4000000 in
set_option maxRecDepth 100000 in
theorem cX3_bar_ok (l : Launch) {G : Gl} {al : Nat → Nat} {mk : Nat} {M : Mem} {v1 : Int32} {v2 : Int32} {v3 : Int32} {v4 : Int32} {Q : Int32 → Mem → Prop} (h : wpX3_bar mk M v1 v2 v3 v4 Q) : Kv l yX3_bar cX3_bar 8 (some .int) rm_X3_bar G al mk M [.ref (al 0), .int v1, .int v2, .int v3, .int v4] (QI G al mk Q) := by
  refine a_head (by decide) (Nat.le_of_ble_eq_true rfl) (fun p e s m below meth c X => ?_)
  have X : Cx p s m meth c G RX3 cX3_bar 8 (some .int) := X
  unfold wpX3_bar at h
  refine a_sub (ks := [0, 1, 2, 3, 4]) (lo' := [(0, .ref (al 0)), (1, .int v1), (2, .int v2), (3, .int v3), (4, .int v4)]) rfl ?_
  refine a_aload_n X dX3_bar_0 rfl 0 rfl ?_
  refine a_iload_n X dX3_bar_1 rfl 1 rfl ?_
  refine a_cVq (As := [.int v1]) (st := []) X fw3 iz_0 (cX3_find_ok l h) mlX3_80 mvX3_find (rz rfl) (Nat.le_of_ble_eq_true rfl) rfl dX3_bar_2 (fun M_1 h => ?_) (fun n_2 M_1 in_2 h => ?_)
  · have h := h.1 rfl
    refine a_astoreN (lo' := [(5, .null), (0, .ref (al 0)), (1, .int v1), (2, .int v2), (3, .int v3), (4, .int v4)]) X dX3_bar_5 (by decide) rfl ?_
    refine a_aloadN X dX3_bar_7 0 rfl ?_
    refine a_ifnonnullN X dX3_bar_9 ?_
    refine a_aload_n X dX3_bar_12 rfl 1 rfl ?_
    refine a_iconst (v := 1) X dX3_bar_13 ic_1 ?_
    refine a_cVi (As := [.int 1]) (st := []) X fw3 iz_0 (cX3_refuse_ok l h) mlX3_58 mvX3_refuse (rz rfl) (Nat.le_of_ble_eq_true rfl) rfl dX3_bar_14 (fun r_4 M_3 h => ?_)
    exact a_iret X h dX3_bar_17
  · have h := h.2 n_2 rfl
    refine a_astore (lo' := [(5, .ref (al n_2)), (0, .ref (al 0)), (1, .int v1), (2, .int v2), (3, .int v3), (4, .int v4)]) X dX3_bar_5 (by decide) rfl ?_
    refine a_aload X dX3_bar_7 0 rfl ?_
    refine a_ifnonnull (tgt := 18) X dX3_bar_9 (by decide) ?_
    refine a_iload_n X dX3_bar_18 rfl 4 rfl ?_
    refine a_cSi (As := [.int v3]) (st := []) X (cX3_isShare_ok l h) mlX3_155 msX3_isShare (rz rfl) (Nat.le_of_ble_eq_true rfl) rfl dX3_bar_19 (fun r_6 M_5 h => ?_)
    refine a_if_eq (tgt := 34) X dX3_bar_22 (by decide) (fun z => ?_) (fun z => ?_)
    · have h := h.1 z
      refine a_aload_n X dX3_bar_34 rfl 1 rfl ?_
      refine a_iconst (v := 2) X dX3_bar_35 ic_2 ?_
      refine a_cVi (As := [.int 2]) (st := []) X fw3 iz_0 (cX3_refuse_ok l h) mlX3_58 mvX3_refuse (rz rfl) (Nat.le_of_ble_eq_true rfl) rfl dX3_bar_36 (fun r_8 M_7 h => ?_)
      exact a_iret X h dX3_bar_39
    · have h := h.2 z
      refine a_iload_n X dX3_bar_25 rfl 3 rfl ?_
      refine a_if_lt (tgt := 34) X dX3_bar_26 (by decide) (fun z => ?_) (fun z => ?_)
      · have h := h.1 z
        refine a_aload_n X dX3_bar_34 rfl 1 rfl ?_
        refine a_iconst (v := 2) X dX3_bar_35 ic_2 ?_
        refine a_cVi (As := [.int 2]) (st := []) X fw3 iz_0 (cX3_refuse_ok l h) mlX3_58 mvX3_refuse (rz rfl) (Nat.le_of_ble_eq_true rfl) rfl dX3_bar_36 (fun r_10 M_9 h => ?_)
        exact a_iret X h dX3_bar_39
      · have h := h.2 z
        refine a_iload_n X dX3_bar_29 rfl 3 rfl ?_
        refine a_iload_n X dX3_bar_30 rfl 4 rfl ?_
        refine a_icmp_lt (tgt := 40) X dX3_bar_31 (by decide) (fun z => ?_) (fun z => ?_)
        · have h := h.1 z
          refine a_aload X dX3_bar_40 0 rfl ?_
          refine a_getI (k := 2) X fw1 in_2 rfl flX3_84 rfl dX3_bar_42 ?_
          refine a_if_ne (tgt := 54) X dX3_bar_45 (by decide) (fun z => ?_) (fun z => ?_)
          · have h := h.1 z
            refine a_aload X dX3_bar_54 0 rfl ?_
            refine a_getR (k := 0) X 5 (b := (n_2 + 5)) fw1 in_2 rfl rfl flX3_87 rfl dX3_bar_56 ?_
            refine a_aload X dX3_bar_59 0 rfl ?_
            refine a_iload_n X dX3_bar_61 rfl 3 rfl ?_
            refine a_iload_n X dX3_bar_62 rfl 4 rfl ?_
            refine a_cVi (As := [.int v2, .int v3]) (st := [.ref (al (n_2 + 5))]) X fw1 in_2 (cX1_quotaPlace_ok l in_2 h) mlX3_159 mvX1_quotaPlace (rz rfl) (Nat.le_of_ble_eq_true rfl) rfl dX3_bar_63 (fun r_12 M_11 h => ?_)
            refine a_iconst (v := 0) X dX3_bar_66 ic_0 ?_
            refine a_cVi (As := [.int r_12, .int 0]) (st := []) X fw0 in_2.str.2 (cX0_nearest_ok l in_2.str.2 h) mlX3_149 mvX0_nearest (rz rfl) (Nat.le_of_ble_eq_true rfl) rfl dX3_bar_67 (fun r_14 M_13 h => ?_)
            refine a_istore (lo' := [(6, .int r_14), (5, .ref (al n_2)), (0, .ref (al 0)), (1, .int v1), (2, .int v2), (3, .int v3), (4, .int v4)]) X dX3_bar_70 (by decide) rfl ?_
            refine a_aload X dX3_bar_72 1 rfl ?_
            refine a_getR (k := 0) X 5 (b := (n_2 + 5)) fw1 in_2 rfl rfl flX3_87 rfl dX3_bar_74 ?_
            refine a_aload X dX3_bar_77 1 rfl ?_
            refine a_iload_n X dX3_bar_79 rfl 4 rfl ?_
            refine a_iconst (v := 1) X dX3_bar_80 ic_1 ?_
            refine a_iadd X dX3_bar_81 ?_
            refine a_iload_n X dX3_bar_82 rfl 5 rfl ?_
            refine a_cVi (As := [.int (v2 + 1), .int v3]) (st := [.ref (al (n_2 + 5))]) X fw1 in_2 (cX1_quotaPlace_ok l in_2 h) mlX3_159 mvX1_quotaPlace (rz rfl) (Nat.le_of_ble_eq_true rfl) rfl dX3_bar_83 (fun r_16 M_15 h => ?_)
            refine a_iload X dX3_bar_86 0 rfl ?_
            refine a_cVi (As := [.int r_16, .int r_14]) (st := []) X fw0 in_2.str.2 (cX0_nearest_ok l in_2.str.2 h) mlX3_149 mvX0_nearest (rz rfl) (Nat.le_of_ble_eq_true rfl) rfl dX3_bar_88 (fun r_18 M_17 h => ?_)
            refine a_istore (lo' := [(7, .int r_18), (6, .int r_14), (5, .ref (al n_2)), (0, .ref (al 0)), (1, .int v1), (2, .int v2), (3, .int v3), (4, .int v4)]) X dX3_bar_91 (by decide) rfl ?_
            refine a_aload_n X dX3_bar_93 rfl 3 rfl ?_
            refine a_aload X dX3_bar_94 2 rfl ?_
            refine a_getR (k := 0) X 5 (b := (n_2 + 5)) fw1 in_2 rfl rfl flX3_87 rfl dX3_bar_96 ?_
            refine a_aload X dX3_bar_99 2 rfl ?_
            refine a_getR (k := 0) X 5 (b := (n_2 + 5)) fw1 in_2 rfl rfl flX3_87 rfl dX3_bar_101 ?_
            refine a_getR (k := 0) X 1 (b := ((n_2 + 5) + 1)) fw0 in_2.str.2 rfl rfl flX3_106 rfl dX3_bar_104 ?_
            refine a_iload X dX3_bar_107 1 rfl ?_
            refine a_iald X in_2.str.2.row.1 h.1 dX3_bar_109 ?_
            have h := h.2
            refine a_aload X dX3_bar_110 2 rfl ?_
            refine a_getR (k := 0) X 5 (b := (n_2 + 5)) fw1 in_2 rfl rfl flX3_87 rfl dX3_bar_112 ?_
            refine a_getR (k := 0) X 1 (b := ((n_2 + 5) + 1)) fw0 in_2.str.2 rfl rfl flX3_106 rfl dX3_bar_115 ?_
            refine a_iload X dX3_bar_118 0 rfl ?_
            refine a_iald X in_2.str.2.row.1 h.1 dX3_bar_120 ?_
            have h := h.2
            refine a_iload X dX3_bar_121 7 rfl ?_
            refine a_cVi (As := [.int (gI M_17 ((n_2 + 5) + 1) (Int32.toNatClampNeg r_14)), .int (gI M_17 ((n_2 + 5) + 1) (Int32.toNatClampNeg r_18)), .int v4]) (st := [.ref (al 0)]) X fw0 in_2.str.2 (cX0_countAbove_ok l in_2.str.2 h) mlX3_171 mvX0_countAbove (rz rfl) (Nat.le_of_ble_eq_true rfl) rfl dX3_bar_123 (fun r_20 M_19 h => ?_)
            refine a_cVi (As := [.int r_20]) (st := []) X fw3 iz_0 (cX3_pass_ok l h) mlX3_74 mvX3_pass (rz rfl) (Nat.le_of_ble_eq_true rfl) rfl dX3_bar_126 (fun r_22 M_21 h => ?_)
            exact a_iret X h dX3_bar_129
          · have h := h.2 z
            refine a_aload_n X dX3_bar_48 rfl 1 rfl ?_
            refine a_iconst (v := 5) X dX3_bar_49 ic_5 ?_
            refine a_cVi (As := [.int 5]) (st := []) X fw3 iz_0 (cX3_refuse_ok l h) mlX3_58 mvX3_refuse (rz rfl) (Nat.le_of_ble_eq_true rfl) rfl dX3_bar_50 (fun r_24 M_23 h => ?_)
            exact a_iret X h dX3_bar_53
        · have h := h.2 z
          refine a_aload_n X dX3_bar_34 rfl 1 rfl ?_
          refine a_iconst (v := 2) X dX3_bar_35 ic_2 ?_
          refine a_cVi (As := [.int 2]) (st := []) X fw3 iz_0 (cX3_refuse_ok l h) mlX3_58 mvX3_refuse (rz rfl) (Nat.le_of_ble_eq_true rfl) rfl dX3_bar_36 (fun r_26 M_25 h => ?_)
          exact a_iret X h dX3_bar_39
abbrev rm_X3_uneven : Room := { frames := 5, cells := 0, slots := 0, locals := 112 }
def wpX3_uneven (mk : Nat) (M : Mem) (v1 : Int32) (v2 : Int32) (Q : Int32 → Mem → Prop) : Prop := wpX3_find mk M v1 (fun o M_1 => (o = none → wpX3_refuse M_1 1 (fun r_4 M_3 => Q r_4 M_3)) ∧ (∀ n_2 : Nat, o = some n_2 → wpX3_isShare M_1 v2 (fun r_6 M_5 => ((¬ r_6 = 0 → ((¬ (gI M_5 n_2 2) = 0 → wpX1_unevenness M_5 n_2 v2 (fun r_8 M_7 => wpX3_pass M_7 r_8 (fun r_10 M_9 => Q r_10 M_9))) ∧ ((gI M_5 n_2 2) = 0 → wpX3_refuse M_5 5 (fun r_12 M_11 => Q r_12 M_11)))) ∧ (r_6 = 0 → wpX3_refuse M_5 2 (fun r_14 M_13 => Q r_14 M_13))))))
set_option maxHeartbeats 4000000 in
set_option maxRecDepth 100000 in
theorem cX3_uneven_ok (l : Launch) {G : Gl} {al : Nat → Nat} {mk : Nat} {M : Mem} {v1 : Int32} {v2 : Int32} {Q : Int32 → Mem → Prop} (h : wpX3_uneven mk M v1 v2 Q) : Kv l yX3_uneven cX3_uneven 4 (some .int) rm_X3_uneven G al mk M [.ref (al 0), .int v1, .int v2] (QI G al mk Q) := by
  refine a_head (by decide) (Nat.le_of_ble_eq_true rfl) (fun p e s m below meth c X => ?_)
  have X : Cx p s m meth c G RX3 cX3_uneven 4 (some .int) := X
  unfold wpX3_uneven at h
  refine a_sub (ks := [0, 1, 2]) (lo' := [(0, .ref (al 0)), (1, .int v1), (2, .int v2)]) rfl ?_
  refine a_aload_n X dX3_uneven_0 rfl 0 rfl ?_
  refine a_iload_n X dX3_uneven_1 rfl 1 rfl ?_
  refine a_cVq (As := [.int v1]) (st := []) X fw3 iz_0 (cX3_find_ok l h) mlX3_80 mvX3_find (rz rfl) (Nat.le_of_ble_eq_true rfl) rfl dX3_uneven_2 (fun M_1 h => ?_) (fun n_2 M_1 in_2 h => ?_)
  · have h := h.1 rfl
    refine a_astore_nN (lo' := [(3, .null), (0, .ref (al 0)), (1, .int v1), (2, .int v2)]) X dX3_uneven_5 rfl (by decide) rfl ?_
    refine a_aload_nN X dX3_uneven_6 rfl 0 rfl ?_
    refine a_ifnonnullN X dX3_uneven_7 ?_
    refine a_aload_n X dX3_uneven_10 rfl 1 rfl ?_
    refine a_iconst (v := 1) X dX3_uneven_11 ic_1 ?_
    refine a_cVi (As := [.int 1]) (st := []) X fw3 iz_0 (cX3_refuse_ok l h) mlX3_58 mvX3_refuse (rz rfl) (Nat.le_of_ble_eq_true rfl) rfl dX3_uneven_12 (fun r_4 M_3 h => ?_)
    exact a_iret X h dX3_uneven_15
  · have h := h.2 n_2 rfl
    refine a_astore_n (lo' := [(3, .ref (al n_2)), (0, .ref (al 0)), (1, .int v1), (2, .int v2)]) X dX3_uneven_5 rfl (by decide) rfl ?_
    refine a_aload_n X dX3_uneven_6 rfl 0 rfl ?_
    refine a_ifnonnull (tgt := 16) X dX3_uneven_7 (by decide) ?_
    refine a_iload_n X dX3_uneven_16 rfl 3 rfl ?_
    refine a_cSi (As := [.int v2]) (st := []) X (cX3_isShare_ok l h) mlX3_155 msX3_isShare (rz rfl) (Nat.le_of_ble_eq_true rfl) rfl dX3_uneven_17 (fun r_6 M_5 h => ?_)
    refine a_if_ne (tgt := 29) X dX3_uneven_20 (by decide) (fun z => ?_) (fun z => ?_)
    · have h := h.1 z
      refine a_aload_n X dX3_uneven_29 rfl 0 rfl ?_
      refine a_getI (k := 2) X fw1 in_2 rfl flX3_84 rfl dX3_uneven_30 ?_
      refine a_if_ne (tgt := 42) X dX3_uneven_33 (by decide) (fun z => ?_) (fun z => ?_)
      · have h := h.1 z
        refine a_aload_n X dX3_uneven_42 rfl 1 rfl ?_
        refine a_aload_n X dX3_uneven_43 rfl 0 rfl ?_
        refine a_iload_n X dX3_uneven_44 rfl 3 rfl ?_
        refine a_cVi (As := [.int v2]) (st := [.ref (al 0)]) X fw1 in_2 (cX1_unevenness_ok l in_2 h) mlX3_197 mvX1_unevenness (rz rfl) (Nat.le_of_ble_eq_true rfl) rfl dX3_uneven_45 (fun r_8 M_7 h => ?_)
        refine a_cVi (As := [.int r_8]) (st := []) X fw3 iz_0 (cX3_pass_ok l h) mlX3_74 mvX3_pass (rz rfl) (Nat.le_of_ble_eq_true rfl) rfl dX3_uneven_48 (fun r_10 M_9 h => ?_)
        exact a_iret X h dX3_uneven_51
      · have h := h.2 z
        refine a_aload_n X dX3_uneven_36 rfl 1 rfl ?_
        refine a_iconst (v := 5) X dX3_uneven_37 ic_5 ?_
        refine a_cVi (As := [.int 5]) (st := []) X fw3 iz_0 (cX3_refuse_ok l h) mlX3_58 mvX3_refuse (rz rfl) (Nat.le_of_ble_eq_true rfl) rfl dX3_uneven_38 (fun r_12 M_11 h => ?_)
        exact a_iret X h dX3_uneven_41
    · have h := h.2 z
      refine a_aload_n X dX3_uneven_23 rfl 1 rfl ?_
      refine a_iconst (v := 2) X dX3_uneven_24 ic_2 ?_
      refine a_cVi (As := [.int 2]) (st := []) X fw3 iz_0 (cX3_refuse_ok l h) mlX3_58 mvX3_refuse (rz rfl) (Nat.le_of_ble_eq_true rfl) rfl dX3_uneven_25 (fun r_14 M_13 h => ?_)
      exact a_iret X h dX3_uneven_28
abbrev rm_X3_findOther : Room := { frames := 1, cells := 0, slots := 0, locals := 21 }
def wpX3_findOther (mk : Nat) (M : Mem) (v1 : Int32) (v2 : Int32) (Q : Option Nat → Mem → Prop) : Prop := ((¬ v1 = v2 → wpX3_find mk M v2 (fun o M_1 => (o = none → Q none M_1) ∧ (∀ n_2 : Nat, o = some n_2 → Q (some n_2) M_1))) ∧ (v1 = v2 → Q none M))
set_option maxHeartbeats 4000000 in
set_option maxRecDepth 100000 in
theorem cX3_findOther_ok (l : Launch) {G : Gl} {al : Nat → Nat} {mk : Nat} {M : Mem} {v1 : Int32} {v2 : Int32} {Q : Option Nat → Mem → Prop} (h : wpX3_findOther mk M v1 v2 Q) : Kv l yX3_findOther cX3_findOther 3 (some (.object "GapRows$Stream")) rm_X3_findOther G al mk M [.ref (al 0), .int v1, .int v2] (QQ G al mk Q) := by
  refine a_head (by decide) (Nat.le_of_ble_eq_true rfl) (fun p e s m below meth c X => ?_)
  have X : Cx p s m meth c G RX3 cX3_findOther 3 (some (.object "GapRows$Stream")) := X
  unfold wpX3_findOther at h
  refine a_sub (ks := [0, 1, 2]) (lo' := [(0, .ref (al 0)), (1, .int v1), (2, .int v2)]) rfl ?_
  refine a_iload_n X dX3_findOther_0 rfl 1 rfl ?_
  refine a_iload_n X dX3_findOther_1 rfl 2 rfl ?_
  refine a_icmp_ne (tgt := 9) X dX3_findOther_2 (by decide) (fun z => ?_) (fun z => ?_)
  · have h := h.1 z
    refine a_aload_n X dX3_findOther_9 rfl 0 rfl ?_
    refine a_iload_n X dX3_findOther_10 rfl 2 rfl ?_
    refine a_cVq (As := [.int v2]) (st := []) X fw3 iz_0 (cX3_find_ok l h) mlX3_80 mvX3_find (rz rfl) (Nat.le_of_ble_eq_true rfl) rfl dX3_findOther_11 (fun M_1 h => ?_) (fun n_2 M_1 in_2 h => ?_)
    · have h := h.1 rfl
      exact a_qretN X h dX3_findOther_14
    · have h := h.2 n_2 rfl
      exact a_qret X in_2 h dX3_findOther_14
  · have h := h.2 z
    refine a_null X dX3_findOther_5 ?_
    refine a_goto (tgt := 14) X dX3_findOther_6 (by decide) ?_
    exact a_qretN X h dX3_findOther_14
abbrev rm_X3_countMeets : Room := { frames := 3, cells := 0, slots := 0, locals := 69 }
def wX3_countMeets_12 (Q : Int32 → Mem → Prop) (v0 : Nat) (v1 : Nat) (v2 : Int32) (v3 : Int32) : Nat → Mem → Int32 → Int32 → Int32 → Int32 → Prop
  | 0, _, _, _, _, _ => False
  | n + 1, M, v4, v5, v6, v7 => ((v2 < v7 → Q v4 M) ∧ (¬ v2 < v7 → wpX1_quotaPlace M v0 v7 v2 (fun r_2 M_1 => wpX0_nearest M_1 (v0 + 5) r_2 v5 (fun r_4 M_3 => wpX1_quotaPlace M_3 v1 v7 v2 (fun r_6 M_5 => wpX0_nearest M_5 (v1 + 5) r_6 v6 (fun r_8 M_7 => (vp_in r_4 1000 ∧ (∀ x_9 : Int32, x_9 = (gI M_7 ((v0 + 5) + 1) (Int32.toNatClampNeg r_4)) → (vp_in r_8 1000 ∧ (∀ x_10 : Int32, x_10 = (gI M_7 ((v1 + 5) + 1) (Int32.toNatClampNeg r_8)) → ((¬ x_9 = x_10 → ((x_10 ≤ x_9 → ((¬ 2 = v3 → wX3_countMeets_12 Q v0 v1 v2 v3 n M_7 v4 r_4 r_8 (v7 + 1)) ∧ (2 = v3 → wX3_countMeets_12 Q v0 v1 v2 v3 n M_7 (v4 + 1) r_4 r_8 (v7 + 1)))) ∧ (¬ x_10 ≤ x_9 → ((¬ 1 = v3 → wX3_countMeets_12 Q v0 v1 v2 v3 n M_7 v4 r_4 r_8 (v7 + 1)) ∧ (1 = v3 → wX3_countMeets_12 Q v0 v1 v2 v3 n M_7 (v4 + 1) r_4 r_8 (v7 + 1)))))) ∧ (x_9 = x_10 → ((¬ 0 = v3 → wX3_countMeets_12 Q v0 v1 v2 v3 n M_7 v4 r_4 r_8 (v7 + 1)) ∧ (0 = v3 → wX3_countMeets_12 Q v0 v1 v2 v3 n M_7 (v4 + 1) r_4 r_8 (v7 + 1)))))))))))))))
def wpX3_countMeets (M : Mem) (v0 : Nat) (v1 : Nat) (v2 : Int32) (v3 : Int32) (Q : Int32 → Mem → Prop) : Prop := ∃ n, wX3_countMeets_12 Q v0 v1 v2 v3 n M 0 0 0 0
set_option maxHeartbeats 4000000 in
set_option maxRecDepth 100000 in
theorem tX3_countMeets_12 (X : Cx p s m meth c G RX3 cX3_countMeets 11 (some .int)) {Q : Int32 → Mem → Prop} {v0 : Nat} {v1 : Nat} {v2 : Int32} {v3 : Int32} (i0 : Iz mk v0 (1, 0)) (i1 : Iz mk v1 (1, 0)) : ∀ (n : Nat) (M : Mem) (v4 : Int32) (v5 : Int32) (v6 : Int32) (v7 : Int32), wX3_countMeets_12 Q v0 v1 v2 v3 n M v4 v5 v6 v7 → Wa p l e rm_X3_countMeets s m args below meth c 11 G al mk 0 0 (MQ below (QI G al mk Q) args s 0 0 (gA G)) M 12 [(0, .ref (al v0)), (1, .ref (al v1)), (2, .int v2), (3, .int v3), (4, .int v4), (5, .int v5), (6, .int v6), (7, .int v7)] [] := by
  intro n
  induction n with
  | zero =>
    intro M v4 v5 v6 v7 h
    exact False.elim h
  | succ n ih =>
    intro M v4 v5 v6 v7 h
    rw [wX3_countMeets_12] at h
    refine a_iload X dX3_countMeets_12 7 rfl ?_
    refine a_iload_n X dX3_countMeets_14 rfl 2 rfl ?_
    refine a_icmp_gt (tgt := 118) X dX3_countMeets_15 (by decide) (fun z => ?_) (fun z => ?_)
    · have h := h.1 z
      refine a_iload X dX3_countMeets_118 4 rfl ?_
      exact a_iret X h dX3_countMeets_120
    · have h := h.2 z
      refine a_aload_n X dX3_countMeets_18 rfl 0 rfl ?_
      refine a_getR (k := 0) X 5 (b := (v0 + 5)) fw1 i0 rfl rfl flX3_87 rfl dX3_countMeets_19 ?_
      refine a_aload_n X dX3_countMeets_22 rfl 0 rfl ?_
      refine a_iload X dX3_countMeets_23 7 rfl ?_
      refine a_iload_n X dX3_countMeets_25 rfl 2 rfl ?_
      refine a_cVi (As := [.int v7, .int v2]) (st := [.ref (al (v0 + 5))]) X fw1 i0 (cX1_quotaPlace_ok l i0 h) mlX3_159 mvX1_quotaPlace (rz rfl) (Nat.le_of_ble_eq_true rfl) rfl dX3_countMeets_26 (fun r_2 M_1 h => ?_)
      refine a_iload X dX3_countMeets_29 5 rfl ?_
      refine a_cVi (As := [.int r_2, .int v5]) (st := []) X fw0 i0.str.2 (cX0_nearest_ok l i0.str.2 h) mlX3_149 mvX0_nearest (rz rfl) (Nat.le_of_ble_eq_true rfl) rfl dX3_countMeets_31 (fun r_4 M_3 h => ?_)
      refine a_istore (lo' := [(5, .int r_4), (0, .ref (al v0)), (1, .ref (al v1)), (2, .int v2), (3, .int v3), (4, .int v4), (6, .int v6), (7, .int v7)]) X dX3_countMeets_34 (by decide) rfl ?_
      refine a_aload_n X dX3_countMeets_36 rfl 2 rfl ?_
      refine a_getR (k := 0) X 5 (b := (v1 + 5)) fw1 i1 rfl rfl flX3_87 rfl dX3_countMeets_37 ?_
      refine a_aload_n X dX3_countMeets_40 rfl 2 rfl ?_
      refine a_iload X dX3_countMeets_41 7 rfl ?_
      refine a_iload_n X dX3_countMeets_43 rfl 3 rfl ?_
      refine a_cVi (As := [.int v7, .int v2]) (st := [.ref (al (v1 + 5))]) X fw1 i1 (cX1_quotaPlace_ok l i1 h) mlX3_159 mvX1_quotaPlace (rz rfl) (Nat.le_of_ble_eq_true rfl) rfl dX3_countMeets_44 (fun r_6 M_5 h => ?_)
      refine a_iload X dX3_countMeets_47 6 rfl ?_
      refine a_cVi (As := [.int r_6, .int v6]) (st := []) X fw0 i1.str.2 (cX0_nearest_ok l i1.str.2 h) mlX3_149 mvX0_nearest (rz rfl) (Nat.le_of_ble_eq_true rfl) rfl dX3_countMeets_49 (fun r_8 M_7 h => ?_)
      refine a_istore (lo' := [(6, .int r_8), (5, .int r_4), (0, .ref (al v0)), (1, .ref (al v1)), (2, .int v2), (3, .int v3), (4, .int v4), (7, .int v7)]) X dX3_countMeets_52 (by decide) rfl ?_
      refine a_aload_n X dX3_countMeets_54 rfl 2 rfl ?_
      refine a_getR (k := 0) X 5 (b := (v0 + 5)) fw1 i0 rfl rfl flX3_87 rfl dX3_countMeets_55 ?_
      refine a_getR (k := 0) X 1 (b := ((v0 + 5) + 1)) fw0 i0.str.2 rfl rfl flX3_106 rfl dX3_countMeets_58 ?_
      refine a_iload X dX3_countMeets_61 1 rfl ?_
      refine a_iald X i0.str.2.row.1 h.1 dX3_countMeets_63 ?_
      have h := h.2
      refine a_topi (fun x_9 ex_9 => ?_)
      have h := h x_9 ex_9
      refine a_istore (lo' := [(8, .int x_9), (6, .int r_8), (5, .int r_4), (0, .ref (al v0)), (1, .ref (al v1)), (2, .int v2), (3, .int v3), (4, .int v4), (7, .int v7)]) X dX3_countMeets_64 (by decide) rfl ?_
      refine a_aload_n X dX3_countMeets_66 rfl 4 rfl ?_
      refine a_getR (k := 0) X 5 (b := (v1 + 5)) fw1 i1 rfl rfl flX3_87 rfl dX3_countMeets_67 ?_
      refine a_getR (k := 0) X 1 (b := ((v1 + 5) + 1)) fw0 i1.str.2 rfl rfl flX3_106 rfl dX3_countMeets_70 ?_
      refine a_iload X dX3_countMeets_73 1 rfl ?_
      refine a_iald X i1.str.2.row.1 h.1 dX3_countMeets_75 ?_
      have h := h.2
      refine a_topi (fun x_10 ex_10 => ?_)
      have h := h x_10 ex_10
      refine a_istore (lo' := [(9, .int x_10), (8, .int x_9), (6, .int r_8), (5, .int r_4), (0, .ref (al v0)), (1, .ref (al v1)), (2, .int v2), (3, .int v3), (4, .int v4), (7, .int v7)]) X dX3_countMeets_76 (by decide) rfl ?_
      refine a_iload X dX3_countMeets_78 1 rfl ?_
      refine a_iload X dX3_countMeets_80 0 rfl ?_
      refine a_icmp_ne (tgt := 89) X dX3_countMeets_82 (by decide) (fun z => ?_) (fun z => ?_)
      · have h := h.1 z
        refine a_iload X dX3_countMeets_89 1 rfl ?_
        refine a_iload X dX3_countMeets_91 0 rfl ?_
        refine a_icmp_ge (tgt := 100) X dX3_countMeets_93 (by decide) (fun z => ?_) (fun z => ?_)
        · have h := h.1 z
          refine a_iconst (v := 2) X dX3_countMeets_100 ic_2 ?_
          refine a_istore (lo' := [(10, .int 2), (9, .int x_10), (8, .int x_9), (6, .int r_8), (5, .int r_4), (0, .ref (al v0)), (1, .ref (al v1)), (2, .int v2), (3, .int v3), (4, .int v4), (7, .int v7)]) X dX3_countMeets_101 (by decide) rfl ?_
          refine a_iload X dX3_countMeets_103 0 rfl ?_
          refine a_iload_n X dX3_countMeets_105 rfl 8 rfl ?_
          refine a_icmp_ne (tgt := 112) X dX3_countMeets_106 (by decide) (fun z => ?_) (fun z => ?_)
          · have h := h.1 z
            refine a_iinc (v := v7 + 1) (lo' := [(7, .int (v7 + 1)), (10, .int 2), (9, .int x_10), (8, .int x_9), (6, .int r_8), (5, .int r_4), (0, .ref (al v0)), (1, .ref (al v1)), (2, .int v2), (3, .int v3), (4, .int v4)]) X dX3_countMeets_112 10 rfl (ii_1 _) (by decide) rfl ?_
            refine a_goto (tgt := 12) X dX3_countMeets_115 (by decide) ?_
            refine a_sub (ks := [6, 7, 8, 9, 10, 5, 4, 0]) (lo' := [(0, .ref (al v0)), (1, .ref (al v1)), (2, .int v2), (3, .int v3), (4, .int v4), (5, .int r_4), (6, .int r_8), (7, .int (v7 + 1))]) rfl ?_
            exact ih _ _ _ _ _ h
          · have h := h.2 z
            refine a_iinc (v := v4 + 1) (lo' := [(4, .int (v4 + 1)), (10, .int 2), (9, .int x_10), (8, .int x_9), (6, .int r_8), (5, .int r_4), (0, .ref (al v0)), (1, .ref (al v1)), (2, .int v2), (3, .int v3), (7, .int v7)]) X dX3_countMeets_109 9 rfl (ii_1 _) (by decide) rfl ?_
            refine a_iinc (v := v7 + 1) (lo' := [(7, .int (v7 + 1)), (4, .int (v4 + 1)), (10, .int 2), (9, .int x_10), (8, .int x_9), (6, .int r_8), (5, .int r_4), (0, .ref (al v0)), (1, .ref (al v1)), (2, .int v2), (3, .int v3)]) X dX3_countMeets_112 10 rfl (ii_1 _) (by decide) rfl ?_
            refine a_goto (tgt := 12) X dX3_countMeets_115 (by decide) ?_
            refine a_sub (ks := [7, 8, 9, 10, 1, 6, 5, 0]) (lo' := [(0, .ref (al v0)), (1, .ref (al v1)), (2, .int v2), (3, .int v3), (4, .int (v4 + 1)), (5, .int r_4), (6, .int r_8), (7, .int (v7 + 1))]) rfl ?_
            exact ih _ _ _ _ _ h
        · have h := h.2 z
          refine a_iconst (v := 1) X dX3_countMeets_96 ic_1 ?_
          refine a_goto (tgt := 101) X dX3_countMeets_97 (by decide) ?_
          refine a_istore (lo' := [(10, .int 1), (9, .int x_10), (8, .int x_9), (6, .int r_8), (5, .int r_4), (0, .ref (al v0)), (1, .ref (al v1)), (2, .int v2), (3, .int v3), (4, .int v4), (7, .int v7)]) X dX3_countMeets_101 (by decide) rfl ?_
          refine a_iload X dX3_countMeets_103 0 rfl ?_
          refine a_iload_n X dX3_countMeets_105 rfl 8 rfl ?_
          refine a_icmp_ne (tgt := 112) X dX3_countMeets_106 (by decide) (fun z => ?_) (fun z => ?_)
          · have h := h.1 z
            refine a_iinc (v := v7 + 1) (lo' := [(7, .int (v7 + 1)), (10, .int 1), (9, .int x_10), (8, .int x_9), (6, .int r_8), (5, .int r_4), (0, .ref (al v0)), (1, .ref (al v1)), (2, .int v2), (3, .int v3), (4, .int v4)]) X dX3_countMeets_112 10 rfl (ii_1 _) (by decide) rfl ?_
            refine a_goto (tgt := 12) X dX3_countMeets_115 (by decide) ?_
            refine a_sub (ks := [6, 7, 8, 9, 10, 5, 4, 0]) (lo' := [(0, .ref (al v0)), (1, .ref (al v1)), (2, .int v2), (3, .int v3), (4, .int v4), (5, .int r_4), (6, .int r_8), (7, .int (v7 + 1))]) rfl ?_
            exact ih _ _ _ _ _ h
          · have h := h.2 z
            refine a_iinc (v := v4 + 1) (lo' := [(4, .int (v4 + 1)), (10, .int 1), (9, .int x_10), (8, .int x_9), (6, .int r_8), (5, .int r_4), (0, .ref (al v0)), (1, .ref (al v1)), (2, .int v2), (3, .int v3), (7, .int v7)]) X dX3_countMeets_109 9 rfl (ii_1 _) (by decide) rfl ?_
            refine a_iinc (v := v7 + 1) (lo' := [(7, .int (v7 + 1)), (4, .int (v4 + 1)), (10, .int 1), (9, .int x_10), (8, .int x_9), (6, .int r_8), (5, .int r_4), (0, .ref (al v0)), (1, .ref (al v1)), (2, .int v2), (3, .int v3)]) X dX3_countMeets_112 10 rfl (ii_1 _) (by decide) rfl ?_
            refine a_goto (tgt := 12) X dX3_countMeets_115 (by decide) ?_
            refine a_sub (ks := [7, 8, 9, 10, 1, 6, 5, 0]) (lo' := [(0, .ref (al v0)), (1, .ref (al v1)), (2, .int v2), (3, .int v3), (4, .int (v4 + 1)), (5, .int r_4), (6, .int r_8), (7, .int (v7 + 1))]) rfl ?_
            exact ih _ _ _ _ _ h
      · have h := h.2 z
        refine a_iconst (v := 0) X dX3_countMeets_85 ic_0 ?_
        refine a_goto (tgt := 101) X dX3_countMeets_86 (by decide) ?_
        refine a_istore (lo' := [(10, .int 0), (9, .int x_10), (8, .int x_9), (6, .int r_8), (5, .int r_4), (0, .ref (al v0)), (1, .ref (al v1)), (2, .int v2), (3, .int v3), (4, .int v4), (7, .int v7)]) X dX3_countMeets_101 (by decide) rfl ?_
        refine a_iload X dX3_countMeets_103 0 rfl ?_
        refine a_iload_n X dX3_countMeets_105 rfl 8 rfl ?_
        refine a_icmp_ne (tgt := 112) X dX3_countMeets_106 (by decide) (fun z => ?_) (fun z => ?_)
        · have h := h.1 z
          refine a_iinc (v := v7 + 1) (lo' := [(7, .int (v7 + 1)), (10, .int 0), (9, .int x_10), (8, .int x_9), (6, .int r_8), (5, .int r_4), (0, .ref (al v0)), (1, .ref (al v1)), (2, .int v2), (3, .int v3), (4, .int v4)]) X dX3_countMeets_112 10 rfl (ii_1 _) (by decide) rfl ?_
          refine a_goto (tgt := 12) X dX3_countMeets_115 (by decide) ?_
          refine a_sub (ks := [6, 7, 8, 9, 10, 5, 4, 0]) (lo' := [(0, .ref (al v0)), (1, .ref (al v1)), (2, .int v2), (3, .int v3), (4, .int v4), (5, .int r_4), (6, .int r_8), (7, .int (v7 + 1))]) rfl ?_
          exact ih _ _ _ _ _ h
        · have h := h.2 z
          refine a_iinc (v := v4 + 1) (lo' := [(4, .int (v4 + 1)), (10, .int 0), (9, .int x_10), (8, .int x_9), (6, .int r_8), (5, .int r_4), (0, .ref (al v0)), (1, .ref (al v1)), (2, .int v2), (3, .int v3), (7, .int v7)]) X dX3_countMeets_109 9 rfl (ii_1 _) (by decide) rfl ?_
          refine a_iinc (v := v7 + 1) (lo' := [(7, .int (v7 + 1)), (4, .int (v4 + 1)), (10, .int 0), (9, .int x_10), (8, .int x_9), (6, .int r_8), (5, .int r_4), (0, .ref (al v0)), (1, .ref (al v1)), (2, .int v2), (3, .int v3)]) X dX3_countMeets_112 10 rfl (ii_1 _) (by decide) rfl ?_
          refine a_goto (tgt := 12) X dX3_countMeets_115 (by decide) ?_
          refine a_sub (ks := [7, 8, 9, 10, 1, 6, 5, 0]) (lo' := [(0, .ref (al v0)), (1, .ref (al v1)), (2, .int v2), (3, .int v3), (4, .int (v4 + 1)), (5, .int r_4), (6, .int r_8), (7, .int (v7 + 1))]) rfl ?_
          exact ih _ _ _ _ _ h
set_option maxHeartbeats 4000000 in
set_option maxRecDepth 100000 in
theorem cX3_countMeets_ok (l : Launch) {G : Gl} {al : Nat → Nat} {mk : Nat} {M : Mem} {v0 : Nat} {v1 : Nat} {v2 : Int32} {v3 : Int32} {Q : Int32 → Mem → Prop} (i0 : Iz mk v0 (1, 0)) (i1 : Iz mk v1 (1, 0)) (h : wpX3_countMeets M v0 v1 v2 v3 Q) : Kv l yX3_countMeets cX3_countMeets 11 (some .int) rm_X3_countMeets G al mk M [.ref (al v0), .ref (al v1), .int v2, .int v3] (QI G al mk Q) := by
  refine a_head (by decide) (Nat.le_of_ble_eq_true rfl) (fun p e s m below meth c X => ?_)
  have X : Cx p s m meth c G RX3 cX3_countMeets 11 (some .int) := X
  unfold wpX3_countMeets at h
  refine a_sub (ks := [0, 1, 2, 3]) (lo' := [(0, .ref (al v0)), (1, .ref (al v1)), (2, .int v2), (3, .int v3)]) rfl ?_
  refine a_iconst (v := 0) X dX3_countMeets_0 ic_0 ?_
  refine a_istore (lo' := [(4, .int 0), (0, .ref (al v0)), (1, .ref (al v1)), (2, .int v2), (3, .int v3)]) X dX3_countMeets_1 (by decide) rfl ?_
  refine a_iconst (v := 0) X dX3_countMeets_3 ic_0 ?_
  refine a_istore (lo' := [(5, .int 0), (4, .int 0), (0, .ref (al v0)), (1, .ref (al v1)), (2, .int v2), (3, .int v3)]) X dX3_countMeets_4 (by decide) rfl ?_
  refine a_iconst (v := 0) X dX3_countMeets_6 ic_0 ?_
  refine a_istore (lo' := [(6, .int 0), (5, .int 0), (4, .int 0), (0, .ref (al v0)), (1, .ref (al v1)), (2, .int v2), (3, .int v3)]) X dX3_countMeets_7 (by decide) rfl ?_
  refine a_iconst (v := 0) X dX3_countMeets_9 ic_0 ?_
  refine a_istore (lo' := [(7, .int 0), (6, .int 0), (5, .int 0), (4, .int 0), (0, .ref (al v0)), (1, .ref (al v1)), (2, .int v2), (3, .int v3)]) X dX3_countMeets_10 (by decide) rfl ?_
  refine a_sub (ks := [4, 5, 6, 7, 3, 2, 1, 0]) (lo' := [(0, .ref (al v0)), (1, .ref (al v1)), (2, .int v2), (3, .int v3), (4, .int 0), (5, .int 0), (6, .int 0), (7, .int 0)]) rfl ?_
  obtain ⟨n9, h⟩ := h
  exact tX3_countMeets_12 X i0 i1 n9 _ _ _ _ _ h
abbrev rm_X3_meets : Room := { frames := 4, cells := 0, slots := 0, locals := 99 }
def wpX3_meets (mk : Nat) (M : Mem) (v1 : Int32) (v2 : Int32) (v3 : Int32) (v4 : Int32) (Q : Int32 → Mem → Prop) : Prop := wpX3_find mk M v1 (fun o M_1 => (o = none → wpX3_findOther mk M_1 v1 v2 (fun o M_3 => (o = none → wpX3_refuse M_3 1 (fun r_6 M_5 => Q r_6 M_5)) ∧ (∀ n_4 : Nat, o = some n_4 → wpX3_refuse M_3 1 (fun r_8 M_7 => Q r_8 M_7)))) ∧ (∀ n_2 : Nat, o = some n_2 → wpX3_findOther mk M_1 v1 v2 (fun o M_9 => (o = none → wpX3_refuse M_9 1 (fun r_12 M_11 => Q r_12 M_11)) ∧ (∀ n_10 : Nat, o = some n_10 → ((v4 < 0 → wpX3_refuse M_9 1 (fun r_14 M_13 => Q r_14 M_13)) ∧ (¬ v4 < 0 → ((v4 ≤ 2 → wpX3_isShare M_9 v3 (fun r_16 M_15 => ((¬ r_16 = 0 → (((gI M_15 n_2 2) = 0 → wpX3_refuse M_15 5 (fun r_18 M_17 => Q r_18 M_17)) ∧ (¬ (gI M_15 n_2 2) = 0 → ((¬ (gI M_15 n_10 2) = 0 → wpX3_countMeets M_15 n_2 n_10 v3 v4 (fun r_20 M_19 => wpX3_pass M_19 r_20 (fun r_22 M_21 => Q r_22 M_21))) ∧ ((gI M_15 n_10 2) = 0 → wpX3_refuse M_15 5 (fun r_24 M_23 => Q r_24 M_23)))))) ∧ (r_16 = 0 → wpX3_refuse M_15 2 (fun r_26 M_25 => Q r_26 M_25))))) ∧ (¬ v4 ≤ 2 → wpX3_refuse M_9 1 (fun r_28 M_27 => Q r_28 M_27)))))))))
set_option maxHeartbeats 4000000 in
set_option maxRecDepth 100000 in
theorem cX3_meets_ok (l : Launch) {G : Gl} {al : Nat → Nat} {mk : Nat} {M : Mem} {v1 : Int32} {v2 : Int32} {v3 : Int32} {v4 : Int32} {Q : Int32 → Mem → Prop} (h : wpX3_meets mk M v1 v2 v3 v4 Q) : Kv l yX3_meets cX3_meets 7 (some .int) rm_X3_meets G al mk M [.ref (al 0), .int v1, .int v2, .int v3, .int v4] (QI G al mk Q) := by
  refine a_head (by decide) (Nat.le_of_ble_eq_true rfl) (fun p e s m below meth c X => ?_)
  have X : Cx p s m meth c G RX3 cX3_meets 7 (some .int) := X
  unfold wpX3_meets at h
  refine a_sub (ks := [0, 1, 2, 3, 4]) (lo' := [(0, .ref (al 0)), (1, .int v1), (2, .int v2), (3, .int v3), (4, .int v4)]) rfl ?_
  refine a_aload_n X dX3_meets_0 rfl 0 rfl ?_
  refine a_iload_n X dX3_meets_1 rfl 1 rfl ?_
  refine a_cVq (As := [.int v1]) (st := []) X fw3 iz_0 (cX3_find_ok l h) mlX3_80 mvX3_find (rz rfl) (Nat.le_of_ble_eq_true rfl) rfl dX3_meets_2 (fun M_1 h => ?_) (fun n_2 M_1 in_2 h => ?_)
  · have h := h.1 rfl
    refine a_astoreN (lo' := [(5, .null), (0, .ref (al 0)), (1, .int v1), (2, .int v2), (3, .int v3), (4, .int v4)]) X dX3_meets_5 (by decide) rfl ?_
    refine a_aload_n X dX3_meets_7 rfl 1 rfl ?_
    refine a_iload_n X dX3_meets_8 rfl 2 rfl ?_
    refine a_iload_n X dX3_meets_9 rfl 3 rfl ?_
    refine a_cVq (As := [.int v1, .int v2]) (st := []) X fw3 iz_0 (cX3_findOther_ok l h) mlX3_200 mvX3_findOther (rz rfl) (Nat.le_of_ble_eq_true rfl) rfl dX3_meets_10 (fun M_3 h => ?_) (fun n_4 M_3 in_4 h => ?_)
    · have h := h.1 rfl
      refine a_astoreN (lo' := [(6, .null), (5, .null), (0, .ref (al 0)), (1, .int v1), (2, .int v2), (3, .int v3), (4, .int v4)]) X dX3_meets_13 (by decide) rfl ?_
      refine a_aloadN X dX3_meets_15 1 rfl ?_
      refine a_ifnullN (tgt := 36) X dX3_meets_17 (by decide) ?_
      refine a_aload_n X dX3_meets_36 rfl 2 rfl ?_
      refine a_iconst (v := 1) X dX3_meets_37 ic_1 ?_
      refine a_cVi (As := [.int 1]) (st := []) X fw3 iz_0 (cX3_refuse_ok l h) mlX3_58 mvX3_refuse (rz rfl) (Nat.le_of_ble_eq_true rfl) rfl dX3_meets_38 (fun r_6 M_5 h => ?_)
      exact a_iret X h dX3_meets_41
    · have h := h.2 n_4 rfl
      refine a_astore (lo' := [(6, .ref (al n_4)), (5, .null), (0, .ref (al 0)), (1, .int v1), (2, .int v2), (3, .int v3), (4, .int v4)]) X dX3_meets_13 (by decide) rfl ?_
      refine a_aloadN X dX3_meets_15 1 rfl ?_
      refine a_ifnullN (tgt := 36) X dX3_meets_17 (by decide) ?_
      refine a_aload_n X dX3_meets_36 rfl 2 rfl ?_
      refine a_iconst (v := 1) X dX3_meets_37 ic_1 ?_
      refine a_cVi (As := [.int 1]) (st := []) X fw3 iz_0 (cX3_refuse_ok l h) mlX3_58 mvX3_refuse (rz rfl) (Nat.le_of_ble_eq_true rfl) rfl dX3_meets_38 (fun r_8 M_7 h => ?_)
      exact a_iret X h dX3_meets_41
  · have h := h.2 n_2 rfl
    refine a_astore (lo' := [(5, .ref (al n_2)), (0, .ref (al 0)), (1, .int v1), (2, .int v2), (3, .int v3), (4, .int v4)]) X dX3_meets_5 (by decide) rfl ?_
    refine a_aload_n X dX3_meets_7 rfl 1 rfl ?_
    refine a_iload_n X dX3_meets_8 rfl 2 rfl ?_
    refine a_iload_n X dX3_meets_9 rfl 3 rfl ?_
    refine a_cVq (As := [.int v1, .int v2]) (st := []) X fw3 iz_0 (cX3_findOther_ok l h) mlX3_200 mvX3_findOther (rz rfl) (Nat.le_of_ble_eq_true rfl) rfl dX3_meets_10 (fun M_9 h => ?_) (fun n_10 M_9 in_10 h => ?_)
    · have h := h.1 rfl
      refine a_astoreN (lo' := [(6, .null), (5, .ref (al n_2)), (0, .ref (al 0)), (1, .int v1), (2, .int v2), (3, .int v3), (4, .int v4)]) X dX3_meets_13 (by decide) rfl ?_
      refine a_aload X dX3_meets_15 1 rfl ?_
      refine a_ifnull X dX3_meets_17 ?_
      refine a_aloadN X dX3_meets_20 0 rfl ?_
      refine a_ifnullN (tgt := 36) X dX3_meets_22 (by decide) ?_
      refine a_aload_n X dX3_meets_36 rfl 2 rfl ?_
      refine a_iconst (v := 1) X dX3_meets_37 ic_1 ?_
      refine a_cVi (As := [.int 1]) (st := []) X fw3 iz_0 (cX3_refuse_ok l h) mlX3_58 mvX3_refuse (rz rfl) (Nat.le_of_ble_eq_true rfl) rfl dX3_meets_38 (fun r_12 M_11 h => ?_)
      exact a_iret X h dX3_meets_41
    · have h := h.2 n_10 rfl
      refine a_astore (lo' := [(6, .ref (al n_10)), (5, .ref (al n_2)), (0, .ref (al 0)), (1, .int v1), (2, .int v2), (3, .int v3), (4, .int v4)]) X dX3_meets_13 (by decide) rfl ?_
      refine a_aload X dX3_meets_15 1 rfl ?_
      refine a_ifnull X dX3_meets_17 ?_
      refine a_aload X dX3_meets_20 0 rfl ?_
      refine a_ifnull X dX3_meets_22 ?_
      refine a_iload X dX3_meets_25 6 rfl ?_
      refine a_if_lt (tgt := 36) X dX3_meets_27 (by decide) (fun z => ?_) (fun z => ?_)
      · have h := h.1 z
        refine a_aload_n X dX3_meets_36 rfl 2 rfl ?_
        refine a_iconst (v := 1) X dX3_meets_37 ic_1 ?_
        refine a_cVi (As := [.int 1]) (st := []) X fw3 iz_0 (cX3_refuse_ok l h) mlX3_58 mvX3_refuse (rz rfl) (Nat.le_of_ble_eq_true rfl) rfl dX3_meets_38 (fun r_14 M_13 h => ?_)
        exact a_iret X h dX3_meets_41
      · have h := h.2 z
        refine a_iload X dX3_meets_30 6 rfl ?_
        refine a_iconst (v := 2) X dX3_meets_32 ic_2 ?_
        refine a_icmp_le (tgt := 42) X dX3_meets_33 (by decide) (fun z => ?_) (fun z => ?_)
        · have h := h.1 z
          refine a_iload_n X dX3_meets_42 rfl 5 rfl ?_
          refine a_cSi (As := [.int v3]) (st := []) X (cX3_isShare_ok l h) mlX3_155 msX3_isShare (rz rfl) (Nat.le_of_ble_eq_true rfl) rfl dX3_meets_43 (fun r_16 M_15 h => ?_)
          refine a_if_ne (tgt := 55) X dX3_meets_46 (by decide) (fun z => ?_) (fun z => ?_)
          · have h := h.1 z
            refine a_aload X dX3_meets_55 1 rfl ?_
            refine a_getI (k := 2) X fw1 in_2 rfl flX3_84 rfl dX3_meets_57 ?_
            refine a_if_eq (tgt := 71) X dX3_meets_60 (by decide) (fun z => ?_) (fun z => ?_)
            · have h := h.1 z
              refine a_aload_n X dX3_meets_71 rfl 2 rfl ?_
              refine a_iconst (v := 5) X dX3_meets_72 ic_5 ?_
              refine a_cVi (As := [.int 5]) (st := []) X fw3 iz_0 (cX3_refuse_ok l h) mlX3_58 mvX3_refuse (rz rfl) (Nat.le_of_ble_eq_true rfl) rfl dX3_meets_73 (fun r_18 M_17 h => ?_)
              exact a_iret X h dX3_meets_76
            · have h := h.2 z
              refine a_aload X dX3_meets_63 0 rfl ?_
              refine a_getI (k := 2) X fw1 in_10 rfl flX3_84 rfl dX3_meets_65 ?_
              refine a_if_ne (tgt := 77) X dX3_meets_68 (by decide) (fun z => ?_) (fun z => ?_)
              · have h := h.1 z
                refine a_aload_n X dX3_meets_77 rfl 2 rfl ?_
                refine a_aload X dX3_meets_78 1 rfl ?_
                refine a_aload X dX3_meets_80 0 rfl ?_
                refine a_iload_n X dX3_meets_82 rfl 5 rfl ?_
                refine a_iload X dX3_meets_83 6 rfl ?_
                refine a_cSi (As := [.ref (al n_2), .ref (al n_10), .int v3, .int v4]) (st := [.ref (al 0)]) X (cX3_countMeets_ok l in_2 in_10 h) mlX3_204 msX3_countMeets (rz rfl) (Nat.le_of_ble_eq_true rfl) rfl dX3_meets_85 (fun r_20 M_19 h => ?_)
                refine a_cVi (As := [.int r_20]) (st := []) X fw3 iz_0 (cX3_pass_ok l h) mlX3_74 mvX3_pass (rz rfl) (Nat.le_of_ble_eq_true rfl) rfl dX3_meets_88 (fun r_22 M_21 h => ?_)
                exact a_iret X h dX3_meets_91
              · have h := h.2 z
                refine a_aload_n X dX3_meets_71 rfl 2 rfl ?_
                refine a_iconst (v := 5) X dX3_meets_72 ic_5 ?_
                refine a_cVi (As := [.int 5]) (st := []) X fw3 iz_0 (cX3_refuse_ok l h) mlX3_58 mvX3_refuse (rz rfl) (Nat.le_of_ble_eq_true rfl) rfl dX3_meets_73 (fun r_24 M_23 h => ?_)
                exact a_iret X h dX3_meets_76
          · have h := h.2 z
            refine a_aload_n X dX3_meets_49 rfl 2 rfl ?_
            refine a_iconst (v := 2) X dX3_meets_50 ic_2 ?_
            refine a_cVi (As := [.int 2]) (st := []) X fw3 iz_0 (cX3_refuse_ok l h) mlX3_58 mvX3_refuse (rz rfl) (Nat.le_of_ble_eq_true rfl) rfl dX3_meets_51 (fun r_26 M_25 h => ?_)
            exact a_iret X h dX3_meets_54
        · have h := h.2 z
          refine a_aload_n X dX3_meets_36 rfl 2 rfl ?_
          refine a_iconst (v := 1) X dX3_meets_37 ic_1 ?_
          refine a_cVi (As := [.int 1]) (st := []) X fw3 iz_0 (cX3_refuse_ok l h) mlX3_58 mvX3_refuse (rz rfl) (Nat.le_of_ble_eq_true rfl) rfl dX3_meets_38 (fun r_28 M_27 h => ?_)
          exact a_iret X h dX3_meets_41
abbrev rm_X3_sum : Room := { frames := 1, cells := 0, slots := 0, locals := 22 }
def wpX3_sum (mk : Nat) (M : Mem) (v1 : Int32) (Q : Int32 → Mem → Prop) : Prop := wpX3_find mk M v1 (fun o M_1 => (o = none → wpX3_refuse M_1 1 (fun r_4 M_3 => Q r_4 M_3)) ∧ (∀ n_2 : Nat, o = some n_2 → wpX1_sumOfValues M_1 n_2 (fun r_6 M_5 => wpX3_pass M_5 r_6 (fun r_8 M_7 => Q r_8 M_7))))
set_option maxHeartbeats 4000000 in
set_option maxRecDepth 100000 in
theorem cX3_sum_ok (l : Launch) {G : Gl} {al : Nat → Nat} {mk : Nat} {M : Mem} {v1 : Int32} {Q : Int32 → Mem → Prop} (h : wpX3_sum mk M v1 Q) : Kv l yX3_sum cX3_sum 3 (some .int) rm_X3_sum G al mk M [.ref (al 0), .int v1] (QI G al mk Q) := by
  refine a_head (by decide) (Nat.le_of_ble_eq_true rfl) (fun p e s m below meth c X => ?_)
  have X : Cx p s m meth c G RX3 cX3_sum 3 (some .int) := X
  unfold wpX3_sum at h
  refine a_sub (ks := [0, 1]) (lo' := [(0, .ref (al 0)), (1, .int v1)]) rfl ?_
  refine a_aload_n X dX3_sum_0 rfl 0 rfl ?_
  refine a_iload_n X dX3_sum_1 rfl 1 rfl ?_
  refine a_cVq (As := [.int v1]) (st := []) X fw3 iz_0 (cX3_find_ok l h) mlX3_80 mvX3_find (rz rfl) (Nat.le_of_ble_eq_true rfl) rfl dX3_sum_2 (fun M_1 h => ?_) (fun n_2 M_1 in_2 h => ?_)
  · have h := h.1 rfl
    refine a_astore_nN (lo' := [(2, .null), (0, .ref (al 0)), (1, .int v1)]) X dX3_sum_5 rfl (by decide) rfl ?_
    refine a_aload_nN X dX3_sum_6 rfl 0 rfl ?_
    refine a_ifnonnullN X dX3_sum_7 ?_
    refine a_aload_n X dX3_sum_10 rfl 1 rfl ?_
    refine a_iconst (v := 1) X dX3_sum_11 ic_1 ?_
    refine a_cVi (As := [.int 1]) (st := []) X fw3 iz_0 (cX3_refuse_ok l h) mlX3_58 mvX3_refuse (rz rfl) (Nat.le_of_ble_eq_true rfl) rfl dX3_sum_12 (fun r_4 M_3 h => ?_)
    exact a_iret X h dX3_sum_15
  · have h := h.2 n_2 rfl
    refine a_astore_n (lo' := [(2, .ref (al n_2)), (0, .ref (al 0)), (1, .int v1)]) X dX3_sum_5 rfl (by decide) rfl ?_
    refine a_aload_n X dX3_sum_6 rfl 0 rfl ?_
    refine a_ifnonnull (tgt := 16) X dX3_sum_7 (by decide) ?_
    refine a_aload_n X dX3_sum_16 rfl 1 rfl ?_
    refine a_aload_n X dX3_sum_17 rfl 0 rfl ?_
    refine a_cVi (As := []) (st := [.ref (al 0)]) X fw1 in_2 (cX1_sumOfValues_ok l in_2 h) mlX3_208 mvX1_sumOfValues (rz rfl) (Nat.le_of_ble_eq_true rfl) rfl dX3_sum_18 (fun r_6 M_5 h => ?_)
    refine a_cVi (As := [.int r_6]) (st := []) X fw3 iz_0 (cX3_pass_ok l h) mlX3_74 mvX3_pass (rz rfl) (Nat.le_of_ble_eq_true rfl) rfl dX3_sum_21 (fun r_8 M_7 h => ?_)
    exact a_iret X h dX3_sum_24
abbrev rm_X3_sorted : Room := { frames := 1, cells := 0, slots := 0, locals := 23 }
def wpX3_sorted (mk : Nat) (M : Mem) (v1 : Int32) (v2 : Int32) (Q : Int32 → Mem → Prop) : Prop := wpX3_find mk M v1 (fun o M_1 => (o = none → wpX3_refuse M_1 1 (fun r_4 M_3 => Q r_4 M_3)) ∧ (∀ n_2 : Nat, o = some n_2 → wpX3_isPlace M_1 n_2 v2 (fun r_6 M_5 => ((¬ r_6 = 0 → wpX1_valueAt M_5 n_2 v2 (fun r_8 M_7 => wpX3_pass M_7 r_8 (fun r_10 M_9 => Q r_10 M_9))) ∧ (r_6 = 0 → wpX3_refuse M_5 2 (fun r_12 M_11 => Q r_12 M_11))))))
set_option maxHeartbeats 4000000 in
set_option maxRecDepth 100000 in
theorem cX3_sorted_ok (l : Launch) {G : Gl} {al : Nat → Nat} {mk : Nat} {M : Mem} {v1 : Int32} {v2 : Int32} {Q : Int32 → Mem → Prop} (h : wpX3_sorted mk M v1 v2 Q) : Kv l yX3_sorted cX3_sorted 4 (some .int) rm_X3_sorted G al mk M [.ref (al 0), .int v1, .int v2] (QI G al mk Q) := by
  refine a_head (by decide) (Nat.le_of_ble_eq_true rfl) (fun p e s m below meth c X => ?_)
  have X : Cx p s m meth c G RX3 cX3_sorted 4 (some .int) := X
  unfold wpX3_sorted at h
  refine a_sub (ks := [0, 1, 2]) (lo' := [(0, .ref (al 0)), (1, .int v1), (2, .int v2)]) rfl ?_
  refine a_aload_n X dX3_sorted_0 rfl 0 rfl ?_
  refine a_iload_n X dX3_sorted_1 rfl 1 rfl ?_
  refine a_cVq (As := [.int v1]) (st := []) X fw3 iz_0 (cX3_find_ok l h) mlX3_80 mvX3_find (rz rfl) (Nat.le_of_ble_eq_true rfl) rfl dX3_sorted_2 (fun M_1 h => ?_) (fun n_2 M_1 in_2 h => ?_)
  · have h := h.1 rfl
    refine a_astore_nN (lo' := [(3, .null), (0, .ref (al 0)), (1, .int v1), (2, .int v2)]) X dX3_sorted_5 rfl (by decide) rfl ?_
    refine a_aload_nN X dX3_sorted_6 rfl 0 rfl ?_
    refine a_ifnonnullN X dX3_sorted_7 ?_
    refine a_aload_n X dX3_sorted_10 rfl 1 rfl ?_
    refine a_iconst (v := 1) X dX3_sorted_11 ic_1 ?_
    refine a_cVi (As := [.int 1]) (st := []) X fw3 iz_0 (cX3_refuse_ok l h) mlX3_58 mvX3_refuse (rz rfl) (Nat.le_of_ble_eq_true rfl) rfl dX3_sorted_12 (fun r_4 M_3 h => ?_)
    exact a_iret X h dX3_sorted_15
  · have h := h.2 n_2 rfl
    refine a_astore_n (lo' := [(3, .ref (al n_2)), (0, .ref (al 0)), (1, .int v1), (2, .int v2)]) X dX3_sorted_5 rfl (by decide) rfl ?_
    refine a_aload_n X dX3_sorted_6 rfl 0 rfl ?_
    refine a_ifnonnull (tgt := 16) X dX3_sorted_7 (by decide) ?_
    refine a_aload_n X dX3_sorted_16 rfl 0 rfl ?_
    refine a_iload_n X dX3_sorted_17 rfl 3 rfl ?_
    refine a_cSi (As := [.ref (al n_2), .int v2]) (st := []) X (cX3_isPlace_ok l in_2 h) mlX3_145 msX3_isPlace (rz rfl) (Nat.le_of_ble_eq_true rfl) rfl dX3_sorted_18 (fun r_6 M_5 h => ?_)
    refine a_if_ne (tgt := 30) X dX3_sorted_21 (by decide) (fun z => ?_) (fun z => ?_)
    · have h := h.1 z
      refine a_aload_n X dX3_sorted_30 rfl 1 rfl ?_
      refine a_aload_n X dX3_sorted_31 rfl 0 rfl ?_
      refine a_iload_n X dX3_sorted_32 rfl 3 rfl ?_
      refine a_cVi (As := [.int v2]) (st := [.ref (al 0)]) X fw1 in_2 (cX1_valueAt_ok l in_2 h) mlX3_211 mvX1_valueAt (rz rfl) (Nat.le_of_ble_eq_true rfl) rfl dX3_sorted_33 (fun r_8 M_7 h => ?_)
      refine a_cVi (As := [.int r_8]) (st := []) X fw3 iz_0 (cX3_pass_ok l h) mlX3_74 mvX3_pass (rz rfl) (Nat.le_of_ble_eq_true rfl) rfl dX3_sorted_36 (fun r_10 M_9 h => ?_)
      exact a_iret X h dX3_sorted_39
    · have h := h.2 z
      refine a_aload_n X dX3_sorted_24 rfl 1 rfl ?_
      refine a_iconst (v := 2) X dX3_sorted_25 ic_2 ?_
      refine a_cVi (As := [.int 2]) (st := []) X fw3 iz_0 (cX3_refuse_ok l h) mlX3_58 mvX3_refuse (rz rfl) (Nat.le_of_ble_eq_true rfl) rfl dX3_sorted_26 (fun r_12 M_11 h => ?_)
      exact a_iret X h dX3_sorted_29
abbrev rm_X3_times : Room := { frames := 1, cells := 0, slots := 0, locals := 21 }
def wpX3_times (mk : Nat) (M : Mem) (v1 : Int32) (v2 : Int32) (Q : Int32 → Mem → Prop) : Prop := wpX3_find mk M v1 (fun o M_1 => (o = none → wpX3_refuse M_1 1 (fun r_4 M_3 => Q r_4 M_3)) ∧ (∀ n_2 : Nat, o = some n_2 → wpX3_isValue M_1 v2 (fun r_6 M_5 => ((¬ r_6 = 0 → (vp_in v2 1000 ∧ wpX3_pass M_5 (gI M_5 (n_2 + 1) (Int32.toNatClampNeg v2)) (fun r_8 M_7 => Q r_8 M_7))) ∧ (r_6 = 0 → wpX3_refuse M_5 2 (fun r_10 M_9 => Q r_10 M_9))))))
set_option maxHeartbeats 4000000 in
set_option maxRecDepth 100000 in
theorem cX3_times_ok (l : Launch) {G : Gl} {al : Nat → Nat} {mk : Nat} {M : Mem} {v1 : Int32} {v2 : Int32} {Q : Int32 → Mem → Prop} (h : wpX3_times mk M v1 v2 Q) : Kv l yX3_times cX3_times 4 (some .int) rm_X3_times G al mk M [.ref (al 0), .int v1, .int v2] (QI G al mk Q) := by
  refine a_head (by decide) (Nat.le_of_ble_eq_true rfl) (fun p e s m below meth c X => ?_)
  have X : Cx p s m meth c G RX3 cX3_times 4 (some .int) := X
  unfold wpX3_times at h
  refine a_sub (ks := [0, 1, 2]) (lo' := [(0, .ref (al 0)), (1, .int v1), (2, .int v2)]) rfl ?_
  refine a_aload_n X dX3_times_0 rfl 0 rfl ?_
  refine a_iload_n X dX3_times_1 rfl 1 rfl ?_
  refine a_cVq (As := [.int v1]) (st := []) X fw3 iz_0 (cX3_find_ok l h) mlX3_80 mvX3_find (rz rfl) (Nat.le_of_ble_eq_true rfl) rfl dX3_times_2 (fun M_1 h => ?_) (fun n_2 M_1 in_2 h => ?_)
  · have h := h.1 rfl
    refine a_astore_nN (lo' := [(3, .null), (0, .ref (al 0)), (1, .int v1), (2, .int v2)]) X dX3_times_5 rfl (by decide) rfl ?_
    refine a_aload_nN X dX3_times_6 rfl 0 rfl ?_
    refine a_ifnonnullN X dX3_times_7 ?_
    refine a_aload_n X dX3_times_10 rfl 1 rfl ?_
    refine a_iconst (v := 1) X dX3_times_11 ic_1 ?_
    refine a_cVi (As := [.int 1]) (st := []) X fw3 iz_0 (cX3_refuse_ok l h) mlX3_58 mvX3_refuse (rz rfl) (Nat.le_of_ble_eq_true rfl) rfl dX3_times_12 (fun r_4 M_3 h => ?_)
    exact a_iret X h dX3_times_15
  · have h := h.2 n_2 rfl
    refine a_astore_n (lo' := [(3, .ref (al n_2)), (0, .ref (al 0)), (1, .int v1), (2, .int v2)]) X dX3_times_5 rfl (by decide) rfl ?_
    refine a_aload_n X dX3_times_6 rfl 0 rfl ?_
    refine a_ifnonnull (tgt := 16) X dX3_times_7 (by decide) ?_
    refine a_iload_n X dX3_times_16 rfl 3 rfl ?_
    refine a_cSi (As := [.int v2]) (st := []) X (cX3_isValue_ok l h) mlX3_162 msX3_isValue (rz rfl) (Nat.le_of_ble_eq_true rfl) rfl dX3_times_17 (fun r_6 M_5 h => ?_)
    refine a_if_ne (tgt := 29) X dX3_times_20 (by decide) (fun z => ?_) (fun z => ?_)
    · have h := h.1 z
      refine a_aload_n X dX3_times_29 rfl 1 rfl ?_
      refine a_aload_n X dX3_times_30 rfl 0 rfl ?_
      refine a_getR (k := 1) X 1 (b := (n_2 + 1)) fw1 in_2 rfl rfl flX3_214 rfl dX3_times_31 ?_
      refine a_iload_n X dX3_times_34 rfl 3 rfl ?_
      refine a_iald X in_2.str.1 h.1 dX3_times_35 ?_
      have h := h.2
      refine a_cVi (As := [.int (gI M_5 (n_2 + 1) (Int32.toNatClampNeg v2))]) (st := []) X fw3 iz_0 (cX3_pass_ok l h) mlX3_74 mvX3_pass (rz rfl) (Nat.le_of_ble_eq_true rfl) rfl dX3_times_36 (fun r_8 M_7 h => ?_)
      exact a_iret X h dX3_times_39
    · have h := h.2 z
      refine a_aload_n X dX3_times_23 rfl 1 rfl ?_
      refine a_iconst (v := 2) X dX3_times_24 ic_2 ?_
      refine a_cVi (As := [.int 2]) (st := []) X fw3 iz_0 (cX3_refuse_ok l h) mlX3_58 mvX3_refuse (rz rfl) (Nat.le_of_ble_eq_true rfl) rfl dX3_times_25 (fun r_10 M_9 h => ?_)
      exact a_iret X h dX3_times_28
abbrev rm_X3_miss : Room := { frames := 4, cells := 0, slots := 0, locals := 91 }
def wpX3_miss (mk : Nat) (M : Mem) (v1 : Int32) (v2 : Int32) (Q : Int32 → Mem → Prop) : Prop := wpX3_find mk M v1 (fun o M_1 => (o = none → wpX3_refuse M_1 1 (fun r_4 M_3 => Q r_4 M_3)) ∧ (∀ n_2 : Nat, o = some n_2 → wpX3_isPlace M_1 n_2 v2 (fun r_6 M_5 => ((¬ r_6 = 0 → wpX1_missAt M_5 n_2 v2 (fun r_8 M_7 => wpX3_pass M_7 r_8 (fun r_10 M_9 => Q r_10 M_9))) ∧ (r_6 = 0 → wpX3_refuse M_5 2 (fun r_12 M_11 => Q r_12 M_11))))))
set_option maxHeartbeats 4000000 in
set_option maxRecDepth 100000 in
theorem cX3_miss_ok (l : Launch) {G : Gl} {al : Nat → Nat} {mk : Nat} {M : Mem} {v1 : Int32} {v2 : Int32} {Q : Int32 → Mem → Prop} (h : wpX3_miss mk M v1 v2 Q) : Kv l yX3_miss cX3_miss 4 (some .int) rm_X3_miss G al mk M [.ref (al 0), .int v1, .int v2] (QI G al mk Q) := by
  refine a_head (by decide) (Nat.le_of_ble_eq_true rfl) (fun p e s m below meth c X => ?_)
  have X : Cx p s m meth c G RX3 cX3_miss 4 (some .int) := X
  unfold wpX3_miss at h
  refine a_sub (ks := [0, 1, 2]) (lo' := [(0, .ref (al 0)), (1, .int v1), (2, .int v2)]) rfl ?_
  refine a_aload_n X dX3_miss_0 rfl 0 rfl ?_
  refine a_iload_n X dX3_miss_1 rfl 1 rfl ?_
  refine a_cVq (As := [.int v1]) (st := []) X fw3 iz_0 (cX3_find_ok l h) mlX3_80 mvX3_find (rz rfl) (Nat.le_of_ble_eq_true rfl) rfl dX3_miss_2 (fun M_1 h => ?_) (fun n_2 M_1 in_2 h => ?_)
  · have h := h.1 rfl
    refine a_astore_nN (lo' := [(3, .null), (0, .ref (al 0)), (1, .int v1), (2, .int v2)]) X dX3_miss_5 rfl (by decide) rfl ?_
    refine a_aload_nN X dX3_miss_6 rfl 0 rfl ?_
    refine a_ifnonnullN X dX3_miss_7 ?_
    refine a_aload_n X dX3_miss_10 rfl 1 rfl ?_
    refine a_iconst (v := 1) X dX3_miss_11 ic_1 ?_
    refine a_cVi (As := [.int 1]) (st := []) X fw3 iz_0 (cX3_refuse_ok l h) mlX3_58 mvX3_refuse (rz rfl) (Nat.le_of_ble_eq_true rfl) rfl dX3_miss_12 (fun r_4 M_3 h => ?_)
    exact a_iret X h dX3_miss_15
  · have h := h.2 n_2 rfl
    refine a_astore_n (lo' := [(3, .ref (al n_2)), (0, .ref (al 0)), (1, .int v1), (2, .int v2)]) X dX3_miss_5 rfl (by decide) rfl ?_
    refine a_aload_n X dX3_miss_6 rfl 0 rfl ?_
    refine a_ifnonnull (tgt := 16) X dX3_miss_7 (by decide) ?_
    refine a_aload_n X dX3_miss_16 rfl 0 rfl ?_
    refine a_iload_n X dX3_miss_17 rfl 3 rfl ?_
    refine a_cSi (As := [.ref (al n_2), .int v2]) (st := []) X (cX3_isPlace_ok l in_2 h) mlX3_145 msX3_isPlace (rz rfl) (Nat.le_of_ble_eq_true rfl) rfl dX3_miss_18 (fun r_6 M_5 h => ?_)
    refine a_if_ne (tgt := 30) X dX3_miss_21 (by decide) (fun z => ?_) (fun z => ?_)
    · have h := h.1 z
      refine a_aload_n X dX3_miss_30 rfl 1 rfl ?_
      refine a_aload_n X dX3_miss_31 rfl 0 rfl ?_
      refine a_iload_n X dX3_miss_32 rfl 3 rfl ?_
      refine a_cVi (As := [.int v2]) (st := [.ref (al 0)]) X fw1 in_2 (cX1_missAt_ok l in_2 h) mlX3_217 mvX1_missAt (rz rfl) (Nat.le_of_ble_eq_true rfl) rfl dX3_miss_33 (fun r_8 M_7 h => ?_)
      refine a_cVi (As := [.int r_8]) (st := []) X fw3 iz_0 (cX3_pass_ok l h) mlX3_74 mvX3_pass (rz rfl) (Nat.le_of_ble_eq_true rfl) rfl dX3_miss_36 (fun r_10 M_9 h => ?_)
      exact a_iret X h dX3_miss_39
    · have h := h.2 z
      refine a_aload_n X dX3_miss_24 rfl 1 rfl ?_
      refine a_iconst (v := 2) X dX3_miss_25 ic_2 ?_
      refine a_cVi (As := [.int 2]) (st := []) X fw3 iz_0 (cX3_refuse_ok l h) mlX3_58 mvX3_refuse (rz rfl) (Nat.le_of_ble_eq_true rfl) rfl dX3_miss_26 (fun r_12 M_11 h => ?_)
      exact a_iret X h dX3_miss_29
abbrev rm_X3_missed : Room := { frames := 4, cells := 0, slots := 0, locals := 94 }
def wpX3_missed (mk : Nat) (M : Mem) (v1 : Int32) (Q : Int32 → Mem → Prop) : Prop := wpX3_find mk M v1 (fun o M_1 => (o = none → wpX3_refuse M_1 1 (fun r_4 M_3 => Q r_4 M_3)) ∧ (∀ n_2 : Nat, o = some n_2 → ((¬ (gI M_1 n_2 2) = 0 → wpX1_greatestMiss M_1 n_2 (fun r_6 M_5 => wpX3_pass M_5 r_6 (fun r_8 M_7 => Q r_8 M_7))) ∧ ((gI M_1 n_2 2) = 0 → wpX3_pass M_1 (-2) (fun r_10 M_9 => Q r_10 M_9)))))
set_option maxHeartbeats 4000000 in
set_option maxRecDepth 100000 in
theorem cX3_missed_ok (l : Launch) {G : Gl} {al : Nat → Nat} {mk : Nat} {M : Mem} {v1 : Int32} {Q : Int32 → Mem → Prop} (h : wpX3_missed mk M v1 Q) : Kv l yX3_missed cX3_missed 3 (some .int) rm_X3_missed G al mk M [.ref (al 0), .int v1] (QI G al mk Q) := by
  refine a_head (by decide) (Nat.le_of_ble_eq_true rfl) (fun p e s m below meth c X => ?_)
  have X : Cx p s m meth c G RX3 cX3_missed 3 (some .int) := X
  unfold wpX3_missed at h
  refine a_sub (ks := [0, 1]) (lo' := [(0, .ref (al 0)), (1, .int v1)]) rfl ?_
  refine a_aload_n X dX3_missed_0 rfl 0 rfl ?_
  refine a_iload_n X dX3_missed_1 rfl 1 rfl ?_
  refine a_cVq (As := [.int v1]) (st := []) X fw3 iz_0 (cX3_find_ok l h) mlX3_80 mvX3_find (rz rfl) (Nat.le_of_ble_eq_true rfl) rfl dX3_missed_2 (fun M_1 h => ?_) (fun n_2 M_1 in_2 h => ?_)
  · have h := h.1 rfl
    refine a_astore_nN (lo' := [(2, .null), (0, .ref (al 0)), (1, .int v1)]) X dX3_missed_5 rfl (by decide) rfl ?_
    refine a_aload_nN X dX3_missed_6 rfl 0 rfl ?_
    refine a_ifnonnullN X dX3_missed_7 ?_
    refine a_aload_n X dX3_missed_10 rfl 1 rfl ?_
    refine a_iconst (v := 1) X dX3_missed_11 ic_1 ?_
    refine a_cVi (As := [.int 1]) (st := []) X fw3 iz_0 (cX3_refuse_ok l h) mlX3_58 mvX3_refuse (rz rfl) (Nat.le_of_ble_eq_true rfl) rfl dX3_missed_12 (fun r_4 M_3 h => ?_)
    exact a_iret X h dX3_missed_15
  · have h := h.2 n_2 rfl
    refine a_astore_n (lo' := [(2, .ref (al n_2)), (0, .ref (al 0)), (1, .int v1)]) X dX3_missed_5 rfl (by decide) rfl ?_
    refine a_aload_n X dX3_missed_6 rfl 0 rfl ?_
    refine a_ifnonnull (tgt := 16) X dX3_missed_7 (by decide) ?_
    refine a_aload_n X dX3_missed_16 rfl 1 rfl ?_
    refine a_aload_n X dX3_missed_17 rfl 0 rfl ?_
    refine a_getI (k := 2) X fw1 in_2 rfl flX3_84 rfl dX3_missed_18 ?_
    refine a_if_ne (tgt := 29) X dX3_missed_21 (by decide) (fun z => ?_) (fun z => ?_)
    · have h := h.1 z
      refine a_aload_n X dX3_missed_29 rfl 0 rfl ?_
      refine a_cVi (As := []) (st := [.ref (al 0)]) X fw1 in_2 (cX1_greatestMiss_ok l in_2 h) mlX3_220 mvX1_greatestMiss (rz rfl) (Nat.le_of_ble_eq_true rfl) rfl dX3_missed_30 (fun r_6 M_5 h => ?_)
      refine a_cVi (As := [.int r_6]) (st := []) X fw3 iz_0 (cX3_pass_ok l h) mlX3_74 mvX3_pass (rz rfl) (Nat.le_of_ble_eq_true rfl) rfl dX3_missed_33 (fun r_8 M_7 h => ?_)
      exact a_iret X h dX3_missed_36
    · have h := h.2 z
      refine a_bipush (v := (-2)) X dX3_missed_24 bc_m2 ?_
      refine a_goto (tgt := 33) X dX3_missed_26 (by decide) ?_
      refine a_cVi (As := [.int (-2)]) (st := []) X fw3 iz_0 (cX3_pass_ok l h) mlX3_74 mvX3_pass (rz rfl) (Nat.le_of_ble_eq_true rfl) rfl dX3_missed_33 (fun r_10 M_9 h => ?_)
      exact a_iret X h dX3_missed_36
abbrev rm_X3_heavy : Room := { frames := 5, cells := 0, slots := 0, locals := 112 }
def wpX3_heavy (mk : Nat) (M : Mem) (v1 : Int32) (v2 : Int32) (v3 : Int32) (Q : Int32 → Mem → Prop) : Prop := wpX3_find mk M v1 (fun o M_1 => (o = none → wpX3_refuse M_1 1 (fun r_4 M_3 => Q r_4 M_3)) ∧ (∀ n_2 : Nat, o = some n_2 → ((0 ≤ v3 → wpX3_isShare M_1 v2 (fun r_6 M_5 => ((¬ r_6 = 0 → wpX0_heavyValue M_5 (n_2 + 5) v2 v3 (fun r_8 M_7 => wpX3_pass M_7 r_8 (fun r_10 M_9 => Q r_10 M_9))) ∧ (r_6 = 0 → wpX3_refuse M_5 2 (fun r_12 M_11 => Q r_12 M_11))))) ∧ (¬ 0 ≤ v3 → wpX3_refuse M_1 1 (fun r_14 M_13 => Q r_14 M_13)))))
set_option maxHeartbeats 4000000 in
set_option maxRecDepth 100000 in
theorem cX3_heavy_ok (l : Launch) {G : Gl} {al : Nat → Nat} {mk : Nat} {M : Mem} {v1 : Int32} {v2 : Int32} {v3 : Int32} {Q : Int32 → Mem → Prop} (h : wpX3_heavy mk M v1 v2 v3 Q) : Kv l yX3_heavy cX3_heavy 5 (some .int) rm_X3_heavy G al mk M [.ref (al 0), .int v1, .int v2, .int v3] (QI G al mk Q) := by
  refine a_head (by decide) (Nat.le_of_ble_eq_true rfl) (fun p e s m below meth c X => ?_)
  have X : Cx p s m meth c G RX3 cX3_heavy 5 (some .int) := X
  unfold wpX3_heavy at h
  refine a_sub (ks := [0, 1, 2, 3]) (lo' := [(0, .ref (al 0)), (1, .int v1), (2, .int v2), (3, .int v3)]) rfl ?_
  refine a_aload_n X dX3_heavy_0 rfl 0 rfl ?_
  refine a_iload_n X dX3_heavy_1 rfl 1 rfl ?_
  refine a_cVq (As := [.int v1]) (st := []) X fw3 iz_0 (cX3_find_ok l h) mlX3_80 mvX3_find (rz rfl) (Nat.le_of_ble_eq_true rfl) rfl dX3_heavy_2 (fun M_1 h => ?_) (fun n_2 M_1 in_2 h => ?_)
  · have h := h.1 rfl
    refine a_astoreN (lo' := [(4, .null), (0, .ref (al 0)), (1, .int v1), (2, .int v2), (3, .int v3)]) X dX3_heavy_5 (by decide) rfl ?_
    refine a_aloadN X dX3_heavy_7 0 rfl ?_
    refine a_ifnullN (tgt := 16) X dX3_heavy_9 (by decide) ?_
    refine a_aload_n X dX3_heavy_16 rfl 1 rfl ?_
    refine a_iconst (v := 1) X dX3_heavy_17 ic_1 ?_
    refine a_cVi (As := [.int 1]) (st := []) X fw3 iz_0 (cX3_refuse_ok l h) mlX3_58 mvX3_refuse (rz rfl) (Nat.le_of_ble_eq_true rfl) rfl dX3_heavy_18 (fun r_4 M_3 h => ?_)
    exact a_iret X h dX3_heavy_21
  · have h := h.2 n_2 rfl
    refine a_astore (lo' := [(4, .ref (al n_2)), (0, .ref (al 0)), (1, .int v1), (2, .int v2), (3, .int v3)]) X dX3_heavy_5 (by decide) rfl ?_
    refine a_aload X dX3_heavy_7 0 rfl ?_
    refine a_ifnull X dX3_heavy_9 ?_
    refine a_iload_n X dX3_heavy_12 rfl 4 rfl ?_
    refine a_if_ge (tgt := 22) X dX3_heavy_13 (by decide) (fun z => ?_) (fun z => ?_)
    · have h := h.1 z
      refine a_iload_n X dX3_heavy_22 rfl 3 rfl ?_
      refine a_cSi (As := [.int v2]) (st := []) X (cX3_isShare_ok l h) mlX3_155 msX3_isShare (rz rfl) (Nat.le_of_ble_eq_true rfl) rfl dX3_heavy_23 (fun r_6 M_5 h => ?_)
      refine a_if_ne (tgt := 35) X dX3_heavy_26 (by decide) (fun z => ?_) (fun z => ?_)
      · have h := h.1 z
        refine a_aload_n X dX3_heavy_35 rfl 1 rfl ?_
        refine a_aload X dX3_heavy_36 0 rfl ?_
        refine a_getR (k := 0) X 5 (b := (n_2 + 5)) fw1 in_2 rfl rfl flX3_87 rfl dX3_heavy_38 ?_
        refine a_iload_n X dX3_heavy_41 rfl 3 rfl ?_
        refine a_iload_n X dX3_heavy_42 rfl 4 rfl ?_
        refine a_cVi (As := [.int v2, .int v3]) (st := [.ref (al 0)]) X fw0 in_2.str.2 (cX0_heavyValue_ok l in_2.str.2 h) mlX3_223 mvX0_heavyValue (rz rfl) (Nat.le_of_ble_eq_true rfl) rfl dX3_heavy_43 (fun r_8 M_7 h => ?_)
        refine a_cVi (As := [.int r_8]) (st := []) X fw3 iz_0 (cX3_pass_ok l h) mlX3_74 mvX3_pass (rz rfl) (Nat.le_of_ble_eq_true rfl) rfl dX3_heavy_46 (fun r_10 M_9 h => ?_)
        exact a_iret X h dX3_heavy_49
      · have h := h.2 z
        refine a_aload_n X dX3_heavy_29 rfl 1 rfl ?_
        refine a_iconst (v := 2) X dX3_heavy_30 ic_2 ?_
        refine a_cVi (As := [.int 2]) (st := []) X fw3 iz_0 (cX3_refuse_ok l h) mlX3_58 mvX3_refuse (rz rfl) (Nat.le_of_ble_eq_true rfl) rfl dX3_heavy_31 (fun r_12 M_11 h => ?_)
        exact a_iret X h dX3_heavy_34
    · have h := h.2 z
      refine a_aload_n X dX3_heavy_16 rfl 1 rfl ?_
      refine a_iconst (v := 1) X dX3_heavy_17 ic_1 ?_
      refine a_cVi (As := [.int 1]) (st := []) X fw3 iz_0 (cX3_refuse_ok l h) mlX3_58 mvX3_refuse (rz rfl) (Nat.le_of_ble_eq_true rfl) rfl dX3_heavy_18 (fun r_14 M_13 h => ?_)
      exact a_iret X h dX3_heavy_21
abbrev rm_X3_hundredthsApart : Room := { frames := 3, cells := 0, slots := 0, locals := 63 }
def wpX3_hundredthsApart (M : Mem) (v0 : Nat) (v1 : Nat) (v2 : Int32) (Q : Int32 → Mem → Prop) : Prop := wpX0_places M v0 (fun r_2 M_1 => wpX0_places M_1 v1 (fun r_4 M_3 => ((r_2 < 1 → Q 0 M_3) ∧ (¬ r_2 < 1 → ((1 ≤ r_4 → wpX0_sureUpTo M_3 v0 v2 (fun r_6 M_5 => wpX0_mostUpTo M_5 v1 v2 (fun r_8 M_7 => (¬ (r_2 * r_4) = 0 ∧ Q ((100 * ((r_6 * r_4) - (r_8 * r_2))) / (r_2 * r_4)) M_7)))) ∧ (¬ 1 ≤ r_4 → Q 0 M_3))))))
set_option maxHeartbeats 4000000 in
set_option maxRecDepth 100000 in
theorem cX3_hundredthsApart_ok (l : Launch) {G : Gl} {al : Nat → Nat} {mk : Nat} {M : Mem} {v0 : Nat} {v1 : Nat} {v2 : Int32} {Q : Int32 → Mem → Prop} (i0 : Iz mk v0 (0, 0)) (i1 : Iz mk v1 (0, 0)) (h : wpX3_hundredthsApart M v0 v1 v2 Q) : Kv l yX3_hundredthsApart cX3_hundredthsApart 5 (some .int) rm_X3_hundredthsApart G al mk M [.ref (al v0), .ref (al v1), .int v2] (QI G al mk Q) := by
  refine a_head (by decide) (Nat.le_of_ble_eq_true rfl) (fun p e s m below meth c X => ?_)
  have X : Cx p s m meth c G RX3 cX3_hundredthsApart 5 (some .int) := X
  unfold wpX3_hundredthsApart at h
  refine a_sub (ks := [0, 1, 2]) (lo' := [(0, .ref (al v0)), (1, .ref (al v1)), (2, .int v2)]) rfl ?_
  refine a_aload_n X dX3_hundredthsApart_0 rfl 0 rfl ?_
  refine a_cVi (As := []) (st := []) X fw0 i0 (cX0_places_ok l i0 h) mlX3_253 mvX0_places (rz rfl) (Nat.le_of_ble_eq_true rfl) rfl dX3_hundredthsApart_1 (fun r_2 M_1 h => ?_)
  refine a_istore_n (lo' := [(3, .int r_2), (0, .ref (al v0)), (1, .ref (al v1)), (2, .int v2)]) X dX3_hundredthsApart_4 rfl (by decide) rfl ?_
  refine a_aload_n X dX3_hundredthsApart_5 rfl 2 rfl ?_
  refine a_cVi (As := []) (st := []) X fw0 i1 (cX0_places_ok l i1 h) mlX3_253 mvX0_places (rz rfl) (Nat.le_of_ble_eq_true rfl) rfl dX3_hundredthsApart_6 (fun r_4 M_3 h => ?_)
  refine a_istore (lo' := [(4, .int r_4), (3, .int r_2), (0, .ref (al v0)), (1, .ref (al v1)), (2, .int v2)]) X dX3_hundredthsApart_9 (by decide) rfl ?_
  refine a_iload_n X dX3_hundredthsApart_11 rfl 1 rfl ?_
  refine a_iconst (v := 1) X dX3_hundredthsApart_12 ic_1 ?_
  refine a_icmp_lt (tgt := 22) X dX3_hundredthsApart_13 (by decide) (fun z => ?_) (fun z => ?_)
  · have h := h.1 z
    refine a_iconst (v := 0) X dX3_hundredthsApart_22 ic_0 ?_
    exact a_iret X h dX3_hundredthsApart_23
  · have h := h.2 z
    refine a_iload X dX3_hundredthsApart_16 0 rfl ?_
    refine a_iconst (v := 1) X dX3_hundredthsApart_18 ic_1 ?_
    refine a_icmp_ge (tgt := 24) X dX3_hundredthsApart_19 (by decide) (fun z => ?_) (fun z => ?_)
    · have h := h.1 z
      refine a_bipush (v := 100) X dX3_hundredthsApart_24 bc_100 ?_
      refine a_aload_n X dX3_hundredthsApart_26 rfl 2 rfl ?_
      refine a_iload_n X dX3_hundredthsApart_27 rfl 4 rfl ?_
      refine a_cVi (As := [.int v2]) (st := [.int 100]) X fw0 i0 (cX0_sureUpTo_ok l i0 h) mlX3_168 mvX0_sureUpTo (rz rfl) (Nat.le_of_ble_eq_true rfl) rfl dX3_hundredthsApart_28 (fun r_6 M_5 h => ?_)
      refine a_iload X dX3_hundredthsApart_31 0 rfl ?_
      refine a_imul X dX3_hundredthsApart_33 ?_
      refine a_aload_n X dX3_hundredthsApart_34 rfl 3 rfl ?_
      refine a_iload_n X dX3_hundredthsApart_35 rfl 4 rfl ?_
      refine a_cVi (As := [.int v2]) (st := [.int (r_6 * r_4), .int 100]) X fw0 i1 (cX0_mostUpTo_ok l i1 h) mlX3_165 mvX0_mostUpTo (rz rfl) (Nat.le_of_ble_eq_true rfl) rfl dX3_hundredthsApart_36 (fun r_8 M_7 h => ?_)
      refine a_iload_n X dX3_hundredthsApart_39 rfl 1 rfl ?_
      refine a_imul X dX3_hundredthsApart_40 ?_
      refine a_isub X dX3_hundredthsApart_41 ?_
      refine a_imul X dX3_hundredthsApart_42 ?_
      refine a_iload_n X dX3_hundredthsApart_43 rfl 1 rfl ?_
      refine a_iload X dX3_hundredthsApart_44 0 rfl ?_
      refine a_imul X dX3_hundredthsApart_46 ?_
      refine a_idiv X dX3_hundredthsApart_47 h.1 ?_
      have h := h.2
      exact a_iret X h dX3_hundredthsApart_48
    · have h := h.2 z
      refine a_iconst (v := 0) X dX3_hundredthsApart_22 ic_0 ?_
      exact a_iret X h dX3_hundredthsApart_23
abbrev rm_X3_apartOver : Room := { frames := 4, cells := 0, slots := 0, locals := 87 }
def wX3_apartOver_5 (Q : Int32 → Mem → Prop) (v0 : Nat) (v1 : Nat) (v2 : Nat) : Nat → Mem → Int32 → Int32 → Prop
  | 0, _, _, _ => False
  | n + 1, M, v3, v4 => (((gI M v0 4) ≤ v4 → Q v3 M) ∧ (¬ (gI M v0 4) ≤ v4 → (vp_in v4 1000 ∧ (∀ x_1 : Int32, x_1 = (gI M (v0 + 1) (Int32.toNatClampNeg v4)) → wpX3_hundredthsApart M v1 v2 x_1 (fun r_3 M_2 => wpX3_hundredthsApart M_2 v2 v1 x_1 (fun r_5 M_4 => (∀ x_6 : Int32, x_6 = (if v3 < (if r_3 < r_5 then r_5 else r_3) then (if r_3 < r_5 then r_5 else r_3) else v3) → wX3_apartOver_5 Q v0 v1 v2 n M_4 x_6 (v4 + 1))))))))
def wpX3_apartOver (M : Mem) (v0 : Nat) (v1 : Nat) (v2 : Nat) (Q : Int32 → Mem → Prop) : Prop := ∃ n, wX3_apartOver_5 Q v0 v1 v2 n M 0 0
set_option maxHeartbeats 4000000 in
set_option maxRecDepth 100000 in
theorem tX3_apartOver_5 (X : Cx p s m meth c G RX3 cX3_apartOver 6 (some .int)) {Q : Int32 → Mem → Prop} {v0 : Nat} {v1 : Nat} {v2 : Nat} (i0 : Iz mk v0 (0, 0)) (i1 : Iz mk v1 (0, 0)) (i2 : Iz mk v2 (0, 0)) : ∀ (n : Nat) (M : Mem) (v3 : Int32) (v4 : Int32), wX3_apartOver_5 Q v0 v1 v2 n M v3 v4 → Wa p l e rm_X3_apartOver s m args below meth c 6 G al mk 0 0 (MQ below (QI G al mk Q) args s 0 0 (gA G)) M 5 [(0, .ref (al v0)), (1, .ref (al v1)), (2, .ref (al v2)), (3, .int v3), (4, .int v4)] [] := by
  intro n
  induction n with
  | zero =>
    intro M v3 v4 h
    exact False.elim h
  | succ n ih =>
    intro M v3 v4 h
    rw [wX3_apartOver_5] at h
    refine a_iload X dX3_apartOver_5 4 rfl ?_
    refine a_aload_n X dX3_apartOver_7 rfl 0 rfl ?_
    refine a_getI (k := 4) X fw0 i0 rfl flX3_90 rfl dX3_apartOver_8 ?_
    refine a_icmp_ge (tgt := 51) X dX3_apartOver_11 (by decide) (fun z => ?_) (fun z => ?_)
    · have h := h.1 z
      refine a_iload_n X dX3_apartOver_51 rfl 3 rfl ?_
      exact a_iret X h dX3_apartOver_52
    · have h := h.2 z
      refine a_aload_n X dX3_apartOver_14 rfl 0 rfl ?_
      refine a_getR (k := 0) X 1 (b := (v0 + 1)) fw0 i0 rfl rfl flX3_106 rfl dX3_apartOver_15 ?_
      refine a_iload X dX3_apartOver_18 4 rfl ?_
      refine a_iald X i0.row.1 h.1 dX3_apartOver_20 ?_
      have h := h.2
      refine a_topi (fun x_1 ex_1 => ?_)
      have h := h x_1 ex_1
      refine a_istore (lo' := [(5, .int x_1), (0, .ref (al v0)), (1, .ref (al v1)), (2, .ref (al v2)), (3, .int v3), (4, .int v4)]) X dX3_apartOver_21 (by decide) rfl ?_
      refine a_iload_n X dX3_apartOver_23 rfl 4 rfl ?_
      refine a_aload_n X dX3_apartOver_24 rfl 2 rfl ?_
      refine a_aload_n X dX3_apartOver_25 rfl 3 rfl ?_
      refine a_iload X dX3_apartOver_26 0 rfl ?_
      refine a_cSi (As := [.ref (al v1), .ref (al v2), .int x_1]) (st := [.int v3]) X (cX3_hundredthsApart_ok l i1 i2 h) mlX3_316 msX3_hundredthsApart (rz rfl) (Nat.le_of_ble_eq_true rfl) rfl dX3_apartOver_28 (fun r_3 M_2 h => ?_)
      refine a_aload_n X dX3_apartOver_31 rfl 3 rfl ?_
      refine a_aload_n X dX3_apartOver_32 rfl 2 rfl ?_
      refine a_iload X dX3_apartOver_33 0 rfl ?_
      refine a_cSi (As := [.ref (al v2), .ref (al v1), .int x_1]) (st := [.int r_3, .int v3]) X (cX3_hundredthsApart_ok l i2 i1 h) mlX3_316 msX3_hundredthsApart (rz rfl) (Nat.le_of_ble_eq_true rfl) rfl dX3_apartOver_35 (fun r_5 M_4 h => ?_)
      refine a_mmax X mlX3_230 mm_max ⟨by decide, Nat.le_of_ble_eq_true rfl, Nat.le_refl _, Nat.le_refl _⟩ dX3_apartOver_38 ?_
      refine a_mmax X mlX3_230 mm_max ⟨by decide, Nat.le_of_ble_eq_true rfl, Nat.le_refl _, Nat.le_refl _⟩ dX3_apartOver_41 ?_
      refine a_topi (fun x_6 ex_6 => ?_)
      have h := h x_6 ex_6
      refine a_istore_n (lo' := [(3, .int x_6), (5, .int x_1), (0, .ref (al v0)), (1, .ref (al v1)), (2, .ref (al v2)), (4, .int v4)]) X dX3_apartOver_44 rfl (by decide) rfl ?_
      refine a_iinc (v := v4 + 1) (lo' := [(4, .int (v4 + 1)), (3, .int x_6), (5, .int x_1), (0, .ref (al v0)), (1, .ref (al v1)), (2, .ref (al v2))]) X dX3_apartOver_45 5 rfl (ii_1 _) (by decide) rfl ?_
      refine a_goto (tgt := 5) X dX3_apartOver_48 (by decide) ?_
      refine a_sub (ks := [3, 4, 5, 1, 0]) (lo' := [(0, .ref (al v0)), (1, .ref (al v1)), (2, .ref (al v2)), (3, .int x_6), (4, .int (v4 + 1))]) rfl ?_
      exact ih _ _ _ h
set_option maxHeartbeats 4000000 in
set_option maxRecDepth 100000 in
theorem cX3_apartOver_ok (l : Launch) {G : Gl} {al : Nat → Nat} {mk : Nat} {M : Mem} {v0 : Nat} {v1 : Nat} {v2 : Nat} {Q : Int32 → Mem → Prop} (i0 : Iz mk v0 (0, 0)) (i1 : Iz mk v1 (0, 0)) (i2 : Iz mk v2 (0, 0)) (h : wpX3_apartOver M v0 v1 v2 Q) : Kv l yX3_apartOver cX3_apartOver 6 (some .int) rm_X3_apartOver G al mk M [.ref (al v0), .ref (al v1), .ref (al v2)] (QI G al mk Q) := by
  refine a_head (by decide) (Nat.le_of_ble_eq_true rfl) (fun p e s m below meth c X => ?_)
  have X : Cx p s m meth c G RX3 cX3_apartOver 6 (some .int) := X
  unfold wpX3_apartOver at h
  refine a_sub (ks := [0, 1, 2]) (lo' := [(0, .ref (al v0)), (1, .ref (al v1)), (2, .ref (al v2))]) rfl ?_
  refine a_iconst (v := 0) X dX3_apartOver_0 ic_0 ?_
  refine a_istore_n (lo' := [(3, .int 0), (0, .ref (al v0)), (1, .ref (al v1)), (2, .ref (al v2))]) X dX3_apartOver_1 rfl (by decide) rfl ?_
  refine a_iconst (v := 0) X dX3_apartOver_2 ic_0 ?_
  refine a_istore (lo' := [(4, .int 0), (3, .int 0), (0, .ref (al v0)), (1, .ref (al v1)), (2, .ref (al v2))]) X dX3_apartOver_3 (by decide) rfl ?_
  refine a_sub (ks := [2, 3, 4, 1, 0]) (lo' := [(0, .ref (al v0)), (1, .ref (al v1)), (2, .ref (al v2)), (3, .int 0), (4, .int 0)]) rfl ?_
  obtain ⟨n9, h⟩ := h
  exact tX3_apartOver_5 X i0 i1 i2 n9 _ _ _ h
abbrev rm_X3_apart : Room := { frames := 5, cells := 0, slots := 0, locals := 112 }
def wpX3_apart (mk : Nat) (M : Mem) (v1 : Int32) (v2 : Int32) (Q : Int32 → Mem → Prop) : Prop := wpX3_find mk M v1 (fun o M_1 => (o = none → wpX3_findOther mk M_1 v1 v2 (fun o M_3 => (o = none → wpX3_refuse M_3 1 (fun r_6 M_5 => Q r_6 M_5)) ∧ (∀ n_4 : Nat, o = some n_4 → wpX3_refuse M_3 1 (fun r_8 M_7 => Q r_8 M_7)))) ∧ (∀ n_2 : Nat, o = some n_2 → wpX3_findOther mk M_1 v1 v2 (fun o M_9 => (o = none → wpX3_refuse M_9 1 (fun r_12 M_11 => Q r_12 M_11)) ∧ (∀ n_10 : Nat, o = some n_10 → (((gI M_9 n_2 2) = 0 → wpX3_refuse M_9 5 (fun r_14 M_13 => Q r_14 M_13)) ∧ (¬ (gI M_9 n_2 2) = 0 → ((¬ (gI M_9 n_10 2) = 0 → wpX3_apartOver M_9 (n_2 + 5) (n_2 + 5) (n_10 + 5) (fun r_16 M_15 => wpX3_apartOver M_15 (n_10 + 5) (n_2 + 5) (n_10 + 5) (fun r_18 M_17 => wpX3_pass M_17 (if r_16 < r_18 then r_18 else r_16) (fun r_20 M_19 => Q r_20 M_19)))) ∧ ((gI M_9 n_10 2) = 0 → wpX3_refuse M_9 5 (fun r_22 M_21 => Q r_22 M_21)))))))))
set_option maxHeartbeats 4000000 in
set_option maxRecDepth 100000 in
theorem cX3_apart_ok (l : Launch) {G : Gl} {al : Nat → Nat} {mk : Nat} {M : Mem} {v1 : Int32} {v2 : Int32} {Q : Int32 → Mem → Prop} (h : wpX3_apart mk M v1 v2 Q) : Kv l yX3_apart cX3_apart 5 (some .int) rm_X3_apart G al mk M [.ref (al 0), .int v1, .int v2] (QI G al mk Q) := by
  refine a_head (by decide) (Nat.le_of_ble_eq_true rfl) (fun p e s m below meth c X => ?_)
  have X : Cx p s m meth c G RX3 cX3_apart 5 (some .int) := X
  unfold wpX3_apart at h
  refine a_sub (ks := [0, 1, 2]) (lo' := [(0, .ref (al 0)), (1, .int v1), (2, .int v2)]) rfl ?_
  refine a_aload_n X dX3_apart_0 rfl 0 rfl ?_
  refine a_iload_n X dX3_apart_1 rfl 1 rfl ?_
  refine a_cVq (As := [.int v1]) (st := []) X fw3 iz_0 (cX3_find_ok l h) mlX3_80 mvX3_find (rz rfl) (Nat.le_of_ble_eq_true rfl) rfl dX3_apart_2 (fun M_1 h => ?_) (fun n_2 M_1 in_2 h => ?_)
  · have h := h.1 rfl
    refine a_astore_nN (lo' := [(3, .null), (0, .ref (al 0)), (1, .int v1), (2, .int v2)]) X dX3_apart_5 rfl (by decide) rfl ?_
    refine a_aload_n X dX3_apart_6 rfl 1 rfl ?_
    refine a_iload_n X dX3_apart_7 rfl 2 rfl ?_
    refine a_iload_n X dX3_apart_8 rfl 3 rfl ?_
    refine a_cVq (As := [.int v1, .int v2]) (st := []) X fw3 iz_0 (cX3_findOther_ok l h) mlX3_200 mvX3_findOther (rz rfl) (Nat.le_of_ble_eq_true rfl) rfl dX3_apart_9 (fun M_3 h => ?_) (fun n_4 M_3 in_4 h => ?_)
    · have h := h.1 rfl
      refine a_astoreN (lo' := [(4, .null), (3, .null), (0, .ref (al 0)), (1, .int v1), (2, .int v2)]) X dX3_apart_12 (by decide) rfl ?_
      refine a_aload_nN X dX3_apart_14 rfl 1 rfl ?_
      refine a_ifnullN (tgt := 23) X dX3_apart_15 (by decide) ?_
      refine a_aload_n X dX3_apart_23 rfl 2 rfl ?_
      refine a_iconst (v := 1) X dX3_apart_24 ic_1 ?_
      refine a_cVi (As := [.int 1]) (st := []) X fw3 iz_0 (cX3_refuse_ok l h) mlX3_58 mvX3_refuse (rz rfl) (Nat.le_of_ble_eq_true rfl) rfl dX3_apart_25 (fun r_6 M_5 h => ?_)
      exact a_iret X h dX3_apart_28
    · have h := h.2 n_4 rfl
      refine a_astore (lo' := [(4, .ref (al n_4)), (3, .null), (0, .ref (al 0)), (1, .int v1), (2, .int v2)]) X dX3_apart_12 (by decide) rfl ?_
      refine a_aload_nN X dX3_apart_14 rfl 1 rfl ?_
      refine a_ifnullN (tgt := 23) X dX3_apart_15 (by decide) ?_
      refine a_aload_n X dX3_apart_23 rfl 2 rfl ?_
      refine a_iconst (v := 1) X dX3_apart_24 ic_1 ?_
      refine a_cVi (As := [.int 1]) (st := []) X fw3 iz_0 (cX3_refuse_ok l h) mlX3_58 mvX3_refuse (rz rfl) (Nat.le_of_ble_eq_true rfl) rfl dX3_apart_25 (fun r_8 M_7 h => ?_)
      exact a_iret X h dX3_apart_28
  · have h := h.2 n_2 rfl
    refine a_astore_n (lo' := [(3, .ref (al n_2)), (0, .ref (al 0)), (1, .int v1), (2, .int v2)]) X dX3_apart_5 rfl (by decide) rfl ?_
    refine a_aload_n X dX3_apart_6 rfl 1 rfl ?_
    refine a_iload_n X dX3_apart_7 rfl 2 rfl ?_
    refine a_iload_n X dX3_apart_8 rfl 3 rfl ?_
    refine a_cVq (As := [.int v1, .int v2]) (st := []) X fw3 iz_0 (cX3_findOther_ok l h) mlX3_200 mvX3_findOther (rz rfl) (Nat.le_of_ble_eq_true rfl) rfl dX3_apart_9 (fun M_9 h => ?_) (fun n_10 M_9 in_10 h => ?_)
    · have h := h.1 rfl
      refine a_astoreN (lo' := [(4, .null), (3, .ref (al n_2)), (0, .ref (al 0)), (1, .int v1), (2, .int v2)]) X dX3_apart_12 (by decide) rfl ?_
      refine a_aload_n X dX3_apart_14 rfl 1 rfl ?_
      refine a_ifnull X dX3_apart_15 ?_
      refine a_aloadN X dX3_apart_18 0 rfl ?_
      refine a_ifnonnullN X dX3_apart_20 ?_
      refine a_aload_n X dX3_apart_23 rfl 2 rfl ?_
      refine a_iconst (v := 1) X dX3_apart_24 ic_1 ?_
      refine a_cVi (As := [.int 1]) (st := []) X fw3 iz_0 (cX3_refuse_ok l h) mlX3_58 mvX3_refuse (rz rfl) (Nat.le_of_ble_eq_true rfl) rfl dX3_apart_25 (fun r_12 M_11 h => ?_)
      exact a_iret X h dX3_apart_28
    · have h := h.2 n_10 rfl
      refine a_astore (lo' := [(4, .ref (al n_10)), (3, .ref (al n_2)), (0, .ref (al 0)), (1, .int v1), (2, .int v2)]) X dX3_apart_12 (by decide) rfl ?_
      refine a_aload_n X dX3_apart_14 rfl 1 rfl ?_
      refine a_ifnull X dX3_apart_15 ?_
      refine a_aload X dX3_apart_18 0 rfl ?_
      refine a_ifnonnull (tgt := 29) X dX3_apart_20 (by decide) ?_
      refine a_aload_n X dX3_apart_29 rfl 1 rfl ?_
      refine a_getI (k := 2) X fw1 in_2 rfl flX3_84 rfl dX3_apart_30 ?_
      refine a_if_eq (tgt := 44) X dX3_apart_33 (by decide) (fun z => ?_) (fun z => ?_)
      · have h := h.1 z
        refine a_aload_n X dX3_apart_44 rfl 2 rfl ?_
        refine a_iconst (v := 5) X dX3_apart_45 ic_5 ?_
        refine a_cVi (As := [.int 5]) (st := []) X fw3 iz_0 (cX3_refuse_ok l h) mlX3_58 mvX3_refuse (rz rfl) (Nat.le_of_ble_eq_true rfl) rfl dX3_apart_46 (fun r_14 M_13 h => ?_)
        exact a_iret X h dX3_apart_49
      · have h := h.2 z
        refine a_aload X dX3_apart_36 0 rfl ?_
        refine a_getI (k := 2) X fw1 in_10 rfl flX3_84 rfl dX3_apart_38 ?_
        refine a_if_ne (tgt := 50) X dX3_apart_41 (by decide) (fun z => ?_) (fun z => ?_)
        · have h := h.1 z
          refine a_aload_n X dX3_apart_50 rfl 2 rfl ?_
          refine a_aload_n X dX3_apart_51 rfl 1 rfl ?_
          refine a_getR (k := 0) X 5 (b := (n_2 + 5)) fw1 in_2 rfl rfl flX3_87 rfl dX3_apart_52 ?_
          refine a_aload_n X dX3_apart_55 rfl 1 rfl ?_
          refine a_getR (k := 0) X 5 (b := (n_2 + 5)) fw1 in_2 rfl rfl flX3_87 rfl dX3_apart_56 ?_
          refine a_aload X dX3_apart_59 0 rfl ?_
          refine a_getR (k := 0) X 5 (b := (n_10 + 5)) fw1 in_10 rfl rfl flX3_87 rfl dX3_apart_61 ?_
          refine a_cSi (As := [.ref (al (n_2 + 5)), .ref (al (n_2 + 5)), .ref (al (n_10 + 5))]) (st := [.ref (al 0)]) X (cX3_apartOver_ok l in_2.str.2 in_2.str.2 in_10.str.2 h) mlX3_226 msX3_apartOver (rz rfl) (Nat.le_of_ble_eq_true rfl) rfl dX3_apart_64 (fun r_16 M_15 h => ?_)
          refine a_aload X dX3_apart_67 0 rfl ?_
          refine a_getR (k := 0) X 5 (b := (n_10 + 5)) fw1 in_10 rfl rfl flX3_87 rfl dX3_apart_69 ?_
          refine a_aload_n X dX3_apart_72 rfl 1 rfl ?_
          refine a_getR (k := 0) X 5 (b := (n_2 + 5)) fw1 in_2 rfl rfl flX3_87 rfl dX3_apart_73 ?_
          refine a_aload X dX3_apart_76 0 rfl ?_
          refine a_getR (k := 0) X 5 (b := (n_10 + 5)) fw1 in_10 rfl rfl flX3_87 rfl dX3_apart_78 ?_
          refine a_cSi (As := [.ref (al (n_10 + 5)), .ref (al (n_2 + 5)), .ref (al (n_10 + 5))]) (st := [.int r_16, .ref (al 0)]) X (cX3_apartOver_ok l in_10.str.2 in_2.str.2 in_10.str.2 h) mlX3_226 msX3_apartOver (rz rfl) (Nat.le_of_ble_eq_true rfl) rfl dX3_apart_81 (fun r_18 M_17 h => ?_)
          refine a_mmax X mlX3_230 mm_max ⟨by decide, Nat.le_of_ble_eq_true rfl, Nat.le_refl _, Nat.le_refl _⟩ dX3_apart_84 ?_
          refine a_cVi (As := [.int (if r_16 < r_18 then r_18 else r_16)]) (st := []) X fw3 iz_0 (cX3_pass_ok l h) mlX3_74 mvX3_pass (rz rfl) (Nat.le_of_ble_eq_true rfl) rfl dX3_apart_87 (fun r_20 M_19 h => ?_)
          exact a_iret X h dX3_apart_90
        · have h := h.2 z
          refine a_aload_n X dX3_apart_44 rfl 2 rfl ?_
          refine a_iconst (v := 5) X dX3_apart_45 ic_5 ?_
          refine a_cVi (As := [.int 5]) (st := []) X fw3 iz_0 (cX3_refuse_ok l h) mlX3_58 mvX3_refuse (rz rfl) (Nat.le_of_ble_eq_true rfl) rfl dX3_apart_46 (fun r_22 M_21 h => ?_)
          exact a_iret X h dX3_apart_49
abbrev rm_X3_would : Room := { frames := 4, cells := 0, slots := 0, locals := 93 }
def wpX3_would (mk : Nat) (M : Mem) (v1 : Int32) (v2 : Int32) (Q : Int32 → Mem → Prop) : Prop := wpX3_find mk M v1 (fun o M_1 => (o = none → wpX3_findOther mk M_1 v1 v2 (fun o M_3 => (o = none → wpX3_refuse M_3 1 (fun r_6 M_5 => Q r_6 M_5)) ∧ (∀ n_4 : Nat, o = some n_4 → wpX3_refuse M_3 1 (fun r_8 M_7 => Q r_8 M_7)))) ∧ (∀ n_2 : Nat, o = some n_2 → wpX3_findOther mk M_1 v1 v2 (fun o M_9 => (o = none → wpX3_refuse M_9 1 (fun r_12 M_11 => Q r_12 M_11)) ∧ (∀ n_10 : Nat, o = some n_10 → ((((gI M_9 n_2 2) + (gI M_9 n_10 2)) ≤ 1000 → wpX0_joinOf M_9 10 (n_2 + 5) (n_10 + 5) (fun M_13 => wpX3_boundOf M_13 ((gI M_13 n_2 2) + (gI M_13 n_10 2)) (gI M_13 0 3) (fun r_15 M_14 => wpX0_shorten M_14 10 r_15 (fun r_17 M_16 => wpX3_pass M_16 (gI M_16 10 4) (fun r_19 M_18 => Q r_19 M_18))))) ∧ (¬ ((gI M_9 n_2 2) + (gI M_9 n_10 2)) ≤ 1000 → wpX3_refuse M_9 3 (fun r_21 M_20 => Q r_21 M_20)))))))
set_option maxHeartbeats 4000000 in
set_option maxRecDepth 100000 in
theorem cX3_would_ok (l : Launch) {G : Gl} {al : Nat → Nat} {mk : Nat} {M : Mem} {v1 : Int32} {v2 : Int32} {Q : Int32 → Mem → Prop} (h : wpX3_would mk M v1 v2 Q) : Kv l yX3_would cX3_would 5 (some .int) rm_X3_would G al mk M [.ref (al 0), .int v1, .int v2] (QI G al mk Q) := by
  refine a_head (by decide) (Nat.le_of_ble_eq_true rfl) (fun p e s m below meth c X => ?_)
  have X : Cx p s m meth c G RX3 cX3_would 5 (some .int) := X
  unfold wpX3_would at h
  refine a_sub (ks := [0, 1, 2]) (lo' := [(0, .ref (al 0)), (1, .int v1), (2, .int v2)]) rfl ?_
  refine a_aload_n X dX3_would_0 rfl 0 rfl ?_
  refine a_iload_n X dX3_would_1 rfl 1 rfl ?_
  refine a_cVq (As := [.int v1]) (st := []) X fw3 iz_0 (cX3_find_ok l h) mlX3_80 mvX3_find (rz rfl) (Nat.le_of_ble_eq_true rfl) rfl dX3_would_2 (fun M_1 h => ?_) (fun n_2 M_1 in_2 h => ?_)
  · have h := h.1 rfl
    refine a_astore_nN (lo' := [(3, .null), (0, .ref (al 0)), (1, .int v1), (2, .int v2)]) X dX3_would_5 rfl (by decide) rfl ?_
    refine a_aload_n X dX3_would_6 rfl 1 rfl ?_
    refine a_iload_n X dX3_would_7 rfl 2 rfl ?_
    refine a_iload_n X dX3_would_8 rfl 3 rfl ?_
    refine a_cVq (As := [.int v1, .int v2]) (st := []) X fw3 iz_0 (cX3_findOther_ok l h) mlX3_200 mvX3_findOther (rz rfl) (Nat.le_of_ble_eq_true rfl) rfl dX3_would_9 (fun M_3 h => ?_) (fun n_4 M_3 in_4 h => ?_)
    · have h := h.1 rfl
      refine a_astoreN (lo' := [(4, .null), (3, .null), (0, .ref (al 0)), (1, .int v1), (2, .int v2)]) X dX3_would_12 (by decide) rfl ?_
      refine a_aload_nN X dX3_would_14 rfl 1 rfl ?_
      refine a_ifnullN (tgt := 23) X dX3_would_15 (by decide) ?_
      refine a_aload_n X dX3_would_23 rfl 2 rfl ?_
      refine a_iconst (v := 1) X dX3_would_24 ic_1 ?_
      refine a_cVi (As := [.int 1]) (st := []) X fw3 iz_0 (cX3_refuse_ok l h) mlX3_58 mvX3_refuse (rz rfl) (Nat.le_of_ble_eq_true rfl) rfl dX3_would_25 (fun r_6 M_5 h => ?_)
      exact a_iret X h dX3_would_28
    · have h := h.2 n_4 rfl
      refine a_astore (lo' := [(4, .ref (al n_4)), (3, .null), (0, .ref (al 0)), (1, .int v1), (2, .int v2)]) X dX3_would_12 (by decide) rfl ?_
      refine a_aload_nN X dX3_would_14 rfl 1 rfl ?_
      refine a_ifnullN (tgt := 23) X dX3_would_15 (by decide) ?_
      refine a_aload_n X dX3_would_23 rfl 2 rfl ?_
      refine a_iconst (v := 1) X dX3_would_24 ic_1 ?_
      refine a_cVi (As := [.int 1]) (st := []) X fw3 iz_0 (cX3_refuse_ok l h) mlX3_58 mvX3_refuse (rz rfl) (Nat.le_of_ble_eq_true rfl) rfl dX3_would_25 (fun r_8 M_7 h => ?_)
      exact a_iret X h dX3_would_28
  · have h := h.2 n_2 rfl
    refine a_astore_n (lo' := [(3, .ref (al n_2)), (0, .ref (al 0)), (1, .int v1), (2, .int v2)]) X dX3_would_5 rfl (by decide) rfl ?_
    refine a_aload_n X dX3_would_6 rfl 1 rfl ?_
    refine a_iload_n X dX3_would_7 rfl 2 rfl ?_
    refine a_iload_n X dX3_would_8 rfl 3 rfl ?_
    refine a_cVq (As := [.int v1, .int v2]) (st := []) X fw3 iz_0 (cX3_findOther_ok l h) mlX3_200 mvX3_findOther (rz rfl) (Nat.le_of_ble_eq_true rfl) rfl dX3_would_9 (fun M_9 h => ?_) (fun n_10 M_9 in_10 h => ?_)
    · have h := h.1 rfl
      refine a_astoreN (lo' := [(4, .null), (3, .ref (al n_2)), (0, .ref (al 0)), (1, .int v1), (2, .int v2)]) X dX3_would_12 (by decide) rfl ?_
      refine a_aload_n X dX3_would_14 rfl 1 rfl ?_
      refine a_ifnull X dX3_would_15 ?_
      refine a_aloadN X dX3_would_18 0 rfl ?_
      refine a_ifnonnullN X dX3_would_20 ?_
      refine a_aload_n X dX3_would_23 rfl 2 rfl ?_
      refine a_iconst (v := 1) X dX3_would_24 ic_1 ?_
      refine a_cVi (As := [.int 1]) (st := []) X fw3 iz_0 (cX3_refuse_ok l h) mlX3_58 mvX3_refuse (rz rfl) (Nat.le_of_ble_eq_true rfl) rfl dX3_would_25 (fun r_12 M_11 h => ?_)
      exact a_iret X h dX3_would_28
    · have h := h.2 n_10 rfl
      refine a_astore (lo' := [(4, .ref (al n_10)), (3, .ref (al n_2)), (0, .ref (al 0)), (1, .int v1), (2, .int v2)]) X dX3_would_12 (by decide) rfl ?_
      refine a_aload_n X dX3_would_14 rfl 1 rfl ?_
      refine a_ifnull X dX3_would_15 ?_
      refine a_aload X dX3_would_18 0 rfl ?_
      refine a_ifnonnull (tgt := 29) X dX3_would_20 (by decide) ?_
      refine a_aload_n X dX3_would_29 rfl 1 rfl ?_
      refine a_getI (k := 2) X fw1 in_2 rfl flX3_84 rfl dX3_would_30 ?_
      refine a_aload X dX3_would_33 0 rfl ?_
      refine a_getI (k := 2) X fw1 in_10 rfl flX3_84 rfl dX3_would_35 ?_
      refine a_iadd X dX3_would_38 ?_
      refine a_sipush (v := 1000) X dX3_would_39 sc_1000 ?_
      refine a_icmp_le (tgt := 51) X dX3_would_42 (by decide) (fun z => ?_) (fun z => ?_)
      · have h := h.1 z
        refine a_aload_n X dX3_would_51 rfl 2 rfl ?_
        refine a_getR (k := 8) X 10 (b := 10) fw3 iz_0 rfl rfl flX3_44 rfl dX3_would_52 ?_
        refine a_aload_n X dX3_would_55 rfl 1 rfl ?_
        refine a_getR (k := 0) X 5 (b := (n_2 + 5)) fw1 in_2 rfl rfl flX3_87 rfl dX3_would_56 ?_
        refine a_aload X dX3_would_59 0 rfl ?_
        refine a_getR (k := 0) X 5 (b := (n_10 + 5)) fw1 in_10 rfl rfl flX3_87 rfl dX3_would_61 ?_
        refine a_cVv (As := [.ref (al (n_2 + 5)), .ref (al (n_10 + 5))]) (st := []) X fw0 iz_10 (cX0_joinOf_ok l iz_10 in_2.str.2 in_10.str.2 h) mlX3_235 mvX0_joinOf (rz rfl) (Nat.le_of_ble_eq_true rfl) rfl dX3_would_64 (fun M_13 h => ?_)
        refine a_aload_n X dX3_would_67 rfl 2 rfl ?_
        refine a_getR (k := 8) X 10 (b := 10) fw3 iz_0 rfl rfl flX3_44 rfl dX3_would_68 ?_
        refine a_aload_n X dX3_would_71 rfl 1 rfl ?_
        refine a_getI (k := 2) X fw1 in_2 rfl flX3_84 rfl dX3_would_72 ?_
        refine a_aload X dX3_would_75 0 rfl ?_
        refine a_getI (k := 2) X fw1 in_10 rfl flX3_84 rfl dX3_would_77 ?_
        refine a_iadd X dX3_would_80 ?_
        refine a_aload_n X dX3_would_81 rfl 2 rfl ?_
        refine a_getI (k := 3) X fw3 iz_0 rfl flX3_26 rfl dX3_would_82 ?_
        refine a_cSi (As := [.int ((gI M_13 n_2 2) + (gI M_13 n_10 2)), .int (gI M_13 0 3)]) (st := [.ref (al 10)]) X (cX3_boundOf_ok l h) mlX3_93 msX3_boundOf (rz rfl) (Nat.le_of_ble_eq_true rfl) rfl dX3_would_85 (fun r_15 M_14 h => ?_)
        refine a_cVi (As := [.int r_15]) (st := []) X fw0 iz_10 (cX0_shorten_ok l iz_10 h) mlX3_239 mvX0_shorten (rz rfl) (Nat.le_of_ble_eq_true rfl) rfl dX3_would_88 (fun r_17 M_16 h => ?_)
        refine a_pop X dX3_would_91 rfl ?_
        refine a_aload_n X dX3_would_92 rfl 2 rfl ?_
        refine a_aload_n X dX3_would_93 rfl 2 rfl ?_
        refine a_getR (k := 8) X 10 (b := 10) fw3 iz_0 rfl rfl flX3_44 rfl dX3_would_94 ?_
        refine a_getI (k := 4) X fw0 iz_10 rfl flX3_90 rfl dX3_would_97 ?_
        refine a_cVi (As := [.int (gI M_16 10 4)]) (st := []) X fw3 iz_0 (cX3_pass_ok l h) mlX3_74 mvX3_pass (rz rfl) (Nat.le_of_ble_eq_true rfl) rfl dX3_would_100 (fun r_19 M_18 h => ?_)
        exact a_iret X h dX3_would_103
      · have h := h.2 z
        refine a_aload_n X dX3_would_45 rfl 2 rfl ?_
        refine a_iconst (v := 3) X dX3_would_46 ic_3 ?_
        refine a_cVi (As := [.int 3]) (st := []) X fw3 iz_0 (cX3_refuse_ok l h) mlX3_58 mvX3_refuse (rz rfl) (Nat.le_of_ble_eq_true rfl) rfl dX3_would_47 (fun r_21 M_20 h => ?_)
        exact a_iret X h dX3_would_50
abbrev rm_X3_countWins : Room := { frames := 3, cells := 0, slots := 0, locals := 63 }
def wX3_countWins_49 (Q : Int32 → Mem → Prop) (K20 : Mem → Int32 → Int32 → Int32 → Prop) (M : Mem) (v0 : Nat) (v1 : Nat) (v2 : Int32) (v3 : Int32) (v4 : Int32) (v6 : Int32) (v7 : Int32) (s0 : Int32) : Prop := (vp_in s0 1000 ∧ (∀ x_7 : Int32, x_7 = (gI M (v0 + 1) (Int32.toNatClampNeg s0)) → ((v2 = 0 → wpX0_mostUpTo M v1 x_7 (fun r_9 M_8 => (∀ x_10 : Int32, x_10 = (v6 + (v4 - r_9)) → K20 M_8 s0 x_10 (v7 + 1)))) ∧ (¬ v2 = 0 → wpX0_sureUpTo M v1 x_7 (fun r_12 M_11 => (∀ x_13 : Int32, x_13 = (v6 + (v4 - r_12)) → K20 M_11 s0 x_13 (v7 + 1)))))))
def wX3_countWins_20 (Q : Int32 → Mem → Prop) (v0 : Nat) (v1 : Nat) (v2 : Int32) (v3 : Int32) (v4 : Int32) : Nat → Mem → Int32 → Int32 → Int32 → Prop
  | 0, _, _, _, _ => False
  | n + 1, M, v5, v6, v7 => ((v3 < v7 → Q v6 M) ∧ (¬ v3 < v7 → ((v2 = 0 → wpX0_ceilingAt M v0 v7 v5 (fun r_6 M_5 => wX3_countWins_49 Q (wX3_countWins_20 Q v0 v1 v2 v3 v4 n) M_5 v0 v1 v2 v3 v4 v6 v7 r_6)) ∧ (¬ v2 = 0 → wpX0_floorAt M v0 v7 v5 (fun r_15 M_14 => wX3_countWins_49 Q (wX3_countWins_20 Q v0 v1 v2 v3 v4 n) M_14 v0 v1 v2 v3 v4 v6 v7 r_15)))))
def wpX3_countWins (M : Mem) (v0 : Nat) (v1 : Nat) (v2 : Int32) (Q : Int32 → Mem → Prop) : Prop := wpX0_places M v0 (fun r_2 M_1 => wpX0_places M_1 v1 (fun r_4 M_3 => ∃ n, wX3_countWins_20 Q v0 v1 v2 r_2 r_4 n M_3 0 0 1))
set_option maxHeartbeats 4000000 in
set_option maxRecDepth 100000 in
theorem tX3_countWins_49 (X : Cx p s m meth c G RX3 cX3_countWins 9 (some .int)) {Q : Int32 → Mem → Prop} {K20 : Mem → Int32 → Int32 → Int32 → Prop} {v0 : Nat} {v1 : Nat} {v2 : Int32} {v3 : Int32} {v4 : Int32} {v6 : Int32} {v7 : Int32} {s0 : Int32} (i0 : Iz mk v0 (0, 0)) (i1 : Iz mk v1 (0, 0)) (hK20 : ∀ (M : Mem) (v5 : Int32) (v6 : Int32) (v7 : Int32), K20 M v5 v6 v7 → Wa p l e rm_X3_countWins s m args below meth c 9 G al mk 0 0 (MQ below (QI G al mk Q) args s 0 0 (gA G)) M 20 [(0, .ref (al v0)), (1, .ref (al v1)), (2, .int v2), (3, .int v3), (4, .int v4), (5, .int v5), (6, .int v6), (7, .int v7)] []) {M : Mem} (h : wX3_countWins_49 Q K20 M v0 v1 v2 v3 v4 v6 v7 s0) : Wa p l e rm_X3_countWins s m args below meth c 9 G al mk 0 0 (MQ below (QI G al mk Q) args s 0 0 (gA G)) M 49 [(0, .ref (al v0)), (1, .ref (al v1)), (2, .int v2), (3, .int v3), (4, .int v4), (6, .int v6), (7, .int v7)] [.int s0] := by
  unfold wX3_countWins_49 at h
  refine a_istore (lo' := [(5, .int s0), (0, .ref (al v0)), (1, .ref (al v1)), (2, .int v2), (3, .int v3), (4, .int v4), (6, .int v6), (7, .int v7)]) X dX3_countWins_49 (by decide) rfl ?_
  refine a_aload_n X dX3_countWins_51 rfl 1 rfl ?_
  refine a_getR (k := 0) X 1 (b := (v0 + 1)) fw0 i0 rfl rfl flX3_106 rfl dX3_countWins_52 ?_
  refine a_iload X dX3_countWins_55 0 rfl ?_
  refine a_iald X i0.row.1 h.1 dX3_countWins_57 ?_
  have h := h.2
  refine a_topi (fun x_7 ex_7 => ?_)
  have h := h x_7 ex_7
  refine a_istore (lo' := [(8, .int x_7), (5, .int s0), (0, .ref (al v0)), (1, .ref (al v1)), (2, .int v2), (3, .int v3), (4, .int v4), (6, .int v6), (7, .int v7)]) X dX3_countWins_58 (by decide) rfl ?_
  refine a_iload X dX3_countWins_60 7 rfl ?_
  refine a_iload X dX3_countWins_62 6 rfl ?_
  refine a_iload_n X dX3_countWins_64 rfl 4 rfl ?_
  refine a_if_eq (tgt := 77) X dX3_countWins_65 (by decide) (fun z => ?_) (fun z => ?_)
  · have h := h.1 z
    refine a_aload_n X dX3_countWins_77 rfl 3 rfl ?_
    refine a_iload X dX3_countWins_78 0 rfl ?_
    refine a_cVi (As := [.int x_7]) (st := [.int v4, .int v6]) X fw0 i1 (cX0_mostUpTo_ok l i1 h) mlX3_165 mvX0_mostUpTo (rz rfl) (Nat.le_of_ble_eq_true rfl) rfl dX3_countWins_80 (fun r_9 M_8 h => ?_)
    refine a_isub X dX3_countWins_83 ?_
    refine a_iadd X dX3_countWins_84 ?_
    refine a_topi (fun x_10 ex_10 => ?_)
    have h := h x_10 ex_10
    refine a_istore (lo' := [(6, .int x_10), (8, .int x_7), (5, .int s0), (0, .ref (al v0)), (1, .ref (al v1)), (2, .int v2), (3, .int v3), (4, .int v4), (7, .int v7)]) X dX3_countWins_85 (by decide) rfl ?_
    refine a_iinc (v := v7 + 1) (lo' := [(7, .int (v7 + 1)), (6, .int x_10), (8, .int x_7), (5, .int s0), (0, .ref (al v0)), (1, .ref (al v1)), (2, .int v2), (3, .int v3), (4, .int v4)]) X dX3_countWins_87 8 rfl (ii_1 _) (by decide) rfl ?_
    refine a_goto (tgt := 20) X dX3_countWins_90 (by decide) ?_
    refine a_sub (ks := [4, 5, 6, 7, 8, 3, 1, 0]) (lo' := [(0, .ref (al v0)), (1, .ref (al v1)), (2, .int v2), (3, .int v3), (4, .int v4), (5, .int s0), (6, .int x_10), (7, .int (v7 + 1))]) rfl ?_
    exact hK20 _ _ _ _ h
  · have h := h.2 z
    refine a_aload_n X dX3_countWins_68 rfl 3 rfl ?_
    refine a_iload X dX3_countWins_69 0 rfl ?_
    refine a_cVi (As := [.int x_7]) (st := [.int v4, .int v6]) X fw0 i1 (cX0_sureUpTo_ok l i1 h) mlX3_168 mvX0_sureUpTo (rz rfl) (Nat.le_of_ble_eq_true rfl) rfl dX3_countWins_71 (fun r_12 M_11 h => ?_)
    refine a_goto (tgt := 83) X dX3_countWins_74 (by decide) ?_
    refine a_isub X dX3_countWins_83 ?_
    refine a_iadd X dX3_countWins_84 ?_
    refine a_topi (fun x_13 ex_13 => ?_)
    have h := h x_13 ex_13
    refine a_istore (lo' := [(6, .int x_13), (8, .int x_7), (5, .int s0), (0, .ref (al v0)), (1, .ref (al v1)), (2, .int v2), (3, .int v3), (4, .int v4), (7, .int v7)]) X dX3_countWins_85 (by decide) rfl ?_
    refine a_iinc (v := v7 + 1) (lo' := [(7, .int (v7 + 1)), (6, .int x_13), (8, .int x_7), (5, .int s0), (0, .ref (al v0)), (1, .ref (al v1)), (2, .int v2), (3, .int v3), (4, .int v4)]) X dX3_countWins_87 8 rfl (ii_1 _) (by decide) rfl ?_
    refine a_goto (tgt := 20) X dX3_countWins_90 (by decide) ?_
    refine a_sub (ks := [4, 5, 6, 7, 8, 3, 1, 0]) (lo' := [(0, .ref (al v0)), (1, .ref (al v1)), (2, .int v2), (3, .int v3), (4, .int v4), (5, .int s0), (6, .int x_13), (7, .int (v7 + 1))]) rfl ?_
    exact hK20 _ _ _ _ h
set_option maxHeartbeats 4000000 in
set_option maxRecDepth 100000 in
theorem tX3_countWins_20 (X : Cx p s m meth c G RX3 cX3_countWins 9 (some .int)) {Q : Int32 → Mem → Prop} {v0 : Nat} {v1 : Nat} {v2 : Int32} {v3 : Int32} {v4 : Int32} (i0 : Iz mk v0 (0, 0)) (i1 : Iz mk v1 (0, 0)) : ∀ (n : Nat) (M : Mem) (v5 : Int32) (v6 : Int32) (v7 : Int32), wX3_countWins_20 Q v0 v1 v2 v3 v4 n M v5 v6 v7 → Wa p l e rm_X3_countWins s m args below meth c 9 G al mk 0 0 (MQ below (QI G al mk Q) args s 0 0 (gA G)) M 20 [(0, .ref (al v0)), (1, .ref (al v1)), (2, .int v2), (3, .int v3), (4, .int v4), (5, .int v5), (6, .int v6), (7, .int v7)] [] := by
  intro n
  induction n with
  | zero =>
    intro M v5 v6 v7 h
    exact False.elim h
  | succ n ih =>
    intro M v5 v6 v7 h
    rw [wX3_countWins_20] at h
    refine a_iload X dX3_countWins_20 7 rfl ?_
    refine a_iload_n X dX3_countWins_22 rfl 3 rfl ?_
    refine a_icmp_gt (tgt := 93) X dX3_countWins_23 (by decide) (fun z => ?_) (fun z => ?_)
    · have h := h.1 z
      refine a_iload X dX3_countWins_93 6 rfl ?_
      exact a_iret X h dX3_countWins_95
    · have h := h.2 z
      refine a_iload_n X dX3_countWins_26 rfl 2 rfl ?_
      refine a_if_eq (tgt := 41) X dX3_countWins_27 (by decide) (fun z => ?_) (fun z => ?_)
      · have h := h.1 z
        refine a_aload_n X dX3_countWins_41 rfl 0 rfl ?_
        refine a_iload X dX3_countWins_42 7 rfl ?_
        refine a_iload X dX3_countWins_44 5 rfl ?_
        refine a_cVi (As := [.int v7, .int v5]) (st := []) X fw0 i0 (cX0_ceilingAt_ok l i0 h) mlX3_184 mvX0_ceilingAt (rz rfl) (Nat.le_of_ble_eq_true rfl) rfl dX3_countWins_46 (fun r_6 M_5 h => ?_)
        refine a_sub (ks := [0, 1, 2, 3, 4, 6, 7]) (lo' := [(0, .ref (al v0)), (1, .ref (al v1)), (2, .int v2), (3, .int v3), (4, .int v4), (6, .int v6), (7, .int v7)]) rfl ?_
        exact tX3_countWins_49 X i0 i1 ih h
      · have h := h.2 z
        refine a_aload_n X dX3_countWins_30 rfl 0 rfl ?_
        refine a_iload X dX3_countWins_31 7 rfl ?_
        refine a_iload X dX3_countWins_33 5 rfl ?_
        refine a_cVi (As := [.int v7, .int v5]) (st := []) X fw0 i0 (cX0_floorAt_ok l i0 h) mlX3_181 mvX0_floorAt (rz rfl) (Nat.le_of_ble_eq_true rfl) rfl dX3_countWins_35 (fun r_15 M_14 h => ?_)
        refine a_goto (tgt := 49) X dX3_countWins_38 (by decide) ?_
        refine a_sub (ks := [0, 1, 2, 3, 4, 6, 7]) (lo' := [(0, .ref (al v0)), (1, .ref (al v1)), (2, .int v2), (3, .int v3), (4, .int v4), (6, .int v6), (7, .int v7)]) rfl ?_
        exact tX3_countWins_49 X i0 i1 ih h
set_option maxHeartbeats 4000000 in
set_option maxRecDepth 100000 in
theorem cX3_countWins_ok (l : Launch) {G : Gl} {al : Nat → Nat} {mk : Nat} {M : Mem} {v0 : Nat} {v1 : Nat} {v2 : Int32} {Q : Int32 → Mem → Prop} (i0 : Iz mk v0 (0, 0)) (i1 : Iz mk v1 (0, 0)) (h : wpX3_countWins M v0 v1 v2 Q) : Kv l yX3_countWins cX3_countWins 9 (some .int) rm_X3_countWins G al mk M [.ref (al v0), .ref (al v1), .int v2] (QI G al mk Q) := by
  refine a_head (by decide) (Nat.le_of_ble_eq_true rfl) (fun p e s m below meth c X => ?_)
  have X : Cx p s m meth c G RX3 cX3_countWins 9 (some .int) := X
  unfold wpX3_countWins at h
  refine a_sub (ks := [0, 1, 2]) (lo' := [(0, .ref (al v0)), (1, .ref (al v1)), (2, .int v2)]) rfl ?_
  refine a_aload_n X dX3_countWins_0 rfl 0 rfl ?_
  refine a_cVi (As := []) (st := []) X fw0 i0 (cX0_places_ok l i0 h) mlX3_253 mvX0_places (rz rfl) (Nat.le_of_ble_eq_true rfl) rfl dX3_countWins_1 (fun r_2 M_1 h => ?_)
  refine a_istore_n (lo' := [(3, .int r_2), (0, .ref (al v0)), (1, .ref (al v1)), (2, .int v2)]) X dX3_countWins_4 rfl (by decide) rfl ?_
  refine a_aload_n X dX3_countWins_5 rfl 2 rfl ?_
  refine a_cVi (As := []) (st := []) X fw0 i1 (cX0_places_ok l i1 h) mlX3_253 mvX0_places (rz rfl) (Nat.le_of_ble_eq_true rfl) rfl dX3_countWins_6 (fun r_4 M_3 h => ?_)
  refine a_istore (lo' := [(4, .int r_4), (3, .int r_2), (0, .ref (al v0)), (1, .ref (al v1)), (2, .int v2)]) X dX3_countWins_9 (by decide) rfl ?_
  refine a_iconst (v := 0) X dX3_countWins_11 ic_0 ?_
  refine a_istore (lo' := [(5, .int 0), (4, .int r_4), (3, .int r_2), (0, .ref (al v0)), (1, .ref (al v1)), (2, .int v2)]) X dX3_countWins_12 (by decide) rfl ?_
  refine a_iconst (v := 0) X dX3_countWins_14 ic_0 ?_
  refine a_istore (lo' := [(6, .int 0), (5, .int 0), (4, .int r_4), (3, .int r_2), (0, .ref (al v0)), (1, .ref (al v1)), (2, .int v2)]) X dX3_countWins_15 (by decide) rfl ?_
  refine a_iconst (v := 1) X dX3_countWins_17 ic_1 ?_
  refine a_istore (lo' := [(7, .int 1), (6, .int 0), (5, .int 0), (4, .int r_4), (3, .int r_2), (0, .ref (al v0)), (1, .ref (al v1)), (2, .int v2)]) X dX3_countWins_18 (by decide) rfl ?_
  refine a_sub (ks := [5, 6, 7, 4, 3, 2, 1, 0]) (lo' := [(0, .ref (al v0)), (1, .ref (al v1)), (2, .int v2), (3, .int r_2), (4, .int r_4), (5, .int 0), (6, .int 0), (7, .int 1)]) rfl ?_
  obtain ⟨n9, h⟩ := h
  exact tX3_countWins_20 X i0 i1 n9 _ _ _ _ h
abbrev rm_X3_wins : Room := { frames := 4, cells := 0, slots := 0, locals := 91 }
def wpX3_wins (mk : Nat) (M : Mem) (v1 : Int32) (v2 : Int32) (v3 : Int32) (Q : Int32 → Mem → Prop) : Prop := wpX3_find mk M v1 (fun o M_1 => (o = none → wpX3_findOther mk M_1 v1 v2 (fun o M_3 => (o = none → wpX3_refuse M_3 1 (fun r_6 M_5 => Q r_6 M_5)) ∧ (∀ n_4 : Nat, o = some n_4 → wpX3_refuse M_3 1 (fun r_8 M_7 => Q r_8 M_7)))) ∧ (∀ n_2 : Nat, o = some n_2 → wpX3_findOther mk M_1 v1 v2 (fun o M_9 => (o = none → wpX3_refuse M_9 1 (fun r_12 M_11 => Q r_12 M_11)) ∧ (∀ n_10 : Nat, o = some n_10 → wpX3_countWins M_9 (n_2 + 5) (n_10 + 5) v3 (fun r_14 M_13 => wpX3_pass M_13 r_14 (fun r_16 M_15 => Q r_16 M_15))))))
set_option maxHeartbeats 4000000 in
set_option maxRecDepth 100000 in
theorem cX3_wins_ok (l : Launch) {G : Gl} {al : Nat → Nat} {mk : Nat} {M : Mem} {v1 : Int32} {v2 : Int32} {v3 : Int32} {Q : Int32 → Mem → Prop} (h : wpX3_wins mk M v1 v2 v3 Q) : Kv l yX3_wins cX3_wins 6 (some .int) rm_X3_wins G al mk M [.ref (al 0), .int v1, .int v2, .int v3] (QI G al mk Q) := by
  refine a_head (by decide) (Nat.le_of_ble_eq_true rfl) (fun p e s m below meth c X => ?_)
  have X : Cx p s m meth c G RX3 cX3_wins 6 (some .int) := X
  unfold wpX3_wins at h
  refine a_sub (ks := [0, 1, 2, 3]) (lo' := [(0, .ref (al 0)), (1, .int v1), (2, .int v2), (3, .int v3)]) rfl ?_
  refine a_aload_n X dX3_wins_0 rfl 0 rfl ?_
  refine a_iload_n X dX3_wins_1 rfl 1 rfl ?_
  refine a_cVq (As := [.int v1]) (st := []) X fw3 iz_0 (cX3_find_ok l h) mlX3_80 mvX3_find (rz rfl) (Nat.le_of_ble_eq_true rfl) rfl dX3_wins_2 (fun M_1 h => ?_) (fun n_2 M_1 in_2 h => ?_)
  · have h := h.1 rfl
    refine a_astoreN (lo' := [(4, .null), (0, .ref (al 0)), (1, .int v1), (2, .int v2), (3, .int v3)]) X dX3_wins_5 (by decide) rfl ?_
    refine a_aload_n X dX3_wins_7 rfl 1 rfl ?_
    refine a_iload_n X dX3_wins_8 rfl 2 rfl ?_
    refine a_iload_n X dX3_wins_9 rfl 3 rfl ?_
    refine a_cVq (As := [.int v1, .int v2]) (st := []) X fw3 iz_0 (cX3_findOther_ok l h) mlX3_200 mvX3_findOther (rz rfl) (Nat.le_of_ble_eq_true rfl) rfl dX3_wins_10 (fun M_3 h => ?_) (fun n_4 M_3 in_4 h => ?_)
    · have h := h.1 rfl
      refine a_astoreN (lo' := [(5, .null), (4, .null), (0, .ref (al 0)), (1, .int v1), (2, .int v2), (3, .int v3)]) X dX3_wins_13 (by decide) rfl ?_
      refine a_aloadN X dX3_wins_15 1 rfl ?_
      refine a_ifnullN (tgt := 25) X dX3_wins_17 (by decide) ?_
      refine a_aload_n X dX3_wins_25 rfl 2 rfl ?_
      refine a_iconst (v := 1) X dX3_wins_26 ic_1 ?_
      refine a_cVi (As := [.int 1]) (st := []) X fw3 iz_0 (cX3_refuse_ok l h) mlX3_58 mvX3_refuse (rz rfl) (Nat.le_of_ble_eq_true rfl) rfl dX3_wins_27 (fun r_6 M_5 h => ?_)
      exact a_iret X h dX3_wins_30
    · have h := h.2 n_4 rfl
      refine a_astore (lo' := [(5, .ref (al n_4)), (4, .null), (0, .ref (al 0)), (1, .int v1), (2, .int v2), (3, .int v3)]) X dX3_wins_13 (by decide) rfl ?_
      refine a_aloadN X dX3_wins_15 1 rfl ?_
      refine a_ifnullN (tgt := 25) X dX3_wins_17 (by decide) ?_
      refine a_aload_n X dX3_wins_25 rfl 2 rfl ?_
      refine a_iconst (v := 1) X dX3_wins_26 ic_1 ?_
      refine a_cVi (As := [.int 1]) (st := []) X fw3 iz_0 (cX3_refuse_ok l h) mlX3_58 mvX3_refuse (rz rfl) (Nat.le_of_ble_eq_true rfl) rfl dX3_wins_27 (fun r_8 M_7 h => ?_)
      exact a_iret X h dX3_wins_30
  · have h := h.2 n_2 rfl
    refine a_astore (lo' := [(4, .ref (al n_2)), (0, .ref (al 0)), (1, .int v1), (2, .int v2), (3, .int v3)]) X dX3_wins_5 (by decide) rfl ?_
    refine a_aload_n X dX3_wins_7 rfl 1 rfl ?_
    refine a_iload_n X dX3_wins_8 rfl 2 rfl ?_
    refine a_iload_n X dX3_wins_9 rfl 3 rfl ?_
    refine a_cVq (As := [.int v1, .int v2]) (st := []) X fw3 iz_0 (cX3_findOther_ok l h) mlX3_200 mvX3_findOther (rz rfl) (Nat.le_of_ble_eq_true rfl) rfl dX3_wins_10 (fun M_9 h => ?_) (fun n_10 M_9 in_10 h => ?_)
    · have h := h.1 rfl
      refine a_astoreN (lo' := [(5, .null), (4, .ref (al n_2)), (0, .ref (al 0)), (1, .int v1), (2, .int v2), (3, .int v3)]) X dX3_wins_13 (by decide) rfl ?_
      refine a_aload X dX3_wins_15 1 rfl ?_
      refine a_ifnull X dX3_wins_17 ?_
      refine a_aloadN X dX3_wins_20 0 rfl ?_
      refine a_ifnonnullN X dX3_wins_22 ?_
      refine a_aload_n X dX3_wins_25 rfl 2 rfl ?_
      refine a_iconst (v := 1) X dX3_wins_26 ic_1 ?_
      refine a_cVi (As := [.int 1]) (st := []) X fw3 iz_0 (cX3_refuse_ok l h) mlX3_58 mvX3_refuse (rz rfl) (Nat.le_of_ble_eq_true rfl) rfl dX3_wins_27 (fun r_12 M_11 h => ?_)
      exact a_iret X h dX3_wins_30
    · have h := h.2 n_10 rfl
      refine a_astore (lo' := [(5, .ref (al n_10)), (4, .ref (al n_2)), (0, .ref (al 0)), (1, .int v1), (2, .int v2), (3, .int v3)]) X dX3_wins_13 (by decide) rfl ?_
      refine a_aload X dX3_wins_15 1 rfl ?_
      refine a_ifnull X dX3_wins_17 ?_
      refine a_aload X dX3_wins_20 0 rfl ?_
      refine a_ifnonnull (tgt := 31) X dX3_wins_22 (by decide) ?_
      refine a_aload_n X dX3_wins_31 rfl 2 rfl ?_
      refine a_aload X dX3_wins_32 1 rfl ?_
      refine a_getR (k := 0) X 5 (b := (n_2 + 5)) fw1 in_2 rfl rfl flX3_87 rfl dX3_wins_34 ?_
      refine a_aload X dX3_wins_37 0 rfl ?_
      refine a_getR (k := 0) X 5 (b := (n_10 + 5)) fw1 in_10 rfl rfl flX3_87 rfl dX3_wins_39 ?_
      refine a_iload_n X dX3_wins_42 rfl 5 rfl ?_
      refine a_cSi (As := [.ref (al (n_2 + 5)), .ref (al (n_10 + 5)), .int v3]) (st := [.ref (al 0)]) X (cX3_countWins_ok l in_2.str.2 in_10.str.2 h) mlX3_242 msX3_countWins (rz rfl) (Nat.le_of_ble_eq_true rfl) rfl dX3_wins_43 (fun r_14 M_13 h => ?_)
      refine a_cVi (As := [.int r_14]) (st := []) X fw3 iz_0 (cX3_pass_ok l h) mlX3_74 mvX3_pass (rz rfl) (Nat.le_of_ble_eq_true rfl) rfl dX3_wins_46 (fun r_16 M_15 h => ?_)
      exact a_iret X h dX3_wins_49
abbrev rm_X3_wholeTrouble : Room := { frames := 2, cells := 0, slots := 0, locals := 45 }
def wpX3_wholeTrouble (mk : Nat) (M : Mem) (Q : Int32 → Mem → Prop) : Prop := wpX3_sumOfAll mk M 2 (fun r_2 M_1 => ((¬ r_2 = 0 → ((r_2 ≤ 1000 → Q 0 M_1) ∧ (¬ r_2 ≤ 1000 → Q 3 M_1))) ∧ (r_2 = 0 → Q 5 M_1)))
set_option maxHeartbeats 4000000 in
set_option maxRecDepth 100000 in
theorem cX3_wholeTrouble_ok (l : Launch) {G : Gl} {al : Nat → Nat} {mk : Nat} {M : Mem} {Q : Int32 → Mem → Prop} (h : wpX3_wholeTrouble mk M Q) : Kv l yX3_wholeTrouble cX3_wholeTrouble 2 (some .int) rm_X3_wholeTrouble G al mk M [.ref (al 0)] (QI G al mk Q) := by
  refine a_head (by decide) (Nat.le_of_ble_eq_true rfl) (fun p e s m below meth c X => ?_)
  have X : Cx p s m meth c G RX3 cX3_wholeTrouble 2 (some .int) := X
  unfold wpX3_wholeTrouble at h
  refine a_sub (ks := [0]) (lo' := [(0, .ref (al 0))]) rfl ?_
  refine a_aload_n X dX3_wholeTrouble_0 rfl 0 rfl ?_
  refine a_iconst (v := 2) X dX3_wholeTrouble_1 ic_2 ?_
  refine a_cVi (As := [.int 2]) (st := []) X fw3 iz_0 (cX3_sumOfAll_ok l h) mlX3_77 mvX3_sumOfAll (rz rfl) (Nat.le_of_ble_eq_true rfl) rfl dX3_wholeTrouble_2 (fun r_2 M_1 h => ?_)
  refine a_istore_n (lo' := [(1, .int r_2), (0, .ref (al 0))]) X dX3_wholeTrouble_5 rfl (by decide) rfl ?_
  refine a_iload_n X dX3_wholeTrouble_6 rfl 0 rfl ?_
  refine a_if_ne (tgt := 12) X dX3_wholeTrouble_7 (by decide) (fun z => ?_) (fun z => ?_)
  · have h := h.1 z
    refine a_iload_n X dX3_wholeTrouble_12 rfl 0 rfl ?_
    refine a_sipush (v := 1000) X dX3_wholeTrouble_13 sc_1000 ?_
    refine a_icmp_le (tgt := 23) X dX3_wholeTrouble_16 (by decide) (fun z => ?_) (fun z => ?_)
    · have h := h.1 z
      refine a_iconst (v := 0) X dX3_wholeTrouble_23 ic_0 ?_
      exact a_iret X h dX3_wholeTrouble_24
    · have h := h.2 z
      refine a_iconst (v := 3) X dX3_wholeTrouble_19 ic_3 ?_
      refine a_goto (tgt := 24) X dX3_wholeTrouble_20 (by decide) ?_
      exact a_iret X h dX3_wholeTrouble_24
  · have h := h.2 z
    refine a_iconst (v := 5) X dX3_wholeTrouble_10 ic_5 ?_
    exact a_iret X h dX3_wholeTrouble_11
abbrev rm_X3_makeWhole : Room := { frames := 4, cells := 0, slots := 0, locals := 93 }
def wX3_makeWhole_17 (mk : Nat) (Q : Nat → Mem → Prop) : Nat → Mem → Nat → Nat → Int32 → Prop
  | 0, _, _, _, _ => False
  | n + 1, M, v1, v2, v3 => (((gI M 0 2) ≤ v3 → Q v1 M) ∧ (¬ (gI M 0 2) ≤ v3 → wpX3_find mk M v3 (fun o M_2 => (o = none → wX3_makeWhole_17 mk Q n M_2 v1 v2 (v3 + 1)) ∧ (∀ n_3 : Nat, o = some n_3 → ((¬ (gI M_2 n_3 2) = 0 → ((¬ (gI M_2 v1 4) = 0 → wpX0_joinOf M_2 v2 v1 (n_3 + 5) (fun M_4 => wpX0_places M_4 v2 (fun r_6 M_5 => wpX3_boundOf M_5 r_6 (gI M_5 0 3) (fun r_8 M_7 => wpX0_shorten M_7 v2 r_8 (fun r_10 M_9 => wX3_makeWhole_17 mk Q n M_9 v2 v1 (v3 + 1)))))) ∧ ((gI M_2 v1 4) = 0 → wpX0_copyOf M_2 v1 (n_3 + 5) (fun M_11 => wX3_makeWhole_17 mk Q n M_11 v1 v2 (v3 + 1))))) ∧ ((gI M_2 n_3 2) = 0 → wX3_makeWhole_17 mk Q n M_2 v1 v2 (v3 + 1)))))))
def wpX3_makeWhole (mk : Nat) (M : Mem) (Q : Nat → Mem → Prop) : Prop := (∀ M_1 : Mem, M_1 = pI M 10 4 0 → ∃ n, wX3_makeWhole_17 mk Q n M_1 10 20 0)
set_option maxHeartbeats 4000000 in
set_option maxRecDepth 100000 in
theorem tX3_makeWhole_17 (X : Cx p s m meth c G RX3 cX3_makeWhole 6 (some (.object "GapRows$Row"))) {Q : Nat → Mem → Prop} : ∀ (n : Nat) (M : Mem) (v1 : Nat) (v2 : Nat) (v3 : Int32), Iz mk v1 (0, 0) → Iz mk v2 (0, 0) → wX3_makeWhole_17 mk Q n M v1 v2 v3 → Wa p l e rm_X3_makeWhole s m args below meth c 6 G al mk 0 0 (MQ below (QR G al mk Q) args s 0 0 (gA G)) M 17 [(0, .ref (al 0)), (1, .ref (al v1)), (2, .ref (al v2)), (3, .int v3)] [] := by
  intro n
  induction n with
  | zero =>
    intro M v1 v2 v3 i1 i2 h
    exact False.elim h
  | succ n ih =>
    intro M v1 v2 v3 i1 i2 h
    rw [wX3_makeWhole_17] at h
    refine a_iload_n X dX3_makeWhole_17 rfl 3 rfl ?_
    refine a_aload_n X dX3_makeWhole_18 rfl 0 rfl ?_
    refine a_getI (k := 2) X fw3 iz_0 rfl flX3_22 rfl dX3_makeWhole_19 ?_
    refine a_icmp_ge (tgt := 107) X dX3_makeWhole_22 (by decide) (fun z => ?_) (fun z => ?_)
    · have h := h.1 z
      refine a_aload_n X dX3_makeWhole_107 rfl 1 rfl ?_
      exact a_rret X i1 h dX3_makeWhole_108
    · have h := h.2 z
      refine a_aload_n X dX3_makeWhole_25 rfl 0 rfl ?_
      refine a_iload_n X dX3_makeWhole_26 rfl 3 rfl ?_
      refine a_cVq (As := [.int v3]) (st := []) X fw3 iz_0 (cX3_find_ok l h) mlX3_80 mvX3_find (rz rfl) (Nat.le_of_ble_eq_true rfl) rfl dX3_makeWhole_27 (fun M_2 h => ?_) (fun n_3 M_2 in_3 h => ?_)
      · have h := h.1 rfl
        refine a_astoreN (lo' := [(4, .null), (0, .ref (al 0)), (1, .ref (al v1)), (2, .ref (al v2)), (3, .int v3)]) X dX3_makeWhole_30 (by decide) rfl ?_
        refine a_aloadN X dX3_makeWhole_32 0 rfl ?_
        refine a_ifnullN (tgt := 101) X dX3_makeWhole_34 (by decide) ?_
        refine a_iinc (v := v3 + 1) (lo' := [(3, .int (v3 + 1)), (4, .null), (0, .ref (al 0)), (1, .ref (al v1)), (2, .ref (al v2))]) X dX3_makeWhole_101 4 rfl (ii_1 _) (by decide) rfl ?_
        refine a_goto (tgt := 17) X dX3_makeWhole_104 (by decide) ?_
        refine a_sub (ks := [2, 3, 4, 0]) (lo' := [(0, .ref (al 0)), (1, .ref (al v1)), (2, .ref (al v2)), (3, .int (v3 + 1))]) rfl ?_
        exact ih _ _ _ _ i1 i2 h
      · have h := h.2 n_3 rfl
        refine a_astore (lo' := [(4, .ref (al n_3)), (0, .ref (al 0)), (1, .ref (al v1)), (2, .ref (al v2)), (3, .int v3)]) X dX3_makeWhole_30 (by decide) rfl ?_
        refine a_aload X dX3_makeWhole_32 0 rfl ?_
        refine a_ifnull X dX3_makeWhole_34 ?_
        refine a_aload X dX3_makeWhole_37 0 rfl ?_
        refine a_getI (k := 2) X fw1 in_3 rfl flX3_84 rfl dX3_makeWhole_39 ?_
        refine a_if_ne (tgt := 48) X dX3_makeWhole_42 (by decide) (fun z => ?_) (fun z => ?_)
        · have h := h.1 z
          refine a_aload_n X dX3_makeWhole_48 rfl 2 rfl ?_
          refine a_getI (k := 4) X fw0 i1 rfl flX3_90 rfl dX3_makeWhole_49 ?_
          refine a_if_ne (tgt := 67) X dX3_makeWhole_52 (by decide) (fun z => ?_) (fun z => ?_)
          · have h := h.1 z
            refine a_aload_n X dX3_makeWhole_67 rfl 3 rfl ?_
            refine a_aload_n X dX3_makeWhole_68 rfl 2 rfl ?_
            refine a_aload X dX3_makeWhole_69 0 rfl ?_
            refine a_getR (k := 0) X 5 (b := (n_3 + 5)) fw1 in_3 rfl rfl flX3_87 rfl dX3_makeWhole_71 ?_
            refine a_cVv (As := [.ref (al v1), .ref (al (n_3 + 5))]) (st := []) X fw0 i2 (cX0_joinOf_ok l i2 i1 in_3.str.2 h) mlX3_235 mvX0_joinOf (rz rfl) (Nat.le_of_ble_eq_true rfl) rfl dX3_makeWhole_74 (fun M_4 h => ?_)
            refine a_aload_n X dX3_makeWhole_77 rfl 3 rfl ?_
            refine a_aload_n X dX3_makeWhole_78 rfl 3 rfl ?_
            refine a_cVi (As := []) (st := [.ref (al v2)]) X fw0 i2 (cX0_places_ok l i2 h) mlX3_253 mvX0_places (rz rfl) (Nat.le_of_ble_eq_true rfl) rfl dX3_makeWhole_79 (fun r_6 M_5 h => ?_)
            refine a_aload_n X dX3_makeWhole_82 rfl 1 rfl ?_
            refine a_getI (k := 3) X fw3 iz_0 rfl flX3_26 rfl dX3_makeWhole_83 ?_
            refine a_cSi (As := [.int r_6, .int (gI M_5 0 3)]) (st := [.ref (al v2)]) X (cX3_boundOf_ok l h) mlX3_93 msX3_boundOf (rz rfl) (Nat.le_of_ble_eq_true rfl) rfl dX3_makeWhole_86 (fun r_8 M_7 h => ?_)
            refine a_cVi (As := [.int r_8]) (st := []) X fw0 i2 (cX0_shorten_ok l i2 h) mlX3_239 mvX0_shorten (rz rfl) (Nat.le_of_ble_eq_true rfl) rfl dX3_makeWhole_89 (fun r_10 M_9 h => ?_)
            refine a_pop X dX3_makeWhole_92 rfl ?_
            refine a_aload_n X dX3_makeWhole_93 rfl 2 rfl ?_
            refine a_astore (lo' := [(5, .ref (al v1)), (4, .ref (al n_3)), (0, .ref (al 0)), (1, .ref (al v1)), (2, .ref (al v2)), (3, .int v3)]) X dX3_makeWhole_94 (by decide) rfl ?_
            refine a_aload_n X dX3_makeWhole_96 rfl 4 rfl ?_
            refine a_astore_n (lo' := [(1, .ref (al v2)), (5, .ref (al v1)), (4, .ref (al n_3)), (0, .ref (al 0)), (2, .ref (al v2)), (3, .int v3)]) X dX3_makeWhole_97 rfl (by decide) rfl ?_
            refine a_aload X dX3_makeWhole_98 1 rfl ?_
            refine a_astore_n (lo' := [(2, .ref (al v1)), (1, .ref (al v2)), (5, .ref (al v1)), (4, .ref (al n_3)), (0, .ref (al 0)), (3, .int v3)]) X dX3_makeWhole_100 rfl (by decide) rfl ?_
            refine a_iinc (v := v3 + 1) (lo' := [(3, .int (v3 + 1)), (2, .ref (al v1)), (1, .ref (al v2)), (5, .ref (al v1)), (4, .ref (al n_3)), (0, .ref (al 0))]) X dX3_makeWhole_101 5 rfl (ii_1 _) (by decide) rfl ?_
            refine a_goto (tgt := 17) X dX3_makeWhole_104 (by decide) ?_
            refine a_sub (ks := [5, 2, 1, 0]) (lo' := [(0, .ref (al 0)), (1, .ref (al v2)), (2, .ref (al v1)), (3, .int (v3 + 1))]) rfl ?_
            exact ih _ _ _ _ i2 i1 h
          · have h := h.2 z
            refine a_aload_n X dX3_makeWhole_55 rfl 2 rfl ?_
            refine a_aload X dX3_makeWhole_56 0 rfl ?_
            refine a_getR (k := 0) X 5 (b := (n_3 + 5)) fw1 in_3 rfl rfl flX3_87 rfl dX3_makeWhole_58 ?_
            refine a_cVv (As := [.ref (al (n_3 + 5))]) (st := []) X fw0 i1 (cX0_copyOf_ok l i1 in_3.str.2 h) mlX3_256 mvX0_copyOf (rz rfl) (Nat.le_of_ble_eq_true rfl) rfl dX3_makeWhole_61 (fun M_11 h => ?_)
            refine a_goto (tgt := 101) X dX3_makeWhole_64 (by decide) ?_
            refine a_iinc (v := v3 + 1) (lo' := [(3, .int (v3 + 1)), (4, .ref (al n_3)), (0, .ref (al 0)), (1, .ref (al v1)), (2, .ref (al v2))]) X dX3_makeWhole_101 4 rfl (ii_1 _) (by decide) rfl ?_
            refine a_goto (tgt := 17) X dX3_makeWhole_104 (by decide) ?_
            refine a_sub (ks := [2, 3, 4, 0]) (lo' := [(0, .ref (al 0)), (1, .ref (al v1)), (2, .ref (al v2)), (3, .int (v3 + 1))]) rfl ?_
            exact ih _ _ _ _ i1 i2 h
        · have h := h.2 z
          refine a_goto (tgt := 101) X dX3_makeWhole_45 (by decide) ?_
          refine a_iinc (v := v3 + 1) (lo' := [(3, .int (v3 + 1)), (4, .ref (al n_3)), (0, .ref (al 0)), (1, .ref (al v1)), (2, .ref (al v2))]) X dX3_makeWhole_101 4 rfl (ii_1 _) (by decide) rfl ?_
          refine a_goto (tgt := 17) X dX3_makeWhole_104 (by decide) ?_
          refine a_sub (ks := [2, 3, 4, 0]) (lo' := [(0, .ref (al 0)), (1, .ref (al v1)), (2, .ref (al v2)), (3, .int (v3 + 1))]) rfl ?_
          exact ih _ _ _ _ i1 i2 h
set_option maxHeartbeats 4000000 in
set_option maxRecDepth 100000 in
theorem cX3_makeWhole_ok (l : Launch) {G : Gl} {al : Nat → Nat} {mk : Nat} {M : Mem} {Q : Nat → Mem → Prop} (h : wpX3_makeWhole mk M Q) : Kv l yX3_makeWhole cX3_makeWhole 6 (some (.object "GapRows$Row")) rm_X3_makeWhole G al mk M [.ref (al 0)] (QR G al mk Q) := by
  refine a_head (by decide) (Nat.le_of_ble_eq_true rfl) (fun p e s m below meth c X => ?_)
  have X : Cx p s m meth c G RX3 cX3_makeWhole 6 (some (.object "GapRows$Row")) := X
  unfold wpX3_makeWhole at h
  refine a_sub (ks := [0]) (lo' := [(0, .ref (al 0))]) rfl ?_
  refine a_aload_n X dX3_makeWhole_0 rfl 0 rfl ?_
  refine a_getR (k := 8) X 10 (b := 10) fw3 iz_0 rfl rfl flX3_44 rfl dX3_makeWhole_1 ?_
  refine a_astore_n (lo' := [(1, .ref (al 10)), (0, .ref (al 0))]) X dX3_makeWhole_4 rfl (by decide) rfl ?_
  refine a_aload_n X dX3_makeWhole_5 rfl 1 rfl ?_
  refine a_getR (k := 9) X 20 (b := 20) fw3 iz_0 rfl rfl flX3_48 rfl dX3_makeWhole_6 ?_
  refine a_astore_n (lo' := [(2, .ref (al 20)), (1, .ref (al 10)), (0, .ref (al 0))]) X dX3_makeWhole_9 rfl (by decide) rfl ?_
  refine a_aload_n X dX3_makeWhole_10 rfl 1 rfl ?_
  refine a_iconst (v := 0) X dX3_makeWhole_11 ic_0 ?_
  refine a_putI (k := 4) X fw0 iz_10 rfl flX3_90 rfl rfl dX3_makeWhole_12 (fun M_1 eM_1 => ?_)
  have h := h M_1 eM_1
  refine a_iconst (v := 0) X dX3_makeWhole_15 ic_0 ?_
  refine a_istore_n (lo' := [(3, .int 0), (2, .ref (al 20)), (1, .ref (al 10)), (0, .ref (al 0))]) X dX3_makeWhole_16 rfl (by decide) rfl ?_
  refine a_sub (ks := [3, 2, 1, 0]) (lo' := [(0, .ref (al 0)), (1, .ref (al 10)), (2, .ref (al 20)), (3, .int 0)]) rfl ?_
  obtain ⟨n9, h⟩ := h
  exact tX3_makeWhole_17 X n9 _ _ _ _ iz_10 iz_20 h
abbrev rm_X3_whole : Room := { frames := 5, cells := 0, slots := 0, locals := 118 }
def wpX3_whole (mk : Nat) (M : Mem) (v1 : Int32) (Q : Int32 → Mem → Prop) : Prop := (((gI M 0 2) = 0 → wpX3_refuse M 1 (fun r_2 M_1 => Q r_2 M_1)) ∧ (¬ (gI M 0 2) = 0 → ((v1 < 0 → wpX3_refuse M 1 (fun r_4 M_3 => Q r_4 M_3)) ∧ (¬ v1 < 0 → ((v1 ≤ 2 → wpX3_wholeTrouble mk M (fun r_6 M_5 => ((r_6 = 0 → wpX3_makeWhole mk M_5 (fun n_8 M_7 => ((¬ v1 = 0 → ((¬ v1 = 1 → wpX0_greatestOff M_7 n_8 (fun r_10 M_9 => wpX3_pass M_9 r_10 (fun r_12 M_11 => Q r_12 M_11))) ∧ (v1 = 1 → wpX3_pass M_7 (gI M_7 n_8 4) (fun r_14 M_13 => Q r_14 M_13)))) ∧ (v1 = 0 → wpX0_places M_7 n_8 (fun r_16 M_15 => wpX3_pass M_15 r_16 (fun r_18 M_17 => Q r_18 M_17)))))) ∧ (¬ r_6 = 0 → wpX3_refuse M_5 r_6 (fun r_20 M_19 => Q r_20 M_19))))) ∧ (¬ v1 ≤ 2 → wpX3_refuse M 1 (fun r_22 M_21 => Q r_22 M_21)))))))
set_option maxHeartbeats 4000000 in
set_option maxRecDepth 100000 in
theorem cX3_whole_ok (l : Launch) {G : Gl} {al : Nat → Nat} {mk : Nat} {M : Mem} {v1 : Int32} {Q : Int32 → Mem → Prop} (h : wpX3_whole mk M v1 Q) : Kv l yX3_whole cX3_whole 4 (some .int) rm_X3_whole G al mk M [.ref (al 0), .int v1] (QI G al mk Q) := by
  refine a_head (by decide) (Nat.le_of_ble_eq_true rfl) (fun p e s m below meth c X => ?_)
  have X : Cx p s m meth c G RX3 cX3_whole 4 (some .int) := X
  unfold wpX3_whole at h
  refine a_sub (ks := [0, 1]) (lo' := [(0, .ref (al 0)), (1, .int v1)]) rfl ?_
  refine a_aload_n X dX3_whole_0 rfl 0 rfl ?_
  refine a_getI (k := 2) X fw3 iz_0 rfl flX3_22 rfl dX3_whole_1 ?_
  refine a_if_eq (tgt := 16) X dX3_whole_4 (by decide) (fun z => ?_) (fun z => ?_)
  · have h := h.1 z
    refine a_aload_n X dX3_whole_16 rfl 0 rfl ?_
    refine a_iconst (v := 1) X dX3_whole_17 ic_1 ?_
    refine a_cVi (As := [.int 1]) (st := []) X fw3 iz_0 (cX3_refuse_ok l h) mlX3_58 mvX3_refuse (rz rfl) (Nat.le_of_ble_eq_true rfl) rfl dX3_whole_18 (fun r_2 M_1 h => ?_)
    exact a_iret X h dX3_whole_21
  · have h := h.2 z
    refine a_iload_n X dX3_whole_7 rfl 1 rfl ?_
    refine a_if_lt (tgt := 16) X dX3_whole_8 (by decide) (fun z => ?_) (fun z => ?_)
    · have h := h.1 z
      refine a_aload_n X dX3_whole_16 rfl 0 rfl ?_
      refine a_iconst (v := 1) X dX3_whole_17 ic_1 ?_
      refine a_cVi (As := [.int 1]) (st := []) X fw3 iz_0 (cX3_refuse_ok l h) mlX3_58 mvX3_refuse (rz rfl) (Nat.le_of_ble_eq_true rfl) rfl dX3_whole_18 (fun r_4 M_3 h => ?_)
      exact a_iret X h dX3_whole_21
    · have h := h.2 z
      refine a_iload_n X dX3_whole_11 rfl 1 rfl ?_
      refine a_iconst (v := 2) X dX3_whole_12 ic_2 ?_
      refine a_icmp_le (tgt := 22) X dX3_whole_13 (by decide) (fun z => ?_) (fun z => ?_)
      · have h := h.1 z
        refine a_aload_n X dX3_whole_22 rfl 0 rfl ?_
        refine a_cVi (As := []) (st := []) X fw3 iz_0 (cX3_wholeTrouble_ok l h) mlX3_246 mvX3_wholeTrouble (rz rfl) (Nat.le_of_ble_eq_true rfl) rfl dX3_whole_23 (fun r_6 M_5 h => ?_)
        refine a_istore_n (lo' := [(2, .int r_6), (0, .ref (al 0)), (1, .int v1)]) X dX3_whole_26 rfl (by decide) rfl ?_
        refine a_iload_n X dX3_whole_27 rfl 0 rfl ?_
        refine a_if_eq (tgt := 37) X dX3_whole_28 (by decide) (fun z => ?_) (fun z => ?_)
        · have h := h.1 z
          refine a_aload_n X dX3_whole_37 rfl 1 rfl ?_
          refine a_cVr (As := []) (st := []) X fw3 iz_0 (cX3_makeWhole_ok l h) mlX3_249 mvX3_makeWhole (rz rfl) (Nat.le_of_ble_eq_true rfl) rfl dX3_whole_38 (fun n_8 M_7 in_8 h => ?_)
          refine a_astore_n (lo' := [(3, .ref (al n_8)), (2, .int r_6), (0, .ref (al 0)), (1, .int v1)]) X dX3_whole_41 rfl (by decide) rfl ?_
          refine a_iload_n X dX3_whole_42 rfl 3 rfl ?_
          refine a_if_ne (tgt := 55) X dX3_whole_43 (by decide) (fun z => ?_) (fun z => ?_)
          · have h := h.1 z
            refine a_aload_n X dX3_whole_55 rfl 2 rfl ?_
            refine a_iload_n X dX3_whole_56 rfl 3 rfl ?_
            refine a_iconst (v := 1) X dX3_whole_57 ic_1 ?_
            refine a_icmp_ne (tgt := 68) X dX3_whole_58 (by decide) (fun z => ?_) (fun z => ?_)
            · have h := h.1 z
              refine a_aload_n X dX3_whole_68 rfl 0 rfl ?_
              refine a_cVi (As := []) (st := [.ref (al 0)]) X fw0 in_8 (cX0_greatestOff_ok l in_8 h) mlX3_178 mvX0_greatestOff (rz rfl) (Nat.le_of_ble_eq_true rfl) rfl dX3_whole_69 (fun r_10 M_9 h => ?_)
              refine a_cVi (As := [.int r_10]) (st := []) X fw3 iz_0 (cX3_pass_ok l h) mlX3_74 mvX3_pass (rz rfl) (Nat.le_of_ble_eq_true rfl) rfl dX3_whole_72 (fun r_12 M_11 h => ?_)
              exact a_iret X h dX3_whole_75
            · have h := h.2 z
              refine a_aload_n X dX3_whole_61 rfl 0 rfl ?_
              refine a_getI (k := 4) X fw0 in_8 rfl flX3_90 rfl dX3_whole_62 ?_
              refine a_goto (tgt := 72) X dX3_whole_65 (by decide) ?_
              refine a_cVi (As := [.int (gI M_7 n_8 4)]) (st := []) X fw3 iz_0 (cX3_pass_ok l h) mlX3_74 mvX3_pass (rz rfl) (Nat.le_of_ble_eq_true rfl) rfl dX3_whole_72 (fun r_14 M_13 h => ?_)
              exact a_iret X h dX3_whole_75
          · have h := h.2 z
            refine a_aload_n X dX3_whole_46 rfl 2 rfl ?_
            refine a_aload_n X dX3_whole_47 rfl 0 rfl ?_
            refine a_cVi (As := []) (st := [.ref (al 0)]) X fw0 in_8 (cX0_places_ok l in_8 h) mlX3_253 mvX0_places (rz rfl) (Nat.le_of_ble_eq_true rfl) rfl dX3_whole_48 (fun r_16 M_15 h => ?_)
            refine a_cVi (As := [.int r_16]) (st := []) X fw3 iz_0 (cX3_pass_ok l h) mlX3_74 mvX3_pass (rz rfl) (Nat.le_of_ble_eq_true rfl) rfl dX3_whole_51 (fun r_18 M_17 h => ?_)
            exact a_iret X h dX3_whole_54
        · have h := h.2 z
          refine a_aload_n X dX3_whole_31 rfl 1 rfl ?_
          refine a_iload_n X dX3_whole_32 rfl 0 rfl ?_
          refine a_cVi (As := [.int r_6]) (st := []) X fw3 iz_0 (cX3_refuse_ok l h) mlX3_58 mvX3_refuse (rz rfl) (Nat.le_of_ble_eq_true rfl) rfl dX3_whole_33 (fun r_20 M_19 h => ?_)
          exact a_iret X h dX3_whole_36
      · have h := h.2 z
        refine a_aload_n X dX3_whole_16 rfl 0 rfl ?_
        refine a_iconst (v := 1) X dX3_whole_17 ic_1 ?_
        refine a_cVi (As := [.int 1]) (st := []) X fw3 iz_0 (cX3_refuse_ok l h) mlX3_58 mvX3_refuse (rz rfl) (Nat.le_of_ble_eq_true rfl) rfl dX3_whole_18 (fun r_22 M_21 h => ?_)
        exact a_iret X h dX3_whole_21
abbrev rm_X3_overall : Room := { frames := 5, cells := 0, slots := 0, locals := 118 }
def wpX3_overall (mk : Nat) (M : Mem) (v1 : Int32) (v2 : Int32) (Q : Int32 → Mem → Prop) : Prop := (((gI M 0 2) = 0 → wpX3_refuse M 1 (fun r_2 M_1 => Q r_2 M_1)) ∧ (¬ (gI M 0 2) = 0 → ((v2 < 0 → wpX3_refuse M 1 (fun r_4 M_3 => Q r_4 M_3)) ∧ (¬ v2 < 0 → ((v2 ≤ 1 → wpX3_wholeTrouble mk M (fun r_6 M_5 => ((r_6 = 0 → wpX3_makeWhole mk M_5 (fun n_8 M_7 => ((v1 < 1 → wpX3_refuse M_7 2 (fun r_10 M_9 => Q r_10 M_9)) ∧ (¬ v1 < 1 → wpX0_places M_7 n_8 (fun r_12 M_11 => ((v1 ≤ r_12 → wpX0_nearest M_11 n_8 v1 0 (fun r_14 M_13 => ((¬ v2 = 0 → wpX0_offBy M_13 n_8 r_14 v1 (fun r_16 M_15 => wpX3_pass M_15 r_16 (fun r_18 M_17 => Q r_18 M_17))) ∧ (v2 = 0 → (vp_in r_14 1000 ∧ wpX3_pass M_13 (gI M_13 (n_8 + 1) (Int32.toNatClampNeg r_14)) (fun r_20 M_19 => Q r_20 M_19)))))) ∧ (¬ v1 ≤ r_12 → wpX3_refuse M_11 2 (fun r_22 M_21 => Q r_22 M_21)))))))) ∧ (¬ r_6 = 0 → wpX3_refuse M_5 r_6 (fun r_24 M_23 => Q r_24 M_23))))) ∧ (¬ v2 ≤ 1 → wpX3_refuse M 1 (fun r_26 M_25 => Q r_26 M_25)))))))
set_option maxHeartbeats 4000000 in
set_option maxRecDepth 100000 in
theorem cX3_overall_ok (l : Launch) {G : Gl} {al : Nat → Nat} {mk : Nat} {M : Mem} {v1 : Int32} {v2 : Int32} {Q : Int32 → Mem → Prop} (h : wpX3_overall mk M v1 v2 Q) : Kv l yX3_overall cX3_overall 6 (some .int) rm_X3_overall G al mk M [.ref (al 0), .int v1, .int v2] (QI G al mk Q) := by
  refine a_head (by decide) (Nat.le_of_ble_eq_true rfl) (fun p e s m below meth c X => ?_)
  have X : Cx p s m meth c G RX3 cX3_overall 6 (some .int) := X
  unfold wpX3_overall at h
  refine a_sub (ks := [0, 1, 2]) (lo' := [(0, .ref (al 0)), (1, .int v1), (2, .int v2)]) rfl ?_
  refine a_aload_n X dX3_overall_0 rfl 0 rfl ?_
  refine a_getI (k := 2) X fw3 iz_0 rfl flX3_22 rfl dX3_overall_1 ?_
  refine a_if_eq (tgt := 16) X dX3_overall_4 (by decide) (fun z => ?_) (fun z => ?_)
  · have h := h.1 z
    refine a_aload_n X dX3_overall_16 rfl 0 rfl ?_
    refine a_iconst (v := 1) X dX3_overall_17 ic_1 ?_
    refine a_cVi (As := [.int 1]) (st := []) X fw3 iz_0 (cX3_refuse_ok l h) mlX3_58 mvX3_refuse (rz rfl) (Nat.le_of_ble_eq_true rfl) rfl dX3_overall_18 (fun r_2 M_1 h => ?_)
    exact a_iret X h dX3_overall_21
  · have h := h.2 z
    refine a_iload_n X dX3_overall_7 rfl 2 rfl ?_
    refine a_if_lt (tgt := 16) X dX3_overall_8 (by decide) (fun z => ?_) (fun z => ?_)
    · have h := h.1 z
      refine a_aload_n X dX3_overall_16 rfl 0 rfl ?_
      refine a_iconst (v := 1) X dX3_overall_17 ic_1 ?_
      refine a_cVi (As := [.int 1]) (st := []) X fw3 iz_0 (cX3_refuse_ok l h) mlX3_58 mvX3_refuse (rz rfl) (Nat.le_of_ble_eq_true rfl) rfl dX3_overall_18 (fun r_4 M_3 h => ?_)
      exact a_iret X h dX3_overall_21
    · have h := h.2 z
      refine a_iload_n X dX3_overall_11 rfl 2 rfl ?_
      refine a_iconst (v := 1) X dX3_overall_12 ic_1 ?_
      refine a_icmp_le (tgt := 22) X dX3_overall_13 (by decide) (fun z => ?_) (fun z => ?_)
      · have h := h.1 z
        refine a_aload_n X dX3_overall_22 rfl 0 rfl ?_
        refine a_cVi (As := []) (st := []) X fw3 iz_0 (cX3_wholeTrouble_ok l h) mlX3_246 mvX3_wholeTrouble (rz rfl) (Nat.le_of_ble_eq_true rfl) rfl dX3_overall_23 (fun r_6 M_5 h => ?_)
        refine a_istore_n (lo' := [(3, .int r_6), (0, .ref (al 0)), (1, .int v1), (2, .int v2)]) X dX3_overall_26 rfl (by decide) rfl ?_
        refine a_iload_n X dX3_overall_27 rfl 0 rfl ?_
        refine a_if_eq (tgt := 37) X dX3_overall_28 (by decide) (fun z => ?_) (fun z => ?_)
        · have h := h.1 z
          refine a_aload_n X dX3_overall_37 rfl 1 rfl ?_
          refine a_cVr (As := []) (st := []) X fw3 iz_0 (cX3_makeWhole_ok l h) mlX3_249 mvX3_makeWhole (rz rfl) (Nat.le_of_ble_eq_true rfl) rfl dX3_overall_38 (fun n_8 M_7 in_8 h => ?_)
          refine a_astore (lo' := [(4, .ref (al n_8)), (3, .int r_6), (0, .ref (al 0)), (1, .int v1), (2, .int v2)]) X dX3_overall_41 (by decide) rfl ?_
          refine a_iload_n X dX3_overall_43 rfl 3 rfl ?_
          refine a_iconst (v := 1) X dX3_overall_44 ic_1 ?_
          refine a_icmp_lt (tgt := 57) X dX3_overall_45 (by decide) (fun z => ?_) (fun z => ?_)
          · have h := h.1 z
            refine a_aload_n X dX3_overall_57 rfl 2 rfl ?_
            refine a_iconst (v := 2) X dX3_overall_58 ic_2 ?_
            refine a_cVi (As := [.int 2]) (st := []) X fw3 iz_0 (cX3_refuse_ok l h) mlX3_58 mvX3_refuse (rz rfl) (Nat.le_of_ble_eq_true rfl) rfl dX3_overall_59 (fun r_10 M_9 h => ?_)
            exact a_iret X h dX3_overall_62
          · have h := h.2 z
            refine a_iload_n X dX3_overall_48 rfl 3 rfl ?_
            refine a_aload X dX3_overall_49 0 rfl ?_
            refine a_cVi (As := []) (st := [.int v1]) X fw0 in_8 (cX0_places_ok l in_8 h) mlX3_253 mvX0_places (rz rfl) (Nat.le_of_ble_eq_true rfl) rfl dX3_overall_51 (fun r_12 M_11 h => ?_)
            refine a_icmp_le (tgt := 63) X dX3_overall_54 (by decide) (fun z => ?_) (fun z => ?_)
            · have h := h.1 z
              refine a_aload X dX3_overall_63 0 rfl ?_
              refine a_iload_n X dX3_overall_65 rfl 3 rfl ?_
              refine a_iconst (v := 0) X dX3_overall_66 ic_0 ?_
              refine a_cVi (As := [.int v1, .int 0]) (st := []) X fw0 in_8 (cX0_nearest_ok l in_8 h) mlX3_149 mvX0_nearest (rz rfl) (Nat.le_of_ble_eq_true rfl) rfl dX3_overall_67 (fun r_14 M_13 h => ?_)
              refine a_istore (lo' := [(5, .int r_14), (4, .ref (al n_8)), (3, .int r_6), (0, .ref (al 0)), (1, .int v1), (2, .int v2)]) X dX3_overall_70 (by decide) rfl ?_
              refine a_aload_n X dX3_overall_72 rfl 3 rfl ?_
              refine a_iload_n X dX3_overall_73 rfl 5 rfl ?_
              refine a_if_ne (tgt := 88) X dX3_overall_74 (by decide) (fun z => ?_) (fun z => ?_)
              · have h := h.1 z
                refine a_aload X dX3_overall_88 1 rfl ?_
                refine a_iload X dX3_overall_90 0 rfl ?_
                refine a_iload_n X dX3_overall_92 rfl 4 rfl ?_
                refine a_cVi (As := [.int r_14, .int v1]) (st := [.ref (al 0)]) X fw0 in_8 (cX0_offBy_ok l in_8 h) mlX3_152 mvX0_offBy (rz rfl) (Nat.le_of_ble_eq_true rfl) rfl dX3_overall_93 (fun r_16 M_15 h => ?_)
                refine a_cVi (As := [.int r_16]) (st := []) X fw3 iz_0 (cX3_pass_ok l h) mlX3_74 mvX3_pass (rz rfl) (Nat.le_of_ble_eq_true rfl) rfl dX3_overall_96 (fun r_18 M_17 h => ?_)
                exact a_iret X h dX3_overall_99
              · have h := h.2 z
                refine a_aload X dX3_overall_77 1 rfl ?_
                refine a_getR (k := 0) X 1 (b := (n_8 + 1)) fw0 in_8 rfl rfl flX3_106 rfl dX3_overall_79 ?_
                refine a_iload X dX3_overall_82 0 rfl ?_
                refine a_iald X in_8.row.1 h.1 dX3_overall_84 ?_
                have h := h.2
                refine a_goto (tgt := 96) X dX3_overall_85 (by decide) ?_
                refine a_cVi (As := [.int (gI M_13 (n_8 + 1) (Int32.toNatClampNeg r_14))]) (st := []) X fw3 iz_0 (cX3_pass_ok l h) mlX3_74 mvX3_pass (rz rfl) (Nat.le_of_ble_eq_true rfl) rfl dX3_overall_96 (fun r_20 M_19 h => ?_)
                exact a_iret X h dX3_overall_99
            · have h := h.2 z
              refine a_aload_n X dX3_overall_57 rfl 2 rfl ?_
              refine a_iconst (v := 2) X dX3_overall_58 ic_2 ?_
              refine a_cVi (As := [.int 2]) (st := []) X fw3 iz_0 (cX3_refuse_ok l h) mlX3_58 mvX3_refuse (rz rfl) (Nat.le_of_ble_eq_true rfl) rfl dX3_overall_59 (fun r_22 M_21 h => ?_)
              exact a_iret X h dX3_overall_62
        · have h := h.2 z
          refine a_aload_n X dX3_overall_31 rfl 1 rfl ?_
          refine a_iload_n X dX3_overall_32 rfl 0 rfl ?_
          refine a_cVi (As := [.int r_6]) (st := []) X fw3 iz_0 (cX3_refuse_ok l h) mlX3_58 mvX3_refuse (rz rfl) (Nat.le_of_ble_eq_true rfl) rfl dX3_overall_33 (fun r_24 M_23 h => ?_)
          exact a_iret X h dX3_overall_36
      · have h := h.2 z
        refine a_aload_n X dX3_overall_16 rfl 0 rfl ?_
        refine a_iconst (v := 1) X dX3_overall_17 ic_1 ?_
        refine a_cVi (As := [.int 1]) (st := []) X fw3 iz_0 (cX3_refuse_ok l h) mlX3_58 mvX3_refuse (rz rfl) (Nat.le_of_ble_eq_true rfl) rfl dX3_overall_18 (fun r_26 M_25 h => ?_)
        exact a_iret X h dX3_overall_21
abbrev rm_X3_rounds : Room := { frames := 4, cells := 0, slots := 0, locals := 115 }
def wpX3_rounds (mk : Nat) (M : Mem) (v1 : Int32) (Q : Int32 → Mem → Prop) : Prop := wpX3_find mk M v1 (fun o M_1 => (o = none → wpX3_refuse M_1 1 (fun r_4 M_3 => Q r_4 M_3)) ∧ (∀ n_2 : Nat, o = some n_2 → wpX0_copyOf M_1 10 (n_2 + 5) (fun M_5 => wpX3_boundOf M_5 (gI M_5 n_2 2) (gI M_5 0 3) (fun r_7 M_6 => wpX0_roundsLeft M_6 10 r_7 (fun r_9 M_8 => wpX3_pass M_8 r_9 (fun r_11 M_10 => Q r_11 M_10))))))
set_option maxHeartbeats 4000000 in
set_option maxRecDepth 100000 in
theorem cX3_rounds_ok (l : Launch) {G : Gl} {al : Nat → Nat} {mk : Nat} {M : Mem} {v1 : Int32} {Q : Int32 → Mem → Prop} (h : wpX3_rounds mk M v1 Q) : Kv l yX3_rounds cX3_rounds 3 (some .int) rm_X3_rounds G al mk M [.ref (al 0), .int v1] (QI G al mk Q) := by
  refine a_head (by decide) (Nat.le_of_ble_eq_true rfl) (fun p e s m below meth c X => ?_)
  have X : Cx p s m meth c G RX3 cX3_rounds 3 (some .int) := X
  unfold wpX3_rounds at h
  refine a_sub (ks := [0, 1]) (lo' := [(0, .ref (al 0)), (1, .int v1)]) rfl ?_
  refine a_aload_n X dX3_rounds_0 rfl 0 rfl ?_
  refine a_iload_n X dX3_rounds_1 rfl 1 rfl ?_
  refine a_cVq (As := [.int v1]) (st := []) X fw3 iz_0 (cX3_find_ok l h) mlX3_80 mvX3_find (rz rfl) (Nat.le_of_ble_eq_true rfl) rfl dX3_rounds_2 (fun M_1 h => ?_) (fun n_2 M_1 in_2 h => ?_)
  · have h := h.1 rfl
    refine a_astore_nN (lo' := [(2, .null), (0, .ref (al 0)), (1, .int v1)]) X dX3_rounds_5 rfl (by decide) rfl ?_
    refine a_aload_nN X dX3_rounds_6 rfl 0 rfl ?_
    refine a_ifnonnullN X dX3_rounds_7 ?_
    refine a_aload_n X dX3_rounds_10 rfl 1 rfl ?_
    refine a_iconst (v := 1) X dX3_rounds_11 ic_1 ?_
    refine a_cVi (As := [.int 1]) (st := []) X fw3 iz_0 (cX3_refuse_ok l h) mlX3_58 mvX3_refuse (rz rfl) (Nat.le_of_ble_eq_true rfl) rfl dX3_rounds_12 (fun r_4 M_3 h => ?_)
    exact a_iret X h dX3_rounds_15
  · have h := h.2 n_2 rfl
    refine a_astore_n (lo' := [(2, .ref (al n_2)), (0, .ref (al 0)), (1, .int v1)]) X dX3_rounds_5 rfl (by decide) rfl ?_
    refine a_aload_n X dX3_rounds_6 rfl 0 rfl ?_
    refine a_ifnonnull (tgt := 16) X dX3_rounds_7 (by decide) ?_
    refine a_aload_n X dX3_rounds_16 rfl 1 rfl ?_
    refine a_getR (k := 8) X 10 (b := 10) fw3 iz_0 rfl rfl flX3_44 rfl dX3_rounds_17 ?_
    refine a_aload_n X dX3_rounds_20 rfl 0 rfl ?_
    refine a_getR (k := 0) X 5 (b := (n_2 + 5)) fw1 in_2 rfl rfl flX3_87 rfl dX3_rounds_21 ?_
    refine a_cVv (As := [.ref (al (n_2 + 5))]) (st := []) X fw0 iz_10 (cX0_copyOf_ok l iz_10 in_2.str.2 h) mlX3_256 mvX0_copyOf (rz rfl) (Nat.le_of_ble_eq_true rfl) rfl dX3_rounds_24 (fun M_5 h => ?_)
    refine a_aload_n X dX3_rounds_27 rfl 1 rfl ?_
    refine a_aload_n X dX3_rounds_28 rfl 1 rfl ?_
    refine a_getR (k := 8) X 10 (b := 10) fw3 iz_0 rfl rfl flX3_44 rfl dX3_rounds_29 ?_
    refine a_aload_n X dX3_rounds_32 rfl 0 rfl ?_
    refine a_getI (k := 2) X fw1 in_2 rfl flX3_84 rfl dX3_rounds_33 ?_
    refine a_aload_n X dX3_rounds_36 rfl 1 rfl ?_
    refine a_getI (k := 3) X fw3 iz_0 rfl flX3_26 rfl dX3_rounds_37 ?_
    refine a_cSi (As := [.int (gI M_5 n_2 2), .int (gI M_5 0 3)]) (st := [.ref (al 10), .ref (al 0)]) X (cX3_boundOf_ok l h) mlX3_93 msX3_boundOf (rz rfl) (Nat.le_of_ble_eq_true rfl) rfl dX3_rounds_40 (fun r_7 M_6 h => ?_)
    refine a_cVi (As := [.int r_7]) (st := [.ref (al 0)]) X fw0 iz_10 (cX0_roundsLeft_ok l iz_10 h) mlX3_260 mvX0_roundsLeft (rz rfl) (Nat.le_of_ble_eq_true rfl) rfl dX3_rounds_43 (fun r_9 M_8 h => ?_)
    refine a_cVi (As := [.int r_9]) (st := []) X fw3 iz_0 (cX3_pass_ok l h) mlX3_74 mvX3_pass (rz rfl) (Nat.le_of_ble_eq_true rfl) rfl dX3_rounds_46 (fun r_11 M_10 h => ?_)
    exact a_iret X h dX3_rounds_49
abbrev rm_X3_coarse : Room := { frames := 3, cells := 0, slots := 0, locals := 93 }
def wpX3_coarse (mk : Nat) (M : Mem) (v1 : Int32) (v2 : Int32) (Q : Int32 → Mem → Prop) : Prop := wpX3_find mk M v1 (fun o M_1 => (o = none → wpX3_refuse M_1 1 (fun r_4 M_3 => Q r_4 M_3)) ∧ (∀ n_2 : Nat, o = some n_2 → ((v2 < 2 → wpX3_refuse M_1 2 (fun r_6 M_5 => Q r_6 M_5)) ∧ (¬ v2 < 2 → ((v2 ≤ (gI M_1 0 3) → wpX0_copyOf M_1 10 (n_2 + 5) (fun M_7 => wpX3_boundOf M_7 (gI M_7 n_2 2) v2 (fun r_9 M_8 => wpX0_shorten M_8 10 r_9 (fun r_11 M_10 => wpX3_pass M_10 (gI M_10 10 4) (fun r_13 M_12 => Q r_13 M_12))))) ∧ (¬ v2 ≤ (gI M_1 0 3) → wpX3_refuse M_1 2 (fun r_15 M_14 => Q r_15 M_14)))))))
set_option maxHeartbeats 4000000 in
set_option maxRecDepth 100000 in
theorem cX3_coarse_ok (l : Launch) {G : Gl} {al : Nat → Nat} {mk : Nat} {M : Mem} {v1 : Int32} {v2 : Int32} {Q : Int32 → Mem → Prop} (h : wpX3_coarse mk M v1 v2 Q) : Kv l yX3_coarse cX3_coarse 4 (some .int) rm_X3_coarse G al mk M [.ref (al 0), .int v1, .int v2] (QI G al mk Q) := by
  refine a_head (by decide) (Nat.le_of_ble_eq_true rfl) (fun p e s m below meth c X => ?_)
  have X : Cx p s m meth c G RX3 cX3_coarse 4 (some .int) := X
  unfold wpX3_coarse at h
  refine a_sub (ks := [0, 1, 2]) (lo' := [(0, .ref (al 0)), (1, .int v1), (2, .int v2)]) rfl ?_
  refine a_aload_n X dX3_coarse_0 rfl 0 rfl ?_
  refine a_iload_n X dX3_coarse_1 rfl 1 rfl ?_
  refine a_cVq (As := [.int v1]) (st := []) X fw3 iz_0 (cX3_find_ok l h) mlX3_80 mvX3_find (rz rfl) (Nat.le_of_ble_eq_true rfl) rfl dX3_coarse_2 (fun M_1 h => ?_) (fun n_2 M_1 in_2 h => ?_)
  · have h := h.1 rfl
    refine a_astore_nN (lo' := [(3, .null), (0, .ref (al 0)), (1, .int v1), (2, .int v2)]) X dX3_coarse_5 rfl (by decide) rfl ?_
    refine a_aload_nN X dX3_coarse_6 rfl 0 rfl ?_
    refine a_ifnonnullN X dX3_coarse_7 ?_
    refine a_aload_n X dX3_coarse_10 rfl 1 rfl ?_
    refine a_iconst (v := 1) X dX3_coarse_11 ic_1 ?_
    refine a_cVi (As := [.int 1]) (st := []) X fw3 iz_0 (cX3_refuse_ok l h) mlX3_58 mvX3_refuse (rz rfl) (Nat.le_of_ble_eq_true rfl) rfl dX3_coarse_12 (fun r_4 M_3 h => ?_)
    exact a_iret X h dX3_coarse_15
  · have h := h.2 n_2 rfl
    refine a_astore_n (lo' := [(3, .ref (al n_2)), (0, .ref (al 0)), (1, .int v1), (2, .int v2)]) X dX3_coarse_5 rfl (by decide) rfl ?_
    refine a_aload_n X dX3_coarse_6 rfl 0 rfl ?_
    refine a_ifnonnull (tgt := 16) X dX3_coarse_7 (by decide) ?_
    refine a_iload_n X dX3_coarse_16 rfl 3 rfl ?_
    refine a_iconst (v := 2) X dX3_coarse_17 ic_2 ?_
    refine a_icmp_lt (tgt := 29) X dX3_coarse_18 (by decide) (fun z => ?_) (fun z => ?_)
    · have h := h.1 z
      refine a_aload_n X dX3_coarse_29 rfl 1 rfl ?_
      refine a_iconst (v := 2) X dX3_coarse_30 ic_2 ?_
      refine a_cVi (As := [.int 2]) (st := []) X fw3 iz_0 (cX3_refuse_ok l h) mlX3_58 mvX3_refuse (rz rfl) (Nat.le_of_ble_eq_true rfl) rfl dX3_coarse_31 (fun r_6 M_5 h => ?_)
      exact a_iret X h dX3_coarse_34
    · have h := h.2 z
      refine a_iload_n X dX3_coarse_21 rfl 3 rfl ?_
      refine a_aload_n X dX3_coarse_22 rfl 1 rfl ?_
      refine a_getI (k := 3) X fw3 iz_0 rfl flX3_26 rfl dX3_coarse_23 ?_
      refine a_icmp_le (tgt := 35) X dX3_coarse_26 (by decide) (fun z => ?_) (fun z => ?_)
      · have h := h.1 z
        refine a_aload_n X dX3_coarse_35 rfl 1 rfl ?_
        refine a_getR (k := 8) X 10 (b := 10) fw3 iz_0 rfl rfl flX3_44 rfl dX3_coarse_36 ?_
        refine a_aload_n X dX3_coarse_39 rfl 0 rfl ?_
        refine a_getR (k := 0) X 5 (b := (n_2 + 5)) fw1 in_2 rfl rfl flX3_87 rfl dX3_coarse_40 ?_
        refine a_cVv (As := [.ref (al (n_2 + 5))]) (st := []) X fw0 iz_10 (cX0_copyOf_ok l iz_10 in_2.str.2 h) mlX3_256 mvX0_copyOf (rz rfl) (Nat.le_of_ble_eq_true rfl) rfl dX3_coarse_43 (fun M_7 h => ?_)
        refine a_aload_n X dX3_coarse_46 rfl 1 rfl ?_
        refine a_getR (k := 8) X 10 (b := 10) fw3 iz_0 rfl rfl flX3_44 rfl dX3_coarse_47 ?_
        refine a_aload_n X dX3_coarse_50 rfl 0 rfl ?_
        refine a_getI (k := 2) X fw1 in_2 rfl flX3_84 rfl dX3_coarse_51 ?_
        refine a_iload_n X dX3_coarse_54 rfl 3 rfl ?_
        refine a_cSi (As := [.int (gI M_7 n_2 2), .int v2]) (st := [.ref (al 10)]) X (cX3_boundOf_ok l h) mlX3_93 msX3_boundOf (rz rfl) (Nat.le_of_ble_eq_true rfl) rfl dX3_coarse_55 (fun r_9 M_8 h => ?_)
        refine a_cVi (As := [.int r_9]) (st := []) X fw0 iz_10 (cX0_shorten_ok l iz_10 h) mlX3_239 mvX0_shorten (rz rfl) (Nat.le_of_ble_eq_true rfl) rfl dX3_coarse_58 (fun r_11 M_10 h => ?_)
        refine a_pop X dX3_coarse_61 rfl ?_
        refine a_aload_n X dX3_coarse_62 rfl 1 rfl ?_
        refine a_aload_n X dX3_coarse_63 rfl 1 rfl ?_
        refine a_getR (k := 8) X 10 (b := 10) fw3 iz_0 rfl rfl flX3_44 rfl dX3_coarse_64 ?_
        refine a_getI (k := 4) X fw0 iz_10 rfl flX3_90 rfl dX3_coarse_67 ?_
        refine a_cVi (As := [.int (gI M_10 10 4)]) (st := []) X fw3 iz_0 (cX3_pass_ok l h) mlX3_74 mvX3_pass (rz rfl) (Nat.le_of_ble_eq_true rfl) rfl dX3_coarse_70 (fun r_13 M_12 h => ?_)
        exact a_iret X h dX3_coarse_73
      · have h := h.2 z
        refine a_aload_n X dX3_coarse_29 rfl 1 rfl ?_
        refine a_iconst (v := 2) X dX3_coarse_30 ic_2 ?_
        refine a_cVi (As := [.int 2]) (st := []) X fw3 iz_0 (cX3_refuse_ok l h) mlX3_58 mvX3_refuse (rz rfl) (Nat.le_of_ble_eq_true rfl) rfl dX3_coarse_31 (fun r_15 M_14 h => ?_)
        exact a_iret X h dX3_coarse_34
abbrev rm_X3_spread : Room := { frames := 3, cells := 0, slots := 0, locals := 63 }
def wpX3_spread (mk : Nat) (M : Mem) (v1 : Int32) (v2 : Int32) (Q : Int32 → Mem → Prop) : Prop := wpX3_find mk M v1 (fun o M_1 => (o = none → wpX3_refuse M_1 1 (fun r_4 M_3 => Q r_4 M_3)) ∧ (∀ n_2 : Nat, o = some n_2 → wpX3_isValue M_1 v2 (fun r_6 M_5 => ((¬ r_6 = 0 → wpX0_tuplesUpTo M_5 (n_2 + 5) v2 (fun r_8 M_7 => wpX0_spreadAhead M_7 (n_2 + 5) r_8 (fun r_10 M_9 => wpX3_pass M_9 r_10 (fun r_12 M_11 => Q r_12 M_11)))) ∧ (r_6 = 0 → wpX3_refuse M_5 2 (fun r_14 M_13 => Q r_14 M_13))))))
set_option maxHeartbeats 4000000 in
set_option maxRecDepth 100000 in
theorem cX3_spread_ok (l : Launch) {G : Gl} {al : Nat → Nat} {mk : Nat} {M : Mem} {v1 : Int32} {v2 : Int32} {Q : Int32 → Mem → Prop} (h : wpX3_spread mk M v1 v2 Q) : Kv l yX3_spread cX3_spread 4 (some .int) rm_X3_spread G al mk M [.ref (al 0), .int v1, .int v2] (QI G al mk Q) := by
  refine a_head (by decide) (Nat.le_of_ble_eq_true rfl) (fun p e s m below meth c X => ?_)
  have X : Cx p s m meth c G RX3 cX3_spread 4 (some .int) := X
  unfold wpX3_spread at h
  refine a_sub (ks := [0, 1, 2]) (lo' := [(0, .ref (al 0)), (1, .int v1), (2, .int v2)]) rfl ?_
  refine a_aload_n X dX3_spread_0 rfl 0 rfl ?_
  refine a_iload_n X dX3_spread_1 rfl 1 rfl ?_
  refine a_cVq (As := [.int v1]) (st := []) X fw3 iz_0 (cX3_find_ok l h) mlX3_80 mvX3_find (rz rfl) (Nat.le_of_ble_eq_true rfl) rfl dX3_spread_2 (fun M_1 h => ?_) (fun n_2 M_1 in_2 h => ?_)
  · have h := h.1 rfl
    refine a_astore_nN (lo' := [(3, .null), (0, .ref (al 0)), (1, .int v1), (2, .int v2)]) X dX3_spread_5 rfl (by decide) rfl ?_
    refine a_aload_nN X dX3_spread_6 rfl 0 rfl ?_
    refine a_ifnonnullN X dX3_spread_7 ?_
    refine a_aload_n X dX3_spread_10 rfl 1 rfl ?_
    refine a_iconst (v := 1) X dX3_spread_11 ic_1 ?_
    refine a_cVi (As := [.int 1]) (st := []) X fw3 iz_0 (cX3_refuse_ok l h) mlX3_58 mvX3_refuse (rz rfl) (Nat.le_of_ble_eq_true rfl) rfl dX3_spread_12 (fun r_4 M_3 h => ?_)
    exact a_iret X h dX3_spread_15
  · have h := h.2 n_2 rfl
    refine a_astore_n (lo' := [(3, .ref (al n_2)), (0, .ref (al 0)), (1, .int v1), (2, .int v2)]) X dX3_spread_5 rfl (by decide) rfl ?_
    refine a_aload_n X dX3_spread_6 rfl 0 rfl ?_
    refine a_ifnonnull (tgt := 16) X dX3_spread_7 (by decide) ?_
    refine a_iload_n X dX3_spread_16 rfl 3 rfl ?_
    refine a_cSi (As := [.int v2]) (st := []) X (cX3_isValue_ok l h) mlX3_162 msX3_isValue (rz rfl) (Nat.le_of_ble_eq_true rfl) rfl dX3_spread_17 (fun r_6 M_5 h => ?_)
    refine a_if_ne (tgt := 29) X dX3_spread_20 (by decide) (fun z => ?_) (fun z => ?_)
    · have h := h.1 z
      refine a_aload_n X dX3_spread_29 rfl 1 rfl ?_
      refine a_aload_n X dX3_spread_30 rfl 0 rfl ?_
      refine a_getR (k := 0) X 5 (b := (n_2 + 5)) fw1 in_2 rfl rfl flX3_87 rfl dX3_spread_31 ?_
      refine a_aload_n X dX3_spread_34 rfl 0 rfl ?_
      refine a_getR (k := 0) X 5 (b := (n_2 + 5)) fw1 in_2 rfl rfl flX3_87 rfl dX3_spread_35 ?_
      refine a_iload_n X dX3_spread_38 rfl 3 rfl ?_
      refine a_cVi (As := [.int v2]) (st := [.ref (al (n_2 + 5)), .ref (al 0)]) X fw0 in_2.str.2 (cX0_tuplesUpTo_ok l in_2.str.2 h) mlX3_263 mvX0_tuplesUpTo (rz rfl) (Nat.le_of_ble_eq_true rfl) rfl dX3_spread_39 (fun r_8 M_7 h => ?_)
      refine a_cVi (As := [.int r_8]) (st := [.ref (al 0)]) X fw0 in_2.str.2 (cX0_spreadAhead_ok l in_2.str.2 h) mlX3_266 mvX0_spreadAhead (rz rfl) (Nat.le_of_ble_eq_true rfl) rfl dX3_spread_42 (fun r_10 M_9 h => ?_)
      refine a_cVi (As := [.int r_10]) (st := []) X fw3 iz_0 (cX3_pass_ok l h) mlX3_74 mvX3_pass (rz rfl) (Nat.le_of_ble_eq_true rfl) rfl dX3_spread_45 (fun r_12 M_11 h => ?_)
      exact a_iret X h dX3_spread_48
    · have h := h.2 z
      refine a_aload_n X dX3_spread_23 rfl 1 rfl ?_
      refine a_iconst (v := 2) X dX3_spread_24 ic_2 ?_
      refine a_cVi (As := [.int 2]) (st := []) X fw3 iz_0 (cX3_refuse_ok l h) mlX3_58 mvX3_refuse (rz rfl) (Nat.le_of_ble_eq_true rfl) rfl dX3_spread_25 (fun r_14 M_13 h => ?_)
      exact a_iret X h dX3_spread_28
abbrev rm_X3_finest : Room := { frames := 3, cells := 0, slots := 0, locals := 64 }
def wX3_finest_28 (mk : Nat) (Q : Int32 → Mem → Prop) (v2 : Nat) (v3 : Int32) : Nat → Mem → Int32 → Prop
  | 0, _, _ => False
  | n + 1, M, v4 => ((v4 ≤ 2 → wpX3_pass M 2 (fun r_8 M_7 => Q r_8 M_7)) ∧ (¬ v4 ≤ 2 → wpX3_boundOf M (gI M v2 2) v4 (fun r_10 M_9 => ((r_10 < v3 → wX3_finest_28 mk Q v2 v3 n M_9 (v4 + (-1))) ∧ (¬ r_10 < v3 → wpX3_pass M_9 v4 (fun r_12 M_11 => Q r_12 M_11))))))
def wpX3_finest (mk : Nat) (M : Mem) (v1 : Int32) (Q : Int32 → Mem → Prop) : Prop := wpX3_find mk M v1 (fun o M_1 => (o = none → wpX3_refuse M_1 1 (fun r_4 M_3 => Q r_4 M_3)) ∧ (∀ n_2 : Nat, o = some n_2 → wpX0_widest M_1 (n_2 + 5) (fun r_6 M_5 => ∃ n, wX3_finest_28 mk Q n_2 r_6 n M_5 40)))
set_option maxHeartbeats 4000000 in
set_option maxRecDepth 100000 in
theorem tX3_finest_28 (X : Cx p s m meth c G RX3 cX3_finest 5 (some .int)) {Q : Int32 → Mem → Prop} {v2 : Nat} {v3 : Int32} (i2 : Iz mk v2 (1, 0)) : ∀ (n : Nat) (M : Mem) (v4 : Int32), wX3_finest_28 mk Q v2 v3 n M v4 → Wa p l e rm_X3_finest s m args below meth c 5 G al mk 0 0 (MQ below (QI G al mk Q) args s 0 0 (gA G)) M 28 [(0, .ref (al 0)), (2, .ref (al v2)), (3, .int v3), (4, .int v4)] [] := by
  intro n
  induction n with
  | zero =>
    intro M v4 h
    exact False.elim h
  | succ n ih =>
    intro M v4 h
    rw [wX3_finest_28] at h
    refine a_iload X dX3_finest_28 3 rfl ?_
    refine a_iconst (v := 2) X dX3_finest_30 ic_2 ?_
    refine a_icmp_le (tgt := 60) X dX3_finest_31 (by decide) (fun z => ?_) (fun z => ?_)
    · have h := h.1 z
      refine a_aload_n X dX3_finest_60 rfl 0 rfl ?_
      refine a_iconst (v := 2) X dX3_finest_61 ic_2 ?_
      refine a_cVi (As := [.int 2]) (st := []) X fw3 iz_0 (cX3_pass_ok l h) mlX3_74 mvX3_pass (rz rfl) (Nat.le_of_ble_eq_true rfl) rfl dX3_finest_62 (fun r_8 M_7 h => ?_)
      exact a_iret X h dX3_finest_65
    · have h := h.2 z
      refine a_iload_n X dX3_finest_34 rfl 2 rfl ?_
      refine a_aload_n X dX3_finest_35 rfl 1 rfl ?_
      refine a_getI (k := 2) X fw1 i2 rfl flX3_84 rfl dX3_finest_36 ?_
      refine a_iload X dX3_finest_39 3 rfl ?_
      refine a_cSi (As := [.int (gI M v2 2), .int v4]) (st := [.int v3]) X (cX3_boundOf_ok l h) mlX3_93 msX3_boundOf (rz rfl) (Nat.le_of_ble_eq_true rfl) rfl dX3_finest_41 (fun r_10 M_9 h => ?_)
      refine a_icmp_gt (tgt := 54) X dX3_finest_44 (by decide) (fun z => ?_) (fun z => ?_)
      · have h := h.1 z
        refine a_iinc (v := v4 + (-1)) (lo' := [(4, .int (v4 + (-1))), (0, .ref (al 0)), (2, .ref (al v2)), (3, .int v3)]) X dX3_finest_54 3 rfl (ii_m1 _) (by decide) rfl ?_
        refine a_goto (tgt := 28) X dX3_finest_57 (by decide) ?_
        refine a_sub (ks := [1, 2, 3, 0]) (lo' := [(0, .ref (al 0)), (2, .ref (al v2)), (3, .int v3), (4, .int (v4 + (-1)))]) rfl ?_
        exact ih _ _ h
      · have h := h.2 z
        refine a_aload_n X dX3_finest_47 rfl 0 rfl ?_
        refine a_iload X dX3_finest_48 3 rfl ?_
        refine a_cVi (As := [.int v4]) (st := []) X fw3 iz_0 (cX3_pass_ok l h) mlX3_74 mvX3_pass (rz rfl) (Nat.le_of_ble_eq_true rfl) rfl dX3_finest_50 (fun r_12 M_11 h => ?_)
        exact a_iret X h dX3_finest_53
set_option maxHeartbeats 4000000 in
set_option maxRecDepth 100000 in
theorem cX3_finest_ok (l : Launch) {G : Gl} {al : Nat → Nat} {mk : Nat} {M : Mem} {v1 : Int32} {Q : Int32 → Mem → Prop} (h : wpX3_finest mk M v1 Q) : Kv l yX3_finest cX3_finest 5 (some .int) rm_X3_finest G al mk M [.ref (al 0), .int v1] (QI G al mk Q) := by
  refine a_head (by decide) (Nat.le_of_ble_eq_true rfl) (fun p e s m below meth c X => ?_)
  have X : Cx p s m meth c G RX3 cX3_finest 5 (some .int) := X
  unfold wpX3_finest at h
  refine a_sub (ks := [0, 1]) (lo' := [(0, .ref (al 0)), (1, .int v1)]) rfl ?_
  refine a_aload_n X dX3_finest_0 rfl 0 rfl ?_
  refine a_iload_n X dX3_finest_1 rfl 1 rfl ?_
  refine a_cVq (As := [.int v1]) (st := []) X fw3 iz_0 (cX3_find_ok l h) mlX3_80 mvX3_find (rz rfl) (Nat.le_of_ble_eq_true rfl) rfl dX3_finest_2 (fun M_1 h => ?_) (fun n_2 M_1 in_2 h => ?_)
  · have h := h.1 rfl
    refine a_astore_nN (lo' := [(2, .null), (0, .ref (al 0)), (1, .int v1)]) X dX3_finest_5 rfl (by decide) rfl ?_
    refine a_aload_nN X dX3_finest_6 rfl 0 rfl ?_
    refine a_ifnonnullN X dX3_finest_7 ?_
    refine a_aload_n X dX3_finest_10 rfl 1 rfl ?_
    refine a_iconst (v := 1) X dX3_finest_11 ic_1 ?_
    refine a_cVi (As := [.int 1]) (st := []) X fw3 iz_0 (cX3_refuse_ok l h) mlX3_58 mvX3_refuse (rz rfl) (Nat.le_of_ble_eq_true rfl) rfl dX3_finest_12 (fun r_4 M_3 h => ?_)
    exact a_iret X h dX3_finest_15
  · have h := h.2 n_2 rfl
    refine a_astore_n (lo' := [(2, .ref (al n_2)), (0, .ref (al 0)), (1, .int v1)]) X dX3_finest_5 rfl (by decide) rfl ?_
    refine a_aload_n X dX3_finest_6 rfl 0 rfl ?_
    refine a_ifnonnull (tgt := 16) X dX3_finest_7 (by decide) ?_
    refine a_aload_n X dX3_finest_16 rfl 0 rfl ?_
    refine a_getR (k := 0) X 5 (b := (n_2 + 5)) fw1 in_2 rfl rfl flX3_87 rfl dX3_finest_17 ?_
    refine a_cVi (As := []) (st := []) X fw0 in_2.str.2 (cX0_widest_ok l in_2.str.2 h) mlX3_110 mvX0_widest (rz rfl) (Nat.le_of_ble_eq_true rfl) rfl dX3_finest_20 (fun r_6 M_5 h => ?_)
    refine a_istore_n (lo' := [(3, .int r_6), (2, .ref (al n_2)), (0, .ref (al 0)), (1, .int v1)]) X dX3_finest_23 rfl (by decide) rfl ?_
    refine a_bipush (v := 40) X dX3_finest_24 bc_40 ?_
    refine a_istore (lo' := [(4, .int 40), (3, .int r_6), (2, .ref (al n_2)), (0, .ref (al 0)), (1, .int v1)]) X dX3_finest_26 (by decide) rfl ?_
    refine a_sub (ks := [3, 2, 1, 0]) (lo' := [(0, .ref (al 0)), (2, .ref (al n_2)), (3, .int r_6), (4, .int 40)]) rfl ?_
    obtain ⟨n9, h⟩ := h
    exact tX3_finest_28 X in_2 n9 _ _ h
abbrev rm_X3_push : Room := { frames := 5, cells := 0, slots := 0, locals := 136 }
def wpX3_push (mk : Nat) (M : Mem) (v1 : Int32) (v2 : Int32) (Q : Int32 → Mem → Prop) : Prop := wpX3_find mk M v1 (fun o M_1 => (o = none → wpX3_refuse M_1 1 (fun r_4 M_3 => Q r_4 M_3)) ∧ (∀ n_2 : Nat, o = some n_2 → wpX3_isValue M_1 v2 (fun r_6 M_5 => ((¬ r_6 = 0 → (((gI M_5 n_2 2) < 1000 → wpX1_pushValue M_5 n_2 v2 (gI M_5 0 3) (fun M_7 => wpX3_pass M_7 (gI M_7 (n_2 + 5) 4) (fun r_9 M_8 => Q r_9 M_8))) ∧ (¬ (gI M_5 n_2 2) < 1000 → wpX3_refuse M_5 3 (fun r_11 M_10 => Q r_11 M_10)))) ∧ (r_6 = 0 → wpX3_refuse M_5 2 (fun r_13 M_12 => Q r_13 M_12))))))
set_option maxHeartbeats 4000000 in
set_option maxRecDepth 100000 in
theorem cX3_push_ok (l : Launch) {G : Gl} {al : Nat → Nat} {mk : Nat} {M : Mem} {v1 : Int32} {v2 : Int32} {Q : Int32 → Mem → Prop} (h : wpX3_push mk M v1 v2 Q) : Kv l yX3_push cX3_push 4 (some .int) rm_X3_push G al mk M [.ref (al 0), .int v1, .int v2] (QI G al mk Q) := by
  refine a_head (by decide) (Nat.le_of_ble_eq_true rfl) (fun p e s m below meth c X => ?_)
  have X : Cx p s m meth c G RX3 cX3_push 4 (some .int) := X
  unfold wpX3_push at h
  refine a_sub (ks := [0, 1, 2]) (lo' := [(0, .ref (al 0)), (1, .int v1), (2, .int v2)]) rfl ?_
  refine a_aload_n X dX3_push_0 rfl 0 rfl ?_
  refine a_iload_n X dX3_push_1 rfl 1 rfl ?_
  refine a_cVq (As := [.int v1]) (st := []) X fw3 iz_0 (cX3_find_ok l h) mlX3_80 mvX3_find (rz rfl) (Nat.le_of_ble_eq_true rfl) rfl dX3_push_2 (fun M_1 h => ?_) (fun n_2 M_1 in_2 h => ?_)
  · have h := h.1 rfl
    refine a_astore_nN (lo' := [(3, .null), (0, .ref (al 0)), (1, .int v1), (2, .int v2)]) X dX3_push_5 rfl (by decide) rfl ?_
    refine a_aload_nN X dX3_push_6 rfl 0 rfl ?_
    refine a_ifnonnullN X dX3_push_7 ?_
    refine a_aload_n X dX3_push_10 rfl 1 rfl ?_
    refine a_iconst (v := 1) X dX3_push_11 ic_1 ?_
    refine a_cVi (As := [.int 1]) (st := []) X fw3 iz_0 (cX3_refuse_ok l h) mlX3_58 mvX3_refuse (rz rfl) (Nat.le_of_ble_eq_true rfl) rfl dX3_push_12 (fun r_4 M_3 h => ?_)
    exact a_iret X h dX3_push_15
  · have h := h.2 n_2 rfl
    refine a_astore_n (lo' := [(3, .ref (al n_2)), (0, .ref (al 0)), (1, .int v1), (2, .int v2)]) X dX3_push_5 rfl (by decide) rfl ?_
    refine a_aload_n X dX3_push_6 rfl 0 rfl ?_
    refine a_ifnonnull (tgt := 16) X dX3_push_7 (by decide) ?_
    refine a_iload_n X dX3_push_16 rfl 3 rfl ?_
    refine a_cSi (As := [.int v2]) (st := []) X (cX3_isValue_ok l h) mlX3_162 msX3_isValue (rz rfl) (Nat.le_of_ble_eq_true rfl) rfl dX3_push_17 (fun r_6 M_5 h => ?_)
    refine a_if_ne (tgt := 29) X dX3_push_20 (by decide) (fun z => ?_) (fun z => ?_)
    · have h := h.1 z
      refine a_aload_n X dX3_push_29 rfl 0 rfl ?_
      refine a_getI (k := 2) X fw1 in_2 rfl flX3_84 rfl dX3_push_30 ?_
      refine a_sipush (v := 1000) X dX3_push_33 sc_1000 ?_
      refine a_icmp_lt (tgt := 45) X dX3_push_36 (by decide) (fun z => ?_) (fun z => ?_)
      · have h := h.1 z
        refine a_aload_n X dX3_push_45 rfl 0 rfl ?_
        refine a_iload_n X dX3_push_46 rfl 3 rfl ?_
        refine a_aload_n X dX3_push_47 rfl 1 rfl ?_
        refine a_getI (k := 3) X fw3 iz_0 rfl flX3_26 rfl dX3_push_48 ?_
        refine a_cVv (As := [.int v2, .int (gI M_5 0 3)]) (st := []) X fw1 in_2 (cX1_pushValue_ok l in_2 h) mlX3_269 mvX1_pushValue (rz rfl) (Nat.le_of_ble_eq_true rfl) rfl dX3_push_51 (fun M_7 h => ?_)
        refine a_aload_n X dX3_push_54 rfl 1 rfl ?_
        refine a_aload_n X dX3_push_55 rfl 0 rfl ?_
        refine a_getR (k := 0) X 5 (b := (n_2 + 5)) fw1 in_2 rfl rfl flX3_87 rfl dX3_push_56 ?_
        refine a_getI (k := 4) X fw0 in_2.str.2 rfl flX3_90 rfl dX3_push_59 ?_
        refine a_cVi (As := [.int (gI M_7 (n_2 + 5) 4)]) (st := []) X fw3 iz_0 (cX3_pass_ok l h) mlX3_74 mvX3_pass (rz rfl) (Nat.le_of_ble_eq_true rfl) rfl dX3_push_62 (fun r_9 M_8 h => ?_)
        exact a_iret X h dX3_push_65
      · have h := h.2 z
        refine a_aload_n X dX3_push_39 rfl 1 rfl ?_
        refine a_iconst (v := 3) X dX3_push_40 ic_3 ?_
        refine a_cVi (As := [.int 3]) (st := []) X fw3 iz_0 (cX3_refuse_ok l h) mlX3_58 mvX3_refuse (rz rfl) (Nat.le_of_ble_eq_true rfl) rfl dX3_push_41 (fun r_11 M_10 h => ?_)
        exact a_iret X h dX3_push_44
    · have h := h.2 z
      refine a_aload_n X dX3_push_23 rfl 1 rfl ?_
      refine a_iconst (v := 2) X dX3_push_24 ic_2 ?_
      refine a_cVi (As := [.int 2]) (st := []) X fw3 iz_0 (cX3_refuse_ok l h) mlX3_58 mvX3_refuse (rz rfl) (Nat.le_of_ble_eq_true rfl) rfl dX3_push_25 (fun r_13 M_12 h => ?_)
      exact a_iret X h dX3_push_28
abbrev rm_X3_draw : Room := { frames := 5, cells := 0, slots := 0, locals := 136 }
def wX3_draw_70 (mk : Nat) (Q : Int32 → Mem → Prop) (v2 : Int32) (v3 : Int32) (v4 : Nat) : Nat → Mem → Int32 → Prop
  | 0, _, _ => False
  | n + 1, M, v5 => ((v2 ≤ v5 → wpX3_pass M (gI M (v4 + 5) 4) (fun r_12 M_11 => Q r_12 M_11)) ∧ (¬ v2 ≤ v5 → (∀ M_13 : Mem, M_13 = pI M 0 4 (((75 * (gI M 0 4)) + 74) - ((75 * (gI M 0 4)) + 74) / 65537 * 65537) → (¬ v3 = 0 ∧ wpX1_pushValue M_13 v4 ((gI M_13 0 4) - (gI M_13 0 4) / v3 * v3) (gI M_13 0 3) (fun M_14 => wX3_draw_70 mk Q v2 v3 v4 n M_14 (v5 + 1))))))
def wpX3_draw (mk : Nat) (M : Mem) (v1 : Int32) (v2 : Int32) (v3 : Int32) (Q : Int32 → Mem → Prop) : Prop := wpX3_find mk M v1 (fun o M_1 => (o = none → wpX3_refuse M_1 1 (fun r_4 M_3 => Q r_4 M_3)) ∧ (∀ n_2 : Nat, o = some n_2 → ((v2 < 1 → wpX3_refuse M_1 2 (fun r_6 M_5 => Q r_6 M_5)) ∧ (¬ v2 < 1 → ((200 < v2 → wpX3_refuse M_1 2 (fun r_8 M_7 => Q r_8 M_7)) ∧ (¬ 200 < v2 → ((v3 < 1 → wpX3_refuse M_1 2 (fun r_10 M_9 => Q r_10 M_9)) ∧ (¬ v3 < 1 → ((v3 ≤ 1000 → ((((gI M_1 n_2 2) + v2) ≤ 1000 → ∃ n, wX3_draw_70 mk Q v2 v3 n_2 n M_1 0) ∧ (¬ ((gI M_1 n_2 2) + v2) ≤ 1000 → wpX3_refuse M_1 3 (fun r_16 M_15 => Q r_16 M_15)))) ∧ (¬ v3 ≤ 1000 → wpX3_refuse M_1 2 (fun r_18 M_17 => Q r_18 M_17)))))))))))
set_option maxHeartbeats 4000000 in
set_option maxRecDepth 100000 in
theorem tX3_draw_70 (X : Cx p s m meth c G RX3 cX3_draw 6 (some .int)) {Q : Int32 → Mem → Prop} {v2 : Int32} {v3 : Int32} {v4 : Nat} (i4 : Iz mk v4 (1, 0)) : ∀ (n : Nat) (M : Mem) (v5 : Int32), wX3_draw_70 mk Q v2 v3 v4 n M v5 → Wa p l e rm_X3_draw s m args below meth c 6 G al mk 0 0 (MQ below (QI G al mk Q) args s 0 0 (gA G)) M 70 [(0, .ref (al 0)), (2, .int v2), (3, .int v3), (4, .ref (al v4)), (5, .int v5)] [] := by
  intro n
  induction n with
  | zero =>
    intro M v5 h
    exact False.elim h
  | succ n ih =>
    intro M v5 h
    rw [wX3_draw_70] at h
    refine a_iload X dX3_draw_70 4 rfl ?_
    refine a_iload_n X dX3_draw_72 rfl 1 rfl ?_
    refine a_icmp_ge (tgt := 115) X dX3_draw_73 (by decide) (fun z => ?_) (fun z => ?_)
    · have h := h.1 z
      refine a_aload_n X dX3_draw_115 rfl 0 rfl ?_
      refine a_aload X dX3_draw_116 3 rfl ?_
      refine a_getR (k := 0) X 5 (b := (v4 + 5)) fw1 i4 rfl rfl flX3_87 rfl dX3_draw_118 ?_
      refine a_getI (k := 4) X fw0 i4.str.2 rfl flX3_90 rfl dX3_draw_121 ?_
      refine a_cVi (As := [.int (gI M (v4 + 5) 4)]) (st := []) X fw3 iz_0 (cX3_pass_ok l h) mlX3_74 mvX3_pass (rz rfl) (Nat.le_of_ble_eq_true rfl) rfl dX3_draw_124 (fun r_12 M_11 h => ?_)
      exact a_iret X h dX3_draw_127
    · have h := h.2 z
      refine a_aload_n X dX3_draw_76 rfl 0 rfl ?_
      refine a_bipush (v := 75) X dX3_draw_77 bc_75 ?_
      refine a_aload_n X dX3_draw_79 rfl 0 rfl ?_
      refine a_getI (k := 4) X fw3 iz_0 rfl flX3_29 rfl dX3_draw_80 ?_
      refine a_imul X dX3_draw_83 ?_
      refine a_bipush (v := 74) X dX3_draw_84 bc_74 ?_
      refine a_iadd X dX3_draw_86 ?_
      refine a_ldcw X cnX3_273 dX3_draw_87 ?_
      refine a_irem X dX3_draw_90 (by decide) ?_
      refine a_putI (k := 4) X fw3 iz_0 rfl flX3_29 rfl rfl dX3_draw_91 (fun M_13 eM_13 => ?_)
      have h := h M_13 eM_13
      refine a_aload X dX3_draw_94 3 rfl ?_
      refine a_aload_n X dX3_draw_96 rfl 0 rfl ?_
      refine a_getI (k := 4) X fw3 iz_0 rfl flX3_29 rfl dX3_draw_97 ?_
      refine a_iload_n X dX3_draw_100 rfl 2 rfl ?_
      refine a_irem X dX3_draw_101 h.1 ?_
      have h := h.2
      refine a_aload_n X dX3_draw_102 rfl 0 rfl ?_
      refine a_getI (k := 3) X fw3 iz_0 rfl flX3_26 rfl dX3_draw_103 ?_
      refine a_cVv (As := [.int ((gI M_13 0 4) - (gI M_13 0 4) / v3 * v3), .int (gI M_13 0 3)]) (st := []) X fw1 i4 (cX1_pushValue_ok l i4 h) mlX3_269 mvX1_pushValue (rz rfl) (Nat.le_of_ble_eq_true rfl) rfl dX3_draw_106 (fun M_14 h => ?_)
      refine a_iinc (v := v5 + 1) (lo' := [(5, .int (v5 + 1)), (0, .ref (al 0)), (2, .int v2), (3, .int v3), (4, .ref (al v4))]) X dX3_draw_109 4 rfl (ii_1 _) (by decide) rfl ?_
      refine a_goto (tgt := 70) X dX3_draw_112 (by decide) ?_
      refine a_sub (ks := [1, 2, 3, 4, 0]) (lo' := [(0, .ref (al 0)), (2, .int v2), (3, .int v3), (4, .ref (al v4)), (5, .int (v5 + 1))]) rfl ?_
      exact ih _ _ h
set_option maxHeartbeats 4000000 in
set_option maxRecDepth 100000 in
theorem cX3_draw_ok (l : Launch) {G : Gl} {al : Nat → Nat} {mk : Nat} {M : Mem} {v1 : Int32} {v2 : Int32} {v3 : Int32} {Q : Int32 → Mem → Prop} (h : wpX3_draw mk M v1 v2 v3 Q) : Kv l yX3_draw cX3_draw 6 (some .int) rm_X3_draw G al mk M [.ref (al 0), .int v1, .int v2, .int v3] (QI G al mk Q) := by
  refine a_head (by decide) (Nat.le_of_ble_eq_true rfl) (fun p e s m below meth c X => ?_)
  have X : Cx p s m meth c G RX3 cX3_draw 6 (some .int) := X
  unfold wpX3_draw at h
  refine a_sub (ks := [0, 1, 2, 3]) (lo' := [(0, .ref (al 0)), (1, .int v1), (2, .int v2), (3, .int v3)]) rfl ?_
  refine a_aload_n X dX3_draw_0 rfl 0 rfl ?_
  refine a_iload_n X dX3_draw_1 rfl 1 rfl ?_
  refine a_cVq (As := [.int v1]) (st := []) X fw3 iz_0 (cX3_find_ok l h) mlX3_80 mvX3_find (rz rfl) (Nat.le_of_ble_eq_true rfl) rfl dX3_draw_2 (fun M_1 h => ?_) (fun n_2 M_1 in_2 h => ?_)
  · have h := h.1 rfl
    refine a_astoreN (lo' := [(4, .null), (0, .ref (al 0)), (1, .int v1), (2, .int v2), (3, .int v3)]) X dX3_draw_5 (by decide) rfl ?_
    refine a_aloadN X dX3_draw_7 0 rfl ?_
    refine a_ifnonnullN X dX3_draw_9 ?_
    refine a_aload_n X dX3_draw_12 rfl 1 rfl ?_
    refine a_iconst (v := 1) X dX3_draw_13 ic_1 ?_
    refine a_cVi (As := [.int 1]) (st := []) X fw3 iz_0 (cX3_refuse_ok l h) mlX3_58 mvX3_refuse (rz rfl) (Nat.le_of_ble_eq_true rfl) rfl dX3_draw_14 (fun r_4 M_3 h => ?_)
    exact a_iret X h dX3_draw_17
  · have h := h.2 n_2 rfl
    refine a_astore (lo' := [(4, .ref (al n_2)), (0, .ref (al 0)), (1, .int v1), (2, .int v2), (3, .int v3)]) X dX3_draw_5 (by decide) rfl ?_
    refine a_aload X dX3_draw_7 0 rfl ?_
    refine a_ifnonnull (tgt := 18) X dX3_draw_9 (by decide) ?_
    refine a_iload_n X dX3_draw_18 rfl 3 rfl ?_
    refine a_iconst (v := 1) X dX3_draw_19 ic_1 ?_
    refine a_icmp_lt (tgt := 42) X dX3_draw_20 (by decide) (fun z => ?_) (fun z => ?_)
    · have h := h.1 z
      refine a_aload_n X dX3_draw_42 rfl 1 rfl ?_
      refine a_iconst (v := 2) X dX3_draw_43 ic_2 ?_
      refine a_cVi (As := [.int 2]) (st := []) X fw3 iz_0 (cX3_refuse_ok l h) mlX3_58 mvX3_refuse (rz rfl) (Nat.le_of_ble_eq_true rfl) rfl dX3_draw_44 (fun r_6 M_5 h => ?_)
      exact a_iret X h dX3_draw_47
    · have h := h.2 z
      refine a_iload_n X dX3_draw_23 rfl 3 rfl ?_
      refine a_sipush (v := 200) X dX3_draw_24 sc_200 ?_
      refine a_icmp_gt (tgt := 42) X dX3_draw_27 (by decide) (fun z => ?_) (fun z => ?_)
      · have h := h.1 z
        refine a_aload_n X dX3_draw_42 rfl 1 rfl ?_
        refine a_iconst (v := 2) X dX3_draw_43 ic_2 ?_
        refine a_cVi (As := [.int 2]) (st := []) X fw3 iz_0 (cX3_refuse_ok l h) mlX3_58 mvX3_refuse (rz rfl) (Nat.le_of_ble_eq_true rfl) rfl dX3_draw_44 (fun r_8 M_7 h => ?_)
        exact a_iret X h dX3_draw_47
      · have h := h.2 z
        refine a_iload_n X dX3_draw_30 rfl 4 rfl ?_
        refine a_iconst (v := 1) X dX3_draw_31 ic_1 ?_
        refine a_icmp_lt (tgt := 42) X dX3_draw_32 (by decide) (fun z => ?_) (fun z => ?_)
        · have h := h.1 z
          refine a_aload_n X dX3_draw_42 rfl 1 rfl ?_
          refine a_iconst (v := 2) X dX3_draw_43 ic_2 ?_
          refine a_cVi (As := [.int 2]) (st := []) X fw3 iz_0 (cX3_refuse_ok l h) mlX3_58 mvX3_refuse (rz rfl) (Nat.le_of_ble_eq_true rfl) rfl dX3_draw_44 (fun r_10 M_9 h => ?_)
          exact a_iret X h dX3_draw_47
        · have h := h.2 z
          refine a_iload_n X dX3_draw_35 rfl 4 rfl ?_
          refine a_sipush (v := 1000) X dX3_draw_36 sc_1000 ?_
          refine a_icmp_le (tgt := 48) X dX3_draw_39 (by decide) (fun z => ?_) (fun z => ?_)
          · have h := h.1 z
            refine a_aload X dX3_draw_48 0 rfl ?_
            refine a_getI (k := 2) X fw1 in_2 rfl flX3_84 rfl dX3_draw_50 ?_
            refine a_iload_n X dX3_draw_53 rfl 3 rfl ?_
            refine a_iadd X dX3_draw_54 ?_
            refine a_sipush (v := 1000) X dX3_draw_55 sc_1000 ?_
            refine a_icmp_le (tgt := 67) X dX3_draw_58 (by decide) (fun z => ?_) (fun z => ?_)
            · have h := h.1 z
              refine a_iconst (v := 0) X dX3_draw_67 ic_0 ?_
              refine a_istore (lo' := [(5, .int 0), (4, .ref (al n_2)), (0, .ref (al 0)), (1, .int v1), (2, .int v2), (3, .int v3)]) X dX3_draw_68 (by decide) rfl ?_
              refine a_sub (ks := [2, 4, 5, 1, 0]) (lo' := [(0, .ref (al 0)), (2, .int v2), (3, .int v3), (4, .ref (al n_2)), (5, .int 0)]) rfl ?_
              obtain ⟨n9, h⟩ := h
              exact tX3_draw_70 X in_2 n9 _ _ h
            · have h := h.2 z
              refine a_aload_n X dX3_draw_61 rfl 1 rfl ?_
              refine a_iconst (v := 3) X dX3_draw_62 ic_3 ?_
              refine a_cVi (As := [.int 3]) (st := []) X fw3 iz_0 (cX3_refuse_ok l h) mlX3_58 mvX3_refuse (rz rfl) (Nat.le_of_ble_eq_true rfl) rfl dX3_draw_63 (fun r_16 M_15 h => ?_)
              exact a_iret X h dX3_draw_66
          · have h := h.2 z
            refine a_aload_n X dX3_draw_42 rfl 1 rfl ?_
            refine a_iconst (v := 2) X dX3_draw_43 ic_2 ?_
            refine a_cVi (As := [.int 2]) (st := []) X fw3 iz_0 (cX3_refuse_ok l h) mlX3_58 mvX3_refuse (rz rfl) (Nat.le_of_ble_eq_true rfl) rfl dX3_draw_44 (fun r_18 M_17 h => ?_)
            exact a_iret X h dX3_draw_47
abbrev rm_X3_seed : Room := { frames := 0, cells := 0, slots := 0, locals := 0 }
def wpX3_seed (M : Mem) (v1 : Int32) (Q : Int32 → Mem → Prop) : Prop := ((v1 < 0 → (∀ M_1 : Mem, M_1 = pI M 0 5 2 → Q 0 M_1)) ∧ (¬ v1 < 0 → ((v1 < 65537 → (∀ M_2 : Mem, M_2 = pI M 0 5 0 → (∀ M_3 : Mem, M_3 = pI M_2 0 4 v1 → Q 1 M_3))) ∧ (¬ v1 < 65537 → (∀ M_4 : Mem, M_4 = pI M 0 5 2 → Q 0 M_4)))))
set_option maxHeartbeats 4000000 in
set_option maxRecDepth 100000 in
theorem cX3_seed_ok (l : Launch) {G : Gl} {al : Nat → Nat} {mk : Nat} {M : Mem} {v1 : Int32} {Q : Int32 → Mem → Prop} (h : wpX3_seed M v1 Q) : Kv l yX3_seed cX3_seed 2 (some .boolean) rm_X3_seed G al mk M [.ref (al 0), .int v1] (QI G al mk Q) := by
  refine a_head (by decide) (Nat.le_of_ble_eq_true rfl) (fun p e s m below meth c X => ?_)
  have X : Cx p s m meth c G RX3 cX3_seed 2 (some .boolean) := X
  unfold wpX3_seed at h
  refine a_sub (ks := [0, 1]) (lo' := [(0, .ref (al 0)), (1, .int v1)]) rfl ?_
  refine a_iload_n X dX3_seed_0 rfl 1 rfl ?_
  refine a_if_lt (tgt := 11) X dX3_seed_1 (by decide) (fun z => ?_) (fun z => ?_)
  · have h := h.1 z
    refine a_aload_n X dX3_seed_11 rfl 0 rfl ?_
    refine a_iconst (v := 2) X dX3_seed_12 ic_2 ?_
    refine a_putI (k := 5) X fw3 iz_0 rfl flX3_32 rfl rfl dX3_seed_13 (fun M_1 eM_1 => ?_)
    have h := h M_1 eM_1
    refine a_iconst (v := 0) X dX3_seed_16 ic_0 ?_
    exact a_zret X (by decide) h dX3_seed_17
  · have h := h.2 z
    refine a_iload_n X dX3_seed_4 rfl 1 rfl ?_
    refine a_ldcw X cnX3_273 dX3_seed_5 ?_
    refine a_icmp_lt (tgt := 18) X dX3_seed_8 (by decide) (fun z => ?_) (fun z => ?_)
    · have h := h.1 z
      refine a_aload_n X dX3_seed_18 rfl 0 rfl ?_
      refine a_iconst (v := 0) X dX3_seed_19 ic_0 ?_
      refine a_putI (k := 5) X fw3 iz_0 rfl flX3_32 rfl rfl dX3_seed_20 (fun M_2 eM_2 => ?_)
      have h := h M_2 eM_2
      refine a_aload_n X dX3_seed_23 rfl 0 rfl ?_
      refine a_iload_n X dX3_seed_24 rfl 1 rfl ?_
      refine a_putI (k := 4) X fw3 iz_0 rfl flX3_29 rfl rfl dX3_seed_25 (fun M_3 eM_3 => ?_)
      have h := h M_3 eM_3
      refine a_iconst (v := 1) X dX3_seed_28 ic_1 ?_
      exact a_zret X (by decide) h dX3_seed_29
    · have h := h.2 z
      refine a_aload_n X dX3_seed_11 rfl 0 rfl ?_
      refine a_iconst (v := 2) X dX3_seed_12 ic_2 ?_
      refine a_putI (k := 5) X fw3 iz_0 rfl flX3_32 rfl rfl dX3_seed_13 (fun M_4 eM_4 => ?_)
      have h := h M_4 eM_4
      refine a_iconst (v := 0) X dX3_seed_16 ic_0 ?_
      exact a_zret X (by decide) h dX3_seed_17
abbrev rm_X3_compress : Room := { frames := 4, cells := 0, slots := 0, locals := 114 }
def wpX3_compress (mk : Nat) (M : Mem) (v1 : Int32) (Q : Int32 → Mem → Prop) : Prop := wpX3_find mk M v1 (fun o M_1 => (o = none → wpX3_refuse M_1 1 (fun r_4 M_3 => Q r_4 M_3)) ∧ (∀ n_2 : Nat, o = some n_2 → wpX1_shortenRow M_1 n_2 (gI M_1 0 3) (fun r_6 M_5 => wpX3_pass M_5 r_6 (fun r_8 M_7 => Q r_8 M_7))))
set_option maxHeartbeats 4000000 in
set_option maxRecDepth 100000 in
theorem cX3_compress_ok (l : Launch) {G : Gl} {al : Nat → Nat} {mk : Nat} {M : Mem} {v1 : Int32} {Q : Int32 → Mem → Prop} (h : wpX3_compress mk M v1 Q) : Kv l yX3_compress cX3_compress 3 (some .int) rm_X3_compress G al mk M [.ref (al 0), .int v1] (QI G al mk Q) := by
  refine a_head (by decide) (Nat.le_of_ble_eq_true rfl) (fun p e s m below meth c X => ?_)
  have X : Cx p s m meth c G RX3 cX3_compress 3 (some .int) := X
  unfold wpX3_compress at h
  refine a_sub (ks := [0, 1]) (lo' := [(0, .ref (al 0)), (1, .int v1)]) rfl ?_
  refine a_aload_n X dX3_compress_0 rfl 0 rfl ?_
  refine a_iload_n X dX3_compress_1 rfl 1 rfl ?_
  refine a_cVq (As := [.int v1]) (st := []) X fw3 iz_0 (cX3_find_ok l h) mlX3_80 mvX3_find (rz rfl) (Nat.le_of_ble_eq_true rfl) rfl dX3_compress_2 (fun M_1 h => ?_) (fun n_2 M_1 in_2 h => ?_)
  · have h := h.1 rfl
    refine a_astore_nN (lo' := [(2, .null), (0, .ref (al 0)), (1, .int v1)]) X dX3_compress_5 rfl (by decide) rfl ?_
    refine a_aload_nN X dX3_compress_6 rfl 0 rfl ?_
    refine a_ifnonnullN X dX3_compress_7 ?_
    refine a_aload_n X dX3_compress_10 rfl 1 rfl ?_
    refine a_iconst (v := 1) X dX3_compress_11 ic_1 ?_
    refine a_cVi (As := [.int 1]) (st := []) X fw3 iz_0 (cX3_refuse_ok l h) mlX3_58 mvX3_refuse (rz rfl) (Nat.le_of_ble_eq_true rfl) rfl dX3_compress_12 (fun r_4 M_3 h => ?_)
    exact a_iret X h dX3_compress_15
  · have h := h.2 n_2 rfl
    refine a_astore_n (lo' := [(2, .ref (al n_2)), (0, .ref (al 0)), (1, .int v1)]) X dX3_compress_5 rfl (by decide) rfl ?_
    refine a_aload_n X dX3_compress_6 rfl 0 rfl ?_
    refine a_ifnonnull (tgt := 16) X dX3_compress_7 (by decide) ?_
    refine a_aload_n X dX3_compress_16 rfl 1 rfl ?_
    refine a_aload_n X dX3_compress_17 rfl 0 rfl ?_
    refine a_aload_n X dX3_compress_18 rfl 1 rfl ?_
    refine a_getI (k := 3) X fw3 iz_0 rfl flX3_26 rfl dX3_compress_19 ?_
    refine a_cVi (As := [.int (gI M_1 0 3)]) (st := [.ref (al 0)]) X fw1 in_2 (cX1_shortenRow_ok l in_2 h) mlX3_274 mvX1_shortenRow (rz rfl) (Nat.le_of_ble_eq_true rfl) rfl dX3_compress_22 (fun r_6 M_5 h => ?_)
    refine a_cVi (As := [.int r_6]) (st := []) X fw3 iz_0 (cX3_pass_ok l h) mlX3_74 mvX3_pass (rz rfl) (Nat.le_of_ble_eq_true rfl) rfl dX3_compress_25 (fun r_8 M_7 h => ?_)
    exact a_iret X h dX3_compress_28
abbrev rm_X3_merge : Room := { frames := 4, cells := 0, slots := 0, locals := 114 }
def wpX3_merge (mk : Nat) (M : Mem) (v1 : Int32) (v2 : Int32) (Q : Int32 → Mem → Prop) : Prop := wpX3_find mk M v1 (fun o M_1 => (o = none → wpX3_findOther mk M_1 v1 v2 (fun o M_3 => (o = none → wpX3_refuse M_3 1 (fun r_6 M_5 => Q r_6 M_5)) ∧ (∀ n_4 : Nat, o = some n_4 → wpX3_refuse M_3 1 (fun r_8 M_7 => Q r_8 M_7)))) ∧ (∀ n_2 : Nat, o = some n_2 → wpX3_findOther mk M_1 v1 v2 (fun o M_9 => (o = none → wpX3_refuse M_9 1 (fun r_12 M_11 => Q r_12 M_11)) ∧ (∀ n_10 : Nat, o = some n_10 → ((((gI M_9 n_2 2) + (gI M_9 n_10 2)) ≤ 1000 → wpX0_joinOf M_9 10 (n_2 + 5) (n_10 + 5) (fun M_13 => wpX0_copyOf M_13 (n_2 + 5) 10 (fun M_14 => wpX1_addCounts M_14 n_2 n_10 (fun M_15 => wpX1_dropValues M_15 n_10 (fun M_16 => wpX1_shortenRow M_16 n_2 (gI M_16 0 3) (fun r_18 M_17 => wpX3_pass M_17 (gI M_17 (n_2 + 5) 4) (fun r_20 M_19 => Q r_20 M_19))))))) ∧ (¬ ((gI M_9 n_2 2) + (gI M_9 n_10 2)) ≤ 1000 → wpX3_refuse M_9 3 (fun r_22 M_21 => Q r_22 M_21)))))))
set_option maxHeartbeats 4000000 in
set_option maxRecDepth 100000 in
theorem cX3_merge_ok (l : Launch) {G : Gl} {al : Nat → Nat} {mk : Nat} {M : Mem} {v1 : Int32} {v2 : Int32} {Q : Int32 → Mem → Prop} (h : wpX3_merge mk M v1 v2 Q) : Kv l yX3_merge cX3_merge 5 (some .int) rm_X3_merge G al mk M [.ref (al 0), .int v1, .int v2] (QI G al mk Q) := by
  refine a_head (by decide) (Nat.le_of_ble_eq_true rfl) (fun p e s m below meth c X => ?_)
  have X : Cx p s m meth c G RX3 cX3_merge 5 (some .int) := X
  unfold wpX3_merge at h
  refine a_sub (ks := [0, 1, 2]) (lo' := [(0, .ref (al 0)), (1, .int v1), (2, .int v2)]) rfl ?_
  refine a_aload_n X dX3_merge_0 rfl 0 rfl ?_
  refine a_iload_n X dX3_merge_1 rfl 1 rfl ?_
  refine a_cVq (As := [.int v1]) (st := []) X fw3 iz_0 (cX3_find_ok l h) mlX3_80 mvX3_find (rz rfl) (Nat.le_of_ble_eq_true rfl) rfl dX3_merge_2 (fun M_1 h => ?_) (fun n_2 M_1 in_2 h => ?_)
  · have h := h.1 rfl
    refine a_astore_nN (lo' := [(3, .null), (0, .ref (al 0)), (1, .int v1), (2, .int v2)]) X dX3_merge_5 rfl (by decide) rfl ?_
    refine a_aload_n X dX3_merge_6 rfl 1 rfl ?_
    refine a_iload_n X dX3_merge_7 rfl 2 rfl ?_
    refine a_iload_n X dX3_merge_8 rfl 3 rfl ?_
    refine a_cVq (As := [.int v1, .int v2]) (st := []) X fw3 iz_0 (cX3_findOther_ok l h) mlX3_200 mvX3_findOther (rz rfl) (Nat.le_of_ble_eq_true rfl) rfl dX3_merge_9 (fun M_3 h => ?_) (fun n_4 M_3 in_4 h => ?_)
    · have h := h.1 rfl
      refine a_astoreN (lo' := [(4, .null), (3, .null), (0, .ref (al 0)), (1, .int v1), (2, .int v2)]) X dX3_merge_12 (by decide) rfl ?_
      refine a_aload_nN X dX3_merge_14 rfl 1 rfl ?_
      refine a_ifnullN (tgt := 23) X dX3_merge_15 (by decide) ?_
      refine a_aload_n X dX3_merge_23 rfl 2 rfl ?_
      refine a_iconst (v := 1) X dX3_merge_24 ic_1 ?_
      refine a_cVi (As := [.int 1]) (st := []) X fw3 iz_0 (cX3_refuse_ok l h) mlX3_58 mvX3_refuse (rz rfl) (Nat.le_of_ble_eq_true rfl) rfl dX3_merge_25 (fun r_6 M_5 h => ?_)
      exact a_iret X h dX3_merge_28
    · have h := h.2 n_4 rfl
      refine a_astore (lo' := [(4, .ref (al n_4)), (3, .null), (0, .ref (al 0)), (1, .int v1), (2, .int v2)]) X dX3_merge_12 (by decide) rfl ?_
      refine a_aload_nN X dX3_merge_14 rfl 1 rfl ?_
      refine a_ifnullN (tgt := 23) X dX3_merge_15 (by decide) ?_
      refine a_aload_n X dX3_merge_23 rfl 2 rfl ?_
      refine a_iconst (v := 1) X dX3_merge_24 ic_1 ?_
      refine a_cVi (As := [.int 1]) (st := []) X fw3 iz_0 (cX3_refuse_ok l h) mlX3_58 mvX3_refuse (rz rfl) (Nat.le_of_ble_eq_true rfl) rfl dX3_merge_25 (fun r_8 M_7 h => ?_)
      exact a_iret X h dX3_merge_28
  · have h := h.2 n_2 rfl
    refine a_astore_n (lo' := [(3, .ref (al n_2)), (0, .ref (al 0)), (1, .int v1), (2, .int v2)]) X dX3_merge_5 rfl (by decide) rfl ?_
    refine a_aload_n X dX3_merge_6 rfl 1 rfl ?_
    refine a_iload_n X dX3_merge_7 rfl 2 rfl ?_
    refine a_iload_n X dX3_merge_8 rfl 3 rfl ?_
    refine a_cVq (As := [.int v1, .int v2]) (st := []) X fw3 iz_0 (cX3_findOther_ok l h) mlX3_200 mvX3_findOther (rz rfl) (Nat.le_of_ble_eq_true rfl) rfl dX3_merge_9 (fun M_9 h => ?_) (fun n_10 M_9 in_10 h => ?_)
    · have h := h.1 rfl
      refine a_astoreN (lo' := [(4, .null), (3, .ref (al n_2)), (0, .ref (al 0)), (1, .int v1), (2, .int v2)]) X dX3_merge_12 (by decide) rfl ?_
      refine a_aload_n X dX3_merge_14 rfl 1 rfl ?_
      refine a_ifnull X dX3_merge_15 ?_
      refine a_aloadN X dX3_merge_18 0 rfl ?_
      refine a_ifnonnullN X dX3_merge_20 ?_
      refine a_aload_n X dX3_merge_23 rfl 2 rfl ?_
      refine a_iconst (v := 1) X dX3_merge_24 ic_1 ?_
      refine a_cVi (As := [.int 1]) (st := []) X fw3 iz_0 (cX3_refuse_ok l h) mlX3_58 mvX3_refuse (rz rfl) (Nat.le_of_ble_eq_true rfl) rfl dX3_merge_25 (fun r_12 M_11 h => ?_)
      exact a_iret X h dX3_merge_28
    · have h := h.2 n_10 rfl
      refine a_astore (lo' := [(4, .ref (al n_10)), (3, .ref (al n_2)), (0, .ref (al 0)), (1, .int v1), (2, .int v2)]) X dX3_merge_12 (by decide) rfl ?_
      refine a_aload_n X dX3_merge_14 rfl 1 rfl ?_
      refine a_ifnull X dX3_merge_15 ?_
      refine a_aload X dX3_merge_18 0 rfl ?_
      refine a_ifnonnull (tgt := 29) X dX3_merge_20 (by decide) ?_
      refine a_aload_n X dX3_merge_29 rfl 1 rfl ?_
      refine a_getI (k := 2) X fw1 in_2 rfl flX3_84 rfl dX3_merge_30 ?_
      refine a_aload X dX3_merge_33 0 rfl ?_
      refine a_getI (k := 2) X fw1 in_10 rfl flX3_84 rfl dX3_merge_35 ?_
      refine a_iadd X dX3_merge_38 ?_
      refine a_sipush (v := 1000) X dX3_merge_39 sc_1000 ?_
      refine a_icmp_le (tgt := 51) X dX3_merge_42 (by decide) (fun z => ?_) (fun z => ?_)
      · have h := h.1 z
        refine a_aload_n X dX3_merge_51 rfl 2 rfl ?_
        refine a_getR (k := 8) X 10 (b := 10) fw3 iz_0 rfl rfl flX3_44 rfl dX3_merge_52 ?_
        refine a_aload_n X dX3_merge_55 rfl 1 rfl ?_
        refine a_getR (k := 0) X 5 (b := (n_2 + 5)) fw1 in_2 rfl rfl flX3_87 rfl dX3_merge_56 ?_
        refine a_aload X dX3_merge_59 0 rfl ?_
        refine a_getR (k := 0) X 5 (b := (n_10 + 5)) fw1 in_10 rfl rfl flX3_87 rfl dX3_merge_61 ?_
        refine a_cVv (As := [.ref (al (n_2 + 5)), .ref (al (n_10 + 5))]) (st := []) X fw0 iz_10 (cX0_joinOf_ok l iz_10 in_2.str.2 in_10.str.2 h) mlX3_235 mvX0_joinOf (rz rfl) (Nat.le_of_ble_eq_true rfl) rfl dX3_merge_64 (fun M_13 h => ?_)
        refine a_aload_n X dX3_merge_67 rfl 1 rfl ?_
        refine a_getR (k := 0) X 5 (b := (n_2 + 5)) fw1 in_2 rfl rfl flX3_87 rfl dX3_merge_68 ?_
        refine a_aload_n X dX3_merge_71 rfl 2 rfl ?_
        refine a_getR (k := 8) X 10 (b := 10) fw3 iz_0 rfl rfl flX3_44 rfl dX3_merge_72 ?_
        refine a_cVv (As := [.ref (al 10)]) (st := []) X fw0 in_2.str.2 (cX0_copyOf_ok l in_2.str.2 iz_10 h) mlX3_256 mvX0_copyOf (rz rfl) (Nat.le_of_ble_eq_true rfl) rfl dX3_merge_75 (fun M_14 h => ?_)
        refine a_aload_n X dX3_merge_78 rfl 1 rfl ?_
        refine a_aload X dX3_merge_79 0 rfl ?_
        refine a_cVv (As := [.ref (al n_10)]) (st := []) X fw1 in_2 (cX1_addCounts_ok l in_2 in_10 h) mlX3_277 mvX1_addCounts (rz rfl) (Nat.le_of_ble_eq_true rfl) rfl dX3_merge_81 (fun M_15 h => ?_)
        refine a_aload X dX3_merge_84 0 rfl ?_
        refine a_cVv (As := []) (st := []) X fw1 in_10 (cX1_dropValues_ok l in_10 h) mlX3_281 mvX1_dropValues (rz rfl) (Nat.le_of_ble_eq_true rfl) rfl dX3_merge_86 (fun M_16 h => ?_)
        refine a_aload_n X dX3_merge_89 rfl 1 rfl ?_
        refine a_aload_n X dX3_merge_90 rfl 2 rfl ?_
        refine a_getI (k := 3) X fw3 iz_0 rfl flX3_26 rfl dX3_merge_91 ?_
        refine a_cVi (As := [.int (gI M_16 0 3)]) (st := []) X fw1 in_2 (cX1_shortenRow_ok l in_2 h) mlX3_274 mvX1_shortenRow (rz rfl) (Nat.le_of_ble_eq_true rfl) rfl dX3_merge_94 (fun r_18 M_17 h => ?_)
        refine a_pop X dX3_merge_97 rfl ?_
        refine a_aload_n X dX3_merge_98 rfl 2 rfl ?_
        refine a_aload_n X dX3_merge_99 rfl 1 rfl ?_
        refine a_getR (k := 0) X 5 (b := (n_2 + 5)) fw1 in_2 rfl rfl flX3_87 rfl dX3_merge_100 ?_
        refine a_getI (k := 4) X fw0 in_2.str.2 rfl flX3_90 rfl dX3_merge_103 ?_
        refine a_cVi (As := [.int (gI M_17 (n_2 + 5) 4)]) (st := []) X fw3 iz_0 (cX3_pass_ok l h) mlX3_74 mvX3_pass (rz rfl) (Nat.le_of_ble_eq_true rfl) rfl dX3_merge_106 (fun r_20 M_19 h => ?_)
        exact a_iret X h dX3_merge_109
      · have h := h.2 z
        refine a_aload_n X dX3_merge_45 rfl 2 rfl ?_
        refine a_iconst (v := 3) X dX3_merge_46 ic_3 ?_
        refine a_cVi (As := [.int 3]) (st := []) X fw3 iz_0 (cX3_refuse_ok l h) mlX3_58 mvX3_refuse (rz rfl) (Nat.le_of_ble_eq_true rfl) rfl dX3_merge_47 (fun r_22 M_21 h => ?_)
        exact a_iret X h dX3_merge_50
abbrev rm_X3_clear : Room := { frames := 2, cells := 0, slots := 0, locals := 43 }
def wpX3_clear (mk : Nat) (M : Mem) (v1 : Int32) (Q : Int32 → Mem → Prop) : Prop := wpX3_find mk M v1 (fun o M_1 => (o = none → wpX3_refuse M_1 1 (fun r_4 M_3 => Q r_4 M_3)) ∧ (∀ n_2 : Nat, o = some n_2 → (∀ x_5 : Int32, x_5 = (gI M_1 n_2 2) → wpX1_dropValues M_1 n_2 (fun M_6 => wpX3_pass M_6 x_5 (fun r_8 M_7 => Q r_8 M_7)))))
set_option maxHeartbeats 4000000 in
set_option maxRecDepth 100000 in
theorem cX3_clear_ok (l : Launch) {G : Gl} {al : Nat → Nat} {mk : Nat} {M : Mem} {v1 : Int32} {Q : Int32 → Mem → Prop} (h : wpX3_clear mk M v1 Q) : Kv l yX3_clear cX3_clear 4 (some .int) rm_X3_clear G al mk M [.ref (al 0), .int v1] (QI G al mk Q) := by
  refine a_head (by decide) (Nat.le_of_ble_eq_true rfl) (fun p e s m below meth c X => ?_)
  have X : Cx p s m meth c G RX3 cX3_clear 4 (some .int) := X
  unfold wpX3_clear at h
  refine a_sub (ks := [0, 1]) (lo' := [(0, .ref (al 0)), (1, .int v1)]) rfl ?_
  refine a_aload_n X dX3_clear_0 rfl 0 rfl ?_
  refine a_iload_n X dX3_clear_1 rfl 1 rfl ?_
  refine a_cVq (As := [.int v1]) (st := []) X fw3 iz_0 (cX3_find_ok l h) mlX3_80 mvX3_find (rz rfl) (Nat.le_of_ble_eq_true rfl) rfl dX3_clear_2 (fun M_1 h => ?_) (fun n_2 M_1 in_2 h => ?_)
  · have h := h.1 rfl
    refine a_astore_nN (lo' := [(2, .null), (0, .ref (al 0)), (1, .int v1)]) X dX3_clear_5 rfl (by decide) rfl ?_
    refine a_aload_nN X dX3_clear_6 rfl 0 rfl ?_
    refine a_ifnonnullN X dX3_clear_7 ?_
    refine a_aload_n X dX3_clear_10 rfl 1 rfl ?_
    refine a_iconst (v := 1) X dX3_clear_11 ic_1 ?_
    refine a_cVi (As := [.int 1]) (st := []) X fw3 iz_0 (cX3_refuse_ok l h) mlX3_58 mvX3_refuse (rz rfl) (Nat.le_of_ble_eq_true rfl) rfl dX3_clear_12 (fun r_4 M_3 h => ?_)
    exact a_iret X h dX3_clear_15
  · have h := h.2 n_2 rfl
    refine a_astore_n (lo' := [(2, .ref (al n_2)), (0, .ref (al 0)), (1, .int v1)]) X dX3_clear_5 rfl (by decide) rfl ?_
    refine a_aload_n X dX3_clear_6 rfl 0 rfl ?_
    refine a_ifnonnull (tgt := 16) X dX3_clear_7 (by decide) ?_
    refine a_aload_n X dX3_clear_16 rfl 0 rfl ?_
    refine a_getI (k := 2) X fw1 in_2 rfl flX3_84 rfl dX3_clear_17 ?_
    refine a_topi (fun x_5 ex_5 => ?_)
    have h := h x_5 ex_5
    refine a_istore_n (lo' := [(3, .int x_5), (2, .ref (al n_2)), (0, .ref (al 0)), (1, .int v1)]) X dX3_clear_20 rfl (by decide) rfl ?_
    refine a_aload_n X dX3_clear_21 rfl 1 rfl ?_
    refine a_cVv (As := []) (st := []) X fw1 in_2 (cX1_dropValues_ok l in_2 h) mlX3_281 mvX1_dropValues (rz rfl) (Nat.le_of_ble_eq_true rfl) rfl dX3_clear_22 (fun M_6 h => ?_)
    refine a_aload_n X dX3_clear_25 rfl 2 rfl ?_
    refine a_iload_n X dX3_clear_26 rfl 0 rfl ?_
    refine a_cVi (As := [.int x_5]) (st := []) X fw3 iz_0 (cX3_pass_ok l h) mlX3_74 mvX3_pass (rz rfl) (Nat.le_of_ble_eq_true rfl) rfl dX3_clear_27 (fun r_8 M_7 h => ?_)
    exact a_iret X h dX3_clear_30
abbrev rm_X3_every : Room := { frames := 4, cells := 0, slots := 0, locals := 114 }
def wpX3_every (mk : Nat) (M : Mem) (v1 : Int32) (v2 : Int32) (Q : Int32 → Mem → Prop) : Prop := wpX3_find mk M v1 (fun o M_1 => (o = none → wpX3_refuse M_1 1 (fun r_4 M_3 => Q r_4 M_3)) ∧ (∀ n_2 : Nat, o = some n_2 → ((v2 < 1 → wpX3_refuse M_1 2 (fun r_6 M_5 => Q r_6 M_5)) ∧ (¬ v2 < 1 → ((v2 ≤ 60 → (∀ M_7 : Mem, M_7 = pI M_1 n_2 3 v2 → wpX1_isDue M_7 n_2 (fun r_9 M_8 => ((r_9 = 0 → wpX3_pass M_8 (gI M_8 (n_2 + 5) 4) (fun r_11 M_10 => Q r_11 M_10)) ∧ (¬ r_9 = 0 → wpX1_shortenRow M_8 n_2 (gI M_8 0 3) (fun r_13 M_12 => wpX3_pass M_12 (gI M_12 (n_2 + 5) 4) (fun r_15 M_14 => Q r_15 M_14))))))) ∧ (¬ v2 ≤ 60 → wpX3_refuse M_1 2 (fun r_17 M_16 => Q r_17 M_16)))))))
set_option maxHeartbeats 4000000 in
set_option maxRecDepth 100000 in
theorem cX3_every_ok (l : Launch) {G : Gl} {al : Nat → Nat} {mk : Nat} {M : Mem} {v1 : Int32} {v2 : Int32} {Q : Int32 → Mem → Prop} (h : wpX3_every mk M v1 v2 Q) : Kv l yX3_every cX3_every 4 (some .int) rm_X3_every G al mk M [.ref (al 0), .int v1, .int v2] (QI G al mk Q) := by
  refine a_head (by decide) (Nat.le_of_ble_eq_true rfl) (fun p e s m below meth c X => ?_)
  have X : Cx p s m meth c G RX3 cX3_every 4 (some .int) := X
  unfold wpX3_every at h
  refine a_sub (ks := [0, 1, 2]) (lo' := [(0, .ref (al 0)), (1, .int v1), (2, .int v2)]) rfl ?_
  refine a_aload_n X dX3_every_0 rfl 0 rfl ?_
  refine a_iload_n X dX3_every_1 rfl 1 rfl ?_
  refine a_cVq (As := [.int v1]) (st := []) X fw3 iz_0 (cX3_find_ok l h) mlX3_80 mvX3_find (rz rfl) (Nat.le_of_ble_eq_true rfl) rfl dX3_every_2 (fun M_1 h => ?_) (fun n_2 M_1 in_2 h => ?_)
  · have h := h.1 rfl
    refine a_astore_nN (lo' := [(3, .null), (0, .ref (al 0)), (1, .int v1), (2, .int v2)]) X dX3_every_5 rfl (by decide) rfl ?_
    refine a_aload_nN X dX3_every_6 rfl 0 rfl ?_
    refine a_ifnonnullN X dX3_every_7 ?_
    refine a_aload_n X dX3_every_10 rfl 1 rfl ?_
    refine a_iconst (v := 1) X dX3_every_11 ic_1 ?_
    refine a_cVi (As := [.int 1]) (st := []) X fw3 iz_0 (cX3_refuse_ok l h) mlX3_58 mvX3_refuse (rz rfl) (Nat.le_of_ble_eq_true rfl) rfl dX3_every_12 (fun r_4 M_3 h => ?_)
    exact a_iret X h dX3_every_15
  · have h := h.2 n_2 rfl
    refine a_astore_n (lo' := [(3, .ref (al n_2)), (0, .ref (al 0)), (1, .int v1), (2, .int v2)]) X dX3_every_5 rfl (by decide) rfl ?_
    refine a_aload_n X dX3_every_6 rfl 0 rfl ?_
    refine a_ifnonnull (tgt := 16) X dX3_every_7 (by decide) ?_
    refine a_iload_n X dX3_every_16 rfl 3 rfl ?_
    refine a_iconst (v := 1) X dX3_every_17 ic_1 ?_
    refine a_icmp_lt (tgt := 27) X dX3_every_18 (by decide) (fun z => ?_) (fun z => ?_)
    · have h := h.1 z
      refine a_aload_n X dX3_every_27 rfl 1 rfl ?_
      refine a_iconst (v := 2) X dX3_every_28 ic_2 ?_
      refine a_cVi (As := [.int 2]) (st := []) X fw3 iz_0 (cX3_refuse_ok l h) mlX3_58 mvX3_refuse (rz rfl) (Nat.le_of_ble_eq_true rfl) rfl dX3_every_29 (fun r_6 M_5 h => ?_)
      exact a_iret X h dX3_every_32
    · have h := h.2 z
      refine a_iload_n X dX3_every_21 rfl 3 rfl ?_
      refine a_bipush (v := 60) X dX3_every_22 bc_60 ?_
      refine a_icmp_le (tgt := 33) X dX3_every_24 (by decide) (fun z => ?_) (fun z => ?_)
      · have h := h.1 z
        refine a_aload_n X dX3_every_33 rfl 0 rfl ?_
        refine a_iload_n X dX3_every_34 rfl 3 rfl ?_
        refine a_putI (k := 3) X fw1 in_2 rfl flX3_97 rfl rfl dX3_every_35 (fun M_7 eM_7 => ?_)
        have h := h M_7 eM_7
        refine a_aload_n X dX3_every_38 rfl 0 rfl ?_
        refine a_cVi (As := []) (st := []) X fw1 in_2 (cX1_isDue_ok l in_2 h) mlX3_284 mvX1_isDue (rz rfl) (Nat.le_of_ble_eq_true rfl) rfl dX3_every_39 (fun r_9 M_8 h => ?_)
        refine a_if_eq (tgt := 54) X dX3_every_42 (by decide) (fun z => ?_) (fun z => ?_)
        · have h := h.1 z
          refine a_aload_n X dX3_every_54 rfl 1 rfl ?_
          refine a_aload_n X dX3_every_55 rfl 0 rfl ?_
          refine a_getR (k := 0) X 5 (b := (n_2 + 5)) fw1 in_2 rfl rfl flX3_87 rfl dX3_every_56 ?_
          refine a_getI (k := 4) X fw0 in_2.str.2 rfl flX3_90 rfl dX3_every_59 ?_
          refine a_cVi (As := [.int (gI M_8 (n_2 + 5) 4)]) (st := []) X fw3 iz_0 (cX3_pass_ok l h) mlX3_74 mvX3_pass (rz rfl) (Nat.le_of_ble_eq_true rfl) rfl dX3_every_62 (fun r_11 M_10 h => ?_)
          exact a_iret X h dX3_every_65
        · have h := h.2 z
          refine a_aload_n X dX3_every_45 rfl 0 rfl ?_
          refine a_aload_n X dX3_every_46 rfl 1 rfl ?_
          refine a_getI (k := 3) X fw3 iz_0 rfl flX3_26 rfl dX3_every_47 ?_
          refine a_cVi (As := [.int (gI M_8 0 3)]) (st := []) X fw1 in_2 (cX1_shortenRow_ok l in_2 h) mlX3_274 mvX1_shortenRow (rz rfl) (Nat.le_of_ble_eq_true rfl) rfl dX3_every_50 (fun r_13 M_12 h => ?_)
          refine a_pop X dX3_every_53 rfl ?_
          refine a_aload_n X dX3_every_54 rfl 1 rfl ?_
          refine a_aload_n X dX3_every_55 rfl 0 rfl ?_
          refine a_getR (k := 0) X 5 (b := (n_2 + 5)) fw1 in_2 rfl rfl flX3_87 rfl dX3_every_56 ?_
          refine a_getI (k := 4) X fw0 in_2.str.2 rfl flX3_90 rfl dX3_every_59 ?_
          refine a_cVi (As := [.int (gI M_12 (n_2 + 5) 4)]) (st := []) X fw3 iz_0 (cX3_pass_ok l h) mlX3_74 mvX3_pass (rz rfl) (Nat.le_of_ble_eq_true rfl) rfl dX3_every_62 (fun r_15 M_14 h => ?_)
          exact a_iret X h dX3_every_65
      · have h := h.2 z
        refine a_aload_n X dX3_every_27 rfl 1 rfl ?_
        refine a_iconst (v := 2) X dX3_every_28 ic_2 ?_
        refine a_cVi (As := [.int 2]) (st := []) X fw3 iz_0 (cX3_refuse_ok l h) mlX3_58 mvX3_refuse (rz rfl) (Nat.le_of_ble_eq_true rfl) rfl dX3_every_29 (fun r_17 M_16 h => ?_)
        exact a_iret X h dX3_every_32
abbrev rm_X3_error : Room := { frames := 3, cells := 0, slots := 0, locals := 64 }
def wX3_error_32 (mk : Nat) (Q : Int32 → Mem → Prop) (v1 : Int32) : Nat → Mem → Int32 → Prop
  | 0, _, _ => False
  | n + 1, M, v2 => (((gI M 0 2) ≤ v2 → (∀ x_3 : Int32, x_3 = (gI M 0 3) → (∀ M_4 : Mem, M_4 = pI M 0 3 v1 → wpX3_pass M_4 x_3 (fun r_6 M_5 => Q r_6 M_5)))) ∧ (¬ (gI M 0 2) ≤ v2 → wpX3_find mk M v2 (fun o M_7 => (o = none → wX3_error_32 mk Q v1 n M_7 (v2 + 1)) ∧ (∀ n_8 : Nat, o = some n_8 → wpX0_widest M_7 (n_8 + 5) (fun r_10 M_9 => wpX3_boundOf M_9 (gI M_9 n_8 2) v1 (fun r_12 M_11 => ((r_10 ≤ r_12 → wX3_error_32 mk Q v1 n M_11 (v2 + 1)) ∧ (¬ r_10 ≤ r_12 → wpX3_refuse M_11 5 (fun r_14 M_13 => Q r_14 M_13)))))))))
def wpX3_error (mk : Nat) (M : Mem) (v1 : Int32) (Q : Int32 → Mem → Prop) : Prop := ((¬ (gI M 0 2) = 0 → ((v1 < 2 → wpX3_refuse M 2 (fun r_2 M_1 => Q r_2 M_1)) ∧ (¬ v1 < 2 → ((v1 ≤ 40 → ∃ n, wX3_error_32 mk Q v1 n M 0) ∧ (¬ v1 ≤ 40 → wpX3_refuse M 2 (fun r_16 M_15 => Q r_16 M_15)))))) ∧ ((gI M 0 2) = 0 → wpX3_refuse M 1 (fun r_18 M_17 => Q r_18 M_17)))
set_option maxHeartbeats 4000000 in
set_option maxRecDepth 100000 in
theorem tX3_error_32 (X : Cx p s m meth c G RX3 cX3_error 4 (some .int)) {Q : Int32 → Mem → Prop} {v1 : Int32} : ∀ (n : Nat) (M : Mem) (v2 : Int32), wX3_error_32 mk Q v1 n M v2 → Wa p l e rm_X3_error s m args below meth c 4 G al mk 0 0 (MQ below (QI G al mk Q) args s 0 0 (gA G)) M 32 [(0, .ref (al 0)), (1, .int v1), (2, .int v2)] [] := by
  intro n
  induction n with
  | zero =>
    intro M v2 h
    exact False.elim h
  | succ n ih =>
    intro M v2 h
    rw [wX3_error_32] at h
    refine a_iload_n X dX3_error_32 rfl 2 rfl ?_
    refine a_aload_n X dX3_error_33 rfl 0 rfl ?_
    refine a_getI (k := 2) X fw3 iz_0 rfl flX3_22 rfl dX3_error_34 ?_
    refine a_icmp_ge (tgt := 80) X dX3_error_37 (by decide) (fun z => ?_) (fun z => ?_)
    · have h := h.1 z
      refine a_aload_n X dX3_error_80 rfl 0 rfl ?_
      refine a_getI (k := 3) X fw3 iz_0 rfl flX3_26 rfl dX3_error_81 ?_
      refine a_topi (fun x_3 ex_3 => ?_)
      have h := h x_3 ex_3
      refine a_istore_n (lo' := [(2, .int x_3), (0, .ref (al 0)), (1, .int v1)]) X dX3_error_84 rfl (by decide) rfl ?_
      refine a_aload_n X dX3_error_85 rfl 1 rfl ?_
      refine a_iload_n X dX3_error_86 rfl 2 rfl ?_
      refine a_putI (k := 3) X fw3 iz_0 rfl flX3_26 rfl rfl dX3_error_87 (fun M_4 eM_4 => ?_)
      have h := h M_4 eM_4
      refine a_aload_n X dX3_error_90 rfl 1 rfl ?_
      refine a_iload_n X dX3_error_91 rfl 0 rfl ?_
      refine a_cVi (As := [.int x_3]) (st := []) X fw3 iz_0 (cX3_pass_ok l h) mlX3_74 mvX3_pass (rz rfl) (Nat.le_of_ble_eq_true rfl) rfl dX3_error_92 (fun r_6 M_5 h => ?_)
      exact a_iret X h dX3_error_95
    · have h := h.2 z
      refine a_aload_n X dX3_error_40 rfl 0 rfl ?_
      refine a_iload_n X dX3_error_41 rfl 2 rfl ?_
      refine a_cVq (As := [.int v2]) (st := []) X fw3 iz_0 (cX3_find_ok l h) mlX3_80 mvX3_find (rz rfl) (Nat.le_of_ble_eq_true rfl) rfl dX3_error_42 (fun M_7 h => ?_) (fun n_8 M_7 in_8 h => ?_)
      · have h := h.1 rfl
        refine a_astore_nN (lo' := [(3, .null), (0, .ref (al 0)), (1, .int v1), (2, .int v2)]) X dX3_error_45 rfl (by decide) rfl ?_
        refine a_aload_nN X dX3_error_46 rfl 0 rfl ?_
        refine a_ifnullN (tgt := 74) X dX3_error_47 (by decide) ?_
        refine a_iinc (v := v2 + 1) (lo' := [(2, .int (v2 + 1)), (3, .null), (0, .ref (al 0)), (1, .int v1)]) X dX3_error_74 3 rfl (ii_1 _) (by decide) rfl ?_
        refine a_goto (tgt := 32) X dX3_error_77 (by decide) ?_
        refine a_sub (ks := [2, 3, 0]) (lo' := [(0, .ref (al 0)), (1, .int v1), (2, .int (v2 + 1))]) rfl ?_
        exact ih _ _ h
      · have h := h.2 n_8 rfl
        refine a_astore_n (lo' := [(3, .ref (al n_8)), (0, .ref (al 0)), (1, .int v1), (2, .int v2)]) X dX3_error_45 rfl (by decide) rfl ?_
        refine a_aload_n X dX3_error_46 rfl 0 rfl ?_
        refine a_ifnull X dX3_error_47 ?_
        refine a_aload_n X dX3_error_50 rfl 0 rfl ?_
        refine a_getR (k := 0) X 5 (b := (n_8 + 5)) fw1 in_8 rfl rfl flX3_87 rfl dX3_error_51 ?_
        refine a_cVi (As := []) (st := []) X fw0 in_8.str.2 (cX0_widest_ok l in_8.str.2 h) mlX3_110 mvX0_widest (rz rfl) (Nat.le_of_ble_eq_true rfl) rfl dX3_error_54 (fun r_10 M_9 h => ?_)
        refine a_aload_n X dX3_error_57 rfl 0 rfl ?_
        refine a_getI (k := 2) X fw1 in_8 rfl flX3_84 rfl dX3_error_58 ?_
        refine a_iload_n X dX3_error_61 rfl 2 rfl ?_
        refine a_cSi (As := [.int (gI M_9 n_8 2), .int v1]) (st := [.int r_10]) X (cX3_boundOf_ok l h) mlX3_93 msX3_boundOf (rz rfl) (Nat.le_of_ble_eq_true rfl) rfl dX3_error_62 (fun r_12 M_11 h => ?_)
        refine a_icmp_le (tgt := 74) X dX3_error_65 (by decide) (fun z => ?_) (fun z => ?_)
        · have h := h.1 z
          refine a_iinc (v := v2 + 1) (lo' := [(2, .int (v2 + 1)), (3, .ref (al n_8)), (0, .ref (al 0)), (1, .int v1)]) X dX3_error_74 3 rfl (ii_1 _) (by decide) rfl ?_
          refine a_goto (tgt := 32) X dX3_error_77 (by decide) ?_
          refine a_sub (ks := [2, 3, 0]) (lo' := [(0, .ref (al 0)), (1, .int v1), (2, .int (v2 + 1))]) rfl ?_
          exact ih _ _ h
        · have h := h.2 z
          refine a_aload_n X dX3_error_68 rfl 1 rfl ?_
          refine a_iconst (v := 5) X dX3_error_69 ic_5 ?_
          refine a_cVi (As := [.int 5]) (st := []) X fw3 iz_0 (cX3_refuse_ok l h) mlX3_58 mvX3_refuse (rz rfl) (Nat.le_of_ble_eq_true rfl) rfl dX3_error_70 (fun r_14 M_13 h => ?_)
          exact a_iret X h dX3_error_73
set_option maxHeartbeats 4000000 in
set_option maxRecDepth 100000 in
theorem cX3_error_ok (l : Launch) {G : Gl} {al : Nat → Nat} {mk : Nat} {M : Mem} {v1 : Int32} {Q : Int32 → Mem → Prop} (h : wpX3_error mk M v1 Q) : Kv l yX3_error cX3_error 4 (some .int) rm_X3_error G al mk M [.ref (al 0), .int v1] (QI G al mk Q) := by
  refine a_head (by decide) (Nat.le_of_ble_eq_true rfl) (fun p e s m below meth c X => ?_)
  have X : Cx p s m meth c G RX3 cX3_error 4 (some .int) := X
  unfold wpX3_error at h
  refine a_sub (ks := [0, 1]) (lo' := [(0, .ref (al 0)), (1, .int v1)]) rfl ?_
  refine a_aload_n X dX3_error_0 rfl 0 rfl ?_
  refine a_getI (k := 2) X fw3 iz_0 rfl flX3_22 rfl dX3_error_1 ?_
  refine a_if_ne (tgt := 13) X dX3_error_4 (by decide) (fun z => ?_) (fun z => ?_)
  · have h := h.1 z
    refine a_iload_n X dX3_error_13 rfl 1 rfl ?_
    refine a_iconst (v := 2) X dX3_error_14 ic_2 ?_
    refine a_icmp_lt (tgt := 24) X dX3_error_15 (by decide) (fun z => ?_) (fun z => ?_)
    · have h := h.1 z
      refine a_aload_n X dX3_error_24 rfl 0 rfl ?_
      refine a_iconst (v := 2) X dX3_error_25 ic_2 ?_
      refine a_cVi (As := [.int 2]) (st := []) X fw3 iz_0 (cX3_refuse_ok l h) mlX3_58 mvX3_refuse (rz rfl) (Nat.le_of_ble_eq_true rfl) rfl dX3_error_26 (fun r_2 M_1 h => ?_)
      exact a_iret X h dX3_error_29
    · have h := h.2 z
      refine a_iload_n X dX3_error_18 rfl 1 rfl ?_
      refine a_bipush (v := 40) X dX3_error_19 bc_40 ?_
      refine a_icmp_le (tgt := 30) X dX3_error_21 (by decide) (fun z => ?_) (fun z => ?_)
      · have h := h.1 z
        refine a_iconst (v := 0) X dX3_error_30 ic_0 ?_
        refine a_istore_n (lo' := [(2, .int 0), (0, .ref (al 0)), (1, .int v1)]) X dX3_error_31 rfl (by decide) rfl ?_
        refine a_sub (ks := [1, 2, 0]) (lo' := [(0, .ref (al 0)), (1, .int v1), (2, .int 0)]) rfl ?_
        obtain ⟨n9, h⟩ := h
        exact tX3_error_32 X n9 _ _ h
      · have h := h.2 z
        refine a_aload_n X dX3_error_24 rfl 0 rfl ?_
        refine a_iconst (v := 2) X dX3_error_25 ic_2 ?_
        refine a_cVi (As := [.int 2]) (st := []) X fw3 iz_0 (cX3_refuse_ok l h) mlX3_58 mvX3_refuse (rz rfl) (Nat.le_of_ble_eq_true rfl) rfl dX3_error_26 (fun r_16 M_15 h => ?_)
        exact a_iret X h dX3_error_29
  · have h := h.2 z
    refine a_aload_n X dX3_error_7 rfl 0 rfl ?_
    refine a_iconst (v := 1) X dX3_error_8 ic_1 ?_
    refine a_cVi (As := [.int 1]) (st := []) X fw3 iz_0 (cX3_refuse_ok l h) mlX3_58 mvX3_refuse (rz rfl) (Nat.le_of_ble_eq_true rfl) rfl dX3_error_9 (fun r_18 M_17 h => ?_)
    exact a_iret X h dX3_error_12
abbrev rm_X3_size : Room := { frames := 0, cells := 0, slots := 0, locals := 0 }
def wpX3_size (M : Mem) (Q : Int32 → Mem → Prop) : Prop := Q (gI M 1 1) M
set_option maxHeartbeats 4000000 in
set_option maxRecDepth 100000 in
theorem cX3_size_ok (l : Launch) {G : Gl} {al : Nat → Nat} {mk : Nat} {M : Mem} {Q : Int32 → Mem → Prop} (h : wpX3_size M Q) : Kv l yX3_size cX3_size 1 (some .int) rm_X3_size G al mk M [.ref (al 0)] (QI G al mk Q) := by
  refine a_head (by decide) (Nat.le_of_ble_eq_true rfl) (fun p e s m below meth c X => ?_)
  have X : Cx p s m meth c G RX3 cX3_size 1 (some .int) := X
  unfold wpX3_size at h
  refine a_sub (ks := [0]) (lo' := [(0, .ref (al 0))]) rfl ?_
  refine a_aload_n X dX3_size_0 rfl 0 rfl ?_
  refine a_getR (k := 0) X 1 (b := 1) fw3 iz_0 rfl rfl flX3_10 rfl dX3_size_1 ?_
  refine a_getI (k := 1) X fw2 iz_1 rfl flX3_51 rfl dX3_size_4 ?_
  exact a_iret X h dX3_size_7
abbrev rm_X3_trouble : Room := { frames := 0, cells := 0, slots := 0, locals := 0 }
def wpX3_trouble (M : Mem) (Q : Int32 → Mem → Prop) : Prop := Q (gI M 0 5) M
set_option maxHeartbeats 4000000 in
set_option maxRecDepth 100000 in
theorem cX3_trouble_ok (l : Launch) {G : Gl} {al : Nat → Nat} {mk : Nat} {M : Mem} {Q : Int32 → Mem → Prop} (h : wpX3_trouble M Q) : Kv l yX3_trouble cX3_trouble 1 (some .int) rm_X3_trouble G al mk M [.ref (al 0)] (QI G al mk Q) := by
  refine a_head (by decide) (Nat.le_of_ble_eq_true rfl) (fun p e s m below meth c X => ?_)
  have X : Cx p s m meth c G RX3 cX3_trouble 1 (some .int) := X
  unfold wpX3_trouble at h
  refine a_sub (ks := [0]) (lo' := [(0, .ref (al 0))]) rfl ?_
  refine a_aload_n X dX3_trouble_0 rfl 0 rfl ?_
  refine a_getI (k := 5) X fw3 iz_0 rfl flX3_32 rfl dX3_trouble_1 ?_
  exact a_iret X h dX3_trouble_4
