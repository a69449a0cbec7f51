/-! what idle's throw rests on, beside Sx -/
def Sy (G : Gl) (U : State) : Prop := (∀ x ∈ nse_d, va_Nw (.declares x) U) ∧ va_Nw (.castable "java/util/NoSuchElementException" "java/util/NoSuchElementException") U ∧ vx_Zq Bundle.tN "UNASSIGNED_STACK" Bundle.steD (gA G) U U.heap ∧ vx_Zq Bundle.tN "SUPPRESSED_SENTINEL" Bundle.listD (gA G) U U.heap ∧ ∃ sa : Nat, vk_R RX3 290 "no such stream without values" sa U
theorem Sy.to {G : Gl} {s U : State} {H : Heap} {locs : List Loc} (h : Sy G s) (hS : va_S (gA G) s.heap H locs) (hU : U.heap = H) (hW : s.WarmedH U.vm) : Sy G U := by
  obtain ⟨h1, h2, h3, h4, sa, h5⟩ := h
  subst hU
  exact ⟨fun x hx => (h1 x hx).warmD hW, h2.warmC hW, (vx_Zq.moved hW.alike h3).kept hS.2.1, (vx_Zq.moved hW.alike h4).kept hS.2.1, sa, h5.warm hW⟩
def Pi (G : Gl) (al : Nat → Nat) (mk : Nat) (M : Mem) (av : List Value) : Array Value → State → Prop := va_Pc av (fun U => Sx G U ∧ G.2.2.2.2 ≤ U.heap.size ∧ Sy G U ∧ Hp G al mk M U.heap)
theorem pi_blind {G : Gl} {al : Nat → Nat} {mk : Nat} {M : Mem} {av : List Value} : FrameBlind (Pi G al mk M av) :=
  fun a U g k h => ⟨h.1, h.2.1.to (H := U.heap) (locs := []) va_S.rf rfl (State.WarmedH.refl U), h.2.2.1, h.2.2.2.1.to (H := U.heap) (locs := []) va_S.rf rfl (State.WarmedH.refl U), h.2.2.2.2⟩
def XI (G : Gl) (al : Nat → Nat) (mk : Nat) (E : Mem → Prop) : String → State → State → Prop := vx_X (S := Mem) E (fun nm M t => nm = "java/util/NoSuchElementException" ∧ Hp G al mk M t.heap) (gA G)
theorem nse_hat {p : Program} {s : State} {m : MethodId} {args : Array Value} {meth : Method} {c : Code} {nL : Nat} {G : Gl} {own : String} {cc : ByteArray} {ret : Option FieldType} (X : Cx p s m meth c G own cc nL ret) (hy : Sy G s) : ∀ w ∈ (nse_w "GapRows" 292 "java/util/NoSuchElementException" "java/lang/RuntimeException" ["java/lang/Exception"]).filter vx_no, w.before args s = true := by
  rw [nse_eq]
  intro w hw
  rcases nse_gd w hw with h | ⟨x, hx, rfl⟩ | rfl
  · exact cx_w X ⟨nse_in w hw, h⟩
  · exact va_Nw.use rfl (hy.1 x hx)
  · exact va_Nw.use rfl hy.2.1
theorem nse_cl : Cond.classLink RX3 288 "java/util/NoSuchElementException" ∈ lw_tbl := mt4_2 (List.mem_of_getElem? (i := 10) (by decide +kernel))
theorem nse_iy : Cond.initialized "java/util/NoSuchElementException" ∈ lw_tbl := mt1_0 (List.mem_of_getElem? (i := 16) (by decide +kernel))
abbrev rm_X3_idle : Room := { frames := 6, cells := 1, slots := 6, locals := 90 }
section ID
variable {p : Program} {l : Launch} {e : Env} {s : State} {m : MethodId} {args : Array Value} {below : List Frame} {meth : Method} {c : Code} {G : Gl} {al : Nat → Nat} {mk : Nat}
set_option maxHeartbeats 4000000 in
set_option maxRecDepth 100000 in
theorem tX3_idle_47 (hl : l.stackTraces = false) (X : Cx p s m meth c G RX3 cX3_idle 5 (some .int)) (hy : Sy G s) (ht : ∀ x ∈ c.exceptionTable.toList, False) {Q : Int32 → Mem → Prop} {E : Mem → Prop} {M : Mem} {lo : List (Nat × Value)} (h : E M) : Wa p l e rm_X3_idle s m args below meth c 5 G al mk 0 0 (vx_MQ below (QI G al mk Q) (XI G al mk E) args s 1 6 (gA G)) M 47 lo [] := by
  intro H locs ls hH hS hlv
  obtain ⟨sa, hsa⟩ := hy.2.2.2.2
  refine nse_make (own := RX3) (cls := "java/util/NoSuchElementException") (sup := "java/lang/RuntimeException") (names := ["java/lang/Exception"]) (A := gA G) X.1 X.2.1 hl X.2.2.2.1 (by decide +kernel) (by decide +kernel) (by decide +kernel) (cx_w X ⟨nse_cl, rfl⟩) (cx_w X ⟨nse_iy, rfl⟩) hsa (nse_hat X hy) (fun w hw => ?_) hy.2.2.1 hy.2.2.2.1 hS (hlv.1.trans X.2.2.1.symm) dX3_idle_47 dX3_idle_50 dX3_idle_51 dX3_idle_54 (Nat.le_of_ble_eq_true rfl) (Nat.le_of_ble_eq_true rfl) (Nat.le_of_ble_eq_true rfl) (Nat.le_of_ble_eq_true rfl) (fun q H1 ce h1 h2 h3 h4 h5 h6 => ?_)
  · rcases List.mem_cons.mp hw with rfl | hw
    · rfl
    · rcases List.mem_cons.mp hw with rfl | hw
      · rfl
      · exact nse_ot w (by rw [← nse_eq]; exact hw)
  · have hH1 : Hp G al mk M H1 := ⟨hH.1.kept (fun k x hx => h5 x.1 ((hH.1 k x hx).lt)), hH.2⟩
    refine nse_athrow X.1 X.2.1 dX3_idle_57 (vx_out (fun x hx => (ht x hx).elim) X.2.2.2.2.2.1 h1 h2 h3 (fun t ht1 ht2 => ⟨M, h, ⟨rfl, hp_to hH1 ht1⟩, ?_⟩) h6.2.2 (Nat.le_refl _) (Nat.le_refl _))
    exact ⟨by rw [ht1]; exact h6.1, fun q1 a1 a2 => by rw [ht1]; exact h6.2.1 q1 a1 a2⟩
set_option maxHeartbeats 4000000 in
set_option maxRecDepth 100000 in
theorem tX3_idle_4 (hl : l.stackTraces = false) (X : Cx p s m meth c G RX3 cX3_idle 5 (some .int)) (hy : Sy G s) (ht : ∀ x ∈ c.exceptionTable.toList, False) {Q : Int32 → Mem → Prop} {E : Mem → Prop} : ∀ (n : Nat) (M : Mem) (v2 : Int32) (v3 : Int32), wX3_idle_4 mk Q E n M v2 v3 → Wa p l e rm_X3_idle s m args below meth c 5 G al mk 0 0 (vx_MQ below (QI G al mk Q) (XI G al mk E) args s 1 6 (gA G)) M 4 [(0, .ref (al 0)), (2, .int v2), (3, .int v3)] [] := by
  intro n
  induction n with
  | zero =>
    intro M v2 v3 h
    exact False.elim h
  | succ n ih =>
    intro M v2 v3 h
    rw [wX3_idle_4] at h
    refine a_iload_n X dX3_idle_4 rfl 2 rfl ?_
    refine a_aload_n X dX3_idle_5 rfl 0 rfl ?_
    refine a_getI (k := 2) X fw3 iz_0 rfl flX3_22 rfl dX3_idle_6 ?_
    refine a_icmp_ge (tgt := 47) X dX3_idle_9 (by decide) (fun z => ?_) (fun z => ?_)
    · exact tX3_idle_47 hl X hy ht (h.1 z)
    · have h := h.2 z
      refine a_aload_n X dX3_idle_12 rfl 0 rfl ?_
      refine a_iload_n X dX3_idle_13 rfl 2 rfl ?_
      refine a_cVq (As := [.int v3]) (st := []) X fw3 iz_0 (cX3_find_ok l h) mlX3_80 mvX3_find (rz rfl) (Nat.le_of_ble_eq_true rfl) rfl dX3_idle_14 (fun M_1 h => ?_) (fun n_2 M_1 in_2 h => ?_)
      · have h := h.1 rfl
        refine a_astoreN (lo' := [(4, .null), (0, .ref (al 0)), (2, .int v2), (3, .int v3)]) X dX3_idle_17 (by decide) rfl ?_
        refine a_aloadN X dX3_idle_19 0 rfl ?_
        refine a_ifnullN (tgt := 41) X dX3_idle_21 (by decide) ?_
        refine a_iinc (v := v3 + 1) (lo' := [(3, .int (v3 + 1)), (4, .null), (0, .ref (al 0)), (2, .int v2)]) X dX3_idle_41 3 rfl (ii_1 _) (by decide) rfl ?_
        refine a_goto (tgt := 4) X dX3_idle_44 (by decide) ?_
        refine a_sub (ks := [2, 3, 0]) (lo' := [(0, .ref (al 0)), (2, .int v2), (3, .int (v3 + 1))]) rfl ?_
        exact ih _ _ _ h
      · have h := h.2 n_2 rfl
        refine a_astore (lo' := [(4, .ref (al n_2)), (0, .ref (al 0)), (2, .int v2), (3, .int v3)]) X dX3_idle_17 (by decide) rfl ?_
        refine a_aload X dX3_idle_19 0 rfl ?_
        refine a_ifnull X dX3_idle_21 ?_
        refine a_aload X dX3_idle_24 0 rfl ?_
        refine a_getI (k := 2) X fw1 in_2 rfl flX3_84 rfl dX3_idle_26 ?_
        refine a_if_ne (tgt := 41) X dX3_idle_29 (by decide) (fun z => ?_) (fun z => ?_)
        · have h := h.1 z
          refine a_iinc (v := v3 + 1) (lo' := [(3, .int (v3 + 1)), (4, .ref (al n_2)), (0, .ref (al 0)), (2, .int v2)]) X dX3_idle_41 3 rfl (ii_1 _) (by decide) rfl ?_
          refine a_goto (tgt := 4) X dX3_idle_44 (by decide) ?_
          refine a_sub (ks := [2, 3, 0]) (lo' := [(0, .ref (al 0)), (2, .int v2), (3, .int (v3 + 1))]) rfl ?_
          exact ih _ _ _ h
        · have h := h.2 z
          refine a_iload_n X dX3_idle_32 rfl 2 rfl ?_
          refine a_if_ne (tgt := 38) X dX3_idle_33 (by decide) (fun z => ?_) (fun z => ?_)
          · have h := h.1 z
            refine a_iinc (v := v2 + (-1)) (lo' := [(2, .int (v2 + (-1))), (4, .ref (al n_2)), (0, .ref (al 0)), (3, .int v3)]) X dX3_idle_38 2 rfl (ii_m1 _) (by decide) rfl ?_
            refine a_iinc (v := v3 + 1) (lo' := [(3, .int (v3 + 1)), (2, .int (v2 + (-1))), (4, .ref (al n_2)), (0, .ref (al 0))]) X dX3_idle_41 3 rfl (ii_1 _) (by decide) rfl ?_
            refine a_goto (tgt := 4) X dX3_idle_44 (by decide) ?_
            refine a_sub (ks := [3, 1, 0]) (lo' := [(0, .ref (al 0)), (2, .int (v2 + (-1))), (3, .int (v3 + 1))]) rfl ?_
            exact ih _ _ _ h
          · have h := h.2 z
            refine a_iload_n X dX3_idle_36 rfl 3 rfl ?_
            exact fun H locs ls hH hS hl => vx_ret (W.widen (k := 1) (n := 6) (by omega) (by omega) (W.iret X.1 X.2.1 X.2.2.2.2.1 (fun t ht hW => ⟨⟨v3, M_1, rfl, h, hp_to hH ht⟩, hS.F ht⟩) hS.2.2 dX3_idle_37 X.2.2.2.2.2.1))
end ID
set_option maxHeartbeats 4000000 in
set_option maxRecDepth 100000 in
theorem cX3_idle_ok (l : Launch) (hl : l.stackTraces = false) {G : Gl} {al : Nat → Nat} {mk : Nat} {M : Mem} {v1 : Int32} {Q : Int32 → Mem → Prop} {E : Mem → Prop} (h : wpX3_idle mk M v1 Q E) : vx_Met l yX3_idle [.code yX3_idle cX3_idle 5 (some .int)] rm_X3_idle (Pi G al mk M [.ref (al 0), .int v1]) (QI G al mk Q) (XI G al mk E) 1 6 (gA G) := by
  refine vx_ofW (cc := cX3_idle) (maxL := 5) (ret := some .int) (by decide) rfl ?_
  intro p e s m args below meth c s₁ B hml ht hv
  obtain ⟨rfl, hx, hb, hy, hh⟩ := hv
  rw [lg_entry_eq]
  have X : Cx p s m meth c G RX3 cX3_idle 5 (some .int) := ⟨B.exec, B.bytes, hml, findClass_of_methodNamed B.named, B.returns, B.notSynchronized, hx⟩
  obtain ⟨n, h⟩ := h
  have main : Wa p l e rm_X3_idle s m [Value.ref (al 0), .int v1].toArray below meth c 5 G al mk 0 0 (vx_MQ below (QI G al mk Q) (XI G al mk E) [Value.ref (al 0), .int v1].toArray s 1 6 (gA G)) M 0 [(0, .ref (al 0)), (1, .int v1)] [] := by
    refine a_iload_n X dX3_idle_0 rfl 1 rfl ?_
    refine a_istore_n (lo' := [(2, .int v1), (0, .ref (al 0)), (1, .int v1)]) X dX3_idle_1 rfl (by decide) rfl ?_
    refine a_iconst (v := 0) X dX3_idle_2 ic_0 ?_
    refine a_istore_n (lo' := [(3, .int 0), (2, .int v1), (0, .ref (al 0)), (1, .int v1)]) X dX3_idle_3 rfl (by decide) rfl ?_
    refine a_sub (ks := [2, 1, 0]) (lo' := [(0, .ref (al 0)), (2, .int v1), (3, .int 0)]) rfl ?_
    exact tX3_idle_4 hl X hy ht n M v1 0 h
  exact main s.heap [] _ hh va_S.rf (lv_entry [.ref (al 0), .int v1] (Nat.le_of_ble_eq_true rfl))
