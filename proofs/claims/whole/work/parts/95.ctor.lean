theorem oi_2 : Cond.instanceMethod Lib.objectInit ∈ lw_tbl := mt1_0 (List.mem_of_getElem? (i := 23) (by decide +kernel))
theorem oi_3 : Cond.code Lib.objectInit object_method_1_code 1 none ∈ lw_tbl := mt1_0 (List.mem_of_getElem? (i := 24) (by decide +kernel))
theorem ac_int : Cond.arrayClass .int ∈ lw_tbl := mt1_2 (List.mem_of_getElem? (i := 9) (by decide +kernel))
theorem ac_byte : Cond.arrayClass .byte ∈ lw_tbl := mt2_2 (List.mem_of_getElem? (i := 9) (by decide +kernel))
theorem ac_long : Cond.arrayClass .long ∈ lw_tbl := mt5_0 (List.mem_of_getElem? (i := 18) (by decide +kernel))
theorem in_0 : Cond.instantiable RX0 5 ∈ lw_tbl := mt1_2 (List.mem_of_getElem? (i := 13) (by decide +kernel))
theorem iy_0 : Cond.initialized RX0 ∈ lw_tbl := mt1_0 (List.mem_of_getElem? (i := 3) (by decide +kernel))
theorem miX0 : Mi yX0_init cX0_init 1 := ⟨⟨mt1_0 (List.mem_of_getElem? (i := 3) (by decide +kernel)), mt1_2 (List.mem_of_getElem? (i := 15) (by decide +kernel)), mt1_2 (List.mem_of_getElem? (i := 16) (by decide +kernel))⟩, by decide +kernel⟩
theorem in_1 : Cond.instantiable RX1 6 ∈ lw_tbl := mt2_1 (List.mem_of_getElem? (i := 17) (by decide +kernel))
theorem iy_1 : Cond.initialized RX1 ∈ lw_tbl := mt1_0 (List.mem_of_getElem? (i := 10) (by decide +kernel))
theorem miX1 : Mi yX1_init cX1_init 1 := ⟨⟨mt1_0 (List.mem_of_getElem? (i := 10) (by decide +kernel)), mt2_1 (List.mem_of_getElem? (i := 19) (by decide +kernel)), mt2_1 (List.mem_of_getElem? (i := 20) (by decide +kernel))⟩, by decide +kernel⟩
theorem in_2 : Cond.instantiable RX2 16 ∈ lw_tbl := mt1_0 (List.mem_of_getElem? (i := 26) (by decide +kernel))
theorem iy_2 : Cond.initialized RX2 ∈ lw_tbl := mt1_0 (List.mem_of_getElem? (i := 2) (by decide +kernel))
theorem miX2 : Mi yX2_init cX2_init 1 := ⟨⟨mt1_0 (List.mem_of_getElem? (i := 2) (by decide +kernel)), mt1_0 (List.mem_of_getElem? (i := 28) (by decide +kernel)), mt1_0 (List.mem_of_getElem? (i := 29) (by decide +kernel))⟩, by decide +kernel⟩
theorem in_3 : Cond.instantiable RX3 10 ∈ lw_tbl := mt1_0 (List.mem_of_getElem? (i := 18) (by decide +kernel))
theorem iy_3 : Cond.initialized RX3 ∈ lw_tbl := mt1_0 (List.mem_of_getElem? (i := 1) (by decide +kernel))
theorem miX3 : Mi yX3_init cX3_init 1 := ⟨⟨mt1_0 (List.mem_of_getElem? (i := 1) (by decide +kernel)), mt1_0 (List.mem_of_getElem? (i := 20) (by decide +kernel)), mt1_0 (List.mem_of_getElem? (i := 21) (by decide +kernel))⟩, by decide +kernel⟩
theorem in_4 : Cond.instantiable RX4 32 ∈ lw_tbl := mt4_3 (List.mem_of_getElem? (i := 36) (by decide +kernel))
theorem iy_4 : Cond.initialized RX4 ∈ lw_tbl := mt1_0 (List.mem_of_getElem? (i := 4) (by decide +kernel))
theorem miX4 : Mi yX4_init cX4_init 1 := ⟨⟨mt1_0 (List.mem_of_getElem? (i := 4) (by decide +kernel)), mt4_3 (List.mem_of_getElem? (i := 38) (by decide +kernel)), mt4_3 (List.mem_of_getElem? (i := 39) (by decide +kernel))⟩, by decide +kernel⟩
theorem clL_8 : Cond.classLink RL 8 RX3 ∈ lw_tbl := mt1_0 (List.mem_of_getElem? (i := 17) (by decide +kernel))
theorem olX3 : Cond.methodLink RX3 1 Lib.objectInit ∈ lw_tbl := mt1_0 (List.mem_of_getElem? (i := 22) (by decide +kernel))
theorem clX3_7 : Cond.classLink RX3 7 RX2 ∈ lw_tbl := mt1_0 (List.mem_of_getElem? (i := 25) (by decide +kernel))
theorem olX2 : Cond.methodLink RX2 3 Lib.objectInit ∈ lw_tbl := mt1_0 (List.mem_of_getElem? (i := 30) (by decide +kernel))
theorem clX3_16 : Cond.classLink RX3 16 RX1 ∈ lw_tbl := mt1_2 (List.mem_of_getElem? (i := 10) (by decide +kernel))
theorem clX3_41 : Cond.classLink RX3 41 RX0 ∈ lw_tbl := mt1_2 (List.mem_of_getElem? (i := 12) (by decide +kernel))
theorem olX0 : Cond.methodLink RX0 3 Lib.objectInit ∈ lw_tbl := mt1_2 (List.mem_of_getElem? (i := 17) (by decide +kernel))
theorem olX1 : Cond.methodLink RX1 3 Lib.objectInit ∈ lw_tbl := mt2_1 (List.mem_of_getElem? (i := 21) (by decide +kernel))
theorem clX1_9 : Cond.classLink RX1 9 RX0 ∈ lw_tbl := mt2_1 (List.mem_of_getElem? (i := 22) (by decide +kernel))
theorem clL_16 : Cond.classLink RL 16 RX4 ∈ lw_tbl := mt4_3 (List.mem_of_getElem? (i := 35) (by decide +kernel))
theorem olX4 : Cond.methodLink RX4 1 Lib.objectInit ∈ lw_tbl := mt4_4 (List.mem_of_getElem? (i := 0) (by decide +kernel))
theorem set_same {q0 : Nat} {x : Nat × va_E} {ws : va_W} (hq : ws[q0]? = some x) : ws = ws.set q0 x ++ [] := by
  rw [List.append_nil]
  apply List.ext_getElem?
  intro i
  by_cases h : i = q0
  · subst h
    rw [hq, List.getElem?_set_self (List.getElem?_eq_some_iff.mp hq).1]
  · rw [List.getElem?_set_ne (Ne.symm h)]
theorem set_ex {A ex : va_W} {i : Nat} {y : Nat × va_E} : (A ++ ex).set (A.length + i) y = A ++ ex.set i y := by
  rw [List.set_append_right _ _ (Nat.le_add_right _ _), Nat.add_sub_cancel_left]
theorem get_ex {A ex : va_W} {i : Nat} {y : Nat × va_E} (h : ex[i]? = some y) : (A ++ ex)[A.length + i]? = some y := by
  rw [List.getElem?_append_right (Nat.le_add_right _ _), Nat.add_sub_cancel_left]
  exact h
theorem w_cast {p : Program} {l : Launch} {e : Env} {R : Room} {s : State} {m : MethodId} {args : Array Value} {below : List Frame} {meth : Method} {c : Code} {nL : Nat} {G : Gl} {cs ss : Nat} {Q : State → Prop} {ws ws' : va_W} {pc : Nat} {lo : List (Nat × Value)} {st : List Value} (h : ws = ws') (k : Ww p l e R s m args below meth c nL G cs ss Q ws' pc lo st) : Ww p l e R s m args below meth c nL G cs ss Q ws pc lo st := h ▸ k
theorem w_initN {p : Program} {l : Launch} {e : Env} {R : Room} {s : State} {m : MethodId} {args : Array Value} {below : List Frame} {meth : Method} {c : Code} {nL : Nat} {G : Gl} {cs ss : Nat} {Q : State → Prop} {ws : va_W} {pc : Nat} {lo : List (Nat × Value)} {st : List Value} {own : String} {cc : ByteArray} {ret : Option FieldType} (X : Cx p s m meth c G own cc nL ret) (hb : G.2.2.2.2 ≤ s.heap.size) {y : MethodName} {host : String} {bytes : ByteArray} {maxL : Nat} {rm : Room} {a idx mc ms : Nat} {E : Prop} {Rr : va_W → Prop} (hM : Kw l y bytes maxL rm G E ws [.ref a] Rr mc ms) (hE : E → va_AO "GapRows$Stream" s) (hI : Mi y bytes maxL) (hl : Cond.methodLinkNest own idx y host ∈ lw_tbl) (hrm : rm.cells = mc ∧ rm.slots = ms) (hR : rm.frames + 1 ≤ R.frames ∧ 8 + (maxL + 11) + rm.locals ≤ R.locals) (hc : cs + mc ≤ R.cells ∧ ss + ms ≤ R.slots) (hW : (st.map fun v => v.category).sum ≤ 8) (d : decode cc pc = .ok (.invokespecial idx, 3))
    (kk : ∀ ws' : va_W, Rr ws' → Ww p l e R s m args below meth c nL G (cs + mc) (ss + ms) Q ws' (pc + 3) lo st) : Ww p l e R s m args below meth c nL G cs ss Q ws pc lo (.ref a :: st) := by
  intro H locs ls hP hD hS hlv
  have hok : ∀ w ∈ [Cond.code y bytes maxL none], w ∈ lw_tbl ∧ goodWord w = true := fun w hw => by
    rw [List.mem_singleton.mp hw]
    exact ⟨hI.1.2.2, rfl⟩
  have hts : ∀ w ∈ [Cond.code y bytes maxL none], w.before args s = true := fun w hw => cx_w X (hok w hw)
  refine va_callv (va_runIN (As := []) (rest := st) (b := a) (host := host) ⟨X.1, X.2.1, X.2.2.1, X.2.2.2.1, hts⟩ hM ⟨va_cnB 0 hts (wk_good hok) rfl hrm.1 hrm.2 ((cx_S X).2.2.2.2.2.2 _ _ _ _ hl) (cx_w X ⟨hI.1.1, rfl⟩) hI.2.2 hR, hI.2.1, cx_w X ⟨hI.1.2.1, rfl⟩⟩ ⟨pw_blind, fun U hU hW => ⟨rfl, (cx_S X).to hS hU hW, by rw [hU]; exact Nat.le_trans hb hS.1, fun z => (hE z).moved hW.alike, by rw [hU]; exact hP, hD⟩⟩ rfl rfl hlv.1 rfl (lv_room hW) d hc) hS (fun q _ h => h) (fun q h => h) (fun ws' t H1 locs1 ht hvm hw hB hz hk hS1 => kk ws' hw H1 locs1 ls (by rw [← ht]; exact hB.1) hB.2 hS1 hlv)
def rm_X0_init : Room := { frames := 1, cells := 4, slots := 4000, locals := 20 }
set_option maxHeartbeats 4000000 in
set_option maxRecDepth 100000 in
theorem cX0_init_ok (l : Launch) {G : Gl} {ws : va_W} {q0 a : Nat} (hq : ws[q0]? = some (a, .inr (0, [.null, .null, .null, .null, .int 0]))) : Kw l yX0_init cX0_init 1 rm_X0_init G False ws [.ref a] (fun ws' => ∃ q1 q2 q3 q4 : Nat, ws' = ws.set q0 (a, .inr (0, [.ref q1, .ref q2, .ref q3, .ref q4, .int 0])) ++ [(q1, .inl (G.2.1 6, 1000, .inl (fun _ => 0))), (q2, .inl (G.2.1 6, 1000, .inl (fun _ => 0))), (q3, .inl (G.2.1 6, 1000, .inl (fun _ => 0))), (q4, .inl (G.2.1 6, 1000, .inl (fun _ => 0)))]) 4 4000 := by
  refine w_head (by decide) (Nat.le_of_ble_eq_true rfl) (fun p e s m below meth c X hb hE hm => ?_)
  have X : Cx p s m meth c G RX0 cX0_init 1 none := X
  have hm : meth.name = "<init>" := hm
  have hq0 : q0 < ws.length := (List.getElem?_eq_some_iff.mp hq).1
  refine w_cast (ws' := ws.set q0 (a, .inr (0, [.null, .null, .null, .null, .int 0])) ++ []) (set_same hq) ?_
  refine w_aload_n X dX0_init_0 rfl 0 rfl ?_
  refine w_obj X olX0 oi_2 oi_3 (Nat.le_of_ble_eq_true rfl) (Nat.le_of_ble_eq_true rfl) (Nat.le_of_ble_eq_true rfl) dX0_init_1 ?_
  refine w_aload_n X dX0_init_4 rfl 0 rfl ?_
  refine w_sipush X dX0_init_5 sc_1000 ?_
  refine w_newa (atype := .int) (N := 1000) (t0 := 1) (ty := .int) (a0 := (1000, .inl (fun _ => 0))) X hb ac_int rfl rfl (fun _ h => h) (fun _ => rfl) (by decide) (by decide) (Nat.le_of_ble_eq_true rfl) (Nat.le_of_ble_eq_true rfl) (Nat.le_of_ble_eq_true rfl) dX0_init_8 (fun q1 => ?_)
  refine w_cast (ws' := ws.set q0 (a, .inr (0, [.null, .null, .null, .null, .int 0])) ++ [(q1, .inl (G.2.1 6, 1000, .inl (fun _ => 0)))]) (List.append_assoc _ _ _) ?_
  refine w_putF (k := 0) (fs' := [.ref q1, .null, .null, .null, .int 0]) X fw0 hq0 hm flX0_9 rfl rfl (by decide) rfl rfl rfl rfl dX0_init_10 ?_
  refine w_aload_n X dX0_init_13 rfl 0 rfl ?_
  refine w_sipush X dX0_init_14 sc_1000 ?_
  refine w_newa (atype := .int) (N := 1000) (t0 := 1) (ty := .int) (a0 := (1000, .inl (fun _ => 0))) X hb ac_int rfl rfl (fun _ h => h) (fun _ => rfl) (by decide) (by decide) (Nat.le_of_ble_eq_true rfl) (Nat.le_of_ble_eq_true rfl) (Nat.le_of_ble_eq_true rfl) dX0_init_17 (fun q2 => ?_)
  refine w_cast (ws' := ws.set q0 (a, .inr (0, [.ref q1, .null, .null, .null, .int 0])) ++ [(q1, .inl (G.2.1 6, 1000, .inl (fun _ => 0))), (q2, .inl (G.2.1 6, 1000, .inl (fun _ => 0)))]) (List.append_assoc _ _ _) ?_
  refine w_putF (k := 1) (fs' := [.ref q1, .ref q2, .null, .null, .int 0]) X fw0 hq0 hm flX0_15 rfl rfl (by decide) rfl rfl rfl rfl dX0_init_19 ?_
  refine w_aload_n X dX0_init_22 rfl 0 rfl ?_
  refine w_sipush X dX0_init_23 sc_1000 ?_
  refine w_newa (atype := .int) (N := 1000) (t0 := 1) (ty := .int) (a0 := (1000, .inl (fun _ => 0))) X hb ac_int rfl rfl (fun _ h => h) (fun _ => rfl) (by decide) (by decide) (Nat.le_of_ble_eq_true rfl) (Nat.le_of_ble_eq_true rfl) (Nat.le_of_ble_eq_true rfl) dX0_init_26 (fun q3 => ?_)
  refine w_cast (ws' := ws.set q0 (a, .inr (0, [.ref q1, .ref q2, .null, .null, .int 0])) ++ [(q1, .inl (G.2.1 6, 1000, .inl (fun _ => 0))), (q2, .inl (G.2.1 6, 1000, .inl (fun _ => 0))), (q3, .inl (G.2.1 6, 1000, .inl (fun _ => 0)))]) (List.append_assoc _ _ _) ?_
  refine w_putF (k := 2) (fs' := [.ref q1, .ref q2, .ref q3, .null, .int 0]) X fw0 hq0 hm flX0_18 rfl rfl (by decide) rfl rfl rfl rfl dX0_init_28 ?_
  refine w_aload_n X dX0_init_31 rfl 0 rfl ?_
  refine w_sipush X dX0_init_32 sc_1000 ?_
  refine w_newa (atype := .int) (N := 1000) (t0 := 1) (ty := .int) (a0 := (1000, .inl (fun _ => 0))) X hb ac_int rfl rfl (fun _ h => h) (fun _ => rfl) (by decide) (by decide) (Nat.le_of_ble_eq_true rfl) (Nat.le_of_ble_eq_true rfl) (Nat.le_of_ble_eq_true rfl) dX0_init_35 (fun q4 => ?_)
  refine w_cast (ws' := ws.set q0 (a, .inr (0, [.ref q1, .ref q2, .ref q3, .null, .int 0])) ++ [(q1, .inl (G.2.1 6, 1000, .inl (fun _ => 0))), (q2, .inl (G.2.1 6, 1000, .inl (fun _ => 0))), (q3, .inl (G.2.1 6, 1000, .inl (fun _ => 0))), (q4, .inl (G.2.1 6, 1000, .inl (fun _ => 0)))]) (List.append_assoc _ _ _) ?_
  refine w_putF (k := 3) (fs' := [.ref q1, .ref q2, .ref q3, .ref q4, .int 0]) X fw0 hq0 hm flX0_21 rfl rfl (by decide) rfl rfl rfl rfl dX0_init_37 ?_
  refine w_aload_n X dX0_init_40 rfl 0 rfl ?_
  refine w_iconst X dX0_init_41 ic_0 ?_
  refine w_put (k := 4) (fs' := [.ref q1, .ref q2, .ref q3, .ref q4, .int 0]) X fw0 hq0 flX0_24 rfl (by decide) rfl rfl rfl rfl dX0_init_42 ?_
  exact w_vret X ⟨q1, q2, q3, q4, rfl⟩ dX0_init_45
def rm_X1_init : Room := { frames := 2, cells := 6, slots := 5005, locals := 40 }
set_option maxHeartbeats 4000000 in
set_option maxRecDepth 100000 in
theorem cX1_init_ok (l : Launch) {G : Gl} {ws : va_W} {q0 a : Nat} (hq : ws[q0]? = some (a, .inr (1, [.null, .null, .int 0, .int 0, .int 0, .int 0]))) : Kw l yX1_init cX1_init 1 rm_X1_init G False ws [.ref a] (fun ws' => ∃ q1 q2 q3 q4 q5 q6 : Nat, ws' = ws.set q0 (a, .inr (1, [.ref q1, .ref q6, .int 0, .int 1, .int 0, .int 0])) ++ [(q1, .inr (0, [.ref q2, .ref q3, .ref q4, .ref q5, .int 0])), (q2, .inl (G.2.1 6, 1000, .inl (fun _ => 0))), (q3, .inl (G.2.1 6, 1000, .inl (fun _ => 0))), (q4, .inl (G.2.1 6, 1000, .inl (fun _ => 0))), (q5, .inl (G.2.1 6, 1000, .inl (fun _ => 0))), (q6, .inl (G.2.1 6, 1000, .inl (fun _ => 0)))]) 6 5005 := by
  refine w_head (by decide) (Nat.le_of_ble_eq_true rfl) (fun p e s m below meth c X hb hE hm => ?_)
  have X : Cx p s m meth c G RX1 cX1_init 1 none := X
  have hm : meth.name = "<init>" := hm
  have hq0 : q0 < ws.length := (List.getElem?_eq_some_iff.mp hq).1
  refine w_cast (ws' := ws.set q0 (a, .inr (1, [.null, .null, .int 0, .int 0, .int 0, .int 0])) ++ []) (set_same hq) ?_
  refine w_aload_n X dX1_init_0 rfl 0 rfl ?_
  refine w_obj X olX1 oi_2 oi_3 (Nat.le_of_ble_eq_true rfl) (Nat.le_of_ble_eq_true rfl) (Nat.le_of_ble_eq_true rfl) dX1_init_1 ?_
  refine w_aload_n X dX1_init_4 rfl 0 rfl ?_
  refine w_new (fs := [.null, .null, .null, .null, .int 0]) X hb fw0 clX1_9 in_0 iy_0 (fun j hj => by rcases (show j = 0 ∨ j = 1 ∨ j = 2 ∨ j = 3 ∨ j = 4 by omega) with rfl | rfl | rfl | rfl | rfl <;> rfl) (Nat.le_of_ble_eq_true rfl) (Nat.le_of_ble_eq_true rfl) dX1_init_5 (fun q1 => ?_)
  refine w_cast (ws' := ws.set q0 (a, .inr (1, [.null, .null, .int 0, .int 0, .int 0, .int 0])) ++ [(q1, .inr (0, [.null, .null, .null, .null, .int 0]))]) (List.append_assoc _ _ _) ?_
  refine w_dup X dX1_init_8 rfl ?_
  refine w_initN X hb (cX0_init_ok l (q0 := (ws.set q0 (a, .inr (1, [.null, .null, .int 0, .int 0, .int 0, .int 0]))).length + 0) (a := q1) (get_ex rfl)) (fun z => z.elim) miX0 nlX1_11 ⟨rfl, rfl⟩ ⟨Nat.le_of_ble_eq_true rfl, Nat.le_of_ble_eq_true rfl⟩ ⟨Nat.le_of_ble_eq_true rfl, Nat.le_of_ble_eq_true rfl⟩ (Nat.le_of_ble_eq_true rfl) dX1_init_9 (fun ws1 h1 => ?_)
  obtain ⟨q2, q3, q4, q5, rfl⟩ := h1
  refine w_cast (ws' := ws.set q0 (a, .inr (1, [.null, .null, .int 0, .int 0, .int 0, .int 0])) ++ [(q1, .inr (0, [.ref q2, .ref q3, .ref q4, .ref q5, .int 0])), (q2, .inl (G.2.1 6, 1000, .inl (fun _ => 0))), (q3, .inl (G.2.1 6, 1000, .inl (fun _ => 0))), (q4, .inl (G.2.1 6, 1000, .inl (fun _ => 0))), (q5, .inl (G.2.1 6, 1000, .inl (fun _ => 0)))]) (by rw [set_ex, List.append_assoc]; rfl) ?_
  refine w_putF (k := 0) (fs' := [.ref q1, .null, .int 0, .int 0, .int 0, .int 0]) X fw1 hq0 hm flX1_12 rfl rfl (by decide) rfl rfl rfl rfl dX1_init_12 ?_
  refine w_aload_n X dX1_init_15 rfl 0 rfl ?_
  refine w_sipush X dX1_init_16 sc_1000 ?_
  refine w_newa (atype := .int) (N := 1000) (t0 := 1) (ty := .int) (a0 := (1000, .inl (fun _ => 0))) X hb ac_int rfl rfl (fun _ h => h) (fun _ => rfl) (by decide) (by decide) (Nat.le_of_ble_eq_true rfl) (Nat.le_of_ble_eq_true rfl) (Nat.le_of_ble_eq_true rfl) dX1_init_19 (fun q6 => ?_)
  refine w_cast (ws' := ws.set q0 (a, .inr (1, [.ref q1, .null, .int 0, .int 0, .int 0, .int 0])) ++ [(q1, .inr (0, [.ref q2, .ref q3, .ref q4, .ref q5, .int 0])), (q2, .inl (G.2.1 6, 1000, .inl (fun _ => 0))), (q3, .inl (G.2.1 6, 1000, .inl (fun _ => 0))), (q4, .inl (G.2.1 6, 1000, .inl (fun _ => 0))), (q5, .inl (G.2.1 6, 1000, .inl (fun _ => 0))), (q6, .inl (G.2.1 6, 1000, .inl (fun _ => 0)))]) (List.append_assoc _ _ _) ?_
  refine w_putF (k := 1) (fs' := [.ref q1, .ref q6, .int 0, .int 0, .int 0, .int 0]) X fw1 hq0 hm flX1_18 rfl rfl (by decide) rfl rfl rfl rfl dX1_init_21 ?_
  refine w_aload_n X dX1_init_24 rfl 0 rfl ?_
  refine w_iconst X dX1_init_25 ic_0 ?_
  refine w_put (k := 2) (fs' := [.ref q1, .ref q6, .int 0, .int 0, .int 0, .int 0]) X fw1 hq0 flX1_22 rfl (by decide) rfl rfl rfl rfl dX1_init_26 ?_
  refine w_aload_n X dX1_init_29 rfl 0 rfl ?_
  refine w_iconst X dX1_init_30 ic_1 ?_
  refine w_put (k := 3) (fs' := [.ref q1, .ref q6, .int 0, .int 1, .int 0, .int 0]) X fw1 hq0 flX1_26 rfl (by decide) rfl rfl rfl rfl dX1_init_31 ?_
  refine w_aload_n X dX1_init_34 rfl 0 rfl ?_
  refine w_iconst X dX1_init_35 ic_0 ?_
  refine w_put (k := 4) (fs' := [.ref q1, .ref q6, .int 0, .int 1, .int 0, .int 0]) X fw1 hq0 flX1_29 rfl (by decide) rfl rfl rfl rfl dX1_init_36 ?_
  refine w_aload_n X dX1_init_39 rfl 0 rfl ?_
  refine w_iconst X dX1_init_40 ic_0 ?_
  refine w_put (k := 5) (fs' := [.ref q1, .ref q6, .int 0, .int 1, .int 0, .int 0]) X fw1 hq0 flX1_32 rfl (by decide) rfl rfl rfl rfl dX1_init_41 ?_
  exact w_vret X ⟨q1, q2, q3, q4, q5, q6, rfl⟩ dX1_init_44
def rm_X2_init : Room := { frames := 1, cells := 5, slots := 808, locals := 20 }
set_option maxHeartbeats 4000000 in
set_option maxRecDepth 100000 in
theorem cX2_init_ok (l : Launch) {G : Gl} {ws : va_W} {q0 a : Nat} (hq : ws[q0]? = some (a, .inr (2, [.null, .int 0, .int 0, .int 0, .int 0, .int 0, .int 0, .int 0, .int 0, .int 0, .int 0, .null, .null, .int 0, .null, .null]))) : Kw l yX2_init cX2_init 1 rm_X2_init G False ws [.ref a] (fun ws' => ∃ q1 q2 q3 q4 q5 : Nat, ws' = ws.set q0 (a, .inr (2, [.ref q1, .int 0, .int 0, .int 0, .int 0, .int 0, .int 0, .int 0, .int 0, .int 0, .int 0, .ref q2, .ref q3, .int 0, .ref q4, .ref q5])) ++ [(q1, .inl (G.2.1 6, 400, .inl (fun _ => 0))), (q2, .inl (G.2.1 6, 4, .inl (fun _ => 0))), (q3, .inl (G.2.1 6, 4, .inl (fun _ => 0))), (q4, .inl (G.2.1 6, 200, .inl (fun _ => 0))), (q5, .inl (G.2.1 6, 200, .inl (fun _ => 0)))]) 5 808 := by
  refine w_head (by decide) (Nat.le_of_ble_eq_true rfl) (fun p e s m below meth c X hb hE hm => ?_)
  have X : Cx p s m meth c G RX2 cX2_init 1 none := X
  have hm : meth.name = "<init>" := hm
  have hq0 : q0 < ws.length := (List.getElem?_eq_some_iff.mp hq).1
  refine w_cast (ws' := ws.set q0 (a, .inr (2, [.null, .int 0, .int 0, .int 0, .int 0, .int 0, .int 0, .int 0, .int 0, .int 0, .int 0, .null, .null, .int 0, .null, .null])) ++ []) (set_same hq) ?_
  refine w_aload_n X dX2_init_0 rfl 0 rfl ?_
  refine w_obj X olX2 oi_2 oi_3 (Nat.le_of_ble_eq_true rfl) (Nat.le_of_ble_eq_true rfl) (Nat.le_of_ble_eq_true rfl) dX2_init_1 ?_
  refine w_aload_n X dX2_init_4 rfl 0 rfl ?_
  refine w_sipush X dX2_init_5 sc_400 ?_
  refine w_newa (atype := .int) (N := 400) (t0 := 1) (ty := .int) (a0 := (400, .inl (fun _ => 0))) X hb ac_int rfl rfl (fun _ h => h) (fun _ => rfl) (by decide) (by decide) (Nat.le_of_ble_eq_true rfl) (Nat.le_of_ble_eq_true rfl) (Nat.le_of_ble_eq_true rfl) dX2_init_8 (fun q1 => ?_)
  refine w_cast (ws' := ws.set q0 (a, .inr (2, [.null, .int 0, .int 0, .int 0, .int 0, .int 0, .int 0, .int 0, .int 0, .int 0, .int 0, .null, .null, .int 0, .null, .null])) ++ [(q1, .inl (G.2.1 6, 400, .inl (fun _ => 0)))]) (List.append_assoc _ _ _) ?_
  refine w_putF (k := 0) (fs' := [.ref q1, .int 0, .int 0, .int 0, .int 0, .int 0, .int 0, .int 0, .int 0, .int 0, .int 0, .null, .null, .int 0, .null, .null]) X fw2 hq0 hm flX2_9 rfl rfl (by decide) rfl rfl rfl rfl dX2_init_10 ?_
  refine w_aload_n X dX2_init_13 rfl 0 rfl ?_
  refine w_iconst X dX2_init_14 ic_0 ?_
  refine w_put (k := 1) (fs' := [.ref q1, .int 0, .int 0, .int 0, .int 0, .int 0, .int 0, .int 0, .int 0, .int 0, .int 0, .null, .null, .int 0, .null, .null]) X fw2 hq0 flX2_15 rfl (by decide) rfl rfl rfl rfl dX2_init_15 ?_
  refine w_aload_n X dX2_init_18 rfl 0 rfl ?_
  refine w_iconst X dX2_init_19 ic_0 ?_
  refine w_put (k := 2) (fs' := [.ref q1, .int 0, .int 0, .int 0, .int 0, .int 0, .int 0, .int 0, .int 0, .int 0, .int 0, .null, .null, .int 0, .null, .null]) X fw2 hq0 flX2_19 rfl (by decide) rfl rfl rfl rfl dX2_init_20 ?_
  refine w_aload_n X dX2_init_23 rfl 0 rfl ?_
  refine w_iconst X dX2_init_24 ic_0 ?_
  refine w_put (k := 3) (fs' := [.ref q1, .int 0, .int 0, .int 0, .int 0, .int 0, .int 0, .int 0, .int 0, .int 0, .int 0, .null, .null, .int 0, .null, .null]) X fw2 hq0 flX2_22 rfl (by decide) rfl rfl rfl rfl dX2_init_25 ?_
  refine w_aload_n X dX2_init_28 rfl 0 rfl ?_
  refine w_iconst X dX2_init_29 ic_0 ?_
  refine w_put (k := 4) (fs' := [.ref q1, .int 0, .int 0, .int 0, .int 0, .int 0, .int 0, .int 0, .int 0, .int 0, .int 0, .null, .null, .int 0, .null, .null]) X fw2 hq0 flX2_25 rfl (by decide) rfl rfl rfl rfl dX2_init_30 ?_
  refine w_aload_n X dX2_init_33 rfl 0 rfl ?_
  refine w_iconst X dX2_init_34 ic_0 ?_
  refine w_put (k := 5) (fs' := [.ref q1, .int 0, .int 0, .int 0, .int 0, .int 0, .int 0, .int 0, .int 0, .int 0, .int 0, .null, .null, .int 0, .null, .null]) X fw2 hq0 flX2_28 rfl (by decide) rfl rfl rfl rfl dX2_init_35 ?_
  refine w_aload_n X dX2_init_38 rfl 0 rfl ?_
  refine w_iconst X dX2_init_39 ic_0 ?_
  refine w_put (k := 6) (fs' := [.ref q1, .int 0, .int 0, .int 0, .int 0, .int 0, .int 0, .int 0, .int 0, .int 0, .int 0, .null, .null, .int 0, .null, .null]) X fw2 hq0 flX2_31 rfl (by decide) rfl rfl rfl rfl dX2_init_40 ?_
  refine w_aload_n X dX2_init_43 rfl 0 rfl ?_
  refine w_iconst X dX2_init_44 ic_0 ?_
  refine w_put (k := 7) (fs' := [.ref q1, .int 0, .int 0, .int 0, .int 0, .int 0, .int 0, .int 0, .int 0, .int 0, .int 0, .null, .null, .int 0, .null, .null]) X fw2 hq0 flX2_34 rfl (by decide) rfl rfl rfl rfl dX2_init_45 ?_
  refine w_aload_n X dX2_init_48 rfl 0 rfl ?_
  refine w_iconst X dX2_init_49 ic_0 ?_
  refine w_put (k := 8) (fs' := [.ref q1, .int 0, .int 0, .int 0, .int 0, .int 0, .int 0, .int 0, .int 0, .int 0, .int 0, .null, .null, .int 0, .null, .null]) X fw2 hq0 flX2_37 rfl (by decide) rfl rfl rfl rfl dX2_init_50 ?_
  refine w_aload_n X dX2_init_53 rfl 0 rfl ?_
  refine w_iconst X dX2_init_54 ic_0 ?_
  refine w_put (k := 9) (fs' := [.ref q1, .int 0, .int 0, .int 0, .int 0, .int 0, .int 0, .int 0, .int 0, .int 0, .int 0, .null, .null, .int 0, .null, .null]) X fw2 hq0 flX2_40 rfl (by decide) rfl rfl rfl rfl dX2_init_55 ?_
  refine w_aload_n X dX2_init_58 rfl 0 rfl ?_
  refine w_iconst X dX2_init_59 ic_0 ?_
  refine w_put (k := 10) (fs' := [.ref q1, .int 0, .int 0, .int 0, .int 0, .int 0, .int 0, .int 0, .int 0, .int 0, .int 0, .null, .null, .int 0, .null, .null]) X fw2 hq0 flX2_43 rfl (by decide) rfl rfl rfl rfl dX2_init_60 ?_
  refine w_aload_n X dX2_init_63 rfl 0 rfl ?_
  refine w_iconst X dX2_init_64 ic_4 ?_
  refine w_newa (atype := .int) (N := 4) (t0 := 1) (ty := .int) (a0 := (4, .inl (fun _ => 0))) X hb ac_int rfl rfl (fun _ h => h) (fun _ => rfl) (by decide) (by decide) (Nat.le_of_ble_eq_true rfl) (Nat.le_of_ble_eq_true rfl) (Nat.le_of_ble_eq_true rfl) dX2_init_65 (fun q2 => ?_)
  refine w_cast (ws' := ws.set q0 (a, .inr (2, [.ref q1, .int 0, .int 0, .int 0, .int 0, .int 0, .int 0, .int 0, .int 0, .int 0, .int 0, .null, .null, .int 0, .null, .null])) ++ [(q1, .inl (G.2.1 6, 400, .inl (fun _ => 0))), (q2, .inl (G.2.1 6, 4, .inl (fun _ => 0)))]) (List.append_assoc _ _ _) ?_
  refine w_putF (k := 11) (fs' := [.ref q1, .int 0, .int 0, .int 0, .int 0, .int 0, .int 0, .int 0, .int 0, .int 0, .int 0, .ref q2, .null, .int 0, .null, .null]) X fw2 hq0 hm flX2_46 rfl rfl (by decide) rfl rfl rfl rfl dX2_init_67 ?_
  refine w_aload_n X dX2_init_70 rfl 0 rfl ?_
  refine w_iconst X dX2_init_71 ic_4 ?_
  refine w_newa (atype := .int) (N := 4) (t0 := 1) (ty := .int) (a0 := (4, .inl (fun _ => 0))) X hb ac_int rfl rfl (fun _ h => h) (fun _ => rfl) (by decide) (by decide) (Nat.le_of_ble_eq_true rfl) (Nat.le_of_ble_eq_true rfl) (Nat.le_of_ble_eq_true rfl) dX2_init_72 (fun q3 => ?_)
  refine w_cast (ws' := ws.set q0 (a, .inr (2, [.ref q1, .int 0, .int 0, .int 0, .int 0, .int 0, .int 0, .int 0, .int 0, .int 0, .int 0, .ref q2, .null, .int 0, .null, .null])) ++ [(q1, .inl (G.2.1 6, 400, .inl (fun _ => 0))), (q2, .inl (G.2.1 6, 4, .inl (fun _ => 0))), (q3, .inl (G.2.1 6, 4, .inl (fun _ => 0)))]) (List.append_assoc _ _ _) ?_
  refine w_putF (k := 12) (fs' := [.ref q1, .int 0, .int 0, .int 0, .int 0, .int 0, .int 0, .int 0, .int 0, .int 0, .int 0, .ref q2, .ref q3, .int 0, .null, .null]) X fw2 hq0 hm flX2_49 rfl rfl (by decide) rfl rfl rfl rfl dX2_init_74 ?_
  refine w_aload_n X dX2_init_77 rfl 0 rfl ?_
  refine w_iconst X dX2_init_78 ic_0 ?_
  refine w_put (k := 13) (fs' := [.ref q1, .int 0, .int 0, .int 0, .int 0, .int 0, .int 0, .int 0, .int 0, .int 0, .int 0, .ref q2, .ref q3, .int 0, .null, .null]) X fw2 hq0 flX2_52 rfl (by decide) rfl rfl rfl rfl dX2_init_79 ?_
  refine w_aload_n X dX2_init_82 rfl 0 rfl ?_
  refine w_sipush X dX2_init_83 sc_200 ?_
  refine w_newa (atype := .int) (N := 200) (t0 := 1) (ty := .int) (a0 := (200, .inl (fun _ => 0))) X hb ac_int rfl rfl (fun _ h => h) (fun _ => rfl) (by decide) (by decide) (Nat.le_of_ble_eq_true rfl) (Nat.le_of_ble_eq_true rfl) (Nat.le_of_ble_eq_true rfl) dX2_init_86 (fun q4 => ?_)
  refine w_cast (ws' := ws.set q0 (a, .inr (2, [.ref q1, .int 0, .int 0, .int 0, .int 0, .int 0, .int 0, .int 0, .int 0, .int 0, .int 0, .ref q2, .ref q3, .int 0, .null, .null])) ++ [(q1, .inl (G.2.1 6, 400, .inl (fun _ => 0))), (q2, .inl (G.2.1 6, 4, .inl (fun _ => 0))), (q3, .inl (G.2.1 6, 4, .inl (fun _ => 0))), (q4, .inl (G.2.1 6, 200, .inl (fun _ => 0)))]) (List.append_assoc _ _ _) ?_
  refine w_putF (k := 14) (fs' := [.ref q1, .int 0, .int 0, .int 0, .int 0, .int 0, .int 0, .int 0, .int 0, .int 0, .int 0, .ref q2, .ref q3, .int 0, .ref q4, .null]) X fw2 hq0 hm flX2_55 rfl rfl (by decide) rfl rfl rfl rfl dX2_init_88 ?_
  refine w_aload_n X dX2_init_91 rfl 0 rfl ?_
  refine w_sipush X dX2_init_92 sc_200 ?_
  refine w_newa (atype := .int) (N := 200) (t0 := 1) (ty := .int) (a0 := (200, .inl (fun _ => 0))) X hb ac_int rfl rfl (fun _ h => h) (fun _ => rfl) (by decide) (by decide) (Nat.le_of_ble_eq_true rfl) (Nat.le_of_ble_eq_true rfl) (Nat.le_of_ble_eq_true rfl) dX2_init_95 (fun q5 => ?_)
  refine w_cast (ws' := ws.set q0 (a, .inr (2, [.ref q1, .int 0, .int 0, .int 0, .int 0, .int 0, .int 0, .int 0, .int 0, .int 0, .int 0, .ref q2, .ref q3, .int 0, .ref q4, .null])) ++ [(q1, .inl (G.2.1 6, 400, .inl (fun _ => 0))), (q2, .inl (G.2.1 6, 4, .inl (fun _ => 0))), (q3, .inl (G.2.1 6, 4, .inl (fun _ => 0))), (q4, .inl (G.2.1 6, 200, .inl (fun _ => 0))), (q5, .inl (G.2.1 6, 200, .inl (fun _ => 0)))]) (List.append_assoc _ _ _) ?_
  refine w_putF (k := 15) (fs' := [.ref q1, .int 0, .int 0, .int 0, .int 0, .int 0, .int 0, .int 0, .int 0, .int 0, .int 0, .ref q2, .ref q3, .int 0, .ref q4, .ref q5]) X fw2 hq0 hm flX2_58 rfl rfl (by decide) rfl rfl rfl rfl dX2_init_97 ?_
  exact w_vret X ⟨q1, q2, q3, q4, q5, rfl⟩ dX2_init_100
def rm_X3_init : Room := { frames := 2, cells := 17, slots := 8838, locals := 40 }
set_option maxHeartbeats 4000000 in
set_option maxRecDepth 100000 in
theorem cX3_init_ok (l : Launch) {G : Gl} {ws : va_W} {q0 a : Nat} (hq : ws[q0]? = some (a, .inr (3, [.null, .null, .int 0, .int 0, .int 0, .int 0, .int 0, .int 0, .null, .null]))) : Kw l yX3_init cX3_init 1 rm_X3_init G True ws [.ref a] (fun ws' => ∃ q1 q2 q3 q4 q5 q6 q7 q8 q9 q10 q11 q12 q13 q14 q15 q16 q17 : Nat, ws' = ws.set q0 (a, .inr (3, [.ref q1, .ref q7, .int 0, .int 0, .int 1, .int 0, .int 0, .int (-1), .ref q8, .ref q13])) ++ [(q1, .inr (2, [.ref q2, .int 0, .int 0, .int 0, .int 0, .int 0, .int 0, .int 0, .int 0, .int 0, .int 0, .ref q3, .ref q4, .int 0, .ref q5, .ref q6])), (q2, .inl (G.2.1 6, 400, .inl (fun _ => 0))), (q3, .inl (G.2.1 6, 4, .inl (fun _ => 0))), (q4, .inl (G.2.1 6, 4, .inl (fun _ => 0))), (q5, .inl (G.2.1 6, 200, .inl (fun _ => 0))), (q6, .inl (G.2.1 6, 200, .inl (fun _ => 0))), (q7, .inl (G.2.1 8, 4, .inr (.inr (.inr (.inr (fun _ => none)))))), (q8, .inr (0, [.ref q9, .ref q10, .ref q11, .ref q12, .int 0])), (q9, .inl (G.2.1 6, 1000, .inl (fun _ => 0))), (q10, .inl (G.2.1 6, 1000, .inl (fun _ => 0))), (q11, .inl (G.2.1 6, 1000, .inl (fun _ => 0))), (q12, .inl (G.2.1 6, 1000, .inl (fun _ => 0))), (q13, .inr (0, [.ref q14, .ref q15, .ref q16, .ref q17, .int 0])), (q14, .inl (G.2.1 6, 1000, .inl (fun _ => 0))), (q15, .inl (G.2.1 6, 1000, .inl (fun _ => 0))), (q16, .inl (G.2.1 6, 1000, .inl (fun _ => 0))), (q17, .inl (G.2.1 6, 1000, .inl (fun _ => 0)))]) 17 8838 := by
  refine w_head (by decide) (Nat.le_of_ble_eq_true rfl) (fun p e s m below meth c X hb hE hm => ?_)
  have X : Cx p s m meth c G RX3 cX3_init 1 none := X
  have hm : meth.name = "<init>" := hm
  have hq0 : q0 < ws.length := (List.getElem?_eq_some_iff.mp hq).1
  refine w_cast (ws' := ws.set q0 (a, .inr (3, [.null, .null, .int 0, .int 0, .int 0, .int 0, .int 0, .int 0, .null, .null])) ++ []) (set_same hq) ?_
  refine w_aload_n X dX3_init_0 rfl 0 rfl ?_
  refine w_obj X olX3 oi_2 oi_3 (Nat.le_of_ble_eq_true rfl) (Nat.le_of_ble_eq_true rfl) (Nat.le_of_ble_eq_true rfl) dX3_init_1 ?_
  refine w_aload_n X dX3_init_4 rfl 0 rfl ?_
  refine w_new (fs := [.null, .int 0, .int 0, .int 0, .int 0, .int 0, .int 0, .int 0, .int 0, .int 0, .int 0, .null, .null, .int 0, .null, .null]) X hb fw2 clX3_7 in_2 iy_2 (fun j hj => by rcases (show j = 0 ∨ j = 1 ∨ j = 2 ∨ j = 3 ∨ j = 4 ∨ j = 5 ∨ j = 6 ∨ j = 7 ∨ j = 8 ∨ j = 9 ∨ j = 10 ∨ j = 11 ∨ j = 12 ∨ j = 13 ∨ j = 14 ∨ j = 15 by omega) with rfl | rfl | rfl | rfl | rfl | rfl | rfl | rfl | rfl | rfl | rfl | rfl | rfl | rfl | rfl | rfl <;> rfl) (Nat.le_of_ble_eq_true rfl) (Nat.le_of_ble_eq_true rfl) dX3_init_5 (fun q1 => ?_)
  refine w_cast (ws' := ws.set q0 (a, .inr (3, [.null, .null, .int 0, .int 0, .int 0, .int 0, .int 0, .int 0, .null, .null])) ++ [(q1, .inr (2, [.null, .int 0, .int 0, .int 0, .int 0, .int 0, .int 0, .int 0, .int 0, .int 0, .int 0, .null, .null, .int 0, .null, .null]))]) (List.append_assoc _ _ _) ?_
  refine w_dup X dX3_init_8 rfl ?_
  refine w_initN X hb (cX2_init_ok l (q0 := (ws.set q0 (a, .inr (3, [.null, .null, .int 0, .int 0, .int 0, .int 0, .int 0, .int 0, .null, .null]))).length + 0) (a := q1) (get_ex rfl)) (fun z => z.elim) miX2 nlX3_9 ⟨rfl, rfl⟩ ⟨Nat.le_of_ble_eq_true rfl, Nat.le_of_ble_eq_true rfl⟩ ⟨Nat.le_of_ble_eq_true rfl, Nat.le_of_ble_eq_true rfl⟩ (Nat.le_of_ble_eq_true rfl) dX3_init_9 (fun ws1 h1 => ?_)
  obtain ⟨q2, q3, q4, q5, q6, rfl⟩ := h1
  refine w_cast (ws' := ws.set q0 (a, .inr (3, [.null, .null, .int 0, .int 0, .int 0, .int 0, .int 0, .int 0, .null, .null])) ++ [(q1, .inr (2, [.ref q2, .int 0, .int 0, .int 0, .int 0, .int 0, .int 0, .int 0, .int 0, .int 0, .int 0, .ref q3, .ref q4, .int 0, .ref q5, .ref q6])), (q2, .inl (G.2.1 6, 400, .inl (fun _ => 0))), (q3, .inl (G.2.1 6, 4, .inl (fun _ => 0))), (q4, .inl (G.2.1 6, 4, .inl (fun _ => 0))), (q5, .inl (G.2.1 6, 200, .inl (fun _ => 0))), (q6, .inl (G.2.1 6, 200, .inl (fun _ => 0)))]) (by rw [set_ex, List.append_assoc]; rfl) ?_
  refine w_putF (k := 0) (fs' := [.ref q1, .null, .int 0, .int 0, .int 0, .int 0, .int 0, .int 0, .null, .null]) X fw3 hq0 hm flX3_10 rfl rfl (by decide) rfl rfl rfl rfl dX3_init_12 ?_
  refine w_aload_n X dX3_init_15 rfl 0 rfl ?_
  refine w_iconst X dX3_init_16 ic_4 ?_
  refine w_newq (N := 4) X hb clX3_16 (hE trivial) (by decide) (by decide) (Nat.le_of_ble_eq_true rfl) (Nat.le_of_ble_eq_true rfl) (Nat.le_of_ble_eq_true rfl) dX3_init_17 (fun q7 => ?_)
  refine w_cast (ws' := ws.set q0 (a, .inr (3, [.ref q1, .null, .int 0, .int 0, .int 0, .int 0, .int 0, .int 0, .null, .null])) ++ [(q1, .inr (2, [.ref q2, .int 0, .int 0, .int 0, .int 0, .int 0, .int 0, .int 0, .int 0, .int 0, .int 0, .ref q3, .ref q4, .int 0, .ref q5, .ref q6])), (q2, .inl (G.2.1 6, 400, .inl (fun _ => 0))), (q3, .inl (G.2.1 6, 4, .inl (fun _ => 0))), (q4, .inl (G.2.1 6, 4, .inl (fun _ => 0))), (q5, .inl (G.2.1 6, 200, .inl (fun _ => 0))), (q6, .inl (G.2.1 6, 200, .inl (fun _ => 0))), (q7, .inl (G.2.1 8, 4, .inr (.inr (.inr (.inr (fun _ => none))))))]) (List.append_assoc _ _ _) ?_
  refine w_putF (k := 1) (fs' := [.ref q1, .ref q7, .int 0, .int 0, .int 0, .int 0, .int 0, .int 0, .null, .null]) X fw3 hq0 hm flX3_18 rfl rfl (by decide) rfl rfl rfl rfl dX3_init_20 ?_
  refine w_aload_n X dX3_init_23 rfl 0 rfl ?_
  refine w_iconst X dX3_init_24 ic_0 ?_
  refine w_put (k := 2) (fs' := [.ref q1, .ref q7, .int 0, .int 0, .int 0, .int 0, .int 0, .int 0, .null, .null]) X fw3 hq0 flX3_22 rfl (by decide) rfl rfl rfl rfl dX3_init_25 ?_
  refine w_aload_n X dX3_init_28 rfl 0 rfl ?_
  refine w_iconst X dX3_init_29 ic_0 ?_
  refine w_put (k := 3) (fs' := [.ref q1, .ref q7, .int 0, .int 0, .int 0, .int 0, .int 0, .int 0, .null, .null]) X fw3 hq0 flX3_26 rfl (by decide) rfl rfl rfl rfl dX3_init_30 ?_
  refine w_aload_n X dX3_init_33 rfl 0 rfl ?_
  refine w_iconst X dX3_init_34 ic_1 ?_
  refine w_put (k := 4) (fs' := [.ref q1, .ref q7, .int 0, .int 0, .int 1, .int 0, .int 0, .int 0, .null, .null]) X fw3 hq0 flX3_29 rfl (by decide) rfl rfl rfl rfl dX3_init_35 ?_
  refine w_aload_n X dX3_init_38 rfl 0 rfl ?_
  refine w_iconst X dX3_init_39 ic_0 ?_
  refine w_put (k := 5) (fs' := [.ref q1, .ref q7, .int 0, .int 0, .int 1, .int 0, .int 0, .int 0, .null, .null]) X fw3 hq0 flX3_32 rfl (by decide) rfl rfl rfl rfl dX3_init_40 ?_
  refine w_aload_n X dX3_init_43 rfl 0 rfl ?_
  refine w_iconst X dX3_init_44 ic_0 ?_
  refine w_put (k := 6) (fs' := [.ref q1, .ref q7, .int 0, .int 0, .int 1, .int 0, .int 0, .int 0, .null, .null]) X fw3 hq0 flX3_35 rfl (by decide) rfl rfl rfl rfl dX3_init_45 ?_
  refine w_aload_n X dX3_init_48 rfl 0 rfl ?_
  refine w_iconst X dX3_init_49 ic_m1 ?_
  refine w_put (k := 7) (fs' := [.ref q1, .ref q7, .int 0, .int 0, .int 1, .int 0, .int 0, .int (-1), .null, .null]) X fw3 hq0 flX3_38 rfl (by decide) rfl rfl rfl rfl dX3_init_50 ?_
  refine w_aload_n X dX3_init_53 rfl 0 rfl ?_
  refine w_new (fs := [.null, .null, .null, .null, .int 0]) X hb fw0 clX3_41 in_0 iy_0 (fun j hj => by rcases (show j = 0 ∨ j = 1 ∨ j = 2 ∨ j = 3 ∨ j = 4 by omega) with rfl | rfl | rfl | rfl | rfl <;> rfl) (Nat.le_of_ble_eq_true rfl) (Nat.le_of_ble_eq_true rfl) dX3_init_54 (fun q8 => ?_)
  refine w_cast (ws' := ws.set q0 (a, .inr (3, [.ref q1, .ref q7, .int 0, .int 0, .int 1, .int 0, .int 0, .int (-1), .null, .null])) ++ [(q1, .inr (2, [.ref q2, .int 0, .int 0, .int 0, .int 0, .int 0, .int 0, .int 0, .int 0, .int 0, .int 0, .ref q3, .ref q4, .int 0, .ref q5, .ref q6])), (q2, .inl (G.2.1 6, 400, .inl (fun _ => 0))), (q3, .inl (G.2.1 6, 4, .inl (fun _ => 0))), (q4, .inl (G.2.1 6, 4, .inl (fun _ => 0))), (q5, .inl (G.2.1 6, 200, .inl (fun _ => 0))), (q6, .inl (G.2.1 6, 200, .inl (fun _ => 0))), (q7, .inl (G.2.1 8, 4, .inr (.inr (.inr (.inr (fun _ => none)))))), (q8, .inr (0, [.null, .null, .null, .null, .int 0]))]) (List.append_assoc _ _ _) ?_
  refine w_dup X dX3_init_57 rfl ?_
  refine w_initN X hb (cX0_init_ok l (q0 := (ws.set q0 (a, .inr (3, [.ref q1, .ref q7, .int 0, .int 0, .int 1, .int 0, .int 0, .int (-1), .null, .null]))).length + 7) (a := q8) (get_ex rfl)) (fun z => z.elim) miX0 nlX3_43 ⟨rfl, rfl⟩ ⟨Nat.le_of_ble_eq_true rfl, Nat.le_of_ble_eq_true rfl⟩ ⟨Nat.le_of_ble_eq_true rfl, Nat.le_of_ble_eq_true rfl⟩ (Nat.le_of_ble_eq_true rfl) dX3_init_58 (fun ws1 h1 => ?_)
  obtain ⟨q9, q10, q11, q12, rfl⟩ := h1
  refine w_cast (ws' := ws.set q0 (a, .inr (3, [.ref q1, .ref q7, .int 0, .int 0, .int 1, .int 0, .int 0, .int (-1), .null, .null])) ++ [(q1, .inr (2, [.ref q2, .int 0, .int 0, .int 0, .int 0, .int 0, .int 0, .int 0, .int 0, .int 0, .int 0, .ref q3, .ref q4, .int 0, .ref q5, .ref q6])), (q2, .inl (G.2.1 6, 400, .inl (fun _ => 0))), (q3, .inl (G.2.1 6, 4, .inl (fun _ => 0))), (q4, .inl (G.2.1 6, 4, .inl (fun _ => 0))), (q5, .inl (G.2.1 6, 200, .inl (fun _ => 0))), (q6, .inl (G.2.1 6, 200, .inl (fun _ => 0))), (q7, .inl (G.2.1 8, 4, .inr (.inr (.inr (.inr (fun _ => none)))))), (q8, .inr (0, [.ref q9, .ref q10, .ref q11, .ref q12, .int 0])), (q9, .inl (G.2.1 6, 1000, .inl (fun _ => 0))), (q10, .inl (G.2.1 6, 1000, .inl (fun _ => 0))), (q11, .inl (G.2.1 6, 1000, .inl (fun _ => 0))), (q12, .inl (G.2.1 6, 1000, .inl (fun _ => 0)))]) (by rw [set_ex, List.append_assoc]; rfl) ?_
  refine w_putF (k := 8) (fs' := [.ref q1, .ref q7, .int 0, .int 0, .int 1, .int 0, .int 0, .int (-1), .ref q8, .null]) X fw3 hq0 hm flX3_44 rfl rfl (by decide) rfl rfl rfl rfl dX3_init_61 ?_
  refine w_aload_n X dX3_init_64 rfl 0 rfl ?_
  refine w_new (fs := [.null, .null, .null, .null, .int 0]) X hb fw0 clX3_41 in_0 iy_0 (fun j hj => by rcases (show j = 0 ∨ j = 1 ∨ j = 2 ∨ j = 3 ∨ j = 4 by omega) with rfl | rfl | rfl | rfl | rfl <;> rfl) (Nat.le_of_ble_eq_true rfl) (Nat.le_of_ble_eq_true rfl) dX3_init_65 (fun q13 => ?_)
  refine w_cast (ws' := ws.set q0 (a, .inr (3, [.ref q1, .ref q7, .int 0, .int 0, .int 1, .int 0, .int 0, .int (-1), .ref q8, .null])) ++ [(q1, .inr (2, [.ref q2, .int 0, .int 0, .int 0, .int 0, .int 0, .int 0, .int 0, .int 0, .int 0, .int 0, .ref q3, .ref q4, .int 0, .ref q5, .ref q6])), (q2, .inl (G.2.1 6, 400, .inl (fun _ => 0))), (q3, .inl (G.2.1 6, 4, .inl (fun _ => 0))), (q4, .inl (G.2.1 6, 4, .inl (fun _ => 0))), (q5, .inl (G.2.1 6, 200, .inl (fun _ => 0))), (q6, .inl (G.2.1 6, 200, .inl (fun _ => 0))), (q7, .inl (G.2.1 8, 4, .inr (.inr (.inr (.inr (fun _ => none)))))), (q8, .inr (0, [.ref q9, .ref q10, .ref q11, .ref q12, .int 0])), (q9, .inl (G.2.1 6, 1000, .inl (fun _ => 0))), (q10, .inl (G.2.1 6, 1000, .inl (fun _ => 0))), (q11, .inl (G.2.1 6, 1000, .inl (fun _ => 0))), (q12, .inl (G.2.1 6, 1000, .inl (fun _ => 0))), (q13, .inr (0, [.null, .null, .null, .null, .int 0]))]) (List.append_assoc _ _ _) ?_
  refine w_dup X dX3_init_68 rfl ?_
  refine w_initN X hb (cX0_init_ok l (q0 := (ws.set q0 (a, .inr (3, [.ref q1, .ref q7, .int 0, .int 0, .int 1, .int 0, .int 0, .int (-1), .ref q8, .null]))).length + 12) (a := q13) (get_ex rfl)) (fun z => z.elim) miX0 nlX3_43 ⟨rfl, rfl⟩ ⟨Nat.le_of_ble_eq_true rfl, Nat.le_of_ble_eq_true rfl⟩ ⟨Nat.le_of_ble_eq_true rfl, Nat.le_of_ble_eq_true rfl⟩ (Nat.le_of_ble_eq_true rfl) dX3_init_69 (fun ws1 h1 => ?_)
  obtain ⟨q14, q15, q16, q17, rfl⟩ := h1
  refine w_cast (ws' := ws.set q0 (a, .inr (3, [.ref q1, .ref q7, .int 0, .int 0, .int 1, .int 0, .int 0, .int (-1), .ref q8, .null])) ++ [(q1, .inr (2, [.ref q2, .int 0, .int 0, .int 0, .int 0, .int 0, .int 0, .int 0, .int 0, .int 0, .int 0, .ref q3, .ref q4, .int 0, .ref q5, .ref q6])), (q2, .inl (G.2.1 6, 400, .inl (fun _ => 0))), (q3, .inl (G.2.1 6, 4, .inl (fun _ => 0))), (q4, .inl (G.2.1 6, 4, .inl (fun _ => 0))), (q5, .inl (G.2.1 6, 200, .inl (fun _ => 0))), (q6, .inl (G.2.1 6, 200, .inl (fun _ => 0))), (q7, .inl (G.2.1 8, 4, .inr (.inr (.inr (.inr (fun _ => none)))))), (q8, .inr (0, [.ref q9, .ref q10, .ref q11, .ref q12, .int 0])), (q9, .inl (G.2.1 6, 1000, .inl (fun _ => 0))), (q10, .inl (G.2.1 6, 1000, .inl (fun _ => 0))), (q11, .inl (G.2.1 6, 1000, .inl (fun _ => 0))), (q12, .inl (G.2.1 6, 1000, .inl (fun _ => 0))), (q13, .inr (0, [.ref q14, .ref q15, .ref q16, .ref q17, .int 0])), (q14, .inl (G.2.1 6, 1000, .inl (fun _ => 0))), (q15, .inl (G.2.1 6, 1000, .inl (fun _ => 0))), (q16, .inl (G.2.1 6, 1000, .inl (fun _ => 0))), (q17, .inl (G.2.1 6, 1000, .inl (fun _ => 0)))]) (by rw [set_ex, List.append_assoc]; rfl) ?_
  refine w_putF (k := 9) (fs' := [.ref q1, .ref q7, .int 0, .int 0, .int 1, .int 0, .int 0, .int (-1), .ref q8, .ref q13]) X fw3 hq0 hm flX3_48 rfl rfl (by decide) rfl rfl rfl rfl dX3_init_72 ?_
  exact w_vret X ⟨q1, q2, q3, q4, q5, q6, q7, q8, q9, q10, q11, q12, q13, q14, q15, q16, q17, rfl⟩ dX3_init_75
def rm_X4_init : Room := { frames := 1, cells := 14, slots := 23232, locals := 20 }
set_option maxHeartbeats 4000000 in
set_option maxRecDepth 100000 in
theorem cX4_init_ok (l : Launch) {G : Gl} {ws : va_W} {q0 a : Nat} (hq : ws[q0]? = some (a, .inr (4, [.int 0, .int 0, .int 0, .null, .int 0, .int 0, .int 0, .int 0, .int 0, .int 0, .int 0, .long 0, .null, .null, .null, .null, .int 0, .int 0, .int 0, .null, .null, .null, .null, .null, .null, .null, .null, .null, .int 0, .int 0, .int 0, .int 0]))) : Kw l yX4_init cX4_init 1 rm_X4_init G False ws [.ref a] (fun ws' => ∃ q1 q2 q3 q4 q5 q6 q7 q8 q9 q10 q11 q12 q13 q14 : Nat, ws' = ws.set q0 (a, .inr (4, [.int 0, .int 0, .int (-1), .ref q1, .int 0, .int 0, .int 0, .int 0, .int 0, .int 0, .int 0, .long 0, .ref q2, .ref q3, .ref q4, .ref q5, .int 0, .int 0, .int 0, .ref q6, .ref q7, .ref q8, .ref q9, .ref q10, .ref q11, .ref q12, .ref q13, .ref q14, .int 0, .int 0, .int 1, .int 0])) ++ [(q1, .inl (G.2.1 5, 400, .inl (fun _ => 0))), (q2, .inl (G.2.1 7, 4, .inr (.inl (fun _ => 0)))), (q3, .inl (G.2.1 6, 4, .inl (fun _ => 0))), (q4, .inl (G.2.1 6, 400, .inl (fun _ => 0))), (q5, .inl (G.2.1 6, 400, .inl (fun _ => 0))), (q6, .inl (G.2.1 6, 6000, .inl (fun _ => 0))), (q7, .inl (G.2.1 6, 6000, .inl (fun _ => 0))), (q8, .inl (G.2.1 6, 6000, .inl (fun _ => 0))), (q9, .inl (G.2.1 6, 6, .inl (fun _ => 0))), (q10, .inl (G.2.1 6, 6, .inl (fun _ => 0))), (q11, .inl (G.2.1 6, 4, .inl (fun _ => 0))), (q12, .inl (G.2.1 6, 4, .inl (fun _ => 0))), (q13, .inl (G.2.1 6, 4, .inl (fun _ => 0))), (q14, .inl (G.2.1 6, 4000, .inl (fun _ => 0)))]) 14 23232 := by
  refine w_head (by decide) (Nat.le_of_ble_eq_true rfl) (fun p e s m below meth c X hb hE hm => ?_)
  have X : Cx p s m meth c G RX4 cX4_init 1 none := X
  have hm : meth.name = "<init>" := hm
  have hq0 : q0 < ws.length := (List.getElem?_eq_some_iff.mp hq).1
  refine w_cast (ws' := ws.set q0 (a, .inr (4, [.int 0, .int 0, .int 0, .null, .int 0, .int 0, .int 0, .int 0, .int 0, .int 0, .int 0, .long 0, .null, .null, .null, .null, .int 0, .int 0, .int 0, .null, .null, .null, .null, .null, .null, .null, .null, .null, .int 0, .int 0, .int 0, .int 0])) ++ []) (set_same hq) ?_
  refine w_aload_n X dX4_init_0 rfl 0 rfl ?_
  refine w_obj X olX4 oi_2 oi_3 (Nat.le_of_ble_eq_true rfl) (Nat.le_of_ble_eq_true rfl) (Nat.le_of_ble_eq_true rfl) dX4_init_1 ?_
  refine w_aload_n X dX4_init_4 rfl 0 rfl ?_
  refine w_iconst X dX4_init_5 ic_m1 ?_
  refine w_put (k := 2) (fs' := [.int 0, .int 0, .int (-1), .null, .int 0, .int 0, .int 0, .int 0, .int 0, .int 0, .int 0, .long 0, .null, .null, .null, .null, .int 0, .int 0, .int 0, .null, .null, .null, .null, .null, .null, .null, .null, .null, .int 0, .int 0, .int 0, .int 0]) X fw4 hq0 flX4_9 rfl (by decide) rfl rfl rfl rfl dX4_init_6 ?_
  refine w_aload_n X dX4_init_9 rfl 0 rfl ?_
  refine w_sipush X dX4_init_10 sc_400 ?_
  refine w_newa (atype := .byte) (N := 400) (t0 := 0) (ty := .byte) (a0 := (400, .inl (fun _ => 0))) X hb ac_byte rfl rfl (fun _ h => h) (fun _ => rfl) (by decide) (by decide) (Nat.le_of_ble_eq_true rfl) (Nat.le_of_ble_eq_true rfl) (Nat.le_of_ble_eq_true rfl) dX4_init_13 (fun q1 => ?_)
  refine w_cast (ws' := ws.set q0 (a, .inr (4, [.int 0, .int 0, .int (-1), .null, .int 0, .int 0, .int 0, .int 0, .int 0, .int 0, .int 0, .long 0, .null, .null, .null, .null, .int 0, .int 0, .int 0, .null, .null, .null, .null, .null, .null, .null, .null, .null, .int 0, .int 0, .int 0, .int 0])) ++ [(q1, .inl (G.2.1 5, 400, .inl (fun _ => 0)))]) (List.append_assoc _ _ _) ?_
  refine w_putF (k := 3) (fs' := [.int 0, .int 0, .int (-1), .ref q1, .int 0, .int 0, .int 0, .int 0, .int 0, .int 0, .int 0, .long 0, .null, .null, .null, .null, .int 0, .int 0, .int 0, .null, .null, .null, .null, .null, .null, .null, .null, .null, .int 0, .int 0, .int 0, .int 0]) X fw4 hq0 hm flX4_13 rfl rfl (by decide) rfl rfl rfl rfl dX4_init_15 ?_
  refine w_aload_n X dX4_init_18 rfl 0 rfl ?_
  refine w_iconst X dX4_init_19 ic_4 ?_
  refine w_newa (atype := .long) (N := 4) (t0 := 2) (ty := .long) (a0 := (4, .inr (.inl (fun _ => 0)))) X hb ac_long rfl rfl (fun _ h => h) (fun _ => rfl) (by decide) (by decide) (Nat.le_of_ble_eq_true rfl) (Nat.le_of_ble_eq_true rfl) (Nat.le_of_ble_eq_true rfl) dX4_init_20 (fun q2 => ?_)
  refine w_cast (ws' := ws.set q0 (a, .inr (4, [.int 0, .int 0, .int (-1), .ref q1, .int 0, .int 0, .int 0, .int 0, .int 0, .int 0, .int 0, .long 0, .null, .null, .null, .null, .int 0, .int 0, .int 0, .null, .null, .null, .null, .null, .null, .null, .null, .null, .int 0, .int 0, .int 0, .int 0])) ++ [(q1, .inl (G.2.1 5, 400, .inl (fun _ => 0))), (q2, .inl (G.2.1 7, 4, .inr (.inl (fun _ => 0))))]) (List.append_assoc _ _ _) ?_
  refine w_putF (k := 12) (fs' := [.int 0, .int 0, .int (-1), .ref q1, .int 0, .int 0, .int 0, .int 0, .int 0, .int 0, .int 0, .long 0, .ref q2, .null, .null, .null, .int 0, .int 0, .int 0, .null, .null, .null, .null, .null, .null, .null, .null, .null, .int 0, .int 0, .int 0, .int 0]) X fw4 hq0 hm flX4_17 rfl rfl (by decide) rfl rfl rfl rfl dX4_init_22 ?_
  refine w_aload_n X dX4_init_25 rfl 0 rfl ?_
  refine w_iconst X dX4_init_26 ic_4 ?_
  refine w_newa (atype := .int) (N := 4) (t0 := 1) (ty := .int) (a0 := (4, .inl (fun _ => 0))) X hb ac_int rfl rfl (fun _ h => h) (fun _ => rfl) (by decide) (by decide) (Nat.le_of_ble_eq_true rfl) (Nat.le_of_ble_eq_true rfl) (Nat.le_of_ble_eq_true rfl) dX4_init_27 (fun q3 => ?_)
  refine w_cast (ws' := ws.set q0 (a, .inr (4, [.int 0, .int 0, .int (-1), .ref q1, .int 0, .int 0, .int 0, .int 0, .int 0, .int 0, .int 0, .long 0, .ref q2, .null, .null, .null, .int 0, .int 0, .int 0, .null, .null, .null, .null, .null, .null, .null, .null, .null, .int 0, .int 0, .int 0, .int 0])) ++ [(q1, .inl (G.2.1 5, 400, .inl (fun _ => 0))), (q2, .inl (G.2.1 7, 4, .inr (.inl (fun _ => 0)))), (q3, .inl (G.2.1 6, 4, .inl (fun _ => 0)))]) (List.append_assoc _ _ _) ?_
  refine w_putF (k := 13) (fs' := [.int 0, .int 0, .int (-1), .ref q1, .int 0, .int 0, .int 0, .int 0, .int 0, .int 0, .int 0, .long 0, .ref q2, .ref q3, .null, .null, .int 0, .int 0, .int 0, .null, .null, .null, .null, .null, .null, .null, .null, .null, .int 0, .int 0, .int 0, .int 0]) X fw4 hq0 hm flX4_21 rfl rfl (by decide) rfl rfl rfl rfl dX4_init_29 ?_
  refine w_aload_n X dX4_init_32 rfl 0 rfl ?_
  refine w_sipush X dX4_init_33 sc_400 ?_
  refine w_newa (atype := .int) (N := 400) (t0 := 1) (ty := .int) (a0 := (400, .inl (fun _ => 0))) X hb ac_int rfl rfl (fun _ h => h) (fun _ => rfl) (by decide) (by decide) (Nat.le_of_ble_eq_true rfl) (Nat.le_of_ble_eq_true rfl) (Nat.le_of_ble_eq_true rfl) dX4_init_36 (fun q4 => ?_)
  refine w_cast (ws' := ws.set q0 (a, .inr (4, [.int 0, .int 0, .int (-1), .ref q1, .int 0, .int 0, .int 0, .int 0, .int 0, .int 0, .int 0, .long 0, .ref q2, .ref q3, .null, .null, .int 0, .int 0, .int 0, .null, .null, .null, .null, .null, .null, .null, .null, .null, .int 0, .int 0, .int 0, .int 0])) ++ [(q1, .inl (G.2.1 5, 400, .inl (fun _ => 0))), (q2, .inl (G.2.1 7, 4, .inr (.inl (fun _ => 0)))), (q3, .inl (G.2.1 6, 4, .inl (fun _ => 0))), (q4, .inl (G.2.1 6, 400, .inl (fun _ => 0)))]) (List.append_assoc _ _ _) ?_
  refine w_putF (k := 14) (fs' := [.int 0, .int 0, .int (-1), .ref q1, .int 0, .int 0, .int 0, .int 0, .int 0, .int 0, .int 0, .long 0, .ref q2, .ref q3, .ref q4, .null, .int 0, .int 0, .int 0, .null, .null, .null, .null, .null, .null, .null, .null, .null, .int 0, .int 0, .int 0, .int 0]) X fw4 hq0 hm flX4_25 rfl rfl (by decide) rfl rfl rfl rfl dX4_init_38 ?_
  refine w_aload_n X dX4_init_41 rfl 0 rfl ?_
  refine w_sipush X dX4_init_42 sc_400 ?_
  refine w_newa (atype := .int) (N := 400) (t0 := 1) (ty := .int) (a0 := (400, .inl (fun _ => 0))) X hb ac_int rfl rfl (fun _ h => h) (fun _ => rfl) (by decide) (by decide) (Nat.le_of_ble_eq_true rfl) (Nat.le_of_ble_eq_true rfl) (Nat.le_of_ble_eq_true rfl) dX4_init_45 (fun q5 => ?_)
  refine w_cast (ws' := ws.set q0 (a, .inr (4, [.int 0, .int 0, .int (-1), .ref q1, .int 0, .int 0, .int 0, .int 0, .int 0, .int 0, .int 0, .long 0, .ref q2, .ref q3, .ref q4, .null, .int 0, .int 0, .int 0, .null, .null, .null, .null, .null, .null, .null, .null, .null, .int 0, .int 0, .int 0, .int 0])) ++ [(q1, .inl (G.2.1 5, 400, .inl (fun _ => 0))), (q2, .inl (G.2.1 7, 4, .inr (.inl (fun _ => 0)))), (q3, .inl (G.2.1 6, 4, .inl (fun _ => 0))), (q4, .inl (G.2.1 6, 400, .inl (fun _ => 0))), (q5, .inl (G.2.1 6, 400, .inl (fun _ => 0)))]) (List.append_assoc _ _ _) ?_
  refine w_putF (k := 15) (fs' := [.int 0, .int 0, .int (-1), .ref q1, .int 0, .int 0, .int 0, .int 0, .int 0, .int 0, .int 0, .long 0, .ref q2, .ref q3, .ref q4, .ref q5, .int 0, .int 0, .int 0, .null, .null, .null, .null, .null, .null, .null, .null, .null, .int 0, .int 0, .int 0, .int 0]) X fw4 hq0 hm flX4_28 rfl rfl (by decide) rfl rfl rfl rfl dX4_init_47 ?_
  refine w_aload_n X dX4_init_50 rfl 0 rfl ?_
  refine w_sipush X dX4_init_51 sc_6000 ?_
  refine w_newa (atype := .int) (N := 6000) (t0 := 1) (ty := .int) (a0 := (6000, .inl (fun _ => 0))) X hb ac_int rfl rfl (fun _ h => h) (fun _ => rfl) (by decide) (by decide) (Nat.le_of_ble_eq_true rfl) (Nat.le_of_ble_eq_true rfl) (Nat.le_of_ble_eq_true rfl) dX4_init_54 (fun q6 => ?_)
  refine w_cast (ws' := ws.set q0 (a, .inr (4, [.int 0, .int 0, .int (-1), .ref q1, .int 0, .int 0, .int 0, .int 0, .int 0, .int 0, .int 0, .long 0, .ref q2, .ref q3, .ref q4, .ref q5, .int 0, .int 0, .int 0, .null, .null, .null, .null, .null, .null, .null, .null, .null, .int 0, .int 0, .int 0, .int 0])) ++ [(q1, .inl (G.2.1 5, 400, .inl (fun _ => 0))), (q2, .inl (G.2.1 7, 4, .inr (.inl (fun _ => 0)))), (q3, .inl (G.2.1 6, 4, .inl (fun _ => 0))), (q4, .inl (G.2.1 6, 400, .inl (fun _ => 0))), (q5, .inl (G.2.1 6, 400, .inl (fun _ => 0))), (q6, .inl (G.2.1 6, 6000, .inl (fun _ => 0)))]) (List.append_assoc _ _ _) ?_
  refine w_putF (k := 19) (fs' := [.int 0, .int 0, .int (-1), .ref q1, .int 0, .int 0, .int 0, .int 0, .int 0, .int 0, .int 0, .long 0, .ref q2, .ref q3, .ref q4, .ref q5, .int 0, .int 0, .int 0, .ref q6, .null, .null, .null, .null, .null, .null, .null, .null, .int 0, .int 0, .int 0, .int 0]) X fw4 hq0 hm flX4_31 rfl rfl (by decide) rfl rfl rfl rfl dX4_init_56 ?_
  refine w_aload_n X dX4_init_59 rfl 0 rfl ?_
  refine w_sipush X dX4_init_60 sc_6000 ?_
  refine w_newa (atype := .int) (N := 6000) (t0 := 1) (ty := .int) (a0 := (6000, .inl (fun _ => 0))) X hb ac_int rfl rfl (fun _ h => h) (fun _ => rfl) (by decide) (by decide) (Nat.le_of_ble_eq_true rfl) (Nat.le_of_ble_eq_true rfl) (Nat.le_of_ble_eq_true rfl) dX4_init_63 (fun q7 => ?_)
  refine w_cast (ws' := ws.set q0 (a, .inr (4, [.int 0, .int 0, .int (-1), .ref q1, .int 0, .int 0, .int 0, .int 0, .int 0, .int 0, .int 0, .long 0, .ref q2, .ref q3, .ref q4, .ref q5, .int 0, .int 0, .int 0, .ref q6, .null, .null, .null, .null, .null, .null, .null, .null, .int 0, .int 0, .int 0, .int 0])) ++ [(q1, .inl (G.2.1 5, 400, .inl (fun _ => 0))), (q2, .inl (G.2.1 7, 4, .inr (.inl (fun _ => 0)))), (q3, .inl (G.2.1 6, 4, .inl (fun _ => 0))), (q4, .inl (G.2.1 6, 400, .inl (fun _ => 0))), (q5, .inl (G.2.1 6, 400, .inl (fun _ => 0))), (q6, .inl (G.2.1 6, 6000, .inl (fun _ => 0))), (q7, .inl (G.2.1 6, 6000, .inl (fun _ => 0)))]) (List.append_assoc _ _ _) ?_
  refine w_putF (k := 20) (fs' := [.int 0, .int 0, .int (-1), .ref q1, .int 0, .int 0, .int 0, .int 0, .int 0, .int 0, .int 0, .long 0, .ref q2, .ref q3, .ref q4, .ref q5, .int 0, .int 0, .int 0, .ref q6, .ref q7, .null, .null, .null, .null, .null, .null, .null, .int 0, .int 0, .int 0, .int 0]) X fw4 hq0 hm flX4_34 rfl rfl (by decide) rfl rfl rfl rfl dX4_init_65 ?_
  refine w_aload_n X dX4_init_68 rfl 0 rfl ?_
  refine w_sipush X dX4_init_69 sc_6000 ?_
  refine w_newa (atype := .int) (N := 6000) (t0 := 1) (ty := .int) (a0 := (6000, .inl (fun _ => 0))) X hb ac_int rfl rfl (fun _ h => h) (fun _ => rfl) (by decide) (by decide) (Nat.le_of_ble_eq_true rfl) (Nat.le_of_ble_eq_true rfl) (Nat.le_of_ble_eq_true rfl) dX4_init_72 (fun q8 => ?_)
  refine w_cast (ws' := ws.set q0 (a, .inr (4, [.int 0, .int 0, .int (-1), .ref q1, .int 0, .int 0, .int 0, .int 0, .int 0, .int 0, .int 0, .long 0, .ref q2, .ref q3, .ref q4, .ref q5, .int 0, .int 0, .int 0, .ref q6, .ref q7, .null, .null, .null, .null, .null, .null, .null, .int 0, .int 0, .int 0, .int 0])) ++ [(q1, .inl (G.2.1 5, 400, .inl (fun _ => 0))), (q2, .inl (G.2.1 7, 4, .inr (.inl (fun _ => 0)))), (q3, .inl (G.2.1 6, 4, .inl (fun _ => 0))), (q4, .inl (G.2.1 6, 400, .inl (fun _ => 0))), (q5, .inl (G.2.1 6, 400, .inl (fun _ => 0))), (q6, .inl (G.2.1 6, 6000, .inl (fun _ => 0))), (q7, .inl (G.2.1 6, 6000, .inl (fun _ => 0))), (q8, .inl (G.2.1 6, 6000, .inl (fun _ => 0)))]) (List.append_assoc _ _ _) ?_
  refine w_putF (k := 21) (fs' := [.int 0, .int 0, .int (-1), .ref q1, .int 0, .int 0, .int 0, .int 0, .int 0, .int 0, .int 0, .long 0, .ref q2, .ref q3, .ref q4, .ref q5, .int 0, .int 0, .int 0, .ref q6, .ref q7, .ref q8, .null, .null, .null, .null, .null, .null, .int 0, .int 0, .int 0, .int 0]) X fw4 hq0 hm flX4_37 rfl rfl (by decide) rfl rfl rfl rfl dX4_init_74 ?_
  refine w_aload_n X dX4_init_77 rfl 0 rfl ?_
  refine w_bipush X dX4_init_78 bc_6 ?_
  refine w_newa (atype := .int) (N := 6) (t0 := 1) (ty := .int) (a0 := (6, .inl (fun _ => 0))) X hb ac_int rfl rfl (fun _ h => h) (fun _ => rfl) (by decide) (by decide) (Nat.le_of_ble_eq_true rfl) (Nat.le_of_ble_eq_true rfl) (Nat.le_of_ble_eq_true rfl) dX4_init_80 (fun q9 => ?_)
  refine w_cast (ws' := ws.set q0 (a, .inr (4, [.int 0, .int 0, .int (-1), .ref q1, .int 0, .int 0, .int 0, .int 0, .int 0, .int 0, .int 0, .long 0, .ref q2, .ref q3, .ref q4, .ref q5, .int 0, .int 0, .int 0, .ref q6, .ref q7, .ref q8, .null, .null, .null, .null, .null, .null, .int 0, .int 0, .int 0, .int 0])) ++ [(q1, .inl (G.2.1 5, 400, .inl (fun _ => 0))), (q2, .inl (G.2.1 7, 4, .inr (.inl (fun _ => 0)))), (q3, .inl (G.2.1 6, 4, .inl (fun _ => 0))), (q4, .inl (G.2.1 6, 400, .inl (fun _ => 0))), (q5, .inl (G.2.1 6, 400, .inl (fun _ => 0))), (q6, .inl (G.2.1 6, 6000, .inl (fun _ => 0))), (q7, .inl (G.2.1 6, 6000, .inl (fun _ => 0))), (q8, .inl (G.2.1 6, 6000, .inl (fun _ => 0))), (q9, .inl (G.2.1 6, 6, .inl (fun _ => 0)))]) (List.append_assoc _ _ _) ?_
  refine w_putF (k := 22) (fs' := [.int 0, .int 0, .int (-1), .ref q1, .int 0, .int 0, .int 0, .int 0, .int 0, .int 0, .int 0, .long 0, .ref q2, .ref q3, .ref q4, .ref q5, .int 0, .int 0, .int 0, .ref q6, .ref q7, .ref q8, .ref q9, .null, .null, .null, .null, .null, .int 0, .int 0, .int 0, .int 0]) X fw4 hq0 hm flX4_40 rfl rfl (by decide) rfl rfl rfl rfl dX4_init_82 ?_
  refine w_aload_n X dX4_init_85 rfl 0 rfl ?_
  refine w_bipush X dX4_init_86 bc_6 ?_
  refine w_newa (atype := .int) (N := 6) (t0 := 1) (ty := .int) (a0 := (6, .inl (fun _ => 0))) X hb ac_int rfl rfl (fun _ h => h) (fun _ => rfl) (by decide) (by decide) (Nat.le_of_ble_eq_true rfl) (Nat.le_of_ble_eq_true rfl) (Nat.le_of_ble_eq_true rfl) dX4_init_88 (fun q10 => ?_)
  refine w_cast (ws' := ws.set q0 (a, .inr (4, [.int 0, .int 0, .int (-1), .ref q1, .int 0, .int 0, .int 0, .int 0, .int 0, .int 0, .int 0, .long 0, .ref q2, .ref q3, .ref q4, .ref q5, .int 0, .int 0, .int 0, .ref q6, .ref q7, .ref q8, .ref q9, .null, .null, .null, .null, .null, .int 0, .int 0, .int 0, .int 0])) ++ [(q1, .inl (G.2.1 5, 400, .inl (fun _ => 0))), (q2, .inl (G.2.1 7, 4, .inr (.inl (fun _ => 0)))), (q3, .inl (G.2.1 6, 4, .inl (fun _ => 0))), (q4, .inl (G.2.1 6, 400, .inl (fun _ => 0))), (q5, .inl (G.2.1 6, 400, .inl (fun _ => 0))), (q6, .inl (G.2.1 6, 6000, .inl (fun _ => 0))), (q7, .inl (G.2.1 6, 6000, .inl (fun _ => 0))), (q8, .inl (G.2.1 6, 6000, .inl (fun _ => 0))), (q9, .inl (G.2.1 6, 6, .inl (fun _ => 0))), (q10, .inl (G.2.1 6, 6, .inl (fun _ => 0)))]) (List.append_assoc _ _ _) ?_
  refine w_putF (k := 23) (fs' := [.int 0, .int 0, .int (-1), .ref q1, .int 0, .int 0, .int 0, .int 0, .int 0, .int 0, .int 0, .long 0, .ref q2, .ref q3, .ref q4, .ref q5, .int 0, .int 0, .int 0, .ref q6, .ref q7, .ref q8, .ref q9, .ref q10, .null, .null, .null, .null, .int 0, .int 0, .int 0, .int 0]) X fw4 hq0 hm flX4_43 rfl rfl (by decide) rfl rfl rfl rfl dX4_init_90 ?_
  refine w_aload_n X dX4_init_93 rfl 0 rfl ?_
  refine w_iconst X dX4_init_94 ic_4 ?_
  refine w_newa (atype := .int) (N := 4) (t0 := 1) (ty := .int) (a0 := (4, .inl (fun _ => 0))) X hb ac_int rfl rfl (fun _ h => h) (fun _ => rfl) (by decide) (by decide) (Nat.le_of_ble_eq_true rfl) (Nat.le_of_ble_eq_true rfl) (Nat.le_of_ble_eq_true rfl) dX4_init_95 (fun q11 => ?_)
  refine w_cast (ws' := ws.set q0 (a, .inr (4, [.int 0, .int 0, .int (-1), .ref q1, .int 0, .int 0, .int 0, .int 0, .int 0, .int 0, .int 0, .long 0, .ref q2, .ref q3, .ref q4, .ref q5, .int 0, .int 0, .int 0, .ref q6, .ref q7, .ref q8, .ref q9, .ref q10, .null, .null, .null, .null, .int 0, .int 0, .int 0, .int 0])) ++ [(q1, .inl (G.2.1 5, 400, .inl (fun _ => 0))), (q2, .inl (G.2.1 7, 4, .inr (.inl (fun _ => 0)))), (q3, .inl (G.2.1 6, 4, .inl (fun _ => 0))), (q4, .inl (G.2.1 6, 400, .inl (fun _ => 0))), (q5, .inl (G.2.1 6, 400, .inl (fun _ => 0))), (q6, .inl (G.2.1 6, 6000, .inl (fun _ => 0))), (q7, .inl (G.2.1 6, 6000, .inl (fun _ => 0))), (q8, .inl (G.2.1 6, 6000, .inl (fun _ => 0))), (q9, .inl (G.2.1 6, 6, .inl (fun _ => 0))), (q10, .inl (G.2.1 6, 6, .inl (fun _ => 0))), (q11, .inl (G.2.1 6, 4, .inl (fun _ => 0)))]) (List.append_assoc _ _ _) ?_
  refine w_putF (k := 24) (fs' := [.int 0, .int 0, .int (-1), .ref q1, .int 0, .int 0, .int 0, .int 0, .int 0, .int 0, .int 0, .long 0, .ref q2, .ref q3, .ref q4, .ref q5, .int 0, .int 0, .int 0, .ref q6, .ref q7, .ref q8, .ref q9, .ref q10, .ref q11, .null, .null, .null, .int 0, .int 0, .int 0, .int 0]) X fw4 hq0 hm flX4_46 rfl rfl (by decide) rfl rfl rfl rfl dX4_init_97 ?_
  refine w_aload_n X dX4_init_100 rfl 0 rfl ?_
  refine w_iconst X dX4_init_101 ic_4 ?_
  refine w_newa (atype := .int) (N := 4) (t0 := 1) (ty := .int) (a0 := (4, .inl (fun _ => 0))) X hb ac_int rfl rfl (fun _ h => h) (fun _ => rfl) (by decide) (by decide) (Nat.le_of_ble_eq_true rfl) (Nat.le_of_ble_eq_true rfl) (Nat.le_of_ble_eq_true rfl) dX4_init_102 (fun q12 => ?_)
  refine w_cast (ws' := ws.set q0 (a, .inr (4, [.int 0, .int 0, .int (-1), .ref q1, .int 0, .int 0, .int 0, .int 0, .int 0, .int 0, .int 0, .long 0, .ref q2, .ref q3, .ref q4, .ref q5, .int 0, .int 0, .int 0, .ref q6, .ref q7, .ref q8, .ref q9, .ref q10, .ref q11, .null, .null, .null, .int 0, .int 0, .int 0, .int 0])) ++ [(q1, .inl (G.2.1 5, 400, .inl (fun _ => 0))), (q2, .inl (G.2.1 7, 4, .inr (.inl (fun _ => 0)))), (q3, .inl (G.2.1 6, 4, .inl (fun _ => 0))), (q4, .inl (G.2.1 6, 400, .inl (fun _ => 0))), (q5, .inl (G.2.1 6, 400, .inl (fun _ => 0))), (q6, .inl (G.2.1 6, 6000, .inl (fun _ => 0))), (q7, .inl (G.2.1 6, 6000, .inl (fun _ => 0))), (q8, .inl (G.2.1 6, 6000, .inl (fun _ => 0))), (q9, .inl (G.2.1 6, 6, .inl (fun _ => 0))), (q10, .inl (G.2.1 6, 6, .inl (fun _ => 0))), (q11, .inl (G.2.1 6, 4, .inl (fun _ => 0))), (q12, .inl (G.2.1 6, 4, .inl (fun _ => 0)))]) (List.append_assoc _ _ _) ?_
  refine w_putF (k := 25) (fs' := [.int 0, .int 0, .int (-1), .ref q1, .int 0, .int 0, .int 0, .int 0, .int 0, .int 0, .int 0, .long 0, .ref q2, .ref q3, .ref q4, .ref q5, .int 0, .int 0, .int 0, .ref q6, .ref q7, .ref q8, .ref q9, .ref q10, .ref q11, .ref q12, .null, .null, .int 0, .int 0, .int 0, .int 0]) X fw4 hq0 hm flX4_49 rfl rfl (by decide) rfl rfl rfl rfl dX4_init_104 ?_
  refine w_aload_n X dX4_init_107 rfl 0 rfl ?_
  refine w_iconst X dX4_init_108 ic_4 ?_
  refine w_newa (atype := .int) (N := 4) (t0 := 1) (ty := .int) (a0 := (4, .inl (fun _ => 0))) X hb ac_int rfl rfl (fun _ h => h) (fun _ => rfl) (by decide) (by decide) (Nat.le_of_ble_eq_true rfl) (Nat.le_of_ble_eq_true rfl) (Nat.le_of_ble_eq_true rfl) dX4_init_109 (fun q13 => ?_)
  refine w_cast (ws' := ws.set q0 (a, .inr (4, [.int 0, .int 0, .int (-1), .ref q1, .int 0, .int 0, .int 0, .int 0, .int 0, .int 0, .int 0, .long 0, .ref q2, .ref q3, .ref q4, .ref q5, .int 0, .int 0, .int 0, .ref q6, .ref q7, .ref q8, .ref q9, .ref q10, .ref q11, .ref q12, .null, .null, .int 0, .int 0, .int 0, .int 0])) ++ [(q1, .inl (G.2.1 5, 400, .inl (fun _ => 0))), (q2, .inl (G.2.1 7, 4, .inr (.inl (fun _ => 0)))), (q3, .inl (G.2.1 6, 4, .inl (fun _ => 0))), (q4, .inl (G.2.1 6, 400, .inl (fun _ => 0))), (q5, .inl (G.2.1 6, 400, .inl (fun _ => 0))), (q6, .inl (G.2.1 6, 6000, .inl (fun _ => 0))), (q7, .inl (G.2.1 6, 6000, .inl (fun _ => 0))), (q8, .inl (G.2.1 6, 6000, .inl (fun _ => 0))), (q9, .inl (G.2.1 6, 6, .inl (fun _ => 0))), (q10, .inl (G.2.1 6, 6, .inl (fun _ => 0))), (q11, .inl (G.2.1 6, 4, .inl (fun _ => 0))), (q12, .inl (G.2.1 6, 4, .inl (fun _ => 0))), (q13, .inl (G.2.1 6, 4, .inl (fun _ => 0)))]) (List.append_assoc _ _ _) ?_
  refine w_putF (k := 26) (fs' := [.int 0, .int 0, .int (-1), .ref q1, .int 0, .int 0, .int 0, .int 0, .int 0, .int 0, .int 0, .long 0, .ref q2, .ref q3, .ref q4, .ref q5, .int 0, .int 0, .int 0, .ref q6, .ref q7, .ref q8, .ref q9, .ref q10, .ref q11, .ref q12, .ref q13, .null, .int 0, .int 0, .int 0, .int 0]) X fw4 hq0 hm flX4_52 rfl rfl (by decide) rfl rfl rfl rfl dX4_init_111 ?_
  refine w_aload_n X dX4_init_114 rfl 0 rfl ?_
  refine w_sipush X dX4_init_115 sc_4000 ?_
  refine w_newa (atype := .int) (N := 4000) (t0 := 1) (ty := .int) (a0 := (4000, .inl (fun _ => 0))) X hb ac_int rfl rfl (fun _ h => h) (fun _ => rfl) (by decide) (by decide) (Nat.le_of_ble_eq_true rfl) (Nat.le_of_ble_eq_true rfl) (Nat.le_of_ble_eq_true rfl) dX4_init_118 (fun q14 => ?_)
  refine w_cast (ws' := ws.set q0 (a, .inr (4, [.int 0, .int 0, .int (-1), .ref q1, .int 0, .int 0, .int 0, .int 0, .int 0, .int 0, .int 0, .long 0, .ref q2, .ref q3, .ref q4, .ref q5, .int 0, .int 0, .int 0, .ref q6, .ref q7, .ref q8, .ref q9, .ref q10, .ref q11, .ref q12, .ref q13, .null, .int 0, .int 0, .int 0, .int 0])) ++ [(q1, .inl (G.2.1 5, 400, .inl (fun _ => 0))), (q2, .inl (G.2.1 7, 4, .inr (.inl (fun _ => 0)))), (q3, .inl (G.2.1 6, 4, .inl (fun _ => 0))), (q4, .inl (G.2.1 6, 400, .inl (fun _ => 0))), (q5, .inl (G.2.1 6, 400, .inl (fun _ => 0))), (q6, .inl (G.2.1 6, 6000, .inl (fun _ => 0))), (q7, .inl (G.2.1 6, 6000, .inl (fun _ => 0))), (q8, .inl (G.2.1 6, 6000, .inl (fun _ => 0))), (q9, .inl (G.2.1 6, 6, .inl (fun _ => 0))), (q10, .inl (G.2.1 6, 6, .inl (fun _ => 0))), (q11, .inl (G.2.1 6, 4, .inl (fun _ => 0))), (q12, .inl (G.2.1 6, 4, .inl (fun _ => 0))), (q13, .inl (G.2.1 6, 4, .inl (fun _ => 0))), (q14, .inl (G.2.1 6, 4000, .inl (fun _ => 0)))]) (List.append_assoc _ _ _) ?_
  refine w_putF (k := 27) (fs' := [.int 0, .int 0, .int (-1), .ref q1, .int 0, .int 0, .int 0, .int 0, .int 0, .int 0, .int 0, .long 0, .ref q2, .ref q3, .ref q4, .ref q5, .int 0, .int 0, .int 0, .ref q6, .ref q7, .ref q8, .ref q9, .ref q10, .ref q11, .ref q12, .ref q13, .ref q14, .int 0, .int 0, .int 0, .int 0]) X fw4 hq0 hm flX4_55 rfl rfl (by decide) rfl rfl rfl rfl dX4_init_120 ?_
  refine w_aload_n X dX4_init_123 rfl 0 rfl ?_
  refine w_iconst X dX4_init_124 ic_1 ?_
  refine w_put (k := 30) (fs' := [.int 0, .int 0, .int (-1), .ref q1, .int 0, .int 0, .int 0, .int 0, .int 0, .int 0, .int 0, .long 0, .ref q2, .ref q3, .ref q4, .ref q5, .int 0, .int 0, .int 0, .ref q6, .ref q7, .ref q8, .ref q9, .ref q10, .ref q11, .ref q12, .ref q13, .ref q14, .int 0, .int 0, .int 1, .int 0]) X fw4 hq0 flX4_58 rfl (by decide) rfl rfl rfl rfl dX4_init_125 ?_
  exact w_vret X ⟨q1, q2, q3, q4, q5, q6, q7, q8, q9, q10, q11, q12, q13, q14, rfl⟩ dX4_init_128
