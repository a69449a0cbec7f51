/-! ===== THE LAW'S idle: what the class throws is caught ===== -/
theorem met_ofWH {l : Launch} {y : MethodName} {ws ws' : List Cond} {rm : Room} {Pc : Array Value → State → Prop} {Qc : Array Value → State → Outcome → State → Prop} {mc ms : Nat} {free : Addr → Prop} {cc : ByteArray} {maxL : Nat} {ret : Option FieldType} {hh : List (Nat × Nat × Nat × Nat)}
    (hy : plainName y.cls = true) (hw : ws = Cond.codeWith y cc maxL ret hh :: ws')
    (body : ∀ p e s m args below meth c s₁, BodyLoose p l y (headSpec ws rm) cc maxL ret e s m args below meth c s₁ → c.maxLocals = maxL → c.exceptionTable.toList = tableOf hh → Pc args s →
      W p l e (headSpec ws rm).room s m args below meth c s.heap [] 0 0 (MQ below Qc args s mc ms free) (entryFrame m args maxL)) : Met l y ws rm Pc Qc mc ms free := by
  refine MetFree.of_bodyS (code := cc) (maxLocals := maxL) (ret := ret) hy ?_ ?_
  · intro args s m h hn
    obtain ⟨m9, meth, c, hn9, h1, h2, h3, h4, -, h5, h6, -⟩ := Cond.codeWith_spec (atoms_spec (ws := ws) h _ (by rw [hw]; exact List.mem_cons_self))
    cases hn.symm.trans hn9
    exact ⟨meth, c, h1, h2, h3, h4, h5, h6⟩
  · intro p e s m args below meth c s₁ B hml hP _
    have hh0 : s₁.heap = s.heap := by rw [B.state]; rfl
    have ht := vx_table (x := y) B (atoms_spec (ws := ws) B.pre _ (by rw [hw]; exact List.mem_cons_self))
    obtain ⟨t, a1, o, b1, b2, b3⟩ := body p e s m args below meth c s₁ B hml ht hP s₁ hh0 (Stand.of_body B)
    exact ⟨t, o, a1, b1, b2, ⟨b3.1, b3.2⟩⟩
def hhL : List (Nat × Nat × Nat × Nat) := [(0, 9, 12, 13)]
abbrev wdL : Cond := .codeWith yL_idle cL_idle 4 (some .int) hhL
def rmL_idle : Room := { frames := 7, cells := 1, slots := 6, locals := 114 }
theorem wdL_in : wdL ∈ lw_tbl := mt4_2 (List.mem_of_getElem? (i := 4) (by decide +kernel))
theorem clL_13 : Cond.classLink RL 13 "java/util/NoSuchElementException" ∈ lw_tbl := mt4_2 (List.mem_of_getElem? (i := 5) (by decide +kernel))
def QLi (Q : Int32 → Mem → Prop) (E : Mem → Prop) (r : Int32) (M : Mem) : Prop := (r = 0 ∧ ∃ v M1, Q v M1 ∧ M = pL M1 300 0 v.toInt64) ∨ (r = 1 ∧ E M)
set_option maxHeartbeats 4000000 in
set_option maxRecDepth 100000 in
theorem cL_idle_ok (l : Launch) (hl : l.stackTraces = false) {G : Gl} {al : Nat → Nat} {mk : Nat} {M : Mem} {v1 : Int32} {Q : Int32 → Mem → Prop} {E : Mem → Prop} (h : wpX3_idle mk M v1 Q E) : Met l yL_idle [wdL] rmL_idle (Pi G al mk M [.ref (al 0), .int v1, .ref (al 300)]) (QI G al mk (QLi Q E)) 1 6 (gA G) := by
  refine met_ofWH (cc := cL_idle) (maxL := 4) (ret := some .int) (hh := hhL) (by decide) rfl ?_
  intro p e s m args below meth c s₁ B hml ht hv
  obtain ⟨rfl, hx, hb, hy, hh⟩ := hv
  rw [lg_entry_eq]
  have X : Cx p s m meth c G RL cL_idle 4 (some .int) := ⟨B.exec, B.bytes, hml, findClass_of_methodNamed B.named, B.returns, B.notSynchronized, hx⟩
  have main : Wa p l e rmL_idle s m [Value.ref (al 0), .int v1, .ref (al 300)].toArray below meth c 4 G al mk 0 0 (MQ below (QI G al mk (QLi Q E)) [Value.ref (al 0), .int v1, .ref (al 300)].toArray s 1 6 (gA G)) M 0 [(0, .ref (al 0)), (1, .int v1), (2, .ref (al 300))] [] := by
    refine a_aload_n X dL_idle_0 rfl 2 rfl ?_
    refine a_iconst (v := 0) X dL_idle_1 ic_0 ?_
    refine a_aload_n X dL_idle_2 rfl 0 rfl ?_
    refine a_iload_n X dL_idle_3 rfl 1 rfl ?_
    intro H locs ls hH hS hlv
    have hok := wk_Vok mlL_7 mvX3_idle
    have hts : ∀ w ∈ wk_V RL 7 RX3 yX3_idle cX3_idle 5 (some .int), w.before [Value.ref (al 0), .int v1, .ref (al 300)].toArray s = true := fun w hw => cx_w X (hok w hw)
    refine vx_calli (rest := [.int 0, .ref (al 300)]) (vx_runV (As := [.int v1]) (rest := [.int 0, .ref (al 300)]) ⟨X.1, X.2.1, X.2.2.1, X.2.2.2.1, hts⟩ (cX3_idle_ok l hl h) (cwV 1 hts (wk_good hok) rfl rfl rfl mvX3_idle.2 ⟨Nat.le_of_ble_eq_true rfl, Nat.le_of_ble_eq_true rfl⟩) ⟨pi_blind, hp_recv X fw3 iz_0 hH, fun U hU hW => ⟨rfl, (cx_S X).to hS hU hW, by rw [hU]; exact Nat.le_trans hb hS.1, hy.to hS hU hW, hp_to hH hU⟩⟩ rfl rfl hlv.1 rfl (lv_room (Nat.le_of_ble_eq_true rfl)) dL_idle_4 ⟨Nat.le_of_ble_eq_true rfl, Nat.le_of_ble_eq_true rfl⟩) hS (fun q _ h => h) (fun q h => h) (fun q _ h => h) ?_ ?_
    · intro nm ce q9 M1 t H1 locs1 e1 hvm hE hB hz hk hS1 hce hcv hcl
      obtain ⟨rfl, hH1⟩ := hB
      rw [e1] at hH1
      refine vx_catch (E := "java/util/NoSuchElementException") (name := "java/util/NoSuchElementException") X.2.2.2.1 [] ⟨0, 9, 12, 13⟩ [] (by rw [ht]; rfl) (fun z hz => absurd hz List.not_mem_nil) rfl (by decide) (cx_w X ⟨clL_13, rfl⟩) (va_Nw.use rfl hy.2.1) hce hcv hcl ?_
      have k : Wa p l e rmL_idle s m [Value.ref (al 0), .int v1, .ref (al 300)].toArray below meth c 4 G al mk 1 6 (MQ below (QI G al mk (QLi Q E)) [Value.ref (al 0), .int v1, .ref (al 300)].toArray s 1 6 (gA G)) M1 12 [(0, .ref (al 0)), (1, .int v1), (2, .ref (al 300))] [.ref q9] := by
        refine a_astore_n (lo' := [(3, .ref q9), (0, .ref (al 0)), (1, .int v1), (2, .ref (al 300))]) X dL_idle_12 rfl (by decide) rfl ?_
        refine a_iconst (v := 1) X dL_idle_13 ic_1 ?_
        exact fun H locs ls hH hS hl => W.iret X.1 X.2.1 X.2.2.2.2.1 (fun t ht hW => ⟨⟨1, M1, rfl, Or.inr ⟨rfl, hE⟩, hp_to hH ht⟩, hS.F ht⟩) hS.2.2 dL_idle_14 X.2.2.2.2.2.1
      exact k H1 locs1 ls hH1 hS1 hlv
    · intro r M1 t H1 locs1 e1 hvm hQ hH1 hz hk hS1
      rw [e1] at hH1
      have k : Wa p l e rmL_idle s m [Value.ref (al 0), .int v1, .ref (al 300)].toArray below meth c 4 G al mk 1 6 (MQ below (QI G al mk (QLi Q E)) [Value.ref (al 0), .int v1, .ref (al 300)].toArray s 1 6 (gA G)) M1 7 [(0, .ref (al 0)), (1, .int v1), (2, .ref (al 300))] [.int r, .int 0, .ref (al 300)] := by
        refine a_i2l X dL_idle_7 ?_
        refine a_last (n := 1) X iz_300 ((iI_in (a := 0) (by omega)).mpr ⟨by omega, by omega⟩) dL_idle_8 (fun M2 e2 => ?_)
        refine a_goto (tgt := 15) X dL_idle_9 (by decide) ?_
        refine a_iconst (v := 0) X dL_idle_15 ic_0 ?_
        exact fun H locs ls hH hS hl => W.iret X.1 X.2.1 X.2.2.2.2.1 (fun t ht hW => ⟨⟨0, M2, rfl, Or.inl ⟨rfl, r, M1, hQ, e2⟩, hp_to hH ht⟩, hS.F ht⟩) hS.2.2 dL_idle_16 X.2.2.2.2.2.1
      exact k H1 locs1 ls hH1 hS1 hlv
  exact main s.heap [] _ hh va_S.rf (lv_entry [.ref (al 0), .int v1, .ref (al 300)] (Nat.le_of_ble_eq_true rfl))
