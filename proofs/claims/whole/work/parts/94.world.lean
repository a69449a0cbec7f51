/-! ===== OBJECTS THAT ARE MADE: the machine over a list of cells ===== -/
def Ww (p : Program) (l : Launch) (e : Env) (R : Room) (s : State) (m : MethodId) (args : Array Value) (below : List Frame) (meth : Method) (c : Code) (nL : Nat) (G : Gl) (cs ss : Nat) (Q : State → Prop) (ws : va_W) (pc : Nat) (lo : List (Nat × Value)) (st : List Value) : Prop :=
  ∀ (H : Heap) (locs : List Loc) (ls : Array Slot), va_P G.1 vwCl ws H → va_D (gA G) ws → va_S (gA G) s.heap H locs → lv_has ls nL lo → W p l e R s m args below meth c H locs cs ss Q (F0 m pc ls st)
def Pw (G : Gl) (E : Prop) (ws : va_W) (av : List Value) : Array Value → State → Prop := va_Pc av (fun U => Sx G U ∧ G.2.2.2.2 ≤ U.heap.size ∧ (E → va_AO "GapRows$Stream" U) ∧ va_P G.1 vwCl ws U.heap ∧ va_D (gA G) ws)
def Qw (G : Gl) (R : va_W → Prop) : Array Value → State → Outcome → State → Prop := va_Qv (S := va_W) R (fun ws t => va_P G.1 vwCl ws t.heap ∧ va_D (gA G) ws) (gA G)
def Kw (l : Launch) (y : MethodName) (cc : ByteArray) (nL : Nat) (rm : Room) (G : Gl) (E : Prop) (ws : va_W) (av : List Value) (R : va_W → Prop) (mc ms : Nat) : Prop := Met l y [.code y cc nL none] rm (Pw G E ws av) (Qw G R) mc ms (gA G)
theorem pw_blind {G : Gl} {E : Prop} {ws : va_W} {av : List Value} : FrameBlind (Pw G E ws av) :=
  fun a U g k h => ⟨h.1, h.2.1.to (H := U.heap) (locs := []) va_S.rf rfl (State.WarmedH.refl U), h.2.2.1, fun z => va_AO.moved (u := U) (U := U.calling g k a) (Vm.Alike.refl U.vm) (h.2.2.2.1 z), h.2.2.2.2⟩
theorem w_head {l : Launch} {y : MethodName} {cc : ByteArray} {nL : Nat} {rm : Room} {G : Gl} {E : Prop} {ws : va_W} {av : List Value} {Rr : va_W → Prop} {mc ms : Nat} (hy : plainName y.cls = true) (hn : (lg_sl av).length ≤ nL)
    (body : ∀ (p : Program) (e : Env) (s : State) (m : MethodId) (below : List Frame) (meth : Method) (c : Code), Cx p s m meth c G y.cls cc nL none → G.2.2.2.2 ≤ s.heap.size → (E → va_AO "GapRows$Stream" s) → meth.name = y.name → Ww p l e rm s m av.toArray below meth c nL G 0 0 (MQ below (Qw G Rr) av.toArray s mc ms (gA G)) ws 0 (lv_args 0 av) []) : Kw l y cc nL rm G E ws av Rr mc ms := by
  refine Met.ofW (cc := cc) (maxL := nL) (ret := none) hy rfl ?_
  intro p e s m args below meth c s₁ B hml hv
  obtain ⟨rfl, hx, hs, hE, hP, hD⟩ := hv
  rw [lg_entry_eq]
  exact body p e s m below meth c ⟨B.exec, B.bytes, hml, findClass_of_methodNamed B.named, B.returns, B.notSynchronized, hx⟩ hs hE (name_of_methodNamed B.named B.method).1 s.heap [] _ hP hD va_S.rf (lv_entry av hn)
section W5
variable {p : Program} {l : Launch} {e : Env} {R : Room} {s : State} {m : MethodId} {args : Array Value} {below : List Frame} {meth : Method} {c : Code} {nL : Nat} {G : Gl} {cs ss : Nat} {Q : State → Prop} {ws : va_W} {pc : Nat} {lo lo' : List (Nat × Value)} {st : List Value} {own : String} {cc : ByteArray} {ret : Option FieldType}
theorem w_iconst (X : Cx p s m meth c G own cc nL ret) {n : Int} {v : Int32} (d : decode cc pc = .ok (.iconst n, 1)) (hv : Int32.ofInt n = v) (k : Ww p l e R s m args below meth c nL G cs ss Q ws (pc + 1) lo (.int v :: st)) : Ww p l e R s m args below meth c nL G cs ss Q ws pc lo st :=
  fun H locs ls hP hD hS hl => lv_iconst X.1 X.2.1 d hv (k H locs ls hP hD hS hl)
theorem w_bipush (X : Cx p s m meth c G own cc nL ret) {n : Int} {v : Int32} (d : decode cc pc = .ok (.bipush n, 2)) (hv : (Int8.ofInt n).toInt32 = v) (k : Ww p l e R s m args below meth c nL G cs ss Q ws (pc + 2) lo (.int v :: st)) : Ww p l e R s m args below meth c nL G cs ss Q ws pc lo st :=
  fun H locs ls hP hD hS hl => lv_bipush X.1 X.2.1 d hv (k H locs ls hP hD hS hl)
theorem w_sipush (X : Cx p s m meth c G own cc nL ret) {n : Int} {v : Int32} (d : decode cc pc = .ok (.sipush n, 3)) (hv : (Int16.ofInt n).toInt32 = v) (k : Ww p l e R s m args below meth c nL G cs ss Q ws (pc + 3) lo (.int v :: st)) : Ww p l e R s m args below meth c nL G cs ss Q ws pc lo st :=
  fun H locs ls hP hD hS hl => lv_sipush X.1 X.2.1 d hv (k H locs ls hP hD hS hl)
theorem w_aload_n (X : Cx p s m meth c G own cc nL ret) {n : Fin 4} {i : Nat} {x : Nat} (d : decode cc pc = .ok (.aload_n n, 1)) (hi : (n : Nat) = i) (j : Nat) (hj : lo[j]? = some (i, .ref x)) (k : Ww p l e R s m args below meth c nL G cs ss Q ws (pc + 1) lo (.ref x :: st)) : Ww p l e R s m args below meth c nL G cs ss Q ws pc lo st :=
  fun H locs ls hP hD hS hl => lv_aload_n X.1 X.2.1 d hi (lv_at hl j hj) (k H locs ls hP hD hS hl)
theorem w_dup (X : Cx p s m meth c G own cc nL ret) {v : Value} (d : decode cc pc = .ok (.dup, 1)) (hv : v.category = 1) (k : Ww p l e R s m args below meth c nL G cs ss Q ws (pc + 1) lo (v :: v :: st)) : Ww p l e R s m args below meth c nL G cs ss Q ws pc lo (v :: st) :=
  fun H locs ls hP hD hS hl => lv_dup X.1 X.2.1 d hv (k H locs ls hP hD hS hl)
theorem w_obj (X : Cx p s m meth c G own cc nL ret) {idx a : Nat} (h1 : Cond.methodLink own idx Lib.objectInit ∈ lw_tbl) (h2 : Cond.instanceMethod Lib.objectInit ∈ lw_tbl) (h3 : Cond.code Lib.objectInit object_method_1_code 1 none ∈ lw_tbl) (hW : (st.map fun v => v.category).sum ≤ 8) (hf : 1 ≤ R.frames) (hloc : 20 ≤ R.locals) (d : decode cc pc = .ok (.invokespecial idx, 3)) (k : Ww p l e R s m args below meth c nL G cs ss Q ws (pc + 3) lo st) : Ww p l e R s m args below meth c nL G cs ss Q ws pc lo (.ref a :: st) :=
  fun H locs ls hP hD hS hl => W.objInit X.1 X.2.1 X.2.2.2.1 (cx_w X ⟨h1, rfl⟩) (cx_w X ⟨h2, rfl⟩) (cx_w X ⟨h3, rfl⟩) rfl (hl.1.trans X.2.2.1.symm) rfl d hf (Nat.le_trans (Nat.add_le_add_right (lv_room hW) 12) hloc) (k H locs ls hP hD hS hl)
theorem w_new (X : Cx p s m meth c G own cc nL ret) (hb : G.2.2.2.2 ≤ s.heap.size) {ci idx : Nat} {C : String} {T : u_T} {N : Nat} {ty : Nat → FieldType} {fs : List Value} (hF : Fw ci C T N ty) (h1 : Cond.classLink own idx C ∈ lw_tbl) (h2 : Cond.instantiable C N ∈ lw_tbl) (h3 : Cond.initialized C ∈ lw_tbl) (hfs : ∀ j, j < N → defaultValue (ty j) = vp_V fs j) (hc : cs + 1 ≤ R.cells) (hs : ss + N ≤ R.slots) (d : decode cc pc = .ok (.new idx, 3))
    (k : ∀ q : Nat, Ww p l e R s m args below meth c nL G (cs + 1) (ss + N) Q (ws ++ [(q, .inr (ci, fs))]) (pc + 3) lo (.ref q :: st)) : Ww p l e R s m args below meth c nL G cs ss Q ws pc lo st :=
  fun H locs ls hP hD hS hl => va_new (Ts := u_ws C T N) X.1 X.2.1 (fun w hw => cx_w X (hF.2.1 w hw)) (fun w hw => hw) ty hF.2.2.1 X.2.2.2.1 (cx_w X ⟨h1, rfl⟩) (cx_w X ⟨h2, rfl⟩) (cx_w X ⟨h3, rfl⟩) (cx_K X) hP hD hS (fun q hq => Nat.le_trans hb hq) hF.1 hfs hc hs d (fun q H1 hP hD hS => k q H1 locs ls hP hD hS hl)
theorem w_newa (X : Cx p s m meth c G own cc nL ret) (hb : G.2.2.2.2 ≤ s.heap.size) {atype : ArrayType} {ty : FieldType} {n : Int32} {N t0 : Nat} {cA : ClassId} {a0 : vp_A} (harr : Cond.arrayClass (newarray.typeOf atype) ∈ lw_tbl) (hty : newarray.typeOf atype = ty) (ht : (tysOf G)[t0]? = some (cA, ty)) (hra : ∀ c : ClassId, va_RA s c ty → s.vm.findClass ("[" ++ ty.toString) = some c) (ha : ∀ cB : ClassId, vp_cell cB a0 = arrV cB N (fun _ => defaultValue ty)) (hn : ¬ n < 0) (hN : n.toNatClampNeg = N) (hbytes : N * componentBytes ty ≤ 536870912) (hc : cs + 1 ≤ R.cells) (hs : ss + N ≤ R.slots) (d : decode cc pc = .ok (.newarray atype, 2))
    (k : ∀ q : Nat, Ww p l e R s m args below meth c nL G (cs + 1) (ss + N) Q (ws ++ [(q, .inl (cA, a0))]) (pc + 2) lo (.ref q :: st)) : Ww p l e R s m args below meth c nL G cs ss Q ws pc lo (.int n :: st) :=
  fun H locs ls hP hD hS hl => va_newa (ty := ty) X.1 X.2.1 (cx_w X ⟨harr, rfl⟩) hty (cx_K X) hP hD hS (fun q hq => Nat.le_trans hb hq) ha hn hN hbytes hc hs d (fun q cB H1 hK hP hD hS => by
    have h1 := ((cx_K X).2 t0 _ ht).2
    have h2 := (hK.2 (tysOf G).length (cB, ty) (by simp)).2
    have e : cB = cA := Option.some.inj ((hra _ h2).symm.trans (hra _ h1))
    subst e
    exact k q H1 locs ls hP hD hS hl)
theorem w_newq (X : Cx p s m meth c G own cc nL ret) (hb : G.2.2.2.2 ≤ s.heap.size) {idx : Nat} {n : Int32} {N : Nat} (h1 : Cond.classLink own idx "GapRows$Stream" ∈ lw_tbl) (h2 : va_AO "GapRows$Stream" s) (hn : ¬ n < 0) (hN : n.toNatClampNeg = N) (hbytes : N * 4 ≤ 536870912) (hc : cs + 1 ≤ R.cells) (hs : ss + N ≤ R.slots) (d : decode cc pc = .ok (.anewarray idx, 3))
    (k : ∀ q : Nat, Ww p l e R s m args below meth c nL G (cs + 1) (ss + N) Q (ws ++ [(q, .inl (G.2.1 8, N, .inr (.inr (.inr (.inr (fun _ => none))))))]) (pc + 3) lo (.ref q :: st)) : Ww p l e R s m args below meth c nL G cs ss Q ws pc lo (.int n :: st) :=
  fun H locs ls hP hD hS hl => va_newq X.1 X.2.1 X.2.2.2.1 (cx_w X ⟨h1, rfl⟩) h2 (cx_K X) hP hD hS (fun q hq => Nat.le_trans hb hq) hn hN hbytes hc hs d (fun q cB H1 hK hP hD hS => by
    obtain ⟨k1, c1, -, -, -, a1⟩ := ((cx_K X).2 3 _ rfl).2
    obtain ⟨k2, c2, -, -, -, a2⟩ := (hK.2 (tysOf G).length (cB, .object "GapRows$Stream") (by simp)).2
    have e : cB = G.2.1 8 := Option.some.inj (a2.symm.trans a1)
    subst e
    exact k q H1 locs ls hP hD hS hl)
theorem set_app {q0 : Nat} {x : Nat × va_E} (y : Nat × va_E) {ws cs : va_W} (hq : q0 < ws.length) : (ws.set q0 x ++ cs).set q0 y = ws.set q0 y ++ cs := by
  rw [List.set_append_left _ _ (by rw [List.length_set]; exact hq), List.set_set]
theorem get_app {q0 : Nat} {x : Nat × va_E} {ws cs : va_W} (hq : q0 < ws.length) : (ws.set q0 x ++ cs)[q0]? = some x := by
  rw [List.getElem?_append_left (by rw [List.length_set]; exact hq), List.getElem?_set_self hq]
theorem w_putF (X : Cx p s m meth c G own cc nL ret) {ci k a idx q0 : Nat} {C ref fn fd : String} {T : u_T} {N : Nat} {ty : Nat → FieldType} {v : Value} {ex : va_W} {fs fs' : List Value} (hF : Fw ci C T N ty) (hq : q0 < ws.length) (hm : meth.name = "<init>") (hlink : Cond.fieldLink own idx ref fn fd ∈ lw_tbl ∧ goodWord (Cond.fieldLink own idx ref fn fd) = true) (hT : T k = (ref, fn, fd, true)) (ho : ref = own) (hk : k < N) (hl2 : fs.length = N) (hn : narrow (ty k) v = v) (hfit : fits (ty k) v = true) (hfs : fs.set k v = fs') (d : decode cc pc = .ok (.putfield idx, 3))
    (kk : Ww p l e R s m args below meth c nL G cs ss Q (ws.set q0 (a, .inr (ci, fs')) ++ ex) (pc + 3) lo st) : Ww p l e R s m args below meth c nL G cs ss Q (ws.set q0 (a, .inr (ci, fs)) ++ ex) pc lo (v :: .ref a :: st) := by
  intro H locs ls hP hD hS hl
  subst hfs
  refine va_putF (Ts := u_ws C T N) X.1 X.2.1 (fun w hw => cx_w X (hF.2.1 w hw)) (fun w hw => hw) ty hF.2.2.1 hF.2.2.2.1 X.2.2.2.1 (cx_K X) hP hD hS q0 (get_app hq) hF.1 k hk (ref := ref) (index := idx) (by rw [hT]; exact cx_w X hlink) (by rw [hT]; exact fun _ h => h) (by rw [hT]) hm (by rw [hT]; exact ho) (hF.2.2.1 k hk) hn hfit (by omega) d (fun H1 locs1 hP hD hS => ?_)
  rw [set_app _ hq] at hP hD
  exact kk H1 locs1 ls hP hD hS hl
theorem w_put (X : Cx p s m meth c G own cc nL ret) {ci k a idx q0 : Nat} {C ref fn fd : String} {T : u_T} {N : Nat} {ty : Nat → FieldType} {v : Value} {ex : va_W} {fs fs' : List Value} (hF : Fw ci C T N ty) (hq : q0 < ws.length) (hlink : Cond.fieldLink own idx ref fn fd ∈ lw_tbl ∧ goodWord (Cond.fieldLink own idx ref fn fd) = true) (hT : T k = (ref, fn, fd, false)) (hk : k < N) (hl2 : fs.length = N) (hn : narrow (ty k) v = v) (hfit : fits (ty k) v = true) (hfs : fs.set k v = fs') (d : decode cc pc = .ok (.putfield idx, 3))
    (kk : Ww p l e R s m args below meth c nL G cs ss Q (ws.set q0 (a, .inr (ci, fs')) ++ ex) (pc + 3) lo st) : Ww p l e R s m args below meth c nL G cs ss Q (ws.set q0 (a, .inr (ci, fs)) ++ ex) pc lo (v :: .ref a :: st) := by
  intro H locs ls hP hD hS hl
  subst hfs
  refine va_put (Ts := u_ws C T N) X.1 X.2.1 (fun w hw => cx_w X (hF.2.1 w hw)) (fun w hw => hw) ty hF.2.2.1 hF.2.2.2.1 X.2.2.2.1 (cx_K X) hP hD hS q0 (get_app hq) hF.1 k hk (ref := ref) (index := idx) (by rw [hT]; exact cx_w X hlink) (by rw [hT]; exact fun _ h => h) (by rw [hT]) (hF.2.2.1 k hk) hn hfit (by omega) d (fun H1 locs1 hP hD hS => ?_)
  rw [set_app _ hq] at hP hD
  exact kk H1 locs1 ls hP hD hS hl
/-- what the tables say of a constructor -/
def Mi (y : MethodName) (bytes : ByteArray) (maxL : Nat) : Prop := (Cond.initialized y.cls ∈ lw_tbl ∧ Cond.instanceMethod y ∈ lw_tbl ∧ Cond.code y bytes maxL none ∈ lw_tbl) ∧ y.name = "<init>" ∧ y.cls ≠ "java/lang/invoke/MethodHandle" ∧ y.cls ≠ "java/lang/invoke/VarHandle" ∧ (parseMethodDescriptor y.desc).map (fun d => d.parameters.length) = some 0
theorem w_init (X : Cx p s m meth c G own cc nL ret) (hb : G.2.2.2.2 ≤ s.heap.size) {y : MethodName} {bytes : ByteArray} {maxL : Nat} {rm : Room} {a idx mc ms : Nat} {E : Prop} {Rr : va_W → Prop} (hM : Kw l y bytes maxL rm G E ws [.ref a] Rr mc ms) (hE : E → va_AO "GapRows$Stream" s) (hI : Mi y bytes maxL) (hl : Cond.methodLink own idx y ∈ lw_tbl) (hrm : rm.cells = mc ∧ rm.slots = ms) (hR : rm.frames + 1 ≤ R.frames ∧ 8 + (maxL + 11) + rm.locals ≤ R.locals) (hc : cs + mc ≤ R.cells ∧ ss + ms ≤ R.slots) (hW : (st.map fun v => v.category).sum ≤ 8) (d : decode cc pc = .ok (.invokespecial idx, 3))
    (kk : ∀ ws' : va_W, Rr ws' → Ww p l e R s m args below meth c nL G (cs + mc) (ss + ms) Q ws' (pc + 3) lo st) : Ww p l e R s m args below meth c nL G cs ss Q ws pc lo (.ref a :: st) := by
  intro H locs ls hP hD hS hlv
  have hok : ∀ w ∈ [Cond.code y bytes maxL none], w ∈ lw_tbl ∧ goodWord w = true := fun w hw => by
    rw [List.mem_singleton.mp hw]
    exact ⟨hI.1.2.2, rfl⟩
  have hts : ∀ w ∈ [Cond.code y bytes maxL none], w.before args s = true := fun w hw => cx_w X (hok w hw)
  refine va_callv (va_runI (As := []) (rest := st) (b := a) ⟨X.1, X.2.1, X.2.2.1, X.2.2.2.1, hts⟩ hM (cwI 0 hts (wk_good hok) rfl hrm.1 hrm.2 (cx_w X ⟨hI.1.1, rfl⟩) (cx_w X ⟨hl, rfl⟩) (cx_w X ⟨hI.1.2.1, rfl⟩) hI.2.1 hI.2.2 hR) ⟨pw_blind, fun U hU hW => ⟨rfl, (cx_S X).to hS hU hW, by rw [hU]; exact Nat.le_trans hb hS.1, fun z => (hE z).moved hW.alike, by rw [hU]; exact hP, hD⟩⟩ rfl rfl hlv.1 rfl (lv_room hW) d hc) hS (fun q _ h => h) (fun q h => h) (fun ws' t H1 locs1 ht hvm hw hB hz hk hS1 => kk ws' hw H1 locs1 ls (by rw [← ht]; exact hB.1) hB.2 hS1 hlv)
theorem w_vret (X : Cx p s m meth c G own cc nL none) {Rr : va_W → Prop} (hq : Rr ws) (d : decode cc pc = .ok (.return_, 1)) : Ww p l e R s m args below meth c nL G cs ss (MQ below (Qw G Rr) args s cs ss (gA G)) ws pc lo [] :=
  fun H locs ls hP hD hS hl => W.vret X.1 X.2.1 X.2.2.2.2.1 (fun t ht hW => ⟨⟨ws, rfl, hq, by rw [ht]; exact hP, hD⟩, hS.F ht⟩) hS.2.2 d X.2.2.2.2.2.1
end W5
