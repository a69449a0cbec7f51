/-! ===== CALLS over the memory ===== -/
theorem pn_blind {G : Gl} {al : Nat → Nat} {mk : Nat} {M : Mem} {av : List Value} : FrameBlind (Pn G al mk M av) :=
  fun a U g k h => ⟨h.1, h.2.1.to (H := U.heap) (locs := []) va_S.rf rfl (State.WarmedH.refl U), h.2.2⟩
/-- what the tables say of a method that is called on an object of class C -/
def Mv (y : MethodName) (C : String) (bytes : ByteArray) (maxL : Nat) (ret : Option FieldType) (n : Nat) : Prop :=
  (Cond.instanceMethod y ∈ lw_tbl ∧ Cond.selects C y y ∈ lw_tbl ∧ Cond.initialized C ∈ lw_tbl ∧ Cond.code y bytes maxL ret ∈ lw_tbl) ∧ y.cls = C ∧ y.cls ≠ "java/lang/invoke/MethodHandle" ∧ y.cls ≠ "java/lang/invoke/VarHandle" ∧ (parseMethodDescriptor y.desc).map (fun d => d.parameters.length) = some n
/-- .. of a static one -/
def Ms (y : MethodName) (bytes : ByteArray) (maxL : Nat) (ret : Option FieldType) (n : Nat) : Prop :=
  (Cond.static y ∈ lw_tbl ∧ Cond.initialized y.cls ∈ lw_tbl ∧ Cond.code y bytes maxL ret ∈ lw_tbl) ∧ y.cls ≠ "java/lang/invoke/MethodHandle" ∧ y.cls ≠ "java/lang/invoke/VarHandle" ∧ (parseMethodDescriptor y.desc).map (fun d => d.parameters.length) = some n
/-- the room that a callee needs -/
def Rz (rm R : Room) (maxL cs ss : Nat) : Prop := (rm.cells = 0 ∧ rm.slots = 0) ∧ (rm.frames + 1 ≤ R.frames ∧ 8 + (maxL + 11) + rm.locals ≤ R.locals) ∧ cs ≤ R.cells ∧ ss ≤ R.slots
def wk_V (own : String) (idx : Nat) (C : String) (y : MethodName) (bytes : ByteArray) (maxL : Nat) (ret : Option FieldType) : List Cond := wsV own idx C y [.code y bytes maxL ret]
theorem wk_Vok {own : String} {idx : Nat} {C : String} {y : MethodName} {bytes : ByteArray} {maxL : Nat} {ret : Option FieldType} {n : Nat} (hl : Cond.methodLink own idx y ∈ lw_tbl) (h : Mv y C bytes maxL ret n) : ∀ w ∈ wk_V own idx C y bytes maxL ret, w ∈ lw_tbl ∧ goodWord w = true := by
  obtain ⟨⟨h1, h2, h3, h4⟩, -⟩ := h
  intro w hw
  simp only [wk_V, wsV, List.cons_append, List.nil_append, List.mem_cons, List.not_mem_nil, or_false] at hw
  rcases hw with rfl | rfl | rfl | rfl | rfl
  · exact ⟨hl, rfl⟩
  · exact ⟨h1, rfl⟩
  · exact ⟨h2, rfl⟩
  · exact ⟨h3, rfl⟩
  · exact ⟨h4, rfl⟩
def wk_S (own : String) (idx : Nat) (y : MethodName) (bytes : ByteArray) (maxL : Nat) (ret : Option FieldType) : List Cond := va_wsS own idx y [.code y bytes maxL ret]
theorem wk_Sok {own : String} {idx : Nat} {y : MethodName} {bytes : ByteArray} {maxL : Nat} {ret : Option FieldType} {n : Nat} (hl : Cond.methodLink own idx y ∈ lw_tbl) (h : Ms y bytes maxL ret n) : ∀ w ∈ wk_S own idx y bytes maxL ret, w ∈ lw_tbl ∧ goodWord w = true := by
  obtain ⟨⟨h1, h2, h3⟩, -⟩ := h
  intro w hw
  simp only [wk_S, va_wsS, List.cons_append, List.nil_append, List.mem_cons, List.not_mem_nil, or_false] at hw
  rcases hw with rfl | rfl | rfl | rfl
  · exact ⟨hl, rfl⟩
  · exact ⟨h1, rfl⟩
  · exact ⟨h2, rfl⟩
  · exact ⟨h3, rfl⟩
theorem wk_good {ws : List Cond} (h : ∀ w ∈ ws, w ∈ lw_tbl ∧ goodWord w = true) : GoodIn ws ws := fun w hw => ⟨hw, good_of_word (h w hw).2⟩
section A2
variable {p : Program} {l : Launch} {e : Env} {R : Room} {s : State} {m : MethodId} {args : Array Value} {below : List Frame} {meth : Method} {c : Code} {nL : Nat} {G : Gl} {al : Nat → Nat} {mk cs ss : Nat} {Q : State → Prop} {M : Mem} {pc : Nat} {lo lo' : List (Nat × Value)} {st stk : List Value} {own : String} {cc : ByteArray} {ret : Option FieldType}
theorem hp_recv (X : Cx p s m meth c G own cc nL ret) {ci a : Nat} {C : String} {T : u_T} {N : Nat} {ty : Nat → FieldType} {H : Heap} (hF : Fw ci C T N ty) (ha : Iz mk a (ci, 0)) (hH : Hp G al mk M H) : ∃ cell : Cell, H[al a]? = some cell ∧ cell.vm.isStatics = false ∧ s.vm.findClass C = some cell.cls := by
  obtain ⟨f1, f2, f3, f4, f5, f6⟩ := hF
  obtain ⟨q, hq⟩ := ws_q ha.1
  have hw := ws_at (cy := G.2.1) (al := al) (M := M) hq
  rw [cell_k ha.2, cellK_o f5] at hw
  exact va_recv (cx_K X) hH.1 f1 hw
theorem cx_S (X : Cx p s m meth c G own cc nL ret) : Sx G s := X.2.2.2.2.2.2
/-- any call on an object -/
theorem run_V (X : Cx p s m meth c G own cc nL ret) {y : MethodName} {bytes : ByteArray} {maxL : Nat} {rt : Option FieldType} {rm : Room} {As : List Value} {a ci idx : Nat} {C : String} {T : u_T} {N : Nat} {ty : Nat → FieldType} {Qc : Array Value → State → Outcome → State → Prop} (hF : Fw ci C T N ty) (ha : Iz mk a (ci, 0)) (hM : Kv l y bytes maxL rt rm G al mk M (.ref (al a) :: As) Qc) (hl : Cond.methodLink own idx y ∈ lw_tbl) (hV : Mv y C bytes maxL rt As.length) (hR : Rz rm R maxL cs ss) (hW : (st.map fun v => v.category).sum ≤ 8) (hst : stk = As.reverse ++ .ref (al a) :: st) (d : decode cc pc = .ok (.invokevirtual idx, 3))
    {H : Heap} {locs : List Loc} {ls : Array Slot} (hH : Hp G al mk M H) (hS : va_S (gA G) s.heap H locs) (hlv : lv_has ls nL lo) : va_Run p l e R s m args below meth c H locs cs ss 0 0 (F0 m pc ls stk) st (Qc (Value.ref (al a) :: As).toArray) (gA G) := by
  have hok := wk_Vok hl hV
  have hts : ∀ w ∈ wk_V own idx C y bytes maxL rt, w.before args s = true := fun w hw => cx_w X (hok w hw)
  exact va_runV (As := As) (rest := st) ⟨X.1, X.2.1, X.2.2.1, X.2.2.2.1, hts⟩ hM (cwV As.length hts (wk_good hok) rfl hR.1.1 hR.1.2 hV.2 hR.2.1) ⟨pn_blind, hp_recv X hF ha hH, fun U hU hW => ⟨rfl, (cx_S X).to hS hU hW, hp_to hH hU⟩⟩ rfl rfl hlv.1 hst (lv_room hW) d ⟨hR.2.2.1, hR.2.2.2⟩
theorem run_S (X : Cx p s m meth c G own cc nL ret) {y : MethodName} {bytes : ByteArray} {maxL : Nat} {rt : Option FieldType} {rm : Room} {As : List Value} {idx : Nat} {Qc : Array Value → State → Outcome → State → Prop} (hM : Kv l y bytes maxL rt rm G al mk M As Qc) (hl : Cond.methodLink own idx y ∈ lw_tbl) (hV : Ms y bytes maxL rt As.length) (hR : Rz rm R maxL cs ss) (hW : (st.map fun v => v.category).sum ≤ 8) (hst : stk = As.reverse ++ st) (d : decode cc pc = .ok (.invokestatic idx, 3))
    {H : Heap} {locs : List Loc} {ls : Array Slot} (hH : Hp G al mk M H) (hS : va_S (gA G) s.heap H locs) (hlv : lv_has ls nL lo) : va_Run p l e R s m args below meth c H locs cs ss 0 0 (F0 m pc ls stk) st (Qc As.toArray) (gA G) := by
  have hok := wk_Sok hl hV
  have hts : ∀ w ∈ wk_S own idx y bytes maxL rt, w.before args s = true := fun w hw => cx_w X (hok w hw)
  exact va_runS (As := As) (rest := st) ⟨X.1, X.2.1, X.2.2.1, X.2.2.2.1, hts⟩ hM (va_cwS As.length hts (wk_good hok) rfl hR.1.1 hR.1.2 hV.2 hR.2.1) ⟨pn_blind, fun U hU hW => ⟨rfl, (cx_S X).to hS hU hW, hp_to hH hU⟩⟩ rfl rfl hlv.1 hst (lv_room hW) d ⟨hR.2.2.1, hR.2.2.2⟩
/-- a private static method of a nest mate -/
theorem run_N (X : Cx p s m meth c G own cc nL ret) {y : MethodName} {host : String} {bytes : ByteArray} {maxL : Nat} {rt : Option FieldType} {rm : Room} {As : List Value} {idx : Nat} {Qc : Array Value → State → Outcome → State → Prop} (hM : Kv l y bytes maxL rt rm G al mk M As Qc) (hl : Cond.methodLinkNest own idx y host ∈ lw_tbl) (hV : Ms y bytes maxL rt As.length) (hR : Rz rm R maxL cs ss) (hW : (st.map fun v => v.category).sum ≤ 8) (hst : stk = As.reverse ++ st) (d : decode cc pc = .ok (.invokestatic idx, 3))
    {H : Heap} {locs : List Loc} {ls : Array Slot} (hH : Hp G al mk M H) (hS : va_S (gA G) s.heap H locs) (hlv : lv_has ls nL lo) : va_Run p l e R s m args below meth c H locs cs ss 0 0 (F0 m pc ls stk) st (Qc As.toArray) (gA G) := by
  have hok : ∀ w ∈ [Cond.code y bytes maxL rt], w ∈ lw_tbl ∧ goodWord w = true := fun w hw => by
    rw [List.mem_singleton.mp hw]
    exact ⟨hV.1.2.2, rfl⟩
  have hts : ∀ w ∈ [Cond.code y bytes maxL rt], w.before args s = true := fun w hw => cx_w X (hok w hw)
  exact va_runSN (As := As) (rest := st) (host := host) ⟨X.1, X.2.1, X.2.2.1, X.2.2.2.1, hts⟩ hM ⟨va_cnB As.length hts (wk_good hok) rfl hR.1.1 hR.1.2 ((cx_S X).2.2.2.2.2.2 _ _ _ _ hl) (cx_w X ⟨hV.1.2.1, rfl⟩) hV.2 hR.2.1, cx_w X ⟨hV.1.1, rfl⟩, trivial⟩ ⟨pn_blind, fun U hU hW => ⟨rfl, (cx_S X).to hS hU hW, hp_to hH hU⟩⟩ rfl rfl hlv.1 hst (lv_room hW) d ⟨hR.2.2.1, hR.2.2.2⟩
/-! what comes behind a call -/
theorem back_i {Q1 : Int32 → Mem → Prop} {a : Array Value} (kk : ∀ (r : Int32) (M' : Mem), Q1 r M' → Wa p l e R s m args below meth c nL G al mk cs ss Q M' (pc + 3) lo (.int r :: st)) {H : Heap} {locs : List Loc} {ls : Array Slot} (hS : va_S (gA G) s.heap H locs) (hlv : lv_has ls nL lo)
    (hr : va_Run p l e R s m args below meth c H locs cs ss 0 0 (F0 m pc ls stk) st (QI G al mk Q1 a) (gA G)) : W p l e R s m args below meth c H locs cs ss Q (F0 m pc ls stk) :=
  va_calli hr hS (fun q _ h => h) (fun q h => h) (fun r M' t H1 locs1 ht hvm hw hB hz hk hS1 => kk r M' hw H1 locs1 ls (by rw [← ht]; exact hB) hS1 hlv)
theorem back_v {Q1 : Mem → Prop} {a : Array Value} (kk : ∀ (M' : Mem), Q1 M' → Wa p l e R s m args below meth c nL G al mk cs ss Q M' (pc + 3) lo st) {H : Heap} {locs : List Loc} {ls : Array Slot} (hS : va_S (gA G) s.heap H locs) (hlv : lv_has ls nL lo)
    (hr : va_Run p l e R s m args below meth c H locs cs ss 0 0 (F0 m pc ls stk) st (QV G al mk Q1 a) (gA G)) : W p l e R s m args below meth c H locs cs ss Q (F0 m pc ls stk) :=
  va_callv hr hS (fun q _ h => h) (fun q h => h) (fun M' t H1 locs1 ht hvm hw hB hz hk hS1 => kk M' hw H1 locs1 ls (by rw [← ht]; exact hB) hS1 hlv)
theorem back_q {Q1 : Option Nat → Mem → Prop} {a : Array Value} (kn : ∀ (M' : Mem), Q1 none M' → Wa p l e R s m args below meth c nL G al mk cs ss Q M' (pc + 3) lo (.null :: st)) (ks : ∀ (n : Nat) (M' : Mem), Iz mk n (1, 0) → Q1 (some n) M' → Wa p l e R s m args below meth c nL G al mk cs ss Q M' (pc + 3) lo (.ref (al n) :: st)) {H : Heap} {locs : List Loc} {ls : Array Slot} (hS : va_S (gA G) s.heap H locs) (hlv : lv_has ls nL lo)
    (hr : va_Run p l e R s m args below meth c H locs cs ss 0 0 (F0 m pc ls stk) st (QQ G al mk Q1 a) (gA G)) : W p l e R s m args below meth c H locs cs ss Q (F0 m pc ls stk) := by
  refine va_callq hr hS (fun q _ h => h) (fun q h => h) (fun r u t H1 locs1 ht hvm hw hB hz hk hS1 => ?_)
  obtain ⟨o, M'⟩ := u
  obtain ⟨rfl, h2, h3⟩ := hw
  cases o with
  | none => exact kn M' h3 H1 locs1 ls (by rw [← ht]; exact hB) hS1 hlv
  | some n => exact ks n M' (h2 n rfl) h3 H1 locs1 ls (by rw [← ht]; exact hB) hS1 hlv
theorem back_r {Q1 : Nat → Mem → Prop} {a : Array Value} (kk : ∀ (n : Nat) (M' : Mem), Iz mk n (0, 0) → Q1 n M' → Wa p l e R s m args below meth c nL G al mk cs ss Q M' (pc + 3) lo (.ref (al n) :: st)) {H : Heap} {locs : List Loc} {ls : Array Slot} (hS : va_S (gA G) s.heap H locs) (hlv : lv_has ls nL lo)
    (hr : va_Run p l e R s m args below meth c H locs cs ss 0 0 (F0 m pc ls stk) st (QR G al mk Q1 a) (gA G)) : W p l e R s m args below meth c H locs cs ss Q (F0 m pc ls stk) := by
  refine va_callr hr hS (fun q _ h => h) (fun q h => h) (fun u ra t H1 locs1 ht hvm hw hB hz hk hS1 => ?_)
  obtain ⟨n, M'⟩ := u
  obtain ⟨h2, h3⟩ := hw
  obtain ⟨rfl, hB⟩ := hB
  exact kk n M' h2 h3 H1 locs1 ls (by rw [← ht]; exact hB) hS1 hlv
theorem a_cVi (X : Cx p s m meth c G own cc nL ret) {y : MethodName} {bytes : ByteArray} {maxL : Nat} {rt : Option FieldType} {rm : Room} {As : List Value} {a ci idx : Nat} {C : String} {T : u_T} {N : Nat} {ty : Nat → FieldType} {Q1 : Int32 → Mem → Prop} (hF : Fw ci C T N ty) (ha : Iz mk a (ci, 0)) (hM : Kv l y bytes maxL rt rm G al mk M (.ref (al a) :: As) (QI G al mk Q1)) (hl : Cond.methodLink own idx y ∈ lw_tbl) (hV : Mv y C bytes maxL rt As.length) (hR : Rz rm R maxL cs ss) (hW : (st.map fun v => v.category).sum ≤ 8) (hst : stk = As.reverse ++ .ref (al a) :: st) (d : decode cc pc = .ok (.invokevirtual idx, 3))
    (kk : ∀ (r : Int32) (M' : Mem), Q1 r M' → Wa p l e R s m args below meth c nL G al mk cs ss Q M' (pc + 3) lo (.int r :: st)) : Wa p l e R s m args below meth c nL G al mk cs ss Q M pc lo stk :=
  fun H locs ls hH hS hlv => back_i kk hS hlv (run_V X hF ha hM hl hV hR hW hst d hH hS hlv)
theorem a_cVv (X : Cx p s m meth c G own cc nL ret) {y : MethodName} {bytes : ByteArray} {maxL : Nat} {rt : Option FieldType} {rm : Room} {As : List Value} {a ci idx : Nat} {C : String} {T : u_T} {N : Nat} {ty : Nat → FieldType} {Q1 : Mem → Prop} (hF : Fw ci C T N ty) (ha : Iz mk a (ci, 0)) (hM : Kv l y bytes maxL rt rm G al mk M (.ref (al a) :: As) (QV G al mk Q1)) (hl : Cond.methodLink own idx y ∈ lw_tbl) (hV : Mv y C bytes maxL rt As.length) (hR : Rz rm R maxL cs ss) (hW : (st.map fun v => v.category).sum ≤ 8) (hst : stk = As.reverse ++ .ref (al a) :: st) (d : decode cc pc = .ok (.invokevirtual idx, 3))
    (kk : ∀ (M' : Mem), Q1 M' → Wa p l e R s m args below meth c nL G al mk cs ss Q M' (pc + 3) lo st) : Wa p l e R s m args below meth c nL G al mk cs ss Q M pc lo stk :=
  fun H locs ls hH hS hlv => back_v kk hS hlv (run_V X hF ha hM hl hV hR hW hst d hH hS hlv)
theorem a_cVq (X : Cx p s m meth c G own cc nL ret) {y : MethodName} {bytes : ByteArray} {maxL : Nat} {rt : Option FieldType} {rm : Room} {As : List Value} {a ci idx : Nat} {C : String} {T : u_T} {N : Nat} {ty : Nat → FieldType} {Q1 : Option Nat → Mem → Prop} (hF : Fw ci C T N ty) (ha : Iz mk a (ci, 0)) (hM : Kv l y bytes maxL rt rm G al mk M (.ref (al a) :: As) (QQ G al mk Q1)) (hl : Cond.methodLink own idx y ∈ lw_tbl) (hV : Mv y C bytes maxL rt As.length) (hR : Rz rm R maxL cs ss) (hW : (st.map fun v => v.category).sum ≤ 8) (hst : stk = As.reverse ++ .ref (al a) :: st) (d : decode cc pc = .ok (.invokevirtual idx, 3))
    (kn : ∀ (M' : Mem), Q1 none M' → Wa p l e R s m args below meth c nL G al mk cs ss Q M' (pc + 3) lo (.null :: st)) (ks : ∀ (n : Nat) (M' : Mem), Iz mk n (1, 0) → Q1 (some n) M' → Wa p l e R s m args below meth c nL G al mk cs ss Q M' (pc + 3) lo (.ref (al n) :: st)) : Wa p l e R s m args below meth c nL G al mk cs ss Q M pc lo stk :=
  fun H locs ls hH hS hlv => back_q kn ks hS hlv (run_V X hF ha hM hl hV hR hW hst d hH hS hlv)
theorem a_cVr (X : Cx p s m meth c G own cc nL ret) {y : MethodName} {bytes : ByteArray} {maxL : Nat} {rt : Option FieldType} {rm : Room} {As : List Value} {a ci idx : Nat} {C : String} {T : u_T} {N : Nat} {ty : Nat → FieldType} {Q1 : Nat → Mem → Prop} (hF : Fw ci C T N ty) (ha : Iz mk a (ci, 0)) (hM : Kv l y bytes maxL rt rm G al mk M (.ref (al a) :: As) (QR G al mk Q1)) (hl : Cond.methodLink own idx y ∈ lw_tbl) (hV : Mv y C bytes maxL rt As.length) (hR : Rz rm R maxL cs ss) (hW : (st.map fun v => v.category).sum ≤ 8) (hst : stk = As.reverse ++ .ref (al a) :: st) (d : decode cc pc = .ok (.invokevirtual idx, 3))
    (kk : ∀ (n : Nat) (M' : Mem), Iz mk n (0, 0) → Q1 n M' → Wa p l e R s m args below meth c nL G al mk cs ss Q M' (pc + 3) lo (.ref (al n) :: st)) : Wa p l e R s m args below meth c nL G al mk cs ss Q M pc lo stk :=
  fun H locs ls hH hS hlv => back_r kk hS hlv (run_V X hF ha hM hl hV hR hW hst d hH hS hlv)
theorem a_cSi (X : Cx p s m meth c G own cc nL ret) {y : MethodName} {bytes : ByteArray} {maxL : Nat} {rt : Option FieldType} {rm : Room} {As : List Value} {idx : Nat} {Q1 : Int32 → Mem → Prop} (hM : Kv l y bytes maxL rt rm G al mk M As (QI G al mk Q1)) (hl : Cond.methodLink own idx y ∈ lw_tbl) (hV : Ms y bytes maxL rt As.length) (hR : Rz rm R maxL cs ss) (hW : (st.map fun v => v.category).sum ≤ 8) (hst : stk = As.reverse ++ st) (d : decode cc pc = .ok (.invokestatic idx, 3))
    (kk : ∀ (r : Int32) (M' : Mem), Q1 r M' → Wa p l e R s m args below meth c nL G al mk cs ss Q M' (pc + 3) lo (.int r :: st)) : Wa p l e R s m args below meth c nL G al mk cs ss Q M pc lo stk :=
  fun H locs ls hH hS hlv => back_i kk hS hlv (run_S X hM hl hV hR hW hst d hH hS hlv)
theorem a_cSv (X : Cx p s m meth c G own cc nL ret) {y : MethodName} {bytes : ByteArray} {maxL : Nat} {rt : Option FieldType} {rm : Room} {As : List Value} {idx : Nat} {Q1 : Mem → Prop} (hM : Kv l y bytes maxL rt rm G al mk M As (QV G al mk Q1)) (hl : Cond.methodLink own idx y ∈ lw_tbl) (hV : Ms y bytes maxL rt As.length) (hR : Rz rm R maxL cs ss) (hW : (st.map fun v => v.category).sum ≤ 8) (hst : stk = As.reverse ++ st) (d : decode cc pc = .ok (.invokestatic idx, 3))
    (kk : ∀ (M' : Mem), Q1 M' → Wa p l e R s m args below meth c nL G al mk cs ss Q M' (pc + 3) lo st) : Wa p l e R s m args below meth c nL G al mk cs ss Q M pc lo stk :=
  fun H locs ls hH hS hlv => back_v kk hS hlv (run_S X hM hl hV hR hW hst d hH hS hlv)
theorem a_cNi (X : Cx p s m meth c G own cc nL ret) {y : MethodName} {bytes : ByteArray} {maxL : Nat} {rt : Option FieldType} {rm : Room} {As : List Value} {host : String} {idx : Nat} {Q1 : Int32 → Mem → Prop} (hM : Kv l y bytes maxL rt rm G al mk M As (QI G al mk Q1)) (hl : Cond.methodLinkNest own idx y host ∈ lw_tbl) (hV : Ms y bytes maxL rt As.length) (hR : Rz rm R maxL cs ss) (hW : (st.map fun v => v.category).sum ≤ 8) (hst : stk = As.reverse ++ st) (d : decode cc pc = .ok (.invokestatic idx, 3))
    (kk : ∀ (r : Int32) (M' : Mem), Q1 r M' → Wa p l e R s m args below meth c nL G al mk cs ss Q M' (pc + 3) lo (.int r :: st)) : Wa p l e R s m args below meth c nL G al mk cs ss Q M pc lo stk :=
  fun H locs ls hH hS hlv => back_i kk hS hlv (run_N X hM hl hV hR hW hst d hH hS hlv)
theorem a_cNv (X : Cx p s m meth c G own cc nL ret) {y : MethodName} {bytes : ByteArray} {maxL : Nat} {rt : Option FieldType} {rm : Room} {As : List Value} {host : String} {idx : Nat} {Q1 : Mem → Prop} (hM : Kv l y bytes maxL rt rm G al mk M As (QV G al mk Q1)) (hl : Cond.methodLinkNest own idx y host ∈ lw_tbl) (hV : Ms y bytes maxL rt As.length) (hR : Rz rm R maxL cs ss) (hW : (st.map fun v => v.category).sum ≤ 8) (hst : stk = As.reverse ++ st) (d : decode cc pc = .ok (.invokestatic idx, 3))
    (kk : ∀ (M' : Mem), Q1 M' → Wa p l e R s m args below meth c nL G al mk cs ss Q M' (pc + 3) lo st) : Wa p l e R s m args below meth c nL G al mk cs ss Q M pc lo stk :=
  fun H locs ls hH hS hlv => back_v kk hS hlv (run_N X hM hl hV hR hW hst d hH hS hlv)
end A2
