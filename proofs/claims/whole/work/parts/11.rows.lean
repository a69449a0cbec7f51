/-! ===== THE MACHINE OVER THE MEMORY: what stands, and a row an instruction ===== -/
abbrev Gl : Type := va_G × (Nat → ClassId) × (Nat → Nat) × (Nat → Nat) × Nat
def gA (G : Gl) : Nat → Prop := fun q => G.2.2.2.2 ≤ q
def tysOf (G : Gl) : List (ClassId × FieldType) := [(G.2.1 5, .byte), (G.2.1 6, .int), (G.2.1 7, .long), (G.2.1 8, .object "GapRows$Stream")]
/-! the literals, ten: five of TextReader, five of GapRowsModel -/
def slO (i : Nat) : String := if i < 5 then RX2 else RX4
def slK (i : Nat) : Nat := [81, 90, 95, 100, 116, 147, 152, 157, 162, 174].getD i 0
def slT (i : Nat) : String := ["ranks", "stream", "push", "erro\x72", "every"].getD (i % 5) ""
def slB (i : Nat) : List Int32 := ([[114, 97, 110, 107, 115], [115, 116, 114, 101, 97, 109], [112, 117, 115, 104], [101, 114, 114, 111, 114], [101, 118, 101, 114, 121]] : List (List Int32)).getD (i % 5) []
def slA (G : Gl) (i : Nat) (U : State) (H : Heap) : Prop :=
  va_O RJ0 (G.2.2.1 i) (gA G) U H ∧ va_OF RJ0 "code\x72" "B" (.int 0) (G.2.2.1 i) (gA G) U H ∧ va_OF RJ0 "value" "[B" (.ref (G.2.2.2.1 i)) (G.2.2.1 i) (gA G) U H ∧ va_T .byte (G.2.2.2.1 i) (slB i).length (fun j => .int ((slB i).getD j 0)) (gA G) U H
def Sx (G : Gl) (U : State) : Prop :=
  (∀ w ∈ lw_tbl, goodWord w = true → ∀ a : Array Value, w.before a U = true) ∧ va_K G.1 vwCl (tysOf G) U ∧ (∀ i, i < 10 → slA G i U U.heap) ∧ (∀ i, i < 10 → vk_R (slO i) (slK i) (slT i) (G.2.2.1 i) U) ∧
  va_Z RJ0 "COMPACT_STRINGS" "Z" (.int 1) (gA G) U U.heap ∧ va_Zq RJ3 "SIOOBE_FORMATTE\x52" "Ljava/util/function/BiFunction;" (gA G) U U.heap ∧
  (∀ (a : String) (i : Nat) (x : MethodName) (h : String), Cond.methodLinkNest a i x h ∈ lw_tbl → va_Nw (.methodLinkNest a i x h) U)
theorem Sx.to {G : Gl} {s U : State} {H : Heap} {locs : List Loc} (h : Sx G s) (hS : va_S (gA G) s.heap H locs) (hU : U.heap = H) (hW : s.WarmedH U.vm) : Sx G U := by
  obtain ⟨h1, h2, h3, h4, h5, h6, h7⟩ := h
  subst hU
  refine ⟨fun w hw hg a => word_at hW (good_of_word hg) (h1 w hw hg #[]), h2.moved hW.alike, fun i hi => ?_, fun i hi => (h4 i hi).warm hW, (h5.moved hW.alike).kept hS.2.1, (h6.moved hW.alike).kept hS.2.1, fun a i x h9 hm => (h7 a i x h9 hm).warmM hW⟩
  obtain ⟨a1, a2, a3, a4⟩ := h3 i hi
  exact ⟨(a1.moved hW.alike).kept hS.2.1, (a2.moved hW.alike).kept hS.2.1, (a3.moved hW.alike).kept hS.2.1, (a4.moved hW.alike).kept hS.2.1⟩
/-- the heap holds the memory -/
def Hp (G : Gl) (al : Nat → Nat) (mk : Nat) (M : Mem) (H : Heap) : Prop := va_P G.1 vwCl (wsOf G.2.1 al mk M) H ∧ va_D (gA G) (wsOf G.2.1 al mk M)
theorem Hp.set {G : Gl} {al : Nat → Nat} {mk : Nat} {M M' : Mem} {q a : Nat} {e : va_E} {H H1 : Heap} (h : Hp G al mk M H) (hq : (nms mk)[q]? = some a) (he : e = cellOf G.2.1 al mk M' a) (ho : ∀ b, b ≠ a → M'.1 b = M.1 b ∧ M'.2 b = M.2 b) (hP : va_P G.1 vwCl ((wsOf G.2.1 al mk M).set q (al a, e)) H1) (hD : va_D (gA G) ((wsOf G.2.1 al mk M).set q (al a, e))) : Hp G al mk M' H1 := by
  rw [ws_set h.2 hq he ho] at hP hD
  exact ⟨hP, hD⟩
theorem hp_to {G : Gl} {al : Nat → Nat} {mk : Nat} {M : Mem} {H : Heap} {t : State} (h : Hp G al mk M H) (ht : t.heap = H) : Hp G al mk M t.heap := by rw [ht]; exact h
def Pn (G : Gl) (al : Nat → Nat) (mk : Nat) (M : Mem) (av : List Value) : Array Value → State → Prop := va_Pc av (fun U => Sx G U ∧ Hp G al mk M U.heap)
/-- a contract: from this memory, the answer and the memory behind it meet Qc -/
def Kv (l : Launch) (y : MethodName) (cc : ByteArray) (nL : Nat) (ret : Option FieldType) (rm : Room) (G : Gl) (al : Nat → Nat) (mk : Nat) (M : Mem) (av : List Value) (Qc : Array Value → State → Outcome → State → Prop) : Prop :=
  Met l y [.code y cc nL ret] rm (Pn G al mk M av) Qc 0 0 (gA G)
def QI (G : Gl) (al : Nat → Nat) (mk : Nat) (Q : Int32 → Mem → Prop) : Array Value → State → Outcome → State → Prop := va_Qi (S := Mem) (fun r M => Q r M) (fun M t => Hp G al mk M t.heap) (gA G)
def QV (G : Gl) (al : Nat → Nat) (mk : Nat) (Q : Mem → Prop) : Array Value → State → Outcome → State → Prop := va_Qv (S := Mem) (fun M => Q M) (fun M t => Hp G al mk M t.heap) (gA G)
/-- an answer that is a Stream, or null -/
def QQ (G : Gl) (al : Nat → Nat) (mk : Nat) (Q : Option Nat → Mem → Prop) : Array Value → State → Outcome → State → Prop := va_Qq (S := Option Nat × Mem) (fun r u => r = u.1.map al ∧ (∀ n, u.1 = some n → Iz mk n (1, 0)) ∧ Q u.1 u.2) (fun u t => Hp G al mk u.2 t.heap) (gA G)
/-- an answer that is a Row -/
def QR (G : Gl) (al : Nat → Nat) (mk : Nat) (Q : Nat → Mem → Prop) : Array Value → State → Outcome → State → Prop := va_Qr (S := Nat × Mem) (fun u => Iz mk u.1 (0, 0) ∧ Q u.1 u.2) (fun u a t => a = al u.1 ∧ Hp G al mk u.2 t.heap) (gA G)
/-- what holds all through a method -/
def Cx (p : Program) (s : State) (m : MethodId) (meth : Method) (c : Code) (G : Gl) (own : String) (cc : ByteArray) (nL : Nat) (ret : Option FieldType) : Prop :=
  p.tables.exec = Jvm.exec ∧ c.code = cc ∧ c.maxLocals = nL ∧ s.vm.findClass own = some m.cls ∧ meth.sig.returnType = ret ∧ meth.locks = false ∧ Sx G s
def Wa (p : Program) (l : Launch) (e : Env) (R : Room) (s : State) (m : MethodId) (args : Array Value) (below : List Frame) (meth : Method) (c : Code) (nL : Nat) (G : Gl) (al : Nat → Nat) (mk cs ss : Nat) (Q : State → Prop) (M : Mem) (pc : Nat) (lo : List (Nat × Value)) (st : List Value) : Prop :=
  ∀ (H : Heap) (locs : List Loc) (ls : Array Slot), Hp G al mk M H → va_S (gA G) s.heap H locs → lv_has ls nL lo → W p l e R s m args below meth c H locs cs ss Q (F0 m pc ls st)
theorem a_head {l : Launch} {y : MethodName} {cc : ByteArray} {nL : Nat} {ret : Option FieldType} {rm : Room} {G : Gl} {al : Nat → Nat} {mk : Nat} {M : Mem} {av : List Value} {Qc : Array Value → State → Outcome → State → Prop} (hy : plainName y.cls = true) (hn : (lg_sl av).length ≤ nL)
    (body : ∀ (p : Program) (e : Env) (s : State) (m : MethodId) (below : List Frame) (meth : Method) (c : Code), Cx p s m meth c G y.cls cc nL ret → Wa p l e rm s m av.toArray below meth c nL G al mk 0 0 (MQ below Qc av.toArray s 0 0 (gA G)) M 0 (lv_args 0 av) []) : Kv l y cc nL ret rm G al mk M av Qc := by
  refine Met.ofW (cc := cc) (maxL := nL) (ret := ret) hy rfl ?_
  intro p e s m args below meth c s₁ B hml hv
  obtain ⟨rfl, hx, hh⟩ := hv
  rw [lg_entry_eq]
  exact body p e s m below meth c ⟨B.exec, B.bytes, hml, findClass_of_methodNamed B.named, B.returns, B.notSynchronized, hx⟩ s.heap [] _ hh va_S.rf (lv_entry av hn)
section A1
variable {p : Program} {l : Launch} {e : Env} {R : Room} {s : State} {m : MethodId} {args : Array Value} {below : List Frame} {meth : Method} {c : Code} {nL : Nat} {G : Gl} {al : Nat → Nat} {mk cs ss : Nat} {Q : State → Prop} {M : Mem} {pc : Nat} {lo lo' : List (Nat × Value)} {st : List Value} {own : String} {cc : ByteArray} {ret : Option FieldType}
theorem a_iconst (X : Cx p s m meth c G own cc nL ret) {n : Int} {v : Int32} (d : decode cc pc = .ok (.iconst n, 1)) (hv : Int32.ofInt n = v) (k : Wa p l e R s m args below meth c nL G al mk cs ss Q M (pc + 1) lo (.int v :: st)) : Wa p l e R s m args below meth c nL G al mk cs ss Q M pc lo st :=
  fun H locs ls hH hS hl => lv_iconst X.1 X.2.1 d hv (k H locs ls hH hS hl)
theorem a_bipush (X : Cx p s m meth c G own cc nL ret) {n : Int} {v : Int32} (d : decode cc pc = .ok (.bipush n, 2)) (hv : (Int8.ofInt n).toInt32 = v) (k : Wa p l e R s m args below meth c nL G al mk cs ss Q M (pc + 2) lo (.int v :: st)) : Wa p l e R s m args below meth c nL G al mk cs ss Q M pc lo st :=
  fun H locs ls hH hS hl => lv_bipush X.1 X.2.1 d hv (k H locs ls hH hS hl)
theorem a_sipush (X : Cx p s m meth c G own cc nL ret) {n : Int} {v : Int32} (d : decode cc pc = .ok (.sipush n, 3)) (hv : (Int16.ofInt n).toInt32 = v) (k : Wa p l e R s m args below meth c nL G al mk cs ss Q M (pc + 3) lo (.int v :: st)) : Wa p l e R s m args below meth c nL G al mk cs ss Q M pc lo st :=
  fun H locs ls hH hS hl => lv_sipush X.1 X.2.1 d hv (k H locs ls hH hS hl)
theorem a_lconst (X : Cx p s m meth c G own cc nL ret) {n : Fin 2} {v : Int64} (d : decode cc pc = .ok (.lconst n, 1)) (hv : Int64.ofNat (n : Nat) = v) (k : Wa p l e R s m args below meth c nL G al mk cs ss Q M (pc + 1) lo (.long v :: st)) : Wa p l e R s m args below meth c nL G al mk cs ss Q M pc lo st :=
  fun H locs ls hH hS hl => lv_lconst X.1 X.2.1 d hv (k H locs ls hH hS hl)
theorem a_iload_n (X : Cx p s m meth c G own cc nL ret) {n : Fin 4} {i : Nat} {x : Int32} (d : decode cc pc = .ok (.iload_n n, 1)) (hi : (n : Nat) = i) (j : Nat) (hj : lo[j]? = some (i, .int x)) (k : Wa p l e R s m args below meth c nL G al mk cs ss Q M (pc + 1) lo (.int x :: st)) : Wa p l e R s m args below meth c nL G al mk cs ss Q M pc lo st :=
  fun H locs ls hH hS hl => lv_iload_n X.1 X.2.1 d hi (lv_at hl j hj) (k H locs ls hH hS hl)
theorem a_iload (X : Cx p s m meth c G own cc nL ret) {i : Nat} {x : Int32} (d : decode cc pc = .ok (.iload i, 2)) (j : Nat) (hj : lo[j]? = some (i, .int x)) (k : Wa p l e R s m args below meth c nL G al mk cs ss Q M (pc + 2) lo (.int x :: st)) : Wa p l e R s m args below meth c nL G al mk cs ss Q M pc lo st :=
  fun H locs ls hH hS hl => lv_iload X.1 X.2.1 d (lv_at hl j hj) (k H locs ls hH hS hl)
theorem a_lload_n (X : Cx p s m meth c G own cc nL ret) {n : Fin 4} {i : Nat} {x : Int64} (d : decode cc pc = .ok (.lload_n n, 1)) (hi : (n : Nat) = i) (j : Nat) (hj : lo[j]? = some (i, .long x)) (k : Wa p l e R s m args below meth c nL G al mk cs ss Q M (pc + 1) lo (.long x :: st)) : Wa p l e R s m args below meth c nL G al mk cs ss Q M pc lo st :=
  fun H locs ls hH hS hl => lv_lload_n X.1 X.2.1 d hi (lv_at hl j hj) (k H locs ls hH hS hl)
theorem a_aload_n (X : Cx p s m meth c G own cc nL ret) {n : Fin 4} {i : Nat} {x : Nat} (d : decode cc pc = .ok (.aload_n n, 1)) (hi : (n : Nat) = i) (j : Nat) (hj : lo[j]? = some (i, .ref x)) (k : Wa p l e R s m args below meth c nL G al mk cs ss Q M (pc + 1) lo (.ref x :: st)) : Wa p l e R s m args below meth c nL G al mk cs ss Q M pc lo st :=
  fun H locs ls hH hS hl => lv_aload_n X.1 X.2.1 d hi (lv_at hl j hj) (k H locs ls hH hS hl)
theorem a_aload (X : Cx p s m meth c G own cc nL ret) {i : Nat} {x : Nat} (d : decode cc pc = .ok (.aload i, 2)) (j : Nat) (hj : lo[j]? = some (i, .ref x)) (k : Wa p l e R s m args below meth c nL G al mk cs ss Q M (pc + 2) lo (.ref x :: st)) : Wa p l e R s m args below meth c nL G al mk cs ss Q M pc lo st :=
  fun H locs ls hH hS hl => lv_aload X.1 X.2.1 d (lv_at hl j hj) (k H locs ls hH hS hl)
theorem a_aload_nN (X : Cx p s m meth c G own cc nL ret) {n : Fin 4} {i : Nat} (d : decode cc pc = .ok (.aload_n n, 1)) (hi : (n : Nat) = i) (j : Nat) (hj : lo[j]? = some (i, .null)) (k : Wa p l e R s m args below meth c nL G al mk cs ss Q M (pc + 1) lo (.null :: st)) : Wa p l e R s m args below meth c nL G al mk cs ss Q M pc lo st :=
  fun H locs ls hH hS hl => lv_aload_nN X.1 X.2.1 d hi (lv_at hl j hj) (k H locs ls hH hS hl)
theorem a_aloadN (X : Cx p s m meth c G own cc nL ret) {i : Nat} (d : decode cc pc = .ok (.aload i, 2)) (j : Nat) (hj : lo[j]? = some (i, .null)) (k : Wa p l e R s m args below meth c nL G al mk cs ss Q M (pc + 2) lo (.null :: st)) : Wa p l e R s m args below meth c nL G al mk cs ss Q M pc lo st :=
  fun H locs ls hH hS hl => lv_aloadN X.1 X.2.1 d (lv_at hl j hj) (k H locs ls hH hS hl)
theorem a_istore_n (X : Cx p s m meth c G own cc nL ret) {n : Fin 4} {i : Nat} {x : Int32} (d : decode cc pc = .ok (.istore_n n, 1)) (hi : (n : Nat) = i) (hn : i < nL) (hl : (i, Value.int x) :: lo.filter (fun q => !(q.1 == i) && !(q.1 + 1 == i && q.2.category == 2)) = lo') (k : Wa p l e R s m args below meth c nL G al mk cs ss Q M (pc + 1) lo' st) : Wa p l e R s m args below meth c nL G al mk cs ss Q M pc lo (.int x :: st) :=
  fun H locs ls hH hS h => lv_istore_n X.1 X.2.1 d hi h hn hl (fun ls' h' => k H locs ls' hH hS h')
theorem a_istore (X : Cx p s m meth c G own cc nL ret) {i : Nat} {x : Int32} (d : decode cc pc = .ok (.istore i, 2)) (hn : i < nL) (hl : (i, Value.int x) :: lo.filter (fun q => !(q.1 == i) && !(q.1 + 1 == i && q.2.category == 2)) = lo') (k : Wa p l e R s m args below meth c nL G al mk cs ss Q M (pc + 2) lo' st) : Wa p l e R s m args below meth c nL G al mk cs ss Q M pc lo (.int x :: st) :=
  fun H locs ls hH hS h => lv_istore X.1 X.2.1 d h hn hl (fun ls' h' => k H locs ls' hH hS h')
theorem a_lstore_n (X : Cx p s m meth c G own cc nL ret) {n : Fin 4} {i : Nat} {x : Int64} (d : decode cc pc = .ok (.lstore_n n, 1)) (hi : (n : Nat) = i) (hn : i + 1 < nL) (hl : (i, Value.long x) :: lo.filter (fun q => !(q.1 == i) && (!(q.1 == i + 1) && !(q.1 + 1 == i && q.2.category == 2))) = lo') (k : Wa p l e R s m args below meth c nL G al mk cs ss Q M (pc + 1) lo' st) : Wa p l e R s m args below meth c nL G al mk cs ss Q M pc lo (.long x :: st) :=
  fun H locs ls hH hS h => lv_lstore_n X.1 X.2.1 d hi h hn hl (fun ls' h' => k H locs ls' hH hS h')
theorem a_astore_n (X : Cx p s m meth c G own cc nL ret) {n : Fin 4} {i : Nat} {x : Nat} (d : decode cc pc = .ok (.astore_n n, 1)) (hi : (n : Nat) = i) (hn : i < nL) (hl : (i, Value.ref x) :: lo.filter (fun q => !(q.1 == i) && !(q.1 + 1 == i && q.2.category == 2)) = lo') (k : Wa p l e R s m args below meth c nL G al mk cs ss Q M (pc + 1) lo' st) : Wa p l e R s m args below meth c nL G al mk cs ss Q M pc lo (.ref x :: st) :=
  fun H locs ls hH hS h => lv_astore_n X.1 X.2.1 d hi h hn hl (fun ls' h' => k H locs ls' hH hS h')
theorem a_astore (X : Cx p s m meth c G own cc nL ret) {i : Nat} {x : Nat} (d : decode cc pc = .ok (.astore i, 2)) (hn : i < nL) (hl : (i, Value.ref x) :: lo.filter (fun q => !(q.1 == i) && !(q.1 + 1 == i && q.2.category == 2)) = lo') (k : Wa p l e R s m args below meth c nL G al mk cs ss Q M (pc + 2) lo' st) : Wa p l e R s m args below meth c nL G al mk cs ss Q M pc lo (.ref x :: st) :=
  fun H locs ls hH hS h => lv_astore X.1 X.2.1 d h hn hl (fun ls' h' => k H locs ls' hH hS h')
theorem a_astore_nN (X : Cx p s m meth c G own cc nL ret) {n : Fin 4} {i : Nat} (d : decode cc pc = .ok (.astore_n n, 1)) (hi : (n : Nat) = i) (hn : i < nL) (hl : (i, Value.null) :: lo.filter (fun q => !(q.1 == i) && !(q.1 + 1 == i && q.2.category == 2)) = lo') (k : Wa p l e R s m args below meth c nL G al mk cs ss Q M (pc + 1) lo' st) : Wa p l e R s m args below meth c nL G al mk cs ss Q M pc lo (.null :: st) :=
  fun H locs ls hH hS h => lv_astore_nN X.1 X.2.1 d hi h hn hl (fun ls' h' => k H locs ls' hH hS h')
theorem a_astoreN (X : Cx p s m meth c G own cc nL ret) {i : Nat} (d : decode cc pc = .ok (.astore i, 2)) (hn : i < nL) (hl : (i, Value.null) :: lo.filter (fun q => !(q.1 == i) && !(q.1 + 1 == i && q.2.category == 2)) = lo') (k : Wa p l e R s m args below meth c nL G al mk cs ss Q M (pc + 2) lo' st) : Wa p l e R s m args below meth c nL G al mk cs ss Q M pc lo (.null :: st) :=
  fun H locs ls hH hS h => lv_astoreN X.1 X.2.1 d h hn hl (fun ls' h' => k H locs ls' hH hS h')
theorem a_iinc (X : Cx p s m meth c G own cc nL ret) {i : Nat} {n : Int} {x v : Int32} (d : decode cc pc = .ok (.iinc i n, 3)) (j : Nat) (hj : lo[j]? = some (i, .int x)) (hv : x + Int32.ofInt n = v) (hn : i < nL) (hl : (i, Value.int v) :: lo.filter (fun q => !(q.1 == i) && !(q.1 + 1 == i && q.2.category == 2)) = lo') (k : Wa p l e R s m args below meth c nL G al mk cs ss Q M (pc + 3) lo' st) : Wa p l e R s m args below meth c nL G al mk cs ss Q M pc lo st :=
  fun H locs ls hH hS h => lv_iinc X.1 X.2.1 d h hj hv hn hl (fun ls' h' => k H locs ls' hH hS h')
theorem a_iadd (X : Cx p s m meth c G own cc nL ret) {x y : Int32} (d : decode cc pc = .ok (.iadd, 1)) (k : Wa p l e R s m args below meth c nL G al mk cs ss Q M (pc + 1) lo (.int (x + y) :: st)) : Wa p l e R s m args below meth c nL G al mk cs ss Q M pc lo (.int y :: .int x :: st) :=
  fun H locs ls hH hS hl => lv_iadd X.1 X.2.1 d (k H locs ls hH hS hl)
theorem a_isub (X : Cx p s m meth c G own cc nL ret) {x y : Int32} (d : decode cc pc = .ok (.isub, 1)) (k : Wa p l e R s m args below meth c nL G al mk cs ss Q M (pc + 1) lo (.int (x - y) :: st)) : Wa p l e R s m args below meth c nL G al mk cs ss Q M pc lo (.int y :: .int x :: st) :=
  fun H locs ls hH hS hl => lv_isub X.1 X.2.1 d (k H locs ls hH hS hl)
theorem a_imul (X : Cx p s m meth c G own cc nL ret) {x y : Int32} (d : decode cc pc = .ok (.imul, 1)) (k : Wa p l e R s m args below meth c nL G al mk cs ss Q M (pc + 1) lo (.int (x * y) :: st)) : Wa p l e R s m args below meth c nL G al mk cs ss Q M pc lo (.int y :: .int x :: st) :=
  fun H locs ls hH hS hl => lv_imul X.1 X.2.1 d (k H locs ls hH hS hl)
theorem a_idiv (X : Cx p s m meth c G own cc nL ret) {x y : Int32} (d : decode cc pc = .ok (.idiv, 1)) (hne : ¬ y = 0) (k : Wa p l e R s m args below meth c nL G al mk cs ss Q M (pc + 1) lo (.int (x / y) :: st)) : Wa p l e R s m args below meth c nL G al mk cs ss Q M pc lo (.int y :: .int x :: st) :=
  fun H locs ls hH hS hl => lv_idiv X.1 X.2.1 d hne (k H locs ls hH hS hl)
theorem a_irem (X : Cx p s m meth c G own cc nL ret) {x y : Int32} (d : decode cc pc = .ok (.irem, 1)) (hne : ¬ y = 0) (k : Wa p l e R s m args below meth c nL G al mk cs ss Q M (pc + 1) lo (.int (x - x / y * y) :: st)) : Wa p l e R s m args below meth c nL G al mk cs ss Q M pc lo (.int y :: .int x :: st) :=
  fun H locs ls hH hS hl => lv_irem X.1 X.2.1 d hne (k H locs ls hH hS hl)
theorem a_iand (X : Cx p s m meth c G own cc nL ret) {x y : Int32} (d : decode cc pc = .ok (.iand, 1)) (k : Wa p l e R s m args below meth c nL G al mk cs ss Q M (pc + 1) lo (.int (x &&& y) :: st)) : Wa p l e R s m args below meth c nL G al mk cs ss Q M pc lo (.int y :: .int x :: st) :=
  fun H locs ls hH hS hl => lv_iand X.1 X.2.1 d (k H locs ls hH hS hl)
theorem a_ishl (X : Cx p s m meth c G own cc nL ret) {x y : Int32} (d : decode cc pc = .ok (.ishl, 1)) (k : Wa p l e R s m args below meth c nL G al mk cs ss Q M (pc + 1) lo (.int (x <<< (y &&& 31)) :: st)) : Wa p l e R s m args below meth c nL G al mk cs ss Q M pc lo (.int y :: .int x :: st) :=
  fun H locs ls hH hS hl => lv_ishl X.1 X.2.1 d (k H locs ls hH hS hl)
theorem a_ishr (X : Cx p s m meth c G own cc nL ret) {x y : Int32} (d : decode cc pc = .ok (.ishr, 1)) (k : Wa p l e R s m args below meth c nL G al mk cs ss Q M (pc + 1) lo (.int (x >>> (y &&& 31)) :: st)) : Wa p l e R s m args below meth c nL G al mk cs ss Q M pc lo (.int y :: .int x :: st) :=
  fun H locs ls hH hS hl => lv_ishr X.1 X.2.1 d (k H locs ls hH hS hl)
theorem a_iushr (X : Cx p s m meth c G own cc nL ret) {x y : Int32} (d : decode cc pc = .ok (.iushr, 1)) (k : Wa p l e R s m args below meth c nL G al mk cs ss Q M (pc + 1) lo (.int (x.toUInt32 >>> (y.toUInt32 &&& Int32.toUInt32 31)).toInt32 :: st)) : Wa p l e R s m args below meth c nL G al mk cs ss Q M pc lo (.int y :: .int x :: st) :=
  fun H locs ls hH hS hl => lv_iushr X.1 X.2.1 d rfl (k H locs ls hH hS hl)
theorem a_lshl (X : Cx p s m meth c G own cc nL ret) {x : Int64} {y : Int32} (d : decode cc pc = .ok (.lshl, 1)) (k : Wa p l e R s m args below meth c nL G al mk cs ss Q M (pc + 1) lo (.long (x <<< (y.toInt64 &&& 63)) :: st)) : Wa p l e R s m args below meth c nL G al mk cs ss Q M pc lo (.int y :: .long x :: st) :=
  fun H locs ls hH hS hl => lv_lshl X.1 X.2.1 d rfl (k H locs ls hH hS hl)
theorem a_lor (X : Cx p s m meth c G own cc nL ret) {x y : Int64} (d : decode cc pc = .ok (.lor, 1)) (k : Wa p l e R s m args below meth c nL G al mk cs ss Q M (pc + 1) lo (.long (x ||| y) :: st)) : Wa p l e R s m args below meth c nL G al mk cs ss Q M pc lo (.long y :: .long x :: st) :=
  fun H locs ls hH hS hl => lv_lor X.1 X.2.1 d (k H locs ls hH hS hl)
theorem a_lcmp (X : Cx p s m meth c G own cc nL ret) {x y : Int64} (d : decode cc pc = .ok (.lcmp, 1)) (k : Wa p l e R s m args below meth c nL G al mk cs ss Q M (pc + 1) lo (.int (lg_cmp x y) :: st)) : Wa p l e R s m args below meth c nL G al mk cs ss Q M pc lo (.long y :: .long x :: st) :=
  fun H locs ls hH hS hl => W.lcmp X.1 X.2.1 d (k H locs ls hH hS hl)
theorem a_i2l (X : Cx p s m meth c G own cc nL ret) {x : Int32} (d : decode cc pc = .ok (.i2l, 1)) (k : Wa p l e R s m args below meth c nL G al mk cs ss Q M (pc + 1) lo (.long x.toInt64 :: st)) : Wa p l e R s m args below meth c nL G al mk cs ss Q M pc lo (.int x :: st) :=
  fun H locs ls hH hS hl => lv_i2l X.1 X.2.1 d rfl (k H locs ls hH hS hl)
theorem a_i2b (X : Cx p s m meth c G own cc nL ret) {x : Int32} (d : decode cc pc = .ok (.i2b, 1)) (k : Wa p l e R s m args below meth c nL G al mk cs ss Q M (pc + 1) lo (.int x.toInt8.toInt32 :: st)) : Wa p l e R s m args below meth c nL G al mk cs ss Q M pc lo (.int x :: st) :=
  fun H locs ls hH hS hl => lv_i2b X.1 X.2.1 d rfl (k H locs ls hH hS hl)
theorem a_i2c (X : Cx p s m meth c G own cc nL ret) {x : Int32} (d : decode cc pc = .ok (.i2c, 1)) (k : Wa p l e R s m args below meth c nL G al mk cs ss Q M (pc + 1) lo (.int (x.toUInt32 % 65536).toInt32 :: st)) : Wa p l e R s m args below meth c nL G al mk cs ss Q M pc lo (.int x :: st) :=
  fun H locs ls hH hS hl => lv_i2c X.1 X.2.1 d rfl (k H locs ls hH hS hl)
theorem a_dup (X : Cx p s m meth c G own cc nL ret) {v : Value} (d : decode cc pc = .ok (.dup, 1)) (hv : v.category = 1) (k : Wa p l e R s m args below meth c nL G al mk cs ss Q M (pc + 1) lo (v :: v :: st)) : Wa p l e R s m args below meth c nL G al mk cs ss Q M pc lo (v :: st) :=
  fun H locs ls hH hS hl => lv_dup X.1 X.2.1 d hv (k H locs ls hH hS hl)
theorem a_dup2 (X : Cx p s m meth c G own cc nL ret) {v w : Value} (d : decode cc pc = .ok (.dup2, 1)) (hv : v.category = 1) (hw : w.category = 1) (k : Wa p l e R s m args below meth c nL G al mk cs ss Q M (pc + 1) lo (v :: w :: v :: w :: st)) : Wa p l e R s m args below meth c nL G al mk cs ss Q M pc lo (v :: w :: st) :=
  fun H locs ls hH hS hl => lv_dup2_11 X.1 X.2.1 d hv hw (k H locs ls hH hS hl)
theorem a_pop (X : Cx p s m meth c G own cc nL ret) {v : Value} (d : decode cc pc = .ok (.pop, 1)) (hv : v.category = 1) (k : Wa p l e R s m args below meth c nL G al mk cs ss Q M (pc + 1) lo st) : Wa p l e R s m args below meth c nL G al mk cs ss Q M pc lo (v :: st) :=
  fun H locs ls hH hS hl => lv_pop X.1 X.2.1 d hv (k H locs ls hH hS hl)
theorem a_null (X : Cx p s m meth c G own cc nL ret) (d : decode cc pc = .ok (.aconst_null, 1)) (k : Wa p l e R s m args below meth c nL G al mk cs ss Q M (pc + 1) lo (.null :: st)) : Wa p l e R s m args below meth c nL G al mk cs ss Q M pc lo st :=
  fun H locs ls hH hS hl => lv_null X.1 X.2.1 d (k H locs ls hH hS hl)
theorem a_goto (X : Cx p s m meth c G own cc nL ret) {off : Int} {tgt : Nat} (d : decode cc pc = .ok (.goto off, 3)) (ht : (pc : Int) + off = (tgt : Int)) (k : Wa p l e R s m args below meth c nL G al mk cs ss Q M tgt lo st) : Wa p l e R s m args below meth c nL G al mk cs ss Q M pc lo st :=
  fun H locs ls hH hS hl => lv_goto X.1 X.2.1 d ht (k H locs ls hH hS hl)
theorem a_icmp_eq (X : Cx p s m meth c G own cc nL ret) {x y : Int32} {off : Int} {tgt : Nat} (d : decode cc pc = .ok (.if_icmp .eq off, 3)) (ht : (pc : Int) + off = (tgt : Int)) (kt : x = y → Wa p l e R s m args below meth c nL G al mk cs ss Q M tgt lo st) (kf : ¬ x = y → Wa p l e R s m args below meth c nL G al mk cs ss Q M (pc + 3) lo st) : Wa p l e R s m args below meth c nL G al mk cs ss Q M pc lo (.int y :: .int x :: st) :=
  fun H locs ls hH hS hl => lv_icmp_eq X.1 X.2.1 d ht (fun z => kt z H locs ls hH hS hl) (fun z => kf z H locs ls hH hS hl)
theorem a_icmp_ne (X : Cx p s m meth c G own cc nL ret) {x y : Int32} {off : Int} {tgt : Nat} (d : decode cc pc = .ok (.if_icmp .ne off, 3)) (ht : (pc : Int) + off = (tgt : Int)) (kt : ¬ x = y → Wa p l e R s m args below meth c nL G al mk cs ss Q M tgt lo st) (kf : x = y → Wa p l e R s m args below meth c nL G al mk cs ss Q M (pc + 3) lo st) : Wa p l e R s m args below meth c nL G al mk cs ss Q M pc lo (.int y :: .int x :: st) :=
  fun H locs ls hH hS hl => lv_icmp_ne X.1 X.2.1 d ht (fun z => kt z H locs ls hH hS hl) (fun z => kf z H locs ls hH hS hl)
theorem a_icmp_lt (X : Cx p s m meth c G own cc nL ret) {x y : Int32} {off : Int} {tgt : Nat} (d : decode cc pc = .ok (.if_icmp .lt off, 3)) (ht : (pc : Int) + off = (tgt : Int)) (kt : x < y → Wa p l e R s m args below meth c nL G al mk cs ss Q M tgt lo st) (kf : ¬ x < y → Wa p l e R s m args below meth c nL G al mk cs ss Q M (pc + 3) lo st) : Wa p l e R s m args below meth c nL G al mk cs ss Q M pc lo (.int y :: .int x :: st) :=
  fun H locs ls hH hS hl => lv_icmp_lt X.1 X.2.1 d ht (fun z => kt z H locs ls hH hS hl) (fun z => kf z H locs ls hH hS hl)
theorem a_icmp_le (X : Cx p s m meth c G own cc nL ret) {x y : Int32} {off : Int} {tgt : Nat} (d : decode cc pc = .ok (.if_icmp .le off, 3)) (ht : (pc : Int) + off = (tgt : Int)) (kt : x ≤ y → Wa p l e R s m args below meth c nL G al mk cs ss Q M tgt lo st) (kf : ¬ x ≤ y → Wa p l e R s m args below meth c nL G al mk cs ss Q M (pc + 3) lo st) : Wa p l e R s m args below meth c nL G al mk cs ss Q M pc lo (.int y :: .int x :: st) :=
  fun H locs ls hH hS hl => lv_icmp_le X.1 X.2.1 d ht (fun z => kt z H locs ls hH hS hl) (fun z => kf z H locs ls hH hS hl)
theorem a_icmp_gt (X : Cx p s m meth c G own cc nL ret) {x y : Int32} {off : Int} {tgt : Nat} (d : decode cc pc = .ok (.if_icmp .gt off, 3)) (ht : (pc : Int) + off = (tgt : Int)) (kt : y < x → Wa p l e R s m args below meth c nL G al mk cs ss Q M tgt lo st) (kf : ¬ y < x → Wa p l e R s m args below meth c nL G al mk cs ss Q M (pc + 3) lo st) : Wa p l e R s m args below meth c nL G al mk cs ss Q M pc lo (.int y :: .int x :: st) :=
  fun H locs ls hH hS hl => lv_icmp_gt X.1 X.2.1 d ht (fun z => kt z H locs ls hH hS hl) (fun z => kf z H locs ls hH hS hl)
theorem a_icmp_ge (X : Cx p s m meth c G own cc nL ret) {x y : Int32} {off : Int} {tgt : Nat} (d : decode cc pc = .ok (.if_icmp .ge off, 3)) (ht : (pc : Int) + off = (tgt : Int)) (kt : y ≤ x → Wa p l e R s m args below meth c nL G al mk cs ss Q M tgt lo st) (kf : ¬ y ≤ x → Wa p l e R s m args below meth c nL G al mk cs ss Q M (pc + 3) lo st) : Wa p l e R s m args below meth c nL G al mk cs ss Q M pc lo (.int y :: .int x :: st) :=
  fun H locs ls hH hS hl => lv_icmp_ge X.1 X.2.1 d ht (fun z => kt z H locs ls hH hS hl) (fun z => kf z H locs ls hH hS hl)
theorem a_if_eq (X : Cx p s m meth c G own cc nL ret) {x : Int32} {off : Int} {tgt : Nat} (d : decode cc pc = .ok (.ifCond .eq off, 3)) (ht : (pc : Int) + off = (tgt : Int)) (kt : x = 0 → Wa p l e R s m args below meth c nL G al mk cs ss Q M tgt lo st) (kf : ¬ x = 0 → Wa p l e R s m args below meth c nL G al mk cs ss Q M (pc + 3) lo st) : Wa p l e R s m args below meth c nL G al mk cs ss Q M pc lo (.int x :: st) :=
  fun H locs ls hH hS hl => lv_if_eq X.1 X.2.1 d ht (fun z => kt z H locs ls hH hS hl) (fun z => kf z H locs ls hH hS hl)
theorem a_if_ne (X : Cx p s m meth c G own cc nL ret) {x : Int32} {off : Int} {tgt : Nat} (d : decode cc pc = .ok (.ifCond .ne off, 3)) (ht : (pc : Int) + off = (tgt : Int)) (kt : ¬ x = 0 → Wa p l e R s m args below meth c nL G al mk cs ss Q M tgt lo st) (kf : x = 0 → Wa p l e R s m args below meth c nL G al mk cs ss Q M (pc + 3) lo st) : Wa p l e R s m args below meth c nL G al mk cs ss Q M pc lo (.int x :: st) :=
  fun H locs ls hH hS hl => lv_if_ne X.1 X.2.1 d ht (fun z => kt z H locs ls hH hS hl) (fun z => kf z H locs ls hH hS hl)
theorem a_if_lt (X : Cx p s m meth c G own cc nL ret) {x : Int32} {off : Int} {tgt : Nat} (d : decode cc pc = .ok (.ifCond .lt off, 3)) (ht : (pc : Int) + off = (tgt : Int)) (kt : x < 0 → Wa p l e R s m args below meth c nL G al mk cs ss Q M tgt lo st) (kf : ¬ x < 0 → Wa p l e R s m args below meth c nL G al mk cs ss Q M (pc + 3) lo st) : Wa p l e R s m args below meth c nL G al mk cs ss Q M pc lo (.int x :: st) :=
  fun H locs ls hH hS hl => lv_if_lt X.1 X.2.1 d ht (fun z => kt z H locs ls hH hS hl) (fun z => kf z H locs ls hH hS hl)
theorem a_if_le (X : Cx p s m meth c G own cc nL ret) {x : Int32} {off : Int} {tgt : Nat} (d : decode cc pc = .ok (.ifCond .le off, 3)) (ht : (pc : Int) + off = (tgt : Int)) (kt : x ≤ 0 → Wa p l e R s m args below meth c nL G al mk cs ss Q M tgt lo st) (kf : ¬ x ≤ 0 → Wa p l e R s m args below meth c nL G al mk cs ss Q M (pc + 3) lo st) : Wa p l e R s m args below meth c nL G al mk cs ss Q M pc lo (.int x :: st) :=
  fun H locs ls hH hS hl => lv_if_le X.1 X.2.1 d ht (fun z => kt z H locs ls hH hS hl) (fun z => kf z H locs ls hH hS hl)
theorem a_if_gt (X : Cx p s m meth c G own cc nL ret) {x : Int32} {off : Int} {tgt : Nat} (d : decode cc pc = .ok (.ifCond .gt off, 3)) (ht : (pc : Int) + off = (tgt : Int)) (kt : 0 < x → Wa p l e R s m args below meth c nL G al mk cs ss Q M tgt lo st) (kf : ¬ 0 < x → Wa p l e R s m args below meth c nL G al mk cs ss Q M (pc + 3) lo st) : Wa p l e R s m args below meth c nL G al mk cs ss Q M pc lo (.int x :: st) :=
  fun H locs ls hH hS hl => lv_if_gt X.1 X.2.1 d ht (fun z => kt z H locs ls hH hS hl) (fun z => kf z H locs ls hH hS hl)
theorem a_if_ge (X : Cx p s m meth c G own cc nL ret) {x : Int32} {off : Int} {tgt : Nat} (d : decode cc pc = .ok (.ifCond .ge off, 3)) (ht : (pc : Int) + off = (tgt : Int)) (kt : 0 ≤ x → Wa p l e R s m args below meth c nL G al mk cs ss Q M tgt lo st) (kf : ¬ 0 ≤ x → Wa p l e R s m args below meth c nL G al mk cs ss Q M (pc + 3) lo st) : Wa p l e R s m args below meth c nL G al mk cs ss Q M pc lo (.int x :: st) :=
  fun H locs ls hH hS hl => lv_if_ge X.1 X.2.1 d ht (fun z => kt z H locs ls hH hS hl) (fun z => kf z H locs ls hH hS hl)
theorem a_ifnull (X : Cx p s m meth c G own cc nL ret) {x : Nat} {off : Int} (d : decode cc pc = .ok (.ifnull off, 3)) (k : Wa p l e R s m args below meth c nL G al mk cs ss Q M (pc + 3) lo st) : Wa p l e R s m args below meth c nL G al mk cs ss Q M pc lo (.ref x :: st) :=
  fun H locs ls hH hS hl => lv_ifnull X.1 X.2.1 d (k H locs ls hH hS hl)
theorem a_ifnullN (X : Cx p s m meth c G own cc nL ret) {off : Int} {tgt : Nat} (d : decode cc pc = .ok (.ifnull off, 3)) (ht : (pc : Int) + off = (tgt : Int)) (k : Wa p l e R s m args below meth c nL G al mk cs ss Q M tgt lo st) : Wa p l e R s m args below meth c nL G al mk cs ss Q M pc lo (.null :: st) :=
  fun H locs ls hH hS hl => lv_ifnullN X.1 X.2.1 d ht (k H locs ls hH hS hl)
theorem a_ifnonnull (X : Cx p s m meth c G own cc nL ret) {x : Nat} {off : Int} {tgt : Nat} (d : decode cc pc = .ok (.ifnonnull off, 3)) (ht : (pc : Int) + off = (tgt : Int)) (k : Wa p l e R s m args below meth c nL G al mk cs ss Q M tgt lo st) : Wa p l e R s m args below meth c nL G al mk cs ss Q M pc lo (.ref x :: st) :=
  fun H locs ls hH hS hl => lv_ifnonnull X.1 X.2.1 d ht (k H locs ls hH hS hl)
theorem a_ifnonnullN (X : Cx p s m meth c G own cc nL ret) {off : Int} (d : decode cc pc = .ok (.ifnonnull off, 3)) (k : Wa p l e R s m args below meth c nL G al mk cs ss Q M (pc + 3) lo st) : Wa p l e R s m args below meth c nL G al mk cs ss Q M pc lo (.null :: st) :=
  fun H locs ls hH hS hl => lv_ifnonnullN X.1 X.2.1 d (k H locs ls hH hS hl)
/-! the words of a class, once -/
theorem cx_w (X : Cx p s m meth c G own cc nL ret) {w : Cond} (hw : w ∈ lw_tbl ∧ goodWord w = true) : w.before args s = true := X.2.2.2.2.2.2.1 w hw.1 hw.2 args
theorem cx_K (X : Cx p s m meth c G own cc nL ret) : va_K G.1 vwCl (tysOf G) s := X.2.2.2.2.2.2.2.1
/-- the fields' words of a class stand in the tables -/
def Fw (ci : Nat) (C : String) (T : u_T) (N : Nat) (ty : Nat → FieldType) : Prop := vwCl[ci]? = some (C, T, N) ∧ (∀ w ∈ u_ws C T N, w ∈ lw_tbl ∧ goodWord w = true) ∧ (∀ k, k < N → parseFieldDescriptor (T k).2.2.1 = some (ty k)) ∧ (∀ a, a < N → ∀ b, b < N → a ≠ b → (T a).2.1 ≠ (T b).2.1) ∧ ci < 5 ∧ (fcs ci).length = N
theorem cellK_o {cy : Nat → ClassId} {al : Nat → Nat} {mk a : Nat} {f : Nat → Int32} {g : Nat → Int64} {ci : Nat} (h : ci < 5) : cellK cy al mk a f g (ci, 0) = .inr (ci, fls al a f g 0 (fcs ci)) := by
  match ci, h with
  | 0, _ => rfl
  | 1, _ => rfl
  | 2, _ => rfl
  | 3, _ => rfl
  | 4, _ => rfl
theorem cell_k {cy : Nat → ClassId} {al : Nat → Nat} {mk : Nat} {M : Mem} {a : Nat} {t : Nat × Nat} (h : kd a = t) : cellOf cy al mk M a = cellK cy al mk a (M.1 a) (M.2 a) t := by
  unfold cellOf
  rw [h]
theorem a_getV (X : Cx p s m meth c G own cc nL ret) {ci k a idx code0 : Nat} {C ref fn fd : String} {T : u_T} {N : Nat} {ty : Nat → FieldType} (hF : Fw ci C T N ty) (ha : Iz mk a (ci, 0)) (hc : (fcs ci)[k]? = some code0) (hlink : Cond.fieldLink own idx ref fn fd ∈ lw_tbl ∧ goodWord (Cond.fieldLink own idx ref fn fd) = true) (hT : T k = (ref, fn, fd, (T k).2.2.2)) (d : decode cc pc = .ok (.getfield idx, 3))
    (kk : Wa p l e R s m args below meth c nL G al mk cs ss Q M (pc + 3) lo (fv al a (M.1 a) (M.2 a) k code0 :: st)) : Wa p l e R s m args below meth c nL G al mk cs ss Q M pc lo (.ref (al a) :: st) := by
  intro H locs ls hH hS hl
  obtain ⟨f1, f2, f3, f4, f5, f6⟩ := hF
  obtain ⟨q, hq⟩ := ws_q ha.1
  have hw := ws_at (cy := G.2.1) (al := al) (M := M) hq
  rw [cell_k ha.2, cellK_o f5] at hw
  have hkN : k < N := by rw [← f6]; exact (List.getElem?_eq_some_iff.mp hc).1
  have e1 : (T k).1 = ref := by rw [hT]
  have e2 : (T k).2.1 = fn := by rw [hT]
  have e3 : (T k).2.2.1 = fd := by rw [hT]
  refine va_get (Ts := u_ws C T N) (C := C) (T := T) (N := N) (own := own) (ref := ref) (index := idx) X.1 X.2.1 (fun w h => cx_w X (f2 w h)) (fun w h => h) X.2.2.2.1 (cx_K X) hH.1 q hw f1 k hkN (by rw [e2, e3]; exact cx_w X hlink) (fun x h => by rw [e1] at h; exact h) (v := fv al a (M.1 a) (M.2 a) k code0) (by rw [fls_at, hc, Nat.zero_add]; rfl) d (kk H locs ls hH hS hl)
theorem a_getI (X : Cx p s m meth c G own cc nL ret) {ci k a idx : Nat} {C ref fn fd : String} {T : u_T} {N : Nat} {ty : Nat → FieldType} (hF : Fw ci C T N ty) (ha : Iz mk a (ci, 0)) (hc : (fcs ci)[k]? = some 0) (hlink : Cond.fieldLink own idx ref fn fd ∈ lw_tbl ∧ goodWord (Cond.fieldLink own idx ref fn fd) = true) (hT : T k = (ref, fn, fd, (T k).2.2.2)) (d : decode cc pc = .ok (.getfield idx, 3))
    (kk : Wa p l e R s m args below meth c nL G al mk cs ss Q M (pc + 3) lo (.int (gI M a k) :: st)) : Wa p l e R s m args below meth c nL G al mk cs ss Q M pc lo (.ref (al a) :: st) := a_getV X hF ha hc hlink hT d kk
theorem a_getL (X : Cx p s m meth c G own cc nL ret) {ci k a idx : Nat} {C ref fn fd : String} {T : u_T} {N : Nat} {ty : Nat → FieldType} (hF : Fw ci C T N ty) (ha : Iz mk a (ci, 0)) (hc : (fcs ci)[k]? = some 1) (hlink : Cond.fieldLink own idx ref fn fd ∈ lw_tbl ∧ goodWord (Cond.fieldLink own idx ref fn fd) = true) (hT : T k = (ref, fn, fd, (T k).2.2.2)) (d : decode cc pc = .ok (.getfield idx, 3))
    (kk : Wa p l e R s m args below meth c nL G al mk cs ss Q M (pc + 3) lo (.long (gL M a k) :: st)) : Wa p l e R s m args below meth c nL G al mk cs ss Q M pc lo (.ref (al a) :: st) := a_getV X hF ha hc hlink hT d kk
theorem a_getR (X : Cx p s m meth c G own cc nL ret) {ci k a idx : Nat} (n : Nat) {b : Nat} {C ref fn fd : String} {T : u_T} {N : Nat} {ty : Nat → FieldType} (hF : Fw ci C T N ty) (ha : Iz mk a (ci, 0)) (hc : (fcs ci)[k]? = some (n + 2)) (hb : a + n = b) (hlink : Cond.fieldLink own idx ref fn fd ∈ lw_tbl ∧ goodWord (Cond.fieldLink own idx ref fn fd) = true) (hT : T k = (ref, fn, fd, (T k).2.2.2)) (d : decode cc pc = .ok (.getfield idx, 3))
    (kk : Wa p l e R s m args below meth c nL G al mk cs ss Q M (pc + 3) lo (.ref (al b) :: st)) : Wa p l e R s m args below meth c nL G al mk cs ss Q M pc lo (.ref (al a) :: st) := a_getV X hF ha hc hlink hT d (by rw [← hb] at kk; exact kk)
theorem a_putI (X : Cx p s m meth c G own cc nL ret) {ci k a idx : Nat} {C ref fn fd : String} {T : u_T} {N : Nat} {ty : Nat → FieldType} {x : Int32} (hF : Fw ci C T N ty) (ha : Iz mk a (ci, 0)) (hc : (fcs ci)[k]? = some 0) (hlink : Cond.fieldLink own idx ref fn fd ∈ lw_tbl ∧ goodWord (Cond.fieldLink own idx ref fn fd) = true) (hT : T k = (ref, fn, fd, false)) (hty : ty k = .int) (d : decode cc pc = .ok (.putfield idx, 3))
    (kk : ∀ M', M' = pI M a k x → Wa p l e R s m args below meth c nL G al mk cs ss Q M' (pc + 3) lo st) : Wa p l e R s m args below meth c nL G al mk cs ss Q M pc lo (.int x :: .ref (al a) :: st) := by
  intro H locs ls hH hS hl
  obtain ⟨f1, f2, f3, f4, f5, f6⟩ := hF
  obtain ⟨q, hq⟩ := ws_q ha.1
  have hw := ws_at (cy := G.2.1) (al := al) (M := M) hq
  rw [cell_k ha.2, cellK_o f5] at hw
  have hkl : k < (fcs ci).length := (List.getElem?_eq_some_iff.mp hc).1
  have hkN : k < N := by rw [← f6]; exact hkl
  have e1 : (T k).1 = ref := by rw [hT]
  have e2 : (T k).2.1 = fn := by rw [hT]
  have e3 : (T k).2.2.1 = fd := by rw [hT]
  have e4 : (T k).2.2.2 = false := by rw [hT]
  have e5 := f3 k hkN
  rw [hty] at e5
  refine va_put (Ts := u_ws C T N) (C := C) (T := T) (N := N) (own := own) (ref := ref) (index := idx) X.1 X.2.1 (fun w h => cx_w X (f2 w h)) (fun w h => h) ty f3 f4 X.2.2.2.1 (cx_K X) hH.1 hH.2 hS q hw f1 k hkN (by rw [e2, e3]; exact cx_w X hlink) (fun x h => by rw [e1] at h; exact h) e4 e5 rfl rfl (by rw [fls_len]; exact hkl) d (fun H1 locs1 hP hD hS1 => kk _ rfl H1 locs1 ls ?_ hS1 hl)
  refine hH.set hq ?_ (fun b hb => ⟨pF_ne M _ hb, rfl⟩) hP hD
  rw [cell_k ha.2, cellK_o f5, fls_setI _ _ _ _ _ _ _ hc]
  unfold pI
  rw [pF_eq, pF_l]
theorem a_putL (X : Cx p s m meth c G own cc nL ret) {ci k a idx : Nat} {C ref fn fd : String} {T : u_T} {N : Nat} {ty : Nat → FieldType} {x : Int64} (hF : Fw ci C T N ty) (ha : Iz mk a (ci, 0)) (hc : (fcs ci)[k]? = some 1) (hlink : Cond.fieldLink own idx ref fn fd ∈ lw_tbl ∧ goodWord (Cond.fieldLink own idx ref fn fd) = true) (hT : T k = (ref, fn, fd, false)) (hty : ty k = .long) (d : decode cc pc = .ok (.putfield idx, 3))
    (kk : ∀ M', M' = pL M a k x → Wa p l e R s m args below meth c nL G al mk cs ss Q M' (pc + 3) lo st) : Wa p l e R s m args below meth c nL G al mk cs ss Q M pc lo (.long x :: .ref (al a) :: st) := by
  intro H locs ls hH hS hl
  obtain ⟨f1, f2, f3, f4, f5, f6⟩ := hF
  obtain ⟨q, hq⟩ := ws_q ha.1
  have hw := ws_at (cy := G.2.1) (al := al) (M := M) hq
  rw [cell_k ha.2, cellK_o f5] at hw
  have hkl : k < (fcs ci).length := (List.getElem?_eq_some_iff.mp hc).1
  have hkN : k < N := by rw [← f6]; exact hkl
  have e1 : (T k).1 = ref := by rw [hT]
  have e2 : (T k).2.1 = fn := by rw [hT]
  have e3 : (T k).2.2.1 = fd := by rw [hT]
  have e4 : (T k).2.2.2 = false := by rw [hT]
  have e5 := f3 k hkN
  rw [hty] at e5
  refine va_put (Ts := u_ws C T N) (C := C) (T := T) (N := N) (own := own) (ref := ref) (index := idx) X.1 X.2.1 (fun w h => cx_w X (f2 w h)) (fun w h => h) ty f3 f4 X.2.2.2.1 (cx_K X) hH.1 hH.2 hS q hw f1 k hkN (by rw [e2, e3]; exact cx_w X hlink) (fun x h => by rw [e1] at h; exact h) e4 e5 rfl rfl (by rw [fls_len]; exact hkl) d (fun H1 locs1 hP hD hS1 => kk _ rfl H1 locs1 ls ?_ hS1 hl)
  refine hH.set hq ?_ (fun b hb => ⟨rfl, pL_ne M _ hb⟩) hP hD
  rw [cell_k ha.2, cellK_o f5, fls_setL _ _ _ _ _ _ _ hc, pL_eq, pL_i]
theorem a_iald (X : Cx p s m meth c G own cc nL ret) {a n : Nat} {i : Int32} (ha : Iz mk a (6, n)) (hin : vp_in i n) (d : decode cc pc = .ok (.iaload, 1)) (kk : Wa p l e R s m args below meth c nL G al mk cs ss Q M (pc + 1) lo (.int (gI M a i.toNatClampNeg) :: st)) : Wa p l e R s m args below meth c nL G al mk cs ss Q M pc lo (.int i :: .ref (al a) :: st) := by
  intro H locs ls hH hS hl
  obtain ⟨q, hq⟩ := ws_q ha.1
  have hw := ws_at (cy := G.2.1) (al := al) (M := M) hq
  rw [cell_k ha.2] at hw
  exact va_iald (f := M.1 a) (cA := G.2.1 6) (n := n) X.1 X.2.1 (cx_K X) hH.1 q 1 hw rfl hin d (kk H locs ls hH hS hl)
theorem a_bald (X : Cx p s m meth c G own cc nL ret) {a n : Nat} {i : Int32} (ha : Iz mk a (5, n)) (hin : vp_in i n) (d : decode cc pc = .ok (.baload, 1)) (kk : Wa p l e R s m args below meth c nL G al mk cs ss Q M (pc + 1) lo (.int (gI M a i.toNatClampNeg) :: st)) : Wa p l e R s m args below meth c nL G al mk cs ss Q M pc lo (.int i :: .ref (al a) :: st) := by
  intro H locs ls hH hS hl
  obtain ⟨q, hq⟩ := ws_q ha.1
  have hw := ws_at (cy := G.2.1) (al := al) (M := M) hq
  rw [cell_k ha.2] at hw
  exact va_bald (f := M.1 a) (cA := G.2.1 5) (n := n) X.1 X.2.1 (cx_K X) hH.1 q 0 hw rfl hin d (kk H locs ls hH hS hl)
theorem a_lald (X : Cx p s m meth c G own cc nL ret) {a n : Nat} {i : Int32} (ha : Iz mk a (7, n)) (hin : vp_in i n) (d : decode cc pc = .ok (.laload, 1)) (kk : Wa p l e R s m args below meth c nL G al mk cs ss Q M (pc + 1) lo (.long (gL M a i.toNatClampNeg) :: st)) : Wa p l e R s m args below meth c nL G al mk cs ss Q M pc lo (.int i :: .ref (al a) :: st) := by
  intro H locs ls hH hS hl
  obtain ⟨q, hq⟩ := ws_q ha.1
  have hw := ws_at (cy := G.2.1) (al := al) (M := M) hq
  rw [cell_k ha.2] at hw
  exact va_lald (f := M.2 a) (cA := G.2.1 7) (n := n) X.1 X.2.1 (cx_K X) hH.1 q 2 hw rfl hin d (kk H locs ls hH hS hl)
theorem a_iast (X : Cx p s m meth c G own cc nL ret) {a n : Nat} {i x : Int32} (ha : Iz mk a (6, n)) (hin : vp_in i n) (d : decode cc pc = .ok (.iastore, 1)) (kk : ∀ M', M' = pI M a i.toNatClampNeg x → Wa p l e R s m args below meth c nL G al mk cs ss Q M' (pc + 1) lo st) : Wa p l e R s m args below meth c nL G al mk cs ss Q M pc lo (.int x :: .int i :: .ref (al a) :: st) := by
  intro H locs ls hH hS hl
  obtain ⟨q, hq⟩ := ws_q ha.1
  have hw := ws_at (cy := G.2.1) (al := al) (M := M) hq
  rw [cell_k ha.2] at hw
  refine va_iast (f := M.1 a) (cA := G.2.1 6) (n := n) X.1 X.2.1 (cx_K X) hH.1 hH.2 hS q 1 hw rfl hin d (fun H1 locs1 hP hD hS1 => kk _ rfl H1 locs1 ls ?_ hS1 hl)
  refine hH.set hq ?_ (fun b hb => ⟨pF_ne M _ hb, rfl⟩) hP hD
  rw [cell_k ha.2]
  unfold pI
  rw [pF_eq, pF_l]
  rfl
theorem a_bast (X : Cx p s m meth c G own cc nL ret) {a n : Nat} {i x : Int32} (ha : Iz mk a (5, n)) (hin : vp_in i n) (d : decode cc pc = .ok (.bastore, 1)) (kk : ∀ M', M' = pI M a i.toNatClampNeg (vp_nar .byte x) → Wa p l e R s m args below meth c nL G al mk cs ss Q M' (pc + 1) lo st) : Wa p l e R s m args below meth c nL G al mk cs ss Q M pc lo (.int x :: .int i :: .ref (al a) :: st) := by
  intro H locs ls hH hS hl
  obtain ⟨q, hq⟩ := ws_q ha.1
  have hw := ws_at (cy := G.2.1) (al := al) (M := M) hq
  rw [cell_k ha.2] at hw
  refine va_bast (f := M.1 a) (cA := G.2.1 5) (n := n) X.1 X.2.1 (cx_K X) hH.1 hH.2 hS q 0 hw rfl hin d (fun H1 locs1 hP hD hS1 => kk _ rfl H1 locs1 ls ?_ hS1 hl)
  refine hH.set hq ?_ (fun b hb => ⟨pF_ne M _ hb, rfl⟩) hP hD
  rw [cell_k ha.2]
  unfold pI
  rw [pF_eq, pF_l]
  rfl
theorem a_last (X : Cx p s m meth c G own cc nL ret) {a n : Nat} {i : Int32} {x : Int64} (ha : Iz mk a (7, n)) (hin : vp_in i n) (d : decode cc pc = .ok (.lastore, 1)) (kk : ∀ M', M' = pL M a i.toNatClampNeg x → Wa p l e R s m args below meth c nL G al mk cs ss Q M' (pc + 1) lo st) : Wa p l e R s m args below meth c nL G al mk cs ss Q M pc lo (.long x :: .int i :: .ref (al a) :: st) := by
  intro H locs ls hH hS hl
  obtain ⟨q, hq⟩ := ws_q ha.1
  have hw := ws_at (cy := G.2.1) (al := al) (M := M) hq
  rw [cell_k ha.2] at hw
  refine va_last (f := M.2 a) (cA := G.2.1 7) (n := n) X.1 X.2.1 (cx_K X) hH.1 hH.2 hS q 2 hw rfl hin d (fun H1 locs1 hP hD hS1 => kk _ rfl H1 locs1 ls ?_ hS1 hl)
  refine hH.set hq ?_ (fun b hb => ⟨rfl, pL_ne M _ hb⟩) hP hD
  rw [cell_k ha.2, pL_eq, pL_i]
  rfl
theorem a_aald (X : Cx p s m meth c G own cc nL ret) {i : Int32} (hin : vp_in i 4) (d : decode cc pc = .ok (.aaload, 1)) (kn : ¬ i.toNatClampNeg < mk → Wa p l e R s m args below meth c nL G al mk cs ss Q M (pc + 1) lo (.null :: st)) (ks : i.toNatClampNeg < mk → Wa p l e R s m args below meth c nL G al mk cs ss Q M (pc + 1) lo (.ref (al (100 + 20 * i.toNatClampNeg)) :: st)) : Wa p l e R s m args below meth c nL G al mk cs ss Q M pc lo (.int i :: .ref (al 7) :: st) := by
  intro H locs ls hH hS hl
  have ha : Iz mk 7 (8, 4) := Iz.base _ (by decide +kernel)
  obtain ⟨q, hq⟩ := ws_q ha.1
  have hw := ws_at (cy := G.2.1) (al := al) (M := M) hq
  rw [cell_k ha.2] at hw
  refine va_aldq (C := "GapRows$Stream") (f := stF al mk) (cA := G.2.1 8) (n := 4) X.1 X.2.1 (cx_K X) hH.1 q 3 hw rfl hin d ?_
  unfold stF
  by_cases h : i.toNatClampNeg < mk
  · rw [if_pos h]
    exact ks h H locs ls hH hS hl
  · rw [if_neg h]
    exact kn h H locs ls hH hS hl
theorem a_iret (X : Cx p s m meth c G own cc nL (some .int)) {v : Int32} {Q0 : Int32 → Mem → Prop} (hq : Q0 v M) (d : decode cc pc = .ok (.ireturn, 1)) : Wa p l e R s m args below meth c nL G al mk 0 0 (MQ below (QI G al mk Q0) args s 0 0 (gA G)) M pc lo [.int v] :=
  fun H locs ls hH hS hl => W.iret X.1 X.2.1 X.2.2.2.2.1 (fun t ht hW => ⟨⟨v, M, rfl, hq, hp_to hH ht⟩, hS.F ht⟩) hS.2.2 d X.2.2.2.2.2.1
theorem a_zret (X : Cx p s m meth c G own cc nL (some .boolean)) {v : Int32} {Q0 : Int32 → Mem → Prop} (hz : v = 0 ∨ v = 1) (hq : Q0 v M) (d : decode cc pc = .ok (.ireturn, 1)) : Wa p l e R s m args below meth c nL G al mk 0 0 (MQ below (QI G al mk Q0) args s 0 0 (gA G)) M pc lo [.int v] :=
  fun H locs ls hH hS hl => W.zret X.1 X.2.1 X.2.2.2.2.1 (by rcases hz with rfl | rfl <;> decide +kernel) (fun t ht hW => ⟨⟨v, M, rfl, hq, hp_to hH ht⟩, hS.F ht⟩) hS.2.2 d X.2.2.2.2.2.1
theorem a_vret (X : Cx p s m meth c G own cc nL none) {Q0 : Mem → Prop} (hq : Q0 M) (d : decode cc pc = .ok (.return_, 1)) : Wa p l e R s m args below meth c nL G al mk 0 0 (MQ below (QV G al mk Q0) args s 0 0 (gA G)) M pc lo [] :=
  fun H locs ls hH hS hl => W.vret X.1 X.2.1 X.2.2.2.2.1 (fun t ht hW => ⟨⟨M, rfl, hq, hp_to hH ht⟩, hS.F ht⟩) hS.2.2 d X.2.2.2.2.2.1
theorem a_qretN (X : Cx p s m meth c G own cc nL (some (.object "GapRows$Stream"))) {Q0 : Option Nat → Mem → Prop} (hq : Q0 none M) (d : decode cc pc = .ok (.areturn, 1)) : Wa p l e R s m args below meth c nL G al mk 0 0 (MQ below (QQ G al mk Q0) args s 0 0 (gA G)) M pc lo [.null] :=
  fun H locs ls hH hS hl => W.aret X.1 X.2.1 X.2.2.2.2.1 (Or.inl ⟨_, rfl⟩) (Or.inl rfl) (fun t ht hW => ⟨⟨none, (none, M), rfl, ⟨rfl, fun n h => (by cases h), hq⟩, hp_to hH ht⟩, hS.F ht⟩) hS.2.2 d X.2.2.2.2.2.1
theorem a_qret (X : Cx p s m meth c G own cc nL (some (.object "GapRows$Stream"))) {n : Nat} {Q0 : Option Nat → Mem → Prop} (hn : Iz mk n (1, 0)) (hq : Q0 (some n) M) (d : decode cc pc = .ok (.areturn, 1)) : Wa p l e R s m args below meth c nL G al mk 0 0 (MQ below (QQ G al mk Q0) args s 0 0 (gA G)) M pc lo [.ref (al n)] :=
  fun H locs ls hH hS hl => W.aret X.1 X.2.1 X.2.2.2.2.1 (Or.inl ⟨_, rfl⟩) (Or.inr ⟨_, rfl⟩) (fun t ht hW => ⟨⟨some (al n), (some n, M), rfl, ⟨rfl, fun n' h => (by cases h; exact hn), hq⟩, hp_to hH ht⟩, hS.F ht⟩) hS.2.2 d X.2.2.2.2.2.1
theorem a_rret (X : Cx p s m meth c G own cc nL (some (.object "GapRows$Row"))) {n : Nat} {Q0 : Nat → Mem → Prop} (hn : Iz mk n (0, 0)) (hq : Q0 n M) (d : decode cc pc = .ok (.areturn, 1)) : Wa p l e R s m args below meth c nL G al mk 0 0 (MQ below (QR G al mk Q0) args s 0 0 (gA G)) M pc lo [.ref (al n)] :=
  fun H locs ls hH hS hl => W.aret X.1 X.2.1 X.2.2.2.2.1 (Or.inl ⟨_, rfl⟩) (Or.inr ⟨_, rfl⟩) (fun t ht hW => ⟨⟨(n, M), al n, rfl, ⟨hn, hq⟩, rfl, hp_to hH ht⟩, hS.F ht⟩) hS.2.2 d X.2.2.2.2.2.1
end A1
