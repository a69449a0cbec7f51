/-! ===== more rows: Math, arraycopy, literals, switches ===== -/
theorem ts_out {x : Int32} (n : Nat) (hn : n < 2 ^ 31) (h : ∀ k : Nat, k < n → ¬ x = nI k) : x.toInt < 0 ∨ (n : Int) - 1 < x.toInt := by
  by_cases h0 : x < 0
  · exact Or.inl (by simpa using Int32.lt_iff_toInt_lt.mp h0)
  · obtain ⟨j, hj, rfl⟩ := nI_of h0
    right
    rw [nI_toInt hj]
    rcases Nat.lt_or_ge j n with q | q
    · exact absurd rfl (h j q)
    · omega
section A3
variable {p : Program} {l : Launch} {e : Env} {R : Room} {s : State} {m : MethodId} {args : Array Value} {below : List Frame} {meth : Method} {c : Code} {nL : Nat} {G : Gl} {al : Nat → Nat} {mk cs ss : Nat} {Q : State → Prop} {M : Mem} {pc : Nat} {lo lo' : List (Nat × Value)} {st stk : List Value} {own : String} {cc : ByteArray} {ret : Option FieldType}
theorem a_mmax (X : Cx p s m meth c G own cc nL ret) {idx : Nat} {x y : Int32} (hl : Cond.methodLink own idx Lib.Math.max.name ∈ lw_tbl) (hm : Cond.static Lib.Math.max.name ∈ lw_tbl ∧ Cond.initialized "java/lang/Math" ∈ lw_tbl ∧ Cond.code Lib.Math.max.name Lib.Math.max.code 2 (some .int) ∈ lw_tbl) (hR : 1 ≤ R.frames ∧ (st.map fun v => v.category).sum + 13 ≤ R.locals ∧ cs ≤ R.cells ∧ ss ≤ R.slots) (d : decode cc pc = .ok (.invokestatic idx, 3))
    (kk : Wa p l e R s m args below meth c nL G al mk cs ss Q M (pc + 3) lo (.int (if x < y then y else x) :: st)) : Wa p l e R s m args below meth c nL G al mk cs ss Q M pc lo (.int y :: .int x :: st) :=
  fun H locs ls hH hS hlv => va_mmax X.1 X.2.1 (X.2.2.1.trans hlv.1.symm) X.2.2.2.1 (cx_w X ⟨hl, rfl⟩) (cx_w X ⟨hm.1, rfl⟩) (cx_w X ⟨hm.2.1, rfl⟩) (cx_w X ⟨hm.2.2, rfl⟩) hR.1 hR.2.1 hR.2.2.1 hR.2.2.2 d (kk H locs ls hH hS hlv)
theorem a_mmin (X : Cx p s m meth c G own cc nL ret) {idx : Nat} {x y : Int32} (hl : Cond.methodLink own idx Lib.Math.min.name ∈ lw_tbl) (hm : Cond.static Lib.Math.min.name ∈ lw_tbl ∧ Cond.initialized "java/lang/Math" ∈ lw_tbl ∧ Cond.code Lib.Math.min.name Lib.Math.min.code 2 (some .int) ∈ lw_tbl) (hR : 1 ≤ R.frames ∧ (st.map fun v => v.category).sum + 13 ≤ R.locals ∧ cs ≤ R.cells ∧ ss ≤ R.slots) (d : decode cc pc = .ok (.invokestatic idx, 3))
    (kk : Wa p l e R s m args below meth c nL G al mk cs ss Q M (pc + 3) lo (.int (if y < x then y else x) :: st)) : Wa p l e R s m args below meth c nL G al mk cs ss Q M pc lo (.int y :: .int x :: st) :=
  fun H locs ls hH hS hlv => va_mmin X.1 X.2.1 (X.2.2.1.trans hlv.1.symm) X.2.2.2.1 (cx_w X ⟨hl, rfl⟩) (cx_w X ⟨hm.1, rfl⟩) (cx_w X ⟨hm.2.1, rfl⟩) (cx_w X ⟨hm.2.2, rfl⟩) hR.1 hR.2.1 hR.2.2.1 hR.2.2.2 d (kk H locs ls hH hS hlv)
theorem a_copy (X : Cx p s m meth c G own cc nL ret) {idx a b n0 n1 : Nat} {sp dp n : Int32} (hl : Cond.methodLink own idx arraycopyName ∈ lw_tbl) (hm : Cond.native arraycopyName ∈ lw_tbl ∧ Cond.static arraycopyName ∈ lw_tbl ∧ Cond.initialized "java/lang/System" ∈ lw_tbl) (ha : Iz mk a (6, n0)) (hb : Iz mk b (6, n1)) (h1 : ¬ sp < 0) (h2 : ¬ dp < 0) (h3 : ¬ n < 0) (h4 : sp.toNatClampNeg + n.toNatClampNeg ≤ n0) (h5 : dp.toNatClampNeg + n.toNatClampNeg ≤ n1)
    (hR : 1 ≤ R.frames ∧ (st.map fun v => v.category).sum + (nativeFrameWords "java/lang/System" "arraycopy" 5 + 11) ≤ R.locals) (d : decode cc pc = .ok (.invokestatic idx, 3))
    (kk : ∀ M', M' = pF M b (va_cpy (M.1 a) (M.1 b) sp.toNatClampNeg dp.toNatClampNeg n.toNatClampNeg) → Wa p l e R s m args below meth c nL G al mk cs ss Q M' (pc + 3) lo st) : Wa p l e R s m args below meth c nL G al mk cs ss Q M pc lo (.int n :: .int dp :: .ref (al b) :: .int sp :: .ref (al a) :: st) := by
  intro H locs ls hH hS hlv
  obtain ⟨q, hq⟩ := ws_q ha.1
  have hw := ws_at (cy := G.2.1) (al := al) (M := M) hq
  rw [cell_k ha.2] at hw
  obtain ⟨q', hq'⟩ := ws_q hb.1
  have hw' := ws_at (cy := G.2.1) (al := al) (M := M) hq'
  rw [cell_k hb.2] at hw'
  refine va_copyi (ty := .int) (f := M.1 a) (g := M.1 b) (c0 := G.2.1 6) (c1 := G.2.1 6) (n0 := n0) (n1 := n1) X.1 X.2.1 (X.2.2.1.trans hlv.1.symm) X.2.2.2.1 (cx_w X ⟨hl, rfl⟩) (cx_w X ⟨hm.1, rfl⟩) (cx_w X ⟨hm.2.1, rfl⟩) (cx_w X ⟨hm.2.2, rfl⟩) (cx_K X) hH.1 hH.2 hS q q' 1 1 hw hw' rfl rfl rfl h1 h2 h3 h4 h5 (fun _ _ => rfl) hR.1 hR.2 d (fun H1 locs1 hP hD hS1 => kk _ rfl H1 locs1 ls ?_ hS1 hlv)
  refine hH.set hq' ?_ (fun z hz => ⟨pF_ne M _ hz, rfl⟩) hP hD
  rw [cell_k hb.2, pF_eq, pF_l]
  rfl
theorem a_ldcw (X : Cx p s m meth c G own cc nL ret) {idx : Nat} {v : Int32} (hl : Cond.constant own idx v ∈ lw_tbl) (d : decode cc pc = .ok (.ldc_w idx, 3)) (kk : Wa p l e R s m args below meth c nL G al mk cs ss Q M (pc + 3) lo (.int v :: st)) : Wa p l e R s m args below meth c nL G al mk cs ss Q M pc lo st :=
  fun H locs ls hH hS hlv => lv_ldcw X.1 X.2.1 X.2.2.2.1 (cx_w X ⟨hl, rfl⟩) d (kk H locs ls hH hS hlv)
/-- a literal -/
theorem a_ldcS (X : Cx p s m meth c G own cc nL ret) (i : Nat) (hi : i < 10) (ho : slO i = own) {idx : Nat} (hk : slK i = idx) (d : decode cc pc = .ok (.ldc idx, 2)) (kk : Wa p l e R s m args below meth c nL G al mk cs ss Q M (pc + 2) lo (.ref (G.2.2.1 i) :: st)) : Wa p l e R s m args below meth c nL G al mk cs ss Q M pc lo st :=
  fun H locs ls hH hS hlv => va_ldcS X.1 X.2.1 X.2.2.2.1 (by rw [← ho, ← hk]; exact (cx_S X).2.2.2.1 i hi) d (kk H locs ls hH hS hlv)
theorem a_ts (X : Cx p s m meth c G own cc nL ret) {dflt lw hi off : Int} {offs : Array Int} {len : Nat} {x k : Int32} {tgt : Nat} (hx : x = k) (d : decode cc pc = .ok (.tableswitch dflt lw hi offs, len)) (h1 : ¬ k.toInt < lw) (h2 : ¬ hi < k.toInt) (ho : offs[(k.toInt - lw).toNat]? = some off) (ht : (pc : Int) + off = (tgt : Int)) (kk : Wa p l e R s m args below meth c nL G al mk cs ss Q M tgt lo st) : Wa p l e R s m args below meth c nL G al mk cs ss Q M pc lo (.int x :: st) :=
  fun H locs ls hH hS hlv => by subst hx; exact lv_tableIn X.1 X.2.1 d h1 h2 ho ht (kk H locs ls hH hS hlv)
theorem a_tsD (X : Cx p s m meth c G own cc nL ret) {dflt lw hi : Int} {offs : Array Int} {len : Nat} {x : Int32} {tgt : Nat} (d : decode cc pc = .ok (.tableswitch dflt lw hi offs, len)) (h : x.toInt < lw ∨ hi < x.toInt) (ht : (pc : Int) + dflt = (tgt : Int)) (kk : Wa p l e R s m args below meth c nL G al mk cs ss Q M tgt lo st) : Wa p l e R s m args below meth c nL G al mk cs ss Q M pc lo (.int x :: st) :=
  fun H locs ls hH hS hlv => lv_tableOut X.1 X.2.1 d h ht (kk H locs ls hH hS hlv)
theorem a_ls (X : Cx p s m meth c G own cc nL ret) {dflt off : Int} {ps : Array (Int × Int)} {len : Nat} {x : Int32} {tgt : Nat} (d : decode cc pc = .ok (.lookupswitch dflt ps, len)) (hp : (ps.toList.zip (ps.toList.drop 1)).all (fun (a, next) => a.1 < next.1) = true) (ho : Op.lookupswitch.offset ps.toList dflt x.toInt = off) (ht : (pc : Int) + off = (tgt : Int)) (kk : Wa p l e R s m args below meth c nL G al mk cs ss Q M tgt lo st) : Wa p l e R s m args below meth c nL G al mk cs ss Q M pc lo (.int x :: st) :=
  fun H locs ls hH hS hlv => lv_lookup X.1 X.2.1 d hp ho ht (kk H locs ls hH hS hlv)
/-- fewer locals -/
theorem a_sub {ks : List Nat} (hk : lv_pick lo ks = lo') (kk : Wa p l e R s m args below meth c nL G al mk cs ss Q M pc lo' st) : Wa p l e R s m args below meth c nL G al mk cs ss Q M pc lo st :=
  fun H locs ls hH hS hlv => kk H locs ls hH hS (lv_sub hlv ks hk)
end A3
