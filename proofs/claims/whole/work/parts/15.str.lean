/-! ===== literals: length() and charAt() ===== -/
def sch (i k : Nat) : Int32 := (slB i).getD k 0
theorem sch_ok : ∀ i, i < 10 → ∀ k, k < (slB i).length → (((slB i).getD k 0 &&& 255).toUInt32 % 65536).toInt32 = (slB i).getD k 0 ∧ narrow .char (.int ((slB i).getD k 0)) = .int ((slB i).getD k 0) := by decide +kernel
theorem sch_len : ∀ i, i < 10 → (slB i).length < 2 ^ 31 ∧ nI (slB i).length >>> ((0 : Int32) &&& 31) = nI (slB i).length := by decide +kernel
section A4
variable {p : Program} {l : Launch} {e : Env} {R : Room} {s : State} {m : MethodId} {args : Array Value} {below : List Frame} {meth : Method} {c : Code} {nL : Nat} {G : Gl} {al : Nat → Nat} {mk cs ss : Nat} {Q : State → Prop} {M : Mem} {pc : Nat} {lo lo' : List (Nat × Value)} {st stk : List Value} {own : String} {cc : ByteArray} {ret : Option FieldType}
theorem a_coder (X : Cx p s m meth c G RJ0 cc nL ret) {i : Nat} (hi : i < 10) (d : decode cc pc = .ok (.getfield 15, 3)) (kk : Wa p l e R s m args below meth c nL G al mk cs ss Q M (pc + 3) lo (.int 0 :: st)) : Wa p l e R s m args below meth c nL G al mk cs ss Q M pc lo (.ref (G.2.2.1 i) :: st) :=
  fun H locs ls hH hS hlv => vk_getf (ref := RJ0) X.1 X.2.1 ((cx_S X).2.2.1 i hi).2.1 hS X.2.2.2.1 (cx_w X flJ0_15) (fun x h => h) d (kk H locs ls hH hS hlv)
theorem a_value (X : Cx p s m meth c G RJ0 cc nL ret) {i : Nat} (hi : i < 10) (d : decode cc pc = .ok (.getfield 9, 3)) (kk : Wa p l e R s m args below meth c nL G al mk cs ss Q M (pc + 3) lo (.ref (G.2.2.2.1 i) :: st)) : Wa p l e R s m args below meth c nL G al mk cs ss Q M pc lo (.ref (G.2.2.1 i) :: st) :=
  fun H locs ls hH hS hlv => vk_getf (ref := RJ0) X.1 X.2.1 ((cx_S X).2.2.1 i hi).2.2.1 hS X.2.2.2.1 (cx_w X flJ0_9) (fun x h => h) d (kk H locs ls hH hS hlv)
theorem a_tlen (X : Cx p s m meth c G own cc nL ret) {i : Nat} (hi : i < 10) (d : decode cc pc = .ok (.arraylength, 1)) (kk : Wa p l e R s m args below meth c nL G al mk cs ss Q M (pc + 1) lo (.int (nI (slB i).length) :: st)) : Wa p l e R s m args below meth c nL G al mk cs ss Q M pc lo (.ref (G.2.2.2.1 i) :: st) :=
  fun H locs ls hH hS hlv => va_tlen X.1 X.2.1 ((cx_S X).2.2.1 i hi).2.2.2 hS rfl d (kk H locs ls hH hS hlv)
theorem a_tald (X : Cx p s m meth c G own cc nL ret) {i : Nat} (hi : i < 10) {k : Int32} (hin : vp_in k (slB i).length) (d : decode cc pc = .ok (.baload, 1)) (kk : Wa p l e R s m args below meth c nL G al mk cs ss Q M (pc + 1) lo (.int ((slB i).getD k.toNatClampNeg 0) :: st)) : Wa p l e R s m args below meth c nL G al mk cs ss Q M pc lo (.int k :: .ref (G.2.2.2.1 i) :: st) :=
  fun H locs ls hH hS hlv => va_tb X.1 X.2.1 ((cx_S X).2.2.1 i hi).2.2.2 hS hin rfl d (kk H locs ls hH hS hlv)
theorem a_compact (X : Cx p s m meth c G RJ0 cc nL ret) (d : decode cc pc = .ok (.getstatic 38, 3)) (kk : Wa p l e R s m args below meth c nL G al mk cs ss Q M (pc + 3) lo (.int 1 :: st)) : Wa p l e R s m args below meth c nL G al mk cs ss Q M pc lo st :=
  fun H locs ls hH hS hlv => va_gets (ref := RJ0) X.1 X.2.1 (cx_S X).2.2.2.2.1 hS X.2.2.2.1 (cx_w X flJ0_38) (fun x h => h) d (kk H locs ls hH hS hlv)
theorem a_sioobe (X : Cx p s m meth c G RJ0 cc nL ret) (d : decode cc pc = .ok (.getstatic 1053, 3)) (kn : Wa p l e R s m args below meth c nL G al mk cs ss Q M (pc + 3) lo (.null :: st)) (kr : ∀ t : Nat, Wa p l e R s m args below meth c nL G al mk cs ss Q M (pc + 3) lo (.ref t :: st)) : Wa p l e R s m args below meth c nL G al mk cs ss Q M pc lo st := by
  intro H locs ls hH hS hlv
  rcases (cx_S X).2.2.2.2.2.1 with hZ | ⟨t, hZ⟩
  · exact va_gets (ref := RJ3) X.1 X.2.1 hZ hS X.2.2.2.1 (cx_w X flJ0_1053) (fun x h => h) d (kn H locs ls hH hS hlv)
  · exact va_gets (ref := RJ3) X.1 X.2.1 hZ hS X.2.2.2.1 (cx_w X flJ0_1053) (fun x h => h) d (kr t H locs ls hH hS hlv)
theorem a_nret {ty : FieldType} (X : Cx p s m meth c G own cc nL (some ty)) {v : Int32} {Q0 : Int32 → Mem → Prop} (hn : narrow ty (.int v) = .int v) (hq : Q0 v M) (d : decode cc pc = .ok (.ireturn, 1)) : Wa p l e R s m args below meth c nL G al mk 0 0 (MQ below (QI G al mk Q0) args s 0 0 (gA G)) M pc lo [.int v] :=
  fun H locs ls hH hS hl => W.zret X.1 X.2.1 X.2.2.2.2.1 hn (fun t ht hW => ⟨⟨v, M, rfl, hq, hp_to hH ht⟩, hS.F ht⟩) hS.2.2 d X.2.2.2.2.2.1
/-- a call on a literal -/
theorem run_T (X : Cx p s m meth c G own cc nL ret) {y : MethodName} {bytes : ByteArray} {maxL : Nat} {rt : Option FieldType} {rm : Room} {As : List Value} {i idx : Nat} {Qc : Array Value → State → Outcome → State → Prop} (hi : i < 10) (hM : Kv l y bytes maxL rt rm G al mk M (.ref (G.2.2.1 i) :: As) Qc) (hl : Cond.methodLink own idx y ∈ lw_tbl) (hV : Mv y RJ0 bytes maxL rt As.length) (hR : Rz rm R maxL cs ss) (hW : (st.map fun v => v.category).sum ≤ 8) (hst : stk = As.reverse ++ .ref (G.2.2.1 i) :: st) (d : decode cc pc = .ok (.invokevirtual idx, 3))
    {H : Heap} {locs : List Loc} {ls : Array Slot} (hH : Hp G al mk M H) (hS : va_S (gA G) s.heap H locs) (hlv : lv_has ls nL lo) : va_Run p l e R s m args below meth c H locs cs ss 0 0 (F0 m pc ls stk) st (Qc (Value.ref (G.2.2.1 i) :: As).toArray) (gA G) := by
  have hok := wk_Vok hl hV
  have hts : ∀ w ∈ wk_V own idx RJ0 y bytes maxL rt, w.before args s = true := fun w hw => cx_w X (hok w hw)
  obtain ⟨cell, h1, h2, h3, -⟩ := ((cx_S X).2.2.1 i hi).1.kept hS.2.1
  exact va_runV (As := As) (rest := st) ⟨X.1, X.2.1, X.2.2.1, X.2.2.2.1, hts⟩ hM (cwV As.length hts (wk_good hok) rfl hR.1.1 hR.1.2 hV.2 hR.2.1) ⟨pn_blind, ⟨cell, h1, h2, h3⟩, fun U hU hW => ⟨rfl, (cx_S X).to hS hU hW, hp_to hH hU⟩⟩ rfl rfl hlv.1 hst (lv_room hW) d ⟨hR.2.2.1, hR.2.2.2⟩
theorem a_cTi (X : Cx p s m meth c G own cc nL ret) {y : MethodName} {bytes : ByteArray} {maxL : Nat} {rt : Option FieldType} {rm : Room} {As : List Value} {i idx : Nat} {Q1 : Int32 → Mem → Prop} (hi : i < 10) (hM : Kv l y bytes maxL rt rm G al mk M (.ref (G.2.2.1 i) :: As) (QI G al mk Q1)) (hl : Cond.methodLink own idx y ∈ lw_tbl) (hV : Mv y RJ0 bytes maxL rt As.length) (hR : Rz rm R maxL cs ss) (hW : (st.map fun v => v.category).sum ≤ 8) (hst : stk = As.reverse ++ .ref (G.2.2.1 i) :: st) (d : decode cc pc = .ok (.invokevirtual idx, 3))
    (kk : ∀ (r : Int32) (M' : Mem), Q1 r M' → Wa p l e R s m args below meth c nL G al mk cs ss Q M' (pc + 3) lo (.int r :: st)) : Wa p l e R s m args below meth c nL G al mk cs ss Q M pc lo stk :=
  fun H locs ls hH hS hlv => back_i kk hS hlv (run_T X hi hM hl hV hR hW hst d hH hS hlv)
end A4
abbrev rm_j0 : Room := { frames := 0, cells := 0, slots := 0, locals := 0 }
abbrev rm_j1 : Room := { frames := 1, cells := 0, slots := 0, locals := 22 }
abbrev rm_j2 : Room := { frames := 2, cells := 0, slots := 0, locals := 43 }
abbrev rm_j3 : Room := { frames := 3, cells := 0, slots := 0, locals := 64 }
theorem cJ_coder (l : Launch) {G : Gl} {al : Nat → Nat} {mk : Nat} {M : Mem} {i : Nat} (hi : i < 10) : Kv l yJ0_coder_7d493 cJ0_coder_7d493 1 (some .byte) rm_j0 G al mk M [.ref (G.2.2.1 i)] (QI G al mk (fun r M' => r = 0 ∧ M' = M)) := by
  refine a_head (by decide) (Nat.le_of_ble_eq_true rfl) (fun p e s m below meth c X => ?_)
  have X : Cx p s m meth c G RJ0 cJ0_coder_7d493 1 (some .byte) := X
  refine a_sub (ks := [0]) (lo' := [(0, .ref (G.2.2.1 i))]) rfl ?_
  refine a_compact X dJ0_coder_7d493_0 ?_
  refine a_if_eq (tgt := 13) X dJ0_coder_7d493_3 (by decide) (fun z => absurd z (by decide)) (fun z => ?_)
  refine a_aload_n X dJ0_coder_7d493_6 rfl 0 rfl ?_
  refine a_coder X hi dJ0_coder_7d493_7 ?_
  refine a_goto (tgt := 14) X dJ0_coder_7d493_10 (by decide) ?_
  exact a_nret X (by decide) ⟨rfl, rfl⟩ dJ0_coder_7d493_14
theorem cJ_latin (l : Launch) {G : Gl} {al : Nat → Nat} {mk : Nat} {M : Mem} {i : Nat} (hi : i < 10) : Kv l yJ0_isLatin1_aae02 cJ0_isLatin1_aae02 1 (some .boolean) rm_j0 G al mk M [.ref (G.2.2.1 i)] (QI G al mk (fun r M' => r = 1 ∧ M' = M)) := by
  refine a_head (by decide) (Nat.le_of_ble_eq_true rfl) (fun p e s m below meth c X => ?_)
  have X : Cx p s m meth c G RJ0 cJ0_isLatin1_aae02 1 (some .boolean) := X
  refine a_sub (ks := [0]) (lo' := [(0, .ref (G.2.2.1 i))]) rfl ?_
  refine a_compact X dJ0_isLatin1_aae02_0 ?_
  refine a_if_eq (tgt := 17) X dJ0_isLatin1_aae02_3 (by decide) (fun z => absurd z (by decide)) (fun z => ?_)
  refine a_aload_n X dJ0_isLatin1_aae02_6 rfl 0 rfl ?_
  refine a_coder X hi dJ0_isLatin1_aae02_7 ?_
  refine a_if_ne (tgt := 17) X dJ0_isLatin1_aae02_10 (by decide) (fun z => absurd rfl z) (fun z => ?_)
  refine a_iconst (v := 1) X dJ0_isLatin1_aae02_13 ic_1 ?_
  refine a_goto (tgt := 18) X dJ0_isLatin1_aae02_14 (by decide) ?_
  exact a_nret X (by decide) ⟨rfl, rfl⟩ dJ0_isLatin1_aae02_18
theorem cJ_len (l : Launch) {G : Gl} {al : Nat → Nat} {mk : Nat} {M : Mem} {i : Nat} (hi : i < 10) : Kv l yJ0_length_8abf5 cJ0_length_8abf5 1 (some .int) rm_j1 G al mk M [.ref (G.2.2.1 i)] (QI G al mk (fun r M' => r = nI (slB i).length ∧ M' = M)) := by
  refine a_head (by decide) (Nat.le_of_ble_eq_true rfl) (fun p e s m below meth c X => ?_)
  have X : Cx p s m meth c G RJ0 cJ0_length_8abf5 1 (some .int) := X
  refine a_sub (ks := [0]) (lo' := [(0, .ref (G.2.2.1 i))]) rfl ?_
  refine a_aload_n X dJ0_length_8abf5_0 rfl 0 rfl ?_
  refine a_value X hi dJ0_length_8abf5_1 ?_
  refine a_tlen X hi dJ0_length_8abf5_4 ?_
  refine a_aload_n X dJ0_length_8abf5_5 rfl 0 rfl ?_
  refine a_cTi (As := []) (st := [.int (nI (slB i).length)]) X hi (cJ_coder l hi) mlJ0_335 mvJ0_coder_7d493 (rz rfl) (Nat.le_of_ble_eq_true rfl) rfl dJ0_length_8abf5_6 (fun r M' h => ?_)
  obtain ⟨rfl, rfl⟩ := h
  refine a_ishr X dJ0_length_8abf5_9 ?_
  exact a_iret X ⟨(sch_len i hi).2, rfl⟩ dJ0_length_8abf5_10
theorem cJ_pre (l : Launch) {G : Gl} {al : Nat → Nat} {mk : Nat} {M : Mem} {k n : Int32} (h0 : ¬ k < 0) (h1 : k < n) {v : Value} (hv : v = .null ∨ ∃ t, v = .ref t) : Kv l yJ3_checkIndex_8e157 cJ3_checkIndex_8e157 3 (some .int) rm_j0 G al mk M [.int k, .int n, v] (QI G al mk (fun _ M' => M' = M)) := by
  have key : ∀ (v : Value), (lg_sl [.int k, .int n, v]).length ≤ 3 → Kv l yJ3_checkIndex_8e157 cJ3_checkIndex_8e157 3 (some .int) rm_j0 G al mk M [.int k, .int n, v] (QI G al mk (fun _ M' => M' = M)) := by
    intro v hn
    refine a_head (by decide) hn (fun p e s m below meth c X => ?_)
    have X : Cx p s m meth c G RJ3 cJ3_checkIndex_8e157 3 (some .int) := X
    refine a_sub (ks := [0, 1]) (lo' := [(0, .int k), (1, .int n)]) rfl ?_
    refine a_iload_n X dJ3_checkIndex_8e157_0 rfl 0 rfl ?_
    refine a_if_lt (tgt := 9) X dJ3_checkIndex_8e157_1 (by decide) (fun z => absurd z h0) (fun z => ?_)
    refine a_iload_n X dJ3_checkIndex_8e157_4 rfl 0 rfl ?_
    refine a_iload_n X dJ3_checkIndex_8e157_5 rfl 1 rfl ?_
    refine a_icmp_lt (tgt := 16) X dJ3_checkIndex_8e157_6 (by decide) (fun z => ?_) (fun z => absurd h1 z)
    refine a_iload_n X dJ3_checkIndex_8e157_16 rfl 0 rfl ?_
    exact a_iret X rfl dJ3_checkIndex_8e157_17
  rcases hv with rfl | ⟨t, rfl⟩
  · exact key _ (Nat.le_of_ble_eq_true rfl)
  · exact key _ (Nat.le_of_ble_eq_true rfl)
theorem cJ_chk (l : Launch) {G : Gl} {al : Nat → Nat} {mk : Nat} {M : Mem} {k n : Int32} (h0 : ¬ k < 0) (h1 : k < n) : Kv l yJ0_checkIndex_df160 cJ0_checkIndex_df160 2 none rm_j1 G al mk M [.int k, .int n] (QV G al mk (fun M' => M' = M)) := by
  refine a_head (by decide) (Nat.le_of_ble_eq_true rfl) (fun p e s m below meth c X => ?_)
  have X : Cx p s m meth c G RJ0 cJ0_checkIndex_df160 2 none := X
  refine a_sub (ks := [0, 1]) (lo' := [(0, .int k), (1, .int n)]) rfl ?_
  refine a_iload_n X dJ0_checkIndex_df160_0 rfl 0 rfl ?_
  refine a_iload_n X dJ0_checkIndex_df160_1 rfl 1 rfl ?_
  refine a_sioobe X dJ0_checkIndex_df160_2 ?_ (fun t => ?_)
  · refine a_cSi (As := [.int k, .int n, .null]) (st := []) X (cJ_pre l h0 h1 (Or.inl rfl)) mlJ0_1059 msJ3_checkIndex_8e157 (rz rfl) (Nat.le_of_ble_eq_true rfl) rfl dJ0_checkIndex_df160_5 (fun r M' h => ?_)
    refine a_pop X dJ0_checkIndex_df160_8 rfl ?_
    exact a_vret X h dJ0_checkIndex_df160_9
  · refine a_cSi (As := [.int k, .int n, .ref t]) (st := []) X (cJ_pre l h0 h1 (Or.inr ⟨t, rfl⟩)) mlJ0_1059 msJ3_checkIndex_8e157 (rz rfl) (Nat.le_of_ble_eq_true rfl) rfl dJ0_checkIndex_df160_5 (fun r M' h => ?_)
    refine a_pop X dJ0_checkIndex_df160_8 rfl ?_
    exact a_vret X h dJ0_checkIndex_df160_9
theorem cJ_lch (l : Launch) {G : Gl} {al : Nat → Nat} {mk : Nat} {M : Mem} {i : Nat} {k : Int32} (hi : i < 10) (hin : vp_in k (slB i).length) : Kv l yJ1_charAt_3b067 cJ1_charAt_3b067 2 (some .char) rm_j2 G al mk M [.ref (G.2.2.2.1 i), .int k] (QI G al mk (fun r M' => r = sch i k.toNatClampNeg ∧ M' = M)) := by
  obtain ⟨j, hj, ej⟩ := vp_in_of hin (sch_len i hi).1
  have hk : k.toNatClampNeg < (slB i).length := by rw [ej, nI_clamp (Nat.lt_trans hj (sch_len i hi).1)]; exact hj
  have h0 : ¬ k < 0 := by rw [ej]; exact nI_pos (Nat.lt_trans hj (sch_len i hi).1)
  have h1 : k < nI (slB i).length := by rw [ej]; exact nI_lt hj (sch_len i hi).1
  refine a_head (by decide) (Nat.le_of_ble_eq_true rfl) (fun p e s m below meth c X => ?_)
  have X : Cx p s m meth c G RJ1 cJ1_charAt_3b067 2 (some .char) := X
  refine a_sub (ks := [0, 1]) (lo' := [(0, .ref (G.2.2.2.1 i)), (1, .int k)]) rfl ?_
  refine a_iload_n X dJ1_charAt_3b067_0 rfl 1 rfl ?_
  refine a_aload_n X dJ1_charAt_3b067_1 rfl 0 rfl ?_
  refine a_tlen X hi dJ1_charAt_3b067_2 ?_
  refine a_cSv (As := [.int k, .int (nI (slB i).length)]) (st := []) X (cJ_chk l h0 h1) mlJ1_9 msJ0_checkIndex_df160 (rz rfl) (Nat.le_of_ble_eq_true rfl) rfl dJ1_charAt_3b067_3 (fun M' h => ?_)
  subst h
  refine a_aload_n X dJ1_charAt_3b067_6 rfl 0 rfl ?_
  refine a_iload_n X dJ1_charAt_3b067_7 rfl 1 rfl ?_
  refine a_tald X hi hin dJ1_charAt_3b067_8 ?_
  refine a_sipush (v := 255) X dJ1_charAt_3b067_9 (by decide) ?_
  refine a_iand X dJ1_charAt_3b067_12 ?_
  refine a_i2c X dJ1_charAt_3b067_13 ?_
  have hs := sch_ok i hi _ hk
  refine a_topi (fun x ex => ?_)
  rw [hs.1] at ex
  subst ex
  exact a_nret X hs.2 ⟨rfl, rfl⟩ dJ1_charAt_3b067_14
theorem cJ_chr (l : Launch) {G : Gl} {al : Nat → Nat} {mk : Nat} {M : Mem} {i : Nat} {k : Int32} (hi : i < 10) (hin : vp_in k (slB i).length) : Kv l yJ0_charAt_5068e cJ0_charAt_5068e 2 (some .char) rm_j3 G al mk M [.ref (G.2.2.1 i), .int k] (QI G al mk (fun r M' => r = sch i k.toNatClampNeg ∧ M' = M)) := by
  obtain ⟨j, hj, ej⟩ := vp_in_of hin (sch_len i hi).1
  have hk : k.toNatClampNeg < (slB i).length := by rw [ej, nI_clamp (Nat.lt_trans hj (sch_len i hi).1)]; exact hj
  refine a_head (by decide) (Nat.le_of_ble_eq_true rfl) (fun p e s m below meth c X => ?_)
  have X : Cx p s m meth c G RJ0 cJ0_charAt_5068e 2 (some .char) := X
  refine a_sub (ks := [0, 1]) (lo' := [(0, .ref (G.2.2.1 i)), (1, .int k)]) rfl ?_
  refine a_aload_n X dJ0_charAt_5068e_0 rfl 0 rfl ?_
  refine a_cTi (As := []) (st := []) X hi (cJ_latin l hi) mlJ0_492 mvJ0_isLatin1_aae02 (rz rfl) (Nat.le_of_ble_eq_true rfl) rfl dJ0_charAt_5068e_1 (fun r M' h => ?_)
  obtain ⟨rfl, rfl⟩ := h
  refine a_if_eq (tgt := 16) X dJ0_charAt_5068e_4 (by decide) (fun z => absurd z (by decide)) (fun z => ?_)
  refine a_aload_n X dJ0_charAt_5068e_7 rfl 0 rfl ?_
  refine a_value X hi dJ0_charAt_5068e_8 ?_
  refine a_iload_n X dJ0_charAt_5068e_11 rfl 1 rfl ?_
  refine a_cSi (As := [.ref (G.2.2.2.1 i), .int k]) (st := []) X (cJ_lch l hi hin) mlJ0_495 msJ1_charAt_3b067 (rz rfl) (Nat.le_of_ble_eq_true rfl) rfl dJ0_charAt_5068e_12 (fun r M' h => ?_)
  obtain ⟨rfl, rfl⟩ := h
  exact a_nret X (sch_ok i hi _ hk).2 ⟨rfl, rfl⟩ dJ0_charAt_5068e_15
section A5
variable {p : Program} {l : Launch} {e : Env} {R : Room} {s : State} {m : MethodId} {args : Array Value} {below : List Frame} {meth : Method} {c : Code} {nL : Nat} {G : Gl} {al : Nat → Nat} {mk cs ss : Nat} {Q : State → Prop} {M : Mem} {pc : Nat} {lo lo' : List (Nat × Value)} {st stk : List Value} {own : String} {cc : ByteArray} {ret : Option FieldType}
theorem a_slen (X : Cx p s m meth c G own cc nL ret) {i idx : Nat} (hi : i < 10) (hl : Cond.methodLink own idx yJ0_length_8abf5 ∈ lw_tbl) (hR : (Nat.ble 2 R.frames && Nat.ble 42 R.locals && Nat.ble cs R.cells && Nat.ble ss R.slots && Nat.ble ((st.map fun v => v.category).sum) 8) = true) (d : decode cc pc = .ok (.invokevirtual idx, 3)) (kk : Wa p l e R s m args below meth c nL G al mk cs ss Q M (pc + 3) lo (.int (nI (slB i).length) :: st)) : Wa p l e R s m args below meth c nL G al mk cs ss Q M pc lo (.ref (G.2.2.1 i) :: st) := by
  simp only [Bool.and_eq_true, Nat.ble_eq] at hR
  obtain ⟨⟨⟨⟨h1, h2⟩, h3⟩, h4⟩, h5⟩ := hR
  refine a_cTi (As := []) (st := st) X hi (cJ_len l hi) hl mvJ0_length_8abf5 ⟨⟨rfl, rfl⟩, ⟨h1, h2⟩, h3, h4⟩ h5 rfl d (fun r M' h => ?_)
  obtain ⟨rfl, rfl⟩ := h
  exact kk
theorem a_schr (X : Cx p s m meth c G own cc nL ret) {i idx : Nat} {k : Int32} (hi : i < 10) (hl : Cond.methodLink own idx yJ0_charAt_5068e ∈ lw_tbl) (hR : (Nat.ble 4 R.frames && Nat.ble 85 R.locals && Nat.ble cs R.cells && Nat.ble ss R.slots) = true) (hW : (st.map fun v => v.category).sum ≤ 8) (hin : vp_in k (slB i).length) (d : decode cc pc = .ok (.invokevirtual idx, 3)) (kk : Wa p l e R s m args below meth c nL G al mk cs ss Q M (pc + 3) lo (.int (sch i k.toNatClampNeg) :: st)) : Wa p l e R s m args below meth c nL G al mk cs ss Q M pc lo (.int k :: .ref (G.2.2.1 i) :: st) := by
  simp only [Bool.and_eq_true, Nat.ble_eq] at hR
  obtain ⟨⟨⟨h1, h2⟩, h3⟩, h4⟩ := hR
  refine a_cTi (As := [.int k]) (st := st) X hi (cJ_chr l hi hin) hl mvJ0_charAt_5068e ⟨⟨rfl, rfl⟩, ⟨h1, h2⟩, h3, h4⟩ hW rfl d (fun r M' h => ?_)
  obtain ⟨rfl, rfl⟩ := h
  exact kk
end A5
