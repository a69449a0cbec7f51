/-! ===== takeText and ranks ===== -/
def Pt (G : Gl) (al : Nat → Nat) (mk : Nat) (M : Mem) (av : List Value) : Array Value → State → Prop := va_Pc av (fun U => Sx G U ∧ G.2.2.2.2 ≤ U.heap.size ∧ Hp G al mk M U.heap)
theorem pt_blind {G : Gl} {al : Nat → Nat} {mk : Nat} {M : Mem} {av : List Value} : FrameBlind (Pt G al mk M av) :=
  fun a U g k h => ⟨h.1, h.2.1.to (H := U.heap) (locs := []) va_S.rf rfl (State.WarmedH.refl U), h.2.2⟩
def QT (G : Gl) (mk kF : Nat) (al : Nat → Nat) (Q : Mem → Prop) : Array Value → State → Outcome → State → Prop := va_Qv (S := (Nat → Nat) × Mem) (fun u => Ex mk al u.1 ∧ Q u.2) (fun u t => Hp G u.1 kF u.2 t.heap) (gA G)
def QTi (G : Gl) (mk kF : Nat) (al : Nat → Nat) (Q : Int32 → Mem → Prop) : Array Value → State → Outcome → State → Prop := va_Qi (S := (Nat → Nat) × Mem) (fun r u => Ex mk al u.1 ∧ Q r u.2) (fun u t => Hp G u.1 kF u.2 t.heap) (gA G)
def rmT (d : Nat) : Room := { frames := 5, cells := 7 * d, slots := 5011 * d, locals := 136 }
def rmR (d : Nat) : Room := { frames := 10, cells := 7 * d, slots := 5011 * d, locals := 267 }
theorem tt_head {l : Launch} {y : MethodName} {cc : ByteArray} {nL : Nat} {ret : Option FieldType} {rm : Room} {G : Gl} {al : Nat → Nat} {mk : Nat} {M : Mem} {av : List Value} {Qc : Array Value → State → Outcome → State → Prop} {mc ms : Nat} (hy : plainName y.cls = true) (hn : (lg_sl av).length ≤ nL)
    (body : ∀ (p : Program) (e : Env) (s : State) (m : MethodId) (below : List Frame) (meth : Method) (c : Code), Cx p s m meth c G y.cls cc nL ret → G.2.2.2.2 ≤ s.heap.size → Wa p l e rm s m av.toArray below meth c nL G al mk 0 0 (MQ below Qc av.toArray s mc ms (gA G)) M 0 (lv_args 0 av) []) : Met l y [.code y cc nL ret] rm (Pt G al mk M av) Qc mc ms (gA G) := by
  refine Met.ofW (cc := cc) (maxL := nL) (ret := ret) hy rfl ?_
  intro p e s m args below meth c s₁ B hml hv
  obtain ⟨rfl, hx, hs, hh⟩ := hv
  rw [lg_entry_eq]
  exact body p e s m below meth c ⟨B.exec, B.bytes, hml, findClass_of_methodNamed B.named, B.returns, B.notSynchronized, hx⟩ hs s.heap [] _ hh va_S.rf (lv_entry av hn)
section T7
variable {p : Program} {l : Launch} {e : Env} {s : State} {m : MethodId} {args : Array Value} {below : List Frame} {meth : Method} {c : Code} {G : Gl} {al : Nat → Nat} {mk : Nat}
set_option maxHeartbeats 4000000 in
set_option maxRecDepth 100000 in
theorem tX3_takeText_80 (X : Cx p s m meth c G RX3 cX3_takeText 3 none) {al0 : Nat → Nat} {mk0 d : Nat} {Q : Mem → Prop} (hE : Ex mk0 al0 al) : ∀ (n : Nat) (M : Mem) (v1 : Int32), wX3_takeText_80 mk Q n M v1 → Wa p l e (rmT d) s m args below meth c 3 G al mk (7 * d) (5011 * d) (MQ below (QT G mk0 mk al0 Q) args s (7 * d) (5011 * d) (gA G)) M 80 [(0, .ref (al 0)), (1, .int v1)] [] := by
  intro n
  induction n with
  | zero =>
    intro M v1 h
    exact False.elim h
  | succ n ih =>
    intro M v1 h
    rw [wX3_takeText_80] at h
    refine a_iload_n X dX3_takeText_80 rfl 1 rfl ?_
    refine a_aload_n X dX3_takeText_81 rfl 0 rfl ?_
    refine a_getR (k := 0) X 1 (b := 1) fw3 iz_0 rfl rfl flX3_10 rfl dX3_takeText_82 ?_
    refine a_getI (k := 13) X fw2 iz_1 rfl flX3_308 rfl dX3_takeText_85 ?_
    refine a_icmp_ge (tgt := 132) X dX3_takeText_88 (by decide) (fun z => ?_) (fun z => ?_)
    · have h := h.1 z
      exact fun H locs ls hH hS hl => W.vret X.1 X.2.1 X.2.2.2.2.1 (fun t ht hW => ⟨⟨(al, M), rfl, ⟨hE, h⟩, hp_to hH ht⟩, hS.F ht⟩) hS.2.2 dX3_takeText_132 X.2.2.2.2.2.1
    · have h := h.2 z
      refine a_aload_n X dX3_takeText_91 rfl 0 rfl ?_
      refine a_aload_n X dX3_takeText_92 rfl 0 rfl ?_
      refine a_getR (k := 0) X 1 (b := 1) fw3 iz_0 rfl rfl flX3_10 rfl dX3_takeText_93 ?_
      refine a_getR (k := 14) X 4 (b := 5) fw2 iz_1 rfl rfl flX3_311 rfl dX3_takeText_96 ?_
      refine a_iload_n X dX3_takeText_99 rfl 1 rfl ?_
      refine a_iald X iz_5 h.1 dX3_takeText_100 ?_
      have h := h.2
      refine a_cVq (As := [.int (gI M 5 (Int32.toNatClampNeg v1))]) (st := []) X fw3 iz_0 (cX3_find_ok l h) mlX3_80 mvX3_find ⟨⟨rfl, rfl⟩, ⟨Nat.le_of_ble_eq_true rfl, Nat.le_of_ble_eq_true rfl⟩, Nat.le_refl _, Nat.le_refl _⟩ (Nat.le_of_ble_eq_true rfl) rfl dX3_takeText_101 (fun M_1 h => ?_) (fun n_2 M_1 in_2 h => ?_)
      · have h := h.1 rfl
        refine a_astore_nN (lo' := [(2, .null), (0, .ref (al 0)), (1, .int v1)]) X dX3_takeText_104 rfl (by decide) rfl ?_
        refine a_aload_nN X dX3_takeText_105 rfl 0 rfl ?_
        refine a_ifnullN (tgt := 126) X dX3_takeText_106 (by decide) ?_
        refine a_iinc (v := v1 + 1) (lo' := [(1, .int (v1 + 1)), (2, .null), (0, .ref (al 0))]) X dX3_takeText_126 2 rfl (ii_1 _) (by decide) rfl ?_
        refine a_goto (tgt := 80) X dX3_takeText_129 (by decide) ?_
        refine a_sub (ks := [2, 0]) (lo' := [(0, .ref (al 0)), (1, .int (v1 + 1))]) rfl ?_
        exact ih _ _ h
      · have h := h.2 n_2 rfl
        refine a_astore_n (lo' := [(2, .ref (al n_2)), (0, .ref (al 0)), (1, .int v1)]) X dX3_takeText_104 rfl (by decide) rfl ?_
        refine a_aload_n X dX3_takeText_105 rfl 0 rfl ?_
        refine a_ifnull X dX3_takeText_106 ?_
        refine a_aload_n X dX3_takeText_109 rfl 0 rfl ?_
        refine a_aload_n X dX3_takeText_110 rfl 1 rfl ?_
        refine a_getR (k := 0) X 1 (b := 1) fw3 iz_0 rfl rfl flX3_10 rfl dX3_takeText_111 ?_
        refine a_getR (k := 15) X 5 (b := 6) fw2 iz_1 rfl rfl flX3_314 rfl dX3_takeText_114 ?_
        refine a_iload_n X dX3_takeText_117 rfl 2 rfl ?_
        refine a_iald X iz_6 h.1 dX3_takeText_118 ?_
        have h := h.2
        refine a_aload_n X dX3_takeText_119 rfl 1 rfl ?_
        refine a_getI (k := 3) X fw3 iz_0 rfl flX3_26 rfl dX3_takeText_120 ?_
        refine a_cVv (As := [.int (gI M_1 6 (Int32.toNatClampNeg v1)), .int (gI M_1 0 3)]) (st := []) X fw1 in_2 (cX1_pushValue_ok l in_2 h) mlX3_269 mvX1_pushValue ⟨⟨rfl, rfl⟩, ⟨Nat.le_of_ble_eq_true rfl, Nat.le_of_ble_eq_true rfl⟩, Nat.le_refl _, Nat.le_refl _⟩ (Nat.le_of_ble_eq_true rfl) rfl dX3_takeText_123 (fun M_4 h => ?_)
        refine a_iinc (v := v1 + 1) (lo' := [(1, .int (v1 + 1)), (2, .ref (al n_2)), (0, .ref (al 0))]) X dX3_takeText_126 2 rfl (ii_1 _) (by decide) rfl ?_
        refine a_goto (tgt := 80) X dX3_takeText_129 (by decide) ?_
        refine a_sub (ks := [2, 0]) (lo' := [(0, .ref (al 0)), (1, .int (v1 + 1))]) rfl ?_
        exact ih _ _ h
/-- from the Stream's begin on -/
theorem tX3_takeText_54 (X : Cx p s m meth c G RX3 cX3_takeText 3 none) {R : Room} {cs ss : Nat} {Qs : State → Prop} {Q : Mem → Prop} {M : Mem} {v1 : Int32} (hf : 3 ≤ R.frames) (hlo : 64 ≤ R.locals) (hc : cs ≤ R.cells) (hs : ss ≤ R.slots) (hin : vp_in v1 4) (hlt : Int32.toNatClampNeg v1 < mk) (h : wpX1_begin M (100 + 20 * Int32.toNatClampNeg v1) (gI M 4 (Int32.toNatClampNeg v1)) Q)
    (kk : ∀ M', Q M' → Wa p l e R s m args below meth c 3 G al mk cs ss Qs M' 24 [(0, .ref (al 0)), (1, .int (v1 + 1))] []) : Wa p l e R s m args below meth c 3 G al mk cs ss Qs M 54 [(0, .ref (al 0)), (1, .int v1)] [] := by
  refine a_aload_n X dX3_takeText_54 rfl 0 rfl ?_
  refine a_getR (k := 1) X 7 (b := 7) fw3 iz_0 rfl rfl flX3_18 rfl dX3_takeText_55 ?_
  refine a_iload_n X dX3_takeText_58 rfl 1 rfl ?_
  refine a_aald X hin dX3_takeText_59 (fun z => absurd hlt z) (fun z => ?_)
  refine a_aload_n X dX3_takeText_60 rfl 0 rfl ?_
  refine a_getR (k := 0) X 1 (b := 1) fw3 iz_0 rfl rfl flX3_10 rfl dX3_takeText_61 ?_
  refine a_getR (k := 12) X 3 (b := 4) fw2 iz_1 rfl rfl flX3_302 rfl dX3_takeText_64 ?_
  refine a_iload_n X dX3_takeText_67 rfl 1 rfl ?_
  refine a_iald X iz_4 hin dX3_takeText_68 ?_
  have hz : Iz mk (100 + 20 * Int32.toNatClampNeg v1) (1, 0) := Iz.mkd (Nat.not_le.mp fun q => hin (Or.inr q)) hlt
  refine a_cVv (As := [.int (gI M 4 (Int32.toNatClampNeg v1))]) (st := []) X fw1 hz (cX1_begin_ok l hz h) mlX3_305 mvX1_begin ⟨⟨rfl, rfl⟩, ⟨hf, hlo⟩, hc, hs⟩ (Nat.le_of_ble_eq_true rfl) rfl dX3_takeText_69 (fun M_4 h => ?_)
  refine a_iinc (v := v1 + 1) (lo' := [(1, .int (v1 + 1)), (0, .ref (al 0))]) X dX3_takeText_72 1 rfl (ii_1 _) (by decide) rfl ?_
  refine a_goto (tgt := 24) X dX3_takeText_75 (by decide) ?_
  refine a_sub (ks := [1, 0]) (lo' := [(0, .ref (al 0)), (1, .int (v1 + 1))]) rfl ?_
  exact kk _ h
end T7
section T8
variable {p : Program} {l : Launch} {e : Env} {s : State} {m : MethodId} {args : Array Value} {below : List Frame} {meth : Method} {c : Code} {G : Gl}
set_option maxHeartbeats 4000000 in
set_option maxRecDepth 100000 in
theorem tX3_takeText_24 (X : Cx p s m meth c G RX3 cX3_takeText 3 none) (hb : G.2.2.2.2 ≤ s.heap.size) {al0 : Nat → Nat} {mk0 kF : Nat} {Q : Mem → Prop} (hk4 : kF ≤ 4) : ∀ (n mj : Nat) (al : Nat → Nat) (M : Mem) (v1 : Int32), wX3_takeText_24 kF Q n mj M v1 → Ex mk0 al0 al → mk0 ≤ mj → mj ≤ kF → Wa p l e (rmT (kF - mk0)) s m args below meth c 3 G al mj (7 * (mj - mk0)) (5011 * (mj - mk0)) (MQ below (QT G mk0 kF al0 Q) args s (7 * (kF - mk0)) (5011 * (kF - mk0)) (gA G)) M 24 [(0, .ref (al 0)), (1, .int v1)] [] := by
  intro n
  induction n with
  | zero =>
    intro mj al M v1 h
    exact False.elim h
  | succ n ih =>
    intro mj al M v1 h hE h0 hF
    rw [wX3_takeText_24] at h
    refine a_iload_n X dX3_takeText_24 rfl 1 rfl ?_
    refine a_aload_n X dX3_takeText_25 rfl 0 rfl ?_
    refine a_getI (k := 2) X fw3 iz_0 rfl flX3_22 rfl dX3_takeText_26 ?_
    refine a_icmp_ge (tgt := 78) X dX3_takeText_29 (by decide) (fun z => ?_) (fun z => ?_)
    · obtain ⟨rfl, g, h⟩ := h.1 z
      refine a_iconst (v := 0) X dX3_takeText_78 ic_0 ?_
      refine a_istore_n (lo' := [(1, .int 0), (0, .ref (al 0))]) X dX3_takeText_79 rfl (by decide) rfl ?_
      refine a_sub (ks := [1, 0]) (lo' := [(0, .ref (al 0)), (1, .int 0)]) rfl ?_
      exact tX3_takeText_80 X hE g M 0 h
    · obtain ⟨hin, hn, hy⟩ := h.2 z
      refine a_aload_n X dX3_takeText_32 rfl 0 rfl ?_
      refine a_getR (k := 1) X 7 (b := 7) fw3 iz_0 rfl rfl flX3_18 rfl dX3_takeText_33 ?_
      refine a_iload_n X dX3_takeText_36 rfl 1 rfl ?_
      refine a_aald X hin dX3_takeText_37 (fun z => ?_) (fun z => ?_)
      · obtain ⟨⟨e1, e2⟩, h⟩ := hn z
        refine a_ifnonnullN X dX3_takeText_38 ?_
        refine a_aload_n X dX3_takeText_41 rfl 0 rfl ?_
        refine a_getR (k := 1) X 7 (b := 7) fw3 iz_0 rfl rfl flX3_18 rfl dX3_takeText_42 ?_
        refine a_iload_n X dX3_takeText_45 rfl 1 rfl ?_
        refine a_mkS X hb (by omega) e1 hin (Nat.le_of_ble_eq_true rfl) (Nat.le_of_ble_eq_true rfl) (by show 7 * (mj - mk0) + 7 ≤ 7 * (kF - mk0); omega) (by show 5011 * (mj - mk0) + 5011 ≤ 5011 * (kF - mk0); omega) (fun al' hE' => ?_)
        rw [show al 0 = al' 0 from (hE' 0 (by omega)).symm]
        have hg : gI (nS M (100 + 20 * mj)) 4 (Int32.toNatClampNeg v1) = gI M 4 (Int32.toNatClampNeg v1) := nS_fr.g (by omega) _
        refine tX3_takeText_54 X (Nat.le_of_ble_eq_true rfl) (Nat.le_of_ble_eq_true rfl) (by show 7 * (mj - mk0) + 7 ≤ 7 * (kF - mk0); omega) (by show 5011 * (mj - mk0) + 5011 ≤ 5011 * (kF - mk0); omega) hin (by omega) (Q := fun M_1 => wX3_takeText_24 kF Q n (mj + 1) M_1 (v1 + 1)) (by rw [hg, e1]; rw [e1] at h; exact h) (fun M' h => ?_)
        have := ih (mj + 1) al' M' (v1 + 1) h (hE.t hE' h0) (by omega) (by omega)
        rw [show 7 * (mj + 1 - mk0) = 7 * (mj - mk0) + 7 by omega, show 5011 * (mj + 1 - mk0) = 5011 * (mj - mk0) + 5011 by omega] at this
        exact this
      · have h := hy z
        refine a_ifnonnull (tgt := 54) X dX3_takeText_38 (by decide) ?_
        exact tX3_takeText_54 X (Nat.le_of_ble_eq_true rfl) (Nat.le_of_ble_eq_true rfl) (by show 7 * (mj - mk0) ≤ 7 * (kF - mk0); omega) (by show 5011 * (mj - mk0) ≤ 5011 * (kF - mk0); omega) hin z (Q := fun M_1 => wX3_takeText_24 kF Q n mj M_1 (v1 + 1)) h (fun M' h => ih mj al M' (v1 + 1) h hE h0 hF)
set_option maxHeartbeats 4000000 in
set_option maxRecDepth 100000 in
theorem cX3_takeText_ok (l : Launch) {G : Gl} {al : Nat → Nat} {mk kF : Nat} {M : Mem} {Q : Mem → Prop} (hk : mk ≤ kF) (hk4 : kF ≤ 4) (h : wpX3_takeText kF mk M Q) : Met l yX3_takeText [.code yX3_takeText cX3_takeText 3 none] (rmT (kF - mk)) (Pt G al mk M [.ref (al 0)]) (QT G mk kF al Q) (7 * (kF - mk)) (5011 * (kF - mk)) (gA G) := by
  refine tt_head (by decide) (Nat.le_of_ble_eq_true rfl) (fun p e s m below meth c X hb => ?_)
  have X : Cx p s m meth c G RX3 cX3_takeText 3 none := X
  unfold wpX3_takeText at h
  refine a_sub (ks := [0]) (lo' := [(0, .ref (al 0))]) rfl ?_
  refine a_aload_n X dX3_takeText_0 rfl 0 rfl ?_
  refine a_aload_n X dX3_takeText_1 rfl 0 rfl ?_
  refine a_getR (k := 0) X 1 (b := 1) fw3 iz_0 rfl rfl flX3_10 rfl dX3_takeText_2 ?_
  refine a_getI (k := 9) X fw2 iz_1 rfl flX3_295 rfl dX3_takeText_5 ?_
  refine a_putI (k := 3) X fw3 iz_0 rfl flX3_26 rfl rfl dX3_takeText_8 (fun M_1 eM_1 => ?_)
  have h := h M_1 eM_1
  refine a_aload_n X dX3_takeText_11 rfl 0 rfl ?_
  refine a_aload_n X dX3_takeText_12 rfl 0 rfl ?_
  refine a_getR (k := 0) X 1 (b := 1) fw3 iz_0 rfl rfl flX3_10 rfl dX3_takeText_13 ?_
  refine a_getI (k := 10) X fw2 iz_1 rfl flX3_298 rfl dX3_takeText_16 ?_
  refine a_putI (k := 2) X fw3 iz_0 rfl flX3_22 rfl rfl dX3_takeText_19 (fun M_2 eM_2 => ?_)
  obtain ⟨g, h⟩ := h M_2 eM_2
  refine a_iconst (v := 0) X dX3_takeText_22 ic_0 ?_
  refine a_istore_n (lo' := [(1, .int 0), (0, .ref (al 0))]) X dX3_takeText_23 rfl (by decide) rfl ?_
  refine a_sub (ks := [1, 0]) (lo' := [(0, .ref (al 0)), (1, .int 0)]) rfl ?_
  have := tX3_takeText_24 (l := l) (e := e) (args := [Value.ref (al 0)].toArray) (below := below) X hb (mk0 := mk) (al0 := al) hk4 g mk al M_2 0 h (Ex.r _ _) (Nat.le_refl _) hk
  simp only [Nat.sub_self, Nat.mul_zero] at this
  exact this
end T8
