theorem back_t {p : Program} {l : Launch} {e : Env} {R : Room} {s : State} {m : MethodId} {args : Array Value} {below : List Frame} {meth : Method} {c : Code} {nL : Nat} {G : Gl} {al : Nat → Nat} {mk kF cs ss mc ms : Nat} {Q : State → Prop} {pc : Nat} {lo : List (Nat × Value)} {st stk : List Value} {Q1 : Mem → Prop} {a : Array Value} (kk : ∀ (al' : Nat → Nat) (M' : Mem), Ex mk al al' → Q1 M' → Wa p l e R s m args below meth c nL G al' kF (cs + mc) (ss + ms) Q M' (pc + 3) lo st) {H : Heap} {locs : List Loc} {ls : Array Slot} (hS : va_S (gA G) s.heap H locs) (hlv : lv_has ls nL lo)
    (hr : va_Run p l e R s m args below meth c H locs cs ss mc ms (F0 m pc ls stk) st (QT G mk kF al Q1 a) (gA G)) : W p l e R s m args below meth c H locs cs ss Q (F0 m pc ls stk) :=
  va_callv hr hS (fun q _ h => h) (fun q h => h) (fun u t H1 locs1 ht hvm hw hB hz hk hS1 => kk u.1 u.2 hw.1 hw.2 H1 locs1 ls (by rw [← ht]; exact hB) hS1 hlv)
set_option maxHeartbeats 4000000 in
set_option maxRecDepth 100000 in
theorem cX3_ranks_ok (l : Launch) {G : Gl} {al : Nat → Nat} {mk kF : Nat} {M : Mem} {v1 : Int32} {Q : Int32 → Mem → Prop} (hk : mk ≤ kF) (hk4 : kF ≤ 4) (h : wpX3_ranks kF mk M v1 Q) : Met l yX3_ranks [.code yX3_ranks cX3_ranks 2 (some .int)] (rmR (kF - mk)) (Pt G al mk M [.ref (al 0), .int v1]) (QTi G mk kF al Q) (7 * (kF - mk)) (5011 * (kF - mk)) (gA G) := by
  refine tt_head (by decide) (Nat.le_of_ble_eq_true rfl) (fun p e s m below meth c X hb => ?_)
  have X : Cx p s m meth c G RX3 cX3_ranks 2 (some .int) := X
  unfold wpX3_ranks at h
  refine a_sub (ks := [0, 1]) (lo' := [(0, .ref (al 0)), (1, .int v1)]) rfl ?_
  have refuse : ∀ (M' : Mem), (mk = kF ∧ wpX3_refuse M' 2 (fun r M_1 => Q r M_1)) → Wa p l e (rmR (kF - mk)) s m [Value.ref (al 0), .int v1].toArray below meth c 2 G al mk 0 0 (MQ below (QTi G mk kF al Q) [Value.ref (al 0), .int v1].toArray s (7 * (kF - mk)) (5011 * (kF - mk)) (gA G)) M' 15 [(0, .ref (al 0)), (1, .int v1)] [] := by
    rintro M' ⟨rfl, h9⟩
    refine a_aload_n X dX3_ranks_15 rfl 0 rfl ?_
    refine a_iconst (v := 2) X dX3_ranks_16 ic_2 ?_
    refine a_cVi (As := [.int 2]) (st := []) X fw3 iz_0 (cX3_refuse_ok l h9) mlX3_58 mvX3_refuse ⟨⟨rfl, rfl⟩, ⟨Nat.le_of_ble_eq_true rfl, Nat.le_of_ble_eq_true rfl⟩, Nat.zero_le _, Nat.zero_le _⟩ (Nat.le_of_ble_eq_true rfl) rfl dX3_ranks_17 (fun r M_1 h => ?_)
    simp only [Nat.sub_self, Nat.mul_zero]
    exact fun H locs ls hH hS hl => W.iret X.1 X.2.1 X.2.2.2.2.1 (fun t ht hW => ⟨⟨r, (al, M_1), rfl, ⟨Ex.r _ _, h⟩, hp_to hH ht⟩, hS.F ht⟩) hS.2.2 dX3_ranks_20 X.2.2.2.2.2.1
  refine a_iload_n X dX3_ranks_0 rfl 1 rfl ?_
  refine a_if_lt (tgt := 15) X dX3_ranks_1 (by decide) (fun z => ?_) (fun z => ?_)
  · exact refuse M (h.1 z)
  · have h := h.2 z
    refine a_iload_n X dX3_ranks_4 rfl 1 rfl ?_
    refine a_aload_n X dX3_ranks_5 rfl 0 rfl ?_
    refine a_getR (k := 0) X 1 (b := 1) fw3 iz_0 rfl rfl flX3_10 rfl dX3_ranks_6 ?_
    refine a_getI (k := 1) X fw2 iz_1 rfl flX3_51 rfl dX3_ranks_9 ?_
    refine a_icmp_le (tgt := 21) X dX3_ranks_12 (by decide) (fun z => ?_) (fun z => ?_)
    · have h := h.1 z
      refine a_aload_n X dX3_ranks_21 rfl 0 rfl ?_
      refine a_getR (k := 0) X 1 (b := 1) fw3 iz_0 rfl rfl flX3_10 rfl dX3_ranks_22 ?_
      refine a_iload_n X dX3_ranks_25 rfl 1 rfl ?_
      refine a_cVv (As := [.int v1]) (st := []) X fw2 iz_1 (cX2_readText_ok l h) mlX3_62 mvX2_readText ⟨⟨rfl, rfl⟩, ⟨Nat.le_of_ble_eq_true rfl, Nat.le_of_ble_eq_true rfl⟩, Nat.zero_le _, Nat.zero_le _⟩ (Nat.le_of_ble_eq_true rfl) rfl dX3_ranks_26 (fun M_2 h => ?_)
      refine a_aload_n X dX3_ranks_29 rfl 0 rfl ?_
      refine a_aload_n X dX3_ranks_30 rfl 0 rfl ?_
      refine a_getR (k := 0) X 1 (b := 1) fw3 iz_0 rfl rfl flX3_10 rfl dX3_ranks_31 ?_
      refine a_getI (k := 7) X fw2 iz_1 rfl flX3_65 rfl dX3_ranks_34 ?_
      refine a_putI (k := 6) X fw3 iz_0 rfl flX3_35 rfl rfl dX3_ranks_37 (fun M_3 eM_3 => ?_)
      have h := h M_3 eM_3
      refine a_aload_n X dX3_ranks_40 rfl 0 rfl ?_
      refine a_aload_n X dX3_ranks_41 rfl 0 rfl ?_
      refine a_getR (k := 0) X 1 (b := 1) fw3 iz_0 rfl rfl flX3_10 rfl dX3_ranks_42 ?_
      refine a_getI (k := 8) X fw2 iz_1 rfl flX3_68 rfl dX3_ranks_45 ?_
      refine a_putI (k := 7) X fw3 iz_0 rfl flX3_38 rfl rfl dX3_ranks_48 (fun M_4 eM_4 => ?_)
      have h := h M_4 eM_4
      refine a_aload_n X dX3_ranks_51 rfl 0 rfl ?_
      refine a_getI (k := 6) X fw3 iz_0 rfl flX3_35 rfl dX3_ranks_52 ?_
      refine a_if_eq (tgt := 64) X dX3_ranks_55 (by decide) (fun z => ?_) (fun z => ?_)
      · have h := h.1 z
        refine a_aload_n X dX3_ranks_64 rfl 0 rfl ?_
        intro H locs ls hH hS hlv
        have hok := wk_Vok mlX3_71 mvX3_takeText
        have hts : ∀ w ∈ wk_V RX3 71 RX3 yX3_takeText cX3_takeText 3 none, w.before [Value.ref (al 0), .int v1].toArray s = true := fun w hw => cx_w X (hok w hw)
        refine back_t (mk := mk) (kF := kF) (al := al) (cs := 0) (ss := 0) (mc := 7 * (kF - mk)) (ms := 5011 * (kF - mk)) (Q1 := fun M_5 => wpX3_pass M_5 (gI M_5 0 2) (fun r M_6 => Q r M_6)) (a := [Value.ref (al 0)].toArray) (fun al' M_5 hE h => ?_) hS hlv (va_runV (As := []) (rest := []) ⟨X.1, X.2.1, X.2.2.1, X.2.2.2.1, hts⟩ (cX3_takeText_ok l hk hk4 h) (cwV 0 hts (wk_good hok) rfl rfl rfl mvX3_takeText.2 ⟨Nat.le_of_ble_eq_true rfl, Nat.le_of_ble_eq_true rfl⟩) ⟨pt_blind, hp_recv X fw3 iz_0 hH, fun U hU hW => ⟨rfl, (cx_S X).to hS hU hW, by rw [hU]; exact Nat.le_trans hb hS.1, hp_to hH hU⟩⟩ rfl rfl hlv.1 rfl (lv_room (Nat.le_of_ble_eq_true rfl)) dX3_ranks_65 ⟨by rw [Nat.zero_add]; exact Nat.le_refl _, by rw [Nat.zero_add]; exact Nat.le_refl _⟩)
        rw [Nat.zero_add, Nat.zero_add, show al 0 = al' 0 from (hE 0 (by omega)).symm]
        refine a_aload_n X dX3_ranks_68 rfl 0 rfl ?_
        refine a_aload_n X dX3_ranks_69 rfl 0 rfl ?_
        refine a_getI (k := 2) X fw3 iz_0 rfl flX3_22 rfl dX3_ranks_70 ?_
        refine a_cVi (As := [.int (gI M_5 0 2)]) (st := []) X fw3 iz_0 (cX3_pass_ok l h) mlX3_74 mvX3_pass ⟨⟨rfl, rfl⟩, ⟨Nat.le_of_ble_eq_true rfl, Nat.le_of_ble_eq_true rfl⟩, Nat.le_refl _, Nat.le_refl _⟩ (Nat.le_of_ble_eq_true rfl) rfl dX3_ranks_73 (fun r M_1 h => ?_)
        exact fun H locs ls hH hS hl => W.iret X.1 X.2.1 X.2.2.2.2.1 (fun t ht hW => ⟨⟨r, (al', M_1), rfl, ⟨hE, h⟩, hp_to hH ht⟩, hS.F ht⟩) hS.2.2 dX3_ranks_76 X.2.2.2.2.2.1
      · obtain ⟨rfl, h9⟩ := h.2 z
        refine a_aload_n X dX3_ranks_58 rfl 0 rfl ?_
        refine a_iconst (v := 4) X dX3_ranks_59 ic_4 ?_
        refine a_cVi (As := [.int 4]) (st := []) X fw3 iz_0 (cX3_refuse_ok l h9) mlX3_58 mvX3_refuse ⟨⟨rfl, rfl⟩, ⟨Nat.le_of_ble_eq_true rfl, Nat.le_of_ble_eq_true rfl⟩, Nat.zero_le _, Nat.zero_le _⟩ (Nat.le_of_ble_eq_true rfl) rfl dX3_ranks_60 (fun r M_1 h => ?_)
        simp only [Nat.sub_self, Nat.mul_zero]
        exact fun H locs ls hH hS hl => W.iret X.1 X.2.1 X.2.2.2.2.1 (fun t ht hW => ⟨⟨r, (al, M_1), rfl, ⟨Ex.r _ _, h⟩, hp_to hH ht⟩, hS.F ht⟩) hS.2.2 dX3_ranks_63 X.2.2.2.2.2.1
    · exact refuse M (h.2 z)
