/-! ===== THE LAW: ranks (Streams are made), idle (what is thrown is caught) ===== -/
theorem back_ti {p : Program} {l : Launch} {e : Env} {R : Room} {s : State} {m : MethodId} {args : Array Value} {below : List Frame} {meth : Method} {c : Code} {nL : Nat} {G : Gl} {al : Nat → Nat} {mk kF cs ss mc ms : Nat} {Q : State → Prop} {pc : Nat} {lo : List (Nat × Value)} {st stk : List Value} {Q1 : Int32 → Mem → Prop} {a : Array Value} (kk : ∀ (r : Int32) (al' : Nat → Nat) (M' : Mem), Ex mk al al' → Q1 r M' → Wa p l e R s m args below meth c nL G al' kF (cs + mc) (ss + ms) Q M' (pc + 3) lo (.int r :: st)) {H : Heap} {locs : List Loc} {ls : Array Slot} (hS : va_S (gA G) s.heap H locs) (hlv : lv_has ls nL lo)
    (hr : va_Run p l e R s m args below meth c H locs cs ss mc ms (F0 m pc ls stk) st (QTi G mk kF al Q1 a) (gA G)) : W p l e R s m args below meth c H locs cs ss Q (F0 m pc ls stk) :=
  va_calli hr hS (fun q _ h => h) (fun q h => h) (fun r u t H1 locs1 ht hvm hw hB hz hk hS1 => kk r u.1 u.2 hw.1 hw.2 H1 locs1 ls (by rw [← ht]; exact hB) hS1 hlv)
section LC
variable {p : Program} {l : Launch} {e : Env} {s : State} {m : MethodId} {args : Array Value} {below : List Frame} {meth : Method} {c : Code} {G : Gl} {al : Nat → Nat} {mk cs ss : Nat} {Q : State → Prop} {M : Mem} {S : Gs} {b L i : Nat} {xs : Nat → Int32}
set_option maxHeartbeats 4000000 in
set_option maxRecDepth 100000 in
/-- ranks -/
theorem lc_1 (X : Lx p s m meth c G b L xs) (hC : CS mk S M) (hM : MS S M) (hG : GI S) (hi : i + 5 < L) (hk : mk ≤ 4) (hR : cs + 7 * (4 - mk) ≤ room_1.cells ∧ ss + 5011 * (4 - mk) ≤ room_1.slots) (K : ∀ al' mk' S' M', mk ≤ mk' → mk' ≤ 4 → CS mk' S' M' → MS S' M' → GI S' → Wa p l e room_1 s m args below meth c 7 G al' mk' (cs + 7 * (mk' - mk)) (ss + 5011 * (mk' - mk)) Q M' 2116 (lwl al' b i) []) : Wa p l e room_1 s m args below meth c 7 G al mk cs ss Q M 325 (lwl al b i) [] := by
  obtain ⟨S', r, mk', hk1, hk4, hG', h1, h2⟩ := op_ranks hC hG hk (xs (i + 1))
  refine a_aload_n X.1 dL_law_325 rfl 1 rfl ?_
  refine a_arg X 1 ic_1 dL_law_326 dL_law_327 dL_law_329 dL_law_330 dL_law_331 (by omega) ?_
  intro H locs ls hH hS hlv
  have hok := wk_Vok mlL_24 mvX3_ranks
  have hts : ∀ w ∈ wk_V RL 24 RX3 yX3_ranks cX3_ranks 2 (some .int), w.before args s = true := fun w hw => cx_w X.1 (hok w hw)
  have hr1 : cs + 7 * (mk' - mk) ≤ room_1.cells := Nat.le_trans (by omega) hR.1
  have hr2 : ss + 5011 * (mk' - mk) ≤ room_1.slots := Nat.le_trans (by omega) hR.2
  refine back_ti (mk := mk) (kF := mk') (al := al) (Q1 := fun r1 M1 => r1 = r ∧ CS mk' S' M1 ∧ Fr 0 199 M M1) (fun r1 al' M1 hE q => ?_) hS hlv (va_runV (As := [.int (xs (i + 1))]) (rest := []) ⟨X.1.1, X.1.2.1, X.1.2.2.1, X.1.2.2.2.1, hts⟩ (cX3_ranks_ok l hk1 hk4 (h1 _ (fun M1 a b => ⟨rfl, a, b⟩))) (cwV 1 hts (wk_good hok) rfl rfl rfl mvX3_ranks.2 ⟨Nat.le_of_ble_eq_true rfl, Nat.le_of_ble_eq_true rfl⟩) ⟨pt_blind, hp_recv X.1 fw3 iz_0 hH, fun U hU hW => ⟨rfl, (cx_S X.1).to hS hU hW, by rw [hU, X.2.2.2.1]; exact hS.1, hp_to hH hU⟩⟩ rfl rfl hlv.1 rfl (lv_room (Nat.le_of_ble_eq_true rfl)) dL_law_332 ⟨hr1, hr2⟩)
  obtain ⟨hr, hC1, f1⟩ := q
  subst hr
  rw [show lwl al b i = lwl al' b i from by unfold lwl; rw [hE 0 (by omega), hE 200 (by omega), hE 300 (by omega)]]
  refine a_aload_n X.1 dL_law_335 rfl 2 rfl ?_
  refine a_arg X 1 ic_1 dL_law_336 dL_law_337 dL_law_339 dL_law_340 dL_law_341 (by omega) ?_
  refine a_cVi (As := [.int (xs (i + 1))]) (st := [.int r1]) X.1 fw4 iz_200 (cX4_ranks_ok l (h2 M1 (hM.fr f1) (fun r2 M2 => r2 = r1 ∧ MS S' M2 ∧ FrI M1 M2) (fun M2 a b => ⟨rfl, a, b⟩))) mlL_27 mvX4_ranks ⟨⟨rfl, rfl⟩, ⟨Nat.le_of_ble_eq_true rfl, Nat.le_of_ble_eq_true rfl⟩, hr1, hr2⟩ (Nat.le_of_ble_eq_true rfl) rfl dL_law_342 (fun r2 M2 q => ?_)
  obtain ⟨hr, hM2, f2⟩ := q
  refine a_icmp_eq (tgt := 2116) X.1 dL_law_345 (by decide) (fun z => ?_) (fun z => absurd hr.symm z)
  exact K al' mk' S' M2 hk1 hk4 (hC1.fri hG' f2) hM2 hG'
theorem lg_0 (x : Int64) : lg_cmp x x = 0 := by simp [lg_cmp]
set_option maxHeartbeats 4000000 in
set_option maxRecDepth 100000 in
/-- idle -/
theorem lc_46 (hl : l.stackTraces = false) (X : Lx p s m meth c G b L xs) (hC : CS mk S M) (hM : MS S M) (hG : GI S) (hi : i + 5 < L) (hR : cs + 1 ≤ room_1.cells ∧ ss + 6 ≤ room_1.slots) (K : ∀ S' M', CS mk S' M' → MS S' M' → GI S' → Wa p l e room_1 s m args below meth c 7 G al mk (cs + 1) (ss + 6) Q M' 2116 (lwl al b i) []) : Wa p l e room_1 s m args below meth c 7 G al mk cs ss Q M 2034 (lwl al b i) [] := by
  have cls : ∀ {Q1 : Int32 → Mem → Prop} {E1 : Mem → Prop}, wpX3_idle mk M (xs (i + 1)) Q1 E1 → (∀ r M', QLi Q1 E1 r M' → Wa p l e room_1 s m args below meth c 7 G al mk (cs + 1) (ss + 6) Q M' 2045 (lwl al b i) [.int r]) → Wa p l e room_1 s m args below meth c 7 G al mk cs ss Q M 2034 (lwl al b i) [] := by
    intro Q1 E1 hw kk
    refine a_aload_n X.1 dL_law_2034 rfl 1 rfl ?_
    refine a_arg X 1 ic_1 dL_law_2035 dL_law_2036 dL_law_2038 dL_law_2039 dL_law_2040 (by omega) ?_
    refine a_aload_n X.1 dL_law_2041 rfl 3 rfl ?_
    intro H locs ls hH hS hlv
    have hok : ∀ w ∈ va_wsS RL 212 yL_idle [wdL], w ∈ lw_tbl ∧ goodWord w = true := by
      intro w hw
      simp only [va_wsS, List.cons_append, List.nil_append, List.mem_cons, List.not_mem_nil, or_false] at hw
      rcases hw with rfl | rfl | rfl | rfl
      · exact ⟨mlL_212, rfl⟩
      · exact ⟨mt4_2 (List.mem_of_getElem? (i := 3) (by decide +kernel)), rfl⟩
      · exact ⟨mt1_0 (List.mem_of_getElem? (i := 0) (by decide +kernel)), rfl⟩
      · exact ⟨wdL_in, rfl⟩
    have hts : ∀ w ∈ va_wsS RL 212 yL_idle [wdL], w.before args s = true := fun w hw => cx_w X.1 (hok w hw)
    exact va_calli (vx_runSW (As := [.ref (al 0), .int (xs (i + 1)), .ref (al 300)]) (rest := []) ⟨X.1.1, X.1.2.1, X.1.2.2.1, X.1.2.2.2.1, hts⟩ (cL_idle_ok l hl hw) (vx_cwSW 3 hts (wk_good hok) rfl rfl rfl ⟨by decide, by decide, by decide +kernel⟩ ⟨Nat.le_of_ble_eq_true rfl, Nat.le_of_ble_eq_true rfl⟩) ⟨pi_blind, fun U hU hW => ⟨rfl, (cx_S X.1).to hS hU hW, by rw [hU, X.2.2.2.1]; exact hS.1, X.2.2.2.2.1.to hS hU hW, hp_to hH hU⟩⟩ rfl rfl hlv.1 rfl (lv_room (Nat.le_of_ble_eq_true rfl)) dL_law_2042 hR) hS (fun q _ h => h) (fun q h => h) (fun r u t H1 locs1 ht hvm hw hB hz hk hS1 => kk r u hw H1 locs1 ls (by rw [← ht]; exact hB) hS1 hlv)
  have tail : ∀ (k v : Int32) (M1 M2 : Mem), CS mk S M2 → MS S M2 → gI M2 200 0 = k → (k = 0 → gL M2 300 0 = v.toInt64) → Wa p l e room_1 s m args below meth c 7 G al mk (cs + 1) (ss + 6) Q M2 2059 [(6, .int v), (5, .int k), (0, .ref b), (1, .ref (al 0)), (2, .ref (al 200)), (3, .ref (al 300)), (4, .int (iI i))] [] := by
    intro k v M1 M2 hC2 hM2 hg hv
    have fin : ∀ pc, pc = 2116 → Wa p l e room_1 s m args below meth c 7 G al mk (cs + 1) (ss + 6) Q M2 pc [(6, .int v), (5, .int k), (0, .ref b), (1, .ref (al 0)), (2, .ref (al 200)), (3, .ref (al 300)), (4, .int (iI i))] [] := by
      rintro _ rfl
      exact a_sub (ks := [2, 3, 4, 5, 6]) (lo' := lwl al b i) rfl (K S M2 hC2 hM2 hG)
    refine a_aload_n X.1 dL_law_2059 rfl 4 rfl ?_
    refine a_cVi (As := []) (st := []) (Q1 := fun r M' => r = k ∧ M' = M2) X.1 fw4 iz_200 (cX4_thrown_ok l (Q := fun r M' => r = k ∧ M' = M2) ⟨hg, rfl⟩) mlL_218 mvX4_thrown ⟨⟨rfl, rfl⟩, ⟨Nat.le_of_ble_eq_true rfl, Nat.le_of_ble_eq_true rfl⟩, hR.1, hR.2⟩ (Nat.le_of_ble_eq_true rfl) rfl dL_law_2060 (fun r M' q => ?_)
    obtain ⟨hr, rfl⟩ := q
    refine a_iload X.1 dL_law_2063 1 rfl ?_
    refine a_icmp_eq (tgt := 2070) X.1 dL_law_2065 (by decide) (fun z => ?_) (fun z => absurd hr z)
    refine a_iload X.1 dL_law_2070 1 rfl ?_
    refine a_if_ne (tgt := 2087) X.1 dL_law_2072 (by decide) (fun z => ?_) (fun z => ?_)
    · exact a_goto (tgt := 2116) X.1 dL_law_2087 (by decide) (fin _ rfl)
    · refine a_aload_n X.1 dL_law_2075 rfl 5 rfl ?_
      refine a_iconst (v := 0) X.1 dL_law_2076 ic_0 ?_
      refine a_lald (n := 1) X.1 iz_300 ((iI_in (a := 0) (by omega)).mpr ⟨by omega, by omega⟩) dL_law_2077 ?_
      refine a_iload X.1 dL_law_2078 0 rfl ?_
      refine a_i2l X.1 dL_law_2080 ?_
      refine a_lcmp X.1 dL_law_2081 ?_
      refine a_if_eq (tgt := 2087) X.1 dL_law_2082 (by decide) (fun z => ?_) (fun z2 => absurd ?_ z2)
      · exact a_goto (tgt := 2116) X.1 dL_law_2087 (by decide) (fin _ rfl)
      · show lg_cmp (gL M' 300 0) v.toInt64 = 0
        rw [hv z]
        exact lg_0 _
  have mid : ∀ (k : Int32) (M1 : Mem) {Q2 : Int32 → Mem → Prop}, wpX4_idle M1 (xs (i + 1)) Q2 → (∀ v M2, Q2 v M2 → Wa p l e room_1 s m args below meth c 7 G al mk (cs + 1) (ss + 6) Q M2 2059 [(6, .int v), (5, .int k), (0, .ref b), (1, .ref (al 0)), (2, .ref (al 200)), (3, .ref (al 300)), (4, .int (iI i))] []) → Wa p l e room_1 s m args below meth c 7 G al mk (cs + 1) (ss + 6) Q M1 2045 (lwl al b i) [.int k] := by
    intro k M1 Q2 hw kk
    refine a_istore (lo' := [(5, .int k), (0, .ref b), (1, .ref (al 0)), (2, .ref (al 200)), (3, .ref (al 300)), (4, .int (iI i))]) X.1 dL_law_2045 (by decide) rfl ?_
    refine a_aload_n X.1 dL_law_2047 rfl 3 rfl ?_
    refine a_aload_n X.1 dL_law_2048 rfl 1 rfl ?_
    refine a_iload X.1 dL_law_2049 5 rfl ?_
    refine a_iconst (v := iI 1) X.1 dL_law_2051 ic_1 ?_
    refine a_iadd X.1 dL_law_2052 ?_
    refine a_sld X (j := i + 1) (by rw [iI_add, Int.natCast_add]; rfl) (by omega) dL_law_2053 ?_
    refine a_cVi (As := [.int (xs (i + 1))]) (st := []) X.1 fw4 iz_200 (cX4_idle_ok l hw) mlL_217 mvX4_idle ⟨⟨rfl, rfl⟩, ⟨Nat.le_of_ble_eq_true rfl, Nat.le_of_ble_eq_true rfl⟩, hR.1, hR.2⟩ (Nat.le_of_ble_eq_true rfl) rfl dL_law_2054 (fun v M2 q => ?_)
    refine a_istore (lo' := [(6, .int v), (5, .int k), (0, .ref b), (1, .ref (al 0)), (2, .ref (al 200)), (3, .ref (al 300)), (4, .int (iI i))]) X.1 dL_law_2057 (by decide) rfl ?_
    exact kk v M2 q
  rcases op_idle hC hG (xs (i + 1)) with ⟨v, h1, h2⟩ | ⟨h1, h2⟩
  · refine cls (Q1 := fun r M' => r = v ∧ M' = M) (E1 := fun _ => False) (h1 _ _ ⟨rfl, rfl⟩) (fun r M' q => ?_)
    rcases q with ⟨rfl, w, M1, ⟨rfl, rfl⟩, rfl⟩ | ⟨-, q⟩
    · refine mid 0 _ (h2 (pL M1 300 0 w.toInt64) (hM.keep (fun _ _ _ _ => rfl)) (fun r M2 => r = w ∧ MS S M2 ∧ Fr 200 299 (pL M1 300 0 w.toInt64) M2 ∧ gI M2 200 0 = iI 0) (fun M2 a b c => ⟨rfl, a, b, c⟩)) (fun u M2 q => ?_)
      obtain ⟨rfl, hM2, f2, hg⟩ := q
      refine tail 0 u M1 M2 (CS.fr (M := pL M1 300 0 u.toInt64) (hC.keep hG (fun _ _ _ => rfl)) hG f2) hM2 hg (fun _ => ?_)
      show M2.2 300 0 = _
      rw [f2.1]
      have e9 := gL_pL M1 300 0 u.toInt64 300 0
      rw [if_pos ⟨rfl, rfl⟩] at e9
      exact e9
    · exact q.elim
  · refine cls (Q1 := fun _ _ => False) (E1 := fun M' => M' = M) (h1 _ _ rfl) (fun r M' q => ?_)
    rcases q with ⟨-, w, M1, q, -⟩ | ⟨rfl, rfl⟩
    · exact q.elim
    · refine mid 1 _ (h2 M' hM (fun r M2 => MS S M2 ∧ Fr 200 299 M' M2 ∧ gI M2 200 0 = iI 1) (fun M2 a b c => ⟨a, b, c⟩)) (fun u M2 q => ?_)
      obtain ⟨hM2, f2, hg⟩ := q
      exact tail 1 u M' M2 (hC.fr hG f2) hM2 hg (fun z => absurd z (by decide))
end LC
