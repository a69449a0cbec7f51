/-! ===== THE LAW'S LOOP ===== -/
set_option maxHeartbeats 8000000 in
set_option maxRecDepth 100000 in
theorem law_sw {p : Program} {l : Launch} {e : Env} {s : State} {m : MethodId} {below : List Frame} {meth : Method} {c : Code} {G : Gl} {b L : Nat} {xs : Nat → Int32} (hl : l.stackTraces = false) (X : Lx p s m meth c G b L xs) {i : Nat} {al : Nat → Nat} {mk cs ss : Nat} {M : Mem} {S : Gs} {Q : State → Prop} {args : Array Value} (hC : CS mk S M) (hM : MS S M) (hG : GI S) (hk : mk ≤ 4) (hi : i + 5 < L) (hR : cs + 7 * (4 - mk) + 1 ≤ room_1.cells ∧ ss + 5011 * (4 - mk) + 6 ≤ room_1.slots)
    (K : ∀ al' mk' cs' ss' S' M', mk ≤ mk' → mk' ≤ 4 → cs' ≤ cs + 7 * (mk' - mk) + 6 → ss' ≤ ss + 5011 * (mk' - mk) + 6 → CS mk' S' M' → MS S' M' → GI S' → Wa p l e room_1 s m args below meth c 7 G al' mk' cs' ss' Q M' 2116 (lwl al' b i) []) : Wa p l e room_1 s m args below meth c 7 G al mk cs ss Q M 33 (lwl al b i) [] := by
  have hR0 : cs ≤ room_1.cells ∧ ss ≤ room_1.slots := ⟨by omega, by omega⟩
  have K0 : ∀ S' M', CS mk S' M' → MS S' M' → GI S' → Wa p l e room_1 s m args below meth c 7 G al mk cs ss Q M' 2116 (lwl al b i) [] := fun S' M' h1 h2 h3 => K al mk cs ss S' M' (Nat.le_refl _) hk (by omega) (by omega) h1 h2 h3
  refine a_aload_n X.1 dL_law_33 rfl 0 rfl ?_
  refine a_iload X.1 dL_law_34 4 rfl ?_
  refine a_sld X rfl (by omega) dL_law_36 ?_
  refine a_bipush (v := 63) X.1 dL_law_37 (by decide) ?_
  refine a_iand X.1 dL_law_39 ?_
  obtain ⟨n, hn, en⟩ := pk_andE (xs i) (m := 63) 6 (by decide)
  rw [en]
  have hn : n < 64 := hn
  by_cases hc : n < 49
  · rcases (show n = 0 ∨ n = 1 ∨ n = 2 ∨ n = 3 ∨ n = 4 ∨ n = 5 ∨ n = 6 ∨ n = 7 ∨ n = 8 ∨ n = 9 ∨ n = 10 ∨ n = 11 ∨ n = 12 ∨ n = 13 ∨ n = 14 ∨ n = 15 ∨ n = 16 ∨ n = 17 ∨ n = 18 ∨ n = 19 ∨ n = 20 ∨ n = 21 ∨ n = 22 ∨ n = 23 ∨ n = 24 ∨ n = 25 ∨ n = 26 ∨ n = 27 ∨ n = 28 ∨ n = 29 ∨ n = 30 ∨ n = 31 ∨ n = 32 ∨ n = 33 ∨ n = 34 ∨ n = 35 ∨ n = 36 ∨ n = 37 ∨ n = 38 ∨ n = 39 ∨ n = 40 ∨ n = 41 ∨ n = 42 ∨ n = 43 ∨ n = 44 ∨ n = 45 ∨ n = 46 ∨ n = 47 ∨ n = 48 by omega) with rfl | rfl | rfl | rfl | rfl | rfl | rfl | rfl | rfl | rfl | rfl | rfl | rfl | rfl | rfl | rfl | rfl | rfl | rfl | rfl | rfl | rfl | rfl | rfl | rfl | rfl | rfl | rfl | rfl | rfl | rfl | rfl | rfl | rfl | rfl | rfl | rfl | rfl | rfl | rfl | rfl | rfl | rfl | rfl | rfl | rfl | rfl | rfl | rfl
    · exact a_ts (k := nI 0) (off := 212) (tgt := 252) X.1 rfl dL_law_40 (by decide) (by decide) (by decide) (by decide) (lc_0 X hC hM hG hi hR0 K0)
    · exact a_ts (k := nI 1) (off := 285) (tgt := 325) X.1 rfl dL_law_40 (by decide) (by decide) (by decide) (by decide) (lc_1 X hC hM hG hi hk ⟨by omega, by omega⟩ (fun al' mk' S' M' q1 q2 q3 q4 q5 => K al' mk' _ _ S' M' q1 q2 (by omega) (by omega) q3 q4 q5))
    · exact a_ts (k := nI 2) (off := 310) (tgt := 350) X.1 rfl dL_law_40 (by decide) (by decide) (by decide) (by decide) (lc_2 X hC hM hG hi hR0 K0)
    · exact a_ts (k := nI 3) (off := 323) (tgt := 363) X.1 rfl dL_law_40 (by decide) (by decide) (by decide) (by decide) (lc_3 X hC hM hG hi hR0 K0)
    · exact a_ts (k := nI 4) (off := 336) (tgt := 376) X.1 rfl dL_law_40 (by decide) (by decide) (by decide) (by decide) (lc_4 X hC hM hG hi hR0 K0)
    · exact a_ts (k := nI 5) (off := 361) (tgt := 401) X.1 rfl dL_law_40 (by decide) (by decide) (by decide) (by decide) (lc_5 X hC hM hG hi hR0 K0)
    · exact a_ts (k := nI 6) (off := 398) (tgt := 438) X.1 rfl dL_law_40 (by decide) (by decide) (by decide) (by decide) (lc_6 X hC hM hG hi hR0 K0)
    · exact a_ts (k := nI 7) (off := 447) (tgt := 487) X.1 rfl dL_law_40 (by decide) (by decide) (by decide) (by decide) (lc_7 X hC hM hG hi hR0 K0)
    · exact a_ts (k := nI 8) (off := 484) (tgt := 524) X.1 rfl dL_law_40 (by decide) (by decide) (by decide) (by decide) (lc_8 X hC hM hG hi hR0 K0)
    · exact a_ts (k := nI 9) (off := 521) (tgt := 561) X.1 rfl dL_law_40 (by decide) (by decide) (by decide) (by decide) (lc_9 X hC hM hG hi hR0 K0)
    · exact a_ts (k := nI 10) (off := 546) (tgt := 586) X.1 rfl dL_law_40 (by decide) (by decide) (by decide) (by decide) (lc_10 X hC hM hG hi hR0 K0)
    · exact a_ts (k := nI 11) (off := 595) (tgt := 635) X.1 rfl dL_law_40 (by decide) (by decide) (by decide) (by decide) (lc_11 X hC hM hG hi hR0 K0)
    · exact a_ts (k := nI 12) (off := 656) (tgt := 696) X.1 rfl dL_law_40 (by decide) (by decide) (by decide) (by decide) (lc_12 X hC hM hG hi hR0 K0)
    · exact a_ts (k := nI 13) (off := 721) (tgt := 761) X.1 rfl dL_law_40 (by decide) (by decide) (by decide) (by decide) (lc_13 X hC hM hG hi hR0 K0)
    · exact a_ts (k := nI 14) (off := 798) (tgt := 838) X.1 rfl dL_law_40 (by decide) (by decide) (by decide) (by decide) (lc_14 X hC hM hG hi hR0 K0)
    · exact a_ts (k := nI 15) (off := 823) (tgt := 863) X.1 rfl dL_law_40 (by decide) (by decide) (by decide) (by decide) (lc_15 X hC hM hG hi hR0 K0)
    · exact a_ts (k := nI 16) (off := 848) (tgt := 888) X.1 rfl dL_law_40 (by decide) (by decide) (by decide) (by decide) (lc_16 X hC hM hG hi hR0 K0)
    · exact a_ts (k := nI 17) (off := 897) (tgt := 937) X.1 rfl dL_law_40 (by decide) (by decide) (by decide) (by decide) (lc_17 X hC hM hG hi hR0 K0)
    · exact a_ts (k := nI 18) (off := 934) (tgt := 974) X.1 rfl dL_law_40 (by decide) (by decide) (by decide) (by decide) (lc_18 X hC hM hG hi hR0 K0)
    · exact a_ts (k := nI 19) (off := 987) (tgt := 1027) X.1 rfl dL_law_40 (by decide) (by decide) (by decide) (by decide) (lc_19 X hC hM hG hi hR0 K0)
    · exact a_ts (k := nI 20) (off := 1024) (tgt := 1064) X.1 rfl dL_law_40 (by decide) (by decide) (by decide) (by decide) (lc_20 X hC hM hG hi hR0 K0)
    · exact a_ts (k := nI 21) (off := 1101) (tgt := 1141) X.1 rfl dL_law_40 (by decide) (by decide) (by decide) (by decide) (lc_21 X hC hM hG hi hR0 K0)
    · exact a_ts (k := nI 22) (off := 1138) (tgt := 1178) X.1 rfl dL_law_40 (by decide) (by decide) (by decide) (by decide) (lc_22 X hC hM hG hi hR0 K0)
    · exact a_ts (k := nI 23) (off := 1199) (tgt := 1239) X.1 rfl dL_law_40 (by decide) (by decide) (by decide) (by decide) (lc_23 X hC hM hG hi hR0 K0)
    · exact a_ts (k := nI 24) (off := 1224) (tgt := 1264) X.1 rfl dL_law_40 (by decide) (by decide) (by decide) (by decide) (lc_24 X hC hM hG hi hR0 K0)
    · exact a_ts (k := nI 25) (off := 1261) (tgt := 1301) X.1 rfl dL_law_40 (by decide) (by decide) (by decide) (by decide) (lc_25 X hC hM hG hi hR0 K0)
    · exact a_ts (k := nI 26) (off := 1298) (tgt := 1338) X.1 rfl dL_law_40 (by decide) (by decide) (by decide) (by decide) (lc_26 X hC hM hG hi hR0 K0)
    · exact a_ts (k := nI 27) (off := 1335) (tgt := 1375) X.1 rfl dL_law_40 (by decide) (by decide) (by decide) (by decide) (lc_27 X hC hM hG hi hR0 K0)
    · exact a_ts (k := nI 28) (off := 1360) (tgt := 1400) X.1 rfl dL_law_40 (by decide) (by decide) (by decide) (by decide) (lc_28 X hC hM hG hi hR0 K0)
    · exact a_ts (k := nI 29) (off := 1409) (tgt := 1449) X.1 rfl dL_law_40 (by decide) (by decide) (by decide) (by decide) (lc_29 X hC hM hG hi hR0 K0)
    · exact a_ts (k := nI 30) (off := 1446) (tgt := 1486) X.1 rfl dL_law_40 (by decide) (by decide) (by decide) (by decide) (lc_30 X hC hM hG hi hR0 K0)
    · exact a_ts (k := nI 31) (off := 1483) (tgt := 1523) X.1 rfl dL_law_40 (by decide) (by decide) (by decide) (by decide) (lc_31 X hC hM hG hi hR0 K0)
    · exact a_ts (k := nI 32) (off := 1548) (tgt := 1588) X.1 rfl dL_law_40 (by decide) (by decide) (by decide) (by decide) (lc_32 X hC hM hG hi hR0 K0)
    · exact a_ts (k := nI 33) (off := 1573) (tgt := 1613) X.1 rfl dL_law_40 (by decide) (by decide) (by decide) (by decide) (lc_33 X hC hM hG hi hR0 K0)
    · exact a_ts (k := nI 34) (off := 1610) (tgt := 1650) X.1 rfl dL_law_40 (by decide) (by decide) (by decide) (by decide) (lc_34 X hC hM hG hi hR0 K0)
    · exact a_ts (k := nI 35) (off := 1635) (tgt := 1675) X.1 rfl dL_law_40 (by decide) (by decide) (by decide) (by decide) (lc_35 X hC hM hG hi hR0 K0)
    · exact a_ts (k := nI 36) (off := 1672) (tgt := 1712) X.1 rfl dL_law_40 (by decide) (by decide) (by decide) (by decide) (lc_36 X hC hM hG hi hR0 K0)
    · exact a_ts (k := nI 37) (off := 1709) (tgt := 1749) X.1 rfl dL_law_40 (by decide) (by decide) (by decide) (by decide) (lc_37 X hC hM hG hi hR0 K0)
    · exact a_ts (k := nI 38) (off := 1734) (tgt := 1774) X.1 rfl dL_law_40 (by decide) (by decide) (by decide) (by decide) (lc_38 X hC hM hG hi hR0 K0)
    · exact a_ts (k := nI 39) (off := 1771) (tgt := 1811) X.1 rfl dL_law_40 (by decide) (by decide) (by decide) (by decide) (lc_39 X hC hM hG hi hR0 K0)
    · exact a_ts (k := nI 40) (off := 1820) (tgt := 1860) X.1 rfl dL_law_40 (by decide) (by decide) (by decide) (by decide) (lc_40 X hC hM hG hi hR0 K0)
    · exact a_ts (k := nI 41) (off := 1845) (tgt := 1885) X.1 rfl dL_law_40 (by decide) (by decide) (by decide) (by decide) (lc_41 X hC hM hG hi hR0 K0)
    · exact a_ts (k := nI 42) (off := 1870) (tgt := 1910) X.1 rfl dL_law_40 (by decide) (by decide) (by decide) (by decide) (lc_42 X hC hM hG hi hR0 K0)
    · exact a_ts (k := nI 43) (off := 1907) (tgt := 1947) X.1 rfl dL_law_40 (by decide) (by decide) (by decide) (by decide) (lc_43 X hC hM hG hi hR0 K0)
    · exact a_ts (k := nI 44) (off := 1932) (tgt := 1972) X.1 rfl dL_law_40 (by decide) (by decide) (by decide) (by decide) (lc_44 X hC hM hG hi hR0 K0)
    · exact a_ts (k := nI 45) (off := 1969) (tgt := 2009) X.1 rfl dL_law_40 (by decide) (by decide) (by decide) (by decide) (lc_45 X hC hM hG hi hR0 K0)
    · exact a_ts (k := nI 46) (off := 1994) (tgt := 2034) X.1 rfl dL_law_40 (by decide) (by decide) (by decide) (by decide) (lc_46 hl X hC hM hG hi ⟨by omega, by omega⟩ (fun S' M' q3 q4 q5 => K al mk _ _ S' M' (Nat.le_refl _) hk (by omega) (by omega) q3 q4 q5))
    · exact a_ts (k := nI 47) (off := 2050) (tgt := 2090) X.1 rfl dL_law_40 (by decide) (by decide) (by decide) (by decide) (lc_47 X hC hM hG hi hR0 K0)
    · exact a_ts (k := nI 48) (off := 2063) (tgt := 2103) X.1 rfl dL_law_40 (by decide) (by decide) (by decide) (by decide) (lc_48 X hC hM hG hi hR0 K0)
  · refine a_tsD (tgt := 2116) X.1 dL_law_40 (Or.inr ?_) (by decide) (K0 S M hC hM hG)
    rw [iI_nI, iI_toInt ⟨by omega, by omega⟩]
    omega
