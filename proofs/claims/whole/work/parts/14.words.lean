theorem mp1 {w : Cond} (h : w ∈ k2_sels lw_privs_1) : w ∈ lw_tbl := by
  refine List.mem_append_left _ ?_
  obtain ⟨q, hq, rfl⟩ := List.mem_map.mp h
  exact List.mem_map.mpr ⟨q, (by have h := hq; exact List.mem_append_left _ h), rfl⟩
theorem mp2 {w : Cond} (h : w ∈ k2_sels lw_privs_2) : w ∈ lw_tbl := by
  refine List.mem_append_left _ ?_
  obtain ⟨q, hq, rfl⟩ := List.mem_map.mp h
  exact List.mem_map.mpr ⟨q, (by have h := hq; exact List.mem_append_right _ (List.mem_append_left _ h)), rfl⟩
theorem mp3 {w : Cond} (h : w ∈ k2_sels lw_privs_3) : w ∈ lw_tbl := by
  refine List.mem_append_left _ ?_
  obtain ⟨q, hq, rfl⟩ := List.mem_map.mp h
  exact List.mem_map.mpr ⟨q, (by have h := hq; exact List.mem_append_right _ (List.mem_append_right _ (List.mem_append_left _ h))), rfl⟩
theorem mp4 {w : Cond} (h : w ∈ k2_sels lw_privs_4) : w ∈ lw_tbl := by
  refine List.mem_append_left _ ?_
  obtain ⟨q, hq, rfl⟩ := List.mem_map.mp h
  exact List.mem_map.mpr ⟨q, (by have h := hq; exact List.mem_append_right _ (List.mem_append_right _ (List.mem_append_right _ (List.mem_append_left _ h)))), rfl⟩
theorem mp5 {w : Cond} (h : w ∈ k2_sels lw_privs_5) : w ∈ lw_tbl := by
  refine List.mem_append_left _ ?_
  obtain ⟨q, hq, rfl⟩ := List.mem_map.mp h
  exact List.mem_map.mpr ⟨q, (by have h := hq; exact List.mem_append_right _ (List.mem_append_right _ (List.mem_append_right _ (List.mem_append_right _ (List.mem_append_left _ h))))), rfl⟩
theorem mp6 {w : Cond} (h : w ∈ k2_sels lw_privs_6) : w ∈ lw_tbl := by
  refine List.mem_append_left _ ?_
  obtain ⟨q, hq, rfl⟩ := List.mem_map.mp h
  exact List.mem_map.mpr ⟨q, (by have h := hq; exact List.mem_append_right _ (List.mem_append_right _ (List.mem_append_right _ (List.mem_append_right _ (List.mem_append_right _ (h)))))), rfl⟩
theorem mt1 {w : Cond} (h : w ∈ tables_1_1) : w ∈ lw_tbl := List.mem_append_right _ (List.mem_append_left _ h)
theorem mt1_0 {w : Cond} (h : w ∈ (tables_1_1.drop 0).take 40) : w ∈ lw_tbl := mt1 (List.mem_of_mem_drop (List.mem_of_mem_take h))
theorem mt1_1 {w : Cond} (h : w ∈ (tables_1_1.drop 40).take 40) : w ∈ lw_tbl := mt1 (List.mem_of_mem_drop (List.mem_of_mem_take h))
theorem mt1_2 {w : Cond} (h : w ∈ (tables_1_1.drop 80).take 40) : w ∈ lw_tbl := mt1 (List.mem_of_mem_drop (List.mem_of_mem_take h))
theorem mt1_3 {w : Cond} (h : w ∈ (tables_1_1.drop 120).take 40) : w ∈ lw_tbl := mt1 (List.mem_of_mem_drop (List.mem_of_mem_take h))
theorem mt1_4 {w : Cond} (h : w ∈ (tables_1_1.drop 160).take 40) : w ∈ lw_tbl := mt1 (List.mem_of_mem_drop (List.mem_of_mem_take h))
theorem mt1_5 {w : Cond} (h : w ∈ (tables_1_1.drop 200).take 40) : w ∈ lw_tbl := mt1 (List.mem_of_mem_drop (List.mem_of_mem_take h))
theorem mt2 {w : Cond} (h : w ∈ tables_1_2) : w ∈ lw_tbl := List.mem_append_right _ (List.mem_append_right _ (List.mem_append_left _ h))
theorem mt2_0 {w : Cond} (h : w ∈ (tables_1_2.drop 0).take 40) : w ∈ lw_tbl := mt2 (List.mem_of_mem_drop (List.mem_of_mem_take h))
theorem mt2_1 {w : Cond} (h : w ∈ (tables_1_2.drop 40).take 40) : w ∈ lw_tbl := mt2 (List.mem_of_mem_drop (List.mem_of_mem_take h))
theorem mt2_2 {w : Cond} (h : w ∈ (tables_1_2.drop 80).take 40) : w ∈ lw_tbl := mt2 (List.mem_of_mem_drop (List.mem_of_mem_take h))
theorem mt2_3 {w : Cond} (h : w ∈ (tables_1_2.drop 120).take 40) : w ∈ lw_tbl := mt2 (List.mem_of_mem_drop (List.mem_of_mem_take h))
theorem mt2_4 {w : Cond} (h : w ∈ (tables_1_2.drop 160).take 40) : w ∈ lw_tbl := mt2 (List.mem_of_mem_drop (List.mem_of_mem_take h))
theorem mt2_5 {w : Cond} (h : w ∈ (tables_1_2.drop 200).take 40) : w ∈ lw_tbl := mt2 (List.mem_of_mem_drop (List.mem_of_mem_take h))
theorem mt3 {w : Cond} (h : w ∈ tables_1_3) : w ∈ lw_tbl := List.mem_append_right _ (List.mem_append_right _ (List.mem_append_right _ (List.mem_append_left _ h)))
theorem mt3_0 {w : Cond} (h : w ∈ (tables_1_3.drop 0).take 40) : w ∈ lw_tbl := mt3 (List.mem_of_mem_drop (List.mem_of_mem_take h))
theorem mt3_1 {w : Cond} (h : w ∈ (tables_1_3.drop 40).take 40) : w ∈ lw_tbl := mt3 (List.mem_of_mem_drop (List.mem_of_mem_take h))
theorem mt3_2 {w : Cond} (h : w ∈ (tables_1_3.drop 80).take 40) : w ∈ lw_tbl := mt3 (List.mem_of_mem_drop (List.mem_of_mem_take h))
theorem mt3_3 {w : Cond} (h : w ∈ (tables_1_3.drop 120).take 40) : w ∈ lw_tbl := mt3 (List.mem_of_mem_drop (List.mem_of_mem_take h))
theorem mt3_4 {w : Cond} (h : w ∈ (tables_1_3.drop 160).take 40) : w ∈ lw_tbl := mt3 (List.mem_of_mem_drop (List.mem_of_mem_take h))
theorem mt3_5 {w : Cond} (h : w ∈ (tables_1_3.drop 200).take 40) : w ∈ lw_tbl := mt3 (List.mem_of_mem_drop (List.mem_of_mem_take h))
theorem mt4 {w : Cond} (h : w ∈ tables_1_4) : w ∈ lw_tbl := List.mem_append_right _ (List.mem_append_right _ (List.mem_append_right _ (List.mem_append_right _ (List.mem_append_left _ h))))
theorem mt4_0 {w : Cond} (h : w ∈ (tables_1_4.drop 0).take 40) : w ∈ lw_tbl := mt4 (List.mem_of_mem_drop (List.mem_of_mem_take h))
theorem mt4_1 {w : Cond} (h : w ∈ (tables_1_4.drop 40).take 40) : w ∈ lw_tbl := mt4 (List.mem_of_mem_drop (List.mem_of_mem_take h))
theorem mt4_2 {w : Cond} (h : w ∈ (tables_1_4.drop 80).take 40) : w ∈ lw_tbl := mt4 (List.mem_of_mem_drop (List.mem_of_mem_take h))
theorem mt4_3 {w : Cond} (h : w ∈ (tables_1_4.drop 120).take 40) : w ∈ lw_tbl := mt4 (List.mem_of_mem_drop (List.mem_of_mem_take h))
theorem mt4_4 {w : Cond} (h : w ∈ (tables_1_4.drop 160).take 40) : w ∈ lw_tbl := mt4 (List.mem_of_mem_drop (List.mem_of_mem_take h))
theorem mt4_5 {w : Cond} (h : w ∈ (tables_1_4.drop 200).take 40) : w ∈ lw_tbl := mt4 (List.mem_of_mem_drop (List.mem_of_mem_take h))
theorem mt5 {w : Cond} (h : w ∈ tables_1_5) : w ∈ lw_tbl := List.mem_append_right _ (List.mem_append_right _ (List.mem_append_right _ (List.mem_append_right _ (List.mem_append_right _ (List.mem_append_left _ h)))))
theorem mt5_0 {w : Cond} (h : w ∈ (tables_1_5.drop 0).take 40) : w ∈ lw_tbl := mt5 (List.mem_of_mem_drop (List.mem_of_mem_take h))
theorem mt5_1 {w : Cond} (h : w ∈ (tables_1_5.drop 40).take 40) : w ∈ lw_tbl := mt5 (List.mem_of_mem_drop (List.mem_of_mem_take h))
theorem mt5_2 {w : Cond} (h : w ∈ (tables_1_5.drop 80).take 40) : w ∈ lw_tbl := mt5 (List.mem_of_mem_drop (List.mem_of_mem_take h))
theorem mt5_3 {w : Cond} (h : w ∈ (tables_1_5.drop 120).take 40) : w ∈ lw_tbl := mt5 (List.mem_of_mem_drop (List.mem_of_mem_take h))
theorem mt5_4 {w : Cond} (h : w ∈ (tables_1_5.drop 160).take 40) : w ∈ lw_tbl := mt5 (List.mem_of_mem_drop (List.mem_of_mem_take h))
theorem mt5_5 {w : Cond} (h : w ∈ (tables_1_5.drop 200).take 40) : w ∈ lw_tbl := mt5 (List.mem_of_mem_drop (List.mem_of_mem_take h))
theorem mt6 {w : Cond} (h : w ∈ tables_1_6) : w ∈ lw_tbl := List.mem_append_right _ (List.mem_append_right _ (List.mem_append_right _ (List.mem_append_right _ (List.mem_append_right _ (List.mem_append_right _ (List.mem_append_left _ h))))))
theorem mt6_0 {w : Cond} (h : w ∈ (tables_1_6.drop 0).take 40) : w ∈ lw_tbl := mt6 (List.mem_of_mem_drop (List.mem_of_mem_take h))
theorem mt6_1 {w : Cond} (h : w ∈ (tables_1_6.drop 40).take 40) : w ∈ lw_tbl := mt6 (List.mem_of_mem_drop (List.mem_of_mem_take h))
theorem mt6_2 {w : Cond} (h : w ∈ (tables_1_6.drop 80).take 40) : w ∈ lw_tbl := mt6 (List.mem_of_mem_drop (List.mem_of_mem_take h))
theorem mt6_3 {w : Cond} (h : w ∈ (tables_1_6.drop 120).take 40) : w ∈ lw_tbl := mt6 (List.mem_of_mem_drop (List.mem_of_mem_take h))
theorem mt6_4 {w : Cond} (h : w ∈ (tables_1_6.drop 160).take 40) : w ∈ lw_tbl := mt6 (List.mem_of_mem_drop (List.mem_of_mem_take h))
theorem mt6_5 {w : Cond} (h : w ∈ (tables_1_6.drop 200).take 40) : w ∈ lw_tbl := mt6 (List.mem_of_mem_drop (List.mem_of_mem_take h))
theorem mt7 {w : Cond} (h : w ∈ tables_1_7) : w ∈ lw_tbl := List.mem_append_right _ (List.mem_append_right _ (List.mem_append_right _ (List.mem_append_right _ (List.mem_append_right _ (List.mem_append_right _ (List.mem_append_right _ (h)))))))
theorem mt7_0 {w : Cond} (h : w ∈ (tables_1_7.drop 0).take 40) : w ∈ lw_tbl := mt7 (List.mem_of_mem_drop (List.mem_of_mem_take h))
theorem flX3_10 : Cond.fieldLink RX3 10 "GapRows" "reade\x72" "LGapRows$TextReader;" ∈ lw_tbl ∧ goodWord (Cond.fieldLink RX3 10 "GapRows" "reade\x72" "LGapRows$TextReader;") = true := ⟨mt1_3 (List.mem_of_getElem? (i := 0) (by decide +kernel)), rfl⟩
theorem flX3_18 : Cond.fieldLink RX3 18 "GapRows" "streams" "[LGapRows$Stream;" ∈ lw_tbl ∧ goodWord (Cond.fieldLink RX3 18 "GapRows" "streams" "[LGapRows$Stream;") = true := ⟨mt1_3 (List.mem_of_getElem? (i := 1) (by decide +kernel)), rfl⟩
theorem flX3_22 : Cond.fieldLink RX3 22 "GapRows" "streamCount" "I" ∈ lw_tbl ∧ goodWord (Cond.fieldLink RX3 22 "GapRows" "streamCount" "I") = true := ⟨mt1_3 (List.mem_of_getElem? (i := 2) (by decide +kernel)), rfl⟩
theorem flX3_26 : Cond.fieldLink RX3 26 "GapRows" "errorNow" "I" ∈ lw_tbl ∧ goodWord (Cond.fieldLink RX3 26 "GapRows" "errorNow" "I") = true := ⟨mt1_3 (List.mem_of_getElem? (i := 3) (by decide +kernel)), rfl⟩
theorem flX3_29 : Cond.fieldLink RX3 29 "GapRows" "seedNow" "I" ∈ lw_tbl ∧ goodWord (Cond.fieldLink RX3 29 "GapRows" "seedNow" "I") = true := ⟨mt1_3 (List.mem_of_getElem? (i := 4) (by decide +kernel)), rfl⟩
theorem flX3_32 : Cond.fieldLink RX3 32 "GapRows" "latestTrouble" "I" ∈ lw_tbl ∧ goodWord (Cond.fieldLink RX3 32 "GapRows" "latestTrouble" "I") = true := ⟨mt1_3 (List.mem_of_getElem? (i := 5) (by decide +kernel)), rfl⟩
theorem flX3_35 : Cond.fieldLink RX3 35 "GapRows" "latestFault" "I" ∈ lw_tbl ∧ goodWord (Cond.fieldLink RX3 35 "GapRows" "latestFault" "I") = true := ⟨mt1_3 (List.mem_of_getElem? (i := 6) (by decide +kernel)), rfl⟩
theorem flX3_38 : Cond.fieldLink RX3 38 "GapRows" "faultPlace" "I" ∈ lw_tbl ∧ goodWord (Cond.fieldLink RX3 38 "GapRows" "faultPlace" "I") = true := ⟨mt1_3 (List.mem_of_getElem? (i := 7) (by decide +kernel)), rfl⟩
theorem flX3_44 : Cond.fieldLink RX3 44 "GapRows" "workRow" "LGapRows$Row;" ∈ lw_tbl ∧ goodWord (Cond.fieldLink RX3 44 "GapRows" "workRow" "LGapRows$Row;") = true := ⟨mt1_3 (List.mem_of_getElem? (i := 8) (by decide +kernel)), rfl⟩
theorem flX3_48 : Cond.fieldLink RX3 48 "GapRows" "spareRow" "LGapRows$Row;" ∈ lw_tbl ∧ goodWord (Cond.fieldLink RX3 48 "GapRows" "spareRow" "LGapRows$Row;") = true := ⟨mt1_3 (List.mem_of_getElem? (i := 9) (by decide +kernel)), rfl⟩
theorem flX3_51 : Cond.fieldLink RX3 51 "GapRows$TextReade\x72" "taped" "I" ∈ lw_tbl ∧ goodWord (Cond.fieldLink RX3 51 "GapRows$TextReade\x72" "taped" "I") = true := ⟨mt1_0 (List.mem_of_getElem? (i := 33) (by decide +kernel)), rfl⟩
theorem flX3_65 : Cond.fieldLink RX3 65 "GapRows$TextReade\x72" "fault" "I" ∈ lw_tbl ∧ goodWord (Cond.fieldLink RX3 65 "GapRows$TextReade\x72" "fault" "I") = true := ⟨mt1_1 (List.mem_of_getElem? (i := 0) (by decide +kernel)), rfl⟩
theorem flX3_68 : Cond.fieldLink RX3 68 "GapRows$TextReade\x72" "place" "I" ∈ lw_tbl ∧ goodWord (Cond.fieldLink RX3 68 "GapRows$TextReade\x72" "place" "I") = true := ⟨mt1_1 (List.mem_of_getElem? (i := 2) (by decide +kernel)), rfl⟩
theorem flX3_84 : Cond.fieldLink RX3 84 "GapRows$Stream" "n" "I" ∈ lw_tbl ∧ goodWord (Cond.fieldLink RX3 84 "GapRows$Stream" "n" "I") = true := ⟨mt2_1 (List.mem_of_getElem? (i := 29) (by decide +kernel)), rfl⟩
theorem flX3_87 : Cond.fieldLink RX3 87 "GapRows$Stream" "row" "LGapRows$Row;" ∈ lw_tbl ∧ goodWord (Cond.fieldLink RX3 87 "GapRows$Stream" "row" "LGapRows$Row;") = true := ⟨mt2_1 (List.mem_of_getElem? (i := 25) (by decide +kernel)), rfl⟩
theorem flX3_90 : Cond.fieldLink RX3 90 "GapRows$Row" "length" "I" ∈ lw_tbl ∧ goodWord (Cond.fieldLink RX3 90 "GapRows$Row" "length" "I") = true := ⟨mt1_2 (List.mem_of_getElem? (i := 28) (by decide +kernel)), rfl⟩
theorem flX3_97 : Cond.fieldLink RX3 97 "GapRows$Stream" "compressEvery" "I" ∈ lw_tbl ∧ goodWord (Cond.fieldLink RX3 97 "GapRows$Stream" "compressEvery" "I") = true := ⟨mt2_1 (List.mem_of_getElem? (i := 31) (by decide +kernel)), rfl⟩
theorem flX3_100 : Cond.fieldLink RX3 100 "GapRows$Stream" "pushesSince" "I" ∈ lw_tbl ∧ goodWord (Cond.fieldLink RX3 100 "GapRows$Stream" "pushesSince" "I") = true := ⟨mt2_1 (List.mem_of_getElem? (i := 33) (by decide +kernel)), rfl⟩
theorem flX3_103 : Cond.fieldLink RX3 103 "GapRows$Stream" "compressions" "I" ∈ lw_tbl ∧ goodWord (Cond.fieldLink RX3 103 "GapRows$Stream" "compressions" "I") = true := ⟨mt2_1 (List.mem_of_getElem? (i := 35) (by decide +kernel)), rfl⟩
theorem flX3_106 : Cond.fieldLink RX3 106 "GapRows$Row" "value" "[I" ∈ lw_tbl ∧ goodWord (Cond.fieldLink RX3 106 "GapRows$Row" "value" "[I") = true := ⟨mt1_2 (List.mem_of_getElem? (i := 19) (by decide +kernel)), rfl⟩
theorem flX3_120 : Cond.fieldLink RX3 120 "GapRows$Row" "spreads" "[I" ∈ lw_tbl ∧ goodWord (Cond.fieldLink RX3 120 "GapRows$Row" "spreads" "[I") = true := ⟨mt1_2 (List.mem_of_getElem? (i := 24) (by decide +kernel)), rfl⟩
theorem flX3_123 : Cond.fieldLink RX3 123 "GapRows$Row" "low" "[I" ∈ lw_tbl ∧ goodWord (Cond.fieldLink RX3 123 "GapRows$Row" "low" "[I") = true := ⟨mt1_2 (List.mem_of_getElem? (i := 22) (by decide +kernel)), rfl⟩
theorem flX3_214 : Cond.fieldLink RX3 214 "GapRows$Stream" "counts" "[I" ∈ lw_tbl ∧ goodWord (Cond.fieldLink RX3 214 "GapRows$Stream" "counts" "[I") = true := ⟨mt2_1 (List.mem_of_getElem? (i := 27) (by decide +kernel)), rfl⟩
theorem flX3_295 : Cond.fieldLink RX3 295 "GapRows$TextReade\x72" "errorTold" "I" ∈ lw_tbl ∧ goodWord (Cond.fieldLink RX3 295 "GapRows$TextReade\x72" "errorTold" "I") = true := ⟨mt1_1 (List.mem_of_getElem? (i := 4) (by decide +kernel)), rfl⟩
theorem flX3_298 : Cond.fieldLink RX3 298 "GapRows$TextReade\x72" "streamsTold" "I" ∈ lw_tbl ∧ goodWord (Cond.fieldLink RX3 298 "GapRows$TextReade\x72" "streamsTold" "I") = true := ⟨mt1_1 (List.mem_of_getElem? (i := 6) (by decide +kernel)), rfl⟩
theorem flX3_302 : Cond.fieldLink RX3 302 "GapRows$TextReade\x72" "everyTold" "[I" ∈ lw_tbl ∧ goodWord (Cond.fieldLink RX3 302 "GapRows$TextReade\x72" "everyTold" "[I") = true := ⟨mt1_1 (List.mem_of_getElem? (i := 9) (by decide +kernel)), rfl⟩
theorem flX3_308 : Cond.fieldLink RX3 308 "GapRows$TextReade\x72" "pushesTold" "I" ∈ lw_tbl ∧ goodWord (Cond.fieldLink RX3 308 "GapRows$TextReade\x72" "pushesTold" "I") = true := ⟨mt1_1 (List.mem_of_getElem? (i := 11) (by decide +kernel)), rfl⟩
theorem flX3_311 : Cond.fieldLink RX3 311 "GapRows$TextReade\x72" "pushTo" "[I" ∈ lw_tbl ∧ goodWord (Cond.fieldLink RX3 311 "GapRows$TextReade\x72" "pushTo" "[I") = true := ⟨mt1_1 (List.mem_of_getElem? (i := 13) (by decide +kernel)), rfl⟩
theorem flX3_314 : Cond.fieldLink RX3 314 "GapRows$TextReade\x72" "pushValue" "[I" ∈ lw_tbl ∧ goodWord (Cond.fieldLink RX3 314 "GapRows$TextReade\x72" "pushValue" "[I") = true := ⟨mt1_1 (List.mem_of_getElem? (i := 15) (by decide +kernel)), rfl⟩
theorem flX0_9 : Cond.fieldLink RX0 9 "GapRows$Row" "value" "[I" ∈ lw_tbl ∧ goodWord (Cond.fieldLink RX0 9 "GapRows$Row" "value" "[I") = true := ⟨mt1_2 (List.mem_of_getElem? (i := 18) (by decide +kernel)), rfl⟩
theorem flX0_15 : Cond.fieldLink RX0 15 "GapRows$Row" "low" "[I" ∈ lw_tbl ∧ goodWord (Cond.fieldLink RX0 15 "GapRows$Row" "low" "[I") = true := ⟨mt1_2 (List.mem_of_getElem? (i := 21) (by decide +kernel)), rfl⟩
theorem flX0_18 : Cond.fieldLink RX0 18 "GapRows$Row" "spreads" "[I" ∈ lw_tbl ∧ goodWord (Cond.fieldLink RX0 18 "GapRows$Row" "spreads" "[I") = true := ⟨mt1_2 (List.mem_of_getElem? (i := 23) (by decide +kernel)), rfl⟩
theorem flX0_21 : Cond.fieldLink RX0 21 "GapRows$Row" "bandAt" "[I" ∈ lw_tbl ∧ goodWord (Cond.fieldLink RX0 21 "GapRows$Row" "bandAt" "[I") = true := ⟨mt1_2 (List.mem_of_getElem? (i := 25) (by decide +kernel)), rfl⟩
theorem flX0_24 : Cond.fieldLink RX0 24 "GapRows$Row" "length" "I" ∈ lw_tbl ∧ goodWord (Cond.fieldLink RX0 24 "GapRows$Row" "length" "I") = true := ⟨mt1_2 (List.mem_of_getElem? (i := 26) (by decide +kernel)), rfl⟩
theorem flX1_12 : Cond.fieldLink RX1 12 "GapRows$Stream" "row" "LGapRows$Row;" ∈ lw_tbl ∧ goodWord (Cond.fieldLink RX1 12 "GapRows$Stream" "row" "LGapRows$Row;") = true := ⟨mt2_1 (List.mem_of_getElem? (i := 24) (by decide +kernel)), rfl⟩
theorem flX1_18 : Cond.fieldLink RX1 18 "GapRows$Stream" "counts" "[I" ∈ lw_tbl ∧ goodWord (Cond.fieldLink RX1 18 "GapRows$Stream" "counts" "[I") = true := ⟨mt2_1 (List.mem_of_getElem? (i := 26) (by decide +kernel)), rfl⟩
theorem flX1_22 : Cond.fieldLink RX1 22 "GapRows$Stream" "n" "I" ∈ lw_tbl ∧ goodWord (Cond.fieldLink RX1 22 "GapRows$Stream" "n" "I") = true := ⟨mt2_1 (List.mem_of_getElem? (i := 28) (by decide +kernel)), rfl⟩
theorem flX1_26 : Cond.fieldLink RX1 26 "GapRows$Stream" "compressEvery" "I" ∈ lw_tbl ∧ goodWord (Cond.fieldLink RX1 26 "GapRows$Stream" "compressEvery" "I") = true := ⟨mt2_1 (List.mem_of_getElem? (i := 30) (by decide +kernel)), rfl⟩
theorem flX1_29 : Cond.fieldLink RX1 29 "GapRows$Stream" "pushesSince" "I" ∈ lw_tbl ∧ goodWord (Cond.fieldLink RX1 29 "GapRows$Stream" "pushesSince" "I") = true := ⟨mt2_1 (List.mem_of_getElem? (i := 32) (by decide +kernel)), rfl⟩
theorem flX1_32 : Cond.fieldLink RX1 32 "GapRows$Stream" "compressions" "I" ∈ lw_tbl ∧ goodWord (Cond.fieldLink RX1 32 "GapRows$Stream" "compressions" "I") = true := ⟨mt2_1 (List.mem_of_getElem? (i := 34) (by decide +kernel)), rfl⟩
theorem flX1_44 : Cond.fieldLink RX1 44 "GapRows$Row" "length" "I" ∈ lw_tbl ∧ goodWord (Cond.fieldLink RX1 44 "GapRows$Row" "length" "I") = true := ⟨mt1_2 (List.mem_of_getElem? (i := 27) (by decide +kernel)), rfl⟩
theorem flX1_75 : Cond.fieldLink RX1 75 "GapRows$Row" "value" "[I" ∈ lw_tbl ∧ goodWord (Cond.fieldLink RX1 75 "GapRows$Row" "value" "[I") = true := ⟨mt1_2 (List.mem_of_getElem? (i := 20) (by decide +kernel)), rfl⟩
theorem flX2_9 : Cond.fieldLink RX2 9 "GapRows$TextReade\x72" "bytes" "[I" ∈ lw_tbl ∧ goodWord (Cond.fieldLink RX2 9 "GapRows$TextReade\x72" "bytes" "[I") = true := ⟨mt1_0 (List.mem_of_getElem? (i := 31) (by decide +kernel)), rfl⟩
theorem flX2_15 : Cond.fieldLink RX2 15 "GapRows$TextReade\x72" "taped" "I" ∈ lw_tbl ∧ goodWord (Cond.fieldLink RX2 15 "GapRows$TextReade\x72" "taped" "I") = true := ⟨mt1_0 (List.mem_of_getElem? (i := 32) (by decide +kernel)), rfl⟩
theorem flX2_19 : Cond.fieldLink RX2 19 "GapRows$TextReade\x72" "end" "I" ∈ lw_tbl ∧ goodWord (Cond.fieldLink RX2 19 "GapRows$TextReade\x72" "end" "I") = true := ⟨mt1_0 (List.mem_of_getElem? (i := 34) (by decide +kernel)), rfl⟩
theorem flX2_22 : Cond.fieldLink RX2 22 "GapRows$TextReade\x72" "kind" "I" ∈ lw_tbl ∧ goodWord (Cond.fieldLink RX2 22 "GapRows$TextReade\x72" "kind" "I") = true := ⟨mt1_0 (List.mem_of_getElem? (i := 35) (by decide +kernel)), rfl⟩
theorem flX2_25 : Cond.fieldLink RX2 25 "GapRows$TextReade\x72" "at" "I" ∈ lw_tbl ∧ goodWord (Cond.fieldLink RX2 25 "GapRows$TextReade\x72" "at" "I") = true := ⟨mt1_0 (List.mem_of_getElem? (i := 36) (by decide +kernel)), rfl⟩
theorem flX2_28 : Cond.fieldLink RX2 28 "GapRows$TextReade\x72" "behind" "I" ∈ lw_tbl ∧ goodWord (Cond.fieldLink RX2 28 "GapRows$TextReade\x72" "behind" "I") = true := ⟨mt1_0 (List.mem_of_getElem? (i := 37) (by decide +kernel)), rfl⟩
theorem flX2_31 : Cond.fieldLink RX2 31 "GapRows$TextReade\x72" "token" "I" ∈ lw_tbl ∧ goodWord (Cond.fieldLink RX2 31 "GapRows$TextReade\x72" "token" "I") = true := ⟨mt1_0 (List.mem_of_getElem? (i := 38) (by decide +kernel)), rfl⟩
theorem flX2_34 : Cond.fieldLink RX2 34 "GapRows$TextReade\x72" "fault" "I" ∈ lw_tbl ∧ goodWord (Cond.fieldLink RX2 34 "GapRows$TextReade\x72" "fault" "I") = true := ⟨mt1_0 (List.mem_of_getElem? (i := 39) (by decide +kernel)), rfl⟩
theorem flX2_37 : Cond.fieldLink RX2 37 "GapRows$TextReade\x72" "place" "I" ∈ lw_tbl ∧ goodWord (Cond.fieldLink RX2 37 "GapRows$TextReade\x72" "place" "I") = true := ⟨mt1_1 (List.mem_of_getElem? (i := 1) (by decide +kernel)), rfl⟩
theorem flX2_40 : Cond.fieldLink RX2 40 "GapRows$TextReade\x72" "errorTold" "I" ∈ lw_tbl ∧ goodWord (Cond.fieldLink RX2 40 "GapRows$TextReade\x72" "errorTold" "I") = true := ⟨mt1_1 (List.mem_of_getElem? (i := 3) (by decide +kernel)), rfl⟩
theorem flX2_43 : Cond.fieldLink RX2 43 "GapRows$TextReade\x72" "streamsTold" "I" ∈ lw_tbl ∧ goodWord (Cond.fieldLink RX2 43 "GapRows$TextReade\x72" "streamsTold" "I") = true := ⟨mt1_1 (List.mem_of_getElem? (i := 5) (by decide +kernel)), rfl⟩
theorem flX2_46 : Cond.fieldLink RX2 46 "GapRows$TextReade\x72" "names" "[I" ∈ lw_tbl ∧ goodWord (Cond.fieldLink RX2 46 "GapRows$TextReade\x72" "names" "[I") = true := ⟨mt1_1 (List.mem_of_getElem? (i := 7) (by decide +kernel)), rfl⟩
theorem flX2_49 : Cond.fieldLink RX2 49 "GapRows$TextReade\x72" "everyTold" "[I" ∈ lw_tbl ∧ goodWord (Cond.fieldLink RX2 49 "GapRows$TextReade\x72" "everyTold" "[I") = true := ⟨mt1_1 (List.mem_of_getElem? (i := 8) (by decide +kernel)), rfl⟩
theorem flX2_52 : Cond.fieldLink RX2 52 "GapRows$TextReade\x72" "pushesTold" "I" ∈ lw_tbl ∧ goodWord (Cond.fieldLink RX2 52 "GapRows$TextReade\x72" "pushesTold" "I") = true := ⟨mt1_1 (List.mem_of_getElem? (i := 10) (by decide +kernel)), rfl⟩
theorem flX2_55 : Cond.fieldLink RX2 55 "GapRows$TextReade\x72" "pushTo" "[I" ∈ lw_tbl ∧ goodWord (Cond.fieldLink RX2 55 "GapRows$TextReade\x72" "pushTo" "[I") = true := ⟨mt1_1 (List.mem_of_getElem? (i := 12) (by decide +kernel)), rfl⟩
theorem flX2_58 : Cond.fieldLink RX2 58 "GapRows$TextReade\x72" "pushValue" "[I" ∈ lw_tbl ∧ goodWord (Cond.fieldLink RX2 58 "GapRows$TextReade\x72" "pushValue" "[I") = true := ⟨mt1_1 (List.mem_of_getElem? (i := 14) (by decide +kernel)), rfl⟩
theorem flX4_9 : Cond.fieldLink RX4 9 "GapRowsModel" "wrongAt" "I" ∈ lw_tbl ∧ goodWord (Cond.fieldLink RX4 9 "GapRowsModel" "wrongAt" "I") = true := ⟨mt4_4 (List.mem_of_getElem? (i := 3) (by decide +kernel)), rfl⟩
theorem flX4_13 : Cond.fieldLink RX4 13 "GapRowsModel" "tape" "[B" ∈ lw_tbl ∧ goodWord (Cond.fieldLink RX4 13 "GapRowsModel" "tape" "[B") = true := ⟨mt4_4 (List.mem_of_getElem? (i := 4) (by decide +kernel)), rfl⟩
theorem flX4_17 : Cond.fieldLink RX4 17 "GapRowsModel" "names" "[J" ∈ lw_tbl ∧ goodWord (Cond.fieldLink RX4 17 "GapRowsModel" "names" "[J") = true := ⟨mt4_4 (List.mem_of_getElem? (i := 13) (by decide +kernel)), rfl⟩
theorem flX4_21 : Cond.fieldLink RX4 21 "GapRowsModel" "readEvery" "[I" ∈ lw_tbl ∧ goodWord (Cond.fieldLink RX4 21 "GapRowsModel" "readEvery" "[I") = true := ⟨mt4_4 (List.mem_of_getElem? (i := 14) (by decide +kernel)), rfl⟩
theorem flX4_25 : Cond.fieldLink RX4 25 "GapRowsModel" "pushTo" "[I" ∈ lw_tbl ∧ goodWord (Cond.fieldLink RX4 25 "GapRowsModel" "pushTo" "[I") = true := ⟨mt4_4 (List.mem_of_getElem? (i := 15) (by decide +kernel)), rfl⟩
theorem flX4_28 : Cond.fieldLink RX4 28 "GapRowsModel" "pushOf" "[I" ∈ lw_tbl ∧ goodWord (Cond.fieldLink RX4 28 "GapRowsModel" "pushOf" "[I") = true := ⟨mt4_4 (List.mem_of_getElem? (i := 16) (by decide +kernel)), rfl⟩
theorem flX4_31 : Cond.fieldLink RX4 31 "GapRowsModel" "value" "[I" ∈ lw_tbl ∧ goodWord (Cond.fieldLink RX4 31 "GapRowsModel" "value" "[I") = true := ⟨mt4_4 (List.mem_of_getElem? (i := 20) (by decide +kernel)), rfl⟩
theorem flX4_34 : Cond.fieldLink RX4 34 "GapRowsModel" "gap" "[I" ∈ lw_tbl ∧ goodWord (Cond.fieldLink RX4 34 "GapRowsModel" "gap" "[I") = true := ⟨mt4_4 (List.mem_of_getElem? (i := 21) (by decide +kernel)), rfl⟩
theorem flX4_37 : Cond.fieldLink RX4 37 "GapRowsModel" "spread" "[I" ∈ lw_tbl ∧ goodWord (Cond.fieldLink RX4 37 "GapRowsModel" "spread" "[I") = true := ⟨mt4_4 (List.mem_of_getElem? (i := 22) (by decide +kernel)), rfl⟩
theorem flX4_40 : Cond.fieldLink RX4 40 "GapRowsModel" "many" "[I" ∈ lw_tbl ∧ goodWord (Cond.fieldLink RX4 40 "GapRowsModel" "many" "[I") = true := ⟨mt4_4 (List.mem_of_getElem? (i := 23) (by decide +kernel)), rfl⟩
theorem flX4_43 : Cond.fieldLink RX4 43 "GapRowsModel" "all" "[I" ∈ lw_tbl ∧ goodWord (Cond.fieldLink RX4 43 "GapRowsModel" "all" "[I") = true := ⟨mt4_4 (List.mem_of_getElem? (i := 24) (by decide +kernel)), rfl⟩
theorem flX4_46 : Cond.fieldLink RX4 46 "GapRowsModel" "every" "[I" ∈ lw_tbl ∧ goodWord (Cond.fieldLink RX4 46 "GapRowsModel" "every" "[I") = true := ⟨mt4_4 (List.mem_of_getElem? (i := 25) (by decide +kernel)), rfl⟩
theorem flX4_49 : Cond.fieldLink RX4 49 "GapRowsModel" "since" "[I" ∈ lw_tbl ∧ goodWord (Cond.fieldLink RX4 49 "GapRowsModel" "since" "[I") = true := ⟨mt4_4 (List.mem_of_getElem? (i := 26) (by decide +kernel)), rfl⟩
theorem flX4_52 : Cond.fieldLink RX4 52 "GapRowsModel" "compressions" "[I" ∈ lw_tbl ∧ goodWord (Cond.fieldLink RX4 52 "GapRowsModel" "compressions" "[I") = true := ⟨mt4_4 (List.mem_of_getElem? (i := 27) (by decide +kernel)), rfl⟩
theorem flX4_55 : Cond.fieldLink RX4 55 "GapRowsModel" "times" "[I" ∈ lw_tbl ∧ goodWord (Cond.fieldLink RX4 55 "GapRowsModel" "times" "[I") = true := ⟨mt4_4 (List.mem_of_getElem? (i := 28) (by decide +kernel)), rfl⟩
theorem flX4_58 : Cond.fieldLink RX4 58 "GapRowsModel" "seed" "I" ∈ lw_tbl ∧ goodWord (Cond.fieldLink RX4 58 "GapRowsModel" "seed" "I") = true := ⟨mt4_4 (List.mem_of_getElem? (i := 31) (by decide +kernel)), rfl⟩
theorem flX4_61 : Cond.fieldLink RX4 61 "GapRowsModel" "thrown" "I" ∈ lw_tbl ∧ goodWord (Cond.fieldLink RX4 61 "GapRowsModel" "thrown" "I") = true := ⟨mt4_4 (List.mem_of_getElem? (i := 1) (by decide +kernel)), rfl⟩
theorem flX4_64 : Cond.fieldLink RX4 64 "GapRowsModel" "trouble" "I" ∈ lw_tbl ∧ goodWord (Cond.fieldLink RX4 64 "GapRowsModel" "trouble" "I") = true := ⟨mt4_4 (List.mem_of_getElem? (i := 2) (by decide +kernel)), rfl⟩
theorem flX4_67 : Cond.fieldLink RX4 67 "GapRowsModel" "size" "I" ∈ lw_tbl ∧ goodWord (Cond.fieldLink RX4 67 "GapRowsModel" "size" "I") = true := ⟨mt4_4 (List.mem_of_getElem? (i := 6) (by decide +kernel)), rfl⟩
theorem flX4_70 : Cond.fieldLink RX4 70 "GapRowsModel" "fault" "I" ∈ lw_tbl ∧ goodWord (Cond.fieldLink RX4 70 "GapRowsModel" "fault" "I") = true := ⟨mt4_4 (List.mem_of_getElem? (i := 11) (by decide +kernel)), rfl⟩
theorem flX4_73 : Cond.fieldLink RX4 73 "GapRowsModel" "spot" "I" ∈ lw_tbl ∧ goodWord (Cond.fieldLink RX4 73 "GapRowsModel" "spot" "I") = true := ⟨mt4_4 (List.mem_of_getElem? (i := 7) (by decide +kernel)), rfl⟩
theorem flX4_80 : Cond.fieldLink RX4 80 "GapRowsModel" "at" "I" ∈ lw_tbl ∧ goodWord (Cond.fieldLink RX4 80 "GapRowsModel" "at" "I") = true := ⟨mt4_4 (List.mem_of_getElem? (i := 9) (by decide +kernel)), rfl⟩
theorem flX4_83 : Cond.fieldLink RX4 83 "GapRowsModel" "token" "I" ∈ lw_tbl ∧ goodWord (Cond.fieldLink RX4 83 "GapRowsModel" "token" "I") = true := ⟨mt4_4 (List.mem_of_getElem? (i := 8) (by decide +kernel)), rfl⟩
theorem flX4_96 : Cond.fieldLink RX4 96 "GapRowsModel" "word" "J" ∈ lw_tbl ∧ goodWord (Cond.fieldLink RX4 96 "GapRowsModel" "word" "J") = true := ⟨mt4_4 (List.mem_of_getElem? (i := 12) (by decide +kernel)), rfl⟩
theorem flX4_100 : Cond.fieldLink RX4 100 "GapRowsModel" "numbe\x72" "I" ∈ lw_tbl ∧ goodWord (Cond.fieldLink RX4 100 "GapRowsModel" "numbe\x72" "I") = true := ⟨mt4_4 (List.mem_of_getElem? (i := 10) (by decide +kernel)), rfl⟩
theorem flX4_132 : Cond.fieldLink RX4 132 "GapRowsModel" "taped" "I" ∈ lw_tbl ∧ goodWord (Cond.fieldLink RX4 132 "GapRowsModel" "taped" "I") = true := ⟨mt4_4 (List.mem_of_getElem? (i := 5) (by decide +kernel)), rfl⟩
theorem flX4_135 : Cond.fieldLink RX4 135 "GapRowsModel" "readErro\x72" "I" ∈ lw_tbl ∧ goodWord (Cond.fieldLink RX4 135 "GapRowsModel" "readErro\x72" "I") = true := ⟨mt4_4 (List.mem_of_getElem? (i := 17) (by decide +kernel)), rfl⟩
theorem flX4_138 : Cond.fieldLink RX4 138 "GapRowsModel" "readStreams" "I" ∈ lw_tbl ∧ goodWord (Cond.fieldLink RX4 138 "GapRowsModel" "readStreams" "I") = true := ⟨mt4_4 (List.mem_of_getElem? (i := 18) (by decide +kernel)), rfl⟩
theorem flX4_141 : Cond.fieldLink RX4 141 "GapRowsModel" "pushes" "I" ∈ lw_tbl ∧ goodWord (Cond.fieldLink RX4 141 "GapRowsModel" "pushes" "I") = true := ⟨mt4_4 (List.mem_of_getElem? (i := 19) (by decide +kernel)), rfl⟩
theorem flX4_185 : Cond.fieldLink RX4 185 "GapRowsModel" "erro\x72" "I" ∈ lw_tbl ∧ goodWord (Cond.fieldLink RX4 185 "GapRowsModel" "erro\x72" "I") = true := ⟨mt4_4 (List.mem_of_getElem? (i := 29) (by decide +kernel)), rfl⟩
theorem flX4_187 : Cond.fieldLink RX4 187 "GapRowsModel" "streams" "I" ∈ lw_tbl ∧ goodWord (Cond.fieldLink RX4 187 "GapRowsModel" "streams" "I") = true := ⟨mt4_4 (List.mem_of_getElem? (i := 30) (by decide +kernel)), rfl⟩
theorem flX4_270 : Cond.fieldLink RX4 270 "GapRowsModel" "off" "I" ∈ lw_tbl ∧ goodWord (Cond.fieldLink RX4 270 "GapRowsModel" "off" "I") = true := ⟨mt4_4 (List.mem_of_getElem? (i := 32) (by decide +kernel)), rfl⟩
theorem flJ0_9 : Cond.fieldLink RJ0 9 "java/lang/String" "value" "[B" ∈ lw_tbl ∧ goodWord (Cond.fieldLink RJ0 9 "java/lang/String" "value" "[B") = true := ⟨mt7_0 (List.mem_of_getElem? (i := 9) (by decide +kernel)), rfl⟩
theorem flJ0_15 : Cond.fieldLink RJ0 15 "java/lang/String" "code\x72" "B" ∈ lw_tbl ∧ goodWord (Cond.fieldLink RJ0 15 "java/lang/String" "code\x72" "B") = true := ⟨mt7_0 (List.mem_of_getElem? (i := 10) (by decide +kernel)), rfl⟩
theorem flJ0_38 : Cond.fieldLink RJ0 38 "java/lang/String" "COMPACT_STRINGS" "Z" ∈ lw_tbl ∧ goodWord (Cond.fieldLink RJ0 38 "java/lang/String" "COMPACT_STRINGS" "Z") = true := ⟨mt1_5 (List.mem_of_getElem? (i := 9) (by decide +kernel)), rfl⟩
theorem flJ0_1053 : Cond.fieldLink RJ0 1053 "jdk/internal/util/Preconditions" "SIOOBE_FORMATTE\x52" "Ljava/util/function/BiFunction;" ∈ lw_tbl ∧ goodWord (Cond.fieldLink RJ0 1053 "jdk/internal/util/Preconditions" "SIOOBE_FORMATTE\x52" "Ljava/util/function/BiFunction;") = true := ⟨mt1_5 (List.mem_of_getElem? (i := 25) (by decide +kernel)), rfl⟩
theorem mlX3_54 : Cond.methodLink RX3 54 yX2_putBytes ∈ lw_tbl := mt1_3 (List.mem_of_getElem? (i := 35) (by decide +kernel))
theorem mlX3_58 : Cond.methodLink RX3 58 yX3_refuse ∈ lw_tbl := mt1_4 (List.mem_of_getElem? (i := 3) (by decide +kernel))
theorem mlX3_62 : Cond.methodLink RX3 62 yX2_readText ∈ lw_tbl := mt1_4 (List.mem_of_getElem? (i := 7) (by decide +kernel))
theorem mlX3_71 : Cond.methodLink RX3 71 yX3_takeText ∈ lw_tbl := mt2_1 (List.mem_of_getElem? (i := 13) (by decide +kernel))
theorem mlX3_74 : Cond.methodLink RX3 74 yX3_pass ∈ lw_tbl := mt2_4 (List.mem_of_getElem? (i := 16) (by decide +kernel))
theorem mlX3_77 : Cond.methodLink RX3 77 yX3_sumOfAll ∈ lw_tbl := mt2_4 (List.mem_of_getElem? (i := 32) (by decide +kernel))
theorem mlX3_80 : Cond.methodLink RX3 80 yX3_find ∈ lw_tbl := mt2_2 (List.mem_of_getElem? (i := 21) (by decide +kernel))
theorem mlX3_93 : Cond.methodLink RX3 93 yX3_boundOf ∈ lw_tbl := mt2_5 (List.mem_of_getElem? (i := 0) (by decide +kernel))
theorem mlX3_110 : Cond.methodLink RX3 110 yX0_widest ∈ lw_tbl := mt2_5 (List.mem_of_getElem? (i := 1) (by decide +kernel))
theorem mlX3_114 : Cond.methodLink RX3 114 yX1_unlikeValues ∈ lw_tbl := mt2_5 (List.mem_of_getElem? (i := 6) (by decide +kernel))
theorem mlX3_117 : Cond.methodLink RX3 117 yX0_gap ∈ lw_tbl := mt2_5 (List.mem_of_getElem? (i := 14) (by decide +kernel))
theorem mlX3_126 : Cond.methodLink RX3 126 yX0_high ∈ lw_tbl := mt2_5 (List.mem_of_getElem? (i := 18) (by decide +kernel))
theorem mlX3_129 : Cond.methodLink RX3 129 yX3_bandOf ∈ lw_tbl := mt2_5 (List.mem_of_getElem? (i := 22) (by decide +kernel))
theorem mlX3_132 : Cond.methodLink RX3 132 yX0_takeBands ∈ lw_tbl := mt2_5 (List.mem_of_getElem? (i := 23) (by decide +kernel))
theorem mlX3_135 : Cond.methodLink RX3 135 yX0_familyFrom ∈ lw_tbl := mt2_5 (List.mem_of_getElem? (i := 24) (by decide +kernel))
theorem mlX3_138 : Cond.methodLink RX3 138 yX0_mayGo ∈ lw_tbl := mt2_5 (List.mem_of_getElem? (i := 29) (by decide +kernel))
theorem mlX3_142 : Cond.methodLink RX3 142 yX0_firstWrong ∈ lw_tbl := mt2_5 (List.mem_of_getElem? (i := 38) (by decide +kernel))
theorem mlX3_145 : Cond.methodLink RX3 145 yX3_isPlace ∈ lw_tbl := mt3_0 (List.mem_of_getElem? (i := 16) (by decide +kernel))
theorem mlX3_149 : Cond.methodLink RX3 149 yX0_nearest ∈ lw_tbl := mt3_0 (List.mem_of_getElem? (i := 19) (by decide +kernel))
theorem mlX3_152 : Cond.methodLink RX3 152 yX0_offBy ∈ lw_tbl := mt3_0 (List.mem_of_getElem? (i := 28) (by decide +kernel))
theorem mlX3_155 : Cond.methodLink RX3 155 yX3_isShare ∈ lw_tbl := mt3_0 (List.mem_of_getElem? (i := 33) (by decide +kernel))
theorem mlX3_159 : Cond.methodLink RX3 159 yX1_quotaPlace ∈ lw_tbl := mt3_0 (List.mem_of_getElem? (i := 36) (by decide +kernel))
theorem mlX3_162 : Cond.methodLink RX3 162 yX3_isValue ∈ lw_tbl := mt3_1 (List.mem_of_getElem? (i := 5) (by decide +kernel))
theorem mlX3_165 : Cond.methodLink RX3 165 yX0_mostUpTo ∈ lw_tbl := mt3_1 (List.mem_of_getElem? (i := 6) (by decide +kernel))
theorem mlX3_168 : Cond.methodLink RX3 168 yX0_sureUpTo ∈ lw_tbl := mt3_1 (List.mem_of_getElem? (i := 10) (by decide +kernel))
theorem mlX3_171 : Cond.methodLink RX3 171 yX0_countAbove ∈ lw_tbl := mt3_1 (List.mem_of_getElem? (i := 18) (by decide +kernel))
theorem mlX3_175 : Cond.methodLink RX3 175 yX0_exactPlaces ∈ lw_tbl := mt3_1 (List.mem_of_getElem? (i := 28) (by decide +kernel))
theorem mlX3_178 : Cond.methodLink RX3 178 yX0_greatestOff ∈ lw_tbl := mt3_1 (List.mem_of_getElem? (i := 37) (by decide +kernel))
theorem mlX3_181 : Cond.methodLink RX3 181 yX0_floorAt ∈ lw_tbl := mt3_2 (List.mem_of_getElem? (i := 5) (by decide +kernel))
theorem mlX3_184 : Cond.methodLink RX3 184 yX0_ceilingAt ∈ lw_tbl := mt3_2 (List.mem_of_getElem? (i := 9) (by decide +kernel))
theorem mlX3_187 : Cond.methodLink RX3 187 yX0_doubts ∈ lw_tbl := mt3_2 (List.mem_of_getElem? (i := 17) (by decide +kernel))
theorem mlX3_191 : Cond.methodLink RX3 191 yX0_sumOfPlaces ∈ lw_tbl := mt3_2 (List.mem_of_getElem? (i := 27) (by decide +kernel))
theorem mlX3_194 : Cond.methodLink RX3 194 yX0_tuplesOfBand ∈ lw_tbl := mt3_2 (List.mem_of_getElem? (i := 35) (by decide +kernel))
theorem mlX3_197 : Cond.methodLink RX3 197 yX1_unevenness ∈ lw_tbl := mt3_3 (List.mem_of_getElem? (i := 7) (by decide +kernel))
theorem mlX3_200 : Cond.methodLink RX3 200 yX3_findOther ∈ lw_tbl := mt3_3 (List.mem_of_getElem? (i := 19) (by decide +kernel))
theorem mlX3_204 : Cond.methodLink RX3 204 yX3_countMeets ∈ lw_tbl := mt3_3 (List.mem_of_getElem? (i := 23) (by decide +kernel))
theorem mlX3_208 : Cond.methodLink RX3 208 yX1_sumOfValues ∈ lw_tbl := mt3_3 (List.mem_of_getElem? (i := 30) (by decide +kernel))
theorem mlX3_211 : Cond.methodLink RX3 211 yX1_valueAt ∈ lw_tbl := mt3_3 (List.mem_of_getElem? (i := 38) (by decide +kernel))
theorem mlX3_217 : Cond.methodLink RX3 217 yX1_missAt ∈ lw_tbl := mt3_4 (List.mem_of_getElem? (i := 10) (by decide +kernel))
theorem mlX3_220 : Cond.methodLink RX3 220 yX1_greatestMiss ∈ lw_tbl := mt3_4 (List.mem_of_getElem? (i := 26) (by decide +kernel))
theorem mlX3_223 : Cond.methodLink RX3 223 yX0_heavyValue ∈ lw_tbl := mt3_4 (List.mem_of_getElem? (i := 34) (by decide +kernel))
theorem mlX3_226 : Cond.methodLink RX3 226 yX3_apartOver ∈ lw_tbl := mt3_5 (List.mem_of_getElem? (i := 3) (by decide +kernel))
theorem mlX3_230 : Cond.methodLink RX3 230 Lib.Math.max.name ∈ lw_tbl := mt2_3 (List.mem_of_getElem? (i := 26) (by decide +kernel))
theorem mlX3_235 : Cond.methodLink RX3 235 yX0_joinOf ∈ lw_tbl := mt3_5 (List.mem_of_getElem? (i := 14) (by decide +kernel))
theorem mlX3_239 : Cond.methodLink RX3 239 yX0_shorten ∈ lw_tbl := mt3_5 (List.mem_of_getElem? (i := 23) (by decide +kernel))
theorem mlX3_242 : Cond.methodLink RX3 242 yX3_countWins ∈ lw_tbl := mt3_5 (List.mem_of_getElem? (i := 28) (by decide +kernel))
theorem mlX3_246 : Cond.methodLink RX3 246 yX3_wholeTrouble ∈ lw_tbl := mt3_5 (List.mem_of_getElem? (i := 35) (by decide +kernel))
theorem mlX3_249 : Cond.methodLink RX3 249 yX3_makeWhole ∈ lw_tbl := mt3_5 (List.mem_of_getElem? (i := 39) (by decide +kernel))
theorem mlX3_253 : Cond.methodLink RX3 253 yX0_places ∈ lw_tbl := mt3_5 (List.mem_of_getElem? (i := 9) (by decide +kernel))
theorem mlX3_256 : Cond.methodLink RX3 256 yX0_copyOf ∈ lw_tbl := mt4_0 (List.mem_of_getElem? (i := 3) (by decide +kernel))
theorem mlX3_260 : Cond.methodLink RX3 260 yX0_roundsLeft ∈ lw_tbl := mt4_0 (List.mem_of_getElem? (i := 15) (by decide +kernel))
theorem mlX3_263 : Cond.methodLink RX3 263 yX0_tuplesUpTo ∈ lw_tbl := mt4_0 (List.mem_of_getElem? (i := 28) (by decide +kernel))
theorem mlX3_266 : Cond.methodLink RX3 266 yX0_spreadAhead ∈ lw_tbl := mt4_0 (List.mem_of_getElem? (i := 29) (by decide +kernel))
theorem mlX3_269 : Cond.methodLink RX3 269 yX1_pushValue ∈ lw_tbl := mt2_2 (List.mem_of_getElem? (i := 25) (by decide +kernel))
theorem mlX3_274 : Cond.methodLink RX3 274 yX1_shortenRow ∈ lw_tbl := mt4_1 (List.mem_of_getElem? (i := 11) (by decide +kernel))
theorem mlX3_277 : Cond.methodLink RX3 277 yX1_addCounts ∈ lw_tbl := mt4_1 (List.mem_of_getElem? (i := 16) (by decide +kernel))
theorem mlX3_281 : Cond.methodLink RX3 281 yX1_dropValues ∈ lw_tbl := mt4_1 (List.mem_of_getElem? (i := 20) (by decide +kernel))
theorem mlX3_284 : Cond.methodLink RX3 284 yX1_isDue ∈ lw_tbl := mt4_1 (List.mem_of_getElem? (i := 29) (by decide +kernel))
theorem mlX3_305 : Cond.methodLink RX3 305 yX1_begin ∈ lw_tbl := mt2_2 (List.mem_of_getElem? (i := 10) (by decide +kernel))
theorem mlX3_316 : Cond.methodLink RX3 316 yX3_hundredthsApart ∈ lw_tbl := mt3_5 (List.mem_of_getElem? (i := 6) (by decide +kernel))
theorem mlX0_28 : Cond.methodLink RX0 28 yX0_lowAhead ∈ lw_tbl := mt2_3 (List.mem_of_getElem? (i := 8) (by decide +kernel))
theorem mlX0_32 : Cond.methodLink RX0 32 yX0_width ∈ lw_tbl := mt2_3 (List.mem_of_getElem? (i := 4) (by decide +kernel))
theorem mlX0_35 : Cond.methodLink RX0 35 Lib.Math.max.name ∈ lw_tbl := mt2_5 (List.mem_of_getElem? (i := 5) (by decide +kernel))
theorem mlX0_41 : Cond.methodLink RX0 41 yX0_tuplesUpTo ∈ lw_tbl := mt2_2 (List.mem_of_getElem? (i := 36) (by decide +kernel))
theorem mlX0_44 : Cond.methodLink RX0 44 yX0_high ∈ lw_tbl := mt3_0 (List.mem_of_getElem? (i := 27) (by decide +kernel))
theorem mlX0_47 : Cond.methodLink RX0 47 yX0_places ∈ lw_tbl := mt3_0 (List.mem_of_getElem? (i := 3) (by decide +kernel))
theorem mlX0_51 : Cond.methodLink RX0 51 yX0_mostUpTo ∈ lw_tbl := mt3_1 (List.mem_of_getElem? (i := 22) (by decide +kernel))
theorem mlX0_54 : Cond.methodLink RX0 54 yX0_sureUpTo ∈ lw_tbl := mt3_1 (List.mem_of_getElem? (i := 23) (by decide +kernel))
theorem mlX0_57 : Cond.methodLink RX0 57 yX0_gap ∈ lw_tbl := mt3_0 (List.mem_of_getElem? (i := 2) (by decide +kernel))
theorem mlX0_60 : Cond.methodLink RX0 60 yX0_widest ∈ lw_tbl := mt3_0 (List.mem_of_getElem? (i := 7) (by decide +kernel))
theorem mlX0_63 : Cond.methodLink RX0 63 yX0_endsAreTold ∈ lw_tbl := mt3_0 (List.mem_of_getElem? (i := 8) (by decide +kernel))
theorem mlX0_67 : Cond.methodLink RX0 67 yX0_spreadAhead ∈ lw_tbl := mt2_3 (List.mem_of_getElem? (i := 0) (by decide +kernel))
theorem mlX0_70 : Cond.methodLink RX0 70 arraycopyName ∈ lw_tbl := mt2_3 (List.mem_of_getElem? (i := 12) (by decide +kernel))
theorem mlX0_76 : Cond.methodLink RX0 76 Lib.Math.min.name ∈ lw_tbl := mt3_5 (List.mem_of_getElem? (i := 18) (by decide +kernel))
theorem mlX0_79 : Cond.methodLink RX0 79 yX0_joinTuple ∈ lw_tbl := mt3_5 (List.mem_of_getElem? (i := 19) (by decide +kernel))
theorem mlX0_86 : Cond.methodLink RX0 86 yX0_takeBands ∈ lw_tbl := mt2_3 (List.mem_of_getElem? (i := 33) (by decide +kernel))
theorem mlX0_90 : Cond.methodLink RX0 90 yX0_familyFrom ∈ lw_tbl := mt2_4 (List.mem_of_getElem? (i := 0) (by decide +kernel))
theorem mlX0_93 : Cond.methodLink RX0 93 yX0_mayGo ∈ lw_tbl := mt2_4 (List.mem_of_getElem? (i := 4) (by decide +kernel))
theorem mlX0_97 : Cond.methodLink RX0 97 yX0_moveTuple ∈ lw_tbl := mt2_4 (List.mem_of_getElem? (i := 8) (by decide +kernel))
theorem mlX0_101 : Cond.methodLink RX0 101 yX0_dropAhead ∈ lw_tbl := mt2_4 (List.mem_of_getElem? (i := 12) (by decide +kernel))
theorem mlX0_104 : Cond.methodLink RX0 104 yX0_shorten ∈ lw_tbl := mt4_0 (List.mem_of_getElem? (i := 19) (by decide +kernel))
theorem mlX0_107 : Cond.methodLink RX0 107 yX0_offBy ∈ lw_tbl := mt3_0 (List.mem_of_getElem? (i := 23) (by decide +kernel))
theorem mlX0_110 : Cond.methodLink RX0 110 yX0_nearest ∈ lw_tbl := mt3_1 (List.mem_of_getElem? (i := 32) (by decide +kernel))
theorem mlX0_113 : Cond.methodLink RX0 113 yX0_floorAt ∈ lw_tbl := mt3_2 (List.mem_of_getElem? (i := 21) (by decide +kernel))
theorem mlX0_116 : Cond.methodLink RX0 116 yX0_ceilingAt ∈ lw_tbl := mt3_2 (List.mem_of_getElem? (i := 22) (by decide +kernel))
theorem mlX0_119 : Cond.methodLink RX0 119 yX0_countAbove ∈ lw_tbl := mt3_4 (List.mem_of_getElem? (i := 38) (by decide +kernel))
theorem mlX1_35 : Cond.methodLink RX1 35 yX1_dropValues ∈ lw_tbl := mt2_2 (List.mem_of_getElem? (i := 14) (by decide +kernel))
theorem mlX1_38 : Cond.methodLink RX1 38 yJ7_fill_53178 ∈ lw_tbl := mt2_2 (List.mem_of_getElem? (i := 18) (by decide +kernel))
theorem mlX1_51 : Cond.methodLink RX1 51 yX0_insert ∈ lw_tbl := mt2_2 (List.mem_of_getElem? (i := 32) (by decide +kernel))
theorem mlX1_55 : Cond.methodLink RX1 55 yX1_isDue ∈ lw_tbl := mt2_3 (List.mem_of_getElem? (i := 15) (by decide +kernel))
theorem mlX1_59 : Cond.methodLink RX1 59 yX1_shortenRow ∈ lw_tbl := mt2_3 (List.mem_of_getElem? (i := 19) (by decide +kernel))
theorem mlX1_67 : Cond.methodLink RX1 67 yX0_shorten ∈ lw_tbl := mt2_3 (List.mem_of_getElem? (i := 29) (by decide +kernel))
theorem mlX1_70 : Cond.methodLink RX1 70 Lib.Math.max.name ∈ lw_tbl := mt3_1 (List.mem_of_getElem? (i := 0) (by decide +kernel))
theorem mlX1_78 : Cond.methodLink RX1 78 yX0_nearest ∈ lw_tbl := mt3_3 (List.mem_of_getElem? (i := 12) (by decide +kernel))
theorem mlX1_81 : Cond.methodLink RX1 81 yX1_valuesBetween ∈ lw_tbl := mt3_4 (List.mem_of_getElem? (i := 14) (by decide +kernel))
theorem mlX1_84 : Cond.methodLink RX1 84 yX1_missOf ∈ lw_tbl := mt3_4 (List.mem_of_getElem? (i := 18) (by decide +kernel))
theorem mlX1_88 : Cond.methodLink RX1 88 yX1_quotaPlace ∈ lw_tbl := mt3_3 (List.mem_of_getElem? (i := 11) (by decide +kernel))
theorem mlX1_91 : Cond.methodLink RX1 91 yX0_countAbove ∈ lw_tbl := mt3_3 (List.mem_of_getElem? (i := 13) (by decide +kernel))
theorem mlX1_95 : Cond.methodLink RX1 95 Lib.Math.min.name ∈ lw_tbl := mt3_3 (List.mem_of_getElem? (i := 14) (by decide +kernel))
theorem mlX2_61 : Cond.methodLink RX2 61 Lib.Math.min.name ∈ lw_tbl := mt1_4 (List.mem_of_getElem? (i := 11) (by decide +kernel))
theorem mlX2_67 : Cond.methodLink RX2 67 yX2_step ∈ lw_tbl := mt1_4 (List.mem_of_getElem? (i := 14) (by decide +kernel))
theorem mlX2_70 : Cond.methodLink RX2 70 yX2_readLine ∈ lw_tbl := mt1_4 (List.mem_of_getElem? (i := 32) (by decide +kernel))
theorem mlX2_74 : Cond.methodLink RX2 74 yX2_readParting ∈ lw_tbl := mt2_1 (List.mem_of_getElem? (i := 9) (by decide +kernel))
theorem mlX2_77 : Cond.methodLink RX2 77 yX2_fail ∈ lw_tbl := mt2_0 (List.mem_of_getElem? (i := 13) (by decide +kernel))
theorem mlX2_83 : Cond.methodLink RX2 83 yX2_isWord ∈ lw_tbl := mt1_4 (List.mem_of_getElem? (i := 37) (by decide +kernel))
theorem mlX2_87 : Cond.methodLink RX2 87 yX2_readRanks ∈ lw_tbl := mt2_0 (List.mem_of_getElem? (i := 9) (by decide +kernel))
theorem mlX2_92 : Cond.methodLink RX2 92 yX2_readStream ∈ lw_tbl := mt2_0 (List.mem_of_getElem? (i := 27) (by decide +kernel))
theorem mlX2_97 : Cond.methodLink RX2 97 yX2_readPush ∈ lw_tbl := mt2_1 (List.mem_of_getElem? (i := 1) (by decide +kernel))
theorem mlX2_102 : Cond.methodLink RX2 102 yX2_wantsWord ∈ lw_tbl := mt2_0 (List.mem_of_getElem? (i := 18) (by decide +kernel))
theorem mlX2_105 : Cond.methodLink RX2 105 yX2_wantsWhole ∈ lw_tbl := mt2_0 (List.mem_of_getElem? (i := 22) (by decide +kernel))
theorem mlX2_109 : Cond.methodLink RX2 109 yX2_isName ∈ lw_tbl := mt2_0 (List.mem_of_getElem? (i := 31) (by decide +kernel))
theorem mlX2_112 : Cond.methodLink RX2 112 yX2_streamNamed ∈ lw_tbl := mt2_0 (List.mem_of_getElem? (i := 36) (by decide +kernel))
theorem mlX2_118 : Cond.methodLink RX2 118 yX2_keepPush ∈ lw_tbl := mt2_1 (List.mem_of_getElem? (i := 5) (by decide +kernel))
theorem mlX2_122 : Cond.methodLink RX2 122 yJ0_length_8abf5 ∈ lw_tbl := mt1_5 (List.mem_of_getElem? (i := 1) (by decide +kernel))
theorem mlX2_128 : Cond.methodLink RX2 128 yJ0_charAt_5068e ∈ lw_tbl := mt1_5 (List.mem_of_getElem? (i := 11) (by decide +kernel))
theorem mlX2_132 : Cond.methodLink RX2 132 yX2_isLetter ∈ lw_tbl := mt1_4 (List.mem_of_getElem? (i := 18) (by decide +kernel))
theorem mlX2_135 : Cond.methodLink RX2 135 yX2_stepOverWord ∈ lw_tbl := mt1_4 (List.mem_of_getElem? (i := 21) (by decide +kernel))
theorem mlX2_138 : Cond.methodLink RX2 138 yX2_isDigit ∈ lw_tbl := mt1_4 (List.mem_of_getElem? (i := 25) (by decide +kernel))
theorem mlX2_141 : Cond.methodLink RX2 141 yX2_stepOverWhole ∈ lw_tbl := mt1_4 (List.mem_of_getElem? (i := 28) (by decide +kernel))
theorem mlL_7 : Cond.methodLink RL 7 yX3_idle ∈ lw_tbl := mt4_2 (List.mem_of_getElem? (i := 6) (by decide +kernel))
theorem mlL_15 : Cond.methodLink RL 15 yX3_init ∈ lw_tbl := mt1_0 (List.mem_of_getElem? (i := 19) (by decide +kernel))
theorem mlL_18 : Cond.methodLink RL 18 yX4_init ∈ lw_tbl := mt4_3 (List.mem_of_getElem? (i := 37) (by decide +kernel))
theorem mlL_19 : Cond.methodLink RL 19 yX3_feed ∈ lw_tbl := mt1_3 (List.mem_of_getElem? (i := 31) (by decide +kernel))
theorem mlL_23 : Cond.methodLink RL 23 yX4_feed ∈ lw_tbl := mt5_0 (List.mem_of_getElem? (i := 23) (by decide +kernel))
theorem mlL_24 : Cond.methodLink RL 24 yX3_ranks ∈ lw_tbl := mt1_3 (List.mem_of_getElem? (i := 39) (by decide +kernel))
theorem mlL_27 : Cond.methodLink RL 27 yX4_ranks ∈ lw_tbl := mt5_0 (List.mem_of_getElem? (i := 27) (by decide +kernel))
theorem mlL_28 : Cond.methodLink RL 28 yX3_fault ∈ lw_tbl := mt2_4 (List.mem_of_getElem? (i := 20) (by decide +kernel))
theorem mlL_32 : Cond.methodLink RL 32 yX4_fault ∈ lw_tbl := mt5_4 (List.mem_of_getElem? (i := 19) (by decide +kernel))
theorem mlL_33 : Cond.methodLink RL 33 yX3_where ∈ lw_tbl := mt2_4 (List.mem_of_getElem? (i := 24) (by decide +kernel))
theorem mlL_36 : Cond.methodLink RL 36 yX4_where ∈ lw_tbl := mt5_4 (List.mem_of_getElem? (i := 23) (by decide +kernel))
theorem mlL_37 : Cond.methodLink RL 37 yX3_about ∈ lw_tbl := mt2_4 (List.mem_of_getElem? (i := 28) (by decide +kernel))
theorem mlL_40 : Cond.methodLink RL 40 yX4_about ∈ lw_tbl := mt5_4 (List.mem_of_getElem? (i := 27) (by decide +kernel))
theorem mlL_41 : Cond.methodLink RL 41 yX3_stream ∈ lw_tbl := mt2_4 (List.mem_of_getElem? (i := 36) (by decide +kernel))
theorem mlL_45 : Cond.methodLink RL 45 yX4_stream ∈ lw_tbl := mt5_4 (List.mem_of_getElem? (i := 35) (by decide +kernel))
theorem mlL_46 : Cond.methodLink RL 46 yX3_tuple ∈ lw_tbl := mt2_5 (List.mem_of_getElem? (i := 10) (by decide +kernel))
theorem mlL_50 : Cond.methodLink RL 50 yX4_tuple ∈ lw_tbl := mt5_5 (List.mem_of_getElem? (i := 11) (by decide +kernel))
theorem mlL_51 : Cond.methodLink RL 51 yX3_goes ∈ lw_tbl := mt2_5 (List.mem_of_getElem? (i := 25) (by decide +kernel))
theorem mlL_54 : Cond.methodLink RL 54 yX4_goes ∈ lw_tbl := mt5_5 (List.mem_of_getElem? (i := 27) (by decide +kernel))
theorem mlL_55 : Cond.methodLink RL 55 yX3_band ∈ lw_tbl := mt2_5 (List.mem_of_getElem? (i := 30) (by decide +kernel))
theorem mlL_58 : Cond.methodLink RL 58 yX4_band ∈ lw_tbl := mt5_5 (List.mem_of_getElem? (i := 31) (by decide +kernel))
theorem mlL_59 : Cond.methodLink RL 59 yX3_check ∈ lw_tbl := mt2_5 (List.mem_of_getElem? (i := 34) (by decide +kernel))
theorem mlL_62 : Cond.methodLink RL 62 yX4_check ∈ lw_tbl := mt5_5 (List.mem_of_getElem? (i := 39) (by decide +kernel))
theorem mlL_63 : Cond.methodLink RL 63 yX3_answer ∈ lw_tbl := mt3_0 (List.mem_of_getElem? (i := 12) (by decide +kernel))
theorem mlL_66 : Cond.methodLink RL 66 yX4_answer ∈ lw_tbl := mt6_0 (List.mem_of_getElem? (i := 7) (by decide +kernel))
theorem mlL_67 : Cond.methodLink RL 67 yX3_quota ∈ lw_tbl := mt3_0 (List.mem_of_getElem? (i := 29) (by decide +kernel))
theorem mlL_71 : Cond.methodLink RL 71 yX4_quota ∈ lw_tbl := mt6_1 (List.mem_of_getElem? (i := 27) (by decide +kernel))
theorem mlL_72 : Cond.methodLink RL 72 yX3_rank ∈ lw_tbl := mt3_1 (List.mem_of_getElem? (i := 1) (by decide +kernel))
theorem mlL_76 : Cond.methodLink RL 76 yX4_rank ∈ lw_tbl := mt6_1 (List.mem_of_getElem? (i := 31) (by decide +kernel))
theorem mlL_77 : Cond.methodLink RL 77 yX3_between ∈ lw_tbl := mt3_1 (List.mem_of_getElem? (i := 14) (by decide +kernel))
theorem mlL_81 : Cond.methodLink RL 81 yX4_between ∈ lw_tbl := mt6_1 (List.mem_of_getElem? (i := 38) (by decide +kernel))
theorem mlL_82 : Cond.methodLink RL 82 yX3_exact ∈ lw_tbl := mt3_1 (List.mem_of_getElem? (i := 24) (by decide +kernel))
theorem mlL_85 : Cond.methodLink RL 85 yX4_exact ∈ lw_tbl := mt6_2 (List.mem_of_getElem? (i := 6) (by decide +kernel))
theorem mlL_86 : Cond.methodLink RL 86 yX3_worst ∈ lw_tbl := mt3_1 (List.mem_of_getElem? (i := 33) (by decide +kernel))
theorem mlL_89 : Cond.methodLink RL 89 yX4_worst ∈ lw_tbl := mt6_2 (List.mem_of_getElem? (i := 10) (by decide +kernel))
theorem mlL_90 : Cond.methodLink RL 90 yX3_bounds ∈ lw_tbl := mt3_2 (List.mem_of_getElem? (i := 1) (by decide +kernel))
theorem mlL_93 : Cond.methodLink RL 93 yX4_bounds ∈ lw_tbl := mt6_2 (List.mem_of_getElem? (i := 18) (by decide +kernel))
theorem mlL_94 : Cond.methodLink RL 94 yX3_unsure ∈ lw_tbl := mt3_2 (List.mem_of_getElem? (i := 13) (by decide +kernel))
theorem mlL_97 : Cond.methodLink RL 97 yX4_unsure ∈ lw_tbl := mt6_1 (List.mem_of_getElem? (i := 15) (by decide +kernel))
theorem mlL_98 : Cond.methodLink RL 98 yX3_total ∈ lw_tbl := mt3_2 (List.mem_of_getElem? (i := 23) (by decide +kernel))
theorem mlL_102 : Cond.methodLink RL 102 yX4_total ∈ lw_tbl := mt6_2 (List.mem_of_getElem? (i := 22) (by decide +kernel))
theorem mlL_103 : Cond.methodLink RL 103 yX3_bands ∈ lw_tbl := mt3_2 (List.mem_of_getElem? (i := 31) (by decide +kernel))
theorem mlL_106 : Cond.methodLink RL 106 yX4_bands ∈ lw_tbl := mt5_5 (List.mem_of_getElem? (i := 35) (by decide +kernel))
theorem mlL_107 : Cond.methodLink RL 107 yX3_bar ∈ lw_tbl := mt3_2 (List.mem_of_getElem? (i := 39) (by decide +kernel))
theorem mlL_110 : Cond.methodLink RL 110 yX4_bar ∈ lw_tbl := mt6_0 (List.mem_of_getElem? (i := 19) (by decide +kernel))
theorem mlL_111 : Cond.methodLink RL 111 yX3_uneven ∈ lw_tbl := mt3_3 (List.mem_of_getElem? (i := 3) (by decide +kernel))
theorem mlL_114 : Cond.methodLink RL 114 yX4_uneven ∈ lw_tbl := mt6_1 (List.mem_of_getElem? (i := 3) (by decide +kernel))
theorem mlL_115 : Cond.methodLink RL 115 yX3_meets ∈ lw_tbl := mt3_3 (List.mem_of_getElem? (i := 15) (by decide +kernel))
theorem mlL_118 : Cond.methodLink RL 118 yX4_meets ∈ lw_tbl := mt6_1 (List.mem_of_getElem? (i := 7) (by decide +kernel))
theorem mlL_119 : Cond.methodLink RL 119 yX3_sum ∈ lw_tbl := mt3_3 (List.mem_of_getElem? (i := 26) (by decide +kernel))
theorem mlL_122 : Cond.methodLink RL 122 yX4_sum ∈ lw_tbl := mt6_3 (List.mem_of_getElem? (i := 10) (by decide +kernel))
theorem mlL_123 : Cond.methodLink RL 123 yX3_sorted ∈ lw_tbl := mt3_3 (List.mem_of_getElem? (i := 34) (by decide +kernel))
theorem mlL_126 : Cond.methodLink RL 126 yX4_sorted ∈ lw_tbl := mt6_2 (List.mem_of_getElem? (i := 26) (by decide +kernel))
theorem mlL_127 : Cond.methodLink RL 127 yX3_times ∈ lw_tbl := mt3_4 (List.mem_of_getElem? (i := 2) (by decide +kernel))
theorem mlL_130 : Cond.methodLink RL 130 yX4_times ∈ lw_tbl := mt6_2 (List.mem_of_getElem? (i := 30) (by decide +kernel))
theorem mlL_131 : Cond.methodLink RL 131 yX3_miss ∈ lw_tbl := mt3_4 (List.mem_of_getElem? (i := 6) (by decide +kernel))
theorem mlL_134 : Cond.methodLink RL 134 yX4_miss ∈ lw_tbl := mt6_2 (List.mem_of_getElem? (i := 34) (by decide +kernel))
theorem mlL_135 : Cond.methodLink RL 135 yX3_missed ∈ lw_tbl := mt3_4 (List.mem_of_getElem? (i := 22) (by decide +kernel))
theorem mlL_138 : Cond.methodLink RL 138 yX4_missed ∈ lw_tbl := mt6_3 (List.mem_of_getElem? (i := 6) (by decide +kernel))
theorem mlL_139 : Cond.methodLink RL 139 yX3_heavy ∈ lw_tbl := mt3_4 (List.mem_of_getElem? (i := 30) (by decide +kernel))
theorem mlL_142 : Cond.methodLink RL 142 yX4_heavy ∈ lw_tbl := mt6_3 (List.mem_of_getElem? (i := 14) (by decide +kernel))
theorem mlL_143 : Cond.methodLink RL 143 yX3_apart ∈ lw_tbl := mt3_4 (List.mem_of_getElem? (i := 39) (by decide +kernel))
theorem mlL_146 : Cond.methodLink RL 146 yX4_apart ∈ lw_tbl := mt6_3 (List.mem_of_getElem? (i := 18) (by decide +kernel))
theorem mlL_147 : Cond.methodLink RL 147 yX3_would ∈ lw_tbl := mt3_5 (List.mem_of_getElem? (i := 10) (by decide +kernel))
theorem mlL_150 : Cond.methodLink RL 150 yX4_would ∈ lw_tbl := mt6_3 (List.mem_of_getElem? (i := 34) (by decide +kernel))
theorem mlL_151 : Cond.methodLink RL 151 yX3_wins ∈ lw_tbl := mt3_5 (List.mem_of_getElem? (i := 24) (by decide +kernel))
theorem mlL_154 : Cond.methodLink RL 154 yX4_wins ∈ lw_tbl := mt6_3 (List.mem_of_getElem? (i := 30) (by decide +kernel))
theorem mlL_155 : Cond.methodLink RL 155 yX3_whole ∈ lw_tbl := mt3_5 (List.mem_of_getElem? (i := 31) (by decide +kernel))
theorem mlL_158 : Cond.methodLink RL 158 yX4_whole ∈ lw_tbl := mt6_4 (List.mem_of_getElem? (i := 10) (by decide +kernel))
theorem mlL_159 : Cond.methodLink RL 159 yX3_overall ∈ lw_tbl := mt4_0 (List.mem_of_getElem? (i := 7) (by decide +kernel))
theorem mlL_162 : Cond.methodLink RL 162 yX4_overall ∈ lw_tbl := mt6_4 (List.mem_of_getElem? (i := 22) (by decide +kernel))
theorem mlL_163 : Cond.methodLink RL 163 yX3_rounds ∈ lw_tbl := mt4_0 (List.mem_of_getElem? (i := 11) (by decide +kernel))
theorem mlL_166 : Cond.methodLink RL 166 yX4_rounds ∈ lw_tbl := mt6_4 (List.mem_of_getElem? (i := 26) (by decide +kernel))
theorem mlL_167 : Cond.methodLink RL 167 yX3_coarse ∈ lw_tbl := mt4_0 (List.mem_of_getElem? (i := 20) (by decide +kernel))
theorem mlL_170 : Cond.methodLink RL 170 yX4_coarse ∈ lw_tbl := mt6_4 (List.mem_of_getElem? (i := 30) (by decide +kernel))
theorem mlL_171 : Cond.methodLink RL 171 yX3_spread ∈ lw_tbl := mt4_0 (List.mem_of_getElem? (i := 24) (by decide +kernel))
theorem mlL_174 : Cond.methodLink RL 174 yX4_spread ∈ lw_tbl := mt6_4 (List.mem_of_getElem? (i := 2) (by decide +kernel))
theorem mlL_175 : Cond.methodLink RL 175 yX3_finest ∈ lw_tbl := mt4_0 (List.mem_of_getElem? (i := 30) (by decide +kernel))
theorem mlL_178 : Cond.methodLink RL 178 yX4_finest ∈ lw_tbl := mt6_4 (List.mem_of_getElem? (i := 6) (by decide +kernel))
theorem mlL_179 : Cond.methodLink RL 179 yX3_push ∈ lw_tbl := mt4_0 (List.mem_of_getElem? (i := 34) (by decide +kernel))
theorem mlL_182 : Cond.methodLink RL 182 yX4_push ∈ lw_tbl := mt6_4 (List.mem_of_getElem? (i := 34) (by decide +kernel))
theorem mlL_183 : Cond.methodLink RL 183 yX3_draw ∈ lw_tbl := mt4_0 (List.mem_of_getElem? (i := 38) (by decide +kernel))
theorem mlL_186 : Cond.methodLink RL 186 yX4_draw ∈ lw_tbl := mt6_4 (List.mem_of_getElem? (i := 38) (by decide +kernel))
theorem mlL_187 : Cond.methodLink RL 187 yX3_seed ∈ lw_tbl := mt4_1 (List.mem_of_getElem? (i := 3) (by decide +kernel))
theorem mlL_191 : Cond.methodLink RL 191 yX4_seed ∈ lw_tbl := mt6_5 (List.mem_of_getElem? (i := 3) (by decide +kernel))
theorem mlL_192 : Cond.methodLink RL 192 yX3_compress ∈ lw_tbl := mt4_1 (List.mem_of_getElem? (i := 7) (by decide +kernel))
theorem mlL_195 : Cond.methodLink RL 195 yX4_compress ∈ lw_tbl := mt6_5 (List.mem_of_getElem? (i := 8) (by decide +kernel))
theorem mlL_196 : Cond.methodLink RL 196 yX3_merge ∈ lw_tbl := mt4_1 (List.mem_of_getElem? (i := 12) (by decide +kernel))
theorem mlL_199 : Cond.methodLink RL 199 yX4_merge ∈ lw_tbl := mt6_5 (List.mem_of_getElem? (i := 12) (by decide +kernel))
theorem mlL_200 : Cond.methodLink RL 200 yX3_clear ∈ lw_tbl := mt4_1 (List.mem_of_getElem? (i := 21) (by decide +kernel))
theorem mlL_203 : Cond.methodLink RL 203 yX4_clear ∈ lw_tbl := mt6_5 (List.mem_of_getElem? (i := 16) (by decide +kernel))
theorem mlL_204 : Cond.methodLink RL 204 yX3_every ∈ lw_tbl := mt4_1 (List.mem_of_getElem? (i := 25) (by decide +kernel))
theorem mlL_207 : Cond.methodLink RL 207 yX4_every ∈ lw_tbl := mt6_5 (List.mem_of_getElem? (i := 20) (by decide +kernel))
theorem mlL_208 : Cond.methodLink RL 208 yX3_error ∈ lw_tbl := mt4_1 (List.mem_of_getElem? (i := 30) (by decide +kernel))
theorem mlL_211 : Cond.methodLink RL 211 yX4_error ∈ lw_tbl := mt6_5 (List.mem_of_getElem? (i := 24) (by decide +kernel))
theorem mlL_212 : Cond.methodLink RL 212 yL_idle ∈ lw_tbl := mt4_2 (List.mem_of_getElem? (i := 2) (by decide +kernel))
theorem mlL_217 : Cond.methodLink RL 217 yX4_idle ∈ lw_tbl := mt6_5 (List.mem_of_getElem? (i := 28) (by decide +kernel))
theorem mlL_218 : Cond.methodLink RL 218 yX4_thrown ∈ lw_tbl := mt5_0 (List.mem_of_getElem? (i := 19) (by decide +kernel))
theorem mlL_221 : Cond.methodLink RL 221 yX3_size ∈ lw_tbl := mt4_1 (List.mem_of_getElem? (i := 34) (by decide +kernel))
theorem mlL_224 : Cond.methodLink RL 224 yX4_size ∈ lw_tbl := mt6_5 (List.mem_of_getElem? (i := 32) (by decide +kernel))
theorem mlL_225 : Cond.methodLink RL 225 yX3_trouble ∈ lw_tbl := mt4_1 (List.mem_of_getElem? (i := 38) (by decide +kernel))
theorem mlL_228 : Cond.methodLink RL 228 yX4_trouble ∈ lw_tbl := mt6_5 (List.mem_of_getElem? (i := 36) (by decide +kernel))
theorem mlX4_76 : Cond.methodLink RX4 76 yX4_byteAt ∈ lw_tbl := mt5_1 (List.mem_of_getElem? (i := 3) (by decide +kernel))
theorem mlX4_86 : Cond.methodLink RX4 86 yX4_in ∈ lw_tbl := mt5_1 (List.mem_of_getElem? (i := 7) (by decide +kernel))
theorem mlX4_90 : Cond.methodLink RX4 90 yX4_goWord ∈ lw_tbl := mt5_1 (List.mem_of_getElem? (i := 10) (by decide +kernel))
theorem mlX4_93 : Cond.methodLink RX4 93 yX4_goWhole ∈ lw_tbl := mt5_1 (List.mem_of_getElem? (i := 14) (by decide +kernel))
theorem mlX4_103 : Cond.methodLink RX4 103 yJ0_length_8abf5 ∈ lw_tbl := mt5_1 (List.mem_of_getElem? (i := 27) (by decide +kernel))
theorem mlX4_109 : Cond.methodLink RX4 109 yJ0_charAt_5068e ∈ lw_tbl := mt5_1 (List.mem_of_getElem? (i := 28) (by decide +kernel))
theorem mlX4_113 : Cond.methodLink RX4 113 yX4_isWord ∈ lw_tbl := mt5_1 (List.mem_of_getElem? (i := 23) (by decide +kernel))
theorem mlX4_117 : Cond.methodLink RX4 117 yX4_flaw ∈ lw_tbl := mt5_1 (List.mem_of_getElem? (i := 33) (by decide +kernel))
theorem mlX4_121 : Cond.methodLink RX4 121 yX4_goOn ∈ lw_tbl := mt5_0 (List.mem_of_getElem? (i := 39) (by decide +kernel))
theorem mlX4_124 : Cond.methodLink RX4 124 yX4_needs ∈ lw_tbl := mt5_2 (List.mem_of_getElem? (i := 2) (by decide +kernel))
theorem mlX4_128 : Cond.methodLink RX4 128 yX4_readWhole ∈ lw_tbl := mt5_2 (List.mem_of_getElem? (i := 6) (by decide +kernel))
theorem mlX4_144 : Cond.methodLink RX4 144 yX4_readLine ∈ lw_tbl := mt5_1 (List.mem_of_getElem? (i := 18) (by decide +kernel))
theorem mlX4_149 : Cond.methodLink RX4 149 yX4_readRanks ∈ lw_tbl := mt5_1 (List.mem_of_getElem? (i := 29) (by decide +kernel))
theorem mlX4_154 : Cond.methodLink RX4 154 yX4_readStream ∈ lw_tbl := mt5_2 (List.mem_of_getElem? (i := 11) (by decide +kernel))
theorem mlX4_159 : Cond.methodLink RX4 159 yX4_readPush ∈ lw_tbl := mt5_2 (List.mem_of_getElem? (i := 25) (by decide +kernel))
theorem mlX4_164 : Cond.methodLink RX4 164 yX4_readPart ∈ lw_tbl := mt5_1 (List.mem_of_getElem? (i := 38) (by decide +kernel))
theorem mlX4_168 : Cond.methodLink RX4 168 yX4_needsName ∈ lw_tbl := mt5_2 (List.mem_of_getElem? (i := 15) (by decide +kernel))
theorem mlX4_171 : Cond.methodLink RX4 171 yX4_named ∈ lw_tbl := mt5_2 (List.mem_of_getElem? (i := 20) (by decide +kernel))
theorem mlX4_175 : Cond.methodLink RX4 175 yX4_pushed ∈ lw_tbl := mt5_2 (List.mem_of_getElem? (i := 29) (by decide +kernel))
theorem mlX4_179 : Cond.methodLink RX4 179 yX4_refused ∈ lw_tbl := mt5_0 (List.mem_of_getElem? (i := 31) (by decide +kernel))
theorem mlX4_182 : Cond.methodLink RX4 182 yX4_readAll ∈ lw_tbl := mt5_0 (List.mem_of_getElem? (i := 35) (by decide +kernel))
theorem mlX4_190 : Cond.methodLink RX4 190 yX4_empties ∈ lw_tbl := mt5_2 (List.mem_of_getElem? (i := 33) (by decide +kernel))
theorem mlX4_193 : Cond.methodLink RX4 193 yX4_pushes ∈ lw_tbl := mt5_2 (List.mem_of_getElem? (i := 37) (by decide +kernel))
theorem mlX4_195 : Cond.methodLink RX4 195 yX4_good ∈ lw_tbl := mt5_4 (List.mem_of_getElem? (i := 15) (by decide +kernel))
theorem mlX4_198 : Cond.methodLink RX4 198 yX4_boundBy ∈ lw_tbl := mt5_3 (List.mem_of_getElem? (i := 29) (by decide +kernel))
theorem mlX4_201 : Cond.methodLink RX4 201 yX4_copies ∈ lw_tbl := mt5_3 (List.mem_of_getElem? (i := 13) (by decide +kernel))
theorem mlX4_205 : Cond.methodLink RX4 205 yX4_place ∈ lw_tbl := mt5_3 (List.mem_of_getElem? (i := 1) (by decide +kernel))
theorem mlX4_208 : Cond.methodLink RX4 208 yX4_spreadAt ∈ lw_tbl := mt5_3 (List.mem_of_getElem? (i := 5) (by decide +kernel))
theorem mlX4_211 : Cond.methodLink RX4 211 yX4_shifts ∈ lw_tbl := mt5_3 (List.mem_of_getElem? (i := 9) (by decide +kernel))
theorem mlX4_214 : Cond.methodLink RX4 214 yX4_lays ∈ lw_tbl := mt5_3 (List.mem_of_getElem? (i := 17) (by decide +kernel))
theorem mlX4_218 : Cond.methodLink RX4 218 yX4_compresses ∈ lw_tbl := mt5_3 (List.mem_of_getElem? (i := 21) (by decide +kernel))
theorem mlX4_221 : Cond.methodLink RX4 221 yX4_bandOf ∈ lw_tbl := mt5_4 (List.mem_of_getElem? (i := 4) (by decide +kernel))
theorem mlX4_224 : Cond.methodLink RX4 224 yX4_bandAt ∈ lw_tbl := mt5_4 (List.mem_of_getElem? (i := 0) (by decide +kernel))
theorem mlX4_228 : Cond.methodLink RX4 228 yX4_familyFrom ∈ lw_tbl := mt5_4 (List.mem_of_getElem? (i := 7) (by decide +kernel))
theorem mlX4_231 : Cond.methodLink RX4 231 yX4_gaps ∈ lw_tbl := mt5_4 (List.mem_of_getElem? (i := 11) (by decide +kernel))
theorem mlX4_234 : Cond.methodLink RX4 234 yX4_canGo ∈ lw_tbl := mt5_3 (List.mem_of_getElem? (i := 36) (by decide +kernel))
theorem mlX4_237 : Cond.methodLink RX4 237 yX4_boundOf ∈ lw_tbl := mt5_3 (List.mem_of_getElem? (i := 25) (by decide +kernel))
theorem mlX4_240 : Cond.methodLink RX4 240 yX4_shortens ∈ lw_tbl := mt5_3 (List.mem_of_getElem? (i := 32) (by decide +kernel))
theorem mlX4_243 : Cond.methodLink RX4 243 yX4_sumOf ∈ lw_tbl := mt5_4 (List.mem_of_getElem? (i := 31) (by decide +kernel))
theorem mlX4_247 : Cond.methodLink RX4 247 yX4_isStream ∈ lw_tbl := mt5_4 (List.mem_of_getElem? (i := 39) (by decide +kernel))
theorem mlX4_251 : Cond.methodLink RX4 251 yX4_widest ∈ lw_tbl := mt5_5 (List.mem_of_getElem? (i := 3) (by decide +kernel))
theorem mlX4_254 : Cond.methodLink RX4 254 yX4_unlike ∈ lw_tbl := mt5_5 (List.mem_of_getElem? (i := 7) (by decide +kernel))
theorem mlX4_257 : Cond.methodLink RX4 257 yX4_low ∈ lw_tbl := mt5_5 (List.mem_of_getElem? (i := 19) (by decide +kernel))
theorem mlX4_260 : Cond.methodLink RX4 260 yX4_isTuple ∈ lw_tbl := mt5_5 (List.mem_of_getElem? (i := 15) (by decide +kernel))
theorem mlX4_264 : Cond.methodLink RX4 264 yX4_high ∈ lw_tbl := mt5_5 (List.mem_of_getElem? (i := 23) (by decide +kernel))
theorem mlX4_267 : Cond.methodLink RX4 267 yX4_wrongOf ∈ lw_tbl := mt6_0 (List.mem_of_getElem? (i := 3) (by decide +kernel))
theorem mlX4_273 : Cond.methodLink RX4 273 yX4_isPlace ∈ lw_tbl := mt6_0 (List.mem_of_getElem? (i := 11) (by decide +kernel))
theorem mlX4_276 : Cond.methodLink RX4 276 yX4_answers ∈ lw_tbl := mt6_0 (List.mem_of_getElem? (i := 15) (by decide +kernel))
theorem mlX4_279 : Cond.methodLink RX4 279 yX4_quotaPlace ∈ lw_tbl := mt6_0 (List.mem_of_getElem? (i := 31) (by decide +kernel))
theorem mlX4_282 : Cond.methodLink RX4 282 yX4_quotaValue ∈ lw_tbl := mt6_0 (List.mem_of_getElem? (i := 27) (by decide +kernel))
theorem mlX4_285 : Cond.methodLink RX4 285 yX4_atMost ∈ lw_tbl := mt6_0 (List.mem_of_getElem? (i := 35) (by decide +kernel))
theorem mlX4_288 : Cond.methodLink RX4 288 yX4_sure ∈ lw_tbl := mt6_0 (List.mem_of_getElem? (i := 39) (by decide +kernel))
theorem mlX4_291 : Cond.methodLink RX4 291 yX4_barOf ∈ lw_tbl := mt6_0 (List.mem_of_getElem? (i := 23) (by decide +kernel))
theorem mlX4_295 : Cond.methodLink RX4 295 yX4_areTwo ∈ lw_tbl := mt6_1 (List.mem_of_getElem? (i := 11) (by decide +kernel))
theorem mlX4_298 : Cond.methodLink RX4 298 yX4_ceilingOf ∈ lw_tbl := mt6_1 (List.mem_of_getElem? (i := 19) (by decide +kernel))
theorem mlX4_301 : Cond.methodLink RX4 301 yX4_floorOf ∈ lw_tbl := mt6_1 (List.mem_of_getElem? (i := 23) (by decide +kernel))
theorem mlX4_304 : Cond.methodLink RX4 304 yX4_isValue ∈ lw_tbl := mt6_1 (List.mem_of_getElem? (i := 35) (by decide +kernel))
theorem mlX4_307 : Cond.methodLink RX4 307 yX4_leastFrom ∈ lw_tbl := mt6_2 (List.mem_of_getElem? (i := 2) (by decide +kernel))
theorem mlX4_310 : Cond.methodLink RX4 310 yX4_worstOf ∈ lw_tbl := mt6_2 (List.mem_of_getElem? (i := 14) (by decide +kernel))
theorem mlX4_313 : Cond.methodLink RX4 313 yX4_below ∈ lw_tbl := mt6_3 (List.mem_of_getElem? (i := 2) (by decide +kernel))
theorem mlX4_316 : Cond.methodLink RX4 316 yX4_missOf ∈ lw_tbl := mt6_2 (List.mem_of_getElem? (i := 38) (by decide +kernel))
theorem mlX4_319 : Cond.methodLink RX4 319 yX4_between_ ∈ lw_tbl := mt6_3 (List.mem_of_getElem? (i := 26) (by decide +kernel))
theorem mlX4_322 : Cond.methodLink RX4 322 yX4_apartBy ∈ lw_tbl := mt6_3 (List.mem_of_getElem? (i := 22) (by decide +kernel))
theorem mlX4_325 : Cond.methodLink RX4 325 yX4_joins ∈ lw_tbl := mt6_3 (List.mem_of_getElem? (i := 38) (by decide +kernel))
theorem mlX4_328 : Cond.methodLink RX4 328 yX4_copiesRow ∈ lw_tbl := mt6_4 (List.mem_of_getElem? (i := 18) (by decide +kernel))
theorem mlX4_331 : Cond.methodLink RX4 331 yX4_wholeLays ∈ lw_tbl := mt6_4 (List.mem_of_getElem? (i := 14) (by decide +kernel))
theorem mlJ0_335 : Cond.methodLink RJ0 335 yJ0_coder_7d493 ∈ lw_tbl := mt1_5 (List.mem_of_getElem? (i := 5) (by decide +kernel))
theorem mlJ0_492 : Cond.methodLink RJ0 492 yJ0_isLatin1_aae02 ∈ lw_tbl := mt1_5 (List.mem_of_getElem? (i := 15) (by decide +kernel))
theorem mlJ0_495 : Cond.methodLink RJ0 495 yJ1_charAt_3b067 ∈ lw_tbl := mt1_5 (List.mem_of_getElem? (i := 19) (by decide +kernel))
theorem mlJ0_498 : Cond.methodLink RJ0 498 yJ2_charAt_3b067 ∈ lw_tbl := mt1_5 (List.mem_of_getElem? (i := 30) (by decide +kernel))
theorem mlJ0_1059 : Cond.methodLink RJ0 1059 yJ3_checkIndex_8e157 ∈ lw_tbl := mt1_5 (List.mem_of_getElem? (i := 27) (by decide +kernel))
theorem mlJ1_9 : Cond.methodLink RJ1 9 yJ0_checkIndex_df160 ∈ lw_tbl := mt1_5 (List.mem_of_getElem? (i := 22) (by decide +kernel))
theorem nlX3_9 : Cond.methodLinkNest RX3 9 yX2_init "GapRows" ∈ lw_tbl := mt1_0 (List.mem_of_getElem? (i := 27) (by decide +kernel))
theorem nlX3_43 : Cond.methodLinkNest RX3 43 yX0_init "GapRows" ∈ lw_tbl := mt1_2 (List.mem_of_getElem? (i := 14) (by decide +kernel))
theorem nlX3_301 : Cond.methodLinkNest RX3 301 yX1_init "GapRows" ∈ lw_tbl := mt2_1 (List.mem_of_getElem? (i := 18) (by decide +kernel))
theorem nlX0_83 : Cond.methodLinkNest RX0 83 yX3_bandOf "GapRows" ∈ lw_tbl := mt2_3 (List.mem_of_getElem? (i := 37) (by decide +kernel))
theorem nlX1_11 : Cond.methodLinkNest RX1 11 yX0_init "GapRows" ∈ lw_tbl := mt2_1 (List.mem_of_getElem? (i := 23) (by decide +kernel))
theorem nlX1_47 : Cond.methodLinkNest RX1 47 yX3_isValue "GapRows" ∈ lw_tbl := mt2_2 (List.mem_of_getElem? (i := 29) (by decide +kernel))
theorem nlX1_63 : Cond.methodLinkNest RX1 63 yX3_boundOf "GapRows" ∈ lw_tbl := mt2_3 (List.mem_of_getElem? (i := 23) (by decide +kernel))
theorem mvX0_places : Mv yX0_places RX0 cX0_places 1 (some .int) 0 := ⟨⟨mt3_0 (List.mem_of_getElem? (i := 4) (by decide +kernel)), mt3_0 (List.mem_of_getElem? (i := 5) (by decide +kernel)), mt1_0 (List.mem_of_getElem? (i := 3) (by decide +kernel)), mt3_0 (List.mem_of_getElem? (i := 6) (by decide +kernel))⟩, by decide +kernel⟩
theorem mvX0_lowAhead : Mv yX0_lowAhead RX0 cX0_lowAhead 2 (some .int) 1 := ⟨⟨mt2_3 (List.mem_of_getElem? (i := 9) (by decide +kernel)), mt2_3 (List.mem_of_getElem? (i := 10) (by decide +kernel)), mt1_0 (List.mem_of_getElem? (i := 3) (by decide +kernel)), mt2_3 (List.mem_of_getElem? (i := 11) (by decide +kernel))⟩, by decide +kernel⟩
theorem mvX0_gap : Mv yX0_gap RX0 cX0_gap 2 (some .int) 1 := ⟨⟨mt2_5 (List.mem_of_getElem? (i := 15) (by decide +kernel)), mt2_5 (List.mem_of_getElem? (i := 16) (by decide +kernel)), mt1_0 (List.mem_of_getElem? (i := 3) (by decide +kernel)), mt2_5 (List.mem_of_getElem? (i := 17) (by decide +kernel))⟩, by decide +kernel⟩
theorem mvX0_high : Mv yX0_high RX0 cX0_high 2 (some .int) 1 := ⟨⟨mt2_5 (List.mem_of_getElem? (i := 19) (by decide +kernel)), mt2_5 (List.mem_of_getElem? (i := 20) (by decide +kernel)), mt1_0 (List.mem_of_getElem? (i := 3) (by decide +kernel)), mt2_5 (List.mem_of_getElem? (i := 21) (by decide +kernel))⟩, by decide +kernel⟩
theorem mvX0_width : Mv yX0_width RX0 cX0_width 2 (some .int) 1 := ⟨⟨mt2_3 (List.mem_of_getElem? (i := 5) (by decide +kernel)), mt2_3 (List.mem_of_getElem? (i := 6) (by decide +kernel)), mt1_0 (List.mem_of_getElem? (i := 3) (by decide +kernel)), mt2_3 (List.mem_of_getElem? (i := 7) (by decide +kernel))⟩, by decide +kernel⟩
theorem mvX0_widest : Mv yX0_widest RX0 cX0_widest 3 (some .int) 0 := ⟨⟨mt2_5 (List.mem_of_getElem? (i := 2) (by decide +kernel)), mt2_5 (List.mem_of_getElem? (i := 3) (by decide +kernel)), mt1_0 (List.mem_of_getElem? (i := 3) (by decide +kernel)), mt2_5 (List.mem_of_getElem? (i := 4) (by decide +kernel))⟩, by decide +kernel⟩
theorem mvX0_tuplesUpTo : Mv yX0_tuplesUpTo RX0 cX0_tuplesUpTo 4 (some .int) 1 := ⟨⟨mt2_2 (List.mem_of_getElem? (i := 37) (by decide +kernel)), mt2_2 (List.mem_of_getElem? (i := 38) (by decide +kernel)), mt1_0 (List.mem_of_getElem? (i := 3) (by decide +kernel)), mt2_2 (List.mem_of_getElem? (i := 39) (by decide +kernel))⟩, by decide +kernel⟩
theorem mvX0_sureUpTo : Mv yX0_sureUpTo RX0 cX0_sureUpTo 2 (some .int) 1 := ⟨⟨mt3_1 (List.mem_of_getElem? (i := 11) (by decide +kernel)), mt3_1 (List.mem_of_getElem? (i := 12) (by decide +kernel)), mt1_0 (List.mem_of_getElem? (i := 3) (by decide +kernel)), mt3_1 (List.mem_of_getElem? (i := 13) (by decide +kernel))⟩, by decide +kernel⟩
theorem mvX0_mostUpTo : Mv yX0_mostUpTo RX0 cX0_mostUpTo 3 (some .int) 1 := ⟨⟨mt3_1 (List.mem_of_getElem? (i := 7) (by decide +kernel)), mt3_1 (List.mem_of_getElem? (i := 8) (by decide +kernel)), mt1_0 (List.mem_of_getElem? (i := 3) (by decide +kernel)), mt3_1 (List.mem_of_getElem? (i := 9) (by decide +kernel))⟩, by decide +kernel⟩
theorem mvX0_countAbove : Mv yX0_countAbove RX0 cX0_countAbove 4 (some .int) 3 := ⟨⟨mt3_1 (List.mem_of_getElem? (i := 19) (by decide +kernel)), mt3_1 (List.mem_of_getElem? (i := 20) (by decide +kernel)), mt1_0 (List.mem_of_getElem? (i := 3) (by decide +kernel)), mt3_1 (List.mem_of_getElem? (i := 21) (by decide +kernel))⟩, by decide +kernel⟩
theorem mvX0_firstWrong : Mv yX0_firstWrong RX0 cX0_firstWrong 4 (some .int) 2 := ⟨⟨mt2_5 (List.mem_of_getElem? (i := 39) (by decide +kernel)), mt3_0 (List.mem_of_getElem? (i := 0) (by decide +kernel)), mt1_0 (List.mem_of_getElem? (i := 3) (by decide +kernel)), mt3_0 (List.mem_of_getElem? (i := 1) (by decide +kernel))⟩, by decide +kernel⟩
theorem mvX0_endsAreTold : Mv yX0_endsAreTold RX0 cX0_endsAreTold 1 (some .boolean) 0 := ⟨⟨mt3_0 (List.mem_of_getElem? (i := 10) (by decide +kernel)), mp2 (List.mem_of_getElem? (i := 6) (by decide +kernel)), mt1_0 (List.mem_of_getElem? (i := 3) (by decide +kernel)), mt3_0 (List.mem_of_getElem? (i := 11) (by decide +kernel))⟩, by decide +kernel⟩
theorem mvX0_insert : Mv yX0_insert RX0 cX0_insert 5 none 1 := ⟨⟨mt2_2 (List.mem_of_getElem? (i := 33) (by decide +kernel)), mt2_2 (List.mem_of_getElem? (i := 34) (by decide +kernel)), mt1_0 (List.mem_of_getElem? (i := 3) (by decide +kernel)), mt2_2 (List.mem_of_getElem? (i := 35) (by decide +kernel))⟩, by decide +kernel⟩
theorem mvX0_spreadAhead : Mv yX0_spreadAhead RX0 cX0_spreadAhead 2 (some .int) 1 := ⟨⟨mt2_3 (List.mem_of_getElem? (i := 1) (by decide +kernel)), mt2_3 (List.mem_of_getElem? (i := 2) (by decide +kernel)), mt1_0 (List.mem_of_getElem? (i := 3) (by decide +kernel)), mt2_3 (List.mem_of_getElem? (i := 3) (by decide +kernel))⟩, by decide +kernel⟩
theorem mvX0_copyOf : Mv yX0_copyOf RX0 cX0_copyOf 2 none 1 := ⟨⟨mt4_0 (List.mem_of_getElem? (i := 4) (by decide +kernel)), mt4_0 (List.mem_of_getElem? (i := 5) (by decide +kernel)), mt1_0 (List.mem_of_getElem? (i := 3) (by decide +kernel)), mt4_0 (List.mem_of_getElem? (i := 6) (by decide +kernel))⟩, by decide +kernel⟩
theorem mvX0_joinOf : Mv yX0_joinOf RX0 cX0_joinOf 7 none 2 := ⟨⟨mt3_5 (List.mem_of_getElem? (i := 15) (by decide +kernel)), mt3_5 (List.mem_of_getElem? (i := 16) (by decide +kernel)), mt1_0 (List.mem_of_getElem? (i := 3) (by decide +kernel)), mt3_5 (List.mem_of_getElem? (i := 17) (by decide +kernel))⟩, by decide +kernel⟩
theorem mvX0_joinTuple : Mv yX0_joinTuple RX0 cX0_joinTuple 6 none 5 := ⟨⟨mt3_5 (List.mem_of_getElem? (i := 21) (by decide +kernel)), mp2 (List.mem_of_getElem? (i := 10) (by decide +kernel)), mt1_0 (List.mem_of_getElem? (i := 3) (by decide +kernel)), mt3_5 (List.mem_of_getElem? (i := 22) (by decide +kernel))⟩, by decide +kernel⟩
theorem mvX0_takeBands : Mv yX0_takeBands RX0 cX0_takeBands 3 none 1 := ⟨⟨mt2_3 (List.mem_of_getElem? (i := 34) (by decide +kernel)), mt2_3 (List.mem_of_getElem? (i := 35) (by decide +kernel)), mt1_0 (List.mem_of_getElem? (i := 3) (by decide +kernel)), mt2_3 (List.mem_of_getElem? (i := 36) (by decide +kernel))⟩, by decide +kernel⟩
theorem mvX0_familyFrom : Mv yX0_familyFrom RX0 cX0_familyFrom 3 (some .int) 1 := ⟨⟨mt2_4 (List.mem_of_getElem? (i := 1) (by decide +kernel)), mt2_4 (List.mem_of_getElem? (i := 2) (by decide +kernel)), mt1_0 (List.mem_of_getElem? (i := 3) (by decide +kernel)), mt2_4 (List.mem_of_getElem? (i := 3) (by decide +kernel))⟩, by decide +kernel⟩
theorem mvX0_mayGo : Mv yX0_mayGo RX0 cX0_mayGo 5 (some .boolean) 4 := ⟨⟨mt2_4 (List.mem_of_getElem? (i := 5) (by decide +kernel)), mt2_4 (List.mem_of_getElem? (i := 6) (by decide +kernel)), mt1_0 (List.mem_of_getElem? (i := 3) (by decide +kernel)), mt2_4 (List.mem_of_getElem? (i := 7) (by decide +kernel))⟩, by decide +kernel⟩
theorem mvX0_shorten : Mv yX0_shorten RX0 cX0_shorten 5 (some .int) 1 := ⟨⟨mt2_3 (List.mem_of_getElem? (i := 30) (by decide +kernel)), mt2_3 (List.mem_of_getElem? (i := 31) (by decide +kernel)), mt1_0 (List.mem_of_getElem? (i := 3) (by decide +kernel)), mt2_3 (List.mem_of_getElem? (i := 32) (by decide +kernel))⟩, by decide +kernel⟩
theorem mvX0_moveTuple : Mv yX0_moveTuple RX0 cX0_moveTuple 3 none 2 := ⟨⟨mt2_4 (List.mem_of_getElem? (i := 10) (by decide +kernel)), mp2 (List.mem_of_getElem? (i := 2) (by decide +kernel)), mt1_0 (List.mem_of_getElem? (i := 3) (by decide +kernel)), mt2_4 (List.mem_of_getElem? (i := 11) (by decide +kernel))⟩, by decide +kernel⟩
theorem mvX0_dropAhead : Mv yX0_dropAhead RX0 cX0_dropAhead 2 none 1 := ⟨⟨mt2_4 (List.mem_of_getElem? (i := 14) (by decide +kernel)), mp2 (List.mem_of_getElem? (i := 3) (by decide +kernel)), mt1_0 (List.mem_of_getElem? (i := 3) (by decide +kernel)), mt2_4 (List.mem_of_getElem? (i := 15) (by decide +kernel))⟩, by decide +kernel⟩
theorem mvX0_roundsLeft : Mv yX0_roundsLeft RX0 cX0_roundsLeft 3 (some .int) 1 := ⟨⟨mt4_0 (List.mem_of_getElem? (i := 16) (by decide +kernel)), mt4_0 (List.mem_of_getElem? (i := 17) (by decide +kernel)), mt1_0 (List.mem_of_getElem? (i := 3) (by decide +kernel)), mt4_0 (List.mem_of_getElem? (i := 18) (by decide +kernel))⟩, by decide +kernel⟩
theorem mvX0_tuplesOfBand : Mv yX0_tuplesOfBand RX0 cX0_tuplesOfBand 5 (some .int) 2 := ⟨⟨mt3_2 (List.mem_of_getElem? (i := 36) (by decide +kernel)), mt3_2 (List.mem_of_getElem? (i := 37) (by decide +kernel)), mt1_0 (List.mem_of_getElem? (i := 3) (by decide +kernel)), mt3_2 (List.mem_of_getElem? (i := 38) (by decide +kernel))⟩, by decide +kernel⟩
theorem mvX0_offBy : Mv yX0_offBy RX0 cX0_offBy 3 (some .int) 2 := ⟨⟨mt3_0 (List.mem_of_getElem? (i := 24) (by decide +kernel)), mt3_0 (List.mem_of_getElem? (i := 25) (by decide +kernel)), mt1_0 (List.mem_of_getElem? (i := 3) (by decide +kernel)), mt3_0 (List.mem_of_getElem? (i := 26) (by decide +kernel))⟩, by decide +kernel⟩
theorem mvX0_nearest : Mv yX0_nearest RX0 cX0_nearest 7 (some .int) 2 := ⟨⟨mt3_0 (List.mem_of_getElem? (i := 20) (by decide +kernel)), mt3_0 (List.mem_of_getElem? (i := 21) (by decide +kernel)), mt1_0 (List.mem_of_getElem? (i := 3) (by decide +kernel)), mt3_0 (List.mem_of_getElem? (i := 22) (by decide +kernel))⟩, by decide +kernel⟩
theorem mvX0_greatestOff : Mv yX0_greatestOff RX0 cX0_greatestOff 5 (some .int) 0 := ⟨⟨mt3_1 (List.mem_of_getElem? (i := 38) (by decide +kernel)), mt3_1 (List.mem_of_getElem? (i := 39) (by decide +kernel)), mt1_0 (List.mem_of_getElem? (i := 3) (by decide +kernel)), mt3_2 (List.mem_of_getElem? (i := 0) (by decide +kernel))⟩, by decide +kernel⟩
theorem mvX0_exactPlaces : Mv yX0_exactPlaces RX0 cX0_exactPlaces 5 (some .int) 0 := ⟨⟨mt3_1 (List.mem_of_getElem? (i := 29) (by decide +kernel)), mt3_1 (List.mem_of_getElem? (i := 30) (by decide +kernel)), mt1_0 (List.mem_of_getElem? (i := 3) (by decide +kernel)), mt3_1 (List.mem_of_getElem? (i := 31) (by decide +kernel))⟩, by decide +kernel⟩
theorem mvX0_floorAt : Mv yX0_floorAt RX0 cX0_floorAt 5 (some .int) 2 := ⟨⟨mt3_2 (List.mem_of_getElem? (i := 6) (by decide +kernel)), mt3_2 (List.mem_of_getElem? (i := 7) (by decide +kernel)), mt1_0 (List.mem_of_getElem? (i := 3) (by decide +kernel)), mt3_2 (List.mem_of_getElem? (i := 8) (by decide +kernel))⟩, by decide +kernel⟩
theorem mvX0_ceilingAt : Mv yX0_ceilingAt RX0 cX0_ceilingAt 4 (some .int) 2 := ⟨⟨mt3_2 (List.mem_of_getElem? (i := 10) (by decide +kernel)), mt3_2 (List.mem_of_getElem? (i := 11) (by decide +kernel)), mt1_0 (List.mem_of_getElem? (i := 3) (by decide +kernel)), mt3_2 (List.mem_of_getElem? (i := 12) (by decide +kernel))⟩, by decide +kernel⟩
theorem mvX0_doubts : Mv yX0_doubts RX0 cX0_doubts 9 (some .int) 1 := ⟨⟨mt3_2 (List.mem_of_getElem? (i := 18) (by decide +kernel)), mt3_2 (List.mem_of_getElem? (i := 19) (by decide +kernel)), mt1_0 (List.mem_of_getElem? (i := 3) (by decide +kernel)), mt3_2 (List.mem_of_getElem? (i := 20) (by decide +kernel))⟩, by decide +kernel⟩
theorem mvX0_sumOfPlaces : Mv yX0_sumOfPlaces RX0 cX0_sumOfPlaces 6 (some .int) 1 := ⟨⟨mt3_2 (List.mem_of_getElem? (i := 28) (by decide +kernel)), mt3_2 (List.mem_of_getElem? (i := 29) (by decide +kernel)), mt1_0 (List.mem_of_getElem? (i := 3) (by decide +kernel)), mt3_2 (List.mem_of_getElem? (i := 30) (by decide +kernel))⟩, by decide +kernel⟩
theorem mvX0_heavyValue : Mv yX0_heavyValue RX0 cX0_heavyValue 7 (some .int) 2 := ⟨⟨mt3_4 (List.mem_of_getElem? (i := 35) (by decide +kernel)), mt3_4 (List.mem_of_getElem? (i := 36) (by decide +kernel)), mt1_0 (List.mem_of_getElem? (i := 3) (by decide +kernel)), mt3_4 (List.mem_of_getElem? (i := 37) (by decide +kernel))⟩, by decide +kernel⟩
theorem mvX1_begin : Mv yX1_begin RX1 cX1_begin 2 none 1 := ⟨⟨mt2_2 (List.mem_of_getElem? (i := 11) (by decide +kernel)), mt2_2 (List.mem_of_getElem? (i := 12) (by decide +kernel)), mt1_0 (List.mem_of_getElem? (i := 10) (by decide +kernel)), mt2_2 (List.mem_of_getElem? (i := 13) (by decide +kernel))⟩, by decide +kernel⟩
theorem mvX1_dropValues : Mv yX1_dropValues RX1 cX1_dropValues 1 none 0 := ⟨⟨mt2_2 (List.mem_of_getElem? (i := 15) (by decide +kernel)), mt2_2 (List.mem_of_getElem? (i := 16) (by decide +kernel)), mt1_0 (List.mem_of_getElem? (i := 10) (by decide +kernel)), mt2_2 (List.mem_of_getElem? (i := 17) (by decide +kernel))⟩, by decide +kernel⟩
theorem mvX1_pushValue : Mv yX1_pushValue RX1 cX1_pushValue 3 none 2 := ⟨⟨mt2_2 (List.mem_of_getElem? (i := 26) (by decide +kernel)), mt2_2 (List.mem_of_getElem? (i := 27) (by decide +kernel)), mt1_0 (List.mem_of_getElem? (i := 10) (by decide +kernel)), mt2_2 (List.mem_of_getElem? (i := 28) (by decide +kernel))⟩, by decide +kernel⟩
theorem mvX1_isDue : Mv yX1_isDue RX1 cX1_isDue 1 (some .boolean) 0 := ⟨⟨mt2_3 (List.mem_of_getElem? (i := 16) (by decide +kernel)), mt2_3 (List.mem_of_getElem? (i := 17) (by decide +kernel)), mt1_0 (List.mem_of_getElem? (i := 10) (by decide +kernel)), mt2_3 (List.mem_of_getElem? (i := 18) (by decide +kernel))⟩, by decide +kernel⟩
theorem mvX1_shortenRow : Mv yX1_shortenRow RX1 cX1_shortenRow 2 (some .int) 1 := ⟨⟨mt2_3 (List.mem_of_getElem? (i := 20) (by decide +kernel)), mt2_3 (List.mem_of_getElem? (i := 21) (by decide +kernel)), mt1_0 (List.mem_of_getElem? (i := 10) (by decide +kernel)), mt2_3 (List.mem_of_getElem? (i := 22) (by decide +kernel))⟩, by decide +kernel⟩
theorem mvX1_addCounts : Mv yX1_addCounts RX1 cX1_addCounts 3 none 1 := ⟨⟨mt4_1 (List.mem_of_getElem? (i := 17) (by decide +kernel)), mt4_1 (List.mem_of_getElem? (i := 18) (by decide +kernel)), mt1_0 (List.mem_of_getElem? (i := 10) (by decide +kernel)), mt4_1 (List.mem_of_getElem? (i := 19) (by decide +kernel))⟩, by decide +kernel⟩
theorem mvX1_unlikeValues : Mv yX1_unlikeValues RX1 cX1_unlikeValues 3 (some .int) 0 := ⟨⟨mt2_5 (List.mem_of_getElem? (i := 7) (by decide +kernel)), mt2_5 (List.mem_of_getElem? (i := 8) (by decide +kernel)), mt1_0 (List.mem_of_getElem? (i := 10) (by decide +kernel)), mt2_5 (List.mem_of_getElem? (i := 9) (by decide +kernel))⟩, by decide +kernel⟩
theorem mvX1_sumOfValues : Mv yX1_sumOfValues RX1 cX1_sumOfValues 3 (some .int) 0 := ⟨⟨mt3_3 (List.mem_of_getElem? (i := 31) (by decide +kernel)), mt3_3 (List.mem_of_getElem? (i := 32) (by decide +kernel)), mt1_0 (List.mem_of_getElem? (i := 10) (by decide +kernel)), mt3_3 (List.mem_of_getElem? (i := 33) (by decide +kernel))⟩, by decide +kernel⟩
theorem mvX1_valueAt : Mv yX1_valueAt RX1 cX1_valueAt 4 (some .int) 1 := ⟨⟨mt3_3 (List.mem_of_getElem? (i := 39) (by decide +kernel)), mt3_4 (List.mem_of_getElem? (i := 0) (by decide +kernel)), mt1_0 (List.mem_of_getElem? (i := 10) (by decide +kernel)), mt3_4 (List.mem_of_getElem? (i := 1) (by decide +kernel))⟩, by decide +kernel⟩
theorem mvX1_quotaPlace : Mv yX1_quotaPlace RX1 cX1_quotaPlace 3 (some .int) 2 := ⟨⟨mt3_0 (List.mem_of_getElem? (i := 37) (by decide +kernel)), mt3_0 (List.mem_of_getElem? (i := 38) (by decide +kernel)), mt1_0 (List.mem_of_getElem? (i := 10) (by decide +kernel)), mt3_0 (List.mem_of_getElem? (i := 39) (by decide +kernel))⟩, by decide +kernel⟩
theorem mvX1_missAt : Mv yX1_missAt RX1 cX1_missAt 3 (some .int) 1 := ⟨⟨mt3_4 (List.mem_of_getElem? (i := 11) (by decide +kernel)), mt3_4 (List.mem_of_getElem? (i := 12) (by decide +kernel)), mt1_0 (List.mem_of_getElem? (i := 10) (by decide +kernel)), mt3_4 (List.mem_of_getElem? (i := 13) (by decide +kernel))⟩, by decide +kernel⟩
theorem mvX1_greatestMiss : Mv yX1_greatestMiss RX1 cX1_greatestMiss 6 (some .int) 0 := ⟨⟨mt3_4 (List.mem_of_getElem? (i := 27) (by decide +kernel)), mt3_4 (List.mem_of_getElem? (i := 28) (by decide +kernel)), mt1_0 (List.mem_of_getElem? (i := 10) (by decide +kernel)), mt3_4 (List.mem_of_getElem? (i := 29) (by decide +kernel))⟩, by decide +kernel⟩
theorem mvX1_valuesBetween : Mv yX1_valuesBetween RX1 cX1_valuesBetween 5 (some .int) 2 := ⟨⟨mt3_4 (List.mem_of_getElem? (i := 16) (by decide +kernel)), mp2 (List.mem_of_getElem? (i := 8) (by decide +kernel)), mt1_0 (List.mem_of_getElem? (i := 10) (by decide +kernel)), mt3_4 (List.mem_of_getElem? (i := 17) (by decide +kernel))⟩, by decide +kernel⟩
theorem mvX1_missOf : Mv yX1_missOf RX1 cX1_missOf 6 (some .int) 3 := ⟨⟨mt3_4 (List.mem_of_getElem? (i := 20) (by decide +kernel)), mp2 (List.mem_of_getElem? (i := 9) (by decide +kernel)), mt1_0 (List.mem_of_getElem? (i := 10) (by decide +kernel)), mt3_4 (List.mem_of_getElem? (i := 21) (by decide +kernel))⟩, by decide +kernel⟩
theorem mvX1_unevenness : Mv yX1_unevenness RX1 cX1_unevenness 7 (some .int) 1 := ⟨⟨mt3_3 (List.mem_of_getElem? (i := 8) (by decide +kernel)), mt3_3 (List.mem_of_getElem? (i := 9) (by decide +kernel)), mt1_0 (List.mem_of_getElem? (i := 10) (by decide +kernel)), mt3_3 (List.mem_of_getElem? (i := 10) (by decide +kernel))⟩, by decide +kernel⟩
theorem mvX2_putBytes : Mv yX2_putBytes RX2 cX2_putBytes 3 none 1 := ⟨⟨mt1_3 (List.mem_of_getElem? (i := 36) (by decide +kernel)), mt1_3 (List.mem_of_getElem? (i := 37) (by decide +kernel)), mt1_0 (List.mem_of_getElem? (i := 2) (by decide +kernel)), mt1_3 (List.mem_of_getElem? (i := 38) (by decide +kernel))⟩, by decide +kernel⟩
theorem mvX2_readText : Mv yX2_readText RX2 cX2_readText 4 none 1 := ⟨⟨mt1_4 (List.mem_of_getElem? (i := 8) (by decide +kernel)), mt1_4 (List.mem_of_getElem? (i := 9) (by decide +kernel)), mt1_0 (List.mem_of_getElem? (i := 2) (by decide +kernel)), mt1_4 (List.mem_of_getElem? (i := 10) (by decide +kernel))⟩, by decide +kernel⟩
theorem mvX2_readParting : Mv yX2_readParting RX2 cX2_readParting 1 (some .boolean) 0 := ⟨⟨mt2_1 (List.mem_of_getElem? (i := 11) (by decide +kernel)), mp1 (List.mem_of_getElem? (i := 15) (by decide +kernel)), mt1_0 (List.mem_of_getElem? (i := 2) (by decide +kernel)), mt2_1 (List.mem_of_getElem? (i := 12) (by decide +kernel))⟩, by decide +kernel⟩
theorem mvX2_readLine : Mv yX2_readLine RX2 cX2_readLine 1 (some .boolean) 0 := ⟨⟨mt1_4 (List.mem_of_getElem? (i := 34) (by decide +kernel)), mp1 (List.mem_of_getElem? (i := 4) (by decide +kernel)), mt1_0 (List.mem_of_getElem? (i := 2) (by decide +kernel)), mt1_4 (List.mem_of_getElem? (i := 35) (by decide +kernel))⟩, by decide +kernel⟩
theorem mvX2_readRanks : Mv yX2_readRanks RX2 cX2_readRanks 1 (some .boolean) 0 := ⟨⟨mt2_0 (List.mem_of_getElem? (i := 11) (by decide +kernel)), mp1 (List.mem_of_getElem? (i := 6) (by decide +kernel)), mt1_0 (List.mem_of_getElem? (i := 2) (by decide +kernel)), mt2_0 (List.mem_of_getElem? (i := 12) (by decide +kernel))⟩, by decide +kernel⟩
theorem mvX2_readStream : Mv yX2_readStream RX2 cX2_readStream 1 (some .boolean) 0 := ⟨⟨mt2_0 (List.mem_of_getElem? (i := 29) (by decide +kernel)), mp1 (List.mem_of_getElem? (i := 10) (by decide +kernel)), mt1_0 (List.mem_of_getElem? (i := 2) (by decide +kernel)), mt2_0 (List.mem_of_getElem? (i := 30) (by decide +kernel))⟩, by decide +kernel⟩
theorem mvX2_readPush : Mv yX2_readPush RX2 cX2_readPush 3 (some .boolean) 0 := ⟨⟨mt2_1 (List.mem_of_getElem? (i := 3) (by decide +kernel)), mp1 (List.mem_of_getElem? (i := 13) (by decide +kernel)), mt1_0 (List.mem_of_getElem? (i := 2) (by decide +kernel)), mt2_1 (List.mem_of_getElem? (i := 4) (by decide +kernel))⟩, by decide +kernel⟩
theorem mvX2_keepPush : Mv yX2_keepPush RX2 cX2_keepPush 3 none 2 := ⟨⟨mt2_1 (List.mem_of_getElem? (i := 7) (by decide +kernel)), mp1 (List.mem_of_getElem? (i := 14) (by decide +kernel)), mt1_0 (List.mem_of_getElem? (i := 2) (by decide +kernel)), mt2_1 (List.mem_of_getElem? (i := 8) (by decide +kernel))⟩, by decide +kernel⟩
theorem mvX2_wantsWord : Mv yX2_wantsWord RX2 cX2_wantsWord 2 (some .boolean) 1 := ⟨⟨mt2_0 (List.mem_of_getElem? (i := 20) (by decide +kernel)), mp1 (List.mem_of_getElem? (i := 8) (by decide +kernel)), mt1_0 (List.mem_of_getElem? (i := 2) (by decide +kernel)), mt2_0 (List.mem_of_getElem? (i := 21) (by decide +kernel))⟩, by decide +kernel⟩
theorem mvX2_wantsWhole : Mv yX2_wantsWhole RX2 cX2_wantsWhole 3 (some .boolean) 2 := ⟨⟨mt2_0 (List.mem_of_getElem? (i := 24) (by decide +kernel)), mp1 (List.mem_of_getElem? (i := 9) (by decide +kernel)), mt1_0 (List.mem_of_getElem? (i := 2) (by decide +kernel)), mt2_0 (List.mem_of_getElem? (i := 25) (by decide +kernel))⟩, by decide +kernel⟩
theorem mvX2_isWord : Mv yX2_isWord RX2 cX2_isWord 3 (some .boolean) 1 := ⟨⟨mt1_4 (List.mem_of_getElem? (i := 39) (by decide +kernel)), mp1 (List.mem_of_getElem? (i := 5) (by decide +kernel)), mt1_0 (List.mem_of_getElem? (i := 2) (by decide +kernel)), mt1_5 (List.mem_of_getElem? (i := 0) (by decide +kernel))⟩, by decide +kernel⟩
theorem mvX2_isName : Mv yX2_isName RX2 cX2_isName 1 (some .boolean) 0 := ⟨⟨mt2_0 (List.mem_of_getElem? (i := 33) (by decide +kernel)), mp1 (List.mem_of_getElem? (i := 11) (by decide +kernel)), mt1_0 (List.mem_of_getElem? (i := 2) (by decide +kernel)), mt2_0 (List.mem_of_getElem? (i := 34) (by decide +kernel))⟩, by decide +kernel⟩
theorem mvX2_streamNamed : Mv yX2_streamNamed RX2 cX2_streamNamed 3 (some .int) 1 := ⟨⟨mt2_0 (List.mem_of_getElem? (i := 38) (by decide +kernel)), mp1 (List.mem_of_getElem? (i := 12) (by decide +kernel)), mt1_0 (List.mem_of_getElem? (i := 2) (by decide +kernel)), mt2_0 (List.mem_of_getElem? (i := 39) (by decide +kernel))⟩, by decide +kernel⟩
theorem mvX2_fail : Mv yX2_fail RX2 cX2_fail 2 (some .boolean) 1 := ⟨⟨mt2_0 (List.mem_of_getElem? (i := 15) (by decide +kernel)), mp1 (List.mem_of_getElem? (i := 7) (by decide +kernel)), mt1_0 (List.mem_of_getElem? (i := 2) (by decide +kernel)), mt2_0 (List.mem_of_getElem? (i := 16) (by decide +kernel))⟩, by decide +kernel⟩
theorem mvX2_step : Mv yX2_step RX2 cX2_step 1 none 0 := ⟨⟨mt1_4 (List.mem_of_getElem? (i := 16) (by decide +kernel)), mp1 (List.mem_of_getElem? (i := 1) (by decide +kernel)), mt1_0 (List.mem_of_getElem? (i := 2) (by decide +kernel)), mt1_4 (List.mem_of_getElem? (i := 17) (by decide +kernel))⟩, by decide +kernel⟩
theorem mvX2_stepOverWord : Mv yX2_stepOverWord RX2 cX2_stepOverWord 1 none 0 := ⟨⟨mt1_4 (List.mem_of_getElem? (i := 23) (by decide +kernel)), mp1 (List.mem_of_getElem? (i := 2) (by decide +kernel)), mt1_0 (List.mem_of_getElem? (i := 2) (by decide +kernel)), mt1_4 (List.mem_of_getElem? (i := 24) (by decide +kernel))⟩, by decide +kernel⟩
theorem mvX2_stepOverWhole : Mv yX2_stepOverWhole RX2 cX2_stepOverWhole 1 none 0 := ⟨⟨mt1_4 (List.mem_of_getElem? (i := 30) (by decide +kernel)), mp1 (List.mem_of_getElem? (i := 3) (by decide +kernel)), mt1_0 (List.mem_of_getElem? (i := 2) (by decide +kernel)), mt1_4 (List.mem_of_getElem? (i := 31) (by decide +kernel))⟩, by decide +kernel⟩
theorem msX2_isLetter : Ms yX2_isLetter cX2_isLetter 1 (some .boolean) 1 := ⟨⟨mt1_4 (List.mem_of_getElem? (i := 19) (by decide +kernel)), mt1_0 (List.mem_of_getElem? (i := 2) (by decide +kernel)), mt1_4 (List.mem_of_getElem? (i := 20) (by decide +kernel))⟩, by decide +kernel⟩
theorem msX2_isDigit : Ms yX2_isDigit cX2_isDigit 1 (some .boolean) 1 := ⟨⟨mt1_4 (List.mem_of_getElem? (i := 26) (by decide +kernel)), mt1_0 (List.mem_of_getElem? (i := 2) (by decide +kernel)), mt1_4 (List.mem_of_getElem? (i := 27) (by decide +kernel))⟩, by decide +kernel⟩
theorem mvX3_feed : Mv yX3_feed RX3 cX3_feed 6 (some .int) 5 := ⟨⟨mt1_3 (List.mem_of_getElem? (i := 32) (by decide +kernel)), mt1_3 (List.mem_of_getElem? (i := 33) (by decide +kernel)), mt1_0 (List.mem_of_getElem? (i := 1) (by decide +kernel)), mt1_3 (List.mem_of_getElem? (i := 34) (by decide +kernel))⟩, by decide +kernel⟩
theorem mvX3_ranks : Mv yX3_ranks RX3 cX3_ranks 2 (some .int) 1 := ⟨⟨mt1_4 (List.mem_of_getElem? (i := 0) (by decide +kernel)), mt1_4 (List.mem_of_getElem? (i := 1) (by decide +kernel)), mt1_0 (List.mem_of_getElem? (i := 1) (by decide +kernel)), mt1_4 (List.mem_of_getElem? (i := 2) (by decide +kernel))⟩, by decide +kernel⟩
theorem mvX3_fault : Mv yX3_fault RX3 cX3_fault 1 (some .int) 0 := ⟨⟨mt2_4 (List.mem_of_getElem? (i := 21) (by decide +kernel)), mt2_4 (List.mem_of_getElem? (i := 22) (by decide +kernel)), mt1_0 (List.mem_of_getElem? (i := 1) (by decide +kernel)), mt2_4 (List.mem_of_getElem? (i := 23) (by decide +kernel))⟩, by decide +kernel⟩
theorem mvX3_where : Mv yX3_where RX3 cX3_where 1 (some .int) 0 := ⟨⟨mt2_4 (List.mem_of_getElem? (i := 25) (by decide +kernel)), mt2_4 (List.mem_of_getElem? (i := 26) (by decide +kernel)), mt1_0 (List.mem_of_getElem? (i := 1) (by decide +kernel)), mt2_4 (List.mem_of_getElem? (i := 27) (by decide +kernel))⟩, by decide +kernel⟩
theorem mvX3_about : Mv yX3_about RX3 cX3_about 2 (some .int) 1 := ⟨⟨mt2_4 (List.mem_of_getElem? (i := 29) (by decide +kernel)), mt2_4 (List.mem_of_getElem? (i := 30) (by decide +kernel)), mt1_0 (List.mem_of_getElem? (i := 1) (by decide +kernel)), mt2_4 (List.mem_of_getElem? (i := 31) (by decide +kernel))⟩, by decide +kernel⟩
theorem mvX3_stream : Mv yX3_stream RX3 cX3_stream 4 (some .int) 2 := ⟨⟨mt2_4 (List.mem_of_getElem? (i := 37) (by decide +kernel)), mt2_4 (List.mem_of_getElem? (i := 38) (by decide +kernel)), mt1_0 (List.mem_of_getElem? (i := 1) (by decide +kernel)), mt2_4 (List.mem_of_getElem? (i := 39) (by decide +kernel))⟩, by decide +kernel⟩
theorem mvX3_tuple : Mv yX3_tuple RX3 cX3_tuple 6 (some .int) 3 := ⟨⟨mt2_5 (List.mem_of_getElem? (i := 11) (by decide +kernel)), mt2_5 (List.mem_of_getElem? (i := 12) (by decide +kernel)), mt1_0 (List.mem_of_getElem? (i := 1) (by decide +kernel)), mt2_5 (List.mem_of_getElem? (i := 13) (by decide +kernel))⟩, by decide +kernel⟩
theorem mvX3_goes : Mv yX3_goes RX3 cX3_goes 6 (some .int) 2 := ⟨⟨mt2_5 (List.mem_of_getElem? (i := 26) (by decide +kernel)), mt2_5 (List.mem_of_getElem? (i := 27) (by decide +kernel)), mt1_0 (List.mem_of_getElem? (i := 1) (by decide +kernel)), mt2_5 (List.mem_of_getElem? (i := 28) (by decide +kernel))⟩, by decide +kernel⟩
theorem mvX3_band : Mv yX3_band RX3 cX3_band 3 (some .int) 2 := ⟨⟨mt2_5 (List.mem_of_getElem? (i := 31) (by decide +kernel)), mt2_5 (List.mem_of_getElem? (i := 32) (by decide +kernel)), mt1_0 (List.mem_of_getElem? (i := 1) (by decide +kernel)), mt2_5 (List.mem_of_getElem? (i := 33) (by decide +kernel))⟩, by decide +kernel⟩
theorem mvX3_check : Mv yX3_check RX3 cX3_check 3 (some .int) 1 := ⟨⟨mt2_5 (List.mem_of_getElem? (i := 35) (by decide +kernel)), mt2_5 (List.mem_of_getElem? (i := 36) (by decide +kernel)), mt1_0 (List.mem_of_getElem? (i := 1) (by decide +kernel)), mt2_5 (List.mem_of_getElem? (i := 37) (by decide +kernel))⟩, by decide +kernel⟩
theorem mvX3_answer : Mv yX3_answer RX3 cX3_answer 6 (some .int) 3 := ⟨⟨mt3_0 (List.mem_of_getElem? (i := 13) (by decide +kernel)), mt3_0 (List.mem_of_getElem? (i := 14) (by decide +kernel)), mt1_0 (List.mem_of_getElem? (i := 1) (by decide +kernel)), mt3_0 (List.mem_of_getElem? (i := 15) (by decide +kernel))⟩, by decide +kernel⟩
theorem mvX3_quota : Mv yX3_quota RX3 cX3_quota 8 (some .int) 4 := ⟨⟨mt3_0 (List.mem_of_getElem? (i := 30) (by decide +kernel)), mt3_0 (List.mem_of_getElem? (i := 31) (by decide +kernel)), mt1_0 (List.mem_of_getElem? (i := 1) (by decide +kernel)), mt3_0 (List.mem_of_getElem? (i := 32) (by decide +kernel))⟩, by decide +kernel⟩
theorem mvX3_rank : Mv yX3_rank RX3 cX3_rank 5 (some .int) 3 := ⟨⟨mt3_1 (List.mem_of_getElem? (i := 2) (by decide +kernel)), mt3_1 (List.mem_of_getElem? (i := 3) (by decide +kernel)), mt1_0 (List.mem_of_getElem? (i := 1) (by decide +kernel)), mt3_1 (List.mem_of_getElem? (i := 4) (by decide +kernel))⟩, by decide +kernel⟩
theorem mvX3_between : Mv yX3_between RX3 cX3_between 6 (some .int) 4 := ⟨⟨mt3_1 (List.mem_of_getElem? (i := 15) (by decide +kernel)), mt3_1 (List.mem_of_getElem? (i := 16) (by decide +kernel)), mt1_0 (List.mem_of_getElem? (i := 1) (by decide +kernel)), mt3_1 (List.mem_of_getElem? (i := 17) (by decide +kernel))⟩, by decide +kernel⟩
theorem mvX3_exact : Mv yX3_exact RX3 cX3_exact 3 (some .int) 1 := ⟨⟨mt3_1 (List.mem_of_getElem? (i := 25) (by decide +kernel)), mt3_1 (List.mem_of_getElem? (i := 26) (by decide +kernel)), mt1_0 (List.mem_of_getElem? (i := 1) (by decide +kernel)), mt3_1 (List.mem_of_getElem? (i := 27) (by decide +kernel))⟩, by decide +kernel⟩
theorem mvX3_worst : Mv yX3_worst RX3 cX3_worst 3 (some .int) 1 := ⟨⟨mt3_1 (List.mem_of_getElem? (i := 34) (by decide +kernel)), mt3_1 (List.mem_of_getElem? (i := 35) (by decide +kernel)), mt1_0 (List.mem_of_getElem? (i := 1) (by decide +kernel)), mt3_1 (List.mem_of_getElem? (i := 36) (by decide +kernel))⟩, by decide +kernel⟩
theorem mvX3_bounds : Mv yX3_bounds RX3 cX3_bounds 6 (some .int) 3 := ⟨⟨mt3_2 (List.mem_of_getElem? (i := 2) (by decide +kernel)), mt3_2 (List.mem_of_getElem? (i := 3) (by decide +kernel)), mt1_0 (List.mem_of_getElem? (i := 1) (by decide +kernel)), mt3_2 (List.mem_of_getElem? (i := 4) (by decide +kernel))⟩, by decide +kernel⟩
theorem mvX3_unsure : Mv yX3_unsure RX3 cX3_unsure 4 (some .int) 2 := ⟨⟨mt3_2 (List.mem_of_getElem? (i := 14) (by decide +kernel)), mt3_2 (List.mem_of_getElem? (i := 15) (by decide +kernel)), mt1_0 (List.mem_of_getElem? (i := 1) (by decide +kernel)), mt3_2 (List.mem_of_getElem? (i := 16) (by decide +kernel))⟩, by decide +kernel⟩
theorem mvX3_total : Mv yX3_total RX3 cX3_total 4 (some .int) 2 := ⟨⟨mt3_2 (List.mem_of_getElem? (i := 24) (by decide +kernel)), mt3_2 (List.mem_of_getElem? (i := 25) (by decide +kernel)), mt1_0 (List.mem_of_getElem? (i := 1) (by decide +kernel)), mt3_2 (List.mem_of_getElem? (i := 26) (by decide +kernel))⟩, by decide +kernel⟩
theorem mvX3_bands : Mv yX3_bands RX3 cX3_bands 4 (some .int) 2 := ⟨⟨mt3_2 (List.mem_of_getElem? (i := 32) (by decide +kernel)), mt3_2 (List.mem_of_getElem? (i := 33) (by decide +kernel)), mt1_0 (List.mem_of_getElem? (i := 1) (by decide +kernel)), mt3_2 (List.mem_of_getElem? (i := 34) (by decide +kernel))⟩, by decide +kernel⟩
theorem mvX3_bar : Mv yX3_bar RX3 cX3_bar 8 (some .int) 4 := ⟨⟨mt3_3 (List.mem_of_getElem? (i := 0) (by decide +kernel)), mt3_3 (List.mem_of_getElem? (i := 1) (by decide +kernel)), mt1_0 (List.mem_of_getElem? (i := 1) (by decide +kernel)), mt3_3 (List.mem_of_getElem? (i := 2) (by decide +kernel))⟩, by decide +kernel⟩
theorem mvX3_uneven : Mv yX3_uneven RX3 cX3_uneven 4 (some .int) 2 := ⟨⟨mt3_3 (List.mem_of_getElem? (i := 4) (by decide +kernel)), mt3_3 (List.mem_of_getElem? (i := 5) (by decide +kernel)), mt1_0 (List.mem_of_getElem? (i := 1) (by decide +kernel)), mt3_3 (List.mem_of_getElem? (i := 6) (by decide +kernel))⟩, by decide +kernel⟩
theorem mvX3_meets : Mv yX3_meets RX3 cX3_meets 7 (some .int) 4 := ⟨⟨mt3_3 (List.mem_of_getElem? (i := 16) (by decide +kernel)), mt3_3 (List.mem_of_getElem? (i := 17) (by decide +kernel)), mt1_0 (List.mem_of_getElem? (i := 1) (by decide +kernel)), mt3_3 (List.mem_of_getElem? (i := 18) (by decide +kernel))⟩, by decide +kernel⟩
theorem mvX3_sum : Mv yX3_sum RX3 cX3_sum 3 (some .int) 1 := ⟨⟨mt3_3 (List.mem_of_getElem? (i := 27) (by decide +kernel)), mt3_3 (List.mem_of_getElem? (i := 28) (by decide +kernel)), mt1_0 (List.mem_of_getElem? (i := 1) (by decide +kernel)), mt3_3 (List.mem_of_getElem? (i := 29) (by decide +kernel))⟩, by decide +kernel⟩
theorem mvX3_sorted : Mv yX3_sorted RX3 cX3_sorted 4 (some .int) 2 := ⟨⟨mt3_3 (List.mem_of_getElem? (i := 35) (by decide +kernel)), mt3_3 (List.mem_of_getElem? (i := 36) (by decide +kernel)), mt1_0 (List.mem_of_getElem? (i := 1) (by decide +kernel)), mt3_3 (List.mem_of_getElem? (i := 37) (by decide +kernel))⟩, by decide +kernel⟩
theorem mvX3_times : Mv yX3_times RX3 cX3_times 4 (some .int) 2 := ⟨⟨mt3_4 (List.mem_of_getElem? (i := 3) (by decide +kernel)), mt3_4 (List.mem_of_getElem? (i := 4) (by decide +kernel)), mt1_0 (List.mem_of_getElem? (i := 1) (by decide +kernel)), mt3_4 (List.mem_of_getElem? (i := 5) (by decide +kernel))⟩, by decide +kernel⟩
theorem mvX3_miss : Mv yX3_miss RX3 cX3_miss 4 (some .int) 2 := ⟨⟨mt3_4 (List.mem_of_getElem? (i := 7) (by decide +kernel)), mt3_4 (List.mem_of_getElem? (i := 8) (by decide +kernel)), mt1_0 (List.mem_of_getElem? (i := 1) (by decide +kernel)), mt3_4 (List.mem_of_getElem? (i := 9) (by decide +kernel))⟩, by decide +kernel⟩
theorem mvX3_missed : Mv yX3_missed RX3 cX3_missed 3 (some .int) 1 := ⟨⟨mt3_4 (List.mem_of_getElem? (i := 23) (by decide +kernel)), mt3_4 (List.mem_of_getElem? (i := 24) (by decide +kernel)), mt1_0 (List.mem_of_getElem? (i := 1) (by decide +kernel)), mt3_4 (List.mem_of_getElem? (i := 25) (by decide +kernel))⟩, by decide +kernel⟩
theorem mvX3_heavy : Mv yX3_heavy RX3 cX3_heavy 5 (some .int) 3 := ⟨⟨mt3_4 (List.mem_of_getElem? (i := 31) (by decide +kernel)), mt3_4 (List.mem_of_getElem? (i := 32) (by decide +kernel)), mt1_0 (List.mem_of_getElem? (i := 1) (by decide +kernel)), mt3_4 (List.mem_of_getElem? (i := 33) (by decide +kernel))⟩, by decide +kernel⟩
theorem mvX3_apart : Mv yX3_apart RX3 cX3_apart 5 (some .int) 2 := ⟨⟨mt3_5 (List.mem_of_getElem? (i := 0) (by decide +kernel)), mt3_5 (List.mem_of_getElem? (i := 1) (by decide +kernel)), mt1_0 (List.mem_of_getElem? (i := 1) (by decide +kernel)), mt3_5 (List.mem_of_getElem? (i := 2) (by decide +kernel))⟩, by decide +kernel⟩
theorem mvX3_would : Mv yX3_would RX3 cX3_would 5 (some .int) 2 := ⟨⟨mt3_5 (List.mem_of_getElem? (i := 11) (by decide +kernel)), mt3_5 (List.mem_of_getElem? (i := 12) (by decide +kernel)), mt1_0 (List.mem_of_getElem? (i := 1) (by decide +kernel)), mt3_5 (List.mem_of_getElem? (i := 13) (by decide +kernel))⟩, by decide +kernel⟩
theorem mvX3_wins : Mv yX3_wins RX3 cX3_wins 6 (some .int) 3 := ⟨⟨mt3_5 (List.mem_of_getElem? (i := 25) (by decide +kernel)), mt3_5 (List.mem_of_getElem? (i := 26) (by decide +kernel)), mt1_0 (List.mem_of_getElem? (i := 1) (by decide +kernel)), mt3_5 (List.mem_of_getElem? (i := 27) (by decide +kernel))⟩, by decide +kernel⟩
theorem mvX3_whole : Mv yX3_whole RX3 cX3_whole 4 (some .int) 1 := ⟨⟨mt3_5 (List.mem_of_getElem? (i := 32) (by decide +kernel)), mt3_5 (List.mem_of_getElem? (i := 33) (by decide +kernel)), mt1_0 (List.mem_of_getElem? (i := 1) (by decide +kernel)), mt3_5 (List.mem_of_getElem? (i := 34) (by decide +kernel))⟩, by decide +kernel⟩
theorem mvX3_overall : Mv yX3_overall RX3 cX3_overall 6 (some .int) 2 := ⟨⟨mt4_0 (List.mem_of_getElem? (i := 8) (by decide +kernel)), mt4_0 (List.mem_of_getElem? (i := 9) (by decide +kernel)), mt1_0 (List.mem_of_getElem? (i := 1) (by decide +kernel)), mt4_0 (List.mem_of_getElem? (i := 10) (by decide +kernel))⟩, by decide +kernel⟩
theorem mvX3_rounds : Mv yX3_rounds RX3 cX3_rounds 3 (some .int) 1 := ⟨⟨mt4_0 (List.mem_of_getElem? (i := 12) (by decide +kernel)), mt4_0 (List.mem_of_getElem? (i := 13) (by decide +kernel)), mt1_0 (List.mem_of_getElem? (i := 1) (by decide +kernel)), mt4_0 (List.mem_of_getElem? (i := 14) (by decide +kernel))⟩, by decide +kernel⟩
theorem mvX3_coarse : Mv yX3_coarse RX3 cX3_coarse 4 (some .int) 2 := ⟨⟨mt4_0 (List.mem_of_getElem? (i := 21) (by decide +kernel)), mt4_0 (List.mem_of_getElem? (i := 22) (by decide +kernel)), mt1_0 (List.mem_of_getElem? (i := 1) (by decide +kernel)), mt4_0 (List.mem_of_getElem? (i := 23) (by decide +kernel))⟩, by decide +kernel⟩
theorem mvX3_spread : Mv yX3_spread RX3 cX3_spread 4 (some .int) 2 := ⟨⟨mt4_0 (List.mem_of_getElem? (i := 25) (by decide +kernel)), mt4_0 (List.mem_of_getElem? (i := 26) (by decide +kernel)), mt1_0 (List.mem_of_getElem? (i := 1) (by decide +kernel)), mt4_0 (List.mem_of_getElem? (i := 27) (by decide +kernel))⟩, by decide +kernel⟩
theorem mvX3_finest : Mv yX3_finest RX3 cX3_finest 5 (some .int) 1 := ⟨⟨mt4_0 (List.mem_of_getElem? (i := 31) (by decide +kernel)), mt4_0 (List.mem_of_getElem? (i := 32) (by decide +kernel)), mt1_0 (List.mem_of_getElem? (i := 1) (by decide +kernel)), mt4_0 (List.mem_of_getElem? (i := 33) (by decide +kernel))⟩, by decide +kernel⟩
theorem mvX3_push : Mv yX3_push RX3 cX3_push 4 (some .int) 2 := ⟨⟨mt4_0 (List.mem_of_getElem? (i := 35) (by decide +kernel)), mt4_0 (List.mem_of_getElem? (i := 36) (by decide +kernel)), mt1_0 (List.mem_of_getElem? (i := 1) (by decide +kernel)), mt4_0 (List.mem_of_getElem? (i := 37) (by decide +kernel))⟩, by decide +kernel⟩
theorem mvX3_draw : Mv yX3_draw RX3 cX3_draw 6 (some .int) 3 := ⟨⟨mt4_0 (List.mem_of_getElem? (i := 39) (by decide +kernel)), mt4_1 (List.mem_of_getElem? (i := 0) (by decide +kernel)), mt1_0 (List.mem_of_getElem? (i := 1) (by decide +kernel)), mt4_1 (List.mem_of_getElem? (i := 1) (by decide +kernel))⟩, by decide +kernel⟩
theorem mvX3_seed : Mv yX3_seed RX3 cX3_seed 2 (some .boolean) 1 := ⟨⟨mt4_1 (List.mem_of_getElem? (i := 4) (by decide +kernel)), mt4_1 (List.mem_of_getElem? (i := 5) (by decide +kernel)), mt1_0 (List.mem_of_getElem? (i := 1) (by decide +kernel)), mt4_1 (List.mem_of_getElem? (i := 6) (by decide +kernel))⟩, by decide +kernel⟩
theorem mvX3_compress : Mv yX3_compress RX3 cX3_compress 3 (some .int) 1 := ⟨⟨mt4_1 (List.mem_of_getElem? (i := 8) (by decide +kernel)), mt4_1 (List.mem_of_getElem? (i := 9) (by decide +kernel)), mt1_0 (List.mem_of_getElem? (i := 1) (by decide +kernel)), mt4_1 (List.mem_of_getElem? (i := 10) (by decide +kernel))⟩, by decide +kernel⟩
theorem mvX3_merge : Mv yX3_merge RX3 cX3_merge 5 (some .int) 2 := ⟨⟨mt4_1 (List.mem_of_getElem? (i := 13) (by decide +kernel)), mt4_1 (List.mem_of_getElem? (i := 14) (by decide +kernel)), mt1_0 (List.mem_of_getElem? (i := 1) (by decide +kernel)), mt4_1 (List.mem_of_getElem? (i := 15) (by decide +kernel))⟩, by decide +kernel⟩
theorem mvX3_clear : Mv yX3_clear RX3 cX3_clear 4 (some .int) 1 := ⟨⟨mt4_1 (List.mem_of_getElem? (i := 22) (by decide +kernel)), mt4_1 (List.mem_of_getElem? (i := 23) (by decide +kernel)), mt1_0 (List.mem_of_getElem? (i := 1) (by decide +kernel)), mt4_1 (List.mem_of_getElem? (i := 24) (by decide +kernel))⟩, by decide +kernel⟩
theorem mvX3_every : Mv yX3_every RX3 cX3_every 4 (some .int) 2 := ⟨⟨mt4_1 (List.mem_of_getElem? (i := 26) (by decide +kernel)), mt4_1 (List.mem_of_getElem? (i := 27) (by decide +kernel)), mt1_0 (List.mem_of_getElem? (i := 1) (by decide +kernel)), mt4_1 (List.mem_of_getElem? (i := 28) (by decide +kernel))⟩, by decide +kernel⟩
theorem mvX3_error : Mv yX3_error RX3 cX3_error 4 (some .int) 1 := ⟨⟨mt4_1 (List.mem_of_getElem? (i := 31) (by decide +kernel)), mt4_1 (List.mem_of_getElem? (i := 32) (by decide +kernel)), mt1_0 (List.mem_of_getElem? (i := 1) (by decide +kernel)), mt4_1 (List.mem_of_getElem? (i := 33) (by decide +kernel))⟩, by decide +kernel⟩
theorem mvX3_idle : Mv yX3_idle RX3 cX3_idle 5 (some .int) 1 := ⟨⟨mt4_2 (List.mem_of_getElem? (i := 7) (by decide +kernel)), mt4_2 (List.mem_of_getElem? (i := 8) (by decide +kernel)), mt1_0 (List.mem_of_getElem? (i := 1) (by decide +kernel)), mt4_2 (List.mem_of_getElem? (i := 9) (by decide +kernel))⟩, by decide +kernel⟩
theorem mvX3_size : Mv yX3_size RX3 cX3_size 1 (some .int) 0 := ⟨⟨mt4_1 (List.mem_of_getElem? (i := 35) (by decide +kernel)), mt4_1 (List.mem_of_getElem? (i := 36) (by decide +kernel)), mt1_0 (List.mem_of_getElem? (i := 1) (by decide +kernel)), mt4_1 (List.mem_of_getElem? (i := 37) (by decide +kernel))⟩, by decide +kernel⟩
theorem mvX3_trouble : Mv yX3_trouble RX3 cX3_trouble 1 (some .int) 0 := ⟨⟨mt4_1 (List.mem_of_getElem? (i := 39) (by decide +kernel)), mt4_2 (List.mem_of_getElem? (i := 0) (by decide +kernel)), mt1_0 (List.mem_of_getElem? (i := 1) (by decide +kernel)), mt4_2 (List.mem_of_getElem? (i := 1) (by decide +kernel))⟩, by decide +kernel⟩
theorem mvX3_refuse : Mv yX3_refuse RX3 cX3_refuse 2 (some .int) 1 := ⟨⟨mt1_4 (List.mem_of_getElem? (i := 5) (by decide +kernel)), mp1 (List.mem_of_getElem? (i := 0) (by decide +kernel)), mt1_0 (List.mem_of_getElem? (i := 1) (by decide +kernel)), mt1_4 (List.mem_of_getElem? (i := 6) (by decide +kernel))⟩, by decide +kernel⟩
theorem mvX3_pass : Mv yX3_pass RX3 cX3_pass 2 (some .int) 1 := ⟨⟨mt2_4 (List.mem_of_getElem? (i := 18) (by decide +kernel)), mp2 (List.mem_of_getElem? (i := 4) (by decide +kernel)), mt1_0 (List.mem_of_getElem? (i := 1) (by decide +kernel)), mt2_4 (List.mem_of_getElem? (i := 19) (by decide +kernel))⟩, by decide +kernel⟩
theorem mvX3_find : Mv yX3_find RX3 cX3_find 2 (some (.object "GapRows$Stream")) 1 := ⟨⟨mt2_2 (List.mem_of_getElem? (i := 23) (by decide +kernel)), mp2 (List.mem_of_getElem? (i := 1) (by decide +kernel)), mt1_0 (List.mem_of_getElem? (i := 1) (by decide +kernel)), mt2_2 (List.mem_of_getElem? (i := 24) (by decide +kernel))⟩, by decide +kernel⟩
theorem mvX3_findOther : Mv yX3_findOther RX3 cX3_findOther 3 (some (.object "GapRows$Stream")) 2 := ⟨⟨mt3_3 (List.mem_of_getElem? (i := 21) (by decide +kernel)), mp2 (List.mem_of_getElem? (i := 7) (by decide +kernel)), mt1_0 (List.mem_of_getElem? (i := 1) (by decide +kernel)), mt3_3 (List.mem_of_getElem? (i := 22) (by decide +kernel))⟩, by decide +kernel⟩
theorem msX3_isValue : Ms yX3_isValue cX3_isValue 1 (some .boolean) 1 := ⟨⟨mt2_2 (List.mem_of_getElem? (i := 30) (by decide +kernel)), mt1_0 (List.mem_of_getElem? (i := 1) (by decide +kernel)), mt2_2 (List.mem_of_getElem? (i := 31) (by decide +kernel))⟩, by decide +kernel⟩
theorem msX3_isShare : Ms yX3_isShare cX3_isShare 1 (some .boolean) 1 := ⟨⟨mt3_0 (List.mem_of_getElem? (i := 34) (by decide +kernel)), mt1_0 (List.mem_of_getElem? (i := 1) (by decide +kernel)), mt3_0 (List.mem_of_getElem? (i := 35) (by decide +kernel))⟩, by decide +kernel⟩
theorem msX3_isPlace : Ms yX3_isPlace cX3_isPlace 2 (some .boolean) 2 := ⟨⟨mt3_0 (List.mem_of_getElem? (i := 17) (by decide +kernel)), mt1_0 (List.mem_of_getElem? (i := 1) (by decide +kernel)), mt3_0 (List.mem_of_getElem? (i := 18) (by decide +kernel))⟩, by decide +kernel⟩
theorem msX3_boundOf : Ms yX3_boundOf cX3_boundOf 2 (some .int) 2 := ⟨⟨mt2_3 (List.mem_of_getElem? (i := 24) (by decide +kernel)), mt1_0 (List.mem_of_getElem? (i := 1) (by decide +kernel)), mt2_3 (List.mem_of_getElem? (i := 25) (by decide +kernel))⟩, by decide +kernel⟩
theorem msX3_bandOf : Ms yX3_bandOf cX3_bandOf 3 (some .int) 2 := ⟨⟨mt2_3 (List.mem_of_getElem? (i := 38) (by decide +kernel)), mt1_0 (List.mem_of_getElem? (i := 1) (by decide +kernel)), mt2_3 (List.mem_of_getElem? (i := 39) (by decide +kernel))⟩, by decide +kernel⟩
theorem mvX3_takeText : Mv yX3_takeText RX3 cX3_takeText 3 none 0 := ⟨⟨mt2_1 (List.mem_of_getElem? (i := 15) (by decide +kernel)), mp2 (List.mem_of_getElem? (i := 0) (by decide +kernel)), mt1_0 (List.mem_of_getElem? (i := 1) (by decide +kernel)), mt2_1 (List.mem_of_getElem? (i := 16) (by decide +kernel))⟩, by decide +kernel⟩
theorem mvX3_sumOfAll : Mv yX3_sumOfAll RX3 cX3_sumOfAll 5 (some .int) 1 := ⟨⟨mt2_4 (List.mem_of_getElem? (i := 34) (by decide +kernel)), mp2 (List.mem_of_getElem? (i := 5) (by decide +kernel)), mt1_0 (List.mem_of_getElem? (i := 1) (by decide +kernel)), mt2_4 (List.mem_of_getElem? (i := 35) (by decide +kernel))⟩, by decide +kernel⟩
theorem msX3_countMeets : Ms yX3_countMeets cX3_countMeets 11 (some .int) 4 := ⟨⟨mt3_3 (List.mem_of_getElem? (i := 24) (by decide +kernel)), mt1_0 (List.mem_of_getElem? (i := 1) (by decide +kernel)), mt3_3 (List.mem_of_getElem? (i := 25) (by decide +kernel))⟩, by decide +kernel⟩
theorem msX3_apartOver : Ms yX3_apartOver cX3_apartOver 6 (some .int) 3 := ⟨⟨mt3_5 (List.mem_of_getElem? (i := 4) (by decide +kernel)), mt1_0 (List.mem_of_getElem? (i := 1) (by decide +kernel)), mt3_5 (List.mem_of_getElem? (i := 5) (by decide +kernel))⟩, by decide +kernel⟩
theorem msX3_hundredthsApart : Ms yX3_hundredthsApart cX3_hundredthsApart 5 (some .int) 3 := ⟨⟨mt3_5 (List.mem_of_getElem? (i := 7) (by decide +kernel)), mt1_0 (List.mem_of_getElem? (i := 1) (by decide +kernel)), mt3_5 (List.mem_of_getElem? (i := 8) (by decide +kernel))⟩, by decide +kernel⟩
theorem msX3_countWins : Ms yX3_countWins cX3_countWins 9 (some .int) 3 := ⟨⟨mt3_5 (List.mem_of_getElem? (i := 29) (by decide +kernel)), mt1_0 (List.mem_of_getElem? (i := 1) (by decide +kernel)), mt3_5 (List.mem_of_getElem? (i := 30) (by decide +kernel))⟩, by decide +kernel⟩
theorem mvX3_wholeTrouble : Mv yX3_wholeTrouble RX3 cX3_wholeTrouble 2 (some .int) 0 := ⟨⟨mt3_5 (List.mem_of_getElem? (i := 37) (by decide +kernel)), mp2 (List.mem_of_getElem? (i := 11) (by decide +kernel)), mt1_0 (List.mem_of_getElem? (i := 1) (by decide +kernel)), mt3_5 (List.mem_of_getElem? (i := 38) (by decide +kernel))⟩, by decide +kernel⟩
theorem mvX3_makeWhole : Mv yX3_makeWhole RX3 cX3_makeWhole 6 (some (.object "GapRows$Row")) 0 := ⟨⟨mt4_0 (List.mem_of_getElem? (i := 1) (by decide +kernel)), mp2 (List.mem_of_getElem? (i := 12) (by decide +kernel)), mt1_0 (List.mem_of_getElem? (i := 1) (by decide +kernel)), mt4_0 (List.mem_of_getElem? (i := 2) (by decide +kernel))⟩, by decide +kernel⟩
theorem mvX4_thrown : Mv yX4_thrown RX4 cX4_thrown 1 (some .int) 0 := ⟨⟨mt5_0 (List.mem_of_getElem? (i := 20) (by decide +kernel)), mt5_0 (List.mem_of_getElem? (i := 21) (by decide +kernel)), mt1_0 (List.mem_of_getElem? (i := 4) (by decide +kernel)), mt5_0 (List.mem_of_getElem? (i := 22) (by decide +kernel))⟩, by decide +kernel⟩
theorem mvX4_refused : Mv yX4_refused RX4 cX4_refused 2 (some .int) 1 := ⟨⟨mt5_0 (List.mem_of_getElem? (i := 33) (by decide +kernel)), mp2 (List.mem_of_getElem? (i := 14) (by decide +kernel)), mt1_0 (List.mem_of_getElem? (i := 4) (by decide +kernel)), mt5_0 (List.mem_of_getElem? (i := 34) (by decide +kernel))⟩, by decide +kernel⟩
theorem mvX4_good : Mv yX4_good RX4 cX4_good 2 (some .int) 1 := ⟨⟨mt5_4 (List.mem_of_getElem? (i := 17) (by decide +kernel)), mp4 (List.mem_of_getElem? (i := 14) (by decide +kernel)), mt1_0 (List.mem_of_getElem? (i := 4) (by decide +kernel)), mt5_4 (List.mem_of_getElem? (i := 18) (by decide +kernel))⟩, by decide +kernel⟩
theorem msX4_in : Ms yX4_in cX4_in 3 (some .boolean) 3 := ⟨⟨mt5_1 (List.mem_of_getElem? (i := 8) (by decide +kernel)), mt1_0 (List.mem_of_getElem? (i := 4) (by decide +kernel)), mt5_1 (List.mem_of_getElem? (i := 9) (by decide +kernel))⟩, by decide +kernel⟩
theorem mvX4_byteAt : Mv yX4_byteAt RX4 cX4_byteAt 2 (some .int) 1 := ⟨⟨mt5_1 (List.mem_of_getElem? (i := 5) (by decide +kernel)), mp3 (List.mem_of_getElem? (i := 1) (by decide +kernel)), mt1_0 (List.mem_of_getElem? (i := 4) (by decide +kernel)), mt5_1 (List.mem_of_getElem? (i := 6) (by decide +kernel))⟩, by decide +kernel⟩
theorem mvX4_goOn : Mv yX4_goOn RX4 cX4_goOn 2 none 0 := ⟨⟨mt5_1 (List.mem_of_getElem? (i := 1) (by decide +kernel)), mp3 (List.mem_of_getElem? (i := 0) (by decide +kernel)), mt1_0 (List.mem_of_getElem? (i := 4) (by decide +kernel)), mt5_1 (List.mem_of_getElem? (i := 2) (by decide +kernel))⟩, by decide +kernel⟩
theorem mvX4_goWord : Mv yX4_goWord RX4 cX4_goWord 1 none 0 := ⟨⟨mt5_1 (List.mem_of_getElem? (i := 12) (by decide +kernel)), mp3 (List.mem_of_getElem? (i := 2) (by decide +kernel)), mt1_0 (List.mem_of_getElem? (i := 4) (by decide +kernel)), mt5_1 (List.mem_of_getElem? (i := 13) (by decide +kernel))⟩, by decide +kernel⟩
theorem mvX4_goWhole : Mv yX4_goWhole RX4 cX4_goWhole 1 none 0 := ⟨⟨mt5_1 (List.mem_of_getElem? (i := 16) (by decide +kernel)), mp3 (List.mem_of_getElem? (i := 3) (by decide +kernel)), mt1_0 (List.mem_of_getElem? (i := 4) (by decide +kernel)), mt5_1 (List.mem_of_getElem? (i := 17) (by decide +kernel))⟩, by decide +kernel⟩
theorem mvX4_flaw : Mv yX4_flaw RX4 cX4_flaw 2 none 1 := ⟨⟨mt5_1 (List.mem_of_getElem? (i := 35) (by decide +kernel)), mp3 (List.mem_of_getElem? (i := 7) (by decide +kernel)), mt1_0 (List.mem_of_getElem? (i := 4) (by decide +kernel)), mt5_1 (List.mem_of_getElem? (i := 36) (by decide +kernel))⟩, by decide +kernel⟩
theorem mvX4_isWord : Mv yX4_isWord RX4 cX4_isWord 5 (some .boolean) 1 := ⟨⟨mt5_1 (List.mem_of_getElem? (i := 25) (by decide +kernel)), mp3 (List.mem_of_getElem? (i := 5) (by decide +kernel)), mt1_0 (List.mem_of_getElem? (i := 4) (by decide +kernel)), mt5_1 (List.mem_of_getElem? (i := 26) (by decide +kernel))⟩, by decide +kernel⟩
theorem mvX4_needs : Mv yX4_needs RX4 cX4_needs 2 none 1 := ⟨⟨mt5_2 (List.mem_of_getElem? (i := 4) (by decide +kernel)), mp3 (List.mem_of_getElem? (i := 9) (by decide +kernel)), mt1_0 (List.mem_of_getElem? (i := 4) (by decide +kernel)), mt5_2 (List.mem_of_getElem? (i := 5) (by decide +kernel))⟩, by decide +kernel⟩
theorem mvX4_readWhole : Mv yX4_readWhole RX4 cX4_readWhole 4 (some .int) 2 := ⟨⟨mt5_2 (List.mem_of_getElem? (i := 8) (by decide +kernel)), mp3 (List.mem_of_getElem? (i := 10) (by decide +kernel)), mt1_0 (List.mem_of_getElem? (i := 4) (by decide +kernel)), mt5_2 (List.mem_of_getElem? (i := 9) (by decide +kernel))⟩, by decide +kernel⟩
theorem mvX4_readPart : Mv yX4_readPart RX4 cX4_readPart 4 (some .int) 3 := ⟨⟨mt5_2 (List.mem_of_getElem? (i := 0) (by decide +kernel)), mp3 (List.mem_of_getElem? (i := 8) (by decide +kernel)), mt1_0 (List.mem_of_getElem? (i := 4) (by decide +kernel)), mt5_2 (List.mem_of_getElem? (i := 1) (by decide +kernel))⟩, by decide +kernel⟩
theorem mvX4_feed : Mv yX4_feed RX4 cX4_feed 8 (some .int) 5 := ⟨⟨mt5_0 (List.mem_of_getElem? (i := 24) (by decide +kernel)), mt5_0 (List.mem_of_getElem? (i := 25) (by decide +kernel)), mt1_0 (List.mem_of_getElem? (i := 4) (by decide +kernel)), mt5_0 (List.mem_of_getElem? (i := 26) (by decide +kernel))⟩, by decide +kernel⟩
theorem mvX4_readAll : Mv yX4_readAll RX4 cX4_readAll 1 none 0 := ⟨⟨mt5_0 (List.mem_of_getElem? (i := 37) (by decide +kernel)), mp2 (List.mem_of_getElem? (i := 15) (by decide +kernel)), mt1_0 (List.mem_of_getElem? (i := 4) (by decide +kernel)), mt5_0 (List.mem_of_getElem? (i := 38) (by decide +kernel))⟩, by decide +kernel⟩
theorem mvX4_readLine : Mv yX4_readLine RX4 cX4_readLine 1 none 0 := ⟨⟨mt5_1 (List.mem_of_getElem? (i := 20) (by decide +kernel)), mp3 (List.mem_of_getElem? (i := 4) (by decide +kernel)), mt1_0 (List.mem_of_getElem? (i := 4) (by decide +kernel)), mt5_1 (List.mem_of_getElem? (i := 21) (by decide +kernel))⟩, by decide +kernel⟩
theorem mvX4_readRanks : Mv yX4_readRanks RX4 cX4_readRanks 2 none 0 := ⟨⟨mt5_1 (List.mem_of_getElem? (i := 31) (by decide +kernel)), mp3 (List.mem_of_getElem? (i := 6) (by decide +kernel)), mt1_0 (List.mem_of_getElem? (i := 4) (by decide +kernel)), mt5_1 (List.mem_of_getElem? (i := 32) (by decide +kernel))⟩, by decide +kernel⟩
theorem mvX4_named : Mv yX4_named RX4 cX4_named 2 (some .int) 0 := ⟨⟨mt5_2 (List.mem_of_getElem? (i := 22) (by decide +kernel)), mp3 (List.mem_of_getElem? (i := 13) (by decide +kernel)), mt1_0 (List.mem_of_getElem? (i := 4) (by decide +kernel)), mt5_2 (List.mem_of_getElem? (i := 23) (by decide +kernel))⟩, by decide +kernel⟩
theorem mvX4_needsName : Mv yX4_needsName RX4 cX4_needsName 1 none 0 := ⟨⟨mt5_2 (List.mem_of_getElem? (i := 17) (by decide +kernel)), mp3 (List.mem_of_getElem? (i := 12) (by decide +kernel)), mt1_0 (List.mem_of_getElem? (i := 4) (by decide +kernel)), mt5_2 (List.mem_of_getElem? (i := 18) (by decide +kernel))⟩, by decide +kernel⟩
theorem mvX4_readStream : Mv yX4_readStream RX4 cX4_readStream 4 none 0 := ⟨⟨mt5_2 (List.mem_of_getElem? (i := 13) (by decide +kernel)), mp3 (List.mem_of_getElem? (i := 11) (by decide +kernel)), mt1_0 (List.mem_of_getElem? (i := 4) (by decide +kernel)), mt5_2 (List.mem_of_getElem? (i := 14) (by decide +kernel))⟩, by decide +kernel⟩
theorem mvX4_readPush : Mv yX4_readPush RX4 cX4_readPush 2 none 0 := ⟨⟨mt5_2 (List.mem_of_getElem? (i := 27) (by decide +kernel)), mp3 (List.mem_of_getElem? (i := 14) (by decide +kernel)), mt1_0 (List.mem_of_getElem? (i := 4) (by decide +kernel)), mt5_2 (List.mem_of_getElem? (i := 28) (by decide +kernel))⟩, by decide +kernel⟩
theorem mvX4_pushed : Mv yX4_pushed RX4 cX4_pushed 3 none 2 := ⟨⟨mt5_2 (List.mem_of_getElem? (i := 31) (by decide +kernel)), mp3 (List.mem_of_getElem? (i := 15) (by decide +kernel)), mt1_0 (List.mem_of_getElem? (i := 4) (by decide +kernel)), mt5_2 (List.mem_of_getElem? (i := 32) (by decide +kernel))⟩, by decide +kernel⟩
theorem mvX4_ranks : Mv yX4_ranks RX4 cX4_ranks 3 (some .int) 1 := ⟨⟨mt5_0 (List.mem_of_getElem? (i := 28) (by decide +kernel)), mt5_0 (List.mem_of_getElem? (i := 29) (by decide +kernel)), mt1_0 (List.mem_of_getElem? (i := 4) (by decide +kernel)), mt5_0 (List.mem_of_getElem? (i := 30) (by decide +kernel))⟩, by decide +kernel⟩
theorem mvX4_fault : Mv yX4_fault RX4 cX4_fault 1 (some .int) 0 := ⟨⟨mt5_4 (List.mem_of_getElem? (i := 20) (by decide +kernel)), mt5_4 (List.mem_of_getElem? (i := 21) (by decide +kernel)), mt1_0 (List.mem_of_getElem? (i := 4) (by decide +kernel)), mt5_4 (List.mem_of_getElem? (i := 22) (by decide +kernel))⟩, by decide +kernel⟩
theorem mvX4_where : Mv yX4_where RX4 cX4_where 1 (some .int) 0 := ⟨⟨mt5_4 (List.mem_of_getElem? (i := 24) (by decide +kernel)), mt5_4 (List.mem_of_getElem? (i := 25) (by decide +kernel)), mt1_0 (List.mem_of_getElem? (i := 4) (by decide +kernel)), mt5_4 (List.mem_of_getElem? (i := 26) (by decide +kernel))⟩, by decide +kernel⟩
theorem mvX4_empties : Mv yX4_empties RX4 cX4_empties 3 none 1 := ⟨⟨mt5_2 (List.mem_of_getElem? (i := 35) (by decide +kernel)), mp4 (List.mem_of_getElem? (i := 0) (by decide +kernel)), mt1_0 (List.mem_of_getElem? (i := 4) (by decide +kernel)), mt5_2 (List.mem_of_getElem? (i := 36) (by decide +kernel))⟩, by decide +kernel⟩
theorem msX4_boundBy : Ms yX4_boundBy cX4_boundBy 2 (some .int) 2 := ⟨⟨mt5_3 (List.mem_of_getElem? (i := 30) (by decide +kernel)), mt1_0 (List.mem_of_getElem? (i := 4) (by decide +kernel)), mt5_3 (List.mem_of_getElem? (i := 31) (by decide +kernel))⟩, by decide +kernel⟩
theorem mvX4_boundOf : Mv yX4_boundOf RX4 cX4_boundOf 2 (some .int) 1 := ⟨⟨mt5_3 (List.mem_of_getElem? (i := 27) (by decide +kernel)), mp4 (List.mem_of_getElem? (i := 8) (by decide +kernel)), mt1_0 (List.mem_of_getElem? (i := 4) (by decide +kernel)), mt5_3 (List.mem_of_getElem? (i := 28) (by decide +kernel))⟩, by decide +kernel⟩
theorem msX4_bandOf : Ms yX4_bandOf cX4_bandOf 3 (some .int) 2 := ⟨⟨mt5_4 (List.mem_of_getElem? (i := 5) (by decide +kernel)), mt1_0 (List.mem_of_getElem? (i := 4) (by decide +kernel)), mt5_4 (List.mem_of_getElem? (i := 6) (by decide +kernel))⟩, by decide +kernel⟩
theorem mvX4_place : Mv yX4_place RX4 cX4_place 4 (some .int) 2 := ⟨⟨mt5_3 (List.mem_of_getElem? (i := 3) (by decide +kernel)), mp4 (List.mem_of_getElem? (i := 2) (by decide +kernel)), mt1_0 (List.mem_of_getElem? (i := 4) (by decide +kernel)), mt5_3 (List.mem_of_getElem? (i := 4) (by decide +kernel))⟩, by decide +kernel⟩
theorem mvX4_spreadAt : Mv yX4_spreadAt RX4 cX4_spreadAt 3 (some .int) 2 := ⟨⟨mt5_3 (List.mem_of_getElem? (i := 7) (by decide +kernel)), mp4 (List.mem_of_getElem? (i := 3) (by decide +kernel)), mt1_0 (List.mem_of_getElem? (i := 4) (by decide +kernel)), mt5_3 (List.mem_of_getElem? (i := 8) (by decide +kernel))⟩, by decide +kernel⟩
theorem mvX4_shifts : Mv yX4_shifts RX4 cX4_shifts 5 none 3 := ⟨⟨mt5_3 (List.mem_of_getElem? (i := 11) (by decide +kernel)), mp4 (List.mem_of_getElem? (i := 4) (by decide +kernel)), mt1_0 (List.mem_of_getElem? (i := 4) (by decide +kernel)), mt5_3 (List.mem_of_getElem? (i := 12) (by decide +kernel))⟩, by decide +kernel⟩
theorem mvX4_copies : Mv yX4_copies RX4 cX4_copies 4 none 3 := ⟨⟨mt5_3 (List.mem_of_getElem? (i := 15) (by decide +kernel)), mp4 (List.mem_of_getElem? (i := 5) (by decide +kernel)), mt1_0 (List.mem_of_getElem? (i := 4) (by decide +kernel)), mt5_3 (List.mem_of_getElem? (i := 16) (by decide +kernel))⟩, by decide +kernel⟩
theorem mvX4_lays : Mv yX4_lays RX4 cX4_lays 6 none 5 := ⟨⟨mt5_3 (List.mem_of_getElem? (i := 19) (by decide +kernel)), mp4 (List.mem_of_getElem? (i := 6) (by decide +kernel)), mt1_0 (List.mem_of_getElem? (i := 4) (by decide +kernel)), mt5_3 (List.mem_of_getElem? (i := 20) (by decide +kernel))⟩, by decide +kernel⟩
theorem mvX4_pushes : Mv yX4_pushes RX4 cX4_pushes 5 none 2 := ⟨⟨mt5_2 (List.mem_of_getElem? (i := 39) (by decide +kernel)), mp4 (List.mem_of_getElem? (i := 1) (by decide +kernel)), mt1_0 (List.mem_of_getElem? (i := 4) (by decide +kernel)), mt5_3 (List.mem_of_getElem? (i := 0) (by decide +kernel))⟩, by decide +kernel⟩
theorem mvX4_bandAt : Mv yX4_bandAt RX4 cX4_bandAt 4 (some .int) 3 := ⟨⟨mt5_4 (List.mem_of_getElem? (i := 2) (by decide +kernel)), mp4 (List.mem_of_getElem? (i := 11) (by decide +kernel)), mt1_0 (List.mem_of_getElem? (i := 4) (by decide +kernel)), mt5_4 (List.mem_of_getElem? (i := 3) (by decide +kernel))⟩, by decide +kernel⟩
theorem mvX4_familyFrom : Mv yX4_familyFrom RX4 cX4_familyFrom 5 (some .int) 3 := ⟨⟨mt5_4 (List.mem_of_getElem? (i := 9) (by decide +kernel)), mp4 (List.mem_of_getElem? (i := 12) (by decide +kernel)), mt1_0 (List.mem_of_getElem? (i := 4) (by decide +kernel)), mt5_4 (List.mem_of_getElem? (i := 10) (by decide +kernel))⟩, by decide +kernel⟩
theorem mvX4_gaps : Mv yX4_gaps RX4 cX4_gaps 6 (some .int) 3 := ⟨⟨mt5_4 (List.mem_of_getElem? (i := 13) (by decide +kernel)), mp4 (List.mem_of_getElem? (i := 13) (by decide +kernel)), mt1_0 (List.mem_of_getElem? (i := 4) (by decide +kernel)), mt5_4 (List.mem_of_getElem? (i := 14) (by decide +kernel))⟩, by decide +kernel⟩
theorem mvX4_canGo : Mv yX4_canGo RX4 cX4_canGo 4 (some .boolean) 3 := ⟨⟨mt5_3 (List.mem_of_getElem? (i := 38) (by decide +kernel)), mp4 (List.mem_of_getElem? (i := 10) (by decide +kernel)), mt1_0 (List.mem_of_getElem? (i := 4) (by decide +kernel)), mt5_3 (List.mem_of_getElem? (i := 39) (by decide +kernel))⟩, by decide +kernel⟩
theorem mvX4_shortens : Mv yX4_shortens RX4 cX4_shortens 6 (some .int) 2 := ⟨⟨mt5_3 (List.mem_of_getElem? (i := 34) (by decide +kernel)), mp4 (List.mem_of_getElem? (i := 9) (by decide +kernel)), mt1_0 (List.mem_of_getElem? (i := 4) (by decide +kernel)), mt5_3 (List.mem_of_getElem? (i := 35) (by decide +kernel))⟩, by decide +kernel⟩
theorem mvX4_compresses : Mv yX4_compresses RX4 cX4_compresses 2 (some .int) 1 := ⟨⟨mt5_3 (List.mem_of_getElem? (i := 23) (by decide +kernel)), mp4 (List.mem_of_getElem? (i := 7) (by decide +kernel)), mt1_0 (List.mem_of_getElem? (i := 4) (by decide +kernel)), mt5_3 (List.mem_of_getElem? (i := 24) (by decide +kernel))⟩, by decide +kernel⟩
theorem mvX4_copiesRow : Mv yX4_copiesRow RX4 cX4_copiesRow 4 none 2 := ⟨⟨mt6_4 (List.mem_of_getElem? (i := 20) (by decide +kernel)), mp6 (List.mem_of_getElem? (i := 9) (by decide +kernel)), mt1_0 (List.mem_of_getElem? (i := 4) (by decide +kernel)), mt6_4 (List.mem_of_getElem? (i := 21) (by decide +kernel))⟩, by decide +kernel⟩
theorem mvX4_joins : Mv yX4_joins RX4 cX4_joins 11 none 3 := ⟨⟨mt6_4 (List.mem_of_getElem? (i := 0) (by decide +kernel)), mp6 (List.mem_of_getElem? (i := 7) (by decide +kernel)), mt1_0 (List.mem_of_getElem? (i := 4) (by decide +kernel)), mt6_4 (List.mem_of_getElem? (i := 1) (by decide +kernel))⟩, by decide +kernel⟩
theorem mvX4_isStream : Mv yX4_isStream RX4 cX4_isStream 2 (some .boolean) 1 := ⟨⟨mt5_5 (List.mem_of_getElem? (i := 1) (by decide +kernel)), mp5 (List.mem_of_getElem? (i := 0) (by decide +kernel)), mt1_0 (List.mem_of_getElem? (i := 4) (by decide +kernel)), mt5_5 (List.mem_of_getElem? (i := 2) (by decide +kernel))⟩, by decide +kernel⟩
theorem mvX4_sumOf : Mv yX4_sumOf RX4 cX4_sumOf 4 (some .int) 1 := ⟨⟨mt5_4 (List.mem_of_getElem? (i := 33) (by decide +kernel)), mp4 (List.mem_of_getElem? (i := 15) (by decide +kernel)), mt1_0 (List.mem_of_getElem? (i := 4) (by decide +kernel)), mt5_4 (List.mem_of_getElem? (i := 34) (by decide +kernel))⟩, by decide +kernel⟩
theorem mvX4_about : Mv yX4_about RX4 cX4_about 2 (some .int) 1 := ⟨⟨mt5_4 (List.mem_of_getElem? (i := 28) (by decide +kernel)), mt5_4 (List.mem_of_getElem? (i := 29) (by decide +kernel)), mt1_0 (List.mem_of_getElem? (i := 4) (by decide +kernel)), mt5_4 (List.mem_of_getElem? (i := 30) (by decide +kernel))⟩, by decide +kernel⟩
theorem mvX4_widest : Mv yX4_widest RX4 cX4_widest 4 (some .int) 1 := ⟨⟨mt5_5 (List.mem_of_getElem? (i := 5) (by decide +kernel)), mp5 (List.mem_of_getElem? (i := 1) (by decide +kernel)), mt1_0 (List.mem_of_getElem? (i := 4) (by decide +kernel)), mt5_5 (List.mem_of_getElem? (i := 6) (by decide +kernel))⟩, by decide +kernel⟩
theorem mvX4_unlike : Mv yX4_unlike RX4 cX4_unlike 4 (some .int) 1 := ⟨⟨mt5_5 (List.mem_of_getElem? (i := 9) (by decide +kernel)), mp5 (List.mem_of_getElem? (i := 2) (by decide +kernel)), mt1_0 (List.mem_of_getElem? (i := 4) (by decide +kernel)), mt5_5 (List.mem_of_getElem? (i := 10) (by decide +kernel))⟩, by decide +kernel⟩
theorem mvX4_stream : Mv yX4_stream RX4 cX4_stream 3 (some .int) 2 := ⟨⟨mt5_4 (List.mem_of_getElem? (i := 36) (by decide +kernel)), mt5_4 (List.mem_of_getElem? (i := 37) (by decide +kernel)), mt1_0 (List.mem_of_getElem? (i := 4) (by decide +kernel)), mt5_4 (List.mem_of_getElem? (i := 38) (by decide +kernel))⟩, by decide +kernel⟩
theorem mvX4_isTuple : Mv yX4_isTuple RX4 cX4_isTuple 3 (some .boolean) 2 := ⟨⟨mt5_5 (List.mem_of_getElem? (i := 17) (by decide +kernel)), mp5 (List.mem_of_getElem? (i := 3) (by decide +kernel)), mt1_0 (List.mem_of_getElem? (i := 4) (by decide +kernel)), mt5_5 (List.mem_of_getElem? (i := 18) (by decide +kernel))⟩, by decide +kernel⟩
theorem mvX4_low : Mv yX4_low RX4 cX4_low 3 (some .int) 2 := ⟨⟨mt5_5 (List.mem_of_getElem? (i := 21) (by decide +kernel)), mp5 (List.mem_of_getElem? (i := 4) (by decide +kernel)), mt1_0 (List.mem_of_getElem? (i := 4) (by decide +kernel)), mt5_5 (List.mem_of_getElem? (i := 22) (by decide +kernel))⟩, by decide +kernel⟩
theorem mvX4_high : Mv yX4_high RX4 cX4_high 3 (some .int) 2 := ⟨⟨mt5_5 (List.mem_of_getElem? (i := 25) (by decide +kernel)), mp5 (List.mem_of_getElem? (i := 5) (by decide +kernel)), mt1_0 (List.mem_of_getElem? (i := 4) (by decide +kernel)), mt5_5 (List.mem_of_getElem? (i := 26) (by decide +kernel))⟩, by decide +kernel⟩
theorem mvX4_tuple : Mv yX4_tuple RX4 cX4_tuple 4 (some .int) 3 := ⟨⟨mt5_5 (List.mem_of_getElem? (i := 12) (by decide +kernel)), mt5_5 (List.mem_of_getElem? (i := 13) (by decide +kernel)), mt1_0 (List.mem_of_getElem? (i := 4) (by decide +kernel)), mt5_5 (List.mem_of_getElem? (i := 14) (by decide +kernel))⟩, by decide +kernel⟩
theorem mvX4_goes : Mv yX4_goes RX4 cX4_goes 3 (some .int) 2 := ⟨⟨mt5_5 (List.mem_of_getElem? (i := 28) (by decide +kernel)), mt5_5 (List.mem_of_getElem? (i := 29) (by decide +kernel)), mt1_0 (List.mem_of_getElem? (i := 4) (by decide +kernel)), mt5_5 (List.mem_of_getElem? (i := 30) (by decide +kernel))⟩, by decide +kernel⟩
theorem mvX4_band : Mv yX4_band RX4 cX4_band 3 (some .int) 2 := ⟨⟨mt5_5 (List.mem_of_getElem? (i := 32) (by decide +kernel)), mt5_5 (List.mem_of_getElem? (i := 33) (by decide +kernel)), mt1_0 (List.mem_of_getElem? (i := 4) (by decide +kernel)), mt5_5 (List.mem_of_getElem? (i := 34) (by decide +kernel))⟩, by decide +kernel⟩
theorem mvX4_bands : Mv yX4_bands RX4 cX4_bands 5 (some .int) 2 := ⟨⟨mt5_5 (List.mem_of_getElem? (i := 36) (by decide +kernel)), mt5_5 (List.mem_of_getElem? (i := 37) (by decide +kernel)), mt1_0 (List.mem_of_getElem? (i := 4) (by decide +kernel)), mt5_5 (List.mem_of_getElem? (i := 38) (by decide +kernel))⟩, by decide +kernel⟩
theorem mvX4_wrongOf : Mv yX4_wrongOf RX4 cX4_wrongOf 4 (some .int) 1 := ⟨⟨mt6_0 (List.mem_of_getElem? (i := 5) (by decide +kernel)), mp5 (List.mem_of_getElem? (i := 6) (by decide +kernel)), mt1_0 (List.mem_of_getElem? (i := 4) (by decide +kernel)), mt6_0 (List.mem_of_getElem? (i := 6) (by decide +kernel))⟩, by decide +kernel⟩
theorem mvX4_check : Mv yX4_check RX4 cX4_check 2 (some .int) 1 := ⟨⟨mt6_0 (List.mem_of_getElem? (i := 0) (by decide +kernel)), mt6_0 (List.mem_of_getElem? (i := 1) (by decide +kernel)), mt1_0 (List.mem_of_getElem? (i := 4) (by decide +kernel)), mt6_0 (List.mem_of_getElem? (i := 2) (by decide +kernel))⟩, by decide +kernel⟩
theorem mvX4_answers : Mv yX4_answers RX4 cX4_answers 9 (some .int) 2 := ⟨⟨mt6_0 (List.mem_of_getElem? (i := 17) (by decide +kernel)), mp5 (List.mem_of_getElem? (i := 8) (by decide +kernel)), mt1_0 (List.mem_of_getElem? (i := 4) (by decide +kernel)), mt6_0 (List.mem_of_getElem? (i := 18) (by decide +kernel))⟩, by decide +kernel⟩
theorem mvX4_isPlace : Mv yX4_isPlace RX4 cX4_isPlace 3 (some .boolean) 2 := ⟨⟨mt6_0 (List.mem_of_getElem? (i := 13) (by decide +kernel)), mp5 (List.mem_of_getElem? (i := 7) (by decide +kernel)), mt1_0 (List.mem_of_getElem? (i := 4) (by decide +kernel)), mt6_0 (List.mem_of_getElem? (i := 14) (by decide +kernel))⟩, by decide +kernel⟩
theorem mvX4_answer : Mv yX4_answer RX4 cX4_answer 5 (some .int) 3 := ⟨⟨mt6_0 (List.mem_of_getElem? (i := 8) (by decide +kernel)), mt6_0 (List.mem_of_getElem? (i := 9) (by decide +kernel)), mt1_0 (List.mem_of_getElem? (i := 4) (by decide +kernel)), mt6_0 (List.mem_of_getElem? (i := 10) (by decide +kernel))⟩, by decide +kernel⟩
theorem mvX4_quotaPlace : Mv yX4_quotaPlace RX4 cX4_quotaPlace 5 (some .int) 3 := ⟨⟨mt6_0 (List.mem_of_getElem? (i := 33) (by decide +kernel)), mp5 (List.mem_of_getElem? (i := 11) (by decide +kernel)), mt1_0 (List.mem_of_getElem? (i := 4) (by decide +kernel)), mt6_0 (List.mem_of_getElem? (i := 34) (by decide +kernel))⟩, by decide +kernel⟩
theorem mvX4_quotaValue : Mv yX4_quotaValue RX4 cX4_quotaValue 4 (some .int) 3 := ⟨⟨mt6_0 (List.mem_of_getElem? (i := 29) (by decide +kernel)), mp5 (List.mem_of_getElem? (i := 10) (by decide +kernel)), mt1_0 (List.mem_of_getElem? (i := 4) (by decide +kernel)), mt6_0 (List.mem_of_getElem? (i := 30) (by decide +kernel))⟩, by decide +kernel⟩
theorem mvX4_barOf : Mv yX4_barOf RX4 cX4_barOf 8 (some .int) 4 := ⟨⟨mt6_0 (List.mem_of_getElem? (i := 25) (by decide +kernel)), mp5 (List.mem_of_getElem? (i := 9) (by decide +kernel)), mt1_0 (List.mem_of_getElem? (i := 4) (by decide +kernel)), mt6_0 (List.mem_of_getElem? (i := 26) (by decide +kernel))⟩, by decide +kernel⟩
theorem mvX4_bar : Mv yX4_bar RX4 cX4_bar 5 (some .int) 4 := ⟨⟨mt6_0 (List.mem_of_getElem? (i := 20) (by decide +kernel)), mt6_0 (List.mem_of_getElem? (i := 21) (by decide +kernel)), mt1_0 (List.mem_of_getElem? (i := 4) (by decide +kernel)), mt6_0 (List.mem_of_getElem? (i := 22) (by decide +kernel))⟩, by decide +kernel⟩
theorem mvX4_uneven : Mv yX4_uneven RX4 cX4_uneven 8 (some .int) 2 := ⟨⟨mt6_1 (List.mem_of_getElem? (i := 4) (by decide +kernel)), mt6_1 (List.mem_of_getElem? (i := 5) (by decide +kernel)), mt1_0 (List.mem_of_getElem? (i := 4) (by decide +kernel)), mt6_1 (List.mem_of_getElem? (i := 6) (by decide +kernel))⟩, by decide +kernel⟩
theorem mvX4_meets : Mv yX4_meets RX4 cX4_meets 8 (some .int) 4 := ⟨⟨mt6_1 (List.mem_of_getElem? (i := 8) (by decide +kernel)), mt6_1 (List.mem_of_getElem? (i := 9) (by decide +kernel)), mt1_0 (List.mem_of_getElem? (i := 4) (by decide +kernel)), mt6_1 (List.mem_of_getElem? (i := 10) (by decide +kernel))⟩, by decide +kernel⟩
theorem mvX4_unsure : Mv yX4_unsure RX4 cX4_unsure 7 (some .int) 2 := ⟨⟨mt6_1 (List.mem_of_getElem? (i := 16) (by decide +kernel)), mt6_1 (List.mem_of_getElem? (i := 17) (by decide +kernel)), mt1_0 (List.mem_of_getElem? (i := 4) (by decide +kernel)), mt6_1 (List.mem_of_getElem? (i := 18) (by decide +kernel))⟩, by decide +kernel⟩
theorem mvX4_quota : Mv yX4_quota RX4 cX4_quota 7 (some .int) 4 := ⟨⟨mt6_1 (List.mem_of_getElem? (i := 28) (by decide +kernel)), mt6_1 (List.mem_of_getElem? (i := 29) (by decide +kernel)), mt1_0 (List.mem_of_getElem? (i := 4) (by decide +kernel)), mt6_1 (List.mem_of_getElem? (i := 30) (by decide +kernel))⟩, by decide +kernel⟩
theorem mvX4_sure : Mv yX4_sure RX4 cX4_sure 5 (some .int) 2 := ⟨⟨mt6_1 (List.mem_of_getElem? (i := 1) (by decide +kernel)), mp5 (List.mem_of_getElem? (i := 13) (by decide +kernel)), mt1_0 (List.mem_of_getElem? (i := 4) (by decide +kernel)), mt6_1 (List.mem_of_getElem? (i := 2) (by decide +kernel))⟩, by decide +kernel⟩
theorem mvX4_atMost : Mv yX4_atMost RX4 cX4_atMost 4 (some .int) 2 := ⟨⟨mt6_0 (List.mem_of_getElem? (i := 37) (by decide +kernel)), mp5 (List.mem_of_getElem? (i := 12) (by decide +kernel)), mt1_0 (List.mem_of_getElem? (i := 4) (by decide +kernel)), mt6_0 (List.mem_of_getElem? (i := 38) (by decide +kernel))⟩, by decide +kernel⟩
theorem msX4_isValue : Ms yX4_isValue cX4_isValue 1 (some .boolean) 1 := ⟨⟨mt6_1 (List.mem_of_getElem? (i := 36) (by decide +kernel)), mt1_0 (List.mem_of_getElem? (i := 4) (by decide +kernel)), mt6_1 (List.mem_of_getElem? (i := 37) (by decide +kernel))⟩, by decide +kernel⟩
theorem mvX4_rank : Mv yX4_rank RX4 cX4_rank 4 (some .int) 3 := ⟨⟨mt6_1 (List.mem_of_getElem? (i := 32) (by decide +kernel)), mt6_1 (List.mem_of_getElem? (i := 33) (by decide +kernel)), mt1_0 (List.mem_of_getElem? (i := 4) (by decide +kernel)), mt6_1 (List.mem_of_getElem? (i := 34) (by decide +kernel))⟩, by decide +kernel⟩
theorem mvX4_leastFrom : Mv yX4_leastFrom RX4 cX4_leastFrom 4 (some .int) 3 := ⟨⟨mt6_2 (List.mem_of_getElem? (i := 4) (by decide +kernel)), mp6 (List.mem_of_getElem? (i := 1) (by decide +kernel)), mt1_0 (List.mem_of_getElem? (i := 4) (by decide +kernel)), mt6_2 (List.mem_of_getElem? (i := 5) (by decide +kernel))⟩, by decide +kernel⟩
theorem mvX4_between : Mv yX4_between RX4 cX4_between 6 (some .int) 4 := ⟨⟨mt6_1 (List.mem_of_getElem? (i := 39) (by decide +kernel)), mt6_2 (List.mem_of_getElem? (i := 0) (by decide +kernel)), mt1_0 (List.mem_of_getElem? (i := 4) (by decide +kernel)), mt6_2 (List.mem_of_getElem? (i := 1) (by decide +kernel))⟩, by decide +kernel⟩
theorem mvX4_exact : Mv yX4_exact RX4 cX4_exact 4 (some .int) 1 := ⟨⟨mt6_2 (List.mem_of_getElem? (i := 7) (by decide +kernel)), mt6_2 (List.mem_of_getElem? (i := 8) (by decide +kernel)), mt1_0 (List.mem_of_getElem? (i := 4) (by decide +kernel)), mt6_2 (List.mem_of_getElem? (i := 9) (by decide +kernel))⟩, by decide +kernel⟩
theorem mvX4_worstOf : Mv yX4_worstOf RX4 cX4_worstOf 4 (some .int) 1 := ⟨⟨mt6_2 (List.mem_of_getElem? (i := 16) (by decide +kernel)), mp6 (List.mem_of_getElem? (i := 2) (by decide +kernel)), mt1_0 (List.mem_of_getElem? (i := 4) (by decide +kernel)), mt6_2 (List.mem_of_getElem? (i := 17) (by decide +kernel))⟩, by decide +kernel⟩
theorem mvX4_worst : Mv yX4_worst RX4 cX4_worst 2 (some .int) 1 := ⟨⟨mt6_2 (List.mem_of_getElem? (i := 11) (by decide +kernel)), mt6_2 (List.mem_of_getElem? (i := 12) (by decide +kernel)), mt1_0 (List.mem_of_getElem? (i := 4) (by decide +kernel)), mt6_2 (List.mem_of_getElem? (i := 13) (by decide +kernel))⟩, by decide +kernel⟩
theorem mvX4_floorOf : Mv yX4_floorOf RX4 cX4_floorOf 6 (some .int) 2 := ⟨⟨mt6_1 (List.mem_of_getElem? (i := 25) (by decide +kernel)), mp6 (List.mem_of_getElem? (i := 0) (by decide +kernel)), mt1_0 (List.mem_of_getElem? (i := 4) (by decide +kernel)), mt6_1 (List.mem_of_getElem? (i := 26) (by decide +kernel))⟩, by decide +kernel⟩
theorem mvX4_ceilingOf : Mv yX4_ceilingOf RX4 cX4_ceilingOf 5 (some .int) 2 := ⟨⟨mt6_1 (List.mem_of_getElem? (i := 21) (by decide +kernel)), mp5 (List.mem_of_getElem? (i := 15) (by decide +kernel)), mt1_0 (List.mem_of_getElem? (i := 4) (by decide +kernel)), mt6_1 (List.mem_of_getElem? (i := 22) (by decide +kernel))⟩, by decide +kernel⟩
theorem mvX4_bounds : Mv yX4_bounds RX4 cX4_bounds 4 (some .int) 3 := ⟨⟨mt6_2 (List.mem_of_getElem? (i := 19) (by decide +kernel)), mt6_2 (List.mem_of_getElem? (i := 20) (by decide +kernel)), mt1_0 (List.mem_of_getElem? (i := 4) (by decide +kernel)), mt6_2 (List.mem_of_getElem? (i := 21) (by decide +kernel))⟩, by decide +kernel⟩
theorem mvX4_total : Mv yX4_total RX4 cX4_total 5 (some .int) 2 := ⟨⟨mt6_2 (List.mem_of_getElem? (i := 23) (by decide +kernel)), mt6_2 (List.mem_of_getElem? (i := 24) (by decide +kernel)), mt1_0 (List.mem_of_getElem? (i := 4) (by decide +kernel)), mt6_2 (List.mem_of_getElem? (i := 25) (by decide +kernel))⟩, by decide +kernel⟩
theorem mvX4_below : Mv yX4_below RX4 cX4_below 5 (some .int) 2 := ⟨⟨mt6_3 (List.mem_of_getElem? (i := 4) (by decide +kernel)), mp6 (List.mem_of_getElem? (i := 4) (by decide +kernel)), mt1_0 (List.mem_of_getElem? (i := 4) (by decide +kernel)), mt6_3 (List.mem_of_getElem? (i := 5) (by decide +kernel))⟩, by decide +kernel⟩
theorem mvX4_sorted : Mv yX4_sorted RX4 cX4_sorted 5 (some .int) 2 := ⟨⟨mt6_2 (List.mem_of_getElem? (i := 27) (by decide +kernel)), mt6_2 (List.mem_of_getElem? (i := 28) (by decide +kernel)), mt1_0 (List.mem_of_getElem? (i := 4) (by decide +kernel)), mt6_2 (List.mem_of_getElem? (i := 29) (by decide +kernel))⟩, by decide +kernel⟩
theorem mvX4_times : Mv yX4_times RX4 cX4_times 3 (some .int) 2 := ⟨⟨mt6_2 (List.mem_of_getElem? (i := 31) (by decide +kernel)), mt6_2 (List.mem_of_getElem? (i := 32) (by decide +kernel)), mt1_0 (List.mem_of_getElem? (i := 4) (by decide +kernel)), mt6_2 (List.mem_of_getElem? (i := 33) (by decide +kernel))⟩, by decide +kernel⟩
theorem mvX4_missOf : Mv yX4_missOf RX4 cX4_missOf 6 (some .int) 2 := ⟨⟨mt6_3 (List.mem_of_getElem? (i := 0) (by decide +kernel)), mp6 (List.mem_of_getElem? (i := 3) (by decide +kernel)), mt1_0 (List.mem_of_getElem? (i := 4) (by decide +kernel)), mt6_3 (List.mem_of_getElem? (i := 1) (by decide +kernel))⟩, by decide +kernel⟩
theorem mvX4_miss : Mv yX4_miss RX4 cX4_miss 3 (some .int) 2 := ⟨⟨mt6_2 (List.mem_of_getElem? (i := 35) (by decide +kernel)), mt6_2 (List.mem_of_getElem? (i := 36) (by decide +kernel)), mt1_0 (List.mem_of_getElem? (i := 4) (by decide +kernel)), mt6_2 (List.mem_of_getElem? (i := 37) (by decide +kernel))⟩, by decide +kernel⟩
theorem mvX4_missed : Mv yX4_missed RX4 cX4_missed 4 (some .int) 1 := ⟨⟨mt6_3 (List.mem_of_getElem? (i := 7) (by decide +kernel)), mt6_3 (List.mem_of_getElem? (i := 8) (by decide +kernel)), mt1_0 (List.mem_of_getElem? (i := 4) (by decide +kernel)), mt6_3 (List.mem_of_getElem? (i := 9) (by decide +kernel))⟩, by decide +kernel⟩
theorem mvX4_sum : Mv yX4_sum RX4 cX4_sum 4 (some .int) 1 := ⟨⟨mt6_3 (List.mem_of_getElem? (i := 11) (by decide +kernel)), mt6_3 (List.mem_of_getElem? (i := 12) (by decide +kernel)), mt1_0 (List.mem_of_getElem? (i := 4) (by decide +kernel)), mt6_3 (List.mem_of_getElem? (i := 13) (by decide +kernel))⟩, by decide +kernel⟩
theorem mvX4_heavy : Mv yX4_heavy RX4 cX4_heavy 7 (some .int) 3 := ⟨⟨mt6_3 (List.mem_of_getElem? (i := 15) (by decide +kernel)), mt6_3 (List.mem_of_getElem? (i := 16) (by decide +kernel)), mt1_0 (List.mem_of_getElem? (i := 4) (by decide +kernel)), mt6_3 (List.mem_of_getElem? (i := 17) (by decide +kernel))⟩, by decide +kernel⟩
theorem mvX4_areTwo : Mv yX4_areTwo RX4 cX4_areTwo 3 (some .boolean) 2 := ⟨⟨mt6_1 (List.mem_of_getElem? (i := 13) (by decide +kernel)), mp5 (List.mem_of_getElem? (i := 14) (by decide +kernel)), mt1_0 (List.mem_of_getElem? (i := 4) (by decide +kernel)), mt6_1 (List.mem_of_getElem? (i := 14) (by decide +kernel))⟩, by decide +kernel⟩
theorem mvX4_between_ : Mv yX4_between_ RX4 cX4_between_ 5 (some .int) 3 := ⟨⟨mt6_3 (List.mem_of_getElem? (i := 28) (by decide +kernel)), mp6 (List.mem_of_getElem? (i := 6) (by decide +kernel)), mt1_0 (List.mem_of_getElem? (i := 4) (by decide +kernel)), mt6_3 (List.mem_of_getElem? (i := 29) (by decide +kernel))⟩, by decide +kernel⟩
theorem mvX4_apartBy : Mv yX4_apartBy RX4 cX4_apartBy 7 (some .int) 3 := ⟨⟨mt6_3 (List.mem_of_getElem? (i := 24) (by decide +kernel)), mp6 (List.mem_of_getElem? (i := 5) (by decide +kernel)), mt1_0 (List.mem_of_getElem? (i := 4) (by decide +kernel)), mt6_3 (List.mem_of_getElem? (i := 25) (by decide +kernel))⟩, by decide +kernel⟩
theorem mvX4_apart : Mv yX4_apart RX4 cX4_apart 6 (some .int) 2 := ⟨⟨mt6_3 (List.mem_of_getElem? (i := 19) (by decide +kernel)), mt6_3 (List.mem_of_getElem? (i := 20) (by decide +kernel)), mt1_0 (List.mem_of_getElem? (i := 4) (by decide +kernel)), mt6_3 (List.mem_of_getElem? (i := 21) (by decide +kernel))⟩, by decide +kernel⟩
theorem mvX4_wins : Mv yX4_wins RX4 cX4_wins 6 (some .int) 3 := ⟨⟨mt6_3 (List.mem_of_getElem? (i := 31) (by decide +kernel)), mt6_3 (List.mem_of_getElem? (i := 32) (by decide +kernel)), mt1_0 (List.mem_of_getElem? (i := 4) (by decide +kernel)), mt6_3 (List.mem_of_getElem? (i := 33) (by decide +kernel))⟩, by decide +kernel⟩
theorem mvX4_would : Mv yX4_would RX4 cX4_would 3 (some .int) 2 := ⟨⟨mt6_3 (List.mem_of_getElem? (i := 35) (by decide +kernel)), mt6_3 (List.mem_of_getElem? (i := 36) (by decide +kernel)), mt1_0 (List.mem_of_getElem? (i := 4) (by decide +kernel)), mt6_3 (List.mem_of_getElem? (i := 37) (by decide +kernel))⟩, by decide +kernel⟩
theorem mvX4_spread : Mv yX4_spread RX4 cX4_spread 3 (some .int) 2 := ⟨⟨mt6_4 (List.mem_of_getElem? (i := 3) (by decide +kernel)), mt6_4 (List.mem_of_getElem? (i := 4) (by decide +kernel)), mt1_0 (List.mem_of_getElem? (i := 4) (by decide +kernel)), mt6_4 (List.mem_of_getElem? (i := 5) (by decide +kernel))⟩, by decide +kernel⟩
theorem mvX4_finest : Mv yX4_finest RX4 cX4_finest 3 (some .int) 1 := ⟨⟨mt6_4 (List.mem_of_getElem? (i := 7) (by decide +kernel)), mt6_4 (List.mem_of_getElem? (i := 8) (by decide +kernel)), mt1_0 (List.mem_of_getElem? (i := 4) (by decide +kernel)), mt6_4 (List.mem_of_getElem? (i := 9) (by decide +kernel))⟩, by decide +kernel⟩
theorem mvX4_wholeLays : Mv yX4_wholeLays RX4 cX4_wholeLays 2 (some .int) 0 := ⟨⟨mt6_4 (List.mem_of_getElem? (i := 16) (by decide +kernel)), mp6 (List.mem_of_getElem? (i := 8) (by decide +kernel)), mt1_0 (List.mem_of_getElem? (i := 4) (by decide +kernel)), mt6_4 (List.mem_of_getElem? (i := 17) (by decide +kernel))⟩, by decide +kernel⟩
theorem mvX4_whole : Mv yX4_whole RX4 cX4_whole 3 (some .int) 1 := ⟨⟨mt6_4 (List.mem_of_getElem? (i := 11) (by decide +kernel)), mt6_4 (List.mem_of_getElem? (i := 12) (by decide +kernel)), mt1_0 (List.mem_of_getElem? (i := 4) (by decide +kernel)), mt6_4 (List.mem_of_getElem? (i := 13) (by decide +kernel))⟩, by decide +kernel⟩
theorem mvX4_overall : Mv yX4_overall RX4 cX4_overall 5 (some .int) 2 := ⟨⟨mt6_4 (List.mem_of_getElem? (i := 23) (by decide +kernel)), mt6_4 (List.mem_of_getElem? (i := 24) (by decide +kernel)), mt1_0 (List.mem_of_getElem? (i := 4) (by decide +kernel)), mt6_4 (List.mem_of_getElem? (i := 25) (by decide +kernel))⟩, by decide +kernel⟩
theorem mvX4_rounds : Mv yX4_rounds RX4 cX4_rounds 3 (some .int) 1 := ⟨⟨mt6_4 (List.mem_of_getElem? (i := 27) (by decide +kernel)), mt6_4 (List.mem_of_getElem? (i := 28) (by decide +kernel)), mt1_0 (List.mem_of_getElem? (i := 4) (by decide +kernel)), mt6_4 (List.mem_of_getElem? (i := 29) (by decide +kernel))⟩, by decide +kernel⟩
theorem mvX4_coarse : Mv yX4_coarse RX4 cX4_coarse 4 (some .int) 2 := ⟨⟨mt6_4 (List.mem_of_getElem? (i := 31) (by decide +kernel)), mt6_4 (List.mem_of_getElem? (i := 32) (by decide +kernel)), mt1_0 (List.mem_of_getElem? (i := 4) (by decide +kernel)), mt6_4 (List.mem_of_getElem? (i := 33) (by decide +kernel))⟩, by decide +kernel⟩
theorem mvX4_push : Mv yX4_push RX4 cX4_push 3 (some .int) 2 := ⟨⟨mt6_4 (List.mem_of_getElem? (i := 35) (by decide +kernel)), mt6_4 (List.mem_of_getElem? (i := 36) (by decide +kernel)), mt1_0 (List.mem_of_getElem? (i := 4) (by decide +kernel)), mt6_4 (List.mem_of_getElem? (i := 37) (by decide +kernel))⟩, by decide +kernel⟩
theorem mvX4_draw : Mv yX4_draw RX4 cX4_draw 5 (some .int) 3 := ⟨⟨mt6_4 (List.mem_of_getElem? (i := 39) (by decide +kernel)), mt6_5 (List.mem_of_getElem? (i := 0) (by decide +kernel)), mt1_0 (List.mem_of_getElem? (i := 4) (by decide +kernel)), mt6_5 (List.mem_of_getElem? (i := 1) (by decide +kernel))⟩, by decide +kernel⟩
theorem mvX4_seed : Mv yX4_seed RX4 cX4_seed 4 (some .boolean) 1 := ⟨⟨mt6_5 (List.mem_of_getElem? (i := 4) (by decide +kernel)), mt6_5 (List.mem_of_getElem? (i := 5) (by decide +kernel)), mt1_0 (List.mem_of_getElem? (i := 4) (by decide +kernel)), mt6_5 (List.mem_of_getElem? (i := 6) (by decide +kernel))⟩, by decide +kernel⟩
theorem mvX4_compress : Mv yX4_compress RX4 cX4_compress 2 (some .int) 1 := ⟨⟨mt6_5 (List.mem_of_getElem? (i := 9) (by decide +kernel)), mt6_5 (List.mem_of_getElem? (i := 10) (by decide +kernel)), mt1_0 (List.mem_of_getElem? (i := 4) (by decide +kernel)), mt6_5 (List.mem_of_getElem? (i := 11) (by decide +kernel))⟩, by decide +kernel⟩
theorem mvX4_merge : Mv yX4_merge RX4 cX4_merge 4 (some .int) 2 := ⟨⟨mt6_5 (List.mem_of_getElem? (i := 13) (by decide +kernel)), mt6_5 (List.mem_of_getElem? (i := 14) (by decide +kernel)), mt1_0 (List.mem_of_getElem? (i := 4) (by decide +kernel)), mt6_5 (List.mem_of_getElem? (i := 15) (by decide +kernel))⟩, by decide +kernel⟩
theorem mvX4_clear : Mv yX4_clear RX4 cX4_clear 3 (some .int) 1 := ⟨⟨mt6_5 (List.mem_of_getElem? (i := 17) (by decide +kernel)), mt6_5 (List.mem_of_getElem? (i := 18) (by decide +kernel)), mt1_0 (List.mem_of_getElem? (i := 4) (by decide +kernel)), mt6_5 (List.mem_of_getElem? (i := 19) (by decide +kernel))⟩, by decide +kernel⟩
theorem mvX4_every : Mv yX4_every RX4 cX4_every 4 (some .int) 2 := ⟨⟨mt6_5 (List.mem_of_getElem? (i := 21) (by decide +kernel)), mt6_5 (List.mem_of_getElem? (i := 22) (by decide +kernel)), mt1_0 (List.mem_of_getElem? (i := 4) (by decide +kernel)), mt6_5 (List.mem_of_getElem? (i := 23) (by decide +kernel))⟩, by decide +kernel⟩
theorem mvX4_error : Mv yX4_error RX4 cX4_error 3 (some .int) 1 := ⟨⟨mt6_5 (List.mem_of_getElem? (i := 25) (by decide +kernel)), mt6_5 (List.mem_of_getElem? (i := 26) (by decide +kernel)), mt1_0 (List.mem_of_getElem? (i := 4) (by decide +kernel)), mt6_5 (List.mem_of_getElem? (i := 27) (by decide +kernel))⟩, by decide +kernel⟩
theorem mvX4_idle : Mv yX4_idle RX4 cX4_idle 4 (some .int) 1 := ⟨⟨mt6_5 (List.mem_of_getElem? (i := 29) (by decide +kernel)), mt6_5 (List.mem_of_getElem? (i := 30) (by decide +kernel)), mt1_0 (List.mem_of_getElem? (i := 4) (by decide +kernel)), mt6_5 (List.mem_of_getElem? (i := 31) (by decide +kernel))⟩, by decide +kernel⟩
theorem mvX4_size : Mv yX4_size RX4 cX4_size 1 (some .int) 0 := ⟨⟨mt6_5 (List.mem_of_getElem? (i := 33) (by decide +kernel)), mt6_5 (List.mem_of_getElem? (i := 34) (by decide +kernel)), mt1_0 (List.mem_of_getElem? (i := 4) (by decide +kernel)), mt6_5 (List.mem_of_getElem? (i := 35) (by decide +kernel))⟩, by decide +kernel⟩
theorem mvX4_trouble : Mv yX4_trouble RX4 cX4_trouble 1 (some .int) 0 := ⟨⟨mt6_5 (List.mem_of_getElem? (i := 37) (by decide +kernel)), mt6_5 (List.mem_of_getElem? (i := 38) (by decide +kernel)), mt1_0 (List.mem_of_getElem? (i := 4) (by decide +kernel)), mt6_5 (List.mem_of_getElem? (i := 39) (by decide +kernel))⟩, by decide +kernel⟩
theorem msJ9_max_7cf53 : Ms yJ9_max_7cf53 cJ9_max_7cf53 2 (some .int) 2 := ⟨⟨mt2_3 (List.mem_of_getElem? (i := 27) (by decide +kernel)), mt1_0 (List.mem_of_getElem? (i := 5) (by decide +kernel)), mt2_3 (List.mem_of_getElem? (i := 28) (by decide +kernel))⟩, by decide +kernel⟩
theorem msJ9_min_7cf53 : Ms yJ9_min_7cf53 cJ9_min_7cf53 2 (some .int) 2 := ⟨⟨mt1_4 (List.mem_of_getElem? (i := 12) (by decide +kernel)), mt1_0 (List.mem_of_getElem? (i := 5) (by decide +kernel)), mt1_4 (List.mem_of_getElem? (i := 13) (by decide +kernel))⟩, by decide +kernel⟩
theorem mvJ0_length_8abf5 : Mv yJ0_length_8abf5 RJ0 cJ0_length_8abf5 1 (some .int) 0 := ⟨⟨mt1_5 (List.mem_of_getElem? (i := 2) (by decide +kernel)), mt1_5 (List.mem_of_getElem? (i := 3) (by decide +kernel)), mt1_0 (List.mem_of_getElem? (i := 6) (by decide +kernel)), mt1_5 (List.mem_of_getElem? (i := 4) (by decide +kernel))⟩, by decide +kernel⟩
theorem mvJ0_charAt_5068e : Mv yJ0_charAt_5068e RJ0 cJ0_charAt_5068e 2 (some .char) 1 := ⟨⟨mt1_5 (List.mem_of_getElem? (i := 12) (by decide +kernel)), mt1_5 (List.mem_of_getElem? (i := 13) (by decide +kernel)), mt1_0 (List.mem_of_getElem? (i := 6) (by decide +kernel)), mt1_5 (List.mem_of_getElem? (i := 14) (by decide +kernel))⟩, by decide +kernel⟩
theorem mvJ0_coder_7d493 : Mv yJ0_coder_7d493 RJ0 cJ0_coder_7d493 1 (some .byte) 0 := ⟨⟨mt1_5 (List.mem_of_getElem? (i := 6) (by decide +kernel)), mt1_5 (List.mem_of_getElem? (i := 7) (by decide +kernel)), mt1_0 (List.mem_of_getElem? (i := 6) (by decide +kernel)), mt1_5 (List.mem_of_getElem? (i := 8) (by decide +kernel))⟩, by decide +kernel⟩
theorem mvJ0_isLatin1_aae02 : Mv yJ0_isLatin1_aae02 RJ0 cJ0_isLatin1_aae02 1 (some .boolean) 0 := ⟨⟨mt1_5 (List.mem_of_getElem? (i := 16) (by decide +kernel)), mt1_5 (List.mem_of_getElem? (i := 17) (by decide +kernel)), mt1_0 (List.mem_of_getElem? (i := 6) (by decide +kernel)), mt1_5 (List.mem_of_getElem? (i := 18) (by decide +kernel))⟩, by decide +kernel⟩
theorem msJ0_checkIndex_df160 : Ms yJ0_checkIndex_df160 cJ0_checkIndex_df160 2 none 2 := ⟨⟨mt1_5 (List.mem_of_getElem? (i := 23) (by decide +kernel)), mt1_0 (List.mem_of_getElem? (i := 6) (by decide +kernel)), mt1_5 (List.mem_of_getElem? (i := 24) (by decide +kernel))⟩, by decide +kernel⟩
theorem msJ1_charAt_3b067 : Ms yJ1_charAt_3b067 cJ1_charAt_3b067 2 (some .char) 2 := ⟨⟨mt1_5 (List.mem_of_getElem? (i := 20) (by decide +kernel)), mt1_0 (List.mem_of_getElem? (i := 7) (by decide +kernel)), mt1_5 (List.mem_of_getElem? (i := 21) (by decide +kernel))⟩, by decide +kernel⟩
theorem msJ2_getChar_3b067 : Ms yJ2_getChar_3b067 cJ2_getChar_3b067 2 (some .char) 2 := ⟨⟨mt2_0 (List.mem_of_getElem? (i := 1) (by decide +kernel)), mt1_0 (List.mem_of_getElem? (i := 9) (by decide +kernel)), mt2_0 (List.mem_of_getElem? (i := 2) (by decide +kernel))⟩, by decide +kernel⟩
theorem msJ2_length_9d52b : Ms yJ2_length_9d52b cJ2_length_9d52b 1 (some .int) 1 := ⟨⟨mt1_5 (List.mem_of_getElem? (i := 37) (by decide +kernel)), mt1_0 (List.mem_of_getElem? (i := 9) (by decide +kernel)), mt1_5 (List.mem_of_getElem? (i := 38) (by decide +kernel))⟩, by decide +kernel⟩
theorem msJ2_charAt_3b067 : Ms yJ2_charAt_3b067 cJ2_charAt_3b067 2 (some .char) 2 := ⟨⟨mt1_5 (List.mem_of_getElem? (i := 31) (by decide +kernel)), mt1_0 (List.mem_of_getElem? (i := 9) (by decide +kernel)), mt1_5 (List.mem_of_getElem? (i := 32) (by decide +kernel))⟩, by decide +kernel⟩
theorem msJ2_checkIndex_2214a : Ms yJ2_checkIndex_2214a cJ2_checkIndex_2214a 2 none 2 := ⟨⟨mt1_5 (List.mem_of_getElem? (i := 34) (by decide +kernel)), mt1_0 (List.mem_of_getElem? (i := 9) (by decide +kernel)), mt1_5 (List.mem_of_getElem? (i := 35) (by decide +kernel))⟩, by decide +kernel⟩
theorem msJ7_fill_53178 : Ms yJ7_fill_53178 cJ7_fill_53178 4 none 2 := ⟨⟨mt2_2 (List.mem_of_getElem? (i := 19) (by decide +kernel)), mt1_0 (List.mem_of_getElem? (i := 11) (by decide +kernel)), mt2_2 (List.mem_of_getElem? (i := 20) (by decide +kernel))⟩, by decide +kernel⟩
theorem msJ3_checkIndex_8e157 : Ms yJ3_checkIndex_8e157 cJ3_checkIndex_8e157 3 (some .int) 3 := ⟨⟨mt1_5 (List.mem_of_getElem? (i := 28) (by decide +kernel)), mt1_0 (List.mem_of_getElem? (i := 8) (by decide +kernel)), mt1_5 (List.mem_of_getElem? (i := 29) (by decide +kernel))⟩, by decide +kernel⟩
theorem cnX3_273 : Cond.constant RX3 273 65537 ∈ lw_tbl := mt4_1 (List.mem_of_getElem? (i := 2) (by decide +kernel))
theorem cnX4_334 : Cond.constant RX4 334 65537 ∈ lw_tbl := mt6_5 (List.mem_of_getElem? (i := 2) (by decide +kernel))
theorem cnX4_335 : Cond.constant RX4 335 65536 ∈ lw_tbl := mt6_5 (List.mem_of_getElem? (i := 7) (by decide +kernel))
theorem mm_max : Cond.static Lib.Math.max.name ∈ lw_tbl ∧ Cond.initialized "java/lang/Math" ∈ lw_tbl ∧ Cond.code Lib.Math.max.name Lib.Math.max.code 2 (some .int) ∈ lw_tbl := ⟨mt2_3 (List.mem_of_getElem? (i := 27) (by decide +kernel)), mt1_0 (List.mem_of_getElem? (i := 5) (by decide +kernel)), mt2_3 (List.mem_of_getElem? (i := 28) (by decide +kernel))⟩
theorem mm_min : Cond.static Lib.Math.min.name ∈ lw_tbl ∧ Cond.initialized "java/lang/Math" ∈ lw_tbl ∧ Cond.code Lib.Math.min.name Lib.Math.min.code 2 (some .int) ∈ lw_tbl := ⟨mt1_4 (List.mem_of_getElem? (i := 12) (by decide +kernel)), mt1_0 (List.mem_of_getElem? (i := 5) (by decide +kernel)), mt1_4 (List.mem_of_getElem? (i := 13) (by decide +kernel))⟩
theorem mm_copy : Cond.native arraycopyName ∈ lw_tbl ∧ Cond.static arraycopyName ∈ lw_tbl ∧ Cond.initialized "java/lang/System" ∈ lw_tbl := ⟨mt2_3 (List.mem_of_getElem? (i := 14) (by decide +kernel)), mt2_3 (List.mem_of_getElem? (i := 13) (by decide +kernel)), mt1_0 (List.mem_of_getElem? (i := 12) (by decide +kernel))⟩
theorem fw0 : Fw 0 RX0 TX0 5 tyX0 := ⟨rfl, by decide +kernel, tyX0_ok, nmX0, by decide, rfl⟩
theorem fw1 : Fw 1 RX1 TX1 6 tyX1 := ⟨rfl, by decide +kernel, tyX1_ok, nmX1, by decide, rfl⟩
theorem fw2 : Fw 2 RX2 TX2 16 tyX2 := ⟨rfl, by decide +kernel, tyX2_ok, nmX2, by decide, rfl⟩
theorem fw3 : Fw 3 RX3 TX3 10 tyX3 := ⟨rfl, by decide +kernel, tyX3_ok, nmX3, by decide, rfl⟩
theorem fw4 : Fw 4 RX4 TX4 32 tyX4 := ⟨rfl, by decide +kernel, tyX4_ok, nmX4, by decide, rfl⟩
theorem ic_m1 : Int32.ofInt (-1) = (-1) := by decide
theorem ic_0 : Int32.ofInt 0 = 0 := by decide
theorem ic_1 : Int32.ofInt 1 = 1 := by decide
theorem ic_2 : Int32.ofInt 2 = 2 := by decide
theorem ic_3 : Int32.ofInt 3 = 3 := by decide
theorem ic_4 : Int32.ofInt 4 = 4 := by decide
theorem ic_5 : Int32.ofInt 5 = 5 := by decide
theorem bc_m2 : (Int8.ofInt (-2)).toInt32 = (-2) := by decide
theorem bc_6 : (Int8.ofInt 6).toInt32 = 6 := by decide
theorem bc_8 : (Int8.ofInt 8).toInt32 = 8 := by decide
theorem bc_9 : (Int8.ofInt 9).toInt32 = 9 := by decide
theorem bc_10 : (Int8.ofInt 10).toInt32 = 10 := by decide
theorem bc_12 : (Int8.ofInt 12).toInt32 = 12 := by decide
theorem bc_16 : (Int8.ofInt 16).toInt32 = 16 := by decide
theorem bc_20 : (Int8.ofInt 20).toInt32 = 20 := by decide
theorem bc_24 : (Int8.ofInt 24).toInt32 = 24 := by decide
theorem bc_27 : (Int8.ofInt 27).toInt32 = 27 := by decide
theorem bc_32 : (Int8.ofInt 32).toInt32 = 32 := by decide
theorem bc_40 : (Int8.ofInt 40).toInt32 = 40 := by decide
theorem bc_48 : (Int8.ofInt 48).toInt32 = 48 := by decide
theorem bc_57 : (Int8.ofInt 57).toInt32 = 57 := by decide
theorem bc_59 : (Int8.ofInt 59).toInt32 = 59 := by decide
theorem bc_60 : (Int8.ofInt 60).toInt32 = 60 := by decide
theorem bc_63 : (Int8.ofInt 63).toInt32 = 63 := by decide
theorem bc_74 : (Int8.ofInt 74).toInt32 = 74 := by decide
theorem bc_75 : (Int8.ofInt 75).toInt32 = 75 := by decide
theorem bc_97 : (Int8.ofInt 97).toInt32 = 97 := by decide
theorem bc_100 : (Int8.ofInt 100).toInt32 = 100 := by decide
theorem bc_122 : (Int8.ofInt 122).toInt32 = 122 := by decide
theorem sc_200 : (Int16.ofInt 200).toInt32 = 200 := by decide
theorem sc_255 : (Int16.ofInt 255).toInt32 = 255 := by decide
theorem sc_400 : (Int16.ofInt 400).toInt32 = 400 := by decide
theorem sc_512 : (Int16.ofInt 512).toInt32 = 512 := by decide
theorem sc_999 : (Int16.ofInt 999).toInt32 = 999 := by decide
theorem sc_1000 : (Int16.ofInt 1000).toInt32 = 1000 := by decide
theorem sc_4000 : (Int16.ofInt 4000).toInt32 = 4000 := by decide
theorem sc_6000 : (Int16.ofInt 6000).toInt32 = 6000 := by decide
theorem ii_m8 (x : Int32) : x + Int32.ofInt (-8) = x + (-8) := by rw [show Int32.ofInt (-8) = (-8) by decide]
theorem ii_m1 (x : Int32) : x + Int32.ofInt (-1) = x + (-1) := by rw [show Int32.ofInt (-1) = (-1) by decide]
theorem ii_1 (x : Int32) : x + Int32.ofInt 1 = x + 1 := by rw [show Int32.ofInt 1 = 1 by decide]
theorem ii_6 (x : Int32) : x + Int32.ofInt 6 = x + 6 := by rw [show Int32.ofInt 6 = 6 by decide]
theorem iz_0 {mk : Nat} : Iz mk 0 (3, 0) := Iz.base _ (by decide +kernel)
theorem iz_1 {mk : Nat} : Iz mk 1 (2, 0) := Iz.base _ (by decide +kernel)
theorem iz_2 {mk : Nat} : Iz mk 2 (6, 400) := Iz.base _ (by decide +kernel)
theorem iz_3 {mk : Nat} : Iz mk 3 (6, 4) := Iz.base _ (by decide +kernel)
theorem iz_4 {mk : Nat} : Iz mk 4 (6, 4) := Iz.base _ (by decide +kernel)
theorem iz_5 {mk : Nat} : Iz mk 5 (6, 200) := Iz.base _ (by decide +kernel)
theorem iz_6 {mk : Nat} : Iz mk 6 (6, 200) := Iz.base _ (by decide +kernel)
theorem iz_7 {mk : Nat} : Iz mk 7 (8, 4) := Iz.base _ (by decide +kernel)
theorem iz_10 {mk : Nat} : Iz mk 10 (0, 0) := Iz.base _ (by decide +kernel)
theorem iz_20 {mk : Nat} : Iz mk 20 (0, 0) := Iz.base _ (by decide +kernel)
theorem iz_200 {mk : Nat} : Iz mk 200 (4, 0) := Iz.base _ (by decide +kernel)
theorem iz_204 {mk : Nat} : Iz mk 204 (5, 400) := Iz.base _ (by decide +kernel)
theorem iz_213 {mk : Nat} : Iz mk 213 (7, 4) := Iz.base _ (by decide +kernel)
theorem iz_214 {mk : Nat} : Iz mk 214 (6, 4) := Iz.base _ (by decide +kernel)
theorem iz_215 {mk : Nat} : Iz mk 215 (6, 400) := Iz.base _ (by decide +kernel)
theorem iz_216 {mk : Nat} : Iz mk 216 (6, 400) := Iz.base _ (by decide +kernel)
theorem iz_220 {mk : Nat} : Iz mk 220 (6, 6000) := Iz.base _ (by decide +kernel)
theorem iz_221 {mk : Nat} : Iz mk 221 (6, 6000) := Iz.base _ (by decide +kernel)
theorem iz_222 {mk : Nat} : Iz mk 222 (6, 6000) := Iz.base _ (by decide +kernel)
theorem iz_223 {mk : Nat} : Iz mk 223 (6, 6) := Iz.base _ (by decide +kernel)
theorem iz_224 {mk : Nat} : Iz mk 224 (6, 6) := Iz.base _ (by decide +kernel)
theorem iz_225 {mk : Nat} : Iz mk 225 (6, 4) := Iz.base _ (by decide +kernel)
theorem iz_226 {mk : Nat} : Iz mk 226 (6, 4) := Iz.base _ (by decide +kernel)
theorem iz_227 {mk : Nat} : Iz mk 227 (6, 4) := Iz.base _ (by decide +kernel)
theorem iz_228 {mk : Nat} : Iz mk 228 (6, 4000) := Iz.base _ (by decide +kernel)
theorem iz_300 {mk : Nat} : Iz mk 300 (7, 1) := Iz.base _ (by decide +kernel)
theorem rz {rm R : Room} {maxL cs ss : Nat} (h : (rm.cells == 0 && rm.slots == 0 && Nat.ble (rm.frames + 1) R.frames && Nat.ble (8 + (maxL + 11) + rm.locals) R.locals && Nat.ble cs R.cells && Nat.ble ss R.slots) = true) : Rz rm R maxL cs ss := by
  simp only [Bool.and_eq_true, beq_iff_eq, Nat.ble_eq] at h
  obtain ⟨⟨⟨⟨⟨h1, h2⟩, h3⟩, h4⟩, h5⟩, h6⟩ := h
  exact ⟨⟨h1, h2⟩, ⟨h3, h4⟩, h5, h6⟩
theorem a_topi {p : Program} {l : Launch} {e : Env} {R : Room} {s : State} {m : MethodId} {args : Array Value} {below : List Frame} {meth : Method} {c : Code} {nL : Nat} {G : Gl} {al : Nat → Nat} {mk cs ss : Nat} {Q : State → Prop} {M : Mem} {pc : Nat} {lo : List (Nat × Value)} {st : List Value} {x : Int32} (k : ∀ y : Int32, y = x → Wa p l e R s m args below meth c nL G al mk cs ss Q M pc lo (.int y :: st)) : Wa p l e R s m args below meth c nL G al mk cs ss Q M pc lo (.int x :: st) := k x rfl
theorem a_topl {p : Program} {l : Launch} {e : Env} {R : Room} {s : State} {m : MethodId} {args : Array Value} {below : List Frame} {meth : Method} {c : Code} {nL : Nat} {G : Gl} {al : Nat → Nat} {mk cs ss : Nat} {Q : State → Prop} {M : Mem} {pc : Nat} {lo : List (Nat × Value)} {st : List Value} {x : Int64} (k : ∀ y : Int64, y = x → Wa p l e R s m args below meth c nL G al mk cs ss Q M pc lo (.long y :: st)) : Wa p l e R s m args below meth c nL G al mk cs ss Q M pc lo (.long x :: st) := k x rfl
theorem a_alen {p : Program} {l : Launch} {e : Env} {R : Room} {s : State} {m : MethodId} {args : Array Value} {below : List Frame} {meth : Method} {c : Code} {nL : Nat} {G : Gl} {al : Nat → Nat} {mk cs ss : Nat} {Q : State → Prop} {M : Mem} {pc : Nat} {lo : List (Nat × Value)} {st : List Value} {own : String} {cc : ByteArray} {ret : Option FieldType} (X : Cx p s m meth c G own cc nL ret) {a n : Nat} (ha : Iz mk a (6, n)) (d : decode cc pc = .ok (.arraylength, 1)) (kk : Wa p l e R s m args below meth c nL G al mk cs ss Q M (pc + 1) lo (.int (nI n) :: st)) : Wa p l e R s m args below meth c nL G al mk cs ss Q M pc lo (.ref (al a) :: st) := by
  intro H locs ls hH hS hl
  obtain ⟨q, hq⟩ := ws_q ha.1
  have hw := ws_at (cy := G.2.1) (al := al) (M := M) hq
  rw [cell_k ha.2] at hw
  exact va_alen (cA := G.2.1 6) (x := (n, .inl (M.1 a))) X.1 X.2.1 (cx_K X) hH.1 q 1 hw rfl rfl d (kk H locs ls hH hS hl)
