/-! ===== a Stream is made: the memory with one more ===== -/
def nn (b : Nat) : List Nat := [b, b + 5, b + 6, b + 7, b + 8, b + 9, b + 1]
theorem nm_1 : ∀ mk, mk < 4 → ∀ a ∈ nms mk, a < 100 + 20 * mk ∨ 100 + 20 * mk + 9 < a := by decide +kernel
theorem nm_2 : ∀ mk, mk < 4 → ∀ a ∈ nms (mk + 1), a ∈ nms mk ∨ a ∈ nn (100 + 20 * mk) := by decide +kernel
theorem nm_3 : ∀ mk, mk < 4 → ∀ a ∈ nms mk, (kd a).1 < 5 → ∀ c ∈ fcs (kd a).1, 2 ≤ c → (a + (c - 2) < 100 + 20 * mk ∨ 100 + 20 * mk + 9 < a + (c - 2)) := by decide +kernel
theorem nm_4 : ∀ mk, mk < 4 → (kd (100 + 20 * mk) = (1, 0) ∧ kd (100 + 20 * mk + 1) = (6, 1000) ∧ kd (100 + 20 * mk + 5) = (0, 0) ∧ kd (100 + 20 * mk + 6) = (6, 1000) ∧ kd (100 + 20 * mk + 7) = (6, 1000) ∧ kd (100 + 20 * mk + 8) = (6, 1000) ∧ kd (100 + 20 * mk + 9) = (6, 1000)) := by decide +kernel
theorem nm_5 : ∀ a, a < 400 → ((kd a).1 = 8 ↔ a = 7) := by decide +kernel
theorem nm_6 : ∀ a, a < 400 → (kd a).1 < 5 → kd a = ((kd a).1, 0) := by decide +kernel
theorem nms_nd (mk : Nat) : (nms mk).Nodup := List.Pairwise.filter _ List.nodup_range
theorem nms_lt {mk a : Nat} (h : a ∈ nms mk) : a < 400 := List.mem_range.mp (List.mem_filter.mp h).1
theorem fls_cg {al al' : Nat → Nat} {a : Nat} {f : Nat → Int32} {g : Nat → Int64} : ∀ (cs : List Nat) (k : Nat), (∀ c ∈ cs, 2 ≤ c → al (a + (c - 2)) = al' (a + (c - 2))) → fls al a f g k cs = fls al' a f g k cs
  | [], _, _ => rfl
  | c :: cs, k, h => by
    have h1 := fls_cg (f := f) (g := g) cs (k + 1) (fun c hc => h c (List.mem_cons_of_mem _ hc))
    have h2 : fv al a f g k c = fv al' a f g k c := by
      match c, h with
      | 0, _ => rfl
      | 1, _ => rfl
      | n + 2, h =>
        have := h (n + 2) List.mem_cons_self (by omega)
        show Value.ref (al (a + n)) = Value.ref (al' (a + n))
        rw [show n + 2 - 2 = n by omega] at this
        rw [this]
    rw [fls, fls, h1, h2]
theorem cellK_cg {cy : Nat → ClassId} {al al' : Nat → Nat} {mk mk' a : Nat} {f : Nat → Int32} {g : Nat → Int64} {t : Nat × Nat} (ht : t.1 ≠ 8) (h : t.1 < 5 → ∀ c ∈ fcs t.1, 2 ≤ c → al (a + (c - 2)) = al' (a + (c - 2))) (ht2 : t.1 < 9) (ht0 : t.1 < 5 → t = (t.1, 0)) : cellK cy al mk a f g t = cellK cy al' mk' a f g t := by
  by_cases c : t.1 < 5
  · rw [ht0 c, cellK_o c, cellK_o c, fls_cg _ _ (h c)]
  · obtain ⟨t1, t2⟩ := t
    have h1 : t1 < 9 := ht2
    have h2 : ¬ t1 < 5 := c
    have h3 : t1 ≠ 8 := ht
    rcases (show t1 = 5 ∨ t1 = 6 ∨ t1 = 7 by omega) with rfl | rfl | rfl <;> rfl
/-- a world named by a list: fewer names, or in another order -/
theorem perm_P {D : va_G} {cl : List vw_C} {A : Nat → Prop} {H : Heap} {L1 L2 : List Nat} {f : Nat → Nat × va_E} (hP : va_P D cl (L1.map f) H) (hD : va_D A (L1.map f)) (h : ∀ a ∈ L2, a ∈ L1) (hn : L2.Nodup) : va_P D cl (L2.map f) H ∧ va_D A (L2.map f) := by
  have key : ∀ (k : Nat) (q : Nat × va_E), (L2.map f)[k]? = some q → ∃ (a : Nat) (j : Nat), L2[k]? = some a ∧ q = f a ∧ L1[j]? = some a ∧ (L1.map f)[j]? = some q := by
    intro k q hk
    rw [List.getElem?_map] at hk
    cases hc : L2[k]? with
    | none => rw [hc] at hk; cases hk
    | some a =>
      rw [hc] at hk
      have e : f a = q := Option.some.inj hk
      obtain ⟨j, hj⟩ := List.getElem?_of_mem (h a (List.mem_of_getElem? hc))
      refine ⟨a, j, rfl, e.symm, hj, ?_⟩
      rw [List.getElem?_map, hj]
      exact hk
  refine ⟨fun k q hk => ?_, fun i j p q hi hj hpq => ?_, fun k q hk => ?_⟩
  · obtain ⟨a, j, -, -, -, h4⟩ := key k q hk
    exact hP j q h4
  · obtain ⟨a, i', h1, rfl, h3, h4⟩ := key i p hi
    obtain ⟨b, j', g1, rfl, g3, g4⟩ := key j q hj
    have e := hD.1 i' j' _ _ h4 g4 hpq
    subst e
    have e2 : a = b := Option.some.inj (h3.symm.trans g3)
    subst e2
    obtain ⟨l1, e1⟩ := List.getElem?_eq_some_iff.mp h1
    obtain ⟨l2, e2⟩ := List.getElem?_eq_some_iff.mp g1
    exact (List.getElem_inj hn).mp (e1.trans e2.symm)
  · obtain ⟨a, j, -, -, -, h4⟩ := key k q hk
    exact hD.2 j q h4
/-- addresses with a new Stream's -/
def alN (al : Nat → Nat) (b q q1 q2 q3 q4 q5 q6 : Nat) (a : Nat) : Nat := if a = b then q else if a = b + 5 then q1 else if a = b + 6 then q2 else if a = b + 7 then q3 else if a = b + 8 then q4 else if a = b + 9 then q5 else if a = b + 1 then q6 else al a
theorem alN_o {al : Nat → Nat} {b q q1 q2 q3 q4 q5 q6 a : Nat} (h : a < b ∨ b + 9 < a) : alN al b q q1 q2 q3 q4 q5 q6 a = al a := by
  unfold alN
  rw [if_neg (by omega), if_neg (by omega), if_neg (by omega), if_neg (by omega), if_neg (by omega), if_neg (by omega), if_neg (by omega)]
def iA (cy : Nat → ClassId) : va_E := .inl (cy 6, 1000, .inl (fun _ => 0))
theorem mk_ws {cy : Nat → ClassId} {al : Nat → Nat} {mk : Nat} {M : Mem} {q q1 q2 q3 q4 q5 q6 qa : Nat} (hmk : mk < 4) (hqa : (nms mk)[qa]? = some 7) :
    (wsOf cy al mk M).set qa (al 7, .inl (cy 8, 4, .inr (.inr (.inr (.inr (va_up (stF al mk) mk (some q))))))) ++ [(q, .inr (1, [.ref q1, .ref q6, .int 0, .int 1, .int 0, .int 0])), (q1, .inr (0, [.ref q2, .ref q3, .ref q4, .ref q5, .int 0])), (q2, iA cy), (q3, iA cy), (q4, iA cy), (q5, iA cy), (q6, iA cy)] =
    (nms mk ++ nn (100 + 20 * mk)).map (fun a => (alN al (100 + 20 * mk) q q1 q2 q3 q4 q5 q6 a, cellOf cy (alN al (100 + 20 * mk) q q1 q2 q3 q4 q5 q6) (mk + 1) (nS M (100 + 20 * mk)) a)) := by
  obtain ⟨b, hb⟩ : ∃ b, 100 + 20 * mk = b := ⟨_, rfl⟩
  have hst : va_up (stF al mk) mk (some q) = stF (alN al b q q1 q2 q3 q4 q5 q6) (mk + 1) := by
    funext j
    unfold va_up stF
    by_cases c : j = mk
    · rw [if_pos c, if_pos (by omega), c, hb]
      unfold alN
      rw [if_pos rfl]
    · rw [if_neg c]
      by_cases c2 : j < mk
      · rw [if_pos c2, if_pos (by omega), alN_o (by omega)]
      · rw [if_neg c2, if_neg (by omega)]
  rw [List.map_append]
  congr 1
  · apply List.ext_getElem?
    intro i
    have hl : qa < (wsOf cy al mk M).length := (List.getElem?_eq_some_iff.mp (ws_at (cy := cy) (al := al) (M := M) hqa)).1
    by_cases hi : i = qa
    · subst hi
      rw [List.getElem?_set_self hl, List.getElem?_map, hqa, hb, hst]
      show some _ = some _
      congr 1
      exact Prod.ext (alN_o (show 7 < b ∨ b + 9 < 7 by omega)).symm rfl
    · rw [List.getElem?_set_ne (Ne.symm hi), List.getElem?_map]
      cases hc : (nms mk)[i]? with
      | none =>
        unfold wsOf
        rw [List.getElem?_map, hc]
        rfl
      | some a =>
        have ha : a ∈ nms mk := List.mem_of_getElem? hc
        have h1 := nm_1 mk hmk a ha
        have h7 : a ≠ 7 := fun z => hi (by
          subst z
          obtain ⟨l1, e1⟩ := List.getElem?_eq_some_iff.mp hc
          obtain ⟨l2, e2⟩ := List.getElem?_eq_some_iff.mp hqa
          exact (List.getElem_inj (nms_nd mk)).mp (e1.trans e2.symm))
        have h400 := nms_lt ha
        have hlv : lvb mk a = true := (List.mem_filter.mp ha).2
        have h9 : (kd a).1 < 9 := by
          unfold lvb at hlv
          simp only [Bool.and_eq_true, decide_eq_true_eq] at hlv
          exact hlv.1
        rw [ws_at hc, hb]
        rw [hb] at h1
        show some _ = some _
        congr 1
        refine Prod.ext (alN_o h1).symm ?_
        show cellK cy al mk a (M.1 a) (M.2 a) (kd a) = cellK cy (alN al b q q1 q2 q3 q4 q5 q6) (mk + 1) a ((nS M b).1 a) ((nS M b).2 a) (kd a)
        have e1 : (nS M b).1 a = M.1 a := by
          show (if b ≤ a ∧ a ≤ b + 9 then _ else M.1 a) = M.1 a
          rw [if_neg (by omega)]
        rw [e1, show (nS M b).2 a = M.2 a from rfl]
        refine cellK_cg (fun z => h7 ((nm_5 a h400).mp z)) (fun h5 c hc2 h2 => ?_) h9 (nm_6 a h400)
        have h3 := nm_3 mk hmk a ha h5 c hc2 h2
        rw [hb] at h3
        exact (alN_o h3).symm
  · obtain ⟨k1, k2, k3, k4, k5, k6, k7⟩ := nm_4 mk hmk
    rw [hb] at k1 k2 k3 k4 k5 k6 k7 ⊢
    have e0 : alN al b q q1 q2 q3 q4 q5 q6 b = q := by unfold alN; rw [if_pos rfl]
    have e5 : alN al b q q1 q2 q3 q4 q5 q6 (b + 5) = q1 := by unfold alN; rw [if_neg (by omega), if_pos rfl]
    have e6 : alN al b q q1 q2 q3 q4 q5 q6 (b + 6) = q2 := by unfold alN; rw [if_neg (by omega), if_neg (by omega), if_pos rfl]
    have e7 : alN al b q q1 q2 q3 q4 q5 q6 (b + 7) = q3 := by unfold alN; rw [if_neg (by omega), if_neg (by omega), if_neg (by omega), if_pos rfl]
    have e8 : alN al b q q1 q2 q3 q4 q5 q6 (b + 8) = q4 := by unfold alN; rw [if_neg (by omega), if_neg (by omega), if_neg (by omega), if_neg (by omega), if_pos rfl]
    have e9 : alN al b q q1 q2 q3 q4 q5 q6 (b + 9) = q5 := by unfold alN; rw [if_neg (by omega), if_neg (by omega), if_neg (by omega), if_neg (by omega), if_neg (by omega), if_pos rfl]
    have e1 : alN al b q q1 q2 q3 q4 q5 q6 (b + 1) = q6 := by unfold alN; rw [if_neg (by omega), if_neg (by omega), if_neg (by omega), if_neg (by omega), if_neg (by omega), if_neg (by omega), if_pos rfl]
    have m0 : (nS M b).1 b = fun k => if k = 3 then 1 else 0 := by
      show (if b ≤ b ∧ b ≤ b + 9 then (fun k => if b = b ∧ k = 3 then (1 : Int32) else 0) else M.1 b) = _
      rw [if_pos (by omega)]
      funext k
      simp
    have mz : ∀ j, 1 ≤ j → j ≤ 9 → (nS M b).1 (b + j) = fun _ => 0 := fun j h1 h2 => by
      show (if b ≤ b + j ∧ b + j ≤ b + 9 then (fun k => if b + j = b ∧ k = 3 then (1 : Int32) else 0) else M.1 (b + j)) = _
      rw [if_pos (by omega)]
      funext k
      rw [if_neg (by omega)]
    have ca : ∀ j, 1 ≤ j → j ≤ 9 → kd (b + j) = (6, 1000) → cellOf cy (alN al b q q1 q2 q3 q4 q5 q6) (mk + 1) (nS M b) (b + j) = iA cy := fun j h1 h2 hk => by
      unfold cellOf
      rw [hk, mz j h1 h2]
      rfl
    have c0 : cellOf cy (alN al b q q1 q2 q3 q4 q5 q6) (mk + 1) (nS M b) b = .inr (1, [.ref q1, .ref q6, .int 0, .int 1, .int 0, .int 0]) := by
      unfold cellOf
      rw [k1, m0]
      show (.inr (1, [Value.ref (alN al b q q1 q2 q3 q4 q5 q6 (b + 5)), .ref (alN al b q q1 q2 q3 q4 q5 q6 (b + 1)), .int 0, .int 1, .int 0, .int 0]) : va_E) = _
      rw [e5, e1]
    have c5 : cellOf cy (alN al b q q1 q2 q3 q4 q5 q6) (mk + 1) (nS M b) (b + 5) = .inr (0, [.ref q2, .ref q3, .ref q4, .ref q5, .int 0]) := by
      unfold cellOf
      rw [k3, mz 5 (by omega) (by omega)]
      show (.inr (0, [Value.ref (alN al b q q1 q2 q3 q4 q5 q6 (b + 5 + 1)), .ref (alN al b q q1 q2 q3 q4 q5 q6 (b + 5 + 2)), .ref (alN al b q q1 q2 q3 q4 q5 q6 (b + 5 + 3)), .ref (alN al b q q1 q2 q3 q4 q5 q6 (b + 5 + 4)), .int 0]) : va_E) = _
      rw [show b + 5 + 1 = b + 6 by omega, show b + 5 + 2 = b + 7 by omega, show b + 5 + 3 = b + 8 by omega, show b + 5 + 4 = b + 9 by omega, e6, e7, e8, e9]
    show _ = [(alN al b q q1 q2 q3 q4 q5 q6 b, _), (alN al b q q1 q2 q3 q4 q5 q6 (b + 5), _), (alN al b q q1 q2 q3 q4 q5 q6 (b + 6), _), (alN al b q q1 q2 q3 q4 q5 q6 (b + 7), _), (alN al b q q1 q2 q3 q4 q5 q6 (b + 8), _), (alN al b q q1 q2 q3 q4 q5 q6 (b + 9), _), (alN al b q q1 q2 q3 q4 q5 q6 (b + 1), _)]
    rw [e0, e5, e6, e7, e8, e9, e1, c0, c5, ca 6 (by omega) (by omega) k4, ca 7 (by omega) (by omega) k5, ca 8 (by omega) (by omega) k6, ca 9 (by omega) (by omega) k7, ca 1 (by omega) (by omega) k2]
/-- the names that live are where they were -/
def Ex (mk : Nat) (al al' : Nat → Nat) : Prop := ∀ a, (a < 100 + 20 * mk ∨ 180 ≤ a) → al' a = al a
theorem Ex.r (mk : Nat) (al : Nat → Nat) : Ex mk al al := fun _ _ => rfl
theorem Ex.t {mk mk' : Nat} {al al' al'' : Nat → Nat} (h : Ex mk al al') (h2 : Ex mk' al' al'') (hm : mk ≤ mk') : Ex mk al al'' := fun a ha => (h2 a (by omega)).trans (h a ha)
theorem nm_7 : ∀ mk, mk < 5 → 7 ∈ nms mk := by decide +kernel
set_option maxHeartbeats 4000000 in
theorem a_mkS {p : Program} {l : Launch} {e : Env} {R : Room} {s : State} {m : MethodId} {args : Array Value} {below : List Frame} {meth : Method} {c : Code} {G : Gl} {al : Nat → Nat} {mk cs ss : Nat} {Q : State → Prop} {M : Mem} {lo : List (Nat × Value)} {i : Int32} (X : Cx p s m meth c G RX3 cX3_takeText 3 none) (hb : G.2.2.2.2 ≤ s.heap.size) (hmk : mk < 4) (hi : i.toNatClampNeg = mk) (hin : vp_in i 4) (hf : 3 ≤ R.frames) (hlo : 60 ≤ R.locals) (hc : cs + 7 ≤ R.cells) (hs : ss + 5011 ≤ R.slots)
    (kk : ∀ al' : Nat → Nat, Ex mk al al' → Wa p l e R s m args below meth c 3 G al' (mk + 1) (cs + 7) (ss + 5011) Q (nS M (100 + 20 * mk)) 54 lo []) : Wa p l e R s m args below meth c 3 G al mk cs ss Q M 46 lo [.int i, .ref (al 7)] := by
  obtain ⟨qa, hqa⟩ := List.getElem?_of_mem (nm_7 mk (by omega))
  have hqw := ws_at (cy := G.2.1) (al := al) (M := M) hqa
  have hql : qa < (wsOf G.2.1 al mk M).length := (List.getElem?_eq_some_iff.mp hqw).1
  have main : Ww p l e R s m args below meth c 3 G cs ss Q (wsOf G.2.1 al mk M) 46 lo [.int i, .ref (al 7)] := by
    refine w_new (fs := [.null, .null, .int 0, .int 0, .int 0, .int 0]) X hb fw1 clX3_16 in_1 iy_1 (fun j hj => by rcases (show j = 0 ∨ j = 1 ∨ j = 2 ∨ j = 3 ∨ j = 4 ∨ j = 5 by omega) with rfl | rfl | rfl | rfl | rfl | rfl <;> rfl) (by omega) (by omega) dX3_takeText_46 (fun q => ?_)
    refine w_dup X dX3_takeText_49 rfl ?_
    refine w_initN X hb (cX1_init_ok l (q0 := (wsOf G.2.1 al mk M).length + 0) (a := q) (get_ex rfl)) (fun z => z.elim) miX1 nlX3_301 ⟨rfl, rfl⟩ ⟨hf, by show 8 + (1 + 11) + 40 ≤ R.locals; omega⟩ ⟨by omega, by omega⟩ (Nat.le_of_ble_eq_true rfl) dX3_takeText_50 (fun ws1 h1 => ?_)
    obtain ⟨q1, q2, q3, q4, q5, q6, rfl⟩ := h1
    refine w_cast (ws' := wsOf G.2.1 al mk M ++ [(q, .inr (1, [.ref q1, .ref q6, .int 0, .int 1, .int 0, .int 0])), (q1, .inr (0, [.ref q2, .ref q3, .ref q4, .ref q5, .int 0])), (q2, iA G.2.1), (q3, iA G.2.1), (q4, iA G.2.1), (q5, iA G.2.1), (q6, iA G.2.1)]) (by rw [set_ex, List.append_assoc]; rfl) ?_
    intro H locs ls hP hD hS hl
    refine va_astq X.1 X.2.1 (cx_K X) hP hD hS qa 3 ((wsOf G.2.1 al mk M).length + 0) 1 (r := (RX1, TX1, 6)) (cA := G.2.1 8) (n := 4) (f := stF al mk) (by rw [List.getElem?_append_left hql]; exact hqw) rfl (get_ex rfl) rfl hin dX3_takeText_53 (fun H1 locs1 hP hD hS => ?_)
    rw [List.set_append_left _ _ hql, hi, mk_ws hmk hqa] at hP hD
    obtain ⟨hP, hD⟩ := perm_P hP hD (L2 := nms (mk + 1)) (fun a ha => List.mem_append.mpr (nm_2 mk hmk a ha)) (nms_nd _)
    have := kk (alN al (100 + 20 * mk) q q1 q2 q3 q4 q5 q6) (fun a ha => alN_o (by omega)) H1 locs1 ls ⟨hP, hD⟩ hS hl
    exact this
  exact fun H locs ls hH hS hl => main H locs ls hH.1 hH.2 hS hl
