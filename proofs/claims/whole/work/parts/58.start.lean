set_option maxRecDepth 100000
/-! THE START -/
theorem st_AT_FIRST {args : Array Value} {s : State} (hs : ∀ c ∈ flatC (Jvm.Cond.and given_1 narrow_1), c.before args s = true) (ht : ∀ w ∈ lw_tbl, w.before args s = true) : ∃ t : Nat, va_Z "BallotPapers" "AT_FIRST" "[I" (.ref t) (fun q => s.heap.size ≤ q) s s.heap ∧ va_T .int t 6 (fun j => .int (nI (bm_AT j))) (fun q => s.heap.size ≤ q) s s.heap := by
  have hA : ∀ a : Nat, a < s.heap.size → ¬ s.heap.size ≤ a := fun a h => Nat.not_le.mpr h
  have hel : ∀ j : Nat, j < 6 → (Term.elem (.static "BallotPapers" "AT_FIRST" "[I") (.int (Int32.ofNat j))).eval args s none [] s = some ((fun j => Value.int (nI (bm_AT j))) j) := by
    intro j hj
    rcases (show j = 0 ∨ j = 1 ∨ j = 2 ∨ j = 3 ∨ j = 4 ∨ j = 5 by omega) with rfl | rfl | rfl | rfl | rfl | rfl
    · exact va_eqt (hs (Cond.eq (.elem (.static "BallotPapers" "AT_FIRST" "[I") (.int 0)) (.int 2)) (by decide +kernel))
    · exact va_eqt (hs (Cond.eq (.elem (.static "BallotPapers" "AT_FIRST" "[I") (.int 1)) (.int 24)) (by decide +kernel))
    · exact va_eqt (hs (Cond.eq (.elem (.static "BallotPapers" "AT_FIRST" "[I") (.int 2)) (.int 20)) (by decide +kernel))
    · exact va_eqt (hs (Cond.eq (.elem (.static "BallotPapers" "AT_FIRST" "[I") (.int 3)) (.int 1)) (by decide +kernel))
    · exact va_eqt (hs (Cond.eq (.elem (.static "BallotPapers" "AT_FIRST" "[I") (.int 4)) (.int 0)) (by decide +kernel))
    · exact va_eqt (hs (Cond.eq (.elem (.static "BallotPapers" "AT_FIRST" "[I") (.int 5)) (.int 1)) (by decide +kernel))
  obtain ⟨t, e, hT⟩ := va_Tof (tm := .static "BallotPapers" "AT_FIRST" "[I") (ty := .int) (N := 6) (f := fun j => Value.int (nI (bm_AT j))) (A := fun q => s.heap.size ≤ q) (by decide) (hs _ (by decide +kernel)) (va_eqt (hs (Cond.eq (.length (.static "BallotPapers" "AT_FIRST" "[I")) (.int 6)) (by decide +kernel))) hel hA
  exact ⟨t, va_Zof (ht _ (List.mem_of_getElem? (i := 76) (by decide +kernel))) (ht _ (List.mem_of_getElem? (i := 50) (by decide +kernel))) e hA, hT⟩
theorem st_LEAST {args : Array Value} {s : State} (hs : ∀ c ∈ flatC (Jvm.Cond.and given_1 narrow_1), c.before args s = true) (ht : ∀ w ∈ lw_tbl, w.before args s = true) : ∃ t : Nat, va_Z "BallotPapers" "LEAST" "[I" (.ref t) (fun q => s.heap.size ≤ q) s s.heap ∧ va_T .int t 6 (fun j => .int (nI (bm_LE j))) (fun q => s.heap.size ≤ q) s s.heap := by
  have hA : ∀ a : Nat, a < s.heap.size → ¬ s.heap.size ≤ a := fun a h => Nat.not_le.mpr h
  have hel : ∀ j : Nat, j < 6 → (Term.elem (.static "BallotPapers" "LEAST" "[I") (.int (Int32.ofNat j))).eval args s none [] s = some ((fun j => Value.int (nI (bm_LE j))) j) := by
    intro j hj
    rcases (show j = 0 ∨ j = 1 ∨ j = 2 ∨ j = 3 ∨ j = 4 ∨ j = 5 by omega) with rfl | rfl | rfl | rfl | rfl | rfl
    · exact va_eqt (hs (Cond.eq (.elem (.static "BallotPapers" "LEAST" "[I") (.int 0)) (.int 1)) (by decide +kernel))
    · exact va_eqt (hs (Cond.eq (.elem (.static "BallotPapers" "LEAST" "[I") (.int 1)) (.int 16)) (by decide +kernel))
    · exact va_eqt (hs (Cond.eq (.elem (.static "BallotPapers" "LEAST" "[I") (.int 2)) (.int 8)) (by decide +kernel))
    · exact va_eqt (hs (Cond.eq (.elem (.static "BallotPapers" "LEAST" "[I") (.int 3)) (.int 1)) (by decide +kernel))
    · exact va_eqt (hs (Cond.eq (.elem (.static "BallotPapers" "LEAST" "[I") (.int 4)) (.int 4)) (by decide +kernel))
    · exact va_eqt (hs (Cond.eq (.elem (.static "BallotPapers" "LEAST" "[I") (.int 5)) (.int 1)) (by decide +kernel))
  obtain ⟨t, e, hT⟩ := va_Tof (tm := .static "BallotPapers" "LEAST" "[I") (ty := .int) (N := 6) (f := fun j => Value.int (nI (bm_LE j))) (A := fun q => s.heap.size ≤ q) (by decide) (hs _ (by decide +kernel)) (va_eqt (hs (Cond.eq (.length (.static "BallotPapers" "LEAST" "[I")) (.int 6)) (by decide +kernel))) hel hA
  exact ⟨t, va_Zof (ht _ (List.mem_of_getElem? (i := 356) (by decide +kernel))) (ht _ (List.mem_of_getElem? (i := 50) (by decide +kernel))) e hA, hT⟩
theorem st_MOST {args : Array Value} {s : State} (hs : ∀ c ∈ flatC (Jvm.Cond.and given_1 narrow_1), c.before args s = true) (ht : ∀ w ∈ lw_tbl, w.before args s = true) : ∃ t : Nat, va_Z "BallotPapers" "MOST" "[I" (.ref t) (fun q => s.heap.size ≤ q) s s.heap ∧ va_T .int t 6 (fun j => .int (nI (bm_MO j))) (fun q => s.heap.size ≤ q) s s.heap := by
  have hA : ∀ a : Nat, a < s.heap.size → ¬ s.heap.size ≤ a := fun a h => Nat.not_le.mpr h
  have hel : ∀ j : Nat, j < 6 → (Term.elem (.static "BallotPapers" "MOST" "[I") (.int (Int32.ofNat j))).eval args s none [] s = some ((fun j => Value.int (nI (bm_MO j))) j) := by
    intro j hj
    rcases (show j = 0 ∨ j = 1 ∨ j = 2 ∨ j = 3 ∨ j = 4 ∨ j = 5 by omega) with rfl | rfl | rfl | rfl | rfl | rfl
    · exact va_eqt (hs (Cond.eq (.elem (.static "BallotPapers" "MOST" "[I") (.int 0)) (.int 4)) (by decide +kernel))
    · exact va_eqt (hs (Cond.eq (.elem (.static "BallotPapers" "MOST" "[I") (.int 1)) (.int 60)) (by decide +kernel))
    · exact va_eqt (hs (Cond.eq (.elem (.static "BallotPapers" "MOST" "[I") (.int 2)) (.int 40)) (by decide +kernel))
    · exact va_eqt (hs (Cond.eq (.elem (.static "BallotPapers" "MOST" "[I") (.int 3)) (.int 3)) (by decide +kernel))
    · exact va_eqt (hs (Cond.eq (.elem (.static "BallotPapers" "MOST" "[I") (.int 4)) (.int 30)) (by decide +kernel))
    · exact va_eqt (hs (Cond.eq (.elem (.static "BallotPapers" "MOST" "[I") (.int 5)) (.int 24)) (by decide +kernel))
  obtain ⟨t, e, hT⟩ := va_Tof (tm := .static "BallotPapers" "MOST" "[I") (ty := .int) (N := 6) (f := fun j => Value.int (nI (bm_MO j))) (A := fun q => s.heap.size ≤ q) (by decide) (hs _ (by decide +kernel)) (va_eqt (hs (Cond.eq (.length (.static "BallotPapers" "MOST" "[I")) (.int 6)) (by decide +kernel))) hel hA
  exact ⟨t, va_Zof (ht _ (List.mem_of_getElem? (i := 359) (by decide +kernel))) (ht _ (List.mem_of_getElem? (i := 50) (by decide +kernel))) e hA, hT⟩
set_option maxHeartbeats 4000000 in
/-- YOUR PART: from the entry, for every script of at most 3072 ints, the law comes to its end with true ('hflags': the launch's flags, for a law that throws: no stack traces) -/
theorem whole_start {p : Program} {e : Env} {s : State} {m : MethodId} {below : List Frame} {meth : Method} {c : Code} (l : Launch) (hflags : l.flags = flags0) {b L : Nat} {xs : Nat → Int32} (hL : L ≤ 3072) (C0 : lw_At p s m meth c b L xs) : W p l e room_1 s m #[Value.ref b] below meth c s.heap [] 0 0 (lw_Z below #[Value.ref b] s) (entryFrame m ([Value.ref b] : List Value).toArray 4) := by
  obtain ⟨hx, hb, hr, hml, hown, hts, hX, hbl, hlocks, hgv⟩ := id C0
  have hs := flat_of_before _ hgv
  have hA : ∀ a : Nat, a < s.heap.size → ¬ s.heap.size ≤ a := fun a h => Nat.not_le.mpr h
  have htT : ∀ w ∈ bm_T, w.before #[Value.ref b] s = true := fun w hw => hts w (List.mem_filter.mp hw).1
  obtain ⟨t0, hZ0, hT0⟩ := st_AT_FIRST hs hts
  obtain ⟨t1, hZ1, hT1⟩ := st_LEAST hs hts
  obtain ⟨t2, hZ2, hT2⟩ := st_MOST hs hts
  obtain ⟨c0, iS0, hK0⟩ := u_known (C := RX0) (T := TX0) (N := 7) (n := 7) htT inT0 (hts (.instantiable RX0 7) (List.mem_of_getElem? (i := 207) (by decide +kernel)))
  obtain ⟨c1, iS1, hK1⟩ := u_known (C := RX1) (T := TX1) (N := 1) (n := 1) htT inT1 (hts (.instantiable RX1 1) (List.mem_of_getElem? (i := 184) (by decide +kernel)))
  obtain ⟨c2, iS2, hK2⟩ := u_known (C := RX2) (T := TX2) (N := 3) (n := 3) htT inT2 (hts (.instantiable RX2 3) (List.mem_of_getElem? (i := 122) (by decide +kernel)))
  obtain ⟨c3, iS3, hK3⟩ := u_known (C := RX3) (T := TX3) (N := 12) (n := 12) htT inT3 (hts (.instantiable RX3 12) (List.mem_of_getElem? (i := 70) (by decide +kernel)))
  obtain ⟨c4, iS4, hK4⟩ := u_known (C := RX5) (T := TX5) (N := 12) (n := 12) htT inT5 (hts (.instantiable RX5 12) (List.mem_of_getElem? (i := 141) (by decide +kernel)))
  obtain ⟨c5, iS5, hK5⟩ := u_known (C := RX6) (T := TX6) (N := 2) (n := 2) htT inT6 (hts (.instantiable RX6 2) (List.mem_of_getElem? (i := 194) (by decide +kernel)))
  obtain ⟨c6, iS6, hK6⟩ := u_known (C := RX7) (T := TX7) (N := 6) (n := 6) htT inT7 (hts (.instantiable RX7 6) (List.mem_of_getElem? (i := 62) (by decide +kernel)))
  obtain ⟨c7, iS7, hK7⟩ := u_known (C := RX8) (T := TX8) (N := 19) (n := 19) htT inT8 (hts (.instantiable RX8 19) (List.mem_of_getElem? (i := 741) (by decide +kernel)))
  obtain ⟨cI, kI, compI, f1, f2, f3⟩ := Cond.arrayClass_spec (hts (.arrayClass .int) (List.mem_of_getElem? (i := 120) (by decide +kernel)))
  obtain ⟨compP, cP, kP, p1, p2, p3, p4, p5⟩ := Cond.arrayOver_spec (hts (.arrayOver (.object "BallotPapers$Poll")) (List.mem_of_getElem? (i := 128) (by decide +kernel)))
  obtain ⟨dC, dI, hKc⟩ : ∃ (dC : Nat → ClassId) (dI : Nat → Nat → Nat), ∀ (k : Nat) (q : vw_C), vwCl[k]? = some q → u_Kn s q.1 q.2.1 q.2.2 (dC k) (dI k) := by
    refine ⟨fun k => ([c0, c1, c2, c3, c4, c5, c6, c7] : List ClassId).getD k c0, fun k => ([iS0, iS1, iS2, iS3, iS4, iS5, iS6, iS7] : List (Nat → Nat)).getD k iS0, ?_⟩
    intro k q hq
    match k, hq with
    | 0, hq => cases hq; exact hK0
    | 1, hq => cases hq; exact hK1
    | 2, hq => cases hq; exact hK2
    | 3, hq => cases hq; exact hK3
    | 4, hq => cases hq; exact hK4
    | 5, hq => cases hq; exact hK5
    | 6, hq => cases hq; exact hK6
    | 7, hq => cases hq; exact hK7
    | k + 8, hq => simp [vwCl] at hq
  obtain ⟨scr, x1, x2, x3, x4, x5⟩ := hX
  have hK : bm_K (s.heap.size, (fun k => if k = 0 then t0 else if k = 1 then t1 else if k = 2 then t2 else b), s.heap, (dC, dI), cI, cP, (fun k => if k = 3 then L else 6), (fun k j => if k = 0 then nI (bm_AT j) else if k = 1 then nI (bm_LE j) else if k = 2 then nI (bm_MO j) else xs j)) s := by
    refine ⟨rfl, ⟨hKc, fun k q hk => ?_⟩, fun k hk => ?_, ⟨hZ0, hZ1, hZ2⟩, fun w hw => ?_, va_Nw.of rfl (hts _ (List.mem_of_getElem? (i := 75) (by decide +kernel))), va_AO.of (hts _ (List.mem_of_getElem? (i := 128) (by decide +kernel)))⟩
    · match k, hk with
      | 0, hk => cases hk; exact ⟨fun n z => ⟨(fun k h => by cases h), kI, f2, compI, f3⟩, f1⟩
      | 1, hk => cases hk; exact ⟨fun n z => ⟨(fun k h => by cases h), kP, p3, compP, p4⟩, kP, compP, p3, p4, p1, p5⟩
      | k + 2, hk => simp at hk
    · rcases (show k = 0 ∨ k = 1 ∨ k = 2 ∨ k = 3 by omega) with rfl | rfl | rfl | rfl
      · obtain ⟨cell, g1, g2, g3, g4, g5, g6, g7⟩ := hT0
        exact ⟨Nat.lt_of_not_le g7, cell, g1, g2, g3, g4, g5, g6⟩
      · obtain ⟨cell, g1, g2, g3, g4, g5, g6, g7⟩ := hT1
        exact ⟨Nat.lt_of_not_le g7, cell, g1, g2, g3, g4, g5, g6⟩
      · obtain ⟨cell, g1, g2, g3, g4, g5, g6, g7⟩ := hT2
        exact ⟨Nat.lt_of_not_le g7, cell, g1, g2, g3, g4, g5, g6⟩
      · exact ⟨hbl, scr, x1, x2, x3, Nat.le_of_eq x4.symm, by rw [x4]; rfl, x5⟩
    · simp only [bm_nest, List.mem_cons, List.not_mem_nil, or_false] at hw
      rcases hw with rfl | rfl | rfl | rfl
      · exact va_Nw.of rfl (hts _ (List.mem_of_getElem? (i := 291) (by decide +kernel)))
      · exact va_Nw.of rfl (hts _ (List.mem_of_getElem? (i := 495) (by decide +kernel)))
      · exact va_Nw.of rfl (hts _ (List.mem_of_getElem? (i := 659) (by decide +kernel)))
      · exact va_Nw.of rfl (hts _ (List.mem_of_getElem? (i := 675) (by decide +kernel)))
  generalize hg : (s.heap.size, (fun k => if k = 0 then t0 else if k = 1 then t1 else if k = 2 then t2 else b), s.heap, (dC, dI), cI, cP, (fun k => if k = 3 then L else 6), (fun k j => if k = 0 then nI (bm_AT j) else if k = 1 then nI (bm_LE j) else if k = 2 then nI (bm_MO j) else xs j)) = g at hK
  obtain ⟨K, hrun⟩ := law_run (n := L) (I := fun k j => if k = 0 then nI (bm_AT j) else if k = 1 then nI (bm_LE j) else if k = 2 then nI (bm_MO j) else xs j) hL (fun k hk => rfl) (fun k hk => ⟨rfl, rfl⟩)
  have hW : bm_W g ([8, 8, 8, 8], [6, 6, 6, L], [[], [], [], []], (fun k j => if k = 0 then nI (bm_AT j) else if k = 1 then nI (bm_LE j) else if k = 2 then nI (bm_MO j) else xs j), 0) s.heap := by
    subst hg
    refine ⟨⟨Nat.le_refl _, rfl, rfl, rfl⟩, fun q hq => rfl, fun k k4 hk => absurd hk (Nat.not_lt.mpr k4), fun k hk => ?_⟩
    rcases (show k = 0 ∨ k = 1 ∨ k = 2 ∨ k = 3 by omega) with rfl | rfl | rfl | rfl <;> exact ⟨rfl, rfl, fun _ => rfl⟩
  have h1 : g.1 = s.heap.size := by subst hg; rfl
  have h3 : bm_tr g (.inr (some 3)) = Value.ref b := by subst hg; rfl
  have key := (bm_rn_sim (law_CS (l := l) (e := e) (below := below) (n0 := 4) (s0 := 0) hx hb hml hown htT hK hr hlocks h1) 1000 0 _ _ hrun).2 (Nat.le_refl _) (Nat.le_refl _) (Nat.le_of_ble_eq_true rfl) (Nat.le_of_ble_eq_true rfl) s.heap [] _ hW (fun _ h => by cases h) (bm_entry g (al := [.inr (some 3)]) (nL := 4) (Nat.le_of_ble_eq_true rfl))
  rw [lg_entry_eq]
  have e : (List.map (bm_tr g) [.inr (some 3)]) = [Value.ref b] := by rw [List.map_cons, h3]; rfl
  rw [e] at key
  exact key
