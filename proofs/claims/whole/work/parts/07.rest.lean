/-! THE REST OF THE STEPS: an array of references written, statics, switches, the library's methods, returns, calls; a method by its code -/
section BMJ
variable {p : Program} {l : Launch} {e : Env} {R : Room} {s : State} {m : MethodId} {args : Array Value} {below : List Frame} {meth : Method} {c : Code} {nL : Nat} {g : bm_G} {n0 s0 : Nat} {Qf : bm_R → State → Prop} {cc : ByteArray} {pc np : Nat} {own : String}
def op_aastore : bm_O := fun _ nx x => match x with | (lo, st, M) => match st with
  | .inr (some v) :: .inl i :: .inr (some a) :: st => bif (Nat.beq (bm_kd M a) 9 && Nat.beq (bm_kd M v) 3) then (bif Nat.blt i.toNatClampNeg (bm_rs M a).length then (if i < 0 ∨ bm_ln M a ≤ i.toNatClampNeg then none else nx (lo, st, bm_pR M a i.toNatClampNeg (some v))) else none) else none
  | _ => none
theorem s_aastore (hx : p.tables.exec = Jvm.exec) (hb : c.code = cc) (hK : bm_K g s) (hd : decode cc pc = .ok (.aastore, 1)) : bm_Sim p l e R s m args below meth c nL g n0 s0 Qf pc (pc + 1) op_aastore := by
  intro jm nx hj hn x r h
  obtain ⟨lo, st, M⟩ := x
  rcases st with _ | ⟨v | _ | v, st⟩
  · exact bm_no h
  · exact bm_no h
  · exact bm_no h
  · rcases st with _ | ⟨i | i, st⟩
    · exact bm_no h
    · rcases st with _ | ⟨w | _ | a, st⟩
      · exact bm_no h
      · exact bm_no h
      · exact bm_no h
      · obtain ⟨hk, h2⟩ := bm_bif h
        change (Nat.beq (bm_kd M a) 9 && Nat.beq (bm_kd M v) 3) = true at hk
        obtain ⟨hk9, hk3⟩ := Bool.and_eq_true_iff.mp hk
        have hk9 := Nat.eq_of_beq_eq_true hk9
        have hk3 := Nat.eq_of_beq_eq_true hk3
        obtain ⟨hjl, h1⟩ := bm_blt (b := none) h2
        change i.toNatClampNeg < (bm_rs M a).length at hjl
        change (if i < 0 ∨ bm_ln M a ≤ i.toNatClampNeg then none else nx (lo, st, bm_pR M a i.toNatClampNeg (some v))) = some r at h1
        by_cases hi : i < 0 ∨ bm_ln M a ≤ i.toNatClampNeg
        · rw [if_pos hi] at h1; exact bm_no h1
        · rw [if_neg hi] at h1
          obtain ⟨hm, hw⟩ := hn _ _ h1
          refine ⟨hm, fun a1 a2 a3 a4 H locs ls b1 b2 b3 => ?_⟩
          have h49 := b1.old (Or.inr hk9)
          have hv49 := b1.old (k := v) (Or.inl (by show bm_kd M v < 8; omega))
          have hrl : a < M.2.2.1.length := Nat.lt_of_lt_of_eq h49.2 b1.1.2.2.2.symm
          have hc := b1.2.2.1 a h49.1 h49.2
          change va_at _ _ (_, bm_ct _ _ _ M a) H at hc
          unfold bm_ct at hc
          rw [if_neg (by rw [hk9]; decide), if_pos hk9] at hc
          have hv := b1.2.2.1 v hv49.1 hv49.2
          change va_at _ _ (_, bm_ct _ _ _ M v) H at hv
          rw [bm_ct_ob (by rw [hk3]; decide), hk3] at hv
          obtain ⟨r', hr', cellV, g1, g2, g3, -⟩ := hv
          have hcls := (hK.2.1.1 3 _ rfl).2
          obtain ⟨kA, comp, k1, k2, k3, -⟩ := (hK.2.1.2 1 _ rfl).2
          have hcomp : comp = g.2.2.2.1.1 3 := Option.some.inj (k3.symm.trans hcls.1)
          subst hcomp
          obtain ⟨kC, hkC, -⟩ := hcls.2
          refine W.aast hx hb hc (fun q h => by cases h) (fun h => by cases h) k1 k2 rfl hkC ⟨fun q => hi (Or.inl q), by show _ < (arrV _ _ _).slots.size; rw [arrV_size]; exact Nat.lt_of_not_le fun z => hi (Or.inr z)⟩ g1 (fun q h => by rw [g3] at h; cases h) (by rw [g2]; exact hkC) (by rw [g2]; exact va_assign hcls) rfl rfl hd fun H1 e1 e2 e3 => ?_
          refine hw a1 a2 a3 a4 H1 _ ls (b1.put (M' := bm_pR M a i.toNatClampNeg (some v)) h49.1 h49.2 ⟨rfl, rfl, by show (M.2.2.1.set _ _).length = _; rw [List.length_set]⟩ ?_ e2 e3 (fun q hq => ?_)) (bm_locs b2 (by rw [bm_ad_ge h49.1]; omega)) b3
          · unfold bm_ct
            rw [if_neg (by show ¬ bm_kd M a = 8; rw [hk9]; decide), if_pos (show bm_kd (bm_pR M a i.toNatClampNeg (some v)) a = 9 from hk9)]
            show H1[bm_ad g a]? = some (vp_cell _ _)
            rw [e1]
            show some ((arrV _ _ _).setSlot _ _) = _
            rw [arrV_store]
            show some (arrV g.2.2.2.2.2.1 (bm_ln M a) (updV (fun j => va_rf ((bm_rf M a j).map (bm_ad g))) i.toNatClampNeg (.ref (bm_ad g v)))) = some (arrV g.2.2.2.2.2.1 (bm_ln M a) (fun j => va_rf ((bm_rf (bm_pR M a i.toNatClampNeg (some v)) a j).map (bm_ad g))))
            congr 2
            funext q
            rw [bm_rf_pS hrl hjl]
            by_cases hq : q = i.toNatClampNeg
            · subst hq; simp [updV, va_rf]
            · simp [updV, hq]
          · exact ⟨bm_ct_congr rfl rfl (bm_rs_pR hq) rfl, rfl, rfl, fun _ => rfl⟩
    · exact bm_no h
def op_objinit : bm_O := fun _ nx x => match x with | (lo, st, M) => match st with
  | .inr (some _) :: st => bif Nat.ble st.length 4 then nx (lo, st, M) else none
  | _ => none
theorem bm_sum (g : bm_G) (st : List bm_V) : ((st.map (bm_tr g)).map fun v => v.category).sum = st.length := by
  induction st with
  | nil => rfl
  | cons v st ih => simp only [List.map_cons, List.sum_cons, List.length_cons, bm_cat, ih]; omega
theorem s_objinit (hx : p.tables.exec = Jvm.exec) (hb : c.code = cc) (hml : c.maxLocals = nL) (hown : s.vm.findClass own = some m.cls) (hts : ∀ w ∈ bm_T, w.before args s = true) {index : Nat} (hl : Cond.methodLink own index objectInit ∈ bm_T) (hi : Cond.instanceMethod objectInit ∈ bm_T) (hco : Cond.code objectInit ⟨#[0xb1]⟩ 1 none ∈ bm_T) (hF : 1 ≤ R.frames) (hL : 16 ≤ R.locals) (hd : decode cc pc = .ok (.invokespecial index, 3)) : bm_Sim p l e R s m args below meth c nL g n0 s0 Qf pc (pc + 3) op_objinit := by
  intro jm nx hj hn x r h
  obtain ⟨lo, st, M⟩ := x
  rcases st with _ | ⟨v | _ | v, st⟩
  · exact bm_no h
  · exact bm_no h
  · exact bm_no h
  · obtain ⟨hk, h1⟩ := bm_bif h
    have hk := Nat.le_of_ble_eq_true hk
    obtain ⟨hm, hw⟩ := hn _ _ h1
    exact ⟨hm, fun a1 a2 a3 a4 H locs ls b1 b2 b3 => W.objInit hx hb hown (hts _ hl) (hts _ hi) (hts _ hco) rfl (by rw [hml]; exact b3.1) rfl hd hF (by show 2 * 0 + ((st.map (bm_tr g)).map fun v => v.category).sum + 12 ≤ _; rw [bm_sum]; omega) (hw a1 a2 a3 a4 H locs ls b1 b2 b3)⟩
def op_gets (k : Nat) : bm_O := fun _ nx x => match x with | (lo, st, M) => nx (lo, .inr (some k) :: st, M)
theorem s_gets (hx : p.tables.exec = Jvm.exec) (hb : c.code = cc) (hown : s.vm.findClass own = some m.cls) (hts : ∀ w ∈ bm_T, w.before args s = true) {C n d : String} {index k : Nat} (hZ : va_Z C n d (.ref (g.2.1 k)) (bm_fr g) s g.2.2.1) (hk : k < 4) (hlink : Cond.fieldLink own index C n d ∈ bm_T) (hd : decode cc pc = .ok (.getstatic index, 3)) : bm_Sim p l e R s m args below meth c nL g n0 s0 Qf pc (pc + 3) (op_gets k) := by
  intro jm nx hj hn x r h
  obtain ⟨lo, st, M⟩ := x
  obtain ⟨hm, hw⟩ := hn _ _ h
  refine ⟨hm, fun a1 a2 a3 a4 H locs ls b1 b2 b3 => ?_⟩
  obtain ⟨cf, kf, fi, f, a, cell, h1, h2, h3, h4, h5, h6, h7, h8⟩ := hZ
  have key := hw a1 a2 a3 a4 H locs ls b1 b2 b3
  have e : (List.map (bm_tr g) (Sum.inr (some k) :: st)) = Value.ref (g.2.1 k) :: List.map (bm_tr g) st := by
    show Value.ref (bm_ad g k) :: _ = _
    rw [show bm_ad g k = g.2.1 k from if_pos hk]
  dsimp only at key
  rw [e] at key
  exact W.gets hx hb hown (hts _ hlink) h1 h2 h3 h4 (by rw [b1.2.1 a (Nat.lt_of_not_le h8)]; exact h5) (fun e => by rw [e] at h6; cases h6) h7 rfl hd key
theorem s_getsN (hx : p.tables.exec = Jvm.exec) (hb : c.code = cc) (hown : s.vm.findClass own = some m.cls) (hts : ∀ w ∈ bm_T, w.before args s = true) {C n d host : String} {index k : Nat} (hZ : va_Z C n d (.ref (g.2.1 k)) (bm_fr g) s g.2.2.1) (hk : k < 4) (hlink : va_Nw (.fieldLinkNest own index C n d host) s) (hd : decode cc pc = .ok (.getstatic index, 3)) : bm_Sim p l e R s m args below meth c nL g n0 s0 Qf pc (pc + 3) (op_gets k) := by
  intro jm nx hj hn x r h
  obtain ⟨lo, st, M⟩ := x
  obtain ⟨hm, hw⟩ := hn _ _ h
  refine ⟨hm, fun a1 a2 a3 a4 H locs ls b1 b2 b3 => ?_⟩
  obtain ⟨cf, kf, fi, f, a, cell, h1, h2, h3, h4, h5, h6, h7, h8⟩ := hZ
  have key := hw a1 a2 a3 a4 H locs ls b1 b2 b3
  have e : (List.map (bm_tr g) (Sum.inr (some k) :: st)) = Value.ref (g.2.1 k) :: List.map (bm_tr g) st := by
    show Value.ref (bm_ad g k) :: _ = _
    rw [show bm_ad g k = g.2.1 k from if_pos hk]
  dsimp only at key
  rw [e] at key
  exact va_WgetsN hx hb hown (va_Nw.use rfl hlink) h1 h2 h3 h4 (by rw [b1.2.1 a (Nat.lt_of_not_le h8)]; exact h5) (fun e => by rw [e] at h6; cases h6) h7 rfl hd key
def op_mm (f : Int32 → Int32 → Int32) : bm_O := fun _ nx x => match x with | (lo, st, M) => match st with
  | .inl b :: .inl a :: st => bif Nat.ble st.length 4 then nx (lo, .inl (f a b) :: st, M) else none
  | _ => none
theorem s_mmax (hx : p.tables.exec = Jvm.exec) (hb : c.code = cc) (hml : c.maxLocals = nL) (hown : s.vm.findClass own = some m.cls) (hts : ∀ w ∈ bm_T, w.before args s = true) {index : Nat} (hl : Cond.methodLink own index Lib.Math.max.name ∈ bm_T) (hs9 : Cond.static Lib.Math.max.name ∈ bm_T) (hi : Cond.initialized "java/lang/Math" ∈ bm_T) (hco : Cond.code Lib.Math.max.name Lib.Math.max.code 2 (some .int) ∈ bm_T) (hF : 1 ≤ R.frames) (hL : 17 ≤ R.locals) (hd : decode cc pc = .ok (.invokestatic index, 3)) : bm_Sim p l e R s m args below meth c nL g n0 s0 Qf pc (pc + 3) (op_mm (fun a b => if a < b then b else a)) := by
  intro jm nx hj hn x r h
  obtain ⟨lo, st, M⟩ := x
  rcases st with _ | ⟨b | b, st⟩
  · exact bm_no h
  · rcases st with _ | ⟨a | a, st⟩
    · exact bm_no h
    · obtain ⟨hk, h1⟩ := bm_bif h
      have hk := Nat.le_of_ble_eq_true hk
      obtain ⟨hm, hw⟩ := hn _ _ h1
      exact ⟨hm, fun a1 a2 a3 a4 H locs ls b1 b2 b3 => va_mmax hx hb (by rw [hml]; exact b3.1.symm) hown (hts _ hl) (hts _ hs9) (hts _ hi) (hts _ hco) hF (by rw [bm_sum]; omega) (by have := hm.1; dsimp only at this a3 a1 ⊢; omega) (by have := hm.2; dsimp only at this a4 a2 ⊢; omega) hd (hw a1 a2 a3 a4 H locs ls b1 b2 b3)⟩
    · exact bm_no h
  · exact bm_no h
theorem s_mmin (hx : p.tables.exec = Jvm.exec) (hb : c.code = cc) (hml : c.maxLocals = nL) (hown : s.vm.findClass own = some m.cls) (hts : ∀ w ∈ bm_T, w.before args s = true) {index : Nat} (hl : Cond.methodLink own index Lib.Math.min.name ∈ bm_T) (hs9 : Cond.static Lib.Math.min.name ∈ bm_T) (hi : Cond.initialized "java/lang/Math" ∈ bm_T) (hco : Cond.code Lib.Math.min.name Lib.Math.min.code 2 (some .int) ∈ bm_T) (hF : 1 ≤ R.frames) (hL : 17 ≤ R.locals) (hd : decode cc pc = .ok (.invokestatic index, 3)) : bm_Sim p l e R s m args below meth c nL g n0 s0 Qf pc (pc + 3) (op_mm (fun a b => if b < a then b else a)) := by
  intro jm nx hj hn x r h
  obtain ⟨lo, st, M⟩ := x
  rcases st with _ | ⟨b | b, st⟩
  · exact bm_no h
  · rcases st with _ | ⟨a | a, st⟩
    · exact bm_no h
    · obtain ⟨hk, h1⟩ := bm_bif h
      have hk := Nat.le_of_ble_eq_true hk
      obtain ⟨hm, hw⟩ := hn _ _ h1
      exact ⟨hm, fun a1 a2 a3 a4 H locs ls b1 b2 b3 => va_mmin hx hb (by rw [hml]; exact b3.1.symm) hown (hts _ hl) (hts _ hs9) (hts _ hi) (hts _ hco) hF (by rw [bm_sum]; omega) (by have := hm.1; dsimp only at this a3 a1 ⊢; omega) (by have := hm.2; dsimp only at this a4 a2 ⊢; omega) hd (hw a1 a2 a3 a4 H locs ls b1 b2 b3)⟩
    · exact bm_no h
  · exact bm_no h
def bm_tsw (jm : bm_J) (d : Nat) (y : bm_C) (v : Int32) : Nat → List Nat → Option bm_R
  | _, [] => jm d y
  | i, t :: ts => if v = Int32.ofNat i then jm t y else bm_tsw jm d y v (i + 1) ts
theorem bm_tsw_cases {jm : bm_J} {d : Nat} {y : bm_C} {v : Int32} {r : bm_R} : ∀ (ts : List Nat) (i : Nat), bm_tsw jm d y v i ts = some r → (∃ j t, ts[j]? = some t ∧ v = Int32.ofNat (i + j) ∧ jm t y = some r) ∨ ((∀ j, j < ts.length → v ≠ Int32.ofNat (i + j)) ∧ jm d y = some r)
  | [], i, h => Or.inr ⟨fun j hj => absurd hj (Nat.not_lt_zero j), h⟩
  | t :: ts, i, h => by
    unfold bm_tsw at h
    by_cases hv : v = Int32.ofNat i
    · rw [if_pos hv] at h
      exact Or.inl ⟨0, t, rfl, hv, h⟩
    · rw [if_neg hv] at h
      rcases bm_tsw_cases ts (i + 1) h with ⟨j, t', h1, h2, h3⟩ | ⟨h1, h2⟩
      · exact Or.inl ⟨j + 1, t', h1, by rw [h2]; congr 1; omega, h3⟩
      · refine Or.inr ⟨fun j hj => ?_, h2⟩
        cases j with
        | zero => exact hv
        | succ j => have := h1 j (by simpa using hj); rw [show i + (j + 1) = i + 1 + j by omega]; exact this
def op_tsw (ts : List Nat) (d : Nat) : bm_O := fun jm _ x => match x with | (lo, st, M) => match st with
  | .inl v :: st => bm_tsw jm d (lo, st, M) v 0 ts
  | _ => none
theorem s_tsw (hx : p.tables.exec = Jvm.exec) (hb : c.code = cc) {dflt hi : Int} {offs : Array Int} {len d : Nat} {ts : List Nat} (hd : decode cc pc = .ok (.tableswitch dflt 0 hi offs, len)) (hdt : (pc : Int) + dflt = (d : Int)) (hhi : hi + 1 = (ts.length : Int)) (hlen : ts.length < 100) (hoffs : offs.toList.map (fun o => (pc : Int) + o) = ts.map (fun t => ((t : Nat) : Int))) : bm_Sim p l e R s m args below meth c nL g n0 s0 Qf pc np (op_tsw ts d) := by
  intro jm nx hj hn x r h
  obtain ⟨lo, st, M⟩ := x
  rcases st with _ | ⟨v | v, st⟩
  · exact bm_no h
  · rcases bm_tsw_cases ts 0 h with ⟨j, t, h1, h2, h3⟩ | ⟨h1, h3⟩
    · obtain ⟨hm, hw⟩ := hj _ _ _ h3
      refine ⟨hm, fun a1 a2 a3 a4 H locs ls b1 b2 b3 => ?_⟩
      have hjl : j < ts.length := (List.getElem?_eq_some_iff.mp h1).1
      rw [Nat.zero_add] at h2
      have hvI : v.toInt = (j : Int) := by rw [h2]; exact nI_toInt (by omega)
      have ho := congrArg (fun z => z[j]?) hoffs
      simp only [List.getElem?_map, h1, Option.map_some] at ho
      cases ho2 : offs.toList[j]? with
      | none => rw [ho2] at ho; simp at ho
      | some off =>
        rw [ho2] at ho
        simp only [Option.map_some, Option.some.injEq] at ho
        exact lv_tableIn hx hb hd (by omega) (by omega) (by rw [hvI]; show offs[((j : Int) - 0).toNat]? = some off; rw [show ((j : Int) - 0).toNat = j by omega, ← Array.getElem?_toList]; exact ho2) ho (hw a1 a2 a3 a4 H locs ls b1 b2 b3)
    · obtain ⟨hm, hw⟩ := hj _ _ _ h3
      refine ⟨hm, fun a1 a2 a3 a4 H locs ls b1 b2 b3 => ?_⟩
      refine lv_tableOut hx hb hd ?_ hdt (hw a1 a2 a3 a4 H locs ls b1 b2 b3)
      refine Classical.byContradiction fun q => ?_
      have q1 : 0 ≤ v.toInt := by omega
      have q2 : v.toInt.toNat < ts.length := by omega
      refine h1 _ q2 ?_
      rw [Nat.zero_add]
      exact Int32.toInt_inj.mp (by rw [show (Int32.ofNat v.toInt.toNat).toInt = _ from nI_toInt (by omega)]; omega)
  · exact bm_no h
theorem s_lsw2 (hx : p.tables.exec = Jvm.exec) (hb : c.code = cc) {o0 o1 dflt : Int} {len d t0 t1 : Nat} (hd : decode cc pc = .ok (.lookupswitch dflt #[(0, o0), (1, o1)], len)) (hdt : (pc : Int) + dflt = (d : Int)) (h0 : (pc : Int) + o0 = (t0 : Int)) (h1 : (pc : Int) + o1 = (t1 : Int)) : bm_Sim p l e R s m args below meth c nL g n0 s0 Qf pc np (op_tsw [t0, t1] d) := by
  intro jm nx hj hn x r h
  obtain ⟨lo, st, M⟩ := x
  rcases st with _ | ⟨v | v, st⟩
  · exact bm_no h
  · change (if v = Int32.ofNat 0 then jm t0 (lo, st, M) else if v = Int32.ofNat (0 + 1) then jm t1 (lo, st, M) else jm d (lo, st, M)) = some r at h
    by_cases e0 : v = Int32.ofNat 0
    · rw [if_pos e0] at h
      obtain ⟨hm, hw⟩ := hj _ _ _ h
      exact ⟨hm, fun a1 a2 a3 a4 H locs ls b1 b2 b3 => lv_lookup hx hb hd rfl (off := o0) (by subst e0; rfl) h0 (hw a1 a2 a3 a4 H locs ls b1 b2 b3)⟩
    · rw [if_neg e0] at h
      by_cases e1 : v = Int32.ofNat (0 + 1)
      · rw [if_pos e1] at h
        obtain ⟨hm, hw⟩ := hj _ _ _ h
        exact ⟨hm, fun a1 a2 a3 a4 H locs ls b1 b2 b3 => lv_lookup hx hb hd rfl (off := o1) (by subst e1; rfl) h1 (hw a1 a2 a3 a4 H locs ls b1 b2 b3)⟩
      · rw [if_neg e1] at h
        obtain ⟨hm, hw⟩ := hj _ _ _ h
        exact ⟨hm, fun a1 a2 a3 a4 H locs ls b1 b2 b3 => lv_lookup hx hb hd rfl (off := dflt) (by
          show Op.lookupswitch.offset [((0 : Int), o0), ((1 : Int), o1)] dflt v.toInt = dflt
          rw [lv_osw (k := Int32.ofNat 0) (a := 0) e0 (by decide), lv_osw (k := Int32.ofNat (0 + 1)) (a := 1) e1 (by decide)]; rfl) hdt (hw a1 a2 a3 a4 H locs ls b1 b2 b3)⟩
  · exact bm_no h
def op_copy : bm_O := fun _ nx x => match x with | (lo, st, M) => match st with
  | [.inl n, .inl dp, .inr (some d), .inl sp, .inr (some a)] => bif (Nat.beq (bm_kd M a) 8 && (Nat.beq (bm_kd M d) 8 && Nat.ble 4 d)) then (if (sp < 0 ∨ dp < 0 ∨ n < 0) ∨ (bm_ln M a < sp.toNatClampNeg + n.toNatClampNeg ∨ bm_ln M d < dp.toNatClampNeg + n.toNatClampNeg) then none else nx (lo, [], bm_pA M d (va_cpy (bm_in M a) (bm_in M d) sp.toNatClampNeg dp.toNatClampNeg n.toNatClampNeg))) else none
  | _ => none
theorem bm_nn (z : Int32) (hz : ¬ z < 0) : z.toInt = (z.toNatClampNeg : Int) := by
  have hz0 : (0 : Int) ≤ z.toInt := by
    have := Int32.not_lt.mp hz
    simpa using Int32.le_iff_toInt_le.mp this
  show z.toInt = ((z.toInt.toNat : Nat) : Int)
  omega
theorem s_copy (hx : p.tables.exec = Jvm.exec) (hb : c.code = cc) (hml : c.maxLocals = nL) (hown : s.vm.findClass own = some m.cls) (hts : ∀ w ∈ bm_T, w.before args s = true) (hK : bm_K g s) {index : Nat} (hl : Cond.methodLink own index arraycopyName ∈ bm_T) (hna : Cond.native arraycopyName ∈ bm_T) (hst : Cond.static arraycopyName ∈ bm_T) (hi : Cond.initialized "java/lang/System" ∈ bm_T) (hF : 1 ≤ R.frames) (hL : nativeFrameWords "java/lang/System" "arraycopy" 5 + 11 ≤ R.locals) (hd : decode cc pc = .ok (.invokestatic index, 3)) : bm_Sim p l e R s m args below meth c nL g n0 s0 Qf pc (pc + 3) op_copy := by
  intro jm nx hj hn x r h
  obtain ⟨lo, st, M⟩ := x
  match st, h with
  | [.inl n, .inl dp, .inr (some d), .inl sp, .inr (some a)], h =>
    obtain ⟨hk, h1⟩ := bm_bif (b := (Nat.beq (bm_kd M a) 8 && (Nat.beq (bm_kd M d) 8 && Nat.ble 4 d))) (x := (if (sp < 0 ∨ dp < 0 ∨ n < 0) ∨ (bm_ln M a < sp.toNatClampNeg + n.toNatClampNeg ∨ bm_ln M d < dp.toNatClampNeg + n.toNatClampNeg) then none else nx (lo, [], bm_pA M d (va_cpy (bm_in M a) (bm_in M d) sp.toNatClampNeg dp.toNatClampNeg n.toNatClampNeg)))) h
    obtain ⟨hk1, hk2⟩ := Bool.and_eq_true_iff.mp hk
    obtain ⟨hk3, hk4⟩ := Bool.and_eq_true_iff.mp hk2
    have ka := Nat.eq_of_beq_eq_true hk1
    have kd := Nat.eq_of_beq_eq_true hk3
    have d4 := Nat.le_of_ble_eq_true hk4
    by_cases hq : (sp < 0 ∨ dp < 0 ∨ n < 0) ∨ (bm_ln M a < sp.toNatClampNeg + n.toNatClampNeg ∨ bm_ln M d < dp.toNatClampNeg + n.toNatClampNeg)
    · rw [if_pos hq] at h1; exact bm_no h1
    · rw [if_neg hq] at h1
      have q1 : ¬ sp < 0 := fun z => hq (Or.inl (Or.inl z))
      have q2 : ¬ dp < 0 := fun z => hq (Or.inl (Or.inr (Or.inl z)))
      have q3 : ¬ n < 0 := fun z => hq (Or.inl (Or.inr (Or.inr z)))
      have q4 : sp.toNatClampNeg + n.toNatClampNeg ≤ bm_ln M a := Nat.le_of_not_lt fun z => hq (Or.inr (Or.inl z))
      have q5 : dp.toNatClampNeg + n.toNatClampNeg ≤ bm_ln M d := Nat.le_of_not_lt fun z => hq (Or.inr (Or.inr z))
      obtain ⟨hm, hw⟩ := hn _ _ h1
      refine ⟨hm, fun a1 a2 a3 a4 H locs ls b1 b2 b3 => ?_⟩
      have hdn : d < bm_n M := b1.lt (by rw [kd]; decide)
      obtain ⟨cs, e1, e2, e3, e4, e5, e6⟩ := b1.arr hK ka
      have hc := b1.2.2.1 d d4 hdn
      change va_at _ _ (_, bm_ct _ _ _ M d) H at hc
      unfold bm_ct at hc
      rw [if_pos kd] at hc
      have hc1 : H[bm_ad g d]? = some (vp_cell g.2.2.2.2.1 (bm_ln M d, .inl (bm_in M d))) := hc
      dsimp only at e1 e4 e6
      intro T hT X
      obtain ⟨e7, k0, hk0, cm0, hkk0⟩ := e2
      obtain ⟨-, k1, hk1, cm1, hkk1⟩ := (hK.2.1.2 0 _ rfl).1 (bm_ln M d) (fun j => .int (bm_in M d j))
      obtain ⟨vm', X', step⟩ := X.arraycopy hx hown (hts _ hl) (hts _ hna) (hts _ hst) (hts _ hi) (src := bm_ad g a) (dst := bm_ad g d) (cs := cs) (cd := vp_cell g.2.2.2.2.1 (bm_ln M d, .inl (bm_in M d))) (srcPos := sp) (destPos := dp) (n := n) (by rw [hT]; exact e1) (by rw [hT]; exact hc1)
        e7 (fun _ h => by cases h) e3 (fun h => by cases h) hk0 hk1 hkk0 hkk1 (by simp [refKind]) q1 q2 q3
        (by rw [bm_nn sp q1, bm_nn n q3]; omega)
        (by rw [bm_nn dp q2, bm_nn n q3]; show ¬ _ > ((arrV g.2.2.2.2.1 (bm_ln M d) (fun j => .int (bm_in M d j))).slots.size : Int); rw [arrV_size]; omega)
        (fun vm₁ _ i hi => by
          have e : cs.slots.getD (sp.toNatClampNeg + i) .null = .int (bm_in M a (sp.toNatClampNeg + i)) := by
            rw [Array.getD_eq_getD_getElem?, e6 _ (by omega)]; rfl
          refine ⟨?_, ?_⟩
          · rw [e]; rfl
          · rw [e]; exact trivial)
        (g := F0 m pc ls [.int n, .int dp, .ref (bm_ad g d), .int sp, .ref (bm_ad g a)]) rfl (by rw [hml]; exact b3.1) (rest := []) rfl (by rw [hb]; exact hd) hF (by show 2 * 0 + 0 + _ ≤ _; omega)
      have e8 : copied cs (vp_cell g.2.2.2.2.1 (bm_ln M d, .inl (bm_in M d))) sp dp n = vp_cell g.2.2.2.2.1 (bm_ln M d, .inl (va_cpy (bm_in M a) (bm_in M d) sp.toNatClampNeg dp.toNatClampNeg n.toNatClampNeg)) := va_copiedX (fun z => .int z) cs g.2.2.2.2.1 (bm_in M a) (bm_in M d) e6 q4
      rw [e8] at X' step
      have hlt : bm_ad g d < H.size := (Array.getElem?_eq_some_iff.mp hc1).1
      have oq : ∀ q : Nat, q ≠ bm_ad g d → (H.setIfInBounds (bm_ad g d) (vp_cell g.2.2.2.2.1 (bm_ln M d, .inl (va_cpy (bm_in M a) (bm_in M d) sp.toNatClampNeg dp.toNatClampNeg n.toNatClampNeg))))[q]? = H[q]? := fun q hq => by simp [Array.getElem?_setIfInBounds, Ne.symm hq]
      obtain ⟨t, z1, z2⟩ := hw a1 a2 a3 a4 (H.setIfInBounds (bm_ad g d) (vp_cell g.2.2.2.2.1 (bm_ln M d, .inl (va_cpy (bm_in M a) (bm_in M d) sp.toNatClampNeg dp.toNatClampNeg n.toNatClampNeg)))) (locs ++ (cs.stretch sp.toNatClampNeg n.toNatClampNeg).zipIdx.map fun q => ⟨bm_ad g d, dp.toNatClampNeg + q.2⟩) ls
        (b1.put (M' := bm_pA M d (va_cpy (bm_in M a) (bm_in M d) sp.toNatClampNeg dp.toNatClampNeg n.toNatClampNeg)) d4 hdn ⟨rfl, rfl, rfl⟩ (by
          unfold bm_ct
          rw [if_pos (show bm_kd (bm_pA M d _) d = 8 from kd), bm_in_pS]
          show (H.setIfInBounds (bm_ad g d) _)[bm_ad g d]? = some _
          simp [Array.getElem?_setIfInBounds, hlt]; rfl) (by simp) oq (fun i hi => by
            have hI : bm_in (bm_pA M d (va_cpy (bm_in M a) (bm_in M d) sp.toNatClampNeg dp.toNatClampNeg n.toNatClampNeg)) i = bm_in M i := va_up_ne _ _ hi
            exact ⟨bm_ct_congr rfl rfl rfl hI, rfl, rfl, fun _ => by rw [hI]⟩))
        (fun q hq => by
          rcases List.mem_append.mp hq with h | h
          · exact b2 q h
          · obtain ⟨z, -, hz⟩ := List.mem_map.mp h
            rw [← hz]
            show g.1 ≤ bm_ad g d
            rw [bm_ad_ge d4]; omega) b3 _ (by rw [← hT]; rfl) X'
      exact ⟨t, step t z1, z2⟩
end BMJ
