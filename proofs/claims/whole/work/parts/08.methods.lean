/-! RETURNS AND CALLS; A METHOD BY ITS CODE -/
def bm_Qc (g : bm_G) (r : bm_R) : Array Value → State → Outcome → State → Prop := fun _ _ oc t => oc = .returned (r.1.map (bm_tr g)) ∧ bm_W g r.2 t.heap
def bm_Qm (g : bm_G) (below : List Frame) (args : Array Value) (s : State) (n0 s0 : Nat) (r : bm_R) : State → Prop := MQ below (bm_Qc g r) args s (bm_n r.2 - n0) (bm_sl r.2 - s0) (bm_fr g)
def bm_Pm (g : bm_G) (al : List bm_V) (M : bm_M) : Array Value → State → Prop := fun v U => v = (al.map (bm_tr g)).toArray ∧ bm_W g M U.heap ∧ bm_K g U
abbrev bm_Ws (y : MethodName) (cc : ByteArray) (maxL : Nat) (ret : Option FieldType) : List Cond := .code y cc maxL ret :: bm_T
/-- what is proved of a method: where the small machine's method answers, the machine's does, and alike -/
def bm_MetF (l : Launch) (g : bm_G) (y : MethodName) (cc : ByteArray) (maxL : Nat) (ret : Option FieldType) (fr lo : Nat) (f : bm_F) : Prop := ∀ (al : List bm_V) (M : bm_M) (r : bm_R), f al M = some r →
  (bm_n M ≤ bm_n r.2 ∧ bm_sl M ≤ bm_sl r.2) ∧ Met l y (bm_Ws y cc maxL ret) ({ frames := fr, cells := bm_n r.2 - bm_n M, slots := bm_sl r.2 - bm_sl M, locals := lo }) (bm_Pm g al M) (bm_Qc g r) (bm_n r.2 - bm_n M) (bm_sl r.2 - bm_sl M) (bm_fr g)
theorem bm_blind (g : bm_G) (al : List bm_V) (M : bm_M) : FrameBlind (bm_Pm g al M) := fun _ _ _ _ h => ⟨h.1, h.2.1, h.2.2.calling⟩
theorem bm_good {y : MethodName} {cc : ByteArray} {maxL : Nat} {ret : Option FieldType} (h : Cond.code y cc maxL ret ∈ bm_T) : GoodIn bm_T (bm_Ws y cc maxL ret) := by
  intro w hw
  have hm : w ∈ bm_T := (List.mem_cons.mp hw).elim (fun e => e ▸ h) id
  exact ⟨hm, good_of_word (List.mem_filter.mp hm).2⟩
/-- a method: its locals at the entry, its code, its back jumps bounded; it never gives cells back -/
def bm_mt (nL : Nat) (code : List (Nat × bm_O)) : bm_F := fun al M => bif Nat.ble al.length nL then Option.bind (bm_rn code 1000 0 (al.map some ++ List.replicate (nL - al.length) none, [], M)) (fun r => bif (Nat.ble (bm_n M) (bm_n r.2) && Nat.ble (bm_sl M) (bm_sl r.2)) then some r else none) else none
theorem bm_mt_spec {nL : Nat} {code : List (Nat × bm_O)} {al : List bm_V} {M : bm_M} {r : bm_R} (h : bm_mt nL code al M = some r) : al.length ≤ nL ∧ bm_rn code 1000 0 (al.map some ++ List.replicate (nL - al.length) none, [], M) = some r ∧ bm_n M ≤ bm_n r.2 ∧ bm_sl M ≤ bm_sl r.2 := by
  obtain ⟨h1, h2⟩ := bm_bif h
  cases hr : bm_rn code 1000 0 (al.map some ++ List.replicate (nL - al.length) none, [], M) with
  | none => rw [hr] at h2; exact bm_no h2
  | some r1 =>
    rw [hr] at h2
    obtain ⟨h3, h4⟩ := bm_bif (b := (Nat.ble (bm_n M) (bm_n r1.2) && Nat.ble (bm_sl M) (bm_sl r1.2))) (x := some r1) h2
    cases h4
    obtain ⟨h5, h6⟩ := Bool.and_eq_true_iff.mp h3
    exact ⟨Nat.le_of_ble_eq_true h1, rfl, Nat.le_of_ble_eq_true h5, Nat.le_of_ble_eq_true h6⟩
theorem bm_mt_run {nL : Nat} {code : List (Nat × bm_O)} {al : List bm_V} {M : bm_M} {r : bm_R} (h : bm_rn code 1000 0 (al.map some ++ List.replicate (nL - al.length) none, [], M) = some r) (h1 : Nat.ble al.length nL = true) (h2 : bm_n M ≤ bm_n r.2) (h3 : bm_sl M ≤ bm_sl r.2) : bm_mt nL code al M = some r := by
  unfold bm_mt
  rw [h1, h]
  show (bif (Nat.ble (bm_n M) (bm_n r.2) && Nat.ble (bm_sl M) (bm_sl r.2)) then some r else none) = some r
  rw [Nat.ble_eq_true_of_le h2, Nat.ble_eq_true_of_le h3]; rfl
section BMK
variable {p : Program} {l : Launch} {e : Env} {R : Room} {s : State} {m : MethodId} {args : Array Value} {below : List Frame} {meth : Method} {c : Code} {nL : Nat} {g : bm_G} {n0 s0 : Nat} {Qf : bm_R → State → Prop} {cc : ByteArray} {pc np : Nat} {own : String}
def op_iret : bm_O := fun _ _ x => match x with | (lo, st, M) => match st with
  | [.inl v] => some (some (.inl v), M)
  | _ => none
def op_zret : bm_O := fun _ _ x => match x with | (lo, st, M) => match st with
  | [.inl v] => if v = 0 ∨ v = 1 then some (some (.inl v), M) else none
  | _ => none
def op_ret : bm_O := fun _ _ x => match x with | (lo, st, M) => match st with
  | [] => some (none, M)
  | _ => none
def op_aret : bm_O := fun _ _ x => match x with | (lo, st, M) => match st with
  | [.inr (some a)] => some (some (.inr (some a)), M)
  | _ => none
theorem s_iret (hx : p.tables.exec = Jvm.exec) (hb : c.code = cc) (hr : meth.sig.returnType = some .int) (hlk : meth.locks = false) (hd : decode cc pc = .ok (.ireturn, 1)) : bm_Sim p l e R s m args below meth c nL g n0 s0 (bm_Qm g below args s n0 s0) pc np op_iret := by
  intro jm nx hj hn x r h
  obtain ⟨lo, st, M⟩ := x
  match st, h with
  | [.inl v], h =>
    cases h
    exact ⟨⟨Nat.le_refl _, Nat.le_refl _⟩, fun a1 a2 a3 a4 H locs ls b1 b2 b3 => W.iret hx hb hr (fun t ht hW => ⟨rfl, by rw [ht]; exact b1⟩) b2 hd hlk⟩
theorem s_zret (hx : p.tables.exec = Jvm.exec) (hb : c.code = cc) (hr : meth.sig.returnType = some .boolean) (hlk : meth.locks = false) (hd : decode cc pc = .ok (.ireturn, 1)) : bm_Sim p l e R s m args below meth c nL g n0 s0 (bm_Qm g below args s n0 s0) pc np op_zret := by
  intro jm nx hj hn x r h
  obtain ⟨lo, st, M⟩ := x
  match st, h with
  | [.inl v], h =>
    change (if v = 0 ∨ v = 1 then some (some (.inl v), M) else none) = some r at h
    by_cases hv : v = 0 ∨ v = 1
    · rw [if_pos hv] at h
      cases h
      exact ⟨⟨Nat.le_refl _, Nat.le_refl _⟩, fun a1 a2 a3 a4 H locs ls b1 b2 b3 => W.zret hx hb hr (by rcases hv with rfl | rfl <;> rfl) (fun t ht hW => ⟨rfl, by rw [ht]; exact b1⟩) b2 hd hlk⟩
    · rw [if_neg hv] at h; exact bm_no h
theorem s_ret (hx : p.tables.exec = Jvm.exec) (hb : c.code = cc) (hr : meth.sig.returnType = none) (hlk : meth.locks = false) (hd : decode cc pc = .ok (.return_, 1)) : bm_Sim p l e R s m args below meth c nL g n0 s0 (bm_Qm g below args s n0 s0) pc np op_ret := by
  intro jm nx hj hn x r h
  obtain ⟨lo, st, M⟩ := x
  match st, h with
  | [], h =>
    cases h
    exact ⟨⟨Nat.le_refl _, Nat.le_refl _⟩, fun a1 a2 a3 a4 H locs ls b1 b2 b3 => W.vret hx hb hr (fun t ht hW => ⟨rfl, by rw [ht]; exact b1⟩) b2 hd hlk⟩
theorem s_aret (hx : p.tables.exec = Jvm.exec) (hb : c.code = cc) {rt : FieldType} (hr : meth.sig.returnType = some rt) (hrt : (∃ n, rt = .object n) ∨ ∃ t, rt = .array t) (hlk : meth.locks = false) (hd : decode cc pc = .ok (.areturn, 1)) : bm_Sim p l e R s m args below meth c nL g n0 s0 (bm_Qm g below args s n0 s0) pc np op_aret := by
  intro jm nx hj hn x r h
  obtain ⟨lo, st, M⟩ := x
  match st, h with
  | [.inr (some a)], h =>
    cases h
    exact ⟨⟨Nat.le_refl _, Nat.le_refl _⟩, fun a1 a2 a3 a4 H locs ls b1 b2 b3 => W.aret hx hb hr hrt (Or.inr ⟨_, rfl⟩) (fun t ht hW => ⟨rfl, by rw [ht]; exact b1⟩) b2 hd hlk⟩
def bm_rk (k : List bm_V → Option bm_R) : Nat → Option bm_V → Option bm_R
  | 0, none => k []
  | 1, some (.inl v) => k [.inl v]
  | 2, some (.inr (some a)) => k [.inr (some a)]
  | _, _ => none
theorem bm_rk_spec (g : bm_G) {k : List bm_V → Option bm_R} {i : Nat} {v : Option bm_V} {r : bm_R} (h : bm_rk k i v = some r) : ∃ vs, k vs = some r ∧ vs.map (bm_tr g) = (v.map (bm_tr g)).toList := by
  unfold bm_rk at h
  split at h
  · exact ⟨_, h, rfl⟩
  · exact ⟨_, h, rfl⟩
  · exact ⟨_, h, rfl⟩
  · exact bm_no h
def op_call (rk na : Nat) (ck : List bm_V → bm_M → Bool) (f : bm_F) : bm_O := fun _ nx x => match x with | (lo, st, M) => bif ((Nat.ble na st.length && Nat.ble st.length (na + 8)) && ck (st.take na).reverse M) then Option.bind (f (st.take na).reverse M) (fun r => bm_rk (fun vs => nx (lo, vs ++ st.drop na, r.2)) rk r.1) else none
def bm_rc (ci : Nat) : List bm_V → bm_M → Bool := fun al M => match al with
  | .inr (some a) :: _ => Nat.beq (bm_kd M a) ci
  | _ => false
def bm_c0 : List bm_V → bm_M → Bool := fun _ _ => true
theorem bm_after {H : Heap} {locs : List Loc} {cells slots mc ms : Nat} {Q : State → Prop} {ls : Array Slot} {rest st0 : List Value} {r : bm_R} {a : Array Value} (hr : va_Run p l e R s m args below meth c H locs cells slots mc ms (F0 m pc ls st0) rest (bm_Qc g r a) (bm_fr g)) (b2 : ∀ q ∈ locs, g.1 ≤ q.base)
    (kk : ∀ (H1 : Heap) (locs1 : List Loc), bm_W g r.2 H1 → (∀ q ∈ locs1, g.1 ≤ q.base) → W p l e R s m args below meth c H1 locs1 (cells + mc) (slots + ms) Q (F0 m (pc + 3) ls ((r.1.map (bm_tr g)).toList ++ rest))) : W p l e R s m args below meth c H locs cells slots Q (F0 m pc ls st0) := by
  intro T hT X
  obtain ⟨v, st₀, t, T', L, h0, X', hL, e1, e2, ⟨hv, hw⟩, st⟩ := hr T hT X
  cases hv
  obtain ⟨t2, a1, b1⟩ := kk T'.heap (locs ++ L) (by rw [e1]; exact hw) (fun q hq => by
    rcases List.mem_append.mp hq with h | h
    · exact b2 q h
    · exact hL q h) T' rfl X'
  exact ⟨t2, st t2 a1, b1⟩
/-- the frame of a call: what is common to its kinds -/
theorem bm_callW {rk na : Nat} {ck : List bm_V → bm_M → Bool} {f : bm_F} (hf : ∀ al M r, f al M = some r → bm_n M ≤ bm_n r.2 ∧ bm_sl M ≤ bm_sl r.2)
    (hrun : ∀ (al rst : List bm_V) (M : bm_M) (r1 : bm_R) (H : Heap) (locs : List Loc) (ls : Array Slot) (cells slots : Nat), f al M = some r1 → ck al M = true → al.length = na → rst.length ≤ 8 → bm_W g M H → ls.size = nL → cells + (bm_n r1.2 - bm_n M) ≤ R.cells → slots + (bm_sl r1.2 - bm_sl M) ≤ R.slots →
      ∃ a, va_Run p l e R s m args below meth c H locs cells slots (bm_n r1.2 - bm_n M) (bm_sl r1.2 - bm_sl M) (F0 m pc ls ((al.reverse ++ rst).map (bm_tr g))) (rst.map (bm_tr g)) (bm_Qc g r1 a) (bm_fr g)) : bm_Sim p l e R s m args below meth c nL g n0 s0 Qf pc (pc + 3) (op_call rk na ck f) := by
  intro jm nx hj hn x r h
  obtain ⟨lo, st, M⟩ := x
  obtain ⟨hk, h1⟩ := bm_bif h
  obtain ⟨hk1, hck⟩ := Bool.and_eq_true_iff.mp hk
  obtain ⟨hk2, hk3⟩ := Bool.and_eq_true_iff.mp hk1
  have hk2 := Nat.le_of_ble_eq_true hk2
  have hk3 := Nat.le_of_ble_eq_true hk3
  cases hfr : f (st.take na).reverse M with
  | none => rw [hfr] at h1; exact bm_no h1
  | some r1 =>
    rw [hfr] at h1
    obtain ⟨vs, h2, h3⟩ := bm_rk_spec g (k := fun vs => nx (lo, vs ++ st.drop na, r1.2)) (i := rk) (v := r1.1) (r := r) h1
    obtain ⟨hm, hw⟩ := hn _ _ h2
    have hmo := hf _ _ _ hfr
    dsimp only at hm hw
    refine ⟨⟨Nat.le_trans hmo.1 hm.1, Nat.le_trans hmo.2 hm.2⟩, fun a1 a2 a3 a4 H locs ls b1 b2 b3 => ?_⟩
    dsimp only at a1 a2 b1 b3 ⊢
    obtain ⟨hm1, hm2⟩ := hm
    obtain ⟨ho1, ho2⟩ := hmo
    obtain ⟨a, run⟩ := hrun (st.take na).reverse (st.drop na) M r1 H locs ls (bm_n M - n0) (bm_sl M - s0) hfr hck (by rw [List.length_reverse, List.length_take]; omega) (by rw [List.length_drop]; omega) b1 b3.1 (by omega) (by omega)
    rw [List.reverse_reverse, List.take_append_drop] at run
    refine bm_after run b2 (fun H1 locs1 e1 e2 => ?_)
    refine W.cs (show _ = bm_n r1.2 - n0 by omega) (show _ = bm_sl r1.2 - s0 by omega) ?_
    have key := hw (by omega) (by omega) a3 a4 H1 locs1 ls e1 e2 b3
    rw [List.map_append, h3] at key
    exact key
variable {index maxL fr lo rk na : Nat} {y : MethodName} {bytes : ByteArray} {ret : Option FieldType} {f : bm_F}
theorem s_callS (hx : p.tables.exec = Jvm.exec) (hb : c.code = cc) (hml : c.maxLocals = nL) (hown : s.vm.findClass own = some m.cls) (hts : ∀ w ∈ bm_T, w.before args s = true) (hK : bm_K g s) (hM : bm_MetF l g y bytes maxL ret fr lo f) (hl : Cond.methodLink own index y ∈ bm_T) (hst : Cond.static y ∈ bm_T) (hini : Cond.initialized y.cls ∈ bm_T) (hcd : Cond.code y bytes maxL ret ∈ bm_T)
    (hdd : y.cls ≠ "java/lang/invoke/MethodHandle" ∧ y.cls ≠ "java/lang/invoke/VarHandle" ∧ (parseMethodDescriptor y.desc).map (fun d => d.parameters.length) = some na) (hR : fr + 1 ≤ R.frames ∧ 8 + (maxL + 11) + lo ≤ R.locals) (hd : decode cc pc = .ok (.invokestatic index, 3)) : bm_Sim p l e R s m args below meth c nL g n0 s0 Qf pc (pc + 3) (op_call rk na bm_c0 f) := by
  refine bm_callW (fun al M r h => (hM al M r h).1) (fun al rst M r1 H locs ls cells slots h1 h2 h3 h4 h5 h6 h7 h8 => ?_)
  exact ⟨_, va_runS (As := al.map (bm_tr g)) (rest := rst.map (bm_tr g)) (g := F0 m pc ls ((al.reverse ++ rst).map (bm_tr g))) ⟨hx, hb, hml, hown, hts⟩ (hM al M r1 h1).2 ⟨callB_of na hts (bm_good hcd) rfl rfl rfl (hts _ hini) (hts _ hl) hdd hR, hts _ hst⟩ ⟨bm_blind g al M, fun U hU hW => ⟨rfl, by rw [hU]; exact h5, bm_K.warm hW hK⟩⟩ rfl (by rw [List.length_map]; exact h3) h6 (by show (al.reverse ++ rst).map _ = _; rw [List.map_append, List.map_reverse]) (by show 2 * 0 + ((rst.map (bm_tr g)).map fun v => v.category).sum ≤ 8; rw [bm_sum]; omega) hd ⟨h7, h8⟩⟩
theorem s_callSN (hx : p.tables.exec = Jvm.exec) (hb : c.code = cc) (hml : c.maxLocals = nL) (hown : s.vm.findClass own = some m.cls) (hts : ∀ w ∈ bm_T, w.before args s = true) (hK : bm_K g s) {host : String} (hM : bm_MetF l g y bytes maxL ret fr lo f) (hl : va_Nw (.methodLinkNest own index y host) s) (hst : Cond.static y ∈ bm_T) (hini : Cond.initialized y.cls ∈ bm_T) (hcd : Cond.code y bytes maxL ret ∈ bm_T)
    (hdd : y.cls ≠ "java/lang/invoke/MethodHandle" ∧ y.cls ≠ "java/lang/invoke/VarHandle" ∧ (parseMethodDescriptor y.desc).map (fun d => d.parameters.length) = some na) (hR : fr + 1 ≤ R.frames ∧ 8 + (maxL + 11) + lo ≤ R.locals) (hd : decode cc pc = .ok (.invokestatic index, 3)) : bm_Sim p l e R s m args below meth c nL g n0 s0 Qf pc (pc + 3) (op_call rk na bm_c0 f) := by
  refine bm_callW (fun al M r h => (hM al M r h).1) (fun al rst M r1 H locs ls cells slots h1 h2 h3 h4 h5 h6 h7 h8 => ?_)
  exact ⟨_, va_runSN (As := al.map (bm_tr g)) (rest := rst.map (bm_tr g)) (g := F0 m pc ls ((al.reverse ++ rst).map (bm_tr g))) ⟨hx, hb, hml, hown, hts⟩ (hM al M r1 h1).2 ⟨va_cnB na hts (bm_good hcd) rfl rfl rfl hl (hts _ hini) hdd hR, hts _ hst, trivial⟩ ⟨bm_blind g al M, fun U hU hW => ⟨rfl, by rw [hU]; exact h5, bm_K.warm hW hK⟩⟩ rfl (by rw [List.length_map]; exact h3) h6 (by show (al.reverse ++ rst).map _ = _; rw [List.map_append, List.map_reverse]) (by show 2 * 0 + ((rst.map (bm_tr g)).map fun v => v.category).sum ≤ 8; rw [bm_sum]; omega) hd ⟨h7, h8⟩⟩
theorem bm_rc_spec {ci : Nat} {al : List bm_V} {M : bm_M} (h : bm_rc ci al M = true) : ∃ a as, al = .inr (some a) :: as ∧ bm_kd M a = ci := by
  match al, h with
  | .inr (some a) :: as, h => exact ⟨a, as, rfl, Nat.eq_of_beq_eq_true h⟩
theorem s_callV (hx : p.tables.exec = Jvm.exec) (hb : c.code = cc) (hml : c.maxLocals = nL) (hown : s.vm.findClass own = some m.cls) (hts : ∀ w ∈ bm_T, w.before args s = true) (hK : bm_K g s) {C : String} {TT : u_T} {N ci : Nat} (hc : vwCl[ci]? = some (C, TT, N)) (h8 : ci < 8) (hM : bm_MetF l g y bytes maxL ret fr lo f) (hl : Cond.methodLink own index y ∈ bm_T) (hin9 : Cond.instanceMethod y ∈ bm_T) (hse : Cond.selects C y y ∈ bm_T) (hini : Cond.initialized y.cls ∈ bm_T) (hcd : Cond.code y bytes maxL ret ∈ bm_T)
    (hdd : y.cls ≠ "java/lang/invoke/MethodHandle" ∧ y.cls ≠ "java/lang/invoke/VarHandle" ∧ (parseMethodDescriptor y.desc).map (fun d => d.parameters.length) = some na) (hR : fr + 1 ≤ R.frames ∧ 8 + (maxL + 11) + lo ≤ R.locals) (hd : decode cc pc = .ok (.invokevirtual index, 3)) : bm_Sim p l e R s m args below meth c nL g n0 s0 Qf pc (pc + 3) (op_call rk (na + 1) (bm_rc ci) f) := by
  refine bm_callW (fun al M r h => (hM al M r h).1) (fun al rst M r1 H locs ls cells slots h1 h2 h3 h4 h5 h6 h7 h9 => ?_)
  obtain ⟨a, as, rfl, hkd⟩ := bm_rc_spec h2
  subst hkd
  have h49 := h5.old (Or.inl h8)
  have hat := h5.2.2.1 a h49.1 h49.2
  rw [bm_ct_ob h8] at hat
  obtain ⟨r', hr', cellB, g1, g2, g3, -⟩ := hat
  have hcls := (hK.2.1.1 _ _ hc).2
  exact ⟨_, va_runV (C := C) (b := bm_ad g a) (As := as.map (bm_tr g)) (rest := rst.map (bm_tr g)) (g := F0 m pc ls ((((.inr (some a) :: as : List bm_V)).reverse ++ rst).map (bm_tr g))) ⟨hx, hb, hml, hown, hts⟩ (hM _ M r1 h1).2 ⟨callB_of na hts (bm_good hcd) rfl rfl rfl (hts _ hini) (hts _ hl) hdd hR, hts _ hin9, hts _ hse⟩ ⟨bm_blind g _ M, ⟨cellB, g1, by rw [g3]; rfl, by rw [g2]; exact hcls.1⟩, fun U hU hW => ⟨rfl, by rw [hU]; exact h5, bm_K.warm hW hK⟩⟩ rfl (by rw [List.length_map]; simpa using h3) h6 (by show (((.inr (some a) :: as : List bm_V)).reverse ++ rst).map _ = _; rw [List.reverse_cons, List.map_append, List.map_append, List.map_reverse, List.append_assoc]; rfl) (by show 2 * 0 + ((rst.map (bm_tr g)).map fun v => v.category).sum ≤ 8; rw [bm_sum]; omega) hd ⟨h7, h9⟩⟩
theorem s_callI (hx : p.tables.exec = Jvm.exec) (hb : c.code = cc) (hml : c.maxLocals = nL) (hown : s.vm.findClass own = some m.cls) (hts : ∀ w ∈ bm_T, w.before args s = true) (hK : bm_K g s) {ci : Nat} (hM : bm_MetF l g y bytes maxL none fr lo f) (hl : Cond.methodLink own index y ∈ bm_T) (hin9 : Cond.instanceMethod y ∈ bm_T) (hy1 : y.name = "<init>") (hini : Cond.initialized y.cls ∈ bm_T) (hcd : Cond.code y bytes maxL none ∈ bm_T)
    (hdd : y.cls ≠ "java/lang/invoke/MethodHandle" ∧ y.cls ≠ "java/lang/invoke/VarHandle" ∧ (parseMethodDescriptor y.desc).map (fun d => d.parameters.length) = some na) (hR : fr + 1 ≤ R.frames ∧ 8 + (maxL + 11) + lo ≤ R.locals) (hd : decode cc pc = .ok (.invokespecial index, 3)) : bm_Sim p l e R s m args below meth c nL g n0 s0 Qf pc (pc + 3) (op_call rk (na + 1) (bm_rc ci) f) := by
  refine bm_callW (fun al M r h => (hM al M r h).1) (fun al rst M r1 H locs ls cells slots h1 h2 h3 h4 h5 h6 h7 h9 => ?_)
  obtain ⟨a, as, rfl, hkd⟩ := bm_rc_spec h2
  exact ⟨_, va_runI (b := bm_ad g a) (As := as.map (bm_tr g)) (rest := rst.map (bm_tr g)) (g := F0 m pc ls ((((.inr (some a) :: as : List bm_V)).reverse ++ rst).map (bm_tr g))) ⟨hx, hb, hml, hown, hts⟩ (hM _ M r1 h1).2 ⟨callB_of na hts (bm_good hcd) rfl rfl rfl (hts _ hini) (hts _ hl) hdd hR, hy1, hts _ hin9⟩ ⟨bm_blind g _ M, fun U hU hW => ⟨rfl, by rw [hU]; exact h5, bm_K.warm hW hK⟩⟩ rfl (by rw [List.length_map]; simpa using h3) h6 (by show (((.inr (some a) :: as : List bm_V)).reverse ++ rst).map _ = _; rw [List.reverse_cons, List.map_append, List.map_append, List.map_reverse, List.append_assoc]; rfl) (by show 2 * 0 + ((rst.map (bm_tr g)).map fun v => v.category).sum ≤ 8; rw [bm_sum]; omega) hd ⟨h7, h9⟩⟩
end BMK
theorem bm_args (g : bm_G) : ∀ (al : List bm_V) (k i : Nat) (v : bm_V), al[i]? = some v → (k + i, bm_tr g v) ∈ lv_args k (al.map (bm_tr g))
  | [], k, i, v, h => by simp at h
  | a :: al, k, i, v, h => by
    rw [List.map_cons]
    unfold lv_args
    rw [if_neg (by rw [bm_cat]; decide)]
    cases i with
    | zero => rw [List.getElem?_cons_zero] at h; cases h; exact List.mem_cons_self
    | succ i =>
      rw [List.getElem?_cons_succ] at h
      rw [show k + (i + 1) = (k + 1) + i by omega]
      exact List.mem_cons_of_mem _ (bm_args g al (k + 1) i v h)
theorem bm_sl_len (g : bm_G) (al : List bm_V) : (lg_sl (al.map (bm_tr g))).length = al.length := by
  induction al with
  | nil => rfl
  | cons a al ih =>
    show (List.flatMap _ _).length = _
    rw [List.map_cons, List.flatMap_cons, List.length_append, if_neg (by rw [bm_cat]; decide)]
    have : (List.flatMap (fun v => if Value.category v = 2 then [Slot.val v, Slot.second] else [Slot.val v]) (List.map (bm_tr g) al)).length = al.length := ih
    rw [this]; simp only [List.length_cons, List.length_nil]; omega
/-- the locals at a method's entry -/
theorem bm_entry (g : bm_G) {al : List bm_V} {nL : Nat} (h : al.length ≤ nL) : bm_lr g nL ((lg_sl (al.map (bm_tr g)) ++ List.replicate (nL - (lg_sl (al.map (bm_tr g))).length) Slot.unset).toArray) (al.map some ++ List.replicate (nL - al.length) none) := by
  have hl := lv_entry (al.map (bm_tr g)) (n := nL) (by rw [bm_sl_len]; exact h)
  refine ⟨hl.1, by simp; omega, hl.2.1, fun i v hv => ?_⟩
  have hi : al[i]? = some v := by
    rw [List.getD_eq_getElem?_getD] at hv
    by_cases hlt : i < al.length
    · rw [List.getElem?_append_left (by simpa using hlt), List.getElem?_map] at hv
      cases ha : al[i]? with
      | none => rw [ha] at hv; cases hv
      | some w => rw [ha] at hv; cases hv; rfl
    · rw [List.getElem?_append_right (by simp; omega), List.getElem?_replicate] at hv
      split at hv <;> cases hv
  have := hl.2.2 _ (bm_args g al 0 i v hi)
  rw [Nat.zero_add] at this
  exact this
/-- a method by its code: each step followed, so the method -/
theorem bm_met {l : Launch} {g : bm_G} {y : MethodName} {cc : ByteArray} {maxL : Nat} {ret : Option FieldType} {fr lo : Nat} {code : List (Nat × bm_O)} (hy : plainName y.cls = true)
    (hCS : ∀ (p : Program) (e : Env) (R : Room) (s : State) (m : MethodId) (args : Array Value) (below : List Frame) (meth : Method) (c : Code) (n0 s0 : Nat), p.tables.exec = Jvm.exec → c.code = cc → c.maxLocals = maxL → s.vm.findClass y.cls = some m.cls → (∀ w ∈ bm_T, w.before args s = true) → bm_K g s → meth.sig.returnType = ret → meth.locks = false → meth.name = y.name → R.frames = fr → R.locals = lo →
      bm_CS (bm_Sim p l e R s m args below meth c maxL g n0 s0 (bm_Qm g below args s n0 s0)) code) : bm_MetF l g y cc maxL ret fr lo (bm_mt maxL code) := by
  intro al M r hf
  obtain ⟨h1, h2, h3, h4⟩ := bm_mt_spec hf
  refine ⟨⟨h3, h4⟩, Met.ofW (cc := cc) (maxL := maxL) (ret := ret) hy rfl ?_⟩
  intro p e s m args below meth c s₁ B hml hP
  obtain ⟨rfl, hW, hK⟩ := hP
  have hts := atoms_spec (ws := bm_Ws y cc maxL ret) B.pre
  have hown : s.vm.findClass y.cls = some m.cls := findClass_of_methodNamed B.named
  have hnm : meth.name = y.name := (name_of_methodNamed B.named B.method).1
  have key := (bm_rn_sim (hCS p e ({ frames := fr, cells := bm_n r.2 - bm_n M, slots := bm_sl r.2 - bm_sl M, locals := lo } : Room) s m _ below meth c (bm_n M) (bm_sl M) B.exec B.bytes hml hown (fun w hw => hts w (List.mem_cons_of_mem _ hw)) hK B.returns B.notSynchronized hnm rfl rfl) 1000 0 _ r h2).2 (Nat.le_refl _) (Nat.le_refl _) (Nat.le_refl _) (Nat.le_refl _) s.heap [] _ hW (fun _ h => by cases h) (bm_entry g h1)
  dsimp only at key
  rw [Nat.sub_self, Nat.sub_self] at key
  rw [lg_entry_eq]
  exact key
