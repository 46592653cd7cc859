/-! THE SMALL MACHINE'S STEPS, and that each is followed -/
section BMD
variable (p : Program) (l : Launch) (e : Env) (R : Room) (s : State) (m : MethodId) (args : Array Value) (below : List Frame) (meth : Method) (c : Code) (nL : Nat) (g : bm_G) (n0 s0 : Nat) (Qf : bm_R → State → Prop)
/-- from this place, locals, stack and memory the machine comes to what the small machine answers -/
def bm_Wc (t : Nat) (x : bm_C) (r : bm_R) : Prop :=
  (bm_n x.2.2 ≤ bm_n r.2 ∧ bm_sl x.2.2 ≤ bm_sl r.2) ∧
  (n0 ≤ bm_n x.2.2 → s0 ≤ bm_sl x.2.2 → bm_n r.2 - n0 ≤ R.cells → bm_sl r.2 - s0 ≤ R.slots → ∀ (H : Heap) (locs : List Loc) (ls : Array Slot), bm_W g x.2.2 H → (∀ q ∈ locs, g.1 ≤ q.base) → bm_lr g nL ls x.1 →
    W p l e R s m args below meth c H locs (bm_n x.2.2 - n0) (bm_sl x.2.2 - s0) (Qf r) (F0 m t ls (x.2.1.map (bm_tr g))))
def bm_Sim (pc np : Nat) (op : bm_O) : Prop := ∀ (jm : bm_J) (nx : bm_N), (∀ t x r, jm t x = some r → bm_Wc p l e R s m args below meth c nL g n0 s0 Qf t x r) → (∀ x r, nx x = some r → bm_Wc p l e R s m args below meth c nL g n0 s0 Qf np x r) → ∀ x r, op jm nx x = some r → bm_Wc p l e R s m args below meth c nL g n0 s0 Qf pc x r
def bm_hd : List (Nat × bm_O) → Nat
  | [] => 0
  | q :: _ => q.1
def bm_CS (S : Nat → Nat → bm_O → Prop) : List (Nat × bm_O) → Prop
  | [] => True
  | (pc, op) :: rest => S pc (bm_hd rest) op ∧ bm_CS S rest
end BMD
def bm_ra (k : bm_J) : List (Nat × bm_O) → Nat → bm_C → Option bm_R
  | [], _, _ => none
  | (pc, op) :: rest, t, x => match Nat.beq pc t with
    | true => op (fun t' x' => match Nat.blt pc t' with
      | true => bm_ra k rest t' x'
      | false => k t' x') (fun x' => bm_ra k rest (bm_hd rest) x') x
    | false => bm_ra k rest t x
def bm_rn (code : List (Nat × bm_O)) : Nat → Nat → bm_C → Option bm_R
  | 0, _, _ => none
  | o + 1, t, x => bm_ra (bm_rn code o) code t x
/-- a method: its locals at the entry, its code, its back jumps bounded -/
def bm_me (nL : Nat) (code : List (Nat × bm_O)) : bm_F := fun al M => bm_rn code 1000 0 (al.map some ++ List.replicate (nL - al.length) none, [], M)
section BMS
variable {p : Program} {l : Launch} {e : Env} {R : Room} {s : State} {m : MethodId} {args : Array Value} {below : List Frame} {meth : Method} {c : Code} {nL : Nat} {g : bm_G} {n0 s0 : Nat} {Qf : bm_R → State → Prop}
theorem bm_ra_sim {k : bm_J} (hk : ∀ t x r, k t x = some r → bm_Wc p l e R s m args below meth c nL g n0 s0 Qf t x r) : ∀ (code : List (Nat × bm_O)), bm_CS (bm_Sim p l e R s m args below meth c nL g n0 s0 Qf) code → ∀ t x r, bm_ra k code t x = some r → bm_Wc p l e R s m args below meth c nL g n0 s0 Qf t x r
  | [], _, t, x, r, h => bm_no h
  | (pc, op) :: rest, hc, t, x, r, h => by
    have ih := bm_ra_sim hk rest hc.2
    unfold bm_ra at h
    cases hb : Nat.beq pc t with
    | false => rw [hb] at h; exact ih t x r h
    | true =>
      rw [hb] at h
      have e := Nat.eq_of_beq_eq_true hb
      subst e
      refine hc.1 _ _ (fun t' x' r' h' => ?_) (fun x' r' h' => ih _ x' r' h') x r h
      cases hl : Nat.blt pc t' with
      | true => rw [hl] at h'; exact ih t' x' r' h'
      | false => rw [hl] at h'; exact hk t' x' r' h'
theorem bm_rn_sim {code : List (Nat × bm_O)} (hc : bm_CS (bm_Sim p l e R s m args below meth c nL g n0 s0 Qf) code) : ∀ o t x r, bm_rn code o t x = some r → bm_Wc p l e R s m args below meth c nL g n0 s0 Qf t x r
  | 0, t, x, r, h => bm_no h
  | o + 1, t, x, r, h => bm_ra_sim (bm_rn_sim hc o) code hc t x r h

variable {cc : ByteArray} {pc np : Nat}
def op_const (v : Int32) : bm_O := fun _ nx x => match x with | (lo, st, M) => nx (lo, .inl v :: st, M)
theorem s_iconst (hx : p.tables.exec = Jvm.exec) (hb : c.code = cc) {n : Int} {v : Int32} (hd : decode cc pc = .ok (.iconst n, 1)) (hv : Int32.ofInt n = v) : bm_Sim p l e R s m args below meth c nL g n0 s0 Qf pc (pc + 1) (op_const v) := by
  intro jm nx hj hn x r h
  obtain ⟨lo, st, M⟩ := x
  obtain ⟨hm, hw⟩ := hn _ _ h
  exact ⟨hm, fun a1 a2 a3 a4 H locs ls b1 b2 b3 => lv_iconst hx hb hd hv (hw a1 a2 a3 a4 H locs ls b1 b2 b3)⟩
theorem s_bipush (hx : p.tables.exec = Jvm.exec) (hb : c.code = cc) {n : Int} {v : Int32} (hd : decode cc pc = .ok (.bipush n, 2)) (hv : (Int8.ofInt n).toInt32 = v) : bm_Sim p l e R s m args below meth c nL g n0 s0 Qf pc (pc + 2) (op_const v) := by
  intro jm nx hj hn x r h
  obtain ⟨lo, st, M⟩ := x
  obtain ⟨hm, hw⟩ := hn _ _ h
  exact ⟨hm, fun a1 a2 a3 a4 H locs ls b1 b2 b3 => lv_bipush hx hb hd hv (hw a1 a2 a3 a4 H locs ls b1 b2 b3)⟩
theorem s_sipush (hx : p.tables.exec = Jvm.exec) (hb : c.code = cc) {n : Int} {v : Int32} (hd : decode cc pc = .ok (.sipush n, 3)) (hv : (Int16.ofInt n).toInt32 = v) : bm_Sim p l e R s m args below meth c nL g n0 s0 Qf pc (pc + 3) (op_const v) := by
  intro jm nx hj hn x r h
  obtain ⟨lo, st, M⟩ := x
  obtain ⟨hm, hw⟩ := hn _ _ h
  exact ⟨hm, fun a1 a2 a3 a4 H locs ls b1 b2 b3 => lv_sipush hx hb hd hv (hw a1 a2 a3 a4 H locs ls b1 b2 b3)⟩
def op_iload (i : Nat) : bm_O := fun _ nx x => match x with | (lo, st, M) => match lo.getD i none with
  | some (.inl v) => nx (lo, .inl v :: st, M)
  | _ => none
def op_aload (i : Nat) : bm_O := fun _ nx x => match x with | (lo, st, M) => match lo.getD i none with
  | some (.inr (some a)) => nx (lo, .inr (some a) :: st, M)
  | _ => none
theorem s_iload_n (hx : p.tables.exec = Jvm.exec) (hb : c.code = cc) {k : Fin 4} (hd : decode cc pc = .ok (.iload_n k, 1)) : bm_Sim p l e R s m args below meth c nL g n0 s0 Qf pc (pc + 1) (op_iload k) := by
  intro jm nx hj hn x r h
  obtain ⟨lo, st, M⟩ := x
  have h0 : (match lo.getD k none with | some (.inl v) => nx (lo, (.inl v) :: st, M) | _ => none) = some r := h
  cases hv : lo.getD k none with
  | none => rw [hv] at h0; exact bm_no h0
  | some w =>
    rw [hv] at h0
    rcases w with v | w
    · obtain ⟨hm, hw⟩ := hn _ _ h0
      exact ⟨hm, fun a1 a2 a3 a4 H locs ls b1 b2 b3 => lv_iload_n hx hb hd rfl (b3.2.2.2 k _ hv) (hw a1 a2 a3 a4 H locs ls b1 b2 b3)⟩
    · exact bm_no h0
theorem s_iload (hx : p.tables.exec = Jvm.exec) (hb : c.code = cc) {i : Nat} (hd : decode cc pc = .ok (.iload i, 2)) : bm_Sim p l e R s m args below meth c nL g n0 s0 Qf pc (pc + 2) (op_iload i) := by
  intro jm nx hj hn x r h
  obtain ⟨lo, st, M⟩ := x
  have h0 : (match lo.getD i none with | some (.inl v) => nx (lo, (.inl v) :: st, M) | _ => none) = some r := h
  cases hv : lo.getD i none with
  | none => rw [hv] at h0; exact bm_no h0
  | some w =>
    rw [hv] at h0
    rcases w with v | w
    · obtain ⟨hm, hw⟩ := hn _ _ h0
      exact ⟨hm, fun a1 a2 a3 a4 H locs ls b1 b2 b3 => lv_iload hx hb hd (b3.2.2.2 i _ hv) (hw a1 a2 a3 a4 H locs ls b1 b2 b3)⟩
    · exact bm_no h0
theorem s_aload_n (hx : p.tables.exec = Jvm.exec) (hb : c.code = cc) {k : Fin 4} (hd : decode cc pc = .ok (.aload_n k, 1)) : bm_Sim p l e R s m args below meth c nL g n0 s0 Qf pc (pc + 1) (op_aload k) := by
  intro jm nx hj hn x r h
  obtain ⟨lo, st, M⟩ := x
  have h0 : (match lo.getD k none with | some (.inr (some a)) => nx (lo, (.inr (some a)) :: st, M) | _ => none) = some r := h
  cases hv : lo.getD k none with
  | none => rw [hv] at h0; exact bm_no h0
  | some w =>
    rw [hv] at h0
    rcases w with w | _ | a
    · exact bm_no h0
    · exact bm_no h0
    · obtain ⟨hm, hw⟩ := hn _ _ h0
      exact ⟨hm, fun a1 a2 a3 a4 H locs ls b1 b2 b3 => lv_aload_n hx hb hd rfl (b3.2.2.2 k _ hv) (hw a1 a2 a3 a4 H locs ls b1 b2 b3)⟩
theorem s_aload (hx : p.tables.exec = Jvm.exec) (hb : c.code = cc) {i : Nat} (hd : decode cc pc = .ok (.aload i, 2)) : bm_Sim p l e R s m args below meth c nL g n0 s0 Qf pc (pc + 2) (op_aload i) := by
  intro jm nx hj hn x r h
  obtain ⟨lo, st, M⟩ := x
  have h0 : (match lo.getD i none with | some (.inr (some a)) => nx (lo, (.inr (some a)) :: st, M) | _ => none) = some r := h
  cases hv : lo.getD i none with
  | none => rw [hv] at h0; exact bm_no h0
  | some w =>
    rw [hv] at h0
    rcases w with w | _ | a
    · exact bm_no h0
    · exact bm_no h0
    · obtain ⟨hm, hw⟩ := hn _ _ h0
      exact ⟨hm, fun a1 a2 a3 a4 H locs ls b1 b2 b3 => lv_aload hx hb hd (b3.2.2.2 i _ hv) (hw a1 a2 a3 a4 H locs ls b1 b2 b3)⟩
def op_istore (i : Nat) : bm_O := fun _ nx x => match x with | (lo, st, M) => match st with
  | .inl v :: st => bif Nat.blt i lo.length then nx (lo.set i (some (.inl v)), st, M) else none
  | _ => none
def op_astore (i : Nat) : bm_O := fun _ nx x => match x with | (lo, st, M) => match st with
  | .inr (some a) :: st => bif Nat.blt i lo.length then nx (lo.set i (some (.inr (some a))), st, M) else none
  | _ => none
theorem bm_blt {i n : Nat} {a b : Option bm_R} {r : bm_R} (h : (bif Nat.blt i n then a else none) = some r) : i < n ∧ a = some r := by
  cases hb : Nat.blt i n with
  | false => rw [hb] at h; exact bm_no h
  | true => rw [hb] at h; exact ⟨Nat.le_of_ble_eq_true hb, h⟩
theorem s_istore_n (hx : p.tables.exec = Jvm.exec) (hb : c.code = cc) {k : Fin 4} (hd : decode cc pc = .ok (.istore_n k, 1)) : bm_Sim p l e R s m args below meth c nL g n0 s0 Qf pc (pc + 1) (op_istore k) := by
  intro jm nx hj hn x r h
  obtain ⟨lo, st, M⟩ := x
  rcases st with _ | ⟨v | _ | v, st⟩
  · exact bm_no h
  · obtain ⟨hi, h⟩ := bm_blt (b := none) h
    obtain ⟨hm, hw⟩ := hn _ _ h
    refine ⟨hm, fun a1 a2 a3 a4 H locs ls b1 b2 b3 => ?_⟩
    have hi' : (k : Nat) < nL := Nat.lt_of_lt_of_eq hi b3.2.1
    exact lv_istore_n hx hb hd rfl (bm_lv_has b3) hi' rfl (fun ls' h' => hw a1 a2 a3 a4 H locs ls' b1 b2 (bm_lv_set b3 hi' h'))
  · exact bm_no h
  · exact bm_no h
theorem s_istore (hx : p.tables.exec = Jvm.exec) (hb : c.code = cc) {i : Nat} (hd : decode cc pc = .ok (.istore i, 2)) : bm_Sim p l e R s m args below meth c nL g n0 s0 Qf pc (pc + 2) (op_istore i) := by
  intro jm nx hj hn x r h
  obtain ⟨lo, st, M⟩ := x
  rcases st with _ | ⟨v | _ | v, st⟩
  · exact bm_no h
  · obtain ⟨hi, h⟩ := bm_blt (b := none) h
    obtain ⟨hm, hw⟩ := hn _ _ h
    refine ⟨hm, fun a1 a2 a3 a4 H locs ls b1 b2 b3 => ?_⟩
    have hi' : i < nL := Nat.lt_of_lt_of_eq hi b3.2.1
    exact lv_istore hx hb hd (bm_lv_has b3) hi' rfl (fun ls' h' => hw a1 a2 a3 a4 H locs ls' b1 b2 (bm_lv_set b3 hi' h'))
  · exact bm_no h
  · exact bm_no h
theorem s_astore_n (hx : p.tables.exec = Jvm.exec) (hb : c.code = cc) {k : Fin 4} (hd : decode cc pc = .ok (.astore_n k, 1)) : bm_Sim p l e R s m args below meth c nL g n0 s0 Qf pc (pc + 1) (op_astore k) := by
  intro jm nx hj hn x r h
  obtain ⟨lo, st, M⟩ := x
  rcases st with _ | ⟨v | _ | v, st⟩
  · exact bm_no h
  · exact bm_no h
  · exact bm_no h
  · obtain ⟨hi, h⟩ := bm_blt (b := none) h
    obtain ⟨hm, hw⟩ := hn _ _ h
    refine ⟨hm, fun a1 a2 a3 a4 H locs ls b1 b2 b3 => ?_⟩
    have hi' : (k : Nat) < nL := Nat.lt_of_lt_of_eq hi b3.2.1
    exact lv_astore_n hx hb hd rfl (bm_lv_has b3) hi' rfl (fun ls' h' => hw a1 a2 a3 a4 H locs ls' b1 b2 (bm_lv_set b3 hi' h'))
theorem s_astore (hx : p.tables.exec = Jvm.exec) (hb : c.code = cc) {i : Nat} (hd : decode cc pc = .ok (.astore i, 2)) : bm_Sim p l e R s m args below meth c nL g n0 s0 Qf pc (pc + 2) (op_astore i) := by
  intro jm nx hj hn x r h
  obtain ⟨lo, st, M⟩ := x
  rcases st with _ | ⟨v | _ | v, st⟩
  · exact bm_no h
  · exact bm_no h
  · exact bm_no h
  · obtain ⟨hi, h⟩ := bm_blt (b := none) h
    obtain ⟨hm, hw⟩ := hn _ _ h
    refine ⟨hm, fun a1 a2 a3 a4 H locs ls b1 b2 b3 => ?_⟩
    have hi' : i < nL := Nat.lt_of_lt_of_eq hi b3.2.1
    exact lv_astore hx hb hd (bm_lv_has b3) hi' rfl (fun ls' h' => hw a1 a2 a3 a4 H locs ls' b1 b2 (bm_lv_set b3 hi' h'))
def op_iinc (i : Nat) (n : Int32) : bm_O := fun _ nx x => match x with | (lo, st, M) => match lo.getD i none with
  | some (.inl v) => bif Nat.blt i lo.length then nx (lo.set i (some (.inl (v + n))), st, M) else none
  | _ => none
theorem s_iinc (hx : p.tables.exec = Jvm.exec) (hb : c.code = cc) {i : Nat} {n : Int} {z : Int32} (hd : decode cc pc = .ok (.iinc i n, 3)) (hz : Int32.ofInt n = z) : bm_Sim p l e R s m args below meth c nL g n0 s0 Qf pc (pc + 3) (op_iinc i z) := by
  subst hz
  intro jm nx hj hn x r h
  obtain ⟨lo, st, M⟩ := x
  have h0 : (match lo.getD i none with | some (.inl v) => (bif Nat.blt i lo.length then nx (lo.set i (some (.inl (v + Int32.ofInt n))), st, M) else none) | _ => none) = some r := h
  cases hv : lo.getD i none with
  | none => rw [hv] at h0; exact bm_no h0
  | some w =>
    rw [hv] at h0
    rcases w with v | w
    · obtain ⟨hi, h1⟩ := bm_blt (b := none) h0
      obtain ⟨hm, hw⟩ := hn _ _ h1
      refine ⟨hm, fun a1 a2 a3 a4 H locs ls b1 b2 b3 => ?_⟩
      have hi' : i < nL := Nat.lt_of_lt_of_eq hi b3.2.1
      have hmem : (i, Value.int v) ∈ bm_lv g lo := List.mem_filterMap.mpr ⟨i, List.mem_range.mpr hi, by rw [hv]; rfl⟩
      obtain ⟨k, hk⟩ := List.getElem?_of_mem hmem
      exact lv_iinc hx hb hd (bm_lv_has b3) hk rfl hi' rfl (fun ls' h' => hw a1 a2 a3 a4 H locs ls' b1 b2 (bm_lv_set (v := .inl (v + Int32.ofInt n)) b3 hi' h'))
    · exact bm_no h0
def op_bin (f : Int32 → Int32 → Int32) : bm_O := fun _ nx x => match x with | (lo, st, M) => match st with
  | .inl b :: .inl a :: st => nx (lo, .inl (f a b) :: st, M)
  | _ => none
def op_binz (f : Int32 → Int32 → Int32) : bm_O := fun _ nx x => match x with | (lo, st, M) => match st with
  | .inl b :: .inl a :: st => if b = 0 then none else nx (lo, .inl (f a b) :: st, M)
  | _ => none
theorem s_iadd (hx : p.tables.exec = Jvm.exec) (hb : c.code = cc) (hd : decode cc pc = .ok (.iadd, 1)) : bm_Sim p l e R s m args below meth c nL g n0 s0 Qf pc (pc + 1) (op_bin (fun a b => a + b)) := by
  intro jm nx hj hn x r h
  obtain ⟨lo, st, M⟩ := x
  rcases st with _ | ⟨b | b, st⟩
  · exact bm_no h
  · rcases st with _ | ⟨a | a, st⟩
    · exact bm_no h
    · obtain ⟨hm, hw⟩ := hn _ _ h
      exact ⟨hm, fun a1 a2 a3 a4 H locs ls b1 b2 b3 => lv_iadd hx hb hd (hw a1 a2 a3 a4 H locs ls b1 b2 b3)⟩
    · exact bm_no h
  · exact bm_no h
theorem s_isub (hx : p.tables.exec = Jvm.exec) (hb : c.code = cc) (hd : decode cc pc = .ok (.isub, 1)) : bm_Sim p l e R s m args below meth c nL g n0 s0 Qf pc (pc + 1) (op_bin (fun a b => a - b)) := by
  intro jm nx hj hn x r h
  obtain ⟨lo, st, M⟩ := x
  rcases st with _ | ⟨b | b, st⟩
  · exact bm_no h
  · rcases st with _ | ⟨a | a, st⟩
    · exact bm_no h
    · obtain ⟨hm, hw⟩ := hn _ _ h
      exact ⟨hm, fun a1 a2 a3 a4 H locs ls b1 b2 b3 => lv_isub hx hb hd (hw a1 a2 a3 a4 H locs ls b1 b2 b3)⟩
    · exact bm_no h
  · exact bm_no h
theorem s_imul (hx : p.tables.exec = Jvm.exec) (hb : c.code = cc) (hd : decode cc pc = .ok (.imul, 1)) : bm_Sim p l e R s m args below meth c nL g n0 s0 Qf pc (pc + 1) (op_bin (fun a b => a * b)) := by
  intro jm nx hj hn x r h
  obtain ⟨lo, st, M⟩ := x
  rcases st with _ | ⟨b | b, st⟩
  · exact bm_no h
  · rcases st with _ | ⟨a | a, st⟩
    · exact bm_no h
    · obtain ⟨hm, hw⟩ := hn _ _ h
      exact ⟨hm, fun a1 a2 a3 a4 H locs ls b1 b2 b3 => lv_imul hx hb hd (hw a1 a2 a3 a4 H locs ls b1 b2 b3)⟩
    · exact bm_no h
  · exact bm_no h
theorem s_iand (hx : p.tables.exec = Jvm.exec) (hb : c.code = cc) (hd : decode cc pc = .ok (.iand, 1)) : bm_Sim p l e R s m args below meth c nL g n0 s0 Qf pc (pc + 1) (op_bin (fun a b => a &&& b)) := by
  intro jm nx hj hn x r h
  obtain ⟨lo, st, M⟩ := x
  rcases st with _ | ⟨b | b, st⟩
  · exact bm_no h
  · rcases st with _ | ⟨a | a, st⟩
    · exact bm_no h
    · obtain ⟨hm, hw⟩ := hn _ _ h
      exact ⟨hm, fun a1 a2 a3 a4 H locs ls b1 b2 b3 => lv_iand hx hb hd (hw a1 a2 a3 a4 H locs ls b1 b2 b3)⟩
    · exact bm_no h
  · exact bm_no h
theorem s_idiv (hx : p.tables.exec = Jvm.exec) (hb : c.code = cc) (hd : decode cc pc = .ok (.idiv, 1)) : bm_Sim p l e R s m args below meth c nL g n0 s0 Qf pc (pc + 1) (op_binz (fun a b => a / b)) := by
  intro jm nx hj hn x r h
  obtain ⟨lo, st, M⟩ := x
  rcases st with _ | ⟨b | b, st⟩
  · exact bm_no h
  · rcases st with _ | ⟨a | a, st⟩
    · exact bm_no h
    · have h0 : (if b = 0 then none else nx (lo, .inl ((fun a b => a / b) a b) :: st, M)) = some r := h
      by_cases hz : b = 0
      · rw [if_pos hz] at h0; exact bm_no h0
      · rw [if_neg hz] at h0
        obtain ⟨hm, hw⟩ := hn _ _ h0
        exact ⟨hm, fun a1 a2 a3 a4 H locs ls b1 b2 b3 => lv_idiv hx hb hd hz (hw a1 a2 a3 a4 H locs ls b1 b2 b3)⟩
    · exact bm_no h
  · exact bm_no h
theorem s_irem (hx : p.tables.exec = Jvm.exec) (hb : c.code = cc) (hd : decode cc pc = .ok (.irem, 1)) : bm_Sim p l e R s m args below meth c nL g n0 s0 Qf pc (pc + 1) (op_binz (fun a b => a - a / b * b)) := by
  intro jm nx hj hn x r h
  obtain ⟨lo, st, M⟩ := x
  rcases st with _ | ⟨b | b, st⟩
  · exact bm_no h
  · rcases st with _ | ⟨a | a, st⟩
    · exact bm_no h
    · have h0 : (if b = 0 then none else nx (lo, .inl ((fun a b => a - a / b * b) a b) :: st, M)) = some r := h
      by_cases hz : b = 0
      · rw [if_pos hz] at h0; exact bm_no h0
      · rw [if_neg hz] at h0
        obtain ⟨hm, hw⟩ := hn _ _ h0
        exact ⟨hm, fun a1 a2 a3 a4 H locs ls b1 b2 b3 => lv_irem hx hb hd hz (hw a1 a2 a3 a4 H locs ls b1 b2 b3)⟩
    · exact bm_no h
  · exact bm_no h
def op_dup : bm_O := fun _ nx x => match x with | (lo, st, M) => match st with
  | v :: st => nx (lo, v :: v :: st, M)
  | _ => none
theorem s_dup (hx : p.tables.exec = Jvm.exec) (hb : c.code = cc) (hd : decode cc pc = .ok (.dup, 1)) : bm_Sim p l e R s m args below meth c nL g n0 s0 Qf pc (pc + 1) op_dup := by
  intro jm nx hj hn x r h
  obtain ⟨lo, st, M⟩ := x
  rcases st with _ | ⟨v, st⟩
  · exact bm_no h
  · obtain ⟨hm, hw⟩ := hn _ _ h
    exact ⟨hm, fun a1 a2 a3 a4 H locs ls b1 b2 b3 => lv_dup hx hb hd (bm_cat g v) (hw a1 a2 a3 a4 H locs ls b1 b2 b3)⟩
def op_dup2 : bm_O := fun _ nx x => match x with | (lo, st, M) => match st with
  | v :: w :: st => nx (lo, v :: w :: v :: w :: st, M)
  | _ => none
theorem s_dup2 (hx : p.tables.exec = Jvm.exec) (hb : c.code = cc) (hd : decode cc pc = .ok (.dup2, 1)) : bm_Sim p l e R s m args below meth c nL g n0 s0 Qf pc (pc + 1) op_dup2 := by
  intro jm nx hj hn x r h
  obtain ⟨lo, st, M⟩ := x
  rcases st with _ | ⟨v, _ | ⟨w, st⟩⟩
  · exact bm_no h
  · exact bm_no h
  · obtain ⟨hm, hw⟩ := hn _ _ h
    exact ⟨hm, fun a1 a2 a3 a4 H locs ls b1 b2 b3 => lv_dup2_11 hx hb hd (bm_cat g v) (bm_cat g w) (hw a1 a2 a3 a4 H locs ls b1 b2 b3)⟩
def op_ifeq (t : Nat) : bm_O := fun jm nx x => match x with | (lo, st, M) => match st with
  | .inl a :: st => if a = 0 then jm t (lo, st, M) else nx (lo, st, M)
  | _ => none
theorem s_ifeq (hx : p.tables.exec = Jvm.exec) (hb : c.code = cc) {off : Int} {t : Nat} (hd : decode cc pc = .ok (.ifCond .eq off, 3)) (ht : (pc : Int) + off = (t : Int)) : bm_Sim p l e R s m args below meth c nL g n0 s0 Qf pc (pc + 3) (op_ifeq t) := by
  intro jm nx hj hn x r h
  obtain ⟨lo, st, M⟩ := x
  rcases st with _ | ⟨a | a, st⟩
  · exact bm_no h
  · have h0 : (if a = 0 then jm t (lo, st, M) else nx (lo, st, M)) = some r := h
    by_cases hc : a = 0
    · rw [if_pos hc] at h0
      obtain ⟨hm, hw⟩ := hj _ _ _ h0
      exact ⟨hm, fun a1 a2 a3 a4 H locs ls b1 b2 b3 => lv_if_eq hx hb hd ht (fun _ => hw a1 a2 a3 a4 H locs ls b1 b2 b3) (fun z => absurd hc z)⟩
    · rw [if_neg hc] at h0
      obtain ⟨hm, hw⟩ := hn _ _ h0
      exact ⟨hm, fun a1 a2 a3 a4 H locs ls b1 b2 b3 => lv_if_eq hx hb hd ht (fun z => absurd z hc) (fun _ => hw a1 a2 a3 a4 H locs ls b1 b2 b3)⟩
  · exact bm_no h
def op_ifne (t : Nat) : bm_O := fun jm nx x => match x with | (lo, st, M) => match st with
  | .inl a :: st => if a = 0 then nx (lo, st, M) else jm t (lo, st, M)
  | _ => none
theorem s_ifne (hx : p.tables.exec = Jvm.exec) (hb : c.code = cc) {off : Int} {t : Nat} (hd : decode cc pc = .ok (.ifCond .ne off, 3)) (ht : (pc : Int) + off = (t : Int)) : bm_Sim p l e R s m args below meth c nL g n0 s0 Qf pc (pc + 3) (op_ifne t) := by
  intro jm nx hj hn x r h
  obtain ⟨lo, st, M⟩ := x
  rcases st with _ | ⟨a | a, st⟩
  · exact bm_no h
  · have h0 : (if a = 0 then nx (lo, st, M) else jm t (lo, st, M)) = some r := h
    by_cases hc : a = 0
    · rw [if_pos hc] at h0
      obtain ⟨hm, hw⟩ := hn _ _ h0
      exact ⟨hm, fun a1 a2 a3 a4 H locs ls b1 b2 b3 => lv_if_ne hx hb hd ht (fun z => absurd hc z) (fun _ => hw a1 a2 a3 a4 H locs ls b1 b2 b3)⟩
    · rw [if_neg hc] at h0
      obtain ⟨hm, hw⟩ := hj _ _ _ h0
      exact ⟨hm, fun a1 a2 a3 a4 H locs ls b1 b2 b3 => lv_if_ne hx hb hd ht (fun _ => hw a1 a2 a3 a4 H locs ls b1 b2 b3) (fun z => absurd z hc)⟩
  · exact bm_no h
def op_iflt (t : Nat) : bm_O := fun jm nx x => match x with | (lo, st, M) => match st with
  | .inl a :: st => if a < 0 then jm t (lo, st, M) else nx (lo, st, M)
  | _ => none
theorem s_iflt (hx : p.tables.exec = Jvm.exec) (hb : c.code = cc) {off : Int} {t : Nat} (hd : decode cc pc = .ok (.ifCond .lt off, 3)) (ht : (pc : Int) + off = (t : Int)) : bm_Sim p l e R s m args below meth c nL g n0 s0 Qf pc (pc + 3) (op_iflt t) := by
  intro jm nx hj hn x r h
  obtain ⟨lo, st, M⟩ := x
  rcases st with _ | ⟨a | a, st⟩
  · exact bm_no h
  · have h0 : (if a < 0 then jm t (lo, st, M) else nx (lo, st, M)) = some r := h
    by_cases hc : a < 0
    · rw [if_pos hc] at h0
      obtain ⟨hm, hw⟩ := hj _ _ _ h0
      exact ⟨hm, fun a1 a2 a3 a4 H locs ls b1 b2 b3 => lv_if_lt hx hb hd ht (fun _ => hw a1 a2 a3 a4 H locs ls b1 b2 b3) (fun z => absurd hc z)⟩
    · rw [if_neg hc] at h0
      obtain ⟨hm, hw⟩ := hn _ _ h0
      exact ⟨hm, fun a1 a2 a3 a4 H locs ls b1 b2 b3 => lv_if_lt hx hb hd ht (fun z => absurd z hc) (fun _ => hw a1 a2 a3 a4 H locs ls b1 b2 b3)⟩
  · exact bm_no h
def op_ifge (t : Nat) : bm_O := fun jm nx x => match x with | (lo, st, M) => match st with
  | .inl a :: st => if 0 ≤ a then jm t (lo, st, M) else nx (lo, st, M)
  | _ => none
theorem s_ifge (hx : p.tables.exec = Jvm.exec) (hb : c.code = cc) {off : Int} {t : Nat} (hd : decode cc pc = .ok (.ifCond .ge off, 3)) (ht : (pc : Int) + off = (t : Int)) : bm_Sim p l e R s m args below meth c nL g n0 s0 Qf pc (pc + 3) (op_ifge t) := by
  intro jm nx hj hn x r h
  obtain ⟨lo, st, M⟩ := x
  rcases st with _ | ⟨a | a, st⟩
  · exact bm_no h
  · have h0 : (if 0 ≤ a then jm t (lo, st, M) else nx (lo, st, M)) = some r := h
    by_cases hc : 0 ≤ a
    · rw [if_pos hc] at h0
      obtain ⟨hm, hw⟩ := hj _ _ _ h0
      exact ⟨hm, fun a1 a2 a3 a4 H locs ls b1 b2 b3 => lv_if_ge hx hb hd ht (fun _ => hw a1 a2 a3 a4 H locs ls b1 b2 b3) (fun z => absurd hc z)⟩
    · rw [if_neg hc] at h0
      obtain ⟨hm, hw⟩ := hn _ _ h0
      exact ⟨hm, fun a1 a2 a3 a4 H locs ls b1 b2 b3 => lv_if_ge hx hb hd ht (fun z => absurd z hc) (fun _ => hw a1 a2 a3 a4 H locs ls b1 b2 b3)⟩
  · exact bm_no h
def op_ifgt (t : Nat) : bm_O := fun jm nx x => match x with | (lo, st, M) => match st with
  | .inl a :: st => if 0 < a then jm t (lo, st, M) else nx (lo, st, M)
  | _ => none
theorem s_ifgt (hx : p.tables.exec = Jvm.exec) (hb : c.code = cc) {off : Int} {t : Nat} (hd : decode cc pc = .ok (.ifCond .gt off, 3)) (ht : (pc : Int) + off = (t : Int)) : bm_Sim p l e R s m args below meth c nL g n0 s0 Qf pc (pc + 3) (op_ifgt t) := by
  intro jm nx hj hn x r h
  obtain ⟨lo, st, M⟩ := x
  rcases st with _ | ⟨a | a, st⟩
  · exact bm_no h
  · have h0 : (if 0 < a then jm t (lo, st, M) else nx (lo, st, M)) = some r := h
    by_cases hc : 0 < a
    · rw [if_pos hc] at h0
      obtain ⟨hm, hw⟩ := hj _ _ _ h0
      exact ⟨hm, fun a1 a2 a3 a4 H locs ls b1 b2 b3 => lv_if_gt hx hb hd ht (fun _ => hw a1 a2 a3 a4 H locs ls b1 b2 b3) (fun z => absurd hc z)⟩
    · rw [if_neg hc] at h0
      obtain ⟨hm, hw⟩ := hn _ _ h0
      exact ⟨hm, fun a1 a2 a3 a4 H locs ls b1 b2 b3 => lv_if_gt hx hb hd ht (fun z => absurd z hc) (fun _ => hw a1 a2 a3 a4 H locs ls b1 b2 b3)⟩
  · exact bm_no h
def op_ifle (t : Nat) : bm_O := fun jm nx x => match x with | (lo, st, M) => match st with
  | .inl a :: st => if a ≤ 0 then jm t (lo, st, M) else nx (lo, st, M)
  | _ => none
theorem s_ifle (hx : p.tables.exec = Jvm.exec) (hb : c.code = cc) {off : Int} {t : Nat} (hd : decode cc pc = .ok (.ifCond .le off, 3)) (ht : (pc : Int) + off = (t : Int)) : bm_Sim p l e R s m args below meth c nL g n0 s0 Qf pc (pc + 3) (op_ifle t) := by
  intro jm nx hj hn x r h
  obtain ⟨lo, st, M⟩ := x
  rcases st with _ | ⟨a | a, st⟩
  · exact bm_no h
  · have h0 : (if a ≤ 0 then jm t (lo, st, M) else nx (lo, st, M)) = some r := h
    by_cases hc : a ≤ 0
    · rw [if_pos hc] at h0
      obtain ⟨hm, hw⟩ := hj _ _ _ h0
      exact ⟨hm, fun a1 a2 a3 a4 H locs ls b1 b2 b3 => lv_if_le hx hb hd ht (fun _ => hw a1 a2 a3 a4 H locs ls b1 b2 b3) (fun z => absurd hc z)⟩
    · rw [if_neg hc] at h0
      obtain ⟨hm, hw⟩ := hn _ _ h0
      exact ⟨hm, fun a1 a2 a3 a4 H locs ls b1 b2 b3 => lv_if_le hx hb hd ht (fun z => absurd z hc) (fun _ => hw a1 a2 a3 a4 H locs ls b1 b2 b3)⟩
  · exact bm_no h
def op_iceq (t : Nat) : bm_O := fun jm nx x => match x with | (lo, st, M) => match st with
  | .inl b :: .inl a :: st => if a = b then jm t (lo, st, M) else nx (lo, st, M)
  | _ => none
theorem s_iceq (hx : p.tables.exec = Jvm.exec) (hb : c.code = cc) {off : Int} {t : Nat} (hd : decode cc pc = .ok (.if_icmp .eq off, 3)) (ht : (pc : Int) + off = (t : Int)) : bm_Sim p l e R s m args below meth c nL g n0 s0 Qf pc (pc + 3) (op_iceq t) := by
  intro jm nx hj hn x r h
  obtain ⟨lo, st, M⟩ := x
  rcases st with _ | ⟨b | b, st⟩
  · exact bm_no h
  · rcases st with _ | ⟨a | a, st⟩
    · exact bm_no h
    · have h0 : (if a = b then jm t (lo, st, M) else nx (lo, st, M)) = some r := h
      by_cases hc : a = b
      · rw [if_pos hc] at h0
        obtain ⟨hm, hw⟩ := hj _ _ _ h0
        exact ⟨hm, fun a1 a2 a3 a4 H locs ls b1 b2 b3 => lv_icmp_eq hx hb hd ht (fun _ => hw a1 a2 a3 a4 H locs ls b1 b2 b3) (fun z => absurd hc z)⟩
      · rw [if_neg hc] at h0
        obtain ⟨hm, hw⟩ := hn _ _ h0
        exact ⟨hm, fun a1 a2 a3 a4 H locs ls b1 b2 b3 => lv_icmp_eq hx hb hd ht (fun z => absurd z hc) (fun _ => hw a1 a2 a3 a4 H locs ls b1 b2 b3)⟩
    · exact bm_no h
  · exact bm_no h
def op_icne (t : Nat) : bm_O := fun jm nx x => match x with | (lo, st, M) => match st with
  | .inl b :: .inl a :: st => if a = b then nx (lo, st, M) else jm t (lo, st, M)
  | _ => none
theorem s_icne (hx : p.tables.exec = Jvm.exec) (hb : c.code = cc) {off : Int} {t : Nat} (hd : decode cc pc = .ok (.if_icmp .ne off, 3)) (ht : (pc : Int) + off = (t : Int)) : bm_Sim p l e R s m args below meth c nL g n0 s0 Qf pc (pc + 3) (op_icne t) := by
  intro jm nx hj hn x r h
  obtain ⟨lo, st, M⟩ := x
  rcases st with _ | ⟨b | b, st⟩
  · exact bm_no h
  · rcases st with _ | ⟨a | a, st⟩
    · exact bm_no h
    · have h0 : (if a = b then nx (lo, st, M) else jm t (lo, st, M)) = some r := h
      by_cases hc : a = b
      · rw [if_pos hc] at h0
        obtain ⟨hm, hw⟩ := hn _ _ h0
        exact ⟨hm, fun a1 a2 a3 a4 H locs ls b1 b2 b3 => lv_icmp_ne hx hb hd ht (fun z => absurd hc z) (fun _ => hw a1 a2 a3 a4 H locs ls b1 b2 b3)⟩
      · rw [if_neg hc] at h0
        obtain ⟨hm, hw⟩ := hj _ _ _ h0
        exact ⟨hm, fun a1 a2 a3 a4 H locs ls b1 b2 b3 => lv_icmp_ne hx hb hd ht (fun _ => hw a1 a2 a3 a4 H locs ls b1 b2 b3) (fun z => absurd z hc)⟩
    · exact bm_no h
  · exact bm_no h
def op_iclt (t : Nat) : bm_O := fun jm nx x => match x with | (lo, st, M) => match st with
  | .inl b :: .inl a :: st => if a < b then jm t (lo, st, M) else nx (lo, st, M)
  | _ => none
theorem s_iclt (hx : p.tables.exec = Jvm.exec) (hb : c.code = cc) {off : Int} {t : Nat} (hd : decode cc pc = .ok (.if_icmp .lt off, 3)) (ht : (pc : Int) + off = (t : Int)) : bm_Sim p l e R s m args below meth c nL g n0 s0 Qf pc (pc + 3) (op_iclt t) := by
  intro jm nx hj hn x r h
  obtain ⟨lo, st, M⟩ := x
  rcases st with _ | ⟨b | b, st⟩
  · exact bm_no h
  · rcases st with _ | ⟨a | a, st⟩
    · exact bm_no h
    · have h0 : (if a < b then jm t (lo, st, M) else nx (lo, st, M)) = some r := h
      by_cases hc : a < b
      · rw [if_pos hc] at h0
        obtain ⟨hm, hw⟩ := hj _ _ _ h0
        exact ⟨hm, fun a1 a2 a3 a4 H locs ls b1 b2 b3 => lv_icmp_lt hx hb hd ht (fun _ => hw a1 a2 a3 a4 H locs ls b1 b2 b3) (fun z => absurd hc z)⟩
      · rw [if_neg hc] at h0
        obtain ⟨hm, hw⟩ := hn _ _ h0
        exact ⟨hm, fun a1 a2 a3 a4 H locs ls b1 b2 b3 => lv_icmp_lt hx hb hd ht (fun z => absurd z hc) (fun _ => hw a1 a2 a3 a4 H locs ls b1 b2 b3)⟩
    · exact bm_no h
  · exact bm_no h
def op_icge (t : Nat) : bm_O := fun jm nx x => match x with | (lo, st, M) => match st with
  | .inl b :: .inl a :: st => if b ≤ a then jm t (lo, st, M) else nx (lo, st, M)
  | _ => none
theorem s_icge (hx : p.tables.exec = Jvm.exec) (hb : c.code = cc) {off : Int} {t : Nat} (hd : decode cc pc = .ok (.if_icmp .ge off, 3)) (ht : (pc : Int) + off = (t : Int)) : bm_Sim p l e R s m args below meth c nL g n0 s0 Qf pc (pc + 3) (op_icge t) := by
  intro jm nx hj hn x r h
  obtain ⟨lo, st, M⟩ := x
  rcases st with _ | ⟨b | b, st⟩
  · exact bm_no h
  · rcases st with _ | ⟨a | a, st⟩
    · exact bm_no h
    · have h0 : (if b ≤ a then jm t (lo, st, M) else nx (lo, st, M)) = some r := h
      by_cases hc : b ≤ a
      · rw [if_pos hc] at h0
        obtain ⟨hm, hw⟩ := hj _ _ _ h0
        exact ⟨hm, fun a1 a2 a3 a4 H locs ls b1 b2 b3 => lv_icmp_ge hx hb hd ht (fun _ => hw a1 a2 a3 a4 H locs ls b1 b2 b3) (fun z => absurd hc z)⟩
      · rw [if_neg hc] at h0
        obtain ⟨hm, hw⟩ := hn _ _ h0
        exact ⟨hm, fun a1 a2 a3 a4 H locs ls b1 b2 b3 => lv_icmp_ge hx hb hd ht (fun z => absurd z hc) (fun _ => hw a1 a2 a3 a4 H locs ls b1 b2 b3)⟩
    · exact bm_no h
  · exact bm_no h
def op_icgt (t : Nat) : bm_O := fun jm nx x => match x with | (lo, st, M) => match st with
  | .inl b :: .inl a :: st => if b < a then jm t (lo, st, M) else nx (lo, st, M)
  | _ => none
theorem s_icgt (hx : p.tables.exec = Jvm.exec) (hb : c.code = cc) {off : Int} {t : Nat} (hd : decode cc pc = .ok (.if_icmp .gt off, 3)) (ht : (pc : Int) + off = (t : Int)) : bm_Sim p l e R s m args below meth c nL g n0 s0 Qf pc (pc + 3) (op_icgt t) := by
  intro jm nx hj hn x r h
  obtain ⟨lo, st, M⟩ := x
  rcases st with _ | ⟨b | b, st⟩
  · exact bm_no h
  · rcases st with _ | ⟨a | a, st⟩
    · exact bm_no h
    · have h0 : (if b < a then jm t (lo, st, M) else nx (lo, st, M)) = some r := h
      by_cases hc : b < a
      · rw [if_pos hc] at h0
        obtain ⟨hm, hw⟩ := hj _ _ _ h0
        exact ⟨hm, fun a1 a2 a3 a4 H locs ls b1 b2 b3 => lv_icmp_gt hx hb hd ht (fun _ => hw a1 a2 a3 a4 H locs ls b1 b2 b3) (fun z => absurd hc z)⟩
      · rw [if_neg hc] at h0
        obtain ⟨hm, hw⟩ := hn _ _ h0
        exact ⟨hm, fun a1 a2 a3 a4 H locs ls b1 b2 b3 => lv_icmp_gt hx hb hd ht (fun z => absurd z hc) (fun _ => hw a1 a2 a3 a4 H locs ls b1 b2 b3)⟩
    · exact bm_no h
  · exact bm_no h
def op_icle (t : Nat) : bm_O := fun jm nx x => match x with | (lo, st, M) => match st with
  | .inl b :: .inl a :: st => if a ≤ b then jm t (lo, st, M) else nx (lo, st, M)
  | _ => none
theorem s_icle (hx : p.tables.exec = Jvm.exec) (hb : c.code = cc) {off : Int} {t : Nat} (hd : decode cc pc = .ok (.if_icmp .le off, 3)) (ht : (pc : Int) + off = (t : Int)) : bm_Sim p l e R s m args below meth c nL g n0 s0 Qf pc (pc + 3) (op_icle t) := by
  intro jm nx hj hn x r h
  obtain ⟨lo, st, M⟩ := x
  rcases st with _ | ⟨b | b, st⟩
  · exact bm_no h
  · rcases st with _ | ⟨a | a, st⟩
    · exact bm_no h
    · have h0 : (if a ≤ b then jm t (lo, st, M) else nx (lo, st, M)) = some r := h
      by_cases hc : a ≤ b
      · rw [if_pos hc] at h0
        obtain ⟨hm, hw⟩ := hj _ _ _ h0
        exact ⟨hm, fun a1 a2 a3 a4 H locs ls b1 b2 b3 => lv_icmp_le hx hb hd ht (fun _ => hw a1 a2 a3 a4 H locs ls b1 b2 b3) (fun z => absurd hc z)⟩
      · rw [if_neg hc] at h0
        obtain ⟨hm, hw⟩ := hn _ _ h0
        exact ⟨hm, fun a1 a2 a3 a4 H locs ls b1 b2 b3 => lv_icmp_le hx hb hd ht (fun z => absurd z hc) (fun _ => hw a1 a2 a3 a4 H locs ls b1 b2 b3)⟩
    · exact bm_no h
  · exact bm_no h
def op_goto (t : Nat) : bm_O := fun jm _ x => match x with | (lo, st, M) => jm t (lo, st, M)
theorem s_goto (hx : p.tables.exec = Jvm.exec) (hb : c.code = cc) {off : Int} {t : Nat} (hd : decode cc pc = .ok (.goto off, 3)) (ht : (pc : Int) + off = (t : Int)) : bm_Sim p l e R s m args below meth c nL g n0 s0 Qf pc (pc + 3) (op_goto t) := by
  intro jm nx hj hn x r h
  obtain ⟨lo, st, M⟩ := x
  obtain ⟨hm, hw⟩ := hj _ _ _ h
  exact ⟨hm, fun a1 a2 a3 a4 H locs ls b1 b2 b3 => lv_goto hx hb hd ht (hw a1 a2 a3 a4 H locs ls b1 b2 b3)⟩
def op_ifnull (t : Nat) : bm_O := fun jm nx x => match x with | (lo, st, M) => match st with
  | .inr none :: st => jm t (lo, st, M)
  | .inr (some _) :: st => nx (lo, st, M)
  | _ => none
theorem s_ifnull (hx : p.tables.exec = Jvm.exec) (hb : c.code = cc) {off : Int} {t : Nat} (hd : decode cc pc = .ok (.ifnull off, 3)) (ht : (pc : Int) + off = (t : Int)) : bm_Sim p l e R s m args below meth c nL g n0 s0 Qf pc (pc + 3) (op_ifnull t) := by
  intro jm nx hj hn x r h
  obtain ⟨lo, st, M⟩ := x
  rcases st with _ | ⟨v | _ | v, st⟩
  · exact bm_no h
  · exact bm_no h
  · obtain ⟨hm, hw⟩ := hj _ _ _ h
    exact ⟨hm, fun a1 a2 a3 a4 H locs ls b1 b2 b3 => lv_ifnullN hx hb hd ht (hw a1 a2 a3 a4 H locs ls b1 b2 b3)⟩
  · obtain ⟨hm, hw⟩ := hn _ _ h
    exact ⟨hm, fun a1 a2 a3 a4 H locs ls b1 b2 b3 => lv_ifnull hx hb hd (hw a1 a2 a3 a4 H locs ls b1 b2 b3)⟩
def op_fail : bm_O := fun _ _ _ => none
theorem s_fail : bm_Sim p l e R s m args below meth c nL g n0 s0 Qf pc np op_fail := fun _ _ _ _ _ _ h => bm_no h
end BMS
