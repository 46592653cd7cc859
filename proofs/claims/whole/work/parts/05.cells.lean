/-! THE SMALL MACHINE'S STEPS ON CELLS, and that each is followed -/
theorem bm_beq {a b : Nat} {x : Option bm_R} {r : bm_R} (h : (bif Nat.beq a b then x else none) = some r) : a = b ∧ x = some r := by
  cases hb : Nat.beq a b with
  | false => rw [hb] at h; exact bm_no h
  | true => rw [hb] at h; exact ⟨Nat.eq_of_beq_eq_true hb, h⟩
theorem bm_ct_congr {ad : Nat → Nat} {cI cP : ClassId} {M M' : bm_M} {i : Nat} (h1 : bm_kd M' i = bm_kd M i) (h2 : bm_ln M' i = bm_ln M i) (h3 : bm_rs M' i = bm_rs M i) (h4 : bm_in M' i = bm_in M i) : bm_ct ad cI cP M' i = bm_ct ad cI cP M i := by
  have hf : bm_rf M' i = bm_rf M i := by funext j; unfold bm_rf; rw [h3]
  have hv : bm_fv ad M' i = bm_fv ad M i := by funext j; unfold bm_fv; rw [h1, hf, h4]
  unfold bm_ct bm_fs
  rw [h1, h2, h4, hf, hv]
theorem bm_in_pI {M : bm_M} {k i : Nat} {f : Nat → Int32} (h : i ≠ k) : bm_in (bm_pA M k f) i = bm_in M i := va_up_ne _ _ h
theorem bm_in_pS {M : bm_M} {k : Nat} {f : Nat → Int32} : bm_in (bm_pA M k f) k = f := if_pos rfl
theorem bm_W.old {g : bm_G} {M : bm_M} {H : Heap} (h : bm_W g M H) {k : Nat} (hk : bm_kd M k < 8 ∨ bm_kd M k = 9) : 4 ≤ k ∧ k < bm_n M := by
  refine ⟨Nat.le_of_not_lt fun q => ?_, h.lt (by omega)⟩
  have := (h.2.2.2 k q).1
  omega
/-- an int array of the memory, on the machine -/
theorem bm_W.arr {g : bm_G} {M : bm_M} {H : Heap} {s : State} (h : bm_W g M H) (hK : bm_K g s) {k : Nat} (hk : bm_kd M k = 8) : ∃ cell : Cell, H[bm_ad g k]? = some cell ∧ s.isArrayOf cell .int ∧ cell.vm ≠ .unknown ∧ bm_ln M k ≤ cell.slots.size ∧ cell.slots.size.toInt32 = Int32.ofNat (bm_ln M k) ∧ ∀ j : Nat, j < bm_ln M k → cell.slots[j]? = some (.int (bm_in M k j)) := by
  by_cases h4 : k < 4
  · obtain ⟨d1, d2, d3⟩ := h.2.2.2 k h4
    obtain ⟨e1, cell, e2, e3, e4, e5, e6, e7⟩ := hK.2.2.1 k h4
    have ha : bm_ad g k = g.2.1 k := if_pos h4
    refine ⟨cell, by rw [ha, h.2.1 _ e1]; exact e2, e3, e4, by rw [d2]; exact e5, by rw [d2]; exact e6, fun j hj => ?_⟩
    rw [d3 j]; exact e7 j (by rw [← d2]; exact hj)
  · have hc := h.2.2.1 k (by omega) (h.lt (by omega))
    have hA : H[bm_ad g k]? = some (arrV g.2.2.2.2.1 (bm_ln M k) (fun j => .int (bm_in M k j))) := by
      unfold bm_ct at hc
      rw [if_pos hk] at hc
      exact hc
    exact ⟨_, hA, (hK.2.1.2 0 _ rfl).1 _ _, (fun q => by cases q), by rw [arrV_size]; exact Nat.le_refl _, by rw [arrV_size] <;> rfl, fun j hj => arrV_read _ _ hj⟩
section BMH
variable {p : Program} {l : Launch} {e : Env} {R : Room} {s : State} {m : MethodId} {args : Array Value} {below : List Frame} {meth : Method} {c : Code} {nL : Nat} {g : bm_G} {n0 s0 : Nat} {Qf : bm_R → State → Prop} {cc : ByteArray} {pc np : Nat} {own : String}
def op_getI (ci j : Nat) : bm_O := fun _ nx x => match x with | (lo, st, M) => match st with
  | .inr (some a) :: st => bif Nat.beq (bm_kd M a) ci then nx (lo, .inl (bm_in M a j) :: st, M) else none
  | _ => none
theorem s_getI (hx : p.tables.exec = Jvm.exec) (hb : c.code = cc) (hown : s.vm.findClass own = some m.cls) (hts : ∀ w ∈ bm_T, w.before args s = true) (hK : bm_K g s) {ref C : String} {TT : u_T} {N ci j index : Nat} (hin : ∀ w ∈ u_ws C TT N, w ∈ bm_T) (hc : vwCl[ci]? = some (C, TT, N)) (hj0 : j < N) (hN : bm_nf ci = N) (h8 : ci < 8) (hr : bm_isr ci j = false) (hlink : Cond.fieldLink own index ref (TT j).2.1 (TT j).2.2.1 ∈ bm_T) (hsame : (TT j).1 = ref) (hd : decode cc pc = .ok (.getfield index, 3)) : bm_Sim p l e R s m args below meth c nL g n0 s0 Qf pc (pc + 3) (op_getI ci j) := by
  intro jm nx hj hn x r h
  obtain ⟨lo, st, M⟩ := x
  rcases st with _ | ⟨v | _ | a, st⟩
  · exact bm_no h
  · exact bm_no h
  · exact bm_no h
  · obtain ⟨hk, h0⟩ := bm_beq h
    change bm_kd M a = ci at hk
    obtain ⟨hm, hw⟩ := hn _ _ h0
    refine ⟨hm, fun a1 a2 a3 a4 H locs ls b1 b2 b3 => ?_⟩
    subst hk
    have h49 := b1.old (Or.inl h8)
    have hat := b1.2.2.1 a h49.1 h49.2
    change va_at _ _ (_, bm_ct _ _ _ M a) H at hat
    rw [bm_ct_ob h8] at hat
    have hv : (bm_fs (bm_ad g) M a)[j]? = some (.int (bm_in M a j)) := by
      rw [bm_fs_get (by rw [hN]; exact hj0)]
      unfold bm_fv
      rw [if_neg (by rw [hr]; decide)]
    exact va_get hx hb hts hin hown hK.2.1 (bm_one hat) 0 rfl hc j hj0 (hts _ hlink) (fun x h9 => by rw [← hsame]; exact h9) hv hd (hw a1 a2 a3 a4 H locs ls b1 b2 b3)
def op_getR (ci j : Nat) : bm_O := fun _ nx x => match x with | (lo, st, M) => match st with
  | .inr (some a) :: st => bif Nat.beq (bm_kd M a) ci then nx (lo, .inr (bm_rf M a j) :: st, M) else none
  | _ => none
theorem s_getR (hx : p.tables.exec = Jvm.exec) (hb : c.code = cc) (hown : s.vm.findClass own = some m.cls) (hts : ∀ w ∈ bm_T, w.before args s = true) (hK : bm_K g s) {ref C : String} {TT : u_T} {N ci j index : Nat} (hin : ∀ w ∈ u_ws C TT N, w ∈ bm_T) (hc : vwCl[ci]? = some (C, TT, N)) (hj0 : j < N) (hN : bm_nf ci = N) (h8 : ci < 8) (hr : bm_isr ci j = true) (hlink : Cond.fieldLink own index ref (TT j).2.1 (TT j).2.2.1 ∈ bm_T) (hsame : (TT j).1 = ref) (hd : decode cc pc = .ok (.getfield index, 3)) : bm_Sim p l e R s m args below meth c nL g n0 s0 Qf pc (pc + 3) (op_getR ci j) := by
  intro jm nx hj hn x r h
  obtain ⟨lo, st, M⟩ := x
  rcases st with _ | ⟨v | _ | a, st⟩
  · exact bm_no h
  · exact bm_no h
  · exact bm_no h
  · obtain ⟨hk, h0⟩ := bm_beq h
    change bm_kd M a = ci at hk
    obtain ⟨hm, hw⟩ := hn _ _ h0
    refine ⟨hm, fun a1 a2 a3 a4 H locs ls b1 b2 b3 => ?_⟩
    subst hk
    have h49 := b1.old (Or.inl h8)
    have hat := b1.2.2.1 a h49.1 h49.2
    change va_at _ _ (_, bm_ct _ _ _ M a) H at hat
    rw [bm_ct_ob h8] at hat
    have hv : (bm_fs (bm_ad g) M a)[j]? = some (va_rf ((bm_rf M a j).map (bm_ad g))) := by
      rw [bm_fs_get (by rw [hN]; exact hj0)]
      unfold bm_fv
      rw [if_pos hr]
    exact va_get hx hb hts hin hown hK.2.1 (bm_one hat) 0 rfl hc j hj0 (hts _ hlink) (fun x h9 => by rw [← hsame]; exact h9) hv hd (hw a1 a2 a3 a4 H locs ls b1 b2 b3)
theorem bm_fs_len {ad : Nat → Nat} {M : bm_M} {k : Nat} : (bm_fs ad M k).length = bm_nf (bm_kd M k) := by unfold bm_fs; simp
theorem bm_fs_set {ad : Nat → Nat} {M M' : bm_M} {k j : Nat} {v : Value} (h1 : bm_kd M' k = bm_kd M k) (hj : j < bm_nf (bm_kd M k)) (hv : bm_fv ad M' k j = v) (ho : ∀ i, i ≠ j → bm_fv ad M' k i = bm_fv ad M k i) : bm_fs ad M' k = (bm_fs ad M k).set j v := by
  apply List.ext_getElem?
  intro i
  by_cases hi : i < bm_nf (bm_kd M k)
  · rw [bm_fs_get (by rw [h1]; exact hi)]
    by_cases e : i = j
    · subst e
      rw [List.getElem?_set_self (by rw [bm_fs_len]; exact hi), hv]
    · rw [List.getElem?_set_ne (Ne.symm e), bm_fs_get hi, ho i e]
  · rw [List.getElem?_eq_none_iff.mpr (by rw [bm_fs_len, h1]; omega), List.getElem?_eq_none_iff.mpr (by rw [List.length_set, bm_fs_len]; omega)]
/-- a field written: the object's cell, all else as it was -/
theorem bm_wput (hx : p.tables.exec = Jvm.exec) (hb : c.code = cc) (hown : s.vm.findClass own = some m.cls) (hts : ∀ w ∈ bm_T, w.before args s = true) (hK : bm_K g s) {ref C : String} {TT : u_T} {N ci j index : Nat} (hin : ∀ w ∈ u_ws C TT N, w ∈ bm_T) (hc : vwCl[ci]? = some (C, TT, N)) (hj0 : j < N) (hN : bm_nf ci = N) (h8 : ci < 8) (ty0 : Nat → FieldType) (hty : ∀ k, k < N → parseFieldDescriptor (TT k).2.2.1 = some (ty0 k)) (hnm : ∀ a, a < N → ∀ b, b < N → a ≠ b → (TT a).2.1 ≠ (TT b).2.1) (hlink : Cond.fieldLink own index ref (TT j).2.1 (TT j).2.2.1 ∈ bm_T) (hsame : (TT j).1 = ref) {H : Heap} {locs : List Loc} {cells slots : Nat} {Q : State → Prop} {ls : Array Slot} {rest : List Value} {a : Nat} {fs : List Value} {v : Value} {ty : FieldType}
    (hat : va_at g.2.2.2.1 vwCl (a, .inr (ci, fs)) H) (hfin : (TT j).2.2.2 = false ∨ ((TT j).2.2.2 = true ∧ meth.name = "<init>" ∧ (TT j).1 = own)) (hdt : parseFieldDescriptor (TT j).2.2.1 = some ty) (hn : narrow ty v = v) (hfit : fits ty v = true) (hl : j < fs.length) (hd : decode cc pc = .ok (.putfield index, 3))
    (kk : ∀ (H1 : Heap) (i : Nat), va_at g.2.2.2.1 vwCl (a, .inr (ci, fs.set j v)) H1 → H1.size = H.size → (∀ q, q ≠ a → H1[q]? = H[q]?) → W p l e R s m args below meth c H1 (locs ++ [⟨a, i⟩]) cells slots Q (F0 m (pc + 3) ls rest)) : W p l e R s m args below meth c H locs cells slots Q (F0 m pc ls (v :: .ref a :: rest)) := by
  have hap := va_apart (own := own) hts hin ty0 hty hnm hK.2.1 hc
  obtain ⟨r, h1, cell, q1, q2, q3, q4⟩ := hat
  have hr : r = (C, TT, N) := Option.some.inj (h1.symm.trans hc)
  subst hr
  obtain ⟨hS, hfc, kC, hkC, hkind⟩ := hK.2.1.1 ci _ hc
  obtain ⟨cf, kf, fi, f, hi, hsl⟩ := hS j hj0
  have hlay := hts _ (hin _ (u_in_lay hj0))
  unfold u_lay at hlay
  have hst := (u_facts hfc hkC (u_lays hts hin hj0) hi).1
  have hsame' : s.fieldFound? ref (TT j).2.1 (TT j).2.2.1 = some (cf, kf, fi, f) := by rw [← hsame]; exact hi
  have fin : ∀ (H' : Heap), H'[a]? = some (cell.setSlot f.slot v) → H'.size = H.size → (∀ q, q ≠ a → H'[q]? = H[q]?) → W p l e R s m args below meth c H' (locs ++ [⟨a, f.slot⟩]) cells slots Q (F0 m (pc + 3) ls rest) := by
    intro H' e1 e2 e3
    rw [hsl] at e1
    exact kk H' _ ⟨_, hc, t_OB.to (V := updV (vp_V fs) j v) ⟨_, e1, q2, q3, t_set q4 hap hj0 v⟩ (fun i _ => vp_updV_set hl v i)⟩ e2 e3
  rcases hfin with hfin | ⟨hfin, hin2, hdecl⟩
  · rw [if_neg (by rw [hfin]; decide)] at hlay
    have h6 := u_store hfc hkC hkind hlay hi hdt hn hfit
    exact W.putK hx hb (f := f) ⟨hown, hts _ hlink, ⟨_, _, _, hsame'⟩, hst⟩ (by rw [q2]; exact h6) q1 q3 (by rw [hsl]; exact k2_hasslot (q4 j hj0)) rfl rfl hd fin
  · rw [if_pos hfin] at hlay
    have hcf : m.cls = cf := by
      obtain ⟨_, _, c', _, _, _, -, -, hf', -, -, -, hown2, -⟩ := Cond.laysFinal_spec hlay
      have e1 : c' = cf := by have := hi.symm.trans hf'; simp at this; exact this.1.symm
      rw [hdecl] at hown2
      rw [← e1]; exact Option.some.inj (hown.symm.trans hown2)
    have h6 := u_fits hfc hkC hkind (Or.inr hlay) hi hdt hn hfit
    exact W.putFinK hx hb hown (hts _ hlink) hsame' hst hcf hin2 (by rw [q2]; exact h6) q1 q3 (by rw [hsl]; exact k2_hasslot (q4 j hj0)) rfl rfl hd fin
theorem bm_locs {locs : List Loc} {a i : Nat} (h : ∀ q ∈ locs, g.1 ≤ q.base) (ha : g.1 ≤ a) : ∀ q ∈ locs ++ [(⟨a, i⟩ : Loc)], g.1 ≤ q.base := by
  intro q hq
  rcases List.mem_append.mp hq with h1 | h1
  · exact h q h1
  · rw [List.mem_singleton.mp h1]; exact ha
def op_putI (ci j : Nat) : bm_O := fun _ nx x => match x with | (lo, st, M) => match st with
  | .inl v :: .inr (some a) :: st => bif Nat.beq (bm_kd M a) ci then nx (lo, st, bm_pI M a j v) else none
  | _ => none
theorem bm_in_pI2 {M : bm_M} {k j : Nat} {v : Int32} : bm_in (bm_pI M k j v) k = upd (bm_in M k) j v := if_pos rfl
theorem s_putI (hx : p.tables.exec = Jvm.exec) (hb : c.code = cc) (hown : s.vm.findClass own = some m.cls) (hts : ∀ w ∈ bm_T, w.before args s = true) (hK : bm_K g s) {ref C : String} {TT : u_T} {N ci j index : Nat} (hin : ∀ w ∈ u_ws C TT N, w ∈ bm_T) (hc : vwCl[ci]? = some (C, TT, N)) (hj0 : j < N) (hN : bm_nf ci = N) (h8 : ci < 8) (ty0 : Nat → FieldType) (hty : ∀ k, k < N → parseFieldDescriptor (TT k).2.2.1 = some (ty0 k)) (hnm : ∀ a, a < N → ∀ b, b < N → a ≠ b → (TT a).2.1 ≠ (TT b).2.1) (hr : bm_isr ci j = false) (hlink : Cond.fieldLink own index ref (TT j).2.1 (TT j).2.2.1 ∈ bm_T) (hsame : (TT j).1 = ref) (hfin : (TT j).2.2.2 = false) (hdt : parseFieldDescriptor (TT j).2.2.1 = some .int) (hd : decode cc pc = .ok (.putfield index, 3)) : bm_Sim p l e R s m args below meth c nL g n0 s0 Qf pc (pc + 3) (op_putI ci j) := by
  intro jm nx hj hn x r h
  obtain ⟨lo, st, M⟩ := x
  rcases st with _ | ⟨v | v, st⟩
  · exact bm_no h
  · rcases st with _ | ⟨w | _ | a, st⟩
    · exact bm_no h
    · exact bm_no h
    · exact bm_no h
    · obtain ⟨hk, h0⟩ := bm_beq h
      change bm_kd M a = ci at hk
      obtain ⟨hm, hw⟩ := hn _ _ h0
      refine ⟨hm, fun a1 a2 a3 a4 H locs ls b1 b2 b3 => ?_⟩
      subst hk
      have h49 := b1.old (Or.inl h8)
      have hat := b1.2.2.1 a h49.1 h49.2
      change va_at _ _ (_, bm_ct _ _ _ M a) H at hat
      rw [bm_ct_ob h8] at hat
      have hjf : j < bm_nf (bm_kd M a) := by rw [hN]; exact hj0
      refine bm_wput hx hb hown hts hK hin hc hj0 hN h8 ty0 hty hnm hlink hsame hat (Or.inl hfin) hdt rfl rfl (by rw [bm_fs_len]; exact hjf) hd (fun H1 i e1 e2 e3 => ?_)
      refine hw a1 a2 a3 a4 H1 _ ls (b1.put (M' := bm_pI M a j v) h49.1 h49.2 ⟨rfl, rfl, rfl⟩ ?_ e2 e3 (fun i hi => ?_)) (bm_locs b2 (by rw [bm_ad_ge h49.1]; omega)) b3
      · rw [bm_ct_ob (M := bm_pI M a j v) h8, bm_fs_set (M := M) (M' := bm_pI M a j v) rfl hjf (v := .int v) ?_ ?_]
        · exact e1
        · unfold bm_fv; rw [if_neg (by show ¬ bm_isr (bm_kd M a) j = true; rw [hr]; decide), bm_in_pI2]; simp [upd]
        · intro i hi; unfold bm_fv; rw [bm_in_pI2]; simp only [upd, if_neg hi]; rfl
      · have hI : bm_in (bm_pI M a j v) i = bm_in M i := va_up_ne _ _ hi
        exact ⟨bm_ct_congr rfl rfl rfl hI, rfl, rfl, fun _ => by rw [hI]⟩
  · exact bm_no h
def op_putR (ci j : Nat) : bm_O := fun _ nx x => match x with | (lo, st, M) => match st with
  | .inr (some v) :: .inr (some a) :: st => bif Nat.beq (bm_kd M a) ci then (bif Nat.blt j (bm_rs M a).length then nx (lo, st, bm_pR M a j (some v)) else none) else none
  | _ => none
theorem bm_rs_pR {M : bm_M} {k j i : Nat} {r : Option Nat} (h : i ≠ k) : bm_rs (bm_pR M k j r) i = bm_rs M i := by
  unfold bm_rs bm_pR
  simp only [List.getD_eq_getElem?_getD]
  rw [List.getElem?_set_ne (Ne.symm h)]
theorem bm_rs_pS {M : bm_M} {k j : Nat} {r : Option Nat} (h : k < M.2.2.1.length) : bm_rs (bm_pR M k j r) k = (bm_rs M k).set j r := by
  unfold bm_pR
  show (M.2.2.1.set k _).getD k [] = _
  rw [List.getD_eq_getElem?_getD, List.getElem?_set_self h]; rfl
theorem bm_rf_pS {M : bm_M} {k j i : Nat} {r : Option Nat} (h : k < M.2.2.1.length) (hj : j < (bm_rs M k).length) : bm_rf (bm_pR M k j r) k i = if i = j then r else bm_rf M k i := by
  unfold bm_rf
  rw [bm_rs_pS h, List.getD_eq_getElem?_getD]
  by_cases e : i = j
  · subst e; rw [List.getElem?_set_self hj, if_pos rfl]; rfl
  · rw [List.getElem?_set_ne (Ne.symm e), if_neg e, ← List.getD_eq_getElem?_getD]
theorem s_putR (hx : p.tables.exec = Jvm.exec) (hb : c.code = cc) (hown : s.vm.findClass own = some m.cls) (hts : ∀ w ∈ bm_T, w.before args s = true) (hK : bm_K g s) {ref C : String} {TT : u_T} {N ci j index : Nat} (hin : ∀ w ∈ u_ws C TT N, w ∈ bm_T) (hc : vwCl[ci]? = some (C, TT, N)) (hj0 : j < N) (hN : bm_nf ci = N) (h8 : ci < 8) (ty0 : Nat → FieldType) (hty : ∀ k, k < N → parseFieldDescriptor (TT k).2.2.1 = some (ty0 k)) (hnm : ∀ a, a < N → ∀ b, b < N → a ≠ b → (TT a).2.1 ≠ (TT b).2.1) (hr : bm_isr ci j = true) (hlink : Cond.fieldLink own index ref (TT j).2.1 (TT j).2.2.1 ∈ bm_T) (hsame : (TT j).1 = ref) (hfin : (TT j).2.2.2 = true ∧ meth.name = "<init>" ∧ (TT j).1 = own) {ty : FieldType} (hdt : parseFieldDescriptor (TT j).2.2.1 = some ty) (hnr : ∀ q, narrow ty (.ref q) = .ref q ∧ fits ty (.ref q) = true) (hd : decode cc pc = .ok (.putfield index, 3)) : bm_Sim p l e R s m args below meth c nL g n0 s0 Qf pc (pc + 3) (op_putR ci j) := by
  intro jm nx hj hn x r h
  obtain ⟨lo, st, M⟩ := x
  rcases st with _ | ⟨v | _ | v, st⟩
  · exact bm_no h
  · exact bm_no h
  · exact bm_no h
  · rcases st with _ | ⟨w | _ | a, st⟩
    · exact bm_no h
    · exact bm_no h
    · exact bm_no h
    · obtain ⟨hk, h1⟩ := bm_beq h
      change bm_kd M a = ci at hk
      obtain ⟨hjl, h0⟩ := bm_blt (b := none) h1
      change j < (bm_rs M a).length at hjl
      obtain ⟨hm, hw⟩ := hn _ _ h0
      refine ⟨hm, fun a1 a2 a3 a4 H locs ls b1 b2 b3 => ?_⟩
      subst hk
      have h49 := b1.old (Or.inl h8)
      have hat := b1.2.2.1 a h49.1 h49.2
      change va_at _ _ (_, bm_ct _ _ _ M a) H at hat
      rw [bm_ct_ob h8] at hat
      have hjf : j < bm_nf (bm_kd M a) := by rw [hN]; exact hj0
      have hrl : a < M.2.2.1.length := Nat.lt_of_lt_of_eq h49.2 b1.1.2.2.2.symm
      refine bm_wput hx hb hown hts hK hin hc hj0 hN h8 ty0 hty hnm hlink hsame hat (Or.inr hfin) hdt (hnr _).1 (hnr _).2 (by rw [bm_fs_len]; exact hjf) hd (fun H1 i e1 e2 e3 => ?_)
      refine hw a1 a2 a3 a4 H1 _ ls (b1.put (M' := bm_pR M a j (some v)) h49.1 h49.2 ⟨rfl, rfl, by show (M.2.2.1.set _ _).length = _; rw [List.length_set]⟩ ?_ e2 e3 (fun i hi => ?_)) (bm_locs b2 (by rw [bm_ad_ge h49.1]; omega)) b3
      · rw [bm_ct_ob (M := bm_pR M a j (some v)) h8, bm_fs_set (M := M) (M' := bm_pR M a j (some v)) rfl hjf (v := .ref (bm_ad g v)) ?_ ?_]
        · exact e1
        · unfold bm_fv; rw [if_pos (show bm_isr (bm_kd (bm_pR M a j (some v)) a) j = true from hr), bm_rf_pS hrl hjl, if_pos rfl]; rfl
        · intro i hi; unfold bm_fv; rw [bm_rf_pS hrl hjl, if_neg hi]; rfl
      · exact ⟨bm_ct_congr rfl rfl (bm_rs_pR hi) rfl, rfl, rfl, fun _ => rfl⟩
end BMH
