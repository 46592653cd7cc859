/-! ARRAYS, NEW CELLS, STATICS, SWITCHES, THE LIBRARY'S OWN METHODS, RETURNS, CALLS -/
section BMI
variable {p : Program} {l : Launch} {e : Env} {R : Room} {s : State} {m : MethodId} {args : Array Value} {below : List Frame} {meth : Method} {c : Code} {nL : Nat} {g : bm_G} {n0 s0 : Nat} {Qf : bm_R → State → Prop} {cc : ByteArray} {pc np : Nat} {own : String}
def op_iaload : bm_O := fun _ nx x => match x with | (lo, st, M) => match st with
  | .inl i :: .inr (some a) :: st => bif Nat.beq (bm_kd M a) 8 then (if i < 0 ∨ bm_ln M a ≤ i.toNatClampNeg then none else nx (lo, .inl (bm_in M a i.toNatClampNeg) :: st, M)) else none
  | _ => none
theorem s_iaload (hx : p.tables.exec = Jvm.exec) (hb : c.code = cc) (hK : bm_K g s) (hd : decode cc pc = .ok (.iaload, 1)) : bm_Sim p l e R s m args below meth c nL g n0 s0 Qf pc (pc + 1) op_iaload := by
  intro jm nx hj hn x r h
  obtain ⟨lo, st, M⟩ := x
  rcases st with _ | ⟨i | i, st⟩
  · exact bm_no h
  · rcases st with _ | ⟨w | _ | a, st⟩
    · exact bm_no h
    · exact bm_no h
    · exact bm_no h
    · obtain ⟨hk, h1⟩ := bm_beq h
      change bm_kd M a = 8 at hk
      change (if i < 0 ∨ bm_ln M a ≤ i.toNatClampNeg then none else nx (lo, .inl (bm_in M a i.toNatClampNeg) :: st, M)) = some r at h1
      by_cases hi : i < 0 ∨ bm_ln M a ≤ i.toNatClampNeg
      · rw [if_pos hi] at h1; exact bm_no h1
      · rw [if_neg hi] at h1
        obtain ⟨hm, hw⟩ := hn _ _ h1
        refine ⟨hm, fun a1 a2 a3 a4 H locs ls b1 b2 b3 => ?_⟩
        obtain ⟨cell, e1, e2, e3, e4, e5, e6⟩ := b1.arr hK hk
        exact W.iald hx hb e1 e2 e3 (fun q => hi (q.imp_right (fun z => Nat.le_trans e4 z))) (e6 _ (Nat.lt_of_not_le fun z => hi (Or.inr z))) rfl rfl hd (hw a1 a2 a3 a4 H locs ls b1 b2 b3)
  · exact bm_no h
def op_alen : bm_O := fun _ nx x => match x with | (lo, st, M) => match st with
  | .inr (some a) :: st => bif (Nat.beq (bm_kd M a) 8 || Nat.beq (bm_kd M a) 9) then nx (lo, .inl (Int32.ofNat (bm_ln M a)) :: st, M) else none
  | _ => none
theorem bm_bif {b : Bool} {x : Option bm_R} {r : bm_R} (h : (bif b then x else none) = some r) : b = true ∧ x = some r := by
  cases b with
  | false => exact bm_no h
  | true => exact ⟨rfl, h⟩
theorem s_alen (hx : p.tables.exec = Jvm.exec) (hb : c.code = cc) (hK : bm_K g s) (hd : decode cc pc = .ok (.arraylength, 1)) : bm_Sim p l e R s m args below meth c nL g n0 s0 Qf pc (pc + 1) op_alen := by
  intro jm nx hj hn x r h
  obtain ⟨lo, st, M⟩ := x
  rcases st with _ | ⟨v | _ | a, st⟩
  · exact bm_no h
  · exact bm_no h
  · exact bm_no h
  · obtain ⟨hk, h1⟩ := bm_bif h
    change (Nat.beq (bm_kd M a) 8 || Nat.beq (bm_kd M a) 9) = true at hk
    obtain ⟨hm, hw⟩ := hn _ _ h1
    refine ⟨hm, fun a1 a2 a3 a4 H locs ls b1 b2 b3 => ?_⟩
    rcases (Bool.or_eq_true _ _).mp hk with hk | hk
    · obtain ⟨cell, e1, e2, e3, e4, e5, e6⟩ := b1.arr hK (Nat.eq_of_beq_eq_true hk)
      exact W.alen hx hb e1 e2 e5 rfl rfl hd (hw a1 a2 a3 a4 H locs ls b1 b2 b3)
    · have hk9 := Nat.eq_of_beq_eq_true hk
      have h49 := b1.old (Or.inr hk9)
      have hc := b1.2.2.1 a h49.1 h49.2
      change va_at _ _ (_, bm_ct _ _ _ M a) H at hc
      unfold bm_ct at hc
      rw [if_neg (by rw [hk9]; decide), if_pos hk9] at hc
      exact va_alen hx hb hK.2.1 (bm_one hc) 0 1 rfl rfl rfl hd (hw a1 a2 a3 a4 H locs ls b1 b2 b3)
def op_aaload : bm_O := fun _ nx x => match x with | (lo, st, M) => match st with
  | .inl i :: .inr (some a) :: st => bif Nat.beq (bm_kd M a) 9 then (if i < 0 ∨ bm_ln M a ≤ i.toNatClampNeg then none else nx (lo, .inr (bm_rf M a i.toNatClampNeg) :: st, M)) else none
  | _ => none
theorem s_aaload (hx : p.tables.exec = Jvm.exec) (hb : c.code = cc) (hK : bm_K g s) (hd : decode cc pc = .ok (.aaload, 1)) : bm_Sim p l e R s m args below meth c nL g n0 s0 Qf pc (pc + 1) op_aaload := by
  intro jm nx hj hn x r h
  obtain ⟨lo, st, M⟩ := x
  rcases st with _ | ⟨i | i, st⟩
  · exact bm_no h
  · rcases st with _ | ⟨w | _ | a, st⟩
    · exact bm_no h
    · exact bm_no h
    · exact bm_no h
    · obtain ⟨hk, h1⟩ := bm_beq h
      change bm_kd M a = 9 at hk
      change (if i < 0 ∨ bm_ln M a ≤ i.toNatClampNeg then none else nx (lo, .inr (bm_rf M a i.toNatClampNeg) :: st, M)) = some r at h1
      by_cases hi : i < 0 ∨ bm_ln M a ≤ i.toNatClampNeg
      · rw [if_pos hi] at h1; exact bm_no h1
      · rw [if_neg hi] at h1
        obtain ⟨hm, hw⟩ := hn _ _ h1
        refine ⟨hm, fun a1 a2 a3 a4 H locs ls b1 b2 b3 => ?_⟩
        have h49 := b1.old (Or.inr hk)
        have hc := b1.2.2.1 a h49.1 h49.2
        change va_at _ _ (_, bm_ct _ _ _ M a) H at hc
        unfold bm_ct at hc
        rw [if_neg (by rw [hk]; decide), if_pos hk] at hc
        exact va_aldq hx hb hK.2.1 (bm_one hc) 0 1 rfl rfl hi hd (hw a1 a2 a3 a4 H locs ls b1 b2 b3)
  · exact bm_no h
def op_iastore : bm_O := fun _ nx x => match x with | (lo, st, M) => match st with
  | .inl v :: .inl i :: .inr (some a) :: st => bif (Nat.beq (bm_kd M a) 8 && Nat.ble 4 a) then (if i < 0 ∨ bm_ln M a ≤ i.toNatClampNeg then none else nx (lo, st, bm_pI M a i.toNatClampNeg v)) else none
  | _ => none
theorem s_iastore (hx : p.tables.exec = Jvm.exec) (hb : c.code = cc) (hK : bm_K g s) (hd : decode cc pc = .ok (.iastore, 1)) : bm_Sim p l e R s m args below meth c nL g n0 s0 Qf pc (pc + 1) op_iastore := by
  intro jm nx hj hn x r h
  obtain ⟨lo, st, M⟩ := x
  rcases st with _ | ⟨v | v, st⟩
  · exact bm_no h
  · rcases st with _ | ⟨i | i, st⟩
    · exact bm_no h
    · rcases st with _ | ⟨w | _ | a, st⟩
      · exact bm_no h
      · exact bm_no h
      · exact bm_no h
      · obtain ⟨hk, h1⟩ := bm_bif h
        change (Nat.beq (bm_kd M a) 8 && Nat.ble 4 a) = true at hk
        obtain ⟨hk8, hk4⟩ := Bool.and_eq_true_iff.mp hk
        have hk8 := Nat.eq_of_beq_eq_true hk8
        have hk4 := Nat.le_of_ble_eq_true hk4
        change (if i < 0 ∨ bm_ln M a ≤ i.toNatClampNeg then none else nx (lo, st, bm_pI M a i.toNatClampNeg v)) = some r at h1
        by_cases hi : i < 0 ∨ bm_ln M a ≤ i.toNatClampNeg
        · rw [if_pos hi] at h1; exact bm_no h1
        · rw [if_neg hi] at h1
          obtain ⟨hm, hw⟩ := hn _ _ h1
          refine ⟨hm, fun a1 a2 a3 a4 H locs ls b1 b2 b3 => ?_⟩
          have han : a < bm_n M := b1.lt (by rw [hk8]; decide)
          have hc := b1.2.2.1 a hk4 han
          change va_at _ _ (_, bm_ct _ _ _ M a) H at hc
          unfold bm_ct at hc
          rw [if_pos hk8] at hc
          refine W.iast hx hb hc ((hK.2.1.2 0 _ rfl).1 _ (fun j => .int (bm_in M a j))) (fun q => by cases q) (by show ¬ (i < 0 ∨ (arrV _ _ _).slots.size ≤ _); rw [arrV_size]; exact hi) rfl rfl hd fun H1 e1 e2 e3 => ?_
          refine hw a1 a2 a3 a4 H1 _ ls (b1.put (M' := bm_pI M a i.toNatClampNeg v) hk4 han ⟨rfl, rfl, rfl⟩ ?_ e2 e3 (fun q hq => ?_)) (bm_locs b2 (by rw [bm_ad_ge hk4]; omega)) b3
          · unfold bm_ct
            rw [if_pos (show bm_kd (bm_pI M a i.toNatClampNeg v) a = 8 from hk8), bm_in_pI2]
            show H1[bm_ad g a]? = some (vp_cell _ _)
            rw [e1]
            show some ((arrV _ _ _).setSlot _ _) = _
            rw [arrV_store]
            show some (arrV g.2.2.2.2.1 (bm_ln M a) (updV (fun j => .int (bm_in M a j)) i.toNatClampNeg (.int v))) = some (arrV g.2.2.2.2.1 (bm_ln M a) (fun j => .int (upd (bm_in M a) i.toNatClampNeg v j)))
            congr 2
            funext q
            by_cases hq : q = i.toNatClampNeg
            · subst hq; simp [updV, upd]
            · simp [updV, upd, hq]
          · have hI : bm_in (bm_pI M a i.toNatClampNeg v) q = bm_in M q := va_up_ne _ _ hq
            exact ⟨bm_ct_congr rfl rfl rfl hI, rfl, rfl, fun _ => by rw [hI]⟩
    · exact bm_no h
  · exact bm_no h
/-- a new cell -/
theorem bm_W.new {M : bm_M} {H H1 : Heap} {kd ln : Nat} {rs : List (Option Nat)} (h : bm_W g M H) (hz : H1.size = H.size + 1) (ho : ∀ q : Nat, q < H.size → H1[q]? = H[q]?)
    (hat : va_at g.2.2.2.1 vwCl (bm_ad g (bm_n M), bm_ct (bm_ad g) g.2.2.2.2.1 g.2.2.2.2.2.1 (bm_nw M kd ln rs) (bm_n M)) H1) : bm_W g (bm_nw M kd ln rs) H1 := by
  obtain ⟨⟨a1, a2, a3, a4⟩, b, c1, d⟩ := h
  have hn : bm_n (bm_nw M kd ln rs) = bm_n M + 1 := by show (M.1 ++ [kd]).length = M.1.length + 1; simp
  have key : ∀ k, k < bm_n M → bm_kd (bm_nw M kd ln rs) k = bm_kd M k ∧ bm_ln (bm_nw M kd ln rs) k = bm_ln M k ∧ bm_rs (bm_nw M kd ln rs) k = bm_rs M k ∧ bm_in (bm_nw M kd ln rs) k = bm_in M k := by
    intro k hk
    refine ⟨?_, ?_, ?_, va_up_ne _ _ (Nat.ne_of_lt hk)⟩
    · show (M.1 ++ [kd]).getD k 99 = M.1.getD k 99
      rw [List.getD_eq_getElem?_getD, List.getD_eq_getElem?_getD, List.getElem?_append_left hk]
    · show (M.2.1 ++ [ln]).getD k 0 = M.2.1.getD k 0
      rw [List.getD_eq_getElem?_getD, List.getD_eq_getElem?_getD, List.getElem?_append_left (by omega)]
    · show (M.2.2.1 ++ [rs]).getD k [] = M.2.2.1.getD k []
      rw [List.getD_eq_getElem?_getD, List.getD_eq_getElem?_getD, List.getElem?_append_left (by omega)]
  refine ⟨⟨by omega, by rw [hz, a2, hn]; omega, ?_, ?_⟩, fun q hq => ?_, fun k k4 hk => ?_, fun k hk => ?_⟩
  · show (M.2.1 ++ [ln]).length = _; rw [List.length_append, hn, a3]; rfl
  · show (M.2.2.1 ++ [rs]).length = _; rw [List.length_append, hn, a4]; rfl
  · rw [ho q (by omega)]; exact b q hq
  · by_cases e : k = bm_n M
    · subst e; exact hat
    · have hk' : k < bm_n M := by omega
      obtain ⟨k1, k2, k3, k4'⟩ := key k hk'
      rw [bm_ct_congr k1 k2 k3 k4']
      refine (c1 k k4 hk').kept (ho _ ?_)
      show bm_ad g k < H.size
      rw [bm_ad_ge k4, a2]; omega
  · obtain ⟨k1, k2, k3, k4'⟩ := key k (by omega)
    obtain ⟨d1, d2, d3⟩ := d k hk
    exact ⟨k1.trans d1, k2.trans d2, fun j => by rw [k4']; exact d3 j⟩
theorem bm_nw_n {M : bm_M} {kd ln : Nat} {rs : List (Option Nat)} : bm_n (bm_nw M kd ln rs) = bm_n M + 1 := by show (M.1 ++ [kd]).length = M.1.length + 1; simp
theorem bm_nw_kd {M : bm_M} {kd ln : Nat} {rs : List (Option Nat)} : bm_kd (bm_nw M kd ln rs) (bm_n M) = kd := by
  show (M.1 ++ [kd]).getD M.1.length 99 = kd
  rw [List.getD_eq_getElem?_getD, List.getElem?_concat_length]; rfl
theorem bm_nw_ln {M : bm_M} {kd ln : Nat} {rs : List (Option Nat)} (h : M.2.1.length = bm_n M) : bm_ln (bm_nw M kd ln rs) (bm_n M) = ln := by
  show (M.2.1 ++ [ln]).getD _ 0 = ln
  rw [← h, List.getD_eq_getElem?_getD, List.getElem?_concat_length]; rfl
theorem bm_nw_rs {M : bm_M} {kd ln : Nat} {rs : List (Option Nat)} (h : M.2.2.1.length = bm_n M) : bm_rs (bm_nw M kd ln rs) (bm_n M) = rs := by
  show (M.2.2.1 ++ [rs]).getD _ [] = rs
  rw [← h, List.getD_eq_getElem?_getD, List.getElem?_concat_length]; rfl
theorem bm_nw_in {M : bm_M} {kd ln : Nat} {rs : List (Option Nat)} : bm_in (bm_nw M kd ln rs) (bm_n M) = fun _ => 0 := if_pos rfl
theorem bm_W.top {M : bm_M} {H : Heap} (h : bm_W g M H) : bm_ad g (bm_n M) = H.size := by rw [bm_ad_ge h.1.1, h.1.2.1]
def op_newa : bm_O := fun _ nx x => match x with | (lo, st, M) => match st with
  | .inl n :: st => if n < 0 ∨ 1000 < n.toNatClampNeg then none else nx (lo, .inr (some (bm_n M)) :: st, bm_nw M 8 n.toNatClampNeg [])
  | _ => none
theorem s_newa (hx : p.tables.exec = Jvm.exec) (hb : c.code = cc) (hts : ∀ w ∈ bm_T, w.before args s = true) (hK : bm_K g s) (hw9 : Cond.arrayClass .int ∈ bm_T) (hd : decode cc pc = .ok (.newarray .int, 2)) : bm_Sim p l e R s m args below meth c nL g n0 s0 Qf pc (pc + 2) op_newa := by
  intro jm nx hj hn x r h
  obtain ⟨lo, st, M⟩ := x
  rcases st with _ | ⟨v | v, st⟩
  · exact bm_no h
  · change (if v < 0 ∨ 1000 < v.toNatClampNeg then none else nx (lo, .inr (some (bm_n M)) :: st, bm_nw M 8 v.toNatClampNeg [])) = some r at h
    by_cases hi : v < 0 ∨ 1000 < v.toNatClampNeg
    · rw [if_pos hi] at h; exact bm_no h
    · rw [if_neg hi] at h
      obtain ⟨hm, hw⟩ := hn _ _ h
      dsimp only at hm hw
      have hn1 : bm_n (bm_nw M 8 v.toNatClampNeg []) = bm_n M + 1 := bm_nw_n
      have hs1 : bm_sl (bm_nw M 8 v.toNatClampNeg []) = bm_sl M + v.toNatClampNeg := rfl
      refine ⟨⟨by have := hm.1; show bm_n M ≤ _; omega, by have := hm.2; show bm_sl M ≤ _; omega⟩, fun a1 a2 a3 a4 H locs ls b1 b2 b3 => ?_⟩
      dsimp only at a1 a2 b1 b3
      refine va_newaK (atype := .int) hx hb (hts _ hw9) rfl hd rfl (fun q => hi (Or.inl q)) rfl (by show v.toNatClampNeg * 4 ≤ _; omega) (by show bm_n M - n0 + 1 ≤ _; omega) (by show bm_sl M - s0 + _ ≤ _; omega) rfl fun H1 cA e1 e2 e3 e4 e5 => ?_
      have hcA : cA = g.2.2.2.2.1 := Option.some.inj (e5.symm.trans (hK.2.1.2 0 _ rfl).2)
      refine W.cs (show _ = bm_n (bm_nw M 8 v.toNatClampNeg []) - n0 by show bm_n M - n0 + 1 = _; omega) (show _ = bm_sl (bm_nw M 8 v.toNatClampNeg []) - s0 by show bm_sl M - s0 + _ = _; omega) ?_
      have ht := b1.top
      have key := hw (by omega) (by omega) a3 a4 H1 locs ls (b1.new e2 (fun q hq => e3 q hq) ?_) b2 b3
      · have : (List.map (bm_tr g) (Sum.inr (some (bm_n M)) :: st)) = Value.ref H.size :: List.map (bm_tr g) st := by
          rw [← ht]; rfl
        rw [this] at key
        exact key
      · unfold bm_ct
        rw [if_pos bm_nw_kd, bm_nw_ln b1.1.2.2.1, bm_nw_in, ht]
        show H1[H.size]? = some (vp_cell _ _)
        rw [e1, hcA]; rfl
  · exact bm_no h
def op_new (ci : Nat) : bm_O := fun _ nx x => match x with | (lo, st, M) => nx (lo, .inr (some (bm_n M)) :: st, bm_nw M ci (bm_nf ci) (List.replicate (bm_nf ci) none))
theorem s_new (hx : p.tables.exec = Jvm.exec) (hb : c.code = cc) (hown : s.vm.findClass own = some m.cls) (hts : ∀ w ∈ bm_T, w.before args s = true) (hK : bm_K g s) {C : String} {TT : u_T} {N ci index : Nat} (hin : ∀ w ∈ u_ws C TT N, w ∈ bm_T) (hc : vwCl[ci]? = some (C, TT, N)) (hN : bm_nf ci = N) (h8 : ci < 8) (ty0 : Nat → FieldType) (hty : ∀ k, k < N → parseFieldDescriptor (TT k).2.2.1 = some (ty0 k))
    (hdf : ∀ k, k < N → defaultValue (ty0 k) = if bm_isr ci k = true then .null else .int 0) (hcl : Cond.classLink own index C ∈ bm_T) (hinst : Cond.instantiable C N ∈ bm_T) (hini : Cond.initialized C ∈ bm_T) (hd : decode cc pc = .ok (.new index, 3)) : bm_Sim p l e R s m args below meth c nL g n0 s0 Qf pc (pc + 3) (op_new ci) := by
  intro jm nx hj hn x r h
  obtain ⟨lo, st, M⟩ := x
  obtain ⟨hm, hw⟩ := hn _ _ h
  dsimp only at hm hw
  subst hN
  have hn1 : bm_n (bm_nw M ci (bm_nf ci) (List.replicate (bm_nf ci) none)) = bm_n M + 1 := bm_nw_n
  have hs1 : bm_sl (bm_nw M ci (bm_nf ci) (List.replicate (bm_nf ci) none)) = bm_sl M + bm_nf ci := rfl
  refine ⟨⟨by have := hm.1; show bm_n M ≤ _; omega, by have := hm.2; show bm_sl M ≤ _; omega⟩, fun a1 a2 a3 a4 H locs ls b1 b2 b3 => ?_⟩
  dsimp only at a1 a2 b1 b3
  have hKn := hK.2.1.1 ci _ hc
  refine W.newcK hx hb hown (hts _ hcl) (hts _ hinst) (hts _ hini) rfl hd (by show bm_n M - n0 + 1 ≤ _; omega) (by show bm_sl M - s0 + _ ≤ _; omega) hKn.2.1 rfl fun H1 kC hkC e1 e2 e3 => ?_
  refine W.cs (show _ = bm_n (bm_nw M ci (bm_nf ci) (List.replicate (bm_nf ci) none)) - n0 by show bm_n M - n0 + 1 = _; omega) (show _ = bm_sl (bm_nw M ci (bm_nf ci) (List.replicate (bm_nf ci) none)) - s0 by show bm_sl M - s0 + _ = _; omega) ?_
  have ht := b1.top
  have key := hw (by omega) (by omega) a3 a4 H1 locs ls (b1.new e2 (fun q hq => e3 q hq) ?_) b2 b3
  · have : (List.map (bm_tr g) (Sum.inr (some (bm_n M)) :: st)) = Value.ref H.size :: List.map (bm_tr g) st := by
      rw [← ht]; rfl
    rw [this] at key
    exact key
  · have hkd : bm_kd (bm_nw M ci (bm_nf ci) (List.replicate (bm_nf ci) none)) (bm_n M) = ci := bm_nw_kd
    rw [bm_ct_ob (by rw [hkd]; exact h8), ht]
    rw [hkd]
    refine ⟨_, hc, (u_born ty0 hts hin hKn hkC e1 hty).to (fun j hj => ?_)⟩
    rw [bm_vf (by rw [hkd]; exact hj), hdf j hj]
    unfold bm_fv
    rw [hkd, bm_nw_in]
    by_cases hr : bm_isr ci j = true
    · rw [if_pos hr, if_pos hr]
      unfold bm_rf
      rw [bm_nw_rs b1.1.2.2.2, List.getD_eq_getElem?_getD, List.getElem?_replicate]
      rw [if_pos hj]; rfl
    · rw [if_neg hr, if_neg hr]
def op_anew : bm_O := fun _ nx x => match x with | (lo, st, M) => match st with
  | .inl n :: st => if n < 0 ∨ 1000 < n.toNatClampNeg then none else nx (lo, .inr (some (bm_n M)) :: st, bm_nw M 9 n.toNatClampNeg (List.replicate n.toNatClampNeg none))
  | _ => none
theorem s_anew (hx : p.tables.exec = Jvm.exec) (hb : c.code = cc) (hown : s.vm.findClass own = some m.cls) (hts : ∀ w ∈ bm_T, w.before args s = true) (hK : bm_K g s) {index : Nat} (hcl : Cond.classLink own index "BallotPapers$Poll" ∈ bm_T) (hd : decode cc pc = .ok (.anewarray index, 3)) : bm_Sim p l e R s m args below meth c nL g n0 s0 Qf pc (pc + 3) op_anew := by
  intro jm nx hj hn x r h
  obtain ⟨lo, st, M⟩ := x
  rcases st with _ | ⟨v | v, st⟩
  · exact bm_no h
  · change (if v < 0 ∨ 1000 < v.toNatClampNeg then none else nx (lo, .inr (some (bm_n M)) :: st, bm_nw M 9 v.toNatClampNeg (List.replicate v.toNatClampNeg none))) = some r at h
    by_cases hi : v < 0 ∨ 1000 < v.toNatClampNeg
    · rw [if_pos hi] at h; exact bm_no h
    · rw [if_neg hi] at h
      obtain ⟨hm, hw⟩ := hn _ _ h
      dsimp only at hm hw
      have hn1 : bm_n (bm_nw M 9 v.toNatClampNeg (List.replicate v.toNatClampNeg none)) = bm_n M + 1 := bm_nw_n
      have hs1 : bm_sl (bm_nw M 9 v.toNatClampNeg (List.replicate v.toNatClampNeg none)) = bm_sl M + v.toNatClampNeg := rfl
      refine ⟨⟨by have := hm.1; show bm_n M ≤ _; omega, by have := hm.2; show bm_sl M ≤ _; omega⟩, fun a1 a2 a3 a4 H locs ls b1 b2 b3 => ?_⟩
      dsimp only at a1 a2 b1 b3
      refine W.anew hx hb hown (hts _ hcl) (va_AO.use hK.2.2.2.2.2.2) rfl hd rfl (fun q => hi (Or.inl q)) (by omega) (by show bm_n M - n0 + 1 ≤ _; omega) (by show bm_sl M - s0 + _ ≤ _; omega) fun cA kA comp f1 f2 f3 f4 => ?_
      obtain ⟨kA', comp', y1, y2, y3, y4⟩ := (hK.2.1.2 1 _ rfl).2
      have hcA : cA = g.2.2.2.2.2.1 := Option.some.inj (f1.symm.trans y4)
      refine W.cs (show _ = bm_n (bm_nw M 9 v.toNatClampNeg (List.replicate v.toNatClampNeg none)) - n0 by show bm_n M - n0 + 1 = _; omega) (show _ = bm_sl (bm_nw M 9 v.toNatClampNeg (List.replicate v.toNatClampNeg none)) - s0 by show bm_sl M - s0 + _ = _; omega) ?_
      have ht := b1.top
      have key := hw (by omega) (by omega) a3 a4 (H.push { cls := cA, slots := Array.replicate v.toNatClampNeg .null, vm := .none }) locs ls (b1.new (by rw [Array.size_push]) (fun q hq => by rw [Array.getElem?_push, if_neg (Nat.ne_of_lt hq)]) ?_) b2 b3
      · have : (List.map (bm_tr g) (Sum.inr (some (bm_n M)) :: st)) = Value.ref H.size :: List.map (bm_tr g) st := by
          rw [← ht]; rfl
        rw [this] at key
        exact key
      · unfold bm_ct
        rw [if_neg (by rw [bm_nw_kd]; decide), if_pos bm_nw_kd, bm_nw_ln b1.1.2.2.1, ht]
        show (H.push _)[H.size]? = some (vp_cell _ _)
        rw [Array.getElem?_push_size, hcA, arrV_new, vp_cell_q]
        congr 2
        funext j
        unfold bm_rf
        rw [bm_nw_rs b1.1.2.2.2, List.getD_eq_getElem?_getD, List.getElem?_replicate]
        by_cases hj : j < v.toNatClampNeg
        · rw [if_pos hj]; rfl
        · rw [if_neg hj]; rfl
  · exact bm_no h
end BMI
