/-! A SMALL MACHINE OVER A SMALL MEMORY, AND THAT THE MODEL'S MACHINE FOLLOWS IT.
Cells are numbered from 0: 0, 1, 2 the class's static arrays, 3 the script, from 4 on what the run makes, in its order.
A memory: kinds (a class's place in vwCl; 8 int array; 9 array of Poll), lengths, references, numbers, slots made. -/
abbrev bm_V : Type := Int32 ⊕ Option Nat
abbrev bm_M : Type := List Nat × List Nat × List (List (Option Nat)) × (Nat → Nat → Int32) × Nat
abbrev bm_R : Type := Option bm_V × bm_M
abbrev bm_C : Type := List (Option bm_V) × List bm_V × bm_M
abbrev bm_J : Type := Nat → bm_C → Option bm_R
abbrev bm_N : Type := bm_C → Option bm_R
abbrev bm_O : Type := bm_J → bm_N → bm_C → Option bm_R
abbrev bm_F : Type := List bm_V → bm_M → Option bm_R
def bm_n (M : bm_M) : Nat := M.1.length
def bm_kd (M : bm_M) (k : Nat) : Nat := M.1.getD k 99
def bm_ln (M : bm_M) (k : Nat) : Nat := M.2.1.getD k 0
def bm_rs (M : bm_M) (k : Nat) : List (Option Nat) := M.2.2.1.getD k []
def bm_rf (M : bm_M) (k j : Nat) : Option Nat := (bm_rs M k).getD j none
def bm_in (M : bm_M) : Nat → Nat → Int32 := M.2.2.2.1
def bm_sl (M : bm_M) : Nat := M.2.2.2.2
def bm_pI (M : bm_M) (k j : Nat) (v : Int32) : bm_M := (M.1, M.2.1, M.2.2.1, va_up M.2.2.2.1 k (upd (M.2.2.2.1 k) j v), M.2.2.2.2)
def bm_pA (M : bm_M) (k : Nat) (f : Nat → Int32) : bm_M := (M.1, M.2.1, M.2.2.1, va_up M.2.2.2.1 k f, M.2.2.2.2)
def bm_pR (M : bm_M) (k j : Nat) (r : Option Nat) : bm_M := (M.1, M.2.1, M.2.2.1.set k ((bm_rs M k).set j r), M.2.2.2.1, M.2.2.2.2)
def bm_nw (M : bm_M) (kd ln : Nat) (rs : List (Option Nat)) : bm_M := (M.1 ++ [kd], M.2.1 ++ [ln], M.2.2.1 ++ [rs], va_up M.2.2.2.1 M.1.length (fun _ => 0), M.2.2.2.2 + ln)
def bm_nf (ci : Nat) : Nat := [7, 1, 3, 12, 12, 2, 6, 19].getD ci 0
def bm_isr (ci j : Nat) : Bool := ([[0, 1, 2], [0], [0], [2, 3, 4, 5, 6, 7, 8, 9, 10, 11], [0, 1, 2, 3], [0], [0, 1, 2, 3, 4, 5], [0, 1, 3, 5, 6, 16, 17, 18]].getD ci []).any (fun x => Nat.beq x j)
-- what a memory's cell is on the machine
def bm_fv (ad : Nat → Nat) (M : bm_M) (k j : Nat) : Value := if bm_isr (bm_kd M k) j = true then va_rf ((bm_rf M k j).map ad) else .int (bm_in M k j)
def bm_fs (ad : Nat → Nat) (M : bm_M) (k : Nat) : List Value := (List.range (bm_nf (bm_kd M k))).map (bm_fv ad M k)
def bm_ct (ad : Nat → Nat) (cI cP : ClassId) (M : bm_M) (k : Nat) : va_E :=
  if bm_kd M k = 8 then .inl (cI, bm_ln M k, .inl (bm_in M k))
  else if bm_kd M k = 9 then .inl (cP, bm_ln M k, .inr (.inr (.inr (.inr (fun j => (bm_rf M k j).map ad)))))
  else .inr (bm_kd M k, bm_fs ad M k)
/-- what a run is given: the first new address, the addresses of cells 0 to 3, the heap then, the classes, the two array classes, lengths and contents of cells 0 to 3 -/
abbrev bm_G : Type := Nat × (Nat → Nat) × Heap × va_G × ClassId × ClassId × (Nat → Nat) × (Nat → Nat → Int32)
def bm_ad (g : bm_G) (k : Nat) : Nat := if k < 4 then g.2.1 k else g.1 + (k - 4)
def bm_tr (g : bm_G) : bm_V → Value
  | .inl x => .int x
  | .inr r => va_rf (r.map (bm_ad g))
def bm_W (g : bm_G) (M : bm_M) (H : Heap) : Prop :=
  (4 ≤ bm_n M ∧ H.size = g.1 + (bm_n M - 4) ∧ M.2.1.length = bm_n M ∧ M.2.2.1.length = bm_n M) ∧ (∀ q : Nat, q < g.1 → H[q]? = g.2.2.1[q]?) ∧
  (∀ k, 4 ≤ k → k < bm_n M → va_at g.2.2.2.1 vwCl (bm_ad g k, bm_ct (bm_ad g) g.2.2.2.2.1 g.2.2.2.2.2.1 M k) H) ∧
  (∀ k, k < 4 → bm_kd M k = 8 ∧ bm_ln M k = g.2.2.2.2.2.2.1 k ∧ ∀ j, bm_in M k j = g.2.2.2.2.2.2.2 k j)
def bm_ro (g : bm_G) (k : Nat) (U : State) : Prop :=
  g.2.1 k < g.1 ∧ ∃ cell : Cell, g.2.2.1[g.2.1 k]? = some cell ∧ U.isArrayOf cell .int ∧ cell.vm ≠ .unknown ∧ g.2.2.2.2.2.2.1 k ≤ cell.slots.size ∧ cell.slots.size.toInt32 = Int32.ofNat (g.2.2.2.2.2.2.1 k) ∧
    ∀ j : Nat, j < g.2.2.2.2.2.2.1 k → cell.slots[j]? = some (.int (g.2.2.2.2.2.2.2 k j))
abbrev bm_fr (g : bm_G) : Nat → Prop := fun q => g.1 ≤ q
def bm_nest : List Cond := [.methodLinkNest "BallotPapers$Poll" 90 yX7_within "BallotPapers", .methodLinkNest "BallotPapers$Sheet" 75 yX7_roundedUp "BallotPapers", .methodLinkNest "BallotPapers$Text" 25 yX7_within "BallotPapers", .methodLinkNest "BallotPapers$Ballot" 67 yX7_within "BallotPapers"]
def bm_K (g : bm_G) (U : State) : Prop :=
  g.1 = g.2.2.1.size ∧ va_K g.2.2.2.1 vwCl [(g.2.2.2.2.1, .int), (g.2.2.2.2.2.1, .object "BallotPapers$Poll")] U ∧ (∀ k, k < 4 → bm_ro g k U) ∧
  (va_Z "BallotPapers" "AT_FIRST" "[I" (.ref (g.2.1 0)) (bm_fr g) U g.2.2.1 ∧ va_Z "BallotPapers" "LEAST" "[I" (.ref (g.2.1 1)) (bm_fr g) U g.2.2.1 ∧ va_Z "BallotPapers" "MOST" "[I" (.ref (g.2.1 2)) (bm_fr g) U g.2.2.1) ∧
  (∀ w ∈ bm_nest, va_Nw w U) ∧ va_Nw (.fieldLinkNest "BallotPapers$Poll" 42 "BallotPapers" "AT_FIRST" "[I" "BallotPapers") U ∧ va_AO "BallotPapers$Poll" U
theorem bm_K.warm {g : bm_G} {s U : State} (hW : s.WarmedH U.vm) (h : bm_K g s) : bm_K g U := by
  obtain ⟨h0, h1, h2, ⟨h3, h4, h5⟩, h6, h7, h8⟩ := h
  refine ⟨h0, va_K.moved hW.alike h1, fun k hk => ?_, ⟨va_Z.moved hW.alike h3, va_Z.moved hW.alike h4, va_Z.moved hW.alike h5⟩, fun w hw => ?_, va_Nw.warmF hW h7, va_AO.moved hW.alike h8⟩
  · obtain ⟨a, cell, b1, b2, b3⟩ := h2 k hk
    exact ⟨a, cell, b1, State.isArrayOf_alike hW.alike b2, b3⟩
  · have h9 := h6 w hw
    simp only [bm_nest, List.mem_cons, List.not_mem_nil, or_false] at hw
    rcases hw with rfl | rfl | rfl | rfl <;> exact va_Nw.warmM hW h9
theorem bm_K.calling {g : bm_G} {U : State} {f : JFrame} {mk : MethodId} {a : Array Value} (h : bm_K g U) : bm_K g (U.calling f mk a) := by
  obtain ⟨h0, h1, h2, ⟨h3, h4, h5⟩, h6, h7, h8⟩ := h
  have hv : U.vm.Alike (U.calling f mk a).vm := Vm.Alike.refl U.vm
  refine ⟨h0, va_K.moved hv h1, fun k hk => ?_, ⟨va_Z.moved hv h3, va_Z.moved hv h4, va_Z.moved hv h5⟩, fun w hw => ?_, va_Nw.same (by rfl) rfl h7, va_AO.moved hv h8⟩
  · obtain ⟨a, cell, b1, b2, b3⟩ := h2 k hk
    exact ⟨a, cell, b1, State.isArrayOf_alike hv b2, b3⟩
  · have h9 := h6 w hw
    simp only [bm_nest, List.mem_cons, List.not_mem_nil, or_false] at hw
    rcases hw with rfl | rfl | rfl | rfl <;> exact va_Nw.same (by rfl) rfl h9
-- the memory's world moves
theorem bm_ad_ge {g : bm_G} {k : Nat} (h : 4 ≤ k) : bm_ad g k = g.1 + (k - 4) := by unfold bm_ad; rw [if_neg (by omega)]
theorem bm_W.put {g : bm_G} {M M' : bm_M} {H H' : Heap} {k : Nat} (h : bm_W g M H) (h4 : 4 ≤ k) (hk : k < bm_n M) (hl : bm_n M' = bm_n M ∧ M'.2.1.length = M.2.1.length ∧ M'.2.2.1.length = M.2.2.1.length)
    (hat : va_at g.2.2.2.1 vwCl (bm_ad g k, bm_ct (bm_ad g) g.2.2.2.2.1 g.2.2.2.2.2.1 M' k) H') (hz : H'.size = H.size) (ho : ∀ q, q ≠ bm_ad g k → H'[q]? = H[q]?)
    (hs : ∀ i, i ≠ k → bm_ct (bm_ad g) g.2.2.2.2.1 g.2.2.2.2.2.1 M' i = bm_ct (bm_ad g) g.2.2.2.2.1 g.2.2.2.2.2.1 M i ∧ bm_kd M' i = bm_kd M i ∧ bm_ln M' i = bm_ln M i ∧ ∀ j, bm_in M' i j = bm_in M i j) : bm_W g M' H' := by
  obtain ⟨⟨a1, a2, a3, a4⟩, b, c1, d⟩ := h
  have e := bm_ad_ge (g := g) h4
  refine ⟨⟨by omega, by rw [hz, a2, hl.1], by omega, by omega⟩, fun q hq => ?_, fun i i4 hi => ?_, fun i hi => ?_⟩
  · rw [ho q (by omega)]; exact b q hq
  · by_cases hik : i = k
    · subst hik; exact hat
    · rw [(hs i hik).1]
      refine (c1 i i4 (by omega)).kept (ho _ ?_)
      show bm_ad g i ≠ bm_ad g k
      rw [bm_ad_ge i4, e]; omega
  · obtain ⟨s1, s2, s3, s4⟩ := hs i (by omega)
    obtain ⟨d1, d2, d3⟩ := d i hi
    exact ⟨s2.trans d1, s3.trans d2, fun j => (s4 j).trans (d3 j)⟩
theorem bm_W.lt {g : bm_G} {M : bm_M} {H : Heap} (h : bm_W g M H) {k : Nat} (hk : bm_kd M k ≠ 99) : k < bm_n M := by
  refine Nat.lt_of_not_le fun q => hk ?_
  unfold bm_kd
  rw [List.getD_eq_getElem?_getD, List.getElem?_eq_none_iff.mpr q]; rfl
theorem bm_vf {ad : Nat → Nat} {M : bm_M} {k j : Nat} (h : j < bm_nf (bm_kd M k)) : vp_V (bm_fs ad M k) j = bm_fv ad M k j := by
  unfold vp_V bm_fs
  rw [List.getD_eq_getElem?_getD, List.getElem?_map, List.getElem?_range h]; rfl
theorem bm_fs_get {ad : Nat → Nat} {M : bm_M} {k j : Nat} (h : j < bm_nf (bm_kd M k)) : (bm_fs ad M k)[j]? = some (bm_fv ad M k j) := by
  unfold bm_fs
  rw [List.getElem?_map, List.getElem?_range h]; rfl
theorem bm_ct_ob {ad : Nat → Nat} {cI cP : ClassId} {M : bm_M} {k : Nat} (h : bm_kd M k < 8) : bm_ct ad cI cP M k = .inr (bm_kd M k, bm_fs ad M k) := by
  unfold bm_ct
  rw [if_neg (by omega), if_neg (by omega)]
theorem bm_one {D : va_G} {H : Heap} {q : Nat × va_E} (h : va_at D vwCl q H) : va_P D vwCl [q] H := by
  intro k x hk
  match k, hk with
  | 0, hk => cases hk; exact h
  | k + 1, hk => simp at hk
-- locals
def bm_lr (g : bm_G) (nL : Nat) (ls : Array Slot) (lo : List (Option bm_V)) : Prop := ls.size = nL ∧ lo.length = nL ∧ lv_wf ls ∧ ∀ (i : Nat) (v : bm_V), lo.getD i none = some v → ls[i]? = some (.val (bm_tr g v))
theorem bm_cat (g : bm_G) (v : bm_V) : (bm_tr g v).category = 1 := by
  rcases v with x | _ | x <;> rfl
def bm_lv (g : bm_G) (lo : List (Option bm_V)) : List (Nat × Value) := (List.range lo.length).filterMap (fun i => (lo.getD i none).map (fun v => (i, bm_tr g v)))
theorem bm_lv_has {g : bm_G} {nL : Nat} {ls : Array Slot} {lo : List (Option bm_V)} (h : bm_lr g nL ls lo) : lv_has ls nL (bm_lv g lo) := by
  refine ⟨h.1, h.2.2.1, fun q hq => ?_⟩
  obtain ⟨i, -, hi⟩ := List.mem_filterMap.mp hq
  cases hv : lo.getD i none with
  | none => rw [hv] at hi; cases hi
  | some v => rw [hv] at hi; cases hi; exact h.2.2.2 i v hv
theorem bm_lv_set {g : bm_G} {nL i : Nat} {ls ls' : Array Slot} {lo : List (Option bm_V)} {v : bm_V} (h : bm_lr g nL ls lo) (hi : i < nL)
    (h' : lv_has ls' nL ((i, bm_tr g v) :: (bm_lv g lo).filter (fun q => !(q.1 == i) && !(q.1 + 1 == i && q.2.category == 2)))) : bm_lr g nL ls' (lo.set i (some v)) := by
  refine ⟨h'.1, by rw [List.length_set]; exact h.2.1, h'.2.1, fun k w hk => ?_⟩
  by_cases e : k = i
  · subst e
    rw [List.getD_eq_getElem?_getD, List.getElem?_set_self (by rw [h.2.1]; exact hi)] at hk
    cases hk
    exact h'.2.2 (k, bm_tr g v) List.mem_cons_self
  · rw [List.getD_eq_getElem?_getD, List.getElem?_set_ne (Ne.symm e), ← List.getD_eq_getElem?_getD] at hk
    refine h'.2.2 (k, bm_tr g w) (List.mem_cons_of_mem _ (List.mem_filter.mpr ⟨List.mem_filterMap.mpr ⟨k, List.mem_range.mpr ?_, by rw [hk]; rfl⟩, ?_⟩))
    · refine Nat.lt_of_not_le fun q => ?_
      rw [List.getD_eq_getElem?_getD, List.getElem?_eq_none_iff.mpr q] at hk
      cases hk
    · simp [e, bm_cat]
theorem bm_no {P : Prop} {r : bm_R} (h : (none : Option bm_R) = some r) : P := by cases h
