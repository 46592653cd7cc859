set_option maxRecDepth 100000
/-! markAt: the word, the class -/
section MT
variable {n : Nat} {I : Nat → Nat → Int32} {F : Nat → Nat} {S : bm_S}
noncomputable def bm_mo (F : Nat → Nat) (Y : ly_Y) (pg cl ln w : Int32) : Nat → Nat → Int32
  | 0, _ => -4
  | d + 1, c => match bm_ff (ly_at F Y pg cl ln c) (F (35 + 6 * c)) 0 with
    | some k => if w = 0 then nI c else nI k
    | none => bm_mo F Y pg cl ln w d (c + 1)
theorem bm_mo1 {Y : ly_Y} {pg cl ln w : Int32} {d c k : Nat} (h : bm_ff (ly_at F Y pg cl ln c) (F (35 + 6 * c)) 0 = some k) : bm_mo F Y pg cl ln w (d + 1) c = if w = 0 then nI c else nI k := by
  show (match bm_ff (ly_at F Y pg cl ln c) (F (35 + 6 * c)) 0 with
    | some k => if w = 0 then nI c else nI k
    | none => bm_mo F Y pg cl ln w d (c + 1)) = _
  rw [h]
theorem bm_mo0 {Y : ly_Y} {pg cl ln w : Int32} {d c : Nat} (h : bm_ff (ly_at F Y pg cl ln c) (F (35 + 6 * c)) 0 = none) : bm_mo F Y pg cl ln w (d + 1) c = bm_mo F Y pg cl ln w d (c + 1) := by
  show (match bm_ff (ly_at F Y pg cl ln c) (F (35 + 6 * c)) 0 with
    | some k => if w = 0 then nI c else nI k
    | none => bm_mo F Y pg cl ln w d (c + 1)) = _
  rw [h]
theorem bm_ff_lt {M : Nat → Prop} {k : Nat} : ∀ {d i : Nat}, bm_ff M d i = some k → k < i + d
  | 0, i, h => by cases h
  | d + 1, i, h => by
    by_cases q : M i
    · rw [bm_ff1 q] at h
      cases h
      omega
    · rw [bm_ff0 q] at h
      have := bm_ff_lt h
      omega
noncomputable def sp_markAt (S : bm_S) (x pg cl ln w : Int32) : Int32 := @ite _ (((0 ≤ x ∧ x < nI (S.1 7)) ∧ 0 ≤ pg ∧ nI 0 ≤ w ∧ w ≤ nI 1) ∧ (nI 0 ≤ cl ∧ cl ≤ nI (S.1 2) - 1) ∧ nI 0 ≤ ln ∧ ln ≤ nI (S.1 3) - 1) (Classical.propDecidable _) (bm_mo S.1 (ly_S S x.toNatClampNeg) pg cl ln w (S.1 0) 0) (-1)
theorem c_mark_loop (hV : bm_V' F) (p : bm_P I 5 F) {W v : Nat} (hW : 8 ≤ W) (h : ly_I I I F W v (F 0)) {x pg cl ln w : Int32} : ∀ (d c : Nat) (y : Int32) (u : Option bm_V) (o : Nat), y = nI c → c + d = F 0 → d < o →
    bm_rn z_X7_markAt o 89 ([some (.inr (some 4)), some (.inl x), some (.inl pg), some (.inl cl), some (.inl ln), some (.inl w), some (.inl y), u], [], bm_mk n I) = some (some (.inl (bm_mo F (ly_a F W v (F 0)) pg cl ln w d c)), bm_mk n I) := by
  have h6 := hV.1
  intro d
  induction d with
  | zero =>
    intro c y u o hy hi ho
    obtain ⟨o, rfl⟩ : ∃ q, o = q + 1 := ⟨o - 1, by omega⟩
    subst hy
    refine bm_bd (e_contests p) ?_
    refine bm_le (F 0) c rfl rfl (by omega) (by omega) (fun _ => ?_) (fun z => absurd z (by omega))
    rfl
  | succ d ih =>
    intro c y u o hy hi ho
    obtain ⟨o, rfl⟩ : ∃ q, o = q + 1 := ⟨o - 1, by omega⟩
    subst hy
    have h8 := (hV.2.2.2.2.2.2.2.2.2.1 c (by omega)).2.2.2
    have em := e_mark (n := n) hV hW h (pg := pg) (cl := cl) (ln := ln) (show c < F 0 by omega)
    cases hq : bm_ff (ly_at F (ly_a F W v (F 0)) pg cl ln c) (F (35 + 6 * c)) 0 with
    | none =>
      have e := ih (c + 1) (nI c + 1) (some (.inl (-1))) o (nI_1 c) (by omega) (by omega)
      have e' := e.trans (bm_ok (bm_mo0 (w := w) (d := d) hq).symm)
      refine bm_bd (e_contests p) ?_
      refine bm_le (F 0) c rfl rfl (by omega) (by omega) (fun z => absurd z (by omega)) (fun _ => ?_)
      refine bm_bd (em.trans (bm_ok (show _ = (-1 : Int32) from congrArg bm_onI hq))) ?_
      exact e'
    | some k =>
      have hk := bm_ff_lt hq
      have ne : ¬ (nI k = (-1 : Int32)) := fun z => nI_pos (n := k) (by omega) (by rw [z]; decide)
      refine Eq.trans ?_ (bm_ok (bm_mo1 (w := w) (d := d) hq).symm)
      refine bm_bd (e_contests p) ?_
      refine bm_le (F 0) c rfl rfl (by omega) (by omega) (fun z => absurd z (by omega)) (fun _ => ?_)
      refine bm_bd (em.trans (bm_ok (show _ = nI k from congrArg bm_onI hq))) ?_
      refine bm_ie ne ?_
      exact bm_fi (fun _ => rfl) (fun _ => rfl)
theorem c_markAt (h : bm_RC I S) (v : bm_VV S) (x pg cl ln w : Int32) : bm_cp n I (f_X7_markAt [.inr (some 4), .inl x, .inl pg, .inl cl, .inl ln, .inl w]) (sp_markAt S x pg cl ln w, S) := by
  have p := h.1
  have hV := v.1
  have h6 := hV.1
  have h7 := hV.2.2.2.2.2.2.2.1
  have h4 := hV.2.2.2.2.1
  unfold sp_markAt
  by_cases c1 : ((0 ≤ x ∧ x < nI (S.1 7)) ∧ 0 ≤ pg ∧ nI 0 ≤ w ∧ w ≤ nI 1) ∧ (nI 0 ≤ cl ∧ cl ≤ nI (S.1 2) - 1) ∧ nI 0 ≤ ln ∧ ln ≤ nI (S.1 3) - 1
  · rw [if_pos c1]
    obtain ⟨a, a1, rfl⟩ := bm_k_of (by omega) c1.1.1
    rw [nI_clamp (show a < 2 ^ 31 by omega)]
    obtain ⟨L, e, hL⟩ := e_lay (n := n) hV p (W := S.1 4) (v := a) h4.1 h4.2 (by omega)
    have hLL : ly_I L L S.1 (S.1 4) a (S.1 0) := ⟨hL.1, hL.2.1, hL.2.2.1, hL.2.2.2.1, fun _ _ => rfl⟩
    have pL : bm_P L 5 S.1 := p.congr (fun i hi => hL.2.2.2.2 _ (by omega))
    refine ⟨L, ?_, h.lay hL.2.2.2.2, fun q hq => hL.2.2.2.2 q (by omega)⟩
    have e2 := c_mark_loop (n := n) hV pL h4.1 hLL (x := nI a) (pg := pg) (cl := cl) (ln := ln) (w := w) (S.1 0) 0 0 none 1000 rfl (by omega) (by omega)
    refine bm_g u_X7_markAt ?_
    refine bm_bd (e_hasVersion p (by omega)) (bm_bq (fun _ => ?_) (fun z => absurd c1.1.1 z))
    refine bm_ie (Int32.not_lt.mpr c1.1.2.1) ?_
    refine bm_bd e_within (bm_bq (fun _ => ?_) (fun z => absurd c1.1.2.2 z))
    refine bm_bd (e_setting p (c := 0) (by decide)) ?_
    refine bm_bd e_within (bm_bq (fun _ => ?_) (fun z => absurd c1.2.1 z))
    refine bm_bd (e_setting p (c := 1) (by decide)) ?_
    refine bm_bd e_within (bm_bq (fun _ => ?_) (fun z => absurd c1.2.2 z))
    refine bm_bd (e_setting p (c := 2) (by decide)) ?_
    refine bm_bd e ?_
    exact e2
  · rw [if_neg c1]
    refine bm_cp.rd h (bm_g u_X7_markAt ?_)
    refine bm_bd (e_hasVersion p (by omega)) (bm_bq (fun q1 => ?_) (fun _ => bm_ok rfl))
    refine bm_if (fun _ => bm_ok rfl) (fun q2 => ?_)
    refine bm_bd e_within (bm_bq (fun q3 => ?_) (fun _ => bm_ok rfl))
    refine bm_bd (e_setting p (c := 0) (by decide)) ?_
    refine bm_bd e_within (bm_bq (fun q4 => ?_) (fun _ => bm_ok rfl))
    refine bm_bd (e_setting p (c := 1) (by decide)) ?_
    exact bm_bd e_within (bm_bq (fun q5 => absurd ⟨⟨q1, Int32.not_lt.mp q2, q3⟩, q4, q5⟩ c1) (fun _ => bm_ok rfl))
end MT
