set_option maxRecDepth 100000
/-! THE MARKS READ -/
section BM
variable {n : Nat} {I J : Nat → Nat → Int32} {S : bm_S}
theorem e_tlen' (h : tx_C I S) : f_X6_length [.inr (some 69)] (bm_mk n I) = some (some (.inl (nI S.2.2.2.1)), bm_mk n I) := bm_g u_X6_length (bm_ok h.1)
/-- the marks below k stand in the class's ballot -/
def tx_A (I : Nat → Nat → Int32) (S : bm_S) (k : Nat) : Prop := ∀ i, i < k → I 72 i = nI (tx_c S i) ∧ I 73 i = nI (tx_q S i) ∧ I 74 i = nI (tx_p S i)
def tx_R (J : Nat → Nat → Int32) (S : bm_S) (u : Int32) (r : Option Nat × Nat) : Prop := (∀ a, r.1 = some a → ∃ m, tx_H J u m (nI a) 1) ∧ (r.1 = none → tx_H J u (nI r.2) (-1) 0 ∧ tx_A J S r.2)
theorem tx_R.so {u m : Int32} {a k : Nat} (h : tx_H J u m (nI a) 1) : tx_R J S u (some a, k) := ⟨fun b e => (by cases e; exact ⟨m, h⟩), fun e => (by cases e)⟩
theorem tx_R.no {u : Int32} {k : Nat} (h : tx_H J u (nI k) (-1) 0) (a : tx_A J S k) : tx_R J S u (none, k) := ⟨fun b e => (by cases e), fun _ => ⟨h, a⟩⟩
theorem e_noteMark {k : Nat} {x c q u a r : Int32} (h : tx_H I u (nI k) a r) (hk : k < 13) : ∃ J, f_X0_noteMark [.inr (some 71), .inl x, .inl c, .inl q] (bm_mk n I) = some (none, bm_mk n J) ∧ tx_H J u (nI (k + 1)) a r ∧ bm_fz I J 71 74 ∧ J 72 = upd (I 72) k c ∧ J 73 = upd (I 73) k q ∧ J 74 = upd (I 74) k x := by
  have h4 : I 71 4 = nI k := h.2.1
  suffices H : ∃ J, bm_rn z_X0_noteMark 1000 0 ([some (.inr (some 71)), some (.inl x), some (.inl c), some (.inl q)], [], bm_mk n I) = some (none, bm_mk n J) ∧ tx_H J u (nI (k + 1)) a r ∧ bm_fz I J 71 74 ∧ J 72 = upd (I 72) k c ∧ J 73 = upd (I 73) k q ∧ J 74 = upd (I 74) k x from by
    obtain ⟨J, e, f⟩ := H
    exact ⟨J, bm_g u_X0_noteMark e (by rfl) (Nat.le_refl _) (Nat.le_refl _), f⟩
  refine ⟨?L1, ?w1, ?a1, ?b1, ?c1⟩
  case w1 =>
    refine bm_bd (e_put (a := 74) (k := k) (N := 13) h4 rfl rfl (by decide) rfl hk) ?_
    refine bm_bd (e_put (a := 72) (k := k) (N := 13) h4 rfl rfl (by decide) rfl hk) ?_
    refine bm_bd (e_put (a := 73) (k := k) (N := 13) h4 rfl rfl (by decide) rfl hk) ?_
    rfl
  case a1 =>
    refine ⟨h.1, ?_, h.2.2.1, h.2.2.2⟩
    show I 71 4 + 1 = _
    rw [h4]
    exact nI_1 k
  case b1 => exact (((bm_fz.rf.up (by decide) (by decide)).up (by decide) (by decide)).up (by decide) (by decide)).up (by decide) (by decide)
  case c1 => exact ⟨rfl, rfl, rfl⟩
theorem tx_s_in {j lo hi : Nat} (h : tx_in S lo hi j) : tx_s S j = nI (S.2.2.2.2 j) := if_pos h.1
theorem e_readMarks_loop (v : bm_VV S) (w : Int32) : ∀ (d k : Nat) (x u : Int32) (o : Nat) (I : Nat → Nat → Int32), tx_C I S → tx_H I u (nI k) (-1) 0 → tx_A I S k → x = nI (tx_p S k) → tx_p S k ≤ S.2.2.2.1 → k + d = 14 → d < o →
    ∃ J, bm_rn z_X0_readMarks o 11 ([some (.inr (some 71)), some (.inr (some 69)), some (.inl w), some (.inl x)], [], bm_mk n I) = some (none, bm_mk n J) ∧ bm_fz I J 71 74 ∧ tx_R J S u (tx_m S d k) := by
  have h40 := v.2.2.2.1
  have hb := tx_b12 (S := S)
  intro d
  induction d with
  | zero =>
    intro k x u o I hT h hA hx hp hi ho
    exact absurd hp (by unfold tx_p; omega)
  | succ d ih =>
    intro k x u o I hT h hA hx hp hi ho
    obtain ⟨o, rfl⟩ : ∃ q, o = q + 1 := ⟨o - 1, by omega⟩
    subst hx
    by_cases c0 : S.2.2.2.1 ≤ tx_p S k
    · have e0 : tx_m S (d + 1) k = (some (tx_p S k), k) := if_neg (fun z => absurd z.1 (by omega))
      have et : S.2.2.2.1 = tx_p S k := by omega
      obtain ⟨J, e, hJ, fJ⟩ := e_blame (n := n) (x := nI S.2.2.2.1) (y := 1) h
      refine ⟨J, ?_, fJ.wd (by decide) (by decide), by rw [e0]; exact tx_R.so (m := nI k) (by rw [← et]; exact hJ)⟩
      refine bm_bd (e_tlen' hT) ?_
      refine bm_le S.2.2.2.1 (tx_p S k) rfl rfl (by omega) (by omega) (fun _ => ?_) (fun z => absurd z (by omega))
      refine bm_bd (e_tlen' hT) ?_
      refine bm_bd e ?_
      rfl
    · by_cases c1 : tx_in S 97 102 (tx_p S k)
      · by_cases c2 : tx_in S 48 57 (tx_p S k + 1)
        · have hk : k < 13 := by have := c2.1; unfold tx_p at this; omega
          obtain ⟨J, e, hJ, fJ, j2, j3, j4⟩ := e_noteMark (n := n) (x := nI (tx_p S k)) (c := tx_s S (tx_p S k) - 97) (q := nI (S.2.2.2.2 (tx_p S k + 1) - 48)) h hk
          have hT1 : tx_C J S := hT.fz fJ (by decide)
          have hA1 : tx_A J S (k + 1) := by
            intro i hik
            rw [j2, j3, j4]
            unfold upd
            by_cases q : i = k
            · subst q
              rw [if_pos rfl, if_pos rfl, if_pos rfl]
              refine ⟨?_, rfl, rfl⟩
              rw [tx_s_in c1, bm_lit 97]
              exact pk_sub c1.2.1
            · rw [if_neg q, if_neg q, if_neg q]
              exact hA i (by omega)
          by_cases c3 : tx_p S k + 2 = S.2.2.2.1
          · have e0 : tx_m S (d + 1) k = (none, k + 1) := (if_pos c1).trans ((if_pos c2).trans (if_pos c3))
            refine ⟨J, ?_, fJ, by rw [e0]; exact tx_R.no hJ hA1⟩
            refine bm_bd (e_tlen' hT) ?_
            refine bm_le S.2.2.2.1 (tx_p S k) rfl rfl (by omega) (by omega) (fun z => absurd z (by omega)) (fun _ => ?_)
            refine bm_bd (e_signAt hT v rfl (by omega)) ?_
            refine bm_bd e_within (bm_bq (fun _ => ?_) (fun z => absurd ((tx_in_iff v (by decide) (by decide)).mpr c1) z))
            refine bm_bd (e_hasDigitAt hT v (nI_1 _) (by omega)) (bm_bq (fun _ => ?_) (fun z => absurd c2 z))
            refine bm_bd (e_signAt hT v rfl (by omega)) ?_
            refine bm_bd (e_digitAt hT v (nI_1 _) (by omega) c2) ?_
            refine bm_bd e ?_
            refine bm_bd (e_tlen' hT1) ?_
            refine bm_eq (tx_p S k + 2) S.2.2.2.1 (nI_add _ 2) rfl (by omega) (by omega) (fun _ => ?_) (fun z => absurd c3 z)
            rfl
          · by_cases c4 : tx_in S 44 44 (tx_p S k + 2)
            · have e0 : tx_m S (d + 1) k = tx_m S d (k + 1) := (if_pos c1).trans ((if_pos c2).trans ((if_neg c3).trans (if_pos c4)))
              have ep : tx_p S (k + 1) = tx_p S k + 3 := by unfold tx_p; omega
              obtain ⟨L, e', fL, hR⟩ := ih (k + 1) (nI (tx_p S k) + 3) u o J hT1 hJ hA1 (by rw [ep]; exact nI_add _ 3) (by have := c4.1; omega) (by omega) (by omega)
              refine ⟨L, ?_, fJ.tr fL, by rw [e0]; exact hR⟩
              refine bm_bd (e_tlen' hT) ?_
              refine bm_le S.2.2.2.1 (tx_p S k) rfl rfl (by omega) (by omega) (fun z => absurd z (by omega)) (fun _ => ?_)
              refine bm_bd (e_signAt hT v rfl (by omega)) ?_
              refine bm_bd e_within (bm_bq (fun _ => ?_) (fun z => absurd ((tx_in_iff v (by decide) (by decide)).mpr c1) z))
              refine bm_bd (e_hasDigitAt hT v (nI_1 _) (by omega)) (bm_bq (fun _ => ?_) (fun z => absurd c2 z))
              refine bm_bd (e_signAt hT v rfl (by omega)) ?_
              refine bm_bd (e_digitAt hT v (nI_1 _) (by omega) c2) ?_
              refine bm_bd e ?_
              refine bm_bd (e_tlen' hT1) ?_
              refine bm_eq (tx_p S k + 2) S.2.2.2.1 (nI_add _ 2) rfl (by omega) (by omega) (fun z => absurd z c3) (fun _ => ?_)
              refine bm_bd (e_signAt hT1 v (j := tx_p S k + 2) (nI_add _ 2) (by omega)) ?_
              refine bm_it ((tx_is v (by decide)).mpr c4) ?_
              exact e'
            · have e0 : tx_m S (d + 1) k = (some (tx_p S k + 2), k + 1) := (if_pos c1).trans ((if_pos c2).trans ((if_neg c3).trans (if_neg c4)))
              obtain ⟨L, e', hL, fL⟩ := e_blame (n := n) (x := nI (tx_p S k) + 2) (y := 1) hJ
              refine ⟨L, ?_, fJ.tr (fL.wd (by decide) (by decide)), by rw [e0]; exact tx_R.so (m := nI (k + 1)) (by rw [← nI_add (tx_p S k) 2]; exact hL)⟩
              refine bm_bd (e_tlen' hT) ?_
              refine bm_le S.2.2.2.1 (tx_p S k) rfl rfl (by omega) (by omega) (fun z => absurd z (by omega)) (fun _ => ?_)
              refine bm_bd (e_signAt hT v rfl (by omega)) ?_
              refine bm_bd e_within (bm_bq (fun _ => ?_) (fun z => absurd ((tx_in_iff v (by decide) (by decide)).mpr c1) z))
              refine bm_bd (e_hasDigitAt hT v (nI_1 _) (by omega)) (bm_bq (fun _ => ?_) (fun z => absurd c2 z))
              refine bm_bd (e_signAt hT v rfl (by omega)) ?_
              refine bm_bd (e_digitAt hT v (nI_1 _) (by omega) c2) ?_
              refine bm_bd e ?_
              refine bm_bd (e_tlen' hT1) ?_
              refine bm_eq (tx_p S k + 2) S.2.2.2.1 (nI_add _ 2) rfl (by omega) (by omega) (fun z => absurd z c3) (fun _ => ?_)
              refine bm_bd (e_signAt hT1 v (j := tx_p S k + 2) (nI_add _ 2) (by omega)) ?_
              refine bm_ie (fun z => c4 ((tx_is v (by decide)).mp z)) ?_
              refine bm_bd e' ?_
              rfl
        · have e0 : tx_m S (d + 1) k = (some (tx_p S k + 1), k) := (if_pos c1).trans (if_neg c2)
          obtain ⟨J, e, hJ, fJ⟩ := e_blame (n := n) (x := nI (tx_p S k) + 1) (y := 1) h
          refine ⟨J, ?_, fJ.wd (by decide) (by decide), by rw [e0]; exact tx_R.so (m := nI k) (by rw [← nI_1]; exact hJ)⟩
          refine bm_bd (e_tlen' hT) ?_
          refine bm_le S.2.2.2.1 (tx_p S k) rfl rfl (by omega) (by omega) (fun z => absurd z (by omega)) (fun _ => ?_)
          refine bm_bd (e_signAt hT v rfl (by omega)) ?_
          refine bm_bd e_within (bm_bq (fun _ => ?_) (fun z => absurd ((tx_in_iff v (by decide) (by decide)).mpr c1) z))
          refine bm_bd (e_hasDigitAt hT v (nI_1 _) (by omega)) (bm_bq (fun z => absurd z c2) (fun _ => ?_))
          refine bm_bd e ?_
          rfl
      · have e0 : tx_m S (d + 1) k = (some (tx_p S k), k) := if_neg c1
        obtain ⟨J, e, hJ, fJ⟩ := e_blame (n := n) (x := nI (tx_p S k)) (y := 1) h
        refine ⟨J, ?_, fJ.wd (by decide) (by decide), by rw [e0]; exact tx_R.so (m := nI k) hJ⟩
        refine bm_bd (e_tlen' hT) ?_
        refine bm_le S.2.2.2.1 (tx_p S k) rfl rfl (by omega) (by omega) (fun z => absurd z (by omega)) (fun _ => ?_)
        refine bm_bd (e_signAt hT v rfl (by omega)) ?_
        refine bm_bd e_within (bm_bq (fun z => absurd ((tx_in_iff v (by decide) (by decide)).mp z) c1) (fun _ => ?_))
        refine bm_bd e ?_
        rfl
theorem e_readMarks {u : Int32} (v : bm_VV S) (hT : tx_C I S) (h : tx_H I u (nI 0) (-1) 0) (c1 : tx_in S 58 58 (tx_b S)) : ∃ J, f_X0_readMarks [.inr (some 71), .inr (some 69), .inl (nI (tx_b S + 1))] (bm_mk n I) = some (none, bm_mk n J) ∧ bm_fz I J 71 74 ∧ tx_R J S u (if tx_b S + 1 = S.2.2.2.1 then (none, 0) else tx_m S 14 0) := by
  have h40 := v.2.2.2.1
  have hA : tx_A I S 0 := fun i hi => absurd hi (by omega)
  by_cases q : tx_b S + 1 = S.2.2.2.1
  · rw [if_pos q]
    refine ⟨I, bm_g u_X0_readMarks ?_, bm_fz.rf, tx_R.no h hA⟩
    refine bm_bd (e_tlen' hT) ?_
    refine bm_eq (tx_b S + 1) S.2.2.2.1 rfl rfl (by omega) (by omega) (fun _ => ?_) (fun z => absurd q z)
    rfl
  · rw [if_neg q]
    have lt := c1.1
    obtain ⟨J, e, f, r⟩ := e_readMarks_loop (n := n) v (nI (tx_b S + 1)) 14 0 (nI (tx_b S + 1)) u 1000 I hT h hA rfl (by unfold tx_p; omega) rfl (by omega)
    refine ⟨J, bm_g u_X0_readMarks ?_, f, r⟩
    refine bm_bd (e_tlen' hT) ?_
    refine bm_eq (tx_b S + 1) S.2.2.2.1 rfl rfl (by omega) (by omega) (fun z => absurd z q) (fun _ => ?_)
    exact e
end BM
