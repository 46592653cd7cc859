set_option maxRecDepth 100000
/-! THE LAW'S LOOP -/
section LM
variable {n : Nat} {I : Nat → Nat → Int32} {S : bm_S}
theorem bm_tsw_hit {jm : bm_J} {d : Nat} {y : bm_C} {v : Int32} : ∀ (ts : List Nat) (i j t : Nat), i + ts.length < 1000 → ts[j]? = some t → v = Int32.ofNat (i + j) → bm_tsw jm d y v i ts = jm t y
  | [], i, j, t, _, h, _ => by simp at h
  | t0 :: ts, i, j, t, hl, h, hv => by
    unfold bm_tsw
    cases j with
    | zero =>
      rw [if_pos (show v = Int32.ofNat i from hv)]
      rw [List.getElem?_cons_zero] at h
      cases h; rfl
    | succ j =>
      have hl' : i + (ts.length + 1) < 1000 := hl
      rw [List.getElem?_cons_succ] at h
      have hj : j < ts.length := (List.getElem?_eq_some_iff.mp h).1
      rw [if_neg (show ¬ v = Int32.ofNat i from fun z => absurd ((nI_eq (show i + (j + 1) < 2 ^ 31 by omega) (show i < 2 ^ 31 by omega)).mp (hv.symm.trans z)) (by omega))]
      exact bm_tsw_hit ts (i + 1) j t (by omega) h (by rw [hv]; congr 1; omega)
theorem bm_tsw_miss {jm : bm_J} {d : Nat} {y : bm_C} {v : Int32} : ∀ (ts : List Nat) (i : Nat), (∀ j, j < ts.length → v ≠ Int32.ofNat (i + j)) → bm_tsw jm d y v i ts = jm d y
  | [], i, _ => rfl
  | t0 :: ts, i, h => by
    unfold bm_tsw
    rw [if_neg (show ¬ v = Int32.ofNat i from h 0 (Nat.succ_pos _))]
    refine bm_tsw_miss ts (i + 1) (fun j hj => ?_)
    have := h (j + 1) (Nat.succ_lt_succ hj)
    rw [show i + (j + 1) = i + 1 + j by omega] at this
    exact this
theorem law_turn {i o : Nat} (hC : bm_RC I S) (hM : bm_RM I S) (v : bm_VV S) (hi : i + 6 ≤ n) (hn : n ≤ 3072) : ∃ K S2, bm_rn z_law (o + 1) 18 ([some (.inr (some 3)), some (.inr (some 4)), some (.inr (some 75)), some (.inl (nI i))], [], bm_mk n I) = bm_rn z_law o 18 ([some (.inr (some 3)), some (.inr (some 4)), some (.inr (some 75)), some (.inl (nI i + 6))], [], bm_mk n K) ∧ bm_RC K S2 ∧ bm_RM K S2 ∧ bm_VV S2 := by
  have hgt : ¬ (nI n - 6 : Int32) < nI i := by
    rw [bm_lit 6, pk_sub (by omega)]
    exact fun z => absurd ((nI_ltI (by omega) (by omega)).mp z) (by omega)
  have hx : ¬ (nI i < 0 ∨ n ≤ (nI i).toNatClampNeg) := bm_nix2 rfl (by omega) (by omega)
  by_cases c0 : (I 3 (nI i).toNatClampNeg &&& 31) = Int32.ofNat (0 + 0)
  · obtain ⟨K, S2, e, r⟩ := tn_contest (n := n) (o := o) hC hM v hi hn
    refine ⟨K, S2, ?_, r⟩
    refine bm_ie hgt ?_
    refine bm_ie hx ?_
    refine (bm_tsw_hit [136, 169, 202, 235, 268, 301, 314, 347, 390, 413, 436, 479, 532, 595, 628, 651, 664, 687, 700, 723, 736, 759] 0 0 136 (by decide) rfl c0).trans ?_
    exact e
  by_cases c1 : (I 3 (nI i).toNatClampNeg &&& 31) = Int32.ofNat (0 + 1)
  · obtain ⟨K, S2, e, r⟩ := tn_name (n := n) (o := o) hC hM v hi hn
    refine ⟨K, S2, ?_, r⟩
    refine bm_ie hgt ?_
    refine bm_ie hx ?_
    refine (bm_tsw_hit [136, 169, 202, 235, 268, 301, 314, 347, 390, 413, 436, 479, 532, 595, 628, 651, 664, 687, 700, 723, 736, 759] 0 1 169 (by decide) rfl c1).trans ?_
    exact e
  by_cases c2 : (I 3 (nI i).toNatClampNeg &&& 31) = Int32.ofNat (0 + 2)
  · obtain ⟨K, S2, e, r⟩ := tn_way (n := n) (o := o) hC hM v hi hn
    refine ⟨K, S2, ?_, r⟩
    refine bm_ie hgt ?_
    refine bm_ie hx ?_
    refine (bm_tsw_hit [136, 169, 202, 235, 268, 301, 314, 347, 390, 413, 436, 479, 532, 595, 628, 651, 664, 687, 700, 723, 736, 759] 0 2 202 (by decide) rfl c2).trans ?_
    exact e
  by_cases c3 : (I 3 (nI i).toNatClampNeg &&& 31) = Int32.ofNat (0 + 3)
  · obtain ⟨K, S2, e, r⟩ := tn_papers (n := n) (o := o) hC hM v hi hn
    refine ⟨K, S2, ?_, r⟩
    refine bm_ie hgt ?_
    refine bm_ie hx ?_
    refine (bm_tsw_hit [136, 169, 202, 235, 268, 301, 314, 347, 390, 413, 436, 479, 532, 595, 628, 651, 664, 687, 700, 723, 736, 759] 0 3 235 (by decide) rfl c3).trans ?_
    exact e
  by_cases c4 : (I 3 (nI i).toNatClampNeg &&& 31) = Int32.ofNat (0 + 4)
  · obtain ⟨K, S2, e, r⟩ := tn_set (n := n) (o := o) hC hM v hi hn
    refine ⟨K, S2, ?_, r⟩
    refine bm_ie hgt ?_
    refine bm_ie hx ?_
    refine (bm_tsw_hit [136, 169, 202, 235, 268, 301, 314, 347, 390, 413, 436, 479, 532, 595, 628, 651, 664, 687, 700, 723, 736, 759] 0 4 268 (by decide) rfl c4).trans ?_
    exact e
  by_cases c5 : (I 3 (nI i).toNatClampNeg &&& 31) = Int32.ofNat (0 + 5)
  · obtain ⟨K, S2, e, r⟩ := tn_clear (n := n) (o := o) hC hM v hi hn
    refine ⟨K, S2, ?_, r⟩
    refine bm_ie hgt ?_
    refine bm_ie hx ?_
    refine (bm_tsw_hit [136, 169, 202, 235, 268, 301, 314, 347, 390, 413, 436, 479, 532, 595, 628, 651, 664, 687, 700, 723, 736, 759] 0 5 301 (by decide) rfl c5).trans ?_
    exact e
  by_cases c6 : (I 3 (nI i).toNatClampNeg &&& 31) = Int32.ofNat (0 + 6)
  · obtain ⟨K, S2, e, r⟩ := tn_contestOf (n := n) (o := o) hC hM v hi hn
    refine ⟨K, S2, ?_, r⟩
    refine bm_ie hgt ?_
    refine bm_ie hx ?_
    refine (bm_tsw_hit [136, 169, 202, 235, 268, 301, 314, 347, 390, 413, 436, 479, 532, 595, 628, 651, 664, 687, 700, 723, 736, 759] 0 6 314 (by decide) rfl c6).trans ?_
    exact e
  by_cases c7 : (I 3 (nI i).toNatClampNeg &&& 31) = Int32.ofNat (0 + 7)
  · obtain ⟨K, S2, e, r⟩ := tn_nameOf (n := n) (o := o) hC hM v hi hn
    refine ⟨K, S2, ?_, r⟩
    refine bm_ie hgt ?_
    refine bm_ie hx ?_
    refine (bm_tsw_hit [136, 169, 202, 235, 268, 301, 314, 347, 390, 413, 436, 479, 532, 595, 628, 651, 664, 687, 700, 723, 736, 759] 0 7 347 (by decide) rfl c7).trans ?_
    exact e
  by_cases c8 : (I 3 (nI i).toNatClampNeg &&& 31) = Int32.ofNat (0 + 8)
  · obtain ⟨K, S2, e, r⟩ := tn_count (n := n) (o := o) hC hM v hi hn
    refine ⟨K, S2, ?_, r⟩
    refine bm_ie hgt ?_
    refine bm_ie hx ?_
    refine (bm_tsw_hit [136, 169, 202, 235, 268, 301, 314, 347, 390, 413, 436, 479, 532, 595, 628, 651, 664, 687, 700, 723, 736, 759] 0 8 390 (by decide) rfl c8).trans ?_
    exact e
  by_cases c9 : (I 3 (nI i).toNatClampNeg &&& 31) = Int32.ofNat (0 + 9)
  · obtain ⟨K, S2, e, r⟩ := tn_papersOf (n := n) (o := o) hC hM v hi hn
    refine ⟨K, S2, ?_, r⟩
    refine bm_ie hgt ?_
    refine bm_ie hx ?_
    refine (bm_tsw_hit [136, 169, 202, 235, 268, 301, 314, 347, 390, 413, 436, 479, 532, 595, 628, 651, 664, 687, 700, 723, 736, 759] 0 9 413 (by decide) rfl c9).trans ?_
    exact e
  by_cases c10 : (I 3 (nI i).toNatClampNeg &&& 31) = Int32.ofNat (0 + 10)
  · obtain ⟨K, S2, e, r⟩ := tn_stands (n := n) (o := o) hC hM v hi hn
    refine ⟨K, S2, ?_, r⟩
    refine bm_ie hgt ?_
    refine bm_ie hx ?_
    refine (bm_tsw_hit [136, 169, 202, 235, 268, 301, 314, 347, 390, 413, 436, 479, 532, 595, 628, 651, 664, 687, 700, 723, 736, 759] 0 10 436 (by decide) rfl c10).trans ?_
    exact e
  by_cases c11 : (I 3 (nI i).toNatClampNeg &&& 31) = Int32.ofNat (0 + 11)
  · obtain ⟨K, S2, e, r⟩ := tn_lies (n := n) (o := o) hC hM v hi hn
    refine ⟨K, S2, ?_, r⟩
    refine bm_ie hgt ?_
    refine bm_ie hx ?_
    refine (bm_tsw_hit [136, 169, 202, 235, 268, 301, 314, 347, 390, 413, 436, 479, 532, 595, 628, 651, 664, 687, 700, 723, 736, 759] 0 11 479 (by decide) rfl c11).trans ?_
    exact e
  by_cases c12 : (I 3 (nI i).toNatClampNeg &&& 31) = Int32.ofNat (0 + 12)
  · obtain ⟨K, S2, e, r⟩ := tn_markAt (n := n) (o := o) hC hM v hi hn
    refine ⟨K, S2, ?_, r⟩
    refine bm_ie hgt ?_
    refine bm_ie hx ?_
    refine (bm_tsw_hit [136, 169, 202, 235, 268, 301, 314, 347, 390, 413, 436, 479, 532, 595, 628, 651, 664, 687, 700, 723, 736, 759] 0 12 532 (by decide) rfl c12).trans ?_
    exact e
  by_cases c13 : (I 3 (nI i).toNatClampNeg &&& 31) = Int32.ofNat (0 + 13)
  · obtain ⟨K, S2, e, r⟩ := tn_paper (n := n) (o := o) hC hM v hi hn
    refine ⟨K, S2, ?_, r⟩
    refine bm_ie hgt ?_
    refine bm_ie hx ?_
    refine (bm_tsw_hit [136, 169, 202, 235, 268, 301, 314, 347, 390, 413, 436, 479, 532, 595, 628, 651, 664, 687, 700, 723, 736, 759] 0 13 595 (by decide) rfl c13).trans ?_
    exact e
  by_cases c14 : (I 3 (nI i).toNatClampNeg &&& 31) = Int32.ofNat (0 + 14)
  · obtain ⟨K, S2, e, r⟩ := tn_spread (n := n) (o := o) hC hM v hi hn
    refine ⟨K, S2, ?_, r⟩
    refine bm_ie hgt ?_
    refine bm_ie hx ?_
    refine (bm_tsw_hit [136, 169, 202, 235, 268, 301, 314, 347, 390, 413, 436, 479, 532, 595, 628, 651, 664, 687, 700, 723, 736, 759] 0 14 628 (by decide) rfl c14).trans ?_
    exact e
  by_cases c15 : (I 3 (nI i).toNatClampNeg &&& 31) = Int32.ofNat (0 + 15)
  · obtain ⟨K, S2, e, r⟩ := tn_evenVersions (n := n) (o := o) hC hM v hi hn
    refine ⟨K, S2, ?_, r⟩
    refine bm_ie hgt ?_
    refine bm_ie hx ?_
    refine (bm_tsw_hit [136, 169, 202, 235, 268, 301, 314, 347, 390, 413, 436, 479, 532, 595, 628, 651, 664, 687, 700, 723, 736, 759] 0 15 651 (by decide) rfl c15).trans ?_
    exact e
  by_cases c16 : (I 3 (nI i).toNatClampNeg &&& 31) = Int32.ofNat (0 + 16)
  · obtain ⟨K, S2, e, r⟩ := tn_bestWidth (n := n) (o := o) hC hM v hi hn
    refine ⟨K, S2, ?_, r⟩
    refine bm_ie hgt ?_
    refine bm_ie hx ?_
    refine (bm_tsw_hit [136, 169, 202, 235, 268, 301, 314, 347, 390, 413, 436, 479, 532, 595, 628, 651, 664, 687, 700, 723, 736, 759] 0 16 664 (by decide) rfl c16).trans ?_
    exact e
  by_cases c17 : (I 3 (nI i).toNatClampNeg &&& 31) = Int32.ofNat (0 + 17)
  · obtain ⟨K, S2, e, r⟩ := tn_undo (n := n) (o := o) hC hM v hi hn
    refine ⟨K, S2, ?_, r⟩
    refine bm_ie hgt ?_
    refine bm_ie hx ?_
    refine (bm_tsw_hit [136, 169, 202, 235, 268, 301, 314, 347, 390, 413, 436, 479, 532, 595, 628, 651, 664, 687, 700, 723, 736, 759] 0 17 687 (by decide) rfl c17).trans ?_
    exact e
  by_cases c18 : (I 3 (nI i).toNatClampNeg &&& 31) = Int32.ofNat (0 + 18)
  · obtain ⟨K, S2, e, r⟩ := tn_type (n := n) (o := o) hC hM v hi hn
    refine ⟨K, S2, ?_, r⟩
    refine bm_ie hgt ?_
    refine bm_ie hx ?_
    refine (bm_tsw_hit [136, 169, 202, 235, 268, 301, 314, 347, 390, 413, 436, 479, 532, 595, 628, 651, 664, 687, 700, 723, 736, 759] 0 18 700 (by decide) rfl c18).trans ?_
    exact e
  by_cases c19 : (I 3 (nI i).toNatClampNeg &&& 31) = Int32.ofNat (0 + 19)
  · obtain ⟨K, S2, e, r⟩ := tn_clearText (n := n) (o := o) hC hM v hi hn
    refine ⟨K, S2, ?_, r⟩
    refine bm_ie hgt ?_
    refine bm_ie hx ?_
    refine (bm_tsw_hit [136, 169, 202, 235, 268, 301, 314, 347, 390, 413, 436, 479, 532, 595, 628, 651, 664, 687, 700, 723, 736, 759] 0 19 723 (by decide) rfl c19).trans ?_
    exact e
  by_cases c20 : (I 3 (nI i).toNatClampNeg &&& 31) = Int32.ofNat (0 + 20)
  · obtain ⟨K, S2, e, r⟩ := tn_fault (n := n) (o := o) hC hM v hi hn
    refine ⟨K, S2, ?_, r⟩
    refine bm_ie hgt ?_
    refine bm_ie hx ?_
    refine (bm_tsw_hit [136, 169, 202, 235, 268, 301, 314, 347, 390, 413, 436, 479, 532, 595, 628, 651, 664, 687, 700, 723, 736, 759] 0 20 736 (by decide) rfl c20).trans ?_
    exact e
  by_cases c21 : (I 3 (nI i).toNatClampNeg &&& 31) = Int32.ofNat (0 + 21)
  · obtain ⟨K, S2, e, r⟩ := tn_cast (n := n) (o := o) hC hM v hi hn
    refine ⟨K, S2, ?_, r⟩
    refine bm_ie hgt ?_
    refine bm_ie hx ?_
    refine (bm_tsw_hit [136, 169, 202, 235, 268, 301, 314, 347, 390, 413, 436, 479, 532, 595, 628, 651, 664, 687, 700, 723, 736, 759] 0 21 759 (by decide) rfl c21).trans ?_
    exact e
  have cm : ∀ j, j < ([136, 169, 202, 235, 268, 301, 314, 347, 390, 413, 436, 479, 532, 595, 628, 651, 664, 687, 700, 723, 736, 759] : List Nat).length → (I 3 (nI i).toNatClampNeg &&& 31) ≠ Int32.ofNat (0 + j) := by
    intro j hj
    have hj : j < 22 := hj
    rcases (show j = 0 ∨ j = 1 ∨ j = 2 ∨ j = 3 ∨ j = 4 ∨ j = 5 ∨ j = 6 ∨ j = 7 ∨ j = 8 ∨ j = 9 ∨ j = 10 ∨ j = 11 ∨ j = 12 ∨ j = 13 ∨ j = 14 ∨ j = 15 ∨ j = 16 ∨ j = 17 ∨ j = 18 ∨ j = 19 ∨ j = 20 ∨ j = 21 by omega) with rfl | rfl | rfl | rfl | rfl | rfl | rfl | rfl | rfl | rfl | rfl | rfl | rfl | rfl | rfl | rfl | rfl | rfl | rfl | rfl | rfl | rfl
    · exact c0
    · exact c1
    · exact c2
    · exact c3
    · exact c4
    · exact c5
    · exact c6
    · exact c7
    · exact c8
    · exact c9
    · exact c10
    · exact c11
    · exact c12
    · exact c13
    · exact c14
    · exact c15
    · exact c16
    · exact c17
    · exact c18
    · exact c19
    · exact c20
    · exact c21
  refine ⟨I, S, ?_, hC, hM, v⟩
  refine bm_ie hgt ?_
  refine bm_ie hx ?_
  refine (bm_tsw_miss [136, 169, 202, 235, 268, 301, 314, 347, 390, 413, 436, 479, 532, 595, 628, 651, 664, 687, 700, 723, 736, 759] 0 cm).trans ?_
  rfl
theorem law_loop (hn : n ≤ 3072) : ∀ (d i : Nat) (x : Int32) (o : Nat) (I : Nat → Nat → Int32) (S : bm_S), bm_RC I S → bm_RM I S → bm_VV S → x = nI i → i ≤ n + 6 → n < i + 6 * d + 6 → d < o →
    ∃ K, bm_rn z_law o 18 ([some (.inr (some 3)), some (.inr (some 4)), some (.inr (some 75)), some (.inl x)], [], bm_mk n I) = some (some (.inl 1), bm_mk n K) := by
  have exit : ∀ (i : Nat) (x : Int32) (o : Nat) (I : Nat → Nat → Int32), x = nI i → i ≤ n + 6 → n < i + 6 → bm_rn z_law (o + 1) 18 ([some (.inr (some 3)), some (.inr (some 4)), some (.inr (some 75)), some (.inl x)], [], bm_mk n I) = some (some (.inl 1), bm_mk n I) := by
    intro i x o I hx hi h
    subst hx
    refine bm_it ?_ ?_
    · show (nI n - 6 : Int32) < nI i
      by_cases q : 6 ≤ n
      · rw [bm_lit 6, pk_sub q]
        exact (nI_ltI (by omega) (by omega)).mpr (by omega)
      · refine Int32.lt_of_lt_of_le ?_ (nI_pos' (n := i) (by omega))
        rcases (show n = 0 ∨ n = 1 ∨ n = 2 ∨ n = 3 ∨ n = 4 ∨ n = 5 by omega) with rfl | rfl | rfl | rfl | rfl | rfl <;> decide
    · rfl
  intro d
  induction d with
  | zero =>
    intro i x o I S hC hM v hx hi h ho
    obtain ⟨o, rfl⟩ : ∃ q, o = q + 1 := ⟨o - 1, by omega⟩
    exact ⟨I, exit i x o I hx hi (by omega)⟩
  | succ d ih =>
    intro i x o I S hC hM v hx hi h ho
    obtain ⟨o, rfl⟩ : ∃ q, o = q + 1 := ⟨o - 1, by omega⟩
    by_cases q : i + 6 ≤ n
    · obtain ⟨K, S2, e, hC2, hM2, v2⟩ := law_turn (n := n) (i := i) (o := o) hC hM v q hn
      obtain ⟨L, e2⟩ := ih (i + 6) (nI i + 6) o K S2 hC2 hM2 v2 (nI_add i 6) (by omega) (by omega) (by omega)
      subst hx
      exact ⟨L, e.trans e2⟩
    · exact ⟨I, exit i x o I hx hi (by omega)⟩
theorem law_run (hn : n ≤ 3072) (h0 : ∀ k, k < 6 → I 0 k = nI (bm_AT k)) (h1 : ∀ k, k < 6 → I 1 k = nI (bm_LE k) ∧ I 2 k = nI (bm_MO k)) : ∃ K, bm_rn z_law 1000 0 ([some (.inr (some 3)), none, none, none], [], ([8, 8, 8, 8], [6, 6, 6, n], [[], [], [], []], I, 0)) = some (some (.inl 1), bm_mk n K) := by
  obtain ⟨K, e⟩ := law_loop (n := n) hn 513 0 0 1000 (jI I) S_0 (RC_0 h0 h1) RM_0 V_0 rfl (by omega) (by omega) (by omega)
  refine ⟨K, ?_⟩
  refine bm_bd i_4 ?_
  refine bm_bd i_75 ?_
  exact e
end LM
