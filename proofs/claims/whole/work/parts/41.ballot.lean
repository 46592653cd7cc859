set_option maxRecDepth 100000
/-! THE TEXT READ AS A BALLOT: the words, and the class's version -/
section BT
variable {n : Nat} {I J : Nat → Nat → Int32} {S : bm_S}
abbrev tx_two (S : bm_S) : Prop := tx_in S 49 57 0 ∧ tx_in S 48 57 1
def tx_b (S : bm_S) : Nat := if tx_two S then 2 else 1
def tx_v (S : bm_S) : Nat := if tx_two S then (S.2.2.2.2 0 - 48) * 10 + (S.2.2.2.2 1 - 48) else S.2.2.2.2 0 - 48
def tx_p (S : bm_S) (k : Nat) : Nat := tx_b S + 1 + 3 * k
def tx_c (S : bm_S) (k : Nat) : Nat := S.2.2.2.2 (tx_p S k) - 97
def tx_q (S : bm_S) (k : Nat) : Nat := S.2.2.2.2 (tx_p S k + 1) - 48
/-- the marks from the k-th on: where the text is wrong, and how many marks there are -/
def tx_m (S : bm_S) : Nat → Nat → Option Nat × Nat
  | 0, k => (some (tx_p S k), k)
  | d + 1, k => if tx_in S 97 102 (tx_p S k) then (if tx_in S 48 57 (tx_p S k + 1) then (if tx_p S k + 2 = S.2.2.2.1 then (none, k + 1) else if tx_in S 44 44 (tx_p S k + 2) then tx_m S d (k + 1) else (some (tx_p S k + 2), k + 1)) else (some (tx_p S k + 1), k)) else (some (tx_p S k), k)
def tx_e (S : bm_S) : Option Nat × Nat := if tx_in S 48 57 0 then (if tx_in S 58 58 (tx_b S) then (if tx_b S + 1 = S.2.2.2.1 then (none, 0) else tx_m S 14 0) else (some (tx_b S), 0)) else (some 0, 0)
theorem tx_b12 : tx_b S = 1 ∨ tx_b S = 2 := by
  unfold tx_b
  by_cases q : tx_two S
  · exact Or.inr (if_pos q)
  · exact Or.inl (if_neg q)
theorem tx_is (v : bm_VV S) {a j : Nat} (ha : a < 1000) : (tx_s S j = nI a) ↔ tx_in S a a j := by
  rw [← tx_in_iff v ha ha]
  exact ⟨fun e => by rw [e]; exact ⟨Int32.le_refl _, Int32.le_refl _⟩, fun e => Int32.le_antisymm e.2 e.1⟩
theorem tx_C.fz {lo hi : Nat} (h : tx_C I S) (f : bm_fz I J lo hi) (h1 : 70 < lo ∨ hi < 69) : tx_C J S := by
  unfold tx_C
  rw [f 69 (by omega), f 70 (by omega)]
  exact h
/-- what the class's ballot holds: version, marks, place, reason -/
def tx_H (I : Nat → Nat → Int32) (x m a r : Int32) : Prop := I 71 3 = x ∧ I 71 4 = m ∧ I 71 5 = a ∧ I 71 6 = r
abbrev tx_u (I : Nat → Nat → Int32) (k : Nat) (x : Int32) : Nat → Nat → Int32 := va_up I 71 (upd (I 71) k x)
theorem tx_ufz {k : Nat} {x : Int32} : bm_fz I (tx_u I k x) 71 71 := bm_fz.rf.up (by decide) (by decide)
theorem e_blame {u m a r x y : Int32} (h : tx_H I u m a r) : ∃ J, f_X0_blame [.inr (some 71), .inl x, .inl y] (bm_mk n I) = some (none, bm_mk n J) ∧ tx_H J u m x y ∧ bm_fz I J 71 71 :=
  ⟨tx_u (tx_u I 5 x) 6 y, bm_g u_X0_blame rfl, ⟨h.1, h.2.1, rfl, rfl⟩, tx_ufz.tr tx_ufz⟩
theorem e_readVersion {u m a r : Int32} (hT : tx_C I S) (v : bm_VV S) (h : tx_H I u m a r) : ∃ J w, f_X0_readVersion [.inr (some 71), .inr (some 69)] (bm_mk n I) = some (some (.inl w), bm_mk n J) ∧ bm_fz I J 71 71 ∧ (tx_in S 48 57 0 → tx_in S 58 58 (tx_b S) → w = nI (tx_b S + 1) ∧ tx_H J (nI (tx_v S)) m a r) ∧ (tx_in S 48 57 0 → ¬ tx_in S 58 58 (tx_b S) → ∃ u, tx_H J u m (nI (tx_b S)) 1) ∧ (¬ tx_in S 48 57 0 → ∃ u, tx_H J u m 0 1) := by
  have hT0 : tx_C (tx_u I 3 0) S := hT.fz tx_ufz (by decide)
  by_cases c0 : tx_in S 48 57 0
  · have b0 := v.2.2.2.2 0 c0.1
    have hT1 : tx_C (tx_u (tx_u I 3 0) 3 (nI (S.2.2.2.2 0 - 48))) S := hT0.fz tx_ufz (by decide)
    have f1 : bm_fz I (tx_u (tx_u I 3 0) 3 (nI (S.2.2.2.2 0 - 48))) 71 71 := tx_ufz.tr tx_ufz
    by_cases c1 : tx_two S
    · have eb : tx_b S = 2 := if_pos c1
      have ev : tx_v S = (S.2.2.2.2 0 - 48) * 10 + (S.2.2.2.2 1 - 48) := if_pos c1
      have hH : tx_H (tx_u (tx_u (tx_u I 3 0) 3 (nI (S.2.2.2.2 0 - 48))) 3 (nI (S.2.2.2.2 0 - 48) * 10 + nI (S.2.2.2.2 1 - 48))) (nI (tx_v S)) m a r := ⟨by rw [ev]; show nI _ * 10 + nI _ = _; rw [bm_lit 10, pk_mul, nI_add], h.2.1, h.2.2.1, h.2.2.2⟩
      have f2 : bm_fz I (tx_u (tx_u (tx_u I 3 0) 3 (nI (S.2.2.2.2 0 - 48))) 3 (nI (S.2.2.2.2 0 - 48) * 10 + nI (S.2.2.2.2 1 - 48))) 71 71 := f1.tr tx_ufz
      have hT2 := hT.fz f2 (by decide)
      rw [eb]
      by_cases c2 : tx_in S 58 58 2
      · refine ⟨_, nI (2 + 1), bm_g u_X0_readVersion ?_, f2, fun _ _ => ⟨rfl, hH⟩, fun _ z => absurd c2 z, fun z => absurd c0 z⟩
        refine bm_bd (e_hasDigitAt hT0 v rfl (by decide)) (bm_bq (fun _ => ?_) (fun z => absurd c0 z))
        refine bm_bd (e_digitAt hT0 v rfl (by decide) c0) ?_
        refine bm_eq (S.2.2.2.2 0 - 48) 0 rfl rfl (by omega) (by decide) (fun z => absurd c1.1.2.1 (by omega)) (fun _ => ?_)
        refine bm_bd (e_hasDigitAt hT1 v (j := 1) rfl (by decide)) (bm_bq (fun _ => ?_) (fun z => absurd c1.2 z))
        refine bm_bd (e_digitAt hT1 v (j := 1) rfl (by decide) c1.2) ?_
        refine bm_bd (e_signAt hT2 v (j := 2) rfl (by decide)) ?_
        refine bm_it ((tx_is v (by decide)).mpr c2) ?_
        exact bm_ok rfl
      · obtain ⟨J, e, hJ, fJ⟩ := e_blame (n := n) (x := nI 2) (y := 1) hH
        refine ⟨J, nI (2 + 1), bm_g u_X0_readVersion ?_, f2.tr fJ, fun _ z => absurd z c2, fun _ _ => ⟨_, hJ⟩, fun z => absurd c0 z⟩
        refine bm_bd (e_hasDigitAt hT0 v rfl (by decide)) (bm_bq (fun _ => ?_) (fun z => absurd c0 z))
        refine bm_bd (e_digitAt hT0 v rfl (by decide) c0) ?_
        refine bm_eq (S.2.2.2.2 0 - 48) 0 rfl rfl (by omega) (by decide) (fun z => absurd c1.1.2.1 (by omega)) (fun _ => ?_)
        refine bm_bd (e_hasDigitAt hT1 v (j := 1) rfl (by decide)) (bm_bq (fun _ => ?_) (fun z => absurd c1.2 z))
        refine bm_bd (e_digitAt hT1 v (j := 1) rfl (by decide) c1.2) ?_
        refine bm_bd (e_signAt hT2 v (j := 2) rfl (by decide)) ?_
        refine bm_ie (fun z => c2 ((tx_is v (by decide)).mp z)) ?_
        refine bm_bd e ?_
        exact bm_ok rfl
    · have eb : tx_b S = 1 := if_neg c1
      have ev : tx_v S = S.2.2.2.2 0 - 48 := if_neg c1
      have hH : tx_H (tx_u (tx_u I 3 0) 3 (nI (S.2.2.2.2 0 - 48))) (nI (tx_v S)) m a r := ⟨by rw [ev]; rfl, h.2.1, h.2.2.1, h.2.2.2⟩
      rw [eb]
      by_cases c2 : tx_in S 58 58 1
      · refine ⟨_, nI (1 + 1), bm_g u_X0_readVersion ?_, f1, fun _ _ => ⟨rfl, hH⟩, fun _ z => absurd c2 z, fun z => absurd c0 z⟩
        refine bm_bd (e_hasDigitAt hT0 v rfl (by decide)) (bm_bq (fun _ => ?_) (fun z => absurd c0 z))
        refine bm_bd (e_digitAt hT0 v rfl (by decide) c0) ?_
        refine bm_eq (S.2.2.2.2 0 - 48) 0 rfl rfl (by omega) (by decide) (fun _ => ?_) (fun c3 => ?_)
        · refine bm_bd (e_signAt hT1 v (j := 1) rfl (by decide)) ?_
          refine bm_it ((tx_is v (by decide)).mpr c2) ?_
          exact bm_ok rfl
        · refine bm_bd (e_hasDigitAt hT1 v (j := 1) rfl (by decide)) (bm_bq (fun z => absurd z.2.1 ?_) (fun _ => ?_))
          · have := c2.2.2; omega
          · refine bm_bd (e_signAt hT1 v (j := 1) rfl (by decide)) ?_
            refine bm_it ((tx_is v (by decide)).mpr c2) ?_
            exact bm_ok rfl
      · obtain ⟨J, e, hJ, fJ⟩ := e_blame (n := n) (x := nI 1) (y := 1) hH
        refine ⟨J, nI (1 + 1), bm_g u_X0_readVersion ?_, f1.tr fJ, fun _ z => absurd z c2, fun _ _ => ⟨_, hJ⟩, fun z => absurd c0 z⟩
        refine bm_bd (e_hasDigitAt hT0 v rfl (by decide)) (bm_bq (fun _ => ?_) (fun z => absurd c0 z))
        refine bm_bd (e_digitAt hT0 v rfl (by decide) c0) ?_
        refine bm_eq (S.2.2.2.2 0 - 48) 0 rfl rfl (by omega) (by decide) (fun _ => ?_) (fun c3 => ?_)
        · refine bm_bd (e_signAt hT1 v (j := 1) rfl (by decide)) ?_
          refine bm_ie (fun z => c2 ((tx_is v (by decide)).mp z)) ?_
          refine bm_bd e ?_
          exact bm_ok rfl
        · refine bm_bd (e_hasDigitAt hT1 v (j := 1) rfl (by decide)) (bm_bq (fun z => absurd ⟨⟨c0.1, by omega, c0.2.2⟩, z⟩ c1) (fun _ => ?_))
          refine bm_bd (e_signAt hT1 v (j := 1) rfl (by decide)) ?_
          refine bm_ie (fun z => c2 ((tx_is v (by decide)).mp z)) ?_
          refine bm_bd e ?_
          exact bm_ok rfl
  · obtain ⟨J, e, hJ, fJ⟩ := e_blame (n := n) (I := tx_u I 3 0) (x := 0) (y := 1) ⟨rfl, h.2.1, h.2.2.1, h.2.2.2⟩
    refine ⟨J, 0, bm_g u_X0_readVersion ?_, tx_ufz.tr fJ, fun z => absurd z c0, fun z => absurd z c0, fun _ => ⟨_, hJ⟩⟩
    refine bm_bd (e_hasDigitAt hT0 v rfl (by decide)) (bm_bq (fun z => absurd z c0) (fun _ => ?_))
    refine bm_bd e ?_
    rfl
end BT
