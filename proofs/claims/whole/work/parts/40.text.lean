set_option maxRecDepth 100000
/-! THE TEXT: the signs of the class -/
section TX
variable {n : Nat} {I : Nat → Nat → Int32} {S : bm_S}
/-- the text lies in the cells 69, 70 -/
def tx_C (I : Nat → Nat → Int32) (S : bm_S) : Prop := I 69 1 = nI S.2.2.2.1 ∧ ∀ j, j < S.2.2.2.1 → I 70 j = nI (S.2.2.2.2 j)
def tx_s (S : bm_S) (j : Nat) : Int32 := if j < S.2.2.2.1 then nI (S.2.2.2.2 j) else -1
theorem e_signAt (h : tx_C I S) (v : bm_VV S) {x : Int32} {j : Nat} (hx : x = nI j) (hj : j < 1000) : f_X6_signAt [.inr (some 69), .inl x] (bm_mk n I) = some (some (.inl (tx_s S j)), bm_mk n I) := by
  subst hx
  have h40 := v.2.2.2.1
  have e1 : I 69 1 = nI S.2.2.2.1 := h.1
  refine bm_g u_X6_signAt ?_
  unfold tx_s
  refine bm_bd e_within (bm_bq (fun z => ?_) (fun z => ?_))
  · have z : 0 ≤ nI j ∧ nI j ≤ I 69 1 - 1 := z
    rw [e1] at z
    have lt : j < S.2.2.2.1 := (nI_ltI (by omega) (by omega)).mp ((bm_nle (by omega)).mp z).2
    refine bm_bd (e_gk (a := 70) (N := 40) rfl rfl (by decide) (by omega)) ?_
    exact bm_ok ((h.2 j lt).trans (if_pos lt).symm)
  · refine bm_ok (if_neg (fun lt => z ?_)).symm
    show 0 ≤ nI j ∧ nI j ≤ I 69 1 - 1
    rw [e1]
    exact (bm_nle (by omega)).mpr (bm_of_k (by omega) lt)
abbrev tx_in (S : bm_S) (lo hi j : Nat) : Prop := j < S.2.2.2.1 ∧ lo ≤ S.2.2.2.2 j ∧ S.2.2.2.2 j ≤ hi
theorem tx_in_iff (v : bm_VV S) {lo hi j : Nat} (hl : lo < 1000) (hh : hi < 1000) : (nI lo ≤ tx_s S j ∧ tx_s S j ≤ nI hi) ↔ tx_in S lo hi j := by
  unfold tx_s tx_in
  by_cases q : j < S.2.2.2.1
  · have := v.2.2.2.2 j q
    rw [if_pos q, nI_leI (by omega) (by omega), nI_leI (by omega) (by omega)]
    exact ⟨fun z => ⟨q, z⟩, fun z => z.2⟩
  · rw [if_neg q]
    refine ⟨fun z => absurd (Int32.le_trans (nI_pos' (n := lo) (by omega)) z.1) (by decide), fun z => absurd z.1 q⟩
theorem e_hasDigitAt (h : tx_C I S) (v : bm_VV S) {x : Int32} {j : Nat} (hx : x = nI j) (hj : j < 1000) : f_X6_hasDigitAt [.inr (some 69), .inl x] (bm_mk n I) = some (some (.inl (bm_b (tx_in S 48 57 j))), bm_mk n I) := by
  refine bm_g u_X6_hasDigitAt ?_
  refine bm_bd (e_signAt h v hx hj) ?_
  refine bm_bd e_within ?_
  refine bm_it (bm_b01 _) ?_
  exact bm_ok (bm_bc (tx_in_iff v (by decide) (by decide)))
theorem e_digitAt (h : tx_C I S) (v : bm_VV S) {x : Int32} {j : Nat} (hx : x = nI j) (hj : j < 1000) (hd : tx_in S 48 57 j) : f_X6_digitAt [.inr (some 69), .inl x] (bm_mk n I) = some (some (.inl (nI (S.2.2.2.2 j - 48))), bm_mk n I) := by
  refine bm_g u_X6_digitAt ?_
  refine bm_bd (e_signAt h v hx hj) ?_
  refine bm_ok ?_
  show tx_s S j - 48 = _
  unfold tx_s
  rw [if_pos hd.1, bm_lit 48]
  exact pk_sub hd.2.1
end TX
