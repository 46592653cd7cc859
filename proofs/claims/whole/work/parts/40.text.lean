set_option maxRecDepth 100000
/-! THE TEXT: the signs of the class -/
section TX
variable {n : Nat} {I : Nat → Nat → Int32} {S : bm_S}
/-- the text lies in the cells 69, 70 -/
def tx_C (I : Nat → Nat → Int32) (S : bm_S) : Prop := I 69 1 = nI S.2.2.2.1 ∧ ∀ j, j < S.2.2.2.1 → I 70 j = nI (S.2.2.2.2 j)
def tx_s (S : bm_S) (j : Nat) : Int32 := if j < S.2.2.2.1 then nI (S.2.2.2.2 j) else -1
theorem e_signAt (h : tx_C I S) (v : bm_VV S) {x : Int32} {j : Nat} (hx : x = nI j) (hj : j < 1000) : f_X6_signAt [.inr (some 69), .inl x] (bm_mk n I) = some (some (.inl (tx_s S j)), bm_mk n I) := by
  subst hx
  have h40 := v.2.2.2.1
  have e1 : I 69 1 = nI S.2.2.2.1 := h.1
  refine bm_g u_X6_signAt ?_
  unfold tx_s
  refine bm_bd e_within (bm_bq (fun z => ?_) (fun z => ?_))
  · have z : 0 ≤ nI j ∧ nI j ≤ I 69 1 - 1 := z
    rw [e1] at z
    have lt : j < S.2.2.2.1 := (nI_ltI (by omega) (by omega)).mp ((bm_nle (by omega)).mp z).2
    refine bm_bd (e_gk (a := 70) (N := 40) rfl rfl (by decide) (by omega)) ?_
    exact bm_ok ((h.2 j lt).trans (if_pos lt).symm)
  · refine bm_ok (if_neg (fun lt => z ?_)).symm
    show 0 ≤ nI j ∧ nI j ≤ I 69 1 - 1
    rw [e1]
    exact (bm_nle (by omega)).mpr (bm_of_k (by omega) lt)
end TX
