set_option maxRecDepth 100000
/-! THE STATE AT FIRST -/
section I0
variable {n : Nat} {I : Nat → Nat → Int32}
def bm_AT (k : Nat) : Nat := [2, 24, 20, 1, 0, 1].getD k 0
def F_0 (y : Nat) : Nat := if y = 2 then 2 else if y = 3 then 24 else if y = 4 then 20 else if y = 5 then 1 else if y = 7 then 1 else 0
def S_0 : bm_S := (F_0, 0, fun _ _ => 0, 0, fun _ => 0)
abbrev jI (I : Nat → Nat → Int32) : Nat → Nat → Int32 := jM (jz (jX (jz I 4 1)) 75 1)
theorem F_0_0 {y : Nat} (h : y = 6 ∨ 8 ≤ y) : F_0 y = 0 := by
  unfold F_0
  rw [if_neg (by omega), if_neg (by omega), if_neg (by omega), if_neg (by omega), if_neg (by omega)]
theorem V_0 : bm_VV S_0 := by
  refine ⟨⟨by decide, by decide, by decide, by decide, by decide, by decide, by decide, by decide, fun v hv => ?_, fun c hc => ?_, fun j hj => ?_⟩, by decide, fun j hj => absurd hj (Nat.not_lt_zero j), by decide, fun j hj => absurd hj (Nat.not_lt_zero j)⟩
  · show F_0 (8 + v) ≤ 9999 ∧ (F_0 7 ≤ v → F_0 (8 + v) = 0)
    rw [F_0_0 (by omega)]
    exact ⟨by omega, fun _ => rfl⟩
  · show F_0 (32 + 6 * c) ≤ 20 ∧ F_0 (33 + 6 * c) ≤ 3 ∧ F_0 (34 + 6 * c) ≤ 2 ∧ F_0 (35 + 6 * c) ≤ 8
    rw [F_0_0 (by omega), F_0_0 (by omega), F_0_0 (by omega), F_0_0 (by omega)]
    decide
  · show F_0 (68 + 2 * j) ≤ 20
    rw [F_0_0 (by omega)]
    decide
theorem RC_0 (h0 : ∀ k, k < 6 → I 0 k = nI (bm_AT k)) (h1 : ∀ k, k < 6 → I 1 k = nI (bm_LE k) ∧ I 2 k = nI (bm_MO k)) : bm_RC (jI I) S_0 := by
  refine ⟨⟨rfl, rfl, bm_10 ?_ ?_ ?_ ?_ ?_ ?_ ?_ ?_ ?_ ?_⟩, ⟨0, by decide, by decide, rfl, rfl, fun j hj => absurd hj (Nat.not_lt_zero j)⟩, rfl, fun j hj => absurd hj (Nat.not_lt_zero j), fun k hk => h1 k hk⟩
  · intro k hk
    show (0 : Int32) = nI (F_0 (32 + 6 * k))
    rw [F_0_0 (by omega)]; rfl
  · intro k hk
    show (0 : Int32) = nI (F_0 (33 + 6 * k))
    rw [F_0_0 (by omega)]; rfl
  · intro k hk
    show (0 : Int32) = nI (F_0 (34 + 6 * k))
    rw [F_0_0 (by omega)]; rfl
  · intro k hk
    show (0 : Int32) = nI (F_0 (35 + 6 * k))
    rw [F_0_0 (by omega)]; rfl
  · intro k hk
    show (0 : Int32) = nI (F_0 (36 + 6 * k))
    rw [F_0_0 (by omega)]; rfl
  · intro k hk
    show (0 : Int32) = nI (F_0 (37 + 6 * k))
    rw [F_0_0 (by omega)]; rfl
  · intro k hk
    show (0 : Int32) = nI (F_0 (68 + 2 * k))
    rw [F_0_0 (by omega)]; rfl
  · intro k hk
    show (0 : Int32) = nI (F_0 (69 + 2 * k))
    rw [F_0_0 (by omega)]; rfl
  · intro k hk
    show (0 : Int32) = nI (F_0 (8 + 1 * k))
    rw [F_0_0 (by omega)]; rfl
  · intro k hk
    have hk : k < 6 := hk
    have e : jI I (5 + 10) k = I 0 k := (if_pos ⟨Nat.zero_le _, by omega⟩ : va_cpy (jz (jz (jz I 4 1) 5 1) (5 + 1) 10 0) (jz (jz (jz I 4 1) 5 1) (5 + 1) 10 (5 + 10)) 0 0 6 k = I 0 (0 + (k - 0))).trans (by rw [Nat.zero_add, Nat.sub_zero]; rfl)
    rw [e, h0 k hk]
    rcases (show k = 0 ∨ k = 1 ∨ k = 2 ∨ k = 3 ∨ k = 4 ∨ k = 5 by omega) with rfl | rfl | rfl | rfl | rfl | rfl <;> rfl
theorem RM_0 : bm_RM (jI I) S_0 := by
  refine ⟨fun k hk => ?_, rfl, fun j hj => absurd hj (Nat.not_lt_zero j), rfl, fun j hj => absurd hj (Nat.not_lt_zero j)⟩
  have e : jI I 76 k = (if k = 7 then 1 else if k = 5 then 1 else if k = 4 then 20 else if k = 3 then 24 else if k = 2 then 2 else 0) := rfl
  rw [e]
  show _ = nI (F_0 k)
  unfold F_0
  by_cases k7 : k = 7
  · subst k7; rfl
  rw [if_neg k7]
  by_cases k5 : k = 5
  · subst k5; rfl
  rw [if_neg k5]
  by_cases k4 : k = 4
  · subst k4; rfl
  rw [if_neg k4]
  by_cases k3 : k = 3
  · subst k3; rfl
  rw [if_neg k3]
  by_cases k2 : k = 2
  · subst k2; rfl
  rw [if_neg k2, if_neg k2, if_neg k3, if_neg k4, if_neg k5, if_neg k7]
  rfl
end I0
