set_option maxRecDepth 100000
/-! THE REFERENCE: its record of changes, and what it changes -/
section MC
variable {n : Nat} {I : Nat → Nat → Int32} {S : bm_S}
theorem bm_rc7 {J : Nat → Nat → Int32} {x v : Int32} {k : Nat} (hx : x = nI k) (hk : k < 2 ^ 31) : va_up J 76 (upd (J 76) x.toNatClampNeg v) = va_up J 76 (upd (J 76) k v) := by
  subst hx; rw [nI_clamp hk]
theorem bm_sset {J : Nat → Nat → Int32} {F : Nat → Nat} (hS : bm_s J F) {x v : Int32} {k w : Nat} (hx : x = nI k) (hk : k < 164) (hv : v = nI w) : bm_s (va_up J 76 (upd (J 76) x.toNatClampNeg v)) (bm_fs1 F k w) := by
  rw [bm_rc7 hx (by omega)]
  intro j hj
  show upd (J 76) k v j = nI (bm_fs1 F k w j)
  unfold upd bm_fs1
  by_cases e : j = k
  · rw [if_pos e, if_pos e]; exact hv
  · rw [if_neg e, if_neg e]; exact hS j hj
/-- the last steps of a record: the row copied behind those that are there -/
theorem m_changes_end {P : Nat} (hP : P < 4) : ∀ (d i : Nat) (x : Int32) (J : Nat → Nat → Int32) (o : Nat), x = nI i → (∀ k, k ≠ 77 → J k = I k) → I 75 2 = nI P → (∀ j, j < i → J 77 (164 * P + j) = I 76 j) → (∀ j, j < 164 * P → J 77 j = I 77 j) → i + d = 164 → d < o →
    ∃ L, bm_rn z_X8_changes o 51 ([some (.inr (some 75)), some (.inl x)], [], bm_mk n J) = some (none, bm_mk n L) ∧ (∀ k, k ≠ 77 → k ≠ 75 → L k = I k) ∧ (∀ j, j ≠ 2 → L 75 j = I 75 j) ∧ L 75 2 = nI (P + 1) ∧ (∀ j, j < 164 → L 77 (164 * P + j) = I 76 j) ∧ ∀ j, j < 164 * P → L 77 j = I 77 j := by
  intro d
  induction d with
  | zero =>
    intro i x J o hx h1 h2 h3 h4 hi ho
    obtain ⟨o, rfl⟩ : ∃ q, o = q + 1 := ⟨o - 1, by omega⟩
    have hi : i = 164 := by omega
    subst hi; subst hx
    have e75 : J 75 = I 75 := h1 75 (by decide)
    refine ⟨va_up J 75 (upd (J 75) 2 (J 75 2 + 1)), rfl, fun k k1 k2 => (va_up_ne _ _ k2).trans (h1 k k1), fun j hj => ?_, ?_, fun j hj => h3 j hj, fun j hj => h4 j hj⟩
    · show upd (J 75) 2 (J 75 2 + 1) j = _
      rw [show upd (J 75) 2 (J 75 2 + 1) j = J 75 j from if_neg hj, e75]
    · show J 75 2 + 1 = _
      rw [e75, h2]; exact nI_1 P
  | succ d ih =>
    intro i x J o hx h1 h2 h3 h4 hi ho
    obtain ⟨o, rfl⟩ : ∃ q, o = q + 1 := ⟨o - 1, by omega⟩
    subst hx
    have e75 : J 75 = I 75 := h1 75 (by decide)
    have e76 : J 76 = I 76 := h1 76 (by decide)
    have hx2 : (164 * J 75 2 + nI i : Int32) = nI (164 * P + i) := by rw [e75, h2, bm_lit 164, pk_mul, nI_add]
    have st : bm_rn z_X8_changes (o + 1) 51 ([some (.inr (some 75)), some (.inl (nI i))], [], bm_mk n J) = bm_rn z_X8_changes o 51 ([some (.inr (some 75)), some (.inl (nI i + 1))], [], bm_mk n (va_up J 77 (upd (J 77) (164 * P + i) (J 76 i)))) := by
      refine bm_ie (fun z => absurd ((nI_leI (by decide) (by omega)).mp (show nI 164 ≤ nI i from z)) (by omega)) ?_
      refine bm_ie (bm_nix (N := 164) (k := i) rfl (by omega) (by decide)) ?_
      refine bm_ie (bm_nix (N := 656) (k := 164 * P + i) hx2 (by omega) (by decide)) ?_
      show bm_rn z_X8_changes o 51 ([some (.inr (some 75)), some (.inl (nI i + 1))], [], bm_mk n (va_up J 77 (upd (J 77) (164 * J 75 2 + nI i : Int32).toNatClampNeg (J 76 (nI i).toNatClampNeg)))) = _
      rw [hx2, nI_clamp (show 164 * P + i < 2 ^ 31 by omega), nI_clamp (show i < 2 ^ 31 by omega)]
    obtain ⟨L, e, r⟩ := ih (i + 1) _ (va_up J 77 (upd (J 77) (164 * P + i) (J 76 i))) o (nI_1 i) (fun k hk => (va_up_ne _ _ hk).trans (h1 k hk)) h2 (fun j hj => by
      show upd (J 77) (164 * P + i) (J 76 i) (164 * P + j) = _
      unfold upd
      by_cases e : j = i
      · subst e; rw [if_pos rfl, e76]
      · rw [if_neg (by omega)]; exact h3 j (by omega)) (fun j hj => by
      show upd (J 77) (164 * P + i) (J 76 i) j = _
      unfold upd
      rw [if_neg (by omega)]; exact h4 j hj) (by omega) (by omega)
    exact ⟨L, st.trans e, r⟩
theorem m_changes_shift : ∀ (d i : Nat) (x : Int32) (J : Nat → Nat → Int32) (o : Nat), x = nI i → (∀ k, k ≠ 77 → J k = I k) → I 75 2 = nI 4 → (∀ j, j < i → J 77 j = I 77 (j + 164)) → (∀ j, i ≤ j → J 77 j = I 77 j) → i + d = 492 → d + 200 < o →
    ∃ L, bm_rn z_X8_changes o 10 ([some (.inr (some 75)), some (.inl x)], [], bm_mk n J) = some (none, bm_mk n L) ∧ (∀ k, k ≠ 77 → k ≠ 75 → L k = I k) ∧ (∀ j, j ≠ 2 → L 75 j = I 75 j) ∧ L 75 2 = nI 4 ∧ (∀ j, j < 164 → L 77 (492 + j) = I 76 j) ∧ ∀ j, j < 492 → L 77 j = I 77 (j + 164) := by
  intro d
  induction d with
  | zero =>
    intro i x J o hx h1 h2 h3 h4 hi ho
    obtain ⟨o, rfl⟩ : ∃ q, o = q + 1 := ⟨o - 1, by omega⟩
    have hi : i = 492 := by omega
    subst hi; subst hx
    have e75 : J 75 = I 75 := h1 75 (by decide)
    have e76 : J 76 = I 76 := h1 76 (by decide)
    obtain ⟨L, e, f1, f2, f3, f4, f5⟩ := m_changes_end (n := n) (I := va_up J 75 (upd (J 75) 2 (J 75 2 - 1))) (P := 3) (by decide) 164 0 0 (va_up J 75 (upd (J 75) 2 (J 75 2 - 1))) (o + 1) rfl (fun _ _ => rfl) (by show J 75 2 - 1 = _; rw [e75, h2]; rfl) (fun j hj => absurd hj (Nat.not_lt_zero j)) (fun _ _ => rfl) (by omega) (by omega)
    refine ⟨L, e, fun k k1 k2 => (f1 k k1 k2).trans ((va_up_ne _ _ k2).trans (h1 k k1)), fun j hj => (f2 j hj).trans ?_, f3, fun j hj => (f4 j hj).trans (by show J 76 j = _; rw [e76]), fun j hj => (f5 j hj).trans (h3 j hj)⟩
    show upd (J 75) 2 _ j = _
    rw [← e75]; exact if_neg hj
  | succ d ih =>
    intro i x J o hx h1 h2 h3 h4 hi ho
    obtain ⟨o, rfl⟩ : ∃ q, o = q + 1 := ⟨o - 1, by omega⟩
    subst hx
    have hx2 : (nI i + 164 : Int32) = nI (i + 164) := by rw [bm_lit 164, nI_add]
    have st : bm_rn z_X8_changes (o + 1) 10 ([some (.inr (some 75)), some (.inl (nI i))], [], bm_mk n J) = bm_rn z_X8_changes o 10 ([some (.inr (some 75)), some (.inl (nI i + 1))], [], bm_mk n (va_up J 77 (upd (J 77) i (J 77 (i + 164))))) := by
      refine bm_ie (fun z => absurd ((nI_leI (by decide) (by omega)).mp (show nI 492 ≤ nI i from z)) (by omega)) ?_
      refine bm_ie (bm_nix (N := 656) (k := i + 164) hx2 (by omega) (by decide)) ?_
      refine bm_ie (bm_nix (N := 656) (k := i) rfl (by omega) (by decide)) ?_
      show bm_rn z_X8_changes o 10 ([some (.inr (some 75)), some (.inl (nI i + 1))], [], bm_mk n (va_up J 77 (upd (J 77) (nI i).toNatClampNeg (J 77 (nI i + 164 : Int32).toNatClampNeg)))) = _
      rw [hx2, nI_clamp (show i + 164 < 2 ^ 31 by omega), nI_clamp (show i < 2 ^ 31 by omega)]
    obtain ⟨L, e, r⟩ := ih (i + 1) _ (va_up J 77 (upd (J 77) i (J 77 (i + 164)))) o (nI_1 i) (fun k hk => (va_up_ne _ _ hk).trans (h1 k hk)) h2 (fun j hj => by
      show upd (J 77) i (J 77 (i + 164)) j = _
      unfold upd
      by_cases e : j = i
      · subst e; rw [if_pos rfl]; exact h4 _ (by omega)
      · rw [if_neg e]; exact h3 j (by omega)) (fun j hj => by
      show upd (J 77) i (J 77 (i + 164)) j = _
      unfold upd
      rw [if_neg (by omega)]; exact h4 j (by omega)) (by omega) (by omega)
    exact ⟨L, st.trans e, r⟩
theorem m_changes (h : bm_RM I S) (h4 : S.2.1 ≤ 4) : ∃ J, f_X8_changes [.inr (some 75)] (bm_mk n I) = some (none, bm_mk n J) ∧ bm_RM J (bm_pu S S.1) ∧ bm_fz I J 75 77 := by
  obtain ⟨hs, hp, hq, ht, hT⟩ := h
  obtain ⟨F, P, Q, tl, T⟩ := S
  dsimp only at *
  by_cases h5 : P = 4
  · subst h5
    obtain ⟨L, e, f1, f2, f3, f4, f5⟩ := m_changes_shift (n := n) (I := I) 491 1 (0 + 1) (va_up I 77 (upd (I 77) 0 (I 77 164))) 999 rfl (fun k hk => va_up_ne _ _ hk) hp (fun j hj => by
      have : j = 0 := by omega
      subst this; rfl) (fun j hj => if_neg (by omega)) (by omega) (by omega)
    have e2 : bm_rn z_X8_changes 1000 0 ([some (.inr (some 75)), none], [], bm_mk n I) = some (none, bm_mk n L) := by
      show bm_ra (bm_rn z_X8_changes 999) z_X8_changes 0 ([some (.inr (some 75)), none], [], bm_mk n I) = some (none, bm_mk n L)
      generalize bm_rn z_X8_changes 999 = k at e ⊢
      exact bm_it (show I 75 2 = 4 from hp) e
    refine ⟨L, bm_g u_X8_changes e2, ⟨fun k hk => by rw [f1 76 (by decide) (by decide)]; exact hs k hk, f3, fun j hj k hk => ?_, by rw [f2 4 (by decide)]; exact ht, fun j hj => by rw [f1 78 (by decide) (by decide)]; exact hT j hj⟩, fun k hk => f1 k (by omega) (by omega)⟩
    have hj : j < bm_pn 4 := hj
    rw [show bm_pn 4 = 4 from rfl] at hj
    show L 77 (164 * j + k) = nI (bm_pq 4 Q F j k)
    unfold bm_pq
    rw [if_pos rfl]
    by_cases e3 : j = 3
    · subst e3; rw [if_pos rfl, show 164 * 3 + k = 492 + k by omega, f4 k hk]; exact hs k hk
    · rw [if_neg e3, f5 _ (by omega), show 164 * j + k + 164 = 164 * (j + 1) + k by omega]; exact hq (j + 1) (by omega) k hk
  · obtain ⟨L, e, f1, f2, f3, f4, f5⟩ := m_changes_end (n := n) (I := I) (P := P) (by omega) 164 0 0 I 1000 rfl (fun _ _ => rfl) hp (fun j hj => absurd hj (Nat.not_lt_zero j)) (fun _ _ => rfl) (by omega) (by omega)
    refine ⟨L, bm_g u_X8_changes (bm_ie (fun z => h5 ((nI_eq (by omega) (by decide)).mp (show nI P = nI 4 from hp.symm.trans z))) e), ⟨fun k hk => by rw [f1 76 (by decide) (by decide)]; exact hs k hk, by show L 75 2 = nI (bm_pn P); rw [show bm_pn P = P + 1 from if_neg h5]; exact f3, fun j hj k hk => ?_, by rw [f2 4 (by decide)]; exact ht, fun j hj => by rw [f1 78 (by decide) (by decide)]; exact hT j hj⟩, fun k hk => f1 k (by omega) (by omega)⟩
    have hj : j < bm_pn P := hj
    rw [show bm_pn P = P + 1 from if_neg h5] at hj
    show L 77 (164 * j + k) = nI (bm_pq P Q F j k)
    unfold bm_pq
    rw [if_neg h5]
    by_cases e3 : j = P
    · subst e3; rw [if_pos rfl, f4 k hk]; exact hs k hk
    · rw [if_neg e3, f5 _ (by omega)]; exact hq j (by omega) k hk
end MC
