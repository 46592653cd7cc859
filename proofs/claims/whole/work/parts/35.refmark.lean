set_option maxRecDepth 100000
/-! markAt: the reference -/
section MV
variable {n : Nat} {I : Nat → Nat → Int32} {F : Nat → Nat} {S : bm_S}
theorem bm_ff_none {M : Nat → Prop} : ∀ {d i : Nat}, (∀ k, i ≤ k → k < i + d → ¬ M k) → bm_ff M d i = none
  | 0, _, _ => rfl
  | d + 1, i, h => (bm_ff0 (h i (Nat.le_refl _) (by omega))).trans (bm_ff_none (fun k h1 h2 => h k (by omega) (by omega)))
theorem bm_mo_far (hV : bm_V' F) {W v : Nat} (hW : 8 ≤ W) {pg cl ln w : Int32} (hp : nI (ly_a F W v (F 0)).1 ≤ pg) : ∀ (d c : Nat), c + d = F 0 → bm_mo F (ly_a F W v (F 0)) pg cl ln w d c = -4
  | 0, _, _ => rfl
  | d + 1, c, h => by
    have ok := (ly_a_ok hV hW (v := v) (F 0) hV.1).1
    have h6 := hV.1
    have h2 := hV.2.2.1
    refine (bm_mo0 (bm_ff_none (fun k _ hk => ?_))).trans (bm_mo_far hV hW hp d (c + 1) (by omega))
    intro z
    have hm := ly_a_mn (F := F) (W := W) (v := v) (F 0) ⟨c, by omega, by omega⟩
    have cs := ly_a_cs (F := F) (W := W) (v := v) (F 0) (8 * c + k)
    have hd := Nat.div_le_self ((ly_a F W v (F 0)).2.2.2.2.2.1 (8 * c + k)) (F 2)
    have z1 := z.1
    rw [← z1] at hp
    have := (nI_leI (by omega) (by omega)).mp hp
    omega
theorem ly_at_iff (hV : bm_V' F) {Y : ly_Y} {P C c k : Nat} {ln : Int32} (hP : P < 1000) (hC : C < F 2) (hb : Y.2.2.2.2.2.1 (8 * c + k) < 1000) : ly_at F Y (nI P) (nI C) ln c k ↔ nI (Y.2.2.2.2.2.1 (8 * c + k)) = nI (P * F 2 + C) ∧ nI (Y.2.2.2.2.2.2 (8 * c + k)) = ln := by
  have h2 := hV.2.2.1
  have hd := Nat.div_add_mod (Y.2.2.2.2.2.1 (8 * c + k)) (F 2)
  have hl := Nat.mod_lt (Y.2.2.2.2.2.1 (8 * c + k)) (show 0 < F 2 by omega)
  have hd2 := Nat.div_le_self (Y.2.2.2.2.2.1 (8 * c + k)) (F 2)
  have hPF : P * F 2 ≤ 1000 * 4 := Nat.mul_le_mul (by omega) h2.2
  unfold ly_at
  constructor
  · rintro ⟨a, b, e⟩
    have a := (nI_eq (by omega) (by omega)).mp a
    have b := (nI_eq (by omega) (by omega)).mp b
    refine ⟨congrArg nI ?_, e⟩
    rw [← a, ← b, Nat.mul_comm (Y.2.2.2.2.2.1 (8 * c + k) / F 2) (F 2)]
    exact hd.symm
  · rintro ⟨a, e⟩
    have a := (nI_eq (by omega) (by omega)).mp a
    rw [a]
    have e1 : (P * F 2 + C) / F 2 = P := by
      rw [Nat.mul_comm, Nat.mul_add_div (by omega), Nat.div_eq_of_lt hC]; rfl
    have e2 : (P * F 2 + C) % F 2 = C := by
      rw [Nat.mul_comm, Nat.mul_add_mod, Nat.mod_eq_of_lt hC]
    exact ⟨by rw [e1], by rw [e2], e⟩
theorem m_mark_in (hS : bm_s I F) (hV : bm_V' F) {W v : Nat} (hW : 8 ≤ W) (rL : ly_R I (ly_a F W v (F 0)) (ly_D F (F 0))) {x cols ln w : Int32} {P C c : Nat} (hP : P < 1000) (hC : C < F 2) (hc : c < F 0) : ∀ (d i : Nat) (y : Int32) (u : Option bm_V) (o : Nat), y = nI i → i + d = F (35 + 6 * c) →
    (∃ k, bm_ff (ly_at F (ly_a F W v (F 0)) (nI P) (nI C) ln c) d i = some k ∧ bm_rn z_X8_markAt (o + d + 1) 87 ([some (.inr (some 75)), some (.inl x), some (.inl (nI P)), some (.inl (nI C)), some (.inl ln), some (.inl w), some (.inl cols), some (.inl (nI c)), some (.inl y), u], [], bm_mk n I) = some (some (.inl (if w = 0 then nI c else nI k)), bm_mk n I)) ∨
    (bm_ff (ly_at F (ly_a F W v (F 0)) (nI P) (nI C) ln c) d i = none ∧ ∃ u', bm_rn z_X8_markAt (o + d + 1) 87 ([some (.inr (some 75)), some (.inl x), some (.inl (nI P)), some (.inl (nI C)), some (.inl ln), some (.inl w), some (.inl cols), some (.inl (nI c)), some (.inl y), u], [], bm_mk n I) = bm_rn z_X8_markAt o 67 ([some (.inr (some 75)), some (.inl x), some (.inl (nI P)), some (.inl (nI C)), some (.inl ln), some (.inl w), some (.inl cols), some (.inl (nI c + 1)), some (.inl (nI (F (35 + 6 * c)))), u'], [], bm_mk n I)) := by
  have h6 := hV.1
  have h2 := hV.2.2.1
  have h8 := (hV.2.2.2.2.2.2.2.2.2.1 c (by omega)).2.2.2
  have ok := (ly_a_ok hV hW (v := v) (F 0) hV.1).1
  have e2 : I 76 2 = nI (F 2) := hS 2 (by decide)
  intro d
  induction d with
  | zero =>
    intro i y u o hy hi
    subst hy
    have hi : i = F (35 + 6 * c) := by omega
    subst hi
    refine Or.inr ⟨rfl, u, ?_⟩
    refine bm_bd (m_names hS (by omega)) ?_
    exact bm_it (Int32.le_refl _) rfl
  | succ d ih =>
    intro i y u o hy hi
    subst hy
    have hx : (8 * nI c + nI i : Int32) = nI (8 * c + i) := by rw [bm_lit 8, pk_mul, nI_add]
    have cl : (8 * nI c + nI i : Int32).toNatClampNeg = 8 * c + i := by rw [hx]; exact nI_clamp (by omega)
    have cb := ly_a_cb (F := F) (W := W) (v := v) (F 0) (8 * c + i)
    have hd := rL.2.2.2.2.2 (8 * c + i) (by omega) (ly_D_in hc (show i < F (35 + 6 * c) by omega) (by omega))
    have iff := ly_at_iff hV (Y := ly_a F W v (F 0)) (c := c) (k := i) (ln := ln) hP hC (by omega)
    have ep : (nI P * I 76 2 + nI C : Int32) = nI (P * F 2 + C) := by rw [e2, pk_mul, nI_add]
    have eA : I 79 (8 * nI c + nI i : Int32).toNatClampNeg = nI ((ly_a F W v (F 0)).2.2.2.2.2.1 (8 * c + i)) := by rw [cl]; exact hd.1
    have eB : I 80 (8 * nI c + nI i : Int32).toNatClampNeg = nI ((ly_a F W v (F 0)).2.2.2.2.2.2 (8 * c + i)) := by rw [cl]; exact hd.2
    have head : ∀ {R : Option bm_R}, (ly_at F (ly_a F W v (F 0)) (nI P) (nI C) ln c i → some (some (.inl (if w = 0 then nI c else nI i)), bm_mk n I) = R) → (¬ ly_at F (ly_a F W v (F 0)) (nI P) (nI C) ln c i → bm_rn z_X8_markAt (o + d + 1) 87 ([some (.inr (some 75)), some (.inl x), some (.inl (nI P)), some (.inl (nI C)), some (.inl ln), some (.inl w), some (.inl cols), some (.inl (nI c)), some (.inl (nI i + 1)), some (.inl (8 * nI c + nI i))], [], bm_mk n I) = R) → bm_rn z_X8_markAt (o + d + 1 + 1) 87 ([some (.inr (some 75)), some (.inl x), some (.inl (nI P)), some (.inl (nI C)), some (.inl ln), some (.inl w), some (.inl cols), some (.inl (nI c)), some (.inl (nI i)), u], [], bm_mk n I) = R := by
      intro R r1 r2
      refine bm_bd (m_names hS (by omega)) ?_
      refine bm_le (F (35 + 6 * c)) i rfl rfl (by omega) (by omega) (fun z => absurd z (by omega)) (fun _ => ?_)
      refine bm_ie (bm_nix (N := 48) hx (by omega) (by decide)) ?_
      refine bm_if (fun q1 => ?_) (fun q1 => ?_)
      · refine bm_ie (bm_nix (N := 48) hx (by omega) (by decide)) ?_
        refine bm_if (fun q2 => ?_) (fun q2 => ?_)
        · refine Eq.trans ?_ (r1 (iff.mpr ⟨eA.symm.trans (Eq.trans q1 ep), eB.symm.trans q2⟩))
          exact bm_fi (fun _ => rfl) (fun _ => rfl)
        · exact r2 (fun z => q2 (eB.trans (iff.mp z).2))
      · exact r2 (fun z => q1 (eA.trans ((iff.mp z).1.trans ep.symm)))
    by_cases q : ly_at F (ly_a F W v (F 0)) (nI P) (nI C) ln c i
    · exact Or.inl ⟨i, bm_ff1 q, head (fun _ => rfl) (fun z => absurd q z)⟩
    · rcases ih (i + 1) (nI i + 1) (some (.inl (8 * nI c + nI i))) o (nI_1 i) (by omega) with ⟨k, e, r⟩ | ⟨e, u', r⟩
      · exact Or.inl ⟨k, (bm_ff0 q).trans e, head (fun z => absurd z q) (fun _ => r)⟩
      · exact Or.inr ⟨(bm_ff0 q).trans e, u', head (fun z => absurd z q) (fun _ => r)⟩
end MV
