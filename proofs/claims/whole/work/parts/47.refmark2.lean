set_option maxRecDepth 100000
section MT
variable {n : Nat} {I J L : Nat → Nat → Int32} {S : bm_S}
/-- the marks below k stand in the reference -/
def mx_A (I : Nat → Nat → Int32) (S : bm_S) (k : Nat) : Prop := ∀ i, i < k → I 82 i = nI (tx_c S i) ∧ I 83 i = nI (tx_q S i) ∧ I 81 i = nI (tx_p S i)
/-- behind a mark's reading -/
def mx_M (J : Nat → Nat → Int32) (S : bm_S) (k : Nat) (r u b : Int32) : Prop := (tx_in S 97 102 (tx_p S k) → tx_in S 48 57 (tx_p S k + 1) → b = 1 ∧ mx_H J (nI (tx_p S k + 2)) r u (nI (k + 1)) ∧ mx_A J S (k + 1)) ∧ (tx_in S 97 102 (tx_p S k) → ¬ tx_in S 48 57 (tx_p S k + 1) → b = 0 ∧ mx_H J (nI (tx_p S k + 1)) r u (nI k)) ∧ (¬ tx_in S 97 102 (tx_p S k) → b = 0 ∧ mx_H J (nI (tx_p S k)) r u (nI k))
theorem mx_A.nx {k : Nat} {x y z : Int32} {i1 i2 i3 : Nat} (hA : mx_A I S k) (e2 : J 82 = upd (I 82) i1 x) (e3 : J 83 = upd (I 83) i2 y) (e1 : J 81 = upd (I 81) i3 z) (k1 : i1 = k) (k2 : i2 = k) (k3 : i3 = k) (hx : x = nI (tx_c S k)) (hy : y = nI (tx_q S k)) (hz : z = nI (tx_p S k)) : mx_A J S (k + 1) := by
  rw [k1] at e2; rw [k2] at e3; rw [k3] at e1
  intro i hi
  rw [e2, e3, e1]
  unfold upd
  by_cases q : i = k
  · subst q
    rw [if_pos rfl, if_pos rfl, if_pos rfl]
    exact ⟨hx, hy, hz⟩
  · rw [if_neg q, if_neg q, if_neg q]
    exact hA i (by omega)
theorem m_readsMark {r u : Int32} {k : Nat} (hC : mx_C I S) (v : bm_VV S) (h : mx_H I (nI (tx_p S k)) r u (nI k)) (hA : mx_A I S k) (hp : tx_p S k < 900) : ∃ J b, f_X8_readsMark [.inr (some 75)] (bm_mk n I) = some (some (.inl b), bm_mk n J) ∧ mx_z I J ∧ mx_M J S k r u b := by
  have h40 := v.2.2.2.1
  have e0 := m_isAt (n := n) hC v (lo := 97) (hi := 102) rfl rfl (by decide) (by decide) h.1 (by omega)
  by_cases c0 : tx_in S 97 102 (tx_p S k)
  · rw [bm_b1 c0] at e0
    have z1 : mx_z I (mx_u I 12 (I 75 12 + 1)) := mx_z.rf.u (by decide)
    have h1 : mx_H (mx_u I 12 (I 75 12 + 1)) (nI (tx_p S k + 1)) r u (nI k) := by
      refine ⟨?_, h.2⟩
      show I 75 12 + 1 = _
      rw [h.1]
      exact nI_1 _
    have hC1 := hC.z z1
    have e1 := m_isAt (n := n) hC1 v (lo := 48) (hi := 57) rfl rfl (by decide) (by decide) h1.1 (by omega)
    by_cases c1 : tx_in S 48 57 (tx_p S k + 1)
    · rw [bm_b1 c1] at e1
      have lt := c1.1
      have hk : k < 13 := by unfold tx_p at lt; omega
      suffices H : ∃ J, bm_rn z_X8_readsMark 1000 0 ([some (.inr (some 75)), none], [], bm_mk n I) = some (some (.inl 1), bm_mk n J) ∧ mx_z I J ∧ mx_H J (nI (tx_p S k + 2)) r u (nI (k + 1)) ∧ mx_A J S (k + 1) from by
        obtain ⟨J, e, z, f⟩ := H
        exact ⟨J, 1, bm_g u_X8_readsMark e (by rfl) (Nat.le_refl _) (Nat.le_refl _), z, fun _ _ => ⟨rfl, f⟩, fun _ z => absurd c1 z, fun z => absurd c0 z⟩
      refine ⟨?L1, ?w1, ?a1, ?b1, ?c1⟩
      case w1 =>
        refine bm_bd e0 ?_
        refine bm_bd e1 ?_
        refine bm_ie (bm_nix (N := 20) h.2.2.2 (by omega) (by decide)) ?_
        refine bm_ie (bm_nix (N := 40) h.1 (by omega) (by decide)) ?_
        refine bm_ie (bm_nix (N := 20) h.2.2.2 (by omega) (by decide)) ?_
        refine bm_ie (bm_nix (N := 40) h1.1 (by omega) (by decide)) ?_
        refine bm_ie (bm_nix (N := 20) h.2.2.2 (by omega) (by decide)) ?_
        rfl
      case a1 => exact (((((z1.ar (by decide) (by decide)).ar (by decide) (by decide)).ar (by decide) (by decide)).u (by decide)).u (by decide))
      case b1 =>
        refine ⟨?_, h.2.1, h.2.2.1, ?_⟩
        · show I 75 12 + 1 + 1 = _
          rw [h.1, nI_1, nI_1]
        · show I 75 15 + 1 = _
          rw [h.2.2.2]
          exact nI_1 _
      case c1 =>
        have ck : (I 75 15).toNatClampNeg = k := by rw [h.2.2.2]; exact nI_clamp (by omega)
        have cp : (I 75 12).toNatClampNeg = tx_p S k := by rw [h.1]; exact nI_clamp (by omega)
        have cq : (I 75 12 + 1).toNatClampNeg = tx_p S k + 1 := by rw [h.1, nI_1]; exact nI_clamp (by omega)
        refine hA.nx rfl rfl rfl ck ck ck ?_ ?_ h.1
        · show I 78 (I 75 12).toNatClampNeg - 97 = _
          rw [cp, hC.2 _ c0.1, bm_lit 97]
          exact pk_sub c0.2.1
        · show I 78 (I 75 12 + 1).toNatClampNeg - 48 = _
          rw [cq, hC.2 _ c1.1, bm_lit 48]
          exact pk_sub c1.2.1
    · rw [bm_b0 c1] at e1
      refine ⟨mx_u I 12 (I 75 12 + 1), 0, bm_g u_X8_readsMark ?_, z1, fun _ z => absurd z c1, fun _ _ => ⟨rfl, h1⟩, fun z => absurd c0 z⟩
      refine bm_bd e0 ?_
      refine bm_bd e1 ?_
      rfl
  · rw [bm_b0 c0] at e0
    refine ⟨I, 0, bm_g u_X8_readsMark ?_, mx_z.rf, fun z => absurd z c0, fun z => absurd z c0, fun _ => ⟨rfl, h⟩⟩
    refine bm_bd e0 ?_
    rfl
end MT
