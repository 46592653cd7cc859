set_option maxRecDepth 100000
/-! THE REFERENCE READS THE TEXT -/
section MT
variable {n : Nat} {I J L : Nat → Nat → Int32} {S : bm_S}
def mx_C (I : Nat → Nat → Int32) (S : bm_S) : Prop := I 75 4 = nI S.2.2.2.1 ∧ ∀ j, j < S.2.2.2.1 → I 78 j = nI (S.2.2.2.2 j)
/-- nothing but the parser's own cells changed -/
def mx_z (I J : Nat → Nat → Int32) : Prop := (∀ k, k ≠ 75 → (k < 81 ∨ 83 < k) → J k = I k) ∧ ∀ j, j < 12 → J 75 j = I 75 j
theorem mx_z.rf : mx_z I I := ⟨fun _ _ _ => rfl, fun _ _ => rfl⟩
theorem mx_z.tr (a : mx_z I J) (b : mx_z J L) : mx_z I L := ⟨fun k h1 h2 => (b.1 k h1 h2).trans (a.1 k h1 h2), fun j hj => (b.2 j hj).trans (a.2 j hj)⟩
abbrev mx_u (I : Nat → Nat → Int32) (k : Nat) (x : Int32) : Nat → Nat → Int32 := va_up I 75 (upd (I 75) k x)
theorem mx_z.u {k : Nat} {x : Int32} (a : mx_z I J) (hk : 12 ≤ k) : mx_z I (mx_u J k x) := by
  refine ⟨fun i h1 h2 => (va_up_ne _ _ h1).trans (a.1 i h1 h2), fun j hj => ?_⟩
  show upd (J 75) k x j = _
  unfold upd
  rw [if_neg (by omega)]
  exact a.2 j hj
theorem mx_z.ar {b : Nat} {f : Nat → Int32} (a : mx_z I J) (h1 : 81 ≤ b) (h2 : b ≤ 83) : mx_z I (va_up J b f) :=
  ⟨fun i h3 h4 => (va_up_ne _ _ (by omega)).trans (a.1 i h3 h4), fun j hj => (congrFun (va_up_ne _ _ (by omega)) j).trans (a.2 j hj)⟩
theorem mx_C.z (h : mx_C I S) (a : mx_z I J) : mx_C J S := by
  refine ⟨(a.2 4 (by decide)).trans h.1, fun j hj => ?_⟩
  rw [a.1 78 (by decide) (by decide)]
  exact h.2 j hj
theorem m_isAt (h : mx_C I S) (v : bm_VV S) {lo hi j : Nat} {x y : Int32} (hx : x = nI lo) (hy : y = nI hi) (hl : lo < 1000) (hh : hi < 1000) (hs : I 75 12 = nI j) (hj : j < 1000) : f_X8_isAt [.inr (some 75), .inl x, .inl y] (bm_mk n I) = some (some (.inl (bm_b (tx_in S lo hi j))), bm_mk n I) := by
  subst hx; subst hy
  have h40 := v.2.2.2.1
  refine bm_g u_X8_isAt ?_
  refine bm_le S.2.2.2.1 j h.1 hs (by omega) (by omega) (fun z => ?_) (fun z => ?_)
  · exact bm_ok (bm_b0 (fun q => absurd q.1 (by omega))).symm
  · refine bm_ie (bm_nix (N := 40) hs (by omega) (by decide)) ?_
    have ev : I 78 (I 75 12).toNatClampNeg = nI (S.2.2.2.2 j) := by rw [hs, nI_clamp (by omega)]; exact h.2 j z
    have hv := v.2.2.2.2 j z
    have iff : (nI lo ≤ I 78 (I 75 12).toNatClampNeg ∧ I 78 (I 75 12).toNatClampNeg ≤ nI hi) ↔ tx_in S lo hi j := by
      rw [ev, nI_leI (by omega) (by omega), nI_leI (by omega) (by omega)]
      exact ⟨fun q => ⟨z, q⟩, fun q => q.2⟩
    refine bm_bd m_in (bm_bq (fun q => ?_) (fun q => ?_))
    · exact bm_ok (bm_b1 (iff.mp q)).symm
    · exact bm_ok (bm_b0 (fun t => q (iff.mpr t))).symm
/-- what the reference's reader holds -/
def mx_H (I : Nat → Nat → Int32) (sp re ve ma : Int32) : Prop := I 75 12 = sp ∧ I 75 13 = re ∧ I 75 14 = ve ∧ I 75 15 = ma
def mx_V (J : Nat → Nat → Int32) (S : bm_S) (r m b : Int32) : Prop := (tx_in S 48 57 0 → tx_in S 58 58 (tx_b S) → b = 1 ∧ mx_H J (nI (tx_b S + 1)) r (nI (tx_v S)) m) ∧ (tx_in S 48 57 0 → ¬ tx_in S 58 58 (tx_b S) → b = 0 ∧ ∃ u, mx_H J (nI (tx_b S)) r u m) ∧ (¬ tx_in S 48 57 0 → b = 0 ∧ ∃ u, mx_H J (nI 0) r u m)
/-- the end of the version: the colon -/
theorem m_rv_end {r m : Int32} (hC : mx_C I S) (v : bm_VV S) (c0 : tx_in S 48 57 0) (h : mx_H I (nI (tx_b S)) r (nI (tx_v S)) m) {w : Option bm_V} : ∃ J b, bm_rn z_X8_readsVersion 1000 91 ([some (.inr (some 75)), w], [], bm_mk n I) = some (some (.inl b), bm_mk n J) ∧ mx_z I J ∧ mx_V J S r m b := by
  have hb := tx_b12 (S := S)
  have e := m_isAt (n := n) hC v (lo := 58) (hi := 58) rfl rfl (by decide) (by decide) h.1 (by omega)
  by_cases c1 : tx_in S 58 58 (tx_b S)
  · rw [bm_b1 c1] at e
    refine ⟨mx_u I 12 (I 75 12 + 1), 1, ?_, mx_z.rf.u (by decide), fun _ _ => ⟨rfl, ?_, h.2⟩, fun _ z => absurd c1 z, fun z => absurd c0 z⟩
    · refine bm_bd e ?_
      rfl
    · show I 75 12 + 1 = _
      rw [h.1]
      exact nI_1 _
  · rw [bm_b0 c1] at e
    refine ⟨mx_u I 12 (I 75 12 + 0), 0, ?_, mx_z.rf.u (by decide), fun _ z => absurd z c1, fun _ _ => ⟨rfl, _, ?_, h.2⟩, fun z => absurd c0 z⟩
    · refine bm_bd e ?_
      rfl
    · show I 75 12 + 0 = _
      rw [h.1]
      exact Int32.add_zero _
theorem m_readsVersion {r u m : Int32} (hC : mx_C I S) (v : bm_VV S) (h : mx_H I (nI 0) r u m) : ∃ J b, f_X8_readsVersion [.inr (some 75)] (bm_mk n I) = some (some (.inl b), bm_mk n J) ∧ mx_z I J ∧ mx_V J S r m b := by
  have e0 := m_isAt (n := n) hC v (lo := 48) (hi := 57) rfl rfl (by decide) (by decide) h.1 (by decide)
  by_cases c0 : tx_in S 48 57 0
  · rw [bm_b1 c0] at e0
    have b0 := v.2.2.2.2 0 c0.1
    have ev : I 78 (I 75 12).toNatClampNeg - 48 = nI (S.2.2.2.2 0 - 48) := by
      rw [h.1, nI_clamp (by decide), hC.2 0 c0.1, bm_lit 48]
      exact pk_sub c0.2.1
    have z1 : mx_z I (mx_u (mx_u I 14 (I 78 (I 75 12).toNatClampNeg - 48)) 12 (I 75 12 + 1)) := (mx_z.rf.u (by decide)).u (by decide)
    have h1 : mx_H (mx_u (mx_u I 14 (I 78 (I 75 12).toNatClampNeg - 48)) 12 (I 75 12 + 1)) (nI 1) r (nI (S.2.2.2.2 0 - 48)) m := by
      refine ⟨?_, h.2.1, ev, h.2.2.2⟩
      show I 75 12 + 1 = _
      rw [h.1]
      exact nI_1 _
    have hC1 := hC.z z1
    generalize hJ1 : mx_u (mx_u I 14 (I 78 (I 75 12).toNatClampNeg - 48)) 12 (I 75 12 + 1) = J1 at z1 h1 hC1
    have e1 := m_isAt (n := n) hC1 v (lo := 48) (hi := 57) rfl rfl (by decide) (by decide) h1.1 (by decide)
    by_cases c1 : tx_two S
    · rw [bm_b1 c1.2] at e1
      have hv : tx_v S = (S.2.2.2.2 0 - 48) * 10 + (S.2.2.2.2 1 - 48) := if_pos c1
      have hb : tx_b S = 2 := if_pos c1
      have z2 : mx_z J1 (mx_u (mx_u J1 14 (10 * J1 75 14 + J1 78 (J1 75 12).toNatClampNeg - 48)) 12 (J1 75 12 + 1)) := (mx_z.rf.u (by decide)).u (by decide)
      have h2 : mx_H (mx_u (mx_u J1 14 (10 * J1 75 14 + J1 78 (J1 75 12).toNatClampNeg - 48)) 12 (J1 75 12 + 1)) (nI (tx_b S)) r (nI (tx_v S)) m := by
        refine ⟨?_, h1.2.1, ?_, h1.2.2.2⟩
        · show J1 75 12 + 1 = _
          rw [h1.1, hb]
          exact nI_1 _
        · show 10 * J1 75 14 + J1 78 (J1 75 12).toNatClampNeg - 48 = _
          have := c1.2.2.1
          rw [h1.1, h1.2.2.1, nI_clamp (by decide), hC1.2 1 c1.2.1, hv, bm_lit 10, bm_lit 48, pk_mul, nI_add, pk_sub (by omega)]
          congr 1
          omega
      have hC2 := hC1.z z2
      obtain ⟨J, b, e, z, hV⟩ := m_rv_end (n := n) hC2 v c0 h2 (w := none)
      subst hJ1
      refine ⟨J, b, bm_g u_X8_readsVersion ?_, (z1.tr z2).tr z, hV⟩
      refine bm_bd e0 ?_
      refine bm_ie (bm_nix (N := 40) h.1 (by decide) (by decide)) ?_
      refine bm_le (S.2.2.2.2 0 - 48) 0 ev rfl (by omega) (by decide) (fun t => absurd c1.1.2.1 (by omega)) (fun _ => ?_)
      refine bm_bd e1 ?_
      refine bm_ie (bm_nix (N := 40) h1.1 (by decide) (by decide)) ?_
      exact e
    · have hv : tx_v S = S.2.2.2.2 0 - 48 := if_neg c1
      have hb : tx_b S = 1 := if_neg c1
      rw [← hb, ← hv] at h1
      obtain ⟨J, b, e, z, hV⟩ := m_rv_end (n := n) hC1 v c0 h1 (w := none)
      subst hJ1
      refine ⟨J, b, bm_g u_X8_readsVersion ?_, z1.tr z, hV⟩
      refine bm_bd e0 ?_
      refine bm_ie (bm_nix (N := 40) h.1 (by decide) (by decide)) ?_
      refine bm_le (S.2.2.2.2 0 - 48) 0 ev rfl (by omega) (by decide) (fun _ => ?_) (fun t => ?_)
      · exact e
      · rw [bm_b0 (fun q => c1 ⟨⟨c0.1, by omega, c0.2.2⟩, q⟩)] at e1
        refine bm_bd e1 ?_
        exact e
  · rw [bm_b0 c0] at e0
    refine ⟨I, 0, bm_g u_X8_readsVersion ?_, mx_z.rf, fun z => absurd z c0, fun z => absurd z c0, fun _ => ⟨rfl, u, h⟩⟩
    refine bm_bd e0 ?_
    rfl
end MT
