set_option maxRecDepth 100000
/-! THE REFERENCE: whether the text is a ballot -/
section MB
variable {n : Nat} {I J L : Nat → Nat → Int32} {S : bm_S}
/-- behind isFormed -/
def mx_F (J : Nat → Nat → Int32) (S : bm_S) (r b : Int32) (R : Option Nat × Nat) : Prop := (∀ a, R.1 = some a → b = 0 ∧ ∃ u m, mx_H J (nI a) r u m) ∧ (R.1 = none → b = 1 ∧ (∃ s, mx_H J s r (nI (tx_v S)) (nI R.2)) ∧ mx_A J S R.2)
theorem mx_F.so {r u m b : Int32} {a k : Nat} (hb : b = 0) (h : mx_H J (nI a) r u m) : mx_F J S r b (some a, k) := ⟨fun c e => (by cases e; exact ⟨hb, u, m, h⟩), fun e => (by cases e)⟩
theorem mx_F.no {r b s : Int32} {k : Nat} (hb : b = 1) (h : mx_H J s r (nI (tx_v S)) (nI k)) (a : mx_A J S k) : mx_F J S r b (none, k) := ⟨fun b e => (by cases e), fun _ => ⟨hb, ⟨s, h⟩, a⟩⟩
/-- what the marks still give behind the k-th -/
abbrev mx_R (S : bm_S) (d k : Nat) : Option Nat × Nat := if tx_p S k + 2 = S.2.2.2.1 then (none, k + 1) else if tx_in S 44 44 (tx_p S k + 2) then tx_m S d (k + 1) else (some (tx_p S k + 2), k + 1)
theorem tx_m_0 {d k : Nat} (c0 : ¬ tx_in S 97 102 (tx_p S k)) : tx_m S (d + 1) k = (some (tx_p S k), k) := if_neg c0
theorem tx_m_1 {d k : Nat} (c0 : tx_in S 97 102 (tx_p S k)) (c1 : ¬ tx_in S 48 57 (tx_p S k + 1)) : tx_m S (d + 1) k = (some (tx_p S k + 1), k) := (if_pos c0).trans (if_neg c1)
theorem tx_m_2 {d k : Nat} (c0 : tx_in S 97 102 (tx_p S k)) (c1 : tx_in S 48 57 (tx_p S k + 1)) : tx_m S (d + 1) k = mx_R S d k := (if_pos c0).trans (if_pos c1)
theorem m_formed_loop (v : bm_VV S) {r : Int32} : ∀ (d k : Nat) (o : Nat) (I : Nat → Nat → Int32), mx_C I S → mx_H I (nI (tx_p S k + 2)) r (nI (tx_v S)) (nI (k + 1)) → mx_A I S (k + 1) → tx_in S 48 57 (tx_p S k + 1) → k + 1 + d = 14 → d + 1 < o →
    ∃ J b, bm_rn z_X8_isFormed o 35 ([some (.inr (some 75)), some (.inl 1)], [], bm_mk n I) = some (some (.inl b), bm_mk n J) ∧ mx_z I J ∧ mx_F J S r b (mx_R S d k) := by
  have h40 := v.2.2.2.1
  have hb := tx_b12 (S := S)
  intro d
  induction d with
  | zero =>
    intro k o I hC h hA c1 hk ho
    have := c1.1
    exact absurd this (by unfold tx_p; omega)
  | succ d ih =>
    intro k o I hC h hA c1 hk ho
    obtain ⟨o, rfl⟩ : ∃ q, o = q + 1 := ⟨o - 1, by omega⟩
    have lt := c1.1
    have e0 := m_isAt (n := n) hC v (lo := 44) (hi := 44) rfl rfl (by decide) (by decide) h.1 (by omega)
    by_cases c2 : tx_p S k + 2 = S.2.2.2.1
    · have c3 : ¬ tx_in S 44 44 (tx_p S k + 2) := fun z => absurd z.1 (by omega)
      rw [bm_b0 c3] at e0
      refine ⟨I, 1, ?_, mx_z.rf, by rw [show mx_R S (d + 1) k = (none, k + 1) from if_pos c2]; exact mx_F.no rfl h hA⟩
      refine bm_bd e0 ?_
      refine bm_eq (tx_p S k + 2) S.2.2.2.1 h.1 hC.1 (by omega) (by omega) (fun _ => ?_) (fun z => absurd c2 z)
      rfl
    · by_cases c3 : tx_in S 44 44 (tx_p S k + 2)
      · rw [bm_b1 c3] at e0
        have ep : tx_p S (k + 1) = tx_p S k + 2 + 1 := by unfold tx_p; omega
        have z1 : mx_z I (mx_u I 12 (I 75 12 + 1)) := mx_z.rf.u (by decide)
        have h1 : mx_H (mx_u I 12 (I 75 12 + 1)) (nI (tx_p S (k + 1))) r (nI (tx_v S)) (nI (k + 1)) := by
          refine ⟨?_, h.2⟩
          show I 75 12 + 1 = _
          rw [h.1, ep]
          exact nI_1 _
        have eR : mx_R S (d + 1) k = tx_m S (d + 1) (k + 1) := (if_neg c2).trans (if_pos c3)
        obtain ⟨J, b, e1, z2, hM⟩ := m_readsMark (n := n) (hC.z z1) v h1 hA (by rw [ep]; omega)
        by_cases c4 : tx_in S 97 102 (tx_p S (k + 1))
        · by_cases c5 : tx_in S 48 57 (tx_p S (k + 1) + 1)
          · obtain ⟨rfl, hH, hA2⟩ := hM.1 c4 c5
            obtain ⟨K, b, e', z', hF⟩ := ih (k + 1) o J (hC.z (z1.tr z2)) hH hA2 c5 (by omega) (by omega)
            refine ⟨K, b, ?_, (z1.tr z2).tr z', by rw [eR, tx_m_2 c4 c5]; exact hF⟩
            refine bm_bd e0 ?_
            refine bm_bd e1 ?_
            exact e'
          · obtain ⟨rfl, hH⟩ := hM.2.1 c4 c5
            obtain ⟨o, rfl⟩ : ∃ q, o = q + 1 := ⟨o - 1, by omega⟩
            refine ⟨J, 0, ?_, z1.tr z2, by rw [eR, tx_m_1 c4 c5]; exact mx_F.so rfl hH⟩
            refine bm_bd e0 ?_
            refine bm_bd e1 ?_
            rfl
        · obtain ⟨rfl, hH⟩ := hM.2.2 c4
          obtain ⟨o, rfl⟩ : ∃ q, o = q + 1 := ⟨o - 1, by omega⟩
          refine ⟨J, 0, ?_, z1.tr z2, by rw [eR, tx_m_0 c4]; exact mx_F.so rfl hH⟩
          refine bm_bd e0 ?_
          refine bm_bd e1 ?_
          rfl
      · rw [bm_b0 c3] at e0
        refine ⟨I, 0, ?_, mx_z.rf, by rw [show mx_R S (d + 1) k = (some (tx_p S k + 2), k + 1) from (if_neg c2).trans (if_neg c3)]; exact mx_F.so rfl h⟩
        refine bm_bd e0 ?_
        refine bm_eq (tx_p S k + 2) S.2.2.2.1 h.1 hC.1 (by omega) (by omega) (fun z => absurd z c2) (fun _ => ?_)
        rfl
theorem m_isFormed {r : Int32} (hC : mx_C I S) (v : bm_VV S) (h13 : I 75 13 = r) : ∃ J b, f_X8_isFormed [.inr (some 75)] (bm_mk n I) = some (some (.inl b), bm_mk n J) ∧ mx_z I J ∧ mx_F J S r b (tx_e S) := by
  have h40 := v.2.2.2.1
  have hb := tx_b12 (S := S)
  have z0 : mx_z I (mx_u (mx_u I 12 0) 15 0) := (mx_z.rf.u (by decide)).u (by decide)
  have h0 : mx_H (mx_u (mx_u I 12 0) 15 0) (nI 0) r (I 75 14) (nI 0) := ⟨rfl, h13, rfl, rfl⟩
  obtain ⟨J, b, e0, z1, hV⟩ := m_readsVersion (n := n) (hC.z z0) v h0
  have hCJ := hC.z (z0.tr z1)
  by_cases c0 : tx_in S 48 57 0
  · by_cases c1 : tx_in S 58 58 (tx_b S)
    · obtain ⟨rfl, hH⟩ := hV.1 c0 c1
      have lt := c1.1
      have ee := tx_e_no c0 c1
      have hA : mx_A J S 0 := fun i hi => absurd hi (by omega)
      by_cases c2 : tx_b S + 1 = S.2.2.2.1
      · rw [if_pos c2] at ee
        refine ⟨J, 1, bm_g u_X8_isFormed ?_, z0.tr z1, by rw [ee]; exact mx_F.no rfl hH hA⟩
        refine bm_bd e0 ?_
        refine bm_le S.2.2.2.1 (tx_b S + 1) hCJ.1 hH.1 (by omega) (by omega) (fun _ => ?_) (fun z => absurd z (by omega))
        refine bm_eq (tx_b S + 1) S.2.2.2.1 hH.1 hCJ.1 (by omega) (by omega) (fun _ => ?_) (fun z => absurd c2 z)
        rfl
      · rw [if_neg c2] at ee
        obtain ⟨K, b, e1, z2, hM⟩ := m_readsMark (n := n) (k := 0) hCJ v hH hA (by unfold tx_p; omega)
        by_cases c4 : tx_in S 97 102 (tx_p S 0)
        · by_cases c5 : tx_in S 48 57 (tx_p S 0 + 1)
          · obtain ⟨rfl, hH2, hA2⟩ := hM.1 c4 c5
            obtain ⟨L, b, e', z', hF⟩ := m_formed_loop (n := n) v 13 0 1000 K (hC.z ((z0.tr z1).tr z2)) hH2 hA2 c5 (by omega) (by omega)
            refine ⟨L, b, bm_g u_X8_isFormed ?_, ((z0.tr z1).tr z2).tr z', by rw [ee, tx_m_2 c4 c5]; exact hF⟩
            refine bm_bd e0 ?_
            refine bm_le S.2.2.2.1 (tx_b S + 1) hCJ.1 hH.1 (by omega) (by omega) (fun z => absurd z (by omega)) (fun _ => ?_)
            refine bm_bd e1 ?_
            exact e'
          · obtain ⟨rfl, hH2⟩ := hM.2.1 c4 c5
            refine ⟨K, 0, bm_g u_X8_isFormed ?_, (z0.tr z1).tr z2, by rw [ee, tx_m_1 c4 c5]; exact mx_F.so rfl hH2⟩
            refine bm_bd e0 ?_
            refine bm_le S.2.2.2.1 (tx_b S + 1) hCJ.1 hH.1 (by omega) (by omega) (fun z => absurd z (by omega)) (fun _ => ?_)
            refine bm_bd e1 ?_
            rfl
        · obtain ⟨rfl, hH2⟩ := hM.2.2 c4
          refine ⟨K, 0, bm_g u_X8_isFormed ?_, (z0.tr z1).tr z2, by rw [ee, tx_m_0 c4]; exact mx_F.so rfl hH2⟩
          refine bm_bd e0 ?_
          refine bm_le S.2.2.2.1 (tx_b S + 1) hCJ.1 hH.1 (by omega) (by omega) (fun z => absurd z (by omega)) (fun _ => ?_)
          refine bm_bd e1 ?_
          rfl
    · obtain ⟨rfl, u, hH⟩ := hV.2.1 c0 c1
      refine ⟨J, 0, bm_g u_X8_isFormed ?_, z0.tr z1, by rw [show tx_e S = (some (tx_b S), 0) from (if_pos c0).trans (if_neg c1)]; exact mx_F.so rfl hH⟩
      refine bm_bd e0 ?_
      rfl
  · obtain ⟨rfl, u, hH⟩ := hV.2.2 c0
    refine ⟨J, 0, bm_g u_X8_isFormed ?_, z0.tr z1, by rw [show tx_e S = (some 0, 0) from if_neg c0]; exact mx_F.so rfl hH⟩
    refine bm_bd e0 ?_
    rfl
theorem m_twice_loop {m i : Nat} (hA : mx_A I S m) (hB : tx_B S m) (hi : i < m) : ∀ (d j : Nat) (x y : Int32) (o : Nat), x = nI j → bm_tv y (∃ l, l < j ∧ (tx_c S l = tx_c S i ∧ tx_q S l = tx_q S i)) → j + d = i → d < o →
    bm_rn z_X8_isTwice o 4 ([some (.inr (some 75)), some (.inl (nI i)), some (.inl y), some (.inl x)], [], bm_mk n I) = some (some (.inl (bm_b (tx_tw S i))), bm_mk n I) := by
  obtain ⟨-, -, hv, hm, hb, -⟩ := hB
  obtain ⟨a1, a2, a3⟩ := hA i hi
  have b1 := hb i hi
  intro d
  induction d with
  | zero =>
    intro j x y o hx hy hj ho
    obtain ⟨o, rfl⟩ : ∃ q, o = q + 1 := ⟨o - 1, by omega⟩
    have hj : j = i := by omega
    subst hj; subst hx
    refine bm_it (Int32.le_refl _) ?_
    rcases hy with ⟨rfl, q⟩ | ⟨rfl, q⟩
    · exact bm_ok (bm_b1 q).symm
    · exact bm_ok (bm_b0 q).symm
  | succ d ih =>
    intro j x y o hx hy hj ho
    obtain ⟨o, rfl⟩ : ∃ q, o = q + 1 := ⟨o - 1, by omega⟩
    subst hx
    obtain ⟨c1, c2, c3⟩ := hA j (by omega)
    have b2 := hb j (by omega)
    have r1 : I 82 (nI j).toNatClampNeg = nI (tx_c S j) := by rw [nI_clamp (by omega)]; exact c1
    have r2 : I 82 (nI i).toNatClampNeg = nI (tx_c S i) := by rw [nI_clamp (by omega)]; exact a1
    have r3 : I 83 (nI j).toNatClampNeg = nI (tx_q S j) := by rw [nI_clamp (by omega)]; exact c2
    have r4 : I 83 (nI i).toNatClampNeg = nI (tx_q S i) := by rw [nI_clamp (by omega)]; exact a2
    refine bm_le i j rfl rfl (by omega) (by omega) (fun z => absurd z (by omega)) (fun _ => ?_)
    rcases hy with ⟨rfl, q⟩ | ⟨rfl, q⟩
    · refine ih (j + 1) _ _ o (nI_1 j) (Or.inl ⟨rfl, ?_⟩) (by omega) (by omega)
      obtain ⟨l, l1, l2⟩ := q
      exact ⟨l, by omega, l2⟩
    · refine bm_ie (bm_nix (N := 20) (k := j) rfl (by omega) (by decide)) ?_
      refine bm_ie (bm_nix (N := 20) (k := i) rfl (by omega) (by decide)) ?_
      refine bm_eq (tx_c S j) (tx_c S i) r1 r2 (by omega) (by omega) (fun q1 => ?_) (fun q1 => ?_)
      · refine bm_ie (bm_nix (N := 20) (k := j) rfl (by omega) (by decide)) ?_
        refine bm_ie (bm_nix (N := 20) (k := i) rfl (by omega) (by decide)) ?_
        refine bm_eq (tx_q S j) (tx_q S i) r3 r4 (by omega) (by omega) (fun q2 => ?_) (fun q2 => ?_)
        · exact ih (j + 1) _ _ o (nI_1 j) (Or.inl ⟨rfl, j, by omega, q1, q2⟩) (by omega) (by omega)
        · refine ih (j + 1) _ _ o (nI_1 j) (Or.inr ⟨rfl, ?_⟩) (by omega) (by omega)
          rintro ⟨l, l1, l2, l3⟩
          by_cases e : l = j
          · subst e; exact q2 l3
          · exact q ⟨l, by omega, l2, l3⟩
      · refine ih (j + 1) _ _ o (nI_1 j) (Or.inr ⟨rfl, ?_⟩) (by omega) (by omega)
        rintro ⟨l, l1, l2, l3⟩
        by_cases e : l = j
        · subst e; exact q1 l2
        · exact q ⟨l, by omega, l2, l3⟩
theorem m_isTwice {m i : Nat} (hA : mx_A I S m) (hB : tx_B S m) (hi : i < m) {x : Int32} (hx : x = nI i) : f_X8_isTwice [.inr (some 75), .inl x] (bm_mk n I) = some (some (.inl (bm_b (tx_tw S i))), bm_mk n I) := by
  subst hx
  exact bm_g u_X8_isTwice (m_twice_loop hA hB hi i 0 0 0 1000 rfl (Or.inr ⟨rfl, fun z => z.elim fun l q => absurd q.1 (by omega)⟩) (by omega) (by have := hB.2.2.2.1; omega))
end MB
