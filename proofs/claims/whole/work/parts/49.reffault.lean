set_option maxRecDepth 100000
/-! THE REFERENCE: fault -/
section MF
variable {n : Nat} {I J L : Nat → Nat → Int32} {S : bm_S}
def mx_Q (J : Nat → Nat → Int32) (S : bm_S) (m : Nat) (b : Int32) (G : Option (Nat × Nat)) : Prop := (∀ r a, G = some (r, a) → b = 0 ∧ J 75 12 = nI a ∧ J 75 13 = nI r) ∧ (G = none → b = 1 ∧ (∃ s, mx_H J s (nI 0) (nI (tx_v S)) (nI m)) ∧ mx_A J S m)
theorem mx_Q.so {m r a : Nat} {b : Int32} (hb : b = 0) (h1 : J 75 12 = nI a) (h2 : J 75 13 = nI r) : mx_Q J S m b (some (r, a)) := ⟨fun c e q => (by cases q; exact ⟨hb, h1, h2⟩), fun e => (by cases e)⟩
theorem m_right_end {m r : Nat} (h13 : I 75 13 = nI r) (hr : 1 ≤ r ∧ r ≤ 4) {x : Int32} (o : Nat) : bm_rn z_X8_isRight (o + 1) 42 ([some (.inr (some 75)), some (.inl x)], [], bm_mk n I) = some (some (.inl 0), bm_mk n I) := by
  have ne : ¬ I 75 13 = 0 := by rw [h13]; exact nI_ne0 (by omega) (by omega)
  refine bm_if (fun _ => ?_) (fun _ => ?_)
  · refine bm_ie ne ?_
    rfl
  · refine bm_ie ne ?_
    refine bm_ie ne ?_
    rfl
theorem m_right_loop {m : Nat} (v : bm_VV S) (hB : tx_B S m) : ∀ (d k : Nat) (x s : Int32) (o : Nat) (I : Nat → Nat → Int32), bm_s I S.1 → mx_H I s (nI 0) (nI (tx_v S)) (nI m) → mx_A I S m → x = nI k → k + d = m → d + 1 < o →
    ∃ J b, bm_rn z_X8_isRight o 42 ([some (.inr (some 75)), some (.inl x)], [], bm_mk n I) = some (some (.inl b), bm_mk n J) ∧ mx_z I J ∧ mx_Q J S m b (tx_j S d k) := by
  obtain ⟨-, -, hv, hm, hb, -⟩ := id hB
  intro d
  induction d with
  | zero =>
    intro k x s o I hs h hA hx hk ho
    obtain ⟨o, rfl⟩ : ∃ q, o = q + 1 := ⟨o - 1, by omega⟩
    have hk : k = m := by omega
    subst hk; subst hx
    refine ⟨I, 1, ?_, mx_z.rf, fun r a e => (by cases e), fun _ => ⟨rfl, ⟨s, h⟩, hA⟩⟩
    refine bm_it (by show I 75 15 ≤ _; rw [h.2.2.2]; exact Int32.le_refl _) ?_
    refine bm_it h.2.1 ?_
    rfl
  | succ d ih =>
    intro k x s o I hs h hA hx hk ho
    obtain ⟨o, rfl⟩ : ∃ q, o = q + 1 := ⟨o - 1, by omega⟩
    subst hx
    have b1 := hb k (by omega)
    have ck : (nI k).toNatClampNeg = k := nI_clamp (by omega)
    obtain ⟨a1, a2, a3⟩ := hA k (by omega)
    have z1 : mx_z I (mx_u I 12 (I 81 (nI k).toNatClampNeg)) := mx_z.rf.u (by decide)
    have hs1 : bm_s (mx_u I 12 (I 81 (nI k).toNatClampNeg)) S.1 := hs
    have hA1 : mx_A (mx_u I 12 (I 81 (nI k).toNatClampNeg)) S m := hA
    have e1 := m_isName (n := n) hs1 v.1 (x := I 82 (nI k).toNatClampNeg) (y := I 83 (nI k).toNatClampNeg)
    have e2 := m_isTwice (n := n) hA1 hB (i := k) (by omega) rfl
    have iff : ((0 ≤ I 82 (nI k).toNatClampNeg ∧ I 82 (nI k).toNatClampNeg < nI (S.1 0)) ∧ 0 ≤ I 83 (nI k).toNatClampNeg ∧ I 83 (nI k).toNatClampNeg < nI (S.1 (35 + 6 * (I 82 (nI k).toNatClampNeg).toNatClampNeg))) ↔ ¬ tx_no S k := by
      have h6 := v.1.1
      have h8 := (v.1.2.2.2.2.2.2.2.2.2.1 (tx_c S k) (by omega)).2.2.2
      rw [ck, a1, a2, nI_clamp (by omega), Decidable.not_not]
      refine ⟨fun z => ⟨(nI_ltI (by omega) (by omega)).mp z.1.2, (nI_ltI (by omega) (by omega)).mp z.2.2⟩, fun z => ⟨bm_of_k (by omega) z.1, bm_of_k (by omega) z.2⟩⟩
    by_cases c1 : tx_no S k
    · rw [bm_b0 (fun z => iff.mp z c1)] at e1
      obtain ⟨o, rfl⟩ : ∃ q, o = q + 1 := ⟨o - 1, by omega⟩
      refine ⟨mx_u (mx_u I 12 (I 81 (nI k).toNatClampNeg)) 13 3, 0, ?_, z1.u (by decide), by rw [show tx_j S (d + 1) k = some (3, tx_p S k) from if_pos c1]; exact mx_Q.so rfl (by show I 81 (nI k).toNatClampNeg = _; rw [ck]; exact a3) rfl⟩
      refine bm_le m k h.2.2.2 rfl (by omega) (by omega) (fun z => absurd z (by omega)) (fun _ => ?_)
      refine bm_it h.2.1 ?_
      refine bm_ie (bm_nix (N := 20) (k := k) rfl (by omega) (by decide)) ?_
      refine bm_ie (bm_nix (N := 20) (k := k) rfl (by omega) (by decide)) ?_
      refine bm_ie (bm_nix (N := 20) (k := k) rfl (by omega) (by decide)) ?_
      refine bm_bd e1 ?_
      exact m_right_end (m := m) (r := 3) rfl (by decide) o
    · rw [bm_b1 (iff.mpr c1)] at e1
      by_cases c2 : tx_tw S k
      · rw [bm_b1 c2] at e2
        obtain ⟨o, rfl⟩ : ∃ q, o = q + 1 := ⟨o - 1, by omega⟩
        refine ⟨mx_u (mx_u I 12 (I 81 (nI k).toNatClampNeg)) 13 4, 0, ?_, z1.u (by decide), by rw [show tx_j S (d + 1) k = some (4, tx_p S k) from (if_neg c1).trans (if_pos c2)]; exact mx_Q.so rfl (by show I 81 (nI k).toNatClampNeg = _; rw [ck]; exact a3) rfl⟩
        refine bm_le m k h.2.2.2 rfl (by omega) (by omega) (fun z => absurd z (by omega)) (fun _ => ?_)
        refine bm_it h.2.1 ?_
        refine bm_ie (bm_nix (N := 20) (k := k) rfl (by omega) (by decide)) ?_
        refine bm_ie (bm_nix (N := 20) (k := k) rfl (by omega) (by decide)) ?_
        refine bm_ie (bm_nix (N := 20) (k := k) rfl (by omega) (by decide)) ?_
        refine bm_bd e1 ?_
        refine bm_bd e2 ?_
        exact m_right_end (m := m) (r := 4) rfl (by decide) o
      · rw [bm_b0 c2] at e2
        obtain ⟨J, b, e, z, hQ⟩ := ih (k + 1) (nI k + 1) (I 81 (nI k).toNatClampNeg) o (mx_u (mx_u I 12 (I 81 (nI k).toNatClampNeg)) 13 0) hs1 ⟨rfl, rfl, h.2.2.1, h.2.2.2⟩ hA1 (nI_1 k) (by omega) (by omega)
        refine ⟨J, b, ?_, (z1.u (by decide)).tr z, by rw [show tx_j S (d + 1) k = tx_j S d (k + 1) from (if_neg c1).trans (if_neg c2)]; exact hQ⟩
        refine bm_le m k h.2.2.2 rfl (by omega) (by omega) (fun z => absurd z (by omega)) (fun _ => ?_)
        refine bm_it h.2.1 ?_
        refine bm_ie (bm_nix (N := 20) (k := k) rfl (by omega) (by decide)) ?_
        refine bm_ie (bm_nix (N := 20) (k := k) rfl (by omega) (by decide)) ?_
        refine bm_ie (bm_nix (N := 20) (k := k) rfl (by omega) (by decide)) ?_
        refine bm_bd e1 ?_
        refine bm_bd e2 ?_
        exact e
theorem bm_RM.z (h : bm_RM I S) (a : mx_z I J) : bm_RM J S := by
  obtain ⟨hs, hp, hq, ht, hT⟩ := h
  refine ⟨fun k hk => ?_, (a.2 2 (by decide)).trans hp, fun j hj k hk => ?_, (a.2 4 (by decide)).trans ht, fun j hj => ?_⟩
  · rw [a.1 76 (by decide) (by decide)]; exact hs k hk
  · rw [a.1 77 (by decide) (by decide)]; exact hq j hj k hk
  · rw [a.1 78 (by decide) (by decide)]; exact hT j hj
theorem bm_RM.txt (h : bm_RM I S) : mx_C I S := ⟨h.2.2.2.1, h.2.2.2.2⟩
theorem mx_z.fz (a : mx_z I J) : bm_fz I J 75 83 := fun k hk => a.1 k (by omega) (by omega)
theorem m_isRight (h : bm_RM I S) (v : bm_VV S) : ∃ J b, f_X8_isRight [.inr (some 75)] (bm_mk n I) = some (some (.inl b), bm_mk n J) ∧ mx_z I J ∧ mx_Q J S (tx_e S).2 b (tx_f S) := by
  have z0 : mx_z I (mx_u I 13 1) := mx_z.rf.u (by decide)
  obtain ⟨J, b, e0, z1, hF⟩ := m_isFormed (n := n) (r := 1) (h.txt.z z0) v rfl
  have z01 := z0.tr z1
  cases hE : (tx_e S).1 with
  | some a =>
    obtain ⟨rfl, u, w, hH⟩ := hF.1 a hE
    refine ⟨J, 0, bm_g u_X8_isRight ?_, z01, by rw [tx_f_so (show tx_e S = (some a, (tx_e S).2) by rw [← hE])]; exact mx_Q.so rfl hH.1 hH.2.1⟩
    refine bm_bd e0 ?_
    rfl
  | none =>
    obtain ⟨rfl, ⟨s, hH⟩, hA⟩ := hF.2 hE
    have hE2 : tx_e S = (none, (tx_e S).2) := by rw [← hE]
    have hB := tx_e_ok v hE2
    have hm := hB.2.2.2.1
    have hv := hB.2.2.1
    rw [tx_f_no hE2]
    generalize (tx_e S).2 = m at hH hA hB hm
    have z2 : mx_z J (mx_u J 13 0) := mx_z.rf.u (by decide)
    have hR := h.z (z01.tr z2)
    have h7 := v.1.2.2.2.2.2.2.2.1
    have e1 := m_isVersion (n := n) hR.1 (x := J 75 14)
    by_cases c1 : tx_v S < S.1 7
    · rw [bm_b1 (by rw [hH.2.2.1]; exact bm_of_k (by omega) c1)] at e1
      obtain ⟨K, b, e, z, hQ⟩ := m_right_loop (n := n) v hB m 0 0 s 1000 (mx_u J 13 0) hR.1 ⟨hH.1, rfl, hH.2.2⟩ hA rfl (by omega) (by omega)
      refine ⟨K, b, bm_g u_X8_isRight ?_, (z01.tr z2).tr z, by rw [show tx_g S m = tx_j S m 0 from if_pos c1]; exact hQ⟩
      refine bm_bd e0 ?_
      refine bm_bd e1 ?_
      exact e
    · rw [bm_b0 (by rw [hH.2.2.1]; exact fun t => c1 ((nI_ltI (by omega) (by omega)).mp t.2))] at e1
      refine ⟨mx_u (mx_u (mx_u J 13 0) 12 0) 13 2, 0, bm_g u_X8_isRight ?_, ((z01.tr z2).u (by decide)).u (by decide), by rw [show tx_g S m = some (2, 0) from if_neg c1]; exact mx_Q.so rfl rfl rfl⟩
      refine bm_bd e0 ?_
      refine bm_bd e1 ?_
      exact m_right_end (m := m) (r := 2) rfl (by decide) 999
theorem m_fault (h : bm_RM I S) (v : bm_VV S) (x : Int32) : bm_mp n I (f_X8_fault [.inr (some 75), .inl x]) (sp_fault S x, S) := by
  by_cases c1 : 0 ≤ x ∧ x ≤ 1
  · obtain ⟨J, b, e, z, hQ⟩ := m_isRight (n := n) h v
    refine ⟨J, bm_g u_X8_fault ?_, h.z z, z.fz⟩
    refine bm_bd m_in (bm_bq (fun _ => ?_) (fun z => absurd c1 z))
    cases hf : tx_f S with
    | none =>
      obtain ⟨rfl, -⟩ := hQ.2 hf
      have e0 : sp_fault S x = -4 := by unfold sp_fault; rw [if_pos c1, hf]
      refine bm_bd e ?_
      exact bm_ok e0.symm
    | some ra =>
      obtain ⟨r, a⟩ := ra
      obtain ⟨rfl, h5, h6⟩ := hQ.1 r a hf
      have e0 : sp_fault S x = if x = 0 then nI a else nI r := by unfold sp_fault; rw [if_pos c1, hf]
      refine bm_bd e ?_
      refine bm_if (fun hx => ?_) (fun hx => ?_)
      · exact bm_ok (h5.trans (e0.trans (if_pos hx)).symm)
      · exact bm_ok (h6.trans (e0.trans (if_neg hx)).symm)
  · have e0 : sp_fault S x = -1 := if_neg c1
    rw [e0]
    refine bm_mp.rd h (bm_g u_X8_fault ?_)
    exact bm_bd m_in (bm_bq (fun z => absurd z c1) (fun _ => bm_ok rfl))
end MF
