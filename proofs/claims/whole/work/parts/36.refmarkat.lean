set_option maxRecDepth 100000
/-! markAt: the reference, whole -/
section MX
variable {n : Nat} {I : Nat → Nat → Int32} {F : Nat → Nat} {S : bm_S}
theorem m_mark_loop (hS : bm_s I F) (hV : bm_V' F) {W v : Nat} (hW : 8 ≤ W) (rL : ly_R I (ly_a F W v (F 0)) (ly_D F (F 0))) {x ln w : Int32} {P C : Nat} (hP : P < (ly_a F W v (F 0)).1) (hC : C < F 2) : ∀ (d c : Nat) (y : Int32) (u8 u9 : Option bm_V) (o : Nat), y = nI c → c + d = F 0 → 9 * d < o →
    bm_rn z_X8_markAt o 67 ([some (.inr (some 75)), some (.inl x), some (.inl (nI P)), some (.inl (nI C)), some (.inl ln), some (.inl w), some (.inl (nI (ly_a F W v (F 0)).1)), some (.inl y), u8, u9], [], bm_mk n I) = some (some (.inl (bm_mo F (ly_a F W v (F 0)) (nI P) (nI C) ln w d c)), bm_mk n I) := by
  have h6 := hV.1
  have ok := (ly_a_ok hV hW (v := v) (F 0) hV.1).1
  intro d
  induction d with
  | zero =>
    intro c y u8 u9 o hy hi ho
    obtain ⟨o, rfl⟩ : ∃ q, o = q + 1 := ⟨o - 1, by omega⟩
    subst hy
    refine bm_le (F 0) c (hS 0 (by decide)) rfl (by omega) (by omega) (fun _ => ?_) (fun z => absurd z (by omega))
    rfl
  | succ d ih =>
    intro c y u8 u9 o hy hi ho
    have h8 := (hV.2.2.2.2.2.2.2.2.2.1 c (by omega)).2.2.2
    obtain ⟨o, rfl⟩ : ∃ q, o = q + F (35 + 6 * c) + 1 := ⟨o - F (35 + 6 * c) - 1, by omega⟩
    subst hy
    have key := m_mark_in (n := n) hS hV hW rL (x := x) (cols := nI (ly_a F W v (F 0)).1) (ln := ln) (w := w) (show P < 1000 by omega) hC (show c < F 0 by omega) (F (35 + 6 * c)) 0 0 u9 o rfl (by omega)
    refine bm_le (F 0) c (hS 0 (by decide)) rfl (by omega) (by omega) (fun z => absurd z (by omega)) (fun _ => ?_)
    refine bm_le (ly_a F W v (F 0)).1 P rfl rfl (by omega) (by omega) (fun z => absurd z (by omega)) (fun _ => ?_)
    rcases key with ⟨k, e, r⟩ | ⟨e, u', r⟩
    · exact r.trans (bm_ok (bm_mo1 (w := w) (d := d) e).symm)
    · exact r.trans ((ih (c + 1) _ _ _ o (nI_1 c) (by omega) (by omega)).trans (bm_ok (bm_mo0 (w := w) (d := d) e).symm))
theorem m_markAt (h : bm_RM I S) (v : bm_VV S) (x pg cl ln w : Int32) : bm_mp n I (f_X8_markAt [.inr (some 75), .inl x, .inl pg, .inl cl, .inl ln, .inl w]) (sp_markAt S x pg cl ln w, S) := by
  have hs := h.1
  have hV := v.1
  have h6 := hV.1
  have h7 := hV.2.2.2.2.2.2.2.1
  have h4 := hV.2.2.2.2.1
  have h2 := hV.2.2.1
  have e2 : I 76 2 = nI (S.1 2) := hs 2 (by decide)
  have e3 : I 76 3 = nI (S.1 3) := hs 3 (by decide)
  unfold sp_markAt
  by_cases c1 : ((0 ≤ x ∧ x < nI (S.1 7)) ∧ 0 ≤ pg ∧ nI 0 ≤ w ∧ w ≤ nI 1) ∧ (nI 0 ≤ cl ∧ cl ≤ nI (S.1 2) - 1) ∧ nI 0 ≤ ln ∧ ln ≤ nI (S.1 3) - 1
  · rw [if_pos c1]
    have c2 : nI 0 ≤ cl ∧ cl ≤ I 76 2 - 1 := by rw [e2]; exact c1.2.1
    have c3 : nI 0 ≤ ln ∧ ln ≤ I 76 3 - 1 := by rw [e3]; exact c1.2.2
    obtain ⟨a, a1, rfl⟩ := bm_k_of (by omega) c1.1.1
    rw [nI_clamp (show a < 2 ^ 31 by omega)]
    obtain ⟨C, hC, rfl⟩ := bm_k_of (m := S.1 2) (by omega) ((bm_nle (by omega)).mp c1.2.1)
    obtain ⟨P, hP, rfl⟩ := nI_of (Int32.not_lt.mpr c1.1.2.1)
    have ok := (ly_a_ok hV h4.1 (v := a) (S.1 0) hV.1).1
    obtain ⟨L, e, fL, rL⟩ := m_lays (n := n) hs hV (v := a) (by omega)
    have sL : bm_s L S.1 := fL.s hs
    refine ⟨L, ?_, h.lay fL, fL.fz⟩
    refine bm_g u_X8_markAt ?_
    refine bm_bd (m_isVersion hs) (bm_bq (fun _ => ?_) (fun z => absurd c1.1.1 z))
    refine bm_ie (Int32.not_lt.mpr c1.1.2.1) ?_
    refine bm_bd m_in (bm_bq (fun _ => ?_) (fun z => absurd c2 z))
    refine bm_bd m_in (bm_bq (fun _ => ?_) (fun z => absurd c3 z))
    refine bm_bd m_in (bm_bq (fun _ => ?_) (fun z => absurd c1.1.2.2 z))
    refine bm_bd e ?_
    by_cases q : P < (ly_a S.1 (S.1 4) a (S.1 0)).1
    · exact m_mark_loop (n := n) sL hV h4.1 rL q hC (S.1 0) 0 0 none none 1000 rfl (by omega) (by omega)
    · refine Eq.trans ?_ (bm_ok (bm_mo_far hV h4.1 ((nI_leI (by omega) hP).mpr (by omega)) (S.1 0) 0 (by omega)).symm)
      refine bm_le (S.1 0) 0 (sL 0 (by decide)) rfl (by omega) (by decide) (fun _ => bm_ok rfl) (fun _ => ?_)
      exact bm_it ((nI_leI (by omega) hP).mpr (by omega)) (bm_ok rfl)
  · rw [if_neg c1]
    refine bm_mp.rd h (bm_g u_X8_markAt ?_)
    refine bm_bd (m_isVersion hs) (bm_bq (fun q1 => ?_) (fun _ => bm_ok rfl))
    refine bm_if (fun _ => bm_ok rfl) (fun q2 => ?_)
    refine bm_bd m_in (bm_bq (fun q3 => ?_) (fun _ => bm_ok rfl))
    refine bm_bd m_in (bm_bq (fun q4 => ?_) (fun _ => bm_ok rfl))
    refine bm_bd m_in (bm_bq (fun q5 => absurd ?_ c1) (fun _ => bm_ok rfl))
    have q3 : nI 0 ≤ cl ∧ cl ≤ I 76 2 - 1 := q3
    have q4 : nI 0 ≤ ln ∧ ln ≤ I 76 3 - 1 := q4
    rw [e2] at q3
    rw [e3] at q4
    exact ⟨⟨q1, Int32.not_lt.mp q2, q5⟩, q3, q4⟩
end MX
