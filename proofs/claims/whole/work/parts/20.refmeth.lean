set_option maxRecDepth 100000
/-! THE REFERENCE'S METHODS AGAINST THE SAME WORDS -/
section MM
variable {n : Nat} {I : Nat → Nat → Int32} {S : bm_S}
theorem bm_RM.wr {J L : Nat → Nat → Int32} {F' : Nat → Nat} (h : bm_RM J S) (hs : bm_s L F') (hf : ∀ k, k ≠ 76 → L k = J k) : bm_RM L (F', S.2) := by
  obtain ⟨-, h2, h3, h4, h5⟩ := h
  exact ⟨hs, by rw [hf 75 (by decide)]; exact h2, fun j hj k hk => by rw [hf 77 (by decide)]; exact h3 j hj k hk, by rw [hf 75 (by decide)]; exact h4, fun j hj => by rw [hf 78 (by decide)]; exact h5 j hj⟩
theorem bm_f76 {J L : Nat → Nat → Int32} {f : Nat → Int32} (h : ∀ k, k ≠ 76 → L k = J k) : ∀ k, k ≠ 76 → va_up L 76 f k = J k := fun k hk => (va_up_ne _ _ hk).trans (h k hk)
theorem bm_f77 {J L : Nat → Nat → Int32} (hf : bm_fz I J 75 77) (h : ∀ k, k ≠ 76 → L k = J k) : bm_fz I L 75 83 := fun k hk => (h k (by omega)).trans (hf k (by omega))
theorem m_contest (h : bm_RM I S) (v : bm_VV S) (x y : Int32) : bm_mp n I (f_X8_contest [.inr (some 75), .inl x, .inl y]) (sp_contest S x y) := by
  have hs := h.1
  have h6 := v.1.1
  have e0 : I 76 0 = nI (S.1 0) := hs 0 (by decide)
  unfold sp_contest
  by_cases c1 : (nI 1 ≤ x ∧ x ≤ nI 20) ∧ nI 1 ≤ y ∧ y ≤ nI 3
  · rw [if_pos c1]
    obtain ⟨a, a1, a2, rfl⟩ := bm_rng (by decide) c1.1 (by decide)
    obtain ⟨b, b1, b2, rfl⟩ := bm_rng (by decide) c1.2 (by decide)
    by_cases c2 : 6 ≤ S.1 0
    · rw [if_pos c2]
      refine bm_mp.rd h (bm_g u_X8_contest ?_)
      refine bm_bd m_in (bm_bq (fun _ => ?_) (fun z => absurd c1.1 z))
      refine bm_bd m_in (bm_bq (fun _ => ?_) (fun z => absurd c1.2 z))
      exact bm_eq (S.1 0) 6 e0 rfl (by omega) (by decide) (fun _ => bm_ok rfl) (fun z => absurd z (by omega))
    · rw [if_neg c2, nI_clamp (by omega), nI_clamp (by omega)]
      obtain ⟨J, e, hJ, hf⟩ := m_changes (n := n) h v.2.1
      have hx1 : (32 + 6 * I 76 0 + 0 : Int32) = nI (32 + 6 * S.1 0) := by rw [e0]; exact ix_c _ 0
      have hx2 : (32 + 6 * I 76 0 + 1 : Int32) = nI (33 + 6 * S.1 0) := by rw [e0]; exact (ix_c _ 1).trans (congrArg nI (by omega))
      have s1 := bm_sset (J := J) (F := S.1) hJ.1 hx1 (by omega) (v := nI a) (w := a) rfl
      have s2 := bm_sset s1 hx2 (by omega) (v := nI b) (w := b) rfl
      have s3 := bm_sset s2 (x := 0) (k := 0) rfl (by decide) (v := J 76 0 + 1) (w := S.1 0 + 1) (by rw [hJ.1 0 (by decide)]; exact nI_1 _)
      have g3 := bm_f76 (f := upd ((va_up (va_up J 76 (upd (J 76) (32 + 6 * I 76 0 + 0 : Int32).toNatClampNeg (nI a))) 76 (upd ((va_up J 76 (upd (J 76) (32 + 6 * I 76 0 + 0 : Int32).toNatClampNeg (nI a))) 76) (32 + 6 * I 76 0 + 1 : Int32).toNatClampNeg (nI b))) 76) (0 : Int32).toNatClampNeg (J 76 0 + 1)) (bm_f76 (f := upd ((va_up J 76 (upd (J 76) (32 + 6 * I 76 0 + 0 : Int32).toNatClampNeg (nI a))) 76) (32 + 6 * I 76 0 + 1 : Int32).toNatClampNeg (nI b)) (bm_f76 (f := upd (J 76) (32 + 6 * I 76 0 + 0 : Int32).toNatClampNeg (nI a)) (fun k _ => (rfl : J k = J k))))
      have e33 : (va_up (va_up J 76 (upd (J 76) (32 + 6 * I 76 0 + 0 : Int32).toNatClampNeg (nI a))) 76 (upd ((va_up J 76 (upd (J 76) (32 + 6 * I 76 0 + 0 : Int32).toNatClampNeg (nI a))) 76) (32 + 6 * I 76 0 + 1 : Int32).toNatClampNeg (nI b))) 76 0 = J 76 0 := by
        rw [hx1, hx2, nI_clamp (by omega), nI_clamp (by omega)]
        show upd (upd (J 76) _ _) _ _ 0 = _
        unfold upd
        rw [if_neg (by omega), if_neg (by omega)]
      refine ⟨_, bm_g u_X8_contest ?_, hJ.wr s3 g3, bm_f77 hf g3⟩
      refine bm_bd m_in (bm_bq (fun _ => ?_) (fun z => absurd c1.1 z))
      refine bm_bd m_in (bm_bq (fun _ => ?_) (fun z => absurd c1.2 z))
      refine bm_eq (S.1 0) 6 e0 rfl (by omega) (by decide) (fun z => absurd z (by omega)) (fun _ => ?_)
      refine bm_bd e ?_
      refine bm_ie (bm_nix (N := 164) hx1 (by omega) (by decide)) ?_
      refine bm_ie (bm_nix (N := 164) hx2 (by omega) (by decide)) ?_
      rw [← e33]
      exact bm_ok e0
  · rw [if_neg c1]
    refine bm_mp.rd h (bm_g u_X8_contest ?_)
    refine bm_bd m_in (bm_bq (fun h1 => ?_) (fun _ => bm_ok rfl))
    exact bm_bd m_in (bm_bq (fun h2 => absurd ⟨h1, h2⟩ c1) (fun _ => bm_ok rfl))
end MM
