set_option maxRecDepth 100000
/-! lies ON BOTH SIDES -/
section LI
variable {n : Nat} {I : Nat → Nat → Int32} {F : Nat → Nat} {S : bm_S}
theorem c_lies (h : bm_RC I S) (v : bm_VV S) (x y z w : Int32) : bm_cp n I (f_X7_lies [.inr (some 4), .inl x, .inl y, .inl z, .inl w]) (sp_lies S x y z w, S) := by
  have p := h.1
  have hV := v.1
  have h7 := hV.2.2.2.2.2.2.2.1
  have h4 := hV.2.2.2.2.1
  have h2 := hV.2.2.1
  unfold sp_lies
  by_cases c1 : (0 ≤ x ∧ x < nI (S.1 7)) ∧ (0 ≤ y ∧ y < nI (S.1 0)) ∧ 0 ≤ z ∧ z < nI (S.1 (35 + 6 * y.toNatClampNeg))
  · rw [if_pos c1]
    obtain ⟨a, a1, rfl⟩ := bm_k_of (by omega) c1.1
    obtain ⟨c, k, hc, hk, h8, h6, rfl, rfl⟩ := bm_hasName_of v.1 c1.2
    rw [nI_clamp (show a < 2 ^ 31 by omega), nI_clamp (show c < 2 ^ 31 by omega), nI_clamp (show k < 2 ^ 31 by omega)]
    obtain ⟨L, e, hL⟩ := e_lay (n := n) hV p (W := S.1 4) (v := a) h4.1 h4.2 (by omega)
    have pL : bm_P L 5 S.1 := p.congr (fun i hi => hL.2.2.2.2 _ (by omega))
    have ok := (ly_a_ok hV h4.1 (v := a) (S.1 0) hV.1).1
    have cb := ly_a_cb (F := S.1) (W := S.1 4) (v := a) (S.1 0) (8 * c + k)
    have hd := hL.2.1.2.2.2.2.2 (8 * c + k) (by omega) (ly_D_in hc hk (by omega))
    refine ⟨L, ?_, h.lay hL.2.2.2.2, fun q hq => hL.2.2.2.2 q (by omega)⟩
    refine bm_g u_X7_lies ?_
    refine bm_bd (e_hasVersion p (by omega)) (bm_bq (fun _ => ?_) (fun z => absurd c1.1 z))
    refine bm_bd (e_hasName p hV) (bm_bq (fun _ => ?_) (fun z => absurd c1.2 z))
    refine bm_bd (e_setting p (c := 2) (by decide)) ?_
    refine bm_bd e ?_
    refine bm_fi (fun _ => bm_bd (e_pageOf (by omega) (by omega) hL.1.1 (by omega) (by omega) hd.1 (by omega)) rfl) (fun _ => ?_)
    refine bm_fi (fun _ => bm_bd (e_columnOnPage (by omega) (by omega) hL.1.1 (by omega) (by omega) hd.1 (by omega)) rfl) (fun _ => ?_)
    refine bm_fi (fun _ => bm_bd (e_lineOf (by omega) (by omega)) (bm_ok hd.2)) (fun _ => ?_)
    refine bm_fi (fun _ => bm_bd (e_placeOf pL hV (by omega) hc hk) rfl) (fun _ => ?_)
    refine bm_fi (fun _ => bm_bd (e_linesOf (by omega) (by omega)) (bm_ok (hL.2.2.1 c k hc hk))) (fun _ => ?_)
    rfl
  · rw [if_neg c1]
    refine bm_cp.rd h (bm_g u_X7_lies ?_)
    refine bm_bd (e_hasVersion p (by omega)) (bm_bq (fun h1 => ?_) (fun _ => bm_ok rfl))
    exact bm_bd (e_hasName p hV) (bm_bq (fun q => absurd ⟨h1, q⟩ c1) (fun _ => bm_ok rfl))
theorem m_lies (h : bm_RM I S) (v : bm_VV S) (x y z w : Int32) : bm_mp n I (f_X8_lies [.inr (some 75), .inl x, .inl y, .inl z, .inl w]) (sp_lies S x y z w, S) := by
  have hs := h.1
  have hV := v.1
  have h7 := hV.2.2.2.2.2.2.2.1
  have h4 := hV.2.2.2.2.1
  have h2 := hV.2.2.1
  unfold sp_lies
  by_cases c1 : (0 ≤ x ∧ x < nI (S.1 7)) ∧ (0 ≤ y ∧ y < nI (S.1 0)) ∧ 0 ≤ z ∧ z < nI (S.1 (35 + 6 * y.toNatClampNeg))
  · rw [if_pos c1]
    by_cases hw : nI 0 ≤ w ∧ w ≤ nI 4
    · obtain ⟨a, a1, rfl⟩ := bm_k_of (by omega) c1.1
      obtain ⟨c, k, hc, hk, h8, h6, rfl, rfl⟩ := bm_hasName_of v.1 c1.2
      rw [nI_clamp (show a < 2 ^ 31 by omega), nI_clamp (show c < 2 ^ 31 by omega), nI_clamp (show k < 2 ^ 31 by omega)]
      have ok := (ly_a_ok hV h4.1 (v := a) (S.1 0) hV.1).1
      have cb := ly_a_cb (F := S.1) (W := S.1 4) (v := a) (S.1 0) (8 * c + k)
      obtain ⟨L, e, fL, rL⟩ := m_lays (n := n) hs hV (v := a) (by omega)
      have sL : bm_s L S.1 := fL.s hs
      have e2 : L 76 2 = nI (S.1 2) := sL 2 (by decide)
      have hd := rL.2.2.2.2.2 (8 * c + k) (by omega) (ly_D_in hc hk (by omega))
      have hx : (8 * nI c + nI k : Int32) = nI (8 * c + k) := by rw [bm_lit 8, pk_mul, nI_add]
      have cl : (8 * nI c + nI k : Int32).toNatClampNeg = 8 * c + k := by rw [hx]; exact nI_clamp (by omega)
      obtain ⟨q, -, q2, rfl⟩ := bm_rng (lo := 0) (hi := 4) (by decide) hw (by decide)
      refine ⟨L, ?_, h.lay fL, fL.fz⟩
      refine bm_g u_X8_lies ?_
      refine bm_bd (m_isVersion hs) (bm_bq (fun _ => ?_) (fun z => absurd c1.1 z))
      refine bm_bd (m_isName hs hV) (bm_bq (fun _ => ?_) (fun z => absurd c1.2 z))
      refine bm_bd m_in (bm_bq (fun _ => ?_) (fun z => absurd hw z))
      refine bm_bd e ?_
      refine bm_fi (fun _ => ?_) (fun h0 => ?_)
      · refine bm_ie (bm_nix (N := 48) hx (by omega) (by decide)) ?_
        refine bm_ie (fun y => nI_ne0 (show 0 < S.1 2 by omega) (by omega) (e2.symm.trans y)) ?_
        refine bm_ok ?_
        show L 79 (8 * nI c + nI k : Int32).toNatClampNeg / L 76 2 = _
        rw [cl, hd.1, e2]; exact pk_div (by omega) (by omega) (by omega)
      refine bm_fi (fun _ => ?_) (fun h1 => ?_)
      · refine bm_ie (bm_nix (N := 48) hx (by omega) (by decide)) ?_
        refine bm_ie (fun y => nI_ne0 (show 0 < S.1 2 by omega) (by omega) (e2.symm.trans y)) ?_
        refine bm_ok ?_
        show L 79 (8 * nI c + nI k : Int32).toNatClampNeg - L 79 (8 * nI c + nI k : Int32).toNatClampNeg / L 76 2 * L 76 2 = _
        rw [cl, hd.1, e2]; exact pk_rem (by omega) (by omega) (by omega)
      refine bm_fi (fun _ => ?_) (fun h2 => ?_)
      · refine bm_ie (bm_nix (N := 48) hx (by omega) (by decide)) ?_
        refine bm_ok ?_
        show L 80 (8 * nI c + nI k : Int32).toNatClampNeg = _
        rw [cl]; exact hd.2
      refine bm_fi (fun _ => bm_bd (m_placeOf sL hV (by omega) (by omega) hk) rfl) (fun h3 => ?_)
      refine bm_it (nI_pos' (by omega)) ?_
      refine bm_bd (m_nameLines sL hV (by omega) (by omega)) (bm_ok (if_pos ?_).symm)
      have n0 : q ≠ 0 := fun z => h0 (by rw [z]; rfl)
      have n1 : q ≠ 1 := fun z => h1 (by rw [z]; rfl)
      have n2 : q ≠ 2 := fun z => h2 (by rw [z]; rfl)
      have n3 : q ≠ 3 := fun z => h3 (by rw [z]; rfl)
      rw [show q = 4 by omega]
    · have no := bm_nrg (by decide) hw
      rw [if_neg (no 0 (by decide)), if_neg (no 1 (by decide)), if_neg (no 2 (by decide)), if_neg (no 3 (by decide)), if_neg (no 4 (by decide))]
      refine bm_mp.rd h (bm_g u_X8_lies ?_)
      refine bm_bd (m_isVersion hs) (bm_bq (fun _ => ?_) (fun z => absurd c1.1 z))
      refine bm_bd (m_isName hs hV) (bm_bq (fun _ => ?_) (fun z => absurd c1.2 z))
      exact bm_bd m_in (bm_bq (fun z => absurd z hw) (fun _ => bm_ok rfl))
  · rw [if_neg c1]
    refine bm_mp.rd h (bm_g u_X8_lies ?_)
    refine bm_bd (m_isVersion hs) (bm_bq (fun h1 => ?_) (fun _ => bm_ok rfl))
    exact bm_bd (m_isName hs hV) (bm_bq (fun q => absurd ⟨h1, q⟩ c1) (fun _ => bm_ok rfl))
end LI
