set_option maxRecDepth 100000
/-! paper AND lies ON BOTH SIDES -/
section PA
variable {n : Nat} {I : Nat → Nat → Int32} {F : Nat → Nat} {S : bm_S}
theorem bm_RC.lay {J : Nat → Nat → Int32} (h : bm_RC I S) (hf : ∀ q, (q < 62 ∨ 66 < q) → J q = I q) : bm_RC J S := by
  obtain ⟨p, hh, ht, hT, hL⟩ := h
  exact ⟨p.congr (fun i hi => hf _ (by omega)), hh.congr (fun k k1 k2 => hf k (by omega)), by rw [hf 69 (by omega)]; exact ht, fun j hj => by rw [hf 70 (by omega)]; exact hT j hj, fun k hk => by rw [hf 1 (by omega), hf 2 (by omega)]; exact hL k hk⟩
theorem bm_RM.lay {J : Nat → Nat → Int32} (h : bm_RM I S) (hf : ly_f I J) : bm_RM J S := by
  obtain ⟨hs, hp, hq, ht, hT⟩ := h
  exact ⟨hf.s hs, by rw [hf.2 2 (by omega)]; exact hp, fun j hj k hk => by rw [hf.1 77 (by decide) (by decide) (by decide)]; exact hq j hj k hk, by rw [hf.2 4 (by omega)]; exact ht, fun j hj => by rw [hf.1 78 (by decide) (by decide) (by decide)]; exact hT j hj⟩
theorem ly_f.fz {J : Nat → Nat → Int32} (hf : ly_f I J) : bm_fz I J 75 83 := fun q hq => hf.1 q (by omega) (by omega) (by omega)
abbrev ly_S (S : bm_S) (v : Nat) : ly_Y := ly_a S.1 (S.1 4) v (S.1 0)
def sp_paper (S : bm_S) (x w : Int32) : Int32 := if 0 ≤ x ∧ x < nI (S.1 7) then (if w = nI 0 then nI (((ly_S S x.toNatClampNeg).1 + S.1 2 - 1) / S.1 2) else if w = nI 1 then nI (ly_S S x.toNatClampNeg).1 else if w = nI 2 then nI (ly_S S x.toNatClampNeg).2.2.1 else if w = nI 3 then nI (ly_S S x.toNatClampNeg).2.2.2.1 else if w = nI 4 then nI (ly_S S x.toNatClampNeg).2.2.2.2.1 else -1) else -1
theorem e_pages (hV : bm_V' F) {W v : Nat} (hW : 8 ≤ W) (h : ly_I I I F W v (F 0)) : f_X5_pages [.inr (some 62)] (bm_mk n I) = some (some (.inl (nI (((ly_a F W v (F 0)).1 + F 2 - 1) / F 2))), bm_mk n I) := by
  have ok := ly_a_ok hV hW (v := v) (F 0) hV.1
  have h6 := hV.1
  have h2 := hV.2.2.1
  have := ok.1
  refine bm_g u_X5_pages ?_
  exact bm_bd (e_roundedUp h.2.1.1 h.1.1 (by omega) (by omega) (by omega)) rfl
theorem c_paper (h : bm_RC I S) (v : bm_VV S) (x w : Int32) : bm_cp n I (f_X7_paper [.inr (some 4), .inl x, .inl w]) (sp_paper S x w, S) := by
  have p := h.1
  have hV := v.1
  have h7 := hV.2.2.2.2.2.2.2.1
  have h4 := hV.2.2.2.2.1
  unfold sp_paper
  by_cases c1 : 0 ≤ x ∧ x < nI (S.1 7)
  · rw [if_pos c1]
    obtain ⟨a, a1, rfl⟩ := bm_k_of (by omega) c1
    rw [nI_clamp (show a < 2 ^ 31 by omega)]
    obtain ⟨L, e, hL⟩ := e_lay (n := n) hV p (W := S.1 4) (v := a) h4.1 h4.2 (by omega)
    have hLL : ly_I L L S.1 (S.1 4) a (S.1 0) := ⟨hL.1, hL.2.1, hL.2.2.1, hL.2.2.2.1, fun _ _ => rfl⟩
    have c2 := hL.2.1
    refine ⟨L, ?_, h.lay hL.2.2.2.2, fun q hq => hL.2.2.2.2 q (by omega)⟩
    refine bm_g u_X7_paper ?_
    refine bm_bd (e_hasVersion p (by omega)) (bm_bq (fun _ => ?_) (fun z => absurd c1 z))
    refine bm_bd (e_setting p (c := 2) (by decide)) ?_
    refine bm_bd e ?_
    refine bm_fi (fun _ => bm_bd (e_pages hV h4.1 hLL) rfl) (fun _ => ?_)
    refine bm_fi (fun _ => bm_bd (bm_g u_X5_columns (bm_ok c2.1)) rfl) (fun _ => ?_)
    refine bm_fi (fun _ => bm_bd (bm_g u_X5_taken (bm_ok c2.2.2.1)) rfl) (fun _ => ?_)
    refine bm_fi (fun _ => bm_bd (bm_g u_X5_later (bm_ok c2.2.2.2.1)) rfl) (fun _ => ?_)
    refine bm_fi (fun _ => bm_bd (bm_g u_X5_begunByNames (bm_ok c2.2.2.2.2.1)) rfl) (fun _ => ?_)
    rfl
  · rw [if_neg c1]
    refine bm_cp.rd h (bm_g u_X7_paper ?_)
    exact bm_bd (e_hasVersion p (by omega)) (bm_bq (fun z => absurd z c1) (fun _ => bm_ok rfl))
theorem bm_nrg {w : Int32} {m : Nat} (hm : m < 100) (hw : ¬ (nI 0 ≤ w ∧ w ≤ nI m)) : ∀ z, z ≤ m → ¬ w = nI z := fun z hz e => hw (by rw [e]; exact ⟨nI_pos' (by omega), (nI_leI (a := z) (b := m) (by omega) (by omega)).mpr hz⟩)
theorem m_paper (h : bm_RM I S) (v : bm_VV S) (x w : Int32) : bm_mp n I (f_X8_paper [.inr (some 75), .inl x, .inl w]) (sp_paper S x w, S) := by
  have hs := h.1
  have hV := v.1
  have h7 := hV.2.2.2.2.2.2.2.1
  have h4 := hV.2.2.2.2.1
  have h2 := hV.2.2.1
  have h6 := hV.1
  unfold sp_paper
  by_cases c1 : 0 ≤ x ∧ x < nI (S.1 7)
  · rw [if_pos c1]
    obtain ⟨a, a1, rfl⟩ := bm_k_of (by omega) c1
    rw [nI_clamp (show a < 2 ^ 31 by omega)]
    have ok := (ly_a_ok hV h4.1 (v := a) (S.1 0) hV.1).1
    by_cases hw : nI 0 ≤ w ∧ w ≤ nI 4
    · obtain ⟨L, e, fL, rL⟩ := m_lays (n := n) hs hV (v := a) (by omega)
      refine ⟨L, ?_, h.lay fL, fL.fz⟩
      refine bm_g u_X8_paper ?_
      refine bm_bd (m_isVersion hs) (bm_bq (fun _ => ?_) (fun z => absurd c1 z))
      refine bm_bd m_in (bm_bq (fun _ => ?_) (fun z => absurd hw z))
      obtain ⟨q, -, q2, rfl⟩ := bm_rng (lo := 0) (hi := 4) (by decide) hw (by decide)
      refine bm_bd e ?_
      refine bm_fi (fun _ => bm_bd (m_parts rfl (fL.s hs 2 (by decide)) (by omega) (by omega) (by omega)) rfl) (fun h0 => ?_)
      refine bm_fi (fun _ => rfl) (fun h1 => ?_)
      refine bm_fi (fun _ => bm_ok rL.2.2.1) (fun h2 => ?_)
      refine bm_fi (fun _ => bm_ok rL.2.2.2.1) (fun h3 => ?_)
      refine bm_ok (rL.2.2.2.2.1.trans (if_pos ?_).symm)
      have n0 : q ≠ 0 := fun z => h0 (by rw [z]; rfl)
      have n1 : q ≠ 1 := fun z => h1 (by rw [z]; rfl)
      have n2 : q ≠ 2 := fun z => h2 (by rw [z]; rfl)
      have n3 : q ≠ 3 := fun z => h3 (by rw [z]; rfl)
      rw [show q = 4 by omega]
    · have no := bm_nrg (by decide) hw
      rw [if_neg (no 0 (by decide)), if_neg (no 1 (by decide)), if_neg (no 2 (by decide)), if_neg (no 3 (by decide)), if_neg (no 4 (by decide))]
      refine bm_mp.rd h (bm_g u_X8_paper ?_)
      refine bm_bd (m_isVersion hs) (bm_bq (fun _ => ?_) (fun z => absurd c1 z))
      exact bm_bd m_in (bm_bq (fun z => absurd z hw) (fun _ => bm_ok rfl))
  · rw [if_neg c1]
    refine bm_mp.rd h (bm_g u_X8_paper ?_)
    exact bm_bd (m_isVersion hs) (bm_bq (fun z => absurd z c1) (fun _ => bm_ok rfl))
/-! columns of names are below the columns there are -/
def ly_cb (Y : ly_Y) : Prop := ∀ j, Y.2.2.2.2.2.1 j ≤ Y.1
theorem ly_n_cb {W c k : Nat} {Y : ly_Y} (h : ly_cb Y) : ly_cb (ly_n F W c k Y) := by
  intro j
  have := h j
  unfold ly_n
  split
  · show bm_fs1 Y.2.2.2.2.2.1 (8 * c + k) Y.1 j ≤ Y.1 + 1
    unfold bm_fs1
    split <;> omega
  · show bm_fs1 Y.2.2.2.2.2.1 (8 * c + k) (Y.1 - 1) j ≤ Y.1
    unfold bm_fs1
    split <;> omega
theorem ly_t_cb {W v c : Nat} {Y : ly_Y} (h : ly_cb Y) : ly_cb (ly_t F W v c Y) := by
  intro j
  have := h j
  unfold ly_t
  split
  · show Y.2.2.2.2.2.1 j ≤ Y.1 + 1; omega
  · exact this
theorem ly_m_cb {W v c : Nat} {Y : ly_Y} (h : ly_cb Y) : ∀ i, ly_cb (ly_m F W v c Y i)
  | 0 => h
  | i + 1 => ly_n_cb (ly_m_cb h i)
theorem ly_a_cb {W v : Nat} : ∀ c, ly_cb (ly_a F W v c)
  | 0 => fun _ => Nat.le_refl _
  | c + 1 => by
    show ly_cb (ly_c F W v c (ly_a F W v c))
    unfold ly_c
    split
    · exact ly_a_cb c
    · exact ly_m_cb (ly_t_cb (ly_a_cb c)) _
def sp_lies (S : bm_S) (x y z w : Int32) : Int32 := if (0 ≤ x ∧ x < nI (S.1 7)) ∧ (0 ≤ y ∧ y < nI (S.1 0)) ∧ 0 ≤ z ∧ z < nI (S.1 (35 + 6 * y.toNatClampNeg)) then (if w = nI 0 then nI ((ly_S S x.toNatClampNeg).2.2.2.2.2.1 (8 * y.toNatClampNeg + z.toNatClampNeg) / S.1 2) else if w = nI 1 then nI ((ly_S S x.toNatClampNeg).2.2.2.2.2.1 (8 * y.toNatClampNeg + z.toNatClampNeg) % S.1 2) else if w = nI 2 then nI ((ly_S S x.toNatClampNeg).2.2.2.2.2.2 (8 * y.toNatClampNeg + z.toNatClampNeg)) else if w = nI 3 then nI (bm_pl S.1 x.toNatClampNeg y.toNatClampNeg z.toNatClampNeg) else if w = nI 4 then nI (ly_nl S.1 (S.1 4) y.toNatClampNeg z.toNatClampNeg) else -1) else -1
theorem ly_D_in {c k : Nat} (hc : c < F 0) (hk : k < F (35 + 6 * c)) (h8 : k < 8) : ly_D F (F 0) (8 * c + k) := by
  have e1 : (8 * c + k) / 8 = c := by omega
  have e2 : (8 * c + k) % 8 = k := by omega
  exact ⟨by omega, by rw [e1, e2]; exact hk⟩
theorem e_pageOf {c k a m : Nat} (hc : c < 6) (hk : k < 8) (h4 : I 62 4 = nI m) (hm : 0 < m) (hm2 : m < 1000) (h : I 63 (8 * c + k) = nI a) (ha : a < 1000) : f_X5_pageOf [.inr (some 62), .inl (nI c), .inl (nI k)] (bm_mk n I) = some (some (.inl (nI (a / m))), bm_mk n I) := by
  refine bm_g u_X5_pageOf ?_
  refine bm_bd e_slot ?_
  refine bm_bd ((e_gk' (a := 63) (N := 48) (nI_slot c k) rfl rfl (by decide) (by omega)).trans (bm_ok h)) ?_
  refine bm_le m 0 h4 rfl (by omega) (by decide) (fun z => absurd z (by omega)) (fun _ => ?_)
  refine bm_ie (fun y => nI_ne0 hm (by omega) (h4.symm.trans y)) ?_
  refine bm_ok ?_
  show nI a / I 62 4 = _
  rw [h4]; exact pk_div (by omega) hm (by omega)
theorem e_columnOnPage {c k a m : Nat} (hc : c < 6) (hk : k < 8) (h4 : I 62 4 = nI m) (hm : 0 < m) (hm2 : m < 1000) (h : I 63 (8 * c + k) = nI a) (ha : a < 1000) : f_X5_columnOnPage [.inr (some 62), .inl (nI c), .inl (nI k)] (bm_mk n I) = some (some (.inl (nI (a % m))), bm_mk n I) := by
  refine bm_g u_X5_columnOnPage ?_
  refine bm_bd e_slot ?_
  refine bm_bd ((e_gk' (a := 63) (N := 48) (nI_slot c k) rfl rfl (by decide) (by omega)).trans (bm_ok h)) ?_
  refine bm_le m 0 h4 rfl (by omega) (by decide) (fun z => absurd z (by omega)) (fun _ => ?_)
  refine bm_ie (fun y => nI_ne0 hm (by omega) (h4.symm.trans y)) ?_
  refine bm_ok ?_
  show nI a - nI a / I 62 4 * I 62 4 = _
  rw [h4]; exact pk_rem (by omega) hm (by omega)
theorem e_lineOf {c k : Nat} (hc : c < 6) (hk : k < 8) : f_X5_lineOf [.inr (some 62), .inl (nI c), .inl (nI k)] (bm_mk n I) = some (some (.inl (I 64 (8 * c + k))), bm_mk n I) := by
  refine bm_g u_X5_lineOf ?_
  refine bm_bd e_slot ?_
  exact bm_bd (e_gk' (a := 64) (N := 48) (nI_slot c k) rfl rfl (by decide) (by omega)) rfl
end PA
