set_option maxRecDepth 100000
/-! MORE OF THE REFERENCE'S METHODS -/
section MN
variable {n : Nat} {I : Nat → Nat → Int32} {S : bm_S}
abbrev bm_w (J : Nat → Nat → Int32) (x v : Int32) : Nat → Nat → Int32 := va_up J 76 (upd (J 76) x.toNatClampNeg v)
theorem bm_fw {J L : Nat → Nat → Int32} {x v : Int32} (h : ∀ k, k ≠ 76 → L k = J k) : ∀ k, k ≠ 76 → bm_w L x v k = J k := fun k hk => (va_up_ne _ _ hk).trans (h k hk)
theorem bm_w_ne {J : Nat → Nat → Int32} {x v : Int32} {a b : Nat} (hx : x = nI a) (ha : a < 2 ^ 31) (h : b ≠ a) : bm_w J x v 76 b = J 76 b := by
  show upd (J 76) x.toNatClampNeg v b = _
  subst hx
  rw [nI_clamp ha]; exact if_neg h
theorem m_name (h : bm_RM I S) (v : bm_VV S) (x y : Int32) : bm_mp n I (f_X8_name [.inr (some 75), .inl x, .inl y]) (sp_name S x y) := by
  have hs := h.1
  have h6 := v.1.1
  have hB := v.1.2.1
  have e1 : I 76 1 = nI (S.1 1) := hs 1 (by decide)
  unfold sp_name
  by_cases c1 : (0 ≤ x ∧ x < nI (S.1 0)) ∧ nI 1 ≤ y ∧ y ≤ nI 20
  · rw [if_pos c1]
    obtain ⟨a, a1, rfl⟩ := bm_k_of (by omega) c1.1
    obtain ⟨b, b1, b2, rfl⟩ := bm_rng (by decide) c1.2 (by decide)
    have h8 := (v.1.2.2.2.2.2.2.2.2.2.1 a (by omega)).2.2.2
    rw [nI_clamp (show a < 2 ^ 31 by omega), nI_clamp (show b < 2 ^ 31 by omega)]
    by_cases c2 : 0 < S.1 1
    · rw [if_pos c2]
      refine bm_mp.rd h (bm_g u_X8_name ?_)
      refine bm_bd (m_isContest hs) (bm_bq (fun _ => ?_) (fun z => absurd c1.1 z))
      refine bm_bd m_in (bm_bq (fun _ => ?_) (fun z => absurd c1.2 z))
      exact bm_le (S.1 1) 0 e1 rfl (by omega) (by decide) (fun z => absurd z (by omega)) (fun _ => bm_ok rfl)
    · rw [if_neg c2]
      by_cases c3 : 8 ≤ S.1 (35 + 6 * a)
      · rw [if_pos c3]
        refine bm_mp.rd h (bm_g u_X8_name ?_)
        refine bm_bd (m_isContest hs) (bm_bq (fun _ => ?_) (fun z => absurd c1.1 z))
        refine bm_bd m_in (bm_bq (fun _ => ?_) (fun z => absurd c1.2 z))
        refine bm_le (S.1 1) 0 e1 rfl (by omega) (by decide) (fun _ => ?_) (fun z => absurd z (by omega))
        refine bm_bd (m_names hs (by omega)) ?_
        exact bm_eq (S.1 (35 + 6 * a)) 8 rfl rfl (by omega) (by decide) (fun _ => bm_ok rfl) (fun z => absurd z (by omega))
      · rw [if_neg c3]
        obtain ⟨J, e, hJ, hf⟩ := m_changes (n := n) h v.2.1
        have hx1 : (68 + 16 * nI a + 2 * nI (S.1 (35 + 6 * a)) : Int32) = nI (68 + 2 * (8 * a + S.1 (35 + 6 * a))) := (ix_l _ _).trans (congrArg nI (by omega))
        have hx2 : (32 + 6 * nI a + 3 : Int32) = nI (35 + 6 * a) := (ix_c _ 3).trans (congrArg nI (by omega))
        have s1 := bm_sset (J := J) (F := S.1) hJ.1 hx1 (by omega) (v := nI b) (w := b) rfl
        have e4 : (bm_w J (68 + 16 * nI a + 2 * nI (S.1 (35 + 6 * a)) : Int32) (nI b)) 76 (32 + 6 * nI a + 3 : Int32).toNatClampNeg + 1 = nI (S.1 (35 + 6 * a) + 1) := by
          rw [hx2, nI_clamp (by omega), bm_w_ne hx1 (by omega) (by omega), hJ.1 (35 + 6 * a) (by omega)]; exact nI_1 _
        have s2 := bm_sset s1 hx2 (by omega) e4
        refine ⟨_, bm_g u_X8_name ?_, hJ.wr s2 (bm_fw (bm_fw (fun _ _ => rfl))), bm_f77 hf (bm_fw (bm_fw (fun _ _ => rfl)))⟩
        refine bm_bd (m_isContest hs) (bm_bq (fun _ => ?_) (fun z => absurd c1.1 z))
        refine bm_bd m_in (bm_bq (fun _ => ?_) (fun z => absurd c1.2 z))
        refine bm_le (S.1 1) 0 e1 rfl (by omega) (by decide) (fun _ => ?_) (fun z => absurd z (by omega))
        refine bm_bd (m_names hs (by omega)) ?_
        refine bm_eq (S.1 (35 + 6 * a)) 8 rfl rfl (by omega) (by decide) (fun z => absurd z (by omega)) (fun _ => ?_)
        refine bm_bd e ?_
        refine bm_ie (bm_nix (N := 164) hx1 (by omega) (by decide)) ?_
        refine bm_ie (bm_nix (N := 164) hx2 (by omega) (by decide)) ?_
        refine bm_ie (bm_nix (N := 164) hx2 (by omega) (by decide)) ?_
        exact bm_ok rfl
  · rw [if_neg c1]
    refine bm_mp.rd h (bm_g u_X8_name ?_)
    refine bm_bd (m_isContest hs) (bm_bq (fun h1 => ?_) (fun _ => bm_ok rfl))
    exact bm_bd m_in (bm_bq (fun h2 => absurd ⟨h1, h2⟩ c1) (fun _ => bm_ok rfl))
theorem m_way (h : bm_RM I S) (v : bm_VV S) (x y : Int32) : bm_mp n I (f_X8_way [.inr (some 75), .inl x, .inl y]) (sp_way S x y) := by
  have hs := h.1
  have h6 := v.1.1
  have hB := v.1.2.1
  have e1 : I 76 1 = nI (S.1 1) := hs 1 (by decide)
  unfold sp_way
  by_cases c1 : (0 ≤ x ∧ x < nI (S.1 0)) ∧ nI 0 ≤ y ∧ y ≤ nI 2
  · rw [if_pos c1]
    obtain ⟨a, a1, rfl⟩ := bm_k_of (by omega) c1.1
    obtain ⟨b, b1, b2, rfl⟩ := bm_rng (by decide) c1.2 (by decide)
    rw [nI_clamp (show a < 2 ^ 31 by omega), nI_clamp (show b < 2 ^ 31 by omega)]
    by_cases c2 : 0 < S.1 1
    · rw [if_pos c2]
      refine bm_mp.rd h (bm_g u_X8_way ?_)
      refine bm_bd (m_isContest hs) (bm_bq (fun _ => ?_) (fun z => absurd c1.1 z))
      refine bm_bd m_in (bm_bq (fun _ => ?_) (fun z => absurd c1.2 z))
      exact bm_le (S.1 1) 0 e1 rfl (by omega) (by decide) (fun z => absurd z (by omega)) (fun _ => bm_ok rfl)
    · rw [if_neg c2]
      obtain ⟨J, e, hJ, hf⟩ := m_changes (n := n) h v.2.1
      have hx1 : (32 + 6 * nI a + 2 : Int32) = nI (34 + 6 * a) := (ix_c _ 2).trans (congrArg nI (by omega))
      have s1 := bm_sset (J := J) (F := S.1) hJ.1 hx1 (by omega) (v := nI b) (w := b) rfl
      refine ⟨_, bm_g u_X8_way ?_, hJ.wr s1 (bm_fw (fun _ _ => rfl)), bm_f77 hf (bm_fw (fun _ _ => rfl))⟩
      refine bm_bd (m_isContest hs) (bm_bq (fun _ => ?_) (fun z => absurd c1.1 z))
      refine bm_bd m_in (bm_bq (fun _ => ?_) (fun z => absurd c1.2 z))
      refine bm_le (S.1 1) 0 e1 rfl (by omega) (by decide) (fun _ => ?_) (fun z => absurd z (by omega))
      refine bm_bd e ?_
      refine bm_bd (m_of hJ.1 (c := a) (w := 2) rfl rfl (by omega)) ?_
      refine bm_ie (bm_nix (N := 164) hx1 (by omega) (by decide)) ?_
      exact bm_ok (congrArg (fun z => nI (S.1 z)) (by omega))
  · rw [if_neg c1]
    refine bm_mp.rd h (bm_g u_X8_way ?_)
    refine bm_bd (m_isContest hs) (bm_bq (fun h1 => ?_) (fun _ => bm_ok rfl))
    exact bm_bd m_in (bm_bq (fun h2 => absurd ⟨h1, h2⟩ c1) (fun _ => bm_ok rfl))
theorem m_papers (h : bm_RM I S) (v : bm_VV S) (x y : Int32) : bm_mp n I (f_X8_papers [.inr (some 75), .inl x, .inl y]) (sp_papers S x y) := by
  have hs := h.1
  have h7 := v.1.2.2.2.2.2.2.2.1
  unfold sp_papers
  by_cases c1 : (0 ≤ x ∧ x < nI (S.1 7)) ∧ nI 0 ≤ y ∧ y ≤ nI 9999
  · rw [if_pos c1]
    obtain ⟨a, a1, rfl⟩ := bm_k_of (by omega) c1.1
    obtain ⟨b, b1, b2, rfl⟩ := bm_rng (by decide) c1.2 (by decide)
    rw [nI_clamp (show a < 2 ^ 31 by omega), nI_clamp (show b < 2 ^ 31 by omega)]
    obtain ⟨J, e, hJ, hf⟩ := m_changes (n := n) h v.2.1
    have hx1 : (8 + nI a : Int32) = nI (8 + 1 * a) := (ix_a 8 a).trans (congrArg nI (by omega))
    have s1 := bm_sset (J := J) (F := S.1) hJ.1 hx1 (by omega) (v := nI b) (w := b) rfl
    refine ⟨_, bm_g u_X8_papers ?_, hJ.wr s1 (bm_fw (fun _ _ => rfl)), bm_f77 hf (bm_fw (fun _ _ => rfl))⟩
    refine bm_bd (m_isVersion hs) (bm_bq (fun _ => ?_) (fun z => absurd c1.1 z))
    refine bm_bd m_in (bm_bq (fun _ => ?_) (fun z => absurd c1.2 z))
    refine bm_bd e ?_
    refine bm_ie (bm_nix (N := 164) hx1 (by omega) (by decide)) ?_
    refine bm_ie (bm_nix (N := 164) hx1 (by omega) (by decide)) ?_
    exact bm_ok (bm_rd hJ.1 hx1 (by omega))
  · rw [if_neg c1]
    refine bm_mp.rd h (bm_g u_X8_papers ?_)
    refine bm_bd (m_isVersion hs) (bm_bq (fun h1 => ?_) (fun _ => bm_ok rfl))
    exact bm_bd m_in (bm_bq (fun h2 => absurd ⟨h1, h2⟩ c1) (fun _ => bm_ok rfl))
theorem bm_al_no {x y : Int32} (h : ∀ k, k < 6 → x ≠ nI k) : ¬ bm_al x y := fun z => by
  obtain ⟨w, -, w2, e⟩ := bm_rng (lo := 0) (hi := 5) (by decide) z.1 (by decide)
  exact h w (by omega) e
theorem m_isSetting {M : bm_M} {x y : Int32} : f_X8_isSetting [.inl x, .inl y] M = some (some (.inl (bm_b (bm_al x y))), M) := by
  refine bm_g u_X8_isSetting ?_
  have key : ∀ k, k < 6 → k ≠ 4 → x = nI k → ((nI (bm_LE k) ≤ y ∧ y ≤ nI (bm_MO k)) ↔ bm_al x y) := by
    intro k hk k4 e
    subst e
    unfold bm_al
    rw [nI_clamp (show k < 2 ^ 31 by omega)]
    exact ⟨fun z => ⟨⟨nI_pos' (by omega), (nI_leI (by omega) (by decide)).mpr (by omega)⟩, Or.inr z⟩, fun z => z.2.resolve_left (fun q => k4 ((nI_eq (by omega) (by decide)).mp q.1))⟩
  refine bm_if (fun h0 => ?_) (fun h0 => ?_)
  · exact bm_bd m_in (bm_it (bm_b01 _) (bm_ok (bm_bc (key 0 (by decide) (by decide) h0))))
  refine bm_if (fun h1 => ?_) (fun h1 => ?_)
  · exact bm_bd m_in (bm_it (bm_b01 _) (bm_ok (bm_bc (key 1 (by decide) (by decide) h1))))
  refine bm_if (fun h2 => ?_) (fun h2 => ?_)
  · exact bm_bd m_in (bm_it (bm_b01 _) (bm_ok (bm_bc (key 2 (by decide) (by decide) h2))))
  refine bm_if (fun h3 => ?_) (fun h3 => ?_)
  · exact bm_bd m_in (bm_it (bm_b01 _) (bm_ok (bm_bc (key 3 (by decide) (by decide) h3))))
  refine bm_if (fun h4 => ?_) (fun h4 => ?_)
  · have h4 : x = nI 4 := h4
    subst h4
    refine bm_if (fun q => ?_) (fun q => ?_)
    · exact bm_ok (bm_b1 ⟨⟨by decide, by decide⟩, Or.inl ⟨rfl, q⟩⟩).symm
    · refine bm_bd m_in (bm_bq (fun z => ?_) (fun z => ?_))
      · exact bm_ok (bm_b1 ⟨⟨by decide, by decide⟩, Or.inr z⟩).symm
      · exact bm_ok (bm_b0 (fun w => w.2.elim (fun w => q w.2) z)).symm
  refine bm_if (fun h5 => ?_) (fun h5 => ?_)
  · exact bm_bd m_in (bm_it (bm_b01 _) (bm_ok (bm_bc (key 5 (by decide) (by decide) h5))))
  refine bm_ok (bm_b0 (bm_al_no (fun k hk => ?_))).symm
  rcases (show k = 0 ∨ k = 1 ∨ k = 2 ∨ k = 3 ∨ k = 4 ∨ k = 5 by omega) with rfl | rfl | rfl | rfl | rfl | rfl
  · exact h0
  · exact h1
  · exact h2
  · exact h3
  · exact h4
  · exact h5
/-- papers of versions from v on: nought -/
theorem m_set_loop {w0 w1 w2 w3 : Option bm_V} {r : Int32} : ∀ (d i : Nat) (x : Int32) (J : Nat → Nat → Int32) (o : Nat), x = nI i → i + d = 24 → d < o →
    ∃ L, bm_rn z_X8_set o 41 ([some (.inr (some 75)), w1, w2, some (.inl r), some (.inl x)], [], bm_mk n J) = some (some (.inl r), bm_mk n L) ∧ (∀ k, k ≠ 76 → L k = J k) ∧ (∀ j, 8 + i ≤ j → j < 32 → L 76 j = 0) ∧ ∀ j, ¬ (8 + i ≤ j ∧ j < 32) → L 76 j = J 76 j := by
  intro d
  induction d with
  | zero =>
    intro i x J o hx hi ho
    obtain ⟨o, rfl⟩ : ∃ q, o = q + 1 := ⟨o - 1, by omega⟩
    have hi : i = 24 := by omega
    subst hi; subst hx
    exact ⟨J, rfl, fun _ _ => rfl, fun j h1 h2 => absurd h2 (by omega), fun _ _ => rfl⟩
  | succ d ih =>
    intro i x J o hx hi ho
    obtain ⟨o, rfl⟩ : ∃ q, o = q + 1 := ⟨o - 1, by omega⟩
    subst hx
    have hx2 : (8 + nI i : Int32) = nI (8 + i) := ix_a 8 i
    have st : bm_rn z_X8_set (o + 1) 41 ([some (.inr (some 75)), w1, w2, some (.inl r), some (.inl (nI i))], [], bm_mk n J) = bm_rn z_X8_set o 41 ([some (.inr (some 75)), w1, w2, some (.inl r), some (.inl (nI i + 1))], [], bm_mk n (va_up J 76 (upd (J 76) (8 + i) 0))) := by
      refine bm_ie (fun z => absurd ((nI_leI (by decide) (by omega)).mp (show nI 24 ≤ nI i from z)) (by omega)) ?_
      refine bm_ie (bm_nix (N := 164) hx2 (by omega) (by decide)) ?_
      show bm_rn z_X8_set o 41 ([some (.inr (some 75)), w1, w2, some (.inl r), some (.inl (nI i + 1))], [], bm_mk n (va_up J 76 (upd (J 76) (8 + nI i : Int32).toNatClampNeg 0))) = _
      rw [hx2, nI_clamp (show 8 + i < 2 ^ 31 by omega)]
    obtain ⟨L, e, f1, f2, f3⟩ := ih (i + 1) _ (va_up J 76 (upd (J 76) (8 + i) 0)) o (nI_1 i) (by omega) (by omega)
    refine ⟨L, st.trans e, fun k hk => (f1 k hk).trans (va_up_ne _ _ hk), fun j h1 h2 => ?_, fun j hj => ?_⟩
    · by_cases e : j = 8 + i
      · subst e; rw [f3 _ (by omega)]; exact if_pos rfl
      · exact f2 j (by omega) h2
    · rw [f3 j (by omega)]; exact if_neg (by omega)
theorem m_set (h : bm_RM I S) (v : bm_VV S) (x y : Int32) : bm_mp n I (f_X8_set [.inr (some 75), .inl x, .inl y]) (sp_set S x y) := by
  have hs := h.1
  unfold sp_set
  by_cases c1 : bm_al x y
  · rw [if_pos c1]
    obtain ⟨w, k, w1, k1, k2, rfl, rfl⟩ := bm_al_of c1
    obtain ⟨m1, m2⟩ := bm_LEs w w1
    rw [nI_clamp (show w < 2 ^ 31 by omega), nI_clamp (show k < 2 ^ 31 by omega)]
    obtain ⟨J, e, hJ, hf⟩ := m_changes (n := n) h v.2.1
    have hx1 : (2 + nI w : Int32) = nI (2 + 1 * w) := (ix_a 2 w).trans (congrArg nI (by omega))
    have s1 := bm_sset (J := J) (F := S.1) hJ.1 hx1 (by omega) (v := nI k) (w := k) rfl
    have e7 : (bm_w J (2 + nI w : Int32) (nI k)) 76 7 = nI (bm_fs1 S.1 (2 + 1 * w) k 7) := s1 7 (by decide)
    have h7 : bm_fs1 S.1 (2 + 1 * w) k 7 ≤ 24 := by
      unfold bm_fs1
      by_cases q : 7 = 2 + 1 * w
      · rw [if_pos q]
        have : w = 5 := by omega
        subst this
        exact k1
      · rw [if_neg q]; exact v.1.2.2.2.2.2.2.2.1.2
    obtain ⟨L, e2, f1, f2, f3⟩ := m_set_loop (n := n) (w0 := none) (w1 := some (.inl (nI w))) (w2 := some (.inl (nI k))) (w3 := none) (r := J 76 (2 + nI w : Int32).toNatClampNeg) (24 - bm_fs1 S.1 (2 + 1 * w) k 7) (bm_fs1 S.1 (2 + 1 * w) k 7) _ (bm_w J (2 + nI w : Int32) (nI k)) 1000 e7 (by omega) (by omega)
    refine ⟨L, bm_g u_X8_set ?_, hJ.wr (F' := bm_Fset S.1 w k) (fun j hj => ?_) (fun q hq => (f1 q hq).trans (va_up_ne _ _ hq)), fun q hq => (f1 q (by omega)).trans ((va_up_ne _ _ (by omega)).trans (hf q (by omega)))⟩
    · refine bm_bd m_isSetting (bm_bq (fun _ => ?_) (fun z => absurd c1 z))
      refine bm_bd e ?_
      refine bm_ie (bm_nix (N := 164) hx1 (by omega) (by decide)) ?_
      refine bm_ie (bm_nix (N := 164) hx1 (by omega) (by decide)) ?_
      exact e2.trans (bm_ok (bm_rd hJ.1 hx1 (by omega)))
    · by_cases q : 8 + bm_fs1 S.1 (2 + 1 * w) k 7 ≤ j ∧ j < 32
      · rw [f2 j q.1 q.2]
        unfold bm_Fset
        by_cases w5 : w = 5
        · subst w5
          have e8 : bm_fs1 S.1 (2 + 1 * 5) k 7 = k := if_pos rfl
          rw [e8] at q
          rw [if_pos rfl, show bm_Fgone (bm_fs1 S.1 (2 + 1 * 5) k) k j = 0 from if_pos q]; rfl
        · rw [if_neg w5]
          have e8 : bm_fs1 S.1 (2 + 1 * w) k 7 = S.1 7 := if_neg (by omega)
          rw [e8] at q
          have e9 : bm_fs1 S.1 (2 + 1 * w) k j = S.1 j := if_neg (by omega)
          have := (v.1.2.2.2.2.2.2.2.2.1 (j - 8) (by omega)).2 (by omega)
          rw [show 8 + (j - 8) = j by omega] at this
          rw [e9, this]; rfl
      · refine (f3 j q).trans ((s1 j hj).trans ?_)
        unfold bm_Fset
        by_cases w5 : w = 5
        · subst w5
          have e8 : bm_fs1 S.1 (2 + 1 * 5) k 7 = k := if_pos rfl
          rw [e8] at q
          rw [if_pos rfl, show bm_Fgone (bm_fs1 S.1 (2 + 1 * 5) k) k j = bm_fs1 S.1 (2 + 1 * 5) k j from if_neg q]
        · rw [if_neg w5]
  · rw [if_neg c1]
    refine bm_mp.rd h (bm_g u_X8_set ?_)
    exact bm_bd m_isSetting (bm_bq (fun z => absurd z c1) (fun _ => bm_ok rfl))
theorem m_contestOf (h : bm_RM I S) (v : bm_VV S) (x w : Int32) : bm_mp n I (f_X8_contestOf [.inr (some 75), .inl x, .inl w]) (sp_contestOf S x w, S) := by
  have hs := h.1
  have h6 := v.1.1
  refine bm_mp.rd h (bm_g u_X8_contestOf ?_)
  unfold sp_contestOf
  by_cases c1 : 0 ≤ x ∧ x < nI (S.1 0)
  · obtain ⟨a, a1, rfl⟩ := bm_k_of (by omega) c1
    rw [if_pos c1, nI_clamp (show a < 2 ^ 31 by omega)]
    refine bm_bd (m_isContest hs) (bm_bq (fun _ => ?_) (fun z => absurd c1 z))
    refine bm_bd m_in (bm_bq (fun hw => ?_) (fun hw => ?_))
    · obtain ⟨q, -, q2, rfl⟩ := bm_rng (lo := 0) (hi := 6) (by decide) hw (by decide)
      have ne : ∀ z, z < 7 → q ≠ z → ¬ nI q = nI z := fun z hz hne e => hne ((nI_eq (by omega) (by omega)).mp e)
      refine bm_le 4 q rfl rfl (by decide) (by omega) (fun h4 => ?_) (fun h4 => ?_)
      · refine bm_eq q 4 rfl rfl (by omega) (by decide) (fun e => ?_) (fun e => ?_)
        · subst e
          refine bm_bd (m_votesIn hs v.1 (by omega)) ?_
          exact bm_ok rfl
        · have e1 : (nI q - 1 : Int32) = nI (q - 1) := by rw [bm_lit 1]; exact pk_sub (by omega)
          refine bm_bd (m_of hs (c := a) (w := q - 1) rfl e1 (by omega)) ?_
          refine bm_ok ?_
          rcases (show q = 5 ∨ q = 6 by omega) with rfl | rfl
          · rw [if_neg (ne 0 (by decide) (by decide)), if_neg (ne 1 (by decide) (by decide)), if_neg (ne 2 (by decide) (by decide)), if_neg (ne 3 (by decide) (by decide)), if_neg (ne 4 (by decide) (by decide)), if_pos rfl]
            exact congrArg (fun z => nI (S.1 z)) (by omega)
          · rw [if_neg (ne 0 (by decide) (by decide)), if_neg (ne 1 (by decide) (by decide)), if_neg (ne 2 (by decide) (by decide)), if_neg (ne 3 (by decide) (by decide)), if_neg (ne 4 (by decide) (by decide)), if_neg (ne 5 (by decide) (by decide)), if_pos rfl]
            exact congrArg (fun z => nI (S.1 z)) (by omega)
      · refine bm_bd (m_of hs (c := a) (w := q) rfl rfl (by omega)) ?_
        refine bm_ok ?_
        rcases (show q = 0 ∨ q = 1 ∨ q = 2 ∨ q = 3 by omega) with rfl | rfl | rfl | rfl
        · rw [if_pos rfl]; exact congrArg (fun z => nI (S.1 z)) (by omega)
        · rw [if_neg (ne 0 (by decide) (by decide)), if_pos rfl]; exact congrArg (fun z => nI (S.1 z)) (by omega)
        · rw [if_neg (ne 0 (by decide) (by decide)), if_neg (ne 1 (by decide) (by decide)), if_pos rfl]; exact congrArg (fun z => nI (S.1 z)) (by omega)
        · rw [if_neg (ne 0 (by decide) (by decide)), if_neg (ne 1 (by decide) (by decide)), if_neg (ne 2 (by decide) (by decide)), if_pos rfl]; exact congrArg (fun z => nI (S.1 z)) (by omega)
    · have no : ∀ z, z < 7 → ¬ w = nI z := fun z hz e => hw (by rw [e]; exact ⟨nI_pos' (by omega), (nI_leI (a := z) (b := 6) (by omega) (by decide)).mpr (by omega)⟩)
      exact bm_ok (by rw [if_neg (no 0 (by decide)), if_neg (no 1 (by decide)), if_neg (no 2 (by decide)), if_neg (no 3 (by decide)), if_neg (no 4 (by decide)), if_neg (no 5 (by decide)), if_neg (no 6 (by decide))])
  · rw [if_neg c1]
    exact bm_bd (m_isContest hs) (bm_bq (fun z => absurd z c1) (fun _ => bm_ok rfl))
theorem m_count (h : bm_RM I S) (v : bm_VV S) (w : Int32) : bm_mp n I (f_X8_count [.inr (some 75), .inl w]) (sp_count S w, S) := by
  have hs := h.1
  refine bm_mp.rd h (bm_g u_X8_count ?_)
  unfold sp_count
  refine bm_fi (fun _ => bm_ok (hs 0 (by decide))) (fun _ => ?_)
  refine bm_fi (fun _ => bm_bd (m_allNames hs v.1) (bm_ok rfl)) (fun _ => ?_)
  refine bm_fi (fun _ => bm_bd (m_allPapers hs v.1) (bm_ok rfl)) (fun _ => ?_)
  refine bm_fi (fun _ => bm_ok (hs 1 (by decide))) (fun _ => ?_)
  refine bm_fi (fun _ => bm_ok h.2.1) (fun _ => ?_)
  refine bm_fi (fun _ => bm_ok h.2.2.2.1) (fun _ => ?_)
  by_cases c : nI 10 ≤ w ∧ w ≤ nI 15
  · rw [if_pos c]
    refine bm_bd m_in (bm_bq (fun _ => ?_) (fun z => absurd c z))
    obtain ⟨k, k1, k2, rfl⟩ := bm_rng (by decide) c (by decide)
    rw [nI_clamp (show k < 2 ^ 31 by omega)]
    have hx : (2 + nI k - 10 : Int32) = nI (2 + 1 * (k - 10)) := by rw [bm_lit 2, bm_lit 10, nI_add, pk_sub (by omega)]; congr 1; omega
    refine bm_ie (bm_nix (N := 164) hx (by omega) (by decide)) ?_
    exact bm_ok (bm_rd hs hx (by omega))
  · rw [if_neg c]
    exact bm_bd m_in (bm_bq (fun z => absurd z c) (fun _ => bm_ok rfl))
theorem m_papersOf (h : bm_RM I S) (v : bm_VV S) (x : Int32) : bm_mp n I (f_X8_papersOf [.inr (some 75), .inl x]) (sp_papersOf S x, S) := by
  have hs := h.1
  have h7 := v.1.2.2.2.2.2.2.2.1
  refine bm_mp.rd h (bm_g u_X8_papersOf ?_)
  unfold sp_papersOf
  by_cases c1 : 0 ≤ x ∧ x < nI (S.1 7)
  · obtain ⟨a, a1, rfl⟩ := bm_k_of (by omega) c1
    rw [if_pos c1, nI_clamp (show a < 2 ^ 31 by omega)]
    refine bm_bd (m_isVersion hs) (bm_bq (fun _ => ?_) (fun z => absurd c1 z))
    have hx1 : (8 + nI a : Int32) = nI (8 + 1 * a) := (ix_a 8 a).trans (congrArg nI (by omega))
    refine bm_ie (bm_nix (N := 164) hx1 (by omega) (by decide)) ?_
    exact bm_ok (bm_rd hs hx1 (by omega))
  · rw [if_neg c1]
    exact bm_bd (m_isVersion hs) (bm_bq (fun z => absurd z c1) (fun _ => bm_ok rfl))
theorem m_stands (h : bm_RM I S) (v : bm_VV S) (x y z : Int32) : bm_mp n I (f_X8_stands [.inr (some 75), .inl x, .inl y, .inl z]) (sp_stands S x y z, S) := by
  have hs := h.1
  have h6 := v.1.1
  have h7 := v.1.2.2.2.2.2.2.2.1
  refine bm_mp.rd h (bm_g u_X8_stands ?_)
  unfold sp_stands
  refine bm_bd (m_isVersion hs) (bm_bq (fun c1 => ?_) (fun c1 => ?_))
  · refine bm_bd (m_isContest hs) (bm_bq (fun c2 => ?_) (fun c2 => ?_))
    · refine bm_if (fun c3 => ?_) (fun c3 => ?_)
      · rw [if_pos ⟨⟨c1, c2⟩, c3⟩]
        obtain ⟨a, a1, rfl⟩ := bm_k_of (by omega) c1
        obtain ⟨b, b1, rfl⟩ := bm_k_of (by omega) c2
        have h8 := (v.1.2.2.2.2.2.2.2.2.2.1 b (by omega)).2.2.2
        rw [nI_clamp (show a < 2 ^ 31 by omega), nI_clamp (show b < 2 ^ 31 by omega)]
        refine bm_bd (m_names hs (by omega)) ?_
        refine bm_if (fun c4 => ?_) (fun c4 => ?_)
        · rw [if_neg (Int32.not_lt.mpr c4)]; exact bm_ok rfl
        · have c4' := Int32.not_le.mp c4
          rw [if_pos c4']
          obtain ⟨q, hq, rfl⟩ := bm_k_of (by omega) ⟨c3, c4'⟩
          rw [nI_clamp (show q < 2 ^ 31 by omega)]
          exact bm_bd (m_standing hs v.1 (by omega) (by omega) hq) (bm_ok rfl)
      · rw [if_neg (fun w => c3 w.2)]; exact bm_ok rfl
    · rw [if_neg (fun w => c2 w.1.2)]; exact bm_ok rfl
  · rw [if_neg (fun w => c1 w.1.1)]; exact bm_ok rfl
theorem m_type (h : bm_RM I S) (v : bm_VV S) (x : Int32) : bm_mp n I (f_X8_type [.inr (some 75), .inl x]) (sp_type S x) := by
  have h40 := v.2.2.2.1
  obtain ⟨hs, hp, hq, ht, hT⟩ := id h
  unfold sp_type
  by_cases c1 : nI 32 ≤ x ∧ x ≤ nI 126
  · rw [if_pos c1]
    obtain ⟨a, a1, a2, rfl⟩ := bm_rng (by decide) c1 (by decide)
    by_cases c2 : 40 ≤ S.2.2.2.1
    · rw [if_pos c2]
      refine bm_mp.rd h (bm_g u_X8_type ?_)
      refine bm_bd m_in (bm_bq (fun _ => ?_) (fun z => absurd c1 z))
      exact bm_eq S.2.2.2.1 40 ht rfl (by omega) (by decide) (fun _ => bm_ok rfl) (fun z => absurd z (by omega))
    · rw [if_neg c2, nI_clamp (show a < 2 ^ 31 by omega)]
      let I2 := va_up I 78 (upd (I 78) (I 75 4).toNatClampNeg (nI a))
      have gJ : ∀ k, k ≠ 75 → k ≠ 78 → va_up I2 75 (upd (I2 75) 4 (I 75 4 + 1)) k = I k := fun k k1 k2 => (va_up_ne _ _ k1).trans (va_up_ne _ _ k2)
      refine ⟨va_up I2 75 (upd (I2 75) 4 (I 75 4 + 1)), bm_g u_X8_type ?_, ⟨fun k hk => by rw [gJ 76 (by decide) (by decide)]; exact hs k hk, hp, fun j hj k hk => by rw [gJ 77 (by decide) (by decide)]; exact hq j hj k hk, ?_, fun j hj => ?_⟩, (bm_fz.rf.up (by decide) (by decide)).up (by decide) (by decide)⟩
      · refine bm_bd m_in (bm_bq (fun _ => ?_) (fun z => absurd c1 z))
        refine bm_eq S.2.2.2.1 40 ht rfl (by omega) (by decide) (fun z => absurd z (by omega)) (fun _ => ?_)
        refine bm_ie (bm_nix (N := 40) ht (by omega) (by decide)) ?_
        exact bm_ok (by show I 75 4 + 1 = _; rw [ht]; exact nI_1 _)
      · show I 75 4 + 1 = _
        rw [ht]; exact nI_1 _
      · have hj : j < S.2.2.2.1 + 1 := hj
        show upd (I 78) (I 75 4).toNatClampNeg (nI a) j = nI (if j = S.2.2.2.1 then a else S.2.2.2.2 j)
        rw [ht, nI_clamp (by omega)]
        unfold upd
        by_cases e : j = S.2.2.2.1
        · rw [if_pos e, if_pos e]
        · rw [if_neg e, if_neg e]; exact hT j (by omega)
  · rw [if_neg c1]
    refine bm_mp.rd h (bm_g u_X8_type ?_)
    exact bm_bd m_in (bm_bq (fun z => absurd z c1) (fun _ => bm_ok rfl))
theorem m_clearText (h : bm_RM I S) : bm_mp n I (f_X8_clearText [.inr (some 75)]) (sp_clearText S) := by
  obtain ⟨hs, hp, hq, ht, hT⟩ := id h
  refine ⟨va_up I 75 (upd (I 75) 4 0), bm_g u_X8_clearText (bm_ok ht), ⟨hs, hp, hq, rfl, fun j hj => absurd hj (Nat.not_lt_zero j)⟩, bm_fz.rf.up (by decide) (by decide)⟩
end MN
