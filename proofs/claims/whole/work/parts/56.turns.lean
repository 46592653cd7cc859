set_option maxRecDepth 100000
/-! THE LAW'S LOOP -/
section LL
variable {n : Nat} {I : Nat → Nat → Int32} {S : bm_S}
theorem bm_nix2 {x : Int32} {N k : Nat} (hx : x = nI k) (h : k < N) (hN : N ≤ 100000) : ¬ (x < 0 ∨ N ≤ x.toNatClampNeg) := by
  subst hx
  rw [nI_clamp (by omega)]
  rintro (q | q)
  · exact nI_pos (by omega) q
  · omega
theorem bm_RC.low {J : Nat → Nat → Int32} (h : bm_RC I S) (f : ∀ k, k < 75 → J k = I k) : bm_RC J S := by
  obtain ⟨p, hh, ht, hT, hL⟩ := h
  refine ⟨p.congr (fun i hi => f _ (by omega)), hh.congr (fun k k1 k2 => f k (by omega)), ?_, fun j hj => ?_, fun k hk => ?_⟩
  · rw [f 69 (by omega)]; exact ht
  · rw [f 70 (by omega)]; exact hT j hj
  · rw [f 1 (by omega), f 2 (by omega)]; exact hL k hk
theorem bm_RM.high {J : Nat → Nat → Int32} (h : bm_RM I S) (f : ∀ k, 75 ≤ k → J k = I k) : bm_RM J S := by
  obtain ⟨hs, hp, hq, ht, hT⟩ := h
  refine ⟨fun k hk => ?_, ?_, fun j hj k hk => ?_, ?_, fun j hj => ?_⟩
  · rw [f 76 (by omega)]; exact hs k hk
  · rw [f 75 (by omega)]; exact hp
  · rw [f 77 (by omega)]; exact hq j hj k hk
  · rw [f 75 (by omega)]; exact ht
  · rw [f 78 (by omega)]; exact hT j hj
theorem law_two {q : Int32 × bm_S} {g7 g8 : bm_M → Option bm_R} (hM : bm_RM I S) (c : bm_cp n I g7 q) (m : ∀ J, bm_RM J S → bm_mp n J g8 q) : ∃ J K, g7 (bm_mk n I) = some (some (.inl q.1), bm_mk n J) ∧ g8 (bm_mk n J) = some (some (.inl q.1), bm_mk n K) ∧ J 3 = I 3 ∧ bm_RC K q.2 ∧ bm_RM K q.2 := by
  obtain ⟨J, e, hJ, fJ⟩ := c
  obtain ⟨K, e2, hK, fK⟩ := m J (hM.high (fun k hk => fJ k (by omega)))
  exact ⟨J, K, e, e2, fJ 3 (by omega), hJ.low (fun k hk => fK k (by omega)), hK⟩
theorem tn_contest {i o : Nat} (hC : bm_RC I S) (hM : bm_RM I S) (v : bm_VV S) (hi : i + 6 ≤ n) (hn : n ≤ 3072) : ∃ K S2, bm_rn z_law (o + 1) 136 ([some (.inr (some 3)), some (.inr (some 4)), some (.inr (some 75)), some (.inl (nI i))], [], bm_mk n I) = bm_rn z_law o 18 ([some (.inr (some 3)), some (.inr (some 4)), some (.inr (some 75)), some (.inl (nI i + 6))], [], bm_mk n K) ∧ bm_RC K S2 ∧ bm_RM K S2 ∧ bm_VV S2 := by
  obtain ⟨J, K, e1, e2, e3, hC2, hM2⟩ := law_two (n := n) (q := (sp_contest S (I 3 (nI i + 1 : Int32).toNatClampNeg) (I 3 (nI i + 2 : Int32).toNatClampNeg))) hM (c_contest hC v (I 3 (nI i + 1 : Int32).toNatClampNeg) (I 3 (nI i + 2 : Int32).toNatClampNeg)) (fun J h => m_contest h v (I 3 (nI i + 1 : Int32).toNatClampNeg) (I 3 (nI i + 2 : Int32).toNatClampNeg))
  have e2 : f_X8_contest [.inr (some 75), .inl (J 3 (nI i + 1 : Int32).toNatClampNeg), .inl (J 3 (nI i + 2 : Int32).toNatClampNeg)] (bm_mk n J) = some (some (.inl (sp_contest S (I 3 (nI i + 1 : Int32).toNatClampNeg) (I 3 (nI i + 2 : Int32).toNatClampNeg)).1), bm_mk n K) := by
    rw [e3]; exact e2
  refine ⟨K, _, ?_, hC2, hM2, (vk_contest v (I 3 (nI i + 1 : Int32).toNatClampNeg) (I 3 (nI i + 2 : Int32).toNatClampNeg))⟩
  refine bm_ie (bm_nix2 (N := n) (nI_add i 1) (by omega) (by omega)) ?_
  refine bm_ie (bm_nix2 (N := n) (nI_add i 2) (by omega) (by omega)) ?_
  refine bm_bd e1 ?_
  refine bm_ie (bm_nix2 (N := n) (nI_add i 1) (by omega) (by omega)) ?_
  refine bm_ie (bm_nix2 (N := n) (nI_add i 2) (by omega) (by omega)) ?_
  refine bm_bd e2 ?_
  refine bm_it rfl ?_
  rfl
theorem tn_name {i o : Nat} (hC : bm_RC I S) (hM : bm_RM I S) (v : bm_VV S) (hi : i + 6 ≤ n) (hn : n ≤ 3072) : ∃ K S2, bm_rn z_law (o + 1) 169 ([some (.inr (some 3)), some (.inr (some 4)), some (.inr (some 75)), some (.inl (nI i))], [], bm_mk n I) = bm_rn z_law o 18 ([some (.inr (some 3)), some (.inr (some 4)), some (.inr (some 75)), some (.inl (nI i + 6))], [], bm_mk n K) ∧ bm_RC K S2 ∧ bm_RM K S2 ∧ bm_VV S2 := by
  obtain ⟨J, K, e1, e2, e3, hC2, hM2⟩ := law_two (n := n) (q := (sp_name S (I 3 (nI i + 1 : Int32).toNatClampNeg) (I 3 (nI i + 2 : Int32).toNatClampNeg))) hM (c_name hC v (I 3 (nI i + 1 : Int32).toNatClampNeg) (I 3 (nI i + 2 : Int32).toNatClampNeg)) (fun J h => m_name h v (I 3 (nI i + 1 : Int32).toNatClampNeg) (I 3 (nI i + 2 : Int32).toNatClampNeg))
  have e2 : f_X8_name [.inr (some 75), .inl (J 3 (nI i + 1 : Int32).toNatClampNeg), .inl (J 3 (nI i + 2 : Int32).toNatClampNeg)] (bm_mk n J) = some (some (.inl (sp_name S (I 3 (nI i + 1 : Int32).toNatClampNeg) (I 3 (nI i + 2 : Int32).toNatClampNeg)).1), bm_mk n K) := by
    rw [e3]; exact e2
  refine ⟨K, _, ?_, hC2, hM2, (vk_name v (I 3 (nI i + 1 : Int32).toNatClampNeg) (I 3 (nI i + 2 : Int32).toNatClampNeg))⟩
  refine bm_ie (bm_nix2 (N := n) (nI_add i 1) (by omega) (by omega)) ?_
  refine bm_ie (bm_nix2 (N := n) (nI_add i 2) (by omega) (by omega)) ?_
  refine bm_bd e1 ?_
  refine bm_ie (bm_nix2 (N := n) (nI_add i 1) (by omega) (by omega)) ?_
  refine bm_ie (bm_nix2 (N := n) (nI_add i 2) (by omega) (by omega)) ?_
  refine bm_bd e2 ?_
  refine bm_it rfl ?_
  rfl
theorem tn_way {i o : Nat} (hC : bm_RC I S) (hM : bm_RM I S) (v : bm_VV S) (hi : i + 6 ≤ n) (hn : n ≤ 3072) : ∃ K S2, bm_rn z_law (o + 1) 202 ([some (.inr (some 3)), some (.inr (some 4)), some (.inr (some 75)), some (.inl (nI i))], [], bm_mk n I) = bm_rn z_law o 18 ([some (.inr (some 3)), some (.inr (some 4)), some (.inr (some 75)), some (.inl (nI i + 6))], [], bm_mk n K) ∧ bm_RC K S2 ∧ bm_RM K S2 ∧ bm_VV S2 := by
  obtain ⟨J, K, e1, e2, e3, hC2, hM2⟩ := law_two (n := n) (q := (sp_way S (I 3 (nI i + 1 : Int32).toNatClampNeg) (I 3 (nI i + 2 : Int32).toNatClampNeg))) hM (c_way hC v (I 3 (nI i + 1 : Int32).toNatClampNeg) (I 3 (nI i + 2 : Int32).toNatClampNeg)) (fun J h => m_way h v (I 3 (nI i + 1 : Int32).toNatClampNeg) (I 3 (nI i + 2 : Int32).toNatClampNeg))
  have e2 : f_X8_way [.inr (some 75), .inl (J 3 (nI i + 1 : Int32).toNatClampNeg), .inl (J 3 (nI i + 2 : Int32).toNatClampNeg)] (bm_mk n J) = some (some (.inl (sp_way S (I 3 (nI i + 1 : Int32).toNatClampNeg) (I 3 (nI i + 2 : Int32).toNatClampNeg)).1), bm_mk n K) := by
    rw [e3]; exact e2
  refine ⟨K, _, ?_, hC2, hM2, (vk_way v (I 3 (nI i + 1 : Int32).toNatClampNeg) (I 3 (nI i + 2 : Int32).toNatClampNeg))⟩
  refine bm_ie (bm_nix2 (N := n) (nI_add i 1) (by omega) (by omega)) ?_
  refine bm_ie (bm_nix2 (N := n) (nI_add i 2) (by omega) (by omega)) ?_
  refine bm_bd e1 ?_
  refine bm_ie (bm_nix2 (N := n) (nI_add i 1) (by omega) (by omega)) ?_
  refine bm_ie (bm_nix2 (N := n) (nI_add i 2) (by omega) (by omega)) ?_
  refine bm_bd e2 ?_
  refine bm_it rfl ?_
  rfl
theorem tn_papers {i o : Nat} (hC : bm_RC I S) (hM : bm_RM I S) (v : bm_VV S) (hi : i + 6 ≤ n) (hn : n ≤ 3072) : ∃ K S2, bm_rn z_law (o + 1) 235 ([some (.inr (some 3)), some (.inr (some 4)), some (.inr (some 75)), some (.inl (nI i))], [], bm_mk n I) = bm_rn z_law o 18 ([some (.inr (some 3)), some (.inr (some 4)), some (.inr (some 75)), some (.inl (nI i + 6))], [], bm_mk n K) ∧ bm_RC K S2 ∧ bm_RM K S2 ∧ bm_VV S2 := by
  obtain ⟨J, K, e1, e2, e3, hC2, hM2⟩ := law_two (n := n) (q := (sp_papers S (I 3 (nI i + 1 : Int32).toNatClampNeg) (I 3 (nI i + 2 : Int32).toNatClampNeg))) hM (c_papers hC v (I 3 (nI i + 1 : Int32).toNatClampNeg) (I 3 (nI i + 2 : Int32).toNatClampNeg)) (fun J h => m_papers h v (I 3 (nI i + 1 : Int32).toNatClampNeg) (I 3 (nI i + 2 : Int32).toNatClampNeg))
  have e2 : f_X8_papers [.inr (some 75), .inl (J 3 (nI i + 1 : Int32).toNatClampNeg), .inl (J 3 (nI i + 2 : Int32).toNatClampNeg)] (bm_mk n J) = some (some (.inl (sp_papers S (I 3 (nI i + 1 : Int32).toNatClampNeg) (I 3 (nI i + 2 : Int32).toNatClampNeg)).1), bm_mk n K) := by
    rw [e3]; exact e2
  refine ⟨K, _, ?_, hC2, hM2, (vk_papers v (I 3 (nI i + 1 : Int32).toNatClampNeg) (I 3 (nI i + 2 : Int32).toNatClampNeg))⟩
  refine bm_ie (bm_nix2 (N := n) (nI_add i 1) (by omega) (by omega)) ?_
  refine bm_ie (bm_nix2 (N := n) (nI_add i 2) (by omega) (by omega)) ?_
  refine bm_bd e1 ?_
  refine bm_ie (bm_nix2 (N := n) (nI_add i 1) (by omega) (by omega)) ?_
  refine bm_ie (bm_nix2 (N := n) (nI_add i 2) (by omega) (by omega)) ?_
  refine bm_bd e2 ?_
  refine bm_it rfl ?_
  rfl
theorem tn_set {i o : Nat} (hC : bm_RC I S) (hM : bm_RM I S) (v : bm_VV S) (hi : i + 6 ≤ n) (hn : n ≤ 3072) : ∃ K S2, bm_rn z_law (o + 1) 268 ([some (.inr (some 3)), some (.inr (some 4)), some (.inr (some 75)), some (.inl (nI i))], [], bm_mk n I) = bm_rn z_law o 18 ([some (.inr (some 3)), some (.inr (some 4)), some (.inr (some 75)), some (.inl (nI i + 6))], [], bm_mk n K) ∧ bm_RC K S2 ∧ bm_RM K S2 ∧ bm_VV S2 := by
  obtain ⟨J, K, e1, e2, e3, hC2, hM2⟩ := law_two (n := n) (q := (sp_set S (I 3 (nI i + 1 : Int32).toNatClampNeg) (I 3 (nI i + 2 : Int32).toNatClampNeg))) hM (c_set hC (I 3 (nI i + 1 : Int32).toNatClampNeg) (I 3 (nI i + 2 : Int32).toNatClampNeg)) (fun J h => m_set h v (I 3 (nI i + 1 : Int32).toNatClampNeg) (I 3 (nI i + 2 : Int32).toNatClampNeg))
  have e2 : f_X8_set [.inr (some 75), .inl (J 3 (nI i + 1 : Int32).toNatClampNeg), .inl (J 3 (nI i + 2 : Int32).toNatClampNeg)] (bm_mk n J) = some (some (.inl (sp_set S (I 3 (nI i + 1 : Int32).toNatClampNeg) (I 3 (nI i + 2 : Int32).toNatClampNeg)).1), bm_mk n K) := by
    rw [e3]; exact e2
  refine ⟨K, _, ?_, hC2, hM2, (vk_set v (I 3 (nI i + 1 : Int32).toNatClampNeg) (I 3 (nI i + 2 : Int32).toNatClampNeg))⟩
  refine bm_ie (bm_nix2 (N := n) (nI_add i 1) (by omega) (by omega)) ?_
  refine bm_ie (bm_nix2 (N := n) (nI_add i 2) (by omega) (by omega)) ?_
  refine bm_bd e1 ?_
  refine bm_ie (bm_nix2 (N := n) (nI_add i 1) (by omega) (by omega)) ?_
  refine bm_ie (bm_nix2 (N := n) (nI_add i 2) (by omega) (by omega)) ?_
  refine bm_bd e2 ?_
  refine bm_it rfl ?_
  rfl
theorem tn_clear {i o : Nat} (hC : bm_RC I S) (hM : bm_RM I S) (v : bm_VV S) (hi : i + 6 ≤ n) (hn : n ≤ 3072) : ∃ K S2, bm_rn z_law (o + 1) 301 ([some (.inr (some 3)), some (.inr (some 4)), some (.inr (some 75)), some (.inl (nI i))], [], bm_mk n I) = bm_rn z_law o 18 ([some (.inr (some 3)), some (.inr (some 4)), some (.inr (some 75)), some (.inl (nI i + 6))], [], bm_mk n K) ∧ bm_RC K S2 ∧ bm_RM K S2 ∧ bm_VV S2 := by
  obtain ⟨J, K, e1, e2, e3, hC2, hM2⟩ := law_two (n := n) (q := (sp_clear S)) hM (c_clear hC) (fun J h => m_clear h v)
  have e2 : f_X8_clear [.inr (some 75)] (bm_mk n J) = some (some (.inl (sp_clear S).1), bm_mk n K) := by
    exact e2
  refine ⟨K, _, ?_, hC2, hM2, (vk_clear v)⟩
  refine bm_bd e1 ?_
  refine bm_bd e2 ?_
  refine bm_it rfl ?_
  rfl
theorem tn_contestOf {i o : Nat} (hC : bm_RC I S) (hM : bm_RM I S) (v : bm_VV S) (hi : i + 6 ≤ n) (hn : n ≤ 3072) : ∃ K S2, bm_rn z_law (o + 1) 314 ([some (.inr (some 3)), some (.inr (some 4)), some (.inr (some 75)), some (.inl (nI i))], [], bm_mk n I) = bm_rn z_law o 18 ([some (.inr (some 3)), some (.inr (some 4)), some (.inr (some 75)), some (.inl (nI i + 6))], [], bm_mk n K) ∧ bm_RC K S2 ∧ bm_RM K S2 ∧ bm_VV S2 := by
  obtain ⟨J, K, e1, e2, e3, hC2, hM2⟩ := law_two (n := n) (q := (sp_contestOf S (I 3 (nI i + 1 : Int32).toNatClampNeg) (I 3 (nI i + 2 : Int32).toNatClampNeg), S)) hM (c_contestOf hC v (I 3 (nI i + 1 : Int32).toNatClampNeg) (I 3 (nI i + 2 : Int32).toNatClampNeg)) (fun J h => m_contestOf h v (I 3 (nI i + 1 : Int32).toNatClampNeg) (I 3 (nI i + 2 : Int32).toNatClampNeg))
  have e2 : f_X8_contestOf [.inr (some 75), .inl (J 3 (nI i + 1 : Int32).toNatClampNeg), .inl (J 3 (nI i + 2 : Int32).toNatClampNeg)] (bm_mk n J) = some (some (.inl (sp_contestOf S (I 3 (nI i + 1 : Int32).toNatClampNeg) (I 3 (nI i + 2 : Int32).toNatClampNeg), S).1), bm_mk n K) := by
    rw [e3]; exact e2
  refine ⟨K, _, ?_, hC2, hM2, v⟩
  refine bm_ie (bm_nix2 (N := n) (nI_add i 1) (by omega) (by omega)) ?_
  refine bm_ie (bm_nix2 (N := n) (nI_add i 2) (by omega) (by omega)) ?_
  refine bm_bd e1 ?_
  refine bm_ie (bm_nix2 (N := n) (nI_add i 1) (by omega) (by omega)) ?_
  refine bm_ie (bm_nix2 (N := n) (nI_add i 2) (by omega) (by omega)) ?_
  refine bm_bd e2 ?_
  refine bm_it rfl ?_
  rfl
theorem tn_nameOf {i o : Nat} (hC : bm_RC I S) (hM : bm_RM I S) (v : bm_VV S) (hi : i + 6 ≤ n) (hn : n ≤ 3072) : ∃ K S2, bm_rn z_law (o + 1) 347 ([some (.inr (some 3)), some (.inr (some 4)), some (.inr (some 75)), some (.inl (nI i))], [], bm_mk n I) = bm_rn z_law o 18 ([some (.inr (some 3)), some (.inr (some 4)), some (.inr (some 75)), some (.inl (nI i + 6))], [], bm_mk n K) ∧ bm_RC K S2 ∧ bm_RM K S2 ∧ bm_VV S2 := by
  obtain ⟨J, K, e1, e2, e3, hC2, hM2⟩ := law_two (n := n) (q := (sp_nameOf S (I 3 (nI i + 1 : Int32).toNatClampNeg) (I 3 (nI i + 2 : Int32).toNatClampNeg) (I 3 (nI i + 3 : Int32).toNatClampNeg), S)) hM (c_nameOf hC v (I 3 (nI i + 1 : Int32).toNatClampNeg) (I 3 (nI i + 2 : Int32).toNatClampNeg) (I 3 (nI i + 3 : Int32).toNatClampNeg)) (fun J h => m_nameOf h v (I 3 (nI i + 1 : Int32).toNatClampNeg) (I 3 (nI i + 2 : Int32).toNatClampNeg) (I 3 (nI i + 3 : Int32).toNatClampNeg))
  have e2 : f_X8_nameOf [.inr (some 75), .inl (J 3 (nI i + 1 : Int32).toNatClampNeg), .inl (J 3 (nI i + 2 : Int32).toNatClampNeg), .inl (J 3 (nI i + 3 : Int32).toNatClampNeg)] (bm_mk n J) = some (some (.inl (sp_nameOf S (I 3 (nI i + 1 : Int32).toNatClampNeg) (I 3 (nI i + 2 : Int32).toNatClampNeg) (I 3 (nI i + 3 : Int32).toNatClampNeg), S).1), bm_mk n K) := by
    rw [e3]; exact e2
  refine ⟨K, _, ?_, hC2, hM2, v⟩
  refine bm_ie (bm_nix2 (N := n) (nI_add i 1) (by omega) (by omega)) ?_
  refine bm_ie (bm_nix2 (N := n) (nI_add i 2) (by omega) (by omega)) ?_
  refine bm_ie (bm_nix2 (N := n) (nI_add i 3) (by omega) (by omega)) ?_
  refine bm_bd e1 ?_
  refine bm_ie (bm_nix2 (N := n) (nI_add i 1) (by omega) (by omega)) ?_
  refine bm_ie (bm_nix2 (N := n) (nI_add i 2) (by omega) (by omega)) ?_
  refine bm_ie (bm_nix2 (N := n) (nI_add i 3) (by omega) (by omega)) ?_
  refine bm_bd e2 ?_
  refine bm_it rfl ?_
  rfl
theorem tn_count {i o : Nat} (hC : bm_RC I S) (hM : bm_RM I S) (v : bm_VV S) (hi : i + 6 ≤ n) (hn : n ≤ 3072) : ∃ K S2, bm_rn z_law (o + 1) 390 ([some (.inr (some 3)), some (.inr (some 4)), some (.inr (some 75)), some (.inl (nI i))], [], bm_mk n I) = bm_rn z_law o 18 ([some (.inr (some 3)), some (.inr (some 4)), some (.inr (some 75)), some (.inl (nI i + 6))], [], bm_mk n K) ∧ bm_RC K S2 ∧ bm_RM K S2 ∧ bm_VV S2 := by
  obtain ⟨J, K, e1, e2, e3, hC2, hM2⟩ := law_two (n := n) (q := (sp_count S (I 3 (nI i + 1 : Int32).toNatClampNeg), S)) hM (c_count hC v (I 3 (nI i + 1 : Int32).toNatClampNeg)) (fun J h => m_count h v (I 3 (nI i + 1 : Int32).toNatClampNeg))
  have e2 : f_X8_count [.inr (some 75), .inl (J 3 (nI i + 1 : Int32).toNatClampNeg)] (bm_mk n J) = some (some (.inl (sp_count S (I 3 (nI i + 1 : Int32).toNatClampNeg), S).1), bm_mk n K) := by
    rw [e3]; exact e2
  refine ⟨K, _, ?_, hC2, hM2, v⟩
  refine bm_ie (bm_nix2 (N := n) (nI_add i 1) (by omega) (by omega)) ?_
  refine bm_bd e1 ?_
  refine bm_ie (bm_nix2 (N := n) (nI_add i 1) (by omega) (by omega)) ?_
  refine bm_bd e2 ?_
  refine bm_it rfl ?_
  rfl
theorem tn_papersOf {i o : Nat} (hC : bm_RC I S) (hM : bm_RM I S) (v : bm_VV S) (hi : i + 6 ≤ n) (hn : n ≤ 3072) : ∃ K S2, bm_rn z_law (o + 1) 413 ([some (.inr (some 3)), some (.inr (some 4)), some (.inr (some 75)), some (.inl (nI i))], [], bm_mk n I) = bm_rn z_law o 18 ([some (.inr (some 3)), some (.inr (some 4)), some (.inr (some 75)), some (.inl (nI i + 6))], [], bm_mk n K) ∧ bm_RC K S2 ∧ bm_RM K S2 ∧ bm_VV S2 := by
  obtain ⟨J, K, e1, e2, e3, hC2, hM2⟩ := law_two (n := n) (q := (sp_papersOf S (I 3 (nI i + 1 : Int32).toNatClampNeg), S)) hM (c_papersOf hC v (I 3 (nI i + 1 : Int32).toNatClampNeg)) (fun J h => m_papersOf h v (I 3 (nI i + 1 : Int32).toNatClampNeg))
  have e2 : f_X8_papersOf [.inr (some 75), .inl (J 3 (nI i + 1 : Int32).toNatClampNeg)] (bm_mk n J) = some (some (.inl (sp_papersOf S (I 3 (nI i + 1 : Int32).toNatClampNeg), S).1), bm_mk n K) := by
    rw [e3]; exact e2
  refine ⟨K, _, ?_, hC2, hM2, v⟩
  refine bm_ie (bm_nix2 (N := n) (nI_add i 1) (by omega) (by omega)) ?_
  refine bm_bd e1 ?_
  refine bm_ie (bm_nix2 (N := n) (nI_add i 1) (by omega) (by omega)) ?_
  refine bm_bd e2 ?_
  refine bm_it rfl ?_
  rfl
theorem tn_stands {i o : Nat} (hC : bm_RC I S) (hM : bm_RM I S) (v : bm_VV S) (hi : i + 6 ≤ n) (hn : n ≤ 3072) : ∃ K S2, bm_rn z_law (o + 1) 436 ([some (.inr (some 3)), some (.inr (some 4)), some (.inr (some 75)), some (.inl (nI i))], [], bm_mk n I) = bm_rn z_law o 18 ([some (.inr (some 3)), some (.inr (some 4)), some (.inr (some 75)), some (.inl (nI i + 6))], [], bm_mk n K) ∧ bm_RC K S2 ∧ bm_RM K S2 ∧ bm_VV S2 := by
  obtain ⟨J, K, e1, e2, e3, hC2, hM2⟩ := law_two (n := n) (q := (sp_stands S (I 3 (nI i + 1 : Int32).toNatClampNeg) (I 3 (nI i + 2 : Int32).toNatClampNeg) (I 3 (nI i + 3 : Int32).toNatClampNeg), S)) hM (c_stands hC v (I 3 (nI i + 1 : Int32).toNatClampNeg) (I 3 (nI i + 2 : Int32).toNatClampNeg) (I 3 (nI i + 3 : Int32).toNatClampNeg)) (fun J h => m_stands h v (I 3 (nI i + 1 : Int32).toNatClampNeg) (I 3 (nI i + 2 : Int32).toNatClampNeg) (I 3 (nI i + 3 : Int32).toNatClampNeg))
  have e2 : f_X8_stands [.inr (some 75), .inl (J 3 (nI i + 1 : Int32).toNatClampNeg), .inl (J 3 (nI i + 2 : Int32).toNatClampNeg), .inl (J 3 (nI i + 3 : Int32).toNatClampNeg)] (bm_mk n J) = some (some (.inl (sp_stands S (I 3 (nI i + 1 : Int32).toNatClampNeg) (I 3 (nI i + 2 : Int32).toNatClampNeg) (I 3 (nI i + 3 : Int32).toNatClampNeg), S).1), bm_mk n K) := by
    rw [e3]; exact e2
  refine ⟨K, _, ?_, hC2, hM2, v⟩
  refine bm_ie (bm_nix2 (N := n) (nI_add i 1) (by omega) (by omega)) ?_
  refine bm_ie (bm_nix2 (N := n) (nI_add i 2) (by omega) (by omega)) ?_
  refine bm_ie (bm_nix2 (N := n) (nI_add i 3) (by omega) (by omega)) ?_
  refine bm_bd e1 ?_
  refine bm_ie (bm_nix2 (N := n) (nI_add i 1) (by omega) (by omega)) ?_
  refine bm_ie (bm_nix2 (N := n) (nI_add i 2) (by omega) (by omega)) ?_
  refine bm_ie (bm_nix2 (N := n) (nI_add i 3) (by omega) (by omega)) ?_
  refine bm_bd e2 ?_
  refine bm_it rfl ?_
  rfl
theorem tn_lies {i o : Nat} (hC : bm_RC I S) (hM : bm_RM I S) (v : bm_VV S) (hi : i + 6 ≤ n) (hn : n ≤ 3072) : ∃ K S2, bm_rn z_law (o + 1) 479 ([some (.inr (some 3)), some (.inr (some 4)), some (.inr (some 75)), some (.inl (nI i))], [], bm_mk n I) = bm_rn z_law o 18 ([some (.inr (some 3)), some (.inr (some 4)), some (.inr (some 75)), some (.inl (nI i + 6))], [], bm_mk n K) ∧ bm_RC K S2 ∧ bm_RM K S2 ∧ bm_VV S2 := by
  obtain ⟨J, K, e1, e2, e3, hC2, hM2⟩ := law_two (n := n) (q := (sp_lies S (I 3 (nI i + 1 : Int32).toNatClampNeg) (I 3 (nI i + 2 : Int32).toNatClampNeg) (I 3 (nI i + 3 : Int32).toNatClampNeg) (I 3 (nI i + 4 : Int32).toNatClampNeg), S)) hM (c_lies hC v (I 3 (nI i + 1 : Int32).toNatClampNeg) (I 3 (nI i + 2 : Int32).toNatClampNeg) (I 3 (nI i + 3 : Int32).toNatClampNeg) (I 3 (nI i + 4 : Int32).toNatClampNeg)) (fun J h => m_lies h v (I 3 (nI i + 1 : Int32).toNatClampNeg) (I 3 (nI i + 2 : Int32).toNatClampNeg) (I 3 (nI i + 3 : Int32).toNatClampNeg) (I 3 (nI i + 4 : Int32).toNatClampNeg))
  have e2 : f_X8_lies [.inr (some 75), .inl (J 3 (nI i + 1 : Int32).toNatClampNeg), .inl (J 3 (nI i + 2 : Int32).toNatClampNeg), .inl (J 3 (nI i + 3 : Int32).toNatClampNeg), .inl (J 3 (nI i + 4 : Int32).toNatClampNeg)] (bm_mk n J) = some (some (.inl (sp_lies S (I 3 (nI i + 1 : Int32).toNatClampNeg) (I 3 (nI i + 2 : Int32).toNatClampNeg) (I 3 (nI i + 3 : Int32).toNatClampNeg) (I 3 (nI i + 4 : Int32).toNatClampNeg), S).1), bm_mk n K) := by
    rw [e3]; exact e2
  refine ⟨K, _, ?_, hC2, hM2, v⟩
  refine bm_ie (bm_nix2 (N := n) (nI_add i 1) (by omega) (by omega)) ?_
  refine bm_ie (bm_nix2 (N := n) (nI_add i 2) (by omega) (by omega)) ?_
  refine bm_ie (bm_nix2 (N := n) (nI_add i 3) (by omega) (by omega)) ?_
  refine bm_ie (bm_nix2 (N := n) (nI_add i 4) (by omega) (by omega)) ?_
  refine bm_bd e1 ?_
  refine bm_ie (bm_nix2 (N := n) (nI_add i 1) (by omega) (by omega)) ?_
  refine bm_ie (bm_nix2 (N := n) (nI_add i 2) (by omega) (by omega)) ?_
  refine bm_ie (bm_nix2 (N := n) (nI_add i 3) (by omega) (by omega)) ?_
  refine bm_ie (bm_nix2 (N := n) (nI_add i 4) (by omega) (by omega)) ?_
  refine bm_bd e2 ?_
  refine bm_it rfl ?_
  rfl
theorem tn_markAt {i o : Nat} (hC : bm_RC I S) (hM : bm_RM I S) (v : bm_VV S) (hi : i + 6 ≤ n) (hn : n ≤ 3072) : ∃ K S2, bm_rn z_law (o + 1) 532 ([some (.inr (some 3)), some (.inr (some 4)), some (.inr (some 75)), some (.inl (nI i))], [], bm_mk n I) = bm_rn z_law o 18 ([some (.inr (some 3)), some (.inr (some 4)), some (.inr (some 75)), some (.inl (nI i + 6))], [], bm_mk n K) ∧ bm_RC K S2 ∧ bm_RM K S2 ∧ bm_VV S2 := by
  obtain ⟨J, K, e1, e2, e3, hC2, hM2⟩ := law_two (n := n) (q := (sp_markAt S (I 3 (nI i + 1 : Int32).toNatClampNeg) (I 3 (nI i + 2 : Int32).toNatClampNeg) (I 3 (nI i + 3 : Int32).toNatClampNeg) (I 3 (nI i + 4 : Int32).toNatClampNeg) (I 3 (nI i + 5 : Int32).toNatClampNeg), S)) hM (c_markAt hC v (I 3 (nI i + 1 : Int32).toNatClampNeg) (I 3 (nI i + 2 : Int32).toNatClampNeg) (I 3 (nI i + 3 : Int32).toNatClampNeg) (I 3 (nI i + 4 : Int32).toNatClampNeg) (I 3 (nI i + 5 : Int32).toNatClampNeg)) (fun J h => m_markAt h v (I 3 (nI i + 1 : Int32).toNatClampNeg) (I 3 (nI i + 2 : Int32).toNatClampNeg) (I 3 (nI i + 3 : Int32).toNatClampNeg) (I 3 (nI i + 4 : Int32).toNatClampNeg) (I 3 (nI i + 5 : Int32).toNatClampNeg))
  have e2 : f_X8_markAt [.inr (some 75), .inl (J 3 (nI i + 1 : Int32).toNatClampNeg), .inl (J 3 (nI i + 2 : Int32).toNatClampNeg), .inl (J 3 (nI i + 3 : Int32).toNatClampNeg), .inl (J 3 (nI i + 4 : Int32).toNatClampNeg), .inl (J 3 (nI i + 5 : Int32).toNatClampNeg)] (bm_mk n J) = some (some (.inl (sp_markAt S (I 3 (nI i + 1 : Int32).toNatClampNeg) (I 3 (nI i + 2 : Int32).toNatClampNeg) (I 3 (nI i + 3 : Int32).toNatClampNeg) (I 3 (nI i + 4 : Int32).toNatClampNeg) (I 3 (nI i + 5 : Int32).toNatClampNeg), S).1), bm_mk n K) := by
    rw [e3]; exact e2
  refine ⟨K, _, ?_, hC2, hM2, v⟩
  refine bm_ie (bm_nix2 (N := n) (nI_add i 1) (by omega) (by omega)) ?_
  refine bm_ie (bm_nix2 (N := n) (nI_add i 2) (by omega) (by omega)) ?_
  refine bm_ie (bm_nix2 (N := n) (nI_add i 3) (by omega) (by omega)) ?_
  refine bm_ie (bm_nix2 (N := n) (nI_add i 4) (by omega) (by omega)) ?_
  refine bm_ie (bm_nix2 (N := n) (nI_add i 5) (by omega) (by omega)) ?_
  refine bm_bd e1 ?_
  refine bm_ie (bm_nix2 (N := n) (nI_add i 1) (by omega) (by omega)) ?_
  refine bm_ie (bm_nix2 (N := n) (nI_add i 2) (by omega) (by omega)) ?_
  refine bm_ie (bm_nix2 (N := n) (nI_add i 3) (by omega) (by omega)) ?_
  refine bm_ie (bm_nix2 (N := n) (nI_add i 4) (by omega) (by omega)) ?_
  refine bm_ie (bm_nix2 (N := n) (nI_add i 5) (by omega) (by omega)) ?_
  refine bm_bd e2 ?_
  refine bm_it rfl ?_
  rfl
theorem tn_paper {i o : Nat} (hC : bm_RC I S) (hM : bm_RM I S) (v : bm_VV S) (hi : i + 6 ≤ n) (hn : n ≤ 3072) : ∃ K S2, bm_rn z_law (o + 1) 595 ([some (.inr (some 3)), some (.inr (some 4)), some (.inr (some 75)), some (.inl (nI i))], [], bm_mk n I) = bm_rn z_law o 18 ([some (.inr (some 3)), some (.inr (some 4)), some (.inr (some 75)), some (.inl (nI i + 6))], [], bm_mk n K) ∧ bm_RC K S2 ∧ bm_RM K S2 ∧ bm_VV S2 := by
  obtain ⟨J, K, e1, e2, e3, hC2, hM2⟩ := law_two (n := n) (q := (sp_paper S (I 3 (nI i + 1 : Int32).toNatClampNeg) (I 3 (nI i + 2 : Int32).toNatClampNeg), S)) hM (c_paper hC v (I 3 (nI i + 1 : Int32).toNatClampNeg) (I 3 (nI i + 2 : Int32).toNatClampNeg)) (fun J h => m_paper h v (I 3 (nI i + 1 : Int32).toNatClampNeg) (I 3 (nI i + 2 : Int32).toNatClampNeg))
  have e2 : f_X8_paper [.inr (some 75), .inl (J 3 (nI i + 1 : Int32).toNatClampNeg), .inl (J 3 (nI i + 2 : Int32).toNatClampNeg)] (bm_mk n J) = some (some (.inl (sp_paper S (I 3 (nI i + 1 : Int32).toNatClampNeg) (I 3 (nI i + 2 : Int32).toNatClampNeg), S).1), bm_mk n K) := by
    rw [e3]; exact e2
  refine ⟨K, _, ?_, hC2, hM2, v⟩
  refine bm_ie (bm_nix2 (N := n) (nI_add i 1) (by omega) (by omega)) ?_
  refine bm_ie (bm_nix2 (N := n) (nI_add i 2) (by omega) (by omega)) ?_
  refine bm_bd e1 ?_
  refine bm_ie (bm_nix2 (N := n) (nI_add i 1) (by omega) (by omega)) ?_
  refine bm_ie (bm_nix2 (N := n) (nI_add i 2) (by omega) (by omega)) ?_
  refine bm_bd e2 ?_
  refine bm_it rfl ?_
  rfl
theorem tn_spread {i o : Nat} (hC : bm_RC I S) (hM : bm_RM I S) (v : bm_VV S) (hi : i + 6 ≤ n) (hn : n ≤ 3072) : ∃ K S2, bm_rn z_law (o + 1) 628 ([some (.inr (some 3)), some (.inr (some 4)), some (.inr (some 75)), some (.inl (nI i))], [], bm_mk n I) = bm_rn z_law o 18 ([some (.inr (some 3)), some (.inr (some 4)), some (.inr (some 75)), some (.inl (nI i + 6))], [], bm_mk n K) ∧ bm_RC K S2 ∧ bm_RM K S2 ∧ bm_VV S2 := by
  obtain ⟨J, K, e1, e2, e3, hC2, hM2⟩ := law_two (n := n) (q := (sp_spread S (I 3 (nI i + 1 : Int32).toNatClampNeg), S)) hM (c_spread hC v (I 3 (nI i + 1 : Int32).toNatClampNeg)) (fun J h => m_spread h v (I 3 (nI i + 1 : Int32).toNatClampNeg))
  have e2 : f_X8_spread [.inr (some 75), .inl (J 3 (nI i + 1 : Int32).toNatClampNeg)] (bm_mk n J) = some (some (.inl (sp_spread S (I 3 (nI i + 1 : Int32).toNatClampNeg), S).1), bm_mk n K) := by
    rw [e3]; exact e2
  refine ⟨K, _, ?_, hC2, hM2, v⟩
  refine bm_ie (bm_nix2 (N := n) (nI_add i 1) (by omega) (by omega)) ?_
  refine bm_bd e1 ?_
  refine bm_ie (bm_nix2 (N := n) (nI_add i 1) (by omega) (by omega)) ?_
  refine bm_bd e2 ?_
  refine bm_it rfl ?_
  rfl
theorem tn_evenVersions {i o : Nat} (hC : bm_RC I S) (hM : bm_RM I S) (v : bm_VV S) (hi : i + 6 ≤ n) (hn : n ≤ 3072) : ∃ K S2, bm_rn z_law (o + 1) 651 ([some (.inr (some 3)), some (.inr (some 4)), some (.inr (some 75)), some (.inl (nI i))], [], bm_mk n I) = bm_rn z_law o 18 ([some (.inr (some 3)), some (.inr (some 4)), some (.inr (some 75)), some (.inl (nI i + 6))], [], bm_mk n K) ∧ bm_RC K S2 ∧ bm_RM K S2 ∧ bm_VV S2 := by
  obtain ⟨J, K, e1, e2, e3, hC2, hM2⟩ := law_two (n := n) (q := (bm_evs S.1 24 1, S)) hM (c_evenVersions hC v) (fun J h => m_evenVersions h v)
  have e2 : f_X8_evenVersions [.inr (some 75)] (bm_mk n J) = some (some (.inl (bm_evs S.1 24 1, S).1), bm_mk n K) := by
    exact e2
  refine ⟨K, _, ?_, hC2, hM2, v⟩
  refine bm_bd e1 ?_
  refine bm_bd e2 ?_
  refine bm_it rfl ?_
  rfl
theorem tn_bestWidth {i o : Nat} (hC : bm_RC I S) (hM : bm_RM I S) (v : bm_VV S) (hi : i + 6 ≤ n) (hn : n ≤ 3072) : ∃ K S2, bm_rn z_law (o + 1) 664 ([some (.inr (some 3)), some (.inr (some 4)), some (.inr (some 75)), some (.inl (nI i))], [], bm_mk n I) = bm_rn z_law o 18 ([some (.inr (some 3)), some (.inr (some 4)), some (.inr (some 75)), some (.inl (nI i + 6))], [], bm_mk n K) ∧ bm_RC K S2 ∧ bm_RM K S2 ∧ bm_VV S2 := by
  obtain ⟨J, K, e1, e2, e3, hC2, hM2⟩ := law_two (n := n) (q := (sp_bestWidth S (I 3 (nI i + 1 : Int32).toNatClampNeg), S)) hM (c_bestWidth hC v (I 3 (nI i + 1 : Int32).toNatClampNeg)) (fun J h => m_bestWidth h v (I 3 (nI i + 1 : Int32).toNatClampNeg))
  have e2 : f_X8_bestWidth [.inr (some 75), .inl (J 3 (nI i + 1 : Int32).toNatClampNeg)] (bm_mk n J) = some (some (.inl (sp_bestWidth S (I 3 (nI i + 1 : Int32).toNatClampNeg), S).1), bm_mk n K) := by
    rw [e3]; exact e2
  refine ⟨K, _, ?_, hC2, hM2, v⟩
  refine bm_ie (bm_nix2 (N := n) (nI_add i 1) (by omega) (by omega)) ?_
  refine bm_bd e1 ?_
  refine bm_ie (bm_nix2 (N := n) (nI_add i 1) (by omega) (by omega)) ?_
  refine bm_bd e2 ?_
  refine bm_it rfl ?_
  rfl
theorem tn_undo {i o : Nat} (hC : bm_RC I S) (hM : bm_RM I S) (v : bm_VV S) (hi : i + 6 ≤ n) (hn : n ≤ 3072) : ∃ K S2, bm_rn z_law (o + 1) 687 ([some (.inr (some 3)), some (.inr (some 4)), some (.inr (some 75)), some (.inl (nI i))], [], bm_mk n I) = bm_rn z_law o 18 ([some (.inr (some 3)), some (.inr (some 4)), some (.inr (some 75)), some (.inl (nI i + 6))], [], bm_mk n K) ∧ bm_RC K S2 ∧ bm_RM K S2 ∧ bm_VV S2 := by
  obtain ⟨J, K, e1, e2, e3, hC2, hM2⟩ := law_two (n := n) (q := (sp_undo S)) hM (c_undo hC v) (fun J h => m_undo h v)
  have e2 : f_X8_undo [.inr (some 75)] (bm_mk n J) = some (some (.inl (sp_undo S).1), bm_mk n K) := by
    exact e2
  refine ⟨K, _, ?_, hC2, hM2, (vk_undo v)⟩
  refine bm_bd e1 ?_
  refine bm_bd e2 ?_
  refine bm_it rfl ?_
  rfl
theorem tn_type {i o : Nat} (hC : bm_RC I S) (hM : bm_RM I S) (v : bm_VV S) (hi : i + 6 ≤ n) (hn : n ≤ 3072) : ∃ K S2, bm_rn z_law (o + 1) 700 ([some (.inr (some 3)), some (.inr (some 4)), some (.inr (some 75)), some (.inl (nI i))], [], bm_mk n I) = bm_rn z_law o 18 ([some (.inr (some 3)), some (.inr (some 4)), some (.inr (some 75)), some (.inl (nI i + 6))], [], bm_mk n K) ∧ bm_RC K S2 ∧ bm_RM K S2 ∧ bm_VV S2 := by
  obtain ⟨J, K, e1, e2, e3, hC2, hM2⟩ := law_two (n := n) (q := (sp_type S (I 3 (nI i + 1 : Int32).toNatClampNeg))) hM (c_type hC v (I 3 (nI i + 1 : Int32).toNatClampNeg)) (fun J h => m_type h v (I 3 (nI i + 1 : Int32).toNatClampNeg))
  have e2 : f_X8_type [.inr (some 75), .inl (J 3 (nI i + 1 : Int32).toNatClampNeg)] (bm_mk n J) = some (some (.inl (sp_type S (I 3 (nI i + 1 : Int32).toNatClampNeg)).1), bm_mk n K) := by
    rw [e3]; exact e2
  refine ⟨K, _, ?_, hC2, hM2, (vk_type v (I 3 (nI i + 1 : Int32).toNatClampNeg))⟩
  refine bm_ie (bm_nix2 (N := n) (nI_add i 1) (by omega) (by omega)) ?_
  refine bm_bd e1 ?_
  refine bm_ie (bm_nix2 (N := n) (nI_add i 1) (by omega) (by omega)) ?_
  refine bm_bd e2 ?_
  refine bm_it rfl ?_
  rfl
theorem tn_clearText {i o : Nat} (hC : bm_RC I S) (hM : bm_RM I S) (v : bm_VV S) (hi : i + 6 ≤ n) (hn : n ≤ 3072) : ∃ K S2, bm_rn z_law (o + 1) 723 ([some (.inr (some 3)), some (.inr (some 4)), some (.inr (some 75)), some (.inl (nI i))], [], bm_mk n I) = bm_rn z_law o 18 ([some (.inr (some 3)), some (.inr (some 4)), some (.inr (some 75)), some (.inl (nI i + 6))], [], bm_mk n K) ∧ bm_RC K S2 ∧ bm_RM K S2 ∧ bm_VV S2 := by
  obtain ⟨J, K, e1, e2, e3, hC2, hM2⟩ := law_two (n := n) (q := (sp_clearText S)) hM (c_clearText hC) (fun J h => m_clearText h)
  have e2 : f_X8_clearText [.inr (some 75)] (bm_mk n J) = some (some (.inl (sp_clearText S).1), bm_mk n K) := by
    exact e2
  refine ⟨K, _, ?_, hC2, hM2, (vk_clearText v)⟩
  refine bm_bd e1 ?_
  refine bm_bd e2 ?_
  refine bm_it rfl ?_
  rfl
theorem tn_fault {i o : Nat} (hC : bm_RC I S) (hM : bm_RM I S) (v : bm_VV S) (hi : i + 6 ≤ n) (hn : n ≤ 3072) : ∃ K S2, bm_rn z_law (o + 1) 736 ([some (.inr (some 3)), some (.inr (some 4)), some (.inr (some 75)), some (.inl (nI i))], [], bm_mk n I) = bm_rn z_law o 18 ([some (.inr (some 3)), some (.inr (some 4)), some (.inr (some 75)), some (.inl (nI i + 6))], [], bm_mk n K) ∧ bm_RC K S2 ∧ bm_RM K S2 ∧ bm_VV S2 := by
  obtain ⟨J, K, e1, e2, e3, hC2, hM2⟩ := law_two (n := n) (q := (sp_fault S (I 3 (nI i + 1 : Int32).toNatClampNeg), S)) hM (c_fault hC v (I 3 (nI i + 1 : Int32).toNatClampNeg)) (fun J h => m_fault h v (I 3 (nI i + 1 : Int32).toNatClampNeg))
  have e2 : f_X8_fault [.inr (some 75), .inl (J 3 (nI i + 1 : Int32).toNatClampNeg)] (bm_mk n J) = some (some (.inl (sp_fault S (I 3 (nI i + 1 : Int32).toNatClampNeg), S).1), bm_mk n K) := by
    rw [e3]; exact e2
  refine ⟨K, _, ?_, hC2, hM2, v⟩
  refine bm_ie (bm_nix2 (N := n) (nI_add i 1) (by omega) (by omega)) ?_
  refine bm_bd e1 ?_
  refine bm_ie (bm_nix2 (N := n) (nI_add i 1) (by omega) (by omega)) ?_
  refine bm_bd e2 ?_
  refine bm_it rfl ?_
  rfl
theorem tn_cast {i o : Nat} (hC : bm_RC I S) (hM : bm_RM I S) (v : bm_VV S) (hi : i + 6 ≤ n) (hn : n ≤ 3072) : ∃ K S2, bm_rn z_law (o + 1) 759 ([some (.inr (some 3)), some (.inr (some 4)), some (.inr (some 75)), some (.inl (nI i))], [], bm_mk n I) = bm_rn z_law o 18 ([some (.inr (some 3)), some (.inr (some 4)), some (.inr (some 75)), some (.inl (nI i + 6))], [], bm_mk n K) ∧ bm_RC K S2 ∧ bm_RM K S2 ∧ bm_VV S2 := by
  obtain ⟨J, K, e1, e2, e3, hC2, hM2⟩ := law_two (n := n) (q := (sp_cast S)) hM (c_cast hC v) (fun J h => m_cast h v)
  have e2 : f_X8_cast [.inr (some 75)] (bm_mk n J) = some (some (.inl (sp_cast S).1), bm_mk n K) := by
    exact e2
  refine ⟨K, _, ?_, hC2, hM2, (vk_cast v)⟩
  refine bm_bd e1 ?_
  refine bm_bd e2 ?_
  refine bm_it rfl ?_
  rfl
end LL
