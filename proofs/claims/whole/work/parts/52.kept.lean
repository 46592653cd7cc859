set_option maxRecDepth 100000
/-! THE BOUNDS ARE KEPT -/
section VK
variable {S : bm_S} {F F' : Nat → Nat}
theorem vk_pu (v : bm_VV S) (h : bm_V' F') : bm_VV (bm_pu S F') := by
  obtain ⟨h1, h2, h3, h4, h5⟩ := v
  refine ⟨h, ?_, fun j hj => ?_, h4, h5⟩
  · show bm_pn S.2.1 ≤ 4
    unfold bm_pn
    split <;> omega
  · have hj : j < bm_pn S.2.1 := hj
    show bm_V' (bm_pq S.2.1 S.2.2.1 S.1 j)
    unfold bm_pn at hj
    unfold bm_pq
    by_cases q : S.2.1 = 4
    · rw [if_pos q] at hj ⊢
      by_cases q3 : j = 3
      · rw [if_pos q3]; exact h1
      · rw [if_neg q3]; exact h3 (j + 1) (by omega)
    · rw [if_neg q] at hj ⊢
      by_cases q3 : j = S.2.1
      · rw [if_pos q3]; exact h1
      · rw [if_neg q3]; exact h3 j (by omega)
theorem vk_fs {z w : Nat} (h : bm_V' F) (h0 : z = 0 → w ≤ 6) (h1 : z = 1 → w ≤ 9999) (h2 : z = 2 → 1 ≤ w ∧ w ≤ 4) (h3 : z = 3 → 16 ≤ w ∧ w ≤ 60) (h4 : z = 4 → 8 ≤ w ∧ w ≤ 40) (h5 : z = 5 → 1 ≤ w ∧ w ≤ 3) (h6 : z = 6 → w ≤ 30) (h7 : z = 7 → False) (h8 : 8 ≤ z → z < 32 → w ≤ 9999 ∧ z < 8 + F 7) (h9 : ∀ c, c < 6 → (z = 32 + 6 * c → w ≤ 20) ∧ (z = 33 + 6 * c → w ≤ 3) ∧ (z = 34 + 6 * c → w ≤ 2) ∧ (z = 35 + 6 * c → w ≤ 8)) (h10 : ∀ j, j < 48 → z = 68 + 2 * j → w ≤ 20) : bm_V' (bm_fs1 F z w) := by
  obtain ⟨a0, a1, a2, a3, a4, a5, a6, a7, a8, a9, a10⟩ := h
  have e7 : bm_fs1 F z w 7 = F 7 := if_neg (fun q => h7 q.symm)
  unfold bm_V'
  rw [e7]
  unfold bm_fs1
  refine ⟨?_, ?_, ?_, ?_, ?_, ?_, ?_, a7, fun v hv => ?_, fun c hc => ?_, fun j hj => ?_⟩
  · split
    · exact h0 (by omega)
    · exact a0
  · split
    · exact h1 (by omega)
    · exact a1
  · split
    · exact h2 (by omega)
    · exact a2
  · split
    · exact h3 (by omega)
    · exact a3
  · split
    · exact h4 (by omega)
    · exact a4
  · split
    · exact h5 (by omega)
    · exact a5
  · split
    · exact h6 (by omega)
    · exact a6
  · split
    · have := h8 (by omega) (by omega)
      exact ⟨this.1, fun q => by omega⟩
    · exact a8 v hv
  · have b := a9 c hc
    have d := h9 c hc
    refine ⟨?_, ?_, ?_, ?_⟩
    · split
      · exact d.1 (by omega)
      · exact b.1
    · split
      · exact d.2.1 (by omega)
      · exact b.2.1
    · split
      · exact d.2.2.1 (by omega)
      · exact b.2.2.1
    · split
      · exact d.2.2.2 (by omega)
      · exact b.2.2.2
  · split
    · exact h10 j hj (by omega)
    · exact a10 j hj
theorem vk_gone (h : bm_V' F) {w : Nat} (hw : 1 ≤ w ∧ w ≤ 24) : bm_V' (bm_Fgone (bm_fs1 F 7 w) w) := by
  obtain ⟨a0, a1, a2, a3, a4, a5, a6, a7, a8, a9, a10⟩ := h
  have e : ∀ y, y ≠ 7 → (y < 8 + w ∨ 32 ≤ y) → bm_Fgone (bm_fs1 F 7 w) w y = F y := fun y h1 h2 => by
    unfold bm_Fgone bm_fs1
    rw [if_neg (by omega), if_neg h1]
  have e7 : bm_Fgone (bm_fs1 F 7 w) w 7 = w := by
    unfold bm_Fgone bm_fs1
    rw [if_neg (by omega), if_pos rfl]
  refine ⟨?_, ?_, ?_, ?_, ?_, ?_, ?_, ?_, fun v hv => ?_, fun c hc => ?_, fun j hj => ?_⟩
  · rw [e 0 (by omega) (by omega)]; exact a0
  · rw [e 1 (by omega) (by omega)]; exact a1
  · rw [e 2 (by omega) (by omega)]; exact a2
  · rw [e 3 (by omega) (by omega)]; exact a3
  · rw [e 4 (by omega) (by omega)]; exact a4
  · rw [e 5 (by omega) (by omega)]; exact a5
  · rw [e 6 (by omega) (by omega)]; exact a6
  · rw [e7]; exact hw
  · rw [e7]
    by_cases q : w ≤ v
    · have : bm_Fgone (bm_fs1 F 7 w) w (8 + v) = 0 := by unfold bm_Fgone; rw [if_pos (by omega)]
      rw [this]
      exact ⟨by omega, fun _ => rfl⟩
    · rw [e (8 + v) (by omega) (by omega)]
      exact ⟨(a8 v hv).1, fun z => absurd z q⟩
  · rw [e (32 + 6 * c) (by omega) (by omega), e (33 + 6 * c) (by omega) (by omega), e (34 + 6 * c) (by omega) (by omega), e (35 + 6 * c) (by omega) (by omega)]
    exact a9 c hc
  · rw [e (68 + 2 * j) (by omega) (by omega)]; exact a10 j hj
theorem vk_contest (v : bm_VV S) (x y : Int32) : bm_VV (sp_contest S x y).2 := by
  unfold sp_contest
  by_cases c1 : (nI 1 ≤ x ∧ x ≤ nI 20) ∧ nI 1 ≤ y ∧ y ≤ nI 3
  · rw [if_pos c1]
    obtain ⟨a, a1, a2, rfl⟩ := bm_rng (by decide) c1.1 (by decide)
    obtain ⟨b, b1, b2, rfl⟩ := bm_rng (by decide) c1.2 (by decide)
    by_cases c2 : 6 ≤ S.1 0
    · rw [if_pos c2]; exact v
    · rw [if_neg c2, nI_clamp (by omega), nI_clamp (by omega)]
      have h := v.1
      have h7 := h.2.2.2.2.2.2.2.1
      refine vk_pu v ?_
      unfold bm_Fcontest
      refine vk_fs (vk_fs (vk_fs h ?_ ?_ ?_ ?_ ?_ ?_ ?_ ?_ ?_ ?_ ?_) ?_ ?_ ?_ ?_ ?_ ?_ ?_ ?_ ?_ ?_ ?_) ?_ ?_ ?_ ?_ ?_ ?_ ?_ ?_ ?_ ?_ ?_ <;> intros <;> omega
  · rw [if_neg c1]; exact v
theorem vk_name (v : bm_VV S) (x y : Int32) : bm_VV (sp_name S x y).2 := by
  unfold sp_name
  have h := v.1
  have h6 := h.1
  by_cases c1 : (0 ≤ x ∧ x < nI (S.1 0)) ∧ nI 1 ≤ y ∧ y ≤ nI 20
  · rw [if_pos c1]
    obtain ⟨a, a1, rfl⟩ := bm_k_of (by omega) c1.1
    obtain ⟨b, b1, b2, rfl⟩ := bm_rng (by decide) c1.2 (by decide)
    rw [nI_clamp (show a < 2 ^ 31 by omega), nI_clamp (show b < 2 ^ 31 by omega)]
    by_cases c2 : 0 < S.1 1
    · rw [if_pos c2]; exact v
    · rw [if_neg c2]
      by_cases c3 : 8 ≤ S.1 (35 + 6 * a)
      · rw [if_pos c3]; exact v
      · rw [if_neg c3]
        refine vk_pu v ?_
        unfold bm_Fname
        refine vk_fs (vk_fs h ?_ ?_ ?_ ?_ ?_ ?_ ?_ ?_ ?_ ?_ ?_) ?_ ?_ ?_ ?_ ?_ ?_ ?_ ?_ ?_ ?_ ?_ <;> intros <;> omega
  · rw [if_neg c1]; exact v
theorem vk_way (v : bm_VV S) (x y : Int32) : bm_VV (sp_way S x y).2 := by
  unfold sp_way
  have h := v.1
  have h6 := h.1
  by_cases c1 : (0 ≤ x ∧ x < nI (S.1 0)) ∧ nI 0 ≤ y ∧ y ≤ nI 2
  · rw [if_pos c1]
    obtain ⟨a, a1, rfl⟩ := bm_k_of (by omega) c1.1
    obtain ⟨b, b1, b2, rfl⟩ := bm_rng (by decide) c1.2 (by decide)
    rw [nI_clamp (show a < 2 ^ 31 by omega), nI_clamp (show b < 2 ^ 31 by omega)]
    by_cases c2 : 0 < S.1 1
    · rw [if_pos c2]; exact v
    · rw [if_neg c2]
      refine vk_pu v ?_
      refine vk_fs h ?_ ?_ ?_ ?_ ?_ ?_ ?_ ?_ ?_ ?_ ?_ <;> intros <;> omega
  · rw [if_neg c1]; exact v
theorem vk_papers (v : bm_VV S) (x y : Int32) : bm_VV (sp_papers S x y).2 := by
  unfold sp_papers
  have h := v.1
  have h7 := h.2.2.2.2.2.2.2.1
  by_cases c1 : (0 ≤ x ∧ x < nI (S.1 7)) ∧ nI 0 ≤ y ∧ y ≤ nI 9999
  · rw [if_pos c1]
    obtain ⟨a, a1, rfl⟩ := bm_k_of (by omega) c1.1
    obtain ⟨b, b1, b2, rfl⟩ := bm_rng (by decide) c1.2 (by decide)
    rw [nI_clamp (show a < 2 ^ 31 by omega), nI_clamp (show b < 2 ^ 31 by omega)]
    refine vk_pu v ?_
    refine vk_fs h ?_ ?_ ?_ ?_ ?_ ?_ ?_ ?_ ?_ ?_ ?_ <;> intros <;> omega
  · rw [if_neg c1]; exact v
theorem vk_set (v : bm_VV S) (x y : Int32) : bm_VV (sp_set S x y).2 := by
  unfold sp_set
  have h := v.1
  have h7 := h.2.2.2.2.2.2.2.1
  by_cases c1 : bm_al x y
  · rw [if_pos c1]
    obtain ⟨w, k, w1, k1, k2, rfl, rfl⟩ := bm_al_of c1
    have hk : k < 100 := by
      rcases (show w = 0 ∨ w = 1 ∨ w = 2 ∨ w = 3 ∨ w = 4 ∨ w = 5 by omega) with rfl | rfl | rfl | rfl | rfl | rfl <;> exact Nat.lt_of_le_of_lt k1 (by decide)
    rw [nI_clamp (show w < 2 ^ 31 by omega), nI_clamp (show k < 2 ^ 31 by omega)]
    refine vk_pu v ?_
    unfold bm_Fset
    rcases (show w = 0 ∨ w = 1 ∨ w = 2 ∨ w = 3 ∨ w = 4 ∨ w = 5 by omega) with rfl | rfl | rfl | rfl | rfl | rfl <;> simp only [bm_LE, bm_MO, List.getD_cons_zero, List.getD_cons_succ] at k1 k2
    · rw [if_neg (by decide)]
      refine vk_fs h ?_ ?_ ?_ ?_ ?_ ?_ ?_ ?_ ?_ ?_ ?_ <;> intros <;> omega
    · rw [if_neg (by decide)]
      refine vk_fs h ?_ ?_ ?_ ?_ ?_ ?_ ?_ ?_ ?_ ?_ ?_ <;> intros <;> omega
    · rw [if_neg (by decide)]
      refine vk_fs h ?_ ?_ ?_ ?_ ?_ ?_ ?_ ?_ ?_ ?_ ?_ <;> intros <;> omega
    · rw [if_neg (by decide)]
      refine vk_fs h ?_ ?_ ?_ ?_ ?_ ?_ ?_ ?_ ?_ ?_ ?_ <;> intros <;> omega
    · rw [if_neg (by decide)]
      refine vk_fs h ?_ ?_ ?_ ?_ ?_ ?_ ?_ ?_ ?_ ?_ ?_ <;> intros <;> omega
    · rw [if_pos rfl]
      exact vk_gone h (by omega)
  · rw [if_neg c1]; exact v
theorem vk_clear (v : bm_VV S) : bm_VV (sp_clear S).2 := by
  refine vk_pu v ?_
  have h1 := v.1.2.1
  have e : ∀ y, y ≠ 1 → (32 ≤ y → y < 68 → (y - 32) % 6 < 4) → (68 ≤ y → y % 2 = 0) → bm_Fclear S.1 y = S.1 y := by
    intro y y1 y2 y3
    unfold bm_Fclear bm_Fnull bm_fs1
    rw [if_neg, if_neg, if_neg, if_neg y1]
    all_goals
      rintro ⟨k, hk, e⟩
      simp only [bm_sz, bm_bs, bm_sd, List.getD_cons_zero, List.getD_cons_succ] at hk e
    · have := y3 (by omega); omega
    · have := y2 (by omega) (by omega); omega
    · have := y2 (by omega) (by omega); omega
  have e1 : bm_Fclear S.1 1 = 0 := by
    unfold bm_Fclear bm_Fnull bm_fs1
    rw [if_neg, if_neg, if_neg, if_pos rfl]
    all_goals
      rintro ⟨k, hk, e⟩
      simp only [bm_sz, bm_bs, bm_sd, List.getD_cons_zero, List.getD_cons_succ] at hk e
      omega
  exact tx_U.V (F := S.1) e v.1 (by rw [e1]; omega)
theorem vk_undo (v : bm_VV S) : bm_VV (sp_undo S).2 := by
  unfold sp_undo
  by_cases c1 : S.2.1 = 0
  · rw [if_pos c1]; exact v
  · rw [if_neg c1]
    obtain ⟨h1, h2, h3, h4, h5⟩ := v
    exact ⟨h3 _ (by omega), (by show S.2.1 - 1 ≤ 4; omega), fun j hj => h3 j (by have hj : j < S.2.1 - 1 := hj; omega), h4, h5⟩
theorem vk_type (v : bm_VV S) (x : Int32) : bm_VV (sp_type S x).2 := by
  unfold sp_type
  by_cases c1 : nI 32 ≤ x ∧ x ≤ nI 126
  · rw [if_pos c1]
    by_cases c2 : 40 ≤ S.2.2.2.1
    · rw [if_pos c2]; exact v
    · rw [if_neg c2]
      obtain ⟨a, a1, a2, rfl⟩ := bm_rng (by decide) c1 (by decide)
      obtain ⟨h1, h2, h3, h4, h5⟩ := v
      refine ⟨h1, h2, h3, (by show S.2.2.2.1 + 1 ≤ 40; omega), fun j hj => ?_⟩
      have hj : j < S.2.2.2.1 + 1 := hj
      show 32 ≤ (if j = S.2.2.2.1 then (nI a).toNatClampNeg else S.2.2.2.2 j) ∧ (if j = S.2.2.2.1 then (nI a).toNatClampNeg else S.2.2.2.2 j) ≤ 126
      by_cases q : j = S.2.2.2.1
      · rw [if_pos q, nI_clamp (by omega)]; exact ⟨a1, a2⟩
      · rw [if_neg q]; exact h5 j (by omega)
  · rw [if_neg c1]; exact v
theorem vk_clearText (v : bm_VV S) : bm_VV (sp_clearText S).2 := by
  obtain ⟨h1, h2, h3, h4, h5⟩ := v
  exact ⟨h1, h2, h3, Nat.zero_le _, fun j hj => absurd hj (Nat.not_lt_zero j)⟩
theorem vk_cast (v : bm_VV S) : bm_VV (sp_cast S).2 := by
  unfold sp_cast
  cases hf : tx_f S with
  | some ra => exact v
  | none =>
    by_cases c1 : S.1 1 < 9999
    · show bm_VV (if S.1 1 < 9999 then (nI (tx_vs S (tx_e S).2 (S.1 0)), bm_pu S (tx_cf S (tx_e S).2 (S.1 0))) else (-3, S)).2
      rw [if_pos c1]
      exact vk_pu v ((tx_cf_U v.1.1).V v.1 (by rw [tx_cf_1 v.1.1]; omega))
    · show bm_VV (if S.1 1 < 9999 then (nI (tx_vs S (tx_e S).2 (S.1 0)), bm_pu S (tx_cf S (tx_e S).2 (S.1 0))) else (-3, S)).2
      rw [if_neg c1]
      exact v
end VK
