set_option maxRecDepth 100000
/-! THE REFERENCE: its reads, its record of changes, undo -/
theorem bm_nix {x : Int32} {N k : Nat} (hx : x = nI k) (h : k < N) (hN : N ≤ 1000) : ¬ (x < 0 ∨ N ≤ x.toNatClampNeg) := by
  subst hx
  rw [nI_clamp (by omega)]
  rintro (q | q)
  · exact nI_pos (by omega) q
  · omega
theorem ix_c (c w : Nat) : (32 + 6 * nI c + nI w : Int32) = nI (32 + 6 * c + w) := by rw [bm_lit 32, bm_lit 6, pk_mul, nI_add, nI_add]
theorem ix_l (c k : Nat) : (68 + 16 * nI c + 2 * nI k : Int32) = nI (68 + 16 * c + 2 * k) := by rw [bm_lit 68, bm_lit 16, bm_lit 2, pk_mul, pk_mul, nI_add, nI_add]
theorem ix_v (c k : Nat) : (68 + 16 * nI c + 2 * nI k + 1 : Int32) = nI (69 + 16 * c + 2 * k) := by rw [ix_l, nI_1]; congr 1; omega
theorem ix_a (b k : Nat) : ((OfNat.ofNat b : Int32) + nI k) = nI (b + k) := nI_add b k
section MR
variable {n : Nat} {I : Nat → Nat → Int32} {F : Nat → Nat}
abbrev bm_s (I : Nat → Nat → Int32) (F : Nat → Nat) : Prop := ∀ k, k < 164 → I 76 k = nI (F k)
theorem bm_rd (hS : bm_s I F) {x : Int32} {k : Nat} (hx : x = nI k) (hk : k < 164) : I 76 x.toNatClampNeg = nI (F k) := by
  subst hx; rw [nI_clamp (by omega)]; exact hS k hk
theorem m_in {M : bm_M} {a b c : Int32} : f_X8_in [.inl a, .inl b, .inl c] M = some (some (.inl (bm_b (b ≤ a ∧ a ≤ c))), M) := by
  refine bm_g u_X8_in ?_
  refine bm_if (fun h => ?_) (fun h => ?_)
  · exact bm_ok (bm_b0 (fun z => absurd z.1 (Int32.not_le.mpr h))).symm
  · refine bm_if (fun h' => ?_) (fun h' => ?_)
    · exact bm_ok (bm_b0 (fun z => absurd z.2 (Int32.not_le.mpr h'))).symm
    · exact bm_ok (bm_b1 ⟨Int32.not_lt.mp h, Int32.not_lt.mp h'⟩).symm
theorem m_isContest (hS : bm_s I F) {x : Int32} : f_X8_isContest [.inr (some 75), .inl x] (bm_mk n I) = some (some (.inl (bm_b (0 ≤ x ∧ x < nI (F 0)))), bm_mk n I) := by
  refine bm_g u_X8_isContest ?_
  refine bm_if (fun h => ?_) (fun h => ?_)
  · exact bm_ok (bm_b0 (fun z => absurd z.1 (Int32.not_le.mpr h))).symm
  · refine bm_if (fun h' => ?_) (fun h' => ?_)
    · refine bm_ok (bm_b0 (fun z => absurd z.2 (Int32.not_lt.mpr ?_))).symm
      rw [← hS 0 (by decide)]; exact h'
    · refine bm_ok (bm_b1 ⟨Int32.not_lt.mp h, ?_⟩).symm
      rw [← hS 0 (by decide)]; exact Int32.not_le.mp h'
theorem m_isVersion (hS : bm_s I F) {x : Int32} : f_X8_isVersion [.inr (some 75), .inl x] (bm_mk n I) = some (some (.inl (bm_b (0 ≤ x ∧ x < nI (F 7)))), bm_mk n I) := by
  refine bm_g u_X8_isVersion ?_
  refine bm_if (fun h => ?_) (fun h => ?_)
  · exact bm_ok (bm_b0 (fun z => absurd z.1 (Int32.not_le.mpr h))).symm
  · refine bm_if (fun h' => ?_) (fun h' => ?_)
    · refine bm_ok (bm_b0 (fun z => absurd z.2 (Int32.not_lt.mpr ?_))).symm
      rw [← hS 7 (by decide)]; exact h'
    · refine bm_ok (bm_b1 ⟨Int32.not_lt.mp h, ?_⟩).symm
      rw [← hS 7 (by decide)]; exact Int32.not_le.mp h'
theorem m_of (hS : bm_s I F) {c w : Nat} {x y : Int32} (hx : x = nI c) (hy : y = nI w) (hc : 32 + 6 * c + w < 164) : f_X8_of [.inr (some 75), .inl x, .inl y] (bm_mk n I) = some (some (.inl (nI (F (32 + 6 * c + w)))), bm_mk n I) := by
  subst hx; subst hy
  refine bm_g u_X8_of ?_
  refine bm_ie (bm_nix (N := 164) (ix_c c w) hc (by decide)) ?_
  exact bm_ok (bm_rd hS (ix_c c w) hc)
theorem m_names (hS : bm_s I F) {c : Nat} (hc : c < 6) : f_X8_of [.inr (some 75), .inl (nI c), .inl 3] (bm_mk n I) = some (some (.inl (nI (F (35 + 6 * c)))), bm_mk n I) := by
  refine (m_of hS (c := c) (w := 3) rfl rfl (by omega)).trans ?_
  exact bm_ok (congrArg (fun z => nI (F z)) (by omega))
theorem m_lengthOf (hS : bm_s I F) {c k : Nat} (hc : 68 + 16 * c + 2 * k < 164) : f_X8_lengthOf [.inr (some 75), .inl (nI c), .inl (nI k)] (bm_mk n I) = some (some (.inl (nI (F (68 + 16 * c + 2 * k)))), bm_mk n I) := by
  refine bm_g u_X8_lengthOf ?_
  refine bm_ie (bm_nix (N := 164) (ix_l c k) hc (by decide)) ?_
  exact bm_ok (bm_rd hS (ix_l c k) hc)
theorem m_votesOf (hS : bm_s I F) {c k : Nat} (hc : 69 + 16 * c + 2 * k < 164) : f_X8_votesOf [.inr (some 75), .inl (nI c), .inl (nI k)] (bm_mk n I) = some (some (.inl (nI (F (69 + 16 * c + 2 * k)))), bm_mk n I) := by
  refine bm_g u_X8_votesOf ?_
  refine bm_ie (bm_nix (N := 164) (ix_v c k) hc (by decide)) ?_
  exact bm_ok (bm_rd hS (ix_v c k) hc)
theorem m_isName (hS : bm_s I F) (hV : bm_V' F) {x y : Int32} : f_X8_isName [.inr (some 75), .inl x, .inl y] (bm_mk n I) = some (some (.inl (bm_b ((0 ≤ x ∧ x < nI (F 0)) ∧ 0 ≤ y ∧ y < nI (F (35 + 6 * x.toNatClampNeg))))), bm_mk n I) := by
  have h6 := hV.1
  refine bm_g u_X8_isName ?_
  refine bm_bd (m_isContest hS) (bm_bq (fun h => ?_) (fun h => ?_))
  · obtain ⟨c, hc, rfl⟩ := bm_k_of (by omega) h
    have e : (nI c).toNatClampNeg = c := nI_clamp (by omega)
    refine bm_if (fun h1 => ?_) (fun h1 => ?_)
    · exact bm_ok (bm_b0 (fun z => absurd z.2.1 (Int32.not_le.mpr h1))).symm
    · refine bm_bd (m_names hS (by omega)) ?_
      refine bm_if (fun h2 => ?_) (fun h2 => ?_)
      · exact bm_ok (bm_b0 (fun z => absurd z.2.2 (by rw [e]; exact Int32.not_lt.mpr h2))).symm
      · exact bm_ok (bm_b1 ⟨h, Int32.not_lt.mp h1, by rw [e]; exact Int32.not_le.mp h2⟩).symm
  · exact bm_ok (bm_b0 (fun z => h z.1)).symm
theorem m_votesIn_loop (hS : bm_s I F) (hV : bm_V' F) {c : Nat} (hc : c < 6) : ∀ (d i : Nat) (x acc : Int32) (o : Nat), x = nI i → acc = nI (sumN (fun k => F (69 + 16 * c + 2 * k)) i) → i + d = F (35 + 6 * c) → d < o →
    bm_rn z_X8_votesIn o 4 ([some (.inr (some 75)), some (.inl (nI c)), some (.inl acc), some (.inl x)], [], bm_mk n I) = some (some (.inl (nI (sumN (fun k => F (69 + 16 * c + 2 * k)) (F (35 + 6 * c))))), bm_mk n I) := by
  have h8 := (hV.2.2.2.2.2.2.2.2.2.1 c hc).2.2.2
  intro d
  induction d with
  | zero =>
    intro i x acc o hx ha hi ho
    obtain ⟨o, rfl⟩ : ∃ q, o = q + 1 := ⟨o - 1, by omega⟩
    subst hx
    refine bm_bd (m_names hS hc) ?_
    refine bm_le (F (35 + 6 * c)) i rfl rfl (by omega) (by omega) (fun _ => ?_) (fun z => absurd z (by omega))
    exact bm_ok (by rw [ha, show i = F (35 + 6 * c) by omega])
  | succ d ih =>
    intro i x acc o hx ha hi ho
    obtain ⟨o, rfl⟩ : ∃ q, o = q + 1 := ⟨o - 1, by omega⟩
    subst hx
    refine bm_bd (m_names hS hc) ?_
    refine bm_le (F (35 + 6 * c)) i rfl rfl (by omega) (by omega) (fun z => absurd z (by omega)) (fun _ => ?_)
    refine bm_bd (m_votesOf hS (by omega)) ?_
    exact ih (i + 1) _ _ o (nI_1 i) (by rw [ha]; exact nI_add _ _) (by omega) (by omega)
theorem m_votesIn (hS : bm_s I F) (hV : bm_V' F) {c : Nat} (hc : c < 6) : f_X8_votesIn [.inr (some 75), .inl (nI c)] (bm_mk n I) = some (some (.inl (nI (sumN (fun k => F (69 + 16 * c + 2 * k)) (F (35 + 6 * c))))), bm_mk n I) := by
  have h8 := (hV.2.2.2.2.2.2.2.2.2.1 c hc).2.2.2
  exact bm_g u_X8_votesIn (m_votesIn_loop hS hV hc (F (35 + 6 * c)) 0 0 0 1000 rfl rfl (by omega) (by omega))
theorem m_allNames_loop (hS : bm_s I F) (hV : bm_V' F) : ∀ (d i : Nat) (x acc : Int32) (o : Nat), x = nI i → acc = nI (sumN (fun c => F (35 + 6 * c)) i) → i + d = F 0 → d < o →
    bm_rn z_X8_names o 4 ([some (.inr (some 75)), some (.inl acc), some (.inl x)], [], bm_mk n I) = some (some (.inl (nI (sumN (fun c => F (35 + 6 * c)) (F 0)))), bm_mk n I) := by
  have h6 := hV.1
  intro d
  induction d with
  | zero =>
    intro i x acc o hx ha hi ho
    obtain ⟨o, rfl⟩ : ∃ q, o = q + 1 := ⟨o - 1, by omega⟩
    subst hx
    refine bm_le (F 0) i (hS 0 (by decide)) rfl (by omega) (by omega) (fun _ => ?_) (fun z => absurd z (by omega))
    exact bm_ok (by rw [ha, show i = F 0 by omega])
  | succ d ih =>
    intro i x acc o hx ha hi ho
    obtain ⟨o, rfl⟩ : ∃ q, o = q + 1 := ⟨o - 1, by omega⟩
    subst hx
    refine bm_le (F 0) i (hS 0 (by decide)) rfl (by omega) (by omega) (fun z => absurd z (by omega)) (fun _ => ?_)
    refine bm_bd (m_names hS (by omega)) ?_
    exact ih (i + 1) _ _ o (nI_1 i) (by rw [ha]; exact nI_add _ _) (by omega) (by omega)
theorem m_allNames (hS : bm_s I F) (hV : bm_V' F) : f_X8_names [.inr (some 75)] (bm_mk n I) = some (some (.inl (nI (sumN (fun c => F (35 + 6 * c)) (F 0)))), bm_mk n I) := by
  have h6 := hV.1
  exact bm_g u_X8_names (m_allNames_loop hS hV (F 0) 0 0 0 1000 rfl rfl (by omega) (by omega))
theorem m_allPapers_loop (hS : bm_s I F) (hV : bm_V' F) : ∀ (d i : Nat) (x acc : Int32) (o : Nat), x = nI i → acc = nI (sumN (fun v => F (8 + v)) i) → i + d = F 7 → d < o →
    bm_rn z_X8_allPapers o 4 ([some (.inr (some 75)), some (.inl acc), some (.inl x)], [], bm_mk n I) = some (some (.inl (nI (sumN (fun v => F (8 + v)) (F 7)))), bm_mk n I) := by
  have h7 := hV.2.2.2.2.2.2.2.1
  intro d
  induction d with
  | zero =>
    intro i x acc o hx ha hi ho
    obtain ⟨o, rfl⟩ : ∃ q, o = q + 1 := ⟨o - 1, by omega⟩
    subst hx
    refine bm_le (F 7) i (hS 7 (by decide)) rfl (by omega) (by omega) (fun _ => ?_) (fun z => absurd z (by omega))
    exact bm_ok (by rw [ha, show i = F 7 by omega])
  | succ d ih =>
    intro i x acc o hx ha hi ho
    obtain ⟨o, rfl⟩ : ∃ q, o = q + 1 := ⟨o - 1, by omega⟩
    subst hx
    refine bm_le (F 7) i (hS 7 (by decide)) rfl (by omega) (by omega) (fun z => absurd z (by omega)) (fun _ => ?_)
    refine bm_ie (bm_nix (N := 164) (ix_a 8 i) (by omega) (by decide)) ?_
    exact ih (i + 1) _ _ o (nI_1 i) (by
      show acc + I 76 (8 + nI i : Int32).toNatClampNeg = _
      rw [ha, bm_rd hS (ix_a 8 i) (by omega)]; exact nI_add _ _) (by omega) (by omega)
theorem m_allPapers (hS : bm_s I F) (hV : bm_V' F) : f_X8_allPapers [.inr (some 75)] (bm_mk n I) = some (some (.inl (nI (sumN (fun v => F (8 + v)) (F 7)))), bm_mk n I) := by
  have h7 := hV.2.2.2.2.2.2.2.1
  exact bm_g u_X8_allPapers (m_allPapers_loop hS hV (F 7) 0 0 0 1000 rfl rfl (by omega) (by omega))
theorem m_standing (hS : bm_s I F) (hV : bm_V' F) {v c q : Nat} (hv : v < 2 ^ 31) (hc : c < 6) (hq : q < F (35 + 6 * c)) : f_X8_standing [.inr (some 75), .inl (nI v), .inl (nI c), .inl (nI q)] (bm_mk n I) = some (some (.inl (nI (bm_sd' F v c q))), bm_mk n I) := by
  obtain ⟨-, -, hw2, h8⟩ := hV.2.2.2.2.2.2.2.2.2.1 c hc
  refine bm_g u_X8_standing ?_
  refine bm_bd (m_names hS hc) ?_
  refine bm_bd (m_of hS (c := c) (w := 2) rfl rfl (by omega)) ?_
  have e2 : 32 + 6 * c + 2 = 34 + 6 * c := by omega
  unfold bm_sd'
  refine bm_eq (F (32 + 6 * c + 2)) 0 rfl rfl (by rw [e2]; omega) (by decide) (fun hw => ?_) (fun hw => ?_)
  · rw [e2] at hw
    exact bm_ok (by rw [if_neg (by omega), if_neg (by omega)])
  · refine bm_eq (F (32 + 6 * c + 2)) 1 rfl rfl (by rw [e2]; omega) (by decide) (fun hw' => ?_) (fun hw' => ?_)
    · rw [e2] at hw'
      have h0 : 0 < F (35 + 6 * c) := by omega
      refine bm_ie (nI_ne0 h0 (by omega)) ?_
      refine bm_ie (nI_ne0 h0 (by omega)) ?_
      refine bm_ok ?_
      rw [if_pos hw']
      show (nI v - nI v / nI (F (35 + 6 * c)) * nI (F (35 + 6 * c)) + nI q) - (nI v - nI v / nI (F (35 + 6 * c)) * nI (F (35 + 6 * c)) + nI q) / nI (F (35 + 6 * c)) * nI (F (35 + 6 * c)) = _
      have hm := Nat.mod_lt v h0
      rw [pk_rem hv h0 (by omega), nI_add, pk_rem (by omega) h0 (by omega)]
    · rw [e2] at hw hw'
      refine bm_eq (v % 2) 0 (pk_rem (d := 2) hv (by decide) (by decide)) rfl (by omega) (by decide) (fun h2 => ?_) (fun h2 => ?_)
      · exact bm_ok (by rw [if_neg hw', if_neg (fun z => z.2 h2)])
      · refine bm_ok ?_
        rw [if_neg hw', if_pos ⟨by omega, h2⟩]
        show nI (F (35 + 6 * c)) - 1 - nI q = _
        rw [bm_lit 1, pk_sub (by omega), pk_sub (by omega)]
theorem m_placeOf_loop (hS : bm_s I F) (hV : bm_V' F) {v c k : Nat} (hv : v < 2 ^ 31) (hc : c < 6) (hk : k < F (35 + 6 * c)) : ∀ (d i : Nat) (x : Int32) (o : Nat), x = nI i → i + d = bm_pl F v c k → d < o →
    bm_rn z_X8_placeOf o 3 ([some (.inr (some 75)), some (.inl (nI v)), some (.inl (nI c)), some (.inl (nI k)), some (.inl x)], [], bm_mk n I) = some (some (.inl (nI (bm_pl F v c k))), bm_mk n I) := by
  have h8 := (hV.2.2.2.2.2.2.2.2.2.1 c (by omega)).2.2.2
  have hl := bm_pl_lt (v := v) hk
  intro d
  induction d with
  | zero =>
    intro i x o hx hi ho
    obtain ⟨o, rfl⟩ : ∃ q, o = q + 1 := ⟨o - 1, by omega⟩
    subst hx
    refine bm_bd (m_standing hS hV hv hc (by omega)) ?_
    refine bm_it ?_ (bm_ok (by rw [← hi]; rfl))
    exact congrArg nI ((bm_sd_pl (by omega) hk).mpr (by omega))
  | succ d ih =>
    intro i x o hx hi ho
    obtain ⟨o, rfl⟩ : ∃ q, o = q + 1 := ⟨o - 1, by omega⟩
    subst hx
    refine bm_bd (m_standing hS hV hv hc (by omega)) ?_
    refine bm_ie ?_ ?_
    · have := bm_sd_lt (F := F) (v := v) (c := c) (q := i) (by omega)
      exact fun z => absurd ((bm_sd_pl (by omega) hk).mp ((nI_eq (by omega) (by omega)).mp z)) (by omega)
    · exact ih (i + 1) _ o (nI_1 i) (by omega) (by omega)
theorem m_placeOf (hS : bm_s I F) (hV : bm_V' F) {v c k : Nat} (hv : v < 2 ^ 31) (hc : c < 6) (hk : k < F (35 + 6 * c)) : f_X8_placeOf [.inr (some 75), .inl (nI v), .inl (nI c), .inl (nI k)] (bm_mk n I) = some (some (.inl (nI (bm_pl F v c k))), bm_mk n I) := by
  have h8 := (hV.2.2.2.2.2.2.2.2.2.1 c (by omega)).2.2.2
  have hl := bm_pl_lt (v := v) hk
  exact bm_g u_X8_placeOf (m_placeOf_loop hS hV hv hc hk (bm_pl F v c k) 0 0 1000 rfl (by omega) (by omega))
theorem m_seated_loop (hS : bm_s I F) (hV : bm_V' F) {c k : Nat} (hc : c < 6) (hk : k < 8) : ∀ (d i : Nat) (x y : Int32) (w : Option bm_V) (o : Nat), x = nI i → y = nI (bm_ahn F c k i) → i + d = F (35 + 6 * c) → d < o →
    bm_rn z_X8_seated o 5 ([some (.inr (some 75)), some (.inl (nI c)), some (.inl (nI k)), some (.inl y), some (.inl x), w], [], bm_mk n I) = some (some (.inl (nI (bm_stn F c k))), bm_mk n I) := by
  have h8 := (hV.2.2.2.2.2.2.2.2.2.1 c (by omega))
  intro d
  induction d with
  | zero =>
    intro i x y w o hx hy hi ho
    obtain ⟨o, rfl⟩ : ∃ q, o = q + 1 := ⟨o - 1, by omega⟩
    have hi : F (35 + 6 * c) = i := by omega
    subst hx
    refine bm_bd (m_names hS hc) ?_
    refine bm_it (by rw [hi]; exact Int32.le_refl _) ?_
    refine bm_bd (m_of hS (c := c) (w := 1) rfl rfl (by omega)) ?_
    have e1 : 32 + 6 * c + 1 = 33 + 6 * c := by omega
    have hle := bm_ahn_le (F := F) (c := c) (k := k) i
    refine bm_le (F (32 + 6 * c + 1)) (bm_ahn F c k i) rfl hy (by rw [e1]; omega) (by omega) (fun hz => ?_) (fun hz => ?_)
    · refine bm_ok ?_
      have : ¬ bm_st F c k := by unfold bm_st; rw [hi, ← e1]; omega
      unfold bm_stn
      rw [if_neg this]; rfl
    · refine bm_ok ?_
      have : bm_st F c k := by unfold bm_st; rw [hi, ← e1]; omega
      unfold bm_stn
      rw [if_pos this]; rfl
  | succ d ih =>
    intro i x y w o hx hy hi ho
    obtain ⟨o, rfl⟩ : ∃ q, o = q + 1 := ⟨o - 1, by omega⟩
    subst hx
    refine bm_bd (m_names hS hc) ?_
    refine bm_le (F (35 + 6 * c)) i rfl rfl (by omega) (by omega) (fun z => absurd z (by omega)) (fun hz => ?_)
    refine bm_bd (m_votesOf hS (by omega)) ?_
    refine bm_bd (m_votesOf hS (by omega)) ?_
    refine bm_if (fun h1 => ?_) (fun h1 => ?_)
    · exact ih (i + 1) _ _ _ o (nI_1 i) (by rw [hy, bm_ahn_s1 (Or.inl h1)]; exact nI_1 _) (by omega) (by omega)
    · refine bm_bd (m_votesOf hS (by omega)) ?_
      refine bm_bd (m_votesOf hS (by omega)) ?_
      refine bm_if (fun h2 => ?_) (fun h2 => ?_)
      · refine bm_le k i rfl rfl (by omega) (by omega) (fun h3 => ?_) (fun h3 => ?_)
        · exact ih (i + 1) _ _ _ o (nI_1 i) (by rw [hy, bm_ahn_s0 (fun z => z.elim h1 (fun z => absurd z.2 (by omega)))]; exact nI_add _ 0) (by omega) (by omega)
        · exact ih (i + 1) _ _ _ o (nI_1 i) (by rw [hy, bm_ahn_s1 (Or.inr ⟨h2, h3⟩)]; exact nI_1 _) (by omega) (by omega)
      · exact ih (i + 1) _ _ _ o (nI_1 i) (by rw [hy, bm_ahn_s0 (fun z => z.elim h1 (fun z => h2 z.1))]; exact nI_add _ 0) (by omega) (by omega)
theorem m_seated (hS : bm_s I F) (hV : bm_V' F) {c k : Nat} (hc : c < 6) (hk : k < 8) : f_X8_seated [.inr (some 75), .inl (nI c), .inl (nI k)] (bm_mk n I) = some (some (.inl (nI (bm_stn F c k))), bm_mk n I) := by
  have h8 := (hV.2.2.2.2.2.2.2.2.2.1 c (by omega))
  exact bm_g u_X8_seated (m_seated_loop hS hV hc hk (F (35 + 6 * c)) 0 0 0 none 1000 rfl rfl (by omega) (by omega))
end MR
