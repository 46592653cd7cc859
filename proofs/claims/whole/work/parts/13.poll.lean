set_option maxRecDepth 100000
/-! THE CLASS'S READS OF THE POLL -/
theorem bm_g {f : bm_F} {nL : Nat} {code : List (Nat × bm_O)} {al : List bm_V} {M : bm_M} {r : bm_R} (u : f = bm_mt nL code) (h : bm_rn code 1000 0 (al.map some ++ List.replicate (nL - al.length) none, [], M) = some r) (h1 : Nat.ble al.length nL = true := by rfl) (h2 : bm_n M ≤ bm_n r.2 := by exact Nat.le_refl _) (h3 : bm_sl M ≤ bm_sl r.2 := by exact Nat.le_refl _) : f al M = some r := by
  rw [u]; exact bm_mt_run h h1 h2 h3
def sumN (f : Nat → Nat) : Nat → Nat
  | 0 => 0
  | k + 1 => sumN f k + f k
theorem sumN_congr {f f' : Nat → Nat} : ∀ {m : Nat}, (∀ k, k < m → f k = f' k) → sumN f m = sumN f' m
  | 0, _ => rfl
  | m + 1, h => by unfold sumN; rw [sumN_congr (fun k hk => h k (by omega)), h m (by omega)]
/-- the bounds that a poll keeps -/
def bm_V' (F : Nat → Nat) : Prop := F 0 ≤ 6 ∧ F 1 ≤ 9999 ∧ (1 ≤ F 2 ∧ F 2 ≤ 4) ∧ (16 ≤ F 3 ∧ F 3 ≤ 60) ∧ (8 ≤ F 4 ∧ F 4 ≤ 40) ∧ (1 ≤ F 5 ∧ F 5 ≤ 3) ∧ F 6 ≤ 30 ∧ (1 ≤ F 7 ∧ F 7 ≤ 24) ∧
  (∀ v, v < 24 → F (8 + v) ≤ 9999 ∧ (F 7 ≤ v → F (8 + v) = 0)) ∧ (∀ c, c < 6 → F (32 + 6 * c) ≤ 20 ∧ F (33 + 6 * c) ≤ 3 ∧ F (34 + 6 * c) ≤ 2 ∧ F (35 + 6 * c) ≤ 8) ∧ (∀ j, j < 48 → F (68 + 2 * j) ≤ 20)
/-- the name at a place of the order -/
def bm_sd' (F : Nat → Nat) (v c q : Nat) : Nat := if F (34 + 6 * c) = 1 then (v % F (35 + 6 * c) + q) % F (35 + 6 * c) else if F (34 + 6 * c) = 2 ∧ v % 2 ≠ 0 then F (35 + 6 * c) - 1 - q else q
section PR
variable {n : Nat} {I : Nat → Nat → Int32} {F : Nat → Nat}
theorem e_gk' {a N k : Nat} {x : Int32} (hx : x = nI k) (hk : K1.getD a 99 = 8) (hN : (L1 n).getD a 0 = N) (hN2 : N < 2 ^ 31) (h : k < N) : f_X4_get [.inr (some a), .inl x] (bm_mk n I) = some (some (.inl (I a k)), bm_mk n I) := by
  subst hx; exact e_gk hk hN hN2 h
theorem e_sum_loop {a N s m : Nat} {f : Nat → Nat} (hk : K1.getD a 99 = 8) (hN : (L1 n).getD a 0 = N) (hN2 : N < 2 ^ 31) (hm : s + m ≤ N) (hf : ∀ k, k < N → I a k = nI (f k)) : ∀ (d i : Nat) (x acc : Int32) (o : Nat), x = nI i → acc = nI (sumN (fun k => f (s + k)) i) → i + d = m → d < o →
    bm_rn z_X4_sum o 5 ([some (.inr (some a)), some (.inl (nI s)), some (.inl (nI m)), some (.inl acc), some (.inl x)], [], bm_mk n I) = some (some (.inl (nI (sumN (fun k => f (s + k)) m))), bm_mk n I) := by
  intro d
  induction d with
  | zero =>
    intro i x acc o hx ha hi ho
    obtain ⟨o, rfl⟩ : ∃ q, o = q + 1 := ⟨o - 1, by omega⟩
    have hi : i = m := by omega
    subst hi; subst hx
    exact bm_it (Int32.le_refl _) (bm_ok ha)
  | succ d ih =>
    intro i x acc o hx ha hi ho
    obtain ⟨o, rfl⟩ : ∃ q, o = q + 1 := ⟨o - 1, by omega⟩
    subst hx
    refine bm_ie (fun z => absurd ((nI_leI (by omega) (by omega)).mp z) (by omega)) ?_
    refine bm_bd (e_gk' (a := a) (k := s + i) (nI_add s i) hk hN hN2 (by omega)) ?_
    exact ih (i + 1) _ _ o (nI_1 i) (by rw [ha, hf (s + i) (by omega)]; exact nI_add _ _) (by omega) (by omega)
theorem e_sum {a N s m : Nat} {x y : Int32} {f : Nat → Nat} (hx : x = nI s) (hy : y = nI m) (hk : K1.getD a 99 = 8) (hN : (L1 n).getD a 0 = N) (hN2 : N < 900) (hm : s + m ≤ N) (hf : ∀ k, k < N → I a k = nI (f k)) : f_X4_sum [.inr (some a), .inl x, .inl y] (bm_mk n I) = some (some (.inl (nI (sumN (fun k => f (s + k)) m))), bm_mk n I) := by
  subst hx; subst hy
  exact bm_g u_X4_sum (e_sum_loop hk hN (by omega) hm hf m 0 0 0 1000 rfl rfl (by omega) (by omega))
theorem e_allNames (p : bm_P I 5 F) (hV : bm_V' F) : f_X3_allNames [.inr (some 5)] (bm_mk n I) = some (some (.inl (nI (sumN (fun c => F (35 + 6 * c)) (F 0)))), bm_mk n I) := by
  refine bm_g u_X3_allNames ?_
  refine bm_bd (e_sum (a := 9) (N := 6) (s := 0) (m := F 0) (f := fun c => F (35 + 6 * c)) rfl p.1 rfl rfl (by decide) (by have := hV.1; omega) (fun k hk => p.at 4 k (by decide) hk)) ?_
  exact bm_ok (by simp only [Nat.zero_add])
theorem e_allPapers (p : bm_P I 5 F) (hV : bm_V' F) : f_X3_allPapers [.inr (some 5)] (bm_mk n I) = some (some (.inl (nI (sumN (fun v => F (8 + v)) (F 7)))), bm_mk n I) := by
  refine bm_g u_X3_allPapers ?_
  refine bm_bd (e_setting p (c := 5) (by decide)) ?_
  refine bm_bd (e_sum (a := 14) (N := 24) (s := 0) (m := F 7) (f := fun v => F (8 + v)) rfl rfl rfl rfl (by decide) (by have := hV.2.2.2.2.2.2.2.1; omega) (fun k hk => (p.at 9 k (by decide) hk).trans (congrArg (fun z => nI (F (8 + z))) (Nat.one_mul k)))) ?_
  exact bm_ok (by simp only [Nat.zero_add])
theorem e_votesIn (p : bm_P I 5 F) (hV : bm_V' F) {c : Nat} (hc : c < 6) : f_X3_votesIn [.inr (some 5), .inl (nI c)] (bm_mk n I) = some (some (.inl (nI (sumN (fun k => F (69 + 16 * c + 2 * k)) (F (35 + 6 * c))))), bm_mk n I) := by
  refine bm_g u_X3_votesIn ?_
  refine bm_bd e_slot ?_
  refine bm_bd (e_namesIn p hc) ?_
  refine bm_bd (e_sum (a := 13) (N := 48) (s := 8 * c) (m := F (35 + 6 * c)) (f := fun j => F (69 + 2 * j)) (nI_slot c 0) rfl rfl rfl (by decide) (by have := (hV.2.2.2.2.2.2.2.2.2.1 c hc).2.2.2; omega) (fun k hk => p.at 8 k (by decide) hk)) ?_
  exact bm_ok (congrArg nI (sumN_congr (fun k _ => congrArg F (by omega))))
theorem e_hasName (p : bm_P I 5 F) (hV : bm_V' F) {x y : Int32} : f_X3_hasName [.inr (some 5), .inl x, .inl y] (bm_mk n I) = some (some (.inl (bm_b ((0 ≤ x ∧ x < nI (F 0)) ∧ 0 ≤ y ∧ y < nI (F (35 + 6 * x.toNatClampNeg))))), bm_mk n I) := by
  have h6 := hV.1
  refine bm_g u_X3_hasName ?_
  refine bm_bd (e_hasContest p (by omega)) ?_
  refine bm_bq (fun h => ?_) (fun h => ?_)
  · obtain ⟨c, hc, rfl⟩ := bm_k_of (by omega) h
    have h8 := (hV.2.2.2.2.2.2.2.2.2.1 c (by omega)).2.2.2
    refine bm_bd (e_namesIn p (by omega)) ?_
    refine bm_bd e_within ?_
    have e : (nI c).toNatClampNeg = c := nI_clamp (by omega)
    refine bm_bq (fun h' => ?_) (fun h' => ?_)
    · exact bm_ok (bm_b1 ⟨h, by rw [e]; exact (bm_nle (by omega)).mp h'⟩).symm
    · exact bm_ok (bm_b0 (fun z => h' ((bm_nle (by omega)).mpr (by rw [e] at z; exact z.2)))).symm
  · exact bm_ok (bm_b0 (fun z => h z.1)).symm
theorem bm_hasName_of {x y : Int32} (hV : bm_V' F) (h : (0 ≤ x ∧ x < nI (F 0)) ∧ 0 ≤ y ∧ y < nI (F (35 + 6 * x.toNatClampNeg))) : ∃ c k, c < F 0 ∧ k < F (35 + 6 * c) ∧ F (35 + 6 * c) ≤ 8 ∧ F 0 ≤ 6 ∧ x = nI c ∧ y = nI k := by
  have h6 := hV.1
  obtain ⟨c, hc, rfl⟩ := bm_k_of (by omega) h.1
  have h8 := (hV.2.2.2.2.2.2.2.2.2.1 c (by omega)).2.2.2
  have h2 := h.2
  rw [nI_clamp (show c < 2 ^ 31 by omega)] at h2
  obtain ⟨k, hk, rfl⟩ := bm_k_of (by omega) h2
  exact ⟨c, k, hc, hk, h8, h6, rfl, rfl⟩
def bm_na (F : Nat → Nat) (v c : Nat) (z : Int32) : Int32 := if c < F 0 ∧ 0 ≤ z ∧ z < nI (F (35 + 6 * c)) then nI (bm_sd' F v c z.toNatClampNeg) else -1
theorem bm_na_in {v c q : Nat} (hV : bm_V' F) (hc : c < F 0) (hq : q < F (35 + 6 * c)) : bm_na F v c (nI q) = nI (bm_sd' F v c q) := by
  have h8 := (hV.2.2.2.2.2.2.2.2.2.1 c (by have := hV.1; omega)).2.2.2
  unfold bm_na
  rw [if_pos ⟨hc, bm_of_k (by omega) hq⟩, nI_clamp (by omega)]
theorem e_nameAt (p : bm_P I 5 F) (hV : bm_V' F) {v c : Nat} (hv : v < 2 ^ 31) (hc : c < 6) {z : Int32} : f_X3_nameAt [.inr (some 5), .inl (nI v), .inl (nI c), .inl z] (bm_mk n I) = some (some (.inl (bm_na F v c z)), bm_mk n I) := by
  have h6 := hV.1
  obtain ⟨-, -, hw2, h8⟩ := hV.2.2.2.2.2.2.2.2.2.1 c hc
  refine bm_g u_X3_nameAt ?_
  refine bm_bd (e_hasContest p (by omega)) ?_
  refine bm_bq (fun h => ?_) (fun h => ?_)
  · have hcC : c < F 0 := (nI_ltI (by omega) (by omega)).mp h.2
    refine bm_bd (e_namesIn p hc) ?_
    refine bm_ie (nI_pos hv) ?_
    refine bm_le (F (35 + 6 * c)) 0 rfl rfl (by omega) (by decide) (fun h0 => ?_) (fun h0 => ?_)
    · refine bm_ok (if_neg (fun q => ?_)).symm
      have : F (35 + 6 * c) = 0 := by omega
      rw [this] at q
      exact absurd (Int32.lt_of_le_of_lt q.2.1 q.2.2) (by decide)
    · refine bm_bd e_within ?_
      refine bm_bq (fun hz => ?_) (fun hz => ?_)
      · have hz' := (bm_nle (m := F (35 + 6 * c)) (by omega)).mp hz
        obtain ⟨q, hq, rfl⟩ := bm_k_of (by omega) hz'
        rw [bm_na_in hV hcC hq]
        refine bm_bd (e_wayOf p hc) ?_
        unfold bm_sd'
        refine bm_eq (F (34 + 6 * c)) 1 rfl rfl (by omega) (by decide) (fun hw => ?_) (fun hw => ?_)
        · refine bm_ie (nI_ne0 h0 (by omega)) ?_
          refine bm_ie (nI_ne0 h0 (by omega)) ?_
          rw [if_pos hw]
          refine bm_ok ?_
          show (nI v - nI v / nI (F (35 + 6 * c)) * nI (F (35 + 6 * c)) + nI q) - (nI v - nI v / nI (F (35 + 6 * c)) * nI (F (35 + 6 * c)) + nI q) / nI (F (35 + 6 * c)) * nI (F (35 + 6 * c)) = _
          have hm := Nat.mod_lt v h0
          rw [pk_rem hv h0 (by omega), nI_add, pk_rem (by omega) h0 (by omega)]
        · rw [if_neg hw]
          refine bm_eq (F (34 + 6 * c)) 2 rfl rfl (by omega) (by decide) (fun hw' => ?_) (fun hw' => ?_)
          · refine bm_eq (v % 2) 0 (pk_rem (d := 2) hv (by decide) (by decide)) rfl (by omega) (by decide) (fun h2 => ?_) (fun h2 => ?_)
            · exact bm_ok (by rw [if_neg (fun z => z.2 h2)])
            · rw [if_pos ⟨hw', h2⟩]
              refine bm_ok ?_
              show nI (F (35 + 6 * c)) - 1 - nI q = _
              rw [bm_lit 1, pk_sub (by omega), pk_sub (by omega)]
          · exact bm_ok (by rw [if_neg (fun z => hw' z.1)])
      · refine bm_ok (if_neg (fun q => hz ?_)).symm
        exact (bm_nle (by omega)).mpr q.2
  · refine bm_ie (nI_pos hv) ?_
    refine bm_ok (if_neg (fun q => h ?_)).symm
    exact bm_of_k (by omega) q.1
/-! the order's places: each name has one -/
theorem bm_sd_lt {v c q : Nat} (hq : q < F (35 + 6 * c)) : bm_sd' F v c q < F (35 + 6 * c) := by
  unfold bm_sd'
  split
  · exact Nat.mod_lt _ (by omega)
  · split <;> omega
/-- the place of a name -/
def bm_pl (F : Nat → Nat) (v c k : Nat) : Nat := if F (34 + 6 * c) = 1 then (k + F (35 + 6 * c) - v % F (35 + 6 * c)) % F (35 + 6 * c) else if F (34 + 6 * c) = 2 ∧ v % 2 ≠ 0 then F (35 + 6 * c) - 1 - k else k
theorem bm_pl_lt {v c k : Nat} (hk : k < F (35 + 6 * c)) : bm_pl F v c k < F (35 + 6 * c) := by
  unfold bm_pl
  split
  · exact Nat.mod_lt _ (by omega)
  · split <;> omega
theorem bm_rot {m a q k : Nat} (ha : a < m) (hq : q < m) (hk : k < m) : (a + q) % m = k ↔ q = (k + m - a) % m := by
  have e1 : (a + q) % m = if a + q < m then a + q else a + q - m := by
    split
    · exact Nat.mod_eq_of_lt ‹_›
    · rw [Nat.mod_eq_sub_mod (by omega), Nat.mod_eq_of_lt (by omega)]
  have e2 : (k + m - a) % m = if k < a then k + m - a else k - a := by
    split
    · exact Nat.mod_eq_of_lt (by omega)
    · rw [Nat.mod_eq_sub_mod (by omega), Nat.mod_eq_of_lt (by omega)]; omega
  rw [e1, e2]
  split <;> split <;> omega
theorem bm_sd_pl {v c q k : Nat} (hq : q < F (35 + 6 * c)) (hk : k < F (35 + 6 * c)) : bm_sd' F v c q = k ↔ q = bm_pl F v c k := by
  unfold bm_sd' bm_pl
  split
  · exact bm_rot (Nat.mod_lt _ (by omega)) hq hk
  · split <;> omega
theorem e_placeOf_loop (p : bm_P I 5 F) (hV : bm_V' F) {v c k : Nat} (hv : v < 2 ^ 31) (hc : c < F 0) (hk : k < F (35 + 6 * c)) : ∀ (d i : Nat) (x : Int32) (o : Nat), x = nI i → i + d = bm_pl F v c k → d < o →
    bm_rn z_X3_placeOf o 3 ([some (.inr (some 5)), some (.inl (nI v)), some (.inl (nI c)), some (.inl (nI k)), some (.inl x)], [], bm_mk n I) = some (some (.inl (nI (bm_pl F v c k))), bm_mk n I) := by
  have h6 := hV.1
  have h8 := (hV.2.2.2.2.2.2.2.2.2.1 c (by omega)).2.2.2
  have hl := bm_pl_lt (v := v) hk
  intro d
  induction d with
  | zero =>
    intro i x o hx hi ho
    obtain ⟨o, rfl⟩ : ∃ q, o = q + 1 := ⟨o - 1, by omega⟩
    subst hx
    refine bm_bd (e_namesIn p (by omega)) ?_
    refine bm_le (F (35 + 6 * c)) i rfl rfl (by omega) (by omega) (fun z => absurd z (by omega)) (fun hz => ?_)
    refine bm_bd (e_nameAt p hV hv (by omega)) ?_
    refine bm_it ?_ (bm_ok (by rw [← hi]; rfl))
    rw [bm_na_in hV hc (by omega)]
    exact congrArg nI ((bm_sd_pl (by omega) hk).mpr (by omega))
  | succ d ih =>
    intro i x o hx hi ho
    obtain ⟨o, rfl⟩ : ∃ q, o = q + 1 := ⟨o - 1, by omega⟩
    subst hx
    refine bm_bd (e_namesIn p (by omega)) ?_
    refine bm_le (F (35 + 6 * c)) i rfl rfl (by omega) (by omega) (fun z => absurd z (by omega)) (fun hz => ?_)
    refine bm_bd (e_nameAt p hV hv (by omega)) ?_
    refine bm_ie ?_ ?_
    · rw [bm_na_in hV hc (by omega)]
      have := bm_sd_lt (F := F) (v := v) (c := c) (q := i) (by omega)
      exact fun z => absurd ((bm_sd_pl (by omega) hk).mp ((nI_eq (by omega) (by omega)).mp z)) (by omega)
    · exact ih (i + 1) _ o (nI_1 i) (by omega) (by omega)
theorem e_placeOf (p : bm_P I 5 F) (hV : bm_V' F) {v c k : Nat} (hv : v < 2 ^ 31) (hc : c < F 0) (hk : k < F (35 + 6 * c)) : f_X3_placeOf [.inr (some 5), .inl (nI v), .inl (nI c), .inl (nI k)] (bm_mk n I) = some (some (.inl (nI (bm_pl F v c k))), bm_mk n I) := by
  have h6 := hV.1
  have h8 := (hV.2.2.2.2.2.2.2.2.2.1 c (by omega)).2.2.2
  have hl := bm_pl_lt (v := v) hk
  exact bm_g u_X3_placeOf (e_placeOf_loop p hV hv hc hk (bm_pl F v c k) 0 0 1000 rfl (by omega) (by omega))
/-- one is ahead of a name: more votes, or as many and a lower number -/
def bm_ahd (F : Nat → Nat) (c k o : Nat) : Prop := nI (F (69 + 16 * c + 2 * k)) < nI (F (69 + 16 * c + 2 * o)) ∨ nI (F (69 + 16 * c + 2 * o)) = nI (F (69 + 16 * c + 2 * k)) ∧ o < k
noncomputable def bm_ahn (F : Nat → Nat) (c k : Nat) : Nat → Nat := sumN (fun o => @ite _ (bm_ahd F c k o) (Classical.propDecidable _) 1 0)
theorem bm_ahn_s1 {c k o : Nat} (h : bm_ahd F c k o) : bm_ahn F c k (o + 1) = bm_ahn F c k o + 1 := by
  show bm_ahn F c k o + (@ite _ (bm_ahd F c k o) (Classical.propDecidable _) 1 0) = _
  rw [if_pos h]
theorem bm_ahn_s0 {c k o : Nat} (h : ¬ bm_ahd F c k o) : bm_ahn F c k (o + 1) = bm_ahn F c k o := by
  show bm_ahn F c k o + (@ite _ (bm_ahd F c k o) (Classical.propDecidable _) 1 0) = _
  rw [if_neg h]; rfl
theorem bm_ahn_le {c k : Nat} : ∀ o, bm_ahn F c k o ≤ o
  | 0 => Nat.le_refl 0
  | o + 1 => by
    have := bm_ahn_le (c := c) (k := k) o
    by_cases h : bm_ahd F c k o
    · rw [bm_ahn_s1 h]; omega
    · rw [bm_ahn_s0 h]; omega
/-- whether a name has a seat -/
def bm_st (F : Nat → Nat) (c k : Nat) : Prop := bm_ahn F c k (F (35 + 6 * c)) < F (33 + 6 * c)
noncomputable def bm_stn (F : Nat → Nat) (c k : Nat) : Nat := @ite _ (bm_st F c k) (Classical.propDecidable _) 1 0
theorem e_hasSeat_loop (p : bm_P I 5 F) (hV : bm_V' F) {c k : Nat} (hc : c < 6) (hk : k < 8) (w : Option bm_V) : ∀ (d i : Nat) (x y : Int32) (w : Option bm_V) (o : Nat), x = nI i → y = nI (bm_ahn F c k i) → i + d = F (35 + 6 * c) → d < o →
    bm_rn z_X3_hasSeat o 13 ([some (.inr (some 5)), some (.inl (nI c)), some (.inl (nI k)), some (.inl (nI (F (69 + 16 * c + 2 * k)))), some (.inl y), some (.inl x), w], [], bm_mk n I) = some (some (.inl (nI (bm_stn F c k))), bm_mk n I) := by
  have h8 := (hV.2.2.2.2.2.2.2.2.2.1 c (by omega))
  intro d
  induction d with
  | zero =>
    intro i x y w o hx hy hi ho
    obtain ⟨o, rfl⟩ : ∃ q, o = q + 1 := ⟨o - 1, by omega⟩
    have hi : F (35 + 6 * c) = i := by omega
    subst hx
    refine bm_bd (e_namesIn p hc) ?_
    refine bm_it (by rw [hi]; exact Int32.le_refl _) ?_
    refine bm_bd (e_seatsOf p hc) ?_
    have hle := bm_ahn_le (F := F) (c := c) (k := k) i
    refine bm_le (F (33 + 6 * c)) (bm_ahn F c k i) rfl hy (by omega) (by omega) (fun hz => ?_) (fun hz => ?_)
    · refine bm_ok ?_
      have : ¬ bm_st F c k := by unfold bm_st; rw [hi]; omega
      unfold bm_stn
      rw [if_neg this]; rfl
    · refine bm_ok ?_
      have : bm_st F c k := by unfold bm_st; rw [hi]; omega
      unfold bm_stn
      rw [if_pos this]; rfl
  | succ d ih =>
    intro i x y w o hx hy hi ho
    obtain ⟨o, rfl⟩ : ∃ q, o = q + 1 := ⟨o - 1, by omega⟩
    subst hx
    refine bm_bd (e_namesIn p hc) ?_
    refine bm_le (F (35 + 6 * c)) i rfl rfl (by omega) (by omega) (fun z => absurd z (by omega)) (fun hz => ?_)
    refine bm_bd (e_votesOf p hc (by omega)) ?_
    refine bm_if (fun h1 => ?_) (fun h1 => ?_)
    · exact ih (i + 1) _ _ _ o (nI_1 i) (by rw [hy, bm_ahn_s1 (Or.inl h1)]; exact nI_1 _) (by omega) (by omega)
    · refine bm_if (fun h2 => ?_) (fun h2 => ?_)
      · refine bm_le k i rfl rfl (by omega) (by omega) (fun h3 => ?_) (fun h3 => ?_)
        · exact ih (i + 1) _ _ _ o (nI_1 i) (by rw [hy, bm_ahn_s0 (fun z => z.elim h1 (fun z => absurd z.2 (by omega)))]) (by omega) (by omega)
        · exact ih (i + 1) _ _ _ o (nI_1 i) (by rw [hy, bm_ahn_s1 (Or.inr ⟨h2, h3⟩)]; exact nI_1 _) (by omega) (by omega)
      · exact ih (i + 1) _ _ _ o (nI_1 i) (by rw [hy, bm_ahn_s0 (fun z => z.elim h1 (fun z => h2 z.1))]) (by omega) (by omega)
theorem e_hasSeat (p : bm_P I 5 F) (hV : bm_V' F) {c k : Nat} (hc : c < 6) (hk : k < 8) : f_X3_hasSeat [.inr (some 5), .inl (nI c), .inl (nI k)] (bm_mk n I) = some (some (.inl (nI (bm_stn F c k))), bm_mk n I) := by
  have h8 := (hV.2.2.2.2.2.2.2.2.2.1 c (by omega))
  refine bm_g u_X3_hasSeat ?_
  refine bm_bd (e_votesOf p hc hk) ?_
  exact e_hasSeat_loop p hV hc hk none (F (35 + 6 * c)) 0 0 0 none 1000 rfl rfl (by omega) (by omega)
theorem bm_stn01 {c k : Nat} : bm_stn F c k = 0 ∨ bm_stn F c k = 1 := by
  unfold bm_stn
  by_cases h : bm_st F c k
  · rw [if_pos h]; exact Or.inr rfl
  · rw [if_neg h]; exact Or.inl rfl
theorem e_roundedUp {M : bm_M} {a b : Nat} {x y : Int32} (hx : x = nI a) (hy : y = nI b) (ha : a < 1000000) (hb0 : 0 < b) (hb : b < 1000000) : f_X7_roundedUp [.inl x, .inl y] M = some (some (.inl (nI ((a + b - 1) / b))), M) := by
  subst hx; subst hy
  refine bm_g u_X7_roundedUp ?_
  refine bm_ie (fun z => absurd ((nI_leI (b := 0) (by omega) (by decide)).mp z) (by omega)) ?_
  refine bm_ie (nI_ne0 hb0 (by omega)) ?_
  refine bm_ok ?_
  show (nI a + nI b - 1) / nI b = _
  rw [nI_add, bm_lit 1, pk_sub (by omega), pk_div (by omega) hb0 (by omega)]
end PR
