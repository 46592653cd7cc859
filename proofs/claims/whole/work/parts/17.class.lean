set_option maxRecDepth 100000
/-! MORE OF THE CLASS: set, what there is, orders, undo, the text -/
section CT
variable {n : Nat} {I : Nat → Nat → Int32} {S : bm_S}
abbrev bm_al (x y : Int32) : Prop := (nI 0 ≤ x ∧ x ≤ nI 5) ∧ ((x = nI 4 ∧ y = nI 0) ∨ (nI (bm_LE x.toNatClampNeg) ≤ y ∧ y ≤ nI (bm_MO x.toNatClampNeg)))
theorem bm_LEs : ∀ w, w < 6 → bm_LE w ≤ bm_MO w ∧ bm_MO w ≤ 60 := by decide
theorem e_allowed (h : bm_RC I S) {x y : Int32} : f_X7_allowed [.inl x, .inl y] (bm_mk n I) = some (some (.inl (bm_b (bm_al x y))), bm_mk n I) := by
  have hL := h.2.2.2.2
  refine bm_g u_X7_allowed ?_
  refine bm_bd e_within (bm_bq (fun c1 => ?_) (fun c1 => ?_))
  · obtain ⟨w, -, w2, rfl⟩ := bm_rng (lo := 0) (hi := 5) (by decide) c1 (by decide)
    have ew : (nI w).toNatClampNeg = w := nI_clamp (by omega)
    have tail : ∀ hq : ¬ (nI w = nI 4 ∧ y = nI 0), bm_rn z_X7_allowed 1000 22 ([some (.inl (nI w)), some (.inl y)], [], bm_mk n I) = some (some (.inl (bm_b (bm_al (nI w) y))), bm_mk n I) := by
      intro hq
      refine bm_bd (e_gk (a := 1) (k := w) (N := 6) rfl rfl (by decide) (by omega)) ?_
      refine bm_bd (e_gk (a := 2) (k := w) (N := 6) rfl rfl (by decide) (by omega)) ?_
      refine bm_bd e_within ?_
      refine bm_it (bm_b01 _) ?_
      refine bm_ok (bm_bc ?_)
      show (I 1 w ≤ y ∧ y ≤ I 2 w) ↔ _
      rw [(hL w (by omega)).1, (hL w (by omega)).2]
      unfold bm_al
      rw [ew]
      exact ⟨fun z => ⟨c1, Or.inr z⟩, fun z => z.2.resolve_left hq⟩
    refine bm_if (fun c2 => ?_) (fun c2 => ?_)
    · refine bm_if (fun c3 => ?_) (fun c3 => ?_)
      · exact bm_ok (bm_b1 ⟨c1, Or.inl ⟨c2, c3⟩⟩).symm
      · exact tail (fun z => c3 z.2)
    · exact tail (fun z => c2 z.1)
  · exact bm_ok (bm_b0 (fun z => c1 z.1)).symm
def sp_set (S : bm_S) (x y : Int32) : Int32 × bm_S := if bm_al x y then (nI (S.1 (2 + 1 * x.toNatClampNeg)), bm_pu S (bm_Fset S.1 x.toNatClampNeg y.toNatClampNeg)) else (-1, S)
theorem bm_al_of {x y : Int32} (h : bm_al x y) : ∃ w k, w < 6 ∧ k ≤ bm_MO w ∧ (bm_LE w ≤ k ∨ w = 4 ∧ k = 0) ∧ x = nI w ∧ y = nI k := by
  obtain ⟨w, -, w2, rfl⟩ := bm_rng (by decide) h.1 (by decide)
  have h2 := h.2
  rw [nI_clamp (show w < 2 ^ 31 by omega)] at h2
  obtain ⟨m1, m2⟩ := bm_LEs w (by omega)
  rcases h2 with ⟨e1, e2⟩ | e
  · have := (nI_eq (by omega) (by decide)).mp e1
    exact ⟨w, 0, by omega, Nat.zero_le _, Or.inr ⟨this, rfl⟩, rfl, e2⟩
  · obtain ⟨k, k1, k2, rfl⟩ := bm_rng (by omega) e m1
    exact ⟨w, k, by omega, k2, Or.inl k1, rfl, rfl⟩
theorem c_set (h : bm_RC I S) (x y : Int32) : bm_cp n I (f_X7_set [.inr (some 4), .inl x, .inl y]) (sp_set S x y) := by
  unfold sp_set
  by_cases c1 : bm_al x y
  · rw [if_pos c1]
    obtain ⟨w, k, w1, k1, k2, rfl, rfl⟩ := bm_al_of c1
    obtain ⟨m1, m2⟩ := bm_LEs w w1
    rw [nI_clamp (show w < 2 ^ 31 by omega), nI_clamp (show k < 2 ^ 31 by omega)]
    obtain ⟨J, e, hJ, hf⟩ := c_keep (n := n) h
    obtain ⟨L, e2, p2, hf2⟩ := e_change (n := n) hJ.1 w1 (value := k) (by omega) (fun z => by subst z; exact k1)
    refine ⟨L, bm_g u_X7_set ?_, hJ.poll p2 hf2, (hf.wd (by decide) (by decide)).tr (hf2.wd (by decide) (by decide))⟩
    refine bm_bd (e_allowed h) (bm_bq (fun _ => ?_) (fun z => absurd c1 z))
    refine bm_bd e ?_
    refine bm_bd e2 ?_
    rfl
  · rw [if_neg c1]
    refine bm_cp.rd h (bm_g u_X7_set ?_)
    exact bm_bd (e_allowed h) (bm_bq (fun z => absurd z c1) (fun _ => bm_ok rfl))
def sp_contestOf (S : bm_S) (x w : Int32) : Int32 := if 0 ≤ x ∧ x < nI (S.1 0) then (if w = nI 0 then nI (S.1 (32 + 6 * x.toNatClampNeg)) else if w = nI 1 then nI (S.1 (33 + 6 * x.toNatClampNeg)) else if w = nI 2 then nI (S.1 (34 + 6 * x.toNatClampNeg)) else if w = nI 3 then nI (S.1 (35 + 6 * x.toNatClampNeg)) else if w = nI 4 then nI (sumN (fun k => S.1 (69 + 16 * x.toNatClampNeg + 2 * k)) (S.1 (35 + 6 * x.toNatClampNeg))) else if w = nI 5 then nI (S.1 (36 + 6 * x.toNatClampNeg)) else if w = nI 6 then nI (S.1 (37 + 6 * x.toNatClampNeg)) else -1) else -1
theorem bm_fi {c : Prop} {inst : Decidable c} {A B : Option bm_R} {a b : Int32} {M : bm_M} (h1 : c → A = some (some (.inl a), M)) (h2 : ¬ c → B = some (some (.inl b), M)) : (@ite _ c inst A B) = some (some (.inl (@ite _ c inst a b)), M) := by
  by_cases h : c
  · rw [if_pos h, if_pos h]; exact h1 h
  · rw [if_neg h, if_neg h]; exact h2 h
theorem c_contestOf (h : bm_RC I S) (v : bm_VV S) (x w : Int32) : bm_cp n I (f_X7_contestOf [.inr (some 4), .inl x, .inl w]) (sp_contestOf S x w, S) := by
  have p := h.1
  have h6 := v.1.1
  refine bm_cp.rd h (bm_g u_X7_contestOf ?_)
  unfold sp_contestOf
  by_cases c1 : 0 ≤ x ∧ x < nI (S.1 0)
  · obtain ⟨a, a1, rfl⟩ := bm_k_of (by omega) c1
    rw [if_pos c1, nI_clamp (show a < 2 ^ 31 by omega)]
    have ha : a < 6 := by omega
    refine bm_bd (e_hasContest p (by omega)) (bm_bq (fun _ => ?_) (fun z => absurd c1 z))
    refine bm_fi (fun _ => bm_bd (e_titleOf p ha) (bm_ok rfl)) (fun _ => ?_)
    refine bm_fi (fun _ => bm_bd (e_seatsOf p ha) (bm_ok rfl)) (fun _ => ?_)
    refine bm_fi (fun _ => bm_bd (e_wayOf p ha) (bm_ok rfl)) (fun _ => ?_)
    refine bm_fi (fun _ => bm_bd (e_namesIn p ha) (bm_ok rfl)) (fun _ => ?_)
    refine bm_fi (fun _ => bm_bd (e_votesIn p v.1 ha) (bm_ok rfl)) (fun _ => ?_)
    refine bm_fi (fun _ => bm_bd (e_spoiltIn p ha) (bm_ok rfl)) (fun _ => ?_)
    refine bm_fi (fun _ => bm_bd (e_blankIn p ha) (bm_ok rfl)) (fun _ => ?_)
    exact bm_ok rfl
  · rw [if_neg c1]
    exact bm_bd (e_hasContest p (by omega)) (bm_bq (fun z => absurd z c1) (fun _ => bm_ok rfl))
def sp_count (S : bm_S) (w : Int32) : Int32 := if w = nI 0 then nI (S.1 0) else if w = nI 1 then nI (sumN (fun c => S.1 (35 + 6 * c)) (S.1 0)) else if w = nI 2 then nI (sumN (fun u => S.1 (8 + u)) (S.1 7)) else if w = nI 3 then nI (S.1 1) else if w = nI 4 then nI S.2.1 else if w = nI 5 then nI S.2.2.2.1 else if nI 10 ≤ w ∧ w ≤ nI 15 then nI (S.1 (2 + 1 * (w.toNatClampNeg - 10))) else -1
theorem e_tlen (h : bm_RC I S) : f_X6_length [.inr (some 69)] (bm_mk n I) = some (some (.inl (nI S.2.2.2.1)), bm_mk n I) := bm_g u_X6_length (bm_ok h.2.2.1)
theorem e_settingOfCount (h : bm_RC I S) {w : Int32} : f_X7_settingOfCount [.inr (some 4), .inl w] (bm_mk n I) = some (some (.inl (if nI 10 ≤ w ∧ w ≤ nI 15 then nI (S.1 (2 + 1 * (w.toNatClampNeg - 10))) else -1)), bm_mk n I) := by
  refine bm_g u_X7_settingOfCount ?_
  by_cases c : nI 10 ≤ w ∧ w ≤ nI 15
  · rw [if_pos c]
    refine bm_bd e_within (bm_bq (fun _ => ?_) (fun z => absurd c z))
    obtain ⟨k, k1, k2, rfl⟩ := bm_rng (by decide) c (by decide)
    rw [nI_clamp (show k < 2 ^ 31 by omega)]
    have e : (nI k - 10 : Int32) = nI (k - 10) := by rw [bm_lit 10]; exact pk_sub (by omega)
    have key := e_setting (n := n) h.1 (c := k - 10) (by omega)
    rw [← e] at key
    exact bm_bd key (bm_ok rfl)
  · rw [if_neg c]
    exact bm_bd e_within (bm_bq (fun z => absurd z c) (fun _ => bm_ok rfl))
theorem c_count (h : bm_RC I S) (v : bm_VV S) (w : Int32) : bm_cp n I (f_X7_count [.inr (some 4), .inl w]) (sp_count S w, S) := by
  have p := h.1
  refine bm_cp.rd h (bm_g u_X7_count ?_)
  unfold sp_count
  refine bm_fi (fun _ => bm_bd (e_contests p) (bm_ok rfl)) (fun _ => ?_)
  refine bm_fi (fun _ => bm_bd (e_allNames p v.1) (bm_ok rfl)) (fun _ => ?_)
  refine bm_fi (fun _ => bm_bd (e_allPapers p v.1) (bm_ok rfl)) (fun _ => ?_)
  refine bm_fi (fun _ => bm_bd (e_ballots p) (bm_ok rfl)) (fun _ => ?_)
  refine bm_fi (fun _ => bm_bd (e_kept h.2.1) (bm_ok rfl)) (fun _ => ?_)
  refine bm_fi (fun _ => bm_bd (e_tlen h) (bm_ok rfl)) (fun _ => ?_)
  exact bm_bd (e_settingOfCount h) (bm_ok rfl)
def sp_papersOf (S : bm_S) (x : Int32) : Int32 := if 0 ≤ x ∧ x < nI (S.1 7) then nI (S.1 (8 + 1 * x.toNatClampNeg)) else -1
theorem c_papersOf (h : bm_RC I S) (v : bm_VV S) (x : Int32) : bm_cp n I (f_X7_papersOf [.inr (some 4), .inl x]) (sp_papersOf S x, S) := by
  have p := h.1
  have h7 := v.1.2.2.2.2.2.2.2.1
  refine bm_cp.rd h (bm_g u_X7_papersOf ?_)
  unfold sp_papersOf
  by_cases c1 : 0 ≤ x ∧ x < nI (S.1 7)
  · obtain ⟨a, a1, rfl⟩ := bm_k_of (by omega) c1
    rw [if_pos c1, nI_clamp (show a < 2 ^ 31 by omega)]
    refine bm_bd (e_hasVersion p (by omega)) (bm_bq (fun _ => ?_) (fun z => absurd c1 z))
    exact bm_bd (e_papersIn p (by omega)) (bm_ok rfl)
  · rw [if_neg c1]
    exact bm_bd (e_hasVersion p (by omega)) (bm_bq (fun z => absurd z c1) (fun _ => bm_ok rfl))
def sp_stands (S : bm_S) (x y z : Int32) : Int32 := if ((0 ≤ x ∧ x < nI (S.1 7)) ∧ 0 ≤ y ∧ y < nI (S.1 0)) ∧ 0 ≤ z then (if z < nI (S.1 (35 + 6 * y.toNatClampNeg)) then nI (bm_sd' S.1 x.toNatClampNeg y.toNatClampNeg z.toNatClampNeg) else -4) else -1
theorem c_stands (h : bm_RC I S) (v : bm_VV S) (x y z : Int32) : bm_cp n I (f_X7_stands [.inr (some 4), .inl x, .inl y, .inl z]) (sp_stands S x y z, S) := by
  have p := h.1
  have h6 := v.1.1
  have h7 := v.1.2.2.2.2.2.2.2.1
  refine bm_cp.rd h (bm_g u_X7_stands ?_)
  unfold sp_stands
  refine bm_bd (e_hasVersion p (by omega)) (bm_bq (fun c1 => ?_) (fun c1 => ?_))
  · refine bm_bd (e_hasContest p (by omega)) (bm_bq (fun c2 => ?_) (fun c2 => ?_))
    · refine bm_if (fun c3 => ?_) (fun c3 => ?_)
      · rw [if_pos ⟨⟨c1, c2⟩, c3⟩]
        obtain ⟨a, a1, rfl⟩ := bm_k_of (by omega) c1
        obtain ⟨b, b1, rfl⟩ := bm_k_of (by omega) c2
        have h8 := (v.1.2.2.2.2.2.2.2.2.2.1 b (by omega)).2.2.2
        rw [nI_clamp (show a < 2 ^ 31 by omega), nI_clamp (show b < 2 ^ 31 by omega)]
        refine bm_bd (e_nameAt p v.1 (by omega) (by omega)) ?_
        by_cases c4 : z < nI (S.1 (35 + 6 * b))
        · rw [if_pos c4]
          have e : bm_na S.1 a b z = nI (bm_sd' S.1 a b z.toNatClampNeg) := if_pos ⟨b1, c3, c4⟩
          obtain ⟨q, hq, rfl⟩ := bm_k_of (by omega) ⟨c3, c4⟩
          have hlt : bm_sd' S.1 a b q < S.1 (35 + 6 * b) := bm_sd_lt hq
          rw [nI_clamp (show q < 2 ^ 31 by omega)] at e ⊢
          refine bm_ie (fun w => ?_) (bm_ok e)
          change bm_na S.1 a b (nI q) = -1 at w
          rw [e] at w
          have := congrArg Int32.toInt w
          rw [nI_toInt (by omega), show (-1 : Int32).toInt = -1 from by decide] at this
          omega
        · rw [if_neg c4]
          exact bm_it (if_neg (fun w => c4 w.2.2)) (bm_ok rfl)
      · rw [if_neg (fun w => c3 w.2)]; exact bm_ok rfl
    · rw [if_neg (fun w => c2 w.1.2)]; exact bm_ok rfl
  · rw [if_neg (fun w => c1 w.1.1)]; exact bm_ok rfl
def sp_undo (S : bm_S) : Int32 × bm_S := if S.2.1 = 0 then (-2, S) else (nI (S.2.1 - 1), (S.2.2.1 (S.2.1 - 1), S.2.1 - 1, S.2.2.1, S.2.2.2.1, S.2.2.2.2))
theorem c_undo (h : bm_RC I S) (v : bm_VV S) : bm_cp n I (f_X7_undo [.inr (some 4)]) (sp_undo S) := by
  have h4 := v.2.1
  unfold sp_undo
  by_cases c1 : S.2.1 = 0
  · rw [if_pos c1]
    refine bm_cp.rd h (bm_g u_X7_undo ?_)
    refine bm_bd (e_kept h.2.1) ?_
    exact bm_eq S.2.1 0 rfl rfl (by omega) (by decide) (fun _ => bm_ok rfl) (fun z => absurd c1 z)
  · rw [if_neg c1]
    obtain ⟨F, P, Q, tl, T⟩ := S
    obtain ⟨m, rfl⟩ : ∃ m, P = m + 1 := ⟨P - 1, by have c1 : P ≠ 0 := c1; omega⟩
    obtain ⟨p, hh, ht, hT, hL⟩ := id h
    obtain ⟨J, e, hH, p2, hf⟩ := e_restore (n := n) hh
    refine ⟨J, bm_g u_X7_undo ?_, ⟨p2, hH, ?_, fun j hj => ?_, fun k hk => ?_⟩, hf.wd (by decide) (by decide)⟩
    · refine bm_bd (e_kept hh) ?_
      refine bm_eq (m + 1) 0 rfl rfl (by have h4 : m + 1 ≤ 4 := h4; omega) (by decide) (fun z => absurd z c1) (fun _ => ?_)
      refine bm_bd e ?_
      refine bm_bd (e_kept hH) ?_
      exact bm_ok rfl
    · rw [hf 69 (by omega)]; exact ht
    · rw [hf 70 (by omega)]; exact hT j hj
    · rw [hf 1 (by omega), hf 2 (by omega)]; exact hL k hk
def sp_type (S : bm_S) (x : Int32) : Int32 × bm_S := if nI 32 ≤ x ∧ x ≤ nI 126 then (if 40 ≤ S.2.2.2.1 then (-3, S) else (nI (S.2.2.2.1 + 1), (S.1, S.2.1, S.2.2.1, S.2.2.2.1 + 1, fun j => if j = S.2.2.2.1 then x.toNatClampNeg else S.2.2.2.2 j))) else (-1, S)
theorem c_type (h : bm_RC I S) (v : bm_VV S) (x : Int32) : bm_cp n I (f_X7_type [.inr (some 4), .inl x]) (sp_type S x) := by
  have h40 := v.2.2.2.1
  unfold sp_type
  by_cases c1 : nI 32 ≤ x ∧ x ≤ nI 126
  · rw [if_pos c1]
    obtain ⟨a, a1, a2, rfl⟩ := bm_rng (by decide) c1 (by decide)
    by_cases c2 : 40 ≤ S.2.2.2.1
    · rw [if_pos c2]
      refine bm_cp.rd h (bm_g u_X7_type ?_)
      refine bm_bd e_within (bm_bq (fun _ => ?_) (fun z => absurd c1 z))
      refine bm_bd (e_tlen h) ?_
      exact bm_lt S.2.2.2.1 40 rfl rfl (by omega) (by decide) (fun z => absurd z (by omega)) (fun _ => bm_ok rfl)
    · rw [if_neg c2, nI_clamp (show a < 2 ^ 31 by omega)]
      obtain ⟨p, hh, ht, hT, hL⟩ := id h
      let I2 := va_up I 70 (upd (I 70) S.2.2.2.1 (nI a))
      have e1 : f_X6_append [.inr (some 69), .inl (nI a)] (bm_mk n I) = some (some (.inl (nI (S.2.2.2.1 + 1))), bm_mk n (va_up I2 69 (upd (I2 69) 1 (I 69 1 + 1)))) := by
        refine bm_g u_X6_append ?_
        refine bm_le 40 S.2.2.2.1 rfl ht (by decide) (by omega) (fun z => absurd z (by omega)) (fun _ => ?_)
        refine bm_bd (e_put (a := 70) (k := S.2.2.2.1) (N := 40) ht rfl rfl (by decide) rfl (by omega)) ?_
        exact bm_ok (by show I 69 1 + 1 = _; rw [ht]; exact nI_1 _)
      have gJ : ∀ k, k ≠ 69 → k ≠ 70 → va_up I2 69 (upd (I2 69) 1 (I 69 1 + 1)) k = I k := fun k k1 k2 => (va_up_ne _ _ k1).trans (va_up_ne _ _ k2)
      refine ⟨va_up I2 69 (upd (I2 69) 1 (I 69 1 + 1)), bm_g u_X7_type ?_, ⟨p.congr (fun i hi => gJ _ (by omega) (by omega)), hh.congr (fun k k1 k2 => gJ _ (by omega) (by omega)), ?_, fun j hj => ?_, fun k hk => ?_⟩, (bm_fz.rf.up (by decide) (by decide)).up (by decide) (by decide)⟩
      · refine bm_bd e_within (bm_bq (fun _ => ?_) (fun z => absurd c1 z))
        refine bm_bd (e_tlen h) ?_
        refine bm_lt S.2.2.2.1 40 rfl rfl (by omega) (by decide) (fun _ => ?_) (fun z => absurd z (by omega))
        refine bm_bd e1 ?_
        rfl
      · show I 69 1 + 1 = _
        rw [ht]; exact nI_1 _
      · have hj : j < S.2.2.2.1 + 1 := hj
        show upd (I 70) S.2.2.2.1 (nI a) j = nI (if j = S.2.2.2.1 then a else S.2.2.2.2 j)
        unfold upd
        by_cases e : j = S.2.2.2.1
        · rw [if_pos e, if_pos e]
        · rw [if_neg e, if_neg e]; exact hT j (by omega)
      · exact hL k hk
  · rw [if_neg c1]
    refine bm_cp.rd h (bm_g u_X7_type ?_)
    exact bm_bd e_within (bm_bq (fun z => absurd z c1) (fun _ => bm_ok rfl))
def sp_clearText (S : bm_S) : Int32 × bm_S := (nI S.2.2.2.1, (S.1, S.2.1, S.2.2.1, 0, S.2.2.2.2))
theorem c_clearText (h : bm_RC I S) : bm_cp n I (f_X7_clearText [.inr (some 4)]) (sp_clearText S) := by
  obtain ⟨p, hh, ht, hT, hL⟩ := id h
  have e1 : f_X6_empty [.inr (some 69)] (bm_mk n I) = some (some (.inl (nI S.2.2.2.1)), bm_mk n (va_up I 69 (upd (I 69) 1 0))) := bm_g u_X6_empty (bm_ok ht)
  have gJ : ∀ k, k ≠ 69 → va_up I 69 (upd (I 69) 1 0) k = I k := fun k k1 => va_up_ne _ _ k1
  refine ⟨va_up I 69 (upd (I 69) 1 0), bm_g u_X7_clearText (bm_bd e1 (by rfl)), ⟨p.congr (fun i hi => gJ _ (by omega)), hh.congr (fun k k1 k2 => gJ _ (by omega)), rfl, fun j hj => absurd hj (Nat.not_lt_zero j), fun k hk => hL k hk⟩, bm_fz.rf.up (by decide) (by decide)⟩
end CT
