set_option maxRecDepth 100000
/-! THE CLASS LAYS A PAPER -/
section LD
variable {n : Nat} {I : Nat → Nat → Int32} {F : Nat → Nat}
theorem ly_C.mono {Y : ly_Y} {D D' : Nat → Prop} (h : ly_C I Y D) (e : ∀ j, j < 48 → D' j → D j) : ly_C I Y D' :=
  ⟨h.1, h.2.1, h.2.2.1, h.2.2.2.1, h.2.2.2.2.1, fun j hj hD => h.2.2.2.2.2 j hj (e j hj hD)⟩
theorem ly_C.congr {J : Nat → Nat → Int32} {Y : ly_Y} {D : Nat → Prop} (h : ly_C I Y D) (e2 : J 62 = I 62) (e3 : J 63 = I 63) (e4 : J 64 = I 64) : ly_C J Y D :=
  ⟨by rw [e2]; exact h.1, by rw [e2]; exact h.2.1, by rw [e2]; exact h.2.2.1, by rw [e2]; exact h.2.2.2.1, by rw [e2]; exact h.2.2.2.2.1, fun j hj hD => by rw [e3, e4]; exact h.2.2.2.2.2 j hj hD⟩
theorem ly_K.congr {J : Nat → Nat → Int32} (h : ly_K I F) (e2 : J 62 = I 62) : ly_K J F := ⟨by rw [e2]; exact h.1, by rw [e2]; exact h.2.1, by rw [e2]; exact h.2.2⟩
theorem bm_P.v62 {f : Nat → Int32} (p : bm_P I 5 F) : bm_P (va_up I 62 f) 5 F := p.congr (fun i hi => va_up_ne _ _ (by omega))
theorem e_layTitle (hK : ly_K I F) (hV : bm_V' F) {W v c b : Nat} (hW : 8 ≤ W) (hc : c < 6) (hm : F (35 + 6 * c) ≠ 0) {Y : ly_Y} {D : Nat → Prop} (hC : ly_C I Y D) (hY : ly_ok Y b) (hb : b < 1000) {x y : Int32} (hx : x = nI (ly_tl F W c)) (hy : y = nI (ly_nl F W c (bm_sd' F v c 0))) :
    ∃ L, f_X5_layTitle [.inr (some 62), .inl x, .inl y] (bm_mk n I) = some (none, bm_mk n L) ∧ ly_C L (ly_t F W v c Y) D ∧ ly_K L F ∧ ∀ q, q ≠ 62 → L q = I q := by
  subst hx; subst hy
  have h8 := (hV.2.2.2.2.2.2.2.2.2.1 c hc).2.2.2
  have hsd := bm_sd_lt (F := F) (v := v) (c := c) (q := 0) (by omega)
  have h1 := ly_nl_le hV hW hc (show bm_sd' F v c 0 < 8 by omega)
  have ht := ly_tl_le hV hW hc
  have h3 := hV.2.2.2.1
  obtain ⟨y1, y2⟩ := hY
  have hbf := ly_bf_le (F := F) (a := Y.2.1 + 1 + ly_tl F W c)
  obtain ⟨c1, c2, c3, c4, c5, c6⟩ := hC
  obtain ⟨k1, k2, k3⟩ := id hK
  have hx1 : (I 62 8 + 1 + nI (ly_tl F W c) : Int32) = nI (Y.2.1 + 1 + ly_tl F W c) := by rw [c2, nI_1, nI_add]
  suffices H : ∃ L, bm_rn z_X5_layTitle 1000 0 ([some (.inr (some 62)), some (.inl (nI (ly_tl F W c))), some (.inl (nI (ly_nl F W c (bm_sd' F v c 0)))), none], [], bm_mk n I) = some (none, bm_mk n L) ∧ ly_C L (ly_t F W v c Y) D ∧ ly_K L F ∧ ∀ q, q ≠ 62 → L q = I q by
    obtain ⟨L, e, r⟩ := H
    exact ⟨L, bm_g u_X5_layTitle e, r⟩
  by_cases q : Y.1 = 0 ∨ F 3 < ly_bf F (Y.2.1 + 1 + ly_tl F W c) + ly_nl F W c (bm_sd' F v c 0)
  · refine ⟨?L1, ?w1, ?a1, ?b1, ?d1⟩
    case w1 =>
      refine bm_eq Y.1 0 c1 rfl (by omega) (by decide) (fun _ => ?_) (fun z => ?_)
      · rfl
      · refine bm_bd (e_behindFold hK hV hx1 (by omega)) ?_
        refine bm_bd (e_fits hK hV rfl rfl (by omega) (by omega)) (bm_bq (fun w => absurd w (by omega)) (fun _ => ?_))
        rfl
    case a1 =>
      unfold ly_t
      rw [if_pos q]
      refine ⟨?_, ?_, ?_, c4, c5, c6⟩
      · show I 62 7 + 1 = nI (Y.1 + 1); rw [c1]; exact nI_1 _
      · show (0 : Int32) + nI (ly_tl F W c) = nI (ly_tl F W c); rw [bm_lit 0, nI_add, Nat.zero_add]
      · show I 62 9 + nI (ly_tl F W c) = nI (Y.2.2.1 + ly_tl F W c); rw [c3]; exact nI_add _ _
    case b1 => exact ⟨k1, k2, k3⟩
    case d1 =>
      intro r r1
      exact (va_up_ne _ _ r1).trans ((va_up_ne _ _ r1).trans (va_up_ne _ _ r1))
  · refine ⟨?L2, ?w2, ?a2, ?b2, ?d2⟩
    case w2 =>
      refine bm_eq Y.1 0 c1 rfl (by omega) (by decide) (fun z => absurd z (by omega)) (fun z => ?_)
      refine bm_bd (e_behindFold hK hV hx1 (by omega)) ?_
      refine bm_bd (e_fits hK hV rfl rfl (by omega) (by omega)) (bm_bq (fun _ => ?_) (fun w => absurd (show ly_bf F (Y.2.1 + 1 + ly_tl F W c) + ly_nl F W c (bm_sd' F v c 0) ≤ F 3 by omega) w))
      rfl
    case a2 =>
      unfold ly_t
      rw [if_neg q]
      refine ⟨c1, ?_, ?_, c4, c5, c6⟩
      · show I 62 8 + 1 + nI (ly_tl F W c) = nI (Y.2.1 + 1 + ly_tl F W c); exact hx1
      · show I 62 9 + nI (ly_tl F W c) = nI (Y.2.2.1 + ly_tl F W c); rw [c3]; exact nI_add _ _
    case b2 => exact ⟨k1, k2, k3⟩
    case d2 =>
      intro r r1
      exact (va_up_ne _ _ r1).trans (va_up_ne _ _ r1)
theorem ly_m_pos {W v c : Nat} {Y : ly_Y} (h : 1 ≤ Y.1) : ∀ i, 1 ≤ (ly_m F W v c Y i).1
  | 0 => h
  | i + 1 => by
    have ih : 1 ≤ (ly_m F W v c Y i).1 := ly_m_pos h i
    show 1 ≤ (ly_n F W c (bm_sd' F v c i) (ly_m F W v c Y i)).1
    unfold ly_n
    split
    · show 1 ≤ _ + 1; omega
    · exact ih
theorem e_layNames_loop (hV : bm_V' F) {W v c b : Nat} (hW : 8 ≤ W) (hv : v < 2 ^ 31) (hc : c < F 0) {Y : ly_Y} {D : Nat → Prop} (hY : ly_ok Y b) (hb : b < 900) (h1 : 1 ≤ Y.1) (p : bm_P I 5 F) (hl : ∀ k, k < F (35 + 6 * c) → I 65 (8 * c + k) = nI (ly_nl F W c k)) : ∀ (d i : Nat) (x : Int32) (J : Nat → Nat → Int32) (o : Nat), x = nI i → i + d = F (35 + 6 * c) → d < o → (∀ q, q ≠ 62 → q ≠ 63 → q ≠ 64 → J q = I q) → ly_K J F → ly_C J (ly_m F W v c Y i) (fun j => D j ∨ ∃ q, q < i ∧ j = 8 * c + bm_sd' F v c q) →
    ∃ L, bm_rn z_X5_layNames o 3 ([some (.inr (some 62)), some (.inr (some 5)), some (.inl (nI v)), some (.inl (nI c)), some (.inl x)], [], bm_mk n J) = some (none, bm_mk n L) ∧ (∀ q, q ≠ 62 → q ≠ 63 → q ≠ 64 → L q = I q) ∧ ly_K L F ∧ ly_C L (ly_m F W v c Y (F (35 + 6 * c))) (fun j => D j ∨ ∃ q, q < F (35 + 6 * c) ∧ j = 8 * c + bm_sd' F v c q) := by
  have h6 := hV.1
  have h8 := (hV.2.2.2.2.2.2.2.2.2.1 c (by omega)).2.2.2
  intro d
  induction d with
  | zero =>
    intro i x J o hx hi ho f hK hC
    obtain ⟨o, rfl⟩ : ∃ q, o = q + 1 := ⟨o - 1, by omega⟩
    subst hx
    have pJ : bm_P J 5 F := p.congr (fun j hj => f _ (by omega) (by omega) (by omega))
    have hi : i = F (35 + 6 * c) := by omega
    rw [hi] at hC
    refine ⟨J, ?_, f, hK, hC⟩
    refine bm_bd (e_namesIn pJ (by omega)) ?_
    refine bm_le (F (35 + 6 * c)) i rfl rfl (by omega) (by omega) (fun _ => ?_) (fun z => absurd z (by omega))
    rfl
  | succ d ih =>
    intro i x J o hx hi ho f hK hC
    obtain ⟨o, rfl⟩ : ∃ q, o = q + 1 := ⟨o - 1, by omega⟩
    subst hx
    have pJ : bm_P J 5 F := p.congr (fun j hj => f _ (by omega) (by omega) (by omega))
    have hsd := bm_sd_lt (F := F) (v := v) (c := c) (q := i) (by omega)
    have hok := ly_m_ok hV hW (v := v) (show c < 6 by omega) hY i (by omega)
    obtain ⟨A, eA, a1, a2, a3⟩ := e_layName (n := n) hK hV hW (show c < 6 by omega) (show bm_sd' F v c i < 8 by omega) hC hok (by omega) (ly_m_pos h1 i) (by rw [f 65 (by decide) (by decide) (by decide)]; exact hl _ hsd) (nI_slot c (bm_sd' F v c i))
    obtain ⟨L, e, r⟩ := ih (i + 1) _ A o (nI_1 i) (by omega) (by omega) (fun q q1 q2 q3 => (a3 q q1 q2 q3).trans (f q q1 q2 q3)) a2 (a1.mono (fun j _ hD => by
      rcases hD with hD | ⟨q, hq, e⟩
      · exact Or.inl (Or.inl hD)
      · by_cases z : q = i
        · subst z; exact Or.inr e
        · exact Or.inl (Or.inr ⟨q, by omega, e⟩)))
    refine ⟨L, ?_, r⟩
    refine bm_bd (e_namesIn pJ (by omega)) ?_
    refine bm_le (F (35 + 6 * c)) i rfl rfl (by omega) (by omega) (fun z => absurd z (by omega)) (fun _ => ?_)
    refine bm_bd (e_nameAt pJ hV hv (by omega)) ?_
    rw [bm_na_in hV hc (show i < F (35 + 6 * c) by omega)]
    refine bm_bd e_slot ?_
    refine bm_bd eA ?_
    exact e
theorem e_measure_loop (hV : bm_V' F) {W c : Nat} (hW : 8 ≤ W) (hW2 : W ≤ 40) (hc : c < 6) (p : bm_P I 5 F) : ∀ (d i : Nat) (x : Int32) (w : Option bm_V) (J : Nat → Nat → Int32) (o : Nat), x = nI i → i + d = F (35 + 6 * c) → d < o → (∀ q, q ≠ 65 → J q = I q) → (∀ k, k < i → J 65 (8 * c + k) = nI (ly_nl F W c k)) → (∀ j, j < 8 * c → J 65 j = I 65 j) →
    ∃ L, bm_rn z_X5_measure o 3 ([some (.inr (some 62)), some (.inr (some 5)), some (.inl (nI c)), some (.inl (nI W)), some (.inl x), w], [], bm_mk n J) = some (none, bm_mk n L) ∧ (∀ q, q ≠ 65 → L q = I q) ∧ (∀ k, k < F (35 + 6 * c) → L 65 (8 * c + k) = nI (ly_nl F W c k)) ∧ (∀ j, j < 8 * c → L 65 j = I 65 j) := by
  have h8 := (hV.2.2.2.2.2.2.2.2.2.1 c (by omega)).2.2.2
  intro d
  induction d with
  | zero =>
    intro i x w J o hx hi ho f1 f2 f3
    obtain ⟨o, rfl⟩ : ∃ q, o = q + 1 := ⟨o - 1, by omega⟩
    subst hx
    have pJ : bm_P J 5 F := p.congr (fun j hj => f1 _ (by omega))
    refine ⟨J, ?_, f1, by rw [show F (35 + 6 * c) = i by omega]; exact f2, f3⟩
    refine bm_bd (e_namesIn pJ (by omega)) ?_
    refine bm_le (F (35 + 6 * c)) i rfl rfl (by omega) (by omega) (fun _ => ?_) (fun z => absurd z (by omega))
    rfl
  | succ d ih =>
    intro i x w J o hx hi ho f1 f2 f3
    obtain ⟨o, rfl⟩ : ∃ q, o = q + 1 := ⟨o - 1, by omega⟩
    subst hx
    have pJ : bm_P J 5 F := p.congr (fun j hj => f1 _ (by omega))
    have hlen := hV.2.2.2.2.2.2.2.2.2.2 (8 * c + i) (by omega)
    rw [show 68 + 2 * (8 * c + i) = 68 + 16 * c + 2 * i by omega] at hlen
    have eW : (nI W - 3 : Int32) = nI (W - 3) := by rw [bm_lit 3]; exact pk_sub (by omega)
    obtain ⟨L, e, r⟩ := ih (i + 1) _ (some (.inl (nI (ly_nl F W c i)))) (va_up J 65 (upd (J 65) (8 * c + i) (nI (ly_nl F W c i)))) o (nI_1 i) (by omega) (by omega) (fun q hq => (va_up_ne _ _ hq).trans (f1 q hq)) (fun k hk => by
      show upd (J 65) (8 * c + i) _ (8 * c + k) = _
      unfold upd
      by_cases z : k = i
      · subst z; exact if_pos rfl
      · rw [if_neg (by omega)]; exact f2 k (by omega)) (fun j hj => by
      show upd (J 65) (8 * c + i) _ j = _
      unfold upd
      rw [if_neg (by omega)]; exact f3 j hj)
    refine ⟨L, ?_, r⟩
    refine bm_bd (e_namesIn pJ (by omega)) ?_
    refine bm_le (F (35 + 6 * c)) i rfl rfl (by omega) (by omega) (fun z => absurd z (by omega)) (fun _ => ?_)
    refine bm_bd (e_lengthOf pJ (by omega) (by omega)) ?_
    refine bm_bd (e_roundedUp rfl eW (by omega) (by omega) (by omega)) ?_
    refine bm_bd e_slot ?_
    refine bm_bd (e_put (a := 65) (N := 48) (nI_slot c i) rfl rfl (by decide) rfl (by omega)) ?_
    exact e
theorem e_measure (hV : bm_V' F) {W c : Nat} (hW : 8 ≤ W) (hW2 : W ≤ 40) (hc : c < 6) (p : bm_P I 5 F) :
    ∃ L, f_X5_measure [.inr (some 62), .inr (some 5), .inl (nI c), .inl (nI W)] (bm_mk n I) = some (none, bm_mk n L) ∧ (∀ q, q ≠ 65 → L q = I q) ∧ (∀ k, k < F (35 + 6 * c) → L 65 (8 * c + k) = nI (ly_nl F W c k)) ∧ (∀ j, j < 8 * c → L 65 j = I 65 j) := by
  have h8 := (hV.2.2.2.2.2.2.2.2.2.1 c (by omega)).2.2.2
  obtain ⟨L, e, r⟩ := e_measure_loop (n := n) hV hW hW2 hc p (F (35 + 6 * c)) 0 0 none I 1000 rfl (by omega) (by omega) (fun _ _ => rfl) (fun k hk => absurd hk (Nat.not_lt_zero k)) (fun _ _ => rfl)
  exact ⟨L, bm_g u_X5_measure e, r⟩
end LD
