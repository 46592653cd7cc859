set_option maxRecDepth 100000
/-! THE REFERENCE: firstOn, nameOf, spread, isEven, evenVersions -/
section MF
variable {n : Nat} {I : Nat → Nat → Int32} {F : Nat → Nat} {S : bm_S}
theorem m_firstOn_loop (hS : bm_s I F) (hV : bm_V' F) {c k : Nat} (hc : c < 6) (hk : k < F (35 + 6 * c)) : ∀ (d i : Nat) (x a : Int32) (o : Nat), x = nI i → a = nI (bm_hf F c (fun u => F (8 + u)) k i) → i + d = F 7 → d < o →
    bm_rn z_X8_firstOn o 5 ([some (.inr (some 75)), some (.inl (nI c)), some (.inl (nI k)), some (.inl a), some (.inl x)], [], bm_mk n I) = some (some (.inl (nI (bm_hf F c (fun u => F (8 + u)) k (F 7)))), bm_mk n I) := by
  have h7 := hV.2.2.2.2.2.2.2.1
  have h8 := (hV.2.2.2.2.2.2.2.2.2.1 c hc).2.2.2
  intro d
  induction d with
  | zero =>
    intro i x a o hx ha hi ho
    obtain ⟨o, rfl⟩ : ∃ q, o = q + 1 := ⟨o - 1, by omega⟩
    subst hx
    refine bm_le (F 7) i (hS 7 (by decide)) rfl (by omega) (by omega) (fun _ => ?_) (fun z => absurd z (by omega))
    exact bm_ok (by rw [ha, show i = F 7 by omega])
  | succ d ih =>
    intro i x a o hx ha hi ho
    obtain ⟨o, rfl⟩ : ∃ q, o = q + 1 := ⟨o - 1, by omega⟩
    subst hx
    have hl : bm_sd' F i c 0 < F (35 + 6 * c) := bm_sd_lt (by omega)
    refine bm_le (F 7) i (hS 7 (by decide)) rfl (by omega) (by omega) (fun z => absurd z (by omega)) (fun _ => ?_)
    refine bm_bd (m_standing hS hV (q := 0) (by omega) hc (by omega)) ?_
    refine bm_eq (bm_sd' F i c 0) k rfl rfl (by omega) (by omega) (fun e => ?_) (fun e => ?_)
    · refine bm_ie (bm_nix (N := 164) (ix_a 8 i) (by omega) (by decide)) ?_
      exact ih (i + 1) _ _ o (nI_1 i) (by
        show a + I 76 (8 + nI i : Int32).toNatClampNeg = _
        rw [ha, bm_rd hS (ix_a 8 i) (by omega), bm_hf1 ⟨by omega, e⟩]; exact nI_add _ _) (by omega) (by omega)
    · exact ih (i + 1) _ _ o (nI_1 i) (by
        show a + 0 = _
        rw [ha, bm_hf0 (fun z => e z.2)]; exact nI_add _ 0) (by omega) (by omega)
theorem m_firstOn (hS : bm_s I F) (hV : bm_V' F) {c k : Nat} (hc : c < 6) (hk : k < F (35 + 6 * c)) : f_X8_firstOn [.inr (some 75), .inl (nI c), .inl (nI k)] (bm_mk n I) = some (some (.inl (nI (bm_hf F c (fun u => F (8 + u)) k (F 7)))), bm_mk n I) := by
  have h7 := hV.2.2.2.2.2.2.2.1
  exact bm_g u_X8_firstOn (m_firstOn_loop hS hV hc hk (F 7) 0 0 0 1000 rfl rfl (by omega) (by omega))
theorem m_nameOf (h : bm_RM I S) (v : bm_VV S) (x y w : Int32) : bm_mp n I (f_X8_nameOf [.inr (some 75), .inl x, .inl y, .inl w]) (sp_nameOf S x y w, S) := by
  have hs := h.1
  unfold sp_nameOf
  refine bm_mp.rd h (bm_g u_X8_nameOf ?_)
  by_cases c1 : (0 ≤ x ∧ x < nI (S.1 0)) ∧ 0 ≤ y ∧ y < nI (S.1 (35 + 6 * x.toNatClampNeg))
  · rw [if_pos c1]
    obtain ⟨c, k, hc, hk, h8, h6, rfl, rfl⟩ := bm_hasName_of v.1 c1
    rw [nI_clamp (show c < 2 ^ 31 by omega), nI_clamp (show k < 2 ^ 31 by omega)]
    refine bm_bd (m_isName hs v.1) (bm_bq (fun _ => ?_) (fun z => absurd c1 z))
    refine bm_bd m_in (bm_bq (fun hw => ?_) (fun hw => ?_))
    · obtain ⟨q, -, q2, rfl⟩ := bm_rng (lo := 0) (hi := 3) (by decide) hw (by decide)
      refine bm_fi (fun _ => bm_bd (m_lengthOf hs (by omega)) (bm_ok rfl)) (fun h0 => ?_)
      refine bm_fi (fun _ => bm_bd (m_votesOf hs (by omega)) (bm_ok rfl)) (fun h1 => ?_)
      refine bm_fi (fun _ => bm_bd (m_firstOn hs v.1 (by omega) hk) (bm_ok rfl)) (fun h2 => ?_)
      refine bm_bd (m_seated hs v.1 (by omega) (by omega)) (bm_ok (if_pos ?_).symm)
      have n0 : q ≠ 0 := fun z => h0 (by rw [z]; rfl)
      have n1 : q ≠ 1 := fun z => h1 (by rw [z]; rfl)
      have n2 : q ≠ 2 := fun z => h2 (by rw [z]; rfl)
      rw [show q = 3 by omega]
    · have no : ∀ z, z < 4 → ¬ w = nI z := fun z hz e => hw (by rw [e]; exact ⟨nI_pos' (by omega), (nI_leI (a := z) (b := 3) (by omega) (by decide)).mpr (by omega)⟩)
      exact bm_ok (by rw [if_neg (no 0 (by decide)), if_neg (no 1 (by decide)), if_neg (no 2 (by decide)), if_neg (no 3 (by decide))])
  · rw [if_neg c1]
    exact bm_bd (m_isName hs v.1) (bm_bq (fun z => absurd z c1) (fun _ => bm_ok rfl))
theorem m_spread_loop (hS : bm_s I F) (hV : bm_V' F) {c : Nat} (hc : c < 6) {t : Nat → Nat} (ht : t = fun k => bm_hf F c (fun u => F (8 + u)) k (F 7)) : ∀ (d i : Nat) (x a b : Int32) (w : Option bm_V) (o : Nat), x = nI (i + 1) → a = nI (mxN t i) → b = nI (mnN t i) → i + 1 + d = F (35 + 6 * c) → d < o →
    bm_rn z_X8_spread o 19 ([some (.inr (some 75)), some (.inl (nI c)), some (.inl a), some (.inl b), some (.inl x), w], [], bm_mk n I) = some (some (.inl (nI (mxN t (F (35 + 6 * c) - 1) - mnN t (F (35 + 6 * c) - 1)))), bm_mk n I) := by
  have h8 := (hV.2.2.2.2.2.2.2.2.2.1 c hc).2.2.2
  have hb : ∀ k, t k < 2 ^ 30 := fun k => by rw [ht]; exact bm_hf_pap hV
  intro d
  induction d with
  | zero =>
    intro i x a b w o hx ha hb' hi ho
    obtain ⟨o, rfl⟩ : ∃ q, o = q + 1 := ⟨o - 1, by omega⟩
    subst hx; subst ha; subst hb'
    have h1 := mnN_le (t := t) (m := i) (k := 0) (Nat.zero_le _)
    have h2 := mxN_ge (t := t) (m := i) (k := 0) (Nat.zero_le _)
    have h3 := mxN_bd (t := t) (b := 2 ^ 30) (m := i) (fun k _ => Nat.le_of_lt (hb k))
    refine bm_bd (m_names hS hc) ?_
    refine bm_le (F (35 + 6 * c)) (i + 1) rfl rfl (by omega) (by omega) (fun _ => ?_) (fun z => absurd z (by omega))
    refine bm_it (nI_pos' (by omega)) ?_
    refine bm_ok ?_
    rw [show F (35 + 6 * c) - 1 = i by omega]
    exact pk_sub (by omega)
  | succ d ih =>
    intro i x a b w o hx ha hb' hi ho
    obtain ⟨o, rfl⟩ : ∃ q, o = q + 1 := ⟨o - 1, by omega⟩
    subst hx; subst ha; subst hb'
    have h1 := mnN_le (t := t) (m := i) (k := 0) (Nat.zero_le _)
    have h2 := mxN_ge (t := t) (m := i) (k := 0) (Nat.zero_le _)
    have h3 := mxN_bd (t := t) (b := 2 ^ 30) (m := i) (fun k _ => Nat.le_of_lt (hb k))
    have h4 := hb (i + 1)
    have h5 := hb 0
    have ef : f_X8_firstOn [.inr (some 75), .inl (nI c), .inl (nI (i + 1))] (bm_mk n I) = some (some (.inl (nI (t (i + 1)))), bm_mk n I) := by
      rw [ht]; exact m_firstOn hS hV hc (by omega)
    have em : mxN t (i + 1) = max (mxN t i) (t (i + 1)) := rfl
    have en : mnN t (i + 1) = min (mnN t i) (t (i + 1)) := rfl
    refine bm_bd (m_names hS hc) ?_
    refine bm_le (F (35 + 6 * c)) (i + 1) rfl rfl (by omega) (by omega) (fun z => absurd z (by omega)) (fun _ => ?_)
    refine bm_bd ef ?_
    refine bm_le (t (i + 1)) (mxN t i) rfl rfl (by omega) (by omega) (fun z => ?_) (fun z => ?_)
    · refine bm_ie (nI_pos (by omega)) ?_
      refine bm_le (mnN t i) (t (i + 1)) rfl rfl (by omega) (by omega) (fun y => ?_) (fun y => ?_)
      · exact ih (i + 1) _ _ _ _ o (nI_1 (i + 1)) (congrArg nI (by omega)) (congrArg nI (by omega)) (by omega) (by omega)
      · exact ih (i + 1) _ _ _ _ o (nI_1 (i + 1)) (congrArg nI (by omega)) (congrArg nI (by omega)) (by omega) (by omega)
    · refine bm_ie (nI_pos (by omega)) ?_
      refine bm_le (mnN t i) (t (i + 1)) rfl rfl (by omega) (by omega) (fun y => ?_) (fun y => ?_)
      · exact ih (i + 1) _ _ _ _ o (nI_1 (i + 1)) (congrArg nI (by omega)) (congrArg nI (by omega)) (by omega) (by omega)
      · exact ih (i + 1) _ _ _ _ o (nI_1 (i + 1)) (congrArg nI (by omega)) (congrArg nI (by omega)) (by omega) (by omega)
theorem m_spread (h : bm_RM I S) (v : bm_VV S) (x : Int32) : bm_mp n I (f_X8_spread [.inr (some 75), .inl x]) (sp_spread S x, S) := by
  have hs := h.1
  have h6 := v.1.1
  unfold sp_spread
  refine bm_mp.rd h (bm_g u_X8_spread ?_)
  by_cases c1 : 0 ≤ x ∧ x < nI (S.1 0)
  · rw [if_pos c1]
    obtain ⟨c, hc, rfl⟩ := bm_k_of (by omega) c1
    have hV := v.1
    have h8 := (v.1.2.2.2.2.2.2.2.2.2.1 c (by omega)).2.2.2
    rw [nI_clamp (show c < 2 ^ 31 by omega)]
    by_cases c2 : S.1 (35 + 6 * c) = 0
    · rw [if_pos c2]
      refine bm_bd (m_isContest hs) (bm_bq (fun _ => ?_) (fun z => absurd c1 z))
      refine bm_bd (m_names hs (by omega)) ?_
      exact bm_le (S.1 (35 + 6 * c)) 0 rfl rfl (by omega) (by decide) (fun _ => bm_ok rfl) (fun z => absurd z (by omega))
    · rw [if_neg c2]
      have hb := bm_hf_pap hV (c := c) (k := 0)
      have ef := m_firstOn (n := n) hs hV (c := c) (k := 0) (by omega) (by omega)
      have e := m_spread_loop (n := n) hs hV (c := c) (t := fun k => bm_hf S.1 c (fun u => S.1 (8 + u)) k (S.1 7)) (by omega) rfl (S.1 (35 + 6 * c) - 1) 0 (0 + 1) _ _ (some (.inl (nI (bm_hf S.1 c (fun u => S.1 (8 + u)) 0 (S.1 7))))) 999 rfl rfl rfl (by omega) (by omega)
      have lt : ¬ nI (bm_hf S.1 c (fun u => S.1 (8 + u)) 0 (S.1 7)) ≤ -4 := fun z => absurd (Int32.le_trans (nI_pos' (n := bm_hf S.1 c (fun u => S.1 (8 + u)) 0 (S.1 7)) (by omega)) z) (by decide)
      show bm_ra (bm_rn z_X8_spread 999) z_X8_spread 0 ([some (.inr (some 75)), some (.inl (nI c)), none, none, none, none], [], bm_mk n I) = _
      dsimp only [mxN, mnN] at e
      generalize bm_rn z_X8_spread 999 = k at e ⊢
      refine bm_bd (m_isContest hs) (bm_bq (fun _ => ?_) (fun z => absurd c1 z))
      refine bm_bd (m_names hs (by omega)) ?_
      refine bm_le (S.1 (35 + 6 * c)) 0 rfl rfl (by omega) (by decide) (fun z => absurd z (by omega)) (fun _ => ?_)
      refine bm_bd ef ?_
      exact bm_ie lt e
  · rw [if_neg c1]
    exact bm_bd (m_isContest hs) (bm_bq (fun z => absurd z c1) (fun _ => bm_ok rfl))
/-! isEven -/
def bm_tv (a : Int32) (A : Prop) : Prop := (a = 1 ∧ A) ∨ (a = 0 ∧ ¬ A)
theorem bm_tv.cg {a : Int32} {A B : Prop} (h : bm_tv a A) (e : A ↔ B) : bm_tv a B := h.elim (fun z => Or.inl ⟨z.1, e.mp z.2⟩) (fun z => Or.inr ⟨z.1, fun q => z.2 (e.mpr q)⟩)
theorem m_isEven_in (hS : bm_s I F) (hV : bm_V' F) {c k V : Nat} (hc : c < 6) (hk : k < F (35 + 6 * c)) (hVv : V ≤ 24) {a : Int32} {A : Prop} (ha : bm_tv a A) : ∀ (d i : Nat) (x y : Int32) (o : Nat), x = nI i → y = nI (bm_t1 F c i k) → i + d = V →
    ∃ b, bm_tv b (A ∧ bm_t1 F c V k * F (35 + 6 * c) = V) ∧ bm_rn z_X8_isEven (o + d + 1) 22 ([some (.inr (some 75)), some (.inl (nI c)), some (.inl (nI V)), some (.inl a), some (.inl (nI k)), some (.inl y), some (.inl x)], [], bm_mk n I) = bm_rn z_X8_isEven o 5 ([some (.inr (some 75)), some (.inl (nI c)), some (.inl (nI V)), some (.inl b), some (.inl (nI k + 1)), some (.inl (nI (bm_t1 F c V k))), some (.inl (nI V))], [], bm_mk n I) := by
  have h8 := (hV.2.2.2.2.2.2.2.2.2.1 c hc).2.2.2
  intro d
  induction d with
  | zero =>
    intro i x y o hx hy hi
    have hi : i = V := by omega
    subst hi; subst hx; subst hy
    have ht := bm_t1_le (F := F) (c := c) (V := i) (k := k)
    have hm : bm_t1 F c i k * F (35 + 6 * c) ≤ (24 * 9999) * 8 := Nat.mul_le_mul (by omega) h8
    rcases ha with ⟨rfl, hA⟩ | ⟨rfl, hA⟩
    · by_cases q : bm_t1 F c i k * F (35 + 6 * c) = i
      · refine ⟨1, Or.inl ⟨rfl, hA, q⟩, ?_⟩
        refine bm_it (Int32.le_refl _) ?_
        refine bm_bd (m_names hS hc) ?_
        exact bm_it ((pk_mul _ _).trans (congrArg nI q)) rfl
      · refine ⟨0, Or.inr ⟨rfl, fun z => q z.2⟩, ?_⟩
        refine bm_it (Int32.le_refl _) ?_
        refine bm_bd (m_names hS hc) ?_
        exact bm_ie (fun z => q ((nI_eq (by omega) (by omega)).mp ((pk_mul _ _).symm.trans z))) rfl
    · refine ⟨0, Or.inr ⟨rfl, fun z => hA z.1⟩, ?_⟩
      exact bm_it (Int32.le_refl _) rfl
  | succ d ih =>
    intro i x y o hx hy hi
    subst hx; subst hy
    have hl : bm_sd' F i c 0 < F (35 + 6 * c) := bm_sd_lt (by omega)
    by_cases q : bm_sd' F i c 0 = k
    · obtain ⟨b, b1, b2⟩ := ih (i + 1) (nI i + 1) (nI (bm_t1 F c i k) + 1) o (nI_1 i) (by rw [nI_1]; exact congrArg nI (bm_hf1 (g := fun _ => 1) ⟨by omega, q⟩).symm) (by omega)
      refine ⟨b, b1, Eq.trans ?_ b2⟩
      show bm_rn z_X8_isEven (o + d + 1 + 1) 22 _ = _
      refine bm_ie (fun z => absurd ((nI_leI (by omega) (by omega)).mp z) (by omega)) ?_
      refine bm_bd (m_standing hS hV (q := 0) (by omega) hc (by omega)) ?_
      exact bm_it (congrArg nI q) rfl
    · obtain ⟨b, b1, b2⟩ := ih (i + 1) (nI i + 1) (nI (bm_t1 F c i k) + 0) o (nI_1 i) (by rw [bm_lit 0, nI_add]; exact congrArg nI (bm_hf0 (g := fun _ => 1) (fun z => q z.2)).symm) (by omega)
      refine ⟨b, b1, Eq.trans ?_ b2⟩
      show bm_rn z_X8_isEven (o + d + 1 + 1) 22 _ = _
      refine bm_ie (fun z => absurd ((nI_leI (by omega) (by omega)).mp z) (by omega)) ?_
      refine bm_bd (m_standing hS hV (q := 0) (by omega) hc (by omega)) ?_
      exact bm_ie (fun z => q ((nI_eq (by omega) (by omega)).mp z)) rfl
theorem m_isEven_out (hS : bm_s I F) (hV : bm_V' F) {c V : Nat} (hc : c < 6) (hVv : V ≤ 24) : ∀ (d k : Nat) (x a : Int32) (A : Prop) (w1 w2 : Option bm_V) (o : Nat), x = nI k → bm_tv a A → k + d = F (35 + 6 * c) → (V + 1) * d < o →
    ∃ b, bm_tv b (A ∧ ∀ j, k ≤ j → j < F (35 + 6 * c) → bm_t1 F c V j * F (35 + 6 * c) = V) ∧ bm_rn z_X8_isEven o 5 ([some (.inr (some 75)), some (.inl (nI c)), some (.inl (nI V)), some (.inl a), some (.inl x), w1, w2], [], bm_mk n I) = some (some (.inl b), bm_mk n I) := by
  have h8 := (hV.2.2.2.2.2.2.2.2.2.1 c hc).2.2.2
  intro d
  induction d with
  | zero =>
    intro k x a A w1 w2 o hx ha hi ho
    obtain ⟨o, rfl⟩ : ∃ q, o = q + 1 := ⟨o - 1, by omega⟩
    subst hx
    refine ⟨a, ha.cg ⟨fun z => ⟨z, fun j h1 h2 => absurd h2 (by omega)⟩, fun z => z.1⟩, ?_⟩
    refine bm_bd (m_names hS hc) ?_
    refine bm_le (F (35 + 6 * c)) k rfl rfl (by omega) (by omega) (fun _ => ?_) (fun z => absurd z (by omega))
    rcases ha with ⟨rfl, _⟩ | ⟨rfl, _⟩
    · rfl
    · rfl
  | succ d ih =>
    intro k x a A w1 w2 o hx ha hi ho
    have hq : (V + 1) * (d + 1) = (V + 1) * d + (V + 1) := Nat.mul_succ _ _
    obtain ⟨o, rfl⟩ : ∃ q, o = q + V + 1 := ⟨o - V - 1, by omega⟩
    subst hx
    obtain ⟨b, b1, b2⟩ := m_isEven_in (n := n) hS hV hc (k := k) (by omega) hVv ha V 0 0 0 o rfl rfl (by omega)
    obtain ⟨e, e1, e2⟩ := ih (k + 1) (nI k + 1) b _ (some (.inl (nI (bm_t1 F c V k)))) (some (.inl (nI V))) o (nI_1 k) b1 (by omega) (by omega)
    refine ⟨e, e1.cg ⟨fun z => ⟨z.1.1, fun j h1 h2 => ?_⟩, fun z => ⟨⟨z.1, z.2 k (Nat.le_refl _) (by omega)⟩, fun j h1 h2 => z.2 j (by omega) h2⟩⟩, Eq.trans ?_ (b2.trans e2)⟩
    · by_cases y : j = k
      · subst y; exact z.1.2
      · exact z.2 j (by omega) h2
    · refine bm_bd (m_names hS hc) ?_
      refine bm_le (F (35 + 6 * c)) k rfl rfl (by omega) (by omega) (fun z => absurd z (by omega)) (fun _ => ?_)
      rfl
theorem m_isEven (hS : bm_s I F) (hV : bm_V' F) {c V : Nat} (hc : c < 6) (hVv : V ≤ 24) : ∃ b, bm_tv b (bm_ev1 F V c) ∧ f_X8_isEven [.inr (some 75), .inl (nI c), .inl (nI V)] (bm_mk n I) = some (some (.inl b), bm_mk n I) := by
  have h8 := (hV.2.2.2.2.2.2.2.2.2.1 c hc).2.2.2
  have hq : (V + 1) * F (35 + 6 * c) ≤ 25 * 8 := Nat.mul_le_mul (by omega) h8
  obtain ⟨b, b1, b2⟩ := m_isEven_out (n := n) hS hV hc hVv (F (35 + 6 * c)) 0 0 1 True none none 1000 rfl (Or.inl ⟨rfl, trivial⟩) (by omega) (by omega)
  exact ⟨b, b1.cg ⟨fun z => bm_ev_iff.mpr (fun k hk => z.2 k (Nat.zero_le _) hk), fun z => ⟨trivial, fun j _ hj => bm_ev_iff.mp z j hj⟩⟩, bm_g u_X8_isEven b2⟩
theorem m_ev_in (hS : bm_s I F) (hV : bm_V' F) {V : Nat} (hVv : V ≤ 24) : ∀ (d c : Nat) (x a : Int32) (A : Prop) (o : Nat), x = nI c → bm_tv a A → c + d = F 0 →
    ((A ∧ ∀ j, c ≤ j → j < F 0 → bm_ev1 F V j) ∧ bm_rn z_X8_evenVersions (o + d + 1) 12 ([some (.inr (some 75)), some (.inl (nI V)), some (.inl a), some (.inl x)], [], bm_mk n I) = some (some (.inl (nI V)), bm_mk n I)) ∨ (¬ (A ∧ ∀ j, c ≤ j → j < F 0 → bm_ev1 F V j) ∧ bm_rn z_X8_evenVersions (o + d + 1) 12 ([some (.inr (some 75)), some (.inl (nI V)), some (.inl a), some (.inl x)], [], bm_mk n I) = bm_rn z_X8_evenVersions o 2 ([some (.inr (some 75)), some (.inl (nI V + 1)), some (.inl 0), some (.inl (nI (F 0)))], [], bm_mk n I)) := by
  have h6 := hV.1
  intro d
  induction d with
  | zero =>
    intro c x a A o hx ha hi
    subst hx
    have hi : c = F 0 := by omega
    subst hi
    have e0 : I 76 0 = nI (F 0) := hS 0 (by decide)
    rcases ha with ⟨rfl, hA⟩ | ⟨rfl, hA⟩
    · refine Or.inl ⟨⟨hA, fun j h1 h2 => absurd h2 (by omega)⟩, ?_⟩
      refine bm_it (by show I 76 0 ≤ nI (F 0); rw [e0]; exact Int32.le_refl _) ?_
      rfl
    · refine Or.inr ⟨fun z => hA z.1, ?_⟩
      refine bm_it (by show I 76 0 ≤ nI (F 0); rw [e0]; exact Int32.le_refl _) ?_
      rfl
  | succ d ih =>
    intro c x a A o hx ha hi
    subst hx
    have hlt : ¬ I 76 0 ≤ nI c := fun z => by
      rw [hS 0 (by decide)] at z
      exact absurd ((nI_leI (by omega) (by omega)).mp z) (by omega)
    obtain ⟨b, b1, b2⟩ := m_isEven (n := n) hS hV (c := c) (V := V) (by omega) hVv
    have key : ∃ r, bm_tv r (A ∧ bm_ev1 F V c) ∧ bm_rn z_X8_evenVersions (o + d + 1 + 1) 12 ([some (.inr (some 75)), some (.inl (nI V)), some (.inl a), some (.inl (nI c))], [], bm_mk n I) = bm_rn z_X8_evenVersions (o + d + 1) 12 ([some (.inr (some 75)), some (.inl (nI V)), some (.inl r), some (.inl (nI c + 1))], [], bm_mk n I) := by
      rcases ha with ⟨rfl, hA⟩ | ⟨rfl, hA⟩
      · rcases b1 with ⟨rfl, hB⟩ | ⟨rfl, hB⟩
        · refine ⟨1, Or.inl ⟨rfl, hA, hB⟩, ?_⟩
          refine bm_ie hlt ?_
          exact bm_bd b2 rfl
        · refine ⟨0, Or.inr ⟨rfl, fun z => hB z.2⟩, ?_⟩
          refine bm_ie hlt ?_
          exact bm_bd b2 rfl
      · refine ⟨0, Or.inr ⟨rfl, fun z => hA z.1⟩, ?_⟩
        exact bm_ie hlt rfl
    obtain ⟨r, r1, r2⟩ := key
    have iff : ((A ∧ bm_ev1 F V c) ∧ ∀ j, c + 1 ≤ j → j < F 0 → bm_ev1 F V j) ↔ (A ∧ ∀ j, c ≤ j → j < F 0 → bm_ev1 F V j) := ⟨fun z => ⟨z.1.1, fun j h1 h2 => by
      by_cases y : j = c
      · subst y; exact z.1.2
      · exact z.2 j (by omega) h2⟩, fun z => ⟨⟨z.1, z.2 c (Nat.le_refl _) (by omega)⟩, fun j h1 h2 => z.2 j (by omega) h2⟩⟩
    rcases ih (c + 1) (nI c + 1) r _ o (nI_1 c) r1 (by omega) with ⟨q, e⟩ | ⟨q, e⟩
    · exact Or.inl ⟨iff.mp q, r2.trans e⟩
    · exact Or.inr ⟨fun z => q (iff.mpr z), r2.trans e⟩
theorem m_ev_out (hS : bm_s I F) (hV : bm_V' F) : ∀ (d V : Nat) (x : Int32) (w1 w2 : Option bm_V) (o : Nat), x = nI V → V + d = 25 → 7 * d < o →
    bm_rn z_X8_evenVersions o 2 ([some (.inr (some 75)), some (.inl x), w1, w2], [], bm_mk n I) = some (some (.inl (bm_evs F d V)), bm_mk n I) := by
  have h6 := hV.1
  intro d
  induction d with
  | zero =>
    intro V x w1 w2 o hx hi ho
    obtain ⟨o, rfl⟩ : ∃ q, o = q + 1 := ⟨o - 1, by omega⟩
    have hi : V = 25 := by omega
    subst hi; subst hx
    rfl
  | succ d ih =>
    intro V x w1 w2 o hx hi ho
    obtain ⟨o, rfl⟩ : ∃ q, o = q + F 0 + 1 := ⟨o - F 0 - 1, by omega⟩
    subst hx
    unfold bm_evs
    refine bm_ie (fun z => absurd ((nI_ltI (by decide) (by omega)).mp (show nI 24 < nI V from z)) (by omega)) ?_
    rcases m_ev_in (n := n) hS hV (V := V) (by omega) (F 0) 0 0 1 True o rfl (Or.inl ⟨rfl, trivial⟩) (by omega) with ⟨q, e⟩ | ⟨q, e⟩
    · rw [if_pos (fun c hc => q.2 c (Nat.zero_le _) hc)]
      exact e
    · rw [if_neg (fun z => q ⟨trivial, fun j _ hj => z j hj⟩)]
      exact e.trans (ih (V + 1) _ _ _ o (nI_1 V) (by omega) (by omega))
theorem m_evenVersions (h : bm_RM I S) (v : bm_VV S) : bm_mp n I (f_X8_evenVersions [.inr (some 75)]) (bm_evs S.1 24 1, S) := by
  refine bm_mp.rd h (bm_g u_X8_evenVersions ?_)
  exact m_ev_out h.1 v.1 24 1 1 none none 1000 rfl (by omega) (by omega)
end MF
