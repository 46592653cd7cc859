set_option maxRecDepth 100000
/-! the reference's contests, and its whole paper -/
section LN
variable {n : Nat} {I : Nat → Nat → Int32} {F : Nat → Nat}
theorem m_names_loop (hS : bm_s I F) (hV : bm_V' F) {v c b : Nat} (hv : v < 2 ^ 31) (hc : c < 6) {Y : ly_Y} {D : Nat → Prop} (hY : ly_ok Y b) (hb : b < 900) (h1 : 1 ≤ Y.1) {w3 w4 w5 : Option bm_V} : ∀ (d i : Nat) (x : Int32) (J : Nat → Nat → Int32) (o : Nat), x = nI i → i + d = F (35 + 6 * c) → d < o → ly_f I J → ly_R J (ly_m F (F 4) v c Y i) (fun j => D j ∨ ∃ q, q < i ∧ j = 8 * c + bm_sd' F v c q) →
    ∃ L, bm_rn z_X8_laysContest o 90 ([some (.inr (some 75)), some (.inl (nI v)), some (.inl (nI c)), w3, w4, w5, some (.inl x)], [], bm_mk n J) = some (none, bm_mk n L) ∧ ly_f I L ∧ ly_R L (ly_m F (F 4) v c Y (F (35 + 6 * c))) (fun j => D j ∨ ∃ q, q < F (35 + 6 * c) ∧ j = 8 * c + bm_sd' F v c q) := by
  have h8 := (hV.2.2.2.2.2.2.2.2.2.1 c hc).2.2.2
  intro d
  induction d with
  | zero =>
    intro i x J o hx hi ho f hC
    obtain ⟨o, rfl⟩ : ∃ q, o = q + 1 := ⟨o - 1, by omega⟩
    subst hx
    have hi : i = F (35 + 6 * c) := by omega
    rw [hi] at hC
    refine ⟨J, ?_, f, hC⟩
    refine bm_bd (m_names (f.s hS) hc) ?_
    refine bm_le (F (35 + 6 * c)) i rfl rfl (by omega) (by omega) (fun _ => ?_) (fun z => absurd z (by omega))
    rfl
  | succ d ih =>
    intro i x J o hx hi ho f hC
    obtain ⟨o, rfl⟩ : ∃ q, o = q + 1 := ⟨o - 1, by omega⟩
    subst hx
    have hsd := bm_sd_lt (F := F) (v := v) (c := c) (q := i) (by omega)
    have hok := ly_m_ok hV hV.2.2.2.2.1.1 (v := v) hc hY i (by omega)
    obtain ⟨A, eA, a1, a2⟩ := m_laysName (n := n) (f.s hS) hV hc (show bm_sd' F v c i < 8 by omega) hC hok (by omega) (ly_m_pos h1 i)
    obtain ⟨L, e, r⟩ := ih (i + 1) _ A o (nI_1 i) (by omega) (by omega) (f.tr a2) (a1.mono (fun j _ hD => by
      rcases hD with hD | ⟨q, hq, e⟩
      · exact Or.inl (Or.inl hD)
      · by_cases z : q = i
        · subst z; exact Or.inr e
        · exact Or.inl (Or.inr ⟨q, by omega, e⟩)))
    refine ⟨L, ?_, r⟩
    refine bm_bd (m_names (f.s hS) hc) ?_
    refine bm_le (F (35 + 6 * c)) i rfl rfl (by omega) (by omega) (fun z => absurd z (by omega)) (fun _ => ?_)
    refine bm_bd (m_standing (f.s hS) hV hv hc (by omega)) ?_
    refine bm_bd eA ?_
    exact e
theorem m_title (hS : bm_s I F) (hV : bm_V' F) {v c b : Nat} (hv : v < 2 ^ 31) (hc : c < 6) (hm : F (35 + 6 * c) ≠ 0) {Y : ly_Y} {D : Nat → Prop} (hC : ly_R I Y D) (hY : ly_ok Y b) (hb : b < 900) {f : Int32} (hf : (Y.1 = 0 ∧ f = 1) ∨ (1 ≤ Y.1 ∧ f = 0)) :
    ∃ A w4 w5, bm_rn z_X8_laysContest 1000 0 ([some (.inr (some 75)), some (.inl (nI v)), some (.inl (nI c)), some (.inl f), none, none, none], [], bm_mk n I) = bm_rn z_X8_laysContest 1000 90 ([some (.inr (some 75)), some (.inl (nI v)), some (.inl (nI c)), some (.inl f), w4, w5, some (.inl (nI 0))], [], bm_mk n A) ∧ ly_R A (ly_t F (F 4) v c Y) D ∧ ly_f I A := by
  have h8 := (hV.2.2.2.2.2.2.2.2.2.1 c hc).2.2.2
  have hsd := bm_sd_lt (F := F) (v := v) (c := c) (q := 0) (by omega)
  have h1 := ly_nl_le hV hV.2.2.2.2.1.1 hc (show bm_sd' F v c 0 < 8 by omega)
  have ht := ly_tl_le hV hV.2.2.2.2.1.1 hc
  have h3 := hV.2.2.2.1
  have e3 : I 76 3 = nI (F 3) := hS 3 (by decide)
  obtain ⟨y1, y2⟩ := hY
  obtain ⟨c1, c2, c3, c4, c5, c6⟩ := hC
  rcases hf with ⟨y0, rfl⟩ | ⟨y0, rfl⟩
  · have hbf := ly_bf_le (F := F) (a := 0 + ly_tl F (F 4) c)
    have hx1 : (0 + nI (ly_tl F (F 4) c) : Int32) = nI (0 + ly_tl F (F 4) c) := by rw [bm_lit 0, nI_add]
    refine ⟨?L1, some (.inl (nI (ly_tl F (F 4) c))), some (.inl 0), ?w1, ?a1, ?d1⟩
    case w1 =>
      refine bm_bd (m_titleLines hS hV hc) ?_
      refine bm_bd (m_pushed hS hV hx1 (by omega)) ?_
      refine bm_bd (m_standing hS hV (q := 0) hv hc (by omega)) ?_
      refine bm_bd (m_nameLines hS hV hc (by omega)) ?_
      refine bm_le (ly_bf F (0 + ly_tl F (F 4) c) + ly_nl F (F 4) c (bm_sd' F v c 0)) (F 3) (nI_add _ _) e3 (by omega) (by omega) (fun _ => ?_) (fun z => absurd z (by omega))
      rfl
    case a1 =>
      unfold ly_t
      rw [if_pos (Or.inl y0)]
      refine ⟨?_, ?_, ?_, c4, c5, c6⟩
      · show I 75 7 = nI (Y.1 + 1 - 1); rw [c1]; exact congrArg nI (by omega)
      · show (0 : Int32) + nI (ly_tl F (F 4) c) = nI (ly_tl F (F 4) c); rw [bm_lit 0, nI_add, Nat.zero_add]
      · show I 75 9 + nI (ly_tl F (F 4) c) = nI (Y.2.2.1 + ly_tl F (F 4) c); rw [c3]; exact nI_add _ _
    case d1 => exact (ly_f.rf.up (by decide) (by decide)).up (by decide) (by decide)
  · have hbf := ly_bf_le (F := F) (a := Y.2.1 + 1 + ly_tl F (F 4) c)
    have hx1 : (I 75 8 + 1 + nI (ly_tl F (F 4) c) : Int32) = nI (Y.2.1 + 1 + ly_tl F (F 4) c) := by rw [c2, nI_1, nI_add]
    by_cases q : F 3 < ly_bf F (Y.2.1 + 1 + ly_tl F (F 4) c) + ly_nl F (F 4) c (bm_sd' F v c 0)
    · refine ⟨?L2, some (.inl (nI (ly_tl F (F 4) c))), some (.inl 0), ?w2, ?a2, ?d2⟩
      case w2 =>
        refine bm_bd (m_titleLines hS hV hc) ?_
        refine bm_bd (m_pushed hS hV hx1 (by omega)) ?_
        refine bm_bd (m_standing hS hV (q := 0) hv hc (by omega)) ?_
        refine bm_bd (m_nameLines hS hV hc (by omega)) ?_
        refine bm_le (ly_bf F (Y.2.1 + 1 + ly_tl F (F 4) c) + ly_nl F (F 4) c (bm_sd' F v c 0)) (F 3) (nI_add _ _) e3 (by omega) (by omega) (fun z => absurd z (by omega)) (fun _ => ?_)
        rfl
      case a2 =>
        unfold ly_t
        rw [if_pos (Or.inr q)]
        refine ⟨?_, ?_, ?_, c4, c5, c6⟩
        · show I 75 7 + 1 = nI (Y.1 + 1 - 1); rw [c1, nI_1]; exact congrArg nI (by omega)
        · show (0 : Int32) + nI (ly_tl F (F 4) c) = nI (ly_tl F (F 4) c); rw [bm_lit 0, nI_add, Nat.zero_add]
        · show I 75 9 + nI (ly_tl F (F 4) c) = nI (Y.2.2.1 + ly_tl F (F 4) c); rw [c3]; exact nI_add _ _
      case d2 => exact ((ly_f.rf.up (by decide) (by decide)).up (by decide) (by decide)).up (by decide) (by decide)
    · refine ⟨?L3, some (.inl (nI (ly_tl F (F 4) c))), some (.inl (I 75 8 + 1)), ?w3, ?a3, ?d3⟩
      case w3 =>
        refine bm_bd (m_titleLines hS hV hc) ?_
        refine bm_bd (m_pushed hS hV hx1 (by omega)) ?_
        refine bm_bd (m_standing hS hV (q := 0) hv hc (by omega)) ?_
        refine bm_bd (m_nameLines hS hV hc (by omega)) ?_
        refine bm_le (ly_bf F (Y.2.1 + 1 + ly_tl F (F 4) c) + ly_nl F (F 4) c (bm_sd' F v c 0)) (F 3) (nI_add _ _) e3 (by omega) (by omega) (fun _ => ?_) (fun z => absurd z (by omega))
        rfl
      case a3 =>
        unfold ly_t
        rw [if_neg (fun z => z.elim (fun z => by omega) q)]
        refine ⟨c1, ?_, ?_, c4, c5, c6⟩
        · exact hx1
        · show I 75 9 + nI (ly_tl F (F 4) c) = nI (Y.2.2.1 + ly_tl F (F 4) c); rw [c3]; exact nI_add _ _
      case d3 => exact (ly_f.rf.up (by decide) (by decide)).up (by decide) (by decide)
theorem m_laysContest (hS : bm_s I F) (hV : bm_V' F) {v c b : Nat} (hv : v < 2 ^ 31) (hc : c < 6) (hm : F (35 + 6 * c) ≠ 0) {Y : ly_Y} {D : Nat → Prop} (hC : ly_R I Y D) (hY : ly_ok Y b) (hb : b < 800) {f : Int32} (hf : (Y.1 = 0 ∧ f = 1) ∨ (1 ≤ Y.1 ∧ f = 0)) :
    ∃ L, f_X8_laysContest [.inr (some 75), .inl (nI v), .inl (nI c), .inl f] (bm_mk n I) = some (none, bm_mk n L) ∧ ly_f I L ∧ ly_R L (ly_m F (F 4) v c (ly_t F (F 4) v c Y) (F (35 + 6 * c))) (fun j => D j ∨ ∃ q, q < F (35 + 6 * c) ∧ j = 8 * c + bm_sd' F v c q) ∧ 1 ≤ (ly_m F (F 4) v c (ly_t F (F 4) v c Y) (F (35 + 6 * c))).1 := by
  have h8 := (hV.2.2.2.2.2.2.2.2.2.1 c hc).2.2.2
  obtain ⟨A, w4, w5, e, a1, a2⟩ := m_title (n := n) hS hV hv hc hm hC hY (by omega) hf
  have ok2 := ly_t_ok hV hV.2.2.2.2.1.1 (v := v) (c := c) hc hY
  have pos : 1 ≤ (ly_t F (F 4) v c Y).1 := by
    unfold ly_t
    split
    · show 1 ≤ _ + 1; omega
    · rename_i q
      show 1 ≤ Y.1
      omega
  obtain ⟨L, e2, f2, r⟩ := m_names_loop (n := n) (a2.s hS) hV hv hc (D := D) ok2 (by omega) pos (w3 := some (.inl f)) (w4 := w4) (w5 := w5) (F (35 + 6 * c)) 0 (nI 0) A 1000 rfl (by omega) (by omega) ly_f.rf (a1.mono (fun j _ hD => hD.elim id (fun z => by obtain ⟨q, hq, _⟩ := z; omega)))
  exact ⟨L, bm_g u_X8_laysContest (e.trans e2), a2.tr f2, r, ly_m_pos pos _⟩
theorem m_lays_loop (hS : bm_s I F) (hV : bm_V' F) {v : Nat} (hv : v < 2 ^ 31) : ∀ (d i : Nat) (x f : Int32) (J : Nat → Nat → Int32) (o : Nat), x = nI i → i + d = F 0 → d < o → ly_f I J → ly_R J (ly_a F (F 4) v i) (ly_D F i) → (((ly_a F (F 4) v i).1 = 0 ∧ f = 1) ∨ (1 ≤ (ly_a F (F 4) v i).1 ∧ f = 0)) →
    ∃ L, bm_rn z_X8_lays o 29 ([some (.inr (some 75)), some (.inl (nI v)), some (.inl f), some (.inl x)], [], bm_mk n J) = some (some (.inl (nI (ly_a F (F 4) v (F 0)).1)), bm_mk n L) ∧ ly_f I L ∧ ly_R L (ly_a F (F 4) v (F 0)) (ly_D F (F 0)) := by
  have h6 := hV.1
  intro d
  induction d with
  | zero =>
    intro i x f J o hx hi ho fJ hC hf
    obtain ⟨o, rfl⟩ : ∃ q, o = q + 1 := ⟨o - 1, by omega⟩
    subst hx
    have hi : i = F 0 := by omega
    subst hi
    refine ⟨J, ?_, fJ, hC⟩
    refine bm_le (F 0) (F 0) (fJ.s hS 0 (by decide)) rfl (by omega) (by omega) (fun _ => ?_) (fun z => absurd z (by omega))
    rcases hf with ⟨y0, rfl⟩ | ⟨y0, rfl⟩
    · exact bm_ok (by rw [y0]; rfl)
    · refine bm_ok ?_
      show J 75 7 + 1 = _
      rw [hC.1, nI_1]; exact congrArg nI (by omega)
  | succ d ih =>
    intro i x f J o hx hi ho fJ hC hf
    obtain ⟨o, rfl⟩ : ∃ q, o = q + 1 := ⟨o - 1, by omega⟩
    subst hx
    have h8 := (hV.2.2.2.2.2.2.2.2.2.1 i (by omega)).2.2.2
    have ok1 := ly_a_ok hV hV.2.2.2.2.1.1 (v := v) i (by omega)
    have ea : ly_a F (F 4) v (i + 1) = ly_c F (F 4) v i (ly_a F (F 4) v i) := rfl
    by_cases m0 : F (35 + 6 * i) = 0
    · have eb : ly_a F (F 4) v (i + 1) = ly_a F (F 4) v i := by rw [ea]; unfold ly_c; exact if_pos m0
      obtain ⟨L, e, r⟩ := ih (i + 1) (nI i + 1) f J o (nI_1 i) (by omega) (by omega) fJ (by rw [eb]; exact hC.mono (fun j _ hD => ly_D_s0 m0 hD)) (by rw [eb]; exact hf)
      refine ⟨L, ?_, r⟩
      refine bm_le (F 0) i (fJ.s hS 0 (by decide)) rfl (by omega) (by omega) (fun z => absurd z (by omega)) (fun _ => ?_)
      refine bm_bd (m_names (fJ.s hS) (by omega)) ?_
      refine bm_le (F (35 + 6 * i)) 0 rfl rfl (by omega) (by decide) (fun _ => ?_) (fun z => absurd z (by omega))
      exact e
    · have eb : ly_a F (F 4) v (i + 1) = ly_m F (F 4) v i (ly_t F (F 4) v i (ly_a F (F 4) v i)) (F (35 + 6 * i)) := by rw [ea]; unfold ly_c; exact if_neg m0
      obtain ⟨A, eA, fA, rA, pA⟩ := m_laysContest (n := n) (fJ.s hS) hV hv (show i < 6 by omega) m0 hC ok1 (by omega) hf
      obtain ⟨L, e, r⟩ := ih (i + 1) (nI i + 1) 0 A o (nI_1 i) (by omega) (by omega) (fJ.tr fA) (by rw [eb]; exact rA.mono (fun j _ hD => ly_D_s1 hD)) (by rw [eb]; exact Or.inr ⟨pA, rfl⟩)
      refine ⟨L, ?_, r⟩
      refine bm_le (F 0) i (fJ.s hS 0 (by decide)) rfl (by omega) (by omega) (fun z => absurd z (by omega)) (fun _ => ?_)
      refine bm_bd (m_names (fJ.s hS) (by omega)) ?_
      refine bm_le (F (35 + 6 * i)) 0 rfl rfl (by omega) (by decide) (fun z => absurd z (by omega)) (fun _ => ?_)
      refine bm_bd eA ?_
      exact e
theorem m_lays (hS : bm_s I F) (hV : bm_V' F) {v : Nat} (hv : v < 2 ^ 31) : ∃ L, f_X8_lays [.inr (some 75), .inl (nI v)] (bm_mk n I) = some (some (.inl (nI (ly_a F (F 4) v (F 0)).1)), bm_mk n L) ∧ ly_f I L ∧ ly_R L (ly_a F (F 4) v (F 0)) (ly_D F (F 0)) := by
  have h6 := hV.1
  have H : ∃ J, bm_rn z_X8_lays 1000 0 ([some (.inr (some 75)), some (.inl (nI v)), none, none], [], bm_mk n I) = bm_rn z_X8_lays 1000 29 ([some (.inr (some 75)), some (.inl (nI v)), some (.inl 1), some (.inl (nI 0))], [], bm_mk n J) ∧ ly_f I J ∧ ly_R J (ly_a F (F 4) v 0) (ly_D F 0) := by
    refine ⟨?L, ?w, ?a, ?b⟩
    case w => rfl
    case a => exact ((((ly_f.rf.up (by decide) (by decide)).up (by decide) (by decide)).up (by decide) (by decide)).up (by decide) (by decide)).up (by decide) (by decide)
    case b => exact ⟨rfl, rfl, rfl, rfl, rfl, fun j _ hD => absurd hD.1 (Nat.not_lt_zero _)⟩
  obtain ⟨J, e0, f0, r0⟩ := H
  obtain ⟨L, e, r⟩ := m_lays_loop (n := n) hS hV hv (F 0) 0 (nI 0) 1 J 1000 rfl (by omega) (by omega) f0 r0 (Or.inl ⟨rfl, rfl⟩)
  exact ⟨L, bm_g u_X8_lays (e0.trans e), r⟩
end LN
