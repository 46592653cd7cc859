set_option maxRecDepth 100000
/-! lay, whole -/
section LE
variable {n : Nat} {I : Nat → Nat → Int32} {F : Nat → Nat}
def ly_D (F : Nat → Nat) (i j : Nat) : Prop := j / 8 < i ∧ j % 8 < F (35 + 6 * (j / 8))
def ly_I (I J : Nat → Nat → Int32) (F : Nat → Nat) (W v i : Nat) : Prop := ly_K J F ∧ ly_C J (ly_a F W v i) (ly_D F i) ∧ (∀ c k, c < i → k < F (35 + 6 * c) → J 65 (8 * c + k) = nI (ly_nl F W c k)) ∧ (∀ c, c < i → J 66 c = nI (F (35 + 6 * c))) ∧ ∀ q, (q < 62 ∨ 66 < q) → J q = I q
theorem e_linesOf {c k : Nat} (hc : c < 6) (hk : k < 8) : f_X5_linesOf [.inr (some 62), .inl (nI c), .inl (nI k)] (bm_mk n I) = some (some (.inl (I 65 (8 * c + k))), bm_mk n I) := by
  refine bm_g u_X5_linesOf ?_
  refine bm_bd e_slot ?_
  exact bm_bd (e_gk' (a := 65) (N := 48) (nI_slot c k) rfl rfl (by decide) (by omega)) rfl
theorem ly_D_s0 {i j : Nat} (m0 : F (35 + 6 * i) = 0) (h : ly_D F (i + 1) j) : ly_D F i j := by
  refine ⟨?_, h.2⟩
  have h1 := h.1
  have h2 := h.2
  by_cases e : j / 8 = i
  · rw [e] at h2; omega
  · omega
theorem ly_D_s1 {v i j : Nat} (h : ly_D F (i + 1) j) : ly_D F i j ∨ ∃ q, q < F (35 + 6 * i) ∧ j = 8 * i + bm_sd' F v i q := by
  have h1 := h.1
  have h2 := h.2
  by_cases e : j / 8 = i
  · rw [e] at h2
    have hl := bm_pl_lt (F := F) (v := v) (c := i) h2
    refine Or.inr ⟨bm_pl F v i (j % 8), hl, ?_⟩
    rw [(bm_sd_pl (F := F) (v := v) (c := i) hl h2).mpr rfl]
    omega
  · exact Or.inl ⟨by omega, h2⟩
theorem e_lay_step (hV : bm_V' F) (p : bm_P I 5 F) {W v i : Nat} (hW : 8 ≤ W) (hW2 : W ≤ 40) (hv : v < 2 ^ 31) (hi : i < F 0) {J : Nat → Nat → Int32} (h : ly_I I J F W v i) (w5 w6 w7 : Option bm_V) (o : Nat) :
    ∃ L w5' w6' w7', bm_rn z_X5_lay (o + 1) 55 ([some (.inr (some 62)), some (.inr (some 5)), some (.inl (nI v)), some (.inl (nI W)), some (.inl (nI i)), w5, w6, w7], [], bm_mk n J) = bm_rn z_X5_lay o 55 ([some (.inr (some 62)), some (.inr (some 5)), some (.inl (nI v)), some (.inl (nI W)), some (.inl (nI i + 1)), w5', w6', w7'], [], bm_mk n L) ∧ ly_I I L F W v (i + 1) := by
  have h6 := hV.1
  have h8 := (hV.2.2.2.2.2.2.2.2.2.1 i (by omega)).2.2.2
  have h20 := (hV.2.2.2.2.2.2.2.2.2.1 i (by omega)).1
  obtain ⟨hK, hC, hM, hN, hf⟩ := h
  have pJ : bm_P J 5 F := p.congr (fun j hj => hf _ (by omega))
  have eput := e_put (n := n) (I := J) (a := 66) (N := 6) (k := i) (x := nI i) (v := nI (F (35 + 6 * i))) rfl rfl rfl (by decide) rfl (by omega)
  generalize hA1 : va_up J 66 (upd (J 66) i (nI (F (35 + 6 * i)))) = A1 at eput
  have f1 : ∀ q, q ≠ 66 → A1 q = J q := fun q hq => by rw [← hA1]; exact va_up_ne _ _ hq
  have g1 : A1 66 i = nI (F (35 + 6 * i)) ∧ ∀ c, c ≠ i → A1 66 c = J 66 c := by
    rw [← hA1]; exact ⟨if_pos rfl, fun c hc => if_neg hc⟩
  have p1 : bm_P A1 5 F := pJ.congr (fun j hj => f1 _ (by omega))
  obtain ⟨A2, e2, f2, m2, m3⟩ := e_measure (n := n) hV hW hW2 (show i < 6 by omega) p1
  have p2 : bm_P A2 5 F := p1.congr (fun j hj => f2 _ (by omega))
  have q2 : ∀ q, q ≠ 65 → q ≠ 66 → A2 q = J q := fun q a b => (f2 q a).trans (f1 q b)
  have C2 : ly_C A2 (ly_a F W v i) (ly_D F i) := hC.congr (q2 62 (by decide) (by decide)) (q2 63 (by decide) (by decide)) (q2 64 (by decide) (by decide))
  have K2 : ly_K A2 F := hK.congr (q2 62 (by decide) (by decide))
  have M2 : ∀ c k, c < i + 1 → k < F (35 + 6 * c) → A2 65 (8 * c + k) = nI (ly_nl F W c k) := fun c k hc hk => by
    by_cases e : c = i
    · subst e; exact m2 k hk
    · have := (hV.2.2.2.2.2.2.2.2.2.1 c (by omega)).2.2.2
      rw [m3 _ (by omega), f1 65 (by decide)]; exact hM c k (by omega) hk
  have N2 : ∀ c, c < i + 1 → A2 66 c = nI (F (35 + 6 * c)) := fun c hc => by
    rw [f2 66 (by decide)]
    by_cases e : c = i
    · subst e; exact g1.1
    · rw [g1.2 c e]; exact hN c (by omega)
  by_cases m0 : F (35 + 6 * i) = 0
  · refine ⟨A2, some (.inl (nI (F (35 + 6 * i)))), w6, w7, ?_, K2, ?_, M2, N2, fun q hq => (q2 q (by omega) (by omega)).trans (hf q hq)⟩
    · refine bm_bd (e_contests pJ) ?_
      refine bm_le (F 0) i rfl rfl (by omega) (by omega) (fun z => absurd z (by omega)) (fun _ => ?_)
      refine bm_bd (e_namesIn pJ (by omega)) ?_
      refine bm_bd eput ?_
      refine bm_bd e2 ?_
      refine bm_le (F (35 + 6 * i)) 0 rfl rfl (by omega) (by decide) (fun _ => ?_) (fun z => absurd z (by omega))
      rfl
    · show ly_C A2 (ly_c F W v i (ly_a F W v i)) _
      unfold ly_c
      rw [if_pos m0]
      exact C2.mono (fun j _ hD => ly_D_s0 m0 hD)
  · have hsd := bm_sd_lt (F := F) (v := v) (c := i) (q := 0) (by omega)
    have ok1 := ly_a_ok hV hW (v := v) i (by omega)
    have ok2 := ly_t_ok hV hW (v := v) (c := i) (by omega) ok1
    have e5 : nI ((F (32 + 6 * i) + W - 1) / W) * nI (F (2 + 1 * 3)) = nI (ly_tl F W i) := pk_mul _ _
    obtain ⟨A3, e3, C3, K3, f3⟩ := e_layTitle (n := n) K2 hV hW (v := v) (c := i) (by omega) m0 C2 ok1 (by omega) e5 (M2 i (bm_sd' F v i 0) (by omega) hsd)
    have p3 : bm_P A3 5 F := p2.congr (fun j hj => f3 _ (by omega))
    have pos : 1 ≤ (ly_t F W v i (ly_a F W v i)).1 := by
      unfold ly_t
      split
      · show 1 ≤ _ + 1; omega
      · rename_i q
        show 1 ≤ (ly_a F W v i).1
        omega
    obtain ⟨L, eL, fL, KL, CL⟩ := e_layNames_loop (n := n) hV hW hv hi (D := ly_D F i) ok2 (by omega) pos p3 (fun k hk => by rw [f3 65 (by decide)]; exact M2 i k (by omega) hk) (F (35 + 6 * i)) 0 0 A3 1000 rfl (by omega) (by omega) (fun _ _ _ _ => rfl) K3 (C3.mono (fun j _ hD => hD.elim id (fun z => by obtain ⟨q, hq, _⟩ := z; omega)))
    have qL : ∀ q, q ≠ 62 → q ≠ 63 → q ≠ 64 → L q = A2 q := fun q a b c => (fL q a b c).trans (f3 q a)
    have eN : f_X5_layNames [.inr (some 62), .inr (some 5), .inl (nI v), .inl (nI i)] (bm_mk n A3) = some (none, bm_mk n L) := bm_g u_X5_layNames eL
    refine ⟨L, some (.inl (nI (F (35 + 6 * i)))), some (.inl (nI ((F (32 + 6 * i) + W - 1) / W))), some (.inl (nI (bm_sd' F v i 0))), ?_, KL, ?_, fun c k hc hk => by rw [qL 65 (by decide) (by decide) (by decide)]; exact M2 c k hc hk, fun c hc => by rw [qL 66 (by decide) (by decide) (by decide)]; exact N2 c hc, fun q hq => (qL q (by omega) (by omega) (by omega)).trans ((q2 q (by omega) (by omega)).trans (hf q hq))⟩
    · refine bm_bd (e_contests pJ) ?_
      refine bm_le (F 0) i rfl rfl (by omega) (by omega) (fun z => absurd z (by omega)) (fun _ => ?_)
      refine bm_bd (e_namesIn pJ (by omega)) ?_
      refine bm_bd eput ?_
      refine bm_bd e2 ?_
      refine bm_le (F (35 + 6 * i)) 0 rfl rfl (by omega) (by decide) (fun z => absurd z (by omega)) (fun _ => ?_)
      refine bm_bd (e_titleOf p2 (by omega)) ?_
      refine bm_bd (e_roundedUp rfl rfl (by omega) (by omega) (by omega)) ?_
      refine bm_bd ((e_nameAt p2 hV hv (by omega)).trans (bm_ok (bm_na_in hV hi (q := 0) (by omega)))) ?_
      refine bm_bd (e_setting p2 (c := 3) (by decide)) ?_
      refine bm_bd (e_linesOf (show i < 6 by omega) (show bm_sd' F v i 0 < 8 by omega)) ?_
      refine bm_bd e3 ?_
      refine bm_bd eN ?_
      rfl
    · show ly_C L (ly_c F W v i (ly_a F W v i)) _
      unfold ly_c
      rw [if_neg m0]
      exact CL.mono (fun j _ hD => ly_D_s1 hD)
theorem e_lay_loop (hV : bm_V' F) (p : bm_P I 5 F) {W v : Nat} (hW : 8 ≤ W) (hW2 : W ≤ 40) (hv : v < 2 ^ 31) : ∀ (d i : Nat) (x : Int32) (w5 w6 w7 : Option bm_V) (J : Nat → Nat → Int32) (o : Nat), x = nI i → i + d = F 0 → d < o → ly_I I J F W v i →
    ∃ L, bm_rn z_X5_lay o 55 ([some (.inr (some 62)), some (.inr (some 5)), some (.inl (nI v)), some (.inl (nI W)), some (.inl x), w5, w6, w7], [], bm_mk n J) = some (none, bm_mk n L) ∧ ly_I I L F W v (F 0) := by
  have h6 := hV.1
  intro d
  induction d with
  | zero =>
    intro i x w5 w6 w7 J o hx hi ho h
    obtain ⟨o, rfl⟩ : ∃ q, o = q + 1 := ⟨o - 1, by omega⟩
    subst hx
    have pJ : bm_P J 5 F := p.congr (fun j hj => h.2.2.2.2 _ (by omega))
    have hi : i = F 0 := by omega
    refine ⟨J, ?_, hi ▸ h⟩
    refine bm_bd (e_contests pJ) ?_
    refine bm_le (F 0) i rfl rfl (by omega) (by omega) (fun _ => ?_) (fun z => absurd z (by omega))
    rfl
  | succ d ih =>
    intro i x w5 w6 w7 J o hx hi ho h
    obtain ⟨o, rfl⟩ : ∃ q, o = q + 1 := ⟨o - 1, by omega⟩
    subst hx
    obtain ⟨A, a5, a6, a7, e1, h1⟩ := e_lay_step (n := n) hV p hW hW2 hv (show i < F 0 by omega) h w5 w6 w7 o
    obtain ⟨L, e, r⟩ := ih (i + 1) _ a5 a6 a7 A o (nI_1 i) (by omega) (by omega) h1
    exact ⟨L, e1.trans e, r⟩
theorem e_lay (hV : bm_V' F) (p : bm_P I 5 F) {W v : Nat} (hW : 8 ≤ W) (hW2 : W ≤ 40) (hv : v < 2 ^ 31) : ∃ L, f_X5_lay [.inr (some 62), .inr (some 5), .inl (nI v), .inl (nI W)] (bm_mk n I) = some (none, bm_mk n L) ∧ ly_I I L F W v (F 0) := by
  have h6 := hV.1
  have H : ∃ J, bm_rn z_X5_lay 1000 0 ([some (.inr (some 62)), some (.inr (some 5)), some (.inl (nI v)), some (.inl (nI W)), none, none, none, none], [], bm_mk n I) = bm_rn z_X5_lay 1000 55 ([some (.inr (some 62)), some (.inr (some 5)), some (.inl (nI v)), some (.inl (nI W)), some (.inl (nI 0)), none, none, none], [], bm_mk n J) ∧ ly_I I J F W v 0 := by
    refine ⟨?L, ?w, ?a⟩
    case w =>
      refine bm_bd (e_setting p (c := 0) (by decide)) ?_
      refine bm_bd (e_setting p.v62 (c := 1) (by decide)) ?_
      refine bm_bd (e_setting p.v62.v62 (c := 4) (by decide)) ?_
      rfl
    case a =>
      refine ⟨⟨rfl, rfl, rfl⟩, ⟨rfl, rfl, rfl, rfl, rfl, fun j _ hD => absurd hD.1 (Nat.not_lt_zero _)⟩, fun c k hc => absurd hc (Nat.not_lt_zero _), fun c hc => absurd hc (Nat.not_lt_zero _), fun q hq => ?_⟩
      have r1 : q ≠ 62 := by omega
      exact (va_up_ne _ _ r1).trans ((va_up_ne _ _ r1).trans ((va_up_ne _ _ r1).trans ((va_up_ne _ _ r1).trans ((va_up_ne _ _ r1).trans ((va_up_ne _ _ r1).trans ((va_up_ne _ _ r1).trans (va_up_ne _ _ r1)))))))
  obtain ⟨J, e0, h0⟩ := H
  obtain ⟨L, e, r⟩ := e_lay_loop (n := n) hV p hW hW2 hv (F 0) 0 (nI 0) none none none J 1000 rfl (by omega) (by omega) h0
  exact ⟨L, bm_g u_X5_lay (e0.trans e), r⟩
end LE
