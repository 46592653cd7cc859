set_option maxRecDepth 100000
/-! THE REFERENCE: undo and clear -/
section MU
variable {n : Nat} {I : Nat → Nat → Int32} {S : bm_S}
theorem m_undo_loop {P : Nat} {G : Nat → Nat} (hP : P < 4) : ∀ (d i : Nat) (x : Int32) (J : Nat → Nat → Int32) (o : Nat), x = nI i → J 75 2 = nI P → (∀ j, j < 164 → J 77 (164 * P + j) = nI (G j)) → (∀ j, j < i → J 76 j = nI (G j)) → i + d = 164 → d < o →
    ∃ L, bm_rn z_X8_undo o 22 ([some (.inr (some 75)), some (.inl x)], [], bm_mk n J) = some (some (.inl (nI P)), bm_mk n L) ∧ (∀ k, k ≠ 76 → L k = J k) ∧ ∀ j, j < 164 → L 76 j = nI (G j) := by
  intro d
  induction d with
  | zero =>
    intro i x J o hx h1 h2 h3 hi ho
    obtain ⟨o, rfl⟩ : ∃ q, o = q + 1 := ⟨o - 1, by omega⟩
    have hi : i = 164 := by omega
    subst hi; subst hx
    exact ⟨J, bm_ok h1, fun _ _ => rfl, h3⟩
  | succ d ih =>
    intro i x J o hx h1 h2 h3 hi ho
    obtain ⟨o, rfl⟩ : ∃ q, o = q + 1 := ⟨o - 1, by omega⟩
    subst hx
    have hx2 : (164 * J 75 2 + nI i : Int32) = nI (164 * P + i) := by rw [h1, bm_lit 164, pk_mul, nI_add]
    have st : bm_rn z_X8_undo (o + 1) 22 ([some (.inr (some 75)), some (.inl (nI i))], [], bm_mk n J) = bm_rn z_X8_undo o 22 ([some (.inr (some 75)), some (.inl (nI i + 1))], [], bm_mk n (va_up J 76 (upd (J 76) i (J 77 (164 * P + i))))) := by
      refine bm_ie (fun z => absurd ((nI_leI (by decide) (by omega)).mp (show nI 164 ≤ nI i from z)) (by omega)) ?_
      refine bm_ie (bm_nix (N := 656) (k := 164 * P + i) hx2 (by omega) (by decide)) ?_
      refine bm_ie (bm_nix (N := 164) (k := i) rfl (by omega) (by decide)) ?_
      show bm_rn z_X8_undo o 22 ([some (.inr (some 75)), some (.inl (nI i + 1))], [], bm_mk n (va_up J 76 (upd (J 76) (nI i).toNatClampNeg (J 77 (164 * J 75 2 + nI i : Int32).toNatClampNeg)))) = _
      rw [hx2, nI_clamp (show 164 * P + i < 2 ^ 31 by omega), nI_clamp (show i < 2 ^ 31 by omega)]
    obtain ⟨L, e, f1, f2⟩ := ih (i + 1) _ (va_up J 76 (upd (J 76) i (J 77 (164 * P + i)))) o (nI_1 i) h1 h2 (fun j hj => by
      show upd (J 76) i (J 77 (164 * P + i)) j = _
      unfold upd
      by_cases e : j = i
      · subst e; rw [if_pos rfl]; exact h2 j (by omega)
      · rw [if_neg e]; exact h3 j (by omega)) (by omega) (by omega)
    exact ⟨L, st.trans e, fun k hk => (f1 k hk).trans (va_up_ne _ _ hk), f2⟩
theorem m_undo (h : bm_RM I S) (v : bm_VV S) : bm_mp n I (f_X8_undo [.inr (some 75)]) (sp_undo S) := by
  have h4 := v.2.1
  obtain ⟨hs, hp, hq, ht, hT⟩ := id h
  unfold sp_undo
  by_cases c1 : S.2.1 = 0
  · rw [if_pos c1]
    refine bm_mp.rd h (bm_g u_X8_undo ?_)
    exact bm_eq S.2.1 0 hp rfl (by omega) (by decide) (fun _ => bm_ok rfl) (fun z => absurd c1 z)
  · rw [if_neg c1]
    obtain ⟨F, P, Q, tl, T⟩ := S
    obtain ⟨m, rfl⟩ : ∃ m, P = m + 1 := ⟨P - 1, by have c1 : P ≠ 0 := c1; omega⟩
    dsimp only at *
    have e75 : I 75 2 - 1 = nI m := by rw [hp]; exact nI_pred m
    have hxi : (164 * (I 75 2 - 1) + 0 : Int32) = nI (164 * m + 0) := by rw [e75, bm_lit 164, bm_lit 0, pk_mul, nI_add]
    obtain ⟨L, e, f1', f2⟩ := m_undo_loop (n := n) (P := m) (G := Q m) (by omega) 163 1 (0 + 1) (va_up (va_up I 75 (upd (I 75) 2 (I 75 2 - 1))) 76 (upd (I 76) (0 : Int32).toNatClampNeg (I 77 (164 * (I 75 2 - 1) + 0 : Int32).toNatClampNeg))) 999 rfl e75 (fun j hj => hq m (by omega) j hj) (fun j hj => by
      have : j = 0 := by omega
      subst this
      show I 77 (164 * (I 75 2 - 1) + 0 : Int32).toNatClampNeg = _
      rw [hxi, nI_clamp (by omega)]; exact hq m (by omega) 0 (by decide)) (by omega) (by omega)
    have f1 : ∀ k, k ≠ 76 → L k = (va_up I 75 (upd (I 75) 2 (I 75 2 - 1))) k := fun k hk => (f1' k hk).trans (va_up_ne _ _ hk)
    have e2 : bm_rn z_X8_undo 1000 0 ([some (.inr (some 75)), none], [], bm_mk n I) = some (some (.inl (nI m)), bm_mk n L) := by
      show bm_ra (bm_rn z_X8_undo 999) z_X8_undo 0 ([some (.inr (some 75)), none], [], bm_mk n I) = some (some (.inl (nI m)), bm_mk n L)
      generalize bm_rn z_X8_undo 999 = k at e ⊢
      refine bm_eq (m + 1) 0 hp rfl (by omega) (by decide) (fun z => absurd z c1) (fun _ => ?_)
      exact bm_ie (bm_nix (N := 656) (k := 164 * m + 0) hxi (by omega) (by decide)) e
    have g1 : ∀ k, k ≠ 76 → k ≠ 75 → L k = I k := fun k k1 k2 => (f1 k k1).trans (va_up_ne _ _ k2)
    have g5 : L 75 = upd (I 75) 2 (I 75 2 - 1) := f1 75 (by decide)
    refine ⟨L, bm_g u_X8_undo e2, ⟨f2, by show L 75 2 = _; rw [g5]; exact e75, fun j hj k hk => ?_, by show L 75 4 = _; rw [g5]; exact ht, fun j hj => by rw [g1 78 (by decide) (by decide)]; exact hT j hj⟩, fun k hk => g1 k (by omega) (by omega)⟩
    · rw [g1 77 (by decide) (by decide)]
      have hj : j < m + 1 - 1 := hj
      exact hq j (by omega) k hk
/-! clear: places become nought -/
def bm_cy (y : Nat) : Prop := ∃ c, c < 6 ∧ (y = 36 + 6 * c ∨ y = 37 + 6 * c ∨ ∃ k, k < 8 ∧ y = 69 + 16 * c + 2 * k)
def bm_cl (J L : Nat → Nat → Int32) : Prop := (∀ k, k ≠ 76 → L k = J k) ∧ ∀ y, L 76 y = J 76 y ∨ (L 76 y = 0 ∧ bm_cy y)
theorem bm_cl.rf {J : Nat → Nat → Int32} : bm_cl J J := ⟨fun _ _ => rfl, fun _ => Or.inl rfl⟩
theorem bm_cl.tr {J L M : Nat → Nat → Int32} (a : bm_cl J L) (b : bm_cl L M) : bm_cl J M := ⟨fun k hk => (b.1 k hk).trans (a.1 k hk), fun y => by
  rcases b.2 y with q | q
  · rcases a.2 y with r | r
    · exact Or.inl (q.trans r)
    · exact Or.inr ⟨q.trans r.1, r.2⟩
  · exact Or.inr q⟩
theorem bm_cl.z {J L : Nat → Nat → Int32} {y : Nat} (a : bm_cl J L) (h : J 76 y = 0) : L 76 y = 0 := by
  rcases a.2 y with r | r
  · exact r.trans h
  · exact r.1
theorem bm_cl.up {J : Nat → Nat → Int32} {k : Nat} {x : Int32} (hx : x = nI k) (hk : k < 164) (h : bm_cy k) : bm_cl J (va_up J 76 (upd (J 76) x.toNatClampNeg 0)) ∧ (va_up J 76 (upd (J 76) x.toNatClampNeg 0)) 76 k = 0 := by
  rw [bm_rc7 hx (by omega)]
  refine ⟨⟨fun j hj => va_up_ne _ _ hj, fun y => ?_⟩, if_pos rfl⟩
  show upd (J 76) k 0 y = J 76 y ∨ (upd (J 76) k 0 y = 0 ∧ _)
  unfold upd
  by_cases e : y = k
  · subst e; exact Or.inr ⟨if_pos rfl, h⟩
  · exact Or.inl (if_neg e)
theorem m_clear_in {r : Int32} {c : Nat} (hc : c < 6) : ∀ (d i : Nat) (x : Int32) (J : Nat → Nat → Int32) (o : Nat), x = nI i → i + d = 8 →
    ∃ L, bm_rn z_X8_clear (o + d + 1) 58 ([some (.inr (some 75)), some (.inl r), some (.inl (nI c)), some (.inl x)], [], bm_mk n J) = bm_rn z_X8_clear o 20 ([some (.inr (some 75)), some (.inl r), some (.inl (nI c + 1)), some (.inl (nI 8))], [], bm_mk n L) ∧ bm_cl J L ∧ ∀ k, i ≤ k → k < 8 → L 76 (69 + 16 * c + 2 * k) = 0 := by
  intro d
  induction d with
  | zero =>
    intro i x J o hx hi
    have hi : i = 8 := by omega
    subst hi; subst hx
    exact ⟨J, rfl, bm_cl.rf, fun k h1 h2 => absurd h2 (by omega)⟩
  | succ d ih =>
    intro i x J o hx hi
    subst hx
    obtain ⟨g1, g2⟩ := bm_cl.up (J := J) (ix_v c i) (by omega) ⟨c, hc, Or.inr (Or.inr ⟨i, by omega, rfl⟩)⟩
    obtain ⟨L, e, f1, f2⟩ := ih (i + 1) _ (va_up J 76 (upd (J 76) (68 + 16 * nI c + 2 * nI i + 1 : Int32).toNatClampNeg 0)) o (nI_1 i) (by omega)
    refine ⟨L, Eq.trans ?_ e, g1.tr f1, fun k h1 h2 => ?_⟩
    · show bm_rn z_X8_clear (o + d + 1 + 1) 58 _ = _
      refine bm_ie (fun z => absurd ((nI_leI (by decide) (by omega)).mp (show nI 8 ≤ nI i from z)) (by omega)) ?_
      exact bm_ie (bm_nix (N := 164) (ix_v c i) (by omega) (by decide)) rfl
    · by_cases e : k = i
      · subst e; exact f1.z g2
      · exact f2 k (by omega) h2
theorem m_clear_out {r : Int32} : ∀ (d c : Nat) (x : Int32) (w : Option bm_V) (J : Nat → Nat → Int32) (o : Nat), x = nI c → c + d = 6 → 9 * d < o →
    ∃ L, bm_rn z_X8_clear o 20 ([some (.inr (some 75)), some (.inl r), some (.inl x), w], [], bm_mk n J) = some (some (.inl r), bm_mk n L) ∧ bm_cl J L ∧ ∀ c', c ≤ c' → c' < 6 → L 76 (36 + 6 * c') = 0 ∧ L 76 (37 + 6 * c') = 0 ∧ ∀ k, k < 8 → L 76 (69 + 16 * c' + 2 * k) = 0 := by
  intro d
  induction d with
  | zero =>
    intro c x w J o hx hi ho
    obtain ⟨o, rfl⟩ : ∃ q, o = q + 1 := ⟨o - 1, by omega⟩
    have hi : c = 6 := by omega
    subst hi; subst hx
    exact ⟨J, rfl, bm_cl.rf, fun k h1 h2 => absurd h2 (by omega)⟩
  | succ d ih =>
    intro c x w J o hx hi ho
    obtain ⟨o, rfl⟩ : ∃ q, o = q + 8 + 1 := ⟨o - 9, by omega⟩
    subst hx
    have hx1 : (32 + 6 * nI c + 4 : Int32) = nI (36 + 6 * c) := (ix_c c 4).trans (congrArg nI (by omega))
    have hx2 : (32 + 6 * nI c + 5 : Int32) = nI (37 + 6 * c) := (ix_c c 5).trans (congrArg nI (by omega))
    obtain ⟨g1, g2⟩ := bm_cl.up (J := J) hx1 (by omega) ⟨c, by omega, Or.inl rfl⟩
    obtain ⟨k1, k2⟩ := bm_cl.up (J := va_up J 76 (upd (J 76) (32 + 6 * nI c + 4 : Int32).toNatClampNeg 0)) hx2 (by omega) ⟨c, by omega, Or.inr (Or.inl rfl)⟩
    obtain ⟨A, eA, fA, zA⟩ := m_clear_in (n := n) (r := r) (c := c) (by omega) 8 0 0 (va_up (va_up J 76 (upd (J 76) (32 + 6 * nI c + 4 : Int32).toNatClampNeg 0)) 76 (upd ((va_up J 76 (upd (J 76) (32 + 6 * nI c + 4 : Int32).toNatClampNeg 0)) 76) (32 + 6 * nI c + 5 : Int32).toNatClampNeg 0)) o rfl rfl
    obtain ⟨L, e, f1, f2⟩ := ih (c + 1) _ (some (.inl (nI 8))) A o (nI_1 c) (by omega) (by omega)
    refine ⟨L, Eq.trans ?_ (eA.trans e), (g1.tr k1).tr (fA.tr f1), fun c' h1 h2 => ?_⟩
    · refine bm_ie (fun z => absurd ((nI_leI (by decide) (by omega)).mp (show nI 6 ≤ nI c from z)) (by omega)) ?_
      refine bm_ie (bm_nix (N := 164) hx1 (by omega) (by decide)) ?_
      exact bm_ie (bm_nix (N := 164) hx2 (by omega) (by decide)) rfl
    · by_cases q : c' = c
      · subst q
        exact ⟨(fA.tr f1).z (k1.z g2), (fA.tr f1).z k2, fun k hk => f1.z (zA k (Nat.zero_le _) hk)⟩
      · exact f2 c' (by omega) h2
theorem bm_Fcl_no {F : Nat → Nat} {y : Nat} (h : ¬ bm_cy y) (h1 : y ≠ 1) : bm_Fclear F y = F y := by
  unfold bm_Fclear bm_Fnull
  rw [if_neg, if_neg, if_neg]
  · exact if_neg h1
  · rintro ⟨k, hk, e⟩
    have hk : k < 48 := hk
    have e : y = 69 + 2 * k := e
    exact h ⟨k / 8, by omega, Or.inr (Or.inr ⟨k % 8, by omega, by omega⟩)⟩
  · rintro ⟨k, hk, e⟩
    have hk : k < 6 := hk
    have e : y = 36 + 6 * k := e
    exact h ⟨k, by omega, Or.inl e⟩
  · rintro ⟨k, hk, e⟩
    have hk : k < 6 := hk
    have e : y = 37 + 6 * k := e
    exact h ⟨k, by omega, Or.inr (Or.inl e)⟩
theorem bm_Fcl_cy {F : Nat → Nat} {y : Nat} (h : bm_cy y) : bm_Fclear F y = 0 := by
  unfold bm_Fclear bm_Fnull
  obtain ⟨c, hc, q | q | ⟨k, hk, q⟩⟩ := h
  · by_cases a : ∃ k, k < bm_sz 6 ∧ y = bm_bs 6 + bm_sd 6 * k
    · exact if_pos a
    · rw [if_neg a]; exact if_pos ⟨c, hc, q⟩
  · exact if_pos ⟨c, hc, q⟩
  · by_cases a : ∃ k, k < bm_sz 6 ∧ y = bm_bs 6 + bm_sd 6 * k
    · exact if_pos a
    · rw [if_neg a]
      by_cases b : ∃ k, k < bm_sz 5 ∧ y = bm_bs 5 + bm_sd 5 * k
      · exact if_pos b
      · rw [if_neg b]
        refine if_pos ⟨8 * c + k, show 8 * c + k < 48 by omega, ?_⟩
        show y = 69 + 2 * (8 * c + k)
        omega
theorem bm_Fcl_1 {F : Nat → Nat} : bm_Fclear F 1 = 0 := by
  unfold bm_Fclear bm_Fnull
  rw [if_neg, if_neg, if_neg]
  · rfl
  · rintro ⟨k, hk, e⟩
    have e : 1 = 69 + 2 * k := e
    omega
  · rintro ⟨k, hk, e⟩
    have e : 1 = 36 + 6 * k := e
    omega
  · rintro ⟨k, hk, e⟩
    have e : 1 = 37 + 6 * k := e
    omega
theorem m_clear (h : bm_RM I S) (v : bm_VV S) : bm_mp n I (f_X8_clear [.inr (some 75)]) (sp_clear S) := by
  obtain ⟨J, e, hJ, hf⟩ := m_changes (n := n) h v.2.1
  obtain ⟨a1, a2⟩ := bm_cl.up (J := va_up J 76 (upd (J 76) (1 : Int32).toNatClampNeg 0)) (x := 32 + 6 * 0 + 4) (k := 36) rfl (by decide) ⟨0, by decide, Or.inl rfl⟩
  generalize hA : va_up (va_up J 76 (upd (J 76) (1 : Int32).toNatClampNeg 0)) 76 (upd ((va_up J 76 (upd (J 76) (1 : Int32).toNatClampNeg 0)) 76) (32 + 6 * 0 + 4 : Int32).toNatClampNeg 0) = A at a1 a2
  obtain ⟨b1, b2⟩ := bm_cl.up (J := A) (x := 32 + 6 * 0 + 5) (k := 37) rfl (by decide) ⟨0, by decide, Or.inr (Or.inl rfl)⟩
  generalize hB : va_up A 76 (upd (A 76) (32 + 6 * 0 + 5 : Int32).toNatClampNeg 0) = B at b1 b2
  obtain ⟨c1, c2⟩ := bm_cl.up (J := B) (x := 68 + 16 * 0 + 2 * 0 + 1) (k := 69) rfl (by decide) ⟨0, by decide, Or.inr (Or.inr ⟨0, by decide, rfl⟩)⟩
  generalize hC : va_up B 76 (upd (B 76) (68 + 16 * 0 + 2 * 0 + 1 : Int32).toNatClampNeg 0) = C at c1 c2
  obtain ⟨D, eD, d1, d2⟩ := m_clear_in (n := n) (r := J 76 1) (c := 0) (by decide) 7 1 (0 + 1) C 991 rfl rfl
  obtain ⟨L, e2, l1, l2⟩ := m_clear_out (n := n) (r := J 76 1) 5 1 (nI 0 + 1) (some (.inl (nI 8))) D 991 rfl (by omega) (by omega)
  have f1 : bm_cl (va_up J 76 (upd (J 76) (1 : Int32).toNatClampNeg 0)) L := a1.tr (b1.tr (c1.tr (d1.tr l1)))
  have f2 : ∀ c', 0 ≤ c' → c' < 6 → L 76 (36 + 6 * c') = 0 ∧ L 76 (37 + 6 * c') = 0 ∧ ∀ k, k < 8 → L 76 (69 + 16 * c' + 2 * k) = 0 := fun c' _ hc => by
    by_cases q : c' = 0
    · subst q
      refine ⟨(b1.tr (c1.tr (d1.tr l1))).z a2, (c1.tr (d1.tr l1)).z b2, fun k hk => ?_⟩
      by_cases q : k = 0
      · subst q; exact (d1.tr l1).z c2
      · exact l1.z (d2 k (by omega) hk)
    · exact l2 c' (by omega) hc
  have e9 : bm_rn z_X8_clear 1000 0 ([some (.inr (some 75)), none, none, none], [], bm_mk n I) = some (some (.inl (J 76 1)), bm_mk n L) := by
    have eD := eD.trans e2
    subst hC; subst hB; subst hA
    show bm_ra (bm_rn z_X8_clear 999) z_X8_clear 0 ([some (.inr (some 75)), none, none, none], [], bm_mk n I) = some (some (.inl (J 76 1)), bm_mk n L)
    have eD : bm_rn z_X8_clear 999 58 _ = _ := eD
    generalize bm_rn z_X8_clear 999 = k at eD ⊢
    exact bm_bd e eD
  have g1 : ∀ k, k ≠ 76 → L k = J k := fun k hk => (f1.1 k hk).trans (va_up_ne _ _ hk)
  refine ⟨L, bm_g u_X8_clear ?_, hJ.wr (F' := bm_Fclear S.1) (fun y hy => ?_) g1, bm_f77 hf g1⟩
  · exact e9.trans (bm_ok (hJ.1 1 (by decide)))
  · have s1 : (va_up J 76 (upd (J 76) (1 : Int32).toNatClampNeg 0)) 76 y = upd (J 76) 1 0 y := rfl
    by_cases c : bm_cy y
    · rw [bm_Fcl_cy c]
      obtain ⟨c', hc, q | q | ⟨k, hk, q⟩⟩ := c
      · rw [q]; exact (f2 c' (Nat.zero_le _) hc).1
      · rw [q]; exact (f2 c' (Nat.zero_le _) hc).2.1
      · rw [q]; exact (f2 c' (Nat.zero_le _) hc).2.2 k hk
    · have e3 : L 76 y = upd (J 76) 1 0 y := (f1.2 y).resolve_right (fun z => c z.2)
      rw [e3]
      by_cases q : y = 1
      · subst q; rw [bm_Fcl_1]; exact if_pos rfl
      · rw [bm_Fcl_no c q]
        exact (if_neg q).trans (hJ.1 y hy)
end MU
