set_option maxRecDepth 100000
/-! bestWidth: the reference -/
section BM
variable {n : Nat} {I : Nat → Nat → Int32} {F : Nat → Nat} {S : bm_S}
theorem m_pages (hS : bm_s I F) (hV : bm_V' F) {v : Nat} (hv : v < 2 ^ 31) : ∃ L, f_X8_pages [.inr (some 75), .inl (nI v)] (bm_mk n I) = some (some (.inl (nI (((ly_a F (F 4) v (F 0)).1 + F 2 - 1) / F 2))), bm_mk n L) ∧ ly_f I L := by
  have h4 := hV.2.2.2.2.1
  have h2 := hV.2.2.1
  have h6 := hV.1
  have ok := (ly_a_ok hV h4.1 (v := v) (F 0) hV.1).1
  obtain ⟨L, e, fL, rL⟩ := m_lays (n := n) hS hV hv
  have e2 := m_parts (M := bm_mk n L) (a := (ly_a F (F 4) v (F 0)).1) (b := F 2) rfl (fL.s hS 2 (by decide)) (by omega) (by omega) (by omega)
  have key : bm_rn z_X8_pages 1000 0 ([some (.inr (some 75)), some (.inl (nI v))], [], bm_mk n I) = some (some (.inl (nI (((ly_a F (F 4) v (F 0)).1 + F 2 - 1) / F 2))), bm_mk n L) := by
    refine bm_bd e ?_
    exact bm_bd e2 rfl
  exact ⟨L, bm_g u_X8_pages key, fL⟩
/-- all but s at 4 and the layout's cells as they were -/
def bw_f (I J : Nat → Nat → Int32) : Prop := (∀ q, q ≠ 75 → q ≠ 76 → q ≠ 79 → q ≠ 80 → J q = I q) ∧ (∀ j, (j < 7 ∨ 11 < j) → J 75 j = I 75 j) ∧ ∀ k, k ≠ 4 → J 76 k = I 76 k
theorem bw_f.rf : bw_f I I := ⟨fun _ _ _ _ _ => rfl, fun _ _ => rfl, fun _ _ => rfl⟩
theorem m_pw_step (hS : bm_s I F) (hV : bm_V' F) {J : Nat → Nat → Int32} (f : bw_f I J) {W : Nat} (h1 : 8 ≤ W) (h2 : W ≤ 40) : ∃ L, f_X8_pages [.inr (some 75), .inl 0] (bm_mk n (va_up J 76 (upd (J 76) (4 : Int32).toNatClampNeg (nI W)))) = some (some (.inl (nI (bm_pw F W))), bm_mk n L) ∧ bw_f I L := by
  have s1 : bm_s (va_up J 76 (upd (J 76) (4 : Int32).toNatClampNeg (nI W))) (bm_fs1 F 4 W) := by
    intro k hk
    show upd (J 76) 4 (nI W) k = nI (bm_fs1 F 4 W k)
    unfold upd bm_fs1
    by_cases e : k = 4
    · rw [if_pos e, if_pos e]
    · rw [if_neg e, if_neg e, f.2.2 k e]; exact hS k hk
  obtain ⟨L, e, fL⟩ := m_pages (n := n) s1 (fs4_V hV h1 h2) (v := 0) (by decide)
  refine ⟨L, e.trans (bm_ok (congrArg nI ?_)), fun q a b c d => (fL.1 q a c d).trans ((va_up_ne _ _ b).trans (f.1 q a b c d)), fun j hj => (fL.2 j hj).trans (f.2.1 j hj), fun k hk => ?_⟩
  · show ((ly_a (bm_fs1 F 4 W) W 0 (F 0)).1 + F 2 - 1) / F 2 = bm_pw F W
    rw [fs4_a]; rfl
  · rw [fL.1 76 (by decide) (by decide) (by decide)]
    exact (show upd (J 76) 4 (nI W) k = J 76 k from if_neg hk).trans (f.2.2 k hk)
theorem bm_bb_w : ∀ i, i ≤ 32 → (bm_bb F i).1 < 2 ^ 31
  | 0, _ => (by decide : 8 < 2 ^ 31)
  | i + 1, h => by
    unfold bm_bb
    split
    · show 9 + i < 2 ^ 31; omega
    · exact bm_bb_w i (by omega)
theorem m_best_loop (hS : bm_s I F) (hV : bm_V' F) {x : Int32} : ∀ (d i : Nat) (y a b : Int32) (u : Option bm_V) (J : Nat → Nat → Int32) (o : Nat), y = nI (9 + i) → a = nI (bm_bb F i).1 → b = nI (bm_bb F i).2 → i + d = 32 → d < o → bw_f I J →
    ∃ L, bm_rn z_X8_bestWidth o 28 ([some (.inr (some 75)), some (.inl x), some (.inl (I 76 4)), some (.inl a), some (.inl b), some (.inl y), u], [], bm_mk n J) = some (some (.inl (if x = 0 then nI (bm_bb F 32).1 else nI (bm_bb F 32).2)), bm_mk n L) ∧ bw_f I L ∧ L 76 4 = I 76 4 := by
  intro d
  induction d with
  | zero =>
    intro i y a b u J o hy ha hb hi ho f
    obtain ⟨o, rfl⟩ : ∃ q, o = q + 1 := ⟨o - 1, by omega⟩
    have hi : i = 32 := by omega
    subst hi; subst hy; subst ha; subst hb
    exact ⟨va_up J 76 (upd (J 76) (4 : Int32).toNatClampNeg (I 76 4)), bm_fi (fun _ => rfl) (fun _ => rfl), ⟨fun q a b c d => (va_up_ne _ _ b).trans (f.1 q a b c d), fun j hj => f.2.1 j hj, fun k hk => (show upd (J 76) 4 (I 76 4) k = J 76 k from if_neg hk).trans (f.2.2 k hk)⟩, rfl⟩
  | succ d ih =>
    intro i y a b u J o hy ha hb hi ho f
    obtain ⟨o, rfl⟩ : ∃ q, o = q + 1 := ⟨o - 1, by omega⟩
    subst hy; subst ha; subst hb
    obtain ⟨A, e1, f1⟩ := m_pw_step (n := n) hS hV f (W := 9 + i) (by omega) (by omega)
    have b1 := bm_pw_le hV (W := 9 + i) (by omega)
    have b2 := bm_bb_le hV i
    by_cases q : bm_pw F (9 + i) < (bm_bb F i).2
    · have es : bm_bb F (i + 1) = (9 + i, bm_pw F (9 + i)) := if_pos q
      obtain ⟨L, e, r⟩ := ih (i + 1) (nI (9 + i) + 1) (nI (9 + i)) (nI (bm_pw F (9 + i))) (some (.inl (nI (bm_pw F (9 + i))))) A o (nI_1 (9 + i)) (by rw [es]) (by rw [es]) (by omega) (by omega) f1
      refine ⟨L, ?_, r⟩
      refine bm_ie (fun z => absurd ((nI_ltI (by decide) (by omega)).mp (show nI 40 < nI (9 + i) from z)) (by omega)) ?_
      refine bm_bd e1 ?_
      refine bm_if (fun _ => e) (fun _ => ?_)
      exact bm_le (bm_bb F i).2 (bm_pw F (9 + i)) rfl rfl (by omega) (by omega) (fun z => absurd z (by omega)) (fun _ => e)
    · have es : bm_bb F (i + 1) = bm_bb F i := if_neg q
      obtain ⟨L, e, r⟩ := ih (i + 1) (nI (9 + i) + 1) (nI (bm_bb F i).1) (nI (bm_bb F i).2) (some (.inl (nI (bm_pw F (9 + i))))) A o (nI_1 (9 + i)) (by rw [es]) (by rw [es]) (by omega) (by omega) f1
      refine ⟨L, ?_, r⟩
      refine bm_ie (fun z => absurd ((nI_ltI (by decide) (by omega)).mp (show nI 40 < nI (9 + i) from z)) (by omega)) ?_
      refine bm_bd e1 ?_
      refine bm_ie (nI_pos (bm_bb_w i (by omega))) ?_
      exact bm_le (bm_bb F i).2 (bm_pw F (9 + i)) rfl rfl (by omega) (by omega) (fun _ => e) (fun z => absurd z (by omega))
theorem m_bestWidth (h : bm_RM I S) (v : bm_VV S) (x : Int32) : bm_mp n I (f_X8_bestWidth [.inr (some 75), .inl x]) (sp_bestWidth S x, S) := by
  have hs := h.1
  have hV := v.1
  unfold sp_bestWidth
  by_cases c1 : nI 0 ≤ x ∧ x ≤ nI 1
  · rw [if_pos c1]
    obtain ⟨A, e1, f1⟩ := m_pw_step (n := n) hs hV (J := I) bw_f.rf (W := 8) (by decide) (by decide)
    obtain ⟨L, e, r1, r2⟩ := m_best_loop (n := n) hs hV (x := x) 32 0 (8 + 1) 8 (nI (bm_pw S.1 8)) (some (.inl (nI (bm_pw S.1 8)))) A 999 rfl rfl rfl (by omega) (by omega) f1
    have key : bm_rn z_X8_bestWidth 1000 0 ([some (.inr (some 75)), some (.inl x), none, none, none, none, none], [], bm_mk n I) = some (some (.inl (if x = 0 then nI (bm_bb S.1 32).1 else nI (bm_bb S.1 32).2)), bm_mk n L) := by
      show bm_ra (bm_rn z_X8_bestWidth 999) z_X8_bestWidth 0 ([some (.inr (some 75)), some (.inl x), none, none, none, none, none], [], bm_mk n I) = _
      generalize bm_rn z_X8_bestWidth 999 = k at e ⊢
      refine bm_bd m_in (bm_bq (fun _ => ?_) (fun z => absurd c1 z))
      exact bm_bd e1 e
    obtain ⟨hp, hq, ht, hT⟩ := h.2
    refine ⟨L, bm_g u_X8_bestWidth key, ⟨fun k hk => ?_, by rw [r1.2.1 2 (by omega)]; exact hp, fun j hj k hk => by rw [r1.1 77 (by decide) (by decide) (by decide) (by decide)]; exact hq j hj k hk, by rw [r1.2.1 4 (by omega)]; exact ht, fun j hj => by rw [r1.1 78 (by decide) (by decide) (by decide) (by decide)]; exact hT j hj⟩, fun q hq => r1.1 q (by omega) (by omega) (by omega) (by omega)⟩
    by_cases q : k = 4
    · subst q; rw [r2]; exact hs 4 hk
    · rw [r1.2.2 k q]; exact hs k hk
  · rw [if_neg c1]
    refine bm_mp.rd h (bm_g u_X8_bestWidth ?_)
    exact bm_bd m_in (bm_bq (fun z => absurd z c1) (fun _ => bm_ok rfl))
end BM
