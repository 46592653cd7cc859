set_option maxRecDepth 100000
/-! bestWidth: the class -/
section BW
variable {n : Nat} {I : Nat → Nat → Int32} {F : Nat → Nat} {S : bm_S}
def bm_pw (F : Nat → Nat) (W : Nat) : Nat := ((ly_a F W 0 (F 0)).1 + F 2 - 1) / F 2
theorem e_byWidth (hV : bm_V' F) (p : bm_P I 5 F) {W : Nat} (hW : 8 ≤ W) (hW2 : W ≤ 40) {x : Int32} (hx : x = nI W) : ∃ L, f_X7_pagesByWidth [.inr (some 4), .inl x] (bm_mk n I) = some (some (.inl (nI (bm_pw F W))), bm_mk n L) ∧ ∀ q, (q < 62 ∨ 66 < q) → L q = I q := by
  subst hx
  obtain ⟨L, e, hL⟩ := e_lay (n := n) hV p (v := 0) hW hW2 (by decide)
  have hLL : ly_I L L F W 0 (F 0) := ⟨hL.1, hL.2.1, hL.2.2.1, hL.2.2.2.1, fun _ _ => rfl⟩
  have e2 := e_pages (n := n) hV hW hLL
  have key : bm_rn z_X7_pagesByWidth 1000 0 ([some (.inr (some 4)), some (.inl (nI W))], [], bm_mk n I) = some (some (.inl (nI (bm_pw F W))), bm_mk n L) := by
    refine bm_bd e ?_
    refine bm_bd e2 ?_
    rfl
  exact ⟨L, bm_g u_X7_pagesByWidth key, hL.2.2.2.2⟩
/-- the best width of 8 to 8 + d, and its pages -/
def bm_bb (F : Nat → Nat) : Nat → Nat × Nat
  | 0 => (8, bm_pw F 8)
  | d + 1 => if bm_pw F (9 + d) < (bm_bb F d).2 then (9 + d, bm_pw F (9 + d)) else bm_bb F d
theorem bm_pw_le (hV : bm_V' F) {W : Nat} (hW : 8 ≤ W) : bm_pw F W ≤ 100 := by
  have ok := (ly_a_ok hV hW (v := 0) (F 0) hV.1).1
  have h6 := hV.1
  have h2 := hV.2.2.1
  unfold bm_pw
  exact Nat.le_trans (Nat.div_le_self _ _) (by omega)
theorem bm_bb_le (hV : bm_V' F) : ∀ d, (bm_bb F d).2 ≤ 100
  | 0 => bm_pw_le hV (by decide)
  | d + 1 => by
    unfold bm_bb
    split
    · exact bm_pw_le hV (by omega)
    · exact bm_bb_le hV d
def sp_bestWidth (S : bm_S) (x : Int32) : Int32 := if nI 0 ≤ x ∧ x ≤ nI 1 then (if x = 0 then nI (bm_bb S.1 32).1 else nI (bm_bb S.1 32).2) else -1
theorem c_best_loop (hV : bm_V' F) {x : Int32} : ∀ (d i : Nat) (y a b : Int32) (u : Option bm_V) (J : Nat → Nat → Int32) (o : Nat), y = nI (9 + i) → a = nI (bm_bb F i).1 → b = nI (bm_bb F i).2 → i + d = 32 → d < o → bm_P J 5 F →
    ∃ L, bm_rn z_X7_bestWidth o 25 ([some (.inr (some 4)), some (.inl x), some (.inl a), some (.inl b), some (.inl y), u], [], bm_mk n J) = some (some (.inl (if x = 0 then nI (bm_bb F 32).1 else nI (bm_bb F 32).2)), bm_mk n L) ∧ ∀ q, (q < 62 ∨ 66 < q) → L q = J q := by
  intro d
  induction d with
  | zero =>
    intro i y a b u J o hy ha hb hi ho p
    obtain ⟨o, rfl⟩ : ∃ q, o = q + 1 := ⟨o - 1, by omega⟩
    have hi : i = 32 := by omega
    subst hi; subst hy; subst ha; subst hb
    exact ⟨J, bm_fi (fun _ => rfl) (fun _ => rfl), fun _ _ => rfl⟩
  | succ d ih =>
    intro i y a b u J o hy ha hb hi ho p
    obtain ⟨o, rfl⟩ : ∃ q, o = q + 1 := ⟨o - 1, by omega⟩
    subst hy; subst ha; subst hb
    obtain ⟨A, e1, f1⟩ := e_byWidth (n := n) hV p (W := 9 + i) (by omega) (by omega) rfl
    have pA : bm_P A 5 F := p.congr (fun j hj => f1 _ (by omega))
    have b1 := bm_pw_le hV (W := 9 + i) (by omega)
    have b2 := bm_bb_le hV i
    by_cases q : bm_pw F (9 + i) < (bm_bb F i).2
    · have es : bm_bb F (i + 1) = (9 + i, bm_pw F (9 + i)) := if_pos q
      obtain ⟨L, e, r⟩ := ih (i + 1) (nI (9 + i) + 1) (nI (9 + i)) (nI (bm_pw F (9 + i))) (some (.inl (nI (bm_pw F (9 + i))))) A o (nI_1 (9 + i)) (by rw [es]) (by rw [es]) (by omega) (by omega) pA
      refine ⟨L, ?_, fun k hk => (r k hk).trans (f1 k hk)⟩
      refine bm_ie (fun z => absurd ((nI_ltI (by decide) (by omega)).mp (show nI 40 < nI (9 + i) from z)) (by omega)) ?_
      refine bm_bd e1 ?_
      exact bm_le (bm_bb F i).2 (bm_pw F (9 + i)) rfl rfl (by omega) (by omega) (fun z => absurd z (by omega)) (fun _ => e)
    · have es : bm_bb F (i + 1) = bm_bb F i := if_neg q
      obtain ⟨L, e, r⟩ := ih (i + 1) (nI (9 + i) + 1) (nI (bm_bb F i).1) (nI (bm_bb F i).2) (some (.inl (nI (bm_pw F (9 + i))))) A o (nI_1 (9 + i)) (by rw [es]) (by rw [es]) (by omega) (by omega) pA
      refine ⟨L, ?_, fun k hk => (r k hk).trans (f1 k hk)⟩
      refine bm_ie (fun z => absurd ((nI_ltI (by decide) (by omega)).mp (show nI 40 < nI (9 + i) from z)) (by omega)) ?_
      refine bm_bd e1 ?_
      exact bm_le (bm_bb F i).2 (bm_pw F (9 + i)) rfl rfl (by omega) (by omega) (fun _ => e) (fun z => absurd z (by omega))
theorem c_bestWidth (h : bm_RC I S) (v : bm_VV S) (x : Int32) : bm_cp n I (f_X7_bestWidth [.inr (some 4), .inl x]) (sp_bestWidth S x, S) := by
  have p := h.1
  have hV := v.1
  unfold sp_bestWidth
  by_cases c1 : nI 0 ≤ x ∧ x ≤ nI 1
  · rw [if_pos c1]
    obtain ⟨A, e1, f1⟩ := e_byWidth (n := n) hV p (W := 8) (by decide) (by decide) (x := 8) rfl
    have pA : bm_P A 5 S.1 := p.congr (fun j hj => f1 _ (by omega))
    obtain ⟨L, e, r⟩ := c_best_loop (n := n) hV (x := x) 32 0 9 8 (nI (bm_pw S.1 8)) none A 1000 rfl rfl rfl (by omega) (by omega) pA
    have key : bm_rn z_X7_bestWidth 1000 0 ([some (.inr (some 4)), some (.inl x), none, none, none, none], [], bm_mk n I) = some (some (.inl (if x = 0 then nI (bm_bb S.1 32).1 else nI (bm_bb S.1 32).2)), bm_mk n L) := by
      have e : bm_ra (bm_rn z_X7_bestWidth 999) z_X7_bestWidth 25 ([some (.inr (some 4)), some (.inl x), some (.inl 8), some (.inl (nI (bm_pw S.1 8))), some (.inl 9), none], [], bm_mk n A) = some (some (.inl (if x = 0 then nI (bm_bb S.1 32).1 else nI (bm_bb S.1 32).2)), bm_mk n L) := e
      show bm_ra (bm_rn z_X7_bestWidth 999) z_X7_bestWidth 0 ([some (.inr (some 4)), some (.inl x), none, none, none, none], [], bm_mk n I) = _
      generalize bm_rn z_X7_bestWidth 999 = k at e ⊢
      refine bm_bd e_within (bm_bq (fun _ => ?_) (fun z => absurd c1 z))
      exact bm_bd e1 e
    exact ⟨L, bm_g u_X7_bestWidth key, h.lay (fun q hq => (r q hq).trans (f1 q hq)), fun q hq => (r q (by omega)).trans (f1 q (by omega))⟩
  · rw [if_neg c1]
    refine bm_cp.rd h (bm_g u_X7_bestWidth ?_)
    exact bm_bd e_within (bm_bq (fun z => absurd z c1) (fun _ => bm_ok rfl))
end BW
