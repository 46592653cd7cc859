set_option maxRecDepth 100000
/-! THE REFERENCE LAYS A PAPER -/
section LM
variable {n : Nat} {I : Nat → Nat → Int32} {F : Nat → Nat}
def ly_R (I : Nat → Nat → Int32) (Y : ly_Y) (D : Nat → Prop) : Prop := I 75 7 = nI (Y.1 - 1) ∧ I 75 8 = nI Y.2.1 ∧ I 75 9 = nI Y.2.2.1 ∧ I 75 10 = nI Y.2.2.2.1 ∧ I 75 11 = nI Y.2.2.2.2.1 ∧ ∀ j, j < 48 → D j → I 79 j = nI (Y.2.2.2.2.2.1 j) ∧ I 80 j = nI (Y.2.2.2.2.2.2 j)
def ly_f (I J : Nat → Nat → Int32) : Prop := (∀ q, q ≠ 75 → q ≠ 79 → q ≠ 80 → J q = I q) ∧ ∀ j, (j < 7 ∨ 11 < j) → J 75 j = I 75 j
theorem ly_f.rf : ly_f I I := ⟨fun _ _ _ _ => rfl, fun _ _ => rfl⟩
theorem ly_f.tr {J L : Nat → Nat → Int32} (a : ly_f I J) (b : ly_f J L) : ly_f I L := ⟨fun q q1 q2 q3 => (b.1 q q1 q2 q3).trans (a.1 q q1 q2 q3), fun j hj => (b.2 j hj).trans (a.2 j hj)⟩
theorem ly_f.up {J : Nat → Nat → Int32} {k : Nat} {w : Int32} (a : ly_f I J) (h1 : 7 ≤ k) (h2 : k ≤ 11) : ly_f I (va_up J 75 (upd (J 75) k w)) := ⟨fun q q1 q2 q3 => (va_up_ne _ _ q1).trans (a.1 q q1 q2 q3), fun j hj => (show upd (J 75) k w j = J 75 j from if_neg (by omega)).trans (a.2 j hj)⟩
theorem ly_f.u79 {J : Nat → Nat → Int32} {f : Nat → Int32} (a : ly_f I J) : ly_f I (va_up J 79 f) := ⟨fun q q1 q2 q3 => (va_up_ne _ _ q2).trans (a.1 q q1 q2 q3), fun j hj => a.2 j hj⟩
theorem ly_f.u80 {J : Nat → Nat → Int32} {f : Nat → Int32} (a : ly_f I J) : ly_f I (va_up J 80 f) := ⟨fun q q1 q2 q3 => (va_up_ne _ _ q3).trans (a.1 q q1 q2 q3), fun j hj => a.2 j hj⟩
theorem ly_f.s {J : Nat → Nat → Int32} (a : ly_f I J) (h : bm_s I F) : bm_s J F := fun k hk => by rw [a.1 76 (by decide) (by decide) (by decide)]; exact h k hk
theorem ly_R.mono {Y : ly_Y} {D D' : Nat → Prop} (h : ly_R I Y D) (e : ∀ j, j < 48 → D' j → D j) : ly_R I Y D' :=
  ⟨h.1, h.2.1, h.2.2.1, h.2.2.2.1, h.2.2.2.2.1, fun j hj hD => h.2.2.2.2.2 j hj (e j hj hD)⟩
theorem m_parts {M : bm_M} {a b : Nat} {x y : Int32} (hx : x = nI a) (hy : y = nI b) (ha : a < 1000000) (hb0 : 0 < b) (hb : b < 1000000) : f_X8_parts [.inl x, .inl y] M = some (some (.inl (nI ((a + b - 1) / b))), M) := by
  subst hx; subst hy
  refine bm_g u_X8_parts ?_
  refine bm_ie (nI_ne0 hb0 (by omega)) ?_
  refine bm_ok ?_
  show (nI a + nI b - 1) / nI b = _
  rw [nI_add, bm_lit 1, pk_sub (by omega), pk_div (by omega) hb0 (by omega)]
theorem m_titleLines (hS : bm_s I F) (hV : bm_V' F) {c : Nat} (hc : c < 6) : f_X8_titleLines [.inr (some 75), .inl (nI c)] (bm_mk n I) = some (some (.inl (nI (ly_tl F (F 4) c))), bm_mk n I) := by
  have h4 := hV.2.2.2.2.1
  have h20 := (hV.2.2.2.2.2.2.2.2.2.1 c hc).1
  refine bm_g u_X8_titleLines ?_
  refine bm_bd ((m_of hS (c := c) (w := 0) rfl rfl (by omega)).trans (bm_ok (show nI (F (32 + 6 * c + 0)) = nI (F (32 + 6 * c)) from rfl))) ?_
  refine bm_bd (m_parts (a := F (32 + 6 * c)) (b := F 4) rfl (hS 4 (by decide)) (by omega) (by omega) (by omega)) ?_
  refine bm_ok ?_
  show nI _ * I 76 5 = _
  rw [hS 5 (by decide)]
  exact pk_mul _ _
theorem m_nameLines (hS : bm_s I F) (hV : bm_V' F) {c k : Nat} (hc : c < 6) (hk : k < 8) : f_X8_nameLines [.inr (some 75), .inl (nI c), .inl (nI k)] (bm_mk n I) = some (some (.inl (nI (ly_nl F (F 4) c k))), bm_mk n I) := by
  have h4 := hV.2.2.2.2.1
  have hlen := hV.2.2.2.2.2.2.2.2.2.2 (8 * c + k) (by omega)
  rw [show 68 + 2 * (8 * c + k) = 68 + 16 * c + 2 * k by omega] at hlen
  refine bm_g u_X8_nameLines ?_
  refine bm_bd (m_lengthOf hS (by omega)) ?_
  have eW : (I 76 4 - 3 : Int32) = nI (F 4 - 3) := by rw [hS 4 (by decide), bm_lit 3]; exact pk_sub (by omega)
  exact bm_bd (m_parts (a := F (68 + 16 * c + 2 * k)) (b := F 4 - 3) rfl eW (by omega) (by omega) (by omega)) rfl
theorem m_pushed (hS : bm_s I F) (hV : bm_V' F) {x : Int32} {a : Nat} (hx : x = nI a) (ha : a < 1000) : f_X8_pushed [.inr (some 75), .inl x] (bm_mk n I) = some (some (.inl (nI (ly_bf F a))), bm_mk n I) := by
  subst hx
  have h6 := hV.2.2.2.2.2.2.1
  have e6 : I 76 6 = nI (F 6) := hS 6 (by decide)
  have key : f_X8_isFold [.inr (some 75), .inl (nI a)] (bm_mk n I) = some (some (.inl (bm_b (0 < F 6 ∧ (a + 1) % F 6 = 0))), bm_mk n I) := by
    refine bm_g u_X8_isFold ?_
    refine bm_le (F 6) 0 e6 rfl (by omega) (by decide) (fun z => ?_) (fun z => ?_)
    · exact bm_ok (bm_b0 (fun q => absurd q.1 (by omega))).symm
    · refine bm_ie (fun y => nI_ne0 z (by omega) (e6.symm.trans y)) ?_
      refine bm_eq ((a + 1) % F 6) 0 (by
        show (nI a + 1) - (nI a + 1) / I 76 6 * I 76 6 = _
        rw [e6, nI_1]; exact pk_rem (by omega) z (by omega)) rfl (by have := Nat.mod_lt (a + 1) z; omega) (by decide) (fun q => ?_) (fun q => ?_)
      · exact bm_ok (bm_b1 ⟨z, q⟩).symm
      · exact bm_ok (bm_b0 (fun y => q y.2)).symm
  refine bm_g u_X8_pushed ?_
  unfold ly_bf
  refine bm_bd key (bm_bq (fun z => ?_) (fun z => ?_))
  · exact bm_ok (by rw [if_pos z]; exact nI_1 a)
  · exact bm_ok (by rw [if_neg z])
/-- one name laid -/
theorem m_laysName (hS : bm_s I F) (hV : bm_V' F) {c k b : Nat} (hc : c < 6) (hk : k < 8) {Y : ly_Y} {D : Nat → Prop} (hC : ly_R I Y D) (hY : ly_ok Y b) (hb : b < 1000) (hp1 : 1 ≤ Y.1) :
    ∃ L, f_X8_laysName [.inr (some 75), .inl (nI c), .inl (nI k)] (bm_mk n I) = some (none, bm_mk n L) ∧ ly_R L (ly_n F (F 4) c k Y) (fun j => D j ∨ j = 8 * c + k) ∧ ly_f I L := by
  have h1 := ly_nl_le hV hV.2.2.2.2.1.1 hc hk
  have h3 := hV.2.2.2.1
  have e3 : I 76 3 = nI (F 3) := hS 3 (by decide)
  obtain ⟨y1, y2⟩ := hY
  have hbf := ly_bf_le (F := F) (a := Y.2.1)
  obtain ⟨c1, c2, c3, c4, c5, c6⟩ := hC
  have hx : (8 * nI c + nI k : Int32) = nI (8 * c + k) := by rw [bm_lit 8, pk_mul, nI_add]
  have hsum : nI (ly_bf F Y.2.1) + nI (ly_nl F (F 4) c k) = nI (ly_bf F Y.2.1 + ly_nl F (F 4) c k) := nI_add _ _
  have cl : (8 * nI c + nI k : Int32).toNatClampNeg = 8 * c + k := by rw [hx]; exact nI_clamp (by omega)
  suffices H : ∃ L, bm_rn z_X8_laysName 1000 0 ([some (.inr (some 75)), some (.inl (nI c)), some (.inl (nI k)), none, none], [], bm_mk n I) = some (none, bm_mk n L) ∧ ly_R L (ly_n F (F 4) c k Y) (fun j => D j ∨ j = 8 * c + k) ∧ ly_f I L by
    obtain ⟨L, e, r⟩ := H
    exact ⟨L, bm_g u_X8_laysName e, r⟩
  by_cases q : F 3 < ly_bf F Y.2.1 + ly_nl F (F 4) c k
  · refine ⟨?L1, ?w1, ?a1, ?d1⟩
    case w1 =>
      refine bm_bd (m_nameLines hS hV hc hk) ?_
      refine bm_bd (m_pushed hS hV c2 (by omega)) ?_
      refine bm_le (ly_bf F Y.2.1 + ly_nl F (F 4) c k) (F 3) hsum e3 (by omega) (by omega) (fun z => absurd z (by omega)) (fun _ => ?_)
      refine bm_ie (bm_nix (N := 48) hx (by omega) (by decide)) ?_
      refine bm_ie (bm_nix (N := 48) hx (by omega) (by decide)) ?_
      rfl
    case a1 =>
      unfold ly_n
      rw [if_pos q]
      refine ⟨?_, ?_, ?_, ?_, ?_, fun j hj hD => ⟨?_, ?_⟩⟩
      · show I 75 7 + 1 = nI (Y.1 + 1 - 1); rw [c1, nI_1]; exact congrArg nI (by omega)
      · show (0 : Int32) + nI (ly_nl F (F 4) c k) = nI (ly_nl F (F 4) c k); rw [bm_lit 0, nI_add, Nat.zero_add]
      · show I 75 9 + nI (ly_nl F (F 4) c k) = nI (Y.2.2.1 + ly_nl F (F 4) c k); rw [c3]; exact nI_add _ _
      · exact c4
      · show I 75 11 + 1 = nI (Y.2.2.2.2.1 + 1); rw [c5]; exact nI_1 _
      · show upd (I 79) (8 * nI c + nI k : Int32).toNatClampNeg (I 75 7 + 1) j = nI (bm_fs1 Y.2.2.2.2.2.1 (8 * c + k) Y.1 j)
        rw [cl]
        unfold upd bm_fs1
        by_cases e : j = 8 * c + k
        · rw [if_pos e, if_pos e, c1, nI_1]; exact congrArg nI (by omega)
        · rw [if_neg e, if_neg e]; exact (c6 j hj (hD.resolve_right e)).1
      · show upd (I 80) (8 * nI c + nI k : Int32).toNatClampNeg 0 j = nI (bm_fs1 Y.2.2.2.2.2.2 (8 * c + k) 0 j)
        rw [cl]
        unfold upd bm_fs1
        by_cases e : j = 8 * c + k
        · rw [if_pos e, if_pos e]; rfl
        · rw [if_neg e, if_neg e]; exact (c6 j hj (hD.resolve_right e)).2
    case d1 => exact (((((ly_f.rf.up (by decide) (by decide)).up (by decide) (by decide)).u79).u80).up (by decide) (by decide)).up (by decide) (by decide)
  · by_cases q2 : Y.2.1 < ly_bf F Y.2.1
    · refine ⟨?L2, ?w2, ?a2, ?d2⟩
      case w2 =>
        refine bm_bd (m_nameLines hS hV hc hk) ?_
        refine bm_bd (m_pushed hS hV c2 (by omega)) ?_
        refine bm_le (ly_bf F Y.2.1 + ly_nl F (F 4) c k) (F 3) hsum e3 (by omega) (by omega) (fun _ => ?_) (fun z => absurd z (by omega))
        refine bm_le (ly_bf F Y.2.1) Y.2.1 rfl c2 (by omega) (by omega) (fun z => absurd z (by omega)) (fun _ => ?_)
        refine bm_ie (bm_nix (N := 48) hx (by omega) (by decide)) ?_
        refine bm_ie (bm_nix (N := 48) hx (by omega) (by decide)) ?_
        rfl
      case a2 =>
        unfold ly_n
        rw [if_neg q, if_pos q2]
        refine ⟨c1, ?_, ?_, ?_, c5, fun j hj hD => ⟨?_, ?_⟩⟩
        · exact hsum
        · show I 75 9 + nI (ly_nl F (F 4) c k) = nI (Y.2.2.1 + ly_nl F (F 4) c k); rw [c3]; exact nI_add _ _
        · show I 75 10 + 1 = nI (Y.2.2.2.1 + 1); rw [c4]; exact nI_1 _
        · show upd (I 79) (8 * nI c + nI k : Int32).toNatClampNeg (I 75 7) j = nI (bm_fs1 Y.2.2.2.2.2.1 (8 * c + k) (Y.1 - 1) j)
          rw [cl]
          unfold upd bm_fs1
          by_cases e : j = 8 * c + k
          · rw [if_pos e, if_pos e, c1]
          · rw [if_neg e, if_neg e]; exact (c6 j hj (hD.resolve_right e)).1
        · show upd (I 80) (8 * nI c + nI k : Int32).toNatClampNeg (nI (ly_bf F Y.2.1)) j = nI (bm_fs1 Y.2.2.2.2.2.2 (8 * c + k) (ly_bf F Y.2.1) j)
          rw [cl]
          unfold upd bm_fs1
          by_cases e : j = 8 * c + k
          · rw [if_pos e, if_pos e]
          · rw [if_neg e, if_neg e]; exact (c6 j hj (hD.resolve_right e)).2
      case d2 => exact ((((ly_f.rf.up (by decide) (by decide)).u79).u80).up (by decide) (by decide)).up (by decide) (by decide)
    · refine ⟨?L3, ?w3, ?a3, ?d3⟩
      case w3 =>
        refine bm_bd (m_nameLines hS hV hc hk) ?_
        refine bm_bd (m_pushed hS hV c2 (by omega)) ?_
        refine bm_le (ly_bf F Y.2.1 + ly_nl F (F 4) c k) (F 3) hsum e3 (by omega) (by omega) (fun _ => ?_) (fun z => absurd z (by omega))
        refine bm_le (ly_bf F Y.2.1) Y.2.1 rfl c2 (by omega) (by omega) (fun _ => ?_) (fun z => absurd z (by omega))
        refine bm_ie (bm_nix (N := 48) hx (by omega) (by decide)) ?_
        refine bm_ie (bm_nix (N := 48) hx (by omega) (by decide)) ?_
        rfl
      case a3 =>
        unfold ly_n
        rw [if_neg q, if_neg q2]
        refine ⟨c1, ?_, ?_, ?_, c5, fun j hj hD => ⟨?_, ?_⟩⟩
        · exact hsum
        · show I 75 9 + nI (ly_nl F (F 4) c k) = nI (Y.2.2.1 + ly_nl F (F 4) c k); rw [c3]; exact nI_add _ _
        · show I 75 10 + 0 = nI (Y.2.2.2.1 + 0); rw [c4]; exact nI_add _ 0
        · show upd (I 79) (8 * nI c + nI k : Int32).toNatClampNeg (I 75 7) j = nI (bm_fs1 Y.2.2.2.2.2.1 (8 * c + k) (Y.1 - 1) j)
          rw [cl]
          unfold upd bm_fs1
          by_cases e : j = 8 * c + k
          · rw [if_pos e, if_pos e, c1]
          · rw [if_neg e, if_neg e]; exact (c6 j hj (hD.resolve_right e)).1
        · show upd (I 80) (8 * nI c + nI k : Int32).toNatClampNeg (nI (ly_bf F Y.2.1)) j = nI (bm_fs1 Y.2.2.2.2.2.2 (8 * c + k) (ly_bf F Y.2.1) j)
          rw [cl]
          unfold upd bm_fs1
          by_cases e : j = 8 * c + k
          · rw [if_pos e, if_pos e]
          · rw [if_neg e, if_neg e]; exact (c6 j hj (hD.resolve_right e)).2
      case d3 => exact ((((ly_f.rf.up (by decide) (by decide)).u79).u80).up (by decide) (by decide)).up (by decide) (by decide)
end LM
