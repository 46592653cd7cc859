set_option maxRecDepth 100000
/-! THE LAYOUT OF A PAPER in plain numbers: columns, next line, taken, later, begun by names, column (from 0) and line of each name -/
abbrev ly_Y : Type := Nat × Nat × Nat × Nat × Nat × (Nat → Nat) × (Nat → Nat)
def ly_bf (F : Nat → Nat) (a : Nat) : Nat := if 0 < F 6 ∧ (a + 1) % F 6 = 0 then a + 1 else a
def ly_nl (F : Nat → Nat) (W c k : Nat) : Nat := (F (68 + 16 * c + 2 * k) + (W - 3) - 1) / (W - 3)
def ly_tl (F : Nat → Nat) (W c : Nat) : Nat := (F (32 + 6 * c) + W - 1) / W * F 5
def ly_n (F : Nat → Nat) (W c k : Nat) (Y : ly_Y) : ly_Y :=
  if F 3 < ly_bf F Y.2.1 + ly_nl F W c k then (Y.1 + 1, ly_nl F W c k, Y.2.2.1 + ly_nl F W c k, Y.2.2.2.1, Y.2.2.2.2.1 + 1, bm_fs1 Y.2.2.2.2.2.1 (8 * c + k) Y.1, bm_fs1 Y.2.2.2.2.2.2 (8 * c + k) 0)
  else (Y.1, ly_bf F Y.2.1 + ly_nl F W c k, Y.2.2.1 + ly_nl F W c k, Y.2.2.2.1 + (if Y.2.1 < ly_bf F Y.2.1 then 1 else 0), Y.2.2.2.2.1, bm_fs1 Y.2.2.2.2.2.1 (8 * c + k) (Y.1 - 1), bm_fs1 Y.2.2.2.2.2.2 (8 * c + k) (ly_bf F Y.2.1))
def ly_t (F : Nat → Nat) (W v c : Nat) (Y : ly_Y) : ly_Y :=
  if Y.1 = 0 ∨ F 3 < ly_bf F (Y.2.1 + 1 + ly_tl F W c) + ly_nl F W c (bm_sd' F v c 0) then (Y.1 + 1, ly_tl F W c, Y.2.2.1 + ly_tl F W c, Y.2.2.2)
  else (Y.1, Y.2.1 + 1 + ly_tl F W c, Y.2.2.1 + ly_tl F W c, Y.2.2.2)
def ly_m (F : Nat → Nat) (W v c : Nat) (Y : ly_Y) : Nat → ly_Y
  | 0 => Y
  | i + 1 => ly_n F W c (bm_sd' F v c i) (ly_m F W v c Y i)
def ly_c (F : Nat → Nat) (W v c : Nat) (Y : ly_Y) : ly_Y := if F (35 + 6 * c) = 0 then Y else ly_m F W v c (ly_t F W v c Y) (F (35 + 6 * c))
def ly_a (F : Nat → Nat) (W v : Nat) : Nat → ly_Y
  | 0 => (0, 0, 0, 0, 0, fun _ => 0, fun _ => 0)
  | c + 1 => ly_c F W v c (ly_a F W v c)
/-- the bounds -/
def ly_ok (Y : ly_Y) (b : Nat) : Prop := Y.1 ≤ b ∧ Y.2.1 ≤ 60
section LB
variable {F : Nat → Nat} {W : Nat}
theorem ly_nl_le (hV : bm_V' F) (hW : 8 ≤ W) {c k : Nat} (hc : c < 6) (hk : k < 8) : ly_nl F W c k ≤ 4 := by
  have := hV.2.2.2.2.2.2.2.2.2.2 (8 * c + k) (by omega)
  rw [show 68 + 2 * (8 * c + k) = 68 + 16 * c + 2 * k by omega] at this
  unfold ly_nl
  refine Nat.le_of_lt_succ (Nat.div_lt_of_lt_mul ?_)
  omega
theorem ly_tl_le (hV : bm_V' F) (hW : 8 ≤ W) {c : Nat} (hc : c < 6) : ly_tl F W c ≤ 9 := by
  have := (hV.2.2.2.2.2.2.2.2.2.1 c hc).1
  have h5 := hV.2.2.2.2.2.1
  unfold ly_tl
  have : (F (32 + 6 * c) + W - 1) / W ≤ 3 := Nat.le_of_lt_succ (Nat.div_lt_of_lt_mul (by omega))
  exact Nat.mul_le_mul this h5.2
theorem ly_bf_le {a : Nat} : ly_bf F a ≤ a + 1 ∧ a ≤ ly_bf F a := by
  unfold ly_bf
  split <;> omega
theorem ly_n_ok (hV : bm_V' F) (hW : 8 ≤ W) {c k b : Nat} (hc : c < 6) (hk : k < 8) {Y : ly_Y} (h : ly_ok Y b) : ly_ok (ly_n F W c k Y) (b + 1) := by
  have h1 := ly_nl_le hV hW hc hk
  have h3 := hV.2.2.2.1
  obtain ⟨a1, a2⟩ := h
  unfold ly_n
  split
  · exact ⟨by show Y.1 + 1 ≤ b + 1; omega, by show ly_nl F W c k ≤ 60; omega⟩
  · exact ⟨by show Y.1 ≤ b + 1; omega, by show ly_bf F Y.2.1 + ly_nl F W c k ≤ 60; omega⟩
theorem ly_t_ok (hV : bm_V' F) (hW : 8 ≤ W) {v c b : Nat} (hc : c < 6) {Y : ly_Y} (h : ly_ok Y b) : ly_ok (ly_t F W v c Y) (b + 1) := by
  have h1 := ly_tl_le hV hW hc
  have h3 := hV.2.2.2.1
  have h4 := (ly_bf_le (F := F) (a := Y.2.1 + 1 + ly_tl F W c)).2
  obtain ⟨a1, a2⟩ := h
  unfold ly_t
  split
  · exact ⟨by show Y.1 + 1 ≤ b + 1; omega, by show ly_tl F W c ≤ 60; omega⟩
  · exact ⟨by show Y.1 ≤ b + 1; omega, by show Y.2.1 + 1 + ly_tl F W c ≤ 60; omega⟩
theorem ly_m_ok (hV : bm_V' F) (hW : 8 ≤ W) {v c b : Nat} (hc : c < 6) {Y : ly_Y} (h : ly_ok Y b) : ∀ i, i ≤ F (35 + 6 * c) → ly_ok (ly_m F W v c Y i) (b + i)
  | 0, _ => h
  | i + 1, hi => by
    have h8 := (hV.2.2.2.2.2.2.2.2.2.1 c hc).2.2.2
    have := bm_sd_lt (F := F) (v := v) (c := c) (q := i) (by omega)
    exact ly_n_ok hV hW hc (by omega) (ly_m_ok hV hW hc h i (by omega))
theorem ly_a_ok (hV : bm_V' F) (hW : 8 ≤ W) {v : Nat} : ∀ c, c ≤ 6 → ly_ok (ly_a F W v c) (9 * c)
  | 0, _ => ⟨Nat.le_refl _, Nat.zero_le _⟩
  | c + 1, hc => by
    have h8 := (hV.2.2.2.2.2.2.2.2.2.1 c (by omega)).2.2.2
    have ih := ly_a_ok hV hW (v := v) c (by omega)
    show ly_ok (ly_c F W v c (ly_a F W v c)) _
    unfold ly_c
    split
    · exact ⟨by have := ih.1; omega, ih.2⟩
    · have := ly_m_ok hV hW (v := v) (c := c) (by omega) (ly_t_ok hV hW (v := v) (c := c) (by omega) ih) _ (Nat.le_refl _)
      exact ⟨by have := this.1; omega, this.2⟩
end LB
section LC
variable {n : Nat} {I : Nat → Nat → Int32} {F : Nat → Nat}
def ly_K (I : Nat → Nat → Int32) (F : Nat → Nat) : Prop := I 62 4 = nI (F 2) ∧ I 62 5 = nI (F 3) ∧ I 62 6 = nI (F 6)
def ly_C (I : Nat → Nat → Int32) (Y : ly_Y) (D : Nat → Prop) : Prop := I 62 7 = nI Y.1 ∧ I 62 8 = nI Y.2.1 ∧ I 62 9 = nI Y.2.2.1 ∧ I 62 10 = nI Y.2.2.2.1 ∧ I 62 11 = nI Y.2.2.2.2.1 ∧ ∀ j, j < 48 → D j → I 63 j = nI (Y.2.2.2.2.2.1 j) ∧ I 64 j = nI (Y.2.2.2.2.2.2 j)
theorem e_behindFold (hK : ly_K I F) (hV : bm_V' F) {x : Int32} {a : Nat} (hx : x = nI a) (ha : a < 1000) : f_X5_behindFold [.inr (some 62), .inl x] (bm_mk n I) = some (some (.inl (nI (ly_bf F a))), bm_mk n I) := by
  subst hx
  have h6 := hV.2.2.2.2.2.2.1
  refine bm_g u_X5_behindFold ?_
  unfold ly_bf
  refine bm_le (F 6) 0 hK.2.2 rfl (by omega) (by decide) (fun z => ?_) (fun z => ?_)
  · exact bm_ok (by rw [if_neg (fun q => absurd q.1 (by omega))])
  · have e62 : I 62 6 = nI (F 6) := hK.2.2
    refine bm_ie (by rw [show bm_in (bm_mk n I) 62 6 = nI (F 6) from e62]; exact nI_ne0 z (by omega)) ?_
    refine bm_eq ((a + 1) % F 6) 0 (by
      show (nI a + 1) - (nI a + 1) / I 62 6 * I 62 6 = _
      rw [e62, nI_1]; exact pk_rem (by omega) z (by omega)) rfl (by have := Nat.mod_lt (a + 1) z; omega) (by decide) (fun q => ?_) (fun q => ?_)
    · exact bm_ok (by rw [if_pos ⟨z, q⟩]; exact nI_1 a)
    · exact bm_ok (by rw [if_neg (fun y => q y.2)])
theorem e_fits (hK : ly_K I F) (hV : bm_V' F) {x y : Int32} {a b : Nat} (hx : x = nI a) (hy : y = nI b) (ha : a < 1000) (hb : b < 1000) : f_X5_fits [.inr (some 62), .inl x, .inl y] (bm_mk n I) = some (some (.inl (bm_b (a + b ≤ F 3))), bm_mk n I) := by
  subst hx; subst hy
  have h3 := hV.2.2.2.1
  refine bm_g u_X5_fits ?_
  refine bm_lt (F 3) (a + b) hK.2.1 (nI_add a b) (by omega) (by omega) (fun z => ?_) (fun z => ?_)
  · exact bm_ok (bm_b0 (by omega)).symm
  · exact bm_ok (bm_b1 z).symm
/-- one name laid -/
theorem e_layName (hK : ly_K I F) (hV : bm_V' F) {W c k b : Nat} (hW : 8 ≤ W) (hc : c < 6) (hk : k < 8) {Y : ly_Y} {D : Nat → Prop} (hC : ly_C I Y D) (hY : ly_ok Y b) (hb : b < 1000) (hp1 : 1 ≤ Y.1) (hl : I 65 (8 * c + k) = nI (ly_nl F W c k)) {x : Int32} (hx : x = nI (8 * c + k)) :
    ∃ L, f_X5_layName [.inr (some 62), .inl x] (bm_mk n I) = some (none, bm_mk n L) ∧ ly_C L (ly_n F W c k Y) (fun j => D j ∨ j = 8 * c + k) ∧ ly_K L F ∧ ∀ q, q ≠ 62 → q ≠ 63 → q ≠ 64 → L q = I q := by
  have h1 := ly_nl_le hV hW hc hk
  have h3 := hV.2.2.2.1
  obtain ⟨y1, y2⟩ := hY
  have hbf := ly_bf_le (F := F) (a := Y.2.1)
  obtain ⟨c1, c2, c3, c4, c5, c6⟩ := hC
  obtain ⟨k1, k2, k3⟩ := id hK
  have put63 : ∀ (J : Nat → Nat → Int32) (w : Int32), f_X4_put [.inr (some 63), .inl x, .inl w] (bm_mk n J) = some (none, bm_mk n (va_up J 63 (upd (J 63) (8 * c + k) w))) := fun J w => e_put (a := 63) (N := 48) hx rfl rfl (by decide) rfl (by omega)
  have put64 : ∀ (J : Nat → Nat → Int32) (w : Int32), f_X4_put [.inr (some 64), .inl x, .inl w] (bm_mk n J) = some (none, bm_mk n (va_up J 64 (upd (J 64) (8 * c + k) w))) := fun J w => e_put (a := 64) (N := 48) hx rfl rfl (by decide) rfl (by omega)
  have getl : f_X4_get [.inr (some 65), .inl x] (bm_mk n I) = some (some (.inl (nI (ly_nl F W c k))), bm_mk n I) := (e_gk' (a := 65) (N := 48) hx rfl rfl (by decide) (by omega)).trans (bm_ok hl)
  suffices H : ∃ L, bm_rn z_X5_layName 1000 0 ([some (.inr (some 62)), some (.inl x), none, none], [], bm_mk n I) = some (none, bm_mk n L) ∧ ly_C L (ly_n F W c k Y) (fun j => D j ∨ j = 8 * c + k) ∧ ly_K L F ∧ ∀ q, q ≠ 62 → q ≠ 63 → q ≠ 64 → L q = I q by
    obtain ⟨L, e, r⟩ := H
    exact ⟨L, bm_g u_X5_layName e, r⟩
  by_cases q : F 3 < ly_bf F Y.2.1 + ly_nl F W c k
  · refine ⟨?L1, ?w1, ?a1, ?b1, ?d1⟩
    case w1 =>
      refine bm_bd getl ?_
      refine bm_bd (e_behindFold hK hV c2 (by omega)) ?_
      refine bm_bd (e_fits hK hV rfl rfl (by omega) (by omega)) (bm_bq (fun z => absurd z (by omega)) (fun _ => ?_))
      refine bm_bd (put63 _ _) ?_
      refine bm_bd (put64 _ _) ?_
      rfl
    case a1 =>
      unfold ly_n
      rw [if_pos q]
      refine ⟨?_, ?_, ?_, ?_, ?_, fun j hj hD => ⟨?_, ?_⟩⟩
      · show I 62 7 + 1 = nI (Y.1 + 1); rw [c1]; exact nI_1 _
      · show (0 : Int32) + nI (ly_nl F W c k) = nI (ly_nl F W c k); rw [bm_lit 0, nI_add, Nat.zero_add]
      · show I 62 9 + nI (ly_nl F W c k) = nI (Y.2.2.1 + ly_nl F W c k); rw [c3]; exact nI_add _ _
      · exact c4
      · show I 62 11 + 1 = nI (Y.2.2.2.2.1 + 1); rw [c5]; exact nI_1 _
      · show upd (I 63) (8 * c + k) (I 62 7 + 1 - 1) j = nI (bm_fs1 Y.2.2.2.2.2.1 (8 * c + k) Y.1 j)
        unfold upd bm_fs1
        by_cases e : j = 8 * c + k
        · rw [if_pos e, if_pos e, c1, nI_1, nI_pred]
        · rw [if_neg e, if_neg e]; exact (c6 j hj (hD.resolve_right e)).1
      · show upd (I 64) (8 * c + k) 0 j = nI (bm_fs1 Y.2.2.2.2.2.2 (8 * c + k) 0 j)
        unfold upd bm_fs1
        by_cases e : j = 8 * c + k
        · rw [if_pos e, if_pos e]; rfl
        · rw [if_neg e, if_neg e]; exact (c6 j hj (hD.resolve_right e)).2
    case b1 => exact ⟨k1, k2, k3⟩
    case d1 =>
      intro r r1 r2 r3
      exact (va_up_ne _ _ r1).trans ((va_up_ne _ _ r1).trans ((va_up_ne _ _ r3).trans ((va_up_ne _ _ r2).trans ((va_up_ne _ _ r1).trans (va_up_ne _ _ r1)))))
  · by_cases q2 : Y.2.1 < ly_bf F Y.2.1
    · refine ⟨?L2, ?w2, ?a2, ?b2, ?d2⟩
      case w2 =>
        refine bm_bd getl ?_
        refine bm_bd (e_behindFold hK hV c2 (by omega)) ?_
        refine bm_bd (e_fits hK hV rfl rfl (by omega) (by omega)) (bm_bq (fun _ => ?_) (fun z => absurd (show ly_bf F Y.2.1 + ly_nl F W c k ≤ F 3 by omega) z))
        refine bm_le (ly_bf F Y.2.1) Y.2.1 rfl c2 (by omega) (by omega) (fun z => absurd z (by omega)) (fun _ => ?_)
        refine bm_bd (put63 _ _) ?_
        refine bm_bd (put64 _ _) ?_
        rfl
      case a2 =>
        unfold ly_n
        rw [if_neg q, if_pos q2]
        refine ⟨c1, ?_, ?_, ?_, c5, fun j hj hD => ⟨?_, ?_⟩⟩
        · show nI (ly_bf F Y.2.1) + nI (ly_nl F W c k) = nI (ly_bf F Y.2.1 + ly_nl F W c k); exact nI_add _ _
        · show I 62 9 + nI (ly_nl F W c k) = nI (Y.2.2.1 + ly_nl F W c k); rw [c3]; exact nI_add _ _
        · show I 62 10 + 1 = nI (Y.2.2.2.1 + 1); rw [c4]; exact nI_1 _
        · show upd (I 63) (8 * c + k) (I 62 7 - 1) j = nI (bm_fs1 Y.2.2.2.2.2.1 (8 * c + k) (Y.1 - 1) j)
          unfold upd bm_fs1
          by_cases e : j = 8 * c + k
          · rw [if_pos e, if_pos e, c1, bm_lit 1]; exact pk_sub hp1
          · rw [if_neg e, if_neg e]; exact (c6 j hj (hD.resolve_right e)).1
        · show upd (I 64) (8 * c + k) (nI (ly_bf F Y.2.1)) j = nI (bm_fs1 Y.2.2.2.2.2.2 (8 * c + k) (ly_bf F Y.2.1) j)
          unfold upd bm_fs1
          by_cases e : j = 8 * c + k
          · rw [if_pos e, if_pos e]
          · rw [if_neg e, if_neg e]; exact (c6 j hj (hD.resolve_right e)).2
      case b2 => exact ⟨k1, k2, k3⟩
      case d2 =>
        intro r r1 r2 r3
        exact (va_up_ne _ _ r1).trans ((va_up_ne _ _ r1).trans ((va_up_ne _ _ r3).trans ((va_up_ne _ _ r2).trans (va_up_ne _ _ r1))))
    · refine ⟨?L3, ?w3, ?a3, ?b3, ?d3⟩
      case w3 =>
        refine bm_bd getl ?_
        refine bm_bd (e_behindFold hK hV c2 (by omega)) ?_
        refine bm_bd (e_fits hK hV rfl rfl (by omega) (by omega)) (bm_bq (fun _ => ?_) (fun z => absurd (show ly_bf F Y.2.1 + ly_nl F W c k ≤ F 3 by omega) z))
        refine bm_le (ly_bf F Y.2.1) Y.2.1 rfl c2 (by omega) (by omega) (fun _ => ?_) (fun z => absurd z (by omega))
        refine bm_bd (put63 _ _) ?_
        refine bm_bd (put64 _ _) ?_
        rfl
      case a3 =>
        unfold ly_n
        rw [if_neg q, if_neg q2]
        refine ⟨c1, ?_, ?_, c4, c5, fun j hj hD => ⟨?_, ?_⟩⟩
        · show nI (ly_bf F Y.2.1) + nI (ly_nl F W c k) = nI (ly_bf F Y.2.1 + ly_nl F W c k); exact nI_add _ _
        · show I 62 9 + nI (ly_nl F W c k) = nI (Y.2.2.1 + ly_nl F W c k); rw [c3]; exact nI_add _ _
        · show upd (I 63) (8 * c + k) (I 62 7 - 1) j = nI (bm_fs1 Y.2.2.2.2.2.1 (8 * c + k) (Y.1 - 1) j)
          unfold upd bm_fs1
          by_cases e : j = 8 * c + k
          · rw [if_pos e, if_pos e, c1, bm_lit 1]; exact pk_sub hp1
          · rw [if_neg e, if_neg e]; exact (c6 j hj (hD.resolve_right e)).1
        · show upd (I 64) (8 * c + k) (nI (ly_bf F Y.2.1)) j = nI (bm_fs1 Y.2.2.2.2.2.2 (8 * c + k) (ly_bf F Y.2.1) j)
          unfold upd bm_fs1
          by_cases e : j = 8 * c + k
          · rw [if_pos e, if_pos e]
          · rw [if_neg e, if_neg e]; exact (c6 j hj (hD.resolve_right e)).2
      case b3 => exact ⟨k1, k2, k3⟩
      case d3 =>
        intro r r1 r2 r3
        exact (va_up_ne _ _ r1).trans ((va_up_ne _ _ r1).trans ((va_up_ne _ _ r3).trans (va_up_ne _ _ r2)))
end LC
