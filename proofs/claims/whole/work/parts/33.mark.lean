set_option maxRecDepth 100000
/-! the name whose mark is at a place -/
section MK
variable {n : Nat} {I : Nat → Nat → Int32} {F : Nat → Nat} {S : bm_S}
noncomputable def bm_ff (M : Nat → Prop) : Nat → Nat → Option Nat
  | 0, _ => none
  | d + 1, i => @ite _ (M i) (Classical.propDecidable _) (some i) (bm_ff M d (i + 1))
theorem bm_ff1 {M : Nat → Prop} {d i : Nat} (h : M i) : bm_ff M (d + 1) i = some i := if_pos h
theorem bm_ff0 {M : Nat → Prop} {d i : Nat} (h : ¬ M i) : bm_ff M (d + 1) i = bm_ff M d (i + 1) := if_neg h
def bm_onI : Option Nat → Int32
  | some k => nI k
  | none => -1
/-- the mark of name k of contest c lies there -/
def ly_at (F : Nat → Nat) (Y : ly_Y) (pg cl ln : Int32) (c k : Nat) : Prop := nI (Y.2.2.2.2.2.1 (8 * c + k) / F 2) = pg ∧ nI (Y.2.2.2.2.2.1 (8 * c + k) % F 2) = cl ∧ nI (Y.2.2.2.2.2.2 (8 * c + k)) = ln
theorem e_mark_loop (hV : bm_V' F) {W v : Nat} (hW : 8 ≤ W) (h : ly_I I I F W v (F 0)) {pg cl ln : Int32} {c : Nat} (hc : c < F 0) : ∀ (d i : Nat) (x : Int32) (o : Nat), x = nI i → i + d = F (35 + 6 * c) → d < o →
    bm_rn z_X5_nameWithMarkAt o 3 ([some (.inr (some 62)), some (.inl (nI c)), some (.inl pg), some (.inl cl), some (.inl ln), some (.inl x)], [], bm_mk n I) = some (some (.inl (bm_onI (bm_ff (ly_at F (ly_a F W v (F 0)) pg cl ln c) d i))), bm_mk n I) := by
  have h6 := hV.1
  have h2 := hV.2.2.1
  have h8 := (hV.2.2.2.2.2.2.2.2.2.1 c (by omega)).2.2.2
  have ok := (ly_a_ok hV hW (v := v) (F 0) hV.1).1
  have e66 : f_X4_get [.inr (some 66), .inl (nI c)] (bm_mk n I) = some (some (.inl (nI (F (35 + 6 * c)))), bm_mk n I) := (e_gk (a := 66) (N := 6) rfl rfl (by decide) (by omega)).trans (bm_ok (h.2.2.2.1 c hc))
  intro d
  induction d with
  | zero =>
    intro i x o hx hi ho
    obtain ⟨o, rfl⟩ : ∃ q, o = q + 1 := ⟨o - 1, by omega⟩
    subst hx
    refine bm_bd e66 ?_
    refine bm_le (F (35 + 6 * c)) i rfl rfl (by omega) (by omega) (fun _ => ?_) (fun z => absurd z (by omega))
    rfl
  | succ d ih =>
    intro i x o hx hi ho
    obtain ⟨o, rfl⟩ : ∃ q, o = q + 1 := ⟨o - 1, by omega⟩
    subst hx
    have cb := ly_a_cb (F := F) (W := W) (v := v) (F 0) (8 * c + i)
    have hd := h.2.1.2.2.2.2.2 (8 * c + i) (by omega) (ly_D_in hc (show i < F (35 + 6 * c) by omega) (by omega))
    have e1 := e_pageOf (n := n) (show c < 6 by omega) (show i < 8 by omega) h.1.1 (by omega) (by omega) hd.1 (by omega)
    have e2 := e_columnOnPage (n := n) (show c < 6 by omega) (show i < 8 by omega) h.1.1 (by omega) (by omega) hd.1 (by omega)
    have e3 := (e_lineOf (n := n) (I := I) (show c < 6 by omega) (show i < 8 by omega)).trans (bm_ok hd.2)
    have e := ih (i + 1) (nI i + 1) o (nI_1 i) (by omega) (by omega)
    have no : ∀ {q : ¬ ly_at F (ly_a F W v (F 0)) pg cl ln c i}, bm_rn z_X5_nameWithMarkAt o 3 ([some (.inr (some 62)), some (.inl (nI c)), some (.inl pg), some (.inl cl), some (.inl ln), some (.inl (nI i + 1))], [], bm_mk n I) = some (some (.inl (bm_onI (bm_ff (ly_at F (ly_a F W v (F 0)) pg cl ln c) (d + 1) i))), bm_mk n I) := fun {q} => e.trans (bm_ok (congrArg bm_onI (bm_ff0 q).symm))
    refine bm_bd e66 ?_
    refine bm_le (F (35 + 6 * c)) i rfl rfl (by omega) (by omega) (fun z => absurd z (by omega)) (fun _ => ?_)
    refine bm_bd e1 ?_
    refine bm_if (fun q1 => ?_) (fun q1 => ?_)
    · refine bm_bd e2 ?_
      refine bm_if (fun q2 => ?_) (fun q2 => ?_)
      · refine bm_bd e3 ?_
        refine bm_if (fun q3 => ?_) (fun q3 => ?_)
        · exact bm_ok (congrArg bm_onI (bm_ff1 (M := ly_at F (ly_a F W v (F 0)) pg cl ln c) (d := d) ⟨q1, q2, q3⟩).symm)
        · exact no (q := fun z => q3 z.2.2)
      · exact no (q := fun z => q2 z.2.1)
    · exact no (q := fun z => q1 z.1)
theorem e_mark (hV : bm_V' F) {W v : Nat} (hW : 8 ≤ W) (h : ly_I I I F W v (F 0)) {pg cl ln : Int32} {c : Nat} (hc : c < F 0) :
    f_X5_nameWithMarkAt [.inr (some 62), .inl (nI c), .inl pg, .inl cl, .inl ln] (bm_mk n I) = some (some (.inl (bm_onI (bm_ff (ly_at F (ly_a F W v (F 0)) pg cl ln c) (F (35 + 6 * c)) 0))), bm_mk n I) := by
  have h8 := (hV.2.2.2.2.2.2.2.2.2.1 c (by have := hV.1; omega)).2.2.2
  exact bm_g u_X5_nameWithMarkAt (e_mark_loop hV hW h hc (F (35 + 6 * c)) 0 0 1000 rfl (by omega) (by omega))
/-! columns, strictly -/
def ly_cs (Y : ly_Y) : Prop := ∀ j, Y.2.2.2.2.2.1 j ≤ Y.1 - 1
theorem ly_n_cs {W c k : Nat} {Y : ly_Y} (h : ly_cs Y) : ly_cs (ly_n F W c k Y) := by
  intro j
  have := h j
  unfold ly_n
  split
  · show bm_fs1 Y.2.2.2.2.2.1 (8 * c + k) Y.1 j ≤ Y.1 + 1 - 1
    unfold bm_fs1
    split <;> omega
  · show bm_fs1 Y.2.2.2.2.2.1 (8 * c + k) (Y.1 - 1) j ≤ Y.1 - 1
    unfold bm_fs1
    split <;> omega
theorem ly_t_cs {W v c : Nat} {Y : ly_Y} (h : ly_cs Y) : ly_cs (ly_t F W v c Y) := by
  intro j
  have := h j
  unfold ly_t
  split
  · show Y.2.2.2.2.2.1 j ≤ Y.1 + 1 - 1; omega
  · exact this
theorem ly_m_cs {W v c : Nat} {Y : ly_Y} (h : ly_cs Y) : ∀ i, ly_cs (ly_m F W v c Y i)
  | 0 => h
  | i + 1 => ly_n_cs (ly_m_cs h i)
theorem ly_a_cs {W v : Nat} : ∀ c, ly_cs (ly_a F W v c)
  | 0 => fun _ => Nat.le_refl _
  | c + 1 => by
    show ly_cs (ly_c F W v c (ly_a F W v c))
    unfold ly_c
    split
    · exact ly_a_cs c
    · exact ly_m_cs (ly_t_cs (ly_a_cs c)) _
theorem ly_a_mn {W v : Nat} : ∀ c, (∃ q, q < c ∧ F (35 + 6 * q) ≠ 0) → 1 ≤ (ly_a F W v c).1
  | 0, h => by obtain ⟨q, hq, _⟩ := h; omega
  | c + 1, h => by
    show 1 ≤ (ly_c F W v c (ly_a F W v c)).1
    unfold ly_c
    split
    · rename_i m0
      refine ly_a_mn c ?_
      obtain ⟨q, hq, e⟩ := h
      refine ⟨q, ?_, e⟩
      by_cases z : q = c
      · subst z; exact absurd m0 e
      · omega
    · refine ly_m_pos ?_ _
      unfold ly_t
      split
      · show 1 ≤ _ + 1; omega
      · rename_i q
        show 1 ≤ (ly_a F W v c).1
        omega
end MK
