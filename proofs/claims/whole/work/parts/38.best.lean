set_option maxRecDepth 100000
/-! bestWidth: the class -/
section BW
variable {n : Nat} {I : Nat → Nat → Int32} {F : Nat → Nat} {S : bm_S}
def bm_pw (F : Nat → Nat) (W : Nat) : Nat := ((ly_a F W 0 (F 0)).1 + F 2 - 1) / F 2
theorem e_byWidth (hV : bm_V' F) (p : bm_P I 5 F) {W : Nat} (hW : 8 ≤ W) (hW2 : W ≤ 40) {x : Int32} (hx : x = nI W) : ∃ L, f_X7_pagesByWidth [.inr (some 4), .inl x] (bm_mk n I) = some (some (.inl (nI (bm_pw F W))), bm_mk n L) ∧ ∀ q, (q < 62 ∨ 66 < q) → L q = I q := by
  subst hx
  obtain ⟨L, e, hL⟩ := e_lay (n := n) hV p (v := 0) hW hW2 (by decide)
  have hLL : ly_I L L F W 0 (F 0) := ⟨hL.1, hL.2.1, hL.2.2.1, hL.2.2.2.1, fun _ _ => rfl⟩
  have e2 := e_pages (n := n) hV hW hLL
  have key : bm_rn z_X7_pagesByWidth 1000 0 ([some (.inr (some 4)), some (.inl (nI W))], [], bm_mk n I) = some (some (.inl (nI (bm_pw F W))), bm_mk n L) := by
    refine bm_bd e ?_
    refine bm_bd e2 ?_
    rfl
  exact ⟨L, bm_g u_X7_pagesByWidth key, hL.2.2.2.2⟩
/-- the best width of 8 to 8 + d, and its pages -/
def bm_bb (F : Nat → Nat) : Nat → Nat × Nat
  | 0 => (8, bm_pw F 8)
  | d + 1 => if bm_pw F (9 + d) < (bm_bb F d).2 then (9 + d, bm_pw F (9 + d)) else bm_bb F d
theorem bm_pw_le (hV : bm_V' F) {W : Nat} (hW : 8 ≤ W) : bm_pw F W ≤ 100 := by
  have ok := (ly_a_ok hV hW (v := 0) (F 0) hV.1).1
  have h6 := hV.1
  have h2 := hV.2.2.1
  unfold bm_pw
  exact Nat.le_trans (Nat.div_le_self _ _) (by omega)
theorem bm_bb_le (hV : bm_V' F) : ∀ d, (bm_bb F d).2 ≤ 100
  | 0 => bm_pw_le hV (by decide)
  | d + 1 => by
    unfold bm_bb
    split
    · exact bm_pw_le hV (by omega)
    · exact bm_bb_le hV d
end BW
