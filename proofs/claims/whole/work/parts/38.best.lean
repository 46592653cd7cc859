set_option maxRecDepth 100000
/-! bestWidth: the class -/
section BW
variable {n : Nat} {I : Nat → Nat → Int32} {F : Nat → Nat} {S : bm_S}
def bm_pw (F : Nat → Nat) (W : Nat) : Nat := ((ly_a F W 0 (F 0)).1 + F 2 - 1) / F 2
theorem e_byWidth (hV : bm_V' F) (p : bm_P I 5 F) {W : Nat} (hW : 8 ≤ W) (hW2 : W ≤ 40) {x : Int32} (hx : x = nI W) : ∃ L, f_X7_pagesByWidth [.inr (some 4), .inl x] (bm_mk n I) = some (some (.inl (nI (bm_pw F W))), bm_mk n L) ∧ ∀ q, (q < 62 ∨ 66 < q) → L q = I q := by
  subst hx
  obtain ⟨L, e, hL⟩ := e_lay (n := n) hV p (v := 0) hW hW2 (by decide)
  have hLL : ly_I L L F W 0 (F 0) := ⟨hL.1, hL.2.1, hL.2.2.1, hL.2.2.2.1, fun _ _ => rfl⟩
  have e2 := e_pages (n := n) hV hW hLL
  have key : bm_rn z_X7_pagesByWidth 1000 0 ([some (.inr (some 4)), some (.inl (nI W))], [], bm_mk n I) = some (some (.inl (nI (bm_pw F W))), bm_mk n L) := by
    refine bm_bd e ?_
    refine bm_bd e2 ?_
    rfl
  exact ⟨L, bm_g u_X7_pagesByWidth key, hL.2.2.2.2⟩
end BW
