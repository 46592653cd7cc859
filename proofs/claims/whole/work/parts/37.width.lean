set_option maxRecDepth 100000
/-! the layout at another width: the row s with another number at 4 -/
section WD
variable {F : Nat → Nat} {w : Nat}
theorem fs4 {y : Nat} (h : y ≠ 4) : bm_fs1 F 4 w y = F y := if_neg h
theorem fs4_sd {v c q : Nat} : bm_sd' (bm_fs1 F 4 w) v c q = bm_sd' F v c q := by
  unfold bm_sd'
  rw [fs4 (show 34 + 6 * c ≠ 4 by omega), fs4 (show 35 + 6 * c ≠ 4 by omega)]
theorem fs4_bf {a : Nat} : ly_bf (bm_fs1 F 4 w) a = ly_bf F a := by
  unfold ly_bf
  rw [fs4 (show 6 ≠ 4 by decide)]
theorem fs4_nl {W c k : Nat} : ly_nl (bm_fs1 F 4 w) W c k = ly_nl F W c k := by
  unfold ly_nl
  rw [fs4 (show 68 + 16 * c + 2 * k ≠ 4 by omega)]
theorem fs4_tl {W c : Nat} : ly_tl (bm_fs1 F 4 w) W c = ly_tl F W c := by
  unfold ly_tl
  rw [fs4 (show 32 + 6 * c ≠ 4 by omega), fs4 (show 5 ≠ 4 by decide)]
theorem fs4_n {W c k : Nat} {Y : ly_Y} : ly_n (bm_fs1 F 4 w) W c k Y = ly_n F W c k Y := by
  unfold ly_n
  rw [fs4_bf, fs4_nl, fs4 (show 3 ≠ 4 by decide)]
theorem fs4_t {W v c : Nat} {Y : ly_Y} : ly_t (bm_fs1 F 4 w) W v c Y = ly_t F W v c Y := by
  unfold ly_t
  rw [fs4_bf, fs4_tl, fs4_sd, fs4_nl, fs4 (show 3 ≠ 4 by decide)]
theorem fs4_m {W v c : Nat} {Y : ly_Y} : ∀ i, ly_m (bm_fs1 F 4 w) W v c Y i = ly_m F W v c Y i
  | 0 => rfl
  | i + 1 => by
    show ly_n (bm_fs1 F 4 w) W c (bm_sd' (bm_fs1 F 4 w) v c i) (ly_m (bm_fs1 F 4 w) W v c Y i) = ly_n F W c (bm_sd' F v c i) (ly_m F W v c Y i)
    rw [fs4_m i, fs4_n, fs4_sd]
theorem fs4_a {W v : Nat} : ∀ c, ly_a (bm_fs1 F 4 w) W v c = ly_a F W v c
  | 0 => rfl
  | c + 1 => by
    show ly_c (bm_fs1 F 4 w) W v c (ly_a (bm_fs1 F 4 w) W v c) = ly_c F W v c (ly_a F W v c)
    unfold ly_c
    rw [fs4_a c, fs4 (show 35 + 6 * c ≠ 4 by omega), fs4_t, fs4_m]
theorem fs4_V (hV : bm_V' F) (h1 : 8 ≤ w) (h2 : w ≤ 40) : bm_V' (bm_fs1 F 4 w) := by
  obtain ⟨a0, a1, a2, a3, a4, a5, a6, a7, a8, a9, a10⟩ := hV
  refine ⟨a0, a1, a2, a3, ⟨h1, h2⟩, a5, a6, a7, fun v hv => ?_, fun c hc => ?_, fun j hj => ?_⟩
  · rw [fs4 (show 8 + v ≠ 4 by omega), fs4 (show 7 ≠ 4 by decide)]; exact a8 v hv
  · rw [fs4 (show 32 + 6 * c ≠ 4 by omega), fs4 (show 33 + 6 * c ≠ 4 by omega), fs4 (show 34 + 6 * c ≠ 4 by omega), fs4 (show 35 + 6 * c ≠ 4 by omega)]; exact a9 c hc
  · rw [fs4 (show 68 + 2 * j ≠ 4 by omega)]; exact a10 j hj
end WD
