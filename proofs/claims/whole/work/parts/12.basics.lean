/-! THE CELLS OF THE RUN, as they stand behind the two constructors -/
def K1 : List Nat := [8, 8, 8, 8, 6, 3, 8, 8, 8, 8, 8, 8, 8, 8, 8, 8, 2, 9, 3, 8, 8, 8, 8, 8, 8, 8, 8, 8, 8, 3, 8, 8, 8, 8, 8, 8, 8, 8, 8, 8, 3, 8, 8, 8, 8, 8, 8, 8, 8, 8, 8, 3, 8, 8, 8, 8, 8, 8, 8, 8, 8, 8, 4, 8, 8, 8, 8, 1, 8, 5, 8, 0, 8, 8, 8, 7, 8, 8, 8, 8, 8, 8, 8, 8]
def L1 (n : Nat) : List Nat := [6, 6, 6, n, 6, 12, 6, 6, 6, 6, 6, 6, 48, 48, 24, 6, 3, 4, 12, 6, 6, 6, 6, 6, 6, 48, 48, 24, 6, 12, 6, 6, 6, 6, 6, 6, 48, 48, 24, 6, 12, 6, 6, 6, 6, 6, 6, 48, 48, 24, 6, 12, 6, 6, 6, 6, 6, 6, 48, 48, 24, 6, 12, 48, 48, 48, 6, 1, 8, 2, 40, 7, 13, 13, 13, 19, 164, 656, 40, 48, 48, 20, 20, 20]
def R1 : List (List (Option Nat)) := [[], [], [], [], [some 5, some 16, some 62, some 67, some 69, some 71], [none, none, some 6, some 7, some 8, some 9, some 10, some 11, some 12, some 13, some 14, some 15], [], [], [], [], [], [], [], [], [], [], [some 17, none, none], [some 18, some 29, some 40, some 51], [none, none, some 19, some 20, some 21, some 22, some 23, some 24, some 25, some 26, some 27, some 28], [], [], [], [], [], [], [], [], [], [], [none, none, some 30, some 31, some 32, some 33, some 34, some 35, some 36, some 37, some 38, some 39], [], [], [], [], [], [], [], [], [], [], [none, none, some 41, some 42, some 43, some 44, some 45, some 46, some 47, some 48, some 49, some 50], [], [], [], [], [], [], [], [], [], [], [none, none, some 52, some 53, some 54, some 55, some 56, some 57, some 58, some 59, some 60, some 61], [], [], [], [], [], [], [], [], [], [], [some 63, some 64, some 65, some 66, none, none, none, none, none, none, none, none], [], [], [], [], [some 68], [], [some 70, none], [], [some 72, some 73, some 74, none, none, none, none], [], [], [], [some 76, some 77, none, some 78, none, some 79, some 80, none, none, none, none, none, none, none, none, none, some 81, some 82, some 83], [], [], [], [], [], [], [], []]
abbrev bm_mk (n : Nat) (I : Nat → Nat → Int32) : bm_M := (K1, L1 n, R1, I, 2177)
/-! WALKING THE SMALL MACHINE: a row a call, a row a branch -/
theorem bm_bd {f : bm_F} {al : List bm_V} {M : bm_M} {r0 : bm_R} {G : bm_R → Option bm_R} {res : Option bm_R} (h : f al M = some r0) (k : G r0 = res) : Option.bind (f al M) G = res := by
  rw [h]; exact k
theorem bm_if {c : Prop} {inst : Decidable c} {A B res : Option bm_R} (h1 : c → A = res) (h2 : ¬ c → B = res) : (@ite _ c inst A B) = res := by
  by_cases h : c
  · rw [if_pos h]; exact h1 h
  · rw [if_neg h]; exact h2 h
theorem bm_it {c : Prop} {inst : Decidable c} {A B res : Option bm_R} (h : c) (h1 : A = res) : (@ite _ c inst A B) = res := by rw [if_pos h]; exact h1
theorem bm_ie {c : Prop} {inst : Decidable c} {A B res : Option bm_R} (h : ¬ c) (h1 : B = res) : (@ite _ c inst A B) = res := by rw [if_neg h]; exact h1
theorem bm_lt {x y : Int32} {inst : Decidable (x < y)} {A B res : Option bm_R} (a b : Nat) (hx : x = nI a) (hy : y = nI b) (ha : a < 2 ^ 31) (hb : b < 2 ^ 31) (h1 : a < b → A = res) (h2 : b ≤ a → B = res) : (@ite _ (x < y) inst A B) = res := by
  subst hx; subst hy
  refine bm_if (fun h => h1 ((nI_ltI ha hb).mp h)) (fun h => h2 (Nat.le_of_not_lt fun z => h ((nI_ltI ha hb).mpr z)))
theorem bm_le {x y : Int32} {inst : Decidable (x ≤ y)} {A B res : Option bm_R} (a b : Nat) (hx : x = nI a) (hy : y = nI b) (ha : a < 2 ^ 31) (hb : b < 2 ^ 31) (h1 : a ≤ b → A = res) (h2 : b < a → B = res) : (@ite _ (x ≤ y) inst A B) = res := by
  subst hx; subst hy
  refine bm_if (fun h => h1 ((nI_leI ha hb).mp h)) (fun h => h2 (Nat.lt_of_not_le fun z => h ((nI_leI ha hb).mpr z)))
theorem bm_eq {x y : Int32} {inst : Decidable (x = y)} {A B res : Option bm_R} (a b : Nat) (hx : x = nI a) (hy : y = nI b) (ha : a < 2 ^ 31) (hb : b < 2 ^ 31) (h1 : a = b → A = res) (h2 : a ≠ b → B = res) : (@ite _ (x = y) inst A B) = res := by
  subst hx; subst hy
  refine bm_if (fun h => h1 ((nI_eq ha hb).mp h)) (fun h => h2 (fun z => h ((nI_eq ha hb).mpr z)))
/-- a truth as a number -/
def bm_b (p : Prop) [Decidable p] : Int32 := if p then 1 else 0
theorem bm_b01 (p : Prop) [Decidable p] : bm_b p = 0 ∨ bm_b p = 1 := by unfold bm_b; by_cases h : p <;> simp [h]
theorem bm_b1 {p : Prop} [Decidable p] (h : p) : bm_b p = 1 := if_pos h
theorem bm_b0 {p : Prop} [Decidable p] (h : ¬ p) : bm_b p = 0 := if_neg h
theorem bm_bq {p : Prop} [Decidable p] {inst : Decidable (bm_b p = 0)} {A B res : Option bm_R} (h1 : p → B = res) (h0 : ¬ p → A = res) : (@ite _ (bm_b p = 0) inst A B) = res := by
  by_cases h : p
  · rw [if_neg (by rw [bm_b1 h]; decide)]; exact h1 h
  · rw [if_pos (bm_b0 h)]; exact h0 h
theorem bm_cb {b : Bool} {A B res : Option bm_R} (h : b = true) (k : A = res) : (bif b then A else B) = res := by subst h; exact k
theorem bm_ok {v w : Int32} {M : bm_M} (h : v = w) : (some (some (.inl v), M) : Option bm_R) = some (some (.inl w), M) := by rw [h]
theorem bm_okM {v : Option bm_V} {M M' : bm_M} (h : M = M') : (some (v, M) : Option bm_R) = some (v, M') := by rw [h]
theorem bm_lit (k : Nat) : (OfNat.ofNat k : Int32) = nI k := rfl
-- the plain functions of the class
theorem e_within {M : bm_M} {a b c : Int32} : f_X7_within [.inl a, .inl b, .inl c] M = some (some (.inl (bm_b (b ≤ a ∧ a ≤ c))), M) := by
  refine bm_mt_run ?_ rfl (Nat.le_refl _) (Nat.le_refl _)
  refine bm_if (fun h => ?_) (fun h => ?_)
  · exact bm_ok (bm_b0 (fun z => absurd z.1 (Int32.not_le.mpr h))).symm
  · refine bm_if (fun h' => ?_) (fun h' => ?_)
    · exact bm_ok (bm_b0 (fun z => absurd z.2 (Int32.not_le.mpr h'))).symm
    · exact bm_ok (bm_b1 ⟨Int32.not_lt.mp h, Int32.not_lt.mp h'⟩).symm
/-- a row's number at any index -/
def bm_rg (f : Nat → Int32) (n : Nat) (x : Int32) : Int32 := if x < 0 ∨ nI n ≤ x then 0 else f x.toNatClampNeg
theorem bm_ix {n : Nat} {x : Int32} (hn : n < 2 ^ 31) (h0 : ¬ x < 0) (h1 : ¬ nI n ≤ x) : ∃ k, k < n ∧ x = nI k := by
  rcases pk_ix x hn with h | h | h
  · exact absurd h h0
  · exact absurd h h1
  · exact h
theorem bm_rg_in {f : Nat → Int32} {n k : Nat} (hn : n < 2 ^ 31) (h : k < n) : bm_rg f n (nI k) = f k := by
  unfold bm_rg
  rw [if_neg, nI_clamp (by omega)]
  rintro (q | q)
  · exact absurd q (nI_pos (by omega))
  · exact absurd ((nI_leI hn (by omega)).mp q) (by omega)
theorem e_get {M : bm_M} {a : Nat} {x : Int32} (hk : bm_kd M a = 8) (hl : bm_ln M a < 2 ^ 31) : f_X4_get [.inr (some a), .inl x] M = some (some (.inl (bm_rg (bm_in M a) (bm_ln M a) x)), M) := by
  refine bm_mt_run ?_ rfl (Nat.le_refl _) (Nat.le_refl _)
  unfold bm_rg
  refine bm_if (fun h => ?_) (fun h => ?_)
  · exact bm_ok (if_pos (Or.inl h)).symm
  · refine bm_cb (by show (Nat.beq (bm_kd M a) 8 || _) = true; rw [hk]; rfl) ?_
    refine bm_if (fun h' => ?_) (fun h' => ?_)
    · exact bm_ok (if_pos (Or.inr h')).symm
    · refine bm_cb (by show Nat.beq (bm_kd M a) 8 = true; rw [hk]; rfl) ?_
      obtain ⟨k, hk1, rfl⟩ := bm_ix hl h h'
      refine bm_ie (by rw [nI_clamp (by omega)]; rintro (q | q); exact h q; exact absurd hk1 (Nat.not_lt.mpr q)) ?_
      exact bm_ok (if_neg (fun q => q.elim h h')).symm
theorem e_get_in {M : bm_M} {a k : Nat} (hk : bm_kd M a = 8) (hl : bm_ln M a < 2 ^ 31) (h : k < bm_ln M a) : f_X4_get [.inr (some a), .inl (nI k)] M = some (some (.inl (bm_in M a k)), M) := by
  rw [e_get hk hl, bm_rg_in hl h]
theorem t_titleOf {n : Nat} {I : Nat → Nat → Int32} {c : Nat} (hc : c < 6) : f_X3_titleOf [.inr (some 5), .inl (nI c)] (bm_mk n I) = some (some (.inl (I 6 c)), bm_mk n I) := by
  refine bm_mt_run ?_ rfl (Nat.le_refl _) (Nat.le_refl _)
  refine bm_bd (e_get_in rfl (by decide) hc) ?_
  exact bm_ok rfl
