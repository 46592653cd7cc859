set_option maxRecDepth 100000
/-! THE CELLS OF THE RUN, as they stand behind the two constructors -/
def K1 : List Nat := [8, 8, 8, 8, 6, 3, 8, 8, 8, 8, 8, 8, 8, 8, 8, 8, 2, 9, 3, 8, 8, 8, 8, 8, 8, 8, 8, 8, 8, 3, 8, 8, 8, 8, 8, 8, 8, 8, 8, 8, 3, 8, 8, 8, 8, 8, 8, 8, 8, 8, 8, 3, 8, 8, 8, 8, 8, 8, 8, 8, 8, 8, 4, 8, 8, 8, 8, 1, 8, 5, 8, 0, 8, 8, 8, 7, 8, 8, 8, 8, 8, 8, 8, 8]
def L1 (n : Nat) : List Nat := [6, 6, 6, n, 6, 12, 6, 6, 6, 6, 6, 6, 48, 48, 24, 6, 3, 4, 12, 6, 6, 6, 6, 6, 6, 48, 48, 24, 6, 12, 6, 6, 6, 6, 6, 6, 48, 48, 24, 6, 12, 6, 6, 6, 6, 6, 6, 48, 48, 24, 6, 12, 6, 6, 6, 6, 6, 6, 48, 48, 24, 6, 12, 48, 48, 48, 6, 1, 8, 2, 40, 7, 13, 13, 13, 19, 164, 656, 40, 48, 48, 20, 20, 20]
def R1 : List (List (Option Nat)) := [[], [], [], [], [some 5, some 16, some 62, some 67, some 69, some 71], [none, none, some 6, some 7, some 8, some 9, some 10, some 11, some 12, some 13, some 14, some 15], [], [], [], [], [], [], [], [], [], [], [some 17, none, none], [some 18, some 29, some 40, some 51], [none, none, some 19, some 20, some 21, some 22, some 23, some 24, some 25, some 26, some 27, some 28], [], [], [], [], [], [], [], [], [], [], [none, none, some 30, some 31, some 32, some 33, some 34, some 35, some 36, some 37, some 38, some 39], [], [], [], [], [], [], [], [], [], [], [none, none, some 41, some 42, some 43, some 44, some 45, some 46, some 47, some 48, some 49, some 50], [], [], [], [], [], [], [], [], [], [], [none, none, some 52, some 53, some 54, some 55, some 56, some 57, some 58, some 59, some 60, some 61], [], [], [], [], [], [], [], [], [], [], [some 63, some 64, some 65, some 66, none, none, none, none, none, none, none, none], [], [], [], [], [some 68], [], [some 70, none], [], [some 72, some 73, some 74, none, none, none, none], [], [], [], [some 76, some 77, none, some 78, none, some 79, some 80, none, none, none, none, none, none, none, none, none, some 81, some 82, some 83], [], [], [], [], [], [], [], []]
abbrev bm_mk (n : Nat) (I : Nat → Nat → Int32) : bm_M := (K1, L1 n, R1, I, 2177)

/-! WALKING THE SMALL MACHINE: a row a call, a row a branch -/
theorem bm_bd {f : bm_F} {al : List bm_V} {M : bm_M} {r0 : bm_R} {G : bm_R → Option bm_R} {res : Option bm_R} (h : f al M = some r0) (k : G r0 = res) : Option.bind (f al M) G = res := by
  rw [h]; exact k
theorem bm_if {c : Prop} {inst : Decidable c} {A B res : Option bm_R} (h1 : c → A = res) (h2 : ¬ c → B = res) : (@ite _ c inst A B) = res := by
  by_cases h : c
  · rw [if_pos h]; exact h1 h
  · rw [if_neg h]; exact h2 h
theorem bm_it {c : Prop} {inst : Decidable c} {A B res : Option bm_R} (h : c) (h1 : A = res) : (@ite _ c inst A B) = res := by rw [if_pos h]; exact h1
theorem bm_ie {c : Prop} {inst : Decidable c} {A B res : Option bm_R} (h : ¬ c) (h1 : B = res) : (@ite _ c inst A B) = res := by rw [if_neg h]; exact h1
theorem bm_lt {x y : Int32} {inst : Decidable (x < y)} {A B res : Option bm_R} (a b : Nat) (hx : x = nI a) (hy : y = nI b) (ha : a < 2 ^ 31) (hb : b < 2 ^ 31) (h1 : a < b → A = res) (h2 : b ≤ a → B = res) : (@ite _ (x < y) inst A B) = res := by
  subst hx; subst hy
  refine bm_if (fun h => h1 ((nI_ltI ha hb).mp h)) (fun h => h2 (Nat.le_of_not_lt fun z => h ((nI_ltI ha hb).mpr z)))
theorem bm_le {x y : Int32} {inst : Decidable (x ≤ y)} {A B res : Option bm_R} (a b : Nat) (hx : x = nI a) (hy : y = nI b) (ha : a < 2 ^ 31) (hb : b < 2 ^ 31) (h1 : a ≤ b → A = res) (h2 : b < a → B = res) : (@ite _ (x ≤ y) inst A B) = res := by
  subst hx; subst hy
  refine bm_if (fun h => h1 ((nI_leI ha hb).mp h)) (fun h => h2 (Nat.lt_of_not_le fun z => h ((nI_leI ha hb).mpr z)))
theorem bm_eq {x y : Int32} {inst : Decidable (x = y)} {A B res : Option bm_R} (a b : Nat) (hx : x = nI a) (hy : y = nI b) (ha : a < 2 ^ 31) (hb : b < 2 ^ 31) (h1 : a = b → A = res) (h2 : a ≠ b → B = res) : (@ite _ (x = y) inst A B) = res := by
  subst hx; subst hy
  refine bm_if (fun h => h1 ((nI_eq ha hb).mp h)) (fun h => h2 (fun z => h ((nI_eq ha hb).mpr z)))
/-- a truth as a number -/
def bm_b (p : Prop) [Decidable p] : Int32 := if p then 1 else 0
theorem bm_b01 (p : Prop) [Decidable p] : bm_b p = 0 ∨ bm_b p = 1 := by unfold bm_b; by_cases h : p <;> simp [h]
theorem bm_b1 {p : Prop} [Decidable p] (h : p) : bm_b p = 1 := if_pos h
theorem bm_b0 {p : Prop} [Decidable p] (h : ¬ p) : bm_b p = 0 := if_neg h
theorem bm_bq {p : Prop} [Decidable p] {inst : Decidable (bm_b p = 0)} {A B res : Option bm_R} (h1 : p → B = res) (h0 : ¬ p → A = res) : (@ite _ (bm_b p = 0) inst A B) = res := by
  by_cases h : p
  · rw [if_neg (by rw [bm_b1 h]; decide)]; exact h1 h
  · rw [if_pos (bm_b0 h)]; exact h0 h
theorem bm_cb {b : Bool} {A B res : Option bm_R} (h : b = true) (k : A = res) : (bif b then A else B) = res := by subst h; exact k
theorem bm_ok {v w : Int32} {M : bm_M} (h : v = w) : (some (some (.inl v), M) : Option bm_R) = some (some (.inl w), M) := by rw [h]
theorem bm_okM {v : Option bm_V} {M M' : bm_M} (h : M = M') : (some (v, M) : Option bm_R) = some (v, M') := by rw [h]
theorem bm_lit (k : Nat) : (OfNat.ofNat k : Int32) = nI k := rfl
-- the plain functions of the class
theorem e_within {M : bm_M} {a b c : Int32} : f_X7_within [.inl a, .inl b, .inl c] M = some (some (.inl (bm_b (b ≤ a ∧ a ≤ c))), M) := by
  rw [u_X7_within]
  refine bm_mt_run ?_ rfl (Nat.le_refl _) (Nat.le_refl _)
  refine bm_if (fun h => ?_) (fun h => ?_)
  · exact bm_ok (bm_b0 (fun z => absurd z.1 (Int32.not_le.mpr h))).symm
  · refine bm_if (fun h' => ?_) (fun h' => ?_)
    · exact bm_ok (bm_b0 (fun z => absurd z.2 (Int32.not_le.mpr h'))).symm
    · exact bm_ok (bm_b1 ⟨Int32.not_lt.mp h, Int32.not_lt.mp h'⟩).symm
/-- a row's number at any index -/
def bm_rg (f : Nat → Int32) (n : Nat) (x : Int32) : Int32 := if x < 0 ∨ nI n ≤ x then 0 else f x.toNatClampNeg
theorem bm_ix {n : Nat} {x : Int32} (hn : n < 2 ^ 31) (h0 : ¬ x < 0) (h1 : ¬ nI n ≤ x) : ∃ k, k < n ∧ x = nI k := by
  rcases pk_ix x hn with h | h | h
  · exact absurd h h0
  · exact absurd h h1
  · exact h
theorem bm_rg_in {f : Nat → Int32} {n k : Nat} (hn : n < 2 ^ 31) (h : k < n) : bm_rg f n (nI k) = f k := by
  unfold bm_rg
  rw [if_neg, nI_clamp (by omega)]
  rintro (q | q)
  · exact absurd q (nI_pos (by omega))
  · exact absurd ((nI_leI hn (by omega)).mp q) (by omega)
theorem e_get {M : bm_M} {a : Nat} {x : Int32} (hk : bm_kd M a = 8) (hl : bm_ln M a < 2 ^ 31) : f_X4_get [.inr (some a), .inl x] M = some (some (.inl (bm_rg (bm_in M a) (bm_ln M a) x)), M) := by
  rw [u_X4_get]
  refine bm_mt_run ?_ rfl (Nat.le_refl _) (Nat.le_refl _)
  unfold bm_rg
  refine bm_if (fun h => ?_) (fun h => ?_)
  · exact bm_ok (if_pos (Or.inl h)).symm
  · refine bm_cb (by show (Nat.beq (bm_kd M a) 8 || _) = true; rw [hk]; rfl) ?_
    refine bm_if (fun h' => ?_) (fun h' => ?_)
    · exact bm_ok (if_pos (Or.inr h')).symm
    · refine bm_cb (by show Nat.beq (bm_kd M a) 8 = true; rw [hk]; rfl) ?_
      obtain ⟨k, hk1, rfl⟩ := bm_ix hl h h'
      refine bm_ie (by rw [nI_clamp (by omega)]; rintro (q | q); exact h q; exact absurd hk1 (Nat.not_lt.mpr q)) ?_
      exact bm_ok (if_neg (fun q => q.elim h h')).symm
theorem e_get_in {M : bm_M} {a k : Nat} (hk : bm_kd M a = 8) (hl : bm_ln M a < 2 ^ 31) (h : k < bm_ln M a) : f_X4_get [.inr (some a), .inl (nI k)] M = some (some (.inl (bm_in M a k)), M) := by
  rw [e_get hk hl, bm_rg_in hl h]

theorem e_gk {n : Nat} {I : Nat → Nat → Int32} {a N k : Nat} (hk : K1.getD a 99 = 8) (hN : (L1 n).getD a 0 = N) (hN2 : N < 2 ^ 31) (h : k < N) : f_X4_get [.inr (some a), .inl (nI k)] (bm_mk n I) = some (some (.inl (I a k)), bm_mk n I) :=
  e_get_in (M := bm_mk n I) hk (by show (L1 n).getD a 0 < _; rw [hN]; exact hN2) (by show k < (L1 n).getD a 0; rw [hN]; exact h)
theorem e_gx {n : Nat} {I : Nat → Nat → Int32} {a N : Nat} {x : Int32} (hk : K1.getD a 99 = 8) (hN : (L1 n).getD a 0 = N) (hN2 : N < 2 ^ 31) : f_X4_get [.inr (some a), .inl x] (bm_mk n I) = some (some (.inl (bm_rg (I a) N x)), bm_mk n I) := by
  subst hN
  exact e_get (M := bm_mk n I) hk hN2
/-! A STATE OF THE POLL as plain numbers: F, by the places of the reference's row (contests, ballots, settings from 2, papers from 8, contests by six from 32, names by two from 68) -/
def bm_bs (i : Nat) : Nat := [0, 32, 33, 34, 35, 36, 37, 68, 69, 8, 2].getD i 0
def bm_sd (i : Nat) : Nat := [0, 6, 6, 6, 6, 6, 6, 2, 2, 1, 1].getD i 0
def bm_sz (i : Nat) : Nat := [0, 6, 6, 6, 6, 6, 6, 48, 48, 24, 6].getD i 0
/-- the poll at the cell h (its rows in the ten cells behind it) holds F -/
def bm_P (I : Nat → Nat → Int32) (h : Nat) (F : Nat → Nat) : Prop := I h 0 = nI (F 0) ∧ I h 1 = nI (F 1) ∧ ∀ i, 1 ≤ i → i ≤ 10 → ∀ k, k < bm_sz i → I (h + i) k = nI (F (bm_bs i + bm_sd i * k))
theorem bm_10 {P : Nat → Prop} (h1 : P 1) (h2 : P 2) (h3 : P 3) (h4 : P 4) (h5 : P 5) (h6 : P 6) (h7 : P 7) (h8 : P 8) (h9 : P 9) (h10 : P 10) : ∀ i, 1 ≤ i → i ≤ 10 → P i := by
  intro i a b
  rcases (show i = 1 ∨ i = 2 ∨ i = 3 ∨ i = 4 ∨ i = 5 ∨ i = 6 ∨ i = 7 ∨ i = 8 ∨ i = 9 ∨ i = 10 by omega) with rfl | rfl | rfl | rfl | rfl | rfl | rfl | rfl | rfl | rfl <;> assumption
theorem bm_P.at {I : Nat → Nat → Int32} {h : Nat} {F : Nat → Nat} (p : bm_P I h F) (i k : Nat) (hi : 1 ≤ i ∧ i ≤ 10) (hk : k < bm_sz i) : I (h + i) k = nI (F (bm_bs i + bm_sd i * k)) := p.2.2 i hi.1 hi.2 k hk
theorem bm_P.congr {I I' : Nat → Nat → Int32} {h : Nat} {F : Nat → Nat} (p : bm_P I h F) (e : ∀ i, i ≤ 10 → I' (h + i) = I (h + i)) : bm_P I' h F := by
  have e0 : I' h = I h := e 0 (by omega)
  exact ⟨by rw [e0]; exact p.1, by rw [e0]; exact p.2.1, fun i h1 h2 k hk => by rw [e i h2]; exact p.2.2 i h1 h2 k hk⟩
theorem bm_ix_inj : ∀ i, 1 ≤ i → i ≤ 10 → ∀ i', 1 ≤ i' → i' ≤ 10 → ∀ k k', k < bm_sz i → k' < bm_sz i' → bm_bs i + bm_sd i * k = bm_bs i' + bm_sd i' * k' → i = i' ∧ k = k' := by
  refine bm_10 ?_ ?_ ?_ ?_ ?_ ?_ ?_ ?_ ?_ ?_ <;> refine bm_10 ?_ ?_ ?_ ?_ ?_ ?_ ?_ ?_ ?_ ?_ <;> intro k k' h1 h2 h3 <;> simp [bm_sz] at h1 h2 <;> simp [bm_bs, bm_sd] at h3 <;> omega
theorem bm_ix_lo : ∀ i, 1 ≤ i → i ≤ 10 → ∀ k, k < bm_sz i → 2 ≤ bm_bs i + bm_sd i * k ∧ bm_bs i + bm_sd i * k < 164 := by
  refine bm_10 ?_ ?_ ?_ ?_ ?_ ?_ ?_ ?_ ?_ ?_ <;> intro k h1 <;> simp [bm_sz] at h1 <;> simp [bm_bs, bm_sd] <;> omega
/-- a row of the poll replaced -/
theorem bm_P.arr {I : Nat → Nat → Int32} {h : Nat} {F F' : Nat → Nat} {gg : Nat → Int32} (p : bm_P I h F) (i : Nat) (hi : 1 ≤ i ∧ i ≤ 10) (h1 : ∀ k, k < bm_sz i → gg k = nI (F' (bm_bs i + bm_sd i * k))) (h2 : ∀ j, 1 ≤ j → j ≤ 10 → j ≠ i → ∀ k, k < bm_sz j → F' (bm_bs j + bm_sd j * k) = F (bm_bs j + bm_sd j * k)) (h3 : F' 0 = F 0 ∧ F' 1 = F 1) : bm_P (va_up I (h + i) gg) h F' := by
  have e0 : va_up I (h + i) gg h = I h := va_up_ne _ _ (by omega)
  refine ⟨by rw [e0, h3.1]; exact p.1, by rw [e0, h3.2]; exact p.2.1, fun j j1 j2 k hk => ?_⟩
  by_cases e : j = i
  · subst e; rw [show va_up I (h + j) gg (h + j) = gg from if_pos rfl]; exact h1 k hk
  · rw [va_up_ne _ _ (show h + j ≠ h + i by omega), h2 j j1 j2 e k hk]; exact p.2.2 j j1 j2 k hk
/-- one place of one row -/
def bm_fs1 (F : Nat → Nat) (x v : Nat) : Nat → Nat := fun y => if y = x then v else F y
theorem bm_P.set {I : Nat → Nat → Int32} {h : Nat} {F : Nat → Nat} (p : bm_P I h F) (i k v : Nat) (hi : 1 ≤ i ∧ i ≤ 10) (hk : k < bm_sz i) {x : Int32} (hx : x = nI v) : bm_P (va_up I (h + i) (upd (I (h + i)) k x)) h (bm_fs1 F (bm_bs i + bm_sd i * k) v) := by
  have hlo := bm_ix_lo i hi.1 hi.2 k hk
  refine p.arr i hi (fun k' hk' => ?_) (fun j j1 j2 hj k' hk' => ?_) ⟨if_neg (by omega), if_neg (by omega)⟩
  · by_cases e : k' = k
    · subst e; rw [show upd (I (h + i)) k' x k' = x from if_pos rfl, hx]; congr 1; exact (if_pos rfl).symm
    · rw [show upd (I (h + i)) k x k' = I (h + i) k' from if_neg e, p.2.2 i hi.1 hi.2 k' hk']; congr 1
      refine (if_neg fun z => e ?_).symm
      exact (bm_ix_inj i hi.1 hi.2 i hi.1 hi.2 k' k hk' hk z).2
  · refine if_neg fun z => hj ?_
    exact (bm_ix_inj j j1 j2 i hi.1 hi.2 k' k hk' hk z).1
/-- a number of the poll itself -/
theorem bm_P.set0 {I : Nat → Nat → Int32} {h : Nat} {F : Nat → Nat} (p : bm_P I h F) (k v : Nat) (hk : k < 2) {x : Int32} (hx : x = nI v) : bm_P (va_up I h (upd (I h) k x)) h (bm_fs1 F k v) := by
  have e : ∀ i, 1 ≤ i → va_up I h (upd (I h) k x) (h + i) = I (h + i) := fun i hi => va_up_ne _ _ (by omega)
  have e0 : va_up I h (upd (I h) k x) h = upd (I h) k x := if_pos rfl
  refine ⟨?_, ?_, fun i i1 i2 k' hk' => ?_⟩
  · rw [e0]; unfold upd bm_fs1
    by_cases q : 0 = k
    · rw [if_pos q, if_pos q]; exact hx
    · rw [if_neg q, if_neg q]; exact p.1
  · rw [e0]; unfold upd bm_fs1
    by_cases q : 1 = k
    · rw [if_pos q, if_pos q]; exact hx
    · rw [if_neg q, if_neg q]; exact p.2.1
  · have hlo := bm_ix_lo i i1 i2 k' hk'
    rw [e i i1, p.2.2 i i1 i2 k' hk']; congr 1
    exact (if_neg (by omega)).symm
section PG
variable {n : Nat} {I : Nat → Nat → Int32} {F : Nat → Nat}
theorem e_titleOf (p : bm_P I 5 F) {c : Nat} (hc : c < 6) : f_X3_titleOf [.inr (some 5), .inl (nI c)] (bm_mk n I) = some (some (.inl (nI (F (32 + 6 * c)))), bm_mk n I) := by
  rw [u_X3_titleOf]
  refine bm_mt_run ?_ rfl (Nat.le_refl _) (Nat.le_refl _)
  refine bm_bd (e_gk (a := 6) (N := 6) rfl rfl (by decide) hc) ?_
  exact bm_ok (p.at 1 c (by decide) hc)
theorem e_seatsOf (p : bm_P I 5 F) {c : Nat} (hc : c < 6) : f_X3_seatsOf [.inr (some 5), .inl (nI c)] (bm_mk n I) = some (some (.inl (nI (F (33 + 6 * c)))), bm_mk n I) := by
  rw [u_X3_seatsOf]
  refine bm_mt_run ?_ rfl (Nat.le_refl _) (Nat.le_refl _)
  refine bm_bd (e_gk (a := 7) (N := 6) rfl rfl (by decide) hc) ?_
  exact bm_ok (p.at 2 c (by decide) hc)
theorem e_wayOf (p : bm_P I 5 F) {c : Nat} (hc : c < 6) : f_X3_wayOf [.inr (some 5), .inl (nI c)] (bm_mk n I) = some (some (.inl (nI (F (34 + 6 * c)))), bm_mk n I) := by
  rw [u_X3_wayOf]
  refine bm_mt_run ?_ rfl (Nat.le_refl _) (Nat.le_refl _)
  refine bm_bd (e_gk (a := 8) (N := 6) rfl rfl (by decide) hc) ?_
  exact bm_ok (p.at 3 c (by decide) hc)
theorem e_namesIn (p : bm_P I 5 F) {c : Nat} (hc : c < 6) : f_X3_namesIn [.inr (some 5), .inl (nI c)] (bm_mk n I) = some (some (.inl (nI (F (35 + 6 * c)))), bm_mk n I) := by
  rw [u_X3_namesIn]
  refine bm_mt_run ?_ rfl (Nat.le_refl _) (Nat.le_refl _)
  refine bm_bd (e_gk (a := 9) (N := 6) rfl rfl (by decide) hc) ?_
  exact bm_ok (p.at 4 c (by decide) hc)
theorem e_spoiltIn (p : bm_P I 5 F) {c : Nat} (hc : c < 6) : f_X3_spoiltIn [.inr (some 5), .inl (nI c)] (bm_mk n I) = some (some (.inl (nI (F (36 + 6 * c)))), bm_mk n I) := by
  rw [u_X3_spoiltIn]
  refine bm_mt_run ?_ rfl (Nat.le_refl _) (Nat.le_refl _)
  refine bm_bd (e_gk (a := 10) (N := 6) rfl rfl (by decide) hc) ?_
  exact bm_ok (p.at 5 c (by decide) hc)
theorem e_blankIn (p : bm_P I 5 F) {c : Nat} (hc : c < 6) : f_X3_blankIn [.inr (some 5), .inl (nI c)] (bm_mk n I) = some (some (.inl (nI (F (37 + 6 * c)))), bm_mk n I) := by
  rw [u_X3_blankIn]
  refine bm_mt_run ?_ rfl (Nat.le_refl _) (Nat.le_refl _)
  refine bm_bd (e_gk (a := 11) (N := 6) rfl rfl (by decide) hc) ?_
  exact bm_ok (p.at 6 c (by decide) hc)
theorem e_papersIn (p : bm_P I 5 F) {c : Nat} (hc : c < 24) : f_X3_papersIn [.inr (some 5), .inl (nI c)] (bm_mk n I) = some (some (.inl (nI (F (8 + 1 * c)))), bm_mk n I) := by
  rw [u_X3_papersIn]
  refine bm_mt_run ?_ rfl (Nat.le_refl _) (Nat.le_refl _)
  refine bm_bd (e_gk (a := 14) (N := 24) rfl rfl (by decide) hc) ?_
  exact bm_ok (p.at 9 c (by decide) hc)
theorem e_setting (p : bm_P I 5 F) {c : Nat} (hc : c < 6) : f_X3_setting [.inr (some 5), .inl (nI c)] (bm_mk n I) = some (some (.inl (nI (F (2 + 1 * c)))), bm_mk n I) := by
  rw [u_X3_setting]
  refine bm_mt_run ?_ rfl (Nat.le_refl _) (Nat.le_refl _)
  refine bm_bd (e_gk (a := 15) (N := 6) rfl rfl (by decide) hc) ?_
  exact bm_ok (p.at 10 c (by decide) hc)
theorem e_contests (p : bm_P I 5 F) : f_X3_contests [.inr (some 5)] (bm_mk n I) = some (some (.inl (nI (F 0))), bm_mk n I) := by
  rw [u_X3_contests]
  refine bm_mt_run ?_ rfl (Nat.le_refl _) (Nat.le_refl _)
  exact bm_ok p.1
theorem e_ballots (p : bm_P I 5 F) : f_X3_ballots [.inr (some 5)] (bm_mk n I) = some (some (.inl (nI (F 1))), bm_mk n I) := by
  rw [u_X3_ballots]
  refine bm_mt_run ?_ rfl (Nat.le_refl _) (Nat.le_refl _)
  exact bm_ok p.2.1
theorem e_slot {M : bm_M} {x y : Int32} : f_X3_slot [.inl x, .inl y] M = some (some (.inl (x * 8 + y)), M) := by
  rw [u_X3_slot]
  refine bm_mt_run ?_ rfl (Nat.le_refl _) (Nat.le_refl _)
  exact bm_ok rfl
theorem nI_slot (c k : Nat) : nI c * 8 + nI k = nI (8 * c + k) := by rw [bm_lit 8, pk_mul, nI_add, Nat.mul_comm]
theorem e_lengthOf (p : bm_P I 5 F) {c k : Nat} (hc : c < 6) (hk : k < 8) : f_X3_lengthOf [.inr (some 5), .inl (nI c), .inl (nI k)] (bm_mk n I) = some (some (.inl (nI (F (68 + 16 * c + 2 * k)))), bm_mk n I) := by
  rw [u_X3_lengthOf]
  refine bm_mt_run ?_ rfl (Nat.le_refl _) (Nat.le_refl _)
  refine bm_bd e_slot ?_
  rw [nI_slot]
  refine bm_bd (e_gk (a := 12) (N := 48) (k := 8 * c + k) rfl rfl (by decide) (by omega)) ?_
  exact bm_ok ((p.at 7 (8 * c + k) (by decide) (show 8 * c + k < 48 by omega)).trans (congrArg (fun z => nI (F z)) (show 68 + 2 * (8 * c + k) = _ by omega)))
theorem e_votesOf (p : bm_P I 5 F) {c k : Nat} (hc : c < 6) (hk : k < 8) : f_X3_votesOf [.inr (some 5), .inl (nI c), .inl (nI k)] (bm_mk n I) = some (some (.inl (nI (F (69 + 16 * c + 2 * k)))), bm_mk n I) := by
  rw [u_X3_votesOf]
  refine bm_mt_run ?_ rfl (Nat.le_refl _) (Nat.le_refl _)
  refine bm_bd e_slot ?_
  rw [nI_slot]
  refine bm_bd (e_gk (a := 13) (N := 48) (k := 8 * c + k) rfl rfl (by decide) (by omega)) ?_
  exact bm_ok ((p.at 8 (8 * c + k) (by decide) (show 8 * c + k < 48 by omega)).trans (congrArg (fun z => nI (F z)) (show 69 + 2 * (8 * c + k) = _ by omega)))
/-- an index below a small number -/
theorem bm_nle {x : Int32} {m : Nat} (hm : m < 2 ^ 31) : (0 ≤ x ∧ x ≤ nI m - 1) ↔ (0 ≤ x ∧ x < nI m) := by
  refine and_congr_right fun h0 => ?_
  obtain ⟨j, hj, rfl⟩ := nI_of (Int32.not_lt.mpr h0)
  cases m with
  | zero =>
    refine ⟨fun h => absurd h ?_, fun h => absurd h ?_⟩
    · rw [Int32.le_iff_toInt_le, nI_toInt hj, show (nI 0 - 1 : Int32).toInt = -1 from by decide]; omega
    · rw [nI_ltI hj (by decide)]; omega
  | succ m => rw [nI_pred, nI_leI hj (by omega), nI_ltI hj hm]; omega
theorem bm_k_of {x : Int32} {m : Nat} (hm : m < 2 ^ 31) (h : 0 ≤ x ∧ x < nI m) : ∃ k, k < m ∧ x = nI k := by
  obtain ⟨j, hj, rfl⟩ := nI_of (Int32.not_lt.mpr h.1)
  exact ⟨j, (nI_ltI hj hm).mp h.2, rfl⟩
theorem bm_of_k {k m : Nat} (hm : m < 2 ^ 31) (h : k < m) : 0 ≤ nI k ∧ nI k < nI m := ⟨nI_pos' (by omega), (nI_ltI (by omega) hm).mpr h⟩
theorem bm_bc {p q : Prop} [Decidable p] [Decidable q] (h : p ↔ q) : bm_b p = bm_b q := by
  unfold bm_b; by_cases hp : p
  · rw [if_pos hp, if_pos (h.mp hp)]
  · rw [if_neg hp, if_neg (fun z => hp (h.mpr z))]
theorem e_hasContest (p : bm_P I 5 F) (hF : F 0 < 2 ^ 31) {x : Int32} : f_X3_hasContest [.inr (some 5), .inl x] (bm_mk n I) = some (some (.inl (bm_b (0 ≤ x ∧ x < nI (F 0)))), bm_mk n I) := by
  rw [u_X3_hasContest]
  refine bm_mt_run ?_ rfl (Nat.le_refl _) (Nat.le_refl _)
  refine bm_bd e_within ?_
  refine bm_it (bm_b01 _) ?_
  refine bm_ok ?_
  have : I 5 0 = nI (F 0) := p.1
  rw [show bm_in (bm_mk n I) 5 0 = nI (F 0) from this]
  exact bm_bc (bm_nle hF)
theorem e_hasVersion (p : bm_P I 5 F) (hF : F 7 < 2 ^ 31) {x : Int32} : f_X3_hasVersion [.inr (some 5), .inl x] (bm_mk n I) = some (some (.inl (bm_b (0 ≤ x ∧ x < nI (F 7)))), bm_mk n I) := by
  rw [u_X3_hasVersion]
  refine bm_mt_run ?_ rfl (Nat.le_refl _) (Nat.le_refl _)
  refine bm_bd (e_setting p (c := 5) (by decide)) ?_
  refine bm_bd e_within ?_
  refine bm_it (bm_b01 _) ?_
  exact bm_ok (bm_bc (bm_nle hF))
end PG
