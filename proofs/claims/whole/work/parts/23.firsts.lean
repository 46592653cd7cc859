set_option maxRecDepth 100000
/-! HOW OFTEN A NAME IS FIRST: the words, the class, the reference -/
/-- the weight of the versions below i in which a name is first -/
def bm_hf (F : Nat → Nat) (c : Nat) (g : Nat → Nat) (k : Nat) : Nat → Nat := sumN (fun v => if F (35 + 6 * c) ≠ 0 ∧ bm_sd' F v c 0 = k then g v else 0)
theorem bm_hf1 {F : Nat → Nat} {c k i : Nat} {g : Nat → Nat} (h : F (35 + 6 * c) ≠ 0 ∧ bm_sd' F i c 0 = k) : bm_hf F c g k (i + 1) = bm_hf F c g k i + g i := by
  show bm_hf F c g k i + (if F (35 + 6 * c) ≠ 0 ∧ bm_sd' F i c 0 = k then g i else 0) = _
  rw [if_pos h]
theorem bm_hf0 {F : Nat → Nat} {c k i : Nat} {g : Nat → Nat} (h : ¬ (F (35 + 6 * c) ≠ 0 ∧ bm_sd' F i c 0 = k)) : bm_hf F c g k (i + 1) = bm_hf F c g k i := by
  show bm_hf F c g k i + (if F (35 + 6 * c) ≠ 0 ∧ bm_sd' F i c 0 = k then g i else 0) = _
  rw [if_neg h]; rfl
theorem bm_hf_le {F : Nat → Nat} {c k : Nat} {g : Nat → Nat} {N : Nat} (hg : ∀ v, v < N → g v ≤ 9999) : ∀ i, i ≤ N → bm_hf F c g k i ≤ i * 9999
  | 0, _ => Nat.le_refl _
  | i + 1, h => by
    have := bm_hf_le (F := F) (c := c) (k := k) hg i (by omega)
    have := hg i (by omega)
    by_cases q : F (35 + 6 * c) ≠ 0 ∧ bm_sd' F i c 0 = k
    · rw [bm_hf1 q]; omega
    · rw [bm_hf0 q]; omega
def mxN (t : Nat → Nat) : Nat → Nat
  | 0 => t 0
  | k + 1 => max (mxN t k) (t (k + 1))
def mnN (t : Nat → Nat) : Nat → Nat
  | 0 => t 0
  | k + 1 => min (mnN t k) (t (k + 1))
theorem mxN_ge {t : Nat → Nat} : ∀ {m k : Nat}, k ≤ m → t k ≤ mxN t m
  | 0, k, h => by have : k = 0 := by omega
                  subst this; exact Nat.le_refl _
  | m + 1, k, h => by
    unfold mxN
    by_cases e : k = m + 1
    · subst e; omega
    · have := mxN_ge (t := t) (m := m) (k := k) (by omega); omega
theorem mnN_le {t : Nat → Nat} : ∀ {m k : Nat}, k ≤ m → mnN t m ≤ t k
  | 0, k, h => by have : k = 0 := by omega
                  subst this; exact Nat.le_refl _
  | m + 1, k, h => by
    unfold mnN
    by_cases e : k = m + 1
    · subst e; omega
    · have := mnN_le (t := t) (m := m) (k := k) (by omega); omega
theorem mxN_bd {t : Nat → Nat} {b : Nat} : ∀ {m : Nat}, (∀ k, k ≤ m → t k ≤ b) → mxN t m ≤ b
  | 0, h => h 0 (Nat.le_refl _)
  | m + 1, h => by
    unfold mxN
    have := mxN_bd (t := t) (b := b) (m := m) (fun k hk => h k (by omega))
    have := h (m + 1) (Nat.le_refl _)
    omega
theorem mnN_bd {t : Nat → Nat} {b : Nat} : ∀ {m : Nat}, (∀ k, k ≤ m → b ≤ t k) → b ≤ mnN t m
  | 0, h => h 0 (Nat.le_refl _)
  | m + 1, h => by
    unfold mnN
    have := mnN_bd (t := t) (b := b) (m := m) (fun k hk => h k (by omega))
    have := h (m + 1) (Nat.le_refl _)
    omega
theorem bm_mxI {a b : Nat} (ha : a < 2 ^ 31) (hb : b < 2 ^ 31) : (if nI a < nI b then nI b else nI a) = nI (max a b) := by
  by_cases h : a < b
  · rw [if_pos ((nI_ltI ha hb).mpr h)]; exact congrArg nI (by omega)
  · rw [if_neg (fun z => h ((nI_ltI ha hb).mp z))]; exact congrArg nI (by omega)
theorem bm_mnI {a b : Nat} (ha : a < 2 ^ 31) (hb : b < 2 ^ 31) : (if nI b < nI a then nI b else nI a) = nI (min a b) := by
  by_cases h : b < a
  · rw [if_pos ((nI_ltI hb ha).mpr h)]; exact congrArg nI (by omega)
  · rw [if_neg (fun z => h ((nI_ltI hb ha).mp z))]; exact congrArg nI (by omega)
section FI
variable {n : Nat} {I : Nat → Nat → Int32} {F : Nat → Nat} {S : bm_S}
/-- one version more: the row of the times -/
theorem e_fstep (p : bm_P I 5 F) (hV : bm_V' F) {c i w : Nat} (hc : c < F 0) {g : Nat → Nat} {J : Nat → Nat → Int32} (h1 : ∀ k, k ≠ 68 → J k = I k) (h2 : ∀ k, k < 8 → J 68 k = nI (bm_hf F c g k i)) (hw : w = g i) :
    ∃ L, f_X4_add [.inr (some 68), .inl (bm_na F i c 0), .inl (nI w)] (bm_mk n J) = some (none, bm_mk n L) ∧ (∀ k, k ≠ 68 → L k = I k) ∧ ∀ k, k < 8 → L 68 k = nI (bm_hf F c g k (i + 1)) := by
  subst hw
  have h6 := hV.1
  have h8 := (hV.2.2.2.2.2.2.2.2.2.1 c (by omega)).2.2.2
  by_cases m0 : F (35 + 6 * c) = 0
  · have e : bm_na F i c 0 = -1 := if_neg (fun q => by
      rw [m0] at q
      exact absurd q.2.2 (by decide))
    rw [e]
    exact ⟨J, e_add_out (a := 68) (N := 8) (by decide) rfl rfl (by decide), h1, fun k hk => by rw [bm_hf0 (fun z => z.1 m0)]; exact h2 k hk⟩
  · have e : bm_na F i c 0 = nI (bm_sd' F i c 0) := bm_na_in hV hc (q := 0) (by omega)
    have hl : bm_sd' F i c 0 < F (35 + 6 * c) := bm_sd_lt (by omega)
    rw [e]
    refine ⟨_, e_add (a := 68) (N := 8) rfl rfl rfl (by decide) rfl (by omega), fun k hk => (va_up_ne _ _ hk).trans (h1 k hk), fun k hk => ?_⟩
    show upd (J 68) (bm_sd' F i c 0) (J 68 (bm_sd' F i c 0) + nI (g i)) k = _
    unfold upd
    by_cases q : k = bm_sd' F i c 0
    · subst q
      rw [if_pos rfl, bm_hf1 ⟨m0, rfl⟩, h2 _ (by omega)]; exact nI_add _ _
    · rw [if_neg q, bm_hf0 (fun z => q z.2.symm)]; exact h2 k hk
theorem e_onPapers_loop (p : bm_P I 5 F) (hV : bm_V' F) {c : Nat} (hc : c < F 0) : ∀ (d i : Nat) (x : Int32) (J : Nat → Nat → Int32) (o : Nat), x = nI i → (∀ k, k ≠ 68 → J k = I k) → (∀ k, k < 8 → J 68 k = nI (bm_hf F c (fun v => F (8 + v)) k i)) → i + d = F 7 → d < o →
    ∃ L, bm_rn z_X1_onPapers o 10 ([some (.inr (some 67)), some (.inr (some 5)), some (.inl (nI c)), some (.inl x)], [], bm_mk n J) = some (none, bm_mk n L) ∧ (∀ k, k ≠ 68 → L k = I k) ∧ ∀ k, k < 8 → L 68 k = nI (bm_hf F c (fun v => F (8 + v)) k (F 7)) := by
  have h6 := hV.1
  have h7 := hV.2.2.2.2.2.2.2.1
  intro d
  induction d with
  | zero =>
    intro i x J o hx h1 h2 hi ho
    obtain ⟨o, rfl⟩ : ∃ q, o = q + 1 := ⟨o - 1, by omega⟩
    subst hx
    have pJ : bm_P J 5 F := p.congr (fun j hj => h1 _ (by omega))
    refine ⟨J, ?_, h1, by rw [← show i = F 7 by omega]; exact h2⟩
    refine bm_bd (e_setting pJ (c := 5) (by decide)) ?_
    refine bm_le (F 7) i rfl rfl (by omega) (by omega) (fun _ => ?_) (fun z => absurd z (by omega))
    rfl
  | succ d ih =>
    intro i x J o hx h1 h2 hi ho
    obtain ⟨o, rfl⟩ : ∃ q, o = q + 1 := ⟨o - 1, by omega⟩
    subst hx
    have pJ : bm_P J 5 F := p.congr (fun j hj => h1 _ (by omega))
    obtain ⟨A, eA, a1, a2⟩ := e_fstep (n := n) p hV hc (i := i) (w := F (8 + 1 * i)) h1 h2 (show F (8 + 1 * i) = F (8 + i) from congrArg F (by omega))
    obtain ⟨L, e, f⟩ := ih (i + 1) _ A o (nI_1 i) a1 a2 (by omega) (by omega)
    refine ⟨L, ?_, f⟩
    refine bm_bd (e_setting pJ (c := 5) (by decide)) ?_
    refine bm_le (F 7) i rfl rfl (by omega) (by omega) (fun z => absurd z (by omega)) (fun _ => ?_)
    refine bm_bd (e_nameAt pJ hV (by omega) (by omega)) ?_
    refine bm_bd (e_papersIn pJ (by omega)) ?_
    refine bm_bd eA ?_
    exact e
theorem e_onPapers (p : bm_P I 5 F) (hV : bm_V' F) {c : Nat} (hc : c < F 0) : ∃ L, f_X1_onPapers [.inr (some 67), .inr (some 5), .inl (nI c)] (bm_mk n I) = some (none, bm_mk n L) ∧ (∀ k, k ≠ 68 → L k = I k) ∧ ∀ k, k < 8 → L 68 k = nI (bm_hf F c (fun v => F (8 + v)) k (F 7)) := by
  have h7 := hV.2.2.2.2.2.2.2.1
  have f1 : ∀ k, k ≠ 68 → (va_up I 68 (bm_wp (I 68) 0 8)) k = I k := fun k hk => va_up_ne _ _ hk
  obtain ⟨L, e, f⟩ := e_onPapers_loop (n := n) p hV hc (F 7) 0 0 (va_up I 68 (bm_wp (I 68) 0 8)) 1000 rfl f1 (fun k hk => if_pos ⟨Nat.zero_le _, hk⟩) (by omega) (by omega)
  refine ⟨L, bm_g u_X1_onPapers ?_, f⟩
  refine bm_bd (e_wipe (a := 68) (N := 8) (s := 0) rfl rfl rfl (by decide) rfl (by decide)) ?_
  exact e
theorem e_inVersions_loop (p : bm_P I 5 F) (hV : bm_V' F) {c V : Nat} (hc : c < F 0) (hVv : V < 900) : ∀ (d i : Nat) (x : Int32) (J : Nat → Nat → Int32) (o : Nat), x = nI i → (∀ k, k ≠ 68 → J k = I k) → (∀ k, k < 8 → J 68 k = nI (bm_hf F c (fun _ => 1) k i)) → i + d = V → d < o →
    ∃ L, bm_rn z_X1_inVersions o 11 ([some (.inr (some 67)), some (.inr (some 5)), some (.inl (nI c)), some (.inl (nI V)), some (.inl x)], [], bm_mk n J) = some (none, bm_mk n L) ∧ (∀ k, k ≠ 68 → L k = I k) ∧ ∀ k, k < 8 → L 68 k = nI (bm_hf F c (fun _ => 1) k V) := by
  have h6 := hV.1
  intro d
  induction d with
  | zero =>
    intro i x J o hx h1 h2 hi ho
    obtain ⟨o, rfl⟩ : ∃ q, o = q + 1 := ⟨o - 1, by omega⟩
    subst hx
    have hi : i = V := by omega
    subst hi
    exact ⟨J, bm_it (Int32.le_refl _) rfl, h1, h2⟩
  | succ d ih =>
    intro i x J o hx h1 h2 hi ho
    obtain ⟨o, rfl⟩ : ∃ q, o = q + 1 := ⟨o - 1, by omega⟩
    subst hx
    have pJ : bm_P J 5 F := p.congr (fun j hj => h1 _ (by omega))
    obtain ⟨A, eA, a1, a2⟩ := e_fstep (n := n) p hV hc (i := i) (w := 1) (g := fun _ => 1) h1 h2 rfl
    obtain ⟨L, e, f⟩ := ih (i + 1) _ A o (nI_1 i) a1 a2 (by omega) (by omega)
    refine ⟨L, ?_, f⟩
    refine bm_ie (fun z => absurd ((nI_leI (by omega) (by omega)).mp z) (by omega)) ?_
    refine bm_bd (e_nameAt pJ hV (by omega) (by omega)) ?_
    refine bm_bd eA ?_
    exact e
theorem e_inVersions (p : bm_P I 5 F) (hV : bm_V' F) {c V : Nat} (hc : c < F 0) (hVv : V < 900) : ∃ L, f_X1_inVersions [.inr (some 67), .inr (some 5), .inl (nI c), .inl (nI V)] (bm_mk n I) = some (none, bm_mk n L) ∧ (∀ k, k ≠ 68 → L k = I k) ∧ ∀ k, k < 8 → L 68 k = nI (bm_hf F c (fun _ => 1) k V) := by
  have f1 : ∀ k, k ≠ 68 → (va_up I 68 (bm_wp (I 68) 0 8)) k = I k := fun k hk => va_up_ne _ _ hk
  obtain ⟨L, e, f⟩ := e_inVersions_loop (n := n) p hV hc hVv V 0 0 (va_up I 68 (bm_wp (I 68) 0 8)) 1000 rfl f1 (fun k hk => if_pos ⟨Nat.zero_le _, hk⟩) (by omega) (by omega)
  refine ⟨L, bm_g u_X1_inVersions ?_, f⟩
  refine bm_bd (e_wipe (a := 68) (N := 8) (s := 0) rfl rfl rfl (by decide) rfl (by decide)) ?_
  exact e
theorem e_timesOf {x : Int32} {k : Nat} (hx : x = nI k) (hk : k < 8) : f_X1_timesOf [.inr (some 67), .inl x] (bm_mk n I) = some (some (.inl (I 68 k)), bm_mk n I) := by
  refine bm_g u_X1_timesOf ?_
  exact bm_bd (e_gk' (a := 68) (N := 8) hx rfl rfl (by decide) hk) rfl
theorem e_difference_loop {t : Nat → Nat} {m : Nat} (hm : m ≤ 8) (ht : ∀ k, k < 8 → I 68 k = nI (t k)) (hb : ∀ k, k < 8 → t k < 2 ^ 30) : ∀ (d i : Nat) (x a b : Int32) (o : Nat), x = nI (i + 1) → a = nI (mxN t i) → b = nI (mnN t i) → i + 1 + d = max 1 m → d < o →
    bm_rn z_X1_difference o 11 ([some (.inr (some 67)), some (.inl (nI m)), some (.inl a), some (.inl b), some (.inl x)], [], bm_mk n I) = some (some (.inl (nI (mxN t (m - 1) - mnN t (m - 1)))), bm_mk n I) := by
  intro d
  induction d with
  | zero =>
    intro i x a b o hx ha hb' hi ho
    obtain ⟨o, rfl⟩ : ∃ q, o = q + 1 := ⟨o - 1, by omega⟩
    subst hx
    refine bm_le m (i + 1) rfl rfl (by omega) (by omega) (fun _ => ?_) (fun z => absurd z (by omega))
    have e : i = m - 1 := by omega
    subst e
    refine bm_ok ?_
    show a - b = _
    rw [ha, hb']
    have h1 := mnN_le (t := t) (m := m - 1) (k := 0) (Nat.zero_le _)
    have h2 := mxN_ge (t := t) (m := m - 1) (k := 0) (Nat.zero_le _)
    exact pk_sub (by omega)
  | succ d ih =>
    intro i x a b o hx ha hb' hi ho
    obtain ⟨o, rfl⟩ : ∃ q, o = q + 1 := ⟨o - 1, by omega⟩
    subst hx
    have hx1 := mxN_bd (t := t) (b := 2 ^ 30) (m := i) (fun k hk => Nat.le_of_lt (hb k (by omega)))
    have hx2 := mnN_le (t := t) (m := i) (k := 0) (Nat.zero_le _)
    have hx3 := hb 0 (by decide)
    have hx4 := hb (i + 1) (by omega)
    refine bm_le m (i + 1) rfl rfl (by omega) (by omega) (fun z => absurd z (by omega)) (fun _ => ?_)
    refine bm_bd (e_timesOf rfl (by omega)) ?_
    refine bm_bd (e_timesOf rfl (by omega)) ?_
    refine ih (i + 1) _ _ _ o (nI_1 (i + 1)) ?_ ?_ (by omega) (by omega)
    · show (if a < I 68 (i + 1) then I 68 (i + 1) else a) = _
      rw [ht _ (by omega), ha]; exact bm_mxI (by omega) (by omega)
    · show (if I 68 (i + 1) < b then I 68 (i + 1) else b) = _
      rw [ht _ (by omega), hb']; exact bm_mnI (by omega) (by omega)
theorem e_difference {t : Nat → Nat} {m : Nat} (hm : m ≤ 8) (ht : ∀ k, k < 8 → I 68 k = nI (t k)) (hb : ∀ k, k < 8 → t k < 2 ^ 30) : f_X1_difference [.inr (some 67), .inl (nI m)] (bm_mk n I) = some (some (.inl (nI (mxN t (m - 1) - mnN t (m - 1)))), bm_mk n I) := by
  refine bm_g u_X1_difference ?_
  refine bm_bd (e_timesOf (k := 0) rfl (by decide)) ?_
  exact e_difference_loop hm ht hb (max 1 m - 1) 0 1 _ _ 1000 rfl (ht 0 (by decide)) (ht 0 (by decide)) (by omega) (by omega)
theorem bm_RC.at68 {J : Nat → Nat → Int32} (h : bm_RC I S) (hf : ∀ k, k ≠ 68 → J k = I k) : bm_RC J S := by
  obtain ⟨p, hh, ht, hT, hL⟩ := h
  exact ⟨p.congr (fun i hi => hf _ (by omega)), hh.congr (fun k k1 k2 => hf k (by omega)), by rw [hf 69 (by omega)]; exact ht, fun j hj => by rw [hf 70 (by omega)]; exact hT j hj, fun k hk => by rw [hf 1 (by omega), hf 2 (by omega)]; exact hL k hk⟩
end FI
