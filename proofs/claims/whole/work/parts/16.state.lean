set_option maxRecDepth 100000
/-! THE STATE OF BOTH SIDES: the poll F, how many states are in the history, these, the text's length, the text -/
abbrev bm_S : Type := (Nat → Nat) × Nat × (Nat → Nat → Nat) × Nat × (Nat → Nat)
def bm_LE (k : Nat) : Nat := [1, 16, 8, 1, 4, 1].getD k 0
def bm_MO (k : Nat) : Nat := [4, 60, 40, 3, 30, 24].getD k 0
/-- the class holds the state -/
def bm_RC (I : Nat → Nat → Int32) (S : bm_S) : Prop := bm_P I 5 S.1 ∧ bm_H I S.2.1 S.2.2.1 ∧ I 69 1 = nI S.2.2.2.1 ∧ (∀ j, j < S.2.2.2.1 → I 70 j = nI (S.2.2.2.2 j)) ∧ ∀ k, k < 6 → I 1 k = nI (bm_LE k) ∧ I 2 k = nI (bm_MO k)
/-- the reference holds the state -/
def bm_RM (I : Nat → Nat → Int32) (S : bm_S) : Prop := (∀ k, k < 164 → I 76 k = nI (S.1 k)) ∧ I 75 2 = nI S.2.1 ∧ (∀ j, j < S.2.1 → ∀ k, k < 164 → I 77 (164 * j + k) = nI (S.2.2.1 j k)) ∧ I 75 4 = nI S.2.2.2.1 ∧ ∀ j, j < S.2.2.2.1 → I 78 j = nI (S.2.2.2.2 j)
def bm_VV (S : bm_S) : Prop := bm_V' S.1 ∧ S.2.1 ≤ 4 ∧ (∀ j, j < S.2.1 → bm_V' (S.2.2.1 j)) ∧ S.2.2.2.1 ≤ 40 ∧ ∀ j, j < S.2.2.2.1 → 32 ≤ S.2.2.2.2 j ∧ S.2.2.2.2 j ≤ 126
/-- a change: what was is recorded -/
def bm_pu (S : bm_S) (F' : Nat → Nat) : bm_S := (F', bm_pn S.2.1, bm_pq S.2.1 S.2.2.1 S.1, S.2.2.2.1, S.2.2.2.2)
def bm_cp (n : Nat) (I : Nat → Nat → Int32) (g : bm_M → Option bm_R) (q : Int32 × bm_S) : Prop := ∃ J, g (bm_mk n I) = some (some (.inl q.1), bm_mk n J) ∧ bm_RC J q.2 ∧ bm_fz I J 5 74
def bm_mp (n : Nat) (I : Nat → Nat → Int32) (g : bm_M → Option bm_R) (q : Int32 × bm_S) : Prop := ∃ J, g (bm_mk n I) = some (some (.inl q.1), bm_mk n J) ∧ bm_RM J q.2 ∧ bm_fz I J 75 83
theorem bm_cp.rd {n : Nat} {I : Nat → Nat → Int32} {g : bm_M → Option bm_R} {v : Int32} {S : bm_S} (h : bm_RC I S) (e : g (bm_mk n I) = some (some (.inl v), bm_mk n I)) : bm_cp n I g (v, S) := ⟨I, e, h, bm_fz.rf⟩
theorem bm_mp.rd {n : Nat} {I : Nat → Nat → Int32} {g : bm_M → Option bm_R} {v : Int32} {S : bm_S} (h : bm_RM I S) (e : g (bm_mk n I) = some (some (.inl v), bm_mk n I)) : bm_mp n I g (v, S) := ⟨I, e, h, bm_fz.rf⟩
theorem bm_rng {x : Int32} {lo hi : Nat} (hh : hi < 2 ^ 31) (h : nI lo ≤ x ∧ x ≤ nI hi) (hl : lo ≤ hi) : ∃ k, lo ≤ k ∧ k ≤ hi ∧ x = nI k := by
  have h0 : (0 : Int32) ≤ x := Int32.le_trans (nI_pos' (n := lo) (by omega)) h.1
  obtain ⟨j, hj, rfl⟩ := nI_of (Int32.not_lt.mpr h0)
  exact ⟨j, (nI_leI (by omega) hj).mp h.1, (nI_leI hj hh).mp h.2, rfl⟩
section CS
variable {n : Nat} {I : Nat → Nat → Int32} {S : bm_S}
/-- behind keep: the poll and the text as they were, the history grown -/
theorem c_keep (h : bm_RC I S) : ∃ J, f_X2_keep [.inr (some 16), .inr (some 5)] (bm_mk n I) = some (none, bm_mk n J) ∧ bm_RC J (bm_pu S S.1) ∧ bm_fz I J 16 61 := by
  obtain ⟨p, hh, ht, hT, hL⟩ := h
  obtain ⟨J, e, hH, hf⟩ := e_keep (n := n) p hh
  refine ⟨J, e, ⟨p.congr (fun i hi => hf _ (by omega)), hH, ?_, fun j hj => ?_, fun k hk => ?_⟩, hf⟩
  · rw [hf 69 (by omega)]; exact ht
  · rw [hf 70 (by omega)]; exact hT j hj
  · rw [hf 1 (by omega), hf 2 (by omega)]; exact hL k hk
/-- a poll's method behind keep -/
theorem bm_RC.poll {J : Nat → Nat → Int32} {F' : Nat → Nat} (h : bm_RC I S) (p : bm_P J 5 F') (hf : bm_fz I J 5 15) : bm_RC J (F', S.2) := by
  obtain ⟨-, hh, ht, hT, hL⟩ := h
  refine ⟨p, hh.congr (fun k k1 k2 => hf k (by omega)), ?_, fun j hj => ?_, fun k hk => ?_⟩
  · rw [hf 69 (by omega)]; exact ht
  · rw [hf 70 (by omega)]; exact hT j hj
  · rw [hf 1 (by omega), hf 2 (by omega)]; exact hL k hk
def sp_contest (S : bm_S) (x y : Int32) : Int32 × bm_S := if (nI 1 ≤ x ∧ x ≤ nI 20) ∧ nI 1 ≤ y ∧ y ≤ nI 3 then (if 6 ≤ S.1 0 then (-3, S) else (nI (S.1 0), bm_pu S (bm_Fcontest S.1 x.toNatClampNeg y.toNatClampNeg))) else (-1, S)
theorem c_contest (h : bm_RC I S) (v : bm_VV S) (x y : Int32) : bm_cp n I (f_X7_contest [.inr (some 4), .inl x, .inl y]) (sp_contest S x y) := by
  have p := h.1
  have h6 := v.1.1
  unfold sp_contest
  by_cases c1 : (nI 1 ≤ x ∧ x ≤ nI 20) ∧ nI 1 ≤ y ∧ y ≤ nI 3
  · rw [if_pos c1]
    obtain ⟨a, a1, a2, rfl⟩ := bm_rng (by decide) c1.1 (by decide)
    obtain ⟨b, b1, b2, rfl⟩ := bm_rng (by decide) c1.2 (by decide)
    by_cases c2 : 6 ≤ S.1 0
    · rw [if_pos c2]
      refine bm_cp.rd h (bm_g u_X7_contest ?_)
      refine bm_bd e_within (bm_bq (fun _ => ?_) (fun z => absurd c1.1 z))
      refine bm_bd e_within (bm_bq (fun _ => ?_) (fun z => absurd c1.2 z))
      refine bm_bd (e_contests p) ?_
      exact bm_lt (S.1 0) 6 rfl rfl (by omega) (by decide) (fun z => absurd z (by omega)) (fun _ => bm_ok rfl)
    · rw [if_neg c2, nI_clamp (by omega), nI_clamp (by omega)]
      obtain ⟨J, e, hJ, hf⟩ := c_keep (n := n) h
      obtain ⟨L, e2, p2, hf2⟩ := e_addContest (n := n) hJ.1 (show S.1 0 < 6 by omega) a b
      refine ⟨L, bm_g u_X7_contest ?_, hJ.poll p2 hf2, (hf.wd (by decide) (by decide)).tr (hf2.wd (by decide) (by decide))⟩
      refine bm_bd e_within (bm_bq (fun _ => ?_) (fun z => absurd c1.1 z))
      refine bm_bd e_within (bm_bq (fun _ => ?_) (fun z => absurd c1.2 z))
      refine bm_bd (e_contests p) ?_
      refine bm_lt (S.1 0) 6 rfl rfl (by omega) (by decide) (fun _ => ?_) (fun z => absurd z (by omega))
      refine bm_bd e ?_
      refine bm_bd e2 ?_
      rfl
  · rw [if_neg c1]
    refine bm_cp.rd h (bm_g u_X7_contest ?_)
    refine bm_bd e_within (bm_bq (fun h1 => ?_) (fun _ => bm_ok rfl))
    exact bm_bd e_within (bm_bq (fun h2 => absurd ⟨h1, h2⟩ c1) (fun _ => bm_ok rfl))
def sp_name (S : bm_S) (x y : Int32) : Int32 × bm_S := if (0 ≤ x ∧ x < nI (S.1 0)) ∧ nI 1 ≤ y ∧ y ≤ nI 20 then (if 0 < S.1 1 then (-2, S) else if 8 ≤ S.1 (35 + 6 * x.toNatClampNeg) then (-3, S) else (nI (S.1 (35 + 6 * x.toNatClampNeg)), bm_pu S (bm_Fname S.1 x.toNatClampNeg y.toNatClampNeg))) else (-1, S)
theorem c_name (h : bm_RC I S) (v : bm_VV S) (x y : Int32) : bm_cp n I (f_X7_name [.inr (some 4), .inl x, .inl y]) (sp_name S x y) := by
  have p := h.1
  have h6 := v.1.1
  have hB := v.1.2.1
  unfold sp_name
  by_cases c1 : (0 ≤ x ∧ x < nI (S.1 0)) ∧ nI 1 ≤ y ∧ y ≤ nI 20
  · rw [if_pos c1]
    obtain ⟨a, a1, rfl⟩ := bm_k_of (by omega) c1.1
    obtain ⟨b, b1, b2, rfl⟩ := bm_rng (by decide) c1.2 (by decide)
    have h8 := (v.1.2.2.2.2.2.2.2.2.2.1 a (by omega)).2.2.2
    rw [nI_clamp (show a < 2 ^ 31 by omega), nI_clamp (show b < 2 ^ 31 by omega)]
    by_cases c2 : 0 < S.1 1
    · rw [if_pos c2]
      refine bm_cp.rd h (bm_g u_X7_name ?_)
      refine bm_bd (e_hasContest p (by omega)) (bm_bq (fun _ => ?_) (fun z => absurd c1.1 z))
      refine bm_bd e_within (bm_bq (fun _ => ?_) (fun z => absurd c1.2 z))
      refine bm_bd (e_ballots p) ?_
      exact bm_le (S.1 1) 0 rfl rfl (by omega) (by decide) (fun z => absurd z (by omega)) (fun _ => bm_ok rfl)
    · rw [if_neg c2]
      by_cases c3 : 8 ≤ S.1 (35 + 6 * a)
      · rw [if_pos c3]
        refine bm_cp.rd h (bm_g u_X7_name ?_)
        refine bm_bd (e_hasContest p (by omega)) (bm_bq (fun _ => ?_) (fun z => absurd c1.1 z))
        refine bm_bd e_within (bm_bq (fun _ => ?_) (fun z => absurd c1.2 z))
        refine bm_bd (e_ballots p) ?_
        refine bm_le (S.1 1) 0 rfl rfl (by omega) (by decide) (fun _ => ?_) (fun z => absurd z (by omega))
        refine bm_bd (e_namesIn p (by omega)) ?_
        exact bm_lt (S.1 (35 + 6 * a)) 8 rfl rfl (by omega) (by decide) (fun z => absurd z (by omega)) (fun _ => bm_ok rfl)
      · rw [if_neg c3]
        obtain ⟨J, e, hJ, hf⟩ := c_keep (n := n) h
        obtain ⟨L, e2, p2, hf2⟩ := e_addName (n := n) hJ.1 (show a < 6 by omega) (show S.1 (35 + 6 * a) < 8 by omega) b
        refine ⟨L, bm_g u_X7_name ?_, hJ.poll p2 hf2, (hf.wd (by decide) (by decide)).tr (hf2.wd (by decide) (by decide))⟩
        refine bm_bd (e_hasContest p (by omega)) (bm_bq (fun _ => ?_) (fun z => absurd c1.1 z))
        refine bm_bd e_within (bm_bq (fun _ => ?_) (fun z => absurd c1.2 z))
        refine bm_bd (e_ballots p) ?_
        refine bm_le (S.1 1) 0 rfl rfl (by omega) (by decide) (fun _ => ?_) (fun z => absurd z (by omega))
        refine bm_bd (e_namesIn p (by omega)) ?_
        refine bm_lt (S.1 (35 + 6 * a)) 8 rfl rfl (by omega) (by decide) (fun _ => ?_) (fun z => absurd z (by omega))
        refine bm_bd e ?_
        refine bm_bd e2 ?_
        rfl
  · rw [if_neg c1]
    refine bm_cp.rd h (bm_g u_X7_name ?_)
    refine bm_bd (e_hasContest p (by omega)) (bm_bq (fun h1 => ?_) (fun _ => bm_ok rfl))
    exact bm_bd e_within (bm_bq (fun h2 => absurd ⟨h1, h2⟩ c1) (fun _ => bm_ok rfl))
def sp_way (S : bm_S) (x y : Int32) : Int32 × bm_S := if (0 ≤ x ∧ x < nI (S.1 0)) ∧ nI 0 ≤ y ∧ y ≤ nI 2 then (if 0 < S.1 1 then (-2, S) else (nI (S.1 (34 + 6 * x.toNatClampNeg)), bm_pu S (bm_fs1 S.1 (34 + 6 * x.toNatClampNeg) y.toNatClampNeg))) else (-1, S)
theorem c_way (h : bm_RC I S) (v : bm_VV S) (x y : Int32) : bm_cp n I (f_X7_way [.inr (some 4), .inl x, .inl y]) (sp_way S x y) := by
  have p := h.1
  have h6 := v.1.1
  have hB := v.1.2.1
  unfold sp_way
  by_cases c1 : (0 ≤ x ∧ x < nI (S.1 0)) ∧ nI 0 ≤ y ∧ y ≤ nI 2
  · rw [if_pos c1]
    obtain ⟨a, a1, rfl⟩ := bm_k_of (by omega) c1.1
    obtain ⟨b, b1, b2, rfl⟩ := bm_rng (by decide) c1.2 (by decide)
    rw [nI_clamp (show a < 2 ^ 31 by omega), nI_clamp (show b < 2 ^ 31 by omega)]
    by_cases c2 : 0 < S.1 1
    · rw [if_pos c2]
      refine bm_cp.rd h (bm_g u_X7_way ?_)
      refine bm_bd (e_hasContest p (by omega)) (bm_bq (fun _ => ?_) (fun z => absurd c1.1 z))
      refine bm_bd e_within (bm_bq (fun _ => ?_) (fun z => absurd c1.2 z))
      refine bm_bd (e_ballots p) ?_
      exact bm_le (S.1 1) 0 rfl rfl (by omega) (by decide) (fun z => absurd z (by omega)) (fun _ => bm_ok rfl)
    · rw [if_neg c2]
      obtain ⟨J, e, hJ, hf⟩ := c_keep (n := n) h
      obtain ⟨L, e2, p2, hf2⟩ := e_turnBy (n := n) hJ.1 (show a < 6 by omega) b
      refine ⟨L, bm_g u_X7_way ?_, hJ.poll p2 hf2, (hf.wd (by decide) (by decide)).tr (hf2.wd (by decide) (by decide))⟩
      refine bm_bd (e_hasContest p (by omega)) (bm_bq (fun _ => ?_) (fun z => absurd c1.1 z))
      refine bm_bd e_within (bm_bq (fun _ => ?_) (fun z => absurd c1.2 z))
      refine bm_bd (e_ballots p) ?_
      refine bm_le (S.1 1) 0 rfl rfl (by omega) (by decide) (fun _ => ?_) (fun z => absurd z (by omega))
      refine bm_bd e ?_
      refine bm_bd e2 ?_
      rfl
  · rw [if_neg c1]
    refine bm_cp.rd h (bm_g u_X7_way ?_)
    refine bm_bd (e_hasContest p (by omega)) (bm_bq (fun h1 => ?_) (fun _ => bm_ok rfl))
    exact bm_bd e_within (bm_bq (fun h2 => absurd ⟨h1, h2⟩ c1) (fun _ => bm_ok rfl))
def sp_papers (S : bm_S) (x y : Int32) : Int32 × bm_S := if (0 ≤ x ∧ x < nI (S.1 7)) ∧ nI 0 ≤ y ∧ y ≤ nI 9999 then (nI (S.1 (8 + 1 * x.toNatClampNeg)), bm_pu S (bm_fs1 S.1 (8 + 1 * x.toNatClampNeg) y.toNatClampNeg)) else (-1, S)
theorem c_papers (h : bm_RC I S) (v : bm_VV S) (x y : Int32) : bm_cp n I (f_X7_papers [.inr (some 4), .inl x, .inl y]) (sp_papers S x y) := by
  have p := h.1
  have h7 := v.1.2.2.2.2.2.2.2.1
  unfold sp_papers
  by_cases c1 : (0 ≤ x ∧ x < nI (S.1 7)) ∧ nI 0 ≤ y ∧ y ≤ nI 9999
  · rw [if_pos c1]
    obtain ⟨a, a1, rfl⟩ := bm_k_of (by omega) c1.1
    obtain ⟨b, b1, b2, rfl⟩ := bm_rng (by decide) c1.2 (by decide)
    rw [nI_clamp (show a < 2 ^ 31 by omega), nI_clamp (show b < 2 ^ 31 by omega)]
    obtain ⟨J, e, hJ, hf⟩ := c_keep (n := n) h
    obtain ⟨L, e2, p2, hf2⟩ := e_printPapers (n := n) hJ.1 (show a < 24 by omega) b
    refine ⟨L, bm_g u_X7_papers ?_, hJ.poll p2 hf2, (hf.wd (by decide) (by decide)).tr (hf2.wd (by decide) (by decide))⟩
    refine bm_bd (e_hasVersion p (by omega)) (bm_bq (fun _ => ?_) (fun z => absurd c1.1 z))
    refine bm_bd e_within (bm_bq (fun _ => ?_) (fun z => absurd c1.2 z))
    refine bm_bd e ?_
    refine bm_bd e2 ?_
    rfl
  · rw [if_neg c1]
    refine bm_cp.rd h (bm_g u_X7_papers ?_)
    refine bm_bd (e_hasVersion p (by omega)) (bm_bq (fun h1 => ?_) (fun _ => bm_ok rfl))
    exact bm_bd e_within (bm_bq (fun h2 => absurd ⟨h1, h2⟩ c1) (fun _ => bm_ok rfl))
noncomputable def sp_clear (S : bm_S) : Int32 × bm_S := (nI (S.1 1), bm_pu S (bm_Fclear S.1))
theorem c_clear (h : bm_RC I S) : bm_cp n I (f_X7_clear [.inr (some 4)]) (sp_clear S) := by
  obtain ⟨J, e, hJ, hf⟩ := c_keep (n := n) h
  obtain ⟨L, e2, p2, hf2⟩ := e_forgetVotes (n := n) hJ.1
  refine ⟨L, bm_g u_X7_clear ?_, hJ.poll p2 hf2, (hf.wd (by decide) (by decide)).tr (hf2.wd (by decide) (by decide))⟩
  refine bm_bd e ?_
  refine bm_bd e2 ?_
  rfl
end CS
