set_option maxRecDepth 100000
/-! THE BALLOT JUDGED -/
section BJ
variable {n : Nat} {I J : Nat → Nat → Int32} {S : bm_S}
/-- no name for the mark -/
abbrev tx_no (S : bm_S) (k : Nat) : Prop := ¬ (tx_c S k < S.1 0 ∧ tx_q S k < S.1 (35 + 6 * tx_c S k))
/-- the mark stands ahead -/
abbrev tx_tw (S : bm_S) (k : Nat) : Prop := ∃ i, i < k ∧ (tx_c S i = tx_c S k ∧ tx_q S i = tx_q S k)
def tx_j (S : bm_S) : Nat → Nat → Option (Nat × Nat)
  | 0, _ => none
  | d + 1, k => if tx_no S k then some (3, tx_p S k) else if tx_tw S k then some (4, tx_p S k) else tx_j S d (k + 1)
def tx_g (S : bm_S) (m : Nat) : Option (Nat × Nat) := if tx_v S < S.1 7 then tx_j S m 0 else some (2, 0)
/-- the fault: reason and place -/
def tx_f (S : bm_S) : Option (Nat × Nat) := match (tx_e S).1 with
  | some a => some (1, a)
  | none => tx_g S (tx_e S).2
theorem tx_m_ok {m : Nat} : ∀ (d k : Nat), tx_m S d k = (none, m) → k < m ∧ ∀ i, k ≤ i → i < m → tx_in S 97 102 (tx_p S i) ∧ tx_in S 48 57 (tx_p S i + 1) := by
  intro d
  induction d with
  | zero => intro k h; exact absurd (congrArg Prod.fst h) (by simp [tx_m])
  | succ d ih =>
    intro k h
    unfold tx_m at h
    by_cases c1 : tx_in S 97 102 (tx_p S k)
    · rw [if_pos c1] at h
      by_cases c2 : tx_in S 48 57 (tx_p S k + 1)
      · rw [if_pos c2] at h
        by_cases c3 : tx_p S k + 2 = S.2.2.2.1
        · rw [if_pos c3] at h
          have hm : k + 1 = m := congrArg Prod.snd h
          refine ⟨by omega, fun i h1 h2 => ?_⟩
          have : i = k := by omega
          subst this
          exact ⟨c1, c2⟩
        · rw [if_neg c3] at h
          by_cases c4 : tx_in S 44 44 (tx_p S k + 2)
          · rw [if_pos c4] at h
            obtain ⟨h1, h2⟩ := ih (k + 1) h
            refine ⟨by omega, fun i a1 a2 => ?_⟩
            by_cases q : i = k
            · subst q; exact ⟨c1, c2⟩
            · exact h2 i (by omega) a2
          · rw [if_neg c4] at h
            exact absurd (congrArg Prod.fst h) (by simp)
      · rw [if_neg c2] at h
        exact absurd (congrArg Prod.fst h) (by simp)
    · rw [if_neg c1] at h
      exact absurd (congrArg Prod.fst h) (by simp)
/-- the bounds of a ballot that is of its form -/
def tx_B (S : bm_S) (m : Nat) : Prop := tx_in S 48 57 0 ∧ tx_in S 58 58 (tx_b S) ∧ tx_v S < 100 ∧ m ≤ 13 ∧ (∀ i, i < m → tx_c S i < 6 ∧ tx_q S i < 10 ∧ tx_p S i < 100) ∧ (if tx_b S + 1 = S.2.2.2.1 then (none, 0) else tx_m S 14 0) = ((none, m) : Option Nat × Nat)
theorem tx_e_ok (v : bm_VV S) {m : Nat} (h : tx_e S = (none, m)) : tx_B S m := by
  have h40 := v.2.2.2.1
  have hb := tx_b12 (S := S)
  unfold tx_e at h
  by_cases c0 : tx_in S 48 57 0
  · rw [if_pos c0] at h
    by_cases c1 : tx_in S 58 58 (tx_b S)
    · rw [if_pos c1] at h
      refine ⟨c0, c1, ?_, ?_⟩
      · have := c0.2
        unfold tx_v
        by_cases q : tx_two S
        · rw [if_pos q]; have := q.2.2; omega
        · rw [if_neg q]; omega
      · have h' := h
        by_cases c2 : tx_b S + 1 = S.2.2.2.1
        · rw [if_pos c2] at h
          have hm : 0 = m := congrArg Prod.snd h
          exact ⟨by omega, fun i hi => absurd hi (by omega), h'⟩
        · rw [if_neg c2] at h
          obtain ⟨h1, h2⟩ := tx_m_ok 14 0 h
          refine ⟨?_, fun i hi => ?_, h'⟩
          · have := (h2 (m - 1) (by omega) (by omega)).2.1
            unfold tx_p at this
            omega
          · have q := h2 i (by omega) hi
            have q1 := q.1.2
            have q2 := q.2.2
            have q3 := q.1.1
            refine ⟨?_, ?_, by omega⟩
            · unfold tx_c; omega
            · unfold tx_q; omega
    · rw [if_neg c1] at h
      exact absurd (congrArg Prod.fst h) (by simp)
  · rw [if_neg c0] at h
    exact absurd (congrArg Prod.fst h) (by simp)
theorem tx_e_no (c0 : tx_in S 48 57 0) (c1 : tx_in S 58 58 (tx_b S)) : tx_e S = if tx_b S + 1 = S.2.2.2.1 then (none, 0) else tx_m S 14 0 := (if_pos c0).trans (if_pos c1)
theorem tx_na_no (v : bm_VV S) {k : Nat} (h : tx_no S k) : bm_na S.1 (tx_v S) (tx_c S k) (nI (tx_q S k)) = -1 ∨ 2 ^ 31 ≤ tx_q S k ∨ 6 ≤ tx_c S k := by
  by_cases q1 : 6 ≤ tx_c S k
  · exact Or.inr (Or.inr q1)
  by_cases q : 2 ^ 31 ≤ tx_q S k
  · exact Or.inr (Or.inl q)
  · refine Or.inl (if_neg (fun z => h ⟨z.1, (nI_ltI (by omega) ?_).mp z.2.2⟩))
    have := (v.1.2.2.2.2.2.2.2.2.2.1 (tx_c S k) (by omega)).2.2.2
    omega
theorem tx_na_ok (v : bm_VV S) {k : Nat} (h : tx_c S k < S.1 0 ∧ tx_q S k < S.1 (35 + 6 * tx_c S k)) : bm_na S.1 (tx_v S) (tx_c S k) (nI (tx_q S k)) = nI (bm_sd' S.1 (tx_v S) (tx_c S k) (tx_q S k)) := bm_na_in v.1 h.1 h.2
theorem e_nameOfMark {a r : Int32} {m i : Nat} (p : bm_P I 5 S.1) (v : bm_VV S) (h : tx_H I (nI (tx_v S)) (nI m) a r) (hA : tx_A I S m) (hB : tx_B S m) {x : Int32} (hx : x = nI i) (hi : i < m) : f_X0_nameOfMark [.inr (some 71), .inr (some 5), .inl x] (bm_mk n I) = some (some (.inl (bm_na S.1 (tx_v S) (tx_c S i) (nI (tx_q S i)))), bm_mk n I) := by
  subst hx
  obtain ⟨-, -, hv, hm, hb, -⟩ := hB
  obtain ⟨a1, a2, a3⟩ := hA i hi
  have h3 : I 71 3 = nI (tx_v S) := h.1
  refine bm_g u_X0_nameOfMark ?_
  refine bm_bd (e_gk (a := 72) (N := 13) rfl rfl (by decide) (by omega)) ?_
  refine bm_bd (e_gk (a := 73) (N := 13) rfl rfl (by decide) (by omega)) ?_
  have e := e_nameAt (n := n) p v.1 (v := tx_v S) (c := tx_c S i) (z := nI (tx_q S i)) (by omega) (hb i hi).1
  rw [← h3, ← a1, ← a2] at e
  refine bm_bd e ?_
  refine bm_ok ?_
  rw [a2]
theorem e_ahead_loop {m i : Nat} (hA : tx_A I S m) (hB : tx_B S m) (hi : i < m) : ∀ (d j : Nat) (x : Int32) (o : Nat), x = nI j → (∀ l, l < j → ¬ (tx_c S l = tx_c S i ∧ tx_q S l = tx_q S i)) → j + d = i → d < o →
    bm_rn z_X0_standsAhead o 2 ([some (.inr (some 71)), some (.inl (nI i)), some (.inl x)], [], bm_mk n I) = some (some (.inl (bm_b (tx_tw S i))), bm_mk n I) := by
  obtain ⟨-, -, hv, hm, hb, -⟩ := hB
  obtain ⟨a1, a2, a3⟩ := hA i hi
  have b1 := hb i hi
  intro d
  induction d with
  | zero =>
    intro j x o hx hn hj ho
    obtain ⟨o, rfl⟩ : ∃ q, o = q + 1 := ⟨o - 1, by omega⟩
    have hj : j = i := by omega
    subst hj; subst hx
    refine bm_it (Int32.le_refl _) ?_
    exact bm_ok (bm_b0 (fun z => z.elim fun l q => hn l q.1 q.2)).symm
  | succ d ih =>
    intro j x o hx hn hj ho
    obtain ⟨o, rfl⟩ : ∃ q, o = q + 1 := ⟨o - 1, by omega⟩
    subst hx
    obtain ⟨c1, c2, c3⟩ := hA j (by omega)
    have b2 := hb j (by omega)
    refine bm_le i j rfl rfl (by omega) (by omega) (fun z => absurd z (by omega)) (fun _ => ?_)
    refine bm_bd (e_gk (a := 72) (N := 13) rfl rfl (by decide) (by omega)) ?_
    refine bm_bd (e_gk (a := 72) (N := 13) rfl rfl (by decide) (by omega)) ?_
    refine bm_eq (tx_c S j) (tx_c S i) c1 a1 (by omega) (by omega) (fun q1 => ?_) (fun q1 => ?_)
    · refine bm_bd (e_gk (a := 73) (N := 13) rfl rfl (by decide) (by omega)) ?_
      refine bm_bd (e_gk (a := 73) (N := 13) rfl rfl (by decide) (by omega)) ?_
      refine bm_eq (tx_q S j) (tx_q S i) c2 a2 (by omega) (by omega) (fun q2 => ?_) (fun q2 => ?_)
      · exact bm_ok (bm_b1 ⟨j, by omega, q1, q2⟩).symm
      · refine ih (j + 1) _ o (nI_1 j) (fun l hl => ?_) (by omega) (by omega)
        by_cases q : l = j
        · subst q; exact fun z => q2 z.2
        · exact hn l (by omega)
    · refine ih (j + 1) _ o (nI_1 j) (fun l hl => ?_) (by omega) (by omega)
      by_cases q : l = j
      · subst q; exact fun z => q1 z.1
      · exact hn l (by omega)
theorem e_standsAhead {m i : Nat} (hA : tx_A I S m) (hB : tx_B S m) (hi : i < m) {x : Int32} (hx : x = nI i) : f_X0_standsAhead [.inr (some 71), .inl x] (bm_mk n I) = some (some (.inl (bm_b (tx_tw S i))), bm_mk n I) := by
  subst hx
  exact bm_g u_X0_standsAhead (e_ahead_loop hA hB hi i 0 0 1000 rfl (fun l hl => absurd hl (by omega)) (by omega) (by have := hB.2.2.2.1; omega))
/-- what judge leaves -/
def tx_J (I J : Nat → Nat → Int32) (g : Option (Nat × Nat)) : Prop := (∀ r a, g = some (r, a) → ∃ u m, tx_H J u m (nI a) (nI r)) ∧ (g = none → J = I)
theorem tx_J.so {u m : Int32} {a r : Nat} (h : tx_H J u m (nI a) (nI r)) : tx_J I J (some (r, a)) := ⟨fun r' a' e => (by cases e; exact ⟨u, m, h⟩), fun e => (by cases e)⟩
theorem e_judge_loop {m : Nat} (p : bm_P I 5 S.1) (v : bm_VV S) (h : tx_H I (nI (tx_v S)) (nI m) (-1) 0) (hA : tx_A I S m) (hB : tx_B S m) : ∀ (d k : Nat) (x : Int32) (o : Nat), x = nI k → k + d = m → d < o →
    ∃ J, bm_rn z_X0_judge o 20 ([some (.inr (some 71)), some (.inr (some 5)), some (.inl x)], [], bm_mk n I) = some (none, bm_mk n J) ∧ bm_fz I J 71 71 ∧ tx_J I J (tx_j S d k) := by
  have hB' := hB
  obtain ⟨-, -, hv, hm, hb, -⟩ := hB'
  have h4 : I 71 4 = nI m := h.2.1
  intro d
  induction d with
  | zero =>
    intro k x o hx hk ho
    obtain ⟨o, rfl⟩ : ∃ q, o = q + 1 := ⟨o - 1, by omega⟩
    have hk : k = m := by omega
    subst hk; subst hx
    refine ⟨I, ?_, bm_fz.rf, ⟨fun r a e => (by cases e), fun _ => rfl⟩⟩
    refine bm_it (by show I 71 4 ≤ _; rw [h4]; exact Int32.le_refl _) ?_
    rfl
  | succ d ih =>
    intro k x o hx hk ho
    obtain ⟨o, rfl⟩ : ∃ q, o = q + 1 := ⟨o - 1, by omega⟩
    subst hx
    have b1 := hb k (by omega)
    have e1 := e_nameOfMark (n := n) p v h hA hB (i := k) rfl (by omega)
    have e2 := e_standsAhead (n := n) hA hB (i := k) (by omega) rfl
    obtain ⟨-, -, a3⟩ := hA k (by omega)
    by_cases c1 : tx_no S k
    · have e0 : tx_j S (d + 1) k = some (3, tx_p S k) := if_pos c1
      obtain ⟨J, e, hJ, fJ⟩ := e_blame (n := n) (x := I 74 k) (y := 3) h
      refine ⟨J, ?_, fJ, by rw [e0]; exact tx_J.so (by rw [← a3]; exact hJ)⟩
      refine bm_le m k h4 rfl (by omega) (by omega) (fun z => absurd z (by omega)) (fun _ => ?_)
      refine bm_bd e1 ?_
      refine bm_it ?_ ?_
      · rcases tx_na_no v c1 with q | q | q
        · exact q
        · omega
        · omega
      · refine bm_bd (e_gk (a := 74) (N := 13) rfl rfl (by decide) (by omega)) ?_
        refine bm_bd e ?_
        rfl
    · have ok : tx_c S k < S.1 0 ∧ tx_q S k < S.1 (35 + 6 * tx_c S k) := Decidable.not_not.mp c1
      have hne : ¬ bm_na S.1 (tx_v S) (tx_c S k) (nI (tx_q S k)) = -1 := by
        rw [tx_na_ok v ok]
        have h8 := (v.1.2.2.2.2.2.2.2.2.2.1 (tx_c S k) (by omega)).2.2.2
        have lt := bm_sd_lt (v := tx_v S) ok.2
        intro z
        exact absurd (nI_pos' (n := bm_sd' S.1 (tx_v S) (tx_c S k) (tx_q S k)) (by omega)) (by rw [z]; decide)
      by_cases c2 : tx_tw S k
      · have e0 : tx_j S (d + 1) k = some (4, tx_p S k) := (if_neg c1).trans (if_pos c2)
        obtain ⟨J, e, hJ, fJ⟩ := e_blame (n := n) (x := I 74 k) (y := 4) h
        refine ⟨J, ?_, fJ, by rw [e0]; exact tx_J.so (by rw [← a3]; exact hJ)⟩
        refine bm_le m k h4 rfl (by omega) (by omega) (fun z => absurd z (by omega)) (fun _ => ?_)
        refine bm_bd e1 ?_
        refine bm_ie hne ?_
        refine bm_bd e2 (bm_bq (fun _ => ?_) (fun z => absurd c2 z))
        refine bm_bd (e_gk (a := 74) (N := 13) rfl rfl (by decide) (by omega)) ?_
        refine bm_bd e ?_
        rfl
      · have e0 : tx_j S (d + 1) k = tx_j S d (k + 1) := (if_neg c1).trans (if_neg c2)
        obtain ⟨J, e, fJ, hJ⟩ := ih (k + 1) (nI k + 1) o (nI_1 k) (by omega) (by omega)
        refine ⟨J, ?_, fJ, by rw [e0]; exact hJ⟩
        refine bm_le m k h4 rfl (by omega) (by omega) (fun z => absurd z (by omega)) (fun _ => ?_)
        refine bm_bd e1 ?_
        refine bm_ie hne ?_
        refine bm_bd e2 (bm_bq (fun z => absurd z c2) (fun _ => ?_))
        exact e
theorem e_judge {m : Nat} (p : bm_P I 5 S.1) (v : bm_VV S) (h : tx_H I (nI (tx_v S)) (nI m) (-1) 0) (hA : tx_A I S m) (hB : tx_B S m) : ∃ J, f_X0_judge [.inr (some 71), .inr (some 5)] (bm_mk n I) = some (none, bm_mk n J) ∧ bm_fz I J 71 71 ∧ tx_J I J (tx_g S m) := by
  have h7 := v.1.2.2.2.2.2.2.2.1
  have hv := hB.2.2.1
  have h3 : I 71 3 = nI (tx_v S) := h.1
  by_cases c : tx_v S < S.1 7
  · have e0 : tx_g S m = tx_j S m 0 := if_pos c
    obtain ⟨J, e, fJ, hJ⟩ := e_judge_loop (n := n) p v h hA hB m 0 0 1000 rfl (by omega) (by have := hB.2.2.2.1; omega)
    refine ⟨J, bm_g u_X0_judge ?_, fJ, by rw [e0]; exact hJ⟩
    refine bm_bd (e_hasVersion p (by omega)) (bm_bq (fun _ => ?_) (fun z => absurd ?_ z))
    · exact e
    · show 0 ≤ I 71 3 ∧ I 71 3 < nI (S.1 7)
      rw [h3]; exact bm_of_k (by omega) c
  · have e0 : tx_g S m = some (2, 0) := if_neg c
    obtain ⟨J, e, hJ, fJ⟩ := e_blame (n := n) (x := 0) (y := 2) h
    refine ⟨J, bm_g u_X0_judge ?_, fJ, by rw [e0]; exact tx_J.so hJ⟩
    refine bm_bd (e_hasVersion p (by omega)) (bm_bq (fun z => absurd ?_ c) (fun _ => ?_))
    · have z : 0 ≤ I 71 3 ∧ I 71 3 < nI (S.1 7) := z
      rw [h3] at z
      exact (nI_ltI (by omega) (by omega)).mp z.2
    · refine bm_bd e ?_
      rfl
/-- what read leaves -/
def tx_Z (J : Nat → Nat → Int32) (S : bm_S) : Prop := (∀ r a, tx_f S = some (r, a) → J 71 5 = nI a ∧ J 71 6 = nI r) ∧ (tx_f S = none → ∃ m, tx_e S = (none, m) ∧ tx_B S m ∧ tx_H J (nI (tx_v S)) (nI m) (-1) 0 ∧ tx_A J S m)
theorem tx_f_so {a k : Nat} (h : tx_e S = (some a, k)) : tx_f S = some (1, a) := by unfold tx_f; rw [h]
theorem tx_f_no {m : Nat} (h : tx_e S = (none, m)) : tx_f S = tx_g S m := by unfold tx_f; rw [h]
theorem tx_Z.so {u m : Int32} {r a : Nat} (e : tx_f S = some (r, a)) (h : tx_H J u m (nI a) (nI r)) : tx_Z J S := ⟨fun r' a' q => (by rw [e] at q; cases q; exact h.2.2), fun q => (by rw [e] at q; cases q)⟩
theorem e_read (p : bm_P I 5 S.1) (v : bm_VV S) (hT : tx_C I S) : ∃ J, f_X0_read [.inr (some 71), .inr (some 69), .inr (some 5)] (bm_mk n I) = some (none, bm_mk n J) ∧ bm_fz I J 71 74 ∧ tx_Z J S := by
  have f0 : bm_fz I (tx_u (tx_u (tx_u I 5 (-1)) 6 0) 4 0) 71 71 := (tx_ufz.tr tx_ufz).tr tx_ufz
  have h0 : tx_H (tx_u (tx_u (tx_u I 5 (-1)) 6 0) 4 0) (I 71 3) 0 (-1) 0 := ⟨rfl, rfl, rfl, rfl⟩
  obtain ⟨J1, w, e1, f1, hJ1⟩ := e_readVersion (n := n) (hT.fz f0 (by decide)) v h0
  by_cases c0 : tx_in S 48 57 0
  · by_cases c1 : tx_in S 58 58 (tx_b S)
    · obtain ⟨rfl, hH1⟩ := hJ1.1 c0 c1
      have f01 := f0.tr f1
      obtain ⟨J2, e2, f2, hR⟩ := e_readMarks (n := n) v (hT.fz f01 (by decide)) hH1 c1
      rw [← tx_e_no c0 c1] at hR
      have f02 := (f01.wd (lo' := 71) (hi' := 74) (by decide) (by decide)).tr f2
      have h61 : J1 71 6 = 0 := hH1.2.2.2
      generalize hE : tx_e S = E at hR
      obtain ⟨E1, E2⟩ := E
      cases E1 with
      | some a =>
        obtain ⟨m, hm⟩ := hR.1 a rfl
        refine ⟨J2, bm_g u_X0_read ?_, f02, tx_Z.so (tx_f_so hE) hm⟩
        refine bm_bd e1 ?_
        refine bm_it h61 ?_
        refine bm_bd e2 ?_
        refine bm_ie (by show ¬ J2 71 6 = 0; rw [hm.2.2.2]; decide) ?_
        rfl
      | none =>
        obtain ⟨hH2, hA2⟩ := hR.2 rfl
        have hB := tx_e_ok v hE
        have hH2 : tx_H J2 (nI (tx_v S)) (nI E2) (-1) 0 := hH2
        obtain ⟨J3, e3, f3, hJ3⟩ := e_judge (n := n) (p.congr (fun i hi => f02 _ (by omega))) v hH2 hA2 hB
        refine ⟨J3, bm_g u_X0_read ?_, f02.tr (f3.wd (by decide) (by decide)), ?_⟩
        · refine bm_bd e1 ?_
          refine bm_it h61 ?_
          refine bm_bd e2 ?_
          refine bm_it (by show J2 71 6 = 0; rw [hH2.2.2.2]) ?_
          refine bm_bd e3 ?_
          rfl
        · generalize hG : tx_g S E2 = g at hJ3
          cases g with
          | some ra =>
            obtain ⟨r, a⟩ := ra
            obtain ⟨u, m, hm⟩ := hJ3.1 r a rfl
            exact tx_Z.so ((tx_f_no hE).trans hG) hm
          | none =>
            have := hJ3.2 rfl
            subst this
            exact ⟨fun r a q => (by rw [tx_f_no hE, hG] at q; cases q), fun _ => ⟨E2, hE, hB, hH2, hA2⟩⟩
    · obtain ⟨u, hH1⟩ := hJ1.2.1 c0 c1
      refine ⟨J1, bm_g u_X0_read ?_, (f0.tr f1).wd (by decide) (by decide), tx_Z.so (tx_f_so ((if_pos c0).trans (if_neg c1))) hH1⟩
      refine bm_bd e1 ?_
      refine bm_ie (by show ¬ J1 71 6 = 0; rw [hH1.2.2.2]; decide) ?_
      refine bm_ie (by show ¬ J1 71 6 = 0; rw [hH1.2.2.2]; decide) ?_
      rfl
  · obtain ⟨u, hH1⟩ := hJ1.2.2 c0
    refine ⟨J1, bm_g u_X0_read ?_, (f0.tr f1).wd (by decide) (by decide), tx_Z.so (a := 0) (tx_f_so (if_neg c0)) hH1⟩
    refine bm_bd e1 ?_
    refine bm_ie (by show ¬ J1 71 6 = 0; rw [hH1.2.2.2]; decide) ?_
    refine bm_ie (by show ¬ J1 71 6 = 0; rw [hH1.2.2.2]; decide) ?_
    rfl
end BJ
