set_option maxRecDepth 100000
section MC3
variable {n : Nat} {I J L : Nat → Nat → Int32} {S : bm_S}
abbrev mx_k1 (I : Nat → Nat → Int32) (c : Nat) (a : Int32) : Nat → Nat → Int32 := va_up I 76 (upd (I 76) (32 + 6 * nI c + 5 : Int32).toNatClampNeg (I 76 (32 + 6 * nI c + 5 : Int32).toNatClampNeg + a))
abbrev mx_k2 (I : Nat → Nat → Int32) (c : Nat) (b : Int32) : Nat → Nat → Int32 := va_up I 76 (upd (I 76) (32 + 6 * nI c + 4 : Int32).toNatClampNeg (I 76 (32 + 6 * nI c + 4 : Int32).toNatClampNeg + b))
theorem mx_k1_s {G : Nat → Nat} {c a : Nat} (hs : bm_s I G) (hc : c < 6) : bm_s (mx_k1 I c (nI a)) (fun y => G y + if y = 37 + 6 * c then a else 0) := by
  have hx : (32 + 6 * nI c + 5 : Int32) = nI (37 + 6 * c) := (ix_c c 5).trans (congrArg nI (by omega))
  have e := bm_sset hs hx (by omega) (v := I 76 (32 + 6 * nI c + 5 : Int32).toNatClampNeg + nI a) (w := G (37 + 6 * c) + a) (by rw [bm_rd hs hx (by omega)]; exact nI_add _ _)
  rw [bm_fs1_adk] at e
  exact e
theorem mx_k2_s {G : Nat → Nat} {c a : Nat} (hs : bm_s I G) (hc : c < 6) : bm_s (mx_k2 I c (nI a)) (fun y => G y + if y = 36 + 6 * c then a else 0) := by
  have hx : (32 + 6 * nI c + 4 : Int32) = nI (36 + 6 * c) := (ix_c c 4).trans (congrArg nI (by omega))
  have e := bm_sset hs hx (by omega) (v := I 76 (32 + 6 * nI c + 4 : Int32).toNatClampNeg + nI a) (w := G (36 + 6 * c) + a) (by rw [bm_rd hs hx (by omega)]; exact nI_add _ _)
  rw [bm_fs1_adk] at e
  exact e
theorem m_cast_turn {m c : Nat} {G : Nat → Nat} {s r u : Int32} (v : bm_VV S) (hs : bm_s I G) (U : tx_U S.1 G) (h : mx_H I s r u (nI m)) (hA : mx_A I S m) (hB : tx_B S m) (hc : c < S.1 0) {w2 w3 : Option bm_V} {o : Nat} :
    bm_rn z_X8_cast (o + 1) 41 ([some (.inr (some 75)), some (.inl (nI c)), w2, w3], [], bm_mk n I) = bm_rn z_X8_cast o 41 ([some (.inr (some 75)), some (.inl (nI c + 1)), some (.inl (nI (tx_n S m c))), w3], [], bm_mk n (mx_k2 (mx_k1 I c (nI (if tx_n S m c = 0 ∧ 0 < S.1 (35 + 6 * c) then 1 else 0))) c (nI (if S.1 (33 + 6 * c) < tx_n S m c then 1 else 0)))) := by
  have h6 := v.1.1
  have hb := v.1.2.2.2.2.2.2.2.2.2.1 c (by omega)
  have hm := hB.2.2.2.1
  have hn := tx_n_le (S := S) (m := m) (c := c)
  have g0 : G 0 = S.1 0 := U 0 (by omega) (by omega) (by omega)
  have g33 : G (33 + 6 * c) = S.1 (33 + 6 * c) := U _ (by omega) (by omega) (by omega)
  have g35 : G (35 + 6 * c) = S.1 (35 + 6 * c) := U _ (by omega) (by omega) (by omega)
  have e1 := m_marksIn (n := n) h hA hB (c := c) (by omega) rfl
  have e3 := m_names (n := n) hs (c := c) (by omega)
  rw [g35] at e3
  have e4 : ∀ a : Nat, f_X8_of [.inr (some 75), .inl (nI c), .inl 1] (bm_mk n (mx_k1 I c (nI a))) = some (some (.inl (nI (S.1 (33 + 6 * c)))), bm_mk n (mx_k1 I c (nI a))) := by
    intro a
    refine (m_of (mx_k1_s hs (by omega)) (c := c) (w := 1) rfl rfl (by omega)).trans (bm_ok (congrArg nI ?_))
    rw [show 32 + 6 * c + 1 = 33 + 6 * c by omega, if_neg (by omega), g33]
    rfl
  have n5 : ¬ ((32 + 6 * nI c + 5 : Int32) < 0 ∨ 164 ≤ (32 + 6 * nI c + 5 : Int32).toNatClampNeg) := bm_nix (N := 164) (ix_c c 5) (by omega) (by decide)
  have n4 : ¬ ((32 + 6 * nI c + 4 : Int32) < 0 ∨ 164 ≤ (32 + 6 * nI c + 4 : Int32).toNatClampNeg) := bm_nix (N := 164) (ix_c c 4) (by omega) (by decide)
  by_cases c1 : tx_n S m c = 0
  · have nb : ¬ S.1 (33 + 6 * c) < tx_n S m c := by omega
    rw [if_neg nb]
    by_cases c2 : 0 < S.1 (35 + 6 * c)
    · rw [if_pos ⟨c1, c2⟩]
      refine bm_le (G 0) c (hs 0 (by decide)) rfl (by omega) (by omega) (fun z => absurd z (by omega)) (fun _ => ?_)
      refine bm_bd e1 ?_
      refine bm_ie n5 ?_
      refine bm_eq (tx_n S m c) 0 rfl rfl (by omega) (by decide) (fun _ => ?_) (fun z => absurd z (by omega))
      refine bm_bd e3 ?_
      refine bm_le (S.1 (35 + 6 * c)) 0 rfl rfl (by omega) (by decide) (fun z => absurd z (by omega)) (fun _ => ?_)
      refine bm_ie n5 ?_
      refine bm_ie n4 ?_
      refine bm_bd (e4 1) ?_
      refine bm_le (tx_n S m c) (S.1 (33 + 6 * c)) rfl rfl (by omega) (by omega) (fun _ => ?_) (fun z => absurd z (by omega))
      refine bm_ie n4 ?_
      rfl
    · rw [if_neg (fun z => c2 z.2)]
      refine bm_le (G 0) c (hs 0 (by decide)) rfl (by omega) (by omega) (fun z => absurd z (by omega)) (fun _ => ?_)
      refine bm_bd e1 ?_
      refine bm_ie n5 ?_
      refine bm_eq (tx_n S m c) 0 rfl rfl (by omega) (by decide) (fun _ => ?_) (fun z => absurd z (by omega))
      refine bm_bd e3 ?_
      refine bm_le (S.1 (35 + 6 * c)) 0 rfl rfl (by omega) (by decide) (fun _ => ?_) (fun z => absurd z (by omega))
      refine bm_ie n5 ?_
      refine bm_ie n4 ?_
      refine bm_bd (e4 0) ?_
      refine bm_le (tx_n S m c) (S.1 (33 + 6 * c)) rfl rfl (by omega) (by omega) (fun _ => ?_) (fun z => absurd z (by omega))
      refine bm_ie n4 ?_
      rfl
  · rw [if_neg (fun z => c1 z.1)]
    by_cases c2 : S.1 (33 + 6 * c) < tx_n S m c
    · rw [if_pos c2]
      refine bm_le (G 0) c (hs 0 (by decide)) rfl (by omega) (by omega) (fun z => absurd z (by omega)) (fun _ => ?_)
      refine bm_bd e1 ?_
      refine bm_ie n5 ?_
      refine bm_eq (tx_n S m c) 0 rfl rfl (by omega) (by decide) (fun z => absurd z (by omega)) (fun _ => ?_)
      refine bm_ie n5 ?_
      refine bm_ie n4 ?_
      refine bm_bd (e4 0) ?_
      refine bm_le (tx_n S m c) (S.1 (33 + 6 * c)) rfl rfl (by omega) (by omega) (fun z => absurd z (by omega)) (fun _ => ?_)
      refine bm_ie n4 ?_
      rfl
    · rw [if_neg c2]
      refine bm_le (G 0) c (hs 0 (by decide)) rfl (by omega) (by omega) (fun z => absurd z (by omega)) (fun _ => ?_)
      refine bm_bd e1 ?_
      refine bm_ie n5 ?_
      refine bm_eq (tx_n S m c) 0 rfl rfl (by omega) (by decide) (fun z => absurd z (by omega)) (fun _ => ?_)
      refine bm_ie n5 ?_
      refine bm_ie n4 ?_
      refine bm_bd (e4 0) ?_
      refine bm_le (tx_n S m c) (S.1 (33 + 6 * c)) rfl rfl (by omega) (by omega) (fun _ => ?_) (fun z => absurd z (by omega))
      refine bm_ie n4 ?_
      rfl
theorem mx_A.fz {m : Nat} (h : mx_A I S m) (f : ∀ k, k ≠ 76 → J k = I k) : mx_A J S m := by
  unfold mx_A
  rw [f 81 (by decide), f 82 (by decide), f 83 (by decide)]
  exact h
theorem mx_H.fz {s r u m : Int32} (h : mx_H I s r u m) (f : ∀ k, k ≠ 76 → J k = I k) : mx_H J s r u m := by
  unfold mx_H
  rw [f 75 (by decide)]
  exact h
theorem m_cast_loop {m : Nat} {s r u : Int32} (v : bm_VV S) (hB : tx_B S m) {w3 : Option bm_V} {o : Nat} : ∀ (d c : Nat) (x : Int32) (w2 : Option bm_V) (I : Nat → Nat → Int32), bm_s I (mx_cf S m c) → mx_H I s r u (nI m) → mx_A I S m → x = nI c → c + d = S.1 0 →
    ∃ J w2', bm_rn z_X8_cast (o + d) 41 ([some (.inr (some 75)), some (.inl x), w2, w3], [], bm_mk n I) = bm_rn z_X8_cast o 41 ([some (.inr (some 75)), some (.inl (nI (S.1 0))), w2', w3], [], bm_mk n J) ∧ bm_s J (mx_cf S m (S.1 0)) ∧ (∀ k, k ≠ 76 → J k = I k) := by
  have h6 := v.1.1
  intro d
  induction d with
  | zero =>
    intro c x w2 I hs h hA hx hc
    have hc : c = S.1 0 := by omega
    rw [← hc, ← hx]
    exact ⟨I, w2, rfl, hs, fun _ _ => rfl⟩
  | succ d ih =>
    intro c x w2 I hs h hA hx hc
    subst hx
    have e := m_cast_turn (n := n) (o := o + d) (w2 := w2) (w3 := w3) v hs (mx_cf_U (by omega)) h hA hB (c := c) (by omega)
    have s1 := mx_k1_s (a := if tx_n S m c = 0 ∧ 0 < S.1 (35 + 6 * c) then 1 else 0) hs (show c < 6 by omega)
    have s2 := mx_k2_s (a := if S.1 (33 + 6 * c) < tx_n S m c then 1 else 0) s1 (show c < 6 by omega)
    have s3 : (fun y => (mx_cf S m c y + if y = 37 + 6 * c then (if tx_n S m c = 0 ∧ 0 < S.1 (35 + 6 * c) then 1 else 0) else 0) + if y = 36 + 6 * c then (if S.1 (33 + 6 * c) < tx_n S m c then 1 else 0) else 0) = mx_cf S m (c + 1) := by
      funext y
      show _ = (S.1 y + if y = 1 then 1 else 0) + (sumN (fun k => mx_w S m k y) c + mx_w S m c y)
      unfold mx_cf mx_w
      omega
    have s2 : bm_s _ (fun y => (mx_cf S m c y + if y = 37 + 6 * c then (if tx_n S m c = 0 ∧ 0 < S.1 (35 + 6 * c) then 1 else 0) else 0) + if y = 36 + 6 * c then (if S.1 (33 + 6 * c) < tx_n S m c then 1 else 0) else 0) := s2
    rw [s3] at s2
    have f : ∀ k, k ≠ 76 → mx_k2 (mx_k1 I c (nI (if tx_n S m c = 0 ∧ 0 < S.1 (35 + 6 * c) then 1 else 0))) c (nI (if S.1 (33 + 6 * c) < tx_n S m c then 1 else 0)) k = I k := fun k hk => (va_up_ne _ _ hk).trans (va_up_ne _ _ hk)
    obtain ⟨J, w2', e', hs', f'⟩ := ih (c + 1) (nI c + 1) (some (.inl (nI (tx_n S m c)))) _ s2 (h.fz f) (hA.fz f) (nI_1 c) (by omega)
    exact ⟨J, w2', e.trans e', hs', fun k hk => (f' k hk).trans (f k hk)⟩
theorem m_votes_loop {m : Nat} {s r : Int32} (v : bm_VV S) (hB : tx_B S m) (hN : ∀ i, i < m → tx_c S i < S.1 0 ∧ tx_q S i < S.1 (35 + 6 * tx_c S i)) (h1 : S.1 1 < 9999) : ∀ (d k : Nat) (x y : Int32) (w3 : Option bm_V) (o : Nat) (I : Nat → Nat → Int32), bm_s I (mx_vf S m k) → mx_H I s r (nI (tx_v S)) (nI m) → mx_A I S m → x = nI k → y = nI (mx_vn S m k) → k + d = m → d < o →
    ∃ J, bm_rn z_X8_cast o 134 ([some (.inr (some 75)), some (.inl y), some (.inl x), w3], [], bm_mk n I) = some (some (.inl (nI (mx_vn S m m))), bm_mk n J) ∧ bm_s J (mx_vf S m m) ∧ (∀ k, k ≠ 76 → J k = I k) := by
  have h6 := v.1.1
  obtain ⟨-, -, hv, hm, hb, -⟩ := id hB
  intro d
  induction d with
  | zero =>
    intro k x y w3 o I hs h hA hx hy hk ho
    obtain ⟨o, rfl⟩ : ∃ q, o = q + 1 := ⟨o - 1, by omega⟩
    have hk : k = m := by omega
    subst hk; subst hx
    refine ⟨I, ?_, hs, fun _ _ => rfl⟩
    refine bm_it (by show I 75 15 ≤ _; rw [h.2.2.2]; exact Int32.le_refl _) ?_
    exact bm_ok hy
  | succ d ih =>
    intro k x y w3 o I hs h hA hx hy hk ho
    obtain ⟨o, rfl⟩ : ∃ q, o = q + 1 := ⟨o - 1, by omega⟩
    subst hx
    have b1 := hb k (by omega)
    have ok := hN k (by omega)
    have ck : (nI k).toNatClampNeg = k := nI_clamp (by omega)
    obtain ⟨a1, a2, -⟩ := hA k (by omega)
    have U := mx_vf_U v (m := m) (k := k)
    have V := U.V v.1 (by rw [mx_vf_1]; omega)
    have h8 := v.1.2.2.2.2.2.2.2.2.2.1 (tx_c S k) (by omega)
    have g33 : mx_vf S m k (33 + 6 * tx_c S k) = S.1 (33 + 6 * tx_c S k) := U _ (by omega) (by omega) (by omega)
    have g35 : mx_vf S m k (35 + 6 * tx_c S k) = S.1 (35 + 6 * tx_c S k) := U _ (by omega) (by omega) (by omega)
    have r1 : I 82 (nI k).toNatClampNeg = nI (tx_c S k) := by rw [ck]; exact a1
    have r2 : I 83 (nI k).toNatClampNeg = nI (tx_q S k) := by rw [ck]; exact a2
    have hn := tx_n_le (S := S) (m := m) (c := tx_c S k)
    have e1 := m_marksIn (n := n) h hA hB (c := tx_c S k) (by omega) r1
    have e2 := (m_of (n := n) hs (c := tx_c S k) (w := 1) (y := 1) r1 rfl (by omega)).trans (bm_ok (congrArg nI ((congrArg (mx_vf S m k) (show 32 + 6 * tx_c S k + 1 = 33 + 6 * tx_c S k by omega)).trans g33)))
    have nk : ¬ (nI k < 0 ∨ 20 ≤ (nI k).toNatClampNeg) := bm_nix (N := 20) (k := k) rfl (by omega) (by decide)
    by_cases c1 : mx_ok S m (tx_c S k)
    · have e3 := m_standing (n := n) hs V (v := tx_v S) (c := tx_c S k) (q := tx_q S k) (by omega) (by omega) (by rw [g35]; exact ok.2)
      rw [U.sd (by omega), ← h.2.2.1, ← r1, ← r2] at e3
      have lt := bm_sd_lt (v := tx_v S) ok.2
      have hx : (68 + 16 * I 82 (nI k).toNatClampNeg + 2 * nI (bm_sd' S.1 (tx_v S) (tx_c S k) (tx_q S k)) + 1 : Int32) = nI (tx_vc S k) := by
        rw [r1]
        refine (ix_v _ _).trans (congrArg nI ?_)
        unfold tx_vc
        omega
      have hk1 : tx_vc S k < 164 := by unfold tx_vc; omega
      have s2 := bm_sset hs hx hk1 (v := I 76 (68 + 16 * I 82 (nI k).toNatClampNeg + 2 * nI (bm_sd' S.1 (tx_v S) (tx_c S k) (tx_q S k)) + 1 : Int32).toNatClampNeg + 1) (w := mx_vf S m k (tx_vc S k) + 1) (by rw [bm_rd hs hx hk1]; exact nI_1 _)
      have nx := bm_nix (N := 164) hx hk1 (by decide)
      have s3 : bm_fs1 (mx_vf S m k) (tx_vc S k) (mx_vf S m k (tx_vc S k) + 1) = mx_vf S m (k + 1) := by
        rw [bm_fs1_adk]
        funext y
        show _ = mx_cf S m (S.1 0) y + (sumN (fun i => if mx_ok S m (tx_c S i) ∧ y = tx_vc S i then 1 else 0) k + (if mx_ok S m (tx_c S k) ∧ y = tx_vc S k then 1 else 0))
        rw [← Nat.add_assoc]
        congr 1
        by_cases z : y = tx_vc S k
        · rw [if_pos z, if_pos ⟨c1, z⟩]
        · rw [if_neg z, if_neg (fun t => z t.2)]
      rw [s3] at s2
      have hy' : y + 1 = nI (mx_vn S m (k + 1)) := by
        rw [hy]
        show _ = nI (mx_vn S m k + (if mx_ok S m (tx_c S k) ∧ True then 1 else 0))
        rw [if_pos ⟨c1, trivial⟩]
        exact nI_1 _
      obtain ⟨J, e, hs', f'⟩ := ih (k + 1) (nI k + 1) (y + 1) (some (.inl (I 82 (nI k).toNatClampNeg))) o _ s2 (h.fz (fun k hk => va_up_ne _ _ hk)) (hA.fz (fun k hk => va_up_ne _ _ hk)) (nI_1 k) hy' (by omega) (by omega)
      refine ⟨J, ?_, hs', fun k hk => (f' k hk).trans (va_up_ne _ _ hk)⟩
      refine bm_le m k h.2.2.2 rfl (by omega) (by omega) (fun z => absurd z (by omega)) (fun _ => ?_)
      refine bm_ie nk ?_
      refine bm_bd e1 ?_
      refine bm_bd e2 ?_
      refine bm_lt (S.1 (33 + 6 * tx_c S k)) (tx_n S m (tx_c S k)) rfl rfl (by omega) (by omega) (fun z => absurd c1 (by unfold mx_ok; omega)) (fun _ => ?_)
      refine bm_ie nk ?_
      refine bm_bd e3 ?_
      refine bm_ie nx ?_
      refine bm_ie nx ?_
      exact e
    · have s3 : mx_vf S m k = mx_vf S m (k + 1) := by
        funext y
        show _ = mx_cf S m (S.1 0) y + (sumN (fun i => if mx_ok S m (tx_c S i) ∧ y = tx_vc S i then 1 else 0) k + (if mx_ok S m (tx_c S k) ∧ y = tx_vc S k then 1 else 0))
        rw [if_neg (fun t => c1 t.1)]
        rfl
      have hy' : y = nI (mx_vn S m (k + 1)) := by
        rw [hy]
        show _ = nI (mx_vn S m k + (if mx_ok S m (tx_c S k) ∧ True then 1 else 0))
        rw [if_neg (fun t => c1 t.1)]
        rfl
      obtain ⟨J, e, hs', f'⟩ := ih (k + 1) (nI k + 1) y (some (.inl (I 82 (nI k).toNatClampNeg))) o I (by rw [← s3]; exact hs) h hA (nI_1 k) hy' (by omega) (by omega)
      refine ⟨J, ?_, hs', f'⟩
      refine bm_le m k h.2.2.2 rfl (by omega) (by omega) (fun z => absurd z (by omega)) (fun _ => ?_)
      refine bm_ie nk ?_
      refine bm_bd e1 ?_
      refine bm_bd e2 ?_
      refine bm_lt (S.1 (33 + 6 * tx_c S k)) (tx_n S m (tx_c S k)) rfl rfl (by omega) (by omega) (fun _ => ?_) (fun z => absurd (show mx_ok S m (tx_c S k) by unfold mx_ok; omega) c1)
      exact e
/-- behind changes nothing but the count of the past and its rows is another -/
theorem m_changes2 (h : bm_RM I S) (h4 : S.2.1 ≤ 4) : ∃ J, f_X8_changes [.inr (some 75)] (bm_mk n I) = some (none, bm_mk n J) ∧ bm_RM J (bm_pu S S.1) ∧ bm_fz I J 75 77 ∧ ∀ j, j ≠ 2 → J 75 j = I 75 j := by
  obtain ⟨J, e, hJ, fJ⟩ := m_changes (n := n) h h4
  obtain ⟨hs, hp, hq, ht, hT⟩ := h
  suffices H : ∃ L, f_X8_changes [.inr (some 75)] (bm_mk n I) = some (none, bm_mk n L) ∧ ∀ j, j ≠ 2 → L 75 j = I 75 j from by
    obtain ⟨L, e2, f2⟩ := H
    have q : bm_mk n J = bm_mk n L := congrArg Prod.snd (Option.some.inj (e.symm.trans e2))
    have q2 : J = L := congrArg (fun M : bm_M => M.2.2.2.1) q
    exact ⟨J, e, hJ, fJ, by rw [q2]; exact f2⟩
  by_cases h5 : S.2.1 = 4
  · rw [h5] at hp
    obtain ⟨L, e, f1, f2, f3, f4, f5⟩ := m_changes_shift (n := n) (I := I) 491 1 (0 + 1) (va_up I 77 (upd (I 77) 0 (I 77 164))) 999 rfl (fun k hk => va_up_ne _ _ hk) hp (fun j hj => by
      have : j = 0 := by omega
      subst this; rfl) (fun j hj => if_neg (by omega)) (by omega) (by omega)
    have e2 : bm_rn z_X8_changes 1000 0 ([some (.inr (some 75)), none], [], bm_mk n I) = some (none, bm_mk n L) := by
      show bm_ra (bm_rn z_X8_changes 999) z_X8_changes 0 ([some (.inr (some 75)), none], [], bm_mk n I) = some (none, bm_mk n L)
      generalize bm_rn z_X8_changes 999 = k at e ⊢
      exact bm_it (show I 75 2 = 4 from hp) e
    exact ⟨L, bm_g u_X8_changes e2, f2⟩
  · obtain ⟨L, e, f1, f2, f3, f4, f5⟩ := m_changes_end (n := n) (I := I) (P := S.2.1) (by omega) 164 0 0 I 1000 rfl (fun _ _ => rfl) hp (fun j hj => absurd hj (Nat.not_lt_zero j)) (fun _ _ => rfl) (by omega) (by omega)
    exact ⟨L, bm_g u_X8_changes (bm_ie (fun z => h5 ((nI_eq (by omega) (by decide)).mp (show nI S.2.1 = nI 4 from hp.symm.trans z))) e), f2⟩
theorem m_cast (h : bm_RM I S) (v : bm_VV S) : bm_mp n I (f_X8_cast [.inr (some 75)]) (sp_cast S) := by
  obtain ⟨J, b, e, z, hQ⟩ := m_isRight (n := n) h v
  have hJ := h.z z
  have h6 := v.1.1
  have h9 := v.1.2.1
  cases hf : tx_f S with
  | some ra =>
    obtain ⟨r, a⟩ := ra
    obtain ⟨rfl, h5, -⟩ := hQ.1 r a hf
    have e0 : sp_cast S = (-2, S) := by unfold sp_cast; rw [hf]
    rw [e0]
    refine ⟨J, bm_g u_X8_cast ?_, hJ, z.fz⟩
    refine bm_bd e ?_
    rfl
  | none =>
    obtain ⟨rfl, ⟨s, hH⟩, hA⟩ := hQ.2 hf
    have hE1 : (tx_e S).1 = none := by
      cases hE : (tx_e S).1 with
      | none => rfl
      | some a => rw [tx_f_so (show tx_e S = (some a, (tx_e S).2) by rw [← hE])] at hf; cases hf
    have hE : tx_e S = (none, (tx_e S).2) := by rw [← hE1]
    have hB := tx_e_ok v hE
    have hN := (tx_f_none hf hE).2
    by_cases c1 : S.1 1 < 9999
    · have e0 : sp_cast S = (nI (tx_vs S (tx_e S).2 (S.1 0)), bm_pu S (tx_cf S (tx_e S).2 (S.1 0))) := by unfold sp_cast; rw [hf]; exact if_pos c1
      rw [e0]
      generalize (tx_e S).2 = m at hH hA hB hN
      obtain ⟨K, e2, hK, f2, g2⟩ := m_changes2 (n := n) hJ v.2.1
      have s1 : bm_s (va_up K 76 (upd (K 76) 1 (K 76 1 + 1))) (mx_cf S m 0) := by
        have q := bm_sset (F := S.1) hK.1 (x := 1) (k := 1) (v := K 76 1 + 1) (w := S.1 1 + 1) rfl (by decide) (by rw [hK.1 1 (by decide)]; exact nI_1 _)
        rw [bm_fs1_adk] at q
        exact q
      have hH1 : mx_H (va_up K 76 (upd (K 76) 1 (K 76 1 + 1))) s (nI 0) (nI (tx_v S)) (nI m) := ⟨(g2 12 (by decide)).trans hH.1, (g2 13 (by decide)).trans hH.2.1, (g2 14 (by decide)).trans hH.2.2.1, (g2 15 (by decide)).trans hH.2.2.2⟩
      have hA1 : mx_A (va_up K 76 (upd (K 76) 1 (K 76 1 + 1))) S m := by
        intro i hi
        have q := hA i hi
        rw [← f2 82 (by decide), ← f2 83 (by decide), ← f2 81 (by decide)] at q
        exact q
      obtain ⟨L1, w2, e3, s2, f3⟩ := m_cast_loop (n := n) (o := 1000 - S.1 0) (w3 := none) v hB (S.1 0) 0 0 none _ s1 hH1 hA1 rfl (by omega)
      rw [show 1000 - S.1 0 + S.1 0 = 1000 by omega] at e3
      obtain ⟨o, ho⟩ : ∃ q, 1000 - S.1 0 = q + 1 := ⟨1000 - S.1 0 - 1, by omega⟩
      rw [ho] at e3
      have s2' : bm_s L1 (mx_vf S m 0) := s2
      obtain ⟨L, e4, s4, f4⟩ := m_votes_loop (n := n) v hB hN c1 m 0 0 0 none (o + 1) L1 s2' (hH1.fz f3) (hA1.fz f3) rfl rfl (by omega) (by have := hB.2.2.2.1; omega)
      rw [mx_vf_eq (fun i hi => (hN i hi).1)] at s4
      rw [mx_vn_eq (fun i hi => (hN i hi).1)] at e4
      have fL : ∀ k, k ≠ 76 → L k = K k := fun k hk => (f4 k hk).trans ((f3 k hk).trans (va_up_ne _ _ hk))
      have g0 : L1 76 0 = nI (S.1 0) := (s2 0 (by decide)).trans (congrArg nI (mx_cf_U (by omega) 0 (by omega) (by omega) (by omega)))
      refine ⟨L, bm_g u_X8_cast ?_, ?_, (z.fz.tr (f2.wd (by decide) (by decide))).tr (fun k hk => fL k (by omega))⟩
      · refine bm_bd e ?_
        refine bm_eq (S.1 1) 9999 (hJ.1 1 (by decide)) rfl (by omega) (by decide) (fun z => absurd z (by omega)) (fun _ => ?_)
        refine bm_bd e2 ?_
        refine Eq.trans e3 ?_
        refine bm_it (by show L1 76 0 ≤ _; rw [g0]; exact Int32.le_refl _) ?_
        exact e4
      · obtain ⟨-, hp, hq, ht, hT⟩ := hK
        refine ⟨s4, ?_, ?_, ?_, ?_⟩
        · rw [fL 75 (by decide)]; exact hp
        · intro j hj k hk; rw [fL 77 (by decide)]; exact hq j hj k hk
        · rw [fL 75 (by decide)]; exact ht
        · intro j hj; rw [fL 78 (by decide)]; exact hT j hj
    · have e0 : sp_cast S = (-3, S) := by unfold sp_cast; rw [hf]; exact if_neg c1
      rw [e0]
      refine ⟨J, bm_g u_X8_cast ?_, hJ, z.fz⟩
      refine bm_bd e ?_
      refine bm_eq (S.1 1) 9999 (hJ.1 1 (by decide)) rfl (by omega) (by decide) (fun _ => ?_) (fun z => absurd (show S.1 1 = 9999 by omega) z)
      rfl
end MC3
