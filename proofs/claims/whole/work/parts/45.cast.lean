set_option maxRecDepth 100000
/-! CAST OF THE CLASS -/
section CC
variable {n : Nat} {I J : Nat → Nat → Int32} {S : bm_S}
theorem e_marksIn_loop {m c : Nat} {u a r : Int32} (h : tx_H I u (nI m) a r) (hA : tx_A I S m) (hB : tx_B S m) (hc : c < 6) : ∀ (d i : Nat) (x y : Int32) (o : Nat), x = nI i → y = nI (tx_n S i c) → i + d = m → d < o →
    bm_rn z_X0_marksIn o 4 ([some (.inr (some 71)), some (.inl (nI c)), some (.inl y), some (.inl x)], [], bm_mk n I) = some (some (.inl (nI (tx_n S m c))), bm_mk n I) := by
  obtain ⟨-, -, hv, hm, hb, -⟩ := hB
  intro d
  induction d with
  | zero =>
    intro i x y o hx hy hi ho
    obtain ⟨o, rfl⟩ : ∃ q, o = q + 1 := ⟨o - 1, by omega⟩
    have hi : i = m := by omega
    subst hi; subst hx
    refine bm_it (by show I 71 4 ≤ _; rw [h.2.1]; exact Int32.le_refl _) ?_
    exact bm_ok hy
  | succ d ih =>
    intro i x y o hx hy hi ho
    obtain ⟨o, rfl⟩ : ∃ q, o = q + 1 := ⟨o - 1, by omega⟩
    subst hx
    have a1 := (hA i (by omega)).1
    have b1 := hb i (by omega)
    refine bm_le m i h.2.1 rfl (by omega) (by omega) (fun z => absurd z (by omega)) (fun _ => ?_)
    refine bm_bd (e_gk (a := 72) (N := 13) rfl rfl (by decide) (by omega)) ?_
    refine bm_eq (tx_c S i) c a1 rfl (by omega) (by omega) (fun q => ?_) (fun q => ?_)
    · refine ih (i + 1) _ _ o (nI_1 i) ?_ (by omega) (by omega)
      rw [hy]
      show _ = nI (tx_n S i c + (if tx_c S i = c then 1 else 0))
      rw [if_pos q]
      exact nI_1 _
    · refine ih (i + 1) _ _ o (nI_1 i) ?_ (by omega) (by omega)
      rw [hy]
      show _ = nI (tx_n S i c + (if tx_c S i = c then 1 else 0))
      rw [if_neg q]
      rfl
theorem e_marksIn {m c : Nat} {u a r : Int32} (h : tx_H I u (nI m) a r) (hA : tx_A I S m) (hB : tx_B S m) (hc : c < 6) {x : Int32} (hx : x = nI c) : f_X0_marksIn [.inr (some 71), .inl x] (bm_mk n I) = some (some (.inl (nI (tx_n S m c))), bm_mk n I) := by
  subst hx
  exact bm_g u_X0_marksIn (e_marksIn_loop h hA hB hc m 0 0 0 1000 rfl rfl (by omega) (by have := hB.2.2.2.1; omega))
theorem tx_n_le {m c : Nat} : tx_n S m c ≤ m := by
  unfold tx_n
  induction m with
  | zero => exact Nat.le_refl _
  | succ m ih =>
    unfold sumN
    by_cases q : tx_c S m = c
    · rw [if_pos q]; omega
    · rw [if_neg q]; omega
/-- what a contest's part of the ballot adds -/
def tx_w (S : bm_S) (m c y : Nat) : Nat := if S.1 (33 + 6 * c) < tx_n S m c then (if y = 36 + 6 * c then 1 else 0) else if 0 < tx_n S m c then sumN (fun i => if tx_c S i = c ∧ y = tx_vc S i then 1 else 0) m else if 0 < S.1 (35 + 6 * c) then (if y = 37 + 6 * c then 1 else 0) else 0
def tx_cf (S : bm_S) (m c : Nat) : Nat → Nat := fun y => (S.1 y + if y = 1 then 1 else 0) + sumN (fun k => tx_w S m k y) c
/-- the votes of the ballot -/
def tx_vs (S : bm_S) (m c : Nat) : Nat := sumN (fun k => if S.1 (33 + 6 * k) < tx_n S m k then 0 else tx_n S m k) c
theorem tx_w_U {m c y : Nat} (hc : c < 6) (y2 : 32 ≤ y → y < 68 → (y - 32) % 6 < 4) (y3 : 68 ≤ y → y % 2 = 0) : tx_w S m c y = 0 := by
  unfold tx_w
  by_cases c1 : S.1 (33 + 6 * c) < tx_n S m c
  · rw [if_pos c1, if_neg (fun z => absurd (y2 (by omega) (by omega)) (by omega))]
  · rw [if_neg c1]
    by_cases c2 : 0 < tx_n S m c
    · rw [if_pos c2]
      refine sumN_0 (fun i _ => if_neg (fun z => ?_))
      have := z.2
      unfold tx_vc at this
      have := y3 (by omega)
      omega
    · rw [if_neg c2]
      by_cases c3 : 0 < S.1 (35 + 6 * c)
      · rw [if_pos c3, if_neg (fun z => absurd (y2 (by omega) (by omega)) (by omega))]
      · rw [if_neg c3]
theorem tx_cf_U {m c : Nat} (hc : c ≤ 6) : tx_U S.1 (tx_cf S m c) := by
  intro y y1 y2 y3
  unfold tx_cf
  rw [if_neg y1, sumN_0 (fun k hk => tx_w_U (by omega) y2 y3)]
  rfl
theorem tx_cf_1 {m c : Nat} (hc : c ≤ 6) : tx_cf S m c 1 = S.1 1 + 1 := by
  unfold tx_cf
  rw [if_pos rfl, sumN_0 (fun k hk => tx_w_U (by omega) (by omega) (by omega))]
theorem e_addVotes {m c : Nat} {a r : Int32} {G : Nat → Nat} (v : bm_VV S) (hB : tx_B S m) (hN : ∀ i, i < m → tx_c S i < S.1 0 ∧ tx_q S i < S.1 (35 + 6 * tx_c S i)) (u : tx_U S.1 G) (h1 : G 1 ≤ 9999) (hc : c < 6) (p : bm_P I 5 G) (h : tx_H I (nI (tx_v S)) (nI m) a r) (hA : tx_A I S m) : ∃ J, f_X0_addVotes [.inr (some 71), .inr (some 5), .inl (nI c)] (bm_mk n I) = some (none, bm_mk n J) ∧ bm_fz I J 5 15 ∧ bm_P J 5 (tx_av S G c m) := by
  obtain ⟨J, e, f, q⟩ := e_addVotes_loop (n := n) v hB hN u h1 hc m 0 0 1000 I p h hA rfl (by omega) (by have := hB.2.2.2.1; omega)
  exact ⟨J, bm_g u_X0_addVotes e, f, q⟩
theorem e_countIn_loop {m : Nat} {a r : Int32} (v : bm_VV S) (hB : tx_B S m) (hN : ∀ i, i < m → tx_c S i < S.1 0 ∧ tx_q S i < S.1 (35 + 6 * tx_c S i)) (h1 : S.1 1 < 9999) : ∀ (d c : Nat) (x y : Int32) (w : Option bm_V) (o : Nat) (I : Nat → Nat → Int32), bm_P I 5 (tx_cf S m c) → tx_H I (nI (tx_v S)) (nI m) a r → tx_A I S m → x = nI c → y = nI (tx_vs S m c) → c + d = S.1 0 → d < o →
    ∃ J, bm_rn z_X0_countIn o 8 ([some (.inr (some 71)), some (.inr (some 5)), some (.inl y), some (.inl x), w], [], bm_mk n I) = some (some (.inl (nI (tx_vs S m (S.1 0)))), bm_mk n J) ∧ bm_fz I J 5 15 ∧ bm_P J 5 (tx_cf S m (S.1 0)) := by
  have h6 := v.1.1
  have hm := hB.2.2.2.1
  intro d
  induction d with
  | zero =>
    intro c x y w o I p h hA hx hy hk ho
    obtain ⟨o, rfl⟩ : ∃ q, o = q + 1 := ⟨o - 1, by omega⟩
    have hk : c = S.1 0 := by omega
    have h0 : tx_cf S m c 0 = S.1 0 := tx_cf_U (by omega) 0 (by omega) (by omega) (by omega)
    subst hx
    refine ⟨I, ?_, bm_fz.rf, by rw [← hk]; exact p⟩
    refine bm_bd (e_contests p) ?_
    refine bm_it (by rw [h0, hk]; exact Int32.le_refl _) ?_
    exact bm_ok (by rw [hy, hk])
  | succ d ih =>
    intro c x y w o I p h hA hx hy hk ho
    obtain ⟨o, rfl⟩ : ∃ q, o = q + 1 := ⟨o - 1, by omega⟩
    subst hx
    have hc : c < 6 := by omega
    have U := tx_cf_U (S := S) (m := m) (c := c) (by omega)
    have hn1 := tx_cf_1 (S := S) (m := m) (c := c) (by omega)
    have V := U.V v.1 (by rw [hn1]; omega)
    have h0 : tx_cf S m c 0 = S.1 0 := U 0 (by omega) (by omega) (by omega)
    have h33 : tx_cf S m c (33 + 6 * c) = S.1 (33 + 6 * c) := U _ (by omega) (by omega) (by omega)
    have h35 : tx_cf S m c (35 + 6 * c) = S.1 (35 + 6 * c) := U _ (by omega) (by omega) (by omega)
    have hb := v.1.2.2.2.2.2.2.2.2.2.1 c hc
    have hn := tx_n_le (S := S) (m := m) (c := c)
    have e1 := e_marksIn (n := n) h hA hB hc rfl
    have e2 := e_seatsOf (n := n) p hc
    rw [h33] at e2
    by_cases c1 : S.1 (33 + 6 * c) < tx_n S m c
    · obtain ⟨L, e3, p3, f3⟩ := e_addSpoilt (n := n) p hc
      have p4 : bm_P L 5 (tx_cf S m (c + 1)) := by
        rw [bm_fs1_ad] at p3
        refine _root_.cast ?_ p3
        congr 1
        funext y
        show _ = _ + (_ + tx_w S m c y)
        unfold tx_w
        rw [if_pos c1, ← Nat.add_assoc]
        rfl
      have hy' : y = nI (tx_vs S m (c + 1)) := by
        rw [hy]
        show _ = nI (tx_vs S m c + (if S.1 (33 + 6 * c) < tx_n S m c then 0 else tx_n S m c))
        rw [if_pos c1]; rfl
      obtain ⟨K, e', f', p'⟩ := ih (c + 1) (nI c + 1) y (some (.inl (nI (tx_n S m c)))) o L p4 (h.fz f3 (by decide)) (hA.fz f3 (by decide)) (nI_1 c) hy' (by omega) (by omega)
      refine ⟨K, ?_, f3.tr f', p'⟩
      refine bm_bd (e_contests p) ?_
      refine bm_le _ c rfl rfl (by omega) (by omega) (fun z => absurd z (by omega)) (fun _ => ?_)
      refine bm_bd e1 ?_
      refine bm_bd e2 ?_
      refine bm_le (tx_n S m c) (S.1 (33 + 6 * c)) rfl rfl (by omega) (by omega) (fun z => absurd z (by omega)) (fun _ => ?_)
      refine bm_bd e3 ?_
      exact e'
    · have hy' : y + nI (tx_n S m c) = nI (tx_vs S m (c + 1)) := by
        rw [hy]
        show _ = nI (tx_vs S m c + (if S.1 (33 + 6 * c) < tx_n S m c then 0 else tx_n S m c))
        rw [if_neg c1]; exact nI_add _ _
      by_cases c2 : 0 < tx_n S m c
      · obtain ⟨L, f3, g3, p3⟩ := e_addVotes (n := n) v hB hN U (by rw [hn1]; omega) hc p h hA
        have p4 : bm_P L 5 (tx_cf S m (c + 1)) := by
          refine _root_.cast ?_ p3
          congr 1
          funext y
          show _ = _ + (_ + tx_w S m c y)
          unfold tx_w
          rw [if_neg c1, if_pos c2, ← Nat.add_assoc]
          rfl
        obtain ⟨K, e', f', p'⟩ := ih (c + 1) (nI c + 1) (y + nI (tx_n S m c)) (some (.inl (nI (tx_n S m c)))) o L p4 (h.fz g3 (by decide)) (hA.fz g3 (by decide)) (nI_1 c) hy' (by omega) (by omega)
        refine ⟨K, ?_, g3.tr f', p'⟩
        refine bm_bd (e_contests p) ?_
        refine bm_le _ c rfl rfl (by omega) (by omega) (fun z => absurd z (by omega)) (fun _ => ?_)
        refine bm_bd e1 ?_
        refine bm_bd e2 ?_
        refine bm_le (tx_n S m c) (S.1 (33 + 6 * c)) rfl rfl (by omega) (by omega) (fun _ => ?_) (fun z => absurd z (by omega))
        refine bm_le (tx_n S m c) 0 rfl rfl (by omega) (by omega) (fun z => absurd z (by omega)) (fun _ => ?_)
        refine bm_bd f3 ?_
        exact e'
      · have hy2 : y = nI (tx_vs S m (c + 1)) := by
          rw [← hy', show tx_n S m c = 0 by omega]
          exact (Int32.add_zero y).symm
        have e3 := e_namesIn (n := n) p hc
        rw [h35] at e3
        by_cases c3 : 0 < S.1 (35 + 6 * c)
        · obtain ⟨L, e4, p3, f3⟩ := e_addBlank (n := n) p hc
          have p4 : bm_P L 5 (tx_cf S m (c + 1)) := by
            rw [bm_fs1_ad] at p3
            refine _root_.cast ?_ p3
            congr 1
            funext y
            show _ = _ + (_ + tx_w S m c y)
            unfold tx_w
            rw [if_neg c1, if_neg c2, if_pos c3, ← Nat.add_assoc]
            rfl
          obtain ⟨K, e', f', p'⟩ := ih (c + 1) (nI c + 1) y (some (.inl (nI (tx_n S m c)))) o L p4 (h.fz f3 (by decide)) (hA.fz f3 (by decide)) (nI_1 c) hy2 (by omega) (by omega)
          refine ⟨K, ?_, f3.tr f', p'⟩
          refine bm_bd (e_contests p) ?_
          refine bm_le _ c rfl rfl (by omega) (by omega) (fun z => absurd z (by omega)) (fun _ => ?_)
          refine bm_bd e1 ?_
          refine bm_bd e2 ?_
          refine bm_le (tx_n S m c) (S.1 (33 + 6 * c)) rfl rfl (by omega) (by omega) (fun _ => ?_) (fun z => absurd z (by omega))
          refine bm_le (tx_n S m c) 0 rfl rfl (by omega) (by omega) (fun _ => ?_) (fun z => absurd z (by omega))
          refine bm_bd e3 ?_
          refine bm_le (S.1 (35 + 6 * c)) 0 rfl rfl (by omega) (by omega) (fun z => absurd z (by omega)) (fun _ => ?_)
          refine bm_bd e4 ?_
          exact e'
        · have p4 : bm_P I 5 (tx_cf S m (c + 1)) := by
            refine _root_.cast ?_ p
            congr 1
            funext y
            show _ = _ + (_ + tx_w S m c y)
            unfold tx_w
            rw [if_neg c1, if_neg c2, if_neg c3]
            rfl
          obtain ⟨K, e', f', p'⟩ := ih (c + 1) (nI c + 1) y (some (.inl (nI (tx_n S m c)))) o I p4 h hA (nI_1 c) hy2 (by omega) (by omega)
          refine ⟨K, ?_, f', p'⟩
          refine bm_bd (e_contests p) ?_
          refine bm_le _ c rfl rfl (by omega) (by omega) (fun z => absurd z (by omega)) (fun _ => ?_)
          refine bm_bd e1 ?_
          refine bm_bd e2 ?_
          refine bm_le (tx_n S m c) (S.1 (33 + 6 * c)) rfl rfl (by omega) (by omega) (fun _ => ?_) (fun z => absurd z (by omega))
          refine bm_le (tx_n S m c) 0 rfl rfl (by omega) (by omega) (fun _ => ?_) (fun z => absurd z (by omega))
          refine bm_bd e3 ?_
          refine bm_le (S.1 (35 + 6 * c)) 0 rfl rfl (by omega) (by omega) (fun _ => ?_) (fun z => absurd z (by omega))
          exact e'
theorem e_countIn {m : Nat} {a r : Int32} (v : bm_VV S) (hB : tx_B S m) (hN : ∀ i, i < m → tx_c S i < S.1 0 ∧ tx_q S i < S.1 (35 + 6 * tx_c S i)) (h1 : S.1 1 < 9999) (p : bm_P I 5 S.1) (h : tx_H I (nI (tx_v S)) (nI m) a r) (hA : tx_A I S m) : ∃ J, f_X0_countIn [.inr (some 71), .inr (some 5)] (bm_mk n I) = some (some (.inl (nI (tx_vs S m (S.1 0)))), bm_mk n J) ∧ bm_fz I J 5 15 ∧ bm_P J 5 (tx_cf S m (S.1 0)) := by
  obtain ⟨L, e1, p1, f1⟩ := e_addBallot (n := n) p
  rw [bm_fs1_ad] at p1
  obtain ⟨J, e, f, q⟩ := e_countIn_loop (n := n) v hB hN h1 (S.1 0) 0 0 0 none 1000 L p1 (h.fz f1 (by decide)) (hA.fz f1 (by decide)) rfl rfl (by omega) (by have := v.1.1; omega)
  refine ⟨J, bm_g u_X0_countIn ?_, f1.tr f, q⟩
  refine bm_bd e1 ?_
  exact e
def sp_cast (S : bm_S) : Int32 × bm_S := match tx_f S with
  | some _ => (-2, S)
  | none => if S.1 1 < 9999 then (nI (tx_vs S (tx_e S).2 (S.1 0)), bm_pu S (tx_cf S (tx_e S).2 (S.1 0))) else (-3, S)
theorem c_cast (h : bm_RC I S) (v : bm_VV S) : bm_cp n I (f_X7_cast [.inr (some 4)]) (sp_cast S) := by
  obtain ⟨J, e, f, hZ⟩ := e_read (n := n) h.1 v h.txt
  have hJ := h.bal f
  cases hf : tx_f S with
  | some ra =>
    obtain ⟨r, a⟩ := ra
    obtain ⟨h5, h6⟩ := hZ.1 r a hf
    have hr := tx_f_r hf
    have e0 : sp_cast S = (-2, S) := by unfold sp_cast; rw [hf]
    rw [e0]
    refine ⟨J, bm_g u_X7_cast ?_, hJ, f.wd (by decide) (by decide)⟩
    refine bm_bd e ?_
    refine bm_bd e_reason ?_
    refine bm_ie (by rw [h6]; exact nI_ne0 (by omega) (by omega)) ?_
    rfl
  | none =>
    obtain ⟨m, hE, hB, hH, hA⟩ := hZ.2 hf
    have hN := (tx_f_none hf hE).2
    have h9 := v.1.2.1
    by_cases c1 : S.1 1 < 9999
    · have e0 : sp_cast S = (nI (tx_vs S m (S.1 0)), bm_pu S (tx_cf S m (S.1 0))) := by unfold sp_cast; rw [hf, hE]; exact if_pos c1
      rw [e0]
      obtain ⟨K, e2, hK, f2⟩ := c_keep (n := n) hJ
      obtain ⟨L, e3, f3, p3⟩ := e_countIn (n := n) v hB hN c1 hK.1 (hH.fz f2 (by decide)) (hA.fz f2 (by decide))
      refine ⟨L, bm_g u_X7_cast ?_, hK.poll p3 f3, ((f.wd (by decide) (by decide)).tr (f2.wd (by decide) (by decide))).tr (f3.wd (by decide) (by decide))⟩
      refine bm_bd e ?_
      refine bm_bd e_reason ?_
      refine bm_it hH.2.2.2 ?_
      refine bm_bd (e_ballots hJ.1) ?_
      refine bm_lt (S.1 1) 9999 rfl rfl (by omega) (by decide) (fun _ => ?_) (fun z => absurd z (by omega))
      refine bm_bd e2 ?_
      refine bm_bd e3 ?_
      rfl
    · have e0 : sp_cast S = (-3, S) := by unfold sp_cast; rw [hf]; exact if_neg c1
      rw [e0]
      refine ⟨J, bm_g u_X7_cast ?_, hJ, f.wd (by decide) (by decide)⟩
      refine bm_bd e ?_
      refine bm_bd e_reason ?_
      refine bm_it hH.2.2.2 ?_
      refine bm_bd (e_ballots hJ.1) ?_
      refine bm_lt (S.1 1) 9999 rfl rfl (by omega) (by decide) (fun z => absurd z (by omega)) (fun _ => ?_)
      rfl
end CC
