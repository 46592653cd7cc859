set_option maxRecDepth 100000
/-! FAULT AND CAST OF THE CLASS -/
section CF
variable {n : Nat} {I J : Nat → Nat → Int32} {S : bm_S}
theorem bm_RC.bal (h : bm_RC I S) (f : bm_fz I J 71 74) : bm_RC J S := by
  obtain ⟨p, hh, ht, hT, hL⟩ := h
  refine ⟨p.congr (fun i hi => f _ (by omega)), hh.congr (fun k k1 k2 => f k (by omega)), ?_, fun j hj => ?_, fun k hk => ?_⟩
  · rw [f 69 (by omega)]; exact ht
  · rw [f 70 (by omega)]; exact hT j hj
  · rw [f 1 (by omega), f 2 (by omega)]; exact hL k hk
def sp_fault (S : bm_S) (x : Int32) : Int32 := if 0 ≤ x ∧ x ≤ 1 then (match tx_f S with
  | some (r, a) => if x = 0 then nI a else nI r
  | none => -4) else -1
theorem tx_j_ok : ∀ (d k : Nat), (∀ r a, tx_j S d k = some (r, a) → r = 3 ∨ r = 4) ∧ (tx_j S d k = none → ∀ i, k ≤ i → i < k + d → ¬ tx_no S i) := by
  intro d
  induction d with
  | zero => intro k; exact ⟨fun r a e => (by cases e), fun _ i h1 h2 => absurd h1 (by omega)⟩
  | succ d ih =>
    intro k
    unfold tx_j
    by_cases c1 : tx_no S k
    · rw [if_pos c1]
      exact ⟨fun r a e => (by cases e; exact Or.inl rfl), fun e => (by cases e)⟩
    · rw [if_neg c1]
      by_cases c2 : tx_tw S k
      · rw [if_pos c2]
        exact ⟨fun r a e => (by cases e; exact Or.inr rfl), fun e => (by cases e)⟩
      · rw [if_neg c2]
        refine ⟨(ih (k + 1)).1, fun e i h1 h2 => ?_⟩
        by_cases q : i = k
        · subst q; exact c1
        · exact (ih (k + 1)).2 e i (by omega) (by omega)
theorem tx_f_r {r a : Nat} (h : tx_f S = some (r, a)) : 1 ≤ r ∧ r ≤ 4 := by
  unfold tx_f at h
  generalize (tx_e S).1 = E at h
  cases E with
  | some b => cases h; decide
  | none =>
    dsimp only at h
    unfold tx_g at h
    by_cases q : tx_v S < S.1 7
    · rw [if_pos q] at h
      rcases (tx_j_ok _ _).1 r a h with rfl | rfl <;> decide
    · rw [if_neg q] at h
      cases h; decide
theorem tx_f_none {m : Nat} (h : tx_f S = none) (he : tx_e S = (none, m)) : tx_v S < S.1 7 ∧ ∀ i, i < m → tx_c S i < S.1 0 ∧ tx_q S i < S.1 (35 + 6 * tx_c S i) := by
  rw [tx_f_no he] at h
  unfold tx_g at h
  by_cases q : tx_v S < S.1 7
  · rw [if_pos q] at h
    exact ⟨q, fun i hi => Decidable.not_not.mp ((tx_j_ok m 0).2 h i (by omega) (by omega))⟩
  · rw [if_neg q] at h
    cases h
theorem e_reason : f_X0_reason [.inr (some 71)] (bm_mk n I) = some (some (.inl (I 71 6)), bm_mk n I) := bm_g u_X0_reason rfl
theorem e_faultAt : f_X0_faultAt [.inr (some 71)] (bm_mk n I) = some (some (.inl (I 71 5)), bm_mk n I) := bm_g u_X0_faultAt rfl
theorem bm_RC.txt (h : bm_RC I S) : tx_C I S := ⟨h.2.2.1, h.2.2.2.1⟩
theorem c_fault (h : bm_RC I S) (v : bm_VV S) (x : Int32) : bm_cp n I (f_X7_fault [.inr (some 4), .inl x]) (sp_fault S x, S) := by
  by_cases c1 : 0 ≤ x ∧ x ≤ 1
  · obtain ⟨J, e, f, hZ⟩ := e_read (n := n) h.1 v h.txt
    refine ⟨J, bm_g u_X7_fault ?_, h.bal f, f.wd (by decide) (by decide)⟩
    refine bm_bd e_within (bm_bq (fun _ => ?_) (fun z => absurd c1 z))
    refine bm_bd e ?_
    refine bm_bd e_reason ?_
    cases hf : tx_f S with
    | none =>
      obtain ⟨m, hE, hB, hH, hA⟩ := hZ.2 hf
      have e0 : sp_fault S x = -4 := by unfold sp_fault; rw [if_pos c1, hf]
      refine bm_it hH.2.2.2 ?_
      exact bm_ok e0.symm
    | some ra =>
      obtain ⟨r, a⟩ := ra
      obtain ⟨h5, h6⟩ := hZ.1 r a hf
      have hr := tx_f_r hf
      have e0 : sp_fault S x = if x = 0 then nI a else nI r := by unfold sp_fault; rw [if_pos c1, hf]
      refine bm_ie (by show ¬ J 71 6 = 0; rw [h6]; exact nI_ne0 (by omega) (by omega)) ?_
      refine bm_if (fun hx => ?_) (fun hx => ?_)
      · refine bm_bd e_faultAt ?_
        exact bm_ok (h5.trans (e0.trans (if_pos hx)).symm)
      · refine bm_bd e_reason ?_
        exact bm_ok (h6.trans (e0.trans (if_neg hx)).symm)
  · have e0 : sp_fault S x = -1 := if_neg c1
    rw [e0]
    refine bm_cp.rd h (bm_g u_X7_fault ?_)
    exact bm_bd e_within (bm_bq (fun z => absurd z c1) (fun _ => bm_ok rfl))
/-! the ballot counted -/
/-- the places that no ballot changes -/
def tx_U (F G : Nat → Nat) : Prop := ∀ y, y ≠ 1 → (32 ≤ y → y < 68 → (y - 32) % 6 < 4) → (68 ≤ y → y % 2 = 0) → G y = F y
theorem tx_U.V {F G : Nat → Nat} (u : tx_U F G) (h : bm_V' F) (h1 : G 1 ≤ 9999) : bm_V' G := by
  obtain ⟨a0, a1, a2, a3, a4, a5, a6, a7, a8, a9, a10⟩ := h
  refine ⟨?_, h1, ?_, ?_, ?_, ?_, ?_, ?_, fun v hv => ?_, fun c hc => ?_, fun j hj => ?_⟩
  · rw [u 0 (by omega) (by omega) (by omega)]; exact a0
  · rw [u 2 (by omega) (by omega) (by omega)]; exact a2
  · rw [u 3 (by omega) (by omega) (by omega)]; exact a3
  · rw [u 4 (by omega) (by omega) (by omega)]; exact a4
  · rw [u 5 (by omega) (by omega) (by omega)]; exact a5
  · rw [u 6 (by omega) (by omega) (by omega)]; exact a6
  · rw [u 7 (by omega) (by omega) (by omega)]; exact a7
  · rw [u (8 + v) (by omega) (by omega) (by omega), u 7 (by omega) (by omega) (by omega)]; exact a8 v hv
  · rw [u (32 + 6 * c) (by omega) (by omega) (by omega), u (33 + 6 * c) (by omega) (by omega) (by omega), u (34 + 6 * c) (by omega) (by omega) (by omega), u (35 + 6 * c) (by omega) (by omega) (by omega)]; exact a9 c hc
  · rw [u (68 + 2 * j) (by omega) (by omega) (by omega)]; exact a10 j hj
theorem tx_U.sd {F G : Nat → Nat} (u : tx_U F G) {v c q : Nat} (hc : c < 6) : bm_sd' G v c q = bm_sd' F v c q := by
  unfold bm_sd'
  rw [u (34 + 6 * c) (by omega) (by omega) (by omega), u (35 + 6 * c) (by omega) (by omega) (by omega)]
/-- the place of a mark's votes -/
def tx_vc (S : bm_S) (i : Nat) : Nat := 69 + 2 * (8 * tx_c S i + bm_sd' S.1 (tx_v S) (tx_c S i) (tx_q S i))
/-- the marks in a contest -/
def tx_n (S : bm_S) (m c : Nat) : Nat := sumN (fun i => if tx_c S i = c then 1 else 0) m
def tx_av (S : bm_S) (G : Nat → Nat) (c k : Nat) : Nat → Nat := fun y => G y + sumN (fun i => if tx_c S i = c ∧ y = tx_vc S i then 1 else 0) k
theorem sumN_0 {f : Nat → Nat} : ∀ {m : Nat}, (∀ k, k < m → f k = 0) → sumN f m = 0
  | 0, _ => rfl
  | m + 1, h => by unfold sumN; rw [sumN_0 (fun k hk => h k (by omega)), h m (by omega)]
theorem tx_av_U {F G : Nat → Nat} (u : tx_U F G) (c k : Nat) : tx_U F (tx_av S G c k) := by
  intro y y1 y2 y3
  have e : sumN (fun i => if tx_c S i = c ∧ y = tx_vc S i then 1 else 0) k = 0 := by
    refine sumN_0 (fun i _ => if_neg (fun z => ?_))
    have := z.2
    unfold tx_vc at this
    have := y3 (by omega)
    omega
  unfold tx_av
  rw [e]
  exact u y y1 y2 y3
theorem tx_av_1 {G : Nat → Nat} (c k : Nat) : tx_av S G c k 1 = G 1 := by
  unfold tx_av
  rw [sumN_0 (fun i _ => if_neg (fun z => ?_))]
  · rfl
  · have := z.2
    unfold tx_vc at this
    omega
theorem bm_fs1_ad {F : Nat → Nat} {z : Nat} : bm_fs1 F z (F z + 1) = fun y => F y + if y = z then 1 else 0 := by
  funext y
  unfold bm_fs1
  by_cases q : y = z
  · rw [if_pos q, if_pos q, q]
  · rw [if_neg q, if_neg q]; rfl
theorem tx_H.fz {u m a r : Int32} {lo hi : Nat} (h : tx_H I u m a r) (f : bm_fz I J lo hi) (h1 : 71 < lo ∨ hi < 71) : tx_H J u m a r := by
  unfold tx_H
  rw [f 71 (by omega)]
  exact h
theorem tx_A.fz {m : Nat} {lo hi : Nat} (h : tx_A I S m) (f : bm_fz I J lo hi) (h1 : hi < 72) : tx_A J S m := by
  unfold tx_A
  rw [f 72 (by omega), f 73 (by omega), f 74 (by omega)]
  exact h
theorem e_addVotes_loop {m c : Nat} {a r : Int32} {G : Nat → Nat} (v : bm_VV S) (hB : tx_B S m) (hN : ∀ i, i < m → tx_c S i < S.1 0 ∧ tx_q S i < S.1 (35 + 6 * tx_c S i)) (u : tx_U S.1 G) (h1 : G 1 ≤ 9999) (hc : c < 6) : ∀ (d k : Nat) (x : Int32) (o : Nat) (I : Nat → Nat → Int32), bm_P I 5 (tx_av S G c k) → tx_H I (nI (tx_v S)) (nI m) a r → tx_A I S m → x = nI k → k + d = m → d < o →
    ∃ J, bm_rn z_X0_addVotes o 2 ([some (.inr (some 71)), some (.inr (some 5)), some (.inl (nI c)), some (.inl x)], [], bm_mk n I) = some (none, bm_mk n J) ∧ bm_fz I J 5 15 ∧ bm_P J 5 (tx_av S G c m) := by
  obtain ⟨-, -, hv, hm, hb, -⟩ := id hB
  intro d
  induction d with
  | zero =>
    intro k x o I p h hA hx hk ho
    obtain ⟨o, rfl⟩ : ∃ q, o = q + 1 := ⟨o - 1, by omega⟩
    have hk : k = m := by omega
    subst hk; subst hx
    refine ⟨I, ?_, bm_fz.rf, p⟩
    refine bm_it (by show I 71 4 ≤ _; rw [h.2.1]; exact Int32.le_refl _) ?_
    rfl
  | succ d ih =>
    intro k x o I p h hA hx hk ho
    obtain ⟨o, rfl⟩ : ∃ q, o = q + 1 := ⟨o - 1, by omega⟩
    subst hx
    have b1 := hb k (by omega)
    have a1 := (hA k (by omega)).1
    have ok := hN k (by omega)
    have uA := tx_av_U (S := S) u c k
    have hVA := uA.V v.1 (by rw [tx_av_1]; exact h1)
    by_cases q : tx_c S k = c
    · have e1 := e_nameOfMark (n := n) (S := (tx_av S G c k, S.2)) p ⟨hVA, v.2⟩ h hA hB (i := k) rfl (by omega)
      have h0 : tx_av S G c k 0 = S.1 0 := uA 0 (by omega) (by omega) (by omega)
      have h35 : tx_av S G c k (35 + 6 * tx_c S k) = S.1 (35 + 6 * tx_c S k) := uA _ (by omega) (by omega) (by omega)
      have ok' : tx_c S k < tx_av S G c k 0 ∧ tx_q S k < tx_av S G c k (35 + 6 * tx_c S k) := by rw [h0, h35]; exact ok
      have e1' : f_X0_nameOfMark [.inr (some 71), .inr (some 5), .inl (nI k)] (bm_mk n I) = some (some (Sum.inl (nI (bm_sd' (tx_av S G c k) (tx_v S) (tx_c S k) (tx_q S k)))), bm_mk n I) := e1.trans (bm_ok (bm_na_in (v := tx_v S) hVA ok'.1 ok'.2))
      obtain ⟨L, e2, p2, f2⟩ := e_addVote (n := n) p hVA (c := tx_c S k) (k := bm_sd' (tx_av S G c k) (tx_v S) (tx_c S k) (tx_q S k)) ok'.1 (bm_sd_lt ok'.2)
      have p3 : bm_P L 5 (tx_av S G c (k + 1)) := by
        rw [bm_fs1_ad, uA.sd (by omega)] at p2
        refine cast ?_ p2
        congr 1
        funext y
        show _ = G y + (_ + _)
        rw [← Nat.add_assoc]
        congr 1
        show (if y = tx_vc S k then 1 else 0) = (if tx_c S k = c ∧ y = tx_vc S k then 1 else 0)
        by_cases z : y = tx_vc S k
        · rw [if_pos z, if_pos ⟨q, z⟩]
        · rw [if_neg z, if_neg (fun t => z t.2)]
      rw [q] at e1' e2
      obtain ⟨L', e', f', p'⟩ := ih (k + 1) (nI k + 1) o L p3 (h.fz f2 (by decide)) (hA.fz f2 (by decide)) (nI_1 k) (by omega) (by omega)
      refine ⟨L', ?_, f2.tr f', p'⟩
      refine bm_le m k h.2.1 rfl (by omega) (by omega) (fun z => absurd z (by omega)) (fun _ => ?_)
      refine bm_bd (e_gk (a := 72) (N := 13) rfl rfl (by decide) (by omega)) ?_
      refine bm_eq (tx_c S k) c a1 rfl (by omega) (by omega) (fun _ => ?_) (fun z => absurd q z)
      refine bm_bd e1' ?_
      refine bm_bd e2 ?_
      exact e'
    · have p3 : bm_P I 5 (tx_av S G c (k + 1)) := by
        refine cast ?_ p
        congr 1
        funext y
        show _ = G y + (_ + (if tx_c S k = c ∧ y = tx_vc S k then 1 else 0))
        rw [if_neg (fun t => q t.1)]
        rfl
      obtain ⟨L', e', f', p'⟩ := ih (k + 1) (nI k + 1) o I p3 h hA (nI_1 k) (by omega) (by omega)
      refine ⟨L', ?_, f', p'⟩
      refine bm_le m k h.2.1 rfl (by omega) (by omega) (fun z => absurd z (by omega)) (fun _ => ?_)
      refine bm_bd (e_gk (a := 72) (N := 13) rfl rfl (by decide) (by omega)) ?_
      refine bm_eq (tx_c S k) c a1 rfl (by omega) (by omega) (fun z => absurd z q) (fun _ => ?_)
      exact e'
end CF
