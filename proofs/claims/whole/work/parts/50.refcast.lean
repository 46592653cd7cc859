set_option maxRecDepth 100000
/-! THE REFERENCE: cast -/
theorem sumN_ad2 {f g : Nat → Nat} : ∀ {m : Nat}, sumN (fun k => f k + g k) m = sumN f m + sumN g m
  | 0 => rfl
  | m + 1 => by unfold sumN; rw [sumN_ad2 (m := m)]; omega
theorem sumN_one {a w : Nat} : ∀ {C : Nat}, a < C → sumN (fun c => if a = c then w else 0) C = w
  | 0, h => absurd h (by omega)
  | C + 1, h => by
    unfold sumN
    by_cases q : a = C
    · rw [sumN_0 (fun k hk => if_neg (by omega)), if_pos q]; omega
    · rw [sumN_one (C := C) (by omega), if_neg q]; rfl
/-- the marks of all contests, contest by contest -/
theorem sumN_swap {ok P : Nat → Prop} [DecidablePred ok] [DecidablePred P] {ct : Nat → Nat} {C : Nat} : ∀ {m : Nat}, (∀ i, i < m → ct i < C) → sumN (fun c => if ok c then sumN (fun i => if ct i = c ∧ P i then 1 else 0) m else 0) C = sumN (fun i => if ok (ct i) ∧ P i then 1 else 0) m
  | 0, _ => sumN_0 (fun k _ => by by_cases q : ok k <;> simp [q, sumN])
  | m + 1, h => by
    have ih := sumN_swap (ok := ok) (P := P) (ct := ct) (C := C) (m := m) (fun i hi => h i (by omega))
    have e : sumN (fun c => if ok c then sumN (fun i => if ct i = c ∧ P i then 1 else 0) (m + 1) else 0) C = sumN (fun c => (if ok c then sumN (fun i => if ct i = c ∧ P i then 1 else 0) m else 0) + (if ct m = c then (if ok (ct m) ∧ P m then 1 else 0) else 0)) C := by
      refine sumN_congr (fun c _ => ?_)
      show (if ok c then sumN (fun i => if ct i = c ∧ P i then 1 else 0) m + (if ct m = c ∧ P m then 1 else 0) else 0) = _
      by_cases q1 : ct m = c
      · subst q1
        by_cases q2 : ok (ct m) <;> by_cases q3 : P m <;> simp [q2, q3]
      · by_cases q2 : ok c <;> simp [q1, q2]
    rw [e, sumN_ad2, ih, sumN_one (h m (by omega))]
    rfl
section MC2
variable {n : Nat} {I J L : Nat → Nat → Int32} {S : bm_S}
def mx_w (S : bm_S) (m c y : Nat) : Nat := (if y = 37 + 6 * c then (if tx_n S m c = 0 ∧ 0 < S.1 (35 + 6 * c) then 1 else 0) else 0) + (if y = 36 + 6 * c then (if S.1 (33 + 6 * c) < tx_n S m c then 1 else 0) else 0)
def mx_cf (S : bm_S) (m c : Nat) : Nat → Nat := fun y => (S.1 y + if y = 1 then 1 else 0) + sumN (fun k => mx_w S m k y) c
abbrev mx_ok (S : bm_S) (m c : Nat) : Prop := tx_n S m c ≤ S.1 (33 + 6 * c)
def mx_vf (S : bm_S) (m k : Nat) : Nat → Nat := fun y => mx_cf S m (S.1 0) y + sumN (fun i => if mx_ok S m (tx_c S i) ∧ y = tx_vc S i then 1 else 0) k
def mx_vn (S : bm_S) (m k : Nat) : Nat := sumN (fun i => if mx_ok S m (tx_c S i) ∧ True then 1 else 0) k
theorem tx_n_pos {m c : Nat} (h : tx_n S m c = 0) {i : Nat} (hi : i < m) : tx_c S i ≠ c := by
  induction m with
  | zero => exact absurd hi (by omega)
  | succ m ih =>
    have h' : tx_n S m c + (if tx_c S m = c then 1 else 0) = 0 := h
    by_cases q : tx_c S m = c
    · rw [if_pos q] at h'; omega
    · by_cases e : i = m
      · subst e; exact q
      · exact ih (by omega) (by omega)
theorem tx_w_mx {m c y : Nat} : tx_w S m c y = mx_w S m c y + (if mx_ok S m c then sumN (fun i => if tx_c S i = c ∧ y = tx_vc S i then 1 else 0) m else 0) := by
  unfold tx_w mx_w
  by_cases c1 : S.1 (33 + 6 * c) < tx_n S m c
  · rw [if_pos c1, if_pos c1, if_neg (show ¬ mx_ok S m c by unfold mx_ok; omega), if_neg (show ¬ (tx_n S m c = 0 ∧ 0 < S.1 (35 + 6 * c)) by omega)]
    by_cases q : y = 37 + 6 * c
    · rw [if_pos q, if_neg (by omega)]
    · rw [if_neg q]; omega
  · rw [if_neg c1, if_neg c1, if_pos (show mx_ok S m c by unfold mx_ok; omega)]
    by_cases c2 : 0 < tx_n S m c
    · rw [if_pos c2, if_neg (show ¬ (tx_n S m c = 0 ∧ 0 < S.1 (35 + 6 * c)) by omega)]
      by_cases q : y = 37 + 6 * c
      · rw [if_pos q, if_neg (by omega)]; omega
      · rw [if_neg q]
        by_cases q' : y = 36 + 6 * c
        · rw [if_pos q']; omega
        · rw [if_neg q']; omega
    · have z : sumN (fun i => if tx_c S i = c ∧ y = tx_vc S i then 1 else 0) m = 0 := sumN_0 (fun i hi => if_neg (fun t => tx_n_pos (show tx_n S m c = 0 by omega) hi t.1))
      rw [if_neg c2, z]
      by_cases c3 : 0 < S.1 (35 + 6 * c)
      · rw [if_pos c3, if_pos (show tx_n S m c = 0 ∧ 0 < S.1 (35 + 6 * c) by omega)]
        by_cases q : y = 37 + 6 * c
        · rw [if_pos q, if_neg (by omega)]
        · rw [if_neg q]
          by_cases q' : y = 36 + 6 * c
          · rw [if_pos q']
          · rw [if_neg q']
      · rw [if_neg c3, if_neg (show ¬ (tx_n S m c = 0 ∧ 0 < S.1 (35 + 6 * c)) by omega)]
        by_cases q : y = 37 + 6 * c
        · rw [if_pos q, if_neg (by omega)]
        · rw [if_neg q]
          by_cases q' : y = 36 + 6 * c
          · rw [if_pos q']
          · rw [if_neg q']
theorem mx_vf_eq {m : Nat} (h : ∀ i, i < m → tx_c S i < S.1 0) : mx_vf S m m = tx_cf S m (S.1 0) := by
  funext y
  unfold mx_vf mx_cf tx_cf
  rw [sumN_congr (fun c _ => tx_w_mx (S := S) (m := m) (c := c) (y := y)), sumN_ad2, sumN_swap (ok := fun c => mx_ok S m c) (P := fun i => y = tx_vc S i) (ct := tx_c S) (C := S.1 0) h]
  omega
theorem mx_vn_eq {m : Nat} (h : ∀ i, i < m → tx_c S i < S.1 0) : mx_vn S m m = tx_vs S m (S.1 0) := by
  unfold mx_vn tx_vs
  rw [← sumN_swap (ok := fun c => mx_ok S m c) (P := fun _ => True) (ct := tx_c S) (C := S.1 0) h]
  refine sumN_congr (fun c _ => ?_)
  have e : sumN (fun i => if tx_c S i = c ∧ True then 1 else 0) m = tx_n S m c := by
    unfold tx_n
    refine sumN_congr (fun i _ => ?_)
    by_cases q : tx_c S i = c <;> simp [q]
  rw [e]
  by_cases q : S.1 (33 + 6 * c) < tx_n S m c
  · rw [if_pos q, if_neg (show ¬ mx_ok S m c by unfold mx_ok; omega)]
  · rw [if_neg q, if_pos (show mx_ok S m c by unfold mx_ok; omega)]
theorem mx_cf_U {m c : Nat} (hc : c ≤ 6) : tx_U S.1 (mx_cf S m c) := by
  intro y y1 y2 y3
  unfold mx_cf
  rw [if_neg y1, sumN_0 (fun k hk => ?_)]
  · rfl
  · unfold mx_w
    rw [if_neg (fun z => absurd (y2 (by omega) (by omega)) (by omega)), if_neg (fun z => absurd (y2 (by omega) (by omega)) (by omega))]
theorem mx_cf_1 {m c : Nat} : mx_cf S m c 1 = S.1 1 + 1 := by
  unfold mx_cf
  rw [if_pos rfl, sumN_0 (fun k hk => ?_)]
  unfold mx_w
  rw [if_neg (by omega), if_neg (by omega)]
theorem mx_vf_U (v : bm_VV S) {m k : Nat} : tx_U S.1 (mx_vf S m k) := by
  have h6 := v.1.1
  intro y y1 y2 y3
  unfold mx_vf
  rw [mx_cf_U h6 y y1 y2 y3, sumN_0 (fun i hi => if_neg (fun z => ?_))]
  · rfl
  · have := z.2
    unfold tx_vc at this
    have := y3 (by omega)
    omega
theorem mx_vf_1 {m k : Nat} : mx_vf S m k 1 = S.1 1 + 1 := by
  unfold mx_vf
  rw [mx_cf_1, sumN_0 (fun i hi => if_neg (fun z => ?_))]
  have := z.2
  unfold tx_vc at this
  omega
theorem bm_fs1_adk {F : Nat → Nat} {z a : Nat} : bm_fs1 F z (F z + a) = fun y => F y + if y = z then a else 0 := by
  funext y
  unfold bm_fs1
  by_cases q : y = z
  · rw [if_pos q, if_pos q, q]
  · rw [if_neg q, if_neg q]; rfl
theorem m_marks_loop {m c : Nat} {s r u : Int32} (h : mx_H I s r u (nI m)) (hA : mx_A I S m) (hB : tx_B S m) (hc : c < 6) : ∀ (d i : Nat) (x y : Int32) (o : Nat), x = nI i → y = nI (tx_n S i c) → i + d = m → d < o →
    bm_rn z_X8_marksIn o 4 ([some (.inr (some 75)), some (.inl (nI c)), some (.inl y), some (.inl x)], [], bm_mk n I) = some (some (.inl (nI (tx_n S m c))), bm_mk n I) := by
  obtain ⟨-, -, hv, hm, hb, -⟩ := hB
  intro d
  induction d with
  | zero =>
    intro i x y o hx hy hi ho
    obtain ⟨o, rfl⟩ : ∃ q, o = q + 1 := ⟨o - 1, by omega⟩
    have hi : i = m := by omega
    subst hi; subst hx
    refine bm_it (by show I 75 15 ≤ _; rw [h.2.2.2]; exact Int32.le_refl _) ?_
    exact bm_ok hy
  | succ d ih =>
    intro i x y o hx hy hi ho
    obtain ⟨o, rfl⟩ : ∃ q, o = q + 1 := ⟨o - 1, by omega⟩
    subst hx
    have a1 : I 82 (nI i).toNatClampNeg = nI (tx_c S i) := by rw [nI_clamp (by omega)]; exact (hA i (by omega)).1
    have b1 := hb i (by omega)
    refine bm_le m i h.2.2.2 rfl (by omega) (by omega) (fun z => absurd z (by omega)) (fun _ => ?_)
    refine bm_ie (bm_nix (N := 20) (k := i) rfl (by omega) (by decide)) ?_
    refine bm_eq (tx_c S i) c a1 rfl (by omega) (by omega) (fun q => ?_) (fun q => ?_)
    · refine ih (i + 1) _ _ o (nI_1 i) ?_ (by omega) (by omega)
      rw [hy]
      show _ = nI (tx_n S i c + (if tx_c S i = c then 1 else 0))
      rw [if_pos q]
      exact nI_1 _
    · refine ih (i + 1) _ _ o (nI_1 i) ?_ (by omega) (by omega)
      rw [hy]
      show _ = nI (tx_n S i c + (if tx_c S i = c then 1 else 0))
      rw [if_neg q]
      exact Int32.add_zero _
theorem m_marksIn {m c : Nat} {s r u : Int32} (h : mx_H I s r u (nI m)) (hA : mx_A I S m) (hB : tx_B S m) (hc : c < 6) {x : Int32} (hx : x = nI c) : f_X8_marksIn [.inr (some 75), .inl x] (bm_mk n I) = some (some (.inl (nI (tx_n S m c))), bm_mk n I) := by
  subst hx
  exact bm_g u_X8_marksIn (m_marks_loop h hA hB hc m 0 0 0 1000 rfl rfl (by omega) (by have := hB.2.2.2.1; omega))
end MC2
