set_option maxRecDepth 100000
/-! nameOf, spread, evenVersions ON BOTH SIDES -/
section NO
variable {n : Nat} {I : Nat → Nat → Int32} {F : Nat → Nat} {S : bm_S}
noncomputable def sp_nameOf (S : bm_S) (x y w : Int32) : Int32 := if (0 ≤ x ∧ x < nI (S.1 0)) ∧ 0 ≤ y ∧ y < nI (S.1 (35 + 6 * x.toNatClampNeg)) then (if w = nI 0 then nI (S.1 (68 + 16 * x.toNatClampNeg + 2 * y.toNatClampNeg)) else if w = nI 1 then nI (S.1 (69 + 16 * x.toNatClampNeg + 2 * y.toNatClampNeg)) else if w = nI 2 then nI (bm_hf S.1 x.toNatClampNeg (fun u => S.1 (8 + u)) y.toNatClampNeg (S.1 7)) else if w = nI 3 then nI (bm_stn S.1 x.toNatClampNeg y.toNatClampNeg) else -1) else -1
theorem c_nameOf (h : bm_RC I S) (v : bm_VV S) (x y w : Int32) : bm_cp n I (f_X7_nameOf [.inr (some 4), .inl x, .inl y, .inl w]) (sp_nameOf S x y w, S) := by
  have p := h.1
  unfold sp_nameOf
  by_cases c1 : (0 ≤ x ∧ x < nI (S.1 0)) ∧ 0 ≤ y ∧ y < nI (S.1 (35 + 6 * x.toNatClampNeg))
  · rw [if_pos c1]
    obtain ⟨c, k, hc, hk, h8, h6, rfl, rfl⟩ := bm_hasName_of v.1 c1
    rw [nI_clamp (show c < 2 ^ 31 by omega), nI_clamp (show k < 2 ^ 31 by omega)]
    by_cases c2 : w = nI 2
    · subst c2
      obtain ⟨L, e, f1, f2⟩ := e_onPapers (n := n) p v.1 hc
      refine ⟨L, bm_g u_X7_nameOf ?_, h.at68 f1, fun j hj => f1 j (by omega)⟩
      refine bm_bd (e_hasName p v.1) (bm_bq (fun _ => ?_) (fun z => absurd c1 z))
      refine bm_bd e ?_
      refine bm_bd (e_timesOf (k := k) rfl (by omega)) ?_
      exact bm_ok (f2 k (by omega))
    · refine bm_cp.rd h (bm_g u_X7_nameOf ?_)
      refine bm_bd (e_hasName p v.1) (bm_bq (fun _ => ?_) (fun z => absurd c1 z))
      refine bm_fi (fun _ => bm_bd (e_lengthOf p (by omega) (by omega)) (bm_ok rfl)) (fun _ => ?_)
      refine bm_fi (fun _ => bm_bd (e_votesOf p (by omega) (by omega)) (bm_ok rfl)) (fun _ => ?_)
      refine bm_fi (fun z => absurd z c2) (fun _ => ?_)
      refine bm_fi (fun _ => ?_) (fun _ => bm_ok rfl)
      refine bm_bd (e_hasSeat p v.1 (by omega) (by omega)) ?_
      have hs : bm_stn S.1 c k = 0 ∨ bm_stn S.1 c k = 1 := by
        unfold bm_stn
        by_cases q : bm_st S.1 c k
        · exact Or.inr (if_pos q)
        · exact Or.inl (if_neg q)
      refine bm_eq (bm_stn S.1 c k) 0 rfl rfl (by omega) (by decide) (fun z => bm_ok (by rw [z]; rfl)) (fun z => bm_ok (by rw [hs.resolve_left z]; rfl))
  · rw [if_neg c1]
    refine bm_cp.rd h (bm_g u_X7_nameOf ?_)
    exact bm_bd (e_hasName p v.1) (bm_bq (fun z => absurd z c1) (fun _ => bm_ok rfl))
def sp_spread (S : bm_S) (x : Int32) : Int32 := if 0 ≤ x ∧ x < nI (S.1 0) then (if S.1 (35 + 6 * x.toNatClampNeg) = 0 then -4 else nI (mxN (fun k => bm_hf S.1 x.toNatClampNeg (fun u => S.1 (8 + u)) k (S.1 7)) (S.1 (35 + 6 * x.toNatClampNeg) - 1) - mnN (fun k => bm_hf S.1 x.toNatClampNeg (fun u => S.1 (8 + u)) k (S.1 7)) (S.1 (35 + 6 * x.toNatClampNeg) - 1))) else -1
theorem bm_hf_pap (hV : bm_V' F) {c k : Nat} : bm_hf F c (fun u => F (8 + u)) k (F 7) < 2 ^ 30 := by
  have h7 := hV.2.2.2.2.2.2.2.1
  have := bm_hf_le (F := F) (c := c) (k := k) (g := fun u => F (8 + u)) (N := 24) (fun u hu => (hV.2.2.2.2.2.2.2.2.1 u hu).1) (F 7) (by omega)
  have : F 7 * 9999 ≤ 24 * 9999 := Nat.mul_le_mul_right _ (by omega)
  omega
theorem c_spread (h : bm_RC I S) (v : bm_VV S) (x : Int32) : bm_cp n I (f_X7_spread [.inr (some 4), .inl x]) (sp_spread S x, S) := by
  have p := h.1
  have h6 := v.1.1
  unfold sp_spread
  by_cases c1 : 0 ≤ x ∧ x < nI (S.1 0)
  · rw [if_pos c1]
    obtain ⟨c, hc, rfl⟩ := bm_k_of (by omega) c1
    have h8 := (v.1.2.2.2.2.2.2.2.2.2.1 c (by omega)).2.2.2
    rw [nI_clamp (show c < 2 ^ 31 by omega)]
    by_cases c2 : S.1 (35 + 6 * c) = 0
    · rw [if_pos c2]
      refine bm_cp.rd h (bm_g u_X7_spread ?_)
      refine bm_bd (e_hasContest p (by omega)) (bm_bq (fun _ => ?_) (fun z => absurd c1 z))
      refine bm_bd (e_namesIn p (by omega)) ?_
      exact bm_eq (S.1 (35 + 6 * c)) 0 rfl rfl (by omega) (by decide) (fun _ => bm_ok rfl) (fun z => absurd c2 z)
    · rw [if_neg c2]
      obtain ⟨L, e, f1, f2⟩ := e_onPapers (n := n) p v.1 hc
      have pL : bm_P L 5 S.1 := p.congr (fun i hi => f1 _ (by omega))
      refine ⟨L, bm_g u_X7_spread ?_, h.at68 f1, fun j hj => f1 j (by omega)⟩
      refine bm_bd (e_hasContest p (by omega)) (bm_bq (fun _ => ?_) (fun z => absurd c1 z))
      refine bm_bd (e_namesIn p (by omega)) ?_
      refine bm_eq (S.1 (35 + 6 * c)) 0 rfl rfl (by omega) (by decide) (fun z => absurd z c2) (fun _ => ?_)
      refine bm_bd e ?_
      refine bm_bd (e_namesIn pL (by omega)) ?_
      exact bm_bd (e_difference h8 f2 (fun k _ => bm_hf_pap v.1)) (bm_ok rfl)
  · rw [if_neg c1]
    refine bm_cp.rd h (bm_g u_X7_spread ?_)
    exact bm_bd (e_hasContest p (by omega)) (bm_bq (fun z => absurd z c1) (fun _ => bm_ok rfl))
/-! as many first of the first V versions -/
def bm_t1 (F : Nat → Nat) (c V : Nat) (k : Nat) : Nat := bm_hf F c (fun _ => 1) k V
def bm_ev1 (F : Nat → Nat) (V c : Nat) : Prop := mxN (bm_t1 F c V) (F (35 + 6 * c) - 1) = mnN (bm_t1 F c V) (F (35 + 6 * c) - 1)
def bm_ev2 (F : Nat → Nat) (V c : Nat) : Prop := ∀ k, k < F (35 + 6 * c) → bm_t1 F c V k * F (35 + 6 * c) = V
theorem sumN_const {a : Nat} : ∀ m, sumN (fun _ => a) m = m * a
  | 0 => (Nat.zero_mul a).symm
  | m + 1 => by show sumN (fun _ => a) m + a = _; rw [sumN_const m, Nat.succ_mul]
theorem sumN_add {f g : Nat → Nat} : ∀ m, sumN (fun k => f k + g k) m = sumN f m + sumN g m
  | 0 => rfl
  | m + 1 => by show sumN (fun k => f k + g k) m + (f m + g m) = (sumN f m + f m) + (sumN g m + g m); rw [sumN_add m]; omega
theorem sumN_ind {q : Nat} : ∀ m, sumN (fun k => if q = k then 1 else 0) m = if q < m then 1 else 0
  | 0 => rfl
  | m + 1 => by
    show sumN (fun k => if q = k then 1 else 0) m + (if q = m then 1 else 0) = _
    rw [sumN_ind m]
    by_cases a : q < m
    · rw [if_pos a, if_neg (by omega), if_pos (by omega)]
    · by_cases b : q = m
      · rw [if_neg a, if_pos b, if_pos (by omega)]
      · rw [if_neg a, if_neg b, if_neg (by omega)]
theorem bm_t1_sum {c : Nat} (m0 : F (35 + 6 * c) ≠ 0) : ∀ V, sumN (fun k => bm_t1 F c V k) (F (35 + 6 * c)) = V
  | 0 => (sumN_congr (f' := fun _ => 0) (fun _ _ => rfl)).trans (sumN_const _)
  | V + 1 => by
    have hl : bm_sd' F V c 0 < F (35 + 6 * c) := bm_sd_lt (by omega)
    have e : sumN (fun k => bm_t1 F c (V + 1) k) (F (35 + 6 * c)) = sumN (fun k => bm_t1 F c V k + (if bm_sd' F V c 0 = k then 1 else 0)) (F (35 + 6 * c)) := by
      refine sumN_congr (fun k hk => ?_)
      by_cases q : bm_sd' F V c 0 = k
      · rw [if_pos q]; exact bm_hf1 (g := fun _ => 1) ⟨m0, q⟩
      · rw [if_neg q]; exact bm_hf0 (g := fun _ => 1) (fun z => q z.2)
    rw [e, sumN_add, bm_t1_sum m0 V, sumN_ind, if_pos hl]
theorem bm_ev_iff {c V : Nat} : bm_ev1 F V c ↔ bm_ev2 F V c := by
  unfold bm_ev1 bm_ev2
  by_cases m0 : F (35 + 6 * c) = 0
  · rw [m0]
    exact ⟨fun _ k hk => absurd hk (Nat.not_lt_zero k), fun _ => rfl⟩
  · have hsum := bm_t1_sum (F := F) m0 V
    constructor
    · intro h k hk
      have hall : ∀ j, j < F (35 + 6 * c) → bm_t1 F c V j = bm_t1 F c V k := fun j hj => by
        have a1 := mxN_ge (t := bm_t1 F c V) (m := F (35 + 6 * c) - 1) (k := j) (by omega)
        have a2 := mnN_le (t := bm_t1 F c V) (m := F (35 + 6 * c) - 1) (k := j) (by omega)
        have b1 := mxN_ge (t := bm_t1 F c V) (m := F (35 + 6 * c) - 1) (k := k) (by omega)
        have b2 := mnN_le (t := bm_t1 F c V) (m := F (35 + 6 * c) - 1) (k := k) (by omega)
        omega
      rw [sumN_congr (f' := fun _ => bm_t1 F c V k) hall, sumN_const] at hsum
      rw [Nat.mul_comm]; exact hsum
    · intro h
      have hall : ∀ j, j ≤ F (35 + 6 * c) - 1 → bm_t1 F c V j = bm_t1 F c V 0 := fun j hj => Nat.eq_of_mul_eq_mul_right (Nat.pos_of_ne_zero m0) ((h j (by omega)).trans (h 0 (by omega)).symm)
      have u1 := mxN_bd (t := bm_t1 F c V) (b := bm_t1 F c V 0) (m := F (35 + 6 * c) - 1) (fun j hj => Nat.le_of_eq (hall j hj))
      have u2 := mnN_bd (t := bm_t1 F c V) (b := bm_t1 F c V 0) (m := F (35 + 6 * c) - 1) (fun j hj => Nat.le_of_eq (hall j hj).symm)
      have u3 := mxN_ge (t := bm_t1 F c V) (m := F (35 + 6 * c) - 1) (k := 0) (by omega)
      have u4 := mnN_le (t := bm_t1 F c V) (m := F (35 + 6 * c) - 1) (k := 0) (by omega)
      omega
noncomputable def bm_evs (F : Nat → Nat) : Nat → Nat → Int32
  | 0, _ => -4
  | d + 1, V => @ite _ (∀ c, c < F 0 → bm_ev1 F V c) (Classical.propDecidable _) (nI V) (bm_evs F d (V + 1))
theorem bm_t1_le {c V k : Nat} : bm_t1 F c V k ≤ V * 9999 := bm_hf_le (N := V) (fun _ _ => by decide) V (Nat.le_refl _)
theorem e_areEven_loop (hV : bm_V' F) {V : Nat} (hVv : V ≤ 24) : ∀ (d c : Nat) (x : Int32) (J : Nat → Nat → Int32) (o : Nat), x = nI c → bm_P J 5 F → c + d = F 0 → d < o →
    ∃ L r, bm_rn z_X7_areEven o 2 ([some (.inr (some 4)), some (.inl (nI V)), some (.inl x)], [], bm_mk n J) = some (some (.inl r), bm_mk n L) ∧ (∀ k, k ≠ 68 → L k = J k) ∧ ((r = 1 ∧ ∀ c', c ≤ c' → c' < F 0 → bm_ev1 F V c') ∨ (r = 0 ∧ ¬ ∀ c', c ≤ c' → c' < F 0 → bm_ev1 F V c')) := by
  have h6 := hV.1
  intro d
  induction d with
  | zero =>
    intro c x J o hx p hi ho
    obtain ⟨o, rfl⟩ : ∃ q, o = q + 1 := ⟨o - 1, by omega⟩
    subst hx
    refine ⟨J, 1, ?_, fun _ _ => rfl, Or.inl ⟨rfl, fun c' h1 h2 => absurd h2 (by omega)⟩⟩
    refine bm_bd (e_contests p) ?_
    refine bm_le (F 0) c rfl rfl (by omega) (by omega) (fun _ => ?_) (fun z => absurd z (by omega))
    rfl
  | succ d ih =>
    intro c x J o hx p hi ho
    obtain ⟨o, rfl⟩ : ∃ q, o = q + 1 := ⟨o - 1, by omega⟩
    subst hx
    have h8 := (hV.2.2.2.2.2.2.2.2.2.1 c (by omega)).2.2.2
    obtain ⟨A, eA, a1, a2⟩ := e_inVersions (n := n) p hV (c := c) (V := V) (by omega) (by omega)
    have pA : bm_P A 5 F := p.congr (fun i hi => a1 _ (by omega))
    have hb : ∀ k, k < 8 → bm_hf F c (fun _ => 1) k V < 2 ^ 30 := fun k _ => by
      have := bm_t1_le (F := F) (c := c) (V := V) (k := k)
      have h2 : V * 9999 ≤ 24 * 9999 := Nat.mul_le_mul_right _ hVv
      unfold bm_t1 at this
      omega
    have eD := e_difference (n := n) (t := bm_t1 F c V) h8 a2 hb
    have b1 := mxN_bd (t := bm_t1 F c V) (b := 2 ^ 30) (m := F (35 + 6 * c) - 1) (fun k hk => Nat.le_of_lt (hb k (by omega)))
    have b2 := mxN_ge (t := bm_t1 F c V) (m := F (35 + 6 * c) - 1) (k := 0) (Nat.zero_le _)
    have b3 := mnN_le (t := bm_t1 F c V) (m := F (35 + 6 * c) - 1) (k := 0) (Nat.zero_le _)
    by_cases q : bm_ev1 F V c
    · obtain ⟨L, r, e, f1, f2⟩ := ih (c + 1) _ A o (nI_1 c) pA (by omega) (by omega)
      refine ⟨L, r, ?_, fun k hk => (f1 k hk).trans (a1 k hk), ?_⟩
      · refine bm_bd (e_contests p) ?_
        refine bm_le (F 0) c rfl rfl (by omega) (by omega) (fun z => absurd z (by omega)) (fun _ => ?_)
        refine bm_bd eA ?_
        refine bm_bd (e_namesIn pA (by omega)) ?_
        refine bm_bd eD ?_
        refine bm_it ?_ e
        show nI _ = nI 0
        unfold bm_ev1 at q
        rw [q, Nat.sub_self]
      · rcases f2 with ⟨r1, f2⟩ | ⟨r0, f2⟩
        · refine Or.inl ⟨r1, fun c' h1 h2 => ?_⟩
          by_cases z : c' = c
          · subst z; exact q
          · exact f2 c' (by omega) h2
        · exact Or.inr ⟨r0, fun z => f2 (fun c' h1 h2 => z c' (by omega) h2)⟩
    · refine ⟨A, 0, ?_, a1, Or.inr ⟨rfl, fun z => q (z c (Nat.le_refl _) (by omega))⟩⟩
      refine bm_bd (e_contests p) ?_
      refine bm_le (F 0) c rfl rfl (by omega) (by omega) (fun z => absurd z (by omega)) (fun _ => ?_)
      refine bm_bd eA ?_
      refine bm_bd (e_namesIn pA (by omega)) ?_
      refine bm_bd eD ?_
      refine bm_ie (fun z => q ?_) rfl
      have z' := (nI_eq (b := 0) (by omega) (by decide)).mp z
      unfold bm_ev1
      omega
theorem e_areEven (hV : bm_V' F) (p : bm_P I 5 F) {V : Nat} (hVv : V ≤ 24) : ∃ L r, f_X7_areEven [.inr (some 4), .inl (nI V)] (bm_mk n I) = some (some (.inl r), bm_mk n L) ∧ (∀ k, k ≠ 68 → L k = I k) ∧ ((r = 1 ∧ ∀ c', c' < F 0 → bm_ev1 F V c') ∨ (r = 0 ∧ ¬ ∀ c', c' < F 0 → bm_ev1 F V c')) := by
  have h6 := hV.1
  obtain ⟨L, r, e, f1, f2⟩ := e_areEven_loop (n := n) hV hVv (F 0) 0 0 I 1000 rfl p (by omega) (by omega)
  refine ⟨L, r, bm_g u_X7_areEven e, f1, ?_⟩
  rcases f2 with ⟨a, b⟩ | ⟨a, b⟩
  · exact Or.inl ⟨a, fun c' h => b c' (Nat.zero_le _) h⟩
  · exact Or.inr ⟨a, fun z => b (fun c' _ h => z c' h)⟩
theorem c_ev_loop (hV : bm_V' F) : ∀ (d V : Nat) (x : Int32) (J : Nat → Nat → Int32) (o : Nat), x = nI V → bm_P J 5 F → V + d = 25 → d < o →
    ∃ L, bm_rn z_X7_evenVersions o 2 ([some (.inr (some 4)), some (.inl x)], [], bm_mk n J) = some (some (.inl (bm_evs F d V)), bm_mk n L) ∧ ∀ k, k ≠ 68 → L k = J k := by
  intro d
  induction d with
  | zero =>
    intro V x J o hx p hi ho
    obtain ⟨o, rfl⟩ : ∃ q, o = q + 1 := ⟨o - 1, by omega⟩
    have hi : V = 25 := by omega
    subst hi; subst hx
    exact ⟨J, rfl, fun _ _ => rfl⟩
  | succ d ih =>
    intro V x J o hx p hi ho
    obtain ⟨o, rfl⟩ : ∃ q, o = q + 1 := ⟨o - 1, by omega⟩
    subst hx
    obtain ⟨A, r, eA, a1, a2⟩ := e_areEven (n := n) hV p (V := V) (by omega)
    have pA : bm_P A 5 F := p.congr (fun i hi => a1 _ (by omega))
    unfold bm_evs
    rcases a2 with ⟨rfl, q⟩ | ⟨rfl, q⟩
    · refine ⟨A, ?_, a1⟩
      rw [if_pos q]
      refine bm_ie (fun z => absurd ((nI_ltI (by decide) (by omega)).mp (show nI 24 < nI V from z)) (by omega)) ?_
      exact bm_bd eA rfl
    · obtain ⟨L, e, f⟩ := ih (V + 1) _ A o (nI_1 V) pA (by omega) (by omega)
      refine ⟨L, ?_, fun k hk => (f k hk).trans (a1 k hk)⟩
      rw [if_neg q]
      refine bm_ie (fun z => absurd ((nI_ltI (by decide) (by omega)).mp (show nI 24 < nI V from z)) (by omega)) ?_
      exact bm_bd eA e
theorem c_evenVersions (h : bm_RC I S) (v : bm_VV S) : bm_cp n I (f_X7_evenVersions [.inr (some 4)]) (bm_evs S.1 24 1, S) := by
  obtain ⟨L, e, f⟩ := c_ev_loop (n := n) v.1 24 1 1 I 1000 rfl h.1 (by omega) (by omega)
  exact ⟨L, bm_g u_X7_evenVersions e, h.at68 f, fun j hj => f j (by omega)⟩
end NO
