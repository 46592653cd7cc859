set_option maxRecDepth 100000
/-! THE CLASS'S ROWS WRITTEN; A POLL COPIED; THE HISTORY -/
theorem va_uu (f : Nat → Nat → Int32) (k : Nat) (v w : Nat → Int32) : va_up (va_up f k v) k w = va_up f k w := bx_uu f k v w
theorem va_us {f : Nat → Nat → Int32} {k : Nat} {v : Nat → Int32} : va_up f k v k = v := if_pos rfl
section PW
variable {n : Nat} {I : Nat → Nat → Int32} {F : Nat → Nat}
theorem e_put {a N k : Nat} {x v : Int32} (hx : x = nI k) (hk : K1.getD a 99 = 8) (hN : (L1 n).getD a 0 = N) (hN2 : N < 2 ^ 31) (h4 : Nat.ble 4 a = true) (h : k < N) : f_X4_put [.inr (some a), .inl x, .inl v] (bm_mk n I) = some (none, bm_mk n (va_up I a (upd (I a) k v))) := by
  subst hx
  have hk' : bm_kd (bm_mk n I) a = 8 := hk
  have hl : bm_ln (bm_mk n I) a = N := hN
  refine bm_g u_X4_put ?_
  refine bm_ie (nI_pos (by omega)) ?_
  refine bm_cb (by show (Nat.beq (bm_kd (bm_mk n I) a) 8 || _) = true; rw [hk']; rfl) ?_
  refine bm_ie (fun z => ?_) ?_
  · rw [hl] at z; exact absurd ((nI_leI (by omega) (by omega)).mp z) (by omega)
  refine bm_cb (by show (Nat.beq (bm_kd (bm_mk n I) a) 8 && Nat.ble 4 a) = true; rw [hk', h4]; rfl) ?_
  refine bm_ie ?_ ?_
  · rw [nI_clamp (by omega), hl]; rintro (q | q)
    · exact nI_pos (by omega) q
    · omega
  · refine bm_okM ?_
    show bm_mk n (va_up I a (upd (I a) (nI k).toNatClampNeg v)) = _
    rw [nI_clamp (by omega)]
theorem e_put_out {a : Nat} {x v : Int32} (hx : x < 0) : f_X4_put [.inr (some a), .inl x, .inl v] (bm_mk n I) = some (none, bm_mk n I) := by
  refine bm_g u_X4_put ?_
  exact bm_it hx (bm_okM rfl)
theorem e_add {a N k : Nat} {x v : Int32} (hx : x = nI k) (hk : K1.getD a 99 = 8) (hN : (L1 n).getD a 0 = N) (hN2 : N < 2 ^ 31) (h4 : Nat.ble 4 a = true) (h : k < N) : f_X4_add [.inr (some a), .inl x, .inl v] (bm_mk n I) = some (none, bm_mk n (va_up I a (upd (I a) k (I a k + v)))) := by
  refine bm_g u_X4_add ?_
  refine bm_bd (e_gk' hx hk hN hN2 h) ?_
  refine bm_bd (e_put hx hk hN hN2 h4 h) ?_
  exact bm_okM rfl
theorem e_add_out {a N : Nat} {x v : Int32} (hx : x < 0) (hk : K1.getD a 99 = 8) (hN : (L1 n).getD a 0 = N) (hN2 : N < 2 ^ 31) : f_X4_add [.inr (some a), .inl x, .inl v] (bm_mk n I) = some (none, bm_mk n I) := by
  refine bm_g u_X4_add ?_
  refine bm_bd (e_gx hk hN hN2) ?_
  refine bm_bd (e_put_out hx) ?_
  exact bm_okM rfl
def bm_wp (f : Nat → Int32) (s i : Nat) : Nat → Int32 := fun k => if s ≤ k ∧ k < i then 0 else f k
theorem bm_wp0 {f : Nat → Int32} {s : Nat} : bm_wp f s s = f := by funext k; unfold bm_wp; exact if_neg (by omega)
theorem bm_wps {f : Nat → Int32} {s i : Nat} (h : s ≤ i) : upd (bm_wp f s i) i 0 = bm_wp f s (i + 1) := by
  funext k; unfold upd bm_wp
  by_cases e : k = i
  · subst e; rw [if_pos rfl, if_pos ⟨h, by omega⟩]
  · rw [if_neg e]
    by_cases q : s ≤ k ∧ k < i
    · rw [if_pos q, if_pos ⟨q.1, by omega⟩]
    · rw [if_neg q, if_neg (by omega)]
theorem va_self (f : Nat → Nat → Int32) (k : Nat) : va_up f k (f k) = f := by
  funext j; unfold va_up
  by_cases e : j = k
  · subst e; exact if_pos rfl
  · exact if_neg e
theorem e_wipe_loop {a N s : Nat} (hk : K1.getD a 99 = 8) (hN : (L1 n).getD a 0 = N) (hN2 : N < 900) (h4 : Nat.ble 4 a = true) : ∀ (d i : Nat) (x : Int32) (J : Nat → Nat → Int32) (o : Nat), x = nI i → J = va_up I a (bm_wp (I a) s i) → s ≤ i → i + d = N → d < o →
    bm_rn z_X4_wipe o 6 ([some (.inr (some a)), some (.inl (nI s)), some (.inl x)], [], bm_mk n J) = some (none, bm_mk n (va_up I a (bm_wp (I a) s N))) := by
  intro d
  induction d with
  | zero =>
    intro i x J o hx hJ hs hi ho
    obtain ⟨o, rfl⟩ : ∃ q, o = q + 1 := ⟨o - 1, by omega⟩
    have hi : i = N := by omega
    subst hi; subst hx
    have hk' : bm_kd (bm_mk n J) a = 8 := hk
    have hl : bm_ln (bm_mk n J) a = i := hN
    refine bm_cb (by show (Nat.beq (bm_kd (bm_mk n J) a) 8 || _) = true; rw [hk']; rfl) ?_
    refine bm_it (by rw [hl]; exact Int32.le_refl _) ?_
    exact bm_okM (by rw [hJ])
  | succ d ih =>
    intro i x J o hx hJ hs hi ho
    obtain ⟨o, rfl⟩ : ∃ q, o = q + 1 := ⟨o - 1, by omega⟩
    subst hx
    have hk' : bm_kd (bm_mk n J) a = 8 := hk
    have hl : bm_ln (bm_mk n J) a = N := hN
    refine bm_cb (by show (Nat.beq (bm_kd (bm_mk n J) a) 8 || _) = true; rw [hk']; rfl) ?_
    refine bm_ie (fun z => ?_) ?_
    · rw [hl] at z; exact absurd ((nI_leI (by omega) (by omega)).mp z) (by omega)
    refine bm_bd (e_put (k := i) rfl hk hN (by omega) h4 (by omega)) ?_
    exact ih (i + 1) _ _ o (nI_1 i) (by rw [hJ, va_us, va_uu, bm_wps hs]) (by omega) (by omega) (by omega)
theorem e_wipe {a N s : Nat} {x : Int32} (hx : x = nI s) (hk : K1.getD a 99 = 8) (hN : (L1 n).getD a 0 = N) (hN2 : N < 900) (h4 : Nat.ble 4 a = true) (hs : s ≤ N) : f_X4_wipe [.inr (some a), .inl x] (bm_mk n I) = some (none, bm_mk n (va_up I a (bm_wp (I a) s N))) := by
  subst hx
  exact bm_g u_X4_wipe (e_wipe_loop hk hN hN2 h4 (N - s) s _ I 1000 rfl (by rw [bm_wp0, va_self]) (Nat.le_refl _) (by omega) (by omega))
theorem e_copy {a b N : Nat} (hk : K1.getD a 99 = 8) (hN : (L1 n).getD a 0 = N) (hkb : K1.getD b 99 = 8) (hNb : (L1 n).getD b 0 = N) (hN2 : N < 900) (h4 : Nat.ble 4 b = true) : f_X4_copy [.inr (some a), .inr (some b)] (bm_mk n I) = some (none, bm_mk n (va_up I b (va_cpy (I a) (I b) 0 0 N))) := by
  have hk' : bm_kd (bm_mk n I) a = 8 := hk
  have hl : bm_ln (bm_mk n I) a = N := hN
  have hk2 : bm_kd (bm_mk n I) b = 8 := hkb
  have hl2 : bm_ln (bm_mk n I) b = N := hNb
  refine bm_g u_X4_copy ?_
  refine bm_cb (by show (Nat.beq (bm_kd (bm_mk n I) a) 8 || _) = true; rw [hk']; rfl) ?_
  refine bm_cb (by show (Nat.beq (bm_kd (bm_mk n I) b) 8 || _) = true; rw [hk2]; rfl) ?_
  refine bm_it (by rw [hl, hl2]) ?_
  refine bm_cb (by show (Nat.beq (bm_kd (bm_mk n I) a) 8 || _) = true; rw [hk']; rfl) ?_
  refine bm_cb (by show (Nat.beq (bm_kd (bm_mk n I) a) 8 && (Nat.beq (bm_kd (bm_mk n I) b) 8 && Nat.ble 4 b)) = true; rw [hk', hk2, h4]; rfl) ?_
  have hc : (Int32.ofNat N).toNatClampNeg = N := nI_clamp (by omega)
  refine bm_ie ?_ ?_
  · rw [hl, hl2, hc]
    rintro ((q | q | q) | (q | q))
    · exact absurd q (by decide)
    · exact absurd q (by decide)
    · exact nI_pos (by omega) q
    · exact absurd q (by rw [show (0 : Int32).toNatClampNeg = 0 from rfl]; omega)
    · exact absurd q (by rw [show (0 : Int32).toNatClampNeg = 0 from rfl]; omega)
  · refine bm_okM ?_
    show bm_mk n (va_up I b (va_cpy (I a) (I b) 0 0 (Int32.ofNat (bm_ln (bm_mk n I) a)).toNatClampNeg)) = _
    rw [hl, hc]
theorem va_cp0 {f h : Nat → Int32} {N k : Nat} (hk : k < N) : va_cpy f h 0 0 N k = f k := by
  unfold va_cpy
  rw [if_pos ⟨by omega, by omega⟩]; congr 1; omega
/-- a poll's cells, copied so far -/
def bm_B (t : Nat) (I J : Nat → Nat → Int32) (h h2 : Nat) : Prop := J h 0 = I h2 0 ∧ J h 1 = I h2 1 ∧ (∀ i, 1 ≤ i → i ≤ t → ∀ k, k < bm_sz i → J (h + i) k = I (h2 + i) k) ∧ ∀ k, k < h ∨ h + 10 < k → J k = I k
theorem bm_B.up {t : Nat} {I J : Nat → Nat → Int32} {h h2 N : Nat} (b : bm_B t I J h h2) (ht : t < 10) (hd : h2 + 10 < h ∨ h + 10 < h2) (hN : bm_sz (t + 1) = N) : bm_B (t + 1) I (va_up J (h + (t + 1)) (va_cpy (J (h2 + (t + 1))) (J (h + (t + 1))) 0 0 N)) h h2 := by
  obtain ⟨b1, b2, b3, b4⟩ := b
  have e0 : va_up J (h + (t + 1)) (va_cpy (J (h2 + (t + 1))) (J (h + (t + 1))) 0 0 N) h = J h := va_up_ne _ _ (by omega)
  refine ⟨by rw [e0]; exact b1, by rw [e0]; exact b2, fun i i1 i2 k hk => ?_, fun k hk => ?_⟩
  · by_cases e : i = t + 1
    · subst e
      rw [show va_up J (h + (t + 1)) (va_cpy (J (h2 + (t + 1))) (J (h + (t + 1))) 0 0 N) (h + (t + 1)) = va_cpy (J (h2 + (t + 1))) (J (h + (t + 1))) 0 0 N from if_pos rfl, va_cp0 (by omega), b4 _ (by omega)]
    · rw [va_up_ne _ _ (by omega)]; exact b3 i i1 (by omega) k hk
  · rw [va_up_ne _ _ (by omega)]; exact b4 k hk
theorem e_copyB {t : Nat} {I J : Nat → Nat → Int32} {h h2 N : Nat} (b : bm_B t I J h h2) (ht : t < 10) (hd : h2 + 10 < h ∨ h + 10 < h2) (hN : bm_sz (t + 1) = N) (hk : K1.getD (h2 + (t + 1)) 99 = 8) (hNa : (L1 n).getD (h2 + (t + 1)) 0 = N) (hkb : K1.getD (h + (t + 1)) 99 = 8) (hNb : (L1 n).getD (h + (t + 1)) 0 = N) (hN2 : N < 900) (h4 : Nat.ble 4 (h + (t + 1)) = true) : ∃ J', f_X4_copy [.inr (some (h2 + (t + 1))), .inr (some (h + (t + 1)))] (bm_mk n J) = some (none, bm_mk n J') ∧ bm_B (t + 1) I J' h h2 := ⟨_, e_copy hk hNa hkb hNb hN2 h4, b.up ht hd hN⟩
theorem bm_B.P {I J : Nat → Nat → Int32} {h h2 : Nat} (b : bm_B 10 I J h h2) (p : bm_P I h2 F) : bm_P J h F := ⟨b.1.trans p.1, b.2.1.trans p.2.1, fun i i1 i2 k hk => (b.2.2.1 i i1 i2 k hk).trans (p.2.2 i i1 i2 k hk)⟩
/-- only cells from lo to hi have changed -/
def bm_fz (I J : Nat → Nat → Int32) (lo hi : Nat) : Prop := ∀ k, k < lo ∨ hi < k → J k = I k
theorem bm_fz.rf {I : Nat → Nat → Int32} {lo hi : Nat} : bm_fz I I lo hi := fun _ _ => rfl
theorem bm_fz.tr {I J L : Nat → Nat → Int32} {lo hi : Nat} (a : bm_fz I J lo hi) (b : bm_fz J L lo hi) : bm_fz I L lo hi := fun k hk => (b k hk).trans (a k hk)
theorem bm_fz.wd {I J : Nat → Nat → Int32} {lo hi lo' hi' : Nat} (a : bm_fz I J lo hi) (h1 : lo' ≤ lo) (h2 : hi ≤ hi') : bm_fz I J lo' hi' := fun k hk => a k (by omega)
theorem bm_fz.up {I J : Nat → Nat → Int32} {lo hi a : Nat} {f : Nat → Int32} (b : bm_fz I J lo hi) (h1 : lo ≤ a) (h2 : a ≤ hi) : bm_fz I (va_up J a f) lo hi := fun k hk => (va_up_ne _ _ (by omega)).trans (b k hk)
theorem e_become_18_5 : ∃ J, f_X3_become [.inr (some 18), .inr (some 5)] (bm_mk n I) = some (none, bm_mk n J) ∧ bm_B 10 I J 18 5 := by
  have b0 : bm_B 0 I (va_up (va_up I 18 (upd (I 18) 0 (I 5 0))) 18 (upd ((va_up I 18 (upd (I 18) 0 (I 5 0))) 18) 1 ((va_up I 18 (upd (I 18) 0 (I 5 0))) 5 1))) 18 5 := ⟨rfl, rfl, fun i i1 i2 => absurd i1 (by omega), fun k hk => (va_up_ne _ _ (show k ≠ 18 by omega)).trans (va_up_ne _ _ (show k ≠ 18 by omega))⟩
  obtain ⟨J1, e1, b1⟩ := e_copyB (n := n) b0 (by decide) (by decide) (N := 6) rfl rfl rfl rfl rfl (by decide) rfl
  obtain ⟨J2, e2, b2⟩ := e_copyB (n := n) b1 (by decide) (by decide) (N := 6) rfl rfl rfl rfl rfl (by decide) rfl
  obtain ⟨J3, e3, b3⟩ := e_copyB (n := n) b2 (by decide) (by decide) (N := 6) rfl rfl rfl rfl rfl (by decide) rfl
  obtain ⟨J4, e4, b4⟩ := e_copyB (n := n) b3 (by decide) (by decide) (N := 6) rfl rfl rfl rfl rfl (by decide) rfl
  obtain ⟨J5, e5, b5⟩ := e_copyB (n := n) b4 (by decide) (by decide) (N := 6) rfl rfl rfl rfl rfl (by decide) rfl
  obtain ⟨J6, e6, b6⟩ := e_copyB (n := n) b5 (by decide) (by decide) (N := 6) rfl rfl rfl rfl rfl (by decide) rfl
  obtain ⟨J7, e7, b7⟩ := e_copyB (n := n) b6 (by decide) (by decide) (N := 48) rfl rfl rfl rfl rfl (by decide) rfl
  obtain ⟨J8, e8, b8⟩ := e_copyB (n := n) b7 (by decide) (by decide) (N := 48) rfl rfl rfl rfl rfl (by decide) rfl
  obtain ⟨J9, e9, b9⟩ := e_copyB (n := n) b8 (by decide) (by decide) (N := 24) rfl rfl rfl rfl rfl (by decide) rfl
  obtain ⟨J10, e10, b10⟩ := e_copyB (n := n) b9 (by decide) (by decide) (N := 6) rfl rfl rfl rfl rfl (by decide) rfl
  refine ⟨J10, bm_g u_X3_become ?_, b10⟩
  refine bm_bd e1 ?_
  refine bm_bd e2 ?_
  refine bm_bd e3 ?_
  refine bm_bd e4 ?_
  refine bm_bd e5 ?_
  refine bm_bd e6 ?_
  refine bm_bd e7 ?_
  refine bm_bd e8 ?_
  refine bm_bd e9 ?_
  refine bm_bd e10 ?_
  rfl
theorem e_become_29_5 : ∃ J, f_X3_become [.inr (some 29), .inr (some 5)] (bm_mk n I) = some (none, bm_mk n J) ∧ bm_B 10 I J 29 5 := by
  have b0 : bm_B 0 I (va_up (va_up I 29 (upd (I 29) 0 (I 5 0))) 29 (upd ((va_up I 29 (upd (I 29) 0 (I 5 0))) 29) 1 ((va_up I 29 (upd (I 29) 0 (I 5 0))) 5 1))) 29 5 := ⟨rfl, rfl, fun i i1 i2 => absurd i1 (by omega), fun k hk => (va_up_ne _ _ (show k ≠ 29 by omega)).trans (va_up_ne _ _ (show k ≠ 29 by omega))⟩
  obtain ⟨J1, e1, b1⟩ := e_copyB (n := n) b0 (by decide) (by decide) (N := 6) rfl rfl rfl rfl rfl (by decide) rfl
  obtain ⟨J2, e2, b2⟩ := e_copyB (n := n) b1 (by decide) (by decide) (N := 6) rfl rfl rfl rfl rfl (by decide) rfl
  obtain ⟨J3, e3, b3⟩ := e_copyB (n := n) b2 (by decide) (by decide) (N := 6) rfl rfl rfl rfl rfl (by decide) rfl
  obtain ⟨J4, e4, b4⟩ := e_copyB (n := n) b3 (by decide) (by decide) (N := 6) rfl rfl rfl rfl rfl (by decide) rfl
  obtain ⟨J5, e5, b5⟩ := e_copyB (n := n) b4 (by decide) (by decide) (N := 6) rfl rfl rfl rfl rfl (by decide) rfl
  obtain ⟨J6, e6, b6⟩ := e_copyB (n := n) b5 (by decide) (by decide) (N := 6) rfl rfl rfl rfl rfl (by decide) rfl
  obtain ⟨J7, e7, b7⟩ := e_copyB (n := n) b6 (by decide) (by decide) (N := 48) rfl rfl rfl rfl rfl (by decide) rfl
  obtain ⟨J8, e8, b8⟩ := e_copyB (n := n) b7 (by decide) (by decide) (N := 48) rfl rfl rfl rfl rfl (by decide) rfl
  obtain ⟨J9, e9, b9⟩ := e_copyB (n := n) b8 (by decide) (by decide) (N := 24) rfl rfl rfl rfl rfl (by decide) rfl
  obtain ⟨J10, e10, b10⟩ := e_copyB (n := n) b9 (by decide) (by decide) (N := 6) rfl rfl rfl rfl rfl (by decide) rfl
  refine ⟨J10, bm_g u_X3_become ?_, b10⟩
  refine bm_bd e1 ?_
  refine bm_bd e2 ?_
  refine bm_bd e3 ?_
  refine bm_bd e4 ?_
  refine bm_bd e5 ?_
  refine bm_bd e6 ?_
  refine bm_bd e7 ?_
  refine bm_bd e8 ?_
  refine bm_bd e9 ?_
  refine bm_bd e10 ?_
  rfl
theorem e_become_40_5 : ∃ J, f_X3_become [.inr (some 40), .inr (some 5)] (bm_mk n I) = some (none, bm_mk n J) ∧ bm_B 10 I J 40 5 := by
  have b0 : bm_B 0 I (va_up (va_up I 40 (upd (I 40) 0 (I 5 0))) 40 (upd ((va_up I 40 (upd (I 40) 0 (I 5 0))) 40) 1 ((va_up I 40 (upd (I 40) 0 (I 5 0))) 5 1))) 40 5 := ⟨rfl, rfl, fun i i1 i2 => absurd i1 (by omega), fun k hk => (va_up_ne _ _ (show k ≠ 40 by omega)).trans (va_up_ne _ _ (show k ≠ 40 by omega))⟩
  obtain ⟨J1, e1, b1⟩ := e_copyB (n := n) b0 (by decide) (by decide) (N := 6) rfl rfl rfl rfl rfl (by decide) rfl
  obtain ⟨J2, e2, b2⟩ := e_copyB (n := n) b1 (by decide) (by decide) (N := 6) rfl rfl rfl rfl rfl (by decide) rfl
  obtain ⟨J3, e3, b3⟩ := e_copyB (n := n) b2 (by decide) (by decide) (N := 6) rfl rfl rfl rfl rfl (by decide) rfl
  obtain ⟨J4, e4, b4⟩ := e_copyB (n := n) b3 (by decide) (by decide) (N := 6) rfl rfl rfl rfl rfl (by decide) rfl
  obtain ⟨J5, e5, b5⟩ := e_copyB (n := n) b4 (by decide) (by decide) (N := 6) rfl rfl rfl rfl rfl (by decide) rfl
  obtain ⟨J6, e6, b6⟩ := e_copyB (n := n) b5 (by decide) (by decide) (N := 6) rfl rfl rfl rfl rfl (by decide) rfl
  obtain ⟨J7, e7, b7⟩ := e_copyB (n := n) b6 (by decide) (by decide) (N := 48) rfl rfl rfl rfl rfl (by decide) rfl
  obtain ⟨J8, e8, b8⟩ := e_copyB (n := n) b7 (by decide) (by decide) (N := 48) rfl rfl rfl rfl rfl (by decide) rfl
  obtain ⟨J9, e9, b9⟩ := e_copyB (n := n) b8 (by decide) (by decide) (N := 24) rfl rfl rfl rfl rfl (by decide) rfl
  obtain ⟨J10, e10, b10⟩ := e_copyB (n := n) b9 (by decide) (by decide) (N := 6) rfl rfl rfl rfl rfl (by decide) rfl
  refine ⟨J10, bm_g u_X3_become ?_, b10⟩
  refine bm_bd e1 ?_
  refine bm_bd e2 ?_
  refine bm_bd e3 ?_
  refine bm_bd e4 ?_
  refine bm_bd e5 ?_
  refine bm_bd e6 ?_
  refine bm_bd e7 ?_
  refine bm_bd e8 ?_
  refine bm_bd e9 ?_
  refine bm_bd e10 ?_
  rfl
theorem e_become_51_5 : ∃ J, f_X3_become [.inr (some 51), .inr (some 5)] (bm_mk n I) = some (none, bm_mk n J) ∧ bm_B 10 I J 51 5 := by
  have b0 : bm_B 0 I (va_up (va_up I 51 (upd (I 51) 0 (I 5 0))) 51 (upd ((va_up I 51 (upd (I 51) 0 (I 5 0))) 51) 1 ((va_up I 51 (upd (I 51) 0 (I 5 0))) 5 1))) 51 5 := ⟨rfl, rfl, fun i i1 i2 => absurd i1 (by omega), fun k hk => (va_up_ne _ _ (show k ≠ 51 by omega)).trans (va_up_ne _ _ (show k ≠ 51 by omega))⟩
  obtain ⟨J1, e1, b1⟩ := e_copyB (n := n) b0 (by decide) (by decide) (N := 6) rfl rfl rfl rfl rfl (by decide) rfl
  obtain ⟨J2, e2, b2⟩ := e_copyB (n := n) b1 (by decide) (by decide) (N := 6) rfl rfl rfl rfl rfl (by decide) rfl
  obtain ⟨J3, e3, b3⟩ := e_copyB (n := n) b2 (by decide) (by decide) (N := 6) rfl rfl rfl rfl rfl (by decide) rfl
  obtain ⟨J4, e4, b4⟩ := e_copyB (n := n) b3 (by decide) (by decide) (N := 6) rfl rfl rfl rfl rfl (by decide) rfl
  obtain ⟨J5, e5, b5⟩ := e_copyB (n := n) b4 (by decide) (by decide) (N := 6) rfl rfl rfl rfl rfl (by decide) rfl
  obtain ⟨J6, e6, b6⟩ := e_copyB (n := n) b5 (by decide) (by decide) (N := 6) rfl rfl rfl rfl rfl (by decide) rfl
  obtain ⟨J7, e7, b7⟩ := e_copyB (n := n) b6 (by decide) (by decide) (N := 48) rfl rfl rfl rfl rfl (by decide) rfl
  obtain ⟨J8, e8, b8⟩ := e_copyB (n := n) b7 (by decide) (by decide) (N := 48) rfl rfl rfl rfl rfl (by decide) rfl
  obtain ⟨J9, e9, b9⟩ := e_copyB (n := n) b8 (by decide) (by decide) (N := 24) rfl rfl rfl rfl rfl (by decide) rfl
  obtain ⟨J10, e10, b10⟩ := e_copyB (n := n) b9 (by decide) (by decide) (N := 6) rfl rfl rfl rfl rfl (by decide) rfl
  refine ⟨J10, bm_g u_X3_become ?_, b10⟩
  refine bm_bd e1 ?_
  refine bm_bd e2 ?_
  refine bm_bd e3 ?_
  refine bm_bd e4 ?_
  refine bm_bd e5 ?_
  refine bm_bd e6 ?_
  refine bm_bd e7 ?_
  refine bm_bd e8 ?_
  refine bm_bd e9 ?_
  refine bm_bd e10 ?_
  rfl
theorem e_become_5_18 : ∃ J, f_X3_become [.inr (some 5), .inr (some 18)] (bm_mk n I) = some (none, bm_mk n J) ∧ bm_B 10 I J 5 18 := by
  have b0 : bm_B 0 I (va_up (va_up I 5 (upd (I 5) 0 (I 18 0))) 5 (upd ((va_up I 5 (upd (I 5) 0 (I 18 0))) 5) 1 ((va_up I 5 (upd (I 5) 0 (I 18 0))) 18 1))) 5 18 := ⟨rfl, rfl, fun i i1 i2 => absurd i1 (by omega), fun k hk => (va_up_ne _ _ (show k ≠ 5 by omega)).trans (va_up_ne _ _ (show k ≠ 5 by omega))⟩
  obtain ⟨J1, e1, b1⟩ := e_copyB (n := n) b0 (by decide) (by decide) (N := 6) rfl rfl rfl rfl rfl (by decide) rfl
  obtain ⟨J2, e2, b2⟩ := e_copyB (n := n) b1 (by decide) (by decide) (N := 6) rfl rfl rfl rfl rfl (by decide) rfl
  obtain ⟨J3, e3, b3⟩ := e_copyB (n := n) b2 (by decide) (by decide) (N := 6) rfl rfl rfl rfl rfl (by decide) rfl
  obtain ⟨J4, e4, b4⟩ := e_copyB (n := n) b3 (by decide) (by decide) (N := 6) rfl rfl rfl rfl rfl (by decide) rfl
  obtain ⟨J5, e5, b5⟩ := e_copyB (n := n) b4 (by decide) (by decide) (N := 6) rfl rfl rfl rfl rfl (by decide) rfl
  obtain ⟨J6, e6, b6⟩ := e_copyB (n := n) b5 (by decide) (by decide) (N := 6) rfl rfl rfl rfl rfl (by decide) rfl
  obtain ⟨J7, e7, b7⟩ := e_copyB (n := n) b6 (by decide) (by decide) (N := 48) rfl rfl rfl rfl rfl (by decide) rfl
  obtain ⟨J8, e8, b8⟩ := e_copyB (n := n) b7 (by decide) (by decide) (N := 48) rfl rfl rfl rfl rfl (by decide) rfl
  obtain ⟨J9, e9, b9⟩ := e_copyB (n := n) b8 (by decide) (by decide) (N := 24) rfl rfl rfl rfl rfl (by decide) rfl
  obtain ⟨J10, e10, b10⟩ := e_copyB (n := n) b9 (by decide) (by decide) (N := 6) rfl rfl rfl rfl rfl (by decide) rfl
  refine ⟨J10, bm_g u_X3_become ?_, b10⟩
  refine bm_bd e1 ?_
  refine bm_bd e2 ?_
  refine bm_bd e3 ?_
  refine bm_bd e4 ?_
  refine bm_bd e5 ?_
  refine bm_bd e6 ?_
  refine bm_bd e7 ?_
  refine bm_bd e8 ?_
  refine bm_bd e9 ?_
  refine bm_bd e10 ?_
  rfl
theorem e_become_5_29 : ∃ J, f_X3_become [.inr (some 5), .inr (some 29)] (bm_mk n I) = some (none, bm_mk n J) ∧ bm_B 10 I J 5 29 := by
  have b0 : bm_B 0 I (va_up (va_up I 5 (upd (I 5) 0 (I 29 0))) 5 (upd ((va_up I 5 (upd (I 5) 0 (I 29 0))) 5) 1 ((va_up I 5 (upd (I 5) 0 (I 29 0))) 29 1))) 5 29 := ⟨rfl, rfl, fun i i1 i2 => absurd i1 (by omega), fun k hk => (va_up_ne _ _ (show k ≠ 5 by omega)).trans (va_up_ne _ _ (show k ≠ 5 by omega))⟩
  obtain ⟨J1, e1, b1⟩ := e_copyB (n := n) b0 (by decide) (by decide) (N := 6) rfl rfl rfl rfl rfl (by decide) rfl
  obtain ⟨J2, e2, b2⟩ := e_copyB (n := n) b1 (by decide) (by decide) (N := 6) rfl rfl rfl rfl rfl (by decide) rfl
  obtain ⟨J3, e3, b3⟩ := e_copyB (n := n) b2 (by decide) (by decide) (N := 6) rfl rfl rfl rfl rfl (by decide) rfl
  obtain ⟨J4, e4, b4⟩ := e_copyB (n := n) b3 (by decide) (by decide) (N := 6) rfl rfl rfl rfl rfl (by decide) rfl
  obtain ⟨J5, e5, b5⟩ := e_copyB (n := n) b4 (by decide) (by decide) (N := 6) rfl rfl rfl rfl rfl (by decide) rfl
  obtain ⟨J6, e6, b6⟩ := e_copyB (n := n) b5 (by decide) (by decide) (N := 6) rfl rfl rfl rfl rfl (by decide) rfl
  obtain ⟨J7, e7, b7⟩ := e_copyB (n := n) b6 (by decide) (by decide) (N := 48) rfl rfl rfl rfl rfl (by decide) rfl
  obtain ⟨J8, e8, b8⟩ := e_copyB (n := n) b7 (by decide) (by decide) (N := 48) rfl rfl rfl rfl rfl (by decide) rfl
  obtain ⟨J9, e9, b9⟩ := e_copyB (n := n) b8 (by decide) (by decide) (N := 24) rfl rfl rfl rfl rfl (by decide) rfl
  obtain ⟨J10, e10, b10⟩ := e_copyB (n := n) b9 (by decide) (by decide) (N := 6) rfl rfl rfl rfl rfl (by decide) rfl
  refine ⟨J10, bm_g u_X3_become ?_, b10⟩
  refine bm_bd e1 ?_
  refine bm_bd e2 ?_
  refine bm_bd e3 ?_
  refine bm_bd e4 ?_
  refine bm_bd e5 ?_
  refine bm_bd e6 ?_
  refine bm_bd e7 ?_
  refine bm_bd e8 ?_
  refine bm_bd e9 ?_
  refine bm_bd e10 ?_
  rfl
theorem e_become_5_40 : ∃ J, f_X3_become [.inr (some 5), .inr (some 40)] (bm_mk n I) = some (none, bm_mk n J) ∧ bm_B 10 I J 5 40 := by
  have b0 : bm_B 0 I (va_up (va_up I 5 (upd (I 5) 0 (I 40 0))) 5 (upd ((va_up I 5 (upd (I 5) 0 (I 40 0))) 5) 1 ((va_up I 5 (upd (I 5) 0 (I 40 0))) 40 1))) 5 40 := ⟨rfl, rfl, fun i i1 i2 => absurd i1 (by omega), fun k hk => (va_up_ne _ _ (show k ≠ 5 by omega)).trans (va_up_ne _ _ (show k ≠ 5 by omega))⟩
  obtain ⟨J1, e1, b1⟩ := e_copyB (n := n) b0 (by decide) (by decide) (N := 6) rfl rfl rfl rfl rfl (by decide) rfl
  obtain ⟨J2, e2, b2⟩ := e_copyB (n := n) b1 (by decide) (by decide) (N := 6) rfl rfl rfl rfl rfl (by decide) rfl
  obtain ⟨J3, e3, b3⟩ := e_copyB (n := n) b2 (by decide) (by decide) (N := 6) rfl rfl rfl rfl rfl (by decide) rfl
  obtain ⟨J4, e4, b4⟩ := e_copyB (n := n) b3 (by decide) (by decide) (N := 6) rfl rfl rfl rfl rfl (by decide) rfl
  obtain ⟨J5, e5, b5⟩ := e_copyB (n := n) b4 (by decide) (by decide) (N := 6) rfl rfl rfl rfl rfl (by decide) rfl
  obtain ⟨J6, e6, b6⟩ := e_copyB (n := n) b5 (by decide) (by decide) (N := 6) rfl rfl rfl rfl rfl (by decide) rfl
  obtain ⟨J7, e7, b7⟩ := e_copyB (n := n) b6 (by decide) (by decide) (N := 48) rfl rfl rfl rfl rfl (by decide) rfl
  obtain ⟨J8, e8, b8⟩ := e_copyB (n := n) b7 (by decide) (by decide) (N := 48) rfl rfl rfl rfl rfl (by decide) rfl
  obtain ⟨J9, e9, b9⟩ := e_copyB (n := n) b8 (by decide) (by decide) (N := 24) rfl rfl rfl rfl rfl (by decide) rfl
  obtain ⟨J10, e10, b10⟩ := e_copyB (n := n) b9 (by decide) (by decide) (N := 6) rfl rfl rfl rfl rfl (by decide) rfl
  refine ⟨J10, bm_g u_X3_become ?_, b10⟩
  refine bm_bd e1 ?_
  refine bm_bd e2 ?_
  refine bm_bd e3 ?_
  refine bm_bd e4 ?_
  refine bm_bd e5 ?_
  refine bm_bd e6 ?_
  refine bm_bd e7 ?_
  refine bm_bd e8 ?_
  refine bm_bd e9 ?_
  refine bm_bd e10 ?_
  rfl
theorem e_become_5_51 : ∃ J, f_X3_become [.inr (some 5), .inr (some 51)] (bm_mk n I) = some (none, bm_mk n J) ∧ bm_B 10 I J 5 51 := by
  have b0 : bm_B 0 I (va_up (va_up I 5 (upd (I 5) 0 (I 51 0))) 5 (upd ((va_up I 5 (upd (I 5) 0 (I 51 0))) 5) 1 ((va_up I 5 (upd (I 5) 0 (I 51 0))) 51 1))) 5 51 := ⟨rfl, rfl, fun i i1 i2 => absurd i1 (by omega), fun k hk => (va_up_ne _ _ (show k ≠ 5 by omega)).trans (va_up_ne _ _ (show k ≠ 5 by omega))⟩
  obtain ⟨J1, e1, b1⟩ := e_copyB (n := n) b0 (by decide) (by decide) (N := 6) rfl rfl rfl rfl rfl (by decide) rfl
  obtain ⟨J2, e2, b2⟩ := e_copyB (n := n) b1 (by decide) (by decide) (N := 6) rfl rfl rfl rfl rfl (by decide) rfl
  obtain ⟨J3, e3, b3⟩ := e_copyB (n := n) b2 (by decide) (by decide) (N := 6) rfl rfl rfl rfl rfl (by decide) rfl
  obtain ⟨J4, e4, b4⟩ := e_copyB (n := n) b3 (by decide) (by decide) (N := 6) rfl rfl rfl rfl rfl (by decide) rfl
  obtain ⟨J5, e5, b5⟩ := e_copyB (n := n) b4 (by decide) (by decide) (N := 6) rfl rfl rfl rfl rfl (by decide) rfl
  obtain ⟨J6, e6, b6⟩ := e_copyB (n := n) b5 (by decide) (by decide) (N := 6) rfl rfl rfl rfl rfl (by decide) rfl
  obtain ⟨J7, e7, b7⟩ := e_copyB (n := n) b6 (by decide) (by decide) (N := 48) rfl rfl rfl rfl rfl (by decide) rfl
  obtain ⟨J8, e8, b8⟩ := e_copyB (n := n) b7 (by decide) (by decide) (N := 48) rfl rfl rfl rfl rfl (by decide) rfl
  obtain ⟨J9, e9, b9⟩ := e_copyB (n := n) b8 (by decide) (by decide) (N := 24) rfl rfl rfl rfl rfl (by decide) rfl
  obtain ⟨J10, e10, b10⟩ := e_copyB (n := n) b9 (by decide) (by decide) (N := 6) rfl rfl rfl rfl rfl (by decide) rfl
  refine ⟨J10, bm_g u_X3_become ?_, b10⟩
  refine bm_bd e1 ?_
  refine bm_bd e2 ?_
  refine bm_bd e3 ?_
  refine bm_bd e4 ?_
  refine bm_bd e5 ?_
  refine bm_bd e6 ?_
  refine bm_bd e7 ?_
  refine bm_bd e8 ?_
  refine bm_bd e9 ?_
  refine bm_bd e10 ?_
  rfl
theorem bm_4 {P : Nat → Prop} (h0 : P 0) (h1 : P 1) (h2 : P 2) (h3 : P 3) : ∀ j, j < 4 → P j := by
  intro j hj
  rcases (show j = 0 ∨ j = 1 ∨ j = 2 ∨ j = 3 by omega) with rfl | rfl | rfl | rfl <;> assumption
theorem e_become_to : ∀ j, j < 4 → ∀ I : Nat → Nat → Int32, ∃ J, f_X3_become [.inr (some (18 + 11 * j)), .inr (some 5)] (bm_mk n I) = some (none, bm_mk n J) ∧ bm_B 10 I J (18 + 11 * j) 5 := bm_4 (fun _ => e_become_18_5) (fun _ => e_become_29_5) (fun _ => e_become_40_5) (fun _ => e_become_51_5)
theorem e_become_from : ∀ j, j < 4 → ∀ I : Nat → Nat → Int32, ∃ J, f_X3_become [.inr (some 5), .inr (some (18 + 11 * j))] (bm_mk n I) = some (none, bm_mk n J) ∧ bm_B 10 I J 5 (18 + 11 * j) := bm_4 (fun _ => e_become_5_18) (fun _ => e_become_5_29) (fun _ => e_become_5_40) (fun _ => e_become_5_51)
theorem e_stateAt {x : Int32} {j : Nat} (hx : x = nI j) (hj : j < 4) : f_X2_stateAt [.inr (some 16), .inl x] (bm_mk n I) = some (some (.inr (some (18 + 11 * j))), bm_mk n I) := by
  subst hx
  have key : ∀ j, j < 4 → f_X2_stateAt [.inr (some 16), .inl (nI j)] (bm_mk n I) = some (some (.inr (some (18 + 11 * j))), bm_mk n I) := bm_4 (bm_g u_X2_stateAt rfl) (bm_g u_X2_stateAt rfl) (bm_g u_X2_stateAt rfl) (bm_g u_X2_stateAt rfl)
  exact key j hj
/-- the history: the oldest state's place, how many, what they hold -/
def bm_H (I : Nat → Nat → Int32) (P : Nat) (Q : Nat → Nat → Nat) : Prop := ∃ o, o < 4 ∧ P ≤ 4 ∧ I 16 1 = nI o ∧ I 16 2 = nI P ∧ ∀ j, j < P → bm_P I (18 + 11 * ((o + j) % 4)) (Q j)
def bm_pn (P : Nat) : Nat := if P = 4 then 4 else P + 1
def bm_pq (P : Nat) (Q : Nat → Nat → Nat) (F : Nat → Nat) : Nat → Nat → Nat := fun j => if P = 4 then (if j = 3 then F else Q (j + 1)) else (if j = P then F else Q j)
theorem bm_H.congr {I J : Nat → Nat → Int32} {P : Nat} {Q : Nat → Nat → Nat} (h : bm_H I P Q) (e : ∀ k, 16 ≤ k → k ≤ 61 → J k = I k) : bm_H J P Q := by
  obtain ⟨o, h1, h2, h3, h4, h5⟩ := h
  refine ⟨o, h1, h2, by rw [e 16 (by omega) (by omega)]; exact h3, by rw [e 16 (by omega) (by omega)]; exact h4, fun j hj => (h5 j hj).congr (fun i hi => e _ ?_ ?_)⟩
  · have := Nat.mod_lt (o + j) (show 4 > 0 by decide); omega
  · have := Nat.mod_lt (o + j) (show 4 > 0 by decide); omega
/-- the last steps of keep: the poll copied to the free place, one more kept -/
theorem e_keep_end {o P : Nat} {Q : Nat → Nat → Nat} (hp : bm_P I 5 F) (ho : o < 4) (hP : P < 4) (h1 : I 16 1 = nI o) (h2 : I 16 2 = nI P) (h3 : ∀ j, j < P → bm_P I (18 + 11 * ((o + j) % 4)) (Q j)) (w : Option bm_V) :
    ∃ J, bm_rn z_X2_keep 1000 30 ([some (.inr (some 16)), some (.inr (some 5)), w], [], bm_mk n I) = some (none, bm_mk n J) ∧ bm_H J (P + 1) (fun j => if j = P then F else Q j) ∧ bm_fz I J 16 61 := by
  have hm := Nat.mod_lt (o + P) (show 4 > 0 by decide)
  obtain ⟨J, e, b⟩ := e_become_to (n := n) ((o + P) % 4) hm I
  have b16 : J 16 = I 16 := b.2.2.2 16 (by omega)
  refine ⟨va_up J 16 (upd (J 16) 2 (J 16 2 + 1)), ?_, ⟨o, ho, by omega, ?_, ?_, fun j hj => ?_⟩, ?_⟩
  · refine bm_bd (e_stateAt (j := (o + P) % 4) ?_ hm) ?_
    · show (I 16 1 + I 16 2) - (I 16 1 + I 16 2) / 4 * 4 = _
      rw [h1, h2, nI_add, bm_lit 4, pk_rem (by omega) (by decide) (by decide)]
    · refine bm_cb ?_ ?_
      · have hr : ∀ r, r < 4 → bm_rc 3 [.inr (some (18 + 11 * r)), .inr (some 5)] (bm_mk n I) = true := bm_4 rfl rfl rfl rfl
        exact hr _ hm
      · refine bm_bd e ?_
        rfl
  · show upd (J 16) 2 (J 16 2 + 1) 1 = _
    rw [show upd (J 16) 2 (J 16 2 + 1) 1 = J 16 1 from if_neg (by decide), b16]; exact h1
  · show upd (J 16) 2 (J 16 2 + 1) 2 = _
    rw [show upd (J 16) 2 (J 16 2 + 1) 2 = J 16 2 + 1 from if_pos rfl, b16, h2]; exact nI_1 P
  · have hmj := Nat.mod_lt (o + j) (show 4 > 0 by decide)
    refine bm_P.congr (I := J) ?_ (fun i hi => va_up_ne _ _ (by omega))
    dsimp only
    by_cases e : j = P
    · subst e; rw [if_pos rfl]; exact b.P hp
    · rw [if_neg e]
      have hne : (o + j) % 4 ≠ (o + P) % 4 := by omega
      exact (h3 j (by omega)).congr (fun i hi => b.2.2.2 _ (by omega))
  · exact bm_fz.up (I := I) (J := J) (fun k hk => b.2.2.2 k (by omega)) (by omega) (by omega)
theorem e_keep {P : Nat} {Q : Nat → Nat → Nat} (hp : bm_P I 5 F) (hh : bm_H I P Q) : ∃ J, f_X2_keep [.inr (some 16), .inr (some 5)] (bm_mk n I) = some (none, bm_mk n J) ∧ bm_H J (bm_pn P) (bm_pq P Q F) ∧ bm_fz I J 16 61 := by
  obtain ⟨o, ho, hP, h1, h2, h3⟩ := hh
  by_cases h4 : P = 4
  · subst h4
    let I2 := va_up (va_up I 16 (upd (I 16) 1 ((I 16 1 + 1) - (I 16 1 + 1) / 4 * 4))) 16 (upd (upd (I 16) 1 ((I 16 1 + 1) - (I 16 1 + 1) / 4 * 4)) 2 (I 16 2 - 1))
    have f0 : bm_fz I I2 16 61 := ((bm_fz.rf).up (by omega) (by omega)).up (by omega) (by omega)
    have g : ∀ k, k ≠ 16 → I2 k = I k := fun k hk => (va_up_ne _ _ hk).trans (va_up_ne _ _ hk)
    have hm := Nat.mod_lt (o + 1) (show 4 > 0 by decide)
    obtain ⟨J, e, hH, hf⟩ := e_keep_end (n := n) (I := I2) (F := F) (o := (o + 1) % 4) (P := 3) (Q := fun j => Q (j + 1)) (hp.congr (fun i hi => g _ (by omega))) hm (by omega) (by
      show (I 16 1 + 1) - (I 16 1 + 1) / 4 * 4 = _
      rw [h1, nI_1, bm_lit 4, pk_rem (by omega) (by decide) (by decide)]) (by
      show I 16 2 - 1 = _
      rw [h2]; rfl) (fun j hj => by
      have hmj := Nat.mod_lt ((o + 1) % 4 + j) (show 4 > 0 by decide)
      have := h3 (j + 1) (by omega)
      rw [show (o + (j + 1)) % 4 = ((o + 1) % 4 + j) % 4 by omega] at this
      exact this.congr (fun i hi => g _ (by omega))) none
    refine ⟨J, bm_g u_X2_keep ?_, ?_, f0.tr hf⟩
    · refine bm_it (by show I 16 2 = 4; exact h2) ?_
      exact e
    · have eq : bm_pq 4 Q F = fun j => if j = 3 then F else Q (j + 1) := by funext j; unfold bm_pq; rw [if_pos rfl]
      rw [eq]; exact hH
  · obtain ⟨J, e, hH, hf⟩ := e_keep_end (n := n) hp ho (by omega) h1 h2 h3 none
    refine ⟨J, bm_g u_X2_keep ?_, ?_, hf⟩
    · refine bm_ie (fun z => h4 ?_) ?_
      · exact (nI_eq (b := 4) (by omega) (by decide)).mp (h2.symm.trans z)
      · exact e
    · have eq : bm_pq P Q F = fun j => if j = P then F else Q j := by funext j; unfold bm_pq; rw [if_neg h4]
      rw [eq, show bm_pn P = P + 1 from if_neg h4]; exact hH
theorem e_kept {P : Nat} {Q : Nat → Nat → Nat} (hh : bm_H I P Q) : f_X2_kept [.inr (some 16)] (bm_mk n I) = some (some (.inl (nI P)), bm_mk n I) := by
  obtain ⟨o, ho, hP, h1, h2, h3⟩ := hh
  refine bm_g u_X2_kept ?_
  exact bm_ok h2
theorem e_restore {P : Nat} {Q : Nat → Nat → Nat} (hh : bm_H I (P + 1) Q) : ∃ J, f_X2_restore [.inr (some 16), .inr (some 5)] (bm_mk n I) = some (none, bm_mk n J) ∧ bm_H J P Q ∧ bm_P J 5 (Q P) ∧ bm_fz I J 5 61 := by
  obtain ⟨o, ho, hP, h1, h2, h3⟩ := hh
  have hm := Nat.mod_lt (o + P) (show 4 > 0 by decide)
  let I2 := va_up I 16 (upd (I 16) 2 (I 16 2 - 1))
  have g : ∀ k, k ≠ 16 → I2 k = I k := fun k hk => va_up_ne _ _ hk
  have hI2 : I2 16 2 = nI P := by show I 16 2 - 1 = _; rw [h2]; exact nI_pred P
  have hI1 : I2 16 1 = nI o := h1
  obtain ⟨J, e, b⟩ := e_become_from (n := n) ((o + P) % 4) hm I2
  have b16 : J 16 = I2 16 := b.2.2.2 16 (by omega)
  refine ⟨J, bm_g u_X2_restore ?_, ⟨o, ho, by omega, by rw [b16]; exact hI1, by rw [b16]; exact hI2, fun j hj => ?_⟩, ?_, ?_⟩
  · refine bm_ie (fun z => ?_) ?_
    · have z : I 16 2 ≤ 0 := z
      rw [h2] at z
      exact absurd ((nI_leI (b := 0) (by omega) (by decide)).mp z) (by omega)
    · refine bm_bd (e_stateAt (j := (o + P) % 4) ?_ hm) ?_
      · show (I2 16 1 + I2 16 2) - (I2 16 1 + I2 16 2) / 4 * 4 = _
        rw [hI1, hI2, nI_add, bm_lit 4, pk_rem (by omega) (by decide) (by decide)]
      · refine bm_bd e ?_
        rfl
  · have hmj := Nat.mod_lt (o + j) (show 4 > 0 by decide)
    exact (h3 j (by omega)).congr (fun i hi => (b.2.2.2 _ (by omega)).trans (g _ (by omega)))
  · exact b.P ((h3 P (by omega)).congr (fun i hi => g _ (by omega)))
  · intro k hk
    exact (b.2.2.2 k (by omega)).trans (g k (by omega))
end PW
