set_option maxRecDepth 100000
/-! THE POLL CHANGED -/
section PC
variable {n : Nat} {I : Nat → Nat → Int32} {F : Nat → Nat}
def bm_Fcontest (F : Nat → Nat) (t s : Nat) : Nat → Nat := bm_fs1 (bm_fs1 (bm_fs1 F (32 + 6 * F 0) t) (33 + 6 * F 0) s) 0 (F 0 + 1)
theorem e_addContest (p : bm_P I 5 F) (h6 : F 0 < 6) (t s : Nat) : ∃ J, f_X3_addContest [.inr (some 5), .inl (nI t), .inl (nI s)] (bm_mk n I) = some (some (.inl (nI (F 0))), bm_mk n J) ∧ bm_P J 5 (bm_Fcontest F t s) ∧ bm_fz I J 5 15 := by
  have e0 := p.1
  have p1 := p.set 1 (F 0) t (by decide) h6 rfl
  have p2 := p1.set 2 (F 0) s (by decide) h6 rfl
  have p3 := p2.set0 0 (F 0 + 1) (by decide) (x := I 5 0 + 1) (by rw [e0]; exact nI_1 _)
  refine ⟨_, bm_g u_X3_addContest ?_, p3, ((bm_fz.rf.up (by decide) (by decide)).up (by decide) (by decide)).up (by decide) (by decide)⟩
  refine bm_bd (e_put (a := 6) (k := F 0) (N := 6) e0 rfl rfl (by decide) rfl h6) ?_
  refine bm_bd (e_put (a := 7) (k := F 0) (N := 6) e0 rfl rfl (by decide) rfl h6) ?_
  exact bm_ok e0
def bm_Fname (F : Nat → Nat) (c len : Nat) : Nat → Nat := bm_fs1 (bm_fs1 F (68 + 2 * (8 * c + F (35 + 6 * c))) len) (35 + 6 * c) (F (35 + 6 * c) + 1)
theorem e_addName (p : bm_P I 5 F) {c : Nat} (hc : c < 6) (hk : F (35 + 6 * c) < 8) (len : Nat) : ∃ J, f_X3_addName [.inr (some 5), .inl (nI c), .inl (nI len)] (bm_mk n I) = some (some (.inl (nI (F (35 + 6 * c)))), bm_mk n J) ∧ bm_P J 5 (bm_Fname F c len) ∧ bm_fz I J 5 15 := by
  have hs : 8 * c + F (35 + 6 * c) < 48 := by omega
  have p1 := p.set 7 (8 * c + F (35 + 6 * c)) len (by decide) hs rfl
  have e4 := p.at 4 c (by decide) hc
  have p2 := p1.set 4 c (F (35 + 6 * c) + 1) (by decide) hc (x := va_up I (5 + 7) (upd (I (5 + 7)) (8 * c + F (35 + 6 * c)) (nI len)) (5 + 4) c + 1) (by
    show I (5 + 4) c + 1 = _
    rw [e4]; exact nI_1 _)
  refine ⟨_, bm_g u_X3_addName ?_, p2, (bm_fz.rf.up (by decide) (by decide)).up (by decide) (by decide)⟩
  refine bm_bd (e_namesIn p hc) ?_
  refine bm_bd e_slot ?_
  refine bm_bd (e_put (a := 12) (k := 8 * c + F (35 + 6 * c)) (N := 48) (nI_slot _ _) rfl rfl (by decide) rfl hs) ?_
  refine bm_bd (e_add (a := 9) (k := c) (N := 6) rfl rfl rfl (by decide) rfl hc) ?_
  rfl
theorem e_turnBy (p : bm_P I 5 F) {c : Nat} (hc : c < 6) (w : Nat) : ∃ J, f_X3_turnBy [.inr (some 5), .inl (nI c), .inl (nI w)] (bm_mk n I) = some (some (.inl (nI (F (34 + 6 * c)))), bm_mk n J) ∧ bm_P J 5 (bm_fs1 F (34 + 6 * c) w) ∧ bm_fz I J 5 15 := by
  have p1 := p.set 3 c w (by decide) hc rfl
  refine ⟨_, bm_g u_X3_turnBy ?_, p1, bm_fz.rf.up (by decide) (by decide)⟩
  refine bm_bd (e_wayOf p hc) ?_
  refine bm_bd (e_put (a := 8) (k := c) (N := 6) rfl rfl rfl (by decide) rfl hc) ?_
  rfl
theorem e_printPapers (p : bm_P I 5 F) {v : Nat} (hv : v < 24) (w : Nat) : ∃ J, f_X3_printPapers [.inr (some 5), .inl (nI v), .inl (nI w)] (bm_mk n I) = some (some (.inl (nI (F (8 + 1 * v)))), bm_mk n J) ∧ bm_P J 5 (bm_fs1 F (8 + 1 * v) w) ∧ bm_fz I J 5 15 := by
  have p1 := p.set 9 v w (by decide) hv rfl
  refine ⟨_, bm_g u_X3_printPapers ?_, p1, bm_fz.rf.up (by decide) (by decide)⟩
  refine bm_bd (e_papersIn p hv) ?_
  refine bm_bd (e_put (a := 14) (k := v) (N := 24) rfl rfl rfl (by decide) rfl hv) ?_
  rfl
/-- papers of versions that are gone are gone, too -/
def bm_Fgone (F : Nat → Nat) (v : Nat) : Nat → Nat := fun y => if 8 + v ≤ y ∧ y < 32 then 0 else F y
theorem bm_P.gone (p : bm_P I 5 F) (v : Nat) : bm_P (va_up I 14 (bm_wp (I 14) v 24)) 5 (bm_Fgone F v) := by
  refine p.arr 9 (by decide) (fun k hk => ?_) (fun j j1 j2 hj k hk => ?_) ⟨if_neg (by omega), if_neg (by omega)⟩
  · have e := p.at 9 k (by decide) hk
    have hk' : k < 24 := hk
    show bm_wp (I 14) v 24 k = nI (bm_Fgone F v (8 + 1 * k))
    unfold bm_wp bm_Fgone
    by_cases q : v ≤ k ∧ k < 24
    · rw [if_pos q, if_pos (by omega)]; rfl
    · rw [if_neg q, if_neg (by omega)]; exact e
  · refine if_neg (fun z => hj ?_)
    have := bm_ix_inj j j1 j2 9 (by decide) (by decide) k (bm_bs j + bm_sd j * k - 8) hk (by show _ < 24; omega) (by show _ = 8 + 1 * _; omega)
    exact this.1
def bm_Fset (F : Nat → Nat) (what value : Nat) : Nat → Nat := if what = 5 then bm_Fgone (bm_fs1 F (2 + 1 * what) value) value else bm_fs1 F (2 + 1 * what) value
theorem e_change (p : bm_P I 5 F) {what value : Nat} (hw : what < 6) (hv : value < 100) (hv5 : what = 5 → value ≤ 24) : ∃ J, f_X3_change [.inr (some 5), .inl (nI what), .inl (nI value)] (bm_mk n I) = some (some (.inl (nI (F (2 + 1 * what)))), bm_mk n J) ∧ bm_P J 5 (bm_Fset F what value) ∧ bm_fz I J 5 15 := by
  have p1 := p.set 10 what value (by decide) hw rfl
  by_cases h5 : what = 5
  · have p2 := p1.gone value
    refine ⟨_, bm_g u_X3_change ?_, by unfold bm_Fset; rw [if_pos h5]; exact p2, (bm_fz.rf.up (by decide) (by decide)).up (by decide) (by decide)⟩
    refine bm_bd (e_setting p hw) ?_
    refine bm_bd (e_put (a := 15) (k := what) (N := 6) rfl rfl rfl (by decide) rfl hw) ?_
    refine bm_eq what 5 rfl rfl (by omega) (by decide) (fun _ => ?_) (fun z => absurd h5 z)
    refine bm_bd (e_wipe (a := 14) (N := 24) rfl rfl rfl (by decide) rfl (hv5 h5)) ?_
    rfl
  · refine ⟨_, bm_g u_X3_change ?_, by unfold bm_Fset; rw [if_neg h5]; exact p1, bm_fz.rf.up (by decide) (by decide)⟩
    refine bm_bd (e_setting p hw) ?_
    refine bm_bd (e_put (a := 15) (k := what) (N := 6) rfl rfl rfl (by decide) rfl hw) ?_
    refine bm_eq what 5 rfl rfl (by omega) (by decide) (fun z => absurd z h5) (fun _ => ?_)
    rfl
/-- a whole row of the poll is nought -/
noncomputable def bm_Fnull (F : Nat → Nat) (i : Nat) : Nat → Nat := fun y => @ite _ (∃ k, k < bm_sz i ∧ y = bm_bs i + bm_sd i * k) (Classical.propDecidable _) 0 (F y)
theorem bm_P.null (p : bm_P I 5 F) (i : Nat) (hi : 1 ≤ i ∧ i ≤ 10) : bm_P (va_up I (5 + i) (bm_wp (I (5 + i)) 0 (bm_sz i))) 5 (bm_Fnull F i) := by
  refine p.arr i hi (fun k hk => ?_) (fun j j1 j2 hj k hk => ?_) ⟨if_neg ?_, if_neg ?_⟩
  · unfold bm_wp bm_Fnull
    rw [if_pos ⟨Nat.zero_le _, hk⟩, if_pos ⟨k, hk, rfl⟩]; rfl
  · refine if_neg ?_
    rintro ⟨k', hk', e⟩
    exact hj (bm_ix_inj j j1 j2 i hi.1 hi.2 k k' hk hk' e).1
  · rintro ⟨k', hk', e⟩
    have := bm_ix_lo i hi.1 hi.2 k' hk'; omega
  · rintro ⟨k', hk', e⟩
    have := bm_ix_lo i hi.1 hi.2 k' hk'; omega
noncomputable def bm_Fclear (F : Nat → Nat) : Nat → Nat := bm_Fnull (bm_Fnull (bm_Fnull (bm_fs1 F 1 0) 8) 5) 6
theorem e_forgetVotes (p : bm_P I 5 F) : ∃ J, f_X3_forgetVotes [.inr (some 5)] (bm_mk n I) = some (some (.inl (nI (F 1))), bm_mk n J) ∧ bm_P J 5 (bm_Fclear F) ∧ bm_fz I J 5 15 := by
  have p1 := p.set0 1 0 (by decide) (x := 0) rfl
  have p2 := p1.null 8 (by decide)
  have p3 := p2.null 5 (by decide)
  have p4 := p3.null 6 (by decide)
  refine ⟨_, bm_g u_X3_forgetVotes ?_, p4, (((bm_fz.rf.up (by decide) (by decide)).up (by decide) (by decide)).up (by decide) (by decide)).up (by decide) (by decide)⟩
  refine bm_bd (e_wipe (a := 13) (N := 48) (s := 0) rfl rfl rfl (by decide) rfl (by decide)) ?_
  refine bm_bd (e_wipe (a := 10) (N := 6) (s := 0) rfl rfl rfl (by decide) rfl (by decide)) ?_
  refine bm_bd (e_wipe (a := 11) (N := 6) (s := 0) rfl rfl rfl (by decide) rfl (by decide)) ?_
  exact bm_ok p.2.1
theorem e_addBallot (p : bm_P I 5 F) : ∃ J, f_X3_addBallot [.inr (some 5)] (bm_mk n I) = some (none, bm_mk n J) ∧ bm_P J 5 (bm_fs1 F 1 (F 1 + 1)) ∧ bm_fz I J 5 15 := by
  have p1 := p.set0 1 (F 1 + 1) (by decide) (x := I 5 1 + 1) (by rw [p.2.1]; exact nI_1 _)
  exact ⟨_, bm_g u_X3_addBallot rfl, p1, bm_fz.rf.up (by decide) (by decide)⟩
theorem e_addSpoilt (p : bm_P I 5 F) {c : Nat} (hc : c < 6) : ∃ J, f_X3_addSpoilt [.inr (some 5), .inl (nI c)] (bm_mk n I) = some (none, bm_mk n J) ∧ bm_P J 5 (bm_fs1 F (36 + 6 * c) (F (36 + 6 * c) + 1)) ∧ bm_fz I J 5 15 := by
  have p1 := p.set 5 c (F (36 + 6 * c) + 1) (by decide) hc (x := I (5 + 5) c + 1) (by rw [p.at 5 c (by decide) hc]; exact nI_1 _)
  refine ⟨_, bm_g u_X3_addSpoilt ?_, p1, bm_fz.rf.up (by decide) (by decide)⟩
  refine bm_bd (e_add (a := 10) (k := c) (N := 6) rfl rfl rfl (by decide) rfl hc) ?_
  rfl
theorem e_addBlank (p : bm_P I 5 F) {c : Nat} (hc : c < 6) : ∃ J, f_X3_addBlank [.inr (some 5), .inl (nI c)] (bm_mk n I) = some (none, bm_mk n J) ∧ bm_P J 5 (bm_fs1 F (37 + 6 * c) (F (37 + 6 * c) + 1)) ∧ bm_fz I J 5 15 := by
  have p1 := p.set 6 c (F (37 + 6 * c) + 1) (by decide) hc (x := I (5 + 6) c + 1) (by rw [p.at 6 c (by decide) hc]; exact nI_1 _)
  refine ⟨_, bm_g u_X3_addBlank ?_, p1, bm_fz.rf.up (by decide) (by decide)⟩
  refine bm_bd (e_add (a := 11) (k := c) (N := 6) rfl rfl rfl (by decide) rfl hc) ?_
  rfl
theorem e_addVote (p : bm_P I 5 F) (hV : bm_V' F) {c k : Nat} (hc : c < F 0) (hk : k < F (35 + 6 * c)) : ∃ J, f_X3_addVote [.inr (some 5), .inl (nI c), .inl (nI k)] (bm_mk n I) = some (none, bm_mk n J) ∧ bm_P J 5 (bm_fs1 F (69 + 2 * (8 * c + k)) (F (69 + 2 * (8 * c + k)) + 1)) ∧ bm_fz I J 5 15 := by
  have h6 := hV.1
  have h8 := (hV.2.2.2.2.2.2.2.2.2.1 c (by omega)).2.2.2
  have hs : 8 * c + k < 48 := by omega
  have p1 := p.set 8 (8 * c + k) (F (69 + 2 * (8 * c + k)) + 1) (by decide) hs (x := I (5 + 8) (8 * c + k) + 1) (by rw [p.at 8 (8 * c + k) (by decide) hs]; exact nI_1 _)
  refine ⟨_, bm_g u_X3_addVote ?_, p1, bm_fz.rf.up (by decide) (by decide)⟩
  refine bm_bd (e_hasName p hV) ?_
  refine bm_bq (fun _ => ?_) (fun z => absurd ⟨bm_of_k (by omega) hc, ?_⟩ z)
  · refine bm_bd e_slot ?_
    refine bm_bd (e_add (a := 13) (k := 8 * c + k) (N := 48) (nI_slot _ _) rfl rfl (by decide) rfl hs) ?_
    rfl
  · rw [nI_clamp (by omega)]
    exact bm_of_k (by omega) hk
end PC
