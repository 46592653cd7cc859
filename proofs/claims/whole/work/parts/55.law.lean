set_option maxRecDepth 100000
/-! THE CLAIM OUT OF ONE WALK OF THE LAW'S BODY. Your part is whole_start (and what it stands on); all else here is the same for every law, but numbers. -/
def R_law : String := "BallotPapersLaw"
def lw_P (b : Addr) (xs : List Int32) (args : Array Value) (s : State) : Prop := args = #[.ref b] ∧ s.IntsAt b xs ∧ xs.length ≤ 3072 ∧ (Jvm.Cond.and given_1 narrow_1).before args s = true
def lw_Q (_ : Array Value) (s : State) (o : Outcome) (t : State) : Prop := o = .returned (some (.int 1)) ∧ Framed s o t [] 600000 7302250
def lw_Z (below : List Frame) (a : Array Value) (s : State) : State → Prop := fun t => ∃ o, t.status = .running ∧ Ended t below o ∧ lw_Q a s o t
/-- the law's own end, with 1 on the stack, nothing written that was there before, its room as the claim has it -/
theorem lw_ret {p : Program} {l : Launch} {e : Env} {s : State} {m : MethodId} {below : List Frame} {meth : Method} {c : Code} {b : Nat} (hx : p.tables.exec = Jvm.exec) (hb : c.code = code) (hr : meth.sig.returnType = ret) (hlocks : meth.locks = false) {pc : Nat} {H : Heap} {ls : Array Slot} (hdg : decode code pc = .ok (.ireturn, 1)) : W p l e room_1 s m #[Value.ref b] below meth c H [] 600000 7302250 (lw_Z below #[Value.ref b] s) (F0 m pc ls [.int 1]) := by
  intro T hT X
  obtain ⟨fs, hret, hrun, hended, hW, hframe⟩ := X.leave (v := some (.int 1)) (hlocks := hlocks) (fun h => by rw [hr] at h; cases h)
  have hmeth' : T.vm.method? m = some meth := X.method'
  refine ⟨T.setFrames fs, ?_, .returned (some (.int 1)), hrun, hended, rfl, ⟨_, rfl⟩, hW, hframe⟩
  jvm_step X.here [X.here.top, hx, hb, hdg, hmeth', hr, ret, narrow_b1]
  (try refine ⟨rfl, ?_⟩); (try refine ⟨rfl, ?_⟩)
  first | (intro acts; rw [hret _ acts rfl rfl rfl]) | rw [hret _ _ rfl rfl rfl]
  exact Steps.refl _
/-- what holds at the law's entry: the machine, the code, the tables' words (any of lw_tbl by 'hts w (by decide +kernel)'), the script of L ints xs at the cell b, what the Statement gives of the start (any of its parts by flat_of_before) -/
def lw_At (p : Program) (s : State) (m : MethodId) (meth : Method) (c : Code) (b L : Nat) (xs : Nat → Int32) : Prop :=
  p.tables.exec = Jvm.exec ∧ c.code = code ∧ meth.sig.returnType = ret ∧ c.maxLocals = 4 ∧ s.vm.findClass R_law = some m.cls ∧ (∀ w ∈ lw_tbl, w.before #[Value.ref b] s = true) ∧ va_X b L xs s s.heap ∧ b < s.heap.size ∧ meth.locks = false ∧ (Jvm.Cond.and given_1 narrow_1).before #[Value.ref b] s = true
theorem tw_644 : (.classLink RL 7 RX7 : Cond) ∈ bm_T := bm_TT (List.mem_of_getElem? (i := 61) (by decide +kernel)) (by decide +kernel)
theorem tw_645 : (.instantiable RX7 6 : Cond) ∈ bm_T := bm_TT (List.mem_of_getElem? (i := 62) (by decide +kernel)) (by decide +kernel)
theorem tw_646 : (.code yX7_init cX7_init 1 none : Cond) ∈ bm_T := bm_TT (List.mem_of_getElem? (i := 65) (by decide +kernel)) (by decide +kernel)
theorem tw_647 : (.methodLink RL 9 yX7_init : Cond) ∈ bm_T := bm_TT (List.mem_of_getElem? (i := 63) (by decide +kernel)) (by decide +kernel)
theorem tw_648 : (.instanceMethod yX7_init : Cond) ∈ bm_T := bm_TT (List.mem_of_getElem? (i := 64) (by decide +kernel)) (by decide +kernel)
theorem tw_649 : (.classLink RL 10 RX8 : Cond) ∈ bm_T := bm_TT (List.mem_of_getElem? (i := 740) (by decide +kernel)) (by decide +kernel)
theorem tw_650 : (.instantiable RX8 19 : Cond) ∈ bm_T := bm_TT (List.mem_of_getElem? (i := 741) (by decide +kernel)) (by decide +kernel)
theorem tw_651 : (.code yX8_init cX8_init 1 none : Cond) ∈ bm_T := bm_TT (List.mem_of_getElem? (i := 744) (by decide +kernel)) (by decide +kernel)
theorem tw_652 : (.methodLink RL 12 yX8_init : Cond) ∈ bm_T := bm_TT (List.mem_of_getElem? (i := 742) (by decide +kernel)) (by decide +kernel)
theorem tw_653 : (.instanceMethod yX8_init : Cond) ∈ bm_T := bm_TT (List.mem_of_getElem? (i := 743) (by decide +kernel)) (by decide +kernel)
theorem tw_654 : (.code yX7_contest cX7_contest 3 (some .int) : Cond) ∈ bm_T := bm_TT (List.mem_of_getElem? (i := 256) (by decide +kernel)) (by decide +kernel)
theorem tw_655 : (.methodLink RL 13 yX7_contest : Cond) ∈ bm_T := bm_TT (List.mem_of_getElem? (i := 253) (by decide +kernel)) (by decide +kernel)
theorem tw_656 : (.instanceMethod yX7_contest : Cond) ∈ bm_T := bm_TT (List.mem_of_getElem? (i := 254) (by decide +kernel)) (by decide +kernel)
theorem tw_657 : (.selects RX7 yX7_contest yX7_contest : Cond) ∈ bm_T := bm_TT (List.mem_of_getElem? (i := 255) (by decide +kernel)) (by decide +kernel)
theorem tw_658 : (.code yX8_contest cX8_contest 4 (some .int) : Cond) ∈ bm_T := bm_TT (List.mem_of_getElem? (i := 807) (by decide +kernel)) (by decide +kernel)
theorem tw_659 : (.methodLink RL 17 yX8_contest : Cond) ∈ bm_T := bm_TT (List.mem_of_getElem? (i := 804) (by decide +kernel)) (by decide +kernel)
theorem tw_660 : (.instanceMethod yX8_contest : Cond) ∈ bm_T := bm_TT (List.mem_of_getElem? (i := 805) (by decide +kernel)) (by decide +kernel)
theorem tw_661 : (.selects RX8 yX8_contest yX8_contest : Cond) ∈ bm_T := bm_TT (List.mem_of_getElem? (i := 806) (by decide +kernel)) (by decide +kernel)
theorem tw_662 : (.code yX7_name cX7_name 3 (some .int) : Cond) ∈ bm_T := bm_TT (List.mem_of_getElem? (i := 286) (by decide +kernel)) (by decide +kernel)
theorem tw_663 : (.methodLink RL 18 yX7_name : Cond) ∈ bm_T := bm_TT (List.mem_of_getElem? (i := 283) (by decide +kernel)) (by decide +kernel)
theorem tw_664 : (.instanceMethod yX7_name : Cond) ∈ bm_T := bm_TT (List.mem_of_getElem? (i := 284) (by decide +kernel)) (by decide +kernel)
theorem tw_665 : (.selects RX7 yX7_name yX7_name : Cond) ∈ bm_T := bm_TT (List.mem_of_getElem? (i := 285) (by decide +kernel)) (by decide +kernel)
theorem tw_666 : (.code yX8_name cX8_name 4 (some .int) : Cond) ∈ bm_T := bm_TT (List.mem_of_getElem? (i := 818) (by decide +kernel)) (by decide +kernel)
theorem tw_667 : (.methodLink RL 21 yX8_name : Cond) ∈ bm_T := bm_TT (List.mem_of_getElem? (i := 815) (by decide +kernel)) (by decide +kernel)
theorem tw_668 : (.instanceMethod yX8_name : Cond) ∈ bm_T := bm_TT (List.mem_of_getElem? (i := 816) (by decide +kernel)) (by decide +kernel)
theorem tw_669 : (.selects RX8 yX8_name yX8_name : Cond) ∈ bm_T := bm_TT (List.mem_of_getElem? (i := 817) (by decide +kernel)) (by decide +kernel)
theorem tw_670 : (.code yX7_way cX7_way 3 (some .int) : Cond) ∈ bm_T := bm_TT (List.mem_of_getElem? (i := 319) (by decide +kernel)) (by decide +kernel)
theorem tw_671 : (.methodLink RL 22 yX7_way : Cond) ∈ bm_T := bm_TT (List.mem_of_getElem? (i := 316) (by decide +kernel)) (by decide +kernel)
theorem tw_672 : (.instanceMethod yX7_way : Cond) ∈ bm_T := bm_TT (List.mem_of_getElem? (i := 317) (by decide +kernel)) (by decide +kernel)
theorem tw_673 : (.selects RX7 yX7_way yX7_way : Cond) ∈ bm_T := bm_TT (List.mem_of_getElem? (i := 318) (by decide +kernel)) (by decide +kernel)
theorem tw_674 : (.code yX8_way cX8_way 4 (some .int) : Cond) ∈ bm_T := bm_TT (List.mem_of_getElem? (i := 830) (by decide +kernel)) (by decide +kernel)
theorem tw_675 : (.methodLink RL 25 yX8_way : Cond) ∈ bm_T := bm_TT (List.mem_of_getElem? (i := 827) (by decide +kernel)) (by decide +kernel)
theorem tw_676 : (.instanceMethod yX8_way : Cond) ∈ bm_T := bm_TT (List.mem_of_getElem? (i := 828) (by decide +kernel)) (by decide +kernel)
theorem tw_677 : (.selects RX8 yX8_way yX8_way : Cond) ∈ bm_T := bm_TT (List.mem_of_getElem? (i := 829) (by decide +kernel)) (by decide +kernel)
theorem tw_678 : (.code yX7_papers cX7_papers 3 (some .int) : Cond) ∈ bm_T := bm_TT (List.mem_of_getElem? (i := 331) (by decide +kernel)) (by decide +kernel)
theorem tw_679 : (.methodLink RL 26 yX7_papers : Cond) ∈ bm_T := bm_TT (List.mem_of_getElem? (i := 328) (by decide +kernel)) (by decide +kernel)
theorem tw_680 : (.instanceMethod yX7_papers : Cond) ∈ bm_T := bm_TT (List.mem_of_getElem? (i := 329) (by decide +kernel)) (by decide +kernel)
theorem tw_681 : (.selects RX7 yX7_papers yX7_papers : Cond) ∈ bm_T := bm_TT (List.mem_of_getElem? (i := 330) (by decide +kernel)) (by decide +kernel)
theorem tw_682 : (.code yX8_papers cX8_papers 4 (some .int) : Cond) ∈ bm_T := bm_TT (List.mem_of_getElem? (i := 834) (by decide +kernel)) (by decide +kernel)
theorem tw_683 : (.methodLink RL 29 yX8_papers : Cond) ∈ bm_T := bm_TT (List.mem_of_getElem? (i := 831) (by decide +kernel)) (by decide +kernel)
theorem tw_684 : (.instanceMethod yX8_papers : Cond) ∈ bm_T := bm_TT (List.mem_of_getElem? (i := 832) (by decide +kernel)) (by decide +kernel)
theorem tw_685 : (.selects RX8 yX8_papers yX8_papers : Cond) ∈ bm_T := bm_TT (List.mem_of_getElem? (i := 833) (by decide +kernel)) (by decide +kernel)
theorem tw_686 : (.code yX7_set cX7_set 3 (some .int) : Cond) ∈ bm_T := bm_TT (List.mem_of_getElem? (i := 351) (by decide +kernel)) (by decide +kernel)
theorem tw_687 : (.methodLink RL 30 yX7_set : Cond) ∈ bm_T := bm_TT (List.mem_of_getElem? (i := 348) (by decide +kernel)) (by decide +kernel)
theorem tw_688 : (.instanceMethod yX7_set : Cond) ∈ bm_T := bm_TT (List.mem_of_getElem? (i := 349) (by decide +kernel)) (by decide +kernel)
theorem tw_689 : (.selects RX7 yX7_set yX7_set : Cond) ∈ bm_T := bm_TT (List.mem_of_getElem? (i := 350) (by decide +kernel)) (by decide +kernel)
theorem tw_690 : (.code yX8_set cX8_set 5 (some .int) : Cond) ∈ bm_T := bm_TT (List.mem_of_getElem? (i := 842) (by decide +kernel)) (by decide +kernel)
theorem tw_691 : (.methodLink RL 33 yX8_set : Cond) ∈ bm_T := bm_TT (List.mem_of_getElem? (i := 839) (by decide +kernel)) (by decide +kernel)
theorem tw_692 : (.instanceMethod yX8_set : Cond) ∈ bm_T := bm_TT (List.mem_of_getElem? (i := 840) (by decide +kernel)) (by decide +kernel)
theorem tw_693 : (.selects RX8 yX8_set yX8_set : Cond) ∈ bm_T := bm_TT (List.mem_of_getElem? (i := 841) (by decide +kernel)) (by decide +kernel)
theorem tw_694 : (.code yX7_clear cX7_clear 1 (some .int) : Cond) ∈ bm_T := bm_TT (List.mem_of_getElem? (i := 370) (by decide +kernel)) (by decide +kernel)
theorem tw_695 : (.methodLink RL 34 yX7_clear : Cond) ∈ bm_T := bm_TT (List.mem_of_getElem? (i := 367) (by decide +kernel)) (by decide +kernel)
theorem tw_696 : (.instanceMethod yX7_clear : Cond) ∈ bm_T := bm_TT (List.mem_of_getElem? (i := 368) (by decide +kernel)) (by decide +kernel)
theorem tw_697 : (.selects RX7 yX7_clear yX7_clear : Cond) ∈ bm_T := bm_TT (List.mem_of_getElem? (i := 369) (by decide +kernel)) (by decide +kernel)
theorem tw_698 : (.code yX8_clear cX8_clear 4 (some .int) : Cond) ∈ bm_T := bm_TT (List.mem_of_getElem? (i := 849) (by decide +kernel)) (by decide +kernel)
theorem tw_699 : (.methodLink RL 38 yX8_clear : Cond) ∈ bm_T := bm_TT (List.mem_of_getElem? (i := 846) (by decide +kernel)) (by decide +kernel)
theorem tw_700 : (.instanceMethod yX8_clear : Cond) ∈ bm_T := bm_TT (List.mem_of_getElem? (i := 847) (by decide +kernel)) (by decide +kernel)
theorem tw_701 : (.selects RX8 yX8_clear yX8_clear : Cond) ∈ bm_T := bm_TT (List.mem_of_getElem? (i := 848) (by decide +kernel)) (by decide +kernel)
theorem tw_702 : (.code yX7_contestOf cX7_contestOf 3 (some .int) : Cond) ∈ bm_T := bm_TT (List.mem_of_getElem? (i := 378) (by decide +kernel)) (by decide +kernel)
theorem tw_703 : (.methodLink RL 39 yX7_contestOf : Cond) ∈ bm_T := bm_TT (List.mem_of_getElem? (i := 375) (by decide +kernel)) (by decide +kernel)
theorem tw_704 : (.instanceMethod yX7_contestOf : Cond) ∈ bm_T := bm_TT (List.mem_of_getElem? (i := 376) (by decide +kernel)) (by decide +kernel)
theorem tw_705 : (.selects RX7 yX7_contestOf yX7_contestOf : Cond) ∈ bm_T := bm_TT (List.mem_of_getElem? (i := 377) (by decide +kernel)) (by decide +kernel)
theorem tw_706 : (.code yX8_contestOf cX8_contestOf 3 (some .int) : Cond) ∈ bm_T := bm_TT (List.mem_of_getElem? (i := 853) (by decide +kernel)) (by decide +kernel)
theorem tw_707 : (.methodLink RL 42 yX8_contestOf : Cond) ∈ bm_T := bm_TT (List.mem_of_getElem? (i := 850) (by decide +kernel)) (by decide +kernel)
theorem tw_708 : (.instanceMethod yX8_contestOf : Cond) ∈ bm_T := bm_TT (List.mem_of_getElem? (i := 851) (by decide +kernel)) (by decide +kernel)
theorem tw_709 : (.selects RX8 yX8_contestOf yX8_contestOf : Cond) ∈ bm_T := bm_TT (List.mem_of_getElem? (i := 852) (by decide +kernel)) (by decide +kernel)
theorem tw_710 : (.code yX7_nameOf cX7_nameOf 4 (some .int) : Cond) ∈ bm_T := bm_TT (List.mem_of_getElem? (i := 406) (by decide +kernel)) (by decide +kernel)
theorem tw_711 : (.methodLink RL 43 yX7_nameOf : Cond) ∈ bm_T := bm_TT (List.mem_of_getElem? (i := 403) (by decide +kernel)) (by decide +kernel)
theorem tw_712 : (.instanceMethod yX7_nameOf : Cond) ∈ bm_T := bm_TT (List.mem_of_getElem? (i := 404) (by decide +kernel)) (by decide +kernel)
theorem tw_713 : (.selects RX7 yX7_nameOf yX7_nameOf : Cond) ∈ bm_T := bm_TT (List.mem_of_getElem? (i := 405) (by decide +kernel)) (by decide +kernel)
theorem tw_714 : (.code yX8_nameOf cX8_nameOf 4 (some .int) : Cond) ∈ bm_T := bm_TT (List.mem_of_getElem? (i := 865) (by decide +kernel)) (by decide +kernel)
theorem tw_715 : (.methodLink RL 47 yX8_nameOf : Cond) ∈ bm_T := bm_TT (List.mem_of_getElem? (i := 862) (by decide +kernel)) (by decide +kernel)
theorem tw_716 : (.instanceMethod yX8_nameOf : Cond) ∈ bm_T := bm_TT (List.mem_of_getElem? (i := 863) (by decide +kernel)) (by decide +kernel)
theorem tw_717 : (.selects RX8 yX8_nameOf yX8_nameOf : Cond) ∈ bm_T := bm_TT (List.mem_of_getElem? (i := 864) (by decide +kernel)) (by decide +kernel)
theorem tw_718 : (.code yX7_count cX7_count 2 (some .int) : Cond) ∈ bm_T := bm_TT (List.mem_of_getElem? (i := 446) (by decide +kernel)) (by decide +kernel)
theorem tw_719 : (.methodLink RL 48 yX7_count : Cond) ∈ bm_T := bm_TT (List.mem_of_getElem? (i := 443) (by decide +kernel)) (by decide +kernel)
theorem tw_720 : (.instanceMethod yX7_count : Cond) ∈ bm_T := bm_TT (List.mem_of_getElem? (i := 444) (by decide +kernel)) (by decide +kernel)
theorem tw_721 : (.selects RX7 yX7_count yX7_count : Cond) ∈ bm_T := bm_TT (List.mem_of_getElem? (i := 445) (by decide +kernel)) (by decide +kernel)
theorem tw_722 : (.code yX8_count cX8_count 2 (some .int) : Cond) ∈ bm_T := bm_TT (List.mem_of_getElem? (i := 889) (by decide +kernel)) (by decide +kernel)
theorem tw_723 : (.methodLink RL 52 yX8_count : Cond) ∈ bm_T := bm_TT (List.mem_of_getElem? (i := 886) (by decide +kernel)) (by decide +kernel)
theorem tw_724 : (.instanceMethod yX8_count : Cond) ∈ bm_T := bm_TT (List.mem_of_getElem? (i := 887) (by decide +kernel)) (by decide +kernel)
theorem tw_725 : (.selects RX8 yX8_count yX8_count : Cond) ∈ bm_T := bm_TT (List.mem_of_getElem? (i := 888) (by decide +kernel)) (by decide +kernel)
theorem tw_726 : (.code yX7_papersOf cX7_papersOf 2 (some .int) : Cond) ∈ bm_T := bm_TT (List.mem_of_getElem? (i := 471) (by decide +kernel)) (by decide +kernel)
theorem tw_727 : (.methodLink RL 53 yX7_papersOf : Cond) ∈ bm_T := bm_TT (List.mem_of_getElem? (i := 468) (by decide +kernel)) (by decide +kernel)
theorem tw_728 : (.instanceMethod yX7_papersOf : Cond) ∈ bm_T := bm_TT (List.mem_of_getElem? (i := 469) (by decide +kernel)) (by decide +kernel)
theorem tw_729 : (.selects RX7 yX7_papersOf yX7_papersOf : Cond) ∈ bm_T := bm_TT (List.mem_of_getElem? (i := 470) (by decide +kernel)) (by decide +kernel)
theorem tw_730 : (.code yX8_papersOf cX8_papersOf 2 (some .int) : Cond) ∈ bm_T := bm_TT (List.mem_of_getElem? (i := 901) (by decide +kernel)) (by decide +kernel)
theorem tw_731 : (.methodLink RL 56 yX8_papersOf : Cond) ∈ bm_T := bm_TT (List.mem_of_getElem? (i := 898) (by decide +kernel)) (by decide +kernel)
theorem tw_732 : (.instanceMethod yX8_papersOf : Cond) ∈ bm_T := bm_TT (List.mem_of_getElem? (i := 899) (by decide +kernel)) (by decide +kernel)
theorem tw_733 : (.selects RX8 yX8_papersOf yX8_papersOf : Cond) ∈ bm_T := bm_TT (List.mem_of_getElem? (i := 900) (by decide +kernel)) (by decide +kernel)
theorem tw_734 : (.code yX7_stands cX7_stands 5 (some .int) : Cond) ∈ bm_T := bm_TT (List.mem_of_getElem? (i := 476) (by decide +kernel)) (by decide +kernel)
theorem tw_735 : (.methodLink RL 57 yX7_stands : Cond) ∈ bm_T := bm_TT (List.mem_of_getElem? (i := 473) (by decide +kernel)) (by decide +kernel)
theorem tw_736 : (.instanceMethod yX7_stands : Cond) ∈ bm_T := bm_TT (List.mem_of_getElem? (i := 474) (by decide +kernel)) (by decide +kernel)
theorem tw_737 : (.selects RX7 yX7_stands yX7_stands : Cond) ∈ bm_T := bm_TT (List.mem_of_getElem? (i := 475) (by decide +kernel)) (by decide +kernel)
theorem tw_738 : (.code yX8_stands cX8_stands 4 (some .int) : Cond) ∈ bm_T := bm_TT (List.mem_of_getElem? (i := 905) (by decide +kernel)) (by decide +kernel)
theorem tw_739 : (.methodLink RL 60 yX8_stands : Cond) ∈ bm_T := bm_TT (List.mem_of_getElem? (i := 902) (by decide +kernel)) (by decide +kernel)
theorem tw_740 : (.instanceMethod yX8_stands : Cond) ∈ bm_T := bm_TT (List.mem_of_getElem? (i := 903) (by decide +kernel)) (by decide +kernel)
theorem tw_741 : (.selects RX8 yX8_stands yX8_stands : Cond) ∈ bm_T := bm_TT (List.mem_of_getElem? (i := 904) (by decide +kernel)) (by decide +kernel)
theorem tw_742 : (.code yX7_lies cX7_lies 5 (some .int) : Cond) ∈ bm_T := bm_TT (List.mem_of_getElem? (i := 481) (by decide +kernel)) (by decide +kernel)
theorem tw_743 : (.methodLink RL 61 yX7_lies : Cond) ∈ bm_T := bm_TT (List.mem_of_getElem? (i := 478) (by decide +kernel)) (by decide +kernel)
theorem tw_744 : (.instanceMethod yX7_lies : Cond) ∈ bm_T := bm_TT (List.mem_of_getElem? (i := 479) (by decide +kernel)) (by decide +kernel)
theorem tw_745 : (.selects RX7 yX7_lies yX7_lies : Cond) ∈ bm_T := bm_TT (List.mem_of_getElem? (i := 480) (by decide +kernel)) (by decide +kernel)
theorem tw_746 : (.code yX8_lies cX8_lies 7 (some .int) : Cond) ∈ bm_T := bm_TT (List.mem_of_getElem? (i := 909) (by decide +kernel)) (by decide +kernel)
theorem tw_747 : (.methodLink RL 65 yX8_lies : Cond) ∈ bm_T := bm_TT (List.mem_of_getElem? (i := 906) (by decide +kernel)) (by decide +kernel)
theorem tw_748 : (.instanceMethod yX8_lies : Cond) ∈ bm_T := bm_TT (List.mem_of_getElem? (i := 907) (by decide +kernel)) (by decide +kernel)
theorem tw_749 : (.selects RX8 yX8_lies yX8_lies : Cond) ∈ bm_T := bm_TT (List.mem_of_getElem? (i := 908) (by decide +kernel)) (by decide +kernel)
theorem tw_750 : (.code yX7_markAt cX7_markAt 8 (some .int) : Cond) ∈ bm_T := bm_TT (List.mem_of_getElem? (i := 547) (by decide +kernel)) (by decide +kernel)
theorem tw_751 : (.methodLink RL 66 yX7_markAt : Cond) ∈ bm_T := bm_TT (List.mem_of_getElem? (i := 544) (by decide +kernel)) (by decide +kernel)
theorem tw_752 : (.instanceMethod yX7_markAt : Cond) ∈ bm_T := bm_TT (List.mem_of_getElem? (i := 545) (by decide +kernel)) (by decide +kernel)
theorem tw_753 : (.selects RX7 yX7_markAt yX7_markAt : Cond) ∈ bm_T := bm_TT (List.mem_of_getElem? (i := 546) (by decide +kernel)) (by decide +kernel)
theorem tw_754 : (.code yX8_markAt cX8_markAt 10 (some .int) : Cond) ∈ bm_T := bm_TT (List.mem_of_getElem? (i := 948) (by decide +kernel)) (by decide +kernel)
theorem tw_755 : (.methodLink RL 70 yX8_markAt : Cond) ∈ bm_T := bm_TT (List.mem_of_getElem? (i := 945) (by decide +kernel)) (by decide +kernel)
theorem tw_756 : (.instanceMethod yX8_markAt : Cond) ∈ bm_T := bm_TT (List.mem_of_getElem? (i := 946) (by decide +kernel)) (by decide +kernel)
theorem tw_757 : (.selects RX8 yX8_markAt yX8_markAt : Cond) ∈ bm_T := bm_TT (List.mem_of_getElem? (i := 947) (by decide +kernel)) (by decide +kernel)
theorem tw_758 : (.code yX7_paper cX7_paper 3 (some .int) : Cond) ∈ bm_T := bm_TT (List.mem_of_getElem? (i := 558) (by decide +kernel)) (by decide +kernel)
theorem tw_759 : (.methodLink RL 71 yX7_paper : Cond) ∈ bm_T := bm_TT (List.mem_of_getElem? (i := 555) (by decide +kernel)) (by decide +kernel)
theorem tw_760 : (.instanceMethod yX7_paper : Cond) ∈ bm_T := bm_TT (List.mem_of_getElem? (i := 556) (by decide +kernel)) (by decide +kernel)
theorem tw_761 : (.selects RX7 yX7_paper yX7_paper : Cond) ∈ bm_T := bm_TT (List.mem_of_getElem? (i := 557) (by decide +kernel)) (by decide +kernel)
theorem tw_762 : (.code yX8_paper cX8_paper 4 (some .int) : Cond) ∈ bm_T := bm_TT (List.mem_of_getElem? (i := 952) (by decide +kernel)) (by decide +kernel)
theorem tw_763 : (.methodLink RL 74 yX8_paper : Cond) ∈ bm_T := bm_TT (List.mem_of_getElem? (i := 949) (by decide +kernel)) (by decide +kernel)
theorem tw_764 : (.instanceMethod yX8_paper : Cond) ∈ bm_T := bm_TT (List.mem_of_getElem? (i := 950) (by decide +kernel)) (by decide +kernel)
theorem tw_765 : (.selects RX8 yX8_paper yX8_paper : Cond) ∈ bm_T := bm_TT (List.mem_of_getElem? (i := 951) (by decide +kernel)) (by decide +kernel)
theorem tw_766 : (.code yX7_spread cX7_spread 2 (some .int) : Cond) ∈ bm_T := bm_TT (List.mem_of_getElem? (i := 582) (by decide +kernel)) (by decide +kernel)
theorem tw_767 : (.methodLink RL 75 yX7_spread : Cond) ∈ bm_T := bm_TT (List.mem_of_getElem? (i := 579) (by decide +kernel)) (by decide +kernel)
theorem tw_768 : (.instanceMethod yX7_spread : Cond) ∈ bm_T := bm_TT (List.mem_of_getElem? (i := 580) (by decide +kernel)) (by decide +kernel)
theorem tw_769 : (.selects RX7 yX7_spread yX7_spread : Cond) ∈ bm_T := bm_TT (List.mem_of_getElem? (i := 581) (by decide +kernel)) (by decide +kernel)
theorem tw_770 : (.code yX8_spread cX8_spread 6 (some .int) : Cond) ∈ bm_T := bm_TT (List.mem_of_getElem? (i := 956) (by decide +kernel)) (by decide +kernel)
theorem tw_771 : (.methodLink RL 78 yX8_spread : Cond) ∈ bm_T := bm_TT (List.mem_of_getElem? (i := 953) (by decide +kernel)) (by decide +kernel)
theorem tw_772 : (.instanceMethod yX8_spread : Cond) ∈ bm_T := bm_TT (List.mem_of_getElem? (i := 954) (by decide +kernel)) (by decide +kernel)
theorem tw_773 : (.selects RX8 yX8_spread yX8_spread : Cond) ∈ bm_T := bm_TT (List.mem_of_getElem? (i := 955) (by decide +kernel)) (by decide +kernel)
theorem tw_774 : (.code yX7_evenVersions cX7_evenVersions 2 (some .int) : Cond) ∈ bm_T := bm_TT (List.mem_of_getElem? (i := 597) (by decide +kernel)) (by decide +kernel)
theorem tw_775 : (.methodLink RL 79 yX7_evenVersions : Cond) ∈ bm_T := bm_TT (List.mem_of_getElem? (i := 594) (by decide +kernel)) (by decide +kernel)
theorem tw_776 : (.instanceMethod yX7_evenVersions : Cond) ∈ bm_T := bm_TT (List.mem_of_getElem? (i := 595) (by decide +kernel)) (by decide +kernel)
theorem tw_777 : (.selects RX7 yX7_evenVersions yX7_evenVersions : Cond) ∈ bm_T := bm_TT (List.mem_of_getElem? (i := 596) (by decide +kernel)) (by decide +kernel)
theorem tw_778 : (.code yX8_evenVersions cX8_evenVersions 4 (some .int) : Cond) ∈ bm_T := bm_TT (List.mem_of_getElem? (i := 960) (by decide +kernel)) (by decide +kernel)
theorem tw_779 : (.methodLink RL 82 yX8_evenVersions : Cond) ∈ bm_T := bm_TT (List.mem_of_getElem? (i := 957) (by decide +kernel)) (by decide +kernel)
theorem tw_780 : (.instanceMethod yX8_evenVersions : Cond) ∈ bm_T := bm_TT (List.mem_of_getElem? (i := 958) (by decide +kernel)) (by decide +kernel)
theorem tw_781 : (.selects RX8 yX8_evenVersions yX8_evenVersions : Cond) ∈ bm_T := bm_TT (List.mem_of_getElem? (i := 959) (by decide +kernel)) (by decide +kernel)
theorem tw_782 : (.code yX7_bestWidth cX7_bestWidth 6 (some .int) : Cond) ∈ bm_T := bm_TT (List.mem_of_getElem? (i := 609) (by decide +kernel)) (by decide +kernel)
theorem tw_783 : (.methodLink RL 83 yX7_bestWidth : Cond) ∈ bm_T := bm_TT (List.mem_of_getElem? (i := 606) (by decide +kernel)) (by decide +kernel)
theorem tw_784 : (.instanceMethod yX7_bestWidth : Cond) ∈ bm_T := bm_TT (List.mem_of_getElem? (i := 607) (by decide +kernel)) (by decide +kernel)
theorem tw_785 : (.selects RX7 yX7_bestWidth yX7_bestWidth : Cond) ∈ bm_T := bm_TT (List.mem_of_getElem? (i := 608) (by decide +kernel)) (by decide +kernel)
theorem tw_786 : (.code yX8_bestWidth cX8_bestWidth 7 (some .int) : Cond) ∈ bm_T := bm_TT (List.mem_of_getElem? (i := 968) (by decide +kernel)) (by decide +kernel)
theorem tw_787 : (.methodLink RL 86 yX8_bestWidth : Cond) ∈ bm_T := bm_TT (List.mem_of_getElem? (i := 965) (by decide +kernel)) (by decide +kernel)
theorem tw_788 : (.instanceMethod yX8_bestWidth : Cond) ∈ bm_T := bm_TT (List.mem_of_getElem? (i := 966) (by decide +kernel)) (by decide +kernel)
theorem tw_789 : (.selects RX8 yX8_bestWidth yX8_bestWidth : Cond) ∈ bm_T := bm_TT (List.mem_of_getElem? (i := 967) (by decide +kernel)) (by decide +kernel)
theorem tw_790 : (.code yX7_undo cX7_undo 1 (some .int) : Cond) ∈ bm_T := bm_TT (List.mem_of_getElem? (i := 617) (by decide +kernel)) (by decide +kernel)
theorem tw_791 : (.methodLink RL 87 yX7_undo : Cond) ∈ bm_T := bm_TT (List.mem_of_getElem? (i := 614) (by decide +kernel)) (by decide +kernel)
theorem tw_792 : (.instanceMethod yX7_undo : Cond) ∈ bm_T := bm_TT (List.mem_of_getElem? (i := 615) (by decide +kernel)) (by decide +kernel)
theorem tw_793 : (.selects RX7 yX7_undo yX7_undo : Cond) ∈ bm_T := bm_TT (List.mem_of_getElem? (i := 616) (by decide +kernel)) (by decide +kernel)
theorem tw_794 : (.code yX8_undo cX8_undo 2 (some .int) : Cond) ∈ bm_T := bm_TT (List.mem_of_getElem? (i := 976) (by decide +kernel)) (by decide +kernel)
theorem tw_795 : (.methodLink RL 90 yX8_undo : Cond) ∈ bm_T := bm_TT (List.mem_of_getElem? (i := 973) (by decide +kernel)) (by decide +kernel)
theorem tw_796 : (.instanceMethod yX8_undo : Cond) ∈ bm_T := bm_TT (List.mem_of_getElem? (i := 974) (by decide +kernel)) (by decide +kernel)
theorem tw_797 : (.selects RX8 yX8_undo yX8_undo : Cond) ∈ bm_T := bm_TT (List.mem_of_getElem? (i := 975) (by decide +kernel)) (by decide +kernel)
theorem tw_798 : (.code yX7_type cX7_type 2 (some .int) : Cond) ∈ bm_T := bm_TT (List.mem_of_getElem? (i := 625) (by decide +kernel)) (by decide +kernel)
theorem tw_799 : (.methodLink RL 91 yX7_type : Cond) ∈ bm_T := bm_TT (List.mem_of_getElem? (i := 622) (by decide +kernel)) (by decide +kernel)
theorem tw_800 : (.instanceMethod yX7_type : Cond) ∈ bm_T := bm_TT (List.mem_of_getElem? (i := 623) (by decide +kernel)) (by decide +kernel)
theorem tw_801 : (.selects RX7 yX7_type yX7_type : Cond) ∈ bm_T := bm_TT (List.mem_of_getElem? (i := 624) (by decide +kernel)) (by decide +kernel)
theorem tw_802 : (.code yX8_type cX8_type 2 (some .int) : Cond) ∈ bm_T := bm_TT (List.mem_of_getElem? (i := 980) (by decide +kernel)) (by decide +kernel)
theorem tw_803 : (.methodLink RL 94 yX8_type : Cond) ∈ bm_T := bm_TT (List.mem_of_getElem? (i := 977) (by decide +kernel)) (by decide +kernel)
theorem tw_804 : (.instanceMethod yX8_type : Cond) ∈ bm_T := bm_TT (List.mem_of_getElem? (i := 978) (by decide +kernel)) (by decide +kernel)
theorem tw_805 : (.selects RX8 yX8_type yX8_type : Cond) ∈ bm_T := bm_TT (List.mem_of_getElem? (i := 979) (by decide +kernel)) (by decide +kernel)
theorem tw_806 : (.code yX7_clearText cX7_clearText 1 (some .int) : Cond) ∈ bm_T := bm_TT (List.mem_of_getElem? (i := 634) (by decide +kernel)) (by decide +kernel)
theorem tw_807 : (.methodLink RL 95 yX7_clearText : Cond) ∈ bm_T := bm_TT (List.mem_of_getElem? (i := 631) (by decide +kernel)) (by decide +kernel)
theorem tw_808 : (.instanceMethod yX7_clearText : Cond) ∈ bm_T := bm_TT (List.mem_of_getElem? (i := 632) (by decide +kernel)) (by decide +kernel)
theorem tw_809 : (.selects RX7 yX7_clearText yX7_clearText : Cond) ∈ bm_T := bm_TT (List.mem_of_getElem? (i := 633) (by decide +kernel)) (by decide +kernel)
theorem tw_810 : (.code yX8_clearText cX8_clearText 2 (some .int) : Cond) ∈ bm_T := bm_TT (List.mem_of_getElem? (i := 984) (by decide +kernel)) (by decide +kernel)
theorem tw_811 : (.methodLink RL 98 yX8_clearText : Cond) ∈ bm_T := bm_TT (List.mem_of_getElem? (i := 981) (by decide +kernel)) (by decide +kernel)
theorem tw_812 : (.instanceMethod yX8_clearText : Cond) ∈ bm_T := bm_TT (List.mem_of_getElem? (i := 982) (by decide +kernel)) (by decide +kernel)
theorem tw_813 : (.selects RX8 yX8_clearText yX8_clearText : Cond) ∈ bm_T := bm_TT (List.mem_of_getElem? (i := 983) (by decide +kernel)) (by decide +kernel)
theorem tw_814 : (.code yX7_fault cX7_fault 2 (some .int) : Cond) ∈ bm_T := bm_TT (List.mem_of_getElem? (i := 642) (by decide +kernel)) (by decide +kernel)
theorem tw_815 : (.methodLink RL 99 yX7_fault : Cond) ∈ bm_T := bm_TT (List.mem_of_getElem? (i := 639) (by decide +kernel)) (by decide +kernel)
theorem tw_816 : (.instanceMethod yX7_fault : Cond) ∈ bm_T := bm_TT (List.mem_of_getElem? (i := 640) (by decide +kernel)) (by decide +kernel)
theorem tw_817 : (.selects RX7 yX7_fault yX7_fault : Cond) ∈ bm_T := bm_TT (List.mem_of_getElem? (i := 641) (by decide +kernel)) (by decide +kernel)
theorem tw_818 : (.code yX8_fault cX8_fault 2 (some .int) : Cond) ∈ bm_T := bm_TT (List.mem_of_getElem? (i := 988) (by decide +kernel)) (by decide +kernel)
theorem tw_819 : (.methodLink RL 102 yX8_fault : Cond) ∈ bm_T := bm_TT (List.mem_of_getElem? (i := 985) (by decide +kernel)) (by decide +kernel)
theorem tw_820 : (.instanceMethod yX8_fault : Cond) ∈ bm_T := bm_TT (List.mem_of_getElem? (i := 986) (by decide +kernel)) (by decide +kernel)
theorem tw_821 : (.selects RX8 yX8_fault yX8_fault : Cond) ∈ bm_T := bm_TT (List.mem_of_getElem? (i := 987) (by decide +kernel)) (by decide +kernel)
theorem tw_822 : (.code yX7_cast cX7_cast 1 (some .int) : Cond) ∈ bm_T := bm_TT (List.mem_of_getElem? (i := 707) (by decide +kernel)) (by decide +kernel)
theorem tw_823 : (.methodLink RL 103 yX7_cast : Cond) ∈ bm_T := bm_TT (List.mem_of_getElem? (i := 704) (by decide +kernel)) (by decide +kernel)
theorem tw_824 : (.instanceMethod yX7_cast : Cond) ∈ bm_T := bm_TT (List.mem_of_getElem? (i := 705) (by decide +kernel)) (by decide +kernel)
theorem tw_825 : (.selects RX7 yX7_cast yX7_cast : Cond) ∈ bm_T := bm_TT (List.mem_of_getElem? (i := 706) (by decide +kernel)) (by decide +kernel)
theorem tw_826 : (.code yX8_cast cX8_cast 4 (some .int) : Cond) ∈ bm_T := bm_TT (List.mem_of_getElem? (i := 1016) (by decide +kernel)) (by decide +kernel)
theorem tw_827 : (.methodLink RL 106 yX8_cast : Cond) ∈ bm_T := bm_TT (List.mem_of_getElem? (i := 1013) (by decide +kernel)) (by decide +kernel)
theorem tw_828 : (.instanceMethod yX8_cast : Cond) ∈ bm_T := bm_TT (List.mem_of_getElem? (i := 1014) (by decide +kernel)) (by decide +kernel)
theorem tw_829 : (.selects RX8 yX8_cast yX8_cast : Cond) ∈ bm_T := bm_TT (List.mem_of_getElem? (i := 1015) (by decide +kernel)) (by decide +kernel)
/-- the law's end: it demands 1 -/
def op_lret : bm_O := fun _ _ x => match x with | (lo, st, M) => match st with
  | [.inl v] => if v = 1 then some (some (.inl v), M) else none
  | _ => none
theorem s_lret {p : Program} {l : Launch} {e : Env} {s : State} {m : MethodId} {below : List Frame} {meth : Method} {c : Code} {b nL n0 s0 pc np : Nat} {g : bm_G} (hx : p.tables.exec = Jvm.exec) (hb : c.code = cL_law) (hr : meth.sig.returnType = ret) (hlk : meth.locks = false) (hg : g.1 = s.heap.size) (hd : decode cL_law pc = .ok (.ireturn, 1)) : bm_Sim p l e room_1 s m #[Value.ref b] below meth c nL g n0 s0 (fun _ => lw_Z below #[Value.ref b] s) pc np op_lret := by
  intro jm nx hj hn x r h
  obtain ⟨lo, st, M⟩ := x
  match st, h with
  | [.inl v], h =>
    change (if v = 1 then some (some (.inl v), M) else none) = some r at h
    by_cases hv : v = 1
    · rw [if_pos hv] at h
      cases h
      subst hv
      refine ⟨⟨Nat.le_refl _, Nat.le_refl _⟩, fun a1 a2 a3 a4 H locs ls b1 b2 b3 => ?_⟩
      refine va_forget (fun q hq => by rw [← hg]; exact b2 q hq) ?_
      refine W.widen (k := 600000) (n := 7302250) a3 a4 ?_
      exact lw_ret hx hb hr hlk hd
    · rw [if_neg hv] at h; exact bm_no h
noncomputable def z_law : List (Nat × bm_O) := [(0, op_new 6), (3, op_dup), (4, op_call 0 1 (bm_rc 6) f_X7_init), (7, op_astore 1), (8, op_new 7), (11, op_dup), (12, op_call 0 1 (bm_rc 7) f_X8_init), (15, op_astore 2), (16, op_const (0)), (17, op_istore 3), (18, op_iload 3), (19, op_aload 0), (20, op_alen), (21, op_const (6)), (23, op_bin (fun a b => a - b)), (24, op_icgt 778), (27, op_aload 0), (28, op_iload 3), (29, op_iaload), (30, op_const (31)), (32, op_bin (fun a b => a &&& b)), (33, op_tsw [136, 169, 202, 235, 268, 301, 314, 347, 390, 413, 436, 479, 532, 595, 628, 651, 664, 687, 700, 723, 736, 759] 772), (136, op_aload 1), (137, op_aload 0), (138, op_iload 3), (139, op_const (1)), (140, op_bin (fun a b => a + b)), (141, op_iaload), (142, op_aload 0), (143, op_iload 3), (144, op_const (2)), (145, op_bin (fun a b => a + b)), (146, op_iaload), (147, op_call 1 3 (bm_rc 6) f_X7_contest), (150, op_aload 2), (151, op_aload 0), (152, op_iload 3), (153, op_const (1)), (154, op_bin (fun a b => a + b)), (155, op_iaload), (156, op_aload 0), (157, op_iload 3), (158, op_const (2)), (159, op_bin (fun a b => a + b)), (160, op_iaload), (161, op_call 1 3 (bm_rc 7) f_X8_contest), (164, op_iceq 772), (167, op_const (0)), (168, op_lret), (169, op_aload 1), (170, op_aload 0), (171, op_iload 3), (172, op_const (1)), (173, op_bin (fun a b => a + b)), (174, op_iaload), (175, op_aload 0), (176, op_iload 3), (177, op_const (2)), (178, op_bin (fun a b => a + b)), (179, op_iaload), (180, op_call 1 3 (bm_rc 6) f_X7_name), (183, op_aload 2), (184, op_aload 0), (185, op_iload 3), (186, op_const (1)), (187, op_bin (fun a b => a + b)), (188, op_iaload), (189, op_aload 0), (190, op_iload 3), (191, op_const (2)), (192, op_bin (fun a b => a + b)), (193, op_iaload), (194, op_call 1 3 (bm_rc 7) f_X8_name), (197, op_iceq 772), (200, op_const (0)), (201, op_lret), (202, op_aload 1), (203, op_aload 0), (204, op_iload 3), (205, op_const (1)), (206, op_bin (fun a b => a + b)), (207, op_iaload), (208, op_aload 0), (209, op_iload 3), (210, op_const (2)), (211, op_bin (fun a b => a + b)), (212, op_iaload), (213, op_call 1 3 (bm_rc 6) f_X7_way), (216, op_aload 2), (217, op_aload 0), (218, op_iload 3), (219, op_const (1)), (220, op_bin (fun a b => a + b)), (221, op_iaload), (222, op_aload 0), (223, op_iload 3), (224, op_const (2)), (225, op_bin (fun a b => a + b)), (226, op_iaload), (227, op_call 1 3 (bm_rc 7) f_X8_way), (230, op_iceq 772), (233, op_const (0)), (234, op_lret), (235, op_aload 1), (236, op_aload 0), (237, op_iload 3), (238, op_const (1)), (239, op_bin (fun a b => a + b)), (240, op_iaload), (241, op_aload 0), (242, op_iload 3), (243, op_const (2)), (244, op_bin (fun a b => a + b)), (245, op_iaload), (246, op_call 1 3 (bm_rc 6) f_X7_papers), (249, op_aload 2), (250, op_aload 0), (251, op_iload 3), (252, op_const (1)), (253, op_bin (fun a b => a + b)), (254, op_iaload), (255, op_aload 0), (256, op_iload 3), (257, op_const (2)), (258, op_bin (fun a b => a + b)), (259, op_iaload), (260, op_call 1 3 (bm_rc 7) f_X8_papers), (263, op_iceq 772), (266, op_const (0)), (267, op_lret), (268, op_aload 1), (269, op_aload 0), (270, op_iload 3), (271, op_const (1)), (272, op_bin (fun a b => a + b)), (273, op_iaload), (274, op_aload 0), (275, op_iload 3), (276, op_const (2)), (277, op_bin (fun a b => a + b)), (278, op_iaload), (279, op_call 1 3 (bm_rc 6) f_X7_set), (282, op_aload 2), (283, op_aload 0), (284, op_iload 3), (285, op_const (1)), (286, op_bin (fun a b => a + b)), (287, op_iaload), (288, op_aload 0), (289, op_iload 3), (290, op_const (2)), (291, op_bin (fun a b => a + b)), (292, op_iaload), (293, op_call 1 3 (bm_rc 7) f_X8_set), (296, op_iceq 772), (299, op_const (0)), (300, op_lret), (301, op_aload 1), (302, op_call 1 1 (bm_rc 6) f_X7_clear), (305, op_aload 2), (306, op_call 1 1 (bm_rc 7) f_X8_clear), (309, op_iceq 772), (312, op_const (0)), (313, op_lret), (314, op_aload 1), (315, op_aload 0), (316, op_iload 3), (317, op_const (1)), (318, op_bin (fun a b => a + b)), (319, op_iaload), (320, op_aload 0), (321, op_iload 3), (322, op_const (2)), (323, op_bin (fun a b => a + b)), (324, op_iaload), (325, op_call 1 3 (bm_rc 6) f_X7_contestOf), (328, op_aload 2), (329, op_aload 0), (330, op_iload 3), (331, op_const (1)), (332, op_bin (fun a b => a + b)), (333, op_iaload), (334, op_aload 0), (335, op_iload 3), (336, op_const (2)), (337, op_bin (fun a b => a + b)), (338, op_iaload), (339, op_call 1 3 (bm_rc 7) f_X8_contestOf), (342, op_iceq 772), (345, op_const (0)), (346, op_lret), (347, op_aload 1), (348, op_aload 0), (349, op_iload 3), (350, op_const (1)), (351, op_bin (fun a b => a + b)), (352, op_iaload), (353, op_aload 0), (354, op_iload 3), (355, op_const (2)), (356, op_bin (fun a b => a + b)), (357, op_iaload), (358, op_aload 0), (359, op_iload 3), (360, op_const (3)), (361, op_bin (fun a b => a + b)), (362, op_iaload), (363, op_call 1 4 (bm_rc 6) f_X7_nameOf), (366, op_aload 2), (367, op_aload 0), (368, op_iload 3), (369, op_const (1)), (370, op_bin (fun a b => a + b)), (371, op_iaload), (372, op_aload 0), (373, op_iload 3), (374, op_const (2)), (375, op_bin (fun a b => a + b)), (376, op_iaload), (377, op_aload 0), (378, op_iload 3), (379, op_const (3)), (380, op_bin (fun a b => a + b)), (381, op_iaload), (382, op_call 1 4 (bm_rc 7) f_X8_nameOf), (385, op_iceq 772), (388, op_const (0)), (389, op_lret), (390, op_aload 1), (391, op_aload 0), (392, op_iload 3), (393, op_const (1)), (394, op_bin (fun a b => a + b)), (395, op_iaload), (396, op_call 1 2 (bm_rc 6) f_X7_count), (399, op_aload 2), (400, op_aload 0), (401, op_iload 3), (402, op_const (1)), (403, op_bin (fun a b => a + b)), (404, op_iaload), (405, op_call 1 2 (bm_rc 7) f_X8_count), (408, op_iceq 772), (411, op_const (0)), (412, op_lret), (413, op_aload 1), (414, op_aload 0), (415, op_iload 3), (416, op_const (1)), (417, op_bin (fun a b => a + b)), (418, op_iaload), (419, op_call 1 2 (bm_rc 6) f_X7_papersOf), (422, op_aload 2), (423, op_aload 0), (424, op_iload 3), (425, op_const (1)), (426, op_bin (fun a b => a + b)), (427, op_iaload), (428, op_call 1 2 (bm_rc 7) f_X8_papersOf), (431, op_iceq 772), (434, op_const (0)), (435, op_lret), (436, op_aload 1), (437, op_aload 0), (438, op_iload 3), (439, op_const (1)), (440, op_bin (fun a b => a + b)), (441, op_iaload), (442, op_aload 0), (443, op_iload 3), (444, op_const (2)), (445, op_bin (fun a b => a + b)), (446, op_iaload), (447, op_aload 0), (448, op_iload 3), (449, op_const (3)), (450, op_bin (fun a b => a + b)), (451, op_iaload), (452, op_call 1 4 (bm_rc 6) f_X7_stands), (455, op_aload 2), (456, op_aload 0), (457, op_iload 3), (458, op_const (1)), (459, op_bin (fun a b => a + b)), (460, op_iaload), (461, op_aload 0), (462, op_iload 3), (463, op_const (2)), (464, op_bin (fun a b => a + b)), (465, op_iaload), (466, op_aload 0), (467, op_iload 3), (468, op_const (3)), (469, op_bin (fun a b => a + b)), (470, op_iaload), (471, op_call 1 4 (bm_rc 7) f_X8_stands), (474, op_iceq 772), (477, op_const (0)), (478, op_lret), (479, op_aload 1), (480, op_aload 0), (481, op_iload 3), (482, op_const (1)), (483, op_bin (fun a b => a + b)), (484, op_iaload), (485, op_aload 0), (486, op_iload 3), (487, op_const (2)), (488, op_bin (fun a b => a + b)), (489, op_iaload), (490, op_aload 0), (491, op_iload 3), (492, op_const (3)), (493, op_bin (fun a b => a + b)), (494, op_iaload), (495, op_aload 0), (496, op_iload 3), (497, op_const (4)), (498, op_bin (fun a b => a + b)), (499, op_iaload), (500, op_call 1 5 (bm_rc 6) f_X7_lies), (503, op_aload 2), (504, op_aload 0), (505, op_iload 3), (506, op_const (1)), (507, op_bin (fun a b => a + b)), (508, op_iaload), (509, op_aload 0), (510, op_iload 3), (511, op_const (2)), (512, op_bin (fun a b => a + b)), (513, op_iaload), (514, op_aload 0), (515, op_iload 3), (516, op_const (3)), (517, op_bin (fun a b => a + b)), (518, op_iaload), (519, op_aload 0), (520, op_iload 3), (521, op_const (4)), (522, op_bin (fun a b => a + b)), (523, op_iaload), (524, op_call 1 5 (bm_rc 7) f_X8_lies), (527, op_iceq 772), (530, op_const (0)), (531, op_lret), (532, op_aload 1), (533, op_aload 0), (534, op_iload 3), (535, op_const (1)), (536, op_bin (fun a b => a + b)), (537, op_iaload), (538, op_aload 0), (539, op_iload 3), (540, op_const (2)), (541, op_bin (fun a b => a + b)), (542, op_iaload), (543, op_aload 0), (544, op_iload 3), (545, op_const (3)), (546, op_bin (fun a b => a + b)), (547, op_iaload), (548, op_aload 0), (549, op_iload 3), (550, op_const (4)), (551, op_bin (fun a b => a + b)), (552, op_iaload), (553, op_aload 0), (554, op_iload 3), (555, op_const (5)), (556, op_bin (fun a b => a + b)), (557, op_iaload), (558, op_call 1 6 (bm_rc 6) f_X7_markAt), (561, op_aload 2), (562, op_aload 0), (563, op_iload 3), (564, op_const (1)), (565, op_bin (fun a b => a + b)), (566, op_iaload), (567, op_aload 0), (568, op_iload 3), (569, op_const (2)), (570, op_bin (fun a b => a + b)), (571, op_iaload), (572, op_aload 0), (573, op_iload 3), (574, op_const (3)), (575, op_bin (fun a b => a + b)), (576, op_iaload), (577, op_aload 0), (578, op_iload 3), (579, op_const (4)), (580, op_bin (fun a b => a + b)), (581, op_iaload), (582, op_aload 0), (583, op_iload 3), (584, op_const (5)), (585, op_bin (fun a b => a + b)), (586, op_iaload), (587, op_call 1 6 (bm_rc 7) f_X8_markAt), (590, op_iceq 772), (593, op_const (0)), (594, op_lret), (595, op_aload 1), (596, op_aload 0), (597, op_iload 3), (598, op_const (1)), (599, op_bin (fun a b => a + b)), (600, op_iaload), (601, op_aload 0), (602, op_iload 3), (603, op_const (2)), (604, op_bin (fun a b => a + b)), (605, op_iaload), (606, op_call 1 3 (bm_rc 6) f_X7_paper), (609, op_aload 2), (610, op_aload 0), (611, op_iload 3), (612, op_const (1)), (613, op_bin (fun a b => a + b)), (614, op_iaload), (615, op_aload 0), (616, op_iload 3), (617, op_const (2)), (618, op_bin (fun a b => a + b)), (619, op_iaload), (620, op_call 1 3 (bm_rc 7) f_X8_paper), (623, op_iceq 772), (626, op_const (0)), (627, op_lret), (628, op_aload 1), (629, op_aload 0), (630, op_iload 3), (631, op_const (1)), (632, op_bin (fun a b => a + b)), (633, op_iaload), (634, op_call 1 2 (bm_rc 6) f_X7_spread), (637, op_aload 2), (638, op_aload 0), (639, op_iload 3), (640, op_const (1)), (641, op_bin (fun a b => a + b)), (642, op_iaload), (643, op_call 1 2 (bm_rc 7) f_X8_spread), (646, op_iceq 772), (649, op_const (0)), (650, op_lret), (651, op_aload 1), (652, op_call 1 1 (bm_rc 6) f_X7_evenVersions), (655, op_aload 2), (656, op_call 1 1 (bm_rc 7) f_X8_evenVersions), (659, op_iceq 772), (662, op_const (0)), (663, op_lret), (664, op_aload 1), (665, op_aload 0), (666, op_iload 3), (667, op_const (1)), (668, op_bin (fun a b => a + b)), (669, op_iaload), (670, op_call 1 2 (bm_rc 6) f_X7_bestWidth), (673, op_aload 2), (674, op_aload 0), (675, op_iload 3), (676, op_const (1)), (677, op_bin (fun a b => a + b)), (678, op_iaload), (679, op_call 1 2 (bm_rc 7) f_X8_bestWidth), (682, op_iceq 772), (685, op_const (0)), (686, op_lret), (687, op_aload 1), (688, op_call 1 1 (bm_rc 6) f_X7_undo), (691, op_aload 2), (692, op_call 1 1 (bm_rc 7) f_X8_undo), (695, op_iceq 772), (698, op_const (0)), (699, op_lret), (700, op_aload 1), (701, op_aload 0), (702, op_iload 3), (703, op_const (1)), (704, op_bin (fun a b => a + b)), (705, op_iaload), (706, op_call 1 2 (bm_rc 6) f_X7_type), (709, op_aload 2), (710, op_aload 0), (711, op_iload 3), (712, op_const (1)), (713, op_bin (fun a b => a + b)), (714, op_iaload), (715, op_call 1 2 (bm_rc 7) f_X8_type), (718, op_iceq 772), (721, op_const (0)), (722, op_lret), (723, op_aload 1), (724, op_call 1 1 (bm_rc 6) f_X7_clearText), (727, op_aload 2), (728, op_call 1 1 (bm_rc 7) f_X8_clearText), (731, op_iceq 772), (734, op_const (0)), (735, op_lret), (736, op_aload 1), (737, op_aload 0), (738, op_iload 3), (739, op_const (1)), (740, op_bin (fun a b => a + b)), (741, op_iaload), (742, op_call 1 2 (bm_rc 6) f_X7_fault), (745, op_aload 2), (746, op_aload 0), (747, op_iload 3), (748, op_const (1)), (749, op_bin (fun a b => a + b)), (750, op_iaload), (751, op_call 1 2 (bm_rc 7) f_X8_fault), (754, op_iceq 772), (757, op_const (0)), (758, op_lret), (759, op_aload 1), (760, op_call 1 1 (bm_rc 6) f_X7_cast), (763, op_aload 2), (764, op_call 1 1 (bm_rc 7) f_X8_cast), (767, op_iceq 772), (770, op_const (0)), (771, op_lret), (772, op_iinc 3 6), (775, op_goto 18), (778, op_const (1)), (779, op_lret)]
set_option maxHeartbeats 4000000 in
theorem law_CS {p : Program} {l : Launch} {e : Env} {s : State} {m : MethodId} {below : List Frame} {meth : Method} {c : Code} {b n0 s0 : Nat} {g : bm_G} (hx : p.tables.exec = Jvm.exec) (hb : c.code = cL_law) (hml : c.maxLocals = 4) (hown : s.vm.findClass RL = some m.cls) (hts : ∀ w ∈ bm_T, w.before #[Value.ref b] s = true) (hK : bm_K g s) (hr : meth.sig.returnType = ret) (hlk : meth.locks = false) (hg : g.1 = s.heap.size) : bm_CS (bm_Sim p l e room_1 s m #[Value.ref b] below meth c 4 g n0 s0 (fun _ => lw_Z below #[Value.ref b] s)) z_law := by
  refine bm_cc (s_new hx hb hown hts hK (C := RX7) (TT := TX7) (N := 6) (ci := 6) inT7 rfl rfl (by decide) tyX7 tyX7_ok (by decide +kernel) tw_644 tw_645 tw_106 dL_law_0) ?_
  refine bm_cc (s_dup hx hb dL_law_3) ?_
  refine bm_cc (s_callI hx hb hml hown hts hK (k_X7_init l g) tw_647 tw_648 rfl tw_106 tw_646 ⟨by decide, by decide, by decide +kernel⟩ ⟨by decide, by decide⟩ dL_law_4) ?_
  refine bm_cc (s_astore_n hx hb dL_law_7) ?_
  refine bm_cc (s_new hx hb hown hts hK (C := RX8) (TT := TX8) (N := 19) (ci := 7) inT8 rfl rfl (by decide) tyX8 tyX8_ok (by decide +kernel) tw_649 tw_650 tw_123 dL_law_8) ?_
  refine bm_cc (s_dup hx hb dL_law_11) ?_
  refine bm_cc (s_callI hx hb hml hown hts hK (k_X8_init l g) tw_652 tw_653 rfl tw_123 tw_651 ⟨by decide, by decide, by decide +kernel⟩ ⟨by decide, by decide⟩ dL_law_12) ?_
  refine bm_cc (s_astore_n hx hb dL_law_15) ?_
  refine bm_cc (s_iconst hx hb dL_law_16 (by decide)) ?_
  refine bm_cc (s_istore_n hx hb dL_law_17) ?_
  refine bm_cc (s_iload_n hx hb dL_law_18) ?_
  refine bm_cc (s_aload_n hx hb dL_law_19) ?_
  refine bm_cc (s_alen hx hb hK dL_law_20) ?_
  refine bm_cc (s_bipush hx hb dL_law_21 (by decide)) ?_
  refine bm_cc (s_isub hx hb dL_law_23) ?_
  refine bm_cc (s_icgt hx hb dL_law_24 (by decide)) ?_
  refine bm_cc (s_aload_n hx hb dL_law_27) ?_
  refine bm_cc (s_iload_n hx hb dL_law_28) ?_
  refine bm_cc (s_iaload hx hb hK dL_law_29) ?_
  refine bm_cc (s_bipush hx hb dL_law_30 (by decide)) ?_
  refine bm_cc (s_iand hx hb dL_law_32) ?_
  refine bm_cc (s_tsw hx hb dL_law_33 (by decide) (by decide) (by decide) (by decide)) ?_
  refine bm_cc (s_aload_n hx hb dL_law_136) ?_
  refine bm_cc (s_aload_n hx hb dL_law_137) ?_
  refine bm_cc (s_iload_n hx hb dL_law_138) ?_
  refine bm_cc (s_iconst hx hb dL_law_139 (by decide)) ?_
  refine bm_cc (s_iadd hx hb dL_law_140) ?_
  refine bm_cc (s_iaload hx hb hK dL_law_141) ?_
  refine bm_cc (s_aload_n hx hb dL_law_142) ?_
  refine bm_cc (s_iload_n hx hb dL_law_143) ?_
  refine bm_cc (s_iconst hx hb dL_law_144 (by decide)) ?_
  refine bm_cc (s_iadd hx hb dL_law_145) ?_
  refine bm_cc (s_iaload hx hb hK dL_law_146) ?_
  refine bm_cc (s_callV hx hb hml hown hts hK (C := RX7) (TT := TX7) (N := 6) (ci := 6) rfl (by decide) (k_X7_contest l g) tw_655 tw_656 tw_657 tw_106 tw_654 ⟨by decide, by decide, by decide +kernel⟩ ⟨by decide, by decide⟩ dL_law_147) ?_
  refine bm_cc (s_aload_n hx hb dL_law_150) ?_
  refine bm_cc (s_aload_n hx hb dL_law_151) ?_
  refine bm_cc (s_iload_n hx hb dL_law_152) ?_
  refine bm_cc (s_iconst hx hb dL_law_153 (by decide)) ?_
  refine bm_cc (s_iadd hx hb dL_law_154) ?_
  refine bm_cc (s_iaload hx hb hK dL_law_155) ?_
  refine bm_cc (s_aload_n hx hb dL_law_156) ?_
  refine bm_cc (s_iload_n hx hb dL_law_157) ?_
  refine bm_cc (s_iconst hx hb dL_law_158 (by decide)) ?_
  refine bm_cc (s_iadd hx hb dL_law_159) ?_
  refine bm_cc (s_iaload hx hb hK dL_law_160) ?_
  refine bm_cc (s_callV hx hb hml hown hts hK (C := RX8) (TT := TX8) (N := 19) (ci := 7) rfl (by decide) (k_X8_contest l g) tw_659 tw_660 tw_661 tw_123 tw_658 ⟨by decide, by decide, by decide +kernel⟩ ⟨by decide, by decide⟩ dL_law_161) ?_
  refine bm_cc (s_iceq hx hb dL_law_164 (by decide)) ?_
  refine bm_cc (s_iconst hx hb dL_law_167 (by decide)) ?_
  refine bm_cc (s_lret hx hb hr hlk hg dL_law_168) ?_
  refine bm_cc (s_aload_n hx hb dL_law_169) ?_
  refine bm_cc (s_aload_n hx hb dL_law_170) ?_
  refine bm_cc (s_iload_n hx hb dL_law_171) ?_
  refine bm_cc (s_iconst hx hb dL_law_172 (by decide)) ?_
  refine bm_cc (s_iadd hx hb dL_law_173) ?_
  refine bm_cc (s_iaload hx hb hK dL_law_174) ?_
  refine bm_cc (s_aload_n hx hb dL_law_175) ?_
  refine bm_cc (s_iload_n hx hb dL_law_176) ?_
  refine bm_cc (s_iconst hx hb dL_law_177 (by decide)) ?_
  refine bm_cc (s_iadd hx hb dL_law_178) ?_
  refine bm_cc (s_iaload hx hb hK dL_law_179) ?_
  refine bm_cc (s_callV hx hb hml hown hts hK (C := RX7) (TT := TX7) (N := 6) (ci := 6) rfl (by decide) (k_X7_name l g) tw_663 tw_664 tw_665 tw_106 tw_662 ⟨by decide, by decide, by decide +kernel⟩ ⟨by decide, by decide⟩ dL_law_180) ?_
  refine bm_cc (s_aload_n hx hb dL_law_183) ?_
  refine bm_cc (s_aload_n hx hb dL_law_184) ?_
  refine bm_cc (s_iload_n hx hb dL_law_185) ?_
  refine bm_cc (s_iconst hx hb dL_law_186 (by decide)) ?_
  refine bm_cc (s_iadd hx hb dL_law_187) ?_
  refine bm_cc (s_iaload hx hb hK dL_law_188) ?_
  refine bm_cc (s_aload_n hx hb dL_law_189) ?_
  refine bm_cc (s_iload_n hx hb dL_law_190) ?_
  refine bm_cc (s_iconst hx hb dL_law_191 (by decide)) ?_
  refine bm_cc (s_iadd hx hb dL_law_192) ?_
  refine bm_cc (s_iaload hx hb hK dL_law_193) ?_
  refine bm_cc (s_callV hx hb hml hown hts hK (C := RX8) (TT := TX8) (N := 19) (ci := 7) rfl (by decide) (k_X8_name l g) tw_667 tw_668 tw_669 tw_123 tw_666 ⟨by decide, by decide, by decide +kernel⟩ ⟨by decide, by decide⟩ dL_law_194) ?_
  refine bm_cc (s_iceq hx hb dL_law_197 (by decide)) ?_
  refine bm_cc (s_iconst hx hb dL_law_200 (by decide)) ?_
  refine bm_cc (s_lret hx hb hr hlk hg dL_law_201) ?_
  refine bm_cc (s_aload_n hx hb dL_law_202) ?_
  refine bm_cc (s_aload_n hx hb dL_law_203) ?_
  refine bm_cc (s_iload_n hx hb dL_law_204) ?_
  refine bm_cc (s_iconst hx hb dL_law_205 (by decide)) ?_
  refine bm_cc (s_iadd hx hb dL_law_206) ?_
  refine bm_cc (s_iaload hx hb hK dL_law_207) ?_
  refine bm_cc (s_aload_n hx hb dL_law_208) ?_
  refine bm_cc (s_iload_n hx hb dL_law_209) ?_
  refine bm_cc (s_iconst hx hb dL_law_210 (by decide)) ?_
  refine bm_cc (s_iadd hx hb dL_law_211) ?_
  refine bm_cc (s_iaload hx hb hK dL_law_212) ?_
  refine bm_cc (s_callV hx hb hml hown hts hK (C := RX7) (TT := TX7) (N := 6) (ci := 6) rfl (by decide) (k_X7_way l g) tw_671 tw_672 tw_673 tw_106 tw_670 ⟨by decide, by decide, by decide +kernel⟩ ⟨by decide, by decide⟩ dL_law_213) ?_
  refine bm_cc (s_aload_n hx hb dL_law_216) ?_
  refine bm_cc (s_aload_n hx hb dL_law_217) ?_
  refine bm_cc (s_iload_n hx hb dL_law_218) ?_
  refine bm_cc (s_iconst hx hb dL_law_219 (by decide)) ?_
  refine bm_cc (s_iadd hx hb dL_law_220) ?_
  refine bm_cc (s_iaload hx hb hK dL_law_221) ?_
  refine bm_cc (s_aload_n hx hb dL_law_222) ?_
  refine bm_cc (s_iload_n hx hb dL_law_223) ?_
  refine bm_cc (s_iconst hx hb dL_law_224 (by decide)) ?_
  refine bm_cc (s_iadd hx hb dL_law_225) ?_
  refine bm_cc (s_iaload hx hb hK dL_law_226) ?_
  refine bm_cc (s_callV hx hb hml hown hts hK (C := RX8) (TT := TX8) (N := 19) (ci := 7) rfl (by decide) (k_X8_way l g) tw_675 tw_676 tw_677 tw_123 tw_674 ⟨by decide, by decide, by decide +kernel⟩ ⟨by decide, by decide⟩ dL_law_227) ?_
  refine bm_cc (s_iceq hx hb dL_law_230 (by decide)) ?_
  refine bm_cc (s_iconst hx hb dL_law_233 (by decide)) ?_
  refine bm_cc (s_lret hx hb hr hlk hg dL_law_234) ?_
  refine bm_cc (s_aload_n hx hb dL_law_235) ?_
  refine bm_cc (s_aload_n hx hb dL_law_236) ?_
  refine bm_cc (s_iload_n hx hb dL_law_237) ?_
  refine bm_cc (s_iconst hx hb dL_law_238 (by decide)) ?_
  refine bm_cc (s_iadd hx hb dL_law_239) ?_
  refine bm_cc (s_iaload hx hb hK dL_law_240) ?_
  refine bm_cc (s_aload_n hx hb dL_law_241) ?_
  refine bm_cc (s_iload_n hx hb dL_law_242) ?_
  refine bm_cc (s_iconst hx hb dL_law_243 (by decide)) ?_
  refine bm_cc (s_iadd hx hb dL_law_244) ?_
  refine bm_cc (s_iaload hx hb hK dL_law_245) ?_
  refine bm_cc (s_callV hx hb hml hown hts hK (C := RX7) (TT := TX7) (N := 6) (ci := 6) rfl (by decide) (k_X7_papers l g) tw_679 tw_680 tw_681 tw_106 tw_678 ⟨by decide, by decide, by decide +kernel⟩ ⟨by decide, by decide⟩ dL_law_246) ?_
  refine bm_cc (s_aload_n hx hb dL_law_249) ?_
  refine bm_cc (s_aload_n hx hb dL_law_250) ?_
  refine bm_cc (s_iload_n hx hb dL_law_251) ?_
  refine bm_cc (s_iconst hx hb dL_law_252 (by decide)) ?_
  refine bm_cc (s_iadd hx hb dL_law_253) ?_
  refine bm_cc (s_iaload hx hb hK dL_law_254) ?_
  refine bm_cc (s_aload_n hx hb dL_law_255) ?_
  refine bm_cc (s_iload_n hx hb dL_law_256) ?_
  refine bm_cc (s_iconst hx hb dL_law_257 (by decide)) ?_
  refine bm_cc (s_iadd hx hb dL_law_258) ?_
  refine bm_cc (s_iaload hx hb hK dL_law_259) ?_
  refine bm_cc (s_callV hx hb hml hown hts hK (C := RX8) (TT := TX8) (N := 19) (ci := 7) rfl (by decide) (k_X8_papers l g) tw_683 tw_684 tw_685 tw_123 tw_682 ⟨by decide, by decide, by decide +kernel⟩ ⟨by decide, by decide⟩ dL_law_260) ?_
  refine bm_cc (s_iceq hx hb dL_law_263 (by decide)) ?_
  refine bm_cc (s_iconst hx hb dL_law_266 (by decide)) ?_
  refine bm_cc (s_lret hx hb hr hlk hg dL_law_267) ?_
  refine bm_cc (s_aload_n hx hb dL_law_268) ?_
  refine bm_cc (s_aload_n hx hb dL_law_269) ?_
  refine bm_cc (s_iload_n hx hb dL_law_270) ?_
  refine bm_cc (s_iconst hx hb dL_law_271 (by decide)) ?_
  refine bm_cc (s_iadd hx hb dL_law_272) ?_
  refine bm_cc (s_iaload hx hb hK dL_law_273) ?_
  refine bm_cc (s_aload_n hx hb dL_law_274) ?_
  refine bm_cc (s_iload_n hx hb dL_law_275) ?_
  refine bm_cc (s_iconst hx hb dL_law_276 (by decide)) ?_
  refine bm_cc (s_iadd hx hb dL_law_277) ?_
  refine bm_cc (s_iaload hx hb hK dL_law_278) ?_
  refine bm_cc (s_callV hx hb hml hown hts hK (C := RX7) (TT := TX7) (N := 6) (ci := 6) rfl (by decide) (k_X7_set l g) tw_687 tw_688 tw_689 tw_106 tw_686 ⟨by decide, by decide, by decide +kernel⟩ ⟨by decide, by decide⟩ dL_law_279) ?_
  refine bm_cc (s_aload_n hx hb dL_law_282) ?_
  refine bm_cc (s_aload_n hx hb dL_law_283) ?_
  refine bm_cc (s_iload_n hx hb dL_law_284) ?_
  refine bm_cc (s_iconst hx hb dL_law_285 (by decide)) ?_
  refine bm_cc (s_iadd hx hb dL_law_286) ?_
  refine bm_cc (s_iaload hx hb hK dL_law_287) ?_
  refine bm_cc (s_aload_n hx hb dL_law_288) ?_
  refine bm_cc (s_iload_n hx hb dL_law_289) ?_
  refine bm_cc (s_iconst hx hb dL_law_290 (by decide)) ?_
  refine bm_cc (s_iadd hx hb dL_law_291) ?_
  refine bm_cc (s_iaload hx hb hK dL_law_292) ?_
  refine bm_cc (s_callV hx hb hml hown hts hK (C := RX8) (TT := TX8) (N := 19) (ci := 7) rfl (by decide) (k_X8_set l g) tw_691 tw_692 tw_693 tw_123 tw_690 ⟨by decide, by decide, by decide +kernel⟩ ⟨by decide, by decide⟩ dL_law_293) ?_
  refine bm_cc (s_iceq hx hb dL_law_296 (by decide)) ?_
  refine bm_cc (s_iconst hx hb dL_law_299 (by decide)) ?_
  refine bm_cc (s_lret hx hb hr hlk hg dL_law_300) ?_
  refine bm_cc (s_aload_n hx hb dL_law_301) ?_
  refine bm_cc (s_callV hx hb hml hown hts hK (C := RX7) (TT := TX7) (N := 6) (ci := 6) rfl (by decide) (k_X7_clear l g) tw_695 tw_696 tw_697 tw_106 tw_694 ⟨by decide, by decide, by decide +kernel⟩ ⟨by decide, by decide⟩ dL_law_302) ?_
  refine bm_cc (s_aload_n hx hb dL_law_305) ?_
  refine bm_cc (s_callV hx hb hml hown hts hK (C := RX8) (TT := TX8) (N := 19) (ci := 7) rfl (by decide) (k_X8_clear l g) tw_699 tw_700 tw_701 tw_123 tw_698 ⟨by decide, by decide, by decide +kernel⟩ ⟨by decide, by decide⟩ dL_law_306) ?_
  refine bm_cc (s_iceq hx hb dL_law_309 (by decide)) ?_
  refine bm_cc (s_iconst hx hb dL_law_312 (by decide)) ?_
  refine bm_cc (s_lret hx hb hr hlk hg dL_law_313) ?_
  refine bm_cc (s_aload_n hx hb dL_law_314) ?_
  refine bm_cc (s_aload_n hx hb dL_law_315) ?_
  refine bm_cc (s_iload_n hx hb dL_law_316) ?_
  refine bm_cc (s_iconst hx hb dL_law_317 (by decide)) ?_
  refine bm_cc (s_iadd hx hb dL_law_318) ?_
  refine bm_cc (s_iaload hx hb hK dL_law_319) ?_
  refine bm_cc (s_aload_n hx hb dL_law_320) ?_
  refine bm_cc (s_iload_n hx hb dL_law_321) ?_
  refine bm_cc (s_iconst hx hb dL_law_322 (by decide)) ?_
  refine bm_cc (s_iadd hx hb dL_law_323) ?_
  refine bm_cc (s_iaload hx hb hK dL_law_324) ?_
  refine bm_cc (s_callV hx hb hml hown hts hK (C := RX7) (TT := TX7) (N := 6) (ci := 6) rfl (by decide) (k_X7_contestOf l g) tw_703 tw_704 tw_705 tw_106 tw_702 ⟨by decide, by decide, by decide +kernel⟩ ⟨by decide, by decide⟩ dL_law_325) ?_
  refine bm_cc (s_aload_n hx hb dL_law_328) ?_
  refine bm_cc (s_aload_n hx hb dL_law_329) ?_
  refine bm_cc (s_iload_n hx hb dL_law_330) ?_
  refine bm_cc (s_iconst hx hb dL_law_331 (by decide)) ?_
  refine bm_cc (s_iadd hx hb dL_law_332) ?_
  refine bm_cc (s_iaload hx hb hK dL_law_333) ?_
  refine bm_cc (s_aload_n hx hb dL_law_334) ?_
  refine bm_cc (s_iload_n hx hb dL_law_335) ?_
  refine bm_cc (s_iconst hx hb dL_law_336 (by decide)) ?_
  refine bm_cc (s_iadd hx hb dL_law_337) ?_
  refine bm_cc (s_iaload hx hb hK dL_law_338) ?_
  refine bm_cc (s_callV hx hb hml hown hts hK (C := RX8) (TT := TX8) (N := 19) (ci := 7) rfl (by decide) (k_X8_contestOf l g) tw_707 tw_708 tw_709 tw_123 tw_706 ⟨by decide, by decide, by decide +kernel⟩ ⟨by decide, by decide⟩ dL_law_339) ?_
  refine bm_cc (s_iceq hx hb dL_law_342 (by decide)) ?_
  refine bm_cc (s_iconst hx hb dL_law_345 (by decide)) ?_
  refine bm_cc (s_lret hx hb hr hlk hg dL_law_346) ?_
  refine bm_cc (s_aload_n hx hb dL_law_347) ?_
  refine bm_cc (s_aload_n hx hb dL_law_348) ?_
  refine bm_cc (s_iload_n hx hb dL_law_349) ?_
  refine bm_cc (s_iconst hx hb dL_law_350 (by decide)) ?_
  refine bm_cc (s_iadd hx hb dL_law_351) ?_
  refine bm_cc (s_iaload hx hb hK dL_law_352) ?_
  refine bm_cc (s_aload_n hx hb dL_law_353) ?_
  refine bm_cc (s_iload_n hx hb dL_law_354) ?_
  refine bm_cc (s_iconst hx hb dL_law_355 (by decide)) ?_
  refine bm_cc (s_iadd hx hb dL_law_356) ?_
  refine bm_cc (s_iaload hx hb hK dL_law_357) ?_
  refine bm_cc (s_aload_n hx hb dL_law_358) ?_
  refine bm_cc (s_iload_n hx hb dL_law_359) ?_
  refine bm_cc (s_iconst hx hb dL_law_360 (by decide)) ?_
  refine bm_cc (s_iadd hx hb dL_law_361) ?_
  refine bm_cc (s_iaload hx hb hK dL_law_362) ?_
  refine bm_cc (s_callV hx hb hml hown hts hK (C := RX7) (TT := TX7) (N := 6) (ci := 6) rfl (by decide) (k_X7_nameOf l g) tw_711 tw_712 tw_713 tw_106 tw_710 ⟨by decide, by decide, by decide +kernel⟩ ⟨by decide, by decide⟩ dL_law_363) ?_
  refine bm_cc (s_aload_n hx hb dL_law_366) ?_
  refine bm_cc (s_aload_n hx hb dL_law_367) ?_
  refine bm_cc (s_iload_n hx hb dL_law_368) ?_
  refine bm_cc (s_iconst hx hb dL_law_369 (by decide)) ?_
  refine bm_cc (s_iadd hx hb dL_law_370) ?_
  refine bm_cc (s_iaload hx hb hK dL_law_371) ?_
  refine bm_cc (s_aload_n hx hb dL_law_372) ?_
  refine bm_cc (s_iload_n hx hb dL_law_373) ?_
  refine bm_cc (s_iconst hx hb dL_law_374 (by decide)) ?_
  refine bm_cc (s_iadd hx hb dL_law_375) ?_
  refine bm_cc (s_iaload hx hb hK dL_law_376) ?_
  refine bm_cc (s_aload_n hx hb dL_law_377) ?_
  refine bm_cc (s_iload_n hx hb dL_law_378) ?_
  refine bm_cc (s_iconst hx hb dL_law_379 (by decide)) ?_
  refine bm_cc (s_iadd hx hb dL_law_380) ?_
  refine bm_cc (s_iaload hx hb hK dL_law_381) ?_
  refine bm_cc (s_callV hx hb hml hown hts hK (C := RX8) (TT := TX8) (N := 19) (ci := 7) rfl (by decide) (k_X8_nameOf l g) tw_715 tw_716 tw_717 tw_123 tw_714 ⟨by decide, by decide, by decide +kernel⟩ ⟨by decide, by decide⟩ dL_law_382) ?_
  refine bm_cc (s_iceq hx hb dL_law_385 (by decide)) ?_
  refine bm_cc (s_iconst hx hb dL_law_388 (by decide)) ?_
  refine bm_cc (s_lret hx hb hr hlk hg dL_law_389) ?_
  refine bm_cc (s_aload_n hx hb dL_law_390) ?_
  refine bm_cc (s_aload_n hx hb dL_law_391) ?_
  refine bm_cc (s_iload_n hx hb dL_law_392) ?_
  refine bm_cc (s_iconst hx hb dL_law_393 (by decide)) ?_
  refine bm_cc (s_iadd hx hb dL_law_394) ?_
  refine bm_cc (s_iaload hx hb hK dL_law_395) ?_
  refine bm_cc (s_callV hx hb hml hown hts hK (C := RX7) (TT := TX7) (N := 6) (ci := 6) rfl (by decide) (k_X7_count l g) tw_719 tw_720 tw_721 tw_106 tw_718 ⟨by decide, by decide, by decide +kernel⟩ ⟨by decide, by decide⟩ dL_law_396) ?_
  refine bm_cc (s_aload_n hx hb dL_law_399) ?_
  refine bm_cc (s_aload_n hx hb dL_law_400) ?_
  refine bm_cc (s_iload_n hx hb dL_law_401) ?_
  refine bm_cc (s_iconst hx hb dL_law_402 (by decide)) ?_
  refine bm_cc (s_iadd hx hb dL_law_403) ?_
  refine bm_cc (s_iaload hx hb hK dL_law_404) ?_
  refine bm_cc (s_callV hx hb hml hown hts hK (C := RX8) (TT := TX8) (N := 19) (ci := 7) rfl (by decide) (k_X8_count l g) tw_723 tw_724 tw_725 tw_123 tw_722 ⟨by decide, by decide, by decide +kernel⟩ ⟨by decide, by decide⟩ dL_law_405) ?_
  refine bm_cc (s_iceq hx hb dL_law_408 (by decide)) ?_
  refine bm_cc (s_iconst hx hb dL_law_411 (by decide)) ?_
  refine bm_cc (s_lret hx hb hr hlk hg dL_law_412) ?_
  refine bm_cc (s_aload_n hx hb dL_law_413) ?_
  refine bm_cc (s_aload_n hx hb dL_law_414) ?_
  refine bm_cc (s_iload_n hx hb dL_law_415) ?_
  refine bm_cc (s_iconst hx hb dL_law_416 (by decide)) ?_
  refine bm_cc (s_iadd hx hb dL_law_417) ?_
  refine bm_cc (s_iaload hx hb hK dL_law_418) ?_
  refine bm_cc (s_callV hx hb hml hown hts hK (C := RX7) (TT := TX7) (N := 6) (ci := 6) rfl (by decide) (k_X7_papersOf l g) tw_727 tw_728 tw_729 tw_106 tw_726 ⟨by decide, by decide, by decide +kernel⟩ ⟨by decide, by decide⟩ dL_law_419) ?_
  refine bm_cc (s_aload_n hx hb dL_law_422) ?_
  refine bm_cc (s_aload_n hx hb dL_law_423) ?_
  refine bm_cc (s_iload_n hx hb dL_law_424) ?_
  refine bm_cc (s_iconst hx hb dL_law_425 (by decide)) ?_
  refine bm_cc (s_iadd hx hb dL_law_426) ?_
  refine bm_cc (s_iaload hx hb hK dL_law_427) ?_
  refine bm_cc (s_callV hx hb hml hown hts hK (C := RX8) (TT := TX8) (N := 19) (ci := 7) rfl (by decide) (k_X8_papersOf l g) tw_731 tw_732 tw_733 tw_123 tw_730 ⟨by decide, by decide, by decide +kernel⟩ ⟨by decide, by decide⟩ dL_law_428) ?_
  refine bm_cc (s_iceq hx hb dL_law_431 (by decide)) ?_
  refine bm_cc (s_iconst hx hb dL_law_434 (by decide)) ?_
  refine bm_cc (s_lret hx hb hr hlk hg dL_law_435) ?_
  refine bm_cc (s_aload_n hx hb dL_law_436) ?_
  refine bm_cc (s_aload_n hx hb dL_law_437) ?_
  refine bm_cc (s_iload_n hx hb dL_law_438) ?_
  refine bm_cc (s_iconst hx hb dL_law_439 (by decide)) ?_
  refine bm_cc (s_iadd hx hb dL_law_440) ?_
  refine bm_cc (s_iaload hx hb hK dL_law_441) ?_
  refine bm_cc (s_aload_n hx hb dL_law_442) ?_
  refine bm_cc (s_iload_n hx hb dL_law_443) ?_
  refine bm_cc (s_iconst hx hb dL_law_444 (by decide)) ?_
  refine bm_cc (s_iadd hx hb dL_law_445) ?_
  refine bm_cc (s_iaload hx hb hK dL_law_446) ?_
  refine bm_cc (s_aload_n hx hb dL_law_447) ?_
  refine bm_cc (s_iload_n hx hb dL_law_448) ?_
  refine bm_cc (s_iconst hx hb dL_law_449 (by decide)) ?_
  refine bm_cc (s_iadd hx hb dL_law_450) ?_
  refine bm_cc (s_iaload hx hb hK dL_law_451) ?_
  refine bm_cc (s_callV hx hb hml hown hts hK (C := RX7) (TT := TX7) (N := 6) (ci := 6) rfl (by decide) (k_X7_stands l g) tw_735 tw_736 tw_737 tw_106 tw_734 ⟨by decide, by decide, by decide +kernel⟩ ⟨by decide, by decide⟩ dL_law_452) ?_
  refine bm_cc (s_aload_n hx hb dL_law_455) ?_
  refine bm_cc (s_aload_n hx hb dL_law_456) ?_
  refine bm_cc (s_iload_n hx hb dL_law_457) ?_
  refine bm_cc (s_iconst hx hb dL_law_458 (by decide)) ?_
  refine bm_cc (s_iadd hx hb dL_law_459) ?_
  refine bm_cc (s_iaload hx hb hK dL_law_460) ?_
  refine bm_cc (s_aload_n hx hb dL_law_461) ?_
  refine bm_cc (s_iload_n hx hb dL_law_462) ?_
  refine bm_cc (s_iconst hx hb dL_law_463 (by decide)) ?_
  refine bm_cc (s_iadd hx hb dL_law_464) ?_
  refine bm_cc (s_iaload hx hb hK dL_law_465) ?_
  refine bm_cc (s_aload_n hx hb dL_law_466) ?_
  refine bm_cc (s_iload_n hx hb dL_law_467) ?_
  refine bm_cc (s_iconst hx hb dL_law_468 (by decide)) ?_
  refine bm_cc (s_iadd hx hb dL_law_469) ?_
  refine bm_cc (s_iaload hx hb hK dL_law_470) ?_
  refine bm_cc (s_callV hx hb hml hown hts hK (C := RX8) (TT := TX8) (N := 19) (ci := 7) rfl (by decide) (k_X8_stands l g) tw_739 tw_740 tw_741 tw_123 tw_738 ⟨by decide, by decide, by decide +kernel⟩ ⟨by decide, by decide⟩ dL_law_471) ?_
  refine bm_cc (s_iceq hx hb dL_law_474 (by decide)) ?_
  refine bm_cc (s_iconst hx hb dL_law_477 (by decide)) ?_
  refine bm_cc (s_lret hx hb hr hlk hg dL_law_478) ?_
  refine bm_cc (s_aload_n hx hb dL_law_479) ?_
  refine bm_cc (s_aload_n hx hb dL_law_480) ?_
  refine bm_cc (s_iload_n hx hb dL_law_481) ?_
  refine bm_cc (s_iconst hx hb dL_law_482 (by decide)) ?_
  refine bm_cc (s_iadd hx hb dL_law_483) ?_
  refine bm_cc (s_iaload hx hb hK dL_law_484) ?_
  refine bm_cc (s_aload_n hx hb dL_law_485) ?_
  refine bm_cc (s_iload_n hx hb dL_law_486) ?_
  refine bm_cc (s_iconst hx hb dL_law_487 (by decide)) ?_
  refine bm_cc (s_iadd hx hb dL_law_488) ?_
  refine bm_cc (s_iaload hx hb hK dL_law_489) ?_
  refine bm_cc (s_aload_n hx hb dL_law_490) ?_
  refine bm_cc (s_iload_n hx hb dL_law_491) ?_
  refine bm_cc (s_iconst hx hb dL_law_492 (by decide)) ?_
  refine bm_cc (s_iadd hx hb dL_law_493) ?_
  refine bm_cc (s_iaload hx hb hK dL_law_494) ?_
  refine bm_cc (s_aload_n hx hb dL_law_495) ?_
  refine bm_cc (s_iload_n hx hb dL_law_496) ?_
  refine bm_cc (s_iconst hx hb dL_law_497 (by decide)) ?_
  refine bm_cc (s_iadd hx hb dL_law_498) ?_
  refine bm_cc (s_iaload hx hb hK dL_law_499) ?_
  refine bm_cc (s_callV hx hb hml hown hts hK (C := RX7) (TT := TX7) (N := 6) (ci := 6) rfl (by decide) (k_X7_lies l g) tw_743 tw_744 tw_745 tw_106 tw_742 ⟨by decide, by decide, by decide +kernel⟩ ⟨by decide, by decide⟩ dL_law_500) ?_
  refine bm_cc (s_aload_n hx hb dL_law_503) ?_
  refine bm_cc (s_aload_n hx hb dL_law_504) ?_
  refine bm_cc (s_iload_n hx hb dL_law_505) ?_
  refine bm_cc (s_iconst hx hb dL_law_506 (by decide)) ?_
  refine bm_cc (s_iadd hx hb dL_law_507) ?_
  refine bm_cc (s_iaload hx hb hK dL_law_508) ?_
  refine bm_cc (s_aload_n hx hb dL_law_509) ?_
  refine bm_cc (s_iload_n hx hb dL_law_510) ?_
  refine bm_cc (s_iconst hx hb dL_law_511 (by decide)) ?_
  refine bm_cc (s_iadd hx hb dL_law_512) ?_
  refine bm_cc (s_iaload hx hb hK dL_law_513) ?_
  refine bm_cc (s_aload_n hx hb dL_law_514) ?_
  refine bm_cc (s_iload_n hx hb dL_law_515) ?_
  refine bm_cc (s_iconst hx hb dL_law_516 (by decide)) ?_
  refine bm_cc (s_iadd hx hb dL_law_517) ?_
  refine bm_cc (s_iaload hx hb hK dL_law_518) ?_
  refine bm_cc (s_aload_n hx hb dL_law_519) ?_
  refine bm_cc (s_iload_n hx hb dL_law_520) ?_
  refine bm_cc (s_iconst hx hb dL_law_521 (by decide)) ?_
  refine bm_cc (s_iadd hx hb dL_law_522) ?_
  refine bm_cc (s_iaload hx hb hK dL_law_523) ?_
  refine bm_cc (s_callV hx hb hml hown hts hK (C := RX8) (TT := TX8) (N := 19) (ci := 7) rfl (by decide) (k_X8_lies l g) tw_747 tw_748 tw_749 tw_123 tw_746 ⟨by decide, by decide, by decide +kernel⟩ ⟨by decide, by decide⟩ dL_law_524) ?_
  refine bm_cc (s_iceq hx hb dL_law_527 (by decide)) ?_
  refine bm_cc (s_iconst hx hb dL_law_530 (by decide)) ?_
  refine bm_cc (s_lret hx hb hr hlk hg dL_law_531) ?_
  refine bm_cc (s_aload_n hx hb dL_law_532) ?_
  refine bm_cc (s_aload_n hx hb dL_law_533) ?_
  refine bm_cc (s_iload_n hx hb dL_law_534) ?_
  refine bm_cc (s_iconst hx hb dL_law_535 (by decide)) ?_
  refine bm_cc (s_iadd hx hb dL_law_536) ?_
  refine bm_cc (s_iaload hx hb hK dL_law_537) ?_
  refine bm_cc (s_aload_n hx hb dL_law_538) ?_
  refine bm_cc (s_iload_n hx hb dL_law_539) ?_
  refine bm_cc (s_iconst hx hb dL_law_540 (by decide)) ?_
  refine bm_cc (s_iadd hx hb dL_law_541) ?_
  refine bm_cc (s_iaload hx hb hK dL_law_542) ?_
  refine bm_cc (s_aload_n hx hb dL_law_543) ?_
  refine bm_cc (s_iload_n hx hb dL_law_544) ?_
  refine bm_cc (s_iconst hx hb dL_law_545 (by decide)) ?_
  refine bm_cc (s_iadd hx hb dL_law_546) ?_
  refine bm_cc (s_iaload hx hb hK dL_law_547) ?_
  refine bm_cc (s_aload_n hx hb dL_law_548) ?_
  refine bm_cc (s_iload_n hx hb dL_law_549) ?_
  refine bm_cc (s_iconst hx hb dL_law_550 (by decide)) ?_
  refine bm_cc (s_iadd hx hb dL_law_551) ?_
  refine bm_cc (s_iaload hx hb hK dL_law_552) ?_
  refine bm_cc (s_aload_n hx hb dL_law_553) ?_
  refine bm_cc (s_iload_n hx hb dL_law_554) ?_
  refine bm_cc (s_iconst hx hb dL_law_555 (by decide)) ?_
  refine bm_cc (s_iadd hx hb dL_law_556) ?_
  refine bm_cc (s_iaload hx hb hK dL_law_557) ?_
  refine bm_cc (s_callV hx hb hml hown hts hK (C := RX7) (TT := TX7) (N := 6) (ci := 6) rfl (by decide) (k_X7_markAt l g) tw_751 tw_752 tw_753 tw_106 tw_750 ⟨by decide, by decide, by decide +kernel⟩ ⟨by decide, by decide⟩ dL_law_558) ?_
  refine bm_cc (s_aload_n hx hb dL_law_561) ?_
  refine bm_cc (s_aload_n hx hb dL_law_562) ?_
  refine bm_cc (s_iload_n hx hb dL_law_563) ?_
  refine bm_cc (s_iconst hx hb dL_law_564 (by decide)) ?_
  refine bm_cc (s_iadd hx hb dL_law_565) ?_
  refine bm_cc (s_iaload hx hb hK dL_law_566) ?_
  refine bm_cc (s_aload_n hx hb dL_law_567) ?_
  refine bm_cc (s_iload_n hx hb dL_law_568) ?_
  refine bm_cc (s_iconst hx hb dL_law_569 (by decide)) ?_
  refine bm_cc (s_iadd hx hb dL_law_570) ?_
  refine bm_cc (s_iaload hx hb hK dL_law_571) ?_
  refine bm_cc (s_aload_n hx hb dL_law_572) ?_
  refine bm_cc (s_iload_n hx hb dL_law_573) ?_
  refine bm_cc (s_iconst hx hb dL_law_574 (by decide)) ?_
  refine bm_cc (s_iadd hx hb dL_law_575) ?_
  refine bm_cc (s_iaload hx hb hK dL_law_576) ?_
  refine bm_cc (s_aload_n hx hb dL_law_577) ?_
  refine bm_cc (s_iload_n hx hb dL_law_578) ?_
  refine bm_cc (s_iconst hx hb dL_law_579 (by decide)) ?_
  refine bm_cc (s_iadd hx hb dL_law_580) ?_
  refine bm_cc (s_iaload hx hb hK dL_law_581) ?_
  refine bm_cc (s_aload_n hx hb dL_law_582) ?_
  refine bm_cc (s_iload_n hx hb dL_law_583) ?_
  refine bm_cc (s_iconst hx hb dL_law_584 (by decide)) ?_
  refine bm_cc (s_iadd hx hb dL_law_585) ?_
  refine bm_cc (s_iaload hx hb hK dL_law_586) ?_
  refine bm_cc (s_callV hx hb hml hown hts hK (C := RX8) (TT := TX8) (N := 19) (ci := 7) rfl (by decide) (k_X8_markAt l g) tw_755 tw_756 tw_757 tw_123 tw_754 ⟨by decide, by decide, by decide +kernel⟩ ⟨by decide, by decide⟩ dL_law_587) ?_
  refine bm_cc (s_iceq hx hb dL_law_590 (by decide)) ?_
  refine bm_cc (s_iconst hx hb dL_law_593 (by decide)) ?_
  refine bm_cc (s_lret hx hb hr hlk hg dL_law_594) ?_
  refine bm_cc (s_aload_n hx hb dL_law_595) ?_
  refine bm_cc (s_aload_n hx hb dL_law_596) ?_
  refine bm_cc (s_iload_n hx hb dL_law_597) ?_
  refine bm_cc (s_iconst hx hb dL_law_598 (by decide)) ?_
  refine bm_cc (s_iadd hx hb dL_law_599) ?_
  refine bm_cc (s_iaload hx hb hK dL_law_600) ?_
  refine bm_cc (s_aload_n hx hb dL_law_601) ?_
  refine bm_cc (s_iload_n hx hb dL_law_602) ?_
  refine bm_cc (s_iconst hx hb dL_law_603 (by decide)) ?_
  refine bm_cc (s_iadd hx hb dL_law_604) ?_
  refine bm_cc (s_iaload hx hb hK dL_law_605) ?_
  refine bm_cc (s_callV hx hb hml hown hts hK (C := RX7) (TT := TX7) (N := 6) (ci := 6) rfl (by decide) (k_X7_paper l g) tw_759 tw_760 tw_761 tw_106 tw_758 ⟨by decide, by decide, by decide +kernel⟩ ⟨by decide, by decide⟩ dL_law_606) ?_
  refine bm_cc (s_aload_n hx hb dL_law_609) ?_
  refine bm_cc (s_aload_n hx hb dL_law_610) ?_
  refine bm_cc (s_iload_n hx hb dL_law_611) ?_
  refine bm_cc (s_iconst hx hb dL_law_612 (by decide)) ?_
  refine bm_cc (s_iadd hx hb dL_law_613) ?_
  refine bm_cc (s_iaload hx hb hK dL_law_614) ?_
  refine bm_cc (s_aload_n hx hb dL_law_615) ?_
  refine bm_cc (s_iload_n hx hb dL_law_616) ?_
  refine bm_cc (s_iconst hx hb dL_law_617 (by decide)) ?_
  refine bm_cc (s_iadd hx hb dL_law_618) ?_
  refine bm_cc (s_iaload hx hb hK dL_law_619) ?_
  refine bm_cc (s_callV hx hb hml hown hts hK (C := RX8) (TT := TX8) (N := 19) (ci := 7) rfl (by decide) (k_X8_paper l g) tw_763 tw_764 tw_765 tw_123 tw_762 ⟨by decide, by decide, by decide +kernel⟩ ⟨by decide, by decide⟩ dL_law_620) ?_
  refine bm_cc (s_iceq hx hb dL_law_623 (by decide)) ?_
  refine bm_cc (s_iconst hx hb dL_law_626 (by decide)) ?_
  refine bm_cc (s_lret hx hb hr hlk hg dL_law_627) ?_
  refine bm_cc (s_aload_n hx hb dL_law_628) ?_
  refine bm_cc (s_aload_n hx hb dL_law_629) ?_
  refine bm_cc (s_iload_n hx hb dL_law_630) ?_
  refine bm_cc (s_iconst hx hb dL_law_631 (by decide)) ?_
  refine bm_cc (s_iadd hx hb dL_law_632) ?_
  refine bm_cc (s_iaload hx hb hK dL_law_633) ?_
  refine bm_cc (s_callV hx hb hml hown hts hK (C := RX7) (TT := TX7) (N := 6) (ci := 6) rfl (by decide) (k_X7_spread l g) tw_767 tw_768 tw_769 tw_106 tw_766 ⟨by decide, by decide, by decide +kernel⟩ ⟨by decide, by decide⟩ dL_law_634) ?_
  refine bm_cc (s_aload_n hx hb dL_law_637) ?_
  refine bm_cc (s_aload_n hx hb dL_law_638) ?_
  refine bm_cc (s_iload_n hx hb dL_law_639) ?_
  refine bm_cc (s_iconst hx hb dL_law_640 (by decide)) ?_
  refine bm_cc (s_iadd hx hb dL_law_641) ?_
  refine bm_cc (s_iaload hx hb hK dL_law_642) ?_
  refine bm_cc (s_callV hx hb hml hown hts hK (C := RX8) (TT := TX8) (N := 19) (ci := 7) rfl (by decide) (k_X8_spread l g) tw_771 tw_772 tw_773 tw_123 tw_770 ⟨by decide, by decide, by decide +kernel⟩ ⟨by decide, by decide⟩ dL_law_643) ?_
  refine bm_cc (s_iceq hx hb dL_law_646 (by decide)) ?_
  refine bm_cc (s_iconst hx hb dL_law_649 (by decide)) ?_
  refine bm_cc (s_lret hx hb hr hlk hg dL_law_650) ?_
  refine bm_cc (s_aload_n hx hb dL_law_651) ?_
  refine bm_cc (s_callV hx hb hml hown hts hK (C := RX7) (TT := TX7) (N := 6) (ci := 6) rfl (by decide) (k_X7_evenVersions l g) tw_775 tw_776 tw_777 tw_106 tw_774 ⟨by decide, by decide, by decide +kernel⟩ ⟨by decide, by decide⟩ dL_law_652) ?_
  refine bm_cc (s_aload_n hx hb dL_law_655) ?_
  refine bm_cc (s_callV hx hb hml hown hts hK (C := RX8) (TT := TX8) (N := 19) (ci := 7) rfl (by decide) (k_X8_evenVersions l g) tw_779 tw_780 tw_781 tw_123 tw_778 ⟨by decide, by decide, by decide +kernel⟩ ⟨by decide, by decide⟩ dL_law_656) ?_
  refine bm_cc (s_iceq hx hb dL_law_659 (by decide)) ?_
  refine bm_cc (s_iconst hx hb dL_law_662 (by decide)) ?_
  refine bm_cc (s_lret hx hb hr hlk hg dL_law_663) ?_
  refine bm_cc (s_aload_n hx hb dL_law_664) ?_
  refine bm_cc (s_aload_n hx hb dL_law_665) ?_
  refine bm_cc (s_iload_n hx hb dL_law_666) ?_
  refine bm_cc (s_iconst hx hb dL_law_667 (by decide)) ?_
  refine bm_cc (s_iadd hx hb dL_law_668) ?_
  refine bm_cc (s_iaload hx hb hK dL_law_669) ?_
  refine bm_cc (s_callV hx hb hml hown hts hK (C := RX7) (TT := TX7) (N := 6) (ci := 6) rfl (by decide) (k_X7_bestWidth l g) tw_783 tw_784 tw_785 tw_106 tw_782 ⟨by decide, by decide, by decide +kernel⟩ ⟨by decide, by decide⟩ dL_law_670) ?_
  refine bm_cc (s_aload_n hx hb dL_law_673) ?_
  refine bm_cc (s_aload_n hx hb dL_law_674) ?_
  refine bm_cc (s_iload_n hx hb dL_law_675) ?_
  refine bm_cc (s_iconst hx hb dL_law_676 (by decide)) ?_
  refine bm_cc (s_iadd hx hb dL_law_677) ?_
  refine bm_cc (s_iaload hx hb hK dL_law_678) ?_
  refine bm_cc (s_callV hx hb hml hown hts hK (C := RX8) (TT := TX8) (N := 19) (ci := 7) rfl (by decide) (k_X8_bestWidth l g) tw_787 tw_788 tw_789 tw_123 tw_786 ⟨by decide, by decide, by decide +kernel⟩ ⟨by decide, by decide⟩ dL_law_679) ?_
  refine bm_cc (s_iceq hx hb dL_law_682 (by decide)) ?_
  refine bm_cc (s_iconst hx hb dL_law_685 (by decide)) ?_
  refine bm_cc (s_lret hx hb hr hlk hg dL_law_686) ?_
  refine bm_cc (s_aload_n hx hb dL_law_687) ?_
  refine bm_cc (s_callV hx hb hml hown hts hK (C := RX7) (TT := TX7) (N := 6) (ci := 6) rfl (by decide) (k_X7_undo l g) tw_791 tw_792 tw_793 tw_106 tw_790 ⟨by decide, by decide, by decide +kernel⟩ ⟨by decide, by decide⟩ dL_law_688) ?_
  refine bm_cc (s_aload_n hx hb dL_law_691) ?_
  refine bm_cc (s_callV hx hb hml hown hts hK (C := RX8) (TT := TX8) (N := 19) (ci := 7) rfl (by decide) (k_X8_undo l g) tw_795 tw_796 tw_797 tw_123 tw_794 ⟨by decide, by decide, by decide +kernel⟩ ⟨by decide, by decide⟩ dL_law_692) ?_
  refine bm_cc (s_iceq hx hb dL_law_695 (by decide)) ?_
  refine bm_cc (s_iconst hx hb dL_law_698 (by decide)) ?_
  refine bm_cc (s_lret hx hb hr hlk hg dL_law_699) ?_
  refine bm_cc (s_aload_n hx hb dL_law_700) ?_
  refine bm_cc (s_aload_n hx hb dL_law_701) ?_
  refine bm_cc (s_iload_n hx hb dL_law_702) ?_
  refine bm_cc (s_iconst hx hb dL_law_703 (by decide)) ?_
  refine bm_cc (s_iadd hx hb dL_law_704) ?_
  refine bm_cc (s_iaload hx hb hK dL_law_705) ?_
  refine bm_cc (s_callV hx hb hml hown hts hK (C := RX7) (TT := TX7) (N := 6) (ci := 6) rfl (by decide) (k_X7_type l g) tw_799 tw_800 tw_801 tw_106 tw_798 ⟨by decide, by decide, by decide +kernel⟩ ⟨by decide, by decide⟩ dL_law_706) ?_
  refine bm_cc (s_aload_n hx hb dL_law_709) ?_
  refine bm_cc (s_aload_n hx hb dL_law_710) ?_
  refine bm_cc (s_iload_n hx hb dL_law_711) ?_
  refine bm_cc (s_iconst hx hb dL_law_712 (by decide)) ?_
  refine bm_cc (s_iadd hx hb dL_law_713) ?_
  refine bm_cc (s_iaload hx hb hK dL_law_714) ?_
  refine bm_cc (s_callV hx hb hml hown hts hK (C := RX8) (TT := TX8) (N := 19) (ci := 7) rfl (by decide) (k_X8_type l g) tw_803 tw_804 tw_805 tw_123 tw_802 ⟨by decide, by decide, by decide +kernel⟩ ⟨by decide, by decide⟩ dL_law_715) ?_
  refine bm_cc (s_iceq hx hb dL_law_718 (by decide)) ?_
  refine bm_cc (s_iconst hx hb dL_law_721 (by decide)) ?_
  refine bm_cc (s_lret hx hb hr hlk hg dL_law_722) ?_
  refine bm_cc (s_aload_n hx hb dL_law_723) ?_
  refine bm_cc (s_callV hx hb hml hown hts hK (C := RX7) (TT := TX7) (N := 6) (ci := 6) rfl (by decide) (k_X7_clearText l g) tw_807 tw_808 tw_809 tw_106 tw_806 ⟨by decide, by decide, by decide +kernel⟩ ⟨by decide, by decide⟩ dL_law_724) ?_
  refine bm_cc (s_aload_n hx hb dL_law_727) ?_
  refine bm_cc (s_callV hx hb hml hown hts hK (C := RX8) (TT := TX8) (N := 19) (ci := 7) rfl (by decide) (k_X8_clearText l g) tw_811 tw_812 tw_813 tw_123 tw_810 ⟨by decide, by decide, by decide +kernel⟩ ⟨by decide, by decide⟩ dL_law_728) ?_
  refine bm_cc (s_iceq hx hb dL_law_731 (by decide)) ?_
  refine bm_cc (s_iconst hx hb dL_law_734 (by decide)) ?_
  refine bm_cc (s_lret hx hb hr hlk hg dL_law_735) ?_
  refine bm_cc (s_aload_n hx hb dL_law_736) ?_
  refine bm_cc (s_aload_n hx hb dL_law_737) ?_
  refine bm_cc (s_iload_n hx hb dL_law_738) ?_
  refine bm_cc (s_iconst hx hb dL_law_739 (by decide)) ?_
  refine bm_cc (s_iadd hx hb dL_law_740) ?_
  refine bm_cc (s_iaload hx hb hK dL_law_741) ?_
  refine bm_cc (s_callV hx hb hml hown hts hK (C := RX7) (TT := TX7) (N := 6) (ci := 6) rfl (by decide) (k_X7_fault l g) tw_815 tw_816 tw_817 tw_106 tw_814 ⟨by decide, by decide, by decide +kernel⟩ ⟨by decide, by decide⟩ dL_law_742) ?_
  refine bm_cc (s_aload_n hx hb dL_law_745) ?_
  refine bm_cc (s_aload_n hx hb dL_law_746) ?_
  refine bm_cc (s_iload_n hx hb dL_law_747) ?_
  refine bm_cc (s_iconst hx hb dL_law_748 (by decide)) ?_
  refine bm_cc (s_iadd hx hb dL_law_749) ?_
  refine bm_cc (s_iaload hx hb hK dL_law_750) ?_
  refine bm_cc (s_callV hx hb hml hown hts hK (C := RX8) (TT := TX8) (N := 19) (ci := 7) rfl (by decide) (k_X8_fault l g) tw_819 tw_820 tw_821 tw_123 tw_818 ⟨by decide, by decide, by decide +kernel⟩ ⟨by decide, by decide⟩ dL_law_751) ?_
  refine bm_cc (s_iceq hx hb dL_law_754 (by decide)) ?_
  refine bm_cc (s_iconst hx hb dL_law_757 (by decide)) ?_
  refine bm_cc (s_lret hx hb hr hlk hg dL_law_758) ?_
  refine bm_cc (s_aload_n hx hb dL_law_759) ?_
  refine bm_cc (s_callV hx hb hml hown hts hK (C := RX7) (TT := TX7) (N := 6) (ci := 6) rfl (by decide) (k_X7_cast l g) tw_823 tw_824 tw_825 tw_106 tw_822 ⟨by decide, by decide, by decide +kernel⟩ ⟨by decide, by decide⟩ dL_law_760) ?_
  refine bm_cc (s_aload_n hx hb dL_law_763) ?_
  refine bm_cc (s_callV hx hb hml hown hts hK (C := RX8) (TT := TX8) (N := 19) (ci := 7) rfl (by decide) (k_X8_cast l g) tw_827 tw_828 tw_829 tw_123 tw_826 ⟨by decide, by decide, by decide +kernel⟩ ⟨by decide, by decide⟩ dL_law_764) ?_
  refine bm_cc (s_iceq hx hb dL_law_767 (by decide)) ?_
  refine bm_cc (s_iconst hx hb dL_law_770 (by decide)) ?_
  refine bm_cc (s_lret hx hb hr hlk hg dL_law_771) ?_
  refine bm_cc (s_iinc hx hb dL_law_772 (by decide)) ?_
  refine bm_cc (s_goto hx hb dL_law_775 (by decide)) ?_
  refine bm_cc (s_iconst hx hb dL_law_778 (by decide)) ?_
  refine bm_cc (s_lret hx hb hr hlk hg dL_law_779) ?_
  exact bm_c9
