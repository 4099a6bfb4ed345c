/-! ===== equations: LiarsCockLaw (printed by wip/whole/gen17.py) ===== -/
noncomputable def La_sec (d : Nat) (a0 : Nat) (x1 x2 x3 x4 x5 : Int32) (a6 : Nat) (m : eM) : oX := X d 308 0 [.ref a0, .int x1, .int x2, .int x3, .int x4, .int x5, .ref a6, eU] [] m
theorem La_law_672_e (d : Nat) (a0 : Nat) (a1 : Nat) (a2 : Nat) (a3 : Nat) (x4 : Int32) (w5 : Value) (w6 : Value) (m : eM) (h_a1 : kd a1 = 9) (h_a2 : kd a2 = 10) : La_law_672 (d + 1) a0 a1 a2 a3 x4 w5 w6 m = ga m a0 20 (x4 + (1 : Int32)) (bI (LC_worlds d a1 (gI m a0 (x4 + (1 : Int32)).toNatClampNeg) m) fun v2 m1 => ga m1 a0 20 (x4 + (1 : Int32)) (bI (Mo_worlds d a2 (gI m1 a0 (x4 + (1 : Int32)).toNatClampNeg) m1) fun v4 m3 => if v2 = v4 then (La_law_1818 (d + 1) a0 a1 a2 a3 x4 w5 w6 m3) else (yI (0 : Int32) m3))) := by
  unfold La_law_672
  refine (x_aload1 D309_672 rfl).trans ?_
  refine (x_aload1 D309_673 rfl).trans ?_
  refine (x_iload2 D309_674 rfl).trans ?_
  refine (x_iconst D309_676 (k := 1) (by decide)).trans ?_
  refine (x_iadd D309_677).trans ?_
  refine (x_iaload D309_678).trans (ga_c ?_)
  refine (x_cI D309_679 M118 (fun z => by cases z) (I118 _ _) rfl rfl (ok_i M118 (I118 _ _) rfl rfl h_a1)).trans (bI_c fun v2 m1 => ?_)
  refine (x_aload1 D309_682 rfl).trans ?_
  refine (x_aload1 D309_683 rfl).trans ?_
  refine (x_iload2 D309_684 rfl).trans ?_
  refine (x_iconst D309_686 (k := 1) (by decide)).trans ?_
  refine (x_iadd D309_687).trans ?_
  refine (x_iaload D309_688).trans (ga_c ?_)
  refine (x_cI D309_689 M258 (fun z => by cases z) (I258 _ _) rfl rfl (ok_i M258 (I258 _ _) rfl rfl h_a2)).trans (bI_c fun v4 m3 => ?_)
  refine (x_ceq D309_692).trans (i_c ?_ ?_)
  · rfl
  · refine (x_iconst D309_695 (k := 0) (by decide)).trans ?_
    exact (x_bret D309_696 M309.2.2.1).trans yB0
theorem La_law_697_e (d : Nat) (a0 : Nat) (a1 : Nat) (a2 : Nat) (a3 : Nat) (x4 : Int32) (w5 : Value) (w6 : Value) (m : eM) (h_a1 : kd a1 = 9) (h_a2 : kd a2 = 10) : La_law_697 (d + 1) a0 a1 a2 a3 x4 w5 w6 m = ga m a0 20 (x4 + (1 : Int32)) (bI (LC_sureFact d a1 (gI m a0 (x4 + (1 : Int32)).toNatClampNeg) m) fun v2 m1 => ga m1 a0 20 (x4 + (1 : Int32)) (bI (Mo_sureFact d a2 (gI m1 a0 (x4 + (1 : Int32)).toNatClampNeg) m1) fun v4 m3 => if v2 = v4 then (La_law_1818 (d + 1) a0 a1 a2 a3 x4 w5 w6 m3) else (yI (0 : Int32) m3))) := by
  unfold La_law_697
  refine (x_aload1 D309_697 rfl).trans ?_
  refine (x_aload1 D309_698 rfl).trans ?_
  refine (x_iload2 D309_699 rfl).trans ?_
  refine (x_iconst D309_701 (k := 1) (by decide)).trans ?_
  refine (x_iadd D309_702).trans ?_
  refine (x_iaload D309_703).trans (ga_c ?_)
  refine (x_cI D309_704 M121 (fun z => by cases z) (I121 _ _) rfl rfl (ok_i M121 (I121 _ _) rfl rfl h_a1)).trans (bI_c fun v2 m1 => ?_)
  refine (x_aload1 D309_707 rfl).trans ?_
  refine (x_aload1 D309_708 rfl).trans ?_
  refine (x_iload2 D309_709 rfl).trans ?_
  refine (x_iconst D309_711 (k := 1) (by decide)).trans ?_
  refine (x_iadd D309_712).trans ?_
  refine (x_iaload D309_713).trans (ga_c ?_)
  refine (x_cI D309_714 M262 (fun z => by cases z) (I262 _ _) rfl rfl (ok_i M262 (I262 _ _) rfl rfl h_a2)).trans (bI_c fun v4 m3 => ?_)
  refine (x_ceq D309_717).trans (i_c ?_ ?_)
  · rfl
  · refine (x_iconst D309_720 (k := 0) (by decide)).trans ?_
    exact (x_bret D309_721 M309.2.2.1).trans yB0
theorem La_law_722_e (d : Nat) (a0 : Nat) (a1 : Nat) (a2 : Nat) (a3 : Nat) (x4 : Int32) (w5 : Value) (w6 : Value) (m : eM) (h_a1 : kd a1 = 9) (h_a2 : kd a2 = 10) : La_law_722 (d + 1) a0 a1 a2 a3 x4 w5 w6 m = ga m a0 20 (x4 + (1 : Int32)) (bI (LC_sure d a1 (gI m a0 (x4 + (1 : Int32)).toNatClampNeg) m) fun v2 m1 => ga m1 a0 20 (x4 + (1 : Int32)) (bI (Mo_sure d a2 (gI m1 a0 (x4 + (1 : Int32)).toNatClampNeg) m1) fun v4 m3 => if v2 = v4 then (La_law_1818 (d + 1) a0 a1 a2 a3 x4 w5 w6 m3) else (yI (0 : Int32) m3))) := by
  unfold La_law_722
  refine (x_aload1 D309_722 rfl).trans ?_
  refine (x_aload1 D309_723 rfl).trans ?_
  refine (x_iload2 D309_724 rfl).trans ?_
  refine (x_iconst D309_726 (k := 1) (by decide)).trans ?_
  refine (x_iadd D309_727).trans ?_
  refine (x_iaload D309_728).trans (ga_c ?_)
  refine (x_cI D309_729 M123 (fun z => by cases z) (I123 _ _) rfl rfl (ok_i M123 (I123 _ _) rfl rfl h_a1)).trans (bI_c fun v2 m1 => ?_)
  refine (x_aload1 D309_732 rfl).trans ?_
  refine (x_aload1 D309_733 rfl).trans ?_
  refine (x_iload2 D309_734 rfl).trans ?_
  refine (x_iconst D309_736 (k := 1) (by decide)).trans ?_
  refine (x_iadd D309_737).trans ?_
  refine (x_iaload D309_738).trans (ga_c ?_)
  refine (x_cI D309_739 M264 (fun z => by cases z) (I264 _ _) rfl rfl (ok_i M264 (I264 _ _) rfl rfl h_a2)).trans (bI_c fun v4 m3 => ?_)
  refine (x_ceq D309_742).trans (i_c ?_ ?_)
  · rfl
  · refine (x_iconst D309_745 (k := 0) (by decide)).trans ?_
    exact (x_bret D309_746 M309.2.2.1).trans yB0
theorem La_law_747_e (d : Nat) (a0 : Nat) (a1 : Nat) (a2 : Nat) (a3 : Nat) (x4 : Int32) (w5 : Value) (w6 : Value) (m : eM) (h_a1 : kd a1 = 9) (h_a2 : kd a2 = 10) : La_law_747 (d + 1) a0 a1 a2 a3 x4 w5 w6 m = ga m a0 20 (x4 + (1 : Int32)) (ga m a0 20 (x4 + (2 : Int32)) (bL (LC_odds d a1 (gI m a0 (x4 + (1 : Int32)).toNatClampNeg) (gI m a0 (x4 + (2 : Int32)).toNatClampNeg) m) fun v2 m1 => ga m1 a0 20 (x4 + (1 : Int32)) (ga m1 a0 20 (x4 + (2 : Int32)) (bL (Mo_odds d a2 (gI m1 a0 (x4 + (1 : Int32)).toNatClampNeg) (gI m1 a0 (x4 + (2 : Int32)).toNatClampNeg) m1) fun v4 m3 => if (lg_cmp v2 v4) = 0 then (La_law_1818 (d + 1) a0 a1 a2 a3 x4 w5 w6 m3) else (yI (0 : Int32) m3))))) := by
  unfold La_law_747
  refine (x_aload1 D309_747 rfl).trans ?_
  refine (x_aload1 D309_748 rfl).trans ?_
  refine (x_iload2 D309_749 rfl).trans ?_
  refine (x_iconst D309_751 (k := 1) (by decide)).trans ?_
  refine (x_iadd D309_752).trans ?_
  refine (x_iaload D309_753).trans (ga_c ?_)
  refine (x_aload1 D309_754 rfl).trans ?_
  refine (x_iload2 D309_755 rfl).trans ?_
  refine (x_iconst D309_757 (k := 2) (by decide)).trans ?_
  refine (x_iadd D309_758).trans ?_
  refine (x_iaload D309_759).trans (ga_c ?_)
  refine (x_cL D309_760 M124  (I124 _ _ _) rfl rfl (ok_i M124 (I124 _ _ _) rfl rfl h_a1)).trans (bL_c fun v2 m1 => ?_)
  refine (x_aload1 D309_763 rfl).trans ?_
  refine (x_aload1 D309_764 rfl).trans ?_
  refine (x_iload2 D309_765 rfl).trans ?_
  refine (x_iconst D309_767 (k := 1) (by decide)).trans ?_
  refine (x_iadd D309_768).trans ?_
  refine (x_iaload D309_769).trans (ga_c ?_)
  refine (x_aload1 D309_770 rfl).trans ?_
  refine (x_iload2 D309_771 rfl).trans ?_
  refine (x_iconst D309_773 (k := 2) (by decide)).trans ?_
  refine (x_iadd D309_774).trans ?_
  refine (x_iaload D309_775).trans (ga_c ?_)
  refine (x_cL D309_776 M265  (I265 _ _ _) rfl rfl (ok_i M265 (I265 _ _ _) rfl rfl h_a2)).trans (bL_c fun v4 m3 => ?_)
  refine (x_lcmp D309_779).trans ?_
  refine (x_ifeq D309_780).trans (i_c ?_ ?_)
  · rfl
  · refine (x_iconst D309_783 (k := 0) (by decide)).trans ?_
    exact (x_bret D309_784 M309.2.2.1).trans yB0
theorem La_law_785_e (d : Nat) (a0 : Nat) (a1 : Nat) (a2 : Nat) (a3 : Nat) (x4 : Int32) (w5 : Value) (w6 : Value) (m : eM) (h_a1 : kd a1 = 9) (h_a2 : kd a2 = 10) : La_law_785 (d + 1) a0 a1 a2 a3 x4 w5 w6 m = ga m a0 20 (x4 + (1 : Int32)) (ga m a0 20 (x4 + (2 : Int32)) (bI (LC_proof d a1 (gI m a0 (x4 + (1 : Int32)).toNatClampNeg) (gI m a0 (x4 + (2 : Int32)).toNatClampNeg) m) fun v2 m1 => ga m1 a0 20 (x4 + (1 : Int32)) (ga m1 a0 20 (x4 + (2 : Int32)) (bI (Mo_proof d a2 (gI m1 a0 (x4 + (1 : Int32)).toNatClampNeg) (gI m1 a0 (x4 + (2 : Int32)).toNatClampNeg) m1) fun v4 m3 => if v2 = v4 then (La_law_1818 (d + 1) a0 a1 a2 a3 x4 w5 w6 m3) else (yI (0 : Int32) m3))))) := by
  unfold La_law_785
  refine (x_aload1 D309_785 rfl).trans ?_
  refine (x_aload1 D309_786 rfl).trans ?_
  refine (x_iload2 D309_787 rfl).trans ?_
  refine (x_iconst D309_789 (k := 1) (by decide)).trans ?_
  refine (x_iadd D309_790).trans ?_
  refine (x_iaload D309_791).trans (ga_c ?_)
  refine (x_aload1 D309_792 rfl).trans ?_
  refine (x_iload2 D309_793 rfl).trans ?_
  refine (x_iconst D309_795 (k := 2) (by decide)).trans ?_
  refine (x_iadd D309_796).trans ?_
  refine (x_iaload D309_797).trans (ga_c ?_)
  refine (x_cI D309_798 M129 (fun z => by cases z) (I129 _ _ _) rfl rfl (ok_i M129 (I129 _ _ _) rfl rfl h_a1)).trans (bI_c fun v2 m1 => ?_)
  refine (x_aload1 D309_801 rfl).trans ?_
  refine (x_aload1 D309_802 rfl).trans ?_
  refine (x_iload2 D309_803 rfl).trans ?_
  refine (x_iconst D309_805 (k := 1) (by decide)).trans ?_
  refine (x_iadd D309_806).trans ?_
  refine (x_iaload D309_807).trans (ga_c ?_)
  refine (x_aload1 D309_808 rfl).trans ?_
  refine (x_iload2 D309_809 rfl).trans ?_
  refine (x_iconst D309_811 (k := 2) (by decide)).trans ?_
  refine (x_iadd D309_812).trans ?_
  refine (x_iaload D309_813).trans (ga_c ?_)
  refine (x_cI D309_814 M269 (fun z => by cases z) (I269 _ _ _) rfl rfl (ok_i M269 (I269 _ _ _) rfl rfl h_a2)).trans (bI_c fun v4 m3 => ?_)
  refine (x_ceq D309_817).trans (i_c ?_ ?_)
  · rfl
  · refine (x_iconst D309_820 (k := 0) (by decide)).trans ?_
    exact (x_bret D309_821 M309.2.2.1).trans yB0
theorem La_law_822_e (d : Nat) (a0 : Nat) (a1 : Nat) (a2 : Nat) (a3 : Nat) (x4 : Int32) (w5 : Value) (w6 : Value) (m : eM) (h_a1 : kd a1 = 9) (h_a2 : kd a2 = 10) : La_law_822 (d + 1) a0 a1 a2 a3 x4 w5 w6 m = ga m a0 20 (x4 + (1 : Int32)) (bI (LC_clash d a1 (gI m a0 (x4 + (1 : Int32)).toNatClampNeg) m) fun v2 m1 => ga m1 a0 20 (x4 + (1 : Int32)) (bI (Mo_clash d a2 (gI m1 a0 (x4 + (1 : Int32)).toNatClampNeg) m1) fun v4 m3 => if v2 = v4 then (La_law_1818 (d + 1) a0 a1 a2 a3 x4 w5 w6 m3) else (yI (0 : Int32) m3))) := by
  unfold La_law_822
  refine (x_aload1 D309_822 rfl).trans ?_
  refine (x_aload1 D309_823 rfl).trans ?_
  refine (x_iload2 D309_824 rfl).trans ?_
  refine (x_iconst D309_826 (k := 1) (by decide)).trans ?_
  refine (x_iadd D309_827).trans ?_
  refine (x_iaload D309_828).trans (ga_c ?_)
  refine (x_cI D309_829 M136 (fun z => by cases z) (I136 _ _) rfl rfl (ok_i M136 (I136 _ _) rfl rfl h_a1)).trans (bI_c fun v2 m1 => ?_)
  refine (x_aload1 D309_832 rfl).trans ?_
  refine (x_aload1 D309_833 rfl).trans ?_
  refine (x_iload2 D309_834 rfl).trans ?_
  refine (x_iconst D309_836 (k := 1) (by decide)).trans ?_
  refine (x_iadd D309_837).trans ?_
  refine (x_iaload D309_838).trans (ga_c ?_)
  refine (x_cI D309_839 M271 (fun z => by cases z) (I271 _ _) rfl rfl (ok_i M271 (I271 _ _) rfl rfl h_a2)).trans (bI_c fun v4 m3 => ?_)
  refine (x_ceq D309_842).trans (i_c ?_ ?_)
  · rfl
  · refine (x_iconst D309_845 (k := 0) (by decide)).trans ?_
    exact (x_bret D309_846 M309.2.2.1).trans yB0
theorem La_law_847_e (d : Nat) (a0 : Nat) (a1 : Nat) (a2 : Nat) (a3 : Nat) (x4 : Int32) (w5 : Value) (w6 : Value) (m : eM) (h_a1 : kd a1 = 9) (h_a2 : kd a2 = 10) : La_law_847 (d + 1) a0 a1 a2 a3 x4 w5 w6 m = ga m a0 20 (x4 + (1 : Int32)) (ga m a0 20 (x4 + (2 : Int32)) (ga m a0 20 (x4 + (3 : Int32)) (ga m a0 20 (x4 + (4 : Int32)) (bI (LC_next d a1 (gI m a0 (x4 + (1 : Int32)).toNatClampNeg) (gI m a0 (x4 + (2 : Int32)).toNatClampNeg) (gI m a0 (x4 + (3 : Int32)).toNatClampNeg) (gI m a0 (x4 + (4 : Int32)).toNatClampNeg) m) fun v2 m1 => ga m1 a0 20 (x4 + (1 : Int32)) (ga m1 a0 20 (x4 + (2 : Int32)) (ga m1 a0 20 (x4 + (3 : Int32)) (ga m1 a0 20 (x4 + (4 : Int32)) (bI (Mo_next d a2 (gI m1 a0 (x4 + (1 : Int32)).toNatClampNeg) (gI m1 a0 (x4 + (2 : Int32)).toNatClampNeg) (gI m1 a0 (x4 + (3 : Int32)).toNatClampNeg) (gI m1 a0 (x4 + (4 : Int32)).toNatClampNeg) m1) fun v4 m3 => if v2 = v4 then (La_law_1818 (d + 1) a0 a1 a2 a3 x4 w5 w6 m3) else (yI (0 : Int32) m3))))))))) := by
  unfold La_law_847
  refine (x_aload1 D309_847 rfl).trans ?_
  refine (x_aload1 D309_848 rfl).trans ?_
  refine (x_iload2 D309_849 rfl).trans ?_
  refine (x_iconst D309_851 (k := 1) (by decide)).trans ?_
  refine (x_iadd D309_852).trans ?_
  refine (x_iaload D309_853).trans (ga_c ?_)
  refine (x_aload1 D309_854 rfl).trans ?_
  refine (x_iload2 D309_855 rfl).trans ?_
  refine (x_iconst D309_857 (k := 2) (by decide)).trans ?_
  refine (x_iadd D309_858).trans ?_
  refine (x_iaload D309_859).trans (ga_c ?_)
  refine (x_aload1 D309_860 rfl).trans ?_
  refine (x_iload2 D309_861 rfl).trans ?_
  refine (x_iconst D309_863 (k := 3) (by decide)).trans ?_
  refine (x_iadd D309_864).trans ?_
  refine (x_iaload D309_865).trans (ga_c ?_)
  refine (x_aload1 D309_866 rfl).trans ?_
  refine (x_iload2 D309_867 rfl).trans ?_
  refine (x_iconst D309_869 (k := 4) (by decide)).trans ?_
  refine (x_iadd D309_870).trans ?_
  refine (x_iaload D309_871).trans (ga_c ?_)
  refine (x_cI D309_872 M137 (fun z => by cases z) (I137 _ _ _ _ _) rfl rfl (ok_i M137 (I137 _ _ _ _ _) rfl rfl h_a1)).trans (bI_c fun v2 m1 => ?_)
  refine (x_aload1 D309_875 rfl).trans ?_
  refine (x_aload1 D309_876 rfl).trans ?_
  refine (x_iload2 D309_877 rfl).trans ?_
  refine (x_iconst D309_879 (k := 1) (by decide)).trans ?_
  refine (x_iadd D309_880).trans ?_
  refine (x_iaload D309_881).trans (ga_c ?_)
  refine (x_aload1 D309_882 rfl).trans ?_
  refine (x_iload2 D309_883 rfl).trans ?_
  refine (x_iconst D309_885 (k := 2) (by decide)).trans ?_
  refine (x_iadd D309_886).trans ?_
  refine (x_iaload D309_887).trans (ga_c ?_)
  refine (x_aload1 D309_888 rfl).trans ?_
  refine (x_iload2 D309_889 rfl).trans ?_
  refine (x_iconst D309_891 (k := 3) (by decide)).trans ?_
  refine (x_iadd D309_892).trans ?_
  refine (x_iaload D309_893).trans (ga_c ?_)
  refine (x_aload1 D309_894 rfl).trans ?_
  refine (x_iload2 D309_895 rfl).trans ?_
  refine (x_iconst D309_897 (k := 4) (by decide)).trans ?_
  refine (x_iadd D309_898).trans ?_
  refine (x_iaload D309_899).trans (ga_c ?_)
  refine (x_cI D309_900 M272 (fun z => by cases z) (I272 _ _ _ _ _) rfl rfl (ok_i M272 (I272 _ _ _ _ _) rfl rfl h_a2)).trans (bI_c fun v4 m3 => ?_)
  refine (x_ceq D309_903).trans (i_c ?_ ?_)
  · rfl
  · refine (x_iconst D309_906 (k := 0) (by decide)).trans ?_
    exact (x_bret D309_907 M309.2.2.1).trans yB0
theorem La_law_908_e (d : Nat) (a0 : Nat) (a1 : Nat) (a2 : Nat) (a3 : Nat) (x4 : Int32) (w5 : Value) (w6 : Value) (m : eM) (h_a1 : kd a1 = 9) (h_a2 : kd a2 = 10) : La_law_908 (d + 1) a0 a1 a2 a3 x4 w5 w6 m = ga m a0 20 (x4 + (1 : Int32)) (ga m a0 20 (x4 + (2 : Int32)) (ga m a0 20 (x4 + (3 : Int32)) (ga m a0 20 (x4 + (4 : Int32)) (bI (LC_fog d a1 (gI m a0 (x4 + (1 : Int32)).toNatClampNeg) (gI m a0 (x4 + (2 : Int32)).toNatClampNeg) (gI m a0 (x4 + (3 : Int32)).toNatClampNeg) (gI m a0 (x4 + (4 : Int32)).toNatClampNeg) m) fun v2 m1 => ga m1 a0 20 (x4 + (1 : Int32)) (ga m1 a0 20 (x4 + (2 : Int32)) (ga m1 a0 20 (x4 + (3 : Int32)) (ga m1 a0 20 (x4 + (4 : Int32)) (bI (Mo_fog d a2 (gI m1 a0 (x4 + (1 : Int32)).toNatClampNeg) (gI m1 a0 (x4 + (2 : Int32)).toNatClampNeg) (gI m1 a0 (x4 + (3 : Int32)).toNatClampNeg) (gI m1 a0 (x4 + (4 : Int32)).toNatClampNeg) m1) fun v4 m3 => if v2 = v4 then (La_law_1818 (d + 1) a0 a1 a2 a3 x4 w5 w6 m3) else (yI (0 : Int32) m3))))))))) := by
  unfold La_law_908
  refine (x_aload1 D309_908 rfl).trans ?_
  refine (x_aload1 D309_909 rfl).trans ?_
  refine (x_iload2 D309_910 rfl).trans ?_
  refine (x_iconst D309_912 (k := 1) (by decide)).trans ?_
  refine (x_iadd D309_913).trans ?_
  refine (x_iaload D309_914).trans (ga_c ?_)
  refine (x_aload1 D309_915 rfl).trans ?_
  refine (x_iload2 D309_916 rfl).trans ?_
  refine (x_iconst D309_918 (k := 2) (by decide)).trans ?_
  refine (x_iadd D309_919).trans ?_
  refine (x_iaload D309_920).trans (ga_c ?_)
  refine (x_aload1 D309_921 rfl).trans ?_
  refine (x_iload2 D309_922 rfl).trans ?_
  refine (x_iconst D309_924 (k := 3) (by decide)).trans ?_
  refine (x_iadd D309_925).trans ?_
  refine (x_iaload D309_926).trans (ga_c ?_)
  refine (x_aload1 D309_927 rfl).trans ?_
  refine (x_iload2 D309_928 rfl).trans ?_
  refine (x_iconst D309_930 (k := 4) (by decide)).trans ?_
  refine (x_iadd D309_931).trans ?_
  refine (x_iaload D309_932).trans (ga_c ?_)
  refine (x_cI D309_933 M143 (fun z => by cases z) (I143 _ _ _ _ _) rfl rfl (ok_i M143 (I143 _ _ _ _ _) rfl rfl h_a1)).trans (bI_c fun v2 m1 => ?_)
  refine (x_aload1 D309_936 rfl).trans ?_
  refine (x_aload1 D309_937 rfl).trans ?_
  refine (x_iload2 D309_938 rfl).trans ?_
  refine (x_iconst D309_940 (k := 1) (by decide)).trans ?_
  refine (x_iadd D309_941).trans ?_
  refine (x_iaload D309_942).trans (ga_c ?_)
  refine (x_aload1 D309_943 rfl).trans ?_
  refine (x_iload2 D309_944 rfl).trans ?_
  refine (x_iconst D309_946 (k := 2) (by decide)).trans ?_
  refine (x_iadd D309_947).trans ?_
  refine (x_iaload D309_948).trans (ga_c ?_)
  refine (x_aload1 D309_949 rfl).trans ?_
  refine (x_iload2 D309_950 rfl).trans ?_
  refine (x_iconst D309_952 (k := 3) (by decide)).trans ?_
  refine (x_iadd D309_953).trans ?_
  refine (x_iaload D309_954).trans (ga_c ?_)
  refine (x_aload1 D309_955 rfl).trans ?_
  refine (x_iload2 D309_956 rfl).trans ?_
  refine (x_iconst D309_958 (k := 4) (by decide)).trans ?_
  refine (x_iadd D309_959).trans ?_
  refine (x_iaload D309_960).trans (ga_c ?_)
  refine (x_cI D309_961 M276 (fun z => by cases z) (I276 _ _ _ _ _) rfl rfl (ok_i M276 (I276 _ _ _ _ _) rfl rfl h_a2)).trans (bI_c fun v4 m3 => ?_)
  refine (x_ceq D309_964).trans (i_c ?_ ?_)
  · rfl
  · refine (x_iconst D309_967 (k := 0) (by decide)).trans ?_
    exact (x_bret D309_968 M309.2.2.1).trans yB0
theorem La_law_969_e (d : Nat) (a0 : Nat) (a1 : Nat) (a2 : Nat) (a3 : Nat) (x4 : Int32) (w5 : Value) (w6 : Value) (m : eM) (h_a1 : kd a1 = 9) (h_a2 : kd a2 = 10) : La_law_969 (d + 1) a0 a1 a2 a3 x4 w5 w6 m = ga m a0 20 (x4 + (1 : Int32)) (ga m a0 20 (x4 + (2 : Int32)) (ga m a0 20 (x4 + (3 : Int32)) (if (gI m a0 (x4 + (3 : Int32)).toNatClampNeg) = 0 then (La_law_996 (d + 1) a0 a1 a2 a3 x4 w5 w6 a1 (gI m a0 (x4 + (1 : Int32)).toNatClampNeg) (gI m a0 (x4 + (2 : Int32)).toNatClampNeg) (0 : Int32) m) else (La_law_996 (d + 1) a0 a1 a2 a3 x4 w5 w6 a1 (gI m a0 (x4 + (1 : Int32)).toNatClampNeg) (gI m a0 (x4 + (2 : Int32)).toNatClampNeg) (1 : Int32) m)))) := by
  unfold La_law_969
  refine (x_aload1 D309_969 rfl).trans ?_
  refine (x_aload1 D309_970 rfl).trans ?_
  refine (x_iload2 D309_971 rfl).trans ?_
  refine (x_iconst D309_973 (k := 1) (by decide)).trans ?_
  refine (x_iadd D309_974).trans ?_
  refine (x_iaload D309_975).trans (ga_c ?_)
  refine (x_aload1 D309_976 rfl).trans ?_
  refine (x_iload2 D309_977 rfl).trans ?_
  refine (x_iconst D309_979 (k := 2) (by decide)).trans ?_
  refine (x_iadd D309_980).trans ?_
  refine (x_iaload D309_981).trans (ga_c ?_)
  refine (x_aload1 D309_982 rfl).trans ?_
  refine (x_iload2 D309_983 rfl).trans ?_
  refine (x_iconst D309_985 (k := 3) (by decide)).trans ?_
  refine (x_iadd D309_986).trans ?_
  refine (x_iaload D309_987).trans (ga_c ?_)
  refine (x_ifeq D309_988).trans (i_c ?_ ?_)
  · refine (x_iconst D309_995 (k := 0) (by decide)).trans ?_
    rfl
  · refine (x_iconst D309_991 (k := 1) (by decide)).trans ?_
    refine (x_goto D309_992).trans ?_
    rfl
theorem La_law_996_e (d : Nat) (a0 : Nat) (a1 : Nat) (a2 : Nat) (a3 : Nat) (x4 : Int32) (w5 : Value) (w6 : Value) (b0 : Nat) (p1 : Int32) (p2 : Int32) (p3 : Int32) (m : eM) (h_a1 : kd a1 = 9) (h_a2 : kd a2 = 10) (h_b0 : kd b0 = 9) : La_law_996 (d + 1) a0 a1 a2 a3 x4 w5 w6 b0 p1 p2 p3 m = ga m a0 20 (x4 + (4 : Int32)) (ga m a0 20 (x4 + (5 : Int32)) (bI (LC_learns d b0 p1 p2 p3 (gI m a0 (x4 + (4 : Int32)).toNatClampNeg) (gI m a0 (x4 + (5 : Int32)).toNatClampNeg) m) fun v2 m1 => ga m1 a0 20 (x4 + (1 : Int32)) (ga m1 a0 20 (x4 + (2 : Int32)) (ga m1 a0 20 (x4 + (3 : Int32)) (if (gI m1 a0 (x4 + (3 : Int32)).toNatClampNeg) = 0 then (ga m1 a0 20 (x4 + (4 : Int32)) (ga m1 a0 20 (x4 + (5 : Int32)) (bI (Mo_learns d a2 (gI m1 a0 (x4 + (1 : Int32)).toNatClampNeg) (gI m1 a0 (x4 + (2 : Int32)).toNatClampNeg) (0 : Int32) (gI m1 a0 (x4 + (4 : Int32)).toNatClampNeg) (gI m1 a0 (x4 + (5 : Int32)).toNatClampNeg) m1) fun v4 m3 => if v2 = v4 then (La_law_1818 (d + 1) a0 a1 a2 a3 x4 w5 w6 m3) else (yI (0 : Int32) m3)))) else (ga m1 a0 20 (x4 + (4 : Int32)) (ga m1 a0 20 (x4 + (5 : Int32)) (bI (Mo_learns d a2 (gI m1 a0 (x4 + (1 : Int32)).toNatClampNeg) (gI m1 a0 (x4 + (2 : Int32)).toNatClampNeg) (1 : Int32) (gI m1 a0 (x4 + (4 : Int32)).toNatClampNeg) (gI m1 a0 (x4 + (5 : Int32)).toNatClampNeg) m1) fun v6 m5 => if v2 = v6 then (La_law_1818 (d + 1) a0 a1 a2 a3 x4 w5 w6 m5) else (yI (0 : Int32) m5))))))))) := by
  unfold La_law_996
  refine (x_aload1 D309_996 rfl).trans ?_
  refine (x_iload2 D309_997 rfl).trans ?_
  refine (x_iconst D309_999 (k := 4) (by decide)).trans ?_
  refine (x_iadd D309_1000).trans ?_
  refine (x_iaload D309_1001).trans (ga_c ?_)
  refine (x_aload1 D309_1002 rfl).trans ?_
  refine (x_iload2 D309_1003 rfl).trans ?_
  refine (x_iconst D309_1005 (k := 5) (by decide)).trans ?_
  refine (x_iadd D309_1006).trans ?_
  refine (x_iaload D309_1007).trans (ga_c ?_)
  refine (x_cI D309_1008 M144 (fun z => by cases z) (I144 _ _ _ _ _ _) rfl rfl (ok_i M144 (I144 _ _ _ _ _ _) rfl rfl h_b0)).trans (bI_c fun v2 m1 => ?_)
  refine (x_aload1 D309_1011 rfl).trans ?_
  refine (x_aload1 D309_1012 rfl).trans ?_
  refine (x_iload2 D309_1013 rfl).trans ?_
  refine (x_iconst D309_1015 (k := 1) (by decide)).trans ?_
  refine (x_iadd D309_1016).trans ?_
  refine (x_iaload D309_1017).trans (ga_c ?_)
  refine (x_aload1 D309_1018 rfl).trans ?_
  refine (x_iload2 D309_1019 rfl).trans ?_
  refine (x_iconst D309_1021 (k := 2) (by decide)).trans ?_
  refine (x_iadd D309_1022).trans ?_
  refine (x_iaload D309_1023).trans (ga_c ?_)
  refine (x_aload1 D309_1024 rfl).trans ?_
  refine (x_iload2 D309_1025 rfl).trans ?_
  refine (x_iconst D309_1027 (k := 3) (by decide)).trans ?_
  refine (x_iadd D309_1028).trans ?_
  refine (x_iaload D309_1029).trans (ga_c ?_)
  refine (x_ifeq D309_1030).trans (i_c ?_ ?_)
  · refine (x_iconst D309_1037 (k := 0) (by decide)).trans ?_
    refine (x_aload1 D309_1038 rfl).trans ?_
    refine (x_iload2 D309_1039 rfl).trans ?_
    refine (x_iconst D309_1041 (k := 4) (by decide)).trans ?_
    refine (x_iadd D309_1042).trans ?_
    refine (x_iaload D309_1043).trans (ga_c ?_)
    refine (x_aload1 D309_1044 rfl).trans ?_
    refine (x_iload2 D309_1045 rfl).trans ?_
    refine (x_iconst D309_1047 (k := 5) (by decide)).trans ?_
    refine (x_iadd D309_1048).trans ?_
    refine (x_iaload D309_1049).trans (ga_c ?_)
    refine (x_cI D309_1050 M277 (fun z => by cases z) (I277 _ _ _ _ _ _) rfl rfl (ok_i M277 (I277 _ _ _ _ _ _) rfl rfl h_a2)).trans (bI_c fun v4 m3 => ?_)
    refine (x_ceq D309_1053).trans (i_c ?_ ?_)
    · rfl
    · refine (x_iconst D309_1056 (k := 0) (by decide)).trans ?_
      exact (x_bret D309_1057 M309.2.2.1).trans yB0
  · refine (x_iconst D309_1033 (k := 1) (by decide)).trans ?_
    refine (x_goto D309_1034).trans ?_
    refine (x_aload1 D309_1038 rfl).trans ?_
    refine (x_iload2 D309_1039 rfl).trans ?_
    refine (x_iconst D309_1041 (k := 4) (by decide)).trans ?_
    refine (x_iadd D309_1042).trans ?_
    refine (x_iaload D309_1043).trans (ga_c ?_)
    refine (x_aload1 D309_1044 rfl).trans ?_
    refine (x_iload2 D309_1045 rfl).trans ?_
    refine (x_iconst D309_1047 (k := 5) (by decide)).trans ?_
    refine (x_iadd D309_1048).trans ?_
    refine (x_iaload D309_1049).trans (ga_c ?_)
    refine (x_cI D309_1050 M277 (fun z => by cases z) (I277 _ _ _ _ _ _) rfl rfl (ok_i M277 (I277 _ _ _ _ _ _) rfl rfl h_a2)).trans (bI_c fun v6 m5 => ?_)
    refine (x_ceq D309_1053).trans (i_c ?_ ?_)
    · rfl
    · refine (x_iconst D309_1056 (k := 0) (by decide)).trans ?_
      exact (x_bret D309_1057 M309.2.2.1).trans yB0
theorem La_law_1058_e (d : Nat) (a0 : Nat) (a1 : Nat) (a2 : Nat) (a3 : Nat) (x4 : Int32) (w5 : Value) (w6 : Value) (m : eM) (h_a1 : kd a1 = 9) (h_a2 : kd a2 = 10) : La_law_1058 (d + 1) a0 a1 a2 a3 x4 w5 w6 m = bI (LC_judged d a1 m) fun v2 m1 => bI (Mo_judged d a2 m1) fun v4 m3 => if v2 = v4 then (La_law_1818 (d + 1) a0 a1 a2 a3 x4 w5 w6 m3) else (yI (0 : Int32) m3) := by
  unfold La_law_1058
  refine (x_aload1 D309_1058 rfl).trans ?_
  refine (x_cI D309_1059 M160 (fun z => by cases z) (I160 _) rfl rfl (ok_i M160 (I160 _) rfl rfl h_a1)).trans (bI_c fun v2 m1 => ?_)
  refine (x_aload1 D309_1062 rfl).trans ?_
  refine (x_cI D309_1063 M278 (fun z => by cases z) (I278 _) rfl rfl (ok_i M278 (I278 _) rfl rfl h_a2)).trans (bI_c fun v4 m3 => ?_)
  refine (x_ceq D309_1066).trans (i_c ?_ ?_)
  · rfl
  · refine (x_iconst D309_1069 (k := 0) (by decide)).trans ?_
    exact (x_bret D309_1070 M309.2.2.1).trans yB0
theorem La_law_1071_e (d : Nat) (a0 : Nat) (a1 : Nat) (a2 : Nat) (a3 : Nat) (x4 : Int32) (w5 : Value) (w6 : Value) (m : eM) (h_a1 : kd a1 = 9) (h_a2 : kd a2 = 10) : La_law_1071 (d + 1) a0 a1 a2 a3 x4 w5 w6 m = ga m a0 20 (x4 + (1 : Int32)) (ga m a0 20 (x4 + (2 : Int32)) (bI (LC_turned d a1 (gI m a0 (x4 + (1 : Int32)).toNatClampNeg) (gI m a0 (x4 + (2 : Int32)).toNatClampNeg) m) fun v2 m1 => ga m1 a0 20 (x4 + (1 : Int32)) (ga m1 a0 20 (x4 + (2 : Int32)) (bI (Mo_turned d a2 (gI m1 a0 (x4 + (1 : Int32)).toNatClampNeg) (gI m1 a0 (x4 + (2 : Int32)).toNatClampNeg) m1) fun v4 m3 => if v2 = v4 then (La_law_1818 (d + 1) a0 a1 a2 a3 x4 w5 w6 m3) else (yI (0 : Int32) m3))))) := by
  unfold La_law_1071
  refine (x_aload1 D309_1071 rfl).trans ?_
  refine (x_aload1 D309_1072 rfl).trans ?_
  refine (x_iload2 D309_1073 rfl).trans ?_
  refine (x_iconst D309_1075 (k := 1) (by decide)).trans ?_
  refine (x_iadd D309_1076).trans ?_
  refine (x_iaload D309_1077).trans (ga_c ?_)
  refine (x_aload1 D309_1078 rfl).trans ?_
  refine (x_iload2 D309_1079 rfl).trans ?_
  refine (x_iconst D309_1081 (k := 2) (by decide)).trans ?_
  refine (x_iadd D309_1082).trans ?_
  refine (x_iaload D309_1083).trans (ga_c ?_)
  refine (x_cI D309_1084 M161 (fun z => by cases z) (I161 _ _ _) rfl rfl (ok_i M161 (I161 _ _ _) rfl rfl h_a1)).trans (bI_c fun v2 m1 => ?_)
  refine (x_aload1 D309_1087 rfl).trans ?_
  refine (x_aload1 D309_1088 rfl).trans ?_
  refine (x_iload2 D309_1089 rfl).trans ?_
  refine (x_iconst D309_1091 (k := 1) (by decide)).trans ?_
  refine (x_iadd D309_1092).trans ?_
  refine (x_iaload D309_1093).trans (ga_c ?_)
  refine (x_aload1 D309_1094 rfl).trans ?_
  refine (x_iload2 D309_1095 rfl).trans ?_
  refine (x_iconst D309_1097 (k := 2) (by decide)).trans ?_
  refine (x_iadd D309_1098).trans ?_
  refine (x_iaload D309_1099).trans (ga_c ?_)
  refine (x_cI D309_1100 M279 (fun z => by cases z) (I279 _ _ _) rfl rfl (ok_i M279 (I279 _ _ _) rfl rfl h_a2)).trans (bI_c fun v4 m3 => ?_)
  refine (x_ceq D309_1103).trans (i_c ?_ ?_)
  · rfl
  · refine (x_iconst D309_1106 (k := 0) (by decide)).trans ?_
    exact (x_bret D309_1107 M309.2.2.1).trans yB0
theorem La_law_1108_e (d : Nat) (a0 : Nat) (a1 : Nat) (a2 : Nat) (a3 : Nat) (x4 : Int32) (w5 : Value) (w6 : Value) (m : eM) (h_a1 : kd a1 = 9) (h_a2 : kd a2 = 10) : La_law_1108 (d + 1) a0 a1 a2 a3 x4 w5 w6 m = ga m a0 20 (x4 + (1 : Int32)) (ga m a0 20 (x4 + (2 : Int32)) (ga m a0 20 (x4 + (3 : Int32)) (ga m a0 20 (x4 + (4 : Int32)) (bI (LC_pointed d a1 (gI m a0 (x4 + (1 : Int32)).toNatClampNeg) (gI m a0 (x4 + (2 : Int32)).toNatClampNeg) (gI m a0 (x4 + (3 : Int32)).toNatClampNeg) (gI m a0 (x4 + (4 : Int32)).toNatClampNeg) m) fun v2 m1 => ga m1 a0 20 (x4 + (1 : Int32)) (ga m1 a0 20 (x4 + (2 : Int32)) (ga m1 a0 20 (x4 + (3 : Int32)) (ga m1 a0 20 (x4 + (4 : Int32)) (bI (Mo_pointed d a2 (gI m1 a0 (x4 + (1 : Int32)).toNatClampNeg) (gI m1 a0 (x4 + (2 : Int32)).toNatClampNeg) (gI m1 a0 (x4 + (3 : Int32)).toNatClampNeg) (gI m1 a0 (x4 + (4 : Int32)).toNatClampNeg) m1) fun v4 m3 => if v2 = v4 then (La_law_1818 (d + 1) a0 a1 a2 a3 x4 w5 w6 m3) else (yI (0 : Int32) m3))))))))) := by
  unfold La_law_1108
  refine (x_aload1 D309_1108 rfl).trans ?_
  refine (x_aload1 D309_1109 rfl).trans ?_
  refine (x_iload2 D309_1110 rfl).trans ?_
  refine (x_iconst D309_1112 (k := 1) (by decide)).trans ?_
  refine (x_iadd D309_1113).trans ?_
  refine (x_iaload D309_1114).trans (ga_c ?_)
  refine (x_aload1 D309_1115 rfl).trans ?_
  refine (x_iload2 D309_1116 rfl).trans ?_
  refine (x_iconst D309_1118 (k := 2) (by decide)).trans ?_
  refine (x_iadd D309_1119).trans ?_
  refine (x_iaload D309_1120).trans (ga_c ?_)
  refine (x_aload1 D309_1121 rfl).trans ?_
  refine (x_iload2 D309_1122 rfl).trans ?_
  refine (x_iconst D309_1124 (k := 3) (by decide)).trans ?_
  refine (x_iadd D309_1125).trans ?_
  refine (x_iaload D309_1126).trans (ga_c ?_)
  refine (x_aload1 D309_1127 rfl).trans ?_
  refine (x_iload2 D309_1128 rfl).trans ?_
  refine (x_iconst D309_1130 (k := 4) (by decide)).trans ?_
  refine (x_iadd D309_1131).trans ?_
  refine (x_iaload D309_1132).trans (ga_c ?_)
  refine (x_cI D309_1133 M167 (fun z => by cases z) (I167 _ _ _ _ _) rfl rfl (ok_i M167 (I167 _ _ _ _ _) rfl rfl h_a1)).trans (bI_c fun v2 m1 => ?_)
  refine (x_aload1 D309_1136 rfl).trans ?_
  refine (x_aload1 D309_1137 rfl).trans ?_
  refine (x_iload2 D309_1138 rfl).trans ?_
  refine (x_iconst D309_1140 (k := 1) (by decide)).trans ?_
  refine (x_iadd D309_1141).trans ?_
  refine (x_iaload D309_1142).trans (ga_c ?_)
  refine (x_aload1 D309_1143 rfl).trans ?_
  refine (x_iload2 D309_1144 rfl).trans ?_
  refine (x_iconst D309_1146 (k := 2) (by decide)).trans ?_
  refine (x_iadd D309_1147).trans ?_
  refine (x_iaload D309_1148).trans (ga_c ?_)
  refine (x_aload1 D309_1149 rfl).trans ?_
  refine (x_iload2 D309_1150 rfl).trans ?_
  refine (x_iconst D309_1152 (k := 3) (by decide)).trans ?_
  refine (x_iadd D309_1153).trans ?_
  refine (x_iaload D309_1154).trans (ga_c ?_)
  refine (x_aload1 D309_1155 rfl).trans ?_
  refine (x_iload2 D309_1156 rfl).trans ?_
  refine (x_iconst D309_1158 (k := 4) (by decide)).trans ?_
  refine (x_iadd D309_1159).trans ?_
  refine (x_iaload D309_1160).trans (ga_c ?_)
  refine (x_cI D309_1161 M280 (fun z => by cases z) (I280 _ _ _ _ _) rfl rfl (ok_i M280 (I280 _ _ _ _ _) rfl rfl h_a2)).trans (bI_c fun v4 m3 => ?_)
  refine (x_ceq D309_1164).trans (i_c ?_ ?_)
  · rfl
  · refine (x_iconst D309_1167 (k := 0) (by decide)).trans ?_
    exact (x_bret D309_1168 M309.2.2.1).trans yB0
theorem La_law_1169_e (d : Nat) (a0 : Nat) (a1 : Nat) (a2 : Nat) (a3 : Nat) (x4 : Int32) (w5 : Value) (w6 : Value) (m : eM) (h_a1 : kd a1 = 9) (h_a2 : kd a2 = 10) : La_law_1169 (d + 1) a0 a1 a2 a3 x4 w5 w6 m = ga m a0 20 (x4 + (1 : Int32)) (ga m a0 20 (x4 + (2 : Int32)) (bI (LC_round d a1 (gI m a0 (x4 + (1 : Int32)).toNatClampNeg) (gI m a0 (x4 + (2 : Int32)).toNatClampNeg) m) fun v2 m1 => ga m1 a0 20 (x4 + (1 : Int32)) (ga m1 a0 20 (x4 + (2 : Int32)) (bI (Mo_round d a2 (gI m1 a0 (x4 + (1 : Int32)).toNatClampNeg) (gI m1 a0 (x4 + (2 : Int32)).toNatClampNeg) m1) fun v4 m3 => if v2 = v4 then (La_law_1818 (d + 1) a0 a1 a2 a3 x4 w5 w6 m3) else (yI (0 : Int32) m3))))) := by
  unfold La_law_1169
  refine (x_aload1 D309_1169 rfl).trans ?_
  refine (x_aload1 D309_1170 rfl).trans ?_
  refine (x_iload2 D309_1171 rfl).trans ?_
  refine (x_iconst D309_1173 (k := 1) (by decide)).trans ?_
  refine (x_iadd D309_1174).trans ?_
  refine (x_iaload D309_1175).trans (ga_c ?_)
  refine (x_aload1 D309_1176 rfl).trans ?_
  refine (x_iload2 D309_1177 rfl).trans ?_
  refine (x_iconst D309_1179 (k := 2) (by decide)).trans ?_
  refine (x_iadd D309_1180).trans ?_
  refine (x_iaload D309_1181).trans (ga_c ?_)
  refine (x_cI D309_1182 M170 (fun z => by cases z) (I170 _ _ _) rfl rfl (ok_i M170 (I170 _ _ _) rfl rfl h_a1)).trans (bI_c fun v2 m1 => ?_)
  refine (x_aload1 D309_1185 rfl).trans ?_
  refine (x_aload1 D309_1186 rfl).trans ?_
  refine (x_iload2 D309_1187 rfl).trans ?_
  refine (x_iconst D309_1189 (k := 1) (by decide)).trans ?_
  refine (x_iadd D309_1190).trans ?_
  refine (x_iaload D309_1191).trans (ga_c ?_)
  refine (x_aload1 D309_1192 rfl).trans ?_
  refine (x_iload2 D309_1193 rfl).trans ?_
  refine (x_iconst D309_1195 (k := 2) (by decide)).trans ?_
  refine (x_iadd D309_1196).trans ?_
  refine (x_iaload D309_1197).trans (ga_c ?_)
  refine (x_cI D309_1198 M281 (fun z => by cases z) (I281 _ _ _) rfl rfl (ok_i M281 (I281 _ _ _) rfl rfl h_a2)).trans (bI_c fun v4 m3 => ?_)
  refine (x_ceq D309_1201).trans (i_c ?_ ?_)
  · rfl
  · refine (x_iconst D309_1204 (k := 0) (by decide)).trans ?_
    exact (x_bret D309_1205 M309.2.2.1).trans yB0
theorem La_law_1206_e (d : Nat) (a0 : Nat) (a1 : Nat) (a2 : Nat) (a3 : Nat) (x4 : Int32) (w5 : Value) (w6 : Value) (m : eM) (h_a1 : kd a1 = 9) (h_a2 : kd a2 = 10) : La_law_1206 (d + 1) a0 a1 a2 a3 x4 w5 w6 m = ga m a0 20 (x4 + (1 : Int32)) (ga m a0 20 (x4 + (2 : Int32)) (bI (LC_hidden d a1 (gI m a0 (x4 + (1 : Int32)).toNatClampNeg) (gI m a0 (x4 + (2 : Int32)).toNatClampNeg) m) fun v2 m1 => ga m1 a0 20 (x4 + (1 : Int32)) (ga m1 a0 20 (x4 + (2 : Int32)) (bI (Mo_hidden d a2 (gI m1 a0 (x4 + (1 : Int32)).toNatClampNeg) (gI m1 a0 (x4 + (2 : Int32)).toNatClampNeg) m1) fun v4 m3 => if v2 = v4 then (La_law_1818 (d + 1) a0 a1 a2 a3 x4 w5 w6 m3) else (yI (0 : Int32) m3))))) := by
  unfold La_law_1206
  refine (x_aload1 D309_1206 rfl).trans ?_
  refine (x_aload1 D309_1207 rfl).trans ?_
  refine (x_iload2 D309_1208 rfl).trans ?_
  refine (x_iconst D309_1210 (k := 1) (by decide)).trans ?_
  refine (x_iadd D309_1211).trans ?_
  refine (x_iaload D309_1212).trans (ga_c ?_)
  refine (x_aload1 D309_1213 rfl).trans ?_
  refine (x_iload2 D309_1214 rfl).trans ?_
  refine (x_iconst D309_1216 (k := 2) (by decide)).trans ?_
  refine (x_iadd D309_1217).trans ?_
  refine (x_iaload D309_1218).trans (ga_c ?_)
  refine (x_cI D309_1219 M180 (fun z => by cases z) (I180 _ _ _) rfl rfl (ok_i M180 (I180 _ _ _) rfl rfl h_a1)).trans (bI_c fun v2 m1 => ?_)
  refine (x_aload1 D309_1222 rfl).trans ?_
  refine (x_aload1 D309_1223 rfl).trans ?_
  refine (x_iload2 D309_1224 rfl).trans ?_
  refine (x_iconst D309_1226 (k := 1) (by decide)).trans ?_
  refine (x_iadd D309_1227).trans ?_
  refine (x_iaload D309_1228).trans (ga_c ?_)
  refine (x_aload1 D309_1229 rfl).trans ?_
  refine (x_iload2 D309_1230 rfl).trans ?_
  refine (x_iconst D309_1232 (k := 2) (by decide)).trans ?_
  refine (x_iadd D309_1233).trans ?_
  refine (x_iaload D309_1234).trans (ga_c ?_)
  refine (x_cI D309_1235 M284 (fun z => by cases z) (I284 _ _ _) rfl rfl (ok_i M284 (I284 _ _ _) rfl rfl h_a2)).trans (bI_c fun v4 m3 => ?_)
  refine (x_ceq D309_1238).trans (i_c ?_ ?_)
  · rfl
  · refine (x_iconst D309_1241 (k := 0) (by decide)).trans ?_
    exact (x_bret D309_1242 M309.2.2.1).trans yB0
theorem La_law_1243_e (d : Nat) (a0 : Nat) (a1 : Nat) (a2 : Nat) (a3 : Nat) (x4 : Int32) (w5 : Value) (w6 : Value) (m : eM) (h_a1 : kd a1 = 9) (h_a2 : kd a2 = 10) : La_law_1243 (d + 1) a0 a1 a2 a3 x4 w5 w6 m = ga m a0 20 (x4 + (1 : Int32)) (ga m a0 20 (x4 + (2 : Int32)) (bI (LC_hide d a1 (gI m a0 (x4 + (1 : Int32)).toNatClampNeg) (gI m a0 (x4 + (2 : Int32)).toNatClampNeg) m) fun v2 m1 => ga m1 a0 20 (x4 + (1 : Int32)) (ga m1 a0 20 (x4 + (2 : Int32)) (bI (Mo_hide d a2 (gI m1 a0 (x4 + (1 : Int32)).toNatClampNeg) (gI m1 a0 (x4 + (2 : Int32)).toNatClampNeg) m1) fun v4 m3 => if v2 = v4 then (La_law_1818 (d + 1) a0 a1 a2 a3 x4 w5 w6 m3) else (yI (0 : Int32) m3))))) := by
  unfold La_law_1243
  refine (x_aload1 D309_1243 rfl).trans ?_
  refine (x_aload1 D309_1244 rfl).trans ?_
  refine (x_iload2 D309_1245 rfl).trans ?_
  refine (x_iconst D309_1247 (k := 1) (by decide)).trans ?_
  refine (x_iadd D309_1248).trans ?_
  refine (x_iaload D309_1249).trans (ga_c ?_)
  refine (x_aload1 D309_1250 rfl).trans ?_
  refine (x_iload2 D309_1251 rfl).trans ?_
  refine (x_iconst D309_1253 (k := 2) (by decide)).trans ?_
  refine (x_iadd D309_1254).trans ?_
  refine (x_iaload D309_1255).trans (ga_c ?_)
  refine (x_cI D309_1256 M186 (fun z => by cases z) (I186 _ _ _) rfl rfl (ok_i M186 (I186 _ _ _) rfl rfl h_a1)).trans (bI_c fun v2 m1 => ?_)
  refine (x_aload1 D309_1259 rfl).trans ?_
  refine (x_aload1 D309_1260 rfl).trans ?_
  refine (x_iload2 D309_1261 rfl).trans ?_
  refine (x_iconst D309_1263 (k := 1) (by decide)).trans ?_
  refine (x_iadd D309_1264).trans ?_
  refine (x_iaload D309_1265).trans (ga_c ?_)
  refine (x_aload1 D309_1266 rfl).trans ?_
  refine (x_iload2 D309_1267 rfl).trans ?_
  refine (x_iconst D309_1269 (k := 2) (by decide)).trans ?_
  refine (x_iadd D309_1270).trans ?_
  refine (x_iaload D309_1271).trans (ga_c ?_)
  refine (x_cI D309_1272 M287 (fun z => by cases z) (I287 _ _ _) rfl rfl (ok_i M287 (I287 _ _ _) rfl rfl h_a2)).trans (bI_c fun v4 m3 => ?_)
  refine (x_ceq D309_1275).trans (i_c ?_ ?_)
  · rfl
  · refine (x_iconst D309_1278 (k := 0) (by decide)).trans ?_
    exact (x_bret D309_1279 M309.2.2.1).trans yB0
theorem La_law_1280_e (d : Nat) (a0 : Nat) (a1 : Nat) (a2 : Nat) (a3 : Nat) (x4 : Int32) (w5 : Value) (w6 : Value) (m : eM) (h_a1 : kd a1 = 9) (h_a2 : kd a2 = 10) : La_law_1280 (d + 1) a0 a1 a2 a3 x4 w5 w6 m = ga m a0 20 (x4 + (1 : Int32)) (ga m a0 20 (x4 + (2 : Int32)) (ga m a0 20 (x4 + (3 : Int32)) (ga m a0 20 (x4 + (4 : Int32)) (ga m a0 20 (x4 + (5 : Int32)) (bI (La_sec d a1 (gI m a0 (x4 + (1 : Int32)).toNatClampNeg) (gI m a0 (x4 + (2 : Int32)).toNatClampNeg) (gI m a0 (x4 + (3 : Int32)).toNatClampNeg) (gI m a0 (x4 + (4 : Int32)).toNatClampNeg) (gI m a0 (x4 + (5 : Int32)).toNatClampNeg) a3 m) fun v2 m1 => ga m1 a0 20 (x4 + (1 : Int32)) (ga m1 a0 20 (x4 + (2 : Int32)) (ga m1 a0 20 (x4 + (3 : Int32)) (ga m1 a0 20 (x4 + (4 : Int32)) (ga m1 a0 20 (x4 + (5 : Int32)) (bL (Mo_secret d a2 (gI m1 a0 (x4 + (1 : Int32)).toNatClampNeg) (gI m1 a0 (x4 + (2 : Int32)).toNatClampNeg) (gI m1 a0 (x4 + (3 : Int32)).toNatClampNeg) (gI m1 a0 (x4 + (4 : Int32)).toNatClampNeg) (gI m1 a0 (x4 + (5 : Int32)).toNatClampNeg) m1) fun v4 m3 => bI (Mo_thrown d a2 m3) fun v6 m5 => if v6 = v2 then (if ¬ v2 = 0 then (La_law_1818 (d + 1) a0 a1 a2 a3 x4 (.int v2) (.long v4) m5) else (ga m5 a3 21 (0 : Int32) (if (lg_cmp (gL m5 a3 (0 : Int32).toNatClampNeg) v4) = 0 then (La_law_1818 (d + 1) a0 a1 a2 a3 x4 (.int v2) (.long v4) m5) else (yI (0 : Int32) m5)))) else (yI (0 : Int32) m5))))))))))) := by
  unfold La_law_1280
  refine (x_aload1 D309_1280 rfl).trans ?_
  refine (x_aload1 D309_1281 rfl).trans ?_
  refine (x_iload2 D309_1282 rfl).trans ?_
  refine (x_iconst D309_1284 (k := 1) (by decide)).trans ?_
  refine (x_iadd D309_1285).trans ?_
  refine (x_iaload D309_1286).trans (ga_c ?_)
  refine (x_aload1 D309_1287 rfl).trans ?_
  refine (x_iload2 D309_1288 rfl).trans ?_
  refine (x_iconst D309_1290 (k := 2) (by decide)).trans ?_
  refine (x_iadd D309_1291).trans ?_
  refine (x_iaload D309_1292).trans (ga_c ?_)
  refine (x_aload1 D309_1293 rfl).trans ?_
  refine (x_iload2 D309_1294 rfl).trans ?_
  refine (x_iconst D309_1296 (k := 3) (by decide)).trans ?_
  refine (x_iadd D309_1297).trans ?_
  refine (x_iaload D309_1298).trans (ga_c ?_)
  refine (x_aload1 D309_1299 rfl).trans ?_
  refine (x_iload2 D309_1300 rfl).trans ?_
  refine (x_iconst D309_1302 (k := 4) (by decide)).trans ?_
  refine (x_iadd D309_1303).trans ?_
  refine (x_iaload D309_1304).trans (ga_c ?_)
  refine (x_aload1 D309_1305 rfl).trans ?_
  refine (x_iload2 D309_1306 rfl).trans ?_
  refine (x_iconst D309_1308 (k := 5) (by decide)).trans ?_
  refine (x_iadd D309_1309).trans ?_
  refine (x_iaload D309_1310).trans (ga_c ?_)
  refine (x_aload1 D309_1311 rfl).trans ?_
  refine (x_cI D309_1312 M308 (fun z => by cases z) (I308 _ _ _ _ _ _ _) rfl rfl (ok_s M308 (I308 _ _ _ _ _ _ _) rfl rfl)).trans (bI_c fun v2 m1 => ?_)
  refine (x_istore2 D309_1315 (ls' := [.ref a0, .ref a1, .ref a2, .ref a3, .int x4, .int v2, w6, eU]) rfl rfl).trans ?_
  refine (x_aload1 D309_1317 rfl).trans ?_
  refine (x_aload1 D309_1318 rfl).trans ?_
  refine (x_iload2 D309_1319 rfl).trans ?_
  refine (x_iconst D309_1321 (k := 1) (by decide)).trans ?_
  refine (x_iadd D309_1322).trans ?_
  refine (x_iaload D309_1323).trans (ga_c ?_)
  refine (x_aload1 D309_1324 rfl).trans ?_
  refine (x_iload2 D309_1325 rfl).trans ?_
  refine (x_iconst D309_1327 (k := 2) (by decide)).trans ?_
  refine (x_iadd D309_1328).trans ?_
  refine (x_iaload D309_1329).trans (ga_c ?_)
  refine (x_aload1 D309_1330 rfl).trans ?_
  refine (x_iload2 D309_1331 rfl).trans ?_
  refine (x_iconst D309_1333 (k := 3) (by decide)).trans ?_
  refine (x_iadd D309_1334).trans ?_
  refine (x_iaload D309_1335).trans (ga_c ?_)
  refine (x_aload1 D309_1336 rfl).trans ?_
  refine (x_iload2 D309_1337 rfl).trans ?_
  refine (x_iconst D309_1339 (k := 4) (by decide)).trans ?_
  refine (x_iadd D309_1340).trans ?_
  refine (x_iaload D309_1341).trans (ga_c ?_)
  refine (x_aload1 D309_1342 rfl).trans ?_
  refine (x_iload2 D309_1343 rfl).trans ?_
  refine (x_iconst D309_1345 (k := 5) (by decide)).trans ?_
  refine (x_iadd D309_1346).trans ?_
  refine (x_iaload D309_1347).trans (ga_c ?_)
  refine (x_cL D309_1348 M288  (I288 _ _ _ _ _ _) rfl rfl (ok_i M288 (I288 _ _ _ _ _ _) rfl rfl h_a2)).trans (bL_c fun v4 m3 => ?_)
  refine (x_lstore2 D309_1351 (ls' := [.ref a0, .ref a1, .ref a2, .ref a3, .int x4, .int v2, .long v4, eU]) rfl rfl).trans ?_
  refine (x_aload1 D309_1353 rfl).trans ?_
  refine (x_cI D309_1354 M206 (fun z => by cases z) (I206 _) rfl rfl (ok_i M206 (I206 _) rfl rfl h_a2)).trans (bI_c fun v6 m5 => ?_)
  refine (x_iload2 D309_1357 rfl).trans ?_
  refine (x_ceq D309_1359).trans (i_c ?_ ?_)
  · refine (x_iload2 D309_1364 rfl).trans ?_
    refine (x_ifne D309_1366).trans (i_c ?_ ?_)
    · refine (x_goto D309_1380).trans ?_
      rfl
    · refine (x_aload1 D309_1369 rfl).trans ?_
      refine (x_iconst D309_1370 (k := 0) (by decide)).trans ?_
      refine (x_laload D309_1371).trans (ga_c ?_)
      refine (x_lload2 D309_1372 rfl).trans ?_
      refine (x_lcmp D309_1374).trans ?_
      refine (x_ifeq D309_1375).trans (i_c ?_ ?_)
      · refine (x_goto D309_1380).trans ?_
        rfl
      · refine (x_iconst D309_1378 (k := 0) (by decide)).trans ?_
        exact (x_bret D309_1379 M309.2.2.1).trans yB0
  · refine (x_iconst D309_1362 (k := 0) (by decide)).trans ?_
    exact (x_bret D309_1363 M309.2.2.1).trans yB0
theorem La_law_1383_e (d : Nat) (a0 : Nat) (a1 : Nat) (a2 : Nat) (a3 : Nat) (x4 : Int32) (w5 : Value) (w6 : Value) (m : eM) (h_a1 : kd a1 = 9) (h_a2 : kd a2 = 10) : La_law_1383 (d + 1) a0 a1 a2 a3 x4 w5 w6 m = ga m a0 20 (x4 + (1 : Int32)) (ga m a0 20 (x4 + (2 : Int32)) (bI (LC_sector d a1 (gI m a0 (x4 + (1 : Int32)).toNatClampNeg) (gI m a0 (x4 + (2 : Int32)).toNatClampNeg) m) fun v2 m1 => ga m1 a0 20 (x4 + (1 : Int32)) (ga m1 a0 20 (x4 + (2 : Int32)) (bI (Mo_sector d a2 (gI m1 a0 (x4 + (1 : Int32)).toNatClampNeg) (gI m1 a0 (x4 + (2 : Int32)).toNatClampNeg) m1) fun v4 m3 => if v2 = v4 then (La_law_1818 (d + 1) a0 a1 a2 a3 x4 w5 w6 m3) else (yI (0 : Int32) m3))))) := by
  unfold La_law_1383
  refine (x_aload1 D309_1383 rfl).trans ?_
  refine (x_aload1 D309_1384 rfl).trans ?_
  refine (x_iload2 D309_1385 rfl).trans ?_
  refine (x_iconst D309_1387 (k := 1) (by decide)).trans ?_
  refine (x_iadd D309_1388).trans ?_
  refine (x_iaload D309_1389).trans (ga_c ?_)
  refine (x_aload1 D309_1390 rfl).trans ?_
  refine (x_iload2 D309_1391 rfl).trans ?_
  refine (x_iconst D309_1393 (k := 2) (by decide)).trans ?_
  refine (x_iadd D309_1394).trans ?_
  refine (x_iaload D309_1395).trans (ga_c ?_)
  refine (x_cI D309_1396 M187 (fun z => by cases z) (I187 _ _ _) rfl rfl (ok_i M187 (I187 _ _ _) rfl rfl h_a1)).trans (bI_c fun v2 m1 => ?_)
  refine (x_aload1 D309_1399 rfl).trans ?_
  refine (x_aload1 D309_1400 rfl).trans ?_
  refine (x_iload2 D309_1401 rfl).trans ?_
  refine (x_iconst D309_1403 (k := 1) (by decide)).trans ?_
  refine (x_iadd D309_1404).trans ?_
  refine (x_iaload D309_1405).trans (ga_c ?_)
  refine (x_aload1 D309_1406 rfl).trans ?_
  refine (x_iload2 D309_1407 rfl).trans ?_
  refine (x_iconst D309_1409 (k := 2) (by decide)).trans ?_
  refine (x_iadd D309_1410).trans ?_
  refine (x_iaload D309_1411).trans (ga_c ?_)
  refine (x_cI D309_1412 M289 (fun z => by cases z) (I289 _ _ _) rfl rfl (ok_i M289 (I289 _ _ _) rfl rfl h_a2)).trans (bI_c fun v4 m3 => ?_)
  refine (x_ceq D309_1415).trans (i_c ?_ ?_)
  · rfl
  · refine (x_iconst D309_1418 (k := 0) (by decide)).trans ?_
    exact (x_bret D309_1419 M309.2.2.1).trans yB0
theorem La_law_1420_e (d : Nat) (a0 : Nat) (a1 : Nat) (a2 : Nat) (a3 : Nat) (x4 : Int32) (w5 : Value) (w6 : Value) (m : eM) (h_a1 : kd a1 = 9) (h_a2 : kd a2 = 10) : La_law_1420 (d + 1) a0 a1 a2 a3 x4 w5 w6 m = ga m a0 20 (x4 + (1 : Int32)) (ga m a0 20 (x4 + (2 : Int32)) (bI (LC_blind d a1 (gI m a0 (x4 + (1 : Int32)).toNatClampNeg) (gI m a0 (x4 + (2 : Int32)).toNatClampNeg) m) fun v2 m1 => ga m1 a0 20 (x4 + (1 : Int32)) (ga m1 a0 20 (x4 + (2 : Int32)) (bI (Mo_blind d a2 (gI m1 a0 (x4 + (1 : Int32)).toNatClampNeg) (gI m1 a0 (x4 + (2 : Int32)).toNatClampNeg) m1) fun v4 m3 => if v2 = v4 then (La_law_1818 (d + 1) a0 a1 a2 a3 x4 w5 w6 m3) else (yI (0 : Int32) m3))))) := by
  unfold La_law_1420
  refine (x_aload1 D309_1420 rfl).trans ?_
  refine (x_aload1 D309_1421 rfl).trans ?_
  refine (x_iload2 D309_1422 rfl).trans ?_
  refine (x_iconst D309_1424 (k := 1) (by decide)).trans ?_
  refine (x_iadd D309_1425).trans ?_
  refine (x_iaload D309_1426).trans (ga_c ?_)
  refine (x_aload1 D309_1427 rfl).trans ?_
  refine (x_iload2 D309_1428 rfl).trans ?_
  refine (x_iconst D309_1430 (k := 2) (by decide)).trans ?_
  refine (x_iadd D309_1431).trans ?_
  refine (x_iaload D309_1432).trans (ga_c ?_)
  refine (x_cI D309_1433 M188 (fun z => by cases z) (I188 _ _ _) rfl rfl (ok_i M188 (I188 _ _ _) rfl rfl h_a1)).trans (bI_c fun v2 m1 => ?_)
  refine (x_aload1 D309_1436 rfl).trans ?_
  refine (x_aload1 D309_1437 rfl).trans ?_
  refine (x_iload2 D309_1438 rfl).trans ?_
  refine (x_iconst D309_1440 (k := 1) (by decide)).trans ?_
  refine (x_iadd D309_1441).trans ?_
  refine (x_iaload D309_1442).trans (ga_c ?_)
  refine (x_aload1 D309_1443 rfl).trans ?_
  refine (x_iload2 D309_1444 rfl).trans ?_
  refine (x_iconst D309_1446 (k := 2) (by decide)).trans ?_
  refine (x_iadd D309_1447).trans ?_
  refine (x_iaload D309_1448).trans (ga_c ?_)
  refine (x_cI D309_1449 M290 (fun z => by cases z) (I290 _ _ _) rfl rfl (ok_i M290 (I290 _ _ _) rfl rfl h_a2)).trans (bI_c fun v4 m3 => ?_)
  refine (x_ceq D309_1452).trans (i_c ?_ ?_)
  · rfl
  · refine (x_iconst D309_1455 (k := 0) (by decide)).trans ?_
    exact (x_bret D309_1456 M309.2.2.1).trans yB0
theorem La_law_1457_e (d : Nat) (a0 : Nat) (a1 : Nat) (a2 : Nat) (a3 : Nat) (x4 : Int32) (w5 : Value) (w6 : Value) (m : eM) (h_a1 : kd a1 = 9) (h_a2 : kd a2 = 10) : La_law_1457 (d + 1) a0 a1 a2 a3 x4 w5 w6 m = ga m a0 20 (x4 + (1 : Int32)) (bI (LC_told d a1 (gI m a0 (x4 + (1 : Int32)).toNatClampNeg) m) fun v2 m1 => ga m1 a0 20 (x4 + (1 : Int32)) (bI (Mo_told d a2 (gI m1 a0 (x4 + (1 : Int32)).toNatClampNeg) m1) fun v4 m3 => if v2 = v4 then (La_law_1818 (d + 1) a0 a1 a2 a3 x4 w5 w6 m3) else (yI (0 : Int32) m3))) := by
  unfold La_law_1457
  refine (x_aload1 D309_1457 rfl).trans ?_
  refine (x_aload1 D309_1458 rfl).trans ?_
  refine (x_iload2 D309_1459 rfl).trans ?_
  refine (x_iconst D309_1461 (k := 1) (by decide)).trans ?_
  refine (x_iadd D309_1462).trans ?_
  refine (x_iaload D309_1463).trans (ga_c ?_)
  refine (x_cI D309_1464 M191 (fun z => by cases z) (I191 _ _) rfl rfl (ok_i M191 (I191 _ _) rfl rfl h_a1)).trans (bI_c fun v2 m1 => ?_)
  refine (x_aload1 D309_1467 rfl).trans ?_
  refine (x_aload1 D309_1468 rfl).trans ?_
  refine (x_iload2 D309_1469 rfl).trans ?_
  refine (x_iconst D309_1471 (k := 1) (by decide)).trans ?_
  refine (x_iadd D309_1472).trans ?_
  refine (x_iaload D309_1473).trans (ga_c ?_)
  refine (x_cI D309_1474 M291 (fun z => by cases z) (I291 _ _) rfl rfl (ok_i M291 (I291 _ _) rfl rfl h_a2)).trans (bI_c fun v4 m3 => ?_)
  refine (x_ceq D309_1477).trans (i_c ?_ ?_)
  · rfl
  · refine (x_iconst D309_1480 (k := 0) (by decide)).trans ?_
    exact (x_bret D309_1481 M309.2.2.1).trans yB0
theorem La_law_1482_e (d : Nat) (a0 : Nat) (a1 : Nat) (a2 : Nat) (a3 : Nat) (x4 : Int32) (w5 : Value) (w6 : Value) (m : eM) (h_a1 : kd a1 = 9) (h_a2 : kd a2 = 10) : La_law_1482 (d + 1) a0 a1 a2 a3 x4 w5 w6 m = ga m a0 20 (x4 + (1 : Int32)) (ga m a0 20 (x4 + (2 : Int32)) (bI (LC_fewest d a1 (gI m a0 (x4 + (1 : Int32)).toNatClampNeg) (gI m a0 (x4 + (2 : Int32)).toNatClampNeg) m) fun v2 m1 => ga m1 a0 20 (x4 + (1 : Int32)) (ga m1 a0 20 (x4 + (2 : Int32)) (bI (Mo_fewest d a2 (gI m1 a0 (x4 + (1 : Int32)).toNatClampNeg) (gI m1 a0 (x4 + (2 : Int32)).toNatClampNeg) m1) fun v4 m3 => if v2 = v4 then (La_law_1818 (d + 1) a0 a1 a2 a3 x4 w5 w6 m3) else (yI (0 : Int32) m3))))) := by
  unfold La_law_1482
  refine (x_aload1 D309_1482 rfl).trans ?_
  refine (x_aload1 D309_1483 rfl).trans ?_
  refine (x_iload2 D309_1484 rfl).trans ?_
  refine (x_iconst D309_1486 (k := 1) (by decide)).trans ?_
  refine (x_iadd D309_1487).trans ?_
  refine (x_iaload D309_1488).trans (ga_c ?_)
  refine (x_aload1 D309_1489 rfl).trans ?_
  refine (x_iload2 D309_1490 rfl).trans ?_
  refine (x_iconst D309_1492 (k := 2) (by decide)).trans ?_
  refine (x_iadd D309_1493).trans ?_
  refine (x_iaload D309_1494).trans (ga_c ?_)
  refine (x_cI D309_1495 M193 (fun z => by cases z) (I193 _ _ _) rfl rfl (ok_i M193 (I193 _ _ _) rfl rfl h_a1)).trans (bI_c fun v2 m1 => ?_)
  refine (x_aload1 D309_1498 rfl).trans ?_
  refine (x_aload1 D309_1499 rfl).trans ?_
  refine (x_iload2 D309_1500 rfl).trans ?_
  refine (x_iconst D309_1502 (k := 1) (by decide)).trans ?_
  refine (x_iadd D309_1503).trans ?_
  refine (x_iaload D309_1504).trans (ga_c ?_)
  refine (x_aload1 D309_1505 rfl).trans ?_
  refine (x_iload2 D309_1506 rfl).trans ?_
  refine (x_iconst D309_1508 (k := 2) (by decide)).trans ?_
  refine (x_iadd D309_1509).trans ?_
  refine (x_iaload D309_1510).trans (ga_c ?_)
  refine (x_cI D309_1511 M293 (fun z => by cases z) (I293 _ _ _) rfl rfl (ok_i M293 (I293 _ _ _) rfl rfl h_a2)).trans (bI_c fun v4 m3 => ?_)
  refine (x_ceq D309_1514).trans (i_c ?_ ?_)
  · rfl
  · refine (x_iconst D309_1517 (k := 0) (by decide)).trans ?_
    exact (x_bret D309_1518 M309.2.2.1).trans yB0
theorem La_law_1519_e (d : Nat) (a0 : Nat) (a1 : Nat) (a2 : Nat) (a3 : Nat) (x4 : Int32) (w5 : Value) (w6 : Value) (m : eM) (h_a1 : kd a1 = 9) (h_a2 : kd a2 = 10) : La_law_1519 (d + 1) a0 a1 a2 a3 x4 w5 w6 m = ga m a0 20 (x4 + (1 : Int32)) (ga m a0 20 (x4 + (2 : Int32)) (bI (LC_person d a1 (gI m a0 (x4 + (1 : Int32)).toNatClampNeg) (gI m a0 (x4 + (2 : Int32)).toNatClampNeg) m) fun v2 m1 => ga m1 a0 20 (x4 + (1 : Int32)) (ga m1 a0 20 (x4 + (2 : Int32)) (bI (Mo_person d a2 (gI m1 a0 (x4 + (1 : Int32)).toNatClampNeg) (gI m1 a0 (x4 + (2 : Int32)).toNatClampNeg) m1) fun v4 m3 => if v2 = v4 then (La_law_1818 (d + 1) a0 a1 a2 a3 x4 w5 w6 m3) else (yI (0 : Int32) m3))))) := by
  unfold La_law_1519
  refine (x_aload1 D309_1519 rfl).trans ?_
  refine (x_aload1 D309_1520 rfl).trans ?_
  refine (x_iload2 D309_1521 rfl).trans ?_
  refine (x_iconst D309_1523 (k := 1) (by decide)).trans ?_
  refine (x_iadd D309_1524).trans ?_
  refine (x_iaload D309_1525).trans (ga_c ?_)
  refine (x_aload1 D309_1526 rfl).trans ?_
  refine (x_iload2 D309_1527 rfl).trans ?_
  refine (x_iconst D309_1529 (k := 2) (by decide)).trans ?_
  refine (x_iadd D309_1530).trans ?_
  refine (x_iaload D309_1531).trans (ga_c ?_)
  refine (x_cI D309_1532 M194 (fun z => by cases z) (I194 _ _ _) rfl rfl (ok_i M194 (I194 _ _ _) rfl rfl h_a1)).trans (bI_c fun v2 m1 => ?_)
  refine (x_aload1 D309_1535 rfl).trans ?_
  refine (x_aload1 D309_1536 rfl).trans ?_
  refine (x_iload2 D309_1537 rfl).trans ?_
  refine (x_iconst D309_1539 (k := 1) (by decide)).trans ?_
  refine (x_iadd D309_1540).trans ?_
  refine (x_iaload D309_1541).trans (ga_c ?_)
  refine (x_aload1 D309_1542 rfl).trans ?_
  refine (x_iload2 D309_1543 rfl).trans ?_
  refine (x_iconst D309_1545 (k := 2) (by decide)).trans ?_
  refine (x_iadd D309_1546).trans ?_
  refine (x_iaload D309_1547).trans (ga_c ?_)
  refine (x_cI D309_1548 M294 (fun z => by cases z) (I294 _ _ _) rfl rfl (ok_i M294 (I294 _ _ _) rfl rfl h_a2)).trans (bI_c fun v4 m3 => ?_)
  refine (x_ceq D309_1551).trans (i_c ?_ ?_)
  · rfl
  · refine (x_iconst D309_1554 (k := 0) (by decide)).trans ?_
    exact (x_bret D309_1555 M309.2.2.1).trans yB0
theorem La_law_1556_e (d : Nat) (a0 : Nat) (a1 : Nat) (a2 : Nat) (a3 : Nat) (x4 : Int32) (w5 : Value) (w6 : Value) (m : eM) (h_a1 : kd a1 = 9) (h_a2 : kd a2 = 10) : La_law_1556 (d + 1) a0 a1 a2 a3 x4 w5 w6 m = ga m a0 20 (x4 + (1 : Int32)) (ga m a0 20 (x4 + (2 : Int32)) (ga m a0 20 (x4 + (3 : Int32)) (bI (LC_lookout d a1 (gI m a0 (x4 + (1 : Int32)).toNatClampNeg) (gI m a0 (x4 + (2 : Int32)).toNatClampNeg) (gI m a0 (x4 + (3 : Int32)).toNatClampNeg) m) fun v2 m1 => ga m1 a0 20 (x4 + (1 : Int32)) (ga m1 a0 20 (x4 + (2 : Int32)) (ga m1 a0 20 (x4 + (3 : Int32)) (bI (Mo_lookout d a2 (gI m1 a0 (x4 + (1 : Int32)).toNatClampNeg) (gI m1 a0 (x4 + (2 : Int32)).toNatClampNeg) (gI m1 a0 (x4 + (3 : Int32)).toNatClampNeg) m1) fun v4 m3 => if v2 = v4 then (La_law_1818 (d + 1) a0 a1 a2 a3 x4 w5 w6 m3) else (yI (0 : Int32) m3))))))) := by
  unfold La_law_1556
  refine (x_aload1 D309_1556 rfl).trans ?_
  refine (x_aload1 D309_1557 rfl).trans ?_
  refine (x_iload2 D309_1558 rfl).trans ?_
  refine (x_iconst D309_1560 (k := 1) (by decide)).trans ?_
  refine (x_iadd D309_1561).trans ?_
  refine (x_iaload D309_1562).trans (ga_c ?_)
  refine (x_aload1 D309_1563 rfl).trans ?_
  refine (x_iload2 D309_1564 rfl).trans ?_
  refine (x_iconst D309_1566 (k := 2) (by decide)).trans ?_
  refine (x_iadd D309_1567).trans ?_
  refine (x_iaload D309_1568).trans (ga_c ?_)
  refine (x_aload1 D309_1569 rfl).trans ?_
  refine (x_iload2 D309_1570 rfl).trans ?_
  refine (x_iconst D309_1572 (k := 3) (by decide)).trans ?_
  refine (x_iadd D309_1573).trans ?_
  refine (x_iaload D309_1574).trans (ga_c ?_)
  refine (x_cI D309_1575 M150 (fun z => by cases z) (I150 _ _ _ _) rfl rfl (ok_i M150 (I150 _ _ _ _) rfl rfl h_a1)).trans (bI_c fun v2 m1 => ?_)
  refine (x_aload1 D309_1578 rfl).trans ?_
  refine (x_aload1 D309_1579 rfl).trans ?_
  refine (x_iload2 D309_1580 rfl).trans ?_
  refine (x_iconst D309_1582 (k := 1) (by decide)).trans ?_
  refine (x_iadd D309_1583).trans ?_
  refine (x_iaload D309_1584).trans (ga_c ?_)
  refine (x_aload1 D309_1585 rfl).trans ?_
  refine (x_iload2 D309_1586 rfl).trans ?_
  refine (x_iconst D309_1588 (k := 2) (by decide)).trans ?_
  refine (x_iadd D309_1589).trans ?_
  refine (x_iaload D309_1590).trans (ga_c ?_)
  refine (x_aload1 D309_1591 rfl).trans ?_
  refine (x_iload2 D309_1592 rfl).trans ?_
  refine (x_iconst D309_1594 (k := 3) (by decide)).trans ?_
  refine (x_iadd D309_1595).trans ?_
  refine (x_iaload D309_1596).trans (ga_c ?_)
  refine (x_cI D309_1597 M295 (fun z => by cases z) (I295 _ _ _ _) rfl rfl (ok_i M295 (I295 _ _ _ _) rfl rfl h_a2)).trans (bI_c fun v4 m3 => ?_)
  refine (x_ceq D309_1600).trans (i_c ?_ ?_)
  · rfl
  · refine (x_iconst D309_1603 (k := 0) (by decide)).trans ?_
    exact (x_bret D309_1604 M309.2.2.1).trans yB0
theorem La_law_1605_e (d : Nat) (a0 : Nat) (a1 : Nat) (a2 : Nat) (a3 : Nat) (x4 : Int32) (w5 : Value) (w6 : Value) (m : eM) (h_a1 : kd a1 = 9) (h_a2 : kd a2 = 10) : La_law_1605 (d + 1) a0 a1 a2 a3 x4 w5 w6 m = ga m a0 20 (x4 + (1 : Int32)) (ga m a0 20 (x4 + (2 : Int32)) (bI (LC_move d a1 (gI m a0 (x4 + (1 : Int32)).toNatClampNeg) (gI m a0 (x4 + (2 : Int32)).toNatClampNeg) m) fun v2 m1 => ga m1 a0 20 (x4 + (1 : Int32)) (ga m1 a0 20 (x4 + (2 : Int32)) (bI (Mo_move d a2 (gI m1 a0 (x4 + (1 : Int32)).toNatClampNeg) (gI m1 a0 (x4 + (2 : Int32)).toNatClampNeg) m1) fun v4 m3 => if v2 = v4 then (La_law_1818 (d + 1) a0 a1 a2 a3 x4 w5 w6 m3) else (yI (0 : Int32) m3))))) := by
  unfold La_law_1605
  refine (x_aload1 D309_1605 rfl).trans ?_
  refine (x_aload1 D309_1606 rfl).trans ?_
  refine (x_iload2 D309_1607 rfl).trans ?_
  refine (x_iconst D309_1609 (k := 1) (by decide)).trans ?_
  refine (x_iadd D309_1610).trans ?_
  refine (x_iaload D309_1611).trans (ga_c ?_)
  refine (x_aload1 D309_1612 rfl).trans ?_
  refine (x_iload2 D309_1613 rfl).trans ?_
  refine (x_iconst D309_1615 (k := 2) (by decide)).trans ?_
  refine (x_iadd D309_1616).trans ?_
  refine (x_iaload D309_1617).trans (ga_c ?_)
  refine (x_cI D309_1618 M177 (fun z => by cases z) (I177 _ _ _) rfl rfl (ok_i M177 (I177 _ _ _) rfl rfl h_a1)).trans (bI_c fun v2 m1 => ?_)
  refine (x_aload1 D309_1621 rfl).trans ?_
  refine (x_aload1 D309_1622 rfl).trans ?_
  refine (x_iload2 D309_1623 rfl).trans ?_
  refine (x_iconst D309_1625 (k := 1) (by decide)).trans ?_
  refine (x_iadd D309_1626).trans ?_
  refine (x_iaload D309_1627).trans (ga_c ?_)
  refine (x_aload1 D309_1628 rfl).trans ?_
  refine (x_iload2 D309_1629 rfl).trans ?_
  refine (x_iconst D309_1631 (k := 2) (by decide)).trans ?_
  refine (x_iadd D309_1632).trans ?_
  refine (x_iaload D309_1633).trans (ga_c ?_)
  refine (x_cI D309_1634 M300 (fun z => by cases z) (I300 _ _ _) rfl rfl (ok_i M300 (I300 _ _ _) rfl rfl h_a2)).trans (bI_c fun v4 m3 => ?_)
  refine (x_ceq D309_1637).trans (i_c ?_ ?_)
  · rfl
  · refine (x_iconst D309_1640 (k := 0) (by decide)).trans ?_
    exact (x_bret D309_1641 M309.2.2.1).trans yB0
theorem La_law_1642_e (d : Nat) (a0 : Nat) (a1 : Nat) (a2 : Nat) (a3 : Nat) (x4 : Int32) (w5 : Value) (w6 : Value) (m : eM) (h_a1 : kd a1 = 9) (h_a2 : kd a2 = 10) : La_law_1642 (d + 1) a0 a1 a2 a3 x4 w5 w6 m = ga m a0 20 (x4 + (1 : Int32)) (ga m a0 20 (x4 + (2 : Int32)) (ga m a0 20 (x4 + (3 : Int32)) (ga m a0 20 (x4 + (4 : Int32)) (bI (LC_longest d a1 (gI m a0 (x4 + (1 : Int32)).toNatClampNeg) (gI m a0 (x4 + (2 : Int32)).toNatClampNeg) (gI m a0 (x4 + (3 : Int32)).toNatClampNeg) (gI m a0 (x4 + (4 : Int32)).toNatClampNeg) m) fun v2 m1 => ga m1 a0 20 (x4 + (1 : Int32)) (ga m1 a0 20 (x4 + (2 : Int32)) (ga m1 a0 20 (x4 + (3 : Int32)) (ga m1 a0 20 (x4 + (4 : Int32)) (bI (Mo_longest d a2 (gI m1 a0 (x4 + (1 : Int32)).toNatClampNeg) (gI m1 a0 (x4 + (2 : Int32)).toNatClampNeg) (gI m1 a0 (x4 + (3 : Int32)).toNatClampNeg) (gI m1 a0 (x4 + (4 : Int32)).toNatClampNeg) m1) fun v4 m3 => if v2 = v4 then (La_law_1818 (d + 1) a0 a1 a2 a3 x4 w5 w6 m3) else (yI (0 : Int32) m3))))))))) := by
  unfold La_law_1642
  refine (x_aload1 D309_1642 rfl).trans ?_
  refine (x_aload1 D309_1643 rfl).trans ?_
  refine (x_iload2 D309_1644 rfl).trans ?_
  refine (x_iconst D309_1646 (k := 1) (by decide)).trans ?_
  refine (x_iadd D309_1647).trans ?_
  refine (x_iaload D309_1648).trans (ga_c ?_)
  refine (x_aload1 D309_1649 rfl).trans ?_
  refine (x_iload2 D309_1650 rfl).trans ?_
  refine (x_iconst D309_1652 (k := 2) (by decide)).trans ?_
  refine (x_iadd D309_1653).trans ?_
  refine (x_iaload D309_1654).trans (ga_c ?_)
  refine (x_aload1 D309_1655 rfl).trans ?_
  refine (x_iload2 D309_1656 rfl).trans ?_
  refine (x_iconst D309_1658 (k := 3) (by decide)).trans ?_
  refine (x_iadd D309_1659).trans ?_
  refine (x_iaload D309_1660).trans (ga_c ?_)
  refine (x_aload1 D309_1661 rfl).trans ?_
  refine (x_iload2 D309_1662 rfl).trans ?_
  refine (x_iconst D309_1664 (k := 4) (by decide)).trans ?_
  refine (x_iadd D309_1665).trans ?_
  refine (x_iaload D309_1666).trans (ga_c ?_)
  refine (x_cI D309_1667 M173 (fun z => by cases z) (I173 _ _ _ _ _) rfl rfl (ok_i M173 (I173 _ _ _ _ _) rfl rfl h_a1)).trans (bI_c fun v2 m1 => ?_)
  refine (x_aload1 D309_1670 rfl).trans ?_
  refine (x_aload1 D309_1671 rfl).trans ?_
  refine (x_iload2 D309_1672 rfl).trans ?_
  refine (x_iconst D309_1674 (k := 1) (by decide)).trans ?_
  refine (x_iadd D309_1675).trans ?_
  refine (x_iaload D309_1676).trans (ga_c ?_)
  refine (x_aload1 D309_1677 rfl).trans ?_
  refine (x_iload2 D309_1678 rfl).trans ?_
  refine (x_iconst D309_1680 (k := 2) (by decide)).trans ?_
  refine (x_iadd D309_1681).trans ?_
  refine (x_iaload D309_1682).trans (ga_c ?_)
  refine (x_aload1 D309_1683 rfl).trans ?_
  refine (x_iload2 D309_1684 rfl).trans ?_
  refine (x_iconst D309_1686 (k := 3) (by decide)).trans ?_
  refine (x_iadd D309_1687).trans ?_
  refine (x_iaload D309_1688).trans (ga_c ?_)
  refine (x_aload1 D309_1689 rfl).trans ?_
  refine (x_iload2 D309_1690 rfl).trans ?_
  refine (x_iconst D309_1692 (k := 4) (by decide)).trans ?_
  refine (x_iadd D309_1693).trans ?_
  refine (x_iaload D309_1694).trans (ga_c ?_)
  refine (x_cI D309_1695 M301 (fun z => by cases z) (I301 _ _ _ _ _) rfl rfl (ok_i M301 (I301 _ _ _ _ _) rfl rfl h_a2)).trans (bI_c fun v4 m3 => ?_)
  refine (x_ceq D309_1698).trans (i_c ?_ ?_)
  · rfl
  · refine (x_iconst D309_1701 (k := 0) (by decide)).trans ?_
    exact (x_bret D309_1702 M309.2.2.1).trans yB0
theorem La_law_1703_e (d : Nat) (a0 : Nat) (a1 : Nat) (a2 : Nat) (a3 : Nat) (x4 : Int32) (w5 : Value) (w6 : Value) (m : eM) (h_a1 : kd a1 = 9) (h_a2 : kd a2 = 10) : La_law_1703 (d + 1) a0 a1 a2 a3 x4 w5 w6 m = ga m a0 20 (x4 + (1 : Int32)) (ga m a0 20 (x4 + (2 : Int32)) (bI (LC_differ d a1 (gI m a0 (x4 + (1 : Int32)).toNatClampNeg) (gI m a0 (x4 + (2 : Int32)).toNatClampNeg) m) fun v2 m1 => ga m1 a0 20 (x4 + (1 : Int32)) (ga m1 a0 20 (x4 + (2 : Int32)) (bI (Mo_differ d a2 (gI m1 a0 (x4 + (1 : Int32)).toNatClampNeg) (gI m1 a0 (x4 + (2 : Int32)).toNatClampNeg) m1) fun v4 m3 => if v2 = v4 then (La_law_1818 (d + 1) a0 a1 a2 a3 x4 w5 w6 m3) else (yI (0 : Int32) m3))))) := by
  unfold La_law_1703
  refine (x_aload1 D309_1703 rfl).trans ?_
  refine (x_aload1 D309_1704 rfl).trans ?_
  refine (x_iload2 D309_1705 rfl).trans ?_
  refine (x_iconst D309_1707 (k := 1) (by decide)).trans ?_
  refine (x_iadd D309_1708).trans ?_
  refine (x_iaload D309_1709).trans (ga_c ?_)
  refine (x_aload1 D309_1710 rfl).trans ?_
  refine (x_iload2 D309_1711 rfl).trans ?_
  refine (x_iconst D309_1713 (k := 2) (by decide)).trans ?_
  refine (x_iadd D309_1714).trans ?_
  refine (x_iaload D309_1715).trans (ga_c ?_)
  refine (x_cI D309_1716 M175 (fun z => by cases z) (I175 _ _ _) rfl rfl (ok_i M175 (I175 _ _ _) rfl rfl h_a1)).trans (bI_c fun v2 m1 => ?_)
  refine (x_aload1 D309_1719 rfl).trans ?_
  refine (x_aload1 D309_1720 rfl).trans ?_
  refine (x_iload2 D309_1721 rfl).trans ?_
  refine (x_iconst D309_1723 (k := 1) (by decide)).trans ?_
  refine (x_iadd D309_1724).trans ?_
  refine (x_iaload D309_1725).trans (ga_c ?_)
  refine (x_aload1 D309_1726 rfl).trans ?_
  refine (x_iload2 D309_1727 rfl).trans ?_
  refine (x_iconst D309_1729 (k := 2) (by decide)).trans ?_
  refine (x_iadd D309_1730).trans ?_
  refine (x_iaload D309_1731).trans (ga_c ?_)
  refine (x_cI D309_1732 M302 (fun z => by cases z) (I302 _ _ _) rfl rfl (ok_i M302 (I302 _ _ _) rfl rfl h_a2)).trans (bI_c fun v4 m3 => ?_)
  refine (x_ceq D309_1735).trans (i_c ?_ ?_)
  · rfl
  · refine (x_iconst D309_1738 (k := 0) (by decide)).trans ?_
    exact (x_bret D309_1739 M309.2.2.1).trans yB0
theorem La_law_1740_e (d : Nat) (a0 : Nat) (a1 : Nat) (a2 : Nat) (a3 : Nat) (x4 : Int32) (w5 : Value) (w6 : Value) (m : eM) (h_a1 : kd a1 = 9) (h_a2 : kd a2 = 10) : La_law_1740 (d + 1) a0 a1 a2 a3 x4 w5 w6 m = ga m a0 20 (x4 + (1 : Int32)) (ga m a0 20 (x4 + (2 : Int32)) (if (gI m a0 (x4 + (2 : Int32)).toNatClampNeg) = 0 then (La_law_1761 (d + 1) a0 a1 a2 a3 x4 w5 w6 a1 (gI m a0 (x4 + (1 : Int32)).toNatClampNeg) (0 : Int32) m) else (La_law_1761 (d + 1) a0 a1 a2 a3 x4 w5 w6 a1 (gI m a0 (x4 + (1 : Int32)).toNatClampNeg) (1 : Int32) m))) := by
  unfold La_law_1740
  refine (x_aload1 D309_1740 rfl).trans ?_
  refine (x_aload1 D309_1741 rfl).trans ?_
  refine (x_iload2 D309_1742 rfl).trans ?_
  refine (x_iconst D309_1744 (k := 1) (by decide)).trans ?_
  refine (x_iadd D309_1745).trans ?_
  refine (x_iaload D309_1746).trans (ga_c ?_)
  refine (x_aload1 D309_1747 rfl).trans ?_
  refine (x_iload2 D309_1748 rfl).trans ?_
  refine (x_iconst D309_1750 (k := 2) (by decide)).trans ?_
  refine (x_iadd D309_1751).trans ?_
  refine (x_iaload D309_1752).trans (ga_c ?_)
  refine (x_ifeq D309_1753).trans (i_c ?_ ?_)
  · refine (x_iconst D309_1760 (k := 0) (by decide)).trans ?_
    rfl
  · refine (x_iconst D309_1756 (k := 1) (by decide)).trans ?_
    refine (x_goto D309_1757).trans ?_
    rfl
theorem La_law_1761_e (d : Nat) (a0 : Nat) (a1 : Nat) (a2 : Nat) (a3 : Nat) (x4 : Int32) (w5 : Value) (w6 : Value) (b0 : Nat) (p1 : Int32) (p2 : Int32) (m : eM) (h_a1 : kd a1 = 9) (h_a2 : kd a2 = 10) (h_b0 : kd b0 = 9) : La_law_1761 (d + 1) a0 a1 a2 a3 x4 w5 w6 b0 p1 p2 m = bI (LC_mark d b0 p1 p2 m) fun v2 m1 => ga m1 a0 20 (x4 + (1 : Int32)) (ga m1 a0 20 (x4 + (2 : Int32)) (if (gI m1 a0 (x4 + (2 : Int32)).toNatClampNeg) = 0 then (bI (Mo_mark d a2 (gI m1 a0 (x4 + (1 : Int32)).toNatClampNeg) (0 : Int32) m1) fun v4 m3 => if v2 = v4 then (La_law_1818 (d + 1) a0 a1 a2 a3 x4 w5 w6 m3) else (yI (0 : Int32) m3)) else (bI (Mo_mark d a2 (gI m1 a0 (x4 + (1 : Int32)).toNatClampNeg) (1 : Int32) m1) fun v6 m5 => if v2 = v6 then (La_law_1818 (d + 1) a0 a1 a2 a3 x4 w5 w6 m5) else (yI (0 : Int32) m5)))) := by
  unfold La_law_1761
  refine (x_cI D309_1761 M196 (fun z => by cases z) (I196 _ _ _) rfl rfl (ok_i M196 (I196 _ _ _) rfl rfl h_b0)).trans (bI_c fun v2 m1 => ?_)
  refine (x_aload1 D309_1764 rfl).trans ?_
  refine (x_aload1 D309_1765 rfl).trans ?_
  refine (x_iload2 D309_1766 rfl).trans ?_
  refine (x_iconst D309_1768 (k := 1) (by decide)).trans ?_
  refine (x_iadd D309_1769).trans ?_
  refine (x_iaload D309_1770).trans (ga_c ?_)
  refine (x_aload1 D309_1771 rfl).trans ?_
  refine (x_iload2 D309_1772 rfl).trans ?_
  refine (x_iconst D309_1774 (k := 2) (by decide)).trans ?_
  refine (x_iadd D309_1775).trans ?_
  refine (x_iaload D309_1776).trans (ga_c ?_)
  refine (x_ifeq D309_1777).trans (i_c ?_ ?_)
  · refine (x_iconst D309_1784 (k := 0) (by decide)).trans ?_
    refine (x_cI D309_1785 M303 (fun z => by cases z) (I303 _ _ _) rfl rfl (ok_i M303 (I303 _ _ _) rfl rfl h_a2)).trans (bI_c fun v4 m3 => ?_)
    refine (x_ceq D309_1788).trans (i_c ?_ ?_)
    · rfl
    · refine (x_iconst D309_1791 (k := 0) (by decide)).trans ?_
      exact (x_bret D309_1792 M309.2.2.1).trans yB0
  · refine (x_iconst D309_1780 (k := 1) (by decide)).trans ?_
    refine (x_goto D309_1781).trans ?_
    refine (x_cI D309_1785 M303 (fun z => by cases z) (I303 _ _ _) rfl rfl (ok_i M303 (I303 _ _ _) rfl rfl h_a2)).trans (bI_c fun v6 m5 => ?_)
    refine (x_ceq D309_1788).trans (i_c ?_ ?_)
    · rfl
    · refine (x_iconst D309_1791 (k := 0) (by decide)).trans ?_
      exact (x_bret D309_1792 M309.2.2.1).trans yB0
theorem La_law_1793_e (d : Nat) (a0 : Nat) (a1 : Nat) (a2 : Nat) (a3 : Nat) (x4 : Int32) (w5 : Value) (w6 : Value) (m : eM) (h_a1 : kd a1 = 9) (h_a2 : kd a2 = 10) : La_law_1793 (d + 1) a0 a1 a2 a3 x4 w5 w6 m = ga m a0 20 (x4 + (1 : Int32)) (bI (LC_count d a1 (gI m a0 (x4 + (1 : Int32)).toNatClampNeg) m) fun v2 m1 => ga m1 a0 20 (x4 + (1 : Int32)) (bI (Mo_count d a2 (gI m1 a0 (x4 + (1 : Int32)).toNatClampNeg) m1) fun v4 m3 => if v2 = v4 then (La_law_1818 (d + 1) a0 a1 a2 a3 x4 w5 w6 m3) else (yI (0 : Int32) m3))) := by
  unfold La_law_1793
  refine (x_aload1 D309_1793 rfl).trans ?_
  refine (x_aload1 D309_1794 rfl).trans ?_
  refine (x_iload2 D309_1795 rfl).trans ?_
  refine (x_iconst D309_1797 (k := 1) (by decide)).trans ?_
  refine (x_iadd D309_1798).trans ?_
  refine (x_iaload D309_1799).trans (ga_c ?_)
  refine (x_cI D309_1800 M199 (fun z => by cases z) (I199 _ _) rfl rfl (ok_i M199 (I199 _ _) rfl rfl h_a1)).trans (bI_c fun v2 m1 => ?_)
  refine (x_aload1 D309_1803 rfl).trans ?_
  refine (x_aload1 D309_1804 rfl).trans ?_
  refine (x_iload2 D309_1805 rfl).trans ?_
  refine (x_iconst D309_1807 (k := 1) (by decide)).trans ?_
  refine (x_iadd D309_1808).trans ?_
  refine (x_iaload D309_1809).trans (ga_c ?_)
  refine (x_cI D309_1810 M307 (fun z => by cases z) (I307 _ _) rfl rfl (ok_i M307 (I307 _ _) rfl rfl h_a2)).trans (bI_c fun v4 m3 => ?_)
  refine (x_ceq D309_1813).trans (i_c ?_ ?_)
  · rfl
  · refine (x_iconst D309_1816 (k := 0) (by decide)).trans ?_
    exact (x_bret D309_1817 M309.2.2.1).trans yB0
theorem La_law_1818_e (d : Nat) (a0 : Nat) (a1 : Nat) (a2 : Nat) (a3 : Nat) (x4 : Int32) (w5 : Value) (w6 : Value) (m : eM) (h_a1 : kd a1 = 9) (h_a2 : kd a2 = 10) : La_law_1818 (d + 1) a0 a1 a2 a3 x4 w5 w6 m = La_law_23 (d + 1) a0 a1 a2 a3 (x4 + (7 : Int32)) w5 w6 m := by
  unfold La_law_1818
  refine (x_iinc D309_1818 rfl (k := 7) (by decide) (ls' := [.ref a0, .ref a1, .ref a2, .ref a3, .int (x4 + (7 : Int32)), w5, w6, eU]) rfl).trans ?_
  refine (x_goto D309_1821).trans ?_
  rfl
