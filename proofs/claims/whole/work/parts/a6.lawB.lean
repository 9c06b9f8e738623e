section LAWC
variable {sh : List xSh} {I : Nat → Nat → Int32} {R : Nat → Nat → Option Nat} {σ : St} {L i mc ms : Nat} {xs : Nat → Int32}
theorem lc_20 (hi : i + 5 ≤ L) (hL : L ≤ 2560) (h : clR sh I R σ) (hm : mdR I σ) (hl : sh.length + 4 ≤ 1000000) (nx : lwN L xs i sh mc ms) : Ex (mL_law L xs) 719 (lwL i) [] (sh, I, R) (4 + mc) (100 + ms) (xqI lwQ) := by
  refine Ex.up (mc := mc) (ms := ms) ?_ (by omega) (by omega)
  have hz : NeZero σ.p := h.ok.nz
  refine xw_aload_n dL_law_719 rfl rfl ?_
  refine yw_cV (As := []) (b := 0) (st := []) dL_law_720 lL_98 kiX9_counter kvX9_counter rfl rfl rfl (la_0 h.lay) rfl (Nat.le_of_ble_eq_true rfl) rfl (xk_I (k_counter h (fun I1 R1 h1 f1 => ?_)))
  refine xw_aload_n dL_law_723 rfl rfl ?_
  refine yw_cV (As := []) (b := 209) (st := [.int (counterA σ)]) dL_law_724 lL_101 kiX10_counter kvX10_counter rfl rfl rfl (la_209 h1.lay) rfl (Nat.le_of_ble_eq_true rfl) rfl (xk_I (w_counter h1.lay (hm.cf f1) (fun I2 m2 f2 => ?_)))
  exact xw_iceq (tgt := 1269) dL_law_727 (by decide) (fun _ => nx sh I2 R1 _ (h1.mf f2) m2 (by omega)) (fun z => absurd rfl z)
theorem lc_21 (hi : i + 5 ≤ L) (hL : L ≤ 2560) (h : clR sh I R σ) (hm : mdR I σ) (hl : sh.length + 4 ≤ 1000000) (nx : lwN L xs i sh mc ms) : Ex (mL_law L xs) 732 (lwL i) [] (sh, I, R) (4 + mc) (100 + ms) (xqI lwQ) := by
  refine Ex.up (mc := mc) (ms := ms) ?_ (by omega) (by omega)
  have hz : NeZero σ.p := h.ok.nz
  refine xw_aload_n dL_law_732 rfl rfl ?_
  refine xw_aload_n dL_law_733 rfl rfl ?_
  refine xw_iload_n dL_law_734 rfl rfl ?_
  refine xw_iconst (v := nI 1) dL_law_735 rfl ?_
  refine xw_iadd dL_law_736 ?_
  refine xw_sld (L := L) (xs := xs) rfl dL_law_737 (lw_in (k := 1) (by omega) (by omega)) ?_
  refine yw_cV (As := [.int (xs (nI i + nI 1).toNatClampNeg)]) (b := 0) (st := []) dL_law_738 lL_102 kiX9_ask kvX9_ask rfl rfl rfl (la_0 h.lay) rfl (Nat.le_of_ble_eq_true rfl) rfl (xk_I (k_ask h (fun I1 R1 h1 f1 => ?_)))
  refine xw_aload_n dL_law_741 rfl rfl ?_
  refine xw_aload_n dL_law_742 rfl rfl ?_
  refine xw_iload_n dL_law_743 rfl rfl ?_
  refine xw_iconst (v := nI 1) dL_law_744 rfl ?_
  refine xw_iadd dL_law_745 ?_
  refine xw_sld (L := L) (xs := xs) rfl dL_law_746 (lw_in (k := 1) (by omega) (by omega)) ?_
  refine yw_cV (As := [.int (xs (nI i + nI 1).toNatClampNeg)]) (b := 209) (st := [.int (askA σ (xs (nI i + nI 1).toNatClampNeg)).1]) dL_law_747 lL_105 kiX10_ask kvX10_ask rfl rfl rfl (la_209 h1.lay) rfl (Nat.le_of_ble_eq_true rfl) rfl (xk_I (w_ask h1.lay (hm.cf f1) (fun I2 m2 f2 => ?_)))
  exact xw_iceq (tgt := 1269) dL_law_750 (by decide) (fun _ => nx sh I2 R1 _ (h1.mf f2) m2 (by omega)) (fun z => absurd rfl z)
theorem lc_22 (hi : i + 5 ≤ L) (hL : L ≤ 2560) (h : clR sh I R σ) (hm : mdR I σ) (hl : sh.length + 4 ≤ 1000000) (nx : lwN L xs i sh mc ms) : Ex (mL_law L xs) 755 (lwL i) [] (sh, I, R) (4 + mc) (100 + ms) (xqI lwQ) := by
  refine Ex.up (mc := mc) (ms := ms) ?_ (by omega) (by omega)
  have hz : NeZero σ.p := h.ok.nz
  refine xw_aload_n dL_law_755 rfl rfl ?_
  refine xw_aload_n dL_law_756 rfl rfl ?_
  refine xw_iload_n dL_law_757 rfl rfl ?_
  refine xw_iconst (v := nI 1) dL_law_758 rfl ?_
  refine xw_iadd dL_law_759 ?_
  refine xw_sld (L := L) (xs := xs) rfl dL_law_760 (lw_in (k := 1) (by omega) (by omega)) ?_
  refine yw_cV (As := [.int (xs (nI i + nI 1).toNatClampNeg)]) (b := 0) (st := []) dL_law_761 lL_106 kiX9_basis kvX9_basis rfl rfl rfl (la_0 h.lay) rfl (Nat.le_of_ble_eq_true rfl) rfl (xk_I (k_basis h (fun I1 R1 h1 f1 => ?_)))
  refine xw_aload_n dL_law_764 rfl rfl ?_
  refine xw_aload_n dL_law_765 rfl rfl ?_
  refine xw_iload_n dL_law_766 rfl rfl ?_
  refine xw_iconst (v := nI 1) dL_law_767 rfl ?_
  refine xw_iadd dL_law_768 ?_
  refine xw_sld (L := L) (xs := xs) rfl dL_law_769 (lw_in (k := 1) (by omega) (by omega)) ?_
  refine yw_cV (As := [.int (xs (nI i + nI 1).toNatClampNeg)]) (b := 209) (st := [.int (basisA σ (xs (nI i + nI 1).toNatClampNeg))]) dL_law_770 lL_109 kiX10_basis kvX10_basis rfl rfl rfl (la_209 h1.lay) rfl (Nat.le_of_ble_eq_true rfl) rfl (xk_I (w_basis h1.lay (hm.cf f1) (fun I2 m2 f2 => ?_)))
  exact xw_iceq (tgt := 1269) dL_law_773 (by decide) (fun _ => nx sh I2 R1 _ (h1.mf f2) m2 (by omega)) (fun z => absurd rfl z)
theorem lc_23 (hi : i + 5 ≤ L) (hL : L ≤ 2560) (h : clR sh I R σ) (hm : mdR I σ) (hl : sh.length + 4 ≤ 1000000) (nx : lwN L xs i sh mc ms) : Ex (mL_law L xs) 778 (lwL i) [] (sh, I, R) (4 + mc) (100 + ms) (xqI lwQ) := by
  refine Ex.up (mc := mc) (ms := ms) ?_ (by omega) (by omega)
  refine xw_aload_n dL_law_778 rfl rfl ?_
  refine xw_aload_n dL_law_779 rfl rfl ?_
  refine xw_iload_n dL_law_780 rfl rfl ?_
  refine xw_iconst (v := nI 1) dL_law_781 rfl ?_
  refine xw_iadd dL_law_782 ?_
  refine xw_sld (L := L) (xs := xs) rfl dL_law_783 (lw_in (k := 1) (by omega) (by omega)) ?_
  refine xw_aload_n dL_law_784 rfl rfl ?_
  refine xw_iload_n dL_law_785 rfl rfl ?_
  refine xw_iconst (v := nI 2) dL_law_786 rfl ?_
  refine xw_iadd dL_law_787 ?_
  refine xw_sld (L := L) (xs := xs) rfl dL_law_788 (lw_in (k := 2) (by omega) (by omega)) ?_
  refine yw_cV (As := [.int (xs (nI i + nI 1).toNatClampNeg), .int (xs (nI i + nI 2).toNatClampNeg)]) (b := 0) (st := []) dL_law_789 lL_110 kiX9_begins kvX9_begins rfl rfl rfl (la_0 h.lay) rfl (Nat.le_of_ble_eq_true rfl) rfl (xk_I (k_begins h (fun I1 R1 h1 f1 => ?_)))
  refine xw_aload_n dL_law_792 rfl rfl ?_
  refine xw_aload_n dL_law_793 rfl rfl ?_
  refine xw_iload_n dL_law_794 rfl rfl ?_
  refine xw_iconst (v := nI 1) dL_law_795 rfl ?_
  refine xw_iadd dL_law_796 ?_
  refine xw_sld (L := L) (xs := xs) rfl dL_law_797 (lw_in (k := 1) (by omega) (by omega)) ?_
  refine xw_aload_n dL_law_798 rfl rfl ?_
  refine xw_iload_n dL_law_799 rfl rfl ?_
  refine xw_iconst (v := nI 2) dL_law_800 rfl ?_
  refine xw_iadd dL_law_801 ?_
  refine xw_sld (L := L) (xs := xs) rfl dL_law_802 (lw_in (k := 2) (by omega) (by omega)) ?_
  refine yw_cV (As := [.int (xs (nI i + nI 1).toNatClampNeg), .int (xs (nI i + nI 2).toNatClampNeg)]) (b := 209) (st := [.int (beginsA σ (xs (nI i + nI 1).toNatClampNeg) (xs (nI i + nI 2).toNatClampNeg)).1]) dL_law_803 lL_113 kiX10_begins kvX10_begins rfl rfl rfl (la_209 h1.lay) rfl (Nat.le_of_ble_eq_true rfl) rfl (xk_I (w_begins h1.lay (hm.cf f1) (fun I2 m2 f2 => ?_)))
  exact xw_iceq (tgt := 1269) dL_law_806 (by decide) (fun _ => nx sh I2 R1 _ (h1.mf f2) m2 (by omega)) (fun z => absurd rfl z)
theorem lc_24 (hi : i + 5 ≤ L) (hL : L ≤ 2560) (h : clR sh I R σ) (hm : mdR I σ) (hl : sh.length + 4 ≤ 1000000) (nx : lwN L xs i sh mc ms) : Ex (mL_law L xs) 811 (lwL i) [] (sh, I, R) (4 + mc) (100 + ms) (xqI lwQ) := by
  refine Ex.up (mc := mc) (ms := ms) ?_ (by omega) (by omega)
  refine xw_aload_n dL_law_811 rfl rfl ?_
  refine xw_aload_n dL_law_812 rfl rfl ?_
  refine xw_iload_n dL_law_813 rfl rfl ?_
  refine xw_iconst (v := nI 1) dL_law_814 rfl ?_
  refine xw_iadd dL_law_815 ?_
  refine xw_sld (L := L) (xs := xs) rfl dL_law_816 (lw_in (k := 1) (by omega) (by omega)) ?_
  refine xw_aload_n dL_law_817 rfl rfl ?_
  refine xw_iload_n dL_law_818 rfl rfl ?_
  refine xw_iconst (v := nI 2) dL_law_819 rfl ?_
  refine xw_iadd dL_law_820 ?_
  refine xw_sld (L := L) (xs := xs) rfl dL_law_821 (lw_in (k := 2) (by omega) (by omega)) ?_
  refine yw_cV (As := [.int (xs (nI i + nI 1).toNatClampNeg), .int (xs (nI i + nI 2).toNatClampNeg)]) (b := 0) (st := []) dL_law_822 lL_114 kiX9_ends kvX9_ends rfl rfl rfl (la_0 h.lay) rfl (Nat.le_of_ble_eq_true rfl) rfl (xk_I (k_ends h (fun I1 R1 h1 f1 => ?_)))
  refine xw_aload_n dL_law_825 rfl rfl ?_
  refine xw_aload_n dL_law_826 rfl rfl ?_
  refine xw_iload_n dL_law_827 rfl rfl ?_
  refine xw_iconst (v := nI 1) dL_law_828 rfl ?_
  refine xw_iadd dL_law_829 ?_
  refine xw_sld (L := L) (xs := xs) rfl dL_law_830 (lw_in (k := 1) (by omega) (by omega)) ?_
  refine xw_aload_n dL_law_831 rfl rfl ?_
  refine xw_iload_n dL_law_832 rfl rfl ?_
  refine xw_iconst (v := nI 2) dL_law_833 rfl ?_
  refine xw_iadd dL_law_834 ?_
  refine xw_sld (L := L) (xs := xs) rfl dL_law_835 (lw_in (k := 2) (by omega) (by omega)) ?_
  refine yw_cV (As := [.int (xs (nI i + nI 1).toNatClampNeg), .int (xs (nI i + nI 2).toNatClampNeg)]) (b := 209) (st := [.int (endsA σ (xs (nI i + nI 1).toNatClampNeg) (xs (nI i + nI 2).toNatClampNeg)).1]) dL_law_836 lL_117 kiX10_ends kvX10_ends rfl rfl rfl (la_209 h1.lay) rfl (Nat.le_of_ble_eq_true rfl) rfl (xk_I (w_ends h1.lay (hm.cf f1) (fun I2 m2 f2 => ?_)))
  exact xw_iceq (tgt := 1269) dL_law_839 (by decide) (fun _ => nx sh I2 R1 _ (h1.mf f2) m2 (by omega)) (fun z => absurd rfl z)
theorem lc_25 (hi : i + 5 ≤ L) (hL : L ≤ 2560) (h : clR sh I R σ) (hm : mdR I σ) (hl : sh.length + 4 ≤ 1000000) (nx : lwN L xs i sh mc ms) : Ex (mL_law L xs) 844 (lwL i) [] (sh, I, R) (4 + mc) (100 + ms) (xqI lwQ) := by
  refine Ex.up (mc := mc) (ms := ms) ?_ (by omega) (by omega)
  refine xw_aload_n dL_law_844 rfl rfl ?_
  refine xw_aload_n dL_law_845 rfl rfl ?_
  refine xw_iload_n dL_law_846 rfl rfl ?_
  refine xw_iconst (v := nI 1) dL_law_847 rfl ?_
  refine xw_iadd dL_law_848 ?_
  refine xw_sld (L := L) (xs := xs) rfl dL_law_849 (lw_in (k := 1) (by omega) (by omega)) ?_
  refine xw_aload_n dL_law_850 rfl rfl ?_
  refine xw_iload_n dL_law_851 rfl rfl ?_
  refine xw_iconst (v := nI 2) dL_law_852 rfl ?_
  refine xw_iadd dL_law_853 ?_
  refine xw_sld (L := L) (xs := xs) rfl dL_law_854 (lw_in (k := 2) (by omega) (by omega)) ?_
  refine xw_aload_n dL_law_855 rfl rfl ?_
  refine xw_iload_n dL_law_856 rfl rfl ?_
  refine xw_iconst (v := nI 3) dL_law_857 rfl ?_
  refine xw_iadd dL_law_858 ?_
  refine xw_sld (L := L) (xs := xs) rfl dL_law_859 (lw_in (k := 3) (by omega) (by omega)) ?_
  refine xw_aload_n dL_law_860 rfl rfl ?_
  refine xw_iload_n dL_law_861 rfl rfl ?_
  refine xw_iconst (v := nI 4) dL_law_862 rfl ?_
  refine xw_iadd dL_law_863 ?_
  refine xw_sld (L := L) (xs := xs) rfl dL_law_864 (lw_in (k := 4) (by omega) (by omega)) ?_
  refine yw_cV (As := [.int (xs (nI i + nI 1).toNatClampNeg), .int (xs (nI i + nI 2).toNatClampNeg), .int (xs (nI i + nI 3).toNatClampNeg), .int (xs (nI i + nI 4).toNatClampNeg)]) (b := 0) (st := []) dL_law_865 lL_118 kiX9_leads kvX9_leads rfl rfl rfl (la_0 h.lay) rfl (Nat.le_of_ble_eq_true rfl) rfl (xk_I (k_leads h (fun I1 R1 h1 f1 => ?_)))
  refine xw_aload_n dL_law_868 rfl rfl ?_
  refine xw_aload_n dL_law_869 rfl rfl ?_
  refine xw_iload_n dL_law_870 rfl rfl ?_
  refine xw_iconst (v := nI 1) dL_law_871 rfl ?_
  refine xw_iadd dL_law_872 ?_
  refine xw_sld (L := L) (xs := xs) rfl dL_law_873 (lw_in (k := 1) (by omega) (by omega)) ?_
  refine xw_aload_n dL_law_874 rfl rfl ?_
  refine xw_iload_n dL_law_875 rfl rfl ?_
  refine xw_iconst (v := nI 2) dL_law_876 rfl ?_
  refine xw_iadd dL_law_877 ?_
  refine xw_sld (L := L) (xs := xs) rfl dL_law_878 (lw_in (k := 2) (by omega) (by omega)) ?_
  refine xw_aload_n dL_law_879 rfl rfl ?_
  refine xw_iload_n dL_law_880 rfl rfl ?_
  refine xw_iconst (v := nI 3) dL_law_881 rfl ?_
  refine xw_iadd dL_law_882 ?_
  refine xw_sld (L := L) (xs := xs) rfl dL_law_883 (lw_in (k := 3) (by omega) (by omega)) ?_
  refine xw_aload_n dL_law_884 rfl rfl ?_
  refine xw_iload_n dL_law_885 rfl rfl ?_
  refine xw_iconst (v := nI 4) dL_law_886 rfl ?_
  refine xw_iadd dL_law_887 ?_
  refine xw_sld (L := L) (xs := xs) rfl dL_law_888 (lw_in (k := 4) (by omega) (by omega)) ?_
  refine yw_cV (As := [.int (xs (nI i + nI 1).toNatClampNeg), .int (xs (nI i + nI 2).toNatClampNeg), .int (xs (nI i + nI 3).toNatClampNeg), .int (xs (nI i + nI 4).toNatClampNeg)]) (b := 209) (st := [.int (leadsA σ (xs (nI i + nI 1).toNatClampNeg) (xs (nI i + nI 2).toNatClampNeg) (xs (nI i + nI 3).toNatClampNeg) (xs (nI i + nI 4).toNatClampNeg)).1]) dL_law_889 lL_121 kiX10_leads kvX10_leads rfl rfl rfl (la_209 h1.lay) rfl (Nat.le_of_ble_eq_true rfl) rfl (xk_I (w_leads h1.lay (hm.cf f1) (fun I2 m2 f2 => ?_)))
  exact xw_iceq (tgt := 1269) dL_law_892 (by decide) (fun _ => nx sh I2 R1 _ (h1.mf f2) m2 (by omega)) (fun z => absurd rfl z)
theorem lc_26 (hi : i + 5 ≤ L) (hL : L ≤ 2560) (h : clR sh I R σ) (hm : mdR I σ) (hl : sh.length + 4 ≤ 1000000) (nx : lwN L xs i sh mc ms) : Ex (mL_law L xs) 897 (lwL i) [] (sh, I, R) (4 + mc) (100 + ms) (xqI lwQ) := by
  refine Ex.up (mc := mc) (ms := ms) ?_ (by omega) (by omega)
  refine xw_aload_n dL_law_897 rfl rfl ?_
  refine yw_cV (As := []) (b := 0) (st := []) dL_law_898 lL_122 kiX9_grow kvX9_grow rfl rfl rfl (la_0 h.lay) rfl (Nat.le_of_ble_eq_true rfl) rfl (xk_I (k_grow h (fun I1 R1 h1 f1 => ?_)))
  refine xw_aload_n dL_law_901 rfl rfl ?_
  refine yw_cV (As := []) (b := 209) (st := [.int (growA σ).1]) dL_law_902 lL_125 kiX10_grow kvX10_grow rfl rfl rfl (la_209 h1.lay) rfl (Nat.le_of_ble_eq_true rfl) rfl (xk_I (w_grow h1.lay (hm.cf f1) (fun I2 m2 f2 => ?_)))
  exact xw_iceq (tgt := 1269) dL_law_905 (by decide) (fun _ => nx sh I2 R1 _ (h1.mf f2) m2 (by omega)) (fun z => absurd rfl z)
theorem lc_27 (hi : i + 5 ≤ L) (hL : L ≤ 2560) (h : clR sh I R σ) (hm : mdR I σ) (hl : sh.length + 4 ≤ 1000000) (nx : lwN L xs i sh mc ms) : Ex (mL_law L xs) 910 (lwL i) [] (sh, I, R) (4 + mc) (100 + ms) (xqI lwQ) := by
  refine Ex.up (mc := mc) (ms := ms) ?_ (by omega) (by omega)
  refine xw_aload_n dL_law_910 rfl rfl ?_
  refine xw_aload_n dL_law_911 rfl rfl ?_
  refine xw_iload_n dL_law_912 rfl rfl ?_
  refine xw_iconst (v := nI 1) dL_law_913 rfl ?_
  refine xw_iadd dL_law_914 ?_
  refine xw_sld (L := L) (xs := xs) rfl dL_law_915 (lw_in (k := 1) (by omega) (by omega)) ?_
  refine yw_cV (As := [.int (xs (nI i + nI 1).toNatClampNeg)]) (b := 0) (st := []) dL_law_916 lL_126 kiX9_drop kvX9_drop rfl rfl rfl (la_0 h.lay) rfl (Nat.le_of_ble_eq_true rfl) rfl (xk_I (k_drop h (fun I1 R1 h1 f1 => ?_)))
  refine xw_aload_n dL_law_919 rfl rfl ?_
  refine xw_aload_n dL_law_920 rfl rfl ?_
  refine xw_iload_n dL_law_921 rfl rfl ?_
  refine xw_iconst (v := nI 1) dL_law_922 rfl ?_
  refine xw_iadd dL_law_923 ?_
  refine xw_sld (L := L) (xs := xs) rfl dL_law_924 (lw_in (k := 1) (by omega) (by omega)) ?_
  refine yw_cV (As := [.int (xs (nI i + nI 1).toNatClampNeg)]) (b := 209) (st := [.int (dropA σ (xs (nI i + nI 1).toNatClampNeg)).1]) dL_law_925 lL_129 kiX10_drop kvX10_drop rfl rfl rfl (la_209 h1.lay) rfl (Nat.le_of_ble_eq_true rfl) rfl (xk_I (w_drop h1.lay (hm.cf f1) (fun I2 m2 f2 => ?_)))
  exact xw_iceq (tgt := 1269) dL_law_928 (by decide) (fun _ => nx sh I2 R1 _ (h1.mf f2) m2 (by omega)) (fun z => absurd rfl z)
theorem lc_28 (hi : i + 5 ≤ L) (hL : L ≤ 2560) (h : clR sh I R σ) (hm : mdR I σ) (hl : sh.length + 4 ≤ 1000000) (nx : lwN L xs i sh mc ms) : Ex (mL_law L xs) 933 (lwL i) [] (sh, I, R) (4 + mc) (100 + ms) (xqI lwQ) := by
  refine Ex.up (mc := mc) (ms := ms) ?_ (by omega) (by omega)
  refine xw_aload_n dL_law_933 rfl rfl ?_
  refine yw_cV (As := []) (b := 0) (st := []) dL_law_934 lL_130 kiX9_turn kvX9_turn rfl rfl rfl (la_0 h.lay) rfl (Nat.le_of_ble_eq_true rfl) rfl (xk_I (k_turn h (fun I1 R1 h1 f1 => ?_)))
  refine xw_aload_n dL_law_937 rfl rfl ?_
  refine yw_cV (As := []) (b := 209) (st := [.int (turnA σ).1]) dL_law_938 lL_133 kiX10_turn kvX10_turn rfl rfl rfl (la_209 h1.lay) rfl (Nat.le_of_ble_eq_true rfl) rfl (xk_I (w_turn h1.lay (hm.cf f1) (fun I2 m2 f2 => ?_)))
  exact xw_iceq (tgt := 1269) dL_law_941 (by decide) (fun _ => nx sh I2 R1 _ (h1.mf f2) m2 (by omega)) (fun z => absurd rfl z)
theorem lc_29 (hi : i + 5 ≤ L) (hL : L ≤ 2560) (h : clR sh I R σ) (hm : mdR I σ) (hl : sh.length + 4 ≤ 1000000) (nx : lwN L xs i sh mc ms) : Ex (mL_law L xs) 946 (lwL i) [] (sh, I, R) (4 + mc) (100 + ms) (xqI lwQ) := by
  refine Ex.up (mc := mc) (ms := ms) ?_ (by omega) (by omega)
  refine xw_aload_n dL_law_946 rfl rfl ?_
  refine xw_aload_n dL_law_947 rfl rfl ?_
  refine xw_iload_n dL_law_948 rfl rfl ?_
  refine xw_iconst (v := nI 1) dL_law_949 rfl ?_
  refine xw_iadd dL_law_950 ?_
  refine xw_sld (L := L) (xs := xs) rfl dL_law_951 (lw_in (k := 1) (by omega) (by omega)) ?_
  refine yw_cV (As := [.int (xs (nI i + nI 1).toNatClampNeg)]) (b := 0) (st := []) dL_law_952 lL_134 kiX9_scale kvX9_scale rfl rfl rfl (la_0 h.lay) rfl (Nat.le_of_ble_eq_true rfl) rfl (xk_I (k_scale h (fun I1 R1 h1 f1 => ?_)))
  refine xw_aload_n dL_law_955 rfl rfl ?_
  refine xw_aload_n dL_law_956 rfl rfl ?_
  refine xw_iload_n dL_law_957 rfl rfl ?_
  refine xw_iconst (v := nI 1) dL_law_958 rfl ?_
  refine xw_iadd dL_law_959 ?_
  refine xw_sld (L := L) (xs := xs) rfl dL_law_960 (lw_in (k := 1) (by omega) (by omega)) ?_
  refine yw_cV (As := [.int (xs (nI i + nI 1).toNatClampNeg)]) (b := 209) (st := [.int (scaleA σ (xs (nI i + nI 1).toNatClampNeg)).1]) dL_law_961 lL_137 kiX10_scale kvX10_scale rfl rfl rfl (la_209 h1.lay) rfl (Nat.le_of_ble_eq_true rfl) rfl (xk_I (w_scale h1.lay (hm.cf f1) (fun I2 m2 f2 => ?_)))
  exact xw_iceq (tgt := 1269) dL_law_964 (by decide) (fun _ => nx sh I2 R1 _ (h1.mf f2) m2 (by omega)) (fun z => absurd rfl z)
theorem lc_30 (hi : i + 5 ≤ L) (hL : L ≤ 2560) (h : clR sh I R σ) (hm : mdR I σ) (hl : sh.length + 4 ≤ 1000000) (nx : lwN L xs i sh mc ms) : Ex (mL_law L xs) 969 (lwL i) [] (sh, I, R) (4 + mc) (100 + ms) (xqI lwQ) := by
  refine Ex.up (mc := mc) (ms := ms) ?_ (by omega) (by omega)
  have hz : NeZero σ.p := h.ok.nz
  refine xw_aload_n dL_law_969 rfl rfl ?_
  refine yw_cV (As := []) (b := 0) (st := []) dL_law_970 lL_138 kiX9_shrink kvX9_shrink rfl rfl rfl (la_0 h.lay) rfl (Nat.le_of_ble_eq_true rfl) rfl (xk_I (k_shrink h (fun I1 R1 h1 f1 => ?_)))
  refine xw_aload_n dL_law_973 rfl rfl ?_
  refine yw_cV (As := []) (b := 209) (st := [.int (shrinkA σ).1]) dL_law_974 lL_141 kiX10_shrink kvX10_shrink rfl rfl rfl (la_209 h1.lay) rfl (Nat.le_of_ble_eq_true rfl) rfl (xk_I (w_shrink h1.lay (hm.cf f1) (fun I2 m2 f2 => ?_)))
  exact xw_iceq (tgt := 1269) dL_law_977 (by decide) (fun _ => nx sh I2 R1 _ (h1.mf f2) m2 (by omega)) (fun z => absurd rfl z)
theorem lc_31 (hi : i + 5 ≤ L) (hL : L ≤ 2560) (h : clR sh I R σ) (hm : mdR I σ) (hl : sh.length + 4 ≤ 1000000) (nx : lwN L xs i sh mc ms) : Ex (mL_law L xs) 982 (lwL i) [] (sh, I, R) (4 + mc) (100 + ms) (xqI lwQ) := by
  refine Ex.up (mc := mc) (ms := ms) ?_ (by omega) (by omega)
  refine xw_aload_n dL_law_982 rfl rfl ?_
  refine xw_aload_n dL_law_983 rfl rfl ?_
  refine xw_iload_n dL_law_984 rfl rfl ?_
  refine xw_iconst (v := nI 1) dL_law_985 rfl ?_
  refine xw_iadd dL_law_986 ?_
  refine xw_sld (L := L) (xs := xs) rfl dL_law_987 (lw_in (k := 1) (by omega) (by omega)) ?_
  refine yw_cV (As := [.int (xs (nI i + nI 1).toNatClampNeg)]) (b := 0) (st := []) dL_law_988 lL_142 kiX9_join kvX9_join rfl rfl rfl (la_0 h.lay) rfl (Nat.le_of_ble_eq_true rfl) rfl (xk_I (k_join h (fun I1 R1 h1 f1 => ?_)))
  refine xw_aload_n dL_law_991 rfl rfl ?_
  refine xw_aload_n dL_law_992 rfl rfl ?_
  refine xw_iload_n dL_law_993 rfl rfl ?_
  refine xw_iconst (v := nI 1) dL_law_994 rfl ?_
  refine xw_iadd dL_law_995 ?_
  refine xw_sld (L := L) (xs := xs) rfl dL_law_996 (lw_in (k := 1) (by omega) (by omega)) ?_
  refine yw_cV (As := [.int (xs (nI i + nI 1).toNatClampNeg)]) (b := 209) (st := [.int (joinA σ (xs (nI i + nI 1).toNatClampNeg)).1]) dL_law_997 lL_145 kiX10_join kvX10_join rfl rfl rfl (la_209 h1.lay) rfl (Nat.le_of_ble_eq_true rfl) rfl (xk_I (w_join h1.lay (hm.cf f1) (fun I2 m2 f2 => ?_)))
  exact xw_iceq (tgt := 1269) dL_law_1000 (by decide) (fun _ => nx sh I2 R1 _ (h1.mf f2) m2 (by omega)) (fun z => absurd rfl z)
theorem lc_32 (hi : i + 5 ≤ L) (hL : L ≤ 2560) (h : clR sh I R σ) (hm : mdR I σ) (hl : sh.length + 4 ≤ 1000000) (nx : lwN L xs i sh mc ms) : Ex (mL_law L xs) 1005 (lwL i) [] (sh, I, R) (4 + mc) (100 + ms) (xqI lwQ) := by
  refine xw_aload_n dL_law_1005 rfl rfl ?_
  refine xw_aload_n dL_law_1006 rfl rfl ?_
  refine xw_iload_n dL_law_1007 rfl rfl ?_
  refine xw_iconst (v := nI 1) dL_law_1008 rfl ?_
  refine xw_iadd dL_law_1009 ?_
  refine xw_sld (L := L) (xs := xs) rfl dL_law_1010 (lw_in (k := 1) (by omega) (by omega)) ?_
  refine xw_aload_n dL_law_1011 rfl rfl ?_
  refine xw_iload_n dL_law_1012 rfl rfl ?_
  refine xw_iconst (v := nI 2) dL_law_1013 rfl ?_
  refine xw_iadd dL_law_1014 ?_
  refine xw_sld (L := L) (xs := xs) rfl dL_law_1015 (lw_in (k := 2) (by omega) (by omega)) ?_
  refine Ex.up (mc := 0 + 1 + mc) (ms := 0 + xN 2 + ms) ?_ (Nat.add_le_add_right (by decide) _) (Nat.add_le_add_right (by decide) _)
  refine xw_callV (h := (sh, I, R)) (mc1 := 0 + 1) (ms1 := 0 + xN 2) (As := [.int (xs (nI i + nI 1).toNatClampNeg), .int (xs (nI i + nI 2).toNatClampNeg)]) (b := 0) (st := []) dL_law_1016 lL_146 kiX9_draw kvX9_draw (xB_of rfl) rfl rfl (la_0 h.lay) rfl (Nat.le_of_ble_eq_true rfl) (Nat.le_of_ble_eq_true rfl) ?_
  refine Cl.mono (k_draw (Q := fun w h' => Ex (mL_law L xs) 1019 (lwL i) [.int w] h' mc ms (xqI lwQ)) h (by omega) (fun sh1 I1 R1 h1 f1 l1 => ?_)) (fun v h' ⟨w, e, q⟩ => by subst e; exact q)
  refine xw_aload_n dL_law_1019 rfl rfl ?_
  refine xw_aload_n dL_law_1020 rfl rfl ?_
  refine xw_iload_n dL_law_1021 rfl rfl ?_
  refine xw_iconst (v := nI 1) dL_law_1022 rfl ?_
  refine xw_iadd dL_law_1023 ?_
  refine xw_sld (L := L) (xs := xs) rfl dL_law_1024 (lw_in (k := 1) (by omega) (by omega)) ?_
  refine xw_aload_n dL_law_1025 rfl rfl ?_
  refine xw_iload_n dL_law_1026 rfl rfl ?_
  refine xw_iconst (v := nI 2) dL_law_1027 rfl ?_
  refine xw_iadd dL_law_1028 ?_
  refine xw_sld (L := L) (xs := xs) rfl dL_law_1029 (lw_in (k := 2) (by omega) (by omega)) ?_
  refine yw_cV (As := [.int (xs (nI i + nI 1).toNatClampNeg), .int (xs (nI i + nI 2).toNatClampNeg)]) (b := 209) (st := [.int (drawA σ (xs (nI i + nI 1).toNatClampNeg) (xs (nI i + nI 2).toNatClampNeg)).1]) dL_law_1030 lL_149 kiX10_draw kvX10_draw rfl rfl rfl (la_209 h1.lay) rfl (Nat.le_of_ble_eq_true rfl) rfl (xk_I (w_draw h1.lay (hm.cf f1) (fun I2 m2 f2 => ?_)))
  exact xw_iceq (tgt := 1269) dL_law_1033 (by decide) (fun _ => nx sh1 I2 R1 _ (h1.mf f2) m2 (by omega)) (fun z => absurd rfl z)
theorem lc_33 (hi : i + 5 ≤ L) (hL : L ≤ 2560) (h : clR sh I R σ) (hm : mdR I σ) (hl : sh.length + 4 ≤ 1000000) (nx : lwN L xs i sh mc ms) : Ex (mL_law L xs) 1038 (lwL i) [] (sh, I, R) (4 + mc) (100 + ms) (xqI lwQ) := by
  refine Ex.up (mc := mc) (ms := ms) ?_ (by omega) (by omega)
  refine xw_aload_n dL_law_1038 rfl rfl ?_
  refine xw_aload_n dL_law_1039 rfl rfl ?_
  refine xw_iload_n dL_law_1040 rfl rfl ?_
  refine xw_iconst (v := nI 1) dL_law_1041 rfl ?_
  refine xw_iadd dL_law_1042 ?_
  refine xw_sld (L := L) (xs := xs) rfl dL_law_1043 (lw_in (k := 1) (by omega) (by omega)) ?_
  refine yw_cV (As := [.int (xs (nI i + nI 1).toNatClampNeg)]) (b := 0) (st := []) dL_law_1044 lL_150 kiX9_keep kvX9_keep rfl rfl rfl (la_0 h.lay) rfl (Nat.le_of_ble_eq_true rfl) rfl (xk_I (k_keep h (fun I1 R1 h1 f1 => ?_)))
  refine xw_aload_n dL_law_1047 rfl rfl ?_
  refine xw_aload_n dL_law_1048 rfl rfl ?_
  refine xw_iload_n dL_law_1049 rfl rfl ?_
  refine xw_iconst (v := nI 1) dL_law_1050 rfl ?_
  refine xw_iadd dL_law_1051 ?_
  refine xw_sld (L := L) (xs := xs) rfl dL_law_1052 (lw_in (k := 1) (by omega) (by omega)) ?_
  refine yw_cV (As := [.int (xs (nI i + nI 1).toNatClampNeg)]) (b := 209) (st := [.int (keepA σ (xs (nI i + nI 1).toNatClampNeg)).1]) dL_law_1053 lL_153 kiX10_keep kvX10_keep rfl rfl rfl (la_209 h1.lay) rfl (Nat.le_of_ble_eq_true rfl) rfl (xk_I (w_keep h1.lay (hm.cf f1) (fun I2 m2 f2 => ?_)))
  exact xw_iceq (tgt := 1269) dL_law_1056 (by decide) (fun _ => nx sh I2 R1 _ (h1.mf f2) m2 (by omega)) (fun z => absurd rfl z)
theorem lc_34 (hi : i + 5 ≤ L) (hL : L ≤ 2560) (h : clR sh I R σ) (hm : mdR I σ) (hl : sh.length + 4 ≤ 1000000) (nx : lwN L xs i sh mc ms) : Ex (mL_law L xs) 1061 (lwL i) [] (sh, I, R) (4 + mc) (100 + ms) (xqI lwQ) := by
  refine Ex.up (mc := mc) (ms := ms) ?_ (by omega) (by omega)
  refine xw_aload_n dL_law_1061 rfl rfl ?_
  refine xw_aload_n dL_law_1062 rfl rfl ?_
  refine xw_iload_n dL_law_1063 rfl rfl ?_
  refine xw_iconst (v := nI 1) dL_law_1064 rfl ?_
  refine xw_iadd dL_law_1065 ?_
  refine xw_sld (L := L) (xs := xs) rfl dL_law_1066 (lw_in (k := 1) (by omega) (by omega)) ?_
  refine yw_cV (As := [.int (xs (nI i + nI 1).toNatClampNeg)]) (b := 0) (st := []) dL_law_1067 lL_154 kiX9_back kvX9_back rfl rfl rfl (la_0 h.lay) rfl (Nat.le_of_ble_eq_true rfl) rfl (xk_I (k_back h (fun I1 R1 h1 f1 => ?_)))
  refine xw_aload_n dL_law_1070 rfl rfl ?_
  refine xw_aload_n dL_law_1071 rfl rfl ?_
  refine xw_iload_n dL_law_1072 rfl rfl ?_
  refine xw_iconst (v := nI 1) dL_law_1073 rfl ?_
  refine xw_iadd dL_law_1074 ?_
  refine xw_sld (L := L) (xs := xs) rfl dL_law_1075 (lw_in (k := 1) (by omega) (by omega)) ?_
  refine yw_cV (As := [.int (xs (nI i + nI 1).toNatClampNeg)]) (b := 209) (st := [.int (backA σ (xs (nI i + nI 1).toNatClampNeg)).1]) dL_law_1076 lL_157 kiX10_back kvX10_back rfl rfl rfl (la_209 h1.lay) rfl (Nat.le_of_ble_eq_true rfl) rfl (xk_I (w_back h1.lay (hm.cf f1) (fun I2 m2 f2 => ?_)))
  exact xw_iceq (tgt := 1269) dL_law_1079 (by decide) (fun _ => nx sh I2 R1 _ (h1.mf f2) m2 (by omega)) (fun z => absurd rfl z)
theorem lc_35 (hi : i + 5 ≤ L) (hL : L ≤ 2560) (h : clR sh I R σ) (hm : mdR I σ) (hl : sh.length + 4 ≤ 1000000) (nx : lwN L xs i sh mc ms) : Ex (mL_law L xs) 1084 (lwL i) [] (sh, I, R) (4 + mc) (100 + ms) (xqI lwQ) := by
  refine Ex.up (mc := mc) (ms := ms) ?_ (by omega) (by omega)
  have hz : NeZero σ.p := h.ok.nz
  refine xw_aload_n dL_law_1084 rfl rfl ?_
  refine xw_aload_n dL_law_1085 rfl rfl ?_
  refine xw_iload_n dL_law_1086 rfl rfl ?_
  refine xw_iconst (v := nI 1) dL_law_1087 rfl ?_
  refine xw_iadd dL_law_1088 ?_
  refine xw_sld (L := L) (xs := xs) rfl dL_law_1089 (lw_in (k := 1) (by omega) (by omega)) ?_
  refine yw_cV (As := [.int (xs (nI i + nI 1).toNatClampNeg)]) (b := 0) (st := []) dL_law_1090 lL_158 kiX9_differ kvX9_differ rfl rfl rfl (la_0 h.lay) rfl (Nat.le_of_ble_eq_true rfl) rfl (xk_I (k_differ h (fun I1 R1 h1 f1 => ?_)))
  refine xw_aload_n dL_law_1093 rfl rfl ?_
  refine xw_aload_n dL_law_1094 rfl rfl ?_
  refine xw_iload_n dL_law_1095 rfl rfl ?_
  refine xw_iconst (v := nI 1) dL_law_1096 rfl ?_
  refine xw_iadd dL_law_1097 ?_
  refine xw_sld (L := L) (xs := xs) rfl dL_law_1098 (lw_in (k := 1) (by omega) (by omega)) ?_
  refine yw_cV (As := [.int (xs (nI i + nI 1).toNatClampNeg)]) (b := 209) (st := [.int (differA σ (xs (nI i + nI 1).toNatClampNeg))]) dL_law_1099 lL_161 kiX10_differ kvX10_differ rfl rfl rfl (la_209 h1.lay) rfl (Nat.le_of_ble_eq_true rfl) rfl (xk_I (w_differ h1.lay (hm.cf f1) (fun I2 m2 f2 => ?_)))
  exact xw_iceq (tgt := 1269) dL_law_1102 (by decide) (fun _ => nx sh I2 R1 _ (h1.mf f2) m2 (by omega)) (fun z => absurd rfl z)
theorem lc_36 (hi : i + 5 ≤ L) (hL : L ≤ 2560) (h : clR sh I R σ) (hm : mdR I σ) (hl : sh.length + 4 ≤ 1000000) (nx : lwN L xs i sh mc ms) : Ex (mL_law L xs) 1107 (lwL i) [] (sh, I, R) (4 + mc) (100 + ms) (xqI lwQ) := by
  refine Ex.up (mc := mc) (ms := ms) ?_ (by omega) (by omega)
  refine xw_aload_n dL_law_1107 rfl rfl ?_
  refine xw_aload_n dL_law_1108 rfl rfl ?_
  refine xw_iload_n dL_law_1109 rfl rfl ?_
  refine xw_iconst (v := nI 1) dL_law_1110 rfl ?_
  refine xw_iadd dL_law_1111 ?_
  refine xw_sld (L := L) (xs := xs) rfl dL_law_1112 (lw_in (k := 1) (by omega) (by omega)) ?_
  refine xw_aload_n dL_law_1113 rfl rfl ?_
  refine xw_iload_n dL_law_1114 rfl rfl ?_
  refine xw_iconst (v := nI 2) dL_law_1115 rfl ?_
  refine xw_iadd dL_law_1116 ?_
  refine xw_sld (L := L) (xs := xs) rfl dL_law_1117 (lw_in (k := 2) (by omega) (by omega)) ?_
  refine xw_aload_n dL_law_1118 rfl rfl ?_
  refine xw_iload_n dL_law_1119 rfl rfl ?_
  refine xw_iconst (v := nI 3) dL_law_1120 rfl ?_
  refine xw_iadd dL_law_1121 ?_
  refine xw_sld (L := L) (xs := xs) rfl dL_law_1122 (lw_in (k := 3) (by omega) (by omega)) ?_
  refine yw_cV (As := [.int (xs (nI i + nI 1).toNatClampNeg), .int (xs (nI i + nI 2).toNatClampNeg), .int (xs (nI i + nI 3).toNatClampNeg)]) (b := 0) (st := []) dL_law_1123 lL_162 kiX9_shelf kvX9_shelf rfl rfl rfl (la_0 h.lay) rfl (Nat.le_of_ble_eq_true rfl) rfl (xk_I (k_shelf h (fun I1 R1 h1 f1 => ?_)))
  refine xw_aload_n dL_law_1126 rfl rfl ?_
  refine xw_aload_n dL_law_1127 rfl rfl ?_
  refine xw_iload_n dL_law_1128 rfl rfl ?_
  refine xw_iconst (v := nI 1) dL_law_1129 rfl ?_
  refine xw_iadd dL_law_1130 ?_
  refine xw_sld (L := L) (xs := xs) rfl dL_law_1131 (lw_in (k := 1) (by omega) (by omega)) ?_
  refine xw_aload_n dL_law_1132 rfl rfl ?_
  refine xw_iload_n dL_law_1133 rfl rfl ?_
  refine xw_iconst (v := nI 2) dL_law_1134 rfl ?_
  refine xw_iadd dL_law_1135 ?_
  refine xw_sld (L := L) (xs := xs) rfl dL_law_1136 (lw_in (k := 2) (by omega) (by omega)) ?_
  refine xw_aload_n dL_law_1137 rfl rfl ?_
  refine xw_iload_n dL_law_1138 rfl rfl ?_
  refine xw_iconst (v := nI 3) dL_law_1139 rfl ?_
  refine xw_iadd dL_law_1140 ?_
  refine xw_sld (L := L) (xs := xs) rfl dL_law_1141 (lw_in (k := 3) (by omega) (by omega)) ?_
  refine yw_cV (As := [.int (xs (nI i + nI 1).toNatClampNeg), .int (xs (nI i + nI 2).toNatClampNeg), .int (xs (nI i + nI 3).toNatClampNeg)]) (b := 209) (st := [.int (shelfA σ (xs (nI i + nI 1).toNatClampNeg) (xs (nI i + nI 2).toNatClampNeg) (xs (nI i + nI 3).toNatClampNeg)).1]) dL_law_1142 lL_166 kiX10_shelf kvX10_shelf rfl rfl rfl (la_209 h1.lay) rfl (Nat.le_of_ble_eq_true rfl) rfl (xk_I (w_shelf h1.lay (hm.cf f1) (fun I2 m2 f2 => ?_)))
  exact xw_iceq (tgt := 1269) dL_law_1145 (by decide) (fun _ => nx sh I2 R1 _ (h1.mf f2) m2 (by omega)) (fun z => absurd rfl z)
theorem lc_37 (hi : i + 5 ≤ L) (hL : L ≤ 2560) (h : clR sh I R σ) (hm : mdR I σ) (hl : sh.length + 4 ≤ 1000000) (nx : lwN L xs i sh mc ms) : Ex (mL_law L xs) 1150 (lwL i) [] (sh, I, R) (4 + mc) (100 + ms) (xqI lwQ) := by
  have hz : NeZero σ.p := h.ok.nz
  refine xw_aload_n dL_law_1150 rfl rfl ?_
  refine xw_aload_n dL_law_1151 rfl rfl ?_
  refine xw_iload_n dL_law_1152 rfl rfl ?_
  refine xw_iconst (v := nI 1) dL_law_1153 rfl ?_
  refine xw_iadd dL_law_1154 ?_
  refine xw_sld (L := L) (xs := xs) rfl dL_law_1155 (lw_in (k := 1) (by omega) (by omega)) ?_
  refine xw_aload_n dL_law_1156 rfl rfl ?_
  refine xw_iload_n dL_law_1157 rfl rfl ?_
  refine xw_iconst (v := nI 2) dL_law_1158 rfl ?_
  refine xw_iadd dL_law_1159 ?_
  refine xw_sld (L := L) (xs := xs) rfl dL_law_1160 (lw_in (k := 2) (by omega) (by omega)) ?_
  refine xw_aload_n dL_law_1161 rfl rfl ?_
  refine xw_iload_n dL_law_1162 rfl rfl ?_
  refine xw_iconst (v := nI 3) dL_law_1163 rfl ?_
  refine xw_iadd dL_law_1164 ?_
  refine xw_sld (L := L) (xs := xs) rfl dL_law_1165 (lw_in (k := 3) (by omega) (by omega)) ?_
  refine Ex.up (mc := bcP + 0 + mc) (ms := bsP + 0 + ms) ?_ (Nat.add_le_add_right (by decide) _) (Nat.add_le_add_right (by decide) _)
  refine xw_callV (h := (sh, I, R)) (mc1 := bcP + 0) (ms1 := bsP + 0) (As := [.int (xs (nI i + nI 1).toNatClampNeg), .int (xs (nI i + nI 2).toNatClampNeg), .int (xs (nI i + nI 3).toNatClampNeg)]) (b := 0) (st := []) dL_law_1166 lL_167 kiX9_lay kvX9_lay (xB_of rfl) rfl rfl (la_0 h.lay) rfl (Nat.le_of_ble_eq_true rfl) (Nat.le_of_ble_eq_true rfl) ?_
  refine Cl.mono (k_lay (Q := fun w h' => Ex (mL_law L xs) 1169 (lwL i) [.int w] h' mc ms (xqI lwQ)) h (by omega) (fun sh1 I1 R1 h1 f1 l1 => ?_)) (fun v h' ⟨w, e, q⟩ => by subst e; exact q)
  refine xw_aload_n dL_law_1169 rfl rfl ?_
  refine xw_aload_n dL_law_1170 rfl rfl ?_
  refine xw_iload_n dL_law_1171 rfl rfl ?_
  refine xw_iconst (v := nI 1) dL_law_1172 rfl ?_
  refine xw_iadd dL_law_1173 ?_
  refine xw_sld (L := L) (xs := xs) rfl dL_law_1174 (lw_in (k := 1) (by omega) (by omega)) ?_
  refine xw_aload_n dL_law_1175 rfl rfl ?_
  refine xw_iload_n dL_law_1176 rfl rfl ?_
  refine xw_iconst (v := nI 2) dL_law_1177 rfl ?_
  refine xw_iadd dL_law_1178 ?_
  refine xw_sld (L := L) (xs := xs) rfl dL_law_1179 (lw_in (k := 2) (by omega) (by omega)) ?_
  refine xw_aload_n dL_law_1180 rfl rfl ?_
  refine xw_iload_n dL_law_1181 rfl rfl ?_
  refine xw_iconst (v := nI 3) dL_law_1182 rfl ?_
  refine xw_iadd dL_law_1183 ?_
  refine xw_sld (L := L) (xs := xs) rfl dL_law_1184 (lw_in (k := 3) (by omega) (by omega)) ?_
  refine yw_cV (As := [.int (xs (nI i + nI 1).toNatClampNeg), .int (xs (nI i + nI 2).toNatClampNeg), .int (xs (nI i + nI 3).toNatClampNeg)]) (b := 209) (st := [.int (layA σ (xs (nI i + nI 1).toNatClampNeg) (xs (nI i + nI 2).toNatClampNeg) (xs (nI i + nI 3).toNatClampNeg)).1]) dL_law_1185 lL_170 kiX10_lay kvX10_lay rfl rfl rfl (la_209 h1.lay) rfl (Nat.le_of_ble_eq_true rfl) rfl (xk_I (w_lay h1.lay (hm.cf f1) (fun I2 m2 f2 => ?_)))
  exact xw_iceq (tgt := 1269) dL_law_1188 (by decide) (fun _ => nx sh1 I2 R1 _ (h1.mf f2) m2 (by omega)) (fun z => absurd rfl z)
theorem lc_38 (hi : i + 5 ≤ L) (hL : L ≤ 2560) (h : clR sh I R σ) (hm : mdR I σ) (hl : sh.length + 4 ≤ 1000000) (nx : lwN L xs i sh mc ms) : Ex (mL_law L xs) 1193 (lwL i) [] (sh, I, R) (4 + mc) (100 + ms) (xqI lwQ) := by
  refine Ex.up (mc := mc) (ms := ms) ?_ (by omega) (by omega)
  refine xw_aload_n dL_law_1193 rfl rfl ?_
  refine xw_aload_n dL_law_1194 rfl rfl ?_
  refine xw_iload_n dL_law_1195 rfl rfl ?_
  refine xw_iconst (v := nI 1) dL_law_1196 rfl ?_
  refine xw_iadd dL_law_1197 ?_
  refine xw_sld (L := L) (xs := xs) rfl dL_law_1198 (lw_in (k := 1) (by omega) (by omega)) ?_
  refine xw_aload_n dL_law_1199 rfl rfl ?_
  refine xw_iload_n dL_law_1200 rfl rfl ?_
  refine xw_iconst (v := nI 2) dL_law_1201 rfl ?_
  refine xw_iadd dL_law_1202 ?_
  refine xw_sld (L := L) (xs := xs) rfl dL_law_1203 (lw_in (k := 2) (by omega) (by omega)) ?_
  refine xw_aload_n dL_law_1204 rfl rfl ?_
  refine xw_iload_n dL_law_1205 rfl rfl ?_
  refine xw_iconst (v := nI 3) dL_law_1206 rfl ?_
  refine xw_iadd dL_law_1207 ?_
  refine xw_sld (L := L) (xs := xs) rfl dL_law_1208 (lw_in (k := 3) (by omega) (by omega)) ?_
  refine yw_cV (As := [.int (xs (nI i + nI 1).toNatClampNeg), .int (xs (nI i + nI 2).toNatClampNeg), .int (xs (nI i + nI 3).toNatClampNeg)]) (b := 0) (st := []) dL_law_1209 lL_171 kiX9_take kvX9_take rfl rfl rfl (la_0 h.lay) rfl (Nat.le_of_ble_eq_true rfl) rfl (xk_I (k_take h (fun I1 R1 h1 f1 => ?_)))
  refine xw_aload_n dL_law_1212 rfl rfl ?_
  refine xw_aload_n dL_law_1213 rfl rfl ?_
  refine xw_iload_n dL_law_1214 rfl rfl ?_
  refine xw_iconst (v := nI 1) dL_law_1215 rfl ?_
  refine xw_iadd dL_law_1216 ?_
  refine xw_sld (L := L) (xs := xs) rfl dL_law_1217 (lw_in (k := 1) (by omega) (by omega)) ?_
  refine xw_aload_n dL_law_1218 rfl rfl ?_
  refine xw_iload_n dL_law_1219 rfl rfl ?_
  refine xw_iconst (v := nI 2) dL_law_1220 rfl ?_
  refine xw_iadd dL_law_1221 ?_
  refine xw_sld (L := L) (xs := xs) rfl dL_law_1222 (lw_in (k := 2) (by omega) (by omega)) ?_
  refine xw_aload_n dL_law_1223 rfl rfl ?_
  refine xw_iload_n dL_law_1224 rfl rfl ?_
  refine xw_iconst (v := nI 3) dL_law_1225 rfl ?_
  refine xw_iadd dL_law_1226 ?_
  refine xw_sld (L := L) (xs := xs) rfl dL_law_1227 (lw_in (k := 3) (by omega) (by omega)) ?_
  refine yw_cV (As := [.int (xs (nI i + nI 1).toNatClampNeg), .int (xs (nI i + nI 2).toNatClampNeg), .int (xs (nI i + nI 3).toNatClampNeg)]) (b := 209) (st := [.int (takeA σ (xs (nI i + nI 1).toNatClampNeg) (xs (nI i + nI 2).toNatClampNeg) (xs (nI i + nI 3).toNatClampNeg)).1]) dL_law_1228 lL_174 kiX10_take kvX10_take rfl rfl rfl (la_209 h1.lay) rfl (Nat.le_of_ble_eq_true rfl) rfl (xk_I (w_take h1.lay (hm.cf f1) (fun I2 m2 f2 => ?_)))
  exact xw_iceq (tgt := 1269) dL_law_1231 (by decide) (fun _ => nx sh I2 R1 _ (h1.mf f2) m2 (by omega)) (fun z => absurd rfl z)
theorem lc_39 (hi : i + 5 ≤ L) (hL : L ≤ 2560) (h : clR sh I R σ) (hm : mdR I σ) (hl : sh.length + 4 ≤ 1000000) (nx : lwN L xs i sh mc ms) : Ex (mL_law L xs) 1236 (lwL i) [] (sh, I, R) (4 + mc) (100 + ms) (xqI lwQ) := by
  refine Ex.up (mc := mc) (ms := ms) ?_ (by omega) (by omega)
  refine xw_aload_n dL_law_1236 rfl rfl ?_
  refine xw_aload_n dL_law_1237 rfl rfl ?_
  refine xw_iload_n dL_law_1238 rfl rfl ?_
  refine xw_iconst (v := nI 1) dL_law_1239 rfl ?_
  refine xw_iadd dL_law_1240 ?_
  refine xw_sld (L := L) (xs := xs) rfl dL_law_1241 (lw_in (k := 1) (by omega) (by omega)) ?_
  refine xw_aload_n dL_law_1242 rfl rfl ?_
  refine xw_iload_n dL_law_1243 rfl rfl ?_
  refine xw_iconst (v := nI 2) dL_law_1244 rfl ?_
  refine xw_iadd dL_law_1245 ?_
  refine xw_sld (L := L) (xs := xs) rfl dL_law_1246 (lw_in (k := 2) (by omega) (by omega)) ?_
  refine yw_cV (As := [.int (xs (nI i + nI 1).toNatClampNeg), .int (xs (nI i + nI 2).toNatClampNeg)]) (b := 0) (st := []) dL_law_1247 lL_175 kiX9_kind kvX9_kind rfl rfl rfl (la_0 h.lay) rfl (Nat.le_of_ble_eq_true rfl) rfl (xk_I (k_kind h ?_))
  refine xw_aload_n dL_law_1250 rfl rfl ?_
  refine xw_aload_n dL_law_1251 rfl rfl ?_
  refine xw_iload_n dL_law_1252 rfl rfl ?_
  refine xw_iconst (v := nI 1) dL_law_1253 rfl ?_
  refine xw_iadd dL_law_1254 ?_
  refine xw_sld (L := L) (xs := xs) rfl dL_law_1255 (lw_in (k := 1) (by omega) (by omega)) ?_
  refine xw_aload_n dL_law_1256 rfl rfl ?_
  refine xw_iload_n dL_law_1257 rfl rfl ?_
  refine xw_iconst (v := nI 2) dL_law_1258 rfl ?_
  refine xw_iadd dL_law_1259 ?_
  refine xw_sld (L := L) (xs := xs) rfl dL_law_1260 (lw_in (k := 2) (by omega) (by omega)) ?_
  refine yw_cV (As := [.int (xs (nI i + nI 1).toNatClampNeg), .int (xs (nI i + nI 2).toNatClampNeg)]) (b := 209) (st := [.int (kindA σ (xs (nI i + nI 1).toNatClampNeg) (xs (nI i + nI 2).toNatClampNeg))]) dL_law_1261 lL_178 kiX10_kind kvX10_kind rfl rfl rfl (la_209 h.lay) rfl (Nat.le_of_ble_eq_true rfl) rfl (xk_I (w_kind h.lay hm ?_))
  exact xw_iceq (tgt := 1269) dL_law_1264 (by decide) (fun _ => nx sh I R σ h hm (by omega)) (fun z => absurd rfl z)
end LAWC
