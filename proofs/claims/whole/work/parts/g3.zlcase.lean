set_option maxRecDepth 100000 in
set_option maxHeartbeats 4000000 in
theorem li_c29 {G : gl_T} {M0 : mm_T} {n : Nat} {xs : Nat → Int32} (hs : sc_H G n xs) (p1 p2 p3 : Nat) (i : Int32) (jj : mm_T → Option (Int32 × mm_T)) (hj : ∀ N, im_I mi_Z_law 26 601 G M0 sw_i (jj N) 3255 [some (.ref (st_B + 9000)), some (.ref p1), some (.ref p2), some (.ref p3), some (.int i), none, none, none, none] [] N) (N : mm_T) : im_I mi_Z_law 26 601 G M0 sw_i (lw_c29 n xs p1 p2 p3 i jj N) 1681 [some (.ref (st_B + 9000)), some (.ref p1), some (.ref p2), some (.ref p3), some (.int i), none, none, none, none] [] N := by
  unfold lw_c29
  refine im_aload_n 892 1681 (tz_22 12 rfl) rfl ?_
  refine im_aload_n 893 1682 (tz_22 13 rfl) rfl ?_
  refine im_iload 894 1683 (tz_22 14 rfl) rfl ?_
  refine im_iconst 895 1685 (tz_22 15 rfl) rfl ?_
  refine im_iadd 896 1686 (tz_22 16 rfl) ?_
  refine im_sld 897 1687 hs (tz_22 17 rfl) (fun x1 => ?_)
  refine im_aload_n 898 1688 (tz_22 18 rfl) rfl ?_
  refine im_cWi (S := []) (fun _ _ hv => cpW (fr' := 8) (lo' := 182) (i := 899) (As := [.ref p1, .int x1, .ref p3]) (S := []) (tz_22 19 rfl) lm_Z_258 mw_Z_availableAt mv_Z_availableAt rfl rfl rfl rfl (sp_Z_availableAt G hv)) (fun x2 M1 => ?_)
  refine im_istore 900 1692 [some (.ref (st_B + 9000)), some (.ref p1), some (.ref p2), some (.ref p3), some (.int i), some (.int x2), none, none, none] rfl rfl rfl ?_
  refine im_aload_n 901 1694 (tz_22 21 rfl) rfl ?_
  refine im_aload_n 902 1695 (tz_22 22 rfl) rfl ?_
  refine im_iload 903 1696 (tz_22 23 rfl) rfl ?_
  refine im_iconst 904 1698 (tz_22 24 rfl) rfl ?_
  refine im_iadd 905 1699 (tz_22 25 rfl) ?_
  refine im_sld 906 1700 hs (tz_22 26 rfl) (fun x3 => ?_)
  refine im_cWi (S := []) (fun _ _ hv => cpV (fr' := 23) (lo' := 535) (i := 907) (As := [.int x3]) (S := []) (a := p2) (c := 11) (tz_22 27 rfl) lk_Z_260 mw_M_availableAt mv_M_availableAt rfl ⟨by decide, rfl⟩ rfl rfl rfl (gd_some hv).1 (sp_M_availableAt G hv)) (fun x4 M2 => ?_)
  refine im_istore 908 1704 [some (.ref (st_B + 9000)), some (.ref p1), some (.ref p2), some (.ref p3), some (.int i), some (.int x2), some (.int x4), none, none] rfl rfl rfl ?_
  refine im_aload_n 909 1706 (tz_22 29 rfl) rfl ?_
  refine im_ci (S := []) (fun _ hv => cpV (fr' := 1) (lo' := 20) (i := 910) (As := []) (S := []) (a := p2) (c := 11) (tz_22 30 rfl) lk_Z_161 mw_M_thrown mv_M_thrown rfl ⟨by decide, rfl⟩ rfl rfl rfl (gd_some hv).1 (sp_M_thrown G hv)) (fun x5 => ?_)
  refine im_iload 911 1710 (tz_22 31 rfl) rfl ?_
  refine im_ic_eq 912 1712 1717 (tz_22 32 rfl) (by decide) ?_ ?_
  · refine im_iload 915 1717 (tz_22 35 rfl) rfl ?_
    refine im_jp (fun j1734 => im_I mi_Z_law 26 601 G M0 sw_i (j1734) 1734 [some (.ref (st_B + 9000)), some (.ref p1), some (.ref p2), some (.ref p3), some (.int i), none, none, none, none] [] M2) ?_ (fun j1734 hj1734 => ?_)
    · show im_I mi_Z_law 26 601 G M0 sw_i (_) 1734 [some (.ref (st_B + 9000)), some (.ref p1), some (.ref p2), some (.ref p3), some (.int i), none, none, none, none] [] M2
      refine im_goto 926 1734 3255 (tz_23 6 rfl) (by decide) ?_
      exact im_less _ (by simp [lv_le]) (hj M2)
    refine im_if_ne 916 1719 1734 (tz_22 36 rfl) (by decide) ?_ ?_
    · exact im_less _ (by simp [lv_le]) (hj1734)
    · refine im_aload_n 917 1722 (tz_22 37 rfl) rfl ?_
      refine im_iconst 918 1723 (tz_22 38 rfl) rfl ?_
      refine im_laload 919 1724 (tz_22 39 rfl) (fun x6 => ?_)
      refine im_iload 920 1725 (tz_23 0 rfl) rfl ?_
      refine im_i2l 921 1727 (tz_23 1 rfl) ?_
      refine im_lcmp 922 1728 (tz_23 2 rfl) ?_
      refine im_if_eq 923 1729 1734 (tz_23 3 rfl) (by decide) ?_ ?_
      · exact im_less _ (by simp [lv_le]) (hj1734)
      · refine im_iconst 924 1732 (tz_23 4 rfl) rfl ?_
        exact im_end rfl (wp_zreturn 925 1733 (ty := .boolean) rfl zn_0 (tz_23 5 rfl))
  · refine im_iconst 913 1715 (tz_22 33 rfl) rfl ?_
    exact im_end rfl (wp_zreturn 914 1716 (ty := .boolean) rfl zn_0 (tz_22 34 rfl))

set_option maxRecDepth 100000 in
set_option maxHeartbeats 4000000 in
theorem li_c30 {G : gl_T} {M0 : mm_T} {n : Nat} {xs : Nat → Int32} (hs : sc_H G n xs) (p1 p2 p3 : Nat) (i : Int32) (jj : mm_T → Option (Int32 × mm_T)) (hj : ∀ N, im_I mi_Z_law 26 601 G M0 sw_i (jj N) 3255 [some (.ref (st_B + 9000)), some (.ref p1), some (.ref p2), some (.ref p3), some (.int i), none, none, none, none] [] N) (N : mm_T) : im_I mi_Z_law 26 601 G M0 sw_i (lw_c30 n xs p1 p2 p3 i jj N) 1737 [some (.ref (st_B + 9000)), some (.ref p1), some (.ref p2), some (.ref p3), some (.int i), none, none, none, none] [] N := by
  unfold lw_c30
  refine im_aload_n 927 1737 (tz_23 7 rfl) rfl ?_
  refine im_aload_n 928 1738 (tz_23 8 rfl) rfl ?_
  refine im_iload 929 1739 (tz_23 9 rfl) rfl ?_
  refine im_iconst 930 1741 (tz_23 10 rfl) rfl ?_
  refine im_iadd 931 1742 (tz_23 11 rfl) ?_
  refine im_sld 932 1743 hs (tz_23 12 rfl) (fun x1 => ?_)
  refine im_aload_n 933 1744 (tz_23 13 rfl) rfl ?_
  refine im_iload 934 1745 (tz_23 14 rfl) rfl ?_
  refine im_iconst 935 1747 (tz_23 15 rfl) rfl ?_
  refine im_iadd 936 1748 (tz_23 16 rfl) ?_
  refine im_sld 937 1749 hs (tz_23 17 rfl) (fun x2 => ?_)
  refine im_aload_n 938 1750 (tz_23 18 rfl) rfl ?_
  refine im_cWi (S := []) (fun _ _ hv => cpW (fr' := 8) (lo' := 154) (i := 939) (As := [.ref p1, .int x1, .int x2, .ref p3]) (S := []) (tz_23 19 rfl) lm_Z_261 mw_Z_dominates mv_Z_dominates rfl rfl rfl rfl (sp_Z_dominates G hv)) (fun x3 M1 => ?_)
  refine im_istore 940 1754 [some (.ref (st_B + 9000)), some (.ref p1), some (.ref p2), some (.ref p3), some (.int i), some (.int x3), none, none, none] rfl rfl rfl ?_
  refine im_aload_n 941 1756 (tz_23 21 rfl) rfl ?_
  refine im_aload_n 942 1757 (tz_23 22 rfl) rfl ?_
  refine im_iload 943 1758 (tz_23 23 rfl) rfl ?_
  refine im_iconst 944 1760 (tz_23 24 rfl) rfl ?_
  refine im_iadd 945 1761 (tz_23 25 rfl) ?_
  refine im_sld 946 1762 hs (tz_23 26 rfl) (fun x4 => ?_)
  refine im_aload_n 947 1763 (tz_23 27 rfl) rfl ?_
  refine im_iload 948 1764 (tz_23 28 rfl) rfl ?_
  refine im_iconst 949 1766 (tz_23 29 rfl) rfl ?_
  refine im_iadd 950 1767 (tz_23 30 rfl) ?_
  refine im_sld 951 1768 hs (tz_23 31 rfl) (fun x5 => ?_)
  refine im_cWi (S := []) (fun _ _ hv => cpV (fr' := 22) (lo' := 510) (i := 952) (As := [.int x4, .int x5]) (S := []) (a := p2) (c := 11) (tz_23 32 rfl) lk_Z_263 mw_M_dominates mv_M_dominates rfl ⟨by decide, rfl⟩ rfl rfl rfl (gd_some hv).1 (sp_M_dominates G hv)) (fun x6 M2 => ?_)
  refine im_istore 953 1772 [some (.ref (st_B + 9000)), some (.ref p1), some (.ref p2), some (.ref p3), some (.int i), some (.int x3), some (.int x6), none, none] rfl rfl rfl ?_
  refine im_aload_n 954 1774 (tz_23 34 rfl) rfl ?_
  refine im_ci (S := []) (fun _ hv => cpV (fr' := 1) (lo' := 20) (i := 955) (As := []) (S := []) (a := p2) (c := 11) (tz_23 35 rfl) lk_Z_161 mw_M_thrown mv_M_thrown rfl ⟨by decide, rfl⟩ rfl rfl rfl (gd_some hv).1 (sp_M_thrown G hv)) (fun x7 => ?_)
  refine im_iload 956 1778 (tz_23 36 rfl) rfl ?_
  refine im_ic_eq 957 1780 1785 (tz_23 37 rfl) (by decide) ?_ ?_
  · refine im_iload 960 1785 (tz_24 0 rfl) rfl ?_
    refine im_jp (fun j1809 => im_I mi_Z_law 26 601 G M0 sw_i (j1809) 1809 [some (.ref (st_B + 9000)), some (.ref p1), some (.ref p2), some (.ref p3), some (.int i), none, none, none, none] [] M2) ?_ (fun j1809 hj1809 => ?_)
    · show im_I mi_Z_law 26 601 G M0 sw_i (_) 1809 [some (.ref (st_B + 9000)), some (.ref p1), some (.ref p2), some (.ref p3), some (.int i), none, none, none, none] [] M2
      refine im_goto 974 1809 3255 (tz_24 14 rfl) (by decide) ?_
      exact im_less _ (by simp [lv_le]) (hj M2)
    refine im_if_ne 961 1787 1809 (tz_24 1 rfl) (by decide) ?_ ?_
    · exact im_less _ (by simp [lv_le]) (hj1809)
    · refine im_aload_n 962 1790 (tz_24 2 rfl) rfl ?_
      refine im_iconst 963 1791 (tz_24 3 rfl) rfl ?_
      refine im_laload 964 1792 (tz_24 4 rfl) (fun x8 => ?_)
      refine im_iload 965 1793 (tz_24 5 rfl) rfl ?_
      refine im_jp (fun j1803 => ∀ (x9 : Int64), im_I mi_Z_law 26 601 G M0 sw_i (j1803 x9) 1803 [some (.ref (st_B + 9000)), some (.ref p1), some (.ref p2), some (.ref p3), some (.int i), none, none, none, none] [.long x9, .long x8] M2) ?_ (fun j1803 hj1803 => ?_)
      · intro x9
        show im_I mi_Z_law 26 601 G M0 sw_i (_) 1803 [some (.ref (st_B + 9000)), some (.ref p1), some (.ref p2), some (.ref p3), some (.int i), none, none, none, none] [.long x9, .long x8] M2
        refine im_lcmp 970 1803 (tz_24 10 rfl) ?_
        refine im_if_eq 971 1804 1809 (tz_24 11 rfl) (by decide) ?_ ?_
        · exact im_less _ (by simp [lv_le]) (hj1809)
        · refine im_iconst 972 1807 (tz_24 12 rfl) rfl ?_
          exact im_end rfl (wp_zreturn 973 1808 (ty := .boolean) rfl zn_0 (tz_24 13 rfl))
      refine im_if_eq 966 1795 1802 (tz_24 6 rfl) (by decide) ?_ ?_
      · refine im_lconst 969 1802 (tz_24 9 rfl) rfl ?_
        exact im_less _ (by simp [lv_le]) (hj1803 (0 : Int64))
      · refine im_lconst 967 1798 (tz_24 7 rfl) rfl ?_
        refine im_goto 968 1799 1803 (tz_24 8 rfl) (by decide) ?_
        exact im_less _ (by simp [lv_le]) (hj1803 (1 : Int64))
  · refine im_iconst 958 1783 (tz_23 38 rfl) rfl ?_
    exact im_end rfl (wp_zreturn 959 1784 (ty := .boolean) rfl zn_0 (tz_23 39 rfl))

set_option maxRecDepth 100000 in
set_option maxHeartbeats 4000000 in
theorem li_c31 {G : gl_T} {M0 : mm_T} {n : Nat} {xs : Nat → Int32} (hs : sc_H G n xs) (p1 p2 p3 : Nat) (i : Int32) (jj : mm_T → Option (Int32 × mm_T)) (hj : ∀ N, im_I mi_Z_law 26 601 G M0 sw_i (jj N) 3255 [some (.ref (st_B + 9000)), some (.ref p1), some (.ref p2), some (.ref p3), some (.int i), none, none, none, none] [] N) (N : mm_T) : im_I mi_Z_law 26 601 G M0 sw_i (lw_c31 n xs p1 p2 p3 i jj N) 1812 [some (.ref (st_B + 9000)), some (.ref p1), some (.ref p2), some (.ref p3), some (.int i), none, none, none, none] [] N := by
  unfold lw_c31
  refine im_aload_n 975 1812 (tz_24 15 rfl) rfl ?_
  refine im_aload_n 976 1813 (tz_24 16 rfl) rfl ?_
  refine im_iload 977 1814 (tz_24 17 rfl) rfl ?_
  refine im_iconst 978 1816 (tz_24 18 rfl) rfl ?_
  refine im_iadd 979 1817 (tz_24 19 rfl) ?_
  refine im_sld 980 1818 hs (tz_24 20 rfl) (fun x1 => ?_)
  refine im_aload_n 981 1819 (tz_24 21 rfl) rfl ?_
  refine im_cWi (S := []) (fun _ _ hv => cpW (fr' := 8) (lo' := 153) (i := 982) (As := [.ref p1, .int x1, .ref p3]) (S := []) (tz_24 22 rfl) lm_Z_264 mw_Z_immediateDominator mv_Z_immediateDominator rfl rfl rfl rfl (sp_Z_immediateDominator G hv)) (fun x2 M1 => ?_)
  refine im_istore 983 1823 [some (.ref (st_B + 9000)), some (.ref p1), some (.ref p2), some (.ref p3), some (.int i), some (.int x2), none, none, none] rfl rfl rfl ?_
  refine im_aload_n 984 1825 (tz_24 24 rfl) rfl ?_
  refine im_aload_n 985 1826 (tz_24 25 rfl) rfl ?_
  refine im_iload 986 1827 (tz_24 26 rfl) rfl ?_
  refine im_iconst 987 1829 (tz_24 27 rfl) rfl ?_
  refine im_iadd 988 1830 (tz_24 28 rfl) ?_
  refine im_sld 989 1831 hs (tz_24 29 rfl) (fun x3 => ?_)
  refine im_cWi (S := []) (fun _ _ hv => cpV (fr' := 24) (lo' := 558) (i := 990) (As := [.int x3]) (S := []) (a := p2) (c := 11) (tz_24 30 rfl) lk_Z_266 mw_M_immediateDominator mv_M_immediateDominator rfl ⟨by decide, rfl⟩ rfl rfl rfl (gd_some hv).1 (sp_M_immediateDominator G hv)) (fun x4 M2 => ?_)
  refine im_istore 991 1835 [some (.ref (st_B + 9000)), some (.ref p1), some (.ref p2), some (.ref p3), some (.int i), some (.int x2), some (.int x4), none, none] rfl rfl rfl ?_
  refine im_aload_n 992 1837 (tz_24 32 rfl) rfl ?_
  refine im_ci (S := []) (fun _ hv => cpV (fr' := 1) (lo' := 20) (i := 993) (As := []) (S := []) (a := p2) (c := 11) (tz_24 33 rfl) lk_Z_161 mw_M_thrown mv_M_thrown rfl ⟨by decide, rfl⟩ rfl rfl rfl (gd_some hv).1 (sp_M_thrown G hv)) (fun x5 => ?_)
  refine im_iload 994 1841 (tz_24 34 rfl) rfl ?_
  refine im_ic_eq 995 1843 1848 (tz_24 35 rfl) (by decide) ?_ ?_
  · refine im_iload 998 1848 (tz_24 38 rfl) rfl ?_
    refine im_jp (fun j1865 => im_I mi_Z_law 26 601 G M0 sw_i (j1865) 1865 [some (.ref (st_B + 9000)), some (.ref p1), some (.ref p2), some (.ref p3), some (.int i), none, none, none, none] [] M2) ?_ (fun j1865 hj1865 => ?_)
    · show im_I mi_Z_law 26 601 G M0 sw_i (_) 1865 [some (.ref (st_B + 9000)), some (.ref p1), some (.ref p2), some (.ref p3), some (.int i), none, none, none, none] [] M2
      refine im_goto 1009 1865 3255 (tz_25 9 rfl) (by decide) ?_
      exact im_less _ (by simp [lv_le]) (hj M2)
    refine im_if_ne 999 1850 1865 (tz_24 39 rfl) (by decide) ?_ ?_
    · exact im_less _ (by simp [lv_le]) (hj1865)
    · refine im_aload_n 1000 1853 (tz_25 0 rfl) rfl ?_
      refine im_iconst 1001 1854 (tz_25 1 rfl) rfl ?_
      refine im_laload 1002 1855 (tz_25 2 rfl) (fun x6 => ?_)
      refine im_iload 1003 1856 (tz_25 3 rfl) rfl ?_
      refine im_i2l 1004 1858 (tz_25 4 rfl) ?_
      refine im_lcmp 1005 1859 (tz_25 5 rfl) ?_
      refine im_if_eq 1006 1860 1865 (tz_25 6 rfl) (by decide) ?_ ?_
      · exact im_less _ (by simp [lv_le]) (hj1865)
      · refine im_iconst 1007 1863 (tz_25 7 rfl) rfl ?_
        exact im_end rfl (wp_zreturn 1008 1864 (ty := .boolean) rfl zn_0 (tz_25 8 rfl))
  · refine im_iconst 996 1846 (tz_24 36 rfl) rfl ?_
    exact im_end rfl (wp_zreturn 997 1847 (ty := .boolean) rfl zn_0 (tz_24 37 rfl))

set_option maxRecDepth 100000 in
set_option maxHeartbeats 4000000 in
theorem li_c32 {G : gl_T} {M0 : mm_T} {n : Nat} {xs : Nat → Int32} (hs : sc_H G n xs) (p1 p2 p3 : Nat) (i : Int32) (jj : mm_T → Option (Int32 × mm_T)) (hj : ∀ N, im_I mi_Z_law 26 601 G M0 sw_i (jj N) 3255 [some (.ref (st_B + 9000)), some (.ref p1), some (.ref p2), some (.ref p3), some (.int i), none, none, none, none] [] N) (N : mm_T) : im_I mi_Z_law 26 601 G M0 sw_i (lw_c32 n xs p1 p2 p3 i jj N) 1868 [some (.ref (st_B + 9000)), some (.ref p1), some (.ref p2), some (.ref p3), some (.int i), none, none, none, none] [] N := by
  unfold lw_c32
  refine im_aload_n 1010 1868 (tz_25 10 rfl) rfl ?_
  refine im_aload_n 1011 1869 (tz_25 11 rfl) rfl ?_
  refine im_iload 1012 1870 (tz_25 12 rfl) rfl ?_
  refine im_iconst 1013 1872 (tz_25 13 rfl) rfl ?_
  refine im_iadd 1014 1873 (tz_25 14 rfl) ?_
  refine im_sld 1015 1874 hs (tz_25 15 rfl) (fun x1 => ?_)
  refine im_aload_n 1016 1875 (tz_25 16 rfl) rfl ?_
  refine im_iload 1017 1876 (tz_25 17 rfl) rfl ?_
  refine im_iconst 1018 1878 (tz_25 18 rfl) rfl ?_
  refine im_iadd 1019 1879 (tz_25 19 rfl) ?_
  refine im_sld 1020 1880 hs (tz_25 20 rfl) (fun x2 => ?_)
  refine im_aload_n 1021 1881 (tz_25 21 rfl) rfl ?_
  refine im_cWi (S := []) (fun _ _ hv => cpW (fr' := 8) (lo' := 154) (i := 1022) (As := [.ref p1, .int x1, .int x2, .ref p3]) (S := []) (tz_25 22 rfl) lm_Z_267 mw_Z_commonDominator mv_Z_commonDominator rfl rfl rfl rfl (sp_Z_commonDominator G hv)) (fun x3 M1 => ?_)
  refine im_istore 1023 1885 [some (.ref (st_B + 9000)), some (.ref p1), some (.ref p2), some (.ref p3), some (.int i), some (.int x3), none, none, none] rfl rfl rfl ?_
  refine im_aload_n 1024 1887 (tz_25 24 rfl) rfl ?_
  refine im_aload_n 1025 1888 (tz_25 25 rfl) rfl ?_
  refine im_iload 1026 1889 (tz_25 26 rfl) rfl ?_
  refine im_iconst 1027 1891 (tz_25 27 rfl) rfl ?_
  refine im_iadd 1028 1892 (tz_25 28 rfl) ?_
  refine im_sld 1029 1893 hs (tz_25 29 rfl) (fun x4 => ?_)
  refine im_aload_n 1030 1894 (tz_25 30 rfl) rfl ?_
  refine im_iload 1031 1895 (tz_25 31 rfl) rfl ?_
  refine im_iconst 1032 1897 (tz_25 32 rfl) rfl ?_
  refine im_iadd 1033 1898 (tz_25 33 rfl) ?_
  refine im_sld 1034 1899 hs (tz_25 34 rfl) (fun x5 => ?_)
  refine im_cWi (S := []) (fun _ _ hv => cpV (fr' := 24) (lo' := 558) (i := 1035) (As := [.int x4, .int x5]) (S := []) (a := p2) (c := 11) (tz_25 35 rfl) lk_Z_269 mw_M_commonDominator mv_M_commonDominator rfl ⟨by decide, rfl⟩ rfl rfl rfl (gd_some hv).1 (sp_M_commonDominator G hv)) (fun x6 M2 => ?_)
  refine im_istore 1036 1903 [some (.ref (st_B + 9000)), some (.ref p1), some (.ref p2), some (.ref p3), some (.int i), some (.int x3), some (.int x6), none, none] rfl rfl rfl ?_
  refine im_aload_n 1037 1905 (tz_25 37 rfl) rfl ?_
  refine im_ci (S := []) (fun _ hv => cpV (fr' := 1) (lo' := 20) (i := 1038) (As := []) (S := []) (a := p2) (c := 11) (tz_25 38 rfl) lk_Z_161 mw_M_thrown mv_M_thrown rfl ⟨by decide, rfl⟩ rfl rfl rfl (gd_some hv).1 (sp_M_thrown G hv)) (fun x7 => ?_)
  refine im_iload 1039 1909 (tz_25 39 rfl) rfl ?_
  refine im_ic_eq 1040 1911 1916 (tz_26 0 rfl) (by decide) ?_ ?_
  · refine im_iload 1043 1916 (tz_26 3 rfl) rfl ?_
    refine im_jp (fun j1933 => im_I mi_Z_law 26 601 G M0 sw_i (j1933) 1933 [some (.ref (st_B + 9000)), some (.ref p1), some (.ref p2), some (.ref p3), some (.int i), none, none, none, none] [] M2) ?_ (fun j1933 hj1933 => ?_)
    · show im_I mi_Z_law 26 601 G M0 sw_i (_) 1933 [some (.ref (st_B + 9000)), some (.ref p1), some (.ref p2), some (.ref p3), some (.int i), none, none, none, none] [] M2
      refine im_goto 1054 1933 3255 (tz_26 14 rfl) (by decide) ?_
      exact im_less _ (by simp [lv_le]) (hj M2)
    refine im_if_ne 1044 1918 1933 (tz_26 4 rfl) (by decide) ?_ ?_
    · exact im_less _ (by simp [lv_le]) (hj1933)
    · refine im_aload_n 1045 1921 (tz_26 5 rfl) rfl ?_
      refine im_iconst 1046 1922 (tz_26 6 rfl) rfl ?_
      refine im_laload 1047 1923 (tz_26 7 rfl) (fun x8 => ?_)
      refine im_iload 1048 1924 (tz_26 8 rfl) rfl ?_
      refine im_i2l 1049 1926 (tz_26 9 rfl) ?_
      refine im_lcmp 1050 1927 (tz_26 10 rfl) ?_
      refine im_if_eq 1051 1928 1933 (tz_26 11 rfl) (by decide) ?_ ?_
      · exact im_less _ (by simp [lv_le]) (hj1933)
      · refine im_iconst 1052 1931 (tz_26 12 rfl) rfl ?_
        exact im_end rfl (wp_zreturn 1053 1932 (ty := .boolean) rfl zn_0 (tz_26 13 rfl))
  · refine im_iconst 1041 1914 (tz_26 1 rfl) rfl ?_
    exact im_end rfl (wp_zreturn 1042 1915 (ty := .boolean) rfl zn_0 (tz_26 2 rfl))

set_option maxRecDepth 100000 in
set_option maxHeartbeats 4000000 in
theorem li_c33 {G : gl_T} {M0 : mm_T} {n : Nat} {xs : Nat → Int32} (hs : sc_H G n xs) (p1 p2 p3 : Nat) (i : Int32) (jj : mm_T → Option (Int32 × mm_T)) (hj : ∀ N, im_I mi_Z_law 26 601 G M0 sw_i (jj N) 3255 [some (.ref (st_B + 9000)), some (.ref p1), some (.ref p2), some (.ref p3), some (.int i), none, none, none, none] [] N) (N : mm_T) : im_I mi_Z_law 26 601 G M0 sw_i (lw_c33 n xs p1 p2 p3 i jj N) 1936 [some (.ref (st_B + 9000)), some (.ref p1), some (.ref p2), some (.ref p3), some (.int i), none, none, none, none] [] N := by
  unfold lw_c33
  refine im_aload_n 1055 1936 (tz_26 15 rfl) rfl ?_
  refine im_cWi (S := []) (fun _ _ hv => cpV (fr' := 6) (lo' := 132) (i := 1056) (As := []) (S := []) (a := p1) (c := 10) (tz_26 16 rfl) lk_Z_270 mw_D_backEdges mv_D_backEdges rfl ⟨by decide, rfl⟩ rfl rfl rfl (gd_some hv).1 (sp_D_backEdges G hv)) (fun x1 M1 => ?_)
  refine im_aload_n 1057 1940 (tz_26 17 rfl) rfl ?_
  refine im_cWi (S := [.int x1]) (fun _ _ hv => cpV (fr' := 23) (lo' := 532) (i := 1058) (As := []) (S := [.int x1]) (a := p2) (c := 11) (tz_26 18 rfl) lk_Z_273 mw_M_backEdges mv_M_backEdges rfl ⟨by decide, rfl⟩ rfl rfl rfl (gd_some hv).1 (sp_M_backEdges G hv)) (fun x2 M2 => ?_)
  refine im_ic_eq 1059 1944 3255 (tz_26 19 rfl) (by decide) ?_ ?_
  · exact im_less _ (by simp [lv_le]) (hj M2)
  · refine im_iconst 1060 1947 (tz_26 20 rfl) rfl ?_
    exact im_end rfl (wp_zreturn 1061 1948 (ty := .boolean) rfl zn_0 (tz_26 21 rfl))

set_option maxRecDepth 100000 in
set_option maxHeartbeats 4000000 in
theorem li_c34 {G : gl_T} {M0 : mm_T} {n : Nat} {xs : Nat → Int32} (hs : sc_H G n xs) (p1 p2 p3 : Nat) (i : Int32) (jj : mm_T → Option (Int32 × mm_T)) (hj : ∀ N, im_I mi_Z_law 26 601 G M0 sw_i (jj N) 3255 [some (.ref (st_B + 9000)), some (.ref p1), some (.ref p2), some (.ref p3), some (.int i), none, none, none, none] [] N) (N : mm_T) : im_I mi_Z_law 26 601 G M0 sw_i (lw_c34 n xs p1 p2 p3 i jj N) 1949 [some (.ref (st_B + 9000)), some (.ref p1), some (.ref p2), some (.ref p3), some (.int i), none, none, none, none] [] N := by
  unfold lw_c34
  refine im_aload_n 1062 1949 (tz_26 22 rfl) rfl ?_
  refine im_aload_n 1063 1950 (tz_26 23 rfl) rfl ?_
  refine im_iload 1064 1951 (tz_26 24 rfl) rfl ?_
  refine im_iconst 1065 1953 (tz_26 25 rfl) rfl ?_
  refine im_iadd 1066 1954 (tz_26 26 rfl) ?_
  refine im_sld 1067 1955 hs (tz_26 27 rfl) (fun x1 => ?_)
  refine im_aload_n 1068 1956 (tz_26 28 rfl) rfl ?_
  refine im_cWi (S := []) (fun _ _ hv => cpW (fr' := 8) (lo' := 153) (i := 1069) (As := [.ref p1, .int x1, .ref p3]) (S := []) (tz_26 29 rfl) lm_Z_274 mw_Z_loopSize mv_Z_loopSize rfl rfl rfl rfl (sp_Z_loopSize G hv)) (fun x2 M1 => ?_)
  refine im_istore 1070 1960 [some (.ref (st_B + 9000)), some (.ref p1), some (.ref p2), some (.ref p3), some (.int i), some (.int x2), none, none, none] rfl rfl rfl ?_
  refine im_aload_n 1071 1962 (tz_26 31 rfl) rfl ?_
  refine im_aload_n 1072 1963 (tz_26 32 rfl) rfl ?_
  refine im_iload 1073 1964 (tz_26 33 rfl) rfl ?_
  refine im_iconst 1074 1966 (tz_26 34 rfl) rfl ?_
  refine im_iadd 1075 1967 (tz_26 35 rfl) ?_
  refine im_sld 1076 1968 hs (tz_26 36 rfl) (fun x3 => ?_)
  refine im_cWi (S := []) (fun _ _ hv => cpV (fr' := 25) (lo' := 578) (i := 1077) (As := [.int x3]) (S := []) (a := p2) (c := 11) (tz_26 37 rfl) lk_Z_276 mw_M_loopSize mv_M_loopSize rfl ⟨by decide, rfl⟩ rfl rfl rfl (gd_some hv).1 (sp_M_loopSize G hv)) (fun x4 M2 => ?_)
  refine im_istore 1078 1972 [some (.ref (st_B + 9000)), some (.ref p1), some (.ref p2), some (.ref p3), some (.int i), some (.int x2), some (.int x4), none, none] rfl rfl rfl ?_
  refine im_aload_n 1079 1974 (tz_26 39 rfl) rfl ?_
  refine im_ci (S := []) (fun _ hv => cpV (fr' := 1) (lo' := 20) (i := 1080) (As := []) (S := []) (a := p2) (c := 11) (tz_27 0 rfl) lk_Z_161 mw_M_thrown mv_M_thrown rfl ⟨by decide, rfl⟩ rfl rfl rfl (gd_some hv).1 (sp_M_thrown G hv)) (fun x5 => ?_)
  refine im_iload 1081 1978 (tz_27 1 rfl) rfl ?_
  refine im_ic_eq 1082 1980 1985 (tz_27 2 rfl) (by decide) ?_ ?_
  · refine im_iload 1085 1985 (tz_27 5 rfl) rfl ?_
    refine im_jp (fun j2002 => im_I mi_Z_law 26 601 G M0 sw_i (j2002) 2002 [some (.ref (st_B + 9000)), some (.ref p1), some (.ref p2), some (.ref p3), some (.int i), none, none, none, none] [] M2) ?_ (fun j2002 hj2002 => ?_)
    · show im_I mi_Z_law 26 601 G M0 sw_i (_) 2002 [some (.ref (st_B + 9000)), some (.ref p1), some (.ref p2), some (.ref p3), some (.int i), none, none, none, none] [] M2
      refine im_goto 1096 2002 3255 (tz_27 16 rfl) (by decide) ?_
      exact im_less _ (by simp [lv_le]) (hj M2)
    refine im_if_ne 1086 1987 2002 (tz_27 6 rfl) (by decide) ?_ ?_
    · exact im_less _ (by simp [lv_le]) (hj2002)
    · refine im_aload_n 1087 1990 (tz_27 7 rfl) rfl ?_
      refine im_iconst 1088 1991 (tz_27 8 rfl) rfl ?_
      refine im_laload 1089 1992 (tz_27 9 rfl) (fun x6 => ?_)
      refine im_iload 1090 1993 (tz_27 10 rfl) rfl ?_
      refine im_i2l 1091 1995 (tz_27 11 rfl) ?_
      refine im_lcmp 1092 1996 (tz_27 12 rfl) ?_
      refine im_if_eq 1093 1997 2002 (tz_27 13 rfl) (by decide) ?_ ?_
      · exact im_less _ (by simp [lv_le]) (hj2002)
      · refine im_iconst 1094 2000 (tz_27 14 rfl) rfl ?_
        exact im_end rfl (wp_zreturn 1095 2001 (ty := .boolean) rfl zn_0 (tz_27 15 rfl))
  · refine im_iconst 1083 1983 (tz_27 3 rfl) rfl ?_
    exact im_end rfl (wp_zreturn 1084 1984 (ty := .boolean) rfl zn_0 (tz_27 4 rfl))

set_option maxRecDepth 100000 in
set_option maxHeartbeats 4000000 in
theorem li_c35 {G : gl_T} {M0 : mm_T} {n : Nat} {xs : Nat → Int32} (hs : sc_H G n xs) (p1 p2 p3 : Nat) (i : Int32) (jj : mm_T → Option (Int32 × mm_T)) (hj : ∀ N, im_I mi_Z_law 26 601 G M0 sw_i (jj N) 3255 [some (.ref (st_B + 9000)), some (.ref p1), some (.ref p2), some (.ref p3), some (.int i), none, none, none, none] [] N) (N : mm_T) : im_I mi_Z_law 26 601 G M0 sw_i (lw_c35 n xs p1 p2 p3 i jj N) 2005 [some (.ref (st_B + 9000)), some (.ref p1), some (.ref p2), some (.ref p3), some (.int i), none, none, none, none] [] N := by
  unfold lw_c35
  refine im_aload_n 1097 2005 (tz_27 17 rfl) rfl ?_
  refine im_aload_n 1098 2006 (tz_27 18 rfl) rfl ?_
  refine im_iload 1099 2007 (tz_27 19 rfl) rfl ?_
  refine im_iconst 1100 2009 (tz_27 20 rfl) rfl ?_
  refine im_iadd 1101 2010 (tz_27 21 rfl) ?_
  refine im_sld 1102 2011 hs (tz_27 22 rfl) (fun x1 => ?_)
  refine im_aload_n 1103 2012 (tz_27 23 rfl) rfl ?_
  refine im_cWi (S := []) (fun _ _ hv => cpW (fr' := 8) (lo' := 153) (i := 1104) (As := [.ref p1, .int x1, .ref p3]) (S := []) (tz_27 24 rfl) lm_Z_277 mw_Z_loopDepth mv_Z_loopDepth rfl rfl rfl rfl (sp_Z_loopDepth G hv)) (fun x2 M1 => ?_)
  refine im_istore 1105 2016 [some (.ref (st_B + 9000)), some (.ref p1), some (.ref p2), some (.ref p3), some (.int i), some (.int x2), none, none, none] rfl rfl rfl ?_
  refine im_aload_n 1106 2018 (tz_27 26 rfl) rfl ?_
  refine im_aload_n 1107 2019 (tz_27 27 rfl) rfl ?_
  refine im_iload 1108 2020 (tz_27 28 rfl) rfl ?_
  refine im_iconst 1109 2022 (tz_27 29 rfl) rfl ?_
  refine im_iadd 1110 2023 (tz_27 30 rfl) ?_
  refine im_sld 1111 2024 hs (tz_27 31 rfl) (fun x3 => ?_)
  refine im_cWi (S := []) (fun _ _ hv => cpV (fr' := 25) (lo' := 578) (i := 1112) (As := [.int x3]) (S := []) (a := p2) (c := 11) (tz_27 32 rfl) lk_Z_279 mw_M_loopDepth mv_M_loopDepth rfl ⟨by decide, rfl⟩ rfl rfl rfl (gd_some hv).1 (sp_M_loopDepth G hv)) (fun x4 M2 => ?_)
  refine im_istore 1113 2028 [some (.ref (st_B + 9000)), some (.ref p1), some (.ref p2), some (.ref p3), some (.int i), some (.int x2), some (.int x4), none, none] rfl rfl rfl ?_
  refine im_aload_n 1114 2030 (tz_27 34 rfl) rfl ?_
  refine im_ci (S := []) (fun _ hv => cpV (fr' := 1) (lo' := 20) (i := 1115) (As := []) (S := []) (a := p2) (c := 11) (tz_27 35 rfl) lk_Z_161 mw_M_thrown mv_M_thrown rfl ⟨by decide, rfl⟩ rfl rfl rfl (gd_some hv).1 (sp_M_thrown G hv)) (fun x5 => ?_)
  refine im_iload 1116 2034 (tz_27 36 rfl) rfl ?_
  refine im_ic_eq 1117 2036 2041 (tz_27 37 rfl) (by decide) ?_ ?_
  · refine im_iload 1120 2041 (tz_28 0 rfl) rfl ?_
    refine im_jp (fun j2058 => im_I mi_Z_law 26 601 G M0 sw_i (j2058) 2058 [some (.ref (st_B + 9000)), some (.ref p1), some (.ref p2), some (.ref p3), some (.int i), none, none, none, none] [] M2) ?_ (fun j2058 hj2058 => ?_)
    · show im_I mi_Z_law 26 601 G M0 sw_i (_) 2058 [some (.ref (st_B + 9000)), some (.ref p1), some (.ref p2), some (.ref p3), some (.int i), none, none, none, none] [] M2
      refine im_goto 1131 2058 3255 (tz_28 11 rfl) (by decide) ?_
      exact im_less _ (by simp [lv_le]) (hj M2)
    refine im_if_ne 1121 2043 2058 (tz_28 1 rfl) (by decide) ?_ ?_
    · exact im_less _ (by simp [lv_le]) (hj2058)
    · refine im_aload_n 1122 2046 (tz_28 2 rfl) rfl ?_
      refine im_iconst 1123 2047 (tz_28 3 rfl) rfl ?_
      refine im_laload 1124 2048 (tz_28 4 rfl) (fun x6 => ?_)
      refine im_iload 1125 2049 (tz_28 5 rfl) rfl ?_
      refine im_i2l 1126 2051 (tz_28 6 rfl) ?_
      refine im_lcmp 1127 2052 (tz_28 7 rfl) ?_
      refine im_if_eq 1128 2053 2058 (tz_28 8 rfl) (by decide) ?_ ?_
      · exact im_less _ (by simp [lv_le]) (hj2058)
      · refine im_iconst 1129 2056 (tz_28 9 rfl) rfl ?_
        exact im_end rfl (wp_zreturn 1130 2057 (ty := .boolean) rfl zn_0 (tz_28 10 rfl))
  · refine im_iconst 1118 2039 (tz_27 38 rfl) rfl ?_
    exact im_end rfl (wp_zreturn 1119 2040 (ty := .boolean) rfl zn_0 (tz_27 39 rfl))

set_option maxRecDepth 100000 in
set_option maxHeartbeats 4000000 in
theorem li_c36 {G : gl_T} {M0 : mm_T} {n : Nat} {xs : Nat → Int32} (hs : sc_H G n xs) (p1 p2 p3 : Nat) (i : Int32) (jj : mm_T → Option (Int32 × mm_T)) (hj : ∀ N, im_I mi_Z_law 26 601 G M0 sw_i (jj N) 3255 [some (.ref (st_B + 9000)), some (.ref p1), some (.ref p2), some (.ref p3), some (.int i), none, none, none, none] [] N) (N : mm_T) : im_I mi_Z_law 26 601 G M0 sw_i (lw_c36 n xs p1 p2 p3 i jj N) 2061 [some (.ref (st_B + 9000)), some (.ref p1), some (.ref p2), some (.ref p3), some (.int i), none, none, none, none] [] N := by
  unfold lw_c36
  refine im_aload_n 1132 2061 (tz_28 12 rfl) rfl ?_
  refine im_aload_n 1133 2062 (tz_28 13 rfl) rfl ?_
  refine im_iload 1134 2063 (tz_28 14 rfl) rfl ?_
  refine im_iconst 1135 2065 (tz_28 15 rfl) rfl ?_
  refine im_iadd 1136 2066 (tz_28 16 rfl) ?_
  refine im_sld 1137 2067 hs (tz_28 17 rfl) (fun x1 => ?_)
  refine im_aload_n 1138 2068 (tz_28 18 rfl) rfl ?_
  refine im_iload 1139 2069 (tz_28 19 rfl) rfl ?_
  refine im_iconst 1140 2071 (tz_28 20 rfl) rfl ?_
  refine im_iadd 1141 2072 (tz_28 21 rfl) ?_
  refine im_sld 1142 2073 hs (tz_28 22 rfl) (fun x2 => ?_)
  refine im_aload_n 1143 2074 (tz_28 23 rfl) rfl ?_
  refine im_cWi (S := []) (fun _ _ hv => cpW (fr' := 8) (lo' := 184) (i := 1144) (As := [.ref p1, .int x1, .int x2, .ref p3]) (S := []) (tz_28 24 rfl) lm_Z_280 mw_Z_constantAt mv_Z_constantAt rfl rfl rfl rfl (sp_Z_constantAt G hv)) (fun x3 M1 => ?_)
  refine im_istore 1145 2078 [some (.ref (st_B + 9000)), some (.ref p1), some (.ref p2), some (.ref p3), some (.int i), some (.int x3), none, none, none] rfl rfl rfl ?_
  refine im_aload_n 1146 2080 (tz_28 26 rfl) rfl ?_
  refine im_aload_n 1147 2081 (tz_28 27 rfl) rfl ?_
  refine im_iload 1148 2082 (tz_28 28 rfl) rfl ?_
  refine im_iconst 1149 2084 (tz_28 29 rfl) rfl ?_
  refine im_iadd 1150 2085 (tz_28 30 rfl) ?_
  refine im_sld 1151 2086 hs (tz_28 31 rfl) (fun x4 => ?_)
  refine im_aload_n 1152 2087 (tz_28 32 rfl) rfl ?_
  refine im_iload 1153 2088 (tz_28 33 rfl) rfl ?_
  refine im_iconst 1154 2090 (tz_28 34 rfl) rfl ?_
  refine im_iadd 1155 2091 (tz_28 35 rfl) ?_
  refine im_sld 1156 2092 hs (tz_28 36 rfl) (fun x5 => ?_)
  refine im_cWi (S := []) (fun _ _ hv => cpV (fr' := 23) (lo' := 533) (i := 1157) (As := [.int x4, .int x5]) (S := []) (a := p2) (c := 11) (tz_28 37 rfl) lk_Z_282 mw_M_constantAt mv_M_constantAt rfl ⟨by decide, rfl⟩ rfl rfl rfl (gd_some hv).1 (sp_M_constantAt G hv)) (fun x6 M2 => ?_)
  refine im_istore 1158 2096 [some (.ref (st_B + 9000)), some (.ref p1), some (.ref p2), some (.ref p3), some (.int i), some (.int x3), some (.int x6), none, none] rfl rfl rfl ?_
  refine im_aload_n 1159 2098 (tz_28 39 rfl) rfl ?_
  refine im_ci (S := []) (fun _ hv => cpV (fr' := 1) (lo' := 20) (i := 1160) (As := []) (S := []) (a := p2) (c := 11) (tz_29 0 rfl) lk_Z_161 mw_M_thrown mv_M_thrown rfl ⟨by decide, rfl⟩ rfl rfl rfl (gd_some hv).1 (sp_M_thrown G hv)) (fun x7 => ?_)
  refine im_iload 1161 2102 (tz_29 1 rfl) rfl ?_
  refine im_ic_eq 1162 2104 2109 (tz_29 2 rfl) (by decide) ?_ ?_
  · refine im_iload 1165 2109 (tz_29 5 rfl) rfl ?_
    refine im_jp (fun j2126 => im_I mi_Z_law 26 601 G M0 sw_i (j2126) 2126 [some (.ref (st_B + 9000)), some (.ref p1), some (.ref p2), some (.ref p3), some (.int i), none, none, none, none] [] M2) ?_ (fun j2126 hj2126 => ?_)
    · show im_I mi_Z_law 26 601 G M0 sw_i (_) 2126 [some (.ref (st_B + 9000)), some (.ref p1), some (.ref p2), some (.ref p3), some (.int i), none, none, none, none] [] M2
      refine im_goto 1176 2126 3255 (tz_29 16 rfl) (by decide) ?_
      exact im_less _ (by simp [lv_le]) (hj M2)
    refine im_if_ne 1166 2111 2126 (tz_29 6 rfl) (by decide) ?_ ?_
    · exact im_less _ (by simp [lv_le]) (hj2126)
    · refine im_aload_n 1167 2114 (tz_29 7 rfl) rfl ?_
      refine im_iconst 1168 2115 (tz_29 8 rfl) rfl ?_
      refine im_laload 1169 2116 (tz_29 9 rfl) (fun x8 => ?_)
      refine im_iload 1170 2117 (tz_29 10 rfl) rfl ?_
      refine im_i2l 1171 2119 (tz_29 11 rfl) ?_
      refine im_lcmp 1172 2120 (tz_29 12 rfl) ?_
      refine im_if_eq 1173 2121 2126 (tz_29 13 rfl) (by decide) ?_ ?_
      · exact im_less _ (by simp [lv_le]) (hj2126)
      · refine im_iconst 1174 2124 (tz_29 14 rfl) rfl ?_
        exact im_end rfl (wp_zreturn 1175 2125 (ty := .boolean) rfl zn_0 (tz_29 15 rfl))
  · refine im_iconst 1163 2107 (tz_29 3 rfl) rfl ?_
    exact im_end rfl (wp_zreturn 1164 2108 (ty := .boolean) rfl zn_0 (tz_29 4 rfl))

set_option maxRecDepth 100000 in
set_option maxHeartbeats 4000000 in
theorem li_c37 {G : gl_T} {M0 : mm_T} {n : Nat} {xs : Nat → Int32} (hs : sc_H G n xs) (p1 p2 p3 : Nat) (i : Int32) (jj : mm_T → Option (Int32 × mm_T)) (hj : ∀ N, im_I mi_Z_law 26 601 G M0 sw_i (jj N) 3255 [some (.ref (st_B + 9000)), some (.ref p1), some (.ref p2), some (.ref p3), some (.int i), none, none, none, none] [] N) (N : mm_T) : im_I mi_Z_law 26 601 G M0 sw_i (lw_c37 n xs p1 p2 p3 i jj N) 2129 [some (.ref (st_B + 9000)), some (.ref p1), some (.ref p2), some (.ref p3), some (.int i), none, none, none, none] [] N := by
  unfold lw_c37
  refine im_aload_n 1177 2129 (tz_29 17 rfl) rfl ?_
  refine im_aload_n 1178 2130 (tz_29 18 rfl) rfl ?_
  refine im_iload 1179 2131 (tz_29 19 rfl) rfl ?_
  refine im_iconst 1180 2133 (tz_29 20 rfl) rfl ?_
  refine im_iadd 1181 2134 (tz_29 21 rfl) ?_
  refine im_sld 1182 2135 hs (tz_29 22 rfl) (fun x1 => ?_)
  refine im_aload_n 1183 2136 (tz_29 23 rfl) rfl ?_
  refine im_cWi (S := []) (fun _ _ hv => cpW (fr' := 8) (lo' := 183) (i := 1184) (As := [.ref p1, .int x1, .ref p3]) (S := []) (tz_29 24 rfl) lm_Z_283 mw_Z_constantOf mv_Z_constantOf rfl rfl rfl rfl (sp_Z_constantOf G hv)) (fun x2 M1 => ?_)
  refine im_istore 1185 2140 [some (.ref (st_B + 9000)), some (.ref p1), some (.ref p2), some (.ref p3), some (.int i), some (.int x2), none, none, none] rfl rfl rfl ?_
  refine im_aload_n 1186 2142 (tz_29 26 rfl) rfl ?_
  refine im_aload_n 1187 2143 (tz_29 27 rfl) rfl ?_
  refine im_iload 1188 2144 (tz_29 28 rfl) rfl ?_
  refine im_iconst 1189 2146 (tz_29 29 rfl) rfl ?_
  refine im_iadd 1190 2147 (tz_29 30 rfl) ?_
  refine im_sld 1191 2148 hs (tz_29 31 rfl) (fun x3 => ?_)
  refine im_cWi (S := []) (fun _ _ hv => cpV (fr' := 24) (lo' := 554) (i := 1192) (As := [.int x3]) (S := []) (a := p2) (c := 11) (tz_29 32 rfl) lk_Z_285 mw_M_constantOf mv_M_constantOf rfl ⟨by decide, rfl⟩ rfl rfl rfl (gd_some hv).1 (sp_M_constantOf G hv)) (fun x4 M2 => ?_)
  refine im_istore 1193 2152 [some (.ref (st_B + 9000)), some (.ref p1), some (.ref p2), some (.ref p3), some (.int i), some (.int x2), some (.int x4), none, none] rfl rfl rfl ?_
  refine im_aload_n 1194 2154 (tz_29 34 rfl) rfl ?_
  refine im_ci (S := []) (fun _ hv => cpV (fr' := 1) (lo' := 20) (i := 1195) (As := []) (S := []) (a := p2) (c := 11) (tz_29 35 rfl) lk_Z_161 mw_M_thrown mv_M_thrown rfl ⟨by decide, rfl⟩ rfl rfl rfl (gd_some hv).1 (sp_M_thrown G hv)) (fun x5 => ?_)
  refine im_iload 1196 2158 (tz_29 36 rfl) rfl ?_
  refine im_ic_eq 1197 2160 2165 (tz_29 37 rfl) (by decide) ?_ ?_
  · refine im_iload 1200 2165 (tz_30 0 rfl) rfl ?_
    refine im_jp (fun j2182 => im_I mi_Z_law 26 601 G M0 sw_i (j2182) 2182 [some (.ref (st_B + 9000)), some (.ref p1), some (.ref p2), some (.ref p3), some (.int i), none, none, none, none] [] M2) ?_ (fun j2182 hj2182 => ?_)
    · show im_I mi_Z_law 26 601 G M0 sw_i (_) 2182 [some (.ref (st_B + 9000)), some (.ref p1), some (.ref p2), some (.ref p3), some (.int i), none, none, none, none] [] M2
      refine im_goto 1211 2182 3255 (tz_30 11 rfl) (by decide) ?_
      exact im_less _ (by simp [lv_le]) (hj M2)
    refine im_if_ne 1201 2167 2182 (tz_30 1 rfl) (by decide) ?_ ?_
    · exact im_less _ (by simp [lv_le]) (hj2182)
    · refine im_aload_n 1202 2170 (tz_30 2 rfl) rfl ?_
      refine im_iconst 1203 2171 (tz_30 3 rfl) rfl ?_
      refine im_laload 1204 2172 (tz_30 4 rfl) (fun x6 => ?_)
      refine im_iload 1205 2173 (tz_30 5 rfl) rfl ?_
      refine im_i2l 1206 2175 (tz_30 6 rfl) ?_
      refine im_lcmp 1207 2176 (tz_30 7 rfl) ?_
      refine im_if_eq 1208 2177 2182 (tz_30 8 rfl) (by decide) ?_ ?_
      · exact im_less _ (by simp [lv_le]) (hj2182)
      · refine im_iconst 1209 2180 (tz_30 9 rfl) rfl ?_
        exact im_end rfl (wp_zreturn 1210 2181 (ty := .boolean) rfl zn_0 (tz_30 10 rfl))
  · refine im_iconst 1198 2163 (tz_29 38 rfl) rfl ?_
    exact im_end rfl (wp_zreturn 1199 2164 (ty := .boolean) rfl zn_0 (tz_29 39 rfl))

set_option maxRecDepth 100000 in
set_option maxHeartbeats 4000000 in
theorem li_c38 {G : gl_T} {M0 : mm_T} {n : Nat} {xs : Nat → Int32} (hs : sc_H G n xs) (p1 p2 p3 : Nat) (i : Int32) (jj : mm_T → Option (Int32 × mm_T)) (hj : ∀ N, im_I mi_Z_law 26 601 G M0 sw_i (jj N) 3255 [some (.ref (st_B + 9000)), some (.ref p1), some (.ref p2), some (.ref p3), some (.int i), none, none, none, none] [] N) (N : mm_T) : im_I mi_Z_law 26 601 G M0 sw_i (lw_c38 n xs p1 p2 p3 i jj N) 2185 [some (.ref (st_B + 9000)), some (.ref p1), some (.ref p2), some (.ref p3), some (.int i), none, none, none, none] [] N := by
  unfold lw_c38
  refine im_aload_n 1212 2185 (tz_30 12 rfl) rfl ?_
  refine im_cWi (S := []) (fun _ _ hv => cpV (fr' := 7) (lo' := 162) (i := 1213) (As := []) (S := []) (a := p1) (c := 10) (tz_30 13 rfl) lk_Z_286 mw_D_decidedBranches mv_D_decidedBranches rfl ⟨by decide, rfl⟩ rfl rfl rfl (gd_some hv).1 (sp_D_decidedBranches G hv)) (fun x1 M1 => ?_)
  refine im_aload_n 1214 2189 (tz_30 14 rfl) rfl ?_
  refine im_cWi (S := [.int x1]) (fun _ _ hv => cpV (fr' := 23) (lo' := 533) (i := 1215) (As := []) (S := [.int x1]) (a := p2) (c := 11) (tz_30 15 rfl) lk_Z_289 mw_M_decidedBranches mv_M_decidedBranches rfl ⟨by decide, rfl⟩ rfl rfl rfl (gd_some hv).1 (sp_M_decidedBranches G hv)) (fun x2 M2 => ?_)
  refine im_ic_eq 1216 2193 3255 (tz_30 16 rfl) (by decide) ?_ ?_
  · exact im_less _ (by simp [lv_le]) (hj M2)
  · refine im_iconst 1217 2196 (tz_30 17 rfl) rfl ?_
    exact im_end rfl (wp_zreturn 1218 2197 (ty := .boolean) rfl zn_0 (tz_30 18 rfl))

set_option maxRecDepth 100000 in
set_option maxHeartbeats 4000000 in
theorem li_c39 {G : gl_T} {M0 : mm_T} {n : Nat} {xs : Nat → Int32} (hs : sc_H G n xs) (p1 p2 p3 : Nat) (i : Int32) (jj : mm_T → Option (Int32 × mm_T)) (hj : ∀ N, im_I mi_Z_law 26 601 G M0 sw_i (jj N) 3255 [some (.ref (st_B + 9000)), some (.ref p1), some (.ref p2), some (.ref p3), some (.int i), none, none, none, none] [] N) (N : mm_T) : im_I mi_Z_law 26 601 G M0 sw_i (lw_c39 n xs p1 p2 p3 i jj N) 2198 [some (.ref (st_B + 9000)), some (.ref p1), some (.ref p2), some (.ref p3), some (.int i), none, none, none, none] [] N := by
  unfold lw_c39
  refine im_aload_n 1219 2198 (tz_30 19 rfl) rfl ?_
  refine im_aload_n 1220 2199 (tz_30 20 rfl) rfl ?_
  refine im_iload 1221 2200 (tz_30 21 rfl) rfl ?_
  refine im_iconst 1222 2202 (tz_30 22 rfl) rfl ?_
  refine im_iadd 1223 2203 (tz_30 23 rfl) ?_
  refine im_sld 1224 2204 hs (tz_30 24 rfl) (fun x1 => ?_)
  refine im_aload_n 1225 2205 (tz_30 25 rfl) rfl ?_
  refine im_cWi (S := []) (fun _ _ hv => cpW (fr' := 8) (lo' := 153) (i := 1226) (As := [.ref p1, .int x1, .ref p3]) (S := []) (tz_30 26 rfl) lm_Z_290 mw_Z_runSteps mv_Z_runSteps rfl rfl rfl rfl (sp_Z_runSteps G hv)) (fun x2 M1 => ?_)
  refine im_istore 1227 2209 [some (.ref (st_B + 9000)), some (.ref p1), some (.ref p2), some (.ref p3), some (.int i), some (.int x2), none, none, none] rfl rfl rfl ?_
  refine im_aload_n 1228 2211 (tz_30 28 rfl) rfl ?_
  refine im_aload_n 1229 2212 (tz_30 29 rfl) rfl ?_
  refine im_iload 1230 2213 (tz_30 30 rfl) rfl ?_
  refine im_iconst 1231 2215 (tz_30 31 rfl) rfl ?_
  refine im_iadd 1232 2216 (tz_30 32 rfl) ?_
  refine im_sld 1233 2217 hs (tz_30 33 rfl) (fun x3 => ?_)
  refine im_cWi (S := []) (fun _ _ hv => cpV (fr' := 7) (lo' := 150) (i := 1234) (As := [.int x3]) (S := []) (a := p2) (c := 11) (tz_30 34 rfl) lk_Z_292 mw_M_runSteps mv_M_runSteps rfl ⟨by decide, rfl⟩ rfl rfl rfl (gd_some hv).1 (sp_M_runSteps G hv)) (fun x4 M2 => ?_)
  refine im_istore 1235 2221 [some (.ref (st_B + 9000)), some (.ref p1), some (.ref p2), some (.ref p3), some (.int i), some (.int x2), some (.int x4), none, none] rfl rfl rfl ?_
  refine im_aload_n 1236 2223 (tz_30 36 rfl) rfl ?_
  refine im_ci (S := []) (fun _ hv => cpV (fr' := 1) (lo' := 20) (i := 1237) (As := []) (S := []) (a := p2) (c := 11) (tz_30 37 rfl) lk_Z_161 mw_M_thrown mv_M_thrown rfl ⟨by decide, rfl⟩ rfl rfl rfl (gd_some hv).1 (sp_M_thrown G hv)) (fun x5 => ?_)
  refine im_iload 1238 2227 (tz_30 38 rfl) rfl ?_
  refine im_ic_eq 1239 2229 2234 (tz_30 39 rfl) (by decide) ?_ ?_
  · refine im_iload 1242 2234 (tz_31 2 rfl) rfl ?_
    refine im_jp (fun j2251 => im_I mi_Z_law 26 601 G M0 sw_i (j2251) 2251 [some (.ref (st_B + 9000)), some (.ref p1), some (.ref p2), some (.ref p3), some (.int i), none, none, none, none] [] M2) ?_ (fun j2251 hj2251 => ?_)
    · show im_I mi_Z_law 26 601 G M0 sw_i (_) 2251 [some (.ref (st_B + 9000)), some (.ref p1), some (.ref p2), some (.ref p3), some (.int i), none, none, none, none] [] M2
      refine im_goto 1253 2251 3255 (tz_31 13 rfl) (by decide) ?_
      exact im_less _ (by simp [lv_le]) (hj M2)
    refine im_if_ne 1243 2236 2251 (tz_31 3 rfl) (by decide) ?_ ?_
    · exact im_less _ (by simp [lv_le]) (hj2251)
    · refine im_aload_n 1244 2239 (tz_31 4 rfl) rfl ?_
      refine im_iconst 1245 2240 (tz_31 5 rfl) rfl ?_
      refine im_laload 1246 2241 (tz_31 6 rfl) (fun x6 => ?_)
      refine im_iload 1247 2242 (tz_31 7 rfl) rfl ?_
      refine im_i2l 1248 2244 (tz_31 8 rfl) ?_
      refine im_lcmp 1249 2245 (tz_31 9 rfl) ?_
      refine im_if_eq 1250 2246 2251 (tz_31 10 rfl) (by decide) ?_ ?_
      · exact im_less _ (by simp [lv_le]) (hj2251)
      · refine im_iconst 1251 2249 (tz_31 11 rfl) rfl ?_
        exact im_end rfl (wp_zreturn 1252 2250 (ty := .boolean) rfl zn_0 (tz_31 12 rfl))
  · refine im_iconst 1240 2232 (tz_31 0 rfl) rfl ?_
    exact im_end rfl (wp_zreturn 1241 2233 (ty := .boolean) rfl zn_0 (tz_31 1 rfl))

set_option maxRecDepth 100000 in
set_option maxHeartbeats 4000000 in
theorem li_c40 {G : gl_T} {M0 : mm_T} {n : Nat} {xs : Nat → Int32} (hs : sc_H G n xs) (p1 p2 p3 : Nat) (i : Int32) (jj : mm_T → Option (Int32 × mm_T)) (hj : ∀ N, im_I mi_Z_law 26 601 G M0 sw_i (jj N) 3255 [some (.ref (st_B + 9000)), some (.ref p1), some (.ref p2), some (.ref p3), some (.int i), none, none, none, none] [] N) (N : mm_T) : im_I mi_Z_law 26 601 G M0 sw_i (lw_c40 n xs p1 p2 p3 i jj N) 2254 [some (.ref (st_B + 9000)), some (.ref p1), some (.ref p2), some (.ref p3), some (.int i), none, none, none, none] [] N := by
  unfold lw_c40
  refine im_aload_n 1254 2254 (tz_31 14 rfl) rfl ?_
  refine im_aload_n 1255 2255 (tz_31 15 rfl) rfl ?_
  refine im_iload 1256 2256 (tz_31 16 rfl) rfl ?_
  refine im_iconst 1257 2258 (tz_31 17 rfl) rfl ?_
  refine im_iadd 1258 2259 (tz_31 18 rfl) ?_
  refine im_sld 1259 2260 hs (tz_31 19 rfl) (fun x1 => ?_)
  refine im_aload_n 1260 2261 (tz_31 20 rfl) rfl ?_
  refine im_cWi (S := []) (fun _ _ hv => cpW (fr' := 8) (lo' := 153) (i := 1261) (As := [.ref p1, .int x1, .ref p3]) (S := []) (tz_31 21 rfl) lm_Z_293 mw_Z_runEnds mv_Z_runEnds rfl rfl rfl rfl (sp_Z_runEnds G hv)) (fun x2 M1 => ?_)
  refine im_istore 1262 2265 [some (.ref (st_B + 9000)), some (.ref p1), some (.ref p2), some (.ref p3), some (.int i), some (.int x2), none, none, none] rfl rfl rfl ?_
  refine im_aload_n 1263 2267 (tz_31 23 rfl) rfl ?_
  refine im_aload_n 1264 2268 (tz_31 24 rfl) rfl ?_
  refine im_iload 1265 2269 (tz_31 25 rfl) rfl ?_
  refine im_iconst 1266 2271 (tz_31 26 rfl) rfl ?_
  refine im_iadd 1267 2272 (tz_31 27 rfl) ?_
  refine im_sld 1268 2273 hs (tz_31 28 rfl) (fun x3 => ?_)
  refine im_cWi (S := []) (fun _ _ hv => cpV (fr' := 7) (lo' := 150) (i := 1269) (As := [.int x3]) (S := []) (a := p2) (c := 11) (tz_31 29 rfl) lk_Z_295 mw_M_runEnds mv_M_runEnds rfl ⟨by decide, rfl⟩ rfl rfl rfl (gd_some hv).1 (sp_M_runEnds G hv)) (fun x4 M2 => ?_)
  refine im_istore 1270 2277 [some (.ref (st_B + 9000)), some (.ref p1), some (.ref p2), some (.ref p3), some (.int i), some (.int x2), some (.int x4), none, none] rfl rfl rfl ?_
  refine im_aload_n 1271 2279 (tz_31 31 rfl) rfl ?_
  refine im_ci (S := []) (fun _ hv => cpV (fr' := 1) (lo' := 20) (i := 1272) (As := []) (S := []) (a := p2) (c := 11) (tz_31 32 rfl) lk_Z_161 mw_M_thrown mv_M_thrown rfl ⟨by decide, rfl⟩ rfl rfl rfl (gd_some hv).1 (sp_M_thrown G hv)) (fun x5 => ?_)
  refine im_iload 1273 2283 (tz_31 33 rfl) rfl ?_
  refine im_ic_eq 1274 2285 2290 (tz_31 34 rfl) (by decide) ?_ ?_
  · refine im_iload 1277 2290 (tz_31 37 rfl) rfl ?_
    refine im_jp (fun j2314 => im_I mi_Z_law 26 601 G M0 sw_i (j2314) 2314 [some (.ref (st_B + 9000)), some (.ref p1), some (.ref p2), some (.ref p3), some (.int i), none, none, none, none] [] M2) ?_ (fun j2314 hj2314 => ?_)
    · show im_I mi_Z_law 26 601 G M0 sw_i (_) 2314 [some (.ref (st_B + 9000)), some (.ref p1), some (.ref p2), some (.ref p3), some (.int i), none, none, none, none] [] M2
      refine im_goto 1291 2314 3255 (tz_32 11 rfl) (by decide) ?_
      exact im_less _ (by simp [lv_le]) (hj M2)
    refine im_if_ne 1278 2292 2314 (tz_31 38 rfl) (by decide) ?_ ?_
    · exact im_less _ (by simp [lv_le]) (hj2314)
    · refine im_aload_n 1279 2295 (tz_31 39 rfl) rfl ?_
      refine im_iconst 1280 2296 (tz_32 0 rfl) rfl ?_
      refine im_laload 1281 2297 (tz_32 1 rfl) (fun x6 => ?_)
      refine im_iload 1282 2298 (tz_32 2 rfl) rfl ?_
      refine im_jp (fun j2308 => ∀ (x7 : Int64), im_I mi_Z_law 26 601 G M0 sw_i (j2308 x7) 2308 [some (.ref (st_B + 9000)), some (.ref p1), some (.ref p2), some (.ref p3), some (.int i), none, none, none, none] [.long x7, .long x6] M2) ?_ (fun j2308 hj2308 => ?_)
      · intro x7
        show im_I mi_Z_law 26 601 G M0 sw_i (_) 2308 [some (.ref (st_B + 9000)), some (.ref p1), some (.ref p2), some (.ref p3), some (.int i), none, none, none, none] [.long x7, .long x6] M2
        refine im_lcmp 1287 2308 (tz_32 7 rfl) ?_
        refine im_if_eq 1288 2309 2314 (tz_32 8 rfl) (by decide) ?_ ?_
        · exact im_less _ (by simp [lv_le]) (hj2314)
        · refine im_iconst 1289 2312 (tz_32 9 rfl) rfl ?_
          exact im_end rfl (wp_zreturn 1290 2313 (ty := .boolean) rfl zn_0 (tz_32 10 rfl))
      refine im_if_eq 1283 2300 2307 (tz_32 3 rfl) (by decide) ?_ ?_
      · refine im_lconst 1286 2307 (tz_32 6 rfl) rfl ?_
        exact im_less _ (by simp [lv_le]) (hj2308 (0 : Int64))
      · refine im_lconst 1284 2303 (tz_32 4 rfl) rfl ?_
        refine im_goto 1285 2304 2308 (tz_32 5 rfl) (by decide) ?_
        exact im_less _ (by simp [lv_le]) (hj2308 (1 : Int64))
  · refine im_iconst 1275 2288 (tz_31 35 rfl) rfl ?_
    exact im_end rfl (wp_zreturn 1276 2289 (ty := .boolean) rfl zn_0 (tz_31 36 rfl))

set_option maxRecDepth 100000 in
set_option maxHeartbeats 4000000 in
theorem li_c41 {G : gl_T} {M0 : mm_T} {n : Nat} {xs : Nat → Int32} (hs : sc_H G n xs) (p1 p2 p3 : Nat) (i : Int32) (jj : mm_T → Option (Int32 × mm_T)) (hj : ∀ N, im_I mi_Z_law 26 601 G M0 sw_i (jj N) 3255 [some (.ref (st_B + 9000)), some (.ref p1), some (.ref p2), some (.ref p3), some (.int i), none, none, none, none] [] N) (N : mm_T) : im_I mi_Z_law 26 601 G M0 sw_i (lw_c41 n xs p1 p2 p3 i jj N) 2317 [some (.ref (st_B + 9000)), some (.ref p1), some (.ref p2), some (.ref p3), some (.int i), none, none, none, none] [] N := by
  unfold lw_c41
  refine im_aload_n 1292 2317 (tz_32 12 rfl) rfl ?_
  refine im_aload_n 1293 2318 (tz_32 13 rfl) rfl ?_
  refine im_iload 1294 2319 (tz_32 14 rfl) rfl ?_
  refine im_iconst 1295 2321 (tz_32 15 rfl) rfl ?_
  refine im_iadd 1296 2322 (tz_32 16 rfl) ?_
  refine im_sld 1297 2323 hs (tz_32 17 rfl) (fun x1 => ?_)
  refine im_aload_n 1298 2324 (tz_32 18 rfl) rfl ?_
  refine im_iload 1299 2325 (tz_32 19 rfl) rfl ?_
  refine im_iconst 1300 2327 (tz_32 20 rfl) rfl ?_
  refine im_iadd 1301 2328 (tz_32 21 rfl) ?_
  refine im_sld 1302 2329 hs (tz_32 22 rfl) (fun x2 => ?_)
  refine im_aload_n 1303 2330 (tz_32 23 rfl) rfl ?_
  refine im_cWi (S := []) (fun _ _ hv => cpW (fr' := 8) (lo' := 154) (i := 1304) (As := [.ref p1, .int x1, .int x2, .ref p3]) (S := []) (tz_32 24 rfl) lm_Z_296 mw_Z_valueAfter mv_Z_valueAfter rfl rfl rfl rfl (sp_Z_valueAfter G hv)) (fun x3 M1 => ?_)
  refine im_istore 1305 2334 [some (.ref (st_B + 9000)), some (.ref p1), some (.ref p2), some (.ref p3), some (.int i), some (.int x3), none, none, none] rfl rfl rfl ?_
  refine im_aload_n 1306 2336 (tz_32 26 rfl) rfl ?_
  refine im_aload_n 1307 2337 (tz_32 27 rfl) rfl ?_
  refine im_iload 1308 2338 (tz_32 28 rfl) rfl ?_
  refine im_iconst 1309 2340 (tz_32 29 rfl) rfl ?_
  refine im_iadd 1310 2341 (tz_32 30 rfl) ?_
  refine im_sld 1311 2342 hs (tz_32 31 rfl) (fun x4 => ?_)
  refine im_aload_n 1312 2343 (tz_32 32 rfl) rfl ?_
  refine im_iload 1313 2344 (tz_32 33 rfl) rfl ?_
  refine im_iconst 1314 2346 (tz_32 34 rfl) rfl ?_
  refine im_iadd 1315 2347 (tz_32 35 rfl) ?_
  refine im_sld 1316 2348 hs (tz_32 36 rfl) (fun x5 => ?_)
  refine im_cWi (S := []) (fun _ _ hv => cpV (fr' := 7) (lo' := 150) (i := 1317) (As := [.int x4, .int x5]) (S := []) (a := p2) (c := 11) (tz_32 37 rfl) lk_Z_298 mw_M_valueAfter mv_M_valueAfter rfl ⟨by decide, rfl⟩ rfl rfl rfl (gd_some hv).1 (sp_M_valueAfter G hv)) (fun x6 M2 => ?_)
  refine im_istore 1318 2352 [some (.ref (st_B + 9000)), some (.ref p1), some (.ref p2), some (.ref p3), some (.int i), some (.int x3), some (.int x6), none, none] rfl rfl rfl ?_
  refine im_aload_n 1319 2354 (tz_32 39 rfl) rfl ?_
  refine im_ci (S := []) (fun _ hv => cpV (fr' := 1) (lo' := 20) (i := 1320) (As := []) (S := []) (a := p2) (c := 11) (tz_33 0 rfl) lk_Z_161 mw_M_thrown mv_M_thrown rfl ⟨by decide, rfl⟩ rfl rfl rfl (gd_some hv).1 (sp_M_thrown G hv)) (fun x7 => ?_)
  refine im_iload 1321 2358 (tz_33 1 rfl) rfl ?_
  refine im_ic_eq 1322 2360 2365 (tz_33 2 rfl) (by decide) ?_ ?_
  · refine im_iload 1325 2365 (tz_33 5 rfl) rfl ?_
    refine im_jp (fun j2382 => im_I mi_Z_law 26 601 G M0 sw_i (j2382) 2382 [some (.ref (st_B + 9000)), some (.ref p1), some (.ref p2), some (.ref p3), some (.int i), none, none, none, none] [] M2) ?_ (fun j2382 hj2382 => ?_)
    · show im_I mi_Z_law 26 601 G M0 sw_i (_) 2382 [some (.ref (st_B + 9000)), some (.ref p1), some (.ref p2), some (.ref p3), some (.int i), none, none, none, none] [] M2
      refine im_goto 1336 2382 3255 (tz_33 16 rfl) (by decide) ?_
      exact im_less _ (by simp [lv_le]) (hj M2)
    refine im_if_ne 1326 2367 2382 (tz_33 6 rfl) (by decide) ?_ ?_
    · exact im_less _ (by simp [lv_le]) (hj2382)
    · refine im_aload_n 1327 2370 (tz_33 7 rfl) rfl ?_
      refine im_iconst 1328 2371 (tz_33 8 rfl) rfl ?_
      refine im_laload 1329 2372 (tz_33 9 rfl) (fun x8 => ?_)
      refine im_iload 1330 2373 (tz_33 10 rfl) rfl ?_
      refine im_i2l 1331 2375 (tz_33 11 rfl) ?_
      refine im_lcmp 1332 2376 (tz_33 12 rfl) ?_
      refine im_if_eq 1333 2377 2382 (tz_33 13 rfl) (by decide) ?_ ?_
      · exact im_less _ (by simp [lv_le]) (hj2382)
      · refine im_iconst 1334 2380 (tz_33 14 rfl) rfl ?_
        exact im_end rfl (wp_zreturn 1335 2381 (ty := .boolean) rfl zn_0 (tz_33 15 rfl))
  · refine im_iconst 1323 2363 (tz_33 3 rfl) rfl ?_
    exact im_end rfl (wp_zreturn 1324 2364 (ty := .boolean) rfl zn_0 (tz_33 4 rfl))

set_option maxRecDepth 100000 in
set_option maxHeartbeats 4000000 in
theorem li_c42 {G : gl_T} {M0 : mm_T} {n : Nat} {xs : Nat → Int32} (hs : sc_H G n xs) (p1 p2 p3 : Nat) (i : Int32) (jj : mm_T → Option (Int32 × mm_T)) (hj : ∀ N, im_I mi_Z_law 26 601 G M0 sw_i (jj N) 3255 [some (.ref (st_B + 9000)), some (.ref p1), some (.ref p2), some (.ref p3), some (.int i), none, none, none, none] [] N) (N : mm_T) : im_I mi_Z_law 26 601 G M0 sw_i (lw_c42 n xs p1 p2 p3 i jj N) 2385 [some (.ref (st_B + 9000)), some (.ref p1), some (.ref p2), some (.ref p3), some (.int i), none, none, none, none] [] N := by
  unfold lw_c42
  refine im_aload_n 1337 2385 (tz_33 17 rfl) rfl ?_
  refine im_aload_n 1338 2386 (tz_33 18 rfl) rfl ?_
  refine im_iload 1339 2387 (tz_33 19 rfl) rfl ?_
  refine im_iconst 1340 2389 (tz_33 20 rfl) rfl ?_
  refine im_iadd 1341 2390 (tz_33 21 rfl) ?_
  refine im_sld 1342 2391 hs (tz_33 22 rfl) (fun x1 => ?_)
  refine im_aload_n 1343 2392 (tz_33 23 rfl) rfl ?_
  refine im_cWi (S := []) (fun _ _ hv => cpW (fr' := 8) (lo' := 153) (i := 1344) (As := [.ref p1, .int x1, .ref p3]) (S := []) (tz_33 24 rfl) lm_Z_299 mw_Z_lastShown mv_Z_lastShown rfl rfl rfl rfl (sp_Z_lastShown G hv)) (fun x2 M1 => ?_)
  refine im_istore 1345 2396 [some (.ref (st_B + 9000)), some (.ref p1), some (.ref p2), some (.ref p3), some (.int i), some (.int x2), none, none, none] rfl rfl rfl ?_
  refine im_aload_n 1346 2398 (tz_33 26 rfl) rfl ?_
  refine im_aload_n 1347 2399 (tz_33 27 rfl) rfl ?_
  refine im_iload 1348 2400 (tz_33 28 rfl) rfl ?_
  refine im_iconst 1349 2402 (tz_33 29 rfl) rfl ?_
  refine im_iadd 1350 2403 (tz_33 30 rfl) ?_
  refine im_sld 1351 2404 hs (tz_33 31 rfl) (fun x3 => ?_)
  refine im_cWi (S := []) (fun _ _ hv => cpV (fr' := 7) (lo' := 150) (i := 1352) (As := [.int x3]) (S := []) (a := p2) (c := 11) (tz_33 32 rfl) lk_Z_301 mw_M_lastShown mv_M_lastShown rfl ⟨by decide, rfl⟩ rfl rfl rfl (gd_some hv).1 (sp_M_lastShown G hv)) (fun x4 M2 => ?_)
  refine im_istore 1353 2408 [some (.ref (st_B + 9000)), some (.ref p1), some (.ref p2), some (.ref p3), some (.int i), some (.int x2), some (.int x4), none, none] rfl rfl rfl ?_
  refine im_aload_n 1354 2410 (tz_33 34 rfl) rfl ?_
  refine im_ci (S := []) (fun _ hv => cpV (fr' := 1) (lo' := 20) (i := 1355) (As := []) (S := []) (a := p2) (c := 11) (tz_33 35 rfl) lk_Z_161 mw_M_thrown mv_M_thrown rfl ⟨by decide, rfl⟩ rfl rfl rfl (gd_some hv).1 (sp_M_thrown G hv)) (fun x5 => ?_)
  refine im_iload 1356 2414 (tz_33 36 rfl) rfl ?_
  refine im_ic_eq 1357 2416 2421 (tz_33 37 rfl) (by decide) ?_ ?_
  · refine im_iload 1360 2421 (tz_34 0 rfl) rfl ?_
    refine im_jp (fun j2438 => im_I mi_Z_law 26 601 G M0 sw_i (j2438) 2438 [some (.ref (st_B + 9000)), some (.ref p1), some (.ref p2), some (.ref p3), some (.int i), none, none, none, none] [] M2) ?_ (fun j2438 hj2438 => ?_)
    · show im_I mi_Z_law 26 601 G M0 sw_i (_) 2438 [some (.ref (st_B + 9000)), some (.ref p1), some (.ref p2), some (.ref p3), some (.int i), none, none, none, none] [] M2
      refine im_goto 1371 2438 3255 (tz_34 11 rfl) (by decide) ?_
      exact im_less _ (by simp [lv_le]) (hj M2)
    refine im_if_ne 1361 2423 2438 (tz_34 1 rfl) (by decide) ?_ ?_
    · exact im_less _ (by simp [lv_le]) (hj2438)
    · refine im_aload_n 1362 2426 (tz_34 2 rfl) rfl ?_
      refine im_iconst 1363 2427 (tz_34 3 rfl) rfl ?_
      refine im_laload 1364 2428 (tz_34 4 rfl) (fun x6 => ?_)
      refine im_iload 1365 2429 (tz_34 5 rfl) rfl ?_
      refine im_i2l 1366 2431 (tz_34 6 rfl) ?_
      refine im_lcmp 1367 2432 (tz_34 7 rfl) ?_
      refine im_if_eq 1368 2433 2438 (tz_34 8 rfl) (by decide) ?_ ?_
      · exact im_less _ (by simp [lv_le]) (hj2438)
      · refine im_iconst 1369 2436 (tz_34 9 rfl) rfl ?_
        exact im_end rfl (wp_zreturn 1370 2437 (ty := .boolean) rfl zn_0 (tz_34 10 rfl))
  · refine im_iconst 1358 2419 (tz_33 38 rfl) rfl ?_
    exact im_end rfl (wp_zreturn 1359 2420 (ty := .boolean) rfl zn_0 (tz_33 39 rfl))

set_option maxRecDepth 100000 in
set_option maxHeartbeats 4000000 in
theorem li_c43 {G : gl_T} {M0 : mm_T} {n : Nat} {xs : Nat → Int32} (hs : sc_H G n xs) (p1 p2 p3 : Nat) (i : Int32) (jj : mm_T → Option (Int32 × mm_T)) (hj : ∀ N, im_I mi_Z_law 26 601 G M0 sw_i (jj N) 3255 [some (.ref (st_B + 9000)), some (.ref p1), some (.ref p2), some (.ref p3), some (.int i), none, none, none, none] [] N) (N : mm_T) : im_I mi_Z_law 26 601 G M0 sw_i (lw_c43 n xs p1 p2 p3 i jj N) 2441 [some (.ref (st_B + 9000)), some (.ref p1), some (.ref p2), some (.ref p3), some (.int i), none, none, none, none] [] N := by
  unfold lw_c43
  refine im_aload_n 1372 2441 (tz_34 12 rfl) rfl ?_
  refine im_aload_n 1373 2442 (tz_34 13 rfl) rfl ?_
  refine im_iload 1374 2443 (tz_34 14 rfl) rfl ?_
  refine im_iconst 1375 2445 (tz_34 15 rfl) rfl ?_
  refine im_iadd 1376 2446 (tz_34 16 rfl) ?_
  refine im_sld 1377 2447 hs (tz_34 17 rfl) (fun x1 => ?_)
  refine im_aload_n 1378 2448 (tz_34 18 rfl) rfl ?_
  refine im_iload 1379 2449 (tz_34 19 rfl) rfl ?_
  refine im_iconst 1380 2451 (tz_34 20 rfl) rfl ?_
  refine im_iadd 1381 2452 (tz_34 21 rfl) ?_
  refine im_sld 1382 2453 hs (tz_34 22 rfl) (fun x2 => ?_)
  refine im_aload_n 1383 2454 (tz_34 23 rfl) rfl ?_
  refine im_cWi (S := []) (fun _ _ hv => cpW (fr' := 8) (lo' := 154) (i := 1384) (As := [.ref p1, .int x1, .int x2, .ref p3]) (S := []) (tz_34 24 rfl) lm_Z_302 mw_Z_visits mv_Z_visits rfl rfl rfl rfl (sp_Z_visits G hv)) (fun x3 M1 => ?_)
  refine im_istore 1385 2458 [some (.ref (st_B + 9000)), some (.ref p1), some (.ref p2), some (.ref p3), some (.int i), some (.int x3), none, none, none] rfl rfl rfl ?_
  refine im_aload_n 1386 2460 (tz_34 26 rfl) rfl ?_
  refine im_aload_n 1387 2461 (tz_34 27 rfl) rfl ?_
  refine im_iload 1388 2462 (tz_34 28 rfl) rfl ?_
  refine im_iconst 1389 2464 (tz_34 29 rfl) rfl ?_
  refine im_iadd 1390 2465 (tz_34 30 rfl) ?_
  refine im_sld 1391 2466 hs (tz_34 31 rfl) (fun x4 => ?_)
  refine im_aload_n 1392 2467 (tz_34 32 rfl) rfl ?_
  refine im_iload 1393 2468 (tz_34 33 rfl) rfl ?_
  refine im_iconst 1394 2470 (tz_34 34 rfl) rfl ?_
  refine im_iadd 1395 2471 (tz_34 35 rfl) ?_
  refine im_sld 1396 2472 hs (tz_34 36 rfl) (fun x5 => ?_)
  refine im_cWi (S := []) (fun _ _ hv => cpV (fr' := 6) (lo' := 128) (i := 1397) (As := [.int x4, .int x5]) (S := []) (a := p2) (c := 11) (tz_34 37 rfl) lk_Z_304 mw_M_visits mv_M_visits rfl ⟨by decide, rfl⟩ rfl rfl rfl (gd_some hv).1 (sp_M_visits G hv)) (fun x6 M2 => ?_)
  refine im_istore 1398 2476 [some (.ref (st_B + 9000)), some (.ref p1), some (.ref p2), some (.ref p3), some (.int i), some (.int x3), some (.int x6), none, none] rfl rfl rfl ?_
  refine im_aload_n 1399 2478 (tz_34 39 rfl) rfl ?_
  refine im_ci (S := []) (fun _ hv => cpV (fr' := 1) (lo' := 20) (i := 1400) (As := []) (S := []) (a := p2) (c := 11) (tz_35 0 rfl) lk_Z_161 mw_M_thrown mv_M_thrown rfl ⟨by decide, rfl⟩ rfl rfl rfl (gd_some hv).1 (sp_M_thrown G hv)) (fun x7 => ?_)
  refine im_iload 1401 2482 (tz_35 1 rfl) rfl ?_
  refine im_ic_eq 1402 2484 2489 (tz_35 2 rfl) (by decide) ?_ ?_
  · refine im_iload 1405 2489 (tz_35 5 rfl) rfl ?_
    refine im_jp (fun j2506 => im_I mi_Z_law 26 601 G M0 sw_i (j2506) 2506 [some (.ref (st_B + 9000)), some (.ref p1), some (.ref p2), some (.ref p3), some (.int i), none, none, none, none] [] M2) ?_ (fun j2506 hj2506 => ?_)
    · show im_I mi_Z_law 26 601 G M0 sw_i (_) 2506 [some (.ref (st_B + 9000)), some (.ref p1), some (.ref p2), some (.ref p3), some (.int i), none, none, none, none] [] M2
      refine im_goto 1416 2506 3255 (tz_35 16 rfl) (by decide) ?_
      exact im_less _ (by simp [lv_le]) (hj M2)
    refine im_if_ne 1406 2491 2506 (tz_35 6 rfl) (by decide) ?_ ?_
    · exact im_less _ (by simp [lv_le]) (hj2506)
    · refine im_aload_n 1407 2494 (tz_35 7 rfl) rfl ?_
      refine im_iconst 1408 2495 (tz_35 8 rfl) rfl ?_
      refine im_laload 1409 2496 (tz_35 9 rfl) (fun x8 => ?_)
      refine im_iload 1410 2497 (tz_35 10 rfl) rfl ?_
      refine im_i2l 1411 2499 (tz_35 11 rfl) ?_
      refine im_lcmp 1412 2500 (tz_35 12 rfl) ?_
      refine im_if_eq 1413 2501 2506 (tz_35 13 rfl) (by decide) ?_ ?_
      · exact im_less _ (by simp [lv_le]) (hj2506)
      · refine im_iconst 1414 2504 (tz_35 14 rfl) rfl ?_
        exact im_end rfl (wp_zreturn 1415 2505 (ty := .boolean) rfl zn_0 (tz_35 15 rfl))
  · refine im_iconst 1403 2487 (tz_35 3 rfl) rfl ?_
    exact im_end rfl (wp_zreturn 1404 2488 (ty := .boolean) rfl zn_0 (tz_35 4 rfl))

set_option maxRecDepth 100000 in
set_option maxHeartbeats 4000000 in
theorem li_c44 {G : gl_T} {M0 : mm_T} {n : Nat} {xs : Nat → Int32} (hs : sc_H G n xs) (p1 p2 p3 : Nat) (i : Int32) (jj : mm_T → Option (Int32 × mm_T)) (hj : ∀ N, im_I mi_Z_law 26 601 G M0 sw_i (jj N) 3255 [some (.ref (st_B + 9000)), some (.ref p1), some (.ref p2), some (.ref p3), some (.int i), none, none, none, none] [] N) (N : mm_T) : im_I mi_Z_law 26 601 G M0 sw_i (lw_c44 n xs p1 p2 p3 i jj N) 2509 [some (.ref (st_B + 9000)), some (.ref p1), some (.ref p2), some (.ref p3), some (.int i), none, none, none, none] [] N := by
  unfold lw_c44
  refine im_aload_n 1417 2509 (tz_35 17 rfl) rfl ?_
  refine im_cWi (S := []) (fun _ _ hv => cpV (fr' := 7) (lo' := 162) (i := 1418) (As := []) (S := []) (a := p1) (c := 10) (tz_35 18 rfl) lk_Z_305 mw_D_auditDifference mv_D_auditDifference rfl ⟨by decide, rfl⟩ rfl rfl rfl (gd_some hv).1 (sp_D_auditDifference G hv)) (fun x1 M1 => ?_)
  refine im_aload_n 1419 2513 (tz_35 19 rfl) rfl ?_
  refine im_cWi (S := [.int x1]) (fun _ _ hv => cpV (fr' := 22) (lo' := 511) (i := 1420) (As := []) (S := [.int x1]) (a := p2) (c := 11) (tz_35 20 rfl) lk_Z_308 mw_M_auditDifference mv_M_auditDifference rfl ⟨by decide, rfl⟩ rfl rfl rfl (gd_some hv).1 (sp_M_auditDifference G hv)) (fun x2 M2 => ?_)
  refine im_ic_eq 1421 2517 3255 (tz_35 21 rfl) (by decide) ?_ ?_
  · exact im_less _ (by simp [lv_le]) (hj M2)
  · refine im_iconst 1422 2520 (tz_35 22 rfl) rfl ?_
    exact im_end rfl (wp_zreturn 1423 2521 (ty := .boolean) rfl zn_0 (tz_35 23 rfl))

set_option maxRecDepth 100000 in
set_option maxHeartbeats 4000000 in
theorem li_c45 {G : gl_T} {M0 : mm_T} {n : Nat} {xs : Nat → Int32} (hs : sc_H G n xs) (p1 p2 p3 : Nat) (i : Int32) (jj : mm_T → Option (Int32 × mm_T)) (hj : ∀ N, im_I mi_Z_law 26 601 G M0 sw_i (jj N) 3255 [some (.ref (st_B + 9000)), some (.ref p1), some (.ref p2), some (.ref p3), some (.int i), none, none, none, none] [] N) (N : mm_T) : im_I mi_Z_law 26 601 G M0 sw_i (lw_c45 n xs p1 p2 p3 i jj N) 2522 [some (.ref (st_B + 9000)), some (.ref p1), some (.ref p2), some (.ref p3), some (.int i), none, none, none, none] [] N := by
  unfold lw_c45
  refine im_aload_n 1424 2522 (tz_35 24 rfl) rfl ?_
  refine im_cWf (S := []) (fun _ _ hv => cpV (fr' := 7) (lo' := 156) (i := 1425) (As := []) (S := []) (a := p1) (c := 10) (tz_35 25 rfl) lk_Z_309 mw_D_deadShare mv_D_deadShare rfl ⟨by decide, rfl⟩ rfl rfl rfl (gd_some hv).1 (sp_D_deadShare G hv)) (fun x1 M1 => ?_)
  refine im_f2d 1426 2526 (tz_35 26 rfl) (fun x2 => ?_)
  refine im_dstore 1427 2527 [some (.ref (st_B + 9000)), some (.ref p1), some (.ref p2), some (.ref p3), some (.int i), some (.double x2), none, none, none] rfl rfl rfl ?_
  refine im_aload_n 1428 2529 (tz_35 28 rfl) rfl ?_
  refine im_cWf (S := []) (fun _ _ hv => cpV (fr' := 24) (lo' := 557) (i := 1429) (As := []) (S := []) (a := p2) (c := 11) (tz_35 29 rfl) lk_Z_313 mw_M_deadShare mv_M_deadShare rfl ⟨by decide, rfl⟩ rfl rfl rfl (gd_some hv).1 (sp_M_deadShare G hv)) (fun x3 M2 => ?_)
  refine im_f2d 1430 2533 (tz_35 30 rfl) (fun x4 => ?_)
  refine im_dstore 1431 2534 [some (.ref (st_B + 9000)), some (.ref p1), some (.ref p2), some (.ref p3), some (.int i), some (.double x2), none, some (.double x4), none] rfl rfl rfl ?_
  refine im_dload 1432 2536 (tz_35 32 rfl) rfl ?_
  refine im_dload 1433 2538 (tz_35 33 rfl) rfl ?_
  refine im_dcmp 1434 2540 (tz_35 34 rfl) ?_
  refine im_jp (fun j2562 => im_I mi_Z_law 26 601 G M0 sw_i (j2562) 2562 [some (.ref (st_B + 9000)), some (.ref p1), some (.ref p2), some (.ref p3), some (.int i), none, none, none, none] [] M2) ?_ (fun j2562 hj2562 => ?_)
  · show im_I mi_Z_law 26 601 G M0 sw_i (_) 2562 [some (.ref (st_B + 9000)), some (.ref p1), some (.ref p2), some (.ref p3), some (.int i), none, none, none, none] [] M2
    refine im_goto 1446 2562 3255 (tz_36 6 rfl) (by decide) ?_
    exact im_less _ (by simp [lv_le]) (hj M2)
  refine im_if_eq 1435 2541 2562 (tz_35 35 rfl) (by decide) ?_ ?_
  · exact im_less _ (by simp [lv_le]) (hj2562)
  · refine im_dload 1436 2544 (tz_35 36 rfl) rfl ?_
    refine im_dload 1437 2546 (tz_35 37 rfl) rfl ?_
    refine im_dcmp 1438 2548 (tz_35 38 rfl) ?_
    refine im_if_eq 1439 2549 2560 (tz_35 39 rfl) (by decide) ?_ ?_
    · refine im_iconst 1444 2560 (tz_36 4 rfl) rfl ?_
      exact im_end rfl (wp_zreturn 1445 2561 (ty := .boolean) rfl zn_0 (tz_36 5 rfl))
    · refine im_dload 1440 2552 (tz_36 0 rfl) rfl ?_
      refine im_dload 1441 2554 (tz_36 1 rfl) rfl ?_
      refine im_dcmp 1442 2556 (tz_36 2 rfl) ?_
      refine im_if_ne 1443 2557 2562 (tz_36 3 rfl) (by decide) ?_ ?_
      · exact im_less _ (by simp [lv_le]) (hj2562)
      · refine im_iconst 1444 2560 (tz_36 4 rfl) rfl ?_
        exact im_end rfl (wp_zreturn 1445 2561 (ty := .boolean) rfl zn_0 (tz_36 5 rfl))

set_option maxRecDepth 100000 in
set_option maxHeartbeats 4000000 in
theorem li_c46 {G : gl_T} {M0 : mm_T} {n : Nat} {xs : Nat → Int32} (hs : sc_H G n xs) (p1 p2 p3 : Nat) (i : Int32) (jj : mm_T → Option (Int32 × mm_T)) (hj : ∀ N, im_I mi_Z_law 26 601 G M0 sw_i (jj N) 3255 [some (.ref (st_B + 9000)), some (.ref p1), some (.ref p2), some (.ref p3), some (.int i), none, none, none, none] [] N) (N : mm_T) : im_I mi_Z_law 26 601 G M0 sw_i (lw_c46 n xs p1 p2 p3 i jj N) 2565 [some (.ref (st_B + 9000)), some (.ref p1), some (.ref p2), some (.ref p3), some (.int i), none, none, none, none] [] N := by
  unfold lw_c46
  refine im_aload_n 1447 2565 (tz_36 7 rfl) rfl ?_
  refine im_cWd (S := []) (fun _ _ hv => cpV (fr' := 7) (lo' := 156) (i := 1448) (As := []) (S := []) (a := p1) (c := 10) (tz_36 8 rfl) lk_Z_314 mw_D_meanLive mv_D_meanLive rfl ⟨by decide, rfl⟩ rfl rfl rfl (gd_some hv).1 (sp_D_meanLive G hv)) (fun x1 M1 => ?_)
  refine im_dstore 1449 2569 [some (.ref (st_B + 9000)), some (.ref p1), some (.ref p2), some (.ref p3), some (.int i), some (.double x1), none, none, none] rfl rfl rfl ?_
  refine im_aload_n 1450 2571 (tz_36 10 rfl) rfl ?_
  refine im_cWd (S := []) (fun _ _ hv => cpV (fr' := 23) (lo' := 538) (i := 1451) (As := []) (S := []) (a := p2) (c := 11) (tz_36 11 rfl) lk_Z_318 mw_M_meanLive mv_M_meanLive rfl ⟨by decide, rfl⟩ rfl rfl rfl (gd_some hv).1 (sp_M_meanLive G hv)) (fun x2 M2 => ?_)
  refine im_dstore 1452 2575 [some (.ref (st_B + 9000)), some (.ref p1), some (.ref p2), some (.ref p3), some (.int i), some (.double x1), none, some (.double x2), none] rfl rfl rfl ?_
  refine im_dload 1453 2577 (tz_36 13 rfl) rfl ?_
  refine im_dload 1454 2579 (tz_36 14 rfl) rfl ?_
  refine im_dcmp 1455 2581 (tz_36 15 rfl) ?_
  refine im_jp (fun j2603 => im_I mi_Z_law 26 601 G M0 sw_i (j2603) 2603 [some (.ref (st_B + 9000)), some (.ref p1), some (.ref p2), some (.ref p3), some (.int i), none, none, none, none] [] M2) ?_ (fun j2603 hj2603 => ?_)
  · show im_I mi_Z_law 26 601 G M0 sw_i (_) 2603 [some (.ref (st_B + 9000)), some (.ref p1), some (.ref p2), some (.ref p3), some (.int i), none, none, none, none] [] M2
    refine im_goto 1467 2603 3255 (tz_36 27 rfl) (by decide) ?_
    exact im_less _ (by simp [lv_le]) (hj M2)
  refine im_if_eq 1456 2582 2603 (tz_36 16 rfl) (by decide) ?_ ?_
  · exact im_less _ (by simp [lv_le]) (hj2603)
  · refine im_dload 1457 2585 (tz_36 17 rfl) rfl ?_
    refine im_dload 1458 2587 (tz_36 18 rfl) rfl ?_
    refine im_dcmp 1459 2589 (tz_36 19 rfl) ?_
    refine im_if_eq 1460 2590 2601 (tz_36 20 rfl) (by decide) ?_ ?_
    · refine im_iconst 1465 2601 (tz_36 25 rfl) rfl ?_
      exact im_end rfl (wp_zreturn 1466 2602 (ty := .boolean) rfl zn_0 (tz_36 26 rfl))
    · refine im_dload 1461 2593 (tz_36 21 rfl) rfl ?_
      refine im_dload 1462 2595 (tz_36 22 rfl) rfl ?_
      refine im_dcmp 1463 2597 (tz_36 23 rfl) ?_
      refine im_if_ne 1464 2598 2603 (tz_36 24 rfl) (by decide) ?_ ?_
      · exact im_less _ (by simp [lv_le]) (hj2603)
      · refine im_iconst 1465 2601 (tz_36 25 rfl) rfl ?_
        exact im_end rfl (wp_zreturn 1466 2602 (ty := .boolean) rfl zn_0 (tz_36 26 rfl))

set_option maxRecDepth 100000 in
set_option maxHeartbeats 4000000 in
theorem li_c47 {G : gl_T} {M0 : mm_T} {n : Nat} {xs : Nat → Int32} (hs : sc_H G n xs) (p1 p2 p3 : Nat) (i : Int32) (jj : mm_T → Option (Int32 × mm_T)) (hj : ∀ N, im_I mi_Z_law 26 601 G M0 sw_i (jj N) 3255 [some (.ref (st_B + 9000)), some (.ref p1), some (.ref p2), some (.ref p3), some (.int i), none, none, none, none] [] N) (N : mm_T) : im_I mi_Z_law 26 601 G M0 sw_i (lw_c47 n xs p1 p2 p3 i jj N) 2606 [some (.ref (st_B + 9000)), some (.ref p1), some (.ref p2), some (.ref p3), some (.int i), none, none, none, none] [] N := by
  unfold lw_c47
  refine im_aload_n 1468 2606 (tz_36 28 rfl) rfl ?_
  refine im_aload_n 1469 2607 (tz_36 29 rfl) rfl ?_
  refine im_iload 1470 2608 (tz_36 30 rfl) rfl ?_
  refine im_iconst 1471 2610 (tz_36 31 rfl) rfl ?_
  refine im_iadd 1472 2611 (tz_36 32 rfl) ?_
  refine im_sld 1473 2612 hs (tz_36 33 rfl) (fun x1 => ?_)
  refine im_aload_n 1474 2613 (tz_36 34 rfl) rfl ?_
  refine im_iload 1475 2614 (tz_36 35 rfl) rfl ?_
  refine im_iconst 1476 2616 (tz_36 36 rfl) rfl ?_
  refine im_iadd 1477 2617 (tz_36 37 rfl) ?_
  refine im_sld 1478 2618 hs (tz_36 38 rfl) (fun x2 => ?_)
  refine im_aload_n 1479 2619 (tz_36 39 rfl) rfl ?_
  refine im_iload 1480 2620 (tz_37 0 rfl) rfl ?_
  refine im_iconst 1481 2622 (tz_37 1 rfl) rfl ?_
  refine im_iadd 1482 2623 (tz_37 2 rfl) ?_
  refine im_sld 1483 2624 hs (tz_37 3 rfl) (fun x3 => ?_)
  refine im_aload_n 1484 2625 (tz_37 4 rfl) rfl ?_
  refine im_iload 1485 2626 (tz_37 5 rfl) rfl ?_
  refine im_iconst 1486 2628 (tz_37 6 rfl) rfl ?_
  refine im_iadd 1487 2629 (tz_37 7 rfl) ?_
  refine im_sld 1488 2630 hs (tz_37 8 rfl) (fun x4 => ?_)
  refine im_aload_n 1489 2631 (tz_37 9 rfl) rfl ?_
  refine im_cWi (S := []) (fun _ _ hv => cpW (fr' := 8) (lo' := 137) (i := 1490) (As := [.ref p1, .int x1, .int x2, .int x3, .int x4, .ref p3]) (S := []) (tz_37 10 rfl) lm_Z_319 mw_Z_insertSet mv_Z_insertSet rfl rfl rfl rfl (sp_Z_insertSet G hv)) (fun x5 M1 => ?_)
  refine im_istore 1491 2635 [some (.ref (st_B + 9000)), some (.ref p1), some (.ref p2), some (.ref p3), some (.int i), some (.int x5), none, none, none] rfl rfl rfl ?_
  refine im_aload_n 1492 2637 (tz_37 12 rfl) rfl ?_
  refine im_aload_n 1493 2638 (tz_37 13 rfl) rfl ?_
  refine im_iload 1494 2639 (tz_37 14 rfl) rfl ?_
  refine im_iconst 1495 2641 (tz_37 15 rfl) rfl ?_
  refine im_iadd 1496 2642 (tz_37 16 rfl) ?_
  refine im_sld 1497 2643 hs (tz_37 17 rfl) (fun x6 => ?_)
  refine im_aload_n 1498 2644 (tz_37 18 rfl) rfl ?_
  refine im_iload 1499 2645 (tz_37 19 rfl) rfl ?_
  refine im_iconst 1500 2647 (tz_37 20 rfl) rfl ?_
  refine im_iadd 1501 2648 (tz_37 21 rfl) ?_
  refine im_sld 1502 2649 hs (tz_37 22 rfl) (fun x7 => ?_)
  refine im_aload_n 1503 2650 (tz_37 23 rfl) rfl ?_
  refine im_iload 1504 2651 (tz_37 24 rfl) rfl ?_
  refine im_iconst 1505 2653 (tz_37 25 rfl) rfl ?_
  refine im_iadd 1506 2654 (tz_37 26 rfl) ?_
  refine im_sld 1507 2655 hs (tz_37 27 rfl) (fun x8 => ?_)
  refine im_aload_n 1508 2656 (tz_37 28 rfl) rfl ?_
  refine im_iload 1509 2657 (tz_37 29 rfl) rfl ?_
  refine im_iconst 1510 2659 (tz_37 30 rfl) rfl ?_
  refine im_iadd 1511 2660 (tz_37 31 rfl) ?_
  refine im_sld 1512 2661 hs (tz_37 32 rfl) (fun x9 => ?_)
  refine im_cWi (S := []) (fun _ _ hv => cpV (fr' := 5) (lo' := 121) (i := 1513) (As := [.int x6, .int x7, .int x8, .int x9]) (S := []) (a := p2) (c := 11) (tz_37 33 rfl) lk_Z_322 mw_M_insertSet mv_M_insertSet rfl ⟨by decide, rfl⟩ rfl rfl rfl (gd_some hv).1 (sp_M_insertSet G hv)) (fun x10 M2 => ?_)
  refine im_istore 1514 2665 [some (.ref (st_B + 9000)), some (.ref p1), some (.ref p2), some (.ref p3), some (.int i), some (.int x5), some (.int x10), none, none] rfl rfl rfl ?_
  refine im_aload_n 1515 2667 (tz_37 35 rfl) rfl ?_
  refine im_ci (S := []) (fun _ hv => cpV (fr' := 1) (lo' := 20) (i := 1516) (As := []) (S := []) (a := p2) (c := 11) (tz_37 36 rfl) lk_Z_161 mw_M_thrown mv_M_thrown rfl ⟨by decide, rfl⟩ rfl rfl rfl (gd_some hv).1 (sp_M_thrown G hv)) (fun x11 => ?_)
  refine im_iload 1517 2671 (tz_37 37 rfl) rfl ?_
  refine im_ic_eq 1518 2673 2678 (tz_37 38 rfl) (by decide) ?_ ?_
  · refine im_iload 1521 2678 (tz_38 1 rfl) rfl ?_
    refine im_jp (fun j2695 => im_I mi_Z_law 26 601 G M0 sw_i (j2695) 2695 [some (.ref (st_B + 9000)), some (.ref p1), some (.ref p2), some (.ref p3), some (.int i), none, none, none, none] [] M2) ?_ (fun j2695 hj2695 => ?_)
    · show im_I mi_Z_law 26 601 G M0 sw_i (_) 2695 [some (.ref (st_B + 9000)), some (.ref p1), some (.ref p2), some (.ref p3), some (.int i), none, none, none, none] [] M2
      refine im_goto 1532 2695 3255 (tz_38 12 rfl) (by decide) ?_
      exact im_less _ (by simp [lv_le]) (hj M2)
    refine im_if_ne 1522 2680 2695 (tz_38 2 rfl) (by decide) ?_ ?_
    · exact im_less _ (by simp [lv_le]) (hj2695)
    · refine im_aload_n 1523 2683 (tz_38 3 rfl) rfl ?_
      refine im_iconst 1524 2684 (tz_38 4 rfl) rfl ?_
      refine im_laload 1525 2685 (tz_38 5 rfl) (fun x12 => ?_)
      refine im_iload 1526 2686 (tz_38 6 rfl) rfl ?_
      refine im_i2l 1527 2688 (tz_38 7 rfl) ?_
      refine im_lcmp 1528 2689 (tz_38 8 rfl) ?_
      refine im_if_eq 1529 2690 2695 (tz_38 9 rfl) (by decide) ?_ ?_
      · exact im_less _ (by simp [lv_le]) (hj2695)
      · refine im_iconst 1530 2693 (tz_38 10 rfl) rfl ?_
        exact im_end rfl (wp_zreturn 1531 2694 (ty := .boolean) rfl zn_0 (tz_38 11 rfl))
  · refine im_iconst 1519 2676 (tz_37 39 rfl) rfl ?_
    exact im_end rfl (wp_zreturn 1520 2677 (ty := .boolean) rfl zn_0 (tz_38 0 rfl))

set_option maxRecDepth 100000 in
set_option maxHeartbeats 4000000 in
theorem li_c48 {G : gl_T} {M0 : mm_T} {n : Nat} {xs : Nat → Int32} (hs : sc_H G n xs) (p1 p2 p3 : Nat) (i : Int32) (jj : mm_T → Option (Int32 × mm_T)) (hj : ∀ N, im_I mi_Z_law 26 601 G M0 sw_i (jj N) 3255 [some (.ref (st_B + 9000)), some (.ref p1), some (.ref p2), some (.ref p3), some (.int i), none, none, none, none] [] N) (N : mm_T) : im_I mi_Z_law 26 601 G M0 sw_i (lw_c48 n xs p1 p2 p3 i jj N) 2698 [some (.ref (st_B + 9000)), some (.ref p1), some (.ref p2), some (.ref p3), some (.int i), none, none, none, none] [] N := by
  unfold lw_c48
  refine im_aload_n 1533 2698 (tz_38 13 rfl) rfl ?_
  refine im_aload_n 1534 2699 (tz_38 14 rfl) rfl ?_
  refine im_iload 1535 2700 (tz_38 15 rfl) rfl ?_
  refine im_iconst 1536 2702 (tz_38 16 rfl) rfl ?_
  refine im_iadd 1537 2703 (tz_38 17 rfl) ?_
  refine im_sld 1538 2704 hs (tz_38 18 rfl) (fun x1 => ?_)
  refine im_aload_n 1539 2705 (tz_38 19 rfl) rfl ?_
  refine im_iload 1540 2706 (tz_38 20 rfl) rfl ?_
  refine im_iconst 1541 2708 (tz_38 21 rfl) rfl ?_
  refine im_iadd 1542 2709 (tz_38 22 rfl) ?_
  refine im_sld 1543 2710 hs (tz_38 23 rfl) (fun x2 => ?_)
  refine im_aload_n 1544 2711 (tz_38 24 rfl) rfl ?_
  refine im_iload 1545 2712 (tz_38 25 rfl) rfl ?_
  refine im_iconst 1546 2714 (tz_38 26 rfl) rfl ?_
  refine im_iadd 1547 2715 (tz_38 27 rfl) ?_
  refine im_sld 1548 2716 hs (tz_38 28 rfl) (fun x3 => ?_)
  refine im_aload_n 1549 2717 (tz_38 29 rfl) rfl ?_
  refine im_iload 1550 2718 (tz_38 30 rfl) rfl ?_
  refine im_iconst 1551 2720 (tz_38 31 rfl) rfl ?_
  refine im_iadd 1552 2721 (tz_38 32 rfl) ?_
  refine im_sld 1553 2722 hs (tz_38 33 rfl) (fun x4 => ?_)
  refine im_aload_n 1554 2723 (tz_38 34 rfl) rfl ?_
  refine im_iload 1555 2724 (tz_38 35 rfl) rfl ?_
  refine im_iconst 1556 2726 (tz_38 36 rfl) rfl ?_
  refine im_iadd 1557 2727 (tz_38 37 rfl) ?_
  refine im_sld 1558 2728 hs (tz_38 38 rfl) (fun x5 => ?_)
  refine im_aload_n 1559 2729 (tz_38 39 rfl) rfl ?_
  refine im_iload 1560 2730 (tz_39 0 rfl) rfl ?_
  refine im_bipush 1561 2732 (tz_39 1 rfl) rfl ?_
  refine im_iadd 1562 2734 (tz_39 2 rfl) ?_
  refine im_sld 1563 2735 hs (tz_39 3 rfl) (fun x6 => ?_)
  refine im_aload_n 1564 2736 (tz_39 4 rfl) rfl ?_
  refine im_cWi (S := []) (fun _ _ hv => cpW (fr' := 8) (lo' := 139) (i := 1565) (As := [.ref p1, .int x1, .int x2, .int x3, .int x4, .int x5, .int x6, .ref p3]) (S := []) (tz_39 5 rfl) lm_Z_323 mw_Z_insertCalc mv_Z_insertCalc rfl rfl rfl rfl (sp_Z_insertCalc G hv)) (fun x7 M1 => ?_)
  refine im_istore 1566 2740 [some (.ref (st_B + 9000)), some (.ref p1), some (.ref p2), some (.ref p3), some (.int i), some (.int x7), none, none, none] rfl rfl rfl ?_
  refine im_aload_n 1567 2742 (tz_39 7 rfl) rfl ?_
  refine im_aload_n 1568 2743 (tz_39 8 rfl) rfl ?_
  refine im_iload 1569 2744 (tz_39 9 rfl) rfl ?_
  refine im_iconst 1570 2746 (tz_39 10 rfl) rfl ?_
  refine im_iadd 1571 2747 (tz_39 11 rfl) ?_
  refine im_sld 1572 2748 hs (tz_39 12 rfl) (fun x8 => ?_)
  refine im_aload_n 1573 2749 (tz_39 13 rfl) rfl ?_
  refine im_iload 1574 2750 (tz_39 14 rfl) rfl ?_
  refine im_iconst 1575 2752 (tz_39 15 rfl) rfl ?_
  refine im_iadd 1576 2753 (tz_39 16 rfl) ?_
  refine im_sld 1577 2754 hs (tz_39 17 rfl) (fun x9 => ?_)
  refine im_aload_n 1578 2755 (tz_39 18 rfl) rfl ?_
  refine im_iload 1579 2756 (tz_39 19 rfl) rfl ?_
  refine im_iconst 1580 2758 (tz_39 20 rfl) rfl ?_
  refine im_iadd 1581 2759 (tz_39 21 rfl) ?_
  refine im_sld 1582 2760 hs (tz_39 22 rfl) (fun x10 => ?_)
  refine im_aload_n 1583 2761 (tz_39 23 rfl) rfl ?_
  refine im_iload 1584 2762 (tz_39 24 rfl) rfl ?_
  refine im_iconst 1585 2764 (tz_39 25 rfl) rfl ?_
  refine im_iadd 1586 2765 (tz_39 26 rfl) ?_
  refine im_sld 1587 2766 hs (tz_39 27 rfl) (fun x11 => ?_)
  refine im_aload_n 1588 2767 (tz_39 28 rfl) rfl ?_
  refine im_iload 1589 2768 (tz_39 29 rfl) rfl ?_
  refine im_iconst 1590 2770 (tz_39 30 rfl) rfl ?_
  refine im_iadd 1591 2771 (tz_39 31 rfl) ?_
  refine im_sld 1592 2772 hs (tz_39 32 rfl) (fun x12 => ?_)
  refine im_aload_n 1593 2773 (tz_39 33 rfl) rfl ?_
  refine im_iload 1594 2774 (tz_39 34 rfl) rfl ?_
  refine im_bipush 1595 2776 (tz_39 35 rfl) rfl ?_
  refine im_iadd 1596 2778 (tz_39 36 rfl) ?_
  refine im_sld 1597 2779 hs (tz_39 37 rfl) (fun x13 => ?_)
  refine im_cWi (S := []) (fun _ _ hv => cpV (fr' := 5) (lo' := 121) (i := 1598) (As := [.int x8, .int x9, .int x10, .int x11, .int x12, .int x13]) (S := []) (a := p2) (c := 11) (tz_39 38 rfl) lk_Z_326 mw_M_insertCalc mv_M_insertCalc rfl ⟨by decide, rfl⟩ rfl rfl rfl (gd_some hv).1 (sp_M_insertCalc G hv)) (fun x14 M2 => ?_)
  refine im_istore 1599 2783 [some (.ref (st_B + 9000)), some (.ref p1), some (.ref p2), some (.ref p3), some (.int i), some (.int x7), some (.int x14), none, none] rfl rfl rfl ?_
  refine im_aload_n 1600 2785 (tz_40 0 rfl) rfl ?_
  refine im_ci (S := []) (fun _ hv => cpV (fr' := 1) (lo' := 20) (i := 1601) (As := []) (S := []) (a := p2) (c := 11) (tz_40 1 rfl) lk_Z_161 mw_M_thrown mv_M_thrown rfl ⟨by decide, rfl⟩ rfl rfl rfl (gd_some hv).1 (sp_M_thrown G hv)) (fun x15 => ?_)
  refine im_iload 1602 2789 (tz_40 2 rfl) rfl ?_
  refine im_ic_eq 1603 2791 2796 (tz_40 3 rfl) (by decide) ?_ ?_
  · refine im_iload 1606 2796 (tz_40 6 rfl) rfl ?_
    refine im_jp (fun j2813 => im_I mi_Z_law 26 601 G M0 sw_i (j2813) 2813 [some (.ref (st_B + 9000)), some (.ref p1), some (.ref p2), some (.ref p3), some (.int i), none, none, none, none] [] M2) ?_ (fun j2813 hj2813 => ?_)
    · show im_I mi_Z_law 26 601 G M0 sw_i (_) 2813 [some (.ref (st_B + 9000)), some (.ref p1), some (.ref p2), some (.ref p3), some (.int i), none, none, none, none] [] M2
      refine im_goto 1617 2813 3255 (tz_40 17 rfl) (by decide) ?_
      exact im_less _ (by simp [lv_le]) (hj M2)
    refine im_if_ne 1607 2798 2813 (tz_40 7 rfl) (by decide) ?_ ?_
    · exact im_less _ (by simp [lv_le]) (hj2813)
    · refine im_aload_n 1608 2801 (tz_40 8 rfl) rfl ?_
      refine im_iconst 1609 2802 (tz_40 9 rfl) rfl ?_
      refine im_laload 1610 2803 (tz_40 10 rfl) (fun x16 => ?_)
      refine im_iload 1611 2804 (tz_40 11 rfl) rfl ?_
      refine im_i2l 1612 2806 (tz_40 12 rfl) ?_
      refine im_lcmp 1613 2807 (tz_40 13 rfl) ?_
      refine im_if_eq 1614 2808 2813 (tz_40 14 rfl) (by decide) ?_ ?_
      · exact im_less _ (by simp [lv_le]) (hj2813)
      · refine im_iconst 1615 2811 (tz_40 15 rfl) rfl ?_
        exact im_end rfl (wp_zreturn 1616 2812 (ty := .boolean) rfl zn_0 (tz_40 16 rfl))
  · refine im_iconst 1604 2794 (tz_40 4 rfl) rfl ?_
    exact im_end rfl (wp_zreturn 1605 2795 (ty := .boolean) rfl zn_0 (tz_40 5 rfl))

set_option maxRecDepth 100000 in
set_option maxHeartbeats 4000000 in
theorem li_c49 {G : gl_T} {M0 : mm_T} {n : Nat} {xs : Nat → Int32} (hs : sc_H G n xs) (p1 p2 p3 : Nat) (i : Int32) (jj : mm_T → Option (Int32 × mm_T)) (hj : ∀ N, im_I mi_Z_law 26 601 G M0 sw_i (jj N) 3255 [some (.ref (st_B + 9000)), some (.ref p1), some (.ref p2), some (.ref p3), some (.int i), none, none, none, none] [] N) (N : mm_T) : im_I mi_Z_law 26 601 G M0 sw_i (lw_c49 n xs p1 p2 p3 i jj N) 2816 [some (.ref (st_B + 9000)), some (.ref p1), some (.ref p2), some (.ref p3), some (.int i), none, none, none, none] [] N := by
  unfold lw_c49
  refine im_aload_n 1618 2816 (tz_40 18 rfl) rfl ?_
  refine im_aload_n 1619 2817 (tz_40 19 rfl) rfl ?_
  refine im_iload 1620 2818 (tz_40 20 rfl) rfl ?_
  refine im_iconst 1621 2820 (tz_40 21 rfl) rfl ?_
  refine im_iadd 1622 2821 (tz_40 22 rfl) ?_
  refine im_sld 1623 2822 hs (tz_40 23 rfl) (fun x1 => ?_)
  refine im_aload_n 1624 2823 (tz_40 24 rfl) rfl ?_
  refine im_cWi (S := []) (fun _ _ hv => cpW (fr' := 8) (lo' := 132) (i := 1625) (As := [.ref p1, .int x1, .ref p3]) (S := []) (tz_40 25 rfl) lm_Z_327 mw_Z_removeInstruction mv_Z_removeInstruction rfl rfl rfl rfl (sp_Z_removeInstruction G hv)) (fun x2 M1 => ?_)
  refine im_istore 1626 2827 [some (.ref (st_B + 9000)), some (.ref p1), some (.ref p2), some (.ref p3), some (.int i), some (.int x2), none, none, none] rfl rfl rfl ?_
  refine im_aload_n 1627 2829 (tz_40 27 rfl) rfl ?_
  refine im_aload_n 1628 2830 (tz_40 28 rfl) rfl ?_
  refine im_iload 1629 2831 (tz_40 29 rfl) rfl ?_
  refine im_iconst 1630 2833 (tz_40 30 rfl) rfl ?_
  refine im_iadd 1631 2834 (tz_40 31 rfl) ?_
  refine im_sld 1632 2835 hs (tz_40 32 rfl) (fun x3 => ?_)
  refine im_cWi (S := []) (fun _ _ hv => cpV (fr' := 7) (lo' := 153) (i := 1633) (As := [.int x3]) (S := []) (a := p2) (c := 11) (tz_40 33 rfl) lk_Z_329 mw_M_removeInstruction mv_M_removeInstruction rfl ⟨by decide, rfl⟩ rfl rfl rfl (gd_some hv).1 (sp_M_removeInstruction G hv)) (fun x4 M2 => ?_)
  refine im_istore 1634 2839 [some (.ref (st_B + 9000)), some (.ref p1), some (.ref p2), some (.ref p3), some (.int i), some (.int x2), some (.int x4), none, none] rfl rfl rfl ?_
  refine im_aload_n 1635 2841 (tz_40 35 rfl) rfl ?_
  refine im_ci (S := []) (fun _ hv => cpV (fr' := 1) (lo' := 20) (i := 1636) (As := []) (S := []) (a := p2) (c := 11) (tz_40 36 rfl) lk_Z_161 mw_M_thrown mv_M_thrown rfl ⟨by decide, rfl⟩ rfl rfl rfl (gd_some hv).1 (sp_M_thrown G hv)) (fun x5 => ?_)
  refine im_iload 1637 2845 (tz_40 37 rfl) rfl ?_
  refine im_ic_eq 1638 2847 2852 (tz_40 38 rfl) (by decide) ?_ ?_
  · refine im_iload 1641 2852 (tz_41 1 rfl) rfl ?_
    refine im_jp (fun j2869 => im_I mi_Z_law 26 601 G M0 sw_i (j2869) 2869 [some (.ref (st_B + 9000)), some (.ref p1), some (.ref p2), some (.ref p3), some (.int i), none, none, none, none] [] M2) ?_ (fun j2869 hj2869 => ?_)
    · show im_I mi_Z_law 26 601 G M0 sw_i (_) 2869 [some (.ref (st_B + 9000)), some (.ref p1), some (.ref p2), some (.ref p3), some (.int i), none, none, none, none] [] M2
      refine im_goto 1652 2869 3255 (tz_41 12 rfl) (by decide) ?_
      exact im_less _ (by simp [lv_le]) (hj M2)
    refine im_if_ne 1642 2854 2869 (tz_41 2 rfl) (by decide) ?_ ?_
    · exact im_less _ (by simp [lv_le]) (hj2869)
    · refine im_aload_n 1643 2857 (tz_41 3 rfl) rfl ?_
      refine im_iconst 1644 2858 (tz_41 4 rfl) rfl ?_
      refine im_laload 1645 2859 (tz_41 5 rfl) (fun x6 => ?_)
      refine im_iload 1646 2860 (tz_41 6 rfl) rfl ?_
      refine im_i2l 1647 2862 (tz_41 7 rfl) ?_
      refine im_lcmp 1648 2863 (tz_41 8 rfl) ?_
      refine im_if_eq 1649 2864 2869 (tz_41 9 rfl) (by decide) ?_ ?_
      · exact im_less _ (by simp [lv_le]) (hj2869)
      · refine im_iconst 1650 2867 (tz_41 10 rfl) rfl ?_
        exact im_end rfl (wp_zreturn 1651 2868 (ty := .boolean) rfl zn_0 (tz_41 11 rfl))
  · refine im_iconst 1639 2850 (tz_40 39 rfl) rfl ?_
    exact im_end rfl (wp_zreturn 1640 2851 (ty := .boolean) rfl zn_0 (tz_41 0 rfl))

set_option maxRecDepth 100000 in
set_option maxHeartbeats 4000000 in
theorem li_c50 {G : gl_T} {M0 : mm_T} {n : Nat} {xs : Nat → Int32} (hs : sc_H G n xs) (p1 p2 p3 : Nat) (i : Int32) (jj : mm_T → Option (Int32 × mm_T)) (hj : ∀ N, im_I mi_Z_law 26 601 G M0 sw_i (jj N) 3255 [some (.ref (st_B + 9000)), some (.ref p1), some (.ref p2), some (.ref p3), some (.int i), none, none, none, none] [] N) (N : mm_T) : im_I mi_Z_law 26 601 G M0 sw_i (lw_c50 n xs p1 p2 p3 i jj N) 2872 [some (.ref (st_B + 9000)), some (.ref p1), some (.ref p2), some (.ref p3), some (.int i), none, none, none, none] [] N := by
  unfold lw_c50
  refine im_aload_n 1653 2872 (tz_41 13 rfl) rfl ?_
  refine im_aload_n 1654 2873 (tz_41 14 rfl) rfl ?_
  refine im_iload 1655 2874 (tz_41 15 rfl) rfl ?_
  refine im_iconst 1656 2876 (tz_41 16 rfl) rfl ?_
  refine im_iadd 1657 2877 (tz_41 17 rfl) ?_
  refine im_sld 1658 2878 hs (tz_41 18 rfl) (fun x1 => ?_)
  refine im_aload_n 1659 2879 (tz_41 19 rfl) rfl ?_
  refine im_iload 1660 2880 (tz_41 20 rfl) rfl ?_
  refine im_iconst 1661 2882 (tz_41 21 rfl) rfl ?_
  refine im_iadd 1662 2883 (tz_41 22 rfl) ?_
  refine im_sld 1663 2884 hs (tz_41 23 rfl) (fun x2 => ?_)
  refine im_aload_n 1664 2885 (tz_41 24 rfl) rfl ?_
  refine im_cWi (S := []) (fun _ _ hv => cpW (fr' := 8) (lo' := 154) (i := 1665) (As := [.ref p1, .int x1, .int x2, .ref p3]) (S := []) (tz_41 25 rfl) lm_Z_330 mw_Z_setGoto mv_Z_setGoto rfl rfl rfl rfl (sp_Z_setGoto G hv)) (fun x3 M1 => ?_)
  refine im_istore 1666 2889 [some (.ref (st_B + 9000)), some (.ref p1), some (.ref p2), some (.ref p3), some (.int i), some (.int x3), none, none, none] rfl rfl rfl ?_
  refine im_aload_n 1667 2891 (tz_41 27 rfl) rfl ?_
  refine im_aload_n 1668 2892 (tz_41 28 rfl) rfl ?_
  refine im_iload 1669 2893 (tz_41 29 rfl) rfl ?_
  refine im_iconst 1670 2895 (tz_41 30 rfl) rfl ?_
  refine im_iadd 1671 2896 (tz_41 31 rfl) ?_
  refine im_sld 1672 2897 hs (tz_41 32 rfl) (fun x4 => ?_)
  refine im_aload_n 1673 2898 (tz_41 33 rfl) rfl ?_
  refine im_iload 1674 2899 (tz_41 34 rfl) rfl ?_
  refine im_iconst 1675 2901 (tz_41 35 rfl) rfl ?_
  refine im_iadd 1676 2902 (tz_41 36 rfl) ?_
  refine im_sld 1677 2903 hs (tz_41 37 rfl) (fun x5 => ?_)
  refine im_cWi (S := []) (fun _ _ hv => cpV (fr' := 21) (lo' := 488) (i := 1678) (As := [.int x4, .int x5]) (S := []) (a := p2) (c := 11) (tz_41 38 rfl) lk_Z_332 mw_M_setGoto mv_M_setGoto rfl ⟨by decide, rfl⟩ rfl rfl rfl (gd_some hv).1 (sp_M_setGoto G hv)) (fun x6 M2 => ?_)
  refine im_istore 1679 2907 [some (.ref (st_B + 9000)), some (.ref p1), some (.ref p2), some (.ref p3), some (.int i), some (.int x3), some (.int x6), none, none] rfl rfl rfl ?_
  refine im_aload_n 1680 2909 (tz_42 0 rfl) rfl ?_
  refine im_ci (S := []) (fun _ hv => cpV (fr' := 1) (lo' := 20) (i := 1681) (As := []) (S := []) (a := p2) (c := 11) (tz_42 1 rfl) lk_Z_161 mw_M_thrown mv_M_thrown rfl ⟨by decide, rfl⟩ rfl rfl rfl (gd_some hv).1 (sp_M_thrown G hv)) (fun x7 => ?_)
  refine im_iload 1682 2913 (tz_42 2 rfl) rfl ?_
  refine im_ic_eq 1683 2915 2920 (tz_42 3 rfl) (by decide) ?_ ?_
  · refine im_iload 1686 2920 (tz_42 6 rfl) rfl ?_
    refine im_jp (fun j2937 => im_I mi_Z_law 26 601 G M0 sw_i (j2937) 2937 [some (.ref (st_B + 9000)), some (.ref p1), some (.ref p2), some (.ref p3), some (.int i), none, none, none, none] [] M2) ?_ (fun j2937 hj2937 => ?_)
    · show im_I mi_Z_law 26 601 G M0 sw_i (_) 2937 [some (.ref (st_B + 9000)), some (.ref p1), some (.ref p2), some (.ref p3), some (.int i), none, none, none, none] [] M2
      refine im_goto 1697 2937 3255 (tz_42 17 rfl) (by decide) ?_
      exact im_less _ (by simp [lv_le]) (hj M2)
    refine im_if_ne 1687 2922 2937 (tz_42 7 rfl) (by decide) ?_ ?_
    · exact im_less _ (by simp [lv_le]) (hj2937)
    · refine im_aload_n 1688 2925 (tz_42 8 rfl) rfl ?_
      refine im_iconst 1689 2926 (tz_42 9 rfl) rfl ?_
      refine im_laload 1690 2927 (tz_42 10 rfl) (fun x8 => ?_)
      refine im_iload 1691 2928 (tz_42 11 rfl) rfl ?_
      refine im_i2l 1692 2930 (tz_42 12 rfl) ?_
      refine im_lcmp 1693 2931 (tz_42 13 rfl) ?_
      refine im_if_eq 1694 2932 2937 (tz_42 14 rfl) (by decide) ?_ ?_
      · exact im_less _ (by simp [lv_le]) (hj2937)
      · refine im_iconst 1695 2935 (tz_42 15 rfl) rfl ?_
        exact im_end rfl (wp_zreturn 1696 2936 (ty := .boolean) rfl zn_0 (tz_42 16 rfl))
  · refine im_iconst 1684 2918 (tz_42 4 rfl) rfl ?_
    exact im_end rfl (wp_zreturn 1685 2919 (ty := .boolean) rfl zn_0 (tz_42 5 rfl))

set_option maxRecDepth 100000 in
set_option maxHeartbeats 4000000 in
theorem li_c51 {G : gl_T} {M0 : mm_T} {n : Nat} {xs : Nat → Int32} (hs : sc_H G n xs) (p1 p2 p3 : Nat) (i : Int32) (jj : mm_T → Option (Int32 × mm_T)) (hj : ∀ N, im_I mi_Z_law 26 601 G M0 sw_i (jj N) 3255 [some (.ref (st_B + 9000)), some (.ref p1), some (.ref p2), some (.ref p3), some (.int i), none, none, none, none] [] N) (N : mm_T) : im_I mi_Z_law 26 601 G M0 sw_i (lw_c51 n xs p1 p2 p3 i jj N) 2940 [some (.ref (st_B + 9000)), some (.ref p1), some (.ref p2), some (.ref p3), some (.int i), none, none, none, none] [] N := by
  unfold lw_c51
  refine im_aload_n 1698 2940 (tz_42 18 rfl) rfl ?_
  refine im_aload_n 1699 2941 (tz_42 19 rfl) rfl ?_
  refine im_iload 1700 2942 (tz_42 20 rfl) rfl ?_
  refine im_iconst 1701 2944 (tz_42 21 rfl) rfl ?_
  refine im_iadd 1702 2945 (tz_42 22 rfl) ?_
  refine im_sld 1703 2946 hs (tz_42 23 rfl) (fun x1 => ?_)
  refine im_aload_n 1704 2947 (tz_42 24 rfl) rfl ?_
  refine im_iload 1705 2948 (tz_42 25 rfl) rfl ?_
  refine im_iconst 1706 2950 (tz_42 26 rfl) rfl ?_
  refine im_iadd 1707 2951 (tz_42 27 rfl) ?_
  refine im_sld 1708 2952 hs (tz_42 28 rfl) (fun x2 => ?_)
  refine im_aload_n 1709 2953 (tz_42 29 rfl) rfl ?_
  refine im_iload 1710 2954 (tz_42 30 rfl) rfl ?_
  refine im_iconst 1711 2956 (tz_42 31 rfl) rfl ?_
  refine im_iadd 1712 2957 (tz_42 32 rfl) ?_
  refine im_sld 1713 2958 hs (tz_42 33 rfl) (fun x3 => ?_)
  refine im_aload_n 1714 2959 (tz_42 34 rfl) rfl ?_
  refine im_iload 1715 2960 (tz_42 35 rfl) rfl ?_
  refine im_iconst 1716 2962 (tz_42 36 rfl) rfl ?_
  refine im_iadd 1717 2963 (tz_42 37 rfl) ?_
  refine im_sld 1718 2964 hs (tz_42 38 rfl) (fun x4 => ?_)
  refine im_aload_n 1719 2965 (tz_42 39 rfl) rfl ?_
  refine im_cWi (S := []) (fun _ _ hv => cpW (fr' := 8) (lo' := 156) (i := 1720) (As := [.ref p1, .int x1, .int x2, .int x3, .int x4, .ref p3]) (S := []) (tz_43 0 rfl) lm_Z_333 mw_Z_setBranch mv_Z_setBranch rfl rfl rfl rfl (sp_Z_setBranch G hv)) (fun x5 M1 => ?_)
  refine im_istore 1721 2969 [some (.ref (st_B + 9000)), some (.ref p1), some (.ref p2), some (.ref p3), some (.int i), some (.int x5), none, none, none] rfl rfl rfl ?_
  refine im_aload_n 1722 2971 (tz_43 2 rfl) rfl ?_
  refine im_aload_n 1723 2972 (tz_43 3 rfl) rfl ?_
  refine im_iload 1724 2973 (tz_43 4 rfl) rfl ?_
  refine im_iconst 1725 2975 (tz_43 5 rfl) rfl ?_
  refine im_iadd 1726 2976 (tz_43 6 rfl) ?_
  refine im_sld 1727 2977 hs (tz_43 7 rfl) (fun x6 => ?_)
  refine im_aload_n 1728 2978 (tz_43 8 rfl) rfl ?_
  refine im_iload 1729 2979 (tz_43 9 rfl) rfl ?_
  refine im_iconst 1730 2981 (tz_43 10 rfl) rfl ?_
  refine im_iadd 1731 2982 (tz_43 11 rfl) ?_
  refine im_sld 1732 2983 hs (tz_43 12 rfl) (fun x7 => ?_)
  refine im_aload_n 1733 2984 (tz_43 13 rfl) rfl ?_
  refine im_iload 1734 2985 (tz_43 14 rfl) rfl ?_
  refine im_iconst 1735 2987 (tz_43 15 rfl) rfl ?_
  refine im_iadd 1736 2988 (tz_43 16 rfl) ?_
  refine im_sld 1737 2989 hs (tz_43 17 rfl) (fun x8 => ?_)
  refine im_aload_n 1738 2990 (tz_43 18 rfl) rfl ?_
  refine im_iload 1739 2991 (tz_43 19 rfl) rfl ?_
  refine im_iconst 1740 2993 (tz_43 20 rfl) rfl ?_
  refine im_iadd 1741 2994 (tz_43 21 rfl) ?_
  refine im_sld 1742 2995 hs (tz_43 22 rfl) (fun x9 => ?_)
  refine im_cWi (S := []) (fun _ _ hv => cpV (fr' := 21) (lo' := 488) (i := 1743) (As := [.int x6, .int x7, .int x8, .int x9]) (S := []) (a := p2) (c := 11) (tz_43 23 rfl) lk_Z_335 mw_M_setBranch mv_M_setBranch rfl ⟨by decide, rfl⟩ rfl rfl rfl (gd_some hv).1 (sp_M_setBranch G hv)) (fun x10 M2 => ?_)
  refine im_istore 1744 2999 [some (.ref (st_B + 9000)), some (.ref p1), some (.ref p2), some (.ref p3), some (.int i), some (.int x5), some (.int x10), none, none] rfl rfl rfl ?_
  refine im_aload_n 1745 3001 (tz_43 25 rfl) rfl ?_
  refine im_ci (S := []) (fun _ hv => cpV (fr' := 1) (lo' := 20) (i := 1746) (As := []) (S := []) (a := p2) (c := 11) (tz_43 26 rfl) lk_Z_161 mw_M_thrown mv_M_thrown rfl ⟨by decide, rfl⟩ rfl rfl rfl (gd_some hv).1 (sp_M_thrown G hv)) (fun x11 => ?_)
  refine im_iload 1747 3005 (tz_43 27 rfl) rfl ?_
  refine im_ic_eq 1748 3007 3012 (tz_43 28 rfl) (by decide) ?_ ?_
  · refine im_iload 1751 3012 (tz_43 31 rfl) rfl ?_
    refine im_jp (fun j3029 => im_I mi_Z_law 26 601 G M0 sw_i (j3029) 3029 [some (.ref (st_B + 9000)), some (.ref p1), some (.ref p2), some (.ref p3), some (.int i), none, none, none, none] [] M2) ?_ (fun j3029 hj3029 => ?_)
    · show im_I mi_Z_law 26 601 G M0 sw_i (_) 3029 [some (.ref (st_B + 9000)), some (.ref p1), some (.ref p2), some (.ref p3), some (.int i), none, none, none, none] [] M2
      refine im_goto 1762 3029 3255 (tz_44 2 rfl) (by decide) ?_
      exact im_less _ (by simp [lv_le]) (hj M2)
    refine im_if_ne 1752 3014 3029 (tz_43 32 rfl) (by decide) ?_ ?_
    · exact im_less _ (by simp [lv_le]) (hj3029)
    · refine im_aload_n 1753 3017 (tz_43 33 rfl) rfl ?_
      refine im_iconst 1754 3018 (tz_43 34 rfl) rfl ?_
      refine im_laload 1755 3019 (tz_43 35 rfl) (fun x12 => ?_)
      refine im_iload 1756 3020 (tz_43 36 rfl) rfl ?_
      refine im_i2l 1757 3022 (tz_43 37 rfl) ?_
      refine im_lcmp 1758 3023 (tz_43 38 rfl) ?_
      refine im_if_eq 1759 3024 3029 (tz_43 39 rfl) (by decide) ?_ ?_
      · exact im_less _ (by simp [lv_le]) (hj3029)
      · refine im_iconst 1760 3027 (tz_44 0 rfl) rfl ?_
        exact im_end rfl (wp_zreturn 1761 3028 (ty := .boolean) rfl zn_0 (tz_44 1 rfl))
  · refine im_iconst 1749 3010 (tz_43 29 rfl) rfl ?_
    exact im_end rfl (wp_zreturn 1750 3011 (ty := .boolean) rfl zn_0 (tz_43 30 rfl))

set_option maxRecDepth 100000 in
set_option maxHeartbeats 4000000 in
theorem li_c52 {G : gl_T} {M0 : mm_T} {n : Nat} {xs : Nat → Int32} (hs : sc_H G n xs) (p1 p2 p3 : Nat) (i : Int32) (jj : mm_T → Option (Int32 × mm_T)) (hj : ∀ N, im_I mi_Z_law 26 601 G M0 sw_i (jj N) 3255 [some (.ref (st_B + 9000)), some (.ref p1), some (.ref p2), some (.ref p3), some (.int i), none, none, none, none] [] N) (N : mm_T) : im_I mi_Z_law 26 601 G M0 sw_i (lw_c52 n xs p1 p2 p3 i jj N) 3032 [some (.ref (st_B + 9000)), some (.ref p1), some (.ref p2), some (.ref p3), some (.int i), none, none, none, none] [] N := by
  unfold lw_c52
  refine im_aload_n 1763 3032 (tz_44 3 rfl) rfl ?_
  refine im_cWi (S := []) (fun _ _ hv => cpV (fr' := 7) (lo' := 156) (i := 1764) (As := []) (S := []) (a := p1) (c := 10) (tz_44 4 rfl) lk_Z_336 mw_D_removeDead mv_D_removeDead rfl ⟨by decide, rfl⟩ rfl rfl rfl (gd_some hv).1 (sp_D_removeDead G hv)) (fun x1 M1 => ?_)
  refine im_aload_n 1765 3036 (tz_44 5 rfl) rfl ?_
  refine im_cWi (S := [.int x1]) (fun _ _ hv => cpV (fr' := 24) (lo' := 558) (i := 1766) (As := []) (S := [.int x1]) (a := p2) (c := 11) (tz_44 6 rfl) lk_Z_339 mw_M_removeDead mv_M_removeDead rfl ⟨by decide, rfl⟩ rfl rfl rfl (gd_some hv).1 (sp_M_removeDead G hv)) (fun x2 M2 => ?_)
  refine im_ic_eq 1767 3040 3255 (tz_44 7 rfl) (by decide) ?_ ?_
  · exact im_less _ (by simp [lv_le]) (hj M2)
  · refine im_iconst 1768 3043 (tz_44 8 rfl) rfl ?_
    exact im_end rfl (wp_zreturn 1769 3044 (ty := .boolean) rfl zn_0 (tz_44 9 rfl))

set_option maxRecDepth 100000 in
set_option maxHeartbeats 4000000 in
theorem li_c53 {G : gl_T} {M0 : mm_T} {n : Nat} {xs : Nat → Int32} (hs : sc_H G n xs) (p1 p2 p3 : Nat) (i : Int32) (jj : mm_T → Option (Int32 × mm_T)) (hj : ∀ N, im_I mi_Z_law 26 601 G M0 sw_i (jj N) 3255 [some (.ref (st_B + 9000)), some (.ref p1), some (.ref p2), some (.ref p3), some (.int i), none, none, none, none] [] N) (N : mm_T) : im_I mi_Z_law 26 601 G M0 sw_i (lw_c53 n xs p1 p2 p3 i jj N) 3045 [some (.ref (st_B + 9000)), some (.ref p1), some (.ref p2), some (.ref p3), some (.int i), none, none, none, none] [] N := by
  unfold lw_c53
  refine im_aload_n 1770 3045 (tz_44 10 rfl) rfl ?_
  refine im_cWi (S := []) (fun _ _ hv => cpV (fr' := 7) (lo' := 162) (i := 1771) (As := []) (S := []) (a := p1) (c := 10) (tz_44 11 rfl) lk_Z_340 mw_D_foldConstants mv_D_foldConstants rfl ⟨by decide, rfl⟩ rfl rfl rfl (gd_some hv).1 (sp_D_foldConstants G hv)) (fun x1 M1 => ?_)
  refine im_aload_n 1772 3049 (tz_44 12 rfl) rfl ?_
  refine im_cWi (S := [.int x1]) (fun _ _ hv => cpV (fr' := 24) (lo' := 554) (i := 1773) (As := []) (S := [.int x1]) (a := p2) (c := 11) (tz_44 13 rfl) lk_Z_343 mw_M_foldConstants mv_M_foldConstants rfl ⟨by decide, rfl⟩ rfl rfl rfl (gd_some hv).1 (sp_M_foldConstants G hv)) (fun x2 M2 => ?_)
  refine im_ic_eq 1774 3053 3255 (tz_44 14 rfl) (by decide) ?_ ?_
  · exact im_less _ (by simp [lv_le]) (hj M2)
  · refine im_iconst 1775 3056 (tz_44 15 rfl) rfl ?_
    exact im_end rfl (wp_zreturn 1776 3057 (ty := .boolean) rfl zn_0 (tz_44 16 rfl))

set_option maxRecDepth 100000 in
set_option maxHeartbeats 4000000 in
theorem li_c54 {G : gl_T} {M0 : mm_T} {n : Nat} {xs : Nat → Int32} (hs : sc_H G n xs) (p1 p2 p3 : Nat) (i : Int32) (jj : mm_T → Option (Int32 × mm_T)) (hj : ∀ N, im_I mi_Z_law 26 601 G M0 sw_i (jj N) 3255 [some (.ref (st_B + 9000)), some (.ref p1), some (.ref p2), some (.ref p3), some (.int i), none, none, none, none] [] N) (N : mm_T) : im_I mi_Z_law 26 601 G M0 sw_i (lw_c54 n xs p1 p2 p3 i jj N) 3058 [some (.ref (st_B + 9000)), some (.ref p1), some (.ref p2), some (.ref p3), some (.int i), none, none, none, none] [] N := by
  unfold lw_c54
  refine im_aload_n 1777 3058 (tz_44 17 rfl) rfl ?_
  refine im_aload_n 1778 3059 (tz_44 18 rfl) rfl ?_
  refine im_iload 1779 3060 (tz_44 19 rfl) rfl ?_
  refine im_iconst 1780 3062 (tz_44 20 rfl) rfl ?_
  refine im_iadd 1781 3063 (tz_44 21 rfl) ?_
  refine im_sld 1782 3064 hs (tz_44 22 rfl) (fun x1 => ?_)
  refine im_aload_n 1783 3065 (tz_44 23 rfl) rfl ?_
  refine im_cWi (S := []) (fun _ _ hv => cpW (fr' := 9) (lo' := 258) (i := 1784) (As := [.ref p1, .int x1, .ref p3]) (S := []) (tz_44 24 rfl) lm_Z_344 mw_Z_writeBlock mv_Z_writeBlock rfl rfl rfl rfl (sp_Z_writeBlock G hv)) (fun x2 M1 => ?_)
  refine im_istore 1785 3069 [some (.ref (st_B + 9000)), some (.ref p1), some (.ref p2), some (.ref p3), some (.int i), some (.int x2), none, none, none] rfl rfl rfl ?_
  refine im_aload_n 1786 3071 (tz_44 26 rfl) rfl ?_
  refine im_aload_n 1787 3072 (tz_44 27 rfl) rfl ?_
  refine im_iload 1788 3073 (tz_44 28 rfl) rfl ?_
  refine im_iconst 1789 3075 (tz_44 29 rfl) rfl ?_
  refine im_iadd 1790 3076 (tz_44 30 rfl) ?_
  refine im_sld 1791 3077 hs (tz_44 31 rfl) (fun x3 => ?_)
  refine im_cWi (S := []) (fun _ _ hv => cpV (fr' := 7) (lo' := 215) (i := 1792) (As := [.int x3]) (S := []) (a := p2) (c := 11) (tz_44 32 rfl) lk_Z_346 mw_M_writeBlock mv_M_writeBlock rfl ⟨by decide, rfl⟩ rfl rfl rfl (gd_some hv).1 (sp_M_writeBlock G hv)) (fun x4 M2 => ?_)
  refine im_istore 1793 3081 [some (.ref (st_B + 9000)), some (.ref p1), some (.ref p2), some (.ref p3), some (.int i), some (.int x2), some (.int x4), none, none] rfl rfl rfl ?_
  refine im_aload_n 1794 3083 (tz_44 34 rfl) rfl ?_
  refine im_ci (S := []) (fun _ hv => cpV (fr' := 1) (lo' := 20) (i := 1795) (As := []) (S := []) (a := p2) (c := 11) (tz_44 35 rfl) lk_Z_161 mw_M_thrown mv_M_thrown rfl ⟨by decide, rfl⟩ rfl rfl rfl (gd_some hv).1 (sp_M_thrown G hv)) (fun x5 => ?_)
  refine im_iload 1796 3087 (tz_44 36 rfl) rfl ?_
  refine im_ic_eq 1797 3089 3094 (tz_44 37 rfl) (by decide) ?_ ?_
  · refine im_iload 1800 3094 (tz_45 0 rfl) rfl ?_
    refine im_jp (fun j3111 => im_I mi_Z_law 26 601 G M0 sw_i (j3111) 3111 [some (.ref (st_B + 9000)), some (.ref p1), some (.ref p2), some (.ref p3), some (.int i), none, none, none, none] [] M2) ?_ (fun j3111 hj3111 => ?_)
    · show im_I mi_Z_law 26 601 G M0 sw_i (_) 3111 [some (.ref (st_B + 9000)), some (.ref p1), some (.ref p2), some (.ref p3), some (.int i), none, none, none, none] [] M2
      refine im_goto 1811 3111 3255 (tz_45 11 rfl) (by decide) ?_
      exact im_less _ (by simp [lv_le]) (hj M2)
    refine im_if_ne 1801 3096 3111 (tz_45 1 rfl) (by decide) ?_ ?_
    · exact im_less _ (by simp [lv_le]) (hj3111)
    · refine im_aload_n 1802 3099 (tz_45 2 rfl) rfl ?_
      refine im_iconst 1803 3100 (tz_45 3 rfl) rfl ?_
      refine im_laload 1804 3101 (tz_45 4 rfl) (fun x6 => ?_)
      refine im_iload 1805 3102 (tz_45 5 rfl) rfl ?_
      refine im_i2l 1806 3104 (tz_45 6 rfl) ?_
      refine im_lcmp 1807 3105 (tz_45 7 rfl) ?_
      refine im_if_eq 1808 3106 3111 (tz_45 8 rfl) (by decide) ?_ ?_
      · exact im_less _ (by simp [lv_le]) (hj3111)
      · refine im_iconst 1809 3109 (tz_45 9 rfl) rfl ?_
        exact im_end rfl (wp_zreturn 1810 3110 (ty := .boolean) rfl zn_0 (tz_45 10 rfl))
  · refine im_iconst 1798 3092 (tz_44 38 rfl) rfl ?_
    exact im_end rfl (wp_zreturn 1799 3093 (ty := .boolean) rfl zn_0 (tz_44 39 rfl))

set_option maxRecDepth 100000 in
set_option maxHeartbeats 4000000 in
theorem li_c55 {G : gl_T} {M0 : mm_T} {n : Nat} {xs : Nat → Int32} (hs : sc_H G n xs) (p1 p2 p3 : Nat) (i : Int32) (jj : mm_T → Option (Int32 × mm_T)) (hj : ∀ N, im_I mi_Z_law 26 601 G M0 sw_i (jj N) 3255 [some (.ref (st_B + 9000)), some (.ref p1), some (.ref p2), some (.ref p3), some (.int i), none, none, none, none] [] N) (N : mm_T) : im_I mi_Z_law 26 601 G M0 sw_i (lw_c55 n xs p1 p2 p3 i jj N) 3114 [some (.ref (st_B + 9000)), some (.ref p1), some (.ref p2), some (.ref p3), some (.int i), none, none, none, none] [] N := by
  unfold lw_c55
  refine im_aload_n 1812 3114 (tz_45 12 rfl) rfl ?_
  refine im_aload_n 1813 3115 (tz_45 13 rfl) rfl ?_
  refine im_iload 1814 3116 (tz_45 14 rfl) rfl ?_
  refine im_iconst 1815 3118 (tz_45 15 rfl) rfl ?_
  refine im_iadd 1816 3119 (tz_45 16 rfl) ?_
  refine im_sld 1817 3120 hs (tz_45 17 rfl) (fun x1 => ?_)
  refine im_ci (S := []) (fun _ hv => cpV (fr' := 3) (lo' := 62) (i := 1818) (As := [.int x1]) (S := []) (a := p1) (c := 10) (tz_45 18 rfl) lk_Z_347 mw_D_outputByte mv_D_outputByte rfl ⟨by decide, rfl⟩ rfl rfl rfl (gd_some hv).1 (sp_D_outputByte G hv)) (fun x2 => ?_)
  refine im_aload_n 1819 3124 (tz_45 19 rfl) rfl ?_
  refine im_aload_n 1820 3125 (tz_45 20 rfl) rfl ?_
  refine im_iload 1821 3126 (tz_45 21 rfl) rfl ?_
  refine im_iconst 1822 3128 (tz_45 22 rfl) rfl ?_
  refine im_iadd 1823 3129 (tz_45 23 rfl) ?_
  refine im_sld 1824 3130 hs (tz_45 24 rfl) (fun x3 => ?_)
  refine im_cWi (S := [.int x2]) (fun _ _ hv => cpV (fr' := 2) (lo' := 42) (i := 1825) (As := [.int x3]) (S := [.int x2]) (a := p2) (c := 11) (tz_45 25 rfl) lk_Z_350 mw_M_outputByte mv_M_outputByte rfl ⟨by decide, rfl⟩ rfl rfl rfl (gd_some hv).1 (sp_M_outputByte G hv)) (fun x4 M1 => ?_)
  refine im_ic_eq 1826 3134 3255 (tz_45 26 rfl) (by decide) ?_ ?_
  · exact im_less _ (by simp [lv_le]) (hj M1)
  · refine im_iconst 1827 3137 (tz_45 27 rfl) rfl ?_
    exact im_end rfl (wp_zreturn 1828 3138 (ty := .boolean) rfl zn_0 (tz_45 28 rfl))

set_option maxRecDepth 100000 in
set_option maxHeartbeats 4000000 in
theorem li_c56 {G : gl_T} {M0 : mm_T} {n : Nat} {xs : Nat → Int32} (hs : sc_H G n xs) (p1 p2 p3 : Nat) (i : Int32) (jj : mm_T → Option (Int32 × mm_T)) (hj : ∀ N, im_I mi_Z_law 26 601 G M0 sw_i (jj N) 3255 [some (.ref (st_B + 9000)), some (.ref p1), some (.ref p2), some (.ref p3), some (.int i), none, none, none, none] [] N) (N : mm_T) : im_I mi_Z_law 26 601 G M0 sw_i (lw_c56 n xs p1 p2 p3 i jj N) 3139 [some (.ref (st_B + 9000)), some (.ref p1), some (.ref p2), some (.ref p3), some (.int i), none, none, none, none] [] N := by
  unfold lw_c56
  refine im_aload_n 1829 3139 (tz_45 29 rfl) rfl ?_
  refine im_aload_n 1830 3140 (tz_45 30 rfl) rfl ?_
  refine im_cWi (S := []) (fun _ _ hv => cpW (fr' := 7) (lo' := 110) (i := 1831) (As := [.ref p1, .ref p3]) (S := []) (tz_45 31 rfl) lm_Z_351 mw_Z_undo mv_Z_undo rfl rfl rfl rfl (sp_Z_undo G hv)) (fun x1 M1 => ?_)
  refine im_istore 1832 3144 [some (.ref (st_B + 9000)), some (.ref p1), some (.ref p2), some (.ref p3), some (.int i), some (.int x1), none, none, none] rfl rfl rfl ?_
  refine im_aload_n 1833 3146 (tz_45 33 rfl) rfl ?_
  refine im_cWi (S := []) (fun _ _ hv => cpV (fr' := 2) (lo' := 43) (i := 1834) (As := []) (S := []) (a := p2) (c := 11) (tz_45 34 rfl) lk_Z_354 mw_M_undo mv_M_undo rfl ⟨by decide, rfl⟩ rfl rfl rfl (gd_some hv).1 (sp_M_undo G hv)) (fun x2 M2 => ?_)
  refine im_istore 1835 3150 [some (.ref (st_B + 9000)), some (.ref p1), some (.ref p2), some (.ref p3), some (.int i), some (.int x1), some (.int x2), none, none] rfl rfl rfl ?_
  refine im_aload_n 1836 3152 (tz_45 36 rfl) rfl ?_
  refine im_ci (S := []) (fun _ hv => cpV (fr' := 1) (lo' := 20) (i := 1837) (As := []) (S := []) (a := p2) (c := 11) (tz_45 37 rfl) lk_Z_161 mw_M_thrown mv_M_thrown rfl ⟨by decide, rfl⟩ rfl rfl rfl (gd_some hv).1 (sp_M_thrown G hv)) (fun x3 => ?_)
  refine im_iload 1838 3156 (tz_45 38 rfl) rfl ?_
  refine im_ic_eq 1839 3158 3163 (tz_45 39 rfl) (by decide) ?_ ?_
  · refine im_iload 1842 3163 (tz_46 2 rfl) rfl ?_
    refine im_jp (fun j3180 => im_I mi_Z_law 26 601 G M0 sw_i (j3180) 3180 [some (.ref (st_B + 9000)), some (.ref p1), some (.ref p2), some (.ref p3), some (.int i), none, none, none, none] [] M2) ?_ (fun j3180 hj3180 => ?_)
    · show im_I mi_Z_law 26 601 G M0 sw_i (_) 3180 [some (.ref (st_B + 9000)), some (.ref p1), some (.ref p2), some (.ref p3), some (.int i), none, none, none, none] [] M2
      refine im_goto 1853 3180 3255 (tz_46 13 rfl) (by decide) ?_
      exact im_less _ (by simp [lv_le]) (hj M2)
    refine im_if_ne 1843 3165 3180 (tz_46 3 rfl) (by decide) ?_ ?_
    · exact im_less _ (by simp [lv_le]) (hj3180)
    · refine im_aload_n 1844 3168 (tz_46 4 rfl) rfl ?_
      refine im_iconst 1845 3169 (tz_46 5 rfl) rfl ?_
      refine im_laload 1846 3170 (tz_46 6 rfl) (fun x4 => ?_)
      refine im_iload 1847 3171 (tz_46 7 rfl) rfl ?_
      refine im_i2l 1848 3173 (tz_46 8 rfl) ?_
      refine im_lcmp 1849 3174 (tz_46 9 rfl) ?_
      refine im_if_eq 1850 3175 3180 (tz_46 10 rfl) (by decide) ?_ ?_
      · exact im_less _ (by simp [lv_le]) (hj3180)
      · refine im_iconst 1851 3178 (tz_46 11 rfl) rfl ?_
        exact im_end rfl (wp_zreturn 1852 3179 (ty := .boolean) rfl zn_0 (tz_46 12 rfl))
  · refine im_iconst 1840 3161 (tz_46 0 rfl) rfl ?_
    exact im_end rfl (wp_zreturn 1841 3162 (ty := .boolean) rfl zn_0 (tz_46 1 rfl))

set_option maxRecDepth 100000 in
set_option maxHeartbeats 4000000 in
theorem li_c57 {G : gl_T} {M0 : mm_T} {n : Nat} {xs : Nat → Int32} (hs : sc_H G n xs) (p1 p2 p3 : Nat) (i : Int32) (jj : mm_T → Option (Int32 × mm_T)) (hj : ∀ N, im_I mi_Z_law 26 601 G M0 sw_i (jj N) 3255 [some (.ref (st_B + 9000)), some (.ref p1), some (.ref p2), some (.ref p3), some (.int i), none, none, none, none] [] N) (N : mm_T) : im_I mi_Z_law 26 601 G M0 sw_i (lw_c57 n xs p1 p2 p3 i jj N) 3183 [some (.ref (st_B + 9000)), some (.ref p1), some (.ref p2), some (.ref p3), some (.int i), none, none, none, none] [] N := by
  unfold lw_c57
  refine im_aload_n 1854 3183 (tz_46 14 rfl) rfl ?_
  refine im_aload_n 1855 3184 (tz_46 15 rfl) rfl ?_
  refine im_iload 1856 3185 (tz_46 16 rfl) rfl ?_
  refine im_iconst 1857 3187 (tz_46 17 rfl) rfl ?_
  refine im_iadd 1858 3188 (tz_46 18 rfl) ?_
  refine im_sld 1859 3189 hs (tz_46 19 rfl) (fun x1 => ?_)
  refine im_cWi (S := []) (fun _ _ hv => cpW (fr' := 7) (lo' := 112) (i := 1860) (As := [.ref p1, .int x1]) (S := []) (tz_46 20 rfl) lm_Z_355 mw_Z_saveSnapshot mv_Z_saveSnapshot rfl rfl rfl rfl (sp_Z_saveSnapshot G hv)) (fun x2 M1 => ?_)
  refine im_istore 1861 3193 [some (.ref (st_B + 9000)), some (.ref p1), some (.ref p2), some (.ref p3), some (.int i), some (.int x2), none, none, none] rfl rfl rfl ?_
  refine im_aload_n 1862 3195 (tz_46 22 rfl) rfl ?_
  refine im_aload_n 1863 3196 (tz_46 23 rfl) rfl ?_
  refine im_iload 1864 3197 (tz_46 24 rfl) rfl ?_
  refine im_iconst 1865 3199 (tz_46 25 rfl) rfl ?_
  refine im_iadd 1866 3200 (tz_46 26 rfl) ?_
  refine im_sld 1867 3201 hs (tz_46 27 rfl) (fun x3 => ?_)
  refine im_cWv (S := []) (fun _ hv => cpV (fr' := 2) (lo' := 43) (i := 1868) (As := [.int x3]) (S := []) (a := p2) (c := 11) (tz_46 28 rfl) lk_Z_358 mw_M_saveSnapshot mv_M_saveSnapshot rfl ⟨by decide, rfl⟩ rfl rfl rfl (gd_some hv).1 (sp_M_saveSnapshot G hv)) (fun M2 => ?_)
  refine im_aload_n 1869 3205 (tz_46 29 rfl) rfl ?_
  refine im_ci (S := []) (fun _ hv => cpV (fr' := 1) (lo' := 20) (i := 1870) (As := []) (S := []) (a := p2) (c := 11) (tz_46 30 rfl) lk_Z_161 mw_M_thrown mv_M_thrown rfl ⟨by decide, rfl⟩ rfl rfl rfl (gd_some hv).1 (sp_M_thrown G hv)) (fun x4 => ?_)
  refine im_iload 1871 3209 (tz_46 31 rfl) rfl ?_
  refine im_ic_eq 1872 3211 3216 (tz_46 32 rfl) (by decide) ?_ ?_
  · refine im_goto 1875 3216 3255 (tz_46 35 rfl) (by decide) ?_
    exact im_less _ (by simp [lv_le]) (hj M2)
  · refine im_iconst 1873 3214 (tz_46 33 rfl) rfl ?_
    exact im_end rfl (wp_zreturn 1874 3215 (ty := .boolean) rfl zn_0 (tz_46 34 rfl))

set_option maxRecDepth 100000 in
set_option maxHeartbeats 4000000 in
theorem li_c58 {G : gl_T} {M0 : mm_T} {n : Nat} {xs : Nat → Int32} (hs : sc_H G n xs) (p1 p2 p3 : Nat) (i : Int32) (jj : mm_T → Option (Int32 × mm_T)) (hj : ∀ N, im_I mi_Z_law 26 601 G M0 sw_i (jj N) 3255 [some (.ref (st_B + 9000)), some (.ref p1), some (.ref p2), some (.ref p3), some (.int i), none, none, none, none] [] N) (N : mm_T) : im_I mi_Z_law 26 601 G M0 sw_i (lw_c58 n xs p1 p2 p3 i jj N) 3219 [some (.ref (st_B + 9000)), some (.ref p1), some (.ref p2), some (.ref p3), some (.int i), none, none, none, none] [] N := by
  unfold lw_c58
  refine im_aload_n 1876 3219 (tz_46 36 rfl) rfl ?_
  refine im_aload_n 1877 3220 (tz_46 37 rfl) rfl ?_
  refine im_iload 1878 3221 (tz_46 38 rfl) rfl ?_
  refine im_iconst 1879 3223 (tz_46 39 rfl) rfl ?_
  refine im_iadd 1880 3224 (tz_47 0 rfl) ?_
  refine im_sld 1881 3225 hs (tz_47 1 rfl) (fun x1 => ?_)
  refine im_cWi (S := []) (fun _ _ hv => cpW (fr' := 7) (lo' := 112) (i := 1882) (As := [.ref p1, .int x1]) (S := []) (tz_47 2 rfl) lm_Z_359 mw_Z_restoreSnapshot mv_Z_restoreSnapshot rfl rfl rfl rfl (sp_Z_restoreSnapshot G hv)) (fun x2 M1 => ?_)
  refine im_istore 1883 3229 [some (.ref (st_B + 9000)), some (.ref p1), some (.ref p2), some (.ref p3), some (.int i), some (.int x2), none, none, none] rfl rfl rfl ?_
  refine im_aload_n 1884 3231 (tz_47 4 rfl) rfl ?_
  refine im_aload_n 1885 3232 (tz_47 5 rfl) rfl ?_
  refine im_iload 1886 3233 (tz_47 6 rfl) rfl ?_
  refine im_iconst 1887 3235 (tz_47 7 rfl) rfl ?_
  refine im_iadd 1888 3236 (tz_47 8 rfl) ?_
  refine im_sld 1889 3237 hs (tz_47 9 rfl) (fun x3 => ?_)
  refine im_cWv (S := []) (fun _ hv => cpV (fr' := 2) (lo' := 43) (i := 1890) (As := [.int x3]) (S := []) (a := p2) (c := 11) (tz_47 10 rfl) lk_Z_361 mw_M_restoreSnapshot mv_M_restoreSnapshot rfl ⟨by decide, rfl⟩ rfl rfl rfl (gd_some hv).1 (sp_M_restoreSnapshot G hv)) (fun M2 => ?_)
  refine im_aload_n 1891 3241 (tz_47 11 rfl) rfl ?_
  refine im_ci (S := []) (fun _ hv => cpV (fr' := 1) (lo' := 20) (i := 1892) (As := []) (S := []) (a := p2) (c := 11) (tz_47 12 rfl) lk_Z_161 mw_M_thrown mv_M_thrown rfl ⟨by decide, rfl⟩ rfl rfl rfl (gd_some hv).1 (sp_M_thrown G hv)) (fun x4 => ?_)
  refine im_iload 1893 3245 (tz_47 13 rfl) rfl ?_
  refine im_ic_eq 1894 3247 3252 (tz_47 14 rfl) (by decide) ?_ ?_
  · refine im_goto 1897 3252 3255 (tz_47 17 rfl) (by decide) ?_
    exact im_less _ (by simp [lv_le]) (hj M2)
  · refine im_iconst 1895 3250 (tz_47 15 rfl) rfl ?_
    exact im_end rfl (wp_zreturn 1896 3251 (ty := .boolean) rfl zn_0 (tz_47 16 rfl))

