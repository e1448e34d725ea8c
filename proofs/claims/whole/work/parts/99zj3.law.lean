/-! ===== the law: cases 14 to 20 (written by gen5.py) ===== -/
theorem dlw_757 : decode code 757 = .ok (.aload_n 1, 1) := by decide +kernel
theorem dlw_758 : decode code 758 = .ok (.aload_n 0, 1) := by decide +kernel
theorem dlw_759 : decode code 759 = .ok (.iload_n 3, 1) := by decide +kernel
theorem dlw_760 : decode code 760 = .ok (.iconst 1, 1) := by decide +kernel
theorem dlw_761 : decode code 761 = .ok (.iadd, 1) := by decide +kernel
theorem dlw_762 : decode code 762 = .ok (.iaload, 1) := by decide +kernel
theorem dlw_763 : decode code 763 = .ok (.aload_n 0, 1) := by decide +kernel
theorem dlw_764 : decode code 764 = .ok (.iload_n 3, 1) := by decide +kernel
theorem dlw_765 : decode code 765 = .ok (.iconst 2, 1) := by decide +kernel
theorem dlw_766 : decode code 766 = .ok (.iadd, 1) := by decide +kernel
theorem dlw_767 : decode code 767 = .ok (.iaload, 1) := by decide +kernel
theorem dlw_768 : decode code 768 = .ok (.invokevirtual 81, 3) := by decide +kernel
theorem dlw_771 : decode code 771 = .ok (.aload_n 2, 1) := by decide +kernel
theorem dlw_772 : decode code 772 = .ok (.aload_n 0, 1) := by decide +kernel
theorem dlw_773 : decode code 773 = .ok (.iload_n 3, 1) := by decide +kernel
theorem dlw_774 : decode code 774 = .ok (.iconst 1, 1) := by decide +kernel
theorem dlw_775 : decode code 775 = .ok (.iadd, 1) := by decide +kernel
theorem dlw_776 : decode code 776 = .ok (.iaload, 1) := by decide +kernel
theorem dlw_777 : decode code 777 = .ok (.aload_n 0, 1) := by decide +kernel
theorem dlw_778 : decode code 778 = .ok (.iload_n 3, 1) := by decide +kernel
theorem dlw_779 : decode code 779 = .ok (.iconst 2, 1) := by decide +kernel
theorem dlw_780 : decode code 780 = .ok (.iadd, 1) := by decide +kernel
theorem dlw_781 : decode code 781 = .ok (.iaload, 1) := by decide +kernel
theorem dlw_782 : decode code 782 = .ok (.invokevirtual 85, 3) := by decide +kernel
theorem dlw_785 : decode code 785 = .ok (.if_icmp .eq 803, 3) := by decide +kernel
theorem lc_14 {l : Launch} {g : GG} {p : Program} {e : Env} {s : State} {m : MethodId} {b : Nat} {below : List Frame} {meth : Method} {c : Code} {Lc : Nat} {xs : Nat → Int32} {σ : SG} {k : Nat} (cx : LC g p s m b meth c Lc xs) (hk : k + 6 ≤ Lc) (hI : IVT σ) (nx : ∀ σ2, IVT σ2 → LX l g p e s m b below meth c 1588 [vA (-33), vA 0, vA 161, vI k] [] σ2) : LX l g p e s m b below meth c 757 [vA (-33), vA 0, vA 161, vI k] [] σ := by
  refine LX_aload_n cx dlw_757 rfl (by omega) ?_
  refine LX_arg cx (n := 1) rfl (by omega) dlw_758 dlw_759 dlw_760 dlw_761 dlw_762 ?_
  refine LX_arg cx (n := 2) rfl (by omega) dlw_763 dlw_764 dlw_765 dlw_766 dlw_767 ?_
  refine LX_callVI cx (d := 30) (N := M_X_bracket) (As := [vI ((xs (k + 1)).toInt), vI ((xs (k + 2)).toInt)]) rfl cv_X_bracket rfl (tk4 67 rfl rfl) rfl (Nat.le_of_ble_eq_true rfl) (by decide) dlw_768 ob_0 ((c_bracket (d := 0) hI).mono (fun r1 σ1 h1 => ?_))
  refine LX_aload_n cx dlw_771 rfl (by omega) ?_
  refine LX_arg cx (n := 1) rfl (by omega) dlw_772 dlw_773 dlw_774 dlw_775 dlw_776 ?_
  refine LX_arg cx (n := 2) rfl (by omega) dlw_777 dlw_778 dlw_779 dlw_780 dlw_781 ?_
  refine LX_callVI cx (d := 30) (N := M_R_bracket) (As := [vI ((xs (k + 1)).toInt), vI ((xs (k + 2)).toInt)]) rfl cv_R_bracket rfl (tk8 137 rfl rfl) rfl (Nat.le_of_ble_eq_true rfl) (by decide) dlw_782 ob_161 (h1.mono (fun r2 σ2 h2 => ?_))
  exact LX_icmp_eq cx (tgt := 1588) dlw_785 (by omega) h2.1 (nx σ2 h2.2)
theorem dlw_790 : decode code 790 = .ok (.aload_n 1, 1) := by decide +kernel
theorem dlw_791 : decode code 791 = .ok (.invokevirtual 86, 3) := by decide +kernel
theorem dlw_794 : decode code 794 = .ok (.aload_n 2, 1) := by decide +kernel
theorem dlw_795 : decode code 795 = .ok (.invokevirtual 89, 3) := by decide +kernel
theorem dlw_798 : decode code 798 = .ok (.if_icmp .eq 790, 3) := by decide +kernel
theorem lc_15 {l : Launch} {g : GG} {p : Program} {e : Env} {s : State} {m : MethodId} {b : Nat} {below : List Frame} {meth : Method} {c : Code} {Lc : Nat} {xs : Nat → Int32} {σ : SG} {k : Nat} (cx : LC g p s m b meth c Lc xs) (hk : k + 6 ≤ Lc) (hI : IVT σ) (nx : ∀ σ2, IVT σ2 → LX l g p e s m b below meth c 1588 [vA (-33), vA 0, vA 161, vI k] [] σ2) : LX l g p e s m b below meth c 790 [vA (-33), vA 0, vA 161, vI k] [] σ := by
  refine LX_aload_n cx dlw_790 rfl (by omega) ?_
  refine LX_callVI cx (d := 30) (N := M_X_lawful) (As := []) rfl cv_X_lawful rfl (tk4 101 rfl rfl) rfl (Nat.le_of_ble_eq_true rfl) (by decide) dlw_791 ob_0 ((c_lawful (d := 0) hI).mono (fun r1 σ1 h1 => ?_))
  refine LX_aload_n cx dlw_794 rfl (by omega) ?_
  refine LX_callVI cx (d := 30) (N := M_R_lawful) (As := []) rfl cv_R_lawful rfl (tk8 165 rfl rfl) rfl (Nat.le_of_ble_eq_true rfl) (by decide) dlw_795 ob_161 (h1.mono (fun r2 σ2 h2 => ?_))
  exact LX_icmp_eq cx (tgt := 1588) dlw_798 (by omega) h2.1 (nx σ2 h2.2)
theorem dlw_803 : decode code 803 = .ok (.aload_n 1, 1) := by decide +kernel
theorem dlw_804 : decode code 804 = .ok (.aload_n 0, 1) := by decide +kernel
theorem dlw_805 : decode code 805 = .ok (.iload_n 3, 1) := by decide +kernel
theorem dlw_806 : decode code 806 = .ok (.iconst 1, 1) := by decide +kernel
theorem dlw_807 : decode code 807 = .ok (.iadd, 1) := by decide +kernel
theorem dlw_808 : decode code 808 = .ok (.iaload, 1) := by decide +kernel
theorem dlw_809 : decode code 809 = .ok (.invokevirtual 90, 3) := by decide +kernel
theorem dlw_812 : decode code 812 = .ok (.aload_n 2, 1) := by decide +kernel
theorem dlw_813 : decode code 813 = .ok (.aload_n 0, 1) := by decide +kernel
theorem dlw_814 : decode code 814 = .ok (.iload_n 3, 1) := by decide +kernel
theorem dlw_815 : decode code 815 = .ok (.iconst 1, 1) := by decide +kernel
theorem dlw_816 : decode code 816 = .ok (.iadd, 1) := by decide +kernel
theorem dlw_817 : decode code 817 = .ok (.iaload, 1) := by decide +kernel
theorem dlw_818 : decode code 818 = .ok (.invokevirtual 93, 3) := by decide +kernel
theorem dlw_821 : decode code 821 = .ok (.if_icmp .eq 767, 3) := by decide +kernel
theorem lc_16 {l : Launch} {g : GG} {p : Program} {e : Env} {s : State} {m : MethodId} {b : Nat} {below : List Frame} {meth : Method} {c : Code} {Lc : Nat} {xs : Nat → Int32} {σ : SG} {k : Nat} (cx : LC g p s m b meth c Lc xs) (hk : k + 6 ≤ Lc) (hI : IVT σ) (nx : ∀ σ2, IVT σ2 → LX l g p e s m b below meth c 1588 [vA (-33), vA 0, vA 161, vI k] [] σ2) : LX l g p e s m b below meth c 803 [vA (-33), vA 0, vA 161, vI k] [] σ := by
  refine LX_aload_n cx dlw_803 rfl (by omega) ?_
  refine LX_arg cx (n := 1) rfl (by omega) dlw_804 dlw_805 dlw_806 dlw_807 dlw_808 ?_
  refine LX_callVI cx (d := 30) (N := M_X_failing) (As := [vI ((xs (k + 1)).toInt)]) rfl cv_X_failing rfl (tk4 113 rfl rfl) rfl (Nat.le_of_ble_eq_true rfl) (by decide) dlw_809 ob_0 ((c_failing (d := 0) hI).mono (fun r1 σ1 h1 => ?_))
  refine LX_aload_n cx dlw_812 rfl (by omega) ?_
  refine LX_arg cx (n := 1) rfl (by omega) dlw_813 dlw_814 dlw_815 dlw_816 dlw_817 ?_
  refine LX_callVI cx (d := 30) (N := M_R_failing) (As := [vI ((xs (k + 1)).toInt)]) rfl cv_R_failing rfl (tk8 189 rfl rfl) rfl (Nat.le_of_ble_eq_true rfl) (by decide) dlw_818 ob_161 (h1.mono (fun r2 σ2 h2 => ?_))
  exact LX_icmp_eq cx (tgt := 1588) dlw_821 (by omega) h2.1 (nx σ2 h2.2)
theorem dlw_826 : decode code 826 = .ok (.aload_n 1, 1) := by decide +kernel
theorem dlw_827 : decode code 827 = .ok (.aload_n 0, 1) := by decide +kernel
theorem dlw_828 : decode code 828 = .ok (.iload_n 3, 1) := by decide +kernel
theorem dlw_829 : decode code 829 = .ok (.iconst 1, 1) := by decide +kernel
theorem dlw_830 : decode code 830 = .ok (.iadd, 1) := by decide +kernel
theorem dlw_831 : decode code 831 = .ok (.iaload, 1) := by decide +kernel
theorem dlw_832 : decode code 832 = .ok (.invokevirtual 94, 3) := by decide +kernel
theorem dlw_835 : decode code 835 = .ok (.aload_n 2, 1) := by decide +kernel
theorem dlw_836 : decode code 836 = .ok (.aload_n 0, 1) := by decide +kernel
theorem dlw_837 : decode code 837 = .ok (.iload_n 3, 1) := by decide +kernel
theorem dlw_838 : decode code 838 = .ok (.iconst 1, 1) := by decide +kernel
theorem dlw_839 : decode code 839 = .ok (.iadd, 1) := by decide +kernel
theorem dlw_840 : decode code 840 = .ok (.iaload, 1) := by decide +kernel
theorem dlw_841 : decode code 841 = .ok (.invokevirtual 98, 3) := by decide +kernel
theorem dlw_844 : decode code 844 = .ok (.if_icmp .eq 744, 3) := by decide +kernel
theorem lc_17 {l : Launch} {g : GG} {p : Program} {e : Env} {s : State} {m : MethodId} {b : Nat} {below : List Frame} {meth : Method} {c : Code} {Lc : Nat} {xs : Nat → Int32} {σ : SG} {k : Nat} (cx : LC g p s m b meth c Lc xs) (hk : k + 6 ≤ Lc) (hI : IVT σ) (nx : ∀ σ2, IVT σ2 → LX l g p e s m b below meth c 1588 [vA (-33), vA 0, vA 161, vI k] [] σ2) : LX l g p e s m b below meth c 826 [vA (-33), vA 0, vA 161, vI k] [] σ := by
  refine LX_aload_n cx dlw_826 rfl (by omega) ?_
  refine LX_arg cx (n := 1) rfl (by omega) dlw_827 dlw_828 dlw_829 dlw_830 dlw_831 ?_
  refine LX_callVI cx (d := 30) (N := M_X_keep) (As := [vI ((xs (k + 1)).toInt)]) rfl cv_X_keep rfl (tk4 117 rfl rfl) rfl (Nat.le_of_ble_eq_true rfl) (by decide) dlw_832 ob_0 ((c_keep (d := 0) hI).mono (fun r1 σ1 h1 => ?_))
  refine LX_aload_n cx dlw_835 rfl (by omega) ?_
  refine LX_arg cx (n := 1) rfl (by omega) dlw_836 dlw_837 dlw_838 dlw_839 dlw_840 ?_
  refine LX_callVI cx (d := 30) (N := M_R_keep) (As := [vI ((xs (k + 1)).toInt)]) rfl cv_R_keep rfl (tk8 194 rfl rfl) rfl (Nat.le_of_ble_eq_true rfl) (by decide) dlw_841 ob_161 (h1.mono (fun r2 σ2 h2 => ?_))
  exact LX_icmp_eq cx (tgt := 1588) dlw_844 (by omega) h2.1 (nx σ2 h2.2)
theorem dlw_849 : decode code 849 = .ok (.aload_n 1, 1) := by decide +kernel
theorem dlw_850 : decode code 850 = .ok (.aload_n 0, 1) := by decide +kernel
theorem dlw_851 : decode code 851 = .ok (.iload_n 3, 1) := by decide +kernel
theorem dlw_852 : decode code 852 = .ok (.iconst 1, 1) := by decide +kernel
theorem dlw_853 : decode code 853 = .ok (.iadd, 1) := by decide +kernel
theorem dlw_854 : decode code 854 = .ok (.iaload, 1) := by decide +kernel
theorem dlw_855 : decode code 855 = .ok (.invokevirtual 99, 3) := by decide +kernel
theorem dlw_858 : decode code 858 = .ok (.aload_n 2, 1) := by decide +kernel
theorem dlw_859 : decode code 859 = .ok (.aload_n 0, 1) := by decide +kernel
theorem dlw_860 : decode code 860 = .ok (.iload_n 3, 1) := by decide +kernel
theorem dlw_861 : decode code 861 = .ok (.iconst 1, 1) := by decide +kernel
theorem dlw_862 : decode code 862 = .ok (.iadd, 1) := by decide +kernel
theorem dlw_863 : decode code 863 = .ok (.iaload, 1) := by decide +kernel
theorem dlw_864 : decode code 864 = .ok (.invokevirtual 102, 3) := by decide +kernel
theorem dlw_867 : decode code 867 = .ok (.if_icmp .eq 721, 3) := by decide +kernel
theorem lc_18 {l : Launch} {g : GG} {p : Program} {e : Env} {s : State} {m : MethodId} {b : Nat} {below : List Frame} {meth : Method} {c : Code} {Lc : Nat} {xs : Nat → Int32} {σ : SG} {k : Nat} (cx : LC g p s m b meth c Lc xs) (hk : k + 6 ≤ Lc) (hI : IVT σ) (nx : ∀ σ2, IVT σ2 → LX l g p e s m b below meth c 1588 [vA (-33), vA 0, vA 161, vI k] [] σ2) : LX l g p e s m b below meth c 849 [vA (-33), vA 0, vA 161, vI k] [] σ := by
  refine LX_aload_n cx dlw_849 rfl (by omega) ?_
  refine LX_arg cx (n := 1) rfl (by omega) dlw_850 dlw_851 dlw_852 dlw_853 dlw_854 ?_
  refine LX_callVI cx (d := 30) (N := M_X_take) (As := [vI ((xs (k + 1)).toInt)]) rfl cv_X_take rfl (tk4 126 rfl rfl) rfl (Nat.le_of_ble_eq_true rfl) (by decide) dlw_855 ob_0 ((c_take (d := 0) hI).mono (fun r1 σ1 h1 => ?_))
  refine LX_aload_n cx dlw_858 rfl (by omega) ?_
  refine LX_arg cx (n := 1) rfl (by omega) dlw_859 dlw_860 dlw_861 dlw_862 dlw_863 ?_
  refine LX_callVI cx (d := 30) (N := M_R_take) (As := [vI ((xs (k + 1)).toInt)]) rfl cv_R_take rfl (tk8 201 rfl rfl) rfl (Nat.le_of_ble_eq_true rfl) (by decide) dlw_864 ob_161 (h1.mono (fun r2 σ2 h2 => ?_))
  exact LX_icmp_eq cx (tgt := 1588) dlw_867 (by omega) h2.1 (nx σ2 h2.2)
theorem dlw_872 : decode code 872 = .ok (.aload_n 1, 1) := by decide +kernel
theorem dlw_873 : decode code 873 = .ok (.aload_n 0, 1) := by decide +kernel
theorem dlw_874 : decode code 874 = .ok (.iload_n 3, 1) := by decide +kernel
theorem dlw_875 : decode code 875 = .ok (.iconst 1, 1) := by decide +kernel
theorem dlw_876 : decode code 876 = .ok (.iadd, 1) := by decide +kernel
theorem dlw_877 : decode code 877 = .ok (.iaload, 1) := by decide +kernel
theorem dlw_878 : decode code 878 = .ok (.aload_n 0, 1) := by decide +kernel
theorem dlw_879 : decode code 879 = .ok (.iload_n 3, 1) := by decide +kernel
theorem dlw_880 : decode code 880 = .ok (.iconst 2, 1) := by decide +kernel
theorem dlw_881 : decode code 881 = .ok (.iadd, 1) := by decide +kernel
theorem dlw_882 : decode code 882 = .ok (.iaload, 1) := by decide +kernel
theorem dlw_883 : decode code 883 = .ok (.aload_n 0, 1) := by decide +kernel
theorem dlw_884 : decode code 884 = .ok (.iload_n 3, 1) := by decide +kernel
theorem dlw_885 : decode code 885 = .ok (.iconst 3, 1) := by decide +kernel
theorem dlw_886 : decode code 886 = .ok (.iadd, 1) := by decide +kernel
theorem dlw_887 : decode code 887 = .ok (.iaload, 1) := by decide +kernel
theorem dlw_888 : decode code 888 = .ok (.invokevirtual 103, 3) := by decide +kernel
theorem dlw_891 : decode code 891 = .ok (.aload_n 2, 1) := by decide +kernel
theorem dlw_892 : decode code 892 = .ok (.aload_n 0, 1) := by decide +kernel
theorem dlw_893 : decode code 893 = .ok (.iload_n 3, 1) := by decide +kernel
theorem dlw_894 : decode code 894 = .ok (.iconst 1, 1) := by decide +kernel
theorem dlw_895 : decode code 895 = .ok (.iadd, 1) := by decide +kernel
theorem dlw_896 : decode code 896 = .ok (.iaload, 1) := by decide +kernel
theorem dlw_897 : decode code 897 = .ok (.aload_n 0, 1) := by decide +kernel
theorem dlw_898 : decode code 898 = .ok (.iload_n 3, 1) := by decide +kernel
theorem dlw_899 : decode code 899 = .ok (.iconst 2, 1) := by decide +kernel
theorem dlw_900 : decode code 900 = .ok (.iadd, 1) := by decide +kernel
theorem dlw_901 : decode code 901 = .ok (.iaload, 1) := by decide +kernel
theorem dlw_902 : decode code 902 = .ok (.aload_n 0, 1) := by decide +kernel
theorem dlw_903 : decode code 903 = .ok (.iload_n 3, 1) := by decide +kernel
theorem dlw_904 : decode code 904 = .ok (.iconst 3, 1) := by decide +kernel
theorem dlw_905 : decode code 905 = .ok (.iadd, 1) := by decide +kernel
theorem dlw_906 : decode code 906 = .ok (.iaload, 1) := by decide +kernel
theorem dlw_907 : decode code 907 = .ok (.invokevirtual 106, 3) := by decide +kernel
theorem dlw_910 : decode code 910 = .ok (.if_icmp .eq 678, 3) := by decide +kernel
theorem lc_19 {l : Launch} {g : GG} {p : Program} {e : Env} {s : State} {m : MethodId} {b : Nat} {below : List Frame} {meth : Method} {c : Code} {Lc : Nat} {xs : Nat → Int32} {σ : SG} {k : Nat} (cx : LC g p s m b meth c Lc xs) (hk : k + 6 ≤ Lc) (hI : IVT σ) (nx : ∀ σ2, IVT σ2 → LX l g p e s m b below meth c 1588 [vA (-33), vA 0, vA 161, vI k] [] σ2) : LX l g p e s m b below meth c 872 [vA (-33), vA 0, vA 161, vI k] [] σ := by
  refine LX_aload_n cx dlw_872 rfl (by omega) ?_
  refine LX_arg cx (n := 1) rfl (by omega) dlw_873 dlw_874 dlw_875 dlw_876 dlw_877 ?_
  refine LX_arg cx (n := 2) rfl (by omega) dlw_878 dlw_879 dlw_880 dlw_881 dlw_882 ?_
  refine LX_arg cx (n := 3) rfl (by omega) dlw_883 dlw_884 dlw_885 dlw_886 dlw_887 ?_
  refine LX_callVI cx (d := 30) (N := M_X_span) (As := [vI ((xs (k + 1)).toInt), vI ((xs (k + 2)).toInt), vI ((xs (k + 3)).toInt)]) rfl cv_X_span rfl (tk4 134 rfl rfl) rfl (Nat.le_of_ble_eq_true rfl) (by decide) dlw_888 ob_0 ((c_span (d := 0) hI).mono (fun r1 σ1 h1 => ?_))
  refine LX_aload_n cx dlw_891 rfl (by omega) ?_
  refine LX_arg cx (n := 1) rfl (by omega) dlw_892 dlw_893 dlw_894 dlw_895 dlw_896 ?_
  refine LX_arg cx (n := 2) rfl (by omega) dlw_897 dlw_898 dlw_899 dlw_900 dlw_901 ?_
  refine LX_arg cx (n := 3) rfl (by omega) dlw_902 dlw_903 dlw_904 dlw_905 dlw_906 ?_
  refine LX_callVI cx (d := 30) (N := M_R_span) (As := [vI ((xs (k + 1)).toInt), vI ((xs (k + 2)).toInt), vI ((xs (k + 3)).toInt)]) rfl cv_R_span rfl (tk8 209 rfl rfl) rfl (Nat.le_of_ble_eq_true rfl) (by decide) dlw_907 ob_161 (h1.mono (fun r2 σ2 h2 => ?_))
  exact LX_icmp_eq cx (tgt := 1588) dlw_910 (by omega) h2.1 (nx σ2 h2.2)
theorem dlw_915 : decode code 915 = .ok (.aload_n 1, 1) := by decide +kernel
theorem dlw_916 : decode code 916 = .ok (.aload_n 0, 1) := by decide +kernel
theorem dlw_917 : decode code 917 = .ok (.iload_n 3, 1) := by decide +kernel
theorem dlw_918 : decode code 918 = .ok (.iconst 1, 1) := by decide +kernel
theorem dlw_919 : decode code 919 = .ok (.iadd, 1) := by decide +kernel
theorem dlw_920 : decode code 920 = .ok (.iaload, 1) := by decide +kernel
theorem dlw_921 : decode code 921 = .ok (.invokevirtual 107, 3) := by decide +kernel
theorem dlw_924 : decode code 924 = .ok (.aload_n 2, 1) := by decide +kernel
theorem dlw_925 : decode code 925 = .ok (.aload_n 0, 1) := by decide +kernel
theorem dlw_926 : decode code 926 = .ok (.iload_n 3, 1) := by decide +kernel
theorem dlw_927 : decode code 927 = .ok (.iconst 1, 1) := by decide +kernel
theorem dlw_928 : decode code 928 = .ok (.iadd, 1) := by decide +kernel
theorem dlw_929 : decode code 929 = .ok (.iaload, 1) := by decide +kernel
theorem dlw_930 : decode code 930 = .ok (.invokevirtual 110, 3) := by decide +kernel
theorem dlw_933 : decode code 933 = .ok (.if_icmp .eq 655, 3) := by decide +kernel
theorem lc_20 {l : Launch} {g : GG} {p : Program} {e : Env} {s : State} {m : MethodId} {b : Nat} {below : List Frame} {meth : Method} {c : Code} {Lc : Nat} {xs : Nat → Int32} {σ : SG} {k : Nat} (cx : LC g p s m b meth c Lc xs) (hk : k + 6 ≤ Lc) (hI : IVT σ) (nx : ∀ σ2, IVT σ2 → LX l g p e s m b below meth c 1588 [vA (-33), vA 0, vA 161, vI k] [] σ2) : LX l g p e s m b below meth c 915 [vA (-33), vA 0, vA 161, vI k] [] σ := by
  refine LX_aload_n cx dlw_915 rfl (by omega) ?_
  refine LX_arg cx (n := 1) rfl (by omega) dlw_916 dlw_917 dlw_918 dlw_919 dlw_920 ?_
  refine LX_callVI cx (d := 30) (N := M_X_derived) (As := [vI ((xs (k + 1)).toInt)]) rfl cv_X_derived rfl (tk4 184 rfl rfl) rfl (Nat.le_of_ble_eq_true rfl) (by decide) dlw_921 ob_0 ((c_derived (d := 0) hI).mono (fun r1 σ1 h1 => ?_))
  refine LX_aload_n cx dlw_924 rfl (by omega) ?_
  refine LX_arg cx (n := 1) rfl (by omega) dlw_925 dlw_926 dlw_927 dlw_928 dlw_929 ?_
  refine LX_callVI cx (d := 30) (N := M_R_derived) (As := [vI ((xs (k + 1)).toInt)]) rfl cv_R_derived rfl (tk9 10 rfl rfl) rfl (Nat.le_of_ble_eq_true rfl) (by decide) dlw_930 ob_161 (h1.mono (fun r2 σ2 h2 => ?_))
  exact LX_icmp_eq cx (tgt := 1588) dlw_933 (by omega) h2.1 (nx σ2 h2.2)
