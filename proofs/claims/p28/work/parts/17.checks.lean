/-! ===== every table row is what the class files say ===== -/
def xmOK (j : Nat) : Prop := xall (xck (xo j) (decide ((xy j).name = "<init>")) (xhr j).isEmpty (xr j) (xb j)) 0 (xtb j) = true
theorem xm_0 : xmOK 0 := by
  unfold xmOK
  decide +kernel
theorem xm_1 : xmOK 1 := by
  unfold xmOK
  decide +kernel
theorem xm_2 : xmOK 2 := by
  unfold xmOK
  decide +kernel
theorem xm_3 : xmOK 3 := by
  unfold xmOK
  decide +kernel
theorem xm_4 : xmOK 4 := by
  unfold xmOK
  decide +kernel
theorem xm_5 : xmOK 5 := by
  unfold xmOK
  decide +kernel
theorem xm_6 : xmOK 6 := by
  unfold xmOK
  decide +kernel
theorem xm_7 : xmOK 7 := by
  unfold xmOK
  decide +kernel
theorem xm_8 : xmOK 8 := by
  unfold xmOK
  decide +kernel
theorem xm_9 : xmOK 9 := by
  unfold xmOK
  decide +kernel
theorem xm_10 : xmOK 10 := by
  unfold xmOK
  decide +kernel
theorem xm_11 : xmOK 11 := by
  unfold xmOK
  decide +kernel
theorem xm_12 : xmOK 12 := by
  unfold xmOK
  decide +kernel
theorem xm_13 : xmOK 13 := by
  unfold xmOK
  decide +kernel
theorem xm_14 : xmOK 14 := by
  unfold xmOK
  decide +kernel
theorem xm_15 : xmOK 15 := by
  unfold xmOK
  decide +kernel
theorem xm_16 : xmOK 16 := by
  unfold xmOK
  decide +kernel
theorem xm_17 : xmOK 17 := by
  unfold xmOK
  decide +kernel
theorem xm_18 : xmOK 18 := by
  unfold xmOK
  decide +kernel
theorem xm_19 : xmOK 19 := by
  unfold xmOK
  decide +kernel
theorem xm_20 : xmOK 20 := by
  unfold xmOK
  decide +kernel
theorem xm_21 : xmOK 21 := by
  unfold xmOK
  decide +kernel
theorem xm_22 : xmOK 22 := by
  unfold xmOK
  decide +kernel
theorem xm_23 : xmOK 23 := by
  unfold xmOK
  decide +kernel
theorem xm_24 : xmOK 24 := by
  unfold xmOK
  decide +kernel
theorem xm_25 : xmOK 25 := by
  unfold xmOK
  decide +kernel
theorem xm_26 : xmOK 26 := by
  unfold xmOK
  decide +kernel
theorem xm_27 : xmOK 27 := by
  unfold xmOK
  decide +kernel
theorem xm_28 : xmOK 28 := by
  unfold xmOK
  decide +kernel
theorem xm_29 : xmOK 29 := by
  unfold xmOK
  decide +kernel
theorem xm_30 : xmOK 30 := by
  unfold xmOK
  decide +kernel
theorem xm_31 : xmOK 31 := by
  unfold xmOK
  decide +kernel
theorem xm_32 : xmOK 32 := by
  unfold xmOK
  decide +kernel
theorem xm_33 : xmOK 33 := by
  unfold xmOK
  decide +kernel
theorem xm_34 : xmOK 34 := by
  unfold xmOK
  decide +kernel
theorem xm_35 : xmOK 35 := by
  unfold xmOK
  decide +kernel
theorem xm_36 : xmOK 36 := by
  unfold xmOK
  decide +kernel
theorem xm_37 : xmOK 37 := by
  unfold xmOK
  decide +kernel
theorem xm_38 : xmOK 38 := by
  unfold xmOK
  decide +kernel
theorem xm_39 : xmOK 39 := by
  unfold xmOK
  decide +kernel
theorem xm_40 : xmOK 40 := by
  unfold xmOK
  decide +kernel
theorem xm_41 : xmOK 41 := by
  unfold xmOK
  decide +kernel
theorem xm_42 : xmOK 42 := by
  unfold xmOK
  decide +kernel
theorem xm_43 : xmOK 43 := by
  unfold xmOK
  decide +kernel
theorem xm_44 : xmOK 44 := by
  unfold xmOK
  decide +kernel
theorem xm_45 : xmOK 45 := by
  unfold xmOK
  decide +kernel
theorem xm_46 : xmOK 46 := by
  unfold xmOK
  decide +kernel
theorem xm_47 : xmOK 47 := by
  unfold xmOK
  decide +kernel
theorem xm_48 : xmOK 48 := by
  unfold xmOK
  decide +kernel
theorem xm_49 : xmOK 49 := by
  unfold xmOK
  decide +kernel
theorem xm_50 : xmOK 50 := by
  unfold xmOK
  decide +kernel
theorem xm_51 : xmOK 51 := by
  unfold xmOK
  decide +kernel
theorem xm_52 : xmOK 52 := by
  unfold xmOK
  decide +kernel
theorem xm_53 : xmOK 53 := by
  unfold xmOK
  decide +kernel
theorem xm_54 : xmOK 54 := by
  unfold xmOK
  decide +kernel
theorem xm_55 : xmOK 55 := by
  unfold xmOK
  decide +kernel
theorem xm_56 : xmOK 56 := by
  unfold xmOK
  decide +kernel
theorem xm_57 : xmOK 57 := by
  unfold xmOK
  decide +kernel
theorem xm_58 : xmOK 58 := by
  unfold xmOK
  decide +kernel
theorem xm_59 : xmOK 59 := by
  unfold xmOK
  decide +kernel
theorem xm_60 : xmOK 60 := by
  unfold xmOK
  decide +kernel
theorem xm_61 : xmOK 61 := by
  unfold xmOK
  decide +kernel
theorem xm_62 : xmOK 62 := by
  unfold xmOK
  decide +kernel
theorem xm_63 : xmOK 63 := by
  unfold xmOK
  decide +kernel
theorem xm_64 : xmOK 64 := by
  unfold xmOK
  decide +kernel
theorem xm_65 : xmOK 65 := by
  unfold xmOK
  decide +kernel
theorem xm_66 : xmOK 66 := by
  unfold xmOK
  decide +kernel
theorem xm_67 : xmOK 67 := by
  unfold xmOK
  decide +kernel
theorem xm_68 : xmOK 68 := by
  unfold xmOK
  decide +kernel
theorem xm_69 : xmOK 69 := by
  unfold xmOK
  decide +kernel
theorem xm_70 : xmOK 70 := by
  unfold xmOK
  decide +kernel
theorem xm_71 : xmOK 71 := by
  unfold xmOK
  decide +kernel
theorem xm_72 : xmOK 72 := by
  unfold xmOK
  decide +kernel
theorem xm_73 : xmOK 73 := by
  unfold xmOK
  decide +kernel
theorem xm_74 : xmOK 74 := by
  unfold xmOK
  decide +kernel
theorem xm_75 : xmOK 75 := by
  unfold xmOK
  decide +kernel
theorem xm_76 : xmOK 76 := by
  unfold xmOK
  decide +kernel
theorem xm_77 : xmOK 77 := by
  unfold xmOK
  decide +kernel
theorem xm_78 : xmOK 78 := by
  unfold xmOK
  decide +kernel
theorem xm_79 : xmOK 79 := by
  unfold xmOK
  decide +kernel
theorem xm_80 : xmOK 80 := by
  unfold xmOK
  decide +kernel
theorem xm_81 : xmOK 81 := by
  unfold xmOK
  decide +kernel
theorem xm_82 : xmOK 82 := by
  unfold xmOK
  decide +kernel
theorem xm_83 : xmOK 83 := by
  unfold xmOK
  decide +kernel
theorem xm_84 : xmOK 84 := by
  unfold xmOK
  decide +kernel
theorem xm_85 : xmOK 85 := by
  unfold xmOK
  decide +kernel
theorem xm_86 : xmOK 86 := by
  unfold xmOK
  decide +kernel
theorem xm_87 : xmOK 87 := by
  unfold xmOK
  decide +kernel
theorem xm_88 : xmOK 88 := by
  unfold xmOK
  decide +kernel
theorem xm_89 : xmOK 89 := by
  unfold xmOK
  decide +kernel
theorem xm_90 : xmOK 90 := by
  unfold xmOK
  decide +kernel
theorem xm_91 : xmOK 91 := by
  unfold xmOK
  decide +kernel
theorem xm_92 : xmOK 92 := by
  unfold xmOK
  decide +kernel
theorem xm_93 : xmOK 93 := by
  unfold xmOK
  decide +kernel
theorem xm_94 : xmOK 94 := by
  unfold xmOK
  decide +kernel
theorem xm_95 : xmOK 95 := by
  unfold xmOK
  decide +kernel
theorem xm_96 : xmOK 96 := by
  unfold xmOK
  decide +kernel
theorem xm_97 : xmOK 97 := by
  unfold xmOK
  decide +kernel
theorem xm_98 : xmOK 98 := by
  unfold xmOK
  decide +kernel
theorem xm_99 : xmOK 99 := by
  unfold xmOK
  decide +kernel
theorem xm_100 : xmOK 100 := by
  unfold xmOK
  decide +kernel
theorem xm_101 : xmOK 101 := by
  unfold xmOK
  decide +kernel
theorem xm_102 : xmOK 102 := by
  unfold xmOK
  decide +kernel
theorem xm_103 : xmOK 103 := by
  unfold xmOK
  decide +kernel
theorem xm_104 : xmOK 104 := by
  unfold xmOK
  decide +kernel
theorem xm_105 : xmOK 105 := by
  unfold xmOK
  decide +kernel
theorem xm_106 : xmOK 106 := by
  unfold xmOK
  decide +kernel
theorem xm_107 : xmOK 107 := by
  unfold xmOK
  decide +kernel
theorem xm_108 : xmOK 108 := by
  unfold xmOK
  decide +kernel
theorem xm_109 : xmOK 109 := by
  unfold xmOK
  decide +kernel
theorem xm_110 : xmOK 110 := by
  unfold xmOK
  decide +kernel
theorem xm_111 : xmOK 111 := by
  unfold xmOK
  decide +kernel
theorem xm_112 : xmOK 112 := by
  unfold xmOK
  decide +kernel
theorem xm_113 : xmOK 113 := by
  unfold xmOK
  decide +kernel
theorem xm_114 : xmOK 114 := by
  unfold xmOK
  decide +kernel
theorem xm_115 : xmOK 115 := by
  unfold xmOK
  decide +kernel
theorem xm_116 : xmOK 116 := by
  unfold xmOK
  decide +kernel
theorem xm_117 : xmOK 117 := by
  unfold xmOK
  decide +kernel
theorem xm_118 : xmOK 118 := by
  unfold xmOK
  decide +kernel
theorem xm_119 : xmOK 119 := by
  unfold xmOK
  decide +kernel
theorem xm_all : xAll xmOK 120 := ⟨xm_119, xm_118, xm_117, xm_116, xm_115, xm_114, xm_113, xm_112, xm_111, xm_110, xm_109, xm_108, xm_107, xm_106, xm_105, xm_104, xm_103, xm_102, xm_101, xm_100, xm_99, xm_98, xm_97, xm_96, xm_95, xm_94, xm_93, xm_92, xm_91, xm_90, xm_89, xm_88, xm_87, xm_86, xm_85, xm_84, xm_83, xm_82, xm_81, xm_80, xm_79, xm_78, xm_77, xm_76, xm_75, xm_74, xm_73, xm_72, xm_71, xm_70, xm_69, xm_68, xm_67, xm_66, xm_65, xm_64, xm_63, xm_62, xm_61, xm_60, xm_59, xm_58, xm_57, xm_56, xm_55, xm_54, xm_53, xm_52, xm_51, xm_50, xm_49, xm_48, xm_47, xm_46, xm_45, xm_44, xm_43, xm_42, xm_41, xm_40, xm_39, xm_38, xm_37, xm_36, xm_35, xm_34, xm_33, xm_32, xm_31, xm_30, xm_29, xm_28, xm_27, xm_26, xm_25, xm_24, xm_23, xm_22, xm_21, xm_20, xm_19, xm_18, xm_17, xm_16, xm_15, xm_14, xm_13, xm_12, xm_11, xm_10, xm_9, xm_8, xm_7, xm_6, xm_5, xm_4, xm_3, xm_2, xm_1, xm_0, trivial⟩
def xhP (j : Nat) : Prop := xhOK (xo j) (xb j) (xhs j) (xhr j)
theorem xh_0 : xhP 0 := trivial
theorem xh_1 : xhP 1 := trivial
theorem xh_2 : xhP 2 := trivial
theorem xh_3 : xhP 3 := trivial
theorem xh_4 : xhP 4 := trivial
theorem xh_5 : xhP 5 := trivial
theorem xh_6 : xhP 6 := trivial
theorem xh_7 : xhP 7 := trivial
theorem xh_8 : xhP 8 := trivial
theorem xh_9 : xhP 9 := trivial
theorem xh_10 : xhP 10 := trivial
theorem xh_11 : xhP 11 := trivial
theorem xh_12 : xhP 12 := trivial
theorem xh_13 : xhP 13 := trivial
theorem xh_14 : xhP 14 := trivial
theorem xh_15 : xhP 15 := trivial
theorem xh_16 : xhP 16 := trivial
theorem xh_17 : xhP 17 := trivial
theorem xh_18 : xhP 18 := trivial
theorem xh_19 : xhP 19 := trivial
theorem xh_20 : xhP 20 := trivial
theorem xh_21 : xhP 21 := trivial
theorem xh_22 : xhP 22 := trivial
theorem xh_23 : xhP 23 := trivial
theorem xh_24 : xhP 24 := trivial
theorem xh_25 : xhP 25 := trivial
theorem xh_26 : xhP 26 := trivial
theorem xh_27 : xhP 27 := trivial
theorem xh_28 : xhP 28 := trivial
theorem xh_29 : xhP 29 := trivial
theorem xh_30 : xhP 30 := trivial
theorem xh_31 : xhP 31 := trivial
theorem xh_32 : xhP 32 := trivial
theorem xh_33 : xhP 33 := trivial
theorem xh_34 : xhP 34 := trivial
theorem xh_35 : xhP 35 := trivial
theorem xh_36 : xhP 36 := trivial
theorem xh_37 : xhP 37 := trivial
theorem xh_38 : xhP 38 := trivial
theorem xh_39 : xhP 39 := trivial
theorem xh_40 : xhP 40 := trivial
theorem xh_41 : xhP 41 := trivial
theorem xh_42 : xhP 42 := trivial
theorem xh_43 : xhP 43 := trivial
theorem xh_44 : xhP 44 := trivial
theorem xh_45 : xhP 45 := trivial
theorem xh_46 : xhP 46 := trivial
theorem xh_47 : xhP 47 := trivial
theorem xh_48 : xhP 48 := trivial
theorem xh_49 : xhP 49 := trivial
theorem xh_50 : xhP 50 := trivial
theorem xh_51 : xhP 51 := trivial
theorem xh_52 : xhP 52 := trivial
theorem xh_53 : xhP 53 := trivial
theorem xh_54 : xhP 54 := trivial
theorem xh_55 : xhP 55 := trivial
theorem xh_56 : xhP 56 := trivial
theorem xh_57 : xhP 57 := trivial
theorem xh_58 : xhP 58 := trivial
theorem xh_59 : xhP 59 := trivial
theorem xh_60 : xhP 60 := trivial
theorem xh_61 : xhP 61 := trivial
theorem xh_62 : xhP 62 := trivial
theorem xh_63 : xhP 63 := trivial
theorem xh_64 : xhP 64 := trivial
theorem xh_65 : xhP 65 := trivial
theorem xh_66 : xhP 66 := trivial
theorem xh_67 : xhP 67 := trivial
theorem xh_68 : xhP 68 := trivial
theorem xh_69 : xhP 69 := trivial
theorem xh_70 : xhP 70 := trivial
theorem xh_71 : xhP 71 := trivial
theorem xh_72 : xhP 72 := trivial
theorem xh_73 : xhP 73 := trivial
theorem xh_74 : xhP 74 := trivial
theorem xh_75 : xhP 75 := trivial
theorem xh_76 : xhP 76 := trivial
theorem xh_77 : xhP 77 := trivial
theorem xh_78 : xhP 78 := trivial
theorem xh_79 : xhP 79 := trivial
theorem xh_80 : xhP 80 := trivial
theorem xh_81 : xhP 81 := trivial
theorem xh_82 : xhP 82 := trivial
theorem xh_83 : xhP 83 := trivial
theorem xh_84 : xhP 84 := trivial
theorem xh_85 : xhP 85 := trivial
theorem xh_86 : xhP 86 := trivial
theorem xh_87 : xhP 87 := trivial
theorem xh_88 : xhP 88 := trivial
theorem xh_89 : xhP 89 := trivial
theorem xh_90 : xhP 90 := trivial
theorem xh_91 : xhP 91 := trivial
theorem xh_92 : xhP 92 := trivial
theorem xh_93 : xhP 93 := trivial
theorem xh_94 : xhP 94 := trivial
theorem xh_95 : xhP 95 := trivial
theorem xh_96 : xhP 96 := trivial
theorem xh_97 : xhP 97 := trivial
theorem xh_98 : xhP 98 := trivial
theorem xh_99 : xhP 99 := trivial
theorem xh_100 : xhP 100 := trivial
theorem xh_101 : xhP 101 := trivial
theorem xh_102 : xhP 102 := trivial
theorem xh_103 : xhP 103 := trivial
theorem xh_104 : xhP 104 := trivial
theorem xh_105 : xhP 105 := trivial
theorem xh_106 : xhP 106 := trivial
theorem xh_107 : xhP 107 := trivial
theorem xh_108 : xhP 108 := trivial
theorem xh_109 : xhP 109 := trivial
theorem xh_110 : xhP 110 := trivial
theorem xh_111 : xhP 111 := trivial
theorem xh_112 : xhP 112 := trivial
theorem xh_113 : xhP 113 := trivial
theorem xh_114 : xhP 114 := trivial
theorem xh_115 : xhP 115 := trivial
theorem xh_116 : xhP 116 := ⟨⟨rfl, rfl, rfl, by decide, List.mem_of_getElem? (i := 350) (by decide +kernel), Or.inl rfl, Or.inl ⟨rfl, by decide +kernel⟩⟩, ⟨rfl, rfl, rfl, by decide, List.mem_of_getElem? (i := 351) (by decide +kernel), Or.inr (Or.inl rfl), Or.inl ⟨rfl, by decide +kernel⟩⟩, ⟨rfl, rfl, rfl, by decide, List.mem_of_getElem? (i := 352) (by decide +kernel), Or.inr (Or.inr rfl), Or.inl ⟨rfl, by decide +kernel⟩⟩, trivial⟩
theorem xh_117 : xhP 117 := ⟨⟨rfl, rfl, rfl, by decide, List.mem_of_getElem? (i := 350) (by decide +kernel), Or.inl rfl, Or.inl ⟨rfl, by decide +kernel⟩⟩, ⟨rfl, rfl, rfl, by decide, List.mem_of_getElem? (i := 351) (by decide +kernel), Or.inr (Or.inl rfl), Or.inl ⟨rfl, by decide +kernel⟩⟩, trivial⟩
theorem xh_118 : xhP 118 := trivial
theorem xh_119 : xhP 119 := trivial
theorem xh_all : xAll xhP 120 := ⟨xh_119, xh_118, xh_117, xh_116, xh_115, xh_114, xh_113, xh_112, xh_111, xh_110, xh_109, xh_108, xh_107, xh_106, xh_105, xh_104, xh_103, xh_102, xh_101, xh_100, xh_99, xh_98, xh_97, xh_96, xh_95, xh_94, xh_93, xh_92, xh_91, xh_90, xh_89, xh_88, xh_87, xh_86, xh_85, xh_84, xh_83, xh_82, xh_81, xh_80, xh_79, xh_78, xh_77, xh_76, xh_75, xh_74, xh_73, xh_72, xh_71, xh_70, xh_69, xh_68, xh_67, xh_66, xh_65, xh_64, xh_63, xh_62, xh_61, xh_60, xh_59, xh_58, xh_57, xh_56, xh_55, xh_54, xh_53, xh_52, xh_51, xh_50, xh_49, xh_48, xh_47, xh_46, xh_45, xh_44, xh_43, xh_42, xh_41, xh_40, xh_39, xh_38, xh_37, xh_36, xh_35, xh_34, xh_33, xh_32, xh_31, xh_30, xh_29, xh_28, xh_27, xh_26, xh_25, xh_24, xh_23, xh_22, xh_21, xh_20, xh_19, xh_18, xh_17, xh_16, xh_15, xh_14, xh_13, xh_12, xh_11, xh_10, xh_9, xh_8, xh_7, xh_6, xh_5, xh_4, xh_3, xh_2, xh_1, xh_0, trivial⟩
theorem xo_ok : ∀ j, j < 120 → xcn (xo j) = (xy j).cls := by decide +kernel
