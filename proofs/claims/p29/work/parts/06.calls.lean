/-! calls and steps over the abstract heap -/
theorem lookup_in {α : Type} {l : List (Nat × α)} {a : Nat} {b : α} (h : l.lookup a = some b) : (a, b) ∈ l := by
  induction l with
  | nil => cases h
  | cons q r ih =>
    obtain ⟨x, y⟩ := q
    rw [List.lookup_cons] at h
    split at h
    · rename_i z
      have := eq_of_beq z
      cases h
      subst this
      exact List.mem_cons_self
    · exact List.mem_cons_of_mem _ (ih h)
def OkP (k : Nat) : Prop := ((opL k).all fun e => decide (decode (mCode k) e.1 = .ok (e.2.2.1, e.2.1))) = true ∧ chkL k (opL k) = true

theorem okP_0 : OkP 0 := ⟨de_0, ck_0⟩
theorem okA_0 : ∀ a, a < 1 → OkP a := lt_s (lt_0 (p := OkP)) okP_0
theorem okP_1 : OkP 1 := ⟨de_1, ck_1⟩
theorem okA_1 : ∀ a, a < 2 → OkP a := lt_s okA_0 okP_1
theorem okP_2 : OkP 2 := ⟨de_2, ck_2⟩
theorem okA_2 : ∀ a, a < 3 → OkP a := lt_s okA_1 okP_2
theorem okP_3 : OkP 3 := ⟨de_3, ck_3⟩
theorem okA_3 : ∀ a, a < 4 → OkP a := lt_s okA_2 okP_3
theorem okP_4 : OkP 4 := ⟨de_4, ck_4⟩
theorem okA_4 : ∀ a, a < 5 → OkP a := lt_s okA_3 okP_4
theorem okP_5 : OkP 5 := ⟨de_5, ck_5⟩
theorem okA_5 : ∀ a, a < 6 → OkP a := lt_s okA_4 okP_5
theorem okP_6 : OkP 6 := ⟨de_6, ck_6⟩
theorem okA_6 : ∀ a, a < 7 → OkP a := lt_s okA_5 okP_6
theorem okP_7 : OkP 7 := ⟨de_7, ck_7⟩
theorem okA_7 : ∀ a, a < 8 → OkP a := lt_s okA_6 okP_7
theorem okP_8 : OkP 8 := ⟨de_8, ck_8⟩
theorem okA_8 : ∀ a, a < 9 → OkP a := lt_s okA_7 okP_8
theorem okP_9 : OkP 9 := ⟨de_9, ck_9⟩
theorem okA_9 : ∀ a, a < 10 → OkP a := lt_s okA_8 okP_9
theorem okP_10 : OkP 10 := ⟨de_10, ck_10⟩
theorem okA_10 : ∀ a, a < 11 → OkP a := lt_s okA_9 okP_10
theorem okP_11 : OkP 11 := ⟨de_11, ck_11⟩
theorem okA_11 : ∀ a, a < 12 → OkP a := lt_s okA_10 okP_11
theorem okP_12 : OkP 12 := ⟨de_12, ck_12⟩
theorem okA_12 : ∀ a, a < 13 → OkP a := lt_s okA_11 okP_12
theorem okP_13 : OkP 13 := ⟨de_13, ck_13⟩
theorem okA_13 : ∀ a, a < 14 → OkP a := lt_s okA_12 okP_13
theorem okP_14 : OkP 14 := ⟨de_14, ck_14⟩
theorem okA_14 : ∀ a, a < 15 → OkP a := lt_s okA_13 okP_14
theorem okP_15 : OkP 15 := ⟨de_15, ck_15⟩
theorem okA_15 : ∀ a, a < 16 → OkP a := lt_s okA_14 okP_15
theorem okP_16 : OkP 16 := ⟨de_16, ck_16⟩
theorem okA_16 : ∀ a, a < 17 → OkP a := lt_s okA_15 okP_16
theorem okP_17 : OkP 17 := ⟨de_17, ck_17⟩
theorem okA_17 : ∀ a, a < 18 → OkP a := lt_s okA_16 okP_17
theorem okP_18 : OkP 18 := ⟨de_18, ck_18⟩
theorem okA_18 : ∀ a, a < 19 → OkP a := lt_s okA_17 okP_18
theorem okP_19 : OkP 19 := ⟨de_19, ck_19⟩
theorem okA_19 : ∀ a, a < 20 → OkP a := lt_s okA_18 okP_19
theorem okP_20 : OkP 20 := ⟨de_20, ck_20⟩
theorem okA_20 : ∀ a, a < 21 → OkP a := lt_s okA_19 okP_20
theorem okP_21 : OkP 21 := ⟨de_21, ck_21⟩
theorem okA_21 : ∀ a, a < 22 → OkP a := lt_s okA_20 okP_21
theorem okP_22 : OkP 22 := ⟨de_22, ck_22⟩
theorem okA_22 : ∀ a, a < 23 → OkP a := lt_s okA_21 okP_22
theorem okP_23 : OkP 23 := ⟨de_23, ck_23⟩
theorem okA_23 : ∀ a, a < 24 → OkP a := lt_s okA_22 okP_23
theorem okP_24 : OkP 24 := ⟨de_24, ck_24⟩
theorem okA_24 : ∀ a, a < 25 → OkP a := lt_s okA_23 okP_24
theorem okP_25 : OkP 25 := ⟨de_25, ck_25⟩
theorem okA_25 : ∀ a, a < 26 → OkP a := lt_s okA_24 okP_25
theorem okP_26 : OkP 26 := ⟨de_26, ck_26⟩
theorem okA_26 : ∀ a, a < 27 → OkP a := lt_s okA_25 okP_26
theorem okP_27 : OkP 27 := ⟨de_27, ck_27⟩
theorem okA_27 : ∀ a, a < 28 → OkP a := lt_s okA_26 okP_27
theorem okP_28 : OkP 28 := ⟨de_28, ck_28⟩
theorem okA_28 : ∀ a, a < 29 → OkP a := lt_s okA_27 okP_28
theorem okP_29 : OkP 29 := ⟨de_29, ck_29⟩
theorem okA_29 : ∀ a, a < 30 → OkP a := lt_s okA_28 okP_29
theorem okP_30 : OkP 30 := ⟨de_30, ck_30⟩
theorem okA_30 : ∀ a, a < 31 → OkP a := lt_s okA_29 okP_30
theorem okP_31 : OkP 31 := ⟨de_31, ck_31⟩
theorem okA_31 : ∀ a, a < 32 → OkP a := lt_s okA_30 okP_31
theorem okP_32 : OkP 32 := ⟨de_32, ck_32⟩
theorem okA_32 : ∀ a, a < 33 → OkP a := lt_s okA_31 okP_32
theorem okP_33 : OkP 33 := ⟨de_33, ck_33⟩
theorem okA_33 : ∀ a, a < 34 → OkP a := lt_s okA_32 okP_33
theorem okP_34 : OkP 34 := ⟨de_34, ck_34⟩
theorem okA_34 : ∀ a, a < 35 → OkP a := lt_s okA_33 okP_34
theorem okP_35 : OkP 35 := ⟨de_35, ck_35⟩
theorem okA_35 : ∀ a, a < 36 → OkP a := lt_s okA_34 okP_35
theorem okP_36 : OkP 36 := ⟨de_36, ck_36⟩
theorem okA_36 : ∀ a, a < 37 → OkP a := lt_s okA_35 okP_36
theorem okP_37 : OkP 37 := ⟨de_37, ck_37⟩
theorem okA_37 : ∀ a, a < 38 → OkP a := lt_s okA_36 okP_37
theorem okP_38 : OkP 38 := ⟨de_38, ck_38⟩
theorem okA_38 : ∀ a, a < 39 → OkP a := lt_s okA_37 okP_38
theorem okP_39 : OkP 39 := ⟨de_39, ck_39⟩
theorem okA_39 : ∀ a, a < 40 → OkP a := lt_s okA_38 okP_39
theorem okP_40 : OkP 40 := ⟨de_40, ck_40⟩
theorem okA_40 : ∀ a, a < 41 → OkP a := lt_s okA_39 okP_40
theorem okP_41 : OkP 41 := ⟨de_41, ck_41⟩
theorem okA_41 : ∀ a, a < 42 → OkP a := lt_s okA_40 okP_41
theorem okP_42 : OkP 42 := ⟨de_42, ck_42⟩
theorem okA_42 : ∀ a, a < 43 → OkP a := lt_s okA_41 okP_42
theorem okP_43 : OkP 43 := ⟨de_43, ck_43⟩
theorem okA_43 : ∀ a, a < 44 → OkP a := lt_s okA_42 okP_43
theorem okP_44 : OkP 44 := ⟨de_44, ck_44⟩
theorem okA_44 : ∀ a, a < 45 → OkP a := lt_s okA_43 okP_44
theorem okP_45 : OkP 45 := ⟨de_45, ck_45⟩
theorem okA_45 : ∀ a, a < 46 → OkP a := lt_s okA_44 okP_45
theorem okP_46 : OkP 46 := ⟨de_46, ck_46⟩
theorem okA_46 : ∀ a, a < 47 → OkP a := lt_s okA_45 okP_46
theorem okP_47 : OkP 47 := ⟨de_47, ck_47⟩
theorem okA_47 : ∀ a, a < 48 → OkP a := lt_s okA_46 okP_47
theorem okP_48 : OkP 48 := ⟨de_48, ck_48⟩
theorem okA_48 : ∀ a, a < 49 → OkP a := lt_s okA_47 okP_48
theorem okP_49 : OkP 49 := ⟨de_49, ck_49⟩
theorem okA_49 : ∀ a, a < 50 → OkP a := lt_s okA_48 okP_49
theorem okP_50 : OkP 50 := ⟨de_50, ck_50⟩
theorem okA_50 : ∀ a, a < 51 → OkP a := lt_s okA_49 okP_50
theorem okP_51 : OkP 51 := ⟨de_51, ck_51⟩
theorem okA_51 : ∀ a, a < 52 → OkP a := lt_s okA_50 okP_51
theorem okP_52 : OkP 52 := ⟨de_52, ck_52⟩
theorem okA_52 : ∀ a, a < 53 → OkP a := lt_s okA_51 okP_52
theorem okP_53 : OkP 53 := ⟨de_53, ck_53⟩
theorem okA_53 : ∀ a, a < 54 → OkP a := lt_s okA_52 okP_53
theorem okP_54 : OkP 54 := ⟨de_54, ck_54⟩
theorem okA_54 : ∀ a, a < 55 → OkP a := lt_s okA_53 okP_54
theorem okP_55 : OkP 55 := ⟨de_55, ck_55⟩
theorem okA_55 : ∀ a, a < 56 → OkP a := lt_s okA_54 okP_55
theorem okP_56 : OkP 56 := ⟨de_56, ck_56⟩
theorem okA_56 : ∀ a, a < 57 → OkP a := lt_s okA_55 okP_56
theorem okP_57 : OkP 57 := ⟨de_57, ck_57⟩
theorem okA_57 : ∀ a, a < 58 → OkP a := lt_s okA_56 okP_57
theorem okP_58 : OkP 58 := ⟨de_58, ck_58⟩
theorem okA_58 : ∀ a, a < 59 → OkP a := lt_s okA_57 okP_58
theorem okP_59 : OkP 59 := ⟨de_59, ck_59⟩
theorem okA_59 : ∀ a, a < 60 → OkP a := lt_s okA_58 okP_59
theorem okP_60 : OkP 60 := ⟨de_60, ck_60⟩
theorem okA_60 : ∀ a, a < 61 → OkP a := lt_s okA_59 okP_60
theorem okP_61 : OkP 61 := ⟨de_61, ck_61⟩
theorem okA_61 : ∀ a, a < 62 → OkP a := lt_s okA_60 okP_61
theorem okP_62 : OkP 62 := ⟨de_62, ck_62⟩
theorem okA_62 : ∀ a, a < 63 → OkP a := lt_s okA_61 okP_62
theorem okP_63 : OkP 63 := ⟨de_63, ck_63⟩
theorem okA_63 : ∀ a, a < 64 → OkP a := lt_s okA_62 okP_63
theorem okP_64 : OkP 64 := ⟨de_64, ck_64⟩
theorem okA_64 : ∀ a, a < 65 → OkP a := lt_s okA_63 okP_64
theorem okP_65 : OkP 65 := ⟨de_65, ck_65⟩
theorem okA_65 : ∀ a, a < 66 → OkP a := lt_s okA_64 okP_65
theorem okP_66 : OkP 66 := ⟨de_66, ck_66⟩
theorem okA_66 : ∀ a, a < 67 → OkP a := lt_s okA_65 okP_66
theorem okP_67 : OkP 67 := ⟨de_67, ck_67⟩
theorem okA_67 : ∀ a, a < 68 → OkP a := lt_s okA_66 okP_67
theorem okP_68 : OkP 68 := ⟨de_68, ck_68⟩
theorem okA_68 : ∀ a, a < 69 → OkP a := lt_s okA_67 okP_68
theorem okP_69 : OkP 69 := ⟨de_69, ck_69⟩
theorem okA_69 : ∀ a, a < 70 → OkP a := lt_s okA_68 okP_69
theorem okP_70 : OkP 70 := ⟨de_70, ck_70⟩
theorem okA_70 : ∀ a, a < 71 → OkP a := lt_s okA_69 okP_70
theorem okP_71 : OkP 71 := ⟨de_71, ck_71⟩
theorem okA_71 : ∀ a, a < 72 → OkP a := lt_s okA_70 okP_71
theorem okP_72 : OkP 72 := ⟨de_72, ck_72⟩
theorem okA_72 : ∀ a, a < 73 → OkP a := lt_s okA_71 okP_72
theorem okP_73 : OkP 73 := ⟨de_73, ck_73⟩
theorem okA_73 : ∀ a, a < 74 → OkP a := lt_s okA_72 okP_73
theorem okP_74 : OkP 74 := ⟨de_74, ck_74⟩
theorem okA_74 : ∀ a, a < 75 → OkP a := lt_s okA_73 okP_74
theorem okP_75 : OkP 75 := ⟨de_75, ck_75⟩
theorem okA_75 : ∀ a, a < 76 → OkP a := lt_s okA_74 okP_75
theorem okP_76 : OkP 76 := ⟨de_76, ck_76⟩
theorem okA_76 : ∀ a, a < 77 → OkP a := lt_s okA_75 okP_76
theorem okP_77 : OkP 77 := ⟨de_77, ck_77⟩
theorem okA_77 : ∀ a, a < 78 → OkP a := lt_s okA_76 okP_77
theorem okP_78 : OkP 78 := ⟨de_78, ck_78⟩
theorem okA_78 : ∀ a, a < 79 → OkP a := lt_s okA_77 okP_78
theorem okP_79 : OkP 79 := ⟨de_79, ck_79⟩
theorem okA_79 : ∀ a, a < 80 → OkP a := lt_s okA_78 okP_79
theorem okP_80 : OkP 80 := ⟨de_80, ck_80⟩
theorem okA_80 : ∀ a, a < 81 → OkP a := lt_s okA_79 okP_80
theorem okP_81 : OkP 81 := ⟨de_81, ck_81⟩
theorem okA_81 : ∀ a, a < 82 → OkP a := lt_s okA_80 okP_81
theorem okP_82 : OkP 82 := ⟨de_82, ck_82⟩
theorem okA_82 : ∀ a, a < 83 → OkP a := lt_s okA_81 okP_82
theorem okP_83 : OkP 83 := ⟨de_83, ck_83⟩
theorem okA_83 : ∀ a, a < 84 → OkP a := lt_s okA_82 okP_83
theorem okP_84 : OkP 84 := ⟨de_84, ck_84⟩
theorem okA_84 : ∀ a, a < 85 → OkP a := lt_s okA_83 okP_84
theorem okP_85 : OkP 85 := ⟨de_85, ck_85⟩
theorem okA_85 : ∀ a, a < 86 → OkP a := lt_s okA_84 okP_85
theorem okP_86 : OkP 86 := ⟨de_86, ck_86⟩
theorem okA_86 : ∀ a, a < 87 → OkP a := lt_s okA_85 okP_86
theorem okP_87 : OkP 87 := ⟨de_87, ck_87⟩
theorem okA_87 : ∀ a, a < 88 → OkP a := lt_s okA_86 okP_87
theorem okP_88 : OkP 88 := ⟨de_88, ck_88⟩
theorem okA_88 : ∀ a, a < 89 → OkP a := lt_s okA_87 okP_88
theorem okP_89 : OkP 89 := ⟨de_89, ck_89⟩
theorem okA_89 : ∀ a, a < 90 → OkP a := lt_s okA_88 okP_89
theorem okP_90 : OkP 90 := ⟨de_90, ck_90⟩
theorem okA_90 : ∀ a, a < 91 → OkP a := lt_s okA_89 okP_90
theorem okP_91 : OkP 91 := ⟨de_91, ck_91⟩
theorem okA_91 : ∀ a, a < 92 → OkP a := lt_s okA_90 okP_91
theorem okP_92 : OkP 92 := ⟨de_92, ck_92⟩
theorem okA_92 : ∀ a, a < 93 → OkP a := lt_s okA_91 okP_92
theorem okP_93 : OkP 93 := ⟨de_93, ck_93⟩
theorem okA_93 : ∀ a, a < 94 → OkP a := lt_s okA_92 okP_93
theorem okP_94 : OkP 94 := ⟨de_94, ck_94⟩
theorem okA_94 : ∀ a, a < 95 → OkP a := lt_s okA_93 okP_94
theorem okP_95 : OkP 95 := ⟨de_95, ck_95⟩
theorem okA_95 : ∀ a, a < 96 → OkP a := lt_s okA_94 okP_95
theorem okP_96 : OkP 96 := ⟨de_96, ck_96⟩
theorem okA_96 : ∀ a, a < 97 → OkP a := lt_s okA_95 okP_96
theorem okP_97 : OkP 97 := ⟨de_97, ck_97⟩
theorem okA_97 : ∀ a, a < 98 → OkP a := lt_s okA_96 okP_97
theorem okP_98 : OkP 98 := ⟨de_98, ck_98⟩
theorem okA_98 : ∀ a, a < 99 → OkP a := lt_s okA_97 okP_98
theorem okP_99 : OkP 99 := ⟨de_99, ck_99⟩
theorem okA_99 : ∀ a, a < 100 → OkP a := lt_s okA_98 okP_99
theorem okP_100 : OkP 100 := ⟨de_100, ck_100⟩
theorem okA_100 : ∀ a, a < 101 → OkP a := lt_s okA_99 okP_100
theorem okP_101 : OkP 101 := ⟨de_101, ck_101⟩
theorem okA_101 : ∀ a, a < 102 → OkP a := lt_s okA_100 okP_101
theorem okP_102 : OkP 102 := ⟨de_102, ck_102⟩
theorem okA_102 : ∀ a, a < 103 → OkP a := lt_s okA_101 okP_102
theorem okP_103 : OkP 103 := ⟨de_103, ck_103⟩
theorem okA_103 : ∀ a, a < 104 → OkP a := lt_s okA_102 okP_103
theorem okP_104 : OkP 104 := ⟨de_104, ck_104⟩
theorem okA_104 : ∀ a, a < 105 → OkP a := lt_s okA_103 okP_104
theorem okP_105 : OkP 105 := ⟨de_105, ck_105⟩
theorem okA_105 : ∀ a, a < 106 → OkP a := lt_s okA_104 okP_105
theorem okP_106 : OkP 106 := ⟨de_106, ck_106⟩
theorem okA_106 : ∀ a, a < 107 → OkP a := lt_s okA_105 okP_106
theorem okP_107 : OkP 107 := ⟨de_107, ck_107⟩
theorem okA_107 : ∀ a, a < 108 → OkP a := lt_s okA_106 okP_107
theorem okP_108 : OkP 108 := ⟨de_108, ck_108⟩
theorem okA_108 : ∀ a, a < 109 → OkP a := lt_s okA_107 okP_108
theorem okP_109 : OkP 109 := ⟨de_109, ck_109⟩
theorem okA_109 : ∀ a, a < 110 → OkP a := lt_s okA_108 okP_109
theorem okP_110 : OkP 110 := ⟨de_110, ck_110⟩
theorem okA_110 : ∀ a, a < 111 → OkP a := lt_s okA_109 okP_110
theorem okP_111 : OkP 111 := ⟨de_111, ck_111⟩
theorem okA_111 : ∀ a, a < 112 → OkP a := lt_s okA_110 okP_111
theorem okP_112 : OkP 112 := ⟨de_112, ck_112⟩
theorem okA_112 : ∀ a, a < 113 → OkP a := lt_s okA_111 okP_112
theorem okP_113 : OkP 113 := ⟨de_113, ck_113⟩
theorem okA_113 : ∀ a, a < 114 → OkP a := lt_s okA_112 okP_113
theorem okP_114 : OkP 114 := ⟨de_114, ck_114⟩
theorem okA_114 : ∀ a, a < 115 → OkP a := lt_s okA_113 okP_114
theorem okP_115 : OkP 115 := ⟨de_115, ck_115⟩
theorem okA_115 : ∀ a, a < 116 → OkP a := lt_s okA_114 okP_115
theorem okP_116 : OkP 116 := ⟨de_116, ck_116⟩
theorem okA_116 : ∀ a, a < 117 → OkP a := lt_s okA_115 okP_116
theorem okP_117 : OkP 117 := ⟨de_117, ck_117⟩
theorem okA_117 : ∀ a, a < 118 → OkP a := lt_s okA_116 okP_117
theorem okP_118 : OkP 118 := ⟨de_118, ck_118⟩
theorem okA_118 : ∀ a, a < 119 → OkP a := lt_s okA_117 okP_118
theorem okP_119 : OkP 119 := ⟨de_119, ck_119⟩
theorem okA_119 : ∀ a, a < 120 → OkP a := lt_s okA_118 okP_119
theorem okP_120 : OkP 120 := ⟨de_120, ck_120⟩
theorem okA_120 : ∀ a, a < 121 → OkP a := lt_s okA_119 okP_120
theorem okP_121 : OkP 121 := ⟨de_121, ck_121⟩
theorem okA_121 : ∀ a, a < 122 → OkP a := lt_s okA_120 okP_121
theorem okP_122 : OkP 122 := ⟨de_122, ck_122⟩
theorem okA_122 : ∀ a, a < 123 → OkP a := lt_s okA_121 okP_122
theorem okP_123 : OkP 123 := ⟨de_123, ck_123⟩
theorem okA_123 : ∀ a, a < 124 → OkP a := lt_s okA_122 okP_123
theorem okP_124 : OkP 124 := ⟨de_124, ck_124⟩
theorem okA_124 : ∀ a, a < 125 → OkP a := lt_s okA_123 okP_124
theorem okP_125 : OkP 125 := ⟨de_125, ck_125⟩
theorem okA_125 : ∀ a, a < 126 → OkP a := lt_s okA_124 okP_125
theorem okP_126 : OkP 126 := ⟨de_126, ck_126⟩
theorem okA_126 : ∀ a, a < 127 → OkP a := lt_s okA_125 okP_126
theorem okP_127 : OkP 127 := ⟨de_127, ck_127⟩
theorem okA_127 : ∀ a, a < 128 → OkP a := lt_s okA_126 okP_127
theorem okP_128 : OkP 128 := ⟨de_128, ck_128⟩
theorem okA_128 : ∀ a, a < 129 → OkP a := lt_s okA_127 okP_128
theorem okP_129 : OkP 129 := ⟨de_129, ck_129⟩
theorem okA_129 : ∀ a, a < 130 → OkP a := lt_s okA_128 okP_129
theorem okP_130 : OkP 130 := ⟨de_130, ck_130⟩
theorem okA_130 : ∀ a, a < 131 → OkP a := lt_s okA_129 okP_130
theorem okP_131 : OkP 131 := ⟨de_131, ck_131⟩
theorem okA_131 : ∀ a, a < 132 → OkP a := lt_s okA_130 okP_131
theorem okP_132 : OkP 132 := ⟨de_132, ck_132⟩
theorem okA_132 : ∀ a, a < 133 → OkP a := lt_s okA_131 okP_132
theorem okP_133 : OkP 133 := ⟨de_133, ck_133⟩
theorem okA_133 : ∀ a, a < 134 → OkP a := lt_s okA_132 okP_133
theorem okP_134 : OkP 134 := ⟨de_134, ck_134⟩
theorem okA_134 : ∀ a, a < 135 → OkP a := lt_s okA_133 okP_134
theorem okP_135 : OkP 135 := ⟨de_135, ck_135⟩
theorem okA_135 : ∀ a, a < 136 → OkP a := lt_s okA_134 okP_135
theorem okP_136 : OkP 136 := ⟨de_136, ck_136⟩
theorem okA_136 : ∀ a, a < 137 → OkP a := lt_s okA_135 okP_136
theorem okP_137 : OkP 137 := ⟨de_137, ck_137⟩
theorem okA_137 : ∀ a, a < 138 → OkP a := lt_s okA_136 okP_137
theorem okP_138 : OkP 138 := ⟨de_138, ck_138⟩
theorem okA_138 : ∀ a, a < 139 → OkP a := lt_s okA_137 okP_138
theorem okP_139 : OkP 139 := ⟨de_139, ck_139⟩
theorem okA_139 : ∀ a, a < 140 → OkP a := lt_s okA_138 okP_139
theorem okP_140 : OkP 140 := ⟨de_140, ck_140⟩
theorem okA_140 : ∀ a, a < 141 → OkP a := lt_s okA_139 okP_140
theorem okP_141 : OkP 141 := ⟨de_141, ck_141⟩
theorem okA_141 : ∀ a, a < 142 → OkP a := lt_s okA_140 okP_141
theorem okP_142 : OkP 142 := ⟨de_142, ck_142⟩
theorem okA_142 : ∀ a, a < 143 → OkP a := lt_s okA_141 okP_142
theorem okP_143 : OkP 143 := ⟨de_143, ck_143⟩
theorem okA_143 : ∀ a, a < 144 → OkP a := lt_s okA_142 okP_143
theorem okP_144 : OkP 144 := ⟨de_144, ck_144⟩
theorem okA_144 : ∀ a, a < 145 → OkP a := lt_s okA_143 okP_144
theorem okP_145 : OkP 145 := ⟨de_145, ck_145⟩
theorem okA_145 : ∀ a, a < 146 → OkP a := lt_s okA_144 okP_145
theorem okP_146 : OkP 146 := ⟨de_146, ck_146⟩
theorem okA_146 : ∀ a, a < 147 → OkP a := lt_s okA_145 okP_146
theorem okP_147 : OkP 147 := ⟨de_147, ck_147⟩
theorem okA_147 : ∀ a, a < 148 → OkP a := lt_s okA_146 okP_147
theorem okP_148 : OkP 148 := ⟨de_148, ck_148⟩
theorem okA_148 : ∀ a, a < 149 → OkP a := lt_s okA_147 okP_148
theorem okP_149 : OkP 149 := ⟨de_149, ck_149⟩
theorem okA_149 : ∀ a, a < 150 → OkP a := lt_s okA_148 okP_149
theorem okP_150 : OkP 150 := ⟨de_150, ck_150⟩
theorem okA_150 : ∀ a, a < 151 → OkP a := lt_s okA_149 okP_150
theorem okP_151 : OkP 151 := ⟨de_151, ck_151⟩
theorem okA_151 : ∀ a, a < 152 → OkP a := lt_s okA_150 okP_151
theorem okP_152 : OkP 152 := ⟨de_152, ck_152⟩
theorem okA_152 : ∀ a, a < 153 → OkP a := lt_s okA_151 okP_152
theorem okP_153 : OkP 153 := ⟨de_153, ck_153⟩
theorem okA_153 : ∀ a, a < 154 → OkP a := lt_s okA_152 okP_153
theorem okP_154 : OkP 154 := ⟨de_154, ck_154⟩
theorem okA_154 : ∀ a, a < 155 → OkP a := lt_s okA_153 okP_154
theorem okP_155 : OkP 155 := ⟨de_155, ck_155⟩
theorem okA_155 : ∀ a, a < 156 → OkP a := lt_s okA_154 okP_155
theorem okP_156 : OkP 156 := ⟨de_156, ck_156⟩
theorem okA_156 : ∀ a, a < 157 → OkP a := lt_s okA_155 okP_156
theorem okP_157 : OkP 157 := ⟨de_157, ck_157⟩
theorem okA_157 : ∀ a, a < 158 → OkP a := lt_s okA_156 okP_157
theorem okP_158 : OkP 158 := ⟨de_158, ck_158⟩
theorem okA_158 : ∀ a, a < 159 → OkP a := lt_s okA_157 okP_158
theorem okP_159 : OkP 159 := ⟨de_159, ck_159⟩
theorem okA_159 : ∀ a, a < 160 → OkP a := lt_s okA_158 okP_159
theorem okP_160 : OkP 160 := ⟨de_160, ck_160⟩
theorem okA_160 : ∀ a, a < 161 → OkP a := lt_s okA_159 okP_160
theorem okP_161 : OkP 161 := ⟨de_161, ck_161⟩
theorem okA_161 : ∀ a, a < 162 → OkP a := lt_s okA_160 okP_161
theorem okP_162 : OkP 162 := ⟨de_162, ck_162⟩
theorem okA_162 : ∀ a, a < 163 → OkP a := lt_s okA_161 okP_162
theorem okP_163 : OkP 163 := ⟨de_163, ck_163⟩
theorem okA_163 : ∀ a, a < 164 → OkP a := lt_s okA_162 okP_163
theorem okP_164 : OkP 164 := ⟨de_164, ck_164⟩
theorem okA_164 : ∀ a, a < 165 → OkP a := lt_s okA_163 okP_164
theorem okP_165 : OkP 165 := ⟨de_165, ck_165⟩
theorem okA_165 : ∀ a, a < 166 → OkP a := lt_s okA_164 okP_165
theorem okP_166 : OkP 166 := ⟨de_166, ck_166⟩
theorem okA_166 : ∀ a, a < 167 → OkP a := lt_s okA_165 okP_166
theorem okP_167 : OkP 167 := ⟨de_167, ck_167⟩
theorem okA_167 : ∀ a, a < 168 → OkP a := lt_s okA_166 okP_167
theorem okP_168 : OkP 168 := ⟨de_168, ck_168⟩
theorem okA_168 : ∀ a, a < 169 → OkP a := lt_s okA_167 okP_168
theorem okP_169 : OkP 169 := ⟨de_169, ck_169⟩
theorem okA_169 : ∀ a, a < 170 → OkP a := lt_s okA_168 okP_169
theorem okP_170 : OkP 170 := ⟨de_170, ck_170⟩
theorem okA_170 : ∀ a, a < 171 → OkP a := lt_s okA_169 okP_170
theorem okP_171 : OkP 171 := ⟨de_171, ck_171⟩
theorem okA_171 : ∀ a, a < 172 → OkP a := lt_s okA_170 okP_171
theorem okP_172 : OkP 172 := ⟨de_172, ck_172⟩
theorem okA_172 : ∀ a, a < 173 → OkP a := lt_s okA_171 okP_172
theorem okP_173 : OkP 173 := ⟨de_173, ck_173⟩
theorem okA_173 : ∀ a, a < 174 → OkP a := lt_s okA_172 okP_173
theorem okP_174 : OkP 174 := ⟨de_174, ck_174⟩
theorem okA_174 : ∀ a, a < 175 → OkP a := lt_s okA_173 okP_174
theorem okP_175 : OkP 175 := ⟨de_175, ck_175⟩
theorem okA_175 : ∀ a, a < 176 → OkP a := lt_s okA_174 okP_175
theorem okP_176 : OkP 176 := ⟨de_176, ck_176⟩
theorem okA_176 : ∀ a, a < 177 → OkP a := lt_s okA_175 okP_176
theorem okP_177 : OkP 177 := ⟨de_177, ck_177⟩
theorem okA_177 : ∀ a, a < 178 → OkP a := lt_s okA_176 okP_177
theorem okP_178 : OkP 178 := ⟨de_178, ck_178⟩
theorem okA_178 : ∀ a, a < 179 → OkP a := lt_s okA_177 okP_178
theorem okP_179 : OkP 179 := ⟨de_179, ck_179⟩
theorem okA_179 : ∀ a, a < 180 → OkP a := lt_s okA_178 okP_179
theorem okP_180 : OkP 180 := ⟨de_180, ck_180⟩
theorem okA_180 : ∀ a, a < 181 → OkP a := lt_s okA_179 okP_180
theorem okP_181 : OkP 181 := ⟨de_181, ck_181⟩
theorem okA_181 : ∀ a, a < 182 → OkP a := lt_s okA_180 okP_181
theorem okP_182 : OkP 182 := ⟨de_182, ck_182⟩
theorem okA_182 : ∀ a, a < 183 → OkP a := lt_s okA_181 okP_182
theorem okP_183 : OkP 183 := ⟨de_183, ck_183⟩
theorem okA_183 : ∀ a, a < 184 → OkP a := lt_s okA_182 okP_183
theorem okP_184 : OkP 184 := ⟨de_184, ck_184⟩
theorem okA_184 : ∀ a, a < 185 → OkP a := lt_s okA_183 okP_184
theorem okP_185 : OkP 185 := ⟨de_185, ck_185⟩
theorem okA_185 : ∀ a, a < 186 → OkP a := lt_s okA_184 okP_185
theorem okP_186 : OkP 186 := ⟨de_186, ck_186⟩
theorem okA_186 : ∀ a, a < 187 → OkP a := lt_s okA_185 okP_186
theorem okP_187 : OkP 187 := ⟨de_187, ck_187⟩
theorem okA_187 : ∀ a, a < 188 → OkP a := lt_s okA_186 okP_187
theorem okP_188 : OkP 188 := ⟨de_188, ck_188⟩
theorem okA_188 : ∀ a, a < 189 → OkP a := lt_s okA_187 okP_188
theorem okP_189 : OkP 189 := ⟨de_189, ck_189⟩
theorem okA_189 : ∀ a, a < 190 → OkP a := lt_s okA_188 okP_189
theorem okP_190 : OkP 190 := ⟨de_190, ck_190⟩
theorem okA_190 : ∀ a, a < 191 → OkP a := lt_s okA_189 okP_190
theorem okP_191 : OkP 191 := ⟨de_191, ck_191⟩
theorem okA_191 : ∀ a, a < 192 → OkP a := lt_s okA_190 okP_191
theorem okP_192 : OkP 192 := ⟨de_192, ck_192⟩
theorem okA_192 : ∀ a, a < 193 → OkP a := lt_s okA_191 okP_192
theorem okP_193 : OkP 193 := ⟨de_193, ck_193⟩
theorem okA_193 : ∀ a, a < 194 → OkP a := lt_s okA_192 okP_193
theorem okP_194 : OkP 194 := ⟨de_194, ck_194⟩
theorem okA_194 : ∀ a, a < 195 → OkP a := lt_s okA_193 okP_194
theorem okP_195 : OkP 195 := ⟨de_195, ck_195⟩
theorem okA_195 : ∀ a, a < 196 → OkP a := lt_s okA_194 okP_195
theorem okP_196 : OkP 196 := ⟨de_196, ck_196⟩
theorem okA_196 : ∀ a, a < 197 → OkP a := lt_s okA_195 okP_196
theorem okP_197 : OkP 197 := ⟨de_197, ck_197⟩
theorem okA_197 : ∀ a, a < 198 → OkP a := lt_s okA_196 okP_197
theorem okP_198 : OkP 198 := ⟨de_198, ck_198⟩
theorem okA_198 : ∀ a, a < 199 → OkP a := lt_s okA_197 okP_198
theorem okP_199 : OkP 199 := ⟨de_199, ck_199⟩
theorem okA_199 : ∀ a, a < 200 → OkP a := lt_s okA_198 okP_199
theorem okP_200 : OkP 200 := ⟨de_200, ck_200⟩
theorem okA_200 : ∀ a, a < 201 → OkP a := lt_s okA_199 okP_200
theorem okP_201 : OkP 201 := ⟨de_201, ck_201⟩
theorem okA_201 : ∀ a, a < 202 → OkP a := lt_s okA_200 okP_201
theorem okP_202 : OkP 202 := ⟨de_202, ck_202⟩
theorem okA_202 : ∀ a, a < 203 → OkP a := lt_s okA_201 okP_202
theorem okP_203 : OkP 203 := ⟨de_203, ck_203⟩
theorem okA_203 : ∀ a, a < 204 → OkP a := lt_s okA_202 okP_203
theorem okP_204 : OkP 204 := ⟨de_204, ck_204⟩
theorem okA_204 : ∀ a, a < 205 → OkP a := lt_s okA_203 okP_204
theorem op_ok {k pc : Nat} {op : OpE} (hk : k < 205) (h : opAt k pc = some op) : decode (mCode k) pc = .ok (op.2.1, op.1) ∧ chk k pc op = true := by
  have hO : OkP k := okA_204 k hk
  unfold OkP chkL at hO
  unfold opAt at h
  generalize opL k = l at hO h
  have hm := lookup_in h
  have z1 := List.all_eq_true.mp hO.1 _ hm
  have z2 := List.all_eq_true.mp hO.2 _ hm
  dsimp only at z1 z2
  exact ⟨of_decide_eq_true z1, z2⟩
theorem mMax_le : ∀ j, j < 205 → mMax j ≤ 41 := by decide +kernel
def wsM (j : Nat) : List Jvm.Cond := wCode j :: tblG
theorem goodG {j : Nat} (hj : j < 204) : GoodIn tblG (wsM j) := by
  intro w hw
  have hin : w ∈ tblG := by
    rcases List.mem_cons.mp hw with rfl | h
    · exact wCode_in (by omega)
    · exact h
  exact ⟨hin, good_of_word (List.mem_filter.mp hin).2⟩
theorem mFacts {j : Nat} (hj : j < 204) : (Jvm.Cond.initialized (mName j).cls) ∈ tblG ∧ rcl (mOwn j) = (mName j).cls ∧ ((mName j).cls ≠ "java/lang/invoke/MethodHandle" ∧ (mName j).cls ≠ "java/lang/invoke/VarHandle" ∧ (parseMethodDescriptor (mName j).desc).map (fun d => d.parameters.length) = some (mArg j)) ∧ plainName (mName j).cls = true := by
  have h := mChk_all j hj
  simp only [mChk, Bool.and_eq_true, decide_eq_true_eq] at h
  obtain ⟨⟨⟨⟨⟨h1, h2⟩, h3⟩, h4⟩, h5⟩, h6⟩ := h
  exact ⟨tAt_in h1, h2, ⟨h3, h4, h5⟩, h6⟩
def rmD (d mc ms : Nat) : Room := { frames := d + 1, cells := mc, slots := ms, locals := 60 * (d + 1) }
section RUNS
variable {p : Program} {l : Launch} {e : Env} {R : Room} {s : State} {m : MethodId} {args : Array Value} {below : List Frame} {meth : Method} {c : Code} {H : Heap} {locs : List Loc} {cells slots : Nat} {Q : State → Prop} {pc : Nat} {ls : Array Slot} {rest : List Value}
variable {g : Nat × Nat × Nat} {Ls : Nat} {xs : Nat → Int32} {D : va_G} {cA : Nat → ClassId} {h h' : AH} {k i : Nat}
variable {j d mc ms idx ci a : Nat} {As : List Value} {Pc : Array Value → State → Prop} {Qc : Array Value → State → Outcome → State → Prop} {free : Addr → Prop}
theorem runV (C : Cx p s m args meth c k g Ls xs D cA) (hM : Met l (mName j) (wsM j) (rmD d mc ms) Pc Qc mc ms free) (hv : vT.any (fun r => Nat.beq r.2.2.2.1 (mOwn k) && Nat.beq r.2.2.2.2.1 idx && Nat.beq r.2.2.2.2.2.1 ci && Nat.beq r.2.2.2.2.2.2 j) = true) (hfr : d + 2 ≤ R.frames) (hlo : 60 * (d + 2) ≤ R.locals) (hbl : FrameBlind Pc) (hcell : ∃ cell : Cell, H[a]? = some cell ∧ cell.vm.isStatics = false ∧ s.vm.findClass (rcl ci) = some cell.cls) (hPc : ∀ U : State, U.heap = H → s.WarmedH U.vm → Pc (Value.ref a :: As).toArray U) (hn : As.length = mArg j) (hsz : ls.size = mMax k) (hcat : (rest.map fun v => v.category).sum ≤ 8) (hdg : decode (mCode k) pc = .ok (.invokevirtual idx, 3)) (hf : cells + mc ≤ R.cells ∧ slots + ms ≤ R.slots) :
    va_Run p l e R s m args below meth c H locs cells slots mc ms (F0 m pc ls (As.reverse ++ .ref a :: rest)) rest (Qc (Value.ref a :: As).toArray) free := by
  obtain ⟨hx, hb, hml, hown, hts, hnm, hret, hlk, hW⟩ := C
  obtain ⟨r, hr, hv⟩ := List.any_eq_true.mp hv
  simp only [Bool.and_eq_true] at hv
  obtain ⟨⟨⟨h1, h2⟩, h3⟩, h4⟩ := hv
  have e1 := beqE h1
  have e2 := beqE h2
  have e3 := beqE h3
  have e4 := beqE h4
  have hf2 := List.all_eq_true.mp vT_ok r hr
  simp only [vChk, Bool.and_eq_true, decide_eq_true_eq] at hf2
  rw [e1, e2, e3, e4] at hf2
  obtain ⟨⟨⟨⟨q1, q2⟩, q3⟩, q4⟩, q5⟩ := hf2
  obtain ⟨f1, f2, f3, f4⟩ := mFacts q4
  have hmx := mMax_le j (by omega)
  exact va_runV (Ts := tblG) (own := rcl (mOwn k)) (C := rcl ci) ⟨hx, hb, hml, hown, hts⟩ hM ⟨callB_of (mArg j) hts (goodG q4) rfl rfl rfl (hts _ f1) (hts _ (tAt_in q1)) f3 ⟨by show d + 1 + 1 ≤ R.frames; omega, by show 8 + (mMax j + 11) + 60 * (d + 1) ≤ R.locals; omega⟩, hts _ (tAt_in q2), hts _ (tAt_in q3)⟩ ⟨hbl, hcell, hPc⟩ rfl hn hsz rfl (lv_room hcat) hdg hf
theorem runU (C : Cx p s m args meth c k g Ls xs D cA) (hM : Met l (mName j) (wsM j) (rmD d mc ms) Pc Qc mc ms free) (hv : uT.any (fun r => Nat.beq (r.getD 5 0) (mOwn k) && Nat.beq (r.getD 6 0) idx && Nat.beq (r.getD 7 0) ci && Nat.beq (r.getD 8 0) j) = true) (hfr : d + 2 ≤ R.frames) (hlo : 60 * (d + 2) ≤ R.locals) (hbl : FrameBlind Pc) (hcell : ∃ cell : Cell, H[a]? = some cell ∧ cell.vm.isStatics = false ∧ s.vm.findClass (rcl ci) = some cell.cls) (hPc : ∀ U : State, U.heap = H → s.WarmedH U.vm → Pc (Value.ref a :: As).toArray U) (hn : As.length = mArg j) (hsz : ls.size = mMax k) (hcat : (rest.map fun v => v.category).sum ≤ 8) (hdg : decode (mCode k) pc = .ok (.invokevirtual idx, 3)) (hf : cells + mc ≤ R.cells ∧ slots + ms ≤ R.slots) :
    va_Run p l e R s m args below meth c H locs cells slots mc ms (F0 m pc ls (As.reverse ++ .ref a :: rest)) rest (Qc (Value.ref a :: As).toArray) free := by
  obtain ⟨hx, hb, hml, hown, hts, hnm, hret, hlk, hW⟩ := C
  obtain ⟨r, hr, hv⟩ := List.any_eq_true.mp hv
  simp only [Bool.and_eq_true] at hv
  obtain ⟨⟨⟨h1, h2⟩, h3⟩, h4⟩ := hv
  have e1 := beqE h1
  have e2 := beqE h2
  have e3 := beqE h3
  have e4 := beqE h4
  have hf2 := List.all_eq_true.mp uT_ok r hr
  simp only [uChk, Bool.and_eq_true, decide_eq_true_eq] at hf2
  rw [e1, e2, e3, e4] at hf2
  generalize r.getD 9 0 = o at hf2
  obtain ⟨⟨⟨⟨⟨⟨⟨⟨q1, q2⟩, q3⟩, q4⟩, q5⟩, q6⟩, q7⟩, q8⟩, q9⟩ := hf2
  obtain ⟨f1, f2, f3, f4⟩ := mFacts q6
  obtain ⟨o1, o2, o3, o4⟩ := mFacts q7
  have hmx := mMax_le j (by omega)
  have good : ∀ {i : Nat} {w : Jvm.Cond}, tAt i w = true → w ∈ tblG ∧ ((w.onTables && w.keeps) = true ∨ ∃ ty, w = .arrayClass ty) := fun hw => ⟨tAt_in hw, good_of_word (List.mem_filter.mp (tAt_in hw)).2⟩
  refine va_runU (Ts := tblG) (own := rcl (mOwn k)) (C := rcl ci) (owner := (mName o).cls) (x := mName o) ⟨hx, hb, hml, hown, hts⟩ hM (va_cwO (ws' := tblG) (mArg j) hts ?_ rfl rfl rfl (b0 := mCode o) (m0 := mMax o) (r0 := mRet o) (wCode_in (by omega)) ⟨o3.1, o3.2.1, by rw [q9]; exact o3.2.2⟩ ⟨by show d + 1 + 1 ≤ R.frames; omega, by show 8 + (mMax j + 11) + 60 * (d + 1) ≤ R.locals; omega⟩) ⟨hbl, hcell, hPc⟩ rfl hn hsz rfl (lv_room hcat) hdg hf
  intro w hw
  unfold va_wsO at hw
  rcases List.mem_append.mp hw with hw | hw
  · simp only [List.mem_cons, List.not_mem_nil, or_false] at hw
    rcases hw with rfl | rfl | rfl | rfl | rfl | rfl
    · exact good q1
    · exact good q2
    · exact good q3
    · exact good q4
    · exact good q5
    · exact ⟨f1, good_of_word (List.mem_filter.mp f1).2⟩
  · exact goodG q6 w hw
theorem runS (C : Cx p s m args meth c k g Ls xs D cA) (hM : Met l (mName j) (wsM j) (rmD d mc ms) Pc Qc mc ms free) (hv : (sT.any (fun r => Nat.beq r.2.2.1 (mOwn k) && Nat.beq r.2.2.2.1 idx && Nat.beq r.2.2.2.2 j) || snT.any (fun r => Nat.beq r.2.2.1 (mOwn k) && Nat.beq r.2.2.2.1 idx && Nat.beq r.2.2.2.2 j)) = true) (hfr : d + 2 ≤ R.frames) (hlo : 60 * (d + 2) ≤ R.locals) (hbl : FrameBlind Pc) (hPc : ∀ U : State, U.heap = H → s.WarmedH U.vm → Pc As.toArray U) (hn : As.length = mArg j) (hsz : ls.size = mMax k) (hcat : (rest.map fun v => v.category).sum ≤ 8) (hdg : decode (mCode k) pc = .ok (.invokestatic idx, 3)) (hf : cells + mc ≤ R.cells ∧ slots + ms ≤ R.slots) :
    va_Run p l e R s m args below meth c H locs cells slots mc ms (F0 m pc ls (As.reverse ++ rest)) rest (Qc As.toArray) free := by
  obtain ⟨hx, hb, hml, hown, hts, hnm, hret, hlk, hW⟩ := C
  rcases Bool.or_eq_true _ _ |>.mp hv with hv | hv
  · obtain ⟨r, hr, hv⟩ := List.any_eq_true.mp hv
    simp only [Bool.and_eq_true] at hv
    obtain ⟨⟨h1, h2⟩, h3⟩ := hv
    have e1 := beqE h1
    have e2 := beqE h2
    have e3 := beqE h3
    have hf2 := List.all_eq_true.mp sT_ok r hr
    simp only [sChk, Bool.and_eq_true, decide_eq_true_eq] at hf2
    rw [e1, e2, e3] at hf2
    obtain ⟨⟨q1, q2⟩, q3⟩ := hf2
    obtain ⟨f1, f2, f3, f4⟩ := mFacts q3
    have hmx := mMax_le j (by omega)
    exact va_runS (Ts := tblG) (own := rcl (mOwn k)) ⟨hx, hb, hml, hown, hts⟩ hM ⟨callB_of (mArg j) hts (goodG q3) rfl rfl rfl (hts _ f1) (hts _ (tAt_in q1)) f3 ⟨by show d + 1 + 1 ≤ R.frames; omega, by show 8 + (mMax j + 11) + 60 * (d + 1) ≤ R.locals; omega⟩, hts _ (tAt_in q2)⟩ ⟨hbl, hPc⟩ rfl hn hsz rfl (lv_room hcat) hdg hf
  · obtain ⟨r, hr, hv⟩ := List.any_eq_true.mp hv
    simp only [Bool.and_eq_true] at hv
    obtain ⟨⟨h1, h2⟩, h3⟩ := hv
    have e1 := beqE h1
    have e2 := beqE h2
    have e3 := beqE h3
    have hf2 := List.all_eq_true.mp snT_ok r hr
    simp only [snChk, Bool.and_eq_true, decide_eq_true_eq] at hf2
    rw [e1, e2, e3] at hf2
    obtain ⟨⟨q1, q2⟩, q3⟩ := hf2
    obtain ⟨f1, f2, f3, f4⟩ := mFacts q3
    have hmx := mMax_le j (by omega)
    have hnest := hW.2.1 r (List.mem_append_left _ hr)
    rw [e1, e2, e3] at hnest
    exact va_runSN (Ts := tblG) (own := rcl (mOwn k)) ⟨hx, hb, hml, hown, hts⟩ hM ⟨va_cnB (mArg j) hts (goodG q3) rfl rfl rfl hnest (hts _ f1) f3 ⟨by show d + 1 + 1 ≤ R.frames; omega, by show 8 + (mMax j + 11) + 60 * (d + 1) ≤ R.locals; omega⟩, hts _ (tAt_in q2), trivial⟩ ⟨hbl, hPc⟩ rfl hn hsz rfl (lv_room hcat) hdg hf
theorem runI (C : Cx p s m args meth c k g Ls xs D cA) (hM : Met l (mName j) (wsM j) (rmD d mc ms) Pc Qc mc ms free) (hv : (cT.any (fun r => Nat.beq r.2.2.1 (mOwn k) && Nat.beq r.2.2.2.1 idx && Nat.beq r.2.2.2.2 j) || cnT.any (fun r => Nat.beq r.2.2.1 (mOwn k) && Nat.beq r.2.2.2.1 idx && Nat.beq r.2.2.2.2 j)) = true) (hfr : d + 2 ≤ R.frames) (hlo : 60 * (d + 2) ≤ R.locals) (hbl : FrameBlind Pc) (hPc : ∀ U : State, U.heap = H → s.WarmedH U.vm → Pc (Value.ref a :: As).toArray U) (hn : As.length = mArg j) (hsz : ls.size = mMax k) (hcat : (rest.map fun v => v.category).sum ≤ 8) (hdg : decode (mCode k) pc = .ok (.invokespecial idx, 3)) (hf : cells + mc ≤ R.cells ∧ slots + ms ≤ R.slots) :
    va_Run p l e R s m args below meth c H locs cells slots mc ms (F0 m pc ls (As.reverse ++ .ref a :: rest)) rest (Qc (Value.ref a :: As).toArray) free := by
  obtain ⟨hx, hb, hml, hown, hts, hnm, hret, hlk, hW⟩ := C
  rcases Bool.or_eq_true _ _ |>.mp hv with hv | hv
  · obtain ⟨r, hr, hv⟩ := List.any_eq_true.mp hv
    simp only [Bool.and_eq_true] at hv
    obtain ⟨⟨h1, h2⟩, h3⟩ := hv
    have e1 := beqE h1
    have e2 := beqE h2
    have e3 := beqE h3
    have hf2 := List.all_eq_true.mp cT_ok r hr
    simp only [cChk, Bool.and_eq_true, decide_eq_true_eq] at hf2
    rw [e1, e2, e3] at hf2
    obtain ⟨⟨⟨⟨q1, q2⟩, q3⟩, q4⟩, q5⟩ := hf2
    obtain ⟨f1, f2, f3, f4⟩ := mFacts q3
    have hmx := mMax_le j (by omega)
    have hcode : wsM j = Jvm.Cond.code (mName j) (mCode j) (mMax j) none :: tblG := by
      rw [← q5]
      rfl
    exact va_runI (Ts := tblG) (own := rcl (mOwn k)) ⟨hx, hb, hml, hown, hts⟩ hM ⟨callB_of (mArg j) hts (goodG q3) hcode rfl rfl (hts _ f1) (hts _ (tAt_in q1)) f3 ⟨by show d + 1 + 1 ≤ R.frames; omega, by show 8 + (mMax j + 11) + 60 * (d + 1) ≤ R.locals; omega⟩, q4, hts _ (tAt_in q2)⟩ ⟨hbl, hPc⟩ rfl hn hsz rfl (lv_room hcat) hdg hf
  · obtain ⟨r, hr, hv⟩ := List.any_eq_true.mp hv
    simp only [Bool.and_eq_true] at hv
    obtain ⟨⟨h1, h2⟩, h3⟩ := hv
    have e1 := beqE h1
    have e2 := beqE h2
    have e3 := beqE h3
    have hf2 := List.all_eq_true.mp cnT_ok r hr
    simp only [cnChk, Bool.and_eq_true, decide_eq_true_eq] at hf2
    rw [e1, e2, e3] at hf2
    obtain ⟨⟨⟨⟨q1, q2⟩, q3⟩, q4⟩, q5⟩ := hf2
    obtain ⟨f1, f2, f3, f4⟩ := mFacts q3
    have hmx := mMax_le j (by omega)
    have hcode : wsM j = Jvm.Cond.code (mName j) (mCode j) (mMax j) none :: tblG := by
      rw [← q5]
      rfl
    have hnest := hW.2.1 r (List.mem_append_right _ hr)
    rw [e1, e2, e3] at hnest
    exact va_runIN (Ts := tblG) (own := rcl (mOwn k)) ⟨hx, hb, hml, hown, hts⟩ hM ⟨va_cnB (mArg j) hts (goodG q3) hcode rfl rfl hnest (hts _ f1) f3 ⟨by show d + 1 + 1 ≤ R.frames; omega, by show 8 + (mMax j + 11) + 60 * (d + 1) ≤ R.locals; omega⟩, q4, hts _ (tAt_in q2)⟩ ⟨hbl, hPc⟩ rfl hn hsz rfl (lv_room hcat) hdg hf
theorem newW (C : Cx p s m args meth c k g Ls xs D cA) (hR : Rel g Ls xs D cA s.heap h H locs) (hn : nT.any (fun r => Nat.beq r.2.2.1 (mOwn k) && Nat.beq r.2.2.2.1 idx && Nat.beq r.2.2.2.2 ci) = true) (hdg : decode (mCode k) pc = .ok (.new idx, 3)) (hc : cells + 1 ≤ R.cells) (hs : slots + nF ci ≤ R.slots)
    (kk : ∀ H1 : Heap, Rel g Ls xs D cA s.heap (newO h ci (nF ci)) H1 locs → W p l e R s m args below meth c H1 locs (cells + 1) (slots + nF ci) Q (F0 m (pc + 3) ls (.ref (adr g (NX h)) :: rest))) : W p l e R s m args below meth c H locs cells slots Q (F0 m pc ls rest) := by
  obtain ⟨hx, hb, hml, hown, hts, hnm, hret, hlk, hW⟩ := C
  obtain ⟨r, hr, hv⟩ := List.any_eq_true.mp hn
  simp only [Bool.and_eq_true] at hv
  obtain ⟨⟨h1, h2⟩, h3⟩ := hv
  have e1 := beqE h1
  have e2 := beqE h2
  have e3 := beqE h3
  have hf2 := List.all_eq_true.mp nT_ok r hr
  simp only [nChk, Bool.and_eq_true, decide_eq_true_eq] at hf2
  rw [e1, e2, e3] at hf2
  obtain ⟨⟨⟨q1, q2⟩, q3⟩, q4⟩ := hf2
  obtain ⟨c1, c2, c3, c4⟩ := clsP _ q4
  have hKn := hW.1.1 _ _ c1
  have ea : adr g (NX h) = H.size := by rw [adr_big g (show 2 ≤ NX h from sgm_2 hR.1), show sgi (NX h) = AN h from sgi_m _, hR.2.2.2.1]
  refine W.newcK hx hb hown (hts _ (tAt_in q1)) (hts _ (tAt_in q2)) (hts _ (tAt_in q3)) rfl hdg hc hs hKn.2.1 rfl fun H1 kC hkC e1 z1 o1 => ?_
  rw [← ea]
  refine kk H1 (hR.push hW.2.2.2.2.2.2.2.2.2.2 ?_ z1 o1)
  have ek : AK (newO h ci (nF ci)) (NX h) = (ci, nF ci) := if_pos rfl
  rw [ce_obj (by rw [ek]; exact q4)]
  refine ⟨_, by rw [ek]; exact c1, ?_⟩
  rw [ek]
  refine (u_born (tyT ci) hts c2 hKn hkC e1 c3).to (fun j hj => ?_)
  unfold vp_V
  rw [List.getD_eq_getElem?_getD, fvs_at (by rw [ek]; exact hj), ek]
  have eI : AI (newO h ci (nF ci)) (NX h) j = 0 := congrFun (show AI (newO h ci (nF ci)) (NX h) = fun _ => 0 from if_pos rfl) j
  have eL : AL (newO h ci (nF ci)) (NX h) j = 0 := congrFun (show AL (newO h ci (nF ci)) (NX h) = fun _ => 0 from if_pos rfl) j
  have eR : AR (newO h ci (nF ci)) (NX h) j = none := congrFun (show AR (newO h ci (nF ci)) (NX h) = fun _ => none from if_pos rfl) j
  have hok := okTy_all ci q4 j hj
  show defaultValue (tyT ci j) = rv g (rdf (ftg ci j) (newO h ci (nF ci)) (NX h) j)
  unfold rdf ftg
  rw [eI, eL, eR]
  cases ht : tyT ci j <;> rw [ht] at hok <;> first | (cases hok; done) | rfl
theorem fcA {t : Nat} {ty : FieldType} (hW : WF g Ls xs D cA s) (ht : (tyl cA)[t]? = some (cA t, ty)) (hp : ∀ C, ty ≠ .object C) {cA' : ClassId} (h2 : s.vm.findClass ("[" ++ ty.toString) = some cA') : cA' = cA t := by
  have h1 := (hW.1.2 t _ ht).2
  unfold va_RA at h1
  cases ty <;> first | exact absurd rfl (hp _) | exact Option.some.inj (h2.symm.trans h1)
theorem newaW {x : Int32} {at' : ArrayType} {t kd : Nat} {ty : FieldType} (C : Cx p s m args meth c k g Ls xs D cA) (hR : Rel g Ls xs D cA s.heap h H locs) (hty : newarray.typeOf at' = ty) (ht : (tyl cA)[t]? = some (cA t, ty)) (hp : ∀ C, ty ≠ .object C) (hw : (Jvm.Cond.arrayClass ty) ∈ tblG)
    (hce : ∀ n, ce g cA (newO h kd n) (NX h) = .inl (cA t, n, if kd = 21 then .inr (.inl (fun _ => 0)) else .inl (fun _ => 0))) (hdf : defaultValue ty = if kd = 21 then .long 0 else .int 0) (hcb : componentBytes ty ≤ 8) (h0 : ¬ x < 0) (hle : x.toNatClampNeg ≤ 1000000) (hdg : decode (mCode k) pc = .ok (.newarray at', 2)) (hc : cells + 1 ≤ R.cells) (hs : slots + x.toNatClampNeg ≤ R.slots)
    (kk : ∀ H1 : Heap, Rel g Ls xs D cA s.heap (newO h kd x.toNatClampNeg) H1 locs → W p l e R s m args below meth c H1 locs (cells + 1) (slots + x.toNatClampNeg) Q (F0 m (pc + 2) ls (.ref (adr g (NX h)) :: rest))) : W p l e R s m args below meth c H locs cells slots Q (F0 m pc ls (.int x :: rest)) := by
  obtain ⟨hx, hb, hml, hown, hts, hnm, hret, hlk, hW⟩ := C
  have ea : adr g (NX h) = H.size := by rw [adr_big g (show 2 ≤ NX h from sgm_2 hR.1), show sgi (NX h) = AN h from sgi_m _, hR.2.2.2.1]
  subst hty
  have hbytes : x.toNatClampNeg * componentBytes (newarray.typeOf at') ≤ 536870912 := Nat.le_trans (Nat.mul_le_mul hle hcb) (by decide)
  refine va_newaK hx hb (hts _ hw) rfl hdg rfl h0 rfl hbytes hc hs rfl fun H1 cA' e1 z1 o1 hA hfc => ?_
  have e2 := fcA hW ht hp hfc
  subst e2
  rw [← ea]
  refine kk H1 (hR.push hW.2.2.2.2.2.2.2.2.2.2 ?_ z1 o1)
  rw [hce]
  show H1[H.size]? = some (vp_cell _ _)
  rw [e1, hdf]
  by_cases h21 : kd = 21
  · rw [if_pos h21, if_pos h21, vp_cell_l]
  · rw [if_neg h21, if_neg h21, vp_cell_i]
theorem newqW {x : Int32} (C : Cx p s m args meth c k g Ls xs D cA) (hR : Rel g Ls xs D cA s.heap h H locs) (hk : mOwn k = 11) (h0 : ¬ x < 0) (hle : x.toNatClampNeg ≤ 1000000) (hdg : decode (mCode k) pc = .ok (.anewarray 61, 3)) (hc : cells + 1 ≤ R.cells) (hs : slots + x.toNatClampNeg ≤ R.slots)
    (kk : ∀ H1 : Heap, Rel g Ls xs D cA s.heap (newO h 24 x.toNatClampNeg) H1 locs → W p l e R s m args below meth c H1 locs (cells + 1) (slots + x.toNatClampNeg) Q (F0 m (pc + 3) ls (.ref (adr g (NX h)) :: rest))) : W p l e R s m args below meth c H locs cells slots Q (F0 m pc ls (.int x :: rest)) := by
  obtain ⟨hx, hb, hml, hown, hts, hnm, hret, hlk, hW⟩ := C
  have ea : adr g (NX h) = H.size := by rw [adr_big g (show 2 ≤ NX h from sgm_2 hR.1), show sgi (NX h) = AN h from sgi_m _, hR.2.2.2.1]
  rw [hk] at hown
  refine W.anew hx hb (own := rcl 11) (C := "CutsOrFast$Player") hown (hts _ (tAt_in anw_ok)) (va_AO.use hW.2.2.2.2.1) rfl hdg rfl h0 (Nat.le_trans (Nat.mul_le_mul_right 4 hle) (by decide)) hc hs fun cA' kA comp f1 f2 f3 f4 => ?_
  obtain ⟨kA', comp', -, -, -, k4⟩ := (hW.1.2 4 _ rfl).2
  have e2 : cA' = cA 4 := Option.some.inj (f1.symm.trans k4)
  subst e2
  generalize hH1 : H.push ({ cls := cA 4, slots := Array.replicate x.toNatClampNeg .null, vm := .none } : Cell) = H1
  have z1 : H1.size = H.size + 1 := by rw [← hH1, Array.size_push]
  have e1 : H1[H.size]? = some (arrV (cA 4) x.toNatClampNeg (fun _ => .null)) := by rw [← hH1, Array.getElem?_push_size, ← arrV_new]
  have o1 : ∀ q : Nat, q < H.size → H1[q]? = H[q]? := fun q hq => by rw [← hH1, Array.getElem?_push, if_neg (Nat.ne_of_lt hq)]
  rw [← ea]
  refine kk H1 (hR.push hW.2.2.2.2.2.2.2.2.2.2 ?_ z1 o1)
  have ek : AK (newO h 24 x.toNatClampNeg) (NX h) = (24, x.toNatClampNeg) := if_pos rfl
  have eR : AR (newO h 24 x.toNatClampNeg) (NX h) = fun _ => none := if_pos rfl
  rw [ce_ref (by rw [ek]), ek, eR]
  show H1[H.size]? = some (vp_cell _ _)
  rw [e1, vp_cell_q]
  rfl
end RUNS
