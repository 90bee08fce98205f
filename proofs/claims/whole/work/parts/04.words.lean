theorem kmt_1 {w : Cond} (h0 : w ∈ tables_1_1) : w ∈ tables_1 := by
  show w ∈ tables_1_1 ++ (tables_1_2 ++ (tables_1_3 ++ (tables_1_4 ++ (tables_1_5 ++ tables_1_6))))
  exact List.mem_append_left _ h0
theorem kmem_1 {w : Cond} (i : Nat) (h : tables_1_1[i]? = some w) (hg : goodWord w = true) : w ∈ gtbl := List.mem_filter.mpr ⟨List.mem_append_right _ (kmt_1 (List.mem_of_getElem? h)), hg⟩
theorem kmt_2 {w : Cond} (h0 : w ∈ tables_1_2) : w ∈ tables_1 := by
  show w ∈ tables_1_1 ++ (tables_1_2 ++ (tables_1_3 ++ (tables_1_4 ++ (tables_1_5 ++ tables_1_6))))
  exact List.mem_append_right _ (List.mem_append_left _ h0)
theorem kmem_2 {w : Cond} (i : Nat) (h : tables_1_2[i]? = some w) (hg : goodWord w = true) : w ∈ gtbl := List.mem_filter.mpr ⟨List.mem_append_right _ (kmt_2 (List.mem_of_getElem? h)), hg⟩
theorem kmt_3 {w : Cond} (h0 : w ∈ tables_1_3) : w ∈ tables_1 := by
  show w ∈ tables_1_1 ++ (tables_1_2 ++ (tables_1_3 ++ (tables_1_4 ++ (tables_1_5 ++ tables_1_6))))
  exact List.mem_append_right _ (List.mem_append_right _ (List.mem_append_left _ h0))
theorem kmem_3 {w : Cond} (i : Nat) (h : tables_1_3[i]? = some w) (hg : goodWord w = true) : w ∈ gtbl := List.mem_filter.mpr ⟨List.mem_append_right _ (kmt_3 (List.mem_of_getElem? h)), hg⟩
theorem kmt_4 {w : Cond} (h0 : w ∈ tables_1_4) : w ∈ tables_1 := by
  show w ∈ tables_1_1 ++ (tables_1_2 ++ (tables_1_3 ++ (tables_1_4 ++ (tables_1_5 ++ tables_1_6))))
  exact List.mem_append_right _ (List.mem_append_right _ (List.mem_append_right _ (List.mem_append_left _ h0)))
theorem kmem_4 {w : Cond} (i : Nat) (h : tables_1_4[i]? = some w) (hg : goodWord w = true) : w ∈ gtbl := List.mem_filter.mpr ⟨List.mem_append_right _ (kmt_4 (List.mem_of_getElem? h)), hg⟩
theorem kmt_5 {w : Cond} (h0 : w ∈ tables_1_5) : w ∈ tables_1 := by
  show w ∈ tables_1_1 ++ (tables_1_2 ++ (tables_1_3 ++ (tables_1_4 ++ (tables_1_5 ++ tables_1_6))))
  exact List.mem_append_right _ (List.mem_append_right _ (List.mem_append_right _ (List.mem_append_right _ (List.mem_append_left _ h0))))
theorem kmem_5 {w : Cond} (i : Nat) (h : tables_1_5[i]? = some w) (hg : goodWord w = true) : w ∈ gtbl := List.mem_filter.mpr ⟨List.mem_append_right _ (kmt_5 (List.mem_of_getElem? h)), hg⟩
theorem kmt_6 {w : Cond} (h0 : w ∈ tables_1_6) : w ∈ tables_1 := by
  show w ∈ tables_1_1 ++ (tables_1_2 ++ (tables_1_3 ++ (tables_1_4 ++ (tables_1_5 ++ tables_1_6))))
  exact List.mem_append_right _ (List.mem_append_right _ (List.mem_append_right _ (List.mem_append_right _ (List.mem_append_right _ (h0)))))
theorem kmem_6 {w : Cond} (i : Nat) (h : tables_1_6[i]? = some w) (hg : goodWord w = true) : w ∈ gtbl := List.mem_filter.mpr ⟨List.mem_append_right _ (kmt_6 (List.mem_of_getElem? h)), hg⟩
theorem hin_of {C : String} {T : u_T} {N : Nat} (h : ∀ k, k < N → u_lay C T k ∈ gtbl) : ∀ w ∈ u_ws C T N, w ∈ gtbl := by
  intro w hw
  obtain ⟨k, hk, rfl⟩ := List.mem_map.mp hw
  exact h k (List.mem_range.mp hk)
set_option maxRecDepth 100000 in
theorem tw_0 : Cond.selects RX11 yX11_error yX11_error ∈ gtbl := kmem 0 rfl rfl
set_option maxRecDepth 100000 in
theorem tw_1 : Cond.selects RX7 yX7_valueOf yX7_valueOf ∈ gtbl := kmem 1 rfl rfl
set_option maxRecDepth 100000 in
theorem tw_2 : Cond.selects RX4 yX4_isTold yX4_isTold ∈ gtbl := kmem 2 rfl rfl
set_option maxRecDepth 100000 in
theorem tw_3 : Cond.selects RX4 yX4_workedOut yX4_workedOut ∈ gtbl := kmem 3 rfl rfl
set_option maxRecDepth 100000 in
theorem tw_4 : Cond.selects RX7 yX7_paid yX7_paid ∈ gtbl := kmem 4 rfl rfl
set_option maxRecDepth 100000 in
theorem tw_5 : Cond.selects RX7 yX7_law yX7_law ∈ gtbl := kmem 5 rfl rfl
set_option maxRecDepth 100000 in
theorem tw_6 : Cond.selects RX4 yX4_fault yX4_fault ∈ gtbl := kmem 6 rfl rfl
set_option maxRecDepth 100000 in
theorem tw_7 : Cond.selects RX4 yX4_readEither yX4_readEither ∈ gtbl := kmem 7 rfl rfl
set_option maxRecDepth 100000 in
theorem tw_8 : Cond.selects RX4 yX4_readBoth yX4_readBoth ∈ gtbl := kmem 8 rfl rfl
set_option maxRecDepth 100000 in
theorem tw_9 : Cond.selects RX4 yX4_readCompared yX4_readCompared ∈ gtbl := kmem 9 rfl rfl
set_option maxRecDepth 100000 in
theorem tw_10 : Cond.selects RX4 yX4_readAdded yX4_readAdded ∈ gtbl := kmem 10 rfl rfl
set_option maxRecDepth 100000 in
theorem tw_11 : Cond.selects RX4 yX4_readTimes yX4_readTimes ∈ gtbl := kmem 11 rfl rfl
set_option maxRecDepth 100000 in
theorem tw_12 : Cond.selects RX4 yX4_readOne yX4_readOne ∈ gtbl := kmem 12 rfl rfl
set_option maxRecDepth 100000 in
theorem tw_13 : Cond.selects RX4 yX4_next yX4_next ∈ gtbl := kmem 13 rfl rfl
set_option maxRecDepth 100000 in
theorem tw_14 : Cond.selects RX4 yX4_readNumber yX4_readNumber ∈ gtbl := kmem 14 rfl rfl
set_option maxRecDepth 100000 in
theorem tw_15 : Cond.selects RX4 yX4_write yX4_write ∈ gtbl := kmem 15 rfl rfl
set_option maxRecDepth 100000 in
theorem tw_16 : Cond.selects RX4 yX4_nameOf yX4_nameOf ∈ gtbl := kmem 16 rfl rfl
set_option maxRecDepth 100000 in
theorem tw_17 : Cond.selects RX4 yX4_readClose yX4_readClose ∈ gtbl := kmem 17 rfl rfl
set_option maxRecDepth 100000 in
theorem tw_18 : Cond.selects RX11 yX11_refusal_ yX11_refusal_ ∈ gtbl := kmem 18 rfl rfl
set_option maxRecDepth 100000 in
theorem tw_19 : Cond.selects RX11 yX11_isMissing yX11_isMissing ∈ gtbl := kmem 19 rfl rfl
set_option maxRecDepth 100000 in
theorem tw_20 : Cond.selects RX11 yX11_reads yX11_reads ∈ gtbl := kmem 20 rfl rfl
set_option maxRecDepth 100000 in
theorem tw_21 : Cond.selects RX0 yX0_clear yX0_clear ∈ gtbl := kmem 21 rfl rfl
set_option maxRecDepth 100000 in
theorem tw_22 : Cond.selects RX0 yX0_add yX0_add ∈ gtbl := kmem 22 rfl rfl
set_option maxRecDepth 100000 in
theorem tw_23 : Cond.selects RX0 yX0_sumBy yX0_sumBy ∈ gtbl := kmem 23 rfl rfl
set_option maxRecDepth 100000 in
theorem tw_24 : Cond.selects RX11 yX11_refusal yX11_refusal ∈ gtbl := kmem 24 rfl rfl
set_option maxRecDepth 100000 in
theorem tw_25 : Cond.selects RX7 yX7_hasStock yX7_hasStock ∈ gtbl := kmem 25 rfl rfl
set_option maxRecDepth 100000 in
theorem tw_26 : Cond.selects RX7 yX7_sold yX7_sold ∈ gtbl := kmem 26 rfl rfl
set_option maxRecDepth 100000 in
theorem tw_27 : Cond.selects RX7 yX7_drawn yX7_drawn ∈ gtbl := kmem 27 rfl rfl
set_option maxRecDepth 100000 in
theorem tw_28 : Cond.selects RX11 yX11_findCheapest yX11_findCheapest ∈ gtbl := kmem 28 rfl rfl
set_option maxRecDepth 100000 in
theorem tw_29 : Cond.selects RX0 yX0_copy yX0_copy ∈ gtbl := kmem 29 rfl rfl
set_option maxRecDepth 100000 in
theorem tw_30 : Cond.selects RX0 yX0_step yX0_step ∈ gtbl := kmem 30 rfl rfl
set_option maxRecDepth 100000 in
theorem tw_31 : Cond.selects RX11 yX11_paidIfDearer yX11_paidIfDearer ∈ gtbl := kmem 31 rfl rfl
set_option maxRecDepth 100000 in
theorem tw_32 : Cond.selects RX11 yX11_allByNine yX11_allByNine ∈ gtbl := kmem 32 rfl rfl
set_option maxRecDepth 100000 in
theorem tw_33 : Cond.selects RX11 yX11_leastOfFew yX11_leastOfFew ∈ gtbl := kmem 33 rfl rfl
set_option maxRecDepth 100000 in
theorem tw_34 : Cond.selects RX11 yX11_startFew yX11_startFew ∈ gtbl := kmem 34 rfl rfl
set_option maxRecDepth 100000 in
theorem tw_35 : Cond.selects RX11 yX11_takenInCases yX11_takenInCases ∈ gtbl := kmem 35 rfl rfl
set_option maxRecDepth 100000 in
theorem tw_36 : Cond.selects RX0 yX0_rowAsNumber yX0_rowAsNumber ∈ gtbl := kmem 36 rfl rfl
set_option maxRecDepth 100000 in
theorem tw_37 : Cond.selects RX10 yX10_start yX10_start ∈ gtbl := kmem 37 rfl rfl
set_option maxRecDepth 100000 in
theorem tw_38 : Cond.selects RX10 yX10_began yX10_began ∈ gtbl := kmem 38 rfl rfl
set_option maxRecDepth 100000 in
theorem tw_39 : Cond.selects RX11 yX11_stand yX11_stand ∈ gtbl := kmem 39 rfl rfl
set_option maxRecDepth 100000 in
theorem tw_40 : Cond.selects RX7 yX7_become yX7_become ∈ gtbl := kmem 40 rfl rfl
set_option maxRecDepth 100000 in
theorem tw_41 : Cond.selects RX4 yX4_become yX4_become ∈ gtbl := kmem 41 rfl rfl
set_option maxRecDepth 100000 in
theorem tw_42 : Cond.selects RX7 yX7_stockOfAll yX7_stockOfAll ∈ gtbl := kmem 42 rfl rfl
set_option maxRecDepth 100000 in
theorem tw_43 : Cond.selects RX12 yX12_error yX12_error ∈ gtbl := kmem 43 rfl rfl
set_option maxRecDepth 100000 in
theorem tw_44 : Cond.selects RX12 yX12_whole yX12_whole ∈ gtbl := kmem 44 rfl rfl
set_option maxRecDepth 100000 in
theorem tw_45 : Cond.selects RX12 yX12_both yX12_both ∈ gtbl := kmem 45 rfl rfl
set_option maxRecDepth 100000 in
theorem tw_46 : Cond.selects RX12 yX12_compared yX12_compared ∈ gtbl := kmem 46 rfl rfl
set_option maxRecDepth 100000 in
theorem tw_47 : Cond.selects RX12 yX12_sum yX12_sum ∈ gtbl := kmem 47 rfl rfl
set_option maxRecDepth 100000 in
theorem tw_48 : Cond.selects RX12 yX12_product yX12_product ∈ gtbl := kmem 48 rfl rfl
set_option maxRecDepth 100000 in
theorem tw_49 : Cond.selects RX12 yX12_one yX12_one ∈ gtbl := kmem 49 rfl rfl
set_option maxRecDepth 100000 in
theorem tw_50 : Cond.selects RX12 yX12_look yX12_look ∈ gtbl := kmem 50 rfl rfl
set_option maxRecDepth 100000 in
theorem tw_51 : Cond.selects RX12 yX12_isName yX12_isName ∈ gtbl := kmem 51 rfl rfl
set_option maxRecDepth 100000 in
theorem tw_52 : Cond.selects RX12 yX12_step1 yX12_step1 ∈ gtbl := kmem 52 rfl rfl
set_option maxRecDepth 100000 in
theorem tw_53 : Cond.selects RX12 yX12_opens yX12_opens ∈ gtbl := kmem 53 rfl rfl
set_option maxRecDepth 100000 in
theorem tw_54 : Cond.selects RX12 yX12_hasText yX12_hasText ∈ gtbl := kmem 54 rfl rfl
set_option maxRecDepth 100000 in
theorem tw_55 : Cond.selects RX12 yX12_change1 yX12_change1 ∈ gtbl := kmem 55 rfl rfl
set_option maxRecDepth 100000 in
theorem tw_56 : Cond.selects RX12 yX12_values yX12_values ∈ gtbl := kmem 56 rfl rfl
set_option maxRecDepth 100000 in
theorem tw_57 : Cond.selects RX12 yX12_worked yX12_worked ∈ gtbl := kmem 57 rfl rfl
set_option maxRecDepth 100000 in
theorem tw_58 : Cond.selects RX12 yX12_kindOf yX12_kindOf ∈ gtbl := kmem 58 rfl rfl
set_option maxRecDepth 100000 in
theorem tw_59 : Cond.selects RX12 yX12_mOf yX12_mOf ∈ gtbl := kmem 59 rfl rfl
set_option maxRecDepth 100000 in
theorem tw_60 : Cond.selects RX12 yX12_asked yX12_asked ∈ gtbl := kmem 60 rfl rfl
set_option maxRecDepth 100000 in
theorem tw_61 : Cond.selects RX12 yX12_lacks yX12_lacks ∈ gtbl := kmem 61 rfl rfl
set_option maxRecDepth 100000 in
theorem tw_62 : Cond.selects RX12 yX12_tells yX12_tells ∈ gtbl := kmem 62 rfl rfl
set_option maxRecDepth 100000 in
theorem tw_63 : Cond.selects RX12 yX12_sumOf yX12_sumOf ∈ gtbl := kmem 63 rfl rfl
set_option maxRecDepth 100000 in
theorem tw_64 : Cond.selects RX12 yX12_costOf yX12_costOf ∈ gtbl := kmem 64 rfl rfl
set_option maxRecDepth 100000 in
theorem tw_65 : Cond.selects RX12 yX12_paid yX12_paid ∈ gtbl := kmem 65 rfl rfl
set_option maxRecDepth 100000 in
theorem tw_66 : Cond.selects RX12 yX12_isInStock yX12_isInStock ∈ gtbl := kmem 66 rfl rfl
set_option maxRecDepth 100000 in
theorem tw_67 : Cond.selects RX12 yX12_goes yX12_goes ∈ gtbl := kmem 67 rfl rfl
set_option maxRecDepth 100000 in
theorem tw_68 : Cond.selects RX12 yX12_draw yX12_draw ∈ gtbl := kmem 68 rfl rfl
set_option maxRecDepth 100000 in
theorem tw_69 : Cond.selects RX12 yX12_seeks yX12_seeks ∈ gtbl := kmem 69 rfl rfl
set_option maxRecDepth 100000 in
theorem tw_70 : Cond.selects RX12 yX12_tries yX12_tries ∈ gtbl := kmem 70 rfl rfl
set_option maxRecDepth 100000 in
theorem tw_71 : Cond.selects RX12 yX12_parts yX12_parts ∈ gtbl := kmem 71 rfl rfl
set_option maxRecDepth 100000 in
theorem tw_72 : Cond.selects RX12 yX12_allSmall yX12_allSmall ∈ gtbl := kmem 72 rfl rfl
set_option maxRecDepth 100000 in
theorem tw_73 : Cond.selects RX12 yX12_small yX12_small ∈ gtbl := kmem 73 rfl rfl
set_option maxRecDepth 100000 in
theorem tw_74 : Cond.selects RX12 yX12_addsAs yX12_addsAs ∈ gtbl := kmem 74 rfl rfl
set_option maxRecDepth 100000 in
theorem tw_75 : Cond.selects RX12 yX12_begins yX12_begins ∈ gtbl := kmem 75 rfl rfl
set_option maxRecDepth 100000 in
theorem tw_76 : Cond.selects RX12 yX12_comesAs yX12_comesAs ∈ gtbl := kmem 76 rfl rfl
set_option maxRecDepth 100000 in
theorem tw_77 : Cond.selects RX12 yX12_givesAs yX12_givesAs ∈ gtbl := kmem 77 rfl rfl
set_option maxRecDepth 100000 in
theorem tw_78 : Cond.selects RX12 yX12_partsAs yX12_partsAs ∈ gtbl := kmem 78 rfl rfl
set_option maxRecDepth 100000 in
theorem tw_79 : Cond.initialized RL ∈ gtbl := kmem_1 0 rfl rfl
set_option maxRecDepth 100000 in
theorem tw_80 : Cond.initialized RX11 ∈ gtbl := kmem_1 1 rfl rfl
set_option maxRecDepth 100000 in
theorem tw_81 : Cond.initialized RX7 ∈ gtbl := kmem_1 2 rfl rfl
set_option maxRecDepth 100000 in
theorem tw_82 : Cond.initialized RX4 ∈ gtbl := kmem_1 3 rfl rfl
set_option maxRecDepth 100000 in
theorem tw_83 : Cond.initialized RX8 ∈ gtbl := kmem_1 4 rfl rfl
set_option maxRecDepth 100000 in
theorem tw_84 : Cond.initialized RX3 ∈ gtbl := kmem_1 5 rfl rfl
set_option maxRecDepth 100000 in
theorem tw_85 : Cond.initialized RX6 ∈ gtbl := kmem_1 6 rfl rfl
set_option maxRecDepth 100000 in
theorem tw_86 : Cond.initialized RX1 ∈ gtbl := kmem_1 7 rfl rfl
set_option maxRecDepth 100000 in
theorem tw_87 : Cond.initialized RX5 ∈ gtbl := kmem_1 8 rfl rfl
set_option maxRecDepth 100000 in
theorem tw_88 : Cond.initialized RX2 ∈ gtbl := kmem_1 9 rfl rfl
set_option maxRecDepth 100000 in
theorem tw_89 : Cond.initialized RX9 ∈ gtbl := kmem_1 10 rfl rfl
set_option maxRecDepth 100000 in
theorem tw_90 : Cond.initialized RX10 ∈ gtbl := kmem_1 11 rfl rfl
set_option maxRecDepth 100000 in
theorem tw_91 : Cond.initialized RX0 ∈ gtbl := kmem_1 12 rfl rfl
set_option maxRecDepth 100000 in
theorem tw_92 : Cond.initialized RX12 ∈ gtbl := kmem_1 13 rfl rfl
set_option maxRecDepth 100000 in
theorem tw_93 : Cond.initialized RJ9 ∈ gtbl := kmem_1 14 rfl rfl
set_option maxRecDepth 100000 in
theorem tw_94 : Cond.initialized RJ10 ∈ gtbl := kmem_1 15 rfl rfl
set_option maxRecDepth 100000 in
theorem tw_95 : Cond.initialized RJ0 ∈ gtbl := kmem_1 16 rfl rfl
set_option maxRecDepth 100000 in
theorem tw_96 : Cond.initialized RJ1 ∈ gtbl := kmem_1 17 rfl rfl
set_option maxRecDepth 100000 in
theorem tw_97 : Cond.initialized RJ3 ∈ gtbl := kmem_1 18 rfl rfl
set_option maxRecDepth 100000 in
theorem tw_98 : Cond.initialized RJ2 ∈ gtbl := kmem_1 19 rfl rfl
set_option maxRecDepth 100000 in
theorem tw_99 : Cond.classLink RL 7 "FigureTill" ∈ gtbl := kmem_1 20 rfl rfl
set_option maxRecDepth 100000 in
theorem tw_100 : Cond.instantiable RX11 17 ∈ gtbl := kmem_1 21 rfl rfl
set_option maxRecDepth 100000 in
theorem tw_101 : Cond.methodLink RL 9 yX11_init ∈ gtbl := kmem_1 22 rfl rfl
set_option maxRecDepth 100000 in
theorem tw_102 : Cond.instanceMethod yX11_init ∈ gtbl := kmem_1 23 rfl rfl
set_option maxRecDepth 100000 in
theorem tw_103 : Cond.code yX11_init prog_1_method_1_code 1 (Option.none : Option Jvm.ClassFile.FieldType) ∈ gtbl := kmem_1 24 rfl rfl
set_option maxRecDepth 100000 in
theorem tw_104 : Cond.methodLink RX11 1 ⟨"java/lang/Object", "<init>", "()V"⟩ ∈ gtbl := kmem_1 25 rfl rfl
set_option maxRecDepth 100000 in
theorem tw_105 : Cond.instanceMethod ⟨"java/lang/Object", "<init>", "()V"⟩ ∈ gtbl := kmem_1 26 rfl rfl
set_option maxRecDepth 100000 in
theorem tw_106 : Cond.code ⟨"java/lang/Object", "<init>", "()V"⟩ object_method_1_code 1 (Option.none : Option Jvm.ClassFile.FieldType) ∈ gtbl := kmem_1 27 rfl rfl
set_option maxRecDepth 100000 in
theorem tw_107 : Cond.classLink RX11 7 "FigureTill$Shop" ∈ gtbl := kmem_1 28 rfl rfl
set_option maxRecDepth 100000 in
theorem tw_108 : Cond.instantiable RX7 12 ∈ gtbl := kmem_1 29 rfl rfl
set_option maxRecDepth 100000 in
theorem tw_110 : Cond.instanceMethod yX7_init ∈ gtbl := kmem_1 31 rfl rfl
set_option maxRecDepth 100000 in
theorem tw_111 : Cond.code yX7_init prog_9_method_1_code 2 (Option.none : Option Jvm.ClassFile.FieldType) ∈ gtbl := kmem_1 32 rfl rfl
set_option maxRecDepth 100000 in
theorem tw_112 : Cond.methodLink RX7 3 ⟨"java/lang/Object", "<init>", "()V"⟩ ∈ gtbl := kmem_1 33 rfl rfl
set_option maxRecDepth 100000 in
theorem tw_113 : Cond.classLink RX7 9 "[[I" ∈ gtbl := kmem_1 34 rfl rfl
set_option maxRecDepth 100000 in
theorem tw_115 : Cond.classLink RX7 16 "FigureTill$Till" ∈ gtbl := kmem_1 36 rfl rfl
set_option maxRecDepth 100000 in
theorem tw_117 : Cond.classLink RX7 42 "FigureTill$Law" ∈ gtbl := kmem_1 38 rfl rfl
set_option maxRecDepth 100000 in
theorem tw_118 : Cond.instantiable RX4 10 ∈ gtbl := kmem_1 39 rfl rfl
set_option maxRecDepth 100000 in
theorem tw_121 : Cond.instanceMethod yX4_init ∈ gtbl := kmem_1 42 rfl rfl
set_option maxRecDepth 100000 in
theorem tw_122 : Cond.code yX4_init prog_6_method_1_code 2 (Option.none : Option Jvm.ClassFile.FieldType) ∈ gtbl := kmem_1 43 rfl rfl
set_option maxRecDepth 100000 in
theorem tw_123 : Cond.methodLink RX4 3 ⟨"java/lang/Object", "<init>", "()V"⟩ ∈ gtbl := kmem_1 44 rfl rfl
set_option maxRecDepth 100000 in
theorem tw_124 : Cond.fieldLink RX4 41 "FigureTill$Law" "names" "Ljava/lang/String;" ∈ gtbl := kmem_1 45 rfl rfl
set_option maxRecDepth 100000 in
theorem tw_125 : Cond.fieldLink RX4 9 "FigureTill$Law" "code" "[I" ∈ gtbl := kmem_1 46 rfl rfl
set_option maxRecDepth 100000 in
theorem tw_126 : Cond.fieldLink RX4 15 "FigureTill$Law" "length" "I" ∈ gtbl := kmem_1 47 rfl rfl
set_option maxRecDepth 100000 in
theorem tw_128 : Cond.fieldLink RX4 19 "FigureTill$Law" "stack" "[I" ∈ gtbl := kmem_1 49 rfl rfl
set_option maxRecDepth 100000 in
theorem tw_129 : Cond.fieldLink RX4 22 "FigureTill$Law" "bytes" "[I" ∈ gtbl := kmem_1 50 rfl rfl
set_option maxRecDepth 100000 in
theorem tw_130 : Cond.fieldLink RX4 25 "FigureTill$Law" "draft" "[I" ∈ gtbl := kmem_1 51 rfl rfl
set_option maxRecDepth 100000 in
theorem tw_131 : Cond.fieldLink RX4 28 "FigureTill$Law" "drafted" "I" ∈ gtbl := kmem_1 52 rfl rfl
set_option maxRecDepth 100000 in
theorem tw_132 : Cond.fieldLink RX4 31 "FigureTill$Law" "end" "I" ∈ gtbl := kmem_1 53 rfl rfl
set_option maxRecDepth 100000 in
theorem tw_133 : Cond.fieldLink RX4 34 "FigureTill$Law" "place" "I" ∈ gtbl := kmem_1 54 rfl rfl
set_option maxRecDepth 100000 in
theorem tw_134 : Cond.fieldLink RX4 37 "FigureTill$Law" "failed" "Z" ∈ gtbl := kmem_1 55 rfl rfl
set_option maxRecDepth 100000 in
theorem tw_155 : Cond.superclass "FigureTill$Law" "java/lang/Object" ∈ gtbl := kmem_1 76 rfl rfl
set_option maxRecDepth 100000 in
theorem tw_156 : Cond.arrayClass Jvm.ClassFile.FieldType.int ∈ gtbl := kmem_1 77 rfl rfl
set_option maxRecDepth 100000 in
theorem tw_162 : Cond.static yX11_tillOf ∈ gtbl := kmem_1 83 rfl rfl
set_option maxRecDepth 100000 in
theorem tw_163 : Cond.code yX11_tillOf prog_1_method_59_code 3 (Option.some (Jvm.ClassFile.FieldType.object "FigureTill$Till")) ∈ gtbl := kmem_1 84 rfl rfl
set_option maxRecDepth 100000 in
theorem tw_164 : Cond.classLink RX11 310 "FigureTill$LastTill" ∈ gtbl := kmem_1 85 rfl rfl
set_option maxRecDepth 100000 in
theorem tw_165 : Cond.instantiable RX3 2 ∈ gtbl := kmem_1 86 rfl rfl
set_option maxRecDepth 100000 in
theorem tw_166 : Cond.methodLink RX11 312 yX3_init ∈ gtbl := kmem_1 87 rfl rfl
set_option maxRecDepth 100000 in
theorem tw_167 : Cond.instanceMethod yX3_init ∈ gtbl := kmem_1 88 rfl rfl
set_option maxRecDepth 100000 in
theorem tw_168 : Cond.code yX3_init prog_5_method_1_code 3 (Option.none : Option Jvm.ClassFile.FieldType) ∈ gtbl := kmem_1 89 rfl rfl
set_option maxRecDepth 100000 in
theorem tw_169 : Cond.methodLink RX3 1 yX8_init ∈ gtbl := kmem_1 90 rfl rfl
set_option maxRecDepth 100000 in
theorem tw_170 : Cond.instanceMethod yX8_init ∈ gtbl := kmem_1 91 rfl rfl
set_option maxRecDepth 100000 in
theorem tw_171 : Cond.code yX8_init prog_10_method_1_code 3 (Option.none : Option Jvm.ClassFile.FieldType) ∈ gtbl := kmem_1 92 rfl rfl
set_option maxRecDepth 100000 in
theorem tw_172 : Cond.methodLink RX8 1 ⟨"java/lang/Object", "<init>", "()V"⟩ ∈ gtbl := kmem_1 93 rfl rfl
set_option maxRecDepth 100000 in
theorem tw_173 : Cond.fieldLink RX8 7 "FigureTill$Till" "number" "I" ∈ gtbl := kmem_1 94 rfl rfl
set_option maxRecDepth 100000 in
theorem tw_174 : Cond.fieldLink RX2 40 "FigureTill$FloorTill" "number" "I" ∈ gtbl := kmem_1 95 rfl rfl
set_option maxRecDepth 100000 in
theorem tw_175 : Cond.sameField "FigureTill$FloorTill" "FigureTill$Till" "number" "I" ∈ gtbl := kmem_1 96 rfl rfl
set_option maxRecDepth 100000 in
theorem tw_176 : Cond.fieldLink RX8 13 "FigureTill$Till" "m" "I" ∈ gtbl := kmem_1 97 rfl rfl
set_option maxRecDepth 100000 in
theorem tw_177 : Cond.fieldLink RX2 11 "FigureTill$FloorTill" "m" "I" ∈ gtbl := kmem_1 98 rfl rfl
set_option maxRecDepth 100000 in
theorem tw_178 : Cond.sameField "FigureTill$FloorTill" "FigureTill$Till" "m" "I" ∈ gtbl := kmem_1 99 rfl rfl
set_option maxRecDepth 100000 in
theorem tw_179 : Cond.fieldLink RX1 11 "FigureTill$ErrsTill" "m" "I" ∈ gtbl := kmem_1 100 rfl rfl
set_option maxRecDepth 100000 in
theorem tw_180 : Cond.sameField "FigureTill$ErrsTill" "FigureTill$Till" "m" "I" ∈ gtbl := kmem_1 101 rfl rfl
set_option maxRecDepth 100000 in
theorem tw_181 : Cond.fieldLink RX5 11 "FigureTill$OtherTill" "m" "I" ∈ gtbl := kmem_1 102 rfl rfl
set_option maxRecDepth 100000 in
theorem tw_182 : Cond.sameField "FigureTill$OtherTill" "FigureTill$Till" "m" "I" ∈ gtbl := kmem_1 103 rfl rfl
set_option maxRecDepth 100000 in
theorem tw_183 : Cond.fieldLink RX9 17 "FigureTill$ToldTill" "m" "I" ∈ gtbl := kmem_1 104 rfl rfl
set_option maxRecDepth 100000 in
theorem tw_184 : Cond.sameField "FigureTill$ToldTill" "FigureTill$Till" "m" "I" ∈ gtbl := kmem_1 105 rfl rfl
set_option maxRecDepth 100000 in
theorem tw_185 : Cond.fieldLink RX11 116 "FigureTill$Till" "m" "I" ∈ gtbl := kmem_1 106 rfl rfl
set_option maxRecDepth 100000 in
theorem tw_190 : Cond.superclass "FigureTill$LastTill" "FigureTill$Till" ∈ gtbl := kmem_1 111 rfl rfl
set_option maxRecDepth 100000 in
theorem tw_191 : Cond.classLink RX11 314 "FigureTill$RootTill" ∈ gtbl := kmem_1 112 rfl rfl
set_option maxRecDepth 100000 in
theorem tw_192 : Cond.instantiable RX6 2 ∈ gtbl := kmem_1 113 rfl rfl
set_option maxRecDepth 100000 in
theorem tw_193 : Cond.methodLink RX11 316 yX6_init ∈ gtbl := kmem_1 114 rfl rfl
set_option maxRecDepth 100000 in
theorem tw_194 : Cond.instanceMethod yX6_init ∈ gtbl := kmem_1 115 rfl rfl
set_option maxRecDepth 100000 in
theorem tw_195 : Cond.code yX6_init prog_8_method_1_code 3 (Option.none : Option Jvm.ClassFile.FieldType) ∈ gtbl := kmem_1 116 rfl rfl
set_option maxRecDepth 100000 in
theorem tw_196 : Cond.methodLink RX6 1 yX8_init ∈ gtbl := kmem_1 117 rfl rfl
set_option maxRecDepth 100000 in
theorem tw_199 : Cond.superclass "FigureTill$RootTill" "FigureTill$Till" ∈ gtbl := kmem_1 120 rfl rfl
set_option maxRecDepth 100000 in
theorem tw_200 : Cond.classLink RX11 317 "FigureTill$ErrsTill" ∈ gtbl := kmem_1 121 rfl rfl
set_option maxRecDepth 100000 in
theorem tw_201 : Cond.instantiable RX1 2 ∈ gtbl := kmem_1 122 rfl rfl
set_option maxRecDepth 100000 in
theorem tw_202 : Cond.methodLink RX11 319 yX1_init ∈ gtbl := kmem_1 123 rfl rfl
set_option maxRecDepth 100000 in
theorem tw_203 : Cond.instanceMethod yX1_init ∈ gtbl := kmem_1 124 rfl rfl
set_option maxRecDepth 100000 in
theorem tw_204 : Cond.code yX1_init prog_3_method_1_code 3 (Option.none : Option Jvm.ClassFile.FieldType) ∈ gtbl := kmem_1 125 rfl rfl
set_option maxRecDepth 100000 in
theorem tw_205 : Cond.methodLink RX1 1 yX8_init ∈ gtbl := kmem_1 126 rfl rfl
set_option maxRecDepth 100000 in
theorem tw_208 : Cond.superclass "FigureTill$ErrsTill" "FigureTill$Till" ∈ gtbl := kmem_1 129 rfl rfl
set_option maxRecDepth 100000 in
theorem tw_209 : Cond.classLink RX11 320 "FigureTill$OtherTill" ∈ gtbl := kmem_1 130 rfl rfl
set_option maxRecDepth 100000 in
theorem tw_210 : Cond.instantiable RX5 2 ∈ gtbl := kmem_1 131 rfl rfl
set_option maxRecDepth 100000 in
theorem tw_211 : Cond.methodLink RX11 322 yX5_init ∈ gtbl := kmem_1 132 rfl rfl
set_option maxRecDepth 100000 in
theorem tw_212 : Cond.instanceMethod yX5_init ∈ gtbl := kmem_1 133 rfl rfl
set_option maxRecDepth 100000 in
theorem tw_213 : Cond.code yX5_init prog_7_method_1_code 3 (Option.none : Option Jvm.ClassFile.FieldType) ∈ gtbl := kmem_1 134 rfl rfl
set_option maxRecDepth 100000 in
theorem tw_214 : Cond.methodLink RX5 1 yX6_init ∈ gtbl := kmem_1 135 rfl rfl
set_option maxRecDepth 100000 in
theorem tw_217 : Cond.superclass "FigureTill$OtherTill" "FigureTill$RootTill" ∈ gtbl := kmem_1 138 rfl rfl
set_option maxRecDepth 100000 in
theorem tw_218 : Cond.classLink RX11 323 "FigureTill$FloorTill" ∈ gtbl := kmem_1 139 rfl rfl
set_option maxRecDepth 100000 in
theorem tw_219 : Cond.instantiable RX2 2 ∈ gtbl := kmem_1 140 rfl rfl
set_option maxRecDepth 100000 in
theorem tw_220 : Cond.methodLink RX11 325 yX2_init ∈ gtbl := kmem_1 141 rfl rfl
set_option maxRecDepth 100000 in
theorem tw_221 : Cond.instanceMethod yX2_init ∈ gtbl := kmem_1 142 rfl rfl
set_option maxRecDepth 100000 in
theorem tw_222 : Cond.code yX2_init prog_4_method_1_code 3 (Option.none : Option Jvm.ClassFile.FieldType) ∈ gtbl := kmem_1 143 rfl rfl
set_option maxRecDepth 100000 in
theorem tw_223 : Cond.methodLink RX2 1 yX3_init ∈ gtbl := kmem_1 144 rfl rfl
set_option maxRecDepth 100000 in
theorem tw_226 : Cond.superclass "FigureTill$FloorTill" "FigureTill$LastTill" ∈ gtbl := kmem_1 147 rfl rfl
set_option maxRecDepth 100000 in
theorem tw_227 : Cond.classLink RX11 326 "FigureTill$ToldTill" ∈ gtbl := kmem_1 148 rfl rfl
set_option maxRecDepth 100000 in
theorem tw_228 : Cond.instantiable RX9 2 ∈ gtbl := kmem_1 149 rfl rfl
set_option maxRecDepth 100000 in
theorem tw_229 : Cond.methodLink RX11 328 yX9_init ∈ gtbl := kmem_1 150 rfl rfl
set_option maxRecDepth 100000 in
theorem tw_230 : Cond.instanceMethod yX9_init ∈ gtbl := kmem_1 151 rfl rfl
set_option maxRecDepth 100000 in
theorem tw_231 : Cond.code yX9_init prog_11_method_1_code 3 (Option.none : Option Jvm.ClassFile.FieldType) ∈ gtbl := kmem_1 152 rfl rfl
set_option maxRecDepth 100000 in
theorem tw_232 : Cond.methodLink RX9 1 yX8_init ∈ gtbl := kmem_1 153 rfl rfl
set_option maxRecDepth 100000 in
theorem tw_235 : Cond.superclass "FigureTill$ToldTill" "FigureTill$Till" ∈ gtbl := kmem_1 156 rfl rfl
set_option maxRecDepth 100000 in
theorem tw_236 : Cond.classLink RX11 111 "FigureTill$Till" ∈ gtbl := kmem_1 157 rfl rfl
set_option maxRecDepth 100000 in
theorem tw_237 : Cond.instantiable RX8 2 ∈ gtbl := kmem_1 158 rfl rfl
set_option maxRecDepth 100000 in
theorem tw_238 : Cond.methodLink RX11 329 yX8_init ∈ gtbl := kmem_1 159 rfl rfl
set_option maxRecDepth 100000 in
theorem tw_241 : Cond.superclass "FigureTill$Till" "java/lang/Object" ∈ gtbl := kmem_1 162 rfl rfl
set_option maxRecDepth 100000 in
theorem tw_242 : Cond.fieldLink RX7 11 "FigureTill$Shop" "goods" "[[I" ∈ gtbl := kmem_1 163 rfl rfl
set_option maxRecDepth 100000 in
theorem tw_244 : Cond.fieldLink RX7 18 "FigureTill$Shop" "tills" "[LFigureTill$Till;" ∈ gtbl := kmem_1 165 rfl rfl
set_option maxRecDepth 100000 in
theorem tw_246 : Cond.fieldLink RX7 22 "FigureTill$Shop" "takings" "I" ∈ gtbl := kmem_1 167 rfl rfl
set_option maxRecDepth 100000 in
theorem tw_248 : Cond.fieldLink RX7 26 "FigureTill$Shop" "costs" "I" ∈ gtbl := kmem_1 169 rfl rfl
set_option maxRecDepth 100000 in
theorem tw_250 : Cond.fieldLink RX7 29 "FigureTill$Shop" "goes" "I" ∈ gtbl := kmem_1 171 rfl rfl
set_option maxRecDepth 100000 in
theorem tw_252 : Cond.fieldLink RX7 32 "FigureTill$Shop" "z" "I" ∈ gtbl := kmem_1 173 rfl rfl
set_option maxRecDepth 100000 in
theorem tw_254 : Cond.fieldLink RX7 35 "FigureTill$Shop" "tape" "[I" ∈ gtbl := kmem_1 175 rfl rfl
set_option maxRecDepth 100000 in
theorem tw_256 : Cond.fieldLink RX7 39 "FigureTill$Shop" "fed" "I" ∈ gtbl := kmem_1 177 rfl rfl
set_option maxRecDepth 100000 in
theorem tw_258 : Cond.fieldLink RX7 49 "FigureTill$Shop" "paysLaw" "LFigureTill$Law;" ∈ gtbl := kmem_1 179 rfl rfl
set_option maxRecDepth 100000 in
theorem tw_259 : Cond.fieldLink RX7 55 "FigureTill$Shop" "valuesLaw" "LFigureTill$Law;" ∈ gtbl := kmem_1 180 rfl rfl
set_option maxRecDepth 100000 in
theorem tw_260 : Cond.fieldLink RX7 58 "FigureTill$Shop" "waiting" "[I" ∈ gtbl := kmem_1 181 rfl rfl
set_option maxRecDepth 100000 in
theorem tw_262 : Cond.fieldLink RX7 61 "FigureTill$Shop" "waits" "I" ∈ gtbl := kmem_1 183 rfl rfl
set_option maxRecDepth 100000 in
theorem tw_288 : Cond.superclass "FigureTill$Shop" "java/lang/Object" ∈ gtbl := kmem_1 209 rfl rfl
set_option maxRecDepth 100000 in
theorem tw_289 : Cond.classLink RX11 34 "[[I" ∈ gtbl := kmem_1 210 rfl rfl
set_option maxRecDepth 100000 in
theorem tw_290 : Cond.classLink RX11 39 "FigureTill$Trace" ∈ gtbl := kmem_1 211 rfl rfl
set_option maxRecDepth 100000 in
theorem tw_291 : Cond.instantiable RX10 3 ∈ gtbl := kmem_1 212 rfl rfl
set_option maxRecDepth 100000 in
theorem tw_293 : Cond.instanceMethod yX10_init ∈ gtbl := kmem_1 214 rfl rfl
set_option maxRecDepth 100000 in
theorem tw_294 : Cond.code yX10_init prog_12_method_1_code 1 (Option.none : Option Jvm.ClassFile.FieldType) ∈ gtbl := kmem_1 215 rfl rfl
set_option maxRecDepth 100000 in
theorem tw_295 : Cond.methodLink RX10 3 ⟨"java/lang/Object", "<init>", "()V"⟩ ∈ gtbl := kmem_1 216 rfl rfl
set_option maxRecDepth 100000 in
theorem tw_296 : Cond.fieldLink RX10 9 "FigureTill$Trace" "bodies" "[I" ∈ gtbl := kmem_1 217 rfl rfl
set_option maxRecDepth 100000 in
theorem tw_298 : Cond.fieldLink RX10 15 "FigureTill$Trace" "length" "I" ∈ gtbl := kmem_1 219 rfl rfl
set_option maxRecDepth 100000 in
theorem tw_300 : Cond.fieldLink RX10 19 "FigureTill$Trace" "parted" "Z" ∈ gtbl := kmem_1 221 rfl rfl
set_option maxRecDepth 100000 in
theorem tw_310 : Cond.superclass "FigureTill$Trace" "java/lang/Object" ∈ gtbl := kmem_1 231 rfl rfl
set_option maxRecDepth 100000 in
theorem tw_311 : Cond.classLink RX11 49 "FigureTill$Basket" ∈ gtbl := kmem_1 232 rfl rfl
set_option maxRecDepth 100000 in
theorem tw_312 : Cond.instantiable RX0 3 ∈ gtbl := kmem_1 233 rfl rfl
set_option maxRecDepth 100000 in
theorem tw_314 : Cond.instanceMethod yX0_init ∈ gtbl := kmem_1 235 rfl rfl
set_option maxRecDepth 100000 in
theorem tw_315 : Cond.code yX0_init prog_2_method_1_code 1 (Option.none : Option Jvm.ClassFile.FieldType) ∈ gtbl := kmem_1 236 rfl rfl
set_option maxRecDepth 100000 in
theorem tw_316 : Cond.methodLink RX0 3 ⟨"java/lang/Object", "<init>", "()V"⟩ ∈ gtbl := kmem_1 237 rfl rfl
set_option maxRecDepth 100000 in
theorem tw_317 : Cond.fieldLink RX0 9 "FigureTill$Basket" "row" "[I" ∈ gtbl := kmem_1 238 rfl rfl
set_option maxRecDepth 100000 in
theorem tw_320 : Cond.fieldLink RX0 15 "FigureTill$Basket" "things" "I" ∈ gtbl := kmem_2 1 rfl rfl
set_option maxRecDepth 100000 in
theorem tw_323 : Cond.fieldLink RX0 19 "FigureTill$Basket" "sum" "I" ∈ gtbl := kmem_2 4 rfl rfl
set_option maxRecDepth 100000 in
theorem tw_332 : Cond.superclass "FigureTill$Basket" "java/lang/Object" ∈ gtbl := kmem_2 13 rfl rfl
set_option maxRecDepth 100000 in
theorem tw_333 : Cond.fieldLink RX11 10 "FigureTill" "shop" "LFigureTill$Shop;" ∈ gtbl := kmem_2 14 rfl rfl
set_option maxRecDepth 100000 in
theorem tw_334 : Cond.fieldLink RX11 16 "FigureTill" "kept" "LFigureTill$Shop;" ∈ gtbl := kmem_2 15 rfl rfl
set_option maxRecDepth 100000 in
theorem tw_335 : Cond.fieldLink RX11 19 "FigureTill" "imaged" "Z" ∈ gtbl := kmem_2 16 rfl rfl
set_option maxRecDepth 100000 in
theorem tw_336 : Cond.fieldLink RX11 23 "FigureTill" "images" "I" ∈ gtbl := kmem_2 17 rfl rfl
set_option maxRecDepth 100000 in
theorem tw_337 : Cond.fieldLink RX11 27 "FigureTill" "sheetBits" "[I" ∈ gtbl := kmem_2 18 rfl rfl
set_option maxRecDepth 100000 in
theorem tw_338 : Cond.fieldLink RX11 31 "FigureTill" "sheetLengths" "[I" ∈ gtbl := kmem_2 19 rfl rfl
set_option maxRecDepth 100000 in
theorem tw_339 : Cond.fieldLink RX11 36 "FigureTill" "sheetNumbers" "[[I" ∈ gtbl := kmem_2 20 rfl rfl
set_option maxRecDepth 100000 in
theorem tw_340 : Cond.fieldLink RX11 42 "FigureTill" "trace" "LFigureTill$Trace;" ∈ gtbl := kmem_2 21 rfl rfl
set_option maxRecDepth 100000 in
theorem tw_341 : Cond.fieldLink RX11 46 "FigureTill" "errors" "[I" ∈ gtbl := kmem_2 22 rfl rfl
set_option maxRecDepth 100000 in
theorem tw_342 : Cond.fieldLink RX11 52 "FigureTill" "one" "LFigureTill$Basket;" ∈ gtbl := kmem_2 23 rfl rfl
set_option maxRecDepth 100000 in
theorem tw_343 : Cond.fieldLink RX11 56 "FigureTill" "second" "LFigureTill$Basket;" ∈ gtbl := kmem_2 24 rfl rfl
set_option maxRecDepth 100000 in
theorem tw_344 : Cond.fieldLink RX11 59 "FigureTill" "extra" "LFigureTill$Basket;" ∈ gtbl := kmem_2 25 rfl rfl
set_option maxRecDepth 100000 in
theorem tw_345 : Cond.fieldLink RX11 62 "FigureTill" "room" "[I" ∈ gtbl := kmem_2 26 rfl rfl
set_option maxRecDepth 100000 in
theorem tw_346 : Cond.fieldLink RX11 65 "FigureTill" "values" "[I" ∈ gtbl := kmem_2 27 rfl rfl
set_option maxRecDepth 100000 in
theorem tw_347 : Cond.fieldLink RX11 68 "FigureTill" "best" "LFigureTill$Basket;" ∈ gtbl := kmem_2 28 rfl rfl
set_option maxRecDepth 100000 in
theorem tw_348 : Cond.fieldLink RX11 71 "FigureTill" "bestPaid" "I" ∈ gtbl := kmem_2 29 rfl rfl
set_option maxRecDepth 100000 in
theorem tw_349 : Cond.fieldLink RX11 74 "FigureTill" "bestNet" "I" ∈ gtbl := kmem_2 30 rfl rfl
set_option maxRecDepth 100000 in
theorem tw_384 : Cond.superclass "FigureTill" "java/lang/Object" ∈ gtbl := kmem_2 65 rfl rfl
set_option maxRecDepth 100000 in
theorem tw_385 : Cond.methodLink RL 13 yX11_thing ∈ gtbl := kmem_2 66 rfl rfl
set_option maxRecDepth 100000 in
theorem tw_386 : Cond.instanceMethod yX11_thing ∈ gtbl := kmem_2 67 rfl rfl
set_option maxRecDepth 100000 in
theorem tw_387 : Cond.selects RX11 yX11_thing yX11_thing ∈ gtbl := kmem_2 68 rfl rfl
set_option maxRecDepth 100000 in
theorem tw_388 : Cond.code yX11_thing prog_1_method_2_code 5 (Option.some Jvm.ClassFile.FieldType.int) ∈ gtbl := kmem_2 69 rfl rfl
set_option maxRecDepth 100000 in
theorem tw_389 : Cond.methodLink RX11 77 yX11_isThing ∈ gtbl := kmem_2 70 rfl rfl
set_option maxRecDepth 100000 in
theorem tw_390 : Cond.static yX11_isThing ∈ gtbl := kmem_2 71 rfl rfl
set_option maxRecDepth 100000 in
theorem tw_391 : Cond.code yX11_isThing prog_1_method_40_code 1 (Option.some Jvm.ClassFile.FieldType.boolean) ∈ gtbl := kmem_2 72 rfl rfl
set_option maxRecDepth 100000 in
theorem tw_392 : Cond.methodLink RX11 81 yX11_within ∈ gtbl := kmem_2 73 rfl rfl
set_option maxRecDepth 100000 in
theorem tw_393 : Cond.static yX11_within ∈ gtbl := kmem_2 74 rfl rfl
set_option maxRecDepth 100000 in
theorem tw_394 : Cond.code yX11_within prog_1_method_38_code 3 (Option.some Jvm.ClassFile.FieldType.boolean) ∈ gtbl := kmem_2 75 rfl rfl
set_option maxRecDepth 100000 in
theorem tw_395 : Cond.methodLink RX11 85 yX11_isGood ∈ gtbl := kmem_2 76 rfl rfl
set_option maxRecDepth 100000 in
theorem tw_396 : Cond.static yX11_isGood ∈ gtbl := kmem_2 77 rfl rfl
set_option maxRecDepth 100000 in
theorem tw_397 : Cond.code yX11_isGood prog_1_method_43_code 2 (Option.some Jvm.ClassFile.FieldType.boolean) ∈ gtbl := kmem_2 78 rfl rfl
set_option maxRecDepth 100000 in
theorem tw_398 : Cond.fieldLink RX11 300 "FigureTill" "LEAST" "[I" ∈ gtbl := kmem_2 79 rfl rfl
set_option maxRecDepth 100000 in
theorem tw_400 : Cond.fieldLink RX11 303 "FigureTill" "MOST" "[I" ∈ gtbl := kmem_2 81 rfl rfl
set_option maxRecDepth 100000 in
theorem tw_402 : Cond.methodLink RX11 89 yX11_error ∈ gtbl := kmem_2 83 rfl rfl
set_option maxRecDepth 100000 in
theorem tw_404 : Cond.instanceMethod yX11_error ∈ gtbl := kmem_2 85 rfl rfl
set_option maxRecDepth 100000 in
theorem tw_405 : Cond.code yX11_error prog_1_method_37_code 2 (Option.some Jvm.ClassFile.FieldType.int) ∈ gtbl := kmem_2 86 rfl rfl
set_option maxRecDepth 100000 in
theorem tw_406 : Cond.constant RX11 296 (-1000000000 : Int32) ∈ gtbl := kmem_2 87 rfl rfl
set_option maxRecDepth 100000 in
theorem tw_407 : Cond.methodLink RL 18 yX11_thingIs ∈ gtbl := kmem_2 88 rfl rfl
set_option maxRecDepth 100000 in
theorem tw_408 : Cond.instanceMethod yX11_thingIs ∈ gtbl := kmem_2 89 rfl rfl
set_option maxRecDepth 100000 in
theorem tw_409 : Cond.selects RX11 yX11_thingIs yX11_thingIs ∈ gtbl := kmem_2 90 rfl rfl
set_option maxRecDepth 100000 in
theorem tw_410 : Cond.code yX11_thingIs prog_1_method_3_code 3 (Option.some Jvm.ClassFile.FieldType.int) ∈ gtbl := kmem_2 91 rfl rfl
set_option maxRecDepth 100000 in
theorem tw_413 : Cond.instanceMethod yX7_valueOf ∈ gtbl := kmem_2 94 rfl rfl
set_option maxRecDepth 100000 in
theorem tw_414 : Cond.code yX7_valueOf prog_9_method_5_code 2 (Option.some Jvm.ClassFile.FieldType.int) ∈ gtbl := kmem_2 95 rfl rfl
set_option maxRecDepth 100000 in
theorem tw_417 : Cond.instanceMethod yX4_isTold ∈ gtbl := kmem_2 98 rfl rfl
set_option maxRecDepth 100000 in
theorem tw_418 : Cond.code yX4_isTold prog_6_method_2_code 1 (Option.some Jvm.ClassFile.FieldType.boolean) ∈ gtbl := kmem_2 99 rfl rfl
set_option maxRecDepth 100000 in
theorem tw_421 : Cond.instanceMethod yX4_workedOut ∈ gtbl := kmem_2 102 rfl rfl
set_option maxRecDepth 100000 in
theorem tw_422 : Cond.code yX4_workedOut prog_6_method_17_code 7 (Option.some Jvm.ClassFile.FieldType.int) ∈ gtbl := kmem_2 103 rfl rfl
set_option maxRecDepth 100000 in
theorem tw_423 : Cond.methodLink RX4 105 yX4_named ∈ gtbl := kmem_2 104 rfl rfl
set_option maxRecDepth 100000 in
theorem tw_424 : Cond.static yX4_named ∈ gtbl := kmem_2 105 rfl rfl
set_option maxRecDepth 100000 in
theorem tw_425 : Cond.code yX4_named prog_6_method_18_code 4 (Option.some Jvm.ClassFile.FieldType.int) ∈ gtbl := kmem_2 106 rfl rfl
set_option maxRecDepth 100000 in
theorem tw_426 : Cond.methodLink RX4 109 yX4_joined ∈ gtbl := kmem_2 107 rfl rfl
set_option maxRecDepth 100000 in
theorem tw_427 : Cond.static yX4_joined ∈ gtbl := kmem_2 108 rfl rfl
set_option maxRecDepth 100000 in
theorem tw_428 : Cond.code yX4_joined prog_6_method_19_code 3 (Option.some Jvm.ClassFile.FieldType.int) ∈ gtbl := kmem_2 109 rfl rfl
set_option maxRecDepth 100000 in
theorem tw_430 : Cond.static yX11_held ∈ gtbl := kmem_2 111 rfl rfl
set_option maxRecDepth 100000 in
theorem tw_431 : Cond.code yX11_held prog_1_method_39_code 2 (Option.some Jvm.ClassFile.FieldType.int) ∈ gtbl := kmem_2 112 rfl rfl
set_option maxRecDepth 100000 in
theorem tw_432 : Cond.methodLink RX11 205 yJ9_min_7cf53 ∈ gtbl := kmem_2 113 rfl rfl
set_option maxRecDepth 100000 in
theorem tw_433 : Cond.static yJ9_min_7cf53 ∈ gtbl := kmem_2 114 rfl rfl
set_option maxRecDepth 100000 in
theorem tw_434 : Cond.code yJ9_min_7cf53 prog_15_method_69_code 2 (Option.some Jvm.ClassFile.FieldType.int) ∈ gtbl := kmem_2 115 rfl rfl
set_option maxRecDepth 100000 in
theorem tw_435 : Cond.methodLink RX11 297 yJ9_max_7cf53 ∈ gtbl := kmem_2 116 rfl rfl
set_option maxRecDepth 100000 in
theorem tw_436 : Cond.static yJ9_max_7cf53 ∈ gtbl := kmem_2 117 rfl rfl
set_option maxRecDepth 100000 in
theorem tw_437 : Cond.code yJ9_max_7cf53 prog_15_method_65_code 2 (Option.some Jvm.ClassFile.FieldType.int) ∈ gtbl := kmem_2 118 rfl rfl
set_option maxRecDepth 100000 in
theorem tw_438 : Cond.methodLink RL 23 yX11_till ∈ gtbl := kmem_2 119 rfl rfl
set_option maxRecDepth 100000 in
theorem tw_439 : Cond.instanceMethod yX11_till ∈ gtbl := kmem_2 120 rfl rfl
set_option maxRecDepth 100000 in
theorem tw_440 : Cond.selects RX11 yX11_till yX11_till ∈ gtbl := kmem_2 121 rfl rfl
set_option maxRecDepth 100000 in
theorem tw_441 : Cond.code yX11_till prog_1_method_4_code 4 (Option.some Jvm.ClassFile.FieldType.int) ∈ gtbl := kmem_2 122 rfl rfl
set_option maxRecDepth 100000 in
theorem tw_442 : Cond.methodLink RX11 99 yX11_isTill ∈ gtbl := kmem_2 123 rfl rfl
set_option maxRecDepth 100000 in
theorem tw_443 : Cond.static yX11_isTill ∈ gtbl := kmem_2 124 rfl rfl
set_option maxRecDepth 100000 in
theorem tw_444 : Cond.code yX11_isTill prog_1_method_41_code 1 (Option.some Jvm.ClassFile.FieldType.boolean) ∈ gtbl := kmem_2 125 rfl rfl
set_option maxRecDepth 100000 in
theorem tw_445 : Cond.methodLink RX11 106 yX11_tillOf ∈ gtbl := kmem_2 126 rfl rfl
set_option maxRecDepth 100000 in
theorem tw_446 : Cond.methodLink RX11 110 yX8_kind ∈ gtbl := kmem_2 127 rfl rfl
set_option maxRecDepth 100000 in
theorem tw_447 : Cond.instanceMethod yX8_kind ∈ gtbl := kmem_2 128 rfl rfl
set_option maxRecDepth 100000 in
theorem tw_448 : Cond.selects RX8 yX8_kind yX8_kind ∈ gtbl := kmem_2 129 rfl rfl
set_option maxRecDepth 100000 in
theorem tw_449 : Cond.sameMethod "FigureTill$Till" "FigureTill$Till" "kind" "()I" ∈ gtbl := kmem_2 130 rfl rfl
set_option maxRecDepth 100000 in
theorem tw_450 : Cond.selects RX1 yX8_kind yX1_kind ∈ gtbl := kmem_2 131 rfl rfl
set_option maxRecDepth 100000 in
theorem tw_451 : Cond.instanceMethod yX1_kind ∈ gtbl := kmem_2 132 rfl rfl
set_option maxRecDepth 100000 in
theorem tw_452 : Cond.code yX1_kind prog_3_method_2_code 1 (Option.some Jvm.ClassFile.FieldType.int) ∈ gtbl := kmem_2 133 rfl rfl
set_option maxRecDepth 100000 in
theorem tw_453 : Cond.selects RX2 yX8_kind yX2_kind ∈ gtbl := kmem_2 134 rfl rfl
set_option maxRecDepth 100000 in
theorem tw_454 : Cond.instanceMethod yX2_kind ∈ gtbl := kmem_2 135 rfl rfl
set_option maxRecDepth 100000 in
theorem tw_455 : Cond.code yX2_kind prog_4_method_2_code 1 (Option.some Jvm.ClassFile.FieldType.int) ∈ gtbl := kmem_2 136 rfl rfl
set_option maxRecDepth 100000 in
theorem tw_456 : Cond.selects RX3 yX8_kind yX3_kind ∈ gtbl := kmem_2 137 rfl rfl
set_option maxRecDepth 100000 in
theorem tw_457 : Cond.instanceMethod yX3_kind ∈ gtbl := kmem_2 138 rfl rfl
set_option maxRecDepth 100000 in
theorem tw_458 : Cond.code yX3_kind prog_5_method_2_code 1 (Option.some Jvm.ClassFile.FieldType.int) ∈ gtbl := kmem_2 139 rfl rfl
set_option maxRecDepth 100000 in
theorem tw_459 : Cond.selects RX5 yX8_kind yX5_kind ∈ gtbl := kmem_2 140 rfl rfl
set_option maxRecDepth 100000 in
theorem tw_460 : Cond.instanceMethod yX5_kind ∈ gtbl := kmem_2 141 rfl rfl
set_option maxRecDepth 100000 in
theorem tw_461 : Cond.code yX5_kind prog_7_method_2_code 1 (Option.some Jvm.ClassFile.FieldType.int) ∈ gtbl := kmem_2 142 rfl rfl
set_option maxRecDepth 100000 in
theorem tw_462 : Cond.selects RX6 yX8_kind yX6_kind ∈ gtbl := kmem_2 143 rfl rfl
set_option maxRecDepth 100000 in
theorem tw_463 : Cond.instanceMethod yX6_kind ∈ gtbl := kmem_2 144 rfl rfl
set_option maxRecDepth 100000 in
theorem tw_464 : Cond.code yX6_kind prog_8_method_2_code 1 (Option.some Jvm.ClassFile.FieldType.int) ∈ gtbl := kmem_2 145 rfl rfl
set_option maxRecDepth 100000 in
theorem tw_465 : Cond.selects RX9 yX8_kind yX9_kind ∈ gtbl := kmem_2 146 rfl rfl
set_option maxRecDepth 100000 in
theorem tw_466 : Cond.instanceMethod yX9_kind ∈ gtbl := kmem_2 147 rfl rfl
set_option maxRecDepth 100000 in
theorem tw_467 : Cond.code yX9_kind prog_11_method_2_code 1 (Option.some Jvm.ClassFile.FieldType.int) ∈ gtbl := kmem_2 148 rfl rfl
set_option maxRecDepth 100000 in
theorem tw_468 : Cond.code yX8_kind prog_10_method_2_code 1 (Option.some Jvm.ClassFile.FieldType.int) ∈ gtbl := kmem_2 149 rfl rfl
set_option maxRecDepth 100000 in
theorem tw_469 : Cond.methodLink RL 27 yX11_tillIs ∈ gtbl := kmem_2 150 rfl rfl
set_option maxRecDepth 100000 in
theorem tw_470 : Cond.instanceMethod yX11_tillIs ∈ gtbl := kmem_2 151 rfl rfl
set_option maxRecDepth 100000 in
theorem tw_471 : Cond.selects RX11 yX11_tillIs yX11_tillIs ∈ gtbl := kmem_2 152 rfl rfl
set_option maxRecDepth 100000 in
theorem tw_472 : Cond.code yX11_tillIs prog_1_method_5_code 3 (Option.some Jvm.ClassFile.FieldType.int) ∈ gtbl := kmem_2 153 rfl rfl
set_option maxRecDepth 100000 in
theorem tw_473 : Cond.methodLink RL 31 yX11_as ∈ gtbl := kmem_2 154 rfl rfl
set_option maxRecDepth 100000 in
theorem tw_474 : Cond.instanceMethod yX11_as ∈ gtbl := kmem_2 155 rfl rfl
set_option maxRecDepth 100000 in
theorem tw_475 : Cond.selects RX11 yX11_as yX11_as ∈ gtbl := kmem_2 156 rfl rfl
set_option maxRecDepth 100000 in
theorem tw_476 : Cond.code yX11_as prog_1_method_6_code 3 (Option.some Jvm.ClassFile.FieldType.int) ∈ gtbl := kmem_2 157 rfl rfl
set_option maxRecDepth 100000 in
theorem tw_477 : Cond.methodLink RX11 119 yX8_isOf ∈ gtbl := kmem_2 158 rfl rfl
set_option maxRecDepth 100000 in
theorem tw_478 : Cond.instanceMethod yX8_isOf ∈ gtbl := kmem_2 159 rfl rfl
set_option maxRecDepth 100000 in
theorem tw_479 : Cond.selects RX8 yX8_isOf yX8_isOf ∈ gtbl := kmem_2 160 rfl rfl
set_option maxRecDepth 100000 in
theorem tw_480 : Cond.sameMethod "FigureTill$Till" "FigureTill$Till" "isOf" "(I)Z" ∈ gtbl := kmem_2 161 rfl rfl
set_option maxRecDepth 100000 in
theorem tw_481 : Cond.selects RX1 yX8_isOf yX1_isOf ∈ gtbl := kmem_2 162 rfl rfl
set_option maxRecDepth 100000 in
theorem tw_482 : Cond.instanceMethod yX1_isOf ∈ gtbl := kmem_2 163 rfl rfl
set_option maxRecDepth 100000 in
theorem tw_483 : Cond.code yX1_isOf prog_3_method_3_code 2 (Option.some Jvm.ClassFile.FieldType.boolean) ∈ gtbl := kmem_2 164 rfl rfl
set_option maxRecDepth 100000 in
theorem tw_484 : Cond.methodLink RX1 7 yX8_isOf ∈ gtbl := kmem_2 165 rfl rfl
set_option maxRecDepth 100000 in
theorem tw_485 : Cond.selects RX2 yX8_isOf yX2_isOf ∈ gtbl := kmem_2 166 rfl rfl
set_option maxRecDepth 100000 in
theorem tw_486 : Cond.instanceMethod yX2_isOf ∈ gtbl := kmem_2 167 rfl rfl
set_option maxRecDepth 100000 in
theorem tw_487 : Cond.code yX2_isOf prog_4_method_3_code 2 (Option.some Jvm.ClassFile.FieldType.boolean) ∈ gtbl := kmem_2 168 rfl rfl
set_option maxRecDepth 100000 in
theorem tw_488 : Cond.methodLink RX2 7 yX3_isOf ∈ gtbl := kmem_2 169 rfl rfl
set_option maxRecDepth 100000 in
theorem tw_489 : Cond.instanceMethod yX3_isOf ∈ gtbl := kmem_2 170 rfl rfl
set_option maxRecDepth 100000 in
theorem tw_490 : Cond.code yX3_isOf prog_5_method_3_code 2 (Option.some Jvm.ClassFile.FieldType.boolean) ∈ gtbl := kmem_2 171 rfl rfl
set_option maxRecDepth 100000 in
theorem tw_491 : Cond.methodLink RX3 7 yX8_isOf ∈ gtbl := kmem_2 172 rfl rfl
set_option maxRecDepth 100000 in
theorem tw_492 : Cond.selects RX3 yX8_isOf yX3_isOf ∈ gtbl := kmem_2 173 rfl rfl
set_option maxRecDepth 100000 in
theorem tw_493 : Cond.selects RX5 yX8_isOf yX5_isOf ∈ gtbl := kmem_2 174 rfl rfl
set_option maxRecDepth 100000 in
theorem tw_494 : Cond.instanceMethod yX5_isOf ∈ gtbl := kmem_2 175 rfl rfl
set_option maxRecDepth 100000 in
theorem tw_495 : Cond.code yX5_isOf prog_7_method_3_code 2 (Option.some Jvm.ClassFile.FieldType.boolean) ∈ gtbl := kmem_2 176 rfl rfl
set_option maxRecDepth 100000 in
theorem tw_496 : Cond.methodLink RX5 7 yX6_isOf ∈ gtbl := kmem_2 177 rfl rfl
set_option maxRecDepth 100000 in
theorem tw_497 : Cond.instanceMethod yX6_isOf ∈ gtbl := kmem_2 178 rfl rfl
set_option maxRecDepth 100000 in
theorem tw_498 : Cond.code yX6_isOf prog_8_method_3_code 2 (Option.some Jvm.ClassFile.FieldType.boolean) ∈ gtbl := kmem_2 179 rfl rfl
set_option maxRecDepth 100000 in
theorem tw_499 : Cond.methodLink RX6 7 yX8_isOf ∈ gtbl := kmem_2 180 rfl rfl
set_option maxRecDepth 100000 in
theorem tw_500 : Cond.selects RX6 yX8_isOf yX6_isOf ∈ gtbl := kmem_2 181 rfl rfl
set_option maxRecDepth 100000 in
theorem tw_501 : Cond.selects RX9 yX8_isOf yX9_isOf ∈ gtbl := kmem_2 182 rfl rfl
set_option maxRecDepth 100000 in
theorem tw_502 : Cond.instanceMethod yX9_isOf ∈ gtbl := kmem_2 183 rfl rfl
set_option maxRecDepth 100000 in
theorem tw_503 : Cond.code yX9_isOf prog_11_method_3_code 2 (Option.some Jvm.ClassFile.FieldType.boolean) ∈ gtbl := kmem_2 184 rfl rfl
set_option maxRecDepth 100000 in
theorem tw_504 : Cond.methodLink RX9 7 yX8_isOf ∈ gtbl := kmem_2 185 rfl rfl
set_option maxRecDepth 100000 in
theorem tw_505 : Cond.code yX8_isOf prog_10_method_3_code 2 (Option.some Jvm.ClassFile.FieldType.boolean) ∈ gtbl := kmem_2 186 rfl rfl
set_option maxRecDepth 100000 in
theorem tw_506 : Cond.methodLink RL 35 yX11_figures ∈ gtbl := kmem_2 187 rfl rfl
set_option maxRecDepth 100000 in
theorem tw_507 : Cond.instanceMethod yX11_figures ∈ gtbl := kmem_2 188 rfl rfl
set_option maxRecDepth 100000 in
theorem tw_508 : Cond.selects RX11 yX11_figures yX11_figures ∈ gtbl := kmem_2 189 rfl rfl
set_option maxRecDepth 100000 in
theorem tw_509 : Cond.code yX11_figures prog_1_method_7_code 3 (Option.some Jvm.ClassFile.FieldType.int) ∈ gtbl := kmem_2 190 rfl rfl
set_option maxRecDepth 100000 in
theorem tw_510 : Cond.methodLink RX11 122 yX11_figureSum ∈ gtbl := kmem_2 191 rfl rfl
set_option maxRecDepth 100000 in
theorem tw_511 : Cond.static yX11_figureSum ∈ gtbl := kmem_2 192 rfl rfl
set_option maxRecDepth 100000 in
theorem tw_512 : Cond.code yX11_figureSum prog_1_method_50_code 5 (Option.some Jvm.ClassFile.FieldType.int) ∈ gtbl := kmem_2 193 rfl rfl
set_option maxRecDepth 100000 in
theorem tw_513 : Cond.methodLink RL 39 yX11_asks ∈ gtbl := kmem_2 194 rfl rfl
set_option maxRecDepth 100000 in
theorem tw_514 : Cond.instanceMethod yX11_asks ∈ gtbl := kmem_2 195 rfl rfl
set_option maxRecDepth 100000 in
theorem tw_515 : Cond.selects RX11 yX11_asks yX11_asks ∈ gtbl := kmem_2 196 rfl rfl
set_option maxRecDepth 100000 in
theorem tw_516 : Cond.code yX11_asks prog_1_method_8_code 4 (Option.some Jvm.ClassFile.FieldType.int) ∈ gtbl := kmem_2 197 rfl rfl
set_option maxRecDepth 100000 in
theorem tw_517 : Cond.constant RX11 126 (299970 : Int32) ∈ gtbl := kmem_2 198 rfl rfl
set_option maxRecDepth 100000 in
theorem tw_520 : Cond.instanceMethod yX7_paid ∈ gtbl := kmem_2 201 rfl rfl
set_option maxRecDepth 100000 in
theorem tw_521 : Cond.code yX7_paid prog_9_method_4_code 4 (Option.some Jvm.ClassFile.FieldType.int) ∈ gtbl := kmem_2 202 rfl rfl
set_option maxRecDepth 100000 in
theorem tw_522 : Cond.methodLink RX7 81 yX8_due ∈ gtbl := kmem_2 203 rfl rfl
set_option maxRecDepth 100000 in
theorem tw_523 : Cond.instanceMethod yX8_due ∈ gtbl := kmem_2 204 rfl rfl
set_option maxRecDepth 100000 in
theorem tw_524 : Cond.selects RX8 yX8_due yX8_due ∈ gtbl := kmem_2 205 rfl rfl
set_option maxRecDepth 100000 in
theorem tw_525 : Cond.sameMethod "FigureTill$Till" "FigureTill$Till" "due" "(IILFigureTill$Law;)I" ∈ gtbl := kmem_2 206 rfl rfl
set_option maxRecDepth 100000 in
theorem tw_526 : Cond.selects RX1 yX8_due yX1_due ∈ gtbl := kmem_2 207 rfl rfl
set_option maxRecDepth 100000 in
theorem tw_527 : Cond.instanceMethod yX1_due ∈ gtbl := kmem_2 208 rfl rfl
set_option maxRecDepth 100000 in
theorem tw_528 : Cond.code yX1_due prog_3_method_4_code 4 (Option.some Jvm.ClassFile.FieldType.int) ∈ gtbl := kmem_2 209 rfl rfl
set_option maxRecDepth 100000 in
theorem tw_530 : Cond.selects RX2 yX8_due yX2_due ∈ gtbl := kmem_2 211 rfl rfl
set_option maxRecDepth 100000 in
theorem tw_531 : Cond.instanceMethod yX2_due ∈ gtbl := kmem_2 212 rfl rfl
set_option maxRecDepth 100000 in
theorem tw_532 : Cond.code yX2_due prog_4_method_4_code 4 (Option.some Jvm.ClassFile.FieldType.int) ∈ gtbl := kmem_2 213 rfl rfl
set_option maxRecDepth 100000 in
theorem tw_533 : Cond.methodLink RX2 17 yX3_due ∈ gtbl := kmem_2 214 rfl rfl
set_option maxRecDepth 100000 in
theorem tw_534 : Cond.instanceMethod yX3_due ∈ gtbl := kmem_2 215 rfl rfl
set_option maxRecDepth 100000 in
theorem tw_535 : Cond.code yX3_due prog_5_method_4_code 4 (Option.some Jvm.ClassFile.FieldType.int) ∈ gtbl := kmem_2 216 rfl rfl
set_option maxRecDepth 100000 in
theorem tw_536 : Cond.methodLink RX2 21 yJ9_max_7cf53 ∈ gtbl := kmem_2 217 rfl rfl
set_option maxRecDepth 100000 in
theorem tw_537 : Cond.selects RX3 yX8_due yX3_due ∈ gtbl := kmem_2 218 rfl rfl
set_option maxRecDepth 100000 in
theorem tw_538 : Cond.selects RX5 yX8_due yX5_due ∈ gtbl := kmem_2 219 rfl rfl
set_option maxRecDepth 100000 in
theorem tw_539 : Cond.instanceMethod yX5_due ∈ gtbl := kmem_2 220 rfl rfl
set_option maxRecDepth 100000 in
theorem tw_540 : Cond.code yX5_due prog_7_method_4_code 4 (Option.some Jvm.ClassFile.FieldType.int) ∈ gtbl := kmem_2 221 rfl rfl
set_option maxRecDepth 100000 in
theorem tw_542 : Cond.static yX11_oneFigure ∈ gtbl := kmem_2 223 rfl rfl
set_option maxRecDepth 100000 in
theorem tw_543 : Cond.code yX11_oneFigure prog_1_method_51_code 4 (Option.some Jvm.ClassFile.FieldType.int) ∈ gtbl := kmem_2 224 rfl rfl
set_option maxRecDepth 100000 in
theorem tw_544 : Cond.selects RX6 yX8_due yX6_due ∈ gtbl := kmem_2 225 rfl rfl
set_option maxRecDepth 100000 in
theorem tw_545 : Cond.instanceMethod yX6_due ∈ gtbl := kmem_2 226 rfl rfl
set_option maxRecDepth 100000 in
theorem tw_546 : Cond.code yX6_due prog_8_method_4_code 4 (Option.some Jvm.ClassFile.FieldType.int) ∈ gtbl := kmem_2 227 rfl rfl
set_option maxRecDepth 100000 in
theorem tw_548 : Cond.selects RX9 yX8_due yX9_due ∈ gtbl := kmem_2 229 rfl rfl
set_option maxRecDepth 100000 in
theorem tw_549 : Cond.instanceMethod yX9_due ∈ gtbl := kmem_2 230 rfl rfl
set_option maxRecDepth 100000 in
theorem tw_550 : Cond.code yX9_due prog_11_method_4_code 4 (Option.some Jvm.ClassFile.FieldType.int) ∈ gtbl := kmem_2 231 rfl rfl
set_option maxRecDepth 100000 in
theorem tw_553 : Cond.methodLink RX9 27 yX8_due ∈ gtbl := kmem_2 234 rfl rfl
set_option maxRecDepth 100000 in
theorem tw_554 : Cond.code yX8_due prog_10_method_4_code 4 (Option.some Jvm.ClassFile.FieldType.int) ∈ gtbl := kmem_2 235 rfl rfl
set_option maxRecDepth 100000 in
theorem tw_556 : Cond.methodLink RL 45 yX11_feed ∈ gtbl := kmem_2 237 rfl rfl
set_option maxRecDepth 100000 in
theorem tw_557 : Cond.instanceMethod yX11_feed ∈ gtbl := kmem_2 238 rfl rfl
set_option maxRecDepth 100000 in
theorem tw_558 : Cond.selects RX11 yX11_feed yX11_feed ∈ gtbl := kmem_2 239 rfl rfl
set_option maxRecDepth 100000 in
theorem tw_559 : Cond.code yX11_feed prog_1_method_9_code 5 (Option.some Jvm.ClassFile.FieldType.int) ∈ gtbl := kmem_3 0 rfl rfl
set_option maxRecDepth 100000 in
theorem tw_560 : Cond.methodLink RL 50 yX11_text ∈ gtbl := kmem_3 1 rfl rfl
set_option maxRecDepth 100000 in
theorem tw_561 : Cond.instanceMethod yX11_text ∈ gtbl := kmem_3 2 rfl rfl
set_option maxRecDepth 100000 in
theorem tw_562 : Cond.selects RX11 yX11_text yX11_text ∈ gtbl := kmem_3 3 rfl rfl
set_option maxRecDepth 100000 in
theorem tw_563 : Cond.code yX11_text prog_1_method_10_code 3 (Option.some Jvm.ClassFile.FieldType.int) ∈ gtbl := kmem_3 4 rfl rfl
set_option maxRecDepth 100000 in
theorem tw_566 : Cond.instanceMethod yX7_law ∈ gtbl := kmem_3 7 rfl rfl
set_option maxRecDepth 100000 in
theorem tw_567 : Cond.code yX7_law prog_9_method_3_code 2 (Option.some (Jvm.ClassFile.FieldType.object "FigureTill$Law")) ∈ gtbl := kmem_3 8 rfl rfl
set_option maxRecDepth 100000 in
theorem tw_570 : Cond.instanceMethod yX4_fault ∈ gtbl := kmem_3 11 rfl rfl
set_option maxRecDepth 100000 in
theorem tw_571 : Cond.code yX4_fault prog_6_method_4_code 3 (Option.some Jvm.ClassFile.FieldType.int) ∈ gtbl := kmem_3 12 rfl rfl
set_option maxRecDepth 100000 in
theorem tw_572 : Cond.methodLink RX4 51 yJ9_min_7cf53 ∈ gtbl := kmem_3 13 rfl rfl
set_option maxRecDepth 100000 in
theorem tw_573 : Cond.methodLink RX4 45 ⟨"java/lang/System", "arraycopy", "(Ljava/lang/Object;ILjava/lang/Object;II)V"⟩ ∈ gtbl := kmem_3 14 rfl rfl
set_option maxRecDepth 100000 in
theorem tw_574 : Cond.static ⟨"java/lang/System", "arraycopy", "(Ljava/lang/Object;ILjava/lang/Object;II)V"⟩ ∈ gtbl := kmem_3 15 rfl rfl
set_option maxRecDepth 100000 in
theorem tw_575 : Cond.native ⟨"java/lang/System", "arraycopy", "(Ljava/lang/Object;ILjava/lang/Object;II)V"⟩ ∈ gtbl := kmem_3 16 rfl rfl
set_option maxRecDepth 100000 in
theorem tw_576 : Cond.methodLink RX4 57 yX4_readEither ∈ gtbl := kmem_3 17 rfl rfl
set_option maxRecDepth 100000 in
theorem tw_578 : Cond.instanceMethod yX4_readEither ∈ gtbl := kmem_3 19 rfl rfl
set_option maxRecDepth 100000 in
theorem tw_579 : Cond.code yX4_readEither prog_6_method_7_code 3 (Option.none : Option Jvm.ClassFile.FieldType) ∈ gtbl := kmem_3 20 rfl rfl
set_option maxRecDepth 100000 in
theorem tw_580 : Cond.methodLink RX4 61 yX4_readBoth ∈ gtbl := kmem_3 21 rfl rfl
set_option maxRecDepth 100000 in
theorem tw_582 : Cond.instanceMethod yX4_readBoth ∈ gtbl := kmem_3 23 rfl rfl
set_option maxRecDepth 100000 in
theorem tw_583 : Cond.code yX4_readBoth prog_6_method_8_code 3 (Option.none : Option Jvm.ClassFile.FieldType) ∈ gtbl := kmem_3 24 rfl rfl
set_option maxRecDepth 100000 in
theorem tw_584 : Cond.methodLink RX4 71 yX4_readCompared ∈ gtbl := kmem_3 25 rfl rfl
set_option maxRecDepth 100000 in
theorem tw_586 : Cond.instanceMethod yX4_readCompared ∈ gtbl := kmem_3 27 rfl rfl
set_option maxRecDepth 100000 in
theorem tw_587 : Cond.code yX4_readCompared prog_6_method_9_code 3 (Option.none : Option Jvm.ClassFile.FieldType) ∈ gtbl := kmem_3 28 rfl rfl
set_option maxRecDepth 100000 in
theorem tw_588 : Cond.methodLink RX4 74 yX4_readAdded ∈ gtbl := kmem_3 29 rfl rfl
set_option maxRecDepth 100000 in
theorem tw_590 : Cond.instanceMethod yX4_readAdded ∈ gtbl := kmem_3 31 rfl rfl
set_option maxRecDepth 100000 in
theorem tw_591 : Cond.code yX4_readAdded prog_6_method_10_code 4 (Option.none : Option Jvm.ClassFile.FieldType) ∈ gtbl := kmem_3 32 rfl rfl
set_option maxRecDepth 100000 in
theorem tw_592 : Cond.methodLink RX4 77 yX4_readTimes ∈ gtbl := kmem_3 33 rfl rfl
set_option maxRecDepth 100000 in
theorem tw_594 : Cond.instanceMethod yX4_readTimes ∈ gtbl := kmem_3 35 rfl rfl
set_option maxRecDepth 100000 in
theorem tw_595 : Cond.code yX4_readTimes prog_6_method_11_code 4 (Option.none : Option Jvm.ClassFile.FieldType) ∈ gtbl := kmem_3 36 rfl rfl
set_option maxRecDepth 100000 in
theorem tw_596 : Cond.methodLink RX4 80 yX4_readOne ∈ gtbl := kmem_3 37 rfl rfl
set_option maxRecDepth 100000 in
theorem tw_598 : Cond.instanceMethod yX4_readOne ∈ gtbl := kmem_3 39 rfl rfl
set_option maxRecDepth 100000 in
theorem tw_599 : Cond.code yX4_readOne prog_6_method_12_code 3 (Option.none : Option Jvm.ClassFile.FieldType) ∈ gtbl := kmem_3 40 rfl rfl
set_option maxRecDepth 100000 in
theorem tw_600 : Cond.methodLink RX4 64 yX4_next ∈ gtbl := kmem_3 41 rfl rfl
set_option maxRecDepth 100000 in
theorem tw_602 : Cond.instanceMethod yX4_next ∈ gtbl := kmem_3 43 rfl rfl
set_option maxRecDepth 100000 in
theorem tw_603 : Cond.code yX4_next prog_6_method_5_code 1 (Option.some Jvm.ClassFile.FieldType.int) ∈ gtbl := kmem_3 44 rfl rfl
set_option maxRecDepth 100000 in
theorem tw_604 : Cond.methodLink RX4 83 yX4_isDigit ∈ gtbl := kmem_3 45 rfl rfl
set_option maxRecDepth 100000 in
theorem tw_605 : Cond.static yX4_isDigit ∈ gtbl := kmem_3 46 rfl rfl
set_option maxRecDepth 100000 in
theorem tw_606 : Cond.code yX4_isDigit prog_6_method_15_code 1 (Option.some Jvm.ClassFile.FieldType.boolean) ∈ gtbl := kmem_3 47 rfl rfl
set_option maxRecDepth 100000 in
theorem tw_607 : Cond.methodLink RX4 87 yX4_readNumber ∈ gtbl := kmem_3 48 rfl rfl
set_option maxRecDepth 100000 in
theorem tw_609 : Cond.instanceMethod yX4_readNumber ∈ gtbl := kmem_3 50 rfl rfl
set_option maxRecDepth 100000 in
theorem tw_610 : Cond.code yX4_readNumber prog_6_method_14_code 3 (Option.none : Option Jvm.ClassFile.FieldType) ∈ gtbl := kmem_3 51 rfl rfl
set_option maxRecDepth 100000 in
theorem tw_611 : Cond.methodLink RX4 68 yX4_write ∈ gtbl := kmem_3 52 rfl rfl
set_option maxRecDepth 100000 in
theorem tw_613 : Cond.instanceMethod yX4_write ∈ gtbl := kmem_3 54 rfl rfl
set_option maxRecDepth 100000 in
theorem tw_614 : Cond.code yX4_write prog_6_method_6_code 2 (Option.none : Option Jvm.ClassFile.FieldType) ∈ gtbl := kmem_3 55 rfl rfl
set_option maxRecDepth 100000 in
theorem tw_615 : Cond.methodLink RX4 90 yX4_nameOf ∈ gtbl := kmem_3 56 rfl rfl
set_option maxRecDepth 100000 in
theorem tw_617 : Cond.instanceMethod yX4_nameOf ∈ gtbl := kmem_3 58 rfl rfl
set_option maxRecDepth 100000 in
theorem tw_618 : Cond.code yX4_nameOf prog_6_method_16_code 3 (Option.some Jvm.ClassFile.FieldType.int) ∈ gtbl := kmem_3 59 rfl rfl
set_option maxRecDepth 100000 in
theorem tw_619 : Cond.methodLink RX4 97 yJ0_length_8abf5 ∈ gtbl := kmem_3 60 rfl rfl
set_option maxRecDepth 100000 in
theorem tw_620 : Cond.instanceMethod yJ0_length_8abf5 ∈ gtbl := kmem_3 61 rfl rfl
set_option maxRecDepth 100000 in
theorem tw_621 : Cond.selects RJ0 yJ0_length_8abf5 yJ0_length_8abf5 ∈ gtbl := kmem_3 62 rfl rfl
set_option maxRecDepth 100000 in
theorem tw_622 : Cond.code yJ0_length_8abf5 prog_16_method_54_code 1 (Option.some Jvm.ClassFile.FieldType.int) ∈ gtbl := kmem_3 63 rfl rfl
set_option maxRecDepth 100000 in
theorem tw_623 : Cond.methodLink RJ0 335 yJ0_coder_7d493 ∈ gtbl := kmem_3 64 rfl rfl
set_option maxRecDepth 100000 in
theorem tw_624 : Cond.instanceMethod yJ0_coder_7d493 ∈ gtbl := kmem_3 65 rfl rfl
set_option maxRecDepth 100000 in
theorem tw_625 : Cond.selects RJ0 yJ0_coder_7d493 yJ0_coder_7d493 ∈ gtbl := kmem_3 66 rfl rfl
set_option maxRecDepth 100000 in
theorem tw_626 : Cond.code yJ0_coder_7d493 prog_16_method_152_code 1 (Option.some Jvm.ClassFile.FieldType.byte) ∈ gtbl := kmem_3 67 rfl rfl
set_option maxRecDepth 100000 in
theorem tw_627 : Cond.fieldLink RJ0 38 "java/lang/String" "COMPACT_STRINGS" "Z" ∈ gtbl := kmem_3 68 rfl rfl
set_option maxRecDepth 100000 in
theorem tw_629 : Cond.methodLink RX4 101 yJ0_charAt_5068e ∈ gtbl := kmem_3 70 rfl rfl
set_option maxRecDepth 100000 in
theorem tw_630 : Cond.instanceMethod yJ0_charAt_5068e ∈ gtbl := kmem_3 71 rfl rfl
set_option maxRecDepth 100000 in
theorem tw_631 : Cond.selects RJ0 yJ0_charAt_5068e yJ0_charAt_5068e ∈ gtbl := kmem_3 72 rfl rfl
set_option maxRecDepth 100000 in
theorem tw_632 : Cond.code yJ0_charAt_5068e prog_16_method_56_code 2 (Option.some Jvm.ClassFile.FieldType.char) ∈ gtbl := kmem_3 73 rfl rfl
set_option maxRecDepth 100000 in
theorem tw_633 : Cond.methodLink RJ0 492 yJ0_isLatin1_aae02 ∈ gtbl := kmem_3 74 rfl rfl
set_option maxRecDepth 100000 in
theorem tw_634 : Cond.instanceMethod yJ0_isLatin1_aae02 ∈ gtbl := kmem_3 75 rfl rfl
set_option maxRecDepth 100000 in
theorem tw_635 : Cond.selects RJ0 yJ0_isLatin1_aae02 yJ0_isLatin1_aae02 ∈ gtbl := kmem_3 76 rfl rfl
set_option maxRecDepth 100000 in
theorem tw_636 : Cond.code yJ0_isLatin1_aae02 prog_16_method_154_code 1 (Option.some Jvm.ClassFile.FieldType.boolean) ∈ gtbl := kmem_3 77 rfl rfl
set_option maxRecDepth 100000 in
theorem tw_637 : Cond.methodLink RJ0 495 yJ1_charAt_3b067 ∈ gtbl := kmem_3 78 rfl rfl
set_option maxRecDepth 100000 in
theorem tw_638 : Cond.static yJ1_charAt_3b067 ∈ gtbl := kmem_3 79 rfl rfl
set_option maxRecDepth 100000 in
theorem tw_639 : Cond.code yJ1_charAt_3b067 prog_17_method_2_code 2 (Option.some Jvm.ClassFile.FieldType.char) ∈ gtbl := kmem_3 80 rfl rfl
set_option maxRecDepth 100000 in
theorem tw_640 : Cond.methodLink RJ1 9 yJ0_checkIndex_df160 ∈ gtbl := kmem_3 81 rfl rfl
set_option maxRecDepth 100000 in
theorem tw_641 : Cond.static yJ0_checkIndex_df160 ∈ gtbl := kmem_3 82 rfl rfl
set_option maxRecDepth 100000 in
theorem tw_642 : Cond.code yJ0_checkIndex_df160 prog_16_method_155_code 2 (Option.none : Option Jvm.ClassFile.FieldType) ∈ gtbl := kmem_3 83 rfl rfl
set_option maxRecDepth 100000 in
theorem tw_643 : Cond.fieldLink RJ0 1053 "jdk/internal/util/Preconditions" "SIOOBE_FORMATTER" "Ljava/util/function/BiFunction;" ∈ gtbl := kmem_3 84 rfl rfl
set_option maxRecDepth 100000 in
theorem tw_645 : Cond.methodLink RJ0 1059 yJ3_checkIndex_8e157 ∈ gtbl := kmem_3 86 rfl rfl
set_option maxRecDepth 100000 in
theorem tw_646 : Cond.static yJ3_checkIndex_8e157 ∈ gtbl := kmem_3 87 rfl rfl
set_option maxRecDepth 100000 in
theorem tw_647 : Cond.code yJ3_checkIndex_8e157 prog_20_method_11_code 3 (Option.some Jvm.ClassFile.FieldType.int) ∈ gtbl := kmem_3 88 rfl rfl
set_option maxRecDepth 100000 in
theorem tw_648 : Cond.methodLink RJ0 498 yJ2_charAt_3b067 ∈ gtbl := kmem_3 89 rfl rfl
set_option maxRecDepth 100000 in
theorem tw_649 : Cond.static yJ2_charAt_3b067 ∈ gtbl := kmem_3 90 rfl rfl
set_option maxRecDepth 100000 in
theorem tw_650 : Cond.code yJ2_charAt_3b067 prog_18_method_83_code 2 (Option.some Jvm.ClassFile.FieldType.char) ∈ gtbl := kmem_3 91 rfl rfl
set_option maxRecDepth 100000 in
theorem tw_651 : Cond.methodLink RJ2 67 yJ2_checkIndex_2214a ∈ gtbl := kmem_3 92 rfl rfl
set_option maxRecDepth 100000 in
theorem tw_652 : Cond.static yJ2_checkIndex_2214a ∈ gtbl := kmem_3 93 rfl rfl
set_option maxRecDepth 100000 in
theorem tw_653 : Cond.code yJ2_checkIndex_2214a prog_18_method_91_code 2 (Option.none : Option Jvm.ClassFile.FieldType) ∈ gtbl := kmem_3 94 rfl rfl
set_option maxRecDepth 100000 in
theorem tw_654 : Cond.methodLink RJ2 48 yJ2_length_9d52b ∈ gtbl := kmem_3 95 rfl rfl
set_option maxRecDepth 100000 in
theorem tw_655 : Cond.static yJ2_length_9d52b ∈ gtbl := kmem_3 96 rfl rfl
set_option maxRecDepth 100000 in
theorem tw_656 : Cond.code yJ2_length_9d52b prog_18_method_6_code 1 (Option.some Jvm.ClassFile.FieldType.int) ∈ gtbl := kmem_3 97 rfl rfl
set_option maxRecDepth 100000 in
theorem tw_657 : Cond.methodLink RJ2 414 yJ0_checkIndex_df160 ∈ gtbl := kmem_3 98 rfl rfl
set_option maxRecDepth 100000 in
theorem tw_658 : Cond.methodLink RJ2 71 yJ2_getChar_3b067 ∈ gtbl := kmem_3 99 rfl rfl
set_option maxRecDepth 100000 in
theorem tw_659 : Cond.static yJ2_getChar_3b067 ∈ gtbl := kmem_3 100 rfl rfl
set_option maxRecDepth 100000 in
theorem tw_660 : Cond.code yJ2_getChar_3b067 prog_18_method_5_code 2 (Option.some Jvm.ClassFile.FieldType.char) ∈ gtbl := kmem_3 101 rfl rfl
set_option maxRecDepth 100000 in
theorem tw_661 : Cond.fieldLink RJ2 44 "java/lang/StringUTF16" "$assertionsDisabled" "Z" ∈ gtbl := kmem_3 102 rfl rfl
set_option maxRecDepth 100000 in
theorem tw_663 : Cond.fieldLink RJ2 59 "java/lang/StringUTF16" "HI_BYTE_SHIFT" "I" ∈ gtbl := kmem_3 104 rfl rfl
set_option maxRecDepth 100000 in
theorem tw_665 : Cond.fieldLink RJ2 63 "java/lang/StringUTF16" "LO_BYTE_SHIFT" "I" ∈ gtbl := kmem_3 106 rfl rfl
set_option maxRecDepth 100000 in
theorem tw_667 : Cond.methodLink RX4 94 yX4_readClose ∈ gtbl := kmem_3 108 rfl rfl
set_option maxRecDepth 100000 in
theorem tw_669 : Cond.instanceMethod yX4_readClose ∈ gtbl := kmem_3 110 rfl rfl
set_option maxRecDepth 100000 in
theorem tw_670 : Cond.code yX4_readClose prog_6_method_13_code 1 (Option.none : Option Jvm.ClassFile.FieldType) ∈ gtbl := kmem_3 111 rfl rfl
set_option maxRecDepth 100000 in
theorem tw_671 : Cond.methodLink RL 55 yX11_untell ∈ gtbl := kmem_3 112 rfl rfl
set_option maxRecDepth 100000 in
theorem tw_672 : Cond.instanceMethod yX11_untell ∈ gtbl := kmem_3 113 rfl rfl
set_option maxRecDepth 100000 in
theorem tw_673 : Cond.selects RX11 yX11_untell yX11_untell ∈ gtbl := kmem_3 114 rfl rfl
set_option maxRecDepth 100000 in
theorem tw_674 : Cond.code yX11_untell prog_1_method_11_code 4 (Option.some Jvm.ClassFile.FieldType.int) ∈ gtbl := kmem_3 115 rfl rfl
set_option maxRecDepth 100000 in
theorem tw_676 : Cond.methodLink RL 59 yX11_basket ∈ gtbl := kmem_3 117 rfl rfl
set_option maxRecDepth 100000 in
theorem tw_677 : Cond.instanceMethod yX11_basket ∈ gtbl := kmem_3 118 rfl rfl
set_option maxRecDepth 100000 in
theorem tw_678 : Cond.selects RX11 yX11_basket yX11_basket ∈ gtbl := kmem_3 119 rfl rfl
set_option maxRecDepth 100000 in
theorem tw_679 : Cond.code yX11_basket prog_1_method_12_code 4 (Option.some Jvm.ClassFile.FieldType.int) ∈ gtbl := kmem_3 120 rfl rfl
set_option maxRecDepth 100000 in
theorem tw_680 : Cond.methodLink RX11 154 yX11_isSheet ∈ gtbl := kmem_3 121 rfl rfl
set_option maxRecDepth 100000 in
theorem tw_681 : Cond.static yX11_isSheet ∈ gtbl := kmem_3 122 rfl rfl
set_option maxRecDepth 100000 in
theorem tw_682 : Cond.code yX11_isSheet prog_1_method_42_code 1 (Option.some Jvm.ClassFile.FieldType.boolean) ∈ gtbl := kmem_3 123 rfl rfl
set_option maxRecDepth 100000 in
theorem tw_683 : Cond.methodLink RX11 157 yX11_refusal_ ∈ gtbl := kmem_3 124 rfl rfl
set_option maxRecDepth 100000 in
theorem tw_685 : Cond.instanceMethod yX11_refusal_ ∈ gtbl := kmem_3 126 rfl rfl
set_option maxRecDepth 100000 in
theorem tw_686 : Cond.code yX11_refusal_ prog_1_method_47_code 3 (Option.some Jvm.ClassFile.FieldType.int) ∈ gtbl := kmem_3 127 rfl rfl
set_option maxRecDepth 100000 in
theorem tw_687 : Cond.methodLink RX11 210 yX11_isMissing ∈ gtbl := kmem_3 128 rfl rfl
set_option maxRecDepth 100000 in
theorem tw_689 : Cond.instanceMethod yX11_isMissing ∈ gtbl := kmem_3 130 rfl rfl
set_option maxRecDepth 100000 in
theorem tw_690 : Cond.code yX11_isMissing prog_1_method_44_code 2 (Option.some Jvm.ClassFile.FieldType.boolean) ∈ gtbl := kmem_3 131 rfl rfl
set_option maxRecDepth 100000 in
theorem tw_691 : Cond.methodLink RX11 213 yX11_reads ∈ gtbl := kmem_3 132 rfl rfl
set_option maxRecDepth 100000 in
theorem tw_693 : Cond.instanceMethod yX11_reads ∈ gtbl := kmem_3 134 rfl rfl
set_option maxRecDepth 100000 in
theorem tw_694 : Cond.code yX11_reads prog_1_method_48_code 4 (Option.some Jvm.ClassFile.FieldType.boolean) ∈ gtbl := kmem_3 135 rfl rfl
set_option maxRecDepth 100000 in
theorem tw_697 : Cond.instanceMethod yX0_clear ∈ gtbl := kmem_3 138 rfl rfl
set_option maxRecDepth 100000 in
theorem tw_698 : Cond.code yX0_clear prog_2_method_2_code 2 (Option.none : Option Jvm.ClassFile.FieldType) ∈ gtbl := kmem_3 139 rfl rfl
set_option maxRecDepth 100000 in
theorem tw_701 : Cond.instanceMethod yX0_add ∈ gtbl := kmem_3 142 rfl rfl
set_option maxRecDepth 100000 in
theorem tw_702 : Cond.code yX0_add prog_2_method_5_code 3 (Option.none : Option Jvm.ClassFile.FieldType) ∈ gtbl := kmem_3 143 rfl rfl
set_option maxRecDepth 100000 in
theorem tw_703 : Cond.methodLink RX0 28 yX0_sumBy ∈ gtbl := kmem_3 144 rfl rfl
set_option maxRecDepth 100000 in
theorem tw_705 : Cond.instanceMethod yX0_sumBy ∈ gtbl := kmem_3 146 rfl rfl
set_option maxRecDepth 100000 in
theorem tw_706 : Cond.code yX0_sumBy prog_2_method_4_code 4 (Option.some Jvm.ClassFile.FieldType.int) ∈ gtbl := kmem_3 147 rfl rfl
set_option maxRecDepth 100000 in
theorem tw_708 : Cond.methodLink RL 63 yX11_pays ∈ gtbl := kmem_3 149 rfl rfl
set_option maxRecDepth 100000 in
theorem tw_709 : Cond.instanceMethod yX11_pays ∈ gtbl := kmem_3 150 rfl rfl
set_option maxRecDepth 100000 in
theorem tw_710 : Cond.selects RX11 yX11_pays yX11_pays ∈ gtbl := kmem_3 151 rfl rfl
set_option maxRecDepth 100000 in
theorem tw_711 : Cond.code yX11_pays prog_1_method_13_code 4 (Option.some Jvm.ClassFile.FieldType.int) ∈ gtbl := kmem_3 152 rfl rfl
set_option maxRecDepth 100000 in
theorem tw_712 : Cond.methodLink RX11 170 yX11_refusal ∈ gtbl := kmem_3 153 rfl rfl
set_option maxRecDepth 100000 in
theorem tw_714 : Cond.instanceMethod yX11_refusal ∈ gtbl := kmem_3 155 rfl rfl
set_option maxRecDepth 100000 in
theorem tw_715 : Cond.code yX11_refusal prog_1_method_46_code 4 (Option.some Jvm.ClassFile.FieldType.int) ∈ gtbl := kmem_3 156 rfl rfl
set_option maxRecDepth 100000 in
theorem tw_716 : Cond.methodLink RL 67 yX11_go ∈ gtbl := kmem_3 157 rfl rfl
set_option maxRecDepth 100000 in
theorem tw_717 : Cond.instanceMethod yX11_go ∈ gtbl := kmem_3 158 rfl rfl
set_option maxRecDepth 100000 in
theorem tw_718 : Cond.selects RX11 yX11_go yX11_go ∈ gtbl := kmem_3 159 rfl rfl
set_option maxRecDepth 100000 in
theorem tw_719 : Cond.code yX11_go prog_1_method_14_code 4 (Option.some Jvm.ClassFile.FieldType.int) ∈ gtbl := kmem_3 160 rfl rfl
set_option maxRecDepth 100000 in
theorem tw_722 : Cond.instanceMethod yX7_hasStock ∈ gtbl := kmem_3 163 rfl rfl
set_option maxRecDepth 100000 in
theorem tw_723 : Cond.code yX7_hasStock prog_9_method_7_code 3 (Option.some Jvm.ClassFile.FieldType.boolean) ∈ gtbl := kmem_3 164 rfl rfl
set_option maxRecDepth 100000 in
theorem tw_726 : Cond.instanceMethod yX7_sold ∈ gtbl := kmem_3 167 rfl rfl
set_option maxRecDepth 100000 in
theorem tw_727 : Cond.code yX7_sold prog_9_method_8_code 5 (Option.some Jvm.ClassFile.FieldType.int) ∈ gtbl := kmem_3 168 rfl rfl
set_option maxRecDepth 100000 in
theorem tw_728 : Cond.methodLink RX7 108 yX7_paid ∈ gtbl := kmem_3 169 rfl rfl
set_option maxRecDepth 100000 in
theorem tw_729 : Cond.constant RX7 111 (99999999 : Int32) ∈ gtbl := kmem_3 170 rfl rfl
set_option maxRecDepth 100000 in
theorem tw_730 : Cond.methodLink RX7 112 yJ9_min_7cf53 ∈ gtbl := kmem_3 171 rfl rfl
set_option maxRecDepth 100000 in
theorem tw_732 : Cond.methodLink RL 71 yX11_draws ∈ gtbl := kmem_3 173 rfl rfl
set_option maxRecDepth 100000 in
theorem tw_733 : Cond.instanceMethod yX11_draws ∈ gtbl := kmem_3 174 rfl rfl
set_option maxRecDepth 100000 in
theorem tw_734 : Cond.selects RX11 yX11_draws yX11_draws ∈ gtbl := kmem_3 175 rfl rfl
set_option maxRecDepth 100000 in
theorem tw_735 : Cond.code yX11_draws prog_1_method_15_code 7 (Option.some Jvm.ClassFile.FieldType.int) ∈ gtbl := kmem_3 176 rfl rfl
set_option maxRecDepth 100000 in
theorem tw_738 : Cond.instanceMethod yX7_drawn ∈ gtbl := kmem_3 179 rfl rfl
set_option maxRecDepth 100000 in
theorem tw_739 : Cond.code yX7_drawn prog_9_method_9_code 2 (Option.some Jvm.ClassFile.FieldType.int) ∈ gtbl := kmem_3 180 rfl rfl
set_option maxRecDepth 100000 in
theorem tw_740 : Cond.constant RX7 121 (1103515245 : Int32) ∈ gtbl := kmem_3 181 rfl rfl
set_option maxRecDepth 100000 in
theorem tw_741 : Cond.methodLink RL 75 yX11_seed ∈ gtbl := kmem_3 182 rfl rfl
set_option maxRecDepth 100000 in
theorem tw_742 : Cond.instanceMethod yX11_seed ∈ gtbl := kmem_3 183 rfl rfl
set_option maxRecDepth 100000 in
theorem tw_743 : Cond.selects RX11 yX11_seed yX11_seed ∈ gtbl := kmem_3 184 rfl rfl
set_option maxRecDepth 100000 in
theorem tw_744 : Cond.code yX11_seed prog_1_method_16_code 3 (Option.some Jvm.ClassFile.FieldType.int) ∈ gtbl := kmem_3 185 rfl rfl
set_option maxRecDepth 100000 in
theorem tw_745 : Cond.methodLink RL 79 yX11_more ∈ gtbl := kmem_3 186 rfl rfl
set_option maxRecDepth 100000 in
theorem tw_746 : Cond.instanceMethod yX11_more ∈ gtbl := kmem_3 187 rfl rfl
set_option maxRecDepth 100000 in
theorem tw_747 : Cond.selects RX11 yX11_more yX11_more ∈ gtbl := kmem_3 188 rfl rfl
set_option maxRecDepth 100000 in
theorem tw_748 : Cond.code yX11_more prog_1_method_17_code 6 (Option.some Jvm.ClassFile.FieldType.int) ∈ gtbl := kmem_3 189 rfl rfl
set_option maxRecDepth 100000 in
theorem tw_749 : Cond.methodLink RX11 196 yX11_findCheapest ∈ gtbl := kmem_3 190 rfl rfl
set_option maxRecDepth 100000 in
theorem tw_751 : Cond.instanceMethod yX11_findCheapest ∈ gtbl := kmem_3 192 rfl rfl
set_option maxRecDepth 100000 in
theorem tw_752 : Cond.code yX11_findCheapest prog_1_method_54_code 7 (Option.none : Option Jvm.ClassFile.FieldType) ∈ gtbl := kmem_3 193 rfl rfl
set_option maxRecDepth 100000 in
theorem tw_755 : Cond.instanceMethod yX0_copy ∈ gtbl := kmem_3 196 rfl rfl
set_option maxRecDepth 100000 in
theorem tw_756 : Cond.code yX0_copy prog_2_method_3_code 2 (Option.none : Option Jvm.ClassFile.FieldType) ∈ gtbl := kmem_3 197 rfl rfl
set_option maxRecDepth 100000 in
theorem tw_757 : Cond.methodLink RX0 22 ⟨"java/lang/System", "arraycopy", "(Ljava/lang/Object;ILjava/lang/Object;II)V"⟩ ∈ gtbl := kmem_3 198 rfl rfl
set_option maxRecDepth 100000 in
theorem tw_758 : Cond.constant RX11 200 (1000000 : Int32) ∈ gtbl := kmem_3 199 rfl rfl
set_option maxRecDepth 100000 in
theorem tw_761 : Cond.instanceMethod yX0_step ∈ gtbl := kmem_3 202 rfl rfl
set_option maxRecDepth 100000 in
theorem tw_762 : Cond.code yX0_step prog_2_method_6_code 5 (Option.some Jvm.ClassFile.FieldType.boolean) ∈ gtbl := kmem_3 203 rfl rfl
set_option maxRecDepth 100000 in
theorem tw_763 : Cond.methodLink RL 84 yX11_inTwo ∈ gtbl := kmem_3 204 rfl rfl
set_option maxRecDepth 100000 in
theorem tw_764 : Cond.instanceMethod yX11_inTwo ∈ gtbl := kmem_3 205 rfl rfl
set_option maxRecDepth 100000 in
theorem tw_765 : Cond.selects RX11 yX11_inTwo yX11_inTwo ∈ gtbl := kmem_3 206 rfl rfl
set_option maxRecDepth 100000 in
theorem tw_766 : Cond.code yX11_inTwo prog_1_method_18_code 7 (Option.some Jvm.ClassFile.FieldType.int) ∈ gtbl := kmem_3 207 rfl rfl
set_option maxRecDepth 100000 in
theorem tw_767 : Cond.methodLink RL 88 yX11_together ∈ gtbl := kmem_3 208 rfl rfl
set_option maxRecDepth 100000 in
theorem tw_768 : Cond.instanceMethod yX11_together ∈ gtbl := kmem_3 209 rfl rfl
set_option maxRecDepth 100000 in
theorem tw_769 : Cond.selects RX11 yX11_together yX11_together ∈ gtbl := kmem_3 210 rfl rfl
set_option maxRecDepth 100000 in
theorem tw_770 : Cond.code yX11_together prog_1_method_19_code 5 (Option.some Jvm.ClassFile.FieldType.int) ∈ gtbl := kmem_3 211 rfl rfl
set_option maxRecDepth 100000 in
theorem tw_771 : Cond.methodLink RL 92 yX11_worth ∈ gtbl := kmem_3 212 rfl rfl
set_option maxRecDepth 100000 in
theorem tw_772 : Cond.instanceMethod yX11_worth ∈ gtbl := kmem_3 213 rfl rfl
set_option maxRecDepth 100000 in
theorem tw_773 : Cond.selects RX11 yX11_worth yX11_worth ∈ gtbl := kmem_3 214 rfl rfl
set_option maxRecDepth 100000 in
theorem tw_774 : Cond.code yX11_worth prog_1_method_20_code 5 (Option.some Jvm.ClassFile.FieldType.int) ∈ gtbl := kmem_3 215 rfl rfl
set_option maxRecDepth 100000 in
theorem tw_775 : Cond.methodLink RL 96 yX11_dearer ∈ gtbl := kmem_3 216 rfl rfl
set_option maxRecDepth 100000 in
theorem tw_776 : Cond.instanceMethod yX11_dearer ∈ gtbl := kmem_3 217 rfl rfl
set_option maxRecDepth 100000 in
theorem tw_777 : Cond.selects RX11 yX11_dearer yX11_dearer ∈ gtbl := kmem_3 218 rfl rfl
set_option maxRecDepth 100000 in
theorem tw_778 : Cond.code yX11_dearer prog_1_method_21_code 10 (Option.some Jvm.ClassFile.FieldType.int) ∈ gtbl := kmem_3 219 rfl rfl
set_option maxRecDepth 100000 in
theorem tw_779 : Cond.methodLink RX11 217 yX11_paidIfDearer ∈ gtbl := kmem_3 220 rfl rfl
set_option maxRecDepth 100000 in
theorem tw_781 : Cond.instanceMethod yX11_paidIfDearer ∈ gtbl := kmem_3 222 rfl rfl
set_option maxRecDepth 100000 in
theorem tw_782 : Cond.code yX11_paidIfDearer prog_1_method_55_code 7 (Option.some Jvm.ClassFile.FieldType.int) ∈ gtbl := kmem_3 223 rfl rfl
set_option maxRecDepth 100000 in
theorem tw_783 : Cond.methodLink RL 100 yX11_nines ∈ gtbl := kmem_3 224 rfl rfl
set_option maxRecDepth 100000 in
theorem tw_784 : Cond.instanceMethod yX11_nines ∈ gtbl := kmem_3 225 rfl rfl
set_option maxRecDepth 100000 in
theorem tw_785 : Cond.selects RX11 yX11_nines yX11_nines ∈ gtbl := kmem_3 226 rfl rfl
set_option maxRecDepth 100000 in
theorem tw_786 : Cond.code yX11_nines prog_1_method_22_code 2 (Option.some Jvm.ClassFile.FieldType.int) ∈ gtbl := kmem_3 227 rfl rfl
set_option maxRecDepth 100000 in
theorem tw_787 : Cond.methodLink RX11 221 yX11_allByNine ∈ gtbl := kmem_3 228 rfl rfl
set_option maxRecDepth 100000 in
theorem tw_789 : Cond.instanceMethod yX11_allByNine ∈ gtbl := kmem_3 230 rfl rfl
set_option maxRecDepth 100000 in
theorem tw_790 : Cond.code yX11_allByNine prog_1_method_56_code 2 (Option.some Jvm.ClassFile.FieldType.int) ∈ gtbl := kmem_3 231 rfl rfl
set_option maxRecDepth 100000 in
theorem tw_791 : Cond.methodLink RX11 224 yX11_leastOfFew ∈ gtbl := kmem_3 232 rfl rfl
set_option maxRecDepth 100000 in
theorem tw_793 : Cond.instanceMethod yX11_leastOfFew ∈ gtbl := kmem_3 234 rfl rfl
set_option maxRecDepth 100000 in
theorem tw_794 : Cond.code yX11_leastOfFew prog_1_method_58_code 4 (Option.some Jvm.ClassFile.FieldType.int) ∈ gtbl := kmem_3 235 rfl rfl
set_option maxRecDepth 100000 in
theorem tw_795 : Cond.methodLink RX11 233 yX11_startFew ∈ gtbl := kmem_3 236 rfl rfl
set_option maxRecDepth 100000 in
theorem tw_797 : Cond.instanceMethod yX11_startFew ∈ gtbl := kmem_3 238 rfl rfl
set_option maxRecDepth 100000 in
theorem tw_798 : Cond.code yX11_startFew prog_1_method_57_code 2 (Option.none : Option Jvm.ClassFile.FieldType) ∈ gtbl := kmem_3 239 rfl rfl
set_option maxRecDepth 100000 in
theorem tw_799 : Cond.methodLink RL 104 yX11_erring ∈ gtbl := kmem_4 0 rfl rfl
set_option maxRecDepth 100000 in
theorem tw_800 : Cond.instanceMethod yX11_erring ∈ gtbl := kmem_4 1 rfl rfl
set_option maxRecDepth 100000 in
theorem tw_801 : Cond.selects RX11 yX11_erring yX11_erring ∈ gtbl := kmem_4 2 rfl rfl
set_option maxRecDepth 100000 in
theorem tw_802 : Cond.code yX11_erring prog_1_method_23_code 8 (Option.some Jvm.ClassFile.FieldType.long) ∈ gtbl := kmem_4 3 rfl rfl
set_option maxRecDepth 100000 in
theorem tw_803 : Cond.methodLink RX11 227 yX11_takenInCases ∈ gtbl := kmem_4 4 rfl rfl
set_option maxRecDepth 100000 in
theorem tw_805 : Cond.instanceMethod yX11_takenInCases ∈ gtbl := kmem_4 6 rfl rfl
set_option maxRecDepth 100000 in
theorem tw_806 : Cond.code yX11_takenInCases prog_1_method_53_code 5 (Option.some Jvm.ClassFile.FieldType.int) ∈ gtbl := kmem_4 7 rfl rfl
set_option maxRecDepth 100000 in
theorem tw_807 : Cond.methodLink RX11 230 yX11_commonDivisor ∈ gtbl := kmem_4 8 rfl rfl
set_option maxRecDepth 100000 in
theorem tw_808 : Cond.static yX11_commonDivisor ∈ gtbl := kmem_4 9 rfl rfl
set_option maxRecDepth 100000 in
theorem tw_809 : Cond.code yX11_commonDivisor prog_1_method_52_code 6 (Option.some Jvm.ClassFile.FieldType.int) ∈ gtbl := kmem_4 10 rfl rfl
set_option maxRecDepth 100000 in
theorem tw_810 : Cond.methodLink RL 109 yX11_wasIn ∈ gtbl := kmem_4 11 rfl rfl
set_option maxRecDepth 100000 in
theorem tw_811 : Cond.instanceMethod yX11_wasIn ∈ gtbl := kmem_4 12 rfl rfl
set_option maxRecDepth 100000 in
theorem tw_812 : Cond.selects RX11 yX11_wasIn yX11_wasIn ∈ gtbl := kmem_4 13 rfl rfl
set_option maxRecDepth 100000 in
theorem tw_813 : Cond.code yX11_wasIn prog_1_method_24_code 7 (Option.some Jvm.ClassFile.FieldType.int) ∈ gtbl := kmem_4 14 rfl rfl
set_option maxRecDepth 100000 in
theorem tw_816 : Cond.instanceMethod yX0_rowAsNumber ∈ gtbl := kmem_4 17 rfl rfl
set_option maxRecDepth 100000 in
theorem tw_817 : Cond.code yX0_rowAsNumber prog_2_method_7_code 3 (Option.some Jvm.ClassFile.FieldType.int) ∈ gtbl := kmem_4 18 rfl rfl
set_option maxRecDepth 100000 in
theorem tw_818 : Cond.methodLink RL 113 yX11_voice ∈ gtbl := kmem_4 19 rfl rfl
set_option maxRecDepth 100000 in
theorem tw_819 : Cond.instanceMethod yX11_voice ∈ gtbl := kmem_4 20 rfl rfl
set_option maxRecDepth 100000 in
theorem tw_820 : Cond.selects RX11 yX11_voice yX11_voice ∈ gtbl := kmem_4 21 rfl rfl
set_option maxRecDepth 100000 in
theorem tw_821 : Cond.code yX11_voice prog_1_method_25_code 6 (Option.some Jvm.ClassFile.FieldType.int) ∈ gtbl := kmem_4 22 rfl rfl
set_option maxRecDepth 100000 in
theorem tw_824 : Cond.instanceMethod yX10_start ∈ gtbl := kmem_4 25 rfl rfl
set_option maxRecDepth 100000 in
theorem tw_825 : Cond.code yX10_start prog_12_method_2_code 1 (Option.none : Option Jvm.ClassFile.FieldType) ∈ gtbl := kmem_4 26 rfl rfl
set_option maxRecDepth 100000 in
theorem tw_826 : Cond.methodLink RX11 242 yX8_adds ∈ gtbl := kmem_4 27 rfl rfl
set_option maxRecDepth 100000 in
theorem tw_827 : Cond.instanceMethod yX8_adds ∈ gtbl := kmem_4 28 rfl rfl
set_option maxRecDepth 100000 in
theorem tw_828 : Cond.selects RX8 yX8_adds yX8_adds ∈ gtbl := kmem_4 29 rfl rfl
set_option maxRecDepth 100000 in
theorem tw_829 : Cond.sameMethod "FigureTill$Till" "FigureTill$Till" "adds" "(LFigureTill$Trace;I)I" ∈ gtbl := kmem_4 30 rfl rfl
set_option maxRecDepth 100000 in
theorem tw_830 : Cond.selects RX1 yX8_adds yX8_adds ∈ gtbl := kmem_4 31 rfl rfl
set_option maxRecDepth 100000 in
theorem tw_831 : Cond.selects RX2 yX8_adds yX2_adds ∈ gtbl := kmem_4 32 rfl rfl
set_option maxRecDepth 100000 in
theorem tw_832 : Cond.instanceMethod yX2_adds ∈ gtbl := kmem_4 33 rfl rfl
set_option maxRecDepth 100000 in
theorem tw_833 : Cond.code yX2_adds prog_4_method_5_code 3 (Option.some Jvm.ClassFile.FieldType.int) ∈ gtbl := kmem_4 34 rfl rfl
set_option maxRecDepth 100000 in
theorem tw_836 : Cond.instanceMethod yX10_began ∈ gtbl := kmem_4 37 rfl rfl
set_option maxRecDepth 100000 in
theorem tw_837 : Cond.code yX10_began prog_12_method_3_code 2 (Option.none : Option Jvm.ClassFile.FieldType) ∈ gtbl := kmem_4 38 rfl rfl
set_option maxRecDepth 100000 in
theorem tw_838 : Cond.methodLink RX2 33 yX3_adds ∈ gtbl := kmem_4 39 rfl rfl
set_option maxRecDepth 100000 in
theorem tw_839 : Cond.instanceMethod yX3_adds ∈ gtbl := kmem_4 40 rfl rfl
set_option maxRecDepth 100000 in
theorem tw_840 : Cond.code yX3_adds prog_5_method_5_code 3 (Option.some Jvm.ClassFile.FieldType.int) ∈ gtbl := kmem_4 41 rfl rfl
set_option maxRecDepth 100000 in
theorem tw_842 : Cond.methodLink RX3 17 yX8_adds ∈ gtbl := kmem_4 43 rfl rfl
set_option maxRecDepth 100000 in
theorem tw_843 : Cond.selects RX3 yX8_adds yX3_adds ∈ gtbl := kmem_4 44 rfl rfl
set_option maxRecDepth 100000 in
theorem tw_844 : Cond.selects RX5 yX8_adds yX8_adds ∈ gtbl := kmem_4 45 rfl rfl
set_option maxRecDepth 100000 in
theorem tw_845 : Cond.selects RX6 yX8_adds yX8_adds ∈ gtbl := kmem_4 46 rfl rfl
set_option maxRecDepth 100000 in
theorem tw_846 : Cond.selects RX9 yX8_adds yX9_adds ∈ gtbl := kmem_4 47 rfl rfl
set_option maxRecDepth 100000 in
theorem tw_847 : Cond.instanceMethod yX9_adds ∈ gtbl := kmem_4 48 rfl rfl
set_option maxRecDepth 100000 in
theorem tw_848 : Cond.code yX9_adds prog_11_method_5_code 3 (Option.some Jvm.ClassFile.FieldType.int) ∈ gtbl := kmem_4 49 rfl rfl
set_option maxRecDepth 100000 in
theorem tw_850 : Cond.code yX8_adds prog_10_method_5_code 3 (Option.some Jvm.ClassFile.FieldType.int) ∈ gtbl := kmem_4 51 rfl rfl
set_option maxRecDepth 100000 in
theorem tw_852 : Cond.methodLink RX11 246 yX8_comes ∈ gtbl := kmem_4 53 rfl rfl
set_option maxRecDepth 100000 in
theorem tw_853 : Cond.instanceMethod yX8_comes ∈ gtbl := kmem_4 54 rfl rfl
set_option maxRecDepth 100000 in
theorem tw_854 : Cond.selects RX8 yX8_comes yX8_comes ∈ gtbl := kmem_4 55 rfl rfl
set_option maxRecDepth 100000 in
theorem tw_855 : Cond.sameMethod "FigureTill$Till" "FigureTill$Till" "comes" "(LFigureTill$Trace;I)I" ∈ gtbl := kmem_4 56 rfl rfl
set_option maxRecDepth 100000 in
theorem tw_856 : Cond.selects RX1 yX8_comes yX8_comes ∈ gtbl := kmem_4 57 rfl rfl
set_option maxRecDepth 100000 in
theorem tw_857 : Cond.selects RX2 yX8_comes yX8_comes ∈ gtbl := kmem_4 58 rfl rfl
set_option maxRecDepth 100000 in
theorem tw_858 : Cond.selects RX3 yX8_comes yX8_comes ∈ gtbl := kmem_4 59 rfl rfl
set_option maxRecDepth 100000 in
theorem tw_859 : Cond.selects RX5 yX8_comes yX5_comes ∈ gtbl := kmem_4 60 rfl rfl
set_option maxRecDepth 100000 in
theorem tw_860 : Cond.instanceMethod yX5_comes ∈ gtbl := kmem_4 61 rfl rfl
set_option maxRecDepth 100000 in
theorem tw_861 : Cond.code yX5_comes prog_7_method_5_code 3 (Option.some Jvm.ClassFile.FieldType.int) ∈ gtbl := kmem_4 62 rfl rfl
set_option maxRecDepth 100000 in
theorem tw_863 : Cond.methodLink RX5 29 yX6_comes ∈ gtbl := kmem_4 64 rfl rfl
set_option maxRecDepth 100000 in
theorem tw_864 : Cond.instanceMethod yX6_comes ∈ gtbl := kmem_4 65 rfl rfl
set_option maxRecDepth 100000 in
theorem tw_865 : Cond.code yX6_comes prog_8_method_5_code 3 (Option.some Jvm.ClassFile.FieldType.int) ∈ gtbl := kmem_4 66 rfl rfl
set_option maxRecDepth 100000 in
theorem tw_867 : Cond.methodLink RX6 23 yX8_comes ∈ gtbl := kmem_4 68 rfl rfl
set_option maxRecDepth 100000 in
theorem tw_868 : Cond.selects RX6 yX8_comes yX6_comes ∈ gtbl := kmem_4 69 rfl rfl
set_option maxRecDepth 100000 in
theorem tw_869 : Cond.selects RX9 yX8_comes yX9_comes ∈ gtbl := kmem_4 70 rfl rfl
set_option maxRecDepth 100000 in
theorem tw_870 : Cond.instanceMethod yX9_comes ∈ gtbl := kmem_4 71 rfl rfl
set_option maxRecDepth 100000 in
theorem tw_871 : Cond.code yX9_comes prog_11_method_6_code 3 (Option.some Jvm.ClassFile.FieldType.int) ∈ gtbl := kmem_4 72 rfl rfl
set_option maxRecDepth 100000 in
theorem tw_872 : Cond.methodLink RX9 37 yX8_comes ∈ gtbl := kmem_4 73 rfl rfl
set_option maxRecDepth 100000 in
theorem tw_873 : Cond.code yX8_comes prog_10_method_6_code 3 (Option.some Jvm.ClassFile.FieldType.int) ∈ gtbl := kmem_4 74 rfl rfl
set_option maxRecDepth 100000 in
theorem tw_874 : Cond.methodLink RX8 28 yX8_adds ∈ gtbl := kmem_4 75 rfl rfl
set_option maxRecDepth 100000 in
theorem tw_875 : Cond.methodLink RX11 249 yX8_gives ∈ gtbl := kmem_4 76 rfl rfl
set_option maxRecDepth 100000 in
theorem tw_876 : Cond.instanceMethod yX8_gives ∈ gtbl := kmem_4 77 rfl rfl
set_option maxRecDepth 100000 in
theorem tw_877 : Cond.selects RX8 yX8_gives yX8_gives ∈ gtbl := kmem_4 78 rfl rfl
set_option maxRecDepth 100000 in
theorem tw_878 : Cond.sameMethod "FigureTill$Till" "FigureTill$Till" "gives" "(LFigureTill$Trace;I)I" ∈ gtbl := kmem_4 79 rfl rfl
set_option maxRecDepth 100000 in
theorem tw_879 : Cond.selects RX1 yX8_gives yX1_gives ∈ gtbl := kmem_4 80 rfl rfl
set_option maxRecDepth 100000 in
theorem tw_880 : Cond.instanceMethod yX1_gives ∈ gtbl := kmem_4 81 rfl rfl
set_option maxRecDepth 100000 in
theorem tw_881 : Cond.code yX1_gives prog_3_method_5_code 3 (Option.some Jvm.ClassFile.FieldType.int) ∈ gtbl := kmem_4 82 rfl rfl
set_option maxRecDepth 100000 in
theorem tw_883 : Cond.methodLink RX1 29 yX8_gives ∈ gtbl := kmem_4 84 rfl rfl
set_option maxRecDepth 100000 in
theorem tw_884 : Cond.selects RX2 yX8_gives yX2_gives ∈ gtbl := kmem_4 85 rfl rfl
set_option maxRecDepth 100000 in
theorem tw_885 : Cond.instanceMethod yX2_gives ∈ gtbl := kmem_4 86 rfl rfl
set_option maxRecDepth 100000 in
theorem tw_886 : Cond.code yX2_gives prog_4_method_6_code 3 (Option.some Jvm.ClassFile.FieldType.int) ∈ gtbl := kmem_4 87 rfl rfl
set_option maxRecDepth 100000 in
theorem tw_887 : Cond.methodLink RX2 37 ⟨"FigureTill$LastTill", "gives", "(LFigureTill$Trace;I)I"⟩ ∈ gtbl := kmem_4 88 rfl rfl
set_option maxRecDepth 100000 in
theorem tw_888 : Cond.sameMethod "FigureTill$LastTill" "FigureTill$Till" "gives" "(LFigureTill$Trace;I)I" ∈ gtbl := kmem_4 89 rfl rfl
set_option maxRecDepth 100000 in
theorem tw_890 : Cond.selects RX3 yX8_gives yX8_gives ∈ gtbl := kmem_4 91 rfl rfl
set_option maxRecDepth 100000 in
theorem tw_891 : Cond.selects RX5 yX8_gives yX8_gives ∈ gtbl := kmem_4 92 rfl rfl
set_option maxRecDepth 100000 in
theorem tw_892 : Cond.selects RX6 yX8_gives yX8_gives ∈ gtbl := kmem_4 93 rfl rfl
set_option maxRecDepth 100000 in
theorem tw_893 : Cond.selects RX9 yX8_gives yX8_gives ∈ gtbl := kmem_4 94 rfl rfl
set_option maxRecDepth 100000 in
theorem tw_894 : Cond.code yX8_gives prog_10_method_7_code 3 (Option.some Jvm.ClassFile.FieldType.int) ∈ gtbl := kmem_4 95 rfl rfl
set_option maxRecDepth 100000 in
theorem tw_895 : Cond.methodLink RX8 32 yX8_comes ∈ gtbl := kmem_4 96 rfl rfl
set_option maxRecDepth 100000 in
theorem tw_896 : Cond.methodLink RX11 252 yX8_parts ∈ gtbl := kmem_4 97 rfl rfl
set_option maxRecDepth 100000 in
theorem tw_897 : Cond.instanceMethod yX8_parts ∈ gtbl := kmem_4 98 rfl rfl
set_option maxRecDepth 100000 in
theorem tw_898 : Cond.selects RX8 yX8_parts yX8_parts ∈ gtbl := kmem_4 99 rfl rfl
set_option maxRecDepth 100000 in
theorem tw_899 : Cond.sameMethod "FigureTill$Till" "FigureTill$Till" "parts" "(LFigureTill$Trace;I)I" ∈ gtbl := kmem_4 100 rfl rfl
set_option maxRecDepth 100000 in
theorem tw_900 : Cond.selects RX1 yX8_parts yX8_parts ∈ gtbl := kmem_4 101 rfl rfl
set_option maxRecDepth 100000 in
theorem tw_901 : Cond.selects RX2 yX8_parts yX3_parts ∈ gtbl := kmem_4 102 rfl rfl
set_option maxRecDepth 100000 in
theorem tw_902 : Cond.instanceMethod yX3_parts ∈ gtbl := kmem_4 103 rfl rfl
set_option maxRecDepth 100000 in
theorem tw_903 : Cond.code yX3_parts prog_5_method_6_code 4 (Option.some Jvm.ClassFile.FieldType.int) ∈ gtbl := kmem_4 104 rfl rfl
set_option maxRecDepth 100000 in
theorem tw_904 : Cond.methodLink RX3 21 yX8_parts ∈ gtbl := kmem_4 105 rfl rfl
set_option maxRecDepth 100000 in
theorem tw_905 : Cond.methodLink RX3 28 ⟨"FigureTill$LastTill", "comes", "(LFigureTill$Trace;I)I"⟩ ∈ gtbl := kmem_4 106 rfl rfl
set_option maxRecDepth 100000 in
theorem tw_906 : Cond.sameMethod "FigureTill$LastTill" "FigureTill$Till" "comes" "(LFigureTill$Trace;I)I" ∈ gtbl := kmem_4 107 rfl rfl
set_option maxRecDepth 100000 in
theorem tw_908 : Cond.selects RX2 ⟨"FigureTill$LastTill", "comes", "(LFigureTill$Trace;I)I"⟩ yX8_comes ∈ gtbl := kmem_4 109 rfl rfl
set_option maxRecDepth 100000 in
theorem tw_909 : Cond.selects RX3 ⟨"FigureTill$LastTill", "comes", "(LFigureTill$Trace;I)I"⟩ yX8_comes ∈ gtbl := kmem_4 110 rfl rfl
set_option maxRecDepth 100000 in
theorem tw_910 : Cond.selects RX3 yX8_parts yX3_parts ∈ gtbl := kmem_4 111 rfl rfl
set_option maxRecDepth 100000 in
theorem tw_911 : Cond.selects RX5 yX8_parts yX8_parts ∈ gtbl := kmem_4 112 rfl rfl
set_option maxRecDepth 100000 in
theorem tw_912 : Cond.selects RX6 yX8_parts yX8_parts ∈ gtbl := kmem_4 113 rfl rfl
set_option maxRecDepth 100000 in
theorem tw_913 : Cond.selects RX9 yX8_parts yX8_parts ∈ gtbl := kmem_4 114 rfl rfl
set_option maxRecDepth 100000 in
theorem tw_914 : Cond.code yX8_parts prog_10_method_8_code 4 (Option.some Jvm.ClassFile.FieldType.int) ∈ gtbl := kmem_4 115 rfl rfl
set_option maxRecDepth 100000 in
theorem tw_915 : Cond.methodLink RL 117 yX11_body ∈ gtbl := kmem_4 116 rfl rfl
set_option maxRecDepth 100000 in
theorem tw_916 : Cond.instanceMethod yX11_body ∈ gtbl := kmem_4 117 rfl rfl
set_option maxRecDepth 100000 in
theorem tw_917 : Cond.selects RX11 yX11_body yX11_body ∈ gtbl := kmem_4 118 rfl rfl
set_option maxRecDepth 100000 in
theorem tw_918 : Cond.code yX11_body prog_1_method_26_code 2 (Option.some Jvm.ClassFile.FieldType.int) ∈ gtbl := kmem_4 119 rfl rfl
set_option maxRecDepth 100000 in
theorem tw_919 : Cond.methodLink RL 121 yX11_sheet ∈ gtbl := kmem_4 120 rfl rfl
set_option maxRecDepth 100000 in
theorem tw_920 : Cond.instanceMethod yX11_sheet ∈ gtbl := kmem_4 121 rfl rfl
set_option maxRecDepth 100000 in
theorem tw_921 : Cond.selects RX11 yX11_sheet yX11_sheet ∈ gtbl := kmem_4 122 rfl rfl
set_option maxRecDepth 100000 in
theorem tw_922 : Cond.code yX11_sheet prog_1_method_27_code 5 (Option.some Jvm.ClassFile.FieldType.int) ∈ gtbl := kmem_4 123 rfl rfl
set_option maxRecDepth 100000 in
theorem tw_923 : Cond.methodLink RL 125 yX11_put ∈ gtbl := kmem_4 124 rfl rfl
set_option maxRecDepth 100000 in
theorem tw_924 : Cond.instanceMethod yX11_put ∈ gtbl := kmem_4 125 rfl rfl
set_option maxRecDepth 100000 in
theorem tw_925 : Cond.selects RX11 yX11_put yX11_put ∈ gtbl := kmem_4 126 rfl rfl
set_option maxRecDepth 100000 in
theorem tw_926 : Cond.code yX11_put prog_1_method_28_code 4 (Option.some Jvm.ClassFile.FieldType.int) ∈ gtbl := kmem_4 127 rfl rfl
set_option maxRecDepth 100000 in
theorem tw_927 : Cond.methodLink RX11 262 yX11_lowest ∈ gtbl := kmem_4 128 rfl rfl
set_option maxRecDepth 100000 in
theorem tw_928 : Cond.static yX11_lowest ∈ gtbl := kmem_4 129 rfl rfl
set_option maxRecDepth 100000 in
theorem tw_929 : Cond.code yX11_lowest prog_1_method_49_code 2 (Option.some Jvm.ClassFile.FieldType.int) ∈ gtbl := kmem_4 130 rfl rfl
set_option maxRecDepth 100000 in
theorem tw_930 : Cond.methodLink RL 129 yX11_move ∈ gtbl := kmem_4 131 rfl rfl
set_option maxRecDepth 100000 in
theorem tw_931 : Cond.instanceMethod yX11_move ∈ gtbl := kmem_4 132 rfl rfl
set_option maxRecDepth 100000 in
theorem tw_932 : Cond.selects RX11 yX11_move yX11_move ∈ gtbl := kmem_4 133 rfl rfl
set_option maxRecDepth 100000 in
theorem tw_933 : Cond.code yX11_move prog_1_method_29_code 6 (Option.some Jvm.ClassFile.FieldType.int) ∈ gtbl := kmem_4 134 rfl rfl
set_option maxRecDepth 100000 in
theorem tw_934 : Cond.methodLink RX11 265 yX11_stand ∈ gtbl := kmem_4 135 rfl rfl
set_option maxRecDepth 100000 in
theorem tw_936 : Cond.instanceMethod yX11_stand ∈ gtbl := kmem_4 137 rfl rfl
set_option maxRecDepth 100000 in
theorem tw_937 : Cond.code yX11_stand prog_1_method_45_code 4 (Option.some Jvm.ClassFile.FieldType.boolean) ∈ gtbl := kmem_4 138 rfl rfl
set_option maxRecDepth 100000 in
theorem tw_938 : Cond.methodLink RX11 268 ⟨"java/lang/System", "arraycopy", "(Ljava/lang/Object;ILjava/lang/Object;II)V"⟩ ∈ gtbl := kmem_4 139 rfl rfl
set_option maxRecDepth 100000 in
theorem tw_939 : Cond.methodLink RL 134 yX11_prices ∈ gtbl := kmem_4 140 rfl rfl
set_option maxRecDepth 100000 in
theorem tw_940 : Cond.instanceMethod yX11_prices ∈ gtbl := kmem_4 141 rfl rfl
set_option maxRecDepth 100000 in
theorem tw_941 : Cond.selects RX11 yX11_prices yX11_prices ∈ gtbl := kmem_4 142 rfl rfl
set_option maxRecDepth 100000 in
theorem tw_942 : Cond.code yX11_prices prog_1_method_30_code 4 (Option.some Jvm.ClassFile.FieldType.int) ∈ gtbl := kmem_4 143 rfl rfl
set_option maxRecDepth 100000 in
theorem tw_943 : Cond.methodLink RL 138 yX11_image ∈ gtbl := kmem_4 144 rfl rfl
set_option maxRecDepth 100000 in
theorem tw_944 : Cond.instanceMethod yX11_image ∈ gtbl := kmem_4 145 rfl rfl
set_option maxRecDepth 100000 in
theorem tw_945 : Cond.selects RX11 yX11_image yX11_image ∈ gtbl := kmem_4 146 rfl rfl
set_option maxRecDepth 100000 in
theorem tw_946 : Cond.code yX11_image prog_1_method_31_code 1 (Option.some Jvm.ClassFile.FieldType.int) ∈ gtbl := kmem_4 147 rfl rfl
set_option maxRecDepth 100000 in
theorem tw_949 : Cond.instanceMethod yX7_become ∈ gtbl := kmem_4 150 rfl rfl
set_option maxRecDepth 100000 in
theorem tw_950 : Cond.code yX7_become prog_9_method_2_code 3 (Option.none : Option Jvm.ClassFile.FieldType) ∈ gtbl := kmem_4 151 rfl rfl
set_option maxRecDepth 100000 in
theorem tw_951 : Cond.methodLink RX7 71 ⟨"java/lang/System", "arraycopy", "(Ljava/lang/Object;ILjava/lang/Object;II)V"⟩ ∈ gtbl := kmem_4 152 rfl rfl
set_option maxRecDepth 100000 in
theorem tw_954 : Cond.instanceMethod yX4_become ∈ gtbl := kmem_4 155 rfl rfl
set_option maxRecDepth 100000 in
theorem tw_955 : Cond.code yX4_become prog_6_method_3_code 2 (Option.none : Option Jvm.ClassFile.FieldType) ∈ gtbl := kmem_4 156 rfl rfl
set_option maxRecDepth 100000 in
theorem tw_956 : Cond.methodLink RL 143 yX11_restore ∈ gtbl := kmem_4 157 rfl rfl
set_option maxRecDepth 100000 in
theorem tw_957 : Cond.instanceMethod yX11_restore ∈ gtbl := kmem_4 158 rfl rfl
set_option maxRecDepth 100000 in
theorem tw_958 : Cond.selects RX11 yX11_restore yX11_restore ∈ gtbl := kmem_4 159 rfl rfl
set_option maxRecDepth 100000 in
theorem tw_959 : Cond.code yX11_restore prog_1_method_32_code 1 (Option.some Jvm.ClassFile.FieldType.int) ∈ gtbl := kmem_4 160 rfl rfl
set_option maxRecDepth 100000 in
theorem tw_960 : Cond.methodLink RL 147 yX11_tell ∈ gtbl := kmem_4 161 rfl rfl
set_option maxRecDepth 100000 in
theorem tw_961 : Cond.instanceMethod yX11_tell ∈ gtbl := kmem_4 162 rfl rfl
set_option maxRecDepth 100000 in
theorem tw_962 : Cond.selects RX11 yX11_tell yX11_tell ∈ gtbl := kmem_4 163 rfl rfl
set_option maxRecDepth 100000 in
theorem tw_963 : Cond.code yX11_tell prog_1_method_33_code 2 (Option.some Jvm.ClassFile.FieldType.int) ∈ gtbl := kmem_4 164 rfl rfl
set_option maxRecDepth 100000 in
theorem tw_964 : Cond.methodLink RL 151 yX11_check ∈ gtbl := kmem_4 165 rfl rfl
set_option maxRecDepth 100000 in
theorem tw_965 : Cond.instanceMethod yX11_check ∈ gtbl := kmem_4 166 rfl rfl
set_option maxRecDepth 100000 in
theorem tw_966 : Cond.selects RX11 yX11_check yX11_check ∈ gtbl := kmem_4 167 rfl rfl
set_option maxRecDepth 100000 in
theorem tw_967 : Cond.code yX11_check prog_1_method_34_code 4 (Option.some Jvm.ClassFile.FieldType.int) ∈ gtbl := kmem_4 168 rfl rfl
set_option maxRecDepth 100000 in
theorem tw_968 : Cond.methodLink RL 155 yX11_count ∈ gtbl := kmem_4 169 rfl rfl
set_option maxRecDepth 100000 in
theorem tw_969 : Cond.instanceMethod yX11_count ∈ gtbl := kmem_4 170 rfl rfl
set_option maxRecDepth 100000 in
theorem tw_970 : Cond.selects RX11 yX11_count yX11_count ∈ gtbl := kmem_4 171 rfl rfl
set_option maxRecDepth 100000 in
theorem tw_971 : Cond.code yX11_count prog_1_method_35_code 2 (Option.some Jvm.ClassFile.FieldType.int) ∈ gtbl := kmem_4 172 rfl rfl
set_option maxRecDepth 100000 in
theorem tw_974 : Cond.instanceMethod yX7_stockOfAll ∈ gtbl := kmem_4 175 rfl rfl
set_option maxRecDepth 100000 in
theorem tw_975 : Cond.code yX7_stockOfAll prog_9_method_6_code 3 (Option.some Jvm.ClassFile.FieldType.int) ∈ gtbl := kmem_4 176 rfl rfl
set_option maxRecDepth 100000 in
theorem tw_976 : Cond.methodLink RL 159 yX11_told ∈ gtbl := kmem_4 177 rfl rfl
set_option maxRecDepth 100000 in
theorem tw_977 : Cond.instanceMethod yX11_told ∈ gtbl := kmem_4 178 rfl rfl
set_option maxRecDepth 100000 in
theorem tw_978 : Cond.selects RX11 yX11_told yX11_told ∈ gtbl := kmem_4 179 rfl rfl
set_option maxRecDepth 100000 in
theorem tw_979 : Cond.code yX11_told prog_1_method_36_code 2 (Option.some Jvm.ClassFile.FieldType.int) ∈ gtbl := kmem_4 180 rfl rfl
set_option maxRecDepth 100000 in
theorem tw_980 : Cond.classLink RL 10 "FigureTillModel" ∈ gtbl := kmem_4 181 rfl rfl
set_option maxRecDepth 100000 in
theorem tw_981 : Cond.instantiable RX12 30 ∈ gtbl := kmem_4 182 rfl rfl
set_option maxRecDepth 100000 in
theorem tw_982 : Cond.methodLink RL 12 yX12_init ∈ gtbl := kmem_4 183 rfl rfl
set_option maxRecDepth 100000 in
theorem tw_983 : Cond.instanceMethod yX12_init ∈ gtbl := kmem_4 184 rfl rfl
set_option maxRecDepth 100000 in
theorem tw_984 : Cond.code yX12_init prog_14_method_1_code 3 (Option.none : Option Jvm.ClassFile.FieldType) ∈ gtbl := kmem_4 185 rfl rfl
set_option maxRecDepth 100000 in
theorem tw_985 : Cond.methodLink RX12 1 ⟨"java/lang/Object", "<init>", "()V"⟩ ∈ gtbl := kmem_4 186 rfl rfl
set_option maxRecDepth 100000 in
theorem tw_986 : Cond.fieldLink RX12 7 "FigureTillModel" "s" "[I" ∈ gtbl := kmem_4 187 rfl rfl
set_option maxRecDepth 100000 in
theorem tw_987 : Cond.fieldLink RX12 13 "FigureTillModel" "kept" "[I" ∈ gtbl := kmem_4 188 rfl rfl
set_option maxRecDepth 100000 in
theorem tw_988 : Cond.fieldLink RX12 269 "FigureTillModel" "images" "I" ∈ gtbl := kmem_4 189 rfl rfl
set_option maxRecDepth 100000 in
theorem tw_989 : Cond.fieldLink RX12 16 "FigureTillModel" "errors" "[I" ∈ gtbl := kmem_4 190 rfl rfl
set_option maxRecDepth 100000 in
theorem tw_990 : Cond.fieldLink RX12 69 "FigureTillModel" "at" "I" ∈ gtbl := kmem_4 191 rfl rfl
set_option maxRecDepth 100000 in
theorem tw_991 : Cond.fieldLink RX12 103 "FigureTillModel" "open" "I" ∈ gtbl := kmem_4 192 rfl rfl
set_option maxRecDepth 100000 in
theorem tw_992 : Cond.fieldLink RX12 76 "FigureTillModel" "steps" "I" ∈ gtbl := kmem_4 193 rfl rfl
set_option maxRecDepth 100000 in
theorem tw_993 : Cond.fieldLink RX12 73 "FigureTillModel" "use" "I" ∈ gtbl := kmem_4 194 rfl rfl
set_option maxRecDepth 100000 in
theorem tw_994 : Cond.fieldLink RX12 19 "FigureTillModel" "step" "[I" ∈ gtbl := kmem_4 195 rfl rfl
set_option maxRecDepth 100000 in
theorem tw_995 : Cond.fieldLink RX12 22 "FigureTillModel" "named" "[I" ∈ gtbl := kmem_4 196 rfl rfl
set_option maxRecDepth 100000 in
theorem tw_996 : Cond.fieldLink RX12 25 "FigureTillModel" "pile" "[I" ∈ gtbl := kmem_4 197 rfl rfl
set_option maxRecDepth 100000 in
theorem tw_997 : Cond.fieldLink RX12 28 "FigureTillModel" "told" "[I" ∈ gtbl := kmem_4 198 rfl rfl
set_option maxRecDepth 100000 in
theorem tw_998 : Cond.fieldLink RX12 31 "FigureTillModel" "beside1" "[I" ∈ gtbl := kmem_4 199 rfl rfl
set_option maxRecDepth 100000 in
theorem tw_999 : Cond.fieldLink RX12 34 "FigureTillModel" "row" "[I" ∈ gtbl := kmem_4 200 rfl rfl
set_option maxRecDepth 100000 in
theorem tw_1000 : Cond.fieldLink RX12 37 "FigureTillModel" "best" "[I" ∈ gtbl := kmem_4 201 rfl rfl
set_option maxRecDepth 100000 in
theorem tw_1001 : Cond.fieldLink RX12 202 "FigureTillModel" "bestNet" "I" ∈ gtbl := kmem_4 202 rfl rfl
set_option maxRecDepth 100000 in
theorem tw_1002 : Cond.fieldLink RX12 199 "FigureTillModel" "bestMore" "I" ∈ gtbl := kmem_4 203 rfl rfl
set_option maxRecDepth 100000 in
theorem tw_1003 : Cond.fieldLink RX12 40 "FigureTillModel" "worthOf" "[I" ∈ gtbl := kmem_4 204 rfl rfl
set_option maxRecDepth 100000 in
theorem tw_1004 : Cond.fieldLink RX12 212 "FigureTillModel" "leastApart" "I" ∈ gtbl := kmem_4 205 rfl rfl
set_option maxRecDepth 100000 in
theorem tw_1005 : Cond.fieldLink RX12 221 "FigureTillModel" "found" "I" ∈ gtbl := kmem_4 206 rfl rfl
set_option maxRecDepth 100000 in
theorem tw_1006 : Cond.fieldLink RX12 224 "FigureTillModel" "first" "I" ∈ gtbl := kmem_4 207 rfl rfl
set_option maxRecDepth 100000 in
theorem tw_1007 : Cond.fieldLink RX12 218 "FigureTillModel" "leastPaid" "I" ∈ gtbl := kmem_4 208 rfl rfl
set_option maxRecDepth 100000 in
theorem tw_1008 : Cond.fieldLink RX12 43 "FigureTillModel" "trace" "[I" ∈ gtbl := kmem_4 209 rfl rfl
set_option maxRecDepth 100000 in
theorem tw_1009 : Cond.fieldLink RX12 236 "FigureTillModel" "traced" "I" ∈ gtbl := kmem_4 210 rfl rfl
set_option maxRecDepth 100000 in
theorem tw_1010 : Cond.fieldLink RX12 243 "FigureTillModel" "speaks" "I" ∈ gtbl := kmem_4 211 rfl rfl
set_option maxRecDepth 100000 in
theorem tw_1011 : Cond.fieldLink RX12 258 "FigureTillModel" "isParted" "Z" ∈ gtbl := kmem_4 212 rfl rfl
set_option maxRecDepth 100000 in
theorem tw_1012 : Cond.fieldLink RX12 46 "FigureTillModel" "bits" "[I" ∈ gtbl := kmem_4 213 rfl rfl
set_option maxRecDepth 100000 in
theorem tw_1013 : Cond.fieldLink RX12 49 "FigureTillModel" "sizes" "[I" ∈ gtbl := kmem_4 214 rfl rfl
set_option maxRecDepth 100000 in
theorem tw_1014 : Cond.fieldLink RX12 52 "FigureTillModel" "number" "[I" ∈ gtbl := kmem_4 215 rfl rfl
set_option maxRecDepth 100000 in
theorem tw_1015 : Cond.fieldLink RX12 55 "FigureTillModel" "aside" "[I" ∈ gtbl := kmem_4 216 rfl rfl
set_option maxRecDepth 100000 in
theorem tw_1076 : Cond.superclass "FigureTillModel" "java/lang/Object" ∈ gtbl := kmem_5 37 rfl rfl
set_option maxRecDepth 100000 in
theorem tw_1077 : Cond.methodLink RL 49 yX12_feed ∈ gtbl := kmem_5 38 rfl rfl
set_option maxRecDepth 100000 in
theorem tw_1078 : Cond.instanceMethod yX12_feed ∈ gtbl := kmem_5 39 rfl rfl
set_option maxRecDepth 100000 in
theorem tw_1079 : Cond.selects RX12 yX12_feed yX12_feed ∈ gtbl := kmem_5 40 rfl rfl
set_option maxRecDepth 100000 in
theorem tw_1080 : Cond.code yX12_feed prog_14_method_11_code 5 (Option.some Jvm.ClassFile.FieldType.int) ∈ gtbl := kmem_5 41 rfl rfl
set_option maxRecDepth 100000 in
theorem tw_1081 : Cond.methodLink RX12 59 yX12_in ∈ gtbl := kmem_5 42 rfl rfl
set_option maxRecDepth 100000 in
theorem tw_1082 : Cond.static yX12_in ∈ gtbl := kmem_5 43 rfl rfl
set_option maxRecDepth 100000 in
theorem tw_1083 : Cond.code yX12_in prog_14_method_3_code 3 (Option.some Jvm.ClassFile.FieldType.boolean) ∈ gtbl := kmem_5 44 rfl rfl
set_option maxRecDepth 100000 in
theorem tw_1084 : Cond.methodLink RX12 63 yX12_error ∈ gtbl := kmem_5 45 rfl rfl
set_option maxRecDepth 100000 in
theorem tw_1086 : Cond.instanceMethod yX12_error ∈ gtbl := kmem_5 47 rfl rfl
set_option maxRecDepth 100000 in
theorem tw_1087 : Cond.code yX12_error prog_14_method_2_code 2 (Option.some Jvm.ClassFile.FieldType.int) ∈ gtbl := kmem_5 48 rfl rfl
set_option maxRecDepth 100000 in
theorem tw_1088 : Cond.constant RX12 58 (-1000000000 : Int32) ∈ gtbl := kmem_5 49 rfl rfl
set_option maxRecDepth 100000 in
theorem tw_1089 : Cond.constantLong RX12 67 (255 : Int64) ∈ gtbl := kmem_5 50 rfl rfl
set_option maxRecDepth 100000 in
theorem tw_1090 : Cond.methodLink RL 54 yX12_text ∈ gtbl := kmem_5 51 rfl rfl
set_option maxRecDepth 100000 in
theorem tw_1091 : Cond.instanceMethod yX12_text ∈ gtbl := kmem_5 52 rfl rfl
set_option maxRecDepth 100000 in
theorem tw_1092 : Cond.selects RX12 yX12_text yX12_text ∈ gtbl := kmem_5 53 rfl rfl
set_option maxRecDepth 100000 in
theorem tw_1093 : Cond.code yX12_text prog_14_method_23_code 5 (Option.some Jvm.ClassFile.FieldType.int) ∈ gtbl := kmem_5 54 rfl rfl
set_option maxRecDepth 100000 in
theorem tw_1094 : Cond.methodLink RX12 113 yX12_whole ∈ gtbl := kmem_5 55 rfl rfl
set_option maxRecDepth 100000 in
theorem tw_1096 : Cond.instanceMethod yX12_whole ∈ gtbl := kmem_5 57 rfl rfl
set_option maxRecDepth 100000 in
theorem tw_1097 : Cond.code yX12_whole prog_14_method_15_code 1 (Option.some Jvm.ClassFile.FieldType.boolean) ∈ gtbl := kmem_5 58 rfl rfl
set_option maxRecDepth 100000 in
theorem tw_1098 : Cond.methodLink RX12 79 yX12_both ∈ gtbl := kmem_5 59 rfl rfl
set_option maxRecDepth 100000 in
theorem tw_1100 : Cond.instanceMethod yX12_both ∈ gtbl := kmem_5 61 rfl rfl
set_option maxRecDepth 100000 in
theorem tw_1101 : Cond.code yX12_both prog_14_method_16_code 1 (Option.some Jvm.ClassFile.FieldType.boolean) ∈ gtbl := kmem_5 62 rfl rfl
set_option maxRecDepth 100000 in
theorem tw_1102 : Cond.methodLink RX12 91 yX12_compared ∈ gtbl := kmem_5 63 rfl rfl
set_option maxRecDepth 100000 in
theorem tw_1104 : Cond.instanceMethod yX12_compared ∈ gtbl := kmem_5 65 rfl rfl
set_option maxRecDepth 100000 in
theorem tw_1105 : Cond.code yX12_compared prog_14_method_17_code 2 (Option.some Jvm.ClassFile.FieldType.boolean) ∈ gtbl := kmem_5 66 rfl rfl
set_option maxRecDepth 100000 in
theorem tw_1106 : Cond.methodLink RX12 94 yX12_sum ∈ gtbl := kmem_5 67 rfl rfl
set_option maxRecDepth 100000 in
theorem tw_1108 : Cond.instanceMethod yX12_sum ∈ gtbl := kmem_5 69 rfl rfl
set_option maxRecDepth 100000 in
theorem tw_1109 : Cond.code yX12_sum prog_14_method_18_code 2 (Option.some Jvm.ClassFile.FieldType.boolean) ∈ gtbl := kmem_5 70 rfl rfl
set_option maxRecDepth 100000 in
theorem tw_1110 : Cond.methodLink RX12 97 yX12_product ∈ gtbl := kmem_5 71 rfl rfl
set_option maxRecDepth 100000 in
theorem tw_1112 : Cond.instanceMethod yX12_product ∈ gtbl := kmem_5 73 rfl rfl
set_option maxRecDepth 100000 in
theorem tw_1113 : Cond.code yX12_product prog_14_method_19_code 2 (Option.some Jvm.ClassFile.FieldType.boolean) ∈ gtbl := kmem_5 74 rfl rfl
set_option maxRecDepth 100000 in
theorem tw_1114 : Cond.methodLink RX12 100 yX12_one ∈ gtbl := kmem_5 75 rfl rfl
set_option maxRecDepth 100000 in
theorem tw_1116 : Cond.instanceMethod yX12_one ∈ gtbl := kmem_5 77 rfl rfl
set_option maxRecDepth 100000 in
theorem tw_1117 : Cond.code yX12_one prog_14_method_21_code 4 (Option.some Jvm.ClassFile.FieldType.boolean) ∈ gtbl := kmem_5 78 rfl rfl
set_option maxRecDepth 100000 in
theorem tw_1118 : Cond.methodLink RX12 83 yX12_look ∈ gtbl := kmem_5 79 rfl rfl
set_option maxRecDepth 100000 in
theorem tw_1120 : Cond.instanceMethod yX12_look ∈ gtbl := kmem_5 81 rfl rfl
set_option maxRecDepth 100000 in
theorem tw_1121 : Cond.code yX12_look prog_14_method_12_code 1 (Option.some Jvm.ClassFile.FieldType.int) ∈ gtbl := kmem_5 82 rfl rfl
set_option maxRecDepth 100000 in
theorem tw_1122 : Cond.methodLink RX12 106 yX12_isName ∈ gtbl := kmem_5 83 rfl rfl
set_option maxRecDepth 100000 in
theorem tw_1124 : Cond.instanceMethod yX12_isName ∈ gtbl := kmem_5 85 rfl rfl
set_option maxRecDepth 100000 in
theorem tw_1125 : Cond.code yX12_isName prog_14_method_13_code 2 (Option.some Jvm.ClassFile.FieldType.boolean) ∈ gtbl := kmem_5 86 rfl rfl
set_option maxRecDepth 100000 in
theorem tw_1126 : Cond.methodLink RX12 87 yX12_step1 ∈ gtbl := kmem_5 87 rfl rfl
set_option maxRecDepth 100000 in
theorem tw_1128 : Cond.instanceMethod yX12_step1 ∈ gtbl := kmem_5 89 rfl rfl
set_option maxRecDepth 100000 in
theorem tw_1129 : Cond.code yX12_step1 prog_14_method_14_code 3 (Option.none : Option Jvm.ClassFile.FieldType) ∈ gtbl := kmem_5 90 rfl rfl
set_option maxRecDepth 100000 in
theorem tw_1130 : Cond.methodLink RX12 110 yX12_opens ∈ gtbl := kmem_5 91 rfl rfl
set_option maxRecDepth 100000 in
theorem tw_1132 : Cond.instanceMethod yX12_opens ∈ gtbl := kmem_5 93 rfl rfl
set_option maxRecDepth 100000 in
theorem tw_1133 : Cond.code yX12_opens prog_14_method_20_code 1 (Option.some Jvm.ClassFile.FieldType.boolean) ∈ gtbl := kmem_5 94 rfl rfl
set_option maxRecDepth 100000 in
theorem tw_1134 : Cond.methodLink RL 58 yX12_untell ∈ gtbl := kmem_5 95 rfl rfl
set_option maxRecDepth 100000 in
theorem tw_1135 : Cond.instanceMethod yX12_untell ∈ gtbl := kmem_5 96 rfl rfl
set_option maxRecDepth 100000 in
theorem tw_1136 : Cond.selects RX12 yX12_untell yX12_untell ∈ gtbl := kmem_5 97 rfl rfl
set_option maxRecDepth 100000 in
theorem tw_1137 : Cond.code yX12_untell prog_14_method_24_code 3 (Option.some Jvm.ClassFile.FieldType.int) ∈ gtbl := kmem_5 98 rfl rfl
set_option maxRecDepth 100000 in
theorem tw_1138 : Cond.methodLink RX12 116 yX12_hasText ∈ gtbl := kmem_5 99 rfl rfl
set_option maxRecDepth 100000 in
theorem tw_1140 : Cond.instanceMethod yX12_hasText ∈ gtbl := kmem_5 101 rfl rfl
set_option maxRecDepth 100000 in
theorem tw_1141 : Cond.code yX12_hasText prog_14_method_22_code 2 (Option.some Jvm.ClassFile.FieldType.boolean) ∈ gtbl := kmem_5 102 rfl rfl
set_option maxRecDepth 100000 in
theorem tw_1142 : Cond.methodLink RL 17 yX12_thing ∈ gtbl := kmem_5 103 rfl rfl
set_option maxRecDepth 100000 in
theorem tw_1143 : Cond.instanceMethod yX12_thing ∈ gtbl := kmem_5 104 rfl rfl
set_option maxRecDepth 100000 in
theorem tw_1144 : Cond.selects RX12 yX12_thing yX12_thing ∈ gtbl := kmem_5 105 rfl rfl
set_option maxRecDepth 100000 in
theorem tw_1145 : Cond.code yX12_thing prog_14_method_35_code 4 (Option.some Jvm.ClassFile.FieldType.int) ∈ gtbl := kmem_5 106 rfl rfl
set_option maxRecDepth 100000 in
theorem tw_1146 : Cond.methodLink RX12 152 yX12_isThing ∈ gtbl := kmem_5 107 rfl rfl
set_option maxRecDepth 100000 in
theorem tw_1147 : Cond.static yX12_isThing ∈ gtbl := kmem_5 108 rfl rfl
set_option maxRecDepth 100000 in
theorem tw_1148 : Cond.code yX12_isThing prog_14_method_6_code 1 (Option.some Jvm.ClassFile.FieldType.boolean) ∈ gtbl := kmem_5 109 rfl rfl
set_option maxRecDepth 100000 in
theorem tw_1149 : Cond.methodLink RX12 155 yX12_change1 ∈ gtbl := kmem_5 110 rfl rfl
set_option maxRecDepth 100000 in
theorem tw_1151 : Cond.instanceMethod yX12_change1 ∈ gtbl := kmem_5 112 rfl rfl
set_option maxRecDepth 100000 in
theorem tw_1152 : Cond.code yX12_change1 prog_14_method_10_code 4 (Option.some Jvm.ClassFile.FieldType.int) ∈ gtbl := kmem_5 113 rfl rfl
set_option maxRecDepth 100000 in
theorem tw_1153 : Cond.methodLink RL 22 yX12_thingIs ∈ gtbl := kmem_5 114 rfl rfl
set_option maxRecDepth 100000 in
theorem tw_1154 : Cond.instanceMethod yX12_thingIs ∈ gtbl := kmem_5 115 rfl rfl
set_option maxRecDepth 100000 in
theorem tw_1155 : Cond.selects RX12 yX12_thingIs yX12_thingIs ∈ gtbl := kmem_5 116 rfl rfl
set_option maxRecDepth 100000 in
theorem tw_1156 : Cond.code yX12_thingIs prog_14_method_36_code 3 (Option.some Jvm.ClassFile.FieldType.int) ∈ gtbl := kmem_5 117 rfl rfl
set_option maxRecDepth 100000 in
theorem tw_1157 : Cond.methodLink RX12 158 yX12_values ∈ gtbl := kmem_5 118 rfl rfl
set_option maxRecDepth 100000 in
theorem tw_1159 : Cond.instanceMethod yX12_values ∈ gtbl := kmem_5 120 rfl rfl
set_option maxRecDepth 100000 in
theorem tw_1160 : Cond.code yX12_values prog_14_method_30_code 2 (Option.some Jvm.ClassFile.FieldType.int) ∈ gtbl := kmem_5 121 rfl rfl
set_option maxRecDepth 100000 in
theorem tw_1161 : Cond.methodLink RX12 136 yX12_worked ∈ gtbl := kmem_5 122 rfl rfl
set_option maxRecDepth 100000 in
theorem tw_1163 : Cond.instanceMethod yX12_worked ∈ gtbl := kmem_5 124 rfl rfl
set_option maxRecDepth 100000 in
theorem tw_1164 : Cond.code yX12_worked prog_14_method_26_code 7 (Option.some Jvm.ClassFile.FieldType.int) ∈ gtbl := kmem_5 125 rfl rfl
set_option maxRecDepth 100000 in
theorem tw_1165 : Cond.methodLink RX12 119 yX12_joined ∈ gtbl := kmem_5 126 rfl rfl
set_option maxRecDepth 100000 in
theorem tw_1166 : Cond.static yX12_joined ∈ gtbl := kmem_5 127 rfl rfl
set_option maxRecDepth 100000 in
theorem tw_1167 : Cond.code yX12_joined prog_14_method_25_code 3 (Option.some Jvm.ClassFile.FieldType.int) ∈ gtbl := kmem_5 128 rfl rfl
set_option maxRecDepth 100000 in
theorem tw_1168 : Cond.methodLink RX12 139 yX12_held ∈ gtbl := kmem_5 129 rfl rfl
set_option maxRecDepth 100000 in
theorem tw_1169 : Cond.static yX12_held ∈ gtbl := kmem_5 130 rfl rfl
set_option maxRecDepth 100000 in
theorem tw_1170 : Cond.code yX12_held prog_14_method_4_code 3 (Option.some Jvm.ClassFile.FieldType.int) ∈ gtbl := kmem_5 131 rfl rfl
set_option maxRecDepth 100000 in
theorem tw_1171 : Cond.methodLink RL 26 yX12_till ∈ gtbl := kmem_5 132 rfl rfl
set_option maxRecDepth 100000 in
theorem tw_1172 : Cond.instanceMethod yX12_till ∈ gtbl := kmem_5 133 rfl rfl
set_option maxRecDepth 100000 in
theorem tw_1173 : Cond.selects RX12 yX12_till yX12_till ∈ gtbl := kmem_5 134 rfl rfl
set_option maxRecDepth 100000 in
theorem tw_1174 : Cond.code yX12_till prog_14_method_37_code 4 (Option.some Jvm.ClassFile.FieldType.int) ∈ gtbl := kmem_5 135 rfl rfl
set_option maxRecDepth 100000 in
theorem tw_1175 : Cond.methodLink RX12 161 yX12_isTill ∈ gtbl := kmem_5 136 rfl rfl
set_option maxRecDepth 100000 in
theorem tw_1176 : Cond.static yX12_isTill ∈ gtbl := kmem_5 137 rfl rfl
set_option maxRecDepth 100000 in
theorem tw_1177 : Cond.code yX12_isTill prog_14_method_7_code 1 (Option.some Jvm.ClassFile.FieldType.boolean) ∈ gtbl := kmem_5 138 rfl rfl
set_option maxRecDepth 100000 in
theorem tw_1178 : Cond.methodLink RX12 130 yX12_kindOf ∈ gtbl := kmem_5 139 rfl rfl
set_option maxRecDepth 100000 in
theorem tw_1180 : Cond.instanceMethod yX12_kindOf ∈ gtbl := kmem_5 141 rfl rfl
set_option maxRecDepth 100000 in
theorem tw_1181 : Cond.code yX12_kindOf prog_14_method_8_code 2 (Option.some Jvm.ClassFile.FieldType.int) ∈ gtbl := kmem_5 142 rfl rfl
set_option maxRecDepth 100000 in
theorem tw_1182 : Cond.methodLink RX12 127 yX12_mOf ∈ gtbl := kmem_5 143 rfl rfl
set_option maxRecDepth 100000 in
theorem tw_1184 : Cond.instanceMethod yX12_mOf ∈ gtbl := kmem_5 145 rfl rfl
set_option maxRecDepth 100000 in
theorem tw_1185 : Cond.code yX12_mOf prog_14_method_9_code 2 (Option.some Jvm.ClassFile.FieldType.int) ∈ gtbl := kmem_5 146 rfl rfl
set_option maxRecDepth 100000 in
theorem tw_1186 : Cond.methodLink RL 30 yX12_tillIs ∈ gtbl := kmem_5 147 rfl rfl
set_option maxRecDepth 100000 in
theorem tw_1187 : Cond.instanceMethod yX12_tillIs ∈ gtbl := kmem_5 148 rfl rfl
set_option maxRecDepth 100000 in
theorem tw_1188 : Cond.selects RX12 yX12_tillIs yX12_tillIs ∈ gtbl := kmem_5 149 rfl rfl
set_option maxRecDepth 100000 in
theorem tw_1189 : Cond.code yX12_tillIs prog_14_method_38_code 3 (Option.some Jvm.ClassFile.FieldType.int) ∈ gtbl := kmem_5 150 rfl rfl
set_option maxRecDepth 100000 in
theorem tw_1190 : Cond.methodLink RL 34 yX12_as ∈ gtbl := kmem_5 151 rfl rfl
set_option maxRecDepth 100000 in
theorem tw_1191 : Cond.instanceMethod yX12_as ∈ gtbl := kmem_5 152 rfl rfl
set_option maxRecDepth 100000 in
theorem tw_1192 : Cond.selects RX12 yX12_as yX12_as ∈ gtbl := kmem_5 153 rfl rfl
set_option maxRecDepth 100000 in
theorem tw_1193 : Cond.code yX12_as prog_14_method_40_code 3 (Option.some Jvm.ClassFile.FieldType.int) ∈ gtbl := kmem_5 154 rfl rfl
set_option maxRecDepth 100000 in
theorem tw_1194 : Cond.methodLink RX12 164 yX12_isUnder ∈ gtbl := kmem_5 155 rfl rfl
set_option maxRecDepth 100000 in
theorem tw_1195 : Cond.static yX12_isUnder ∈ gtbl := kmem_5 156 rfl rfl
set_option maxRecDepth 100000 in
theorem tw_1196 : Cond.code yX12_isUnder prog_14_method_39_code 2 (Option.some Jvm.ClassFile.FieldType.boolean) ∈ gtbl := kmem_5 157 rfl rfl
set_option maxRecDepth 100000 in
theorem tw_1197 : Cond.methodLink RL 38 yX12_figures ∈ gtbl := kmem_5 158 rfl rfl
set_option maxRecDepth 100000 in
theorem tw_1198 : Cond.instanceMethod yX12_figures ∈ gtbl := kmem_5 159 rfl rfl
set_option maxRecDepth 100000 in
theorem tw_1199 : Cond.selects RX12 yX12_figures yX12_figures ∈ gtbl := kmem_5 160 rfl rfl
set_option maxRecDepth 100000 in
theorem tw_1200 : Cond.code yX12_figures prog_14_method_41_code 3 (Option.some Jvm.ClassFile.FieldType.int) ∈ gtbl := kmem_5 161 rfl rfl
set_option maxRecDepth 100000 in
theorem tw_1201 : Cond.methodLink RX12 123 yX12_added ∈ gtbl := kmem_5 162 rfl rfl
set_option maxRecDepth 100000 in
theorem tw_1202 : Cond.static yX12_added ∈ gtbl := kmem_5 163 rfl rfl
set_option maxRecDepth 100000 in
theorem tw_1203 : Cond.code yX12_added prog_14_method_27_code 4 (Option.some Jvm.ClassFile.FieldType.int) ∈ gtbl := kmem_5 164 rfl rfl
set_option maxRecDepth 100000 in
theorem tw_1204 : Cond.methodLink RL 42 yX12_asks ∈ gtbl := kmem_5 165 rfl rfl
set_option maxRecDepth 100000 in
theorem tw_1205 : Cond.instanceMethod yX12_asks ∈ gtbl := kmem_5 166 rfl rfl
set_option maxRecDepth 100000 in
theorem tw_1206 : Cond.selects RX12 yX12_asks yX12_asks ∈ gtbl := kmem_5 167 rfl rfl
set_option maxRecDepth 100000 in
theorem tw_1207 : Cond.code yX12_asks prog_14_method_42_code 4 (Option.some Jvm.ClassFile.FieldType.int) ∈ gtbl := kmem_5 168 rfl rfl
set_option maxRecDepth 100000 in
theorem tw_1208 : Cond.constant RX12 168 (299970 : Int32) ∈ gtbl := kmem_5 169 rfl rfl
set_option maxRecDepth 100000 in
theorem tw_1209 : Cond.methodLink RX12 149 yX12_asked ∈ gtbl := kmem_5 170 rfl rfl
set_option maxRecDepth 100000 in
theorem tw_1211 : Cond.instanceMethod yX12_asked ∈ gtbl := kmem_5 172 rfl rfl
set_option maxRecDepth 100000 in
theorem tw_1212 : Cond.code yX12_asked prog_14_method_29_code 6 (Option.some Jvm.ClassFile.FieldType.int) ∈ gtbl := kmem_5 173 rfl rfl
set_option maxRecDepth 100000 in
theorem tw_1213 : Cond.methodLink RX12 133 yX12_rooted ∈ gtbl := kmem_5 174 rfl rfl
set_option maxRecDepth 100000 in
theorem tw_1214 : Cond.static yX12_rooted ∈ gtbl := kmem_5 175 rfl rfl
set_option maxRecDepth 100000 in
theorem tw_1215 : Cond.code yX12_rooted prog_14_method_28_code 3 (Option.some Jvm.ClassFile.FieldType.int) ∈ gtbl := kmem_5 176 rfl rfl
set_option maxRecDepth 100000 in
theorem tw_1216 : Cond.methodLink RL 62 yX12_basket ∈ gtbl := kmem_5 177 rfl rfl
set_option maxRecDepth 100000 in
theorem tw_1217 : Cond.instanceMethod yX12_basket ∈ gtbl := kmem_5 178 rfl rfl
set_option maxRecDepth 100000 in
theorem tw_1218 : Cond.selects RX12 yX12_basket yX12_basket ∈ gtbl := kmem_5 179 rfl rfl
set_option maxRecDepth 100000 in
theorem tw_1219 : Cond.code yX12_basket prog_14_method_45_code 4 (Option.some Jvm.ClassFile.FieldType.int) ∈ gtbl := kmem_5 180 rfl rfl
set_option maxRecDepth 100000 in
theorem tw_1220 : Cond.methodLink RX12 176 yX12_lacks ∈ gtbl := kmem_5 181 rfl rfl
set_option maxRecDepth 100000 in
theorem tw_1222 : Cond.instanceMethod yX12_lacks ∈ gtbl := kmem_5 183 rfl rfl
set_option maxRecDepth 100000 in
theorem tw_1223 : Cond.code yX12_lacks prog_14_method_44_code 5 (Option.some Jvm.ClassFile.FieldType.int) ∈ gtbl := kmem_5 184 rfl rfl
set_option maxRecDepth 100000 in
theorem tw_1224 : Cond.methodLink RX12 169 yX12_isSheet ∈ gtbl := kmem_5 185 rfl rfl
set_option maxRecDepth 100000 in
theorem tw_1225 : Cond.static yX12_isSheet ∈ gtbl := kmem_5 186 rfl rfl
set_option maxRecDepth 100000 in
theorem tw_1226 : Cond.code yX12_isSheet prog_14_method_75_code 1 (Option.some Jvm.ClassFile.FieldType.boolean) ∈ gtbl := kmem_5 187 rfl rfl
set_option maxRecDepth 100000 in
theorem tw_1227 : Cond.methodLink RX12 172 yX12_tells ∈ gtbl := kmem_5 188 rfl rfl
set_option maxRecDepth 100000 in
theorem tw_1229 : Cond.instanceMethod yX12_tells ∈ gtbl := kmem_5 190 rfl rfl
set_option maxRecDepth 100000 in
theorem tw_1230 : Cond.code yX12_tells prog_14_method_43_code 5 (Option.some Jvm.ClassFile.FieldType.int) ∈ gtbl := kmem_5 191 rfl rfl
set_option maxRecDepth 100000 in
theorem tw_1231 : Cond.methodLink RX12 146 yX12_many ∈ gtbl := kmem_5 192 rfl rfl
set_option maxRecDepth 100000 in
theorem tw_1232 : Cond.static yX12_many ∈ gtbl := kmem_5 193 rfl rfl
set_option maxRecDepth 100000 in
theorem tw_1233 : Cond.code yX12_many prog_14_method_31_code 3 (Option.some Jvm.ClassFile.FieldType.int) ∈ gtbl := kmem_5 194 rfl rfl
set_option maxRecDepth 100000 in
theorem tw_1234 : Cond.methodLink RX12 142 yX12_sumOf ∈ gtbl := kmem_5 195 rfl rfl
set_option maxRecDepth 100000 in
theorem tw_1236 : Cond.instanceMethod yX12_sumOf ∈ gtbl := kmem_5 197 rfl rfl
set_option maxRecDepth 100000 in
theorem tw_1237 : Cond.code yX12_sumOf prog_14_method_32_code 4 (Option.some Jvm.ClassFile.FieldType.int) ∈ gtbl := kmem_5 198 rfl rfl
set_option maxRecDepth 100000 in
theorem tw_1238 : Cond.methodLink RX12 180 yX12_costOf ∈ gtbl := kmem_5 199 rfl rfl
set_option maxRecDepth 100000 in
theorem tw_1240 : Cond.instanceMethod yX12_costOf ∈ gtbl := kmem_5 201 rfl rfl
set_option maxRecDepth 100000 in
theorem tw_1241 : Cond.code yX12_costOf prog_14_method_33_code 4 (Option.some Jvm.ClassFile.FieldType.int) ∈ gtbl := kmem_5 202 rfl rfl
set_option maxRecDepth 100000 in
theorem tw_1242 : Cond.methodLink RL 66 yX12_pays ∈ gtbl := kmem_5 203 rfl rfl
set_option maxRecDepth 100000 in
theorem tw_1243 : Cond.instanceMethod yX12_pays ∈ gtbl := kmem_5 204 rfl rfl
set_option maxRecDepth 100000 in
theorem tw_1244 : Cond.selects RX12 yX12_pays yX12_pays ∈ gtbl := kmem_5 205 rfl rfl
set_option maxRecDepth 100000 in
theorem tw_1245 : Cond.code yX12_pays prog_14_method_46_code 4 (Option.some Jvm.ClassFile.FieldType.int) ∈ gtbl := kmem_5 206 rfl rfl
set_option maxRecDepth 100000 in
theorem tw_1246 : Cond.methodLink RX12 183 yX12_paid ∈ gtbl := kmem_5 207 rfl rfl
set_option maxRecDepth 100000 in
theorem tw_1248 : Cond.instanceMethod yX12_paid ∈ gtbl := kmem_5 209 rfl rfl
set_option maxRecDepth 100000 in
theorem tw_1249 : Cond.code yX12_paid prog_14_method_34_code 3 (Option.some Jvm.ClassFile.FieldType.int) ∈ gtbl := kmem_5 210 rfl rfl
set_option maxRecDepth 100000 in
theorem tw_1250 : Cond.methodLink RL 70 yX12_go ∈ gtbl := kmem_5 211 rfl rfl
set_option maxRecDepth 100000 in
theorem tw_1251 : Cond.instanceMethod yX12_go ∈ gtbl := kmem_5 212 rfl rfl
set_option maxRecDepth 100000 in
theorem tw_1252 : Cond.selects RX12 yX12_go yX12_go ∈ gtbl := kmem_5 213 rfl rfl
set_option maxRecDepth 100000 in
theorem tw_1253 : Cond.code yX12_go prog_14_method_49_code 4 (Option.some Jvm.ClassFile.FieldType.int) ∈ gtbl := kmem_5 214 rfl rfl
set_option maxRecDepth 100000 in
theorem tw_1254 : Cond.methodLink RX12 188 yX12_isInStock ∈ gtbl := kmem_5 215 rfl rfl
set_option maxRecDepth 100000 in
theorem tw_1256 : Cond.instanceMethod yX12_isInStock ∈ gtbl := kmem_5 217 rfl rfl
set_option maxRecDepth 100000 in
theorem tw_1257 : Cond.code yX12_isInStock prog_14_method_47_code 4 (Option.some Jvm.ClassFile.FieldType.boolean) ∈ gtbl := kmem_5 218 rfl rfl
set_option maxRecDepth 100000 in
theorem tw_1258 : Cond.methodLink RX12 192 yX12_goes ∈ gtbl := kmem_5 219 rfl rfl
set_option maxRecDepth 100000 in
theorem tw_1260 : Cond.instanceMethod yX12_goes ∈ gtbl := kmem_5 221 rfl rfl
set_option maxRecDepth 100000 in
theorem tw_1261 : Cond.code yX12_goes prog_14_method_48_code 5 (Option.some Jvm.ClassFile.FieldType.int) ∈ gtbl := kmem_5 222 rfl rfl
set_option maxRecDepth 100000 in
theorem tw_1262 : Cond.constant RX12 187 (99999999 : Int32) ∈ gtbl := kmem_5 223 rfl rfl
set_option maxRecDepth 100000 in
theorem tw_1263 : Cond.methodLink RL 74 yX12_draws ∈ gtbl := kmem_5 224 rfl rfl
set_option maxRecDepth 100000 in
theorem tw_1264 : Cond.instanceMethod yX12_draws ∈ gtbl := kmem_5 225 rfl rfl
set_option maxRecDepth 100000 in
theorem tw_1265 : Cond.selects RX12 yX12_draws yX12_draws ∈ gtbl := kmem_5 226 rfl rfl
set_option maxRecDepth 100000 in
theorem tw_1266 : Cond.code yX12_draws prog_14_method_51_code 7 (Option.some Jvm.ClassFile.FieldType.int) ∈ gtbl := kmem_5 227 rfl rfl
set_option maxRecDepth 100000 in
theorem tw_1267 : Cond.methodLink RX12 196 yX12_draw ∈ gtbl := kmem_5 228 rfl rfl
set_option maxRecDepth 100000 in
theorem tw_1269 : Cond.instanceMethod yX12_draw ∈ gtbl := kmem_5 230 rfl rfl
set_option maxRecDepth 100000 in
theorem tw_1270 : Cond.code yX12_draw prog_14_method_50_code 1 (Option.some Jvm.ClassFile.FieldType.int) ∈ gtbl := kmem_5 231 rfl rfl
set_option maxRecDepth 100000 in
theorem tw_1271 : Cond.constant RX12 195 (1103515245 : Int32) ∈ gtbl := kmem_5 232 rfl rfl
set_option maxRecDepth 100000 in
theorem tw_1272 : Cond.methodLink RL 78 yX12_seed ∈ gtbl := kmem_5 233 rfl rfl
set_option maxRecDepth 100000 in
theorem tw_1273 : Cond.instanceMethod yX12_seed ∈ gtbl := kmem_5 234 rfl rfl
set_option maxRecDepth 100000 in
theorem tw_1274 : Cond.selects RX12 yX12_seed yX12_seed ∈ gtbl := kmem_5 235 rfl rfl
set_option maxRecDepth 100000 in
theorem tw_1275 : Cond.code yX12_seed prog_14_method_52_code 2 (Option.some Jvm.ClassFile.FieldType.int) ∈ gtbl := kmem_5 236 rfl rfl
set_option maxRecDepth 100000 in
theorem tw_1276 : Cond.methodLink RL 83 yX12_more ∈ gtbl := kmem_5 237 rfl rfl
set_option maxRecDepth 100000 in
theorem tw_1277 : Cond.instanceMethod yX12_more ∈ gtbl := kmem_5 238 rfl rfl
set_option maxRecDepth 100000 in
theorem tw_1278 : Cond.selects RX12 yX12_more yX12_more ∈ gtbl := kmem_5 239 rfl rfl
set_option maxRecDepth 100000 in
theorem tw_1279 : Cond.code yX12_more prog_14_method_55_code 6 (Option.some Jvm.ClassFile.FieldType.int) ∈ gtbl := kmem_6 0 rfl rfl
set_option maxRecDepth 100000 in
theorem tw_1280 : Cond.methodLink RX12 209 yX12_seeks ∈ gtbl := kmem_6 1 rfl rfl
set_option maxRecDepth 100000 in
theorem tw_1282 : Cond.instanceMethod yX12_seeks ∈ gtbl := kmem_6 3 rfl rfl
set_option maxRecDepth 100000 in
theorem tw_1283 : Cond.code yX12_seeks prog_14_method_54_code 5 (Option.none : Option Jvm.ClassFile.FieldType) ∈ gtbl := kmem_6 4 rfl rfl
set_option maxRecDepth 100000 in
theorem tw_1284 : Cond.methodLink RX12 205 yX12_tries ∈ gtbl := kmem_6 5 rfl rfl
set_option maxRecDepth 100000 in
theorem tw_1286 : Cond.instanceMethod yX12_tries ∈ gtbl := kmem_6 7 rfl rfl
set_option maxRecDepth 100000 in
theorem tw_1287 : Cond.code yX12_tries prog_14_method_53_code 8 (Option.none : Option Jvm.ClassFile.FieldType) ∈ gtbl := kmem_6 8 rfl rfl
set_option maxRecDepth 100000 in
theorem tw_1288 : Cond.methodLink RL 87 yX12_inTwo ∈ gtbl := kmem_6 9 rfl rfl
set_option maxRecDepth 100000 in
theorem tw_1289 : Cond.instanceMethod yX12_inTwo ∈ gtbl := kmem_6 10 rfl rfl
set_option maxRecDepth 100000 in
theorem tw_1290 : Cond.selects RX12 yX12_inTwo yX12_inTwo ∈ gtbl := kmem_6 11 rfl rfl
set_option maxRecDepth 100000 in
theorem tw_1291 : Cond.code yX12_inTwo prog_14_method_57_code 4 (Option.some Jvm.ClassFile.FieldType.int) ∈ gtbl := kmem_6 12 rfl rfl
set_option maxRecDepth 100000 in
theorem tw_1292 : Cond.methodLink RX12 215 yX12_parts ∈ gtbl := kmem_6 13 rfl rfl
set_option maxRecDepth 100000 in
theorem tw_1294 : Cond.instanceMethod yX12_parts ∈ gtbl := kmem_6 15 rfl rfl
set_option maxRecDepth 100000 in
theorem tw_1295 : Cond.code yX12_parts prog_14_method_56_code 4 (Option.none : Option Jvm.ClassFile.FieldType) ∈ gtbl := kmem_6 16 rfl rfl
set_option maxRecDepth 100000 in
theorem tw_1296 : Cond.methodLink RL 91 yX12_together ∈ gtbl := kmem_6 17 rfl rfl
set_option maxRecDepth 100000 in
theorem tw_1297 : Cond.instanceMethod yX12_together ∈ gtbl := kmem_6 18 rfl rfl
set_option maxRecDepth 100000 in
theorem tw_1298 : Cond.selects RX12 yX12_together yX12_together ∈ gtbl := kmem_6 19 rfl rfl
set_option maxRecDepth 100000 in
theorem tw_1299 : Cond.code yX12_together prog_14_method_58_code 6 (Option.some Jvm.ClassFile.FieldType.int) ∈ gtbl := kmem_6 20 rfl rfl
set_option maxRecDepth 100000 in
theorem tw_1300 : Cond.methodLink RL 95 yX12_worth ∈ gtbl := kmem_6 21 rfl rfl
set_option maxRecDepth 100000 in
theorem tw_1301 : Cond.instanceMethod yX12_worth ∈ gtbl := kmem_6 22 rfl rfl
set_option maxRecDepth 100000 in
theorem tw_1302 : Cond.selects RX12 yX12_worth yX12_worth ∈ gtbl := kmem_6 23 rfl rfl
set_option maxRecDepth 100000 in
theorem tw_1303 : Cond.code yX12_worth prog_14_method_59_code 6 (Option.some Jvm.ClassFile.FieldType.int) ∈ gtbl := kmem_6 24 rfl rfl
set_option maxRecDepth 100000 in
theorem tw_1304 : Cond.methodLink RL 99 yX12_dearer ∈ gtbl := kmem_6 25 rfl rfl
set_option maxRecDepth 100000 in
theorem tw_1305 : Cond.instanceMethod yX12_dearer ∈ gtbl := kmem_6 26 rfl rfl
set_option maxRecDepth 100000 in
theorem tw_1306 : Cond.selects RX12 yX12_dearer yX12_dearer ∈ gtbl := kmem_6 27 rfl rfl
set_option maxRecDepth 100000 in
theorem tw_1307 : Cond.code yX12_dearer prog_14_method_60_code 11 (Option.some Jvm.ClassFile.FieldType.int) ∈ gtbl := kmem_6 28 rfl rfl
set_option maxRecDepth 100000 in
theorem tw_1308 : Cond.methodLink RL 103 yX12_nines ∈ gtbl := kmem_6 29 rfl rfl
set_option maxRecDepth 100000 in
theorem tw_1309 : Cond.instanceMethod yX12_nines ∈ gtbl := kmem_6 30 rfl rfl
set_option maxRecDepth 100000 in
theorem tw_1310 : Cond.selects RX12 yX12_nines yX12_nines ∈ gtbl := kmem_6 31 rfl rfl
set_option maxRecDepth 100000 in
theorem tw_1311 : Cond.code yX12_nines prog_14_method_63_code 4 (Option.some Jvm.ClassFile.FieldType.int) ∈ gtbl := kmem_6 32 rfl rfl
set_option maxRecDepth 100000 in
theorem tw_1312 : Cond.methodLink RX12 230 yX12_allSmall ∈ gtbl := kmem_6 33 rfl rfl
set_option maxRecDepth 100000 in
theorem tw_1314 : Cond.instanceMethod yX12_allSmall ∈ gtbl := kmem_6 35 rfl rfl
set_option maxRecDepth 100000 in
theorem tw_1315 : Cond.code yX12_allSmall prog_14_method_62_code 3 (Option.none : Option Jvm.ClassFile.FieldType) ∈ gtbl := kmem_6 36 rfl rfl
set_option maxRecDepth 100000 in
theorem tw_1316 : Cond.methodLink RX12 227 yX12_small ∈ gtbl := kmem_6 37 rfl rfl
set_option maxRecDepth 100000 in
theorem tw_1318 : Cond.instanceMethod yX12_small ∈ gtbl := kmem_6 39 rfl rfl
set_option maxRecDepth 100000 in
theorem tw_1319 : Cond.code yX12_small prog_14_method_61_code 8 (Option.none : Option Jvm.ClassFile.FieldType) ∈ gtbl := kmem_6 40 rfl rfl
set_option maxRecDepth 100000 in
theorem tw_1320 : Cond.methodLink RL 108 yX12_erring ∈ gtbl := kmem_6 41 rfl rfl
set_option maxRecDepth 100000 in
theorem tw_1321 : Cond.instanceMethod yX12_erring ∈ gtbl := kmem_6 42 rfl rfl
set_option maxRecDepth 100000 in
theorem tw_1322 : Cond.selects RX12 yX12_erring yX12_erring ∈ gtbl := kmem_6 43 rfl rfl
set_option maxRecDepth 100000 in
theorem tw_1323 : Cond.code yX12_erring prog_14_method_65_code 10 (Option.some Jvm.ClassFile.FieldType.long) ∈ gtbl := kmem_6 44 rfl rfl
set_option maxRecDepth 100000 in
theorem tw_1324 : Cond.methodLink RX12 233 yX12_divisor ∈ gtbl := kmem_6 45 rfl rfl
set_option maxRecDepth 100000 in
theorem tw_1325 : Cond.static yX12_divisor ∈ gtbl := kmem_6 46 rfl rfl
set_option maxRecDepth 100000 in
theorem tw_1326 : Cond.code yX12_divisor prog_14_method_64_code 5 (Option.some Jvm.ClassFile.FieldType.int) ∈ gtbl := kmem_6 47 rfl rfl
set_option maxRecDepth 100000 in
theorem tw_1327 : Cond.methodLink RL 112 yX12_wasIn ∈ gtbl := kmem_6 48 rfl rfl
set_option maxRecDepth 100000 in
theorem tw_1328 : Cond.instanceMethod yX12_wasIn ∈ gtbl := kmem_6 49 rfl rfl
set_option maxRecDepth 100000 in
theorem tw_1329 : Cond.selects RX12 yX12_wasIn yX12_wasIn ∈ gtbl := kmem_6 50 rfl rfl
set_option maxRecDepth 100000 in
theorem tw_1330 : Cond.code yX12_wasIn prog_14_method_66_code 4 (Option.some Jvm.ClassFile.FieldType.int) ∈ gtbl := kmem_6 51 rfl rfl
set_option maxRecDepth 100000 in
theorem tw_1331 : Cond.methodLink RL 116 yX12_voice ∈ gtbl := kmem_6 52 rfl rfl
set_option maxRecDepth 100000 in
theorem tw_1332 : Cond.instanceMethod yX12_voice ∈ gtbl := kmem_6 53 rfl rfl
set_option maxRecDepth 100000 in
theorem tw_1333 : Cond.selects RX12 yX12_voice yX12_voice ∈ gtbl := kmem_6 54 rfl rfl
set_option maxRecDepth 100000 in
theorem tw_1334 : Cond.code yX12_voice prog_14_method_73_code 6 (Option.some Jvm.ClassFile.FieldType.int) ∈ gtbl := kmem_6 55 rfl rfl
set_option maxRecDepth 100000 in
theorem tw_1335 : Cond.methodLink RX12 249 yX12_addsAs ∈ gtbl := kmem_6 56 rfl rfl
set_option maxRecDepth 100000 in
theorem tw_1337 : Cond.instanceMethod yX12_addsAs ∈ gtbl := kmem_6 58 rfl rfl
set_option maxRecDepth 100000 in
theorem tw_1338 : Cond.code yX12_addsAs prog_14_method_69_code 3 (Option.some Jvm.ClassFile.FieldType.int) ∈ gtbl := kmem_6 59 rfl rfl
set_option maxRecDepth 100000 in
theorem tw_1339 : Cond.methodLink RX12 239 yX12_begins ∈ gtbl := kmem_6 60 rfl rfl
set_option maxRecDepth 100000 in
theorem tw_1341 : Cond.instanceMethod yX12_begins ∈ gtbl := kmem_6 62 rfl rfl
set_option maxRecDepth 100000 in
theorem tw_1342 : Cond.code yX12_begins prog_14_method_67_code 2 (Option.none : Option Jvm.ClassFile.FieldType) ∈ gtbl := kmem_6 63 rfl rfl
set_option maxRecDepth 100000 in
theorem tw_1343 : Cond.methodLink RX12 246 yX12_above ∈ gtbl := kmem_6 64 rfl rfl
set_option maxRecDepth 100000 in
theorem tw_1344 : Cond.static yX12_above ∈ gtbl := kmem_6 65 rfl rfl
set_option maxRecDepth 100000 in
theorem tw_1345 : Cond.code yX12_above prog_14_method_68_code 1 (Option.some Jvm.ClassFile.FieldType.int) ∈ gtbl := kmem_6 66 rfl rfl
set_option maxRecDepth 100000 in
theorem tw_1346 : Cond.methodLink RX12 252 yX12_comesAs ∈ gtbl := kmem_6 67 rfl rfl
set_option maxRecDepth 100000 in
theorem tw_1348 : Cond.instanceMethod yX12_comesAs ∈ gtbl := kmem_6 69 rfl rfl
set_option maxRecDepth 100000 in
theorem tw_1349 : Cond.code yX12_comesAs prog_14_method_70_code 3 (Option.some Jvm.ClassFile.FieldType.int) ∈ gtbl := kmem_6 70 rfl rfl
set_option maxRecDepth 100000 in
theorem tw_1350 : Cond.methodLink RX12 255 yX12_givesAs ∈ gtbl := kmem_6 71 rfl rfl
set_option maxRecDepth 100000 in
theorem tw_1352 : Cond.instanceMethod yX12_givesAs ∈ gtbl := kmem_6 73 rfl rfl
set_option maxRecDepth 100000 in
theorem tw_1353 : Cond.code yX12_givesAs prog_14_method_71_code 3 (Option.some Jvm.ClassFile.FieldType.int) ∈ gtbl := kmem_6 74 rfl rfl
set_option maxRecDepth 100000 in
theorem tw_1354 : Cond.methodLink RX12 262 yX12_partsAs ∈ gtbl := kmem_6 75 rfl rfl
set_option maxRecDepth 100000 in
theorem tw_1356 : Cond.instanceMethod yX12_partsAs ∈ gtbl := kmem_6 77 rfl rfl
set_option maxRecDepth 100000 in
theorem tw_1357 : Cond.code yX12_partsAs prog_14_method_72_code 5 (Option.some Jvm.ClassFile.FieldType.int) ∈ gtbl := kmem_6 78 rfl rfl
set_option maxRecDepth 100000 in
theorem tw_1358 : Cond.methodLink RL 120 yX12_body ∈ gtbl := kmem_6 79 rfl rfl
set_option maxRecDepth 100000 in
theorem tw_1359 : Cond.instanceMethod yX12_body ∈ gtbl := kmem_6 80 rfl rfl
set_option maxRecDepth 100000 in
theorem tw_1360 : Cond.selects RX12 yX12_body yX12_body ∈ gtbl := kmem_6 81 rfl rfl
set_option maxRecDepth 100000 in
theorem tw_1361 : Cond.code yX12_body prog_14_method_74_code 2 (Option.some Jvm.ClassFile.FieldType.int) ∈ gtbl := kmem_6 82 rfl rfl
set_option maxRecDepth 100000 in
theorem tw_1362 : Cond.methodLink RL 124 yX12_sheet ∈ gtbl := kmem_6 83 rfl rfl
set_option maxRecDepth 100000 in
theorem tw_1363 : Cond.instanceMethod yX12_sheet ∈ gtbl := kmem_6 84 rfl rfl
set_option maxRecDepth 100000 in
theorem tw_1364 : Cond.selects RX12 yX12_sheet yX12_sheet ∈ gtbl := kmem_6 85 rfl rfl
set_option maxRecDepth 100000 in
theorem tw_1365 : Cond.code yX12_sheet prog_14_method_76_code 5 (Option.some Jvm.ClassFile.FieldType.int) ∈ gtbl := kmem_6 86 rfl rfl
set_option maxRecDepth 100000 in
theorem tw_1366 : Cond.methodLink RL 128 yX12_put ∈ gtbl := kmem_6 87 rfl rfl
set_option maxRecDepth 100000 in
theorem tw_1367 : Cond.instanceMethod yX12_put ∈ gtbl := kmem_6 88 rfl rfl
set_option maxRecDepth 100000 in
theorem tw_1368 : Cond.selects RX12 yX12_put yX12_put ∈ gtbl := kmem_6 89 rfl rfl
set_option maxRecDepth 100000 in
theorem tw_1369 : Cond.code yX12_put prog_14_method_77_code 5 (Option.some Jvm.ClassFile.FieldType.int) ∈ gtbl := kmem_6 90 rfl rfl
set_option maxRecDepth 100000 in
theorem tw_1370 : Cond.methodLink RL 133 yX12_move ∈ gtbl := kmem_6 91 rfl rfl
set_option maxRecDepth 100000 in
theorem tw_1371 : Cond.instanceMethod yX12_move ∈ gtbl := kmem_6 92 rfl rfl
set_option maxRecDepth 100000 in
theorem tw_1372 : Cond.selects RX12 yX12_move yX12_move ∈ gtbl := kmem_6 93 rfl rfl
set_option maxRecDepth 100000 in
theorem tw_1373 : Cond.code yX12_move prog_14_method_78_code 7 (Option.some Jvm.ClassFile.FieldType.int) ∈ gtbl := kmem_6 94 rfl rfl
set_option maxRecDepth 100000 in
theorem tw_1374 : Cond.methodLink RL 137 yX12_prices ∈ gtbl := kmem_6 95 rfl rfl
set_option maxRecDepth 100000 in
theorem tw_1375 : Cond.instanceMethod yX12_prices ∈ gtbl := kmem_6 96 rfl rfl
set_option maxRecDepth 100000 in
theorem tw_1376 : Cond.selects RX12 yX12_prices yX12_prices ∈ gtbl := kmem_6 97 rfl rfl
set_option maxRecDepth 100000 in
theorem tw_1377 : Cond.code yX12_prices prog_14_method_79_code 3 (Option.some Jvm.ClassFile.FieldType.int) ∈ gtbl := kmem_6 98 rfl rfl
set_option maxRecDepth 100000 in
theorem tw_1378 : Cond.methodLink RL 142 yX12_image ∈ gtbl := kmem_6 99 rfl rfl
set_option maxRecDepth 100000 in
theorem tw_1379 : Cond.instanceMethod yX12_image ∈ gtbl := kmem_6 100 rfl rfl
set_option maxRecDepth 100000 in
theorem tw_1380 : Cond.selects RX12 yX12_image yX12_image ∈ gtbl := kmem_6 101 rfl rfl
set_option maxRecDepth 100000 in
theorem tw_1381 : Cond.code yX12_image prog_14_method_80_code 1 (Option.some Jvm.ClassFile.FieldType.int) ∈ gtbl := kmem_6 102 rfl rfl
set_option maxRecDepth 100000 in
theorem tw_1382 : Cond.methodLink RX12 265 yX12_carry ∈ gtbl := kmem_6 103 rfl rfl
set_option maxRecDepth 100000 in
theorem tw_1383 : Cond.static yX12_carry ∈ gtbl := kmem_6 104 rfl rfl
set_option maxRecDepth 100000 in
theorem tw_1384 : Cond.code yX12_carry prog_14_method_5_code 3 (Option.none : Option Jvm.ClassFile.FieldType) ∈ gtbl := kmem_6 105 rfl rfl
set_option maxRecDepth 100000 in
theorem tw_1385 : Cond.methodLink RL 146 yX12_restore ∈ gtbl := kmem_6 106 rfl rfl
set_option maxRecDepth 100000 in
theorem tw_1386 : Cond.instanceMethod yX12_restore ∈ gtbl := kmem_6 107 rfl rfl
set_option maxRecDepth 100000 in
theorem tw_1387 : Cond.selects RX12 yX12_restore yX12_restore ∈ gtbl := kmem_6 108 rfl rfl
set_option maxRecDepth 100000 in
theorem tw_1388 : Cond.code yX12_restore prog_14_method_81_code 1 (Option.some Jvm.ClassFile.FieldType.int) ∈ gtbl := kmem_6 109 rfl rfl
set_option maxRecDepth 100000 in
theorem tw_1389 : Cond.methodLink RL 150 yX12_tell ∈ gtbl := kmem_6 110 rfl rfl
set_option maxRecDepth 100000 in
theorem tw_1390 : Cond.instanceMethod yX12_tell ∈ gtbl := kmem_6 111 rfl rfl
set_option maxRecDepth 100000 in
theorem tw_1391 : Cond.selects RX12 yX12_tell yX12_tell ∈ gtbl := kmem_6 112 rfl rfl
set_option maxRecDepth 100000 in
theorem tw_1392 : Cond.code yX12_tell prog_14_method_82_code 2 (Option.some Jvm.ClassFile.FieldType.int) ∈ gtbl := kmem_6 113 rfl rfl
set_option maxRecDepth 100000 in
theorem tw_1393 : Cond.methodLink RL 154 yX12_check ∈ gtbl := kmem_6 114 rfl rfl
set_option maxRecDepth 100000 in
theorem tw_1394 : Cond.instanceMethod yX12_check ∈ gtbl := kmem_6 115 rfl rfl
set_option maxRecDepth 100000 in
theorem tw_1395 : Cond.selects RX12 yX12_check yX12_check ∈ gtbl := kmem_6 116 rfl rfl
set_option maxRecDepth 100000 in
theorem tw_1396 : Cond.code yX12_check prog_14_method_83_code 4 (Option.some Jvm.ClassFile.FieldType.int) ∈ gtbl := kmem_6 117 rfl rfl
set_option maxRecDepth 100000 in
theorem tw_1397 : Cond.methodLink RL 158 yX12_count ∈ gtbl := kmem_6 118 rfl rfl
set_option maxRecDepth 100000 in
theorem tw_1398 : Cond.instanceMethod yX12_count ∈ gtbl := kmem_6 119 rfl rfl
set_option maxRecDepth 100000 in
theorem tw_1399 : Cond.selects RX12 yX12_count yX12_count ∈ gtbl := kmem_6 120 rfl rfl
set_option maxRecDepth 100000 in
theorem tw_1400 : Cond.code yX12_count prog_14_method_84_code 4 (Option.some Jvm.ClassFile.FieldType.int) ∈ gtbl := kmem_6 121 rfl rfl
set_option maxRecDepth 100000 in
theorem tw_1401 : Cond.methodLink RL 162 yX12_told ∈ gtbl := kmem_6 122 rfl rfl
set_option maxRecDepth 100000 in
theorem tw_1402 : Cond.instanceMethod yX12_told ∈ gtbl := kmem_6 123 rfl rfl
set_option maxRecDepth 100000 in
theorem tw_1403 : Cond.selects RX12 yX12_told yX12_told ∈ gtbl := kmem_6 124 rfl rfl
set_option maxRecDepth 100000 in
theorem tw_1404 : Cond.code yX12_told prog_14_method_85_code 2 (Option.some Jvm.ClassFile.FieldType.int) ∈ gtbl := kmem_6 125 rfl rfl
set_option maxRecDepth 100000 in
theorem tw_1405 : Cond.constantLong RL 43 (4294967295 : Int64) ∈ gtbl := kmem_6 126 rfl rfl
set_option maxRecDepth 100000 in
theorem tw_1406 : Cond.sameMethod "FigureTill$LastTill" "FigureTill$LastTill" "isOf" "(I)Z" ∈ gtbl := kmem_6 127 rfl rfl
set_option maxRecDepth 100000 in
theorem tw_1407 : Cond.sameMethod "FigureTill$RootTill" "FigureTill$RootTill" "isOf" "(I)Z" ∈ gtbl := kmem_6 128 rfl rfl
set_option maxRecDepth 100000 in
theorem tw_1408 : Cond.sameMethod "FigureTill$LastTill" "FigureTill$LastTill" "due" "(IILFigureTill$Law;)I" ∈ gtbl := kmem_6 129 rfl rfl
set_option maxRecDepth 100000 in
theorem tw_1409 : Cond.sameMethod "FigureTill$LastTill" "FigureTill$LastTill" "adds" "(LFigureTill$Trace;I)I" ∈ gtbl := kmem_6 130 rfl rfl
set_option maxRecDepth 100000 in
theorem tw_1410 : Cond.sameMethod "FigureTill$RootTill" "FigureTill$RootTill" "comes" "(LFigureTill$Trace;I)I" ∈ gtbl := kmem_6 131 rfl rfl
set_option maxRecDepth 100000 in
theorem tw_1417 : Cond.fieldLink RJ0 9 "java/lang/String" "value" "[B" ∈ gtbl := kmem_6 138 rfl rfl
set_option maxRecDepth 100000 in
theorem tw_1418 : Cond.fieldLink RJ0 15 "java/lang/String" "coder" "B" ∈ gtbl := kmem_6 139 rfl rfl
set_option maxRecDepth 100000 in
theorem ly_X0_0 : u_lay RX0 TX0 0 ∈ gtbl := kmem_2 7 rfl rfl
set_option maxRecDepth 100000 in
theorem ly_X0_1 : u_lay RX0 TX0 1 ∈ gtbl := kmem_2 9 rfl rfl
set_option maxRecDepth 100000 in
theorem ly_X0_2 : u_lay RX0 TX0 2 ∈ gtbl := kmem_2 11 rfl rfl
theorem hin_X0 : ∀ w ∈ wsX00, w ∈ gtbl := hin_of (fun k hk => match k, hk with | 0, _ => ly_X0_0 | 1, _ => ly_X0_1 | 2, _ => ly_X0_2 | k + 3, hk => absurd hk (by omega))
set_option maxRecDepth 100000 in
theorem ly_X1_0 : u_lay RX1 TX1 0 ∈ gtbl := kmem_1 127 rfl rfl
set_option maxRecDepth 100000 in
theorem ly_X1_1 : u_lay RX1 TX1 1 ∈ gtbl := kmem_1 128 rfl rfl
theorem hin_X1 : ∀ w ∈ wsX10, w ∈ gtbl := hin_of (fun k hk => match k, hk with | 0, _ => ly_X1_0 | 1, _ => ly_X1_1 | k + 2, hk => absurd hk (by omega))
set_option maxRecDepth 100000 in
theorem ly_X10_0 : u_lay RX10 TX10 0 ∈ gtbl := kmem_1 225 rfl rfl
set_option maxRecDepth 100000 in
theorem ly_X10_1 : u_lay RX10 TX10 1 ∈ gtbl := kmem_1 227 rfl rfl
set_option maxRecDepth 100000 in
theorem ly_X10_2 : u_lay RX10 TX10 2 ∈ gtbl := kmem_1 229 rfl rfl
theorem hin_X10 : ∀ w ∈ wsX100, w ∈ gtbl := hin_of (fun k hk => match k, hk with | 0, _ => ly_X10_0 | 1, _ => ly_X10_1 | 2, _ => ly_X10_2 | k + 3, hk => absurd hk (by omega))
set_option maxRecDepth 100000 in
theorem ly_X11_0 : u_lay RX11 TX11 0 ∈ gtbl := kmem_2 31 rfl rfl
set_option maxRecDepth 100000 in
theorem ly_X11_1 : u_lay RX11 TX11 1 ∈ gtbl := kmem_2 33 rfl rfl
set_option maxRecDepth 100000 in
theorem ly_X11_2 : u_lay RX11 TX11 2 ∈ gtbl := kmem_2 35 rfl rfl
set_option maxRecDepth 100000 in
theorem ly_X11_3 : u_lay RX11 TX11 3 ∈ gtbl := kmem_2 37 rfl rfl
set_option maxRecDepth 100000 in
theorem ly_X11_4 : u_lay RX11 TX11 4 ∈ gtbl := kmem_2 39 rfl rfl
set_option maxRecDepth 100000 in
theorem ly_X11_5 : u_lay RX11 TX11 5 ∈ gtbl := kmem_2 41 rfl rfl
set_option maxRecDepth 100000 in
theorem ly_X11_6 : u_lay RX11 TX11 6 ∈ gtbl := kmem_2 43 rfl rfl
set_option maxRecDepth 100000 in
theorem ly_X11_7 : u_lay RX11 TX11 7 ∈ gtbl := kmem_2 45 rfl rfl
set_option maxRecDepth 100000 in
theorem ly_X11_8 : u_lay RX11 TX11 8 ∈ gtbl := kmem_2 47 rfl rfl
set_option maxRecDepth 100000 in
theorem ly_X11_9 : u_lay RX11 TX11 9 ∈ gtbl := kmem_2 49 rfl rfl
set_option maxRecDepth 100000 in
theorem ly_X11_10 : u_lay RX11 TX11 10 ∈ gtbl := kmem_2 51 rfl rfl
set_option maxRecDepth 100000 in
theorem ly_X11_11 : u_lay RX11 TX11 11 ∈ gtbl := kmem_2 53 rfl rfl
set_option maxRecDepth 100000 in
theorem ly_X11_12 : u_lay RX11 TX11 12 ∈ gtbl := kmem_2 55 rfl rfl
set_option maxRecDepth 100000 in
theorem ly_X11_13 : u_lay RX11 TX11 13 ∈ gtbl := kmem_2 57 rfl rfl
set_option maxRecDepth 100000 in
theorem ly_X11_14 : u_lay RX11 TX11 14 ∈ gtbl := kmem_2 59 rfl rfl
set_option maxRecDepth 100000 in
theorem ly_X11_15 : u_lay RX11 TX11 15 ∈ gtbl := kmem_2 61 rfl rfl
set_option maxRecDepth 100000 in
theorem ly_X11_16 : u_lay RX11 TX11 16 ∈ gtbl := kmem_2 63 rfl rfl
theorem hin_X11 : ∀ w ∈ wsX110, w ∈ gtbl := hin_of (fun k hk => match k, hk with | 0, _ => ly_X11_0 | 1, _ => ly_X11_1 | 2, _ => ly_X11_2 | 3, _ => ly_X11_3 | 4, _ => ly_X11_4 | 5, _ => ly_X11_5 | 6, _ => ly_X11_6 | 7, _ => ly_X11_7 | 8, _ => ly_X11_8 | 9, _ => ly_X11_9 | 10, _ => ly_X11_10 | 11, _ => ly_X11_11 | 12, _ => ly_X11_12 | 13, _ => ly_X11_13 | 14, _ => ly_X11_14 | 15, _ => ly_X11_15 | 16, _ => ly_X11_16 | k + 17, hk => absurd hk (by omega))
set_option maxRecDepth 100000 in
theorem ly_X12_0 : u_lay RX12 TX12 0 ∈ gtbl := kmem_4 217 rfl rfl
set_option maxRecDepth 100000 in
theorem ly_X12_1 : u_lay RX12 TX12 1 ∈ gtbl := kmem_4 219 rfl rfl
set_option maxRecDepth 100000 in
theorem ly_X12_2 : u_lay RX12 TX12 2 ∈ gtbl := kmem_4 221 rfl rfl
set_option maxRecDepth 100000 in
theorem ly_X12_3 : u_lay RX12 TX12 3 ∈ gtbl := kmem_4 223 rfl rfl
set_option maxRecDepth 100000 in
theorem ly_X12_4 : u_lay RX12 TX12 4 ∈ gtbl := kmem_4 225 rfl rfl
set_option maxRecDepth 100000 in
theorem ly_X12_5 : u_lay RX12 TX12 5 ∈ gtbl := kmem_4 227 rfl rfl
set_option maxRecDepth 100000 in
theorem ly_X12_6 : u_lay RX12 TX12 6 ∈ gtbl := kmem_4 229 rfl rfl
set_option maxRecDepth 100000 in
theorem ly_X12_7 : u_lay RX12 TX12 7 ∈ gtbl := kmem_4 231 rfl rfl
set_option maxRecDepth 100000 in
theorem ly_X12_8 : u_lay RX12 TX12 8 ∈ gtbl := kmem_4 233 rfl rfl
set_option maxRecDepth 100000 in
theorem ly_X12_9 : u_lay RX12 TX12 9 ∈ gtbl := kmem_4 235 rfl rfl
set_option maxRecDepth 100000 in
theorem ly_X12_10 : u_lay RX12 TX12 10 ∈ gtbl := kmem_4 237 rfl rfl
set_option maxRecDepth 100000 in
theorem ly_X12_11 : u_lay RX12 TX12 11 ∈ gtbl := kmem_4 239 rfl rfl
set_option maxRecDepth 100000 in
theorem ly_X12_12 : u_lay RX12 TX12 12 ∈ gtbl := kmem_5 1 rfl rfl
set_option maxRecDepth 100000 in
theorem ly_X12_13 : u_lay RX12 TX12 13 ∈ gtbl := kmem_5 3 rfl rfl
set_option maxRecDepth 100000 in
theorem ly_X12_14 : u_lay RX12 TX12 14 ∈ gtbl := kmem_5 5 rfl rfl
set_option maxRecDepth 100000 in
theorem ly_X12_15 : u_lay RX12 TX12 15 ∈ gtbl := kmem_5 7 rfl rfl
set_option maxRecDepth 100000 in
theorem ly_X12_16 : u_lay RX12 TX12 16 ∈ gtbl := kmem_5 9 rfl rfl
set_option maxRecDepth 100000 in
theorem ly_X12_17 : u_lay RX12 TX12 17 ∈ gtbl := kmem_5 11 rfl rfl
set_option maxRecDepth 100000 in
theorem ly_X12_18 : u_lay RX12 TX12 18 ∈ gtbl := kmem_5 13 rfl rfl
set_option maxRecDepth 100000 in
theorem ly_X12_19 : u_lay RX12 TX12 19 ∈ gtbl := kmem_5 15 rfl rfl
set_option maxRecDepth 100000 in
theorem ly_X12_20 : u_lay RX12 TX12 20 ∈ gtbl := kmem_5 17 rfl rfl
set_option maxRecDepth 100000 in
theorem ly_X12_21 : u_lay RX12 TX12 21 ∈ gtbl := kmem_5 19 rfl rfl
set_option maxRecDepth 100000 in
theorem ly_X12_22 : u_lay RX12 TX12 22 ∈ gtbl := kmem_5 21 rfl rfl
set_option maxRecDepth 100000 in
theorem ly_X12_23 : u_lay RX12 TX12 23 ∈ gtbl := kmem_5 23 rfl rfl
set_option maxRecDepth 100000 in
theorem ly_X12_24 : u_lay RX12 TX12 24 ∈ gtbl := kmem_5 25 rfl rfl
set_option maxRecDepth 100000 in
theorem ly_X12_25 : u_lay RX12 TX12 25 ∈ gtbl := kmem_5 27 rfl rfl
set_option maxRecDepth 100000 in
theorem ly_X12_26 : u_lay RX12 TX12 26 ∈ gtbl := kmem_5 29 rfl rfl
set_option maxRecDepth 100000 in
theorem ly_X12_27 : u_lay RX12 TX12 27 ∈ gtbl := kmem_5 31 rfl rfl
set_option maxRecDepth 100000 in
theorem ly_X12_28 : u_lay RX12 TX12 28 ∈ gtbl := kmem_5 33 rfl rfl
set_option maxRecDepth 100000 in
theorem ly_X12_29 : u_lay RX12 TX12 29 ∈ gtbl := kmem_5 35 rfl rfl
theorem hin_X12 : ∀ w ∈ wsX120, w ∈ gtbl := hin_of (fun k hk => match k, hk with | 0, _ => ly_X12_0 | 1, _ => ly_X12_1 | 2, _ => ly_X12_2 | 3, _ => ly_X12_3 | 4, _ => ly_X12_4 | 5, _ => ly_X12_5 | 6, _ => ly_X12_6 | 7, _ => ly_X12_7 | 8, _ => ly_X12_8 | 9, _ => ly_X12_9 | 10, _ => ly_X12_10 | 11, _ => ly_X12_11 | 12, _ => ly_X12_12 | 13, _ => ly_X12_13 | 14, _ => ly_X12_14 | 15, _ => ly_X12_15 | 16, _ => ly_X12_16 | 17, _ => ly_X12_17 | 18, _ => ly_X12_18 | 19, _ => ly_X12_19 | 20, _ => ly_X12_20 | 21, _ => ly_X12_21 | 22, _ => ly_X12_22 | 23, _ => ly_X12_23 | 24, _ => ly_X12_24 | 25, _ => ly_X12_25 | 26, _ => ly_X12_26 | 27, _ => ly_X12_27 | 28, _ => ly_X12_28 | 29, _ => ly_X12_29 | k + 30, hk => absurd hk (by omega))
set_option maxRecDepth 100000 in
theorem ly_X2_0 : u_lay RX2 TX2 0 ∈ gtbl := kmem_1 145 rfl rfl
set_option maxRecDepth 100000 in
theorem ly_X2_1 : u_lay RX2 TX2 1 ∈ gtbl := kmem_1 146 rfl rfl
theorem hin_X2 : ∀ w ∈ wsX20, w ∈ gtbl := hin_of (fun k hk => match k, hk with | 0, _ => ly_X2_0 | 1, _ => ly_X2_1 | k + 2, hk => absurd hk (by omega))
set_option maxRecDepth 100000 in
theorem ly_X3_0 : u_lay RX3 TX3 0 ∈ gtbl := kmem_1 107 rfl rfl
set_option maxRecDepth 100000 in
theorem ly_X3_1 : u_lay RX3 TX3 1 ∈ gtbl := kmem_1 109 rfl rfl
theorem hin_X3 : ∀ w ∈ wsX30, w ∈ gtbl := hin_of (fun k hk => match k, hk with | 0, _ => ly_X3_0 | 1, _ => ly_X3_1 | k + 2, hk => absurd hk (by omega))
set_option maxRecDepth 100000 in
theorem ly_X4_0 : u_lay RX4 TX4 0 ∈ gtbl := kmem_1 56 rfl rfl
set_option maxRecDepth 100000 in
theorem ly_X4_1 : u_lay RX4 TX4 1 ∈ gtbl := kmem_1 58 rfl rfl
set_option maxRecDepth 100000 in
theorem ly_X4_2 : u_lay RX4 TX4 2 ∈ gtbl := kmem_1 60 rfl rfl
set_option maxRecDepth 100000 in
theorem ly_X4_3 : u_lay RX4 TX4 3 ∈ gtbl := kmem_1 62 rfl rfl
set_option maxRecDepth 100000 in
theorem ly_X4_4 : u_lay RX4 TX4 4 ∈ gtbl := kmem_1 64 rfl rfl
set_option maxRecDepth 100000 in
theorem ly_X4_5 : u_lay RX4 TX4 5 ∈ gtbl := kmem_1 66 rfl rfl
set_option maxRecDepth 100000 in
theorem ly_X4_6 : u_lay RX4 TX4 6 ∈ gtbl := kmem_1 68 rfl rfl
set_option maxRecDepth 100000 in
theorem ly_X4_7 : u_lay RX4 TX4 7 ∈ gtbl := kmem_1 70 rfl rfl
set_option maxRecDepth 100000 in
theorem ly_X4_8 : u_lay RX4 TX4 8 ∈ gtbl := kmem_1 72 rfl rfl
set_option maxRecDepth 100000 in
theorem ly_X4_9 : u_lay RX4 TX4 9 ∈ gtbl := kmem_1 74 rfl rfl
theorem hin_X4 : ∀ w ∈ wsX40, w ∈ gtbl := hin_of (fun k hk => match k, hk with | 0, _ => ly_X4_0 | 1, _ => ly_X4_1 | 2, _ => ly_X4_2 | 3, _ => ly_X4_3 | 4, _ => ly_X4_4 | 5, _ => ly_X4_5 | 6, _ => ly_X4_6 | 7, _ => ly_X4_7 | 8, _ => ly_X4_8 | 9, _ => ly_X4_9 | k + 10, hk => absurd hk (by omega))
set_option maxRecDepth 100000 in
theorem ly_X5_0 : u_lay RX5 TX5 0 ∈ gtbl := kmem_1 136 rfl rfl
set_option maxRecDepth 100000 in
theorem ly_X5_1 : u_lay RX5 TX5 1 ∈ gtbl := kmem_1 137 rfl rfl
theorem hin_X5 : ∀ w ∈ wsX50, w ∈ gtbl := hin_of (fun k hk => match k, hk with | 0, _ => ly_X5_0 | 1, _ => ly_X5_1 | k + 2, hk => absurd hk (by omega))
set_option maxRecDepth 100000 in
theorem ly_X6_0 : u_lay RX6 TX6 0 ∈ gtbl := kmem_1 118 rfl rfl
set_option maxRecDepth 100000 in
theorem ly_X6_1 : u_lay RX6 TX6 1 ∈ gtbl := kmem_1 119 rfl rfl
theorem hin_X6 : ∀ w ∈ wsX60, w ∈ gtbl := hin_of (fun k hk => match k, hk with | 0, _ => ly_X6_0 | 1, _ => ly_X6_1 | k + 2, hk => absurd hk (by omega))
set_option maxRecDepth 100000 in
theorem ly_X7_0 : u_lay RX7 TX7 0 ∈ gtbl := kmem_1 185 rfl rfl
set_option maxRecDepth 100000 in
theorem ly_X7_1 : u_lay RX7 TX7 1 ∈ gtbl := kmem_1 187 rfl rfl
set_option maxRecDepth 100000 in
theorem ly_X7_2 : u_lay RX7 TX7 2 ∈ gtbl := kmem_1 189 rfl rfl
set_option maxRecDepth 100000 in
theorem ly_X7_3 : u_lay RX7 TX7 3 ∈ gtbl := kmem_1 191 rfl rfl
set_option maxRecDepth 100000 in
theorem ly_X7_4 : u_lay RX7 TX7 4 ∈ gtbl := kmem_1 193 rfl rfl
set_option maxRecDepth 100000 in
theorem ly_X7_5 : u_lay RX7 TX7 5 ∈ gtbl := kmem_1 195 rfl rfl
set_option maxRecDepth 100000 in
theorem ly_X7_6 : u_lay RX7 TX7 6 ∈ gtbl := kmem_1 197 rfl rfl
set_option maxRecDepth 100000 in
theorem ly_X7_7 : u_lay RX7 TX7 7 ∈ gtbl := kmem_1 199 rfl rfl
set_option maxRecDepth 100000 in
theorem ly_X7_8 : u_lay RX7 TX7 8 ∈ gtbl := kmem_1 201 rfl rfl
set_option maxRecDepth 100000 in
theorem ly_X7_9 : u_lay RX7 TX7 9 ∈ gtbl := kmem_1 203 rfl rfl
set_option maxRecDepth 100000 in
theorem ly_X7_10 : u_lay RX7 TX7 10 ∈ gtbl := kmem_1 205 rfl rfl
set_option maxRecDepth 100000 in
theorem ly_X7_11 : u_lay RX7 TX7 11 ∈ gtbl := kmem_1 207 rfl rfl
theorem hin_X7 : ∀ w ∈ wsX70, w ∈ gtbl := hin_of (fun k hk => match k, hk with | 0, _ => ly_X7_0 | 1, _ => ly_X7_1 | 2, _ => ly_X7_2 | 3, _ => ly_X7_3 | 4, _ => ly_X7_4 | 5, _ => ly_X7_5 | 6, _ => ly_X7_6 | 7, _ => ly_X7_7 | 8, _ => ly_X7_8 | 9, _ => ly_X7_9 | 10, _ => ly_X7_10 | 11, _ => ly_X7_11 | k + 12, hk => absurd hk (by omega))
set_option maxRecDepth 100000 in
theorem ly_X8_0 : u_lay RX8 TX8 0 ∈ gtbl := kmem_1 160 rfl rfl
set_option maxRecDepth 100000 in
theorem ly_X8_1 : u_lay RX8 TX8 1 ∈ gtbl := kmem_1 161 rfl rfl
theorem hin_X8 : ∀ w ∈ wsX80, w ∈ gtbl := hin_of (fun k hk => match k, hk with | 0, _ => ly_X8_0 | 1, _ => ly_X8_1 | k + 2, hk => absurd hk (by omega))
set_option maxRecDepth 100000 in
theorem ly_X9_0 : u_lay RX9 TX9 0 ∈ gtbl := kmem_1 154 rfl rfl
set_option maxRecDepth 100000 in
theorem ly_X9_1 : u_lay RX9 TX9 1 ∈ gtbl := kmem_1 155 rfl rfl
theorem hin_X9 : ∀ w ∈ wsX90, w ∈ gtbl := hin_of (fun k hk => match k, hk with | 0, _ => ly_X9_0 | 1, _ => ly_X9_1 | k + 2, hk => absurd hk (by omega))
theorem hd_X0_init : yX0_init.cls ≠ "java/lang/invoke/MethodHandle" ∧ yX0_init.cls ≠ "java/lang/invoke/VarHandle" ∧ (parseMethodDescriptor yX0_init.desc).map (fun d => d.parameters.length) = some 0 := by decide +kernel
theorem hd_X0_clear : yX0_clear.cls ≠ "java/lang/invoke/MethodHandle" ∧ yX0_clear.cls ≠ "java/lang/invoke/VarHandle" ∧ (parseMethodDescriptor yX0_clear.desc).map (fun d => d.parameters.length) = some 0 := by decide +kernel
theorem hd_X0_copy : yX0_copy.cls ≠ "java/lang/invoke/MethodHandle" ∧ yX0_copy.cls ≠ "java/lang/invoke/VarHandle" ∧ (parseMethodDescriptor yX0_copy.desc).map (fun d => d.parameters.length) = some 1 := by decide +kernel
theorem hd_X0_sumBy : yX0_sumBy.cls ≠ "java/lang/invoke/MethodHandle" ∧ yX0_sumBy.cls ≠ "java/lang/invoke/VarHandle" ∧ (parseMethodDescriptor yX0_sumBy.desc).map (fun d => d.parameters.length) = some 1 := by decide +kernel
theorem hd_X0_add : yX0_add.cls ≠ "java/lang/invoke/MethodHandle" ∧ yX0_add.cls ≠ "java/lang/invoke/VarHandle" ∧ (parseMethodDescriptor yX0_add.desc).map (fun d => d.parameters.length) = some 1 := by decide +kernel
theorem hd_X0_step : yX0_step.cls ≠ "java/lang/invoke/MethodHandle" ∧ yX0_step.cls ≠ "java/lang/invoke/VarHandle" ∧ (parseMethodDescriptor yX0_step.desc).map (fun d => d.parameters.length) = some 3 := by decide +kernel
theorem hd_X0_rowAsNumber : yX0_rowAsNumber.cls ≠ "java/lang/invoke/MethodHandle" ∧ yX0_rowAsNumber.cls ≠ "java/lang/invoke/VarHandle" ∧ (parseMethodDescriptor yX0_rowAsNumber.desc).map (fun d => d.parameters.length) = some 0 := by decide +kernel
theorem hd_X1_init : yX1_init.cls ≠ "java/lang/invoke/MethodHandle" ∧ yX1_init.cls ≠ "java/lang/invoke/VarHandle" ∧ (parseMethodDescriptor yX1_init.desc).map (fun d => d.parameters.length) = some 2 := by decide +kernel
theorem hd_X1_kind : yX1_kind.cls ≠ "java/lang/invoke/MethodHandle" ∧ yX1_kind.cls ≠ "java/lang/invoke/VarHandle" ∧ (parseMethodDescriptor yX1_kind.desc).map (fun d => d.parameters.length) = some 0 := by decide +kernel
theorem hd_X1_isOf : yX1_isOf.cls ≠ "java/lang/invoke/MethodHandle" ∧ yX1_isOf.cls ≠ "java/lang/invoke/VarHandle" ∧ (parseMethodDescriptor yX1_isOf.desc).map (fun d => d.parameters.length) = some 1 := by decide +kernel
theorem hd_X1_due : yX1_due.cls ≠ "java/lang/invoke/MethodHandle" ∧ yX1_due.cls ≠ "java/lang/invoke/VarHandle" ∧ (parseMethodDescriptor yX1_due.desc).map (fun d => d.parameters.length) = some 3 := by decide +kernel
theorem hd_X1_gives : yX1_gives.cls ≠ "java/lang/invoke/MethodHandle" ∧ yX1_gives.cls ≠ "java/lang/invoke/VarHandle" ∧ (parseMethodDescriptor yX1_gives.desc).map (fun d => d.parameters.length) = some 2 := by decide +kernel
theorem hd_X2_init : yX2_init.cls ≠ "java/lang/invoke/MethodHandle" ∧ yX2_init.cls ≠ "java/lang/invoke/VarHandle" ∧ (parseMethodDescriptor yX2_init.desc).map (fun d => d.parameters.length) = some 2 := by decide +kernel
theorem hd_X2_kind : yX2_kind.cls ≠ "java/lang/invoke/MethodHandle" ∧ yX2_kind.cls ≠ "java/lang/invoke/VarHandle" ∧ (parseMethodDescriptor yX2_kind.desc).map (fun d => d.parameters.length) = some 0 := by decide +kernel
theorem hd_X2_isOf : yX2_isOf.cls ≠ "java/lang/invoke/MethodHandle" ∧ yX2_isOf.cls ≠ "java/lang/invoke/VarHandle" ∧ (parseMethodDescriptor yX2_isOf.desc).map (fun d => d.parameters.length) = some 1 := by decide +kernel
theorem hd_X2_due : yX2_due.cls ≠ "java/lang/invoke/MethodHandle" ∧ yX2_due.cls ≠ "java/lang/invoke/VarHandle" ∧ (parseMethodDescriptor yX2_due.desc).map (fun d => d.parameters.length) = some 3 := by decide +kernel
theorem hd_X2_adds : yX2_adds.cls ≠ "java/lang/invoke/MethodHandle" ∧ yX2_adds.cls ≠ "java/lang/invoke/VarHandle" ∧ (parseMethodDescriptor yX2_adds.desc).map (fun d => d.parameters.length) = some 2 := by decide +kernel
theorem hd_X2_gives : yX2_gives.cls ≠ "java/lang/invoke/MethodHandle" ∧ yX2_gives.cls ≠ "java/lang/invoke/VarHandle" ∧ (parseMethodDescriptor yX2_gives.desc).map (fun d => d.parameters.length) = some 2 := by decide +kernel
theorem hd_X3_init : yX3_init.cls ≠ "java/lang/invoke/MethodHandle" ∧ yX3_init.cls ≠ "java/lang/invoke/VarHandle" ∧ (parseMethodDescriptor yX3_init.desc).map (fun d => d.parameters.length) = some 2 := by decide +kernel
theorem hd_X3_kind : yX3_kind.cls ≠ "java/lang/invoke/MethodHandle" ∧ yX3_kind.cls ≠ "java/lang/invoke/VarHandle" ∧ (parseMethodDescriptor yX3_kind.desc).map (fun d => d.parameters.length) = some 0 := by decide +kernel
theorem hd_X3_isOf : yX3_isOf.cls ≠ "java/lang/invoke/MethodHandle" ∧ yX3_isOf.cls ≠ "java/lang/invoke/VarHandle" ∧ (parseMethodDescriptor yX3_isOf.desc).map (fun d => d.parameters.length) = some 1 := by decide +kernel
theorem hd_X3_due : yX3_due.cls ≠ "java/lang/invoke/MethodHandle" ∧ yX3_due.cls ≠ "java/lang/invoke/VarHandle" ∧ (parseMethodDescriptor yX3_due.desc).map (fun d => d.parameters.length) = some 3 := by decide +kernel
theorem hd_X3_adds : yX3_adds.cls ≠ "java/lang/invoke/MethodHandle" ∧ yX3_adds.cls ≠ "java/lang/invoke/VarHandle" ∧ (parseMethodDescriptor yX3_adds.desc).map (fun d => d.parameters.length) = some 2 := by decide +kernel
theorem hd_X3_parts : yX3_parts.cls ≠ "java/lang/invoke/MethodHandle" ∧ yX3_parts.cls ≠ "java/lang/invoke/VarHandle" ∧ (parseMethodDescriptor yX3_parts.desc).map (fun d => d.parameters.length) = some 2 := by decide +kernel
theorem hd_X4_init : yX4_init.cls ≠ "java/lang/invoke/MethodHandle" ∧ yX4_init.cls ≠ "java/lang/invoke/VarHandle" ∧ (parseMethodDescriptor yX4_init.desc).map (fun d => d.parameters.length) = some 1 := by decide +kernel
theorem hd_X4_isTold : yX4_isTold.cls ≠ "java/lang/invoke/MethodHandle" ∧ yX4_isTold.cls ≠ "java/lang/invoke/VarHandle" ∧ (parseMethodDescriptor yX4_isTold.desc).map (fun d => d.parameters.length) = some 0 := by decide +kernel
theorem hd_X4_become : yX4_become.cls ≠ "java/lang/invoke/MethodHandle" ∧ yX4_become.cls ≠ "java/lang/invoke/VarHandle" ∧ (parseMethodDescriptor yX4_become.desc).map (fun d => d.parameters.length) = some 1 := by decide +kernel
theorem hd_X4_fault : yX4_fault.cls ≠ "java/lang/invoke/MethodHandle" ∧ yX4_fault.cls ≠ "java/lang/invoke/VarHandle" ∧ (parseMethodDescriptor yX4_fault.desc).map (fun d => d.parameters.length) = some 2 := by decide +kernel
theorem hd_X4_next : yX4_next.cls ≠ "java/lang/invoke/MethodHandle" ∧ yX4_next.cls ≠ "java/lang/invoke/VarHandle" ∧ (parseMethodDescriptor yX4_next.desc).map (fun d => d.parameters.length) = some 0 := by decide +kernel
theorem hd_X4_write : yX4_write.cls ≠ "java/lang/invoke/MethodHandle" ∧ yX4_write.cls ≠ "java/lang/invoke/VarHandle" ∧ (parseMethodDescriptor yX4_write.desc).map (fun d => d.parameters.length) = some 1 := by decide +kernel
theorem hd_X4_readEither : yX4_readEither.cls ≠ "java/lang/invoke/MethodHandle" ∧ yX4_readEither.cls ≠ "java/lang/invoke/VarHandle" ∧ (parseMethodDescriptor yX4_readEither.desc).map (fun d => d.parameters.length) = some 1 := by decide +kernel
theorem hd_X4_readBoth : yX4_readBoth.cls ≠ "java/lang/invoke/MethodHandle" ∧ yX4_readBoth.cls ≠ "java/lang/invoke/VarHandle" ∧ (parseMethodDescriptor yX4_readBoth.desc).map (fun d => d.parameters.length) = some 1 := by decide +kernel
theorem hd_X4_readCompared : yX4_readCompared.cls ≠ "java/lang/invoke/MethodHandle" ∧ yX4_readCompared.cls ≠ "java/lang/invoke/VarHandle" ∧ (parseMethodDescriptor yX4_readCompared.desc).map (fun d => d.parameters.length) = some 1 := by decide +kernel
theorem hd_X4_readAdded : yX4_readAdded.cls ≠ "java/lang/invoke/MethodHandle" ∧ yX4_readAdded.cls ≠ "java/lang/invoke/VarHandle" ∧ (parseMethodDescriptor yX4_readAdded.desc).map (fun d => d.parameters.length) = some 1 := by decide +kernel
theorem hd_X4_readTimes : yX4_readTimes.cls ≠ "java/lang/invoke/MethodHandle" ∧ yX4_readTimes.cls ≠ "java/lang/invoke/VarHandle" ∧ (parseMethodDescriptor yX4_readTimes.desc).map (fun d => d.parameters.length) = some 1 := by decide +kernel
theorem hd_X4_readOne : yX4_readOne.cls ≠ "java/lang/invoke/MethodHandle" ∧ yX4_readOne.cls ≠ "java/lang/invoke/VarHandle" ∧ (parseMethodDescriptor yX4_readOne.desc).map (fun d => d.parameters.length) = some 1 := by decide +kernel
theorem hd_X4_readClose : yX4_readClose.cls ≠ "java/lang/invoke/MethodHandle" ∧ yX4_readClose.cls ≠ "java/lang/invoke/VarHandle" ∧ (parseMethodDescriptor yX4_readClose.desc).map (fun d => d.parameters.length) = some 0 := by decide +kernel
theorem hd_X4_readNumber : yX4_readNumber.cls ≠ "java/lang/invoke/MethodHandle" ∧ yX4_readNumber.cls ≠ "java/lang/invoke/VarHandle" ∧ (parseMethodDescriptor yX4_readNumber.desc).map (fun d => d.parameters.length) = some 0 := by decide +kernel
theorem hd_X4_isDigit : yX4_isDigit.cls ≠ "java/lang/invoke/MethodHandle" ∧ yX4_isDigit.cls ≠ "java/lang/invoke/VarHandle" ∧ (parseMethodDescriptor yX4_isDigit.desc).map (fun d => d.parameters.length) = some 1 := by decide +kernel
theorem hd_X4_nameOf : yX4_nameOf.cls ≠ "java/lang/invoke/MethodHandle" ∧ yX4_nameOf.cls ≠ "java/lang/invoke/VarHandle" ∧ (parseMethodDescriptor yX4_nameOf.desc).map (fun d => d.parameters.length) = some 1 := by decide +kernel
theorem hd_X4_workedOut : yX4_workedOut.cls ≠ "java/lang/invoke/MethodHandle" ∧ yX4_workedOut.cls ≠ "java/lang/invoke/VarHandle" ∧ (parseMethodDescriptor yX4_workedOut.desc).map (fun d => d.parameters.length) = some 3 := by decide +kernel
theorem hd_X4_named : yX4_named.cls ≠ "java/lang/invoke/MethodHandle" ∧ yX4_named.cls ≠ "java/lang/invoke/VarHandle" ∧ (parseMethodDescriptor yX4_named.desc).map (fun d => d.parameters.length) = some 4 := by decide +kernel
theorem hd_X4_joined : yX4_joined.cls ≠ "java/lang/invoke/MethodHandle" ∧ yX4_joined.cls ≠ "java/lang/invoke/VarHandle" ∧ (parseMethodDescriptor yX4_joined.desc).map (fun d => d.parameters.length) = some 3 := by decide +kernel
theorem hd_X5_init : yX5_init.cls ≠ "java/lang/invoke/MethodHandle" ∧ yX5_init.cls ≠ "java/lang/invoke/VarHandle" ∧ (parseMethodDescriptor yX5_init.desc).map (fun d => d.parameters.length) = some 2 := by decide +kernel
theorem hd_X5_kind : yX5_kind.cls ≠ "java/lang/invoke/MethodHandle" ∧ yX5_kind.cls ≠ "java/lang/invoke/VarHandle" ∧ (parseMethodDescriptor yX5_kind.desc).map (fun d => d.parameters.length) = some 0 := by decide +kernel
theorem hd_X5_isOf : yX5_isOf.cls ≠ "java/lang/invoke/MethodHandle" ∧ yX5_isOf.cls ≠ "java/lang/invoke/VarHandle" ∧ (parseMethodDescriptor yX5_isOf.desc).map (fun d => d.parameters.length) = some 1 := by decide +kernel
theorem hd_X5_due : yX5_due.cls ≠ "java/lang/invoke/MethodHandle" ∧ yX5_due.cls ≠ "java/lang/invoke/VarHandle" ∧ (parseMethodDescriptor yX5_due.desc).map (fun d => d.parameters.length) = some 3 := by decide +kernel
theorem hd_X5_comes : yX5_comes.cls ≠ "java/lang/invoke/MethodHandle" ∧ yX5_comes.cls ≠ "java/lang/invoke/VarHandle" ∧ (parseMethodDescriptor yX5_comes.desc).map (fun d => d.parameters.length) = some 2 := by decide +kernel
theorem hd_X6_init : yX6_init.cls ≠ "java/lang/invoke/MethodHandle" ∧ yX6_init.cls ≠ "java/lang/invoke/VarHandle" ∧ (parseMethodDescriptor yX6_init.desc).map (fun d => d.parameters.length) = some 2 := by decide +kernel
theorem hd_X6_kind : yX6_kind.cls ≠ "java/lang/invoke/MethodHandle" ∧ yX6_kind.cls ≠ "java/lang/invoke/VarHandle" ∧ (parseMethodDescriptor yX6_kind.desc).map (fun d => d.parameters.length) = some 0 := by decide +kernel
theorem hd_X6_isOf : yX6_isOf.cls ≠ "java/lang/invoke/MethodHandle" ∧ yX6_isOf.cls ≠ "java/lang/invoke/VarHandle" ∧ (parseMethodDescriptor yX6_isOf.desc).map (fun d => d.parameters.length) = some 1 := by decide +kernel
theorem hd_X6_due : yX6_due.cls ≠ "java/lang/invoke/MethodHandle" ∧ yX6_due.cls ≠ "java/lang/invoke/VarHandle" ∧ (parseMethodDescriptor yX6_due.desc).map (fun d => d.parameters.length) = some 3 := by decide +kernel
theorem hd_X6_comes : yX6_comes.cls ≠ "java/lang/invoke/MethodHandle" ∧ yX6_comes.cls ≠ "java/lang/invoke/VarHandle" ∧ (parseMethodDescriptor yX6_comes.desc).map (fun d => d.parameters.length) = some 2 := by decide +kernel
theorem hd_X7_init : yX7_init.cls ≠ "java/lang/invoke/MethodHandle" ∧ yX7_init.cls ≠ "java/lang/invoke/VarHandle" ∧ (parseMethodDescriptor yX7_init.desc).map (fun d => d.parameters.length) = some 0 := by decide +kernel
theorem hd_X7_become : yX7_become.cls ≠ "java/lang/invoke/MethodHandle" ∧ yX7_become.cls ≠ "java/lang/invoke/VarHandle" ∧ (parseMethodDescriptor yX7_become.desc).map (fun d => d.parameters.length) = some 1 := by decide +kernel
theorem hd_X7_law : yX7_law.cls ≠ "java/lang/invoke/MethodHandle" ∧ yX7_law.cls ≠ "java/lang/invoke/VarHandle" ∧ (parseMethodDescriptor yX7_law.desc).map (fun d => d.parameters.length) = some 1 := by decide +kernel
theorem hd_X7_paid : yX7_paid.cls ≠ "java/lang/invoke/MethodHandle" ∧ yX7_paid.cls ≠ "java/lang/invoke/VarHandle" ∧ (parseMethodDescriptor yX7_paid.desc).map (fun d => d.parameters.length) = some 3 := by decide +kernel
theorem hd_X7_valueOf : yX7_valueOf.cls ≠ "java/lang/invoke/MethodHandle" ∧ yX7_valueOf.cls ≠ "java/lang/invoke/VarHandle" ∧ (parseMethodDescriptor yX7_valueOf.desc).map (fun d => d.parameters.length) = some 1 := by decide +kernel
theorem hd_X7_stockOfAll : yX7_stockOfAll.cls ≠ "java/lang/invoke/MethodHandle" ∧ yX7_stockOfAll.cls ≠ "java/lang/invoke/VarHandle" ∧ (parseMethodDescriptor yX7_stockOfAll.desc).map (fun d => d.parameters.length) = some 0 := by decide +kernel
theorem hd_X7_hasStock : yX7_hasStock.cls ≠ "java/lang/invoke/MethodHandle" ∧ yX7_hasStock.cls ≠ "java/lang/invoke/VarHandle" ∧ (parseMethodDescriptor yX7_hasStock.desc).map (fun d => d.parameters.length) = some 1 := by decide +kernel
theorem hd_X7_sold : yX7_sold.cls ≠ "java/lang/invoke/MethodHandle" ∧ yX7_sold.cls ≠ "java/lang/invoke/VarHandle" ∧ (parseMethodDescriptor yX7_sold.desc).map (fun d => d.parameters.length) = some 2 := by decide +kernel
theorem hd_X7_drawn : yX7_drawn.cls ≠ "java/lang/invoke/MethodHandle" ∧ yX7_drawn.cls ≠ "java/lang/invoke/VarHandle" ∧ (parseMethodDescriptor yX7_drawn.desc).map (fun d => d.parameters.length) = some 1 := by decide +kernel
theorem hd_X8_init : yX8_init.cls ≠ "java/lang/invoke/MethodHandle" ∧ yX8_init.cls ≠ "java/lang/invoke/VarHandle" ∧ (parseMethodDescriptor yX8_init.desc).map (fun d => d.parameters.length) = some 2 := by decide +kernel
theorem hd_X8_kind : yX8_kind.cls ≠ "java/lang/invoke/MethodHandle" ∧ yX8_kind.cls ≠ "java/lang/invoke/VarHandle" ∧ (parseMethodDescriptor yX8_kind.desc).map (fun d => d.parameters.length) = some 0 := by decide +kernel
theorem hd_X8_isOf : yX8_isOf.cls ≠ "java/lang/invoke/MethodHandle" ∧ yX8_isOf.cls ≠ "java/lang/invoke/VarHandle" ∧ (parseMethodDescriptor yX8_isOf.desc).map (fun d => d.parameters.length) = some 1 := by decide +kernel
theorem hd_X8_due : yX8_due.cls ≠ "java/lang/invoke/MethodHandle" ∧ yX8_due.cls ≠ "java/lang/invoke/VarHandle" ∧ (parseMethodDescriptor yX8_due.desc).map (fun d => d.parameters.length) = some 3 := by decide +kernel
theorem hd_X8_adds : yX8_adds.cls ≠ "java/lang/invoke/MethodHandle" ∧ yX8_adds.cls ≠ "java/lang/invoke/VarHandle" ∧ (parseMethodDescriptor yX8_adds.desc).map (fun d => d.parameters.length) = some 2 := by decide +kernel
theorem hd_X8_comes : yX8_comes.cls ≠ "java/lang/invoke/MethodHandle" ∧ yX8_comes.cls ≠ "java/lang/invoke/VarHandle" ∧ (parseMethodDescriptor yX8_comes.desc).map (fun d => d.parameters.length) = some 2 := by decide +kernel
theorem hd_X8_gives : yX8_gives.cls ≠ "java/lang/invoke/MethodHandle" ∧ yX8_gives.cls ≠ "java/lang/invoke/VarHandle" ∧ (parseMethodDescriptor yX8_gives.desc).map (fun d => d.parameters.length) = some 2 := by decide +kernel
theorem hd_X8_parts : yX8_parts.cls ≠ "java/lang/invoke/MethodHandle" ∧ yX8_parts.cls ≠ "java/lang/invoke/VarHandle" ∧ (parseMethodDescriptor yX8_parts.desc).map (fun d => d.parameters.length) = some 2 := by decide +kernel
theorem hd_X9_init : yX9_init.cls ≠ "java/lang/invoke/MethodHandle" ∧ yX9_init.cls ≠ "java/lang/invoke/VarHandle" ∧ (parseMethodDescriptor yX9_init.desc).map (fun d => d.parameters.length) = some 2 := by decide +kernel
theorem hd_X9_kind : yX9_kind.cls ≠ "java/lang/invoke/MethodHandle" ∧ yX9_kind.cls ≠ "java/lang/invoke/VarHandle" ∧ (parseMethodDescriptor yX9_kind.desc).map (fun d => d.parameters.length) = some 0 := by decide +kernel
theorem hd_X9_isOf : yX9_isOf.cls ≠ "java/lang/invoke/MethodHandle" ∧ yX9_isOf.cls ≠ "java/lang/invoke/VarHandle" ∧ (parseMethodDescriptor yX9_isOf.desc).map (fun d => d.parameters.length) = some 1 := by decide +kernel
theorem hd_X9_due : yX9_due.cls ≠ "java/lang/invoke/MethodHandle" ∧ yX9_due.cls ≠ "java/lang/invoke/VarHandle" ∧ (parseMethodDescriptor yX9_due.desc).map (fun d => d.parameters.length) = some 3 := by decide +kernel
theorem hd_X9_adds : yX9_adds.cls ≠ "java/lang/invoke/MethodHandle" ∧ yX9_adds.cls ≠ "java/lang/invoke/VarHandle" ∧ (parseMethodDescriptor yX9_adds.desc).map (fun d => d.parameters.length) = some 2 := by decide +kernel
theorem hd_X9_comes : yX9_comes.cls ≠ "java/lang/invoke/MethodHandle" ∧ yX9_comes.cls ≠ "java/lang/invoke/VarHandle" ∧ (parseMethodDescriptor yX9_comes.desc).map (fun d => d.parameters.length) = some 2 := by decide +kernel
theorem hd_X10_init : yX10_init.cls ≠ "java/lang/invoke/MethodHandle" ∧ yX10_init.cls ≠ "java/lang/invoke/VarHandle" ∧ (parseMethodDescriptor yX10_init.desc).map (fun d => d.parameters.length) = some 0 := by decide +kernel
theorem hd_X10_start : yX10_start.cls ≠ "java/lang/invoke/MethodHandle" ∧ yX10_start.cls ≠ "java/lang/invoke/VarHandle" ∧ (parseMethodDescriptor yX10_start.desc).map (fun d => d.parameters.length) = some 0 := by decide +kernel
theorem hd_X10_began : yX10_began.cls ≠ "java/lang/invoke/MethodHandle" ∧ yX10_began.cls ≠ "java/lang/invoke/VarHandle" ∧ (parseMethodDescriptor yX10_began.desc).map (fun d => d.parameters.length) = some 1 := by decide +kernel
theorem hd_X11_init : yX11_init.cls ≠ "java/lang/invoke/MethodHandle" ∧ yX11_init.cls ≠ "java/lang/invoke/VarHandle" ∧ (parseMethodDescriptor yX11_init.desc).map (fun d => d.parameters.length) = some 0 := by decide +kernel
theorem hd_X11_thing : yX11_thing.cls ≠ "java/lang/invoke/MethodHandle" ∧ yX11_thing.cls ≠ "java/lang/invoke/VarHandle" ∧ (parseMethodDescriptor yX11_thing.desc).map (fun d => d.parameters.length) = some 3 := by decide +kernel
theorem hd_X11_thingIs : yX11_thingIs.cls ≠ "java/lang/invoke/MethodHandle" ∧ yX11_thingIs.cls ≠ "java/lang/invoke/VarHandle" ∧ (parseMethodDescriptor yX11_thingIs.desc).map (fun d => d.parameters.length) = some 2 := by decide +kernel
theorem hd_X11_till : yX11_till.cls ≠ "java/lang/invoke/MethodHandle" ∧ yX11_till.cls ≠ "java/lang/invoke/VarHandle" ∧ (parseMethodDescriptor yX11_till.desc).map (fun d => d.parameters.length) = some 2 := by decide +kernel
theorem hd_X11_tillIs : yX11_tillIs.cls ≠ "java/lang/invoke/MethodHandle" ∧ yX11_tillIs.cls ≠ "java/lang/invoke/VarHandle" ∧ (parseMethodDescriptor yX11_tillIs.desc).map (fun d => d.parameters.length) = some 2 := by decide +kernel
theorem hd_X11_as : yX11_as.cls ≠ "java/lang/invoke/MethodHandle" ∧ yX11_as.cls ≠ "java/lang/invoke/VarHandle" ∧ (parseMethodDescriptor yX11_as.desc).map (fun d => d.parameters.length) = some 2 := by decide +kernel
theorem hd_X11_figures : yX11_figures.cls ≠ "java/lang/invoke/MethodHandle" ∧ yX11_figures.cls ≠ "java/lang/invoke/VarHandle" ∧ (parseMethodDescriptor yX11_figures.desc).map (fun d => d.parameters.length) = some 2 := by decide +kernel
theorem hd_X11_asks : yX11_asks.cls ≠ "java/lang/invoke/MethodHandle" ∧ yX11_asks.cls ≠ "java/lang/invoke/VarHandle" ∧ (parseMethodDescriptor yX11_asks.desc).map (fun d => d.parameters.length) = some 3 := by decide +kernel
theorem hd_X11_feed : yX11_feed.cls ≠ "java/lang/invoke/MethodHandle" ∧ yX11_feed.cls ≠ "java/lang/invoke/VarHandle" ∧ (parseMethodDescriptor yX11_feed.desc).map (fun d => d.parameters.length) = some 2 := by decide +kernel
theorem hd_X11_text : yX11_text.cls ≠ "java/lang/invoke/MethodHandle" ∧ yX11_text.cls ≠ "java/lang/invoke/VarHandle" ∧ (parseMethodDescriptor yX11_text.desc).map (fun d => d.parameters.length) = some 1 := by decide +kernel
theorem hd_X11_untell : yX11_untell.cls ≠ "java/lang/invoke/MethodHandle" ∧ yX11_untell.cls ≠ "java/lang/invoke/VarHandle" ∧ (parseMethodDescriptor yX11_untell.desc).map (fun d => d.parameters.length) = some 1 := by decide +kernel
theorem hd_X11_basket : yX11_basket.cls ≠ "java/lang/invoke/MethodHandle" ∧ yX11_basket.cls ≠ "java/lang/invoke/VarHandle" ∧ (parseMethodDescriptor yX11_basket.desc).map (fun d => d.parameters.length) = some 2 := by decide +kernel
theorem hd_X11_pays : yX11_pays.cls ≠ "java/lang/invoke/MethodHandle" ∧ yX11_pays.cls ≠ "java/lang/invoke/VarHandle" ∧ (parseMethodDescriptor yX11_pays.desc).map (fun d => d.parameters.length) = some 2 := by decide +kernel
theorem hd_X11_go : yX11_go.cls ≠ "java/lang/invoke/MethodHandle" ∧ yX11_go.cls ≠ "java/lang/invoke/VarHandle" ∧ (parseMethodDescriptor yX11_go.desc).map (fun d => d.parameters.length) = some 2 := by decide +kernel
theorem hd_X11_draws : yX11_draws.cls ≠ "java/lang/invoke/MethodHandle" ∧ yX11_draws.cls ≠ "java/lang/invoke/VarHandle" ∧ (parseMethodDescriptor yX11_draws.desc).map (fun d => d.parameters.length) = some 1 := by decide +kernel
theorem hd_X11_seed : yX11_seed.cls ≠ "java/lang/invoke/MethodHandle" ∧ yX11_seed.cls ≠ "java/lang/invoke/VarHandle" ∧ (parseMethodDescriptor yX11_seed.desc).map (fun d => d.parameters.length) = some 1 := by decide +kernel
theorem hd_X11_more : yX11_more.cls ≠ "java/lang/invoke/MethodHandle" ∧ yX11_more.cls ≠ "java/lang/invoke/VarHandle" ∧ (parseMethodDescriptor yX11_more.desc).map (fun d => d.parameters.length) = some 4 := by decide +kernel
theorem hd_X11_inTwo : yX11_inTwo.cls ≠ "java/lang/invoke/MethodHandle" ∧ yX11_inTwo.cls ≠ "java/lang/invoke/VarHandle" ∧ (parseMethodDescriptor yX11_inTwo.desc).map (fun d => d.parameters.length) = some 2 := by decide +kernel
theorem hd_X11_together : yX11_together.cls ≠ "java/lang/invoke/MethodHandle" ∧ yX11_together.cls ≠ "java/lang/invoke/VarHandle" ∧ (parseMethodDescriptor yX11_together.desc).map (fun d => d.parameters.length) = some 3 := by decide +kernel
theorem hd_X11_worth : yX11_worth.cls ≠ "java/lang/invoke/MethodHandle" ∧ yX11_worth.cls ≠ "java/lang/invoke/VarHandle" ∧ (parseMethodDescriptor yX11_worth.desc).map (fun d => d.parameters.length) = some 3 := by decide +kernel
theorem hd_X11_dearer : yX11_dearer.cls ≠ "java/lang/invoke/MethodHandle" ∧ yX11_dearer.cls ≠ "java/lang/invoke/VarHandle" ∧ (parseMethodDescriptor yX11_dearer.desc).map (fun d => d.parameters.length) = some 3 := by decide +kernel
theorem hd_X11_nines : yX11_nines.cls ≠ "java/lang/invoke/MethodHandle" ∧ yX11_nines.cls ≠ "java/lang/invoke/VarHandle" ∧ (parseMethodDescriptor yX11_nines.desc).map (fun d => d.parameters.length) = some 1 := by decide +kernel
theorem hd_X11_erring : yX11_erring.cls ≠ "java/lang/invoke/MethodHandle" ∧ yX11_erring.cls ≠ "java/lang/invoke/VarHandle" ∧ (parseMethodDescriptor yX11_erring.desc).map (fun d => d.parameters.length) = some 4 := by decide +kernel
theorem hd_X11_wasIn : yX11_wasIn.cls ≠ "java/lang/invoke/MethodHandle" ∧ yX11_wasIn.cls ≠ "java/lang/invoke/VarHandle" ∧ (parseMethodDescriptor yX11_wasIn.desc).map (fun d => d.parameters.length) = some 3 := by decide +kernel
theorem hd_X11_voice : yX11_voice.cls ≠ "java/lang/invoke/MethodHandle" ∧ yX11_voice.cls ≠ "java/lang/invoke/VarHandle" ∧ (parseMethodDescriptor yX11_voice.desc).map (fun d => d.parameters.length) = some 3 := by decide +kernel
theorem hd_X11_body : yX11_body.cls ≠ "java/lang/invoke/MethodHandle" ∧ yX11_body.cls ≠ "java/lang/invoke/VarHandle" ∧ (parseMethodDescriptor yX11_body.desc).map (fun d => d.parameters.length) = some 1 := by decide +kernel
theorem hd_X11_sheet : yX11_sheet.cls ≠ "java/lang/invoke/MethodHandle" ∧ yX11_sheet.cls ≠ "java/lang/invoke/VarHandle" ∧ (parseMethodDescriptor yX11_sheet.desc).map (fun d => d.parameters.length) = some 3 := by decide +kernel
theorem hd_X11_put : yX11_put.cls ≠ "java/lang/invoke/MethodHandle" ∧ yX11_put.cls ≠ "java/lang/invoke/VarHandle" ∧ (parseMethodDescriptor yX11_put.desc).map (fun d => d.parameters.length) = some 3 := by decide +kernel
theorem hd_X11_move : yX11_move.cls ≠ "java/lang/invoke/MethodHandle" ∧ yX11_move.cls ≠ "java/lang/invoke/VarHandle" ∧ (parseMethodDescriptor yX11_move.desc).map (fun d => d.parameters.length) = some 5 := by decide +kernel
theorem hd_X11_prices : yX11_prices.cls ≠ "java/lang/invoke/MethodHandle" ∧ yX11_prices.cls ≠ "java/lang/invoke/VarHandle" ∧ (parseMethodDescriptor yX11_prices.desc).map (fun d => d.parameters.length) = some 1 := by decide +kernel
theorem hd_X11_image : yX11_image.cls ≠ "java/lang/invoke/MethodHandle" ∧ yX11_image.cls ≠ "java/lang/invoke/VarHandle" ∧ (parseMethodDescriptor yX11_image.desc).map (fun d => d.parameters.length) = some 0 := by decide +kernel
theorem hd_X11_restore : yX11_restore.cls ≠ "java/lang/invoke/MethodHandle" ∧ yX11_restore.cls ≠ "java/lang/invoke/VarHandle" ∧ (parseMethodDescriptor yX11_restore.desc).map (fun d => d.parameters.length) = some 0 := by decide +kernel
theorem hd_X11_tell : yX11_tell.cls ≠ "java/lang/invoke/MethodHandle" ∧ yX11_tell.cls ≠ "java/lang/invoke/VarHandle" ∧ (parseMethodDescriptor yX11_tell.desc).map (fun d => d.parameters.length) = some 1 := by decide +kernel
theorem hd_X11_check : yX11_check.cls ≠ "java/lang/invoke/MethodHandle" ∧ yX11_check.cls ≠ "java/lang/invoke/VarHandle" ∧ (parseMethodDescriptor yX11_check.desc).map (fun d => d.parameters.length) = some 1 := by decide +kernel
theorem hd_X11_count : yX11_count.cls ≠ "java/lang/invoke/MethodHandle" ∧ yX11_count.cls ≠ "java/lang/invoke/VarHandle" ∧ (parseMethodDescriptor yX11_count.desc).map (fun d => d.parameters.length) = some 1 := by decide +kernel
theorem hd_X11_told : yX11_told.cls ≠ "java/lang/invoke/MethodHandle" ∧ yX11_told.cls ≠ "java/lang/invoke/VarHandle" ∧ (parseMethodDescriptor yX11_told.desc).map (fun d => d.parameters.length) = some 1 := by decide +kernel
theorem hd_X11_error : yX11_error.cls ≠ "java/lang/invoke/MethodHandle" ∧ yX11_error.cls ≠ "java/lang/invoke/VarHandle" ∧ (parseMethodDescriptor yX11_error.desc).map (fun d => d.parameters.length) = some 1 := by decide +kernel
theorem hd_X11_within : yX11_within.cls ≠ "java/lang/invoke/MethodHandle" ∧ yX11_within.cls ≠ "java/lang/invoke/VarHandle" ∧ (parseMethodDescriptor yX11_within.desc).map (fun d => d.parameters.length) = some 3 := by decide +kernel
theorem hd_X11_held : yX11_held.cls ≠ "java/lang/invoke/MethodHandle" ∧ yX11_held.cls ≠ "java/lang/invoke/VarHandle" ∧ (parseMethodDescriptor yX11_held.desc).map (fun d => d.parameters.length) = some 2 := by decide +kernel
theorem hd_X11_isThing : yX11_isThing.cls ≠ "java/lang/invoke/MethodHandle" ∧ yX11_isThing.cls ≠ "java/lang/invoke/VarHandle" ∧ (parseMethodDescriptor yX11_isThing.desc).map (fun d => d.parameters.length) = some 1 := by decide +kernel
theorem hd_X11_isTill : yX11_isTill.cls ≠ "java/lang/invoke/MethodHandle" ∧ yX11_isTill.cls ≠ "java/lang/invoke/VarHandle" ∧ (parseMethodDescriptor yX11_isTill.desc).map (fun d => d.parameters.length) = some 1 := by decide +kernel
theorem hd_X11_isSheet : yX11_isSheet.cls ≠ "java/lang/invoke/MethodHandle" ∧ yX11_isSheet.cls ≠ "java/lang/invoke/VarHandle" ∧ (parseMethodDescriptor yX11_isSheet.desc).map (fun d => d.parameters.length) = some 1 := by decide +kernel
theorem hd_X11_isGood : yX11_isGood.cls ≠ "java/lang/invoke/MethodHandle" ∧ yX11_isGood.cls ≠ "java/lang/invoke/VarHandle" ∧ (parseMethodDescriptor yX11_isGood.desc).map (fun d => d.parameters.length) = some 2 := by decide +kernel
theorem hd_X11_isMissing : yX11_isMissing.cls ≠ "java/lang/invoke/MethodHandle" ∧ yX11_isMissing.cls ≠ "java/lang/invoke/VarHandle" ∧ (parseMethodDescriptor yX11_isMissing.desc).map (fun d => d.parameters.length) = some 1 := by decide +kernel
theorem hd_X11_stand : yX11_stand.cls ≠ "java/lang/invoke/MethodHandle" ∧ yX11_stand.cls ≠ "java/lang/invoke/VarHandle" ∧ (parseMethodDescriptor yX11_stand.desc).map (fun d => d.parameters.length) = some 3 := by decide +kernel
theorem hd_X11_refusal : yX11_refusal.cls ≠ "java/lang/invoke/MethodHandle" ∧ yX11_refusal.cls ≠ "java/lang/invoke/VarHandle" ∧ (parseMethodDescriptor yX11_refusal.desc).map (fun d => d.parameters.length) = some 3 := by decide +kernel
theorem hd_X11_refusal_ : yX11_refusal_.cls ≠ "java/lang/invoke/MethodHandle" ∧ yX11_refusal_.cls ≠ "java/lang/invoke/VarHandle" ∧ (parseMethodDescriptor yX11_refusal_.desc).map (fun d => d.parameters.length) = some 2 := by decide +kernel
theorem hd_X11_reads : yX11_reads.cls ≠ "java/lang/invoke/MethodHandle" ∧ yX11_reads.cls ≠ "java/lang/invoke/VarHandle" ∧ (parseMethodDescriptor yX11_reads.desc).map (fun d => d.parameters.length) = some 2 := by decide +kernel
theorem hd_X11_lowest : yX11_lowest.cls ≠ "java/lang/invoke/MethodHandle" ∧ yX11_lowest.cls ≠ "java/lang/invoke/VarHandle" ∧ (parseMethodDescriptor yX11_lowest.desc).map (fun d => d.parameters.length) = some 2 := by decide +kernel
theorem hd_X11_figureSum : yX11_figureSum.cls ≠ "java/lang/invoke/MethodHandle" ∧ yX11_figureSum.cls ≠ "java/lang/invoke/VarHandle" ∧ (parseMethodDescriptor yX11_figureSum.desc).map (fun d => d.parameters.length) = some 2 := by decide +kernel
theorem hd_X11_oneFigure : yX11_oneFigure.cls ≠ "java/lang/invoke/MethodHandle" ∧ yX11_oneFigure.cls ≠ "java/lang/invoke/VarHandle" ∧ (parseMethodDescriptor yX11_oneFigure.desc).map (fun d => d.parameters.length) = some 2 := by decide +kernel
theorem hd_X11_commonDivisor : yX11_commonDivisor.cls ≠ "java/lang/invoke/MethodHandle" ∧ yX11_commonDivisor.cls ≠ "java/lang/invoke/VarHandle" ∧ (parseMethodDescriptor yX11_commonDivisor.desc).map (fun d => d.parameters.length) = some 2 := by decide +kernel
theorem hd_X11_takenInCases : yX11_takenInCases.cls ≠ "java/lang/invoke/MethodHandle" ∧ yX11_takenInCases.cls ≠ "java/lang/invoke/VarHandle" ∧ (parseMethodDescriptor yX11_takenInCases.desc).map (fun d => d.parameters.length) = some 3 := by decide +kernel
theorem hd_X11_findCheapest : yX11_findCheapest.cls ≠ "java/lang/invoke/MethodHandle" ∧ yX11_findCheapest.cls ≠ "java/lang/invoke/VarHandle" ∧ (parseMethodDescriptor yX11_findCheapest.desc).map (fun d => d.parameters.length) = some 2 := by decide +kernel
theorem hd_X11_paidIfDearer : yX11_paidIfDearer.cls ≠ "java/lang/invoke/MethodHandle" ∧ yX11_paidIfDearer.cls ≠ "java/lang/invoke/VarHandle" ∧ (parseMethodDescriptor yX11_paidIfDearer.desc).map (fun d => d.parameters.length) = some 4 := by decide +kernel
theorem hd_X11_allByNine : yX11_allByNine.cls ≠ "java/lang/invoke/MethodHandle" ∧ yX11_allByNine.cls ≠ "java/lang/invoke/VarHandle" ∧ (parseMethodDescriptor yX11_allByNine.desc).map (fun d => d.parameters.length) = some 0 := by decide +kernel
theorem hd_X11_startFew : yX11_startFew.cls ≠ "java/lang/invoke/MethodHandle" ∧ yX11_startFew.cls ≠ "java/lang/invoke/VarHandle" ∧ (parseMethodDescriptor yX11_startFew.desc).map (fun d => d.parameters.length) = some 0 := by decide +kernel
theorem hd_X11_leastOfFew : yX11_leastOfFew.cls ≠ "java/lang/invoke/MethodHandle" ∧ yX11_leastOfFew.cls ≠ "java/lang/invoke/VarHandle" ∧ (parseMethodDescriptor yX11_leastOfFew.desc).map (fun d => d.parameters.length) = some 1 := by decide +kernel
theorem hd_X11_tillOf : yX11_tillOf.cls ≠ "java/lang/invoke/MethodHandle" ∧ yX11_tillOf.cls ≠ "java/lang/invoke/VarHandle" ∧ (parseMethodDescriptor yX11_tillOf.desc).map (fun d => d.parameters.length) = some 3 := by decide +kernel
theorem hd_X12_init : yX12_init.cls ≠ "java/lang/invoke/MethodHandle" ∧ yX12_init.cls ≠ "java/lang/invoke/VarHandle" ∧ (parseMethodDescriptor yX12_init.desc).map (fun d => d.parameters.length) = some 0 := by decide +kernel
theorem hd_X12_error : yX12_error.cls ≠ "java/lang/invoke/MethodHandle" ∧ yX12_error.cls ≠ "java/lang/invoke/VarHandle" ∧ (parseMethodDescriptor yX12_error.desc).map (fun d => d.parameters.length) = some 1 := by decide +kernel
theorem hd_X12_in : yX12_in.cls ≠ "java/lang/invoke/MethodHandle" ∧ yX12_in.cls ≠ "java/lang/invoke/VarHandle" ∧ (parseMethodDescriptor yX12_in.desc).map (fun d => d.parameters.length) = some 3 := by decide +kernel
theorem hd_X12_held : yX12_held.cls ≠ "java/lang/invoke/MethodHandle" ∧ yX12_held.cls ≠ "java/lang/invoke/VarHandle" ∧ (parseMethodDescriptor yX12_held.desc).map (fun d => d.parameters.length) = some 3 := by decide +kernel
theorem hd_X12_carry : yX12_carry.cls ≠ "java/lang/invoke/MethodHandle" ∧ yX12_carry.cls ≠ "java/lang/invoke/VarHandle" ∧ (parseMethodDescriptor yX12_carry.desc).map (fun d => d.parameters.length) = some 2 := by decide +kernel
theorem hd_X12_isThing : yX12_isThing.cls ≠ "java/lang/invoke/MethodHandle" ∧ yX12_isThing.cls ≠ "java/lang/invoke/VarHandle" ∧ (parseMethodDescriptor yX12_isThing.desc).map (fun d => d.parameters.length) = some 1 := by decide +kernel
theorem hd_X12_isTill : yX12_isTill.cls ≠ "java/lang/invoke/MethodHandle" ∧ yX12_isTill.cls ≠ "java/lang/invoke/VarHandle" ∧ (parseMethodDescriptor yX12_isTill.desc).map (fun d => d.parameters.length) = some 1 := by decide +kernel
theorem hd_X12_kindOf : yX12_kindOf.cls ≠ "java/lang/invoke/MethodHandle" ∧ yX12_kindOf.cls ≠ "java/lang/invoke/VarHandle" ∧ (parseMethodDescriptor yX12_kindOf.desc).map (fun d => d.parameters.length) = some 1 := by decide +kernel
theorem hd_X12_mOf : yX12_mOf.cls ≠ "java/lang/invoke/MethodHandle" ∧ yX12_mOf.cls ≠ "java/lang/invoke/VarHandle" ∧ (parseMethodDescriptor yX12_mOf.desc).map (fun d => d.parameters.length) = some 1 := by decide +kernel
theorem hd_X12_change1 : yX12_change1.cls ≠ "java/lang/invoke/MethodHandle" ∧ yX12_change1.cls ≠ "java/lang/invoke/VarHandle" ∧ (parseMethodDescriptor yX12_change1.desc).map (fun d => d.parameters.length) = some 2 := by decide +kernel
theorem hd_X12_feed : yX12_feed.cls ≠ "java/lang/invoke/MethodHandle" ∧ yX12_feed.cls ≠ "java/lang/invoke/VarHandle" ∧ (parseMethodDescriptor yX12_feed.desc).map (fun d => d.parameters.length) = some 2 := by decide +kernel
theorem hd_X12_look : yX12_look.cls ≠ "java/lang/invoke/MethodHandle" ∧ yX12_look.cls ≠ "java/lang/invoke/VarHandle" ∧ (parseMethodDescriptor yX12_look.desc).map (fun d => d.parameters.length) = some 0 := by decide +kernel
theorem hd_X12_isName : yX12_isName.cls ≠ "java/lang/invoke/MethodHandle" ∧ yX12_isName.cls ≠ "java/lang/invoke/VarHandle" ∧ (parseMethodDescriptor yX12_isName.desc).map (fun d => d.parameters.length) = some 1 := by decide +kernel
theorem hd_X12_step1 : yX12_step1.cls ≠ "java/lang/invoke/MethodHandle" ∧ yX12_step1.cls ≠ "java/lang/invoke/VarHandle" ∧ (parseMethodDescriptor yX12_step1.desc).map (fun d => d.parameters.length) = some 2 := by decide +kernel
theorem hd_X12_whole : yX12_whole.cls ≠ "java/lang/invoke/MethodHandle" ∧ yX12_whole.cls ≠ "java/lang/invoke/VarHandle" ∧ (parseMethodDescriptor yX12_whole.desc).map (fun d => d.parameters.length) = some 0 := by decide +kernel
theorem hd_X12_both : yX12_both.cls ≠ "java/lang/invoke/MethodHandle" ∧ yX12_both.cls ≠ "java/lang/invoke/VarHandle" ∧ (parseMethodDescriptor yX12_both.desc).map (fun d => d.parameters.length) = some 0 := by decide +kernel
theorem hd_X12_compared : yX12_compared.cls ≠ "java/lang/invoke/MethodHandle" ∧ yX12_compared.cls ≠ "java/lang/invoke/VarHandle" ∧ (parseMethodDescriptor yX12_compared.desc).map (fun d => d.parameters.length) = some 0 := by decide +kernel
theorem hd_X12_sum : yX12_sum.cls ≠ "java/lang/invoke/MethodHandle" ∧ yX12_sum.cls ≠ "java/lang/invoke/VarHandle" ∧ (parseMethodDescriptor yX12_sum.desc).map (fun d => d.parameters.length) = some 0 := by decide +kernel
theorem hd_X12_product : yX12_product.cls ≠ "java/lang/invoke/MethodHandle" ∧ yX12_product.cls ≠ "java/lang/invoke/VarHandle" ∧ (parseMethodDescriptor yX12_product.desc).map (fun d => d.parameters.length) = some 0 := by decide +kernel
theorem hd_X12_opens : yX12_opens.cls ≠ "java/lang/invoke/MethodHandle" ∧ yX12_opens.cls ≠ "java/lang/invoke/VarHandle" ∧ (parseMethodDescriptor yX12_opens.desc).map (fun d => d.parameters.length) = some 0 := by decide +kernel
theorem hd_X12_one : yX12_one.cls ≠ "java/lang/invoke/MethodHandle" ∧ yX12_one.cls ≠ "java/lang/invoke/VarHandle" ∧ (parseMethodDescriptor yX12_one.desc).map (fun d => d.parameters.length) = some 0 := by decide +kernel
theorem hd_X12_hasText : yX12_hasText.cls ≠ "java/lang/invoke/MethodHandle" ∧ yX12_hasText.cls ≠ "java/lang/invoke/VarHandle" ∧ (parseMethodDescriptor yX12_hasText.desc).map (fun d => d.parameters.length) = some 1 := by decide +kernel
theorem hd_X12_text : yX12_text.cls ≠ "java/lang/invoke/MethodHandle" ∧ yX12_text.cls ≠ "java/lang/invoke/VarHandle" ∧ (parseMethodDescriptor yX12_text.desc).map (fun d => d.parameters.length) = some 1 := by decide +kernel
theorem hd_X12_untell : yX12_untell.cls ≠ "java/lang/invoke/MethodHandle" ∧ yX12_untell.cls ≠ "java/lang/invoke/VarHandle" ∧ (parseMethodDescriptor yX12_untell.desc).map (fun d => d.parameters.length) = some 1 := by decide +kernel
theorem hd_X12_joined : yX12_joined.cls ≠ "java/lang/invoke/MethodHandle" ∧ yX12_joined.cls ≠ "java/lang/invoke/VarHandle" ∧ (parseMethodDescriptor yX12_joined.desc).map (fun d => d.parameters.length) = some 3 := by decide +kernel
theorem hd_X12_worked : yX12_worked.cls ≠ "java/lang/invoke/MethodHandle" ∧ yX12_worked.cls ≠ "java/lang/invoke/VarHandle" ∧ (parseMethodDescriptor yX12_worked.desc).map (fun d => d.parameters.length) = some 1 := by decide +kernel
theorem hd_X12_added : yX12_added.cls ≠ "java/lang/invoke/MethodHandle" ∧ yX12_added.cls ≠ "java/lang/invoke/VarHandle" ∧ (parseMethodDescriptor yX12_added.desc).map (fun d => d.parameters.length) = some 2 := by decide +kernel
theorem hd_X12_rooted : yX12_rooted.cls ≠ "java/lang/invoke/MethodHandle" ∧ yX12_rooted.cls ≠ "java/lang/invoke/VarHandle" ∧ (parseMethodDescriptor yX12_rooted.desc).map (fun d => d.parameters.length) = some 2 := by decide +kernel
theorem hd_X12_asked : yX12_asked.cls ≠ "java/lang/invoke/MethodHandle" ∧ yX12_asked.cls ≠ "java/lang/invoke/VarHandle" ∧ (parseMethodDescriptor yX12_asked.desc).map (fun d => d.parameters.length) = some 3 := by decide +kernel
theorem hd_X12_values : yX12_values.cls ≠ "java/lang/invoke/MethodHandle" ∧ yX12_values.cls ≠ "java/lang/invoke/VarHandle" ∧ (parseMethodDescriptor yX12_values.desc).map (fun d => d.parameters.length) = some 1 := by decide +kernel
theorem hd_X12_many : yX12_many.cls ≠ "java/lang/invoke/MethodHandle" ∧ yX12_many.cls ≠ "java/lang/invoke/VarHandle" ∧ (parseMethodDescriptor yX12_many.desc).map (fun d => d.parameters.length) = some 1 := by decide +kernel
theorem hd_X12_sumOf : yX12_sumOf.cls ≠ "java/lang/invoke/MethodHandle" ∧ yX12_sumOf.cls ≠ "java/lang/invoke/VarHandle" ∧ (parseMethodDescriptor yX12_sumOf.desc).map (fun d => d.parameters.length) = some 1 := by decide +kernel
theorem hd_X12_costOf : yX12_costOf.cls ≠ "java/lang/invoke/MethodHandle" ∧ yX12_costOf.cls ≠ "java/lang/invoke/VarHandle" ∧ (parseMethodDescriptor yX12_costOf.desc).map (fun d => d.parameters.length) = some 1 := by decide +kernel
theorem hd_X12_paid : yX12_paid.cls ≠ "java/lang/invoke/MethodHandle" ∧ yX12_paid.cls ≠ "java/lang/invoke/VarHandle" ∧ (parseMethodDescriptor yX12_paid.desc).map (fun d => d.parameters.length) = some 2 := by decide +kernel
theorem hd_X12_thing : yX12_thing.cls ≠ "java/lang/invoke/MethodHandle" ∧ yX12_thing.cls ≠ "java/lang/invoke/VarHandle" ∧ (parseMethodDescriptor yX12_thing.desc).map (fun d => d.parameters.length) = some 3 := by decide +kernel
theorem hd_X12_thingIs : yX12_thingIs.cls ≠ "java/lang/invoke/MethodHandle" ∧ yX12_thingIs.cls ≠ "java/lang/invoke/VarHandle" ∧ (parseMethodDescriptor yX12_thingIs.desc).map (fun d => d.parameters.length) = some 2 := by decide +kernel
theorem hd_X12_till : yX12_till.cls ≠ "java/lang/invoke/MethodHandle" ∧ yX12_till.cls ≠ "java/lang/invoke/VarHandle" ∧ (parseMethodDescriptor yX12_till.desc).map (fun d => d.parameters.length) = some 2 := by decide +kernel
theorem hd_X12_tillIs : yX12_tillIs.cls ≠ "java/lang/invoke/MethodHandle" ∧ yX12_tillIs.cls ≠ "java/lang/invoke/VarHandle" ∧ (parseMethodDescriptor yX12_tillIs.desc).map (fun d => d.parameters.length) = some 2 := by decide +kernel
theorem hd_X12_isUnder : yX12_isUnder.cls ≠ "java/lang/invoke/MethodHandle" ∧ yX12_isUnder.cls ≠ "java/lang/invoke/VarHandle" ∧ (parseMethodDescriptor yX12_isUnder.desc).map (fun d => d.parameters.length) = some 2 := by decide +kernel
theorem hd_X12_as : yX12_as.cls ≠ "java/lang/invoke/MethodHandle" ∧ yX12_as.cls ≠ "java/lang/invoke/VarHandle" ∧ (parseMethodDescriptor yX12_as.desc).map (fun d => d.parameters.length) = some 2 := by decide +kernel
theorem hd_X12_figures : yX12_figures.cls ≠ "java/lang/invoke/MethodHandle" ∧ yX12_figures.cls ≠ "java/lang/invoke/VarHandle" ∧ (parseMethodDescriptor yX12_figures.desc).map (fun d => d.parameters.length) = some 2 := by decide +kernel
theorem hd_X12_asks : yX12_asks.cls ≠ "java/lang/invoke/MethodHandle" ∧ yX12_asks.cls ≠ "java/lang/invoke/VarHandle" ∧ (parseMethodDescriptor yX12_asks.desc).map (fun d => d.parameters.length) = some 3 := by decide +kernel
theorem hd_X12_tells : yX12_tells.cls ≠ "java/lang/invoke/MethodHandle" ∧ yX12_tells.cls ≠ "java/lang/invoke/VarHandle" ∧ (parseMethodDescriptor yX12_tells.desc).map (fun d => d.parameters.length) = some 3 := by decide +kernel
theorem hd_X12_lacks : yX12_lacks.cls ≠ "java/lang/invoke/MethodHandle" ∧ yX12_lacks.cls ≠ "java/lang/invoke/VarHandle" ∧ (parseMethodDescriptor yX12_lacks.desc).map (fun d => d.parameters.length) = some 4 := by decide +kernel
theorem hd_X12_basket : yX12_basket.cls ≠ "java/lang/invoke/MethodHandle" ∧ yX12_basket.cls ≠ "java/lang/invoke/VarHandle" ∧ (parseMethodDescriptor yX12_basket.desc).map (fun d => d.parameters.length) = some 2 := by decide +kernel
theorem hd_X12_pays : yX12_pays.cls ≠ "java/lang/invoke/MethodHandle" ∧ yX12_pays.cls ≠ "java/lang/invoke/VarHandle" ∧ (parseMethodDescriptor yX12_pays.desc).map (fun d => d.parameters.length) = some 2 := by decide +kernel
theorem hd_X12_isInStock : yX12_isInStock.cls ≠ "java/lang/invoke/MethodHandle" ∧ yX12_isInStock.cls ≠ "java/lang/invoke/VarHandle" ∧ (parseMethodDescriptor yX12_isInStock.desc).map (fun d => d.parameters.length) = some 1 := by decide +kernel
theorem hd_X12_goes : yX12_goes.cls ≠ "java/lang/invoke/MethodHandle" ∧ yX12_goes.cls ≠ "java/lang/invoke/VarHandle" ∧ (parseMethodDescriptor yX12_goes.desc).map (fun d => d.parameters.length) = some 2 := by decide +kernel
theorem hd_X12_go : yX12_go.cls ≠ "java/lang/invoke/MethodHandle" ∧ yX12_go.cls ≠ "java/lang/invoke/VarHandle" ∧ (parseMethodDescriptor yX12_go.desc).map (fun d => d.parameters.length) = some 2 := by decide +kernel
theorem hd_X12_draw : yX12_draw.cls ≠ "java/lang/invoke/MethodHandle" ∧ yX12_draw.cls ≠ "java/lang/invoke/VarHandle" ∧ (parseMethodDescriptor yX12_draw.desc).map (fun d => d.parameters.length) = some 0 := by decide +kernel
theorem hd_X12_draws : yX12_draws.cls ≠ "java/lang/invoke/MethodHandle" ∧ yX12_draws.cls ≠ "java/lang/invoke/VarHandle" ∧ (parseMethodDescriptor yX12_draws.desc).map (fun d => d.parameters.length) = some 1 := by decide +kernel
theorem hd_X12_seed : yX12_seed.cls ≠ "java/lang/invoke/MethodHandle" ∧ yX12_seed.cls ≠ "java/lang/invoke/VarHandle" ∧ (parseMethodDescriptor yX12_seed.desc).map (fun d => d.parameters.length) = some 1 := by decide +kernel
theorem hd_X12_tries : yX12_tries.cls ≠ "java/lang/invoke/MethodHandle" ∧ yX12_tries.cls ≠ "java/lang/invoke/VarHandle" ∧ (parseMethodDescriptor yX12_tries.desc).map (fun d => d.parameters.length) = some 4 := by decide +kernel
theorem hd_X12_seeks : yX12_seeks.cls ≠ "java/lang/invoke/MethodHandle" ∧ yX12_seeks.cls ≠ "java/lang/invoke/VarHandle" ∧ (parseMethodDescriptor yX12_seeks.desc).map (fun d => d.parameters.length) = some 2 := by decide +kernel
theorem hd_X12_more : yX12_more.cls ≠ "java/lang/invoke/MethodHandle" ∧ yX12_more.cls ≠ "java/lang/invoke/VarHandle" ∧ (parseMethodDescriptor yX12_more.desc).map (fun d => d.parameters.length) = some 4 := by decide +kernel
theorem hd_X12_parts : yX12_parts.cls ≠ "java/lang/invoke/MethodHandle" ∧ yX12_parts.cls ≠ "java/lang/invoke/VarHandle" ∧ (parseMethodDescriptor yX12_parts.desc).map (fun d => d.parameters.length) = some 2 := by decide +kernel
theorem hd_X12_inTwo : yX12_inTwo.cls ≠ "java/lang/invoke/MethodHandle" ∧ yX12_inTwo.cls ≠ "java/lang/invoke/VarHandle" ∧ (parseMethodDescriptor yX12_inTwo.desc).map (fun d => d.parameters.length) = some 2 := by decide +kernel
theorem hd_X12_together : yX12_together.cls ≠ "java/lang/invoke/MethodHandle" ∧ yX12_together.cls ≠ "java/lang/invoke/VarHandle" ∧ (parseMethodDescriptor yX12_together.desc).map (fun d => d.parameters.length) = some 3 := by decide +kernel
theorem hd_X12_worth : yX12_worth.cls ≠ "java/lang/invoke/MethodHandle" ∧ yX12_worth.cls ≠ "java/lang/invoke/VarHandle" ∧ (parseMethodDescriptor yX12_worth.desc).map (fun d => d.parameters.length) = some 3 := by decide +kernel
theorem hd_X12_dearer : yX12_dearer.cls ≠ "java/lang/invoke/MethodHandle" ∧ yX12_dearer.cls ≠ "java/lang/invoke/VarHandle" ∧ (parseMethodDescriptor yX12_dearer.desc).map (fun d => d.parameters.length) = some 3 := by decide +kernel
theorem hd_X12_small : yX12_small.cls ≠ "java/lang/invoke/MethodHandle" ∧ yX12_small.cls ≠ "java/lang/invoke/VarHandle" ∧ (parseMethodDescriptor yX12_small.desc).map (fun d => d.parameters.length) = some 4 := by decide +kernel
theorem hd_X12_allSmall : yX12_allSmall.cls ≠ "java/lang/invoke/MethodHandle" ∧ yX12_allSmall.cls ≠ "java/lang/invoke/VarHandle" ∧ (parseMethodDescriptor yX12_allSmall.desc).map (fun d => d.parameters.length) = some 2 := by decide +kernel
theorem hd_X12_nines : yX12_nines.cls ≠ "java/lang/invoke/MethodHandle" ∧ yX12_nines.cls ≠ "java/lang/invoke/VarHandle" ∧ (parseMethodDescriptor yX12_nines.desc).map (fun d => d.parameters.length) = some 1 := by decide +kernel
theorem hd_X12_divisor : yX12_divisor.cls ≠ "java/lang/invoke/MethodHandle" ∧ yX12_divisor.cls ≠ "java/lang/invoke/VarHandle" ∧ (parseMethodDescriptor yX12_divisor.desc).map (fun d => d.parameters.length) = some 2 := by decide +kernel
theorem hd_X12_erring : yX12_erring.cls ≠ "java/lang/invoke/MethodHandle" ∧ yX12_erring.cls ≠ "java/lang/invoke/VarHandle" ∧ (parseMethodDescriptor yX12_erring.desc).map (fun d => d.parameters.length) = some 4 := by decide +kernel
theorem hd_X12_wasIn : yX12_wasIn.cls ≠ "java/lang/invoke/MethodHandle" ∧ yX12_wasIn.cls ≠ "java/lang/invoke/VarHandle" ∧ (parseMethodDescriptor yX12_wasIn.desc).map (fun d => d.parameters.length) = some 3 := by decide +kernel
theorem hd_X12_begins : yX12_begins.cls ≠ "java/lang/invoke/MethodHandle" ∧ yX12_begins.cls ≠ "java/lang/invoke/VarHandle" ∧ (parseMethodDescriptor yX12_begins.desc).map (fun d => d.parameters.length) = some 1 := by decide +kernel
theorem hd_X12_above : yX12_above.cls ≠ "java/lang/invoke/MethodHandle" ∧ yX12_above.cls ≠ "java/lang/invoke/VarHandle" ∧ (parseMethodDescriptor yX12_above.desc).map (fun d => d.parameters.length) = some 1 := by decide +kernel
theorem hd_X12_addsAs : yX12_addsAs.cls ≠ "java/lang/invoke/MethodHandle" ∧ yX12_addsAs.cls ≠ "java/lang/invoke/VarHandle" ∧ (parseMethodDescriptor yX12_addsAs.desc).map (fun d => d.parameters.length) = some 2 := by decide +kernel
theorem hd_X12_comesAs : yX12_comesAs.cls ≠ "java/lang/invoke/MethodHandle" ∧ yX12_comesAs.cls ≠ "java/lang/invoke/VarHandle" ∧ (parseMethodDescriptor yX12_comesAs.desc).map (fun d => d.parameters.length) = some 2 := by decide +kernel
theorem hd_X12_givesAs : yX12_givesAs.cls ≠ "java/lang/invoke/MethodHandle" ∧ yX12_givesAs.cls ≠ "java/lang/invoke/VarHandle" ∧ (parseMethodDescriptor yX12_givesAs.desc).map (fun d => d.parameters.length) = some 2 := by decide +kernel
theorem hd_X12_partsAs : yX12_partsAs.cls ≠ "java/lang/invoke/MethodHandle" ∧ yX12_partsAs.cls ≠ "java/lang/invoke/VarHandle" ∧ (parseMethodDescriptor yX12_partsAs.desc).map (fun d => d.parameters.length) = some 2 := by decide +kernel
theorem hd_X12_voice : yX12_voice.cls ≠ "java/lang/invoke/MethodHandle" ∧ yX12_voice.cls ≠ "java/lang/invoke/VarHandle" ∧ (parseMethodDescriptor yX12_voice.desc).map (fun d => d.parameters.length) = some 3 := by decide +kernel
theorem hd_X12_body : yX12_body.cls ≠ "java/lang/invoke/MethodHandle" ∧ yX12_body.cls ≠ "java/lang/invoke/VarHandle" ∧ (parseMethodDescriptor yX12_body.desc).map (fun d => d.parameters.length) = some 1 := by decide +kernel
theorem hd_X12_isSheet : yX12_isSheet.cls ≠ "java/lang/invoke/MethodHandle" ∧ yX12_isSheet.cls ≠ "java/lang/invoke/VarHandle" ∧ (parseMethodDescriptor yX12_isSheet.desc).map (fun d => d.parameters.length) = some 1 := by decide +kernel
theorem hd_X12_sheet : yX12_sheet.cls ≠ "java/lang/invoke/MethodHandle" ∧ yX12_sheet.cls ≠ "java/lang/invoke/VarHandle" ∧ (parseMethodDescriptor yX12_sheet.desc).map (fun d => d.parameters.length) = some 3 := by decide +kernel
theorem hd_X12_put : yX12_put.cls ≠ "java/lang/invoke/MethodHandle" ∧ yX12_put.cls ≠ "java/lang/invoke/VarHandle" ∧ (parseMethodDescriptor yX12_put.desc).map (fun d => d.parameters.length) = some 3 := by decide +kernel
theorem hd_X12_move : yX12_move.cls ≠ "java/lang/invoke/MethodHandle" ∧ yX12_move.cls ≠ "java/lang/invoke/VarHandle" ∧ (parseMethodDescriptor yX12_move.desc).map (fun d => d.parameters.length) = some 5 := by decide +kernel
theorem hd_X12_prices : yX12_prices.cls ≠ "java/lang/invoke/MethodHandle" ∧ yX12_prices.cls ≠ "java/lang/invoke/VarHandle" ∧ (parseMethodDescriptor yX12_prices.desc).map (fun d => d.parameters.length) = some 1 := by decide +kernel
theorem hd_X12_image : yX12_image.cls ≠ "java/lang/invoke/MethodHandle" ∧ yX12_image.cls ≠ "java/lang/invoke/VarHandle" ∧ (parseMethodDescriptor yX12_image.desc).map (fun d => d.parameters.length) = some 0 := by decide +kernel
theorem hd_X12_restore : yX12_restore.cls ≠ "java/lang/invoke/MethodHandle" ∧ yX12_restore.cls ≠ "java/lang/invoke/VarHandle" ∧ (parseMethodDescriptor yX12_restore.desc).map (fun d => d.parameters.length) = some 0 := by decide +kernel
theorem hd_X12_tell : yX12_tell.cls ≠ "java/lang/invoke/MethodHandle" ∧ yX12_tell.cls ≠ "java/lang/invoke/VarHandle" ∧ (parseMethodDescriptor yX12_tell.desc).map (fun d => d.parameters.length) = some 1 := by decide +kernel
theorem hd_X12_check : yX12_check.cls ≠ "java/lang/invoke/MethodHandle" ∧ yX12_check.cls ≠ "java/lang/invoke/VarHandle" ∧ (parseMethodDescriptor yX12_check.desc).map (fun d => d.parameters.length) = some 1 := by decide +kernel
theorem hd_X12_count : yX12_count.cls ≠ "java/lang/invoke/MethodHandle" ∧ yX12_count.cls ≠ "java/lang/invoke/VarHandle" ∧ (parseMethodDescriptor yX12_count.desc).map (fun d => d.parameters.length) = some 1 := by decide +kernel
theorem hd_X12_told : yX12_told.cls ≠ "java/lang/invoke/MethodHandle" ∧ yX12_told.cls ≠ "java/lang/invoke/VarHandle" ∧ (parseMethodDescriptor yX12_told.desc).map (fun d => d.parameters.length) = some 1 := by decide +kernel
set_option maxRecDepth 100000 in
theorem nw_X1_17 : Cond.methodLinkNest RX1 17 yX11_figureSum "FigureTill" ∈ tables_1 := kmt_2 (List.mem_of_getElem? (i := 210) rfl)
set_option maxRecDepth 100000 in
theorem nw_X1_23 : Cond.methodLinkNest RX1 23 yX10_began "FigureTill" ∈ tables_1 := kmt_4 (List.mem_of_getElem? (i := 83) rfl)
set_option maxRecDepth 100000 in
theorem nw_X11_9 : Cond.methodLinkNest RX11 9 yX7_init "FigureTill" ∈ tables_1 := kmt_1 (List.mem_of_getElem? (i := 30) rfl)
set_option maxRecDepth 100000 in
theorem nw_X11_41 : Cond.methodLinkNest RX11 41 yX10_init "FigureTill" ∈ tables_1 := kmt_1 (List.mem_of_getElem? (i := 213) rfl)
set_option maxRecDepth 100000 in
theorem nw_X11_51 : Cond.methodLinkNest RX11 51 yX0_init "FigureTill" ∈ tables_1 := kmt_1 (List.mem_of_getElem? (i := 234) rfl)
set_option maxRecDepth 100000 in
theorem nw_X11_93 : Cond.fieldLinkNest RX11 93 "FigureTill$Shop" "goods" "[[I" "FigureTill" ∈ tables_1 := kmt_1 (List.mem_of_getElem? (i := 164) rfl)
set_option maxRecDepth 100000 in
theorem nw_X11_96 : Cond.methodLinkNest RX11 96 yX7_valueOf "FigureTill" ∈ tables_1 := kmt_2 (List.mem_of_getElem? (i := 92) rfl)
set_option maxRecDepth 100000 in
theorem nw_X11_102 : Cond.fieldLinkNest RX11 102 "FigureTill$Shop" "tills" "[LFigureTill$Till;" "FigureTill" ∈ tables_1 := kmt_1 (List.mem_of_getElem? (i := 166) rfl)
set_option maxRecDepth 100000 in
theorem nw_X11_127 : Cond.methodLinkNest RX11 127 yX7_paid "FigureTill" ∈ tables_1 := kmt_2 (List.mem_of_getElem? (i := 199) rfl)
set_option maxRecDepth 100000 in
theorem nw_X11_131 : Cond.fieldLinkNest RX11 131 "FigureTill$Shop" "fed" "I" "FigureTill" ∈ tables_1 := kmt_1 (List.mem_of_getElem? (i := 178) rfl)
set_option maxRecDepth 100000 in
theorem nw_X11_134 : Cond.fieldLinkNest RX11 134 "FigureTill$Shop" "tape" "[I" "FigureTill" ∈ tables_1 := kmt_1 (List.mem_of_getElem? (i := 176) rfl)
set_option maxRecDepth 100000 in
theorem nw_X11_137 : Cond.methodLinkNest RX11 137 yX7_law "FigureTill" ∈ tables_1 := kmt_3 (List.mem_of_getElem? (i := 5) rfl)
set_option maxRecDepth 100000 in
theorem nw_X11_141 : Cond.methodLinkNest RX11 141 yX4_fault "FigureTill" ∈ tables_1 := kmt_3 (List.mem_of_getElem? (i := 9) rfl)
set_option maxRecDepth 100000 in
theorem nw_X11_147 : Cond.methodLinkNest RX11 147 yX4_isTold "FigureTill" ∈ tables_1 := kmt_3 (List.mem_of_getElem? (i := 116) rfl)
set_option maxRecDepth 100000 in
theorem nw_X11_151 : Cond.fieldLinkNest RX11 151 "FigureTill$Law" "length" "I" "FigureTill" ∈ tables_1 := kmt_1 (List.mem_of_getElem? (i := 48) rfl)
set_option maxRecDepth 100000 in
theorem nw_X11_160 : Cond.fieldLinkNest RX11 160 "FigureTill$Basket" "things" "I" "FigureTill" ∈ tables_1 := kmt_2 (List.mem_of_getElem? (i := 3) rfl)
set_option maxRecDepth 100000 in
theorem nw_X11_163 : Cond.fieldLinkNest RX11 163 "FigureTill$Basket" "sum" "I" "FigureTill" ∈ tables_1 := kmt_2 (List.mem_of_getElem? (i := 6) rfl)
set_option maxRecDepth 100000 in
theorem nw_X11_166 : Cond.methodLinkNest RX11 166 yX0_sumBy "FigureTill" ∈ tables_1 := kmt_3 (List.mem_of_getElem? (i := 148) rfl)
set_option maxRecDepth 100000 in
theorem nw_X11_172 : Cond.methodLinkNest RX11 172 yX7_hasStock "FigureTill" ∈ tables_1 := kmt_3 (List.mem_of_getElem? (i := 161) rfl)
set_option maxRecDepth 100000 in
theorem nw_X11_176 : Cond.methodLinkNest RX11 176 yX7_sold "FigureTill" ∈ tables_1 := kmt_3 (List.mem_of_getElem? (i := 165) rfl)
set_option maxRecDepth 100000 in
theorem nw_X11_180 : Cond.methodLinkNest RX11 180 yX7_drawn "FigureTill" ∈ tables_1 := kmt_3 (List.mem_of_getElem? (i := 177) rfl)
set_option maxRecDepth 100000 in
theorem nw_X11_183 : Cond.methodLinkNest RX11 183 yX0_clear "FigureTill" ∈ tables_1 := kmt_3 (List.mem_of_getElem? (i := 136) rfl)
set_option maxRecDepth 100000 in
theorem nw_X11_186 : Cond.fieldLinkNest RX11 186 "FigureTill$Basket" "row" "[I" "FigureTill" ∈ tables_1 := kmt_2 (List.mem_of_getElem? (i := 0) rfl)
set_option maxRecDepth 100000 in
theorem nw_X11_189 : Cond.methodLinkNest RX11 189 yX0_add "FigureTill" ∈ tables_1 := kmt_3 (List.mem_of_getElem? (i := 140) rfl)
set_option maxRecDepth 100000 in
theorem nw_X11_193 : Cond.fieldLinkNest RX11 193 "FigureTill$Shop" "z" "I" "FigureTill" ∈ tables_1 := kmt_1 (List.mem_of_getElem? (i := 174) rfl)
set_option maxRecDepth 100000 in
theorem nw_X11_201 : Cond.methodLinkNest RX11 201 yX0_step "FigureTill" ∈ tables_1 := kmt_3 (List.mem_of_getElem? (i := 200) rfl)
set_option maxRecDepth 100000 in
theorem nw_X11_236 : Cond.methodLinkNest RX11 236 yX0_rowAsNumber "FigureTill" ∈ tables_1 := kmt_4 (List.mem_of_getElem? (i := 15) rfl)
set_option maxRecDepth 100000 in
theorem nw_X11_239 : Cond.methodLinkNest RX11 239 yX10_start "FigureTill" ∈ tables_1 := kmt_4 (List.mem_of_getElem? (i := 23) rfl)
set_option maxRecDepth 100000 in
theorem nw_X11_255 : Cond.fieldLinkNest RX11 255 "FigureTill$Trace" "parted" "Z" "FigureTill" ∈ tables_1 := kmt_1 (List.mem_of_getElem? (i := 224) rfl)
set_option maxRecDepth 100000 in
theorem nw_X11_258 : Cond.fieldLinkNest RX11 258 "FigureTill$Trace" "length" "I" "FigureTill" ∈ tables_1 := kmt_1 (List.mem_of_getElem? (i := 220) rfl)
set_option maxRecDepth 100000 in
theorem nw_X11_259 : Cond.fieldLinkNest RX11 259 "FigureTill$Trace" "bodies" "[I" "FigureTill" ∈ tables_1 := kmt_1 (List.mem_of_getElem? (i := 218) rfl)
set_option maxRecDepth 100000 in
theorem nw_X11_274 : Cond.methodLinkNest RX11 274 yX7_become "FigureTill" ∈ tables_1 := kmt_4 (List.mem_of_getElem? (i := 148) rfl)
set_option maxRecDepth 100000 in
theorem nw_X11_278 : Cond.fieldLinkNest RX11 278 "FigureTill$Shop" "goes" "I" "FigureTill" ∈ tables_1 := kmt_1 (List.mem_of_getElem? (i := 172) rfl)
set_option maxRecDepth 100000 in
theorem nw_X11_281 : Cond.fieldLinkNest RX11 281 "FigureTill$Shop" "waits" "I" "FigureTill" ∈ tables_1 := kmt_1 (List.mem_of_getElem? (i := 184) rfl)
set_option maxRecDepth 100000 in
theorem nw_X11_284 : Cond.fieldLinkNest RX11 284 "FigureTill$Shop" "waiting" "[I" "FigureTill" ∈ tables_1 := kmt_1 (List.mem_of_getElem? (i := 182) rfl)
set_option maxRecDepth 100000 in
theorem nw_X11_287 : Cond.fieldLinkNest RX11 287 "FigureTill$Shop" "takings" "I" "FigureTill" ∈ tables_1 := kmt_1 (List.mem_of_getElem? (i := 168) rfl)
set_option maxRecDepth 100000 in
theorem nw_X11_290 : Cond.fieldLinkNest RX11 290 "FigureTill$Shop" "costs" "I" "FigureTill" ∈ tables_1 := kmt_1 (List.mem_of_getElem? (i := 170) rfl)
set_option maxRecDepth 100000 in
theorem nw_X11_293 : Cond.methodLinkNest RX11 293 yX7_stockOfAll "FigureTill" ∈ tables_1 := kmt_4 (List.mem_of_getElem? (i := 173) rfl)
set_option maxRecDepth 100000 in
theorem nw_X11_306 : Cond.methodLinkNest RX11 306 yX0_copy "FigureTill" ∈ tables_1 := kmt_3 (List.mem_of_getElem? (i := 194) rfl)
set_option maxRecDepth 100000 in
theorem nw_X2_27 : Cond.methodLinkNest RX2 27 yX10_began "FigureTill" ∈ tables_1 := kmt_4 (List.mem_of_getElem? (i := 35) rfl)
set_option maxRecDepth 100000 in
theorem nw_X3_11 : Cond.methodLinkNest RX3 11 yX10_began "FigureTill" ∈ tables_1 := kmt_4 (List.mem_of_getElem? (i := 42) rfl)
set_option maxRecDepth 100000 in
theorem nw_X3_24 : Cond.fieldLinkNest RX3 24 "FigureTill$Trace" "parted" "Z" "FigureTill" ∈ tables_1 := kmt_1 (List.mem_of_getElem? (i := 222) rfl)
set_option maxRecDepth 100000 in
theorem nw_X5_17 : Cond.methodLinkNest RX5 17 yX11_oneFigure "FigureTill" ∈ tables_1 := kmt_2 (List.mem_of_getElem? (i := 222) rfl)
set_option maxRecDepth 100000 in
theorem nw_X5_23 : Cond.methodLinkNest RX5 23 yX10_began "FigureTill" ∈ tables_1 := kmt_4 (List.mem_of_getElem? (i := 63) rfl)
set_option maxRecDepth 100000 in
theorem nw_X6_11 : Cond.methodLinkNest RX6 11 yX11_oneFigure "FigureTill" ∈ tables_1 := kmt_2 (List.mem_of_getElem? (i := 228) rfl)
set_option maxRecDepth 100000 in
theorem nw_X6_17 : Cond.methodLinkNest RX6 17 yX10_began "FigureTill" ∈ tables_1 := kmt_4 (List.mem_of_getElem? (i := 67) rfl)
set_option maxRecDepth 100000 in
theorem nw_X7_46 : Cond.methodLinkNest RX7 46 yX4_init "FigureTill" ∈ tables_1 := kmt_1 (List.mem_of_getElem? (i := 41) rfl)
set_option maxRecDepth 100000 in
theorem nw_X7_64 : Cond.fieldLinkNest RX7 64 "FigureTill" "FIRST_PRICES" "[I" "FigureTill" ∈ tables_1 := kmt_1 (List.mem_of_getElem? (i := 80) rfl)
set_option maxRecDepth 100000 in
theorem nw_X7_67 : Cond.methodLinkNest RX7 67 yX11_tillOf "FigureTill" ∈ tables_1 := kmt_1 (List.mem_of_getElem? (i := 82) rfl)
set_option maxRecDepth 100000 in
theorem nw_X7_77 : Cond.methodLinkNest RX7 77 yX4_become "FigureTill" ∈ tables_1 := kmt_4 (List.mem_of_getElem? (i := 153) rfl)
set_option maxRecDepth 100000 in
theorem nw_X7_85 : Cond.methodLinkNest RX7 85 yX11_held "FigureTill" ∈ tables_1 := kmt_2 (List.mem_of_getElem? (i := 110) rfl)
set_option maxRecDepth 100000 in
theorem nw_X7_89 : Cond.methodLinkNest RX7 89 yX4_isTold "FigureTill" ∈ tables_1 := kmt_2 (List.mem_of_getElem? (i := 96) rfl)
set_option maxRecDepth 100000 in
theorem nw_X7_93 : Cond.methodLinkNest RX7 93 yX4_workedOut "FigureTill" ∈ tables_1 := kmt_2 (List.mem_of_getElem? (i := 100) rfl)
set_option maxRecDepth 100000 in
theorem nw_X7_97 : Cond.fieldLinkNest RX7 97 "FigureTill$Basket" "row" "[I" "FigureTill" ∈ tables_1 := kmt_1 (List.mem_of_getElem? (i := 239) rfl)
set_option maxRecDepth 100000 in
theorem nw_X7_102 : Cond.fieldLinkNest RX7 102 "FigureTill$Basket" "sum" "I" "FigureTill" ∈ tables_1 := kmt_2 (List.mem_of_getElem? (i := 5) rfl)
set_option maxRecDepth 100000 in
theorem nw_X7_105 : Cond.fieldLinkNest RX7 105 "FigureTill$Basket" "things" "I" "FigureTill" ∈ tables_1 := kmt_2 (List.mem_of_getElem? (i := 2) rfl)
set_option maxRecDepth 100000 in
theorem nw_X7_117 : Cond.methodLinkNest RX7 117 yX0_sumBy "FigureTill" ∈ tables_1 := kmt_3 (List.mem_of_getElem? (i := 172) rfl)
set_option maxRecDepth 100000 in
theorem nw_X8_16 : Cond.methodLinkNest RX8 16 yX11_figureSum "FigureTill" ∈ tables_1 := kmt_2 (List.mem_of_getElem? (i := 236) rfl)
set_option maxRecDepth 100000 in
theorem nw_X8_22 : Cond.methodLinkNest RX8 22 yX10_began "FigureTill" ∈ tables_1 := kmt_4 (List.mem_of_getElem? (i := 52) rfl)
set_option maxRecDepth 100000 in
theorem nw_X8_35 : Cond.fieldLinkNest RX8 35 "FigureTill$Trace" "parted" "Z" "FigureTill" ∈ tables_1 := kmt_1 (List.mem_of_getElem? (i := 223) rfl)
set_option maxRecDepth 100000 in
theorem nw_X9_11 : Cond.methodLinkNest RX9 11 yX4_isTold "FigureTill" ∈ tables_1 := kmt_2 (List.mem_of_getElem? (i := 232) rfl)
set_option maxRecDepth 100000 in
theorem nw_X9_23 : Cond.methodLinkNest RX9 23 yX4_workedOut "FigureTill" ∈ tables_1 := kmt_2 (List.mem_of_getElem? (i := 233) rfl)
set_option maxRecDepth 100000 in
theorem nw_X9_31 : Cond.methodLinkNest RX9 31 yX10_began "FigureTill" ∈ tables_1 := kmt_4 (List.mem_of_getElem? (i := 50) rfl)
