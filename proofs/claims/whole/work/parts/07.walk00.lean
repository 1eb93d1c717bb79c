set_option maxRecDepth 20000 in
set_option maxHeartbeats 4000000 in
theorem wX0_forget (g : Mem) : aw mX0_forget none 0 [some (.inr 48)] [] g (fX0_forget g) := by
  unfold fX0_forget
  refine aw_aload_n iX0_forget_0 rfl rfl ?_
  refine aw_iconst (v := 0) iX0_forget_1 (by decide) ?_
  refine aw_putI iX0_forget_2 fpX0_28 zlt48 zsh48 rfl (fun g1 _ => ?_)
  exact aw_vret iX0_forget_5 rfl
set_option maxRecDepth 20000 in
set_option maxHeartbeats 4000000 in
theorem kX0_forget (g : Mem) : CT mX0_forget [.inr 48] g (fX0_forget g) := CT.of (nr := 0) (by decide +kernel) (Nat.le_of_ble_eq_true rfl) (Or.inl rfl) (wX0_forget g)
set_option maxRecDepth 20000 in
set_option maxHeartbeats 4000000 in
theorem wX0_keep (a1 : Int32) (g : Mem) : aw mX0_keep none 0 [some (.inr 48), some (.inr 7), some (.inl a1)] [] g (fX0_keep a1 g) := by
  unfold fX0_keep
  refine aw_aload_n iX0_keep_0 rfl rfl ?_
  refine aw_getR (own := "") iX0_keep_1 flX0_9 zlt48 zsh48 rfl ?_
  refine aw_aload_n iX0_keep_4 rfl rfl ?_
  refine aw_getI (own := "") iX0_keep_5 flX0_32 zlt48 zsh48 rfl ?_
  refine aw_iload_n iX0_keep_8 rfl rfl ?_
  refine aw_iast iX0_keep_9 zlt49 zsh49 (fun g1 _ => ?_)
  refine aw_aload_n iX0_keep_10 rfl rfl ?_
  refine aw_getR (own := "") iX0_keep_11 flX0_13 zlt48 zsh48 rfl ?_
  refine aw_aload_n iX0_keep_14 rfl rfl ?_
  refine aw_getI (own := "") iX0_keep_15 flX0_32 zlt48 zsh48 rfl ?_
  refine aw_aload_n iX0_keep_18 rfl rfl ?_
  refine aw_getR (own := "") iX0_keep_19 flX0_35 zlt7 zsh7 rfl ?_
  refine aw_iload_n iX0_keep_22 rfl rfl ?_
  refine aw_iald iX0_keep_23 zlt13 zsh13 (fun v2 _ => ?_)
  refine aw_iast iX0_keep_24 zlt50 zsh50 (fun g3 _ => ?_)
  refine aw_aload_n iX0_keep_25 rfl rfl ?_
  refine aw_getR (own := "") iX0_keep_26 flX0_16 zlt48 zsh48 rfl ?_
  refine aw_aload_n iX0_keep_29 rfl rfl ?_
  refine aw_getI (own := "") iX0_keep_30 flX0_32 zlt48 zsh48 rfl ?_
  refine aw_aload_n iX0_keep_33 rfl rfl ?_
  refine aw_getR (own := "") iX0_keep_34 flX0_38 zlt7 zsh7 rfl ?_
  refine aw_iload_n iX0_keep_37 rfl rfl ?_
  refine aw_iald iX0_keep_38 zlt15 zsh15 (fun v4 _ => ?_)
  refine aw_iast iX0_keep_39 zlt51 zsh51 (fun g5 _ => ?_)
  refine aw_aload_n iX0_keep_40 rfl rfl ?_
  refine aw_getR (own := "") iX0_keep_41 flX0_19 zlt48 zsh48 rfl ?_
  refine aw_aload_n iX0_keep_44 rfl rfl ?_
  refine aw_getI (own := "") iX0_keep_45 flX0_32 zlt48 zsh48 rfl ?_
  refine aw_aload_n iX0_keep_48 rfl rfl ?_
  refine aw_getR (own := "") iX0_keep_49 flX0_39 zlt7 zsh7 rfl ?_
  refine aw_iload_n iX0_keep_52 rfl rfl ?_
  refine aw_iald iX0_keep_53 zlt16 zsh16 (fun v6 _ => ?_)
  refine aw_iast iX0_keep_54 zlt52 zsh52 (fun g7 _ => ?_)
  refine aw_aload_n iX0_keep_55 rfl rfl ?_
  refine aw_getR (own := "") iX0_keep_56 flX0_22 zlt48 zsh48 rfl ?_
  refine aw_aload_n iX0_keep_59 rfl rfl ?_
  refine aw_getI (own := "") iX0_keep_60 flX0_32 zlt48 zsh48 rfl ?_
  refine aw_aload_n iX0_keep_63 rfl rfl ?_
  refine aw_getI (own := "") iX0_keep_64 flX0_40 zlt7 zsh7 rfl ?_
  refine aw_iast iX0_keep_67 zlt53 zsh53 (fun g8 _ => ?_)
  refine aw_aload_n iX0_keep_68 rfl rfl ?_
  refine aw_getR (own := "") iX0_keep_69 flX0_25 zlt48 zsh48 rfl ?_
  refine aw_aload_n iX0_keep_72 rfl rfl ?_
  refine aw_getI (own := "") iX0_keep_73 flX0_32 zlt48 zsh48 rfl ?_
  refine aw_aload_n iX0_keep_76 rfl rfl ?_
  refine aw_getI (own := "") iX0_keep_77 flX0_42 zlt7 zsh7 rfl ?_
  refine aw_iast iX0_keep_80 zlt54 zsh54 (fun g9 _ => ?_)
  refine aw_aload_n iX0_keep_81 rfl rfl ?_
  refine aw_aload_n iX0_keep_82 rfl rfl ?_
  refine aw_getI (own := "") iX0_keep_83 flX0_32 zlt48 zsh48 rfl ?_
  refine aw_iconst (v := 1) iX0_keep_86 (by decide) ?_
  refine aw_iadd iX0_keep_87 ?_
  refine aw_bipush (v := 24) iX0_keep_88 (by decide) ?_
  refine aw_icmp_ge iX0_keep_90 ?_ ?_
  · refine aw_iconst (v := 0) iX0_keep_102 (by decide) ?_
    refine aw_putI iX0_keep_103 fpX0_32 zlt48 zsh48 rfl (fun g10 _ => ?_)
    refine aw_aload_n iX0_keep_106 rfl rfl ?_
    refine aw_aload_n iX0_keep_107 rfl rfl ?_
    refine aw_getI (own := "") iX0_keep_108 flX0_28 zlt48 zsh48 rfl ?_
    refine aw_iconst (v := 1) iX0_keep_111 (by decide) ?_
    refine aw_iadd iX0_keep_112 ?_
    refine aw_bipush (v := 24) iX0_keep_113 (by decide) ?_
    refine aw_mmin iX0_keep_115 mmX0_44 ⟨Nat.le_of_ble_eq_true rfl, Nat.le_of_ble_eq_true rfl⟩ ?_
    refine aw_putI iX0_keep_118 fpX0_28 zlt48 zsh48 rfl (fun g11 _ => ?_)
    exact aw_vret iX0_keep_121 rfl
  · refine aw_aload_n iX0_keep_93 rfl rfl ?_
    refine aw_getI (own := "") iX0_keep_94 flX0_32 zlt48 zsh48 rfl ?_
    refine aw_iconst (v := 1) iX0_keep_97 (by decide) ?_
    refine aw_iadd iX0_keep_98 ?_
    refine aw_goto iX0_keep_99 ?_
    refine aw_putI iX0_keep_103 fpX0_32 zlt48 zsh48 rfl (fun g12 _ => ?_)
    refine aw_aload_n iX0_keep_106 rfl rfl ?_
    refine aw_aload_n iX0_keep_107 rfl rfl ?_
    refine aw_getI (own := "") iX0_keep_108 flX0_28 zlt48 zsh48 rfl ?_
    refine aw_iconst (v := 1) iX0_keep_111 (by decide) ?_
    refine aw_iadd iX0_keep_112 ?_
    refine aw_bipush (v := 24) iX0_keep_113 (by decide) ?_
    refine aw_mmin iX0_keep_115 mmX0_44 ⟨Nat.le_of_ble_eq_true rfl, Nat.le_of_ble_eq_true rfl⟩ ?_
    refine aw_putI iX0_keep_118 fpX0_28 zlt48 zsh48 rfl (fun g13 _ => ?_)
    exact aw_vret iX0_keep_121 rfl
set_option maxRecDepth 20000 in
set_option maxHeartbeats 4000000 in
theorem kX0_keep (a1 : Int32) (g : Mem) : CT mX0_keep [.inr 48, .inr 7, .inl a1] g (fX0_keep a1 g) := CT.of (nr := 0) (by decide +kernel) (Nat.le_of_ble_eq_true rfl) (Or.inl rfl) (wX0_keep a1 g)
set_option maxRecDepth 20000 in
set_option maxHeartbeats 4000000 in
theorem wX0_takeBack (g : Mem) : aw mX0_takeBack none 0 [some (.inr 48), some (.inr 7), none] [] g (fX0_takeBack g) := by
  unfold fX0_takeBack
  refine aw_aload_n iX0_takeBack_0 rfl rfl ?_
  refine aw_aload_n iX0_takeBack_1 rfl rfl ?_
  refine aw_getI (own := "") iX0_takeBack_2 flX0_32 zlt48 zsh48 rfl ?_
  refine aw_if_le iX0_takeBack_5 ?_ ?_
  · refine aw_bipush (v := 23) iX0_takeBack_17 (by decide) ?_
    refine aw_putI iX0_takeBack_19 fpX0_32 zlt48 zsh48 rfl (fun g1 _ => ?_)
    refine aw_aload_n iX0_takeBack_22 rfl rfl ?_
    refine aw_dup iX0_takeBack_23 ?_
    refine aw_getI (own := "") iX0_takeBack_24 flX0_28 zlt48 zsh48 rfl ?_
    refine aw_iconst (v := 1) iX0_takeBack_27 (by decide) ?_
    refine aw_isub iX0_takeBack_28 ?_
    refine aw_putI iX0_takeBack_29 fpX0_28 zlt48 zsh48 rfl (fun g2 _ => ?_)
    refine aw_aload_n iX0_takeBack_32 rfl rfl ?_
    refine aw_getR (own := "") iX0_takeBack_33 flX0_9 zlt48 zsh48 rfl ?_
    refine aw_aload_n iX0_takeBack_36 rfl rfl ?_
    refine aw_getI (own := "") iX0_takeBack_37 flX0_32 zlt48 zsh48 rfl ?_
    refine aw_iald iX0_takeBack_40 zlt49 zsh49 (fun v3 _ => ?_)
    refine aw_istore_n (L' := [some (.inr 48), some (.inr 7), some (.inl v3)]) iX0_takeBack_41 rfl (Nat.le_of_ble_eq_true rfl) rfl ?_
    refine aw_aload_n iX0_takeBack_42 rfl rfl ?_
    refine aw_getR (own := "") iX0_takeBack_43 flX0_35 zlt7 zsh7 rfl ?_
    refine aw_iload_n iX0_takeBack_46 rfl rfl ?_
    refine aw_aload_n iX0_takeBack_47 rfl rfl ?_
    refine aw_getR (own := "") iX0_takeBack_48 flX0_13 zlt48 zsh48 rfl ?_
    refine aw_aload_n iX0_takeBack_51 rfl rfl ?_
    refine aw_getI (own := "") iX0_takeBack_52 flX0_32 zlt48 zsh48 rfl ?_
    refine aw_iald iX0_takeBack_55 zlt50 zsh50 (fun v4 _ => ?_)
    refine aw_iast iX0_takeBack_56 zlt13 zsh13 (fun g5 _ => ?_)
    refine aw_aload_n iX0_takeBack_57 rfl rfl ?_
    refine aw_getR (own := "") iX0_takeBack_58 flX0_50 zlt7 zsh7 rfl ?_
    refine aw_iload_n iX0_takeBack_61 rfl rfl ?_
    refine aw_iconst (v := 0) iX0_takeBack_62 (by decide) ?_
    refine aw_iast iX0_takeBack_63 zlt14 zsh14 (fun g6 _ => ?_)
    refine aw_aload_n iX0_takeBack_64 rfl rfl ?_
    refine aw_getR (own := "") iX0_takeBack_65 flX0_38 zlt7 zsh7 rfl ?_
    refine aw_iload_n iX0_takeBack_68 rfl rfl ?_
    refine aw_aload_n iX0_takeBack_69 rfl rfl ?_
    refine aw_getR (own := "") iX0_takeBack_70 flX0_16 zlt48 zsh48 rfl ?_
    refine aw_aload_n iX0_takeBack_73 rfl rfl ?_
    refine aw_getI (own := "") iX0_takeBack_74 flX0_32 zlt48 zsh48 rfl ?_
    refine aw_iald iX0_takeBack_77 zlt51 zsh51 (fun v7 _ => ?_)
    refine aw_iast iX0_takeBack_78 zlt15 zsh15 (fun g8 _ => ?_)
    refine aw_aload_n iX0_takeBack_79 rfl rfl ?_
    refine aw_getR (own := "") iX0_takeBack_80 flX0_39 zlt7 zsh7 rfl ?_
    refine aw_iload_n iX0_takeBack_83 rfl rfl ?_
    refine aw_aload_n iX0_takeBack_84 rfl rfl ?_
    refine aw_getR (own := "") iX0_takeBack_85 flX0_19 zlt48 zsh48 rfl ?_
    refine aw_aload_n iX0_takeBack_88 rfl rfl ?_
    refine aw_getI (own := "") iX0_takeBack_89 flX0_32 zlt48 zsh48 rfl ?_
    refine aw_iald iX0_takeBack_92 zlt52 zsh52 (fun v9 _ => ?_)
    refine aw_iast iX0_takeBack_93 zlt16 zsh16 (fun g10 _ => ?_)
    refine aw_aload_n iX0_takeBack_94 rfl rfl ?_
    refine aw_aload_n iX0_takeBack_95 rfl rfl ?_
    refine aw_getR (own := "") iX0_takeBack_96 flX0_22 zlt48 zsh48 rfl ?_
    refine aw_aload_n iX0_takeBack_99 rfl rfl ?_
    refine aw_getI (own := "") iX0_takeBack_100 flX0_32 zlt48 zsh48 rfl ?_
    refine aw_iald iX0_takeBack_103 zlt53 zsh53 (fun v11 _ => ?_)
    refine aw_putI iX0_takeBack_104 fpX0_40 zlt7 zsh7 rfl (fun g12 _ => ?_)
    refine aw_aload_n iX0_takeBack_107 rfl rfl ?_
    refine aw_aload_n iX0_takeBack_108 rfl rfl ?_
    refine aw_getR (own := "") iX0_takeBack_109 flX0_25 zlt48 zsh48 rfl ?_
    refine aw_aload_n iX0_takeBack_112 rfl rfl ?_
    refine aw_getI (own := "") iX0_takeBack_113 flX0_32 zlt48 zsh48 rfl ?_
    refine aw_iald iX0_takeBack_116 zlt54 zsh54 (fun v13 _ => ?_)
    refine aw_putI iX0_takeBack_117 fpX0_42 zlt7 zsh7 rfl (fun g14 _ => ?_)
    exact aw_vret iX0_takeBack_120 rfl
  · refine aw_aload_n iX0_takeBack_8 rfl rfl ?_
    refine aw_getI (own := "") iX0_takeBack_9 flX0_32 zlt48 zsh48 rfl ?_
    refine aw_iconst (v := 1) iX0_takeBack_12 (by decide) ?_
    refine aw_isub iX0_takeBack_13 ?_
    refine aw_goto iX0_takeBack_14 ?_
    refine aw_putI iX0_takeBack_19 fpX0_32 zlt48 zsh48 rfl (fun g15 _ => ?_)
    refine aw_aload_n iX0_takeBack_22 rfl rfl ?_
    refine aw_dup iX0_takeBack_23 ?_
    refine aw_getI (own := "") iX0_takeBack_24 flX0_28 zlt48 zsh48 rfl ?_
    refine aw_iconst (v := 1) iX0_takeBack_27 (by decide) ?_
    refine aw_isub iX0_takeBack_28 ?_
    refine aw_putI iX0_takeBack_29 fpX0_28 zlt48 zsh48 rfl (fun g16 _ => ?_)
    refine aw_aload_n iX0_takeBack_32 rfl rfl ?_
    refine aw_getR (own := "") iX0_takeBack_33 flX0_9 zlt48 zsh48 rfl ?_
    refine aw_aload_n iX0_takeBack_36 rfl rfl ?_
    refine aw_getI (own := "") iX0_takeBack_37 flX0_32 zlt48 zsh48 rfl ?_
    refine aw_iald iX0_takeBack_40 zlt49 zsh49 (fun v17 _ => ?_)
    refine aw_istore_n (L' := [some (.inr 48), some (.inr 7), some (.inl v17)]) iX0_takeBack_41 rfl (Nat.le_of_ble_eq_true rfl) rfl ?_
    refine aw_aload_n iX0_takeBack_42 rfl rfl ?_
    refine aw_getR (own := "") iX0_takeBack_43 flX0_35 zlt7 zsh7 rfl ?_
    refine aw_iload_n iX0_takeBack_46 rfl rfl ?_
    refine aw_aload_n iX0_takeBack_47 rfl rfl ?_
    refine aw_getR (own := "") iX0_takeBack_48 flX0_13 zlt48 zsh48 rfl ?_
    refine aw_aload_n iX0_takeBack_51 rfl rfl ?_
    refine aw_getI (own := "") iX0_takeBack_52 flX0_32 zlt48 zsh48 rfl ?_
    refine aw_iald iX0_takeBack_55 zlt50 zsh50 (fun v18 _ => ?_)
    refine aw_iast iX0_takeBack_56 zlt13 zsh13 (fun g19 _ => ?_)
    refine aw_aload_n iX0_takeBack_57 rfl rfl ?_
    refine aw_getR (own := "") iX0_takeBack_58 flX0_50 zlt7 zsh7 rfl ?_
    refine aw_iload_n iX0_takeBack_61 rfl rfl ?_
    refine aw_iconst (v := 0) iX0_takeBack_62 (by decide) ?_
    refine aw_iast iX0_takeBack_63 zlt14 zsh14 (fun g20 _ => ?_)
    refine aw_aload_n iX0_takeBack_64 rfl rfl ?_
    refine aw_getR (own := "") iX0_takeBack_65 flX0_38 zlt7 zsh7 rfl ?_
    refine aw_iload_n iX0_takeBack_68 rfl rfl ?_
    refine aw_aload_n iX0_takeBack_69 rfl rfl ?_
    refine aw_getR (own := "") iX0_takeBack_70 flX0_16 zlt48 zsh48 rfl ?_
    refine aw_aload_n iX0_takeBack_73 rfl rfl ?_
    refine aw_getI (own := "") iX0_takeBack_74 flX0_32 zlt48 zsh48 rfl ?_
    refine aw_iald iX0_takeBack_77 zlt51 zsh51 (fun v21 _ => ?_)
    refine aw_iast iX0_takeBack_78 zlt15 zsh15 (fun g22 _ => ?_)
    refine aw_aload_n iX0_takeBack_79 rfl rfl ?_
    refine aw_getR (own := "") iX0_takeBack_80 flX0_39 zlt7 zsh7 rfl ?_
    refine aw_iload_n iX0_takeBack_83 rfl rfl ?_
    refine aw_aload_n iX0_takeBack_84 rfl rfl ?_
    refine aw_getR (own := "") iX0_takeBack_85 flX0_19 zlt48 zsh48 rfl ?_
    refine aw_aload_n iX0_takeBack_88 rfl rfl ?_
    refine aw_getI (own := "") iX0_takeBack_89 flX0_32 zlt48 zsh48 rfl ?_
    refine aw_iald iX0_takeBack_92 zlt52 zsh52 (fun v23 _ => ?_)
    refine aw_iast iX0_takeBack_93 zlt16 zsh16 (fun g24 _ => ?_)
    refine aw_aload_n iX0_takeBack_94 rfl rfl ?_
    refine aw_aload_n iX0_takeBack_95 rfl rfl ?_
    refine aw_getR (own := "") iX0_takeBack_96 flX0_22 zlt48 zsh48 rfl ?_
    refine aw_aload_n iX0_takeBack_99 rfl rfl ?_
    refine aw_getI (own := "") iX0_takeBack_100 flX0_32 zlt48 zsh48 rfl ?_
    refine aw_iald iX0_takeBack_103 zlt53 zsh53 (fun v25 _ => ?_)
    refine aw_putI iX0_takeBack_104 fpX0_40 zlt7 zsh7 rfl (fun g26 _ => ?_)
    refine aw_aload_n iX0_takeBack_107 rfl rfl ?_
    refine aw_aload_n iX0_takeBack_108 rfl rfl ?_
    refine aw_getR (own := "") iX0_takeBack_109 flX0_25 zlt48 zsh48 rfl ?_
    refine aw_aload_n iX0_takeBack_112 rfl rfl ?_
    refine aw_getI (own := "") iX0_takeBack_113 flX0_32 zlt48 zsh48 rfl ?_
    refine aw_iald iX0_takeBack_116 zlt54 zsh54 (fun v27 _ => ?_)
    refine aw_putI iX0_takeBack_117 fpX0_42 zlt7 zsh7 rfl (fun g28 _ => ?_)
    exact aw_vret iX0_takeBack_120 rfl
set_option maxRecDepth 20000 in
set_option maxHeartbeats 4000000 in
theorem kX0_takeBack (g : Mem) : CT mX0_takeBack [.inr 48, .inr 7] g (fX0_takeBack g) := CT.of (nr := 1) (by decide +kernel) (Nat.le_of_ble_eq_true rfl) (Or.inl rfl) (wX0_takeBack g)
set_option maxRecDepth 20000 in
set_option maxHeartbeats 4000000 in
theorem wX1_left (a0 : Int32) (g : Mem) : aw mX1_left none 0 [some (.inr 58), some (.inl a0)] [] g (fX1_left a0 g) := by
  unfold fX1_left
  refine aw_iload_n iX1_left_0 rfl rfl ?_
  refine aw_if_lt iX1_left_1 ?_ ?_
  · refine aw_ldc (v := (-1000000)) iX1_left_21 kcX1_19 ?_
    exact aw_iret iX1_left_23 rfl
  · refine aw_iload_n iX1_left_4 rfl rfl ?_
    refine aw_aload_n iX1_left_5 rfl rfl ?_
    refine aw_getI (own := "") iX1_left_6 flX1_15 zlt58 zsh58 rfl ?_
    refine aw_icmp_ge iX1_left_9 ?_ ?_
    · refine aw_ldc (v := (-1000000)) iX1_left_21 kcX1_19 ?_
      exact aw_iret iX1_left_23 rfl
    · refine aw_aload_n iX1_left_12 rfl rfl ?_
      refine aw_getR (own := "") iX1_left_13 flX1_11 zlt58 zsh58 rfl ?_
      refine aw_iload_n iX1_left_16 rfl rfl ?_
      refine aw_iald iX1_left_17 zlt59 zsh59 (fun v1 _ => ?_)
      refine aw_goto iX1_left_18 ?_
      exact aw_iret iX1_left_23 rfl
set_option maxRecDepth 20000 in
set_option maxHeartbeats 4000000 in
theorem kX1_left (a0 : Int32) (g : Mem) : CT mX1_left [.inr 58, .inl a0] g (fX1_left a0 g) := CT.of (nr := 0) (by decide +kernel) (Nat.le_of_ble_eq_true rfl) (Or.inr (Or.inl rfl)) (wX1_left a0 g)
set_option maxRecDepth 20000 in
set_option maxHeartbeats 4000000 in
theorem wX2_isOfKind (a0 : Int32) (a1 : Int32) (g : Mem) : aw mX2_isOfKind none 0 [some (.inl a0), some (.inl a1)] [] g (fX2_isOfKind a0 a1 g) := by
  unfold fX2_isOfKind
  refine aw_iload_n iX2_isOfKind_0 rfl rfl ?_
  refine aw_if (fun c1 => ?_) (fun c1 => ?_)
  · refine aw_tsw tX2_isOfKind_1_0 c1 ?_
    refine aw_iconst (v := 1) iX2_isOfKind_36 (by decide) ?_
    exact aw_zretK iX2_isOfKind_37 rfl (Or.inr rfl)
  refine aw_if (fun c2 => ?_) (fun c2 => ?_)
  · refine aw_tsw tX2_isOfKind_1_1 c2 ?_
    refine aw_iload_n iX2_isOfKind_38 rfl rfl ?_
    refine aw_iconst (v := 1) iX2_isOfKind_39 (by decide) ?_
    refine aw_icmp_eq iX2_isOfKind_40 ?_ ?_
    · refine aw_iconst (v := 1) iX2_isOfKind_53 (by decide) ?_
      refine aw_goto iX2_isOfKind_54 ?_
      exact aw_zretK iX2_isOfKind_58 rfl (Or.inr rfl)
    · refine aw_iload_n iX2_isOfKind_43 rfl rfl ?_
      refine aw_iconst (v := 2) iX2_isOfKind_44 (by decide) ?_
      refine aw_icmp_eq iX2_isOfKind_45 ?_ ?_
      · refine aw_iconst (v := 1) iX2_isOfKind_53 (by decide) ?_
        refine aw_goto iX2_isOfKind_54 ?_
        exact aw_zretK iX2_isOfKind_58 rfl (Or.inr rfl)
      · refine aw_iload_n iX2_isOfKind_48 rfl rfl ?_
        refine aw_iconst (v := 3) iX2_isOfKind_49 (by decide) ?_
        refine aw_icmp_ne iX2_isOfKind_50 ?_ ?_
        · refine aw_iconst (v := 1) iX2_isOfKind_53 (by decide) ?_
          refine aw_goto iX2_isOfKind_54 ?_
          exact aw_zretK iX2_isOfKind_58 rfl (Or.inr rfl)
        · refine aw_iconst (v := 0) iX2_isOfKind_57 (by decide) ?_
          exact aw_zretK iX2_isOfKind_58 rfl (Or.inl rfl)
  refine aw_if (fun c3 => ?_) (fun c3 => ?_)
  · refine aw_tsw tX2_isOfKind_1_2 c3 ?_
    refine aw_iload_n iX2_isOfKind_75 rfl rfl ?_
    refine aw_iload_n iX2_isOfKind_76 rfl rfl ?_
    refine aw_icmp_ne iX2_isOfKind_77 ?_ ?_
    · refine aw_iconst (v := 1) iX2_isOfKind_80 (by decide) ?_
      refine aw_goto iX2_isOfKind_81 ?_
      exact aw_zretK iX2_isOfKind_85 rfl (Or.inr rfl)
    · refine aw_iconst (v := 0) iX2_isOfKind_84 (by decide) ?_
      exact aw_zretK iX2_isOfKind_85 rfl (Or.inl rfl)
  refine aw_if (fun c4 => ?_) (fun c4 => ?_)
  · refine aw_tsw tX2_isOfKind_1_3 c4 ?_
    refine aw_iload_n iX2_isOfKind_75 rfl rfl ?_
    refine aw_iload_n iX2_isOfKind_76 rfl rfl ?_
    refine aw_icmp_ne iX2_isOfKind_77 ?_ ?_
    · refine aw_iconst (v := 1) iX2_isOfKind_80 (by decide) ?_
      refine aw_goto iX2_isOfKind_81 ?_
      exact aw_zretK iX2_isOfKind_85 rfl (Or.inr rfl)
    · refine aw_iconst (v := 0) iX2_isOfKind_84 (by decide) ?_
      exact aw_zretK iX2_isOfKind_85 rfl (Or.inl rfl)
  refine aw_if (fun c5 => ?_) (fun c5 => ?_)
  · refine aw_tsw tX2_isOfKind_1_4 c5 ?_
    refine aw_iload_n iX2_isOfKind_59 rfl rfl ?_
    refine aw_iconst (v := 4) iX2_isOfKind_60 (by decide) ?_
    refine aw_icmp_eq iX2_isOfKind_61 ?_ ?_
    · refine aw_iconst (v := 1) iX2_isOfKind_69 (by decide) ?_
      refine aw_goto iX2_isOfKind_70 ?_
      exact aw_zretK iX2_isOfKind_74 rfl (Or.inr rfl)
    · refine aw_iload_n iX2_isOfKind_64 rfl rfl ?_
      refine aw_iconst (v := 5) iX2_isOfKind_65 (by decide) ?_
      refine aw_icmp_ne iX2_isOfKind_66 ?_ ?_
      · refine aw_iconst (v := 1) iX2_isOfKind_69 (by decide) ?_
        refine aw_goto iX2_isOfKind_70 ?_
        exact aw_zretK iX2_isOfKind_74 rfl (Or.inr rfl)
      · refine aw_iconst (v := 0) iX2_isOfKind_73 (by decide) ?_
        exact aw_zretK iX2_isOfKind_74 rfl (Or.inl rfl)
  refine aw_tsd tX2_isOfKind_1_d (by have ec1 := ne_toInt c1 (a := 0) (by decide); have ec2 := ne_toInt c2 (a := 1) (by decide); have ec3 := ne_toInt c3 (a := 2) (by decide); have ec4 := ne_toInt c4 (a := 3) (by decide); have ec5 := ne_toInt c5 (a := 4) (by decide); omega) ?_
  refine aw_iload_n iX2_isOfKind_75 rfl rfl ?_
  refine aw_iload_n iX2_isOfKind_76 rfl rfl ?_
  refine aw_icmp_ne iX2_isOfKind_77 ?_ ?_
  · refine aw_iconst (v := 1) iX2_isOfKind_80 (by decide) ?_
    refine aw_goto iX2_isOfKind_81 ?_
    exact aw_zretK iX2_isOfKind_85 rfl (Or.inr rfl)
  · refine aw_iconst (v := 0) iX2_isOfKind_84 (by decide) ?_
    exact aw_zretK iX2_isOfKind_85 rfl (Or.inl rfl)
set_option maxRecDepth 20000 in
set_option maxHeartbeats 4000000 in
theorem kX2_isOfKind (a0 : Int32) (a1 : Int32) (g : Mem) : CT mX2_isOfKind [.inl a0, .inl a1] g (fX2_isOfKind a0 a1 g) := CT.of (nr := 0) (by decide +kernel) (Nat.le_of_ble_eq_true rfl) (Or.inr (Or.inr rfl)) (wX2_isOfKind a0 a1 g)
set_option maxRecDepth 20000 in
set_option maxHeartbeats 4000000 in
theorem wX1_leave (a0 : Int32) (g : Mem) : aw mX1_leave none 0 [some (.inr 58), some (.inl a0)] [] g (fX1_leave a0 g) := by
  unfold fX1_leave
  refine aw_aload_n iX1_leave_0 rfl rfl ?_
  refine aw_getI (own := "") iX1_leave_1 flX1_15 zlt58 zsh58 rfl ?_
  refine aw_bipush (v := 16) iX1_leave_4 (by decide) ?_
  refine aw_icmp_ge iX1_leave_6 ?_ ?_
  · exact aw_vret iX1_leave_29 rfl
  · refine aw_aload_n iX1_leave_9 rfl rfl ?_
    refine aw_getR (own := "") iX1_leave_10 flX1_11 zlt58 zsh58 rfl ?_
    refine aw_aload_n iX1_leave_13 rfl rfl ?_
    refine aw_getI (own := "") iX1_leave_14 flX1_15 zlt58 zsh58 rfl ?_
    refine aw_iload_n iX1_leave_17 rfl rfl ?_
    refine aw_iast iX1_leave_18 zlt59 zsh59 (fun g1 _ => ?_)
    refine aw_aload_n iX1_leave_19 rfl rfl ?_
    refine aw_dup iX1_leave_20 ?_
    refine aw_getI (own := "") iX1_leave_21 flX1_15 zlt58 zsh58 rfl ?_
    refine aw_iconst (v := 1) iX1_leave_24 (by decide) ?_
    refine aw_iadd iX1_leave_25 ?_
    refine aw_putI iX1_leave_26 fpX1_15 zlt58 zsh58 rfl (fun g2 _ => ?_)
    exact aw_vret iX1_leave_29 rfl
set_option maxRecDepth 20000 in
set_option maxHeartbeats 4000000 in
theorem kX1_leave (a0 : Int32) (g : Mem) : CT mX1_leave [.inr 58, .inl a0] g (fX1_leave a0 g) := CT.of (nr := 0) (by decide +kernel) (Nat.le_of_ble_eq_true rfl) (Or.inl rfl) (wX1_leave a0 g)
set_option maxRecDepth 20000 in
set_option maxHeartbeats 4000000 in
theorem wJ6_bitCount_0f7a4 (a0 : Int32) (g : Mem) : aw mJ6_bitCount_0f7a4 none 0 [some (.inl a0)] [] g (fJ6_bitCount_0f7a4 a0 g) := by
  unfold fJ6_bitCount_0f7a4
  refine aw_iload_n iJ6_bitCount_0f7a4_0 rfl rfl ?_
  refine aw_iload_n iJ6_bitCount_0f7a4_1 rfl rfl ?_
  refine aw_iconst (v := 1) iJ6_bitCount_0f7a4_2 (by decide) ?_
  refine aw_iushr iJ6_bitCount_0f7a4_3 ?_
  refine aw_ldcw (v := 1431655765) iJ6_bitCount_0f7a4_4 kcJ6_265 ?_
  refine aw_iand iJ6_bitCount_0f7a4_7 ?_
  refine aw_isub iJ6_bitCount_0f7a4_8 ?_
  refine aw_lt (fun x1 => ?_)
  refine aw_istore_n (L' := [some (.inl x1)]) iJ6_bitCount_0f7a4_9 rfl (Nat.le_of_ble_eq_true rfl) rfl ?_
  refine aw_iload_n iJ6_bitCount_0f7a4_10 rfl rfl ?_
  refine aw_ldcw (v := 858993459) iJ6_bitCount_0f7a4_11 kcJ6_266 ?_
  refine aw_iand iJ6_bitCount_0f7a4_14 ?_
  refine aw_iload_n iJ6_bitCount_0f7a4_15 rfl rfl ?_
  refine aw_iconst (v := 2) iJ6_bitCount_0f7a4_16 (by decide) ?_
  refine aw_iushr iJ6_bitCount_0f7a4_17 ?_
  refine aw_ldcw (v := 858993459) iJ6_bitCount_0f7a4_18 kcJ6_266 ?_
  refine aw_iand iJ6_bitCount_0f7a4_21 ?_
  refine aw_iadd iJ6_bitCount_0f7a4_22 ?_
  refine aw_lt (fun x2 => ?_)
  refine aw_istore_n (L' := [some (.inl x2)]) iJ6_bitCount_0f7a4_23 rfl (Nat.le_of_ble_eq_true rfl) rfl ?_
  refine aw_iload_n iJ6_bitCount_0f7a4_24 rfl rfl ?_
  refine aw_iload_n iJ6_bitCount_0f7a4_25 rfl rfl ?_
  refine aw_iconst (v := 4) iJ6_bitCount_0f7a4_26 (by decide) ?_
  refine aw_iushr iJ6_bitCount_0f7a4_27 ?_
  refine aw_iadd iJ6_bitCount_0f7a4_28 ?_
  refine aw_ldcw (v := 252645135) iJ6_bitCount_0f7a4_29 kcJ6_267 ?_
  refine aw_iand iJ6_bitCount_0f7a4_32 ?_
  refine aw_lt (fun x3 => ?_)
  refine aw_istore_n (L' := [some (.inl x3)]) iJ6_bitCount_0f7a4_33 rfl (Nat.le_of_ble_eq_true rfl) rfl ?_
  refine aw_iload_n iJ6_bitCount_0f7a4_34 rfl rfl ?_
  refine aw_iload_n iJ6_bitCount_0f7a4_35 rfl rfl ?_
  refine aw_bipush (v := 8) iJ6_bitCount_0f7a4_36 (by decide) ?_
  refine aw_iushr iJ6_bitCount_0f7a4_38 ?_
  refine aw_iadd iJ6_bitCount_0f7a4_39 ?_
  refine aw_lt (fun x4 => ?_)
  refine aw_istore_n (L' := [some (.inl x4)]) iJ6_bitCount_0f7a4_40 rfl (Nat.le_of_ble_eq_true rfl) rfl ?_
  refine aw_iload_n iJ6_bitCount_0f7a4_41 rfl rfl ?_
  refine aw_iload_n iJ6_bitCount_0f7a4_42 rfl rfl ?_
  refine aw_bipush (v := 16) iJ6_bitCount_0f7a4_43 (by decide) ?_
  refine aw_iushr iJ6_bitCount_0f7a4_45 ?_
  refine aw_iadd iJ6_bitCount_0f7a4_46 ?_
  refine aw_lt (fun x5 => ?_)
  refine aw_istore_n (L' := [some (.inl x5)]) iJ6_bitCount_0f7a4_47 rfl (Nat.le_of_ble_eq_true rfl) rfl ?_
  refine aw_iload_n iJ6_bitCount_0f7a4_48 rfl rfl ?_
  refine aw_bipush (v := 63) iJ6_bitCount_0f7a4_49 (by decide) ?_
  refine aw_iand iJ6_bitCount_0f7a4_51 ?_
  exact aw_iret iJ6_bitCount_0f7a4_52 rfl
set_option maxRecDepth 20000 in
set_option maxHeartbeats 4000000 in
theorem kJ6_bitCount_0f7a4 (a0 : Int32) (g : Mem) : CT mJ6_bitCount_0f7a4 [.inl a0] g (fJ6_bitCount_0f7a4 a0 g) := CT.of (nr := 0) (by decide +kernel) (Nat.le_of_ble_eq_true rfl) (Or.inr (Or.inl rfl)) (wJ6_bitCount_0f7a4 a0 g)
set_option maxRecDepth 20000 in
set_option maxHeartbeats 4000000 in
theorem wX1_sizeOfAll (a1 : Int32) (g : Mem) : aw mX1_sizeOfAll none 0 [some (.inr 58), some (.inr 7), some (.inl a1)] [] g (fX1_sizeOfAll a1 g) := by
  unfold fX1_sizeOfAll
  refine aw_aload_n iX1_sizeOfAll_0 rfl rfl ?_
  refine aw_bipush (v := 10) iX1_sizeOfAll_1 (by decide) ?_
  refine aw_callVv (M' := mX1_leave) (As := [.inl (10 : Int32)]) iX1_sizeOfAll_3 lkX1_42 mcX1_leave mvX1_leave rfl zrc58 (kX1_leave (10 : Int32) g) rfl (Nat.le_of_ble_eq_true rfl) ⟨Nat.le_of_ble_eq_true rfl, Nat.le_of_ble_eq_true rfl⟩ (fun r1 g2 => ?_)
  refine aw_aload_n iX1_sizeOfAll_6 rfl rfl ?_
  refine aw_getR (own := "") iX1_sizeOfAll_7 flX1_46 zlt7 zsh7 rfl ?_
  refine aw_iload_n iX1_sizeOfAll_10 rfl rfl ?_
  refine aw_iald iX1_sizeOfAll_11 zlt12 zsh12 (fun v3 _ => ?_)
  refine aw_callS (M' := mJ6_bitCount_0f7a4) (As := [.inl v3]) iX1_sizeOfAll_12 lkX1_49 mcJ6_bitCount_0f7a4 msJ6_bitCount_0f7a4 rfl (kJ6_bitCount_0f7a4 v3 g2) rfl (Nat.le_of_ble_eq_true rfl) ⟨Nat.le_of_ble_eq_true rfl, Nat.le_of_ble_eq_true rfl⟩ (fun r4 g5 => ?_)
  exact aw_iret iX1_sizeOfAll_15 rfl
set_option maxRecDepth 20000 in
set_option maxHeartbeats 4000000 in
theorem kX1_sizeOfAll (a1 : Int32) (g : Mem) : CT mX1_sizeOfAll [.inr 58, .inr 7, .inl a1] g (fX1_sizeOfAll a1 g) := CT.of (nr := 0) (by decide +kernel) (Nat.le_of_ble_eq_true rfl) (Or.inr (Or.inl rfl)) (wX1_sizeOfAll a1 g)
set_option maxRecDepth 20000 in
set_option maxHeartbeats 4000000 in
theorem wX1_markOfAll (a0 : Int32) (g : Mem) : aw mX1_markOfAll none 0 [some (.inr 58), some (.inl a0)] [] g (fX1_markOfAll a0 g) := by
  unfold fX1_markOfAll
  refine aw_aload_n iX1_markOfAll_0 rfl rfl ?_
  refine aw_bipush (v := 20) iX1_markOfAll_1 (by decide) ?_
  refine aw_callVv (M' := mX1_leave) (As := [.inl (20 : Int32)]) iX1_markOfAll_3 lkX1_42 mcX1_leave mvX1_leave rfl zrc58 (kX1_leave (20 : Int32) g) rfl (Nat.le_of_ble_eq_true rfl) ⟨Nat.le_of_ble_eq_true rfl, Nat.le_of_ble_eq_true rfl⟩ (fun r1 g2 => ?_)
  refine aw_iload_n iX1_markOfAll_6 rfl rfl ?_
  exact aw_iret iX1_markOfAll_7 rfl
set_option maxRecDepth 20000 in
set_option maxHeartbeats 4000000 in
theorem kX1_markOfAll (a0 : Int32) (g : Mem) : CT mX1_markOfAll [.inr 58, .inl a0] g (fX1_markOfAll a0 g) := CT.of (nr := 0) (by decide +kernel) (Nat.le_of_ble_eq_true rfl) (Or.inr (Or.inl rfl)) (wX1_markOfAll a0 g)
set_option maxRecDepth 20000 in
set_option maxHeartbeats 4000000 in
theorem wX1_markOfPlain (a1 : Int32) (g : Mem) : aw mX1_markOfPlain none 0 [some (.inr 58), some (.inr 7), some (.inl a1), none, none, none] [] g (fX1_markOfPlain a1 g) := by
  unfold fX1_markOfPlain
  refine aw_aload_n iX1_markOfPlain_0 rfl rfl ?_
  refine aw_getR (own := "") iX1_markOfPlain_1 flX1_20 zlt7 zsh7 rfl ?_
  refine aw_iload_n iX1_markOfPlain_4 rfl rfl ?_
  refine aw_iald iX1_markOfPlain_5 zlt9 zsh9 (fun v1 _ => ?_)
  refine aw_iconst (v := 2) iX1_markOfPlain_6 (by decide) ?_
  refine aw_icmp_ne iX1_markOfPlain_7 ?_ ?_
  · refine aw_iconst (v := 1) iX1_markOfPlain_10 (by decide) ?_
    refine aw_goto iX1_markOfPlain_11 ?_
    refine aw_istore_n (L' := [some (.inr 58), some (.inr 7), some (.inl a1), some (.inl (1 : Int32)), none, none]) iX1_markOfPlain_15 rfl (Nat.le_of_ble_eq_true rfl) rfl ?_
    refine aw_aload_n iX1_markOfPlain_16 rfl rfl ?_
    refine aw_getR (own := "") iX1_markOfPlain_17 flX1_20 zlt7 zsh7 rfl ?_
    refine aw_iload_n iX1_markOfPlain_20 rfl rfl ?_
    refine aw_iald iX1_markOfPlain_21 zlt9 zsh9 (fun v2 _ => ?_)
    refine aw_iconst (v := 3) iX1_markOfPlain_22 (by decide) ?_
    refine aw_icmp_ne iX1_markOfPlain_23 ?_ ?_
    · refine aw_iconst (v := 1) iX1_markOfPlain_26 (by decide) ?_
      refine aw_goto iX1_markOfPlain_27 ?_
      refine aw_istore (L' := [some (.inr 58), some (.inr 7), some (.inl a1), some (.inl (1 : Int32)), some (.inl (1 : Int32)), none]) iX1_markOfPlain_31 (Nat.le_of_ble_eq_true rfl) rfl ?_
      refine aw_iload_n iX1_markOfPlain_33 rfl rfl ?_
      refine aw_if_eq_F iX1_markOfPlain_34 (by decide) ?_
      refine aw_aload_n iX1_markOfPlain_37 rfl rfl ?_
      refine aw_bipush (v := 24) iX1_markOfPlain_38 (by decide) ?_
      refine aw_callVv (M' := mX1_leave) (As := [.inl (24 : Int32)]) iX1_markOfPlain_40 lkX1_42 mcX1_leave mvX1_leave rfl zrc58 (kX1_leave (24 : Int32) g) rfl (Nat.le_of_ble_eq_true rfl) ⟨Nat.le_of_ble_eq_true rfl, Nat.le_of_ble_eq_true rfl⟩ (fun r3 g4 => ?_)
      refine aw_iload iX1_markOfPlain_43 rfl ?_
      refine aw_if_eq_F iX1_markOfPlain_45 (by decide) ?_
      refine aw_aload_n iX1_markOfPlain_48 rfl rfl ?_
      refine aw_bipush (v := 22) iX1_markOfPlain_49 (by decide) ?_
      refine aw_callVv (M' := mX1_leave) (As := [.inl (22 : Int32)]) iX1_markOfPlain_51 lkX1_42 mcX1_leave mvX1_leave rfl zrc58 (kX1_leave (22 : Int32) g4) rfl (Nat.le_of_ble_eq_true rfl) ⟨Nat.le_of_ble_eq_true rfl, Nat.le_of_ble_eq_true rfl⟩ (fun r5 g6 => ?_)
      refine aw_aload_n iX1_markOfPlain_54 rfl rfl ?_
      refine aw_bipush (v := 21) iX1_markOfPlain_55 (by decide) ?_
      refine aw_callVv (M' := mX1_leave) (As := [.inl (21 : Int32)]) iX1_markOfPlain_57 lkX1_42 mcX1_leave mvX1_leave rfl zrc58 (kX1_leave (21 : Int32) g6) rfl (Nat.le_of_ble_eq_true rfl) ⟨Nat.le_of_ble_eq_true rfl, Nat.le_of_ble_eq_true rfl⟩ (fun r7 g8 => ?_)
      refine aw_aload_n iX1_markOfPlain_60 rfl rfl ?_
      refine aw_iload_n iX1_markOfPlain_61 rfl rfl ?_
      refine aw_callV (M' := mX1_markOfAll) (As := [.inl a1]) iX1_markOfPlain_62 lkX1_58 mcX1_markOfAll mvX1_markOfAll rfl zrc58 (kX1_markOfAll a1 g8) rfl (Nat.le_of_ble_eq_true rfl) ⟨Nat.le_of_ble_eq_true rfl, Nat.le_of_ble_eq_true rfl⟩ (fun r9 g10 => ?_)
      refine aw_aload_n iX1_markOfPlain_65 rfl rfl ?_
      refine aw_getR (own := "") iX1_markOfPlain_66 flX1_61 zlt7 zsh7 rfl ?_
      refine aw_iload_n iX1_markOfPlain_69 rfl rfl ?_
      refine aw_iald iX1_markOfPlain_70 zlt10 zsh10 (fun v11 _ => ?_)
      refine aw_iadd iX1_markOfPlain_71 ?_
      refine aw_lt (fun x12 => ?_)
      refine aw_istore (L' := [some (.inr 58), some (.inr 7), some (.inl a1), some (.inl (1 : Int32)), some (.inl (1 : Int32)), some (.inl x12)]) iX1_markOfPlain_72 (Nat.le_of_ble_eq_true rfl) rfl ?_
      refine aw_iload_n iX1_markOfPlain_74 rfl rfl ?_
      refine aw_if_eq_F iX1_markOfPlain_75 (by decide) ?_
      refine aw_iconst (v := 2) iX1_markOfPlain_78 (by decide) ?_
      refine aw_iload iX1_markOfPlain_79 rfl ?_
      refine aw_imul iX1_markOfPlain_81 ?_
      refine aw_goto iX1_markOfPlain_82 ?_
      exact aw_iret iX1_markOfPlain_101 rfl
    · refine aw_iconst (v := 0) iX1_markOfPlain_30 (by decide) ?_
      refine aw_istore (L' := [some (.inr 58), some (.inr 7), some (.inl a1), some (.inl (1 : Int32)), some (.inl (0 : Int32)), none]) iX1_markOfPlain_31 (Nat.le_of_ble_eq_true rfl) rfl ?_
      refine aw_iload_n iX1_markOfPlain_33 rfl rfl ?_
      refine aw_if_eq_F iX1_markOfPlain_34 (by decide) ?_
      refine aw_aload_n iX1_markOfPlain_37 rfl rfl ?_
      refine aw_bipush (v := 24) iX1_markOfPlain_38 (by decide) ?_
      refine aw_callVv (M' := mX1_leave) (As := [.inl (24 : Int32)]) iX1_markOfPlain_40 lkX1_42 mcX1_leave mvX1_leave rfl zrc58 (kX1_leave (24 : Int32) g) rfl (Nat.le_of_ble_eq_true rfl) ⟨Nat.le_of_ble_eq_true rfl, Nat.le_of_ble_eq_true rfl⟩ (fun r13 g14 => ?_)
      refine aw_iload iX1_markOfPlain_43 rfl ?_
      refine aw_if_eq_T iX1_markOfPlain_45 (by decide) ?_
      refine aw_aload_n iX1_markOfPlain_54 rfl rfl ?_
      refine aw_bipush (v := 21) iX1_markOfPlain_55 (by decide) ?_
      refine aw_callVv (M' := mX1_leave) (As := [.inl (21 : Int32)]) iX1_markOfPlain_57 lkX1_42 mcX1_leave mvX1_leave rfl zrc58 (kX1_leave (21 : Int32) g14) rfl (Nat.le_of_ble_eq_true rfl) ⟨Nat.le_of_ble_eq_true rfl, Nat.le_of_ble_eq_true rfl⟩ (fun r15 g16 => ?_)
      refine aw_aload_n iX1_markOfPlain_60 rfl rfl ?_
      refine aw_iload_n iX1_markOfPlain_61 rfl rfl ?_
      refine aw_callV (M' := mX1_markOfAll) (As := [.inl a1]) iX1_markOfPlain_62 lkX1_58 mcX1_markOfAll mvX1_markOfAll rfl zrc58 (kX1_markOfAll a1 g16) rfl (Nat.le_of_ble_eq_true rfl) ⟨Nat.le_of_ble_eq_true rfl, Nat.le_of_ble_eq_true rfl⟩ (fun r17 g18 => ?_)
      refine aw_aload_n iX1_markOfPlain_65 rfl rfl ?_
      refine aw_getR (own := "") iX1_markOfPlain_66 flX1_61 zlt7 zsh7 rfl ?_
      refine aw_iload_n iX1_markOfPlain_69 rfl rfl ?_
      refine aw_iald iX1_markOfPlain_70 zlt10 zsh10 (fun v19 _ => ?_)
      refine aw_iadd iX1_markOfPlain_71 ?_
      refine aw_lt (fun x20 => ?_)
      refine aw_istore (L' := [some (.inr 58), some (.inr 7), some (.inl a1), some (.inl (1 : Int32)), some (.inl (0 : Int32)), some (.inl x20)]) iX1_markOfPlain_72 (Nat.le_of_ble_eq_true rfl) rfl ?_
      refine aw_iload_n iX1_markOfPlain_74 rfl rfl ?_
      refine aw_if_eq_F iX1_markOfPlain_75 (by decide) ?_
      refine aw_iconst (v := 2) iX1_markOfPlain_78 (by decide) ?_
      refine aw_iload iX1_markOfPlain_79 rfl ?_
      refine aw_imul iX1_markOfPlain_81 ?_
      refine aw_goto iX1_markOfPlain_82 ?_
      exact aw_iret iX1_markOfPlain_101 rfl
  · refine aw_iconst (v := 0) iX1_markOfPlain_14 (by decide) ?_
    refine aw_istore_n (L' := [some (.inr 58), some (.inr 7), some (.inl a1), some (.inl (0 : Int32)), none, none]) iX1_markOfPlain_15 rfl (Nat.le_of_ble_eq_true rfl) rfl ?_
    refine aw_aload_n iX1_markOfPlain_16 rfl rfl ?_
    refine aw_getR (own := "") iX1_markOfPlain_17 flX1_20 zlt7 zsh7 rfl ?_
    refine aw_iload_n iX1_markOfPlain_20 rfl rfl ?_
    refine aw_iald iX1_markOfPlain_21 zlt9 zsh9 (fun v21 _ => ?_)
    refine aw_iconst (v := 3) iX1_markOfPlain_22 (by decide) ?_
    refine aw_icmp_ne iX1_markOfPlain_23 ?_ ?_
    · refine aw_iconst (v := 1) iX1_markOfPlain_26 (by decide) ?_
      refine aw_goto iX1_markOfPlain_27 ?_
      refine aw_istore (L' := [some (.inr 58), some (.inr 7), some (.inl a1), some (.inl (0 : Int32)), some (.inl (1 : Int32)), none]) iX1_markOfPlain_31 (Nat.le_of_ble_eq_true rfl) rfl ?_
      refine aw_iload_n iX1_markOfPlain_33 rfl rfl ?_
      refine aw_if_eq_T iX1_markOfPlain_34 (by decide) ?_
      refine aw_iload iX1_markOfPlain_43 rfl ?_
      refine aw_if_eq_F iX1_markOfPlain_45 (by decide) ?_
      refine aw_aload_n iX1_markOfPlain_48 rfl rfl ?_
      refine aw_bipush (v := 22) iX1_markOfPlain_49 (by decide) ?_
      refine aw_callVv (M' := mX1_leave) (As := [.inl (22 : Int32)]) iX1_markOfPlain_51 lkX1_42 mcX1_leave mvX1_leave rfl zrc58 (kX1_leave (22 : Int32) g) rfl (Nat.le_of_ble_eq_true rfl) ⟨Nat.le_of_ble_eq_true rfl, Nat.le_of_ble_eq_true rfl⟩ (fun r22 g23 => ?_)
      refine aw_aload_n iX1_markOfPlain_54 rfl rfl ?_
      refine aw_bipush (v := 21) iX1_markOfPlain_55 (by decide) ?_
      refine aw_callVv (M' := mX1_leave) (As := [.inl (21 : Int32)]) iX1_markOfPlain_57 lkX1_42 mcX1_leave mvX1_leave rfl zrc58 (kX1_leave (21 : Int32) g23) rfl (Nat.le_of_ble_eq_true rfl) ⟨Nat.le_of_ble_eq_true rfl, Nat.le_of_ble_eq_true rfl⟩ (fun r24 g25 => ?_)
      refine aw_aload_n iX1_markOfPlain_60 rfl rfl ?_
      refine aw_iload_n iX1_markOfPlain_61 rfl rfl ?_
      refine aw_callV (M' := mX1_markOfAll) (As := [.inl a1]) iX1_markOfPlain_62 lkX1_58 mcX1_markOfAll mvX1_markOfAll rfl zrc58 (kX1_markOfAll a1 g25) rfl (Nat.le_of_ble_eq_true rfl) ⟨Nat.le_of_ble_eq_true rfl, Nat.le_of_ble_eq_true rfl⟩ (fun r26 g27 => ?_)
      refine aw_aload_n iX1_markOfPlain_65 rfl rfl ?_
      refine aw_getR (own := "") iX1_markOfPlain_66 flX1_61 zlt7 zsh7 rfl ?_
      refine aw_iload_n iX1_markOfPlain_69 rfl rfl ?_
      refine aw_iald iX1_markOfPlain_70 zlt10 zsh10 (fun v28 _ => ?_)
      refine aw_iadd iX1_markOfPlain_71 ?_
      refine aw_lt (fun x29 => ?_)
      refine aw_istore (L' := [some (.inr 58), some (.inr 7), some (.inl a1), some (.inl (0 : Int32)), some (.inl (1 : Int32)), some (.inl x29)]) iX1_markOfPlain_72 (Nat.le_of_ble_eq_true rfl) rfl ?_
      refine aw_iload_n iX1_markOfPlain_74 rfl rfl ?_
      refine aw_if_eq_T iX1_markOfPlain_75 (by decide) ?_
      refine aw_iload iX1_markOfPlain_85 rfl ?_
      refine aw_if_eq_F iX1_markOfPlain_87 (by decide) ?_
      refine aw_iload iX1_markOfPlain_90 rfl ?_
      refine aw_sipush (v := 1000) iX1_markOfPlain_92 (by decide) ?_
      refine aw_isub iX1_markOfPlain_95 ?_
      refine aw_goto iX1_markOfPlain_96 ?_
      exact aw_iret iX1_markOfPlain_101 rfl
    · refine aw_iconst (v := 0) iX1_markOfPlain_30 (by decide) ?_
      refine aw_istore (L' := [some (.inr 58), some (.inr 7), some (.inl a1), some (.inl (0 : Int32)), some (.inl (0 : Int32)), none]) iX1_markOfPlain_31 (Nat.le_of_ble_eq_true rfl) rfl ?_
      refine aw_iload_n iX1_markOfPlain_33 rfl rfl ?_
      refine aw_if_eq_T iX1_markOfPlain_34 (by decide) ?_
      refine aw_iload iX1_markOfPlain_43 rfl ?_
      refine aw_if_eq_T iX1_markOfPlain_45 (by decide) ?_
      refine aw_aload_n iX1_markOfPlain_54 rfl rfl ?_
      refine aw_bipush (v := 21) iX1_markOfPlain_55 (by decide) ?_
      refine aw_callVv (M' := mX1_leave) (As := [.inl (21 : Int32)]) iX1_markOfPlain_57 lkX1_42 mcX1_leave mvX1_leave rfl zrc58 (kX1_leave (21 : Int32) g) rfl (Nat.le_of_ble_eq_true rfl) ⟨Nat.le_of_ble_eq_true rfl, Nat.le_of_ble_eq_true rfl⟩ (fun r30 g31 => ?_)
      refine aw_aload_n iX1_markOfPlain_60 rfl rfl ?_
      refine aw_iload_n iX1_markOfPlain_61 rfl rfl ?_
      refine aw_callV (M' := mX1_markOfAll) (As := [.inl a1]) iX1_markOfPlain_62 lkX1_58 mcX1_markOfAll mvX1_markOfAll rfl zrc58 (kX1_markOfAll a1 g31) rfl (Nat.le_of_ble_eq_true rfl) ⟨Nat.le_of_ble_eq_true rfl, Nat.le_of_ble_eq_true rfl⟩ (fun r32 g33 => ?_)
      refine aw_aload_n iX1_markOfPlain_65 rfl rfl ?_
      refine aw_getR (own := "") iX1_markOfPlain_66 flX1_61 zlt7 zsh7 rfl ?_
      refine aw_iload_n iX1_markOfPlain_69 rfl rfl ?_
      refine aw_iald iX1_markOfPlain_70 zlt10 zsh10 (fun v34 _ => ?_)
      refine aw_iadd iX1_markOfPlain_71 ?_
      refine aw_lt (fun x35 => ?_)
      refine aw_istore (L' := [some (.inr 58), some (.inr 7), some (.inl a1), some (.inl (0 : Int32)), some (.inl (0 : Int32)), some (.inl x35)]) iX1_markOfPlain_72 (Nat.le_of_ble_eq_true rfl) rfl ?_
      refine aw_iload_n iX1_markOfPlain_74 rfl rfl ?_
      refine aw_if_eq_T iX1_markOfPlain_75 (by decide) ?_
      refine aw_iload iX1_markOfPlain_85 rfl ?_
      refine aw_if_eq_T iX1_markOfPlain_87 (by decide) ?_
      refine aw_iload iX1_markOfPlain_99 rfl ?_
      exact aw_iret iX1_markOfPlain_101 rfl
set_option maxRecDepth 20000 in
set_option maxHeartbeats 4000000 in
theorem kX1_markOfPlain (a1 : Int32) (g : Mem) : CT mX1_markOfPlain [.inr 58, .inr 7, .inl a1] g (fX1_markOfPlain a1 g) := CT.of (nr := 3) (by decide +kernel) (Nat.le_of_ble_eq_true rfl) (Or.inr (Or.inl rfl)) (wX1_markOfPlain a1 g)
set_option maxRecDepth 20000 in
set_option maxHeartbeats 4000000 in
theorem wX1_sizeOfPlain (a1 : Int32) (g : Mem) : aw mX1_sizeOfPlain none 0 [some (.inr 58), some (.inr 7), some (.inl a1), none, none, none] [] g (fX1_sizeOfPlain a1 g) := by
  unfold fX1_sizeOfPlain
  refine aw_aload_n iX1_sizeOfPlain_0 rfl rfl ?_
  refine aw_getR (own := "") iX1_sizeOfPlain_1 flX1_20 zlt7 zsh7 rfl ?_
  refine aw_iload_n iX1_sizeOfPlain_4 rfl rfl ?_
  refine aw_iald iX1_sizeOfPlain_5 zlt9 zsh9 (fun v1 _ => ?_)
  refine aw_iconst (v := 2) iX1_sizeOfPlain_6 (by decide) ?_
  refine aw_icmp_ne iX1_sizeOfPlain_7 ?_ ?_
  · refine aw_iconst (v := 1) iX1_sizeOfPlain_10 (by decide) ?_
    refine aw_goto iX1_sizeOfPlain_11 ?_
    refine aw_istore_n (L' := [some (.inr 58), some (.inr 7), some (.inl a1), some (.inl (1 : Int32)), none, none]) iX1_sizeOfPlain_15 rfl (Nat.le_of_ble_eq_true rfl) rfl ?_
    refine aw_iload_n iX1_sizeOfPlain_16 rfl rfl ?_
    refine aw_if_eq_F iX1_sizeOfPlain_17 (by decide) ?_
    refine aw_aload_n iX1_sizeOfPlain_20 rfl rfl ?_
    refine aw_bipush (v := 12) iX1_sizeOfPlain_21 (by decide) ?_
    refine aw_callVv (M' := mX1_leave) (As := [.inl (12 : Int32)]) iX1_sizeOfPlain_23 lkX1_42 mcX1_leave mvX1_leave rfl zrc58 (kX1_leave (12 : Int32) g) rfl (Nat.le_of_ble_eq_true rfl) ⟨Nat.le_of_ble_eq_true rfl, Nat.le_of_ble_eq_true rfl⟩ (fun r2 g3 => ?_)
    refine aw_aload_n iX1_sizeOfPlain_26 rfl rfl ?_
    refine aw_bipush (v := 11) iX1_sizeOfPlain_27 (by decide) ?_
    refine aw_callVv (M' := mX1_leave) (As := [.inl (11 : Int32)]) iX1_sizeOfPlain_29 lkX1_42 mcX1_leave mvX1_leave rfl zrc58 (kX1_leave (11 : Int32) g3) rfl (Nat.le_of_ble_eq_true rfl) ⟨Nat.le_of_ble_eq_true rfl, Nat.le_of_ble_eq_true rfl⟩ (fun r4 g5 => ?_)
    refine aw_aload_n iX1_sizeOfPlain_32 rfl rfl ?_
    refine aw_aload_n iX1_sizeOfPlain_33 rfl rfl ?_
    refine aw_iload_n iX1_sizeOfPlain_34 rfl rfl ?_
    refine aw_callV (M' := mX1_sizeOfAll) (As := [.inr 7, .inl a1]) iX1_sizeOfPlain_35 lkX1_55 mcX1_sizeOfAll mvX1_sizeOfAll rfl zrc58 (kX1_sizeOfAll a1 g5) rfl (Nat.le_of_ble_eq_true rfl) ⟨Nat.le_of_ble_eq_true rfl, Nat.le_of_ble_eq_true rfl⟩ (fun r6 g7 => ?_)
    refine aw_istore (L' := [some (.inr 58), some (.inr 7), some (.inl a1), some (.inl (1 : Int32)), some (.inl r6), none]) iX1_sizeOfPlain_38 (Nat.le_of_ble_eq_true rfl) rfl ?_
    refine aw_iload iX1_sizeOfPlain_40 rfl ?_
    refine aw_aload_n iX1_sizeOfPlain_42 rfl rfl ?_
    refine aw_aload_n iX1_sizeOfPlain_43 rfl rfl ?_
    refine aw_iload_n iX1_sizeOfPlain_44 rfl rfl ?_
    refine aw_callV (M' := mX1_markOfPlain) (As := [.inr 7, .inl a1]) iX1_sizeOfPlain_45 lkX1_36 mcX1_markOfPlain mvX1_markOfPlain rfl zrc58 (kX1_markOfPlain a1 g7) rfl (Nat.le_of_ble_eq_true rfl) ⟨Nat.le_of_ble_eq_true rfl, Nat.le_of_ble_eq_true rfl⟩ (fun r8 g9 => ?_)
    refine aw_iadd iX1_sizeOfPlain_48 ?_
    refine aw_lt (fun x10 => ?_)
    refine aw_istore (L' := [some (.inr 58), some (.inr 7), some (.inl a1), some (.inl (1 : Int32)), some (.inl r6), some (.inl x10)]) iX1_sizeOfPlain_49 (Nat.le_of_ble_eq_true rfl) rfl ?_
    refine aw_iload_n iX1_sizeOfPlain_51 rfl rfl ?_
    refine aw_if_eq_F iX1_sizeOfPlain_52 (by decide) ?_
    refine aw_iload iX1_sizeOfPlain_55 rfl ?_
    refine aw_ineg iX1_sizeOfPlain_57 ?_
    refine aw_goto iX1_sizeOfPlain_58 ?_
    exact aw_iret iX1_sizeOfPlain_63 rfl
  · refine aw_iconst (v := 0) iX1_sizeOfPlain_14 (by decide) ?_
    refine aw_istore_n (L' := [some (.inr 58), some (.inr 7), some (.inl a1), some (.inl (0 : Int32)), none, none]) iX1_sizeOfPlain_15 rfl (Nat.le_of_ble_eq_true rfl) rfl ?_
    refine aw_iload_n iX1_sizeOfPlain_16 rfl rfl ?_
    refine aw_if_eq_T iX1_sizeOfPlain_17 (by decide) ?_
    refine aw_aload_n iX1_sizeOfPlain_26 rfl rfl ?_
    refine aw_bipush (v := 11) iX1_sizeOfPlain_27 (by decide) ?_
    refine aw_callVv (M' := mX1_leave) (As := [.inl (11 : Int32)]) iX1_sizeOfPlain_29 lkX1_42 mcX1_leave mvX1_leave rfl zrc58 (kX1_leave (11 : Int32) g) rfl (Nat.le_of_ble_eq_true rfl) ⟨Nat.le_of_ble_eq_true rfl, Nat.le_of_ble_eq_true rfl⟩ (fun r11 g12 => ?_)
    refine aw_aload_n iX1_sizeOfPlain_32 rfl rfl ?_
    refine aw_aload_n iX1_sizeOfPlain_33 rfl rfl ?_
    refine aw_iload_n iX1_sizeOfPlain_34 rfl rfl ?_
    refine aw_callV (M' := mX1_sizeOfAll) (As := [.inr 7, .inl a1]) iX1_sizeOfPlain_35 lkX1_55 mcX1_sizeOfAll mvX1_sizeOfAll rfl zrc58 (kX1_sizeOfAll a1 g12) rfl (Nat.le_of_ble_eq_true rfl) ⟨Nat.le_of_ble_eq_true rfl, Nat.le_of_ble_eq_true rfl⟩ (fun r13 g14 => ?_)
    refine aw_istore (L' := [some (.inr 58), some (.inr 7), some (.inl a1), some (.inl (0 : Int32)), some (.inl r13), none]) iX1_sizeOfPlain_38 (Nat.le_of_ble_eq_true rfl) rfl ?_
    refine aw_iload iX1_sizeOfPlain_40 rfl ?_
    refine aw_aload_n iX1_sizeOfPlain_42 rfl rfl ?_
    refine aw_aload_n iX1_sizeOfPlain_43 rfl rfl ?_
    refine aw_iload_n iX1_sizeOfPlain_44 rfl rfl ?_
    refine aw_callV (M' := mX1_markOfPlain) (As := [.inr 7, .inl a1]) iX1_sizeOfPlain_45 lkX1_36 mcX1_markOfPlain mvX1_markOfPlain rfl zrc58 (kX1_markOfPlain a1 g14) rfl (Nat.le_of_ble_eq_true rfl) ⟨Nat.le_of_ble_eq_true rfl, Nat.le_of_ble_eq_true rfl⟩ (fun r15 g16 => ?_)
    refine aw_iadd iX1_sizeOfPlain_48 ?_
    refine aw_lt (fun x17 => ?_)
    refine aw_istore (L' := [some (.inr 58), some (.inr 7), some (.inl a1), some (.inl (0 : Int32)), some (.inl r13), some (.inl x17)]) iX1_sizeOfPlain_49 (Nat.le_of_ble_eq_true rfl) rfl ?_
    refine aw_iload_n iX1_sizeOfPlain_51 rfl rfl ?_
    refine aw_if_eq_T iX1_sizeOfPlain_52 (by decide) ?_
    refine aw_iload iX1_sizeOfPlain_61 rfl ?_
    exact aw_iret iX1_sizeOfPlain_63 rfl
set_option maxRecDepth 20000 in
set_option maxHeartbeats 4000000 in
theorem kX1_sizeOfPlain (a1 : Int32) (g : Mem) : CT mX1_sizeOfPlain [.inr 58, .inr 7, .inl a1] g (fX1_sizeOfPlain a1 g) := CT.of (nr := 3) (by decide +kernel) (Nat.le_of_ble_eq_true rfl) (Or.inr (Or.inl rfl)) (wX1_sizeOfPlain a1 g)
set_option maxRecDepth 20000 in
set_option maxHeartbeats 4000000 in
theorem wX1_sizeOfLying (a1 : Int32) (g : Mem) : aw mX1_sizeOfLying none 0 [some (.inr 58), some (.inr 7), some (.inl a1), none, none] [] g (fX1_sizeOfLying a1 g) := by
  unfold fX1_sizeOfLying
  refine aw_aload_n iX1_sizeOfLying_0 rfl rfl ?_
  refine aw_getR (own := "") iX1_sizeOfLying_1 flX1_20 zlt7 zsh7 rfl ?_
  refine aw_iload_n iX1_sizeOfLying_4 rfl rfl ?_
  refine aw_iald iX1_sizeOfLying_5 zlt9 zsh9 (fun v1 _ => ?_)
  refine aw_iconst (v := 5) iX1_sizeOfLying_6 (by decide) ?_
  refine aw_icmp_ne iX1_sizeOfLying_7 ?_ ?_
  · refine aw_iconst (v := 1) iX1_sizeOfLying_10 (by decide) ?_
    refine aw_goto iX1_sizeOfLying_11 ?_
    refine aw_istore_n (L' := [some (.inr 58), some (.inr 7), some (.inl a1), some (.inl (1 : Int32)), none]) iX1_sizeOfLying_15 rfl (Nat.le_of_ble_eq_true rfl) rfl ?_
    refine aw_iload_n iX1_sizeOfLying_16 rfl rfl ?_
    refine aw_if_eq_F iX1_sizeOfLying_17 (by decide) ?_
    refine aw_aload_n iX1_sizeOfLying_20 rfl rfl ?_
    refine aw_bipush (v := 14) iX1_sizeOfLying_21 (by decide) ?_
    refine aw_callVv (M' := mX1_leave) (As := [.inl (14 : Int32)]) iX1_sizeOfLying_23 lkX1_42 mcX1_leave mvX1_leave rfl zrc58 (kX1_leave (14 : Int32) g) rfl (Nat.le_of_ble_eq_true rfl) ⟨Nat.le_of_ble_eq_true rfl, Nat.le_of_ble_eq_true rfl⟩ (fun r2 g3 => ?_)
    refine aw_aload_n iX1_sizeOfLying_26 rfl rfl ?_
    refine aw_bipush (v := 13) iX1_sizeOfLying_27 (by decide) ?_
    refine aw_callVv (M' := mX1_leave) (As := [.inl (13 : Int32)]) iX1_sizeOfLying_29 lkX1_42 mcX1_leave mvX1_leave rfl zrc58 (kX1_leave (13 : Int32) g3) rfl (Nat.le_of_ble_eq_true rfl) ⟨Nat.le_of_ble_eq_true rfl, Nat.le_of_ble_eq_true rfl⟩ (fun r4 g5 => ?_)
    refine aw_aload_n iX1_sizeOfLying_32 rfl rfl ?_
    refine aw_aload_n iX1_sizeOfLying_33 rfl rfl ?_
    refine aw_iload_n iX1_sizeOfLying_34 rfl rfl ?_
    refine aw_callV (M' := mX1_sizeOfAll) (As := [.inr 7, .inl a1]) iX1_sizeOfLying_35 lkX1_55 mcX1_sizeOfAll mvX1_sizeOfAll rfl zrc58 (kX1_sizeOfAll a1 g5) rfl (Nat.le_of_ble_eq_true rfl) ⟨Nat.le_of_ble_eq_true rfl, Nat.le_of_ble_eq_true rfl⟩ (fun r6 g7 => ?_)
    refine aw_bipush (v := 100) iX1_sizeOfLying_38 (by decide) ?_
    refine aw_isub iX1_sizeOfLying_40 ?_
    refine aw_lt (fun x8 => ?_)
    refine aw_istore (L' := [some (.inr 58), some (.inr 7), some (.inl a1), some (.inl (1 : Int32)), some (.inl x8)]) iX1_sizeOfLying_41 (Nat.le_of_ble_eq_true rfl) rfl ?_
    refine aw_iload_n iX1_sizeOfLying_43 rfl rfl ?_
    refine aw_if_eq_F iX1_sizeOfLying_44 (by decide) ?_
    refine aw_iconst (v := 2) iX1_sizeOfLying_47 (by decide) ?_
    refine aw_iload iX1_sizeOfLying_48 rfl ?_
    refine aw_imul iX1_sizeOfLying_50 ?_
    refine aw_goto iX1_sizeOfLying_51 ?_
    exact aw_iret iX1_sizeOfLying_56 rfl
  · refine aw_iconst (v := 0) iX1_sizeOfLying_14 (by decide) ?_
    refine aw_istore_n (L' := [some (.inr 58), some (.inr 7), some (.inl a1), some (.inl (0 : Int32)), none]) iX1_sizeOfLying_15 rfl (Nat.le_of_ble_eq_true rfl) rfl ?_
    refine aw_iload_n iX1_sizeOfLying_16 rfl rfl ?_
    refine aw_if_eq_T iX1_sizeOfLying_17 (by decide) ?_
    refine aw_aload_n iX1_sizeOfLying_26 rfl rfl ?_
    refine aw_bipush (v := 13) iX1_sizeOfLying_27 (by decide) ?_
    refine aw_callVv (M' := mX1_leave) (As := [.inl (13 : Int32)]) iX1_sizeOfLying_29 lkX1_42 mcX1_leave mvX1_leave rfl zrc58 (kX1_leave (13 : Int32) g) rfl (Nat.le_of_ble_eq_true rfl) ⟨Nat.le_of_ble_eq_true rfl, Nat.le_of_ble_eq_true rfl⟩ (fun r9 g10 => ?_)
    refine aw_aload_n iX1_sizeOfLying_32 rfl rfl ?_
    refine aw_aload_n iX1_sizeOfLying_33 rfl rfl ?_
    refine aw_iload_n iX1_sizeOfLying_34 rfl rfl ?_
    refine aw_callV (M' := mX1_sizeOfAll) (As := [.inr 7, .inl a1]) iX1_sizeOfLying_35 lkX1_55 mcX1_sizeOfAll mvX1_sizeOfAll rfl zrc58 (kX1_sizeOfAll a1 g10) rfl (Nat.le_of_ble_eq_true rfl) ⟨Nat.le_of_ble_eq_true rfl, Nat.le_of_ble_eq_true rfl⟩ (fun r11 g12 => ?_)
    refine aw_bipush (v := 100) iX1_sizeOfLying_38 (by decide) ?_
    refine aw_isub iX1_sizeOfLying_40 ?_
    refine aw_lt (fun x13 => ?_)
    refine aw_istore (L' := [some (.inr 58), some (.inr 7), some (.inl a1), some (.inl (0 : Int32)), some (.inl x13)]) iX1_sizeOfLying_41 (Nat.le_of_ble_eq_true rfl) rfl ?_
    refine aw_iload_n iX1_sizeOfLying_43 rfl rfl ?_
    refine aw_if_eq_T iX1_sizeOfLying_44 (by decide) ?_
    refine aw_iload iX1_sizeOfLying_54 rfl ?_
    exact aw_iret iX1_sizeOfLying_56 rfl
set_option maxRecDepth 20000 in
set_option maxHeartbeats 4000000 in
theorem kX1_sizeOfLying (a1 : Int32) (g : Mem) : CT mX1_sizeOfLying [.inr 58, .inr 7, .inl a1] g (fX1_sizeOfLying a1 g) := CT.of (nr := 2) (by decide +kernel) (Nat.le_of_ble_eq_true rfl) (Or.inr (Or.inl rfl)) (wX1_sizeOfLying a1 g)
set_option maxRecDepth 20000 in
set_option maxHeartbeats 4000000 in
theorem wX1_markOfLying (a1 : Int32) (g : Mem) : aw mX1_markOfLying none 0 [some (.inr 58), some (.inr 7), some (.inl a1), none] [] g (fX1_markOfLying a1 g) := by
  unfold fX1_markOfLying
  refine aw_aload_n iX1_markOfLying_0 rfl rfl ?_
  refine aw_bipush (v := 23) iX1_markOfLying_1 (by decide) ?_
  refine aw_callVv (M' := mX1_leave) (As := [.inl (23 : Int32)]) iX1_markOfLying_3 lkX1_42 mcX1_leave mvX1_leave rfl zrc58 (kX1_leave (23 : Int32) g) rfl (Nat.le_of_ble_eq_true rfl) ⟨Nat.le_of_ble_eq_true rfl, Nat.le_of_ble_eq_true rfl⟩ (fun r1 g2 => ?_)
  refine aw_aload_n iX1_markOfLying_6 rfl rfl ?_
  refine aw_iload_n iX1_markOfLying_7 rfl rfl ?_
  refine aw_callV (M' := mX1_markOfAll) (As := [.inl a1]) iX1_markOfLying_8 lkX1_58 mcX1_markOfAll mvX1_markOfAll rfl zrc58 (kX1_markOfAll a1 g2) rfl (Nat.le_of_ble_eq_true rfl) ⟨Nat.le_of_ble_eq_true rfl, Nat.le_of_ble_eq_true rfl⟩ (fun r3 g4 => ?_)
  refine aw_istore_n (L' := [some (.inr 58), some (.inr 7), some (.inl a1), some (.inl r3)]) iX1_markOfLying_11 rfl (Nat.le_of_ble_eq_true rfl) rfl ?_
  refine aw_iload_n iX1_markOfLying_12 rfl rfl ?_
  refine aw_aload_n iX1_markOfLying_13 rfl rfl ?_
  refine aw_aload_n iX1_markOfLying_14 rfl rfl ?_
  refine aw_iload_n iX1_markOfLying_15 rfl rfl ?_
  refine aw_callV (M' := mX1_sizeOfLying) (As := [.inr 7, .inl a1]) iX1_markOfLying_16 lkX1_33 mcX1_sizeOfLying mvX1_sizeOfLying rfl zrc58 (kX1_sizeOfLying a1 g4) rfl (Nat.le_of_ble_eq_true rfl) ⟨Nat.le_of_ble_eq_true rfl, Nat.le_of_ble_eq_true rfl⟩ (fun r5 g6 => ?_)
  refine aw_isub iX1_markOfLying_19 ?_
  exact aw_iret iX1_markOfLying_20 rfl
set_option maxRecDepth 20000 in
set_option maxHeartbeats 4000000 in
theorem kX1_markOfLying (a1 : Int32) (g : Mem) : CT mX1_markOfLying [.inr 58, .inr 7, .inl a1] g (fX1_markOfLying a1 g) := CT.of (nr := 1) (by decide +kernel) (Nat.le_of_ble_eq_true rfl) (Or.inr (Or.inl rfl)) (wX1_markOfLying a1 g)
set_option maxRecDepth 20000 in
set_option maxHeartbeats 4000000 in
theorem wX1_begin (a1 : Int32) (a2 : Int32) (g : Mem) : aw mX1_begin none 0 [some (.inr 58), some (.inr 7), some (.inl a1), some (.inl a2), none] [] g (fX1_begin a1 a2 g) := by
  unfold fX1_begin
  refine aw_aload_n iX1_begin_0 rfl rfl ?_
  refine aw_iconst (v := 0) iX1_begin_1 (by decide) ?_
  refine aw_putI iX1_begin_2 fpX1_15 zlt58 zsh58 rfl (fun g1 _ => ?_)
  refine aw_aload_n iX1_begin_5 rfl rfl ?_
  refine aw_getR (own := "") iX1_begin_6 flX1_20 zlt7 zsh7 rfl ?_
  refine aw_iload_n iX1_begin_9 rfl rfl ?_
  refine aw_iald iX1_begin_10 zlt9 zsh9 (fun v2 _ => ?_)
  refine aw_iconst (v := 1) iX1_begin_11 (by decide) ?_
  refine aw_callS (M' := mX2_isOfKind) (As := [.inl v2, .inl (1 : Int32)]) iX1_begin_12 lkX1_25 mcX2_isOfKind msX2_isOfKind rfl (kX2_isOfKind v2 (1 : Int32) g1) rfl (Nat.le_of_ble_eq_true rfl) ⟨Nat.le_of_ble_eq_true rfl, Nat.le_of_ble_eq_true rfl⟩ (fun r3 g4 => ?_)
  refine aw_istore (L' := [some (.inr 58), some (.inr 7), some (.inl a1), some (.inl a2), some (.inl r3)]) iX1_begin_15 (Nat.le_of_ble_eq_true rfl) rfl ?_
  refine aw_iload_n iX1_begin_17 rfl rfl ?_
  refine aw_if_ne iX1_begin_18 ?_ ?_
  · refine aw_iload iX1_begin_21 rfl ?_
    refine aw_if_eq iX1_begin_23 ?_ ?_
    · refine aw_aload_n iX1_begin_35 rfl rfl ?_
      refine aw_aload_n iX1_begin_36 rfl rfl ?_
      refine aw_iload_n iX1_begin_37 rfl rfl ?_
      refine aw_callV (M' := mX1_sizeOfLying) (As := [.inr 7, .inl a1]) iX1_begin_38 lkX1_33 mcX1_sizeOfLying mvX1_sizeOfLying rfl zrc58 (kX1_sizeOfLying a1 g4) rfl (Nat.le_of_ble_eq_true rfl) ⟨Nat.le_of_ble_eq_true rfl, Nat.le_of_ble_eq_true rfl⟩ (fun r5 g6 => ?_)
      exact aw_iret iX1_begin_41 rfl
    · refine aw_aload_n iX1_begin_26 rfl rfl ?_
      refine aw_aload_n iX1_begin_27 rfl rfl ?_
      refine aw_iload_n iX1_begin_28 rfl rfl ?_
      refine aw_callV (M' := mX1_sizeOfPlain) (As := [.inr 7, .inl a1]) iX1_begin_29 lkX1_29 mcX1_sizeOfPlain mvX1_sizeOfPlain rfl zrc58 (kX1_sizeOfPlain a1 g4) rfl (Nat.le_of_ble_eq_true rfl) ⟨Nat.le_of_ble_eq_true rfl, Nat.le_of_ble_eq_true rfl⟩ (fun r7 g8 => ?_)
      refine aw_goto iX1_begin_32 ?_
      exact aw_iret iX1_begin_41 rfl
  · refine aw_iload iX1_begin_42 rfl ?_
    refine aw_if_eq iX1_begin_44 ?_ ?_
    · refine aw_aload_n iX1_begin_56 rfl rfl ?_
      refine aw_aload_n iX1_begin_57 rfl rfl ?_
      refine aw_iload_n iX1_begin_58 rfl rfl ?_
      refine aw_callV (M' := mX1_markOfLying) (As := [.inr 7, .inl a1]) iX1_begin_59 lkX1_39 mcX1_markOfLying mvX1_markOfLying rfl zrc58 (kX1_markOfLying a1 g4) rfl (Nat.le_of_ble_eq_true rfl) ⟨Nat.le_of_ble_eq_true rfl, Nat.le_of_ble_eq_true rfl⟩ (fun r9 g10 => ?_)
      exact aw_iret iX1_begin_62 rfl
    · refine aw_aload_n iX1_begin_47 rfl rfl ?_
      refine aw_aload_n iX1_begin_48 rfl rfl ?_
      refine aw_iload_n iX1_begin_49 rfl rfl ?_
      refine aw_callV (M' := mX1_markOfPlain) (As := [.inr 7, .inl a1]) iX1_begin_50 lkX1_36 mcX1_markOfPlain mvX1_markOfPlain rfl zrc58 (kX1_markOfPlain a1 g4) rfl (Nat.le_of_ble_eq_true rfl) ⟨Nat.le_of_ble_eq_true rfl, Nat.le_of_ble_eq_true rfl⟩ (fun r11 g12 => ?_)
      refine aw_goto iX1_begin_53 ?_
      exact aw_iret iX1_begin_62 rfl
set_option maxRecDepth 20000 in
set_option maxHeartbeats 4000000 in
theorem kX1_begin (a1 : Int32) (a2 : Int32) (g : Mem) : CT mX1_begin [.inr 58, .inr 7, .inl a1, .inl a2] g (fX1_begin a1 a2 g) := CT.of (nr := 1) (by decide +kernel) (Nat.le_of_ble_eq_true rfl) (Or.inr (Or.inl rfl)) (wX1_begin a1 a2 g)
set_option maxRecDepth 20000 in
set_option maxHeartbeats 4000000 in
theorem wX2_sortOf (a0 : Int32) (g : Mem) : aw mX2_sortOf none 0 [some (.inl a0)] [] g (fX2_sortOf a0 g) := by
  unfold fX2_sortOf
  refine aw_iload_n iX2_sortOf_0 rfl rfl ?_
  refine aw_if (fun c1 => ?_) (fun c1 => ?_)
  · refine aw_lsw (off := 53) (tgt := 54) iX2_sortOf_1 (by decide) (by rw [c1]; decide) (by decide) ?_
    refine aw_iconst (v := 2) iX2_sortOf_54 (by decide) ?_
    exact aw_iret iX2_sortOf_55 rfl
  refine aw_if (fun c2 => ?_) (fun c2 => ?_)
  · refine aw_lsw (off := 55) (tgt := 56) iX2_sortOf_1 (by decide) (by rw [c2]; decide) (by decide) ?_
    refine aw_iconst (v := 3) iX2_sortOf_56 (by decide) ?_
    exact aw_iret iX2_sortOf_57 rfl
  refine aw_if (fun c3 => ?_) (fun c3 => ?_)
  · refine aw_lsw (off := 57) (tgt := 58) iX2_sortOf_1 (by decide) (by rw [c3]; decide) (by decide) ?_
    refine aw_iconst (v := 4) iX2_sortOf_58 (by decide) ?_
    exact aw_iret iX2_sortOf_59 rfl
  refine aw_if (fun c4 => ?_) (fun c4 => ?_)
  · refine aw_lsw (off := 51) (tgt := 52) iX2_sortOf_1 (by decide) (by rw [c4]; decide) (by decide) ?_
    refine aw_iconst (v := 1) iX2_sortOf_52 (by decide) ?_
    exact aw_iret iX2_sortOf_53 rfl
  refine aw_if (fun c5 => ?_) (fun c5 => ?_)
  · refine aw_lsw (off := 59) (tgt := 60) iX2_sortOf_1 (by decide) (by rw [c5]; decide) (by decide) ?_
    refine aw_iconst (v := 5) iX2_sortOf_60 (by decide) ?_
    exact aw_iret iX2_sortOf_61 rfl
  refine aw_lsw (off := 61) (tgt := 62) iX2_sortOf_1 (by decide) (by show Op.lookupswitch.offset [(100, 53), (103, 55), (108, 57), (112, 51), (117, 59)] _ _ = _; rw [lv_osw c1 (k := 100) (by decide), lv_osw c2 (k := 103) (by decide), lv_osw c3 (k := 108) (by decide), lv_osw c4 (k := 112) (by decide), lv_osw c5 (k := 117) (by decide)]; rfl) (by decide) ?_
  refine aw_iconst (v := 0) iX2_sortOf_62 (by decide) ?_
  exact aw_iret iX2_sortOf_63 rfl
set_option maxRecDepth 20000 in
set_option maxHeartbeats 4000000 in
theorem kX2_sortOf (a0 : Int32) (g : Mem) : CT mX2_sortOf [.inl a0] g (fX2_sortOf a0 g) := CT.of (nr := 0) (by decide +kernel) (Nat.le_of_ble_eq_true rfl) (Or.inr (Or.inl rfl)) (wX2_sortOf a0 g)
set_option maxRecDepth 20000 in
set_option maxHeartbeats 4000000 in
theorem wX2_isSort (a0 : Int32) (g : Mem) : aw mX2_isSort none 0 [some (.inl a0)] [] g (fX2_isSort a0 g) := by
  unfold fX2_isSort
  refine aw_iload_n iX2_isSort_0 rfl rfl ?_
  refine aw_if_le iX2_isSort_1 ?_ ?_
  · refine aw_iconst (v := 0) iX2_isSort_14 (by decide) ?_
    exact aw_zretK iX2_isSort_15 rfl (Or.inl rfl)
  · refine aw_iload_n iX2_isSort_4 rfl rfl ?_
    refine aw_bipush (v := 6) iX2_isSort_5 (by decide) ?_
    refine aw_icmp_ge iX2_isSort_7 ?_ ?_
    · refine aw_iconst (v := 0) iX2_isSort_14 (by decide) ?_
      exact aw_zretK iX2_isSort_15 rfl (Or.inl rfl)
    · refine aw_iconst (v := 1) iX2_isSort_10 (by decide) ?_
      refine aw_goto iX2_isSort_11 ?_
      exact aw_zretK iX2_isSort_15 rfl (Or.inr rfl)
set_option maxRecDepth 20000 in
set_option maxHeartbeats 4000000 in
theorem kX2_isSort (a0 : Int32) (g : Mem) : CT mX2_isSort [.inl a0] g (fX2_isSort a0 g) := CT.of (nr := 0) (by decide +kernel) (Nat.le_of_ble_eq_true rfl) (Or.inr (Or.inr rfl)) (wX2_isSort a0 g)
set_option maxRecDepth 20000 in
set_option maxHeartbeats 4000000 in
theorem wX2_fits (a0 : Int32) (a1 : Int32) (a2 : Int32) (a3 : Int32) (g : Mem) : aw mX2_fits none 0 [some (.inl a0), some (.inl a1), some (.inl a2), some (.inl a3), none, none] [] g (fX2_fits a0 a1 a2 a3 g) := by
  unfold fX2_fits
  refine aw_iload_n iX2_fits_0 rfl rfl ?_
  refine aw_iload_n iX2_fits_1 rfl rfl ?_
  refine aw_iand iX2_fits_2 ?_
  refine aw_if_ne iX2_fits_3 ?_ ?_
  · refine aw_iconst (v := 1) iX2_fits_6 (by decide) ?_
    refine aw_goto iX2_fits_7 ?_
    refine aw_istore (L' := [some (.inl a0), some (.inl a1), some (.inl a2), some (.inl a3), some (.inl (1 : Int32)), none]) iX2_fits_11 (Nat.le_of_ble_eq_true rfl) rfl ?_
    refine aw_iload_n iX2_fits_13 rfl rfl ?_
    refine aw_iload_n iX2_fits_14 rfl rfl ?_
    refine aw_iand iX2_fits_15 ?_
    refine aw_iload_n iX2_fits_16 rfl rfl ?_
    refine aw_icmp_ne iX2_fits_17 ?_ ?_
    · refine aw_iload iX2_fits_20 rfl ?_
      refine aw_if_eq_F iX2_fits_22 (by decide) ?_
      refine aw_iconst (v := 1) iX2_fits_25 (by decide) ?_
      refine aw_goto iX2_fits_26 ?_
      refine aw_istore (L' := [some (.inl a0), some (.inl a1), some (.inl a2), some (.inl a3), some (.inl (1 : Int32)), some (.inl (1 : Int32))]) iX2_fits_30 (Nat.le_of_ble_eq_true rfl) rfl ?_
      refine aw_iload_n iX2_fits_32 rfl rfl ?_
      refine aw_if (fun c1 => ?_) (fun c1 => ?_)
      · refine aw_tsw tX2_fits_33_2 c1 ?_
        refine aw_iload iX2_fits_64 rfl ?_
        refine aw_if_ne_T iX2_fits_66 (by decide) ?_
        refine aw_iconst (v := 1) iX2_fits_82 (by decide) ?_
        refine aw_goto iX2_fits_83 ?_
        exact aw_zretK iX2_fits_87 rfl (Or.inr rfl)
      refine aw_if (fun c2 => ?_) (fun c2 => ?_)
      · refine aw_tsw tX2_fits_33_3 c2 ?_
        refine aw_iload_n iX2_fits_88 rfl rfl ?_
        refine aw_iload_n iX2_fits_89 rfl rfl ?_
        refine aw_iconst (v := (-1)) iX2_fits_90 (by decide) ?_
        refine aw_ixor iX2_fits_91 ?_
        refine aw_iand iX2_fits_92 ?_
        refine aw_callS (M' := mJ6_bitCount_0f7a4) (As := [.inl (a1 &&& (a3 ^^^ (-1 : Int32)))]) iX2_fits_93 lkX2_39 mcJ6_bitCount_0f7a4 msJ6_bitCount_0f7a4 rfl (kJ6_bitCount_0f7a4 (a1 &&& (a3 ^^^ (-1 : Int32))) g) rfl (Nat.le_of_ble_eq_true rfl) ⟨Nat.le_of_ble_eq_true rfl, Nat.le_of_ble_eq_true rfl⟩ (fun r3 g4 => ?_)
        refine aw_iconst (v := 1) iX2_fits_96 (by decide) ?_
        refine aw_icmp_gt iX2_fits_97 ?_ ?_
        · refine aw_iconst (v := 0) iX2_fits_109 (by decide) ?_
          exact aw_zretK iX2_fits_110 rfl (Or.inl rfl)
        · refine aw_iload iX2_fits_100 rfl ?_
          refine aw_if_eq_F iX2_fits_102 (by decide) ?_
          refine aw_iconst (v := 1) iX2_fits_105 (by decide) ?_
          refine aw_goto iX2_fits_106 ?_
          exact aw_zretK iX2_fits_110 rfl (Or.inr rfl)
      refine aw_if (fun c5 => ?_) (fun c5 => ?_)
      · refine aw_tsw tX2_fits_33_4 c5 ?_
        refine aw_iload iX2_fits_111 rfl ?_
        refine aw_if_ne_T iX2_fits_113 (by decide) ?_
        refine aw_iconst (v := 0) iX2_fits_120 (by decide) ?_
        exact aw_zretK iX2_fits_121 rfl (Or.inl rfl)
      refine aw_if (fun c6 => ?_) (fun c6 => ?_)
      · refine aw_tsw tX2_fits_33_5 c6 ?_
        refine aw_iload iX2_fits_122 rfl ?_
        refine aw_if_ne_T iX2_fits_124 (by decide) ?_
        refine aw_iconst (v := 0) iX2_fits_136 (by decide) ?_
        exact aw_zretK iX2_fits_137 rfl (Or.inl rfl)
      refine aw_tsd tX2_fits_33_d (by have ec1 := ne_toInt c1 (a := 2) (by decide); have ec2 := ne_toInt c2 (a := 3) (by decide); have ec5 := ne_toInt c5 (a := 4) (by decide); have ec6 := ne_toInt c6 (a := 5) (by decide); omega) ?_
      refine aw_iload iX2_fits_138 rfl ?_
      exact aw_zretK iX2_fits_140 rfl (Or.inr rfl)
    · refine aw_iconst (v := 0) iX2_fits_29 (by decide) ?_
      refine aw_istore (L' := [some (.inl a0), some (.inl a1), some (.inl a2), some (.inl a3), some (.inl (1 : Int32)), some (.inl (0 : Int32))]) iX2_fits_30 (Nat.le_of_ble_eq_true rfl) rfl ?_
      refine aw_iload_n iX2_fits_32 rfl rfl ?_
      refine aw_if (fun c7 => ?_) (fun c7 => ?_)
      · refine aw_tsw tX2_fits_33_2 c7 ?_
        refine aw_iload iX2_fits_64 rfl ?_
        refine aw_if_ne_F iX2_fits_66 (by decide) ?_
        refine aw_iload_n iX2_fits_69 rfl rfl ?_
        refine aw_iload_n iX2_fits_70 rfl rfl ?_
        refine aw_iand iX2_fits_71 ?_
        refine aw_iload_n iX2_fits_72 rfl rfl ?_
        refine aw_icmp_ne iX2_fits_73 ?_ ?_
        · refine aw_iload_n iX2_fits_76 rfl rfl ?_
          refine aw_iload_n iX2_fits_77 rfl rfl ?_
          refine aw_iand iX2_fits_78 ?_
          refine aw_if_ne iX2_fits_79 ?_ ?_
          · refine aw_iconst (v := 1) iX2_fits_82 (by decide) ?_
            refine aw_goto iX2_fits_83 ?_
            exact aw_zretK iX2_fits_87 rfl (Or.inr rfl)
          · refine aw_iconst (v := 0) iX2_fits_86 (by decide) ?_
            exact aw_zretK iX2_fits_87 rfl (Or.inl rfl)
        · refine aw_iconst (v := 0) iX2_fits_86 (by decide) ?_
          exact aw_zretK iX2_fits_87 rfl (Or.inl rfl)
      refine aw_if (fun c8 => ?_) (fun c8 => ?_)
      · refine aw_tsw tX2_fits_33_3 c8 ?_
        refine aw_iload_n iX2_fits_88 rfl rfl ?_
        refine aw_iload_n iX2_fits_89 rfl rfl ?_
        refine aw_iconst (v := (-1)) iX2_fits_90 (by decide) ?_
        refine aw_ixor iX2_fits_91 ?_
        refine aw_iand iX2_fits_92 ?_
        refine aw_callS (M' := mJ6_bitCount_0f7a4) (As := [.inl (a1 &&& (a3 ^^^ (-1 : Int32)))]) iX2_fits_93 lkX2_39 mcJ6_bitCount_0f7a4 msJ6_bitCount_0f7a4 rfl (kJ6_bitCount_0f7a4 (a1 &&& (a3 ^^^ (-1 : Int32))) g) rfl (Nat.le_of_ble_eq_true rfl) ⟨Nat.le_of_ble_eq_true rfl, Nat.le_of_ble_eq_true rfl⟩ (fun r9 g10 => ?_)
        refine aw_iconst (v := 1) iX2_fits_96 (by decide) ?_
        refine aw_icmp_gt iX2_fits_97 ?_ ?_
        · refine aw_iconst (v := 0) iX2_fits_109 (by decide) ?_
          exact aw_zretK iX2_fits_110 rfl (Or.inl rfl)
        · refine aw_iload iX2_fits_100 rfl ?_
          refine aw_if_eq_F iX2_fits_102 (by decide) ?_
          refine aw_iconst (v := 1) iX2_fits_105 (by decide) ?_
          refine aw_goto iX2_fits_106 ?_
          exact aw_zretK iX2_fits_110 rfl (Or.inr rfl)
      refine aw_if (fun c11 => ?_) (fun c11 => ?_)
      · refine aw_tsw tX2_fits_33_4 c11 ?_
        refine aw_iload iX2_fits_111 rfl ?_
        refine aw_if_ne_F iX2_fits_113 (by decide) ?_
        refine aw_iconst (v := 1) iX2_fits_116 (by decide) ?_
        refine aw_goto iX2_fits_117 ?_
        exact aw_zretK iX2_fits_121 rfl (Or.inr rfl)
      refine aw_if (fun c12 => ?_) (fun c12 => ?_)
      · refine aw_tsw tX2_fits_33_5 c12 ?_
        refine aw_iload iX2_fits_122 rfl ?_
        refine aw_if_ne_F iX2_fits_124 (by decide) ?_
        refine aw_iload iX2_fits_127 rfl ?_
        refine aw_if_eq_F iX2_fits_129 (by decide) ?_
        refine aw_iconst (v := 1) iX2_fits_132 (by decide) ?_
        refine aw_goto iX2_fits_133 ?_
        exact aw_zretK iX2_fits_137 rfl (Or.inr rfl)
      refine aw_tsd tX2_fits_33_d (by have ec7 := ne_toInt c7 (a := 2) (by decide); have ec8 := ne_toInt c8 (a := 3) (by decide); have ec11 := ne_toInt c11 (a := 4) (by decide); have ec12 := ne_toInt c12 (a := 5) (by decide); omega) ?_
      refine aw_iload iX2_fits_138 rfl ?_
      exact aw_zretK iX2_fits_140 rfl (Or.inl rfl)
  · refine aw_iconst (v := 0) iX2_fits_10 (by decide) ?_
    refine aw_istore (L' := [some (.inl a0), some (.inl a1), some (.inl a2), some (.inl a3), some (.inl (0 : Int32)), none]) iX2_fits_11 (Nat.le_of_ble_eq_true rfl) rfl ?_
    refine aw_iload_n iX2_fits_13 rfl rfl ?_
    refine aw_iload_n iX2_fits_14 rfl rfl ?_
    refine aw_iand iX2_fits_15 ?_
    refine aw_iload_n iX2_fits_16 rfl rfl ?_
    refine aw_icmp_ne iX2_fits_17 ?_ ?_
    · refine aw_iload iX2_fits_20 rfl ?_
      refine aw_if_eq_T iX2_fits_22 (by decide) ?_
      refine aw_iconst (v := 0) iX2_fits_29 (by decide) ?_
      refine aw_istore (L' := [some (.inl a0), some (.inl a1), some (.inl a2), some (.inl a3), some (.inl (0 : Int32)), some (.inl (0 : Int32))]) iX2_fits_30 (Nat.le_of_ble_eq_true rfl) rfl ?_
      refine aw_iload_n iX2_fits_32 rfl rfl ?_
      refine aw_if (fun c13 => ?_) (fun c13 => ?_)
      · refine aw_tsw tX2_fits_33_2 c13 ?_
        refine aw_iload iX2_fits_64 rfl ?_
        refine aw_if_ne_F iX2_fits_66 (by decide) ?_
        refine aw_iload_n iX2_fits_69 rfl rfl ?_
        refine aw_iload_n iX2_fits_70 rfl rfl ?_
        refine aw_iand iX2_fits_71 ?_
        refine aw_iload_n iX2_fits_72 rfl rfl ?_
        refine aw_icmp_ne iX2_fits_73 ?_ ?_
        · refine aw_iload_n iX2_fits_76 rfl rfl ?_
          refine aw_iload_n iX2_fits_77 rfl rfl ?_
          refine aw_iand iX2_fits_78 ?_
          refine aw_if_ne iX2_fits_79 ?_ ?_
          · refine aw_iconst (v := 1) iX2_fits_82 (by decide) ?_
            refine aw_goto iX2_fits_83 ?_
            exact aw_zretK iX2_fits_87 rfl (Or.inr rfl)
          · refine aw_iconst (v := 0) iX2_fits_86 (by decide) ?_
            exact aw_zretK iX2_fits_87 rfl (Or.inl rfl)
        · refine aw_iconst (v := 0) iX2_fits_86 (by decide) ?_
          exact aw_zretK iX2_fits_87 rfl (Or.inl rfl)
      refine aw_if (fun c14 => ?_) (fun c14 => ?_)
      · refine aw_tsw tX2_fits_33_3 c14 ?_
        refine aw_iload_n iX2_fits_88 rfl rfl ?_
        refine aw_iload_n iX2_fits_89 rfl rfl ?_
        refine aw_iconst (v := (-1)) iX2_fits_90 (by decide) ?_
        refine aw_ixor iX2_fits_91 ?_
        refine aw_iand iX2_fits_92 ?_
        refine aw_callS (M' := mJ6_bitCount_0f7a4) (As := [.inl (a1 &&& (a3 ^^^ (-1 : Int32)))]) iX2_fits_93 lkX2_39 mcJ6_bitCount_0f7a4 msJ6_bitCount_0f7a4 rfl (kJ6_bitCount_0f7a4 (a1 &&& (a3 ^^^ (-1 : Int32))) g) rfl (Nat.le_of_ble_eq_true rfl) ⟨Nat.le_of_ble_eq_true rfl, Nat.le_of_ble_eq_true rfl⟩ (fun r15 g16 => ?_)
        refine aw_iconst (v := 1) iX2_fits_96 (by decide) ?_
        refine aw_icmp_gt iX2_fits_97 ?_ ?_
        · refine aw_iconst (v := 0) iX2_fits_109 (by decide) ?_
          exact aw_zretK iX2_fits_110 rfl (Or.inl rfl)
        · refine aw_iload iX2_fits_100 rfl ?_
          refine aw_if_eq_T iX2_fits_102 (by decide) ?_
          refine aw_iconst (v := 0) iX2_fits_109 (by decide) ?_
          exact aw_zretK iX2_fits_110 rfl (Or.inl rfl)
      refine aw_if (fun c17 => ?_) (fun c17 => ?_)
      · refine aw_tsw tX2_fits_33_4 c17 ?_
        refine aw_iload iX2_fits_111 rfl ?_
        refine aw_if_ne_F iX2_fits_113 (by decide) ?_
        refine aw_iconst (v := 1) iX2_fits_116 (by decide) ?_
        refine aw_goto iX2_fits_117 ?_
        exact aw_zretK iX2_fits_121 rfl (Or.inr rfl)
      refine aw_if (fun c18 => ?_) (fun c18 => ?_)
      · refine aw_tsw tX2_fits_33_5 c18 ?_
        refine aw_iload iX2_fits_122 rfl ?_
        refine aw_if_ne_F iX2_fits_124 (by decide) ?_
        refine aw_iload iX2_fits_127 rfl ?_
        refine aw_if_eq_T iX2_fits_129 (by decide) ?_
        refine aw_iconst (v := 0) iX2_fits_136 (by decide) ?_
        exact aw_zretK iX2_fits_137 rfl (Or.inl rfl)
      refine aw_tsd tX2_fits_33_d (by have ec13 := ne_toInt c13 (a := 2) (by decide); have ec14 := ne_toInt c14 (a := 3) (by decide); have ec17 := ne_toInt c17 (a := 4) (by decide); have ec18 := ne_toInt c18 (a := 5) (by decide); omega) ?_
      refine aw_iload iX2_fits_138 rfl ?_
      exact aw_zretK iX2_fits_140 rfl (Or.inl rfl)
    · refine aw_iconst (v := 0) iX2_fits_29 (by decide) ?_
      refine aw_istore (L' := [some (.inl a0), some (.inl a1), some (.inl a2), some (.inl a3), some (.inl (0 : Int32)), some (.inl (0 : Int32))]) iX2_fits_30 (Nat.le_of_ble_eq_true rfl) rfl ?_
      refine aw_iload_n iX2_fits_32 rfl rfl ?_
      refine aw_if (fun c19 => ?_) (fun c19 => ?_)
      · refine aw_tsw tX2_fits_33_2 c19 ?_
        refine aw_iload iX2_fits_64 rfl ?_
        refine aw_if_ne_F iX2_fits_66 (by decide) ?_
        refine aw_iload_n iX2_fits_69 rfl rfl ?_
        refine aw_iload_n iX2_fits_70 rfl rfl ?_
        refine aw_iand iX2_fits_71 ?_
        refine aw_iload_n iX2_fits_72 rfl rfl ?_
        refine aw_icmp_ne iX2_fits_73 ?_ ?_
        · refine aw_iload_n iX2_fits_76 rfl rfl ?_
          refine aw_iload_n iX2_fits_77 rfl rfl ?_
          refine aw_iand iX2_fits_78 ?_
          refine aw_if_ne iX2_fits_79 ?_ ?_
          · refine aw_iconst (v := 1) iX2_fits_82 (by decide) ?_
            refine aw_goto iX2_fits_83 ?_
            exact aw_zretK iX2_fits_87 rfl (Or.inr rfl)
          · refine aw_iconst (v := 0) iX2_fits_86 (by decide) ?_
            exact aw_zretK iX2_fits_87 rfl (Or.inl rfl)
        · refine aw_iconst (v := 0) iX2_fits_86 (by decide) ?_
          exact aw_zretK iX2_fits_87 rfl (Or.inl rfl)
      refine aw_if (fun c20 => ?_) (fun c20 => ?_)
      · refine aw_tsw tX2_fits_33_3 c20 ?_
        refine aw_iload_n iX2_fits_88 rfl rfl ?_
        refine aw_iload_n iX2_fits_89 rfl rfl ?_
        refine aw_iconst (v := (-1)) iX2_fits_90 (by decide) ?_
        refine aw_ixor iX2_fits_91 ?_
        refine aw_iand iX2_fits_92 ?_
        refine aw_callS (M' := mJ6_bitCount_0f7a4) (As := [.inl (a1 &&& (a3 ^^^ (-1 : Int32)))]) iX2_fits_93 lkX2_39 mcJ6_bitCount_0f7a4 msJ6_bitCount_0f7a4 rfl (kJ6_bitCount_0f7a4 (a1 &&& (a3 ^^^ (-1 : Int32))) g) rfl (Nat.le_of_ble_eq_true rfl) ⟨Nat.le_of_ble_eq_true rfl, Nat.le_of_ble_eq_true rfl⟩ (fun r21 g22 => ?_)
        refine aw_iconst (v := 1) iX2_fits_96 (by decide) ?_
        refine aw_icmp_gt iX2_fits_97 ?_ ?_
        · refine aw_iconst (v := 0) iX2_fits_109 (by decide) ?_
          exact aw_zretK iX2_fits_110 rfl (Or.inl rfl)
        · refine aw_iload iX2_fits_100 rfl ?_
          refine aw_if_eq_T iX2_fits_102 (by decide) ?_
          refine aw_iconst (v := 0) iX2_fits_109 (by decide) ?_
          exact aw_zretK iX2_fits_110 rfl (Or.inl rfl)
      refine aw_if (fun c23 => ?_) (fun c23 => ?_)
      · refine aw_tsw tX2_fits_33_4 c23 ?_
        refine aw_iload iX2_fits_111 rfl ?_
        refine aw_if_ne_F iX2_fits_113 (by decide) ?_
        refine aw_iconst (v := 1) iX2_fits_116 (by decide) ?_
        refine aw_goto iX2_fits_117 ?_
        exact aw_zretK iX2_fits_121 rfl (Or.inr rfl)
      refine aw_if (fun c24 => ?_) (fun c24 => ?_)
      · refine aw_tsw tX2_fits_33_5 c24 ?_
        refine aw_iload iX2_fits_122 rfl ?_
        refine aw_if_ne_F iX2_fits_124 (by decide) ?_
        refine aw_iload iX2_fits_127 rfl ?_
        refine aw_if_eq_T iX2_fits_129 (by decide) ?_
        refine aw_iconst (v := 0) iX2_fits_136 (by decide) ?_
        exact aw_zretK iX2_fits_137 rfl (Or.inl rfl)
      refine aw_tsd tX2_fits_33_d (by have ec19 := ne_toInt c19 (a := 2) (by decide); have ec20 := ne_toInt c20 (a := 3) (by decide); have ec23 := ne_toInt c23 (a := 4) (by decide); have ec24 := ne_toInt c24 (a := 5) (by decide); omega) ?_
      refine aw_iload iX2_fits_138 rfl ?_
      exact aw_zretK iX2_fits_140 rfl (Or.inl rfl)
set_option maxRecDepth 20000 in
set_option maxHeartbeats 4000000 in
theorem kX2_fits (a0 : Int32) (a1 : Int32) (a2 : Int32) (a3 : Int32) (g : Mem) : CT mX2_fits [.inl a0, .inl a1, .inl a2, .inl a3] g (fX2_fits a0 a1 a2 a3 g) := CT.of (nr := 2) (by decide +kernel) (Nat.le_of_ble_eq_true rfl) (Or.inr (Or.inr rfl)) (wX2_fits a0 a1 a2 a3 g)
set_option maxRecDepth 20000 in
set_option maxHeartbeats 4000000 in
theorem wX2_least (a0 : Int32) (g : Mem) : aw mX2_least none 0 [some (.inl a0), none] [] g (fX2_least a0 g) := by
  unfold fX2_least
  refine aw_iload_n iX2_least_0 rfl rfl ?_
  refine aw_iload_n iX2_least_1 rfl rfl ?_
  refine aw_ineg iX2_least_2 ?_
  refine aw_iand iX2_least_3 ?_
  refine aw_lt (fun x1 => ?_)
  refine aw_istore_n (L' := [some (.inl a0), some (.inl x1)]) iX2_least_4 rfl (Nat.le_of_ble_eq_true rfl) rfl ?_
  refine aw_iload_n iX2_least_5 rfl rfl ?_
  refine aw_if_ne iX2_least_6 ?_ ?_
  · refine aw_ldc (v := (-1000000)) iX2_least_9 kcX2_45 ?_
    refine aw_goto iX2_least_11 ?_
    exact aw_iret iX2_least_20 rfl
  · refine aw_iload_n iX2_least_14 rfl rfl ?_
    refine aw_iconst (v := 1) iX2_least_15 (by decide) ?_
    refine aw_isub iX2_least_16 ?_
    refine aw_callS (M' := mJ6_bitCount_0f7a4) (As := [.inl (x1 - (1 : Int32))]) iX2_least_17 lkX2_39 mcJ6_bitCount_0f7a4 msJ6_bitCount_0f7a4 rfl (kJ6_bitCount_0f7a4 (x1 - (1 : Int32)) g) rfl (Nat.le_of_ble_eq_true rfl) ⟨Nat.le_of_ble_eq_true rfl, Nat.le_of_ble_eq_true rfl⟩ (fun r2 g3 => ?_)
    exact aw_iret iX2_least_20 rfl
set_option maxRecDepth 20000 in
set_option maxHeartbeats 4000000 in
theorem kX2_least (a0 : Int32) (g : Mem) : CT mX2_least [.inl a0] g (fX2_least a0 g) := CT.of (nr := 1) (by decide +kernel) (Nat.le_of_ble_eq_true rfl) (Or.inr (Or.inl rfl)) (wX2_least a0 g)
set_option maxRecDepth 20000 in
set_option maxHeartbeats 4000000 in
theorem wJ7_fill_53178_L5 (q0 nq0 : Nat) (hlt_q0 : q0 < 73) (hsh_q0 : sh q0 = (1, nq0, [])) (l1 : Int32) (l3 : Int32) (K : Int32 → Mem → Option (Int32 × Mem)) (hK : ∀ (l2 : Int32) (g : Mem), aw mJ7_fill_53178 none 20 [some (.inr q0), some (.inl l1), some (.inl l2), some (.inl l3)] [] g (K l2 g)) : ∀ (n : Nat) (l2 : Int32) (g : Mem), aw mJ7_fill_53178 none 5 [some (.inr q0), some (.inl l1), some (.inl l2), some (.inl l3)] [] g (fJ7_fill_53178_L5 q0 nq0 l1 l3 K n l2 g) := by
  intro n
  induction n with
  | zero => intro l2 g; exact aw_none
  | succ n ih =>
    intro l2 g
    rw [fJ7_fill_53178_L5]
    refine aw_iload_n iJ7_fill_53178_5 rfl rfl ?_
    refine aw_iload_n iJ7_fill_53178_6 rfl rfl ?_
    refine aw_icmp_ge iJ7_fill_53178_7 ?_ ?_
    · exact hK l2 g
    · refine aw_aload_n iJ7_fill_53178_10 rfl rfl ?_
      refine aw_iload_n iJ7_fill_53178_11 rfl rfl ?_
      refine aw_iload_n iJ7_fill_53178_12 rfl rfl ?_
      refine aw_iast iJ7_fill_53178_13 hlt_q0 hsh_q0 (fun g2 _ => ?_)
      refine aw_iinc (L' := [some (.inr q0), some (.inl l1), some (.inl (l2 + (1 : Int32))), some (.inl l3)]) (v := l2 + (1 : Int32)) iJ7_fill_53178_14 rfl rfl (Nat.le_of_ble_eq_true rfl) rfl ?_
      refine aw_goto iJ7_fill_53178_17 ?_
      exact ih (l2 + (1 : Int32)) g2
set_option maxRecDepth 20000 in
set_option maxHeartbeats 4000000 in
theorem wJ7_fill_53178 (q0 nq0 : Nat) (hlt_q0 : q0 < 73) (hsh_q0 : sh q0 = (1, nq0, [])) (a1 : Int32) (g : Mem) : aw mJ7_fill_53178 none 0 [some (.inr q0), some (.inl a1), none, none] [] g (fJ7_fill_53178 q0 nq0 a1 g) := by
  unfold fJ7_fill_53178
  refine aw_iconst (v := 0) iJ7_fill_53178_0 (by decide) ?_
  refine aw_istore_n (L' := [some (.inr q0), some (.inl a1), some (.inl (0 : Int32)), none]) iJ7_fill_53178_1 rfl (Nat.le_of_ble_eq_true rfl) rfl ?_
  refine aw_aload_n iJ7_fill_53178_2 rfl rfl ?_
  refine aw_alen iJ7_fill_53178_3 hlt_q0 hsh_q0 rfl ?_
  refine aw_lt (fun x1 => ?_)
  refine aw_istore_n (L' := [some (.inr q0), some (.inl a1), some (.inl (0 : Int32)), some (.inl x1)]) iJ7_fill_53178_4 rfl (Nat.le_of_ble_eq_true rfl) rfl ?_
  refine wJ7_fill_53178_L5 q0 nq0 hlt_q0 hsh_q0 a1 x1 _ (fun l3 g4 => ?_) FU (0 : Int32) g
  exact aw_vret iJ7_fill_53178_20 rfl
set_option maxRecDepth 20000 in
set_option maxHeartbeats 4000000 in
theorem kJ7_fill_53178 (q0 nq0 : Nat) (hlt_q0 : q0 < 73) (hsh_q0 : sh q0 = (1, nq0, [])) (a1 : Int32) (g : Mem) : CT mJ7_fill_53178 [.inr q0, .inl a1] g (fJ7_fill_53178 q0 nq0 a1 g) := CT.of (nr := 2) (by decide +kernel) (Nat.le_of_ble_eq_true rfl) (Or.inl rfl) (wJ7_fill_53178 q0 nq0 hlt_q0 hsh_q0 a1 g)
set_option maxRecDepth 20000 in
set_option maxHeartbeats 4000000 in
theorem wX2_clear (c : Nat) (hc : CO c) (g : Mem) : aw mX2_clear none 0 [some (.inr c)] [] g (fX2_clear c g) := by
  unfold fX2_clear
  refine aw_aload_n iX2_clear_0 rfl rfl ?_
  refine aw_iconst (v := 1) iX2_clear_1 (by decide) ?_
  refine aw_putZ iX2_clear_2 fpX2_46 (CO_lt0 hc) (CO_sh0 hc) rfl (fun g1 _ => ?_)
  refine aw_aload_n iX2_clear_5 rfl rfl ?_
  refine aw_iconst (v := 0) iX2_clear_6 (by decide) ?_
  refine aw_putI iX2_clear_7 fpX2_50 (CO_lt0 hc) (CO_sh0 hc) rfl (fun g2 _ => ?_)
  refine aw_aload_n iX2_clear_10 rfl rfl ?_
  refine aw_iconst (v := 0) iX2_clear_11 (by decide) ?_
  refine aw_putI iX2_clear_12 fpX2_54 (CO_lt0 hc) (CO_sh0 hc) rfl (fun g3 _ => ?_)
  refine aw_aload_n iX2_clear_15 rfl rfl ?_
  refine aw_iconst (v := 0) iX2_clear_16 (by decide) ?_
  refine aw_putI iX2_clear_17 fpX2_57 (CO_lt0 hc) (CO_sh0 hc) rfl (fun g4 _ => ?_)
  refine aw_aload_n iX2_clear_20 rfl rfl ?_
  refine aw_iconst (v := 0) iX2_clear_21 (by decide) ?_
  refine aw_putI iX2_clear_22 fpX2_60 (CO_lt0 hc) (CO_sh0 hc) rfl (fun g5 _ => ?_)
  refine aw_aload_n iX2_clear_25 rfl rfl ?_
  refine aw_iconst (v := 0) iX2_clear_26 (by decide) ?_
  refine aw_putI iX2_clear_27 fpX2_63 (CO_lt0 hc) (CO_sh0 hc) rfl (fun g6 _ => ?_)
  refine aw_aload_n iX2_clear_30 rfl rfl ?_
  refine aw_getR (own := "") iX2_clear_31 flX2_30 (CO_lt0 hc) (CO_sh0 hc) rfl ?_
  refine aw_iconst (v := 0) iX2_clear_34 (by decide) ?_
  refine aw_callSv (M' := mJ7_fill_53178) (As := [.inr (c + 7), .inl (0 : Int32)]) iX2_clear_35 lkX2_66 mcJ7_fill_53178 msJ7_fill_53178 rfl (kJ7_fill_53178 (c + 7) 4 (CO_lt7 hc) (CO_sh7 hc) (0 : Int32) g6) rfl (Nat.le_of_ble_eq_true rfl) ⟨Nat.le_of_ble_eq_true rfl, Nat.le_of_ble_eq_true rfl⟩ (fun r7 g8 => ?_)
  refine aw_aload_n iX2_clear_38 rfl rfl ?_
  refine aw_getR (own := "") iX2_clear_39 flX2_33 (CO_lt0 hc) (CO_sh0 hc) rfl ?_
  refine aw_iconst (v := 0) iX2_clear_42 (by decide) ?_
  refine aw_callSv (M' := mJ7_fill_53178) (As := [.inr (c + 8), .inl (0 : Int32)]) iX2_clear_43 lkX2_66 mcJ7_fill_53178 msJ7_fill_53178 rfl (kJ7_fill_53178 (c + 8) 4 (CO_lt8 hc) (CO_sh8 hc) (0 : Int32) g8) rfl (Nat.le_of_ble_eq_true rfl) ⟨Nat.le_of_ble_eq_true rfl, Nat.le_of_ble_eq_true rfl⟩ (fun r9 g10 => ?_)
  refine aw_aload_n iX2_clear_46 rfl rfl ?_
  refine aw_getR (own := "") iX2_clear_47 flX2_36 (CO_lt0 hc) (CO_sh0 hc) rfl ?_
  refine aw_iconst (v := 0) iX2_clear_50 (by decide) ?_
  refine aw_callSv (M' := mJ7_fill_53178) (As := [.inr (c + 9), .inl (0 : Int32)]) iX2_clear_51 lkX2_66 mcJ7_fill_53178 msJ7_fill_53178 rfl (kJ7_fill_53178 (c + 9) 4 (CO_lt9 hc) (CO_sh9 hc) (0 : Int32) g10) rfl (Nat.le_of_ble_eq_true rfl) ⟨Nat.le_of_ble_eq_true rfl, Nat.le_of_ble_eq_true rfl⟩ (fun r11 g12 => ?_)
  exact aw_vret iX2_clear_54 rfl
set_option maxRecDepth 20000 in
set_option maxHeartbeats 4000000 in
theorem kX2_clear (c : Nat) (hc : CO c) (g : Mem) : CT mX2_clear [.inr c] g (fX2_clear c g) := CT.of (nr := 0) (by decide +kernel) (Nat.le_of_ble_eq_true rfl) (Or.inl rfl) (wX2_clear c hc g)
set_option maxRecDepth 20000 in
set_option maxHeartbeats 4000000 in
theorem wX2_become (c : Nat) (hc : CO c) (d : Nat) (hd : CO d) (g : Mem) : aw mX2_become none 0 [some (.inr c), some (.inr d)] [] g (fX2_become c d g) := by
  unfold fX2_become
  refine aw_aload_n iX2_become_0 rfl rfl ?_
  refine aw_aload_n iX2_become_1 rfl rfl ?_
  refine aw_getI (own := "") iX2_become_2 flX2_46 (CO_lt0 hd) (CO_sh0 hd) rfl ?_
  refine aw_putZ iX2_become_5 fpX2_46 (CO_lt0 hc) (CO_sh0 hc) rfl (fun g1 _ => ?_)
  refine aw_aload_n iX2_become_8 rfl rfl ?_
  refine aw_aload_n iX2_become_9 rfl rfl ?_
  refine aw_getI (own := "") iX2_become_10 flX2_72 (CO_lt0 hd) (CO_sh0 hd) rfl ?_
  refine aw_putI iX2_become_13 fpX2_72 (CO_lt0 hc) (CO_sh0 hc) rfl (fun g2 _ => ?_)
  refine aw_aload_n iX2_become_16 rfl rfl ?_
  refine aw_aload_n iX2_become_17 rfl rfl ?_
  refine aw_getI (own := "") iX2_become_18 flX2_75 (CO_lt0 hd) (CO_sh0 hd) rfl ?_
  refine aw_putI iX2_become_21 fpX2_75 (CO_lt0 hc) (CO_sh0 hc) rfl (fun g3 _ => ?_)
  refine aw_aload_n iX2_become_24 rfl rfl ?_
  refine aw_aload_n iX2_become_25 rfl rfl ?_
  refine aw_getI (own := "") iX2_become_26 flX2_50 (CO_lt0 hd) (CO_sh0 hd) rfl ?_
  refine aw_putI iX2_become_29 fpX2_50 (CO_lt0 hc) (CO_sh0 hc) rfl (fun g4 _ => ?_)
  refine aw_aload_n iX2_become_32 rfl rfl ?_
  refine aw_aload_n iX2_become_33 rfl rfl ?_
  refine aw_getI (own := "") iX2_become_34 flX2_54 (CO_lt0 hd) (CO_sh0 hd) rfl ?_
  refine aw_putI iX2_become_37 fpX2_54 (CO_lt0 hc) (CO_sh0 hc) rfl (fun g5 _ => ?_)
  refine aw_aload_n iX2_become_40 rfl rfl ?_
  refine aw_aload_n iX2_become_41 rfl rfl ?_
  refine aw_getI (own := "") iX2_become_42 flX2_57 (CO_lt0 hd) (CO_sh0 hd) rfl ?_
  refine aw_putI iX2_become_45 fpX2_57 (CO_lt0 hc) (CO_sh0 hc) rfl (fun g6 _ => ?_)
  refine aw_aload_n iX2_become_48 rfl rfl ?_
  refine aw_aload_n iX2_become_49 rfl rfl ?_
  refine aw_getI (own := "") iX2_become_50 flX2_60 (CO_lt0 hd) (CO_sh0 hd) rfl ?_
  refine aw_putI iX2_become_53 fpX2_60 (CO_lt0 hc) (CO_sh0 hc) rfl (fun g7 _ => ?_)
  refine aw_aload_n iX2_become_56 rfl rfl ?_
  refine aw_aload_n iX2_become_57 rfl rfl ?_
  refine aw_getI (own := "") iX2_become_58 flX2_63 (CO_lt0 hd) (CO_sh0 hd) rfl ?_
  refine aw_putI iX2_become_61 fpX2_63 (CO_lt0 hc) (CO_sh0 hc) rfl (fun g8 _ => ?_)
  refine aw_aload_n iX2_become_64 rfl rfl ?_
  refine aw_getR (own := "") iX2_become_65 flX2_11 (CO_lt0 hd) (CO_sh0 hd) rfl ?_
  refine aw_iconst (v := 0) iX2_become_68 (by decide) ?_
  refine aw_aload_n iX2_become_69 rfl rfl ?_
  refine aw_getR (own := "") iX2_become_70 flX2_11 (CO_lt0 hc) (CO_sh0 hc) rfl ?_
  refine aw_iconst (v := 0) iX2_become_73 (by decide) ?_
  refine aw_bipush (v := 8) iX2_become_74 (by decide) ?_
  refine aw_acopy iX2_become_76 maX2_78 ⟨Nat.le_of_ble_eq_true rfl, Nat.le_of_ble_eq_true rfl⟩ (CO_lt1 hd) (CO_sh1 hd) (CO_lt1 hc) (CO_sh1 hc) (fun g9 _ => ?_)
  refine aw_aload_n iX2_become_79 rfl rfl ?_
  refine aw_getR (own := "") iX2_become_80 flX2_15 (CO_lt0 hd) (CO_sh0 hd) rfl ?_
  refine aw_iconst (v := 0) iX2_become_83 (by decide) ?_
  refine aw_aload_n iX2_become_84 rfl rfl ?_
  refine aw_getR (own := "") iX2_become_85 flX2_15 (CO_lt0 hc) (CO_sh0 hc) rfl ?_
  refine aw_iconst (v := 0) iX2_become_88 (by decide) ?_
  refine aw_bipush (v := 6) iX2_become_89 (by decide) ?_
  refine aw_acopy iX2_become_91 maX2_78 ⟨Nat.le_of_ble_eq_true rfl, Nat.le_of_ble_eq_true rfl⟩ (CO_lt2 hd) (CO_sh2 hd) (CO_lt2 hc) (CO_sh2 hc) (fun g10 _ => ?_)
  refine aw_aload_n iX2_become_94 rfl rfl ?_
  refine aw_getR (own := "") iX2_become_95 flX2_18 (CO_lt0 hd) (CO_sh0 hd) rfl ?_
  refine aw_iconst (v := 0) iX2_become_98 (by decide) ?_
  refine aw_aload_n iX2_become_99 rfl rfl ?_
  refine aw_getR (own := "") iX2_become_100 flX2_18 (CO_lt0 hc) (CO_sh0 hc) rfl ?_
  refine aw_iconst (v := 0) iX2_become_103 (by decide) ?_
  refine aw_bipush (v := 6) iX2_become_104 (by decide) ?_
  refine aw_acopy iX2_become_106 maX2_78 ⟨Nat.le_of_ble_eq_true rfl, Nat.le_of_ble_eq_true rfl⟩ (CO_lt3 hd) (CO_sh3 hd) (CO_lt3 hc) (CO_sh3 hc) (fun g11 _ => ?_)
  refine aw_aload_n iX2_become_109 rfl rfl ?_
  refine aw_getR (own := "") iX2_become_110 flX2_21 (CO_lt0 hd) (CO_sh0 hd) rfl ?_
  refine aw_iconst (v := 0) iX2_become_113 (by decide) ?_
  refine aw_aload_n iX2_become_114 rfl rfl ?_
  refine aw_getR (own := "") iX2_become_115 flX2_21 (CO_lt0 hc) (CO_sh0 hc) rfl ?_
  refine aw_iconst (v := 0) iX2_become_118 (by decide) ?_
  refine aw_bipush (v := 6) iX2_become_119 (by decide) ?_
  refine aw_acopy iX2_become_121 maX2_78 ⟨Nat.le_of_ble_eq_true rfl, Nat.le_of_ble_eq_true rfl⟩ (CO_lt4 hd) (CO_sh4 hd) (CO_lt4 hc) (CO_sh4 hc) (fun g12 _ => ?_)
  refine aw_aload_n iX2_become_124 rfl rfl ?_
  refine aw_getR (own := "") iX2_become_125 flX2_24 (CO_lt0 hd) (CO_sh0 hd) rfl ?_
  refine aw_iconst (v := 0) iX2_become_128 (by decide) ?_
  refine aw_aload_n iX2_become_129 rfl rfl ?_
  refine aw_getR (own := "") iX2_become_130 flX2_24 (CO_lt0 hc) (CO_sh0 hc) rfl ?_
  refine aw_iconst (v := 0) iX2_become_133 (by decide) ?_
  refine aw_bipush (v := 6) iX2_become_134 (by decide) ?_
  refine aw_acopy iX2_become_136 maX2_78 ⟨Nat.le_of_ble_eq_true rfl, Nat.le_of_ble_eq_true rfl⟩ (CO_lt5 hd) (CO_sh5 hd) (CO_lt5 hc) (CO_sh5 hc) (fun g13 _ => ?_)
  refine aw_aload_n iX2_become_139 rfl rfl ?_
  refine aw_getR (own := "") iX2_become_140 flX2_27 (CO_lt0 hd) (CO_sh0 hd) rfl ?_
  refine aw_iconst (v := 0) iX2_become_143 (by decide) ?_
  refine aw_aload_n iX2_become_144 rfl rfl ?_
  refine aw_getR (own := "") iX2_become_145 flX2_27 (CO_lt0 hc) (CO_sh0 hc) rfl ?_
  refine aw_iconst (v := 0) iX2_become_148 (by decide) ?_
  refine aw_iconst (v := 4) iX2_become_149 (by decide) ?_
  refine aw_acopy iX2_become_150 maX2_78 ⟨Nat.le_of_ble_eq_true rfl, Nat.le_of_ble_eq_true rfl⟩ (CO_lt6 hd) (CO_sh6 hd) (CO_lt6 hc) (CO_sh6 hc) (fun g14 _ => ?_)
  refine aw_aload_n iX2_become_153 rfl rfl ?_
  refine aw_getR (own := "") iX2_become_154 flX2_30 (CO_lt0 hd) (CO_sh0 hd) rfl ?_
  refine aw_iconst (v := 0) iX2_become_157 (by decide) ?_
  refine aw_aload_n iX2_become_158 rfl rfl ?_
  refine aw_getR (own := "") iX2_become_159 flX2_30 (CO_lt0 hc) (CO_sh0 hc) rfl ?_
  refine aw_iconst (v := 0) iX2_become_162 (by decide) ?_
  refine aw_iconst (v := 4) iX2_become_163 (by decide) ?_
  refine aw_acopy iX2_become_164 maX2_78 ⟨Nat.le_of_ble_eq_true rfl, Nat.le_of_ble_eq_true rfl⟩ (CO_lt7 hd) (CO_sh7 hd) (CO_lt7 hc) (CO_sh7 hc) (fun g15 _ => ?_)
  refine aw_aload_n iX2_become_167 rfl rfl ?_
  refine aw_getR (own := "") iX2_become_168 flX2_33 (CO_lt0 hd) (CO_sh0 hd) rfl ?_
  refine aw_iconst (v := 0) iX2_become_171 (by decide) ?_
  refine aw_aload_n iX2_become_172 rfl rfl ?_
  refine aw_getR (own := "") iX2_become_173 flX2_33 (CO_lt0 hc) (CO_sh0 hc) rfl ?_
  refine aw_iconst (v := 0) iX2_become_176 (by decide) ?_
  refine aw_iconst (v := 4) iX2_become_177 (by decide) ?_
  refine aw_acopy iX2_become_178 maX2_78 ⟨Nat.le_of_ble_eq_true rfl, Nat.le_of_ble_eq_true rfl⟩ (CO_lt8 hd) (CO_sh8 hd) (CO_lt8 hc) (CO_sh8 hc) (fun g16 _ => ?_)
  refine aw_aload_n iX2_become_181 rfl rfl ?_
  refine aw_getR (own := "") iX2_become_182 flX2_36 (CO_lt0 hd) (CO_sh0 hd) rfl ?_
  refine aw_iconst (v := 0) iX2_become_185 (by decide) ?_
  refine aw_aload_n iX2_become_186 rfl rfl ?_
  refine aw_getR (own := "") iX2_become_187 flX2_36 (CO_lt0 hc) (CO_sh0 hc) rfl ?_
  refine aw_iconst (v := 0) iX2_become_190 (by decide) ?_
  refine aw_iconst (v := 4) iX2_become_191 (by decide) ?_
  refine aw_acopy iX2_become_192 maX2_78 ⟨Nat.le_of_ble_eq_true rfl, Nat.le_of_ble_eq_true rfl⟩ (CO_lt9 hd) (CO_sh9 hd) (CO_lt9 hc) (CO_sh9 hc) (fun g17 _ => ?_)
  exact aw_vret iX2_become_195 rfl
set_option maxRecDepth 20000 in
set_option maxHeartbeats 4000000 in
theorem kX2_become (c : Nat) (hc : CO c) (d : Nat) (hd : CO d) (g : Mem) : CT mX2_become [.inr c, .inr d] g (fX2_become c d g) := CT.of (nr := 0) (by decide +kernel) (Nat.le_of_ble_eq_true rfl) (Or.inl rfl) (wX2_become c hc d hd g)
set_option maxRecDepth 20000 in
set_option maxHeartbeats 4000000 in
theorem wX2_allThings (c : Nat) (hc : CO c) (g : Mem) : aw mX2_allThings none 0 [some (.inr c)] [] g (fX2_allThings c g) := by
  unfold fX2_allThings
  refine aw_iconst (v := 1) iX2_allThings_0 (by decide) ?_
  refine aw_aload_n iX2_allThings_1 rfl rfl ?_
  refine aw_getI (own := "") iX2_allThings_2 flX2_50 (CO_lt0 hc) (CO_sh0 hc) rfl ?_
  refine aw_ishl iX2_allThings_5 ?_
  refine aw_iconst (v := 1) iX2_allThings_6 (by decide) ?_
  refine aw_isub iX2_allThings_7 ?_
  exact aw_iret iX2_allThings_8 rfl
set_option maxRecDepth 20000 in
set_option maxHeartbeats 4000000 in
theorem kX2_allThings (c : Nat) (hc : CO c) (g : Mem) : CT mX2_allThings [.inr c] g (fX2_allThings c g) := CT.of (nr := 0) (by decide +kernel) (Nat.le_of_ble_eq_true rfl) (Or.inr (Or.inl rfl)) (wX2_allThings c hc g)
set_option maxRecDepth 20000 in
set_option maxHeartbeats 4000000 in
theorem wX2_thingsFitting_L6 (c : Nat) (hc : CO c) (l1 : Int32) (l2 : Int32) (l3 : Int32) (K : Int32 → Int32 → Mem → Option (Int32 × Mem)) (hK : ∀ (l4 l5 : Int32) (g : Mem), aw mX2_thingsFitting none 46 [some (.inr c), some (.inl l1), some (.inl l2), some (.inl l3), some (.inl l4), some (.inl l5)] [] g (K l4 l5 g)) : ∀ (n : Nat) (l4 l5 : Int32) (g : Mem), aw mX2_thingsFitting none 6 [some (.inr c), some (.inl l1), some (.inl l2), some (.inl l3), some (.inl l4), some (.inl l5)] [] g (fX2_thingsFitting_L6 c l1 l2 l3 K n l4 l5 g) := by
  intro n
  induction n with
  | zero => intro l4 l5 g; exact aw_none
  | succ n ih =>
    intro l4 l5 g
    rw [fX2_thingsFitting_L6]
    refine aw_iload iX2_thingsFitting_6 rfl ?_
    refine aw_aload_n iX2_thingsFitting_8 rfl rfl ?_
    refine aw_getI (own := "") iX2_thingsFitting_9 flX2_50 (CO_lt0 hc) (CO_sh0 hc) rfl ?_
    refine aw_icmp_ge iX2_thingsFitting_12 ?_ ?_
    · exact hK l4 l5 g
    · refine aw_iload_n iX2_thingsFitting_15 rfl rfl ?_
      refine aw_iload_n iX2_thingsFitting_16 rfl rfl ?_
      refine aw_iload_n iX2_thingsFitting_17 rfl rfl ?_
      refine aw_aload_n iX2_thingsFitting_18 rfl rfl ?_
      refine aw_getR (own := "") iX2_thingsFitting_19 flX2_11 (CO_lt0 hc) (CO_sh0 hc) rfl ?_
      refine aw_iload iX2_thingsFitting_22 rfl ?_
      refine aw_iald iX2_thingsFitting_24 (CO_lt1 hc) (CO_sh1 hc) (fun v1 _ => ?_)
      refine aw_callS (M' := mX2_fits) (As := [.inl l1, .inl l2, .inl l3, .inl v1]) iX2_thingsFitting_25 lkX2_84 mcX2_fits msX2_fits rfl (kX2_fits l1 l2 l3 v1 g) rfl (Nat.le_of_ble_eq_true rfl) ⟨Nat.le_of_ble_eq_true rfl, Nat.le_of_ble_eq_true rfl⟩ (fun r2 g3 => ?_)
      refine aw_if_eq iX2_thingsFitting_28 ?_ ?_
      · refine aw_iinc (L' := [some (.inr c), some (.inl l1), some (.inl l2), some (.inl l3), some (.inl l4), some (.inl (l5 + (1 : Int32)))]) (v := l5 + (1 : Int32)) iX2_thingsFitting_40 rfl rfl (Nat.le_of_ble_eq_true rfl) rfl ?_
        refine aw_goto iX2_thingsFitting_43 ?_
        exact ih l4 (l5 + (1 : Int32)) g3
      · refine aw_iload iX2_thingsFitting_31 rfl ?_
        refine aw_iconst (v := 1) iX2_thingsFitting_33 (by decide) ?_
        refine aw_iload iX2_thingsFitting_34 rfl ?_
        refine aw_ishl iX2_thingsFitting_36 ?_
        refine aw_ior iX2_thingsFitting_37 ?_
        refine aw_lt (fun x4 => ?_)
        refine aw_istore (L' := [some (.inr c), some (.inl l1), some (.inl l2), some (.inl l3), some (.inl x4), some (.inl l5)]) iX2_thingsFitting_38 (Nat.le_of_ble_eq_true rfl) rfl ?_
        refine aw_iinc (L' := [some (.inr c), some (.inl l1), some (.inl l2), some (.inl l3), some (.inl x4), some (.inl (l5 + (1 : Int32)))]) (v := l5 + (1 : Int32)) iX2_thingsFitting_40 rfl rfl (Nat.le_of_ble_eq_true rfl) rfl ?_
        refine aw_goto iX2_thingsFitting_43 ?_
        exact ih x4 (l5 + (1 : Int32)) g3
set_option maxRecDepth 20000 in
set_option maxHeartbeats 4000000 in
theorem wX2_thingsFitting (c : Nat) (hc : CO c) (a0 : Int32) (a1 : Int32) (a2 : Int32) (g : Mem) : aw mX2_thingsFitting none 0 [some (.inr c), some (.inl a0), some (.inl a1), some (.inl a2), none, none] [] g (fX2_thingsFitting c a0 a1 a2 g) := by
  unfold fX2_thingsFitting
  refine aw_iconst (v := 0) iX2_thingsFitting_0 (by decide) ?_
  refine aw_istore (L' := [some (.inr c), some (.inl a0), some (.inl a1), some (.inl a2), some (.inl (0 : Int32)), none]) iX2_thingsFitting_1 (Nat.le_of_ble_eq_true rfl) rfl ?_
  refine aw_iconst (v := 0) iX2_thingsFitting_3 (by decide) ?_
  refine aw_istore (L' := [some (.inr c), some (.inl a0), some (.inl a1), some (.inl a2), some (.inl (0 : Int32)), some (.inl (0 : Int32))]) iX2_thingsFitting_4 (Nat.le_of_ble_eq_true rfl) rfl ?_
  refine wX2_thingsFitting_L6 c hc a0 a1 a2 _ (fun l5 l6 g7 => ?_) FU (0 : Int32) (0 : Int32) g
  refine aw_iload iX2_thingsFitting_46 rfl ?_
  exact aw_iret iX2_thingsFitting_48 rfl
set_option maxRecDepth 20000 in
set_option maxHeartbeats 4000000 in
theorem kX2_thingsFitting (c : Nat) (hc : CO c) (a0 : Int32) (a1 : Int32) (a2 : Int32) (g : Mem) : CT mX2_thingsFitting [.inr c, .inl a0, .inl a1, .inl a2] g (fX2_thingsFitting c a0 a1 a2 g) := CT.of (nr := 2) (by decide +kernel) (Nat.le_of_ble_eq_true rfl) (Or.inr (Or.inl rfl)) (wX2_thingsFitting c hc a0 a1 a2 g)
set_option maxRecDepth 20000 in
set_option maxHeartbeats 4000000 in
theorem wX2_answer (c : Nat) (hc : CO c) (a0 : Int32) (g : Mem) : aw mX2_answer none 0 [some (.inr c), some (.inl a0)] [] g (fX2_answer c a0 g) := by
  unfold fX2_answer
  refine aw_aload_n iX2_answer_0 rfl rfl ?_
  refine aw_getR (own := "") iX2_answer_1 flX2_24 (CO_lt0 hc) (CO_sh0 hc) rfl ?_
  refine aw_iload_n iX2_answer_4 rfl rfl ?_
  refine aw_iald iX2_answer_5 (CO_lt5 hc) (CO_sh5 hc) (fun v1 _ => ?_)
  refine aw_callS (M' := mX2_least) (As := [.inl v1]) iX2_answer_6 lkX2_88 mcX2_least msX2_least rfl (kX2_least v1 g) rfl (Nat.le_of_ble_eq_true rfl) ⟨Nat.le_of_ble_eq_true rfl, Nat.le_of_ble_eq_true rfl⟩ (fun r2 g3 => ?_)
  exact aw_iret iX2_answer_9 rfl
set_option maxRecDepth 20000 in
set_option maxHeartbeats 4000000 in
theorem kX2_answer (c : Nat) (hc : CO c) (a0 : Int32) (g : Mem) : CT mX2_answer [.inr c, .inl a0] g (fX2_answer c a0 g) := CT.of (nr := 0) (by decide +kernel) (Nat.le_of_ble_eq_true rfl) (Or.inr (Or.inl rfl)) (wX2_answer c hc a0 g)
set_option maxRecDepth 20000 in
set_option maxHeartbeats 4000000 in
theorem wX2_heSays (c : Nat) (hc : CO c) (a0 : Int32) (a1 : Int32) (g : Mem) : aw mX2_heSays none 0 [some (.inr c), some (.inl a0), some (.inl a1)] [] g (fX2_heSays c a0 a1 g) := by
  unfold fX2_heSays
  refine aw_aload_n iX2_heSays_0 rfl rfl ?_
  refine aw_getR (own := "") iX2_heSays_1 flX2_24 (CO_lt0 hc) (CO_sh0 hc) rfl ?_
  refine aw_iload_n iX2_heSays_4 rfl rfl ?_
  refine aw_iald iX2_heSays_5 (CO_lt5 hc) (CO_sh5 hc) (fun v1 _ => ?_)
  refine aw_aload_n iX2_heSays_6 rfl rfl ?_
  refine aw_getR (own := "") iX2_heSays_7 flX2_27 (CO_lt0 hc) (CO_sh0 hc) rfl ?_
  refine aw_iload_n iX2_heSays_10 rfl rfl ?_
  refine aw_iald iX2_heSays_11 (CO_lt6 hc) (CO_sh6 hc) (fun v2 _ => ?_)
  refine aw_iand iX2_heSays_12 ?_
  refine aw_callS (M' := mX2_least) (As := [.inl (v1 &&& v2)]) iX2_heSays_13 lkX2_88 mcX2_least msX2_least rfl (kX2_least (v1 &&& v2) g) rfl (Nat.le_of_ble_eq_true rfl) ⟨Nat.le_of_ble_eq_true rfl, Nat.le_of_ble_eq_true rfl⟩ (fun r3 g4 => ?_)
  exact aw_iret iX2_heSays_16 rfl
set_option maxRecDepth 20000 in
set_option maxHeartbeats 4000000 in
theorem kX2_heSays (c : Nat) (hc : CO c) (a0 : Int32) (a1 : Int32) (g : Mem) : CT mX2_heSays [.inr c, .inl a0, .inl a1] g (fX2_heSays c a0 a1 g) := CT.of (nr := 0) (by decide +kernel) (Nat.le_of_ble_eq_true rfl) (Or.inr (Or.inl rfl)) (wX2_heSays c hc a0 a1 g)
set_option maxRecDepth 20000 in
set_option maxHeartbeats 4000000 in
theorem wX2_sheSays (c : Nat) (hc : CO c) (a0 : Int32) (g : Mem) : aw mX2_sheSays none 0 [some (.inr c), some (.inl a0)] [] g (fX2_sheSays c a0 g) := by
  unfold fX2_sheSays
  refine aw_aload_n iX2_sheSays_0 rfl rfl ?_
  refine aw_getR (own := "") iX2_sheSays_1 flX2_24 (CO_lt0 hc) (CO_sh0 hc) rfl ?_
  refine aw_iload_n iX2_sheSays_4 rfl rfl ?_
  refine aw_iald iX2_sheSays_5 (CO_lt5 hc) (CO_sh5 hc) (fun v1 _ => ?_)
  refine aw_aload_n iX2_sheSays_6 rfl rfl ?_
  refine aw_getI (own := "") iX2_sheSays_7 flX2_72 (CO_lt0 hc) (CO_sh0 hc) rfl ?_
  refine aw_iand iX2_sheSays_10 ?_
  refine aw_callS (M' := mX2_least) (As := [.inl (v1 &&& (g c 1))]) iX2_sheSays_11 lkX2_88 mcX2_least msX2_least rfl (kX2_least (v1 &&& (g c 1)) g) rfl (Nat.le_of_ble_eq_true rfl) ⟨Nat.le_of_ble_eq_true rfl, Nat.le_of_ble_eq_true rfl⟩ (fun r2 g3 => ?_)
  exact aw_iret iX2_sheSays_14 rfl
set_option maxRecDepth 20000 in
set_option maxHeartbeats 4000000 in
theorem kX2_sheSays (c : Nat) (hc : CO c) (a0 : Int32) (g : Mem) : CT mX2_sheSays [.inr c, .inl a0] g (fX2_sheSays c a0 g) := CT.of (nr := 0) (by decide +kernel) (Nat.le_of_ble_eq_true rfl) (Or.inr (Or.inl rfl)) (wX2_sheSays c hc a0 g)
set_option maxRecDepth 20000 in
set_option maxHeartbeats 4000000 in
theorem wX2_isKnown (c : Nat) (hc : CO c) (a0 : Int32) (a1 : Int32) (g : Mem) : aw mX2_isKnown none 0 [some (.inr c), some (.inl a0), some (.inl a1)] [] g (fX2_isKnown c a0 a1 g) := by
  unfold fX2_isKnown
  refine aw_aload_n iX2_isKnown_0 rfl rfl ?_
  refine aw_getR (own := "") iX2_isKnown_1 flX2_27 (CO_lt0 hc) (CO_sh0 hc) rfl ?_
  refine aw_iload_n iX2_isKnown_4 rfl rfl ?_
  refine aw_iald iX2_isKnown_5 (CO_lt6 hc) (CO_sh6 hc) (fun v1 _ => ?_)
  refine aw_iload_n iX2_isKnown_6 rfl rfl ?_
  refine aw_ishr iX2_isKnown_7 ?_
  refine aw_iconst (v := 1) iX2_isKnown_8 (by decide) ?_
  refine aw_iand iX2_isKnown_9 ?_
  refine aw_if_eq iX2_isKnown_10 ?_ ?_
  · refine aw_iconst (v := 0) iX2_isKnown_17 (by decide) ?_
    exact aw_zretK iX2_isKnown_18 rfl (Or.inl rfl)
  · refine aw_iconst (v := 1) iX2_isKnown_13 (by decide) ?_
    refine aw_goto iX2_isKnown_14 ?_
    exact aw_zretK iX2_isKnown_18 rfl (Or.inr rfl)
set_option maxRecDepth 20000 in
set_option maxHeartbeats 4000000 in
theorem kX2_isKnown (c : Nat) (hc : CO c) (a0 : Int32) (a1 : Int32) (g : Mem) : CT mX2_isKnown [.inr c, .inl a0, .inl a1] g (fX2_isKnown c a0 a1 g) := CT.of (nr := 0) (by decide +kernel) (Nat.le_of_ble_eq_true rfl) (Or.inr (Or.inr rfl)) (wX2_isKnown c hc a0 a1 g)
set_option maxRecDepth 20000 in
set_option maxHeartbeats 4000000 in
theorem wX2_wasUsed (c : Nat) (hc : CO c) (a0 : Int32) (g : Mem) : aw mX2_wasUsed none 0 [some (.inr c), some (.inl a0)] [] g (fX2_wasUsed c a0 g) := by
  unfold fX2_wasUsed
  refine aw_aload_n iX2_wasUsed_0 rfl rfl ?_
  refine aw_getI (own := "") iX2_wasUsed_1 flX2_60 (CO_lt0 hc) (CO_sh0 hc) rfl ?_
  refine aw_iload_n iX2_wasUsed_4 rfl rfl ?_
  refine aw_ishr iX2_wasUsed_5 ?_
  refine aw_iconst (v := 1) iX2_wasUsed_6 (by decide) ?_
  refine aw_iand iX2_wasUsed_7 ?_
  refine aw_if_eq iX2_wasUsed_8 ?_ ?_
  · refine aw_iconst (v := 0) iX2_wasUsed_15 (by decide) ?_
    exact aw_zretK iX2_wasUsed_16 rfl (Or.inl rfl)
  · refine aw_iconst (v := 1) iX2_wasUsed_11 (by decide) ?_
    refine aw_goto iX2_wasUsed_12 ?_
    exact aw_zretK iX2_wasUsed_16 rfl (Or.inr rfl)
set_option maxRecDepth 20000 in
set_option maxHeartbeats 4000000 in
theorem kX2_wasUsed (c : Nat) (hc : CO c) (a0 : Int32) (g : Mem) : CT mX2_wasUsed [.inr c, .inl a0] g (fX2_wasUsed c a0 g) := CT.of (nr := 0) (by decide +kernel) (Nat.le_of_ble_eq_true rfl) (Or.inr (Or.inr rfl)) (wX2_wasUsed c hc a0 g)
set_option maxRecDepth 20000 in
set_option maxHeartbeats 4000000 in
theorem wX2_comes (c : Nat) (hc : CO c) (a0 : Int32) (g : Mem) : aw mX2_comes none 0 [some (.inr c), some (.inl a0)] [] g (fX2_comes c a0 g) := by
  unfold fX2_comes
  refine aw_aload_n iX2_comes_0 rfl rfl ?_
  refine aw_getR (own := "") iX2_comes_1 flX2_30 (CO_lt0 hc) (CO_sh0 hc) rfl ?_
  refine aw_iload_n iX2_comes_4 rfl rfl ?_
  refine aw_iald iX2_comes_5 (CO_lt7 hc) (CO_sh7 hc) (fun v1 _ => ?_)
  refine aw_if_ne iX2_comes_6 ?_ ?_
  · refine aw_iconst (v := 1) iX2_comes_9 (by decide) ?_
    refine aw_goto iX2_comes_10 ?_
    exact aw_zretK iX2_comes_14 rfl (Or.inr rfl)
  · refine aw_iconst (v := 0) iX2_comes_13 (by decide) ?_
    exact aw_zretK iX2_comes_14 rfl (Or.inl rfl)
set_option maxRecDepth 20000 in
set_option maxHeartbeats 4000000 in
theorem kX2_comes (c : Nat) (hc : CO c) (a0 : Int32) (g : Mem) : CT mX2_comes [.inr c, .inl a0] g (fX2_comes c a0 g) := CT.of (nr := 0) (by decide +kernel) (Nat.le_of_ble_eq_true rfl) (Or.inr (Or.inr rfl)) (wX2_comes c hc a0 g)
set_option maxRecDepth 20000 in
set_option maxHeartbeats 4000000 in
theorem wX2_countOfFate_L4 (c : Nat) (hc : CO c) (l1 : Int32) (K : Int32 → Int32 → Mem → Option (Int32 × Mem)) (hK : ∀ (l2 l3 : Int32) (g : Mem), aw mX2_countOfFate none 31 [some (.inr c), some (.inl l1), some (.inl l2), some (.inl l3)] [] g (K l2 l3 g)) : ∀ (n : Nat) (l2 l3 : Int32) (g : Mem), aw mX2_countOfFate none 4 [some (.inr c), some (.inl l1), some (.inl l2), some (.inl l3)] [] g (fX2_countOfFate_L4 c l1 K n l2 l3 g) := by
  intro n
  induction n with
  | zero => intro l2 l3 g; exact aw_none
  | succ n ih =>
    intro l2 l3 g
    rw [fX2_countOfFate_L4]
    refine aw_iload_n iX2_countOfFate_4 rfl rfl ?_
    refine aw_aload_n iX2_countOfFate_5 rfl rfl ?_
    refine aw_getI (own := "") iX2_countOfFate_6 flX2_57 (CO_lt0 hc) (CO_sh0 hc) rfl ?_
    refine aw_icmp_ge iX2_countOfFate_9 ?_ ?_
    · exact hK l2 l3 g
    · refine aw_aload_n iX2_countOfFate_12 rfl rfl ?_
      refine aw_getR (own := "") iX2_countOfFate_13 flX2_30 (CO_lt0 hc) (CO_sh0 hc) rfl ?_
      refine aw_iload_n iX2_countOfFate_16 rfl rfl ?_
      refine aw_iald iX2_countOfFate_17 (CO_lt7 hc) (CO_sh7 hc) (fun v1 _ => ?_)
      refine aw_iload_n iX2_countOfFate_18 rfl rfl ?_
      refine aw_icmp_ne iX2_countOfFate_19 ?_ ?_
      · refine aw_iinc (L' := [some (.inr c), some (.inl l1), some (.inl (l2 + (1 : Int32))), some (.inl l3)]) (v := l2 + (1 : Int32)) iX2_countOfFate_22 rfl rfl (Nat.le_of_ble_eq_true rfl) rfl ?_
        refine aw_iinc (L' := [some (.inr c), some (.inl l1), some (.inl (l2 + (1 : Int32))), some (.inl (l3 + (1 : Int32)))]) (v := l3 + (1 : Int32)) iX2_countOfFate_25 rfl rfl (Nat.le_of_ble_eq_true rfl) rfl ?_
        refine aw_goto iX2_countOfFate_28 ?_
        exact ih (l2 + (1 : Int32)) (l3 + (1 : Int32)) g
      · refine aw_iinc (L' := [some (.inr c), some (.inl l1), some (.inl l2), some (.inl (l3 + (1 : Int32)))]) (v := l3 + (1 : Int32)) iX2_countOfFate_25 rfl rfl (Nat.le_of_ble_eq_true rfl) rfl ?_
        refine aw_goto iX2_countOfFate_28 ?_
        exact ih l2 (l3 + (1 : Int32)) g
set_option maxRecDepth 20000 in
set_option maxHeartbeats 4000000 in
theorem wX2_countOfFate (c : Nat) (hc : CO c) (a0 : Int32) (g : Mem) : aw mX2_countOfFate none 0 [some (.inr c), some (.inl a0), none, none] [] g (fX2_countOfFate c a0 g) := by
  unfold fX2_countOfFate
  refine aw_iconst (v := 0) iX2_countOfFate_0 (by decide) ?_
  refine aw_istore_n (L' := [some (.inr c), some (.inl a0), some (.inl (0 : Int32)), none]) iX2_countOfFate_1 rfl (Nat.le_of_ble_eq_true rfl) rfl ?_
  refine aw_iconst (v := 0) iX2_countOfFate_2 (by decide) ?_
  refine aw_istore_n (L' := [some (.inr c), some (.inl a0), some (.inl (0 : Int32)), some (.inl (0 : Int32))]) iX2_countOfFate_3 rfl (Nat.le_of_ble_eq_true rfl) rfl ?_
  refine wX2_countOfFate_L4 c hc a0 _ (fun l2 l3 g4 => ?_) FU (0 : Int32) (0 : Int32) g
  refine aw_iload_n iX2_countOfFate_31 rfl rfl ?_
  exact aw_iret iX2_countOfFate_32 rfl
set_option maxRecDepth 20000 in
set_option maxHeartbeats 4000000 in
theorem kX2_countOfFate (c : Nat) (hc : CO c) (a0 : Int32) (g : Mem) : CT mX2_countOfFate [.inr c, .inl a0] g (fX2_countOfFate c a0 g) := CT.of (nr := 2) (by decide +kernel) (Nat.le_of_ble_eq_true rfl) (Or.inr (Or.inl rfl)) (wX2_countOfFate c hc a0 g)
set_option maxRecDepth 20000 in
set_option maxHeartbeats 4000000 in
theorem wX2_isOneWed (c : Nat) (hc : CO c) (g : Mem) : aw mX2_isOneWed none 0 [some (.inr c)] [] g (fX2_isOneWed c g) := by
  unfold fX2_isOneWed
  refine aw_aload_n iX2_isOneWed_0 rfl rfl ?_
  refine aw_iconst (v := 2) iX2_isOneWed_1 (by decide) ?_
  refine aw_callV (M' := mX2_countOfFate) (As := [.inl (2 : Int32)]) iX2_isOneWed_2 lkX2_91 mcX2_countOfFate mvX2_countOfFate rfl (CO_rc hc) (kX2_countOfFate c hc (2 : Int32) g) rfl (Nat.le_of_ble_eq_true rfl) ⟨Nat.le_of_ble_eq_true rfl, Nat.le_of_ble_eq_true rfl⟩ (fun r1 g2 => ?_)
  refine aw_if_le iX2_isOneWed_5 ?_ ?_
  · refine aw_iconst (v := 0) iX2_isOneWed_12 (by decide) ?_
    exact aw_zretK iX2_isOneWed_13 rfl (Or.inl rfl)
  · refine aw_iconst (v := 1) iX2_isOneWed_8 (by decide) ?_
    refine aw_goto iX2_isOneWed_9 ?_
    exact aw_zretK iX2_isOneWed_13 rfl (Or.inr rfl)
set_option maxRecDepth 20000 in
set_option maxHeartbeats 4000000 in
theorem kX2_isOneWed (c : Nat) (hc : CO c) (g : Mem) : CT mX2_isOneWed [.inr c] g (fX2_isOneWed c g) := CT.of (nr := 0) (by decide +kernel) (Nat.le_of_ble_eq_true rfl) (Or.inr (Or.inr rfl)) (wX2_isOneWed c hc g)
set_option maxRecDepth 20000 in
set_option maxHeartbeats 4000000 in
theorem wX2_answerHer (c : Nat) (hc : CO c) (a0 : Int32) (a1 : Int32) (g : Mem) : aw mX2_answerHer none 0 [some (.inr c), some (.inl a0), some (.inl a1), none] [] g (fX2_answerHer c a0 a1 g) := by
  unfold fX2_answerHer
  refine aw_aload_n iX2_answerHer_0 rfl rfl ?_
  refine aw_iload_n iX2_answerHer_1 rfl rfl ?_
  refine aw_iload_n iX2_answerHer_2 rfl rfl ?_
  refine aw_callV (M' := mX2_heSays) (As := [.inl a0, .inl a1]) iX2_answerHer_3 lkX2_94 mcX2_heSays mvX2_heSays rfl (CO_rc hc) (kX2_heSays c hc a0 a1 g) rfl (Nat.le_of_ble_eq_true rfl) ⟨Nat.le_of_ble_eq_true rfl, Nat.le_of_ble_eq_true rfl⟩ (fun r1 g2 => ?_)
  refine aw_istore_n (L' := [some (.inr c), some (.inl a0), some (.inl a1), some (.inl r1)]) iX2_answerHer_6 rfl (Nat.le_of_ble_eq_true rfl) rfl ?_
  refine aw_aload_n iX2_answerHer_7 rfl rfl ?_
  refine aw_dup iX2_answerHer_8 ?_
  refine aw_getI (own := "") iX2_answerHer_9 flX2_60 (CO_lt0 hc) (CO_sh0 hc) rfl ?_
  refine aw_iconst (v := 1) iX2_answerHer_12 (by decide) ?_
  refine aw_iload_n iX2_answerHer_13 rfl rfl ?_
  refine aw_ishl iX2_answerHer_14 ?_
  refine aw_ior iX2_answerHer_15 ?_
  refine aw_putI iX2_answerHer_16 fpX2_60 (CO_lt0 hc) (CO_sh0 hc) rfl (fun g3 _ => ?_)
  refine aw_iload_n iX2_answerHer_19 rfl rfl ?_
  refine aw_aload_n iX2_answerHer_20 rfl rfl ?_
  refine aw_iload_n iX2_answerHer_21 rfl rfl ?_
  refine aw_callV (M' := mX2_answer) (As := [.inl a1]) iX2_answerHer_22 lkX2_98 mcX2_answer mvX2_answer rfl (CO_rc hc) (kX2_answer c hc a1 g3) rfl (Nat.le_of_ble_eq_true rfl) ⟨Nat.le_of_ble_eq_true rfl, Nat.le_of_ble_eq_true rfl⟩ (fun r4 g5 => ?_)
  refine aw_icmp_eq iX2_answerHer_25 ?_ ?_
  · refine aw_aload_n iX2_answerHer_37 rfl rfl ?_
    refine aw_getR (own := "") iX2_answerHer_38 flX2_33 (CO_lt0 hc) (CO_sh0 hc) rfl ?_
    refine aw_iload_n iX2_answerHer_41 rfl rfl ?_
    refine aw_dup2 iX2_answerHer_42 ?_
    refine aw_iald iX2_answerHer_43 (CO_lt8 hc) (CO_sh8 hc) (fun v6 _ => ?_)
    refine aw_iconst (v := 1) iX2_answerHer_44 (by decide) ?_
    refine aw_iadd iX2_answerHer_45 ?_
    refine aw_iast iX2_answerHer_46 (CO_lt8 hc) (CO_sh8 hc) (fun g7 _ => ?_)
    refine aw_aload_n iX2_answerHer_47 rfl rfl ?_
    refine aw_getR (own := "") iX2_answerHer_48 flX2_33 (CO_lt0 hc) (CO_sh0 hc) rfl ?_
    refine aw_iload_n iX2_answerHer_51 rfl rfl ?_
    refine aw_iald iX2_answerHer_52 (CO_lt8 hc) (CO_sh8 hc) (fun v8 _ => ?_)
    refine aw_iconst (v := 3) iX2_answerHer_53 (by decide) ?_
    refine aw_icmp_lt iX2_answerHer_54 ?_ ?_
    · refine aw_iload_n iX2_answerHer_64 rfl rfl ?_
      exact aw_iret iX2_answerHer_65 rfl
    · refine aw_aload_n iX2_answerHer_57 rfl rfl ?_
      refine aw_getR (own := "") iX2_answerHer_58 flX2_30 (CO_lt0 hc) (CO_sh0 hc) rfl ?_
      refine aw_iload_n iX2_answerHer_61 rfl rfl ?_
      refine aw_iconst (v := 2) iX2_answerHer_62 (by decide) ?_
      refine aw_iast iX2_answerHer_63 (CO_lt7 hc) (CO_sh7 hc) (fun g9 _ => ?_)
      refine aw_iload_n iX2_answerHer_64 rfl rfl ?_
      exact aw_iret iX2_answerHer_65 rfl
  · refine aw_aload_n iX2_answerHer_28 rfl rfl ?_
    refine aw_getR (own := "") iX2_answerHer_29 flX2_30 (CO_lt0 hc) (CO_sh0 hc) rfl ?_
    refine aw_iload_n iX2_answerHer_32 rfl rfl ?_
    refine aw_iconst (v := 1) iX2_answerHer_33 (by decide) ?_
    refine aw_iast iX2_answerHer_34 (CO_lt7 hc) (CO_sh7 hc) (fun g10 _ => ?_)
    refine aw_iload_n iX2_answerHer_35 rfl rfl ?_
    exact aw_iret iX2_answerHer_36 rfl
set_option maxRecDepth 20000 in
set_option maxHeartbeats 4000000 in
theorem kX2_answerHer (c : Nat) (hc : CO c) (a0 : Int32) (a1 : Int32) (g : Mem) : CT mX2_answerHer [.inr c, .inl a0, .inl a1] g (fX2_answerHer c a0 a1 g) := CT.of (nr := 1) (by decide +kernel) (Nat.le_of_ble_eq_true rfl) (Or.inr (Or.inl rfl)) (wX2_answerHer c hc a0 a1 g)
set_option maxRecDepth 20000 in
set_option maxHeartbeats 4000000 in
theorem wX2_askHer (c : Nat) (hc : CO c) (a0 : Int32) (a1 : Int32) (g : Mem) : aw mX2_askHer none 0 [some (.inr c), some (.inl a0), some (.inl a1), none] [] g (fX2_askHer c a0 a1 g) := by
  unfold fX2_askHer
  refine aw_aload_n iX2_askHer_0 rfl rfl ?_
  refine aw_iload_n iX2_askHer_1 rfl rfl ?_
  refine aw_callV (M' := mX2_sheSays) (As := [.inl a1]) iX2_askHer_2 lkX2_101 mcX2_sheSays mvX2_sheSays rfl (CO_rc hc) (kX2_sheSays c hc a1 g) rfl (Nat.le_of_ble_eq_true rfl) ⟨Nat.le_of_ble_eq_true rfl, Nat.le_of_ble_eq_true rfl⟩ (fun r1 g2 => ?_)
  refine aw_istore_n (L' := [some (.inr c), some (.inl a0), some (.inl a1), some (.inl r1)]) iX2_askHer_5 rfl (Nat.le_of_ble_eq_true rfl) rfl ?_
  refine aw_aload_n iX2_askHer_6 rfl rfl ?_
  refine aw_dup iX2_askHer_7 ?_
  refine aw_getI (own := "") iX2_askHer_8 flX2_60 (CO_lt0 hc) (CO_sh0 hc) rfl ?_
  refine aw_iconst (v := 1) iX2_askHer_11 (by decide) ?_
  refine aw_iload_n iX2_askHer_12 rfl rfl ?_
  refine aw_ishl iX2_askHer_13 ?_
  refine aw_ior iX2_askHer_14 ?_
  refine aw_putI iX2_askHer_15 fpX2_60 (CO_lt0 hc) (CO_sh0 hc) rfl (fun g3 _ => ?_)
  refine aw_aload_n iX2_askHer_18 rfl rfl ?_
  refine aw_getR (own := "") iX2_askHer_19 flX2_36 (CO_lt0 hc) (CO_sh0 hc) rfl ?_
  refine aw_iload_n iX2_askHer_22 rfl rfl ?_
  refine aw_iconst (v := 1) iX2_askHer_23 (by decide) ?_
  refine aw_iast iX2_askHer_24 (CO_lt9 hc) (CO_sh9 hc) (fun g4 _ => ?_)
  refine aw_iload_n iX2_askHer_25 rfl rfl ?_
  refine aw_aload_n iX2_askHer_26 rfl rfl ?_
  refine aw_iload_n iX2_askHer_27 rfl rfl ?_
  refine aw_callV (M' := mX2_answer) (As := [.inl a1]) iX2_askHer_28 lkX2_98 mcX2_answer mvX2_answer rfl (CO_rc hc) (kX2_answer c hc a1 g4) rfl (Nat.le_of_ble_eq_true rfl) ⟨Nat.le_of_ble_eq_true rfl, Nat.le_of_ble_eq_true rfl⟩ (fun r5 g6 => ?_)
  refine aw_icmp_eq iX2_askHer_31 ?_ ?_
  · refine aw_iload_n iX2_askHer_41 rfl rfl ?_
    exact aw_iret iX2_askHer_42 rfl
  · refine aw_aload_n iX2_askHer_34 rfl rfl ?_
    refine aw_getR (own := "") iX2_askHer_35 flX2_30 (CO_lt0 hc) (CO_sh0 hc) rfl ?_
    refine aw_iload_n iX2_askHer_38 rfl rfl ?_
    refine aw_iconst (v := 3) iX2_askHer_39 (by decide) ?_
    refine aw_iast iX2_askHer_40 (CO_lt7 hc) (CO_sh7 hc) (fun g7 _ => ?_)
    refine aw_iload_n iX2_askHer_41 rfl rfl ?_
    exact aw_iret iX2_askHer_42 rfl
set_option maxRecDepth 20000 in
set_option maxHeartbeats 4000000 in
theorem kX2_askHer (c : Nat) (hc : CO c) (a0 : Int32) (a1 : Int32) (g : Mem) : CT mX2_askHer [.inr c, .inl a0, .inl a1] g (fX2_askHer c a0 a1 g) := CT.of (nr := 1) (by decide +kernel) (Nat.le_of_ble_eq_true rfl) (Or.inr (Or.inl rfl)) (wX2_askHer c hc a0 a1 g)
set_option maxRecDepth 20000 in
set_option maxHeartbeats 4000000 in
theorem wX2_cost_L4 (c : Nat) (hc : CO c) (l1 : Int32) (K : Int32 → Int32 → Mem → Option (Int32 × Mem)) (hK : ∀ (l2 l3 : Int32) (g : Mem), aw mX2_cost none 42 [some (.inr c), some (.inl l1), some (.inl l2), some (.inl l3)] [] g (K l2 l3 g)) : ∀ (n : Nat) (l2 l3 : Int32) (g : Mem), aw mX2_cost none 4 [some (.inr c), some (.inl l1), some (.inl l2), some (.inl l3)] [] g (fX2_cost_L4 c l1 K n l2 l3 g) := by
  intro n
  induction n with
  | zero => intro l2 l3 g; exact aw_none
  | succ n ih =>
    intro l2 l3 g
    rw [fX2_cost_L4]
    refine aw_iload_n iX2_cost_4 rfl rfl ?_
    refine aw_aload_n iX2_cost_5 rfl rfl ?_
    refine aw_getI (own := "") iX2_cost_6 flX2_54 (CO_lt0 hc) (CO_sh0 hc) rfl ?_
    refine aw_icmp_ge iX2_cost_9 ?_ ?_
    · exact hK l2 l3 g
    · refine aw_aload_n iX2_cost_12 rfl rfl ?_
      refine aw_iload_n iX2_cost_13 rfl rfl ?_
      refine aw_callV (M' := mX2_wasUsed) (As := [.inl l3]) iX2_cost_14 lkX2_107 mcX2_wasUsed mvX2_wasUsed rfl (CO_rc hc) (kX2_wasUsed c hc l3 g) rfl (Nat.le_of_ble_eq_true rfl) ⟨Nat.le_of_ble_eq_true rfl, Nat.le_of_ble_eq_true rfl⟩ (fun r1 g2 => ?_)
      refine aw_if_ne iX2_cost_17 ?_ ?_
      · refine aw_aload_n iX2_cost_20 rfl rfl ?_
        refine aw_iload_n iX2_cost_21 rfl rfl ?_
        refine aw_callV (M' := mX2_answer) (As := [.inl l3]) iX2_cost_22 lkX2_98 mcX2_answer mvX2_answer rfl (CO_rc hc) (kX2_answer c hc l3 g2) rfl (Nat.le_of_ble_eq_true rfl) ⟨Nat.le_of_ble_eq_true rfl, Nat.le_of_ble_eq_true rfl⟩ (fun r3 g4 => ?_)
        refine aw_iload_n iX2_cost_25 rfl rfl ?_
        refine aw_icmp_ne iX2_cost_26 ?_ ?_
        · refine aw_iload_n iX2_cost_29 rfl rfl ?_
          refine aw_aload_n iX2_cost_30 rfl rfl ?_
          refine aw_getI (own := "") iX2_cost_31 flX2_75 (CO_lt0 hc) (CO_sh0 hc) rfl ?_
          refine aw_iadd iX2_cost_34 ?_
          refine aw_lt (fun x5 => ?_)
          refine aw_istore_n (L' := [some (.inr c), some (.inl l1), some (.inl x5), some (.inl l3)]) iX2_cost_35 rfl (Nat.le_of_ble_eq_true rfl) rfl ?_
          refine aw_iinc (L' := [some (.inr c), some (.inl l1), some (.inl x5), some (.inl (l3 + (1 : Int32)))]) (v := l3 + (1 : Int32)) iX2_cost_36 rfl rfl (Nat.le_of_ble_eq_true rfl) rfl ?_
          refine aw_goto iX2_cost_39 ?_
          exact ih x5 (l3 + (1 : Int32)) g4
        · refine aw_iinc (L' := [some (.inr c), some (.inl l1), some (.inl l2), some (.inl (l3 + (1 : Int32)))]) (v := l3 + (1 : Int32)) iX2_cost_36 rfl rfl (Nat.le_of_ble_eq_true rfl) rfl ?_
          refine aw_goto iX2_cost_39 ?_
          exact ih l2 (l3 + (1 : Int32)) g4
      · refine aw_iinc (L' := [some (.inr c), some (.inl l1), some (.inl l2), some (.inl (l3 + (1 : Int32)))]) (v := l3 + (1 : Int32)) iX2_cost_36 rfl rfl (Nat.le_of_ble_eq_true rfl) rfl ?_
        refine aw_goto iX2_cost_39 ?_
        exact ih l2 (l3 + (1 : Int32)) g2
set_option maxRecDepth 20000 in
set_option maxHeartbeats 4000000 in
theorem wX2_cost (c : Nat) (hc : CO c) (a0 : Int32) (g : Mem) : aw mX2_cost none 0 [some (.inr c), some (.inl a0), none, none] [] g (fX2_cost c a0 g) := by
  unfold fX2_cost
  refine aw_iconst (v := 0) iX2_cost_0 (by decide) ?_
  refine aw_istore_n (L' := [some (.inr c), some (.inl a0), some (.inl (0 : Int32)), none]) iX2_cost_1 rfl (Nat.le_of_ble_eq_true rfl) rfl ?_
  refine aw_iconst (v := 0) iX2_cost_2 (by decide) ?_
  refine aw_istore_n (L' := [some (.inr c), some (.inl a0), some (.inl (0 : Int32)), some (.inl (0 : Int32))]) iX2_cost_3 rfl (Nat.le_of_ble_eq_true rfl) rfl ?_
  refine wX2_cost_L4 c hc a0 _ (fun l6 l7 g8 => ?_) FU (0 : Int32) (0 : Int32) g
  refine aw_iload_n iX2_cost_42 rfl rfl ?_
  exact aw_iret iX2_cost_43 rfl
set_option maxRecDepth 20000 in
set_option maxHeartbeats 4000000 in
theorem kX2_cost (c : Nat) (hc : CO c) (a0 : Int32) (g : Mem) : CT mX2_cost [.inr c, .inl a0] g (fX2_cost c a0 g) := CT.of (nr := 2) (by decide +kernel) (Nat.le_of_ble_eq_true rfl) (Or.inr (Or.inl rfl)) (wX2_cost c hc a0 g)
set_option maxRecDepth 20000 in
set_option maxHeartbeats 4000000 in
theorem wX2_sell (c : Nat) (hc : CO c) (a0 : Int32) (a1 : Int32) (g : Mem) : aw mX2_sell none 0 [some (.inr c), some (.inl a0), some (.inl a1), none] [] g (fX2_sell c a0 a1 g) := by
  unfold fX2_sell
  refine aw_aload_n iX2_sell_0 rfl rfl ?_
  refine aw_iload_n iX2_sell_1 rfl rfl ?_
  refine aw_callV (M' := mX2_cost) (As := [.inl a1]) iX2_sell_2 lkX2_104 mcX2_cost mvX2_cost rfl (CO_rc hc) (kX2_cost c hc a1 g) rfl (Nat.le_of_ble_eq_true rfl) ⟨Nat.le_of_ble_eq_true rfl, Nat.le_of_ble_eq_true rfl⟩ (fun r1 g2 => ?_)
  refine aw_istore_n (L' := [some (.inr c), some (.inl a0), some (.inl a1), some (.inl r1)]) iX2_sell_5 rfl (Nat.le_of_ble_eq_true rfl) rfl ?_
  refine aw_aload_n iX2_sell_6 rfl rfl ?_
  refine aw_getR (own := "") iX2_sell_7 flX2_27 (CO_lt0 hc) (CO_sh0 hc) rfl ?_
  refine aw_iload_n iX2_sell_10 rfl rfl ?_
  refine aw_dup2 iX2_sell_11 ?_
  refine aw_iald iX2_sell_12 (CO_lt6 hc) (CO_sh6 hc) (fun v3 _ => ?_)
  refine aw_iconst (v := 1) iX2_sell_13 (by decide) ?_
  refine aw_iload_n iX2_sell_14 rfl rfl ?_
  refine aw_ishl iX2_sell_15 ?_
  refine aw_ior iX2_sell_16 ?_
  refine aw_iast iX2_sell_17 (CO_lt6 hc) (CO_sh6 hc) (fun g4 _ => ?_)
  refine aw_aload_n iX2_sell_18 rfl rfl ?_
  refine aw_dup iX2_sell_19 ?_
  refine aw_getI (own := "") iX2_sell_20 flX2_63 (CO_lt0 hc) (CO_sh0 hc) rfl ?_
  refine aw_iload_n iX2_sell_23 rfl rfl ?_
  refine aw_iadd iX2_sell_24 ?_
  refine aw_putI iX2_sell_25 fpX2_63 (CO_lt0 hc) (CO_sh0 hc) rfl (fun g5 _ => ?_)
  refine aw_iload_n iX2_sell_28 rfl rfl ?_
  exact aw_iret iX2_sell_29 rfl
set_option maxRecDepth 20000 in
set_option maxHeartbeats 4000000 in
theorem kX2_sell (c : Nat) (hc : CO c) (a0 : Int32) (a1 : Int32) (g : Mem) : CT mX2_sell [.inr c, .inl a0, .inl a1] g (fX2_sell c a0 a1 g) := CT.of (nr := 1) (by decide +kernel) (Nat.le_of_ble_eq_true rfl) (Or.inr (Or.inl rfl)) (wX2_sell c hc a0 a1 g)
set_option maxRecDepth 20000 in
set_option maxHeartbeats 4000000 in
theorem wX2_costOfAll_L4 (c : Nat) (hc : CO c) (l1 : Int32) (K : Int32 → Int32 → Mem → Option (Int32 × Mem)) (hK : ∀ (l2 l3 : Int32) (g : Mem), aw mX2_costOfAll none 34 [some (.inr c), some (.inl l1), some (.inl l2), some (.inl l3)] [] g (K l2 l3 g)) : ∀ (n : Nat) (l2 l3 : Int32) (g : Mem), aw mX2_costOfAll none 4 [some (.inr c), some (.inl l1), some (.inl l2), some (.inl l3)] [] g (fX2_costOfAll_L4 c l1 K n l2 l3 g) := by
  intro n
  induction n with
  | zero => intro l2 l3 g; exact aw_none
  | succ n ih =>
    intro l2 l3 g
    rw [fX2_costOfAll_L4]
    refine aw_iload_n iX2_costOfAll_4 rfl rfl ?_
    refine aw_aload_n iX2_costOfAll_5 rfl rfl ?_
    refine aw_getI (own := "") iX2_costOfAll_6 flX2_50 (CO_lt0 hc) (CO_sh0 hc) rfl ?_
    refine aw_icmp_ge iX2_costOfAll_9 ?_ ?_
    · exact hK l2 l3 g
    · refine aw_iload_n iX2_costOfAll_12 rfl rfl ?_
      refine aw_iload_n iX2_costOfAll_13 rfl rfl ?_
      refine aw_ishr iX2_costOfAll_14 ?_
      refine aw_iconst (v := 1) iX2_costOfAll_15 (by decide) ?_
      refine aw_iand iX2_costOfAll_16 ?_
      refine aw_if_eq iX2_costOfAll_17 ?_ ?_
      · refine aw_iinc (L' := [some (.inr c), some (.inl l1), some (.inl l2), some (.inl (l3 + (1 : Int32)))]) (v := l3 + (1 : Int32)) iX2_costOfAll_28 rfl rfl (Nat.le_of_ble_eq_true rfl) rfl ?_
        refine aw_goto iX2_costOfAll_31 ?_
        exact ih l2 (l3 + (1 : Int32)) g
      · refine aw_iload_n iX2_costOfAll_20 rfl rfl ?_
        refine aw_aload_n iX2_costOfAll_21 rfl rfl ?_
        refine aw_iload_n iX2_costOfAll_22 rfl rfl ?_
        refine aw_callV (M' := mX2_cost) (As := [.inl l3]) iX2_costOfAll_23 lkX2_104 mcX2_cost mvX2_cost rfl (CO_rc hc) (kX2_cost c hc l3 g) rfl (Nat.le_of_ble_eq_true rfl) ⟨Nat.le_of_ble_eq_true rfl, Nat.le_of_ble_eq_true rfl⟩ (fun r1 g2 => ?_)
        refine aw_iadd iX2_costOfAll_26 ?_
        refine aw_lt (fun x3 => ?_)
        refine aw_istore_n (L' := [some (.inr c), some (.inl l1), some (.inl x3), some (.inl l3)]) iX2_costOfAll_27 rfl (Nat.le_of_ble_eq_true rfl) rfl ?_
        refine aw_iinc (L' := [some (.inr c), some (.inl l1), some (.inl x3), some (.inl (l3 + (1 : Int32)))]) (v := l3 + (1 : Int32)) iX2_costOfAll_28 rfl rfl (Nat.le_of_ble_eq_true rfl) rfl ?_
        refine aw_goto iX2_costOfAll_31 ?_
        exact ih x3 (l3 + (1 : Int32)) g2
set_option maxRecDepth 20000 in
set_option maxHeartbeats 4000000 in
theorem wX2_costOfAll (c : Nat) (hc : CO c) (a0 : Int32) (g : Mem) : aw mX2_costOfAll none 0 [some (.inr c), some (.inl a0), none, none] [] g (fX2_costOfAll c a0 g) := by
  unfold fX2_costOfAll
  refine aw_iconst (v := 0) iX2_costOfAll_0 (by decide) ?_
  refine aw_istore_n (L' := [some (.inr c), some (.inl a0), some (.inl (0 : Int32)), none]) iX2_costOfAll_1 rfl (Nat.le_of_ble_eq_true rfl) rfl ?_
  refine aw_iconst (v := 0) iX2_costOfAll_2 (by decide) ?_
  refine aw_istore_n (L' := [some (.inr c), some (.inl a0), some (.inl (0 : Int32)), some (.inl (0 : Int32))]) iX2_costOfAll_3 rfl (Nat.le_of_ble_eq_true rfl) rfl ?_
  refine wX2_costOfAll_L4 c hc a0 _ (fun l4 l5 g6 => ?_) FU (0 : Int32) (0 : Int32) g
  refine aw_iload_n iX2_costOfAll_34 rfl rfl ?_
  exact aw_iret iX2_costOfAll_35 rfl
set_option maxRecDepth 20000 in
set_option maxHeartbeats 4000000 in
theorem kX2_costOfAll (c : Nat) (hc : CO c) (a0 : Int32) (g : Mem) : CT mX2_costOfAll [.inr c, .inl a0] g (fX2_costOfAll c a0 g) := CT.of (nr := 2) (by decide +kernel) (Nat.le_of_ble_eq_true rfl) (Or.inr (Or.inl rfl)) (wX2_costOfAll c hc a0 g)
set_option maxRecDepth 20000 in
set_option maxHeartbeats 4000000 in
theorem wX3_onlyThing (a1 : Int32) (a2 : Int32) (g : Mem) : aw mX3_onlyThing none 0 [some (.inr 7), some (.inl a1), some (.inl a2), none, none, none] [] g (fX3_onlyThing a1 a2 g) := by
  unfold fX3_onlyThing
  refine aw_iload_n iX3_onlyThing_0 rfl rfl ?_
  refine aw_iconst (v := 5) iX3_onlyThing_1 (by decide) ?_
  refine aw_ishr iX3_onlyThing_2 ?_
  refine aw_lt (fun x1 => ?_)
  refine aw_istore_n (L' := [some (.inr 7), some (.inl a1), some (.inl a2), some (.inl x1), none, none]) iX3_onlyThing_3 rfl (Nat.le_of_ble_eq_true rfl) rfl ?_
  refine aw_iload_n iX3_onlyThing_4 rfl rfl ?_
  refine aw_bipush (v := 31) iX3_onlyThing_5 (by decide) ?_
  refine aw_iand iX3_onlyThing_7 ?_
  refine aw_lt (fun x2 => ?_)
  refine aw_istore (L' := [some (.inr 7), some (.inl a1), some (.inl a2), some (.inl x1), some (.inl x2), none]) iX3_onlyThing_8 (Nat.le_of_ble_eq_true rfl) rfl ?_
  refine aw_iload_n iX3_onlyThing_10 rfl rfl ?_
  refine aw_iload iX3_onlyThing_11 rfl ?_
  refine aw_iand iX3_onlyThing_13 ?_
  refine aw_if_eq iX3_onlyThing_14 ?_ ?_
  · refine aw_aload_n iX3_onlyThing_20 rfl rfl ?_
    refine aw_iload_n iX3_onlyThing_21 rfl rfl ?_
    refine aw_iload_n iX3_onlyThing_22 rfl rfl ?_
    refine aw_iload iX3_onlyThing_23 rfl ?_
    refine aw_callV (M' := mX2_thingsFitting) (As := [.inl a1, .inl x1, .inl x2]) iX3_onlyThing_25 lkX3_33 mcX2_thingsFitting mvX2_thingsFitting rfl zrc7 (kX2_thingsFitting 7 (CO_of7) a1 x1 x2 g) rfl (Nat.le_of_ble_eq_true rfl) ⟨Nat.le_of_ble_eq_true rfl, Nat.le_of_ble_eq_true rfl⟩ (fun r3 g4 => ?_)
    refine aw_istore (L' := [some (.inr 7), some (.inl a1), some (.inl a2), some (.inl x1), some (.inl x2), some (.inl r3)]) iX3_onlyThing_28 (Nat.le_of_ble_eq_true rfl) rfl ?_
    refine aw_iload iX3_onlyThing_30 rfl ?_
    refine aw_callS (M' := mJ6_bitCount_0f7a4) (As := [.inl r3]) iX3_onlyThing_32 lkX3_37 mcJ6_bitCount_0f7a4 msJ6_bitCount_0f7a4 rfl (kJ6_bitCount_0f7a4 r3 g4) rfl (Nat.le_of_ble_eq_true rfl) ⟨Nat.le_of_ble_eq_true rfl, Nat.le_of_ble_eq_true rfl⟩ (fun r5 g6 => ?_)
    refine aw_iconst (v := 1) iX3_onlyThing_35 (by decide) ?_
    refine aw_icmp_ne iX3_onlyThing_36 ?_ ?_
    · refine aw_iload iX3_onlyThing_39 rfl ?_
      refine aw_callS (M' := mX2_least) (As := [.inl r3]) iX3_onlyThing_41 lkX3_43 mcX2_least msX2_least rfl (kX2_least r3 g6) rfl (Nat.le_of_ble_eq_true rfl) ⟨Nat.le_of_ble_eq_true rfl, Nat.le_of_ble_eq_true rfl⟩ (fun r7 g8 => ?_)
      refine aw_goto iX3_onlyThing_44 ?_
      exact aw_iret iX3_onlyThing_49 rfl
    · refine aw_ldc (v := (-1000000)) iX3_onlyThing_47 kcX3_20 ?_
      exact aw_iret iX3_onlyThing_49 rfl
  · refine aw_ldc (v := (-1000000)) iX3_onlyThing_17 kcX3_20 ?_
    exact aw_iret iX3_onlyThing_19 rfl
set_option maxRecDepth 20000 in
set_option maxHeartbeats 4000000 in
theorem kX3_onlyThing (a1 : Int32) (a2 : Int32) (g : Mem) : CT mX3_onlyThing [.inr 7, .inl a1, .inl a2] g (fX3_onlyThing a1 a2 g) := CT.of (nr := 3) (by decide +kernel) (Nat.le_of_ble_eq_true rfl) (Or.inr (Or.inl rfl)) (wX3_onlyThing a1 a2 g)
set_option maxRecDepth 20000 in
set_option maxHeartbeats 4000000 in
theorem wX3_riddleAgainst_L10 (l2 : Int32) (l3 : Int32) (l4 : Int32) (K : Int32 → Int32 → Int32 → Mem → Option (Int32 × Mem)) (hK : ∀ (l5 l6 l7 : Int32) (g : Mem), aw mX3_riddleAgainst none 67 [some (.inr 55), some (.inr 7), some (.inl l2), some (.inl l3), some (.inl l4), some (.inl l5), some (.inl l6), some (.inl l7), none] [] g (K l5 l6 l7 g)) : ∀ (n : Nat) (l5 l6 l7 : Int32) (g : Mem), aw mX3_riddleAgainst none 10 [some (.inr 55), some (.inr 7), some (.inl l2), some (.inl l3), some (.inl l4), some (.inl l5), some (.inl l6), some (.inl l7), none] [] g (fX3_riddleAgainst_L10 l2 l3 l4 K n l5 l6 l7 g) := by
  intro n
  induction n with
  | zero => intro l5 l6 l7 g; exact aw_none
  | succ n ih =>
    intro l5 l6 l7 g
    rw [fX3_riddleAgainst_L10]
    refine aw_iload iX3_riddleAgainst_10 rfl ?_
    refine aw_sipush (v := 1024) iX3_riddleAgainst_12 (by decide) ?_
    refine aw_icmp_ge iX3_riddleAgainst_15 ?_ ?_
    · exact hK l5 l6 l7 g
    · refine aw_aload_n iX3_riddleAgainst_18 rfl rfl ?_
      refine aw_iload_n iX3_riddleAgainst_19 rfl rfl ?_
      refine aw_iload iX3_riddleAgainst_20 rfl ?_
      refine aw_callS (M' := mX3_onlyThing) (As := [.inr 7, .inl l3, .inl l7]) iX3_riddleAgainst_22 lkX3_21 mcX3_onlyThing msX3_onlyThing rfl (kX3_onlyThing l3 l7 g) rfl (Nat.le_of_ble_eq_true rfl) ⟨Nat.le_of_ble_eq_true rfl, Nat.le_of_ble_eq_true rfl⟩ (fun r1 g2 => ?_)
      refine aw_istore (L' := [some (.inr 55), some (.inr 7), some (.inl l2), some (.inl l3), some (.inl l4), some (.inl l5), some (.inl l6), some (.inl l7), some (.inl r1)]) iX3_riddleAgainst_25 (Nat.le_of_ble_eq_true rfl) rfl ?_
      refine aw_iload iX3_riddleAgainst_27 rfl ?_
      refine aw_ldc (v := (-1000000)) iX3_riddleAgainst_29 kcX3_20 ?_
      refine aw_icmp_eq iX3_riddleAgainst_31 ?_ ?_
      · refine aw_iinc (L' := [some (.inr 55), some (.inr 7), some (.inl l2), some (.inl l3), some (.inl l4), some (.inl l5), some (.inl l6), some (.inl (l7 + (1 : Int32))), some (.inl r1)]) (v := l7 + (1 : Int32)) iX3_riddleAgainst_61 rfl rfl (Nat.le_of_ble_eq_true rfl) rfl ?_
        refine aw_goto iX3_riddleAgainst_64 ?_
        refine aw_msk [true, true, true, true, true, true, true, true, false] rfl ?_
        exact ih l5 l6 (l7 + (1 : Int32)) g2
      · refine aw_aload_n iX3_riddleAgainst_34 rfl rfl ?_
        refine aw_iload_n iX3_riddleAgainst_35 rfl rfl ?_
        refine aw_iload iX3_riddleAgainst_36 rfl ?_
        refine aw_callV (M' := mX2_isKnown) (As := [.inl l2, .inl r1]) iX3_riddleAgainst_38 lkX3_25 mcX2_isKnown mvX2_isKnown rfl zrc7 (kX2_isKnown 7 (CO_of7) l2 r1 g2) rfl (Nat.le_of_ble_eq_true rfl) ⟨Nat.le_of_ble_eq_true rfl, Nat.le_of_ble_eq_true rfl⟩ (fun r3 g4 => ?_)
        refine aw_if_ne iX3_riddleAgainst_41 ?_ ?_
        · refine aw_iload iX3_riddleAgainst_44 rfl ?_
          refine aw_if_ne iX3_riddleAgainst_46 ?_ ?_
          · refine aw_iload iX3_riddleAgainst_49 rfl ?_
            refine aw_goto iX3_riddleAgainst_51 ?_
            refine aw_istore (L' := [some (.inr 55), some (.inr 7), some (.inl l2), some (.inl l3), some (.inl l4), some (.inl l7), some (.inl l6), some (.inl l7), some (.inl r1)]) iX3_riddleAgainst_56 (Nat.le_of_ble_eq_true rfl) rfl ?_
            refine aw_iinc (L' := [some (.inr 55), some (.inr 7), some (.inl l2), some (.inl l3), some (.inl l4), some (.inl l7), some (.inl (l6 + (1 : Int32))), some (.inl l7), some (.inl r1)]) (v := l6 + (1 : Int32)) iX3_riddleAgainst_58 rfl rfl (Nat.le_of_ble_eq_true rfl) rfl ?_
            refine aw_iinc (L' := [some (.inr 55), some (.inr 7), some (.inl l2), some (.inl l3), some (.inl l4), some (.inl l7), some (.inl (l6 + (1 : Int32))), some (.inl (l7 + (1 : Int32))), some (.inl r1)]) (v := l7 + (1 : Int32)) iX3_riddleAgainst_61 rfl rfl (Nat.le_of_ble_eq_true rfl) rfl ?_
            refine aw_goto iX3_riddleAgainst_64 ?_
            refine aw_msk [true, true, true, true, true, true, true, true, false] rfl ?_
            exact ih l7 (l6 + (1 : Int32)) (l7 + (1 : Int32)) g4
          · refine aw_iload iX3_riddleAgainst_54 rfl ?_
            refine aw_istore (L' := [some (.inr 55), some (.inr 7), some (.inl l2), some (.inl l3), some (.inl l4), some (.inl l5), some (.inl l6), some (.inl l7), some (.inl r1)]) iX3_riddleAgainst_56 (Nat.le_of_ble_eq_true rfl) rfl ?_
            refine aw_iinc (L' := [some (.inr 55), some (.inr 7), some (.inl l2), some (.inl l3), some (.inl l4), some (.inl l5), some (.inl (l6 + (1 : Int32))), some (.inl l7), some (.inl r1)]) (v := l6 + (1 : Int32)) iX3_riddleAgainst_58 rfl rfl (Nat.le_of_ble_eq_true rfl) rfl ?_
            refine aw_iinc (L' := [some (.inr 55), some (.inr 7), some (.inl l2), some (.inl l3), some (.inl l4), some (.inl l5), some (.inl (l6 + (1 : Int32))), some (.inl (l7 + (1 : Int32))), some (.inl r1)]) (v := l7 + (1 : Int32)) iX3_riddleAgainst_61 rfl rfl (Nat.le_of_ble_eq_true rfl) rfl ?_
            refine aw_goto iX3_riddleAgainst_64 ?_
            refine aw_msk [true, true, true, true, true, true, true, true, false] rfl ?_
            exact ih l5 (l6 + (1 : Int32)) (l7 + (1 : Int32)) g4
        · refine aw_iinc (L' := [some (.inr 55), some (.inr 7), some (.inl l2), some (.inl l3), some (.inl l4), some (.inl l5), some (.inl l6), some (.inl (l7 + (1 : Int32))), some (.inl r1)]) (v := l7 + (1 : Int32)) iX3_riddleAgainst_61 rfl rfl (Nat.le_of_ble_eq_true rfl) rfl ?_
          refine aw_goto iX3_riddleAgainst_64 ?_
          refine aw_msk [true, true, true, true, true, true, true, true, false] rfl ?_
          exact ih l5 l6 (l7 + (1 : Int32)) g4
set_option maxRecDepth 20000 in
set_option maxHeartbeats 4000000 in
theorem wX3_riddleAgainst (a1 : Int32) (a2 : Int32) (a3 : Int32) (g : Mem) : aw mX3_riddleAgainst none 0 [some (.inr 55), some (.inr 7), some (.inl a1), some (.inl a2), some (.inl a3), none, none, none, none] [] g (fX3_riddleAgainst a1 a2 a3 g) := by
  unfold fX3_riddleAgainst
  refine aw_ldc (v := (-1000000)) iX3_riddleAgainst_0 kcX3_20 ?_
  refine aw_istore (L' := [some (.inr 55), some (.inr 7), some (.inl a1), some (.inl a2), some (.inl a3), some (.inl (-1000000 : Int32)), none, none, none]) iX3_riddleAgainst_2 (Nat.le_of_ble_eq_true rfl) rfl ?_
  refine aw_iconst (v := 0) iX3_riddleAgainst_4 (by decide) ?_
  refine aw_istore (L' := [some (.inr 55), some (.inr 7), some (.inl a1), some (.inl a2), some (.inl a3), some (.inl (-1000000 : Int32)), some (.inl (0 : Int32)), none, none]) iX3_riddleAgainst_5 (Nat.le_of_ble_eq_true rfl) rfl ?_
  refine aw_iconst (v := 0) iX3_riddleAgainst_7 (by decide) ?_
  refine aw_istore (L' := [some (.inr 55), some (.inr 7), some (.inl a1), some (.inl a2), some (.inl a3), some (.inl (-1000000 : Int32)), some (.inl (0 : Int32)), some (.inl (0 : Int32)), none]) iX3_riddleAgainst_8 (Nat.le_of_ble_eq_true rfl) rfl ?_
  refine wX3_riddleAgainst_L10 a1 a2 a3 _ (fun l5 l6 l7 g8 => ?_) FU (-1000000 : Int32) (0 : Int32) (0 : Int32) g
  refine aw_iload iX3_riddleAgainst_67 rfl ?_
  refine aw_if_ne iX3_riddleAgainst_69 ?_ ?_
  · refine aw_iload iX3_riddleAgainst_72 rfl ?_
    refine aw_goto iX3_riddleAgainst_74 ?_
    exact aw_iret iX3_riddleAgainst_79 rfl
  · refine aw_iload iX3_riddleAgainst_77 rfl ?_
    exact aw_iret iX3_riddleAgainst_79 rfl
set_option maxRecDepth 20000 in
set_option maxHeartbeats 4000000 in
theorem kX3_riddleAgainst (a1 : Int32) (a2 : Int32) (a3 : Int32) (g : Mem) : CT mX3_riddleAgainst [.inr 55, .inr 7, .inl a1, .inl a2, .inl a3] g (fX3_riddleAgainst a1 a2 a3 g) := CT.of (nr := 4) (by decide +kernel) (Nat.le_of_ble_eq_true rfl) (Or.inr (Or.inl rfl)) (wX3_riddleAgainst a1 a2 a3 g)
set_option maxRecDepth 20000 in
set_option maxHeartbeats 4000000 in
theorem wX3_comingWithout_L4 (l1 : Int32) (K : Int32 → Int32 → Mem → Option (Int32 × Mem)) (hK : ∀ (l2 l3 : Int32) (g : Mem), aw mX3_comingWithout none 38 [some (.inr 7), some (.inl l1), some (.inl l2), some (.inl l3)] [] g (K l2 l3 g)) : ∀ (n : Nat) (l2 l3 : Int32) (g : Mem), aw mX3_comingWithout none 4 [some (.inr 7), some (.inl l1), some (.inl l2), some (.inl l3)] [] g (fX3_comingWithout_L4 l1 K n l2 l3 g) := by
  intro n
  induction n with
  | zero => intro l2 l3 g; exact aw_none
  | succ n ih =>
    intro l2 l3 g
    rw [fX3_comingWithout_L4]
    refine aw_iload_n iX3_comingWithout_4 rfl rfl ?_
    refine aw_aload_n iX3_comingWithout_5 rfl rfl ?_
    refine aw_getI (own := "") iX3_comingWithout_6 flX3_46 zlt7 zsh7 rfl ?_
    refine aw_icmp_ge iX3_comingWithout_9 ?_ ?_
    · exact hK l2 l3 g
    · refine aw_aload_n iX3_comingWithout_12 rfl rfl ?_
      refine aw_iload_n iX3_comingWithout_13 rfl rfl ?_
      refine aw_callV (M' := mX2_comes) (As := [.inl l3]) iX3_comingWithout_14 lkX3_50 mcX2_comes mvX2_comes rfl zrc7 (kX2_comes 7 (CO_of7) l3 g) rfl (Nat.le_of_ble_eq_true rfl) ⟨Nat.le_of_ble_eq_true rfl, Nat.le_of_ble_eq_true rfl⟩ (fun r1 g2 => ?_)
      refine aw_if_eq iX3_comingWithout_17 ?_ ?_
      · refine aw_iinc (L' := [some (.inr 7), some (.inl l1), some (.inl l2), some (.inl (l3 + (1 : Int32)))]) (v := l3 + (1 : Int32)) iX3_comingWithout_32 rfl rfl (Nat.le_of_ble_eq_true rfl) rfl ?_
        refine aw_goto iX3_comingWithout_35 ?_
        exact ih l2 (l3 + (1 : Int32)) g2
      · refine aw_aload_n iX3_comingWithout_20 rfl rfl ?_
        refine aw_iload_n iX3_comingWithout_21 rfl rfl ?_
        refine aw_iload_n iX3_comingWithout_22 rfl rfl ?_
        refine aw_callV (M' := mX2_isKnown) (As := [.inl l3, .inl l1]) iX3_comingWithout_23 lkX3_25 mcX2_isKnown mvX2_isKnown rfl zrc7 (kX2_isKnown 7 (CO_of7) l3 l1 g2) rfl (Nat.le_of_ble_eq_true rfl) ⟨Nat.le_of_ble_eq_true rfl, Nat.le_of_ble_eq_true rfl⟩ (fun r3 g4 => ?_)
        refine aw_if_ne iX3_comingWithout_26 ?_ ?_
        · refine aw_iinc (L' := [some (.inr 7), some (.inl l1), some (.inl (l2 + (1 : Int32))), some (.inl l3)]) (v := l2 + (1 : Int32)) iX3_comingWithout_29 rfl rfl (Nat.le_of_ble_eq_true rfl) rfl ?_
          refine aw_iinc (L' := [some (.inr 7), some (.inl l1), some (.inl (l2 + (1 : Int32))), some (.inl (l3 + (1 : Int32)))]) (v := l3 + (1 : Int32)) iX3_comingWithout_32 rfl rfl (Nat.le_of_ble_eq_true rfl) rfl ?_
          refine aw_goto iX3_comingWithout_35 ?_
          exact ih (l2 + (1 : Int32)) (l3 + (1 : Int32)) g4
        · refine aw_iinc (L' := [some (.inr 7), some (.inl l1), some (.inl l2), some (.inl (l3 + (1 : Int32)))]) (v := l3 + (1 : Int32)) iX3_comingWithout_32 rfl rfl (Nat.le_of_ble_eq_true rfl) rfl ?_
          refine aw_goto iX3_comingWithout_35 ?_
          exact ih l2 (l3 + (1 : Int32)) g4
set_option maxRecDepth 20000 in
set_option maxHeartbeats 4000000 in
theorem wX3_comingWithout (a1 : Int32) (g : Mem) : aw mX3_comingWithout none 0 [some (.inr 7), some (.inl a1), none, none] [] g (fX3_comingWithout a1 g) := by
  unfold fX3_comingWithout
  refine aw_iconst (v := 0) iX3_comingWithout_0 (by decide) ?_
  refine aw_istore_n (L' := [some (.inr 7), some (.inl a1), some (.inl (0 : Int32)), none]) iX3_comingWithout_1 rfl (Nat.le_of_ble_eq_true rfl) rfl ?_
  refine aw_iconst (v := 0) iX3_comingWithout_2 (by decide) ?_
  refine aw_istore_n (L' := [some (.inr 7), some (.inl a1), some (.inl (0 : Int32)), some (.inl (0 : Int32))]) iX3_comingWithout_3 rfl (Nat.le_of_ble_eq_true rfl) rfl ?_
  refine wX3_comingWithout_L4 a1 _ (fun l5 l6 g7 => ?_) FU (0 : Int32) (0 : Int32) g
  refine aw_iload_n iX3_comingWithout_38 rfl rfl ?_
  exact aw_iret iX3_comingWithout_39 rfl
set_option maxRecDepth 20000 in
set_option maxHeartbeats 4000000 in
theorem kX3_comingWithout (a1 : Int32) (g : Mem) : CT mX3_comingWithout [.inr 7, .inl a1] g (fX3_comingWithout a1 g) := CT.of (nr := 2) (by decide +kernel) (Nat.le_of_ble_eq_true rfl) (Or.inr (Or.inl rfl)) (wX3_comingWithout a1 g)
set_option maxRecDepth 20000 in
set_option maxHeartbeats 4000000 in
theorem wX3_hardest_L11 (l2 : Int32) (l3 : Int32) (K : Int32 → Int32 → Int32 → Mem → Option (Int32 × Mem)) (hK : ∀ (l4 l5 l6 : Int32) (g : Mem), aw mX3_hardest none 69 [some (.inr 55), some (.inr 7), some (.inl l2), some (.inl l3), some (.inl l4), some (.inl l5), some (.inl l6), none, none] [] g (K l4 l5 l6 g)) : ∀ (n : Nat) (l4 l5 l6 : Int32) (g : Mem), aw mX3_hardest none 11 [some (.inr 55), some (.inr 7), some (.inl l2), some (.inl l3), some (.inl l4), some (.inl l5), some (.inl l6), none, none] [] g (fX3_hardest_L11 l2 l3 K n l4 l5 l6 g) := by
  intro n
  induction n with
  | zero => intro l4 l5 l6 g; exact aw_none
  | succ n ih =>
    intro l4 l5 l6 g
    rw [fX3_hardest_L11]
    refine aw_iload iX3_hardest_11 rfl ?_
    refine aw_sipush (v := 1024) iX3_hardest_13 (by decide) ?_
    refine aw_icmp_ge iX3_hardest_16 ?_ ?_
    · exact hK l4 l5 l6 g
    · refine aw_aload_n iX3_hardest_19 rfl rfl ?_
      refine aw_iload_n iX3_hardest_20 rfl rfl ?_
      refine aw_iload iX3_hardest_21 rfl ?_
      refine aw_callS (M' := mX3_onlyThing) (As := [.inr 7, .inl l2, .inl l6]) iX3_hardest_23 lkX3_21 mcX3_onlyThing msX3_onlyThing rfl (kX3_onlyThing l2 l6 g) rfl (Nat.le_of_ble_eq_true rfl) ⟨Nat.le_of_ble_eq_true rfl, Nat.le_of_ble_eq_true rfl⟩ (fun r1 g2 => ?_)
      refine aw_istore (L' := [some (.inr 55), some (.inr 7), some (.inl l2), some (.inl l3), some (.inl l4), some (.inl l5), some (.inl l6), some (.inl r1), none]) iX3_hardest_26 (Nat.le_of_ble_eq_true rfl) rfl ?_
      refine aw_iload iX3_hardest_28 rfl ?_
      refine aw_ldc (v := (-1000000)) iX3_hardest_30 kcX3_20 ?_
      refine aw_icmp_ne iX3_hardest_32 ?_ ?_
      · refine aw_ldc (v := (-1000000)) iX3_hardest_35 kcX3_20 ?_
        refine aw_goto iX3_hardest_37 ?_
        refine aw_istore (L' := [some (.inr 55), some (.inr 7), some (.inl l2), some (.inl l3), some (.inl l4), some (.inl l5), some (.inl l6), some (.inl r1), some (.inl (-1000000 : Int32))]) iX3_hardest_46 (Nat.le_of_ble_eq_true rfl) rfl ?_
        refine aw_iload iX3_hardest_48 rfl ?_
        refine aw_iload iX3_hardest_50 rfl ?_
        refine aw_icmp_le iX3_hardest_52 ?_ ?_
        · refine aw_iinc (L' := [some (.inr 55), some (.inr 7), some (.inl l2), some (.inl l3), some (.inl l4), some (.inl l5), some (.inl (l6 + (1 : Int32))), some (.inl r1), some (.inl (-1000000 : Int32))]) (v := l6 + (1 : Int32)) iX3_hardest_63 rfl rfl (Nat.le_of_ble_eq_true rfl) rfl ?_
          refine aw_goto iX3_hardest_66 ?_
          refine aw_msk [true, true, true, true, true, true, true, false, false] rfl ?_
          exact ih l4 l5 (l6 + (1 : Int32)) g2
        · refine aw_iload iX3_hardest_55 rfl ?_
          refine aw_istore (L' := [some (.inr 55), some (.inr 7), some (.inl l2), some (.inl l3), some (.inl l6), some (.inl l5), some (.inl l6), some (.inl r1), some (.inl (-1000000 : Int32))]) iX3_hardest_57 (Nat.le_of_ble_eq_true rfl) rfl ?_
          refine aw_iload iX3_hardest_59 rfl ?_
          refine aw_istore (L' := [some (.inr 55), some (.inr 7), some (.inl l2), some (.inl l3), some (.inl l6), some (.inl (-1000000 : Int32)), some (.inl l6), some (.inl r1), some (.inl (-1000000 : Int32))]) iX3_hardest_61 (Nat.le_of_ble_eq_true rfl) rfl ?_
          refine aw_iinc (L' := [some (.inr 55), some (.inr 7), some (.inl l2), some (.inl l3), some (.inl l6), some (.inl (-1000000 : Int32)), some (.inl (l6 + (1 : Int32))), some (.inl r1), some (.inl (-1000000 : Int32))]) (v := l6 + (1 : Int32)) iX3_hardest_63 rfl rfl (Nat.le_of_ble_eq_true rfl) rfl ?_
          refine aw_goto iX3_hardest_66 ?_
          refine aw_msk [true, true, true, true, true, true, true, false, false] rfl ?_
          exact ih l6 (-1000000 : Int32) (l6 + (1 : Int32)) g2
      · refine aw_aload_n iX3_hardest_40 rfl rfl ?_
        refine aw_iload iX3_hardest_41 rfl ?_
        refine aw_callS (M' := mX3_comingWithout) (As := [.inr 7, .inl r1]) iX3_hardest_43 lkX3_29 mcX3_comingWithout msX3_comingWithout rfl (kX3_comingWithout r1 g2) rfl (Nat.le_of_ble_eq_true rfl) ⟨Nat.le_of_ble_eq_true rfl, Nat.le_of_ble_eq_true rfl⟩ (fun r3 g4 => ?_)
        refine aw_istore (L' := [some (.inr 55), some (.inr 7), some (.inl l2), some (.inl l3), some (.inl l4), some (.inl l5), some (.inl l6), some (.inl r1), some (.inl r3)]) iX3_hardest_46 (Nat.le_of_ble_eq_true rfl) rfl ?_
        refine aw_iload iX3_hardest_48 rfl ?_
        refine aw_iload iX3_hardest_50 rfl ?_
        refine aw_icmp_le iX3_hardest_52 ?_ ?_
        · refine aw_iinc (L' := [some (.inr 55), some (.inr 7), some (.inl l2), some (.inl l3), some (.inl l4), some (.inl l5), some (.inl (l6 + (1 : Int32))), some (.inl r1), some (.inl r3)]) (v := l6 + (1 : Int32)) iX3_hardest_63 rfl rfl (Nat.le_of_ble_eq_true rfl) rfl ?_
          refine aw_goto iX3_hardest_66 ?_
          refine aw_msk [true, true, true, true, true, true, true, false, false] rfl ?_
          exact ih l4 l5 (l6 + (1 : Int32)) g4
        · refine aw_iload iX3_hardest_55 rfl ?_
          refine aw_istore (L' := [some (.inr 55), some (.inr 7), some (.inl l2), some (.inl l3), some (.inl l6), some (.inl l5), some (.inl l6), some (.inl r1), some (.inl r3)]) iX3_hardest_57 (Nat.le_of_ble_eq_true rfl) rfl ?_
          refine aw_iload iX3_hardest_59 rfl ?_
          refine aw_istore (L' := [some (.inr 55), some (.inr 7), some (.inl l2), some (.inl l3), some (.inl l6), some (.inl r3), some (.inl l6), some (.inl r1), some (.inl r3)]) iX3_hardest_61 (Nat.le_of_ble_eq_true rfl) rfl ?_
          refine aw_iinc (L' := [some (.inr 55), some (.inr 7), some (.inl l2), some (.inl l3), some (.inl l6), some (.inl r3), some (.inl (l6 + (1 : Int32))), some (.inl r1), some (.inl r3)]) (v := l6 + (1 : Int32)) iX3_hardest_63 rfl rfl (Nat.le_of_ble_eq_true rfl) rfl ?_
          refine aw_goto iX3_hardest_66 ?_
          refine aw_msk [true, true, true, true, true, true, true, false, false] rfl ?_
          exact ih l6 r3 (l6 + (1 : Int32)) g4
set_option maxRecDepth 20000 in
set_option maxHeartbeats 4000000 in
theorem wX3_hardest (a1 : Int32) (a2 : Int32) (g : Mem) : aw mX3_hardest none 0 [some (.inr 55), some (.inr 7), some (.inl a1), some (.inl a2), none, none, none, none, none] [] g (fX3_hardest a1 a2 g) := by
  unfold fX3_hardest
  refine aw_ldc (v := (-1000000)) iX3_hardest_0 kcX3_20 ?_
  refine aw_istore (L' := [some (.inr 55), some (.inr 7), some (.inl a1), some (.inl a2), some (.inl (-1000000 : Int32)), none, none, none, none]) iX3_hardest_2 (Nat.le_of_ble_eq_true rfl) rfl ?_
  refine aw_ldc (v := (-1000000)) iX3_hardest_4 kcX3_20 ?_
  refine aw_istore (L' := [some (.inr 55), some (.inr 7), some (.inl a1), some (.inl a2), some (.inl (-1000000 : Int32)), some (.inl (-1000000 : Int32)), none, none, none]) iX3_hardest_6 (Nat.le_of_ble_eq_true rfl) rfl ?_
  refine aw_iconst (v := 0) iX3_hardest_8 (by decide) ?_
  refine aw_istore (L' := [some (.inr 55), some (.inr 7), some (.inl a1), some (.inl a2), some (.inl (-1000000 : Int32)), some (.inl (-1000000 : Int32)), some (.inl (0 : Int32)), none, none]) iX3_hardest_9 (Nat.le_of_ble_eq_true rfl) rfl ?_
  refine wX3_hardest_L11 a1 a2 _ (fun l5 l6 l7 g8 => ?_) FU (-1000000 : Int32) (-1000000 : Int32) (0 : Int32) g
  refine aw_iload_n iX3_hardest_69 rfl rfl ?_
  refine aw_if_ne iX3_hardest_70 ?_ ?_
  · refine aw_iload iX3_hardest_73 rfl ?_
    refine aw_goto iX3_hardest_75 ?_
    exact aw_iret iX3_hardest_80 rfl
  · refine aw_iload iX3_hardest_78 rfl ?_
    exact aw_iret iX3_hardest_80 rfl
set_option maxRecDepth 20000 in
set_option maxHeartbeats 4000000 in
theorem kX3_hardest (a1 : Int32) (a2 : Int32) (g : Mem) : CT mX3_hardest [.inr 55, .inr 7, .inl a1, .inl a2] g (fX3_hardest a1 a2 g) := CT.of (nr := 5) (by decide +kernel) (Nat.le_of_ble_eq_true rfl) (Or.inr (Or.inl rfl)) (wX3_hardest a1 a2 g)
set_option maxRecDepth 20000 in
set_option maxHeartbeats 4000000 in
theorem wX3_rowsOfUnlike_L4 (l0 : Int32) (l1 : Int32) (K : Int32 → Int32 → Mem → Option (Int32 × Mem)) (hK : ∀ (l2 l3 : Int32) (g : Mem), aw mX3_rowsOfUnlike none 25 [some (.inl l0), some (.inl l1), some (.inl l2), some (.inl l3)] [] g (K l2 l3 g)) : ∀ (n : Nat) (l2 l3 : Int32) (g : Mem), aw mX3_rowsOfUnlike none 4 [some (.inl l0), some (.inl l1), some (.inl l2), some (.inl l3)] [] g (fX3_rowsOfUnlike_L4 l0 l1 K n l2 l3 g) := by
  intro n
  induction n with
  | zero => intro l2 l3 g; exact aw_none
  | succ n ih =>
    intro l2 l3 g
    rw [fX3_rowsOfUnlike_L4]
    refine aw_iload_n iX3_rowsOfUnlike_4 rfl rfl ?_
    refine aw_iload_n iX3_rowsOfUnlike_5 rfl rfl ?_
    refine aw_icmp_ge iX3_rowsOfUnlike_6 ?_ ?_
    · exact hK l2 l3 g
    · refine aw_iload_n iX3_rowsOfUnlike_9 rfl rfl ?_
      refine aw_iload_n iX3_rowsOfUnlike_10 rfl rfl ?_
      refine aw_iload_n iX3_rowsOfUnlike_11 rfl rfl ?_
      refine aw_isub iX3_rowsOfUnlike_12 ?_
      refine aw_iconst (v := 0) iX3_rowsOfUnlike_13 (by decide) ?_
      refine aw_mmax iX3_rowsOfUnlike_14 mmX3_73 ⟨Nat.le_of_ble_eq_true rfl, Nat.le_of_ble_eq_true rfl⟩ ?_
      refine aw_imul iX3_rowsOfUnlike_17 ?_
      refine aw_lt (fun x1 => ?_)
      refine aw_istore_n (L' := [some (.inl l0), some (.inl l1), some (.inl x1), some (.inl l3)]) iX3_rowsOfUnlike_18 rfl (Nat.le_of_ble_eq_true rfl) rfl ?_
      refine aw_iinc (L' := [some (.inl l0), some (.inl l1), some (.inl x1), some (.inl (l3 + (1 : Int32)))]) (v := l3 + (1 : Int32)) iX3_rowsOfUnlike_19 rfl rfl (Nat.le_of_ble_eq_true rfl) rfl ?_
      refine aw_goto iX3_rowsOfUnlike_22 ?_
      exact ih x1 (l3 + (1 : Int32)) g
set_option maxRecDepth 20000 in
set_option maxHeartbeats 4000000 in
theorem wX3_rowsOfUnlike (a0 : Int32) (a1 : Int32) (g : Mem) : aw mX3_rowsOfUnlike none 0 [some (.inl a0), some (.inl a1), none, none] [] g (fX3_rowsOfUnlike a0 a1 g) := by
  unfold fX3_rowsOfUnlike
  refine aw_iconst (v := 1) iX3_rowsOfUnlike_0 (by decide) ?_
  refine aw_istore_n (L' := [some (.inl a0), some (.inl a1), some (.inl (1 : Int32)), none]) iX3_rowsOfUnlike_1 rfl (Nat.le_of_ble_eq_true rfl) rfl ?_
  refine aw_iconst (v := 0) iX3_rowsOfUnlike_2 (by decide) ?_
  refine aw_istore_n (L' := [some (.inl a0), some (.inl a1), some (.inl (1 : Int32)), some (.inl (0 : Int32))]) iX3_rowsOfUnlike_3 rfl (Nat.le_of_ble_eq_true rfl) rfl ?_
  refine wX3_rowsOfUnlike_L4 a0 a1 _ (fun l2 l3 g4 => ?_) FU (1 : Int32) (0 : Int32) g
  refine aw_iload_n iX3_rowsOfUnlike_25 rfl rfl ?_
  exact aw_iret iX3_rowsOfUnlike_26 rfl
set_option maxRecDepth 20000 in
set_option maxHeartbeats 4000000 in
theorem kX3_rowsOfUnlike (a0 : Int32) (a1 : Int32) (g : Mem) : CT mX3_rowsOfUnlike [.inl a0, .inl a1] g (fX3_rowsOfUnlike a0 a1 g) := CT.of (nr := 2) (by decide +kernel) (Nat.le_of_ble_eq_true rfl) (Or.inr (Or.inl rfl)) (wX3_rowsOfUnlike a0 a1 g)
set_option maxRecDepth 20000 in
set_option maxHeartbeats 4000000 in
theorem wX3_likelihood_L9 (l2 : Int32) (l3 : Int32) (K : Int32 → Int32 → Int32 → Mem → Option (Int32 × Mem)) (hK : ∀ (l4 l5 l6 : Int32) (g : Mem), aw mX3_likelihood none 62 [some (.inr 55), some (.inr 7), some (.inl l2), some (.inl l3), some (.inl l4), some (.inl l5), some (.inl l6), none, none, none] [] g (K l4 l5 l6 g)) : ∀ (n : Nat) (l4 l5 l6 : Int32) (g : Mem), aw mX3_likelihood none 9 [some (.inr 55), some (.inr 7), some (.inl l2), some (.inl l3), some (.inl l4), some (.inl l5), some (.inl l6), none, none, none] [] g (fX3_likelihood_L9 l2 l3 K n l4 l5 l6 g) := by
  intro n
  induction n with
  | zero => intro l4 l5 l6 g; exact aw_none
  | succ n ih =>
    intro l4 l5 l6 g
    rw [fX3_likelihood_L9]
    refine aw_iload iX3_likelihood_9 rfl ?_
    refine aw_aload_n iX3_likelihood_11 rfl rfl ?_
    refine aw_getI (own := "") iX3_likelihood_12 flX3_54 zlt7 zsh7 rfl ?_
    refine aw_icmp_ge iX3_likelihood_15 ?_ ?_
    · exact hK l4 l5 l6 g
    · refine aw_aload_n iX3_likelihood_18 rfl rfl ?_
      refine aw_iload iX3_likelihood_19 rfl ?_
      refine aw_callV (M' := mX2_wasUsed) (As := [.inl l6]) iX3_likelihood_21 lkX3_57 mcX2_wasUsed mvX2_wasUsed rfl zrc7 (kX2_wasUsed 7 (CO_of7) l6 g) rfl (Nat.le_of_ble_eq_true rfl) ⟨Nat.le_of_ble_eq_true rfl, Nat.le_of_ble_eq_true rfl⟩ (fun r1 g2 => ?_)
      refine aw_if_ne iX3_likelihood_24 ?_ ?_
      · refine aw_iinc (L' := [some (.inr 55), some (.inr 7), some (.inl l2), some (.inl l3), some (.inl (l4 + (1 : Int32))), some (.inl l5), some (.inl l6), none, none, none]) (v := l4 + (1 : Int32)) iX3_likelihood_27 rfl rfl (Nat.le_of_ble_eq_true rfl) rfl ?_
        refine aw_iload iX3_likelihood_30 rfl ?_
        refine aw_aload_n iX3_likelihood_32 rfl rfl ?_
        refine aw_iload_n iX3_likelihood_33 rfl rfl ?_
        refine aw_iload iX3_likelihood_34 rfl ?_
        refine aw_callV (M' := mX2_heSays) (As := [.inl l2, .inl l6]) iX3_likelihood_36 lkX3_60 mcX2_heSays mvX2_heSays rfl zrc7 (kX2_heSays 7 (CO_of7) l2 l6 g2) rfl (Nat.le_of_ble_eq_true rfl) ⟨Nat.le_of_ble_eq_true rfl, Nat.le_of_ble_eq_true rfl⟩ (fun r3 g4 => ?_)
        refine aw_aload_n iX3_likelihood_39 rfl rfl ?_
        refine aw_iload iX3_likelihood_40 rfl ?_
        refine aw_callV (M' := mX2_answer) (As := [.inl l6]) iX3_likelihood_42 lkX3_64 mcX2_answer mvX2_answer rfl zrc7 (kX2_answer 7 (CO_of7) l6 g4) rfl (Nat.le_of_ble_eq_true rfl) ⟨Nat.le_of_ble_eq_true rfl, Nat.le_of_ble_eq_true rfl⟩ (fun r5 g6 => ?_)
        refine aw_icmp_ne iX3_likelihood_45 ?_ ?_
        · refine aw_iconst (v := 1) iX3_likelihood_48 (by decide) ?_
          refine aw_goto iX3_likelihood_49 ?_
          refine aw_iadd iX3_likelihood_53 ?_
          refine aw_lt (fun x7 => ?_)
          refine aw_istore (L' := [some (.inr 55), some (.inr 7), some (.inl l2), some (.inl l3), some (.inl (l4 + (1 : Int32))), some (.inl x7), some (.inl l6), none, none, none]) iX3_likelihood_54 (Nat.le_of_ble_eq_true rfl) rfl ?_
          refine aw_iinc (L' := [some (.inr 55), some (.inr 7), some (.inl l2), some (.inl l3), some (.inl (l4 + (1 : Int32))), some (.inl x7), some (.inl (l6 + (1 : Int32))), none, none, none]) (v := l6 + (1 : Int32)) iX3_likelihood_56 rfl rfl (Nat.le_of_ble_eq_true rfl) rfl ?_
          refine aw_goto iX3_likelihood_59 ?_
          exact ih (l4 + (1 : Int32)) x7 (l6 + (1 : Int32)) g6
        · refine aw_iconst (v := 0) iX3_likelihood_52 (by decide) ?_
          refine aw_iadd iX3_likelihood_53 ?_
          refine aw_lt (fun x8 => ?_)
          refine aw_istore (L' := [some (.inr 55), some (.inr 7), some (.inl l2), some (.inl l3), some (.inl (l4 + (1 : Int32))), some (.inl x8), some (.inl l6), none, none, none]) iX3_likelihood_54 (Nat.le_of_ble_eq_true rfl) rfl ?_
          refine aw_iinc (L' := [some (.inr 55), some (.inr 7), some (.inl l2), some (.inl l3), some (.inl (l4 + (1 : Int32))), some (.inl x8), some (.inl (l6 + (1 : Int32))), none, none, none]) (v := l6 + (1 : Int32)) iX3_likelihood_56 rfl rfl (Nat.le_of_ble_eq_true rfl) rfl ?_
          refine aw_goto iX3_likelihood_59 ?_
          exact ih (l4 + (1 : Int32)) x8 (l6 + (1 : Int32)) g6
      · refine aw_iinc (L' := [some (.inr 55), some (.inr 7), some (.inl l2), some (.inl l3), some (.inl l4), some (.inl l5), some (.inl (l6 + (1 : Int32))), none, none, none]) (v := l6 + (1 : Int32)) iX3_likelihood_56 rfl rfl (Nat.le_of_ble_eq_true rfl) rfl ?_
        refine aw_goto iX3_likelihood_59 ?_
        exact ih l4 l5 (l6 + (1 : Int32)) g2
set_option maxRecDepth 20000 in
set_option maxHeartbeats 4000000 in
theorem wX3_likelihood_L104 (l2 : Int32) (l3 : Int32) (l4 : Int32) (l5 : Int32) (l6 : Int32) (K : Int32 → Int32 → Int32 → Mem → Option (Int32 × Mem)) (hK : ∀ (l7 l8 l9 : Int32) (g : Mem), aw mX3_likelihood none 146 [some (.inr 55), some (.inr 7), some (.inl l2), some (.inl l3), some (.inl l4), some (.inl l5), some (.inl l6), some (.inl l7), some (.inl l8), some (.inl l9)] [] g (K l7 l8 l9 g)) : ∀ (n : Nat) (l7 l8 l9 : Int32) (g : Mem), aw mX3_likelihood none 104 [some (.inr 55), some (.inr 7), some (.inl l2), some (.inl l3), some (.inl l4), some (.inl l5), some (.inl l6), some (.inl l7), some (.inl l8), some (.inl l9)] [] g (fX3_likelihood_L104 l2 l3 l4 l5 l6 K n l7 l8 l9 g) := by
  intro n
  induction n with
  | zero => intro l7 l8 l9 g; exact aw_none
  | succ n ih =>
    intro l7 l8 l9 g
    rw [fX3_likelihood_L104]
    refine aw_iload iX3_likelihood_104 rfl ?_
    refine aw_iconst (v := 1) iX3_likelihood_106 (by decide) ?_
    refine aw_icmp_le iX3_likelihood_107 ?_ ?_
    · exact hK l7 l8 l9 g
    · refine aw_iload iX3_likelihood_110 rfl ?_
      refine aw_iload iX3_likelihood_112 rfl ?_
      refine aw_irem iX3_likelihood_114 ?_
      refine aw_if_ne iX3_likelihood_115 ?_ ?_
      · refine aw_iload iX3_likelihood_118 rfl ?_
        refine aw_iload iX3_likelihood_120 rfl ?_
        refine aw_irem iX3_likelihood_122 ?_
        refine aw_if_ne iX3_likelihood_123 ?_ ?_
        · refine aw_iload iX3_likelihood_126 rfl ?_
          refine aw_iload iX3_likelihood_128 rfl ?_
          refine aw_idiv iX3_likelihood_130 ?_
          refine aw_lt (fun x19 => ?_)
          refine aw_istore (L' := [some (.inr 55), some (.inr 7), some (.inl l2), some (.inl l3), some (.inl l4), some (.inl l5), some (.inl l6), some (.inl x19), some (.inl l8), some (.inl l9)]) iX3_likelihood_131 (Nat.le_of_ble_eq_true rfl) rfl ?_
          refine aw_iload iX3_likelihood_133 rfl ?_
          refine aw_iload iX3_likelihood_135 rfl ?_
          refine aw_idiv iX3_likelihood_137 ?_
          refine aw_lt (fun x20 => ?_)
          refine aw_istore (L' := [some (.inr 55), some (.inr 7), some (.inl l2), some (.inl l3), some (.inl l4), some (.inl l5), some (.inl l6), some (.inl x19), some (.inl x20), some (.inl l9)]) iX3_likelihood_138 (Nat.le_of_ble_eq_true rfl) rfl ?_
          refine aw_iinc (L' := [some (.inr 55), some (.inr 7), some (.inl l2), some (.inl l3), some (.inl l4), some (.inl l5), some (.inl l6), some (.inl x19), some (.inl x20), some (.inl (l9 + (-1 : Int32)))]) (v := l9 + (-1 : Int32)) iX3_likelihood_140 rfl rfl (Nat.le_of_ble_eq_true rfl) rfl ?_
          refine aw_goto iX3_likelihood_143 ?_
          exact ih x19 x20 (l9 + (-1 : Int32)) g
        · refine aw_iinc (L' := [some (.inr 55), some (.inr 7), some (.inl l2), some (.inl l3), some (.inl l4), some (.inl l5), some (.inl l6), some (.inl l7), some (.inl l8), some (.inl (l9 + (-1 : Int32)))]) (v := l9 + (-1 : Int32)) iX3_likelihood_140 rfl rfl (Nat.le_of_ble_eq_true rfl) rfl ?_
          refine aw_goto iX3_likelihood_143 ?_
          exact ih l7 l8 (l9 + (-1 : Int32)) g
      · refine aw_iinc (L' := [some (.inr 55), some (.inr 7), some (.inl l2), some (.inl l3), some (.inl l4), some (.inl l5), some (.inl l6), some (.inl l7), some (.inl l8), some (.inl (l9 + (-1 : Int32)))]) (v := l9 + (-1 : Int32)) iX3_likelihood_140 rfl rfl (Nat.le_of_ble_eq_true rfl) rfl ?_
        refine aw_goto iX3_likelihood_143 ?_
        exact ih l7 l8 (l9 + (-1 : Int32)) g
set_option maxRecDepth 20000 in
set_option maxHeartbeats 4000000 in
theorem wX3_likelihood (a1 : Int32) (a2 : Int32) (g : Mem) : aw mX3_likelihood none 0 [some (.inr 55), some (.inr 7), some (.inl a1), some (.inl a2), none, none, none, none, none, none] [] g (fX3_likelihood a1 a2 g) := by
  unfold fX3_likelihood
  refine aw_iconst (v := 0) iX3_likelihood_0 (by decide) ?_
  refine aw_istore (L' := [some (.inr 55), some (.inr 7), some (.inl a1), some (.inl a2), some (.inl (0 : Int32)), none, none, none, none, none]) iX3_likelihood_1 (Nat.le_of_ble_eq_true rfl) rfl ?_
  refine aw_iconst (v := 0) iX3_likelihood_3 (by decide) ?_
  refine aw_istore (L' := [some (.inr 55), some (.inr 7), some (.inl a1), some (.inl a2), some (.inl (0 : Int32)), some (.inl (0 : Int32)), none, none, none, none]) iX3_likelihood_4 (Nat.le_of_ble_eq_true rfl) rfl ?_
  refine aw_iconst (v := 0) iX3_likelihood_6 (by decide) ?_
  refine aw_istore (L' := [some (.inr 55), some (.inr 7), some (.inl a1), some (.inl a2), some (.inl (0 : Int32)), some (.inl (0 : Int32)), some (.inl (0 : Int32)), none, none, none]) iX3_likelihood_7 (Nat.le_of_ble_eq_true rfl) rfl ?_
  refine wX3_likelihood_L9 a1 a2 _ (fun l9 l10 l11 g12 => ?_) FU (0 : Int32) (0 : Int32) (0 : Int32) g
  refine aw_iconst (v := 3) iX3_likelihood_62 (by decide) ?_
  refine aw_aload_n iX3_likelihood_63 rfl rfl ?_
  refine aw_getR (own := "") iX3_likelihood_64 flX3_67 zlt7 zsh7 rfl ?_
  refine aw_iload_n iX3_likelihood_67 rfl rfl ?_
  refine aw_iald iX3_likelihood_68 zlt15 zsh15 (fun v13 _ => ?_)
  refine aw_isub iX3_likelihood_69 ?_
  refine aw_lt (fun x14 => ?_)
  refine aw_istore (L' := [some (.inr 55), some (.inr 7), some (.inl a1), some (.inl a2), some (.inl l9), some (.inl l10), some (.inl x14), none, none, none]) iX3_likelihood_70 (Nat.le_of_ble_eq_true rfl) rfl ?_
  refine aw_iload iX3_likelihood_72 rfl ?_
  refine aw_iload iX3_likelihood_74 rfl ?_
  refine aw_icmp_ge iX3_likelihood_76 ?_ ?_
  · refine aw_iload iX3_likelihood_82 rfl ?_
    refine aw_iload iX3_likelihood_84 rfl ?_
    refine aw_callS (M' := mX3_rowsOfUnlike) (As := [.inl l10, .inl x14]) iX3_likelihood_86 lkX3_70 mcX3_rowsOfUnlike msX3_rowsOfUnlike rfl (kX3_rowsOfUnlike l10 x14 g12) rfl (Nat.le_of_ble_eq_true rfl) ⟨Nat.le_of_ble_eq_true rfl, Nat.le_of_ble_eq_true rfl⟩ (fun r15 g16 => ?_)
    refine aw_istore (L' := [some (.inr 55), some (.inr 7), some (.inl a1), some (.inl a2), some (.inl l9), some (.inl l10), some (.inl x14), some (.inl r15), none, none]) iX3_likelihood_89 (Nat.le_of_ble_eq_true rfl) rfl ?_
    refine aw_iload iX3_likelihood_91 rfl ?_
    refine aw_iload iX3_likelihood_93 rfl ?_
    refine aw_callS (M' := mX3_rowsOfUnlike) (As := [.inl l9, .inl x14]) iX3_likelihood_95 lkX3_70 mcX3_rowsOfUnlike msX3_rowsOfUnlike rfl (kX3_rowsOfUnlike l9 x14 g16) rfl (Nat.le_of_ble_eq_true rfl) ⟨Nat.le_of_ble_eq_true rfl, Nat.le_of_ble_eq_true rfl⟩ (fun r17 g18 => ?_)
    refine aw_istore (L' := [some (.inr 55), some (.inr 7), some (.inl a1), some (.inl a2), some (.inl l9), some (.inl l10), some (.inl x14), some (.inl r15), some (.inl r17), none]) iX3_likelihood_98 (Nat.le_of_ble_eq_true rfl) rfl ?_
    refine aw_iload iX3_likelihood_100 rfl ?_
    refine aw_istore (L' := [some (.inr 55), some (.inr 7), some (.inl a1), some (.inl a2), some (.inl l9), some (.inl l10), some (.inl x14), some (.inl r15), some (.inl r17), some (.inl r17)]) iX3_likelihood_102 (Nat.le_of_ble_eq_true rfl) rfl ?_
    refine wX3_likelihood_L104 a1 a2 l9 l10 x14 _ (fun l21 l22 l23 g24 => ?_) FU r15 r17 r17 g18
    refine aw_iload_n iX3_likelihood_146 rfl rfl ?_
    refine aw_if_ne iX3_likelihood_147 ?_ ?_
    · refine aw_iload iX3_likelihood_150 rfl ?_
      refine aw_goto iX3_likelihood_152 ?_
      exact aw_iret iX3_likelihood_157 rfl
    · refine aw_iload iX3_likelihood_155 rfl ?_
      exact aw_iret iX3_likelihood_157 rfl
  · refine aw_ldc (v := (-1000000)) iX3_likelihood_79 kcX3_20 ?_
    exact aw_iret iX3_likelihood_81 rfl
set_option maxRecDepth 20000 in
set_option maxHeartbeats 4000000 in
theorem kX3_likelihood (a1 : Int32) (a2 : Int32) (g : Mem) : CT mX3_likelihood [.inr 55, .inr 7, .inl a1, .inl a2] g (fX3_likelihood a1 a2 g) := CT.of (nr := 6) (by decide +kernel) (Nat.le_of_ble_eq_true rfl) (Or.inr (Or.inl rfl)) (wX3_likelihood a1 a2 g)
