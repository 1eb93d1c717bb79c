set_option maxRecDepth 20000 in
set_option maxHeartbeats 4000000 in
theorem wX7_everything (g : Mem) : aw mX7_everything none 0 [some (.inr 61)] [] g (fX7_everything g) := by
  unfold fX7_everything
  refine aw_iconst (v := 1) iX7_everything_0 (by decide) ?_
  refine aw_aload_n iX7_everything_1 rfl rfl ?_
  refine aw_getR (own := "") iX7_everything_2 flX7_22 zlt61 zsh61 rfl ?_
  refine aw_iconst (v := 3) iX7_everything_5 (by decide) ?_
  refine aw_iald iX7_everything_6 zlt66 zsh66 (fun v1 _ => ?_)
  refine aw_ishl iX7_everything_7 ?_
  refine aw_iconst (v := 1) iX7_everything_8 (by decide) ?_
  refine aw_isub iX7_everything_9 ?_
  exact aw_iret iX7_everything_10 rfl
set_option maxRecDepth 20000 in
set_option maxHeartbeats 4000000 in
theorem kX7_everything (g : Mem) : CT mX7_everything [.inr 61] g (fX7_everything g) := CT.of (nr := 0) (by decide +kernel) (Nat.le_of_ble_eq_true rfl) (Or.inr (Or.inl rfl)) (wX7_everything g)
set_option maxRecDepth 20000 in
set_option maxHeartbeats 4000000 in
theorem wX7_court (g : Mem) : aw mX7_court none 0 [some (.inr 61), none] [] g (fX7_court g) := by
  unfold fX7_court
  refine aw_aload_n iX7_court_0 rfl rfl ?_
  refine aw_callV (M' := mX7_isRead) (As := []) iX7_court_1 lkX7_115 mcX7_isRead mvX7_isRead rfl zrc61 (kX7_isRead g) rfl (Nat.le_of_ble_eq_true rfl) ⟨Nat.le_of_ble_eq_true rfl, Nat.le_of_ble_eq_true rfl⟩ (fun r1 g2 => ?_)
  refine aw_istore_n (L' := [some (.inr 61), some (.inl r1)]) iX7_court_4 rfl (Nat.le_of_ble_eq_true rfl) rfl ?_
  refine aw_aload_n iX7_court_5 rfl rfl ?_
  refine aw_iconst (v := 0) iX7_court_6 (by decide) ?_
  refine aw_putI iX7_court_7 fpX7_68 zlt61 zsh61 rfl (fun g3 _ => ?_)
  refine aw_iload_n iX7_court_10 rfl rfl ?_
  refine aw_if_ne iX7_court_11 ?_ ?_
  · refine aw_aload_n iX7_court_14 rfl rfl ?_
    refine aw_aload_n iX7_court_15 rfl rfl ?_
    refine aw_getI (own := "") iX7_court_16 flX7_84 zlt61 zsh61 rfl ?_
    refine aw_putI iX7_court_19 fpX7_118 zlt61 zsh61 rfl (fun g4 _ => ?_)
    refine aw_ldc (v := (-1000100)) iX7_court_22 kcX7_121 ?_
    refine aw_aload_n iX7_court_24 rfl rfl ?_
    refine aw_getI (own := "") iX7_court_25 flX7_75 zlt61 zsh61 rfl ?_
    refine aw_isub iX7_court_28 ?_
    exact aw_iret iX7_court_29 rfl
  · refine aw_aload_n iX7_court_30 rfl rfl ?_
    refine aw_getR (own := "") iX7_court_31 flX7_25 zlt61 zsh61 rfl ?_
    refine aw_iconst (v := 0) iX7_court_34 (by decide) ?_
    refine aw_aload_n iX7_court_35 rfl rfl ?_
    refine aw_getR (own := "") iX7_court_36 flX7_22 zlt61 zsh61 rfl ?_
    refine aw_iconst (v := 0) iX7_court_39 (by decide) ?_
    refine aw_callSv (M' := mX7_lay) (As := [.inr 67, .inl (0 : Int32), .inr 66, .inl (0 : Int32)]) iX7_court_40 lkX7_122 mcX7_lay msX7_lay rfl (kX7_lay 67 50 zlt67 zsh67 (0 : Int32) 66 50 zlt66 zsh66 (0 : Int32) g3) rfl (Nat.le_of_ble_eq_true rfl) ⟨Nat.le_of_ble_eq_true rfl, Nat.le_of_ble_eq_true rfl⟩ (fun r5 g6 => ?_)
    refine aw_aload_n iX7_court_43 rfl rfl ?_
    refine aw_getR (own := "") iX7_court_44 flX7_22 zlt61 zsh61 rfl ?_
    refine aw_iconst (v := 0) iX7_court_47 (by decide) ?_
    refine aw_iconst (v := 1) iX7_court_48 (by decide) ?_
    refine aw_iast iX7_court_49 zlt66 zsh66 (fun g7 _ => ?_)
    refine aw_aload_n iX7_court_50 rfl rfl ?_
    refine aw_getR (own := "") iX7_court_51 flX7_22 zlt61 zsh61 rfl ?_
    refine aw_iconst (v := 1) iX7_court_54 (by decide) ?_
    refine aw_aload_n iX7_court_55 rfl rfl ?_
    refine aw_getR (own := "") iX7_court_56 flX7_22 zlt61 zsh61 rfl ?_
    refine aw_iconst (v := 1) iX7_court_59 (by decide) ?_
    refine aw_iald iX7_court_60 zlt66 zsh66 (fun v8 _ => ?_)
    refine aw_aload_n iX7_court_61 rfl rfl ?_
    refine aw_callV (M' := mX7_everything) (As := []) iX7_court_62 lkX7_126 mcX7_everything mvX7_everything rfl zrc61 (kX7_everything g7) rfl (Nat.le_of_ble_eq_true rfl) ⟨Nat.le_of_ble_eq_true rfl, Nat.le_of_ble_eq_true rfl⟩ (fun r9 g10 => ?_)
    refine aw_iand iX7_court_65 ?_
    refine aw_iast iX7_court_66 zlt66 zsh66 (fun g11 _ => ?_)
    refine aw_aload_n iX7_court_67 rfl rfl ?_
    refine aw_iconst (v := 0) iX7_court_68 (by decide) ?_
    refine aw_putI iX7_court_69 fpX7_130 zlt61 zsh61 rfl (fun g12 _ => ?_)
    refine aw_aload_n iX7_court_72 rfl rfl ?_
    refine aw_getR (own := "") iX7_court_73 flX7_22 zlt61 zsh61 rfl ?_
    refine aw_iconst (v := 5) iX7_court_76 (by decide) ?_
    refine aw_iald iX7_court_77 zlt66 zsh66 (fun v13 _ => ?_)
    exact aw_iret iX7_court_78 rfl
set_option maxRecDepth 20000 in
set_option maxHeartbeats 4000000 in
theorem kX7_court (g : Mem) : CT mX7_court [.inr 61] g (fX7_court g) := CT.of (nr := 1) (by decide +kernel) (Nat.le_of_ble_eq_true rfl) (Or.inr (Or.inl rfl)) (wX7_court g)
set_option maxRecDepth 20000 in
set_option maxHeartbeats 4000000 in
theorem wX7_fault (g : Mem) : aw mX7_fault none 0 [some (.inr 61)] [] g (fX7_fault g) := by
  unfold fX7_fault
  refine aw_aload_n iX7_fault_0 rfl rfl ?_
  refine aw_getI (own := "") iX7_fault_1 flX7_118 zlt61 zsh61 rfl ?_
  exact aw_iret iX7_fault_4 rfl
set_option maxRecDepth 20000 in
set_option maxHeartbeats 4000000 in
theorem kX7_fault (g : Mem) : CT mX7_fault [.inr 61] g (fX7_fault g) := CT.of (nr := 0) (by decide +kernel) (Nat.le_of_ble_eq_true rfl) (Or.inr (Or.inl rfl)) (wX7_fault g)
set_option maxRecDepth 20000 in
set_option maxHeartbeats 4000000 in
theorem wX7_isCourt (g : Mem) : aw mX7_isCourt none 0 [some (.inr 61)] [] g (fX7_isCourt g) := by
  unfold fX7_isCourt
  refine aw_aload_n iX7_isCourt_0 rfl rfl ?_
  refine aw_getR (own := "") iX7_isCourt_1 flX7_22 zlt61 zsh61 rfl ?_
  refine aw_iconst (v := 0) iX7_isCourt_4 (by decide) ?_
  refine aw_iald iX7_isCourt_5 zlt66 zsh66 (fun v1 _ => ?_)
  refine aw_iconst (v := 1) iX7_isCourt_6 (by decide) ?_
  refine aw_icmp_ne iX7_isCourt_7 ?_ ?_
  · refine aw_iconst (v := 1) iX7_isCourt_10 (by decide) ?_
    refine aw_goto iX7_isCourt_11 ?_
    exact aw_zretK iX7_isCourt_15 rfl (Or.inr rfl)
  · refine aw_iconst (v := 0) iX7_isCourt_14 (by decide) ?_
    exact aw_zretK iX7_isCourt_15 rfl (Or.inl rfl)
set_option maxRecDepth 20000 in
set_option maxHeartbeats 4000000 in
theorem kX7_isCourt (g : Mem) : CT mX7_isCourt [.inr 61] g (fX7_isCourt g) := CT.of (nr := 0) (by decide +kernel) (Nat.le_of_ble_eq_true rfl) (Or.inr (Or.inr rfl)) (wX7_isCourt g)
set_option maxRecDepth 20000 in
set_option maxHeartbeats 4000000 in
theorem wX7_isThingAt (a0 : Int32) (g : Mem) : aw mX7_isThingAt none 0 [some (.inr 61), some (.inl a0)] [] g (fX7_isThingAt a0 g) := by
  unfold fX7_isThingAt
  refine aw_iload_n iX7_isThingAt_0 rfl rfl ?_
  refine aw_iconst (v := 0) iX7_isThingAt_1 (by decide) ?_
  refine aw_aload_n iX7_isThingAt_2 rfl rfl ?_
  refine aw_getR (own := "") iX7_isThingAt_3 flX7_22 zlt61 zsh61 rfl ?_
  refine aw_iconst (v := 3) iX7_isThingAt_6 (by decide) ?_
  refine aw_iald iX7_isThingAt_7 zlt66 zsh66 (fun v1 _ => ?_)
  refine aw_iconst (v := 1) iX7_isThingAt_8 (by decide) ?_
  refine aw_isub iX7_isThingAt_9 ?_
  refine aw_callS (M' := mX7_in) (As := [.inl a0, .inl (0 : Int32), .inl (v1 - (1 : Int32))]) iX7_isThingAt_10 lkX7_49 mcX7_in msX7_in rfl (kX7_in a0 (0 : Int32) (v1 - (1 : Int32)) g) rfl (Nat.le_of_ble_eq_true rfl) ⟨Nat.le_of_ble_eq_true rfl, Nat.le_of_ble_eq_true rfl⟩ (fun r2 g3 => ?_)
  exact aw_zret iX7_isThingAt_13 rfl
set_option maxRecDepth 20000 in
set_option maxHeartbeats 4000000 in
theorem kX7_isThingAt (a0 : Int32) (g : Mem) : CT mX7_isThingAt [.inr 61, .inl a0] g (fX7_isThingAt a0 g) := CT.of (nr := 0) (by decide +kernel) (Nat.le_of_ble_eq_true rfl) (Or.inr (Or.inr rfl)) (wX7_isThingAt a0 g)
set_option maxRecDepth 20000 in
set_option maxHeartbeats 4000000 in
theorem wX7_isRiddleAt (a0 : Int32) (g : Mem) : aw mX7_isRiddleAt none 0 [some (.inr 61), some (.inl a0)] [] g (fX7_isRiddleAt a0 g) := by
  unfold fX7_isRiddleAt
  refine aw_iload_n iX7_isRiddleAt_0 rfl rfl ?_
  refine aw_iconst (v := 0) iX7_isRiddleAt_1 (by decide) ?_
  refine aw_aload_n iX7_isRiddleAt_2 rfl rfl ?_
  refine aw_getR (own := "") iX7_isRiddleAt_3 flX7_22 zlt61 zsh61 rfl ?_
  refine aw_iconst (v := 4) iX7_isRiddleAt_6 (by decide) ?_
  refine aw_iald iX7_isRiddleAt_7 zlt66 zsh66 (fun v1 _ => ?_)
  refine aw_iconst (v := 1) iX7_isRiddleAt_8 (by decide) ?_
  refine aw_isub iX7_isRiddleAt_9 ?_
  refine aw_callS (M' := mX7_in) (As := [.inl a0, .inl (0 : Int32), .inl (v1 - (1 : Int32))]) iX7_isRiddleAt_10 lkX7_49 mcX7_in msX7_in rfl (kX7_in a0 (0 : Int32) (v1 - (1 : Int32)) g) rfl (Nat.le_of_ble_eq_true rfl) ⟨Nat.le_of_ble_eq_true rfl, Nat.le_of_ble_eq_true rfl⟩ (fun r2 g3 => ?_)
  exact aw_zret iX7_isRiddleAt_13 rfl
set_option maxRecDepth 20000 in
set_option maxHeartbeats 4000000 in
theorem kX7_isRiddleAt (a0 : Int32) (g : Mem) : CT mX7_isRiddleAt [.inr 61, .inl a0] g (fX7_isRiddleAt a0 g) := CT.of (nr := 0) (by decide +kernel) (Nat.le_of_ble_eq_true rfl) (Or.inr (Or.inr rfl)) (wX7_isRiddleAt a0 g)
set_option maxRecDepth 20000 in
set_option maxHeartbeats 4000000 in
theorem wX7_isSuitorAt (a0 : Int32) (g : Mem) : aw mX7_isSuitorAt none 0 [some (.inr 61), some (.inl a0)] [] g (fX7_isSuitorAt a0 g) := by
  unfold fX7_isSuitorAt
  refine aw_iload_n iX7_isSuitorAt_0 rfl rfl ?_
  refine aw_iconst (v := 0) iX7_isSuitorAt_1 (by decide) ?_
  refine aw_aload_n iX7_isSuitorAt_2 rfl rfl ?_
  refine aw_getR (own := "") iX7_isSuitorAt_3 flX7_22 zlt61 zsh61 rfl ?_
  refine aw_iconst (v := 5) iX7_isSuitorAt_6 (by decide) ?_
  refine aw_iald iX7_isSuitorAt_7 zlt66 zsh66 (fun v1 _ => ?_)
  refine aw_iconst (v := 1) iX7_isSuitorAt_8 (by decide) ?_
  refine aw_isub iX7_isSuitorAt_9 ?_
  refine aw_callS (M' := mX7_in) (As := [.inl a0, .inl (0 : Int32), .inl (v1 - (1 : Int32))]) iX7_isSuitorAt_10 lkX7_49 mcX7_in msX7_in rfl (kX7_in a0 (0 : Int32) (v1 - (1 : Int32)) g) rfl (Nat.le_of_ble_eq_true rfl) ⟨Nat.le_of_ble_eq_true rfl, Nat.le_of_ble_eq_true rfl⟩ (fun r2 g3 => ?_)
  exact aw_zret iX7_isSuitorAt_13 rfl
set_option maxRecDepth 20000 in
set_option maxHeartbeats 4000000 in
theorem kX7_isSuitorAt (a0 : Int32) (g : Mem) : CT mX7_isSuitorAt [.inr 61, .inl a0] g (fX7_isSuitorAt a0 g) := CT.of (nr := 0) (by decide +kernel) (Nat.le_of_ble_eq_true rfl) (Or.inr (Or.inr rfl)) (wX7_isSuitorAt a0 g)
set_option maxRecDepth 20000 in
set_option maxHeartbeats 4000000 in
theorem wX7_fits (a0 : Int32) (a1 : Int32) (a2 : Int32) (a3 : Int32) (g : Mem) : aw mX7_fits none 0 [some (.inl a0), some (.inl a1), some (.inl a2), some (.inl a3), none, none] [] g (fX7_fits a0 a1 a2 a3 g) := by
  unfold fX7_fits
  refine aw_iload_n iX7_fits_0 rfl rfl ?_
  refine aw_iload_n iX7_fits_1 rfl rfl ?_
  refine aw_iand iX7_fits_2 ?_
  refine aw_if_ne iX7_fits_3 ?_ ?_
  · refine aw_iconst (v := 1) iX7_fits_6 (by decide) ?_
    refine aw_goto iX7_fits_7 ?_
    refine aw_istore (L' := [some (.inl a0), some (.inl a1), some (.inl a2), some (.inl a3), some (.inl (1 : Int32)), none]) iX7_fits_11 (Nat.le_of_ble_eq_true rfl) rfl ?_
    refine aw_iload_n iX7_fits_13 rfl rfl ?_
    refine aw_iload_n iX7_fits_14 rfl rfl ?_
    refine aw_iand iX7_fits_15 ?_
    refine aw_iload_n iX7_fits_16 rfl rfl ?_
    refine aw_icmp_ne iX7_fits_17 ?_ ?_
    · refine aw_iload iX7_fits_20 rfl ?_
      refine aw_if_eq_F iX7_fits_22 (by decide) ?_
      refine aw_iconst (v := 1) iX7_fits_25 (by decide) ?_
      refine aw_goto iX7_fits_26 ?_
      refine aw_istore (L' := [some (.inl a0), some (.inl a1), some (.inl a2), some (.inl a3), some (.inl (1 : Int32)), some (.inl (1 : Int32))]) iX7_fits_30 (Nat.le_of_ble_eq_true rfl) rfl ?_
      refine aw_iload_n iX7_fits_32 rfl rfl ?_
      refine aw_if (fun c1 => ?_) (fun c1 => ?_)
      · refine aw_tsw tX7_fits_33_1 c1 ?_
        refine aw_iload iX7_fits_64 rfl ?_
        exact aw_zretK iX7_fits_66 rfl (Or.inr rfl)
      refine aw_if (fun c2 => ?_) (fun c2 => ?_)
      · refine aw_tsw tX7_fits_33_2 c2 ?_
        refine aw_iload iX7_fits_67 rfl ?_
        refine aw_if_ne_T iX7_fits_69 (by decide) ?_
        refine aw_iconst (v := 1) iX7_fits_85 (by decide) ?_
        refine aw_goto iX7_fits_86 ?_
        exact aw_zretK iX7_fits_90 rfl (Or.inr rfl)
      refine aw_if (fun c3 => ?_) (fun c3 => ?_)
      · refine aw_tsw tX7_fits_33_3 c3 ?_
        refine aw_iload_n iX7_fits_91 rfl rfl ?_
        refine aw_iload_n iX7_fits_92 rfl rfl ?_
        refine aw_iconst (v := (-1)) iX7_fits_93 (by decide) ?_
        refine aw_ixor iX7_fits_94 ?_
        refine aw_iand iX7_fits_95 ?_
        refine aw_callS (M' := mX7_bits) (As := [.inl (a1 &&& (a3 ^^^ (-1 : Int32)))]) iX7_fits_96 lkX7_133 mcX7_bits msX7_bits rfl (kX7_bits (a1 &&& (a3 ^^^ (-1 : Int32))) g) rfl (Nat.le_of_ble_eq_true rfl) ⟨Nat.le_of_ble_eq_true rfl, Nat.le_of_ble_eq_true rfl⟩ (fun r4 g5 => ?_)
        refine aw_iconst (v := 2) iX7_fits_99 (by decide) ?_
        refine aw_icmp_ge iX7_fits_100 ?_ ?_
        · refine aw_iconst (v := 0) iX7_fits_112 (by decide) ?_
          exact aw_zretK iX7_fits_113 rfl (Or.inl rfl)
        · refine aw_iload iX7_fits_103 rfl ?_
          refine aw_if_eq_F iX7_fits_105 (by decide) ?_
          refine aw_iconst (v := 1) iX7_fits_108 (by decide) ?_
          refine aw_goto iX7_fits_109 ?_
          exact aw_zretK iX7_fits_113 rfl (Or.inr rfl)
      refine aw_if (fun c6 => ?_) (fun c6 => ?_)
      · refine aw_tsw tX7_fits_33_4 c6 ?_
        refine aw_iload iX7_fits_114 rfl ?_
        refine aw_if_ne_T iX7_fits_116 (by decide) ?_
        refine aw_iconst (v := 0) iX7_fits_123 (by decide) ?_
        exact aw_zretK iX7_fits_124 rfl (Or.inl rfl)
      refine aw_tsd tX7_fits_33_d (by have ec1 := ne_toInt c1 (a := 1) (by decide); have ec2 := ne_toInt c2 (a := 2) (by decide); have ec3 := ne_toInt c3 (a := 3) (by decide); have ec6 := ne_toInt c6 (a := 4) (by decide); omega) ?_
      refine aw_iload iX7_fits_125 rfl ?_
      refine aw_if_ne_T iX7_fits_127 (by decide) ?_
      refine aw_iconst (v := 0) iX7_fits_139 (by decide) ?_
      exact aw_zretK iX7_fits_140 rfl (Or.inl rfl)
    · refine aw_iconst (v := 0) iX7_fits_29 (by decide) ?_
      refine aw_istore (L' := [some (.inl a0), some (.inl a1), some (.inl a2), some (.inl a3), some (.inl (1 : Int32)), some (.inl (0 : Int32))]) iX7_fits_30 (Nat.le_of_ble_eq_true rfl) rfl ?_
      refine aw_iload_n iX7_fits_32 rfl rfl ?_
      refine aw_if (fun c7 => ?_) (fun c7 => ?_)
      · refine aw_tsw tX7_fits_33_1 c7 ?_
        refine aw_iload iX7_fits_64 rfl ?_
        exact aw_zretK iX7_fits_66 rfl (Or.inl rfl)
      refine aw_if (fun c8 => ?_) (fun c8 => ?_)
      · refine aw_tsw tX7_fits_33_2 c8 ?_
        refine aw_iload iX7_fits_67 rfl ?_
        refine aw_if_ne_F iX7_fits_69 (by decide) ?_
        refine aw_iload_n iX7_fits_72 rfl rfl ?_
        refine aw_iload_n iX7_fits_73 rfl rfl ?_
        refine aw_iand iX7_fits_74 ?_
        refine aw_iload_n iX7_fits_75 rfl rfl ?_
        refine aw_icmp_ne iX7_fits_76 ?_ ?_
        · refine aw_iload_n iX7_fits_79 rfl rfl ?_
          refine aw_iload_n iX7_fits_80 rfl rfl ?_
          refine aw_iand iX7_fits_81 ?_
          refine aw_if_ne iX7_fits_82 ?_ ?_
          · refine aw_iconst (v := 1) iX7_fits_85 (by decide) ?_
            refine aw_goto iX7_fits_86 ?_
            exact aw_zretK iX7_fits_90 rfl (Or.inr rfl)
          · refine aw_iconst (v := 0) iX7_fits_89 (by decide) ?_
            exact aw_zretK iX7_fits_90 rfl (Or.inl rfl)
        · refine aw_iconst (v := 0) iX7_fits_89 (by decide) ?_
          exact aw_zretK iX7_fits_90 rfl (Or.inl rfl)
      refine aw_if (fun c9 => ?_) (fun c9 => ?_)
      · refine aw_tsw tX7_fits_33_3 c9 ?_
        refine aw_iload_n iX7_fits_91 rfl rfl ?_
        refine aw_iload_n iX7_fits_92 rfl rfl ?_
        refine aw_iconst (v := (-1)) iX7_fits_93 (by decide) ?_
        refine aw_ixor iX7_fits_94 ?_
        refine aw_iand iX7_fits_95 ?_
        refine aw_callS (M' := mX7_bits) (As := [.inl (a1 &&& (a3 ^^^ (-1 : Int32)))]) iX7_fits_96 lkX7_133 mcX7_bits msX7_bits rfl (kX7_bits (a1 &&& (a3 ^^^ (-1 : Int32))) g) rfl (Nat.le_of_ble_eq_true rfl) ⟨Nat.le_of_ble_eq_true rfl, Nat.le_of_ble_eq_true rfl⟩ (fun r10 g11 => ?_)
        refine aw_iconst (v := 2) iX7_fits_99 (by decide) ?_
        refine aw_icmp_ge iX7_fits_100 ?_ ?_
        · refine aw_iconst (v := 0) iX7_fits_112 (by decide) ?_
          exact aw_zretK iX7_fits_113 rfl (Or.inl rfl)
        · refine aw_iload iX7_fits_103 rfl ?_
          refine aw_if_eq_F iX7_fits_105 (by decide) ?_
          refine aw_iconst (v := 1) iX7_fits_108 (by decide) ?_
          refine aw_goto iX7_fits_109 ?_
          exact aw_zretK iX7_fits_113 rfl (Or.inr rfl)
      refine aw_if (fun c12 => ?_) (fun c12 => ?_)
      · refine aw_tsw tX7_fits_33_4 c12 ?_
        refine aw_iload iX7_fits_114 rfl ?_
        refine aw_if_ne_F iX7_fits_116 (by decide) ?_
        refine aw_iconst (v := 1) iX7_fits_119 (by decide) ?_
        refine aw_goto iX7_fits_120 ?_
        exact aw_zretK iX7_fits_124 rfl (Or.inr rfl)
      refine aw_tsd tX7_fits_33_d (by have ec7 := ne_toInt c7 (a := 1) (by decide); have ec8 := ne_toInt c8 (a := 2) (by decide); have ec9 := ne_toInt c9 (a := 3) (by decide); have ec12 := ne_toInt c12 (a := 4) (by decide); omega) ?_
      refine aw_iload iX7_fits_125 rfl ?_
      refine aw_if_ne_F iX7_fits_127 (by decide) ?_
      refine aw_iload iX7_fits_130 rfl ?_
      refine aw_if_eq_F iX7_fits_132 (by decide) ?_
      refine aw_iconst (v := 1) iX7_fits_135 (by decide) ?_
      refine aw_goto iX7_fits_136 ?_
      exact aw_zretK iX7_fits_140 rfl (Or.inr rfl)
  · refine aw_iconst (v := 0) iX7_fits_10 (by decide) ?_
    refine aw_istore (L' := [some (.inl a0), some (.inl a1), some (.inl a2), some (.inl a3), some (.inl (0 : Int32)), none]) iX7_fits_11 (Nat.le_of_ble_eq_true rfl) rfl ?_
    refine aw_iload_n iX7_fits_13 rfl rfl ?_
    refine aw_iload_n iX7_fits_14 rfl rfl ?_
    refine aw_iand iX7_fits_15 ?_
    refine aw_iload_n iX7_fits_16 rfl rfl ?_
    refine aw_icmp_ne iX7_fits_17 ?_ ?_
    · refine aw_iload iX7_fits_20 rfl ?_
      refine aw_if_eq_T iX7_fits_22 (by decide) ?_
      refine aw_iconst (v := 0) iX7_fits_29 (by decide) ?_
      refine aw_istore (L' := [some (.inl a0), some (.inl a1), some (.inl a2), some (.inl a3), some (.inl (0 : Int32)), some (.inl (0 : Int32))]) iX7_fits_30 (Nat.le_of_ble_eq_true rfl) rfl ?_
      refine aw_iload_n iX7_fits_32 rfl rfl ?_
      refine aw_if (fun c13 => ?_) (fun c13 => ?_)
      · refine aw_tsw tX7_fits_33_1 c13 ?_
        refine aw_iload iX7_fits_64 rfl ?_
        exact aw_zretK iX7_fits_66 rfl (Or.inl rfl)
      refine aw_if (fun c14 => ?_) (fun c14 => ?_)
      · refine aw_tsw tX7_fits_33_2 c14 ?_
        refine aw_iload iX7_fits_67 rfl ?_
        refine aw_if_ne_F iX7_fits_69 (by decide) ?_
        refine aw_iload_n iX7_fits_72 rfl rfl ?_
        refine aw_iload_n iX7_fits_73 rfl rfl ?_
        refine aw_iand iX7_fits_74 ?_
        refine aw_iload_n iX7_fits_75 rfl rfl ?_
        refine aw_icmp_ne iX7_fits_76 ?_ ?_
        · refine aw_iload_n iX7_fits_79 rfl rfl ?_
          refine aw_iload_n iX7_fits_80 rfl rfl ?_
          refine aw_iand iX7_fits_81 ?_
          refine aw_if_ne iX7_fits_82 ?_ ?_
          · refine aw_iconst (v := 1) iX7_fits_85 (by decide) ?_
            refine aw_goto iX7_fits_86 ?_
            exact aw_zretK iX7_fits_90 rfl (Or.inr rfl)
          · refine aw_iconst (v := 0) iX7_fits_89 (by decide) ?_
            exact aw_zretK iX7_fits_90 rfl (Or.inl rfl)
        · refine aw_iconst (v := 0) iX7_fits_89 (by decide) ?_
          exact aw_zretK iX7_fits_90 rfl (Or.inl rfl)
      refine aw_if (fun c15 => ?_) (fun c15 => ?_)
      · refine aw_tsw tX7_fits_33_3 c15 ?_
        refine aw_iload_n iX7_fits_91 rfl rfl ?_
        refine aw_iload_n iX7_fits_92 rfl rfl ?_
        refine aw_iconst (v := (-1)) iX7_fits_93 (by decide) ?_
        refine aw_ixor iX7_fits_94 ?_
        refine aw_iand iX7_fits_95 ?_
        refine aw_callS (M' := mX7_bits) (As := [.inl (a1 &&& (a3 ^^^ (-1 : Int32)))]) iX7_fits_96 lkX7_133 mcX7_bits msX7_bits rfl (kX7_bits (a1 &&& (a3 ^^^ (-1 : Int32))) g) rfl (Nat.le_of_ble_eq_true rfl) ⟨Nat.le_of_ble_eq_true rfl, Nat.le_of_ble_eq_true rfl⟩ (fun r16 g17 => ?_)
        refine aw_iconst (v := 2) iX7_fits_99 (by decide) ?_
        refine aw_icmp_ge iX7_fits_100 ?_ ?_
        · refine aw_iconst (v := 0) iX7_fits_112 (by decide) ?_
          exact aw_zretK iX7_fits_113 rfl (Or.inl rfl)
        · refine aw_iload iX7_fits_103 rfl ?_
          refine aw_if_eq_T iX7_fits_105 (by decide) ?_
          refine aw_iconst (v := 0) iX7_fits_112 (by decide) ?_
          exact aw_zretK iX7_fits_113 rfl (Or.inl rfl)
      refine aw_if (fun c18 => ?_) (fun c18 => ?_)
      · refine aw_tsw tX7_fits_33_4 c18 ?_
        refine aw_iload iX7_fits_114 rfl ?_
        refine aw_if_ne_F iX7_fits_116 (by decide) ?_
        refine aw_iconst (v := 1) iX7_fits_119 (by decide) ?_
        refine aw_goto iX7_fits_120 ?_
        exact aw_zretK iX7_fits_124 rfl (Or.inr rfl)
      refine aw_tsd tX7_fits_33_d (by have ec13 := ne_toInt c13 (a := 1) (by decide); have ec14 := ne_toInt c14 (a := 2) (by decide); have ec15 := ne_toInt c15 (a := 3) (by decide); have ec18 := ne_toInt c18 (a := 4) (by decide); omega) ?_
      refine aw_iload iX7_fits_125 rfl ?_
      refine aw_if_ne_F iX7_fits_127 (by decide) ?_
      refine aw_iload iX7_fits_130 rfl ?_
      refine aw_if_eq_T iX7_fits_132 (by decide) ?_
      refine aw_iconst (v := 0) iX7_fits_139 (by decide) ?_
      exact aw_zretK iX7_fits_140 rfl (Or.inl rfl)
    · refine aw_iconst (v := 0) iX7_fits_29 (by decide) ?_
      refine aw_istore (L' := [some (.inl a0), some (.inl a1), some (.inl a2), some (.inl a3), some (.inl (0 : Int32)), some (.inl (0 : Int32))]) iX7_fits_30 (Nat.le_of_ble_eq_true rfl) rfl ?_
      refine aw_iload_n iX7_fits_32 rfl rfl ?_
      refine aw_if (fun c19 => ?_) (fun c19 => ?_)
      · refine aw_tsw tX7_fits_33_1 c19 ?_
        refine aw_iload iX7_fits_64 rfl ?_
        exact aw_zretK iX7_fits_66 rfl (Or.inl rfl)
      refine aw_if (fun c20 => ?_) (fun c20 => ?_)
      · refine aw_tsw tX7_fits_33_2 c20 ?_
        refine aw_iload iX7_fits_67 rfl ?_
        refine aw_if_ne_F iX7_fits_69 (by decide) ?_
        refine aw_iload_n iX7_fits_72 rfl rfl ?_
        refine aw_iload_n iX7_fits_73 rfl rfl ?_
        refine aw_iand iX7_fits_74 ?_
        refine aw_iload_n iX7_fits_75 rfl rfl ?_
        refine aw_icmp_ne iX7_fits_76 ?_ ?_
        · refine aw_iload_n iX7_fits_79 rfl rfl ?_
          refine aw_iload_n iX7_fits_80 rfl rfl ?_
          refine aw_iand iX7_fits_81 ?_
          refine aw_if_ne iX7_fits_82 ?_ ?_
          · refine aw_iconst (v := 1) iX7_fits_85 (by decide) ?_
            refine aw_goto iX7_fits_86 ?_
            exact aw_zretK iX7_fits_90 rfl (Or.inr rfl)
          · refine aw_iconst (v := 0) iX7_fits_89 (by decide) ?_
            exact aw_zretK iX7_fits_90 rfl (Or.inl rfl)
        · refine aw_iconst (v := 0) iX7_fits_89 (by decide) ?_
          exact aw_zretK iX7_fits_90 rfl (Or.inl rfl)
      refine aw_if (fun c21 => ?_) (fun c21 => ?_)
      · refine aw_tsw tX7_fits_33_3 c21 ?_
        refine aw_iload_n iX7_fits_91 rfl rfl ?_
        refine aw_iload_n iX7_fits_92 rfl rfl ?_
        refine aw_iconst (v := (-1)) iX7_fits_93 (by decide) ?_
        refine aw_ixor iX7_fits_94 ?_
        refine aw_iand iX7_fits_95 ?_
        refine aw_callS (M' := mX7_bits) (As := [.inl (a1 &&& (a3 ^^^ (-1 : Int32)))]) iX7_fits_96 lkX7_133 mcX7_bits msX7_bits rfl (kX7_bits (a1 &&& (a3 ^^^ (-1 : Int32))) g) rfl (Nat.le_of_ble_eq_true rfl) ⟨Nat.le_of_ble_eq_true rfl, Nat.le_of_ble_eq_true rfl⟩ (fun r22 g23 => ?_)
        refine aw_iconst (v := 2) iX7_fits_99 (by decide) ?_
        refine aw_icmp_ge iX7_fits_100 ?_ ?_
        · refine aw_iconst (v := 0) iX7_fits_112 (by decide) ?_
          exact aw_zretK iX7_fits_113 rfl (Or.inl rfl)
        · refine aw_iload iX7_fits_103 rfl ?_
          refine aw_if_eq_T iX7_fits_105 (by decide) ?_
          refine aw_iconst (v := 0) iX7_fits_112 (by decide) ?_
          exact aw_zretK iX7_fits_113 rfl (Or.inl rfl)
      refine aw_if (fun c24 => ?_) (fun c24 => ?_)
      · refine aw_tsw tX7_fits_33_4 c24 ?_
        refine aw_iload iX7_fits_114 rfl ?_
        refine aw_if_ne_F iX7_fits_116 (by decide) ?_
        refine aw_iconst (v := 1) iX7_fits_119 (by decide) ?_
        refine aw_goto iX7_fits_120 ?_
        exact aw_zretK iX7_fits_124 rfl (Or.inr rfl)
      refine aw_tsd tX7_fits_33_d (by have ec19 := ne_toInt c19 (a := 1) (by decide); have ec20 := ne_toInt c20 (a := 2) (by decide); have ec21 := ne_toInt c21 (a := 3) (by decide); have ec24 := ne_toInt c24 (a := 4) (by decide); omega) ?_
      refine aw_iload iX7_fits_125 rfl ?_
      refine aw_if_ne_F iX7_fits_127 (by decide) ?_
      refine aw_iload iX7_fits_130 rfl ?_
      refine aw_if_eq_T iX7_fits_132 (by decide) ?_
      refine aw_iconst (v := 0) iX7_fits_139 (by decide) ?_
      exact aw_zretK iX7_fits_140 rfl (Or.inl rfl)
set_option maxRecDepth 20000 in
set_option maxHeartbeats 4000000 in
theorem kX7_fits (a0 : Int32) (a1 : Int32) (a2 : Int32) (a3 : Int32) (g : Mem) : CT mX7_fits [.inl a0, .inl a1, .inl a2, .inl a3] g (fX7_fits a0 a1 a2 a3 g) := CT.of (nr := 2) (by decide +kernel) (Nat.le_of_ble_eq_true rfl) (Or.inr (Or.inr rfl)) (wX7_fits a0 a1 a2 a3 g)
set_option maxRecDepth 20000 in
set_option maxHeartbeats 4000000 in
theorem wX7_fittersOf_L6 (l1 : Int32) (l2 : Int32) (l3 : Int32) (K : Int32 → Int32 → Mem → Option (Int32 × Mem)) (hK : ∀ (l4 l5 : Int32) (g : Mem), aw mX7_fittersOf none 55 [some (.inr 61), some (.inl l1), some (.inl l2), some (.inl l3), some (.inl l4), some (.inl l5)] [] g (K l4 l5 g)) : ∀ (n : Nat) (l4 l5 : Int32) (g : Mem), aw mX7_fittersOf none 6 [some (.inr 61), some (.inl l1), some (.inl l2), some (.inl l3), some (.inl l4), some (.inl l5)] [] g (fX7_fittersOf_L6 l1 l2 l3 K n l4 l5 g) := by
  intro n
  induction n with
  | zero => intro l4 l5 g; exact aw_none
  | succ n ih =>
    intro l4 l5 g
    rw [fX7_fittersOf_L6]
    refine aw_iload iX7_fittersOf_6 rfl ?_
    refine aw_aload_n iX7_fittersOf_8 rfl rfl ?_
    refine aw_getR (own := "") iX7_fittersOf_9 flX7_22 zlt61 zsh61 rfl ?_
    refine aw_iconst (v := 3) iX7_fittersOf_12 (by decide) ?_
    refine aw_iald iX7_fittersOf_13 zlt66 zsh66 (fun v1 _ => ?_)
    refine aw_icmp_ge iX7_fittersOf_14 ?_ ?_
    · exact hK l4 l5 g
    · refine aw_iload iX7_fittersOf_17 rfl ?_
      refine aw_iload_n iX7_fittersOf_19 rfl rfl ?_
      refine aw_iload_n iX7_fittersOf_20 rfl rfl ?_
      refine aw_iload_n iX7_fittersOf_21 rfl rfl ?_
      refine aw_aload_n iX7_fittersOf_22 rfl rfl ?_
      refine aw_getR (own := "") iX7_fittersOf_23 flX7_22 zlt61 zsh61 rfl ?_
      refine aw_bipush (v := 8) iX7_fittersOf_26 (by decide) ?_
      refine aw_iload iX7_fittersOf_28 rfl ?_
      refine aw_iadd iX7_fittersOf_30 ?_
      refine aw_iald iX7_fittersOf_31 zlt66 zsh66 (fun v2 _ => ?_)
      refine aw_callS (M' := mX7_fits) (As := [.inl l1, .inl l2, .inl l3, .inl v2]) iX7_fittersOf_32 lkX7_136 mcX7_fits msX7_fits rfl (kX7_fits l1 l2 l3 v2 g) rfl (Nat.le_of_ble_eq_true rfl) ⟨Nat.le_of_ble_eq_true rfl, Nat.le_of_ble_eq_true rfl⟩ (fun r3 g4 => ?_)
      refine aw_if_eq iX7_fittersOf_35 ?_ ?_
      · refine aw_iconst (v := 0) iX7_fittersOf_45 (by decide) ?_
        refine aw_ior iX7_fittersOf_46 ?_
        refine aw_lt (fun x5 => ?_)
        refine aw_istore (L' := [some (.inr 61), some (.inl l1), some (.inl l2), some (.inl l3), some (.inl x5), some (.inl l5)]) iX7_fittersOf_47 (Nat.le_of_ble_eq_true rfl) rfl ?_
        refine aw_iinc (L' := [some (.inr 61), some (.inl l1), some (.inl l2), some (.inl l3), some (.inl x5), some (.inl (l5 + (1 : Int32)))]) (v := l5 + (1 : Int32)) iX7_fittersOf_49 rfl rfl (Nat.le_of_ble_eq_true rfl) rfl ?_
        refine aw_goto iX7_fittersOf_52 ?_
        exact ih x5 (l5 + (1 : Int32)) g4
      · refine aw_iconst (v := 1) iX7_fittersOf_38 (by decide) ?_
        refine aw_iload iX7_fittersOf_39 rfl ?_
        refine aw_ishl iX7_fittersOf_41 ?_
        refine aw_goto iX7_fittersOf_42 ?_
        refine aw_ior iX7_fittersOf_46 ?_
        refine aw_lt (fun x6 => ?_)
        refine aw_istore (L' := [some (.inr 61), some (.inl l1), some (.inl l2), some (.inl l3), some (.inl x6), some (.inl l5)]) iX7_fittersOf_47 (Nat.le_of_ble_eq_true rfl) rfl ?_
        refine aw_iinc (L' := [some (.inr 61), some (.inl l1), some (.inl l2), some (.inl l3), some (.inl x6), some (.inl (l5 + (1 : Int32)))]) (v := l5 + (1 : Int32)) iX7_fittersOf_49 rfl rfl (Nat.le_of_ble_eq_true rfl) rfl ?_
        refine aw_goto iX7_fittersOf_52 ?_
        exact ih x6 (l5 + (1 : Int32)) g4
set_option maxRecDepth 20000 in
set_option maxHeartbeats 4000000 in
theorem wX7_fittersOf (a0 : Int32) (a1 : Int32) (a2 : Int32) (g : Mem) : aw mX7_fittersOf none 0 [some (.inr 61), some (.inl a0), some (.inl a1), some (.inl a2), none, none] [] g (fX7_fittersOf a0 a1 a2 g) := by
  unfold fX7_fittersOf
  refine aw_iconst (v := 0) iX7_fittersOf_0 (by decide) ?_
  refine aw_istore (L' := [some (.inr 61), some (.inl a0), some (.inl a1), some (.inl a2), some (.inl (0 : Int32)), none]) iX7_fittersOf_1 (Nat.le_of_ble_eq_true rfl) rfl ?_
  refine aw_iconst (v := 0) iX7_fittersOf_3 (by decide) ?_
  refine aw_istore (L' := [some (.inr 61), some (.inl a0), some (.inl a1), some (.inl a2), some (.inl (0 : Int32)), some (.inl (0 : Int32))]) iX7_fittersOf_4 (Nat.le_of_ble_eq_true rfl) rfl ?_
  refine wX7_fittersOf_L6 a0 a1 a2 _ (fun l7 l8 g9 => ?_) FU (0 : Int32) (0 : Int32) g
  refine aw_iload iX7_fittersOf_55 rfl ?_
  exact aw_iret iX7_fittersOf_57 rfl
set_option maxRecDepth 20000 in
set_option maxHeartbeats 4000000 in
theorem kX7_fittersOf (a0 : Int32) (a1 : Int32) (a2 : Int32) (g : Mem) : CT mX7_fittersOf [.inr 61, .inl a0, .inl a1, .inl a2] g (fX7_fittersOf a0 a1 a2 g) := CT.of (nr := 2) (by decide +kernel) (Nat.le_of_ble_eq_true rfl) (Or.inr (Or.inl rfl)) (wX7_fittersOf a0 a1 a2 g)
set_option maxRecDepth 20000 in
set_option maxHeartbeats 4000000 in
theorem wX7_fittersAt (a0 : Int32) (g : Mem) : aw mX7_fittersAt none 0 [some (.inr 61), some (.inl a0)] [] g (fX7_fittersAt a0 g) := by
  unfold fX7_fittersAt
  refine aw_aload_n iX7_fittersAt_0 rfl rfl ?_
  refine aw_aload_n iX7_fittersAt_1 rfl rfl ?_
  refine aw_getR (own := "") iX7_fittersAt_2 flX7_22 zlt61 zsh61 rfl ?_
  refine aw_bipush (v := 16) iX7_fittersAt_5 (by decide) ?_
  refine aw_iload_n iX7_fittersAt_7 rfl rfl ?_
  refine aw_iadd iX7_fittersAt_8 ?_
  refine aw_iald iX7_fittersAt_9 zlt66 zsh66 (fun v1 _ => ?_)
  refine aw_aload_n iX7_fittersAt_10 rfl rfl ?_
  refine aw_getR (own := "") iX7_fittersAt_11 flX7_22 zlt61 zsh61 rfl ?_
  refine aw_bipush (v := 22) iX7_fittersAt_14 (by decide) ?_
  refine aw_iload_n iX7_fittersAt_16 rfl rfl ?_
  refine aw_iadd iX7_fittersAt_17 ?_
  refine aw_iald iX7_fittersAt_18 zlt66 zsh66 (fun v2 _ => ?_)
  refine aw_aload_n iX7_fittersAt_19 rfl rfl ?_
  refine aw_getR (own := "") iX7_fittersAt_20 flX7_22 zlt61 zsh61 rfl ?_
  refine aw_bipush (v := 28) iX7_fittersAt_23 (by decide) ?_
  refine aw_iload_n iX7_fittersAt_25 rfl rfl ?_
  refine aw_iadd iX7_fittersAt_26 ?_
  refine aw_iald iX7_fittersAt_27 zlt66 zsh66 (fun v3 _ => ?_)
  refine aw_callV (M' := mX7_fittersOf) (As := [.inl v1, .inl v2, .inl v3]) iX7_fittersAt_28 lkX7_140 mcX7_fittersOf mvX7_fittersOf rfl zrc61 (kX7_fittersOf v1 v2 v3 g) rfl (Nat.le_of_ble_eq_true rfl) ⟨Nat.le_of_ble_eq_true rfl, Nat.le_of_ble_eq_true rfl⟩ (fun r4 g5 => ?_)
  exact aw_iret iX7_fittersAt_31 rfl
set_option maxRecDepth 20000 in
set_option maxHeartbeats 4000000 in
theorem kX7_fittersAt (a0 : Int32) (g : Mem) : CT mX7_fittersAt [.inr 61, .inl a0] g (fX7_fittersAt a0 g) := CT.of (nr := 0) (by decide +kernel) (Nat.le_of_ble_eq_true rfl) (Or.inr (Or.inl rfl)) (wX7_fittersAt a0 g)
set_option maxRecDepth 20000 in
set_option maxHeartbeats 4000000 in
theorem wX7_leastOf_L9 (l0 : Int32) (K : Int32 → Mem → Option (Int32 × Mem)) (hK : ∀ (l1 : Int32) (g : Mem), aw mX7_leastOf none 23 [some (.inl l0), some (.inl l1)] [] g (K l1 g)) : ∀ (n : Nat) (l1 : Int32) (g : Mem), aw mX7_leastOf none 9 [some (.inl l0), some (.inl l1)] [] g (fX7_leastOf_L9 l0 K n l1 g) := by
  intro n
  induction n with
  | zero => intro l1 g; exact aw_none
  | succ n ih =>
    intro l1 g
    rw [fX7_leastOf_L9]
    refine aw_iload_n iX7_leastOf_9 rfl rfl ?_
    refine aw_iload_n iX7_leastOf_10 rfl rfl ?_
    refine aw_callS (M' := mX7_has) (As := [.inl l0, .inl l1]) iX7_leastOf_11 lkX7_145 mcX7_has msX7_has rfl (kX7_has l0 l1 g) rfl (Nat.le_of_ble_eq_true rfl) ⟨Nat.le_of_ble_eq_true rfl, Nat.le_of_ble_eq_true rfl⟩ (fun r1 g2 => ?_)
    refine aw_if_ne iX7_leastOf_14 ?_ ?_
    · refine aw_iinc (L' := [some (.inl l0), some (.inl (l1 + (1 : Int32)))]) (v := l1 + (1 : Int32)) iX7_leastOf_17 rfl rfl (Nat.le_of_ble_eq_true rfl) rfl ?_
      refine aw_goto iX7_leastOf_20 ?_
      exact ih (l1 + (1 : Int32)) g2
    · exact hK l1 g2
set_option maxRecDepth 20000 in
set_option maxHeartbeats 4000000 in
theorem wX7_leastOf (a0 : Int32) (g : Mem) : aw mX7_leastOf none 0 [some (.inl a0), none] [] g (fX7_leastOf a0 g) := by
  unfold fX7_leastOf
  refine aw_iload_n iX7_leastOf_0 rfl rfl ?_
  refine aw_if_ne iX7_leastOf_1 ?_ ?_
  · refine aw_ldc (v := (-1000000)) iX7_leastOf_4 kcX7_144 ?_
    exact aw_iret iX7_leastOf_6 rfl
  · refine aw_iconst (v := 0) iX7_leastOf_7 (by decide) ?_
    refine aw_istore_n (L' := [some (.inl a0), some (.inl (0 : Int32))]) iX7_leastOf_8 rfl (Nat.le_of_ble_eq_true rfl) rfl ?_
    refine wX7_leastOf_L9 a0 _ (fun l3 g4 => ?_) FU (0 : Int32) g
    refine aw_iload_n iX7_leastOf_23 rfl rfl ?_
    exact aw_iret iX7_leastOf_24 rfl
set_option maxRecDepth 20000 in
set_option maxHeartbeats 4000000 in
theorem kX7_leastOf (a0 : Int32) (g : Mem) : CT mX7_leastOf [.inl a0] g (fX7_leastOf a0 g) := CT.of (nr := 1) (by decide +kernel) (Nat.le_of_ble_eq_true rfl) (Or.inr (Or.inl rfl)) (wX7_leastOf a0 g)
set_option maxRecDepth 20000 in
set_option maxHeartbeats 4000000 in
theorem wX7_answerAt (a0 : Int32) (g : Mem) : aw mX7_answerAt none 0 [some (.inr 61), some (.inl a0)] [] g (fX7_answerAt a0 g) := by
  unfold fX7_answerAt
  refine aw_aload_n iX7_answerAt_0 rfl rfl ?_
  refine aw_iload_n iX7_answerAt_1 rfl rfl ?_
  refine aw_callV (M' := mX7_fittersAt) (As := [.inl a0]) iX7_answerAt_2 lkX7_149 mcX7_fittersAt mvX7_fittersAt rfl zrc61 (kX7_fittersAt a0 g) rfl (Nat.le_of_ble_eq_true rfl) ⟨Nat.le_of_ble_eq_true rfl, Nat.le_of_ble_eq_true rfl⟩ (fun r1 g2 => ?_)
  refine aw_callS (M' := mX7_leastOf) (As := [.inl r1]) iX7_answerAt_5 lkX7_152 mcX7_leastOf msX7_leastOf rfl (kX7_leastOf r1 g2) rfl (Nat.le_of_ble_eq_true rfl) ⟨Nat.le_of_ble_eq_true rfl, Nat.le_of_ble_eq_true rfl⟩ (fun r3 g4 => ?_)
  exact aw_iret iX7_answerAt_8 rfl
set_option maxRecDepth 20000 in
set_option maxHeartbeats 4000000 in
theorem kX7_answerAt (a0 : Int32) (g : Mem) : CT mX7_answerAt [.inr 61, .inl a0] g (fX7_answerAt a0 g) := CT.of (nr := 0) (by decide +kernel) (Nat.le_of_ble_eq_true rfl) (Or.inr (Or.inl rfl)) (wX7_answerAt a0 g)
set_option maxRecDepth 20000 in
set_option maxHeartbeats 4000000 in
theorem wX7_saysAt (a0 : Int32) (a1 : Int32) (g : Mem) : aw mX7_saysAt none 0 [some (.inr 61), some (.inl a0), some (.inl a1)] [] g (fX7_saysAt a0 a1 g) := by
  unfold fX7_saysAt
  refine aw_aload_n iX7_saysAt_0 rfl rfl ?_
  refine aw_iload_n iX7_saysAt_1 rfl rfl ?_
  refine aw_callV (M' := mX7_fittersAt) (As := [.inl a1]) iX7_saysAt_2 lkX7_149 mcX7_fittersAt mvX7_fittersAt rfl zrc61 (kX7_fittersAt a1 g) rfl (Nat.le_of_ble_eq_true rfl) ⟨Nat.le_of_ble_eq_true rfl, Nat.le_of_ble_eq_true rfl⟩ (fun r1 g2 => ?_)
  refine aw_aload_n iX7_saysAt_5 rfl rfl ?_
  refine aw_getR (own := "") iX7_saysAt_6 flX7_22 zlt61 zsh61 rfl ?_
  refine aw_bipush (v := 34) iX7_saysAt_9 (by decide) ?_
  refine aw_iload_n iX7_saysAt_11 rfl rfl ?_
  refine aw_iadd iX7_saysAt_12 ?_
  refine aw_iald iX7_saysAt_13 zlt66 zsh66 (fun v3 _ => ?_)
  refine aw_iand iX7_saysAt_14 ?_
  refine aw_callS (M' := mX7_leastOf) (As := [.inl (r1 &&& v3)]) iX7_saysAt_15 lkX7_152 mcX7_leastOf msX7_leastOf rfl (kX7_leastOf (r1 &&& v3) g2) rfl (Nat.le_of_ble_eq_true rfl) ⟨Nat.le_of_ble_eq_true rfl, Nat.le_of_ble_eq_true rfl⟩ (fun r4 g5 => ?_)
  exact aw_iret iX7_saysAt_18 rfl
set_option maxRecDepth 20000 in
set_option maxHeartbeats 4000000 in
theorem kX7_saysAt (a0 : Int32) (a1 : Int32) (g : Mem) : CT mX7_saysAt [.inr 61, .inl a0, .inl a1] g (fX7_saysAt a0 a1 g) := CT.of (nr := 0) (by decide +kernel) (Nat.le_of_ble_eq_true rfl) (Or.inr (Or.inl rfl)) (wX7_saysAt a0 a1 g)
set_option maxRecDepth 20000 in
set_option maxHeartbeats 4000000 in
theorem wX7_sheSaysAt (a0 : Int32) (g : Mem) : aw mX7_sheSaysAt none 0 [some (.inr 61), some (.inl a0)] [] g (fX7_sheSaysAt a0 g) := by
  unfold fX7_sheSaysAt
  refine aw_aload_n iX7_sheSaysAt_0 rfl rfl ?_
  refine aw_iload_n iX7_sheSaysAt_1 rfl rfl ?_
  refine aw_callV (M' := mX7_fittersAt) (As := [.inl a0]) iX7_sheSaysAt_2 lkX7_149 mcX7_fittersAt mvX7_fittersAt rfl zrc61 (kX7_fittersAt a0 g) rfl (Nat.le_of_ble_eq_true rfl) ⟨Nat.le_of_ble_eq_true rfl, Nat.le_of_ble_eq_true rfl⟩ (fun r1 g2 => ?_)
  refine aw_aload_n iX7_sheSaysAt_5 rfl rfl ?_
  refine aw_getR (own := "") iX7_sheSaysAt_6 flX7_22 zlt61 zsh61 rfl ?_
  refine aw_iconst (v := 1) iX7_sheSaysAt_9 (by decide) ?_
  refine aw_iald iX7_sheSaysAt_10 zlt66 zsh66 (fun v3 _ => ?_)
  refine aw_iand iX7_sheSaysAt_11 ?_
  refine aw_callS (M' := mX7_leastOf) (As := [.inl (r1 &&& v3)]) iX7_sheSaysAt_12 lkX7_152 mcX7_leastOf msX7_leastOf rfl (kX7_leastOf (r1 &&& v3) g2) rfl (Nat.le_of_ble_eq_true rfl) ⟨Nat.le_of_ble_eq_true rfl, Nat.le_of_ble_eq_true rfl⟩ (fun r4 g5 => ?_)
  exact aw_iret iX7_sheSaysAt_15 rfl
set_option maxRecDepth 20000 in
set_option maxHeartbeats 4000000 in
theorem kX7_sheSaysAt (a0 : Int32) (g : Mem) : CT mX7_sheSaysAt [.inr 61, .inl a0] g (fX7_sheSaysAt a0 g) := CT.of (nr := 0) (by decide +kernel) (Nat.le_of_ble_eq_true rfl) (Or.inr (Or.inl rfl)) (wX7_sheSaysAt a0 g)
set_option maxRecDepth 20000 in
set_option maxHeartbeats 4000000 in
theorem wX7_isOpen (a0 : Int32) (g : Mem) : aw mX7_isOpen none 0 [some (.inr 61), some (.inl a0)] [] g (fX7_isOpen a0 g) := by
  unfold fX7_isOpen
  refine aw_aload_n iX7_isOpen_0 rfl rfl ?_
  refine aw_getR (own := "") iX7_isOpen_1 flX7_22 zlt61 zsh61 rfl ?_
  refine aw_bipush (v := 6) iX7_isOpen_4 (by decide) ?_
  refine aw_iald iX7_isOpen_6 zlt66 zsh66 (fun v1 _ => ?_)
  refine aw_iload_n iX7_isOpen_7 rfl rfl ?_
  refine aw_callS (M' := mX7_has) (As := [.inl v1, .inl a0]) iX7_isOpen_8 lkX7_145 mcX7_has msX7_has rfl (kX7_has v1 a0 g) rfl (Nat.le_of_ble_eq_true rfl) ⟨Nat.le_of_ble_eq_true rfl, Nat.le_of_ble_eq_true rfl⟩ (fun r2 g3 => ?_)
  refine aw_if_ne iX7_isOpen_11 ?_ ?_
  · refine aw_iconst (v := 1) iX7_isOpen_14 (by decide) ?_
    refine aw_goto iX7_isOpen_15 ?_
    exact aw_zretK iX7_isOpen_19 rfl (Or.inr rfl)
  · refine aw_iconst (v := 0) iX7_isOpen_18 (by decide) ?_
    exact aw_zretK iX7_isOpen_19 rfl (Or.inl rfl)
set_option maxRecDepth 20000 in
set_option maxHeartbeats 4000000 in
theorem kX7_isOpen (a0 : Int32) (g : Mem) : CT mX7_isOpen [.inr 61, .inl a0] g (fX7_isOpen a0 g) := CT.of (nr := 0) (by decide +kernel) (Nat.le_of_ble_eq_true rfl) (Or.inr (Or.inr rfl)) (wX7_isOpen a0 g)
set_option maxRecDepth 20000 in
set_option maxHeartbeats 4000000 in
theorem wX7_isAnyWed_L4 (K : Int32 → Int32 → Mem → Option (Int32 × Mem)) (hK : ∀ (l1 l2 : Int32) (g : Mem), aw mX7_isAnyWed none 43 [some (.inr 61), some (.inl l1), some (.inl l2)] [] g (K l1 l2 g)) : ∀ (n : Nat) (l1 l2 : Int32) (g : Mem), aw mX7_isAnyWed none 4 [some (.inr 61), some (.inl l1), some (.inl l2)] [] g (fX7_isAnyWed_L4 K n l1 l2 g) := by
  intro n
  induction n with
  | zero => intro l1 l2 g; exact aw_none
  | succ n ih =>
    intro l1 l2 g
    rw [fX7_isAnyWed_L4]
    refine aw_iload_n iX7_isAnyWed_4 rfl rfl ?_
    refine aw_aload_n iX7_isAnyWed_5 rfl rfl ?_
    refine aw_getR (own := "") iX7_isAnyWed_6 flX7_22 zlt61 zsh61 rfl ?_
    refine aw_iconst (v := 5) iX7_isAnyWed_9 (by decide) ?_
    refine aw_iald iX7_isAnyWed_10 zlt66 zsh66 (fun v1 _ => ?_)
    refine aw_icmp_ge iX7_isAnyWed_11 ?_ ?_
    · exact hK l1 l2 g
    · refine aw_iload_n iX7_isAnyWed_14 rfl rfl ?_
      refine aw_if_ne iX7_isAnyWed_15 ?_ ?_
      · refine aw_aload_n iX7_isAnyWed_18 rfl rfl ?_
        refine aw_getR (own := "") iX7_isAnyWed_19 flX7_22 zlt61 zsh61 rfl ?_
        refine aw_bipush (v := 38) iX7_isAnyWed_22 (by decide) ?_
        refine aw_iload_n iX7_isAnyWed_24 rfl rfl ?_
        refine aw_iadd iX7_isAnyWed_25 ?_
        refine aw_iald iX7_isAnyWed_26 zlt66 zsh66 (fun v2 _ => ?_)
        refine aw_iconst (v := 2) iX7_isAnyWed_27 (by decide) ?_
        refine aw_icmp_ne iX7_isAnyWed_28 ?_ ?_
        · refine aw_iconst (v := 1) iX7_isAnyWed_31 (by decide) ?_
          refine aw_goto iX7_isAnyWed_32 ?_
          refine aw_istore_n (L' := [some (.inr 61), some (.inl (1 : Int32)), some (.inl l2)]) iX7_isAnyWed_36 rfl (Nat.le_of_ble_eq_true rfl) rfl ?_
          refine aw_iinc (L' := [some (.inr 61), some (.inl (1 : Int32)), some (.inl (l2 + (1 : Int32)))]) (v := l2 + (1 : Int32)) iX7_isAnyWed_37 rfl rfl (Nat.le_of_ble_eq_true rfl) rfl ?_
          refine aw_goto iX7_isAnyWed_40 ?_
          exact ih (1 : Int32) (l2 + (1 : Int32)) g
        · refine aw_iconst (v := 0) iX7_isAnyWed_35 (by decide) ?_
          refine aw_istore_n (L' := [some (.inr 61), some (.inl (0 : Int32)), some (.inl l2)]) iX7_isAnyWed_36 rfl (Nat.le_of_ble_eq_true rfl) rfl ?_
          refine aw_iinc (L' := [some (.inr 61), some (.inl (0 : Int32)), some (.inl (l2 + (1 : Int32)))]) (v := l2 + (1 : Int32)) iX7_isAnyWed_37 rfl rfl (Nat.le_of_ble_eq_true rfl) rfl ?_
          refine aw_goto iX7_isAnyWed_40 ?_
          exact ih (0 : Int32) (l2 + (1 : Int32)) g
      · refine aw_iconst (v := 1) iX7_isAnyWed_31 (by decide) ?_
        refine aw_goto iX7_isAnyWed_32 ?_
        refine aw_istore_n (L' := [some (.inr 61), some (.inl (1 : Int32)), some (.inl l2)]) iX7_isAnyWed_36 rfl (Nat.le_of_ble_eq_true rfl) rfl ?_
        refine aw_iinc (L' := [some (.inr 61), some (.inl (1 : Int32)), some (.inl (l2 + (1 : Int32)))]) (v := l2 + (1 : Int32)) iX7_isAnyWed_37 rfl rfl (Nat.le_of_ble_eq_true rfl) rfl ?_
        refine aw_goto iX7_isAnyWed_40 ?_
        exact ih (1 : Int32) (l2 + (1 : Int32)) g
set_option maxRecDepth 20000 in
set_option maxHeartbeats 4000000 in
theorem wX7_isAnyWed (g : Mem) : aw mX7_isAnyWed none 0 [some (.inr 61), none, none] [] g (fX7_isAnyWed g) := by
  unfold fX7_isAnyWed
  refine aw_iconst (v := 0) iX7_isAnyWed_0 (by decide) ?_
  refine aw_istore_n (L' := [some (.inr 61), some (.inl (0 : Int32)), none]) iX7_isAnyWed_1 rfl (Nat.le_of_ble_eq_true rfl) rfl ?_
  refine aw_iconst (v := 0) iX7_isAnyWed_2 (by decide) ?_
  refine aw_istore_n (L' := [some (.inr 61), some (.inl (0 : Int32)), some (.inl (0 : Int32))]) iX7_isAnyWed_3 rfl (Nat.le_of_ble_eq_true rfl) rfl ?_
  refine wX7_isAnyWed_L4 _ (fun l3 l4 g5 => ?_) FU (0 : Int32) (0 : Int32) g
  refine aw_iload_n iX7_isAnyWed_43 rfl rfl ?_
  exact aw_zret iX7_isAnyWed_44 rfl
set_option maxRecDepth 20000 in
set_option maxHeartbeats 4000000 in
theorem kX7_isAnyWed (g : Mem) : CT mX7_isAnyWed [.inr 61] g (fX7_isAnyWed g) := CT.of (nr := 2) (by decide +kernel) (Nat.le_of_ble_eq_true rfl) (Or.inr (Or.inr rfl)) (wX7_isAnyWed g)
set_option maxRecDepth 20000 in
set_option maxHeartbeats 4000000 in
theorem wX7_act_L11 (K : Int32 → Mem → Option (Int32 × Mem)) (hK : ∀ (l1 : Int32) (g : Mem), aw mX7_act none 39 [some (.inr 61), some (.inl l1)] [] g (K l1 g)) : ∀ (n : Nat) (l1 : Int32) (g : Mem), aw mX7_act none 11 [some (.inr 61), some (.inl l1)] [] g (fX7_act_L11 K n l1 g) := by
  intro n
  induction n with
  | zero => intro l1 g; exact aw_none
  | succ n ih =>
    intro l1 g
    rw [fX7_act_L11]
    refine aw_iload_n iX7_act_11 rfl rfl ?_
    refine aw_sipush (v := 1150) iX7_act_12 (by decide) ?_
    refine aw_icmp_ge iX7_act_15 ?_ ?_
    · exact hK l1 g
    · refine aw_aload_n iX7_act_18 rfl rfl ?_
      refine aw_getR (own := "") iX7_act_19 flX7_35 zlt61 zsh61 rfl ?_
      refine aw_iload_n iX7_act_22 rfl rfl ?_
      refine aw_aload_n iX7_act_23 rfl rfl ?_
      refine aw_getR (own := "") iX7_act_24 flX7_35 zlt61 zsh61 rfl ?_
      refine aw_iload_n iX7_act_27 rfl rfl ?_
      refine aw_bipush (v := 50) iX7_act_28 (by decide) ?_
      refine aw_iadd iX7_act_30 ?_
      refine aw_iald iX7_act_31 zlt70 zsh70 (fun v1 _ => ?_)
      refine aw_iast iX7_act_32 zlt70 zsh70 (fun g2 _ => ?_)
      refine aw_iinc (L' := [some (.inr 61), some (.inl (l1 + (1 : Int32)))]) (v := l1 + (1 : Int32)) iX7_act_33 rfl rfl (Nat.le_of_ble_eq_true rfl) rfl ?_
      refine aw_goto iX7_act_36 ?_
      exact ih (l1 + (1 : Int32)) g2
set_option maxRecDepth 20000 in
set_option maxHeartbeats 4000000 in
theorem wX7_act (g : Mem) : aw mX7_act none 0 [some (.inr 61), none] [] g (fX7_act g) := by
  unfold fX7_act
  refine aw_aload_n iX7_act_0 rfl rfl ?_
  refine aw_getI (own := "") iX7_act_1 flX7_130 zlt61 zsh61 rfl ?_
  refine aw_bipush (v := 24) iX7_act_4 (by decide) ?_
  refine aw_icmp_ne iX7_act_6 ?_ ?_
  · refine aw_iconst (v := 0) iX7_act_9 (by decide) ?_
    refine aw_istore_n (L' := [some (.inr 61), some (.inl (0 : Int32))]) iX7_act_10 rfl (Nat.le_of_ble_eq_true rfl) rfl ?_
    refine wX7_act_L11 _ (fun l3 g4 => ?_) FU (0 : Int32) g
    refine aw_aload_n iX7_act_39 rfl rfl ?_
    refine aw_dup iX7_act_40 ?_
    refine aw_getI (own := "") iX7_act_41 flX7_130 zlt61 zsh61 rfl ?_
    refine aw_iconst (v := 1) iX7_act_44 (by decide) ?_
    refine aw_isub iX7_act_45 ?_
    refine aw_putI iX7_act_46 fpX7_130 zlt61 zsh61 rfl (fun g5 _ => ?_)
    refine aw_aload_n iX7_act_49 rfl rfl ?_
    refine aw_getR (own := "") iX7_act_50 flX7_22 zlt61 zsh61 rfl ?_
    refine aw_iconst (v := 0) iX7_act_53 (by decide) ?_
    refine aw_aload_n iX7_act_54 rfl rfl ?_
    refine aw_getR (own := "") iX7_act_55 flX7_35 zlt61 zsh61 rfl ?_
    refine aw_bipush (v := 50) iX7_act_58 (by decide) ?_
    refine aw_aload_n iX7_act_60 rfl rfl ?_
    refine aw_getI (own := "") iX7_act_61 flX7_130 zlt61 zsh61 rfl ?_
    refine aw_imul iX7_act_64 ?_
    refine aw_callSv (M' := mX7_lay) (As := [.inr 66, .inl (0 : Int32), .inr 70, .inl ((50 : Int32) * (g5 61 17))]) iX7_act_65 lkX7_122 mcX7_lay msX7_lay rfl (kX7_lay 66 50 zlt66 zsh66 (0 : Int32) 70 1200 zlt70 zsh70 ((50 : Int32) * (g5 61 17)) g5) rfl (Nat.le_of_ble_eq_true rfl) ⟨Nat.le_of_ble_eq_true rfl, Nat.le_of_ble_eq_true rfl⟩ (fun r6 g7 => ?_)
    refine aw_aload_n iX7_act_68 rfl rfl ?_
    refine aw_dup iX7_act_69 ?_
    refine aw_getI (own := "") iX7_act_70 flX7_130 zlt61 zsh61 rfl ?_
    refine aw_iconst (v := 1) iX7_act_73 (by decide) ?_
    refine aw_iadd iX7_act_74 ?_
    refine aw_putI iX7_act_75 fpX7_130 zlt61 zsh61 rfl (fun g8 _ => ?_)
    exact aw_vret iX7_act_78 rfl
  · refine aw_aload_n iX7_act_49 rfl rfl ?_
    refine aw_getR (own := "") iX7_act_50 flX7_22 zlt61 zsh61 rfl ?_
    refine aw_iconst (v := 0) iX7_act_53 (by decide) ?_
    refine aw_aload_n iX7_act_54 rfl rfl ?_
    refine aw_getR (own := "") iX7_act_55 flX7_35 zlt61 zsh61 rfl ?_
    refine aw_bipush (v := 50) iX7_act_58 (by decide) ?_
    refine aw_aload_n iX7_act_60 rfl rfl ?_
    refine aw_getI (own := "") iX7_act_61 flX7_130 zlt61 zsh61 rfl ?_
    refine aw_imul iX7_act_64 ?_
    refine aw_callSv (M' := mX7_lay) (As := [.inr 66, .inl (0 : Int32), .inr 70, .inl ((50 : Int32) * (g 61 17))]) iX7_act_65 lkX7_122 mcX7_lay msX7_lay rfl (kX7_lay 66 50 zlt66 zsh66 (0 : Int32) 70 1200 zlt70 zsh70 ((50 : Int32) * (g 61 17)) g) rfl (Nat.le_of_ble_eq_true rfl) ⟨Nat.le_of_ble_eq_true rfl, Nat.le_of_ble_eq_true rfl⟩ (fun r9 g10 => ?_)
    refine aw_aload_n iX7_act_68 rfl rfl ?_
    refine aw_dup iX7_act_69 ?_
    refine aw_getI (own := "") iX7_act_70 flX7_130 zlt61 zsh61 rfl ?_
    refine aw_iconst (v := 1) iX7_act_73 (by decide) ?_
    refine aw_iadd iX7_act_74 ?_
    refine aw_putI iX7_act_75 fpX7_130 zlt61 zsh61 rfl (fun g11 _ => ?_)
    exact aw_vret iX7_act_78 rfl
set_option maxRecDepth 20000 in
set_option maxHeartbeats 4000000 in
theorem kX7_act (g : Mem) : CT mX7_act [.inr 61] g (fX7_act g) := CT.of (nr := 1) (by decide +kernel) (Nat.le_of_ble_eq_true rfl) (Or.inl rfl) (wX7_act g)
set_option maxRecDepth 20000 in
set_option maxHeartbeats 4000000 in
theorem wX7_asked (a0 : Int32) (a1 : Int32) (g : Mem) : aw mX7_asked none 0 [some (.inr 61), some (.inl a0), some (.inl a1), none] [] g (fX7_asked a0 a1 g) := by
  unfold fX7_asked
  refine aw_aload_n iX7_asked_0 rfl rfl ?_
  refine aw_iload_n iX7_asked_1 rfl rfl ?_
  refine aw_callV (M' := mX7_isSuitorAt) (As := [.inl a0]) iX7_asked_2 lkX7_155 mcX7_isSuitorAt mvX7_isSuitorAt rfl zrc61 (kX7_isSuitorAt a0 g) rfl (Nat.le_of_ble_eq_true rfl) ⟨Nat.le_of_ble_eq_true rfl, Nat.le_of_ble_eq_true rfl⟩ (fun r1 g2 => ?_)
  refine aw_if_eq iX7_asked_5 ?_ ?_
  · refine aw_ldc (v := (-1000001)) iX7_asked_16 kcX7_57 ?_
    exact aw_iret iX7_asked_18 rfl
  · refine aw_aload_n iX7_asked_8 rfl rfl ?_
    refine aw_iload_n iX7_asked_9 rfl rfl ?_
    refine aw_callV (M' := mX7_isRiddleAt) (As := [.inl a1]) iX7_asked_10 lkX7_158 mcX7_isRiddleAt mvX7_isRiddleAt rfl zrc61 (kX7_isRiddleAt a1 g2) rfl (Nat.le_of_ble_eq_true rfl) ⟨Nat.le_of_ble_eq_true rfl, Nat.le_of_ble_eq_true rfl⟩ (fun r3 g4 => ?_)
    refine aw_if_ne iX7_asked_13 ?_ ?_
    · refine aw_ldc (v := (-1000001)) iX7_asked_16 kcX7_57 ?_
      exact aw_iret iX7_asked_18 rfl
    · refine aw_aload_n iX7_asked_19 rfl rfl ?_
      refine aw_getR (own := "") iX7_asked_20 flX7_22 zlt61 zsh61 rfl ?_
      refine aw_bipush (v := 38) iX7_asked_23 (by decide) ?_
      refine aw_iload_n iX7_asked_25 rfl rfl ?_
      refine aw_iadd iX7_asked_26 ?_
      refine aw_iald iX7_asked_27 zlt66 zsh66 (fun v5 _ => ?_)
      refine aw_if_ne iX7_asked_28 ?_ ?_
      · refine aw_aload_n iX7_asked_31 rfl rfl ?_
        refine aw_iload_n iX7_asked_32 rfl rfl ?_
        refine aw_callV (M' := mX7_isOpen) (As := [.inl a1]) iX7_asked_33 lkX7_161 mcX7_isOpen mvX7_isOpen rfl zrc61 (kX7_isOpen a1 g4) rfl (Nat.le_of_ble_eq_true rfl) ⟨Nat.le_of_ble_eq_true rfl, Nat.le_of_ble_eq_true rfl⟩ (fun r6 g7 => ?_)
        refine aw_if_eq iX7_asked_36 ?_ ?_
        · refine aw_ldc (v := (-1000002)) iX7_asked_46 kcX7_167 ?_
          exact aw_iret iX7_asked_48 rfl
        · refine aw_aload_n iX7_asked_39 rfl rfl ?_
          refine aw_callV (M' := mX7_isAnyWed) (As := []) iX7_asked_40 lkX7_164 mcX7_isAnyWed mvX7_isAnyWed rfl zrc61 (kX7_isAnyWed g7) rfl (Nat.le_of_ble_eq_true rfl) ⟨Nat.le_of_ble_eq_true rfl, Nat.le_of_ble_eq_true rfl⟩ (fun r8 g9 => ?_)
          refine aw_if_eq iX7_asked_43 ?_ ?_
          · refine aw_aload_n iX7_asked_49 rfl rfl ?_
            refine aw_callVv (M' := mX7_act) (As := []) iX7_asked_50 lkX7_168 mcX7_act mvX7_act rfl zrc61 (kX7_act g9) rfl (Nat.le_of_ble_eq_true rfl) ⟨Nat.le_of_ble_eq_true rfl, Nat.le_of_ble_eq_true rfl⟩ (fun r10 g11 => ?_)
            refine aw_aload_n iX7_asked_53 rfl rfl ?_
            refine aw_getR (own := "") iX7_asked_54 flX7_22 zlt61 zsh61 rfl ?_
            refine aw_bipush (v := 6) iX7_asked_57 (by decide) ?_
            refine aw_aload_n iX7_asked_59 rfl rfl ?_
            refine aw_getR (own := "") iX7_asked_60 flX7_22 zlt61 zsh61 rfl ?_
            refine aw_bipush (v := 6) iX7_asked_63 (by decide) ?_
            refine aw_iald iX7_asked_65 zlt66 zsh66 (fun v12 _ => ?_)
            refine aw_iconst (v := 1) iX7_asked_66 (by decide) ?_
            refine aw_iload_n iX7_asked_67 rfl rfl ?_
            refine aw_ishl iX7_asked_68 ?_
            refine aw_ior iX7_asked_69 ?_
            refine aw_iast iX7_asked_70 zlt66 zsh66 (fun g13 _ => ?_)
            refine aw_aload_n iX7_asked_71 rfl rfl ?_
            refine aw_iload_n iX7_asked_72 rfl rfl ?_
            refine aw_iload_n iX7_asked_73 rfl rfl ?_
            refine aw_callV (M' := mX7_saysAt) (As := [.inl a0, .inl a1]) iX7_asked_74 lkX7_171 mcX7_saysAt mvX7_saysAt rfl zrc61 (kX7_saysAt a0 a1 g13) rfl (Nat.le_of_ble_eq_true rfl) ⟨Nat.le_of_ble_eq_true rfl, Nat.le_of_ble_eq_true rfl⟩ (fun r14 g15 => ?_)
            refine aw_istore_n (L' := [some (.inr 61), some (.inl a0), some (.inl a1), some (.inl r14)]) iX7_asked_77 rfl (Nat.le_of_ble_eq_true rfl) rfl ?_
            refine aw_iload_n iX7_asked_78 rfl rfl ?_
            refine aw_aload_n iX7_asked_79 rfl rfl ?_
            refine aw_iload_n iX7_asked_80 rfl rfl ?_
            refine aw_callV (M' := mX7_answerAt) (As := [.inl a1]) iX7_asked_81 lkX7_175 mcX7_answerAt mvX7_answerAt rfl zrc61 (kX7_answerAt a1 g15) rfl (Nat.le_of_ble_eq_true rfl) ⟨Nat.le_of_ble_eq_true rfl, Nat.le_of_ble_eq_true rfl⟩ (fun r16 g17 => ?_)
            refine aw_icmp_ne iX7_asked_84 ?_ ?_
            · refine aw_aload_n iX7_asked_87 rfl rfl ?_
              refine aw_getR (own := "") iX7_asked_88 flX7_22 zlt61 zsh61 rfl ?_
              refine aw_bipush (v := 42) iX7_asked_91 (by decide) ?_
              refine aw_iload_n iX7_asked_93 rfl rfl ?_
              refine aw_iadd iX7_asked_94 ?_
              refine aw_dup2 iX7_asked_95 ?_
              refine aw_iald iX7_asked_96 zlt66 zsh66 (fun v18 _ => ?_)
              refine aw_iconst (v := 1) iX7_asked_97 (by decide) ?_
              refine aw_iadd iX7_asked_98 ?_
              refine aw_iast iX7_asked_99 zlt66 zsh66 (fun g19 _ => ?_)
              refine aw_aload_n iX7_asked_100 rfl rfl ?_
              refine aw_getR (own := "") iX7_asked_101 flX7_22 zlt61 zsh61 rfl ?_
              refine aw_bipush (v := 38) iX7_asked_104 (by decide) ?_
              refine aw_iload_n iX7_asked_106 rfl rfl ?_
              refine aw_iadd iX7_asked_107 ?_
              refine aw_aload_n iX7_asked_108 rfl rfl ?_
              refine aw_getR (own := "") iX7_asked_109 flX7_22 zlt61 zsh61 rfl ?_
              refine aw_bipush (v := 42) iX7_asked_112 (by decide) ?_
              refine aw_iload_n iX7_asked_114 rfl rfl ?_
              refine aw_iadd iX7_asked_115 ?_
              refine aw_iald iX7_asked_116 zlt66 zsh66 (fun v20 _ => ?_)
              refine aw_iconst (v := 3) iX7_asked_117 (by decide) ?_
              refine aw_icmp_ne iX7_asked_118 ?_ ?_
              · refine aw_iconst (v := 2) iX7_asked_121 (by decide) ?_
                refine aw_goto iX7_asked_122 ?_
                refine aw_iast iX7_asked_126 zlt66 zsh66 (fun g21 _ => ?_)
                refine aw_goto iX7_asked_127 ?_
                refine aw_iload_n iX7_asked_140 rfl rfl ?_
                exact aw_iret iX7_asked_141 rfl
              · refine aw_iconst (v := 0) iX7_asked_125 (by decide) ?_
                refine aw_iast iX7_asked_126 zlt66 zsh66 (fun g22 _ => ?_)
                refine aw_goto iX7_asked_127 ?_
                refine aw_iload_n iX7_asked_140 rfl rfl ?_
                exact aw_iret iX7_asked_141 rfl
            · refine aw_aload_n iX7_asked_130 rfl rfl ?_
              refine aw_getR (own := "") iX7_asked_131 flX7_22 zlt61 zsh61 rfl ?_
              refine aw_bipush (v := 38) iX7_asked_134 (by decide) ?_
              refine aw_iload_n iX7_asked_136 rfl rfl ?_
              refine aw_iadd iX7_asked_137 ?_
              refine aw_iconst (v := 1) iX7_asked_138 (by decide) ?_
              refine aw_iast iX7_asked_139 zlt66 zsh66 (fun g23 _ => ?_)
              refine aw_iload_n iX7_asked_140 rfl rfl ?_
              exact aw_iret iX7_asked_141 rfl
          · refine aw_ldc (v := (-1000002)) iX7_asked_46 kcX7_167 ?_
            exact aw_iret iX7_asked_48 rfl
      · refine aw_ldc (v := (-1000002)) iX7_asked_46 kcX7_167 ?_
        exact aw_iret iX7_asked_48 rfl
set_option maxRecDepth 20000 in
set_option maxHeartbeats 4000000 in
theorem kX7_asked (a0 : Int32) (a1 : Int32) (g : Mem) : CT mX7_asked [.inr 61, .inl a0, .inl a1] g (fX7_asked a0 a1 g) := CT.of (nr := 1) (by decide +kernel) (Nat.le_of_ble_eq_true rfl) (Or.inr (Or.inl rfl)) (wX7_asked a0 a1 g)
set_option maxRecDepth 20000 in
set_option maxHeartbeats 4000000 in
theorem wX7_inTurn (a0 : Int32) (a1 : Int32) (g : Mem) : aw mX7_inTurn none 0 [some (.inr 61), some (.inl a0), some (.inl a1), none] [] g (fX7_inTurn a0 a1 g) := by
  unfold fX7_inTurn
  refine aw_aload_n iX7_inTurn_0 rfl rfl ?_
  refine aw_iload_n iX7_inTurn_1 rfl rfl ?_
  refine aw_callV (M' := mX7_isSuitorAt) (As := [.inl a0]) iX7_inTurn_2 lkX7_155 mcX7_isSuitorAt mvX7_isSuitorAt rfl zrc61 (kX7_isSuitorAt a0 g) rfl (Nat.le_of_ble_eq_true rfl) ⟨Nat.le_of_ble_eq_true rfl, Nat.le_of_ble_eq_true rfl⟩ (fun r1 g2 => ?_)
  refine aw_if_eq iX7_inTurn_5 ?_ ?_
  · refine aw_ldc (v := (-1000001)) iX7_inTurn_16 kcX7_57 ?_
    exact aw_iret iX7_inTurn_18 rfl
  · refine aw_aload_n iX7_inTurn_8 rfl rfl ?_
    refine aw_iload_n iX7_inTurn_9 rfl rfl ?_
    refine aw_callV (M' := mX7_isRiddleAt) (As := [.inl a1]) iX7_inTurn_10 lkX7_158 mcX7_isRiddleAt mvX7_isRiddleAt rfl zrc61 (kX7_isRiddleAt a1 g2) rfl (Nat.le_of_ble_eq_true rfl) ⟨Nat.le_of_ble_eq_true rfl, Nat.le_of_ble_eq_true rfl⟩ (fun r3 g4 => ?_)
    refine aw_if_ne iX7_inTurn_13 ?_ ?_
    · refine aw_ldc (v := (-1000001)) iX7_inTurn_16 kcX7_57 ?_
      exact aw_iret iX7_inTurn_18 rfl
    · refine aw_aload_n iX7_inTurn_19 rfl rfl ?_
      refine aw_getR (own := "") iX7_inTurn_20 flX7_22 zlt61 zsh61 rfl ?_
      refine aw_bipush (v := 38) iX7_inTurn_23 (by decide) ?_
      refine aw_iload_n iX7_inTurn_25 rfl rfl ?_
      refine aw_iadd iX7_inTurn_26 ?_
      refine aw_iald iX7_inTurn_27 zlt66 zsh66 (fun v5 _ => ?_)
      refine aw_if_ne iX7_inTurn_28 ?_ ?_
      · refine aw_aload_n iX7_inTurn_31 rfl rfl ?_
        refine aw_iload_n iX7_inTurn_32 rfl rfl ?_
        refine aw_callV (M' := mX7_isOpen) (As := [.inl a1]) iX7_inTurn_33 lkX7_161 mcX7_isOpen mvX7_isOpen rfl zrc61 (kX7_isOpen a1 g4) rfl (Nat.le_of_ble_eq_true rfl) ⟨Nat.le_of_ble_eq_true rfl, Nat.le_of_ble_eq_true rfl⟩ (fun r6 g7 => ?_)
        refine aw_if_eq iX7_inTurn_36 ?_ ?_
        · refine aw_ldc (v := (-1000002)) iX7_inTurn_59 kcX7_167 ?_
          exact aw_iret iX7_inTurn_61 rfl
        · refine aw_aload_n iX7_inTurn_39 rfl rfl ?_
          refine aw_getR (own := "") iX7_inTurn_40 flX7_22 zlt61 zsh61 rfl ?_
          refine aw_bipush (v := 46) iX7_inTurn_43 (by decide) ?_
          refine aw_iload_n iX7_inTurn_45 rfl rfl ?_
          refine aw_iadd iX7_inTurn_46 ?_
          refine aw_iald iX7_inTurn_47 zlt66 zsh66 (fun v8 _ => ?_)
          refine aw_iconst (v := 1) iX7_inTurn_48 (by decide) ?_
          refine aw_icmp_eq iX7_inTurn_49 ?_ ?_
          · refine aw_ldc (v := (-1000002)) iX7_inTurn_59 kcX7_167 ?_
            exact aw_iret iX7_inTurn_61 rfl
          · refine aw_aload_n iX7_inTurn_52 rfl rfl ?_
            refine aw_callV (M' := mX7_isAnyWed) (As := []) iX7_inTurn_53 lkX7_164 mcX7_isAnyWed mvX7_isAnyWed rfl zrc61 (kX7_isAnyWed g7) rfl (Nat.le_of_ble_eq_true rfl) ⟨Nat.le_of_ble_eq_true rfl, Nat.le_of_ble_eq_true rfl⟩ (fun r9 g10 => ?_)
            refine aw_if_eq iX7_inTurn_56 ?_ ?_
            · refine aw_aload_n iX7_inTurn_62 rfl rfl ?_
              refine aw_callVv (M' := mX7_act) (As := []) iX7_inTurn_63 lkX7_168 mcX7_act mvX7_act rfl zrc61 (kX7_act g10) rfl (Nat.le_of_ble_eq_true rfl) ⟨Nat.le_of_ble_eq_true rfl, Nat.le_of_ble_eq_true rfl⟩ (fun r11 g12 => ?_)
              refine aw_aload_n iX7_inTurn_66 rfl rfl ?_
              refine aw_getR (own := "") iX7_inTurn_67 flX7_22 zlt61 zsh61 rfl ?_
              refine aw_bipush (v := 6) iX7_inTurn_70 (by decide) ?_
              refine aw_aload_n iX7_inTurn_72 rfl rfl ?_
              refine aw_getR (own := "") iX7_inTurn_73 flX7_22 zlt61 zsh61 rfl ?_
              refine aw_bipush (v := 6) iX7_inTurn_76 (by decide) ?_
              refine aw_iald iX7_inTurn_78 zlt66 zsh66 (fun v13 _ => ?_)
              refine aw_iconst (v := 1) iX7_inTurn_79 (by decide) ?_
              refine aw_iload_n iX7_inTurn_80 rfl rfl ?_
              refine aw_ishl iX7_inTurn_81 ?_
              refine aw_ior iX7_inTurn_82 ?_
              refine aw_iast iX7_inTurn_83 zlt66 zsh66 (fun g14 _ => ?_)
              refine aw_aload_n iX7_inTurn_84 rfl rfl ?_
              refine aw_getR (own := "") iX7_inTurn_85 flX7_22 zlt61 zsh61 rfl ?_
              refine aw_bipush (v := 46) iX7_inTurn_88 (by decide) ?_
              refine aw_iload_n iX7_inTurn_90 rfl rfl ?_
              refine aw_iadd iX7_inTurn_91 ?_
              refine aw_iconst (v := 1) iX7_inTurn_92 (by decide) ?_
              refine aw_iast iX7_inTurn_93 zlt66 zsh66 (fun g15 _ => ?_)
              refine aw_aload_n iX7_inTurn_94 rfl rfl ?_
              refine aw_iload_n iX7_inTurn_95 rfl rfl ?_
              refine aw_callV (M' := mX7_sheSaysAt) (As := [.inl a1]) iX7_inTurn_96 lkX7_178 mcX7_sheSaysAt mvX7_sheSaysAt rfl zrc61 (kX7_sheSaysAt a1 g15) rfl (Nat.le_of_ble_eq_true rfl) ⟨Nat.le_of_ble_eq_true rfl, Nat.le_of_ble_eq_true rfl⟩ (fun r16 g17 => ?_)
              refine aw_istore_n (L' := [some (.inr 61), some (.inl a0), some (.inl a1), some (.inl r16)]) iX7_inTurn_99 rfl (Nat.le_of_ble_eq_true rfl) rfl ?_
              refine aw_aload_n iX7_inTurn_100 rfl rfl ?_
              refine aw_getR (own := "") iX7_inTurn_101 flX7_22 zlt61 zsh61 rfl ?_
              refine aw_bipush (v := 38) iX7_inTurn_104 (by decide) ?_
              refine aw_iload_n iX7_inTurn_106 rfl rfl ?_
              refine aw_iadd iX7_inTurn_107 ?_
              refine aw_iload_n iX7_inTurn_108 rfl rfl ?_
              refine aw_aload_n iX7_inTurn_109 rfl rfl ?_
              refine aw_iload_n iX7_inTurn_110 rfl rfl ?_
              refine aw_callV (M' := mX7_answerAt) (As := [.inl a1]) iX7_inTurn_111 lkX7_175 mcX7_answerAt mvX7_answerAt rfl zrc61 (kX7_answerAt a1 g17) rfl (Nat.le_of_ble_eq_true rfl) ⟨Nat.le_of_ble_eq_true rfl, Nat.le_of_ble_eq_true rfl⟩ (fun r18 g19 => ?_)
              refine aw_icmp_ne iX7_inTurn_114 ?_ ?_
              · refine aw_iconst (v := 0) iX7_inTurn_117 (by decide) ?_
                refine aw_goto iX7_inTurn_118 ?_
                refine aw_iast iX7_inTurn_122 zlt66 zsh66 (fun g20 _ => ?_)
                refine aw_iload_n iX7_inTurn_123 rfl rfl ?_
                exact aw_iret iX7_inTurn_124 rfl
              · refine aw_iconst (v := 3) iX7_inTurn_121 (by decide) ?_
                refine aw_iast iX7_inTurn_122 zlt66 zsh66 (fun g21 _ => ?_)
                refine aw_iload_n iX7_inTurn_123 rfl rfl ?_
                exact aw_iret iX7_inTurn_124 rfl
            · refine aw_ldc (v := (-1000002)) iX7_inTurn_59 kcX7_167 ?_
              exact aw_iret iX7_inTurn_61 rfl
      · refine aw_ldc (v := (-1000002)) iX7_inTurn_59 kcX7_167 ?_
        exact aw_iret iX7_inTurn_61 rfl
set_option maxRecDepth 20000 in
set_option maxHeartbeats 4000000 in
theorem kX7_inTurn (a0 : Int32) (a1 : Int32) (g : Mem) : CT mX7_inTurn [.inr 61, .inl a0, .inl a1] g (fX7_inTurn a0 a1 g) := CT.of (nr := 1) (by decide +kernel) (Nat.le_of_ble_eq_true rfl) (Or.inr (Or.inl rfl)) (wX7_inTurn a0 a1 g)
set_option maxRecDepth 20000 in
set_option maxHeartbeats 4000000 in
theorem wX7_costOf_L4 (l1 : Int32) (K : Int32 → Int32 → Mem → Option (Int32 × Mem)) (hK : ∀ (l2 l3 : Int32) (g : Mem), aw mX7_costOf none 50 [some (.inr 61), some (.inl l1), some (.inl l2), some (.inl l3)] [] g (K l2 l3 g)) : ∀ (n : Nat) (l2 l3 : Int32) (g : Mem), aw mX7_costOf none 4 [some (.inr 61), some (.inl l1), some (.inl l2), some (.inl l3)] [] g (fX7_costOf_L4 l1 K n l2 l3 g) := by
  intro n
  induction n with
  | zero => intro l2 l3 g; exact aw_none
  | succ n ih =>
    intro l2 l3 g
    rw [fX7_costOf_L4]
    refine aw_iload_n iX7_costOf_4 rfl rfl ?_
    refine aw_aload_n iX7_costOf_5 rfl rfl ?_
    refine aw_getR (own := "") iX7_costOf_6 flX7_22 zlt61 zsh61 rfl ?_
    refine aw_iconst (v := 4) iX7_costOf_9 (by decide) ?_
    refine aw_iald iX7_costOf_10 zlt66 zsh66 (fun v1 _ => ?_)
    refine aw_icmp_ge iX7_costOf_11 ?_ ?_
    · exact hK l2 l3 g
    · refine aw_iload_n iX7_costOf_14 rfl rfl ?_
      refine aw_aload_n iX7_costOf_15 rfl rfl ?_
      refine aw_iload_n iX7_costOf_16 rfl rfl ?_
      refine aw_callV (M' := mX7_isOpen) (As := [.inl l3]) iX7_costOf_17 lkX7_161 mcX7_isOpen mvX7_isOpen rfl zrc61 (kX7_isOpen l3 g) rfl (Nat.le_of_ble_eq_true rfl) ⟨Nat.le_of_ble_eq_true rfl, Nat.le_of_ble_eq_true rfl⟩ (fun r2 g3 => ?_)
      refine aw_if_eq iX7_costOf_20 ?_ ?_
      · refine aw_iconst (v := 0) iX7_costOf_41 (by decide) ?_
        refine aw_iadd iX7_costOf_42 ?_
        refine aw_lt (fun x4 => ?_)
        refine aw_istore_n (L' := [some (.inr 61), some (.inl l1), some (.inl x4), some (.inl l3)]) iX7_costOf_43 rfl (Nat.le_of_ble_eq_true rfl) rfl ?_
        refine aw_iinc (L' := [some (.inr 61), some (.inl l1), some (.inl x4), some (.inl (l3 + (1 : Int32)))]) (v := l3 + (1 : Int32)) iX7_costOf_44 rfl rfl (Nat.le_of_ble_eq_true rfl) rfl ?_
        refine aw_goto iX7_costOf_47 ?_
        exact ih x4 (l3 + (1 : Int32)) g3
      · refine aw_aload_n iX7_costOf_23 rfl rfl ?_
        refine aw_iload_n iX7_costOf_24 rfl rfl ?_
        refine aw_callV (M' := mX7_answerAt) (As := [.inl l3]) iX7_costOf_25 lkX7_175 mcX7_answerAt mvX7_answerAt rfl zrc61 (kX7_answerAt l3 g3) rfl (Nat.le_of_ble_eq_true rfl) ⟨Nat.le_of_ble_eq_true rfl, Nat.le_of_ble_eq_true rfl⟩ (fun r5 g6 => ?_)
        refine aw_iload_n iX7_costOf_28 rfl rfl ?_
        refine aw_icmp_ne iX7_costOf_29 ?_ ?_
        · refine aw_aload_n iX7_costOf_32 rfl rfl ?_
          refine aw_getR (own := "") iX7_costOf_33 flX7_22 zlt61 zsh61 rfl ?_
          refine aw_iconst (v := 2) iX7_costOf_36 (by decide) ?_
          refine aw_iald iX7_costOf_37 zlt66 zsh66 (fun v7 _ => ?_)
          refine aw_goto iX7_costOf_38 ?_
          refine aw_iadd iX7_costOf_42 ?_
          refine aw_lt (fun x8 => ?_)
          refine aw_istore_n (L' := [some (.inr 61), some (.inl l1), some (.inl x8), some (.inl l3)]) iX7_costOf_43 rfl (Nat.le_of_ble_eq_true rfl) rfl ?_
          refine aw_iinc (L' := [some (.inr 61), some (.inl l1), some (.inl x8), some (.inl (l3 + (1 : Int32)))]) (v := l3 + (1 : Int32)) iX7_costOf_44 rfl rfl (Nat.le_of_ble_eq_true rfl) rfl ?_
          refine aw_goto iX7_costOf_47 ?_
          exact ih x8 (l3 + (1 : Int32)) g6
        · refine aw_iconst (v := 0) iX7_costOf_41 (by decide) ?_
          refine aw_iadd iX7_costOf_42 ?_
          refine aw_lt (fun x9 => ?_)
          refine aw_istore_n (L' := [some (.inr 61), some (.inl l1), some (.inl x9), some (.inl l3)]) iX7_costOf_43 rfl (Nat.le_of_ble_eq_true rfl) rfl ?_
          refine aw_iinc (L' := [some (.inr 61), some (.inl l1), some (.inl x9), some (.inl (l3 + (1 : Int32)))]) (v := l3 + (1 : Int32)) iX7_costOf_44 rfl rfl (Nat.le_of_ble_eq_true rfl) rfl ?_
          refine aw_goto iX7_costOf_47 ?_
          exact ih x9 (l3 + (1 : Int32)) g6
set_option maxRecDepth 20000 in
set_option maxHeartbeats 4000000 in
theorem wX7_costOf (a0 : Int32) (g : Mem) : aw mX7_costOf none 0 [some (.inr 61), some (.inl a0), none, none] [] g (fX7_costOf a0 g) := by
  unfold fX7_costOf
  refine aw_iconst (v := 0) iX7_costOf_0 (by decide) ?_
  refine aw_istore_n (L' := [some (.inr 61), some (.inl a0), some (.inl (0 : Int32)), none]) iX7_costOf_1 rfl (Nat.le_of_ble_eq_true rfl) rfl ?_
  refine aw_iconst (v := 0) iX7_costOf_2 (by decide) ?_
  refine aw_istore_n (L' := [some (.inr 61), some (.inl a0), some (.inl (0 : Int32)), some (.inl (0 : Int32))]) iX7_costOf_3 rfl (Nat.le_of_ble_eq_true rfl) rfl ?_
  refine wX7_costOf_L4 a0 _ (fun l10 l11 g12 => ?_) FU (0 : Int32) (0 : Int32) g
  refine aw_iload_n iX7_costOf_50 rfl rfl ?_
  exact aw_iret iX7_costOf_51 rfl
set_option maxRecDepth 20000 in
set_option maxHeartbeats 4000000 in
theorem kX7_costOf (a0 : Int32) (g : Mem) : CT mX7_costOf [.inr 61, .inl a0] g (fX7_costOf a0 g) := CT.of (nr := 2) (by decide +kernel) (Nat.le_of_ble_eq_true rfl) (Or.inr (Or.inl rfl)) (wX7_costOf a0 g)
set_option maxRecDepth 20000 in
set_option maxHeartbeats 4000000 in
theorem wX7_buy (a0 : Int32) (a1 : Int32) (g : Mem) : aw mX7_buy none 0 [some (.inr 61), some (.inl a0), some (.inl a1), none] [] g (fX7_buy a0 a1 g) := by
  unfold fX7_buy
  refine aw_aload_n iX7_buy_0 rfl rfl ?_
  refine aw_iload_n iX7_buy_1 rfl rfl ?_
  refine aw_callV (M' := mX7_isSuitorAt) (As := [.inl a0]) iX7_buy_2 lkX7_155 mcX7_isSuitorAt mvX7_isSuitorAt rfl zrc61 (kX7_isSuitorAt a0 g) rfl (Nat.le_of_ble_eq_true rfl) ⟨Nat.le_of_ble_eq_true rfl, Nat.le_of_ble_eq_true rfl⟩ (fun r1 g2 => ?_)
  refine aw_if_eq iX7_buy_5 ?_ ?_
  · refine aw_ldc (v := (-1000001)) iX7_buy_16 kcX7_57 ?_
    exact aw_iret iX7_buy_18 rfl
  · refine aw_aload_n iX7_buy_8 rfl rfl ?_
    refine aw_iload_n iX7_buy_9 rfl rfl ?_
    refine aw_callV (M' := mX7_isThingAt) (As := [.inl a1]) iX7_buy_10 lkX7_181 mcX7_isThingAt mvX7_isThingAt rfl zrc61 (kX7_isThingAt a1 g2) rfl (Nat.le_of_ble_eq_true rfl) ⟨Nat.le_of_ble_eq_true rfl, Nat.le_of_ble_eq_true rfl⟩ (fun r3 g4 => ?_)
    refine aw_if_ne iX7_buy_13 ?_ ?_
    · refine aw_ldc (v := (-1000001)) iX7_buy_16 kcX7_57 ?_
      exact aw_iret iX7_buy_18 rfl
    · refine aw_aload_n iX7_buy_19 rfl rfl ?_
      refine aw_getR (own := "") iX7_buy_20 flX7_22 zlt61 zsh61 rfl ?_
      refine aw_bipush (v := 38) iX7_buy_23 (by decide) ?_
      refine aw_iload_n iX7_buy_25 rfl rfl ?_
      refine aw_iadd iX7_buy_26 ?_
      refine aw_iald iX7_buy_27 zlt66 zsh66 (fun v5 _ => ?_)
      refine aw_if_ne iX7_buy_28 ?_ ?_
      · refine aw_aload_n iX7_buy_31 rfl rfl ?_
        refine aw_getR (own := "") iX7_buy_32 flX7_22 zlt61 zsh61 rfl ?_
        refine aw_bipush (v := 34) iX7_buy_35 (by decide) ?_
        refine aw_iload_n iX7_buy_37 rfl rfl ?_
        refine aw_iadd iX7_buy_38 ?_
        refine aw_iald iX7_buy_39 zlt66 zsh66 (fun v6 _ => ?_)
        refine aw_iload_n iX7_buy_40 rfl rfl ?_
        refine aw_callS (M' := mX7_has) (As := [.inl v6, .inl a1]) iX7_buy_41 lkX7_145 mcX7_has msX7_has rfl (kX7_has v6 a1 g4) rfl (Nat.le_of_ble_eq_true rfl) ⟨Nat.le_of_ble_eq_true rfl, Nat.le_of_ble_eq_true rfl⟩ (fun r7 g8 => ?_)
        refine aw_if_eq iX7_buy_44 ?_ ?_
        · refine aw_aload_n iX7_buy_50 rfl rfl ?_
          refine aw_callVv (M' := mX7_act) (As := []) iX7_buy_51 lkX7_168 mcX7_act mvX7_act rfl zrc61 (kX7_act g8) rfl (Nat.le_of_ble_eq_true rfl) ⟨Nat.le_of_ble_eq_true rfl, Nat.le_of_ble_eq_true rfl⟩ (fun r9 g10 => ?_)
          refine aw_aload_n iX7_buy_54 rfl rfl ?_
          refine aw_iload_n iX7_buy_55 rfl rfl ?_
          refine aw_callV (M' := mX7_costOf) (As := [.inl a1]) iX7_buy_56 lkX7_184 mcX7_costOf mvX7_costOf rfl zrc61 (kX7_costOf a1 g10) rfl (Nat.le_of_ble_eq_true rfl) ⟨Nat.le_of_ble_eq_true rfl, Nat.le_of_ble_eq_true rfl⟩ (fun r11 g12 => ?_)
          refine aw_istore_n (L' := [some (.inr 61), some (.inl a0), some (.inl a1), some (.inl r11)]) iX7_buy_59 rfl (Nat.le_of_ble_eq_true rfl) rfl ?_
          refine aw_aload_n iX7_buy_60 rfl rfl ?_
          refine aw_getR (own := "") iX7_buy_61 flX7_22 zlt61 zsh61 rfl ?_
          refine aw_bipush (v := 34) iX7_buy_64 (by decide) ?_
          refine aw_iload_n iX7_buy_66 rfl rfl ?_
          refine aw_iadd iX7_buy_67 ?_
          refine aw_aload_n iX7_buy_68 rfl rfl ?_
          refine aw_getR (own := "") iX7_buy_69 flX7_22 zlt61 zsh61 rfl ?_
          refine aw_bipush (v := 34) iX7_buy_72 (by decide) ?_
          refine aw_iload_n iX7_buy_74 rfl rfl ?_
          refine aw_iadd iX7_buy_75 ?_
          refine aw_iald iX7_buy_76 zlt66 zsh66 (fun v13 _ => ?_)
          refine aw_iconst (v := 1) iX7_buy_77 (by decide) ?_
          refine aw_iload_n iX7_buy_78 rfl rfl ?_
          refine aw_ishl iX7_buy_79 ?_
          refine aw_ior iX7_buy_80 ?_
          refine aw_iast iX7_buy_81 zlt66 zsh66 (fun g14 _ => ?_)
          refine aw_aload_n iX7_buy_82 rfl rfl ?_
          refine aw_getR (own := "") iX7_buy_83 flX7_22 zlt61 zsh61 rfl ?_
          refine aw_bipush (v := 7) iX7_buy_86 (by decide) ?_
          refine aw_dup2 iX7_buy_88 ?_
          refine aw_iald iX7_buy_89 zlt66 zsh66 (fun v15 _ => ?_)
          refine aw_iload_n iX7_buy_90 rfl rfl ?_
          refine aw_iadd iX7_buy_91 ?_
          refine aw_iast iX7_buy_92 zlt66 zsh66 (fun g16 _ => ?_)
          refine aw_iload_n iX7_buy_93 rfl rfl ?_
          exact aw_iret iX7_buy_94 rfl
        · refine aw_ldc (v := (-1000002)) iX7_buy_47 kcX7_167 ?_
          exact aw_iret iX7_buy_49 rfl
      · refine aw_ldc (v := (-1000002)) iX7_buy_47 kcX7_167 ?_
        exact aw_iret iX7_buy_49 rfl
set_option maxRecDepth 20000 in
set_option maxHeartbeats 4000000 in
theorem kX7_buy (a0 : Int32) (a1 : Int32) (g : Mem) : CT mX7_buy [.inr 61, .inl a0, .inl a1] g (fX7_buy a0 a1 g) := CT.of (nr := 1) (by decide +kernel) (Nat.le_of_ble_eq_true rfl) (Or.inr (Or.inl rfl)) (wX7_buy a0 a1 g)
set_option maxRecDepth 20000 in
set_option maxHeartbeats 4000000 in
theorem wX7_undo (g : Mem) : aw mX7_undo none 0 [some (.inr 61)] [] g (fX7_undo g) := by
  unfold fX7_undo
  refine aw_aload_n iX7_undo_0 rfl rfl ?_
  refine aw_getI (own := "") iX7_undo_1 flX7_130 zlt61 zsh61 rfl ?_
  refine aw_if_ne iX7_undo_4 ?_ ?_
  · refine aw_ldc (v := (-1000002)) iX7_undo_7 kcX7_167 ?_
    exact aw_iret iX7_undo_9 rfl
  · refine aw_aload_n iX7_undo_10 rfl rfl ?_
    refine aw_dup iX7_undo_11 ?_
    refine aw_getI (own := "") iX7_undo_12 flX7_130 zlt61 zsh61 rfl ?_
    refine aw_iconst (v := 1) iX7_undo_15 (by decide) ?_
    refine aw_isub iX7_undo_16 ?_
    refine aw_putI iX7_undo_17 fpX7_130 zlt61 zsh61 rfl (fun g1 _ => ?_)
    refine aw_aload_n iX7_undo_20 rfl rfl ?_
    refine aw_getR (own := "") iX7_undo_21 flX7_35 zlt61 zsh61 rfl ?_
    refine aw_bipush (v := 50) iX7_undo_24 (by decide) ?_
    refine aw_aload_n iX7_undo_26 rfl rfl ?_
    refine aw_getI (own := "") iX7_undo_27 flX7_130 zlt61 zsh61 rfl ?_
    refine aw_imul iX7_undo_30 ?_
    refine aw_aload_n iX7_undo_31 rfl rfl ?_
    refine aw_getR (own := "") iX7_undo_32 flX7_22 zlt61 zsh61 rfl ?_
    refine aw_iconst (v := 0) iX7_undo_35 (by decide) ?_
    refine aw_callSv (M' := mX7_lay) (As := [.inr 70, .inl ((50 : Int32) * (g1 61 17)), .inr 66, .inl (0 : Int32)]) iX7_undo_36 lkX7_122 mcX7_lay msX7_lay rfl (kX7_lay 70 1200 zlt70 zsh70 ((50 : Int32) * (g1 61 17)) 66 50 zlt66 zsh66 (0 : Int32) g1) rfl (Nat.le_of_ble_eq_true rfl) ⟨Nat.le_of_ble_eq_true rfl, Nat.le_of_ble_eq_true rfl⟩ (fun r2 g3 => ?_)
    refine aw_aload_n iX7_undo_39 rfl rfl ?_
    refine aw_getI (own := "") iX7_undo_40 flX7_130 zlt61 zsh61 rfl ?_
    exact aw_iret iX7_undo_43 rfl
set_option maxRecDepth 20000 in
set_option maxHeartbeats 4000000 in
theorem kX7_undo (g : Mem) : CT mX7_undo [.inr 61] g (fX7_undo g) := CT.of (nr := 0) (by decide +kernel) (Nat.le_of_ble_eq_true rfl) (Or.inr (Or.inl rfl)) (wX7_undo g)
set_option maxRecDepth 20000 in
set_option maxHeartbeats 4000000 in
theorem wX7_thing (a0 : Int32) (g : Mem) : aw mX7_thing none 0 [some (.inr 61), some (.inl a0)] [] g (fX7_thing a0 g) := by
  unfold fX7_thing
  refine aw_aload_n iX7_thing_0 rfl rfl ?_
  refine aw_iload_n iX7_thing_1 rfl rfl ?_
  refine aw_callV (M' := mX7_isThingAt) (As := [.inl a0]) iX7_thing_2 lkX7_181 mcX7_isThingAt mvX7_isThingAt rfl zrc61 (kX7_isThingAt a0 g) rfl (Nat.le_of_ble_eq_true rfl) ⟨Nat.le_of_ble_eq_true rfl, Nat.le_of_ble_eq_true rfl⟩ (fun r1 g2 => ?_)
  refine aw_if_eq iX7_thing_5 ?_ ?_
  · refine aw_ldc (v := (-1000001)) iX7_thing_20 kcX7_57 ?_
    exact aw_iret iX7_thing_22 rfl
  · refine aw_aload_n iX7_thing_8 rfl rfl ?_
    refine aw_getR (own := "") iX7_thing_9 flX7_22 zlt61 zsh61 rfl ?_
    refine aw_bipush (v := 8) iX7_thing_12 (by decide) ?_
    refine aw_iload_n iX7_thing_14 rfl rfl ?_
    refine aw_iadd iX7_thing_15 ?_
    refine aw_iald iX7_thing_16 zlt66 zsh66 (fun v3 _ => ?_)
    refine aw_goto iX7_thing_17 ?_
    exact aw_iret iX7_thing_22 rfl
set_option maxRecDepth 20000 in
set_option maxHeartbeats 4000000 in
theorem kX7_thing (a0 : Int32) (g : Mem) : CT mX7_thing [.inr 61, .inl a0] g (fX7_thing a0 g) := CT.of (nr := 0) (by decide +kernel) (Nat.le_of_ble_eq_true rfl) (Or.inr (Or.inl rfl)) (wX7_thing a0 g)
set_option maxRecDepth 20000 in
set_option maxHeartbeats 4000000 in
theorem wX7_riddle (a0 : Int32) (a1 : Int32) (g : Mem) : aw mX7_riddle none 0 [some (.inr 61), some (.inl a0), some (.inl a1)] [] g (fX7_riddle a0 a1 g) := by
  unfold fX7_riddle
  refine aw_aload_n iX7_riddle_0 rfl rfl ?_
  refine aw_iload_n iX7_riddle_1 rfl rfl ?_
  refine aw_callV (M' := mX7_isRiddleAt) (As := [.inl a0]) iX7_riddle_2 lkX7_158 mcX7_isRiddleAt mvX7_isRiddleAt rfl zrc61 (kX7_isRiddleAt a0 g) rfl (Nat.le_of_ble_eq_true rfl) ⟨Nat.le_of_ble_eq_true rfl, Nat.le_of_ble_eq_true rfl⟩ (fun r1 g2 => ?_)
  refine aw_if_ne iX7_riddle_5 ?_ ?_
  · refine aw_ldc (v := (-1000001)) iX7_riddle_8 kcX7_57 ?_
    exact aw_iret iX7_riddle_10 rfl
  · refine aw_iload_n iX7_riddle_11 rfl rfl ?_
    refine aw_if (fun c3 => ?_) (fun c3 => ?_)
    · refine aw_tsw tX7_riddle_12_0 c3 ?_
      refine aw_aload_n iX7_riddle_56 rfl rfl ?_
      refine aw_getR (own := "") iX7_riddle_57 flX7_22 zlt61 zsh61 rfl ?_
      refine aw_bipush (v := 22) iX7_riddle_60 (by decide) ?_
      refine aw_iload_n iX7_riddle_62 rfl rfl ?_
      refine aw_iadd iX7_riddle_63 ?_
      refine aw_iald iX7_riddle_64 zlt66 zsh66 (fun v4 _ => ?_)
      exact aw_iret iX7_riddle_65 rfl
    refine aw_if (fun c5 => ?_) (fun c5 => ?_)
    · refine aw_tsw tX7_riddle_12_1 c5 ?_
      refine aw_aload_n iX7_riddle_66 rfl rfl ?_
      refine aw_getR (own := "") iX7_riddle_67 flX7_22 zlt61 zsh61 rfl ?_
      refine aw_bipush (v := 28) iX7_riddle_70 (by decide) ?_
      refine aw_iload_n iX7_riddle_72 rfl rfl ?_
      refine aw_iadd iX7_riddle_73 ?_
      refine aw_iald iX7_riddle_74 zlt66 zsh66 (fun v6 _ => ?_)
      exact aw_iret iX7_riddle_75 rfl
    refine aw_if (fun c7 => ?_) (fun c7 => ?_)
    · refine aw_tsw tX7_riddle_12_2 c7 ?_
      refine aw_aload_n iX7_riddle_76 rfl rfl ?_
      refine aw_iload_n iX7_riddle_77 rfl rfl ?_
      refine aw_callV (M' := mX7_fittersAt) (As := [.inl a0]) iX7_riddle_78 lkX7_149 mcX7_fittersAt mvX7_fittersAt rfl zrc61 (kX7_fittersAt a0 g2) rfl (Nat.le_of_ble_eq_true rfl) ⟨Nat.le_of_ble_eq_true rfl, Nat.le_of_ble_eq_true rfl⟩ (fun r8 g9 => ?_)
      exact aw_iret iX7_riddle_81 rfl
    refine aw_if (fun c10 => ?_) (fun c10 => ?_)
    · refine aw_tsw tX7_riddle_12_3 c10 ?_
      refine aw_aload_n iX7_riddle_82 rfl rfl ?_
      refine aw_iload_n iX7_riddle_83 rfl rfl ?_
      refine aw_callV (M' := mX7_answerAt) (As := [.inl a0]) iX7_riddle_84 lkX7_175 mcX7_answerAt mvX7_answerAt rfl zrc61 (kX7_answerAt a0 g2) rfl (Nat.le_of_ble_eq_true rfl) ⟨Nat.le_of_ble_eq_true rfl, Nat.le_of_ble_eq_true rfl⟩ (fun r11 g12 => ?_)
      exact aw_iret iX7_riddle_87 rfl
    refine aw_if (fun c13 => ?_) (fun c13 => ?_)
    · refine aw_tsw tX7_riddle_12_4 c13 ?_
      refine aw_aload_n iX7_riddle_88 rfl rfl ?_
      refine aw_iload_n iX7_riddle_89 rfl rfl ?_
      refine aw_callV (M' := mX7_isOpen) (As := [.inl a0]) iX7_riddle_90 lkX7_161 mcX7_isOpen mvX7_isOpen rfl zrc61 (kX7_isOpen a0 g2) rfl (Nat.le_of_ble_eq_true rfl) ⟨Nat.le_of_ble_eq_true rfl, Nat.le_of_ble_eq_true rfl⟩ (fun r14 g15 => ?_)
      refine aw_if_eq iX7_riddle_93 ?_ ?_
      · refine aw_iconst (v := 1) iX7_riddle_100 (by decide) ?_
        exact aw_iret iX7_riddle_101 rfl
      · refine aw_iconst (v := 0) iX7_riddle_96 (by decide) ?_
        refine aw_goto iX7_riddle_97 ?_
        exact aw_iret iX7_riddle_101 rfl
    refine aw_if (fun c16 => ?_) (fun c16 => ?_)
    · refine aw_tsw tX7_riddle_12_5 c16 ?_
      refine aw_aload_n iX7_riddle_102 rfl rfl ?_
      refine aw_iload_n iX7_riddle_103 rfl rfl ?_
      refine aw_callV (M' := mX7_fittersAt) (As := [.inl a0]) iX7_riddle_104 lkX7_149 mcX7_fittersAt mvX7_fittersAt rfl zrc61 (kX7_fittersAt a0 g2) rfl (Nat.le_of_ble_eq_true rfl) ⟨Nat.le_of_ble_eq_true rfl, Nat.le_of_ble_eq_true rfl⟩ (fun r17 g18 => ?_)
      refine aw_callS (M' := mX7_bits) (As := [.inl r17]) iX7_riddle_107 lkX7_133 mcX7_bits msX7_bits rfl (kX7_bits r17 g18) rfl (Nat.le_of_ble_eq_true rfl) ⟨Nat.le_of_ble_eq_true rfl, Nat.le_of_ble_eq_true rfl⟩ (fun r19 g20 => ?_)
      refine aw_iconst (v := 1) iX7_riddle_110 (by decide) ?_
      refine aw_icmp_ne iX7_riddle_111 ?_ ?_
      · refine aw_iconst (v := 1) iX7_riddle_114 (by decide) ?_
        refine aw_goto iX7_riddle_115 ?_
        exact aw_iret iX7_riddle_119 rfl
      · refine aw_iconst (v := 0) iX7_riddle_118 (by decide) ?_
        exact aw_iret iX7_riddle_119 rfl
    refine aw_if (fun c21 => ?_) (fun c21 => ?_)
    · refine aw_tsw tX7_riddle_12_6 c21 ?_
      refine aw_aload_n iX7_riddle_120 rfl rfl ?_
      refine aw_iload_n iX7_riddle_121 rfl rfl ?_
      refine aw_callV (M' := mX7_sheSaysAt) (As := [.inl a0]) iX7_riddle_122 lkX7_178 mcX7_sheSaysAt mvX7_sheSaysAt rfl zrc61 (kX7_sheSaysAt a0 g2) rfl (Nat.le_of_ble_eq_true rfl) ⟨Nat.le_of_ble_eq_true rfl, Nat.le_of_ble_eq_true rfl⟩ (fun r22 g23 => ?_)
      exact aw_iret iX7_riddle_125 rfl
    refine aw_tsd tX7_riddle_12_d (by have ec3 := ne_toInt c3 (a := 0) (by decide); have ec5 := ne_toInt c5 (a := 1) (by decide); have ec7 := ne_toInt c7 (a := 2) (by decide); have ec10 := ne_toInt c10 (a := 3) (by decide); have ec13 := ne_toInt c13 (a := 4) (by decide); have ec16 := ne_toInt c16 (a := 5) (by decide); have ec21 := ne_toInt c21 (a := 6) (by decide); omega) ?_
    refine aw_ldc (v := (-1000001)) iX7_riddle_126 kcX7_57 ?_
    exact aw_iret iX7_riddle_128 rfl
set_option maxRecDepth 20000 in
set_option maxHeartbeats 4000000 in
theorem kX7_riddle (a0 : Int32) (a1 : Int32) (g : Mem) : CT mX7_riddle [.inr 61, .inl a0, .inl a1] g (fX7_riddle a0 a1 g) := CT.of (nr := 0) (by decide +kernel) (Nat.le_of_ble_eq_true rfl) (Or.inr (Or.inl rfl)) (wX7_riddle a0 a1 g)
set_option maxRecDepth 20000 in
set_option maxHeartbeats 4000000 in
theorem wX7_suitor (a0 : Int32) (a1 : Int32) (g : Mem) : aw mX7_suitor none 0 [some (.inr 61), some (.inl a0), some (.inl a1)] [] g (fX7_suitor a0 a1 g) := by
  unfold fX7_suitor
  refine aw_aload_n iX7_suitor_0 rfl rfl ?_
  refine aw_iload_n iX7_suitor_1 rfl rfl ?_
  refine aw_callV (M' := mX7_isSuitorAt) (As := [.inl a0]) iX7_suitor_2 lkX7_155 mcX7_isSuitorAt mvX7_isSuitorAt rfl zrc61 (kX7_isSuitorAt a0 g) rfl (Nat.le_of_ble_eq_true rfl) ⟨Nat.le_of_ble_eq_true rfl, Nat.le_of_ble_eq_true rfl⟩ (fun r1 g2 => ?_)
  refine aw_if_ne iX7_suitor_5 ?_ ?_
  · refine aw_ldc (v := (-1000001)) iX7_suitor_8 kcX7_57 ?_
    exact aw_iret iX7_suitor_10 rfl
  · refine aw_iload_n iX7_suitor_11 rfl rfl ?_
    refine aw_iconst (v := 0) iX7_suitor_12 (by decide) ?_
    refine aw_iconst (v := 3) iX7_suitor_13 (by decide) ?_
    refine aw_callS (M' := mX7_in) (As := [.inl a1, .inl (0 : Int32), .inl (3 : Int32)]) iX7_suitor_14 lkX7_49 mcX7_in msX7_in rfl (kX7_in a1 (0 : Int32) (3 : Int32) g2) rfl (Nat.le_of_ble_eq_true rfl) ⟨Nat.le_of_ble_eq_true rfl, Nat.le_of_ble_eq_true rfl⟩ (fun r3 g4 => ?_)
    refine aw_if_eq iX7_suitor_17 ?_ ?_
    · refine aw_ldc (v := (-1000001)) iX7_suitor_36 kcX7_57 ?_
      exact aw_iret iX7_suitor_38 rfl
    · refine aw_aload_n iX7_suitor_20 rfl rfl ?_
      refine aw_getR (own := "") iX7_suitor_21 flX7_22 zlt61 zsh61 rfl ?_
      refine aw_bipush (v := 34) iX7_suitor_24 (by decide) ?_
      refine aw_iconst (v := 4) iX7_suitor_26 (by decide) ?_
      refine aw_iload_n iX7_suitor_27 rfl rfl ?_
      refine aw_imul iX7_suitor_28 ?_
      refine aw_iadd iX7_suitor_29 ?_
      refine aw_iload_n iX7_suitor_30 rfl rfl ?_
      refine aw_iadd iX7_suitor_31 ?_
      refine aw_iald iX7_suitor_32 zlt66 zsh66 (fun v5 _ => ?_)
      refine aw_goto iX7_suitor_33 ?_
      exact aw_iret iX7_suitor_38 rfl
set_option maxRecDepth 20000 in
set_option maxHeartbeats 4000000 in
theorem kX7_suitor (a0 : Int32) (a1 : Int32) (g : Mem) : CT mX7_suitor [.inr 61, .inl a0, .inl a1] g (fX7_suitor a0 a1 g) := CT.of (nr := 0) (by decide +kernel) (Nat.le_of_ble_eq_true rfl) (Or.inr (Or.inl rfl)) (wX7_suitor a0 a1 g)
set_option maxRecDepth 20000 in
set_option maxHeartbeats 4000000 in
theorem wX7_says (a0 : Int32) (a1 : Int32) (g : Mem) : aw mX7_says none 0 [some (.inr 61), some (.inl a0), some (.inl a1)] [] g (fX7_says a0 a1 g) := by
  unfold fX7_says
  refine aw_aload_n iX7_says_0 rfl rfl ?_
  refine aw_iload_n iX7_says_1 rfl rfl ?_
  refine aw_callV (M' := mX7_isSuitorAt) (As := [.inl a0]) iX7_says_2 lkX7_155 mcX7_isSuitorAt mvX7_isSuitorAt rfl zrc61 (kX7_isSuitorAt a0 g) rfl (Nat.le_of_ble_eq_true rfl) ⟨Nat.le_of_ble_eq_true rfl, Nat.le_of_ble_eq_true rfl⟩ (fun r1 g2 => ?_)
  refine aw_if_eq iX7_says_5 ?_ ?_
  · refine aw_ldc (v := (-1000001)) iX7_says_25 kcX7_57 ?_
    exact aw_iret iX7_says_27 rfl
  · refine aw_aload_n iX7_says_8 rfl rfl ?_
    refine aw_iload_n iX7_says_9 rfl rfl ?_
    refine aw_callV (M' := mX7_isRiddleAt) (As := [.inl a1]) iX7_says_10 lkX7_158 mcX7_isRiddleAt mvX7_isRiddleAt rfl zrc61 (kX7_isRiddleAt a1 g2) rfl (Nat.le_of_ble_eq_true rfl) ⟨Nat.le_of_ble_eq_true rfl, Nat.le_of_ble_eq_true rfl⟩ (fun r3 g4 => ?_)
    refine aw_if_eq iX7_says_13 ?_ ?_
    · refine aw_ldc (v := (-1000001)) iX7_says_25 kcX7_57 ?_
      exact aw_iret iX7_says_27 rfl
    · refine aw_aload_n iX7_says_16 rfl rfl ?_
      refine aw_iload_n iX7_says_17 rfl rfl ?_
      refine aw_iload_n iX7_says_18 rfl rfl ?_
      refine aw_callV (M' := mX7_saysAt) (As := [.inl a0, .inl a1]) iX7_says_19 lkX7_171 mcX7_saysAt mvX7_saysAt rfl zrc61 (kX7_saysAt a0 a1 g4) rfl (Nat.le_of_ble_eq_true rfl) ⟨Nat.le_of_ble_eq_true rfl, Nat.le_of_ble_eq_true rfl⟩ (fun r5 g6 => ?_)
      refine aw_goto iX7_says_22 ?_
      exact aw_iret iX7_says_27 rfl
set_option maxRecDepth 20000 in
set_option maxHeartbeats 4000000 in
theorem kX7_says (a0 : Int32) (a1 : Int32) (g : Mem) : CT mX7_says [.inr 61, .inl a0, .inl a1] g (fX7_says a0 a1 g) := CT.of (nr := 0) (by decide +kernel) (Nat.le_of_ble_eq_true rfl) (Or.inr (Or.inl rfl)) (wX7_says a0 a1 g)
set_option maxRecDepth 20000 in
set_option maxHeartbeats 4000000 in
theorem wX7_riddleFor_L41 (l1 : Int32) (l2 : Int32) (l3 : Int32) (K : Int32 → Int32 → Int32 → Mem → Option (Int32 × Mem)) (hK : ∀ (l4 l5 l6 : Int32) (g : Mem), aw mX7_riddleFor none 145 [some (.inr 61), some (.inl l1), some (.inl l2), some (.inl l3), some (.inl l4), some (.inl l5), some (.inl l6), none, none, none, none] [] g (K l4 l5 l6 g)) : ∀ (n : Nat) (l4 l5 l6 : Int32) (g : Mem), aw mX7_riddleFor none 41 [some (.inr 61), some (.inl l1), some (.inl l2), some (.inl l3), some (.inl l4), some (.inl l5), some (.inl l6), none, none, none, none] [] g (fX7_riddleFor_L41 l1 l2 l3 K n l4 l5 l6 g) := by
  intro n
  induction n with
  | zero => intro l4 l5 l6 g; exact aw_none
  | succ n ih =>
    intro l4 l5 l6 g
    rw [fX7_riddleFor_L41]
    refine aw_iload iX7_riddleFor_41 rfl ?_
    refine aw_if_lt iX7_riddleFor_43 ?_ ?_
    · exact hK l4 l5 l6 g
    · refine aw_iload iX7_riddleFor_46 rfl ?_
      refine aw_bipush (v := 32) iX7_riddleFor_48 (by decide) ?_
      refine aw_idiv iX7_riddleFor_50 ?_
      refine aw_lt (fun x7 => ?_)
      refine aw_istore (L' := [some (.inr 61), some (.inl l1), some (.inl l2), some (.inl l3), some (.inl l4), some (.inl l5), some (.inl l6), some (.inl x7), none, none, none]) iX7_riddleFor_51 (Nat.le_of_ble_eq_true rfl) rfl ?_
      refine aw_iload iX7_riddleFor_53 rfl ?_
      refine aw_bipush (v := 32) iX7_riddleFor_55 (by decide) ?_
      refine aw_irem iX7_riddleFor_57 ?_
      refine aw_lt (fun x8 => ?_)
      refine aw_istore (L' := [some (.inr 61), some (.inl l1), some (.inl l2), some (.inl l3), some (.inl l4), some (.inl l5), some (.inl l6), some (.inl x7), some (.inl x8), none, none]) iX7_riddleFor_58 (Nat.le_of_ble_eq_true rfl) rfl ?_
      refine aw_aload_n iX7_riddleFor_60 rfl rfl ?_
      refine aw_iload_n iX7_riddleFor_61 rfl rfl ?_
      refine aw_iload iX7_riddleFor_62 rfl ?_
      refine aw_iload iX7_riddleFor_64 rfl ?_
      refine aw_callV (M' := mX7_fittersOf) (As := [.inl l2, .inl x7, .inl x8]) iX7_riddleFor_66 lkX7_140 mcX7_fittersOf mvX7_fittersOf rfl zrc61 (kX7_fittersOf l2 x7 x8 g) rfl (Nat.le_of_ble_eq_true rfl) ⟨Nat.le_of_ble_eq_true rfl, Nat.le_of_ble_eq_true rfl⟩ (fun r9 g10 => ?_)
      refine aw_istore (L' := [some (.inr 61), some (.inl l1), some (.inl l2), some (.inl l3), some (.inl l4), some (.inl l5), some (.inl l6), some (.inl x7), some (.inl x8), some (.inl r9), none]) iX7_riddleFor_69 (Nat.le_of_ble_eq_true rfl) rfl ?_
      refine aw_iload iX7_riddleFor_71 rfl ?_
      refine aw_iload iX7_riddleFor_73 rfl ?_
      refine aw_iand iX7_riddleFor_75 ?_
      refine aw_if_ne iX7_riddleFor_76 ?_ ?_
      · refine aw_iload iX7_riddleFor_79 rfl ?_
        refine aw_callS (M' := mX7_bits) (As := [.inl r9]) iX7_riddleFor_81 lkX7_133 mcX7_bits msX7_bits rfl (kX7_bits r9 g10) rfl (Nat.le_of_ble_eq_true rfl) ⟨Nat.le_of_ble_eq_true rfl, Nat.le_of_ble_eq_true rfl⟩ (fun r11 g12 => ?_)
        refine aw_iconst (v := 1) iX7_riddleFor_84 (by decide) ?_
        refine aw_icmp_ne iX7_riddleFor_85 ?_ ?_
        · refine aw_iload iX7_riddleFor_88 rfl ?_
          refine aw_aload_n iX7_riddleFor_90 rfl rfl ?_
          refine aw_getR (own := "") iX7_riddleFor_91 flX7_22 zlt61 zsh61 rfl ?_
          refine aw_bipush (v := 34) iX7_riddleFor_94 (by decide) ?_
          refine aw_iload_n iX7_riddleFor_96 rfl rfl ?_
          refine aw_iadd iX7_riddleFor_97 ?_
          refine aw_iald iX7_riddleFor_98 zlt66 zsh66 (fun v13 _ => ?_)
          refine aw_iand iX7_riddleFor_99 ?_
          refine aw_if_ne iX7_riddleFor_100 ?_ ?_
          · refine aw_iconst (v := 1) iX7_riddleFor_103 (by decide) ?_
            refine aw_goto iX7_riddleFor_104 ?_
            refine aw_istore (L' := [some (.inr 61), some (.inl l1), some (.inl l2), some (.inl l3), some (.inl l4), some (.inl l5), some (.inl l6), some (.inl x7), some (.inl x8), some (.inl r9), some (.inl (1 : Int32))]) iX7_riddleFor_108 (Nat.le_of_ble_eq_true rfl) rfl ?_
            refine aw_iload iX7_riddleFor_110 rfl ?_
            refine aw_iload iX7_riddleFor_112 rfl ?_
            refine aw_if_eq_F iX7_riddleFor_114 (by decide) ?_
            refine aw_iconst (v := 1) iX7_riddleFor_117 (by decide) ?_
            refine aw_goto iX7_riddleFor_118 ?_
            refine aw_iadd iX7_riddleFor_122 ?_
            refine aw_lt (fun x14 => ?_)
            refine aw_istore (L' := [some (.inr 61), some (.inl l1), some (.inl l2), some (.inl l3), some (.inl x14), some (.inl l5), some (.inl l6), some (.inl x7), some (.inl x8), some (.inl r9), some (.inl (1 : Int32))]) iX7_riddleFor_123 (Nat.le_of_ble_eq_true rfl) rfl ?_
            refine aw_iload iX7_riddleFor_125 rfl ?_
            refine aw_if_eq_F iX7_riddleFor_127 (by decide) ?_
            refine aw_iload iX7_riddleFor_130 rfl ?_
            refine aw_goto iX7_riddleFor_132 ?_
            refine aw_istore (L' := [some (.inr 61), some (.inl l1), some (.inl l2), some (.inl l3), some (.inl x14), some (.inl l6), some (.inl l6), some (.inl x7), some (.inl x8), some (.inl r9), some (.inl (1 : Int32))]) iX7_riddleFor_137 (Nat.le_of_ble_eq_true rfl) rfl ?_
            refine aw_iinc (L' := [some (.inr 61), some (.inl l1), some (.inl l2), some (.inl l3), some (.inl x14), some (.inl l6), some (.inl (l6 + (-1 : Int32))), some (.inl x7), some (.inl x8), some (.inl r9), some (.inl (1 : Int32))]) (v := l6 + (-1 : Int32)) iX7_riddleFor_139 rfl rfl (Nat.le_of_ble_eq_true rfl) rfl ?_
            refine aw_goto iX7_riddleFor_142 ?_
            refine aw_msk [true, true, true, true, true, true, true, false, false, false, false] rfl ?_
            exact ih x14 l6 (l6 + (-1 : Int32)) g12
          · refine aw_iconst (v := 0) iX7_riddleFor_107 (by decide) ?_
            refine aw_istore (L' := [some (.inr 61), some (.inl l1), some (.inl l2), some (.inl l3), some (.inl l4), some (.inl l5), some (.inl l6), some (.inl x7), some (.inl x8), some (.inl r9), some (.inl (0 : Int32))]) iX7_riddleFor_108 (Nat.le_of_ble_eq_true rfl) rfl ?_
            refine aw_iload iX7_riddleFor_110 rfl ?_
            refine aw_iload iX7_riddleFor_112 rfl ?_
            refine aw_if_eq_T iX7_riddleFor_114 (by decide) ?_
            refine aw_iconst (v := 0) iX7_riddleFor_121 (by decide) ?_
            refine aw_iadd iX7_riddleFor_122 ?_
            refine aw_lt (fun x15 => ?_)
            refine aw_istore (L' := [some (.inr 61), some (.inl l1), some (.inl l2), some (.inl l3), some (.inl x15), some (.inl l5), some (.inl l6), some (.inl x7), some (.inl x8), some (.inl r9), some (.inl (0 : Int32))]) iX7_riddleFor_123 (Nat.le_of_ble_eq_true rfl) rfl ?_
            refine aw_iload iX7_riddleFor_125 rfl ?_
            refine aw_if_eq_T iX7_riddleFor_127 (by decide) ?_
            refine aw_iload iX7_riddleFor_135 rfl ?_
            refine aw_istore (L' := [some (.inr 61), some (.inl l1), some (.inl l2), some (.inl l3), some (.inl x15), some (.inl l5), some (.inl l6), some (.inl x7), some (.inl x8), some (.inl r9), some (.inl (0 : Int32))]) iX7_riddleFor_137 (Nat.le_of_ble_eq_true rfl) rfl ?_
            refine aw_iinc (L' := [some (.inr 61), some (.inl l1), some (.inl l2), some (.inl l3), some (.inl x15), some (.inl l5), some (.inl (l6 + (-1 : Int32))), some (.inl x7), some (.inl x8), some (.inl r9), some (.inl (0 : Int32))]) (v := l6 + (-1 : Int32)) iX7_riddleFor_139 rfl rfl (Nat.le_of_ble_eq_true rfl) rfl ?_
            refine aw_goto iX7_riddleFor_142 ?_
            refine aw_msk [true, true, true, true, true, true, true, false, false, false, false] rfl ?_
            exact ih x15 l5 (l6 + (-1 : Int32)) g12
        · refine aw_iconst (v := 0) iX7_riddleFor_107 (by decide) ?_
          refine aw_istore (L' := [some (.inr 61), some (.inl l1), some (.inl l2), some (.inl l3), some (.inl l4), some (.inl l5), some (.inl l6), some (.inl x7), some (.inl x8), some (.inl r9), some (.inl (0 : Int32))]) iX7_riddleFor_108 (Nat.le_of_ble_eq_true rfl) rfl ?_
          refine aw_iload iX7_riddleFor_110 rfl ?_
          refine aw_iload iX7_riddleFor_112 rfl ?_
          refine aw_if_eq_T iX7_riddleFor_114 (by decide) ?_
          refine aw_iconst (v := 0) iX7_riddleFor_121 (by decide) ?_
          refine aw_iadd iX7_riddleFor_122 ?_
          refine aw_lt (fun x16 => ?_)
          refine aw_istore (L' := [some (.inr 61), some (.inl l1), some (.inl l2), some (.inl l3), some (.inl x16), some (.inl l5), some (.inl l6), some (.inl x7), some (.inl x8), some (.inl r9), some (.inl (0 : Int32))]) iX7_riddleFor_123 (Nat.le_of_ble_eq_true rfl) rfl ?_
          refine aw_iload iX7_riddleFor_125 rfl ?_
          refine aw_if_eq_T iX7_riddleFor_127 (by decide) ?_
          refine aw_iload iX7_riddleFor_135 rfl ?_
          refine aw_istore (L' := [some (.inr 61), some (.inl l1), some (.inl l2), some (.inl l3), some (.inl x16), some (.inl l5), some (.inl l6), some (.inl x7), some (.inl x8), some (.inl r9), some (.inl (0 : Int32))]) iX7_riddleFor_137 (Nat.le_of_ble_eq_true rfl) rfl ?_
          refine aw_iinc (L' := [some (.inr 61), some (.inl l1), some (.inl l2), some (.inl l3), some (.inl x16), some (.inl l5), some (.inl (l6 + (-1 : Int32))), some (.inl x7), some (.inl x8), some (.inl r9), some (.inl (0 : Int32))]) (v := l6 + (-1 : Int32)) iX7_riddleFor_139 rfl rfl (Nat.le_of_ble_eq_true rfl) rfl ?_
          refine aw_goto iX7_riddleFor_142 ?_
          refine aw_msk [true, true, true, true, true, true, true, false, false, false, false] rfl ?_
          exact ih x16 l5 (l6 + (-1 : Int32)) g12
      · refine aw_iconst (v := 0) iX7_riddleFor_107 (by decide) ?_
        refine aw_istore (L' := [some (.inr 61), some (.inl l1), some (.inl l2), some (.inl l3), some (.inl l4), some (.inl l5), some (.inl l6), some (.inl x7), some (.inl x8), some (.inl r9), some (.inl (0 : Int32))]) iX7_riddleFor_108 (Nat.le_of_ble_eq_true rfl) rfl ?_
        refine aw_iload iX7_riddleFor_110 rfl ?_
        refine aw_iload iX7_riddleFor_112 rfl ?_
        refine aw_if_eq_T iX7_riddleFor_114 (by decide) ?_
        refine aw_iconst (v := 0) iX7_riddleFor_121 (by decide) ?_
        refine aw_iadd iX7_riddleFor_122 ?_
        refine aw_lt (fun x17 => ?_)
        refine aw_istore (L' := [some (.inr 61), some (.inl l1), some (.inl l2), some (.inl l3), some (.inl x17), some (.inl l5), some (.inl l6), some (.inl x7), some (.inl x8), some (.inl r9), some (.inl (0 : Int32))]) iX7_riddleFor_123 (Nat.le_of_ble_eq_true rfl) rfl ?_
        refine aw_iload iX7_riddleFor_125 rfl ?_
        refine aw_if_eq_T iX7_riddleFor_127 (by decide) ?_
        refine aw_iload iX7_riddleFor_135 rfl ?_
        refine aw_istore (L' := [some (.inr 61), some (.inl l1), some (.inl l2), some (.inl l3), some (.inl x17), some (.inl l5), some (.inl l6), some (.inl x7), some (.inl x8), some (.inl r9), some (.inl (0 : Int32))]) iX7_riddleFor_137 (Nat.le_of_ble_eq_true rfl) rfl ?_
        refine aw_iinc (L' := [some (.inr 61), some (.inl l1), some (.inl l2), some (.inl l3), some (.inl x17), some (.inl l5), some (.inl (l6 + (-1 : Int32))), some (.inl x7), some (.inl x8), some (.inl r9), some (.inl (0 : Int32))]) (v := l6 + (-1 : Int32)) iX7_riddleFor_139 rfl rfl (Nat.le_of_ble_eq_true rfl) rfl ?_
        refine aw_goto iX7_riddleFor_142 ?_
        refine aw_msk [true, true, true, true, true, true, true, false, false, false, false] rfl ?_
        exact ih x17 l5 (l6 + (-1 : Int32)) g10
set_option maxRecDepth 20000 in
set_option maxHeartbeats 4000000 in
theorem wX7_riddleFor (a0 : Int32) (a1 : Int32) (a2 : Int32) (g : Mem) : aw mX7_riddleFor none 0 [some (.inr 61), some (.inl a0), some (.inl a1), some (.inl a2), none, none, none, none, none, none, none] [] g (fX7_riddleFor a0 a1 a2 g) := by
  unfold fX7_riddleFor
  refine aw_aload_n iX7_riddleFor_0 rfl rfl ?_
  refine aw_iload_n iX7_riddleFor_1 rfl rfl ?_
  refine aw_callV (M' := mX7_isSuitorAt) (As := [.inl a0]) iX7_riddleFor_2 lkX7_155 mcX7_isSuitorAt mvX7_isSuitorAt rfl zrc61 (kX7_isSuitorAt a0 g) rfl (Nat.le_of_ble_eq_true rfl) ⟨Nat.le_of_ble_eq_true rfl, Nat.le_of_ble_eq_true rfl⟩ (fun r1 g2 => ?_)
  refine aw_if_eq iX7_riddleFor_5 ?_ ?_
  · refine aw_ldc (v := (-1000001)) iX7_riddleFor_26 kcX7_57 ?_
    exact aw_iret iX7_riddleFor_28 rfl
  · refine aw_iload_n iX7_riddleFor_8 rfl rfl ?_
    refine aw_iconst (v := 1) iX7_riddleFor_9 (by decide) ?_
    refine aw_iconst (v := 5) iX7_riddleFor_10 (by decide) ?_
    refine aw_callS (M' := mX7_in) (As := [.inl a1, .inl (1 : Int32), .inl (5 : Int32)]) iX7_riddleFor_11 lkX7_49 mcX7_in msX7_in rfl (kX7_in a1 (1 : Int32) (5 : Int32) g2) rfl (Nat.le_of_ble_eq_true rfl) ⟨Nat.le_of_ble_eq_true rfl, Nat.le_of_ble_eq_true rfl⟩ (fun r3 g4 => ?_)
    refine aw_if_eq iX7_riddleFor_14 ?_ ?_
    · refine aw_ldc (v := (-1000001)) iX7_riddleFor_26 kcX7_57 ?_
      exact aw_iret iX7_riddleFor_28 rfl
    · refine aw_iload_n iX7_riddleFor_17 rfl rfl ?_
      refine aw_iconst (v := 0) iX7_riddleFor_18 (by decide) ?_
      refine aw_iconst (v := 1) iX7_riddleFor_19 (by decide) ?_
      refine aw_callS (M' := mX7_in) (As := [.inl a2, .inl (0 : Int32), .inl (1 : Int32)]) iX7_riddleFor_20 lkX7_49 mcX7_in msX7_in rfl (kX7_in a2 (0 : Int32) (1 : Int32) g4) rfl (Nat.le_of_ble_eq_true rfl) ⟨Nat.le_of_ble_eq_true rfl, Nat.le_of_ble_eq_true rfl⟩ (fun r5 g6 => ?_)
      refine aw_if_ne iX7_riddleFor_23 ?_ ?_
      · refine aw_ldc (v := (-1000001)) iX7_riddleFor_26 kcX7_57 ?_
        exact aw_iret iX7_riddleFor_28 rfl
      · refine aw_iconst (v := 0) iX7_riddleFor_29 (by decide) ?_
        refine aw_istore (L' := [some (.inr 61), some (.inl a0), some (.inl a1), some (.inl a2), some (.inl (0 : Int32)), none, none, none, none, none, none]) iX7_riddleFor_30 (Nat.le_of_ble_eq_true rfl) rfl ?_
        refine aw_ldc (v := (-1000000)) iX7_riddleFor_32 kcX7_144 ?_
        refine aw_istore (L' := [some (.inr 61), some (.inl a0), some (.inl a1), some (.inl a2), some (.inl (0 : Int32)), some (.inl (-1000000 : Int32)), none, none, none, none, none]) iX7_riddleFor_34 (Nat.le_of_ble_eq_true rfl) rfl ?_
        refine aw_sipush (v := 1023) iX7_riddleFor_36 (by decide) ?_
        refine aw_istore (L' := [some (.inr 61), some (.inl a0), some (.inl a1), some (.inl a2), some (.inl (0 : Int32)), some (.inl (-1000000 : Int32)), some (.inl (1023 : Int32)), none, none, none, none]) iX7_riddleFor_39 (Nat.le_of_ble_eq_true rfl) rfl ?_
        refine wX7_riddleFor_L41 a0 a1 a2 _ (fun l18 l19 l20 g21 => ?_) FU (0 : Int32) (-1000000 : Int32) (1023 : Int32) g6
        refine aw_iload_n iX7_riddleFor_145 rfl rfl ?_
        refine aw_if_ne iX7_riddleFor_146 ?_ ?_
        · refine aw_iload iX7_riddleFor_149 rfl ?_
          refine aw_goto iX7_riddleFor_151 ?_
          exact aw_iret iX7_riddleFor_156 rfl
        · refine aw_iload iX7_riddleFor_154 rfl ?_
          exact aw_iret iX7_riddleFor_156 rfl
set_option maxRecDepth 20000 in
set_option maxHeartbeats 4000000 in
theorem kX7_riddleFor (a0 : Int32) (a1 : Int32) (a2 : Int32) (g : Mem) : CT mX7_riddleFor [.inr 61, .inl a0, .inl a1, .inl a2] g (fX7_riddleFor a0 a1 a2 g) := CT.of (nr := 7) (by decide +kernel) (Nat.le_of_ble_eq_true rfl) (Or.inr (Or.inl rfl)) (wX7_riddleFor a0 a1 a2 g)
set_option maxRecDepth 20000 in
set_option maxHeartbeats 4000000 in
theorem wX7_hard_L97 (l1 : Int32) (l2 : Int32) (l3 : Int32) (l4 : Int32) (l5 : Int32) (l6 : Int32) (l7 : Int32) (l8 : Int32) (K : Int32 → Int32 → Mem → Option (Int32 × Mem)) (hK : ∀ (l9 l10 : Int32) (g : Mem), aw mX7_hard none 153 [some (.inr 61), some (.inl l1), some (.inl l2), some (.inl l3), some (.inl l4), some (.inl l5), some (.inl l6), some (.inl l7), some (.inl l8), some (.inl l9), some (.inl l10)] [] g (K l9 l10 g)) : ∀ (n : Nat) (l9 l10 : Int32) (g : Mem), aw mX7_hard none 97 [some (.inr 61), some (.inl l1), some (.inl l2), some (.inl l3), some (.inl l4), some (.inl l5), some (.inl l6), some (.inl l7), some (.inl l8), some (.inl l9), some (.inl l10)] [] g (fX7_hard_L97 l1 l2 l3 l4 l5 l6 l7 l8 K n l9 l10 g) := by
  intro n
  induction n with
  | zero => intro l9 l10 g; exact aw_none
  | succ n ih =>
    intro l9 l10 g
    rw [fX7_hard_L97]
    refine aw_iload iX7_hard_97 rfl ?_
    refine aw_aload_n iX7_hard_99 rfl rfl ?_
    refine aw_getR (own := "") iX7_hard_100 flX7_22 zlt61 zsh61 rfl ?_
    refine aw_iconst (v := 5) iX7_hard_103 (by decide) ?_
    refine aw_iald iX7_hard_104 zlt66 zsh66 (fun v13 _ => ?_)
    refine aw_icmp_ge iX7_hard_105 ?_ ?_
    · exact hK l9 l10 g
    · refine aw_iload iX7_hard_108 rfl ?_
      refine aw_aload_n iX7_hard_110 rfl rfl ?_
      refine aw_getR (own := "") iX7_hard_111 flX7_22 zlt61 zsh61 rfl ?_
      refine aw_bipush (v := 38) iX7_hard_114 (by decide) ?_
      refine aw_iload iX7_hard_116 rfl ?_
      refine aw_iadd iX7_hard_118 ?_
      refine aw_iald iX7_hard_119 zlt66 zsh66 (fun v14 _ => ?_)
      refine aw_if_ne iX7_hard_120 ?_ ?_
      · refine aw_iload iX7_hard_123 rfl ?_
        refine aw_aload_n iX7_hard_125 rfl rfl ?_
        refine aw_getR (own := "") iX7_hard_126 flX7_22 zlt61 zsh61 rfl ?_
        refine aw_bipush (v := 34) iX7_hard_129 (by decide) ?_
        refine aw_iload iX7_hard_131 rfl ?_
        refine aw_iadd iX7_hard_133 ?_
        refine aw_iald iX7_hard_134 zlt66 zsh66 (fun v15 _ => ?_)
        refine aw_iand iX7_hard_135 ?_
        refine aw_if_ne iX7_hard_136 ?_ ?_
        · refine aw_iconst (v := 1) iX7_hard_139 (by decide) ?_
          refine aw_goto iX7_hard_140 ?_
          refine aw_iadd iX7_hard_144 ?_
          refine aw_lt (fun x16 => ?_)
          refine aw_istore (L' := [some (.inr 61), some (.inl l1), some (.inl l2), some (.inl l3), some (.inl l4), some (.inl l5), some (.inl l6), some (.inl l7), some (.inl l8), some (.inl x16), some (.inl l10)]) iX7_hard_145 (Nat.le_of_ble_eq_true rfl) rfl ?_
          refine aw_iinc (L' := [some (.inr 61), some (.inl l1), some (.inl l2), some (.inl l3), some (.inl l4), some (.inl l5), some (.inl l6), some (.inl l7), some (.inl l8), some (.inl x16), some (.inl (l10 + (1 : Int32)))]) (v := l10 + (1 : Int32)) iX7_hard_147 rfl rfl (Nat.le_of_ble_eq_true rfl) rfl ?_
          refine aw_goto iX7_hard_150 ?_
          exact ih x16 (l10 + (1 : Int32)) g
        · refine aw_iconst (v := 0) iX7_hard_143 (by decide) ?_
          refine aw_iadd iX7_hard_144 ?_
          refine aw_lt (fun x17 => ?_)
          refine aw_istore (L' := [some (.inr 61), some (.inl l1), some (.inl l2), some (.inl l3), some (.inl l4), some (.inl l5), some (.inl l6), some (.inl l7), some (.inl l8), some (.inl x17), some (.inl l10)]) iX7_hard_145 (Nat.le_of_ble_eq_true rfl) rfl ?_
          refine aw_iinc (L' := [some (.inr 61), some (.inl l1), some (.inl l2), some (.inl l3), some (.inl l4), some (.inl l5), some (.inl l6), some (.inl l7), some (.inl l8), some (.inl x17), some (.inl (l10 + (1 : Int32)))]) (v := l10 + (1 : Int32)) iX7_hard_147 rfl rfl (Nat.le_of_ble_eq_true rfl) rfl ?_
          refine aw_goto iX7_hard_150 ?_
          exact ih x17 (l10 + (1 : Int32)) g
      · refine aw_iconst (v := 0) iX7_hard_143 (by decide) ?_
        refine aw_iadd iX7_hard_144 ?_
        refine aw_lt (fun x18 => ?_)
        refine aw_istore (L' := [some (.inr 61), some (.inl l1), some (.inl l2), some (.inl l3), some (.inl l4), some (.inl l5), some (.inl l6), some (.inl l7), some (.inl l8), some (.inl x18), some (.inl l10)]) iX7_hard_145 (Nat.le_of_ble_eq_true rfl) rfl ?_
        refine aw_iinc (L' := [some (.inr 61), some (.inl l1), some (.inl l2), some (.inl l3), some (.inl l4), some (.inl l5), some (.inl l6), some (.inl l7), some (.inl l8), some (.inl x18), some (.inl (l10 + (1 : Int32)))]) (v := l10 + (1 : Int32)) iX7_hard_147 rfl rfl (Nat.le_of_ble_eq_true rfl) rfl ?_
        refine aw_goto iX7_hard_150 ?_
        exact ih x18 (l10 + (1 : Int32)) g
set_option maxRecDepth 20000 in
set_option maxHeartbeats 4000000 in
theorem wX7_hard_L41 (l1 : Int32) (l2 : Int32) (K : Int32 → Int32 → Int32 → Mem → Option (Int32 × Mem)) (hK : ∀ (l3 l4 l5 : Int32) (g : Mem), aw mX7_hard none 189 [some (.inr 61), some (.inl l1), some (.inl l2), some (.inl l3), some (.inl l4), some (.inl l5), none, none, none, none, none] [] g (K l3 l4 l5 g)) : ∀ (n : Nat) (l3 l4 l5 : Int32) (g : Mem), aw mX7_hard none 41 [some (.inr 61), some (.inl l1), some (.inl l2), some (.inl l3), some (.inl l4), some (.inl l5), none, none, none, none, none] [] g (fX7_hard_L41 l1 l2 K n l3 l4 l5 g) := by
  intro n
  induction n with
  | zero => intro l3 l4 l5 g; exact aw_none
  | succ n ih =>
    intro l3 l4 l5 g
    rw [fX7_hard_L41]
    refine aw_iload iX7_hard_41 rfl ?_
    refine aw_sipush (v := 1024) iX7_hard_43 (by decide) ?_
    refine aw_icmp_ge iX7_hard_46 ?_ ?_
    · exact hK l3 l4 l5 g
    · refine aw_iload iX7_hard_49 rfl ?_
      refine aw_bipush (v := 32) iX7_hard_51 (by decide) ?_
      refine aw_idiv iX7_hard_53 ?_
      refine aw_lt (fun x7 => ?_)
      refine aw_istore (L' := [some (.inr 61), some (.inl l1), some (.inl l2), some (.inl l3), some (.inl l4), some (.inl l5), some (.inl x7), none, none, none, none]) iX7_hard_54 (Nat.le_of_ble_eq_true rfl) rfl ?_
      refine aw_iload iX7_hard_56 rfl ?_
      refine aw_bipush (v := 32) iX7_hard_58 (by decide) ?_
      refine aw_irem iX7_hard_60 ?_
      refine aw_lt (fun x8 => ?_)
      refine aw_istore (L' := [some (.inr 61), some (.inl l1), some (.inl l2), some (.inl l3), some (.inl l4), some (.inl l5), some (.inl x7), some (.inl x8), none, none, none]) iX7_hard_61 (Nat.le_of_ble_eq_true rfl) rfl ?_
      refine aw_aload_n iX7_hard_63 rfl rfl ?_
      refine aw_iload_n iX7_hard_64 rfl rfl ?_
      refine aw_iload iX7_hard_65 rfl ?_
      refine aw_iload iX7_hard_67 rfl ?_
      refine aw_callV (M' := mX7_fittersOf) (As := [.inl l1, .inl x7, .inl x8]) iX7_hard_69 lkX7_140 mcX7_fittersOf mvX7_fittersOf rfl zrc61 (kX7_fittersOf l1 x7 x8 g) rfl (Nat.le_of_ble_eq_true rfl) ⟨Nat.le_of_ble_eq_true rfl, Nat.le_of_ble_eq_true rfl⟩ (fun r9 g10 => ?_)
      refine aw_istore (L' := [some (.inr 61), some (.inl l1), some (.inl l2), some (.inl l3), some (.inl l4), some (.inl l5), some (.inl x7), some (.inl x8), some (.inl r9), none, none]) iX7_hard_72 (Nat.le_of_ble_eq_true rfl) rfl ?_
      refine aw_iload iX7_hard_74 rfl ?_
      refine aw_iload iX7_hard_76 rfl ?_
      refine aw_iand iX7_hard_78 ?_
      refine aw_if_ne iX7_hard_79 ?_ ?_
      · refine aw_iload iX7_hard_82 rfl ?_
        refine aw_callS (M' := mX7_bits) (As := [.inl r9]) iX7_hard_84 lkX7_133 mcX7_bits msX7_bits rfl (kX7_bits r9 g10) rfl (Nat.le_of_ble_eq_true rfl) ⟨Nat.le_of_ble_eq_true rfl, Nat.le_of_ble_eq_true rfl⟩ (fun r11 g12 => ?_)
        refine aw_iconst (v := 1) iX7_hard_87 (by decide) ?_
        refine aw_icmp_ne iX7_hard_88 ?_ ?_
        · refine aw_iconst (v := 0) iX7_hard_91 (by decide) ?_
          refine aw_istore (L' := [some (.inr 61), some (.inl l1), some (.inl l2), some (.inl l3), some (.inl l4), some (.inl l5), some (.inl x7), some (.inl x8), some (.inl r9), some (.inl (0 : Int32)), none]) iX7_hard_92 (Nat.le_of_ble_eq_true rfl) rfl ?_
          refine aw_iconst (v := 0) iX7_hard_94 (by decide) ?_
          refine aw_istore (L' := [some (.inr 61), some (.inl l1), some (.inl l2), some (.inl l3), some (.inl l4), some (.inl l5), some (.inl x7), some (.inl x8), some (.inl r9), some (.inl (0 : Int32)), some (.inl (0 : Int32))]) iX7_hard_95 (Nat.le_of_ble_eq_true rfl) rfl ?_
          refine wX7_hard_L97 l1 l2 l3 l4 l5 x7 x8 r9 _ (fun l19 l20 g21 => ?_) FU (0 : Int32) (0 : Int32) g12
          refine aw_iload iX7_hard_153 rfl ?_
          refine aw_iload iX7_hard_155 rfl ?_
          refine aw_icmp_le iX7_hard_157 ?_ ?_
          · refine aw_iload_n iX7_hard_165 rfl rfl ?_
            refine aw_istore_n (L' := [some (.inr 61), some (.inl l1), some (.inl l2), some (.inl l3), some (.inl l4), some (.inl l5), some (.inl x7), some (.inl x8), some (.inl r9), some (.inl l19), some (.inl l20)]) iX7_hard_166 rfl (Nat.le_of_ble_eq_true rfl) rfl ?_
            refine aw_iload iX7_hard_167 rfl ?_
            refine aw_iload iX7_hard_169 rfl ?_
            refine aw_icmp_le iX7_hard_171 ?_ ?_
            · refine aw_iload iX7_hard_179 rfl ?_
              refine aw_istore (L' := [some (.inr 61), some (.inl l1), some (.inl l2), some (.inl l3), some (.inl l4), some (.inl l5), some (.inl x7), some (.inl x8), some (.inl r9), some (.inl l19), some (.inl l20)]) iX7_hard_181 (Nat.le_of_ble_eq_true rfl) rfl ?_
              refine aw_iinc (L' := [some (.inr 61), some (.inl l1), some (.inl l2), some (.inl l3), some (.inl l4), some (.inl (l5 + (1 : Int32))), some (.inl x7), some (.inl x8), some (.inl r9), some (.inl l19), some (.inl l20)]) (v := l5 + (1 : Int32)) iX7_hard_183 rfl rfl (Nat.le_of_ble_eq_true rfl) rfl ?_
              refine aw_goto iX7_hard_186 ?_
              refine aw_msk [true, true, true, true, true, true, false, false, false, false, false] rfl ?_
              exact ih l3 l4 (l5 + (1 : Int32)) g21
            · refine aw_iload iX7_hard_174 rfl ?_
              refine aw_goto iX7_hard_176 ?_
              refine aw_istore (L' := [some (.inr 61), some (.inl l1), some (.inl l2), some (.inl l3), some (.inl l19), some (.inl l5), some (.inl x7), some (.inl x8), some (.inl r9), some (.inl l19), some (.inl l20)]) iX7_hard_181 (Nat.le_of_ble_eq_true rfl) rfl ?_
              refine aw_iinc (L' := [some (.inr 61), some (.inl l1), some (.inl l2), some (.inl l3), some (.inl l19), some (.inl (l5 + (1 : Int32))), some (.inl x7), some (.inl x8), some (.inl r9), some (.inl l19), some (.inl l20)]) (v := l5 + (1 : Int32)) iX7_hard_183 rfl rfl (Nat.le_of_ble_eq_true rfl) rfl ?_
              refine aw_goto iX7_hard_186 ?_
              refine aw_msk [true, true, true, true, true, true, false, false, false, false, false] rfl ?_
              exact ih l3 l19 (l5 + (1 : Int32)) g21
          · refine aw_iload iX7_hard_160 rfl ?_
            refine aw_goto iX7_hard_162 ?_
            refine aw_istore_n (L' := [some (.inr 61), some (.inl l1), some (.inl l2), some (.inl l5), some (.inl l4), some (.inl l5), some (.inl x7), some (.inl x8), some (.inl r9), some (.inl l19), some (.inl l20)]) iX7_hard_166 rfl (Nat.le_of_ble_eq_true rfl) rfl ?_
            refine aw_iload iX7_hard_167 rfl ?_
            refine aw_iload iX7_hard_169 rfl ?_
            refine aw_icmp_le iX7_hard_171 ?_ ?_
            · refine aw_iload iX7_hard_179 rfl ?_
              refine aw_istore (L' := [some (.inr 61), some (.inl l1), some (.inl l2), some (.inl l5), some (.inl l4), some (.inl l5), some (.inl x7), some (.inl x8), some (.inl r9), some (.inl l19), some (.inl l20)]) iX7_hard_181 (Nat.le_of_ble_eq_true rfl) rfl ?_
              refine aw_iinc (L' := [some (.inr 61), some (.inl l1), some (.inl l2), some (.inl l5), some (.inl l4), some (.inl (l5 + (1 : Int32))), some (.inl x7), some (.inl x8), some (.inl r9), some (.inl l19), some (.inl l20)]) (v := l5 + (1 : Int32)) iX7_hard_183 rfl rfl (Nat.le_of_ble_eq_true rfl) rfl ?_
              refine aw_goto iX7_hard_186 ?_
              refine aw_msk [true, true, true, true, true, true, false, false, false, false, false] rfl ?_
              exact ih l5 l4 (l5 + (1 : Int32)) g21
            · refine aw_iload iX7_hard_174 rfl ?_
              refine aw_goto iX7_hard_176 ?_
              refine aw_istore (L' := [some (.inr 61), some (.inl l1), some (.inl l2), some (.inl l5), some (.inl l19), some (.inl l5), some (.inl x7), some (.inl x8), some (.inl r9), some (.inl l19), some (.inl l20)]) iX7_hard_181 (Nat.le_of_ble_eq_true rfl) rfl ?_
              refine aw_iinc (L' := [some (.inr 61), some (.inl l1), some (.inl l2), some (.inl l5), some (.inl l19), some (.inl (l5 + (1 : Int32))), some (.inl x7), some (.inl x8), some (.inl r9), some (.inl l19), some (.inl l20)]) (v := l5 + (1 : Int32)) iX7_hard_183 rfl rfl (Nat.le_of_ble_eq_true rfl) rfl ?_
              refine aw_goto iX7_hard_186 ?_
              refine aw_msk [true, true, true, true, true, true, false, false, false, false, false] rfl ?_
              exact ih l5 l19 (l5 + (1 : Int32)) g21
        · refine aw_iinc (L' := [some (.inr 61), some (.inl l1), some (.inl l2), some (.inl l3), some (.inl l4), some (.inl (l5 + (1 : Int32))), some (.inl x7), some (.inl x8), some (.inl r9), none, none]) (v := l5 + (1 : Int32)) iX7_hard_183 rfl rfl (Nat.le_of_ble_eq_true rfl) rfl ?_
          refine aw_goto iX7_hard_186 ?_
          refine aw_msk [true, true, true, true, true, true, false, false, false, false, false] rfl ?_
          exact ih l3 l4 (l5 + (1 : Int32)) g12
      · refine aw_iinc (L' := [some (.inr 61), some (.inl l1), some (.inl l2), some (.inl l3), some (.inl l4), some (.inl (l5 + (1 : Int32))), some (.inl x7), some (.inl x8), some (.inl r9), none, none]) (v := l5 + (1 : Int32)) iX7_hard_183 rfl rfl (Nat.le_of_ble_eq_true rfl) rfl ?_
        refine aw_goto iX7_hard_186 ?_
        refine aw_msk [true, true, true, true, true, true, false, false, false, false, false] rfl ?_
        exact ih l3 l4 (l5 + (1 : Int32)) g10
set_option maxRecDepth 20000 in
set_option maxHeartbeats 4000000 in
theorem wX7_hard (a0 : Int32) (a1 : Int32) (g : Mem) : aw mX7_hard none 0 [some (.inr 61), some (.inl a0), some (.inl a1), none, none, none, none, none, none, none, none] [] g (fX7_hard a0 a1 g) := by
  unfold fX7_hard
  refine aw_aload_n iX7_hard_0 rfl rfl ?_
  refine aw_callV (M' := mX7_isCourt) (As := []) iX7_hard_1 lkX7_187 mcX7_isCourt mvX7_isCourt rfl zrc61 (kX7_isCourt g) rfl (Nat.le_of_ble_eq_true rfl) ⟨Nat.le_of_ble_eq_true rfl, Nat.le_of_ble_eq_true rfl⟩ (fun r1 g2 => ?_)
  refine aw_if_ne iX7_hard_4 ?_ ?_
  · refine aw_ldc (v := (-1000002)) iX7_hard_7 kcX7_167 ?_
    exact aw_iret iX7_hard_9 rfl
  · refine aw_iload_n iX7_hard_10 rfl rfl ?_
    refine aw_iconst (v := 1) iX7_hard_11 (by decide) ?_
    refine aw_iconst (v := 5) iX7_hard_12 (by decide) ?_
    refine aw_callS (M' := mX7_in) (As := [.inl a0, .inl (1 : Int32), .inl (5 : Int32)]) iX7_hard_13 lkX7_49 mcX7_in msX7_in rfl (kX7_in a0 (1 : Int32) (5 : Int32) g2) rfl (Nat.le_of_ble_eq_true rfl) ⟨Nat.le_of_ble_eq_true rfl, Nat.le_of_ble_eq_true rfl⟩ (fun r3 g4 => ?_)
    refine aw_if_eq iX7_hard_16 ?_ ?_
    · refine aw_ldc (v := (-1000001)) iX7_hard_28 kcX7_57 ?_
      exact aw_iret iX7_hard_30 rfl
    · refine aw_iload_n iX7_hard_19 rfl rfl ?_
      refine aw_iconst (v := 0) iX7_hard_20 (by decide) ?_
      refine aw_iconst (v := 1) iX7_hard_21 (by decide) ?_
      refine aw_callS (M' := mX7_in) (As := [.inl a1, .inl (0 : Int32), .inl (1 : Int32)]) iX7_hard_22 lkX7_49 mcX7_in msX7_in rfl (kX7_in a1 (0 : Int32) (1 : Int32) g4) rfl (Nat.le_of_ble_eq_true rfl) ⟨Nat.le_of_ble_eq_true rfl, Nat.le_of_ble_eq_true rfl⟩ (fun r5 g6 => ?_)
      refine aw_if_ne iX7_hard_25 ?_ ?_
      · refine aw_ldc (v := (-1000001)) iX7_hard_28 kcX7_57 ?_
        exact aw_iret iX7_hard_30 rfl
      · refine aw_ldc (v := (-1000000)) iX7_hard_31 kcX7_144 ?_
        refine aw_istore_n (L' := [some (.inr 61), some (.inl a0), some (.inl a1), some (.inl (-1000000 : Int32)), none, none, none, none, none, none, none]) iX7_hard_33 rfl (Nat.le_of_ble_eq_true rfl) rfl ?_
        refine aw_ldc (v := (-1000000)) iX7_hard_34 kcX7_144 ?_
        refine aw_istore (L' := [some (.inr 61), some (.inl a0), some (.inl a1), some (.inl (-1000000 : Int32)), some (.inl (-1000000 : Int32)), none, none, none, none, none, none]) iX7_hard_36 (Nat.le_of_ble_eq_true rfl) rfl ?_
        refine aw_iconst (v := 0) iX7_hard_38 (by decide) ?_
        refine aw_istore (L' := [some (.inr 61), some (.inl a0), some (.inl a1), some (.inl (-1000000 : Int32)), some (.inl (-1000000 : Int32)), some (.inl (0 : Int32)), none, none, none, none, none]) iX7_hard_39 (Nat.le_of_ble_eq_true rfl) rfl ?_
        refine wX7_hard_L41 a0 a1 _ (fun l22 l23 l24 g25 => ?_) FU (-1000000 : Int32) (-1000000 : Int32) (0 : Int32) g6
        refine aw_iload_n iX7_hard_189 rfl rfl ?_
        refine aw_if_ne iX7_hard_190 ?_ ?_
        · refine aw_iload_n iX7_hard_193 rfl rfl ?_
          refine aw_goto iX7_hard_194 ?_
          exact aw_iret iX7_hard_199 rfl
        · refine aw_iload iX7_hard_197 rfl ?_
          exact aw_iret iX7_hard_199 rfl
set_option maxRecDepth 20000 in
set_option maxHeartbeats 4000000 in
theorem kX7_hard (a0 : Int32) (a1 : Int32) (g : Mem) : CT mX7_hard [.inr 61, .inl a0, .inl a1] g (fX7_hard a0 a1 g) := CT.of (nr := 8) (by decide +kernel) (Nat.le_of_ble_eq_true rfl) (Or.inr (Or.inl rfl)) (wX7_hard a0 a1 g)
set_option maxRecDepth 20000 in
set_option maxHeartbeats 4000000 in
theorem wX7_over_L4 (l0 : Int32) (l1 : Int32) (K : Int32 → Int32 → Mem → Option (Int32 × Mem)) (hK : ∀ (l2 l3 : Int32) (g : Mem), aw mX7_over none 25 [some (.inl l0), some (.inl l1), some (.inl l2), some (.inl l3)] [] g (K l2 l3 g)) : ∀ (n : Nat) (l2 l3 : Int32) (g : Mem), aw mX7_over none 4 [some (.inl l0), some (.inl l1), some (.inl l2), some (.inl l3)] [] g (fX7_over_L4 l0 l1 K n l2 l3 g) := by
  intro n
  induction n with
  | zero => intro l2 l3 g; exact aw_none
  | succ n ih =>
    intro l2 l3 g
    rw [fX7_over_L4]
    refine aw_iload_n iX7_over_4 rfl rfl ?_
    refine aw_iload_n iX7_over_5 rfl rfl ?_
    refine aw_icmp_ge iX7_over_6 ?_ ?_
    · exact hK l2 l3 g
    · refine aw_iload_n iX7_over_9 rfl rfl ?_
      refine aw_iload_n iX7_over_10 rfl rfl ?_
      refine aw_iload_n iX7_over_11 rfl rfl ?_
      refine aw_isub iX7_over_12 ?_
      refine aw_imul iX7_over_13 ?_
      refine aw_iload_n iX7_over_14 rfl rfl ?_
      refine aw_iconst (v := 1) iX7_over_15 (by decide) ?_
      refine aw_iadd iX7_over_16 ?_
      refine aw_idiv iX7_over_17 ?_
      refine aw_lt (fun x1 => ?_)
      refine aw_istore_n (L' := [some (.inl l0), some (.inl l1), some (.inl x1), some (.inl l3)]) iX7_over_18 rfl (Nat.le_of_ble_eq_true rfl) rfl ?_
      refine aw_iinc (L' := [some (.inl l0), some (.inl l1), some (.inl x1), some (.inl (l3 + (1 : Int32)))]) (v := l3 + (1 : Int32)) iX7_over_19 rfl rfl (Nat.le_of_ble_eq_true rfl) rfl ?_
      refine aw_goto iX7_over_22 ?_
      exact ih x1 (l3 + (1 : Int32)) g
set_option maxRecDepth 20000 in
set_option maxHeartbeats 4000000 in
theorem wX7_over (a0 : Int32) (a1 : Int32) (g : Mem) : aw mX7_over none 0 [some (.inl a0), some (.inl a1), none, none] [] g (fX7_over a0 a1 g) := by
  unfold fX7_over
  refine aw_iconst (v := 1) iX7_over_0 (by decide) ?_
  refine aw_istore_n (L' := [some (.inl a0), some (.inl a1), some (.inl (1 : Int32)), none]) iX7_over_1 rfl (Nat.le_of_ble_eq_true rfl) rfl ?_
  refine aw_iconst (v := 0) iX7_over_2 (by decide) ?_
  refine aw_istore_n (L' := [some (.inl a0), some (.inl a1), some (.inl (1 : Int32)), some (.inl (0 : Int32))]) iX7_over_3 rfl (Nat.le_of_ble_eq_true rfl) rfl ?_
  refine wX7_over_L4 a0 a1 _ (fun l2 l3 g4 => ?_) FU (1 : Int32) (0 : Int32) g
  refine aw_iload_n iX7_over_25 rfl rfl ?_
  refine aw_iload_n iX7_over_26 rfl rfl ?_
  refine aw_icmp_ge iX7_over_27 ?_ ?_
  · refine aw_iload_n iX7_over_34 rfl rfl ?_
    exact aw_iret iX7_over_35 rfl
  · refine aw_iconst (v := 0) iX7_over_30 (by decide) ?_
    refine aw_goto iX7_over_31 ?_
    exact aw_iret iX7_over_35 rfl
set_option maxRecDepth 20000 in
set_option maxHeartbeats 4000000 in
theorem kX7_over (a0 : Int32) (a1 : Int32) (g : Mem) : CT mX7_over [.inl a0, .inl a1] g (fX7_over a0 a1 g) := CT.of (nr := 2) (by decide +kernel) (Nat.le_of_ble_eq_true rfl) (Or.inr (Or.inl rfl)) (wX7_over a0 a1 g)
set_option maxRecDepth 20000 in
set_option maxHeartbeats 4000000 in
theorem wX7_chance_L43 (l1 : Int32) (l2 : Int32) (K : Int32 → Int32 → Int32 → Mem → Option (Int32 × Mem)) (hK : ∀ (l3 l4 l5 : Int32) (g : Mem), aw mX7_chance none 112 [some (.inr 61), some (.inl l1), some (.inl l2), some (.inl l3), some (.inl l4), some (.inl l5), none, none, none, none, none] [] g (K l3 l4 l5 g)) : ∀ (n : Nat) (l3 l4 l5 : Int32) (g : Mem), aw mX7_chance none 43 [some (.inr 61), some (.inl l1), some (.inl l2), some (.inl l3), some (.inl l4), some (.inl l5), none, none, none, none, none] [] g (fX7_chance_L43 l1 l2 K n l3 l4 l5 g) := by
  intro n
  induction n with
  | zero => intro l3 l4 l5 g; exact aw_none
  | succ n ih =>
    intro l3 l4 l5 g
    rw [fX7_chance_L43]
    refine aw_iload iX7_chance_43 rfl ?_
    refine aw_aload_n iX7_chance_45 rfl rfl ?_
    refine aw_getR (own := "") iX7_chance_46 flX7_22 zlt61 zsh61 rfl ?_
    refine aw_iconst (v := 4) iX7_chance_49 (by decide) ?_
    refine aw_iald iX7_chance_50 zlt66 zsh66 (fun v6 _ => ?_)
    refine aw_icmp_ge iX7_chance_51 ?_ ?_
    · exact hK l3 l4 l5 g
    · refine aw_iload_n iX7_chance_54 rfl rfl ?_
      refine aw_aload_n iX7_chance_55 rfl rfl ?_
      refine aw_iload iX7_chance_56 rfl ?_
      refine aw_callV (M' := mX7_isOpen) (As := [.inl l5]) iX7_chance_58 lkX7_161 mcX7_isOpen mvX7_isOpen rfl zrc61 (kX7_isOpen l5 g) rfl (Nat.le_of_ble_eq_true rfl) ⟨Nat.le_of_ble_eq_true rfl, Nat.le_of_ble_eq_true rfl⟩ (fun r7 g8 => ?_)
      refine aw_if_eq iX7_chance_61 ?_ ?_
      · refine aw_iconst (v := 0) iX7_chance_68 (by decide) ?_
        refine aw_iadd iX7_chance_69 ?_
        refine aw_lt (fun x9 => ?_)
        refine aw_istore_n (L' := [some (.inr 61), some (.inl l1), some (.inl l2), some (.inl x9), some (.inl l4), some (.inl l5), none, none, none, none, none]) iX7_chance_70 rfl (Nat.le_of_ble_eq_true rfl) rfl ?_
        refine aw_iload iX7_chance_71 rfl ?_
        refine aw_aload_n iX7_chance_73 rfl rfl ?_
        refine aw_iload iX7_chance_74 rfl ?_
        refine aw_callV (M' := mX7_isOpen) (As := [.inl l5]) iX7_chance_76 lkX7_161 mcX7_isOpen mvX7_isOpen rfl zrc61 (kX7_isOpen l5 g8) rfl (Nat.le_of_ble_eq_true rfl) ⟨Nat.le_of_ble_eq_true rfl, Nat.le_of_ble_eq_true rfl⟩ (fun r10 g11 => ?_)
        refine aw_if_eq iX7_chance_79 ?_ ?_
        · refine aw_iconst (v := 0) iX7_chance_102 (by decide) ?_
          refine aw_iadd iX7_chance_103 ?_
          refine aw_lt (fun x12 => ?_)
          refine aw_istore (L' := [some (.inr 61), some (.inl l1), some (.inl l2), some (.inl x9), some (.inl x12), some (.inl l5), none, none, none, none, none]) iX7_chance_104 (Nat.le_of_ble_eq_true rfl) rfl ?_
          refine aw_iinc (L' := [some (.inr 61), some (.inl l1), some (.inl l2), some (.inl x9), some (.inl x12), some (.inl (l5 + (1 : Int32))), none, none, none, none, none]) (v := l5 + (1 : Int32)) iX7_chance_106 rfl rfl (Nat.le_of_ble_eq_true rfl) rfl ?_
          refine aw_goto iX7_chance_109 ?_
          exact ih x9 x12 (l5 + (1 : Int32)) g11
        · refine aw_aload_n iX7_chance_82 rfl rfl ?_
          refine aw_iload_n iX7_chance_83 rfl rfl ?_
          refine aw_iload iX7_chance_84 rfl ?_
          refine aw_callV (M' := mX7_saysAt) (As := [.inl l1, .inl l5]) iX7_chance_86 lkX7_171 mcX7_saysAt mvX7_saysAt rfl zrc61 (kX7_saysAt l1 l5 g11) rfl (Nat.le_of_ble_eq_true rfl) ⟨Nat.le_of_ble_eq_true rfl, Nat.le_of_ble_eq_true rfl⟩ (fun r13 g14 => ?_)
          refine aw_aload_n iX7_chance_89 rfl rfl ?_
          refine aw_iload iX7_chance_90 rfl ?_
          refine aw_callV (M' := mX7_answerAt) (As := [.inl l5]) iX7_chance_92 lkX7_175 mcX7_answerAt mvX7_answerAt rfl zrc61 (kX7_answerAt l5 g14) rfl (Nat.le_of_ble_eq_true rfl) ⟨Nat.le_of_ble_eq_true rfl, Nat.le_of_ble_eq_true rfl⟩ (fun r15 g16 => ?_)
          refine aw_icmp_ne iX7_chance_95 ?_ ?_
          · refine aw_iconst (v := 1) iX7_chance_98 (by decide) ?_
            refine aw_goto iX7_chance_99 ?_
            refine aw_iadd iX7_chance_103 ?_
            refine aw_lt (fun x17 => ?_)
            refine aw_istore (L' := [some (.inr 61), some (.inl l1), some (.inl l2), some (.inl x9), some (.inl x17), some (.inl l5), none, none, none, none, none]) iX7_chance_104 (Nat.le_of_ble_eq_true rfl) rfl ?_
            refine aw_iinc (L' := [some (.inr 61), some (.inl l1), some (.inl l2), some (.inl x9), some (.inl x17), some (.inl (l5 + (1 : Int32))), none, none, none, none, none]) (v := l5 + (1 : Int32)) iX7_chance_106 rfl rfl (Nat.le_of_ble_eq_true rfl) rfl ?_
            refine aw_goto iX7_chance_109 ?_
            exact ih x9 x17 (l5 + (1 : Int32)) g16
          · refine aw_iconst (v := 0) iX7_chance_102 (by decide) ?_
            refine aw_iadd iX7_chance_103 ?_
            refine aw_lt (fun x18 => ?_)
            refine aw_istore (L' := [some (.inr 61), some (.inl l1), some (.inl l2), some (.inl x9), some (.inl x18), some (.inl l5), none, none, none, none, none]) iX7_chance_104 (Nat.le_of_ble_eq_true rfl) rfl ?_
            refine aw_iinc (L' := [some (.inr 61), some (.inl l1), some (.inl l2), some (.inl x9), some (.inl x18), some (.inl (l5 + (1 : Int32))), none, none, none, none, none]) (v := l5 + (1 : Int32)) iX7_chance_106 rfl rfl (Nat.le_of_ble_eq_true rfl) rfl ?_
            refine aw_goto iX7_chance_109 ?_
            exact ih x9 x18 (l5 + (1 : Int32)) g16
      · refine aw_iconst (v := 1) iX7_chance_64 (by decide) ?_
        refine aw_goto iX7_chance_65 ?_
        refine aw_iadd iX7_chance_69 ?_
        refine aw_lt (fun x19 => ?_)
        refine aw_istore_n (L' := [some (.inr 61), some (.inl l1), some (.inl l2), some (.inl x19), some (.inl l4), some (.inl l5), none, none, none, none, none]) iX7_chance_70 rfl (Nat.le_of_ble_eq_true rfl) rfl ?_
        refine aw_iload iX7_chance_71 rfl ?_
        refine aw_aload_n iX7_chance_73 rfl rfl ?_
        refine aw_iload iX7_chance_74 rfl ?_
        refine aw_callV (M' := mX7_isOpen) (As := [.inl l5]) iX7_chance_76 lkX7_161 mcX7_isOpen mvX7_isOpen rfl zrc61 (kX7_isOpen l5 g8) rfl (Nat.le_of_ble_eq_true rfl) ⟨Nat.le_of_ble_eq_true rfl, Nat.le_of_ble_eq_true rfl⟩ (fun r20 g21 => ?_)
        refine aw_if_eq iX7_chance_79 ?_ ?_
        · refine aw_iconst (v := 0) iX7_chance_102 (by decide) ?_
          refine aw_iadd iX7_chance_103 ?_
          refine aw_lt (fun x22 => ?_)
          refine aw_istore (L' := [some (.inr 61), some (.inl l1), some (.inl l2), some (.inl x19), some (.inl x22), some (.inl l5), none, none, none, none, none]) iX7_chance_104 (Nat.le_of_ble_eq_true rfl) rfl ?_
          refine aw_iinc (L' := [some (.inr 61), some (.inl l1), some (.inl l2), some (.inl x19), some (.inl x22), some (.inl (l5 + (1 : Int32))), none, none, none, none, none]) (v := l5 + (1 : Int32)) iX7_chance_106 rfl rfl (Nat.le_of_ble_eq_true rfl) rfl ?_
          refine aw_goto iX7_chance_109 ?_
          exact ih x19 x22 (l5 + (1 : Int32)) g21
        · refine aw_aload_n iX7_chance_82 rfl rfl ?_
          refine aw_iload_n iX7_chance_83 rfl rfl ?_
          refine aw_iload iX7_chance_84 rfl ?_
          refine aw_callV (M' := mX7_saysAt) (As := [.inl l1, .inl l5]) iX7_chance_86 lkX7_171 mcX7_saysAt mvX7_saysAt rfl zrc61 (kX7_saysAt l1 l5 g21) rfl (Nat.le_of_ble_eq_true rfl) ⟨Nat.le_of_ble_eq_true rfl, Nat.le_of_ble_eq_true rfl⟩ (fun r23 g24 => ?_)
          refine aw_aload_n iX7_chance_89 rfl rfl ?_
          refine aw_iload iX7_chance_90 rfl ?_
          refine aw_callV (M' := mX7_answerAt) (As := [.inl l5]) iX7_chance_92 lkX7_175 mcX7_answerAt mvX7_answerAt rfl zrc61 (kX7_answerAt l5 g24) rfl (Nat.le_of_ble_eq_true rfl) ⟨Nat.le_of_ble_eq_true rfl, Nat.le_of_ble_eq_true rfl⟩ (fun r25 g26 => ?_)
          refine aw_icmp_ne iX7_chance_95 ?_ ?_
          · refine aw_iconst (v := 1) iX7_chance_98 (by decide) ?_
            refine aw_goto iX7_chance_99 ?_
            refine aw_iadd iX7_chance_103 ?_
            refine aw_lt (fun x27 => ?_)
            refine aw_istore (L' := [some (.inr 61), some (.inl l1), some (.inl l2), some (.inl x19), some (.inl x27), some (.inl l5), none, none, none, none, none]) iX7_chance_104 (Nat.le_of_ble_eq_true rfl) rfl ?_
            refine aw_iinc (L' := [some (.inr 61), some (.inl l1), some (.inl l2), some (.inl x19), some (.inl x27), some (.inl (l5 + (1 : Int32))), none, none, none, none, none]) (v := l5 + (1 : Int32)) iX7_chance_106 rfl rfl (Nat.le_of_ble_eq_true rfl) rfl ?_
            refine aw_goto iX7_chance_109 ?_
            exact ih x19 x27 (l5 + (1 : Int32)) g26
          · refine aw_iconst (v := 0) iX7_chance_102 (by decide) ?_
            refine aw_iadd iX7_chance_103 ?_
            refine aw_lt (fun x28 => ?_)
            refine aw_istore (L' := [some (.inr 61), some (.inl l1), some (.inl l2), some (.inl x19), some (.inl x28), some (.inl l5), none, none, none, none, none]) iX7_chance_104 (Nat.le_of_ble_eq_true rfl) rfl ?_
            refine aw_iinc (L' := [some (.inr 61), some (.inl l1), some (.inl l2), some (.inl x19), some (.inl x28), some (.inl (l5 + (1 : Int32))), none, none, none, none, none]) (v := l5 + (1 : Int32)) iX7_chance_106 rfl rfl (Nat.le_of_ble_eq_true rfl) rfl ?_
            refine aw_goto iX7_chance_109 ?_
            exact ih x19 x28 (l5 + (1 : Int32)) g26
set_option maxRecDepth 20000 in
set_option maxHeartbeats 4000000 in
theorem wX7_chance_L159 (l1 : Int32) (l2 : Int32) (l3 : Int32) (l4 : Int32) (l5 : Int32) (l6 : Int32) (l7 : Int32) (K : Int32 → Int32 → Mem → Option (Int32 × Mem)) (hK : ∀ (l8 l9 : Int32) (g : Mem), aw mX7_chance none 182 [some (.inr 61), some (.inl l1), some (.inl l2), some (.inl l3), some (.inl l4), some (.inl l5), some (.inl l6), some (.inl l7), some (.inl l8), some (.inl l9), none] [] g (K l8 l9 g)) : ∀ (n : Nat) (l8 l9 : Int32) (g : Mem), aw mX7_chance none 159 [some (.inr 61), some (.inl l1), some (.inl l2), some (.inl l3), some (.inl l4), some (.inl l5), some (.inl l6), some (.inl l7), some (.inl l8), some (.inl l9), none] [] g (fX7_chance_L159 l1 l2 l3 l4 l5 l6 l7 K n l8 l9 g) := by
  intro n
  induction n with
  | zero => intro l8 l9 g; exact aw_none
  | succ n ih =>
    intro l8 l9 g
    rw [fX7_chance_L159]
    refine aw_iload iX7_chance_159 rfl ?_
    refine aw_if_le iX7_chance_161 ?_ ?_
    · exact hK l8 l9 g
    · refine aw_iload iX7_chance_164 rfl ?_
      refine aw_iload iX7_chance_166 rfl ?_
      refine aw_irem iX7_chance_168 ?_
      refine aw_lt (fun x39 => ?_)
      refine aw_istore (L' := [some (.inr 61), some (.inl l1), some (.inl l2), some (.inl l3), some (.inl l4), some (.inl l5), some (.inl l6), some (.inl l7), some (.inl l8), some (.inl l9), some (.inl x39)]) iX7_chance_169 (Nat.le_of_ble_eq_true rfl) rfl ?_
      refine aw_iload iX7_chance_171 rfl ?_
      refine aw_istore (L' := [some (.inr 61), some (.inl l1), some (.inl l2), some (.inl l3), some (.inl l4), some (.inl l5), some (.inl l6), some (.inl l7), some (.inl l9), some (.inl l9), some (.inl x39)]) iX7_chance_173 (Nat.le_of_ble_eq_true rfl) rfl ?_
      refine aw_iload iX7_chance_175 rfl ?_
      refine aw_istore (L' := [some (.inr 61), some (.inl l1), some (.inl l2), some (.inl l3), some (.inl l4), some (.inl l5), some (.inl l6), some (.inl l7), some (.inl l9), some (.inl x39), some (.inl x39)]) iX7_chance_177 (Nat.le_of_ble_eq_true rfl) rfl ?_
      refine aw_goto iX7_chance_179 ?_
      refine aw_msk [true, true, true, true, true, true, true, true, true, true, false] rfl ?_
      exact ih l9 x39 g
set_option maxRecDepth 20000 in
set_option maxHeartbeats 4000000 in
theorem wX7_chance (a0 : Int32) (a1 : Int32) (g : Mem) : aw mX7_chance none 0 [some (.inr 61), some (.inl a0), some (.inl a1), none, none, none, none, none, none, none, none] [] g (fX7_chance a0 a1 g) := by
  unfold fX7_chance
  refine aw_aload_n iX7_chance_0 rfl rfl ?_
  refine aw_iload_n iX7_chance_1 rfl rfl ?_
  refine aw_callV (M' := mX7_isSuitorAt) (As := [.inl a0]) iX7_chance_2 lkX7_155 mcX7_isSuitorAt mvX7_isSuitorAt rfl zrc61 (kX7_isSuitorAt a0 g) rfl (Nat.le_of_ble_eq_true rfl) ⟨Nat.le_of_ble_eq_true rfl, Nat.le_of_ble_eq_true rfl⟩ (fun r1 g2 => ?_)
  refine aw_if_eq iX7_chance_5 ?_ ?_
  · refine aw_ldc (v := (-1000001)) iX7_chance_17 kcX7_57 ?_
    exact aw_iret iX7_chance_19 rfl
  · refine aw_iload_n iX7_chance_8 rfl rfl ?_
    refine aw_iconst (v := 0) iX7_chance_9 (by decide) ?_
    refine aw_iconst (v := 1) iX7_chance_10 (by decide) ?_
    refine aw_callS (M' := mX7_in) (As := [.inl a1, .inl (0 : Int32), .inl (1 : Int32)]) iX7_chance_11 lkX7_49 mcX7_in msX7_in rfl (kX7_in a1 (0 : Int32) (1 : Int32) g2) rfl (Nat.le_of_ble_eq_true rfl) ⟨Nat.le_of_ble_eq_true rfl, Nat.le_of_ble_eq_true rfl⟩ (fun r3 g4 => ?_)
    refine aw_if_ne iX7_chance_14 ?_ ?_
    · refine aw_ldc (v := (-1000001)) iX7_chance_17 kcX7_57 ?_
      exact aw_iret iX7_chance_19 rfl
    · refine aw_aload_n iX7_chance_20 rfl rfl ?_
      refine aw_getR (own := "") iX7_chance_21 flX7_22 zlt61 zsh61 rfl ?_
      refine aw_bipush (v := 38) iX7_chance_24 (by decide) ?_
      refine aw_iload_n iX7_chance_26 rfl rfl ?_
      refine aw_iadd iX7_chance_27 ?_
      refine aw_iald iX7_chance_28 zlt66 zsh66 (fun v5 _ => ?_)
      refine aw_if_eq iX7_chance_29 ?_ ?_
      · refine aw_iconst (v := 0) iX7_chance_35 (by decide) ?_
        refine aw_istore_n (L' := [some (.inr 61), some (.inl a0), some (.inl a1), some (.inl (0 : Int32)), none, none, none, none, none, none, none]) iX7_chance_36 rfl (Nat.le_of_ble_eq_true rfl) rfl ?_
        refine aw_iconst (v := 0) iX7_chance_37 (by decide) ?_
        refine aw_istore (L' := [some (.inr 61), some (.inl a0), some (.inl a1), some (.inl (0 : Int32)), some (.inl (0 : Int32)), none, none, none, none, none, none]) iX7_chance_38 (Nat.le_of_ble_eq_true rfl) rfl ?_
        refine aw_iconst (v := 0) iX7_chance_40 (by decide) ?_
        refine aw_istore (L' := [some (.inr 61), some (.inl a0), some (.inl a1), some (.inl (0 : Int32)), some (.inl (0 : Int32)), some (.inl (0 : Int32)), none, none, none, none, none]) iX7_chance_41 (Nat.le_of_ble_eq_true rfl) rfl ?_
        refine wX7_chance_L43 a0 a1 _ (fun l29 l30 l31 g32 => ?_) FU (0 : Int32) (0 : Int32) (0 : Int32) g4
        refine aw_iconst (v := 3) iX7_chance_112 (by decide) ?_
        refine aw_aload_n iX7_chance_113 rfl rfl ?_
        refine aw_getR (own := "") iX7_chance_114 flX7_22 zlt61 zsh61 rfl ?_
        refine aw_bipush (v := 42) iX7_chance_117 (by decide) ?_
        refine aw_iload_n iX7_chance_119 rfl rfl ?_
        refine aw_iadd iX7_chance_120 ?_
        refine aw_iald iX7_chance_121 zlt66 zsh66 (fun v33 _ => ?_)
        refine aw_isub iX7_chance_122 ?_
        refine aw_lt (fun x34 => ?_)
        refine aw_istore (L' := [some (.inr 61), some (.inl a0), some (.inl a1), some (.inl l29), some (.inl l30), some (.inl x34), none, none, none, none, none]) iX7_chance_123 (Nat.le_of_ble_eq_true rfl) rfl ?_
        refine aw_iload_n iX7_chance_125 rfl rfl ?_
        refine aw_iload iX7_chance_126 rfl ?_
        refine aw_icmp_ge iX7_chance_128 ?_ ?_
        · refine aw_iload iX7_chance_134 rfl ?_
          refine aw_iload iX7_chance_136 rfl ?_
          refine aw_callS (M' := mX7_over) (As := [.inl l30, .inl x34]) iX7_chance_138 lkX7_190 mcX7_over msX7_over rfl (kX7_over l30 x34 g32) rfl (Nat.le_of_ble_eq_true rfl) ⟨Nat.le_of_ble_eq_true rfl, Nat.le_of_ble_eq_true rfl⟩ (fun r35 g36 => ?_)
          refine aw_istore (L' := [some (.inr 61), some (.inl a0), some (.inl a1), some (.inl l29), some (.inl l30), some (.inl x34), some (.inl r35), none, none, none, none]) iX7_chance_141 (Nat.le_of_ble_eq_true rfl) rfl ?_
          refine aw_iload_n iX7_chance_143 rfl rfl ?_
          refine aw_iload iX7_chance_144 rfl ?_
          refine aw_callS (M' := mX7_over) (As := [.inl l29, .inl x34]) iX7_chance_146 lkX7_190 mcX7_over msX7_over rfl (kX7_over l29 x34 g36) rfl (Nat.le_of_ble_eq_true rfl) ⟨Nat.le_of_ble_eq_true rfl, Nat.le_of_ble_eq_true rfl⟩ (fun r37 g38 => ?_)
          refine aw_istore (L' := [some (.inr 61), some (.inl a0), some (.inl a1), some (.inl l29), some (.inl l30), some (.inl x34), some (.inl r35), some (.inl r37), none, none, none]) iX7_chance_149 (Nat.le_of_ble_eq_true rfl) rfl ?_
          refine aw_iload iX7_chance_151 rfl ?_
          refine aw_istore (L' := [some (.inr 61), some (.inl a0), some (.inl a1), some (.inl l29), some (.inl l30), some (.inl x34), some (.inl r35), some (.inl r37), some (.inl r35), none, none]) iX7_chance_153 (Nat.le_of_ble_eq_true rfl) rfl ?_
          refine aw_iload iX7_chance_155 rfl ?_
          refine aw_istore (L' := [some (.inr 61), some (.inl a0), some (.inl a1), some (.inl l29), some (.inl l30), some (.inl x34), some (.inl r35), some (.inl r37), some (.inl r35), some (.inl r37), none]) iX7_chance_157 (Nat.le_of_ble_eq_true rfl) rfl ?_
          refine wX7_chance_L159 a0 a1 l29 l30 x34 r35 r37 _ (fun l40 l41 g42 => ?_) FU r35 r37 g38
          refine aw_iload_n iX7_chance_182 rfl rfl ?_
          refine aw_if_ne iX7_chance_183 ?_ ?_
          · refine aw_iload iX7_chance_186 rfl ?_
            refine aw_goto iX7_chance_188 ?_
            refine aw_iload iX7_chance_193 rfl ?_
            refine aw_idiv iX7_chance_195 ?_
            exact aw_iret iX7_chance_196 rfl
          · refine aw_iload iX7_chance_191 rfl ?_
            refine aw_iload iX7_chance_193 rfl ?_
            refine aw_idiv iX7_chance_195 ?_
            exact aw_iret iX7_chance_196 rfl
        · refine aw_ldc (v := (-1000000)) iX7_chance_131 kcX7_144 ?_
          exact aw_iret iX7_chance_133 rfl
      · refine aw_ldc (v := (-1000002)) iX7_chance_32 kcX7_167 ?_
        exact aw_iret iX7_chance_34 rfl
set_option maxRecDepth 20000 in
set_option maxHeartbeats 4000000 in
theorem kX7_chance (a0 : Int32) (a1 : Int32) (g : Mem) : CT mX7_chance [.inr 61, .inl a0, .inl a1] g (fX7_chance a0 a1 g) := CT.of (nr := 8) (by decide +kernel) (Nat.le_of_ble_eq_true rfl) (Or.inr (Or.inl rfl)) (wX7_chance a0 a1 g)
set_option maxRecDepth 20000 in
set_option maxHeartbeats 4000000 in
theorem wX7_toBuy_L45 (l1 : Int32) (l2 : Int32) (l3 : Int32) (l4 : Int32) (l5 : Int32) (K : Int32 → Int32 → Mem → Option (Int32 × Mem)) (hK : ∀ (l6 l7 : Int32) (g : Mem), aw mX7_toBuy none 94 [some (.inr 61), some (.inl l1), some (.inl l2), some (.inl l3), some (.inl l4), some (.inl l5), some (.inl l6), some (.inl l7)] [] g (K l6 l7 g)) : ∀ (n : Nat) (l6 l7 : Int32) (g : Mem), aw mX7_toBuy none 45 [some (.inr 61), some (.inl l1), some (.inl l2), some (.inl l3), some (.inl l4), some (.inl l5), some (.inl l6), some (.inl l7)] [] g (fX7_toBuy_L45 l1 l2 l3 l4 l5 K n l6 l7 g) := by
  intro n
  induction n with
  | zero => intro l6 l7 g; exact aw_none
  | succ n ih =>
    intro l6 l7 g
    rw [fX7_toBuy_L45]
    refine aw_iload iX7_toBuy_45 rfl ?_
    refine aw_aload_n iX7_toBuy_47 rfl rfl ?_
    refine aw_getR (own := "") iX7_toBuy_48 flX7_22 zlt61 zsh61 rfl ?_
    refine aw_iconst (v := 4) iX7_toBuy_51 (by decide) ?_
    refine aw_iald iX7_toBuy_52 zlt66 zsh66 (fun v6 _ => ?_)
    refine aw_icmp_ge iX7_toBuy_53 ?_ ?_
    · exact hK l6 l7 g
    · refine aw_iload iX7_toBuy_56 rfl ?_
      refine aw_if_ne iX7_toBuy_58 ?_ ?_
      · refine aw_aload_n iX7_toBuy_61 rfl rfl ?_
        refine aw_iload iX7_toBuy_62 rfl ?_
        refine aw_callV (M' := mX7_isOpen) (As := [.inl l7]) iX7_toBuy_64 lkX7_161 mcX7_isOpen mvX7_isOpen rfl zrc61 (kX7_isOpen l7 g) rfl (Nat.le_of_ble_eq_true rfl) ⟨Nat.le_of_ble_eq_true rfl, Nat.le_of_ble_eq_true rfl⟩ (fun r7 g8 => ?_)
        refine aw_if_eq iX7_toBuy_67 ?_ ?_
        · refine aw_iconst (v := 0) iX7_toBuy_85 (by decide) ?_
          refine aw_istore (L' := [some (.inr 61), some (.inl l1), some (.inl l2), some (.inl l3), some (.inl l4), some (.inl l5), some (.inl (0 : Int32)), some (.inl l7)]) iX7_toBuy_86 (Nat.le_of_ble_eq_true rfl) rfl ?_
          refine aw_iinc (L' := [some (.inr 61), some (.inl l1), some (.inl l2), some (.inl l3), some (.inl l4), some (.inl l5), some (.inl (0 : Int32)), some (.inl (l7 + (1 : Int32)))]) (v := l7 + (1 : Int32)) iX7_toBuy_88 rfl rfl (Nat.le_of_ble_eq_true rfl) rfl ?_
          refine aw_goto iX7_toBuy_91 ?_
          exact ih (0 : Int32) (l7 + (1 : Int32)) g8
        · refine aw_aload_n iX7_toBuy_70 rfl rfl ?_
          refine aw_iload iX7_toBuy_71 rfl ?_
          refine aw_callV (M' := mX7_answerAt) (As := [.inl l7]) iX7_toBuy_73 lkX7_175 mcX7_answerAt mvX7_answerAt rfl zrc61 (kX7_answerAt l7 g8) rfl (Nat.le_of_ble_eq_true rfl) ⟨Nat.le_of_ble_eq_true rfl, Nat.le_of_ble_eq_true rfl⟩ (fun r9 g10 => ?_)
          refine aw_iload iX7_toBuy_76 rfl ?_
          refine aw_icmp_ne iX7_toBuy_78 ?_ ?_
          · refine aw_iconst (v := 1) iX7_toBuy_81 (by decide) ?_
            refine aw_goto iX7_toBuy_82 ?_
            refine aw_istore (L' := [some (.inr 61), some (.inl l1), some (.inl l2), some (.inl l3), some (.inl l4), some (.inl l5), some (.inl (1 : Int32)), some (.inl l7)]) iX7_toBuy_86 (Nat.le_of_ble_eq_true rfl) rfl ?_
            refine aw_iinc (L' := [some (.inr 61), some (.inl l1), some (.inl l2), some (.inl l3), some (.inl l4), some (.inl l5), some (.inl (1 : Int32)), some (.inl (l7 + (1 : Int32)))]) (v := l7 + (1 : Int32)) iX7_toBuy_88 rfl rfl (Nat.le_of_ble_eq_true rfl) rfl ?_
            refine aw_goto iX7_toBuy_91 ?_
            exact ih (1 : Int32) (l7 + (1 : Int32)) g10
          · refine aw_iconst (v := 0) iX7_toBuy_85 (by decide) ?_
            refine aw_istore (L' := [some (.inr 61), some (.inl l1), some (.inl l2), some (.inl l3), some (.inl l4), some (.inl l5), some (.inl (0 : Int32)), some (.inl l7)]) iX7_toBuy_86 (Nat.le_of_ble_eq_true rfl) rfl ?_
            refine aw_iinc (L' := [some (.inr 61), some (.inl l1), some (.inl l2), some (.inl l3), some (.inl l4), some (.inl l5), some (.inl (0 : Int32)), some (.inl (l7 + (1 : Int32)))]) (v := l7 + (1 : Int32)) iX7_toBuy_88 rfl rfl (Nat.le_of_ble_eq_true rfl) rfl ?_
            refine aw_goto iX7_toBuy_91 ?_
            exact ih (0 : Int32) (l7 + (1 : Int32)) g10
      · refine aw_iconst (v := 1) iX7_toBuy_81 (by decide) ?_
        refine aw_goto iX7_toBuy_82 ?_
        refine aw_istore (L' := [some (.inr 61), some (.inl l1), some (.inl l2), some (.inl l3), some (.inl l4), some (.inl l5), some (.inl (1 : Int32)), some (.inl l7)]) iX7_toBuy_86 (Nat.le_of_ble_eq_true rfl) rfl ?_
        refine aw_iinc (L' := [some (.inr 61), some (.inl l1), some (.inl l2), some (.inl l3), some (.inl l4), some (.inl l5), some (.inl (1 : Int32)), some (.inl (l7 + (1 : Int32)))]) (v := l7 + (1 : Int32)) iX7_toBuy_88 rfl rfl (Nat.le_of_ble_eq_true rfl) rfl ?_
        refine aw_goto iX7_toBuy_91 ?_
        exact ih (1 : Int32) (l7 + (1 : Int32)) g
set_option maxRecDepth 20000 in
set_option maxHeartbeats 4000000 in
theorem wX7_toBuy_L28 (l1 : Int32) (l2 : Int32) (K : Int32 → Int32 → Int32 → Mem → Option (Int32 × Mem)) (hK : ∀ (l3 l4 l5 : Int32) (g : Mem), aw mX7_toBuy none 140 [some (.inr 61), some (.inl l1), some (.inl l2), some (.inl l3), some (.inl l4), some (.inl l5), none, none] [] g (K l3 l4 l5 g)) : ∀ (n : Nat) (l3 l4 l5 : Int32) (g : Mem), aw mX7_toBuy none 28 [some (.inr 61), some (.inl l1), some (.inl l2), some (.inl l3), some (.inl l4), some (.inl l5), none, none] [] g (fX7_toBuy_L28 l1 l2 K n l3 l4 l5 g) := by
  intro n
  induction n with
  | zero => intro l3 l4 l5 g; exact aw_none
  | succ n ih =>
    intro l3 l4 l5 g
    rw [fX7_toBuy_L28]
    refine aw_iload iX7_toBuy_28 rfl ?_
    refine aw_aload_n iX7_toBuy_30 rfl rfl ?_
    refine aw_getR (own := "") iX7_toBuy_31 flX7_22 zlt61 zsh61 rfl ?_
    refine aw_iconst (v := 3) iX7_toBuy_34 (by decide) ?_
    refine aw_iald iX7_toBuy_35 zlt66 zsh66 (fun v5 _ => ?_)
    refine aw_icmp_ge iX7_toBuy_36 ?_ ?_
    · exact hK l3 l4 l5 g
    · refine aw_iconst (v := 0) iX7_toBuy_39 (by decide) ?_
      refine aw_istore (L' := [some (.inr 61), some (.inl l1), some (.inl l2), some (.inl l3), some (.inl l4), some (.inl l5), some (.inl (0 : Int32)), none]) iX7_toBuy_40 (Nat.le_of_ble_eq_true rfl) rfl ?_
      refine aw_iconst (v := 0) iX7_toBuy_42 (by decide) ?_
      refine aw_istore (L' := [some (.inr 61), some (.inl l1), some (.inl l2), some (.inl l3), some (.inl l4), some (.inl l5), some (.inl (0 : Int32)), some (.inl (0 : Int32))]) iX7_toBuy_43 (Nat.le_of_ble_eq_true rfl) rfl ?_
      refine wX7_toBuy_L45 l1 l2 l3 l4 l5 _ (fun l11 l12 g13 => ?_) FU (0 : Int32) (0 : Int32) g
      refine aw_iload iX7_toBuy_94 rfl ?_
      refine aw_if_eq iX7_toBuy_96 ?_ ?_
      · refine aw_iinc (L' := [some (.inr 61), some (.inl l1), some (.inl l2), some (.inl l3), some (.inl l4), some (.inl (l5 + (1 : Int32))), some (.inl l11), some (.inl l12)]) (v := l5 + (1 : Int32)) iX7_toBuy_134 rfl rfl (Nat.le_of_ble_eq_true rfl) rfl ?_
        refine aw_goto iX7_toBuy_137 ?_
        refine aw_msk [true, true, true, true, true, true, false, false] rfl ?_
        exact ih l3 l4 (l5 + (1 : Int32)) g13
      · refine aw_aload_n iX7_toBuy_99 rfl rfl ?_
        refine aw_getR (own := "") iX7_toBuy_100 flX7_22 zlt61 zsh61 rfl ?_
        refine aw_bipush (v := 34) iX7_toBuy_103 (by decide) ?_
        refine aw_iload_n iX7_toBuy_105 rfl rfl ?_
        refine aw_iadd iX7_toBuy_106 ?_
        refine aw_iald iX7_toBuy_107 zlt66 zsh66 (fun v14 _ => ?_)
        refine aw_iload iX7_toBuy_108 rfl ?_
        refine aw_callS (M' := mX7_has) (As := [.inl v14, .inl l5]) iX7_toBuy_110 lkX7_145 mcX7_has msX7_has rfl (kX7_has v14 l5 g13) rfl (Nat.le_of_ble_eq_true rfl) ⟨Nat.le_of_ble_eq_true rfl, Nat.le_of_ble_eq_true rfl⟩ (fun r15 g16 => ?_)
        refine aw_if_ne iX7_toBuy_113 ?_ ?_
        · refine aw_iload_n iX7_toBuy_116 rfl rfl ?_
          refine aw_iconst (v := 1) iX7_toBuy_117 (by decide) ?_
          refine aw_iload iX7_toBuy_118 rfl ?_
          refine aw_ishl iX7_toBuy_120 ?_
          refine aw_ior iX7_toBuy_121 ?_
          refine aw_lt (fun x17 => ?_)
          refine aw_istore_n (L' := [some (.inr 61), some (.inl l1), some (.inl l2), some (.inl x17), some (.inl l4), some (.inl l5), some (.inl l11), some (.inl l12)]) iX7_toBuy_122 rfl (Nat.le_of_ble_eq_true rfl) rfl ?_
          refine aw_iload iX7_toBuy_123 rfl ?_
          refine aw_aload_n iX7_toBuy_125 rfl rfl ?_
          refine aw_iload iX7_toBuy_126 rfl ?_
          refine aw_callV (M' := mX7_costOf) (As := [.inl l5]) iX7_toBuy_128 lkX7_184 mcX7_costOf mvX7_costOf rfl zrc61 (kX7_costOf l5 g16) rfl (Nat.le_of_ble_eq_true rfl) ⟨Nat.le_of_ble_eq_true rfl, Nat.le_of_ble_eq_true rfl⟩ (fun r18 g19 => ?_)
          refine aw_iadd iX7_toBuy_131 ?_
          refine aw_lt (fun x20 => ?_)
          refine aw_istore (L' := [some (.inr 61), some (.inl l1), some (.inl l2), some (.inl x17), some (.inl x20), some (.inl l5), some (.inl l11), some (.inl l12)]) iX7_toBuy_132 (Nat.le_of_ble_eq_true rfl) rfl ?_
          refine aw_iinc (L' := [some (.inr 61), some (.inl l1), some (.inl l2), some (.inl x17), some (.inl x20), some (.inl (l5 + (1 : Int32))), some (.inl l11), some (.inl l12)]) (v := l5 + (1 : Int32)) iX7_toBuy_134 rfl rfl (Nat.le_of_ble_eq_true rfl) rfl ?_
          refine aw_goto iX7_toBuy_137 ?_
          refine aw_msk [true, true, true, true, true, true, false, false] rfl ?_
          exact ih x17 x20 (l5 + (1 : Int32)) g19
        · refine aw_iinc (L' := [some (.inr 61), some (.inl l1), some (.inl l2), some (.inl l3), some (.inl l4), some (.inl (l5 + (1 : Int32))), some (.inl l11), some (.inl l12)]) (v := l5 + (1 : Int32)) iX7_toBuy_134 rfl rfl (Nat.le_of_ble_eq_true rfl) rfl ?_
          refine aw_goto iX7_toBuy_137 ?_
          refine aw_msk [true, true, true, true, true, true, false, false] rfl ?_
          exact ih l3 l4 (l5 + (1 : Int32)) g16
set_option maxRecDepth 20000 in
set_option maxHeartbeats 4000000 in
theorem wX7_toBuy (a0 : Int32) (a1 : Int32) (g : Mem) : aw mX7_toBuy none 0 [some (.inr 61), some (.inl a0), some (.inl a1), none, none, none, none, none] [] g (fX7_toBuy a0 a1 g) := by
  unfold fX7_toBuy
  refine aw_aload_n iX7_toBuy_0 rfl rfl ?_
  refine aw_iload_n iX7_toBuy_1 rfl rfl ?_
  refine aw_callV (M' := mX7_isSuitorAt) (As := [.inl a0]) iX7_toBuy_2 lkX7_155 mcX7_isSuitorAt mvX7_isSuitorAt rfl zrc61 (kX7_isSuitorAt a0 g) rfl (Nat.le_of_ble_eq_true rfl) ⟨Nat.le_of_ble_eq_true rfl, Nat.le_of_ble_eq_true rfl⟩ (fun r1 g2 => ?_)
  refine aw_if_eq iX7_toBuy_5 ?_ ?_
  · refine aw_ldc (v := (-1000001)) iX7_toBuy_17 kcX7_57 ?_
    exact aw_iret iX7_toBuy_19 rfl
  · refine aw_iload_n iX7_toBuy_8 rfl rfl ?_
    refine aw_iconst (v := 0) iX7_toBuy_9 (by decide) ?_
    refine aw_iconst (v := 1) iX7_toBuy_10 (by decide) ?_
    refine aw_callS (M' := mX7_in) (As := [.inl a1, .inl (0 : Int32), .inl (1 : Int32)]) iX7_toBuy_11 lkX7_49 mcX7_in msX7_in rfl (kX7_in a1 (0 : Int32) (1 : Int32) g2) rfl (Nat.le_of_ble_eq_true rfl) ⟨Nat.le_of_ble_eq_true rfl, Nat.le_of_ble_eq_true rfl⟩ (fun r3 g4 => ?_)
    refine aw_if_ne iX7_toBuy_14 ?_ ?_
    · refine aw_ldc (v := (-1000001)) iX7_toBuy_17 kcX7_57 ?_
      exact aw_iret iX7_toBuy_19 rfl
    · refine aw_iconst (v := 0) iX7_toBuy_20 (by decide) ?_
      refine aw_istore_n (L' := [some (.inr 61), some (.inl a0), some (.inl a1), some (.inl (0 : Int32)), none, none, none, none]) iX7_toBuy_21 rfl (Nat.le_of_ble_eq_true rfl) rfl ?_
      refine aw_iconst (v := 0) iX7_toBuy_22 (by decide) ?_
      refine aw_istore (L' := [some (.inr 61), some (.inl a0), some (.inl a1), some (.inl (0 : Int32)), some (.inl (0 : Int32)), none, none, none]) iX7_toBuy_23 (Nat.le_of_ble_eq_true rfl) rfl ?_
      refine aw_iconst (v := 0) iX7_toBuy_25 (by decide) ?_
      refine aw_istore (L' := [some (.inr 61), some (.inl a0), some (.inl a1), some (.inl (0 : Int32)), some (.inl (0 : Int32)), some (.inl (0 : Int32)), none, none]) iX7_toBuy_26 (Nat.le_of_ble_eq_true rfl) rfl ?_
      refine wX7_toBuy_L28 a0 a1 _ (fun l21 l22 l23 g24 => ?_) FU (0 : Int32) (0 : Int32) (0 : Int32) g4
      refine aw_iload_n iX7_toBuy_140 rfl rfl ?_
      refine aw_if_ne iX7_toBuy_141 ?_ ?_
      · refine aw_iload_n iX7_toBuy_144 rfl rfl ?_
        refine aw_goto iX7_toBuy_145 ?_
        exact aw_iret iX7_toBuy_150 rfl
      · refine aw_iload iX7_toBuy_148 rfl ?_
        exact aw_iret iX7_toBuy_150 rfl
set_option maxRecDepth 20000 in
set_option maxHeartbeats 4000000 in
theorem kX7_toBuy (a0 : Int32) (a1 : Int32) (g : Mem) : CT mX7_toBuy [.inr 61, .inl a0, .inl a1] g (fX7_toBuy a0 a1 g) := CT.of (nr := 5) (by decide +kernel) (Nat.le_of_ble_eq_true rfl) (Or.inr (Or.inl rfl)) (wX7_toBuy a0 a1 g)
set_option maxRecDepth 20000 in
set_option maxHeartbeats 4000000 in
theorem wX7_beats_L14 (K : Int32 → Int32 → Mem → Option (Int32 × Mem)) (hK : ∀ (l1 l2 : Int32) (g : Mem), aw mX7_beats none 61 [some (.inr 61), some (.inl l1), some (.inl l2)] [] g (K l1 l2 g)) : ∀ (n : Nat) (l1 l2 : Int32) (g : Mem), aw mX7_beats none 14 [some (.inr 61), some (.inl l1), some (.inl l2)] [] g (fX7_beats_L14 K n l1 l2 g) := by
  intro n
  induction n with
  | zero => intro l1 l2 g; exact aw_none
  | succ n ih =>
    intro l1 l2 g
    rw [fX7_beats_L14]
    refine aw_iload_n iX7_beats_14 rfl rfl ?_
    refine aw_aload_n iX7_beats_15 rfl rfl ?_
    refine aw_getR (own := "") iX7_beats_16 flX7_22 zlt61 zsh61 rfl ?_
    refine aw_iconst (v := 4) iX7_beats_19 (by decide) ?_
    refine aw_iald iX7_beats_20 zlt66 zsh66 (fun v3 _ => ?_)
    refine aw_icmp_ge iX7_beats_21 ?_ ?_
    · exact hK l1 l2 g
    · refine aw_iload_n iX7_beats_24 rfl rfl ?_
      refine aw_aload_n iX7_beats_25 rfl rfl ?_
      refine aw_iload_n iX7_beats_26 rfl rfl ?_
      refine aw_callV (M' := mX7_isOpen) (As := [.inl l2]) iX7_beats_27 lkX7_161 mcX7_isOpen mvX7_isOpen rfl zrc61 (kX7_isOpen l2 g) rfl (Nat.le_of_ble_eq_true rfl) ⟨Nat.le_of_ble_eq_true rfl, Nat.le_of_ble_eq_true rfl⟩ (fun r4 g5 => ?_)
      refine aw_if_eq iX7_beats_30 ?_ ?_
      · refine aw_iconst (v := 0) iX7_beats_52 (by decide) ?_
        refine aw_ior iX7_beats_53 ?_
        refine aw_lt (fun x6 => ?_)
        refine aw_istore_n (L' := [some (.inr 61), some (.inl x6), some (.inl l2)]) iX7_beats_54 rfl (Nat.le_of_ble_eq_true rfl) rfl ?_
        refine aw_iinc (L' := [some (.inr 61), some (.inl x6), some (.inl (l2 + (1 : Int32)))]) (v := l2 + (1 : Int32)) iX7_beats_55 rfl rfl (Nat.le_of_ble_eq_true rfl) rfl ?_
        refine aw_goto iX7_beats_58 ?_
        exact ih x6 (l2 + (1 : Int32)) g5
      · refine aw_aload_n iX7_beats_33 rfl rfl ?_
        refine aw_iload_n iX7_beats_34 rfl rfl ?_
        refine aw_callV (M' := mX7_sheSaysAt) (As := [.inl l2]) iX7_beats_35 lkX7_178 mcX7_sheSaysAt mvX7_sheSaysAt rfl zrc61 (kX7_sheSaysAt l2 g5) rfl (Nat.le_of_ble_eq_true rfl) ⟨Nat.le_of_ble_eq_true rfl, Nat.le_of_ble_eq_true rfl⟩ (fun r7 g8 => ?_)
        refine aw_aload_n iX7_beats_38 rfl rfl ?_
        refine aw_iload_n iX7_beats_39 rfl rfl ?_
        refine aw_callV (M' := mX7_answerAt) (As := [.inl l2]) iX7_beats_40 lkX7_175 mcX7_answerAt mvX7_answerAt rfl zrc61 (kX7_answerAt l2 g8) rfl (Nat.le_of_ble_eq_true rfl) ⟨Nat.le_of_ble_eq_true rfl, Nat.le_of_ble_eq_true rfl⟩ (fun r9 g10 => ?_)
        refine aw_icmp_eq iX7_beats_43 ?_ ?_
        · refine aw_iconst (v := 0) iX7_beats_52 (by decide) ?_
          refine aw_ior iX7_beats_53 ?_
          refine aw_lt (fun x11 => ?_)
          refine aw_istore_n (L' := [some (.inr 61), some (.inl x11), some (.inl l2)]) iX7_beats_54 rfl (Nat.le_of_ble_eq_true rfl) rfl ?_
          refine aw_iinc (L' := [some (.inr 61), some (.inl x11), some (.inl (l2 + (1 : Int32)))]) (v := l2 + (1 : Int32)) iX7_beats_55 rfl rfl (Nat.le_of_ble_eq_true rfl) rfl ?_
          refine aw_goto iX7_beats_58 ?_
          exact ih x11 (l2 + (1 : Int32)) g10
        · refine aw_iconst (v := 1) iX7_beats_46 (by decide) ?_
          refine aw_iload_n iX7_beats_47 rfl rfl ?_
          refine aw_ishl iX7_beats_48 ?_
          refine aw_goto iX7_beats_49 ?_
          refine aw_ior iX7_beats_53 ?_
          refine aw_lt (fun x12 => ?_)
          refine aw_istore_n (L' := [some (.inr 61), some (.inl x12), some (.inl l2)]) iX7_beats_54 rfl (Nat.le_of_ble_eq_true rfl) rfl ?_
          refine aw_iinc (L' := [some (.inr 61), some (.inl x12), some (.inl (l2 + (1 : Int32)))]) (v := l2 + (1 : Int32)) iX7_beats_55 rfl rfl (Nat.le_of_ble_eq_true rfl) rfl ?_
          refine aw_goto iX7_beats_58 ?_
          exact ih x12 (l2 + (1 : Int32)) g10
set_option maxRecDepth 20000 in
set_option maxHeartbeats 4000000 in
theorem wX7_beats (g : Mem) : aw mX7_beats none 0 [some (.inr 61), none, none] [] g (fX7_beats g) := by
  unfold fX7_beats
  refine aw_aload_n iX7_beats_0 rfl rfl ?_
  refine aw_callV (M' := mX7_isCourt) (As := []) iX7_beats_1 lkX7_187 mcX7_isCourt mvX7_isCourt rfl zrc61 (kX7_isCourt g) rfl (Nat.le_of_ble_eq_true rfl) ⟨Nat.le_of_ble_eq_true rfl, Nat.le_of_ble_eq_true rfl⟩ (fun r1 g2 => ?_)
  refine aw_if_ne iX7_beats_4 ?_ ?_
  · refine aw_ldc (v := (-1000002)) iX7_beats_7 kcX7_167 ?_
    exact aw_iret iX7_beats_9 rfl
  · refine aw_iconst (v := 0) iX7_beats_10 (by decide) ?_
    refine aw_istore_n (L' := [some (.inr 61), some (.inl (0 : Int32)), none]) iX7_beats_11 rfl (Nat.le_of_ble_eq_true rfl) rfl ?_
    refine aw_iconst (v := 0) iX7_beats_12 (by decide) ?_
    refine aw_istore_n (L' := [some (.inr 61), some (.inl (0 : Int32)), some (.inl (0 : Int32))]) iX7_beats_13 rfl (Nat.le_of_ble_eq_true rfl) rfl ?_
    refine wX7_beats_L14 _ (fun l13 l14 g15 => ?_) FU (0 : Int32) (0 : Int32) g2
    refine aw_iload_n iX7_beats_61 rfl rfl ?_
    exact aw_iret iX7_beats_62 rfl
set_option maxRecDepth 20000 in
set_option maxHeartbeats 4000000 in
theorem kX7_beats (g : Mem) : CT mX7_beats [.inr 61] g (fX7_beats g) := CT.of (nr := 2) (by decide +kernel) (Nat.le_of_ble_eq_true rfl) (Or.inr (Or.inl rfl)) (wX7_beats g)
