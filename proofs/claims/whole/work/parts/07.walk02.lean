set_option maxRecDepth 20000 in
set_option maxHeartbeats 4000000 in
theorem wX6_suitor (a0 : Int32) (a1 : Int32) (g : Mem) : aw mX6_suitor none 0 [some (.inr 0), some (.inl a0), some (.inl a1)] [] g (fX6_suitor a0 a1 g) := by
  unfold fX6_suitor
  refine aw_iload_n iX6_suitor_0 rfl rfl ?_
  refine aw_aload_n iX6_suitor_1 rfl rfl ?_
  refine aw_getR (own := "") iX6_suitor_2 flX6_26 zlt0 zsh0 rfl ?_
  refine aw_getI (own := "") iX6_suitor_5 flX6_128 zlt7 zsh7 rfl ?_
  refine aw_callS (M' := mX6_below) (As := [.inl a0, .inl (g 7 10)]) iX6_suitor_8 lkX6_62 mcX6_below msX6_below rfl (kX6_below a0 (g 7 10) g) rfl (Nat.le_of_ble_eq_true rfl) ⟨Nat.le_of_ble_eq_true rfl, Nat.le_of_ble_eq_true rfl⟩ (fun r1 g2 => ?_)
  refine aw_if_ne iX6_suitor_11 ?_ ?_
  · refine aw_ldc (v := (-1000001)) iX6_suitor_14 kcX6_66 ?_
    exact aw_iret iX6_suitor_16 rfl
  · refine aw_iload_n iX6_suitor_17 rfl rfl ?_
    refine aw_if (fun c3 => ?_) (fun c3 => ?_)
    · refine aw_tsw tX6_suitor_18_0 c3 ?_
      refine aw_aload_n iX6_suitor_48 rfl rfl ?_
      refine aw_getR (own := "") iX6_suitor_49 flX6_26 zlt0 zsh0 rfl ?_
      refine aw_getR (own := "") iX6_suitor_52 flX6_197 zlt7 zsh7 rfl ?_
      refine aw_iload_n iX6_suitor_55 rfl rfl ?_
      refine aw_iald iX6_suitor_56 zlt13 zsh13 (fun v4 _ => ?_)
      exact aw_iret iX6_suitor_57 rfl
    refine aw_if (fun c5 => ?_) (fun c5 => ?_)
    · refine aw_tsw tX6_suitor_18_1 c5 ?_
      refine aw_aload_n iX6_suitor_58 rfl rfl ?_
      refine aw_getR (own := "") iX6_suitor_59 flX6_26 zlt0 zsh0 rfl ?_
      refine aw_getR (own := "") iX6_suitor_62 flX6_200 zlt7 zsh7 rfl ?_
      refine aw_iload_n iX6_suitor_65 rfl rfl ?_
      refine aw_iald iX6_suitor_66 zlt14 zsh14 (fun v6 _ => ?_)
      exact aw_iret iX6_suitor_67 rfl
    refine aw_if (fun c7 => ?_) (fun c7 => ?_)
    · refine aw_tsw tX6_suitor_18_2 c7 ?_
      refine aw_aload_n iX6_suitor_68 rfl rfl ?_
      refine aw_getR (own := "") iX6_suitor_69 flX6_26 zlt0 zsh0 rfl ?_
      refine aw_getR (own := "") iX6_suitor_72 flX6_203 zlt7 zsh7 rfl ?_
      refine aw_iload_n iX6_suitor_75 rfl rfl ?_
      refine aw_iald iX6_suitor_76 zlt15 zsh15 (fun v8 _ => ?_)
      exact aw_iret iX6_suitor_77 rfl
    refine aw_if (fun c9 => ?_) (fun c9 => ?_)
    · refine aw_tsw tX6_suitor_18_3 c9 ?_
      refine aw_aload_n iX6_suitor_78 rfl rfl ?_
      refine aw_getR (own := "") iX6_suitor_79 flX6_26 zlt0 zsh0 rfl ?_
      refine aw_getR (own := "") iX6_suitor_82 flX6_153 zlt7 zsh7 rfl ?_
      refine aw_iload_n iX6_suitor_85 rfl rfl ?_
      refine aw_iald iX6_suitor_86 zlt16 zsh16 (fun v10 _ => ?_)
      exact aw_iret iX6_suitor_87 rfl
    refine aw_tsd tX6_suitor_18_d (by have ec3 := ne_toInt c3 (a := 0) (by decide); have ec5 := ne_toInt c5 (a := 1) (by decide); have ec7 := ne_toInt c7 (a := 2) (by decide); have ec9 := ne_toInt c9 (a := 3) (by decide); omega) ?_
    refine aw_ldc (v := (-1000001)) iX6_suitor_88 kcX6_66 ?_
    exact aw_iret iX6_suitor_90 rfl
set_option maxRecDepth 20000 in
set_option maxHeartbeats 4000000 in
theorem kX6_suitor (a0 : Int32) (a1 : Int32) (g : Mem) : CT mX6_suitor [.inr 0, .inl a0, .inl a1] g (fX6_suitor a0 a1 g) := CT.of (nr := 0) (by decide +kernel) (Nat.le_of_ble_eq_true rfl) (Or.inr (Or.inl rfl)) (wX6_suitor a0 a1 g)
set_option maxRecDepth 20000 in
set_option maxHeartbeats 4000000 in
theorem wX6_says (a0 : Int32) (a1 : Int32) (g : Mem) : aw mX6_says none 0 [some (.inr 0), some (.inl a0), some (.inl a1)] [] g (fX6_says a0 a1 g) := by
  unfold fX6_says
  refine aw_iload_n iX6_says_0 rfl rfl ?_
  refine aw_aload_n iX6_says_1 rfl rfl ?_
  refine aw_getR (own := "") iX6_says_2 flX6_26 zlt0 zsh0 rfl ?_
  refine aw_getI (own := "") iX6_says_5 flX6_128 zlt7 zsh7 rfl ?_
  refine aw_callS (M' := mX6_below) (As := [.inl a0, .inl (g 7 10)]) iX6_says_8 lkX6_62 mcX6_below msX6_below rfl (kX6_below a0 (g 7 10) g) rfl (Nat.le_of_ble_eq_true rfl) ⟨Nat.le_of_ble_eq_true rfl, Nat.le_of_ble_eq_true rfl⟩ (fun r1 g2 => ?_)
  refine aw_if_eq iX6_says_11 ?_ ?_
  · refine aw_ldc (v := (-1000001)) iX6_says_28 kcX6_66 ?_
    exact aw_iret iX6_says_30 rfl
  · refine aw_iload_n iX6_says_14 rfl rfl ?_
    refine aw_aload_n iX6_says_15 rfl rfl ?_
    refine aw_getR (own := "") iX6_says_16 flX6_26 zlt0 zsh0 rfl ?_
    refine aw_getI (own := "") iX6_says_19 flX6_131 zlt7 zsh7 rfl ?_
    refine aw_callS (M' := mX6_below) (As := [.inl a1, .inl (g2 7 5)]) iX6_says_22 lkX6_62 mcX6_below msX6_below rfl (kX6_below a1 (g2 7 5) g2) rfl (Nat.le_of_ble_eq_true rfl) ⟨Nat.le_of_ble_eq_true rfl, Nat.le_of_ble_eq_true rfl⟩ (fun r3 g4 => ?_)
    refine aw_if_ne iX6_says_25 ?_ ?_
    · refine aw_ldc (v := (-1000001)) iX6_says_28 kcX6_66 ?_
      exact aw_iret iX6_says_30 rfl
    · refine aw_aload_n iX6_says_31 rfl rfl ?_
      refine aw_getR (own := "") iX6_says_32 flX6_26 zlt0 zsh0 rfl ?_
      refine aw_iload_n iX6_says_35 rfl rfl ?_
      refine aw_iload_n iX6_says_36 rfl rfl ?_
      refine aw_callV (M' := mX2_heSays) (As := [.inl a0, .inl a1]) iX6_says_37 lkX6_206 mcX2_heSays mvX2_heSays rfl zrc7 (kX2_heSays 7 (CO_of7) a0 a1 g4) rfl (Nat.le_of_ble_eq_true rfl) ⟨Nat.le_of_ble_eq_true rfl, Nat.le_of_ble_eq_true rfl⟩ (fun r5 g6 => ?_)
      exact aw_iret iX6_says_40 rfl
set_option maxRecDepth 20000 in
set_option maxHeartbeats 4000000 in
theorem kX6_says (a0 : Int32) (a1 : Int32) (g : Mem) : CT mX6_says [.inr 0, .inl a0, .inl a1] g (fX6_says a0 a1 g) := CT.of (nr := 0) (by decide +kernel) (Nat.le_of_ble_eq_true rfl) (Or.inr (Or.inl rfl)) (wX6_says a0 a1 g)
set_option maxRecDepth 20000 in
set_option maxHeartbeats 4000000 in
theorem wX6_riddleFor (a0 : Int32) (a1 : Int32) (a2 : Int32) (g : Mem) : aw mX6_riddleFor none 0 [some (.inr 0), some (.inl a0), some (.inl a1), some (.inl a2)] [] g (fX6_riddleFor a0 a1 a2 g) := by
  unfold fX6_riddleFor
  refine aw_iload_n iX6_riddleFor_0 rfl rfl ?_
  refine aw_aload_n iX6_riddleFor_1 rfl rfl ?_
  refine aw_getR (own := "") iX6_riddleFor_2 flX6_26 zlt0 zsh0 rfl ?_
  refine aw_getI (own := "") iX6_riddleFor_5 flX6_128 zlt7 zsh7 rfl ?_
  refine aw_callS (M' := mX6_below) (As := [.inl a0, .inl (g 7 10)]) iX6_riddleFor_8 lkX6_62 mcX6_below msX6_below rfl (kX6_below a0 (g 7 10) g) rfl (Nat.le_of_ble_eq_true rfl) ⟨Nat.le_of_ble_eq_true rfl, Nat.le_of_ble_eq_true rfl⟩ (fun r1 g2 => ?_)
  refine aw_if_eq iX6_riddleFor_11 ?_ ?_
  · refine aw_ldc (v := (-1000001)) iX6_riddleFor_29 kcX6_66 ?_
    exact aw_iret iX6_riddleFor_31 rfl
  · refine aw_iload_n iX6_riddleFor_14 rfl rfl ?_
    refine aw_callS (M' := mX2_isSort) (As := [.inl a1]) iX6_riddleFor_15 lkX6_209 mcX2_isSort msX2_isSort rfl (kX2_isSort a1 g2) rfl (Nat.le_of_ble_eq_true rfl) ⟨Nat.le_of_ble_eq_true rfl, Nat.le_of_ble_eq_true rfl⟩ (fun r3 g4 => ?_)
    refine aw_if_eq iX6_riddleFor_18 ?_ ?_
    · refine aw_ldc (v := (-1000001)) iX6_riddleFor_29 kcX6_66 ?_
      exact aw_iret iX6_riddleFor_31 rfl
    · refine aw_iload_n iX6_riddleFor_21 rfl rfl ?_
      refine aw_iconst (v := 2) iX6_riddleFor_22 (by decide) ?_
      refine aw_callS (M' := mX6_below) (As := [.inl a2, .inl (2 : Int32)]) iX6_riddleFor_23 lkX6_62 mcX6_below msX6_below rfl (kX6_below a2 (2 : Int32) g4) rfl (Nat.le_of_ble_eq_true rfl) ⟨Nat.le_of_ble_eq_true rfl, Nat.le_of_ble_eq_true rfl⟩ (fun r5 g6 => ?_)
      refine aw_if_ne iX6_riddleFor_26 ?_ ?_
      · refine aw_ldc (v := (-1000001)) iX6_riddleFor_29 kcX6_66 ?_
        exact aw_iret iX6_riddleFor_31 rfl
      · refine aw_aload_n iX6_riddleFor_32 rfl rfl ?_
        refine aw_getR (own := "") iX6_riddleFor_33 flX6_47 zlt0 zsh0 rfl ?_
        refine aw_aload_n iX6_riddleFor_36 rfl rfl ?_
        refine aw_getR (own := "") iX6_riddleFor_37 flX6_26 zlt0 zsh0 rfl ?_
        refine aw_iload_n iX6_riddleFor_40 rfl rfl ?_
        refine aw_iload_n iX6_riddleFor_41 rfl rfl ?_
        refine aw_iload_n iX6_riddleFor_42 rfl rfl ?_
        refine aw_callV (M' := mX3_riddleAgainst) (As := [.inr 7, .inl a0, .inl a1, .inl a2]) iX6_riddleFor_43 lkX6_212 mcX3_riddleAgainst mvX3_riddleAgainst rfl zrc55 (kX3_riddleAgainst a0 a1 a2 g6) rfl (Nat.le_of_ble_eq_true rfl) ⟨Nat.le_of_ble_eq_true rfl, Nat.le_of_ble_eq_true rfl⟩ (fun r7 g8 => ?_)
        exact aw_iret iX6_riddleFor_46 rfl
set_option maxRecDepth 20000 in
set_option maxHeartbeats 4000000 in
theorem kX6_riddleFor (a0 : Int32) (a1 : Int32) (a2 : Int32) (g : Mem) : CT mX6_riddleFor [.inr 0, .inl a0, .inl a1, .inl a2] g (fX6_riddleFor a0 a1 a2 g) := CT.of (nr := 0) (by decide +kernel) (Nat.le_of_ble_eq_true rfl) (Or.inr (Or.inl rfl)) (wX6_riddleFor a0 a1 a2 g)
set_option maxRecDepth 20000 in
set_option maxHeartbeats 4000000 in
theorem wX6_hard (a0 : Int32) (a1 : Int32) (g : Mem) : aw mX6_hard none 0 [some (.inr 0), some (.inl a0), some (.inl a1)] [] g (fX6_hard a0 a1 g) := by
  unfold fX6_hard
  refine aw_aload_n iX6_hard_0 rfl rfl ?_
  refine aw_getR (own := "") iX6_hard_1 flX6_26 zlt0 zsh0 rfl ?_
  refine aw_getI (own := "") iX6_hard_4 flX6_216 zlt7 zsh7 rfl ?_
  refine aw_if_ne iX6_hard_7 ?_ ?_
  · refine aw_ldc (v := (-1000002)) iX6_hard_10 kcX6_144 ?_
    exact aw_iret iX6_hard_12 rfl
  · refine aw_iload_n iX6_hard_13 rfl rfl ?_
    refine aw_callS (M' := mX2_isSort) (As := [.inl a0]) iX6_hard_14 lkX6_209 mcX2_isSort msX2_isSort rfl (kX2_isSort a0 g) rfl (Nat.le_of_ble_eq_true rfl) ⟨Nat.le_of_ble_eq_true rfl, Nat.le_of_ble_eq_true rfl⟩ (fun r1 g2 => ?_)
    refine aw_if_eq iX6_hard_17 ?_ ?_
    · refine aw_ldc (v := (-1000001)) iX6_hard_28 kcX6_66 ?_
      exact aw_iret iX6_hard_30 rfl
    · refine aw_iload_n iX6_hard_20 rfl rfl ?_
      refine aw_iconst (v := 2) iX6_hard_21 (by decide) ?_
      refine aw_callS (M' := mX6_below) (As := [.inl a1, .inl (2 : Int32)]) iX6_hard_22 lkX6_62 mcX6_below msX6_below rfl (kX6_below a1 (2 : Int32) g2) rfl (Nat.le_of_ble_eq_true rfl) ⟨Nat.le_of_ble_eq_true rfl, Nat.le_of_ble_eq_true rfl⟩ (fun r3 g4 => ?_)
      refine aw_if_ne iX6_hard_25 ?_ ?_
      · refine aw_ldc (v := (-1000001)) iX6_hard_28 kcX6_66 ?_
        exact aw_iret iX6_hard_30 rfl
      · refine aw_aload_n iX6_hard_31 rfl rfl ?_
        refine aw_getR (own := "") iX6_hard_32 flX6_47 zlt0 zsh0 rfl ?_
        refine aw_aload_n iX6_hard_35 rfl rfl ?_
        refine aw_getR (own := "") iX6_hard_36 flX6_26 zlt0 zsh0 rfl ?_
        refine aw_iload_n iX6_hard_39 rfl rfl ?_
        refine aw_iload_n iX6_hard_40 rfl rfl ?_
        refine aw_callV (M' := mX3_hardest) (As := [.inr 7, .inl a0, .inl a1]) iX6_hard_41 lkX6_220 mcX3_hardest mvX3_hardest rfl zrc55 (kX3_hardest a0 a1 g4) rfl (Nat.le_of_ble_eq_true rfl) ⟨Nat.le_of_ble_eq_true rfl, Nat.le_of_ble_eq_true rfl⟩ (fun r5 g6 => ?_)
        exact aw_iret iX6_hard_44 rfl
set_option maxRecDepth 20000 in
set_option maxHeartbeats 4000000 in
theorem kX6_hard (a0 : Int32) (a1 : Int32) (g : Mem) : CT mX6_hard [.inr 0, .inl a0, .inl a1] g (fX6_hard a0 a1 g) := CT.of (nr := 0) (by decide +kernel) (Nat.le_of_ble_eq_true rfl) (Or.inr (Or.inl rfl)) (wX6_hard a0 a1 g)
set_option maxRecDepth 20000 in
set_option maxHeartbeats 4000000 in
theorem wX6_chance (a0 : Int32) (a1 : Int32) (g : Mem) : aw mX6_chance none 0 [some (.inr 0), some (.inl a0), some (.inl a1)] [] g (fX6_chance a0 a1 g) := by
  unfold fX6_chance
  refine aw_iload_n iX6_chance_0 rfl rfl ?_
  refine aw_aload_n iX6_chance_1 rfl rfl ?_
  refine aw_getR (own := "") iX6_chance_2 flX6_26 zlt0 zsh0 rfl ?_
  refine aw_getI (own := "") iX6_chance_5 flX6_128 zlt7 zsh7 rfl ?_
  refine aw_callS (M' := mX6_below) (As := [.inl a0, .inl (g 7 10)]) iX6_chance_8 lkX6_62 mcX6_below msX6_below rfl (kX6_below a0 (g 7 10) g) rfl (Nat.le_of_ble_eq_true rfl) ⟨Nat.le_of_ble_eq_true rfl, Nat.le_of_ble_eq_true rfl⟩ (fun r1 g2 => ?_)
  refine aw_if_eq iX6_chance_11 ?_ ?_
  · refine aw_ldc (v := (-1000001)) iX6_chance_22 kcX6_66 ?_
    exact aw_iret iX6_chance_24 rfl
  · refine aw_iload_n iX6_chance_14 rfl rfl ?_
    refine aw_iconst (v := 2) iX6_chance_15 (by decide) ?_
    refine aw_callS (M' := mX6_below) (As := [.inl a1, .inl (2 : Int32)]) iX6_chance_16 lkX6_62 mcX6_below msX6_below rfl (kX6_below a1 (2 : Int32) g2) rfl (Nat.le_of_ble_eq_true rfl) ⟨Nat.le_of_ble_eq_true rfl, Nat.le_of_ble_eq_true rfl⟩ (fun r3 g4 => ?_)
    refine aw_if_ne iX6_chance_19 ?_ ?_
    · refine aw_ldc (v := (-1000001)) iX6_chance_22 kcX6_66 ?_
      exact aw_iret iX6_chance_24 rfl
    · refine aw_aload_n iX6_chance_25 rfl rfl ?_
      refine aw_getR (own := "") iX6_chance_26 flX6_26 zlt0 zsh0 rfl ?_
      refine aw_iload_n iX6_chance_29 rfl rfl ?_
      refine aw_callV (M' := mX2_comes) (As := [.inl a0]) iX6_chance_30 lkX6_134 mcX2_comes mvX2_comes rfl zrc7 (kX2_comes 7 (CO_of7) a0 g4) rfl (Nat.le_of_ble_eq_true rfl) ⟨Nat.le_of_ble_eq_true rfl, Nat.le_of_ble_eq_true rfl⟩ (fun r5 g6 => ?_)
      refine aw_if_ne iX6_chance_33 ?_ ?_
      · refine aw_ldc (v := (-1000002)) iX6_chance_36 kcX6_144 ?_
        exact aw_iret iX6_chance_38 rfl
      · refine aw_aload_n iX6_chance_39 rfl rfl ?_
        refine aw_getR (own := "") iX6_chance_40 flX6_47 zlt0 zsh0 rfl ?_
        refine aw_aload_n iX6_chance_43 rfl rfl ?_
        refine aw_getR (own := "") iX6_chance_44 flX6_26 zlt0 zsh0 rfl ?_
        refine aw_iload_n iX6_chance_47 rfl rfl ?_
        refine aw_iload_n iX6_chance_48 rfl rfl ?_
        refine aw_callV (M' := mX3_likelihood) (As := [.inr 7, .inl a0, .inl a1]) iX6_chance_49 lkX6_224 mcX3_likelihood mvX3_likelihood rfl zrc55 (kX3_likelihood a0 a1 g6) rfl (Nat.le_of_ble_eq_true rfl) ⟨Nat.le_of_ble_eq_true rfl, Nat.le_of_ble_eq_true rfl⟩ (fun r7 g8 => ?_)
        exact aw_iret iX6_chance_52 rfl
set_option maxRecDepth 20000 in
set_option maxHeartbeats 4000000 in
theorem kX6_chance (a0 : Int32) (a1 : Int32) (g : Mem) : CT mX6_chance [.inr 0, .inl a0, .inl a1] g (fX6_chance a0 a1 g) := CT.of (nr := 0) (by decide +kernel) (Nat.le_of_ble_eq_true rfl) (Or.inr (Or.inl rfl)) (wX6_chance a0 a1 g)
set_option maxRecDepth 20000 in
set_option maxHeartbeats 4000000 in
theorem wX6_toBuy (a0 : Int32) (a1 : Int32) (g : Mem) : aw mX6_toBuy none 0 [some (.inr 0), some (.inl a0), some (.inl a1), none] [] g (fX6_toBuy a0 a1 g) := by
  unfold fX6_toBuy
  refine aw_iload_n iX6_toBuy_0 rfl rfl ?_
  refine aw_aload_n iX6_toBuy_1 rfl rfl ?_
  refine aw_getR (own := "") iX6_toBuy_2 flX6_26 zlt0 zsh0 rfl ?_
  refine aw_getI (own := "") iX6_toBuy_5 flX6_128 zlt7 zsh7 rfl ?_
  refine aw_callS (M' := mX6_below) (As := [.inl a0, .inl (g 7 10)]) iX6_toBuy_8 lkX6_62 mcX6_below msX6_below rfl (kX6_below a0 (g 7 10) g) rfl (Nat.le_of_ble_eq_true rfl) ⟨Nat.le_of_ble_eq_true rfl, Nat.le_of_ble_eq_true rfl⟩ (fun r1 g2 => ?_)
  refine aw_if_eq iX6_toBuy_11 ?_ ?_
  · refine aw_ldc (v := (-1000001)) iX6_toBuy_22 kcX6_66 ?_
    exact aw_iret iX6_toBuy_24 rfl
  · refine aw_iload_n iX6_toBuy_14 rfl rfl ?_
    refine aw_iconst (v := 2) iX6_toBuy_15 (by decide) ?_
    refine aw_callS (M' := mX6_below) (As := [.inl a1, .inl (2 : Int32)]) iX6_toBuy_16 lkX6_62 mcX6_below msX6_below rfl (kX6_below a1 (2 : Int32) g2) rfl (Nat.le_of_ble_eq_true rfl) ⟨Nat.le_of_ble_eq_true rfl, Nat.le_of_ble_eq_true rfl⟩ (fun r3 g4 => ?_)
    refine aw_if_ne iX6_toBuy_19 ?_ ?_
    · refine aw_ldc (v := (-1000001)) iX6_toBuy_22 kcX6_66 ?_
      exact aw_iret iX6_toBuy_24 rfl
    · refine aw_aload_n iX6_toBuy_25 rfl rfl ?_
      refine aw_getR (own := "") iX6_toBuy_26 flX6_47 zlt0 zsh0 rfl ?_
      refine aw_aload_n iX6_toBuy_29 rfl rfl ?_
      refine aw_getR (own := "") iX6_toBuy_30 flX6_26 zlt0 zsh0 rfl ?_
      refine aw_iload_n iX6_toBuy_33 rfl rfl ?_
      refine aw_callV (M' := mX3_wanted) (As := [.inr 7, .inl a0]) iX6_toBuy_34 lkX6_227 mcX3_wanted mvX3_wanted rfl zrc55 (kX3_wanted a0 g4) rfl (Nat.le_of_ble_eq_true rfl) ⟨Nat.le_of_ble_eq_true rfl, Nat.le_of_ble_eq_true rfl⟩ (fun r5 g6 => ?_)
      refine aw_istore_n (L' := [some (.inr 0), some (.inl a0), some (.inl a1), some (.inl r5)]) iX6_toBuy_37 rfl (Nat.le_of_ble_eq_true rfl) rfl ?_
      refine aw_iload_n iX6_toBuy_38 rfl rfl ?_
      refine aw_if_ne iX6_toBuy_39 ?_ ?_
      · refine aw_iload_n iX6_toBuy_42 rfl rfl ?_
        refine aw_goto iX6_toBuy_43 ?_
        exact aw_iret iX6_toBuy_54 rfl
      · refine aw_aload_n iX6_toBuy_46 rfl rfl ?_
        refine aw_getR (own := "") iX6_toBuy_47 flX6_26 zlt0 zsh0 rfl ?_
        refine aw_iload_n iX6_toBuy_50 rfl rfl ?_
        refine aw_callV (M' := mX2_costOfAll) (As := [.inl r5]) iX6_toBuy_51 lkX6_231 mcX2_costOfAll mvX2_costOfAll rfl zrc7 (kX2_costOfAll 7 (CO_of7) r5 g6) rfl (Nat.le_of_ble_eq_true rfl) ⟨Nat.le_of_ble_eq_true rfl, Nat.le_of_ble_eq_true rfl⟩ (fun r7 g8 => ?_)
        exact aw_iret iX6_toBuy_54 rfl
set_option maxRecDepth 20000 in
set_option maxHeartbeats 4000000 in
theorem kX6_toBuy (a0 : Int32) (a1 : Int32) (g : Mem) : CT mX6_toBuy [.inr 0, .inl a0, .inl a1] g (fX6_toBuy a0 a1 g) := CT.of (nr := 1) (by decide +kernel) (Nat.le_of_ble_eq_true rfl) (Or.inr (Or.inl rfl)) (wX6_toBuy a0 a1 g)
set_option maxRecDepth 20000 in
set_option maxHeartbeats 4000000 in
theorem wX6_beats (g : Mem) : aw mX6_beats none 0 [some (.inr 0)] [] g (fX6_beats g) := by
  unfold fX6_beats
  refine aw_aload_n iX6_beats_0 rfl rfl ?_
  refine aw_getR (own := "") iX6_beats_1 flX6_26 zlt0 zsh0 rfl ?_
  refine aw_getI (own := "") iX6_beats_4 flX6_216 zlt7 zsh7 rfl ?_
  refine aw_if_eq iX6_beats_7 ?_ ?_
  · refine aw_ldc (v := (-1000002)) iX6_beats_24 kcX6_144 ?_
    exact aw_iret iX6_beats_26 rfl
  · refine aw_aload_n iX6_beats_10 rfl rfl ?_
    refine aw_getR (own := "") iX6_beats_11 flX6_47 zlt0 zsh0 rfl ?_
    refine aw_aload_n iX6_beats_14 rfl rfl ?_
    refine aw_getR (own := "") iX6_beats_15 flX6_26 zlt0 zsh0 rfl ?_
    refine aw_callV (M' := mX3_beating) (As := [.inr 7]) iX6_beats_18 lkX6_234 mcX3_beating mvX3_beating rfl zrc55 (kX3_beating g) rfl (Nat.le_of_ble_eq_true rfl) ⟨Nat.le_of_ble_eq_true rfl, Nat.le_of_ble_eq_true rfl⟩ (fun r1 g2 => ?_)
    refine aw_goto iX6_beats_21 ?_
    exact aw_iret iX6_beats_26 rfl
set_option maxRecDepth 20000 in
set_option maxHeartbeats 4000000 in
theorem kX6_beats (g : Mem) : CT mX6_beats [.inr 0] g (fX6_beats g) := CT.of (nr := 0) (by decide +kernel) (Nat.le_of_ble_eq_true rfl) (Or.inr (Or.inl rfl)) (wX6_beats g)
set_option maxRecDepth 20000 in
set_option maxHeartbeats 4000000 in
theorem wX6_tree (a0 : Int32) (a1 : Int32) (g : Mem) : aw mX6_tree none 0 [some (.inr 0), some (.inl a0), some (.inl a1)] [] g (fX6_tree a0 a1 g) := by
  unfold fX6_tree
  refine aw_aload_n iX6_tree_0 rfl rfl ?_
  refine aw_getR (own := "") iX6_tree_1 flX6_26 zlt0 zsh0 rfl ?_
  refine aw_getI (own := "") iX6_tree_4 flX6_216 zlt7 zsh7 rfl ?_
  refine aw_if_ne iX6_tree_7 ?_ ?_
  · refine aw_ldc (v := (-1000002)) iX6_tree_10 kcX6_144 ?_
    exact aw_iret iX6_tree_12 rfl
  · refine aw_iload_n iX6_tree_13 rfl rfl ?_
    refine aw_iconst (v := 1) iX6_tree_14 (by decide) ?_
    refine aw_aload_n iX6_tree_15 rfl rfl ?_
    refine aw_getR (own := "") iX6_tree_16 flX6_26 zlt0 zsh0 rfl ?_
    refine aw_getI (own := "") iX6_tree_19 flX6_159 zlt7 zsh7 rfl ?_
    refine aw_ishl iX6_tree_22 ?_
    refine aw_callS (M' := mX6_below) (As := [.inl a0, .inl ((1 : Int32) <<< ((g 7 3) &&& 31))]) iX6_tree_23 lkX6_62 mcX6_below msX6_below rfl (kX6_below a0 ((1 : Int32) <<< ((g 7 3) &&& 31)) g) rfl (Nat.le_of_ble_eq_true rfl) ⟨Nat.le_of_ble_eq_true rfl, Nat.le_of_ble_eq_true rfl⟩ (fun r1 g2 => ?_)
    refine aw_if_eq iX6_tree_26 ?_ ?_
    · refine aw_ldc (v := (-1000001)) iX6_tree_37 kcX6_66 ?_
      exact aw_iret iX6_tree_39 rfl
    · refine aw_iload_n iX6_tree_29 rfl rfl ?_
      refine aw_iconst (v := 2) iX6_tree_30 (by decide) ?_
      refine aw_callS (M' := mX6_below) (As := [.inl a1, .inl (2 : Int32)]) iX6_tree_31 lkX6_62 mcX6_below msX6_below rfl (kX6_below a1 (2 : Int32) g2) rfl (Nat.le_of_ble_eq_true rfl) ⟨Nat.le_of_ble_eq_true rfl, Nat.le_of_ble_eq_true rfl⟩ (fun r3 g4 => ?_)
      refine aw_if_ne iX6_tree_34 ?_ ?_
      · refine aw_ldc (v := (-1000001)) iX6_tree_37 kcX6_66 ?_
        exact aw_iret iX6_tree_39 rfl
      · refine aw_aload_n iX6_tree_40 rfl rfl ?_
        refine aw_getR (own := "") iX6_tree_41 flX6_47 zlt0 zsh0 rfl ?_
        refine aw_aload_n iX6_tree_44 rfl rfl ?_
        refine aw_getR (own := "") iX6_tree_45 flX6_26 zlt0 zsh0 rfl ?_
        refine aw_iload_n iX6_tree_48 rfl rfl ?_
        refine aw_iload_n iX6_tree_49 rfl rfl ?_
        refine aw_callV (M' := mX3_fewestQuestions) (As := [.inr 7, .inl a0, .inl a1]) iX6_tree_50 lkX6_238 mcX3_fewestQuestions mvX3_fewestQuestions rfl zrc55 (kX3_fewestQuestions a0 a1 g4) rfl (Nat.le_of_ble_eq_true rfl) ⟨Nat.le_of_ble_eq_true rfl, Nat.le_of_ble_eq_true rfl⟩ (fun r5 g6 => ?_)
        exact aw_iret iX6_tree_53 rfl
set_option maxRecDepth 20000 in
set_option maxHeartbeats 4000000 in
theorem kX6_tree (a0 : Int32) (a1 : Int32) (g : Mem) : CT mX6_tree [.inr 0, .inl a0, .inl a1] g (fX6_tree a0 a1 g) := CT.of (nr := 0) (by decide +kernel) (Nat.le_of_ble_eq_true rfl) (Or.inr (Or.inl rfl)) (wX6_tree a0 a1 g)
set_option maxRecDepth 20000 in
set_option maxHeartbeats 4000000 in
theorem wX6_said_L88 (l1 : Int32) (l2 : Int32) (l3 : Int32) (l4 : Int32) (l5 : Int32) (K : Int32 → Mem → Option (Int32 × Mem)) (hK : ∀ (l6 : Int32) (g : Mem), aw mX6_said none 154 [some (.inr 0), some (.inl l1), some (.inl l2), some (.inl l3), some (.inl l4), some (.inl l5), some (.inl l6)] [] g (K l6 g)) : ∀ (n : Nat) (l6 : Int32) (g : Mem), aw mX6_said none 88 [some (.inr 0), some (.inl l1), some (.inl l2), some (.inl l3), some (.inl l4), some (.inl l5), some (.inl l6)] [] g (fX6_said_L88 l1 l2 l3 l4 l5 K n l6 g) := by
  intro n
  induction n with
  | zero => intro l6 g; exact aw_none
  | succ n ih =>
    intro l6 g
    rw [fX6_said_L88]
    refine aw_iload iX6_said_88 rfl ?_
    refine aw_iload iX6_said_90 rfl ?_
    refine aw_icmp_ge iX6_said_92 ?_ ?_
    · exact hK l6 g
    · refine aw_aload_n iX6_said_95 rfl rfl ?_
      refine aw_getR (own := "") iX6_said_96 flX6_58 zlt0 zsh0 rfl ?_
      refine aw_iload iX6_said_99 rfl ?_
      refine aw_aload_n iX6_said_101 rfl rfl ?_
      refine aw_getR (own := "") iX6_said_102 flX6_10 zlt0 zsh0 rfl ?_
      refine aw_iload_n iX6_said_105 rfl rfl ?_
      refine aw_iload_n iX6_said_106 rfl rfl ?_
      refine aw_iload iX6_said_107 rfl ?_
      refine aw_iadd iX6_said_109 ?_
      refine aw_callV (M' := mX4_at) (As := [.inl l2, .inl (l3 + l6)]) iX6_said_110 lkX6_241 mcX4_at mvX4_at rfl zrc1 (kX4_at l2 (l3 + l6) g) rfl (Nat.le_of_ble_eq_true rfl) ⟨Nat.le_of_ble_eq_true rfl, Nat.le_of_ble_eq_true rfl⟩ (fun r13 g14 => ?_)
      refine aw_iast iX6_said_113 zlt60 zsh60 (fun g15 _ => ?_)
      refine aw_aload_n iX6_said_114 rfl rfl ?_
      refine aw_getR (own := "") iX6_said_115 flX6_58 zlt0 zsh0 rfl ?_
      refine aw_iload iX6_said_118 rfl ?_
      refine aw_iald iX6_said_120 zlt60 zsh60 (fun v16 _ => ?_)
      refine aw_iconst (v := (-1)) iX6_said_121 (by decide) ?_
      refine aw_icmp_eq iX6_said_122 ?_ ?_
      · refine aw_iinc (L' := [some (.inr 0), some (.inl l1), some (.inl l2), some (.inl l3), some (.inl l4), some (.inl l5), some (.inl (l6 + (1 : Int32)))]) (v := l6 + (1 : Int32)) iX6_said_148 rfl rfl (Nat.le_of_ble_eq_true rfl) rfl ?_
        refine aw_goto iX6_said_151 ?_
        exact ih (l6 + (1 : Int32)) g15
      · refine aw_aload_n iX6_said_125 rfl rfl ?_
        refine aw_getR (own := "") iX6_said_126 flX6_58 zlt0 zsh0 rfl ?_
        refine aw_iload iX6_said_129 rfl ?_
        refine aw_iald iX6_said_131 zlt60 zsh60 (fun v17 _ => ?_)
        refine aw_aload_n iX6_said_132 rfl rfl ?_
        refine aw_getR (own := "") iX6_said_133 flX6_26 zlt0 zsh0 rfl ?_
        refine aw_getI (own := "") iX6_said_136 flX6_159 zlt7 zsh7 rfl ?_
        refine aw_callS (M' := mX6_below) (As := [.inl v17, .inl (g15 7 3)]) iX6_said_139 lkX6_62 mcX6_below msX6_below rfl (kX6_below v17 (g15 7 3) g15) rfl (Nat.le_of_ble_eq_true rfl) ⟨Nat.le_of_ble_eq_true rfl, Nat.le_of_ble_eq_true rfl⟩ (fun r18 g19 => ?_)
        refine aw_if_ne iX6_said_142 ?_ ?_
        · refine aw_ldc (v := (-1000001)) iX6_said_145 kcX6_66 ?_
          exact aw_iret iX6_said_147 rfl
        · refine aw_iinc (L' := [some (.inr 0), some (.inl l1), some (.inl l2), some (.inl l3), some (.inl l4), some (.inl l5), some (.inl (l6 + (1 : Int32)))]) (v := l6 + (1 : Int32)) iX6_said_148 rfl rfl (Nat.le_of_ble_eq_true rfl) rfl ?_
          refine aw_goto iX6_said_151 ?_
          exact ih (l6 + (1 : Int32)) g19
set_option maxRecDepth 20000 in
set_option maxHeartbeats 4000000 in
theorem wX6_said (a0 : Int32) (a1 : Int32) (a2 : Int32) (a3 : Int32) (a4 : Int32) (g : Mem) : aw mX6_said none 0 [some (.inr 0), some (.inl a0), some (.inl a1), some (.inl a2), some (.inl a3), some (.inl a4), none] [] g (fX6_said a0 a1 a2 a3 a4 g) := by
  unfold fX6_said
  refine aw_iload_n iX6_said_0 rfl rfl ?_
  refine aw_aload_n iX6_said_1 rfl rfl ?_
  refine aw_getR (own := "") iX6_said_2 flX6_26 zlt0 zsh0 rfl ?_
  refine aw_getI (own := "") iX6_said_5 flX6_128 zlt7 zsh7 rfl ?_
  refine aw_callS (M' := mX6_below) (As := [.inl a0, .inl (g 7 10)]) iX6_said_8 lkX6_62 mcX6_below msX6_below rfl (kX6_below a0 (g 7 10) g) rfl (Nat.le_of_ble_eq_true rfl) ⟨Nat.le_of_ble_eq_true rfl, Nat.le_of_ble_eq_true rfl⟩ (fun r1 g2 => ?_)
  refine aw_if_eq iX6_said_11 ?_ ?_
  · refine aw_ldc (v := (-1000001)) iX6_said_45 kcX6_66 ?_
    exact aw_iret iX6_said_47 rfl
  · refine aw_iload_n iX6_said_14 rfl rfl ?_
    refine aw_bipush (v := 8) iX6_said_15 (by decide) ?_
    refine aw_callS (M' := mX6_below) (As := [.inl a1, .inl (8 : Int32)]) iX6_said_17 lkX6_62 mcX6_below msX6_below rfl (kX6_below a1 (8 : Int32) g2) rfl (Nat.le_of_ble_eq_true rfl) ⟨Nat.le_of_ble_eq_true rfl, Nat.le_of_ble_eq_true rfl⟩ (fun r3 g4 => ?_)
    refine aw_if_eq iX6_said_20 ?_ ?_
    · refine aw_ldc (v := (-1000001)) iX6_said_45 kcX6_66 ?_
      exact aw_iret iX6_said_47 rfl
    · refine aw_iload iX6_said_23 rfl ?_
      refine aw_iconst (v := 1) iX6_said_25 (by decide) ?_
      refine aw_icmp_lt iX6_said_26 ?_ ?_
      · refine aw_ldc (v := (-1000001)) iX6_said_45 kcX6_66 ?_
        exact aw_iret iX6_said_47 rfl
      · refine aw_iload iX6_said_29 rfl ?_
        refine aw_bipush (v := 6) iX6_said_31 (by decide) ?_
        refine aw_icmp_gt iX6_said_33 ?_ ?_
        · refine aw_ldc (v := (-1000001)) iX6_said_45 kcX6_66 ?_
          exact aw_iret iX6_said_47 rfl
        · refine aw_iload iX6_said_36 rfl ?_
          refine aw_iconst (v := 2) iX6_said_38 (by decide) ?_
          refine aw_callS (M' := mX6_below) (As := [.inl a4, .inl (2 : Int32)]) iX6_said_39 lkX6_62 mcX6_below msX6_below rfl (kX6_below a4 (2 : Int32) g4) rfl (Nat.le_of_ble_eq_true rfl) ⟨Nat.le_of_ble_eq_true rfl, Nat.le_of_ble_eq_true rfl⟩ (fun r5 g6 => ?_)
          refine aw_if_ne iX6_said_42 ?_ ?_
          · refine aw_ldc (v := (-1000001)) iX6_said_45 kcX6_66 ?_
            exact aw_iret iX6_said_47 rfl
          · refine aw_aload_n iX6_said_48 rfl rfl ?_
            refine aw_getR (own := "") iX6_said_49 flX6_10 zlt0 zsh0 rfl ?_
            refine aw_iload_n iX6_said_52 rfl rfl ?_
            refine aw_callV (M' := mX4_isMissing) (As := [.inl a1]) iX6_said_53 lkX6_78 mcX4_isMissing mvX4_isMissing rfl zrc1 (kX4_isMissing a1 g6) rfl (Nat.le_of_ble_eq_true rfl) ⟨Nat.le_of_ble_eq_true rfl, Nat.le_of_ble_eq_true rfl⟩ (fun r7 g8 => ?_)
            refine aw_if_eq iX6_said_56 ?_ ?_
            · refine aw_aload_n iX6_said_65 rfl rfl ?_
              refine aw_getR (own := "") iX6_said_66 flX6_10 zlt0 zsh0 rfl ?_
              refine aw_iload_n iX6_said_69 rfl rfl ?_
              refine aw_iload_n iX6_said_70 rfl rfl ?_
              refine aw_iload iX6_said_71 rfl ?_
              refine aw_callV (M' := mX4_hasPlaces) (As := [.inl a1, .inl a2, .inl a3]) iX6_said_73 lkX6_82 mcX4_hasPlaces mvX4_hasPlaces rfl zrc1 (kX4_hasPlaces a1 a2 a3 g8) rfl (Nat.le_of_ble_eq_true rfl) ⟨Nat.le_of_ble_eq_true rfl, Nat.le_of_ble_eq_true rfl⟩ (fun r9 g10 => ?_)
              refine aw_if_ne iX6_said_76 ?_ ?_
              · refine aw_aload_n iX6_said_79 rfl rfl ?_
                refine aw_iconst (v := 2) iX6_said_80 (by decide) ?_
                refine aw_callV (M' := mX6_found) (As := [.inl (2 : Int32)]) iX6_said_81 lkX6_67 mcX6_found mvX6_found rfl zrc0 (kX6_found (2 : Int32) g10) rfl (Nat.le_of_ble_eq_true rfl) ⟨Nat.le_of_ble_eq_true rfl, Nat.le_of_ble_eq_true rfl⟩ (fun r11 g12 => ?_)
                exact aw_iret iX6_said_84 rfl
              · refine aw_iconst (v := 0) iX6_said_85 (by decide) ?_
                refine aw_istore (L' := [some (.inr 0), some (.inl a0), some (.inl a1), some (.inl a2), some (.inl a3), some (.inl a4), some (.inl (0 : Int32))]) iX6_said_86 (Nat.le_of_ble_eq_true rfl) rfl ?_
                refine wX6_said_L88 a0 a1 a2 a3 a4 _ (fun l20 g21 => ?_) FU (0 : Int32) g10
                refine aw_aload_n iX6_said_154 rfl rfl ?_
                refine aw_aload_n iX6_said_155 rfl rfl ?_
                refine aw_getR (own := "") iX6_said_156 flX6_47 zlt0 zsh0 rfl ?_
                refine aw_aload_n iX6_said_159 rfl rfl ?_
                refine aw_getR (own := "") iX6_said_160 flX6_26 zlt0 zsh0 rfl ?_
                refine aw_iload_n iX6_said_163 rfl rfl ?_
                refine aw_aload_n iX6_said_164 rfl rfl ?_
                refine aw_getR (own := "") iX6_said_165 flX6_58 zlt0 zsh0 rfl ?_
                refine aw_iload iX6_said_168 rfl ?_
                refine aw_iload iX6_said_170 rfl ?_
                refine aw_callV (M' := mX3_riddlesHeard) (As := [.inr 7, .inl a0, .inr 60, .inl a3, .inl a4]) iX6_said_172 lkX6_244 mcX3_riddlesHeard mvX3_riddlesHeard rfl zrc55 (kX3_riddlesHeard a0 60 6 zlt60 zsh60 a3 a4 g21) rfl (Nat.le_of_ble_eq_true rfl) ⟨Nat.le_of_ble_eq_true rfl, Nat.le_of_ble_eq_true rfl⟩ (fun r22 g23 => ?_)
                refine aw_callV (M' := mX6_clean) (As := [.inl r22]) iX6_said_175 lkX6_75 mcX6_clean mvX6_clean rfl zrc0 (kX6_clean r22 g23) rfl (Nat.le_of_ble_eq_true rfl) ⟨Nat.le_of_ble_eq_true rfl, Nat.le_of_ble_eq_true rfl⟩ (fun r24 g25 => ?_)
                exact aw_iret iX6_said_178 rfl
            · refine aw_aload_n iX6_said_59 rfl rfl ?_
              refine aw_iconst (v := 1) iX6_said_60 (by decide) ?_
              refine aw_callV (M' := mX6_found) (As := [.inl (1 : Int32)]) iX6_said_61 lkX6_67 mcX6_found mvX6_found rfl zrc0 (kX6_found (1 : Int32) g8) rfl (Nat.le_of_ble_eq_true rfl) ⟨Nat.le_of_ble_eq_true rfl, Nat.le_of_ble_eq_true rfl⟩ (fun r26 g27 => ?_)
              exact aw_iret iX6_said_64 rfl
set_option maxRecDepth 20000 in
set_option maxHeartbeats 4000000 in
theorem kX6_said (a0 : Int32) (a1 : Int32) (a2 : Int32) (a3 : Int32) (a4 : Int32) (g : Mem) : CT mX6_said [.inr 0, .inl a0, .inl a1, .inl a2, .inl a3, .inl a4] g (fX6_said a0 a1 a2 a3 a4 g) := CT.of (nr := 1) (by decide +kernel) (Nat.le_of_ble_eq_true rfl) (Or.inr (Or.inl rfl)) (wX6_said a0 a1 a2 a3 a4 g)
set_option maxRecDepth 20000 in
set_option maxHeartbeats 4000000 in
theorem wX6_image (a0 : Int32) (g : Mem) : aw mX6_image none 0 [some (.inr 0), some (.inl a0)] [] g (fX6_image a0 g) := by
  unfold fX6_image
  refine aw_iload_n iX6_image_0 rfl rfl ?_
  refine aw_iconst (v := 2) iX6_image_1 (by decide) ?_
  refine aw_callS (M' := mX6_below) (As := [.inl a0, .inl (2 : Int32)]) iX6_image_2 lkX6_62 mcX6_below msX6_below rfl (kX6_below a0 (2 : Int32) g) rfl (Nat.le_of_ble_eq_true rfl) ⟨Nat.le_of_ble_eq_true rfl, Nat.le_of_ble_eq_true rfl⟩ (fun r1 g2 => ?_)
  refine aw_if_ne iX6_image_5 ?_ ?_
  · refine aw_ldc (v := (-1000001)) iX6_image_8 kcX6_66 ?_
    exact aw_iret iX6_image_10 rfl
  · refine aw_aload_n iX6_image_11 rfl rfl ?_
    refine aw_getR (own := "") iX6_image_12 flX6_26 zlt0 zsh0 rfl ?_
    refine aw_getI (own := "") iX6_image_15 flX6_216 zlt7 zsh7 rfl ?_
    refine aw_if_ne iX6_image_18 ?_ ?_
    · refine aw_ldc (v := (-1000002)) iX6_image_21 kcX6_144 ?_
      exact aw_iret iX6_image_23 rfl
    · refine aw_aload_n iX6_image_24 rfl rfl ?_
      refine aw_getR (own := "") iX6_image_25 flX6_33 zlt0 zsh0 rfl ?_
      refine aw_iload_n iX6_image_28 rfl rfl ?_
      refine aw_aald iX6_image_29 zlt27 zsh27 ?_ ?_
      · refine aw_aload_n iX6_image_30 rfl rfl ?_
        refine aw_getR (own := "") iX6_image_31 flX6_26 zlt0 zsh0 rfl ?_
        refine aw_callVv (M' := mX2_become) (As := [.inr 7]) iX6_image_34 lkX6_121 mcX2_become mvX2_become rfl zrc28 (kX2_become 28 (CO_of28) 7 (CO_of7) g2) rfl (Nat.le_of_ble_eq_true rfl) ⟨Nat.le_of_ble_eq_true rfl, Nat.le_of_ble_eq_true rfl⟩ (fun r3 g4 => ?_)
        refine aw_iconst (v := 1) iX6_image_37 (by decide) ?_
        exact aw_iret iX6_image_38 rfl
      · refine aw_aload_n iX6_image_30 rfl rfl ?_
        refine aw_getR (own := "") iX6_image_31 flX6_26 zlt0 zsh0 rfl ?_
        refine aw_callVv (M' := mX2_become) (As := [.inr 7]) iX6_image_34 lkX6_121 mcX2_become mvX2_become rfl zrc38 (kX2_become 38 (CO_of38) 7 (CO_of7) g2) rfl (Nat.le_of_ble_eq_true rfl) ⟨Nat.le_of_ble_eq_true rfl, Nat.le_of_ble_eq_true rfl⟩ (fun r5 g6 => ?_)
        refine aw_iconst (v := 1) iX6_image_37 (by decide) ?_
        exact aw_iret iX6_image_38 rfl
set_option maxRecDepth 20000 in
set_option maxHeartbeats 4000000 in
theorem kX6_image (a0 : Int32) (g : Mem) : CT mX6_image [.inr 0, .inl a0] g (fX6_image a0 g) := CT.of (nr := 0) (by decide +kernel) (Nat.le_of_ble_eq_true rfl) (Or.inr (Or.inl rfl)) (wX6_image a0 g)
set_option maxRecDepth 20000 in
set_option maxHeartbeats 4000000 in
theorem wX6_restore (a0 : Int32) (g : Mem) : aw mX6_restore none 0 [some (.inr 0), some (.inl a0)] [] g (fX6_restore a0 g) := by
  unfold fX6_restore
  refine aw_iload_n iX6_restore_0 rfl rfl ?_
  refine aw_iconst (v := 2) iX6_restore_1 (by decide) ?_
  refine aw_callS (M' := mX6_below) (As := [.inl a0, .inl (2 : Int32)]) iX6_restore_2 lkX6_62 mcX6_below msX6_below rfl (kX6_below a0 (2 : Int32) g) rfl (Nat.le_of_ble_eq_true rfl) ⟨Nat.le_of_ble_eq_true rfl, Nat.le_of_ble_eq_true rfl⟩ (fun r1 g2 => ?_)
  refine aw_if_ne iX6_restore_5 ?_ ?_
  · refine aw_ldc (v := (-1000001)) iX6_restore_8 kcX6_66 ?_
    exact aw_iret iX6_restore_10 rfl
  · refine aw_aload_n iX6_restore_11 rfl rfl ?_
    refine aw_getR (own := "") iX6_restore_12 flX6_33 zlt0 zsh0 rfl ?_
    refine aw_iload_n iX6_restore_15 rfl rfl ?_
    refine aw_aald iX6_restore_16 zlt27 zsh27 ?_ ?_
    · refine aw_getI (own := "") iX6_restore_17 flX6_216 zlt28 zsh28 rfl ?_
      refine aw_if_ne iX6_restore_20 ?_ ?_
      · refine aw_ldc (v := (-1000002)) iX6_restore_23 kcX6_144 ?_
        exact aw_iret iX6_restore_25 rfl
      · refine aw_aload_n iX6_restore_26 rfl rfl ?_
        refine aw_getR (own := "") iX6_restore_27 flX6_26 zlt0 zsh0 rfl ?_
        refine aw_aload_n iX6_restore_30 rfl rfl ?_
        refine aw_getR (own := "") iX6_restore_31 flX6_33 zlt0 zsh0 rfl ?_
        refine aw_iload_n iX6_restore_34 rfl rfl ?_
        refine aw_aald iX6_restore_35 zlt27 zsh27 ?_ ?_
        · refine aw_callVv (M' := mX2_become) (As := [.inr 28]) iX6_restore_36 lkX6_121 mcX2_become mvX2_become rfl zrc7 (kX2_become 7 (CO_of7) 28 (CO_of28) g2) rfl (Nat.le_of_ble_eq_true rfl) ⟨Nat.le_of_ble_eq_true rfl, Nat.le_of_ble_eq_true rfl⟩ (fun r3 g4 => ?_)
          refine aw_aload_n iX6_restore_39 rfl rfl ?_
          refine aw_getR (own := "") iX6_restore_40 flX6_40 zlt0 zsh0 rfl ?_
          refine aw_callVv (M' := mX0_forget) (As := []) iX6_restore_43 lkX6_125 mcX0_forget mvX0_forget rfl zrc48 (kX0_forget g4) rfl (Nat.le_of_ble_eq_true rfl) ⟨Nat.le_of_ble_eq_true rfl, Nat.le_of_ble_eq_true rfl⟩ (fun r5 g6 => ?_)
          refine aw_iconst (v := 1) iX6_restore_46 (by decide) ?_
          exact aw_iret iX6_restore_47 rfl
        · refine aw_callVv (M' := mX2_become) (As := [.inr 38]) iX6_restore_36 lkX6_121 mcX2_become mvX2_become rfl zrc7 (kX2_become 7 (CO_of7) 38 (CO_of38) g2) rfl (Nat.le_of_ble_eq_true rfl) ⟨Nat.le_of_ble_eq_true rfl, Nat.le_of_ble_eq_true rfl⟩ (fun r7 g8 => ?_)
          refine aw_aload_n iX6_restore_39 rfl rfl ?_
          refine aw_getR (own := "") iX6_restore_40 flX6_40 zlt0 zsh0 rfl ?_
          refine aw_callVv (M' := mX0_forget) (As := []) iX6_restore_43 lkX6_125 mcX0_forget mvX0_forget rfl zrc48 (kX0_forget g8) rfl (Nat.le_of_ble_eq_true rfl) ⟨Nat.le_of_ble_eq_true rfl, Nat.le_of_ble_eq_true rfl⟩ (fun r9 g10 => ?_)
          refine aw_iconst (v := 1) iX6_restore_46 (by decide) ?_
          exact aw_iret iX6_restore_47 rfl
    · refine aw_getI (own := "") iX6_restore_17 flX6_216 zlt38 zsh38 rfl ?_
      refine aw_if_ne iX6_restore_20 ?_ ?_
      · refine aw_ldc (v := (-1000002)) iX6_restore_23 kcX6_144 ?_
        exact aw_iret iX6_restore_25 rfl
      · refine aw_aload_n iX6_restore_26 rfl rfl ?_
        refine aw_getR (own := "") iX6_restore_27 flX6_26 zlt0 zsh0 rfl ?_
        refine aw_aload_n iX6_restore_30 rfl rfl ?_
        refine aw_getR (own := "") iX6_restore_31 flX6_33 zlt0 zsh0 rfl ?_
        refine aw_iload_n iX6_restore_34 rfl rfl ?_
        refine aw_aald iX6_restore_35 zlt27 zsh27 ?_ ?_
        · refine aw_callVv (M' := mX2_become) (As := [.inr 28]) iX6_restore_36 lkX6_121 mcX2_become mvX2_become rfl zrc7 (kX2_become 7 (CO_of7) 28 (CO_of28) g2) rfl (Nat.le_of_ble_eq_true rfl) ⟨Nat.le_of_ble_eq_true rfl, Nat.le_of_ble_eq_true rfl⟩ (fun r11 g12 => ?_)
          refine aw_aload_n iX6_restore_39 rfl rfl ?_
          refine aw_getR (own := "") iX6_restore_40 flX6_40 zlt0 zsh0 rfl ?_
          refine aw_callVv (M' := mX0_forget) (As := []) iX6_restore_43 lkX6_125 mcX0_forget mvX0_forget rfl zrc48 (kX0_forget g12) rfl (Nat.le_of_ble_eq_true rfl) ⟨Nat.le_of_ble_eq_true rfl, Nat.le_of_ble_eq_true rfl⟩ (fun r13 g14 => ?_)
          refine aw_iconst (v := 1) iX6_restore_46 (by decide) ?_
          exact aw_iret iX6_restore_47 rfl
        · refine aw_callVv (M' := mX2_become) (As := [.inr 38]) iX6_restore_36 lkX6_121 mcX2_become mvX2_become rfl zrc7 (kX2_become 7 (CO_of7) 38 (CO_of38) g2) rfl (Nat.le_of_ble_eq_true rfl) ⟨Nat.le_of_ble_eq_true rfl, Nat.le_of_ble_eq_true rfl⟩ (fun r15 g16 => ?_)
          refine aw_aload_n iX6_restore_39 rfl rfl ?_
          refine aw_getR (own := "") iX6_restore_40 flX6_40 zlt0 zsh0 rfl ?_
          refine aw_callVv (M' := mX0_forget) (As := []) iX6_restore_43 lkX6_125 mcX0_forget mvX0_forget rfl zrc48 (kX0_forget g16) rfl (Nat.le_of_ble_eq_true rfl) ⟨Nat.le_of_ble_eq_true rfl, Nat.le_of_ble_eq_true rfl⟩ (fun r17 g18 => ?_)
          refine aw_iconst (v := 1) iX6_restore_46 (by decide) ?_
          exact aw_iret iX6_restore_47 rfl
set_option maxRecDepth 20000 in
set_option maxHeartbeats 4000000 in
theorem kX6_restore (a0 : Int32) (g : Mem) : CT mX6_restore [.inr 0, .inl a0] g (fX6_restore a0 g) := CT.of (nr := 0) (by decide +kernel) (Nat.le_of_ble_eq_true rfl) (Or.inr (Or.inl rfl)) (wX6_restore a0 g)
set_option maxRecDepth 20000 in
set_option maxHeartbeats 4000000 in
theorem wX6_kind (a0 : Int32) (g : Mem) : aw mX6_kind none 0 [some (.inr 0), some (.inl a0)] [] g (fX6_kind a0 g) := by
  unfold fX6_kind
  refine aw_iload_n iX6_kind_0 rfl rfl ?_
  refine aw_aload_n iX6_kind_1 rfl rfl ?_
  refine aw_getR (own := "") iX6_kind_2 flX6_26 zlt0 zsh0 rfl ?_
  refine aw_getI (own := "") iX6_kind_5 flX6_131 zlt7 zsh7 rfl ?_
  refine aw_callS (M' := mX6_below) (As := [.inl a0, .inl (g 7 5)]) iX6_kind_8 lkX6_62 mcX6_below msX6_below rfl (kX6_below a0 (g 7 5) g) rfl (Nat.le_of_ble_eq_true rfl) ⟨Nat.le_of_ble_eq_true rfl, Nat.le_of_ble_eq_true rfl⟩ (fun r1 g2 => ?_)
  refine aw_if_eq iX6_kind_11 ?_ ?_
  · refine aw_ldc (v := (-1000001)) iX6_kind_26 kcX6_66 ?_
    exact aw_iret iX6_kind_28 rfl
  · refine aw_aload_n iX6_kind_14 rfl rfl ?_
    refine aw_getR (own := "") iX6_kind_15 flX6_26 zlt0 zsh0 rfl ?_
    refine aw_getR (own := "") iX6_kind_18 flX6_248 zlt7 zsh7 rfl ?_
    refine aw_iload_n iX6_kind_21 rfl rfl ?_
    refine aw_iald iX6_kind_22 zlt9 zsh9 (fun v3 _ => ?_)
    refine aw_goto iX6_kind_23 ?_
    exact aw_iret iX6_kind_28 rfl
set_option maxRecDepth 20000 in
set_option maxHeartbeats 4000000 in
theorem kX6_kind (a0 : Int32) (g : Mem) : CT mX6_kind [.inr 0, .inl a0] g (fX6_kind a0 g) := CT.of (nr := 0) (by decide +kernel) (Nat.le_of_ble_eq_true rfl) (Or.inr (Or.inl rfl)) (wX6_kind a0 g)
set_option maxRecDepth 20000 in
set_option maxHeartbeats 4000000 in
theorem wX6_as (a0 : Int32) (a1 : Int32) (g : Mem) : aw mX6_as none 0 [some (.inr 0), some (.inl a0), some (.inl a1)] [] g (fX6_as a0 a1 g) := by
  unfold fX6_as
  refine aw_iload_n iX6_as_0 rfl rfl ?_
  refine aw_aload_n iX6_as_1 rfl rfl ?_
  refine aw_getR (own := "") iX6_as_2 flX6_26 zlt0 zsh0 rfl ?_
  refine aw_getI (own := "") iX6_as_5 flX6_131 zlt7 zsh7 rfl ?_
  refine aw_callS (M' := mX6_below) (As := [.inl a0, .inl (g 7 5)]) iX6_as_8 lkX6_62 mcX6_below msX6_below rfl (kX6_below a0 (g 7 5) g) rfl (Nat.le_of_ble_eq_true rfl) ⟨Nat.le_of_ble_eq_true rfl, Nat.le_of_ble_eq_true rfl⟩ (fun r1 g2 => ?_)
  refine aw_if_eq iX6_as_11 ?_ ?_
  · refine aw_ldc (v := (-1000001)) iX6_as_23 kcX6_66 ?_
    exact aw_iret iX6_as_25 rfl
  · refine aw_iload_n iX6_as_14 rfl rfl ?_
    refine aw_bipush (v := 6) iX6_as_15 (by decide) ?_
    refine aw_callS (M' := mX6_below) (As := [.inl a1, .inl (6 : Int32)]) iX6_as_17 lkX6_62 mcX6_below msX6_below rfl (kX6_below a1 (6 : Int32) g2) rfl (Nat.le_of_ble_eq_true rfl) ⟨Nat.le_of_ble_eq_true rfl, Nat.le_of_ble_eq_true rfl⟩ (fun r3 g4 => ?_)
    refine aw_if_ne iX6_as_20 ?_ ?_
    · refine aw_ldc (v := (-1000001)) iX6_as_23 kcX6_66 ?_
      exact aw_iret iX6_as_25 rfl
    · refine aw_aload_n iX6_as_26 rfl rfl ?_
      refine aw_getR (own := "") iX6_as_27 flX6_26 zlt0 zsh0 rfl ?_
      refine aw_getR (own := "") iX6_as_30 flX6_248 zlt7 zsh7 rfl ?_
      refine aw_iload_n iX6_as_33 rfl rfl ?_
      refine aw_iald iX6_as_34 zlt9 zsh9 (fun v5 _ => ?_)
      refine aw_iload_n iX6_as_35 rfl rfl ?_
      refine aw_callS (M' := mX2_isOfKind) (As := [.inl v5, .inl a1]) iX6_as_36 lkX6_251 mcX2_isOfKind msX2_isOfKind rfl (kX2_isOfKind v5 a1 g4) rfl (Nat.le_of_ble_eq_true rfl) ⟨Nat.le_of_ble_eq_true rfl, Nat.le_of_ble_eq_true rfl⟩ (fun r6 g7 => ?_)
      refine aw_if_eq iX6_as_39 ?_ ?_
      · refine aw_aload_n iX6_as_50 rfl rfl ?_
        refine aw_iconst (v := 3) iX6_as_51 (by decide) ?_
        refine aw_callV (M' := mX6_found) (As := [.inl (3 : Int32)]) iX6_as_52 lkX6_67 mcX6_found mvX6_found rfl zrc0 (kX6_found (3 : Int32) g7) rfl (Nat.le_of_ble_eq_true rfl) ⟨Nat.le_of_ble_eq_true rfl, Nat.le_of_ble_eq_true rfl⟩ (fun r8 g9 => ?_)
        exact aw_iret iX6_as_55 rfl
      · refine aw_aload_n iX6_as_42 rfl rfl ?_
        refine aw_iload_n iX6_as_43 rfl rfl ?_
        refine aw_callV (M' := mX6_clean) (As := [.inl a0]) iX6_as_44 lkX6_75 mcX6_clean mvX6_clean rfl zrc0 (kX6_clean a0 g7) rfl (Nat.le_of_ble_eq_true rfl) ⟨Nat.le_of_ble_eq_true rfl, Nat.le_of_ble_eq_true rfl⟩ (fun r10 g11 => ?_)
        refine aw_goto iX6_as_47 ?_
        exact aw_iret iX6_as_55 rfl
set_option maxRecDepth 20000 in
set_option maxHeartbeats 4000000 in
theorem kX6_as (a0 : Int32) (a1 : Int32) (g : Mem) : CT mX6_as [.inr 0, .inl a0, .inl a1] g (fX6_as a0 a1 g) := CT.of (nr := 0) (by decide +kernel) (Nat.le_of_ble_eq_true rfl) (Or.inr (Or.inl rfl)) (wX6_as a0 a1 g)
set_option maxRecDepth 20000 in
set_option maxHeartbeats 4000000 in
theorem wX6_ask (a0 : Int32) (a1 : Int32) (g : Mem) : aw mX6_ask none 0 [some (.inr 0), some (.inl a0), some (.inl a1)] [] g (fX6_ask a0 a1 g) := by
  unfold fX6_ask
  refine aw_iload_n iX6_ask_0 rfl rfl ?_
  refine aw_aload_n iX6_ask_1 rfl rfl ?_
  refine aw_getR (own := "") iX6_ask_2 flX6_26 zlt0 zsh0 rfl ?_
  refine aw_getI (own := "") iX6_ask_5 flX6_131 zlt7 zsh7 rfl ?_
  refine aw_callS (M' := mX6_below) (As := [.inl a0, .inl (g 7 5)]) iX6_ask_8 lkX6_62 mcX6_below msX6_below rfl (kX6_below a0 (g 7 5) g) rfl (Nat.le_of_ble_eq_true rfl) ⟨Nat.le_of_ble_eq_true rfl, Nat.le_of_ble_eq_true rfl⟩ (fun r1 g2 => ?_)
  refine aw_if_eq iX6_ask_11 ?_ ?_
  · refine aw_ldc (v := (-1000001)) iX6_ask_22 kcX6_66 ?_
    exact aw_iret iX6_ask_24 rfl
  · refine aw_iload_n iX6_ask_14 rfl rfl ?_
    refine aw_iconst (v := 2) iX6_ask_15 (by decide) ?_
    refine aw_callS (M' := mX6_below) (As := [.inl a1, .inl (2 : Int32)]) iX6_ask_16 lkX6_62 mcX6_below msX6_below rfl (kX6_below a1 (2 : Int32) g2) rfl (Nat.le_of_ble_eq_true rfl) ⟨Nat.le_of_ble_eq_true rfl, Nat.le_of_ble_eq_true rfl⟩ (fun r3 g4 => ?_)
    refine aw_if_ne iX6_ask_19 ?_ ?_
    · refine aw_ldc (v := (-1000001)) iX6_ask_22 kcX6_66 ?_
      exact aw_iret iX6_ask_24 rfl
    · refine aw_aload_n iX6_ask_25 rfl rfl ?_
      refine aw_getR (own := "") iX6_ask_26 flX6_54 zlt0 zsh0 rfl ?_
      refine aw_aload_n iX6_ask_29 rfl rfl ?_
      refine aw_getR (own := "") iX6_ask_30 flX6_26 zlt0 zsh0 rfl ?_
      refine aw_iload_n iX6_ask_33 rfl rfl ?_
      refine aw_iload_n iX6_ask_34 rfl rfl ?_
      refine aw_callV (M' := mX1_begin) (As := [.inr 7, .inl a0, .inl a1]) iX6_ask_35 lkX6_254 mcX1_begin mvX1_begin rfl zrc58 (kX1_begin a0 a1 g4) rfl (Nat.le_of_ble_eq_true rfl) ⟨Nat.le_of_ble_eq_true rfl, Nat.le_of_ble_eq_true rfl⟩ (fun r5 g6 => ?_)
      exact aw_iret iX6_ask_38 rfl
set_option maxRecDepth 20000 in
set_option maxHeartbeats 4000000 in
theorem kX6_ask (a0 : Int32) (a1 : Int32) (g : Mem) : CT mX6_ask [.inr 0, .inl a0, .inl a1] g (fX6_ask a0 a1 g) := CT.of (nr := 0) (by decide +kernel) (Nat.le_of_ble_eq_true rfl) (Or.inr (Or.inl rfl)) (wX6_ask a0 a1 g)
set_option maxRecDepth 20000 in
set_option maxHeartbeats 4000000 in
theorem wX6_trace (a0 : Int32) (g : Mem) : aw mX6_trace none 0 [some (.inr 0), some (.inl a0)] [] g (fX6_trace a0 g) := by
  unfold fX6_trace
  refine aw_aload_n iX6_trace_0 rfl rfl ?_
  refine aw_getR (own := "") iX6_trace_1 flX6_54 zlt0 zsh0 rfl ?_
  refine aw_iload_n iX6_trace_4 rfl rfl ?_
  refine aw_callV (M' := mX1_left) (As := [.inl a0]) iX6_trace_5 lkX6_257 mcX1_left mvX1_left rfl zrc58 (kX1_left a0 g) rfl (Nat.le_of_ble_eq_true rfl) ⟨Nat.le_of_ble_eq_true rfl, Nat.le_of_ble_eq_true rfl⟩ (fun r1 g2 => ?_)
  exact aw_iret iX6_trace_8 rfl
set_option maxRecDepth 20000 in
set_option maxHeartbeats 4000000 in
theorem kX6_trace (a0 : Int32) (g : Mem) : CT mX6_trace [.inr 0, .inl a0] g (fX6_trace a0 g) := CT.of (nr := 0) (by decide +kernel) (Nat.le_of_ble_eq_true rfl) (Or.inr (Or.inl rfl)) (wX6_trace a0 g)
set_option maxRecDepth 20000 in
set_option maxHeartbeats 4000000 in
theorem wX6_count (a0 : Int32) (g : Mem) : aw mX6_count none 0 [some (.inr 0), some (.inl a0)] [] g (fX6_count a0 g) := by
  unfold fX6_count
  refine aw_iload_n iX6_count_0 rfl rfl ?_
  refine aw_if (fun c1 => ?_) (fun c1 => ?_)
  · refine aw_tsw tX6_count_1_0 c1 ?_
    refine aw_aload_n iX6_count_56 rfl rfl ?_
    refine aw_getR (own := "") iX6_count_57 flX6_10 zlt0 zsh0 rfl ?_
    refine aw_callV (M' := mX4_present) (As := []) iX6_count_60 lkX6_260 mcX4_present mvX4_present rfl zrc1 (kX4_present g) rfl (Nat.le_of_ble_eq_true rfl) ⟨Nat.le_of_ble_eq_true rfl, Nat.le_of_ble_eq_true rfl⟩ (fun r2 g3 => ?_)
    exact aw_iret iX6_count_63 rfl
  refine aw_if (fun c4 => ?_) (fun c4 => ?_)
  · refine aw_tsw tX6_count_1_1 c4 ?_
    refine aw_aload_n iX6_count_64 rfl rfl ?_
    refine aw_getR (own := "") iX6_count_65 flX6_26 zlt0 zsh0 rfl ?_
    refine aw_getI (own := "") iX6_count_68 flX6_159 zlt7 zsh7 rfl ?_
    exact aw_iret iX6_count_71 rfl
  refine aw_if (fun c5 => ?_) (fun c5 => ?_)
  · refine aw_tsw tX6_count_1_2 c5 ?_
    refine aw_aload_n iX6_count_72 rfl rfl ?_
    refine aw_getR (own := "") iX6_count_73 flX6_26 zlt0 zsh0 rfl ?_
    refine aw_getI (own := "") iX6_count_76 flX6_131 zlt7 zsh7 rfl ?_
    exact aw_iret iX6_count_79 rfl
  refine aw_if (fun c6 => ?_) (fun c6 => ?_)
  · refine aw_tsw tX6_count_1_3 c6 ?_
    refine aw_aload_n iX6_count_80 rfl rfl ?_
    refine aw_getR (own := "") iX6_count_81 flX6_26 zlt0 zsh0 rfl ?_
    refine aw_getI (own := "") iX6_count_84 flX6_128 zlt7 zsh7 rfl ?_
    exact aw_iret iX6_count_87 rfl
  refine aw_if (fun c7 => ?_) (fun c7 => ?_)
  · refine aw_tsw tX6_count_1_4 c7 ?_
    refine aw_aload_n iX6_count_88 rfl rfl ?_
    refine aw_getR (own := "") iX6_count_89 flX6_26 zlt0 zsh0 rfl ?_
    refine aw_getI (own := "") iX6_count_92 flX6_264 zlt7 zsh7 rfl ?_
    exact aw_iret iX6_count_95 rfl
  refine aw_if (fun c8 => ?_) (fun c8 => ?_)
  · refine aw_tsw tX6_count_1_5 c8 ?_
    refine aw_aload_n iX6_count_96 rfl rfl ?_
    refine aw_getR (own := "") iX6_count_97 flX6_26 zlt0 zsh0 rfl ?_
    refine aw_iconst (v := 1) iX6_count_100 (by decide) ?_
    refine aw_callV (M' := mX2_countOfFate) (As := [.inl (1 : Int32)]) iX6_count_101 lkX6_267 mcX2_countOfFate mvX2_countOfFate rfl zrc7 (kX2_countOfFate 7 (CO_of7) (1 : Int32) g) rfl (Nat.le_of_ble_eq_true rfl) ⟨Nat.le_of_ble_eq_true rfl, Nat.le_of_ble_eq_true rfl⟩ (fun r9 g10 => ?_)
    exact aw_iret iX6_count_104 rfl
  refine aw_if (fun c11 => ?_) (fun c11 => ?_)
  · refine aw_tsw tX6_count_1_6 c11 ?_
    refine aw_aload_n iX6_count_105 rfl rfl ?_
    refine aw_getR (own := "") iX6_count_106 flX6_26 zlt0 zsh0 rfl ?_
    refine aw_getI (own := "") iX6_count_109 flX6_270 zlt7 zsh7 rfl ?_
    exact aw_iret iX6_count_112 rfl
  refine aw_if (fun c12 => ?_) (fun c12 => ?_)
  · refine aw_tsw tX6_count_1_7 c12 ?_
    refine aw_aload_n iX6_count_113 rfl rfl ?_
    refine aw_getR (own := "") iX6_count_114 flX6_26 zlt0 zsh0 rfl ?_
    refine aw_getI (own := "") iX6_count_117 flX6_273 zlt7 zsh7 rfl ?_
    exact aw_iret iX6_count_120 rfl
  refine aw_if (fun c13 => ?_) (fun c13 => ?_)
  · refine aw_tsw tX6_count_1_8 c13 ?_
    refine aw_aload_n iX6_count_121 rfl rfl ?_
    refine aw_getR (own := "") iX6_count_122 flX6_40 zlt0 zsh0 rfl ?_
    refine aw_getI (own := "") iX6_count_125 flX6_168 zlt48 zsh48 rfl ?_
    exact aw_iret iX6_count_128 rfl
  refine aw_if (fun c14 => ?_) (fun c14 => ?_)
  · refine aw_tsw tX6_count_1_9 c14 ?_
    refine aw_aload_n iX6_count_129 rfl rfl ?_
    refine aw_getR (own := "") iX6_count_130 flX6_19 zlt0 zsh0 rfl ?_
    refine aw_getI (own := "") iX6_count_133 flX6_276 zlt5 zsh5 rfl ?_
    exact aw_iret iX6_count_136 rfl
  refine aw_tsd tX6_count_1_d (by have ec1 := ne_toInt c1 (a := 0) (by decide); have ec4 := ne_toInt c4 (a := 1) (by decide); have ec5 := ne_toInt c5 (a := 2) (by decide); have ec6 := ne_toInt c6 (a := 3) (by decide); have ec7 := ne_toInt c7 (a := 4) (by decide); have ec8 := ne_toInt c8 (a := 5) (by decide); have ec11 := ne_toInt c11 (a := 6) (by decide); have ec12 := ne_toInt c12 (a := 7) (by decide); have ec13 := ne_toInt c13 (a := 8) (by decide); have ec14 := ne_toInt c14 (a := 9) (by decide); omega) ?_
  refine aw_ldc (v := (-1000001)) iX6_count_137 kcX6_66 ?_
  exact aw_iret iX6_count_139 rfl
set_option maxRecDepth 20000 in
set_option maxHeartbeats 4000000 in
theorem kX6_count (a0 : Int32) (g : Mem) : CT mX6_count [.inr 0, .inl a0] g (fX6_count a0 g) := CT.of (nr := 0) (by decide +kernel) (Nat.le_of_ble_eq_true rfl) (Or.inr (Or.inl rfl)) (wX6_count a0 g)
set_option maxRecDepth 20000 in
set_option maxHeartbeats 4000000 in
theorem wX6_status (g : Mem) : aw mX6_status none 0 [some (.inr 0)] [] g (fX6_status g) := by
  unfold fX6_status
  refine aw_aload_n iX6_status_0 rfl rfl ?_
  refine aw_getI (own := "") iX6_status_1 flX6_279 zlt0 zsh0 rfl ?_
  exact aw_iret iX6_status_4 rfl
set_option maxRecDepth 20000 in
set_option maxHeartbeats 4000000 in
theorem kX6_status (g : Mem) : CT mX6_status [.inr 0] g (fX6_status g) := CT.of (nr := 0) (by decide +kernel) (Nat.le_of_ble_eq_true rfl) (Or.inr (Or.inl rfl)) (wX6_status g)
set_option maxRecDepth 20000 in
set_option maxHeartbeats 4000000 in
theorem wX7_in (a0 : Int32) (a1 : Int32) (a2 : Int32) (g : Mem) : aw mX7_in none 0 [some (.inl a0), some (.inl a1), some (.inl a2)] [] g (fX7_in a0 a1 a2 g) := by
  unfold fX7_in
  refine aw_iload_n iX7_in_0 rfl rfl ?_
  refine aw_iload_n iX7_in_1 rfl rfl ?_
  refine aw_icmp_lt iX7_in_2 ?_ ?_
  · refine aw_iconst (v := 0) iX7_in_14 (by decide) ?_
    exact aw_zretK iX7_in_15 rfl (Or.inl rfl)
  · refine aw_iload_n iX7_in_5 rfl rfl ?_
    refine aw_iload_n iX7_in_6 rfl rfl ?_
    refine aw_icmp_gt iX7_in_7 ?_ ?_
    · refine aw_iconst (v := 0) iX7_in_14 (by decide) ?_
      exact aw_zretK iX7_in_15 rfl (Or.inl rfl)
    · refine aw_iconst (v := 1) iX7_in_10 (by decide) ?_
      refine aw_goto iX7_in_11 ?_
      exact aw_zretK iX7_in_15 rfl (Or.inr rfl)
set_option maxRecDepth 20000 in
set_option maxHeartbeats 4000000 in
theorem kX7_in (a0 : Int32) (a1 : Int32) (a2 : Int32) (g : Mem) : CT mX7_in [.inl a0, .inl a1, .inl a2] g (fX7_in a0 a1 a2 g) := CT.of (nr := 0) (by decide +kernel) (Nat.le_of_ble_eq_true rfl) (Or.inr (Or.inr rfl)) (wX7_in a0 a1 a2 g)
set_option maxRecDepth 20000 in
set_option maxHeartbeats 4000000 in
theorem wX7_has (a0 : Int32) (a1 : Int32) (g : Mem) : aw mX7_has none 0 [some (.inl a0), some (.inl a1)] [] g (fX7_has a0 a1 g) := by
  unfold fX7_has
  refine aw_iload_n iX7_has_0 rfl rfl ?_
  refine aw_iload_n iX7_has_1 rfl rfl ?_
  refine aw_ishr iX7_has_2 ?_
  refine aw_iconst (v := 1) iX7_has_3 (by decide) ?_
  refine aw_iand iX7_has_4 ?_
  refine aw_iconst (v := 1) iX7_has_5 (by decide) ?_
  refine aw_icmp_ne iX7_has_6 ?_ ?_
  · refine aw_iconst (v := 1) iX7_has_9 (by decide) ?_
    refine aw_goto iX7_has_10 ?_
    exact aw_zretK iX7_has_14 rfl (Or.inr rfl)
  · refine aw_iconst (v := 0) iX7_has_13 (by decide) ?_
    exact aw_zretK iX7_has_14 rfl (Or.inl rfl)
set_option maxRecDepth 20000 in
set_option maxHeartbeats 4000000 in
theorem kX7_has (a0 : Int32) (a1 : Int32) (g : Mem) : CT mX7_has [.inl a0, .inl a1] g (fX7_has a0 a1 g) := CT.of (nr := 0) (by decide +kernel) (Nat.le_of_ble_eq_true rfl) (Or.inr (Or.inr rfl)) (wX7_has a0 a1 g)
set_option maxRecDepth 20000 in
set_option maxHeartbeats 4000000 in
theorem wX7_bits_L4 (l0 : Int32) (K : Int32 → Int32 → Mem → Option (Int32 × Mem)) (hK : ∀ (l1 l2 : Int32) (g : Mem), aw mX7_bits none 24 [some (.inl l0), some (.inl l1), some (.inl l2)] [] g (K l1 l2 g)) : ∀ (n : Nat) (l1 l2 : Int32) (g : Mem), aw mX7_bits none 4 [some (.inl l0), some (.inl l1), some (.inl l2)] [] g (fX7_bits_L4 l0 K n l1 l2 g) := by
  intro n
  induction n with
  | zero => intro l1 l2 g; exact aw_none
  | succ n ih =>
    intro l1 l2 g
    rw [fX7_bits_L4]
    refine aw_iload_n iX7_bits_4 rfl rfl ?_
    refine aw_bipush (v := 8) iX7_bits_5 (by decide) ?_
    refine aw_icmp_ge iX7_bits_7 ?_ ?_
    · exact hK l1 l2 g
    · refine aw_iload_n iX7_bits_10 rfl rfl ?_
      refine aw_iload_n iX7_bits_11 rfl rfl ?_
      refine aw_iload_n iX7_bits_12 rfl rfl ?_
      refine aw_ishr iX7_bits_13 ?_
      refine aw_iconst (v := 1) iX7_bits_14 (by decide) ?_
      refine aw_iand iX7_bits_15 ?_
      refine aw_iadd iX7_bits_16 ?_
      refine aw_lt (fun x1 => ?_)
      refine aw_istore_n (L' := [some (.inl l0), some (.inl x1), some (.inl l2)]) iX7_bits_17 rfl (Nat.le_of_ble_eq_true rfl) rfl ?_
      refine aw_iinc (L' := [some (.inl l0), some (.inl x1), some (.inl (l2 + (1 : Int32)))]) (v := l2 + (1 : Int32)) iX7_bits_18 rfl rfl (Nat.le_of_ble_eq_true rfl) rfl ?_
      refine aw_goto iX7_bits_21 ?_
      exact ih x1 (l2 + (1 : Int32)) g
set_option maxRecDepth 20000 in
set_option maxHeartbeats 4000000 in
theorem wX7_bits (a0 : Int32) (g : Mem) : aw mX7_bits none 0 [some (.inl a0), none, none] [] g (fX7_bits a0 g) := by
  unfold fX7_bits
  refine aw_iconst (v := 0) iX7_bits_0 (by decide) ?_
  refine aw_istore_n (L' := [some (.inl a0), some (.inl (0 : Int32)), none]) iX7_bits_1 rfl (Nat.le_of_ble_eq_true rfl) rfl ?_
  refine aw_iconst (v := 0) iX7_bits_2 (by decide) ?_
  refine aw_istore_n (L' := [some (.inl a0), some (.inl (0 : Int32)), some (.inl (0 : Int32))]) iX7_bits_3 rfl (Nat.le_of_ble_eq_true rfl) rfl ?_
  refine wX7_bits_L4 a0 _ (fun l2 l3 g4 => ?_) FU (0 : Int32) (0 : Int32) g
  refine aw_iload_n iX7_bits_24 rfl rfl ?_
  exact aw_iret iX7_bits_25 rfl
set_option maxRecDepth 20000 in
set_option maxHeartbeats 4000000 in
theorem kX7_bits (a0 : Int32) (g : Mem) : CT mX7_bits [.inl a0] g (fX7_bits a0 g) := CT.of (nr := 2) (by decide +kernel) (Nat.le_of_ble_eq_true rfl) (Or.inr (Or.inl rfl)) (wX7_bits a0 g)
set_option maxRecDepth 20000 in
set_option maxHeartbeats 4000000 in
theorem wX7_finds (a0 : Int32) (g : Mem) : aw mX7_finds none 0 [some (.inr 61), some (.inl a0)] [] g (fX7_finds a0 g) := by
  unfold fX7_finds
  refine aw_aload_n iX7_finds_0 rfl rfl ?_
  refine aw_iload_n iX7_finds_1 rfl rfl ?_
  refine aw_putI iX7_finds_2 fpX7_44 zlt61 zsh61 rfl (fun g1 _ => ?_)
  refine aw_ldc (v := (-1000010)) iX7_finds_5 kcX7_48 ?_
  refine aw_iload_n iX7_finds_7 rfl rfl ?_
  refine aw_isub iX7_finds_8 ?_
  exact aw_iret iX7_finds_9 rfl
set_option maxRecDepth 20000 in
set_option maxHeartbeats 4000000 in
theorem kX7_finds (a0 : Int32) (g : Mem) : CT mX7_finds [.inr 61, .inl a0] g (fX7_finds a0 g) := CT.of (nr := 0) (by decide +kernel) (Nat.le_of_ble_eq_true rfl) (Or.inr (Or.inl rfl)) (wX7_finds a0 g)
set_option maxRecDepth 20000 in
set_option maxHeartbeats 4000000 in
theorem wX7_done (a0 : Int32) (g : Mem) : aw mX7_done none 0 [some (.inr 61), some (.inl a0)] [] g (fX7_done a0 g) := by
  unfold fX7_done
  refine aw_aload_n iX7_done_0 rfl rfl ?_
  refine aw_iconst (v := 0) iX7_done_1 (by decide) ?_
  refine aw_putI iX7_done_2 fpX7_44 zlt61 zsh61 rfl (fun g1 _ => ?_)
  refine aw_iload_n iX7_done_5 rfl rfl ?_
  exact aw_iret iX7_done_6 rfl
set_option maxRecDepth 20000 in
set_option maxHeartbeats 4000000 in
theorem kX7_done (a0 : Int32) (g : Mem) : CT mX7_done [.inr 61, .inl a0] g (fX7_done a0 g) := CT.of (nr := 0) (by decide +kernel) (Nat.le_of_ble_eq_true rfl) (Or.inr (Or.inl rfl)) (wX7_done a0 g)
set_option maxRecDepth 20000 in
set_option maxHeartbeats 4000000 in
theorem wX7_isRow (a0 : Int32) (g : Mem) : aw mX7_isRow none 0 [some (.inl a0)] [] g (fX7_isRow a0 g) := by
  unfold fX7_isRow
  refine aw_iload_n iX7_isRow_0 rfl rfl ?_
  refine aw_iconst (v := 0) iX7_isRow_1 (by decide) ?_
  refine aw_bipush (v := 7) iX7_isRow_2 (by decide) ?_
  refine aw_callS (M' := mX7_in) (As := [.inl a0, .inl (0 : Int32), .inl (7 : Int32)]) iX7_isRow_4 lkX7_49 mcX7_in msX7_in rfl (kX7_in a0 (0 : Int32) (7 : Int32) g) rfl (Nat.le_of_ble_eq_true rfl) ⟨Nat.le_of_ble_eq_true rfl, Nat.le_of_ble_eq_true rfl⟩ (fun r1 g2 => ?_)
  exact aw_zret iX7_isRow_7 rfl
set_option maxRecDepth 20000 in
set_option maxHeartbeats 4000000 in
theorem kX7_isRow (a0 : Int32) (g : Mem) : CT mX7_isRow [.inl a0] g (fX7_isRow a0 g) := CT.of (nr := 0) (by decide +kernel) (Nat.le_of_ble_eq_true rfl) (Or.inr (Or.inr rfl)) (wX7_isRow a0 g)
set_option maxRecDepth 20000 in
set_option maxHeartbeats 4000000 in
theorem wX7_row_L52 (l1 : Int32) (l2 : Int32) (l3 : Int32) (K : Int32 → Mem → Option (Int32 × Mem)) (hK : ∀ (l4 : Int32) (g : Mem), aw mX7_row none 78 [some (.inr 61), some (.inl l1), some (.inl l2), some (.inl l3), some (.inl l4)] [] g (K l4 g)) : ∀ (n : Nat) (l4 : Int32) (g : Mem), aw mX7_row none 52 [some (.inr 61), some (.inl l1), some (.inl l2), some (.inl l3), some (.inl l4)] [] g (fX7_row_L52 l1 l2 l3 K n l4 g) := by
  intro n
  induction n with
  | zero => intro l4 g; exact aw_none
  | succ n ih =>
    intro l4 g
    rw [fX7_row_L52]
    refine aw_iload iX7_row_52 rfl ?_
    refine aw_bipush (v := 40) iX7_row_54 (by decide) ?_
    refine aw_icmp_ge iX7_row_56 ?_ ?_
    · exact hK l4 g
    · refine aw_aload_n iX7_row_59 rfl rfl ?_
      refine aw_getR (own := "") iX7_row_60 flX7_16 zlt61 zsh61 rfl ?_
      refine aw_bipush (v := 40) iX7_row_63 (by decide) ?_
      refine aw_iload_n iX7_row_65 rfl rfl ?_
      refine aw_imul iX7_row_66 ?_
      refine aw_iload iX7_row_67 rfl ?_
      refine aw_iadd iX7_row_69 ?_
      refine aw_iconst (v := 0) iX7_row_70 (by decide) ?_
      refine aw_iast iX7_row_71 zlt64 zsh64 (fun g7 _ => ?_)
      refine aw_iinc (L' := [some (.inr 61), some (.inl l1), some (.inl l2), some (.inl l3), some (.inl (l4 + (1 : Int32)))]) (v := l4 + (1 : Int32)) iX7_row_72 rfl rfl (Nat.le_of_ble_eq_true rfl) rfl ?_
      refine aw_goto iX7_row_75 ?_
      exact ih (l4 + (1 : Int32)) g7
set_option maxRecDepth 20000 in
set_option maxHeartbeats 4000000 in
theorem wX7_row (a0 : Int32) (a1 : Int32) (a2 : Int32) (g : Mem) : aw mX7_row none 0 [some (.inr 61), some (.inl a0), some (.inl a1), some (.inl a2), none] [] g (fX7_row a0 a1 a2 g) := by
  unfold fX7_row
  refine aw_iload_n iX7_row_0 rfl rfl ?_
  refine aw_callS (M' := mX7_isRow) (As := [.inl a0]) iX7_row_1 lkX7_53 mcX7_isRow msX7_isRow rfl (kX7_isRow a0 g) rfl (Nat.le_of_ble_eq_true rfl) ⟨Nat.le_of_ble_eq_true rfl, Nat.le_of_ble_eq_true rfl⟩ (fun r1 g2 => ?_)
  refine aw_if_eq iX7_row_4 ?_ ?_
  · refine aw_ldc (v := (-1000001)) iX7_row_22 kcX7_57 ?_
    exact aw_iret iX7_row_24 rfl
  · refine aw_iload_n iX7_row_7 rfl rfl ?_
    refine aw_iconst (v := 0) iX7_row_8 (by decide) ?_
    refine aw_iconst (v := 2) iX7_row_9 (by decide) ?_
    refine aw_callS (M' := mX7_in) (As := [.inl a1, .inl (0 : Int32), .inl (2 : Int32)]) iX7_row_10 lkX7_49 mcX7_in msX7_in rfl (kX7_in a1 (0 : Int32) (2 : Int32) g2) rfl (Nat.le_of_ble_eq_true rfl) ⟨Nat.le_of_ble_eq_true rfl, Nat.le_of_ble_eq_true rfl⟩ (fun r3 g4 => ?_)
    refine aw_if_eq iX7_row_13 ?_ ?_
    · refine aw_ldc (v := (-1000001)) iX7_row_22 kcX7_57 ?_
      exact aw_iret iX7_row_24 rfl
    · refine aw_iload_n iX7_row_16 rfl rfl ?_
      refine aw_bipush (v := 40) iX7_row_17 (by decide) ?_
      refine aw_icmp_le iX7_row_19 ?_ ?_
      · refine aw_iload_n iX7_row_25 rfl rfl ?_
        refine aw_if_ge iX7_row_26 ?_ ?_
        · refine aw_aload_n iX7_row_35 rfl rfl ?_
          refine aw_getR (own := "") iX7_row_36 flX7_7 zlt61 zsh61 rfl ?_
          refine aw_iload_n iX7_row_39 rfl rfl ?_
          refine aw_iload_n iX7_row_40 rfl rfl ?_
          refine aw_iast iX7_row_41 zlt62 zsh62 (fun g5 _ => ?_)
          refine aw_aload_n iX7_row_42 rfl rfl ?_
          refine aw_getR (own := "") iX7_row_43 flX7_13 zlt61 zsh61 rfl ?_
          refine aw_iload_n iX7_row_46 rfl rfl ?_
          refine aw_iload_n iX7_row_47 rfl rfl ?_
          refine aw_iast iX7_row_48 zlt63 zsh63 (fun g6 _ => ?_)
          refine aw_iconst (v := 0) iX7_row_49 (by decide) ?_
          refine aw_istore (L' := [some (.inr 61), some (.inl a0), some (.inl a1), some (.inl a2), some (.inl (0 : Int32))]) iX7_row_50 (Nat.le_of_ble_eq_true rfl) rfl ?_
          refine wX7_row_L52 a0 a1 a2 _ (fun l8 g9 => ?_) FU (0 : Int32) g6
          refine aw_aload_n iX7_row_78 rfl rfl ?_
          refine aw_iload_n iX7_row_79 rfl rfl ?_
          refine aw_callV (M' := mX7_done) (As := [.inl a2]) iX7_row_80 lkX7_62 mcX7_done mvX7_done rfl zrc61 (kX7_done a2 g9) rfl (Nat.le_of_ble_eq_true rfl) ⟨Nat.le_of_ble_eq_true rfl, Nat.le_of_ble_eq_true rfl⟩ (fun r10 g11 => ?_)
          exact aw_iret iX7_row_83 rfl
        · refine aw_aload_n iX7_row_29 rfl rfl ?_
          refine aw_iconst (v := 4) iX7_row_30 (by decide) ?_
          refine aw_callV (M' := mX7_finds) (As := [.inl (4 : Int32)]) iX7_row_31 lkX7_58 mcX7_finds mvX7_finds rfl zrc61 (kX7_finds (4 : Int32) g4) rfl (Nat.le_of_ble_eq_true rfl) ⟨Nat.le_of_ble_eq_true rfl, Nat.le_of_ble_eq_true rfl⟩ (fun r12 g13 => ?_)
          exact aw_iret iX7_row_34 rfl
      · refine aw_ldc (v := (-1000001)) iX7_row_22 kcX7_57 ?_
        exact aw_iret iX7_row_24 rfl
set_option maxRecDepth 20000 in
set_option maxHeartbeats 4000000 in
theorem kX7_row (a0 : Int32) (a1 : Int32) (a2 : Int32) (g : Mem) : CT mX7_row [.inr 61, .inl a0, .inl a1, .inl a2] g (fX7_row a0 a1 a2 g) := CT.of (nr := 1) (by decide +kernel) (Nat.le_of_ble_eq_true rfl) (Or.inr (Or.inl rfl)) (wX7_row a0 a1 a2 g)
set_option maxRecDepth 20000 in
set_option maxHeartbeats 4000000 in
theorem wX7_set (a0 : Int32) (a1 : Int32) (a2 : Int32) (g : Mem) : aw mX7_set none 0 [some (.inr 61), some (.inl a0), some (.inl a1), some (.inl a2)] [] g (fX7_set a0 a1 a2 g) := by
  unfold fX7_set
  refine aw_iload_n iX7_set_0 rfl rfl ?_
  refine aw_callS (M' := mX7_isRow) (As := [.inl a0]) iX7_set_1 lkX7_53 mcX7_isRow msX7_isRow rfl (kX7_isRow a0 g) rfl (Nat.le_of_ble_eq_true rfl) ⟨Nat.le_of_ble_eq_true rfl, Nat.le_of_ble_eq_true rfl⟩ (fun r1 g2 => ?_)
  refine aw_if_ne iX7_set_4 ?_ ?_
  · refine aw_ldc (v := (-1000001)) iX7_set_7 kcX7_57 ?_
    exact aw_iret iX7_set_9 rfl
  · refine aw_aload_n iX7_set_10 rfl rfl ?_
    refine aw_getR (own := "") iX7_set_11 flX7_7 zlt61 zsh61 rfl ?_
    refine aw_iload_n iX7_set_14 rfl rfl ?_
    refine aw_iald iX7_set_15 zlt62 zsh62 (fun v3 _ => ?_)
    refine aw_if_ge iX7_set_16 ?_ ?_
    · refine aw_iload_n iX7_set_25 rfl rfl ?_
      refine aw_iconst (v := 0) iX7_set_26 (by decide) ?_
      refine aw_aload_n iX7_set_27 rfl rfl ?_
      refine aw_getR (own := "") iX7_set_28 flX7_13 zlt61 zsh61 rfl ?_
      refine aw_iload_n iX7_set_31 rfl rfl ?_
      refine aw_iald iX7_set_32 zlt63 zsh63 (fun v4 _ => ?_)
      refine aw_iconst (v := 1) iX7_set_33 (by decide) ?_
      refine aw_isub iX7_set_34 ?_
      refine aw_callS (M' := mX7_in) (As := [.inl a1, .inl (0 : Int32), .inl (v4 - (1 : Int32))]) iX7_set_35 lkX7_49 mcX7_in msX7_in rfl (kX7_in a1 (0 : Int32) (v4 - (1 : Int32)) g2) rfl (Nat.le_of_ble_eq_true rfl) ⟨Nat.le_of_ble_eq_true rfl, Nat.le_of_ble_eq_true rfl⟩ (fun r5 g6 => ?_)
      refine aw_if_ne iX7_set_38 ?_ ?_
      · refine aw_aload_n iX7_set_41 rfl rfl ?_
        refine aw_iconst (v := 2) iX7_set_42 (by decide) ?_
        refine aw_callV (M' := mX7_finds) (As := [.inl (2 : Int32)]) iX7_set_43 lkX7_58 mcX7_finds mvX7_finds rfl zrc61 (kX7_finds (2 : Int32) g6) rfl (Nat.le_of_ble_eq_true rfl) ⟨Nat.le_of_ble_eq_true rfl, Nat.le_of_ble_eq_true rfl⟩ (fun r7 g8 => ?_)
        exact aw_iret iX7_set_46 rfl
      · refine aw_aload_n iX7_set_47 rfl rfl ?_
        refine aw_getR (own := "") iX7_set_48 flX7_16 zlt61 zsh61 rfl ?_
        refine aw_bipush (v := 40) iX7_set_51 (by decide) ?_
        refine aw_iload_n iX7_set_53 rfl rfl ?_
        refine aw_imul iX7_set_54 ?_
        refine aw_iload_n iX7_set_55 rfl rfl ?_
        refine aw_iadd iX7_set_56 ?_
        refine aw_aload_n iX7_set_57 rfl rfl ?_
        refine aw_getR (own := "") iX7_set_58 flX7_7 zlt61 zsh61 rfl ?_
        refine aw_iload_n iX7_set_61 rfl rfl ?_
        refine aw_iald iX7_set_62 zlt62 zsh62 (fun v9 _ => ?_)
        refine aw_if_ne iX7_set_63 ?_ ?_
        · refine aw_iload_n iX7_set_66 rfl rfl ?_
          refine aw_i2b iX7_set_67 ?_
          refine aw_goto iX7_set_68 ?_
          refine aw_iast iX7_set_87 zlt64 zsh64 (fun g10 _ => ?_)
          refine aw_aload_n iX7_set_88 rfl rfl ?_
          refine aw_aload_n iX7_set_89 rfl rfl ?_
          refine aw_getR (own := "") iX7_set_90 flX7_16 zlt61 zsh61 rfl ?_
          refine aw_bipush (v := 40) iX7_set_93 (by decide) ?_
          refine aw_iload_n iX7_set_95 rfl rfl ?_
          refine aw_imul iX7_set_96 ?_
          refine aw_iload_n iX7_set_97 rfl rfl ?_
          refine aw_iadd iX7_set_98 ?_
          refine aw_iald iX7_set_99 zlt64 zsh64 (fun v11 _ => ?_)
          refine aw_callV (M' := mX7_done) (As := [.inl v11]) iX7_set_100 lkX7_62 mcX7_done mvX7_done rfl zrc61 (kX7_done v11 g10) rfl (Nat.le_of_ble_eq_true rfl) ⟨Nat.le_of_ble_eq_true rfl, Nat.le_of_ble_eq_true rfl⟩ (fun r12 g13 => ?_)
          exact aw_iret iX7_set_103 rfl
        · refine aw_aload_n iX7_set_71 rfl rfl ?_
          refine aw_getR (own := "") iX7_set_72 flX7_7 zlt61 zsh61 rfl ?_
          refine aw_iload_n iX7_set_75 rfl rfl ?_
          refine aw_iald iX7_set_76 zlt62 zsh62 (fun v14 _ => ?_)
          refine aw_iconst (v := 1) iX7_set_77 (by decide) ?_
          refine aw_icmp_ne iX7_set_78 ?_ ?_
          · refine aw_iload_n iX7_set_81 rfl rfl ?_
            refine aw_i2s iX7_set_82 ?_
            refine aw_goto iX7_set_83 ?_
            refine aw_iast iX7_set_87 zlt64 zsh64 (fun g15 _ => ?_)
            refine aw_aload_n iX7_set_88 rfl rfl ?_
            refine aw_aload_n iX7_set_89 rfl rfl ?_
            refine aw_getR (own := "") iX7_set_90 flX7_16 zlt61 zsh61 rfl ?_
            refine aw_bipush (v := 40) iX7_set_93 (by decide) ?_
            refine aw_iload_n iX7_set_95 rfl rfl ?_
            refine aw_imul iX7_set_96 ?_
            refine aw_iload_n iX7_set_97 rfl rfl ?_
            refine aw_iadd iX7_set_98 ?_
            refine aw_iald iX7_set_99 zlt64 zsh64 (fun v16 _ => ?_)
            refine aw_callV (M' := mX7_done) (As := [.inl v16]) iX7_set_100 lkX7_62 mcX7_done mvX7_done rfl zrc61 (kX7_done v16 g15) rfl (Nat.le_of_ble_eq_true rfl) ⟨Nat.le_of_ble_eq_true rfl, Nat.le_of_ble_eq_true rfl⟩ (fun r17 g18 => ?_)
            exact aw_iret iX7_set_103 rfl
          · refine aw_iload_n iX7_set_86 rfl rfl ?_
            refine aw_iast iX7_set_87 zlt64 zsh64 (fun g19 _ => ?_)
            refine aw_aload_n iX7_set_88 rfl rfl ?_
            refine aw_aload_n iX7_set_89 rfl rfl ?_
            refine aw_getR (own := "") iX7_set_90 flX7_16 zlt61 zsh61 rfl ?_
            refine aw_bipush (v := 40) iX7_set_93 (by decide) ?_
            refine aw_iload_n iX7_set_95 rfl rfl ?_
            refine aw_imul iX7_set_96 ?_
            refine aw_iload_n iX7_set_97 rfl rfl ?_
            refine aw_iadd iX7_set_98 ?_
            refine aw_iald iX7_set_99 zlt64 zsh64 (fun v20 _ => ?_)
            refine aw_callV (M' := mX7_done) (As := [.inl v20]) iX7_set_100 lkX7_62 mcX7_done mvX7_done rfl zrc61 (kX7_done v20 g19) rfl (Nat.le_of_ble_eq_true rfl) ⟨Nat.le_of_ble_eq_true rfl, Nat.le_of_ble_eq_true rfl⟩ (fun r21 g22 => ?_)
            exact aw_iret iX7_set_103 rfl
    · refine aw_aload_n iX7_set_19 rfl rfl ?_
      refine aw_iconst (v := 1) iX7_set_20 (by decide) ?_
      refine aw_callV (M' := mX7_finds) (As := [.inl (1 : Int32)]) iX7_set_21 lkX7_58 mcX7_finds mvX7_finds rfl zrc61 (kX7_finds (1 : Int32) g2) rfl (Nat.le_of_ble_eq_true rfl) ⟨Nat.le_of_ble_eq_true rfl, Nat.le_of_ble_eq_true rfl⟩ (fun r23 g24 => ?_)
      exact aw_iret iX7_set_24 rfl
set_option maxRecDepth 20000 in
set_option maxHeartbeats 4000000 in
theorem kX7_set (a0 : Int32) (a1 : Int32) (a2 : Int32) (g : Mem) : CT mX7_set [.inr 61, .inl a0, .inl a1, .inl a2] g (fX7_set a0 a1 a2 g) := CT.of (nr := 0) (by decide +kernel) (Nat.le_of_ble_eq_true rfl) (Or.inr (Or.inl rfl)) (wX7_set a0 a1 a2 g)
set_option maxRecDepth 20000 in
set_option maxHeartbeats 4000000 in
theorem wX7_isPart (a0 : Int32) (a1 : Int32) (a2 : Int32) (g : Mem) : aw mX7_isPart none 0 [some (.inl a0), some (.inl a1), some (.inl a2)] [] g (fX7_isPart a0 a1 a2 g) := by
  unfold fX7_isPart
  refine aw_iload_n iX7_isPart_0 rfl rfl ?_
  refine aw_if_lt iX7_isPart_1 ?_ ?_
  · refine aw_iconst (v := 0) iX7_isPart_24 (by decide) ?_
    exact aw_zretK iX7_isPart_25 rfl (Or.inl rfl)
  · refine aw_iload_n iX7_isPart_4 rfl rfl ?_
    refine aw_if_lt iX7_isPart_5 ?_ ?_
    · refine aw_iconst (v := 0) iX7_isPart_24 (by decide) ?_
      exact aw_zretK iX7_isPart_25 rfl (Or.inl rfl)
    · refine aw_iload_n iX7_isPart_8 rfl rfl ?_
      refine aw_iload_n iX7_isPart_9 rfl rfl ?_
      refine aw_icmp_gt iX7_isPart_10 ?_ ?_
      · refine aw_iconst (v := 0) iX7_isPart_24 (by decide) ?_
        exact aw_zretK iX7_isPart_25 rfl (Or.inl rfl)
      · refine aw_iload_n iX7_isPart_13 rfl rfl ?_
        refine aw_iload_n iX7_isPart_14 rfl rfl ?_
        refine aw_iload_n iX7_isPart_15 rfl rfl ?_
        refine aw_isub iX7_isPart_16 ?_
        refine aw_icmp_gt iX7_isPart_17 ?_ ?_
        · refine aw_iconst (v := 0) iX7_isPart_24 (by decide) ?_
          exact aw_zretK iX7_isPart_25 rfl (Or.inl rfl)
        · refine aw_iconst (v := 1) iX7_isPart_20 (by decide) ?_
          refine aw_goto iX7_isPart_21 ?_
          exact aw_zretK iX7_isPart_25 rfl (Or.inr rfl)
set_option maxRecDepth 20000 in
set_option maxHeartbeats 4000000 in
theorem kX7_isPart (a0 : Int32) (a1 : Int32) (a2 : Int32) (g : Mem) : CT mX7_isPart [.inl a0, .inl a1, .inl a2] g (fX7_isPart a0 a1 a2 g) := CT.of (nr := 0) (by decide +kernel) (Nat.le_of_ble_eq_true rfl) (Or.inr (Or.inr rfl)) (wX7_isPart a0 a1 a2 g)
set_option maxRecDepth 20000 in
set_option maxHeartbeats 4000000 in
theorem wX7_copy_L120 (l1 : Int32) (l2 : Int32) (l3 : Int32) (l4 : Int32) (l5 : Int32) (l6 : Int32) (K : Int32 → Mem → Option (Int32 × Mem)) (hK : ∀ (l7 : Int32) (g : Mem), aw mX7_copy none 181 [some (.inr 61), some (.inl l1), some (.inl l2), some (.inl l3), some (.inl l4), some (.inl l5), some (.inl l6), some (.inl l7), none] [] g (K l7 g)) : ∀ (n : Nat) (l7 : Int32) (g : Mem), aw mX7_copy none 120 [some (.inr 61), some (.inl l1), some (.inl l2), some (.inl l3), some (.inl l4), some (.inl l5), some (.inl l6), some (.inl l7), none] [] g (fX7_copy_L120 l1 l2 l3 l4 l5 l6 K n l7 g) := by
  intro n
  induction n with
  | zero => intro l7 g; exact aw_none
  | succ n ih =>
    intro l7 g
    rw [fX7_copy_L120]
    refine aw_iload iX7_copy_120 rfl ?_
    refine aw_iload iX7_copy_122 rfl ?_
    refine aw_icmp_ge iX7_copy_124 ?_ ?_
    · exact hK l7 g
    · refine aw_iload iX7_copy_127 rfl ?_
      refine aw_if_eq iX7_copy_129 ?_ ?_
      · refine aw_iload iX7_copy_142 rfl ?_
        refine aw_istore (L' := [some (.inr 61), some (.inl l1), some (.inl l2), some (.inl l3), some (.inl l4), some (.inl l5), some (.inl l6), some (.inl l7), some (.inl l7)]) iX7_copy_144 (Nat.le_of_ble_eq_true rfl) rfl ?_
        refine aw_aload_n iX7_copy_146 rfl rfl ?_
        refine aw_getR (own := "") iX7_copy_147 flX7_16 zlt61 zsh61 rfl ?_
        refine aw_bipush (v := 40) iX7_copy_150 (by decide) ?_
        refine aw_iload_n iX7_copy_152 rfl rfl ?_
        refine aw_imul iX7_copy_153 ?_
        refine aw_iload iX7_copy_154 rfl ?_
        refine aw_iadd iX7_copy_156 ?_
        refine aw_iload iX7_copy_157 rfl ?_
        refine aw_iadd iX7_copy_159 ?_
        refine aw_aload_n iX7_copy_160 rfl rfl ?_
        refine aw_getR (own := "") iX7_copy_161 flX7_16 zlt61 zsh61 rfl ?_
        refine aw_bipush (v := 40) iX7_copy_164 (by decide) ?_
        refine aw_iload_n iX7_copy_166 rfl rfl ?_
        refine aw_imul iX7_copy_167 ?_
        refine aw_iload_n iX7_copy_168 rfl rfl ?_
        refine aw_iadd iX7_copy_169 ?_
        refine aw_iload iX7_copy_170 rfl ?_
        refine aw_iadd iX7_copy_172 ?_
        refine aw_iald iX7_copy_173 zlt64 zsh64 (fun v21 _ => ?_)
        refine aw_iast iX7_copy_174 zlt64 zsh64 (fun g22 _ => ?_)
        refine aw_iinc (L' := [some (.inr 61), some (.inl l1), some (.inl l2), some (.inl l3), some (.inl l4), some (.inl l5), some (.inl l6), some (.inl (l7 + (1 : Int32))), some (.inl l7)]) (v := l7 + (1 : Int32)) iX7_copy_175 rfl rfl (Nat.le_of_ble_eq_true rfl) rfl ?_
        refine aw_goto iX7_copy_178 ?_
        refine aw_msk [true, true, true, true, true, true, true, true, false] rfl ?_
        exact ih (l7 + (1 : Int32)) g22
      · refine aw_iload iX7_copy_132 rfl ?_
        refine aw_iconst (v := 1) iX7_copy_134 (by decide) ?_
        refine aw_isub iX7_copy_135 ?_
        refine aw_iload iX7_copy_136 rfl ?_
        refine aw_isub iX7_copy_138 ?_
        refine aw_goto iX7_copy_139 ?_
        refine aw_lt (fun x23 => ?_)
        refine aw_istore (L' := [some (.inr 61), some (.inl l1), some (.inl l2), some (.inl l3), some (.inl l4), some (.inl l5), some (.inl l6), some (.inl l7), some (.inl x23)]) iX7_copy_144 (Nat.le_of_ble_eq_true rfl) rfl ?_
        refine aw_aload_n iX7_copy_146 rfl rfl ?_
        refine aw_getR (own := "") iX7_copy_147 flX7_16 zlt61 zsh61 rfl ?_
        refine aw_bipush (v := 40) iX7_copy_150 (by decide) ?_
        refine aw_iload_n iX7_copy_152 rfl rfl ?_
        refine aw_imul iX7_copy_153 ?_
        refine aw_iload iX7_copy_154 rfl ?_
        refine aw_iadd iX7_copy_156 ?_
        refine aw_iload iX7_copy_157 rfl ?_
        refine aw_iadd iX7_copy_159 ?_
        refine aw_aload_n iX7_copy_160 rfl rfl ?_
        refine aw_getR (own := "") iX7_copy_161 flX7_16 zlt61 zsh61 rfl ?_
        refine aw_bipush (v := 40) iX7_copy_164 (by decide) ?_
        refine aw_iload_n iX7_copy_166 rfl rfl ?_
        refine aw_imul iX7_copy_167 ?_
        refine aw_iload_n iX7_copy_168 rfl rfl ?_
        refine aw_iadd iX7_copy_169 ?_
        refine aw_iload iX7_copy_170 rfl ?_
        refine aw_iadd iX7_copy_172 ?_
        refine aw_iald iX7_copy_173 zlt64 zsh64 (fun v24 _ => ?_)
        refine aw_iast iX7_copy_174 zlt64 zsh64 (fun g25 _ => ?_)
        refine aw_iinc (L' := [some (.inr 61), some (.inl l1), some (.inl l2), some (.inl l3), some (.inl l4), some (.inl l5), some (.inl l6), some (.inl (l7 + (1 : Int32))), some (.inl x23)]) (v := l7 + (1 : Int32)) iX7_copy_175 rfl rfl (Nat.le_of_ble_eq_true rfl) rfl ?_
        refine aw_goto iX7_copy_178 ?_
        refine aw_msk [true, true, true, true, true, true, true, true, false] rfl ?_
        exact ih (l7 + (1 : Int32)) g25
set_option maxRecDepth 20000 in
set_option maxHeartbeats 4000000 in
theorem wX7_copy (a0 : Int32) (a1 : Int32) (a2 : Int32) (a3 : Int32) (a4 : Int32) (g : Mem) : aw mX7_copy none 0 [some (.inr 61), some (.inl a0), some (.inl a1), some (.inl a2), some (.inl a3), some (.inl a4), none, none, none] [] g (fX7_copy a0 a1 a2 a3 a4 g) := by
  unfold fX7_copy
  refine aw_iload_n iX7_copy_0 rfl rfl ?_
  refine aw_callS (M' := mX7_isRow) (As := [.inl a0]) iX7_copy_1 lkX7_53 mcX7_isRow msX7_isRow rfl (kX7_isRow a0 g) rfl (Nat.le_of_ble_eq_true rfl) ⟨Nat.le_of_ble_eq_true rfl, Nat.le_of_ble_eq_true rfl⟩ (fun r1 g2 => ?_)
  refine aw_if_eq iX7_copy_4 ?_ ?_
  · refine aw_ldc (v := (-1000001)) iX7_copy_14 kcX7_57 ?_
    exact aw_iret iX7_copy_16 rfl
  · refine aw_iload_n iX7_copy_7 rfl rfl ?_
    refine aw_callS (M' := mX7_isRow) (As := [.inl a2]) iX7_copy_8 lkX7_53 mcX7_isRow msX7_isRow rfl (kX7_isRow a2 g2) rfl (Nat.le_of_ble_eq_true rfl) ⟨Nat.le_of_ble_eq_true rfl, Nat.le_of_ble_eq_true rfl⟩ (fun r3 g4 => ?_)
    refine aw_if_ne iX7_copy_11 ?_ ?_
    · refine aw_ldc (v := (-1000001)) iX7_copy_14 kcX7_57 ?_
      exact aw_iret iX7_copy_16 rfl
    · refine aw_aload_n iX7_copy_17 rfl rfl ?_
      refine aw_getR (own := "") iX7_copy_18 flX7_7 zlt61 zsh61 rfl ?_
      refine aw_iload_n iX7_copy_21 rfl rfl ?_
      refine aw_iald iX7_copy_22 zlt62 zsh62 (fun v5 _ => ?_)
      refine aw_if_lt iX7_copy_23 ?_ ?_
      · refine aw_aload_n iX7_copy_35 rfl rfl ?_
        refine aw_iconst (v := 1) iX7_copy_36 (by decide) ?_
        refine aw_callV (M' := mX7_finds) (As := [.inl (1 : Int32)]) iX7_copy_37 lkX7_58 mcX7_finds mvX7_finds rfl zrc61 (kX7_finds (1 : Int32) g4) rfl (Nat.le_of_ble_eq_true rfl) ⟨Nat.le_of_ble_eq_true rfl, Nat.le_of_ble_eq_true rfl⟩ (fun r6 g7 => ?_)
        exact aw_iret iX7_copy_40 rfl
      · refine aw_aload_n iX7_copy_26 rfl rfl ?_
        refine aw_getR (own := "") iX7_copy_27 flX7_7 zlt61 zsh61 rfl ?_
        refine aw_iload_n iX7_copy_30 rfl rfl ?_
        refine aw_iald iX7_copy_31 zlt62 zsh62 (fun v8 _ => ?_)
        refine aw_if_ge iX7_copy_32 ?_ ?_
        · refine aw_aload_n iX7_copy_41 rfl rfl ?_
          refine aw_getR (own := "") iX7_copy_42 flX7_7 zlt61 zsh61 rfl ?_
          refine aw_iload_n iX7_copy_45 rfl rfl ?_
          refine aw_iald iX7_copy_46 zlt62 zsh62 (fun v9 _ => ?_)
          refine aw_aload_n iX7_copy_47 rfl rfl ?_
          refine aw_getR (own := "") iX7_copy_48 flX7_7 zlt61 zsh61 rfl ?_
          refine aw_iload_n iX7_copy_51 rfl rfl ?_
          refine aw_iald iX7_copy_52 zlt62 zsh62 (fun v10 _ => ?_)
          refine aw_icmp_eq iX7_copy_53 ?_ ?_
          · refine aw_iload_n iX7_copy_62 rfl rfl ?_
            refine aw_iload iX7_copy_63 rfl ?_
            refine aw_aload_n iX7_copy_65 rfl rfl ?_
            refine aw_getR (own := "") iX7_copy_66 flX7_13 zlt61 zsh61 rfl ?_
            refine aw_iload_n iX7_copy_69 rfl rfl ?_
            refine aw_iald iX7_copy_70 zlt63 zsh63 (fun v11 _ => ?_)
            refine aw_callS (M' := mX7_isPart) (As := [.inl a1, .inl a4, .inl v11]) iX7_copy_71 lkX7_65 mcX7_isPart msX7_isPart rfl (kX7_isPart a1 a4 v11 g4) rfl (Nat.le_of_ble_eq_true rfl) ⟨Nat.le_of_ble_eq_true rfl, Nat.le_of_ble_eq_true rfl⟩ (fun r12 g13 => ?_)
            refine aw_if_eq iX7_copy_74 ?_ ?_
            · refine aw_aload_n iX7_copy_93 rfl rfl ?_
              refine aw_iconst (v := 2) iX7_copy_94 (by decide) ?_
              refine aw_callV (M' := mX7_finds) (As := [.inl (2 : Int32)]) iX7_copy_95 lkX7_58 mcX7_finds mvX7_finds rfl zrc61 (kX7_finds (2 : Int32) g13) rfl (Nat.le_of_ble_eq_true rfl) ⟨Nat.le_of_ble_eq_true rfl, Nat.le_of_ble_eq_true rfl⟩ (fun r14 g15 => ?_)
              exact aw_iret iX7_copy_98 rfl
            · refine aw_iload iX7_copy_77 rfl ?_
              refine aw_iload iX7_copy_79 rfl ?_
              refine aw_aload_n iX7_copy_81 rfl rfl ?_
              refine aw_getR (own := "") iX7_copy_82 flX7_13 zlt61 zsh61 rfl ?_
              refine aw_iload_n iX7_copy_85 rfl rfl ?_
              refine aw_iald iX7_copy_86 zlt63 zsh63 (fun v16 _ => ?_)
              refine aw_callS (M' := mX7_isPart) (As := [.inl a3, .inl a4, .inl v16]) iX7_copy_87 lkX7_65 mcX7_isPart msX7_isPart rfl (kX7_isPart a3 a4 v16 g13) rfl (Nat.le_of_ble_eq_true rfl) ⟨Nat.le_of_ble_eq_true rfl, Nat.le_of_ble_eq_true rfl⟩ (fun r17 g18 => ?_)
              refine aw_if_ne iX7_copy_90 ?_ ?_
              · refine aw_aload_n iX7_copy_93 rfl rfl ?_
                refine aw_iconst (v := 2) iX7_copy_94 (by decide) ?_
                refine aw_callV (M' := mX7_finds) (As := [.inl (2 : Int32)]) iX7_copy_95 lkX7_58 mcX7_finds mvX7_finds rfl zrc61 (kX7_finds (2 : Int32) g18) rfl (Nat.le_of_ble_eq_true rfl) ⟨Nat.le_of_ble_eq_true rfl, Nat.le_of_ble_eq_true rfl⟩ (fun r19 g20 => ?_)
                exact aw_iret iX7_copy_98 rfl
              · refine aw_iload_n iX7_copy_99 rfl rfl ?_
                refine aw_iload_n iX7_copy_100 rfl rfl ?_
                refine aw_icmp_ne iX7_copy_101 ?_ ?_
                · refine aw_iload iX7_copy_104 rfl ?_
                  refine aw_iload_n iX7_copy_106 rfl rfl ?_
                  refine aw_icmp_le iX7_copy_107 ?_ ?_
                  · refine aw_iconst (v := 0) iX7_copy_114 (by decide) ?_
                    refine aw_istore (L' := [some (.inr 61), some (.inl a0), some (.inl a1), some (.inl a2), some (.inl a3), some (.inl a4), some (.inl (0 : Int32)), none, none]) iX7_copy_115 (Nat.le_of_ble_eq_true rfl) rfl ?_
                    refine aw_iconst (v := 0) iX7_copy_117 (by decide) ?_
                    refine aw_istore (L' := [some (.inr 61), some (.inl a0), some (.inl a1), some (.inl a2), some (.inl a3), some (.inl a4), some (.inl (0 : Int32)), some (.inl (0 : Int32)), none]) iX7_copy_118 (Nat.le_of_ble_eq_true rfl) rfl ?_
                    refine wX7_copy_L120 a0 a1 a2 a3 a4 (0 : Int32) _ (fun l26 g27 => ?_) FU (0 : Int32) g18
                    refine aw_aload_n iX7_copy_181 rfl rfl ?_
                    refine aw_iload iX7_copy_182 rfl ?_
                    refine aw_callV (M' := mX7_done) (As := [.inl a4]) iX7_copy_184 lkX7_62 mcX7_done mvX7_done rfl zrc61 (kX7_done a4 g27) rfl (Nat.le_of_ble_eq_true rfl) ⟨Nat.le_of_ble_eq_true rfl, Nat.le_of_ble_eq_true rfl⟩ (fun r28 g29 => ?_)
                    exact aw_iret iX7_copy_187 rfl
                  · refine aw_iconst (v := 1) iX7_copy_110 (by decide) ?_
                    refine aw_goto iX7_copy_111 ?_
                    refine aw_istore (L' := [some (.inr 61), some (.inl a0), some (.inl a1), some (.inl a2), some (.inl a3), some (.inl a4), some (.inl (1 : Int32)), none, none]) iX7_copy_115 (Nat.le_of_ble_eq_true rfl) rfl ?_
                    refine aw_iconst (v := 0) iX7_copy_117 (by decide) ?_
                    refine aw_istore (L' := [some (.inr 61), some (.inl a0), some (.inl a1), some (.inl a2), some (.inl a3), some (.inl a4), some (.inl (1 : Int32)), some (.inl (0 : Int32)), none]) iX7_copy_118 (Nat.le_of_ble_eq_true rfl) rfl ?_
                    refine wX7_copy_L120 a0 a1 a2 a3 a4 (1 : Int32) _ (fun l30 g31 => ?_) FU (0 : Int32) g18
                    refine aw_aload_n iX7_copy_181 rfl rfl ?_
                    refine aw_iload iX7_copy_182 rfl ?_
                    refine aw_callV (M' := mX7_done) (As := [.inl a4]) iX7_copy_184 lkX7_62 mcX7_done mvX7_done rfl zrc61 (kX7_done a4 g31) rfl (Nat.le_of_ble_eq_true rfl) ⟨Nat.le_of_ble_eq_true rfl, Nat.le_of_ble_eq_true rfl⟩ (fun r32 g33 => ?_)
                    exact aw_iret iX7_copy_187 rfl
                · refine aw_iconst (v := 0) iX7_copy_114 (by decide) ?_
                  refine aw_istore (L' := [some (.inr 61), some (.inl a0), some (.inl a1), some (.inl a2), some (.inl a3), some (.inl a4), some (.inl (0 : Int32)), none, none]) iX7_copy_115 (Nat.le_of_ble_eq_true rfl) rfl ?_
                  refine aw_iconst (v := 0) iX7_copy_117 (by decide) ?_
                  refine aw_istore (L' := [some (.inr 61), some (.inl a0), some (.inl a1), some (.inl a2), some (.inl a3), some (.inl a4), some (.inl (0 : Int32)), some (.inl (0 : Int32)), none]) iX7_copy_118 (Nat.le_of_ble_eq_true rfl) rfl ?_
                  refine wX7_copy_L120 a0 a1 a2 a3 a4 (0 : Int32) _ (fun l34 g35 => ?_) FU (0 : Int32) g18
                  refine aw_aload_n iX7_copy_181 rfl rfl ?_
                  refine aw_iload iX7_copy_182 rfl ?_
                  refine aw_callV (M' := mX7_done) (As := [.inl a4]) iX7_copy_184 lkX7_62 mcX7_done mvX7_done rfl zrc61 (kX7_done a4 g35) rfl (Nat.le_of_ble_eq_true rfl) ⟨Nat.le_of_ble_eq_true rfl, Nat.le_of_ble_eq_true rfl⟩ (fun r36 g37 => ?_)
                  exact aw_iret iX7_copy_187 rfl
          · refine aw_aload_n iX7_copy_56 rfl rfl ?_
            refine aw_iconst (v := 5) iX7_copy_57 (by decide) ?_
            refine aw_callV (M' := mX7_finds) (As := [.inl (5 : Int32)]) iX7_copy_58 lkX7_58 mcX7_finds mvX7_finds rfl zrc61 (kX7_finds (5 : Int32) g4) rfl (Nat.le_of_ble_eq_true rfl) ⟨Nat.le_of_ble_eq_true rfl, Nat.le_of_ble_eq_true rfl⟩ (fun r38 g39 => ?_)
            exact aw_iret iX7_copy_61 rfl
        · refine aw_aload_n iX7_copy_35 rfl rfl ?_
          refine aw_iconst (v := 1) iX7_copy_36 (by decide) ?_
          refine aw_callV (M' := mX7_finds) (As := [.inl (1 : Int32)]) iX7_copy_37 lkX7_58 mcX7_finds mvX7_finds rfl zrc61 (kX7_finds (1 : Int32) g4) rfl (Nat.le_of_ble_eq_true rfl) ⟨Nat.le_of_ble_eq_true rfl, Nat.le_of_ble_eq_true rfl⟩ (fun r40 g41 => ?_)
          exact aw_iret iX7_copy_40 rfl
set_option maxRecDepth 20000 in
set_option maxHeartbeats 4000000 in
theorem kX7_copy (a0 : Int32) (a1 : Int32) (a2 : Int32) (a3 : Int32) (a4 : Int32) (g : Mem) : CT mX7_copy [.inr 61, .inl a0, .inl a1, .inl a2, .inl a3, .inl a4] g (fX7_copy a0 a1 a2 a3 a4 g) := CT.of (nr := 3) (by decide +kernel) (Nat.le_of_ble_eq_true rfl) (Or.inr (Or.inl rfl)) (wX7_copy a0 a1 a2 a3 a4 g)
set_option maxRecDepth 20000 in
set_option maxHeartbeats 4000000 in
theorem wX7_drop (a0 : Int32) (g : Mem) : aw mX7_drop none 0 [some (.inr 61), some (.inl a0)] [] g (fX7_drop a0 g) := by
  unfold fX7_drop
  refine aw_iload_n iX7_drop_0 rfl rfl ?_
  refine aw_callS (M' := mX7_isRow) (As := [.inl a0]) iX7_drop_1 lkX7_53 mcX7_isRow msX7_isRow rfl (kX7_isRow a0 g) rfl (Nat.le_of_ble_eq_true rfl) ⟨Nat.le_of_ble_eq_true rfl, Nat.le_of_ble_eq_true rfl⟩ (fun r1 g2 => ?_)
  refine aw_if_ne iX7_drop_4 ?_ ?_
  · refine aw_ldc (v := (-1000001)) iX7_drop_7 kcX7_57 ?_
    exact aw_iret iX7_drop_9 rfl
  · refine aw_aload_n iX7_drop_10 rfl rfl ?_
    refine aw_getR (own := "") iX7_drop_11 flX7_7 zlt61 zsh61 rfl ?_
    refine aw_iload_n iX7_drop_14 rfl rfl ?_
    refine aw_iald iX7_drop_15 zlt62 zsh62 (fun v3 _ => ?_)
    refine aw_if_ge iX7_drop_16 ?_ ?_
    · refine aw_aload_n iX7_drop_25 rfl rfl ?_
      refine aw_getR (own := "") iX7_drop_26 flX7_7 zlt61 zsh61 rfl ?_
      refine aw_iload_n iX7_drop_29 rfl rfl ?_
      refine aw_iconst (v := (-1)) iX7_drop_30 (by decide) ?_
      refine aw_iast iX7_drop_31 zlt62 zsh62 (fun g4 _ => ?_)
      refine aw_aload_n iX7_drop_32 rfl rfl ?_
      refine aw_aload_n iX7_drop_33 rfl rfl ?_
      refine aw_getR (own := "") iX7_drop_34 flX7_13 zlt61 zsh61 rfl ?_
      refine aw_iload_n iX7_drop_37 rfl rfl ?_
      refine aw_iald iX7_drop_38 zlt63 zsh63 (fun v5 _ => ?_)
      refine aw_callV (M' := mX7_done) (As := [.inl v5]) iX7_drop_39 lkX7_62 mcX7_done mvX7_done rfl zrc61 (kX7_done v5 g4) rfl (Nat.le_of_ble_eq_true rfl) ⟨Nat.le_of_ble_eq_true rfl, Nat.le_of_ble_eq_true rfl⟩ (fun r6 g7 => ?_)
      exact aw_iret iX7_drop_42 rfl
    · refine aw_aload_n iX7_drop_19 rfl rfl ?_
      refine aw_iconst (v := 1) iX7_drop_20 (by decide) ?_
      refine aw_callV (M' := mX7_finds) (As := [.inl (1 : Int32)]) iX7_drop_21 lkX7_58 mcX7_finds mvX7_finds rfl zrc61 (kX7_finds (1 : Int32) g2) rfl (Nat.le_of_ble_eq_true rfl) ⟨Nat.le_of_ble_eq_true rfl, Nat.le_of_ble_eq_true rfl⟩ (fun r8 g9 => ?_)
      exact aw_iret iX7_drop_24 rfl
set_option maxRecDepth 20000 in
set_option maxHeartbeats 4000000 in
theorem kX7_drop (a0 : Int32) (g : Mem) : CT mX7_drop [.inr 61, .inl a0] g (fX7_drop a0 g) := CT.of (nr := 0) (by decide +kernel) (Nat.le_of_ble_eq_true rfl) (Or.inr (Or.inl rfl)) (wX7_drop a0 g)
set_option maxRecDepth 20000 in
set_option maxHeartbeats 4000000 in
theorem wX7_feed (a0 : Int32) (g : Mem) : aw mX7_feed none 0 [some (.inr 61), some (.inl a0)] [] g (fX7_feed a0 g) := by
  unfold fX7_feed
  refine aw_iload_n iX7_feed_0 rfl rfl ?_
  refine aw_iconst (v := 0) iX7_feed_1 (by decide) ?_
  refine aw_sipush (v := 255) iX7_feed_2 (by decide) ?_
  refine aw_callS (M' := mX7_in) (As := [.inl a0, .inl (0 : Int32), .inl (255 : Int32)]) iX7_feed_5 lkX7_49 mcX7_in msX7_in rfl (kX7_in a0 (0 : Int32) (255 : Int32) g) rfl (Nat.le_of_ble_eq_true rfl) ⟨Nat.le_of_ble_eq_true rfl, Nat.le_of_ble_eq_true rfl⟩ (fun r1 g2 => ?_)
  refine aw_if_ne iX7_feed_8 ?_ ?_
  · refine aw_ldc (v := (-1000001)) iX7_feed_11 kcX7_57 ?_
    exact aw_iret iX7_feed_13 rfl
  · refine aw_aload_n iX7_feed_14 rfl rfl ?_
    refine aw_getI (own := "") iX7_feed_15 flX7_68 zlt61 zsh61 rfl ?_
    refine aw_bipush (v := 120) iX7_feed_18 (by decide) ?_
    refine aw_icmp_ne iX7_feed_20 ?_ ?_
    · refine aw_ldc (v := (-1000003)) iX7_feed_23 kcX7_71 ?_
      exact aw_iret iX7_feed_25 rfl
    · refine aw_aload_n iX7_feed_26 rfl rfl ?_
      refine aw_getR (own := "") iX7_feed_27 flX7_19 zlt61 zsh61 rfl ?_
      refine aw_aload_n iX7_feed_30 rfl rfl ?_
      refine aw_getI (own := "") iX7_feed_31 flX7_68 zlt61 zsh61 rfl ?_
      refine aw_iload_n iX7_feed_34 rfl rfl ?_
      refine aw_iast iX7_feed_35 zlt65 zsh65 (fun g3 _ => ?_)
      refine aw_aload_n iX7_feed_36 rfl rfl ?_
      refine aw_dup iX7_feed_37 ?_
      refine aw_getI (own := "") iX7_feed_38 flX7_68 zlt61 zsh61 rfl ?_
      refine aw_iconst (v := 1) iX7_feed_41 (by decide) ?_
      refine aw_iadd iX7_feed_42 ?_
      refine aw_putI iX7_feed_43 fpX7_68 zlt61 zsh61 rfl (fun g4 _ => ?_)
      refine aw_aload_n iX7_feed_46 rfl rfl ?_
      refine aw_getI (own := "") iX7_feed_47 flX7_68 zlt61 zsh61 rfl ?_
      exact aw_iret iX7_feed_50 rfl
set_option maxRecDepth 20000 in
set_option maxHeartbeats 4000000 in
theorem kX7_feed (a0 : Int32) (g : Mem) : CT mX7_feed [.inr 61, .inl a0] g (fX7_feed a0 g) := CT.of (nr := 0) (by decide +kernel) (Nat.le_of_ble_eq_true rfl) (Or.inr (Or.inl rfl)) (wX7_feed a0 g)
set_option maxRecDepth 20000 in
set_option maxHeartbeats 4000000 in
theorem wX7_nextToken_L52 (K : Mem → Option (Int32 × Mem)) (hK : ∀ (g : Mem), aw mX7_nextToken none 139 [some (.inr 61), none] [] g (K  g)) : ∀ (n : Nat) (g : Mem), aw mX7_nextToken none 52 [some (.inr 61), none] [] g (fX7_nextToken_L52 K n  g) := by
  intro n
  induction n with
  | zero => intro  g; exact aw_none
  | succ n ih =>
    intro  g
    rw [fX7_nextToken_L52]
    refine aw_aload_n iX7_nextToken_52 rfl rfl ?_
    refine aw_getI (own := "") iX7_nextToken_53 flX7_72 zlt61 zsh61 rfl ?_
    refine aw_aload_n iX7_nextToken_56 rfl rfl ?_
    refine aw_getI (own := "") iX7_nextToken_57 flX7_68 zlt61 zsh61 rfl ?_
    refine aw_icmp_ge iX7_nextToken_60 ?_ ?_
    · exact hK  g
    · refine aw_aload_n iX7_nextToken_63 rfl rfl ?_
      refine aw_getR (own := "") iX7_nextToken_64 flX7_19 zlt61 zsh61 rfl ?_
      refine aw_aload_n iX7_nextToken_67 rfl rfl ?_
      refine aw_getI (own := "") iX7_nextToken_68 flX7_72 zlt61 zsh61 rfl ?_
      refine aw_iald iX7_nextToken_71 zlt65 zsh65 (fun v18 _ => ?_)
      refine aw_bipush (v := 48) iX7_nextToken_72 (by decide) ?_
      refine aw_bipush (v := 57) iX7_nextToken_74 (by decide) ?_
      refine aw_callS (M' := mX7_in) (As := [.inl v18, .inl (48 : Int32), .inl (57 : Int32)]) iX7_nextToken_76 lkX7_49 mcX7_in msX7_in rfl (kX7_in v18 (48 : Int32) (57 : Int32) g) rfl (Nat.le_of_ble_eq_true rfl) ⟨Nat.le_of_ble_eq_true rfl, Nat.le_of_ble_eq_true rfl⟩ (fun r19 g20 => ?_)
      refine aw_if_eq iX7_nextToken_79 ?_ ?_
      · exact hK  g20
      · refine aw_aload_n iX7_nextToken_82 rfl rfl ?_
        refine aw_aload_n iX7_nextToken_83 rfl rfl ?_
        refine aw_getI (own := "") iX7_nextToken_84 flX7_72 zlt61 zsh61 rfl ?_
        refine aw_aload_n iX7_nextToken_87 rfl rfl ?_
        refine aw_getI (own := "") iX7_nextToken_88 flX7_75 zlt61 zsh61 rfl ?_
        refine aw_isub iX7_nextToken_91 ?_
        refine aw_iconst (v := 3) iX7_nextToken_92 (by decide) ?_
        refine aw_icmp_ge iX7_nextToken_93 ?_ ?_
        · refine aw_aload_n iX7_nextToken_119 rfl rfl ?_
          refine aw_getI (own := "") iX7_nextToken_120 flX7_78 zlt61 zsh61 rfl ?_
          refine aw_putI iX7_nextToken_123 fpX7_78 zlt61 zsh61 rfl (fun g21 _ => ?_)
          refine aw_aload_n iX7_nextToken_126 rfl rfl ?_
          refine aw_dup iX7_nextToken_127 ?_
          refine aw_getI (own := "") iX7_nextToken_128 flX7_72 zlt61 zsh61 rfl ?_
          refine aw_iconst (v := 1) iX7_nextToken_131 (by decide) ?_
          refine aw_iadd iX7_nextToken_132 ?_
          refine aw_putI iX7_nextToken_133 fpX7_72 zlt61 zsh61 rfl (fun g22 _ => ?_)
          refine aw_goto iX7_nextToken_136 ?_
          exact ih  g22
        · refine aw_bipush (v := 10) iX7_nextToken_96 (by decide) ?_
          refine aw_aload_n iX7_nextToken_98 rfl rfl ?_
          refine aw_getI (own := "") iX7_nextToken_99 flX7_78 zlt61 zsh61 rfl ?_
          refine aw_imul iX7_nextToken_102 ?_
          refine aw_aload_n iX7_nextToken_103 rfl rfl ?_
          refine aw_getR (own := "") iX7_nextToken_104 flX7_19 zlt61 zsh61 rfl ?_
          refine aw_aload_n iX7_nextToken_107 rfl rfl ?_
          refine aw_getI (own := "") iX7_nextToken_108 flX7_72 zlt61 zsh61 rfl ?_
          refine aw_iald iX7_nextToken_111 zlt65 zsh65 (fun v23 _ => ?_)
          refine aw_iadd iX7_nextToken_112 ?_
          refine aw_bipush (v := 48) iX7_nextToken_113 (by decide) ?_
          refine aw_isub iX7_nextToken_115 ?_
          refine aw_goto iX7_nextToken_116 ?_
          refine aw_putI iX7_nextToken_123 fpX7_78 zlt61 zsh61 rfl (fun g24 _ => ?_)
          refine aw_aload_n iX7_nextToken_126 rfl rfl ?_
          refine aw_dup iX7_nextToken_127 ?_
          refine aw_getI (own := "") iX7_nextToken_128 flX7_72 zlt61 zsh61 rfl ?_
          refine aw_iconst (v := 1) iX7_nextToken_131 (by decide) ?_
          refine aw_iadd iX7_nextToken_132 ?_
          refine aw_putI iX7_nextToken_133 fpX7_72 zlt61 zsh61 rfl (fun g25 _ => ?_)
          refine aw_goto iX7_nextToken_136 ?_
          exact ih  g25
set_option maxRecDepth 20000 in
set_option maxHeartbeats 4000000 in
theorem wX7_nextToken (g : Mem) : aw mX7_nextToken none 0 [some (.inr 61), none] [] g (fX7_nextToken g) := by
  unfold fX7_nextToken
  refine aw_aload_n iX7_nextToken_0 rfl rfl ?_
  refine aw_aload_n iX7_nextToken_1 rfl rfl ?_
  refine aw_getI (own := "") iX7_nextToken_2 flX7_72 zlt61 zsh61 rfl ?_
  refine aw_putI iX7_nextToken_5 fpX7_75 zlt61 zsh61 rfl (fun g1 _ => ?_)
  refine aw_aload_n iX7_nextToken_8 rfl rfl ?_
  refine aw_iconst (v := 0) iX7_nextToken_9 (by decide) ?_
  refine aw_putI iX7_nextToken_10 fpX7_78 zlt61 zsh61 rfl (fun g2 _ => ?_)
  refine aw_aload_n iX7_nextToken_13 rfl rfl ?_
  refine aw_getI (own := "") iX7_nextToken_14 flX7_72 zlt61 zsh61 rfl ?_
  refine aw_aload_n iX7_nextToken_17 rfl rfl ?_
  refine aw_getI (own := "") iX7_nextToken_18 flX7_68 zlt61 zsh61 rfl ?_
  refine aw_icmp_ne iX7_nextToken_21 ?_ ?_
  · refine aw_aload_n iX7_nextToken_24 rfl rfl ?_
    refine aw_bipush (v := (-2)) iX7_nextToken_25 (by decide) ?_
    refine aw_putI iX7_nextToken_27 fpX7_81 zlt61 zsh61 rfl (fun g3 _ => ?_)
    refine aw_goto iX7_nextToken_30 ?_
    exact aw_vret iX7_nextToken_218 rfl
  · refine aw_aload_n iX7_nextToken_33 rfl rfl ?_
    refine aw_getR (own := "") iX7_nextToken_34 flX7_19 zlt61 zsh61 rfl ?_
    refine aw_aload_n iX7_nextToken_37 rfl rfl ?_
    refine aw_getI (own := "") iX7_nextToken_38 flX7_72 zlt61 zsh61 rfl ?_
    refine aw_iald iX7_nextToken_41 zlt65 zsh65 (fun v4 _ => ?_)
    refine aw_bipush (v := 48) iX7_nextToken_42 (by decide) ?_
    refine aw_bipush (v := 57) iX7_nextToken_44 (by decide) ?_
    refine aw_callS (M' := mX7_in) (As := [.inl v4, .inl (48 : Int32), .inl (57 : Int32)]) iX7_nextToken_46 lkX7_49 mcX7_in msX7_in rfl (kX7_in v4 (48 : Int32) (57 : Int32) g2) rfl (Nat.le_of_ble_eq_true rfl) ⟨Nat.le_of_ble_eq_true rfl, Nat.le_of_ble_eq_true rfl⟩ (fun r5 g6 => ?_)
    refine aw_if_eq iX7_nextToken_49 ?_ ?_
    · refine aw_aload_n iX7_nextToken_165 rfl rfl ?_
      refine aw_getR (own := "") iX7_nextToken_166 flX7_19 zlt61 zsh61 rfl ?_
      refine aw_aload_n iX7_nextToken_169 rfl rfl ?_
      refine aw_getI (own := "") iX7_nextToken_170 flX7_72 zlt61 zsh61 rfl ?_
      refine aw_iald iX7_nextToken_173 zlt65 zsh65 (fun v7 _ => ?_)
      refine aw_istore_n (L' := [some (.inr 61), some (.inl v7)]) iX7_nextToken_174 rfl (Nat.le_of_ble_eq_true rfl) rfl ?_
      refine aw_aload_n iX7_nextToken_175 rfl rfl ?_
      refine aw_iload_n iX7_nextToken_176 rfl rfl ?_
      refine aw_bipush (v := 97) iX7_nextToken_177 (by decide) ?_
      refine aw_bipush (v := 122) iX7_nextToken_179 (by decide) ?_
      refine aw_callS (M' := mX7_in) (As := [.inl v7, .inl (97 : Int32), .inl (122 : Int32)]) iX7_nextToken_181 lkX7_49 mcX7_in msX7_in rfl (kX7_in v7 (97 : Int32) (122 : Int32) g6) rfl (Nat.le_of_ble_eq_true rfl) ⟨Nat.le_of_ble_eq_true rfl, Nat.le_of_ble_eq_true rfl⟩ (fun r8 g9 => ?_)
      refine aw_if_ne iX7_nextToken_184 ?_ ?_
      · refine aw_iload_n iX7_nextToken_187 rfl rfl ?_
        refine aw_bipush (v := 44) iX7_nextToken_188 (by decide) ?_
        refine aw_icmp_eq iX7_nextToken_190 ?_ ?_
        · refine aw_iload_n iX7_nextToken_199 rfl rfl ?_
          refine aw_goto iX7_nextToken_200 ?_
          refine aw_putI iX7_nextToken_205 fpX7_81 zlt61 zsh61 rfl (fun g10 _ => ?_)
          refine aw_aload_n iX7_nextToken_208 rfl rfl ?_
          refine aw_dup iX7_nextToken_209 ?_
          refine aw_getI (own := "") iX7_nextToken_210 flX7_72 zlt61 zsh61 rfl ?_
          refine aw_iconst (v := 1) iX7_nextToken_213 (by decide) ?_
          refine aw_iadd iX7_nextToken_214 ?_
          refine aw_putI iX7_nextToken_215 fpX7_72 zlt61 zsh61 rfl (fun g11 _ => ?_)
          exact aw_vret iX7_nextToken_218 rfl
        · refine aw_iload_n iX7_nextToken_193 rfl rfl ?_
          refine aw_bipush (v := 59) iX7_nextToken_194 (by decide) ?_
          refine aw_icmp_ne iX7_nextToken_196 ?_ ?_
          · refine aw_iload_n iX7_nextToken_199 rfl rfl ?_
            refine aw_goto iX7_nextToken_200 ?_
            refine aw_putI iX7_nextToken_205 fpX7_81 zlt61 zsh61 rfl (fun g12 _ => ?_)
            refine aw_aload_n iX7_nextToken_208 rfl rfl ?_
            refine aw_dup iX7_nextToken_209 ?_
            refine aw_getI (own := "") iX7_nextToken_210 flX7_72 zlt61 zsh61 rfl ?_
            refine aw_iconst (v := 1) iX7_nextToken_213 (by decide) ?_
            refine aw_iadd iX7_nextToken_214 ?_
            refine aw_putI iX7_nextToken_215 fpX7_72 zlt61 zsh61 rfl (fun g13 _ => ?_)
            exact aw_vret iX7_nextToken_218 rfl
          · refine aw_bipush (v := (-3)) iX7_nextToken_203 (by decide) ?_
            refine aw_putI iX7_nextToken_205 fpX7_81 zlt61 zsh61 rfl (fun g14 _ => ?_)
            refine aw_aload_n iX7_nextToken_208 rfl rfl ?_
            refine aw_dup iX7_nextToken_209 ?_
            refine aw_getI (own := "") iX7_nextToken_210 flX7_72 zlt61 zsh61 rfl ?_
            refine aw_iconst (v := 1) iX7_nextToken_213 (by decide) ?_
            refine aw_iadd iX7_nextToken_214 ?_
            refine aw_putI iX7_nextToken_215 fpX7_72 zlt61 zsh61 rfl (fun g15 _ => ?_)
            exact aw_vret iX7_nextToken_218 rfl
      · refine aw_iload_n iX7_nextToken_199 rfl rfl ?_
        refine aw_goto iX7_nextToken_200 ?_
        refine aw_putI iX7_nextToken_205 fpX7_81 zlt61 zsh61 rfl (fun g16 _ => ?_)
        refine aw_aload_n iX7_nextToken_208 rfl rfl ?_
        refine aw_dup iX7_nextToken_209 ?_
        refine aw_getI (own := "") iX7_nextToken_210 flX7_72 zlt61 zsh61 rfl ?_
        refine aw_iconst (v := 1) iX7_nextToken_213 (by decide) ?_
        refine aw_iadd iX7_nextToken_214 ?_
        refine aw_putI iX7_nextToken_215 fpX7_72 zlt61 zsh61 rfl (fun g17 _ => ?_)
        exact aw_vret iX7_nextToken_218 rfl
    · refine wX7_nextToken_L52 _ (fun g26 => ?_) FU  g6
      refine aw_aload_n iX7_nextToken_139 rfl rfl ?_
      refine aw_aload_n iX7_nextToken_140 rfl rfl ?_
      refine aw_getI (own := "") iX7_nextToken_141 flX7_72 zlt61 zsh61 rfl ?_
      refine aw_aload_n iX7_nextToken_144 rfl rfl ?_
      refine aw_getI (own := "") iX7_nextToken_145 flX7_75 zlt61 zsh61 rfl ?_
      refine aw_isub iX7_nextToken_148 ?_
      refine aw_iconst (v := 3) iX7_nextToken_149 (by decide) ?_
      refine aw_icmp_le iX7_nextToken_150 ?_ ?_
      · refine aw_iconst (v := (-1)) iX7_nextToken_158 (by decide) ?_
        refine aw_putI iX7_nextToken_159 fpX7_81 zlt61 zsh61 rfl (fun g27 _ => ?_)
        refine aw_goto iX7_nextToken_162 ?_
        exact aw_vret iX7_nextToken_218 rfl
      · refine aw_bipush (v := (-3)) iX7_nextToken_153 (by decide) ?_
        refine aw_goto iX7_nextToken_155 ?_
        refine aw_putI iX7_nextToken_159 fpX7_81 zlt61 zsh61 rfl (fun g28 _ => ?_)
        refine aw_goto iX7_nextToken_162 ?_
        exact aw_vret iX7_nextToken_218 rfl
set_option maxRecDepth 20000 in
set_option maxHeartbeats 4000000 in
theorem kX7_nextToken (g : Mem) : CT mX7_nextToken [.inr 61] g (fX7_nextToken g) := CT.of (nr := 1) (by decide +kernel) (Nat.le_of_ble_eq_true rfl) (Or.inl rfl) (wX7_nextToken g)
set_option maxRecDepth 20000 in
set_option maxHeartbeats 4000000 in
theorem wX7_fails (a0 : Int32) (g : Mem) : aw mX7_fails none 0 [some (.inr 61), some (.inl a0)] [] g (fX7_fails a0 g) := by
  unfold fX7_fails
  refine aw_aload_n iX7_fails_0 rfl rfl ?_
  refine aw_iload_n iX7_fails_1 rfl rfl ?_
  refine aw_putI iX7_fails_2 fpX7_84 zlt61 zsh61 rfl (fun g1 _ => ?_)
  refine aw_iconst (v := 0) iX7_fails_5 (by decide) ?_
  exact aw_zretK iX7_fails_6 rfl (Or.inl rfl)
set_option maxRecDepth 20000 in
set_option maxHeartbeats 4000000 in
theorem kX7_fails (a0 : Int32) (g : Mem) : CT mX7_fails [.inr 61, .inl a0] g (fX7_fails a0 g) := CT.of (nr := 0) (by decide +kernel) (Nat.le_of_ble_eq_true rfl) (Or.inr (Or.inr rfl)) (wX7_fails a0 g)
set_option maxRecDepth 20000 in
set_option maxHeartbeats 4000000 in
theorem wX7_isNumber (a0 : Int32) (g : Mem) : aw mX7_isNumber none 0 [some (.inr 61), some (.inl a0)] [] g (fX7_isNumber a0 g) := by
  unfold fX7_isNumber
  refine aw_aload_n iX7_isNumber_0 rfl rfl ?_
  refine aw_callVv (M' := mX7_nextToken) (As := []) iX7_isNumber_1 lkX7_87 mcX7_nextToken mvX7_nextToken rfl zrc61 (kX7_nextToken g) rfl (Nat.le_of_ble_eq_true rfl) ⟨Nat.le_of_ble_eq_true rfl, Nat.le_of_ble_eq_true rfl⟩ (fun r1 g2 => ?_)
  refine aw_aload_n iX7_isNumber_4 rfl rfl ?_
  refine aw_getI (own := "") iX7_isNumber_5 flX7_81 zlt61 zsh61 rfl ?_
  refine aw_iconst (v := (-1)) iX7_isNumber_8 (by decide) ?_
  refine aw_icmp_eq iX7_isNumber_9 ?_ ?_
  · refine aw_aload_n iX7_isNumber_18 rfl rfl ?_
    refine aw_getI (own := "") iX7_isNumber_19 flX7_78 zlt61 zsh61 rfl ?_
    refine aw_iload_n iX7_isNumber_22 rfl rfl ?_
    refine aw_icmp_le iX7_isNumber_23 ?_ ?_
    · refine aw_iconst (v := 1) iX7_isNumber_34 (by decide) ?_
      refine aw_goto iX7_isNumber_35 ?_
      exact aw_zretK iX7_isNumber_39 rfl (Or.inr rfl)
    · refine aw_aload_n iX7_isNumber_26 rfl rfl ?_
      refine aw_iconst (v := 2) iX7_isNumber_27 (by decide) ?_
      refine aw_callV (M' := mX7_fails) (As := [.inl (2 : Int32)]) iX7_isNumber_28 lkX7_90 mcX7_fails mvX7_fails rfl zrc61 (kX7_fails (2 : Int32) g2) rfl (Nat.le_of_ble_eq_true rfl) ⟨Nat.le_of_ble_eq_true rfl, Nat.le_of_ble_eq_true rfl⟩ (fun r3 g4 => ?_)
      refine aw_if_eq iX7_isNumber_31 ?_ ?_
      · refine aw_iconst (v := 0) iX7_isNumber_38 (by decide) ?_
        exact aw_zretK iX7_isNumber_39 rfl (Or.inl rfl)
      · refine aw_iconst (v := 1) iX7_isNumber_34 (by decide) ?_
        refine aw_goto iX7_isNumber_35 ?_
        exact aw_zretK iX7_isNumber_39 rfl (Or.inr rfl)
  · refine aw_aload_n iX7_isNumber_12 rfl rfl ?_
    refine aw_iconst (v := 1) iX7_isNumber_13 (by decide) ?_
    refine aw_callV (M' := mX7_fails) (As := [.inl (1 : Int32)]) iX7_isNumber_14 lkX7_90 mcX7_fails mvX7_fails rfl zrc61 (kX7_fails (1 : Int32) g2) rfl (Nat.le_of_ble_eq_true rfl) ⟨Nat.le_of_ble_eq_true rfl, Nat.le_of_ble_eq_true rfl⟩ (fun r5 g6 => ?_)
    exact aw_zret iX7_isNumber_17 rfl
set_option maxRecDepth 20000 in
set_option maxHeartbeats 4000000 in
theorem kX7_isNumber (a0 : Int32) (g : Mem) : CT mX7_isNumber [.inr 61, .inl a0] g (fX7_isNumber a0 g) := CT.of (nr := 0) (by decide +kernel) (Nat.le_of_ble_eq_true rfl) (Or.inr (Or.inr rfl)) (wX7_isNumber a0 g)
set_option maxRecDepth 20000 in
set_option maxHeartbeats 4000000 in
theorem wX7_isSign (a0 : Int32) (g : Mem) : aw mX7_isSign none 0 [some (.inr 61), some (.inl a0)] [] g (fX7_isSign a0 g) := by
  unfold fX7_isSign
  refine aw_aload_n iX7_isSign_0 rfl rfl ?_
  refine aw_callVv (M' := mX7_nextToken) (As := []) iX7_isSign_1 lkX7_87 mcX7_nextToken mvX7_nextToken rfl zrc61 (kX7_nextToken g) rfl (Nat.le_of_ble_eq_true rfl) ⟨Nat.le_of_ble_eq_true rfl, Nat.le_of_ble_eq_true rfl⟩ (fun r1 g2 => ?_)
  refine aw_aload_n iX7_isSign_4 rfl rfl ?_
  refine aw_getI (own := "") iX7_isSign_5 flX7_81 zlt61 zsh61 rfl ?_
  refine aw_iload_n iX7_isSign_8 rfl rfl ?_
  refine aw_icmp_eq iX7_isSign_9 ?_ ?_
  · refine aw_iconst (v := 1) iX7_isSign_20 (by decide) ?_
    refine aw_goto iX7_isSign_21 ?_
    exact aw_zretK iX7_isSign_25 rfl (Or.inr rfl)
  · refine aw_aload_n iX7_isSign_12 rfl rfl ?_
    refine aw_iconst (v := 1) iX7_isSign_13 (by decide) ?_
    refine aw_callV (M' := mX7_fails) (As := [.inl (1 : Int32)]) iX7_isSign_14 lkX7_90 mcX7_fails mvX7_fails rfl zrc61 (kX7_fails (1 : Int32) g2) rfl (Nat.le_of_ble_eq_true rfl) ⟨Nat.le_of_ble_eq_true rfl, Nat.le_of_ble_eq_true rfl⟩ (fun r3 g4 => ?_)
    refine aw_if_eq iX7_isSign_17 ?_ ?_
    · refine aw_iconst (v := 0) iX7_isSign_24 (by decide) ?_
      exact aw_zretK iX7_isSign_25 rfl (Or.inl rfl)
    · refine aw_iconst (v := 1) iX7_isSign_20 (by decide) ?_
      refine aw_goto iX7_isSign_21 ?_
      exact aw_zretK iX7_isSign_25 rfl (Or.inr rfl)
set_option maxRecDepth 20000 in
set_option maxHeartbeats 4000000 in
theorem kX7_isSign (a0 : Int32) (g : Mem) : CT mX7_isSign [.inr 61, .inl a0] g (fX7_isSign a0 g) := CT.of (nr := 0) (by decide +kernel) (Nat.le_of_ble_eq_true rfl) (Or.inr (Or.inr rfl)) (wX7_isSign a0 g)
set_option maxRecDepth 20000 in
set_option maxHeartbeats 4000000 in
theorem wX7_sortOf (a0 : Int32) (g : Mem) : aw mX7_sortOf none 0 [some (.inl a0)] [] g (fX7_sortOf a0 g) := by
  unfold fX7_sortOf
  refine aw_iload_n iX7_sortOf_0 rfl rfl ?_
  refine aw_bipush (v := 112) iX7_sortOf_1 (by decide) ?_
  refine aw_icmp_ne iX7_sortOf_3 ?_ ?_
  · refine aw_iconst (v := 1) iX7_sortOf_6 (by decide) ?_
    refine aw_goto iX7_sortOf_7 ?_
    exact aw_iret iX7_sortOf_51 rfl
  · refine aw_iload_n iX7_sortOf_10 rfl rfl ?_
    refine aw_bipush (v := 100) iX7_sortOf_11 (by decide) ?_
    refine aw_icmp_ne iX7_sortOf_13 ?_ ?_
    · refine aw_iconst (v := 2) iX7_sortOf_16 (by decide) ?_
      refine aw_goto iX7_sortOf_17 ?_
      exact aw_iret iX7_sortOf_51 rfl
    · refine aw_iload_n iX7_sortOf_20 rfl rfl ?_
      refine aw_bipush (v := 103) iX7_sortOf_21 (by decide) ?_
      refine aw_icmp_ne iX7_sortOf_23 ?_ ?_
      · refine aw_iconst (v := 3) iX7_sortOf_26 (by decide) ?_
        refine aw_goto iX7_sortOf_27 ?_
        exact aw_iret iX7_sortOf_51 rfl
      · refine aw_iload_n iX7_sortOf_30 rfl rfl ?_
        refine aw_bipush (v := 108) iX7_sortOf_31 (by decide) ?_
        refine aw_icmp_ne iX7_sortOf_33 ?_ ?_
        · refine aw_iconst (v := 4) iX7_sortOf_36 (by decide) ?_
          refine aw_goto iX7_sortOf_37 ?_
          exact aw_iret iX7_sortOf_51 rfl
        · refine aw_iload_n iX7_sortOf_40 rfl rfl ?_
          refine aw_bipush (v := 117) iX7_sortOf_41 (by decide) ?_
          refine aw_icmp_ne iX7_sortOf_43 ?_ ?_
          · refine aw_iconst (v := 5) iX7_sortOf_46 (by decide) ?_
            refine aw_goto iX7_sortOf_47 ?_
            exact aw_iret iX7_sortOf_51 rfl
          · refine aw_iconst (v := 0) iX7_sortOf_50 (by decide) ?_
            exact aw_iret iX7_sortOf_51 rfl
set_option maxRecDepth 20000 in
set_option maxHeartbeats 4000000 in
theorem kX7_sortOf (a0 : Int32) (g : Mem) : CT mX7_sortOf [.inl a0] g (fX7_sortOf a0 g) := CT.of (nr := 0) (by decide +kernel) (Nat.le_of_ble_eq_true rfl) (Or.inr (Or.inl rfl)) (wX7_sortOf a0 g)
set_option maxRecDepth 20000 in
set_option maxHeartbeats 4000000 in
theorem wX7_isLaw (g : Mem) : aw mX7_isLaw none 0 [some (.inr 61)] [] g (fX7_isLaw g) := by
  unfold fX7_isLaw
  refine aw_aload_n iX7_isLaw_0 rfl rfl ?_
  refine aw_bipush (v := 107) iX7_isLaw_1 (by decide) ?_
  refine aw_callV (M' := mX7_isSign) (As := [.inl (107 : Int32)]) iX7_isLaw_3 lkX7_93 mcX7_isSign mvX7_isSign rfl zrc61 (kX7_isSign (107 : Int32) g) rfl (Nat.le_of_ble_eq_true rfl) ⟨Nat.le_of_ble_eq_true rfl, Nat.le_of_ble_eq_true rfl⟩ (fun r1 g2 => ?_)
  refine aw_if_eq iX7_isLaw_6 ?_ ?_
  · refine aw_iconst (v := 0) iX7_isLaw_19 (by decide) ?_
    exact aw_zretK iX7_isLaw_20 rfl (Or.inl rfl)
  · refine aw_aload_n iX7_isLaw_9 rfl rfl ?_
    refine aw_sipush (v := 255) iX7_isLaw_10 (by decide) ?_
    refine aw_callV (M' := mX7_isNumber) (As := [.inl (255 : Int32)]) iX7_isLaw_13 lkX7_96 mcX7_isNumber mvX7_isNumber rfl zrc61 (kX7_isNumber (255 : Int32) g2) rfl (Nat.le_of_ble_eq_true rfl) ⟨Nat.le_of_ble_eq_true rfl, Nat.le_of_ble_eq_true rfl⟩ (fun r3 g4 => ?_)
    refine aw_if_ne iX7_isLaw_16 ?_ ?_
    · refine aw_iconst (v := 0) iX7_isLaw_19 (by decide) ?_
      exact aw_zretK iX7_isLaw_20 rfl (Or.inl rfl)
    · refine aw_aload_n iX7_isLaw_21 rfl rfl ?_
      refine aw_getR (own := "") iX7_isLaw_22 flX7_25 zlt61 zsh61 rfl ?_
      refine aw_iconst (v := 1) iX7_isLaw_25 (by decide) ?_
      refine aw_aload_n iX7_isLaw_26 rfl rfl ?_
      refine aw_getI (own := "") iX7_isLaw_27 flX7_78 zlt61 zsh61 rfl ?_
      refine aw_iast iX7_isLaw_30 zlt67 zsh67 (fun g5 _ => ?_)
      refine aw_aload_n iX7_isLaw_31 rfl rfl ?_
      refine aw_bipush (v := 44) iX7_isLaw_32 (by decide) ?_
      refine aw_callV (M' := mX7_isSign) (As := [.inl (44 : Int32)]) iX7_isLaw_34 lkX7_93 mcX7_isSign mvX7_isSign rfl zrc61 (kX7_isSign (44 : Int32) g5) rfl (Nat.le_of_ble_eq_true rfl) ⟨Nat.le_of_ble_eq_true rfl, Nat.le_of_ble_eq_true rfl⟩ (fun r6 g7 => ?_)
      refine aw_if_eq iX7_isLaw_37 ?_ ?_
      · refine aw_iconst (v := 0) iX7_isLaw_49 (by decide) ?_
        exact aw_zretK iX7_isLaw_50 rfl (Or.inl rfl)
      · refine aw_aload_n iX7_isLaw_40 rfl rfl ?_
        refine aw_bipush (v := 99) iX7_isLaw_41 (by decide) ?_
        refine aw_callV (M' := mX7_isNumber) (As := [.inl (99 : Int32)]) iX7_isLaw_43 lkX7_96 mcX7_isNumber mvX7_isNumber rfl zrc61 (kX7_isNumber (99 : Int32) g7) rfl (Nat.le_of_ble_eq_true rfl) ⟨Nat.le_of_ble_eq_true rfl, Nat.le_of_ble_eq_true rfl⟩ (fun r8 g9 => ?_)
        refine aw_if_ne iX7_isLaw_46 ?_ ?_
        · refine aw_iconst (v := 0) iX7_isLaw_49 (by decide) ?_
          exact aw_zretK iX7_isLaw_50 rfl (Or.inl rfl)
        · refine aw_aload_n iX7_isLaw_51 rfl rfl ?_
          refine aw_getR (own := "") iX7_isLaw_52 flX7_25 zlt61 zsh61 rfl ?_
          refine aw_iconst (v := 2) iX7_isLaw_55 (by decide) ?_
          refine aw_aload_n iX7_isLaw_56 rfl rfl ?_
          refine aw_getI (own := "") iX7_isLaw_57 flX7_78 zlt61 zsh61 rfl ?_
          refine aw_iast iX7_isLaw_60 zlt67 zsh67 (fun g10 _ => ?_)
          refine aw_aload_n iX7_isLaw_61 rfl rfl ?_
          refine aw_bipush (v := 59) iX7_isLaw_62 (by decide) ?_
          refine aw_callV (M' := mX7_isSign) (As := [.inl (59 : Int32)]) iX7_isLaw_64 lkX7_93 mcX7_isSign mvX7_isSign rfl zrc61 (kX7_isSign (59 : Int32) g10) rfl (Nat.le_of_ble_eq_true rfl) ⟨Nat.le_of_ble_eq_true rfl, Nat.le_of_ble_eq_true rfl⟩ (fun r11 g12 => ?_)
          exact aw_zret iX7_isLaw_67 rfl
set_option maxRecDepth 20000 in
set_option maxHeartbeats 4000000 in
theorem kX7_isLaw (g : Mem) : CT mX7_isLaw [.inr 61] g (fX7_isLaw g) := CT.of (nr := 0) (by decide +kernel) (Nat.le_of_ble_eq_true rfl) (Or.inr (Or.inr rfl)) (wX7_isLaw g)
set_option maxRecDepth 20000 in
set_option maxHeartbeats 4000000 in
theorem wX7_isThing (g : Mem) : aw mX7_isThing none 0 [some (.inr 61)] [] g (fX7_isThing g) := by
  unfold fX7_isThing
  refine aw_aload_n iX7_isThing_0 rfl rfl ?_
  refine aw_getR (own := "") iX7_isThing_1 flX7_25 zlt61 zsh61 rfl ?_
  refine aw_iconst (v := 3) iX7_isThing_4 (by decide) ?_
  refine aw_iald iX7_isThing_5 zlt67 zsh67 (fun v1 _ => ?_)
  refine aw_bipush (v := 8) iX7_isThing_6 (by decide) ?_
  refine aw_icmp_ne iX7_isThing_8 ?_ ?_
  · refine aw_aload_n iX7_isThing_11 rfl rfl ?_
    refine aw_iconst (v := 3) iX7_isThing_12 (by decide) ?_
    refine aw_callV (M' := mX7_fails) (As := [.inl (3 : Int32)]) iX7_isThing_13 lkX7_90 mcX7_fails mvX7_fails rfl zrc61 (kX7_fails (3 : Int32) g) rfl (Nat.le_of_ble_eq_true rfl) ⟨Nat.le_of_ble_eq_true rfl, Nat.le_of_ble_eq_true rfl⟩ (fun r2 g3 => ?_)
    exact aw_zret iX7_isThing_16 rfl
  · refine aw_aload_n iX7_isThing_17 rfl rfl ?_
    refine aw_bipush (v := 31) iX7_isThing_18 (by decide) ?_
    refine aw_callV (M' := mX7_isNumber) (As := [.inl (31 : Int32)]) iX7_isThing_20 lkX7_96 mcX7_isNumber mvX7_isNumber rfl zrc61 (kX7_isNumber (31 : Int32) g) rfl (Nat.le_of_ble_eq_true rfl) ⟨Nat.le_of_ble_eq_true rfl, Nat.le_of_ble_eq_true rfl⟩ (fun r4 g5 => ?_)
    refine aw_if_ne iX7_isThing_23 ?_ ?_
    · refine aw_iconst (v := 0) iX7_isThing_26 (by decide) ?_
      exact aw_zretK iX7_isThing_27 rfl (Or.inl rfl)
    · refine aw_aload_n iX7_isThing_28 rfl rfl ?_
      refine aw_getR (own := "") iX7_isThing_29 flX7_25 zlt61 zsh61 rfl ?_
      refine aw_bipush (v := 8) iX7_isThing_32 (by decide) ?_
      refine aw_aload_n iX7_isThing_34 rfl rfl ?_
      refine aw_getR (own := "") iX7_isThing_35 flX7_25 zlt61 zsh61 rfl ?_
      refine aw_iconst (v := 3) iX7_isThing_38 (by decide) ?_
      refine aw_iald iX7_isThing_39 zlt67 zsh67 (fun v6 _ => ?_)
      refine aw_iadd iX7_isThing_40 ?_
      refine aw_aload_n iX7_isThing_41 rfl rfl ?_
      refine aw_getI (own := "") iX7_isThing_42 flX7_78 zlt61 zsh61 rfl ?_
      refine aw_iast iX7_isThing_45 zlt67 zsh67 (fun g7 _ => ?_)
      refine aw_aload_n iX7_isThing_46 rfl rfl ?_
      refine aw_getR (own := "") iX7_isThing_47 flX7_25 zlt61 zsh61 rfl ?_
      refine aw_iconst (v := 3) iX7_isThing_50 (by decide) ?_
      refine aw_dup2 iX7_isThing_51 ?_
      refine aw_iald iX7_isThing_52 zlt67 zsh67 (fun v8 _ => ?_)
      refine aw_iconst (v := 1) iX7_isThing_53 (by decide) ?_
      refine aw_iadd iX7_isThing_54 ?_
      refine aw_iast iX7_isThing_55 zlt67 zsh67 (fun g9 _ => ?_)
      refine aw_aload_n iX7_isThing_56 rfl rfl ?_
      refine aw_bipush (v := 59) iX7_isThing_57 (by decide) ?_
      refine aw_callV (M' := mX7_isSign) (As := [.inl (59 : Int32)]) iX7_isThing_59 lkX7_93 mcX7_isSign mvX7_isSign rfl zrc61 (kX7_isSign (59 : Int32) g9) rfl (Nat.le_of_ble_eq_true rfl) ⟨Nat.le_of_ble_eq_true rfl, Nat.le_of_ble_eq_true rfl⟩ (fun r10 g11 => ?_)
      exact aw_zret iX7_isThing_62 rfl
set_option maxRecDepth 20000 in
set_option maxHeartbeats 4000000 in
theorem kX7_isThing (g : Mem) : CT mX7_isThing [.inr 61] g (fX7_isThing g) := CT.of (nr := 0) (by decide +kernel) (Nat.le_of_ble_eq_true rfl) (Or.inr (Or.inr rfl)) (wX7_isThing g)
set_option maxRecDepth 20000 in
set_option maxHeartbeats 4000000 in
theorem wX7_isRiddle (g : Mem) : aw mX7_isRiddle none 0 [some (.inr 61), none] [] g (fX7_isRiddle g) := by
  unfold fX7_isRiddle
  refine aw_aload_n iX7_isRiddle_0 rfl rfl ?_
  refine aw_getR (own := "") iX7_isRiddle_1 flX7_25 zlt61 zsh61 rfl ?_
  refine aw_iconst (v := 4) iX7_isRiddle_4 (by decide) ?_
  refine aw_iald iX7_isRiddle_5 zlt67 zsh67 (fun v1 _ => ?_)
  refine aw_istore_n (L' := [some (.inr 61), some (.inl v1)]) iX7_isRiddle_6 rfl (Nat.le_of_ble_eq_true rfl) rfl ?_
  refine aw_iload_n iX7_isRiddle_7 rfl rfl ?_
  refine aw_bipush (v := 6) iX7_isRiddle_8 (by decide) ?_
  refine aw_icmp_ne iX7_isRiddle_10 ?_ ?_
  · refine aw_aload_n iX7_isRiddle_13 rfl rfl ?_
    refine aw_iconst (v := 3) iX7_isRiddle_14 (by decide) ?_
    refine aw_callV (M' := mX7_fails) (As := [.inl (3 : Int32)]) iX7_isRiddle_15 lkX7_90 mcX7_fails mvX7_fails rfl zrc61 (kX7_fails (3 : Int32) g) rfl (Nat.le_of_ble_eq_true rfl) ⟨Nat.le_of_ble_eq_true rfl, Nat.le_of_ble_eq_true rfl⟩ (fun r2 g3 => ?_)
    exact aw_zret iX7_isRiddle_18 rfl
  · refine aw_aload_n iX7_isRiddle_19 rfl rfl ?_
    refine aw_getR (own := "") iX7_isRiddle_20 flX7_25 zlt61 zsh61 rfl ?_
    refine aw_bipush (v := 16) iX7_isRiddle_23 (by decide) ?_
    refine aw_iload_n iX7_isRiddle_25 rfl rfl ?_
    refine aw_iadd iX7_isRiddle_26 ?_
    refine aw_aload_n iX7_isRiddle_27 rfl rfl ?_
    refine aw_getI (own := "") iX7_isRiddle_28 flX7_81 zlt61 zsh61 rfl ?_
    refine aw_callS (M' := mX7_sortOf) (As := [.inl (g 61 8)]) iX7_isRiddle_31 lkX7_99 mcX7_sortOf msX7_sortOf rfl (kX7_sortOf (g 61 8) g) rfl (Nat.le_of_ble_eq_true rfl) ⟨Nat.le_of_ble_eq_true rfl, Nat.le_of_ble_eq_true rfl⟩ (fun r4 g5 => ?_)
    refine aw_iast iX7_isRiddle_34 zlt67 zsh67 (fun g6 _ => ?_)
    refine aw_aload_n iX7_isRiddle_35 rfl rfl ?_
    refine aw_bipush (v := 31) iX7_isRiddle_36 (by decide) ?_
    refine aw_callV (M' := mX7_isNumber) (As := [.inl (31 : Int32)]) iX7_isRiddle_38 lkX7_96 mcX7_isNumber mvX7_isNumber rfl zrc61 (kX7_isNumber (31 : Int32) g6) rfl (Nat.le_of_ble_eq_true rfl) ⟨Nat.le_of_ble_eq_true rfl, Nat.le_of_ble_eq_true rfl⟩ (fun r7 g8 => ?_)
    refine aw_if_ne iX7_isRiddle_41 ?_ ?_
    · refine aw_iconst (v := 0) iX7_isRiddle_44 (by decide) ?_
      exact aw_zretK iX7_isRiddle_45 rfl (Or.inl rfl)
    · refine aw_aload_n iX7_isRiddle_46 rfl rfl ?_
      refine aw_getR (own := "") iX7_isRiddle_47 flX7_25 zlt61 zsh61 rfl ?_
      refine aw_bipush (v := 22) iX7_isRiddle_50 (by decide) ?_
      refine aw_iload_n iX7_isRiddle_52 rfl rfl ?_
      refine aw_iadd iX7_isRiddle_53 ?_
      refine aw_aload_n iX7_isRiddle_54 rfl rfl ?_
      refine aw_getI (own := "") iX7_isRiddle_55 flX7_78 zlt61 zsh61 rfl ?_
      refine aw_iast iX7_isRiddle_58 zlt67 zsh67 (fun g9 _ => ?_)
      refine aw_aload_n iX7_isRiddle_59 rfl rfl ?_
      refine aw_bipush (v := 44) iX7_isRiddle_60 (by decide) ?_
      refine aw_callV (M' := mX7_isSign) (As := [.inl (44 : Int32)]) iX7_isRiddle_62 lkX7_93 mcX7_isSign mvX7_isSign rfl zrc61 (kX7_isSign (44 : Int32) g9) rfl (Nat.le_of_ble_eq_true rfl) ⟨Nat.le_of_ble_eq_true rfl, Nat.le_of_ble_eq_true rfl⟩ (fun r10 g11 => ?_)
      refine aw_if_eq iX7_isRiddle_65 ?_ ?_
      · refine aw_iconst (v := 0) iX7_isRiddle_77 (by decide) ?_
        exact aw_zretK iX7_isRiddle_78 rfl (Or.inl rfl)
      · refine aw_aload_n iX7_isRiddle_68 rfl rfl ?_
        refine aw_bipush (v := 31) iX7_isRiddle_69 (by decide) ?_
        refine aw_callV (M' := mX7_isNumber) (As := [.inl (31 : Int32)]) iX7_isRiddle_71 lkX7_96 mcX7_isNumber mvX7_isNumber rfl zrc61 (kX7_isNumber (31 : Int32) g11) rfl (Nat.le_of_ble_eq_true rfl) ⟨Nat.le_of_ble_eq_true rfl, Nat.le_of_ble_eq_true rfl⟩ (fun r12 g13 => ?_)
        refine aw_if_ne iX7_isRiddle_74 ?_ ?_
        · refine aw_iconst (v := 0) iX7_isRiddle_77 (by decide) ?_
          exact aw_zretK iX7_isRiddle_78 rfl (Or.inl rfl)
        · refine aw_aload_n iX7_isRiddle_79 rfl rfl ?_
          refine aw_getI (own := "") iX7_isRiddle_80 flX7_78 zlt61 zsh61 rfl ?_
          refine aw_aload_n iX7_isRiddle_83 rfl rfl ?_
          refine aw_getR (own := "") iX7_isRiddle_84 flX7_25 zlt61 zsh61 rfl ?_
          refine aw_bipush (v := 22) iX7_isRiddle_87 (by decide) ?_
          refine aw_iload_n iX7_isRiddle_89 rfl rfl ?_
          refine aw_iadd iX7_isRiddle_90 ?_
          refine aw_iald iX7_isRiddle_91 zlt67 zsh67 (fun v14 _ => ?_)
          refine aw_iand iX7_isRiddle_92 ?_
          refine aw_if_eq iX7_isRiddle_93 ?_ ?_
          · refine aw_aload_n iX7_isRiddle_102 rfl rfl ?_
            refine aw_getR (own := "") iX7_isRiddle_103 flX7_25 zlt61 zsh61 rfl ?_
            refine aw_bipush (v := 28) iX7_isRiddle_106 (by decide) ?_
            refine aw_iload_n iX7_isRiddle_108 rfl rfl ?_
            refine aw_iadd iX7_isRiddle_109 ?_
            refine aw_aload_n iX7_isRiddle_110 rfl rfl ?_
            refine aw_getI (own := "") iX7_isRiddle_111 flX7_78 zlt61 zsh61 rfl ?_
            refine aw_iast iX7_isRiddle_114 zlt67 zsh67 (fun g15 _ => ?_)
            refine aw_aload_n iX7_isRiddle_115 rfl rfl ?_
            refine aw_getR (own := "") iX7_isRiddle_116 flX7_25 zlt61 zsh61 rfl ?_
            refine aw_iconst (v := 4) iX7_isRiddle_119 (by decide) ?_
            refine aw_dup2 iX7_isRiddle_120 ?_
            refine aw_iald iX7_isRiddle_121 zlt67 zsh67 (fun v16 _ => ?_)
            refine aw_iconst (v := 1) iX7_isRiddle_122 (by decide) ?_
            refine aw_iadd iX7_isRiddle_123 ?_
            refine aw_iast iX7_isRiddle_124 zlt67 zsh67 (fun g17 _ => ?_)
            refine aw_aload_n iX7_isRiddle_125 rfl rfl ?_
            refine aw_bipush (v := 59) iX7_isRiddle_126 (by decide) ?_
            refine aw_callV (M' := mX7_isSign) (As := [.inl (59 : Int32)]) iX7_isRiddle_128 lkX7_93 mcX7_isSign mvX7_isSign rfl zrc61 (kX7_isSign (59 : Int32) g17) rfl (Nat.le_of_ble_eq_true rfl) ⟨Nat.le_of_ble_eq_true rfl, Nat.le_of_ble_eq_true rfl⟩ (fun r18 g19 => ?_)
            exact aw_zret iX7_isRiddle_131 rfl
          · refine aw_aload_n iX7_isRiddle_96 rfl rfl ?_
            refine aw_iconst (v := 2) iX7_isRiddle_97 (by decide) ?_
            refine aw_callV (M' := mX7_fails) (As := [.inl (2 : Int32)]) iX7_isRiddle_98 lkX7_90 mcX7_fails mvX7_fails rfl zrc61 (kX7_fails (2 : Int32) g13) rfl (Nat.le_of_ble_eq_true rfl) ⟨Nat.le_of_ble_eq_true rfl, Nat.le_of_ble_eq_true rfl⟩ (fun r20 g21 => ?_)
            exact aw_zret iX7_isRiddle_101 rfl
set_option maxRecDepth 20000 in
set_option maxHeartbeats 4000000 in
theorem kX7_isRiddle (g : Mem) : CT mX7_isRiddle [.inr 61] g (fX7_isRiddle g) := CT.of (nr := 1) (by decide +kernel) (Nat.le_of_ble_eq_true rfl) (Or.inr (Or.inr rfl)) (wX7_isRiddle g)
set_option maxRecDepth 20000 in
set_option maxHeartbeats 4000000 in
theorem wX7_isSuitor (g : Mem) : aw mX7_isSuitor none 0 [some (.inr 61)] [] g (fX7_isSuitor g) := by
  unfold fX7_isSuitor
  refine aw_aload_n iX7_isSuitor_0 rfl rfl ?_
  refine aw_getR (own := "") iX7_isSuitor_1 flX7_25 zlt61 zsh61 rfl ?_
  refine aw_iconst (v := 5) iX7_isSuitor_4 (by decide) ?_
  refine aw_iald iX7_isSuitor_5 zlt67 zsh67 (fun v1 _ => ?_)
  refine aw_iconst (v := 4) iX7_isSuitor_6 (by decide) ?_
  refine aw_icmp_ne iX7_isSuitor_7 ?_ ?_
  · refine aw_aload_n iX7_isSuitor_10 rfl rfl ?_
    refine aw_iconst (v := 3) iX7_isSuitor_11 (by decide) ?_
    refine aw_callV (M' := mX7_fails) (As := [.inl (3 : Int32)]) iX7_isSuitor_12 lkX7_90 mcX7_fails mvX7_fails rfl zrc61 (kX7_fails (3 : Int32) g) rfl (Nat.le_of_ble_eq_true rfl) ⟨Nat.le_of_ble_eq_true rfl, Nat.le_of_ble_eq_true rfl⟩ (fun r2 g3 => ?_)
    exact aw_zret iX7_isSuitor_15 rfl
  · refine aw_aload_n iX7_isSuitor_16 rfl rfl ?_
    refine aw_iconst (v := 1) iX7_isSuitor_17 (by decide) ?_
    refine aw_aload_n iX7_isSuitor_18 rfl rfl ?_
    refine aw_getR (own := "") iX7_isSuitor_19 flX7_25 zlt61 zsh61 rfl ?_
    refine aw_iconst (v := 3) iX7_isSuitor_22 (by decide) ?_
    refine aw_iald iX7_isSuitor_23 zlt67 zsh67 (fun v4 _ => ?_)
    refine aw_ishl iX7_isSuitor_24 ?_
    refine aw_iconst (v := 1) iX7_isSuitor_25 (by decide) ?_
    refine aw_isub iX7_isSuitor_26 ?_
    refine aw_callV (M' := mX7_isNumber) (As := [.inl (((1 : Int32) <<< (v4 &&& 31)) - (1 : Int32))]) iX7_isSuitor_27 lkX7_96 mcX7_isNumber mvX7_isNumber rfl zrc61 (kX7_isNumber (((1 : Int32) <<< (v4 &&& 31)) - (1 : Int32)) g) rfl (Nat.le_of_ble_eq_true rfl) ⟨Nat.le_of_ble_eq_true rfl, Nat.le_of_ble_eq_true rfl⟩ (fun r5 g6 => ?_)
    refine aw_if_ne iX7_isSuitor_30 ?_ ?_
    · refine aw_iconst (v := 0) iX7_isSuitor_33 (by decide) ?_
      exact aw_zretK iX7_isSuitor_34 rfl (Or.inl rfl)
    · refine aw_aload_n iX7_isSuitor_35 rfl rfl ?_
      refine aw_getR (own := "") iX7_isSuitor_36 flX7_25 zlt61 zsh61 rfl ?_
      refine aw_bipush (v := 34) iX7_isSuitor_39 (by decide) ?_
      refine aw_aload_n iX7_isSuitor_41 rfl rfl ?_
      refine aw_getR (own := "") iX7_isSuitor_42 flX7_25 zlt61 zsh61 rfl ?_
      refine aw_iconst (v := 5) iX7_isSuitor_45 (by decide) ?_
      refine aw_iald iX7_isSuitor_46 zlt67 zsh67 (fun v7 _ => ?_)
      refine aw_iadd iX7_isSuitor_47 ?_
      refine aw_aload_n iX7_isSuitor_48 rfl rfl ?_
      refine aw_getI (own := "") iX7_isSuitor_49 flX7_78 zlt61 zsh61 rfl ?_
      refine aw_iast iX7_isSuitor_52 zlt67 zsh67 (fun g8 _ => ?_)
      refine aw_aload_n iX7_isSuitor_53 rfl rfl ?_
      refine aw_getR (own := "") iX7_isSuitor_54 flX7_25 zlt61 zsh61 rfl ?_
      refine aw_iconst (v := 5) iX7_isSuitor_57 (by decide) ?_
      refine aw_dup2 iX7_isSuitor_58 ?_
      refine aw_iald iX7_isSuitor_59 zlt67 zsh67 (fun v9 _ => ?_)
      refine aw_iconst (v := 1) iX7_isSuitor_60 (by decide) ?_
      refine aw_iadd iX7_isSuitor_61 ?_
      refine aw_iast iX7_isSuitor_62 zlt67 zsh67 (fun g10 _ => ?_)
      refine aw_aload_n iX7_isSuitor_63 rfl rfl ?_
      refine aw_bipush (v := 59) iX7_isSuitor_64 (by decide) ?_
      refine aw_callV (M' := mX7_isSign) (As := [.inl (59 : Int32)]) iX7_isSuitor_66 lkX7_93 mcX7_isSign mvX7_isSign rfl zrc61 (kX7_isSign (59 : Int32) g10) rfl (Nat.le_of_ble_eq_true rfl) ⟨Nat.le_of_ble_eq_true rfl, Nat.le_of_ble_eq_true rfl⟩ (fun r11 g12 => ?_)
      exact aw_zret iX7_isSuitor_69 rfl
set_option maxRecDepth 20000 in
set_option maxHeartbeats 4000000 in
theorem kX7_isSuitor (g : Mem) : CT mX7_isSuitor [.inr 61] g (fX7_isSuitor g) := CT.of (nr := 0) (by decide +kernel) (Nat.le_of_ble_eq_true rfl) (Or.inr (Or.inr rfl)) (wX7_isSuitor g)
set_option maxRecDepth 20000 in
set_option maxHeartbeats 4000000 in
theorem wX7_isRead_L7 (K : Int32 → Mem → Option (Int32 × Mem)) (hK : ∀ (l1 : Int32) (g : Mem), aw mX7_isRead none 26 [some (.inr 61), some (.inl l1), none] [] g (K l1 g)) : ∀ (n : Nat) (l1 : Int32) (g : Mem), aw mX7_isRead none 7 [some (.inr 61), some (.inl l1), none] [] g (fX7_isRead_L7 K n l1 g) := by
  intro n
  induction n with
  | zero => intro l1 g; exact aw_none
  | succ n ih =>
    intro l1 g
    rw [fX7_isRead_L7]
    refine aw_iload_n iX7_isRead_7 rfl rfl ?_
    refine aw_bipush (v := 50) iX7_isRead_8 (by decide) ?_
    refine aw_icmp_ge iX7_isRead_10 ?_ ?_
    · exact hK l1 g
    · refine aw_aload_n iX7_isRead_13 rfl rfl ?_
      refine aw_getR (own := "") iX7_isRead_14 flX7_25 zlt61 zsh61 rfl ?_
      refine aw_iload_n iX7_isRead_17 rfl rfl ?_
      refine aw_iconst (v := 0) iX7_isRead_18 (by decide) ?_
      refine aw_iast iX7_isRead_19 zlt67 zsh67 (fun g2 _ => ?_)
      refine aw_iinc (L' := [some (.inr 61), some (.inl (l1 + (1 : Int32))), none]) (v := l1 + (1 : Int32)) iX7_isRead_20 rfl rfl (Nat.le_of_ble_eq_true rfl) rfl ?_
      refine aw_goto iX7_isRead_23 ?_
      exact ih (l1 + (1 : Int32)) g2
set_option maxRecDepth 20000 in
set_option maxHeartbeats 4000000 in
theorem wX7_isRead_L41 (K : Int32 → Mem → Option (Int32 × Mem)) (hK : ∀ (l1 : Int32) (g : Mem), aw mX7_isRead none 154 [some (.inr 61), some (.inl l1), none] [] g (K l1 g)) : ∀ (n : Nat) (l1 : Int32) (g : Mem), aw mX7_isRead none 41 [some (.inr 61), some (.inl l1), none] [] g (fX7_isRead_L41 K n l1 g) := by
  intro n
  induction n with
  | zero => intro l1 g; exact aw_none
  | succ n ih =>
    intro l1 g
    rw [fX7_isRead_L41]
    refine aw_aload_n iX7_isRead_41 rfl rfl ?_
    refine aw_getI (own := "") iX7_isRead_42 flX7_81 zlt61 zsh61 rfl ?_
    refine aw_bipush (v := (-2)) iX7_isRead_45 (by decide) ?_
    refine aw_icmp_eq iX7_isRead_47 ?_ ?_
    · exact hK l1 g
    · refine aw_iload_n iX7_isRead_50 rfl rfl ?_
      refine aw_if_eq iX7_isRead_51 ?_ ?_
      · exact hK l1 g
      · refine aw_aload_n iX7_isRead_54 rfl rfl ?_
        refine aw_getR (own := "") iX7_isRead_55 flX7_25 zlt61 zsh61 rfl ?_
        refine aw_iconst (v := 5) iX7_isRead_58 (by decide) ?_
        refine aw_iald iX7_isRead_59 zlt67 zsh67 (fun v9 _ => ?_)
        refine aw_if_ne iX7_isRead_60 ?_ ?_
        · refine aw_iconst (v := 1) iX7_isRead_63 (by decide) ?_
          refine aw_goto iX7_isRead_64 ?_
          refine aw_istore_n (L' := [some (.inr 61), some (.inl l1), some (.inl (1 : Int32))]) iX7_isRead_68 rfl (Nat.le_of_ble_eq_true rfl) rfl ?_
          refine aw_aload_n iX7_isRead_69 rfl rfl ?_
          refine aw_getI (own := "") iX7_isRead_70 flX7_81 zlt61 zsh61 rfl ?_
          refine aw_bipush (v := 116) iX7_isRead_73 (by decide) ?_
          refine aw_icmp_ne iX7_isRead_75 ?_ ?_
          · refine aw_iload_n iX7_isRead_78 rfl rfl ?_
            refine aw_if_eq_F iX7_isRead_79 (by decide) ?_
            refine aw_aload_n iX7_isRead_82 rfl rfl ?_
            refine aw_getR (own := "") iX7_isRead_83 flX7_25 zlt61 zsh61 rfl ?_
            refine aw_iconst (v := 4) iX7_isRead_86 (by decide) ?_
            refine aw_iald iX7_isRead_87 zlt67 zsh67 (fun v10 _ => ?_)
            refine aw_if_ne iX7_isRead_88 ?_ ?_
            · refine aw_aload_n iX7_isRead_91 rfl rfl ?_
              refine aw_callV (M' := mX7_isThing) (As := []) iX7_isRead_92 lkX7_106 mcX7_isThing mvX7_isThing rfl zrc61 (kX7_isThing g) rfl (Nat.le_of_ble_eq_true rfl) ⟨Nat.le_of_ble_eq_true rfl, Nat.le_of_ble_eq_true rfl⟩ (fun r11 g12 => ?_)
              refine aw_istore_n (L' := [some (.inr 61), some (.inl r11), some (.inl (1 : Int32))]) iX7_isRead_95 rfl (Nat.le_of_ble_eq_true rfl) rfl ?_
              refine aw_goto iX7_isRead_96 ?_
              refine aw_iload_n iX7_isRead_143 rfl rfl ?_
              refine aw_if_eq iX7_isRead_144 ?_ ?_
              · refine aw_goto iX7_isRead_151 ?_
                refine aw_msk [true, true, false] rfl ?_
                exact ih r11 g12
              · refine aw_aload_n iX7_isRead_147 rfl rfl ?_
                refine aw_callVv (M' := mX7_nextToken) (As := []) iX7_isRead_148 lkX7_87 mcX7_nextToken mvX7_nextToken rfl zrc61 (kX7_nextToken g12) rfl (Nat.le_of_ble_eq_true rfl) ⟨Nat.le_of_ble_eq_true rfl, Nat.le_of_ble_eq_true rfl⟩ (fun r13 g14 => ?_)
                refine aw_goto iX7_isRead_151 ?_
                refine aw_msk [true, true, false] rfl ?_
                exact ih r11 g14
            · refine aw_aload_n iX7_isRead_99 rfl rfl ?_
              refine aw_getI (own := "") iX7_isRead_100 flX7_81 zlt61 zsh61 rfl ?_
              refine aw_callS (M' := mX7_sortOf) (As := [.inl (g 61 8)]) iX7_isRead_103 lkX7_99 mcX7_sortOf msX7_sortOf rfl (kX7_sortOf (g 61 8) g) rfl (Nat.le_of_ble_eq_true rfl) ⟨Nat.le_of_ble_eq_true rfl, Nat.le_of_ble_eq_true rfl⟩ (fun r15 g16 => ?_)
              refine aw_if_le iX7_isRead_106 ?_ ?_
              · refine aw_aload_n iX7_isRead_121 rfl rfl ?_
                refine aw_getI (own := "") iX7_isRead_122 flX7_81 zlt61 zsh61 rfl ?_
                refine aw_bipush (v := 119) iX7_isRead_125 (by decide) ?_
                refine aw_icmp_ne iX7_isRead_127 ?_ ?_
                · refine aw_aload_n iX7_isRead_130 rfl rfl ?_
                  refine aw_callV (M' := mX7_isSuitor) (As := []) iX7_isRead_131 lkX7_112 mcX7_isSuitor mvX7_isSuitor rfl zrc61 (kX7_isSuitor g16) rfl (Nat.le_of_ble_eq_true rfl) ⟨Nat.le_of_ble_eq_true rfl, Nat.le_of_ble_eq_true rfl⟩ (fun r17 g18 => ?_)
                  refine aw_goto iX7_isRead_134 ?_
                  refine aw_istore_n (L' := [some (.inr 61), some (.inl r17), some (.inl (1 : Int32))]) iX7_isRead_142 rfl (Nat.le_of_ble_eq_true rfl) rfl ?_
                  refine aw_iload_n iX7_isRead_143 rfl rfl ?_
                  refine aw_if_eq iX7_isRead_144 ?_ ?_
                  · refine aw_goto iX7_isRead_151 ?_
                    refine aw_msk [true, true, false] rfl ?_
                    exact ih r17 g18
                  · refine aw_aload_n iX7_isRead_147 rfl rfl ?_
                    refine aw_callVv (M' := mX7_nextToken) (As := []) iX7_isRead_148 lkX7_87 mcX7_nextToken mvX7_nextToken rfl zrc61 (kX7_nextToken g18) rfl (Nat.le_of_ble_eq_true rfl) ⟨Nat.le_of_ble_eq_true rfl, Nat.le_of_ble_eq_true rfl⟩ (fun r19 g20 => ?_)
                    refine aw_goto iX7_isRead_151 ?_
                    refine aw_msk [true, true, false] rfl ?_
                    exact ih r17 g20
                · refine aw_aload_n iX7_isRead_137 rfl rfl ?_
                  refine aw_iconst (v := 1) iX7_isRead_138 (by decide) ?_
                  refine aw_callV (M' := mX7_fails) (As := [.inl (1 : Int32)]) iX7_isRead_139 lkX7_90 mcX7_fails mvX7_fails rfl zrc61 (kX7_fails (1 : Int32) g16) rfl (Nat.le_of_ble_eq_true rfl) ⟨Nat.le_of_ble_eq_true rfl, Nat.le_of_ble_eq_true rfl⟩ (fun r21 g22 => ?_)
                  refine aw_istore_n (L' := [some (.inr 61), some (.inl r21), some (.inl (1 : Int32))]) iX7_isRead_142 rfl (Nat.le_of_ble_eq_true rfl) rfl ?_
                  refine aw_iload_n iX7_isRead_143 rfl rfl ?_
                  refine aw_if_eq iX7_isRead_144 ?_ ?_
                  · refine aw_goto iX7_isRead_151 ?_
                    refine aw_msk [true, true, false] rfl ?_
                    exact ih r21 g22
                  · refine aw_aload_n iX7_isRead_147 rfl rfl ?_
                    refine aw_callVv (M' := mX7_nextToken) (As := []) iX7_isRead_148 lkX7_87 mcX7_nextToken mvX7_nextToken rfl zrc61 (kX7_nextToken g22) rfl (Nat.le_of_ble_eq_true rfl) ⟨Nat.le_of_ble_eq_true rfl, Nat.le_of_ble_eq_true rfl⟩ (fun r23 g24 => ?_)
                    refine aw_goto iX7_isRead_151 ?_
                    refine aw_msk [true, true, false] rfl ?_
                    exact ih r21 g24
              · refine aw_iload_n iX7_isRead_109 rfl rfl ?_
                refine aw_if_eq_F iX7_isRead_110 (by decide) ?_
                refine aw_aload_n iX7_isRead_113 rfl rfl ?_
                refine aw_callV (M' := mX7_isRiddle) (As := []) iX7_isRead_114 lkX7_109 mcX7_isRiddle mvX7_isRiddle rfl zrc61 (kX7_isRiddle g16) rfl (Nat.le_of_ble_eq_true rfl) ⟨Nat.le_of_ble_eq_true rfl, Nat.le_of_ble_eq_true rfl⟩ (fun r25 g26 => ?_)
                refine aw_istore_n (L' := [some (.inr 61), some (.inl r25), some (.inl (1 : Int32))]) iX7_isRead_117 rfl (Nat.le_of_ble_eq_true rfl) rfl ?_
                refine aw_goto iX7_isRead_118 ?_
                refine aw_iload_n iX7_isRead_143 rfl rfl ?_
                refine aw_if_eq iX7_isRead_144 ?_ ?_
                · refine aw_goto iX7_isRead_151 ?_
                  refine aw_msk [true, true, false] rfl ?_
                  exact ih r25 g26
                · refine aw_aload_n iX7_isRead_147 rfl rfl ?_
                  refine aw_callVv (M' := mX7_nextToken) (As := []) iX7_isRead_148 lkX7_87 mcX7_nextToken mvX7_nextToken rfl zrc61 (kX7_nextToken g26) rfl (Nat.le_of_ble_eq_true rfl) ⟨Nat.le_of_ble_eq_true rfl, Nat.le_of_ble_eq_true rfl⟩ (fun r27 g28 => ?_)
                  refine aw_goto iX7_isRead_151 ?_
                  refine aw_msk [true, true, false] rfl ?_
                  exact ih r25 g28
          · refine aw_aload_n iX7_isRead_99 rfl rfl ?_
            refine aw_getI (own := "") iX7_isRead_100 flX7_81 zlt61 zsh61 rfl ?_
            refine aw_callS (M' := mX7_sortOf) (As := [.inl (g 61 8)]) iX7_isRead_103 lkX7_99 mcX7_sortOf msX7_sortOf rfl (kX7_sortOf (g 61 8) g) rfl (Nat.le_of_ble_eq_true rfl) ⟨Nat.le_of_ble_eq_true rfl, Nat.le_of_ble_eq_true rfl⟩ (fun r29 g30 => ?_)
            refine aw_if_le iX7_isRead_106 ?_ ?_
            · refine aw_aload_n iX7_isRead_121 rfl rfl ?_
              refine aw_getI (own := "") iX7_isRead_122 flX7_81 zlt61 zsh61 rfl ?_
              refine aw_bipush (v := 119) iX7_isRead_125 (by decide) ?_
              refine aw_icmp_ne iX7_isRead_127 ?_ ?_
              · refine aw_aload_n iX7_isRead_130 rfl rfl ?_
                refine aw_callV (M' := mX7_isSuitor) (As := []) iX7_isRead_131 lkX7_112 mcX7_isSuitor mvX7_isSuitor rfl zrc61 (kX7_isSuitor g30) rfl (Nat.le_of_ble_eq_true rfl) ⟨Nat.le_of_ble_eq_true rfl, Nat.le_of_ble_eq_true rfl⟩ (fun r31 g32 => ?_)
                refine aw_goto iX7_isRead_134 ?_
                refine aw_istore_n (L' := [some (.inr 61), some (.inl r31), some (.inl (1 : Int32))]) iX7_isRead_142 rfl (Nat.le_of_ble_eq_true rfl) rfl ?_
                refine aw_iload_n iX7_isRead_143 rfl rfl ?_
                refine aw_if_eq iX7_isRead_144 ?_ ?_
                · refine aw_goto iX7_isRead_151 ?_
                  refine aw_msk [true, true, false] rfl ?_
                  exact ih r31 g32
                · refine aw_aload_n iX7_isRead_147 rfl rfl ?_
                  refine aw_callVv (M' := mX7_nextToken) (As := []) iX7_isRead_148 lkX7_87 mcX7_nextToken mvX7_nextToken rfl zrc61 (kX7_nextToken g32) rfl (Nat.le_of_ble_eq_true rfl) ⟨Nat.le_of_ble_eq_true rfl, Nat.le_of_ble_eq_true rfl⟩ (fun r33 g34 => ?_)
                  refine aw_goto iX7_isRead_151 ?_
                  refine aw_msk [true, true, false] rfl ?_
                  exact ih r31 g34
              · refine aw_aload_n iX7_isRead_137 rfl rfl ?_
                refine aw_iconst (v := 1) iX7_isRead_138 (by decide) ?_
                refine aw_callV (M' := mX7_fails) (As := [.inl (1 : Int32)]) iX7_isRead_139 lkX7_90 mcX7_fails mvX7_fails rfl zrc61 (kX7_fails (1 : Int32) g30) rfl (Nat.le_of_ble_eq_true rfl) ⟨Nat.le_of_ble_eq_true rfl, Nat.le_of_ble_eq_true rfl⟩ (fun r35 g36 => ?_)
                refine aw_istore_n (L' := [some (.inr 61), some (.inl r35), some (.inl (1 : Int32))]) iX7_isRead_142 rfl (Nat.le_of_ble_eq_true rfl) rfl ?_
                refine aw_iload_n iX7_isRead_143 rfl rfl ?_
                refine aw_if_eq iX7_isRead_144 ?_ ?_
                · refine aw_goto iX7_isRead_151 ?_
                  refine aw_msk [true, true, false] rfl ?_
                  exact ih r35 g36
                · refine aw_aload_n iX7_isRead_147 rfl rfl ?_
                  refine aw_callVv (M' := mX7_nextToken) (As := []) iX7_isRead_148 lkX7_87 mcX7_nextToken mvX7_nextToken rfl zrc61 (kX7_nextToken g36) rfl (Nat.le_of_ble_eq_true rfl) ⟨Nat.le_of_ble_eq_true rfl, Nat.le_of_ble_eq_true rfl⟩ (fun r37 g38 => ?_)
                  refine aw_goto iX7_isRead_151 ?_
                  refine aw_msk [true, true, false] rfl ?_
                  exact ih r35 g38
            · refine aw_iload_n iX7_isRead_109 rfl rfl ?_
              refine aw_if_eq_F iX7_isRead_110 (by decide) ?_
              refine aw_aload_n iX7_isRead_113 rfl rfl ?_
              refine aw_callV (M' := mX7_isRiddle) (As := []) iX7_isRead_114 lkX7_109 mcX7_isRiddle mvX7_isRiddle rfl zrc61 (kX7_isRiddle g30) rfl (Nat.le_of_ble_eq_true rfl) ⟨Nat.le_of_ble_eq_true rfl, Nat.le_of_ble_eq_true rfl⟩ (fun r39 g40 => ?_)
              refine aw_istore_n (L' := [some (.inr 61), some (.inl r39), some (.inl (1 : Int32))]) iX7_isRead_117 rfl (Nat.le_of_ble_eq_true rfl) rfl ?_
              refine aw_goto iX7_isRead_118 ?_
              refine aw_iload_n iX7_isRead_143 rfl rfl ?_
              refine aw_if_eq iX7_isRead_144 ?_ ?_
              · refine aw_goto iX7_isRead_151 ?_
                refine aw_msk [true, true, false] rfl ?_
                exact ih r39 g40
              · refine aw_aload_n iX7_isRead_147 rfl rfl ?_
                refine aw_callVv (M' := mX7_nextToken) (As := []) iX7_isRead_148 lkX7_87 mcX7_nextToken mvX7_nextToken rfl zrc61 (kX7_nextToken g40) rfl (Nat.le_of_ble_eq_true rfl) ⟨Nat.le_of_ble_eq_true rfl, Nat.le_of_ble_eq_true rfl⟩ (fun r41 g42 => ?_)
                refine aw_goto iX7_isRead_151 ?_
                refine aw_msk [true, true, false] rfl ?_
                exact ih r39 g42
        · refine aw_iconst (v := 0) iX7_isRead_67 (by decide) ?_
          refine aw_istore_n (L' := [some (.inr 61), some (.inl l1), some (.inl (0 : Int32))]) iX7_isRead_68 rfl (Nat.le_of_ble_eq_true rfl) rfl ?_
          refine aw_aload_n iX7_isRead_69 rfl rfl ?_
          refine aw_getI (own := "") iX7_isRead_70 flX7_81 zlt61 zsh61 rfl ?_
          refine aw_bipush (v := 116) iX7_isRead_73 (by decide) ?_
          refine aw_icmp_ne iX7_isRead_75 ?_ ?_
          · refine aw_iload_n iX7_isRead_78 rfl rfl ?_
            refine aw_if_eq_T iX7_isRead_79 (by decide) ?_
            refine aw_aload_n iX7_isRead_99 rfl rfl ?_
            refine aw_getI (own := "") iX7_isRead_100 flX7_81 zlt61 zsh61 rfl ?_
            refine aw_callS (M' := mX7_sortOf) (As := [.inl (g 61 8)]) iX7_isRead_103 lkX7_99 mcX7_sortOf msX7_sortOf rfl (kX7_sortOf (g 61 8) g) rfl (Nat.le_of_ble_eq_true rfl) ⟨Nat.le_of_ble_eq_true rfl, Nat.le_of_ble_eq_true rfl⟩ (fun r43 g44 => ?_)
            refine aw_if_le iX7_isRead_106 ?_ ?_
            · refine aw_aload_n iX7_isRead_121 rfl rfl ?_
              refine aw_getI (own := "") iX7_isRead_122 flX7_81 zlt61 zsh61 rfl ?_
              refine aw_bipush (v := 119) iX7_isRead_125 (by decide) ?_
              refine aw_icmp_ne iX7_isRead_127 ?_ ?_
              · refine aw_aload_n iX7_isRead_130 rfl rfl ?_
                refine aw_callV (M' := mX7_isSuitor) (As := []) iX7_isRead_131 lkX7_112 mcX7_isSuitor mvX7_isSuitor rfl zrc61 (kX7_isSuitor g44) rfl (Nat.le_of_ble_eq_true rfl) ⟨Nat.le_of_ble_eq_true rfl, Nat.le_of_ble_eq_true rfl⟩ (fun r45 g46 => ?_)
                refine aw_goto iX7_isRead_134 ?_
                refine aw_istore_n (L' := [some (.inr 61), some (.inl r45), some (.inl (0 : Int32))]) iX7_isRead_142 rfl (Nat.le_of_ble_eq_true rfl) rfl ?_
                refine aw_iload_n iX7_isRead_143 rfl rfl ?_
                refine aw_if_eq iX7_isRead_144 ?_ ?_
                · refine aw_goto iX7_isRead_151 ?_
                  refine aw_msk [true, true, false] rfl ?_
                  exact ih r45 g46
                · refine aw_aload_n iX7_isRead_147 rfl rfl ?_
                  refine aw_callVv (M' := mX7_nextToken) (As := []) iX7_isRead_148 lkX7_87 mcX7_nextToken mvX7_nextToken rfl zrc61 (kX7_nextToken g46) rfl (Nat.le_of_ble_eq_true rfl) ⟨Nat.le_of_ble_eq_true rfl, Nat.le_of_ble_eq_true rfl⟩ (fun r47 g48 => ?_)
                  refine aw_goto iX7_isRead_151 ?_
                  refine aw_msk [true, true, false] rfl ?_
                  exact ih r45 g48
              · refine aw_aload_n iX7_isRead_137 rfl rfl ?_
                refine aw_iconst (v := 1) iX7_isRead_138 (by decide) ?_
                refine aw_callV (M' := mX7_fails) (As := [.inl (1 : Int32)]) iX7_isRead_139 lkX7_90 mcX7_fails mvX7_fails rfl zrc61 (kX7_fails (1 : Int32) g44) rfl (Nat.le_of_ble_eq_true rfl) ⟨Nat.le_of_ble_eq_true rfl, Nat.le_of_ble_eq_true rfl⟩ (fun r49 g50 => ?_)
                refine aw_istore_n (L' := [some (.inr 61), some (.inl r49), some (.inl (0 : Int32))]) iX7_isRead_142 rfl (Nat.le_of_ble_eq_true rfl) rfl ?_
                refine aw_iload_n iX7_isRead_143 rfl rfl ?_
                refine aw_if_eq iX7_isRead_144 ?_ ?_
                · refine aw_goto iX7_isRead_151 ?_
                  refine aw_msk [true, true, false] rfl ?_
                  exact ih r49 g50
                · refine aw_aload_n iX7_isRead_147 rfl rfl ?_
                  refine aw_callVv (M' := mX7_nextToken) (As := []) iX7_isRead_148 lkX7_87 mcX7_nextToken mvX7_nextToken rfl zrc61 (kX7_nextToken g50) rfl (Nat.le_of_ble_eq_true rfl) ⟨Nat.le_of_ble_eq_true rfl, Nat.le_of_ble_eq_true rfl⟩ (fun r51 g52 => ?_)
                  refine aw_goto iX7_isRead_151 ?_
                  refine aw_msk [true, true, false] rfl ?_
                  exact ih r49 g52
            · refine aw_iload_n iX7_isRead_109 rfl rfl ?_
              refine aw_if_eq_T iX7_isRead_110 (by decide) ?_
              refine aw_aload_n iX7_isRead_121 rfl rfl ?_
              refine aw_getI (own := "") iX7_isRead_122 flX7_81 zlt61 zsh61 rfl ?_
              refine aw_bipush (v := 119) iX7_isRead_125 (by decide) ?_
              refine aw_icmp_ne iX7_isRead_127 ?_ ?_
              · refine aw_aload_n iX7_isRead_130 rfl rfl ?_
                refine aw_callV (M' := mX7_isSuitor) (As := []) iX7_isRead_131 lkX7_112 mcX7_isSuitor mvX7_isSuitor rfl zrc61 (kX7_isSuitor g44) rfl (Nat.le_of_ble_eq_true rfl) ⟨Nat.le_of_ble_eq_true rfl, Nat.le_of_ble_eq_true rfl⟩ (fun r53 g54 => ?_)
                refine aw_goto iX7_isRead_134 ?_
                refine aw_istore_n (L' := [some (.inr 61), some (.inl r53), some (.inl (0 : Int32))]) iX7_isRead_142 rfl (Nat.le_of_ble_eq_true rfl) rfl ?_
                refine aw_iload_n iX7_isRead_143 rfl rfl ?_
                refine aw_if_eq iX7_isRead_144 ?_ ?_
                · refine aw_goto iX7_isRead_151 ?_
                  refine aw_msk [true, true, false] rfl ?_
                  exact ih r53 g54
                · refine aw_aload_n iX7_isRead_147 rfl rfl ?_
                  refine aw_callVv (M' := mX7_nextToken) (As := []) iX7_isRead_148 lkX7_87 mcX7_nextToken mvX7_nextToken rfl zrc61 (kX7_nextToken g54) rfl (Nat.le_of_ble_eq_true rfl) ⟨Nat.le_of_ble_eq_true rfl, Nat.le_of_ble_eq_true rfl⟩ (fun r55 g56 => ?_)
                  refine aw_goto iX7_isRead_151 ?_
                  refine aw_msk [true, true, false] rfl ?_
                  exact ih r53 g56
              · refine aw_aload_n iX7_isRead_137 rfl rfl ?_
                refine aw_iconst (v := 1) iX7_isRead_138 (by decide) ?_
                refine aw_callV (M' := mX7_fails) (As := [.inl (1 : Int32)]) iX7_isRead_139 lkX7_90 mcX7_fails mvX7_fails rfl zrc61 (kX7_fails (1 : Int32) g44) rfl (Nat.le_of_ble_eq_true rfl) ⟨Nat.le_of_ble_eq_true rfl, Nat.le_of_ble_eq_true rfl⟩ (fun r57 g58 => ?_)
                refine aw_istore_n (L' := [some (.inr 61), some (.inl r57), some (.inl (0 : Int32))]) iX7_isRead_142 rfl (Nat.le_of_ble_eq_true rfl) rfl ?_
                refine aw_iload_n iX7_isRead_143 rfl rfl ?_
                refine aw_if_eq iX7_isRead_144 ?_ ?_
                · refine aw_goto iX7_isRead_151 ?_
                  refine aw_msk [true, true, false] rfl ?_
                  exact ih r57 g58
                · refine aw_aload_n iX7_isRead_147 rfl rfl ?_
                  refine aw_callVv (M' := mX7_nextToken) (As := []) iX7_isRead_148 lkX7_87 mcX7_nextToken mvX7_nextToken rfl zrc61 (kX7_nextToken g58) rfl (Nat.le_of_ble_eq_true rfl) ⟨Nat.le_of_ble_eq_true rfl, Nat.le_of_ble_eq_true rfl⟩ (fun r59 g60 => ?_)
                  refine aw_goto iX7_isRead_151 ?_
                  refine aw_msk [true, true, false] rfl ?_
                  exact ih r57 g60
          · refine aw_aload_n iX7_isRead_99 rfl rfl ?_
            refine aw_getI (own := "") iX7_isRead_100 flX7_81 zlt61 zsh61 rfl ?_
            refine aw_callS (M' := mX7_sortOf) (As := [.inl (g 61 8)]) iX7_isRead_103 lkX7_99 mcX7_sortOf msX7_sortOf rfl (kX7_sortOf (g 61 8) g) rfl (Nat.le_of_ble_eq_true rfl) ⟨Nat.le_of_ble_eq_true rfl, Nat.le_of_ble_eq_true rfl⟩ (fun r61 g62 => ?_)
            refine aw_if_le iX7_isRead_106 ?_ ?_
            · refine aw_aload_n iX7_isRead_121 rfl rfl ?_
              refine aw_getI (own := "") iX7_isRead_122 flX7_81 zlt61 zsh61 rfl ?_
              refine aw_bipush (v := 119) iX7_isRead_125 (by decide) ?_
              refine aw_icmp_ne iX7_isRead_127 ?_ ?_
              · refine aw_aload_n iX7_isRead_130 rfl rfl ?_
                refine aw_callV (M' := mX7_isSuitor) (As := []) iX7_isRead_131 lkX7_112 mcX7_isSuitor mvX7_isSuitor rfl zrc61 (kX7_isSuitor g62) rfl (Nat.le_of_ble_eq_true rfl) ⟨Nat.le_of_ble_eq_true rfl, Nat.le_of_ble_eq_true rfl⟩ (fun r63 g64 => ?_)
                refine aw_goto iX7_isRead_134 ?_
                refine aw_istore_n (L' := [some (.inr 61), some (.inl r63), some (.inl (0 : Int32))]) iX7_isRead_142 rfl (Nat.le_of_ble_eq_true rfl) rfl ?_
                refine aw_iload_n iX7_isRead_143 rfl rfl ?_
                refine aw_if_eq iX7_isRead_144 ?_ ?_
                · refine aw_goto iX7_isRead_151 ?_
                  refine aw_msk [true, true, false] rfl ?_
                  exact ih r63 g64
                · refine aw_aload_n iX7_isRead_147 rfl rfl ?_
                  refine aw_callVv (M' := mX7_nextToken) (As := []) iX7_isRead_148 lkX7_87 mcX7_nextToken mvX7_nextToken rfl zrc61 (kX7_nextToken g64) rfl (Nat.le_of_ble_eq_true rfl) ⟨Nat.le_of_ble_eq_true rfl, Nat.le_of_ble_eq_true rfl⟩ (fun r65 g66 => ?_)
                  refine aw_goto iX7_isRead_151 ?_
                  refine aw_msk [true, true, false] rfl ?_
                  exact ih r63 g66
              · refine aw_aload_n iX7_isRead_137 rfl rfl ?_
                refine aw_iconst (v := 1) iX7_isRead_138 (by decide) ?_
                refine aw_callV (M' := mX7_fails) (As := [.inl (1 : Int32)]) iX7_isRead_139 lkX7_90 mcX7_fails mvX7_fails rfl zrc61 (kX7_fails (1 : Int32) g62) rfl (Nat.le_of_ble_eq_true rfl) ⟨Nat.le_of_ble_eq_true rfl, Nat.le_of_ble_eq_true rfl⟩ (fun r67 g68 => ?_)
                refine aw_istore_n (L' := [some (.inr 61), some (.inl r67), some (.inl (0 : Int32))]) iX7_isRead_142 rfl (Nat.le_of_ble_eq_true rfl) rfl ?_
                refine aw_iload_n iX7_isRead_143 rfl rfl ?_
                refine aw_if_eq iX7_isRead_144 ?_ ?_
                · refine aw_goto iX7_isRead_151 ?_
                  refine aw_msk [true, true, false] rfl ?_
                  exact ih r67 g68
                · refine aw_aload_n iX7_isRead_147 rfl rfl ?_
                  refine aw_callVv (M' := mX7_nextToken) (As := []) iX7_isRead_148 lkX7_87 mcX7_nextToken mvX7_nextToken rfl zrc61 (kX7_nextToken g68) rfl (Nat.le_of_ble_eq_true rfl) ⟨Nat.le_of_ble_eq_true rfl, Nat.le_of_ble_eq_true rfl⟩ (fun r69 g70 => ?_)
                  refine aw_goto iX7_isRead_151 ?_
                  refine aw_msk [true, true, false] rfl ?_
                  exact ih r67 g70
            · refine aw_iload_n iX7_isRead_109 rfl rfl ?_
              refine aw_if_eq_T iX7_isRead_110 (by decide) ?_
              refine aw_aload_n iX7_isRead_121 rfl rfl ?_
              refine aw_getI (own := "") iX7_isRead_122 flX7_81 zlt61 zsh61 rfl ?_
              refine aw_bipush (v := 119) iX7_isRead_125 (by decide) ?_
              refine aw_icmp_ne iX7_isRead_127 ?_ ?_
              · refine aw_aload_n iX7_isRead_130 rfl rfl ?_
                refine aw_callV (M' := mX7_isSuitor) (As := []) iX7_isRead_131 lkX7_112 mcX7_isSuitor mvX7_isSuitor rfl zrc61 (kX7_isSuitor g62) rfl (Nat.le_of_ble_eq_true rfl) ⟨Nat.le_of_ble_eq_true rfl, Nat.le_of_ble_eq_true rfl⟩ (fun r71 g72 => ?_)
                refine aw_goto iX7_isRead_134 ?_
                refine aw_istore_n (L' := [some (.inr 61), some (.inl r71), some (.inl (0 : Int32))]) iX7_isRead_142 rfl (Nat.le_of_ble_eq_true rfl) rfl ?_
                refine aw_iload_n iX7_isRead_143 rfl rfl ?_
                refine aw_if_eq iX7_isRead_144 ?_ ?_
                · refine aw_goto iX7_isRead_151 ?_
                  refine aw_msk [true, true, false] rfl ?_
                  exact ih r71 g72
                · refine aw_aload_n iX7_isRead_147 rfl rfl ?_
                  refine aw_callVv (M' := mX7_nextToken) (As := []) iX7_isRead_148 lkX7_87 mcX7_nextToken mvX7_nextToken rfl zrc61 (kX7_nextToken g72) rfl (Nat.le_of_ble_eq_true rfl) ⟨Nat.le_of_ble_eq_true rfl, Nat.le_of_ble_eq_true rfl⟩ (fun r73 g74 => ?_)
                  refine aw_goto iX7_isRead_151 ?_
                  refine aw_msk [true, true, false] rfl ?_
                  exact ih r71 g74
              · refine aw_aload_n iX7_isRead_137 rfl rfl ?_
                refine aw_iconst (v := 1) iX7_isRead_138 (by decide) ?_
                refine aw_callV (M' := mX7_fails) (As := [.inl (1 : Int32)]) iX7_isRead_139 lkX7_90 mcX7_fails mvX7_fails rfl zrc61 (kX7_fails (1 : Int32) g62) rfl (Nat.le_of_ble_eq_true rfl) ⟨Nat.le_of_ble_eq_true rfl, Nat.le_of_ble_eq_true rfl⟩ (fun r75 g76 => ?_)
                refine aw_istore_n (L' := [some (.inr 61), some (.inl r75), some (.inl (0 : Int32))]) iX7_isRead_142 rfl (Nat.le_of_ble_eq_true rfl) rfl ?_
                refine aw_iload_n iX7_isRead_143 rfl rfl ?_
                refine aw_if_eq iX7_isRead_144 ?_ ?_
                · refine aw_goto iX7_isRead_151 ?_
                  refine aw_msk [true, true, false] rfl ?_
                  exact ih r75 g76
                · refine aw_aload_n iX7_isRead_147 rfl rfl ?_
                  refine aw_callVv (M' := mX7_nextToken) (As := []) iX7_isRead_148 lkX7_87 mcX7_nextToken mvX7_nextToken rfl zrc61 (kX7_nextToken g76) rfl (Nat.le_of_ble_eq_true rfl) ⟨Nat.le_of_ble_eq_true rfl, Nat.le_of_ble_eq_true rfl⟩ (fun r77 g78 => ?_)
                  refine aw_goto iX7_isRead_151 ?_
                  refine aw_msk [true, true, false] rfl ?_
                  exact ih r75 g78
set_option maxRecDepth 20000 in
set_option maxHeartbeats 4000000 in
theorem wX7_isRead (g : Mem) : aw mX7_isRead none 0 [some (.inr 61), none, none] [] g (fX7_isRead g) := by
  unfold fX7_isRead
  refine aw_aload_n iX7_isRead_0 rfl rfl ?_
  refine aw_iconst (v := 0) iX7_isRead_1 (by decide) ?_
  refine aw_putI iX7_isRead_2 fpX7_72 zlt61 zsh61 rfl (fun g1 _ => ?_)
  refine aw_iconst (v := 0) iX7_isRead_5 (by decide) ?_
  refine aw_istore_n (L' := [some (.inr 61), some (.inl (0 : Int32)), none]) iX7_isRead_6 rfl (Nat.le_of_ble_eq_true rfl) rfl ?_
  refine wX7_isRead_L7 _ (fun l3 g4 => ?_) FU (0 : Int32) g1
  refine aw_aload_n iX7_isRead_26 rfl rfl ?_
  refine aw_callV (M' := mX7_isLaw) (As := []) iX7_isRead_27 lkX7_102 mcX7_isLaw mvX7_isLaw rfl zrc61 (kX7_isLaw g4) rfl (Nat.le_of_ble_eq_true rfl) ⟨Nat.le_of_ble_eq_true rfl, Nat.le_of_ble_eq_true rfl⟩ (fun r5 g6 => ?_)
  refine aw_if_ne iX7_isRead_30 ?_ ?_
  · refine aw_iconst (v := 0) iX7_isRead_33 (by decide) ?_
    exact aw_zretK iX7_isRead_34 rfl (Or.inl rfl)
  · refine aw_aload_n iX7_isRead_35 rfl rfl ?_
    refine aw_callVv (M' := mX7_nextToken) (As := []) iX7_isRead_36 lkX7_87 mcX7_nextToken mvX7_nextToken rfl zrc61 (kX7_nextToken g6) rfl (Nat.le_of_ble_eq_true rfl) ⟨Nat.le_of_ble_eq_true rfl, Nat.le_of_ble_eq_true rfl⟩ (fun r7 g8 => ?_)
    refine aw_iconst (v := 1) iX7_isRead_39 (by decide) ?_
    refine aw_istore_n (L' := [some (.inr 61), some (.inl (1 : Int32)), none]) iX7_isRead_40 rfl (Nat.le_of_ble_eq_true rfl) rfl ?_
    refine wX7_isRead_L41 _ (fun l79 g80 => ?_) FU (1 : Int32) g8
    refine aw_iload_n iX7_isRead_154 rfl rfl ?_
    exact aw_zret iX7_isRead_155 rfl
set_option maxRecDepth 20000 in
set_option maxHeartbeats 4000000 in
theorem kX7_isRead (g : Mem) : CT mX7_isRead [.inr 61] g (fX7_isRead g) := CT.of (nr := 2) (by decide +kernel) (Nat.le_of_ble_eq_true rfl) (Or.inr (Or.inr rfl)) (wX7_isRead g)
set_option maxRecDepth 20000 in
set_option maxHeartbeats 4000000 in
theorem wX7_lay_L3 (q0 nq0 : Nat) (hlt_q0 : q0 < 73) (hsh_q0 : sh q0 = (1, nq0, [])) (q2 nq2 : Nat) (hlt_q2 : q2 < 73) (hsh_q2 : sh q2 = (1, nq2, [])) (l1 : Int32) (l3 : Int32) (K : Int32 → Mem → Option (Int32 × Mem)) (hK : ∀ (l4 : Int32) (g : Mem), aw mX7_lay none 28 [some (.inr q0), some (.inl l1), some (.inr q2), some (.inl l3), some (.inl l4)] [] g (K l4 g)) : ∀ (n : Nat) (l4 : Int32) (g : Mem), aw mX7_lay none 3 [some (.inr q0), some (.inl l1), some (.inr q2), some (.inl l3), some (.inl l4)] [] g (fX7_lay_L3 q0 nq0 q2 nq2 l1 l3 K n l4 g) := by
  intro n
  induction n with
  | zero => intro l4 g; exact aw_none
  | succ n ih =>
    intro l4 g
    rw [fX7_lay_L3]
    refine aw_iload iX7_lay_3 rfl ?_
    refine aw_bipush (v := 50) iX7_lay_5 (by decide) ?_
    refine aw_icmp_ge iX7_lay_7 ?_ ?_
    · exact hK l4 g
    · refine aw_aload_n iX7_lay_10 rfl rfl ?_
      refine aw_iload_n iX7_lay_11 rfl rfl ?_
      refine aw_iload iX7_lay_12 rfl ?_
      refine aw_iadd iX7_lay_14 ?_
      refine aw_aload_n iX7_lay_15 rfl rfl ?_
      refine aw_iload_n iX7_lay_16 rfl rfl ?_
      refine aw_iload iX7_lay_17 rfl ?_
      refine aw_iadd iX7_lay_19 ?_
      refine aw_iald iX7_lay_20 hlt_q0 hsh_q0 (fun v1 _ => ?_)
      refine aw_iast iX7_lay_21 hlt_q2 hsh_q2 (fun g2 _ => ?_)
      refine aw_iinc (L' := [some (.inr q0), some (.inl l1), some (.inr q2), some (.inl l3), some (.inl (l4 + (1 : Int32)))]) (v := l4 + (1 : Int32)) iX7_lay_22 rfl rfl (Nat.le_of_ble_eq_true rfl) rfl ?_
      refine aw_goto iX7_lay_25 ?_
      exact ih (l4 + (1 : Int32)) g2
set_option maxRecDepth 20000 in
set_option maxHeartbeats 4000000 in
theorem wX7_lay (q0 nq0 : Nat) (hlt_q0 : q0 < 73) (hsh_q0 : sh q0 = (1, nq0, [])) (a1 : Int32) (q2 nq2 : Nat) (hlt_q2 : q2 < 73) (hsh_q2 : sh q2 = (1, nq2, [])) (a3 : Int32) (g : Mem) : aw mX7_lay none 0 [some (.inr q0), some (.inl a1), some (.inr q2), some (.inl a3), none] [] g (fX7_lay q0 nq0 a1 q2 nq2 a3 g) := by
  unfold fX7_lay
  refine aw_iconst (v := 0) iX7_lay_0 (by decide) ?_
  refine aw_istore (L' := [some (.inr q0), some (.inl a1), some (.inr q2), some (.inl a3), some (.inl (0 : Int32))]) iX7_lay_1 (Nat.le_of_ble_eq_true rfl) rfl ?_
  refine wX7_lay_L3 q0 nq0 hlt_q0 hsh_q0 q2 nq2 hlt_q2 hsh_q2 a1 a3 _ (fun l3 g4 => ?_) FU (0 : Int32) g
  exact aw_vret iX7_lay_28 rfl
set_option maxRecDepth 20000 in
set_option maxHeartbeats 4000000 in
theorem kX7_lay (q0 nq0 : Nat) (hlt_q0 : q0 < 73) (hsh_q0 : sh q0 = (1, nq0, [])) (a1 : Int32) (q2 nq2 : Nat) (hlt_q2 : q2 < 73) (hsh_q2 : sh q2 = (1, nq2, [])) (a3 : Int32) (g : Mem) : CT mX7_lay [.inr q0, .inl a1, .inr q2, .inl a3] g (fX7_lay q0 nq0 a1 q2 nq2 a3 g) := CT.of (nr := 1) (by decide +kernel) (Nat.le_of_ble_eq_true rfl) (Or.inl rfl) (wX7_lay q0 nq0 hlt_q0 hsh_q0 a1 q2 nq2 hlt_q2 hsh_q2 a3 g)
