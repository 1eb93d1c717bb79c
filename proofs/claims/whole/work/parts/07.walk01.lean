set_option maxRecDepth 20000 in
set_option maxHeartbeats 4000000 in
theorem wX3_wanted_L5 (l2 : Int32) (K : Int32 → Int32 → Mem → Option (Int32 × Mem)) (hK : ∀ (l3 l4 : Int32) (g : Mem), aw mX3_wanted none 51 [some (.inr 55), some (.inr 7), some (.inl l2), some (.inl l3), some (.inl l4), none] [] g (K l3 l4 g)) : ∀ (n : Nat) (l3 l4 : Int32) (g : Mem), aw mX3_wanted none 5 [some (.inr 55), some (.inr 7), some (.inl l2), some (.inl l3), some (.inl l4), none] [] g (fX3_wanted_L5 l2 K n l3 l4 g) := by
  intro n
  induction n with
  | zero => intro l3 l4 g; exact aw_none
  | succ n ih =>
    intro l3 l4 g
    rw [fX3_wanted_L5]
    refine aw_iload iX3_wanted_5 rfl ?_
    refine aw_aload_n iX3_wanted_7 rfl rfl ?_
    refine aw_getI (own := "") iX3_wanted_8 flX3_54 zlt7 zsh7 rfl ?_
    refine aw_icmp_ge iX3_wanted_11 ?_ ?_
    · exact hK l3 l4 g
    · refine aw_aload_n iX3_wanted_14 rfl rfl ?_
      refine aw_iload iX3_wanted_15 rfl ?_
      refine aw_callV (M' := mX2_answer) (As := [.inl l4]) iX3_wanted_17 lkX3_64 mcX2_answer mvX2_answer rfl zrc7 (kX2_answer 7 (CO_of7) l4 g) rfl (Nat.le_of_ble_eq_true rfl) ⟨Nat.le_of_ble_eq_true rfl, Nat.le_of_ble_eq_true rfl⟩ (fun r1 g2 => ?_)
      refine aw_istore (L' := [some (.inr 55), some (.inr 7), some (.inl l2), some (.inl l3), some (.inl l4), some (.inl r1)]) iX3_wanted_20 (Nat.le_of_ble_eq_true rfl) rfl ?_
      refine aw_aload_n iX3_wanted_22 rfl rfl ?_
      refine aw_iload iX3_wanted_23 rfl ?_
      refine aw_callV (M' := mX2_wasUsed) (As := [.inl l4]) iX3_wanted_25 lkX3_57 mcX2_wasUsed mvX2_wasUsed rfl zrc7 (kX2_wasUsed 7 (CO_of7) l4 g2) rfl (Nat.le_of_ble_eq_true rfl) ⟨Nat.le_of_ble_eq_true rfl, Nat.le_of_ble_eq_true rfl⟩ (fun r3 g4 => ?_)
      refine aw_if_ne iX3_wanted_28 ?_ ?_
      · refine aw_iload iX3_wanted_31 rfl ?_
        refine aw_ldc (v := (-1000000)) iX3_wanted_33 kcX3_20 ?_
        refine aw_icmp_eq iX3_wanted_35 ?_ ?_
        · refine aw_iinc (L' := [some (.inr 55), some (.inr 7), some (.inl l2), some (.inl l3), some (.inl (l4 + (1 : Int32))), some (.inl r1)]) (v := l4 + (1 : Int32)) iX3_wanted_45 rfl rfl (Nat.le_of_ble_eq_true rfl) rfl ?_
          refine aw_goto iX3_wanted_48 ?_
          refine aw_msk [true, true, true, true, true, false] rfl ?_
          exact ih l3 (l4 + (1 : Int32)) g4
        · refine aw_iload_n iX3_wanted_38 rfl rfl ?_
          refine aw_iconst (v := 1) iX3_wanted_39 (by decide) ?_
          refine aw_iload iX3_wanted_40 rfl ?_
          refine aw_ishl iX3_wanted_42 ?_
          refine aw_ior iX3_wanted_43 ?_
          refine aw_lt (fun x5 => ?_)
          refine aw_istore_n (L' := [some (.inr 55), some (.inr 7), some (.inl l2), some (.inl x5), some (.inl l4), some (.inl r1)]) iX3_wanted_44 rfl (Nat.le_of_ble_eq_true rfl) rfl ?_
          refine aw_iinc (L' := [some (.inr 55), some (.inr 7), some (.inl l2), some (.inl x5), some (.inl (l4 + (1 : Int32))), some (.inl r1)]) (v := l4 + (1 : Int32)) iX3_wanted_45 rfl rfl (Nat.le_of_ble_eq_true rfl) rfl ?_
          refine aw_goto iX3_wanted_48 ?_
          refine aw_msk [true, true, true, true, true, false] rfl ?_
          exact ih x5 (l4 + (1 : Int32)) g4
      · refine aw_iinc (L' := [some (.inr 55), some (.inr 7), some (.inl l2), some (.inl l3), some (.inl (l4 + (1 : Int32))), some (.inl r1)]) (v := l4 + (1 : Int32)) iX3_wanted_45 rfl rfl (Nat.le_of_ble_eq_true rfl) rfl ?_
        refine aw_goto iX3_wanted_48 ?_
        refine aw_msk [true, true, true, true, true, false] rfl ?_
        exact ih l3 (l4 + (1 : Int32)) g4
set_option maxRecDepth 20000 in
set_option maxHeartbeats 4000000 in
theorem wX3_wanted (a1 : Int32) (g : Mem) : aw mX3_wanted none 0 [some (.inr 55), some (.inr 7), some (.inl a1), none, none, none] [] g (fX3_wanted a1 g) := by
  unfold fX3_wanted
  refine aw_iconst (v := 0) iX3_wanted_0 (by decide) ?_
  refine aw_istore_n (L' := [some (.inr 55), some (.inr 7), some (.inl a1), some (.inl (0 : Int32)), none, none]) iX3_wanted_1 rfl (Nat.le_of_ble_eq_true rfl) rfl ?_
  refine aw_iconst (v := 0) iX3_wanted_2 (by decide) ?_
  refine aw_istore (L' := [some (.inr 55), some (.inr 7), some (.inl a1), some (.inl (0 : Int32)), some (.inl (0 : Int32)), none]) iX3_wanted_3 (Nat.le_of_ble_eq_true rfl) rfl ?_
  refine wX3_wanted_L5 a1 _ (fun l6 l7 g8 => ?_) FU (0 : Int32) (0 : Int32) g
  refine aw_iload_n iX3_wanted_51 rfl rfl ?_
  refine aw_aload_n iX3_wanted_52 rfl rfl ?_
  refine aw_getR (own := "") iX3_wanted_53 flX3_78 zlt7 zsh7 rfl ?_
  refine aw_iload_n iX3_wanted_56 rfl rfl ?_
  refine aw_iald iX3_wanted_57 zlt13 zsh13 (fun v9 _ => ?_)
  refine aw_iconst (v := (-1)) iX3_wanted_58 (by decide) ?_
  refine aw_ixor iX3_wanted_59 ?_
  refine aw_iand iX3_wanted_60 ?_
  exact aw_iret iX3_wanted_61 rfl
set_option maxRecDepth 20000 in
set_option maxHeartbeats 4000000 in
theorem kX3_wanted (a1 : Int32) (g : Mem) : CT mX3_wanted [.inr 55, .inr 7, .inl a1] g (fX3_wanted a1 g) := CT.of (nr := 3) (by decide +kernel) (Nat.le_of_ble_eq_true rfl) (Or.inr (Or.inl rfl)) (wX3_wanted a1 g)
set_option maxRecDepth 20000 in
set_option maxHeartbeats 4000000 in
theorem wX3_beating_L4 (K : Int32 → Int32 → Mem → Option (Int32 × Mem)) (hK : ∀ (l2 l3 : Int32) (g : Mem), aw mX3_beating none 45 [some (.inr 55), some (.inr 7), some (.inl l2), some (.inl l3)] [] g (K l2 l3 g)) : ∀ (n : Nat) (l2 l3 : Int32) (g : Mem), aw mX3_beating none 4 [some (.inr 55), some (.inr 7), some (.inl l2), some (.inl l3)] [] g (fX3_beating_L4 K n l2 l3 g) := by
  intro n
  induction n with
  | zero => intro l2 l3 g; exact aw_none
  | succ n ih =>
    intro l2 l3 g
    rw [fX3_beating_L4]
    refine aw_iload_n iX3_beating_4 rfl rfl ?_
    refine aw_aload_n iX3_beating_5 rfl rfl ?_
    refine aw_getI (own := "") iX3_beating_6 flX3_54 zlt7 zsh7 rfl ?_
    refine aw_icmp_ge iX3_beating_9 ?_ ?_
    · exact hK l2 l3 g
    · refine aw_aload_n iX3_beating_12 rfl rfl ?_
      refine aw_iload_n iX3_beating_13 rfl rfl ?_
      refine aw_callV (M' := mX2_wasUsed) (As := [.inl l3]) iX3_beating_14 lkX3_57 mcX2_wasUsed mvX2_wasUsed rfl zrc7 (kX2_wasUsed 7 (CO_of7) l3 g) rfl (Nat.le_of_ble_eq_true rfl) ⟨Nat.le_of_ble_eq_true rfl, Nat.le_of_ble_eq_true rfl⟩ (fun r1 g2 => ?_)
      refine aw_if_ne iX3_beating_17 ?_ ?_
      · refine aw_aload_n iX3_beating_20 rfl rfl ?_
        refine aw_iload_n iX3_beating_21 rfl rfl ?_
        refine aw_callV (M' := mX2_sheSays) (As := [.inl l3]) iX3_beating_22 lkX3_81 mcX2_sheSays mvX2_sheSays rfl zrc7 (kX2_sheSays 7 (CO_of7) l3 g2) rfl (Nat.le_of_ble_eq_true rfl) ⟨Nat.le_of_ble_eq_true rfl, Nat.le_of_ble_eq_true rfl⟩ (fun r3 g4 => ?_)
        refine aw_aload_n iX3_beating_25 rfl rfl ?_
        refine aw_iload_n iX3_beating_26 rfl rfl ?_
        refine aw_callV (M' := mX2_answer) (As := [.inl l3]) iX3_beating_27 lkX3_64 mcX2_answer mvX2_answer rfl zrc7 (kX2_answer 7 (CO_of7) l3 g4) rfl (Nat.le_of_ble_eq_true rfl) ⟨Nat.le_of_ble_eq_true rfl, Nat.le_of_ble_eq_true rfl⟩ (fun r5 g6 => ?_)
        refine aw_icmp_eq iX3_beating_30 ?_ ?_
        · refine aw_iinc (L' := [some (.inr 55), some (.inr 7), some (.inl l2), some (.inl (l3 + (1 : Int32)))]) (v := l3 + (1 : Int32)) iX3_beating_39 rfl rfl (Nat.le_of_ble_eq_true rfl) rfl ?_
          refine aw_goto iX3_beating_42 ?_
          exact ih l2 (l3 + (1 : Int32)) g6
        · refine aw_iload_n iX3_beating_33 rfl rfl ?_
          refine aw_iconst (v := 1) iX3_beating_34 (by decide) ?_
          refine aw_iload_n iX3_beating_35 rfl rfl ?_
          refine aw_ishl iX3_beating_36 ?_
          refine aw_ior iX3_beating_37 ?_
          refine aw_lt (fun x7 => ?_)
          refine aw_istore_n (L' := [some (.inr 55), some (.inr 7), some (.inl x7), some (.inl l3)]) iX3_beating_38 rfl (Nat.le_of_ble_eq_true rfl) rfl ?_
          refine aw_iinc (L' := [some (.inr 55), some (.inr 7), some (.inl x7), some (.inl (l3 + (1 : Int32)))]) (v := l3 + (1 : Int32)) iX3_beating_39 rfl rfl (Nat.le_of_ble_eq_true rfl) rfl ?_
          refine aw_goto iX3_beating_42 ?_
          exact ih x7 (l3 + (1 : Int32)) g6
      · refine aw_iinc (L' := [some (.inr 55), some (.inr 7), some (.inl l2), some (.inl (l3 + (1 : Int32)))]) (v := l3 + (1 : Int32)) iX3_beating_39 rfl rfl (Nat.le_of_ble_eq_true rfl) rfl ?_
        refine aw_goto iX3_beating_42 ?_
        exact ih l2 (l3 + (1 : Int32)) g2
set_option maxRecDepth 20000 in
set_option maxHeartbeats 4000000 in
theorem wX3_beating (g : Mem) : aw mX3_beating none 0 [some (.inr 55), some (.inr 7), none, none] [] g (fX3_beating g) := by
  unfold fX3_beating
  refine aw_iconst (v := 0) iX3_beating_0 (by decide) ?_
  refine aw_istore_n (L' := [some (.inr 55), some (.inr 7), some (.inl (0 : Int32)), none]) iX3_beating_1 rfl (Nat.le_of_ble_eq_true rfl) rfl ?_
  refine aw_iconst (v := 0) iX3_beating_2 (by decide) ?_
  refine aw_istore_n (L' := [some (.inr 55), some (.inr 7), some (.inl (0 : Int32)), some (.inl (0 : Int32))]) iX3_beating_3 rfl (Nat.le_of_ble_eq_true rfl) rfl ?_
  refine wX3_beating_L4 _ (fun l8 l9 g10 => ?_) FU (0 : Int32) (0 : Int32) g
  refine aw_iload_n iX3_beating_45 rfl rfl ?_
  exact aw_iret iX3_beating_46 rfl
set_option maxRecDepth 20000 in
set_option maxHeartbeats 4000000 in
theorem kX3_beating (g : Mem) : CT mX3_beating [.inr 55, .inr 7] g (fX3_beating g) := CT.of (nr := 2) (by decide +kernel) (Nat.le_of_ble_eq_true rfl) (Or.inr (Or.inl rfl)) (wX3_beating g)
set_option maxRecDepth 20000 in
set_option maxHeartbeats 4000000 in
theorem wX3_areTwoAlike_L4 (l1 : Int32) (K : Int32 → Int32 → Mem → Option (Int32 × Mem)) (hK : ∀ (l2 l3 : Int32) (g : Mem), aw mX3_areTwoAlike none 50 [some (.inr 7), some (.inl l1), some (.inl l2), some (.inl l3), none] [] g (K l2 l3 g)) : ∀ (n : Nat) (l2 l3 : Int32) (g : Mem), aw mX3_areTwoAlike none 4 [some (.inr 7), some (.inl l1), some (.inl l2), some (.inl l3), none] [] g (fX3_areTwoAlike_L4 l1 K n l2 l3 g) := by
  intro n
  induction n with
  | zero => intro l2 l3 g; exact aw_none
  | succ n ih =>
    intro l2 l3 g
    rw [fX3_areTwoAlike_L4]
    refine aw_iload_n iX3_areTwoAlike_4 rfl rfl ?_
    refine aw_aload_n iX3_areTwoAlike_5 rfl rfl ?_
    refine aw_getI (own := "") iX3_areTwoAlike_6 flX3_98 zlt7 zsh7 rfl ?_
    refine aw_icmp_ge iX3_areTwoAlike_9 ?_ ?_
    · exact hK l2 l3 g
    · refine aw_iload_n iX3_areTwoAlike_12 rfl rfl ?_
      refine aw_iload_n iX3_areTwoAlike_13 rfl rfl ?_
      refine aw_ishr iX3_areTwoAlike_14 ?_
      refine aw_iconst (v := 1) iX3_areTwoAlike_15 (by decide) ?_
      refine aw_iand iX3_areTwoAlike_16 ?_
      refine aw_if_eq iX3_areTwoAlike_17 ?_ ?_
      · refine aw_iinc (L' := [some (.inr 7), some (.inl l1), some (.inl l2), some (.inl (l3 + (1 : Int32))), none]) (v := l3 + (1 : Int32)) iX3_areTwoAlike_44 rfl rfl (Nat.le_of_ble_eq_true rfl) rfl ?_
        refine aw_goto iX3_areTwoAlike_47 ?_
        exact ih l2 (l3 + (1 : Int32)) g
      · refine aw_iconst (v := 1) iX3_areTwoAlike_20 (by decide) ?_
        refine aw_aload_n iX3_areTwoAlike_21 rfl rfl ?_
        refine aw_getR (own := "") iX3_areTwoAlike_22 flX3_101 zlt7 zsh7 rfl ?_
        refine aw_iload_n iX3_areTwoAlike_25 rfl rfl ?_
        refine aw_iald iX3_areTwoAlike_26 zlt8 zsh8 (fun v1 _ => ?_)
        refine aw_ishl iX3_areTwoAlike_27 ?_
        refine aw_lt (fun x2 => ?_)
        refine aw_istore (L' := [some (.inr 7), some (.inl l1), some (.inl l2), some (.inl l3), some (.inl x2)]) iX3_areTwoAlike_28 (Nat.le_of_ble_eq_true rfl) rfl ?_
        refine aw_iload_n iX3_areTwoAlike_30 rfl rfl ?_
        refine aw_iload iX3_areTwoAlike_31 rfl ?_
        refine aw_iand iX3_areTwoAlike_33 ?_
        refine aw_if_eq iX3_areTwoAlike_34 ?_ ?_
        · refine aw_iload_n iX3_areTwoAlike_39 rfl rfl ?_
          refine aw_iload iX3_areTwoAlike_40 rfl ?_
          refine aw_ior iX3_areTwoAlike_42 ?_
          refine aw_lt (fun x3 => ?_)
          refine aw_istore_n (L' := [some (.inr 7), some (.inl l1), some (.inl x3), some (.inl l3), some (.inl x2)]) iX3_areTwoAlike_43 rfl (Nat.le_of_ble_eq_true rfl) rfl ?_
          refine aw_iinc (L' := [some (.inr 7), some (.inl l1), some (.inl x3), some (.inl (l3 + (1 : Int32))), some (.inl x2)]) (v := l3 + (1 : Int32)) iX3_areTwoAlike_44 rfl rfl (Nat.le_of_ble_eq_true rfl) rfl ?_
          refine aw_goto iX3_areTwoAlike_47 ?_
          refine aw_msk [true, true, true, true, false] rfl ?_
          exact ih x3 (l3 + (1 : Int32)) g
        · refine aw_iconst (v := 1) iX3_areTwoAlike_37 (by decide) ?_
          exact aw_zretK iX3_areTwoAlike_38 rfl (Or.inr rfl)
set_option maxRecDepth 20000 in
set_option maxHeartbeats 4000000 in
theorem wX3_areTwoAlike (a1 : Int32) (g : Mem) : aw mX3_areTwoAlike none 0 [some (.inr 7), some (.inl a1), none, none, none] [] g (fX3_areTwoAlike a1 g) := by
  unfold fX3_areTwoAlike
  refine aw_iconst (v := 0) iX3_areTwoAlike_0 (by decide) ?_
  refine aw_istore_n (L' := [some (.inr 7), some (.inl a1), some (.inl (0 : Int32)), none, none]) iX3_areTwoAlike_1 rfl (Nat.le_of_ble_eq_true rfl) rfl ?_
  refine aw_iconst (v := 0) iX3_areTwoAlike_2 (by decide) ?_
  refine aw_istore_n (L' := [some (.inr 7), some (.inl a1), some (.inl (0 : Int32)), some (.inl (0 : Int32)), none]) iX3_areTwoAlike_3 rfl (Nat.le_of_ble_eq_true rfl) rfl ?_
  refine wX3_areTwoAlike_L4 a1 _ (fun l4 l5 g6 => ?_) FU (0 : Int32) (0 : Int32) g
  refine aw_iconst (v := 0) iX3_areTwoAlike_50 (by decide) ?_
  exact aw_zretK iX3_areTwoAlike_51 rfl (Or.inl rfl)
set_option maxRecDepth 20000 in
set_option maxHeartbeats 4000000 in
theorem kX3_areTwoAlike (a1 : Int32) (g : Mem) : CT mX3_areTwoAlike [.inr 7, .inl a1] g (fX3_areTwoAlike a1 g) := CT.of (nr := 3) (by decide +kernel) (Nat.le_of_ble_eq_true rfl) (Or.inr (Or.inr rfl)) (wX3_areTwoAlike a1 g)
set_option maxRecDepth 20000 in
set_option maxHeartbeats 4000000 in
theorem wX3_gatherByTraits_L17 (l2 : Int32) (K : Int32 → Mem → Option (Int32 × Mem)) (hK : ∀ (l3 : Int32) (g : Mem), aw mX3_gatherByTraits none 56 [some (.inr 55), some (.inr 7), some (.inl l2), some (.inl l3)] [] g (K l3 g)) : ∀ (n : Nat) (l3 : Int32) (g : Mem), aw mX3_gatherByTraits none 17 [some (.inr 55), some (.inr 7), some (.inl l2), some (.inl l3)] [] g (fX3_gatherByTraits_L17 l2 K n l3 g) := by
  intro n
  induction n with
  | zero => intro l3 g; exact aw_none
  | succ n ih =>
    intro l3 g
    rw [fX3_gatherByTraits_L17]
    refine aw_iload_n iX3_gatherByTraits_17 rfl rfl ?_
    refine aw_aload_n iX3_gatherByTraits_18 rfl rfl ?_
    refine aw_getI (own := "") iX3_gatherByTraits_19 flX3_98 zlt7 zsh7 rfl ?_
    refine aw_icmp_ge iX3_gatherByTraits_22 ?_ ?_
    · exact hK l3 g
    · refine aw_aload_n iX3_gatherByTraits_25 rfl rfl ?_
      refine aw_getR (own := "") iX3_gatherByTraits_26 flX3_101 zlt7 zsh7 rfl ?_
      refine aw_iload_n iX3_gatherByTraits_29 rfl rfl ?_
      refine aw_iald iX3_gatherByTraits_30 zlt8 zsh8 (fun v3 _ => ?_)
      refine aw_iload_n iX3_gatherByTraits_31 rfl rfl ?_
      refine aw_ishr iX3_gatherByTraits_32 ?_
      refine aw_iconst (v := 1) iX3_gatherByTraits_33 (by decide) ?_
      refine aw_iand iX3_gatherByTraits_34 ?_
      refine aw_if_eq iX3_gatherByTraits_35 ?_ ?_
      · refine aw_iinc (L' := [some (.inr 55), some (.inr 7), some (.inl l2), some (.inl (l3 + (1 : Int32)))]) (v := l3 + (1 : Int32)) iX3_gatherByTraits_50 rfl rfl (Nat.le_of_ble_eq_true rfl) rfl ?_
        refine aw_goto iX3_gatherByTraits_53 ?_
        exact ih (l3 + (1 : Int32)) g
      · refine aw_aload_n iX3_gatherByTraits_38 rfl rfl ?_
        refine aw_getR (own := "") iX3_gatherByTraits_39 flX3_17 zlt55 zsh55 rfl ?_
        refine aw_iload_n iX3_gatherByTraits_42 rfl rfl ?_
        refine aw_dup2 iX3_gatherByTraits_43 ?_
        refine aw_iald iX3_gatherByTraits_44 zlt57 zsh57 (fun v4 _ => ?_)
        refine aw_iconst (v := 1) iX3_gatherByTraits_45 (by decide) ?_
        refine aw_iload_n iX3_gatherByTraits_46 rfl rfl ?_
        refine aw_ishl iX3_gatherByTraits_47 ?_
        refine aw_ior iX3_gatherByTraits_48 ?_
        refine aw_iast iX3_gatherByTraits_49 zlt57 zsh57 (fun g5 _ => ?_)
        refine aw_iinc (L' := [some (.inr 55), some (.inr 7), some (.inl l2), some (.inl (l3 + (1 : Int32)))]) (v := l3 + (1 : Int32)) iX3_gatherByTraits_50 rfl rfl (Nat.le_of_ble_eq_true rfl) rfl ?_
        refine aw_goto iX3_gatherByTraits_53 ?_
        exact ih (l3 + (1 : Int32)) g5
set_option maxRecDepth 20000 in
set_option maxHeartbeats 4000000 in
theorem wX3_gatherByTraits_L10 (K : Int32 → Mem → Option (Int32 × Mem)) (hK : ∀ (l2 : Int32) (g : Mem), aw mX3_gatherByTraits none 62 [some (.inr 55), some (.inr 7), some (.inl l2), none] [] g (K l2 g)) : ∀ (n : Nat) (l2 : Int32) (g : Mem), aw mX3_gatherByTraits none 10 [some (.inr 55), some (.inr 7), some (.inl l2), none] [] g (fX3_gatherByTraits_L10 K n l2 g) := by
  intro n
  induction n with
  | zero => intro l2 g; exact aw_none
  | succ n ih =>
    intro l2 g
    rw [fX3_gatherByTraits_L10]
    refine aw_iload_n iX3_gatherByTraits_10 rfl rfl ?_
    refine aw_iconst (v := 5) iX3_gatherByTraits_11 (by decide) ?_
    refine aw_icmp_ge iX3_gatherByTraits_12 ?_ ?_
    · exact hK l2 g
    · refine aw_iconst (v := 0) iX3_gatherByTraits_15 (by decide) ?_
      refine aw_istore_n (L' := [some (.inr 55), some (.inr 7), some (.inl l2), some (.inl (0 : Int32))]) iX3_gatherByTraits_16 rfl (Nat.le_of_ble_eq_true rfl) rfl ?_
      refine wX3_gatherByTraits_L17 l2 _ (fun l6 g7 => ?_) FU (0 : Int32) g
      refine aw_iinc (L' := [some (.inr 55), some (.inr 7), some (.inl (l2 + (1 : Int32))), some (.inl l6)]) (v := l2 + (1 : Int32)) iX3_gatherByTraits_56 rfl rfl (Nat.le_of_ble_eq_true rfl) rfl ?_
      refine aw_goto iX3_gatherByTraits_59 ?_
      refine aw_msk [true, true, true, false] rfl ?_
      exact ih (l2 + (1 : Int32)) g7
set_option maxRecDepth 20000 in
set_option maxHeartbeats 4000000 in
theorem wX3_gatherByTraits (g : Mem) : aw mX3_gatherByTraits none 0 [some (.inr 55), some (.inr 7), none, none] [] g (fX3_gatherByTraits g) := by
  unfold fX3_gatherByTraits
  refine aw_aload_n iX3_gatherByTraits_0 rfl rfl ?_
  refine aw_getR (own := "") iX3_gatherByTraits_1 flX3_17 zlt55 zsh55 rfl ?_
  refine aw_iconst (v := 0) iX3_gatherByTraits_4 (by decide) ?_
  refine aw_callSv (M' := mJ7_fill_53178) (As := [.inr 57, .inl (0 : Int32)]) iX3_gatherByTraits_5 lkX3_104 mcJ7_fill_53178 msJ7_fill_53178 rfl (kJ7_fill_53178 57 5 zlt57 zsh57 (0 : Int32) g) rfl (Nat.le_of_ble_eq_true rfl) ⟨Nat.le_of_ble_eq_true rfl, Nat.le_of_ble_eq_true rfl⟩ (fun r1 g2 => ?_)
  refine aw_iconst (v := 0) iX3_gatherByTraits_8 (by decide) ?_
  refine aw_istore_n (L' := [some (.inr 55), some (.inr 7), some (.inl (0 : Int32)), none]) iX3_gatherByTraits_9 rfl (Nat.le_of_ble_eq_true rfl) rfl ?_
  refine wX3_gatherByTraits_L10 _ (fun l8 g9 => ?_) FU (0 : Int32) g2
  exact aw_vret iX3_gatherByTraits_62 rfl
set_option maxRecDepth 20000 in
set_option maxHeartbeats 4000000 in
theorem kX3_gatherByTraits (g : Mem) : CT mX3_gatherByTraits [.inr 55, .inr 7] g (fX3_gatherByTraits g) := CT.of (nr := 2) (by decide +kernel) (Nat.le_of_ble_eq_true rfl) (Or.inl rfl) (wX3_gatherByTraits g)
set_option maxRecDepth 20000 in
set_option maxHeartbeats 4000000 in
theorem wX3_splits (a0 : Int32) (a1 : Int32) (g : Mem) : aw mX3_splits none 0 [some (.inr 55), some (.inl a0), some (.inl a1)] [] g (fX3_splits a0 a1 g) := by
  unfold fX3_splits
  refine aw_iload_n iX3_splits_0 rfl rfl ?_
  refine aw_aload_n iX3_splits_1 rfl rfl ?_
  refine aw_getR (own := "") iX3_splits_2 flX3_17 zlt55 zsh55 rfl ?_
  refine aw_iload_n iX3_splits_5 rfl rfl ?_
  refine aw_iald iX3_splits_6 zlt57 zsh57 (fun v1 _ => ?_)
  refine aw_iand iX3_splits_7 ?_
  refine aw_if_eq iX3_splits_8 ?_ ?_
  · refine aw_iconst (v := 0) iX3_splits_28 (by decide) ?_
    exact aw_zretK iX3_splits_29 rfl (Or.inl rfl)
  · refine aw_iload_n iX3_splits_11 rfl rfl ?_
    refine aw_aload_n iX3_splits_12 rfl rfl ?_
    refine aw_getR (own := "") iX3_splits_13 flX3_17 zlt55 zsh55 rfl ?_
    refine aw_iload_n iX3_splits_16 rfl rfl ?_
    refine aw_iald iX3_splits_17 zlt57 zsh57 (fun v2 _ => ?_)
    refine aw_iconst (v := (-1)) iX3_splits_18 (by decide) ?_
    refine aw_ixor iX3_splits_19 ?_
    refine aw_iand iX3_splits_20 ?_
    refine aw_if_eq iX3_splits_21 ?_ ?_
    · refine aw_iconst (v := 0) iX3_splits_28 (by decide) ?_
      exact aw_zretK iX3_splits_29 rfl (Or.inl rfl)
    · refine aw_iconst (v := 1) iX3_splits_24 (by decide) ?_
      refine aw_goto iX3_splits_25 ?_
      exact aw_zretK iX3_splits_29 rfl (Or.inr rfl)
set_option maxRecDepth 20000 in
set_option maxHeartbeats 4000000 in
theorem kX3_splits (a0 : Int32) (a1 : Int32) (g : Mem) : CT mX3_splits [.inr 55, .inl a0, .inl a1] g (fX3_splits a0 a1 g) := CT.of (nr := 0) (by decide +kernel) (Nat.le_of_ble_eq_true rfl) (Or.inr (Or.inr rfl)) (wX3_splits a0 a1 g)
set_option maxRecDepth 20000 in
set_option maxHeartbeats 4000000 in
theorem wX3_questionsBy (a0 : Int32) (a1 : Int32) (g : Mem) : aw mX3_questionsBy none 0 [some (.inr 55), some (.inl a0), some (.inl a1)] [] g (fX3_questionsBy a0 a1 g) := by
  unfold fX3_questionsBy
  refine aw_iconst (v := 1) iX3_questionsBy_0 (by decide) ?_
  refine aw_aload_n iX3_questionsBy_1 rfl rfl ?_
  refine aw_getR (own := "") iX3_questionsBy_2 flX3_11 zlt55 zsh55 rfl ?_
  refine aw_iload_n iX3_questionsBy_5 rfl rfl ?_
  refine aw_aload_n iX3_questionsBy_6 rfl rfl ?_
  refine aw_getR (own := "") iX3_questionsBy_7 flX3_17 zlt55 zsh55 rfl ?_
  refine aw_iload_n iX3_questionsBy_10 rfl rfl ?_
  refine aw_iald iX3_questionsBy_11 zlt57 zsh57 (fun v1 _ => ?_)
  refine aw_iand iX3_questionsBy_12 ?_
  refine aw_iald iX3_questionsBy_13 zlt56 zsh56 (fun v2 _ => ?_)
  refine aw_aload_n iX3_questionsBy_14 rfl rfl ?_
  refine aw_getR (own := "") iX3_questionsBy_15 flX3_11 zlt55 zsh55 rfl ?_
  refine aw_iload_n iX3_questionsBy_18 rfl rfl ?_
  refine aw_aload_n iX3_questionsBy_19 rfl rfl ?_
  refine aw_getR (own := "") iX3_questionsBy_20 flX3_17 zlt55 zsh55 rfl ?_
  refine aw_iload_n iX3_questionsBy_23 rfl rfl ?_
  refine aw_iald iX3_questionsBy_24 zlt57 zsh57 (fun v3 _ => ?_)
  refine aw_iconst (v := (-1)) iX3_questionsBy_25 (by decide) ?_
  refine aw_ixor iX3_questionsBy_26 ?_
  refine aw_iand iX3_questionsBy_27 ?_
  refine aw_iald iX3_questionsBy_28 zlt56 zsh56 (fun v4 _ => ?_)
  refine aw_mmax iX3_questionsBy_29 mmX3_73 ⟨Nat.le_of_ble_eq_true rfl, Nat.le_of_ble_eq_true rfl⟩ ?_
  refine aw_iadd iX3_questionsBy_32 ?_
  exact aw_iret iX3_questionsBy_33 rfl
set_option maxRecDepth 20000 in
set_option maxHeartbeats 4000000 in
theorem kX3_questionsBy (a0 : Int32) (a1 : Int32) (g : Mem) : CT mX3_questionsBy [.inr 55, .inl a0, .inl a1] g (fX3_questionsBy a0 a1 g) := CT.of (nr := 0) (by decide +kernel) (Nat.le_of_ble_eq_true rfl) (Or.inr (Or.inl rfl)) (wX3_questionsBy a0 a1 g)
set_option maxRecDepth 20000 in
set_option maxHeartbeats 4000000 in
theorem wX3_fewestOfAll_L14 (l1 : Int32) (K : Int32 → Int32 → Mem → Option (Int32 × Mem)) (hK : ∀ (l2 l3 : Int32) (g : Mem), aw mX3_fewestOfAll none 45 [some (.inr 55), some (.inl l1), some (.inl l2), some (.inl l3)] [] g (K l2 l3 g)) : ∀ (n : Nat) (l2 l3 : Int32) (g : Mem), aw mX3_fewestOfAll none 14 [some (.inr 55), some (.inl l1), some (.inl l2), some (.inl l3)] [] g (fX3_fewestOfAll_L14 l1 K n l2 l3 g) := by
  intro n
  induction n with
  | zero => intro l2 l3 g; exact aw_none
  | succ n ih =>
    intro l2 l3 g
    rw [fX3_fewestOfAll_L14]
    refine aw_iload_n iX3_fewestOfAll_14 rfl rfl ?_
    refine aw_iconst (v := 5) iX3_fewestOfAll_15 (by decide) ?_
    refine aw_icmp_ge iX3_fewestOfAll_16 ?_ ?_
    · exact hK l2 l3 g
    · refine aw_aload_n iX3_fewestOfAll_19 rfl rfl ?_
      refine aw_iload_n iX3_fewestOfAll_20 rfl rfl ?_
      refine aw_iload_n iX3_fewestOfAll_21 rfl rfl ?_
      refine aw_callV (M' := mX3_splits) (As := [.inl l3, .inl l1]) iX3_fewestOfAll_22 lkX3_110 mcX3_splits mvX3_splits rfl zrc55 (kX3_splits l3 l1 g) rfl (Nat.le_of_ble_eq_true rfl) ⟨Nat.le_of_ble_eq_true rfl, Nat.le_of_ble_eq_true rfl⟩ (fun r3 g4 => ?_)
      refine aw_if_eq iX3_fewestOfAll_25 ?_ ?_
      · refine aw_iinc (L' := [some (.inr 55), some (.inl l1), some (.inl l2), some (.inl (l3 + (1 : Int32)))]) (v := l3 + (1 : Int32)) iX3_fewestOfAll_39 rfl rfl (Nat.le_of_ble_eq_true rfl) rfl ?_
        refine aw_goto iX3_fewestOfAll_42 ?_
        exact ih l2 (l3 + (1 : Int32)) g4
      · refine aw_iload_n iX3_fewestOfAll_28 rfl rfl ?_
        refine aw_aload_n iX3_fewestOfAll_29 rfl rfl ?_
        refine aw_iload_n iX3_fewestOfAll_30 rfl rfl ?_
        refine aw_iload_n iX3_fewestOfAll_31 rfl rfl ?_
        refine aw_callV (M' := mX3_questionsBy) (As := [.inl l3, .inl l1]) iX3_fewestOfAll_32 lkX3_113 mcX3_questionsBy mvX3_questionsBy rfl zrc55 (kX3_questionsBy l3 l1 g4) rfl (Nat.le_of_ble_eq_true rfl) ⟨Nat.le_of_ble_eq_true rfl, Nat.le_of_ble_eq_true rfl⟩ (fun r5 g6 => ?_)
        refine aw_mmin iX3_fewestOfAll_35 mmX3_116 ⟨Nat.le_of_ble_eq_true rfl, Nat.le_of_ble_eq_true rfl⟩ ?_
        refine aw_lt (fun x7 => ?_)
        refine aw_istore_n (L' := [some (.inr 55), some (.inl l1), some (.inl x7), some (.inl l3)]) iX3_fewestOfAll_38 rfl (Nat.le_of_ble_eq_true rfl) rfl ?_
        refine aw_iinc (L' := [some (.inr 55), some (.inl l1), some (.inl x7), some (.inl (l3 + (1 : Int32)))]) (v := l3 + (1 : Int32)) iX3_fewestOfAll_39 rfl rfl (Nat.le_of_ble_eq_true rfl) rfl ?_
        refine aw_goto iX3_fewestOfAll_42 ?_
        exact ih x7 (l3 + (1 : Int32)) g6
set_option maxRecDepth 20000 in
set_option maxHeartbeats 4000000 in
theorem wX3_fewestOfAll (a0 : Int32) (g : Mem) : aw mX3_fewestOfAll none 0 [some (.inr 55), some (.inl a0), none, none] [] g (fX3_fewestOfAll a0 g) := by
  unfold fX3_fewestOfAll
  refine aw_iload_n iX3_fewestOfAll_0 rfl rfl ?_
  refine aw_callS (M' := mJ6_bitCount_0f7a4) (As := [.inl a0]) iX3_fewestOfAll_1 lkX3_37 mcJ6_bitCount_0f7a4 msJ6_bitCount_0f7a4 rfl (kJ6_bitCount_0f7a4 a0 g) rfl (Nat.le_of_ble_eq_true rfl) ⟨Nat.le_of_ble_eq_true rfl, Nat.le_of_ble_eq_true rfl⟩ (fun r1 g2 => ?_)
  refine aw_iconst (v := 1) iX3_fewestOfAll_4 (by decide) ?_
  refine aw_icmp_gt iX3_fewestOfAll_5 ?_ ?_
  · refine aw_iconst (v := 5) iX3_fewestOfAll_10 (by decide) ?_
    refine aw_istore_n (L' := [some (.inr 55), some (.inl a0), some (.inl (5 : Int32)), none]) iX3_fewestOfAll_11 rfl (Nat.le_of_ble_eq_true rfl) rfl ?_
    refine aw_iconst (v := 0) iX3_fewestOfAll_12 (by decide) ?_
    refine aw_istore_n (L' := [some (.inr 55), some (.inl a0), some (.inl (5 : Int32)), some (.inl (0 : Int32))]) iX3_fewestOfAll_13 rfl (Nat.le_of_ble_eq_true rfl) rfl ?_
    refine wX3_fewestOfAll_L14 a0 _ (fun l8 l9 g10 => ?_) FU (5 : Int32) (0 : Int32) g2
    refine aw_iload_n iX3_fewestOfAll_45 rfl rfl ?_
    exact aw_iret iX3_fewestOfAll_46 rfl
  · refine aw_iconst (v := 0) iX3_fewestOfAll_8 (by decide) ?_
    exact aw_iret iX3_fewestOfAll_9 rfl
set_option maxRecDepth 20000 in
set_option maxHeartbeats 4000000 in
theorem kX3_fewestOfAll (a0 : Int32) (g : Mem) : CT mX3_fewestOfAll [.inr 55, .inl a0] g (fX3_fewestOfAll a0 g) := CT.of (nr := 2) (by decide +kernel) (Nat.le_of_ble_eq_true rfl) (Or.inr (Or.inl rfl)) (wX3_fewestOfAll a0 g)
set_option maxRecDepth 20000 in
set_option maxHeartbeats 4000000 in
theorem wX3_firstTrait_L2 (l1 : Int32) (K : Int32 → Mem → Option (Int32 × Mem)) (hK : ∀ (l2 : Int32) (g : Mem), aw mX3_firstTrait none 39 [some (.inr 55), some (.inl l1), some (.inl l2)] [] g (K l2 g)) : ∀ (n : Nat) (l2 : Int32) (g : Mem), aw mX3_firstTrait none 2 [some (.inr 55), some (.inl l1), some (.inl l2)] [] g (fX3_firstTrait_L2 l1 K n l2 g) := by
  intro n
  induction n with
  | zero => intro l2 g; exact aw_none
  | succ n ih =>
    intro l2 g
    rw [fX3_firstTrait_L2]
    refine aw_iload_n iX3_firstTrait_2 rfl rfl ?_
    refine aw_iconst (v := 5) iX3_firstTrait_3 (by decide) ?_
    refine aw_icmp_ge iX3_firstTrait_4 ?_ ?_
    · exact hK l2 g
    · refine aw_aload_n iX3_firstTrait_7 rfl rfl ?_
      refine aw_iload_n iX3_firstTrait_8 rfl rfl ?_
      refine aw_iload_n iX3_firstTrait_9 rfl rfl ?_
      refine aw_callV (M' := mX3_splits) (As := [.inl l2, .inl l1]) iX3_firstTrait_10 lkX3_110 mcX3_splits mvX3_splits rfl zrc55 (kX3_splits l2 l1 g) rfl (Nat.le_of_ble_eq_true rfl) ⟨Nat.le_of_ble_eq_true rfl, Nat.le_of_ble_eq_true rfl⟩ (fun r1 g2 => ?_)
      refine aw_if_eq iX3_firstTrait_13 ?_ ?_
      · refine aw_iinc (L' := [some (.inr 55), some (.inl l1), some (.inl (l2 + (1 : Int32)))]) (v := l2 + (1 : Int32)) iX3_firstTrait_33 rfl rfl (Nat.le_of_ble_eq_true rfl) rfl ?_
        refine aw_goto iX3_firstTrait_36 ?_
        exact ih (l2 + (1 : Int32)) g2
      · refine aw_aload_n iX3_firstTrait_16 rfl rfl ?_
        refine aw_iload_n iX3_firstTrait_17 rfl rfl ?_
        refine aw_iload_n iX3_firstTrait_18 rfl rfl ?_
        refine aw_callV (M' := mX3_questionsBy) (As := [.inl l2, .inl l1]) iX3_firstTrait_19 lkX3_113 mcX3_questionsBy mvX3_questionsBy rfl zrc55 (kX3_questionsBy l2 l1 g2) rfl (Nat.le_of_ble_eq_true rfl) ⟨Nat.le_of_ble_eq_true rfl, Nat.le_of_ble_eq_true rfl⟩ (fun r3 g4 => ?_)
        refine aw_aload_n iX3_firstTrait_22 rfl rfl ?_
        refine aw_getR (own := "") iX3_firstTrait_23 flX3_11 zlt55 zsh55 rfl ?_
        refine aw_iload_n iX3_firstTrait_26 rfl rfl ?_
        refine aw_iald iX3_firstTrait_27 zlt56 zsh56 (fun v5 _ => ?_)
        refine aw_icmp_ne iX3_firstTrait_28 ?_ ?_
        · refine aw_iload_n iX3_firstTrait_31 rfl rfl ?_
          exact aw_iret iX3_firstTrait_32 rfl
        · refine aw_iinc (L' := [some (.inr 55), some (.inl l1), some (.inl (l2 + (1 : Int32)))]) (v := l2 + (1 : Int32)) iX3_firstTrait_33 rfl rfl (Nat.le_of_ble_eq_true rfl) rfl ?_
          refine aw_goto iX3_firstTrait_36 ?_
          exact ih (l2 + (1 : Int32)) g4
set_option maxRecDepth 20000 in
set_option maxHeartbeats 4000000 in
theorem wX3_firstTrait (a0 : Int32) (g : Mem) : aw mX3_firstTrait none 0 [some (.inr 55), some (.inl a0), none] [] g (fX3_firstTrait a0 g) := by
  unfold fX3_firstTrait
  refine aw_iconst (v := 0) iX3_firstTrait_0 (by decide) ?_
  refine aw_istore_n (L' := [some (.inr 55), some (.inl a0), some (.inl (0 : Int32))]) iX3_firstTrait_1 rfl (Nat.le_of_ble_eq_true rfl) rfl ?_
  refine wX3_firstTrait_L2 a0 _ (fun l6 g7 => ?_) FU (0 : Int32) g
  refine aw_ldc (v := (-1000000)) iX3_firstTrait_39 kcX3_20 ?_
  exact aw_iret iX3_firstTrait_41 rfl
set_option maxRecDepth 20000 in
set_option maxHeartbeats 4000000 in
theorem kX3_firstTrait (a0 : Int32) (g : Mem) : CT mX3_firstTrait [.inr 55, .inl a0] g (fX3_firstTrait a0 g) := CT.of (nr := 1) (by decide +kernel) (Nat.le_of_ble_eq_true rfl) (Or.inr (Or.inl rfl)) (wX3_firstTrait a0 g)
set_option maxRecDepth 20000 in
set_option maxHeartbeats 4000000 in
theorem wX3_fewestQuestions_L19 (l2 : Int32) (l3 : Int32) (K : Int32 → Mem → Option (Int32 × Mem)) (hK : ∀ (l4 : Int32) (g : Mem), aw mX3_fewestQuestions none 53 [some (.inr 55), some (.inr 7), some (.inl l2), some (.inl l3), some (.inl l4)] [] g (K l4 g)) : ∀ (n : Nat) (l4 : Int32) (g : Mem), aw mX3_fewestQuestions none 19 [some (.inr 55), some (.inr 7), some (.inl l2), some (.inl l3), some (.inl l4)] [] g (fX3_fewestQuestions_L19 l2 l3 K n l4 g) := by
  intro n
  induction n with
  | zero => intro l4 g; exact aw_none
  | succ n ih =>
    intro l4 g
    rw [fX3_fewestQuestions_L19]
    refine aw_iload iX3_fewestQuestions_19 rfl ?_
    refine aw_iload_n iX3_fewestQuestions_21 rfl rfl ?_
    refine aw_icmp_gt iX3_fewestQuestions_22 ?_ ?_
    · exact hK l4 g
    · refine aw_iload iX3_fewestQuestions_25 rfl ?_
      refine aw_iload_n iX3_fewestQuestions_27 rfl rfl ?_
      refine aw_iconst (v := (-1)) iX3_fewestQuestions_28 (by decide) ?_
      refine aw_ixor iX3_fewestQuestions_29 ?_
      refine aw_iand iX3_fewestQuestions_30 ?_
      refine aw_if_ne iX3_fewestQuestions_31 ?_ ?_
      · refine aw_aload_n iX3_fewestQuestions_34 rfl rfl ?_
        refine aw_getR (own := "") iX3_fewestQuestions_35 flX3_11 zlt55 zsh55 rfl ?_
        refine aw_iload iX3_fewestQuestions_38 rfl ?_
        refine aw_aload_n iX3_fewestQuestions_40 rfl rfl ?_
        refine aw_iload iX3_fewestQuestions_41 rfl ?_
        refine aw_callV (M' := mX3_fewestOfAll) (As := [.inl l4]) iX3_fewestQuestions_43 lkX3_92 mcX3_fewestOfAll mvX3_fewestOfAll rfl zrc55 (kX3_fewestOfAll l4 g) rfl (Nat.le_of_ble_eq_true rfl) ⟨Nat.le_of_ble_eq_true rfl, Nat.le_of_ble_eq_true rfl⟩ (fun r5 g6 => ?_)
        refine aw_iast iX3_fewestQuestions_46 zlt56 zsh56 (fun g7 _ => ?_)
        refine aw_iinc (L' := [some (.inr 55), some (.inr 7), some (.inl l2), some (.inl l3), some (.inl (l4 + (1 : Int32)))]) (v := l4 + (1 : Int32)) iX3_fewestQuestions_47 rfl rfl (Nat.le_of_ble_eq_true rfl) rfl ?_
        refine aw_goto iX3_fewestQuestions_50 ?_
        exact ih (l4 + (1 : Int32)) g7
      · refine aw_iinc (L' := [some (.inr 55), some (.inr 7), some (.inl l2), some (.inl l3), some (.inl (l4 + (1 : Int32)))]) (v := l4 + (1 : Int32)) iX3_fewestQuestions_47 rfl rfl (Nat.le_of_ble_eq_true rfl) rfl ?_
        refine aw_goto iX3_fewestQuestions_50 ?_
        exact ih (l4 + (1 : Int32)) g
set_option maxRecDepth 20000 in
set_option maxHeartbeats 4000000 in
theorem wX3_fewestQuestions (a1 : Int32) (a2 : Int32) (g : Mem) : aw mX3_fewestQuestions none 0 [some (.inr 55), some (.inr 7), some (.inl a1), some (.inl a2), none] [] g (fX3_fewestQuestions a1 a2 g) := by
  unfold fX3_fewestQuestions
  refine aw_aload_n iX3_fewestQuestions_0 rfl rfl ?_
  refine aw_iload_n iX3_fewestQuestions_1 rfl rfl ?_
  refine aw_callS (M' := mX3_areTwoAlike) (As := [.inr 7, .inl a1]) iX3_fewestQuestions_2 lkX3_84 mcX3_areTwoAlike msX3_areTwoAlike rfl (kX3_areTwoAlike a1 g) rfl (Nat.le_of_ble_eq_true rfl) ⟨Nat.le_of_ble_eq_true rfl, Nat.le_of_ble_eq_true rfl⟩ (fun r1 g2 => ?_)
  refine aw_if_eq iX3_fewestQuestions_5 ?_ ?_
  · refine aw_aload_n iX3_fewestQuestions_11 rfl rfl ?_
    refine aw_aload_n iX3_fewestQuestions_12 rfl rfl ?_
    refine aw_callVv (M' := mX3_gatherByTraits) (As := [.inr 7]) iX3_fewestQuestions_13 lkX3_88 mcX3_gatherByTraits mvX3_gatherByTraits rfl zrc55 (kX3_gatherByTraits g2) rfl (Nat.le_of_ble_eq_true rfl) ⟨Nat.le_of_ble_eq_true rfl, Nat.le_of_ble_eq_true rfl⟩ (fun r3 g4 => ?_)
    refine aw_iconst (v := 0) iX3_fewestQuestions_16 (by decide) ?_
    refine aw_istore (L' := [some (.inr 55), some (.inr 7), some (.inl a1), some (.inl a2), some (.inl (0 : Int32))]) iX3_fewestQuestions_17 (Nat.le_of_ble_eq_true rfl) rfl ?_
    refine wX3_fewestQuestions_L19 a1 a2 _ (fun l8 g9 => ?_) FU (0 : Int32) g4
    refine aw_iload_n iX3_fewestQuestions_53 rfl rfl ?_
    refine aw_if_ne iX3_fewestQuestions_54 ?_ ?_
    · refine aw_aload_n iX3_fewestQuestions_57 rfl rfl ?_
      refine aw_getR (own := "") iX3_fewestQuestions_58 flX3_11 zlt55 zsh55 rfl ?_
      refine aw_iload_n iX3_fewestQuestions_61 rfl rfl ?_
      refine aw_iald iX3_fewestQuestions_62 zlt56 zsh56 (fun v10 _ => ?_)
      refine aw_goto iX3_fewestQuestions_63 ?_
      exact aw_iret iX3_fewestQuestions_71 rfl
    · refine aw_aload_n iX3_fewestQuestions_66 rfl rfl ?_
      refine aw_iload_n iX3_fewestQuestions_67 rfl rfl ?_
      refine aw_callV (M' := mX3_firstTrait) (As := [.inl a1]) iX3_fewestQuestions_68 lkX3_95 mcX3_firstTrait mvX3_firstTrait rfl zrc55 (kX3_firstTrait a1 g9) rfl (Nat.le_of_ble_eq_true rfl) ⟨Nat.le_of_ble_eq_true rfl, Nat.le_of_ble_eq_true rfl⟩ (fun r11 g12 => ?_)
      exact aw_iret iX3_fewestQuestions_71 rfl
  · refine aw_ldc (v := (-1000000)) iX3_fewestQuestions_8 kcX3_20 ?_
    exact aw_iret iX3_fewestQuestions_10 rfl
set_option maxRecDepth 20000 in
set_option maxHeartbeats 4000000 in
theorem kX3_fewestQuestions (a1 : Int32) (a2 : Int32) (g : Mem) : CT mX3_fewestQuestions [.inr 55, .inr 7, .inl a1, .inl a2] g (fX3_fewestQuestions a1 a2 g) := CT.of (nr := 1) (by decide +kernel) (Nat.le_of_ble_eq_true rfl) (Or.inr (Or.inl rfl)) (wX3_fewestQuestions a1 a2 g)
set_option maxRecDepth 20000 in
set_option maxHeartbeats 4000000 in
theorem wX3_riddlesSaid_L18 (l1 : Int32) (l2 : Int32) (l3 : Int32) (K : Int32 → Int32 → Mem → Option (Int32 × Mem)) (hK : ∀ (l4 l5 : Int32) (g : Mem), aw mX3_riddlesSaid none 53 [some (.inr 7), some (.inl l1), some (.inl l2), some (.inl l3), some (.inl l4), some (.inl l5)] [] g (K l4 l5 g)) : ∀ (n : Nat) (l4 l5 : Int32) (g : Mem), aw mX3_riddlesSaid none 18 [some (.inr 7), some (.inl l1), some (.inl l2), some (.inl l3), some (.inl l4), some (.inl l5)] [] g (fX3_riddlesSaid_L18 l1 l2 l3 K n l4 l5 g) := by
  intro n
  induction n with
  | zero => intro l4 l5 g; exact aw_none
  | succ n ih =>
    intro l4 l5 g
    rw [fX3_riddlesSaid_L18]
    refine aw_iload iX3_riddlesSaid_18 rfl ?_
    refine aw_aload_n iX3_riddlesSaid_20 rfl rfl ?_
    refine aw_getI (own := "") iX3_riddlesSaid_21 flX3_54 zlt7 zsh7 rfl ?_
    refine aw_icmp_ge iX3_riddlesSaid_24 ?_ ?_
    · exact hK l4 l5 g
    · refine aw_aload_n iX3_riddlesSaid_27 rfl rfl ?_
      refine aw_iload_n iX3_riddlesSaid_28 rfl rfl ?_
      refine aw_iload iX3_riddlesSaid_29 rfl ?_
      refine aw_callV (M' := mX2_heSays) (As := [.inl l1, .inl l5]) iX3_riddlesSaid_31 lkX3_60 mcX2_heSays mvX2_heSays rfl zrc7 (kX2_heSays 7 (CO_of7) l1 l5 g) rfl (Nat.le_of_ble_eq_true rfl) ⟨Nat.le_of_ble_eq_true rfl, Nat.le_of_ble_eq_true rfl⟩ (fun r1 g2 => ?_)
      refine aw_iload_n iX3_riddlesSaid_34 rfl rfl ?_
      refine aw_icmp_ne iX3_riddlesSaid_35 ?_ ?_
      · refine aw_iload iX3_riddlesSaid_38 rfl ?_
        refine aw_iconst (v := 1) iX3_riddlesSaid_40 (by decide) ?_
        refine aw_iload iX3_riddlesSaid_41 rfl ?_
        refine aw_ishl iX3_riddlesSaid_43 ?_
        refine aw_ior iX3_riddlesSaid_44 ?_
        refine aw_lt (fun x3 => ?_)
        refine aw_istore (L' := [some (.inr 7), some (.inl l1), some (.inl l2), some (.inl l3), some (.inl x3), some (.inl l5)]) iX3_riddlesSaid_45 (Nat.le_of_ble_eq_true rfl) rfl ?_
        refine aw_iinc (L' := [some (.inr 7), some (.inl l1), some (.inl l2), some (.inl l3), some (.inl x3), some (.inl (l5 + (1 : Int32)))]) (v := l5 + (1 : Int32)) iX3_riddlesSaid_47 rfl rfl (Nat.le_of_ble_eq_true rfl) rfl ?_
        refine aw_goto iX3_riddlesSaid_50 ?_
        exact ih x3 (l5 + (1 : Int32)) g2
      · refine aw_iinc (L' := [some (.inr 7), some (.inl l1), some (.inl l2), some (.inl l3), some (.inl l4), some (.inl (l5 + (1 : Int32)))]) (v := l5 + (1 : Int32)) iX3_riddlesSaid_47 rfl rfl (Nat.le_of_ble_eq_true rfl) rfl ?_
        refine aw_goto iX3_riddlesSaid_50 ?_
        exact ih l4 (l5 + (1 : Int32)) g2
set_option maxRecDepth 20000 in
set_option maxHeartbeats 4000000 in
theorem wX3_riddlesSaid (a1 : Int32) (a2 : Int32) (g : Mem) : aw mX3_riddlesSaid none 0 [some (.inr 7), some (.inl a1), some (.inl a2), none, none, none] [] g (fX3_riddlesSaid a1 a2 g) := by
  unfold fX3_riddlesSaid
  refine aw_iload_n iX3_riddlesSaid_0 rfl rfl ?_
  refine aw_iconst (v := (-1)) iX3_riddlesSaid_1 (by decide) ?_
  refine aw_icmp_ne iX3_riddlesSaid_2 ?_ ?_
  · refine aw_ldc (v := (-1000000)) iX3_riddlesSaid_5 kcX3_20 ?_
    refine aw_goto iX3_riddlesSaid_7 ?_
    refine aw_istore_n (L' := [some (.inr 7), some (.inl a1), some (.inl a2), some (.inl (-1000000 : Int32)), none, none]) iX3_riddlesSaid_11 rfl (Nat.le_of_ble_eq_true rfl) rfl ?_
    refine aw_iconst (v := 0) iX3_riddlesSaid_12 (by decide) ?_
    refine aw_istore (L' := [some (.inr 7), some (.inl a1), some (.inl a2), some (.inl (-1000000 : Int32)), some (.inl (0 : Int32)), none]) iX3_riddlesSaid_13 (Nat.le_of_ble_eq_true rfl) rfl ?_
    refine aw_iconst (v := 0) iX3_riddlesSaid_15 (by decide) ?_
    refine aw_istore (L' := [some (.inr 7), some (.inl a1), some (.inl a2), some (.inl (-1000000 : Int32)), some (.inl (0 : Int32)), some (.inl (0 : Int32))]) iX3_riddlesSaid_16 (Nat.le_of_ble_eq_true rfl) rfl ?_
    refine wX3_riddlesSaid_L18 a1 a2 (-1000000 : Int32) _ (fun l4 l5 g6 => ?_) FU (0 : Int32) (0 : Int32) g
    refine aw_iload iX3_riddlesSaid_53 rfl ?_
    exact aw_iret iX3_riddlesSaid_55 rfl
  · refine aw_iload_n iX3_riddlesSaid_10 rfl rfl ?_
    refine aw_istore_n (L' := [some (.inr 7), some (.inl a1), some (.inl a2), some (.inl a2), none, none]) iX3_riddlesSaid_11 rfl (Nat.le_of_ble_eq_true rfl) rfl ?_
    refine aw_iconst (v := 0) iX3_riddlesSaid_12 (by decide) ?_
    refine aw_istore (L' := [some (.inr 7), some (.inl a1), some (.inl a2), some (.inl a2), some (.inl (0 : Int32)), none]) iX3_riddlesSaid_13 (Nat.le_of_ble_eq_true rfl) rfl ?_
    refine aw_iconst (v := 0) iX3_riddlesSaid_15 (by decide) ?_
    refine aw_istore (L' := [some (.inr 7), some (.inl a1), some (.inl a2), some (.inl a2), some (.inl (0 : Int32)), some (.inl (0 : Int32))]) iX3_riddlesSaid_16 (Nat.le_of_ble_eq_true rfl) rfl ?_
    refine wX3_riddlesSaid_L18 a1 a2 a2 _ (fun l7 l8 g9 => ?_) FU (0 : Int32) (0 : Int32) g
    refine aw_iload iX3_riddlesSaid_53 rfl ?_
    exact aw_iret iX3_riddlesSaid_55 rfl
set_option maxRecDepth 20000 in
set_option maxHeartbeats 4000000 in
theorem kX3_riddlesSaid (a1 : Int32) (a2 : Int32) (g : Mem) : CT mX3_riddlesSaid [.inr 7, .inl a1, .inl a2] g (fX3_riddlesSaid a1 a2 g) := CT.of (nr := 3) (by decide +kernel) (Nat.le_of_ble_eq_true rfl) (Or.inr (Or.inl rfl)) (wX3_riddlesSaid a1 a2 g)
set_option maxRecDepth 20000 in
set_option maxHeartbeats 4000000 in
theorem wX3_timesBefore_L4 (q0 nq0 : Nat) (hlt_q0 : q0 < 73) (hsh_q0 : sh q0 = (1, nq0, [])) (l1 : Int32) (K : Int32 → Int32 → Mem → Option (Int32 × Mem)) (hK : ∀ (l2 l3 : Int32) (g : Mem), aw mX3_timesBefore none 27 [some (.inr q0), some (.inl l1), some (.inl l2), some (.inl l3)] [] g (K l2 l3 g)) : ∀ (n : Nat) (l2 l3 : Int32) (g : Mem), aw mX3_timesBefore none 4 [some (.inr q0), some (.inl l1), some (.inl l2), some (.inl l3)] [] g (fX3_timesBefore_L4 q0 nq0 l1 K n l2 l3 g) := by
  intro n
  induction n with
  | zero => intro l2 l3 g; exact aw_none
  | succ n ih =>
    intro l2 l3 g
    rw [fX3_timesBefore_L4]
    refine aw_iload_n iX3_timesBefore_4 rfl rfl ?_
    refine aw_iload_n iX3_timesBefore_5 rfl rfl ?_
    refine aw_icmp_ge iX3_timesBefore_6 ?_ ?_
    · exact hK l2 l3 g
    · refine aw_aload_n iX3_timesBefore_9 rfl rfl ?_
      refine aw_iload_n iX3_timesBefore_10 rfl rfl ?_
      refine aw_iald iX3_timesBefore_11 hlt_q0 hsh_q0 (fun v1 _ => ?_)
      refine aw_aload_n iX3_timesBefore_12 rfl rfl ?_
      refine aw_iload_n iX3_timesBefore_13 rfl rfl ?_
      refine aw_iald iX3_timesBefore_14 hlt_q0 hsh_q0 (fun v2 _ => ?_)
      refine aw_icmp_ne iX3_timesBefore_15 ?_ ?_
      · refine aw_iinc (L' := [some (.inr q0), some (.inl l1), some (.inl (l2 + (1 : Int32))), some (.inl l3)]) (v := l2 + (1 : Int32)) iX3_timesBefore_18 rfl rfl (Nat.le_of_ble_eq_true rfl) rfl ?_
        refine aw_iinc (L' := [some (.inr q0), some (.inl l1), some (.inl (l2 + (1 : Int32))), some (.inl (l3 + (1 : Int32)))]) (v := l3 + (1 : Int32)) iX3_timesBefore_21 rfl rfl (Nat.le_of_ble_eq_true rfl) rfl ?_
        refine aw_goto iX3_timesBefore_24 ?_
        exact ih (l2 + (1 : Int32)) (l3 + (1 : Int32)) g
      · refine aw_iinc (L' := [some (.inr q0), some (.inl l1), some (.inl l2), some (.inl (l3 + (1 : Int32)))]) (v := l3 + (1 : Int32)) iX3_timesBefore_21 rfl rfl (Nat.le_of_ble_eq_true rfl) rfl ?_
        refine aw_goto iX3_timesBefore_24 ?_
        exact ih l2 (l3 + (1 : Int32)) g
set_option maxRecDepth 20000 in
set_option maxHeartbeats 4000000 in
theorem wX3_timesBefore (q0 nq0 : Nat) (hlt_q0 : q0 < 73) (hsh_q0 : sh q0 = (1, nq0, [])) (a1 : Int32) (g : Mem) : aw mX3_timesBefore none 0 [some (.inr q0), some (.inl a1), none, none] [] g (fX3_timesBefore q0 nq0 a1 g) := by
  unfold fX3_timesBefore
  refine aw_iconst (v := 0) iX3_timesBefore_0 (by decide) ?_
  refine aw_istore_n (L' := [some (.inr q0), some (.inl a1), some (.inl (0 : Int32)), none]) iX3_timesBefore_1 rfl (Nat.le_of_ble_eq_true rfl) rfl ?_
  refine aw_iconst (v := 0) iX3_timesBefore_2 (by decide) ?_
  refine aw_istore_n (L' := [some (.inr q0), some (.inl a1), some (.inl (0 : Int32)), some (.inl (0 : Int32))]) iX3_timesBefore_3 rfl (Nat.le_of_ble_eq_true rfl) rfl ?_
  refine wX3_timesBefore_L4 q0 nq0 hlt_q0 hsh_q0 a1 _ (fun l3 l4 g5 => ?_) FU (0 : Int32) (0 : Int32) g
  refine aw_iload_n iX3_timesBefore_27 rfl rfl ?_
  exact aw_iret iX3_timesBefore_28 rfl
set_option maxRecDepth 20000 in
set_option maxHeartbeats 4000000 in
theorem kX3_timesBefore (q0 nq0 : Nat) (hlt_q0 : q0 < 73) (hsh_q0 : sh q0 = (1, nq0, [])) (a1 : Int32) (g : Mem) : CT mX3_timesBefore [.inr q0, .inl a1] g (fX3_timesBefore q0 nq0 a1 g) := CT.of (nr := 2) (by decide +kernel) (Nat.le_of_ble_eq_true rfl) (Or.inr (Or.inl rfl)) (wX3_timesBefore q0 nq0 hlt_q0 hsh_q0 a1 g)
set_option maxRecDepth 20000 in
set_option maxHeartbeats 4000000 in
theorem wX3_riddlesHeard_L9 (q2 nq2 : Nat) (hlt_q2 : q2 < 73) (hsh_q2 : sh q2 = (1, nq2, [])) (l2 : Int32) (l4 : Int32) (l5 : Int32) (K : Int32 → Int32 → Int32 → Mem → Option (Int32 × Mem)) (hK : ∀ (l6 l7 l8 : Int32) (g : Mem), aw mX3_riddlesHeard none 78 [some (.inr 55), some (.inr 7), some (.inl l2), some (.inr q2), some (.inl l4), some (.inl l5), some (.inl l6), some (.inl l7), some (.inl l8), none, none] [] g (K l6 l7 l8 g)) : ∀ (n : Nat) (l6 l7 l8 : Int32) (g : Mem), aw mX3_riddlesHeard none 9 [some (.inr 55), some (.inr 7), some (.inl l2), some (.inr q2), some (.inl l4), some (.inl l5), some (.inl l6), some (.inl l7), some (.inl l8), none, none] [] g (fX3_riddlesHeard_L9 q2 nq2 l2 l4 l5 K n l6 l7 l8 g) := by
  intro n
  induction n with
  | zero => intro l6 l7 l8 g; exact aw_none
  | succ n ih =>
    intro l6 l7 l8 g
    rw [fX3_riddlesHeard_L9]
    refine aw_iload iX3_riddlesHeard_9 rfl ?_
    refine aw_iload iX3_riddlesHeard_11 rfl ?_
    refine aw_icmp_ge iX3_riddlesHeard_13 ?_ ?_
    · exact hK l6 l7 l8 g
    · refine aw_aload_n iX3_riddlesHeard_16 rfl rfl ?_
      refine aw_iload_n iX3_riddlesHeard_17 rfl rfl ?_
      refine aw_aload_n iX3_riddlesHeard_18 rfl rfl ?_
      refine aw_iload iX3_riddlesHeard_19 rfl ?_
      refine aw_iald iX3_riddlesHeard_21 hlt_q2 hsh_q2 (fun v1 _ => ?_)
      refine aw_callS (M' := mX3_riddlesSaid) (As := [.inr 7, .inl l2, .inl v1]) iX3_riddlesHeard_22 lkX3_119 mcX3_riddlesSaid msX3_riddlesSaid rfl (kX3_riddlesSaid l2 v1 g) rfl (Nat.le_of_ble_eq_true rfl) ⟨Nat.le_of_ble_eq_true rfl, Nat.le_of_ble_eq_true rfl⟩ (fun r2 g3 => ?_)
      refine aw_istore (L' := [some (.inr 55), some (.inr 7), some (.inl l2), some (.inr q2), some (.inl l4), some (.inl l5), some (.inl l6), some (.inl l7), some (.inl l8), some (.inl r2), none]) iX3_riddlesHeard_25 (Nat.le_of_ble_eq_true rfl) rfl ?_
      refine aw_iload iX3_riddlesHeard_27 rfl ?_
      refine aw_callS (M' := mJ6_bitCount_0f7a4) (As := [.inl r2]) iX3_riddlesHeard_29 lkX3_37 mcJ6_bitCount_0f7a4 msJ6_bitCount_0f7a4 rfl (kJ6_bitCount_0f7a4 r2 g3) rfl (Nat.le_of_ble_eq_true rfl) ⟨Nat.le_of_ble_eq_true rfl, Nat.le_of_ble_eq_true rfl⟩ (fun r4 g5 => ?_)
      refine aw_aload_n iX3_riddlesHeard_32 rfl rfl ?_
      refine aw_iload iX3_riddlesHeard_33 rfl ?_
      refine aw_callS (M' := mX3_timesBefore) (As := [.inr q2, .inl l8]) iX3_riddlesHeard_35 lkX3_122 mcX3_timesBefore msX3_timesBefore rfl (kX3_timesBefore q2 nq2 hlt_q2 hsh_q2 l8 g5) rfl (Nat.le_of_ble_eq_true rfl) ⟨Nat.le_of_ble_eq_true rfl, Nat.le_of_ble_eq_true rfl⟩ (fun r6 g7 => ?_)
      refine aw_isub iX3_riddlesHeard_38 ?_
      refine aw_lt (fun x8 => ?_)
      refine aw_istore (L' := [some (.inr 55), some (.inr 7), some (.inl l2), some (.inr q2), some (.inl l4), some (.inl l5), some (.inl l6), some (.inl l7), some (.inl l8), some (.inl r2), some (.inl x8)]) iX3_riddlesHeard_39 (Nat.le_of_ble_eq_true rfl) rfl ?_
      refine aw_iload iX3_riddlesHeard_41 rfl ?_
      refine aw_if_gt iX3_riddlesHeard_43 ?_ ?_
      · refine aw_iload iX3_riddlesHeard_48 rfl ?_
        refine aw_iload iX3_riddlesHeard_50 rfl ?_
        refine aw_imul iX3_riddlesHeard_52 ?_
        refine aw_lt (fun x9 => ?_)
        refine aw_istore (L' := [some (.inr 55), some (.inr 7), some (.inl l2), some (.inr q2), some (.inl l4), some (.inl l5), some (.inl x9), some (.inl l7), some (.inl l8), some (.inl r2), some (.inl x8)]) iX3_riddlesHeard_53 (Nat.le_of_ble_eq_true rfl) rfl ?_
        refine aw_iload iX3_riddlesHeard_55 rfl ?_
        refine aw_iload iX3_riddlesHeard_57 rfl ?_
        refine aw_iconst (v := 1) iX3_riddlesHeard_59 (by decide) ?_
        refine aw_icmp_ne iX3_riddlesHeard_60 ?_ ?_
        · refine aw_iload iX3_riddlesHeard_63 rfl ?_
          refine aw_goto iX3_riddlesHeard_65 ?_
          refine aw_ior iX3_riddlesHeard_69 ?_
          refine aw_lt (fun x10 => ?_)
          refine aw_istore (L' := [some (.inr 55), some (.inr 7), some (.inl l2), some (.inr q2), some (.inl l4), some (.inl l5), some (.inl x9), some (.inl x10), some (.inl l8), some (.inl r2), some (.inl x8)]) iX3_riddlesHeard_70 (Nat.le_of_ble_eq_true rfl) rfl ?_
          refine aw_iinc (L' := [some (.inr 55), some (.inr 7), some (.inl l2), some (.inr q2), some (.inl l4), some (.inl l5), some (.inl x9), some (.inl x10), some (.inl (l8 + (1 : Int32))), some (.inl r2), some (.inl x8)]) (v := l8 + (1 : Int32)) iX3_riddlesHeard_72 rfl rfl (Nat.le_of_ble_eq_true rfl) rfl ?_
          refine aw_goto iX3_riddlesHeard_75 ?_
          refine aw_msk [true, true, true, true, true, true, true, true, true, false, false] rfl ?_
          exact ih x9 x10 (l8 + (1 : Int32)) g7
        · refine aw_iconst (v := 0) iX3_riddlesHeard_68 (by decide) ?_
          refine aw_ior iX3_riddlesHeard_69 ?_
          refine aw_lt (fun x11 => ?_)
          refine aw_istore (L' := [some (.inr 55), some (.inr 7), some (.inl l2), some (.inr q2), some (.inl l4), some (.inl l5), some (.inl x9), some (.inl x11), some (.inl l8), some (.inl r2), some (.inl x8)]) iX3_riddlesHeard_70 (Nat.le_of_ble_eq_true rfl) rfl ?_
          refine aw_iinc (L' := [some (.inr 55), some (.inr 7), some (.inl l2), some (.inr q2), some (.inl l4), some (.inl l5), some (.inl x9), some (.inl x11), some (.inl (l8 + (1 : Int32))), some (.inl r2), some (.inl x8)]) (v := l8 + (1 : Int32)) iX3_riddlesHeard_72 rfl rfl (Nat.le_of_ble_eq_true rfl) rfl ?_
          refine aw_goto iX3_riddlesHeard_75 ?_
          refine aw_msk [true, true, true, true, true, true, true, true, true, false, false] rfl ?_
          exact ih x9 x11 (l8 + (1 : Int32)) g7
      · refine aw_iconst (v := 0) iX3_riddlesHeard_46 (by decide) ?_
        exact aw_iret iX3_riddlesHeard_47 rfl
set_option maxRecDepth 20000 in
set_option maxHeartbeats 4000000 in
theorem wX3_riddlesHeard (a1 : Int32) (q2 nq2 : Nat) (hlt_q2 : q2 < 73) (hsh_q2 : sh q2 = (1, nq2, [])) (a3 : Int32) (a4 : Int32) (g : Mem) : aw mX3_riddlesHeard none 0 [some (.inr 55), some (.inr 7), some (.inl a1), some (.inr q2), some (.inl a3), some (.inl a4), none, none, none, none, none] [] g (fX3_riddlesHeard a1 q2 nq2 a3 a4 g) := by
  unfold fX3_riddlesHeard
  refine aw_iconst (v := 1) iX3_riddlesHeard_0 (by decide) ?_
  refine aw_istore (L' := [some (.inr 55), some (.inr 7), some (.inl a1), some (.inr q2), some (.inl a3), some (.inl a4), some (.inl (1 : Int32)), none, none, none, none]) iX3_riddlesHeard_1 (Nat.le_of_ble_eq_true rfl) rfl ?_
  refine aw_iconst (v := 0) iX3_riddlesHeard_3 (by decide) ?_
  refine aw_istore (L' := [some (.inr 55), some (.inr 7), some (.inl a1), some (.inr q2), some (.inl a3), some (.inl a4), some (.inl (1 : Int32)), some (.inl (0 : Int32)), none, none, none]) iX3_riddlesHeard_4 (Nat.le_of_ble_eq_true rfl) rfl ?_
  refine aw_iconst (v := 0) iX3_riddlesHeard_6 (by decide) ?_
  refine aw_istore (L' := [some (.inr 55), some (.inr 7), some (.inl a1), some (.inr q2), some (.inl a3), some (.inl a4), some (.inl (1 : Int32)), some (.inl (0 : Int32)), some (.inl (0 : Int32)), none, none]) iX3_riddlesHeard_7 (Nat.le_of_ble_eq_true rfl) rfl ?_
  refine wX3_riddlesHeard_L9 q2 nq2 hlt_q2 hsh_q2 a1 a3 a4 _ (fun l12 l13 l14 g15 => ?_) FU (1 : Int32) (0 : Int32) (0 : Int32) g
  refine aw_iload iX3_riddlesHeard_78 rfl ?_
  refine aw_if_ne iX3_riddlesHeard_80 ?_ ?_
  · refine aw_iload iX3_riddlesHeard_83 rfl ?_
    refine aw_goto iX3_riddlesHeard_85 ?_
    exact aw_iret iX3_riddlesHeard_90 rfl
  · refine aw_iload iX3_riddlesHeard_88 rfl ?_
    exact aw_iret iX3_riddlesHeard_90 rfl
set_option maxRecDepth 20000 in
set_option maxHeartbeats 4000000 in
theorem kX3_riddlesHeard (a1 : Int32) (q2 nq2 : Nat) (hlt_q2 : q2 < 73) (hsh_q2 : sh q2 = (1, nq2, [])) (a3 : Int32) (a4 : Int32) (g : Mem) : CT mX3_riddlesHeard [.inr 55, .inr 7, .inl a1, .inr q2, .inl a3, .inl a4] g (fX3_riddlesHeard a1 q2 nq2 a3 a4 g) := CT.of (nr := 5) (by decide +kernel) (Nat.le_of_ble_eq_true rfl) (Or.inr (Or.inl rfl)) (wX3_riddlesHeard a1 q2 nq2 hlt_q2 hsh_q2 a3 a4 g)
set_option maxRecDepth 20000 in
set_option maxHeartbeats 4000000 in
theorem wX4_isMissing (a0 : Int32) (g : Mem) : aw mX4_isMissing none 0 [some (.inr 1), some (.inl a0)] [] g (fX4_isMissing a0 g) := by
  unfold fX4_isMissing
  refine aw_aload_n iX4_isMissing_0 rfl rfl ?_
  refine aw_getR (own := "") iX4_isMissing_1 flX4_9 zlt1 zsh1 rfl ?_
  refine aw_iload_n iX4_isMissing_4 rfl rfl ?_
  refine aw_iald iX4_isMissing_5 zlt2 zsh2 (fun v1 _ => ?_)
  refine aw_if_ne iX4_isMissing_6 ?_ ?_
  · refine aw_iconst (v := 1) iX4_isMissing_9 (by decide) ?_
    refine aw_goto iX4_isMissing_10 ?_
    exact aw_zretK iX4_isMissing_14 rfl (Or.inr rfl)
  · refine aw_iconst (v := 0) iX4_isMissing_13 (by decide) ?_
    exact aw_zretK iX4_isMissing_14 rfl (Or.inl rfl)
set_option maxRecDepth 20000 in
set_option maxHeartbeats 4000000 in
theorem kX4_isMissing (a0 : Int32) (g : Mem) : CT mX4_isMissing [.inr 1, .inl a0] g (fX4_isMissing a0 g) := CT.of (nr := 0) (by decide +kernel) (Nat.le_of_ble_eq_true rfl) (Or.inr (Or.inr rfl)) (wX4_isMissing a0 g)
set_option maxRecDepth 20000 in
set_option maxHeartbeats 4000000 in
theorem wX4_areAlike (a0 : Int32) (a1 : Int32) (g : Mem) : aw mX4_areAlike none 0 [some (.inr 1), some (.inl a0), some (.inl a1)] [] g (fX4_areAlike a0 a1 g) := by
  unfold fX4_areAlike
  refine aw_aload_n iX4_areAlike_0 rfl rfl ?_
  refine aw_getR (own := "") iX4_areAlike_1 flX4_9 zlt1 zsh1 rfl ?_
  refine aw_iload_n iX4_areAlike_4 rfl rfl ?_
  refine aw_iald iX4_areAlike_5 zlt2 zsh2 (fun v1 _ => ?_)
  refine aw_aload_n iX4_areAlike_6 rfl rfl ?_
  refine aw_getR (own := "") iX4_areAlike_7 flX4_9 zlt1 zsh1 rfl ?_
  refine aw_iload_n iX4_areAlike_10 rfl rfl ?_
  refine aw_iald iX4_areAlike_11 zlt2 zsh2 (fun v2 _ => ?_)
  refine aw_icmp_ne iX4_areAlike_12 ?_ ?_
  · refine aw_iconst (v := 1) iX4_areAlike_15 (by decide) ?_
    refine aw_goto iX4_areAlike_16 ?_
    exact aw_zretK iX4_areAlike_20 rfl (Or.inr rfl)
  · refine aw_iconst (v := 0) iX4_areAlike_19 (by decide) ?_
    exact aw_zretK iX4_areAlike_20 rfl (Or.inl rfl)
set_option maxRecDepth 20000 in
set_option maxHeartbeats 4000000 in
theorem kX4_areAlike (a0 : Int32) (a1 : Int32) (g : Mem) : CT mX4_areAlike [.inr 1, .inl a0, .inl a1] g (fX4_areAlike a0 a1 g) := CT.of (nr := 0) (by decide +kernel) (Nat.le_of_ble_eq_true rfl) (Or.inr (Or.inr rfl)) (wX4_areAlike a0 a1 g)
set_option maxRecDepth 20000 in
set_option maxHeartbeats 4000000 in
theorem wX4_hasPlaces (a0 : Int32) (a1 : Int32) (a2 : Int32) (g : Mem) : aw mX4_hasPlaces none 0 [some (.inr 1), some (.inl a0), some (.inl a1), some (.inl a2)] [] g (fX4_hasPlaces a0 a1 a2 g) := by
  unfold fX4_hasPlaces
  refine aw_iload_n iX4_hasPlaces_0 rfl rfl ?_
  refine aw_if_lt iX4_hasPlaces_1 ?_ ?_
  · refine aw_iconst (v := 0) iX4_hasPlaces_34 (by decide) ?_
    exact aw_zretK iX4_hasPlaces_35 rfl (Or.inl rfl)
  · refine aw_iload_n iX4_hasPlaces_4 rfl rfl ?_
    refine aw_if_lt iX4_hasPlaces_5 ?_ ?_
    · refine aw_iconst (v := 0) iX4_hasPlaces_34 (by decide) ?_
      exact aw_zretK iX4_hasPlaces_35 rfl (Or.inl rfl)
    · refine aw_iload_n iX4_hasPlaces_8 rfl rfl ?_
      refine aw_aload_n iX4_hasPlaces_9 rfl rfl ?_
      refine aw_getR (own := "") iX4_hasPlaces_10 flX4_13 zlt1 zsh1 rfl ?_
      refine aw_iload_n iX4_hasPlaces_13 rfl rfl ?_
      refine aw_iald iX4_hasPlaces_14 zlt3 zsh3 (fun v1 _ => ?_)
      refine aw_icmp_gt iX4_hasPlaces_15 ?_ ?_
      · refine aw_iconst (v := 0) iX4_hasPlaces_34 (by decide) ?_
        exact aw_zretK iX4_hasPlaces_35 rfl (Or.inl rfl)
      · refine aw_iload_n iX4_hasPlaces_18 rfl rfl ?_
        refine aw_aload_n iX4_hasPlaces_19 rfl rfl ?_
        refine aw_getR (own := "") iX4_hasPlaces_20 flX4_13 zlt1 zsh1 rfl ?_
        refine aw_iload_n iX4_hasPlaces_23 rfl rfl ?_
        refine aw_iald iX4_hasPlaces_24 zlt3 zsh3 (fun v2 _ => ?_)
        refine aw_iload_n iX4_hasPlaces_25 rfl rfl ?_
        refine aw_isub iX4_hasPlaces_26 ?_
        refine aw_icmp_gt iX4_hasPlaces_27 ?_ ?_
        · refine aw_iconst (v := 0) iX4_hasPlaces_34 (by decide) ?_
          exact aw_zretK iX4_hasPlaces_35 rfl (Or.inl rfl)
        · refine aw_iconst (v := 1) iX4_hasPlaces_30 (by decide) ?_
          refine aw_goto iX4_hasPlaces_31 ?_
          exact aw_zretK iX4_hasPlaces_35 rfl (Or.inr rfl)
set_option maxRecDepth 20000 in
set_option maxHeartbeats 4000000 in
theorem kX4_hasPlaces (a0 : Int32) (a1 : Int32) (a2 : Int32) (g : Mem) : CT mX4_hasPlaces [.inr 1, .inl a0, .inl a1, .inl a2] g (fX4_hasPlaces a0 a1 a2 g) := CT.of (nr := 0) (by decide +kernel) (Nat.le_of_ble_eq_true rfl) (Or.inr (Or.inr rfl)) (wX4_hasPlaces a0 a1 a2 g)
set_option maxRecDepth 20000 in
set_option maxHeartbeats 4000000 in
theorem wJ7_rangeCheck_23922 (a0 : Int32) (a1 : Int32) (a2 : Int32) (g : Mem) : aw mJ7_rangeCheck_23922 none 0 [some (.inl a0), some (.inl a1), some (.inl a2)] [] g (fJ7_rangeCheck_23922 a0 a1 a2 g) := by
  unfold fJ7_rangeCheck_23922
  refine aw_iload_n iJ7_rangeCheck_23922_0 rfl rfl ?_
  refine aw_iload_n iJ7_rangeCheck_23922_1 rfl rfl ?_
  refine aw_icmp_le iJ7_rangeCheck_23922_2 ?_ ?_
  · refine aw_iload_n iJ7_rangeCheck_23922_46 rfl rfl ?_
    refine aw_if_ge iJ7_rangeCheck_23922_47 ?_ ?_
    · refine aw_iload_n iJ7_rangeCheck_23922_59 rfl rfl ?_
      refine aw_iload_n iJ7_rangeCheck_23922_60 rfl rfl ?_
      refine aw_icmp_le iJ7_rangeCheck_23922_61 ?_ ?_
      · exact aw_vret iJ7_rangeCheck_23922_73 rfl
      · exact aw_none
    · exact aw_none
  · exact aw_none
set_option maxRecDepth 20000 in
set_option maxHeartbeats 4000000 in
theorem kJ7_rangeCheck_23922 (a0 : Int32) (a1 : Int32) (a2 : Int32) (g : Mem) : CT mJ7_rangeCheck_23922 [.inl a0, .inl a1, .inl a2] g (fJ7_rangeCheck_23922 a0 a1 a2 g) := CT.of (nr := 0) (by decide +kernel) (Nat.le_of_ble_eq_true rfl) (Or.inl rfl) (wJ7_rangeCheck_23922 a0 a1 a2 g)
set_option maxRecDepth 20000 in
set_option maxHeartbeats 4000000 in
theorem wJ7_fill_fda19_L10 (q0 nq0 : Nat) (hlt_q0 : q0 < 73) (hsh_q0 : sh q0 = (1, nq0, [])) (l1 : Int32) (l2 : Int32) (l3 : Int32) (K : Int32 → Mem → Option (Int32 × Mem)) (hK : ∀ (l4 : Int32) (g : Mem), aw mJ7_fill_fda19 none 27 [some (.inr q0), some (.inl l1), some (.inl l2), some (.inl l3), some (.inl l4)] [] g (K l4 g)) : ∀ (n : Nat) (l4 : Int32) (g : Mem), aw mJ7_fill_fda19 none 10 [some (.inr q0), some (.inl l1), some (.inl l2), some (.inl l3), some (.inl l4)] [] g (fJ7_fill_fda19_L10 q0 nq0 l1 l2 l3 K n l4 g) := by
  intro n
  induction n with
  | zero => intro l4 g; exact aw_none
  | succ n ih =>
    intro l4 g
    rw [fJ7_fill_fda19_L10]
    refine aw_iload iJ7_fill_fda19_10 rfl ?_
    refine aw_iload_n iJ7_fill_fda19_12 rfl rfl ?_
    refine aw_icmp_ge iJ7_fill_fda19_13 ?_ ?_
    · exact hK l4 g
    · refine aw_aload_n iJ7_fill_fda19_16 rfl rfl ?_
      refine aw_iload iJ7_fill_fda19_17 rfl ?_
      refine aw_iload_n iJ7_fill_fda19_19 rfl rfl ?_
      refine aw_iast iJ7_fill_fda19_20 hlt_q0 hsh_q0 (fun g3 _ => ?_)
      refine aw_iinc (L' := [some (.inr q0), some (.inl l1), some (.inl l2), some (.inl l3), some (.inl (l4 + (1 : Int32)))]) (v := l4 + (1 : Int32)) iJ7_fill_fda19_21 rfl rfl (Nat.le_of_ble_eq_true rfl) rfl ?_
      refine aw_goto iJ7_fill_fda19_24 ?_
      exact ih (l4 + (1 : Int32)) g3
set_option maxRecDepth 20000 in
set_option maxHeartbeats 4000000 in
theorem wJ7_fill_fda19 (q0 nq0 : Nat) (hlt_q0 : q0 < 73) (hsh_q0 : sh q0 = (1, nq0, [])) (a1 : Int32) (a2 : Int32) (a3 : Int32) (g : Mem) : aw mJ7_fill_fda19 none 0 [some (.inr q0), some (.inl a1), some (.inl a2), some (.inl a3), none] [] g (fJ7_fill_fda19 q0 nq0 a1 a2 a3 g) := by
  unfold fJ7_fill_fda19
  refine aw_aload_n iJ7_fill_fda19_0 rfl rfl ?_
  refine aw_alen iJ7_fill_fda19_1 hlt_q0 hsh_q0 rfl ?_
  refine aw_iload_n iJ7_fill_fda19_2 rfl rfl ?_
  refine aw_iload_n iJ7_fill_fda19_3 rfl rfl ?_
  refine aw_callSv (M' := mJ7_rangeCheck_23922) (As := [.inl (Int32.ofNat nq0), .inl a1, .inl a2]) iJ7_fill_fda19_4 lkJ7_13 mcJ7_rangeCheck_23922 msJ7_rangeCheck_23922 rfl (kJ7_rangeCheck_23922 (Int32.ofNat nq0) a1 a2 g) rfl (Nat.le_of_ble_eq_true rfl) ⟨Nat.le_of_ble_eq_true rfl, Nat.le_of_ble_eq_true rfl⟩ (fun r1 g2 => ?_)
  refine aw_iload_n iJ7_fill_fda19_7 rfl rfl ?_
  refine aw_istore (L' := [some (.inr q0), some (.inl a1), some (.inl a2), some (.inl a3), some (.inl a1)]) iJ7_fill_fda19_8 (Nat.le_of_ble_eq_true rfl) rfl ?_
  refine wJ7_fill_fda19_L10 q0 nq0 hlt_q0 hsh_q0 a1 a2 a3 _ (fun l4 g5 => ?_) FU a1 g2
  exact aw_vret iJ7_fill_fda19_27 rfl
set_option maxRecDepth 20000 in
set_option maxHeartbeats 4000000 in
theorem kJ7_fill_fda19 (q0 nq0 : Nat) (hlt_q0 : q0 < 73) (hsh_q0 : sh q0 = (1, nq0, [])) (a1 : Int32) (a2 : Int32) (a3 : Int32) (g : Mem) : CT mJ7_fill_fda19 [.inr q0, .inl a1, .inl a2, .inl a3] g (fJ7_fill_fda19 q0 nq0 a1 a2 a3 g) := CT.of (nr := 1) (by decide +kernel) (Nat.le_of_ble_eq_true rfl) (Or.inl rfl) (wJ7_fill_fda19 q0 nq0 hlt_q0 hsh_q0 a1 a2 a3 g)
set_option maxRecDepth 20000 in
set_option maxHeartbeats 4000000 in
theorem wX4_lay (a0 : Int32) (a1 : Int32) (a2 : Int32) (g : Mem) : aw mX4_lay none 0 [some (.inr 1), some (.inl a0), some (.inl a1), some (.inl a2)] [] g (fX4_lay a0 a1 a2 g) := by
  unfold fX4_lay
  refine aw_aload_n iX4_lay_0 rfl rfl ?_
  refine aw_getR (own := "") iX4_lay_1 flX4_9 zlt1 zsh1 rfl ?_
  refine aw_iload_n iX4_lay_4 rfl rfl ?_
  refine aw_bipush (v := 8) iX4_lay_5 (by decide) ?_
  refine aw_iload_n iX4_lay_7 rfl rfl ?_
  refine aw_ishl iX4_lay_8 ?_
  refine aw_iast iX4_lay_9 zlt2 zsh2 (fun g1 _ => ?_)
  refine aw_aload_n iX4_lay_10 rfl rfl ?_
  refine aw_getR (own := "") iX4_lay_11 flX4_13 zlt1 zsh1 rfl ?_
  refine aw_iload_n iX4_lay_14 rfl rfl ?_
  refine aw_iload_n iX4_lay_15 rfl rfl ?_
  refine aw_iast iX4_lay_16 zlt3 zsh3 (fun g2 _ => ?_)
  refine aw_aload_n iX4_lay_17 rfl rfl ?_
  refine aw_getR (own := "") iX4_lay_18 flX4_16 zlt1 zsh1 rfl ?_
  refine aw_iload_n iX4_lay_21 rfl rfl ?_
  refine aw_bipush (v := 40) iX4_lay_22 (by decide) ?_
  refine aw_imul iX4_lay_24 ?_
  refine aw_iload_n iX4_lay_25 rfl rfl ?_
  refine aw_bipush (v := 40) iX4_lay_26 (by decide) ?_
  refine aw_imul iX4_lay_28 ?_
  refine aw_bipush (v := 40) iX4_lay_29 (by decide) ?_
  refine aw_iadd iX4_lay_31 ?_
  refine aw_iconst (v := 0) iX4_lay_32 (by decide) ?_
  refine aw_callSv (M' := mJ7_fill_fda19) (As := [.inr 4, .inl (a0 * (40 : Int32)), .inl ((a0 * (40 : Int32)) + (40 : Int32)), .inl (0 : Int32)]) iX4_lay_33 lkX4_19 mcJ7_fill_fda19 msJ7_fill_fda19 rfl (kJ7_fill_fda19 4 320 zlt4 zsh4 (a0 * (40 : Int32)) ((a0 * (40 : Int32)) + (40 : Int32)) (0 : Int32) g2) rfl (Nat.le_of_ble_eq_true rfl) ⟨Nat.le_of_ble_eq_true rfl, Nat.le_of_ble_eq_true rfl⟩ (fun r3 g4 => ?_)
  exact aw_vret iX4_lay_36 rfl
set_option maxRecDepth 20000 in
set_option maxHeartbeats 4000000 in
theorem kX4_lay (a0 : Int32) (a1 : Int32) (a2 : Int32) (g : Mem) : CT mX4_lay [.inr 1, .inl a0, .inl a1, .inl a2] g (fX4_lay a0 a1 a2 g) := CT.of (nr := 0) (by decide +kernel) (Nat.le_of_ble_eq_true rfl) (Or.inl rfl) (wX4_lay a0 a1 a2 g)
set_option maxRecDepth 20000 in
set_option maxHeartbeats 4000000 in
theorem wX4_put (a0 : Int32) (a1 : Int32) (a2 : Int32) (g : Mem) : aw mX4_put none 0 [some (.inr 1), some (.inl a0), some (.inl a1), some (.inl a2), none] [] g (fX4_put a0 a1 a2 g) := by
  unfold fX4_put
  refine aw_bipush (v := 32) iX4_put_0 (by decide) ?_
  refine aw_aload_n iX4_put_2 rfl rfl ?_
  refine aw_getR (own := "") iX4_put_3 flX4_9 zlt1 zsh1 rfl ?_
  refine aw_iload_n iX4_put_6 rfl rfl ?_
  refine aw_iald iX4_put_7 zlt2 zsh2 (fun v1 _ => ?_)
  refine aw_isub iX4_put_8 ?_
  refine aw_lt (fun x2 => ?_)
  refine aw_istore (L' := [some (.inr 1), some (.inl a0), some (.inl a1), some (.inl a2), some (.inl x2)]) iX4_put_9 (Nat.le_of_ble_eq_true rfl) rfl ?_
  refine aw_aload_n iX4_put_11 rfl rfl ?_
  refine aw_getR (own := "") iX4_put_12 flX4_16 zlt1 zsh1 rfl ?_
  refine aw_iload_n iX4_put_15 rfl rfl ?_
  refine aw_bipush (v := 40) iX4_put_16 (by decide) ?_
  refine aw_imul iX4_put_18 ?_
  refine aw_iload_n iX4_put_19 rfl rfl ?_
  refine aw_iadd iX4_put_20 ?_
  refine aw_iload_n iX4_put_21 rfl rfl ?_
  refine aw_iload iX4_put_22 rfl ?_
  refine aw_ishl iX4_put_24 ?_
  refine aw_iload iX4_put_25 rfl ?_
  refine aw_ishr iX4_put_27 ?_
  refine aw_iast iX4_put_28 zlt4 zsh4 (fun g3 _ => ?_)
  refine aw_aload_n iX4_put_29 rfl rfl ?_
  refine aw_getR (own := "") iX4_put_30 flX4_16 zlt1 zsh1 rfl ?_
  refine aw_iload_n iX4_put_33 rfl rfl ?_
  refine aw_bipush (v := 40) iX4_put_34 (by decide) ?_
  refine aw_imul iX4_put_36 ?_
  refine aw_iload_n iX4_put_37 rfl rfl ?_
  refine aw_iadd iX4_put_38 ?_
  refine aw_iald iX4_put_39 zlt4 zsh4 (fun v4 _ => ?_)
  exact aw_iret iX4_put_40 rfl
set_option maxRecDepth 20000 in
set_option maxHeartbeats 4000000 in
theorem kX4_put (a0 : Int32) (a1 : Int32) (a2 : Int32) (g : Mem) : CT mX4_put [.inr 1, .inl a0, .inl a1, .inl a2] g (fX4_put a0 a1 a2 g) := CT.of (nr := 1) (by decide +kernel) (Nat.le_of_ble_eq_true rfl) (Or.inr (Or.inl rfl)) (wX4_put a0 a1 a2 g)
set_option maxRecDepth 20000 in
set_option maxHeartbeats 4000000 in
theorem wX4_at (a0 : Int32) (a1 : Int32) (g : Mem) : aw mX4_at none 0 [some (.inr 1), some (.inl a0), some (.inl a1)] [] g (fX4_at a0 a1 g) := by
  unfold fX4_at
  refine aw_aload_n iX4_at_0 rfl rfl ?_
  refine aw_getR (own := "") iX4_at_1 flX4_16 zlt1 zsh1 rfl ?_
  refine aw_iload_n iX4_at_4 rfl rfl ?_
  refine aw_bipush (v := 40) iX4_at_5 (by decide) ?_
  refine aw_imul iX4_at_7 ?_
  refine aw_iload_n iX4_at_8 rfl rfl ?_
  refine aw_iadd iX4_at_9 ?_
  refine aw_iald iX4_at_10 zlt4 zsh4 (fun v1 _ => ?_)
  exact aw_iret iX4_at_11 rfl
set_option maxRecDepth 20000 in
set_option maxHeartbeats 4000000 in
theorem kX4_at (a0 : Int32) (a1 : Int32) (g : Mem) : CT mX4_at [.inr 1, .inl a0, .inl a1] g (fX4_at a0 a1 g) := CT.of (nr := 0) (by decide +kernel) (Nat.le_of_ble_eq_true rfl) (Or.inr (Or.inl rfl)) (wX4_at a0 a1 g)
set_option maxRecDepth 20000 in
set_option maxHeartbeats 4000000 in
theorem wX4_move (a0 : Int32) (a1 : Int32) (a2 : Int32) (a3 : Int32) (a4 : Int32) (g : Mem) : aw mX4_move none 0 [some (.inr 1), some (.inl a0), some (.inl a1), some (.inl a2), some (.inl a3), some (.inl a4)] [] g (fX4_move a0 a1 a2 a3 a4 g) := by
  unfold fX4_move
  refine aw_aload_n iX4_move_0 rfl rfl ?_
  refine aw_getR (own := "") iX4_move_1 flX4_16 zlt1 zsh1 rfl ?_
  refine aw_iload_n iX4_move_4 rfl rfl ?_
  refine aw_bipush (v := 40) iX4_move_5 (by decide) ?_
  refine aw_imul iX4_move_7 ?_
  refine aw_iload_n iX4_move_8 rfl rfl ?_
  refine aw_iadd iX4_move_9 ?_
  refine aw_aload_n iX4_move_10 rfl rfl ?_
  refine aw_getR (own := "") iX4_move_11 flX4_16 zlt1 zsh1 rfl ?_
  refine aw_iload_n iX4_move_14 rfl rfl ?_
  refine aw_bipush (v := 40) iX4_move_15 (by decide) ?_
  refine aw_imul iX4_move_17 ?_
  refine aw_iload iX4_move_18 rfl ?_
  refine aw_iadd iX4_move_20 ?_
  refine aw_iload iX4_move_21 rfl ?_
  refine aw_acopy iX4_move_23 maX4_25 ⟨Nat.le_of_ble_eq_true rfl, Nat.le_of_ble_eq_true rfl⟩ zlt4 zsh4 zlt4 zsh4 (fun g1 _ => ?_)
  exact aw_vret iX4_move_26 rfl
set_option maxRecDepth 20000 in
set_option maxHeartbeats 4000000 in
theorem kX4_move (a0 : Int32) (a1 : Int32) (a2 : Int32) (a3 : Int32) (a4 : Int32) (g : Mem) : CT mX4_move [.inr 1, .inl a0, .inl a1, .inl a2, .inl a3, .inl a4] g (fX4_move a0 a1 a2 a3 a4 g) := CT.of (nr := 0) (by decide +kernel) (Nat.le_of_ble_eq_true rfl) (Or.inl rfl) (wX4_move a0 a1 a2 a3 a4 g)
set_option maxRecDepth 20000 in
set_option maxHeartbeats 4000000 in
theorem wX4_lose (a0 : Int32) (g : Mem) : aw mX4_lose none 0 [some (.inr 1), some (.inl a0)] [] g (fX4_lose a0 g) := by
  unfold fX4_lose
  refine aw_aload_n iX4_lose_0 rfl rfl ?_
  refine aw_getR (own := "") iX4_lose_1 flX4_9 zlt1 zsh1 rfl ?_
  refine aw_iload_n iX4_lose_4 rfl rfl ?_
  refine aw_iconst (v := 0) iX4_lose_5 (by decide) ?_
  refine aw_iast iX4_lose_6 zlt2 zsh2 (fun g1 _ => ?_)
  refine aw_aload_n iX4_lose_7 rfl rfl ?_
  refine aw_getR (own := "") iX4_lose_8 flX4_13 zlt1 zsh1 rfl ?_
  refine aw_iload_n iX4_lose_11 rfl rfl ?_
  refine aw_iald iX4_lose_12 zlt3 zsh3 (fun v2 _ => ?_)
  exact aw_iret iX4_lose_13 rfl
set_option maxRecDepth 20000 in
set_option maxHeartbeats 4000000 in
theorem kX4_lose (a0 : Int32) (g : Mem) : CT mX4_lose [.inr 1, .inl a0] g (fX4_lose a0 g) := CT.of (nr := 0) (by decide +kernel) (Nat.le_of_ble_eq_true rfl) (Or.inr (Or.inl rfl)) (wX4_lose a0 g)
set_option maxRecDepth 20000 in
set_option maxHeartbeats 4000000 in
theorem wX4_present_L4 (K : Int32 → Int32 → Mem → Option (Int32 × Mem)) (hK : ∀ (l1 l2 : Int32) (g : Mem), aw mX4_present none 28 [some (.inr 1), some (.inl l1), some (.inl l2)] [] g (K l1 l2 g)) : ∀ (n : Nat) (l1 l2 : Int32) (g : Mem), aw mX4_present none 4 [some (.inr 1), some (.inl l1), some (.inl l2)] [] g (fX4_present_L4 K n l1 l2 g) := by
  intro n
  induction n with
  | zero => intro l1 l2 g; exact aw_none
  | succ n ih =>
    intro l1 l2 g
    rw [fX4_present_L4]
    refine aw_iload_n iX4_present_4 rfl rfl ?_
    refine aw_bipush (v := 8) iX4_present_5 (by decide) ?_
    refine aw_icmp_ge iX4_present_7 ?_ ?_
    · exact hK l1 l2 g
    · refine aw_aload_n iX4_present_10 rfl rfl ?_
      refine aw_getR (own := "") iX4_present_11 flX4_9 zlt1 zsh1 rfl ?_
      refine aw_iload_n iX4_present_14 rfl rfl ?_
      refine aw_iald iX4_present_15 zlt2 zsh2 (fun v1 _ => ?_)
      refine aw_if_eq iX4_present_16 ?_ ?_
      · refine aw_iinc (L' := [some (.inr 1), some (.inl l1), some (.inl (l2 + (1 : Int32)))]) (v := l2 + (1 : Int32)) iX4_present_22 rfl rfl (Nat.le_of_ble_eq_true rfl) rfl ?_
        refine aw_goto iX4_present_25 ?_
        exact ih l1 (l2 + (1 : Int32)) g
      · refine aw_iinc (L' := [some (.inr 1), some (.inl (l1 + (1 : Int32))), some (.inl l2)]) (v := l1 + (1 : Int32)) iX4_present_19 rfl rfl (Nat.le_of_ble_eq_true rfl) rfl ?_
        refine aw_iinc (L' := [some (.inr 1), some (.inl (l1 + (1 : Int32))), some (.inl (l2 + (1 : Int32)))]) (v := l2 + (1 : Int32)) iX4_present_22 rfl rfl (Nat.le_of_ble_eq_true rfl) rfl ?_
        refine aw_goto iX4_present_25 ?_
        exact ih (l1 + (1 : Int32)) (l2 + (1 : Int32)) g
set_option maxRecDepth 20000 in
set_option maxHeartbeats 4000000 in
theorem wX4_present (g : Mem) : aw mX4_present none 0 [some (.inr 1), none, none] [] g (fX4_present g) := by
  unfold fX4_present
  refine aw_iconst (v := 0) iX4_present_0 (by decide) ?_
  refine aw_istore_n (L' := [some (.inr 1), some (.inl (0 : Int32)), none]) iX4_present_1 rfl (Nat.le_of_ble_eq_true rfl) rfl ?_
  refine aw_iconst (v := 0) iX4_present_2 (by decide) ?_
  refine aw_istore_n (L' := [some (.inr 1), some (.inl (0 : Int32)), some (.inl (0 : Int32))]) iX4_present_3 rfl (Nat.le_of_ble_eq_true rfl) rfl ?_
  refine wX4_present_L4 _ (fun l2 l3 g4 => ?_) FU (0 : Int32) (0 : Int32) g
  refine aw_iload_n iX4_present_28 rfl rfl ?_
  exact aw_iret iX4_present_29 rfl
set_option maxRecDepth 20000 in
set_option maxHeartbeats 4000000 in
theorem kX4_present (g : Mem) : CT mX4_present [.inr 1] g (fX4_present g) := CT.of (nr := 2) (by decide +kernel) (Nat.le_of_ble_eq_true rfl) (Or.inr (Or.inl rfl)) (wX4_present g)
set_option maxRecDepth 20000 in
set_option maxHeartbeats 4000000 in
theorem wX5_add (a0 : Int32) (g : Mem) : aw mX5_add none 0 [some (.inr 5), some (.inl a0)] [] g (fX5_add a0 g) := by
  unfold fX5_add
  refine aw_aload_n iX5_add_0 rfl rfl ?_
  refine aw_getI (own := "") iX5_add_1 flX5_15 zlt5 zsh5 rfl ?_
  refine aw_bipush (v := 120) iX5_add_4 (by decide) ?_
  refine aw_icmp_lt iX5_add_6 ?_ ?_
  · refine aw_aload_n iX5_add_12 rfl rfl ?_
    refine aw_getR (own := "") iX5_add_13 flX5_11 zlt5 zsh5 rfl ?_
    refine aw_aload_n iX5_add_16 rfl rfl ?_
    refine aw_getI (own := "") iX5_add_17 flX5_15 zlt5 zsh5 rfl ?_
    refine aw_iload_n iX5_add_20 rfl rfl ?_
    refine aw_iast iX5_add_21 zlt6 zsh6 (fun g1 _ => ?_)
    refine aw_aload_n iX5_add_22 rfl rfl ?_
    refine aw_dup iX5_add_23 ?_
    refine aw_getI (own := "") iX5_add_24 flX5_15 zlt5 zsh5 rfl ?_
    refine aw_iconst (v := 1) iX5_add_27 (by decide) ?_
    refine aw_iadd iX5_add_28 ?_
    refine aw_putI iX5_add_29 fpX5_15 zlt5 zsh5 rfl (fun g2 _ => ?_)
    refine aw_aload_n iX5_add_32 rfl rfl ?_
    refine aw_getI (own := "") iX5_add_33 flX5_15 zlt5 zsh5 rfl ?_
    exact aw_iret iX5_add_36 rfl
  · refine aw_ldc (v := (-1000003)) iX5_add_9 kcX5_19 ?_
    exact aw_iret iX5_add_11 rfl
set_option maxRecDepth 20000 in
set_option maxHeartbeats 4000000 in
theorem kX5_add (a0 : Int32) (g : Mem) : CT mX5_add [.inr 5, .inl a0] g (fX5_add a0 g) := CT.of (nr := 0) (by decide +kernel) (Nat.le_of_ble_eq_true rfl) (Or.inr (Or.inl rfl)) (wX5_add a0 g)
set_option maxRecDepth 20000 in
set_option maxHeartbeats 4000000 in
theorem wX5_clear (g : Mem) : aw mX5_clear none 0 [some (.inr 5)] [] g (fX5_clear g) := by
  unfold fX5_clear
  refine aw_aload_n iX5_clear_0 rfl rfl ?_
  refine aw_iconst (v := 0) iX5_clear_1 (by decide) ?_
  refine aw_putI iX5_clear_2 fpX5_15 zlt5 zsh5 rfl (fun g1 _ => ?_)
  exact aw_vret iX5_clear_5 rfl
set_option maxRecDepth 20000 in
set_option maxHeartbeats 4000000 in
theorem kX5_clear (g : Mem) : CT mX5_clear [.inr 5] g (fX5_clear g) := CT.of (nr := 0) (by decide +kernel) (Nat.le_of_ble_eq_true rfl) (Or.inl rfl) (wX5_clear g)
set_option maxRecDepth 20000 in
set_option maxHeartbeats 4000000 in
theorem wX5_next (g : Mem) : aw mX5_next none 0 [some (.inr 5)] [] g (fX5_next g) := by
  unfold fX5_next
  refine aw_aload_n iX5_next_0 rfl rfl ?_
  refine aw_getI (own := "") iX5_next_1 flX5_20 zlt5 zsh5 rfl ?_
  refine aw_aload_n iX5_next_4 rfl rfl ?_
  refine aw_getI (own := "") iX5_next_5 flX5_15 zlt5 zsh5 rfl ?_
  refine aw_icmp_ge iX5_next_8 ?_ ?_
  · refine aw_iconst (v := (-1)) iX5_next_23 (by decide) ?_
    exact aw_iret iX5_next_24 rfl
  · refine aw_aload_n iX5_next_11 rfl rfl ?_
    refine aw_getR (own := "") iX5_next_12 flX5_11 zlt5 zsh5 rfl ?_
    refine aw_aload_n iX5_next_15 rfl rfl ?_
    refine aw_getI (own := "") iX5_next_16 flX5_20 zlt5 zsh5 rfl ?_
    refine aw_iald iX5_next_19 zlt6 zsh6 (fun v1 _ => ?_)
    refine aw_goto iX5_next_20 ?_
    exact aw_iret iX5_next_24 rfl
set_option maxRecDepth 20000 in
set_option maxHeartbeats 4000000 in
theorem kX5_next (g : Mem) : CT mX5_next [.inr 5] g (fX5_next g) := CT.of (nr := 0) (by decide +kernel) (Nat.le_of_ble_eq_true rfl) (Or.inr (Or.inl rfl)) (wX5_next g)
set_option maxRecDepth 20000 in
set_option maxHeartbeats 4000000 in
theorem wX5_faulty (a0 : Int32) (g : Mem) : aw mX5_faulty none 0 [some (.inr 5), some (.inl a0)] [] g (fX5_faulty a0 g) := by
  unfold fX5_faulty
  refine aw_aload_n iX5_faulty_0 rfl rfl ?_
  refine aw_iload_n iX5_faulty_1 rfl rfl ?_
  refine aw_putI iX5_faulty_2 fpX5_107 zlt5 zsh5 rfl (fun g1 _ => ?_)
  refine aw_iconst (v := 0) iX5_faulty_5 (by decide) ?_
  exact aw_zretK iX5_faulty_6 rfl (Or.inl rfl)
set_option maxRecDepth 20000 in
set_option maxHeartbeats 4000000 in
theorem kX5_faulty (a0 : Int32) (g : Mem) : CT mX5_faulty [.inr 5, .inl a0] g (fX5_faulty a0 g) := CT.of (nr := 0) (by decide +kernel) (Nat.le_of_ble_eq_true rfl) (Or.inr (Or.inr rfl)) (wX5_faulty a0 g)
set_option maxRecDepth 20000 in
set_option maxHeartbeats 4000000 in
theorem wX5_takes (a0 : Int32) (g : Mem) : aw mX5_takes none 0 [some (.inr 5), some (.inl a0)] [] g (fX5_takes a0 g) := by
  unfold fX5_takes
  refine aw_aload_n iX5_takes_0 rfl rfl ?_
  refine aw_callV (M' := mX5_next) (As := []) iX5_takes_1 lkX5_48 mcX5_next mvX5_next rfl zrc5 (kX5_next g) rfl (Nat.le_of_ble_eq_true rfl) ⟨Nat.le_of_ble_eq_true rfl, Nat.le_of_ble_eq_true rfl⟩ (fun r1 g2 => ?_)
  refine aw_iload_n iX5_takes_4 rfl rfl ?_
  refine aw_icmp_eq iX5_takes_5 ?_ ?_
  · refine aw_aload_n iX5_takes_14 rfl rfl ?_
    refine aw_dup iX5_takes_15 ?_
    refine aw_getI (own := "") iX5_takes_16 flX5_20 zlt5 zsh5 rfl ?_
    refine aw_iconst (v := 1) iX5_takes_19 (by decide) ?_
    refine aw_iadd iX5_takes_20 ?_
    refine aw_putI iX5_takes_21 fpX5_20 zlt5 zsh5 rfl (fun g3 _ => ?_)
    refine aw_iconst (v := 1) iX5_takes_24 (by decide) ?_
    exact aw_zretK iX5_takes_25 rfl (Or.inr rfl)
  · refine aw_aload_n iX5_takes_8 rfl rfl ?_
    refine aw_iconst (v := 1) iX5_takes_9 (by decide) ?_
    refine aw_callV (M' := mX5_faulty) (As := [.inl (1 : Int32)]) iX5_takes_10 lkX5_51 mcX5_faulty mvX5_faulty rfl zrc5 (kX5_faulty (1 : Int32) g2) rfl (Nat.le_of_ble_eq_true rfl) ⟨Nat.le_of_ble_eq_true rfl, Nat.le_of_ble_eq_true rfl⟩ (fun r4 g5 => ?_)
    exact aw_zret iX5_takes_13 rfl
set_option maxRecDepth 20000 in
set_option maxHeartbeats 4000000 in
theorem kX5_takes (a0 : Int32) (g : Mem) : CT mX5_takes [.inr 5, .inl a0] g (fX5_takes a0 g) := CT.of (nr := 0) (by decide +kernel) (Nat.le_of_ble_eq_true rfl) (Or.inr (Or.inr rfl)) (wX5_takes a0 g)
set_option maxRecDepth 20000 in
set_option maxHeartbeats 4000000 in
theorem wX5_takesNumber_L8 (l1 : Int32) (l2 : Int32) (K : Int32 → Int32 → Mem → Option (Int32 × Mem)) (hK : ∀ (l3 l4 : Int32) (g : Mem), aw mX5_takesNumber none 71 [some (.inr 5), some (.inl l1), some (.inl l2), some (.inl l3), some (.inl l4)] [] g (K l3 l4 g)) : ∀ (n : Nat) (l3 l4 : Int32) (g : Mem), aw mX5_takesNumber none 8 [some (.inr 5), some (.inl l1), some (.inl l2), some (.inl l3), some (.inl l4)] [] g (fX5_takesNumber_L8 l1 l2 K n l3 l4 g) := by
  intro n
  induction n with
  | zero => intro l3 l4 g; exact aw_none
  | succ n ih =>
    intro l3 l4 g
    rw [fX5_takesNumber_L8]
    refine aw_iload_n iX5_takesNumber_8 rfl rfl ?_
    refine aw_aload_n iX5_takesNumber_9 rfl rfl ?_
    refine aw_getI (own := "") iX5_takesNumber_10 flX5_15 zlt5 zsh5 rfl ?_
    refine aw_icmp_ge iX5_takesNumber_13 ?_ ?_
    · exact hK l3 l4 g
    · refine aw_aload_n iX5_takesNumber_16 rfl rfl ?_
      refine aw_getR (own := "") iX5_takesNumber_17 flX5_11 zlt5 zsh5 rfl ?_
      refine aw_iload_n iX5_takesNumber_20 rfl rfl ?_
      refine aw_iald iX5_takesNumber_21 zlt6 zsh6 (fun v2 _ => ?_)
      refine aw_bipush (v := 48) iX5_takesNumber_22 (by decide) ?_
      refine aw_icmp_lt iX5_takesNumber_24 ?_ ?_
      · exact hK l3 l4 g
      · refine aw_aload_n iX5_takesNumber_27 rfl rfl ?_
        refine aw_getR (own := "") iX5_takesNumber_28 flX5_11 zlt5 zsh5 rfl ?_
        refine aw_iload_n iX5_takesNumber_31 rfl rfl ?_
        refine aw_iald iX5_takesNumber_32 zlt6 zsh6 (fun v3 _ => ?_)
        refine aw_bipush (v := 57) iX5_takesNumber_33 (by decide) ?_
        refine aw_icmp_gt iX5_takesNumber_35 ?_ ?_
        · exact hK l3 l4 g
        · refine aw_iload_n iX5_takesNumber_38 rfl rfl ?_
          refine aw_aload_n iX5_takesNumber_39 rfl rfl ?_
          refine aw_getI (own := "") iX5_takesNumber_40 flX5_20 zlt5 zsh5 rfl ?_
          refine aw_isub iX5_takesNumber_43 ?_
          refine aw_iconst (v := 3) iX5_takesNumber_44 (by decide) ?_
          refine aw_icmp_ge iX5_takesNumber_45 ?_ ?_
          · refine aw_iinc (L' := [some (.inr 5), some (.inl l1), some (.inl l2), some (.inl (l3 + (1 : Int32))), some (.inl l4)]) (v := l3 + (1 : Int32)) iX5_takesNumber_65 rfl rfl (Nat.le_of_ble_eq_true rfl) rfl ?_
            refine aw_goto iX5_takesNumber_68 ?_
            exact ih (l3 + (1 : Int32)) l4 g
          · refine aw_bipush (v := 10) iX5_takesNumber_48 (by decide) ?_
            refine aw_iload iX5_takesNumber_50 rfl ?_
            refine aw_imul iX5_takesNumber_52 ?_
            refine aw_aload_n iX5_takesNumber_53 rfl rfl ?_
            refine aw_getR (own := "") iX5_takesNumber_54 flX5_11 zlt5 zsh5 rfl ?_
            refine aw_iload_n iX5_takesNumber_57 rfl rfl ?_
            refine aw_iald iX5_takesNumber_58 zlt6 zsh6 (fun v4 _ => ?_)
            refine aw_iadd iX5_takesNumber_59 ?_
            refine aw_bipush (v := 48) iX5_takesNumber_60 (by decide) ?_
            refine aw_isub iX5_takesNumber_62 ?_
            refine aw_lt (fun x5 => ?_)
            refine aw_istore (L' := [some (.inr 5), some (.inl l1), some (.inl l2), some (.inl l3), some (.inl x5)]) iX5_takesNumber_63 (Nat.le_of_ble_eq_true rfl) rfl ?_
            refine aw_iinc (L' := [some (.inr 5), some (.inl l1), some (.inl l2), some (.inl (l3 + (1 : Int32))), some (.inl x5)]) (v := l3 + (1 : Int32)) iX5_takesNumber_65 rfl rfl (Nat.le_of_ble_eq_true rfl) rfl ?_
            refine aw_goto iX5_takesNumber_68 ?_
            exact ih (l3 + (1 : Int32)) x5 g
set_option maxRecDepth 20000 in
set_option maxHeartbeats 4000000 in
theorem wX5_takesNumber (a0 : Int32) (a1 : Int32) (g : Mem) : aw mX5_takesNumber none 0 [some (.inr 5), some (.inl a0), some (.inl a1), none, none] [] g (fX5_takesNumber a0 a1 g) := by
  unfold fX5_takesNumber
  refine aw_aload_n iX5_takesNumber_0 rfl rfl ?_
  refine aw_getI (own := "") iX5_takesNumber_1 flX5_20 zlt5 zsh5 rfl ?_
  refine aw_lt (fun x1 => ?_)
  refine aw_istore_n (L' := [some (.inr 5), some (.inl a0), some (.inl a1), some (.inl x1), none]) iX5_takesNumber_4 rfl (Nat.le_of_ble_eq_true rfl) rfl ?_
  refine aw_iconst (v := 0) iX5_takesNumber_5 (by decide) ?_
  refine aw_istore (L' := [some (.inr 5), some (.inl a0), some (.inl a1), some (.inl x1), some (.inl (0 : Int32))]) iX5_takesNumber_6 (Nat.le_of_ble_eq_true rfl) rfl ?_
  refine wX5_takesNumber_L8 a0 a1 _ (fun l6 l7 g8 => ?_) FU x1 (0 : Int32) g
  refine aw_iload_n iX5_takesNumber_71 rfl rfl ?_
  refine aw_aload_n iX5_takesNumber_72 rfl rfl ?_
  refine aw_getI (own := "") iX5_takesNumber_73 flX5_20 zlt5 zsh5 rfl ?_
  refine aw_icmp_eq iX5_takesNumber_76 ?_ ?_
  · refine aw_aload_n iX5_takesNumber_89 rfl rfl ?_
    refine aw_iconst (v := 1) iX5_takesNumber_90 (by decide) ?_
    refine aw_callV (M' := mX5_faulty) (As := [.inl (1 : Int32)]) iX5_takesNumber_91 lkX5_51 mcX5_faulty mvX5_faulty rfl zrc5 (kX5_faulty (1 : Int32) g8) rfl (Nat.le_of_ble_eq_true rfl) ⟨Nat.le_of_ble_eq_true rfl, Nat.le_of_ble_eq_true rfl⟩ (fun r9 g10 => ?_)
    exact aw_zret iX5_takesNumber_94 rfl
  · refine aw_iload_n iX5_takesNumber_79 rfl rfl ?_
    refine aw_aload_n iX5_takesNumber_80 rfl rfl ?_
    refine aw_getI (own := "") iX5_takesNumber_81 flX5_20 zlt5 zsh5 rfl ?_
    refine aw_isub iX5_takesNumber_84 ?_
    refine aw_iconst (v := 3) iX5_takesNumber_85 (by decide) ?_
    refine aw_icmp_le iX5_takesNumber_86 ?_ ?_
    · refine aw_iload iX5_takesNumber_95 rfl ?_
      refine aw_iload_n iX5_takesNumber_97 rfl rfl ?_
      refine aw_icmp_gt iX5_takesNumber_98 ?_ ?_
      · refine aw_aload_n iX5_takesNumber_108 rfl rfl ?_
        refine aw_iconst (v := 2) iX5_takesNumber_109 (by decide) ?_
        refine aw_callV (M' := mX5_faulty) (As := [.inl (2 : Int32)]) iX5_takesNumber_110 lkX5_51 mcX5_faulty mvX5_faulty rfl zrc5 (kX5_faulty (2 : Int32) g8) rfl (Nat.le_of_ble_eq_true rfl) ⟨Nat.le_of_ble_eq_true rfl, Nat.le_of_ble_eq_true rfl⟩ (fun r11 g12 => ?_)
        exact aw_zret iX5_takesNumber_113 rfl
      · refine aw_iload iX5_takesNumber_101 rfl ?_
        refine aw_iload_n iX5_takesNumber_103 rfl rfl ?_
        refine aw_iand iX5_takesNumber_104 ?_
        refine aw_if_eq iX5_takesNumber_105 ?_ ?_
        · refine aw_aload_n iX5_takesNumber_114 rfl rfl ?_
          refine aw_iload iX5_takesNumber_115 rfl ?_
          refine aw_putI iX5_takesNumber_117 fpX5_62 zlt5 zsh5 rfl (fun g13 _ => ?_)
          refine aw_aload_n iX5_takesNumber_120 rfl rfl ?_
          refine aw_iload_n iX5_takesNumber_121 rfl rfl ?_
          refine aw_putI iX5_takesNumber_122 fpX5_20 zlt5 zsh5 rfl (fun g14 _ => ?_)
          refine aw_iconst (v := 1) iX5_takesNumber_125 (by decide) ?_
          exact aw_zretK iX5_takesNumber_126 rfl (Or.inr rfl)
        · refine aw_aload_n iX5_takesNumber_108 rfl rfl ?_
          refine aw_iconst (v := 2) iX5_takesNumber_109 (by decide) ?_
          refine aw_callV (M' := mX5_faulty) (As := [.inl (2 : Int32)]) iX5_takesNumber_110 lkX5_51 mcX5_faulty mvX5_faulty rfl zrc5 (kX5_faulty (2 : Int32) g8) rfl (Nat.le_of_ble_eq_true rfl) ⟨Nat.le_of_ble_eq_true rfl, Nat.le_of_ble_eq_true rfl⟩ (fun r15 g16 => ?_)
          exact aw_zret iX5_takesNumber_113 rfl
    · refine aw_aload_n iX5_takesNumber_89 rfl rfl ?_
      refine aw_iconst (v := 1) iX5_takesNumber_90 (by decide) ?_
      refine aw_callV (M' := mX5_faulty) (As := [.inl (1 : Int32)]) iX5_takesNumber_91 lkX5_51 mcX5_faulty mvX5_faulty rfl zrc5 (kX5_faulty (1 : Int32) g8) rfl (Nat.le_of_ble_eq_true rfl) ⟨Nat.le_of_ble_eq_true rfl, Nat.le_of_ble_eq_true rfl⟩ (fun r17 g18 => ?_)
      exact aw_zret iX5_takesNumber_94 rfl
set_option maxRecDepth 20000 in
set_option maxHeartbeats 4000000 in
theorem kX5_takesNumber (a0 : Int32) (a1 : Int32) (g : Mem) : CT mX5_takesNumber [.inr 5, .inl a0, .inl a1] g (fX5_takesNumber a0 a1 g) := CT.of (nr := 2) (by decide +kernel) (Nat.le_of_ble_eq_true rfl) (Or.inr (Or.inr rfl)) (wX5_takesNumber a0 a1 g)
set_option maxRecDepth 20000 in
set_option maxHeartbeats 4000000 in
theorem wX5_tellsLaw (g : Mem) : aw mX5_tellsLaw none 0 [some (.inr 5), some (.inr 17)] [] g (fX5_tellsLaw g) := by
  unfold fX5_tellsLaw
  refine aw_aload_n iX5_tellsLaw_0 rfl rfl ?_
  refine aw_bipush (v := 107) iX5_tellsLaw_1 (by decide) ?_
  refine aw_callV (M' := mX5_takes) (As := [.inl (107 : Int32)]) iX5_tellsLaw_3 lkX5_55 mcX5_takes mvX5_takes rfl zrc5 (kX5_takes (107 : Int32) g) rfl (Nat.le_of_ble_eq_true rfl) ⟨Nat.le_of_ble_eq_true rfl, Nat.le_of_ble_eq_true rfl⟩ (fun r1 g2 => ?_)
  refine aw_if_eq iX5_tellsLaw_6 ?_ ?_
  · refine aw_iconst (v := 0) iX5_tellsLaw_20 (by decide) ?_
    exact aw_zretK iX5_tellsLaw_21 rfl (Or.inl rfl)
  · refine aw_aload_n iX5_tellsLaw_9 rfl rfl ?_
    refine aw_sipush (v := 255) iX5_tellsLaw_10 (by decide) ?_
    refine aw_iconst (v := 0) iX5_tellsLaw_13 (by decide) ?_
    refine aw_callV (M' := mX5_takesNumber) (As := [.inl (255 : Int32), .inl (0 : Int32)]) iX5_tellsLaw_14 lkX5_58 mcX5_takesNumber mvX5_takesNumber rfl zrc5 (kX5_takesNumber (255 : Int32) (0 : Int32) g2) rfl (Nat.le_of_ble_eq_true rfl) ⟨Nat.le_of_ble_eq_true rfl, Nat.le_of_ble_eq_true rfl⟩ (fun r3 g4 => ?_)
    refine aw_if_ne iX5_tellsLaw_17 ?_ ?_
    · refine aw_iconst (v := 0) iX5_tellsLaw_20 (by decide) ?_
      exact aw_zretK iX5_tellsLaw_21 rfl (Or.inl rfl)
    · refine aw_aload_n iX5_tellsLaw_22 rfl rfl ?_
      refine aw_aload_n iX5_tellsLaw_23 rfl rfl ?_
      refine aw_getI (own := "") iX5_tellsLaw_24 flX5_62 zlt5 zsh5 rfl ?_
      refine aw_putI iX5_tellsLaw_27 fpX5_41 zlt17 zsh17 rfl (fun g5 _ => ?_)
      refine aw_aload_n iX5_tellsLaw_30 rfl rfl ?_
      refine aw_bipush (v := 44) iX5_tellsLaw_31 (by decide) ?_
      refine aw_callV (M' := mX5_takes) (As := [.inl (44 : Int32)]) iX5_tellsLaw_33 lkX5_55 mcX5_takes mvX5_takes rfl zrc5 (kX5_takes (44 : Int32) g5) rfl (Nat.le_of_ble_eq_true rfl) ⟨Nat.le_of_ble_eq_true rfl, Nat.le_of_ble_eq_true rfl⟩ (fun r6 g7 => ?_)
      refine aw_if_eq iX5_tellsLaw_36 ?_ ?_
      · refine aw_iconst (v := 0) iX5_tellsLaw_49 (by decide) ?_
        exact aw_zretK iX5_tellsLaw_50 rfl (Or.inl rfl)
      · refine aw_aload_n iX5_tellsLaw_39 rfl rfl ?_
        refine aw_bipush (v := 99) iX5_tellsLaw_40 (by decide) ?_
        refine aw_iconst (v := 0) iX5_tellsLaw_42 (by decide) ?_
        refine aw_callV (M' := mX5_takesNumber) (As := [.inl (99 : Int32), .inl (0 : Int32)]) iX5_tellsLaw_43 lkX5_58 mcX5_takesNumber mvX5_takesNumber rfl zrc5 (kX5_takesNumber (99 : Int32) (0 : Int32) g7) rfl (Nat.le_of_ble_eq_true rfl) ⟨Nat.le_of_ble_eq_true rfl, Nat.le_of_ble_eq_true rfl⟩ (fun r8 g9 => ?_)
        refine aw_if_ne iX5_tellsLaw_46 ?_ ?_
        · refine aw_iconst (v := 0) iX5_tellsLaw_49 (by decide) ?_
          exact aw_zretK iX5_tellsLaw_50 rfl (Or.inl rfl)
        · refine aw_aload_n iX5_tellsLaw_51 rfl rfl ?_
          refine aw_aload_n iX5_tellsLaw_52 rfl rfl ?_
          refine aw_getI (own := "") iX5_tellsLaw_53 flX5_62 zlt5 zsh5 rfl ?_
          refine aw_putI iX5_tellsLaw_56 fpX5_65 zlt17 zsh17 rfl (fun g10 _ => ?_)
          refine aw_aload_n iX5_tellsLaw_59 rfl rfl ?_
          refine aw_bipush (v := 59) iX5_tellsLaw_60 (by decide) ?_
          refine aw_callV (M' := mX5_takes) (As := [.inl (59 : Int32)]) iX5_tellsLaw_62 lkX5_55 mcX5_takes mvX5_takes rfl zrc5 (kX5_takes (59 : Int32) g10) rfl (Nat.le_of_ble_eq_true rfl) ⟨Nat.le_of_ble_eq_true rfl, Nat.le_of_ble_eq_true rfl⟩ (fun r11 g12 => ?_)
          exact aw_zret iX5_tellsLaw_65 rfl
set_option maxRecDepth 20000 in
set_option maxHeartbeats 4000000 in
theorem kX5_tellsLaw (g : Mem) : CT mX5_tellsLaw [.inr 5, .inr 17] g (fX5_tellsLaw g) := CT.of (nr := 0) (by decide +kernel) (Nat.le_of_ble_eq_true rfl) (Or.inr (Or.inr rfl)) (wX5_tellsLaw g)
set_option maxRecDepth 20000 in
set_option maxHeartbeats 4000000 in
theorem wX5_tellsThings_L0 (K : Mem → Option (Int32 × Mem)) (hK : ∀ (g : Mem), aw mX5_tellsThings none 74 [some (.inr 5), some (.inr 17)] [] g (K  g)) : ∀ (n : Nat) (g : Mem), aw mX5_tellsThings none 0 [some (.inr 5), some (.inr 17)] [] g (fX5_tellsThings_L0 K n  g) := by
  intro n
  induction n with
  | zero => intro  g; exact aw_none
  | succ n ih =>
    intro  g
    rw [fX5_tellsThings_L0]
    refine aw_aload_n iX5_tellsThings_0 rfl rfl ?_
    refine aw_callV (M' := mX5_next) (As := []) iX5_tellsThings_1 lkX5_48 mcX5_next mvX5_next rfl zrc5 (kX5_next g) rfl (Nat.le_of_ble_eq_true rfl) ⟨Nat.le_of_ble_eq_true rfl, Nat.le_of_ble_eq_true rfl⟩ (fun r1 g2 => ?_)
    refine aw_bipush (v := 116) iX5_tellsThings_4 (by decide) ?_
    refine aw_icmp_ne iX5_tellsThings_6 ?_ ?_
    · refine aw_aload_n iX5_tellsThings_9 rfl rfl ?_
      refine aw_getI (own := "") iX5_tellsThings_10 flX5_68 zlt17 zsh17 rfl ?_
      refine aw_bipush (v := 8) iX5_tellsThings_13 (by decide) ?_
      refine aw_icmp_ge iX5_tellsThings_15 ?_ ?_
      · exact hK  g2
      · refine aw_aload_n iX5_tellsThings_18 rfl rfl ?_
        refine aw_bipush (v := 116) iX5_tellsThings_19 (by decide) ?_
        refine aw_callV (M' := mX5_takes) (As := [.inl (116 : Int32)]) iX5_tellsThings_21 lkX5_55 mcX5_takes mvX5_takes rfl zrc5 (kX5_takes (116 : Int32) g2) rfl (Nat.le_of_ble_eq_true rfl) ⟨Nat.le_of_ble_eq_true rfl, Nat.le_of_ble_eq_true rfl⟩ (fun r3 g4 => ?_)
        refine aw_if_eq iX5_tellsThings_24 ?_ ?_
        · refine aw_iconst (v := 0) iX5_tellsThings_46 (by decide) ?_
          exact aw_zretK iX5_tellsThings_47 rfl (Or.inl rfl)
        · refine aw_aload_n iX5_tellsThings_27 rfl rfl ?_
          refine aw_bipush (v := 31) iX5_tellsThings_28 (by decide) ?_
          refine aw_iconst (v := 0) iX5_tellsThings_30 (by decide) ?_
          refine aw_callV (M' := mX5_takesNumber) (As := [.inl (31 : Int32), .inl (0 : Int32)]) iX5_tellsThings_31 lkX5_58 mcX5_takesNumber mvX5_takesNumber rfl zrc5 (kX5_takesNumber (31 : Int32) (0 : Int32) g4) rfl (Nat.le_of_ble_eq_true rfl) ⟨Nat.le_of_ble_eq_true rfl, Nat.le_of_ble_eq_true rfl⟩ (fun r5 g6 => ?_)
          refine aw_if_eq iX5_tellsThings_34 ?_ ?_
          · refine aw_iconst (v := 0) iX5_tellsThings_46 (by decide) ?_
            exact aw_zretK iX5_tellsThings_47 rfl (Or.inl rfl)
          · refine aw_aload_n iX5_tellsThings_37 rfl rfl ?_
            refine aw_bipush (v := 59) iX5_tellsThings_38 (by decide) ?_
            refine aw_callV (M' := mX5_takes) (As := [.inl (59 : Int32)]) iX5_tellsThings_40 lkX5_55 mcX5_takes mvX5_takes rfl zrc5 (kX5_takes (59 : Int32) g6) rfl (Nat.le_of_ble_eq_true rfl) ⟨Nat.le_of_ble_eq_true rfl, Nat.le_of_ble_eq_true rfl⟩ (fun r7 g8 => ?_)
            refine aw_if_ne iX5_tellsThings_43 ?_ ?_
            · refine aw_iconst (v := 0) iX5_tellsThings_46 (by decide) ?_
              exact aw_zretK iX5_tellsThings_47 rfl (Or.inl rfl)
            · refine aw_aload_n iX5_tellsThings_48 rfl rfl ?_
              refine aw_getR (own := "") iX5_tellsThings_49 flX5_71 zlt17 zsh17 rfl ?_
              refine aw_aload_n iX5_tellsThings_52 rfl rfl ?_
              refine aw_getI (own := "") iX5_tellsThings_53 flX5_68 zlt17 zsh17 rfl ?_
              refine aw_aload_n iX5_tellsThings_56 rfl rfl ?_
              refine aw_getI (own := "") iX5_tellsThings_57 flX5_62 zlt5 zsh5 rfl ?_
              refine aw_iast iX5_tellsThings_60 zlt18 zsh18 (fun g9 _ => ?_)
              refine aw_aload_n iX5_tellsThings_61 rfl rfl ?_
              refine aw_dup iX5_tellsThings_62 ?_
              refine aw_getI (own := "") iX5_tellsThings_63 flX5_68 zlt17 zsh17 rfl ?_
              refine aw_iconst (v := 1) iX5_tellsThings_66 (by decide) ?_
              refine aw_iadd iX5_tellsThings_67 ?_
              refine aw_putI iX5_tellsThings_68 fpX5_68 zlt17 zsh17 rfl (fun g10 _ => ?_)
              refine aw_goto iX5_tellsThings_71 ?_
              exact ih  g10
    · exact hK  g2
set_option maxRecDepth 20000 in
set_option maxHeartbeats 4000000 in
theorem wX5_tellsThings (g : Mem) : aw mX5_tellsThings none 0 [some (.inr 5), some (.inr 17)] [] g (fX5_tellsThings g) := by
  unfold fX5_tellsThings
  refine wX5_tellsThings_L0 _ (fun g11 => ?_) FU  g
  refine aw_aload_n iX5_tellsThings_74 rfl rfl ?_
  refine aw_callV (M' := mX5_next) (As := []) iX5_tellsThings_75 lkX5_48 mcX5_next mvX5_next rfl zrc5 (kX5_next g11) rfl (Nat.le_of_ble_eq_true rfl) ⟨Nat.le_of_ble_eq_true rfl, Nat.le_of_ble_eq_true rfl⟩ (fun r12 g13 => ?_)
  refine aw_bipush (v := 116) iX5_tellsThings_78 (by decide) ?_
  refine aw_icmp_ne iX5_tellsThings_80 ?_ ?_
  · refine aw_aload_n iX5_tellsThings_83 rfl rfl ?_
    refine aw_iconst (v := 3) iX5_tellsThings_84 (by decide) ?_
    refine aw_callV (M' := mX5_faulty) (As := [.inl (3 : Int32)]) iX5_tellsThings_85 lkX5_51 mcX5_faulty mvX5_faulty rfl zrc5 (kX5_faulty (3 : Int32) g13) rfl (Nat.le_of_ble_eq_true rfl) ⟨Nat.le_of_ble_eq_true rfl, Nat.le_of_ble_eq_true rfl⟩ (fun r14 g15 => ?_)
    refine aw_if_eq iX5_tellsThings_88 ?_ ?_
    · refine aw_iconst (v := 0) iX5_tellsThings_95 (by decide) ?_
      exact aw_zretK iX5_tellsThings_96 rfl (Or.inl rfl)
    · refine aw_iconst (v := 1) iX5_tellsThings_91 (by decide) ?_
      refine aw_goto iX5_tellsThings_92 ?_
      exact aw_zretK iX5_tellsThings_96 rfl (Or.inr rfl)
  · refine aw_iconst (v := 1) iX5_tellsThings_91 (by decide) ?_
    refine aw_goto iX5_tellsThings_92 ?_
    exact aw_zretK iX5_tellsThings_96 rfl (Or.inr rfl)
set_option maxRecDepth 20000 in
set_option maxHeartbeats 4000000 in
theorem kX5_tellsThings (g : Mem) : CT mX5_tellsThings [.inr 5, .inr 17] g (fX5_tellsThings g) := CT.of (nr := 0) (by decide +kernel) (Nat.le_of_ble_eq_true rfl) (Or.inr (Or.inr rfl)) (wX5_tellsThings g)
set_option maxRecDepth 20000 in
set_option maxHeartbeats 4000000 in
theorem wX5_tellsRiddle (a1 : Int32) (g : Mem) : aw mX5_tellsRiddle none 0 [some (.inr 5), some (.inr 17), some (.inl a1)] [] g (fX5_tellsRiddle a1 g) := by
  unfold fX5_tellsRiddle
  refine aw_aload_n iX5_tellsRiddle_0 rfl rfl ?_
  refine aw_getR (own := "") iX5_tellsRiddle_1 flX5_85 zlt17 zsh17 rfl ?_
  refine aw_iload_n iX5_tellsRiddle_4 rfl rfl ?_
  refine aw_aload_n iX5_tellsRiddle_5 rfl rfl ?_
  refine aw_callV (M' := mX5_next) (As := []) iX5_tellsRiddle_6 lkX5_48 mcX5_next mvX5_next rfl zrc5 (kX5_next g) rfl (Nat.le_of_ble_eq_true rfl) ⟨Nat.le_of_ble_eq_true rfl, Nat.le_of_ble_eq_true rfl⟩ (fun r1 g2 => ?_)
  refine aw_callS (M' := mX2_sortOf) (As := [.inl r1]) iX5_tellsRiddle_9 lkX5_74 mcX2_sortOf msX2_sortOf rfl (kX2_sortOf r1 g2) rfl (Nat.le_of_ble_eq_true rfl) ⟨Nat.le_of_ble_eq_true rfl, Nat.le_of_ble_eq_true rfl⟩ (fun r3 g4 => ?_)
  refine aw_iast iX5_tellsRiddle_12 zlt19 zsh19 (fun g5 _ => ?_)
  refine aw_aload_n iX5_tellsRiddle_13 rfl rfl ?_
  refine aw_dup iX5_tellsRiddle_14 ?_
  refine aw_getI (own := "") iX5_tellsRiddle_15 flX5_20 zlt5 zsh5 rfl ?_
  refine aw_iconst (v := 1) iX5_tellsRiddle_18 (by decide) ?_
  refine aw_iadd iX5_tellsRiddle_19 ?_
  refine aw_putI iX5_tellsRiddle_20 fpX5_20 zlt5 zsh5 rfl (fun g6 _ => ?_)
  refine aw_aload_n iX5_tellsRiddle_23 rfl rfl ?_
  refine aw_bipush (v := 31) iX5_tellsRiddle_24 (by decide) ?_
  refine aw_iconst (v := 0) iX5_tellsRiddle_26 (by decide) ?_
  refine aw_callV (M' := mX5_takesNumber) (As := [.inl (31 : Int32), .inl (0 : Int32)]) iX5_tellsRiddle_27 lkX5_58 mcX5_takesNumber mvX5_takesNumber rfl zrc5 (kX5_takesNumber (31 : Int32) (0 : Int32) g6) rfl (Nat.le_of_ble_eq_true rfl) ⟨Nat.le_of_ble_eq_true rfl, Nat.le_of_ble_eq_true rfl⟩ (fun r7 g8 => ?_)
  refine aw_if_ne iX5_tellsRiddle_30 ?_ ?_
  · refine aw_iconst (v := 0) iX5_tellsRiddle_33 (by decide) ?_
    exact aw_zretK iX5_tellsRiddle_34 rfl (Or.inl rfl)
  · refine aw_aload_n iX5_tellsRiddle_35 rfl rfl ?_
    refine aw_getR (own := "") iX5_tellsRiddle_36 flX5_88 zlt17 zsh17 rfl ?_
    refine aw_iload_n iX5_tellsRiddle_39 rfl rfl ?_
    refine aw_aload_n iX5_tellsRiddle_40 rfl rfl ?_
    refine aw_getI (own := "") iX5_tellsRiddle_41 flX5_62 zlt5 zsh5 rfl ?_
    refine aw_iast iX5_tellsRiddle_44 zlt20 zsh20 (fun g9 _ => ?_)
    refine aw_aload_n iX5_tellsRiddle_45 rfl rfl ?_
    refine aw_bipush (v := 44) iX5_tellsRiddle_46 (by decide) ?_
    refine aw_callV (M' := mX5_takes) (As := [.inl (44 : Int32)]) iX5_tellsRiddle_48 lkX5_55 mcX5_takes mvX5_takes rfl zrc5 (kX5_takes (44 : Int32) g9) rfl (Nat.le_of_ble_eq_true rfl) ⟨Nat.le_of_ble_eq_true rfl, Nat.le_of_ble_eq_true rfl⟩ (fun r10 g11 => ?_)
    refine aw_if_eq iX5_tellsRiddle_51 ?_ ?_
    · refine aw_iconst (v := 0) iX5_tellsRiddle_69 (by decide) ?_
      exact aw_zretK iX5_tellsRiddle_70 rfl (Or.inl rfl)
    · refine aw_aload_n iX5_tellsRiddle_54 rfl rfl ?_
      refine aw_bipush (v := 31) iX5_tellsRiddle_55 (by decide) ?_
      refine aw_aload_n iX5_tellsRiddle_57 rfl rfl ?_
      refine aw_getR (own := "") iX5_tellsRiddle_58 flX5_88 zlt17 zsh17 rfl ?_
      refine aw_iload_n iX5_tellsRiddle_61 rfl rfl ?_
      refine aw_iald iX5_tellsRiddle_62 zlt20 zsh20 (fun v12 _ => ?_)
      refine aw_callV (M' := mX5_takesNumber) (As := [.inl (31 : Int32), .inl v12]) iX5_tellsRiddle_63 lkX5_58 mcX5_takesNumber mvX5_takesNumber rfl zrc5 (kX5_takesNumber (31 : Int32) v12 g11) rfl (Nat.le_of_ble_eq_true rfl) ⟨Nat.le_of_ble_eq_true rfl, Nat.le_of_ble_eq_true rfl⟩ (fun r13 g14 => ?_)
      refine aw_if_ne iX5_tellsRiddle_66 ?_ ?_
      · refine aw_iconst (v := 0) iX5_tellsRiddle_69 (by decide) ?_
        exact aw_zretK iX5_tellsRiddle_70 rfl (Or.inl rfl)
      · refine aw_aload_n iX5_tellsRiddle_71 rfl rfl ?_
        refine aw_getR (own := "") iX5_tellsRiddle_72 flX5_91 zlt17 zsh17 rfl ?_
        refine aw_iload_n iX5_tellsRiddle_75 rfl rfl ?_
        refine aw_aload_n iX5_tellsRiddle_76 rfl rfl ?_
        refine aw_getI (own := "") iX5_tellsRiddle_77 flX5_62 zlt5 zsh5 rfl ?_
        refine aw_iast iX5_tellsRiddle_80 zlt21 zsh21 (fun g15 _ => ?_)
        refine aw_aload_n iX5_tellsRiddle_81 rfl rfl ?_
        refine aw_getR (own := "") iX5_tellsRiddle_82 flX5_94 zlt17 zsh17 rfl ?_
        refine aw_iload_n iX5_tellsRiddle_85 rfl rfl ?_
        refine aw_aload_n iX5_tellsRiddle_86 rfl rfl ?_
        refine aw_aload_n iX5_tellsRiddle_87 rfl rfl ?_
        refine aw_getR (own := "") iX5_tellsRiddle_88 flX5_85 zlt17 zsh17 rfl ?_
        refine aw_iload_n iX5_tellsRiddle_91 rfl rfl ?_
        refine aw_iald iX5_tellsRiddle_92 zlt19 zsh19 (fun v16 _ => ?_)
        refine aw_aload_n iX5_tellsRiddle_93 rfl rfl ?_
        refine aw_getR (own := "") iX5_tellsRiddle_94 flX5_88 zlt17 zsh17 rfl ?_
        refine aw_iload_n iX5_tellsRiddle_97 rfl rfl ?_
        refine aw_iald iX5_tellsRiddle_98 zlt20 zsh20 (fun v17 _ => ?_)
        refine aw_aload_n iX5_tellsRiddle_99 rfl rfl ?_
        refine aw_getI (own := "") iX5_tellsRiddle_100 flX5_62 zlt5 zsh5 rfl ?_
        refine aw_callV (M' := mX2_thingsFitting) (As := [.inl v16, .inl v17, .inl (g15 5 4)]) iX5_tellsRiddle_103 lkX5_97 mcX2_thingsFitting mvX2_thingsFitting rfl zrc17 (kX2_thingsFitting 17 (CO_of17) v16 v17 (g15 5 4) g15) rfl (Nat.le_of_ble_eq_true rfl) ⟨Nat.le_of_ble_eq_true rfl, Nat.le_of_ble_eq_true rfl⟩ (fun r18 g19 => ?_)
        refine aw_iast iX5_tellsRiddle_106 zlt22 zsh22 (fun g20 _ => ?_)
        refine aw_aload_n iX5_tellsRiddle_107 rfl rfl ?_
        refine aw_bipush (v := 59) iX5_tellsRiddle_108 (by decide) ?_
        refine aw_callV (M' := mX5_takes) (As := [.inl (59 : Int32)]) iX5_tellsRiddle_110 lkX5_55 mcX5_takes mvX5_takes rfl zrc5 (kX5_takes (59 : Int32) g20) rfl (Nat.le_of_ble_eq_true rfl) ⟨Nat.le_of_ble_eq_true rfl, Nat.le_of_ble_eq_true rfl⟩ (fun r21 g22 => ?_)
        exact aw_zret iX5_tellsRiddle_113 rfl
set_option maxRecDepth 20000 in
set_option maxHeartbeats 4000000 in
theorem kX5_tellsRiddle (a1 : Int32) (g : Mem) : CT mX5_tellsRiddle [.inr 5, .inr 17, .inl a1] g (fX5_tellsRiddle a1 g) := CT.of (nr := 0) (by decide +kernel) (Nat.le_of_ble_eq_true rfl) (Or.inr (Or.inr rfl)) (wX5_tellsRiddle a1 g)
set_option maxRecDepth 20000 in
set_option maxHeartbeats 4000000 in
theorem wX5_tellsRiddles_L0 (K : Mem → Option (Int32 × Mem)) (hK : ∀ (g : Mem), aw mX5_tellsRiddles none 46 [some (.inr 5), some (.inr 17)] [] g (K  g)) : ∀ (n : Nat) (g : Mem), aw mX5_tellsRiddles none 0 [some (.inr 5), some (.inr 17)] [] g (fX5_tellsRiddles_L0 K n  g) := by
  intro n
  induction n with
  | zero => intro  g; exact aw_none
  | succ n ih =>
    intro  g
    rw [fX5_tellsRiddles_L0]
    refine aw_aload_n iX5_tellsRiddles_0 rfl rfl ?_
    refine aw_callV (M' := mX5_next) (As := []) iX5_tellsRiddles_1 lkX5_48 mcX5_next mvX5_next rfl zrc5 (kX5_next g) rfl (Nat.le_of_ble_eq_true rfl) ⟨Nat.le_of_ble_eq_true rfl, Nat.le_of_ble_eq_true rfl⟩ (fun r1 g2 => ?_)
    refine aw_callS (M' := mX2_sortOf) (As := [.inl r1]) iX5_tellsRiddles_4 lkX5_74 mcX2_sortOf msX2_sortOf rfl (kX2_sortOf r1 g2) rfl (Nat.le_of_ble_eq_true rfl) ⟨Nat.le_of_ble_eq_true rfl, Nat.le_of_ble_eq_true rfl⟩ (fun r3 g4 => ?_)
    refine aw_if_eq iX5_tellsRiddles_7 ?_ ?_
    · exact hK  g4
    · refine aw_aload_n iX5_tellsRiddles_10 rfl rfl ?_
      refine aw_getI (own := "") iX5_tellsRiddles_11 flX5_78 zlt17 zsh17 rfl ?_
      refine aw_bipush (v := 6) iX5_tellsRiddles_14 (by decide) ?_
      refine aw_icmp_ge iX5_tellsRiddles_16 ?_ ?_
      · exact hK  g4
      · refine aw_aload_n iX5_tellsRiddles_19 rfl rfl ?_
        refine aw_aload_n iX5_tellsRiddles_20 rfl rfl ?_
        refine aw_aload_n iX5_tellsRiddles_21 rfl rfl ?_
        refine aw_getI (own := "") iX5_tellsRiddles_22 flX5_78 zlt17 zsh17 rfl ?_
        refine aw_callV (M' := mX5_tellsRiddle) (As := [.inr 17, .inl (g4 17 5)]) iX5_tellsRiddles_25 lkX5_81 mcX5_tellsRiddle mvX5_tellsRiddle rfl zrc5 (kX5_tellsRiddle (g4 17 5) g4) rfl (Nat.le_of_ble_eq_true rfl) ⟨Nat.le_of_ble_eq_true rfl, Nat.le_of_ble_eq_true rfl⟩ (fun r5 g6 => ?_)
        refine aw_if_ne iX5_tellsRiddles_28 ?_ ?_
        · refine aw_iconst (v := 0) iX5_tellsRiddles_31 (by decide) ?_
          exact aw_zretK iX5_tellsRiddles_32 rfl (Or.inl rfl)
        · refine aw_aload_n iX5_tellsRiddles_33 rfl rfl ?_
          refine aw_dup iX5_tellsRiddles_34 ?_
          refine aw_getI (own := "") iX5_tellsRiddles_35 flX5_78 zlt17 zsh17 rfl ?_
          refine aw_iconst (v := 1) iX5_tellsRiddles_38 (by decide) ?_
          refine aw_iadd iX5_tellsRiddles_39 ?_
          refine aw_putI iX5_tellsRiddles_40 fpX5_78 zlt17 zsh17 rfl (fun g7 _ => ?_)
          refine aw_goto iX5_tellsRiddles_43 ?_
          exact ih  g7
set_option maxRecDepth 20000 in
set_option maxHeartbeats 4000000 in
theorem wX5_tellsRiddles (g : Mem) : aw mX5_tellsRiddles none 0 [some (.inr 5), some (.inr 17)] [] g (fX5_tellsRiddles g) := by
  unfold fX5_tellsRiddles
  refine wX5_tellsRiddles_L0 _ (fun g8 => ?_) FU  g
  refine aw_aload_n iX5_tellsRiddles_46 rfl rfl ?_
  refine aw_callV (M' := mX5_next) (As := []) iX5_tellsRiddles_47 lkX5_48 mcX5_next mvX5_next rfl zrc5 (kX5_next g8) rfl (Nat.le_of_ble_eq_true rfl) ⟨Nat.le_of_ble_eq_true rfl, Nat.le_of_ble_eq_true rfl⟩ (fun r9 g10 => ?_)
  refine aw_callS (M' := mX2_sortOf) (As := [.inl r9]) iX5_tellsRiddles_50 lkX5_74 mcX2_sortOf msX2_sortOf rfl (kX2_sortOf r9 g10) rfl (Nat.le_of_ble_eq_true rfl) ⟨Nat.le_of_ble_eq_true rfl, Nat.le_of_ble_eq_true rfl⟩ (fun r11 g12 => ?_)
  refine aw_if_eq iX5_tellsRiddles_53 ?_ ?_
  · refine aw_iconst (v := 1) iX5_tellsRiddles_64 (by decide) ?_
    refine aw_goto iX5_tellsRiddles_65 ?_
    exact aw_zretK iX5_tellsRiddles_69 rfl (Or.inr rfl)
  · refine aw_aload_n iX5_tellsRiddles_56 rfl rfl ?_
    refine aw_iconst (v := 3) iX5_tellsRiddles_57 (by decide) ?_
    refine aw_callV (M' := mX5_faulty) (As := [.inl (3 : Int32)]) iX5_tellsRiddles_58 lkX5_51 mcX5_faulty mvX5_faulty rfl zrc5 (kX5_faulty (3 : Int32) g12) rfl (Nat.le_of_ble_eq_true rfl) ⟨Nat.le_of_ble_eq_true rfl, Nat.le_of_ble_eq_true rfl⟩ (fun r13 g14 => ?_)
    refine aw_if_eq iX5_tellsRiddles_61 ?_ ?_
    · refine aw_iconst (v := 0) iX5_tellsRiddles_68 (by decide) ?_
      exact aw_zretK iX5_tellsRiddles_69 rfl (Or.inl rfl)
    · refine aw_iconst (v := 1) iX5_tellsRiddles_64 (by decide) ?_
      refine aw_goto iX5_tellsRiddles_65 ?_
      exact aw_zretK iX5_tellsRiddles_69 rfl (Or.inr rfl)
set_option maxRecDepth 20000 in
set_option maxHeartbeats 4000000 in
theorem kX5_tellsRiddles (g : Mem) : CT mX5_tellsRiddles [.inr 5, .inr 17] g (fX5_tellsRiddles g) := CT.of (nr := 0) (by decide +kernel) (Nat.le_of_ble_eq_true rfl) (Or.inr (Or.inr rfl)) (wX5_tellsRiddles g)
set_option maxRecDepth 20000 in
set_option maxHeartbeats 4000000 in
theorem wX5_tellsSuitors_L0 (K : Mem → Option (Int32 × Mem)) (hK : ∀ (g : Mem), aw mX5_tellsSuitors none 75 [some (.inr 5), some (.inr 17)] [] g (K  g)) : ∀ (n : Nat) (g : Mem), aw mX5_tellsSuitors none 0 [some (.inr 5), some (.inr 17)] [] g (fX5_tellsSuitors_L0 K n  g) := by
  intro n
  induction n with
  | zero => intro  g; exact aw_none
  | succ n ih =>
    intro  g
    rw [fX5_tellsSuitors_L0]
    refine aw_aload_n iX5_tellsSuitors_0 rfl rfl ?_
    refine aw_callV (M' := mX5_next) (As := []) iX5_tellsSuitors_1 lkX5_48 mcX5_next mvX5_next rfl zrc5 (kX5_next g) rfl (Nat.le_of_ble_eq_true rfl) ⟨Nat.le_of_ble_eq_true rfl, Nat.le_of_ble_eq_true rfl⟩ (fun r1 g2 => ?_)
    refine aw_bipush (v := 119) iX5_tellsSuitors_4 (by decide) ?_
    refine aw_icmp_ne iX5_tellsSuitors_6 ?_ ?_
    · refine aw_aload_n iX5_tellsSuitors_9 rfl rfl ?_
      refine aw_getI (own := "") iX5_tellsSuitors_10 flX5_101 zlt17 zsh17 rfl ?_
      refine aw_iconst (v := 4) iX5_tellsSuitors_13 (by decide) ?_
      refine aw_icmp_ge iX5_tellsSuitors_14 ?_ ?_
      · exact hK  g2
      · refine aw_aload_n iX5_tellsSuitors_17 rfl rfl ?_
        refine aw_bipush (v := 119) iX5_tellsSuitors_18 (by decide) ?_
        refine aw_callV (M' := mX5_takes) (As := [.inl (119 : Int32)]) iX5_tellsSuitors_20 lkX5_55 mcX5_takes mvX5_takes rfl zrc5 (kX5_takes (119 : Int32) g2) rfl (Nat.le_of_ble_eq_true rfl) ⟨Nat.le_of_ble_eq_true rfl, Nat.le_of_ble_eq_true rfl⟩ (fun r3 g4 => ?_)
        refine aw_if_eq iX5_tellsSuitors_23 ?_ ?_
        · refine aw_iconst (v := 0) iX5_tellsSuitors_47 (by decide) ?_
          exact aw_zretK iX5_tellsSuitors_48 rfl (Or.inl rfl)
        · refine aw_aload_n iX5_tellsSuitors_26 rfl rfl ?_
          refine aw_aload_n iX5_tellsSuitors_27 rfl rfl ?_
          refine aw_callV (M' := mX2_allThings) (As := []) iX5_tellsSuitors_28 lkX5_44 mcX2_allThings mvX2_allThings rfl zrc17 (kX2_allThings 17 (CO_of17) g4) rfl (Nat.le_of_ble_eq_true rfl) ⟨Nat.le_of_ble_eq_true rfl, Nat.le_of_ble_eq_true rfl⟩ (fun r5 g6 => ?_)
          refine aw_iconst (v := 0) iX5_tellsSuitors_31 (by decide) ?_
          refine aw_callV (M' := mX5_takesNumber) (As := [.inl r5, .inl (0 : Int32)]) iX5_tellsSuitors_32 lkX5_58 mcX5_takesNumber mvX5_takesNumber rfl zrc5 (kX5_takesNumber r5 (0 : Int32) g6) rfl (Nat.le_of_ble_eq_true rfl) ⟨Nat.le_of_ble_eq_true rfl, Nat.le_of_ble_eq_true rfl⟩ (fun r7 g8 => ?_)
          refine aw_if_eq iX5_tellsSuitors_35 ?_ ?_
          · refine aw_iconst (v := 0) iX5_tellsSuitors_47 (by decide) ?_
            exact aw_zretK iX5_tellsSuitors_48 rfl (Or.inl rfl)
          · refine aw_aload_n iX5_tellsSuitors_38 rfl rfl ?_
            refine aw_bipush (v := 59) iX5_tellsSuitors_39 (by decide) ?_
            refine aw_callV (M' := mX5_takes) (As := [.inl (59 : Int32)]) iX5_tellsSuitors_41 lkX5_55 mcX5_takes mvX5_takes rfl zrc5 (kX5_takes (59 : Int32) g8) rfl (Nat.le_of_ble_eq_true rfl) ⟨Nat.le_of_ble_eq_true rfl, Nat.le_of_ble_eq_true rfl⟩ (fun r9 g10 => ?_)
            refine aw_if_ne iX5_tellsSuitors_44 ?_ ?_
            · refine aw_iconst (v := 0) iX5_tellsSuitors_47 (by decide) ?_
              exact aw_zretK iX5_tellsSuitors_48 rfl (Or.inl rfl)
            · refine aw_aload_n iX5_tellsSuitors_49 rfl rfl ?_
              refine aw_getR (own := "") iX5_tellsSuitors_50 flX5_104 zlt17 zsh17 rfl ?_
              refine aw_aload_n iX5_tellsSuitors_53 rfl rfl ?_
              refine aw_getI (own := "") iX5_tellsSuitors_54 flX5_101 zlt17 zsh17 rfl ?_
              refine aw_aload_n iX5_tellsSuitors_57 rfl rfl ?_
              refine aw_getI (own := "") iX5_tellsSuitors_58 flX5_62 zlt5 zsh5 rfl ?_
              refine aw_iast iX5_tellsSuitors_61 zlt23 zsh23 (fun g11 _ => ?_)
              refine aw_aload_n iX5_tellsSuitors_62 rfl rfl ?_
              refine aw_dup iX5_tellsSuitors_63 ?_
              refine aw_getI (own := "") iX5_tellsSuitors_64 flX5_101 zlt17 zsh17 rfl ?_
              refine aw_iconst (v := 1) iX5_tellsSuitors_67 (by decide) ?_
              refine aw_iadd iX5_tellsSuitors_68 ?_
              refine aw_putI iX5_tellsSuitors_69 fpX5_101 zlt17 zsh17 rfl (fun g12 _ => ?_)
              refine aw_goto iX5_tellsSuitors_72 ?_
              exact ih  g12
    · exact hK  g2
set_option maxRecDepth 20000 in
set_option maxHeartbeats 4000000 in
theorem wX5_tellsSuitors (g : Mem) : aw mX5_tellsSuitors none 0 [some (.inr 5), some (.inr 17)] [] g (fX5_tellsSuitors g) := by
  unfold fX5_tellsSuitors
  refine wX5_tellsSuitors_L0 _ (fun g13 => ?_) FU  g
  refine aw_aload_n iX5_tellsSuitors_75 rfl rfl ?_
  refine aw_callV (M' := mX5_next) (As := []) iX5_tellsSuitors_76 lkX5_48 mcX5_next mvX5_next rfl zrc5 (kX5_next g13) rfl (Nat.le_of_ble_eq_true rfl) ⟨Nat.le_of_ble_eq_true rfl, Nat.le_of_ble_eq_true rfl⟩ (fun r14 g15 => ?_)
  refine aw_bipush (v := 119) iX5_tellsSuitors_79 (by decide) ?_
  refine aw_icmp_ne iX5_tellsSuitors_81 ?_ ?_
  · refine aw_aload_n iX5_tellsSuitors_84 rfl rfl ?_
    refine aw_iconst (v := 3) iX5_tellsSuitors_85 (by decide) ?_
    refine aw_callV (M' := mX5_faulty) (As := [.inl (3 : Int32)]) iX5_tellsSuitors_86 lkX5_51 mcX5_faulty mvX5_faulty rfl zrc5 (kX5_faulty (3 : Int32) g15) rfl (Nat.le_of_ble_eq_true rfl) ⟨Nat.le_of_ble_eq_true rfl, Nat.le_of_ble_eq_true rfl⟩ (fun r16 g17 => ?_)
    refine aw_if_eq iX5_tellsSuitors_89 ?_ ?_
    · refine aw_iconst (v := 0) iX5_tellsSuitors_96 (by decide) ?_
      exact aw_zretK iX5_tellsSuitors_97 rfl (Or.inl rfl)
    · refine aw_iconst (v := 1) iX5_tellsSuitors_92 (by decide) ?_
      refine aw_goto iX5_tellsSuitors_93 ?_
      exact aw_zretK iX5_tellsSuitors_97 rfl (Or.inr rfl)
  · refine aw_iconst (v := 1) iX5_tellsSuitors_92 (by decide) ?_
    refine aw_goto iX5_tellsSuitors_93 ?_
    exact aw_zretK iX5_tellsSuitors_97 rfl (Or.inr rfl)
set_option maxRecDepth 20000 in
set_option maxHeartbeats 4000000 in
theorem kX5_tellsSuitors (g : Mem) : CT mX5_tellsSuitors [.inr 5, .inr 17] g (fX5_tellsSuitors g) := CT.of (nr := 0) (by decide +kernel) (Nat.le_of_ble_eq_true rfl) (Or.inr (Or.inr rfl)) (wX5_tellsSuitors g)
set_option maxRecDepth 20000 in
set_option maxHeartbeats 4000000 in
theorem wX5_tells (g : Mem) : aw mX5_tells none 0 [some (.inr 5), some (.inr 17)] [] g (fX5_tells g) := by
  unfold fX5_tells
  refine aw_aload_n iX5_tells_0 rfl rfl ?_
  refine aw_iconst (v := 0) iX5_tells_1 (by decide) ?_
  refine aw_putI iX5_tells_2 fpX5_20 zlt5 zsh5 rfl (fun g1 _ => ?_)
  refine aw_aload_n iX5_tells_5 rfl rfl ?_
  refine aw_callVv (M' := mX2_clear) (As := []) iX5_tells_6 lkX5_23 mcX2_clear mvX2_clear rfl zrc17 (kX2_clear 17 (CO_of17) g1) rfl (Nat.le_of_ble_eq_true rfl) ⟨Nat.le_of_ble_eq_true rfl, Nat.le_of_ble_eq_true rfl⟩ (fun r2 g3 => ?_)
  refine aw_aload_n iX5_tells_9 rfl rfl ?_
  refine aw_aload_n iX5_tells_10 rfl rfl ?_
  refine aw_callV (M' := mX5_tellsLaw) (As := [.inr 17]) iX5_tells_11 lkX5_28 mcX5_tellsLaw mvX5_tellsLaw rfl zrc5 (kX5_tellsLaw g3) rfl (Nat.le_of_ble_eq_true rfl) ⟨Nat.le_of_ble_eq_true rfl, Nat.le_of_ble_eq_true rfl⟩ (fun r4 g5 => ?_)
  refine aw_if_eq iX5_tells_14 ?_ ?_
  · refine aw_iconst (v := 0) iX5_tells_41 (by decide) ?_
    exact aw_zretK iX5_tells_42 rfl (Or.inl rfl)
  · refine aw_aload_n iX5_tells_17 rfl rfl ?_
    refine aw_aload_n iX5_tells_18 rfl rfl ?_
    refine aw_callV (M' := mX5_tellsThings) (As := [.inr 17]) iX5_tells_19 lkX5_32 mcX5_tellsThings mvX5_tellsThings rfl zrc5 (kX5_tellsThings g5) rfl (Nat.le_of_ble_eq_true rfl) ⟨Nat.le_of_ble_eq_true rfl, Nat.le_of_ble_eq_true rfl⟩ (fun r6 g7 => ?_)
    refine aw_if_eq iX5_tells_22 ?_ ?_
    · refine aw_iconst (v := 0) iX5_tells_41 (by decide) ?_
      exact aw_zretK iX5_tells_42 rfl (Or.inl rfl)
    · refine aw_aload_n iX5_tells_25 rfl rfl ?_
      refine aw_aload_n iX5_tells_26 rfl rfl ?_
      refine aw_callV (M' := mX5_tellsRiddles) (As := [.inr 17]) iX5_tells_27 lkX5_35 mcX5_tellsRiddles mvX5_tellsRiddles rfl zrc5 (kX5_tellsRiddles g7) rfl (Nat.le_of_ble_eq_true rfl) ⟨Nat.le_of_ble_eq_true rfl, Nat.le_of_ble_eq_true rfl⟩ (fun r8 g9 => ?_)
      refine aw_if_eq iX5_tells_30 ?_ ?_
      · refine aw_iconst (v := 0) iX5_tells_41 (by decide) ?_
        exact aw_zretK iX5_tells_42 rfl (Or.inl rfl)
      · refine aw_aload_n iX5_tells_33 rfl rfl ?_
        refine aw_aload_n iX5_tells_34 rfl rfl ?_
        refine aw_callV (M' := mX5_tellsSuitors) (As := [.inr 17]) iX5_tells_35 lkX5_38 mcX5_tellsSuitors mvX5_tellsSuitors rfl zrc5 (kX5_tellsSuitors g9) rfl (Nat.le_of_ble_eq_true rfl) ⟨Nat.le_of_ble_eq_true rfl, Nat.le_of_ble_eq_true rfl⟩ (fun r10 g11 => ?_)
        refine aw_if_ne iX5_tells_38 ?_ ?_
        · refine aw_iconst (v := 0) iX5_tells_41 (by decide) ?_
          exact aw_zretK iX5_tells_42 rfl (Or.inl rfl)
        · refine aw_aload_n iX5_tells_43 rfl rfl ?_
          refine aw_dup iX5_tells_44 ?_
          refine aw_getI (own := "") iX5_tells_45 flX5_41 zlt17 zsh17 rfl ?_
          refine aw_aload_n iX5_tells_48 rfl rfl ?_
          refine aw_callV (M' := mX2_allThings) (As := []) iX5_tells_49 lkX5_44 mcX2_allThings mvX2_allThings rfl zrc17 (kX2_allThings 17 (CO_of17) g11) rfl (Nat.le_of_ble_eq_true rfl) ⟨Nat.le_of_ble_eq_true rfl, Nat.le_of_ble_eq_true rfl⟩ (fun r12 g13 => ?_)
          refine aw_iand iX5_tells_52 ?_
          refine aw_putI iX5_tells_53 fpX5_41 zlt17 zsh17 rfl (fun g14 _ => ?_)
          refine aw_aload_n iX5_tells_56 rfl rfl ?_
          refine aw_callV (M' := mX5_next) (As := []) iX5_tells_57 lkX5_48 mcX5_next mvX5_next rfl zrc5 (kX5_next g14) rfl (Nat.le_of_ble_eq_true rfl) ⟨Nat.le_of_ble_eq_true rfl, Nat.le_of_ble_eq_true rfl⟩ (fun r15 g16 => ?_)
          refine aw_iconst (v := (-1)) iX5_tells_60 (by decide) ?_
          refine aw_icmp_eq iX5_tells_61 ?_ ?_
          · refine aw_iconst (v := 1) iX5_tells_72 (by decide) ?_
            refine aw_goto iX5_tells_73 ?_
            exact aw_zretK iX5_tells_77 rfl (Or.inr rfl)
          · refine aw_aload_n iX5_tells_64 rfl rfl ?_
            refine aw_iconst (v := 1) iX5_tells_65 (by decide) ?_
            refine aw_callV (M' := mX5_faulty) (As := [.inl (1 : Int32)]) iX5_tells_66 lkX5_51 mcX5_faulty mvX5_faulty rfl zrc5 (kX5_faulty (1 : Int32) g16) rfl (Nat.le_of_ble_eq_true rfl) ⟨Nat.le_of_ble_eq_true rfl, Nat.le_of_ble_eq_true rfl⟩ (fun r17 g18 => ?_)
            refine aw_if_eq iX5_tells_69 ?_ ?_
            · refine aw_iconst (v := 0) iX5_tells_76 (by decide) ?_
              exact aw_zretK iX5_tells_77 rfl (Or.inl rfl)
            · refine aw_iconst (v := 1) iX5_tells_72 (by decide) ?_
              refine aw_goto iX5_tells_73 ?_
              exact aw_zretK iX5_tells_77 rfl (Or.inr rfl)
set_option maxRecDepth 20000 in
set_option maxHeartbeats 4000000 in
theorem kX5_tells (g : Mem) : CT mX5_tells [.inr 5, .inr 17] g (fX5_tells g) := CT.of (nr := 0) (by decide +kernel) (Nat.le_of_ble_eq_true rfl) (Or.inr (Or.inr rfl)) (wX5_tells g)
set_option maxRecDepth 20000 in
set_option maxHeartbeats 4000000 in
theorem wX6_below (a0 : Int32) (a1 : Int32) (g : Mem) : aw mX6_below none 0 [some (.inl a0), some (.inl a1)] [] g (fX6_below a0 a1 g) := by
  unfold fX6_below
  refine aw_iload_n iX6_below_0 rfl rfl ?_
  refine aw_if_lt iX6_below_1 ?_ ?_
  · refine aw_iconst (v := 0) iX6_below_13 (by decide) ?_
    exact aw_zretK iX6_below_14 rfl (Or.inl rfl)
  · refine aw_iload_n iX6_below_4 rfl rfl ?_
    refine aw_iload_n iX6_below_5 rfl rfl ?_
    refine aw_icmp_ge iX6_below_6 ?_ ?_
    · refine aw_iconst (v := 0) iX6_below_13 (by decide) ?_
      exact aw_zretK iX6_below_14 rfl (Or.inl rfl)
    · refine aw_iconst (v := 1) iX6_below_9 (by decide) ?_
      refine aw_goto iX6_below_10 ?_
      exact aw_zretK iX6_below_14 rfl (Or.inr rfl)
set_option maxRecDepth 20000 in
set_option maxHeartbeats 4000000 in
theorem kX6_below (a0 : Int32) (a1 : Int32) (g : Mem) : CT mX6_below [.inl a0, .inl a1] g (fX6_below a0 a1 g) := CT.of (nr := 0) (by decide +kernel) (Nat.le_of_ble_eq_true rfl) (Or.inr (Or.inr rfl)) (wX6_below a0 a1 g)
set_option maxRecDepth 20000 in
set_option maxHeartbeats 4000000 in
theorem wX6_found (a0 : Int32) (g : Mem) : aw mX6_found none 0 [some (.inr 0), some (.inl a0)] [] g (fX6_found a0 g) := by
  unfold fX6_found
  refine aw_aload_n iX6_found_0 rfl rfl ?_
  refine aw_iload_n iX6_found_1 rfl rfl ?_
  refine aw_putI iX6_found_2 fpX6_279 zlt0 zsh0 rfl (fun g1 _ => ?_)
  refine aw_ldcw (v := (-1000010)) iX6_found_5 kcX6_282 ?_
  refine aw_iload_n iX6_found_8 rfl rfl ?_
  refine aw_isub iX6_found_9 ?_
  exact aw_iret iX6_found_10 rfl
set_option maxRecDepth 20000 in
set_option maxHeartbeats 4000000 in
theorem kX6_found (a0 : Int32) (g : Mem) : CT mX6_found [.inr 0, .inl a0] g (fX6_found a0 g) := CT.of (nr := 0) (by decide +kernel) (Nat.le_of_ble_eq_true rfl) (Or.inr (Or.inl rfl)) (wX6_found a0 g)
set_option maxRecDepth 20000 in
set_option maxHeartbeats 4000000 in
theorem wX6_clean (a0 : Int32) (g : Mem) : aw mX6_clean none 0 [some (.inr 0), some (.inl a0)] [] g (fX6_clean a0 g) := by
  unfold fX6_clean
  refine aw_aload_n iX6_clean_0 rfl rfl ?_
  refine aw_iconst (v := 0) iX6_clean_1 (by decide) ?_
  refine aw_putI iX6_clean_2 fpX6_279 zlt0 zsh0 rfl (fun g1 _ => ?_)
  refine aw_iload_n iX6_clean_5 rfl rfl ?_
  exact aw_iret iX6_clean_6 rfl
set_option maxRecDepth 20000 in
set_option maxHeartbeats 4000000 in
theorem kX6_clean (a0 : Int32) (g : Mem) : CT mX6_clean [.inr 0, .inl a0] g (fX6_clean a0 g) := CT.of (nr := 0) (by decide +kernel) (Nat.le_of_ble_eq_true rfl) (Or.inr (Or.inl rfl)) (wX6_clean a0 g)
set_option maxRecDepth 20000 in
set_option maxHeartbeats 4000000 in
theorem wX6_row (a0 : Int32) (a1 : Int32) (a2 : Int32) (g : Mem) : aw mX6_row none 0 [some (.inr 0), some (.inl a0), some (.inl a1), some (.inl a2)] [] g (fX6_row a0 a1 a2 g) := by
  unfold fX6_row
  refine aw_iload_n iX6_row_0 rfl rfl ?_
  refine aw_bipush (v := 8) iX6_row_1 (by decide) ?_
  refine aw_callS (M' := mX6_below) (As := [.inl a0, .inl (8 : Int32)]) iX6_row_3 lkX6_62 mcX6_below msX6_below rfl (kX6_below a0 (8 : Int32) g) rfl (Nat.le_of_ble_eq_true rfl) ⟨Nat.le_of_ble_eq_true rfl, Nat.le_of_ble_eq_true rfl⟩ (fun r1 g2 => ?_)
  refine aw_if_eq iX6_row_6 ?_ ?_
  · refine aw_ldc (v := (-1000001)) iX6_row_23 kcX6_66 ?_
    exact aw_iret iX6_row_25 rfl
  · refine aw_iload_n iX6_row_9 rfl rfl ?_
    refine aw_iconst (v := 3) iX6_row_10 (by decide) ?_
    refine aw_callS (M' := mX6_below) (As := [.inl a1, .inl (3 : Int32)]) iX6_row_11 lkX6_62 mcX6_below msX6_below rfl (kX6_below a1 (3 : Int32) g2) rfl (Nat.le_of_ble_eq_true rfl) ⟨Nat.le_of_ble_eq_true rfl, Nat.le_of_ble_eq_true rfl⟩ (fun r3 g4 => ?_)
    refine aw_if_eq iX6_row_14 ?_ ?_
    · refine aw_ldc (v := (-1000001)) iX6_row_23 kcX6_66 ?_
      exact aw_iret iX6_row_25 rfl
    · refine aw_iload_n iX6_row_17 rfl rfl ?_
      refine aw_bipush (v := 40) iX6_row_18 (by decide) ?_
      refine aw_icmp_le iX6_row_20 ?_ ?_
      · refine aw_iload_n iX6_row_26 rfl rfl ?_
        refine aw_if_ge iX6_row_27 ?_ ?_
        · refine aw_aload_n iX6_row_36 rfl rfl ?_
          refine aw_getR (own := "") iX6_row_37 flX6_10 zlt0 zsh0 rfl ?_
          refine aw_iload_n iX6_row_40 rfl rfl ?_
          refine aw_iload_n iX6_row_41 rfl rfl ?_
          refine aw_iload_n iX6_row_42 rfl rfl ?_
          refine aw_callVv (M' := mX4_lay) (As := [.inl a0, .inl a1, .inl a2]) iX6_row_43 lkX6_71 mcX4_lay mvX4_lay rfl zrc1 (kX4_lay a0 a1 a2 g4) rfl (Nat.le_of_ble_eq_true rfl) ⟨Nat.le_of_ble_eq_true rfl, Nat.le_of_ble_eq_true rfl⟩ (fun r5 g6 => ?_)
          refine aw_aload_n iX6_row_46 rfl rfl ?_
          refine aw_iload_n iX6_row_47 rfl rfl ?_
          refine aw_callV (M' := mX6_clean) (As := [.inl a2]) iX6_row_48 lkX6_75 mcX6_clean mvX6_clean rfl zrc0 (kX6_clean a2 g6) rfl (Nat.le_of_ble_eq_true rfl) ⟨Nat.le_of_ble_eq_true rfl, Nat.le_of_ble_eq_true rfl⟩ (fun r7 g8 => ?_)
          exact aw_iret iX6_row_51 rfl
        · refine aw_aload_n iX6_row_30 rfl rfl ?_
          refine aw_iconst (v := 4) iX6_row_31 (by decide) ?_
          refine aw_callV (M' := mX6_found) (As := [.inl (4 : Int32)]) iX6_row_32 lkX6_67 mcX6_found mvX6_found rfl zrc0 (kX6_found (4 : Int32) g4) rfl (Nat.le_of_ble_eq_true rfl) ⟨Nat.le_of_ble_eq_true rfl, Nat.le_of_ble_eq_true rfl⟩ (fun r9 g10 => ?_)
          exact aw_iret iX6_row_35 rfl
      · refine aw_ldc (v := (-1000001)) iX6_row_23 kcX6_66 ?_
        exact aw_iret iX6_row_25 rfl
set_option maxRecDepth 20000 in
set_option maxHeartbeats 4000000 in
theorem kX6_row (a0 : Int32) (a1 : Int32) (a2 : Int32) (g : Mem) : CT mX6_row [.inr 0, .inl a0, .inl a1, .inl a2] g (fX6_row a0 a1 a2 g) := CT.of (nr := 0) (by decide +kernel) (Nat.le_of_ble_eq_true rfl) (Or.inr (Or.inl rfl)) (wX6_row a0 a1 a2 g)
set_option maxRecDepth 20000 in
set_option maxHeartbeats 4000000 in
theorem wX6_set (a0 : Int32) (a1 : Int32) (a2 : Int32) (g : Mem) : aw mX6_set none 0 [some (.inr 0), some (.inl a0), some (.inl a1), some (.inl a2)] [] g (fX6_set a0 a1 a2 g) := by
  unfold fX6_set
  refine aw_iload_n iX6_set_0 rfl rfl ?_
  refine aw_bipush (v := 8) iX6_set_1 (by decide) ?_
  refine aw_callS (M' := mX6_below) (As := [.inl a0, .inl (8 : Int32)]) iX6_set_3 lkX6_62 mcX6_below msX6_below rfl (kX6_below a0 (8 : Int32) g) rfl (Nat.le_of_ble_eq_true rfl) ⟨Nat.le_of_ble_eq_true rfl, Nat.le_of_ble_eq_true rfl⟩ (fun r1 g2 => ?_)
  refine aw_if_ne iX6_set_6 ?_ ?_
  · refine aw_ldc (v := (-1000001)) iX6_set_9 kcX6_66 ?_
    exact aw_iret iX6_set_11 rfl
  · refine aw_aload_n iX6_set_12 rfl rfl ?_
    refine aw_getR (own := "") iX6_set_13 flX6_10 zlt0 zsh0 rfl ?_
    refine aw_iload_n iX6_set_16 rfl rfl ?_
    refine aw_callV (M' := mX4_isMissing) (As := [.inl a0]) iX6_set_17 lkX6_78 mcX4_isMissing mvX4_isMissing rfl zrc1 (kX4_isMissing a0 g2) rfl (Nat.le_of_ble_eq_true rfl) ⟨Nat.le_of_ble_eq_true rfl, Nat.le_of_ble_eq_true rfl⟩ (fun r3 g4 => ?_)
    refine aw_if_eq iX6_set_20 ?_ ?_
    · refine aw_aload_n iX6_set_29 rfl rfl ?_
      refine aw_getR (own := "") iX6_set_30 flX6_10 zlt0 zsh0 rfl ?_
      refine aw_iload_n iX6_set_33 rfl rfl ?_
      refine aw_iload_n iX6_set_34 rfl rfl ?_
      refine aw_iconst (v := 1) iX6_set_35 (by decide) ?_
      refine aw_callV (M' := mX4_hasPlaces) (As := [.inl a0, .inl a1, .inl (1 : Int32)]) iX6_set_36 lkX6_82 mcX4_hasPlaces mvX4_hasPlaces rfl zrc1 (kX4_hasPlaces a0 a1 (1 : Int32) g4) rfl (Nat.le_of_ble_eq_true rfl) ⟨Nat.le_of_ble_eq_true rfl, Nat.le_of_ble_eq_true rfl⟩ (fun r5 g6 => ?_)
      refine aw_if_ne iX6_set_39 ?_ ?_
      · refine aw_aload_n iX6_set_42 rfl rfl ?_
        refine aw_iconst (v := 2) iX6_set_43 (by decide) ?_
        refine aw_callV (M' := mX6_found) (As := [.inl (2 : Int32)]) iX6_set_44 lkX6_67 mcX6_found mvX6_found rfl zrc0 (kX6_found (2 : Int32) g6) rfl (Nat.le_of_ble_eq_true rfl) ⟨Nat.le_of_ble_eq_true rfl, Nat.le_of_ble_eq_true rfl⟩ (fun r7 g8 => ?_)
        exact aw_iret iX6_set_47 rfl
      · refine aw_aload_n iX6_set_48 rfl rfl ?_
        refine aw_aload_n iX6_set_49 rfl rfl ?_
        refine aw_getR (own := "") iX6_set_50 flX6_10 zlt0 zsh0 rfl ?_
        refine aw_iload_n iX6_set_53 rfl rfl ?_
        refine aw_iload_n iX6_set_54 rfl rfl ?_
        refine aw_iload_n iX6_set_55 rfl rfl ?_
        refine aw_callV (M' := mX4_put) (As := [.inl a0, .inl a1, .inl a2]) iX6_set_56 lkX6_86 mcX4_put mvX4_put rfl zrc1 (kX4_put a0 a1 a2 g6) rfl (Nat.le_of_ble_eq_true rfl) ⟨Nat.le_of_ble_eq_true rfl, Nat.le_of_ble_eq_true rfl⟩ (fun r9 g10 => ?_)
        refine aw_callV (M' := mX6_clean) (As := [.inl r9]) iX6_set_59 lkX6_75 mcX6_clean mvX6_clean rfl zrc0 (kX6_clean r9 g10) rfl (Nat.le_of_ble_eq_true rfl) ⟨Nat.le_of_ble_eq_true rfl, Nat.le_of_ble_eq_true rfl⟩ (fun r11 g12 => ?_)
        exact aw_iret iX6_set_62 rfl
    · refine aw_aload_n iX6_set_23 rfl rfl ?_
      refine aw_iconst (v := 1) iX6_set_24 (by decide) ?_
      refine aw_callV (M' := mX6_found) (As := [.inl (1 : Int32)]) iX6_set_25 lkX6_67 mcX6_found mvX6_found rfl zrc0 (kX6_found (1 : Int32) g4) rfl (Nat.le_of_ble_eq_true rfl) ⟨Nat.le_of_ble_eq_true rfl, Nat.le_of_ble_eq_true rfl⟩ (fun r13 g14 => ?_)
      exact aw_iret iX6_set_28 rfl
set_option maxRecDepth 20000 in
set_option maxHeartbeats 4000000 in
theorem kX6_set (a0 : Int32) (a1 : Int32) (a2 : Int32) (g : Mem) : CT mX6_set [.inr 0, .inl a0, .inl a1, .inl a2] g (fX6_set a0 a1 a2 g) := CT.of (nr := 0) (by decide +kernel) (Nat.le_of_ble_eq_true rfl) (Or.inr (Or.inl rfl)) (wX6_set a0 a1 a2 g)
set_option maxRecDepth 20000 in
set_option maxHeartbeats 4000000 in
theorem wX6_copy (a0 : Int32) (a1 : Int32) (a2 : Int32) (a3 : Int32) (a4 : Int32) (g : Mem) : aw mX6_copy none 0 [some (.inr 0), some (.inl a0), some (.inl a1), some (.inl a2), some (.inl a3), some (.inl a4)] [] g (fX6_copy a0 a1 a2 a3 a4 g) := by
  unfold fX6_copy
  refine aw_iload_n iX6_copy_0 rfl rfl ?_
  refine aw_bipush (v := 8) iX6_copy_1 (by decide) ?_
  refine aw_callS (M' := mX6_below) (As := [.inl a0, .inl (8 : Int32)]) iX6_copy_3 lkX6_62 mcX6_below msX6_below rfl (kX6_below a0 (8 : Int32) g) rfl (Nat.le_of_ble_eq_true rfl) ⟨Nat.le_of_ble_eq_true rfl, Nat.le_of_ble_eq_true rfl⟩ (fun r1 g2 => ?_)
  refine aw_if_eq iX6_copy_6 ?_ ?_
  · refine aw_ldc (v := (-1000001)) iX6_copy_18 kcX6_66 ?_
    exact aw_iret iX6_copy_20 rfl
  · refine aw_iload_n iX6_copy_9 rfl rfl ?_
    refine aw_bipush (v := 8) iX6_copy_10 (by decide) ?_
    refine aw_callS (M' := mX6_below) (As := [.inl a2, .inl (8 : Int32)]) iX6_copy_12 lkX6_62 mcX6_below msX6_below rfl (kX6_below a2 (8 : Int32) g2) rfl (Nat.le_of_ble_eq_true rfl) ⟨Nat.le_of_ble_eq_true rfl, Nat.le_of_ble_eq_true rfl⟩ (fun r3 g4 => ?_)
    refine aw_if_ne iX6_copy_15 ?_ ?_
    · refine aw_ldc (v := (-1000001)) iX6_copy_18 kcX6_66 ?_
      exact aw_iret iX6_copy_20 rfl
    · refine aw_aload_n iX6_copy_21 rfl rfl ?_
      refine aw_getR (own := "") iX6_copy_22 flX6_10 zlt0 zsh0 rfl ?_
      refine aw_iload_n iX6_copy_25 rfl rfl ?_
      refine aw_callV (M' := mX4_isMissing) (As := [.inl a0]) iX6_copy_26 lkX6_78 mcX4_isMissing mvX4_isMissing rfl zrc1 (kX4_isMissing a0 g4) rfl (Nat.le_of_ble_eq_true rfl) ⟨Nat.le_of_ble_eq_true rfl, Nat.le_of_ble_eq_true rfl⟩ (fun r5 g6 => ?_)
      refine aw_if_ne iX6_copy_29 ?_ ?_
      · refine aw_aload_n iX6_copy_32 rfl rfl ?_
        refine aw_getR (own := "") iX6_copy_33 flX6_10 zlt0 zsh0 rfl ?_
        refine aw_iload_n iX6_copy_36 rfl rfl ?_
        refine aw_callV (M' := mX4_isMissing) (As := [.inl a2]) iX6_copy_37 lkX6_78 mcX4_isMissing mvX4_isMissing rfl zrc1 (kX4_isMissing a2 g6) rfl (Nat.le_of_ble_eq_true rfl) ⟨Nat.le_of_ble_eq_true rfl, Nat.le_of_ble_eq_true rfl⟩ (fun r7 g8 => ?_)
        refine aw_if_eq iX6_copy_40 ?_ ?_
        · refine aw_aload_n iX6_copy_49 rfl rfl ?_
          refine aw_getR (own := "") iX6_copy_50 flX6_10 zlt0 zsh0 rfl ?_
          refine aw_iload_n iX6_copy_53 rfl rfl ?_
          refine aw_iload_n iX6_copy_54 rfl rfl ?_
          refine aw_callV (M' := mX4_areAlike) (As := [.inl a0, .inl a2]) iX6_copy_55 lkX6_90 mcX4_areAlike mvX4_areAlike rfl zrc1 (kX4_areAlike a0 a2 g8) rfl (Nat.le_of_ble_eq_true rfl) ⟨Nat.le_of_ble_eq_true rfl, Nat.le_of_ble_eq_true rfl⟩ (fun r9 g10 => ?_)
          refine aw_if_ne iX6_copy_58 ?_ ?_
          · refine aw_aload_n iX6_copy_61 rfl rfl ?_
            refine aw_iconst (v := 5) iX6_copy_62 (by decide) ?_
            refine aw_callV (M' := mX6_found) (As := [.inl (5 : Int32)]) iX6_copy_63 lkX6_67 mcX6_found mvX6_found rfl zrc0 (kX6_found (5 : Int32) g10) rfl (Nat.le_of_ble_eq_true rfl) ⟨Nat.le_of_ble_eq_true rfl, Nat.le_of_ble_eq_true rfl⟩ (fun r11 g12 => ?_)
            exact aw_iret iX6_copy_66 rfl
          · refine aw_aload_n iX6_copy_67 rfl rfl ?_
            refine aw_getR (own := "") iX6_copy_68 flX6_10 zlt0 zsh0 rfl ?_
            refine aw_iload_n iX6_copy_71 rfl rfl ?_
            refine aw_iload_n iX6_copy_72 rfl rfl ?_
            refine aw_iload iX6_copy_73 rfl ?_
            refine aw_callV (M' := mX4_hasPlaces) (As := [.inl a0, .inl a1, .inl a4]) iX6_copy_75 lkX6_82 mcX4_hasPlaces mvX4_hasPlaces rfl zrc1 (kX4_hasPlaces a0 a1 a4 g10) rfl (Nat.le_of_ble_eq_true rfl) ⟨Nat.le_of_ble_eq_true rfl, Nat.le_of_ble_eq_true rfl⟩ (fun r13 g14 => ?_)
            refine aw_if_eq iX6_copy_78 ?_ ?_
            · refine aw_aload_n iX6_copy_96 rfl rfl ?_
              refine aw_iconst (v := 2) iX6_copy_97 (by decide) ?_
              refine aw_callV (M' := mX6_found) (As := [.inl (2 : Int32)]) iX6_copy_98 lkX6_67 mcX6_found mvX6_found rfl zrc0 (kX6_found (2 : Int32) g14) rfl (Nat.le_of_ble_eq_true rfl) ⟨Nat.le_of_ble_eq_true rfl, Nat.le_of_ble_eq_true rfl⟩ (fun r15 g16 => ?_)
              exact aw_iret iX6_copy_101 rfl
            · refine aw_aload_n iX6_copy_81 rfl rfl ?_
              refine aw_getR (own := "") iX6_copy_82 flX6_10 zlt0 zsh0 rfl ?_
              refine aw_iload_n iX6_copy_85 rfl rfl ?_
              refine aw_iload iX6_copy_86 rfl ?_
              refine aw_iload iX6_copy_88 rfl ?_
              refine aw_callV (M' := mX4_hasPlaces) (As := [.inl a2, .inl a3, .inl a4]) iX6_copy_90 lkX6_82 mcX4_hasPlaces mvX4_hasPlaces rfl zrc1 (kX4_hasPlaces a2 a3 a4 g14) rfl (Nat.le_of_ble_eq_true rfl) ⟨Nat.le_of_ble_eq_true rfl, Nat.le_of_ble_eq_true rfl⟩ (fun r17 g18 => ?_)
              refine aw_if_ne iX6_copy_93 ?_ ?_
              · refine aw_aload_n iX6_copy_96 rfl rfl ?_
                refine aw_iconst (v := 2) iX6_copy_97 (by decide) ?_
                refine aw_callV (M' := mX6_found) (As := [.inl (2 : Int32)]) iX6_copy_98 lkX6_67 mcX6_found mvX6_found rfl zrc0 (kX6_found (2 : Int32) g18) rfl (Nat.le_of_ble_eq_true rfl) ⟨Nat.le_of_ble_eq_true rfl, Nat.le_of_ble_eq_true rfl⟩ (fun r19 g20 => ?_)
                exact aw_iret iX6_copy_101 rfl
              · refine aw_aload_n iX6_copy_102 rfl rfl ?_
                refine aw_getR (own := "") iX6_copy_103 flX6_10 zlt0 zsh0 rfl ?_
                refine aw_iload_n iX6_copy_106 rfl rfl ?_
                refine aw_iload_n iX6_copy_107 rfl rfl ?_
                refine aw_iload_n iX6_copy_108 rfl rfl ?_
                refine aw_iload iX6_copy_109 rfl ?_
                refine aw_iload iX6_copy_111 rfl ?_
                refine aw_callVv (M' := mX4_move) (As := [.inl a0, .inl a1, .inl a2, .inl a3, .inl a4]) iX6_copy_113 lkX6_93 mcX4_move mvX4_move rfl zrc1 (kX4_move a0 a1 a2 a3 a4 g18) rfl (Nat.le_of_ble_eq_true rfl) ⟨Nat.le_of_ble_eq_true rfl, Nat.le_of_ble_eq_true rfl⟩ (fun r21 g22 => ?_)
                refine aw_aload_n iX6_copy_116 rfl rfl ?_
                refine aw_iload iX6_copy_117 rfl ?_
                refine aw_callV (M' := mX6_clean) (As := [.inl a4]) iX6_copy_119 lkX6_75 mcX6_clean mvX6_clean rfl zrc0 (kX6_clean a4 g22) rfl (Nat.le_of_ble_eq_true rfl) ⟨Nat.le_of_ble_eq_true rfl, Nat.le_of_ble_eq_true rfl⟩ (fun r23 g24 => ?_)
                exact aw_iret iX6_copy_122 rfl
        · refine aw_aload_n iX6_copy_43 rfl rfl ?_
          refine aw_iconst (v := 1) iX6_copy_44 (by decide) ?_
          refine aw_callV (M' := mX6_found) (As := [.inl (1 : Int32)]) iX6_copy_45 lkX6_67 mcX6_found mvX6_found rfl zrc0 (kX6_found (1 : Int32) g8) rfl (Nat.le_of_ble_eq_true rfl) ⟨Nat.le_of_ble_eq_true rfl, Nat.le_of_ble_eq_true rfl⟩ (fun r25 g26 => ?_)
          exact aw_iret iX6_copy_48 rfl
      · refine aw_aload_n iX6_copy_43 rfl rfl ?_
        refine aw_iconst (v := 1) iX6_copy_44 (by decide) ?_
        refine aw_callV (M' := mX6_found) (As := [.inl (1 : Int32)]) iX6_copy_45 lkX6_67 mcX6_found mvX6_found rfl zrc0 (kX6_found (1 : Int32) g6) rfl (Nat.le_of_ble_eq_true rfl) ⟨Nat.le_of_ble_eq_true rfl, Nat.le_of_ble_eq_true rfl⟩ (fun r27 g28 => ?_)
        exact aw_iret iX6_copy_48 rfl
set_option maxRecDepth 20000 in
set_option maxHeartbeats 4000000 in
theorem kX6_copy (a0 : Int32) (a1 : Int32) (a2 : Int32) (a3 : Int32) (a4 : Int32) (g : Mem) : CT mX6_copy [.inr 0, .inl a0, .inl a1, .inl a2, .inl a3, .inl a4] g (fX6_copy a0 a1 a2 a3 a4 g) := CT.of (nr := 0) (by decide +kernel) (Nat.le_of_ble_eq_true rfl) (Or.inr (Or.inl rfl)) (wX6_copy a0 a1 a2 a3 a4 g)
set_option maxRecDepth 20000 in
set_option maxHeartbeats 4000000 in
theorem wX6_drop (a0 : Int32) (g : Mem) : aw mX6_drop none 0 [some (.inr 0), some (.inl a0)] [] g (fX6_drop a0 g) := by
  unfold fX6_drop
  refine aw_iload_n iX6_drop_0 rfl rfl ?_
  refine aw_bipush (v := 8) iX6_drop_1 (by decide) ?_
  refine aw_callS (M' := mX6_below) (As := [.inl a0, .inl (8 : Int32)]) iX6_drop_3 lkX6_62 mcX6_below msX6_below rfl (kX6_below a0 (8 : Int32) g) rfl (Nat.le_of_ble_eq_true rfl) ⟨Nat.le_of_ble_eq_true rfl, Nat.le_of_ble_eq_true rfl⟩ (fun r1 g2 => ?_)
  refine aw_if_ne iX6_drop_6 ?_ ?_
  · refine aw_ldc (v := (-1000001)) iX6_drop_9 kcX6_66 ?_
    exact aw_iret iX6_drop_11 rfl
  · refine aw_aload_n iX6_drop_12 rfl rfl ?_
    refine aw_getR (own := "") iX6_drop_13 flX6_10 zlt0 zsh0 rfl ?_
    refine aw_iload_n iX6_drop_16 rfl rfl ?_
    refine aw_callV (M' := mX4_isMissing) (As := [.inl a0]) iX6_drop_17 lkX6_78 mcX4_isMissing mvX4_isMissing rfl zrc1 (kX4_isMissing a0 g2) rfl (Nat.le_of_ble_eq_true rfl) ⟨Nat.le_of_ble_eq_true rfl, Nat.le_of_ble_eq_true rfl⟩ (fun r3 g4 => ?_)
    refine aw_if_eq iX6_drop_20 ?_ ?_
    · refine aw_aload_n iX6_drop_29 rfl rfl ?_
      refine aw_aload_n iX6_drop_30 rfl rfl ?_
      refine aw_getR (own := "") iX6_drop_31 flX6_10 zlt0 zsh0 rfl ?_
      refine aw_iload_n iX6_drop_34 rfl rfl ?_
      refine aw_callV (M' := mX4_lose) (As := [.inl a0]) iX6_drop_35 lkX6_97 mcX4_lose mvX4_lose rfl zrc1 (kX4_lose a0 g4) rfl (Nat.le_of_ble_eq_true rfl) ⟨Nat.le_of_ble_eq_true rfl, Nat.le_of_ble_eq_true rfl⟩ (fun r5 g6 => ?_)
      refine aw_callV (M' := mX6_clean) (As := [.inl r5]) iX6_drop_38 lkX6_75 mcX6_clean mvX6_clean rfl zrc0 (kX6_clean r5 g6) rfl (Nat.le_of_ble_eq_true rfl) ⟨Nat.le_of_ble_eq_true rfl, Nat.le_of_ble_eq_true rfl⟩ (fun r7 g8 => ?_)
      exact aw_iret iX6_drop_41 rfl
    · refine aw_aload_n iX6_drop_23 rfl rfl ?_
      refine aw_iconst (v := 1) iX6_drop_24 (by decide) ?_
      refine aw_callV (M' := mX6_found) (As := [.inl (1 : Int32)]) iX6_drop_25 lkX6_67 mcX6_found mvX6_found rfl zrc0 (kX6_found (1 : Int32) g4) rfl (Nat.le_of_ble_eq_true rfl) ⟨Nat.le_of_ble_eq_true rfl, Nat.le_of_ble_eq_true rfl⟩ (fun r9 g10 => ?_)
      exact aw_iret iX6_drop_28 rfl
set_option maxRecDepth 20000 in
set_option maxHeartbeats 4000000 in
theorem kX6_drop (a0 : Int32) (g : Mem) : CT mX6_drop [.inr 0, .inl a0] g (fX6_drop a0 g) := CT.of (nr := 0) (by decide +kernel) (Nat.le_of_ble_eq_true rfl) (Or.inr (Or.inl rfl)) (wX6_drop a0 g)
set_option maxRecDepth 20000 in
set_option maxHeartbeats 4000000 in
theorem wX6_feed (a0 : Int32) (g : Mem) : aw mX6_feed none 0 [some (.inr 0), some (.inl a0)] [] g (fX6_feed a0 g) := by
  unfold fX6_feed
  refine aw_iload_n iX6_feed_0 rfl rfl ?_
  refine aw_sipush (v := 256) iX6_feed_1 (by decide) ?_
  refine aw_callS (M' := mX6_below) (As := [.inl a0, .inl (256 : Int32)]) iX6_feed_4 lkX6_62 mcX6_below msX6_below rfl (kX6_below a0 (256 : Int32) g) rfl (Nat.le_of_ble_eq_true rfl) ⟨Nat.le_of_ble_eq_true rfl, Nat.le_of_ble_eq_true rfl⟩ (fun r1 g2 => ?_)
  refine aw_if_ne iX6_feed_7 ?_ ?_
  · refine aw_ldc (v := (-1000001)) iX6_feed_10 kcX6_66 ?_
    exact aw_iret iX6_feed_12 rfl
  · refine aw_aload_n iX6_feed_13 rfl rfl ?_
    refine aw_getR (own := "") iX6_feed_14 flX6_19 zlt0 zsh0 rfl ?_
    refine aw_iload_n iX6_feed_17 rfl rfl ?_
    refine aw_callV (M' := mX5_add) (As := [.inl a0]) iX6_feed_18 lkX6_100 mcX5_add mvX5_add rfl zrc5 (kX5_add a0 g2) rfl (Nat.le_of_ble_eq_true rfl) ⟨Nat.le_of_ble_eq_true rfl, Nat.le_of_ble_eq_true rfl⟩ (fun r3 g4 => ?_)
    exact aw_iret iX6_feed_21 rfl
set_option maxRecDepth 20000 in
set_option maxHeartbeats 4000000 in
theorem kX6_feed (a0 : Int32) (g : Mem) : CT mX6_feed [.inr 0, .inl a0] g (fX6_feed a0 g) := CT.of (nr := 0) (by decide +kernel) (Nat.le_of_ble_eq_true rfl) (Or.inr (Or.inl rfl)) (wX6_feed a0 g)
set_option maxRecDepth 20000 in
set_option maxHeartbeats 4000000 in
theorem wX6_court (g : Mem) : aw mX6_court none 0 [some (.inr 0), none] [] g (fX6_court g) := by
  unfold fX6_court
  refine aw_aload_n iX6_court_0 rfl rfl ?_
  refine aw_getR (own := "") iX6_court_1 flX6_19 zlt0 zsh0 rfl ?_
  refine aw_aload_n iX6_court_4 rfl rfl ?_
  refine aw_getR (own := "") iX6_court_5 flX6_30 zlt0 zsh0 rfl ?_
  refine aw_callV (M' := mX5_tells) (As := [.inr 17]) iX6_court_8 lkX6_103 mcX5_tells mvX5_tells rfl zrc5 (kX5_tells g) rfl (Nat.le_of_ble_eq_true rfl) ⟨Nat.le_of_ble_eq_true rfl, Nat.le_of_ble_eq_true rfl⟩ (fun r1 g2 => ?_)
  refine aw_istore_n (L' := [some (.inr 0), some (.inl r1)]) iX6_court_11 rfl (Nat.le_of_ble_eq_true rfl) rfl ?_
  refine aw_aload_n iX6_court_12 rfl rfl ?_
  refine aw_getR (own := "") iX6_court_13 flX6_19 zlt0 zsh0 rfl ?_
  refine aw_callVv (M' := mX5_clear) (As := []) iX6_court_16 lkX6_107 mcX5_clear mvX5_clear rfl zrc5 (kX5_clear g2) rfl (Nat.le_of_ble_eq_true rfl) ⟨Nat.le_of_ble_eq_true rfl, Nat.le_of_ble_eq_true rfl⟩ (fun r3 g4 => ?_)
  refine aw_iload_n iX6_court_19 rfl rfl ?_
  refine aw_if_ne iX6_court_20 ?_ ?_
  · refine aw_aload_n iX6_court_23 rfl rfl ?_
    refine aw_aload_n iX6_court_24 rfl rfl ?_
    refine aw_getR (own := "") iX6_court_25 flX6_19 zlt0 zsh0 rfl ?_
    refine aw_getI (own := "") iX6_court_28 flX6_110 zlt5 zsh5 rfl ?_
    refine aw_putI iX6_court_31 fpX6_114 zlt0 zsh0 rfl (fun g5 _ => ?_)
    refine aw_ldc (v := (-1000100)) iX6_court_34 kcX6_117 ?_
    refine aw_aload_n iX6_court_36 rfl rfl ?_
    refine aw_getR (own := "") iX6_court_37 flX6_19 zlt0 zsh0 rfl ?_
    refine aw_getI (own := "") iX6_court_40 flX6_118 zlt5 zsh5 rfl ?_
    refine aw_isub iX6_court_43 ?_
    exact aw_iret iX6_court_44 rfl
  · refine aw_aload_n iX6_court_45 rfl rfl ?_
    refine aw_getR (own := "") iX6_court_46 flX6_26 zlt0 zsh0 rfl ?_
    refine aw_aload_n iX6_court_49 rfl rfl ?_
    refine aw_getR (own := "") iX6_court_50 flX6_30 zlt0 zsh0 rfl ?_
    refine aw_callVv (M' := mX2_become) (As := [.inr 17]) iX6_court_53 lkX6_121 mcX2_become mvX2_become rfl zrc7 (kX2_become 7 (CO_of7) 17 (CO_of17) g4) rfl (Nat.le_of_ble_eq_true rfl) ⟨Nat.le_of_ble_eq_true rfl, Nat.le_of_ble_eq_true rfl⟩ (fun r6 g7 => ?_)
    refine aw_aload_n iX6_court_56 rfl rfl ?_
    refine aw_getR (own := "") iX6_court_57 flX6_40 zlt0 zsh0 rfl ?_
    refine aw_callVv (M' := mX0_forget) (As := []) iX6_court_60 lkX6_125 mcX0_forget mvX0_forget rfl zrc48 (kX0_forget g7) rfl (Nat.le_of_ble_eq_true rfl) ⟨Nat.le_of_ble_eq_true rfl, Nat.le_of_ble_eq_true rfl⟩ (fun r8 g9 => ?_)
    refine aw_aload_n iX6_court_63 rfl rfl ?_
    refine aw_getR (own := "") iX6_court_64 flX6_26 zlt0 zsh0 rfl ?_
    refine aw_getI (own := "") iX6_court_67 flX6_128 zlt7 zsh7 rfl ?_
    exact aw_iret iX6_court_70 rfl
set_option maxRecDepth 20000 in
set_option maxHeartbeats 4000000 in
theorem kX6_court (g : Mem) : CT mX6_court [.inr 0] g (fX6_court g) := CT.of (nr := 1) (by decide +kernel) (Nat.le_of_ble_eq_true rfl) (Or.inr (Or.inl rfl)) (wX6_court g)
set_option maxRecDepth 20000 in
set_option maxHeartbeats 4000000 in
theorem wX6_fault (g : Mem) : aw mX6_fault none 0 [some (.inr 0)] [] g (fX6_fault g) := by
  unfold fX6_fault
  refine aw_aload_n iX6_fault_0 rfl rfl ?_
  refine aw_getI (own := "") iX6_fault_1 flX6_114 zlt0 zsh0 rfl ?_
  exact aw_iret iX6_fault_4 rfl
set_option maxRecDepth 20000 in
set_option maxHeartbeats 4000000 in
theorem kX6_fault (g : Mem) : CT mX6_fault [.inr 0] g (fX6_fault g) := CT.of (nr := 0) (by decide +kernel) (Nat.le_of_ble_eq_true rfl) (Or.inr (Or.inl rfl)) (wX6_fault g)
set_option maxRecDepth 20000 in
set_option maxHeartbeats 4000000 in
theorem wX6_asked (a0 : Int32) (a1 : Int32) (g : Mem) : aw mX6_asked none 0 [some (.inr 0), some (.inl a0), some (.inl a1)] [] g (fX6_asked a0 a1 g) := by
  unfold fX6_asked
  refine aw_iload_n iX6_asked_0 rfl rfl ?_
  refine aw_aload_n iX6_asked_1 rfl rfl ?_
  refine aw_getR (own := "") iX6_asked_2 flX6_26 zlt0 zsh0 rfl ?_
  refine aw_getI (own := "") iX6_asked_5 flX6_128 zlt7 zsh7 rfl ?_
  refine aw_callS (M' := mX6_below) (As := [.inl a0, .inl (g 7 10)]) iX6_asked_8 lkX6_62 mcX6_below msX6_below rfl (kX6_below a0 (g 7 10) g) rfl (Nat.le_of_ble_eq_true rfl) ⟨Nat.le_of_ble_eq_true rfl, Nat.le_of_ble_eq_true rfl⟩ (fun r1 g2 => ?_)
  refine aw_if_eq iX6_asked_11 ?_ ?_
  · refine aw_ldc (v := (-1000001)) iX6_asked_28 kcX6_66 ?_
    exact aw_iret iX6_asked_30 rfl
  · refine aw_iload_n iX6_asked_14 rfl rfl ?_
    refine aw_aload_n iX6_asked_15 rfl rfl ?_
    refine aw_getR (own := "") iX6_asked_16 flX6_26 zlt0 zsh0 rfl ?_
    refine aw_getI (own := "") iX6_asked_19 flX6_131 zlt7 zsh7 rfl ?_
    refine aw_callS (M' := mX6_below) (As := [.inl a1, .inl (g2 7 5)]) iX6_asked_22 lkX6_62 mcX6_below msX6_below rfl (kX6_below a1 (g2 7 5) g2) rfl (Nat.le_of_ble_eq_true rfl) ⟨Nat.le_of_ble_eq_true rfl, Nat.le_of_ble_eq_true rfl⟩ (fun r3 g4 => ?_)
    refine aw_if_ne iX6_asked_25 ?_ ?_
    · refine aw_ldc (v := (-1000001)) iX6_asked_28 kcX6_66 ?_
      exact aw_iret iX6_asked_30 rfl
    · refine aw_aload_n iX6_asked_31 rfl rfl ?_
      refine aw_getR (own := "") iX6_asked_32 flX6_26 zlt0 zsh0 rfl ?_
      refine aw_iload_n iX6_asked_35 rfl rfl ?_
      refine aw_callV (M' := mX2_comes) (As := [.inl a0]) iX6_asked_36 lkX6_134 mcX2_comes mvX2_comes rfl zrc7 (kX2_comes 7 (CO_of7) a0 g4) rfl (Nat.le_of_ble_eq_true rfl) ⟨Nat.le_of_ble_eq_true rfl, Nat.le_of_ble_eq_true rfl⟩ (fun r5 g6 => ?_)
      refine aw_if_eq iX6_asked_39 ?_ ?_
      · refine aw_ldc (v := (-1000002)) iX6_asked_63 kcX6_144 ?_
        exact aw_iret iX6_asked_65 rfl
      · refine aw_aload_n iX6_asked_42 rfl rfl ?_
        refine aw_getR (own := "") iX6_asked_43 flX6_26 zlt0 zsh0 rfl ?_
        refine aw_iload_n iX6_asked_46 rfl rfl ?_
        refine aw_callV (M' := mX2_wasUsed) (As := [.inl a1]) iX6_asked_47 lkX6_137 mcX2_wasUsed mvX2_wasUsed rfl zrc7 (kX2_wasUsed 7 (CO_of7) a1 g6) rfl (Nat.le_of_ble_eq_true rfl) ⟨Nat.le_of_ble_eq_true rfl, Nat.le_of_ble_eq_true rfl⟩ (fun r7 g8 => ?_)
        refine aw_if_ne iX6_asked_50 ?_ ?_
        · refine aw_aload_n iX6_asked_53 rfl rfl ?_
          refine aw_getR (own := "") iX6_asked_54 flX6_26 zlt0 zsh0 rfl ?_
          refine aw_callV (M' := mX2_isOneWed) (As := []) iX6_asked_57 lkX6_140 mcX2_isOneWed mvX2_isOneWed rfl zrc7 (kX2_isOneWed 7 (CO_of7) g8) rfl (Nat.le_of_ble_eq_true rfl) ⟨Nat.le_of_ble_eq_true rfl, Nat.le_of_ble_eq_true rfl⟩ (fun r9 g10 => ?_)
          refine aw_if_eq iX6_asked_60 ?_ ?_
          · refine aw_aload_n iX6_asked_66 rfl rfl ?_
            refine aw_getR (own := "") iX6_asked_67 flX6_40 zlt0 zsh0 rfl ?_
            refine aw_aload_n iX6_asked_70 rfl rfl ?_
            refine aw_getR (own := "") iX6_asked_71 flX6_26 zlt0 zsh0 rfl ?_
            refine aw_iload_n iX6_asked_74 rfl rfl ?_
            refine aw_callVv (M' := mX0_keep) (As := [.inr 7, .inl a0]) iX6_asked_75 lkX6_145 mcX0_keep mvX0_keep rfl zrc48 (kX0_keep a0 g10) rfl (Nat.le_of_ble_eq_true rfl) ⟨Nat.le_of_ble_eq_true rfl, Nat.le_of_ble_eq_true rfl⟩ (fun r11 g12 => ?_)
            refine aw_aload_n iX6_asked_78 rfl rfl ?_
            refine aw_getR (own := "") iX6_asked_79 flX6_26 zlt0 zsh0 rfl ?_
            refine aw_iload_n iX6_asked_82 rfl rfl ?_
            refine aw_iload_n iX6_asked_83 rfl rfl ?_
            refine aw_callV (M' := mX2_answerHer) (As := [.inl a0, .inl a1]) iX6_asked_84 lkX6_149 mcX2_answerHer mvX2_answerHer rfl zrc7 (kX2_answerHer 7 (CO_of7) a0 a1 g12) rfl (Nat.le_of_ble_eq_true rfl) ⟨Nat.le_of_ble_eq_true rfl, Nat.le_of_ble_eq_true rfl⟩ (fun r13 g14 => ?_)
            exact aw_iret iX6_asked_87 rfl
          · refine aw_ldc (v := (-1000002)) iX6_asked_63 kcX6_144 ?_
            exact aw_iret iX6_asked_65 rfl
        · refine aw_ldc (v := (-1000002)) iX6_asked_63 kcX6_144 ?_
          exact aw_iret iX6_asked_65 rfl
set_option maxRecDepth 20000 in
set_option maxHeartbeats 4000000 in
theorem kX6_asked (a0 : Int32) (a1 : Int32) (g : Mem) : CT mX6_asked [.inr 0, .inl a0, .inl a1] g (fX6_asked a0 a1 g) := CT.of (nr := 0) (by decide +kernel) (Nat.le_of_ble_eq_true rfl) (Or.inr (Or.inl rfl)) (wX6_asked a0 a1 g)
set_option maxRecDepth 20000 in
set_option maxHeartbeats 4000000 in
theorem wX6_inTurn (a0 : Int32) (a1 : Int32) (g : Mem) : aw mX6_inTurn none 0 [some (.inr 0), some (.inl a0), some (.inl a1)] [] g (fX6_inTurn a0 a1 g) := by
  unfold fX6_inTurn
  refine aw_iload_n iX6_inTurn_0 rfl rfl ?_
  refine aw_aload_n iX6_inTurn_1 rfl rfl ?_
  refine aw_getR (own := "") iX6_inTurn_2 flX6_26 zlt0 zsh0 rfl ?_
  refine aw_getI (own := "") iX6_inTurn_5 flX6_128 zlt7 zsh7 rfl ?_
  refine aw_callS (M' := mX6_below) (As := [.inl a0, .inl (g 7 10)]) iX6_inTurn_8 lkX6_62 mcX6_below msX6_below rfl (kX6_below a0 (g 7 10) g) rfl (Nat.le_of_ble_eq_true rfl) ⟨Nat.le_of_ble_eq_true rfl, Nat.le_of_ble_eq_true rfl⟩ (fun r1 g2 => ?_)
  refine aw_if_eq iX6_inTurn_11 ?_ ?_
  · refine aw_ldc (v := (-1000001)) iX6_inTurn_28 kcX6_66 ?_
    exact aw_iret iX6_inTurn_30 rfl
  · refine aw_iload_n iX6_inTurn_14 rfl rfl ?_
    refine aw_aload_n iX6_inTurn_15 rfl rfl ?_
    refine aw_getR (own := "") iX6_inTurn_16 flX6_26 zlt0 zsh0 rfl ?_
    refine aw_getI (own := "") iX6_inTurn_19 flX6_131 zlt7 zsh7 rfl ?_
    refine aw_callS (M' := mX6_below) (As := [.inl a1, .inl (g2 7 5)]) iX6_inTurn_22 lkX6_62 mcX6_below msX6_below rfl (kX6_below a1 (g2 7 5) g2) rfl (Nat.le_of_ble_eq_true rfl) ⟨Nat.le_of_ble_eq_true rfl, Nat.le_of_ble_eq_true rfl⟩ (fun r3 g4 => ?_)
    refine aw_if_ne iX6_inTurn_25 ?_ ?_
    · refine aw_ldc (v := (-1000001)) iX6_inTurn_28 kcX6_66 ?_
      exact aw_iret iX6_inTurn_30 rfl
    · refine aw_aload_n iX6_inTurn_31 rfl rfl ?_
      refine aw_getR (own := "") iX6_inTurn_32 flX6_26 zlt0 zsh0 rfl ?_
      refine aw_iload_n iX6_inTurn_35 rfl rfl ?_
      refine aw_callV (M' := mX2_comes) (As := [.inl a0]) iX6_inTurn_36 lkX6_134 mcX2_comes mvX2_comes rfl zrc7 (kX2_comes 7 (CO_of7) a0 g4) rfl (Nat.le_of_ble_eq_true rfl) ⟨Nat.le_of_ble_eq_true rfl, Nat.le_of_ble_eq_true rfl⟩ (fun r5 g6 => ?_)
      refine aw_if_eq iX6_inTurn_39 ?_ ?_
      · refine aw_ldc (v := (-1000002)) iX6_inTurn_75 kcX6_144 ?_
        exact aw_iret iX6_inTurn_77 rfl
      · refine aw_aload_n iX6_inTurn_42 rfl rfl ?_
        refine aw_getR (own := "") iX6_inTurn_43 flX6_26 zlt0 zsh0 rfl ?_
        refine aw_iload_n iX6_inTurn_46 rfl rfl ?_
        refine aw_callV (M' := mX2_wasUsed) (As := [.inl a1]) iX6_inTurn_47 lkX6_137 mcX2_wasUsed mvX2_wasUsed rfl zrc7 (kX2_wasUsed 7 (CO_of7) a1 g6) rfl (Nat.le_of_ble_eq_true rfl) ⟨Nat.le_of_ble_eq_true rfl, Nat.le_of_ble_eq_true rfl⟩ (fun r7 g8 => ?_)
        refine aw_if_ne iX6_inTurn_50 ?_ ?_
        · refine aw_aload_n iX6_inTurn_53 rfl rfl ?_
          refine aw_getR (own := "") iX6_inTurn_54 flX6_26 zlt0 zsh0 rfl ?_
          refine aw_getR (own := "") iX6_inTurn_57 flX6_153 zlt7 zsh7 rfl ?_
          refine aw_iload_n iX6_inTurn_60 rfl rfl ?_
          refine aw_iald iX6_inTurn_61 zlt16 zsh16 (fun v9 _ => ?_)
          refine aw_if_ne iX6_inTurn_62 ?_ ?_
          · refine aw_aload_n iX6_inTurn_65 rfl rfl ?_
            refine aw_getR (own := "") iX6_inTurn_66 flX6_26 zlt0 zsh0 rfl ?_
            refine aw_callV (M' := mX2_isOneWed) (As := []) iX6_inTurn_69 lkX6_140 mcX2_isOneWed mvX2_isOneWed rfl zrc7 (kX2_isOneWed 7 (CO_of7) g8) rfl (Nat.le_of_ble_eq_true rfl) ⟨Nat.le_of_ble_eq_true rfl, Nat.le_of_ble_eq_true rfl⟩ (fun r10 g11 => ?_)
            refine aw_if_eq iX6_inTurn_72 ?_ ?_
            · refine aw_aload_n iX6_inTurn_78 rfl rfl ?_
              refine aw_getR (own := "") iX6_inTurn_79 flX6_40 zlt0 zsh0 rfl ?_
              refine aw_aload_n iX6_inTurn_82 rfl rfl ?_
              refine aw_getR (own := "") iX6_inTurn_83 flX6_26 zlt0 zsh0 rfl ?_
              refine aw_iload_n iX6_inTurn_86 rfl rfl ?_
              refine aw_callVv (M' := mX0_keep) (As := [.inr 7, .inl a0]) iX6_inTurn_87 lkX6_145 mcX0_keep mvX0_keep rfl zrc48 (kX0_keep a0 g11) rfl (Nat.le_of_ble_eq_true rfl) ⟨Nat.le_of_ble_eq_true rfl, Nat.le_of_ble_eq_true rfl⟩ (fun r12 g13 => ?_)
              refine aw_aload_n iX6_inTurn_90 rfl rfl ?_
              refine aw_getR (own := "") iX6_inTurn_91 flX6_26 zlt0 zsh0 rfl ?_
              refine aw_iload_n iX6_inTurn_94 rfl rfl ?_
              refine aw_iload_n iX6_inTurn_95 rfl rfl ?_
              refine aw_callV (M' := mX2_askHer) (As := [.inl a0, .inl a1]) iX6_inTurn_96 lkX6_156 mcX2_askHer mvX2_askHer rfl zrc7 (kX2_askHer 7 (CO_of7) a0 a1 g13) rfl (Nat.le_of_ble_eq_true rfl) ⟨Nat.le_of_ble_eq_true rfl, Nat.le_of_ble_eq_true rfl⟩ (fun r14 g15 => ?_)
              exact aw_iret iX6_inTurn_99 rfl
            · refine aw_ldc (v := (-1000002)) iX6_inTurn_75 kcX6_144 ?_
              exact aw_iret iX6_inTurn_77 rfl
          · refine aw_ldc (v := (-1000002)) iX6_inTurn_75 kcX6_144 ?_
            exact aw_iret iX6_inTurn_77 rfl
        · refine aw_ldc (v := (-1000002)) iX6_inTurn_75 kcX6_144 ?_
          exact aw_iret iX6_inTurn_77 rfl
set_option maxRecDepth 20000 in
set_option maxHeartbeats 4000000 in
theorem kX6_inTurn (a0 : Int32) (a1 : Int32) (g : Mem) : CT mX6_inTurn [.inr 0, .inl a0, .inl a1] g (fX6_inTurn a0 a1 g) := CT.of (nr := 0) (by decide +kernel) (Nat.le_of_ble_eq_true rfl) (Or.inr (Or.inl rfl)) (wX6_inTurn a0 a1 g)
set_option maxRecDepth 20000 in
set_option maxHeartbeats 4000000 in
theorem wX6_buy (a0 : Int32) (a1 : Int32) (g : Mem) : aw mX6_buy none 0 [some (.inr 0), some (.inl a0), some (.inl a1)] [] g (fX6_buy a0 a1 g) := by
  unfold fX6_buy
  refine aw_iload_n iX6_buy_0 rfl rfl ?_
  refine aw_aload_n iX6_buy_1 rfl rfl ?_
  refine aw_getR (own := "") iX6_buy_2 flX6_26 zlt0 zsh0 rfl ?_
  refine aw_getI (own := "") iX6_buy_5 flX6_128 zlt7 zsh7 rfl ?_
  refine aw_callS (M' := mX6_below) (As := [.inl a0, .inl (g 7 10)]) iX6_buy_8 lkX6_62 mcX6_below msX6_below rfl (kX6_below a0 (g 7 10) g) rfl (Nat.le_of_ble_eq_true rfl) ⟨Nat.le_of_ble_eq_true rfl, Nat.le_of_ble_eq_true rfl⟩ (fun r1 g2 => ?_)
  refine aw_if_eq iX6_buy_11 ?_ ?_
  · refine aw_ldc (v := (-1000001)) iX6_buy_28 kcX6_66 ?_
    exact aw_iret iX6_buy_30 rfl
  · refine aw_iload_n iX6_buy_14 rfl rfl ?_
    refine aw_aload_n iX6_buy_15 rfl rfl ?_
    refine aw_getR (own := "") iX6_buy_16 flX6_26 zlt0 zsh0 rfl ?_
    refine aw_getI (own := "") iX6_buy_19 flX6_159 zlt7 zsh7 rfl ?_
    refine aw_callS (M' := mX6_below) (As := [.inl a1, .inl (g2 7 3)]) iX6_buy_22 lkX6_62 mcX6_below msX6_below rfl (kX6_below a1 (g2 7 3) g2) rfl (Nat.le_of_ble_eq_true rfl) ⟨Nat.le_of_ble_eq_true rfl, Nat.le_of_ble_eq_true rfl⟩ (fun r3 g4 => ?_)
    refine aw_if_ne iX6_buy_25 ?_ ?_
    · refine aw_ldc (v := (-1000001)) iX6_buy_28 kcX6_66 ?_
      exact aw_iret iX6_buy_30 rfl
    · refine aw_aload_n iX6_buy_31 rfl rfl ?_
      refine aw_getR (own := "") iX6_buy_32 flX6_26 zlt0 zsh0 rfl ?_
      refine aw_iload_n iX6_buy_35 rfl rfl ?_
      refine aw_callV (M' := mX2_comes) (As := [.inl a0]) iX6_buy_36 lkX6_134 mcX2_comes mvX2_comes rfl zrc7 (kX2_comes 7 (CO_of7) a0 g4) rfl (Nat.le_of_ble_eq_true rfl) ⟨Nat.le_of_ble_eq_true rfl, Nat.le_of_ble_eq_true rfl⟩ (fun r5 g6 => ?_)
      refine aw_if_eq iX6_buy_39 ?_ ?_
      · refine aw_ldc (v := (-1000002)) iX6_buy_54 kcX6_144 ?_
        exact aw_iret iX6_buy_56 rfl
      · refine aw_aload_n iX6_buy_42 rfl rfl ?_
        refine aw_getR (own := "") iX6_buy_43 flX6_26 zlt0 zsh0 rfl ?_
        refine aw_iload_n iX6_buy_46 rfl rfl ?_
        refine aw_iload_n iX6_buy_47 rfl rfl ?_
        refine aw_callV (M' := mX2_isKnown) (As := [.inl a0, .inl a1]) iX6_buy_48 lkX6_162 mcX2_isKnown mvX2_isKnown rfl zrc7 (kX2_isKnown 7 (CO_of7) a0 a1 g6) rfl (Nat.le_of_ble_eq_true rfl) ⟨Nat.le_of_ble_eq_true rfl, Nat.le_of_ble_eq_true rfl⟩ (fun r7 g8 => ?_)
        refine aw_if_eq iX6_buy_51 ?_ ?_
        · refine aw_aload_n iX6_buy_57 rfl rfl ?_
          refine aw_getR (own := "") iX6_buy_58 flX6_40 zlt0 zsh0 rfl ?_
          refine aw_aload_n iX6_buy_61 rfl rfl ?_
          refine aw_getR (own := "") iX6_buy_62 flX6_26 zlt0 zsh0 rfl ?_
          refine aw_iload_n iX6_buy_65 rfl rfl ?_
          refine aw_callVv (M' := mX0_keep) (As := [.inr 7, .inl a0]) iX6_buy_66 lkX6_145 mcX0_keep mvX0_keep rfl zrc48 (kX0_keep a0 g8) rfl (Nat.le_of_ble_eq_true rfl) ⟨Nat.le_of_ble_eq_true rfl, Nat.le_of_ble_eq_true rfl⟩ (fun r9 g10 => ?_)
          refine aw_aload_n iX6_buy_69 rfl rfl ?_
          refine aw_getR (own := "") iX6_buy_70 flX6_26 zlt0 zsh0 rfl ?_
          refine aw_iload_n iX6_buy_73 rfl rfl ?_
          refine aw_iload_n iX6_buy_74 rfl rfl ?_
          refine aw_callV (M' := mX2_sell) (As := [.inl a0, .inl a1]) iX6_buy_75 lkX6_165 mcX2_sell mvX2_sell rfl zrc7 (kX2_sell 7 (CO_of7) a0 a1 g10) rfl (Nat.le_of_ble_eq_true rfl) ⟨Nat.le_of_ble_eq_true rfl, Nat.le_of_ble_eq_true rfl⟩ (fun r11 g12 => ?_)
          exact aw_iret iX6_buy_78 rfl
        · refine aw_ldc (v := (-1000002)) iX6_buy_54 kcX6_144 ?_
          exact aw_iret iX6_buy_56 rfl
set_option maxRecDepth 20000 in
set_option maxHeartbeats 4000000 in
theorem kX6_buy (a0 : Int32) (a1 : Int32) (g : Mem) : CT mX6_buy [.inr 0, .inl a0, .inl a1] g (fX6_buy a0 a1 g) := CT.of (nr := 0) (by decide +kernel) (Nat.le_of_ble_eq_true rfl) (Or.inr (Or.inl rfl)) (wX6_buy a0 a1 g)
set_option maxRecDepth 20000 in
set_option maxHeartbeats 4000000 in
theorem wX6_undo (g : Mem) : aw mX6_undo none 0 [some (.inr 0)] [] g (fX6_undo g) := by
  unfold fX6_undo
  refine aw_aload_n iX6_undo_0 rfl rfl ?_
  refine aw_getR (own := "") iX6_undo_1 flX6_40 zlt0 zsh0 rfl ?_
  refine aw_getI (own := "") iX6_undo_4 flX6_168 zlt48 zsh48 rfl ?_
  refine aw_if_ne iX6_undo_7 ?_ ?_
  · refine aw_ldc (v := (-1000002)) iX6_undo_10 kcX6_144 ?_
    exact aw_iret iX6_undo_12 rfl
  · refine aw_aload_n iX6_undo_13 rfl rfl ?_
    refine aw_getR (own := "") iX6_undo_14 flX6_40 zlt0 zsh0 rfl ?_
    refine aw_aload_n iX6_undo_17 rfl rfl ?_
    refine aw_getR (own := "") iX6_undo_18 flX6_26 zlt0 zsh0 rfl ?_
    refine aw_callVv (M' := mX0_takeBack) (As := [.inr 7]) iX6_undo_21 lkX6_171 mcX0_takeBack mvX0_takeBack rfl zrc48 (kX0_takeBack g) rfl (Nat.le_of_ble_eq_true rfl) ⟨Nat.le_of_ble_eq_true rfl, Nat.le_of_ble_eq_true rfl⟩ (fun r1 g2 => ?_)
    refine aw_aload_n iX6_undo_24 rfl rfl ?_
    refine aw_getR (own := "") iX6_undo_25 flX6_40 zlt0 zsh0 rfl ?_
    refine aw_getI (own := "") iX6_undo_28 flX6_168 zlt48 zsh48 rfl ?_
    exact aw_iret iX6_undo_31 rfl
set_option maxRecDepth 20000 in
set_option maxHeartbeats 4000000 in
theorem kX6_undo (g : Mem) : CT mX6_undo [.inr 0] g (fX6_undo g) := CT.of (nr := 0) (by decide +kernel) (Nat.le_of_ble_eq_true rfl) (Or.inr (Or.inl rfl)) (wX6_undo g)
set_option maxRecDepth 20000 in
set_option maxHeartbeats 4000000 in
theorem wX6_thing (a0 : Int32) (g : Mem) : aw mX6_thing none 0 [some (.inr 0), some (.inl a0)] [] g (fX6_thing a0 g) := by
  unfold fX6_thing
  refine aw_iload_n iX6_thing_0 rfl rfl ?_
  refine aw_aload_n iX6_thing_1 rfl rfl ?_
  refine aw_getR (own := "") iX6_thing_2 flX6_26 zlt0 zsh0 rfl ?_
  refine aw_getI (own := "") iX6_thing_5 flX6_159 zlt7 zsh7 rfl ?_
  refine aw_callS (M' := mX6_below) (As := [.inl a0, .inl (g 7 3)]) iX6_thing_8 lkX6_62 mcX6_below msX6_below rfl (kX6_below a0 (g 7 3) g) rfl (Nat.le_of_ble_eq_true rfl) ⟨Nat.le_of_ble_eq_true rfl, Nat.le_of_ble_eq_true rfl⟩ (fun r1 g2 => ?_)
  refine aw_if_eq iX6_thing_11 ?_ ?_
  · refine aw_ldc (v := (-1000001)) iX6_thing_26 kcX6_66 ?_
    exact aw_iret iX6_thing_28 rfl
  · refine aw_aload_n iX6_thing_14 rfl rfl ?_
    refine aw_getR (own := "") iX6_thing_15 flX6_26 zlt0 zsh0 rfl ?_
    refine aw_getR (own := "") iX6_thing_18 flX6_174 zlt7 zsh7 rfl ?_
    refine aw_iload_n iX6_thing_21 rfl rfl ?_
    refine aw_iald iX6_thing_22 zlt8 zsh8 (fun v3 _ => ?_)
    refine aw_goto iX6_thing_23 ?_
    exact aw_iret iX6_thing_28 rfl
set_option maxRecDepth 20000 in
set_option maxHeartbeats 4000000 in
theorem kX6_thing (a0 : Int32) (g : Mem) : CT mX6_thing [.inr 0, .inl a0] g (fX6_thing a0 g) := CT.of (nr := 0) (by decide +kernel) (Nat.le_of_ble_eq_true rfl) (Or.inr (Or.inl rfl)) (wX6_thing a0 g)
set_option maxRecDepth 20000 in
set_option maxHeartbeats 4000000 in
theorem wX6_riddle (a0 : Int32) (a1 : Int32) (g : Mem) : aw mX6_riddle none 0 [some (.inr 0), some (.inl a0), some (.inl a1)] [] g (fX6_riddle a0 a1 g) := by
  unfold fX6_riddle
  refine aw_iload_n iX6_riddle_0 rfl rfl ?_
  refine aw_aload_n iX6_riddle_1 rfl rfl ?_
  refine aw_getR (own := "") iX6_riddle_2 flX6_26 zlt0 zsh0 rfl ?_
  refine aw_getI (own := "") iX6_riddle_5 flX6_131 zlt7 zsh7 rfl ?_
  refine aw_callS (M' := mX6_below) (As := [.inl a0, .inl (g 7 5)]) iX6_riddle_8 lkX6_62 mcX6_below msX6_below rfl (kX6_below a0 (g 7 5) g) rfl (Nat.le_of_ble_eq_true rfl) ⟨Nat.le_of_ble_eq_true rfl, Nat.le_of_ble_eq_true rfl⟩ (fun r1 g2 => ?_)
  refine aw_if_ne iX6_riddle_11 ?_ ?_
  · refine aw_ldc (v := (-1000001)) iX6_riddle_14 kcX6_66 ?_
    exact aw_iret iX6_riddle_16 rfl
  · refine aw_iload_n iX6_riddle_17 rfl rfl ?_
    refine aw_if (fun c3 => ?_) (fun c3 => ?_)
    · refine aw_tsw tX6_riddle_18_0 c3 ?_
      refine aw_aload_n iX6_riddle_60 rfl rfl ?_
      refine aw_getR (own := "") iX6_riddle_61 flX6_26 zlt0 zsh0 rfl ?_
      refine aw_getR (own := "") iX6_riddle_64 flX6_177 zlt7 zsh7 rfl ?_
      refine aw_iload_n iX6_riddle_67 rfl rfl ?_
      refine aw_iald iX6_riddle_68 zlt10 zsh10 (fun v4 _ => ?_)
      exact aw_iret iX6_riddle_69 rfl
    refine aw_if (fun c5 => ?_) (fun c5 => ?_)
    · refine aw_tsw tX6_riddle_18_1 c5 ?_
      refine aw_aload_n iX6_riddle_70 rfl rfl ?_
      refine aw_getR (own := "") iX6_riddle_71 flX6_26 zlt0 zsh0 rfl ?_
      refine aw_getR (own := "") iX6_riddle_74 flX6_180 zlt7 zsh7 rfl ?_
      refine aw_iload_n iX6_riddle_77 rfl rfl ?_
      refine aw_iald iX6_riddle_78 zlt11 zsh11 (fun v6 _ => ?_)
      exact aw_iret iX6_riddle_79 rfl
    refine aw_if (fun c7 => ?_) (fun c7 => ?_)
    · refine aw_tsw tX6_riddle_18_2 c7 ?_
      refine aw_aload_n iX6_riddle_80 rfl rfl ?_
      refine aw_getR (own := "") iX6_riddle_81 flX6_26 zlt0 zsh0 rfl ?_
      refine aw_getR (own := "") iX6_riddle_84 flX6_183 zlt7 zsh7 rfl ?_
      refine aw_iload_n iX6_riddle_87 rfl rfl ?_
      refine aw_iald iX6_riddle_88 zlt12 zsh12 (fun v8 _ => ?_)
      exact aw_iret iX6_riddle_89 rfl
    refine aw_if (fun c9 => ?_) (fun c9 => ?_)
    · refine aw_tsw tX6_riddle_18_3 c9 ?_
      refine aw_aload_n iX6_riddle_90 rfl rfl ?_
      refine aw_getR (own := "") iX6_riddle_91 flX6_26 zlt0 zsh0 rfl ?_
      refine aw_iload_n iX6_riddle_94 rfl rfl ?_
      refine aw_callV (M' := mX2_answer) (As := [.inl a0]) iX6_riddle_95 lkX6_186 mcX2_answer mvX2_answer rfl zrc7 (kX2_answer 7 (CO_of7) a0 g2) rfl (Nat.le_of_ble_eq_true rfl) ⟨Nat.le_of_ble_eq_true rfl, Nat.le_of_ble_eq_true rfl⟩ (fun r10 g11 => ?_)
      exact aw_iret iX6_riddle_98 rfl
    refine aw_if (fun c12 => ?_) (fun c12 => ?_)
    · refine aw_tsw tX6_riddle_18_4 c12 ?_
      refine aw_aload_n iX6_riddle_99 rfl rfl ?_
      refine aw_getR (own := "") iX6_riddle_100 flX6_26 zlt0 zsh0 rfl ?_
      refine aw_iload_n iX6_riddle_103 rfl rfl ?_
      refine aw_callV (M' := mX2_wasUsed) (As := [.inl a0]) iX6_riddle_104 lkX6_137 mcX2_wasUsed mvX2_wasUsed rfl zrc7 (kX2_wasUsed 7 (CO_of7) a0 g2) rfl (Nat.le_of_ble_eq_true rfl) ⟨Nat.le_of_ble_eq_true rfl, Nat.le_of_ble_eq_true rfl⟩ (fun r13 g14 => ?_)
      refine aw_if_eq iX6_riddle_107 ?_ ?_
      · refine aw_iconst (v := 0) iX6_riddle_114 (by decide) ?_
        exact aw_iret iX6_riddle_115 rfl
      · refine aw_iconst (v := 1) iX6_riddle_110 (by decide) ?_
        refine aw_goto iX6_riddle_111 ?_
        exact aw_iret iX6_riddle_115 rfl
    refine aw_if (fun c15 => ?_) (fun c15 => ?_)
    · refine aw_tsw tX6_riddle_18_5 c15 ?_
      refine aw_aload_n iX6_riddle_116 rfl rfl ?_
      refine aw_getR (own := "") iX6_riddle_117 flX6_26 zlt0 zsh0 rfl ?_
      refine aw_getR (own := "") iX6_riddle_120 flX6_183 zlt7 zsh7 rfl ?_
      refine aw_iload_n iX6_riddle_123 rfl rfl ?_
      refine aw_iald iX6_riddle_124 zlt12 zsh12 (fun v16 _ => ?_)
      refine aw_callS (M' := mJ6_bitCount_0f7a4) (As := [.inl v16]) iX6_riddle_125 lkX6_189 mcJ6_bitCount_0f7a4 msJ6_bitCount_0f7a4 rfl (kJ6_bitCount_0f7a4 v16 g2) rfl (Nat.le_of_ble_eq_true rfl) ⟨Nat.le_of_ble_eq_true rfl, Nat.le_of_ble_eq_true rfl⟩ (fun r17 g18 => ?_)
      refine aw_iconst (v := 1) iX6_riddle_128 (by decide) ?_
      refine aw_icmp_ne iX6_riddle_129 ?_ ?_
      · refine aw_iconst (v := 1) iX6_riddle_132 (by decide) ?_
        refine aw_goto iX6_riddle_133 ?_
        exact aw_iret iX6_riddle_137 rfl
      · refine aw_iconst (v := 0) iX6_riddle_136 (by decide) ?_
        exact aw_iret iX6_riddle_137 rfl
    refine aw_if (fun c19 => ?_) (fun c19 => ?_)
    · refine aw_tsw tX6_riddle_18_6 c19 ?_
      refine aw_aload_n iX6_riddle_138 rfl rfl ?_
      refine aw_getR (own := "") iX6_riddle_139 flX6_26 zlt0 zsh0 rfl ?_
      refine aw_iload_n iX6_riddle_142 rfl rfl ?_
      refine aw_callV (M' := mX2_sheSays) (As := [.inl a0]) iX6_riddle_143 lkX6_194 mcX2_sheSays mvX2_sheSays rfl zrc7 (kX2_sheSays 7 (CO_of7) a0 g2) rfl (Nat.le_of_ble_eq_true rfl) ⟨Nat.le_of_ble_eq_true rfl, Nat.le_of_ble_eq_true rfl⟩ (fun r20 g21 => ?_)
      exact aw_iret iX6_riddle_146 rfl
    refine aw_tsd tX6_riddle_18_d (by have ec3 := ne_toInt c3 (a := 0) (by decide); have ec5 := ne_toInt c5 (a := 1) (by decide); have ec7 := ne_toInt c7 (a := 2) (by decide); have ec9 := ne_toInt c9 (a := 3) (by decide); have ec12 := ne_toInt c12 (a := 4) (by decide); have ec15 := ne_toInt c15 (a := 5) (by decide); have ec19 := ne_toInt c19 (a := 6) (by decide); omega) ?_
    refine aw_ldc (v := (-1000001)) iX6_riddle_147 kcX6_66 ?_
    exact aw_iret iX6_riddle_149 rfl
set_option maxRecDepth 20000 in
set_option maxHeartbeats 4000000 in
theorem kX6_riddle (a0 : Int32) (a1 : Int32) (g : Mem) : CT mX6_riddle [.inr 0, .inl a0, .inl a1] g (fX6_riddle a0 a1 g) := CT.of (nr := 0) (by decide +kernel) (Nat.le_of_ble_eq_true rfl) (Or.inr (Or.inl rfl)) (wX6_riddle a0 a1 g)
