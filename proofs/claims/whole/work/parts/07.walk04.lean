set_option maxRecDepth 20000 in
set_option maxHeartbeats 4000000 in
theorem wX7_havers_L5 (l1 : Int32) (l2 : Int32) (K : Int32 → Int32 → Mem → Option (Int32 × Mem)) (hK : ∀ (l3 l4 : Int32) (g : Mem), aw mX7_havers none 59 [some (.inr 61), some (.inl l1), some (.inl l2), some (.inl l3), some (.inl l4)] [] g (K l3 l4 g)) : ∀ (n : Nat) (l3 l4 : Int32) (g : Mem), aw mX7_havers none 5 [some (.inr 61), some (.inl l1), some (.inl l2), some (.inl l3), some (.inl l4)] [] g (fX7_havers_L5 l1 l2 K n l3 l4 g) := by
  intro n
  induction n with
  | zero => intro l3 l4 g; exact aw_none
  | succ n ih =>
    intro l3 l4 g
    rw [fX7_havers_L5]
    refine aw_iload iX7_havers_5 rfl ?_
    refine aw_aload_n iX7_havers_7 rfl rfl ?_
    refine aw_getR (own := "") iX7_havers_8 flX7_22 zlt61 zsh61 rfl ?_
    refine aw_iconst (v := 3) iX7_havers_11 (by decide) ?_
    refine aw_iald iX7_havers_12 zlt66 zsh66 (fun v1 _ => ?_)
    refine aw_icmp_ge iX7_havers_13 ?_ ?_
    · exact hK l3 l4 g
    · refine aw_iload_n iX7_havers_16 rfl rfl ?_
      refine aw_iload_n iX7_havers_17 rfl rfl ?_
      refine aw_iload iX7_havers_18 rfl ?_
      refine aw_callS (M' := mX7_has) (As := [.inl l1, .inl l4]) iX7_havers_20 lkX7_145 mcX7_has msX7_has rfl (kX7_has l1 l4 g) rfl (Nat.le_of_ble_eq_true rfl) ⟨Nat.le_of_ble_eq_true rfl, Nat.le_of_ble_eq_true rfl⟩ (fun r2 g3 => ?_)
      refine aw_if_eq iX7_havers_23 ?_ ?_
      · refine aw_iconst (v := 0) iX7_havers_50 (by decide) ?_
        refine aw_ior iX7_havers_51 ?_
        refine aw_lt (fun x4 => ?_)
        refine aw_istore_n (L' := [some (.inr 61), some (.inl l1), some (.inl l2), some (.inl x4), some (.inl l4)]) iX7_havers_52 rfl (Nat.le_of_ble_eq_true rfl) rfl ?_
        refine aw_iinc (L' := [some (.inr 61), some (.inl l1), some (.inl l2), some (.inl x4), some (.inl (l4 + (1 : Int32)))]) (v := l4 + (1 : Int32)) iX7_havers_53 rfl rfl (Nat.le_of_ble_eq_true rfl) rfl ?_
        refine aw_goto iX7_havers_56 ?_
        exact ih x4 (l4 + (1 : Int32)) g3
      · refine aw_aload_n iX7_havers_26 rfl rfl ?_
        refine aw_getR (own := "") iX7_havers_27 flX7_22 zlt61 zsh61 rfl ?_
        refine aw_bipush (v := 8) iX7_havers_30 (by decide) ?_
        refine aw_iload iX7_havers_32 rfl ?_
        refine aw_iadd iX7_havers_34 ?_
        refine aw_iald iX7_havers_35 zlt66 zsh66 (fun v5 _ => ?_)
        refine aw_iload_n iX7_havers_36 rfl rfl ?_
        refine aw_callS (M' := mX7_has) (As := [.inl v5, .inl l2]) iX7_havers_37 lkX7_145 mcX7_has msX7_has rfl (kX7_has v5 l2 g3) rfl (Nat.le_of_ble_eq_true rfl) ⟨Nat.le_of_ble_eq_true rfl, Nat.le_of_ble_eq_true rfl⟩ (fun r6 g7 => ?_)
        refine aw_if_eq iX7_havers_40 ?_ ?_
        · refine aw_iconst (v := 0) iX7_havers_50 (by decide) ?_
          refine aw_ior iX7_havers_51 ?_
          refine aw_lt (fun x8 => ?_)
          refine aw_istore_n (L' := [some (.inr 61), some (.inl l1), some (.inl l2), some (.inl x8), some (.inl l4)]) iX7_havers_52 rfl (Nat.le_of_ble_eq_true rfl) rfl ?_
          refine aw_iinc (L' := [some (.inr 61), some (.inl l1), some (.inl l2), some (.inl x8), some (.inl (l4 + (1 : Int32)))]) (v := l4 + (1 : Int32)) iX7_havers_53 rfl rfl (Nat.le_of_ble_eq_true rfl) rfl ?_
          refine aw_goto iX7_havers_56 ?_
          exact ih x8 (l4 + (1 : Int32)) g7
        · refine aw_iconst (v := 1) iX7_havers_43 (by decide) ?_
          refine aw_iload iX7_havers_44 rfl ?_
          refine aw_ishl iX7_havers_46 ?_
          refine aw_goto iX7_havers_47 ?_
          refine aw_ior iX7_havers_51 ?_
          refine aw_lt (fun x9 => ?_)
          refine aw_istore_n (L' := [some (.inr 61), some (.inl l1), some (.inl l2), some (.inl x9), some (.inl l4)]) iX7_havers_52 rfl (Nat.le_of_ble_eq_true rfl) rfl ?_
          refine aw_iinc (L' := [some (.inr 61), some (.inl l1), some (.inl l2), some (.inl x9), some (.inl (l4 + (1 : Int32)))]) (v := l4 + (1 : Int32)) iX7_havers_53 rfl rfl (Nat.le_of_ble_eq_true rfl) rfl ?_
          refine aw_goto iX7_havers_56 ?_
          exact ih x9 (l4 + (1 : Int32)) g7
set_option maxRecDepth 20000 in
set_option maxHeartbeats 4000000 in
theorem wX7_havers (a0 : Int32) (a1 : Int32) (g : Mem) : aw mX7_havers none 0 [some (.inr 61), some (.inl a0), some (.inl a1), none, none] [] g (fX7_havers a0 a1 g) := by
  unfold fX7_havers
  refine aw_iconst (v := 0) iX7_havers_0 (by decide) ?_
  refine aw_istore_n (L' := [some (.inr 61), some (.inl a0), some (.inl a1), some (.inl (0 : Int32)), none]) iX7_havers_1 rfl (Nat.le_of_ble_eq_true rfl) rfl ?_
  refine aw_iconst (v := 0) iX7_havers_2 (by decide) ?_
  refine aw_istore (L' := [some (.inr 61), some (.inl a0), some (.inl a1), some (.inl (0 : Int32)), some (.inl (0 : Int32))]) iX7_havers_3 (Nat.le_of_ble_eq_true rfl) rfl ?_
  refine wX7_havers_L5 a0 a1 _ (fun l10 l11 g12 => ?_) FU (0 : Int32) (0 : Int32) g
  refine aw_iload_n iX7_havers_59 rfl rfl ?_
  exact aw_iret iX7_havers_60 rfl
set_option maxRecDepth 20000 in
set_option maxHeartbeats 4000000 in
theorem kX7_havers (a0 : Int32) (a1 : Int32) (g : Mem) : CT mX7_havers [.inr 61, .inl a0, .inl a1] g (fX7_havers a0 a1 g) := CT.of (nr := 2) (by decide +kernel) (Nat.le_of_ble_eq_true rfl) (Or.inr (Or.inl rfl)) (wX7_havers a0 a1 g)
set_option maxRecDepth 20000 in
set_option maxHeartbeats 4000000 in
theorem wX7_deepBy (a0 : Int32) (a1 : Int32) (g : Mem) : aw mX7_deepBy none 0 [some (.inr 61), some (.inl a0), some (.inl a1), none, none] [] g (fX7_deepBy a0 a1 g) := by
  unfold fX7_deepBy
  refine aw_aload_n iX7_deepBy_0 rfl rfl ?_
  refine aw_iload_n iX7_deepBy_1 rfl rfl ?_
  refine aw_iload_n iX7_deepBy_2 rfl rfl ?_
  refine aw_callV (M' := mX7_havers) (As := [.inl a0, .inl a1]) iX7_deepBy_3 lkX7_193 mcX7_havers mvX7_havers rfl zrc61 (kX7_havers a0 a1 g) rfl (Nat.le_of_ble_eq_true rfl) ⟨Nat.le_of_ble_eq_true rfl, Nat.le_of_ble_eq_true rfl⟩ (fun r1 g2 => ?_)
  refine aw_istore_n (L' := [some (.inr 61), some (.inl a0), some (.inl a1), some (.inl r1), none]) iX7_deepBy_6 rfl (Nat.le_of_ble_eq_true rfl) rfl ?_
  refine aw_iload_n iX7_deepBy_7 rfl rfl ?_
  refine aw_iload_n iX7_deepBy_8 rfl rfl ?_
  refine aw_iconst (v := (-1)) iX7_deepBy_9 (by decide) ?_
  refine aw_ixor iX7_deepBy_10 ?_
  refine aw_iand iX7_deepBy_11 ?_
  refine aw_lt (fun x3 => ?_)
  refine aw_istore (L' := [some (.inr 61), some (.inl a0), some (.inl a1), some (.inl r1), some (.inl x3)]) iX7_deepBy_12 (Nat.le_of_ble_eq_true rfl) rfl ?_
  refine aw_iload_n iX7_deepBy_14 rfl rfl ?_
  refine aw_if_eq iX7_deepBy_15 ?_ ?_
  · refine aw_iconst (v := (-1)) iX7_deepBy_42 (by decide) ?_
    exact aw_iret iX7_deepBy_43 rfl
  · refine aw_iload iX7_deepBy_18 rfl ?_
    refine aw_if_eq iX7_deepBy_20 ?_ ?_
    · refine aw_iconst (v := (-1)) iX7_deepBy_42 (by decide) ?_
      exact aw_iret iX7_deepBy_43 rfl
    · refine aw_aload_n iX7_deepBy_23 rfl rfl ?_
      refine aw_getR (own := "") iX7_deepBy_24 flX7_41 zlt61 zsh61 rfl ?_
      refine aw_iload_n iX7_deepBy_27 rfl rfl ?_
      refine aw_iald iX7_deepBy_28 zlt72 zsh72 (fun v4 _ => ?_)
      refine aw_if_lt iX7_deepBy_29 ?_ ?_
      · refine aw_iconst (v := (-1)) iX7_deepBy_42 (by decide) ?_
        exact aw_iret iX7_deepBy_43 rfl
      · refine aw_aload_n iX7_deepBy_32 rfl rfl ?_
        refine aw_getR (own := "") iX7_deepBy_33 flX7_41 zlt61 zsh61 rfl ?_
        refine aw_iload iX7_deepBy_36 rfl ?_
        refine aw_iald iX7_deepBy_38 zlt72 zsh72 (fun v5 _ => ?_)
        refine aw_if_ge iX7_deepBy_39 ?_ ?_
        · refine aw_iconst (v := 1) iX7_deepBy_44 (by decide) ?_
          refine aw_aload_n iX7_deepBy_45 rfl rfl ?_
          refine aw_getR (own := "") iX7_deepBy_46 flX7_41 zlt61 zsh61 rfl ?_
          refine aw_iload_n iX7_deepBy_49 rfl rfl ?_
          refine aw_iald iX7_deepBy_50 zlt72 zsh72 (fun v6 _ => ?_)
          refine aw_aload_n iX7_deepBy_51 rfl rfl ?_
          refine aw_getR (own := "") iX7_deepBy_52 flX7_41 zlt61 zsh61 rfl ?_
          refine aw_iload iX7_deepBy_55 rfl ?_
          refine aw_iald iX7_deepBy_57 zlt72 zsh72 (fun v7 _ => ?_)
          refine aw_icmp_le iX7_deepBy_58 ?_ ?_
          · refine aw_aload_n iX7_deepBy_70 rfl rfl ?_
            refine aw_getR (own := "") iX7_deepBy_71 flX7_41 zlt61 zsh61 rfl ?_
            refine aw_iload iX7_deepBy_74 rfl ?_
            refine aw_iald iX7_deepBy_76 zlt72 zsh72 (fun v8 _ => ?_)
            refine aw_iadd iX7_deepBy_77 ?_
            exact aw_iret iX7_deepBy_78 rfl
          · refine aw_aload_n iX7_deepBy_61 rfl rfl ?_
            refine aw_getR (own := "") iX7_deepBy_62 flX7_41 zlt61 zsh61 rfl ?_
            refine aw_iload_n iX7_deepBy_65 rfl rfl ?_
            refine aw_iald iX7_deepBy_66 zlt72 zsh72 (fun v9 _ => ?_)
            refine aw_goto iX7_deepBy_67 ?_
            refine aw_iadd iX7_deepBy_77 ?_
            exact aw_iret iX7_deepBy_78 rfl
        · refine aw_iconst (v := (-1)) iX7_deepBy_42 (by decide) ?_
          exact aw_iret iX7_deepBy_43 rfl
set_option maxRecDepth 20000 in
set_option maxHeartbeats 4000000 in
theorem kX7_deepBy (a0 : Int32) (a1 : Int32) (g : Mem) : CT mX7_deepBy [.inr 61, .inl a0, .inl a1] g (fX7_deepBy a0 a1 g) := CT.of (nr := 2) (by decide +kernel) (Nat.le_of_ble_eq_true rfl) (Or.inr (Or.inl rfl)) (wX7_deepBy a0 a1 g)
set_option maxRecDepth 20000 in
set_option maxHeartbeats 4000000 in
theorem wX7_tree_L73 (l1 : Int32) (l2 : Int32) (l4 : Int32) (K : Int32 → Int32 → Mem → Option (Int32 × Mem)) (hK : ∀ (l3 l5 : Int32) (g : Mem), aw mX7_tree none 147 [some (.inr 61), some (.inl l1), some (.inl l2), some (.inl l3), some (.inl l4), some (.inl l5), none] [] g (K l3 l5 g)) : ∀ (n : Nat) (l3 l5 : Int32) (g : Mem), aw mX7_tree none 73 [some (.inr 61), some (.inl l1), some (.inl l2), some (.inl l3), some (.inl l4), some (.inl l5), none] [] g (fX7_tree_L73 l1 l2 l4 K n l3 l5 g) := by
  intro n
  induction n with
  | zero => intro l3 l5 g; exact aw_none
  | succ n ih =>
    intro l3 l5 g
    rw [fX7_tree_L73]
    refine aw_iload iX7_tree_73 rfl ?_
    refine aw_iconst (v := 5) iX7_tree_75 (by decide) ?_
    refine aw_icmp_ge iX7_tree_76 ?_ ?_
    · exact hK l3 l5 g
    · refine aw_iload iX7_tree_79 rfl ?_
      refine aw_callS (M' := mX7_bits) (As := [.inl l4]) iX7_tree_81 lkX7_133 mcX7_bits msX7_bits rfl (kX7_bits l4 g) rfl (Nat.le_of_ble_eq_true rfl) ⟨Nat.le_of_ble_eq_true rfl, Nat.le_of_ble_eq_true rfl⟩ (fun r12 g13 => ?_)
      refine aw_iconst (v := 2) iX7_tree_84 (by decide) ?_
      refine aw_icmp_ge iX7_tree_85 ?_ ?_
      · refine aw_aload_n iX7_tree_92 rfl rfl ?_
        refine aw_iload iX7_tree_93 rfl ?_
        refine aw_iload iX7_tree_95 rfl ?_
        refine aw_callV (M' := mX7_deepBy) (As := [.inl l4, .inl l5]) iX7_tree_97 lkX7_196 mcX7_deepBy mvX7_deepBy rfl zrc61 (kX7_deepBy l4 l5 g13) rfl (Nat.le_of_ble_eq_true rfl) ⟨Nat.le_of_ble_eq_true rfl, Nat.le_of_ble_eq_true rfl⟩ (fun r14 g15 => ?_)
        refine aw_istore (L' := [some (.inr 61), some (.inl l1), some (.inl l2), some (.inl l3), some (.inl l4), some (.inl l5), some (.inl r14)]) iX7_tree_100 (Nat.le_of_ble_eq_true rfl) rfl ?_
        refine aw_iload iX7_tree_102 rfl ?_
        refine aw_if_lt iX7_tree_104 ?_ ?_
        · refine aw_iinc (L' := [some (.inr 61), some (.inl l1), some (.inl l2), some (.inl l3), some (.inl l4), some (.inl (l5 + (1 : Int32))), some (.inl r14)]) (v := l5 + (1 : Int32)) iX7_tree_141 rfl rfl (Nat.le_of_ble_eq_true rfl) rfl ?_
          refine aw_goto iX7_tree_144 ?_
          refine aw_msk [true, true, true, true, true, true, false] rfl ?_
          exact ih l3 (l5 + (1 : Int32)) g15
        · refine aw_aload_n iX7_tree_107 rfl rfl ?_
          refine aw_getR (own := "") iX7_tree_108 flX7_41 zlt61 zsh61 rfl ?_
          refine aw_iload iX7_tree_111 rfl ?_
          refine aw_iald iX7_tree_113 zlt72 zsh72 (fun v16 _ => ?_)
          refine aw_if_lt iX7_tree_114 ?_ ?_
          · refine aw_aload_n iX7_tree_129 rfl rfl ?_
            refine aw_getR (own := "") iX7_tree_130 flX7_41 zlt61 zsh61 rfl ?_
            refine aw_iload iX7_tree_133 rfl ?_
            refine aw_iload iX7_tree_135 rfl ?_
            refine aw_iast iX7_tree_137 zlt72 zsh72 (fun g17 _ => ?_)
            refine aw_iload iX7_tree_138 rfl ?_
            refine aw_istore_n (L' := [some (.inr 61), some (.inl l1), some (.inl l2), some (.inl l5), some (.inl l4), some (.inl l5), some (.inl r14)]) iX7_tree_140 rfl (Nat.le_of_ble_eq_true rfl) rfl ?_
            refine aw_iinc (L' := [some (.inr 61), some (.inl l1), some (.inl l2), some (.inl l5), some (.inl l4), some (.inl (l5 + (1 : Int32))), some (.inl r14)]) (v := l5 + (1 : Int32)) iX7_tree_141 rfl rfl (Nat.le_of_ble_eq_true rfl) rfl ?_
            refine aw_goto iX7_tree_144 ?_
            refine aw_msk [true, true, true, true, true, true, false] rfl ?_
            exact ih l5 (l5 + (1 : Int32)) g17
          · refine aw_iload iX7_tree_117 rfl ?_
            refine aw_aload_n iX7_tree_119 rfl rfl ?_
            refine aw_getR (own := "") iX7_tree_120 flX7_41 zlt61 zsh61 rfl ?_
            refine aw_iload iX7_tree_123 rfl ?_
            refine aw_iald iX7_tree_125 zlt72 zsh72 (fun v18 _ => ?_)
            refine aw_icmp_ge iX7_tree_126 ?_ ?_
            · refine aw_iinc (L' := [some (.inr 61), some (.inl l1), some (.inl l2), some (.inl l3), some (.inl l4), some (.inl (l5 + (1 : Int32))), some (.inl r14)]) (v := l5 + (1 : Int32)) iX7_tree_141 rfl rfl (Nat.le_of_ble_eq_true rfl) rfl ?_
              refine aw_goto iX7_tree_144 ?_
              refine aw_msk [true, true, true, true, true, true, false] rfl ?_
              exact ih l3 (l5 + (1 : Int32)) g15
            · refine aw_aload_n iX7_tree_129 rfl rfl ?_
              refine aw_getR (own := "") iX7_tree_130 flX7_41 zlt61 zsh61 rfl ?_
              refine aw_iload iX7_tree_133 rfl ?_
              refine aw_iload iX7_tree_135 rfl ?_
              refine aw_iast iX7_tree_137 zlt72 zsh72 (fun g19 _ => ?_)
              refine aw_iload iX7_tree_138 rfl ?_
              refine aw_istore_n (L' := [some (.inr 61), some (.inl l1), some (.inl l2), some (.inl l5), some (.inl l4), some (.inl l5), some (.inl r14)]) iX7_tree_140 rfl (Nat.le_of_ble_eq_true rfl) rfl ?_
              refine aw_iinc (L' := [some (.inr 61), some (.inl l1), some (.inl l2), some (.inl l5), some (.inl l4), some (.inl (l5 + (1 : Int32))), some (.inl r14)]) (v := l5 + (1 : Int32)) iX7_tree_141 rfl rfl (Nat.le_of_ble_eq_true rfl) rfl ?_
              refine aw_goto iX7_tree_144 ?_
              refine aw_msk [true, true, true, true, true, true, false] rfl ?_
              exact ih l5 (l5 + (1 : Int32)) g19
      · refine aw_iconst (v := (-1)) iX7_tree_88 (by decide) ?_
        refine aw_goto iX7_tree_89 ?_
        refine aw_istore (L' := [some (.inr 61), some (.inl l1), some (.inl l2), some (.inl l3), some (.inl l4), some (.inl l5), some (.inl (-1 : Int32))]) iX7_tree_100 (Nat.le_of_ble_eq_true rfl) rfl ?_
        refine aw_iload iX7_tree_102 rfl ?_
        refine aw_if_lt iX7_tree_104 ?_ ?_
        · refine aw_iinc (L' := [some (.inr 61), some (.inl l1), some (.inl l2), some (.inl l3), some (.inl l4), some (.inl (l5 + (1 : Int32))), some (.inl (-1 : Int32))]) (v := l5 + (1 : Int32)) iX7_tree_141 rfl rfl (Nat.le_of_ble_eq_true rfl) rfl ?_
          refine aw_goto iX7_tree_144 ?_
          refine aw_msk [true, true, true, true, true, true, false] rfl ?_
          exact ih l3 (l5 + (1 : Int32)) g13
        · refine aw_aload_n iX7_tree_107 rfl rfl ?_
          refine aw_getR (own := "") iX7_tree_108 flX7_41 zlt61 zsh61 rfl ?_
          refine aw_iload iX7_tree_111 rfl ?_
          refine aw_iald iX7_tree_113 zlt72 zsh72 (fun v20 _ => ?_)
          refine aw_if_lt iX7_tree_114 ?_ ?_
          · refine aw_aload_n iX7_tree_129 rfl rfl ?_
            refine aw_getR (own := "") iX7_tree_130 flX7_41 zlt61 zsh61 rfl ?_
            refine aw_iload iX7_tree_133 rfl ?_
            refine aw_iload iX7_tree_135 rfl ?_
            refine aw_iast iX7_tree_137 zlt72 zsh72 (fun g21 _ => ?_)
            refine aw_iload iX7_tree_138 rfl ?_
            refine aw_istore_n (L' := [some (.inr 61), some (.inl l1), some (.inl l2), some (.inl l5), some (.inl l4), some (.inl l5), some (.inl (-1 : Int32))]) iX7_tree_140 rfl (Nat.le_of_ble_eq_true rfl) rfl ?_
            refine aw_iinc (L' := [some (.inr 61), some (.inl l1), some (.inl l2), some (.inl l5), some (.inl l4), some (.inl (l5 + (1 : Int32))), some (.inl (-1 : Int32))]) (v := l5 + (1 : Int32)) iX7_tree_141 rfl rfl (Nat.le_of_ble_eq_true rfl) rfl ?_
            refine aw_goto iX7_tree_144 ?_
            refine aw_msk [true, true, true, true, true, true, false] rfl ?_
            exact ih l5 (l5 + (1 : Int32)) g21
          · refine aw_iload iX7_tree_117 rfl ?_
            refine aw_aload_n iX7_tree_119 rfl rfl ?_
            refine aw_getR (own := "") iX7_tree_120 flX7_41 zlt61 zsh61 rfl ?_
            refine aw_iload iX7_tree_123 rfl ?_
            refine aw_iald iX7_tree_125 zlt72 zsh72 (fun v22 _ => ?_)
            refine aw_icmp_ge iX7_tree_126 ?_ ?_
            · refine aw_iinc (L' := [some (.inr 61), some (.inl l1), some (.inl l2), some (.inl l3), some (.inl l4), some (.inl (l5 + (1 : Int32))), some (.inl (-1 : Int32))]) (v := l5 + (1 : Int32)) iX7_tree_141 rfl rfl (Nat.le_of_ble_eq_true rfl) rfl ?_
              refine aw_goto iX7_tree_144 ?_
              refine aw_msk [true, true, true, true, true, true, false] rfl ?_
              exact ih l3 (l5 + (1 : Int32)) g13
            · refine aw_aload_n iX7_tree_129 rfl rfl ?_
              refine aw_getR (own := "") iX7_tree_130 flX7_41 zlt61 zsh61 rfl ?_
              refine aw_iload iX7_tree_133 rfl ?_
              refine aw_iload iX7_tree_135 rfl ?_
              refine aw_iast iX7_tree_137 zlt72 zsh72 (fun g23 _ => ?_)
              refine aw_iload iX7_tree_138 rfl ?_
              refine aw_istore_n (L' := [some (.inr 61), some (.inl l1), some (.inl l2), some (.inl l5), some (.inl l4), some (.inl l5), some (.inl (-1 : Int32))]) iX7_tree_140 rfl (Nat.le_of_ble_eq_true rfl) rfl ?_
              refine aw_iinc (L' := [some (.inr 61), some (.inl l1), some (.inl l2), some (.inl l5), some (.inl l4), some (.inl (l5 + (1 : Int32))), some (.inl (-1 : Int32))]) (v := l5 + (1 : Int32)) iX7_tree_141 rfl rfl (Nat.le_of_ble_eq_true rfl) rfl ?_
              refine aw_goto iX7_tree_144 ?_
              refine aw_msk [true, true, true, true, true, true, false] rfl ?_
              exact ih l5 (l5 + (1 : Int32)) g23
set_option maxRecDepth 20000 in
set_option maxHeartbeats 4000000 in
theorem wX7_tree_L40 (l1 : Int32) (l2 : Int32) (K : Int32 → Int32 → Mem → Option (Int32 × Mem)) (hK : ∀ (l3 l4 : Int32) (g : Mem), aw mX7_tree none 153 [some (.inr 61), some (.inl l1), some (.inl l2), some (.inl l3), some (.inl l4), none, none] [] g (K l3 l4 g)) : ∀ (n : Nat) (l3 l4 : Int32) (g : Mem), aw mX7_tree none 40 [some (.inr 61), some (.inl l1), some (.inl l2), some (.inl l3), some (.inl l4), none, none] [] g (fX7_tree_L40 l1 l2 K n l3 l4 g) := by
  intro n
  induction n with
  | zero => intro l3 l4 g; exact aw_none
  | succ n ih =>
    intro l3 l4 g
    rw [fX7_tree_L40]
    refine aw_iload iX7_tree_40 rfl ?_
    refine aw_iload_n iX7_tree_42 rfl rfl ?_
    refine aw_icmp_gt iX7_tree_43 ?_ ?_
    · exact hK l3 l4 g
    · refine aw_aload_n iX7_tree_46 rfl rfl ?_
      refine aw_getR (own := "") iX7_tree_47 flX7_41 zlt61 zsh61 rfl ?_
      refine aw_iload iX7_tree_50 rfl ?_
      refine aw_iload iX7_tree_52 rfl ?_
      refine aw_callS (M' := mX7_bits) (As := [.inl l4]) iX7_tree_54 lkX7_133 mcX7_bits msX7_bits rfl (kX7_bits l4 g) rfl (Nat.le_of_ble_eq_true rfl) ⟨Nat.le_of_ble_eq_true rfl, Nat.le_of_ble_eq_true rfl⟩ (fun r9 g10 => ?_)
      refine aw_iconst (v := 2) iX7_tree_57 (by decide) ?_
      refine aw_icmp_ge iX7_tree_58 ?_ ?_
      · refine aw_iconst (v := (-1)) iX7_tree_65 (by decide) ?_
        refine aw_iast iX7_tree_66 zlt72 zsh72 (fun g11 _ => ?_)
        refine aw_ldc (v := (-1000000)) iX7_tree_67 kcX7_144 ?_
        refine aw_istore_n (L' := [some (.inr 61), some (.inl l1), some (.inl l2), some (.inl (-1000000 : Int32)), some (.inl l4), none, none]) iX7_tree_69 rfl (Nat.le_of_ble_eq_true rfl) rfl ?_
        refine aw_iconst (v := 0) iX7_tree_70 (by decide) ?_
        refine aw_istore (L' := [some (.inr 61), some (.inl l1), some (.inl l2), some (.inl (-1000000 : Int32)), some (.inl l4), some (.inl (0 : Int32)), none]) iX7_tree_71 (Nat.le_of_ble_eq_true rfl) rfl ?_
        refine wX7_tree_L73 l1 l2 l4 _ (fun l24 l25 g26 => ?_) FU (-1000000 : Int32) (0 : Int32) g11
        refine aw_iinc (L' := [some (.inr 61), some (.inl l1), some (.inl l2), some (.inl l24), some (.inl (l4 + (1 : Int32))), some (.inl l25), none]) (v := l4 + (1 : Int32)) iX7_tree_147 rfl rfl (Nat.le_of_ble_eq_true rfl) rfl ?_
        refine aw_goto iX7_tree_150 ?_
        refine aw_msk [true, true, true, true, true, false, false] rfl ?_
        exact ih l24 (l4 + (1 : Int32)) g26
      · refine aw_iconst (v := 0) iX7_tree_61 (by decide) ?_
        refine aw_goto iX7_tree_62 ?_
        refine aw_iast iX7_tree_66 zlt72 zsh72 (fun g27 _ => ?_)
        refine aw_ldc (v := (-1000000)) iX7_tree_67 kcX7_144 ?_
        refine aw_istore_n (L' := [some (.inr 61), some (.inl l1), some (.inl l2), some (.inl (-1000000 : Int32)), some (.inl l4), none, none]) iX7_tree_69 rfl (Nat.le_of_ble_eq_true rfl) rfl ?_
        refine aw_iconst (v := 0) iX7_tree_70 (by decide) ?_
        refine aw_istore (L' := [some (.inr 61), some (.inl l1), some (.inl l2), some (.inl (-1000000 : Int32)), some (.inl l4), some (.inl (0 : Int32)), none]) iX7_tree_71 (Nat.le_of_ble_eq_true rfl) rfl ?_
        refine wX7_tree_L73 l1 l2 l4 _ (fun l28 l29 g30 => ?_) FU (-1000000 : Int32) (0 : Int32) g27
        refine aw_iinc (L' := [some (.inr 61), some (.inl l1), some (.inl l2), some (.inl l28), some (.inl (l4 + (1 : Int32))), some (.inl l29), none]) (v := l4 + (1 : Int32)) iX7_tree_147 rfl rfl (Nat.le_of_ble_eq_true rfl) rfl ?_
        refine aw_goto iX7_tree_150 ?_
        refine aw_msk [true, true, true, true, true, false, false] rfl ?_
        exact ih l28 (l4 + (1 : Int32)) g30
set_option maxRecDepth 20000 in
set_option maxHeartbeats 4000000 in
theorem wX7_tree (a0 : Int32) (a1 : Int32) (g : Mem) : aw mX7_tree none 0 [some (.inr 61), some (.inl a0), some (.inl a1), none, none, none, none] [] g (fX7_tree a0 a1 g) := by
  unfold fX7_tree
  refine aw_aload_n iX7_tree_0 rfl rfl ?_
  refine aw_callV (M' := mX7_isCourt) (As := []) iX7_tree_1 lkX7_187 mcX7_isCourt mvX7_isCourt rfl zrc61 (kX7_isCourt g) rfl (Nat.le_of_ble_eq_true rfl) ⟨Nat.le_of_ble_eq_true rfl, Nat.le_of_ble_eq_true rfl⟩ (fun r1 g2 => ?_)
  refine aw_if_ne iX7_tree_4 ?_ ?_
  · refine aw_ldc (v := (-1000002)) iX7_tree_7 kcX7_167 ?_
    exact aw_iret iX7_tree_9 rfl
  · refine aw_iload_n iX7_tree_10 rfl rfl ?_
    refine aw_iconst (v := 0) iX7_tree_11 (by decide) ?_
    refine aw_aload_n iX7_tree_12 rfl rfl ?_
    refine aw_callV (M' := mX7_everything) (As := []) iX7_tree_13 lkX7_126 mcX7_everything mvX7_everything rfl zrc61 (kX7_everything g2) rfl (Nat.le_of_ble_eq_true rfl) ⟨Nat.le_of_ble_eq_true rfl, Nat.le_of_ble_eq_true rfl⟩ (fun r3 g4 => ?_)
    refine aw_callS (M' := mX7_in) (As := [.inl a0, .inl (0 : Int32), .inl r3]) iX7_tree_16 lkX7_49 mcX7_in msX7_in rfl (kX7_in a0 (0 : Int32) r3 g4) rfl (Nat.le_of_ble_eq_true rfl) ⟨Nat.le_of_ble_eq_true rfl, Nat.le_of_ble_eq_true rfl⟩ (fun r5 g6 => ?_)
    refine aw_if_eq iX7_tree_19 ?_ ?_
    · refine aw_ldc (v := (-1000001)) iX7_tree_31 kcX7_57 ?_
      exact aw_iret iX7_tree_33 rfl
    · refine aw_iload_n iX7_tree_22 rfl rfl ?_
      refine aw_iconst (v := 0) iX7_tree_23 (by decide) ?_
      refine aw_iconst (v := 1) iX7_tree_24 (by decide) ?_
      refine aw_callS (M' := mX7_in) (As := [.inl a1, .inl (0 : Int32), .inl (1 : Int32)]) iX7_tree_25 lkX7_49 mcX7_in msX7_in rfl (kX7_in a1 (0 : Int32) (1 : Int32) g6) rfl (Nat.le_of_ble_eq_true rfl) ⟨Nat.le_of_ble_eq_true rfl, Nat.le_of_ble_eq_true rfl⟩ (fun r7 g8 => ?_)
      refine aw_if_ne iX7_tree_28 ?_ ?_
      · refine aw_ldc (v := (-1000001)) iX7_tree_31 kcX7_57 ?_
        exact aw_iret iX7_tree_33 rfl
      · refine aw_ldc (v := (-1000000)) iX7_tree_34 kcX7_144 ?_
        refine aw_istore_n (L' := [some (.inr 61), some (.inl a0), some (.inl a1), some (.inl (-1000000 : Int32)), none, none, none]) iX7_tree_36 rfl (Nat.le_of_ble_eq_true rfl) rfl ?_
        refine aw_iconst (v := 0) iX7_tree_37 (by decide) ?_
        refine aw_istore (L' := [some (.inr 61), some (.inl a0), some (.inl a1), some (.inl (-1000000 : Int32)), some (.inl (0 : Int32)), none, none]) iX7_tree_38 (Nat.le_of_ble_eq_true rfl) rfl ?_
        refine wX7_tree_L40 a0 a1 _ (fun l31 l32 g33 => ?_) FU (-1000000 : Int32) (0 : Int32) g8
        refine aw_iload_n iX7_tree_153 rfl rfl ?_
        refine aw_iconst (v := 1) iX7_tree_154 (by decide) ?_
        refine aw_icmp_ne iX7_tree_155 ?_ ?_
        · refine aw_iload_n iX7_tree_158 rfl rfl ?_
          refine aw_goto iX7_tree_159 ?_
          exact aw_iret iX7_tree_182 rfl
        · refine aw_aload_n iX7_tree_162 rfl rfl ?_
          refine aw_getR (own := "") iX7_tree_163 flX7_41 zlt61 zsh61 rfl ?_
          refine aw_iload_n iX7_tree_166 rfl rfl ?_
          refine aw_iald iX7_tree_167 zlt72 zsh72 (fun v34 _ => ?_)
          refine aw_if_ge iX7_tree_168 ?_ ?_
          · refine aw_aload_n iX7_tree_176 rfl rfl ?_
            refine aw_getR (own := "") iX7_tree_177 flX7_41 zlt61 zsh61 rfl ?_
            refine aw_iload_n iX7_tree_180 rfl rfl ?_
            refine aw_iald iX7_tree_181 zlt72 zsh72 (fun v35 _ => ?_)
            exact aw_iret iX7_tree_182 rfl
          · refine aw_ldc (v := (-1000000)) iX7_tree_171 kcX7_144 ?_
            refine aw_goto iX7_tree_173 ?_
            exact aw_iret iX7_tree_182 rfl
set_option maxRecDepth 20000 in
set_option maxHeartbeats 4000000 in
theorem kX7_tree (a0 : Int32) (a1 : Int32) (g : Mem) : CT mX7_tree [.inr 61, .inl a0, .inl a1] g (fX7_tree a0 a1 g) := CT.of (nr := 4) (by decide +kernel) (Nat.le_of_ble_eq_true rfl) (Or.inr (Or.inl rfl)) (wX7_tree a0 a1 g)
set_option maxRecDepth 20000 in
set_option maxHeartbeats 4000000 in
theorem wX7_said_L78 (l1 : Int32) (l2 : Int32) (l3 : Int32) (l4 : Int32) (l5 : Int32) (K : Int32 → Mem → Option (Int32 × Mem)) (hK : ∀ (l6 : Int32) (g : Mem), aw mX7_said none 125 [some (.inr 61), some (.inl l1), some (.inl l2), some (.inl l3), some (.inl l4), some (.inl l5), some (.inl l6), none, none, none, none, none, none, none, none, none] [] g (K l6 g)) : ∀ (n : Nat) (l6 : Int32) (g : Mem), aw mX7_said none 78 [some (.inr 61), some (.inl l1), some (.inl l2), some (.inl l3), some (.inl l4), some (.inl l5), some (.inl l6), none, none, none, none, none, none, none, none, none] [] g (fX7_said_L78 l1 l2 l3 l4 l5 K n l6 g) := by
  intro n
  induction n with
  | zero => intro l6 g; exact aw_none
  | succ n ih =>
    intro l6 g
    rw [fX7_said_L78]
    refine aw_iload iX7_said_78 rfl ?_
    refine aw_iload iX7_said_80 rfl ?_
    refine aw_icmp_ge iX7_said_82 ?_ ?_
    · exact hK l6 g
    · refine aw_aload_n iX7_said_85 rfl rfl ?_
      refine aw_getR (own := "") iX7_said_86 flX7_16 zlt61 zsh61 rfl ?_
      refine aw_bipush (v := 40) iX7_said_89 (by decide) ?_
      refine aw_iload_n iX7_said_91 rfl rfl ?_
      refine aw_imul iX7_said_92 ?_
      refine aw_iload_n iX7_said_93 rfl rfl ?_
      refine aw_iadd iX7_said_94 ?_
      refine aw_iload iX7_said_95 rfl ?_
      refine aw_iadd iX7_said_97 ?_
      refine aw_iald iX7_said_98 zlt64 zsh64 (fun v15 _ => ?_)
      refine aw_istore (L' := [some (.inr 61), some (.inl l1), some (.inl l2), some (.inl l3), some (.inl l4), some (.inl l5), some (.inl l6), some (.inl v15), none, none, none, none, none, none, none, none]) iX7_said_99 (Nat.le_of_ble_eq_true rfl) rfl ?_
      refine aw_iload iX7_said_101 rfl ?_
      refine aw_iconst (v := (-1)) iX7_said_103 (by decide) ?_
      refine aw_icmp_eq iX7_said_104 ?_ ?_
      · refine aw_iinc (L' := [some (.inr 61), some (.inl l1), some (.inl l2), some (.inl l3), some (.inl l4), some (.inl l5), some (.inl (l6 + (1 : Int32))), some (.inl v15), none, none, none, none, none, none, none, none]) (v := l6 + (1 : Int32)) iX7_said_119 rfl rfl (Nat.le_of_ble_eq_true rfl) rfl ?_
        refine aw_goto iX7_said_122 ?_
        refine aw_msk [true, true, true, true, true, true, true, false, false, false, false, false, false, false, false, false] rfl ?_
        exact ih (l6 + (1 : Int32)) g
      · refine aw_aload_n iX7_said_107 rfl rfl ?_
        refine aw_iload iX7_said_108 rfl ?_
        refine aw_callV (M' := mX7_isThingAt) (As := [.inl v15]) iX7_said_110 lkX7_181 mcX7_isThingAt mvX7_isThingAt rfl zrc61 (kX7_isThingAt v15 g) rfl (Nat.le_of_ble_eq_true rfl) ⟨Nat.le_of_ble_eq_true rfl, Nat.le_of_ble_eq_true rfl⟩ (fun r16 g17 => ?_)
        refine aw_if_ne iX7_said_113 ?_ ?_
        · refine aw_ldc (v := (-1000001)) iX7_said_116 kcX7_57 ?_
          exact aw_iret iX7_said_118 rfl
        · refine aw_iinc (L' := [some (.inr 61), some (.inl l1), some (.inl l2), some (.inl l3), some (.inl l4), some (.inl l5), some (.inl (l6 + (1 : Int32))), some (.inl v15), none, none, none, none, none, none, none, none]) (v := l6 + (1 : Int32)) iX7_said_119 rfl rfl (Nat.le_of_ble_eq_true rfl) rfl ?_
          refine aw_goto iX7_said_122 ?_
          refine aw_msk [true, true, true, true, true, true, true, false, false, false, false, false, false, false, false, false] rfl ?_
          exact ih (l6 + (1 : Int32)) g17
set_option maxRecDepth 20000 in
set_option maxHeartbeats 4000000 in
theorem wX7_said_L131 (l1 : Int32) (l2 : Int32) (l3 : Int32) (l4 : Int32) (l5 : Int32) (K : Int32 → Int32 → Mem → Option (Int32 × Mem)) (hK : ∀ (l6 l7 : Int32) (g : Mem), aw mX7_said none 155 [some (.inr 61), some (.inl l1), some (.inl l2), some (.inl l3), some (.inl l4), some (.inl l5), some (.inl l6), some (.inl l7), none, none, none, none, none, none, none, none] [] g (K l6 l7 g)) : ∀ (n : Nat) (l6 l7 : Int32) (g : Mem), aw mX7_said none 131 [some (.inr 61), some (.inl l1), some (.inl l2), some (.inl l3), some (.inl l4), some (.inl l5), some (.inl l6), some (.inl l7), none, none, none, none, none, none, none, none] [] g (fX7_said_L131 l1 l2 l3 l4 l5 K n l6 l7 g) := by
  intro n
  induction n with
  | zero => intro l6 l7 g; exact aw_none
  | succ n ih =>
    intro l6 l7 g
    rw [fX7_said_L131]
    refine aw_iload iX7_said_131 rfl ?_
    refine aw_iload iX7_said_133 rfl ?_
    refine aw_icmp_ge iX7_said_135 ?_ ?_
    · exact hK l6 l7 g
    · refine aw_iload iX7_said_138 rfl ?_
      refine aw_aload_n iX7_said_140 rfl rfl ?_
      refine aw_getR (own := "") iX7_said_141 flX7_22 zlt61 zsh61 rfl ?_
      refine aw_iconst (v := 4) iX7_said_144 (by decide) ?_
      refine aw_iald iX7_said_145 zlt66 zsh66 (fun v20 _ => ?_)
      refine aw_imul iX7_said_146 ?_
      refine aw_lt (fun x21 => ?_)
      refine aw_istore (L' := [some (.inr 61), some (.inl l1), some (.inl l2), some (.inl l3), some (.inl l4), some (.inl l5), some (.inl x21), some (.inl l7), none, none, none, none, none, none, none, none]) iX7_said_147 (Nat.le_of_ble_eq_true rfl) rfl ?_
      refine aw_iinc (L' := [some (.inr 61), some (.inl l1), some (.inl l2), some (.inl l3), some (.inl l4), some (.inl l5), some (.inl x21), some (.inl (l7 + (1 : Int32))), none, none, none, none, none, none, none, none]) (v := l7 + (1 : Int32)) iX7_said_149 rfl rfl (Nat.le_of_ble_eq_true rfl) rfl ?_
      refine aw_goto iX7_said_152 ?_
      exact ih x21 (l7 + (1 : Int32)) g
set_option maxRecDepth 20000 in
set_option maxHeartbeats 4000000 in
theorem wX7_said_L184 (l1 : Int32) (l2 : Int32) (l3 : Int32) (l4 : Int32) (l5 : Int32) (l6 : Int32) (l7 : Int32) (l8 : Int32) (l9 : Int32) (K : Int32 → Int32 → Int32 → Int32 → Mem → Option (Int32 × Mem)) (hK : ∀ (l10 l11 l12 l13 : Int32) (g : Mem), aw mX7_said none 289 [some (.inr 61), some (.inl l1), some (.inl l2), some (.inl l3), some (.inl l4), some (.inl l5), some (.inl l6), some (.inl l7), some (.inl l8), some (.inl l9), some (.inl l10), some (.inl l11), some (.inl l12), some (.inl l13), none, none] [] g (K l10 l11 l12 l13 g)) : ∀ (n : Nat) (l10 l11 l12 l13 : Int32) (g : Mem), aw mX7_said none 184 [some (.inr 61), some (.inl l1), some (.inl l2), some (.inl l3), some (.inl l4), some (.inl l5), some (.inl l6), some (.inl l7), some (.inl l8), some (.inl l9), some (.inl l10), some (.inl l11), some (.inl l12), some (.inl l13), none, none] [] g (fX7_said_L184 l1 l2 l3 l4 l5 l6 l7 l8 l9 K n l10 l11 l12 l13 g) := by
  intro n
  induction n with
  | zero => intro l10 l11 l12 l13 g; exact aw_none
  | succ n ih =>
    intro l10 l11 l12 l13 g
    rw [fX7_said_L184]
    refine aw_iload iX7_said_184 rfl ?_
    refine aw_iload iX7_said_186 rfl ?_
    refine aw_icmp_ge iX7_said_188 ?_ ?_
    · exact hK l10 l11 l12 l13 g
    · refine aw_iload iX7_said_191 rfl ?_
      refine aw_aload_n iX7_said_193 rfl rfl ?_
      refine aw_getR (own := "") iX7_said_194 flX7_22 zlt61 zsh61 rfl ?_
      refine aw_iconst (v := 4) iX7_said_197 (by decide) ?_
      refine aw_iald iX7_said_198 zlt66 zsh66 (fun v25 _ => ?_)
      refine aw_irem iX7_said_199 ?_
      refine aw_lt (fun x26 => ?_)
      refine aw_istore (L' := [some (.inr 61), some (.inl l1), some (.inl l2), some (.inl l3), some (.inl l4), some (.inl l5), some (.inl l6), some (.inl l7), some (.inl l8), some (.inl l9), some (.inl l10), some (.inl l11), some (.inl l12), some (.inl l13), some (.inl x26), none]) iX7_said_200 (Nat.le_of_ble_eq_true rfl) rfl ?_
      refine aw_iload iX7_said_202 rfl ?_
      refine aw_aload_n iX7_said_204 rfl rfl ?_
      refine aw_getR (own := "") iX7_said_205 flX7_22 zlt61 zsh61 rfl ?_
      refine aw_iconst (v := 4) iX7_said_208 (by decide) ?_
      refine aw_iald iX7_said_209 zlt66 zsh66 (fun v27 _ => ?_)
      refine aw_idiv iX7_said_210 ?_
      refine aw_lt (fun x28 => ?_)
      refine aw_istore (L' := [some (.inr 61), some (.inl l1), some (.inl l2), some (.inl l3), some (.inl l4), some (.inl l5), some (.inl l6), some (.inl l7), some (.inl l8), some (.inl l9), some (.inl x28), some (.inl l11), some (.inl l12), some (.inl l13), some (.inl x26), none]) iX7_said_211 (Nat.le_of_ble_eq_true rfl) rfl ?_
      refine aw_aload_n iX7_said_213 rfl rfl ?_
      refine aw_getR (own := "") iX7_said_214 flX7_16 zlt61 zsh61 rfl ?_
      refine aw_bipush (v := 40) iX7_said_217 (by decide) ?_
      refine aw_iload_n iX7_said_219 rfl rfl ?_
      refine aw_imul iX7_said_220 ?_
      refine aw_iload_n iX7_said_221 rfl rfl ?_
      refine aw_iadd iX7_said_222 ?_
      refine aw_iload iX7_said_223 rfl ?_
      refine aw_iadd iX7_said_225 ?_
      refine aw_iald iX7_said_226 zlt64 zsh64 (fun v29 _ => ?_)
      refine aw_istore (L' := [some (.inr 61), some (.inl l1), some (.inl l2), some (.inl l3), some (.inl l4), some (.inl l5), some (.inl l6), some (.inl l7), some (.inl l8), some (.inl l9), some (.inl x28), some (.inl l11), some (.inl l12), some (.inl l13), some (.inl x26), some (.inl v29)]) iX7_said_227 (Nat.le_of_ble_eq_true rfl) rfl ?_
      refine aw_iload iX7_said_229 rfl ?_
      refine aw_if_eq iX7_said_231 ?_ ?_
      · refine aw_iconst (v := 0) iX7_said_271 (by decide) ?_
        refine aw_istore (L' := [some (.inr 61), some (.inl l1), some (.inl l2), some (.inl l3), some (.inl l4), some (.inl l5), some (.inl l6), some (.inl l7), some (.inl l8), some (.inl l9), some (.inl x28), some (.inl l11), some (.inl (0 : Int32)), some (.inl l13), some (.inl x26), some (.inl v29)]) iX7_said_272 (Nat.le_of_ble_eq_true rfl) rfl ?_
        refine aw_iload iX7_said_274 rfl ?_
        refine aw_iconst (v := 1) iX7_said_276 (by decide) ?_
        refine aw_iload iX7_said_277 rfl ?_
        refine aw_ishl iX7_said_279 ?_
        refine aw_ior iX7_said_280 ?_
        refine aw_lt (fun x30 => ?_)
        refine aw_istore (L' := [some (.inr 61), some (.inl l1), some (.inl l2), some (.inl l3), some (.inl l4), some (.inl l5), some (.inl l6), some (.inl l7), some (.inl l8), some (.inl l9), some (.inl x28), some (.inl x30), some (.inl (0 : Int32)), some (.inl l13), some (.inl x26), some (.inl v29)]) iX7_said_281 (Nat.le_of_ble_eq_true rfl) rfl ?_
        refine aw_iinc (L' := [some (.inr 61), some (.inl l1), some (.inl l2), some (.inl l3), some (.inl l4), some (.inl l5), some (.inl l6), some (.inl l7), some (.inl l8), some (.inl l9), some (.inl x28), some (.inl x30), some (.inl (0 : Int32)), some (.inl (l13 + (1 : Int32))), some (.inl x26), some (.inl v29)]) (v := l13 + (1 : Int32)) iX7_said_283 rfl rfl (Nat.le_of_ble_eq_true rfl) rfl ?_
        refine aw_goto iX7_said_286 ?_
        refine aw_msk [true, true, true, true, true, true, true, true, true, true, true, true, true, true, false, false] rfl ?_
        exact ih x28 x30 (0 : Int32) (l13 + (1 : Int32)) g
      · refine aw_iload iX7_said_234 rfl ?_
        refine aw_iload iX7_said_236 rfl ?_
        refine aw_callS (M' := mX7_has) (As := [.inl l11, .inl x26]) iX7_said_238 lkX7_145 mcX7_has msX7_has rfl (kX7_has l11 x26 g) rfl (Nat.le_of_ble_eq_true rfl) ⟨Nat.le_of_ble_eq_true rfl, Nat.le_of_ble_eq_true rfl⟩ (fun r31 g32 => ?_)
        refine aw_if_ne iX7_said_241 ?_ ?_
        · refine aw_aload_n iX7_said_244 rfl rfl ?_
          refine aw_iload_n iX7_said_245 rfl rfl ?_
          refine aw_iload iX7_said_246 rfl ?_
          refine aw_callV (M' := mX7_saysAt) (As := [.inl l1, .inl x26]) iX7_said_248 lkX7_171 mcX7_saysAt mvX7_saysAt rfl zrc61 (kX7_saysAt l1 x26 g32) rfl (Nat.le_of_ble_eq_true rfl) ⟨Nat.le_of_ble_eq_true rfl, Nat.le_of_ble_eq_true rfl⟩ (fun r33 g34 => ?_)
          refine aw_iload iX7_said_251 rfl ?_
          refine aw_iconst (v := (-1)) iX7_said_253 (by decide) ?_
          refine aw_icmp_ne iX7_said_254 ?_ ?_
          · refine aw_ldc (v := (-1000000)) iX7_said_257 kcX7_144 ?_
            refine aw_goto iX7_said_259 ?_
            refine aw_icmp_ne iX7_said_264 ?_ ?_
            · refine aw_iconst (v := 1) iX7_said_267 (by decide) ?_
              refine aw_goto iX7_said_268 ?_
              refine aw_istore (L' := [some (.inr 61), some (.inl l1), some (.inl l2), some (.inl l3), some (.inl l4), some (.inl l5), some (.inl l6), some (.inl l7), some (.inl l8), some (.inl l9), some (.inl x28), some (.inl l11), some (.inl (1 : Int32)), some (.inl l13), some (.inl x26), some (.inl v29)]) iX7_said_272 (Nat.le_of_ble_eq_true rfl) rfl ?_
              refine aw_iload iX7_said_274 rfl ?_
              refine aw_iconst (v := 1) iX7_said_276 (by decide) ?_
              refine aw_iload iX7_said_277 rfl ?_
              refine aw_ishl iX7_said_279 ?_
              refine aw_ior iX7_said_280 ?_
              refine aw_lt (fun x35 => ?_)
              refine aw_istore (L' := [some (.inr 61), some (.inl l1), some (.inl l2), some (.inl l3), some (.inl l4), some (.inl l5), some (.inl l6), some (.inl l7), some (.inl l8), some (.inl l9), some (.inl x28), some (.inl x35), some (.inl (1 : Int32)), some (.inl l13), some (.inl x26), some (.inl v29)]) iX7_said_281 (Nat.le_of_ble_eq_true rfl) rfl ?_
              refine aw_iinc (L' := [some (.inr 61), some (.inl l1), some (.inl l2), some (.inl l3), some (.inl l4), some (.inl l5), some (.inl l6), some (.inl l7), some (.inl l8), some (.inl l9), some (.inl x28), some (.inl x35), some (.inl (1 : Int32)), some (.inl (l13 + (1 : Int32))), some (.inl x26), some (.inl v29)]) (v := l13 + (1 : Int32)) iX7_said_283 rfl rfl (Nat.le_of_ble_eq_true rfl) rfl ?_
              refine aw_goto iX7_said_286 ?_
              refine aw_msk [true, true, true, true, true, true, true, true, true, true, true, true, true, true, false, false] rfl ?_
              exact ih x28 x35 (1 : Int32) (l13 + (1 : Int32)) g34
            · refine aw_iconst (v := 0) iX7_said_271 (by decide) ?_
              refine aw_istore (L' := [some (.inr 61), some (.inl l1), some (.inl l2), some (.inl l3), some (.inl l4), some (.inl l5), some (.inl l6), some (.inl l7), some (.inl l8), some (.inl l9), some (.inl x28), some (.inl l11), some (.inl (0 : Int32)), some (.inl l13), some (.inl x26), some (.inl v29)]) iX7_said_272 (Nat.le_of_ble_eq_true rfl) rfl ?_
              refine aw_iload iX7_said_274 rfl ?_
              refine aw_iconst (v := 1) iX7_said_276 (by decide) ?_
              refine aw_iload iX7_said_277 rfl ?_
              refine aw_ishl iX7_said_279 ?_
              refine aw_ior iX7_said_280 ?_
              refine aw_lt (fun x36 => ?_)
              refine aw_istore (L' := [some (.inr 61), some (.inl l1), some (.inl l2), some (.inl l3), some (.inl l4), some (.inl l5), some (.inl l6), some (.inl l7), some (.inl l8), some (.inl l9), some (.inl x28), some (.inl x36), some (.inl (0 : Int32)), some (.inl l13), some (.inl x26), some (.inl v29)]) iX7_said_281 (Nat.le_of_ble_eq_true rfl) rfl ?_
              refine aw_iinc (L' := [some (.inr 61), some (.inl l1), some (.inl l2), some (.inl l3), some (.inl l4), some (.inl l5), some (.inl l6), some (.inl l7), some (.inl l8), some (.inl l9), some (.inl x28), some (.inl x36), some (.inl (0 : Int32)), some (.inl (l13 + (1 : Int32))), some (.inl x26), some (.inl v29)]) (v := l13 + (1 : Int32)) iX7_said_283 rfl rfl (Nat.le_of_ble_eq_true rfl) rfl ?_
              refine aw_goto iX7_said_286 ?_
              refine aw_msk [true, true, true, true, true, true, true, true, true, true, true, true, true, true, false, false] rfl ?_
              exact ih x28 x36 (0 : Int32) (l13 + (1 : Int32)) g34
          · refine aw_iload iX7_said_262 rfl ?_
            refine aw_icmp_ne iX7_said_264 ?_ ?_
            · refine aw_iconst (v := 1) iX7_said_267 (by decide) ?_
              refine aw_goto iX7_said_268 ?_
              refine aw_istore (L' := [some (.inr 61), some (.inl l1), some (.inl l2), some (.inl l3), some (.inl l4), some (.inl l5), some (.inl l6), some (.inl l7), some (.inl l8), some (.inl l9), some (.inl x28), some (.inl l11), some (.inl (1 : Int32)), some (.inl l13), some (.inl x26), some (.inl v29)]) iX7_said_272 (Nat.le_of_ble_eq_true rfl) rfl ?_
              refine aw_iload iX7_said_274 rfl ?_
              refine aw_iconst (v := 1) iX7_said_276 (by decide) ?_
              refine aw_iload iX7_said_277 rfl ?_
              refine aw_ishl iX7_said_279 ?_
              refine aw_ior iX7_said_280 ?_
              refine aw_lt (fun x37 => ?_)
              refine aw_istore (L' := [some (.inr 61), some (.inl l1), some (.inl l2), some (.inl l3), some (.inl l4), some (.inl l5), some (.inl l6), some (.inl l7), some (.inl l8), some (.inl l9), some (.inl x28), some (.inl x37), some (.inl (1 : Int32)), some (.inl l13), some (.inl x26), some (.inl v29)]) iX7_said_281 (Nat.le_of_ble_eq_true rfl) rfl ?_
              refine aw_iinc (L' := [some (.inr 61), some (.inl l1), some (.inl l2), some (.inl l3), some (.inl l4), some (.inl l5), some (.inl l6), some (.inl l7), some (.inl l8), some (.inl l9), some (.inl x28), some (.inl x37), some (.inl (1 : Int32)), some (.inl (l13 + (1 : Int32))), some (.inl x26), some (.inl v29)]) (v := l13 + (1 : Int32)) iX7_said_283 rfl rfl (Nat.le_of_ble_eq_true rfl) rfl ?_
              refine aw_goto iX7_said_286 ?_
              refine aw_msk [true, true, true, true, true, true, true, true, true, true, true, true, true, true, false, false] rfl ?_
              exact ih x28 x37 (1 : Int32) (l13 + (1 : Int32)) g34
            · refine aw_iconst (v := 0) iX7_said_271 (by decide) ?_
              refine aw_istore (L' := [some (.inr 61), some (.inl l1), some (.inl l2), some (.inl l3), some (.inl l4), some (.inl l5), some (.inl l6), some (.inl l7), some (.inl l8), some (.inl l9), some (.inl x28), some (.inl l11), some (.inl (0 : Int32)), some (.inl l13), some (.inl x26), some (.inl v29)]) iX7_said_272 (Nat.le_of_ble_eq_true rfl) rfl ?_
              refine aw_iload iX7_said_274 rfl ?_
              refine aw_iconst (v := 1) iX7_said_276 (by decide) ?_
              refine aw_iload iX7_said_277 rfl ?_
              refine aw_ishl iX7_said_279 ?_
              refine aw_ior iX7_said_280 ?_
              refine aw_lt (fun x38 => ?_)
              refine aw_istore (L' := [some (.inr 61), some (.inl l1), some (.inl l2), some (.inl l3), some (.inl l4), some (.inl l5), some (.inl l6), some (.inl l7), some (.inl l8), some (.inl l9), some (.inl x28), some (.inl x38), some (.inl (0 : Int32)), some (.inl l13), some (.inl x26), some (.inl v29)]) iX7_said_281 (Nat.le_of_ble_eq_true rfl) rfl ?_
              refine aw_iinc (L' := [some (.inr 61), some (.inl l1), some (.inl l2), some (.inl l3), some (.inl l4), some (.inl l5), some (.inl l6), some (.inl l7), some (.inl l8), some (.inl l9), some (.inl x28), some (.inl x38), some (.inl (0 : Int32)), some (.inl (l13 + (1 : Int32))), some (.inl x26), some (.inl v29)]) (v := l13 + (1 : Int32)) iX7_said_283 rfl rfl (Nat.le_of_ble_eq_true rfl) rfl ?_
              refine aw_goto iX7_said_286 ?_
              refine aw_msk [true, true, true, true, true, true, true, true, true, true, true, true, true, true, false, false] rfl ?_
              exact ih x28 x38 (0 : Int32) (l13 + (1 : Int32)) g34
        · refine aw_iconst (v := 0) iX7_said_271 (by decide) ?_
          refine aw_istore (L' := [some (.inr 61), some (.inl l1), some (.inl l2), some (.inl l3), some (.inl l4), some (.inl l5), some (.inl l6), some (.inl l7), some (.inl l8), some (.inl l9), some (.inl x28), some (.inl l11), some (.inl (0 : Int32)), some (.inl l13), some (.inl x26), some (.inl v29)]) iX7_said_272 (Nat.le_of_ble_eq_true rfl) rfl ?_
          refine aw_iload iX7_said_274 rfl ?_
          refine aw_iconst (v := 1) iX7_said_276 (by decide) ?_
          refine aw_iload iX7_said_277 rfl ?_
          refine aw_ishl iX7_said_279 ?_
          refine aw_ior iX7_said_280 ?_
          refine aw_lt (fun x39 => ?_)
          refine aw_istore (L' := [some (.inr 61), some (.inl l1), some (.inl l2), some (.inl l3), some (.inl l4), some (.inl l5), some (.inl l6), some (.inl l7), some (.inl l8), some (.inl l9), some (.inl x28), some (.inl x39), some (.inl (0 : Int32)), some (.inl l13), some (.inl x26), some (.inl v29)]) iX7_said_281 (Nat.le_of_ble_eq_true rfl) rfl ?_
          refine aw_iinc (L' := [some (.inr 61), some (.inl l1), some (.inl l2), some (.inl l3), some (.inl l4), some (.inl l5), some (.inl l6), some (.inl l7), some (.inl l8), some (.inl l9), some (.inl x28), some (.inl x39), some (.inl (0 : Int32)), some (.inl (l13 + (1 : Int32))), some (.inl x26), some (.inl v29)]) (v := l13 + (1 : Int32)) iX7_said_283 rfl rfl (Nat.le_of_ble_eq_true rfl) rfl ?_
          refine aw_goto iX7_said_286 ?_
          refine aw_msk [true, true, true, true, true, true, true, true, true, true, true, true, true, true, false, false] rfl ?_
          exact ih x28 x39 (0 : Int32) (l13 + (1 : Int32)) g32
set_option maxRecDepth 20000 in
set_option maxHeartbeats 4000000 in
theorem wX7_said_L164 (l1 : Int32) (l2 : Int32) (l3 : Int32) (l4 : Int32) (l5 : Int32) (l6 : Int32) (K : Int32 → Int32 → Int32 → Mem → Option (Int32 × Mem)) (hK : ∀ (l7 l8 l9 : Int32) (g : Mem), aw mX7_said none 320 [some (.inr 61), some (.inl l1), some (.inl l2), some (.inl l3), some (.inl l4), some (.inl l5), some (.inl l6), some (.inl l7), some (.inl l8), some (.inl l9), none, none, none, none, none, none] [] g (K l7 l8 l9 g)) : ∀ (n : Nat) (l7 l8 l9 : Int32) (g : Mem), aw mX7_said none 164 [some (.inr 61), some (.inl l1), some (.inl l2), some (.inl l3), some (.inl l4), some (.inl l5), some (.inl l6), some (.inl l7), some (.inl l8), some (.inl l9), none, none, none, none, none, none] [] g (fX7_said_L164 l1 l2 l3 l4 l5 l6 K n l7 l8 l9 g) := by
  intro n
  induction n with
  | zero => intro l7 l8 l9 g; exact aw_none
  | succ n ih =>
    intro l7 l8 l9 g
    rw [fX7_said_L164]
    refine aw_iload iX7_said_164 rfl ?_
    refine aw_iload iX7_said_166 rfl ?_
    refine aw_icmp_ge iX7_said_168 ?_ ?_
    · exact hK l7 l8 l9 g
    · refine aw_iload iX7_said_171 rfl ?_
      refine aw_istore (L' := [some (.inr 61), some (.inl l1), some (.inl l2), some (.inl l3), some (.inl l4), some (.inl l5), some (.inl l6), some (.inl l7), some (.inl l8), some (.inl l9), some (.inl l9), none, none, none, none, none]) iX7_said_173 (Nat.le_of_ble_eq_true rfl) rfl ?_
      refine aw_iconst (v := 0) iX7_said_175 (by decide) ?_
      refine aw_istore (L' := [some (.inr 61), some (.inl l1), some (.inl l2), some (.inl l3), some (.inl l4), some (.inl l5), some (.inl l6), some (.inl l7), some (.inl l8), some (.inl l9), some (.inl l9), some (.inl (0 : Int32)), none, none, none, none]) iX7_said_176 (Nat.le_of_ble_eq_true rfl) rfl ?_
      refine aw_iconst (v := 1) iX7_said_178 (by decide) ?_
      refine aw_istore (L' := [some (.inr 61), some (.inl l1), some (.inl l2), some (.inl l3), some (.inl l4), some (.inl l5), some (.inl l6), some (.inl l7), some (.inl l8), some (.inl l9), some (.inl l9), some (.inl (0 : Int32)), some (.inl (1 : Int32)), none, none, none]) iX7_said_179 (Nat.le_of_ble_eq_true rfl) rfl ?_
      refine aw_iconst (v := 0) iX7_said_181 (by decide) ?_
      refine aw_istore (L' := [some (.inr 61), some (.inl l1), some (.inl l2), some (.inl l3), some (.inl l4), some (.inl l5), some (.inl l6), some (.inl l7), some (.inl l8), some (.inl l9), some (.inl l9), some (.inl (0 : Int32)), some (.inl (1 : Int32)), some (.inl (0 : Int32)), none, none]) iX7_said_182 (Nat.le_of_ble_eq_true rfl) rfl ?_
      refine wX7_said_L184 l1 l2 l3 l4 l5 l6 l7 l8 l9 _ (fun l40 l41 l42 l43 g44 => ?_) FU l9 (0 : Int32) (1 : Int32) (0 : Int32) g
      refine aw_iload iX7_said_289 rfl ?_
      refine aw_if_eq iX7_said_291 ?_ ?_
      · refine aw_iinc (L' := [some (.inr 61), some (.inl l1), some (.inl l2), some (.inl l3), some (.inl l4), some (.inl l5), some (.inl l6), some (.inl l7), some (.inl l8), some (.inl (l9 + (1 : Int32))), some (.inl l40), some (.inl l41), some (.inl l42), some (.inl l43), none, none]) (v := l9 + (1 : Int32)) iX7_said_314 rfl rfl (Nat.le_of_ble_eq_true rfl) rfl ?_
        refine aw_goto iX7_said_317 ?_
        refine aw_msk [true, true, true, true, true, true, true, true, true, true, false, false, false, false, false, false] rfl ?_
        exact ih l7 l8 (l9 + (1 : Int32)) g44
      · refine aw_iload iX7_said_294 rfl ?_
        refine aw_if_ne iX7_said_296 ?_ ?_
        · refine aw_iload iX7_said_299 rfl ?_
          refine aw_goto iX7_said_301 ?_
          refine aw_istore (L' := [some (.inr 61), some (.inl l1), some (.inl l2), some (.inl l3), some (.inl l4), some (.inl l5), some (.inl l6), some (.inl l7), some (.inl l41), some (.inl l9), some (.inl l40), some (.inl l41), some (.inl l42), some (.inl l43), none, none]) iX7_said_309 (Nat.le_of_ble_eq_true rfl) rfl ?_
          refine aw_iinc (L' := [some (.inr 61), some (.inl l1), some (.inl l2), some (.inl l3), some (.inl l4), some (.inl l5), some (.inl l6), some (.inl (l7 + (1 : Int32))), some (.inl l41), some (.inl l9), some (.inl l40), some (.inl l41), some (.inl l42), some (.inl l43), none, none]) (v := l7 + (1 : Int32)) iX7_said_311 rfl rfl (Nat.le_of_ble_eq_true rfl) rfl ?_
          refine aw_iinc (L' := [some (.inr 61), some (.inl l1), some (.inl l2), some (.inl l3), some (.inl l4), some (.inl l5), some (.inl l6), some (.inl (l7 + (1 : Int32))), some (.inl l41), some (.inl (l9 + (1 : Int32))), some (.inl l40), some (.inl l41), some (.inl l42), some (.inl l43), none, none]) (v := l9 + (1 : Int32)) iX7_said_314 rfl rfl (Nat.le_of_ble_eq_true rfl) rfl ?_
          refine aw_goto iX7_said_317 ?_
          refine aw_msk [true, true, true, true, true, true, true, true, true, true, false, false, false, false, false, false] rfl ?_
          exact ih (l7 + (1 : Int32)) l41 (l9 + (1 : Int32)) g44
        · refine aw_iload iX7_said_304 rfl ?_
          refine aw_iload iX7_said_306 rfl ?_
          refine aw_iand iX7_said_308 ?_
          refine aw_lt (fun x45 => ?_)
          refine aw_istore (L' := [some (.inr 61), some (.inl l1), some (.inl l2), some (.inl l3), some (.inl l4), some (.inl l5), some (.inl l6), some (.inl l7), some (.inl x45), some (.inl l9), some (.inl l40), some (.inl l41), some (.inl l42), some (.inl l43), none, none]) iX7_said_309 (Nat.le_of_ble_eq_true rfl) rfl ?_
          refine aw_iinc (L' := [some (.inr 61), some (.inl l1), some (.inl l2), some (.inl l3), some (.inl l4), some (.inl l5), some (.inl l6), some (.inl (l7 + (1 : Int32))), some (.inl x45), some (.inl l9), some (.inl l40), some (.inl l41), some (.inl l42), some (.inl l43), none, none]) (v := l7 + (1 : Int32)) iX7_said_311 rfl rfl (Nat.le_of_ble_eq_true rfl) rfl ?_
          refine aw_iinc (L' := [some (.inr 61), some (.inl l1), some (.inl l2), some (.inl l3), some (.inl l4), some (.inl l5), some (.inl l6), some (.inl (l7 + (1 : Int32))), some (.inl x45), some (.inl (l9 + (1 : Int32))), some (.inl l40), some (.inl l41), some (.inl l42), some (.inl l43), none, none]) (v := l9 + (1 : Int32)) iX7_said_314 rfl rfl (Nat.le_of_ble_eq_true rfl) rfl ?_
          refine aw_goto iX7_said_317 ?_
          refine aw_msk [true, true, true, true, true, true, true, true, true, true, false, false, false, false, false, false] rfl ?_
          exact ih (l7 + (1 : Int32)) x45 (l9 + (1 : Int32)) g44
set_option maxRecDepth 20000 in
set_option maxHeartbeats 4000000 in
theorem wX7_said (a0 : Int32) (a1 : Int32) (a2 : Int32) (a3 : Int32) (a4 : Int32) (g : Mem) : aw mX7_said none 0 [some (.inr 61), some (.inl a0), some (.inl a1), some (.inl a2), some (.inl a3), some (.inl a4), none, none, none, none, none, none, none, none, none, none] [] g (fX7_said a0 a1 a2 a3 a4 g) := by
  unfold fX7_said
  refine aw_aload_n iX7_said_0 rfl rfl ?_
  refine aw_iload_n iX7_said_1 rfl rfl ?_
  refine aw_callV (M' := mX7_isSuitorAt) (As := [.inl a0]) iX7_said_2 lkX7_155 mcX7_isSuitorAt mvX7_isSuitorAt rfl zrc61 (kX7_isSuitorAt a0 g) rfl (Nat.le_of_ble_eq_true rfl) ⟨Nat.le_of_ble_eq_true rfl, Nat.le_of_ble_eq_true rfl⟩ (fun r1 g2 => ?_)
  refine aw_if_eq iX7_said_5 ?_ ?_
  · refine aw_ldc (v := (-1000001)) iX7_said_36 kcX7_57 ?_
    exact aw_iret iX7_said_38 rfl
  · refine aw_iload_n iX7_said_8 rfl rfl ?_
    refine aw_callS (M' := mX7_isRow) (As := [.inl a1]) iX7_said_9 lkX7_53 mcX7_isRow msX7_isRow rfl (kX7_isRow a1 g2) rfl (Nat.le_of_ble_eq_true rfl) ⟨Nat.le_of_ble_eq_true rfl, Nat.le_of_ble_eq_true rfl⟩ (fun r3 g4 => ?_)
    refine aw_if_eq iX7_said_12 ?_ ?_
    · refine aw_ldc (v := (-1000001)) iX7_said_36 kcX7_57 ?_
      exact aw_iret iX7_said_38 rfl
    · refine aw_iload iX7_said_15 rfl ?_
      refine aw_iconst (v := 1) iX7_said_17 (by decide) ?_
      refine aw_bipush (v := 6) iX7_said_18 (by decide) ?_
      refine aw_callS (M' := mX7_in) (As := [.inl a3, .inl (1 : Int32), .inl (6 : Int32)]) iX7_said_20 lkX7_49 mcX7_in msX7_in rfl (kX7_in a3 (1 : Int32) (6 : Int32) g4) rfl (Nat.le_of_ble_eq_true rfl) ⟨Nat.le_of_ble_eq_true rfl, Nat.le_of_ble_eq_true rfl⟩ (fun r5 g6 => ?_)
      refine aw_if_eq iX7_said_23 ?_ ?_
      · refine aw_ldc (v := (-1000001)) iX7_said_36 kcX7_57 ?_
        exact aw_iret iX7_said_38 rfl
      · refine aw_iload iX7_said_26 rfl ?_
        refine aw_iconst (v := 0) iX7_said_28 (by decide) ?_
        refine aw_iconst (v := 1) iX7_said_29 (by decide) ?_
        refine aw_callS (M' := mX7_in) (As := [.inl a4, .inl (0 : Int32), .inl (1 : Int32)]) iX7_said_30 lkX7_49 mcX7_in msX7_in rfl (kX7_in a4 (0 : Int32) (1 : Int32) g6) rfl (Nat.le_of_ble_eq_true rfl) ⟨Nat.le_of_ble_eq_true rfl, Nat.le_of_ble_eq_true rfl⟩ (fun r7 g8 => ?_)
        refine aw_if_ne iX7_said_33 ?_ ?_
        · refine aw_ldc (v := (-1000001)) iX7_said_36 kcX7_57 ?_
          exact aw_iret iX7_said_38 rfl
        · refine aw_aload_n iX7_said_39 rfl rfl ?_
          refine aw_getR (own := "") iX7_said_40 flX7_7 zlt61 zsh61 rfl ?_
          refine aw_iload_n iX7_said_43 rfl rfl ?_
          refine aw_iald iX7_said_44 zlt62 zsh62 (fun v9 _ => ?_)
          refine aw_if_ge iX7_said_45 ?_ ?_
          · refine aw_iload_n iX7_said_54 rfl rfl ?_
            refine aw_iload iX7_said_55 rfl ?_
            refine aw_aload_n iX7_said_57 rfl rfl ?_
            refine aw_getR (own := "") iX7_said_58 flX7_13 zlt61 zsh61 rfl ?_
            refine aw_iload_n iX7_said_61 rfl rfl ?_
            refine aw_iald iX7_said_62 zlt63 zsh63 (fun v10 _ => ?_)
            refine aw_callS (M' := mX7_isPart) (As := [.inl a2, .inl a3, .inl v10]) iX7_said_63 lkX7_65 mcX7_isPart msX7_isPart rfl (kX7_isPart a2 a3 v10 g8) rfl (Nat.le_of_ble_eq_true rfl) ⟨Nat.le_of_ble_eq_true rfl, Nat.le_of_ble_eq_true rfl⟩ (fun r11 g12 => ?_)
            refine aw_if_ne iX7_said_66 ?_ ?_
            · refine aw_aload_n iX7_said_69 rfl rfl ?_
              refine aw_iconst (v := 2) iX7_said_70 (by decide) ?_
              refine aw_callV (M' := mX7_finds) (As := [.inl (2 : Int32)]) iX7_said_71 lkX7_58 mcX7_finds mvX7_finds rfl zrc61 (kX7_finds (2 : Int32) g12) rfl (Nat.le_of_ble_eq_true rfl) ⟨Nat.le_of_ble_eq_true rfl, Nat.le_of_ble_eq_true rfl⟩ (fun r13 g14 => ?_)
              exact aw_iret iX7_said_74 rfl
            · refine aw_iconst (v := 0) iX7_said_75 (by decide) ?_
              refine aw_istore (L' := [some (.inr 61), some (.inl a0), some (.inl a1), some (.inl a2), some (.inl a3), some (.inl a4), some (.inl (0 : Int32)), none, none, none, none, none, none, none, none, none]) iX7_said_76 (Nat.le_of_ble_eq_true rfl) rfl ?_
              refine wX7_said_L78 a0 a1 a2 a3 a4 _ (fun l18 g19 => ?_) FU (0 : Int32) g12
              refine aw_iconst (v := 1) iX7_said_125 (by decide) ?_
              refine aw_istore (L' := [some (.inr 61), some (.inl a0), some (.inl a1), some (.inl a2), some (.inl a3), some (.inl a4), some (.inl (1 : Int32)), none, none, none, none, none, none, none, none, none]) iX7_said_126 (Nat.le_of_ble_eq_true rfl) rfl ?_
              refine aw_iconst (v := 0) iX7_said_128 (by decide) ?_
              refine aw_istore (L' := [some (.inr 61), some (.inl a0), some (.inl a1), some (.inl a2), some (.inl a3), some (.inl a4), some (.inl (1 : Int32)), some (.inl (0 : Int32)), none, none, none, none, none, none, none, none]) iX7_said_129 (Nat.le_of_ble_eq_true rfl) rfl ?_
              refine wX7_said_L131 a0 a1 a2 a3 a4 _ (fun l22 l23 g24 => ?_) FU (1 : Int32) (0 : Int32) g19
              refine aw_iconst (v := 0) iX7_said_155 (by decide) ?_
              refine aw_istore (L' := [some (.inr 61), some (.inl a0), some (.inl a1), some (.inl a2), some (.inl a3), some (.inl a4), some (.inl l22), some (.inl (0 : Int32)), none, none, none, none, none, none, none, none]) iX7_said_156 (Nat.le_of_ble_eq_true rfl) rfl ?_
              refine aw_iconst (v := 0) iX7_said_158 (by decide) ?_
              refine aw_istore (L' := [some (.inr 61), some (.inl a0), some (.inl a1), some (.inl a2), some (.inl a3), some (.inl a4), some (.inl l22), some (.inl (0 : Int32)), some (.inl (0 : Int32)), none, none, none, none, none, none, none]) iX7_said_159 (Nat.le_of_ble_eq_true rfl) rfl ?_
              refine aw_iconst (v := 0) iX7_said_161 (by decide) ?_
              refine aw_istore (L' := [some (.inr 61), some (.inl a0), some (.inl a1), some (.inl a2), some (.inl a3), some (.inl a4), some (.inl l22), some (.inl (0 : Int32)), some (.inl (0 : Int32)), some (.inl (0 : Int32)), none, none, none, none, none, none]) iX7_said_162 (Nat.le_of_ble_eq_true rfl) rfl ?_
              refine wX7_said_L164 a0 a1 a2 a3 a4 l22 _ (fun l46 l47 l48 g49 => ?_) FU (0 : Int32) (0 : Int32) (0 : Int32) g24
              refine aw_aload_n iX7_said_320 rfl rfl ?_
              refine aw_iload iX7_said_321 rfl ?_
              refine aw_if_ne iX7_said_323 ?_ ?_
              · refine aw_iload iX7_said_326 rfl ?_
                refine aw_goto iX7_said_328 ?_
                refine aw_callV (M' := mX7_done) (As := [.inl l46]) iX7_said_333 lkX7_62 mcX7_done mvX7_done rfl zrc61 (kX7_done l46 g49) rfl (Nat.le_of_ble_eq_true rfl) ⟨Nat.le_of_ble_eq_true rfl, Nat.le_of_ble_eq_true rfl⟩ (fun r50 g51 => ?_)
                exact aw_iret iX7_said_336 rfl
              · refine aw_iload iX7_said_331 rfl ?_
                refine aw_callV (M' := mX7_done) (As := [.inl l47]) iX7_said_333 lkX7_62 mcX7_done mvX7_done rfl zrc61 (kX7_done l47 g49) rfl (Nat.le_of_ble_eq_true rfl) ⟨Nat.le_of_ble_eq_true rfl, Nat.le_of_ble_eq_true rfl⟩ (fun r52 g53 => ?_)
                exact aw_iret iX7_said_336 rfl
          · refine aw_aload_n iX7_said_48 rfl rfl ?_
            refine aw_iconst (v := 1) iX7_said_49 (by decide) ?_
            refine aw_callV (M' := mX7_finds) (As := [.inl (1 : Int32)]) iX7_said_50 lkX7_58 mcX7_finds mvX7_finds rfl zrc61 (kX7_finds (1 : Int32) g8) rfl (Nat.le_of_ble_eq_true rfl) ⟨Nat.le_of_ble_eq_true rfl, Nat.le_of_ble_eq_true rfl⟩ (fun r54 g55 => ?_)
            exact aw_iret iX7_said_53 rfl
set_option maxRecDepth 20000 in
set_option maxHeartbeats 4000000 in
theorem kX7_said (a0 : Int32) (a1 : Int32) (a2 : Int32) (a3 : Int32) (a4 : Int32) (g : Mem) : CT mX7_said [.inr 61, .inl a0, .inl a1, .inl a2, .inl a3, .inl a4] g (fX7_said a0 a1 a2 a3 a4 g) := CT.of (nr := 10) (by decide +kernel) (Nat.le_of_ble_eq_true rfl) (Or.inr (Or.inl rfl)) (wX7_said a0 a1 a2 a3 a4 g)
set_option maxRecDepth 20000 in
set_option maxHeartbeats 4000000 in
theorem wX7_image (a0 : Int32) (g : Mem) : aw mX7_image none 0 [some (.inr 61), some (.inl a0)] [] g (fX7_image a0 g) := by
  unfold fX7_image
  refine aw_iload_n iX7_image_0 rfl rfl ?_
  refine aw_iconst (v := 0) iX7_image_1 (by decide) ?_
  refine aw_iconst (v := 1) iX7_image_2 (by decide) ?_
  refine aw_callS (M' := mX7_in) (As := [.inl a0, .inl (0 : Int32), .inl (1 : Int32)]) iX7_image_3 lkX7_49 mcX7_in msX7_in rfl (kX7_in a0 (0 : Int32) (1 : Int32) g) rfl (Nat.le_of_ble_eq_true rfl) ⟨Nat.le_of_ble_eq_true rfl, Nat.le_of_ble_eq_true rfl⟩ (fun r1 g2 => ?_)
  refine aw_if_ne iX7_image_6 ?_ ?_
  · refine aw_ldc (v := (-1000001)) iX7_image_9 kcX7_57 ?_
    exact aw_iret iX7_image_11 rfl
  · refine aw_aload_n iX7_image_12 rfl rfl ?_
    refine aw_callV (M' := mX7_isCourt) (As := []) iX7_image_13 lkX7_187 mcX7_isCourt mvX7_isCourt rfl zrc61 (kX7_isCourt g2) rfl (Nat.le_of_ble_eq_true rfl) ⟨Nat.le_of_ble_eq_true rfl, Nat.le_of_ble_eq_true rfl⟩ (fun r3 g4 => ?_)
    refine aw_if_ne iX7_image_16 ?_ ?_
    · refine aw_ldc (v := (-1000002)) iX7_image_19 kcX7_167 ?_
      exact aw_iret iX7_image_21 rfl
    · refine aw_aload_n iX7_image_22 rfl rfl ?_
      refine aw_getR (own := "") iX7_image_23 flX7_22 zlt61 zsh61 rfl ?_
      refine aw_iconst (v := 0) iX7_image_26 (by decide) ?_
      refine aw_aload_n iX7_image_27 rfl rfl ?_
      refine aw_getR (own := "") iX7_image_28 flX7_28 zlt61 zsh61 rfl ?_
      refine aw_bipush (v := 50) iX7_image_31 (by decide) ?_
      refine aw_iload_n iX7_image_33 rfl rfl ?_
      refine aw_imul iX7_image_34 ?_
      refine aw_callSv (M' := mX7_lay) (As := [.inr 66, .inl (0 : Int32), .inr 68, .inl ((50 : Int32) * a0)]) iX7_image_35 lkX7_122 mcX7_lay msX7_lay rfl (kX7_lay 66 50 zlt66 zsh66 (0 : Int32) 68 100 zlt68 zsh68 ((50 : Int32) * a0) g4) rfl (Nat.le_of_ble_eq_true rfl) ⟨Nat.le_of_ble_eq_true rfl, Nat.le_of_ble_eq_true rfl⟩ (fun r5 g6 => ?_)
      refine aw_aload_n iX7_image_38 rfl rfl ?_
      refine aw_getR (own := "") iX7_image_39 flX7_31 zlt61 zsh61 rfl ?_
      refine aw_iload_n iX7_image_42 rfl rfl ?_
      refine aw_iconst (v := 1) iX7_image_43 (by decide) ?_
      refine aw_zast iX7_image_44 zlt69 zsh69 (by decide) (fun g7 _ => ?_)
      refine aw_iconst (v := 1) iX7_image_45 (by decide) ?_
      exact aw_iret iX7_image_46 rfl
set_option maxRecDepth 20000 in
set_option maxHeartbeats 4000000 in
theorem kX7_image (a0 : Int32) (g : Mem) : CT mX7_image [.inr 61, .inl a0] g (fX7_image a0 g) := CT.of (nr := 0) (by decide +kernel) (Nat.le_of_ble_eq_true rfl) (Or.inr (Or.inl rfl)) (wX7_image a0 g)
set_option maxRecDepth 20000 in
set_option maxHeartbeats 4000000 in
theorem wX7_restore (a0 : Int32) (g : Mem) : aw mX7_restore none 0 [some (.inr 61), some (.inl a0)] [] g (fX7_restore a0 g) := by
  unfold fX7_restore
  refine aw_iload_n iX7_restore_0 rfl rfl ?_
  refine aw_iconst (v := 0) iX7_restore_1 (by decide) ?_
  refine aw_iconst (v := 1) iX7_restore_2 (by decide) ?_
  refine aw_callS (M' := mX7_in) (As := [.inl a0, .inl (0 : Int32), .inl (1 : Int32)]) iX7_restore_3 lkX7_49 mcX7_in msX7_in rfl (kX7_in a0 (0 : Int32) (1 : Int32) g) rfl (Nat.le_of_ble_eq_true rfl) ⟨Nat.le_of_ble_eq_true rfl, Nat.le_of_ble_eq_true rfl⟩ (fun r1 g2 => ?_)
  refine aw_if_ne iX7_restore_6 ?_ ?_
  · refine aw_ldc (v := (-1000001)) iX7_restore_9 kcX7_57 ?_
    exact aw_iret iX7_restore_11 rfl
  · refine aw_aload_n iX7_restore_12 rfl rfl ?_
    refine aw_getR (own := "") iX7_restore_13 flX7_31 zlt61 zsh61 rfl ?_
    refine aw_iload_n iX7_restore_16 rfl rfl ?_
    refine aw_zald iX7_restore_17 zlt69 zsh69 (fun v3 _ => ?_)
    refine aw_if_ne iX7_restore_18 ?_ ?_
    · refine aw_ldc (v := (-1000002)) iX7_restore_21 kcX7_167 ?_
      exact aw_iret iX7_restore_23 rfl
    · refine aw_aload_n iX7_restore_24 rfl rfl ?_
      refine aw_getR (own := "") iX7_restore_25 flX7_28 zlt61 zsh61 rfl ?_
      refine aw_bipush (v := 50) iX7_restore_28 (by decide) ?_
      refine aw_iload_n iX7_restore_30 rfl rfl ?_
      refine aw_imul iX7_restore_31 ?_
      refine aw_aload_n iX7_restore_32 rfl rfl ?_
      refine aw_getR (own := "") iX7_restore_33 flX7_22 zlt61 zsh61 rfl ?_
      refine aw_iconst (v := 0) iX7_restore_36 (by decide) ?_
      refine aw_callSv (M' := mX7_lay) (As := [.inr 68, .inl ((50 : Int32) * a0), .inr 66, .inl (0 : Int32)]) iX7_restore_37 lkX7_122 mcX7_lay msX7_lay rfl (kX7_lay 68 100 zlt68 zsh68 ((50 : Int32) * a0) 66 50 zlt66 zsh66 (0 : Int32) g2) rfl (Nat.le_of_ble_eq_true rfl) ⟨Nat.le_of_ble_eq_true rfl, Nat.le_of_ble_eq_true rfl⟩ (fun r4 g5 => ?_)
      refine aw_aload_n iX7_restore_40 rfl rfl ?_
      refine aw_iconst (v := 0) iX7_restore_41 (by decide) ?_
      refine aw_putI iX7_restore_42 fpX7_130 zlt61 zsh61 rfl (fun g6 _ => ?_)
      refine aw_iconst (v := 1) iX7_restore_45 (by decide) ?_
      exact aw_iret iX7_restore_46 rfl
set_option maxRecDepth 20000 in
set_option maxHeartbeats 4000000 in
theorem kX7_restore (a0 : Int32) (g : Mem) : CT mX7_restore [.inr 61, .inl a0] g (fX7_restore a0 g) := CT.of (nr := 0) (by decide +kernel) (Nat.le_of_ble_eq_true rfl) (Or.inr (Or.inl rfl)) (wX7_restore a0 g)
set_option maxRecDepth 20000 in
set_option maxHeartbeats 4000000 in
theorem wX7_kindAt (a0 : Int32) (g : Mem) : aw mX7_kindAt none 0 [some (.inr 61), some (.inl a0)] [] g (fX7_kindAt a0 g) := by
  unfold fX7_kindAt
  refine aw_aload_n iX7_kindAt_0 rfl rfl ?_
  refine aw_getR (own := "") iX7_kindAt_1 flX7_22 zlt61 zsh61 rfl ?_
  refine aw_bipush (v := 16) iX7_kindAt_4 (by decide) ?_
  refine aw_iload_n iX7_kindAt_6 rfl rfl ?_
  refine aw_iadd iX7_kindAt_7 ?_
  refine aw_iald iX7_kindAt_8 zlt66 zsh66 (fun v1 _ => ?_)
  exact aw_iret iX7_kindAt_9 rfl
set_option maxRecDepth 20000 in
set_option maxHeartbeats 4000000 in
theorem kX7_kindAt (a0 : Int32) (g : Mem) : CT mX7_kindAt [.inr 61, .inl a0] g (fX7_kindAt a0 g) := CT.of (nr := 0) (by decide +kernel) (Nat.le_of_ble_eq_true rfl) (Or.inr (Or.inl rfl)) (wX7_kindAt a0 g)
set_option maxRecDepth 20000 in
set_option maxHeartbeats 4000000 in
theorem wX7_kind (a0 : Int32) (g : Mem) : aw mX7_kind none 0 [some (.inr 61), some (.inl a0)] [] g (fX7_kind a0 g) := by
  unfold fX7_kind
  refine aw_aload_n iX7_kind_0 rfl rfl ?_
  refine aw_iload_n iX7_kind_1 rfl rfl ?_
  refine aw_callV (M' := mX7_isRiddleAt) (As := [.inl a0]) iX7_kind_2 lkX7_158 mcX7_isRiddleAt mvX7_isRiddleAt rfl zrc61 (kX7_isRiddleAt a0 g) rfl (Nat.le_of_ble_eq_true rfl) ⟨Nat.le_of_ble_eq_true rfl, Nat.le_of_ble_eq_true rfl⟩ (fun r1 g2 => ?_)
  refine aw_if_eq iX7_kind_5 ?_ ?_
  · refine aw_ldc (v := (-1000001)) iX7_kind_16 kcX7_57 ?_
    exact aw_iret iX7_kind_18 rfl
  · refine aw_aload_n iX7_kind_8 rfl rfl ?_
    refine aw_iload_n iX7_kind_9 rfl rfl ?_
    refine aw_callV (M' := mX7_kindAt) (As := [.inl a0]) iX7_kind_10 lkX7_199 mcX7_kindAt mvX7_kindAt rfl zrc61 (kX7_kindAt a0 g2) rfl (Nat.le_of_ble_eq_true rfl) ⟨Nat.le_of_ble_eq_true rfl, Nat.le_of_ble_eq_true rfl⟩ (fun r3 g4 => ?_)
    refine aw_goto iX7_kind_13 ?_
    exact aw_iret iX7_kind_18 rfl
set_option maxRecDepth 20000 in
set_option maxHeartbeats 4000000 in
theorem kX7_kind (a0 : Int32) (g : Mem) : CT mX7_kind [.inr 61, .inl a0] g (fX7_kind a0 g) := CT.of (nr := 0) (by decide +kernel) (Nat.le_of_ble_eq_true rfl) (Or.inr (Or.inl rfl)) (wX7_kind a0 g)
set_option maxRecDepth 20000 in
set_option maxHeartbeats 4000000 in
theorem wX7_parentOf (a0 : Int32) (g : Mem) : aw mX7_parentOf none 0 [some (.inl a0)] [] g (fX7_parentOf a0 g) := by
  unfold fX7_parentOf
  refine aw_iload_n iX7_parentOf_0 rfl rfl ?_
  refine aw_iconst (v := 1) iX7_parentOf_1 (by decide) ?_
  refine aw_icmp_eq iX7_parentOf_2 ?_ ?_
  · refine aw_iconst (v := 0) iX7_parentOf_10 (by decide) ?_
    refine aw_goto iX7_parentOf_11 ?_
    exact aw_iret iX7_parentOf_24 rfl
  · refine aw_iload_n iX7_parentOf_5 rfl rfl ?_
    refine aw_iconst (v := 4) iX7_parentOf_6 (by decide) ?_
    refine aw_icmp_ne iX7_parentOf_7 ?_ ?_
    · refine aw_iconst (v := 0) iX7_parentOf_10 (by decide) ?_
      refine aw_goto iX7_parentOf_11 ?_
      exact aw_iret iX7_parentOf_24 rfl
    · refine aw_iload_n iX7_parentOf_14 rfl rfl ?_
      refine aw_iconst (v := 5) iX7_parentOf_15 (by decide) ?_
      refine aw_icmp_ne iX7_parentOf_16 ?_ ?_
      · refine aw_iconst (v := 4) iX7_parentOf_19 (by decide) ?_
        refine aw_goto iX7_parentOf_20 ?_
        exact aw_iret iX7_parentOf_24 rfl
      · refine aw_iconst (v := 1) iX7_parentOf_23 (by decide) ?_
        exact aw_iret iX7_parentOf_24 rfl
set_option maxRecDepth 20000 in
set_option maxHeartbeats 4000000 in
theorem kX7_parentOf (a0 : Int32) (g : Mem) : CT mX7_parentOf [.inl a0] g (fX7_parentOf a0 g) := CT.of (nr := 0) (by decide +kernel) (Nat.le_of_ble_eq_true rfl) (Or.inr (Or.inl rfl)) (wX7_parentOf a0 g)
set_option maxRecDepth 20000 in
set_option maxHeartbeats 4000000 in
theorem wX7_as (a0 : Int32) (a1 : Int32) (g : Mem) : aw mX7_as none 0 [some (.inr 61), some (.inl a0), some (.inl a1), none, none] [] g (fX7_as a0 a1 g) := by
  unfold fX7_as
  refine aw_aload_n iX7_as_0 rfl rfl ?_
  refine aw_iload_n iX7_as_1 rfl rfl ?_
  refine aw_callV (M' := mX7_isRiddleAt) (As := [.inl a0]) iX7_as_2 lkX7_158 mcX7_isRiddleAt mvX7_isRiddleAt rfl zrc61 (kX7_isRiddleAt a0 g) rfl (Nat.le_of_ble_eq_true rfl) ⟨Nat.le_of_ble_eq_true rfl, Nat.le_of_ble_eq_true rfl⟩ (fun r1 g2 => ?_)
  refine aw_if_eq iX7_as_5 ?_ ?_
  · refine aw_ldc (v := (-1000001)) iX7_as_17 kcX7_57 ?_
    exact aw_iret iX7_as_19 rfl
  · refine aw_iload_n iX7_as_8 rfl rfl ?_
    refine aw_iconst (v := 0) iX7_as_9 (by decide) ?_
    refine aw_iconst (v := 5) iX7_as_10 (by decide) ?_
    refine aw_callS (M' := mX7_in) (As := [.inl a1, .inl (0 : Int32), .inl (5 : Int32)]) iX7_as_11 lkX7_49 mcX7_in msX7_in rfl (kX7_in a1 (0 : Int32) (5 : Int32) g2) rfl (Nat.le_of_ble_eq_true rfl) ⟨Nat.le_of_ble_eq_true rfl, Nat.le_of_ble_eq_true rfl⟩ (fun r3 g4 => ?_)
    refine aw_if_ne iX7_as_14 ?_ ?_
    · refine aw_ldc (v := (-1000001)) iX7_as_17 kcX7_57 ?_
      exact aw_iret iX7_as_19 rfl
    · refine aw_aload_n iX7_as_20 rfl rfl ?_
      refine aw_iload_n iX7_as_21 rfl rfl ?_
      refine aw_callV (M' := mX7_kindAt) (As := [.inl a0]) iX7_as_22 lkX7_199 mcX7_kindAt mvX7_kindAt rfl zrc61 (kX7_kindAt a0 g4) rfl (Nat.le_of_ble_eq_true rfl) ⟨Nat.le_of_ble_eq_true rfl, Nat.le_of_ble_eq_true rfl⟩ (fun r5 g6 => ?_)
      refine aw_istore_n (L' := [some (.inr 61), some (.inl a0), some (.inl a1), some (.inl r5), none]) iX7_as_25 rfl (Nat.le_of_ble_eq_true rfl) rfl ?_
      refine aw_iload_n iX7_as_26 rfl rfl ?_
      refine aw_if_eq iX7_as_27 ?_ ?_
      · refine aw_iconst (v := 1) iX7_as_43 (by decide) ?_
        refine aw_goto iX7_as_44 ?_
        refine aw_istore (L' := [some (.inr 61), some (.inl a0), some (.inl a1), some (.inl r5), some (.inl (1 : Int32))]) iX7_as_48 (Nat.le_of_ble_eq_true rfl) rfl ?_
        refine aw_iload iX7_as_50 rfl ?_
        refine aw_if_eq_F iX7_as_52 (by decide) ?_
        refine aw_aload_n iX7_as_55 rfl rfl ?_
        refine aw_iload_n iX7_as_56 rfl rfl ?_
        refine aw_callV (M' := mX7_done) (As := [.inl a0]) iX7_as_57 lkX7_62 mcX7_done mvX7_done rfl zrc61 (kX7_done a0 g6) rfl (Nat.le_of_ble_eq_true rfl) ⟨Nat.le_of_ble_eq_true rfl, Nat.le_of_ble_eq_true rfl⟩ (fun r7 g8 => ?_)
        refine aw_goto iX7_as_60 ?_
        exact aw_iret iX7_as_68 rfl
      · refine aw_iload_n iX7_as_30 rfl rfl ?_
        refine aw_iload_n iX7_as_31 rfl rfl ?_
        refine aw_icmp_eq iX7_as_32 ?_ ?_
        · refine aw_iconst (v := 1) iX7_as_43 (by decide) ?_
          refine aw_goto iX7_as_44 ?_
          refine aw_istore (L' := [some (.inr 61), some (.inl a0), some (.inl a1), some (.inl r5), some (.inl (1 : Int32))]) iX7_as_48 (Nat.le_of_ble_eq_true rfl) rfl ?_
          refine aw_iload iX7_as_50 rfl ?_
          refine aw_if_eq_F iX7_as_52 (by decide) ?_
          refine aw_aload_n iX7_as_55 rfl rfl ?_
          refine aw_iload_n iX7_as_56 rfl rfl ?_
          refine aw_callV (M' := mX7_done) (As := [.inl a0]) iX7_as_57 lkX7_62 mcX7_done mvX7_done rfl zrc61 (kX7_done a0 g6) rfl (Nat.le_of_ble_eq_true rfl) ⟨Nat.le_of_ble_eq_true rfl, Nat.le_of_ble_eq_true rfl⟩ (fun r9 g10 => ?_)
          refine aw_goto iX7_as_60 ?_
          exact aw_iret iX7_as_68 rfl
        · refine aw_iload_n iX7_as_35 rfl rfl ?_
          refine aw_callS (M' := mX7_parentOf) (As := [.inl r5]) iX7_as_36 lkX7_202 mcX7_parentOf msX7_parentOf rfl (kX7_parentOf r5 g6) rfl (Nat.le_of_ble_eq_true rfl) ⟨Nat.le_of_ble_eq_true rfl, Nat.le_of_ble_eq_true rfl⟩ (fun r11 g12 => ?_)
          refine aw_iload_n iX7_as_39 rfl rfl ?_
          refine aw_icmp_ne iX7_as_40 ?_ ?_
          · refine aw_iconst (v := 1) iX7_as_43 (by decide) ?_
            refine aw_goto iX7_as_44 ?_
            refine aw_istore (L' := [some (.inr 61), some (.inl a0), some (.inl a1), some (.inl r5), some (.inl (1 : Int32))]) iX7_as_48 (Nat.le_of_ble_eq_true rfl) rfl ?_
            refine aw_iload iX7_as_50 rfl ?_
            refine aw_if_eq_F iX7_as_52 (by decide) ?_
            refine aw_aload_n iX7_as_55 rfl rfl ?_
            refine aw_iload_n iX7_as_56 rfl rfl ?_
            refine aw_callV (M' := mX7_done) (As := [.inl a0]) iX7_as_57 lkX7_62 mcX7_done mvX7_done rfl zrc61 (kX7_done a0 g12) rfl (Nat.le_of_ble_eq_true rfl) ⟨Nat.le_of_ble_eq_true rfl, Nat.le_of_ble_eq_true rfl⟩ (fun r13 g14 => ?_)
            refine aw_goto iX7_as_60 ?_
            exact aw_iret iX7_as_68 rfl
          · refine aw_iconst (v := 0) iX7_as_47 (by decide) ?_
            refine aw_istore (L' := [some (.inr 61), some (.inl a0), some (.inl a1), some (.inl r5), some (.inl (0 : Int32))]) iX7_as_48 (Nat.le_of_ble_eq_true rfl) rfl ?_
            refine aw_iload iX7_as_50 rfl ?_
            refine aw_if_eq_T iX7_as_52 (by decide) ?_
            refine aw_aload_n iX7_as_63 rfl rfl ?_
            refine aw_iconst (v := 3) iX7_as_64 (by decide) ?_
            refine aw_callV (M' := mX7_finds) (As := [.inl (3 : Int32)]) iX7_as_65 lkX7_58 mcX7_finds mvX7_finds rfl zrc61 (kX7_finds (3 : Int32) g12) rfl (Nat.le_of_ble_eq_true rfl) ⟨Nat.le_of_ble_eq_true rfl, Nat.le_of_ble_eq_true rfl⟩ (fun r15 g16 => ?_)
            exact aw_iret iX7_as_68 rfl
set_option maxRecDepth 20000 in
set_option maxHeartbeats 4000000 in
theorem kX7_as (a0 : Int32) (a1 : Int32) (g : Mem) : CT mX7_as [.inr 61, .inl a0, .inl a1] g (fX7_as a0 a1 g) := CT.of (nr := 2) (by decide +kernel) (Nat.le_of_ble_eq_true rfl) (Or.inr (Or.inl rfl)) (wX7_as a0 a1 g)
set_option maxRecDepth 20000 in
set_option maxHeartbeats 4000000 in
theorem wX7_begins (a0 : Int32) (g : Mem) : aw mX7_begins none 0 [some (.inr 61), some (.inl a0)] [] g (fX7_begins a0 g) := by
  unfold fX7_begins
  refine aw_aload_n iX7_begins_0 rfl rfl ?_
  refine aw_getI (own := "") iX7_begins_1 flX7_205 zlt61 zsh61 rfl ?_
  refine aw_bipush (v := 16) iX7_begins_4 (by decide) ?_
  refine aw_icmp_ge iX7_begins_6 ?_ ?_
  · exact aw_vret iX7_begins_29 rfl
  · refine aw_aload_n iX7_begins_9 rfl rfl ?_
    refine aw_getR (own := "") iX7_begins_10 flX7_38 zlt61 zsh61 rfl ?_
    refine aw_aload_n iX7_begins_13 rfl rfl ?_
    refine aw_getI (own := "") iX7_begins_14 flX7_205 zlt61 zsh61 rfl ?_
    refine aw_iload_n iX7_begins_17 rfl rfl ?_
    refine aw_iast iX7_begins_18 zlt71 zsh71 (fun g1 _ => ?_)
    refine aw_aload_n iX7_begins_19 rfl rfl ?_
    refine aw_dup iX7_begins_20 ?_
    refine aw_getI (own := "") iX7_begins_21 flX7_205 zlt61 zsh61 rfl ?_
    refine aw_iconst (v := 1) iX7_begins_24 (by decide) ?_
    refine aw_iadd iX7_begins_25 ?_
    refine aw_putI iX7_begins_26 fpX7_205 zlt61 zsh61 rfl (fun g2 _ => ?_)
    exact aw_vret iX7_begins_29 rfl
set_option maxRecDepth 20000 in
set_option maxHeartbeats 4000000 in
theorem kX7_begins (a0 : Int32) (g : Mem) : CT mX7_begins [.inr 61, .inl a0] g (fX7_begins a0 g) := CT.of (nr := 0) (by decide +kernel) (Nat.le_of_ble_eq_true rfl) (Or.inl rfl) (wX7_begins a0 g)
set_option maxRecDepth 20000 in
set_option maxHeartbeats 4000000 in
theorem wX7_markPlain (a0 : Int32) (g : Mem) : aw mX7_markPlain none 0 [some (.inr 61), some (.inl a0)] [] g (fX7_markPlain a0 g) := by
  unfold fX7_markPlain
  refine aw_aload_n iX7_markPlain_0 rfl rfl ?_
  refine aw_bipush (v := 21) iX7_markPlain_1 (by decide) ?_
  refine aw_callVv (M' := mX7_begins) (As := [.inl (21 : Int32)]) iX7_markPlain_3 lkX7_208 mcX7_begins mvX7_begins rfl zrc61 (kX7_begins (21 : Int32) g) rfl (Nat.le_of_ble_eq_true rfl) ⟨Nat.le_of_ble_eq_true rfl, Nat.le_of_ble_eq_true rfl⟩ (fun r1 g2 => ?_)
  refine aw_aload_n iX7_markPlain_6 rfl rfl ?_
  refine aw_bipush (v := 20) iX7_markPlain_7 (by decide) ?_
  refine aw_callVv (M' := mX7_begins) (As := [.inl (20 : Int32)]) iX7_markPlain_9 lkX7_208 mcX7_begins mvX7_begins rfl zrc61 (kX7_begins (20 : Int32) g2) rfl (Nat.le_of_ble_eq_true rfl) ⟨Nat.le_of_ble_eq_true rfl, Nat.le_of_ble_eq_true rfl⟩ (fun r3 g4 => ?_)
  refine aw_iload_n iX7_markPlain_12 rfl rfl ?_
  refine aw_aload_n iX7_markPlain_13 rfl rfl ?_
  refine aw_getR (own := "") iX7_markPlain_14 flX7_22 zlt61 zsh61 rfl ?_
  refine aw_bipush (v := 22) iX7_markPlain_17 (by decide) ?_
  refine aw_iload_n iX7_markPlain_19 rfl rfl ?_
  refine aw_iadd iX7_markPlain_20 ?_
  refine aw_iald iX7_markPlain_21 zlt66 zsh66 (fun v5 _ => ?_)
  refine aw_iadd iX7_markPlain_22 ?_
  exact aw_iret iX7_markPlain_23 rfl
set_option maxRecDepth 20000 in
set_option maxHeartbeats 4000000 in
theorem kX7_markPlain (a0 : Int32) (g : Mem) : CT mX7_markPlain [.inr 61, .inl a0] g (fX7_markPlain a0 g) := CT.of (nr := 0) (by decide +kernel) (Nat.le_of_ble_eq_true rfl) (Or.inr (Or.inl rfl)) (wX7_markPlain a0 g)
set_option maxRecDepth 20000 in
set_option maxHeartbeats 4000000 in
theorem wX7_markByKind (a0 : Int32) (g : Mem) : aw mX7_markByKind none 0 [some (.inr 61), some (.inl a0), none] [] g (fX7_markByKind a0 g) := by
  unfold fX7_markByKind
  refine aw_aload_n iX7_markByKind_0 rfl rfl ?_
  refine aw_iload_n iX7_markByKind_1 rfl rfl ?_
  refine aw_callV (M' := mX7_kindAt) (As := [.inl a0]) iX7_markByKind_2 lkX7_199 mcX7_kindAt mvX7_kindAt rfl zrc61 (kX7_kindAt a0 g) rfl (Nat.le_of_ble_eq_true rfl) ⟨Nat.le_of_ble_eq_true rfl, Nat.le_of_ble_eq_true rfl⟩ (fun r1 g2 => ?_)
  refine aw_istore_n (L' := [some (.inr 61), some (.inl a0), some (.inl r1)]) iX7_markByKind_5 rfl (Nat.le_of_ble_eq_true rfl) rfl ?_
  refine aw_iload_n iX7_markByKind_6 rfl rfl ?_
  refine aw_iconst (v := 2) iX7_markByKind_7 (by decide) ?_
  refine aw_icmp_ne iX7_markByKind_8 ?_ ?_
  · refine aw_aload_n iX7_markByKind_11 rfl rfl ?_
    refine aw_bipush (v := 24) iX7_markByKind_12 (by decide) ?_
    refine aw_callVv (M' := mX7_begins) (As := [.inl (24 : Int32)]) iX7_markByKind_14 lkX7_208 mcX7_begins mvX7_begins rfl zrc61 (kX7_begins (24 : Int32) g2) rfl (Nat.le_of_ble_eq_true rfl) ⟨Nat.le_of_ble_eq_true rfl, Nat.le_of_ble_eq_true rfl⟩ (fun r3 g4 => ?_)
    refine aw_iconst (v := 2) iX7_markByKind_17 (by decide) ?_
    refine aw_aload_n iX7_markByKind_18 rfl rfl ?_
    refine aw_iload_n iX7_markByKind_19 rfl rfl ?_
    refine aw_callV (M' := mX7_markPlain) (As := [.inl a0]) iX7_markByKind_20 lkX7_212 mcX7_markPlain mvX7_markPlain rfl zrc61 (kX7_markPlain a0 g4) rfl (Nat.le_of_ble_eq_true rfl) ⟨Nat.le_of_ble_eq_true rfl, Nat.le_of_ble_eq_true rfl⟩ (fun r5 g6 => ?_)
    refine aw_imul iX7_markByKind_23 ?_
    exact aw_iret iX7_markByKind_24 rfl
  · refine aw_iload_n iX7_markByKind_25 rfl rfl ?_
    refine aw_iconst (v := 3) iX7_markByKind_26 (by decide) ?_
    refine aw_icmp_ne iX7_markByKind_27 ?_ ?_
    · refine aw_aload_n iX7_markByKind_30 rfl rfl ?_
      refine aw_bipush (v := 22) iX7_markByKind_31 (by decide) ?_
      refine aw_callVv (M' := mX7_begins) (As := [.inl (22 : Int32)]) iX7_markByKind_33 lkX7_208 mcX7_begins mvX7_begins rfl zrc61 (kX7_begins (22 : Int32) g2) rfl (Nat.le_of_ble_eq_true rfl) ⟨Nat.le_of_ble_eq_true rfl, Nat.le_of_ble_eq_true rfl⟩ (fun r7 g8 => ?_)
      refine aw_aload_n iX7_markByKind_36 rfl rfl ?_
      refine aw_iload_n iX7_markByKind_37 rfl rfl ?_
      refine aw_callV (M' := mX7_markPlain) (As := [.inl a0]) iX7_markByKind_38 lkX7_212 mcX7_markPlain mvX7_markPlain rfl zrc61 (kX7_markPlain a0 g8) rfl (Nat.le_of_ble_eq_true rfl) ⟨Nat.le_of_ble_eq_true rfl, Nat.le_of_ble_eq_true rfl⟩ (fun r9 g10 => ?_)
      refine aw_sipush (v := 1000) iX7_markByKind_41 (by decide) ?_
      refine aw_isub iX7_markByKind_44 ?_
      exact aw_iret iX7_markByKind_45 rfl
    · refine aw_aload_n iX7_markByKind_46 rfl rfl ?_
      refine aw_iload_n iX7_markByKind_47 rfl rfl ?_
      refine aw_callV (M' := mX7_markPlain) (As := [.inl a0]) iX7_markByKind_48 lkX7_212 mcX7_markPlain mvX7_markPlain rfl zrc61 (kX7_markPlain a0 g2) rfl (Nat.le_of_ble_eq_true rfl) ⟨Nat.le_of_ble_eq_true rfl, Nat.le_of_ble_eq_true rfl⟩ (fun r11 g12 => ?_)
      exact aw_iret iX7_markByKind_51 rfl
set_option maxRecDepth 20000 in
set_option maxHeartbeats 4000000 in
theorem kX7_markByKind (a0 : Int32) (g : Mem) : CT mX7_markByKind [.inr 61, .inl a0] g (fX7_markByKind a0 g) := CT.of (nr := 1) (by decide +kernel) (Nat.le_of_ble_eq_true rfl) (Or.inr (Or.inl rfl)) (wX7_markByKind a0 g)
set_option maxRecDepth 20000 in
set_option maxHeartbeats 4000000 in
theorem wX7_sizeLying (a0 : Int32) (g : Mem) : aw mX7_sizeLying none 0 [some (.inr 61), some (.inl a0)] [] g (fX7_sizeLying a0 g) := by
  unfold fX7_sizeLying
  refine aw_aload_n iX7_sizeLying_0 rfl rfl ?_
  refine aw_bipush (v := 13) iX7_sizeLying_1 (by decide) ?_
  refine aw_callVv (M' := mX7_begins) (As := [.inl (13 : Int32)]) iX7_sizeLying_3 lkX7_208 mcX7_begins mvX7_begins rfl zrc61 (kX7_begins (13 : Int32) g) rfl (Nat.le_of_ble_eq_true rfl) ⟨Nat.le_of_ble_eq_true rfl, Nat.le_of_ble_eq_true rfl⟩ (fun r1 g2 => ?_)
  refine aw_aload_n iX7_sizeLying_6 rfl rfl ?_
  refine aw_bipush (v := 10) iX7_sizeLying_7 (by decide) ?_
  refine aw_callVv (M' := mX7_begins) (As := [.inl (10 : Int32)]) iX7_sizeLying_9 lkX7_208 mcX7_begins mvX7_begins rfl zrc61 (kX7_begins (10 : Int32) g2) rfl (Nat.le_of_ble_eq_true rfl) ⟨Nat.le_of_ble_eq_true rfl, Nat.le_of_ble_eq_true rfl⟩ (fun r3 g4 => ?_)
  refine aw_aload_n iX7_sizeLying_12 rfl rfl ?_
  refine aw_iload_n iX7_sizeLying_13 rfl rfl ?_
  refine aw_callV (M' := mX7_fittersAt) (As := [.inl a0]) iX7_sizeLying_14 lkX7_149 mcX7_fittersAt mvX7_fittersAt rfl zrc61 (kX7_fittersAt a0 g4) rfl (Nat.le_of_ble_eq_true rfl) ⟨Nat.le_of_ble_eq_true rfl, Nat.le_of_ble_eq_true rfl⟩ (fun r5 g6 => ?_)
  refine aw_callS (M' := mX7_bits) (As := [.inl r5]) iX7_sizeLying_17 lkX7_133 mcX7_bits msX7_bits rfl (kX7_bits r5 g6) rfl (Nat.le_of_ble_eq_true rfl) ⟨Nat.le_of_ble_eq_true rfl, Nat.le_of_ble_eq_true rfl⟩ (fun r7 g8 => ?_)
  refine aw_bipush (v := 100) iX7_sizeLying_20 (by decide) ?_
  refine aw_isub iX7_sizeLying_22 ?_
  exact aw_iret iX7_sizeLying_23 rfl
set_option maxRecDepth 20000 in
set_option maxHeartbeats 4000000 in
theorem kX7_sizeLying (a0 : Int32) (g : Mem) : CT mX7_sizeLying [.inr 61, .inl a0] g (fX7_sizeLying a0 g) := CT.of (nr := 0) (by decide +kernel) (Nat.le_of_ble_eq_true rfl) (Or.inr (Or.inl rfl)) (wX7_sizeLying a0 g)
set_option maxRecDepth 20000 in
set_option maxHeartbeats 4000000 in
theorem wX7_sizeOf (a0 : Int32) (g : Mem) : aw mX7_sizeOf none 0 [some (.inr 61), some (.inl a0), none, none] [] g (fX7_sizeOf a0 g) := by
  unfold fX7_sizeOf
  refine aw_aload_n iX7_sizeOf_0 rfl rfl ?_
  refine aw_iload_n iX7_sizeOf_1 rfl rfl ?_
  refine aw_callV (M' := mX7_kindAt) (As := [.inl a0]) iX7_sizeOf_2 lkX7_199 mcX7_kindAt mvX7_kindAt rfl zrc61 (kX7_kindAt a0 g) rfl (Nat.le_of_ble_eq_true rfl) ⟨Nat.le_of_ble_eq_true rfl, Nat.le_of_ble_eq_true rfl⟩ (fun r1 g2 => ?_)
  refine aw_istore_n (L' := [some (.inr 61), some (.inl a0), some (.inl r1), none]) iX7_sizeOf_5 rfl (Nat.le_of_ble_eq_true rfl) rfl ?_
  refine aw_iload_n iX7_sizeOf_6 rfl rfl ?_
  refine aw_iconst (v := 5) iX7_sizeOf_7 (by decide) ?_
  refine aw_icmp_ne iX7_sizeOf_8 ?_ ?_
  · refine aw_aload_n iX7_sizeOf_11 rfl rfl ?_
    refine aw_bipush (v := 14) iX7_sizeOf_12 (by decide) ?_
    refine aw_callVv (M' := mX7_begins) (As := [.inl (14 : Int32)]) iX7_sizeOf_14 lkX7_208 mcX7_begins mvX7_begins rfl zrc61 (kX7_begins (14 : Int32) g2) rfl (Nat.le_of_ble_eq_true rfl) ⟨Nat.le_of_ble_eq_true rfl, Nat.le_of_ble_eq_true rfl⟩ (fun r3 g4 => ?_)
    refine aw_iconst (v := 2) iX7_sizeOf_17 (by decide) ?_
    refine aw_aload_n iX7_sizeOf_18 rfl rfl ?_
    refine aw_iload_n iX7_sizeOf_19 rfl rfl ?_
    refine aw_callV (M' := mX7_sizeLying) (As := [.inl a0]) iX7_sizeOf_20 lkX7_215 mcX7_sizeLying mvX7_sizeLying rfl zrc61 (kX7_sizeLying a0 g4) rfl (Nat.le_of_ble_eq_true rfl) ⟨Nat.le_of_ble_eq_true rfl, Nat.le_of_ble_eq_true rfl⟩ (fun r5 g6 => ?_)
    refine aw_imul iX7_sizeOf_23 ?_
    exact aw_iret iX7_sizeOf_24 rfl
  · refine aw_iload_n iX7_sizeOf_25 rfl rfl ?_
    refine aw_iconst (v := 4) iX7_sizeOf_26 (by decide) ?_
    refine aw_icmp_ne iX7_sizeOf_27 ?_ ?_
    · refine aw_aload_n iX7_sizeOf_30 rfl rfl ?_
      refine aw_iload_n iX7_sizeOf_31 rfl rfl ?_
      refine aw_callV (M' := mX7_sizeLying) (As := [.inl a0]) iX7_sizeOf_32 lkX7_215 mcX7_sizeLying mvX7_sizeLying rfl zrc61 (kX7_sizeLying a0 g2) rfl (Nat.le_of_ble_eq_true rfl) ⟨Nat.le_of_ble_eq_true rfl, Nat.le_of_ble_eq_true rfl⟩ (fun r7 g8 => ?_)
      exact aw_iret iX7_sizeOf_35 rfl
    · refine aw_iload_n iX7_sizeOf_36 rfl rfl ?_
      refine aw_iconst (v := 2) iX7_sizeOf_37 (by decide) ?_
      refine aw_icmp_ne iX7_sizeOf_38 ?_ ?_
      · refine aw_aload_n iX7_sizeOf_41 rfl rfl ?_
        refine aw_bipush (v := 12) iX7_sizeOf_42 (by decide) ?_
        refine aw_callVv (M' := mX7_begins) (As := [.inl (12 : Int32)]) iX7_sizeOf_44 lkX7_208 mcX7_begins mvX7_begins rfl zrc61 (kX7_begins (12 : Int32) g2) rfl (Nat.le_of_ble_eq_true rfl) ⟨Nat.le_of_ble_eq_true rfl, Nat.le_of_ble_eq_true rfl⟩ (fun r9 g10 => ?_)
        refine aw_aload_n iX7_sizeOf_47 rfl rfl ?_
        refine aw_bipush (v := 11) iX7_sizeOf_48 (by decide) ?_
        refine aw_callVv (M' := mX7_begins) (As := [.inl (11 : Int32)]) iX7_sizeOf_50 lkX7_208 mcX7_begins mvX7_begins rfl zrc61 (kX7_begins (11 : Int32) g10) rfl (Nat.le_of_ble_eq_true rfl) ⟨Nat.le_of_ble_eq_true rfl, Nat.le_of_ble_eq_true rfl⟩ (fun r11 g12 => ?_)
        refine aw_aload_n iX7_sizeOf_53 rfl rfl ?_
        refine aw_bipush (v := 10) iX7_sizeOf_54 (by decide) ?_
        refine aw_callVv (M' := mX7_begins) (As := [.inl (10 : Int32)]) iX7_sizeOf_56 lkX7_208 mcX7_begins mvX7_begins rfl zrc61 (kX7_begins (10 : Int32) g12) rfl (Nat.le_of_ble_eq_true rfl) ⟨Nat.le_of_ble_eq_true rfl, Nat.le_of_ble_eq_true rfl⟩ (fun r13 g14 => ?_)
        refine aw_aload_n iX7_sizeOf_59 rfl rfl ?_
        refine aw_iload_n iX7_sizeOf_60 rfl rfl ?_
        refine aw_callV (M' := mX7_fittersAt) (As := [.inl a0]) iX7_sizeOf_61 lkX7_149 mcX7_fittersAt mvX7_fittersAt rfl zrc61 (kX7_fittersAt a0 g14) rfl (Nat.le_of_ble_eq_true rfl) ⟨Nat.le_of_ble_eq_true rfl, Nat.le_of_ble_eq_true rfl⟩ (fun r15 g16 => ?_)
        refine aw_callS (M' := mX7_bits) (As := [.inl r15]) iX7_sizeOf_64 lkX7_133 mcX7_bits msX7_bits rfl (kX7_bits r15 g16) rfl (Nat.le_of_ble_eq_true rfl) ⟨Nat.le_of_ble_eq_true rfl, Nat.le_of_ble_eq_true rfl⟩ (fun r17 g18 => ?_)
        refine aw_aload_n iX7_sizeOf_67 rfl rfl ?_
        refine aw_iload_n iX7_sizeOf_68 rfl rfl ?_
        refine aw_callV (M' := mX7_markByKind) (As := [.inl a0]) iX7_sizeOf_69 lkX7_218 mcX7_markByKind mvX7_markByKind rfl zrc61 (kX7_markByKind a0 g18) rfl (Nat.le_of_ble_eq_true rfl) ⟨Nat.le_of_ble_eq_true rfl, Nat.le_of_ble_eq_true rfl⟩ (fun r19 g20 => ?_)
        refine aw_iadd iX7_sizeOf_72 ?_
        refine aw_lt (fun x21 => ?_)
        refine aw_istore_n (L' := [some (.inr 61), some (.inl a0), some (.inl r1), some (.inl x21)]) iX7_sizeOf_73 rfl (Nat.le_of_ble_eq_true rfl) rfl ?_
        refine aw_iload_n iX7_sizeOf_74 rfl rfl ?_
        refine aw_iconst (v := 2) iX7_sizeOf_75 (by decide) ?_
        refine aw_icmp_ne iX7_sizeOf_76 ?_ ?_
        · refine aw_iload_n iX7_sizeOf_79 rfl rfl ?_
          refine aw_ineg iX7_sizeOf_80 ?_
          refine aw_goto iX7_sizeOf_81 ?_
          exact aw_iret iX7_sizeOf_85 rfl
        · refine aw_iload_n iX7_sizeOf_84 rfl rfl ?_
          exact aw_iret iX7_sizeOf_85 rfl
      · refine aw_aload_n iX7_sizeOf_47 rfl rfl ?_
        refine aw_bipush (v := 11) iX7_sizeOf_48 (by decide) ?_
        refine aw_callVv (M' := mX7_begins) (As := [.inl (11 : Int32)]) iX7_sizeOf_50 lkX7_208 mcX7_begins mvX7_begins rfl zrc61 (kX7_begins (11 : Int32) g2) rfl (Nat.le_of_ble_eq_true rfl) ⟨Nat.le_of_ble_eq_true rfl, Nat.le_of_ble_eq_true rfl⟩ (fun r22 g23 => ?_)
        refine aw_aload_n iX7_sizeOf_53 rfl rfl ?_
        refine aw_bipush (v := 10) iX7_sizeOf_54 (by decide) ?_
        refine aw_callVv (M' := mX7_begins) (As := [.inl (10 : Int32)]) iX7_sizeOf_56 lkX7_208 mcX7_begins mvX7_begins rfl zrc61 (kX7_begins (10 : Int32) g23) rfl (Nat.le_of_ble_eq_true rfl) ⟨Nat.le_of_ble_eq_true rfl, Nat.le_of_ble_eq_true rfl⟩ (fun r24 g25 => ?_)
        refine aw_aload_n iX7_sizeOf_59 rfl rfl ?_
        refine aw_iload_n iX7_sizeOf_60 rfl rfl ?_
        refine aw_callV (M' := mX7_fittersAt) (As := [.inl a0]) iX7_sizeOf_61 lkX7_149 mcX7_fittersAt mvX7_fittersAt rfl zrc61 (kX7_fittersAt a0 g25) rfl (Nat.le_of_ble_eq_true rfl) ⟨Nat.le_of_ble_eq_true rfl, Nat.le_of_ble_eq_true rfl⟩ (fun r26 g27 => ?_)
        refine aw_callS (M' := mX7_bits) (As := [.inl r26]) iX7_sizeOf_64 lkX7_133 mcX7_bits msX7_bits rfl (kX7_bits r26 g27) rfl (Nat.le_of_ble_eq_true rfl) ⟨Nat.le_of_ble_eq_true rfl, Nat.le_of_ble_eq_true rfl⟩ (fun r28 g29 => ?_)
        refine aw_aload_n iX7_sizeOf_67 rfl rfl ?_
        refine aw_iload_n iX7_sizeOf_68 rfl rfl ?_
        refine aw_callV (M' := mX7_markByKind) (As := [.inl a0]) iX7_sizeOf_69 lkX7_218 mcX7_markByKind mvX7_markByKind rfl zrc61 (kX7_markByKind a0 g29) rfl (Nat.le_of_ble_eq_true rfl) ⟨Nat.le_of_ble_eq_true rfl, Nat.le_of_ble_eq_true rfl⟩ (fun r30 g31 => ?_)
        refine aw_iadd iX7_sizeOf_72 ?_
        refine aw_lt (fun x32 => ?_)
        refine aw_istore_n (L' := [some (.inr 61), some (.inl a0), some (.inl r1), some (.inl x32)]) iX7_sizeOf_73 rfl (Nat.le_of_ble_eq_true rfl) rfl ?_
        refine aw_iload_n iX7_sizeOf_74 rfl rfl ?_
        refine aw_iconst (v := 2) iX7_sizeOf_75 (by decide) ?_
        refine aw_icmp_ne iX7_sizeOf_76 ?_ ?_
        · refine aw_iload_n iX7_sizeOf_79 rfl rfl ?_
          refine aw_ineg iX7_sizeOf_80 ?_
          refine aw_goto iX7_sizeOf_81 ?_
          exact aw_iret iX7_sizeOf_85 rfl
        · refine aw_iload_n iX7_sizeOf_84 rfl rfl ?_
          exact aw_iret iX7_sizeOf_85 rfl
set_option maxRecDepth 20000 in
set_option maxHeartbeats 4000000 in
theorem kX7_sizeOf (a0 : Int32) (g : Mem) : CT mX7_sizeOf [.inr 61, .inl a0] g (fX7_sizeOf a0 g) := CT.of (nr := 2) (by decide +kernel) (Nat.le_of_ble_eq_true rfl) (Or.inr (Or.inl rfl)) (wX7_sizeOf a0 g)
set_option maxRecDepth 20000 in
set_option maxHeartbeats 4000000 in
theorem wX7_markOf (a0 : Int32) (g : Mem) : aw mX7_markOf none 0 [some (.inr 61), some (.inl a0)] [] g (fX7_markOf a0 g) := by
  unfold fX7_markOf
  refine aw_aload_n iX7_markOf_0 rfl rfl ?_
  refine aw_iload_n iX7_markOf_1 rfl rfl ?_
  refine aw_callV (M' := mX7_kindAt) (As := [.inl a0]) iX7_markOf_2 lkX7_199 mcX7_kindAt mvX7_kindAt rfl zrc61 (kX7_kindAt a0 g) rfl (Nat.le_of_ble_eq_true rfl) ⟨Nat.le_of_ble_eq_true rfl, Nat.le_of_ble_eq_true rfl⟩ (fun r1 g2 => ?_)
  refine aw_iconst (v := 4) iX7_markOf_5 (by decide) ?_
  refine aw_icmp_ge iX7_markOf_6 ?_ ?_
  · refine aw_aload_n iX7_markOf_15 rfl rfl ?_
    refine aw_bipush (v := 23) iX7_markOf_16 (by decide) ?_
    refine aw_callVv (M' := mX7_begins) (As := [.inl (23 : Int32)]) iX7_markOf_18 lkX7_208 mcX7_begins mvX7_begins rfl zrc61 (kX7_begins (23 : Int32) g2) rfl (Nat.le_of_ble_eq_true rfl) ⟨Nat.le_of_ble_eq_true rfl, Nat.le_of_ble_eq_true rfl⟩ (fun r3 g4 => ?_)
    refine aw_aload_n iX7_markOf_21 rfl rfl ?_
    refine aw_bipush (v := 20) iX7_markOf_22 (by decide) ?_
    refine aw_callVv (M' := mX7_begins) (As := [.inl (20 : Int32)]) iX7_markOf_24 lkX7_208 mcX7_begins mvX7_begins rfl zrc61 (kX7_begins (20 : Int32) g4) rfl (Nat.le_of_ble_eq_true rfl) ⟨Nat.le_of_ble_eq_true rfl, Nat.le_of_ble_eq_true rfl⟩ (fun r5 g6 => ?_)
    refine aw_iload_n iX7_markOf_27 rfl rfl ?_
    refine aw_aload_n iX7_markOf_28 rfl rfl ?_
    refine aw_iload_n iX7_markOf_29 rfl rfl ?_
    refine aw_callV (M' := mX7_sizeOf) (As := [.inl a0]) iX7_markOf_30 lkX7_221 mcX7_sizeOf mvX7_sizeOf rfl zrc61 (kX7_sizeOf a0 g6) rfl (Nat.le_of_ble_eq_true rfl) ⟨Nat.le_of_ble_eq_true rfl, Nat.le_of_ble_eq_true rfl⟩ (fun r7 g8 => ?_)
    refine aw_isub iX7_markOf_33 ?_
    exact aw_iret iX7_markOf_34 rfl
  · refine aw_aload_n iX7_markOf_9 rfl rfl ?_
    refine aw_iload_n iX7_markOf_10 rfl rfl ?_
    refine aw_callV (M' := mX7_markByKind) (As := [.inl a0]) iX7_markOf_11 lkX7_218 mcX7_markByKind mvX7_markByKind rfl zrc61 (kX7_markByKind a0 g2) rfl (Nat.le_of_ble_eq_true rfl) ⟨Nat.le_of_ble_eq_true rfl, Nat.le_of_ble_eq_true rfl⟩ (fun r9 g10 => ?_)
    exact aw_iret iX7_markOf_14 rfl
set_option maxRecDepth 20000 in
set_option maxHeartbeats 4000000 in
theorem kX7_markOf (a0 : Int32) (g : Mem) : CT mX7_markOf [.inr 61, .inl a0] g (fX7_markOf a0 g) := CT.of (nr := 0) (by decide +kernel) (Nat.le_of_ble_eq_true rfl) (Or.inr (Or.inl rfl)) (wX7_markOf a0 g)
set_option maxRecDepth 20000 in
set_option maxHeartbeats 4000000 in
theorem wX7_ask (a0 : Int32) (a1 : Int32) (g : Mem) : aw mX7_ask none 0 [some (.inr 61), some (.inl a0), some (.inl a1)] [] g (fX7_ask a0 a1 g) := by
  unfold fX7_ask
  refine aw_aload_n iX7_ask_0 rfl rfl ?_
  refine aw_iload_n iX7_ask_1 rfl rfl ?_
  refine aw_callV (M' := mX7_isRiddleAt) (As := [.inl a0]) iX7_ask_2 lkX7_158 mcX7_isRiddleAt mvX7_isRiddleAt rfl zrc61 (kX7_isRiddleAt a0 g) rfl (Nat.le_of_ble_eq_true rfl) ⟨Nat.le_of_ble_eq_true rfl, Nat.le_of_ble_eq_true rfl⟩ (fun r1 g2 => ?_)
  refine aw_if_eq iX7_ask_5 ?_ ?_
  · refine aw_ldc (v := (-1000001)) iX7_ask_17 kcX7_57 ?_
    exact aw_iret iX7_ask_19 rfl
  · refine aw_iload_n iX7_ask_8 rfl rfl ?_
    refine aw_iconst (v := 0) iX7_ask_9 (by decide) ?_
    refine aw_iconst (v := 1) iX7_ask_10 (by decide) ?_
    refine aw_callS (M' := mX7_in) (As := [.inl a1, .inl (0 : Int32), .inl (1 : Int32)]) iX7_ask_11 lkX7_49 mcX7_in msX7_in rfl (kX7_in a1 (0 : Int32) (1 : Int32) g2) rfl (Nat.le_of_ble_eq_true rfl) ⟨Nat.le_of_ble_eq_true rfl, Nat.le_of_ble_eq_true rfl⟩ (fun r3 g4 => ?_)
    refine aw_if_ne iX7_ask_14 ?_ ?_
    · refine aw_ldc (v := (-1000001)) iX7_ask_17 kcX7_57 ?_
      exact aw_iret iX7_ask_19 rfl
    · refine aw_aload_n iX7_ask_20 rfl rfl ?_
      refine aw_iconst (v := 0) iX7_ask_21 (by decide) ?_
      refine aw_putI iX7_ask_22 fpX7_205 zlt61 zsh61 rfl (fun g5 _ => ?_)
      refine aw_iload_n iX7_ask_25 rfl rfl ?_
      refine aw_if_ne iX7_ask_26 ?_ ?_
      · refine aw_aload_n iX7_ask_29 rfl rfl ?_
        refine aw_iload_n iX7_ask_30 rfl rfl ?_
        refine aw_callV (M' := mX7_sizeOf) (As := [.inl a0]) iX7_ask_31 lkX7_221 mcX7_sizeOf mvX7_sizeOf rfl zrc61 (kX7_sizeOf a0 g5) rfl (Nat.le_of_ble_eq_true rfl) ⟨Nat.le_of_ble_eq_true rfl, Nat.le_of_ble_eq_true rfl⟩ (fun r6 g7 => ?_)
        refine aw_goto iX7_ask_34 ?_
        exact aw_iret iX7_ask_42 rfl
      · refine aw_aload_n iX7_ask_37 rfl rfl ?_
        refine aw_iload_n iX7_ask_38 rfl rfl ?_
        refine aw_callV (M' := mX7_markOf) (As := [.inl a0]) iX7_ask_39 lkX7_224 mcX7_markOf mvX7_markOf rfl zrc61 (kX7_markOf a0 g5) rfl (Nat.le_of_ble_eq_true rfl) ⟨Nat.le_of_ble_eq_true rfl, Nat.le_of_ble_eq_true rfl⟩ (fun r8 g9 => ?_)
        exact aw_iret iX7_ask_42 rfl
set_option maxRecDepth 20000 in
set_option maxHeartbeats 4000000 in
theorem kX7_ask (a0 : Int32) (a1 : Int32) (g : Mem) : CT mX7_ask [.inr 61, .inl a0, .inl a1] g (fX7_ask a0 a1 g) := CT.of (nr := 0) (by decide +kernel) (Nat.le_of_ble_eq_true rfl) (Or.inr (Or.inl rfl)) (wX7_ask a0 a1 g)
set_option maxRecDepth 20000 in
set_option maxHeartbeats 4000000 in
theorem wX7_trace (a0 : Int32) (g : Mem) : aw mX7_trace none 0 [some (.inr 61), some (.inl a0)] [] g (fX7_trace a0 g) := by
  unfold fX7_trace
  refine aw_iload_n iX7_trace_0 rfl rfl ?_
  refine aw_iconst (v := 0) iX7_trace_1 (by decide) ?_
  refine aw_aload_n iX7_trace_2 rfl rfl ?_
  refine aw_getI (own := "") iX7_trace_3 flX7_205 zlt61 zsh61 rfl ?_
  refine aw_iconst (v := 1) iX7_trace_6 (by decide) ?_
  refine aw_isub iX7_trace_7 ?_
  refine aw_callS (M' := mX7_in) (As := [.inl a0, .inl (0 : Int32), .inl ((g 61 19) - (1 : Int32))]) iX7_trace_8 lkX7_49 mcX7_in msX7_in rfl (kX7_in a0 (0 : Int32) ((g 61 19) - (1 : Int32)) g) rfl (Nat.le_of_ble_eq_true rfl) ⟨Nat.le_of_ble_eq_true rfl, Nat.le_of_ble_eq_true rfl⟩ (fun r1 g2 => ?_)
  refine aw_if_eq iX7_trace_11 ?_ ?_
  · refine aw_ldc (v := (-1000000)) iX7_trace_23 kcX7_144 ?_
    exact aw_iret iX7_trace_25 rfl
  · refine aw_aload_n iX7_trace_14 rfl rfl ?_
    refine aw_getR (own := "") iX7_trace_15 flX7_38 zlt61 zsh61 rfl ?_
    refine aw_iload_n iX7_trace_18 rfl rfl ?_
    refine aw_iald iX7_trace_19 zlt71 zsh71 (fun v3 _ => ?_)
    refine aw_goto iX7_trace_20 ?_
    exact aw_iret iX7_trace_25 rfl
set_option maxRecDepth 20000 in
set_option maxHeartbeats 4000000 in
theorem kX7_trace (a0 : Int32) (g : Mem) : CT mX7_trace [.inr 61, .inl a0] g (fX7_trace a0 g) := CT.of (nr := 0) (by decide +kernel) (Nat.le_of_ble_eq_true rfl) (Or.inr (Or.inl rfl)) (wX7_trace a0 g)
set_option maxRecDepth 20000 in
set_option maxHeartbeats 4000000 in
theorem wX7_count_L4 (l1 : Int32) (K : Int32 → Int32 → Mem → Option (Int32 × Mem)) (hK : ∀ (l2 l3 : Int32) (g : Mem), aw mX7_count none 33 [some (.inr 61), some (.inl l1), some (.inl l2), some (.inl l3), none] [] g (K l2 l3 g)) : ∀ (n : Nat) (l2 l3 : Int32) (g : Mem), aw mX7_count none 4 [some (.inr 61), some (.inl l1), some (.inl l2), some (.inl l3), none] [] g (fX7_count_L4 l1 K n l2 l3 g) := by
  intro n
  induction n with
  | zero => intro l2 l3 g; exact aw_none
  | succ n ih =>
    intro l2 l3 g
    rw [fX7_count_L4]
    refine aw_iload_n iX7_count_4 rfl rfl ?_
    refine aw_bipush (v := 8) iX7_count_5 (by decide) ?_
    refine aw_icmp_ge iX7_count_7 ?_ ?_
    · exact hK l2 l3 g
    · refine aw_iload_n iX7_count_10 rfl rfl ?_
      refine aw_aload_n iX7_count_11 rfl rfl ?_
      refine aw_getR (own := "") iX7_count_12 flX7_7 zlt61 zsh61 rfl ?_
      refine aw_iload_n iX7_count_15 rfl rfl ?_
      refine aw_iald iX7_count_16 zlt62 zsh62 (fun v1 _ => ?_)
      refine aw_if_ge iX7_count_17 ?_ ?_
      · refine aw_iconst (v := 1) iX7_count_24 (by decide) ?_
        refine aw_iadd iX7_count_25 ?_
        refine aw_lt (fun x2 => ?_)
        refine aw_istore_n (L' := [some (.inr 61), some (.inl l1), some (.inl x2), some (.inl l3), none]) iX7_count_26 rfl (Nat.le_of_ble_eq_true rfl) rfl ?_
        refine aw_iinc (L' := [some (.inr 61), some (.inl l1), some (.inl x2), some (.inl (l3 + (1 : Int32))), none]) (v := l3 + (1 : Int32)) iX7_count_27 rfl rfl (Nat.le_of_ble_eq_true rfl) rfl ?_
        refine aw_goto iX7_count_30 ?_
        exact ih x2 (l3 + (1 : Int32)) g
      · refine aw_iconst (v := 0) iX7_count_20 (by decide) ?_
        refine aw_goto iX7_count_21 ?_
        refine aw_iadd iX7_count_25 ?_
        refine aw_lt (fun x3 => ?_)
        refine aw_istore_n (L' := [some (.inr 61), some (.inl l1), some (.inl x3), some (.inl l3), none]) iX7_count_26 rfl (Nat.le_of_ble_eq_true rfl) rfl ?_
        refine aw_iinc (L' := [some (.inr 61), some (.inl l1), some (.inl x3), some (.inl (l3 + (1 : Int32))), none]) (v := l3 + (1 : Int32)) iX7_count_27 rfl rfl (Nat.le_of_ble_eq_true rfl) rfl ?_
        refine aw_goto iX7_count_30 ?_
        exact ih x3 (l3 + (1 : Int32)) g
set_option maxRecDepth 20000 in
set_option maxHeartbeats 4000000 in
theorem wX7_count_L38 (l1 : Int32) (l2 : Int32) (K : Int32 → Int32 → Mem → Option (Int32 × Mem)) (hK : ∀ (l3 l4 : Int32) (g : Mem), aw mX7_count none 72 [some (.inr 61), some (.inl l1), some (.inl l2), some (.inl l3), some (.inl l4)] [] g (K l3 l4 g)) : ∀ (n : Nat) (l3 l4 : Int32) (g : Mem), aw mX7_count none 38 [some (.inr 61), some (.inl l1), some (.inl l2), some (.inl l3), some (.inl l4)] [] g (fX7_count_L38 l1 l2 K n l3 l4 g) := by
  intro n
  induction n with
  | zero => intro l3 l4 g; exact aw_none
  | succ n ih =>
    intro l3 l4 g
    rw [fX7_count_L38]
    refine aw_iload iX7_count_38 rfl ?_
    refine aw_iconst (v := 4) iX7_count_40 (by decide) ?_
    refine aw_icmp_ge iX7_count_41 ?_ ?_
    · exact hK l3 l4 g
    · refine aw_iload_n iX7_count_44 rfl rfl ?_
      refine aw_aload_n iX7_count_45 rfl rfl ?_
      refine aw_getR (own := "") iX7_count_46 flX7_22 zlt61 zsh61 rfl ?_
      refine aw_bipush (v := 38) iX7_count_49 (by decide) ?_
      refine aw_iload iX7_count_51 rfl ?_
      refine aw_iadd iX7_count_53 ?_
      refine aw_iald iX7_count_54 zlt66 zsh66 (fun v7 _ => ?_)
      refine aw_iconst (v := 1) iX7_count_55 (by decide) ?_
      refine aw_icmp_ne iX7_count_56 ?_ ?_
      · refine aw_iconst (v := 1) iX7_count_59 (by decide) ?_
        refine aw_goto iX7_count_60 ?_
        refine aw_iadd iX7_count_64 ?_
        refine aw_lt (fun x8 => ?_)
        refine aw_istore_n (L' := [some (.inr 61), some (.inl l1), some (.inl l2), some (.inl x8), some (.inl l4)]) iX7_count_65 rfl (Nat.le_of_ble_eq_true rfl) rfl ?_
        refine aw_iinc (L' := [some (.inr 61), some (.inl l1), some (.inl l2), some (.inl x8), some (.inl (l4 + (1 : Int32)))]) (v := l4 + (1 : Int32)) iX7_count_66 rfl rfl (Nat.le_of_ble_eq_true rfl) rfl ?_
        refine aw_goto iX7_count_69 ?_
        exact ih x8 (l4 + (1 : Int32)) g
      · refine aw_iconst (v := 0) iX7_count_63 (by decide) ?_
        refine aw_iadd iX7_count_64 ?_
        refine aw_lt (fun x9 => ?_)
        refine aw_istore_n (L' := [some (.inr 61), some (.inl l1), some (.inl l2), some (.inl x9), some (.inl l4)]) iX7_count_65 rfl (Nat.le_of_ble_eq_true rfl) rfl ?_
        refine aw_iinc (L' := [some (.inr 61), some (.inl l1), some (.inl l2), some (.inl x9), some (.inl (l4 + (1 : Int32)))]) (v := l4 + (1 : Int32)) iX7_count_66 rfl rfl (Nat.le_of_ble_eq_true rfl) rfl ?_
        refine aw_goto iX7_count_69 ?_
        exact ih x9 (l4 + (1 : Int32)) g
set_option maxRecDepth 20000 in
set_option maxHeartbeats 4000000 in
theorem wX7_count (a0 : Int32) (g : Mem) : aw mX7_count none 0 [some (.inr 61), some (.inl a0), none, none, none] [] g (fX7_count a0 g) := by
  unfold fX7_count
  refine aw_iconst (v := 0) iX7_count_0 (by decide) ?_
  refine aw_istore_n (L' := [some (.inr 61), some (.inl a0), some (.inl (0 : Int32)), none, none]) iX7_count_1 rfl (Nat.le_of_ble_eq_true rfl) rfl ?_
  refine aw_iconst (v := 0) iX7_count_2 (by decide) ?_
  refine aw_istore_n (L' := [some (.inr 61), some (.inl a0), some (.inl (0 : Int32)), some (.inl (0 : Int32)), none]) iX7_count_3 rfl (Nat.le_of_ble_eq_true rfl) rfl ?_
  refine wX7_count_L4 a0 _ (fun l4 l5 g6 => ?_) FU (0 : Int32) (0 : Int32) g
  refine aw_iconst (v := 0) iX7_count_33 (by decide) ?_
  refine aw_istore_n (L' := [some (.inr 61), some (.inl a0), some (.inl l4), some (.inl (0 : Int32)), none]) iX7_count_34 rfl (Nat.le_of_ble_eq_true rfl) rfl ?_
  refine aw_iconst (v := 0) iX7_count_35 (by decide) ?_
  refine aw_istore (L' := [some (.inr 61), some (.inl a0), some (.inl l4), some (.inl (0 : Int32)), some (.inl (0 : Int32))]) iX7_count_36 (Nat.le_of_ble_eq_true rfl) rfl ?_
  refine wX7_count_L38 a0 l4 _ (fun l10 l11 g12 => ?_) FU (0 : Int32) (0 : Int32) g6
  refine aw_iload_n iX7_count_72 rfl rfl ?_
  refine aw_if (fun c13 => ?_) (fun c13 => ?_)
  · refine aw_tsw tX7_count_73_0 c13 ?_
    refine aw_iload_n iX7_count_128 rfl rfl ?_
    exact aw_iret iX7_count_129 rfl
  refine aw_if (fun c14 => ?_) (fun c14 => ?_)
  · refine aw_tsw tX7_count_73_1 c14 ?_
    refine aw_aload_n iX7_count_130 rfl rfl ?_
    refine aw_getR (own := "") iX7_count_131 flX7_22 zlt61 zsh61 rfl ?_
    refine aw_iconst (v := 3) iX7_count_134 (by decide) ?_
    refine aw_iald iX7_count_135 zlt66 zsh66 (fun v15 _ => ?_)
    exact aw_iret iX7_count_136 rfl
  refine aw_if (fun c16 => ?_) (fun c16 => ?_)
  · refine aw_tsw tX7_count_73_2 c16 ?_
    refine aw_aload_n iX7_count_137 rfl rfl ?_
    refine aw_getR (own := "") iX7_count_138 flX7_22 zlt61 zsh61 rfl ?_
    refine aw_iconst (v := 4) iX7_count_141 (by decide) ?_
    refine aw_iald iX7_count_142 zlt66 zsh66 (fun v17 _ => ?_)
    exact aw_iret iX7_count_143 rfl
  refine aw_if (fun c18 => ?_) (fun c18 => ?_)
  · refine aw_tsw tX7_count_73_3 c18 ?_
    refine aw_aload_n iX7_count_144 rfl rfl ?_
    refine aw_getR (own := "") iX7_count_145 flX7_22 zlt61 zsh61 rfl ?_
    refine aw_iconst (v := 5) iX7_count_148 (by decide) ?_
    refine aw_iald iX7_count_149 zlt66 zsh66 (fun v19 _ => ?_)
    exact aw_iret iX7_count_150 rfl
  refine aw_if (fun c20 => ?_) (fun c20 => ?_)
  · refine aw_tsw tX7_count_73_4 c20 ?_
    refine aw_aload_n iX7_count_151 rfl rfl ?_
    refine aw_getR (own := "") iX7_count_152 flX7_22 zlt61 zsh61 rfl ?_
    refine aw_bipush (v := 6) iX7_count_155 (by decide) ?_
    refine aw_iald iX7_count_157 zlt66 zsh66 (fun v21 _ => ?_)
    exact aw_iret iX7_count_158 rfl
  refine aw_if (fun c22 => ?_) (fun c22 => ?_)
  · refine aw_tsw tX7_count_73_5 c22 ?_
    refine aw_iload_n iX7_count_159 rfl rfl ?_
    exact aw_iret iX7_count_160 rfl
  refine aw_if (fun c23 => ?_) (fun c23 => ?_)
  · refine aw_tsw tX7_count_73_6 c23 ?_
    refine aw_aload_n iX7_count_161 rfl rfl ?_
    refine aw_getR (own := "") iX7_count_162 flX7_22 zlt61 zsh61 rfl ?_
    refine aw_bipush (v := 7) iX7_count_165 (by decide) ?_
    refine aw_iald iX7_count_167 zlt66 zsh66 (fun v24 _ => ?_)
    exact aw_iret iX7_count_168 rfl
  refine aw_if (fun c25 => ?_) (fun c25 => ?_)
  · refine aw_tsw tX7_count_73_7 c25 ?_
    refine aw_aload_n iX7_count_169 rfl rfl ?_
    refine aw_getR (own := "") iX7_count_170 flX7_22 zlt61 zsh61 rfl ?_
    refine aw_iconst (v := 1) iX7_count_173 (by decide) ?_
    refine aw_iald iX7_count_174 zlt66 zsh66 (fun v26 _ => ?_)
    exact aw_iret iX7_count_175 rfl
  refine aw_if (fun c27 => ?_) (fun c27 => ?_)
  · refine aw_tsw tX7_count_73_8 c27 ?_
    refine aw_aload_n iX7_count_176 rfl rfl ?_
    refine aw_getI (own := "") iX7_count_177 flX7_130 zlt61 zsh61 rfl ?_
    exact aw_iret iX7_count_180 rfl
  refine aw_if (fun c28 => ?_) (fun c28 => ?_)
  · refine aw_tsw tX7_count_73_9 c28 ?_
    refine aw_aload_n iX7_count_181 rfl rfl ?_
    refine aw_getI (own := "") iX7_count_182 flX7_68 zlt61 zsh61 rfl ?_
    exact aw_iret iX7_count_185 rfl
  refine aw_tsd tX7_count_73_d (by have ec13 := ne_toInt c13 (a := 0) (by decide); have ec14 := ne_toInt c14 (a := 1) (by decide); have ec16 := ne_toInt c16 (a := 2) (by decide); have ec18 := ne_toInt c18 (a := 3) (by decide); have ec20 := ne_toInt c20 (a := 4) (by decide); have ec22 := ne_toInt c22 (a := 5) (by decide); have ec23 := ne_toInt c23 (a := 6) (by decide); have ec25 := ne_toInt c25 (a := 7) (by decide); have ec27 := ne_toInt c27 (a := 8) (by decide); have ec28 := ne_toInt c28 (a := 9) (by decide); omega) ?_
  refine aw_ldc (v := (-1000001)) iX7_count_186 kcX7_57 ?_
  exact aw_iret iX7_count_188 rfl
set_option maxRecDepth 20000 in
set_option maxHeartbeats 4000000 in
theorem kX7_count (a0 : Int32) (g : Mem) : CT mX7_count [.inr 61, .inl a0] g (fX7_count a0 g) := CT.of (nr := 3) (by decide +kernel) (Nat.le_of_ble_eq_true rfl) (Or.inr (Or.inl rfl)) (wX7_count a0 g)
set_option maxRecDepth 20000 in
set_option maxHeartbeats 4000000 in
theorem wX7_status (g : Mem) : aw mX7_status none 0 [some (.inr 61)] [] g (fX7_status g) := by
  unfold fX7_status
  refine aw_aload_n iX7_status_0 rfl rfl ?_
  refine aw_getI (own := "") iX7_status_1 flX7_44 zlt61 zsh61 rfl ?_
  exact aw_iret iX7_status_4 rfl
set_option maxRecDepth 20000 in
set_option maxHeartbeats 4000000 in
theorem kX7_status (g : Mem) : CT mX7_status [.inr 61] g (fX7_status g) := CT.of (nr := 0) (by decide +kernel) (Nat.le_of_ble_eq_true rfl) (Or.inr (Or.inl rfl)) (wX7_status g)
