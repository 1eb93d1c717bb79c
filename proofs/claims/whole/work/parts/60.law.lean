/-! the law: every call answers alike -/
theorem law_step {g : Mem} {F G : Mem → Option (Int32 × Mem)} (B : Both g F G) (Kc : Mem → Option (Int32 × Mem)) (hk : ∀ g2, Inv g2 → ∃ g', Kc g2 = some (1, g')) : ∃ g', cl (F g) (fun r g1 => cl (G g1) (fun r' g2 => if r = r' then Kc g2 else some ((0 : Int32), g2))) = some (1, g') := by
  obtain ⟨r, g1, g2, h1, h2, h3⟩ := B
  rw [h1, cl_s, h2, cl_s, if_pos rfl]
  exact hk g2 h3
theorem pure_law_of (EC : ∀ {g : Mem}, Inv g → Both g (fun g => fX6_court g) (fun g => fX7_court g)) (sn : Nat) (xs : Nat → Int32) (hsn : sn ≤ 3072) : ∃ g' : Mem, fL_law sn xs g0 = some (1, g') := by
  have main : ∀ n i (g : Mem), i ≤ sn → sn + 6 < i + 6 * n → Inv g → ∃ g', fL_law_L18 sn xs (fun l254 g255 => some ((1 : Int32), g255)) n (nI i) g = some (1, g') := by
    intro n
    induction n with
    | zero => intro i g h1 h2 _; omega
    | succ n ih =>
      intro i g h1 h2 hI
      rw [fL_law_L18]
      have e6 : (Int32.ofNat sn - (6 : Int32)).toInt = (sn : Int) - 6 := pk_sub_toInt (a := sn) (b := 6) (by omega) (by omega)
      by_cases hx : Int32.ofNat sn - (6 : Int32) < nI i
      · rw [if_pos hx]; exact ⟨g, rfl⟩
      · rw [if_neg hx]
        rw [q_lt, e6, nI_toInt (by omega)] at hx
        have s0 : ∀ G, sl xs sn (nI i) G = G (xs i) := fun G => sl_nI (by omega) (by omega)
        have s1 : ∀ G, sl xs sn (nI i + (1 : Int32)) G = G (xs (i + 1)) := fun G => by rw [show nI i + (1 : Int32) = nI (i + 1) from nI_add i 1]; exact sl_nI (by omega) (by omega)
        have s2 : ∀ G, sl xs sn (nI i + (2 : Int32)) G = G (xs (i + 2)) := fun G => by rw [show nI i + (2 : Int32) = nI (i + 2) from nI_add i 2]; exact sl_nI (by omega) (by omega)
        have s3 : ∀ G, sl xs sn (nI i + (3 : Int32)) G = G (xs (i + 3)) := fun G => by rw [show nI i + (3 : Int32) = nI (i + 3) from nI_add i 3]; exact sl_nI (by omega) (by omega)
        have s4 : ∀ G, sl xs sn (nI i + (4 : Int32)) G = G (xs (i + 4)) := fun G => by rw [show nI i + (4 : Int32) = nI (i + 4) from nI_add i 4]; exact sl_nI (by omega) (by omega)
        have s5 : ∀ G, sl xs sn (nI i + (5 : Int32)) G = G (xs (i + 5)) := fun G => by rw [show nI i + (5 : Int32) = nI (i + 5) from nI_add i 5]; exact sl_nI (by omega) (by omega)
        have en : nI i + (6 : Int32) = nI (i + 6) := nI_add i 6
        have go : ∀ g2, Inv g2 → ∃ g', fL_law_L18 sn xs (fun l254 g255 => some ((1 : Int32), g255)) n (nI (i + 6)) g2 = some (1, g') := fun g2 h => ih (i + 6) g2 (by omega) (by omega) h
        simp only [s0, s1, s2, s3, s4, s5, en]
        by_cases h0 : (xs i &&& (31 : Int32)) = (0 : Int32)
        · rw [if_pos h0]; exact law_step (E_row hI _ _ _) _ go
        rw [if_neg h0]
        by_cases h1 : (xs i &&& (31 : Int32)) = (1 : Int32)
        · rw [if_pos h1]; exact law_step (E_set hI _ _ _) _ go
        rw [if_neg h1]
        by_cases h2 : (xs i &&& (31 : Int32)) = (2 : Int32)
        · rw [if_pos h2]; exact law_step (E_copy hI _ _ _ _ _) _ go
        rw [if_neg h2]
        by_cases h3 : (xs i &&& (31 : Int32)) = (3 : Int32)
        · rw [if_pos h3]; exact law_step (E_drop hI _) _ go
        rw [if_neg h3]
        by_cases h4 : (xs i &&& (31 : Int32)) = (4 : Int32)
        · rw [if_pos h4]; exact law_step (E_feed hI _) _ go
        rw [if_neg h4]
        by_cases h5 : (xs i &&& (31 : Int32)) = (5 : Int32)
        · rw [if_pos h5]; exact law_step (EC hI) _ go
        rw [if_neg h5]
        by_cases h6 : (xs i &&& (31 : Int32)) = (6 : Int32)
        · rw [if_pos h6]; exact law_step (E_fault hI) _ go
        rw [if_neg h6]
        by_cases h7 : (xs i &&& (31 : Int32)) = (7 : Int32)
        · rw [if_pos h7]; exact law_step (E_asked hI _ _) _ go
        rw [if_neg h7]
        by_cases h8 : (xs i &&& (31 : Int32)) = (8 : Int32)
        · rw [if_pos h8]; exact law_step (E_inTurn hI _ _) _ go
        rw [if_neg h8]
        by_cases h9 : (xs i &&& (31 : Int32)) = (9 : Int32)
        · rw [if_pos h9]; exact law_step (E_buy hI _ _) _ go
        rw [if_neg h9]
        by_cases h10 : (xs i &&& (31 : Int32)) = (10 : Int32)
        · rw [if_pos h10]; exact law_step (E_undo hI) _ go
        rw [if_neg h10]
        by_cases h11 : (xs i &&& (31 : Int32)) = (11 : Int32)
        · rw [if_pos h11]; exact law_step (E_thing hI _) _ go
        rw [if_neg h11]
        by_cases h12 : (xs i &&& (31 : Int32)) = (12 : Int32)
        · rw [if_pos h12]; exact law_step (E_riddle hI _ _) _ go
        rw [if_neg h12]
        by_cases h13 : (xs i &&& (31 : Int32)) = (13 : Int32)
        · rw [if_pos h13]; exact law_step (E_suitor hI _ _) _ go
        rw [if_neg h13]
        by_cases h14 : (xs i &&& (31 : Int32)) = (14 : Int32)
        · rw [if_pos h14]; exact law_step (E_says hI _ _) _ go
        rw [if_neg h14]
        by_cases h15 : (xs i &&& (31 : Int32)) = (15 : Int32)
        · rw [if_pos h15]; exact law_step (E_riddleFor hI _ _ _) _ go
        rw [if_neg h15]
        by_cases h16 : (xs i &&& (31 : Int32)) = (16 : Int32)
        · rw [if_pos h16]; exact law_step (E_hard hI _ _) _ go
        rw [if_neg h16]
        by_cases h17 : (xs i &&& (31 : Int32)) = (17 : Int32)
        · rw [if_pos h17]; exact law_step (E_chance hI _ _) _ go
        rw [if_neg h17]
        by_cases h18 : (xs i &&& (31 : Int32)) = (18 : Int32)
        · rw [if_pos h18]; exact law_step (E_toBuy hI _ _) _ go
        rw [if_neg h18]
        by_cases h19 : (xs i &&& (31 : Int32)) = (19 : Int32)
        · rw [if_pos h19]; exact law_step (E_beats hI) _ go
        rw [if_neg h19]
        by_cases h20 : (xs i &&& (31 : Int32)) = (20 : Int32)
        · rw [if_pos h20]; exact law_step (E_tree hI _ _) _ go
        rw [if_neg h20]
        by_cases h21 : (xs i &&& (31 : Int32)) = (21 : Int32)
        · rw [if_pos h21]; exact law_step (E_said hI _ _ _ _ _) _ go
        rw [if_neg h21]
        by_cases h22 : (xs i &&& (31 : Int32)) = (22 : Int32)
        · rw [if_pos h22]; exact law_step (E_image hI _) _ go
        rw [if_neg h22]
        by_cases h23 : (xs i &&& (31 : Int32)) = (23 : Int32)
        · rw [if_pos h23]; exact law_step (E_restore hI _) _ go
        rw [if_neg h23]
        by_cases h24 : (xs i &&& (31 : Int32)) = (24 : Int32)
        · rw [if_pos h24]; exact law_step (E_kind hI _) _ go
        rw [if_neg h24]
        by_cases h25 : (xs i &&& (31 : Int32)) = (25 : Int32)
        · rw [if_pos h25]; exact law_step (E_as hI _ _) _ go
        rw [if_neg h25]
        by_cases h26 : (xs i &&& (31 : Int32)) = (26 : Int32)
        · rw [if_pos h26]; exact law_step (E_ask hI _ _) _ go
        rw [if_neg h26]
        by_cases h27 : (xs i &&& (31 : Int32)) = (27 : Int32)
        · rw [if_pos h27]; exact law_step (E_trace hI _) _ go
        rw [if_neg h27]
        by_cases h28 : (xs i &&& (31 : Int32)) = (28 : Int32)
        · rw [if_pos h28]; exact law_step (E_count hI _) _ go
        rw [if_neg h28]
        by_cases h29 : (xs i &&& (31 : Int32)) = (29 : Int32)
        · rw [if_pos h29]; exact law_step (E_status hI) _ go
        rw [if_neg h29]
        exact go g hI
  exact main FU 0 g0 (by omega) (by rw [FU_e]; omega) Inv_0
