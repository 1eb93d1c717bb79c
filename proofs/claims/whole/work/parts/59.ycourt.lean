theorem court_fail {g c' m' g1 : Mem} {q : Nat} (h : Inv g) (fc : FC g c') (hg1 : g1 = up (up c' 5 1 0) 0 9 (c' 5 3)) (fm : FM g1 m') (e3 : c' 5 3 = m' 61 11) : Inv (up (up m' 61 4 0) 61 10 (m' 61 11)) := by
  obtain ⟨hh1, ⟨q, hq, t1, t2, t3, t4⟩, hh3, hh4, hh5, hh6, hh7, hh8⟩ := h
  obtain ⟨g2, hg2⟩ : ∃ x, x = up (up m' 61 4 0) 61 10 (m' 61 11) := ⟨_, rfl⟩
  rw [← hg2]
  have K1 : ∀ k, k ≠ 0 → k ≠ 5 → ¬ (17 ≤ k ∧ k ≤ 26) → g1 k = g k := fun k a1 a2 a3 => by rw [hg1, up_a, if_neg a1, up_a, if_neg a2, fc.1 k a2 a3]
  have K : ∀ k, k ≠ 0 → k ≠ 5 → ¬ (17 ≤ k ∧ k ≤ 26) → k ≠ 61 → k ≠ 67 → g2 k = g k := fun k a1 a2 a3 a4 a5 => by rw [hg2, up_a, if_neg a4, up_a, if_neg a4, fm.1 k a4 a5, K1 k a1 a2 a3]
  have k61 : ∀ j, g2 61 j = if j = 10 then m' 61 11 else if j = 4 then 0 else m' 61 j := fun j => by rw [hg2, up_a, if_pos rfl, upd_a, up_a, if_pos rfl, upd_a]
  have k6 : ∀ j, j < 6 ∨ 11 < j → j ≠ 4 → g2 61 j = g 61 j := fun j hj h4 => by rw [k61, if_neg (by omega), if_neg h4, fm.2 j (by omega), K1 61 (by omega) (by omega) (by omega)]
  have k0 : ∀ j, g2 0 j = if j = 9 then c' 5 3 else g 0 j := fun j => by
    have inner : (up c' 5 1 0) 0 = g 0 := by rw [up_a, if_neg (by omega), fc.1 0 (by omega) (by omega)]
    rw [hg2, up_a, if_neg (by omega), up_a, if_neg (by omega), fm.1 0 (by omega) (by omega), hg1, up_a, if_pos rfl, upd_a, inner]
  have k5 : g2 5 1 = 0 := by rw [hg2, up_a, if_neg (by omega), up_a, if_neg (by omega), fm.1 5 (by omega) (by omega), hg1, up_a, if_neg (by omega), up_a, if_pos rfl, upd_a, if_pos rfl]
  clear hg2
  refine ⟨?_, ⟨0, by omega, by rw [k5]; rfl, by rw [k61]; rfl, ?_, ?_⟩, ⟨?_, ?_⟩, ?_, ?_, ?_, ?_, ?_⟩
  · rw [K 2 (by omega) (by omega) (by omega) (by omega) (by omega), K 3 (by omega) (by omega) (by omega) (by omega) (by omega), K 4 (by omega) (by omega) (by omega) (by omega) (by omega), K 62 (by omega) (by omega) (by omega) (by omega) (by omega), K 63 (by omega) (by omega) (by omega) (by omega) (by omega), K 64 (by omega) (by omega) (by omega) (by omega) (by omega)]; exact hh1
  · rw [K 6 (by omega) (by omega) (by omega) (by omega) (by omega), K 65 (by omega) (by omega) (by omega) (by omega) (by omega)]; exact t3
  · rw [K 6 (by omega) (by omega) (by omega) (by omega) (by omega)]; exact t4
  · rw [k0, if_neg (by omega), k6 3 (by omega) (by omega)]; exact hh3.1
  · rw [k0, if_pos rfl, k61, if_pos rfl]; exact e3
  · rw [K 7 (by omega) (by omega) (by omega) (by omega) (by omega), K 8 (by omega) (by omega) (by omega) (by omega) (by omega), K 9 (by omega) (by omega) (by omega) (by omega) (by omega), K 10 (by omega) (by omega) (by omega) (by omega) (by omega), K 11 (by omega) (by omega) (by omega) (by omega) (by omega), K 12 (by omega) (by omega) (by omega) (by omega) (by omega), K 13 (by omega) (by omega) (by omega) (by omega) (by omega), K 14 (by omega) (by omega) (by omega) (by omega) (by omega), K 15 (by omega) (by omega) (by omega) (by omega) (by omega), K 16 (by omega) (by omega) (by omega) (by omega) (by omega), K 66 (by omega) (by omega) (by omega) (by omega) (by omega)]; exact hh4
  · rw [K 28 (by omega) (by omega) (by omega) (by omega) (by omega), K 29 (by omega) (by omega) (by omega) (by omega) (by omega), K 30 (by omega) (by omega) (by omega) (by omega) (by omega), K 31 (by omega) (by omega) (by omega) (by omega) (by omega), K 32 (by omega) (by omega) (by omega) (by omega) (by omega), K 33 (by omega) (by omega) (by omega) (by omega) (by omega), K 34 (by omega) (by omega) (by omega) (by omega) (by omega), K 35 (by omega) (by omega) (by omega) (by omega) (by omega), K 36 (by omega) (by omega) (by omega) (by omega) (by omega), K 37 (by omega) (by omega) (by omega) (by omega) (by omega), K 68 (by omega) (by omega) (by omega) (by omega) (by omega), K 69 (by omega) (by omega) (by omega) (by omega) (by omega)]; exact hh5
  · rw [K 38 (by omega) (by omega) (by omega) (by omega) (by omega), K 39 (by omega) (by omega) (by omega) (by omega) (by omega), K 40 (by omega) (by omega) (by omega) (by omega) (by omega), K 41 (by omega) (by omega) (by omega) (by omega) (by omega), K 42 (by omega) (by omega) (by omega) (by omega) (by omega), K 43 (by omega) (by omega) (by omega) (by omega) (by omega), K 44 (by omega) (by omega) (by omega) (by omega) (by omega), K 45 (by omega) (by omega) (by omega) (by omega) (by omega), K 46 (by omega) (by omega) (by omega) (by omega) (by omega), K 47 (by omega) (by omega) (by omega) (by omega) (by omega), K 68 (by omega) (by omega) (by omega) (by omega) (by omega), K 69 (by omega) (by omega) (by omega) (by omega) (by omega)]; exact hh6
  · rw [K 48 (by omega) (by omega) (by omega) (by omega) (by omega), k6 17 (by omega) (by omega), K 49 (by omega) (by omega) (by omega) (by omega) (by omega), K 50 (by omega) (by omega) (by omega) (by omega) (by omega), K 51 (by omega) (by omega) (by omega) (by omega) (by omega), K 52 (by omega) (by omega) (by omega) (by omega) (by omega), K 53 (by omega) (by omega) (by omega) (by omega) (by omega), K 54 (by omega) (by omega) (by omega) (by omega) (by omega), K 66 (by omega) (by omega) (by omega) (by omega) (by omega), K 70 (by omega) (by omega) (by omega) (by omega) (by omega)]; exact hh7
  · rw [K 58 (by omega) (by omega) (by omega) (by omega) (by omega), k6 19 (by omega) (by omega), K 59 (by omega) (by omega) (by omega) (by omega) (by omega), K 71 (by omega) (by omega) (by omega) (by omega) (by omega)]; exact hh8
/-- the new court, both sides -/
theorem court_new {T Q S x y : Nat} {tr : Nat → Nat} {c m : Mem} {o t s yy n f k a r u w : Nat → Int32} (h : DR T Q S tr c m) (hy : y ≤ 99) (c1 : c 17 1 = nI (x &&& (2 ^ T - 1))) (c2 : c 17 2 = nI y) (m2 : m 67 2 = nI y)
    (ho : o 0 = c 17 0 ∧ o 1 = c 17 1 ∧ o 2 = c 17 2 ∧ o 3 = c 17 3 ∧ o 5 = c 17 5 ∧ o 10 = c 17 10 ∧ o 15 = c 17 15 ∧ o 16 = c 17 16) (ht : ∀ j, j < 8 → t j = c 18 j) (hs : ∀ j, j < 6 → s j = c 19 j) (hyy : ∀ j, j < 6 → yy j = c 20 j) (hn : ∀ j, j < 6 → n j = c 21 j) (hf : ∀ j, j < 6 → f j = c 22 j) (hk : ∀ j, j < 4 → k j = c 23 j) (ha : ∀ j, j < 4 → a j = c 24 j) (hr : ∀ j, j < 4 → r j = c 25 j) (hu : ∀ j, j < 4 → u j = c 26 j)
    (hw : ∀ j, j < 50 → w j = if j = 1 then nI (x &&& (2 ^ T - 1)) else if j = 0 then 1 else m 67 j) : CourtN T Q S tr o t s yy n f k a r u w := by
  obtain ⟨h1, h2, h3, h4, h5, ⟨h6, h7, h8, h8'⟩, h9, h10, h11, h12⟩ := h
  obtain ⟨o0, o1, o2, o3, o5, o10, o15, o16⟩ := ho
  have hTp : 0 < 2 ^ T := Nat.two_pow_pos T
  have hand : x &&& (2 ^ T - 1) ≤ 2 ^ T - 1 := Nat.and_le_right
  have w0 : ∀ j, j < 50 → j ≠ 0 → j ≠ 1 → w j = m 67 j := fun j j1 j2 j3 => by rw [hw j j1, if_neg j3, if_neg j2]
  refine ⟨h1, ⟨Or.inr (by rw [o0, h2]), by rw [hw 0 (by omega), o0, h2]; rfl⟩, ⟨⟨x &&& (2 ^ T - 1), by omega, by rw [o1, c1]⟩, by rw [hw 1 (by omega), o1, c1]; rfl⟩, ⟨⟨y, hy, by rw [o2, c2]⟩, by rw [w0 2 (by omega) (by omega) (by omega), o2, c2, m2]⟩, ⟨by rw [o3]; exact h3.1, by rw [w0 3 (by omega) (by omega) (by omega)]; exact h3.2⟩, ⟨by rw [o5]; exact h4.1, by rw [w0 4 (by omega) (by omega) (by omega)]; exact h4.2⟩, ⟨by rw [o10]; exact h5.1, by rw [w0 5 (by omega) (by omega) (by omega)]; exact h5.2⟩, ⟨⟨0, by omega, by rw [o15, h6]; rfl⟩, by rw [w0 6 (by omega) (by omega) (by omega), o15, h6, h8]⟩, by rw [w0 7 (by omega) (by omega) (by omega), o16, h7, h8'], fun i hi => ?_, fun i hi => ?_, fun i hi => ?_, fun i i1 i2 => ?_⟩
  · rw [ht i (by omega), w0 (8 + i) (by omega) (by omega) (by omega)]; exact h9 i hi
  · rw [hs i (by omega), hyy i (by omega), hn i (by omega), hf i (by omega), w0 (16 + i) (by omega) (by omega) (by omega), w0 (22 + i) (by omega) (by omega) (by omega), w0 (28 + i) (by omega) (by omega) (by omega)]; exact h10 i hi
  · obtain ⟨z, z1, z2, z3⟩ := h11 i hi
    obtain ⟨v1, v2, v3, v4, v5, v6⟩ := h12 i (by omega)
    rw [hk i (by omega), ha i (by omega), hr i (by omega), hu i (by omega), w0 (34 + i) (by omega) (by omega) (by omega), w0 (38 + i) (by omega) (by omega) (by omega), w0 (42 + i) (by omega) (by omega) (by omega), w0 (46 + i) (by omega) (by omega) (by omega), z2, z3, v1, v2, v3, v4, v5, v6]
    exact ⟨⟨z, z1, rfl⟩, rfl, ⟨0, by omega, rfl⟩, rfl, ⟨0, by omega, rfl⟩, rfl, Or.inl rfl, rfl, fun _ => ⟨0, by omega, rfl⟩⟩
  · rw [w0 (38 + i) (by omega) (by omega) (by omega)]; exact (h12 i i2).2.2.2.1
theorem court_done {g c' g7 m' : Mem} {T Q S x y : Nat} {tr : Nat → Nat} (h : Inv g) (fc : FC g c') (B : Bec 7 17 (up c' 5 1 0) g7) (fm : FM (up g7 48 7 0) m') (hD : DR T Q S tr c' m') (hy : y ≤ 99) (c1 : c' 17 1 = nI (x &&& (2 ^ T - 1))) (c2 : c' 17 2 = nI y) (m2 : m' 67 2 = nI y) :
    Inv (up (up (up (upR (up m' 61 4 0) 66 (fun j => if 0 ≤ j ∧ j < 0 + 50 then (up m' 61 4 0) 67 (0 + (j - 0)) else (up m' 61 4 0) 66 j)) 66 0 1) 66 1 (nI (x &&& (2 ^ T - 1)))) 61 17 0) := by
  obtain ⟨hh1, ⟨q, hq, t1, t2, t3, t4⟩, hh3, hh4, hh5, hh6, hh7, hh8⟩ := h
  obtain ⟨g2, hg2⟩ : ∃ x', x' = up (up (up (upR (up m' 61 4 0) 66 (fun j => if 0 ≤ j ∧ j < 0 + 50 then (up m' 61 4 0) 67 (0 + (j - 0)) else (up m' 61 4 0) 66 j)) 66 0 1) 66 1 (nI (x &&& (2 ^ T - 1)))) 61 17 0 := ⟨_, rfl⟩
  rw [← hg2]
  have M : ∀ k, k ≠ 61 → k ≠ 66 → g2 k = m' k := fun k a1 a2 => by rw [hg2, up_a, if_neg a1, up_a, if_neg a2, up_a, if_neg a2, upR_a, if_neg a2, up_a, if_neg a1]
  have k66 : ∀ j, j < 50 → g2 66 j = if j = 1 then nI (x &&& (2 ^ T - 1)) else if j = 0 then 1 else m' 67 j := fun j hj => by
    have inner : (upR (up m' 61 4 0) 66 (fun j => if 0 ≤ j ∧ j < 0 + 50 then (up m' 61 4 0) 67 (0 + (j - 0)) else (up m' 61 4 0) 66 j)) 66 j = m' 67 j := by
      rw [upR_a, if_pos rfl]
      show (if 0 ≤ j ∧ j < 0 + 50 then (up m' 61 4 0) 67 (0 + (j - 0)) else (up m' 61 4 0) 66 j) = _
      rw [if_pos (by omega), up_a, if_neg (by omega), Nat.zero_add, Nat.sub_zero]
    rw [hg2, up_a, if_neg (by omega), up_a, if_pos rfl, upd_a, up_a, if_pos rfl, upd_a, inner]
  have k61 : ∀ j, g2 61 j = if j = 17 then 0 else if j = 4 then 0 else m' 61 j := fun j => by
    have inner : (up (up (upR (up m' 61 4 0) 66 (fun j => if 0 ≤ j ∧ j < 0 + 50 then (up m' 61 4 0) 67 (0 + (j - 0)) else (up m' 61 4 0) 66 j)) 66 0 1) 66 1 (nI (x &&& (2 ^ T - 1)))) 61 = (up m' 61 4 0) 61 := by rw [up_a, if_neg (by omega), up_a, if_neg (by omega), upR_a, if_neg (by omega)]
    rw [hg2, up_a, if_pos rfl, upd_a, inner, up_a, if_pos rfl, upd_a]
  clear hg2
  obtain ⟨B1, B2, B3, B4, B5, B6, B7, B8, B9, B10, B11⟩ := B
  have e5 : ∀ k, k ≠ 5 → (up c' 5 1 0) k = c' k := fun k hk => by rw [up_a, if_neg hk]
  have P : ∀ k, k ≠ 61 → k ≠ 67 → k ≠ 48 → k ≠ 66 → g2 k = g7 k := fun k a1 a2 a3 a4 => by rw [M k a1 a4, fm.1 k a1 a2, up_a, if_neg a3]
  have K7 : ∀ k, (k < 7 ∨ 17 ≤ k) → k ≠ 5 → ¬ (17 ≤ k ∧ k ≤ 26) → g7 k = g k := fun k a1 a2 a3 => by rw [B1 k (by omega), e5 k a2, fc.1 k a2 a3]
  have K : ∀ k, (k < 7 ∨ 26 < k) → k ≠ 5 → k ≠ 61 → k ≠ 67 → k ≠ 48 → k ≠ 66 → g2 k = g k := fun k a1 a2 a3 a4 a5 a6 => by rw [P k a3 a4 a5 a6, K7 k (by omega) a2 (by omega)]
  have k6 : ∀ j, j < 6 ∨ j = 10 ∨ 11 < j → j ≠ 4 → j ≠ 17 → g2 61 j = g 61 j := fun j hj h4 h17 => by rw [k61, if_neg h17, if_neg h4, fm.2 j hj, up_a, if_neg (by omega), K7 61 (by omega) (by omega) (by omega)]
  have k5 : g2 5 1 = 0 := by rw [P 5 (by omega) (by omega) (by omega) (by omega), B1 5 (by omega), up_a, if_pos rfl, upd_a, if_pos rfl]
  have k48 : ∀ j, g2 48 j = if j = 7 then 0 else g 48 j := fun j => by rw [M 48 (by omega) (by omega), fm.1 48 (by omega) (by omega), up_a, if_pos rfl, upd_a, K7 48 (by omega) (by omega) (by omega)]
  refine ⟨?_, ⟨0, by omega, by rw [k5]; rfl, by rw [k61]; rfl, ?_, ?_⟩, ⟨?_, ?_⟩, ⟨T, Q, S, tr, ?_⟩, ?_, ?_, ?_, ?_⟩
  · rw [K 2 (by omega) (by omega) (by omega) (by omega) (by omega) (by omega), K 3 (by omega) (by omega) (by omega) (by omega) (by omega) (by omega), K 4 (by omega) (by omega) (by omega) (by omega) (by omega) (by omega), K 62 (by omega) (by omega) (by omega) (by omega) (by omega) (by omega), K 63 (by omega) (by omega) (by omega) (by omega) (by omega) (by omega), K 64 (by omega) (by omega) (by omega) (by omega) (by omega) (by omega)]; exact hh1
  · rw [K 6 (by omega) (by omega) (by omega) (by omega) (by omega) (by omega), K 65 (by omega) (by omega) (by omega) (by omega) (by omega) (by omega)]; exact t3
  · rw [K 6 (by omega) (by omega) (by omega) (by omega) (by omega) (by omega)]; exact t4
  · rw [K 0 (by omega) (by omega) (by omega) (by omega) (by omega) (by omega), k6 3 (by omega) (by omega) (by omega)]; exact hh3.1
  · rw [K 0 (by omega) (by omega) (by omega) (by omega) (by omega) (by omega), k6 10 (by omega) (by omega) (by omega)]; exact hh3.2
  · have p7 : ∀ k, 7 ≤ k → k < 17 → g2 k = g7 k := fun k a1 a2 => P k (by omega) (by omega) (by omega) (by omega)
    rw [p7 7 (by omega) (by omega), p7 8 (by omega) (by omega), p7 9 (by omega) (by omega), p7 10 (by omega) (by omega), p7 11 (by omega) (by omega), p7 12 (by omega) (by omega), p7 13 (by omega) (by omega), p7 14 (by omega) (by omega), p7 15 (by omega) (by omega), p7 16 (by omega) (by omega)]
    exact court_new hD hy c1 c2 m2 B2 B3 B4 B5 B6 B7 B8 B9 B10 B11 k66
  · rw [K 28 (by omega) (by omega) (by omega) (by omega) (by omega) (by omega), K 29 (by omega) (by omega) (by omega) (by omega) (by omega) (by omega), K 30 (by omega) (by omega) (by omega) (by omega) (by omega) (by omega), K 31 (by omega) (by omega) (by omega) (by omega) (by omega) (by omega), K 32 (by omega) (by omega) (by omega) (by omega) (by omega) (by omega), K 33 (by omega) (by omega) (by omega) (by omega) (by omega) (by omega), K 34 (by omega) (by omega) (by omega) (by omega) (by omega) (by omega), K 35 (by omega) (by omega) (by omega) (by omega) (by omega) (by omega), K 36 (by omega) (by omega) (by omega) (by omega) (by omega) (by omega), K 37 (by omega) (by omega) (by omega) (by omega) (by omega) (by omega), K 68 (by omega) (by omega) (by omega) (by omega) (by omega) (by omega), K 69 (by omega) (by omega) (by omega) (by omega) (by omega) (by omega)]; exact hh5
  · rw [K 38 (by omega) (by omega) (by omega) (by omega) (by omega) (by omega), K 39 (by omega) (by omega) (by omega) (by omega) (by omega) (by omega), K 40 (by omega) (by omega) (by omega) (by omega) (by omega) (by omega), K 41 (by omega) (by omega) (by omega) (by omega) (by omega) (by omega), K 42 (by omega) (by omega) (by omega) (by omega) (by omega) (by omega), K 43 (by omega) (by omega) (by omega) (by omega) (by omega) (by omega), K 44 (by omega) (by omega) (by omega) (by omega) (by omega) (by omega), K 45 (by omega) (by omega) (by omega) (by omega) (by omega) (by omega), K 46 (by omega) (by omega) (by omega) (by omega) (by omega) (by omega), K 47 (by omega) (by omega) (by omega) (by omega) (by omega) (by omega), K 68 (by omega) (by omega) (by omega) (by omega) (by omega) (by omega), K 69 (by omega) (by omega) (by omega) (by omega) (by omega) (by omega)]; exact hh6
  · obtain ⟨N, A, n1, n2, n3, -⟩ := hh7
    exact ⟨N, 0, n1, by omega, by rw [k48, if_neg (by omega)]; exact n3, by rw [k48, if_pos rfl]; rfl, by rw [k61, if_pos rfl]; rfl, fun i hi => absurd hi (by omega)⟩
  · rw [K 58 (by omega) (by omega) (by omega) (by omega) (by omega) (by omega), k6 19 (by omega) (by omega) (by omega), K 59 (by omega) (by omega) (by omega) (by omega) (by omega) (by omega), K 71 (by omega) (by omega) (by omega) (by omega) (by omega) (by omega)]; exact hh8
