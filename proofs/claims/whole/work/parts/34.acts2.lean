/-! restore, undo -/
theorem E_restore {g : Mem} (h : Inv g) (x : Int32) : Both g (fun g => fX6_restore x g) (fun g => fX7_restore x g) := by
  have bad : (x < 0 ∨ nI 2 ≤ x) → Both g (fun g => fX6_restore x g) (fun g => fX7_restore x g) := fun hx => by
    refine ⟨-1000001, g, g, ?_, ?_, h⟩
    · simp only [fX6_restore]
      rw [show (2 : Int32) = nI 2 from rfl, below_f hx, cl_s, if_pos rfl]
    · simp only [fX7_restore]
      rw [show (1 : Int32) = nI 1 from rfl, inN_f (by omega) hx, cl_s, if_pos rfl]
  rcases pk_ix x (n := 2) (by omega) with hx | hx | ⟨w, hw, rfl⟩
  · exact bad (Or.inl hx)
  · exact bad (Or.inr hx)
  obtain ⟨hh1, hh2, hh3, hh4, hh5, hh6, ⟨N, A, hN, hA, a1, a2, a3, a4⟩, hh8⟩ := id h
  have e7 : ∀ g1 : Mem, g1 69 = g 69 → g1 68 = g 68 → fX7_restore (nI w) g1 = if g 69 w = 0 then some (-1000002, g1) else some (1, up (upR g1 66 (fun j => if 0 ≤ j ∧ j < 0 + 50 then g1 68 (50 * w + (j - 0)) else g1 66 j)) 61 17 0) := by
    intro g1 h69 h68
    simp only [fX7_restore]
    rw [show (1 : Int32) = nI 1 from rfl, inN_t (by omega) (by omega), cl_s, if_neg (by decide), al_nI hw (by omega), h69]
    by_cases h0 : g 69 w = 0
    · rw [if_pos h0, if_pos h0]
    · rw [if_neg h0, if_neg h0, show (50 : Int32) = nI 50 from rfl, pk_mul, show (0 : Int32) = nI 0 from rfl, lay_e (by omega) (by omega) (by omega) (by omega) (by omega), cl_s, pf_e]
  rcases (show w = 0 ∨ w = 1 by omega) with rfl | rfl
  · have e6 : fX6_restore (nI 0) g = if g 28 0 = 0 then some (-1000002, g) else cl (fX2_become 7 28 g) fun r3 g4 => cl (fX0_forget g4) fun r5 g6 => some (1, g6) := by
      simp only [fX6_restore]
      rw [show (2 : Int32) = nI 2 from rfl, below_t hw (by omega), cl_s, if_neg (by decide)]
      unfold r2
      simp only [if_pos (show nI 0 = (0 : Int32) by decide)]
    obtain ⟨⟨T, Q, S, tr, hc⟩, hk⟩ := hh5
    have hst := hc.2.1.1
    by_cases h0 : g 28 0 = 0
    · refine ⟨-1000002, g, g, ?_, ?_, h⟩
      · show fX6_restore (nI 0) g = _
        rw [e6, if_pos h0]
      · show fX7_restore (nI 0) g = _
        rw [e7 g rfl rfl, if_pos (by rw [← hk]; exact h0)]
    · obtain ⟨g', hb, B⟩ := become_7_28 hst
      obtain ⟨b1, b2, b3, b4, b5, b6, b7, b8, b9, b10, b11⟩ := B
      have bb : ∀ k, (k < 7 ∨ 17 ≤ k) → g' k = g k := fun k hk => b1 k (by omega)
      refine ⟨1, up g' 48 7 0, up (upR (up g' 48 7 0) 66 (fun j => if 0 ≤ j ∧ j < 0 + 50 then (up g' 48 7 0) 68 (50 * 0 + (j - 0)) else (up g' 48 7 0) 66 j)) 61 17 0, ?_, ?_, ?_⟩
      · show fX6_restore (nI 0) g = _
        rw [e6, if_neg h0, hb, cl_s]; rfl
      · show fX7_restore (nI 0) _ = _
        rw [e7 _ (by simp [up_a, bb]) (by simp [up_a, bb]), if_neg (by rw [← hk]; exact h0)]
      · refine ⟨?_, ?_, ?_, ?_, ?_, ?_, ?_, ?_⟩
        · simp [up_a, upR_a, upd_a, bb]; exact hh1
        · simp [up_a, upR_a, upd_a, bb]; exact hh2
        · simp [up_a, upR_a, upd_a, bb]; exact hh3
        · simp only [up_a, upR_a, Nat.reduceEqDiff, if_false, reduceIte]
          refine ⟨T, Q, S, tr, hc.congr b2 b3 b4 b5 b6 b7 b8 b9 b10 b11 (fun j hj => ?_)⟩
          rw [if_pos (by omega), bb 68 (by omega)]
          show g 68 _ = g 68 j
          congr 1; omega
        · simp [up_a, upR_a, upd_a, bb]; exact ⟨⟨T, Q, S, tr, hc⟩, hk⟩
        · simp [up_a, upR_a, upd_a, bb]; exact hh6
        · refine ⟨N, 0, hN, by omega, by simp [up_a, upR_a, upd_a, bb, a1], by simp [up_a, upR_a, upd_a]; rfl, by simp [up_a, upR_a, upd_a]; rfl, fun i hi => absurd hi (by omega)⟩
        · simp [up_a, upR_a, upd_a, bb]; exact hh8
  · have e6 : fX6_restore (nI 1) g = if g 38 0 = 0 then some (-1000002, g) else cl (fX2_become 7 38 g) fun r3 g4 => cl (fX0_forget g4) fun r5 g6 => some (1, g6) := by
      simp only [fX6_restore]
      rw [show (2 : Int32) = nI 2 from rfl, below_t hw (by omega), cl_s, if_neg (by decide)]
      unfold r2
      simp only [if_neg (show ¬ nI 1 = (0 : Int32) by decide), if_pos (show nI 1 = (1 : Int32) by decide)]
    obtain ⟨⟨T, Q, S, tr, hc⟩, hk⟩ := hh6
    have hst := hc.2.1.1
    by_cases h0 : g 38 0 = 0
    · refine ⟨-1000002, g, g, ?_, ?_, h⟩
      · show fX6_restore (nI 1) g = _
        rw [e6, if_pos h0]
      · show fX7_restore (nI 1) g = _
        rw [e7 g rfl rfl, if_pos (by rw [← hk]; exact h0)]
    · obtain ⟨g', hb, B⟩ := become_7_38 hst
      obtain ⟨b1, b2, b3, b4, b5, b6, b7, b8, b9, b10, b11⟩ := B
      have bb : ∀ k, (k < 7 ∨ 17 ≤ k) → g' k = g k := fun k hk => b1 k (by omega)
      refine ⟨1, up g' 48 7 0, up (upR (up g' 48 7 0) 66 (fun j => if 0 ≤ j ∧ j < 0 + 50 then (up g' 48 7 0) 68 (50 * 1 + (j - 0)) else (up g' 48 7 0) 66 j)) 61 17 0, ?_, ?_, ?_⟩
      · show fX6_restore (nI 1) g = _
        rw [e6, if_neg h0, hb, cl_s]; rfl
      · show fX7_restore (nI 1) _ = _
        rw [e7 _ (by simp [up_a, bb]) (by simp [up_a, bb]), if_neg (by rw [← hk]; exact h0)]
      · refine ⟨?_, ?_, ?_, ?_, ?_, ?_, ?_, ?_⟩
        · simp [up_a, upR_a, upd_a, bb]; exact hh1
        · simp [up_a, upR_a, upd_a, bb]; exact hh2
        · simp [up_a, upR_a, upd_a, bb]; exact hh3
        · simp only [up_a, upR_a, Nat.reduceEqDiff, if_false, reduceIte]
          refine ⟨T, Q, S, tr, hc.congr b2 b3 b4 b5 b6 b7 b8 b9 b10 b11 (fun j hj => ?_)⟩
          rw [if_pos (by omega), bb 68 (by omega)]
          show g 68 _ = g 68 (50 + j)
          congr 1
        · simp [up_a, upR_a, upd_a, bb]; exact hh5
        · simp [up_a, upR_a, upd_a, bb]; exact ⟨⟨T, Q, S, tr, hc⟩, hk⟩
        · refine ⟨N, 0, hN, by omega, by simp [up_a, upR_a, upd_a, bb, a1], by simp [up_a, upR_a, upd_a]; rfl, by simp [up_a, upR_a, upd_a]; rfl, fun i hi => absurd hi (by omega)⟩
        · simp [up_a, upR_a, upd_a, bb]; exact hh8
set_option maxHeartbeats 4000000 in
theorem back_e {g : Mem} {N A s : Nat} (hN : N < 24) (hA : 1 ≤ A ∧ A ≤ 24) (hs : s < 4) (e6 : g 48 6 = nI N) (e7 : g 48 7 = nI A) (ew : g 49 ((N + 23) % 24) = nI s) : ∃ g', fX0_takeBack g = some (0, g') ∧ (∀ k, k ≠ 7 → k ≠ 48 → k ≠ 13 → k ≠ 14 → k ≠ 15 → k ≠ 16 → g' k = g k) ∧ g' 48 6 = nI ((N + 23) % 24) ∧ g' 48 7 = nI (A - 1) ∧ g' 7 15 = g 53 ((N + 23) % 24) ∧ g' 7 16 = g 54 ((N + 23) % 24) ∧ (∀ j, j ≠ 15 → j ≠ 16 → g' 7 j = g 7 j) ∧
    (∀ j, g' 13 j = if j = s then g 50 ((N + 23) % 24) else g 13 j) ∧ (∀ j, g' 14 j = if j = s then 0 else g 14 j) ∧ (∀ j, g' 15 j = if j = s then g 51 ((N + 23) % 24) else g 15 j) ∧ (∀ j, g' 16 j = if j = s then g 52 ((N + 23) % 24) else g 16 j) := by
  have em : nI A - 1 = nI (A - 1) := pk_sub (b := 1) hA.1
  unfold fX0_takeBack
  by_cases hc : N = 0
  · subst hc
    rw [e6, if_pos (by decide)]
    have e23 : (0 + 23) % 24 = 23 := rfl
    rw [e23] at ew ⊢
    have l23 : (23 : Int32) = nI 23 := rfl
    simp (config := { maxSteps := 3000000 }) (disch := omega) only [pf_e, up_a, upd_a, Nat.reduceEqDiff, reduceIte, if_false, e7, em, l23, al_nI, as_nI, ew]
    refine ⟨_, rfl, fun k k1 k2 k3 k4 k5 k6 => ?_, ?_, ?_, ?_, ?_, fun j j1 j2 => ?_, ?_, ?_, ?_, ?_⟩
    · simp [up_a, k1, k2, k3, k4, k5, k6]
    · simp [up_a, upd_a]
    · simp [up_a, upd_a]
    · simp [up_a, upd_a]
    · simp [up_a, upd_a]
    · simp [up_a, upd_a, j1, j2]
    all_goals intro j; simp [up_a, upd_a]
  · have en : (N + 23) % 24 = N - 1 := by omega
    have em2 : nI N - 1 = nI (N - 1) := pk_sub (b := 1) (by omega)
    rw [en] at ew ⊢
    rw [e6, if_neg (nI_nle (by omega) (by omega))]
    simp (config := { maxSteps := 3000000 }) (disch := omega) only [pf_e, up_a, upd_a, Nat.reduceEqDiff, reduceIte, if_false, e7, em, em2, al_nI, as_nI, ew]
    refine ⟨_, rfl, fun k k1 k2 k3 k4 k5 k6 => ?_, ?_, ?_, ?_, ?_, fun j j1 j2 => ?_, ?_, ?_, ?_, ?_⟩
    · simp [up_a, k1, k2, k3, k4, k5, k6]
    · simp [up_a, upd_a]
    · simp [up_a, upd_a]
    · simp [up_a, upd_a]
    · simp [up_a, upd_a]
    · simp [up_a, upd_a, j1, j2]
    all_goals intro j; simp [up_a, upd_a]
theorem E_undo {g : Mem} (h : Inv g) : Both g (fun g => fX6_undo g) (fun g => fX7_undo g) := by
  obtain ⟨hh1, hh2, hh3, ⟨T, Q, S, tr, hc⟩, hh5, hh6, ⟨N, A, hN, hA, a1, a2, a3, a4⟩, hh8⟩ := id h
  by_cases hz : A = 0
  · subst hz
    refine ⟨-1000002, g, g, ?_, ?_, h⟩
    · show fX6_undo g = _
      unfold fX6_undo; rw [a2, if_pos (by decide)]
    · show fX7_undo g = _
      unfold fX7_undo; rw [a3, if_pos (by decide)]
  have h0 : ¬ nI A = 0 := nI_ne0 (by omega) (by omega)
  have hact := a4 (A - 1) (by omega)
  rw [if_pos (show A - 1 + 1 = A by omega), show (N + 24 - A + (A - 1)) % 24 = (N + 23) % 24 by omega] at hact
  generalize hp : (N + 23) % 24 = p at hact
  obtain ⟨s, S', T', xx, yy, zz, s1, s2, s3, s4, s5, s6, s7, s8, s9, s10, s11, s12, s13, ⟨s14, s14'⟩, ⟨s15, s15'⟩, s16, s17, s17'⟩ := hact
  obtain ⟨hb, c0, c1, c2, c3, c5, c10, c15, c16, hT, hR, hS, hd⟩ := hc
  have eS : S' = S := by
    have q : nI S' = nI S := by
      rw [← s4, ← c10.2]
      exact s7 5 (by omega) (by omega) (by omega) (by omega) (by omega) (by omega) (by omega)
    exact (nI_eq (by omega) (by omega)).mp q
  have eT : T' = T := by
    have q : nI T' = nI T := by
      rw [← s5, ← c3.2]
      exact s7 3 (by omega) (by omega) (by omega) (by omega) (by omega) (by omega) (by omega)
    exact (nI_eq (by omega) (by omega)).mp q
  subst eS eT
  obtain ⟨g', hg, t1, t2, t3, t4, t5, t6, t7, t8, t9, t10⟩ := back_e hN ⟨by omega, hA⟩ (show s < 4 by omega) a1 a2 (by rw [hp]; exact s6)
  rw [hp] at t2 t4 t5 t7 t9 t10
  have et : ∀ k, k ≠ 7 → k ≠ 48 → k ≠ 13 → k ≠ 14 → k ≠ 15 → k ≠ 16 → g' k = g k := t1
  have em : nI A - 1 = nI (A - 1) := pk_sub (b := 1) (by omega)
  refine ⟨nI (A - 1), g', upR (up g' 61 17 (nI (A - 1))) 66 (fun j => if 0 ≤ j ∧ j < 0 + 50 then (up g' 61 17 (nI (A - 1))) 70 (50 * (A - 1) + (j - 0)) else (up g' 61 17 (nI (A - 1))) 66 j), ?_, ?_, ?_⟩
  · show fX6_undo g = _
    unfold fX6_undo; rw [a2, if_neg h0, hg, cl_s, t3]
  · show fX7_undo g' = _
    unfold fX7_undo
    have e61 : g' 61 17 = nI A := by rw [et 61 (by omega) (by omega) (by omega) (by omega) (by omega) (by omega)]; exact a3
    rw [e61, if_neg h0, pf_e, em]
    have e2 : (up g' 61 17 (nI (A - 1))) 61 17 = nI (A - 1) := by simp [up_a, upd_a]
    rw [e2, show (50 : Int32) = nI 50 from rfl, pk_mul, show (0 : Int32) = nI 0 from rfl, lay_e (by omega) (by omega) (by omega) (by omega) (by omega), cl_s]
    simp [up_a, upd_a, upR_a]
  · have e6 : ∀ k, k ≠ 7 → k ≠ 48 → k ≠ 13 → k ≠ 14 → k ≠ 15 → k ≠ 16 → k ≠ 61 → k ≠ 66 → (upR (up g' 61 17 (nI (A - 1))) 66 (fun j => if 0 ≤ j ∧ j < 0 + 50 then (up g' 61 17 (nI (A - 1))) 70 (50 * (A - 1) + (j - 0)) else (up g' 61 17 (nI (A - 1))) 66 j)) k = g k := by
      intro k k1 k2 k3 k4 k5 k6 k7 k8
      simp [up_a, upR_a, k7, k8, et k k1 k2 k3 k4 k5 k6]
    have n66 : ∀ j, j < 50 → (upR (up g' 61 17 (nI (A - 1))) 66 (fun j => if 0 ≤ j ∧ j < 0 + 50 then (up g' 61 17 (nI (A - 1))) 70 (50 * (A - 1) + (j - 0)) else (up g' 61 17 (nI (A - 1))) 66 j)) 66 j = g 70 (50 * (A - 1) + j) := by
      intro j hj
      simp only [up_a, upR_a, Nat.reduceEqDiff, if_false, reduceIte]
      rw [if_pos (by omega), et 70 (by omega) (by omega) (by omega) (by omega) (by omega) (by omega)]; rfl
    have n61 : ∀ j, (upR (up g' 61 17 (nI (A - 1))) 66 (fun j => if 0 ≤ j ∧ j < 0 + 50 then (up g' 61 17 (nI (A - 1))) 70 (50 * (A - 1) + (j - 0)) else (up g' 61 17 (nI (A - 1))) 66 j)) 61 j = if j = 17 then nI (A - 1) else g 61 j := by
      intro j
      simp [up_a, upR_a, upd_a, et 61 (by omega) (by omega) (by omega) (by omega) (by omega) (by omega)]
    have nc : ∀ k, k ≠ 61 → k ≠ 66 → (upR (up g' 61 17 (nI (A - 1))) 66 (fun j => if 0 ≤ j ∧ j < 0 + 50 then (up g' 61 17 (nI (A - 1))) 70 (50 * (A - 1) + (j - 0)) else (up g' 61 17 (nI (A - 1))) 66 j)) k = g' k := by
      intro k k1 k2
      simp [up_a, upR_a, k1, k2]
    generalize upR (up g' 61 17 (nI (A - 1))) 66 (fun j => if 0 ≤ j ∧ j < 0 + 50 then (up g' 61 17 (nI (A - 1))) 70 (50 * (A - 1) + (j - 0)) else (up g' 61 17 (nI (A - 1))) 66 j) = G at e6 n66 n61 nc
    have e6' : ∀ k, (k < 7 ∨ (7 < k ∧ k < 13) ∨ (16 < k ∧ k < 48) ∨ (48 < k ∧ k < 61) ∨ (61 < k ∧ k < 66) ∨ 66 < k) → G k = g k := fun k hk => e6 k (by omega) (by omega) (by omega) (by omega) (by omega) (by omega) (by omega) (by omega)
    refine ⟨?_, ?_, ?_, ⟨T', Q, S', tr, ?_⟩, ?_, ?_, ⟨p, A - 1, by omega, by omega, ?_, ?_, ?_, fun i hi => ?_⟩, ?_⟩
    · rw [e6' 2 (by omega), e6' 3 (by omega), e6' 4 (by omega), e6' 62 (by omega), e6' 63 (by omega), e6' 64 (by omega)]; exact hh1
    · rw [e6' 5 (by omega), e6' 6 (by omega), e6' 65 (by omega), n61, if_neg (by omega)]; exact hh2
    · rw [e6' 0 (by omega), n61, n61, if_neg (by omega), if_neg (by omega)]; exact hh3
    · rw [nc 7 (by omega) (by omega), nc 13 (by omega) (by omega), nc 14 (by omega) (by omega), nc 15 (by omega) (by omega), nc 16 (by omega) (by omega), e6' 8 (by omega), e6' 9 (by omega), e6' 10 (by omega), e6' 11 (by omega), e6' 12 (by omega)]
      have o : ∀ j, j < 50 → j ≠ 6 → j ≠ 7 → j ≠ 34 + s → j ≠ 38 + s → j ≠ 42 + s → j ≠ 46 + s → G 66 j = g 66 j := fun j j1 j2 j3 j4 j5 j6 j7 => by rw [n66 j j1]; exact s7 j j1 j2 j3 j4 j5 j6 j7
      refine ⟨hb, ?_, ?_, ?_, ?_, ?_, ?_, ?_, ?_, fun i hi => ?_, fun i hi => ?_, fun i hi => ?_, fun i i1 i2 => ?_⟩
      · rw [t6 0 (by omega) (by omega), o 0 (by omega) (by omega) (by omega) (by omega) (by omega) (by omega) (by omega)]; exact c0
      · rw [t6 1 (by omega) (by omega), o 1 (by omega) (by omega) (by omega) (by omega) (by omega) (by omega) (by omega)]; exact c1
      · rw [t6 2 (by omega) (by omega), o 2 (by omega) (by omega) (by omega) (by omega) (by omega) (by omega) (by omega)]; exact c2
      · rw [t6 3 (by omega) (by omega), o 3 (by omega) (by omega) (by omega) (by omega) (by omega) (by omega) (by omega)]; exact c3
      · rw [t6 5 (by omega) (by omega), o 4 (by omega) (by omega) (by omega) (by omega) (by omega) (by omega) (by omega)]; exact c5
      · rw [t6 10 (by omega) (by omega), o 5 (by omega) (by omega) (by omega) (by omega) (by omega) (by omega) (by omega)]; exact c10
      · rw [t4, n66 6 (by omega)]; exact ⟨⟨zz, s17, s17'⟩, s8⟩
      · rw [t5, n66 7 (by omega)]; exact s9
      · rw [o (8 + i) (by omega) (by omega) (by omega) (by omega) (by omega) (by omega) (by omega)]; exact hT i hi
      · rw [o (16 + i) (by omega) (by omega) (by omega) (by omega) (by omega) (by omega) (by omega), o (22 + i) (by omega) (by omega) (by omega) (by omega) (by omega) (by omega) (by omega), o (28 + i) (by omega) (by omega) (by omega) (by omega) (by omega) (by omega) (by omega)]; exact hR i hi
      · by_cases his : i = s
        · subst his
          rw [t7, t8, t9, t10, if_pos rfl, if_pos rfl, if_pos rfl, if_pos rfl, n66 _ (by omega), n66 _ (by omega), n66 _ (by omega), n66 _ (by omega)]
          exact ⟨⟨xx, s14, s14'⟩, s10, ⟨0, by omega, rfl⟩, s11, ⟨yy, by omega, s15'⟩, s12, s16, s13, fun _ => ⟨yy, s15, s15'⟩⟩
        · rw [t7, t8, t9, t10, if_neg his, if_neg his, if_neg his, if_neg his, o (34 + i) (by omega) (by omega) (by omega) (by omega) (by omega) (by omega) (by omega), o (38 + i) (by omega) (by omega) (by omega) (by omega) (by omega) (by omega) (by omega), o (42 + i) (by omega) (by omega) (by omega) (by omega) (by omega) (by omega) (by omega), o (46 + i) (by omega) (by omega) (by omega) (by omega) (by omega) (by omega) (by omega)]
          exact hS i hi
      · rw [o (38 + i) (by omega) (by omega) (by omega) (by omega) (by omega) (by omega) (by omega)]; exact hd i i1 i2
    · rw [e6' 28 (by omega), e6' 29 (by omega), e6' 30 (by omega), e6' 31 (by omega), e6' 32 (by omega), e6' 33 (by omega), e6' 34 (by omega), e6' 35 (by omega), e6' 36 (by omega), e6' 37 (by omega), e6' 68 (by omega), e6' 69 (by omega)]; exact hh5
    · rw [e6' 38 (by omega), e6' 39 (by omega), e6' 40 (by omega), e6' 41 (by omega), e6' 42 (by omega), e6' 43 (by omega), e6' 44 (by omega), e6' 45 (by omega), e6' 46 (by omega), e6' 47 (by omega), e6' 68 (by omega), e6' 69 (by omega)]; exact hh6
    · rw [nc 48 (by omega) (by omega)]; exact t2
    · rw [nc 48 (by omega) (by omega)]; exact t3
    · rw [n61, if_pos rfl]
    · rw [e6' 49 (by omega), e6' 50 (by omega), e6' 51 (by omega), e6' 52 (by omega), e6' 53 (by omega), e6' 54 (by omega), e6' 70 (by omega), show (p + 24 - (A - 1) + i) % 24 = (N + 24 - A + i) % 24 by omega]
      refine (a4 i (by omega)).congr (fun _ _ => rfl) (fun j hj => ?_)
      rw [if_neg (show ¬ i + 1 = A by omega)]
      by_cases h1 : i + 1 = A - 1
      · rw [if_pos h1, n66 j hj, h1]
      · rw [if_neg h1]
    · rw [e6' 58 (by omega), e6' 59 (by omega), e6' 71 (by omega), n61, if_neg (by omega)]; exact hh8
