theorem CourtN.congr {T Q S : Nat} {tr : Nat → Nat} {o t s y n f k a r u m o' t' s' y' n' f' k' a' r' u' m' : Nat → Int32} (h : CourtN T Q S tr o t s y n f k a r u m)
    (ho : o' 0 = o 0 ∧ o' 1 = o 1 ∧ o' 2 = o 2 ∧ o' 3 = o 3 ∧ o' 5 = o 5 ∧ o' 10 = o 10 ∧ o' 15 = o 15 ∧ o' 16 = o 16) (ht : ∀ j, j < 8 → t' j = t j) (hs : ∀ j, j < 6 → s' j = s j) (hy : ∀ j, j < 6 → y' j = y j) (hn : ∀ j, j < 6 → n' j = n j) (hf : ∀ j, j < 6 → f' j = f j) (hk : ∀ j, j < 4 → k' j = k j) (ha : ∀ j, j < 4 → a' j = a j) (hr : ∀ j, j < 4 → r' j = r j) (hu : ∀ j, j < 4 → u' j = u j) (hm : ∀ j, j < 50 → m' j = m j) : CourtN T Q S tr o' t' s' y' n' f' k' a' r' u' m' := by
  obtain ⟨hb, h0, h1, h2, h3, h5, h10, h15, h16, hT, hR, hS, hd⟩ := h
  obtain ⟨o0, o1, o2, o3, o5, o10, o15, o16⟩ := ho
  refine ⟨hb, ?_, ?_, ?_, ?_, ?_, ?_, ?_, ?_, fun i hi => ?_, fun i hi => ?_, fun i hi => ?_, fun i h1 h2 => ?_⟩
  · rw [o0, hm 0 (by omega)]; exact h0
  · rw [o1, hm 1 (by omega)]; exact h1
  · rw [o2, hm 2 (by omega)]; exact h2
  · rw [o3, hm 3 (by omega)]; exact h3
  · rw [o5, hm 4 (by omega)]; exact h5
  · rw [o10, hm 5 (by omega)]; exact h10
  · rw [o15, hm 6 (by omega)]; exact h15
  · rw [o16, hm 7 (by omega)]; exact h16
  · rw [ht i (by omega), hm (8 + i) (by omega)]; exact hT i hi
  · rw [hs i (by omega), hy i (by omega), hn i (by omega), hf i (by omega), hm (16 + i) (by omega), hm (22 + i) (by omega), hm (28 + i) (by omega)]; exact hR i hi
  · rw [hk i (by omega), ha i (by omega), hr i (by omega), hu i (by omega), hm (34 + i) (by omega), hm (38 + i) (by omega), hm (42 + i) (by omega), hm (46 + i) (by omega)]; exact hS i hi
  · rw [hm (38 + i) (by omega)]; exact hd i h1 h2
theorem ac8 {g : Mem} {a b : Nat} {G : Mem → Option (Int32 × Mem)} : ac g a 8 0 b 8 0 8 G = G (cpy g a 0 b 0 8) := ac_nI (sp := 0) (dp := 0) (n := 8) (by omega) (by omega) (by omega) (by omega)
theorem ac6 {g : Mem} {a b : Nat} {G : Mem → Option (Int32 × Mem)} : ac g a 6 0 b 6 0 6 G = G (cpy g a 0 b 0 6) := ac_nI (sp := 0) (dp := 0) (n := 6) (by omega) (by omega) (by omega) (by omega)
theorem ac4 {g : Mem} {a b : Nat} {G : Mem → Option (Int32 × Mem)} : ac g a 4 0 b 4 0 4 G = G (cpy g a 0 b 0 4) := ac_nI (sp := 0) (dp := 0) (n := 4) (by omega) (by omega) (by omega) (by omega)
/-- court c is as court d was; nothing else is changed -/
def Bec (c d : Nat) (g g' : Mem) : Prop := (∀ k, (k < c ∨ c + 10 ≤ k) → g' k = g k) ∧
  (g' c 0 = g d 0 ∧ g' c 1 = g d 1 ∧ g' c 2 = g d 2 ∧ g' c 3 = g d 3 ∧ g' c 5 = g d 5 ∧ g' c 10 = g d 10 ∧ g' c 15 = g d 15 ∧ g' c 16 = g d 16) ∧
  (∀ j, j < 8 → g' (c + 1) j = g (d + 1) j) ∧ (∀ j, j < 6 → g' (c + 2) j = g (d + 2) j) ∧ (∀ j, j < 6 → g' (c + 3) j = g (d + 3) j) ∧ (∀ j, j < 6 → g' (c + 4) j = g (d + 4) j) ∧ (∀ j, j < 6 → g' (c + 5) j = g (d + 5) j) ∧
  (∀ j, j < 4 → g' (c + 6) j = g (d + 6) j) ∧ (∀ j, j < 4 → g' (c + 7) j = g (d + 7) j) ∧ (∀ j, j < 4 → g' (c + 8) j = g (d + 8) j) ∧ (∀ j, j < 4 → g' (c + 9) j = g (d + 9) j)
theorem become_28_7 {g : Mem} (h : g 7 0 = 0 ∨ g 7 0 = 1) : ∃ g', fX2_become 28 7 g = some (0, g') ∧ Bec 28 7 g g' := by
  unfold fX2_become pz
  rw [if_pos h]
  simp only [pf_e, ac8, ac6, ac4]
  refine ⟨_, rfl, fun k hk => ?_, ?_, ?_, ?_, ?_, ?_, ?_, ?_, ?_, ?_, ?_⟩
  · have e : ¬ k = 28 ∧ ¬ k = 29 ∧ ¬ k = 30 ∧ ¬ k = 31 ∧ ¬ k = 32 ∧ ¬ k = 33 ∧ ¬ k = 34 ∧ ¬ k = 35 ∧ ¬ k = 36 ∧ ¬ k = 37 := by omega
    obtain ⟨e0, e1, e2, e3, e4, e5, e6, e7, e8, e9⟩ := e
    simp only [cpy, up_a, upR_a, if_neg e0, if_neg e1, if_neg e2, if_neg e3, if_neg e4, if_neg e5, if_neg e6, if_neg e7, if_neg e8, if_neg e9, Nat.reduceAdd, if_false]
  · simp [cpy, up_a, upR_a, upd_a]
  all_goals
    intro j hj
    simp [cpy, up_a, upR_a, upd_a, va_cpy, hj]
theorem become_38_7 {g : Mem} (h : g 7 0 = 0 ∨ g 7 0 = 1) : ∃ g', fX2_become 38 7 g = some (0, g') ∧ Bec 38 7 g g' := by
  unfold fX2_become pz
  rw [if_pos h]
  simp only [pf_e, ac8, ac6, ac4]
  refine ⟨_, rfl, fun k hk => ?_, ?_, ?_, ?_, ?_, ?_, ?_, ?_, ?_, ?_, ?_⟩
  · have e : ¬ k = 38 ∧ ¬ k = 39 ∧ ¬ k = 40 ∧ ¬ k = 41 ∧ ¬ k = 42 ∧ ¬ k = 43 ∧ ¬ k = 44 ∧ ¬ k = 45 ∧ ¬ k = 46 ∧ ¬ k = 47 := by omega
    obtain ⟨e0, e1, e2, e3, e4, e5, e6, e7, e8, e9⟩ := e
    simp only [cpy, up_a, upR_a, if_neg e0, if_neg e1, if_neg e2, if_neg e3, if_neg e4, if_neg e5, if_neg e6, if_neg e7, if_neg e8, if_neg e9, Nat.reduceAdd, if_false]
  · simp [cpy, up_a, upR_a, upd_a]
  all_goals
    intro j hj
    simp [cpy, up_a, upR_a, upd_a, va_cpy, hj]
theorem become_7_28 {g : Mem} (h : g 28 0 = 0 ∨ g 28 0 = 1) : ∃ g', fX2_become 7 28 g = some (0, g') ∧ Bec 7 28 g g' := by
  unfold fX2_become pz
  rw [if_pos h]
  simp only [pf_e, ac8, ac6, ac4]
  refine ⟨_, rfl, fun k hk => ?_, ?_, ?_, ?_, ?_, ?_, ?_, ?_, ?_, ?_, ?_⟩
  · have e : ¬ k = 7 ∧ ¬ k = 8 ∧ ¬ k = 9 ∧ ¬ k = 10 ∧ ¬ k = 11 ∧ ¬ k = 12 ∧ ¬ k = 13 ∧ ¬ k = 14 ∧ ¬ k = 15 ∧ ¬ k = 16 := by omega
    obtain ⟨e0, e1, e2, e3, e4, e5, e6, e7, e8, e9⟩ := e
    simp only [cpy, up_a, upR_a, if_neg e0, if_neg e1, if_neg e2, if_neg e3, if_neg e4, if_neg e5, if_neg e6, if_neg e7, if_neg e8, if_neg e9, Nat.reduceAdd, if_false]
  · simp [cpy, up_a, upR_a, upd_a]
  all_goals
    intro j hj
    simp [cpy, up_a, upR_a, upd_a, va_cpy, hj]
theorem become_7_38 {g : Mem} (h : g 38 0 = 0 ∨ g 38 0 = 1) : ∃ g', fX2_become 7 38 g = some (0, g') ∧ Bec 7 38 g g' := by
  unfold fX2_become pz
  rw [if_pos h]
  simp only [pf_e, ac8, ac6, ac4]
  refine ⟨_, rfl, fun k hk => ?_, ?_, ?_, ?_, ?_, ?_, ?_, ?_, ?_, ?_, ?_⟩
  · have e : ¬ k = 7 ∧ ¬ k = 8 ∧ ¬ k = 9 ∧ ¬ k = 10 ∧ ¬ k = 11 ∧ ¬ k = 12 ∧ ¬ k = 13 ∧ ¬ k = 14 ∧ ¬ k = 15 ∧ ¬ k = 16 := by omega
    obtain ⟨e0, e1, e2, e3, e4, e5, e6, e7, e8, e9⟩ := e
    simp only [cpy, up_a, upR_a, if_neg e0, if_neg e1, if_neg e2, if_neg e3, if_neg e4, if_neg e5, if_neg e6, if_neg e7, if_neg e8, if_neg e9, Nat.reduceAdd, if_false]
  · simp [cpy, up_a, upR_a, upd_a]
  all_goals
    intro j hj
    simp [cpy, up_a, upR_a, upd_a, va_cpy, hj]
theorem become_7_17 {g : Mem} (h : g 17 0 = 0 ∨ g 17 0 = 1) : ∃ g', fX2_become 7 17 g = some (0, g') ∧ Bec 7 17 g g' := by
  unfold fX2_become pz
  rw [if_pos h]
  simp only [pf_e, ac8, ac6, ac4]
  refine ⟨_, rfl, fun k hk => ?_, ?_, ?_, ?_, ?_, ?_, ?_, ?_, ?_, ?_, ?_⟩
  · have e : ¬ k = 7 ∧ ¬ k = 8 ∧ ¬ k = 9 ∧ ¬ k = 10 ∧ ¬ k = 11 ∧ ¬ k = 12 ∧ ¬ k = 13 ∧ ¬ k = 14 ∧ ¬ k = 15 ∧ ¬ k = 16 := by omega
    obtain ⟨e0, e1, e2, e3, e4, e5, e6, e7, e8, e9⟩ := e
    simp only [cpy, up_a, upR_a, if_neg e0, if_neg e1, if_neg e2, if_neg e3, if_neg e4, if_neg e5, if_neg e6, if_neg e7, if_neg e8, if_neg e9, Nat.reduceAdd, if_false]
  · simp [cpy, up_a, upR_a, upd_a]
  all_goals
    intro j hj
    simp [cpy, up_a, upR_a, upd_a, va_cpy, hj]
theorem lay_e {q0 n0 a q2 n2 b : Nat} (hne : q0 ≠ q2) (h0 : a + 50 ≤ n0) (h2 : b + 50 ≤ n2) (hn0 : n0 < 2 ^ 31) (hn2 : n2 < 2 ^ 31) (g : Mem) : fX7_lay q0 n0 (nI a) q2 n2 (nI b) g = some (0, upR g q2 (fun j => if b ≤ j ∧ j < b + 50 then g q0 (a + (j - b)) else g q2 j)) := by
  unfold fX7_lay
  refine loopI (fun m i s => fX7_lay_L3 q0 n0 q2 n2 (nI a) (nI b) (fun l3 g4 => some (0, g4)) m (nI i) s) _ (fun i s => s = upR g q2 (fun j => if b ≤ j ∧ j < b + i then g q0 (a + (j - b)) else g q2 j)) 50 ?_ ?_ 50 FU 0 g (by omega) (by rw [FU_e]; omega) ?_
  · rintro m s rfl
    show fX7_lay_L3 q0 n0 q2 n2 (nI a) (nI b) (fun l3 g4 => some (0, g4)) (m + 1) (nI 50) _ = _
    rw [fX7_lay_L3, if_pos (by decide)]
  · rintro m i s hi rfl
    refine ⟨_, rfl, ?_⟩
    show fX7_lay_L3 q0 n0 q2 n2 (nI a) (nI b) (fun l3 g4 => some (0, g4)) (m + 1) (nI i) _ = fX7_lay_L3 q0 n0 q2 n2 (nI a) (nI b) (fun l3 g4 => some (0, g4)) m (nI (i + 1)) _
    rw [fX7_lay_L3, show (50 : Int32) = nI 50 from rfl, if_neg (nI_ge hi (by omega)), nI_add, nI_add, al_nI (by omega) hn0, as_nI (by omega) hn2, up_upR, nI_1]
    congr 2
    funext j
    simp only [upd_a, upR_a, if_neg hne]
    by_cases hj : j = b + i
    · subst hj; rw [if_pos rfl, if_pos (by omega)]; congr 1; omega
    · rw [if_neg hj]
      by_cases hc : b ≤ j ∧ j < b + i
      · rw [if_pos hc, if_pos (by omega)]
      · rw [if_neg hc, if_neg (by omega)]
  · have : (fun j => if b ≤ j ∧ j < b + 0 then g q0 (a + (j - b)) else g q2 j) = g q2 := by funext j; rw [if_neg (by omega)]
    rw [this, upR_self]
theorem E_image {g : Mem} (h : Inv g) (x : Int32) : Both g (fun g => fX6_image x g) (fun g => fX7_image x g) := by
  have bad : (x < 0 ∨ nI 2 ≤ x) → Both g (fun g => fX6_image x g) (fun g => fX7_image x g) := fun hx => by
    refine ⟨-1000001, g, g, ?_, ?_, h⟩
    · simp only [fX6_image]
      rw [show (2 : Int32) = nI 2 from rfl, below_f hx, cl_s, if_pos rfl]
    · simp only [fX7_image]
      rw [show (1 : Int32) = nI 1 from rfl, inN_f (by omega) hx, cl_s, if_pos rfl]
  rcases pk_ix x (n := 2) (by omega) with hx | hx | ⟨w, hw, rfl⟩
  · exact bad (Or.inl hx)
  · exact bad (Or.inr hx)
  have hst : g 7 0 = 0 ∨ g 7 0 = 1 := by obtain ⟨T, Q, S, tr, -, ⟨h0, -⟩, -⟩ := h.2.2.2.1; exact h0
  by_cases h0 : g 7 0 = 0
  · refine ⟨-1000002, g, g, ?_, ?_, h⟩
    · simp only [fX6_image]
      rw [show (2 : Int32) = nI 2 from rfl, below_t hw (by omega), cl_s, if_neg (by decide), if_pos h0]
    · simp only [fX7_image]
      rw [show (1 : Int32) = nI 1 from rfl, inN_t (by omega) (by omega), cl_s, if_neg (by decide), isCourt_e h rfl, cl_s, if_pos h0]
  have h1 : g 7 0 = 1 := hst.resolve_left h0
  have e6 : fX6_image (nI w) g = r2 (nI w) (cl (fX2_become 28 7 g) fun r3 g4 => (some ((1 : Int32), g4))) (cl (fX2_become 38 7 g) fun r5 g6 => (some ((1 : Int32), g6))) := by
    simp only [fX6_image]
    rw [show (2 : Int32) = nI 2 from rfl, below_t hw (by omega), cl_s, if_neg (by decide), if_neg h0]
  have e7 : ∀ g1 : Mem, g1 66 = g 66 → fX7_image (nI w) g1 = some (1, up (upR g1 68 (fun j => if 50 * w ≤ j ∧ j < 50 * w + 50 then g1 66 (0 + (j - 50 * w)) else g1 68 j)) 69 w 1) := by
    intro g1 hg
    simp only [fX7_image]
    rw [show (1 : Int32) = nI 1 from rfl, inN_t (by omega) (by omega), cl_s, if_neg (by decide), isCourt_e h hg, cl_s, if_neg h0, show (50 : Int32) = nI 50 from rfl, pk_mul, show (0 : Int32) = nI 0 from rfl, lay_e (by omega) (by omega) (by omega) (by omega) (by omega), cl_s, as_nI hw (by omega)]
  obtain ⟨hh1, hh2, hh3, ⟨T, Q, S, tr, hc⟩, hh5, hh6, hh7, hh8⟩ := h
  rcases (show w = 0 ∨ w = 1 by omega) with rfl | rfl
  · obtain ⟨g', hb, B⟩ := become_28_7 hst
    refine ⟨1, g', _, ?_, e7 g' (B.1 66 (by omega)), ?_⟩
    · show fX6_image (nI 0) g = _
      rw [e6]; unfold r2; rw [if_pos (by decide), hb, cl_s]
    · obtain ⟨b1, b2, b3, b4, b5, b6, b7, b8, b9, b10, b11⟩ := B
      have bb : ∀ k, (k < 28 ∨ 38 ≤ k) → g' k = g k := fun k hk => b1 k (by omega)
      refine ⟨?_, ?_, ?_, ?_, ?_, ?_, ?_, ?_⟩
      · simp [up_a, upR_a, bb]; exact hh1
      · simp [up_a, upR_a, bb]; exact hh2
      · simp [up_a, upR_a, bb]; exact hh3
      · simp [up_a, upR_a, bb]; exact ⟨T, Q, S, tr, hc⟩
      · simp only [up_a, upR_a, Nat.reduceEqDiff, if_false, reduceIte]
        refine ⟨⟨T, Q, S, tr, hc.congr b2 b3 b4 b5 b6 b7 b8 b9 b10 b11 (fun j hj => ?_)⟩, ?_⟩
        · rw [if_pos (by omega), bb 66 (by omega)]; congr 1; omega
        · rw [b2.1, h1]; simp [upd_a]
      · simp only [up_a, upR_a, Nat.reduceEqDiff, if_false, reduceIte, bb 38 (by omega), bb 39 (by omega), bb 40 (by omega), bb 41 (by omega), bb 42 (by omega), bb 43 (by omega), bb 44 (by omega), bb 45 (by omega), bb 46 (by omega), bb 47 (by omega)]
        refine ⟨?_, ?_⟩
        · have : (fun j => if 50 * 0 ≤ 50 + j ∧ 50 + j < 50 * 0 + 50 then g' 66 (0 + (50 + j - 50 * 0)) else g' 68 (50 + j)) = fun j => g 68 (50 + j) := by
            funext j; rw [if_neg (by omega), bb 68 (by omega)]
          rw [this]; exact hh6.1
        · simp only [upd_a, bb 69 (by omega)]; rw [if_neg (by omega)]; exact hh6.2
      · simp [up_a, upR_a, bb]; exact hh7
      · simp [up_a, upR_a, bb]; exact hh8
  · obtain ⟨g', hb, B⟩ := become_38_7 hst
    refine ⟨1, g', _, ?_, e7 g' (B.1 66 (by omega)), ?_⟩
    · show fX6_image (nI 1) g = _
      rw [e6]; unfold r2; rw [if_neg (by decide), if_pos (by decide), hb, cl_s]
    · obtain ⟨b1, b2, b3, b4, b5, b6, b7, b8, b9, b10, b11⟩ := B
      have bb : ∀ k, (k < 38 ∨ 48 ≤ k) → g' k = g k := fun k hk => b1 k (by omega)
      refine ⟨?_, ?_, ?_, ?_, ?_, ?_, ?_, ?_⟩
      · simp [up_a, upR_a, bb]; exact hh1
      · simp [up_a, upR_a, bb]; exact hh2
      · simp [up_a, upR_a, bb]; exact hh3
      · simp [up_a, upR_a, bb]; exact ⟨T, Q, S, tr, hc⟩
      · simp only [up_a, upR_a, Nat.reduceEqDiff, if_false, reduceIte, bb 28 (by omega), bb 29 (by omega), bb 30 (by omega), bb 31 (by omega), bb 32 (by omega), bb 33 (by omega), bb 34 (by omega), bb 35 (by omega), bb 36 (by omega), bb 37 (by omega)]
        refine ⟨?_, ?_⟩
        · obtain ⟨T', Q', S', tr', hc'⟩ := hh5.1
          refine ⟨T', Q', S', tr', hc'.congr ⟨rfl, rfl, rfl, rfl, rfl, rfl, rfl, rfl⟩ (fun _ _ => rfl) (fun _ _ => rfl) (fun _ _ => rfl) (fun _ _ => rfl) (fun _ _ => rfl) (fun _ _ => rfl) (fun _ _ => rfl) (fun _ _ => rfl) (fun _ _ => rfl) (fun j hj => ?_)⟩
          rw [if_neg (by omega), bb 68 (by omega)]
        · simp only [upd_a, bb 69 (by omega)]; rw [if_neg (by omega)]; exact hh5.2
      · simp only [up_a, upR_a, Nat.reduceEqDiff, if_false, reduceIte]
        refine ⟨⟨T, Q, S, tr, hc.congr b2 b3 b4 b5 b6 b7 b8 b9 b10 b11 (fun j hj => ?_)⟩, ?_⟩
        · rw [if_pos (by omega), bb 66 (by omega)]; congr 1; omega
        · rw [b2.1, h1]; simp [upd_a]
      · simp [up_a, upR_a, bb]; exact hh7
      · simp [up_a, upR_a, bb]; exact hh8
