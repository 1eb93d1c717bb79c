/-- Arrays.fill over a part -/
theorem fill4_L (q nq a N : Nat) (l1 v : Int32) (K : Int32 → Mem → Option (Int32 × Mem)) (g : Mem) (ha : a ≤ N) (hN : N ≤ nq) (hq : nq < 2 ^ 31) (hF : N < 60000) : fJ7_fill_fda19_L10 q nq l1 (nI N) v K FU (nI a) g = K (nI N) (upR g q (fun j => if a ≤ j ∧ j < N then v else g q j)) := by
  refine loopI (fun n i s => fJ7_fill_fda19_L10 q nq l1 (nI N) v K n (nI i) s) _ (fun i s => a ≤ i ∧ s = upR g q (fun j => if a ≤ j ∧ j < i then v else g q j)) N ?_ ?_ (N - a) FU a g (by omega) (by rw [FU_e]; omega) ⟨Nat.le_refl a, ?_⟩
  · rintro n s ⟨-, rfl⟩
    show fJ7_fill_fda19_L10 q nq l1 (nI N) v K (n + 1) (nI N) _ = _
    rw [fJ7_fill_fda19_L10, if_pos (nI_le (Nat.le_refl N) (by omega))]
  · rintro n i s hi ⟨h1, rfl⟩
    refine ⟨_, ⟨by omega, rfl⟩, ?_⟩
    show fJ7_fill_fda19_L10 q nq l1 (nI N) v K (n + 1) (nI i) _ = fJ7_fill_fda19_L10 q nq l1 (nI N) v K n (nI (i + 1)) _
    rw [fJ7_fill_fda19_L10, if_neg (nI_ge hi (by omega)), as_nI (by omega) hq, up_upR, nI_1]
    congr 2
    funext j
    simp only [upd_a]
    by_cases hj : j = i
    · subst hj; simp [h1]
    · rw [if_neg hj]
      by_cases h2 : a ≤ j ∧ j < i
      · rw [if_pos h2, if_pos (by omega)]
      · rw [if_neg h2, if_neg (by omega)]
  · have : (fun j => if a ≤ j ∧ j < a then v else g q j) = g q := by funext j; rw [if_neg (by omega)]
    rw [this, upR_self]
theorem fill4 (q nq a N : Nat) (v : Int32) (g : Mem) (ha : a ≤ N) (hN : N ≤ nq) (hq : nq < 2 ^ 31) (hF : N < 60000) : fJ7_fill_fda19 q nq (nI a) (nI N) v g = some (0, upR g q (fun j => if a ≤ j ∧ j < N then v else g q j)) := by
  unfold fJ7_fill_fda19 fJ7_rangeCheck_23922
  rw [if_pos (nI_le ha (by omega)), if_pos (nI_pos' (by omega)), if_pos (show nI N ≤ Int32.ofNat nq from nI_le hN hq), cl_s, fill4_L q nq a N _ v _ g ha hN hq hF]
theorem fill2 (q nq : Nat) (v : Int32) (g : Mem) (hq : nq < 60000) : fJ7_fill_53178 q nq v g = some (0, upR g q (fun j => if j < nq then v else g q j)) := by
  unfold fJ7_fill_53178
  rw [lt_e]
  refine loopI (fun n i s => fJ7_fill_53178_L5 q nq v (Int32.ofNat nq) (fun _ g4 => some (0, g4)) n (nI i) s) _ (fun i s => s = upR g q (fun j => if j < i then v else g q j)) nq ?_ ?_ nq FU 0 g (by omega) (by rw [FU_e]; omega) ?_
  · rintro n s rfl
    show fJ7_fill_53178_L5 q nq v (nI nq) (fun _ g4 => some (0, g4)) (n + 1) (nI nq) _ = _
    rw [fJ7_fill_53178_L5, if_pos (nI_le (Nat.le_refl nq) (by omega))]
  · rintro n i s hi rfl
    refine ⟨_, rfl, ?_⟩
    show fJ7_fill_53178_L5 q nq v (nI nq) (fun _ g4 => some (0, g4)) (n + 1) (nI i) _ = fJ7_fill_53178_L5 q nq v (nI nq) (fun _ g4 => some (0, g4)) n (nI (i + 1)) _
    rw [fJ7_fill_53178_L5, if_neg (nI_ge hi (by omega)), as_nI hi (by omega), up_upR, nI_1]
    congr 2
    funext j
    simp only [upd_a]
    by_cases hj : j = i
    · subst hj; simp
    · rw [if_neg hj]
      by_cases h2 : j < i
      · rw [if_pos h2, if_pos (by omega)]
      · rw [if_neg h2, if_neg (by omega)]
  · have : (fun j => if j < 0 then v else g q j) = g q := by funext j; rw [if_neg (by omega)]
    rw [this, upR_self]
theorem row_L (r : Nat) (hr : r < 8) (l2 l3 : Int32) (K : Int32 → Mem → Option (Int32 × Mem)) (g : Mem) : fX7_row_L52 (nI r) l2 l3 K FU 0 g = K (nI 40) (upR g 64 (fun j => if 40 * r ≤ j ∧ j < 40 * r + 40 then 0 else g 64 j)) := by
  refine loopI (fun n i s => fX7_row_L52 (nI r) l2 l3 K n (nI i) s) _ (fun i s => s = upR g 64 (fun j => if 40 * r ≤ j ∧ j < 40 * r + i then 0 else g 64 j)) 40 ?_ ?_ 40 FU 0 g (by omega) (by rw [FU_e]; omega) ?_
  · rintro n s rfl
    show fX7_row_L52 (nI r) l2 l3 K (n + 1) (nI 40) _ = _
    rw [fX7_row_L52, if_pos (by decide)]
  · rintro n i s hi rfl
    refine ⟨_, rfl, ?_⟩
    show fX7_row_L52 (nI r) l2 l3 K (n + 1) (nI i) _ = fX7_row_L52 (nI r) l2 l3 K n (nI (i + 1)) _
    rw [fX7_row_L52, show (40 : Int32) = nI 40 from rfl, if_neg (nI_ge hi (by omega)), pk_mul, nI_add, as_nI (by omega) (by omega), up_upR, nI_1]
    congr 2
    funext j
    simp only [upd_a]
    by_cases hj : j = 40 * r + i
    · subst hj; rw [if_pos rfl, if_pos (by omega)]
    · rw [if_neg hj]
      by_cases h2 : 40 * r ≤ j ∧ j < 40 * r + i
      · rw [if_pos h2, if_pos (by omega)]
      · rw [if_neg h2, if_neg (by omega)]
  · have : (fun j => if 40 * r ≤ j ∧ j < 40 * r + 0 then 0 else g 64 j) = g 64 := by funext j; rw [if_neg (by omega)]
    rw [this, upR_self]
theorem Both.of {g g1 g2 : Mem} {F G : Mem → Option (Int32 × Mem)} {r : Int32} (h1 : F g = some (r, g1)) (h2 : G g1 = some (r, g2)) (h3 : Inv g2) : Both g F G := ⟨r, g1, g2, h1, h2, h3⟩
theorem E_row {g : Mem} (h : Inv g) (x y z : Int32) : Both g (fun g => fX6_row x y z g) (fun g => fX7_row x y z g) := by
  have bad : (x < 0 ∨ nI 8 ≤ x) → Both g (fun g => fX6_row x y z g) (fun g => fX7_row x y z g) := fun hx => by
    refine ⟨-1000001, g, g, ?_, ?_, h⟩
    · simp only [fX6_row]
      rw [show (8 : Int32) = nI 8 from rfl, below_f hx, cl_s, if_pos rfl]
    · simp only [fX7_row]
      rw [isRow_f hx, cl_s, if_pos rfl]
  rcases pk_ix x (n := 8) (by omega) with hx | hx | ⟨r, hr, rfl⟩
  · exact bad (Or.inl hx)
  · exact bad (Or.inr hx)
  have bad : (y < 0 ∨ nI 3 ≤ y) → Both g (fun g => fX6_row (nI r) y z g) (fun g => fX7_row (nI r) y z g) := fun hx => by
    refine ⟨-1000001, g, g, ?_, ?_, h⟩
    · simp only [fX6_row]
      rw [show (8 : Int32) = nI 8 from rfl, below_t hr (by omega), cl_s, if_neg (by decide), show (3 : Int32) = nI 3 from rfl, below_f hx, cl_s, if_pos rfl]
    · simp only [fX7_row]
      rw [isRow_t hr, cl_s, if_neg (by decide), show (2 : Int32) = nI 2 from rfl, inN_f (by omega) hx, cl_s, if_pos rfl]
  rcases pk_ix y (n := 3) (by omega) with hx | hx | ⟨k, hk, rfl⟩
  · exact bad (Or.inl hx)
  · exact bad (Or.inr hx)
  have e6 : fX6_row (nI r) (nI k) z g = if z ≤ (40 : Int32) then (if 0 ≤ z then (cl (fX4_lay (nI r) (nI k) z g) fun r5 g6 => (cl (fX6_clean z g6) fun r7 g8 => (some (r7, g8)))) else (cl (fX6_found (4 : Int32) g) fun r9 g10 => (some (r9, g10)))) else (some ((-1000001 : Int32), g)) := by
    simp only [fX6_row]
    rw [show (8 : Int32) = nI 8 from rfl, below_t hr (by omega), cl_s, if_neg (by decide), show (3 : Int32) = nI 3 from rfl, below_t hk (by omega), cl_s, if_neg (by decide)]
  have e7 : ∀ g, fX7_row (nI r) (nI k) z g = if z ≤ (40 : Int32) then (if 0 ≤ z then (as_ g 62 8 (nI r) (nI k) fun g5 => (as_ g5 63 8 (nI r) z fun g6 => (fX7_row_L52 (nI r) (nI k) z (fun l8 g9 => cl (fX7_done z g9) fun r10 g11 => (some (r10, g11))) FU (0 : Int32) g6))) else (cl (fX7_finds (4 : Int32) g) fun r12 g13 => (some (r12, g13)))) else (some ((-1000001 : Int32), g)) := fun g => by
    simp only [fX7_row]
    rw [isRow_t hr, cl_s, if_neg (by decide), show (2 : Int32) = nI 2 from rfl, inN_t (by omega) (by omega), cl_s, if_neg (by decide)]
  by_cases hz : z ≤ 40
  rotate_left
  · refine ⟨-1000001, g, g, ?_, ?_, h⟩
    · show fX6_row (nI r) (nI k) z g = _
      rw [e6, if_neg hz]
    · show fX7_row (nI r) (nI k) z g = _
      rw [e7, if_neg hz]
  by_cases hz0 : 0 ≤ z
  rotate_left
  · refine ⟨-1000014, up g 0 10 4, up (up g 0 10 4) 61 3 4, ?_, ?_, Inv_st h 4⟩
    · show fX6_row (nI r) (nI k) z g = _
      rw [e6, if_pos hz, if_neg hz0, found_e, cl_s]; rfl
    · show fX7_row (nI r) (nI k) z _ = _
      rw [e7, if_pos hz, if_neg hz0, finds_e, cl_s]; rfl
  obtain ⟨n, hn, rfl⟩ : ∃ n : Nat, n ≤ 40 ∧ z = nI n := nI_of2 (M := 40) (n := 40) (by decide) (by rw [q_lt]; rw [q_le] at hz0; exact Int.not_lt.mpr hz0) hz
  apply Both.of (r := nI n)
  · show fX6_row (nI r) (nI k) (nI n) g = _
    rw [e6, if_pos hz, if_pos hz0]
    simp only [fX4_lay]
    rw [as_nI hr (by omega), as_nI hr (by omega), show (40 : Int32) = nI 40 from rfl, pk_mul, nI_add, fill4 4 320 (r * 40) (r * 40 + 40) 0 _ (by omega) (by omega) (by omega) (by omega), cl_s, cl_s, clean_e, cl_s]
  · show fX7_row (nI r) (nI k) (nI n) _ = _
    rw [e7, if_pos hz, if_pos hz0, as_nI hr (by omega), as_nI hr (by omega), row_L r hr, done_e, cl_s]
  · obtain ⟨h1, h2, h3, h4, h5, h6, h7, h8⟩ := h
    have hs : (8 : Int32) <<< (nI k &&& 31) = nI (8 * 2 ^ k) := by
      rcases (show k = 0 ∨ k = 1 ∨ k = 2 by omega) with rfl | rfl | rfl <;> decide
    refine ⟨?_, ?_, ?_, ?_, ?_, ?_, ?_, ?_⟩ <;> simp [up_a, upR_a, upd_a] <;> try first | assumption | exact h3.2
    refine ⟨fun i hi => ?_, fun i hi => ?_⟩
    · obtain ⟨⟨n', hn', s1, s2⟩, hw⟩ := h1.1 i hi
      by_cases hir : i = r
      · subst hir
        simp only [upd_a, if_pos]
        exact ⟨⟨n, hn, rfl, rfl⟩, Or.inr ⟨k, hk, rfl, hs⟩⟩
      · simp only [upd_a, if_neg hir]
        exact ⟨⟨n', hn', s1, s2⟩, hw⟩
    · simp only [Nat.mul_comm r 40]
      by_cases hc : 40 * r ≤ i ∧ i < 40 * r + 40
      · rw [if_pos hc, if_pos hc]
      · rw [if_neg hc, if_neg hc]; exact h1.2 i hi
theorem places_e {g : Mem} {r n : Nat} (hr : r < 8) (hs : g 3 r = nI n) (i k : Int32) : fX4_hasPlaces (nI r) i k g = some (if ¬ i < 0 ∧ ¬ k < 0 ∧ ¬ nI n < k ∧ ¬ nI n - k < i then 1 else 0, g) := by
  unfold fX4_hasPlaces
  rw [al_nI hr (by omega), al_nI hr (by omega), hs]
  by_cases h1 : i < 0
  · simp [h1]
  · by_cases h2 : k < 0
    · simp [h1, h2]
    · by_cases h3 : nI n < k
      · simp [h1, h2, h3]
      · by_cases h4 : nI n - k < i
        · simp [h1, h2, h3, h4]
        · simp [h1, h2, h3, h4]
theorem part_e (i k n : Int32) (g : Mem) : fX7_isPart i k n g = some (if ¬ i < 0 ∧ ¬ k < 0 ∧ ¬ n < k ∧ ¬ n - k < i then 1 else 0, g) := by
  unfold fX7_isPart
  by_cases h1 : i < 0
  · simp [h1]
  · by_cases h2 : k < 0
    · simp [h1, h2]
    · by_cases h3 : n < k
      · simp [h1, h2, h3]
      · by_cases h4 : n - k < i
        · simp [h1, h2, h3, h4]
        · simp [h1, h2, h3, h4]
/-- a part of a row: where it begins, how long it is -/
theorem part_ok {i k : Int32} {n : Nat} (hn : n ≤ 40) (h : ¬ i < 0 ∧ ¬ k < 0 ∧ ¬ nI n < k ∧ ¬ nI n - k < i) : ∃ a b : Nat, i = nI a ∧ k = nI b ∧ a + b ≤ n := by
  obtain ⟨h1, h2, h3, h4⟩ := h
  obtain ⟨b, hb, rfl⟩ := nI_of h2
  have hbn : b ≤ n := by
    rw [q_lt, nI_toInt (by omega), nI_toInt hb] at h3; omega
  rw [pk_sub hbn] at h4
  obtain ⟨a, ha, rfl⟩ := nI_of h1
  rw [q_lt, nI_toInt (by omega), nI_toInt ha] at h4
  exact ⟨a, b, rfl, rfl, by omega⟩
theorem E_set {g : Mem} (h : Inv g) (x y z : Int32) : Both g (fun g => fX6_set x y z g) (fun g => fX7_set x y z g) := by
  have bad : (x < 0 ∨ nI 8 ≤ x) → Both g (fun g => fX6_set x y z g) (fun g => fX7_set x y z g) := fun hx => by
    refine ⟨-1000001, g, g, ?_, ?_, h⟩
    · simp only [fX6_set]
      rw [show (8 : Int32) = nI 8 from rfl, below_f hx, cl_s, if_pos rfl]
    · simp only [fX7_set]
      rw [isRow_f hx, cl_s, if_pos rfl]
  rcases pk_ix x (n := 8) (by omega) with hx | hx | ⟨r, hr, rfl⟩
  · exact bad (Or.inl hx)
  · exact bad (Or.inr hx)
  obtain ⟨⟨n, hn, s1, s2⟩, hw⟩ := h.1.1 r hr
  rcases hw with ⟨w1, w2⟩ | ⟨k, hk, w1, w2⟩
  · refine ⟨-1000011, up g 0 10 1, up (up g 0 10 1) 61 3 1, ?_, ?_, Inv_st h 1⟩
    · simp only [fX6_set, fX4_isMissing]
      rw [show (8 : Int32) = nI 8 from rfl, below_t hr (by omega), cl_s, if_neg (by decide), al_nI hr (by omega), w1, if_pos rfl, cl_s, if_neg (by decide), found_e, cl_s]
      rfl
    · simp only [fX7_set]
      rw [isRow_t hr, cl_s, if_neg (by decide), al_nI hr (by omega)]
      have : (up g 0 10 1) 62 r = -1 := by simp [up_a, w2]
      rw [this, if_neg (by decide), finds_e, cl_s]
      rfl
  have hw0 : ¬ nI (8 * 2 ^ k) = 0 := by
    rcases (show k = 0 ∨ k = 1 ∨ k = 2 by omega) with rfl | rfl | rfl <;> decide
  have e6 : fX6_set (nI r) y z g = cl (fX4_hasPlaces (nI r) y 1 g) fun r5 g6 => (if r5 = 0 then (cl (fX6_found (2 : Int32) g6) fun r7 g8 => (some (r7, g8))) else (cl (fX4_put (nI r) y z g6) fun r9 g10 => (cl (fX6_clean r9 g10) fun r11 g12 => (some (r11, g12))))) := by
    simp only [fX6_set, fX4_isMissing]
    rw [show (8 : Int32) = nI 8 from rfl, below_t hr (by omega), cl_s, if_neg (by decide), al_nI hr (by omega), w2, if_neg hw0, cl_s, if_pos rfl]
  rw [places_e hr s1, cl_s] at e6
  have p1 : (¬ y < 0 ∧ ¬ (1 : Int32) < 0 ∧ ¬ nI n < 1 ∧ ¬ nI n - 1 < y) ∨ (y < 0 ∨ nI n - 1 < y) := by
    by_cases h1 : y < 0
    · exact Or.inr (Or.inl h1)
    · by_cases h2 : nI n - 1 < y
      · exact Or.inr (Or.inr h2)
      · left
        refine ⟨h1, by decide, ?_, h2⟩
        rw [q_lt, q_m1 (by omega)] at h2
        rw [q_lt] at h1 ⊢
        rw [nI_toInt (by omega)]
        have : (0 : Int32).toInt = 0 := by decide
        have : (1 : Int32).toInt = 1 := by decide
        omega
  rcases p1 with hp | hp
  rotate_left
  · refine ⟨-1000012, up g 0 10 2, up (up g 0 10 2) 61 3 2, ?_, ?_, Inv_st h 2⟩
    · show fX6_set (nI r) y z g = _
      have hnp : ¬ (¬ y < 0 ∧ ¬ (1 : Int32) < 0 ∧ ¬ nI n < 1 ∧ ¬ nI n - 1 < y) := by rintro ⟨a, -, -, b⟩; exact hp.elim a b
      rw [e6, if_neg hnp, if_pos rfl, found_e, cl_s]; rfl
    · simp only [fX7_set]
      rw [isRow_t hr, cl_s, if_neg (by decide), al_nI hr (by omega)]
      have e1 : (up g 0 10 2) 62 r = nI k := by simp [up_a, w1]
      rw [e1, if_pos (nI_pos' (by omega)), al_nI hr (by omega)]
      have e2 : (up g 0 10 2) 63 r = nI n := by simp [up_a, s2]
      rw [e2, in_f hp, cl_s, if_pos rfl, finds_e, cl_s]; rfl
  obtain ⟨a, b, rfl, hb, hab⟩ := part_ok hn hp
  have hb1 : b = 1 := by
    have : nI 1 = nI b := hb
    by_cases hb2 : b < 2 ^ 31
    · exact ((nI_eq (by omega) hb2).mp this).symm
    · omega
  subst hb1
  -- the value that is put
  have hv : ((z <<< (((32 : Int32) - nI (8 * 2 ^ k)) &&& 31)) >>> (((32 : Int32) - nI (8 * 2 ^ k)) &&& 31)) = (if nI k = 0 then z.toInt8.toInt32 else if nI k = 1 then z.toInt16.toInt32 else z) := by
    rcases (show k = 0 ∨ k = 1 ∨ k = 2 by omega) with rfl | rfl | rfl
    · rw [if_pos (by decide)]; exact sh24 z
    · rw [if_neg (by decide), if_pos (by decide)]; exact sh16 z
    · rw [if_neg (by decide), if_neg (by decide)]
      show (z <<< ((0 : Int32) &&& 31)) >>> ((0 : Int32) &&& 31) = z
      rw [sb_shl0, sb_shr0]
  generalize hV : (if nI k = 0 then z.toInt8.toInt32 else if nI k = 1 then z.toInt16.toInt32 else z) = V at hv
  refine ⟨V, up (up g 4 (r * 40 + a) V) 0 10 0, up (up (up (up g 4 (r * 40 + a) V) 0 10 0) 64 (r * 40 + a) V) 61 3 0, ?_, ?_, ?_⟩
  · show fX6_set (nI r) (nI a) z g = _
    rw [e6, if_pos hp, if_neg (by decide)]
    simp only [fX4_put]
    rw [al_nI hr (by omega), w2, lt_e, hv, show (40 : Int32) = nI 40 from rfl, pk_mul, nI_add, as_nI (by omega) (by omega), al_nI (by omega) (by omega), cl_s, clean_e, cl_s]
    simp [up_a, upd_a]
  · generalize hg1 : up (up g 4 (r * 40 + a) V) 0 10 0 = g1
    have e1 : g1 62 r = nI k := by rw [← hg1]; simp [up_a, w1]
    have e2 : g1 63 r = nI n := by rw [← hg1]; simp [up_a, s2]
    simp only [fX7_set]
    rw [isRow_t hr, cl_s, if_neg (by decide), al_nI hr (by omega), e1, if_pos (nI_pos' (by omega)), al_nI hr (by omega), e2, inC_t (by omega) (by omega), cl_s, if_neg (by decide), al_nI hr (by omega), al_nI hr (by omega), e1, show (40 : Int32) = nI 40 from rfl, pk_mul, nI_add, Nat.mul_comm 40 r]
    by_cases k0 : nI k = 0
    · rw [if_pos k0] at hV ⊢
      rw [as_nI (by omega) (by omega), al_nI (by omega) (by omega), done_e, cl_s, hV]
      simp [up_a, upd_a]
    · rw [if_neg k0] at hV ⊢
      by_cases k1 : nI k = 1
      · rw [if_pos k1] at hV ⊢
        rw [as_nI (by omega) (by omega), al_nI (by omega) (by omega), done_e, cl_s, hV]
        simp [up_a, upd_a]
      · rw [if_neg k1] at hV ⊢
        rw [as_nI (by omega) (by omega), al_nI (by omega) (by omega), done_e, cl_s, hV]
        simp [up_a, upd_a]
  · obtain ⟨h1, h2, h3, h4, h5, h6, h7, h8⟩ := h
    refine ⟨?_, ?_, ?_, ?_, ?_, ?_, ?_, ?_⟩ <;> simp [up_a, upR_a, upd_a] <;> try first | assumption | exact h3.2
    refine ⟨h1.1, fun i hi => ?_⟩
    simp only [upd_a]
    by_cases hc : i = r * 40 + a
    · rw [if_pos hc, if_pos hc]
    · rw [if_neg hc, if_neg hc]; exact h1.2 i hi
