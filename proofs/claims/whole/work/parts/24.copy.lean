theorem ac_nI {g : Mem} {a n0 b n1 sp dp n : Nat} {G : Mem → Option (Int32 × Mem)} (h1 : sp + n ≤ n0) (h2 : dp + n ≤ n1) (h3 : n0 < 2 ^ 31) (h4 : n1 < 2 ^ 31) : ac g a n0 (nI sp) b n1 (nI dp) (nI n) G = G (cpy g a sp b dp n) := by
  unfold ac
  rw [nI_clamp (by omega), nI_clamp (by omega), nI_clamp (by omega), if_pos ⟨nI_pos (by omega), nI_pos (by omega), nI_pos (by omega), h1, h2⟩]
theorem copy_L0 (a i b j n : Nat) (hn : n ≤ 40) (h1 : 40 * a + i + n ≤ 320) (h2 : 40 * b + j + n ≤ 320) (h3 : 40 * b + j ≤ 40 * a + i ∨ 40 * a + i + n ≤ 40 * b + j) (K : Int32 → Mem → Option (Int32 × Mem)) (g : Mem) :
    fX7_copy_L120 (nI a) (nI i) (nI b) (nI j) (nI n) 0 K FU 0 g = K (nI n) (upR g 64 (fun q => if 40 * b + j ≤ q ∧ q < 40 * b + j + n then g 64 (40 * a + i + (q - (40 * b + j))) else g 64 q)) := by
  refine loopI (fun m k s => fX7_copy_L120 (nI a) (nI i) (nI b) (nI j) (nI n) 0 K m (nI k) s) _ (fun k s => s = upR g 64 (fun q => if 40 * b + j ≤ q ∧ q < 40 * b + j + k then g 64 (40 * a + i + (q - (40 * b + j))) else g 64 q)) n ?_ ?_ n FU 0 g (by omega) (by rw [FU_e]; omega) ?_
  · rintro m s rfl
    show fX7_copy_L120 (nI a) (nI i) (nI b) (nI j) (nI n) 0 K (m + 1) (nI n) _ = _
    rw [fX7_copy_L120, if_pos (nI_le (Nat.le_refl n) (by omega))]
  · rintro m k s hk rfl
    refine ⟨_, rfl, ?_⟩
    show fX7_copy_L120 (nI a) (nI i) (nI b) (nI j) (nI n) 0 K (m + 1) (nI k) _ = fX7_copy_L120 (nI a) (nI i) (nI b) (nI j) (nI n) 0 K m (nI (k + 1)) _
    rw [fX7_copy_L120, if_neg (nI_ge hk (by omega)), if_pos rfl]
    simp only [show (40 : Int32) = nI 40 from rfl, pk_mul, nI_add, nI_1]
    rw [al_nI (by omega) (by omega), as_nI (by omega) (by omega), up_upR]
    congr 2
    funext q
    simp only [upd_a, upR_a, if_pos]
    by_cases hq : q = 40 * b + j + k
    · subst hq
      rw [if_pos rfl, if_neg (by omega), if_pos (by omega)]
      congr 1; omega
    · rw [if_neg hq]
      by_cases h2 : 40 * b + j ≤ q ∧ q < 40 * b + j + k
      · rw [if_pos h2, if_pos (by omega)]
      · rw [if_neg h2, if_neg (by omega)]
  · have : (fun q => if 40 * b + j ≤ q ∧ q < 40 * b + j + 0 then g 64 (40 * a + i + (q - (40 * b + j))) else g 64 q) = g 64 := by funext q; rw [if_neg (by omega)]
    rw [this, upR_self]
theorem copy_L1 (a i b j n : Nat) (hn : n ≤ 40) (h1 : 40 * a + i + n ≤ 320) (h2 : 40 * b + j + n ≤ 320) (h3 : 40 * a + i < 40 * b + j) (K : Int32 → Mem → Option (Int32 × Mem)) (g : Mem) :
    fX7_copy_L120 (nI a) (nI i) (nI b) (nI j) (nI n) 1 K FU 0 g = K (nI n) (upR g 64 (fun q => if 40 * b + j ≤ q ∧ q < 40 * b + j + n then g 64 (40 * a + i + (q - (40 * b + j))) else g 64 q)) := by
  have e : ∀ k, k ≤ n → (fun q => if 40 * b + j ≤ q ∧ q < 40 * b + j + n then g 64 (40 * a + i + (q - (40 * b + j))) else g 64 q) = (fun q => if 40 * b + j + (n - n) ≤ q ∧ q < 40 * b + j + n then g 64 (40 * a + i + (q - (40 * b + j))) else g 64 q) := by
    intro k _; simp
  rw [e 0 (by omega)]
  refine loopI (fun m k s => fX7_copy_L120 (nI a) (nI i) (nI b) (nI j) (nI n) 1 K m (nI k) s) _ (fun k s => s = upR g 64 (fun q => if 40 * b + j + (n - k) ≤ q ∧ q < 40 * b + j + n then g 64 (40 * a + i + (q - (40 * b + j))) else g 64 q)) n ?_ ?_ n FU 0 g (by omega) (by rw [FU_e]; omega) ?_
  · rintro m s rfl
    show fX7_copy_L120 (nI a) (nI i) (nI b) (nI j) (nI n) 1 K (m + 1) (nI n) _ = _
    rw [fX7_copy_L120, if_pos (nI_le (Nat.le_refl n) (by omega))]
  · rintro m k s hk rfl
    refine ⟨_, rfl, ?_⟩
    show fX7_copy_L120 (nI a) (nI i) (nI b) (nI j) (nI n) 1 K (m + 1) (nI k) _ = fX7_copy_L120 (nI a) (nI i) (nI b) (nI j) (nI n) 1 K m (nI (k + 1)) _
    rw [fX7_copy_L120, if_neg (nI_ge hk (by omega)), if_neg (by decide), lt_e]
    have hx : nI n - 1 - nI k = nI (n - 1 - k) := by
      show nI n - nI 1 - nI k = _
      rw [pk_sub (by omega), pk_sub (by omega)]
    simp only [hx, show (40 : Int32) = nI 40 from rfl, pk_mul, nI_add, nI_1]
    rw [al_nI (by omega) (by omega), as_nI (by omega) (by omega), up_upR]
    congr 2
    funext q
    simp only [upd_a, upR_a, if_pos]
    by_cases hq : q = 40 * b + j + (n - 1 - k)
    · subst hq
      rw [if_pos rfl, if_neg (by omega), if_pos (by omega)]
      congr 1; omega
    · rw [if_neg hq]
      by_cases h2 : 40 * b + j + (n - k) ≤ q ∧ q < 40 * b + j + n
      · rw [if_pos h2, if_pos (by omega)]
      · rw [if_neg h2, if_neg (by omega)]
  · have : (fun q => if 40 * b + j + (n - 0) ≤ q ∧ q < 40 * b + j + n then g 64 (40 * a + i + (q - (40 * b + j))) else g 64 q) = g 64 := by funext q; rw [if_neg (by omega)]
    rw [this, upR_self]
theorem missing_t {g : Mem} {r : Nat} (hr : r < 8) (h : g 2 r = 0) : fX4_isMissing (nI r) g = some (1, g) := by
  unfold fX4_isMissing
  rw [al_nI hr (by omega), h, if_pos rfl]
theorem missing_f {g : Mem} {r : Nat} (hr : r < 8) (h : ¬ g 2 r = 0) : fX4_isMissing (nI r) g = some (0, g) := by
  unfold fX4_isMissing
  rw [al_nI hr (by omega), if_neg h]
theorem w_ne0 {k : Nat} (hk : k < 3) : ¬ nI (8 * 2 ^ k) = 0 := by
  rcases (show k = 0 ∨ k = 1 ∨ k = 2 by omega) with rfl | rfl | rfl <;> decide
theorem w_inj {k l : Nat} (hk : k < 3) (hl : l < 3) : nI (8 * 2 ^ k) = nI (8 * 2 ^ l) ↔ nI k = nI l := by
  rcases (show k = 0 ∨ k = 1 ∨ k = 2 by omega) with rfl | rfl | rfl <;> rcases (show l = 0 ∨ l = 1 ∨ l = 2 by omega) with rfl | rfl | rfl <;> decide
theorem E_copy {g : Mem} (h : Inv g) (x y z u v : Int32) : Both g (fun g => fX6_copy x y z u v g) (fun g => fX7_copy x y z u v g) := by
  have bad : (x < 0 ∨ nI 8 ≤ x) → Both g (fun g => fX6_copy x y z u v g) (fun g => fX7_copy x y z u v g) := fun hx => by
    refine ⟨-1000001, g, g, ?_, ?_, h⟩
    · simp only [fX6_copy]
      rw [show (8 : Int32) = nI 8 from rfl, below_f hx, cl_s, if_pos rfl]
    · simp only [fX7_copy]
      rw [isRow_f hx, cl_s, if_pos rfl]
  rcases pk_ix x (n := 8) (by omega) with hx | hx | ⟨a, ha, rfl⟩
  · exact bad (Or.inl hx)
  · exact bad (Or.inr hx)
  have bad : (z < 0 ∨ nI 8 ≤ z) → Both g (fun g => fX6_copy (nI a) y z u v g) (fun g => fX7_copy (nI a) y z u v g) := fun hx => by
    refine ⟨-1000001, g, g, ?_, ?_, h⟩
    · simp only [fX6_copy]
      rw [show (8 : Int32) = nI 8 from rfl, below_t ha (by omega), cl_s, if_neg (by decide), below_f hx, cl_s, if_pos rfl]
    · simp only [fX7_copy]
      rw [isRow_t ha, cl_s, if_neg (by decide), isRow_f hx, cl_s, if_pos rfl]
  rcases pk_ix z (n := 8) (by omega) with hx | hx | ⟨b, hb, rfl⟩
  · exact bad (Or.inl hx)
  · exact bad (Or.inr hx)
  obtain ⟨⟨n, hn, s1, s2⟩, hw⟩ := h.1.1 a ha
  obtain ⟨⟨m, hm, t1, t2⟩, hv⟩ := h.1.1 b hb
  rcases hw with ⟨w1, w2⟩ | ⟨k, hk, w1, w2⟩
  · refine ⟨-1000011, up g 0 10 1, up (up g 0 10 1) 61 3 1, ?_, ?_, Inv_st h 1⟩
    · simp only [fX6_copy]
      rw [show (8 : Int32) = nI 8 from rfl, below_t ha (by omega), cl_s, if_neg (by decide), below_t hb (by omega), cl_s, if_neg (by decide), missing_t ha w1, cl_s, if_neg (by decide), found_e, cl_s]
      rfl
    · simp only [fX7_copy]
      rw [isRow_t ha, cl_s, if_neg (by decide), isRow_t hb, cl_s, if_neg (by decide), al_nI ha (by omega)]
      have : (up g 0 10 1) 62 a = -1 := by simp [up_a, w2]
      rw [this, if_pos (by decide), finds_e, cl_s]
      rfl
  rcases hv with ⟨v1, v2⟩ | ⟨l, hl, v1, v2⟩
  · refine ⟨-1000011, up g 0 10 1, up (up g 0 10 1) 61 3 1, ?_, ?_, Inv_st h 1⟩
    · simp only [fX6_copy]
      rw [show (8 : Int32) = nI 8 from rfl, below_t ha (by omega), cl_s, if_neg (by decide), below_t hb (by omega), cl_s, if_neg (by decide), missing_f ha (by rw [w2]; exact w_ne0 hk), cl_s, if_pos rfl, missing_t hb v1, cl_s, if_neg (by decide), found_e, cl_s]
      rfl
    · simp only [fX7_copy]
      rw [isRow_t ha, cl_s, if_neg (by decide), isRow_t hb, cl_s, if_neg (by decide), al_nI ha (by omega)]
      have e1 : (up g 0 10 1) 62 a = nI k := by simp [up_a, w1]
      have e2 : (up g 0 10 1) 62 b = -1 := by simp [up_a, v2]
      rw [e1, if_neg (nI_pos (by omega)), al_nI hb (by omega), e2, if_neg (by decide), finds_e, cl_s]
      rfl
  have e6 : fX6_copy (nI a) y (nI b) u v g = (if nI k = nI l then (cl (fX4_hasPlaces (nI a) y v g) fun r13 g14 => (if r13 = 0 then (cl (fX6_found (2 : Int32) g14) fun r15 g16 => (some (r15, g16))) else (cl (fX4_hasPlaces (nI b) u v g14) fun r17 g18 => (if r17 = 0 then (cl (fX6_found (2 : Int32) g18) fun r19 g20 => (some (r19, g20))) else (cl (fX4_move (nI a) y (nI b) u v g18) fun r21 g22 => (cl (fX6_clean v g22) fun r23 g24 => (some (r23, g24)))))))) else some (-1000015, up g 0 10 5)) := by
    simp only [fX6_copy, fX4_areAlike]
    rw [show (8 : Int32) = nI 8 from rfl, below_t ha (by omega), cl_s, if_neg (by decide), below_t hb (by omega), cl_s, if_neg (by decide), missing_f ha (by rw [w2]; exact w_ne0 hk), cl_s, if_pos rfl, missing_f hb (by rw [v2]; exact w_ne0 hl), cl_s, if_pos rfl, al_nI ha (by omega), al_nI hb (by omega), w2, v2]
    by_cases hkl : nI k = nI l
    · rw [if_pos ((w_inj hk hl).mpr hkl), if_pos hkl, cl_s, if_neg (by decide)]
    · rw [if_neg (fun q => hkl ((w_inj hk hl).mp q)), if_neg hkl, cl_s, if_pos rfl, found_e, cl_s]; rfl
  have e7 : ∀ g1 : Mem, g1 62 = g 62 → g1 63 = g 63 → fX7_copy (nI a) y (nI b) u v g1 = (if nI k = nI l then (cl (fX7_isPart y v (nI n) g1) fun r12 g13 => (if r12 = 0 then (cl (fX7_finds (2 : Int32) g13) fun r14 g15 => (some (r14, g15))) else (al g13 63 8 (nI b) fun v16 => (cl (fX7_isPart u v v16 g13) fun r17 g18 => (if r17 = 0 then (cl (fX7_finds (2 : Int32) g18) fun r19 g20 => (some (r19, g20))) else (if nI a = nI b then (if u ≤ y then (fX7_copy_L120 (nI a) y (nI b) u v (0 : Int32) (fun l26 g27 => cl (fX7_done v g27) fun r28 g29 => (some (r28, g29))) FU (0 : Int32) g18) else (fX7_copy_L120 (nI a) y (nI b) u v (1 : Int32) (fun l30 g31 => cl (fX7_done v g31) fun r32 g33 => (some (r32, g33))) FU (0 : Int32) g18)) else (fX7_copy_L120 (nI a) y (nI b) u v (0 : Int32) (fun l34 g35 => cl (fX7_done v g35) fun r36 g37 => (some (r36, g37))) FU (0 : Int32) g18))))))) else some (-1000015, up g1 61 3 5)) := by
    intro g1 q1 q2
    simp only [fX7_copy]
    rw [isRow_t ha, cl_s, if_neg (by decide), isRow_t hb, cl_s, if_neg (by decide), al_nI ha (by omega), q1, w1, if_neg (nI_pos (by omega)), al_nI hb (by omega), q1, v1, if_pos (nI_pos' (by omega)), al_nI ha (by omega), al_nI hb (by omega), q1, w1, v1, al_nI ha (by omega), q2, s2]
    by_cases hkl : nI k = nI l
    · rw [if_pos hkl, if_pos hkl]
    · rw [if_neg hkl, if_neg hkl, finds_e, cl_s]; rfl
  by_cases hkl : nI k = nI l
  rotate_left
  · refine ⟨-1000015, up g 0 10 5, up (up g 0 10 5) 61 3 5, ?_, ?_, Inv_st h 5⟩
    · show fX6_copy (nI a) y (nI b) u v g = _
      rw [e6, if_neg hkl]
    · show fX7_copy (nI a) y (nI b) u v _ = _
      rw [e7 _ (by simp [up_a]) (by simp [up_a]), if_neg hkl]
  rw [if_pos hkl, places_e ha s1, cl_s] at e6
  have e7 : ∀ g1 : Mem, g1 62 = g 62 → g1 63 = g 63 → _ := fun g1 q1 q2 => (e7 g1 q1 q2).trans (by rw [if_pos hkl, part_e, cl_s])
  by_cases p1 : ¬ y < 0 ∧ ¬ v < 0 ∧ ¬ nI n < v ∧ ¬ nI n - v < y
  rotate_left
  · refine ⟨-1000012, up g 0 10 2, up (up g 0 10 2) 61 3 2, ?_, ?_, Inv_st h 2⟩
    · show fX6_copy (nI a) y (nI b) u v g = _
      rw [e6, if_neg p1, if_pos rfl, found_e, cl_s]; rfl
    · show fX7_copy (nI a) y (nI b) u v _ = _
      rw [e7 _ (by simp [up_a]) (by simp [up_a]), if_neg p1, if_pos rfl, finds_e, cl_s]; rfl
  rw [if_pos p1, if_neg (by decide), places_e hb t1, cl_s] at e6
  have e7 : ∀ g1 : Mem, g1 62 = g 62 → g1 63 = g 63 → _ := fun g1 q1 q2 => (e7 g1 q1 q2).trans (by rw [if_pos p1, if_neg (by decide), al_nI hb (by omega), q2, t2, part_e, cl_s])
  by_cases p2 : ¬ u < 0 ∧ ¬ v < 0 ∧ ¬ nI m < v ∧ ¬ nI m - v < u
  rotate_left
  · refine ⟨-1000012, up g 0 10 2, up (up g 0 10 2) 61 3 2, ?_, ?_, Inv_st h 2⟩
    · show fX6_copy (nI a) y (nI b) u v g = _
      rw [e6, if_neg p2, if_pos rfl, found_e, cl_s]; rfl
    · show fX7_copy (nI a) y (nI b) u v _ = _
      rw [e7 _ (by simp [up_a]) (by simp [up_a]), if_neg p2, if_pos rfl, finds_e, cl_s]; rfl
  obtain ⟨i, c, rfl, rfl, hic⟩ := part_ok hn p1
  obtain ⟨j, c', rfl, hc, hjc⟩ := part_ok hm p2
  have hcc : c = c' := by
    by_cases hb2 : c' < 2 ^ 31
    · exact (nI_eq (by omega) hb2).mp hc
    · omega
  subst hcc
  have E7 : ∀ g1 : Mem, g1 62 = g 62 → g1 63 = g 63 → fX7_copy (nI a) (nI i) (nI b) (nI j) (nI c) g1 = some (nI c, up (upR g1 64 (fun q => if 40 * b + j ≤ q ∧ q < 40 * b + j + c then g1 64 (40 * a + i + (q - (40 * b + j))) else g1 64 q)) 61 3 0) := by
    intro g1 q1 q2
    rw [e7 g1 q1 q2, if_pos p2, if_neg (by decide)]
    by_cases hab : nI a = nI b
    · have hab' : a = b := (nI_eq (by omega) (by omega)).mp hab
      subst hab'
      rw [if_pos rfl]
      by_cases hij : nI j ≤ nI i
      · rw [if_pos hij, copy_L0 a i a j c (by omega) (by omega) (by omega) (Or.inl (by rw [nI_leI (by omega) (by omega)] at hij; omega)), done_e, cl_s]
      · rw [if_neg hij, copy_L1 a i a j c (by omega) (by omega) (by omega) (by rw [nI_leI (by omega) (by omega)] at hij; omega), done_e, cl_s]
    · have hab' : a ≠ b := fun q => hab (by rw [q])
      rw [if_neg hab, copy_L0 a i b j c (by omega) (by omega) (by omega) (by omega), done_e, cl_s]
  apply Both.of (r := nI c)
  · show fX6_copy (nI a) (nI i) (nI b) (nI j) (nI c) g = _
    rw [e6, if_pos p2, if_neg (by decide)]
    simp only [fX4_move]
    rw [show (40 : Int32) = nI 40 from rfl, pk_mul, pk_mul, nI_add, nI_add, ac_nI (by omega) (by omega) (by omega) (by omega), cl_s, clean_e, cl_s]
  · show fX7_copy (nI a) (nI i) (nI b) (nI j) (nI c) _ = _
    rw [E7 _ (by simp [up_a, cpy, upR_a]) (by simp [up_a, cpy, upR_a])]
  · obtain ⟨h1, h2, h3, h4, h5, h6, h7, h8⟩ := h
    refine ⟨?_, ?_, ?_, ?_, ?_, ?_, ?_, ?_⟩ <;> simp [up_a, upR_a, upd_a, cpy] <;> try first | assumption | exact h3.2
    refine ⟨h1.1, fun q hq => ?_⟩
    simp only [va_cpy, Nat.mul_comm a 40, Nat.mul_comm b 40]
    by_cases hc : 40 * b + j ≤ q ∧ q < 40 * b + j + c
    · rw [if_pos hc, if_pos hc]; exact h1.2 _ (by omega)
    · rw [if_neg hc, if_neg hc]; exact h1.2 q hq
