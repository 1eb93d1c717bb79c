def KeepP (g g' : Mem) (N A s : Nat) : Prop := g' 48 6 = nI ((N + 1) % 24) ∧ g' 48 7 = nI (min (A + 1) 24) ∧
    (∀ j, g' 49 j = if j = N then nI s else g 49 j) ∧ (∀ j, g' 50 j = if j = N then g 13 s else g 50 j) ∧ (∀ j, g' 51 j = if j = N then g 15 s else g 51 j) ∧ (∀ j, g' 52 j = if j = N then g 16 s else g 52 j) ∧ (∀ j, g' 53 j = if j = N then g 7 15 else g 53 j) ∧ (∀ j, g' 54 j = if j = N then g 7 16 else g 54 j)
def CP (g g1 : Mem) (N A s : Nat) (U P kn a r u : Int32) : Prop := (∀ k, (k < 7 ∨ (7 < k ∧ k < 13) ∨ (16 < k ∧ k < 48) ∨ 54 < k) → g1 k = g k) ∧ KeepP g g1 N A s ∧ (∀ j, g1 7 j = if j = 15 then U else if j = 16 then P else g 7 j) ∧ (∀ j, g1 13 j = if j = s then kn else g 13 j) ∧ (∀ j, g1 14 j = if j = s then a else g 14 j) ∧ (∀ j, g1 15 j = if j = s then r else g 15 j) ∧ (∀ j, g1 16 j = if j = s then u else g 16 j)
def MP (g1 g2 : Mem) (A s : Nat) (U P kn a r u : Int32) : Prop := (∀ k, k ≠ 61 → k ≠ 66 → k ≠ 70 → g2 k = g1 k) ∧ (∀ j, j ≠ 17 → g2 61 j = g1 61 j) ∧ g2 61 17 = nI (min (A + 1) 24) ∧
    (∀ j, j < 1200 → g2 70 j = if A < 24 then (if 50 * A ≤ j ∧ j < 50 * A + 50 then g1 66 (j - 50 * A) else g1 70 j) else (if j < 1150 then g1 70 (j + 50) else g1 66 (j - 1150))) ∧
    ∀ j, j < 50 → g2 66 j = if j = 6 then U else if j = 7 then P else if j = 34 + s then kn else if j = 38 + s then a else if j = 42 + s then r else if j = 46 + s then u else g1 66 j
theorem Inv_push {g g1 g2 : Mem} {T Q S : Nat} {tr : Nat → Nat} {N A s : Nat} {U P kn a r u : Int32} (h : Inv g) (hc : CourtN T Q S tr (g 7) (g 8) (g 9) (g 10) (g 11) (g 12) (g 13) (g 14) (g 15) (g 16) (g 66)) (hN : N < 24) (hA : A ≤ 24)
    (a4 : ∀ i : Nat, i < A → ActS (fun j => g 70 (50 * i + j)) (if i + 1 = A then g 66 else fun j => g 70 (50 * (i + 1) + j)) (g 49 ((N + 24 - A + i) % 24)) (g 50 ((N + 24 - A + i) % 24)) (g 51 ((N + 24 - A + i) % 24)) (g 52 ((N + 24 - A + i) % 24)) (g 53 ((N + 24 - A + i) % 24)) (g 54 ((N + 24 - A + i) % 24)))
    (hs : s < S) (hf : g 14 s = 0) (C : CP g g1 N A s U P kn a r u) (M : MP g1 g2 A s U P kn a r u)
    (vU : ∃ x : Nat, x < 64 ∧ U = nI x) (vk : ∃ x : Nat, x < 2 ^ T ∧ kn = nI x) (va : ∃ x : Nat, x < 4 ∧ a = nI x) (vr : ∃ x : Nat, x ≤ 3 ∧ r = nI x) (vu : u = 0 ∨ u = 1) (var : a = 0 → ∃ x : Nat, x ≤ 2 ∧ r = nI x) : Inv g2 := by
  obtain ⟨hh1, hh2, hh3, -, hh5, hh6, -, hh8⟩ := h
  obtain ⟨k1, ⟨k2, k3, k4, k5, k6, k7, k8, k9⟩, k10, k11, k12, k13, k14⟩ := C
  obtain ⟨m1, m2, m3, m4, m5⟩ := M
  obtain ⟨hb, c0, c1, c2, c3, c5, c10, c15, c16, hT, hR, hS, hd⟩ := hc
  have hSs := hS s hs
  have e : ∀ k, (k < 7 ∨ (7 < k ∧ k < 13) ∨ (16 < k ∧ k < 48) ∨ (54 < k ∧ k < 61) ∨ (61 < k ∧ k < 66) ∨ (66 < k ∧ k < 70) ∨ 70 < k) → g2 k = g k := fun k hk => by rw [m1 k (by omega) (by omega) (by omega), k1 k (by omega)]
  have e1 : ∀ k, k ≠ 61 → k ≠ 66 → k ≠ 70 → g2 k = g1 k := m1
  have e61 : ∀ j, j ≠ 17 → g2 61 j = g 61 j := fun j hj => by rw [m2 j hj, k1 61 (by omega)]
  have e66 : g1 66 = g 66 := k1 66 (by omega)
  have e70 : g1 70 = g 70 := k1 70 (by omega)
  rw [e66, e70] at m4
  rw [e66] at m5
  refine ⟨?_, ?_, ?_, ⟨T, Q, S, tr, ?_⟩, ?_, ?_, ⟨(N + 1) % 24, min (A + 1) 24, by omega, by omega, ?_, ?_, m3, ?_⟩, ?_⟩
  · rw [e 2 (by omega), e 3 (by omega), e 4 (by omega), e 62 (by omega), e 63 (by omega), e 64 (by omega)]; exact hh1
  · rw [e 5 (by omega), e 6 (by omega), e 65 (by omega), e61 4 (by omega)]; exact hh2
  · rw [e 0 (by omega), e61 3 (by omega), e61 10 (by omega)]; exact hh3
  · rw [e1 7 (by omega) (by omega) (by omega), e1 13 (by omega) (by omega) (by omega), e1 14 (by omega) (by omega) (by omega), e1 15 (by omega) (by omega) (by omega), e1 16 (by omega) (by omega) (by omega), e 8 (by omega), e 9 (by omega), e 10 (by omega), e 11 (by omega), e 12 (by omega)]
    have o : ∀ j, j < 50 → j ≠ 6 → j ≠ 7 → j ≠ 34 + s → j ≠ 38 + s → j ≠ 42 + s → j ≠ 46 + s → g2 66 j = g 66 j := fun j j1 j2 j3 j4 j5 j6 j7 => by rw [m5 j j1, if_neg j2, if_neg j3, if_neg j4, if_neg j5, if_neg j6, if_neg j7]
    have o7 : ∀ j, j ≠ 15 → j ≠ 16 → g1 7 j = g 7 j := fun j j1 j2 => by rw [k10, if_neg j1, if_neg j2]
    refine ⟨hb, ?_, ?_, ?_, ?_, ?_, ?_, ?_, ?_, fun i hi => ?_, fun i hi => ?_, fun i hi => ?_, fun i i1 i2 => ?_⟩
    · rw [o7 0 (by omega) (by omega), o 0 (by omega) (by omega) (by omega) (by omega) (by omega) (by omega) (by omega)]; exact c0
    · rw [o7 1 (by omega) (by omega), o 1 (by omega) (by omega) (by omega) (by omega) (by omega) (by omega) (by omega)]; exact c1
    · rw [o7 2 (by omega) (by omega), o 2 (by omega) (by omega) (by omega) (by omega) (by omega) (by omega) (by omega)]; exact c2
    · rw [o7 3 (by omega) (by omega), o 3 (by omega) (by omega) (by omega) (by omega) (by omega) (by omega) (by omega)]; exact c3
    · rw [o7 5 (by omega) (by omega), o 4 (by omega) (by omega) (by omega) (by omega) (by omega) (by omega) (by omega)]; exact c5
    · rw [o7 10 (by omega) (by omega), o 5 (by omega) (by omega) (by omega) (by omega) (by omega) (by omega) (by omega)]; exact c10
    · rw [k10, if_pos rfl, m5 6 (by omega), if_pos rfl]; exact ⟨vU, rfl⟩
    · rw [k10, if_neg (by omega), if_pos rfl, m5 7 (by omega), if_neg (by omega), if_pos rfl]
    · rw [o (8 + i) (by omega) (by omega) (by omega) (by omega) (by omega) (by omega) (by omega)]; exact hT i hi
    · rw [o (16 + i) (by omega) (by omega) (by omega) (by omega) (by omega) (by omega) (by omega), o (22 + i) (by omega) (by omega) (by omega) (by omega) (by omega) (by omega) (by omega), o (28 + i) (by omega) (by omega) (by omega) (by omega) (by omega) (by omega) (by omega)]; exact hR i hi
    · by_cases his : i = s
      · subst his
        rw [k11, k12, k13, k14, if_pos rfl, if_pos rfl, if_pos rfl, if_pos rfl]
        rw [m5 (34 + i) (by omega), if_neg (by omega), if_neg (by omega), if_pos rfl]
        rw [m5 (38 + i) (by omega), if_neg (by omega), if_neg (by omega), if_neg (by omega), if_pos rfl]
        rw [m5 (42 + i) (by omega), if_neg (by omega), if_neg (by omega), if_neg (by omega), if_neg (by omega), if_pos rfl]
        rw [m5 (46 + i) (by omega), if_neg (by omega), if_neg (by omega), if_neg (by omega), if_neg (by omega), if_neg (by omega), if_pos rfl]
        exact ⟨vk, rfl, va, rfl, vr, rfl, vu, rfl, var⟩
      · rw [k11, k12, k13, k14, if_neg his, if_neg his, if_neg his, if_neg his, o (34 + i) (by omega) (by omega) (by omega) (by omega) (by omega) (by omega) (by omega), o (38 + i) (by omega) (by omega) (by omega) (by omega) (by omega) (by omega) (by omega), o (42 + i) (by omega) (by omega) (by omega) (by omega) (by omega) (by omega) (by omega), o (46 + i) (by omega) (by omega) (by omega) (by omega) (by omega) (by omega) (by omega)]
        exact hS i hi
    · rw [o (38 + i) (by omega) (by omega) (by omega) (by omega) (by omega) (by omega) (by omega)]; exact hd i i1 i2
  · rw [e 28 (by omega), e 29 (by omega), e 30 (by omega), e 31 (by omega), e 32 (by omega), e 33 (by omega), e 34 (by omega), e 35 (by omega), e 36 (by omega), e 37 (by omega), e 68 (by omega), e 69 (by omega)]; exact hh5
  · rw [e 38 (by omega), e 39 (by omega), e 40 (by omega), e 41 (by omega), e 42 (by omega), e 43 (by omega), e 44 (by omega), e 45 (by omega), e 46 (by omega), e 47 (by omega), e 68 (by omega), e 69 (by omega)]; exact hh6
  · rw [e1 48 (by omega) (by omega) (by omega)]; exact k2
  · rw [e1 48 (by omega) (by omega) (by omega)]; exact k3
  · rw [e1 49 (by omega) (by omega) (by omega), e1 50 (by omega) (by omega) (by omega), e1 51 (by omega) (by omega) (by omega), e1 52 (by omega) (by omega) (by omega), e1 53 (by omega) (by omega) (by omega), e1 54 (by omega) (by omega) (by omega)]
    refine acts_push hN hA a4 k4 k5 k6 k7 k8 k9 m4 ?_
    obtain ⟨⟨x1, y1, z1⟩, q1, -, q2, -, q3, q4, q5, q6⟩ := hSs
    obtain ⟨x2, y2, z2⟩ := q6 hf
    obtain ⟨⟨x3, y3, z3⟩, q7⟩ := c15
    refine ⟨s, S, T, x1, x2, x3, hs, hb.2.2, hb.1, c10.2, c3.2, rfl, fun j j1 j2 j3 j4 j5 j6 j7 => ?_, q7, c16, q1, by rw [q2]; exact hf, q3, q5, ⟨y1, z1⟩, ⟨y2, z2⟩, q4, y3, z3⟩
    rw [m5 j j1, if_neg j2, if_neg j3, if_neg j4, if_neg j5, if_neg j6, if_neg j7]
  · rw [e 58 (by omega), e 59 (by omega), e 71 (by omega), e61 19 (by omega)]; exact hh8
/-! pieces at any memory -/
theorem ans6' {g' : Mem} {i f : Nat} (hi : i < 6) (hf : f < 256) (h : g' 12 i = nI f) : fX2_answer 7 (nI i) g' = some (lsI f, g') := by
  unfold fX2_answer
  rw [al_nI hi (by omega), h, least_e hf, cl_s]
theorem he6' {g' : Mem} {s i f k : Nat} (hs : s < 4) (hi : i < 6) (hf : f < 256) (h : g' 12 i = nI f) (h2 : g' 13 s = nI k) : fX2_heSays 7 (nI s) (nI i) g' = some (lsI (f &&& k), g') := by
  have : f &&& k ≤ f := Nat.and_le_left
  unfold fX2_heSays
  rw [al_nI hi (by omega), al_nI hs (by omega), h, h2, fa_and, least_e (by omega), cl_s]
theorem she6' {g' : Mem} {i f k : Nat} (hi : i < 6) (hf : f < 256) (h : g' 12 i = nI f) (h2 : g' 7 1 = nI k) : fX2_sheSays 7 (nI i) g' = some (lsI (f &&& k), g') := by
  have : f &&& k ≤ f := Nat.and_le_left
  unfold fX2_sheSays
  rw [al_nI hi (by omega), h, h2, fa_and, least_e (by omega), cl_s]
theorem fit7' {g g' : Mem} {T Q S : Nat} {tr : Nat → Nat} {i f : Nat} (hc : CourtN T Q S tr (g 7) (g 8) (g 9) (g 10) (g 11) (g 12) (g 13) (g 14) (g 15) (g 16) (g 66)) (hi : i < Q) (hf : f < 256) (h : g 12 i = nI f) (hk : ∀ j, j < 34 → j ≠ 6 → j ≠ 7 → g' 66 j = g 66 j) : fX7_fittersAt (nI i) g' = some (nI f, g') := by
  obtain ⟨hb, -, -, -, h3, -, -, -, -, ht, hr, -⟩ := hc
  obtain ⟨sk, yy, nn, ⟨a1, a2, a3, a4⟩, b1, b2, b3, b4, b5, b6, b7⟩ := hr i hi
  have hlt := fset_lt tr sk yy nn T
  have hT8 : (2 : Nat) ^ T ≤ 2 ^ 8 := Nat.pow_le_pow_right (by omega) hb.1
  have ef : fset tr sk yy nn T = f := by rw [b7] at h; exact (nI_eq (by omega) (by omega)).mp h
  unfold fX7_fittersAt
  rw [show (16 : Int32) = nI 16 from rfl, show (22 : Int32) = nI 22 from rfl, show (28 : Int32) = nI 28 from rfl, nI_add, nI_add, nI_add, al_nI (by omega) (by omega), al_nI (by omega) (by omega), al_nI (by omega) (by omega), hk (16 + i) (by omega) (by omega) (by omega), hk (22 + i) (by omega) (by omega) (by omega), hk (28 + i) (by omega) (by omega) (by omega), b2, b4, b6, tf7 hb.1 (by rw [hk 3 (by omega) (by omega) (by omega)]; exact h3.2) (fun j hj => ⟨(ht j hj).1, by rw [hk (8 + j) (by omega) (by omega) (by omega)]; exact (ht j hj).2.2⟩) ⟨a1, a2⟩ a3 a4, cl_s, ef]
theorem or_lt64 {x i : Nat} (hx : x < 64) (hi : i < 6) : x ||| 2 ^ i < 64 := Nat.or_lt_two_pow (n := 6) hx (Nat.pow_lt_pow_right (by omega) hi)
