theorem Inv_cv {g : Mem} (h : Inv g) : ∃ (T Q S : Nat) (tr F K : Nat → Nat) (sh us : Nat), CourtN T Q S tr (g 7) (g 8) (g 9) (g 10) (g 11) (g 12) (g 13) (g 14) (g 15) (g 16) (g 66) ∧ View T Q S F K sh us g := by
  obtain ⟨T, Q, S, tr, hc⟩ := h.2.2.2.1
  obtain ⟨F, K, sh, us, hv⟩ := court_view hc
  exact ⟨T, Q, S, tr, F, K, sh, us, hc, hv⟩
theorem E_thing {g : Mem} (h : Inv g) (x : Int32) : Both g (fun g => fX6_thing x g) (fun g => fX7_thing x g) := by
  obtain ⟨T, Q, S, tr, F, K, sh, us, C, V⟩ := Inv_cv h
  have hb := V.1
  have bad : (x < 0 ∨ nI T ≤ x) → Both g (fun g => fX6_thing x g) (fun g => fX7_thing x g) := fun hx => by
    refine ⟨-1000001, g, g, ?_, ?_, h⟩
    · simp only [fX6_thing]
      rw [V.2.1.1, below_f hx, cl_s, if_pos rfl]
    · simp only [fX7_thing]
      rw [isT_f V hx rfl, cl_s, if_pos rfl]
  rcases pk_ix x (n := T) (by omega) with hx | hx | ⟨i, hi, rfl⟩
  · exact bad (Or.inl hx)
  · exact bad (Or.inr hx)
  obtain ⟨-, -, -, -, -, -, -, -, -, ht, -⟩ := C
  refine ⟨nI (tr i), g, g, ?_, ?_, h⟩
  · simp only [fX6_thing]
    rw [V.2.1.1, below_t hi (by omega), cl_s, if_neg (by decide), al_nI (by omega) (by omega), (ht i hi).2.1]
  · simp only [fX7_thing]
    rw [isT_t V hi rfl, cl_s, if_neg (by decide), show (8 : Int32) = nI 8 from rfl, nI_add, al_nI (by omega) (by omega), (ht i hi).2.2]
theorem E_kind {g : Mem} (h : Inv g) (x : Int32) : Both g (fun g => fX6_kind x g) (fun g => fX7_kind x g) := by
  obtain ⟨T, Q, S, tr, F, K, sh, us, C, V⟩ := Inv_cv h
  have hb := V.1
  have bad : (x < 0 ∨ nI Q ≤ x) → Both g (fun g => fX6_kind x g) (fun g => fX7_kind x g) := fun hx => by
    refine ⟨-1000001, g, g, ?_, ?_, h⟩
    · simp only [fX6_kind]
      rw [V.2.2.1.1, below_f hx, cl_s, if_pos rfl]
    · simp only [fX7_kind]
      rw [isR_f V hx rfl, cl_s, if_pos rfl]
  rcases pk_ix x (n := Q) (by omega) with hx | hx | ⟨i, hi, rfl⟩
  · exact bad (Or.inl hx)
  · exact bad (Or.inr hx)
  obtain ⟨-, -, -, -, -, -, -, -, -, -, hr, -⟩ := C
  obtain ⟨sk, yy, nn, -, b1, b2, -⟩ := hr i hi
  refine ⟨nI sk, g, g, ?_, ?_, h⟩
  · simp only [fX6_kind]
    rw [V.2.2.1.1, below_t hi (by omega), cl_s, if_neg (by decide), al_nI (by omega) (by omega), b1]
  · simp only [fX7_kind, fX7_kindAt]
    rw [isR_t V hi rfl, cl_s, if_neg (by decide), show (16 : Int32) = nI 16 from rfl, nI_add, al_nI (by omega) (by omega), b2, cl_s]
theorem E_says {g : Mem} (h : Inv g) (x y : Int32) : Both g (fun g => fX6_says x y g) (fun g => fX7_says x y g) := by
  obtain ⟨T, Q, S, tr, F, K, sh, us, C, V⟩ := Inv_cv h
  have hb := V.1
  have bad : (x < 0 ∨ nI S ≤ x) → Both g (fun g => fX6_says x y g) (fun g => fX7_says x y g) := fun hx => by
    refine ⟨-1000001, g, g, ?_, ?_, h⟩
    · simp only [fX6_says]
      rw [V.2.2.2.1.1, below_f hx, cl_s, if_pos rfl]
    · simp only [fX7_says]
      rw [isS_f V hx rfl, cl_s, if_pos rfl]
  rcases pk_ix x (n := S) (by omega) with hx | hx | ⟨s, hs, rfl⟩
  · exact bad (Or.inl hx)
  · exact bad (Or.inr hx)
  have bad : (y < 0 ∨ nI Q ≤ y) → Both g (fun g => fX6_says (nI s) y g) (fun g => fX7_says (nI s) y g) := fun hx => by
    refine ⟨-1000001, g, g, ?_, ?_, h⟩
    · simp only [fX6_says]
      rw [V.2.2.2.1.1, below_t hs (by omega), cl_s, if_neg (by decide), V.2.2.1.1, below_f hx, cl_s, if_pos rfl]
    · simp only [fX7_says]
      rw [isS_t V hs rfl, cl_s, if_neg (by decide), isR_f V hx rfl, cl_s, if_pos rfl]
  rcases pk_ix y (n := Q) (by omega) with hx | hx | ⟨i, hi, rfl⟩
  · exact bad (Or.inl hx)
  · exact bad (Or.inr hx)
  refine ⟨lsI (F i &&& K s), g, g, ?_, ?_, h⟩
  · simp only [fX6_says]
    rw [V.2.2.2.1.1, below_t hs (by omega), cl_s, if_neg (by decide), V.2.2.1.1, below_t hi (by omega), cl_s, if_neg (by decide), v_says6 V hs hi, cl_s]
  · simp only [fX7_says]
    rw [isS_t V hs rfl, cl_s, if_neg (by decide), isR_t V hi rfl, cl_s, if_neg (by decide), v_says7 V hs hi rfl, cl_s]
theorem E_suitor {g : Mem} (h : Inv g) (x y : Int32) : Both g (fun g => fX6_suitor x y g) (fun g => fX7_suitor x y g) := by
  obtain ⟨T, Q, S, tr, F, K, sh, us, C, V⟩ := Inv_cv h
  have hb := V.1
  have bad : (x < 0 ∨ nI S ≤ x) → Both g (fun g => fX6_suitor x y g) (fun g => fX7_suitor x y g) := fun hx => by
    refine ⟨-1000001, g, g, ?_, ?_, h⟩
    · simp only [fX6_suitor]
      rw [V.2.2.2.1.1, below_f hx, cl_s, if_pos rfl]
    · simp only [fX7_suitor]
      rw [isS_f V hx rfl, cl_s, if_pos rfl]
  rcases pk_ix x (n := S) (by omega) with hx | hx | ⟨s, hs, rfl⟩
  · exact bad (Or.inl hx)
  · exact bad (Or.inr hx)
  obtain ⟨-, -, -, -, -, -, -, -, -, -, -, hS, -⟩ := C
  obtain ⟨-, e0, -, e1, -, e2, -, e3, -⟩ := hS s hs
  have e6 : fX6_suitor (nI s) y g = (if y = (0 : Int32) then some (g 13 s, g) else (if y = (1 : Int32) then some (g 14 s, g) else (if y = (2 : Int32) then some (g 15 s, g) else (if y = (3 : Int32) then some (g 16 s, g) else (some ((-1000001 : Int32), g)))))) := by
    simp only [fX6_suitor]
    rw [V.2.2.2.1.1, below_t hs (by omega), cl_s, if_neg (by decide), al_nI (by omega) (by omega), al_nI (by omega) (by omega), al_nI (by omega) (by omega), al_nI (by omega) (by omega)]
  rcases pk_ix y (n := 4) (by omega) with hx | hx | ⟨k, hk, rfl⟩
  rotate_left
  rotate_left
  · refine ⟨g 66 (34 + 4 * k + s), g, g, ?_, ?_, h⟩
    · show fX6_suitor (nI s) (nI k) g = _
      rw [e6]
      rcases (show k = 0 ∨ k = 1 ∨ k = 2 ∨ k = 3 by omega) with rfl | rfl | rfl | rfl
      · rw [if_pos (by decide), ← e0]
      · rw [if_neg (by decide), if_pos (by decide), ← e1]
      · rw [if_neg (by decide), if_neg (by decide), if_pos (by decide), ← e2]
      · rw [if_neg (by decide), if_neg (by decide), if_neg (by decide), if_pos (by decide), ← e3]
    · simp only [fX7_suitor]
      rw [isS_t V hs rfl, cl_s, if_neg (by decide), show (3 : Int32) = nI 3 from rfl, inN_t (by omega) (by omega), cl_s, if_neg (by decide), show (34 : Int32) = nI 34 from rfl, show (4 : Int32) = nI 4 from rfl, pk_mul, nI_add, nI_add, al_nI (by omega) (by omega)]
  all_goals
    have n0 : ¬ y = 0 := fun q => by rw [q] at hx; exact absurd hx (by decide)
    have n1 : ¬ y = 1 := fun q => by rw [q] at hx; exact absurd hx (by decide)
    have n2 : ¬ y = 2 := fun q => by rw [q] at hx; exact absurd hx (by decide)
    have n3 : ¬ y = 3 := fun q => by rw [q] at hx; exact absurd hx (by decide)
    refine ⟨-1000001, g, g, ?_, ?_, h⟩
    · show fX6_suitor (nI s) y g = _
      rw [e6, if_neg n0, if_neg n1, if_neg n2, if_neg n3]
    · simp only [fX7_suitor]
      rw [isS_t V hs rfl, cl_s, if_neg (by decide), show (3 : Int32) = nI 3 from rfl, inN_f (by omega) (by first | exact Or.inl hx | exact Or.inr hx), cl_s, if_pos rfl]
theorem E_riddle {g : Mem} (h : Inv g) (x y : Int32) : Both g (fun g => fX6_riddle x y g) (fun g => fX7_riddle x y g) := by
  obtain ⟨T, Q, S, tr, F, K, sh, us, C, V⟩ := Inv_cv h
  have hb := V.1
  have h8 := V.p8
  have bad : (x < 0 ∨ nI Q ≤ x) → Both g (fun g => fX6_riddle x y g) (fun g => fX7_riddle x y g) := fun hx => by
    refine ⟨-1000001, g, g, ?_, ?_, h⟩
    · simp only [fX6_riddle]
      rw [V.2.2.1.1, below_f hx, cl_s, if_pos rfl]
    · simp only [fX7_riddle]
      rw [isR_f V hx rfl, cl_s, if_pos rfl]
  rcases pk_ix x (n := Q) (by omega) with hx | hx | ⟨i, hi, rfl⟩
  · exact bad (Or.inl hx)
  · exact bad (Or.inr hx)
  obtain ⟨-, -, -, -, -, -, -, -, -, -, hr, -⟩ := C
  obtain ⟨sk, yy, nn, -, -, -, b3, b4, b5, b6, -⟩ := hr i hi
  obtain ⟨f1, f2, f3⟩ := V.2.2.2.2.1 i hi
  refine ⟨if y = 0 then nI yy else if y = 1 then nI nn else if y = 2 then nI (F i) else if y = 3 then lsI (F i) else if y = 4 then (if us.testBit i then 1 else 0) else if y = 5 then (if nI (pcn (F i)) = 1 then 1 else 0) else if y = 6 then lsI (F i &&& sh) else -1000001, g, g, ?_, ?_, h⟩
  · simp only [fX6_riddle]
    rw [V.2.2.1.1, below_t hi (by omega), cl_s, if_neg (by decide), al_nI (by omega) (by omega), al_nI (by omega) (by omega), al_nI (by omega) (by omega), al_nI (by omega) (by omega), b3, b5, f2, v_answer6 V hi, v_used6 V (by omega), v_she6 V hi, bc_e (by omega)]
    simp only [cl_s]
    repeat' split
    all_goals first | rfl | simp_all
  · simp only [fX7_riddle]
    rw [isR_t V hi rfl, cl_s, if_neg (by decide), show (22 : Int32) = nI 22 from rfl, show (28 : Int32) = nI 28 from rfl, nI_add, nI_add, al_nI (by omega) (by omega), al_nI (by omega) (by omega), b4, b6, f3 g rfl, v_answer7 V hi rfl, v_open7 V (by omega) rfl, v_she7 V hi rfl]
    simp only [cl_s]
    rw [bits_e (by omega)]
    simp only [cl_s]
    repeat' split
    all_goals first | rfl | simp_all
theorem kind_n : ∀ sk, sk < 6 → 1 ≤ sk → ∀ k, k < 6 → ((if nI k = (0 : Int32) then (1 : Int32) else (if nI k = (1 : Int32) then (if nI sk = (1 : Int32) then 1 else (if nI sk = (2 : Int32) then 1 else (if nI sk = (3 : Int32) then 1 else 0))) else (if nI k = (2 : Int32) then (if nI sk = nI k then 1 else 0) else (if nI k = (3 : Int32) then (if nI sk = nI k then 1 else 0) else (if nI k = (4 : Int32) then (if nI sk = (4 : Int32) then 1 else (if nI sk = (5 : Int32) then 1 else 0)) else (if nI sk = nI k then 1 else 0)))))) = 0 ↔ ¬ (nI k = 0 ∨ nI sk = nI k ∨ (if nI sk = (1 : Int32) then (0 : Int32) else (if nI sk = (4 : Int32) then 0 else (if nI sk = (5 : Int32) then 4 else 1))) = nI k)) := by decide +kernel
theorem E_as {g : Mem} (h : Inv g) (x y : Int32) : Both g (fun g => fX6_as x y g) (fun g => fX7_as x y g) := by
  obtain ⟨T, Q, S, tr, F, K, sh, us, C, V⟩ := Inv_cv h
  have hb := V.1
  have bad : (x < 0 ∨ nI Q ≤ x) → Both g (fun g => fX6_as x y g) (fun g => fX7_as x y g) := fun hx => by
    refine ⟨-1000001, g, g, ?_, ?_, h⟩
    · simp only [fX6_as]
      rw [V.2.2.1.1, below_f hx, cl_s, if_pos rfl]
    · simp only [fX7_as]
      rw [isR_f V hx rfl, cl_s, if_pos rfl]
  rcases pk_ix x (n := Q) (by omega) with hx | hx | ⟨i, hi, rfl⟩
  · exact bad (Or.inl hx)
  · exact bad (Or.inr hx)
  have bad : (y < 0 ∨ nI 6 ≤ y) → Both g (fun g => fX6_as (nI i) y g) (fun g => fX7_as (nI i) y g) := fun hx => by
    refine ⟨-1000001, g, g, ?_, ?_, h⟩
    · simp only [fX6_as]
      rw [V.2.2.1.1, below_t hi (by omega), cl_s, if_neg (by decide), show (6 : Int32) = nI 6 from rfl, below_f hx, cl_s, if_pos rfl]
    · simp only [fX7_as]
      rw [isR_t V hi rfl, cl_s, if_neg (by decide), show (5 : Int32) = nI 5 from rfl, inN_f (by omega) hx, cl_s, if_pos rfl]
  rcases pk_ix y (n := 6) (by omega) with hx | hx | ⟨k, hk, rfl⟩
  · exact bad (Or.inl hx)
  · exact bad (Or.inr hx)
  obtain ⟨-, -, -, -, -, -, -, -, -, -, hr, -⟩ := C
  obtain ⟨sk, yy, nn, hsk, b1, b2, -⟩ := hr i hi
  have hkn := kind_n sk (by omega) hsk.1 k hk
  have e6 : fX6_as (nI i) (nI k) g = cl (fX2_isOfKind (nI sk) (nI k) g) fun r6 g7 => (if r6 = 0 then (cl (fX6_found (3 : Int32) g7) fun r8 g9 => (some (r8, g9))) else (cl (fX6_clean (nI i) g7) fun r10 g11 => (some (r10, g11)))) := by
    simp only [fX6_as]
    rw [V.2.2.1.1, below_t hi (by omega), cl_s, if_neg (by decide), show (6 : Int32) = nI 6 from rfl, below_t hk (by omega), cl_s, if_neg (by decide), al_nI (by omega) (by omega), b1]
  have eK : ∃ r : Int32, fX2_isOfKind (nI sk) (nI k) g = some (r, g) ∧ (r = 0 ↔ ¬ (nI k = 0 ∨ nI sk = nI k ∨ (if nI sk = (1 : Int32) then (0 : Int32) else (if nI sk = (4 : Int32) then 0 else (if nI sk = (5 : Int32) then 4 else 1))) = nI k)) := by
    refine ⟨_, ?_, hkn⟩
    unfold fX2_isOfKind
    repeat' split
    all_goals rfl
  obtain ⟨r, er, hr0⟩ := eK
  rw [er, cl_s] at e6
  have e7 : ∀ g1 : Mem, g1 66 = g 66 → fX7_as (nI i) (nI k) g1 = if r = 0 then some (-1000013, up g1 61 3 3) else some (nI i, up g1 61 3 0) := by
    intro g1 hg
    simp only [fX7_as, fX7_kindAt]
    rw [isR_t V hi hg, cl_s, if_neg (by decide), show (5 : Int32) = nI 5 from rfl, inN_t (by omega) (by omega), cl_s, if_neg (by decide), show (16 : Int32) = nI 16 from rfl, nI_add, al_nI (by omega) (by omega), hg, b2, cl_s]
    by_cases c0 : nI k = 0
    · rw [if_pos c0, done_e, cl_s, if_neg (fun q => (hr0.mp q) (Or.inl c0))]
    · rw [if_neg c0]
      by_cases c1 : nI sk = nI k
      · rw [if_pos c1, done_e, cl_s, if_neg (fun q => (hr0.mp q) (Or.inr (Or.inl c1)))]
      · rw [if_neg c1]
        have ep : fX7_parentOf (nI sk) g1 = some ((if nI sk = (1 : Int32) then (0 : Int32) else (if nI sk = (4 : Int32) then 0 else (if nI sk = (5 : Int32) then 4 else 1))), g1) := by
          unfold fX7_parentOf
          repeat' split
          all_goals rfl
        rw [ep, cl_s]
        by_cases c2 : (if nI sk = (1 : Int32) then (0 : Int32) else (if nI sk = (4 : Int32) then 0 else (if nI sk = (5 : Int32) then 4 else 1))) = nI k
        · rw [if_pos c2, done_e, cl_s, if_neg (fun q => (hr0.mp q) (Or.inr (Or.inr c2)))]
        · rw [if_neg c2, finds_e, cl_s, if_pos (hr0.mpr (fun q => by rcases q with q | q | q <;> contradiction))]; rfl
  by_cases hr0 : r = 0
  · refine ⟨-1000013, up g 0 10 3, up (up g 0 10 3) 61 3 3, ?_, ?_, Inv_st h 3⟩
    · show fX6_as (nI i) (nI k) g = _
      rw [e6, if_pos hr0, found_e, cl_s]; rfl
    · show fX7_as (nI i) (nI k) _ = _
      rw [e7 _ (by simp [up_a]), if_pos hr0]
  · refine ⟨nI i, up g 0 10 0, up (up g 0 10 0) 61 3 0, ?_, ?_, Inv_st h 0⟩
    · show fX6_as (nI i) (nI k) g = _
      rw [e6, if_neg hr0, clean_e, cl_s]
    · show fX7_as (nI i) (nI k) _ = _
      rw [e7 _ (by simp [up_a]), if_neg hr0]
