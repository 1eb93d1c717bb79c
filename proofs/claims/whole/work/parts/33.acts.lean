theorem ActS.congr {σ τ σ' τ' : Nat → Int32} {w k r u us pa : Int32} (h : ActS σ τ w k r u us pa) (h1 : ∀ j, j < 50 → σ' j = σ j) (h2 : ∀ j, j < 50 → τ' j = τ j) : ActS σ' τ' w k r u us pa := by
  obtain ⟨s, S, T, x, y, z, a1, a2, a3, a4, a5, a6, a7, a8, a9, a10, a11, a12, a13, a14⟩ := h
  refine ⟨s, S, T, x, y, z, a1, a2, a3, by rw [h1 5 (by omega)]; exact a4, by rw [h1 3 (by omega)]; exact a5, a6, fun j j1 j2 j3 j4 j5 j6 j7 => by rw [h1 j j1, h2 j j1]; exact a7 j j1 j2 j3 j4 j5 j6 j7, by rw [h1 6 (by omega)]; exact a8, by rw [h1 7 (by omega)]; exact a9, by rw [h1 _ (by omega)]; exact a10, by rw [h1 _ (by omega)]; exact a11, by rw [h1 _ (by omega)]; exact a12, by rw [h1 _ (by omega)]; exact a13, a14⟩
/-- an act more -/
theorem acts_push {N A : Nat} {w k r u us pa w' k' r' u' us' pa' now now' ac ac' : Nat → Int32} {vw vk vr vu vus vpa : Int32} (hN : N < 24) (hA : A ≤ 24)
    (h : ∀ i : Nat, i < A → ActS (fun j => ac (50 * i + j)) (if i + 1 = A then now else fun j => ac (50 * (i + 1) + j)) (w ((N + 24 - A + i) % 24)) (k ((N + 24 - A + i) % 24)) (r ((N + 24 - A + i) % 24)) (u ((N + 24 - A + i) % 24)) (us ((N + 24 - A + i) % 24)) (pa ((N + 24 - A + i) % 24)))
    (hw : ∀ j, w' j = if j = N then vw else w j) (hk : ∀ j, k' j = if j = N then vk else k j) (hr : ∀ j, r' j = if j = N then vr else r j) (hu : ∀ j, u' j = if j = N then vu else u j) (hus : ∀ j, us' j = if j = N then vus else us j) (hpa : ∀ j, pa' j = if j = N then vpa else pa j)
    (hc : ∀ j, j < 1200 → ac' j = if A < 24 then (if 50 * A ≤ j ∧ j < 50 * A + 50 then now (j - 50 * A) else ac j) else (if j < 1150 then ac (j + 50) else now (j - 1150)))
    (hn : ActS now now' vw vk vr vu vus vpa) :
    ∀ i : Nat, i < min (A + 1) 24 → ActS (fun j => ac' (50 * i + j)) (if i + 1 = min (A + 1) 24 then now' else fun j => ac' (50 * (i + 1) + j)) (w' (((N + 1) % 24 + 24 - min (A + 1) 24 + i) % 24)) (k' (((N + 1) % 24 + 24 - min (A + 1) 24 + i) % 24)) (r' (((N + 1) % 24 + 24 - min (A + 1) 24 + i) % 24)) (u' (((N + 1) % 24 + 24 - min (A + 1) 24 + i) % 24)) (us' (((N + 1) % 24 + 24 - min (A + 1) 24 + i) % 24)) (pa' (((N + 1) % 24 + 24 - min (A + 1) 24 + i) % 24)) := by
  intro i hi
  by_cases hA24 : A < 24
  · rw [show min (A + 1) 24 = A + 1 by omega] at hi ⊢
    by_cases hiA : i = A
    · subst hiA
      rw [show ((N + 1) % 24 + 24 - (i + 1) + i) % 24 = N by omega, if_pos rfl, hw, hk, hr, hu, hus, hpa, if_pos rfl, if_pos rfl, if_pos rfl, if_pos rfl, if_pos rfl, if_pos rfl]
      refine hn.congr (fun j hj => ?_) (fun _ _ => rfl)
      show ac' (50 * i + j) = now j
      rw [hc _ (by omega), if_pos hA24, if_pos (by omega)]
      congr 1; omega
    · have hp : ((N + 1) % 24 + 24 - (A + 1) + i) % 24 = (N + 24 - A + i) % 24 := by omega
      have hne : ¬ (N + 24 - A + i) % 24 = N := by omega
      rw [hp, if_neg (by omega), hw, hk, hr, hu, hus, hpa, if_neg hne, if_neg hne, if_neg hne, if_neg hne, if_neg hne, if_neg hne]
      refine (h i (by omega)).congr (fun j hj => ?_) (fun j hj => ?_)
      · show ac' (50 * i + j) = ac (50 * i + j)
        rw [hc _ (by omega), if_pos hA24, if_neg (by omega)]
      · show ac' (50 * (i + 1) + j) = _
        rw [hc _ (by omega), if_pos hA24]
        by_cases h1 : i + 1 = A
        · rw [if_pos h1, if_pos (by omega)]; congr 1; omega
        · rw [if_neg h1, if_neg (by omega)]
  · have hA' : A = 24 := by omega
    subst hA'
    rw [show min (24 + 1) 24 = 24 from rfl] at hi ⊢
    by_cases hi23 : i = 23
    · subst hi23
      rw [show ((N + 1) % 24 + 24 - 24 + 23) % 24 = N by omega, if_pos rfl, hw, hk, hr, hu, hus, hpa, if_pos rfl, if_pos rfl, if_pos rfl, if_pos rfl, if_pos rfl, if_pos rfl]
      refine hn.congr (fun j hj => ?_) (fun _ _ => rfl)
      show ac' (50 * 23 + j) = now j
      rw [hc _ (by omega), if_neg hA24, if_neg (by omega), show 50 * 23 + j - 1150 = j by omega]
    · have hp : ((N + 1) % 24 + 24 - 24 + i) % 24 = (N + 24 - 24 + (i + 1)) % 24 := by omega
      have hne : ¬ (N + 24 - 24 + (i + 1)) % 24 = N := by omega
      rw [hp, if_neg (by omega), hw, hk, hr, hu, hus, hpa, if_neg hne, if_neg hne, if_neg hne, if_neg hne, if_neg hne, if_neg hne]
      refine (h (i + 1) (by omega)).congr (fun j hj => ?_) (fun j hj => ?_)
      · show ac' (50 * i + j) = ac (50 * (i + 1) + j)
        rw [hc _ (by omega), if_neg hA24, if_pos (by omega)]; congr 1; omega
      · show ac' (50 * (i + 1) + j) = _
        rw [hc _ (by omega), if_neg hA24]
        by_cases h1 : i + 1 + 1 = 24
        · rw [if_pos h1, if_neg (by omega), show 50 * (i + 1) + j - 1150 = j by omega]
        · rw [if_neg h1, if_pos (by omega)]
          show ac _ = ac _
          congr 1; omega
theorem keep_e {g : Mem} {N A s : Nat} (hN : N < 24) (hA : A ≤ 24) (hs : s < 4) (e6 : g 48 6 = nI N) (e7 : g 48 7 = nI A) : ∃ g', fX0_keep (nI s) g = some (0, g') ∧ (∀ k, (k < 48 ∨ 55 ≤ k) → g' k = g k) ∧ g' 48 6 = nI ((N + 1) % 24) ∧ g' 48 7 = nI (min (A + 1) 24) ∧
    (∀ j, g' 49 j = if j = N then nI s else g 49 j) ∧ (∀ j, g' 50 j = if j = N then g 13 s else g 50 j) ∧ (∀ j, g' 51 j = if j = N then g 15 s else g 51 j) ∧ (∀ j, g' 52 j = if j = N then g 16 s else g 52 j) ∧ (∀ j, g' 53 j = if j = N then g 7 15 else g 53 j) ∧ (∀ j, g' 54 j = if j = N then g 7 16 else g 54 j) := by
  have em : mn (nI A + 1) 24 = nI (min (A + 1) 24) := by
    unfold mn
    rw [nI_1, show (24 : Int32) = nI 24 from rfl]
    by_cases h : A + 1 ≤ 24
    · rw [if_neg (nI_nlt h (by omega)), Nat.min_eq_left h]
    · rw [if_pos (nI_lt (by omega) (by omega)), Nat.min_eq_right (by omega)]
  unfold fX0_keep
  simp (disch := omega) only [e6, as_nI, al_nI, up_a, upd_a, Nat.reduceEqDiff, reduceIte, if_false]
  by_cases hc : N + 1 = 24
  · rw [if_pos (show (24 : Int32) ≤ nI N + 1 by rw [nI_1, hc]; decide)]
    simp only [pf_e, up_a, upd_a, Nat.reduceEqDiff, reduceIte, if_false, e7, em]
    refine ⟨_, rfl, fun k hk => ?_, ?_, ?_, ?_, ?_, ?_, ?_, ?_, ?_⟩
    · have a : ¬ k = 48 ∧ ¬ k = 49 ∧ ¬ k = 50 ∧ ¬ k = 51 ∧ ¬ k = 52 ∧ ¬ k = 53 ∧ ¬ k = 54 := by omega
      simp [up_a, a]
    · simp [up_a, upd_a]; rw [show (N + 1) % 24 = 0 by omega]; rfl
    · simp [up_a, upd_a]
    all_goals intro j; simp [up_a, upd_a]
  · rw [if_neg (show ¬ (24 : Int32) ≤ nI N + 1 by rw [nI_1, show (24 : Int32) = nI 24 from rfl]; exact nI_ge (by omega) (by omega))]
    simp only [pf_e, up_a, upd_a, Nat.reduceEqDiff, reduceIte, if_false, e7, em]
    refine ⟨_, rfl, fun k hk => ?_, ?_, ?_, ?_, ?_, ?_, ?_, ?_, ?_⟩
    · have a : ¬ k = 48 ∧ ¬ k = 49 ∧ ¬ k = 50 ∧ ¬ k = 51 ∧ ¬ k = 52 ∧ ¬ k = 53 ∧ ¬ k = 54 := by omega
      simp [up_a, a]
    · simp [up_a, upd_a]; rw [show (N + 1) % 24 = N + 1 by omega, nI_1]
    · simp [up_a, upd_a]
    all_goals intro j; simp [up_a, upd_a]
theorem act_L (K : Int32 → Mem → Option (Int32 × Mem)) (g : Mem) : fX7_act_L11 K FU 0 g = K (nI 1150) (upR g 70 (fun j => if j < 1150 then g 70 (j + 50) else g 70 j)) := by
  refine loopI (fun m i s => fX7_act_L11 K m (nI i) s) _ (fun i s => s = upR g 70 (fun j => if j < i then g 70 (j + 50) else g 70 j)) 1150 ?_ ?_ 1150 FU 0 g (by omega) (by rw [FU_e]; omega) ?_
  · rintro m s rfl
    show fX7_act_L11 K (m + 1) (nI 1150) _ = _
    rw [fX7_act_L11, if_pos (by decide)]
  · rintro m i s hi rfl
    refine ⟨_, rfl, ?_⟩
    show fX7_act_L11 K (m + 1) (nI i) _ = fX7_act_L11 K m (nI (i + 1)) _
    rw [fX7_act_L11, show (1150 : Int32) = nI 1150 from rfl, if_neg (nI_ge hi (by omega)), show (50 : Int32) = nI 50 from rfl, nI_add, al_nI (by omega) (by omega), as_nI (by omega) (by omega), up_upR, nI_1]
    congr 2
    funext j
    simp only [upd_a, upR_a, reduceIte]
    by_cases hj : j = i
    · subst hj; rw [if_pos rfl, if_neg (by omega), if_pos (by omega)]
    · rw [if_neg hj]
      by_cases hc : j < i
      · rw [if_pos hc, if_pos (by omega)]
      · rw [if_neg hc, if_neg (by omega)]
  · have : (fun j => if j < 0 then g 70 (j + 50) else g 70 j) = g 70 := by funext j; rw [if_neg (by omega)]
    rw [this, upR_self]
theorem act_e {g : Mem} {A : Nat} (hA : A ≤ 24) (e : g 61 17 = nI A) : ∃ g', fX7_act g = some (0, g') ∧ (∀ k, k ≠ 61 → k ≠ 70 → g' k = g k) ∧ (∀ j, j ≠ 17 → g' 61 j = g 61 j) ∧ g' 61 17 = nI (min (A + 1) 24) ∧
    ∀ j, j < 1200 → g' 70 j = if A < 24 then (if 50 * A ≤ j ∧ j < 50 * A + 50 then g 66 (j - 50 * A) else g 70 j) else (if j < 1150 then g 70 (j + 50) else g 66 (j - 1150)) := by
  unfold fX7_act
  by_cases hc : A = 24
  · subst hc
    rw [e, if_pos (show nI 24 = (24 : Int32) from rfl), act_L, pf_e]
    have e1 : (up (upR g 70 (fun j => if j < 1150 then g 70 (j + 50) else g 70 j)) 61 17 ((upR g 70 (fun j => if j < 1150 then g 70 (j + 50) else g 70 j)) 61 17 - 1)) 61 17 = nI 23 := by
      simp [up_a, upd_a, upR_a, e]; rfl
    generalize hG : up (upR g 70 (fun j => if j < 1150 then g 70 (j + 50) else g 70 j)) 61 17 ((upR g 70 (fun j => if j < 1150 then g 70 (j + 50) else g 70 j)) 61 17 - 1) = G at *
    rw [e1, show (50 : Int32) = nI 50 from rfl, pk_mul, show (0 : Int32) = nI 0 from rfl, lay_e (by omega) (by omega) (by omega) (by omega) (by omega), cl_s, pf_e]
    refine ⟨_, rfl, fun k k1 k2 => ?_, fun j hj => ?_, ?_, fun j hj => ?_⟩
    · simp [up_a, upR_a, k1, k2, ← hG]
    · simp [up_a, upd_a, upR_a, hj, ← hG]
    · simp only [up_a, upd_a, upR_a, Nat.reduceEqDiff, reduceIte, if_false]; rw [e1]; rfl
    · simp only [up_a, upR_a, Nat.reduceEqDiff, reduceIte, if_false]
      rw [if_neg (show ¬ 24 < 24 by omega)]
      by_cases h1 : j < 1150
      · rw [if_neg (by omega), if_pos h1, ← hG]; simp [up_a, upR_a, h1]
      · rw [if_pos (by omega), if_neg h1, ← hG]; simp [up_a, upR_a]
  · rw [e, if_neg (show ¬ nI A = (24 : Int32) from fun q => hc ((nI_eq (b := 24) (by omega) (by omega)).mp q)), show (50 : Int32) = nI 50 from rfl, pk_mul, show (0 : Int32) = nI 0 from rfl, lay_e (by omega) (by omega) (by omega) (by omega) (by omega), cl_s, pf_e]
    refine ⟨_, rfl, fun k k1 k2 => ?_, fun j hj => ?_, ?_, fun j hj => ?_⟩
    · simp [up_a, upR_a, k1, k2]
    · simp [up_a, upd_a, upR_a, hj]
    · simp only [up_a, upd_a, upR_a, Nat.reduceEqDiff, reduceIte, if_false]; rw [e, nI_1, Nat.min_eq_left (by omega)]
    · simp only [up_a, upR_a, Nat.reduceEqDiff, reduceIte, if_false]
      rw [if_pos (show A < 24 by omega)]
      by_cases h1 : 50 * A ≤ j ∧ j < 50 * A + 50
      · rw [if_pos h1, if_pos h1, Nat.zero_add]
      · rw [if_neg h1, if_neg h1]
theorem wed6 {g : Mem} {S : Nat} (hS : S ≤ 4) (h : g 7 10 = nI S) : fX2_isOneWed 7 g = some (if 0 < cnt (fun s => decide (g 14 s = 2)) S then 1 else 0, g) := by
  unfold fX2_isOneWed
  rw [fate_e hS h, cl_s]
  have := cnt_le (fun s => decide (g 14 s = 2)) S
  by_cases hc : 0 < cnt (fun s => decide (g 14 s = 2)) S
  · rw [if_neg (nI_nle hc (by omega)), if_pos hc]
  · rw [show cnt (fun s => decide (g 14 s = 2)) S = 0 by omega]; rfl
theorem wed7 {g g' : Mem} {S : Nat} (hS : S ≤ 4) (h : g' 66 5 = nI S) (hf : ∀ s, s < S → g' 66 (38 + s) = g 14 s) : fX7_isAnyWed g' = some (if 0 < cnt (fun s => decide (g 14 s = 2)) S then 1 else 0, g') := by
  unfold fX7_isAnyWed
  have l5 : ∀ G, al g' 66 50 (5 : Int32) G = G (g' 66 5) := lit66 g' 5 (by omega)
  refine loopI (fun n i s => fX7_isAnyWed_L4 (fun l3 l4 g5 => rz l3 g5) n s (nI i) g') _ (fun i s => s = (if 0 < cnt (fun s => decide (g 14 s = 2)) i then (1 : Int32) else 0)) S ?_ ?_ S FU 0 0 (by omega) (by rw [FU_e]; omega) rfl
  · rintro n s rfl
    show fX7_isAnyWed_L4 (fun l3 l4 g5 => rz l3 g5) (n + 1) _ (nI S) g' = _
    rw [fX7_isAnyWed_L4, l5, h, if_pos (nI_le (Nat.le_refl S) (by omega))]
    by_cases hc : 0 < cnt (fun s => decide (g 14 s = 2)) S
    · rw [if_pos hc, rz_1]
    · rw [if_neg hc, rz_0]
  · rintro n i s hi rfl
    refine ⟨_, rfl, ?_⟩
    show fX7_isAnyWed_L4 (fun l3 l4 g5 => rz l3 g5) (n + 1) _ (nI i) g' = fX7_isAnyWed_L4 (fun l3 l4 g5 => rz l3 g5) n (if 0 < cnt (fun s => decide (g 14 s = 2)) i + (if decide (g 14 i = 2) then 1 else 0) then (1 : Int32) else 0) (nI (i + 1)) g'
    rw [fX7_isAnyWed_L4, l5, h, if_neg (nI_ge hi (by omega)), show (38 : Int32) = nI 38 from rfl, nI_add, lit66 g' (38 + i) (by omega), hf i hi, nI_1]
    by_cases hc : 0 < cnt (fun s => decide (g 14 s = 2)) i
    · rw [if_pos hc, if_neg (by decide), if_pos (by omega)]
    · rw [if_neg hc, if_pos rfl, show cnt (fun s => decide (g 14 s = 2)) i = 0 by omega]
      by_cases h1 : g 14 i = 2 <;> simp [h1]
