/-! asked, in turn, buy -/
theorem View.congr {g g' : Mem} {T Q S : Nat} {F K : Nat → Nat} {sh us : Nat} (V : View T Q S F K sh us g) (h7 : g' 7 = g 7) (h12 : g' 12 = g 12) (h13 : g' 13 = g 13) (h66 : g' 66 = g 66) : View T Q S F K sh us g' := by
  obtain ⟨v1, v2, v3, v4, v5, v6, v7, v8⟩ := V
  unfold View
  rw [h7, h12, h13, h66]
  exact ⟨v1, v2, v3, v4, v5, v6, v7, v8⟩
theorem says7' {g g' : Mem} {T Q S : Nat} {tr : Nat → Nat} {i f s k : Nat} (hc : CourtN T Q S tr (g 7) (g 8) (g 9) (g 10) (g 11) (g 12) (g 13) (g 14) (g 15) (g 16) (g 66)) (hi : i < Q) (hf : f < 256) (h : g 12 i = nI f) (hk : ∀ j, j < 34 → j ≠ 6 → j ≠ 7 → g' 66 j = g 66 j) (hs : s < 4) (h2 : g' 66 (34 + s) = nI k) : fX7_saysAt (nI s) (nI i) g' = some (lsI (f &&& k), g') := by
  have : f &&& k ≤ f := Nat.and_le_left
  unfold fX7_saysAt
  rw [fit7' hc hi hf h hk, cl_s, show (34 : Int32) = nI 34 from rfl, nI_add, al_nI (by omega) (by omega), h2, fa_and, leastOf_e (by omega), cl_s]
theorem she7' {g g' : Mem} {T Q S : Nat} {tr : Nat → Nat} {i f k : Nat} (hc : CourtN T Q S tr (g 7) (g 8) (g 9) (g 10) (g 11) (g 12) (g 13) (g 14) (g 15) (g 16) (g 66)) (hi : i < Q) (hf : f < 256) (h : g 12 i = nI f) (hk : ∀ j, j < 34 → j ≠ 6 → j ≠ 7 → g' 66 j = g 66 j) (h2 : g' 66 1 = nI k) : fX7_sheSaysAt (nI i) g' = some (lsI (f &&& k), g') := by
  have : f &&& k ≤ f := Nat.and_le_left
  unfold fX7_sheSaysAt
  rw [fit7' hc hi hf h hk, cl_s, show (1 : Int32) = nI 1 from rfl, al_nI (by omega) (by omega), h2, fa_and, leastOf_e (by omega), cl_s]
theorem ans7' {g g' : Mem} {T Q S : Nat} {tr : Nat → Nat} {i f : Nat} (hc : CourtN T Q S tr (g 7) (g 8) (g 9) (g 10) (g 11) (g 12) (g 13) (g 14) (g 15) (g 16) (g 66)) (hi : i < Q) (hf : f < 256) (h : g 12 i = nI f) (hk : ∀ j, j < 34 → j ≠ 6 → j ≠ 7 → g' 66 j = g 66 j) : fX7_answerAt (nI i) g' = some (lsI f, g') := by
  unfold fX7_answerAt
  rw [fit7' hc hi hf h hk, cl_s, leastOf_e (by omega), cl_s]
theorem l66s (g' : Mem) (k s : Nat) (hk : k + s < 50) (G : Int32 → Option (Int32 × Mem)) : al g' 66 50 (nI k + nI s) G = G (g' 66 (k + s)) := by rw [nI_add]; exact al_nI hk (by omega)
theorem s66s (g' : Mem) (k s : Nat) (hk : k + s < 50) (v : Int32) (G : Mem → Option (Int32 × Mem)) : as_ g' 66 50 (nI k + nI s) v G = G (up g' 66 (k + s) v) := by rw [nI_add]; exact as_nI hk (by omega)
theorem s66 (g' : Mem) (k : Nat) (hk : k < 50) (v : Int32) (G : Mem → Option (Int32 × Mem)) : as_ g' 66 50 (nI k) v G = G (up g' 66 k v) := as_nI hk (by omega)
theorem E_asked {g : Mem} (h : Inv g) (x y : Int32) : Both g (fun g => fX6_asked x y g) (fun g => fX7_asked x y g) := by
  obtain ⟨T, Q, S, tr, F, K, sh, us, C, V⟩ := Inv_cv h
  have hb := V.1
  have h8 := V.p8
  have bad : (x < 0 ∨ nI S ≤ x) → Both g (fun g => fX6_asked x y g) (fun g => fX7_asked x y g) := fun hx => by
    refine ⟨-1000001, g, g, ?_, ?_, h⟩
    · simp only [fX6_asked]
      rw [V.2.2.2.1.1, below_f hx, cl_s, if_pos rfl]
    · simp only [fX7_asked]
      rw [isS_f V hx rfl, cl_s, if_pos rfl]
  rcases pk_ix x (n := S) (by omega) with hx | hx | ⟨s, hs, rfl⟩
  · exact bad (Or.inl hx)
  · exact bad (Or.inr hx)
  have bad : (y < 0 ∨ nI Q ≤ y) → Both g (fun g => fX6_asked (nI s) y g) (fun g => fX7_asked (nI s) y g) := fun hx => by
    refine ⟨-1000001, g, g, ?_, ?_, h⟩
    · simp only [fX6_asked]
      rw [V.2.2.2.1.1, below_t hs (by omega), cl_s, if_neg (by decide), V.2.2.1.1, below_f hx, cl_s, if_pos rfl]
    · simp only [fX7_asked]
      rw [isS_t V hs rfl, cl_s, if_neg (by decide), isR_f V hx rfl, cl_s, if_pos rfl]
  rcases pk_ix y (n := Q) (by omega) with hx | hx | ⟨i, hi, rfl⟩
  · exact bad (Or.inl hx)
  · exact bad (Or.inr hx)
  have C' := C
  obtain ⟨-, c0, c1, ⟨⟨pr, pr1, c2⟩, c2'⟩, c3, c5, c10, c15, c16, -, -, hS, -⟩ := C'
  obtain ⟨-, k3, -, a3, -, r3, u4, u3, ar⟩ := hS s hs
  by_cases hf : g 14 s = 0
  rotate_left
  · refine ⟨-1000002, g, g, ?_, ?_, h⟩
    · simp only [fX6_asked]
      rw [V.2.2.2.1.1, below_t hs (by omega), cl_s, if_neg (by decide), V.2.2.1.1, below_t hi (by omega), cl_s, if_neg (by decide), comes_e (by omega), if_neg hf, cl_s, if_pos rfl]
    · simp only [fX7_asked]
      rw [isS_t V hs rfl, cl_s, if_neg (by decide), isR_t V hi rfl, cl_s, if_neg (by decide), show (38 : Int32) = nI 38 from rfl, l66s g 38 s (by omega), a3, if_neg hf]
  obtain ⟨rx, rx1, rx2⟩ := ar hf
  by_cases hu : us.testBit i
  · refine ⟨-1000002, g, g, ?_, ?_, h⟩
    · simp only [fX6_asked]
      rw [V.2.2.2.1.1, below_t hs (by omega), cl_s, if_neg (by decide), V.2.2.1.1, below_t hi (by omega), cl_s, if_neg (by decide), comes_e (by omega), if_pos hf, cl_s, if_neg (by decide)]
      rw [v_used6 V (by omega), if_pos hu, cl_s, if_neg (by decide)]
    · simp only [fX7_asked]
      rw [isS_t V hs rfl, cl_s, if_neg (by decide), isR_t V hi rfl, cl_s, if_neg (by decide), show (38 : Int32) = nI 38 from rfl, l66s _ 38 s (by omega)]
      rw [a3, if_pos hf, v_open7 V (by omega) rfl, if_pos hu, cl_s, if_pos rfl]
  by_cases hw : 0 < cnt (fun s => decide (g 14 s = 2)) S
  · refine ⟨-1000002, g, g, ?_, ?_, h⟩
    · simp only [fX6_asked]
      rw [V.2.2.2.1.1, below_t hs (by omega), cl_s, if_neg (by decide), V.2.2.1.1, below_t hi (by omega), cl_s, if_neg (by decide), comes_e (by omega), if_pos hf, cl_s, if_neg (by decide)]
      rw [v_used6 V (by omega), if_neg hu, cl_s, if_pos rfl, wed6 hb.2.2 V.2.2.2.1.1, if_pos hw, cl_s, if_neg (by decide)]
    · simp only [fX7_asked]
      rw [isS_t V hs rfl, cl_s, if_neg (by decide), isR_t V hi rfl, cl_s, if_neg (by decide), show (38 : Int32) = nI 38 from rfl, l66s _ 38 s (by omega)]
      rw [a3, if_pos hf, v_open7 V (by omega) rfl, if_neg hu, cl_s, if_neg (by decide), wed7 (g := g) hb.2.2 V.2.2.2.1.2 (fun s hs => (hS s hs).2.2.2.1), if_pos hw, cl_s, if_neg (by decide)]
  obtain ⟨N, A, hN, hA, q1, q2, q3, q4⟩ := h.2.2.2.2.2.2.1
  obtain ⟨gk, hk, kk, k48, k48', k49, k50, k51, k52, k53, k54⟩ := keep_e hN hA (show s < 4 by omega) q1 q2
  have Vk : View T Q S F K sh us gk := V.congr (kk 7 (by omega)) (kk 12 (by omega)) (kk 13 (by omega)) (kk 66 (by omega))
  have hF := V.2.2.2.2.1 i hi
  have hK := V.2.2.2.2.2.1 s hs
  have hF8 : F i < 256 := by omega
  have eo : ∀ m : Nat, nI m ||| ((1 : Int32) <<< (nI i &&& 31)) = nI (m ||| 2 ^ i) := fun m => by rw [one_shl i (by omega), fa_or]
  have e15 : gk 7 15 = nI us := by rw [kk 7 (by omega)]; exact V.2.2.2.2.2.2.2.2.1
  -- the reference, from any class result
  have fin : ∀ (g1 : Mem) (a r : Int32), CP g g1 N A s (nI (us ||| 2 ^ i)) (g 7 16) (g 13 s) a r (g 16 s) → (∃ x : Nat, x < 4 ∧ a = nI x) → (∃ x : Nat, x ≤ 3 ∧ r = nI x) → (a = 0 → ∃ x : Nat, x ≤ 2 ∧ r = nI x) →
      ((lsI (F i &&& K s) = lsI (F i) ∧ r = nI (rx + 1) ∧ a = (if rx + 1 = 3 then 2 else 0)) ∨ (lsI (F i &&& K s) ≠ lsI (F i) ∧ r = g 15 s ∧ a = 1)) → ∃ g2, fX7_asked (nI s) (nI i) g1 = some (lsI (F i &&& K s), g2) ∧ Inv g2 := by
    intro g1 a r hC va vr var hh
    have g66 : g1 66 = g 66 := hC.1 66 (by omega)
    obtain ⟨ga, hga, t1, t2, t3, t4⟩ := act_e (g := g1) (A := A) hA (by rw [hC.1 61 (by omega)]; exact q3)
    have ga66 : ga 66 = g 66 := by rw [t1 66 (by omega) (by omega), g66]
    have hk' : ∀ j, j < 34 → j ≠ 6 → j ≠ 7 → (up ga 66 6 (nI (us ||| 2 ^ i))) 66 j = g 66 j := fun j j1 j2 j3 => by simp [up_a, upd_a, j2, ga66]
    have e34 : (up ga 66 6 (nI (us ||| 2 ^ i))) 66 (34 + s) = nI (K s) := by
      rw [← hK.2.2, ← ga66]; simp [up_a, upd_a]; omega
    have e42 : (up ga 66 6 (nI (us ||| 2 ^ i))) 66 (42 + s) = nI rx := by
      rw [← rx2, ← r3, ← ga66]; simp [up_a, upd_a]; omega
    have e6 : ga 66 6 = nI us := by rw [ga66]; exact V.2.2.2.2.2.2.2.2.2
    have run : fX7_asked (nI s) (nI i) g1 = (if lsI (F i &&& K s) = lsI (F i) then (if nI rx + 1 = 3 then some (lsI (F i &&& K s), up (up (up ga 66 6 (nI (us ||| 2 ^ i))) 66 (42 + s) (nI rx + 1)) 66 (38 + s) 2) else some (lsI (F i &&& K s), up (up (up ga 66 6 (nI (us ||| 2 ^ i))) 66 (42 + s) (nI rx + 1)) 66 (38 + s) 0)) else some (lsI (F i &&& K s), up (up ga 66 6 (nI (us ||| 2 ^ i))) 66 (38 + s) 1)) := by
      simp only [fX7_asked]
      rw [isS_t V hs g66, cl_s, if_neg (by decide), isR_t V hi g66, cl_s, if_neg (by decide), show (38 : Int32) = nI 38 from rfl, l66s _ 38 s (by omega)]
      rw [g66, a3, if_pos hf, v_open7 V (by omega) g66, if_neg hu, cl_s, if_neg (by decide), wed7 (g := g) hb.2.2 (by rw [g66]; exact V.2.2.2.1.2) (fun s hs => by rw [g66]; exact (hS s hs).2.2.2.1), if_neg hw, cl_s, if_pos rfl, hga, cl_s]
      rw [show (6 : Int32) = nI 6 from rfl, show (42 : Int32) = nI 42 from rfl, lit66 ga 6 (by omega), s66 ga 6 (by omega), e6, eo, says7' C hi hF8 hF.2.1 hk' (by omega) e34, cl_s, ans7' C hi hF8 hF.2.1 hk', cl_s]
      by_cases he : lsI (F i &&& K s) = lsI (F i)
      · rw [if_pos he, if_pos he, l66s _ 42 s (by omega), e42, s66s _ 42 s (by omega), l66s _ 42 s (by omega), s66s _ 38 s (by omega), s66s _ 38 s (by omega)]
        simp [up_a, upd_a]
      · rw [if_neg he, if_neg he, s66s _ 38 s (by omega)]
    have mp : ∀ g2 : Mem, (∀ k, k ≠ 66 → g2 k = ga k) → (∀ j, j < 50 → g2 66 j = if j = 6 then nI (us ||| 2 ^ i) else if j = 38 + s then a else if j = 42 + s then r else g 66 j) → Inv g2 := by
      intro g2 m1 m2
      refine Inv_push h C hN hA q4 hs hf hC ⟨fun k k1 k2 k3 => by rw [m1 k k2, t1 k k1 k3], fun j hj => by rw [m1 61 (by omega), t2 j hj], by rw [m1 61 (by omega), t3], fun j hj => by rw [m1 70 (by omega), t4 j hj], fun j hj => ?_⟩ ⟨_, or_lt64 V.2.2.2.2.2.2.2.1 (by omega), rfl⟩ ⟨K s, hK.1, hK.2.1⟩ va vr u4 var
      rw [m2 j hj, g66]
      by_cases j6 : j = 6
      · rw [if_pos j6, if_pos j6]
      rw [if_neg j6, if_neg j6]
      by_cases j7 : j = 7
      · rw [if_pos j7, if_neg (by omega), if_neg (by omega), j7, c16]
      rw [if_neg j7]
      by_cases j34 : j = 34 + s
      · rw [if_pos j34, if_neg (by omega), if_neg (by omega), j34, k3]
      rw [if_neg j34]
      by_cases j38 : j = 38 + s
      · rw [if_pos j38, if_pos j38]
      rw [if_neg j38, if_neg j38]
      by_cases j42 : j = 42 + s
      · rw [if_pos j42, if_pos j42]
      rw [if_neg j42, if_neg j42]
      by_cases j46 : j = 46 + s
      · rw [if_pos j46, j46, u3]
      · rw [if_neg j46]
    rcases hh with ⟨he, hr, ha⟩ | ⟨he, hr, ha⟩
    · rw [run, if_pos he, nI_1]
      have e3 : (nI (rx + 1) = 3) ↔ rx + 1 = 3 := nI_eq (b := 3) (by omega) (by omega)
      by_cases h3 : rx + 1 = 3
      · rw [if_pos (e3.mpr h3)]
        refine ⟨_, rfl, mp _ (fun k hk => by simp [up_a, hk]) (fun j hj => ?_)⟩
        rw [ha, if_pos h3, hr]
        simp only [up_a, upd_a, reduceIte, ga66]
        by_cases j6 : j = 6
        · simp only [if_pos j6, if_neg (show ¬ j = 38 + s by omega), if_neg (show ¬ j = 42 + s by omega)]
        · simp only [if_neg j6]
      · rw [if_neg (fun hh => h3 (e3.mp hh))]
        refine ⟨_, rfl, mp _ (fun k hk => by simp [up_a, hk]) (fun j hj => ?_)⟩
        rw [ha, if_neg h3, hr]
        simp only [up_a, upd_a, reduceIte, ga66]
        by_cases j6 : j = 6
        · simp only [if_pos j6, if_neg (show ¬ j = 38 + s by omega), if_neg (show ¬ j = 42 + s by omega)]
        · simp only [if_neg j6]
    · rw [run, if_neg he]
      refine ⟨_, rfl, mp _ (fun k hk => by simp [up_a, hk]) (fun j hj => ?_)⟩
      rw [ha, hr]
      simp only [up_a, upd_a, reduceIte, ga66]
      by_cases j6 : j = 6
      · simp only [if_pos j6, if_neg (show ¬ j = 38 + s by omega)]
      · simp only [if_neg j6]
        by_cases j38 : j = 38 + s
        · rw [if_pos j38, if_pos j38]
        · rw [if_neg j38, if_neg j38]
          by_cases j42 : j = 42 + s
          · rw [if_pos j42, j42, r3]
          · rw [if_neg j42]
  have cp : ∀ (g1 : Mem) (a r : Int32), (∀ k, k ≠ 7 → k ≠ 14 → k ≠ 15 → g1 k = gk k) → (∀ j, g1 7 j = if j = 15 then nI (us ||| 2 ^ i) else g 7 j) → (∀ j, g1 14 j = if j = s then a else g 14 j) → (∀ j, g1 15 j = if j = s then r else g 15 j) → CP g g1 N A s (nI (us ||| 2 ^ i)) (g 7 16) (g 13 s) a r (g 16 s) := by
    intro g1 a r m1 m2 m3 m4
    refine ⟨fun k hk => by rw [m1 k (by omega) (by omega) (by omega), kk k (by omega)], ⟨by rw [m1 48 (by omega) (by omega) (by omega)]; exact k48, by rw [m1 48 (by omega) (by omega) (by omega)]; exact k48', fun j => by rw [m1 49 (by omega) (by omega) (by omega)]; exact k49 j, fun j => by rw [m1 50 (by omega) (by omega) (by omega)]; exact k50 j, fun j => by rw [m1 51 (by omega) (by omega) (by omega)]; exact k51 j, fun j => by rw [m1 52 (by omega) (by omega) (by omega)]; exact k52 j, fun j => by rw [m1 53 (by omega) (by omega) (by omega)]; exact k53 j, fun j => by rw [m1 54 (by omega) (by omega) (by omega)]; exact k54 j⟩, fun j => ?_, fun j => ?_, m3, m4, fun j => ?_⟩
    · rw [m2]
      by_cases j15 : j = 15
      · rw [if_pos j15, if_pos j15]
      · rw [if_neg j15, if_neg j15]
        by_cases j16 : j = 16
        · rw [if_pos j16, j16]
        · rw [if_neg j16]
    · rw [m1 13 (by omega) (by omega) (by omega), kk 13 (by omega)]
      by_cases js : j = s
      · rw [if_pos js, js]
      · rw [if_neg js]
    · rw [m1 16 (by omega) (by omega) (by omega), kk 16 (by omega)]
      by_cases js : j = s
      · rw [if_pos js, js]
      · rw [if_neg js]
  have run6 : fX6_asked (nI s) (nI i) g = (if lsI (F i &&& K s) = lsI (F i) then (if nI rx + 1 < 3 then some (lsI (F i &&& K s), up (up gk 7 15 (nI (us ||| 2 ^ i))) 15 s (nI rx + 1)) else some (lsI (F i &&& K s), up (up (up gk 7 15 (nI (us ||| 2 ^ i))) 15 s (nI rx + 1)) 14 s 2)) else some (lsI (F i &&& K s), up (up gk 7 15 (nI (us ||| 2 ^ i))) 14 s 1)) := by
    simp only [fX6_asked]
    rw [V.2.2.2.1.1, below_t hs (by omega), cl_s, if_neg (by decide), V.2.2.1.1, below_t hi (by omega), cl_s, if_neg (by decide), comes_e (by omega), if_pos hf, cl_s, if_neg (by decide)]
    rw [v_used6 V (by omega), if_neg hu, cl_s, if_pos rfl, wed6 hb.2.2 V.2.2.2.1.1, if_neg hw, cl_s, if_pos rfl, hk, cl_s]
    unfold fX2_answerHer
    rw [v_says6 Vk hs hi, cl_s, pf_e, e15, eo, ans6' (f := F i) (by omega) hF8 (by rw [← hF.2.1, ← kk 12 (by omega)]; rfl), cl_s]
    have e15' : (up gk 7 15 (nI (us ||| 2 ^ i))) 15 s = nI rx := by rw [← rx2, ← kk 15 (by omega)]; rfl
    by_cases he : lsI (F i &&& K s) = lsI (F i)
    · rw [if_pos he, if_pos he, al_nI (by omega) (by omega), as_nI (by omega) (by omega), al_nI (by omega) (by omega), as_nI (by omega) (by omega)]
      simp only [show 7 + 8 = 15 from rfl, show 7 + 7 = 14 from rfl, e15', up_a, upd_a, reduceIte, cl_s]
      by_cases h3 : nI rx + 1 < 3
      · rw [if_pos h3, cl_s]
      · rw [if_neg h3, cl_s]
    · rw [if_neg he, if_neg he, as_nI (by omega) (by omega), cl_s]
  by_cases he : lsI (F i &&& K s) = lsI (F i)
  · rw [if_pos he, nI_1] at run6
    by_cases h3 : rx + 1 < 3
    · rw [if_pos (show nI (rx + 1) < (3 : Int32) from (show nI (rx + 1) < nI 3 from nI_lt h3 (by omega)))] at run6
      obtain ⟨g2, w1, w2⟩ := fin (up (up gk 7 15 (nI (us ||| 2 ^ i))) 15 s (nI (rx + 1))) 0 (nI (rx + 1)) (cp _ _ _ (fun k h1 h2 h3 => by simp [up_a, h1, h3]) (fun j => by simp [up_a, upd_a, kk 7 (by omega)]) (fun j => by simp only [up_a, upd_a]; by_cases js : j = s <;> simp [js, kk 14 (by omega), hf]) (fun j => by simp [up_a, upd_a, kk 15 (by omega)])) ⟨0, by omega, rfl⟩ ⟨rx + 1, by omega, rfl⟩ (fun _ => ⟨rx + 1, by omega, rfl⟩) (Or.inl ⟨he, rfl, by rw [if_neg (by omega)]⟩)
      exact ⟨_, _, g2, run6, w1, w2⟩
    · rw [if_neg (show ¬ nI (rx + 1) < (3 : Int32) from (show ¬ nI (rx + 1) < nI 3 from nI_nlt (by omega) (by omega)))] at run6
      obtain ⟨g2, w1, w2⟩ := fin (up (up (up gk 7 15 (nI (us ||| 2 ^ i))) 15 s (nI (rx + 1))) 14 s 2) 2 (nI (rx + 1)) (cp _ _ _ (fun k h1 h2 h3 => by simp [up_a, h1, h2, h3]) (fun j => by simp [up_a, upd_a, kk 7 (by omega)]) (fun j => by simp [up_a, upd_a, kk 14 (by omega)]) (fun j => by simp [up_a, upd_a, kk 15 (by omega)])) ⟨2, by omega, rfl⟩ ⟨rx + 1, by omega, rfl⟩ (fun h => absurd h (by decide)) (Or.inl ⟨he, rfl, by rw [if_pos (by omega)]⟩)
      exact ⟨_, _, g2, run6, w1, w2⟩
  · rw [if_neg he] at run6
    obtain ⟨g2, w1, w2⟩ := fin (up (up gk 7 15 (nI (us ||| 2 ^ i))) 14 s 1) 1 (g 15 s) (cp _ _ _ (fun k h1 h2 h3 => by simp [up_a, h1, h2]) (fun j => by simp [up_a, upd_a, kk 7 (by omega)]) (fun j => by simp [up_a, upd_a, kk 14 (by omega)]) (fun j => by simp only [up_a, upd_a]; by_cases js : j = s <;> simp [js, kk 15 (by omega)])) ⟨1, by omega, rfl⟩ ⟨rx, by omega, rx2⟩ (fun h => absurd h (by decide)) (Or.inr ⟨he, rfl, rfl⟩)
    exact ⟨_, _, g2, run6, w1, w2⟩
