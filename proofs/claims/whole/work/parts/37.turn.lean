theorem same_ite (s : Nat) (f : Nat → Int32) (j : Nat) : (if j = s then f s else f j) = f j := by
  by_cases h : j = s
  · rw [if_pos h, h]
  · rw [if_neg h]
theorem E_inTurn {g : Mem} (h : Inv g) (x y : Int32) : Both g (fun g => fX6_inTurn x y g) (fun g => fX7_inTurn x y g) := by
  obtain ⟨T, Q, S, tr, F, K, sh, us, C, V⟩ := Inv_cv h
  have hb := V.1
  have h8 := V.p8
  have bad : (x < 0 ∨ nI S ≤ x) → Both g (fun g => fX6_inTurn x y g) (fun g => fX7_inTurn x y g) := fun hx => by
    refine ⟨-1000001, g, g, ?_, ?_, h⟩
    · simp only [fX6_inTurn]
      rw [V.2.2.2.1.1, below_f hx, cl_s, if_pos rfl]
    · simp only [fX7_inTurn]
      rw [isS_f V hx rfl, cl_s, if_pos rfl]
  rcases pk_ix x (n := S) (by omega) with hx | hx | ⟨s, hs, rfl⟩
  · exact bad (Or.inl hx)
  · exact bad (Or.inr hx)
  have bad : (y < 0 ∨ nI Q ≤ y) → Both g (fun g => fX6_inTurn (nI s) y g) (fun g => fX7_inTurn (nI s) y g) := fun hx => by
    refine ⟨-1000001, g, g, ?_, ?_, h⟩
    · simp only [fX6_inTurn]
      rw [V.2.2.2.1.1, below_t hs (by omega), cl_s, if_neg (by decide), V.2.2.1.1, below_f hx, cl_s, if_pos rfl]
    · simp only [fX7_inTurn]
      rw [isS_t V hs rfl, cl_s, if_neg (by decide), isR_f V hx rfl, cl_s, if_pos rfl]
  rcases pk_ix y (n := Q) (by omega) with hx | hx | ⟨i, hi, rfl⟩
  · exact bad (Or.inl hx)
  · exact bad (Or.inr hx)
  have C' := C
  obtain ⟨-, c0, c1, ⟨⟨pr, pr1, c2⟩, c2'⟩, c3, c5, c10, c15, c16, -, -, hS, -⟩ := C'
  obtain ⟨-, k3, -, a3, -, r3, u4, u3, ar⟩ := hS s hs
  by_cases hf : g 14 s = 0
  rotate_left
  · refine ⟨-1000002, g, g, ?_, ?_, h⟩
    · simp only [fX6_inTurn]
      rw [V.2.2.2.1.1, below_t hs (by omega), cl_s, if_neg (by decide), V.2.2.1.1, below_t hi (by omega), cl_s, if_neg (by decide), comes_e (by omega), if_neg hf, cl_s, if_pos rfl]
    · simp only [fX7_inTurn]
      rw [isS_t V hs rfl, cl_s, if_neg (by decide), isR_t V hi rfl, cl_s, if_neg (by decide), show (38 : Int32) = nI 38 from rfl, l66s g 38 s (by omega), a3, if_neg hf]
  obtain ⟨rx, rx1, rx2⟩ := ar hf
  by_cases hu : us.testBit i
  · refine ⟨-1000002, g, g, ?_, ?_, h⟩
    · simp only [fX6_inTurn]
      rw [V.2.2.2.1.1, below_t hs (by omega), cl_s, if_neg (by decide), V.2.2.1.1, below_t hi (by omega), cl_s, if_neg (by decide), comes_e (by omega), if_pos hf, cl_s, if_neg (by decide)]
      rw [v_used6 V (by omega), if_pos hu, cl_s, if_neg (by decide)]
    · simp only [fX7_inTurn]
      rw [isS_t V hs rfl, cl_s, if_neg (by decide), isR_t V hi rfl, cl_s, if_neg (by decide), show (38 : Int32) = nI 38 from rfl, l66s _ 38 s (by omega)]
      rw [a3, if_pos hf, v_open7 V (by omega) rfl, if_pos hu, cl_s, if_pos rfl]
  by_cases ht : g 16 s = 0
  rotate_left
  · have ht1 : g 16 s = 1 := u4.resolve_left ht
    refine ⟨-1000002, g, g, ?_, ?_, h⟩
    · simp only [fX6_inTurn]
      rw [V.2.2.2.1.1, below_t hs (by omega), cl_s, if_neg (by decide), V.2.2.1.1, below_t hi (by omega), cl_s, if_neg (by decide), comes_e (by omega), if_pos hf, cl_s, if_neg (by decide)]
      rw [v_used6 V (by omega), if_neg hu, cl_s, if_pos rfl, al_nI (by omega) (by omega), if_neg ht]
    · simp only [fX7_inTurn]
      rw [isS_t V hs rfl, cl_s, if_neg (by decide), isR_t V hi rfl, cl_s, if_neg (by decide), show (38 : Int32) = nI 38 from rfl, l66s _ 38 s (by omega)]
      rw [a3, if_pos hf, v_open7 V (by omega) rfl, if_neg hu, cl_s, if_neg (by decide), show (46 : Int32) = nI 46 from rfl, l66s g 46 s (by omega), u3, if_pos ht1]
  have ht1 : ¬ g 16 s = 1 := by rw [ht]; decide
  by_cases hw : 0 < cnt (fun s => decide (g 14 s = 2)) S
  · refine ⟨-1000002, g, g, ?_, ?_, h⟩
    · simp only [fX6_inTurn]
      rw [V.2.2.2.1.1, below_t hs (by omega), cl_s, if_neg (by decide), V.2.2.1.1, below_t hi (by omega), cl_s, if_neg (by decide), comes_e (by omega), if_pos hf, cl_s, if_neg (by decide)]
      rw [v_used6 V (by omega), if_neg hu, cl_s, if_pos rfl, al_nI (by omega) (by omega), if_pos ht, wed6 hb.2.2 V.2.2.2.1.1, if_pos hw, cl_s, if_neg (by decide)]
    · simp only [fX7_inTurn]
      rw [isS_t V hs rfl, cl_s, if_neg (by decide), isR_t V hi rfl, cl_s, if_neg (by decide), show (38 : Int32) = nI 38 from rfl, l66s _ 38 s (by omega)]
      rw [a3, if_pos hf, v_open7 V (by omega) rfl, if_neg hu, cl_s, if_neg (by decide), show (46 : Int32) = nI 46 from rfl, l66s g 46 s (by omega), u3, if_neg ht1, wed7 (g := g) hb.2.2 V.2.2.2.1.2 (fun s hs => (hS s hs).2.2.2.1), if_pos hw, cl_s, if_neg (by decide)]
  obtain ⟨N, A, hN, hA, q1, q2, q3, q4⟩ := h.2.2.2.2.2.2.1
  obtain ⟨gk, hk, kk, k48, k48', k49, k50, k51, k52, k53, k54⟩ := keep_e hN hA (show s < 4 by omega) q1 q2
  have Vk : View T Q S F K sh us gk := V.congr (kk 7 (by omega)) (kk 12 (by omega)) (kk 13 (by omega)) (kk 66 (by omega))
  have hF := V.2.2.2.2.1 i hi
  have hsh := V.2.2.2.2.2.2.1
  have hK := V.2.2.2.2.2.1 s hs
  have hF8 : F i < 256 := by omega
  have eo : ∀ m : Nat, nI m ||| ((1 : Int32) <<< (nI i &&& 31)) = nI (m ||| 2 ^ i) := fun m => by rw [one_shl i (by omega), fa_or]
  have e15 : gk 7 15 = nI us := by rw [kk 7 (by omega)]; exact V.2.2.2.2.2.2.2.2.1
  have fin : ∀ (g1 : Mem) (a : Int32), CP g g1 N A s (nI (us ||| 2 ^ i)) (g 7 16) (g 13 s) a (g 15 s) 1 → (∃ x : Nat, x < 4 ∧ a = nI x) →
      ((lsI (F i &&& sh) = lsI (F i) ∧ a = 0) ∨ (lsI (F i &&& sh) ≠ lsI (F i) ∧ a = 3)) → ∃ g2, fX7_inTurn (nI s) (nI i) g1 = some (lsI (F i &&& sh), g2) ∧ Inv g2 := by
    intro g1 a hC va hh
    have g66 : g1 66 = g 66 := hC.1 66 (by omega)
    obtain ⟨ga, hga, t1, t2, t3, t4⟩ := act_e (g := g1) (A := A) hA (by rw [hC.1 61 (by omega)]; exact q3)
    have ga66 : ga 66 = g 66 := by rw [t1 66 (by omega) (by omega), g66]
    have hk' : ∀ j, j < 34 → j ≠ 6 → j ≠ 7 → (up (up ga 66 6 (nI (us ||| 2 ^ i))) 66 (46 + s) 1) 66 j = g 66 j := fun j j1 j2 j3 => by
      simp only [up_a, upd_a, reduceIte]; rw [if_neg (show ¬ j = 46 + s by omega), if_neg j2, ga66]
    have e1 : (up (up ga 66 6 (nI (us ||| 2 ^ i))) 66 (46 + s) 1) 66 1 = nI sh := by rw [hk' 1 (by omega) (by omega) (by omega)]; exact hsh.2.2
    have e6 : ga 66 6 = nI us := by rw [ga66]; exact V.2.2.2.2.2.2.2.2.2
    have run : fX7_inTurn (nI s) (nI i) g1 = (if lsI (F i &&& sh) = lsI (F i) then some (lsI (F i &&& sh), up (up (up ga 66 6 (nI (us ||| 2 ^ i))) 66 (46 + s) 1) 66 (38 + s) 0) else some (lsI (F i &&& sh), up (up (up ga 66 6 (nI (us ||| 2 ^ i))) 66 (46 + s) 1) 66 (38 + s) 3)) := by
      simp only [fX7_inTurn]
      rw [isS_t V hs g66, cl_s, if_neg (by decide), isR_t V hi g66, cl_s, if_neg (by decide), show (38 : Int32) = nI 38 from rfl, l66s _ 38 s (by omega)]
      rw [g66, a3, if_pos hf, v_open7 V (by omega) g66, if_neg hu, cl_s, if_neg (by decide), show (46 : Int32) = nI 46 from rfl, l66s g1 46 s (by omega), g66, u3, if_neg ht1, wed7 (g := g) hb.2.2 (by rw [g66]; exact V.2.2.2.1.2) (fun s hs => by rw [g66]; exact (hS s hs).2.2.2.1), if_neg hw, cl_s, if_pos rfl, hga, cl_s]
      rw [show (6 : Int32) = nI 6 from rfl, lit66 ga 6 (by omega), s66 ga 6 (by omega), e6, eo, s66s _ 46 s (by omega), she7' C hi hF8 hF.2.1 hk' e1, cl_s, ans7' C hi hF8 hF.2.1 hk', cl_s, s66s _ 38 s (by omega), s66s _ 38 s (by omega)]
    have mp : ∀ g2 : Mem, (∀ k, k ≠ 66 → g2 k = ga k) → (∀ j, j < 50 → g2 66 j = if j = 6 then (nI (us ||| 2 ^ i)) else if j = 7 then (g 7 16) else if j = 34 + s then (g 13 s) else if j = 38 + s then a else if j = 42 + s then (g 15 s) else if j = 46 + s then 1 else g 66 j) → Inv g2 := by
      intro g2 m1 m2
      exact Inv_push h C hN hA q4 hs hf hC ⟨fun k k1 k2 k3 => by rw [m1 k k2, t1 k k1 k3], fun j hj => by rw [m1 61 (by omega), t2 j hj], by rw [m1 61 (by omega), t3], fun j hj => by rw [m1 70 (by omega), t4 j hj], fun j hj => by rw [m2 j hj, g66]⟩ ⟨_, or_lt64 V.2.2.2.2.2.2.2.1 (by omega), rfl⟩ ⟨K s, hK.1, hK.2.1⟩ va ⟨rx, by omega, rx2⟩ (Or.inr rfl) (fun _ => ⟨rx, rx1, rx2⟩)
    rcases hh with ⟨he, ha⟩ | ⟨he, ha⟩
    · rw [run, if_pos he]
      refine ⟨_, rfl, mp _ (fun k hk => by simp [up_a, hk]) (fun j hj => ?_)⟩
      rw [ha]
      simp only [up_a, upd_a, reduceIte, ga66]
      by_cases j6 : j = 6
      · simp only [if_pos j6, if_neg (show ¬ j = 7 by omega), if_neg (show ¬ j = 34 + s by omega), if_neg (show ¬ j = 38 + s by omega), if_neg (show ¬ j = 42 + s by omega), if_neg (show ¬ j = 46 + s by omega)] <;> (rw [j6]; exact c15.2)
      simp only [if_neg j6]
      by_cases j7 : j = 7
      · simp only [if_pos j7, if_neg (show ¬ j = 6 by omega), if_neg (show ¬ j = 34 + s by omega), if_neg (show ¬ j = 38 + s by omega), if_neg (show ¬ j = 42 + s by omega), if_neg (show ¬ j = 46 + s by omega)] <;> (rw [j7]; exact c16)
      simp only [if_neg j7]
      by_cases j34 : j = 34 + s
      · simp only [if_pos j34, if_neg (show ¬ j = 6 by omega), if_neg (show ¬ j = 7 by omega), if_neg (show ¬ j = 38 + s by omega), if_neg (show ¬ j = 42 + s by omega), if_neg (show ¬ j = 46 + s by omega)] <;> (rw [j34]; exact k3)
      simp only [if_neg j34]
      by_cases j38 : j = 38 + s
      · simp only [if_pos j38, if_neg (show ¬ j = 6 by omega), if_neg (show ¬ j = 7 by omega), if_neg (show ¬ j = 34 + s by omega), if_neg (show ¬ j = 42 + s by omega), if_neg (show ¬ j = 46 + s by omega)] <;> (rw [j38]; exact (a3.trans hf))
      simp only [if_neg j38]
      by_cases j42 : j = 42 + s
      · simp only [if_pos j42, if_neg (show ¬ j = 6 by omega), if_neg (show ¬ j = 7 by omega), if_neg (show ¬ j = 34 + s by omega), if_neg (show ¬ j = 38 + s by omega), if_neg (show ¬ j = 46 + s by omega)] <;> (rw [j42]; exact r3)
      simp only [if_neg j42]
    · rw [run, if_neg he]
      refine ⟨_, rfl, mp _ (fun k hk => by simp [up_a, hk]) (fun j hj => ?_)⟩
      rw [ha]
      simp only [up_a, upd_a, reduceIte, ga66]
      by_cases j6 : j = 6
      · simp only [if_pos j6, if_neg (show ¬ j = 7 by omega), if_neg (show ¬ j = 34 + s by omega), if_neg (show ¬ j = 38 + s by omega), if_neg (show ¬ j = 42 + s by omega), if_neg (show ¬ j = 46 + s by omega)] <;> (rw [j6]; exact c15.2)
      simp only [if_neg j6]
      by_cases j7 : j = 7
      · simp only [if_pos j7, if_neg (show ¬ j = 6 by omega), if_neg (show ¬ j = 34 + s by omega), if_neg (show ¬ j = 38 + s by omega), if_neg (show ¬ j = 42 + s by omega), if_neg (show ¬ j = 46 + s by omega)] <;> (rw [j7]; exact c16)
      simp only [if_neg j7]
      by_cases j34 : j = 34 + s
      · simp only [if_pos j34, if_neg (show ¬ j = 6 by omega), if_neg (show ¬ j = 7 by omega), if_neg (show ¬ j = 38 + s by omega), if_neg (show ¬ j = 42 + s by omega), if_neg (show ¬ j = 46 + s by omega)] <;> (rw [j34]; exact k3)
      simp only [if_neg j34]
      by_cases j38 : j = 38 + s
      · simp only [if_pos j38, if_neg (show ¬ j = 6 by omega), if_neg (show ¬ j = 7 by omega), if_neg (show ¬ j = 34 + s by omega), if_neg (show ¬ j = 42 + s by omega), if_neg (show ¬ j = 46 + s by omega)] <;> (rw [j38]; exact (a3.trans hf))
      simp only [if_neg j38]
      by_cases j42 : j = 42 + s
      · simp only [if_pos j42, if_neg (show ¬ j = 6 by omega), if_neg (show ¬ j = 7 by omega), if_neg (show ¬ j = 34 + s by omega), if_neg (show ¬ j = 38 + s by omega), if_neg (show ¬ j = 46 + s by omega)] <;> (rw [j42]; exact r3)
      simp only [if_neg j42]
  have cp : ∀ (g1 : Mem) (a : Int32), (∀ k, (k < 7 ∨ (7 < k ∧ k < 13) ∨ 16 < k) → g1 k = gk k) → (∀ j, g1 7 j = if j = 15 then (nI (us ||| 2 ^ i)) else if j = 16 then g 7 16 else g 7 j) → (∀ j, g1 13 j = if j = s then g 13 s else g 13 j) → (∀ j, g1 14 j = if j = s then a else g 14 j) → (∀ j, g1 15 j = if j = s then g 15 s else g 15 j) → (∀ j, g1 16 j = if j = s then 1 else g 16 j) → CP g g1 N A s ((nI (us ||| 2 ^ i))) (g 7 16) (g 13 s) (a) (g 15 s) (1) := by
    intro g1 a m1 m2 m3 m4 m5 m6
    exact ⟨fun k hk => by rw [m1 k (by omega), kk k (by omega)], ⟨by rw [m1 48 (by omega)]; exact k48, by rw [m1 48 (by omega)]; exact k48', fun j => by rw [m1 49 (by omega)]; exact k49 j, fun j => by rw [m1 50 (by omega)]; exact k50 j, fun j => by rw [m1 51 (by omega)]; exact k51 j, fun j => by rw [m1 52 (by omega)]; exact k52 j, fun j => by rw [m1 53 (by omega)]; exact k53 j, fun j => by rw [m1 54 (by omega)]; exact k54 j⟩, m2, m3, m4, m5, m6⟩
  have run6 : fX6_inTurn (nI s) (nI i) g = (if lsI (F i &&& sh) = lsI (F i) then some (lsI (F i &&& sh), up (up gk 7 15 (nI (us ||| 2 ^ i))) 16 s 1) else some (lsI (F i &&& sh), up (up (up gk 7 15 (nI (us ||| 2 ^ i))) 16 s 1) 14 s 3)) := by
    simp only [fX6_inTurn]
    rw [V.2.2.2.1.1, below_t hs (by omega), cl_s, if_neg (by decide), V.2.2.1.1, below_t hi (by omega), cl_s, if_neg (by decide), comes_e (by omega), if_pos hf, cl_s, if_neg (by decide)]
    rw [v_used6 V (by omega), if_neg hu, cl_s, if_pos rfl, al_nI (by omega) (by omega), if_pos ht, wed6 hb.2.2 V.2.2.2.1.1, if_neg hw, cl_s, if_pos rfl, hk, cl_s]
    unfold fX2_askHer
    rw [v_she6 Vk hi, cl_s, pf_e, e15, eo, as_nI (by omega) (by omega), ans6' (f := F i) (by omega) hF8 (by rw [← hF.2.1, ← kk 12 (by omega)]; rfl), cl_s]
    by_cases he : lsI (F i &&& sh) = lsI (F i)
    · rw [if_pos he, if_pos he, cl_s]
    · rw [if_neg he, if_neg he, as_nI (by omega) (by omega), cl_s]
  have f7 : ∀ j, (if j = 15 then (nI (us ||| 2 ^ i)) else gk 7 j) = if j = 15 then (nI (us ||| 2 ^ i)) else if j = 16 then g 7 16 else g 7 j := fun j => by
    rw [kk 7 (by omega)]
    by_cases j15 : j = 15
    · rw [if_pos j15, if_pos j15]
    · rw [if_neg j15, if_neg j15, same_ite 16 (fun j => g 7 j) j]
  by_cases he : lsI (F i &&& sh) = lsI (F i)
  · rw [if_pos he] at run6
    obtain ⟨g2, w1, w2⟩ := fin (up (up gk 7 15 (nI (us ||| 2 ^ i))) 16 s 1) 0 (cp (up (up gk 7 15 (nI (us ||| 2 ^ i))) 16 s 1) 0 (fun k hk => by rw [up_a, if_neg (by omega), up_a, if_neg (by omega)]) (fun j => f7 j) (fun j => by rw [same_ite s (fun j => g 13 j) j]; show _ = g 13 j; rw [← kk 13 (by omega)]; rfl) (fun j => by rw [← hf, same_ite s (fun j => g 14 j) j]; show gk 14 j = g 14 j; rw [kk 14 (by omega)]) (fun j => by rw [same_ite s (fun j => g 15 j) j]; show _ = g 15 j; rw [← kk 15 (by omega)]; rfl) (fun j => by rw [← kk 16 (by omega)]; rfl)) ⟨0, by omega, rfl⟩ (Or.inl ⟨he, rfl⟩)
    exact ⟨_, _, g2, run6, w1, w2⟩
  · rw [if_neg he] at run6
    obtain ⟨g2, w1, w2⟩ := fin (up (up (up gk 7 15 (nI (us ||| 2 ^ i))) 16 s 1) 14 s 3) 3 (cp (up (up (up gk 7 15 (nI (us ||| 2 ^ i))) 16 s 1) 14 s 3) 3 (fun k hk => by rw [up_a, if_neg (by omega), up_a, if_neg (by omega), up_a, if_neg (by omega)]) (fun j => f7 j) (fun j => by rw [same_ite s (fun j => g 13 j) j]; show _ = g 13 j; rw [← kk 13 (by omega)]; rfl) (fun j => by rw [← kk 14 (by omega)]; rfl) (fun j => by rw [same_ite s (fun j => g 15 j) j]; show _ = g 15 j; rw [← kk 15 (by omega)]; rfl) (fun j => by rw [← kk 16 (by omega)]; rfl)) ⟨3, by omega, rfl⟩ (Or.inr ⟨he, rfl⟩)
    exact ⟨_, _, g2, run6, w1, w2⟩
theorem E_buy {g : Mem} (h : Inv g) (x y : Int32) : Both g (fun g => fX6_buy x y g) (fun g => fX7_buy x y g) := by
  obtain ⟨T, Q, S, tr, F, K, sh, us, C, V⟩ := Inv_cv h
  have hb := V.1
  have h8 := V.p8
  have bad : (x < 0 ∨ nI S ≤ x) → Both g (fun g => fX6_buy x y g) (fun g => fX7_buy x y g) := fun hx => by
    refine ⟨-1000001, g, g, ?_, ?_, h⟩
    · simp only [fX6_buy]
      rw [V.2.2.2.1.1, below_f hx, cl_s, if_pos rfl]
    · simp only [fX7_buy]
      rw [isS_f V hx rfl, cl_s, if_pos rfl]
  rcases pk_ix x (n := S) (by omega) with hx | hx | ⟨s, hs, rfl⟩
  · exact bad (Or.inl hx)
  · exact bad (Or.inr hx)
  have bad : (y < 0 ∨ nI T ≤ y) → Both g (fun g => fX6_buy (nI s) y g) (fun g => fX7_buy (nI s) y g) := fun hx => by
    refine ⟨-1000001, g, g, ?_, ?_, h⟩
    · simp only [fX6_buy]
      rw [V.2.2.2.1.1, below_t hs (by omega), cl_s, if_neg (by decide), V.2.1.1, below_f hx, cl_s, if_pos rfl]
    · simp only [fX7_buy]
      rw [isS_t V hs rfl, cl_s, if_neg (by decide), isT_f V hx rfl, cl_s, if_pos rfl]
  rcases pk_ix y (n := T) (by omega) with hx | hx | ⟨i, hi, rfl⟩
  · exact bad (Or.inl hx)
  · exact bad (Or.inr hx)
  have C' := C
  obtain ⟨-, c0, c1, ⟨⟨pr, pr1, c2⟩, c2'⟩, c3, c5, c10, c15, c16, -, -, hS, -⟩ := C'
  obtain ⟨-, k3, -, a3, -, r3, u4, u3, ar⟩ := hS s hs
  by_cases hf : g 14 s = 0
  rotate_left
  · refine ⟨-1000002, g, g, ?_, ?_, h⟩
    · simp only [fX6_buy]
      rw [V.2.2.2.1.1, below_t hs (by omega), cl_s, if_neg (by decide), V.2.1.1, below_t hi (by omega), cl_s, if_neg (by decide), comes_e (by omega), if_neg hf, cl_s, if_pos rfl]
    · simp only [fX7_buy]
      rw [isS_t V hs rfl, cl_s, if_neg (by decide), isT_t V hi rfl, cl_s, if_neg (by decide), show (38 : Int32) = nI 38 from rfl, l66s g 38 s (by omega), a3, if_neg hf]
  obtain ⟨rx, rx1, rx2⟩ := ar hf
  have hK := V.2.2.2.2.2.1 s hs
  by_cases hu : (K s).testBit i
  · refine ⟨-1000002, g, g, ?_, ?_, h⟩
    · simp only [fX6_buy]
      rw [V.2.2.2.1.1, below_t hs (by omega), cl_s, if_neg (by decide), V.2.1.1, below_t hi (by omega), cl_s, if_neg (by decide), comes_e (by omega), if_pos hf, cl_s, if_neg (by decide)]
      rw [known_e V hs (by omega), if_pos hu, cl_s, if_neg (by decide)]
    · simp only [fX7_buy]
      rw [isS_t V hs rfl, cl_s, if_neg (by decide), isT_t V hi rfl, cl_s, if_neg (by decide), show (38 : Int32) = nI 38 from rfl, l66s _ 38 s (by omega)]
      rw [a3, if_pos hf, show (34 : Int32) = nI 34 from rfl, l66s g 34 s (by omega), hK.2.2, has_e (by omega) (by omega), if_pos hu, cl_s, if_neg (by decide)]
  obtain ⟨N, A, hN, hA, q1, q2, q3, q4⟩ := h.2.2.2.2.2.2.1
  obtain ⟨gk, hk, kk, k48, k48', k49, k50, k51, k52, k53, k54⟩ := keep_e hN hA (show s < 4 by omega) q1 q2
  have Vk : View T Q S F K sh us gk := V.congr (kk 7 (by omega)) (kk 12 (by omega)) (kk 13 (by omega)) (kk 66 (by omega))
  have eo : ∀ m : Nat, nI m ||| ((1 : Int32) <<< (nI i &&& 31)) = nI (m ||| 2 ^ i) := fun m => by rw [one_shl i (by omega), fa_or]
  have fin : ∀ g1 : Mem, CP g g1 N A s (g 7 15) (g 7 16 + nI (pr * cnt (fun j => !us.testBit j && decide (lsI (F j) = nI i)) Q)) (nI (K s ||| 2 ^ i)) 0 (g 15 s) (g 16 s) → ∃ g2, fX7_buy (nI s) (nI i) g1 = some (nI (pr * cnt (fun j => !us.testBit j && decide (lsI (F j) = nI i)) Q), g2) ∧ Inv g2 := by
    intro g1 hC
    have g66 : g1 66 = g 66 := hC.1 66 (by omega)
    obtain ⟨ga, hga, t1, t2, t3, t4⟩ := act_e (g := g1) (A := A) hA (by rw [hC.1 61 (by omega)]; exact q3)
    have ga66 : ga 66 = g 66 := by rw [t1 66 (by omega) (by omega), g66]
    have e34 : ga 66 (34 + s) = nI (K s) := by rw [ga66]; exact hK.2.2
    have e7 : (up ga 66 (34 + s) (nI (K s ||| 2 ^ i))) 66 7 = g 7 16 := by
      simp only [up_a, upd_a, reduceIte]; rw [if_neg (by omega), ga66, c16]
    have run : fX7_buy (nI s) (nI i) g1 = some (nI (pr * cnt (fun j => !us.testBit j && decide (lsI (F j) = nI i)) Q), up (up ga 66 (34 + s) (nI (K s ||| 2 ^ i))) 66 7 (g 7 16 + nI (pr * cnt (fun j => !us.testBit j && decide (lsI (F j) = nI i)) Q))) := by
      simp only [fX7_buy]
      rw [isS_t V hs g66, cl_s, if_neg (by decide), isT_t V hi g66, cl_s, if_neg (by decide), show (38 : Int32) = nI 38 from rfl, l66s _ 38 s (by omega)]
      rw [g66, a3, if_pos hf, show (34 : Int32) = nI 34 from rfl, l66s g1 34 s (by omega), g66, hK.2.2, has_e (by omega) (by omega), if_neg hu, cl_s, if_pos rfl, hga, cl_s, cost7 V ga66 (c2'.trans c2) (nI i), cl_s, l66s ga 34 s (by omega), e34, eo, s66s _ 34 s (by omega), show (7 : Int32) = nI 7 from rfl, lit66 _ 7 (by omega), e7, s66 _ 7 (by omega)]
    have mp : ∀ g2 : Mem, (∀ k, k ≠ 66 → g2 k = ga k) → (∀ j, j < 50 → g2 66 j = if j = 6 then (g 7 15) else if j = 7 then (g 7 16 + nI (pr * cnt (fun j => !us.testBit j && decide (lsI (F j) = nI i)) Q)) else if j = 34 + s then (nI (K s ||| 2 ^ i)) else if j = 38 + s then 0 else if j = 42 + s then (g 15 s) else if j = 46 + s then (g 16 s) else g 66 j) → Inv g2 := by
      intro g2 m1 m2
      exact Inv_push h C hN hA q4 hs hf hC ⟨fun k k1 k2 k3 => by rw [m1 k k2, t1 k k1 k3], fun j hj => by rw [m1 61 (by omega), t2 j hj], by rw [m1 61 (by omega), t3], fun j hj => by rw [m1 70 (by omega), t4 j hj], fun j hj => by rw [m2 j hj, g66]⟩ c15.1 ⟨_, Nat.or_lt_two_pow hK.1 (Nat.pow_lt_pow_right (by omega) hi), rfl⟩ ⟨0, by omega, rfl⟩ ⟨rx, by omega, rx2⟩ u4 (fun _ => ⟨rx, rx1, rx2⟩)
    rw [run]
    refine ⟨_, rfl, mp _ (fun k hk => by simp [up_a, hk]) (fun j hj => ?_)⟩
    simp only [up_a, upd_a, reduceIte, ga66]
    by_cases j6 : j = 6
    · simp only [if_pos j6, if_neg (show ¬ j = 7 by omega), if_neg (show ¬ j = 34 + s by omega), if_neg (show ¬ j = 38 + s by omega), if_neg (show ¬ j = 42 + s by omega), if_neg (show ¬ j = 46 + s by omega)] <;> (rw [j6]; exact c15.2)
    simp only [if_neg j6]
    by_cases j7 : j = 7
    · simp only [if_pos j7, if_neg (show ¬ j = 6 by omega), if_neg (show ¬ j = 34 + s by omega), if_neg (show ¬ j = 38 + s by omega), if_neg (show ¬ j = 42 + s by omega), if_neg (show ¬ j = 46 + s by omega)] <;> (rw [j7]; exact c16)
    simp only [if_neg j7]
    by_cases j34 : j = 34 + s
    · simp only [if_pos j34, if_neg (show ¬ j = 6 by omega), if_neg (show ¬ j = 7 by omega), if_neg (show ¬ j = 38 + s by omega), if_neg (show ¬ j = 42 + s by omega), if_neg (show ¬ j = 46 + s by omega)] <;> (rw [j34]; exact k3)
    simp only [if_neg j34]
    by_cases j38 : j = 38 + s
    · simp only [if_pos j38, if_neg (show ¬ j = 6 by omega), if_neg (show ¬ j = 7 by omega), if_neg (show ¬ j = 34 + s by omega), if_neg (show ¬ j = 42 + s by omega), if_neg (show ¬ j = 46 + s by omega)] <;> (rw [j38]; exact (a3.trans hf))
    simp only [if_neg j38]
    by_cases j42 : j = 42 + s
    · simp only [if_pos j42, if_neg (show ¬ j = 6 by omega), if_neg (show ¬ j = 7 by omega), if_neg (show ¬ j = 34 + s by omega), if_neg (show ¬ j = 38 + s by omega), if_neg (show ¬ j = 46 + s by omega)] <;> (rw [j42]; exact r3)
    simp only [if_neg j42]
    by_cases j46 : j = 46 + s
    · simp only [if_pos j46, if_neg (show ¬ j = 6 by omega), if_neg (show ¬ j = 7 by omega), if_neg (show ¬ j = 34 + s by omega), if_neg (show ¬ j = 38 + s by omega), if_neg (show ¬ j = 42 + s by omega)] <;> (rw [j46]; exact u3)
    simp only [if_neg j46]
  have cp : ∀ (g1 : Mem) (a : Int32), (∀ k, (k < 7 ∨ (7 < k ∧ k < 13) ∨ 16 < k) → g1 k = gk k) → (∀ j, g1 7 j = if j = 15 then g 7 15 else if j = 16 then (g 7 16 + nI (pr * cnt (fun j => !us.testBit j && decide (lsI (F j) = nI i)) Q)) else g 7 j) → (∀ j, g1 13 j = if j = s then (nI (K s ||| 2 ^ i)) else g 13 j) → (∀ j, g1 14 j = if j = s then 0 else g 14 j) → (∀ j, g1 15 j = if j = s then g 15 s else g 15 j) → (∀ j, g1 16 j = if j = s then g 16 s else g 16 j) → CP g g1 N A s (g 7 15) ((g 7 16 + nI (pr * cnt (fun j => !us.testBit j && decide (lsI (F j) = nI i)) Q))) ((nI (K s ||| 2 ^ i))) (0) (g 15 s) (g 16 s) := by
    intro g1 a m1 m2 m3 m4 m5 m6
    exact ⟨fun k hk => by rw [m1 k (by omega), kk k (by omega)], ⟨by rw [m1 48 (by omega)]; exact k48, by rw [m1 48 (by omega)]; exact k48', fun j => by rw [m1 49 (by omega)]; exact k49 j, fun j => by rw [m1 50 (by omega)]; exact k50 j, fun j => by rw [m1 51 (by omega)]; exact k51 j, fun j => by rw [m1 52 (by omega)]; exact k52 j, fun j => by rw [m1 53 (by omega)]; exact k53 j, fun j => by rw [m1 54 (by omega)]; exact k54 j⟩, m2, m3, m4, m5, m6⟩
  have e13 : gk 13 s = nI (K s) := by rw [kk 13 (by omega)]; exact hK.2.1
  have e16 : (up gk 13 s (nI (K s ||| 2 ^ i))) 7 16 = g 7 16 := by rw [← kk 7 (by omega)]; rfl
  have run6 : fX6_buy (nI s) (nI i) g = some (nI (pr * cnt (fun j => !us.testBit j && decide (lsI (F j) = nI i)) Q), up (up gk 13 s (nI (K s ||| 2 ^ i))) 7 16 (g 7 16 + nI (pr * cnt (fun j => !us.testBit j && decide (lsI (F j) = nI i)) Q))) := by
    simp only [fX6_buy]
    rw [V.2.2.2.1.1, below_t hs (by omega), cl_s, if_neg (by decide), V.2.1.1, below_t hi (by omega), cl_s, if_neg (by decide), comes_e (by omega), if_pos hf, cl_s, if_neg (by decide)]
    rw [known_e V hs (by omega), if_neg hu, cl_s, if_pos rfl, hk, cl_s]
    unfold fX2_sell
    rw [cost6 Vk (by rw [kk 7 (by omega)]; exact c2) (nI i), cl_s, al_nI (by omega) (by omega), as_nI (by omega) (by omega)]
    rw [show (7 + 6 : Nat) = 13 from rfl, e13, eo, pf_e, e16, cl_s]
  obtain ⟨g2, w1, w2⟩ := fin (up (up gk 13 s (nI (K s ||| 2 ^ i))) 7 16 (g 7 16 + nI (pr * cnt (fun j => !us.testBit j && decide (lsI (F j) = nI i)) Q))) (cp (up (up gk 13 s (nI (K s ||| 2 ^ i))) 7 16 (g 7 16 + nI (pr * cnt (fun j => !us.testBit j && decide (lsI (F j) = nI i)) Q))) 0 (fun k hk => by rw [up_a, if_neg (by omega), up_a, if_neg (by omega)]) (fun j => by
      show (if j = 16 then (g 7 16 + nI (pr * cnt (fun j => !us.testBit j && decide (lsI (F j) = nI i)) Q)) else gk 7 j) = _
      rw [kk 7 (by omega)]
      by_cases j15 : j = 15
      · rw [if_pos j15, if_neg (by omega), j15]
      · rw [if_neg j15]) (fun j => by rw [← kk 13 (by omega)]; rfl) (fun j => by rw [← hf, same_ite s (fun j => g 14 j) j]; show gk 14 j = g 14 j; rw [kk 14 (by omega)]) (fun j => by rw [same_ite s (fun j => g 15 j) j]; show _ = g 15 j; rw [← kk 15 (by omega)]; rfl) (fun j => by rw [same_ite s (fun j => g 16 j) j]; show _ = g 16 j; rw [← kk 16 (by omega)]; rfl))
  exact ⟨_, _, g2, run6, w1, w2⟩
