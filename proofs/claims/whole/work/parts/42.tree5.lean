theorem Inv_same {g g' : Mem} (h : Inv g) (e : ∀ k, (k < 17 ∨ (27 < k ∧ k < 55) ∨ (57 < k ∧ k < 60) ∨ (60 < k ∧ k < 67) ∨ (67 < k ∧ k < 72)) → g' k = g k) : Inv g' := by
  unfold Inv at *
  rw [e 0 (by omega), e 2 (by omega), e 3 (by omega), e 4 (by omega), e 5 (by omega), e 6 (by omega), e 7 (by omega), e 8 (by omega), e 9 (by omega), e 10 (by omega), e 11 (by omega), e 12 (by omega), e 13 (by omega), e 14 (by omega), e 15 (by omega), e 16 (by omega), e 28 (by omega), e 29 (by omega), e 30 (by omega), e 31 (by omega), e 32 (by omega), e 33 (by omega), e 34 (by omega), e 35 (by omega), e 36 (by omega), e 37 (by omega), e 38 (by omega), e 39 (by omega), e 40 (by omega), e 41 (by omega), e 42 (by omega), e 43 (by omega), e 44 (by omega), e 45 (by omega), e 46 (by omega), e 47 (by omega), e 48 (by omega), e 49 (by omega), e 50 (by omega), e 51 (by omega), e 52 (by omega), e 53 (by omega), e 54 (by omega), e 58 (by omega), e 59 (by omega), e 61 (by omega), e 62 (by omega), e 63 (by omega), e 64 (by omega), e 65 (by omega), e 66 (by omega), e 68 (by omega), e 69 (by omega), e 70 (by omega), e 71 (by omega)]
  exact h
theorem E_tree {g : Mem} (h : Inv g) (x y : Int32) : Both g (fun g => fX6_tree x y g) (fun g => fX7_tree x y g) := by
  obtain ⟨T, Q, S, tr, F, K, sh, us, C, V⟩ := Inv_cv h
  have hb := V.1
  have h8 := V.p8
  have hT0 : 0 < 2 ^ T := Nat.two_pow_pos T
  by_cases h0 : g 7 0 = 0
  · refine ⟨-1000002, g, g, ?_, ?_, h⟩
    · simp only [fX6_tree]
      rw [if_pos h0]
    · simp only [fX7_tree]
      rw [isCourt_e h rfl, cl_s, if_pos h0]
  have ev : ∀ g' : Mem, g' 66 = g 66 → fX7_everything g' = some (nI (2 ^ T) - 1, g') := fun g' hg => by
    unfold fX7_everything
    rw [show (3 : Int32) = nI 3 from rfl, lit66 g' 3 (by omega), hg, V.2.1.2, one_shl T (by omega)]
  have bad : (x < 0 ∨ nI (2 ^ T) ≤ x) → Both g (fun g => fX6_tree x y g) (fun g => fX7_tree x y g) := fun hx => by
    refine ⟨-1000001, g, g, ?_, ?_, h⟩
    · simp only [fX6_tree]
      rw [if_neg h0, V.2.1.1, one_shl T (by omega), below_f hx, cl_s, if_pos rfl]
    · simp only [fX7_tree]
      rw [isCourt_e h rfl, cl_s, if_neg h0, ev g rfl, cl_s, inC_f (by omega) hx, cl_s, if_pos rfl]
  rcases pk_ix x (n := 2 ^ T) (by omega) with hx | hx | ⟨M, hM, rfl⟩
  · exact bad (Or.inl hx)
  · exact bad (Or.inr hx)
  have bad : (y < 0 ∨ nI 2 ≤ y) → Both g (fun g => fX6_tree (nI M) y g) (fun g => fX7_tree (nI M) y g) := fun hx => by
    refine ⟨-1000001, g, g, ?_, ?_, h⟩
    · simp only [fX6_tree]
      rw [if_neg h0, V.2.1.1, one_shl T (by omega), below_t hM (by omega), cl_s, if_neg (by decide), show (2 : Int32) = nI 2 from rfl, below_f hx, cl_s, if_pos rfl]
    · simp only [fX7_tree]
      rw [isCourt_e h rfl, cl_s, if_neg h0, ev g rfl, cl_s, inC_t (by omega) hM, cl_s, if_neg (by decide), show (1 : Int32) = nI 1 from rfl, inN_f (by omega) hx, cl_s, if_pos rfl]
  rcases pk_ix y (n := 2) (by omega) with hx | hx | ⟨w, hw, rfl⟩
  · exact bad (Or.inl hx)
  · exact bad (Or.inr hx)
  obtain ⟨-, c0, c1, c2, c3, c5, c10, c15, c16, hTr, -, -, -⟩ := C
  have htr : ∀ i, i < T → tr i < 32 := fun i hi => (hTr i hi).1
  have hH := HT_lt tr hb.1
  -- the reference, from any memory with the same court
  have run7 : ∀ g1 : Mem, g1 66 = g 66 → ∃ d : Nat → Int32, (∀ m, m ≤ M → d m = stD (HT tr T) d m) ∧ fX7_tree (nI M) (nI w) g1 = (if nI w = 1 then some (sndD (HT tr T) d M 5, upR g1 72 d) else if 0 ≤ d M then some (d M, upR g1 72 d) else some (-1000000, upR g1 72 d)) := by
    intro g1 hg
    obtain ⟨d, hd1, hd2⟩ := table7 (T := T) (tr := tr) (gg := g1) (M := M) (v := nI w) (K := fun l31 l32 g33 => if nI w = (1 : Int32) then (some (l31, g33)) else (al g33 72 256 (nI M) fun v34 => (if 0 ≤ v34 then (al g33 72 256 (nI M) fun v35 => (some (v35, g33))) else (some ((-1000000 : Int32), g33))))) ⟨hb.1, by rw [hg]; exact V.2.1.2, fun i hi => ⟨htr i hi, by rw [hg]; exact (hTr i hi).2.2⟩⟩ hM
    refine ⟨d, hd2, ?_⟩
    simp only [fX7_tree]
    have e1 : ∀ z : Int32, fX7_in (nI w) 0 (1 : Int32) g1 = some (1, g1) := fun _ => inN_t (n := 1) (by omega) (by omega) g1
    rw [isCourt_e h hg, cl_s, if_neg h0, ev g1 hg, cl_s, inC_t (by omega) hM, cl_s, if_neg (by decide), e1 0, cl_s, if_neg (by decide), hd1]
    rw [al_nI (by omega) (by omega), al_nI (by omega) (by omega), upR_a, if_pos rfl]
  have pre6 : fX6_tree (nI M) (nI w) g = fX3_fewestQuestions (nI M) (nI w) g := by
    simp only [fX6_tree]
    rw [if_neg h0, V.2.1.1, one_shl T (by omega), below_t hM (by omega), cl_s, if_neg (by decide), show (2 : Int32) = nI 2 from rfl, below_t hw (by omega), cl_s, if_neg (by decide)]
    cases fX3_fewestQuestions (nI M) (nI w) g with
    | none => rfl
    | some p => rfl
  have hw1 : (nI w = 1) ↔ w = 1 := nI_eq (b := 1) (by omega) (by omega)
  have hw0 : (nI w = 0) ↔ w = 0 := nI_eq (b := 0) (by omega) (by omega)
  rcases alike_e (g := g) (T := T) (M := M) (tr := tr) hb.1 hM V.2.1.1 (fun i hi => ⟨htr i hi, (hTr i hi).2.1⟩) with ⟨hs, ha⟩ | ⟨hs, ha⟩
  rotate_left
  · obtain ⟨d, hd, r7⟩ := run7 g rfl
    obtain ⟨b1, b2, b3⟩ := tree_bad hb.1 hM hd M (Nat.le_refl M) hs
    refine ⟨-1000000, g, upR g 72 d, ?_, ?_, Inv_same h (fun k hk => by rw [upR_a, if_neg (by omega)])⟩
    · show fX6_tree (nI M) (nI w) g = _
      rw [pre6]
      unfold fX3_fewestQuestions
      rw [ha, cl_s, if_neg (by decide)]
    · show fX7_tree (nI M) (nI w) g = _
      rw [r7, b2, if_neg (show ¬ (0 : Int32) ≤ -1 by decide)]
      unfold sndD
      rw [if_pos b1, b3]
      by_cases hh : nI w = 1
      · rw [if_pos hh]
      · rw [if_neg hh]
  · have hga := gather_e (g := g) (T := T) (tr := tr) hb.1 V.2.1.1 (fun i hi => ⟨htr i hi, (hTr i hi).2.1⟩)
    obtain ⟨f, hf1, hf2⟩ := table6 (H := HT tr T) (gg := upR g 57 (fun j => if j < 5 then nI (HT tr T j) else g 57 j)) (M := M) (v := nI w) (K := fun l8 g9 => if nI w = 0 then (al g9 56 256 (nI M) fun v10 => (some (v10, g9))) else (cl (fX3_firstTrait (nI M) g9) fun r11 g12 => (some (r11, g12)))) (by omega) hH (fun t ht => by rw [upR_a, if_pos rfl, if_pos ht])
    have r6 : fX6_tree (nI M) (nI w) g = (if nI w = 0 then some (f M, upR (upR g 57 (fun j => if j < 5 then nI (HT tr T j) else g 57 j)) 56 f) else (cl (fX3_firstTrait (nI M) (upR (upR g 57 (fun j => if j < 5 then nI (HT tr T j) else g 57 j)) 56 f)) fun r11 g12 => (some (r11, g12)))) := by
      rw [pre6]
      unfold fX3_fewestQuestions
      rw [ha, cl_s, if_pos rfl, hga, cl_s, hf1, al_nI (by omega) (by omega), upR_a, if_pos rfl]
    have hTC : TC (HT tr T) f (upR (upR g 57 (fun j => if j < 5 then nI (HT tr T j) else g 57 j)) 56 f) := ⟨fun t ht => by rw [upR_a, if_neg (by omega), upR_a, if_pos rfl, if_pos ht], by rw [upR_a, if_pos rfl]⟩
    have hg1 : (upR (upR g 57 (fun j => if j < 5 then nI (HT tr T j) else g 57 j)) 56 f) 66 = g 66 := by rw [upR_a, if_neg (by omega), upR_a, if_neg (by omega)]
    obtain ⟨d, hd, r7⟩ := run7 _ hg1
    have hinv : Inv (upR (upR (upR g 57 (fun j => if j < 5 then nI (HT tr T j) else g 57 j)) 56 f) 72 d) := Inv_same h (fun k hk => by rw [upR_a, if_neg (by omega), upR_a, if_neg (by omega), upR_a, if_neg (by omega)])
    obtain ⟨k, k1, k2, k3, k4⟩ := tree_good hb.1 htr hM hs hd hf2 M (Nat.le_refl M) (fun _ h => h)
    have k5 : nsp (HT tr T) M ≤ 5 := cnt_le _ 5
    by_cases hw' : w = 0
    · refine ⟨nI k, (upR (upR g 57 (fun j => if j < 5 then nI (HT tr T j) else g 57 j)) 56 f), _, ?_, ?_, hinv⟩
      · show fX6_tree (nI M) (nI w) g = _
        rw [r6, if_pos (hw0.mpr hw'), k3]
      · show fX7_tree (nI M) (nI w) _ = _
        rw [r7, if_neg (fun hh => by have := hw1.mp hh; omega), k2, if_pos (nI_pos' (by omega))]
    · have r6' := r6
      rw [if_neg (fun hh => hw' (hw0.mp hh))] at r6'
      have r7' := r7
      rw [if_pos (hw1.mpr (by omega))] at r7'
      by_cases hp : 2 ≤ pcn M
      · obtain ⟨l, l1, l2, l3, l4, l5⟩ := k4 hp
        refine ⟨nI l, (upR (upR g 57 (fun j => if j < 5 then nI (HT tr T j) else g 57 j)) 56 f), _, ?_, ?_, hinv⟩
        · show fX6_tree (nI M) (nI w) g = _
          rw [r6', first_e (by omega) hH hTC l1 (by omega) k3 l3 l4 l5, cl_s]
        · show fX7_tree (nI M) (nI w) _ = _
          rw [r7']; unfold sndD; rw [if_pos hp, l2]
      · refine ⟨-1000000, (upR (upR g 57 (fun j => if j < 5 then nI (HT tr T j) else g 57 j)) 56 f), _, ?_, ?_, hinv⟩
        · show fX6_tree (nI M) (nI w) g = _
          rw [r6', first_n (by omega) hH hTC (one_nosplit (by omega) hH hp), cl_s]
        · show fX7_tree (nI M) (nI w) _ = _
          rw [r7']; unfold sndD; rw [if_neg hp]
