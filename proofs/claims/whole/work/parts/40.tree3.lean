section TX
variable {H : Nat → Nat}
theorem byF_congr {f f' : Nat → Int32} {m t : Nat} (hm : m < 256) (hH : H t < 2 ^ 32) (hs : spl H m t = true) (h : ∀ x, x < m → f x = f' x) : byF H f m t = byF H f' m t := by
  obtain ⟨l1, l2⟩ := spl_lt hm hH hs
  unfold byF; rw [h _ l1, h _ l2]
theorem wf_congr {f f' : Nat → Int32} {m : Nat} (hm : m < 256) (hH : ∀ t, H t < 2 ^ 32) (h : ∀ x, x < m → f x = f' x) : ∀ t, wf H f m t = wf H f' m t := by
  intro t
  induction t with
  | zero => rfl
  | succ t ih =>
    rw [wf, wf, ih]
    by_cases hs : spl H m t = true
    · rw [if_pos hs, if_pos hs, byF_congr hm (hH t) hs h]
    · rw [if_neg hs, if_neg hs]
theorem byD_congr {f f' : Nat → Int32} {m t : Nat} (hm : m < 256) (hH : H t < 2 ^ 32) (h : ∀ x, x < m → f x = f' x) : byD H f m t = byD H f' m t := by
  unfold byD
  by_cases hs : spl H m t = true
  · obtain ⟨l1, l2⟩ := spl_lt hm hH hs
    rw [h _ l1, h _ l2]
  · rw [if_neg hs, if_neg hs]
theorem vf_congr {f f' : Nat → Int32} {m : Nat} (hm : m < 256) (hH : ∀ t, H t < 2 ^ 32) (h : ∀ x, x < m → f x = f' x) : ∀ t, vf H f m t = vf H f' m t := by
  intro t
  induction t with
  | zero => rfl
  | succ t ih => rw [vf, vf, ih, byD_congr hm (hH t) h]
/-- a memory in which the class can count -/
def TC (H : Nat → Nat) (f : Nat → Int32) (s : Mem) : Prop := (∀ t, t < 5 → s 57 t = nI (H t)) ∧ s 56 = f
variable {f : Nat → Int32} {s : Mem}
theorem splits_e (hH : ∀ t, H t < 2 ^ 32) (h : TC H f s) {m t : Nat} (hm : m < 256) (ht : t < 5) : fX3_splits (nI t) (nI m) s = some (if spl H m t = true then 1 else 0, s) := by
  have l1 : m &&& H t ≤ m := Nat.and_le_left
  have l2 := hiM_le m (H t)
  unfold fX3_splits
  rw [al_nI (by omega) (by omega), al_nI (by omega) (by omega), h.1 t ht, fa_and, nand_nI (hH t)]
  show (if nI (m &&& H t) = 0 then _ else (if nI (hiM m (H t)) = 0 then _ else _)) = _
  by_cases h1 : m &&& H t = 0
  · rw [if_pos (by rw [h1]; rfl)]; simp [spl, h1]
  · rw [if_neg (nI_ne0 (by omega) (by omega))]
    by_cases h2 : hiM m (H t) = 0
    · rw [if_pos (by rw [h2]; rfl)]; simp [spl, h2]
    · rw [if_neg (nI_ne0 (by omega) (by omega))]; simp [spl, h1, h2]
theorem by_e (hH : ∀ t, H t < 2 ^ 32) (h : TC H f s) {m t : Nat} (hm : m < 256) (ht : t < 5) : fX3_questionsBy (nI t) (nI m) s = some (byF H f m t, s) := by
  have l1 : m &&& H t ≤ m := Nat.and_le_left
  have l2 := hiM_le m (H t)
  unfold hiM at l2
  unfold fX3_questionsBy
  rw [al_nI (by omega) (by omega), h.1 t ht, fa_and, al_nI (by omega) (by omega), al_nI (by omega) (by omega), h.1 t ht, nand_nI (hH t), al_nI (by omega) (by omega), h.2]; rfl
theorem fewest_e (hH : ∀ t, H t < 2 ^ 32) (h : TC H f s) {m : Nat} (hm : m < 256) : fX3_fewestOfAll (nI m) s = some (stF H f m, s) := by
  unfold fX3_fewestOfAll
  rw [bc_e hm, cl_s]
  have hp : pcn m ≤ 8 := by unfold pcn; omega
  unfold stF
  by_cases h2 : 2 ≤ pcn m
  rotate_left
  · rw [if_neg (show ¬ (1 : Int32) < nI (pcn m) from (show ¬ nI 1 < nI (pcn m) from nI_nlt (by omega) (by omega))), if_neg h2]
  rw [if_pos (show (1 : Int32) < nI (pcn m) from (show nI 1 < nI (pcn m) from nI_lt (by omega) (by omega))), if_pos h2]
  refine loopI (fun n i w => fX3_fewestOfAll_L14 (nI m) (fun l8 l9 g10 => some (l8, g10)) n w (nI i) s) _ (fun i w => w = wf H f m i) 5 ?_ ?_ 5 FU 0 5 (by omega) (by rw [FU_e]; omega) rfl
  · rintro n w rfl
    show fX3_fewestOfAll_L14 (nI m) (fun l8 l9 g10 => some (l8, g10)) (n + 1) _ (nI 5) s = _
    rw [fX3_fewestOfAll_L14, if_pos (show (5 : Int32) ≤ nI 5 by decide)]
  · rintro n i w hi rfl
    refine ⟨_, rfl, ?_⟩
    show fX3_fewestOfAll_L14 (nI m) (fun l8 l9 g10 => some (l8, g10)) (n + 1) _ (nI i) s = _
    rw [fX3_fewestOfAll_L14, if_neg (show ¬ (5 : Int32) ≤ nI i from (show ¬ nI 5 ≤ nI i from nI_ge hi (by omega))), splits_e hH h hm hi, cl_s, by_e hH h hm hi, cl_s, lt_e, nI_1, wf]
    by_cases hs : spl H m i = true
    · rw [if_pos hs, if_neg (by decide), if_pos hs]
    · rw [if_neg hs, if_pos rfl, if_neg hs]
theorem up_upR56 (gg : Mem) (f : Nat → Int32) (k m : Nat) (v : Int32) : up (upR gg k f) k m v = upR gg k (upd f m v) := by
  funext a
  rw [up_a, upR_a, upR_a, upR_a]
  by_cases ha : a = k
  · rw [if_pos ha, if_pos rfl, if_pos ha]
  · rw [if_neg ha, if_neg ha, if_neg ha]
/-- all masks under M -/
theorem table6 {gg : Mem} {M : Nat} {v : Int32} {K : Int32 → Mem → Option (Int32 × Mem)} (hM : M < 256) (hH : ∀ t, H t < 2 ^ 32) (h : ∀ t, t < 5 → gg 57 t = nI (H t)) : ∃ f, fX3_fewestQuestions_L19 (nI M) v K FU 0 gg = K (nI (M + 1)) (upR gg 56 f) ∧ ∀ m, m ≤ M → (∀ i, m.testBit i = true → M.testBit i = true) → f m = stF H f m := by
  have main : ∀ d n m f, m + d = M + 1 → d < n → (∀ m', m' < m → (∀ i, m'.testBit i = true → M.testBit i = true) → f m' = stF H f m') → ∃ f', fX3_fewestQuestions_L19 (nI M) v K n (nI m) (upR gg 56 f) = K (nI (M + 1)) (upR gg 56 f') ∧ ∀ m, m ≤ M → (∀ i, m.testBit i = true → M.testBit i = true) → f' m = stF H f' m := by
    intro d
    induction d with
    | zero =>
      intro n m f h1 h2 h3
      obtain ⟨n, rfl⟩ : ∃ k, n = k + 1 := ⟨n - 1, by omega⟩
      have : m = M + 1 := by omega
      subst this
      refine ⟨f, ?_, fun m hm => h3 m (by omega)⟩
      rw [fX3_fewestQuestions_L19, if_pos (nI_lt (by omega) (by omega))]
    | succ d ih =>
      intro n m f h1 h2 h3
      obtain ⟨n, rfl⟩ : ∃ k, n = k + 1 := ⟨n - 1, by omega⟩
      have l2 := hiM_le m M
      have hM32 : M < 2 ^ 32 := Nat.lt_of_lt_of_le hM (by decide)
      have hT : TC H f (upR gg 56 f) := ⟨fun t ht => by rw [upR_a, if_neg (by omega)]; exact h t ht, by rw [upR_a, if_pos rfl]⟩
      rw [fX3_fewestQuestions_L19, if_neg (nI_nlt (by omega) (by omega)), nand_nI hM32, fewest_e hH hT (by omega), cl_s, as_nI (by omega) (by omega), nI_1, up_upR56]
      show ∃ f', (if nI (hiM m M) = 0 then _ else _) = _ ∧ _
      by_cases hz : hiM m M = 0
      · rw [if_pos (by rw [hz]; rfl)]
        refine ih n (m + 1) (upd f m (stF H f m)) (by omega) (by omega) (fun m' hm' hs => ?_)
        have hc : stF H (upd f m (stF H f m)) m' = stF H f m' := by
          unfold stF
          rw [wf_congr (f := upd f m (if 2 ≤ pcn m then wf H f m 5 else 0)) (f' := f) (by omega) hH (fun x hx => by rw [upd_a, if_neg (by omega)])]
        rw [hc, upd_a]
        by_cases he : m' = m
        · rw [if_pos he, he]
        · rw [if_neg he]; exact h3 m' (by omega) hs
      · rw [if_neg (nI_ne0 (by omega) (by omega))]
        refine ih n (m + 1) f (by omega) (by omega) (fun m' hm' hs => ?_)
        by_cases he : m' = m
        · exfalso
          obtain ⟨i, hi⟩ := bit_ne0 hz
          rw [hiM_test hM32 (by omega), Bool.and_eq_true] at hi
          rw [he] at hs
          rw [hs i hi.1] at hi; simp at hi
        · exact h3 m' (by omega) hs
  obtain ⟨f', h1, h2⟩ := main (M + 1) FU 0 (gg 56) (by omega) (by rw [FU_e]; omega) (fun m' h => absurd h (by omega))
  refine ⟨f', ?_, h2⟩
  rw [← h1, upR_self]; rfl
theorem first_e {M : Nat} (hM : M < 256) (hH : ∀ t, H t < 2 ^ 32) (h : TC H f s) {l k : Nat} (hl : l < 5) (hk : k ≤ 6) (e0 : f M = nI k) (e1 : spl H M l = true) (e2 : byF H f M l = nI k) (e3 : ∀ t, t < l → spl H M t = true → ∃ b, k < b ∧ b ≤ 6 ∧ byF H f M t = nI b) : fX3_firstTrait (nI M) s = some (nI l, s) := by
  unfold fX3_firstTrait
  have step : ∀ n t, t < 5 → fX3_firstTrait_L2 (nI M) (fun l6 g7 => some ((-1000000 : Int32), g7)) (n + 1) (nI t) s = (if spl H M t = true ∧ byF H f M t = f M then some (nI t, s) else fX3_firstTrait_L2 (nI M) (fun l6 g7 => some ((-1000000 : Int32), g7)) n (nI (t + 1)) s) := by
    intro n t ht
    rw [fX3_firstTrait_L2, if_neg (show ¬ (5 : Int32) ≤ nI t from (show ¬ nI 5 ≤ nI t from nI_ge ht (by omega))), splits_e hH h hM ht, cl_s, by_e hH h hM ht, cl_s, al_nI (by omega) (by omega), h.2, nI_1]
    by_cases hs : spl H M t = true
    · rw [if_pos hs, if_neg (by decide)]
      by_cases hb : byF H f M t = f M
      · rw [if_pos hb, if_pos ⟨hs, hb⟩]
      · rw [if_neg hb, if_neg (fun hc => hb hc.2)]
    · rw [if_neg hs, if_pos rfl, if_neg (fun hc => hs hc.1)]
  refine loopI (fun n i (w : Unit) => fX3_firstTrait_L2 (nI M) (fun l6 g7 => some ((-1000000 : Int32), g7)) n (nI i) s) _ (fun i w => True) l ?_ ?_ l FU 0 () (by omega) (by rw [FU_e]; omega) trivial
  · intro n _ _
    show fX3_firstTrait_L2 (nI M) (fun l6 g7 => some ((-1000000 : Int32), g7)) (n + 1) (nI l) s = _
    rw [step n l hl, if_pos ⟨e1, by rw [e2, e0]⟩]
  · intro n i _ hi _
    refine ⟨(), trivial, ?_⟩
    show fX3_firstTrait_L2 (nI M) (fun l6 g7 => some ((-1000000 : Int32), g7)) (n + 1) (nI i) s = _
    rw [step n i (by omega), if_neg]
    rintro ⟨hs, hb⟩
    obtain ⟨b, b1, b2, b3⟩ := e3 i hi hs
    rw [b3, e0] at hb
    have := (nI_eq (by omega) (by omega)).mp hb
    omega
theorem first_n {M : Nat} (hM : M < 256) (hH : ∀ t, H t < 2 ^ 32) (h : TC H f s) (e3 : ∀ t, spl H M t = false) : fX3_firstTrait (nI M) s = some (-1000000, s) := by
  unfold fX3_firstTrait
  refine loopI (fun n i (w : Unit) => fX3_firstTrait_L2 (nI M) (fun l6 g7 => some ((-1000000 : Int32), g7)) n (nI i) s) _ (fun i w => True) 5 ?_ ?_ 5 FU 0 () (by omega) (by rw [FU_e]; omega) trivial
  · intro n _ _
    show fX3_firstTrait_L2 (nI M) (fun l6 g7 => some ((-1000000 : Int32), g7)) (n + 1) (nI 5) s = _
    rw [fX3_firstTrait_L2, if_pos (show (5 : Int32) ≤ nI 5 by decide)]
  · intro n i _ hi _
    refine ⟨(), trivial, ?_⟩
    show fX3_firstTrait_L2 (nI M) (fun l6 g7 => some ((-1000000 : Int32), g7)) (n + 1) (nI i) s = fX3_firstTrait_L2 (nI M) (fun l6 g7 => some ((-1000000 : Int32), g7)) n (nI (i + 1)) s
    rw [fX3_firstTrait_L2, if_neg (show ¬ (5 : Int32) ≤ nI i from (show ¬ nI 5 ≤ nI i from nI_ge hi (by omega))), splits_e hH h hM hi, cl_s, e3, if_neg Bool.false_ne_true, if_pos rfl, nI_1]
end TX
