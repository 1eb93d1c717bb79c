theorem loopE {σ α : Type} (Fn : Nat → Nat → σ → α) (res : α) (I : Nat → σ → Prop) (N : Nat) (hx : ∀ n s, I N s → Fn (n + 1) N s = res) (hs : ∀ n i s, i < N → I i s → (∃ s', I (i + 1) s' ∧ Fn (n + 1) i s = Fn n (i + 1) s') ∨ Fn (n + 1) i s = res) : ∀ (d n i : Nat) (s : σ), i + d = N → d < n → I i s → Fn n i s = res := by
  intro d
  induction d with
  | zero =>
    intro n i s h1 h2 h3
    obtain ⟨n, rfl⟩ : ∃ k, n = k + 1 := ⟨n - 1, by omega⟩
    have : i = N := by omega
    subst this
    exact hx n s h3
  | succ d ih =>
    intro n i s h1 h2 h3
    obtain ⟨n, rfl⟩ : ∃ k, n = k + 1 := ⟨n - 1, by omega⟩
    rcases hs n i s (by omega) h3 with ⟨s', h4, h5⟩ | h5
    · rw [h5]; exact ih n (i + 1) s' (by omega) (by omega) h4
    · exact h5
theorem one_shl32 : ∀ t, t < 32 → (1 : Int32) <<< (nI t &&& 31) = nI (2 ^ t) := by decide +kernel
theorem nI_z {y : Nat} (h : y < 2 ^ 32) : nI y = 0 ↔ y = 0 := by
  constructor
  · intro e
    have e2 : (nI y).toBitVec.toNat = (0 : Int32).toBitVec.toNat := by rw [e]
    have e3 : (nI y).toBitVec.toNat = y % 2 ^ 32 := rfl
    have e4 : (0 : Int32).toBitVec.toNat = 0 := rfl
    rw [e3, e4, Nat.mod_eq_of_lt h] at e2
    exact e2
  · rintro rfl; rfl
def xs_ (M : Nat) (tr : Nat → Nat) : Nat → Nat
  | 0 => 0
  | i + 1 => if M.testBit i = true then xs_ M tr i ||| 2 ^ tr i else xs_ M tr i
theorem xs_test {M : Nat} {tr : Nat → Nat} (k : Nat) : ∀ i, (xs_ M tr i).testBit k = true ↔ ∃ j, j < i ∧ M.testBit j = true ∧ tr j = k := by
  intro i
  induction i with
  | zero => simp [xs_]
  | succ i ih =>
    by_cases h : M.testBit i = true
    · rw [xs_, if_pos h, Nat.testBit_or, Bool.or_eq_true, ih, Nat.testBit_two_pow, decide_eq_true_eq]
      constructor
      · rintro (⟨j, h1, h2, h3⟩ | h1)
        · exact ⟨j, by omega, h2, h3⟩
        · exact ⟨i, by omega, h, h1⟩
      · rintro ⟨j, h1, h2, h3⟩
        by_cases hj : j = i
        · right; rw [← hj]; exact h3
        · left; exact ⟨j, by omega, h2, h3⟩
    · rw [xs_, if_neg h, ih]
      constructor
      · rintro ⟨j, h1, h2, h3⟩; exact ⟨j, by omega, h2, h3⟩
      · rintro ⟨j, h1, h2, h3⟩
        refine ⟨j, ?_, h2, h3⟩
        by_cases hj : j = i
        · rw [hj] at h2; exact absurd h2 h
        · omega
theorem xs_lt {M : Nat} {tr : Nat → Nat} : ∀ i, (∀ j, j < i → tr j < 32) → xs_ M tr i < 2 ^ 32 := by
  intro i
  induction i with
  | zero => intro _; exact Nat.two_pow_pos 32
  | succ i ih =>
    intro h
    rw [xs_]
    by_cases hb : M.testBit i = true
    · rw [if_pos hb]; exact Nat.or_lt_two_pow (ih (fun j hj => h j (by omega))) (Nat.pow_lt_pow_right (by omega) (h i (by omega)))
    · rw [if_neg hb]; exact ih (fun j hj => h j (by omega))
theorem and_p0 (x k : Nat) : x &&& 2 ^ k = 0 ↔ x.testBit k = false := by
  constructor
  · intro h
    have : (x &&& 2 ^ k).testBit k = false := by rw [h]; exact Nat.zero_testBit k
    rw [Nat.testBit_and, Nat.testBit_two_pow_self] at this
    simpa using this
  · intro h
    apply Nat.eq_of_testBit_eq
    intro i
    rw [Nat.testBit_and, Nat.zero_testBit, Nat.testBit_two_pow]
    by_cases hk : k = i
    · rw [← hk, h]; rfl
    · simp [hk]
section TW
variable {T M : Nat} {tr : Nat → Nat} {g : Mem}
theorem alike_e (hT : T ≤ 8) (hM : M < 2 ^ T) (e3 : g 7 3 = nI T) (ht : ∀ i, i < T → tr i < 32 ∧ g 8 i = nI (tr i)) : (sep tr M ∧ fX3_areTwoAlike (nI M) g = some (0, g)) ∨ (¬ sep tr M ∧ fX3_areTwoAlike (nI M) g = some (1, g)) := by
  have h8 : (2 : Nat) ^ T ≤ 256 := Nat.pow_le_pow_right (n := 2) (by omega) hT
  have step : ∀ n i, i < T → fX3_areTwoAlike_L4 (nI M) (fun l4 l5 g6 => some ((0 : Int32), g6)) (n + 1) (nI (xs_ M tr i)) (nI i) g = (if M.testBit i = true ∧ (xs_ M tr i).testBit (tr i) = true then some (1, g) else fX3_areTwoAlike_L4 (nI M) (fun l4 l5 g6 => some ((0 : Int32), g6)) n (nI (xs_ M tr (i + 1))) (nI (i + 1)) g) := by
    intro n i hi
    have hx := xs_lt (M := M) (tr := tr) i (fun j hj => (ht j (by omega)).1)
    have hle : xs_ M tr i &&& 2 ^ tr i ≤ xs_ M tr i := Nat.and_le_left
    rw [fX3_areTwoAlike_L4, e3, if_neg (nI_ge hi (by omega)), bit_nI (by omega) (by omega), nI_1]
    by_cases hb : M.testBit i = true
    · rw [if_pos hb, if_neg (by decide), al_nI (by omega) (by omega), (ht i hi).2, one_shl32 _ (ht i hi).1, lt_e, fa_and, fa_or, lt_e, xs_, if_pos hb]
      cases hx1 : (xs_ M tr i).testBit (tr i)
      · rw [if_pos ((nI_z (by omega)).mpr ((and_p0 _ _).mpr hx1)), if_neg (by simp)]
      · rw [if_neg (fun hc => by have := (and_p0 _ _).mp ((nI_z (by omega)).mp hc); rw [this] at hx1; simp at hx1), if_pos ⟨hb, rfl⟩]
    · rw [if_neg hb, if_pos rfl, if_neg (fun hc => hb hc.1), xs_, if_neg hb]
  have hit : ∀ i, i < T → (M.testBit i = true ∧ (xs_ M tr i).testBit (tr i) = true) → ¬ sep tr M := by
    rintro i hi ⟨h1, h2⟩ hs
    obtain ⟨j, j1, j2, j3⟩ := (xs_test (tr i) i).mp h2
    exact hs j i j1 j2 h1 j3
  by_cases hs : sep tr M
  · left
    refine ⟨hs, ?_⟩
    unfold fX3_areTwoAlike
    refine loopI (fun n i s => fX3_areTwoAlike_L4 (nI M) (fun l4 l5 g6 => some ((0 : Int32), g6)) n s (nI i) g) _ (fun i s => s = nI (xs_ M tr i)) T ?_ ?_ T FU 0 0 (by omega) (by rw [FU_e]; omega) rfl
    · rintro n s rfl
      show fX3_areTwoAlike_L4 (nI M) (fun l4 l5 g6 => some ((0 : Int32), g6)) (n + 1) _ (nI T) g = _
      rw [fX3_areTwoAlike_L4, e3, if_pos (nI_le (Nat.le_refl T) (by omega))]
    · rintro n i s hi rfl
      refine ⟨_, rfl, ?_⟩
      show fX3_areTwoAlike_L4 (nI M) (fun l4 l5 g6 => some ((0 : Int32), g6)) (n + 1) _ (nI i) g = _
      rw [step n i hi, if_neg (fun hc => hit i hi hc hs)]
  · right
    refine ⟨hs, ?_⟩
    unfold fX3_areTwoAlike
    refine loopE (fun n i s => fX3_areTwoAlike_L4 (nI M) (fun l4 l5 g6 => some ((0 : Int32), g6)) n s (nI i) g) _ (fun i s => s = nI (xs_ M tr i) ∧ ∀ a b, a < b → b < i → M.testBit a = true → M.testBit b = true → tr a ≠ tr b) T ?_ ?_ T FU 0 0 (by omega) (by rw [FU_e]; omega) ⟨rfl, fun a b _ hb => absurd hb (by omega)⟩
    · rintro n s ⟨-, hn⟩
      exact absurd (fun a b h1 h2 h3 => hn a b h1 (bitT hM h3) h2 h3) hs
    · rintro n i s hi ⟨rfl, hn⟩
      show (∃ s', _ ∧ fX3_areTwoAlike_L4 (nI M) (fun l4 l5 g6 => some ((0 : Int32), g6)) (n + 1) _ (nI i) g = _) ∨ fX3_areTwoAlike_L4 (nI M) (fun l4 l5 g6 => some ((0 : Int32), g6)) (n + 1) _ (nI i) g = _
      rw [step n i hi]
      by_cases hc : M.testBit i = true ∧ (xs_ M tr i).testBit (tr i) = true
      · right; rw [if_pos hc]
      · left
        rw [if_neg hc]
        refine ⟨_, ⟨rfl, fun a b h1 h2 h3 h4 => ?_⟩, rfl⟩
        by_cases hbi : b = i
        · subst hbi
          intro he
          exact hc ⟨h4, (xs_test (tr b) b).mpr ⟨a, h1, h3, he⟩⟩
        · exact hn a b h1 (by omega) h3 h4
theorem gather_e (hT : T ≤ 8) (e3 : g 7 3 = nI T) (ht : ∀ i, i < T → tr i < 32 ∧ g 8 i = nI (tr i)) : fX3_gatherByTraits g = some (0, upR g 57 (fun j => if j < 5 then nI (HT tr T j) else g 57 j)) := by
  unfold fX3_gatherByTraits
  rw [fill2 57 5 0 g (by omega), cl_s]
  refine loopI (fun n t s => fX3_gatherByTraits_L10 (fun l8 g9 => some (0, g9)) n (nI t) s) _ (fun t s => s = upR g 57 (fun j => if j < t then nI (HT tr T j) else if j < 5 then 0 else g 57 j)) 5 ?_ ?_ 5 FU 0 _ (by omega) (by rw [FU_e]; omega) (by simp)
  · rintro n s rfl
    show fX3_gatherByTraits_L10 (fun l8 g9 => some (0, g9)) (n + 1) (nI 5) _ = _
    rw [fX3_gatherByTraits_L10, if_pos (show (5 : Int32) ≤ nI 5 by decide)]
    congr 3
    funext j
    by_cases h : j < 5
    · simp [h]
    · simp [h]
  · rintro n t s ht5 hs
    have et : s 57 t = 0 := by rw [hs, upR_a, if_pos rfl, if_neg (by omega), if_pos ht5]
    have e7 : s 7 3 = nI T := by rw [hs, upR_a, if_neg (by omega), e3]
    have e8 : ∀ i, i < T → s 8 i = nI (tr i) := fun i hi => by rw [hs, upR_a, if_neg (by omega)]; exact (ht i hi).2
    refine ⟨up s 57 t (nI (HT tr T t)), ?_, ?_⟩
    · rw [hs]
      funext a
      simp only [up_a, upR_a]
      by_cases ha : a = 57
      · rw [if_pos ha, if_pos ha]
        funext j
        rw [upd_a]
        by_cases hj : j = t
        · rw [if_pos hj, hj, if_pos (by omega)]
        · rw [if_neg hj]
          simp only [reduceIte]
          by_cases hjt : j < t
          · rw [if_pos hjt, if_pos (by omega)]
          · rw [if_neg hjt, if_neg (show ¬ j < t + 1 by omega)]
      · rw [if_neg ha, if_neg ha, if_neg ha]
    · show fX3_gatherByTraits_L10 (fun l8 g9 => some (0, g9)) (n + 1) (nI t) s = _
      rw [fX3_gatherByTraits_L10, if_neg (show ¬ (5 : Int32) ≤ nI t from (show ¬ nI 5 ≤ nI t from nI_ge ht5 (by omega)))]
      refine loopI (fun n i s => fX3_gatherByTraits_L17 (nI t) (fun l6 g7 => fX3_gatherByTraits_L10 (fun l8 g9 => some (0, g9)) _ (nI t + (1 : Int32)) g7) n (nI i) s) _ (fun i s' => s' = up s 57 t (nI (bset (fun i => (tr i).testBit t) i))) T ?_ ?_ T FU 0 _ (by omega) (by rw [FU_e]; omega) ?_
      · rintro n s' rfl
        show fX3_gatherByTraits_L17 (nI t) _ (n + 1) (nI T) _ = _
        have f7 : (up s 57 t (nI (bset (fun i => (tr i).testBit t) T))) 7 3 = nI T := by rw [up_a, if_neg (by omega), e7]
        rw [fX3_gatherByTraits_L17, f7, if_pos (nI_le (Nat.le_refl T) (by omega)), nI_1]; rfl
      · rintro n i s' hi hs'
        refine ⟨_, rfl, ?_⟩
        show fX3_gatherByTraits_L17 (nI t) _ (n + 1) (nI i) s' = _
        have f7 : s' 7 3 = nI T := by rw [hs', up_a, if_neg (by omega), e7]
        have f8 : s' 8 i = nI (tr i) := by rw [hs', up_a, if_neg (by omega), e8 i hi]
        have f57 : s' 57 t = nI (bset (fun i => (tr i).testBit t) i) := by rw [hs', up_a, if_pos rfl, upd_a, if_pos rfl]
        have := (ht i hi).1
        rw [fX3_gatherByTraits_L17, f7, if_neg (nI_ge hi (by omega)), al_nI (by omega) (by omega), f8, bit_nI (by omega) (by omega), al_nI (by omega) (by omega), f57, as_nI (by omega) (by omega), one_shl i (by omega), fa_or, show nI i + (1 : Int32) = nI (i + 1) from nI_add i 1]
        show _ = fX3_gatherByTraits_L17 (nI t) _ n (nI (i + 1)) (up s 57 t (nI (bset (fun i => (tr i).testBit t) i ||| if (tr i).testBit t = true then 2 ^ i else 0)))
        by_cases hb : (tr i).testBit t = true
        · rw [if_pos hb, if_neg (by decide), if_pos hb]
          congr 1
          rw [hs']
          funext a
          simp only [up_a]
          by_cases ha : a = 57
          · rw [if_pos ha, if_pos ha]; funext j; simp only [upd_a]; by_cases hj : j = t <;> simp [hj, upd_a]
          · rw [if_neg ha, if_neg ha, if_neg ha]
        · rw [if_neg hb, if_pos rfl, if_neg hb, Nat.or_zero, hs']
      · show s = up s 57 t (nI 0)
        funext a
        rw [up_a]
        by_cases ha : a = 57
        · rw [if_pos ha, ha]; funext j; rw [upd_a]; by_cases hj : j = t
          · rw [if_pos hj, hj, et]; rfl
          · rw [if_neg hj]
        · rw [if_neg ha]
end TW
