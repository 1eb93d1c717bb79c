def bset (p : Nat → Bool) : Nat → Nat
  | 0 => 0
  | n + 1 => bset p n ||| (if p n then 2 ^ n else 0)
theorem bset_lt (p : Nat → Bool) (n : Nat) : bset p n < 2 ^ n := by
  induction n with
  | zero => exact Nat.one_pos
  | succ n ih =>
    show bset p n ||| _ < 2 ^ (n + 1)
    have h2 : (2 : Nat) ^ n < 2 ^ (n + 1) := Nat.pow_lt_pow_right (by omega) (by omega)
    refine Nat.or_lt_two_pow (by omega) ?_
    split
    · exact h2
    · exact Nat.two_pow_pos _
theorem bset_test (p : Nat → Bool) (n i : Nat) : (bset p n).testBit i = (decide (i < n) && p i) := by
  induction n with
  | zero => simp [bset]
  | succ n ih =>
    show (bset p n ||| (if p n then 2 ^ n else 0)).testBit i = _
    rw [Nat.testBit_or, ih]
    by_cases hi : i = n
    · subst hi
      cases hp : p i <;> simp
    · by_cases hp : p n
      · rw [if_pos hp, Nat.testBit_two_pow]
        have : decide (n = i) = false := by simp; omega
        rw [this]
        by_cases h2 : i < n
        · simp [h2, show i < n + 1 by omega]
        · simp [h2, show ¬ i < n + 1 by omega]
      · rw [if_neg hp]
        by_cases h2 : i < n
        · simp [h2, show i < n + 1 by omega]
        · simp [h2, show ¬ i < n + 1 by omega]
theorem present_e (g : Mem) : fX4_present g = some (nI (cnt (fun j => !decide (g 2 j = 0)) 8), g) := by
  unfold fX4_present
  refine loopI (fun n i s => fX4_present_L4 (fun l2 l3 g4 => some (l2, g4)) n s (nI i) g) _ (fun i s => s = nI (cnt (fun j => !decide (g 2 j = 0)) i)) 8 ?_ ?_ 8 FU 0 0 (by omega) (by rw [FU_e]; omega) rfl
  · rintro n s rfl
    show fX4_present_L4 (fun l2 l3 g4 => some (l2, g4)) (n + 1) _ (nI 8) g = _
    rw [fX4_present_L4, if_pos (by decide)]
  · rintro n i s hi rfl
    refine ⟨_, rfl, ?_⟩
    show fX4_present_L4 (fun l2 l3 g4 => some (l2, g4)) (n + 1) _ (nI i) g = fX4_present_L4 (fun l2 l3 g4 => some (l2, g4)) n (nI (cnt (fun j => !decide (g 2 j = 0)) i + if (!decide (g 2 i = 0)) then 1 else 0)) (nI (i + 1)) g
    rw [fX4_present_L4, show (8 : Int32) = nI 8 from rfl, if_neg (nI_ge hi (by omega)), al_nI hi (by omega), nI_1, nI_1]
    by_cases h0 : g 2 i = 0 <;> simp [h0]
theorem fate_e {g : Mem} {S : Nat} (hS : S ≤ 4) (h : g 7 10 = nI S) (v : Int32) : fX2_countOfFate 7 v g = some (nI (cnt (fun s => decide (g 14 s = v)) S), g) := by
  unfold fX2_countOfFate
  refine loopI (fun n i s => fX2_countOfFate_L4 7 v (fun l2 l3 g4 => some (l2, g4)) n s (nI i) g) _ (fun i s => s = nI (cnt (fun s => decide (g 14 s = v)) i)) S ?_ ?_ S FU 0 0 (by omega) (by rw [FU_e]; omega) rfl
  · rintro n s rfl
    show fX2_countOfFate_L4 7 v (fun l2 l3 g4 => some (l2, g4)) (n + 1) _ (nI S) g = _
    rw [fX2_countOfFate_L4, h, if_pos (nI_le (Nat.le_refl S) (by omega))]
  · rintro n i s hi rfl
    refine ⟨_, rfl, ?_⟩
    show fX2_countOfFate_L4 7 v (fun l2 l3 g4 => some (l2, g4)) (n + 1) _ (nI i) g = fX2_countOfFate_L4 7 v (fun l2 l3 g4 => some (l2, g4)) n (nI (cnt (fun s => decide (g 14 s = v)) i + if decide (g 14 i = v) then 1 else 0)) (nI (i + 1)) g
    rw [fX2_countOfFate_L4, h, if_neg (nI_ge hi (by omega)), al_nI (by omega) (by omega), nI_1, nI_1]
    by_cases h0 : g 14 i = v <;> simp [h0]
theorem count_L4 (x : Int32) (K : Int32 → Int32 → Mem → Option (Int32 × Mem)) (g : Mem) : fX7_count_L4 x K FU 0 0 g = K (nI (cnt (fun j => decide (0 ≤ g 62 j)) 8)) (nI 8) g := by
  refine loopI (fun n i s => fX7_count_L4 x K n s (nI i) g) _ (fun i s => s = nI (cnt (fun j => decide (0 ≤ g 62 j)) i)) 8 ?_ ?_ 8 FU 0 0 (by omega) (by rw [FU_e]; omega) rfl
  · rintro n s rfl
    show fX7_count_L4 x K (n + 1) _ (nI 8) g = _
    rw [fX7_count_L4, if_pos (by decide)]
  · rintro n i s hi rfl
    refine ⟨_, rfl, ?_⟩
    show fX7_count_L4 x K (n + 1) _ (nI i) g = fX7_count_L4 x K n (nI (cnt (fun j => decide (0 ≤ g 62 j)) i + if decide (0 ≤ g 62 i) then 1 else 0)) (nI (i + 1)) g
    rw [fX7_count_L4, show (8 : Int32) = nI 8 from rfl, if_neg (nI_ge hi (by omega)), al_nI hi (by omega), lt_e, lt_e, nI_1, nI_1]
    by_cases h0 : 0 ≤ g 62 i
    · simp [h0]
    · simp [h0]
theorem count_L38 (x y : Int32) (K : Int32 → Int32 → Mem → Option (Int32 × Mem)) (g : Mem) : fX7_count_L38 x y K FU 0 0 g = K (nI (cnt (fun j => decide (g 66 (38 + j) = 1)) 4)) (nI 4) g := by
  refine loopI (fun n i s => fX7_count_L38 x y K n s (nI i) g) _ (fun i s => s = nI (cnt (fun j => decide (g 66 (38 + j) = 1)) i)) 4 ?_ ?_ 4 FU 0 0 (by omega) (by rw [FU_e]; omega) rfl
  · rintro n s rfl
    show fX7_count_L38 x y K (n + 1) _ (nI 4) g = _
    rw [fX7_count_L38, if_pos (by decide)]
  · rintro n i s hi rfl
    refine ⟨_, rfl, ?_⟩
    show fX7_count_L38 x y K (n + 1) _ (nI i) g = fX7_count_L38 x y K n (nI (cnt (fun j => decide (g 66 (38 + j) = 1)) i + if decide (g 66 (38 + i) = 1) then 1 else 0)) (nI (i + 1)) g
    rw [fX7_count_L38, show (4 : Int32) = nI 4 from rfl, if_neg (nI_ge hi (by omega)), show (38 : Int32) = nI 38 from rfl, nI_add, al_nI (by omega) (by omega), lt_e, lt_e, nI_1, nI_1]
    by_cases h0 : g 66 (38 + i) = 1
    · simp [h0]
    · simp [h0]
theorem cnt_more {p : Nat → Bool} {n m : Nat} (h : n ≤ m) (hp : ∀ i, n ≤ i → i < m → p i = false) : cnt p m = cnt p n := by
  induction m with
  | zero => rw [show n = 0 by omega]
  | succ m ih =>
    by_cases hn : n = m + 1
    · rw [hn]
    · show cnt p m + _ = _
      rw [ih (by omega) (fun i h1 h2 => hp i h1 (by omega)), hp m (by omega) (by omega)]; rfl
theorem E_count {g : Mem} (h : Inv g) (x : Int32) : Both g (fun g => fX6_count x g) (fun g => fX7_count x g) := by
  obtain ⟨T, Q, S, tr, F, K, sh, us, C, V⟩ := Inv_cv h
  have hb := V.1
  obtain ⟨-, -, hshe, -, -, -, -, hus, hpaid, -, -, hS, hd⟩ := C
  obtain ⟨N, A, -, -, -, a1, a2, -⟩ := h.2.2.2.2.2.2.1
  obtain ⟨q, -, t1, t2, -⟩ := h.2.1
  have er : cnt (fun j => !decide (g 2 j = 0)) 8 = cnt (fun j => decide (0 ≤ g 62 j)) 8 := by
    apply cnt_congr
    intro i hi
    rcases (h.1.1 i hi).2 with ⟨w1, w2⟩ | ⟨k, hk, w1, w2⟩
    · rw [w1, w2]; decide
    · rw [w1, w2]
      have e1 : ¬ nI (8 * 2 ^ k) = 0 := w_ne0 hk
      have e2 : 0 ≤ nI k := nI_pos' (by omega)
      simp [e1, e2]
  have ef : cnt (fun s => decide (g 14 s = 1)) S = cnt (fun j => decide (g 66 (38 + j) = 1)) 4 := by
    rw [cnt_more (n := S) (m := 4) hb.2.2 (fun i h1 h2 => by rw [hd i h1 h2]; decide)]
    exact cnt_congr (fun i hi => by rw [(hS i hi).2.2.2.1])
  refine ⟨if x = 0 then nI (cnt (fun j => decide (0 ≤ g 62 j)) 8) else if x = 1 then nI T else if x = 2 then nI Q else if x = 3 then nI S else if x = 4 then g 66 6 else if x = 5 then nI (cnt (fun j => decide (g 66 (38 + j) = 1)) 4) else if x = 6 then g 66 7 else if x = 7 then g 66 1 else if x = 8 then nI A else if x = 9 then nI q else -1000001, g, g, ?_, ?_, h⟩
  · show fX6_count x g = _
    unfold fX6_count
    rw [present_e, fate_e hb.2.2 V.2.2.2.1.1, er, ef, V.2.1.1, V.2.2.1.1, V.2.2.2.1.1, ← hus.2, ← hpaid, ← hshe.2, a1, t1]
    simp only [cl_s]
    repeat' split
    all_goals rfl
  · show fX7_count x g = _
    unfold fX7_count
    have al6 : ∀ (k : Nat), k < 50 → ∀ G, al g 66 50 (nI k) G = G (g 66 k) := fun k hk G => al_nI hk (by omega)
    have l1 : ∀ G, al g 66 50 (1 : Int32) G = G (g 66 1) := al6 1 (by omega)
    have l3 : ∀ G, al g 66 50 (3 : Int32) G = G (g 66 3) := al6 3 (by omega)
    have l4 : ∀ G, al g 66 50 (4 : Int32) G = G (g 66 4) := al6 4 (by omega)
    have l5 : ∀ G, al g 66 50 (5 : Int32) G = G (g 66 5) := al6 5 (by omega)
    have l6 : ∀ G, al g 66 50 (6 : Int32) G = G (g 66 6) := al6 6 (by omega)
    have l7 : ∀ G, al g 66 50 (7 : Int32) G = G (g 66 7) := al6 7 (by omega)
    rw [count_L4, count_L38]
    simp only [l1, l3, l4, l5, l6, l7, V.2.1.2, V.2.2.1.2, V.2.2.2.1.2, a2, t2]
    repeat' split
    all_goals rfl
/-! BEATS -/
def ofn (us : Nat) (i : Nat) : Bool := !us.testBit i
section VW2
variable {T Q S : Nat} {F K : Nat → Nat} {sh us : Nat} {g : Mem}
theorem lit66 (g' : Mem) (k : Nat) (hk : k < 50) (G : Int32 → Option (Int32 × Mem)) : al g' 66 50 (nI k) G = G (g' 66 k) := al_nI hk (by omega)
theorem beats6 (V : View T Q S F K sh us g) : fX3_beating g = some (nI (bset (fun i => !us.testBit i && !decide (lsI (F i &&& sh) = lsI (F i))) Q), g) := by
  have hb := V.1
  unfold fX3_beating
  refine loopI (fun n i s => fX3_beating_L4 (fun l8 l9 g10 => some (l8, g10)) n s (nI i) g) _ (fun i s => s = nI (bset (fun i => !us.testBit i && !decide (lsI (F i &&& sh) = lsI (F i))) i)) Q ?_ ?_ Q FU 0 0 (by omega) (by rw [FU_e]; omega) rfl
  · rintro n s rfl
    show fX3_beating_L4 (fun l8 l9 g10 => some (l8, g10)) (n + 1) _ (nI Q) g = _
    rw [fX3_beating_L4, V.2.2.1.1, if_pos (nI_le (Nat.le_refl Q) (by omega))]
  · rintro n i s hi rfl
    refine ⟨_, rfl, ?_⟩
    show fX3_beating_L4 (fun l8 l9 g10 => some (l8, g10)) (n + 1) _ (nI i) g = fX3_beating_L4 (fun l8 l9 g10 => some (l8, g10)) n (nI (bset (fun i => !us.testBit i && !decide (lsI (F i &&& sh) = lsI (F i))) i ||| (if (!us.testBit i && !decide (lsI (F i &&& sh) = lsI (F i))) then 2 ^ i else 0))) (nI (i + 1)) g
    rw [fX3_beating_L4, V.2.2.1.1, if_neg (nI_ge hi (by omega)), v_used6 V (by omega), cl_s, v_she6 V hi, cl_s, v_answer6 V hi, cl_s, lt_e, one_shl i (by omega), fa_or, nI_1]
    by_cases h0 : us.testBit i
    · simp [h0]
    · by_cases h1 : lsI (F i &&& sh) = lsI (F i)
      · simp [h0, h1]
      · simp [h0, h1]
theorem beats7 (V : View T Q S F K sh us g) : fX7_beats_L14 (fun l13 l14 g15 => some (l13, g15)) FU 0 0 g = some (nI (bset (fun i => !us.testBit i && !decide (lsI (F i &&& sh) = lsI (F i))) Q), g) := by
  have hb := V.1
  have l4 : ∀ G, al g 66 50 (4 : Int32) G = G (g 66 4) := lit66 g 4 (by omega)
  refine loopI (fun n i s => fX7_beats_L14 (fun l13 l14 g15 => some (l13, g15)) n s (nI i) g) _ (fun i s => s = nI (bset (fun i => !us.testBit i && !decide (lsI (F i &&& sh) = lsI (F i))) i)) Q ?_ ?_ Q FU 0 0 (by omega) (by rw [FU_e]; omega) rfl
  · rintro n s rfl
    show fX7_beats_L14 (fun l13 l14 g15 => some (l13, g15)) (n + 1) _ (nI Q) g = _
    rw [fX7_beats_L14, l4, V.2.2.1.2, if_pos (nI_le (Nat.le_refl Q) (by omega))]
  · rintro n i s hi rfl
    refine ⟨_, rfl, ?_⟩
    show fX7_beats_L14 (fun l13 l14 g15 => some (l13, g15)) (n + 1) _ (nI i) g = fX7_beats_L14 (fun l13 l14 g15 => some (l13, g15)) n (nI (bset (fun i => !us.testBit i && !decide (lsI (F i &&& sh) = lsI (F i))) i ||| (if (!us.testBit i && !decide (lsI (F i &&& sh) = lsI (F i))) then 2 ^ i else 0))) (nI (i + 1)) g
    rw [fX7_beats_L14, l4, V.2.2.1.2, if_neg (nI_ge hi (by omega)), v_open7 V (by omega) rfl, cl_s, v_she7 V hi rfl, cl_s, v_answer7 V hi rfl, cl_s]
    simp only [lt_e]
    rw [one_shl i (by omega), fa_or, nI_1, show (nI (bset (fun i => !us.testBit i && !decide (lsI (F i &&& sh) = lsI (F i))) i) ||| (0 : Int32)) = nI (bset (fun i => !us.testBit i && !decide (lsI (F i &&& sh) = lsI (F i))) i) from by show _ ||| nI 0 = _; rw [fa_or, Nat.or_zero]]
    by_cases h0 : us.testBit i
    · simp [h0]
    · by_cases h1 : lsI (F i &&& sh) = lsI (F i)
      · simp [h0, h1]
      · simp [h0, h1]
end VW2
theorem isCourt_e {g : Mem} (h : Inv g) {g' : Mem} (hg : g' 66 = g 66) : fX7_isCourt g' = some (g 7 0, g') := by
  obtain ⟨T, Q, S, tr, -, ⟨h0, h1⟩, -⟩ := h.2.2.2.1
  unfold fX7_isCourt
  have l0 : ∀ G, al g' 66 50 (0 : Int32) G = G (g' 66 0) := lit66 g' 0 (by omega)
  rw [l0, hg, h1]
  rcases h0 with e | e <;> rw [e] <;> rfl
theorem E_beats {g : Mem} (h : Inv g) : Both g (fun g => fX6_beats g) (fun g => fX7_beats g) := by
  obtain ⟨T, Q, S, tr, F, K, sh, us, C, V⟩ := Inv_cv h
  by_cases h0 : g 7 0 = 0
  · refine ⟨-1000002, g, g, ?_, ?_, h⟩
    · show fX6_beats g = _
      unfold fX6_beats
      rw [if_pos h0]
    · show fX7_beats g = _
      unfold fX7_beats
      rw [isCourt_e h rfl, cl_s, if_pos h0]
  · have a : fX6_beats g = some (nI (bset (fun i => !us.testBit i && !decide (lsI (F i &&& sh) = lsI (F i))) Q), g) := by
      unfold fX6_beats
      rw [if_neg h0, beats6 V, cl_s]
    have b : fX7_beats g = some (nI (bset (fun i => !us.testBit i && !decide (lsI (F i &&& sh) = lsI (F i))) Q), g) := by
      unfold fX7_beats
      rw [isCourt_e h rfl, cl_s, if_neg h0, beats7 V]
    exact ⟨_, g, g, a, b, h⟩
