/-! CHANCE: the loops over numbers alone -/
def gcP : Nat → Int32 → Int32 → Int32 → Option (Int32 × Int32 × Int32)
  | 0, _, _, _ => none
  | n + 1, a, b, c => if c ≤ 1 then some (a, b, c) else if c = 0 then none else if irm a c = 0 then (if irm b c = 0 then gcP n (a / c) (b / c) (c + (-1)) else gcP n a b (c + (-1))) else gcP n a b (c + (-1))
def egP : Nat → Int32 → Int32 → Option (Int32 × Int32)
  | 0, _, _ => none
  | n + 1, a, b => if b ≤ 0 then some (a, b) else if b = 0 then none else egP n b (irm a b)
def ruP (x y : Int32) : Nat → Int32 → Int32 → Option (Int32 × Int32)
  | 0, _, _ => none
  | n + 1, a, i => if y ≤ i then some (a, i) else ruP x y n (a * mx (x - i) 0) (i + 1)
def ovP (x y : Int32) : Nat → Int32 → Int32 → Option (Int32 × Int32)
  | 0, _, _ => none
  | n + 1, a, i => if y ≤ i then some (a, i) else if i + 1 = 0 then none else ovP x y n ((a * (x - i)) / (i + 1)) (i + 1)
theorem gcP_mono {n k : Nat} {a b c : Int32} {r : Int32 × Int32 × Int32} (h : gcP n a b c = some r) : gcP (n + k) a b c = some r := by
  induction n generalizing a b c with
  | zero => cases h
  | succ n ih =>
    rw [show n + 1 + k = (n + k) + 1 by omega, gcP]
    rw [gcP] at h
    by_cases h1 : c ≤ 1
    · rw [if_pos h1] at h ⊢; exact h
    · rw [if_neg h1] at h ⊢
      by_cases h2 : c = 0
      · rw [if_pos h2] at h; cases h
      · rw [if_neg h2] at h ⊢
        by_cases h3 : irm a c = 0
        · rw [if_pos h3] at h ⊢
          by_cases h4 : irm b c = 0
          · rw [if_pos h4] at h ⊢; exact ih h
          · rw [if_neg h4] at h ⊢; exact ih h
        · rw [if_neg h3] at h ⊢; exact ih h
theorem egP_mono {n k : Nat} {a b : Int32} {r : Int32 × Int32} (h : egP n a b = some r) : egP (n + k) a b = some r := by
  induction n generalizing a b with
  | zero => cases h
  | succ n ih =>
    rw [show n + 1 + k = (n + k) + 1 by omega, egP]
    rw [egP] at h
    by_cases h1 : b ≤ 0
    · rw [if_pos h1] at h ⊢; exact h
    · rw [if_neg h1] at h ⊢
      by_cases h2 : b = 0
      · rw [if_pos h2] at h; cases h
      · rw [if_neg h2] at h ⊢; exact ih h
theorem ruP_mono {x y : Int32} {n k : Nat} {a i : Int32} {r : Int32 × Int32} (h : ruP x y n a i = some r) : ruP x y (n + k) a i = some r := by
  induction n generalizing a i with
  | zero => cases h
  | succ n ih =>
    rw [show n + 1 + k = (n + k) + 1 by omega, ruP]
    rw [ruP] at h
    by_cases h1 : y ≤ i
    · rw [if_pos h1] at h ⊢; exact h
    · rw [if_neg h1] at h ⊢; exact ih h
theorem ovP_mono {x y : Int32} {n k : Nat} {a i : Int32} {r : Int32 × Int32} (h : ovP x y n a i = some r) : ovP x y (n + k) a i = some r := by
  induction n generalizing a i with
  | zero => cases h
  | succ n ih =>
    rw [show n + 1 + k = (n + k) + 1 by omega, ovP]
    rw [ovP] at h
    by_cases h1 : y ≤ i
    · rw [if_pos h1] at h ⊢; exact h
    · rw [if_neg h1] at h ⊢
      by_cases h2 : i + 1 = 0
      · rw [if_pos h2] at h; cases h
      · rw [if_neg h2] at h ⊢; exact ih h
theorem gc_L (l2 l3 l4 l5 l6 : Int32) (K : Int32 → Int32 → Int32 → Mem → Option (Int32 × Mem)) (g : Mem) {n : Nat} {a b c : Int32} {r : Int32 × Int32 × Int32} (h : gcP n a b c = some r) : fX3_likelihood_L104 l2 l3 l4 l5 l6 K n a b c g = K r.1 r.2.1 r.2.2 g := by
  induction n generalizing a b c with
  | zero => cases h
  | succ n ih =>
    rw [gcP] at h
    rw [fX3_likelihood_L104]
    by_cases h1 : c ≤ 1
    · rw [if_pos h1] at h ⊢; cases h; rfl
    · rw [if_neg h1] at h ⊢
      by_cases h2 : c = 0
      · rw [if_pos h2] at h; cases h
      · rw [if_neg h2] at h
        have e : ∀ X, nz c X = X := fun X => by unfold nz; rw [if_neg h2]
        simp only [e, lt_e]
        by_cases h3 : irm a c = 0
        · rw [if_pos h3] at h ⊢
          by_cases h4 : irm b c = 0
          · rw [if_pos h4] at h ⊢; exact ih h
          · rw [if_neg h4] at h ⊢; exact ih h
        · rw [if_neg h3] at h ⊢; exact ih h
theorem eg_L (l1 l2 l3 l4 l5 l6 l7 : Int32) (K : Int32 → Int32 → Mem → Option (Int32 × Mem)) (g : Mem) {n : Nat} {a b : Int32} {r : Int32 × Int32} (h : egP n a b = some r) : fX7_chance_L159 l1 l2 l3 l4 l5 l6 l7 K n a b g = K r.1 r.2 g := by
  induction n generalizing a b with
  | zero => cases h
  | succ n ih =>
    rw [egP] at h
    rw [fX7_chance_L159]
    by_cases h1 : b ≤ 0
    · rw [if_pos h1] at h ⊢; cases h; rfl
    · rw [if_neg h1] at h ⊢
      by_cases h2 : b = 0
      · rw [if_pos h2] at h; cases h
      · rw [if_neg h2] at h
        have e : ∀ X, nz b X = X := fun X => by unfold nz; rw [if_neg h2]
        simp only [e, lt_e]
        exact ih h
theorem ru_L (x y : Int32) (K : Int32 → Int32 → Mem → Option (Int32 × Mem)) (g : Mem) {n : Nat} {a i : Int32} {r : Int32 × Int32} (h : ruP x y n a i = some r) : fX3_rowsOfUnlike_L4 x y K n a i g = K r.1 r.2 g := by
  induction n generalizing a i with
  | zero => cases h
  | succ n ih =>
    rw [ruP] at h
    rw [fX3_rowsOfUnlike_L4]
    by_cases h1 : y ≤ i
    · rw [if_pos h1] at h ⊢; cases h; rfl
    · rw [if_neg h1] at h ⊢
      simp only [lt_e]
      exact ih h
theorem ov_L (x y : Int32) (K : Int32 → Int32 → Mem → Option (Int32 × Mem)) (g : Mem) {n : Nat} {a i : Int32} {r : Int32 × Int32} (h : ovP x y n a i = some r) : fX7_over_L4 x y K n a i g = K r.1 r.2 g := by
  induction n generalizing a i with
  | zero => cases h
  | succ n ih =>
    rw [ovP] at h
    rw [fX7_over_L4]
    by_cases h1 : y ≤ i
    · rw [if_pos h1] at h ⊢; cases h; rfl
    · rw [if_neg h1] at h ⊢
      by_cases h2 : i + 1 = 0
      · rw [if_pos h2] at h; cases h
      · rw [if_neg h2] at h
        have e : ∀ X, nz (i + 1) X = X := fun X => by unfold nz; rw [if_neg h2]
        simp only [e, lt_e]
        exact ih h
def chC (gd u nd : Nat) : Option (Int32 × Int32) := (ruP (nI gd) (nI nd) 9 1 0).bind fun a => (ruP (nI u) (nI nd) 9 1 0).bind fun b => (gcP 200 a.1 b.1 b.1).bind fun r => some (r.1, r.2.1)
def chM (gd u nd : Nat) : Option (Int32 × Int32) := (ovP (nI gd) (nI nd) 9 1 0).bind fun a => (ovP (nI u) (nI nd) 9 1 0).bind fun b => (egP 200 (if nI nd ≤ nI gd then a.1 else 0) b.1).bind fun r => if r.1 = 0 then none else some ((if nI nd ≤ nI gd then a.1 else 0) / r.1, b.1 / r.1)
theorem ch_all : ((List.range 4).all fun nd => (List.range 7).all fun u => (List.range 7).all fun gd => decide (nd = 0) || (decide (u < nd) || (decide (u < gd) || ((chC gd u nd).isSome && decide (chC gd u nd = chM gd u nd))))) = true := by decide +kernel
theorem ch_eq (nd : Nat) (h1 : nd < 4) (h2 : 1 ≤ nd) (u : Nat) (h3 : u < 7) (h4 : nd ≤ u) (gd : Nat) (h5 : gd < 7) (h6 : gd ≤ u) : (chC gd u nd).isSome = true ∧ chC gd u nd = chM gd u nd := by
  have a := List.all_eq_true.mp (List.all_eq_true.mp (List.all_eq_true.mp ch_all nd (List.mem_range.mpr h1)) u (List.mem_range.mpr h3)) gd (List.mem_range.mpr h5)
  rw [decide_eq_false (show ¬ nd = 0 by omega), decide_eq_false (show ¬ u < nd by omega), decide_eq_false (show ¬ u < gd by omega)] at a
  simp only [Bool.false_or, Bool.and_eq_true, decide_eq_true_eq] at a
  exact a
section CH
variable {T Q S : Nat} {F K : Nat → Nat} {sh us : Nat} {g : Mem}
theorem like_L9 (V : View T Q S F K sh us g) {s : Nat} (hs : s < S) (l3 : Int32) (KK : Int32 → Int32 → Int32 → Mem → Option (Int32 × Mem)) : fX3_likelihood_L9 (nI s) l3 KK FU 0 0 0 g = KK (nI (cnt (fun i => !us.testBit i) Q)) (nI (cnt (fun i => !us.testBit i && decide (lsI (F i &&& K s) = lsI (F i))) Q)) (nI Q) g := by
  have hb := V.1
  refine loopI (fun n i (st : Int32 × Int32) => fX3_likelihood_L9 (nI s) l3 KK n st.1 st.2 (nI i) g) _ (fun i st => st = (nI (cnt (fun i => !us.testBit i) i), nI (cnt (fun i => !us.testBit i && decide (lsI (F i &&& K s) = lsI (F i))) i))) Q ?_ ?_ Q FU 0 (0, 0) (by omega) (by rw [FU_e]; omega) rfl
  · rintro n st rfl
    show fX3_likelihood_L9 (nI s) l3 KK (n + 1) _ _ (nI Q) g = _
    rw [fX3_likelihood_L9, V.2.2.1.1, if_pos (nI_le (Nat.le_refl Q) (by omega))]
  · rintro n i st hi rfl
    refine ⟨_, rfl, ?_⟩
    show fX3_likelihood_L9 (nI s) l3 KK (n + 1) (nI (cnt (fun i => !us.testBit i) i)) (nI (cnt (fun i => !us.testBit i && decide (lsI (F i &&& K s) = lsI (F i))) i)) (nI i) g = fX3_likelihood_L9 (nI s) l3 KK n (nI (cnt (fun i => !us.testBit i) i + if (!us.testBit i) then 1 else 0)) (nI (cnt (fun i => !us.testBit i && decide (lsI (F i &&& K s) = lsI (F i))) i + if (!us.testBit i && decide (lsI (F i &&& K s) = lsI (F i))) then 1 else 0)) (nI (i + 1)) g
    rw [fX3_likelihood_L9, V.2.2.1.1, if_neg (nI_ge hi (by omega)), v_used6 V (by omega), cl_s, v_says6 V hs hi, cl_s, v_answer6 V hi, cl_s]
    simp only [lt_e, nI_1, show ∀ a, nI a + (0 : Int32) = nI a from fun a => nI_add a 0]
    by_cases h0 : us.testBit i
    · simp [h0]
    · by_cases h1 : lsI (F i &&& K s) = lsI (F i)
      · simp [h0, h1]
      · simp [h0, h1]
theorem chance_L43 (V : View T Q S F K sh us g) {s : Nat} (hs : s < S) (l2 : Int32) (KK : Int32 → Int32 → Int32 → Mem → Option (Int32 × Mem)) : fX7_chance_L43 (nI s) l2 KK FU 0 0 0 g = KK (nI (cnt (fun i => !us.testBit i) Q)) (nI (cnt (fun i => !us.testBit i && decide (lsI (F i &&& K s) = lsI (F i))) Q)) (nI Q) g := by
  have hb := V.1
  have l4' : ∀ G, al g 66 50 (4 : Int32) G = G (g 66 4) := lit66 g 4 (by omega)
  refine loopI (fun n i (st : Int32 × Int32) => fX7_chance_L43 (nI s) l2 KK n st.1 st.2 (nI i) g) _ (fun i st => st = (nI (cnt (fun i => !us.testBit i) i), nI (cnt (fun i => !us.testBit i && decide (lsI (F i &&& K s) = lsI (F i))) i))) Q ?_ ?_ Q FU 0 (0, 0) (by omega) (by rw [FU_e]; omega) rfl
  · rintro n st rfl
    show fX7_chance_L43 (nI s) l2 KK (n + 1) _ _ (nI Q) g = _
    rw [fX7_chance_L43, l4', V.2.2.1.2, if_pos (nI_le (Nat.le_refl Q) (by omega))]
  · rintro n i st hi rfl
    refine ⟨_, rfl, ?_⟩
    show fX7_chance_L43 (nI s) l2 KK (n + 1) (nI (cnt (fun i => !us.testBit i) i)) (nI (cnt (fun i => !us.testBit i && decide (lsI (F i &&& K s) = lsI (F i))) i)) (nI i) g = fX7_chance_L43 (nI s) l2 KK n (nI (cnt (fun i => !us.testBit i) i + if (!us.testBit i) then 1 else 0)) (nI (cnt (fun i => !us.testBit i && decide (lsI (F i &&& K s) = lsI (F i))) i + if (!us.testBit i && decide (lsI (F i &&& K s) = lsI (F i))) then 1 else 0)) (nI (i + 1)) g
    rw [fX7_chance_L43, l4', V.2.2.1.2, if_neg (nI_ge hi (by omega))]
    simp only [v_open7 V (show i < 31 by omega) rfl, cl_s, v_says7 V hs hi rfl, v_answer7 V hi rfl, lt_e, nI_1, show ∀ a, nI a + (0 : Int32) = nI a from fun a => nI_add a 0]
    by_cases h0 : us.testBit i
    · simp [h0]
    · by_cases h1 : lsI (F i &&& K s) = lsI (F i)
      · simp [h0, h1]
      · simp [h0, h1]
end CH
theorem cnt_mono {p q : Nat → Bool} (h : ∀ i, p i = true → q i = true) (n : Nat) : cnt p n ≤ cnt q n := by
  induction n with
  | zero => exact Nat.le_refl 0
  | succ n ih =>
    show cnt p n + _ ≤ cnt q n + _
    by_cases hp : p n = true
    · rw [if_pos hp, if_pos (h n hp)]; omega
    · rw [if_neg hp]; omega
theorem E_chance {g : Mem} (h : Inv g) (x y : Int32) : Both g (fun g => fX6_chance x y g) (fun g => fX7_chance x y g) := by
  obtain ⟨T, Q, S, tr, F, K, sh, us, C, V⟩ := Inv_cv h
  have hb := V.1
  have bad : (x < 0 ∨ nI S ≤ x) → Both g (fun g => fX6_chance x y g) (fun g => fX7_chance x y g) := fun hx => by
    refine ⟨-1000001, g, g, ?_, ?_, h⟩
    · simp only [fX6_chance]
      rw [V.2.2.2.1.1, below_f hx, cl_s, if_pos rfl]
    · simp only [fX7_chance]
      rw [isS_f V hx rfl, cl_s, if_pos rfl]
  rcases pk_ix x (n := S) (by omega) with hx | hx | ⟨s, hs, rfl⟩
  · exact bad (Or.inl hx)
  · exact bad (Or.inr hx)
  have bad : (y < 0 ∨ nI 2 ≤ y) → Both g (fun g => fX6_chance (nI s) y g) (fun g => fX7_chance (nI s) y g) := fun hx => by
    refine ⟨-1000001, g, g, ?_, ?_, h⟩
    · simp only [fX6_chance]
      rw [V.2.2.2.1.1, below_t hs (by omega), cl_s, if_neg (by decide), show (2 : Int32) = nI 2 from rfl, below_f hx, cl_s, if_pos rfl]
    · simp only [fX7_chance]
      rw [isS_t V hs rfl, cl_s, if_neg (by decide), show (1 : Int32) = nI 1 from rfl, inN_f (by omega) hx, cl_s, if_pos rfl]
  rcases pk_ix y (n := 2) (by omega) with hx | hx | ⟨w, hw, rfl⟩
  · exact bad (Or.inl hx)
  · exact bad (Or.inr hx)
  obtain ⟨-, -, -, -, -, -, -, -, -, -, -, hS, -⟩ := C
  obtain ⟨-, -, -, e1, -, e2, -, -, hr2⟩ := hS s hs
  by_cases ha : g 14 s = 0
  rotate_left
  · refine ⟨-1000002, g, g, ?_, ?_, h⟩
    · simp only [fX6_chance]
      rw [V.2.2.2.1.1, below_t hs (by omega), cl_s, if_neg (by decide), show (2 : Int32) = nI 2 from rfl, below_t hw (by omega), cl_s, if_neg (by decide), comes_e (by omega), cl_s, if_neg ha, if_pos rfl]
    · simp only [fX7_chance]
      rw [isS_t V hs rfl, cl_s, if_neg (by decide), show (1 : Int32) = nI 1 from rfl, inN_t (by omega) (by omega), cl_s, if_neg (by decide), show (38 : Int32) = nI 38 from rfl, nI_add, lit66 g (38 + s) (by omega), e1, if_neg ha]
  obtain ⟨rr, hrr, er⟩ := hr2 ha
  have en : (3 : Int32) - nI rr = nI (3 - rr) := pk_sub (a := 3) (by omega)
  have hu := cnt_le (fun i => !us.testBit i) Q
  have hg := cnt_mono (p := fun i => !us.testBit i && decide (lsI (F i &&& K s) = lsI (F i))) (q := fun i => !us.testBit i) (fun i hi => by simp at hi; simp [hi.1]) Q
  have e6 : fX6_chance (nI s) (nI w) g = cl (fX3_likelihood (nI s) (nI w) g) fun r7 g8 => some (r7, g8) := by
    simp only [fX6_chance]
    rw [V.2.2.2.1.1, below_t hs (by omega), cl_s, if_neg (by decide), show (2 : Int32) = nI 2 from rfl, below_t hw (by omega), cl_s, if_neg (by decide), comes_e (by omega), cl_s, if_pos ha, if_neg (by decide)]
  have e7 : fX7_chance (nI s) (nI w) g = fX7_chance_L43 (nI s) (nI w) (fun l29 l30 l31 g32 => al g32 66 50 ((42 : Int32) + nI s) fun v33 => (lt (((3 : Int32) - v33)) fun x34 => (if x34 ≤ l29 then (cl (fX7_over l30 x34 g32) fun r35 g36 => (cl (fX7_over l29 x34 g36) fun r37 g38 => (fX7_chance_L159 (nI s) (nI w) l29 l30 x34 r35 r37 (fun l40 l41 g42 => if nI w = 0 then (nz l40 (some ((r35 / l40), g42))) else (nz l40 (some ((r37 / l40), g42)))) FU r35 r37 g38))) else (some ((-1000000 : Int32), g32))))) FU (0 : Int32) (0 : Int32) (0 : Int32) g := by
    simp only [fX7_chance]
    rw [isS_t V hs rfl, cl_s, if_neg (by decide), show (1 : Int32) = nI 1 from rfl, inN_t (by omega) (by omega), cl_s, if_neg (by decide), show (38 : Int32) = nI 38 from rfl, nI_add, lit66 g (38 + s) (by omega), e1, if_pos ha]
  unfold fX3_likelihood at e6
  rw [like_L9 V hs, al_nI (by omega) (by omega), er, lt_e, en] at e6
  rw [chance_L43 V hs, show (42 : Int32) = nI 42 from rfl, nI_add, lit66 g (42 + s) (by omega), e2, er, lt_e, en] at e7
  generalize cnt (fun i => !us.testBit i) Q = u at hu hg e6 e7
  generalize cnt (fun i => !us.testBit i && decide (lsI (F i &&& K s) = lsI (F i))) Q = gd at hg e6 e7
  generalize hnd : 3 - rr = nd at e6 e7
  by_cases hnu : nd ≤ u
  rotate_left
  · have hn : ¬ nI nd ≤ nI u := by rw [nI_leI (by omega) (by omega)]; exact hnu
    rw [if_neg hn, cl_s] at e6
    rw [if_neg hn] at e7
    exact ⟨_, g, g, e6, e7, h⟩
  have hn : nI nd ≤ nI u := by rw [nI_leI (by omega) (by omega)]; exact hnu
  rw [if_pos hn] at e6 e7
  obtain ⟨hsome, heq⟩ := ch_eq nd (by omega) (by omega) u (by omega) hnu gd (by omega) (by omega)
  obtain ⟨⟨p, q⟩, hpq⟩ := Option.isSome_iff_exists.mp hsome
  have hm := heq.symm.trans hpq
  obtain ⟨A, hA, h1⟩ := Option.bind_eq_some_iff.mp hpq
  obtain ⟨B, hB, h1⟩ := Option.bind_eq_some_iff.mp h1
  obtain ⟨G, hG, h1⟩ := Option.bind_eq_some_iff.mp h1
  cases h1
  obtain ⟨A', hA', h1⟩ := Option.bind_eq_some_iff.mp hm
  obtain ⟨B', hB', h1⟩ := Option.bind_eq_some_iff.mp h1
  obtain ⟨G', hG', h1⟩ := Option.bind_eq_some_iff.mp h1
  by_cases hz : G'.1 = 0
  · rw [if_pos hz] at h1; cases h1
  rw [if_neg hz] at h1
  have h1 := Option.some.inj h1
  have hp1 : (if nI nd ≤ nI gd then A'.1 else 0) / G'.1 = G.1 := congrArg Prod.fst h1
  have hp2 : B'.1 / G'.1 = G.2.1 := congrArg Prod.snd h1
  have fA : ruP (nI gd) (nI nd) FU 1 0 = some A := ruP_mono (k := 59991) hA
  have fB : ruP (nI u) (nI nd) FU 1 0 = some B := ruP_mono (k := 59991) hB
  have fG : gcP FU A.1 B.1 B.1 = some G := gcP_mono (k := 59800) hG
  have fA' : ovP (nI gd) (nI nd) FU 1 0 = some A' := ovP_mono (k := 59991) hA'
  have fB' : ovP (nI u) (nI nd) FU 1 0 = some B' := ovP_mono (k := 59991) hB'
  have fG' : egP FU (if nI nd ≤ nI gd then A'.1 else 0) B'.1 = some G' := egP_mono (k := 59800) hG'
  have r1 : fX3_rowsOfUnlike (nI gd) (nI nd) g = some (A.1, g) := by unfold fX3_rowsOfUnlike; rw [ru_L _ _ _ _ fA]
  have r2 : fX3_rowsOfUnlike (nI u) (nI nd) g = some (B.1, g) := by unfold fX3_rowsOfUnlike; rw [ru_L _ _ _ _ fB]
  have o1 : fX7_over (nI gd) (nI nd) g = some (if nI nd ≤ nI gd then A'.1 else 0, g) := by
    unfold fX7_over; rw [ov_L _ _ _ _ fA']
    by_cases hc : nI nd ≤ nI gd
    · rw [if_pos hc, if_pos hc]
    · rw [if_neg hc, if_neg hc]
  have o2 : fX7_over (nI u) (nI nd) g = some (B'.1, g) := by
    unfold fX7_over; rw [ov_L _ _ _ _ fB', if_pos hn]
  rw [r1, cl_s, r2, cl_s, gc_L _ _ _ _ _ _ _ fG] at e6
  rw [o1, cl_s, o2, cl_s, eg_L _ _ _ _ _ _ _ _ _ fG'] at e7
  have en0 : ∀ X, nz G'.1 X = X := fun X => by unfold nz; rw [if_neg hz]
  rw [en0, en0, hp1, hp2] at e7
  by_cases w0 : nI w = 0
  · rw [if_pos w0, cl_s] at e6
    rw [if_pos w0] at e7
    exact ⟨_, g, g, e6, e7, h⟩
  · rw [if_neg w0, cl_s] at e6
    rw [if_neg w0] at e7
    exact ⟨_, g, g, e6, e7, h⟩
