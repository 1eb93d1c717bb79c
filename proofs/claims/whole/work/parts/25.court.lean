/-! sets of things: bits of a number below 256 -/
def lsb : Nat → Nat → Nat
  | 0, _ => 0
  | f + 1, x => if x % 2 = 1 then 0 else lsb f (x / 2) + 1
def lsI (x : Nat) : Int32 := if x = 0 then -1000000 else nI (lsb 8 x)
def bcF (a : Int32) : Int32 :=
  let x1 := a - (ushr a 1 &&& 1431655765)
  let x2 := (x1 &&& 858993459) + (ushr x1 2 &&& 858993459)
  let x3 := (x2 + ushr x2 4) &&& 252645135
  let x4 := x3 + ushr x3 8
  let x5 := x4 + ushr x4 16
  x5 &&& 63
theorem bc_r (a : Int32) (g : Mem) : fJ6_bitCount_0f7a4 a g = some (bcF a, g) := rfl
theorem bc_n : ∀ x, x < 256 → bcF (nI x) = nI (pcn x) := by decide +kernel
theorem bc_e {x : Nat} (hx : x < 256) (g : Mem) : fJ6_bitCount_0f7a4 (nI x) g = some (nI (pcn x), g) := by rw [bc_r, bc_n x hx]
theorem ls_n : ∀ x, x < 256 → (if nI x = 0 then -1000000 else bcF ((nI x &&& -nI x) - 1)) = lsI x := by decide +kernel
theorem least_e {x : Nat} (hx : x < 256) (g : Mem) : fX2_least (nI x) g = some (lsI x, g) := by
  unfold fX2_least
  rw [lt_e, ← ls_n x hx, bc_r, cl_s]
  by_cases h : nI x = 0
  · rw [if_pos h, if_pos h]
  · rw [if_neg h, if_neg h]
theorem bit_nI {x i : Nat} (hx : x < 2 ^ 31) (hi : i < 32) : (nI x >>> (nI i &&& 31)) &&& 1 = if x.testBit i then 1 else 0 := by
  rw [shr_nI hx hi, and1_nI, Nat.testBit_eq_decide_div_mod_eq]
  by_cases h : x / 2 ^ i % 2 = 1
  · rw [h]; rfl
  · rw [show x / 2 ^ i % 2 = 0 by omega]; rfl
theorem has_e {x i : Nat} (hx : x < 2 ^ 31) (hi : i < 32) (g : Mem) : fX7_has (nI x) (nI i) g = some (if x.testBit i then 1 else 0, g) := by
  unfold fX7_has
  rw [bit_nI hx hi]
  by_cases h : x.testBit i
  · simp [h]
  · simp [h]
theorem pcn_cnt : ∀ x, x < 256 → pcn x = cnt (fun i => x.testBit i) 8 := by decide +kernel
theorem bits_e {x : Nat} (hx : x < 256) (g : Mem) : fX7_bits (nI x) g = some (nI (pcn x), g) := by
  unfold fX7_bits
  rw [pcn_cnt x hx]
  refine loopI (fun n i s => fX7_bits_L4 (nI x) (fun l2 l3 g4 => some (l2, g4)) n s (nI i) g) _ (fun i s => s = nI (cnt (fun i => x.testBit i) i)) 8 ?_ ?_ 8 FU 0 0 (by omega) (by rw [FU_e]; omega) rfl
  · rintro n s rfl
    show fX7_bits_L4 (nI x) (fun l2 l3 g4 => some (l2, g4)) (n + 1) _ (nI 8) g = _
    rw [fX7_bits_L4, if_pos (by decide)]
  · rintro n i s hi rfl
    refine ⟨_, rfl, ?_⟩
    show fX7_bits_L4 (nI x) (fun l2 l3 g4 => some (l2, g4)) (n + 1) _ (nI i) g = fX7_bits_L4 (nI x) (fun l2 l3 g4 => some (l2, g4)) n _ (nI (i + 1)) g
    rw [fX7_bits_L4, show (8 : Int32) = nI 8 from rfl, if_neg (nI_ge hi (by omega)), lt_e, bit_nI (by omega) (by omega), nI_1]
    congr 1
    show nI (cnt (fun i => x.testBit i) i) + _ = nI (cnt (fun i => x.testBit i) i + if x.testBit i then 1 else 0)
    by_cases h : x.testBit i
    · simp only [h, if_true]; exact nI_1 _
    · simp only [h]; exact nI_add _ 0
theorem lsb_ok : ∀ x, x < 256 → x ≠ 0 → lsb 8 x < 8 ∧ x.testBit (lsb 8 x) = true ∧ ∀ i, i < 8 → i < lsb 8 x → x.testBit i = false := by decide +kernel
theorem leastOf_e {x : Nat} (hx : x < 256) (g : Mem) : fX7_leastOf (nI x) g = some (lsI x, g) := by
  unfold fX7_leastOf lsI
  by_cases h0 : x = 0
  · subst h0; rfl
  · rw [if_neg (nI_ne0 (by omega) (by omega)), if_neg h0]
    obtain ⟨h1, h2, h3⟩ := lsb_ok x hx h0
    generalize lsb 8 x = N at h1 h2 h3
    refine loopI (fun n i (s : Unit) => fX7_leastOf_L9 (nI x) (fun l3 g4 => some (l3, g4)) n (nI i) g) _ (fun _ _ => True) N ?_ ?_ N FU 0 () (by omega) (by rw [FU_e]; omega) trivial
    · rintro n s -
      show fX7_leastOf_L9 (nI x) (fun l3 g4 => some (l3, g4)) (n + 1) (nI N) g = _
      rw [fX7_leastOf_L9, has_e (by omega) (by omega), cl_s, h2, if_neg (by decide)]
    · rintro n i s hi -
      refine ⟨(), trivial, ?_⟩
      show fX7_leastOf_L9 (nI x) (fun l3 g4 => some (l3, g4)) (n + 1) (nI i) g = fX7_leastOf_L9 (nI x) (fun l3 g4 => some (l3, g4)) n (nI (i + 1)) g
      rw [fX7_leastOf_L9, has_e (by omega) (by omega), cl_s, h3 i (by omega) hi, if_neg Bool.false_ne_true, if_pos rfl, nI_1]
theorem sung_n : ∀ t, t < 32 → ∀ y, y < 32 → nI y &&& (nI t ^^^ (-1)) = nI (y &&& (31 - t)) := by decide +kernel
theorem pcn_le {x : Nat} : pcn x ≤ 8 := by unfold pcn; omega
theorem fits6_e {k y n t : Nat} (hk : 1 ≤ k ∧ k ≤ 5) (hy : y < 32) (hn : n < 32) (ht : t < 32) (g : Mem) : fX2_fits (nI k) (nI y) (nI n) (nI t) g = some (if fit k y n t then 1 else 0, g) := by
  have a1 : t &&& n ≤ t := Nat.and_le_left
  have a2 : t &&& y ≤ t := Nat.and_le_left
  have c1 : (nI t &&& nI n = 0) ↔ (t &&& n = 0) := by rw [fa_and, ← nI_0, nI_eq (by omega) (by omega)]
  have c2 : (nI t &&& nI y = nI y) ↔ (t &&& y = y) := by rw [fa_and, nI_eq (by omega) (by omega)]
  have c3 : (nI t &&& nI n = nI n) ↔ (t &&& n = n) := by rw [fa_and, nI_eq (by omega) (by omega)]
  have c4 : (nI t &&& nI y = 0) ↔ (t &&& y = 0) := by rw [fa_and, ← nI_0, nI_eq (by omega) (by omega)]
  have a3 : y &&& (31 - t) ≤ y := Nat.and_le_left
  have k2 : (nI k = 2) ↔ k = 2 := nI_eq (b := 2) (by omega) (by omega)
  have k3 : (nI k = 3) ↔ k = 3 := nI_eq (b := 3) (by omega) (by omega)
  have k4 : (nI k = 4) ↔ k = 4 := nI_eq (b := 4) (by omega) (by omega)
  have k5 : (nI k = 5) ↔ k = 5 := nI_eq (b := 5) (by omega) (by omega)
  have k1 : (nI k = 1) ↔ k = 1 := nI_eq (b := 1) (by omega) (by omega)
  have hp : (1 < nI (pcn (y &&& (31 - t)))) ↔ ¬ pcn (y &&& (31 - t)) ≤ 1 := by
    have := @pcn_le (y &&& (31 - t))
    rw [show (1 : Int32) = nI 1 from rfl, nI_ltI (by omega) (by omega)]; omega
  unfold fX2_fits
  simp only [c1, c2, c3, c4, k1, k2, k3, k4, k5, sung_n t ht y hy, bc_e (show y &&& (31 - t) < 256 by omega), cl_s, hp]
  rcases (show k = 1 ∨ k = 2 ∨ k = 3 ∨ k = 4 ∨ k = 5 by omega) with rfl | rfl | rfl | rfl | rfl <;> by_cases d1 : t &&& n = 0 <;> by_cases d2 : t &&& y = y <;> by_cases d3 : t &&& n = n <;> by_cases d4 : t &&& y = 0 <;> by_cases d5 : pcn (y &&& (31 - t)) ≤ 1 <;> clear c1 c2 c3 c4 a1 a2 a3 k1 k2 k3 k4 k5 hp hk hy hn ht <;> simp_all [fit]
theorem fits7_e {k y n t : Nat} (hk : 1 ≤ k ∧ k ≤ 5) (hy : y < 32) (hn : n < 32) (ht : t < 32) (g : Mem) : fX7_fits (nI k) (nI y) (nI n) (nI t) g = some (if fit k y n t then 1 else 0, g) := by
  have a1 : t &&& n ≤ t := Nat.and_le_left
  have a2 : t &&& y ≤ t := Nat.and_le_left
  have c1 : (nI t &&& nI n = 0) ↔ (t &&& n = 0) := by rw [fa_and, ← nI_0, nI_eq (by omega) (by omega)]
  have c2 : (nI t &&& nI y = nI y) ↔ (t &&& y = y) := by rw [fa_and, nI_eq (by omega) (by omega)]
  have c3 : (nI t &&& nI n = nI n) ↔ (t &&& n = n) := by rw [fa_and, nI_eq (by omega) (by omega)]
  have c4 : (nI t &&& nI y = 0) ↔ (t &&& y = 0) := by rw [fa_and, ← nI_0, nI_eq (by omega) (by omega)]
  have a3 : y &&& (31 - t) ≤ y := Nat.and_le_left
  have k2 : (nI k = 2) ↔ k = 2 := nI_eq (b := 2) (by omega) (by omega)
  have k3 : (nI k = 3) ↔ k = 3 := nI_eq (b := 3) (by omega) (by omega)
  have k4 : (nI k = 4) ↔ k = 4 := nI_eq (b := 4) (by omega) (by omega)
  have k1 : (nI k = 1) ↔ k = 1 := nI_eq (b := 1) (by omega) (by omega)
  have hp : (2 ≤ nI (pcn (y &&& (31 - t)))) ↔ ¬ pcn (y &&& (31 - t)) ≤ 1 := by
    have := @pcn_le (y &&& (31 - t))
    rw [show (2 : Int32) = nI 2 from rfl, nI_leI (by omega) (by omega)]; omega
  unfold fX7_fits
  simp only [c1, c2, c3, c4, k1, k2, k3, k4, sung_n t ht y hy, bits_e (show y &&& (31 - t) < 256 by omega), cl_s, hp]
  rcases (show k = 1 ∨ k = 2 ∨ k = 3 ∨ k = 4 ∨ k = 5 by omega) with rfl | rfl | rfl | rfl | rfl <;> by_cases d1 : t &&& n = 0 <;> by_cases d2 : t &&& y = y <;> by_cases d3 : t &&& n = n <;> by_cases d4 : t &&& y = 0 <;> by_cases d5 : pcn (y &&& (31 - t)) ≤ 1 <;> clear c1 c2 c3 c4 a1 a2 a3 k1 k2 k3 k4 hp hk hy hn ht <;> simp_all [fit]
theorem fset_lt (tr : Nat → Nat) (k y n T : Nat) : fset tr k y n T < 2 ^ T := by
  induction T with
  | zero => exact Nat.one_pos
  | succ T ih =>
    show fset tr k y n T ||| _ < 2 ^ (T + 1)
    have h2 : (2 : Nat) ^ T < 2 ^ (T + 1) := Nat.pow_lt_pow_right (by omega) (by omega)
    refine Nat.or_lt_two_pow (by omega) ?_
    split
    · exact h2
    · exact Nat.two_pow_pos _
theorem tf6 {c T : Nat} {tr : Nat → Nat} {k y n : Nat} {g : Mem} (hT : T ≤ 8) (h1 : g c 3 = nI T) (h2 : ∀ i, i < T → tr i < 32 ∧ g (c + 1) i = nI (tr i)) (hk : 1 ≤ k ∧ k ≤ 5) (hy : y < 32) (hn : n < 32) : fX2_thingsFitting c (nI k) (nI y) (nI n) g = some (nI (fset tr k y n T), g) := by
  unfold fX2_thingsFitting
  refine loopI (fun m i s => fX2_thingsFitting_L6 c (nI k) (nI y) (nI n) (fun l5 l6 g7 => some (l5, g7)) m s (nI i) g) _ (fun i s => s = nI (fset tr k y n i)) T ?_ ?_ T FU 0 0 (by omega) (by rw [FU_e]; omega) rfl
  · rintro m s rfl
    show fX2_thingsFitting_L6 c (nI k) (nI y) (nI n) (fun l5 l6 g7 => some (l5, g7)) (m + 1) _ (nI T) g = _
    rw [fX2_thingsFitting_L6, h1, if_pos (nI_le (Nat.le_refl T) (by omega))]
  · rintro m i s hi rfl
    refine ⟨_, rfl, ?_⟩
    show fX2_thingsFitting_L6 c (nI k) (nI y) (nI n) (fun l5 l6 g7 => some (l5, g7)) (m + 1) _ (nI i) g = fX2_thingsFitting_L6 c (nI k) (nI y) (nI n) (fun l5 l6 g7 => some (l5, g7)) m _ (nI (i + 1)) g
    rw [fX2_thingsFitting_L6, h1, if_neg (nI_ge hi (by omega)), al_nI (by omega) (by omega), (h2 i hi).2, fits6_e hk hy hn (h2 i hi).1, cl_s, lt_e, one_shl i (by omega), fa_or, nI_1]
    show _ = fX2_thingsFitting_L6 c (nI k) (nI y) (nI n) (fun l5 l6 g7 => some (l5, g7)) m (nI (fset tr k y n i ||| (if fit k y n (tr i) then 2 ^ i else 0))) (nI (i + 1)) g
    by_cases hf : fit k y n (tr i)
    · simp [hf]
    · simp [hf]
theorem tf7 {T : Nat} {tr : Nat → Nat} {k y n : Nat} {g : Mem} (hT : T ≤ 8) (h1 : g 66 3 = nI T) (h2 : ∀ i, i < T → tr i < 32 ∧ g 66 (8 + i) = nI (tr i)) (hk : 1 ≤ k ∧ k ≤ 5) (hy : y < 32) (hn : n < 32) : fX7_fittersOf (nI k) (nI y) (nI n) g = some (nI (fset tr k y n T), g) := by
  unfold fX7_fittersOf
  have e3 : ∀ G, al g 66 50 3 G = G (nI T) := fun G => by rw [show (3 : Int32) = nI 3 from rfl, al_nI (by omega) (by omega), h1]
  refine loopI (fun m i s => fX7_fittersOf_L6 (nI k) (nI y) (nI n) (fun l7 l8 g9 => some (l7, g9)) m s (nI i) g) _ (fun i s => s = nI (fset tr k y n i)) T ?_ ?_ T FU 0 0 (by omega) (by rw [FU_e]; omega) rfl
  · rintro m s rfl
    show fX7_fittersOf_L6 (nI k) (nI y) (nI n) (fun l7 l8 g9 => some (l7, g9)) (m + 1) _ (nI T) g = _
    rw [fX7_fittersOf_L6, e3, if_pos (nI_le (Nat.le_refl T) (by omega))]
  · rintro m i s hi rfl
    refine ⟨_, rfl, ?_⟩
    show fX7_fittersOf_L6 (nI k) (nI y) (nI n) (fun l7 l8 g9 => some (l7, g9)) (m + 1) _ (nI i) g = fX7_fittersOf_L6 (nI k) (nI y) (nI n) (fun l7 l8 g9 => some (l7, g9)) m _ (nI (i + 1)) g
    rw [fX7_fittersOf_L6, e3, if_neg (nI_ge hi (by omega)), show (8 : Int32) = nI 8 from rfl, nI_add, al_nI (by omega) (by omega), (h2 i hi).2, fits7_e hk hy hn (h2 i hi).1, cl_s, lt_e, lt_e, one_shl i (by omega), fa_or, nI_1, show (0 : Int32) = nI 0 from rfl, fa_or]
    show _ = fX7_fittersOf_L6 (nI k) (nI y) (nI n) (fun l7 l8 g9 => some (l7, g9)) m (nI (fset tr k y n i ||| (if fit k y n (tr i) then 2 ^ i else 0))) (nI (i + 1)) g
    by_cases hf : fit k y n (tr i)
    · simp only [hf, if_true]; rw [if_neg (by decide)]
    · simp only [hf]; rw [if_pos (by decide)]; rfl
/-- what both sides show of the court now -/
def View (T Q S : Nat) (F K : Nat → Nat) (sh us : Nat) (g : Mem) : Prop :=
  (T ≤ 8 ∧ Q ≤ 6 ∧ S ≤ 4) ∧ (g 7 3 = nI T ∧ g 66 3 = nI T) ∧ (g 7 5 = nI Q ∧ g 66 4 = nI Q) ∧ (g 7 10 = nI S ∧ g 66 5 = nI S) ∧
  (∀ i, i < Q → F i < 2 ^ T ∧ g 12 i = nI (F i) ∧ ∀ g' : Mem, g' 66 = g 66 → fX7_fittersAt (nI i) g' = some (nI (F i), g')) ∧
  (∀ s, s < S → K s < 2 ^ T ∧ g 13 s = nI (K s) ∧ g 66 (34 + s) = nI (K s)) ∧ (sh < 2 ^ T ∧ g 7 1 = nI sh ∧ g 66 1 = nI sh) ∧ (us < 64 ∧ g 7 15 = nI us ∧ g 66 6 = nI us)
theorem court_view {g : Mem} {T Q S : Nat} {tr : Nat → Nat} (h : CourtN T Q S tr (g 7) (g 8) (g 9) (g 10) (g 11) (g 12) (g 13) (g 14) (g 15) (g 16) (g 66)) : ∃ (F K : Nat → Nat) (sh us : Nat), View T Q S F K sh us g := by
  obtain ⟨hb, h0, ⟨⟨x1, hx1, e1⟩, e1'⟩, h2, h3, h5, h10, ⟨⟨x15, hx15, e15⟩, e15'⟩, h16, ht, hr, hs, hd⟩ := h
  refine ⟨fun i => (g 12 i).toNatClampNeg, fun s => (g 13 s).toNatClampNeg, x1, x15, hb, h3, h5, h10, fun i hi => ?_, fun s hs' => ?_, ⟨hx1, e1, by rw [e1', e1]⟩, ⟨hx15, e15, by rw [e15', e15]⟩⟩
  · obtain ⟨sk, yy, nn, ⟨a1, a2, a3, a4⟩, b1, b2, b3, b4, b5, b6, b7⟩ := hr i hi
    have hlt := fset_lt tr sk yy nn T
    have hT8 : (2 : Nat) ^ T ≤ 2 ^ 8 := Nat.pow_le_pow_right (by omega) hb.1
    have ec : (g 12 i).toNatClampNeg = fset tr sk yy nn T := by rw [b7, nI_clamp (by omega)]
    refine ⟨by show (g 12 i).toNatClampNeg < 2 ^ T; rw [ec]; exact hlt, by show g 12 i = nI (g 12 i).toNatClampNeg; rw [ec]; exact b7, fun g' hg' => ?_⟩
    show fX7_fittersAt (nI i) g' = some (nI (g 12 i).toNatClampNeg, g')
    rw [ec]
    unfold fX7_fittersAt
    rw [show (16 : Int32) = nI 16 from rfl, show (22 : Int32) = nI 22 from rfl, show (28 : Int32) = nI 28 from rfl, nI_add, nI_add, nI_add, al_nI (by omega) (by omega), al_nI (by omega) (by omega), al_nI (by omega) (by omega), hg', b2, b4, b6, tf7 hb.1 (by rw [hg']; exact h3.2) (fun j hj => ⟨(ht j hj).1, by rw [hg']; exact (ht j hj).2.2⟩) ⟨a1, a2⟩ a3 a4, cl_s]
  · obtain ⟨⟨x, hx, e⟩, e', -⟩ := hs s hs'
    have hT8 : (2 : Nat) ^ T ≤ 2 ^ 8 := Nat.pow_le_pow_right (by omega) hb.1
    have ec : (g 13 s).toNatClampNeg = x := by rw [e, nI_clamp (by omega)]
    exact ⟨by show (g 13 s).toNatClampNeg < 2 ^ T; rw [ec]; exact hx, by show g 13 s = nI (g 13 s).toNatClampNeg; rw [ec]; exact e, by show g 66 (34 + s) = nI (g 13 s).toNatClampNeg; rw [ec, e', e]⟩
section VW
variable {T Q S : Nat} {F K : Nat → Nat} {sh us : Nat} {g : Mem}
theorem View.p8 (h : View T Q S F K sh us g) : (2 : Nat) ^ T ≤ 256 := Nat.pow_le_pow_right (n := 2) (by omega) h.1.1
theorem v_answer6 (h : View T Q S F K sh us g) {i : Nat} (hi : i < Q) : fX2_answer 7 (nI i) g = some (lsI (F i), g) := by
  have h8 := h.p8
  obtain ⟨h1, -, -, -, h5, -⟩ := h
  unfold fX2_answer
  rw [al_nI (by omega) (by omega), (h5 i hi).2.1, least_e (Nat.lt_of_lt_of_le (h5 i hi).1 h8), cl_s]
theorem v_answer7 (h : View T Q S F K sh us g) {i : Nat} (hi : i < Q) {g' : Mem} (hg : g' 66 = g 66) : fX7_answerAt (nI i) g' = some (lsI (F i), g') := by
  have h8 := h.p8
  obtain ⟨h1, -, -, -, h5, -⟩ := h
  unfold fX7_answerAt
  rw [(h5 i hi).2.2 g' hg, cl_s, leastOf_e (Nat.lt_of_lt_of_le (h5 i hi).1 h8), cl_s]
theorem v_says6 (h : View T Q S F K sh us g) {s i : Nat} (hs : s < S) (hi : i < Q) : fX2_heSays 7 (nI s) (nI i) g = some (lsI (F i &&& K s), g) := by
  have h8 := h.p8
  obtain ⟨h1, -, -, -, h5, h6, -⟩ := h
  have : F i &&& K s ≤ F i := Nat.and_le_left
  have := (h5 i hi).1
  unfold fX2_heSays
  rw [al_nI (by omega) (by omega), al_nI (by omega) (by omega), (h5 i hi).2.1, (h6 s hs).2.1, fa_and, least_e (by omega), cl_s]
theorem v_says7 (h : View T Q S F K sh us g) {s i : Nat} (hs : s < S) (hi : i < Q) {g' : Mem} (hg : g' 66 = g 66) : fX7_saysAt (nI s) (nI i) g' = some (lsI (F i &&& K s), g') := by
  have h8 := h.p8
  obtain ⟨h1, -, -, -, h5, h6, -⟩ := h
  have : F i &&& K s ≤ F i := Nat.and_le_left
  have := (h5 i hi).1
  unfold fX7_saysAt
  rw [(h5 i hi).2.2 g' hg, cl_s, show (34 : Int32) = nI 34 from rfl, nI_add, al_nI (by omega) (by omega), hg, (h6 s hs).2.2, fa_and, leastOf_e (by omega), cl_s]
theorem v_she6 (h : View T Q S F K sh us g) {i : Nat} (hi : i < Q) : fX2_sheSays 7 (nI i) g = some (lsI (F i &&& sh), g) := by
  have h8 := h.p8
  obtain ⟨h1, -, -, -, h5, -, h7, -⟩ := h
  have : F i &&& sh ≤ F i := Nat.and_le_left
  have := (h5 i hi).1
  unfold fX2_sheSays
  rw [al_nI (by omega) (by omega), (h5 i hi).2.1, h7.2.1, fa_and, least_e (by omega), cl_s]
theorem v_she7 (h : View T Q S F K sh us g) {i : Nat} (hi : i < Q) {g' : Mem} (hg : g' 66 = g 66) : fX7_sheSaysAt (nI i) g' = some (lsI (F i &&& sh), g') := by
  have h8 := h.p8
  obtain ⟨h1, -, -, -, h5, -, h7, -⟩ := h
  have : F i &&& sh ≤ F i := Nat.and_le_left
  have := (h5 i hi).1
  unfold fX7_sheSaysAt
  rw [(h5 i hi).2.2 g' hg, cl_s, show (1 : Int32) = nI 1 from rfl, al_nI (by omega) (by omega), hg, h7.2.2, fa_and, leastOf_e (by omega), cl_s]
theorem v_used6 (h : View T Q S F K sh us g) {i : Nat} (hi : i < 31) : fX2_wasUsed 7 (nI i) g = some (if us.testBit i then 1 else 0, g) := by
  obtain ⟨-, -, -, -, -, -, -, h8⟩ := h
  unfold fX2_wasUsed
  rw [h8.2.1, bit_nI (by omega) (by omega)]
  by_cases hb : us.testBit i
  · simp [hb]
  · simp [hb]
theorem v_open7 (h : View T Q S F K sh us g) {i : Nat} (hi : i < 31) {g' : Mem} (hg : g' 66 = g 66) : fX7_isOpen (nI i) g' = some (if us.testBit i then 0 else 1, g') := by
  obtain ⟨-, -, -, -, -, -, -, h8⟩ := h
  unfold fX7_isOpen
  rw [show (6 : Int32) = nI 6 from rfl, al_nI (by omega) (by omega), hg, h8.2.2, has_e (by omega) (by omega), cl_s]
  by_cases hb : us.testBit i
  · simp [hb]
  · simp [hb]
theorem isR_f (h : View T Q S F K sh us g) {x : Int32} (hx : x < 0 ∨ nI Q ≤ x) {g' : Mem} (hg : g' 66 = g 66) : fX7_isRiddleAt x g' = some (0, g') := by
  obtain ⟨h1, -, h5, -⟩ := h
  unfold fX7_isRiddleAt
  rw [show (4 : Int32) = nI 4 from rfl, al_nI (by omega) (by omega), hg, h5.2, inC_f (by omega) hx, cl_s, rz_0]
theorem isR_t (h : View T Q S F K sh us g) {i : Nat} (hx : i < Q) {g' : Mem} (hg : g' 66 = g 66) : fX7_isRiddleAt (nI i) g' = some (1, g') := by
  obtain ⟨h1, -, h5, -⟩ := h
  unfold fX7_isRiddleAt
  rw [show (4 : Int32) = nI 4 from rfl, al_nI (by omega) (by omega), hg, h5.2, inC_t (by omega) hx, cl_s, rz_1]
theorem isS_f (h : View T Q S F K sh us g) {x : Int32} (hx : x < 0 ∨ nI S ≤ x) {g' : Mem} (hg : g' 66 = g 66) : fX7_isSuitorAt x g' = some (0, g') := by
  obtain ⟨h1, -, -, h5, -⟩ := h
  unfold fX7_isSuitorAt
  rw [show (5 : Int32) = nI 5 from rfl, al_nI (by omega) (by omega), hg, h5.2, inC_f (by omega) hx, cl_s, rz_0]
theorem isS_t (h : View T Q S F K sh us g) {i : Nat} (hx : i < S) {g' : Mem} (hg : g' 66 = g 66) : fX7_isSuitorAt (nI i) g' = some (1, g') := by
  obtain ⟨h1, -, -, h5, -⟩ := h
  unfold fX7_isSuitorAt
  rw [show (5 : Int32) = nI 5 from rfl, al_nI (by omega) (by omega), hg, h5.2, inC_t (by omega) hx, cl_s, rz_1]
theorem isT_f (h : View T Q S F K sh us g) {x : Int32} (hx : x < 0 ∨ nI T ≤ x) {g' : Mem} (hg : g' 66 = g 66) : fX7_isThingAt x g' = some (0, g') := by
  obtain ⟨h1, h5, -⟩ := h
  unfold fX7_isThingAt
  rw [show (3 : Int32) = nI 3 from rfl, al_nI (by omega) (by omega), hg, h5.2, inC_f (by omega) hx, cl_s, rz_0]
theorem isT_t (h : View T Q S F K sh us g) {i : Nat} (hx : i < T) {g' : Mem} (hg : g' 66 = g 66) : fX7_isThingAt (nI i) g' = some (1, g') := by
  obtain ⟨h1, h5, -⟩ := h
  unfold fX7_isThingAt
  rw [show (3 : Int32) = nI 3 from rfl, al_nI (by omega) (by omega), hg, h5.2, inC_t (by omega) hx, cl_s, rz_1]
end VW
