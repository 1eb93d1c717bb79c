theorem ne01 : ((0 : Int32) = 1) = False := by decide
theorem ne02 : ((0 : Int32) = 2) = False := by decide
theorem ne03 : ((0 : Int32) = 3) = False := by decide
theorem ne04 : ((0 : Int32) = 4) = False := by decide
theorem ne05 : ((0 : Int32) = 5) = False := by decide
theorem ne10 : ((1 : Int32) = 0) = False := by decide
theorem ne12 : ((1 : Int32) = 2) = False := by decide
theorem ne13 : ((1 : Int32) = 3) = False := by decide
theorem ne14 : ((1 : Int32) = 4) = False := by decide
theorem ne15 : ((1 : Int32) = 5) = False := by decide
theorem ne20 : ((2 : Int32) = 0) = False := by decide
theorem ne21 : ((2 : Int32) = 1) = False := by decide
theorem ne23 : ((2 : Int32) = 3) = False := by decide
theorem ne24 : ((2 : Int32) = 4) = False := by decide
theorem ne25 : ((2 : Int32) = 5) = False := by decide
theorem ne30 : ((3 : Int32) = 0) = False := by decide
theorem ne31 : ((3 : Int32) = 1) = False := by decide
theorem ne32 : ((3 : Int32) = 2) = False := by decide
theorem ne34 : ((3 : Int32) = 4) = False := by decide
theorem ne35 : ((3 : Int32) = 5) = False := by decide
theorem ne40 : ((4 : Int32) = 0) = False := by decide
theorem ne41 : ((4 : Int32) = 1) = False := by decide
theorem ne42 : ((4 : Int32) = 2) = False := by decide
theorem ne43 : ((4 : Int32) = 3) = False := by decide
theorem ne45 : ((4 : Int32) = 5) = False := by decide
theorem ne50 : ((5 : Int32) = 0) = False := by decide
theorem ne51 : ((5 : Int32) = 1) = False := by decide
theorem ne52 : ((5 : Int32) = 2) = False := by decide
theorem ne53 : ((5 : Int32) = 3) = False := by decide
theorem ne54 : ((5 : Int32) = 4) = False := by decide
theorem le4 : ((4 : Int32) ≤ 1) = False ∧ ((4 : Int32) ≤ 2) = False ∧ ((4 : Int32) ≤ 3) = False ∧ ((4 : Int32) ≤ 4) = True ∧ ((4 : Int32) ≤ 5) = True := by decide
def T6 (g : Mem) (q : Nat) (v : Int32) : Mem := up (up g 59 q v) 58 1 (nI (q + 1))
def T7 (g : Mem) (q : Nat) (v : Int32) : Mem := up (up g 71 q v) 61 19 (nI (q + 1))
theorem leave_e {g : Mem} {q : Nat} (h : g 58 1 = nI q) (hq : q < 16) (v : Int32) : fX1_leave v g = some (0, T6 g q v) := by
  unfold fX1_leave
  rw [h, show (16 : Int32) = nI 16 from rfl, if_neg (nI_ge hq (by omega)), as_nI hq (by omega), pf_e]
  have : (up g 59 q v) 58 1 = nI q := by simp [up_a, h]
  rw [this, nI_1]; rfl
theorem begins_e {g : Mem} {q : Nat} (h : g 61 19 = nI q) (hq : q < 16) (v : Int32) : fX7_begins v g = some (0, T7 g q v) := by
  unfold fX7_begins
  rw [h, show (16 : Int32) = nI 16 from rfl, if_neg (nI_ge hq (by omega)), as_nI hq (by omega), pf_e]
  have : (up g 71 q v) 61 19 = nI q := by simp [up_a, h]
  rw [this, nI_1]; rfl
theorem leave_0 (g : Mem) (v : Int32) : fX1_leave v (up g 58 1 0) = some (0, T6 (up g 58 1 0) 0 v) := leave_e (by simp [up_a, upd_a]; rfl) (by omega) v
theorem leave_T {g : Mem} {q : Nat} {u : Int32} (hq : q + 1 < 16) (v : Int32) : fX1_leave v (T6 g q u) = some (0, T6 (T6 g q u) (q + 1) v) := leave_e (by simp [T6, up_a, upd_a]) hq v
theorem begins_0 (g : Mem) (v : Int32) : fX7_begins v (up g 61 19 0) = some (0, T7 (up g 61 19 0) 0 v) := begins_e (by simp [up_a, upd_a]; rfl) (by omega) v
theorem begins_T {g : Mem} {q : Nat} {u : Int32} (hq : q + 1 < 16) (v : Int32) : fX7_begins v (T7 g q u) = some (0, T7 (T7 g q u) (q + 1) v) := begins_e (by simp [T7, up_a, upd_a]) hq v
theorem T6_ne {g : Mem} {q : Nat} {v : Int32} {k : Nat} (h1 : k ≠ 58) (h2 : k ≠ 59) : T6 g q v k = g k := by simp [T6, up_a, h1, h2]
theorem T7_ne {g : Mem} {q : Nat} {v : Int32} {k : Nat} (h1 : k ≠ 61) (h2 : k ≠ 71) : T7 g q v k = g k := by simp [T7, up_a, h1, h2]
def Tl6 : Mem → Nat → List Int32 → Mem
  | g, _, [] => g
  | g, q, b :: t => Tl6 (T6 g q b) (q + 1) t
def Tl7 : Mem → Nat → List Int32 → Mem
  | g, _, [] => g
  | g, q, b :: t => Tl7 (T7 g q b) (q + 1) t
theorem Tl6_ok (l : List Int32) : ∀ (g : Mem) (q : Nat), g 58 1 = nI q → (Tl6 g q l) 58 1 = nI (q + l.length) ∧ (∀ k, k ≠ 58 → k ≠ 59 → Tl6 g q l k = g k) ∧ ∀ j, (Tl6 g q l) 59 j = if q ≤ j ∧ j < q + l.length then l.getD (j - q) 0 else g 59 j := by
  induction l with
  | nil => intro g q h; exact ⟨h, fun _ _ _ => rfl, fun j => by rw [if_neg (by simp)]; rfl⟩
  | cons b t ih =>
    intro g q h
    obtain ⟨h1, h2, h3⟩ := ih (T6 g q b) (q + 1) (by simp [T6, up_a, upd_a])
    refine ⟨?_, fun k a1 a2 => ?_, fun j => ?_⟩
    · show (Tl6 (T6 g q b) (q + 1) t) 58 1 = _
      rw [h1, List.length_cons]; congr 1; omega
    · show Tl6 (T6 g q b) (q + 1) t k = _
      rw [h2 k a1 a2, T6_ne a1 a2]
    · show (Tl6 (T6 g q b) (q + 1) t) 59 j = _
      rw [h3 j, List.length_cons]
      have e59 : (T6 g q b) 59 j = if j = q then b else g 59 j := by simp [T6, up_a, upd_a]
      by_cases hj : j = q
      · subst hj
        rw [if_neg (by omega), e59, if_pos rfl, if_pos (by omega)]; simp
      · by_cases hc : q + 1 ≤ j ∧ j < q + 1 + t.length
        · rw [if_pos hc, if_pos (by omega), show j - q = (j - (q + 1)) + 1 by omega, List.getD_cons_succ]
        · rw [if_neg hc, if_neg (by omega), e59, if_neg hj]
theorem Tl7_ok (l : List Int32) : ∀ (g : Mem) (q : Nat), g 61 19 = nI q → (Tl7 g q l) 61 19 = nI (q + l.length) ∧ (∀ k, k ≠ 61 → k ≠ 71 → Tl7 g q l k = g k) ∧ (∀ j, j ≠ 19 → (Tl7 g q l) 61 j = g 61 j) ∧ ∀ j, (Tl7 g q l) 71 j = if q ≤ j ∧ j < q + l.length then l.getD (j - q) 0 else g 71 j := by
  induction l with
  | nil => intro g q h; exact ⟨h, fun _ _ _ => rfl, fun _ _ => rfl, fun j => by rw [if_neg (by simp)]; rfl⟩
  | cons b t ih =>
    intro g q h
    obtain ⟨h1, h2, h4, h3⟩ := ih (T7 g q b) (q + 1) (by simp [T7, up_a, upd_a])
    refine ⟨?_, fun k a1 a2 => ?_, fun j hj => ?_, fun j => ?_⟩
    · show (Tl7 (T7 g q b) (q + 1) t) 61 19 = _
      rw [h1, List.length_cons]; congr 1; omega
    · show Tl7 (T7 g q b) (q + 1) t k = _
      rw [h2 k a1 a2, T7_ne a1 a2]
    · show (Tl7 (T7 g q b) (q + 1) t) 61 j = _
      rw [h4 j hj]; simp [T7, up_a, upd_a, hj]
    · show (Tl7 (T7 g q b) (q + 1) t) 71 j = _
      rw [h3 j, List.length_cons]
      have e59 : (T7 g q b) 71 j = if j = q then b else g 71 j := by simp [T7, up_a, upd_a]
      by_cases hj : j = q
      · subst hj
        rw [if_neg (by omega), e59, if_pos rfl, if_pos (by omega)]; simp
      · by_cases hc : q + 1 ≤ j ∧ j < q + 1 + t.length
        · rw [if_pos hc, if_pos (by omega), show j - q = (j - (q + 1)) + 1 by omega, List.getD_cons_succ]
        · rw [if_neg hc, if_neg (by omega), e59, if_neg hj]
theorem Inv_ask {g : Mem} (h : Inv g) (l : List Int32) (hl : l.length ≤ 16) : Inv (Tl7 (up (Tl6 (up g 58 1 0) 0 l) 61 19 0) 0 l) := by
  obtain ⟨a1, a2, a3⟩ := Tl6_ok l (up g 58 1 0) 0 (by simp [up_a, upd_a]; rfl)
  obtain ⟨b1, b2, b4, b3⟩ := Tl7_ok l (up (Tl6 (up g 58 1 0) 0 l) 61 19 0) 0 (by simp [up_a, upd_a]; rfl)
  generalize hG : Tl7 (up (Tl6 (up g 58 1 0) 0 l) 61 19 0) 0 l = G at *
  have e : ∀ k, k ≠ 58 → k ≠ 59 → k ≠ 61 → k ≠ 71 → G k = g k := by
    intro k k1 k2 k3 k4
    rw [b2 k k3 k4]
    simp only [up_a, if_neg k3]
    rw [a2 k k1 k2]
    simp [up_a, k1]
  have e61 : ∀ j, j ≠ 19 → G 61 j = g 61 j := by
    intro j hj
    rw [b4 j hj]
    simp only [up_a, if_true, upd_a, if_neg hj]
    rw [a2 61 (by omega) (by omega)]
    simp [up_a]
  have e58 : G 58 1 = nI l.length := by
    rw [b2 58 (by omega) (by omega)]
    simp only [up_a]
    rw [if_neg (by omega), a1, Nat.zero_add]
  have e59 : ∀ j, G 59 j = if 0 ≤ j ∧ j < 0 + l.length then l.getD (j - 0) 0 else g 59 j := by
    intro j
    rw [b2 59 (by omega) (by omega)]
    simp only [up_a]
    rw [if_neg (by omega), a3 j]
    simp [up_a]
  obtain ⟨h1, h2, h3, h4, h5, h6, h7, h8⟩ := h
  refine ⟨?_, ?_, ?_, ?_, ?_, ?_, ?_, l.length, hl, e58, by rw [b1, Nat.zero_add], fun j hj => ?_⟩
  · rw [e 2 (by omega) (by omega) (by omega) (by omega), e 3 (by omega) (by omega) (by omega) (by omega), e 4 (by omega) (by omega) (by omega) (by omega), e 62 (by omega) (by omega) (by omega) (by omega), e 63 (by omega) (by omega) (by omega) (by omega), e 64 (by omega) (by omega) (by omega) (by omega)]; exact h1
  · rw [e 5 (by omega) (by omega) (by omega) (by omega), e 6 (by omega) (by omega) (by omega) (by omega), e 65 (by omega) (by omega) (by omega) (by omega), e61 4 (by omega)]; exact h2
  · rw [e 0 (by omega) (by omega) (by omega) (by omega), e61 3 (by omega), e61 10 (by omega)]; exact h3
  · rw [e 7 (by omega) (by omega) (by omega) (by omega), e 8 (by omega) (by omega) (by omega) (by omega), e 9 (by omega) (by omega) (by omega) (by omega), e 10 (by omega) (by omega) (by omega) (by omega), e 11 (by omega) (by omega) (by omega) (by omega), e 12 (by omega) (by omega) (by omega) (by omega), e 13 (by omega) (by omega) (by omega) (by omega), e 14 (by omega) (by omega) (by omega) (by omega), e 15 (by omega) (by omega) (by omega) (by omega), e 16 (by omega) (by omega) (by omega) (by omega), e 66 (by omega) (by omega) (by omega) (by omega)]; exact h4
  · rw [e 28 (by omega) (by omega) (by omega) (by omega), e 29 (by omega) (by omega) (by omega) (by omega), e 30 (by omega) (by omega) (by omega) (by omega), e 31 (by omega) (by omega) (by omega) (by omega), e 32 (by omega) (by omega) (by omega) (by omega), e 33 (by omega) (by omega) (by omega) (by omega), e 34 (by omega) (by omega) (by omega) (by omega), e 35 (by omega) (by omega) (by omega) (by omega), e 36 (by omega) (by omega) (by omega) (by omega), e 37 (by omega) (by omega) (by omega) (by omega), e 68 (by omega) (by omega) (by omega) (by omega), e 69 (by omega) (by omega) (by omega) (by omega)]; exact h5
  · rw [e 38 (by omega) (by omega) (by omega) (by omega), e 39 (by omega) (by omega) (by omega) (by omega), e 40 (by omega) (by omega) (by omega) (by omega), e 41 (by omega) (by omega) (by omega) (by omega), e 42 (by omega) (by omega) (by omega) (by omega), e 43 (by omega) (by omega) (by omega) (by omega), e 44 (by omega) (by omega) (by omega) (by omega), e 45 (by omega) (by omega) (by omega) (by omega), e 46 (by omega) (by omega) (by omega) (by omega), e 47 (by omega) (by omega) (by omega) (by omega), e 68 (by omega) (by omega) (by omega) (by omega), e 69 (by omega) (by omega) (by omega) (by omega)]; exact h6
  · rw [e 48 (by omega) (by omega) (by omega) (by omega), e 49 (by omega) (by omega) (by omega) (by omega), e 50 (by omega) (by omega) (by omega) (by omega), e 51 (by omega) (by omega) (by omega) (by omega), e 52 (by omega) (by omega) (by omega) (by omega), e 53 (by omega) (by omega) (by omega) (by omega), e 54 (by omega) (by omega) (by omega) (by omega), e 66 (by omega) (by omega) (by omega) (by omega), e 70 (by omega) (by omega) (by omega) (by omega), e61 17 (by omega)]; exact h7
  · rw [b3 j, e59 j]
    rw [if_pos (by omega), if_pos (by omega)]
theorem ask6_10 {g : Mem} {i f : Nat} {y : Int32} (hi : i < 6) (hf : f < 256) (h9 : g 9 i = 1) (h10 : g 10 i = y) (h12 : g 12 i = nI f) : fX1_begin (nI i) 0 g = some (nI (pcn f) + (nI i + y), Tl6 (up g 58 1 0) 0 [11, 10, 21, 20]) := by
  simp (disch := omega) only [fX1_begin, fX1_sizeOfPlain, fX1_sizeOfLying, fX1_markOfPlain, fX1_markOfLying, fX1_sizeOfAll, fX1_markOfAll, fX2_isOfKind, pf_e, cl_s, lt_e, al_nI, leave_0, leave_T, T6_ne, up_a, if_true, if_false, h9, h10, h12, bc_e hf, Tl6, ne01, ne02, ne03, ne04, ne05, ne10, ne12, ne13, ne14, ne15, ne20, ne21, ne23, ne24, ne25, ne30, ne31, ne32, ne34, ne35, ne40, ne41, ne42, ne43, ne45, ne50, ne51, ne52, ne53, ne54, ite_false, ite_true, reduceIte, Nat.reduceEqDiff, Nat.reduceAdd, Nat.reduceMod, ne_eq, not_false_eq_true]
theorem ask6_20 {g : Mem} {i f : Nat} {y : Int32} (hi : i < 6) (hf : f < 256) (h9 : g 9 i = 2) (h10 : g 10 i = y) (h12 : g 12 i = nI f) : fX1_begin (nI i) 0 g = some (-(nI (pcn f) + 2 * (nI i + y)), Tl6 (up g 58 1 0) 0 [12, 11, 10, 24, 21, 20]) := by
  simp (disch := omega) only [fX1_begin, fX1_sizeOfPlain, fX1_sizeOfLying, fX1_markOfPlain, fX1_markOfLying, fX1_sizeOfAll, fX1_markOfAll, fX2_isOfKind, pf_e, cl_s, lt_e, al_nI, leave_0, leave_T, T6_ne, up_a, if_true, if_false, h9, h10, h12, bc_e hf, Tl6, ne01, ne02, ne03, ne04, ne05, ne10, ne12, ne13, ne14, ne15, ne20, ne21, ne23, ne24, ne25, ne30, ne31, ne32, ne34, ne35, ne40, ne41, ne42, ne43, ne45, ne50, ne51, ne52, ne53, ne54, ite_false, ite_true, reduceIte, Nat.reduceEqDiff, Nat.reduceAdd, Nat.reduceMod, ne_eq, not_false_eq_true]
theorem ask6_30 {g : Mem} {i f : Nat} {y : Int32} (hi : i < 6) (hf : f < 256) (h9 : g 9 i = 3) (h10 : g 10 i = y) (h12 : g 12 i = nI f) : fX1_begin (nI i) 0 g = some (nI (pcn f) + (nI i + y - 1000), Tl6 (up g 58 1 0) 0 [11, 10, 22, 21, 20]) := by
  simp (disch := omega) only [fX1_begin, fX1_sizeOfPlain, fX1_sizeOfLying, fX1_markOfPlain, fX1_markOfLying, fX1_sizeOfAll, fX1_markOfAll, fX2_isOfKind, pf_e, cl_s, lt_e, al_nI, leave_0, leave_T, T6_ne, up_a, if_true, if_false, h9, h10, h12, bc_e hf, Tl6, ne01, ne02, ne03, ne04, ne05, ne10, ne12, ne13, ne14, ne15, ne20, ne21, ne23, ne24, ne25, ne30, ne31, ne32, ne34, ne35, ne40, ne41, ne42, ne43, ne45, ne50, ne51, ne52, ne53, ne54, ite_false, ite_true, reduceIte, Nat.reduceEqDiff, Nat.reduceAdd, Nat.reduceMod, ne_eq, not_false_eq_true]
theorem ask6_40 {g : Mem} {i f : Nat} {y : Int32} (hi : i < 6) (hf : f < 256) (h9 : g 9 i = 4) (h10 : g 10 i = y) (h12 : g 12 i = nI f) : fX1_begin (nI i) 0 g = some (nI (pcn f) - 100, Tl6 (up g 58 1 0) 0 [13, 10]) := by
  simp (disch := omega) only [fX1_begin, fX1_sizeOfPlain, fX1_sizeOfLying, fX1_markOfPlain, fX1_markOfLying, fX1_sizeOfAll, fX1_markOfAll, fX2_isOfKind, pf_e, cl_s, lt_e, al_nI, leave_0, leave_T, T6_ne, up_a, if_true, if_false, h9, h10, h12, bc_e hf, Tl6, ne01, ne02, ne03, ne04, ne05, ne10, ne12, ne13, ne14, ne15, ne20, ne21, ne23, ne24, ne25, ne30, ne31, ne32, ne34, ne35, ne40, ne41, ne42, ne43, ne45, ne50, ne51, ne52, ne53, ne54, ite_false, ite_true, reduceIte, Nat.reduceEqDiff, Nat.reduceAdd, Nat.reduceMod, ne_eq, not_false_eq_true]
theorem ask6_50 {g : Mem} {i f : Nat} {y : Int32} (hi : i < 6) (hf : f < 256) (h9 : g 9 i = 5) (h10 : g 10 i = y) (h12 : g 12 i = nI f) : fX1_begin (nI i) 0 g = some (2 * (nI (pcn f) - 100), Tl6 (up g 58 1 0) 0 [14, 13, 10]) := by
  simp (disch := omega) only [fX1_begin, fX1_sizeOfPlain, fX1_sizeOfLying, fX1_markOfPlain, fX1_markOfLying, fX1_sizeOfAll, fX1_markOfAll, fX2_isOfKind, pf_e, cl_s, lt_e, al_nI, leave_0, leave_T, T6_ne, up_a, if_true, if_false, h9, h10, h12, bc_e hf, Tl6, ne01, ne02, ne03, ne04, ne05, ne10, ne12, ne13, ne14, ne15, ne20, ne21, ne23, ne24, ne25, ne30, ne31, ne32, ne34, ne35, ne40, ne41, ne42, ne43, ne45, ne50, ne51, ne52, ne53, ne54, ite_false, ite_true, reduceIte, Nat.reduceEqDiff, Nat.reduceAdd, Nat.reduceMod, ne_eq, not_false_eq_true]
theorem ask6_11 {g : Mem} {i f : Nat} {y : Int32} (hi : i < 6) (hf : f < 256) (h9 : g 9 i = 1) (h10 : g 10 i = y) (h12 : g 12 i = nI f) : fX1_begin (nI i) 1 g = some (nI i + y, Tl6 (up g 58 1 0) 0 [21, 20]) := by
  simp (disch := omega) only [fX1_begin, fX1_sizeOfPlain, fX1_sizeOfLying, fX1_markOfPlain, fX1_markOfLying, fX1_sizeOfAll, fX1_markOfAll, fX2_isOfKind, pf_e, cl_s, lt_e, al_nI, leave_0, leave_T, T6_ne, up_a, if_true, if_false, h9, h10, h12, bc_e hf, Tl6, ne01, ne02, ne03, ne04, ne05, ne10, ne12, ne13, ne14, ne15, ne20, ne21, ne23, ne24, ne25, ne30, ne31, ne32, ne34, ne35, ne40, ne41, ne42, ne43, ne45, ne50, ne51, ne52, ne53, ne54, ite_false, ite_true, reduceIte, Nat.reduceEqDiff, Nat.reduceAdd, Nat.reduceMod, ne_eq, not_false_eq_true]
theorem ask6_21 {g : Mem} {i f : Nat} {y : Int32} (hi : i < 6) (hf : f < 256) (h9 : g 9 i = 2) (h10 : g 10 i = y) (h12 : g 12 i = nI f) : fX1_begin (nI i) 1 g = some (2 * (nI i + y), Tl6 (up g 58 1 0) 0 [24, 21, 20]) := by
  simp (disch := omega) only [fX1_begin, fX1_sizeOfPlain, fX1_sizeOfLying, fX1_markOfPlain, fX1_markOfLying, fX1_sizeOfAll, fX1_markOfAll, fX2_isOfKind, pf_e, cl_s, lt_e, al_nI, leave_0, leave_T, T6_ne, up_a, if_true, if_false, h9, h10, h12, bc_e hf, Tl6, ne01, ne02, ne03, ne04, ne05, ne10, ne12, ne13, ne14, ne15, ne20, ne21, ne23, ne24, ne25, ne30, ne31, ne32, ne34, ne35, ne40, ne41, ne42, ne43, ne45, ne50, ne51, ne52, ne53, ne54, ite_false, ite_true, reduceIte, Nat.reduceEqDiff, Nat.reduceAdd, Nat.reduceMod, ne_eq, not_false_eq_true]
theorem ask6_31 {g : Mem} {i f : Nat} {y : Int32} (hi : i < 6) (hf : f < 256) (h9 : g 9 i = 3) (h10 : g 10 i = y) (h12 : g 12 i = nI f) : fX1_begin (nI i) 1 g = some (nI i + y - 1000, Tl6 (up g 58 1 0) 0 [22, 21, 20]) := by
  simp (disch := omega) only [fX1_begin, fX1_sizeOfPlain, fX1_sizeOfLying, fX1_markOfPlain, fX1_markOfLying, fX1_sizeOfAll, fX1_markOfAll, fX2_isOfKind, pf_e, cl_s, lt_e, al_nI, leave_0, leave_T, T6_ne, up_a, if_true, if_false, h9, h10, h12, bc_e hf, Tl6, ne01, ne02, ne03, ne04, ne05, ne10, ne12, ne13, ne14, ne15, ne20, ne21, ne23, ne24, ne25, ne30, ne31, ne32, ne34, ne35, ne40, ne41, ne42, ne43, ne45, ne50, ne51, ne52, ne53, ne54, ite_false, ite_true, reduceIte, Nat.reduceEqDiff, Nat.reduceAdd, Nat.reduceMod, ne_eq, not_false_eq_true]
theorem ask6_41 {g : Mem} {i f : Nat} {y : Int32} (hi : i < 6) (hf : f < 256) (h9 : g 9 i = 4) (h10 : g 10 i = y) (h12 : g 12 i = nI f) : fX1_begin (nI i) 1 g = some (nI i - (nI (pcn f) - 100), Tl6 (up g 58 1 0) 0 [23, 20, 13, 10]) := by
  simp (disch := omega) only [fX1_begin, fX1_sizeOfPlain, fX1_sizeOfLying, fX1_markOfPlain, fX1_markOfLying, fX1_sizeOfAll, fX1_markOfAll, fX2_isOfKind, pf_e, cl_s, lt_e, al_nI, leave_0, leave_T, T6_ne, up_a, if_true, if_false, h9, h10, h12, bc_e hf, Tl6, ne01, ne02, ne03, ne04, ne05, ne10, ne12, ne13, ne14, ne15, ne20, ne21, ne23, ne24, ne25, ne30, ne31, ne32, ne34, ne35, ne40, ne41, ne42, ne43, ne45, ne50, ne51, ne52, ne53, ne54, ite_false, ite_true, reduceIte, Nat.reduceEqDiff, Nat.reduceAdd, Nat.reduceMod, ne_eq, not_false_eq_true]
theorem ask6_51 {g : Mem} {i f : Nat} {y : Int32} (hi : i < 6) (hf : f < 256) (h9 : g 9 i = 5) (h10 : g 10 i = y) (h12 : g 12 i = nI f) : fX1_begin (nI i) 1 g = some (nI i - 2 * (nI (pcn f) - 100), Tl6 (up g 58 1 0) 0 [23, 20, 14, 13, 10]) := by
  simp (disch := omega) only [fX1_begin, fX1_sizeOfPlain, fX1_sizeOfLying, fX1_markOfPlain, fX1_markOfLying, fX1_sizeOfAll, fX1_markOfAll, fX2_isOfKind, pf_e, cl_s, lt_e, al_nI, leave_0, leave_T, T6_ne, up_a, if_true, if_false, h9, h10, h12, bc_e hf, Tl6, ne01, ne02, ne03, ne04, ne05, ne10, ne12, ne13, ne14, ne15, ne20, ne21, ne23, ne24, ne25, ne30, ne31, ne32, ne34, ne35, ne40, ne41, ne42, ne43, ne45, ne50, ne51, ne52, ne53, ne54, ite_false, ite_true, reduceIte, Nat.reduceEqDiff, Nat.reduceAdd, Nat.reduceMod, ne_eq, not_false_eq_true]
theorem Tl7_app (l m : List Int32) : ∀ (g : Mem) (q : Nat), Tl7 (Tl7 g q l) (q + l.length) m = Tl7 g q (l ++ m) := by
  induction l with
  | nil => intro g q; rfl
  | cons b t ih => intro g q; show Tl7 (Tl7 (T7 g q b) (q + 1) t) (q + (t.length + 1)) m = Tl7 (T7 g q b) (q + 1) (t ++ m); rw [← ih, show q + (t.length + 1) = q + 1 + t.length by omega]
section A7
variable {g g' : Mem} {i f q : Nat} {y sk : Int32}
theorem beg7 (h : g' 61 19 = nI q) (hq : q < 16) (v : Int32) : fX7_begins v g' = some (0, Tl7 g' q [v]) := begins_e h hq v
theorem k19 (l : List Int32) (h : g' 61 19 = nI q) : (Tl7 g' q l) 61 19 = nI (q + l.length) := (Tl7_ok l g' q h).1
theorem k66 (l : List Int32) (h : g' 61 19 = nI q) (h6 : g' 66 = g 66) : (Tl7 g' q l) 66 = g 66 := ((Tl7_ok l g' q h).2.1 66 (by omega) (by omega)).trans h6
theorem kind7 (hi : i < 6) (h16 : g 66 (16 + i) = sk) (h6 : g' 66 = g 66) : fX7_kindAt (nI i) g' = some (sk, g') := by
  unfold fX7_kindAt
  rw [show (16 : Int32) = nI 16 from rfl, nI_add, lit66 g' (16 + i) (by omega), h6, h16]
theorem plain7 (hi : i < 6) (h22 : g 66 (22 + i) = y) (h : g' 61 19 = nI q) (h6 : g' 66 = g 66) (hq : q + 2 ≤ 16) : fX7_markPlain (nI i) g' = some (nI i + y, Tl7 g' q [21, 20]) := by
  unfold fX7_markPlain
  rw [beg7 h (by omega), cl_s, beg7 (k19 [21] h) (by simp; omega), cl_s, show (22 : Int32) = nI 22 from rfl, nI_add, lit66 _ (22 + i) (by omega), Tl7_app, k66 _ h h6, h22]
  rfl
theorem lying7 (hf : f < 256) (hF : ∀ g' : Mem, g' 66 = g 66 → fX7_fittersAt (nI i) g' = some (nI f, g')) (h : g' 61 19 = nI q) (h6 : g' 66 = g 66) (hq : q + 2 ≤ 16) : fX7_sizeLying (nI i) g' = some (nI (pcn f) - 100, Tl7 g' q [13, 10]) := by
  unfold fX7_sizeLying
  rw [beg7 h (by omega), cl_s, beg7 (k19 [13] h) (by simp; omega), cl_s, Tl7_app, hF _ (k66 _ h h6), cl_s, bits_e hf, cl_s]
  rfl
def mkL (sk : Int32) : List Int32 := if sk = 2 then [24, 21, 20] else if sk = 3 then [22, 21, 20] else [21, 20]
def mkV (sk v : Int32) : Int32 := if sk = 2 then 2 * v else if sk = 3 then v - 1000 else v
theorem mark7 (hi : i < 6) (h16 : g 66 (16 + i) = sk) (h22 : g 66 (22 + i) = y) (h : g' 61 19 = nI q) (h6 : g' 66 = g 66) (hq : q + 3 ≤ 16) : fX7_markByKind (nI i) g' = some (mkV sk (nI i + y), Tl7 g' q (mkL sk)) := by
  unfold fX7_markByKind mkL mkV
  rw [kind7 hi h16 h6, cl_s]
  by_cases h2 : sk = 2
  · rw [if_pos h2, if_pos h2, if_pos h2, beg7 h (by omega), cl_s, plain7 (q := q + 1) hi h22 (k19 [24] h) (k66 _ h h6) (by omega), cl_s, show q + 1 = q + [(24 : Int32)].length from rfl, Tl7_app]; rfl
  · rw [if_neg h2, if_neg h2, if_neg h2]
    by_cases h3 : sk = 3
    · rw [if_pos h3, if_pos h3, if_pos h3, beg7 h (by omega), cl_s, plain7 (q := q + 1) hi h22 (k19 [22] h) (k66 _ h h6) (by omega), cl_s, show q + 1 = q + [(22 : Int32)].length from rfl, Tl7_app]; rfl
    · rw [if_neg h3, if_neg h3, if_neg h3, plain7 hi h22 h h6 (by omega), cl_s]
def szL (sk : Int32) : List Int32 := if sk = 5 then [14, 13, 10] else if sk = 4 then [13, 10] else if sk = 2 then [12, 11, 10] ++ mkL sk else [11, 10] ++ mkL sk
def szV (sk p v : Int32) : Int32 := if sk = 5 then 2 * (p - 100) else if sk = 4 then p - 100 else if sk = 2 then -(p + mkV sk v) else p + mkV sk v
theorem size7 (hi : i < 6) (h16 : g 66 (16 + i) = sk) (h22 : g 66 (22 + i) = y) (hf : f < 256) (hF : ∀ g' : Mem, g' 66 = g 66 → fX7_fittersAt (nI i) g' = some (nI f, g')) (h : g' 61 19 = nI q) (h6 : g' 66 = g 66) (hq : q + 6 ≤ 16) : fX7_sizeOf (nI i) g' = some (szV sk (nI (pcn f)) (nI i + y), Tl7 g' q (szL sk)) := by
  unfold fX7_sizeOf szL szV
  rw [kind7 hi h16 h6, cl_s]
  by_cases h5 : sk = 5
  · rw [if_pos h5, if_pos h5, if_pos h5, beg7 h (by omega), cl_s, lying7 (q := q + 1) hf hF (k19 [14] h) (k66 _ h h6) (by omega), cl_s, show q + 1 = q + [(14 : Int32)].length from rfl, Tl7_app]; rfl
  · rw [if_neg h5, if_neg h5, if_neg h5]
    by_cases h4 : sk = 4
    · rw [if_pos h4, if_pos h4, if_pos h4, lying7 hf hF h h6 (by omega), cl_s]
    · rw [if_neg h4, if_neg h4, if_neg h4]
      by_cases h2 : sk = 2
      · simp only [if_pos h2]
        rw [beg7 h (by omega), cl_s, beg7 (k19 [12] h) (by simp; omega), cl_s, Tl7_app, beg7 (k19 ([12] ++ [11]) h) (by simp; omega), cl_s, Tl7_app, hF _ (k66 _ h h6), cl_s, bits_e hf, cl_s, mark7 (q := q + 3) hi h16 h22 (k19 (([12] ++ [11]) ++ [10]) h) (k66 _ h h6) (by omega), cl_s, lt_e, show q + 3 = q + (([(12 : Int32)] ++ [11]) ++ [10]).length from rfl, Tl7_app]
        rfl
      · simp only [if_neg h2]
        rw [beg7 h (by omega), cl_s, beg7 (k19 [11] h) (by simp; omega), cl_s, Tl7_app, hF _ (k66 _ h h6), cl_s, bits_e hf, cl_s, mark7 (q := q + 2) hi h16 h22 (k19 ([11] ++ [10]) h) (k66 _ h h6) (by omega), cl_s, lt_e, show q + 2 = q + ([(11 : Int32)] ++ [10]).length from rfl, Tl7_app]
        rfl
theorem markOf7 (hi : i < 6) (h16 : g 66 (16 + i) = sk) (h22 : g 66 (22 + i) = y) (hf : f < 256) (hF : ∀ g' : Mem, g' 66 = g 66 → fX7_fittersAt (nI i) g' = some (nI f, g')) (h : g' 61 19 = nI q) (h6 : g' 66 = g 66) (hq : q + 8 ≤ 16) : fX7_markOf (nI i) g' = some (if 4 ≤ sk then nI i - szV sk (nI (pcn f)) (nI i + y) else mkV sk (nI i + y), Tl7 g' q (if 4 ≤ sk then [23, 20] ++ szL sk else mkL sk)) := by
  unfold fX7_markOf
  rw [kind7 hi h16 h6, cl_s]
  by_cases h4 : 4 ≤ sk
  · rw [if_pos h4, if_pos h4, if_pos h4, beg7 h (by omega), cl_s, beg7 (k19 [23] h) (by simp; omega), cl_s, Tl7_app, size7 (q := q + 2) hi h16 h22 hf hF (k19 ([23] ++ [20]) h) (k66 _ h h6) (by omega), cl_s, show q + 2 = q + ([(23 : Int32)] ++ [20]).length from rfl, Tl7_app]; rfl
  · rw [if_neg h4, if_neg h4, if_neg h4, mark7 hi h16 h22 h h6 (by omega), cl_s]
end A7
theorem E_ask {g : Mem} (h : Inv g) (x y : Int32) : Both g (fun g => fX6_ask x y g) (fun g => fX7_ask x y g) := by
  obtain ⟨T, Q, S, tr, F, K, sh, us, C, V⟩ := Inv_cv h
  have hb := V.1
  have h8 := V.p8
  have bad : (x < 0 ∨ nI Q ≤ x) → Both g (fun g => fX6_ask x y g) (fun g => fX7_ask x y g) := fun hx => by
    refine ⟨-1000001, g, g, ?_, ?_, h⟩
    · simp only [fX6_ask]
      rw [V.2.2.1.1, below_f hx, cl_s, if_pos rfl]
    · simp only [fX7_ask]
      rw [isR_f V hx rfl, cl_s, if_pos rfl]
  rcases pk_ix x (n := Q) (by omega) with hx | hx | ⟨i, hi, rfl⟩
  · exact bad (Or.inl hx)
  · exact bad (Or.inr hx)
  have bad : (y < 0 ∨ nI 2 ≤ y) → Both g (fun g => fX6_ask (nI i) y g) (fun g => fX7_ask (nI i) y g) := fun hx => by
    refine ⟨-1000001, g, g, ?_, ?_, h⟩
    · simp only [fX6_ask]
      rw [V.2.2.1.1, below_t hi (by omega), cl_s, if_neg (by decide), show (2 : Int32) = nI 2 from rfl, below_f hx, cl_s, if_pos rfl]
    · simp only [fX7_ask]
      rw [isR_t V hi rfl, cl_s, if_neg (by decide), show (1 : Int32) = nI 1 from rfl, inN_f (by omega) hx, cl_s, if_pos rfl]
  rcases pk_ix y (n := 2) (by omega) with hx | hx | ⟨w, hw, rfl⟩
  · exact bad (Or.inl hx)
  · exact bad (Or.inr hx)
  obtain ⟨-, -, -, -, -, -, -, -, -, -, hr, -⟩ := C
  obtain ⟨sk, yy, nn, ⟨s1, s5, -⟩, b1, b2, b3, b4, -⟩ := hr i hi
  obtain ⟨f1, f2, f3⟩ := V.2.2.2.2.1 i hi
  have hf : F i < 256 := by omega
  have e6 : fX6_ask (nI i) (nI w) g = cl (fX1_begin (nI i) (nI w) g) fun r5 g6 => some (r5, g6) := by
    simp only [fX6_ask]
    rw [V.2.2.1.1, below_t hi (by omega), cl_s, if_neg (by decide), show (2 : Int32) = nI 2 from rfl, below_t hw (by omega), cl_s, if_neg (by decide)]
  have e7 : ∀ g1 : Mem, g1 66 = g 66 → fX7_ask (nI i) (nI w) g1 = (if nI w = 0 then (cl (fX7_sizeOf (nI i) (up g1 61 19 0)) fun r6 g7 => (some (r6, g7))) else (cl (fX7_markOf (nI i) (up g1 61 19 0)) fun r8 g9 => (some (r8, g9)))) := by
    intro g1 hg
    simp only [fX7_ask]
    rw [isR_t V hi hg, cl_s, if_neg (by decide), show (1 : Int32) = nI 1 from rfl, inN_t (by omega) (by omega), cl_s, if_neg (by decide), pf_e]
  have fin : ∀ (l : List Int32) (r : Int32), l.length ≤ 16 → fX1_begin (nI i) (nI w) g = some (r, Tl6 (up g 58 1 0) 0 l) → (∀ g1 : Mem, g1 66 = g 66 → (if nI w = 0 then (cl (fX7_sizeOf (nI i) (up g1 61 19 0)) fun r6 g7 => (some (r6, g7))) else (cl (fX7_markOf (nI i) (up g1 61 19 0)) fun r8 g9 => (some (r8, g9)))) = some (r, Tl7 (up g1 61 19 0) 0 l)) → Both g (fun g => fX6_ask (nI i) (nI w) g) (fun g => fX7_ask (nI i) (nI w) g) := by
    intro l r hl h1 h2
    have a66 : (Tl6 (up g 58 1 0) 0 l) 66 = g 66 := ((Tl6_ok l (up g 58 1 0) 0 (by simp [up_a, upd_a]; rfl)).2.1 66 (by omega) (by omega)).trans (by simp [up_a])
    refine ⟨r, Tl6 (up g 58 1 0) 0 l, _, ?_, ?_, Inv_ask h l hl⟩
    · show fX6_ask (nI i) (nI w) g = _
      rw [e6, h1, cl_s]
    · show fX7_ask (nI i) (nI w) _ = _
      rw [e7 _ a66, h2 _ a66]
  have q0 : ∀ g1 : Mem, (up g1 61 19 0) 61 19 = nI 0 := fun g1 => by simp [up_a, upd_a]; rfl
  have q66 : ∀ g1 : Mem, g1 66 = g 66 → (up g1 61 19 0) 66 = g 66 := fun g1 hg => by simp [up_a]; exact hg
  have S7 : ∀ g1 : Mem, g1 66 = g 66 → (cl (fX7_sizeOf (nI i) (up g1 61 19 0)) fun r6 g7 => (some (r6, g7))) = some (szV (nI sk) (nI (pcn (F i))) (nI i + nI yy), Tl7 (up g1 61 19 0) 0 (szL (nI sk))) := fun g1 hg => by rw [size7 (by omega) b2 b4 hf f3 (q0 g1) (q66 g1 hg) (by omega), cl_s]
  have M7 : ∀ g1 : Mem, g1 66 = g 66 → (cl (fX7_markOf (nI i) (up g1 61 19 0)) fun r8 g9 => (some (r8, g9))) = some (if 4 ≤ nI sk then nI i - szV (nI sk) (nI (pcn (F i))) (nI i + nI yy) else mkV (nI sk) (nI i + nI yy), Tl7 (up g1 61 19 0) 0 (if 4 ≤ nI sk then [23, 20] ++ szL (nI sk) else mkL (nI sk))) := fun g1 hg => by rw [markOf7 (by omega) b2 b4 hf f3 (q0 g1) (q66 g1 hg) (by omega), cl_s]
  rcases (show w = 0 ∨ w = 1 by omega) with rfl | rfl
  · rcases (show sk = 1 ∨ sk = 2 ∨ sk = 3 ∨ sk = 4 ∨ sk = 5 by omega) with rfl | rfl | rfl | rfl | rfl
    · exact fin [11, 10, 21, 20] _ (by decide) (ask6_10 (by omega) hf b1 b3 f2) (fun g1 hg => by rw [if_pos (by decide)]; exact S7 g1 hg)
    · exact fin [12, 11, 10, 24, 21, 20] _ (by decide) (ask6_20 (by omega) hf b1 b3 f2) (fun g1 hg => by rw [if_pos (by decide)]; exact S7 g1 hg)
    · exact fin [11, 10, 22, 21, 20] _ (by decide) (ask6_30 (by omega) hf b1 b3 f2) (fun g1 hg => by rw [if_pos (by decide)]; exact S7 g1 hg)
    · exact fin [13, 10] _ (by decide) (ask6_40 (by omega) hf b1 b3 f2) (fun g1 hg => by rw [if_pos (by decide)]; exact S7 g1 hg)
    · exact fin [14, 13, 10] _ (by decide) (ask6_50 (by omega) hf b1 b3 f2) (fun g1 hg => by rw [if_pos (by decide)]; exact S7 g1 hg)
  · rcases (show sk = 1 ∨ sk = 2 ∨ sk = 3 ∨ sk = 4 ∨ sk = 5 by omega) with rfl | rfl | rfl | rfl | rfl
    · exact fin [21, 20] _ (by decide) (ask6_11 (by omega) hf b1 b3 f2) (fun g1 hg => by rw [if_neg (by decide)]; exact M7 g1 hg)
    · exact fin [24, 21, 20] _ (by decide) (ask6_21 (by omega) hf b1 b3 f2) (fun g1 hg => by rw [if_neg (by decide)]; exact M7 g1 hg)
    · exact fin [22, 21, 20] _ (by decide) (ask6_31 (by omega) hf b1 b3 f2) (fun g1 hg => by rw [if_neg (by decide)]; exact M7 g1 hg)
    · exact fin [23, 20, 13, 10] _ (by decide) (ask6_41 (by omega) hf b1 b3 f2) (fun g1 hg => by rw [if_neg (by decide)]; exact M7 g1 hg)
    · exact fin [23, 20, 14, 13, 10] _ (by decide) (ask6_51 (by omega) hf b1 b3 f2) (fun g1 hg => by rw [if_neg (by decide)]; exact M7 g1 hg)
