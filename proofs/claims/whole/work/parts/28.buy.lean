/-! what a thing costs; BUY -/
section VW3
variable {T Q S : Nat} {F K : Nat → Nat} {sh us : Nat} {g : Mem}
theorem cost6 (V : View T Q S F K sh us g) {pr : Nat} (hp : g 7 2 = nI pr) (v : Int32) : fX2_cost 7 v g = some (nI (pr * cnt (fun i => !us.testBit i && decide (lsI (F i) = v)) Q), g) := by
  have hb := V.1
  unfold fX2_cost
  refine loopI (fun n i s => fX2_cost_L4 7 v (fun l6 l7 g8 => some (l6, g8)) n s (nI i) g) _ (fun i s => s = nI (pr * cnt (fun i => !us.testBit i && decide (lsI (F i) = v)) i)) Q ?_ ?_ Q FU 0 0 (by omega) (by rw [FU_e]; omega) (by show (0 : Int32) = nI (pr * 0); rw [Nat.mul_zero]; rfl)
  · rintro n s rfl
    show fX2_cost_L4 7 v (fun l6 l7 g8 => some (l6, g8)) (n + 1) _ (nI Q) g = _
    rw [fX2_cost_L4, V.2.2.1.1, if_pos (nI_le (Nat.le_refl Q) (by omega))]
  · rintro n i s hi rfl
    refine ⟨_, rfl, ?_⟩
    show fX2_cost_L4 7 v (fun l6 l7 g8 => some (l6, g8)) (n + 1) _ (nI i) g = fX2_cost_L4 7 v (fun l6 l7 g8 => some (l6, g8)) n (nI (pr * (cnt (fun i => !us.testBit i && decide (lsI (F i) = v)) i + if (!us.testBit i && decide (lsI (F i) = v)) then 1 else 0))) (nI (i + 1)) g
    rw [fX2_cost_L4, V.2.2.1.1, if_neg (nI_ge hi (by omega)), v_used6 V (by omega), cl_s, v_answer6 V hi, cl_s, lt_e, hp, nI_add, nI_1]
    by_cases h0 : us.testBit i
    · simp [h0]
    · by_cases h1 : lsI (F i) = v
      · simp [h0, h1, Nat.mul_add]
      · simp [h0, h1]
theorem cost7 (V : View T Q S F K sh us g) {pr : Nat} {g' : Mem} (hg : g' 66 = g 66) (hp : g 66 2 = nI pr) (v : Int32) : fX7_costOf v g' = some (nI (pr * cnt (fun i => !us.testBit i && decide (lsI (F i) = v)) Q), g') := by
  have hb := V.1
  unfold fX7_costOf
  have l4 : ∀ G, al g' 66 50 (4 : Int32) G = G (g' 66 4) := lit66 g' 4 (by omega)
  have l2 : ∀ G, al g' 66 50 (2 : Int32) G = G (g' 66 2) := lit66 g' 2 (by omega)
  refine loopI (fun n i s => fX7_costOf_L4 v (fun l10 l11 g12 => some (l10, g12)) n s (nI i) g') _ (fun i s => s = nI (pr * cnt (fun i => !us.testBit i && decide (lsI (F i) = v)) i)) Q ?_ ?_ Q FU 0 0 (by omega) (by rw [FU_e]; omega) (by show (0 : Int32) = nI (pr * 0); rw [Nat.mul_zero]; rfl)
  · rintro n s rfl
    show fX7_costOf_L4 v (fun l10 l11 g12 => some (l10, g12)) (n + 1) _ (nI Q) g' = _
    rw [fX7_costOf_L4, l4, hg, V.2.2.1.2, if_pos (nI_le (Nat.le_refl Q) (by omega))]
  · rintro n i s hi rfl
    refine ⟨_, rfl, ?_⟩
    show fX7_costOf_L4 v (fun l10 l11 g12 => some (l10, g12)) (n + 1) _ (nI i) g' = fX7_costOf_L4 v (fun l10 l11 g12 => some (l10, g12)) n (nI (pr * (cnt (fun i => !us.testBit i && decide (lsI (F i) = v)) i + if (!us.testBit i && decide (lsI (F i) = v)) then 1 else 0))) (nI (i + 1)) g'
    rw [fX7_costOf_L4, l4, hg, V.2.2.1.2, if_neg (nI_ge hi (by omega)), v_open7 V (by omega) hg, cl_s, v_answer7 V hi hg, cl_s]
    simp only [lt_e, l2, hg, hp, nI_add, nI_1, show ∀ a, nI a + (0 : Int32) = nI a from fun a => nI_add a 0]
    by_cases h0 : us.testBit i
    · simp [h0]
    · by_cases h1 : lsI (F i) = v
      · simp [h0, h1, Nat.mul_add]
      · simp [h0, h1]
/-- the answers of riddles that were not used -/
def wset (F : Nat → Nat) (us : Nat) : Nat → Nat
  | 0 => 0
  | n + 1 => wset F us n ||| (if !us.testBit n && !decide (F n = 0) then 2 ^ lsb 8 (F n) else 0)
theorem wset_lt {F : Nat → Nat} {us n : Nat} (h : ∀ i, i < n → F i < 256) : wset F us n < 256 := by
  induction n with
  | zero => exact (by omega : 0 < 256)
  | succ n ih =>
    show wset F us n ||| _ < 2 ^ 8
    refine Nat.or_lt_two_pow (ih (fun i hi => h i (by omega))) ?_
    by_cases hc : (!us.testBit n && !decide (F n = 0)) = true
    · rw [if_pos hc]
      have h0 : F n ≠ 0 := by simp at hc; exact hc.2
      exact Nat.pow_lt_pow_right (by omega) (lsb_ok (F n) (h n (by omega)) h0).1
    · rw [if_neg hc]; decide
theorem wset_test {F : Nat → Nat} {us n t : Nat} : (wset F us n).testBit t = decide (0 < cnt (fun i => !us.testBit i && (!decide (F i = 0) && decide (lsb 8 (F i) = t))) n) := by
  induction n with
  | zero => simp [wset, cnt]
  | succ n ih =>
    show (wset F us n ||| _).testBit t = decide (0 < cnt _ n + _)
    rw [Nat.testBit_or, ih]
    by_cases hc : (!us.testBit n && !decide (F n = 0)) = true
    · rw [if_pos hc, Nat.testBit_two_pow]
      simp only [Bool.and_eq_true, Bool.not_eq_true', decide_eq_false_iff_not] at hc
      by_cases ht : lsb 8 (F n) = t
      · simp [hc.1, hc.2, ht]
      · simp [ht]
    · rw [if_neg hc]
      have : (!us.testBit n && (!decide (F n = 0) && decide (lsb 8 (F n) = t))) = false := by
        rw [← Bool.and_assoc]
        simp only [Bool.not_eq_true] at hc
        rw [hc]; rfl
      rw [if_neg (fun q => absurd (this.symm.trans q) Bool.false_ne_true)]; simp
theorem none_ne {x : Nat} (hx : x < 256) : (lsI x = -1000000) ↔ x = 0 := by
  unfold lsI
  by_cases h : x = 0
  · simp [h]
  · rw [if_neg h]
    have := (lsb_ok x hx h).1
    constructor
    · intro q
      exfalso
      have : (nI (lsb 8 x)).toInt = (-1000000 : Int32).toInt := by rw [q]
      rw [nI_toInt (by omega)] at this
      have e : (-1000000 : Int32).toInt = -1000000 := by decide
      omega
    · intro q; exact absurd q h
theorem lsI_eq {x t : Nat} (hx : x < 256) (ht : t < 8) : (lsI x = nI t) ↔ (x ≠ 0 ∧ lsb 8 x = t) := by
  unfold lsI
  by_cases h : x = 0
  · rw [if_pos h]
    constructor
    · intro q
      exfalso
      have : (nI t).toInt = (-1000000 : Int32).toInt := by rw [← q]
      rw [nI_toInt (by omega)] at this
      have e : (-1000000 : Int32).toInt = -1000000 := by decide
      omega
    · intro q; exact absurd h q.1
  · rw [if_neg h]
    have := (lsb_ok x hx h).1
    rw [nI_eq (by omega) (by omega)]
    exact ⟨fun q => ⟨h, q⟩, fun q => q.2⟩
theorem wanted_L (V : View T Q S F K sh us g) (v : Int32) (KK : Int32 → Int32 → Mem → Option (Int32 × Mem)) : fX3_wanted_L5 v KK FU 0 0 g = KK (nI (wset F us Q)) (nI Q) g := by
  have hb := V.1
  have h8 := V.p8
  refine loopI (fun n i s => fX3_wanted_L5 v KK n s (nI i) g) _ (fun i s => s = nI (wset F us i)) Q ?_ ?_ Q FU 0 0 (by omega) (by rw [FU_e]; omega) rfl
  · rintro n s rfl
    show fX3_wanted_L5 v KK (n + 1) _ (nI Q) g = _
    rw [fX3_wanted_L5, V.2.2.1.1, if_pos (nI_le (Nat.le_refl Q) (by omega))]
  · rintro n i s hi rfl
    refine ⟨_, rfl, ?_⟩
    show fX3_wanted_L5 v KK (n + 1) _ (nI i) g = fX3_wanted_L5 v KK n (nI (wset F us i ||| (if !us.testBit i && !decide (F i = 0) then 2 ^ lsb 8 (F i) else 0))) (nI (i + 1)) g
    have hF : F i < 256 := Nat.lt_of_lt_of_le (V.2.2.2.2.1 i hi).1 h8
    rw [fX3_wanted_L5, V.2.2.1.1, if_neg (nI_ge hi (by omega)), v_answer6 V hi, cl_s, v_used6 V (by omega), cl_s, lt_e, nI_1]
    simp only [none_ne hF]
    by_cases h0 : us.testBit i
    · simp [h0]
    · by_cases h1 : F i = 0
      · simp [h0, h1]
      · have e1 : lsI (F i) = nI (lsb 8 (F i)) := by unfold lsI; rw [if_neg h1]
        have e2 := (lsb_ok (F i) hF h1).1
        rw [e1, one_shl _ (by omega), fa_or]
        simp [h0, h1]
theorem nand_nI {a b : Nat} (hb : b < 2 ^ 32) : nI a &&& (nI b ^^^ (-1)) = nI (a &&& (2 ^ 32 - (b + 1))) := by
  apply Int32.toBitVec_inj.1
  show BitVec.ofNat 32 a &&& (BitVec.ofNat 32 b ^^^ BitVec.allOnes 32) = BitVec.ofNat 32 (a &&& (2 ^ 32 - (b + 1)))
  apply BitVec.eq_of_getLsbD_eq
  intro i hi
  simp only [BitVec.getLsbD_and, BitVec.getLsbD_xor, BitVec.getLsbD_ofNat, BitVec.getLsbD_allOnes, Nat.testBit_and, Nat.testBit_two_pow_sub_succ hb, hi, decide_true, Bool.true_and]
  cases b.testBit i <;> simp
/-- which things are to be bought, over the things -/
theorem want_eq {F : Nat → Nat} {us Q T kn : Nat} (hT : T ≤ 8) (hF : ∀ i, i < Q → F i < 2 ^ T) (hk : kn < 256) :
    wset F us Q &&& (2 ^ 32 - (kn + 1)) = bset (fun t => decide (0 < cnt (fun i => !us.testBit i && (!decide (F i = 0) && decide (lsb 8 (F i) = t))) Q) && !kn.testBit t) T := by
  apply Nat.eq_of_testBit_eq
  intro t
  rw [Nat.testBit_and, wset_test, Nat.testBit_two_pow_sub_succ (by omega), bset_test]
  by_cases ht : t < T
  · simp [ht, show t < 32 by omega]
  · have h0 : cnt (fun i => !us.testBit i && (!decide (F i = 0) && decide (lsb 8 (F i) = t))) Q = 0 := by
      have : ∀ n, n ≤ Q → cnt (fun i => !us.testBit i && (!decide (F i = 0) && decide (lsb 8 (F i) = t))) n = 0 := by
        intro n
        induction n with
        | zero => intro _; rfl
        | succ n ih =>
          intro hn
          show cnt _ n + _ = 0
          rw [ih (by omega)]
          have hFn := hF n (by omega)
          have hle : (2 : Nat) ^ T ≤ 2 ^ 8 := Nat.pow_le_pow_right (by omega) hT
          have : (!us.testBit n && (!decide (F n = 0) && decide (lsb 8 (F n) = t))) = false := by
            by_cases hz : F n = 0
            · simp [hz]
            · have hl := lsb_ok (F n) (by omega) hz
              have : lsb 8 (F n) ≠ t := by
                intro q
                have hb1 := hl.2.1
                rw [q] at hb1
                have := Nat.ge_two_pow_of_testBit hb1
                have h2 : (2 : Nat) ^ T ≤ 2 ^ t := Nat.pow_le_pow_right (by omega) (by omega)
                omega
              simp [this]
          rw [if_neg (fun q => absurd (this.symm.trans q) Bool.false_ne_true)]
      exact this Q (Nat.le_refl Q)
    simp [ht, h0]
theorem cnt_ans {F : Nat → Nat} {us Q t : Nat} (hF : ∀ i, i < Q → F i < 256) (ht : t < 8) : cnt (fun i => !us.testBit i && decide (lsI (F i) = nI t)) Q = cnt (fun i => !us.testBit i && (!decide (F i = 0) && decide (lsb 8 (F i) = t))) Q := by
  apply cnt_congr
  intro i hi
  have := lsI_eq (hF i hi) ht
  show (!us.testBit i && decide (lsI (F i) = nI t)) = (!us.testBit i && (!decide (F i = 0) && decide (lsb 8 (F i) = t)))
  rw [show decide (lsI (F i) = nI t) = decide (F i ≠ 0 ∧ lsb 8 (F i) = t) from decide_eq_decide.mpr this]
  by_cases h1 : F i = 0 <;> by_cases h2 : lsb 8 (F i) = t <;> simp [h1, h2]
/-- what the things of a set cost -/
def csum (F : Nat → Nat) (us pr Q : Nat) (p : Nat → Bool) : Nat → Nat
  | 0 => 0
  | t + 1 => csum F us pr Q p t + if p t then pr * cnt (fun i => !us.testBit i && decide (lsI (F i) = nI t)) Q else 0
theorem costAll6 (V : View T Q S F K sh us g) {pr w : Nat} (hp : g 7 2 = nI pr) (hw : w < 2 ^ 31) : fX2_costOfAll 7 (nI w) g = some (nI (csum F us pr Q (fun t => w.testBit t) T), g) := by
  have hb := V.1
  unfold fX2_costOfAll
  refine loopI (fun n i s => fX2_costOfAll_L4 7 (nI w) (fun l4 l5 g6 => some (l4, g6)) n s (nI i) g) _ (fun i s => s = nI (csum F us pr Q (fun t => w.testBit t) i)) T ?_ ?_ T FU 0 0 (by omega) (by rw [FU_e]; omega) rfl
  · rintro n s rfl
    show fX2_costOfAll_L4 7 (nI w) (fun l4 l5 g6 => some (l4, g6)) (n + 1) _ (nI T) g = _
    rw [fX2_costOfAll_L4, V.2.1.1, if_pos (nI_le (Nat.le_refl T) (by omega))]
  · rintro n i s hi rfl
    refine ⟨_, rfl, ?_⟩
    show fX2_costOfAll_L4 7 (nI w) (fun l4 l5 g6 => some (l4, g6)) (n + 1) _ (nI i) g = fX2_costOfAll_L4 7 (nI w) (fun l4 l5 g6 => some (l4, g6)) n (nI (csum F us pr Q (fun t => w.testBit t) i + if w.testBit i then pr * cnt (fun j => !us.testBit j && decide (lsI (F j) = nI i)) Q else 0)) (nI (i + 1)) g
    rw [fX2_costOfAll_L4, V.2.1.1, if_neg (nI_ge hi (by omega)), bit_nI hw (by omega), cost6 V hp, cl_s, lt_e, nI_add, nI_1]
    by_cases h0 : w.testBit i <;> simp [h0]
theorem toBuy_L45 (V : View T Q S F K sh us g) {g' : Mem} (hg : g' 66 = g 66) (l1 l2 l3 l4 : Int32) {t : Nat} (ht : t < 8) (KK : Int32 → Int32 → Mem → Option (Int32 × Mem)) : fX7_toBuy_L45 l1 l2 l3 l4 (nI t) KK FU 0 0 g' = KK (if 0 < cnt (fun i => !us.testBit i && decide (lsI (F i) = nI t)) Q then 1 else 0) (nI Q) g' := by
  have hb := V.1
  have l4' : ∀ G, al g' 66 50 (4 : Int32) G = G (g' 66 4) := lit66 g' 4 (by omega)
  refine loopI (fun n i s => fX7_toBuy_L45 l1 l2 l3 l4 (nI t) KK n s (nI i) g') _ (fun i s => s = (if 0 < cnt (fun i => !us.testBit i && decide (lsI (F i) = nI t)) i then (1 : Int32) else 0)) Q ?_ ?_ Q FU 0 0 (by omega) (by rw [FU_e]; omega) rfl
  · rintro n s rfl
    show fX7_toBuy_L45 l1 l2 l3 l4 (nI t) KK (n + 1) _ (nI Q) g' = _
    rw [fX7_toBuy_L45, l4', hg, V.2.2.1.2, if_pos (nI_le (Nat.le_refl Q) (by omega))]
  · rintro n i s hi rfl
    refine ⟨_, rfl, ?_⟩
    show fX7_toBuy_L45 l1 l2 l3 l4 (nI t) KK (n + 1) _ (nI i) g' = fX7_toBuy_L45 l1 l2 l3 l4 (nI t) KK n (if 0 < cnt (fun i => !us.testBit i && decide (lsI (F i) = nI t)) i + (if (!us.testBit i && decide (lsI (F i) = nI t)) then 1 else 0) then (1 : Int32) else 0) (nI (i + 1)) g'
    rw [fX7_toBuy_L45, l4', hg, V.2.2.1.2, if_neg (nI_ge hi (by omega)), v_open7 V (by omega) hg, cl_s, v_answer7 V hi hg, cl_s, nI_1]
    by_cases hc : 0 < cnt (fun i => !us.testBit i && decide (lsI (F i) = nI t)) i
    · rw [if_pos hc, if_neg (by decide), if_pos (by omega)]
    · rw [if_neg hc, if_pos rfl]
      have hz : cnt (fun i => !us.testBit i && decide (lsI (F i) = nI t)) i = 0 := by omega
      rw [hz]
      by_cases h0 : us.testBit i
      · simp [h0]
      · by_cases h1 : lsI (F i) = nI t
        · simp [h0, h1]
        · simp [h0, h1]
theorem toBuy_L28 (V : View T Q S F K sh us g) {g' : Mem} (hg : g' 66 = g 66) {s : Nat} (hs : s < S) {pr : Nat} (hp : g 66 2 = nI pr) (l2 : Int32) (KK : Int32 → Int32 → Int32 → Mem → Option (Int32 × Mem)) :
    fX7_toBuy_L28 (nI s) l2 KK FU 0 0 0 g' = KK (nI (bset (fun t => decide (0 < cnt (fun i => !us.testBit i && decide (lsI (F i) = nI t)) Q) && !(K s).testBit t) T)) (nI (csum F us pr Q (fun t => decide (0 < cnt (fun i => !us.testBit i && decide (lsI (F i) = nI t)) Q) && !(K s).testBit t) T)) (nI T) g' := by
  have hb := V.1
  have h8 := V.p8
  have l3' : ∀ G, al g' 66 50 (3 : Int32) G = G (g' 66 3) := lit66 g' 3 (by omega)
  have hK := V.2.2.2.2.2.1 s hs
  generalize hp' : (fun t => decide (0 < cnt (fun i => !us.testBit i && decide (lsI (F i) = nI t)) Q) && !(K s).testBit t) = P
  refine loopI (fun n i (st : Int32 × Int32) => fX7_toBuy_L28 (nI s) l2 KK n st.1 st.2 (nI i) g') _ (fun i st => st = (nI (bset P i), nI (csum F us pr Q P i))) T ?_ ?_ T FU 0 (0, 0) (by omega) (by rw [FU_e]; omega) rfl
  · rintro n st rfl
    show fX7_toBuy_L28 (nI s) l2 KK (n + 1) _ _ (nI T) g' = _
    rw [fX7_toBuy_L28, l3', hg, V.2.1.2, if_pos (nI_le (Nat.le_refl T) (by omega))]
  · rintro n i st hi rfl
    refine ⟨_, rfl, ?_⟩
    show fX7_toBuy_L28 (nI s) l2 KK (n + 1) (nI (bset P i)) (nI (csum F us pr Q P i)) (nI i) g' = fX7_toBuy_L28 (nI s) l2 KK n (nI (bset P i ||| (if P i then 2 ^ i else 0))) (nI (csum F us pr Q P i + if P i then pr * cnt (fun j => !us.testBit j && decide (lsI (F j) = nI i)) Q else 0)) (nI (i + 1)) g'
    rw [fX7_toBuy_L28, l3', hg, V.2.1.2, if_neg (nI_ge hi (by omega)), toBuy_L45 V hg _ _ _ _ (by omega), show (34 : Int32) = nI 34 from rfl, nI_add, lit66 g' (34 + s) (by omega), hg, hK.2.2, has_e (by omega) (by omega), cl_s, lt_e, cost7 V hg hp, cl_s, lt_e, one_shl i (by omega), fa_or, nI_add, nI_1]
    have hPi : P i = (decide (0 < cnt (fun j => !us.testBit j && decide (lsI (F j) = nI i)) Q) && !(K s).testBit i) := by rw [← hp']
    rw [hPi]
    by_cases hc : 0 < cnt (fun i_1 => !us.testBit i_1 && decide (lsI (F i_1) = nI i)) Q
    · by_cases hk : (K s).testBit i
      · simp [hc, hk]
      · simp [hc, hk]
    · simp [hc]
end VW3
theorem csum_congr {F : Nat → Nat} {us pr Q T : Nat} {p q : Nat → Bool} (h : ∀ t, t < T → p t = q t) : csum F us pr Q p T = csum F us pr Q q T := by
  induction T with
  | zero => rfl
  | succ T ih => show csum F us pr Q p T + _ = csum F us pr Q q T + _; rw [ih (fun t ht => h t (by omega)), h T (by omega)]
theorem bset_congr {T : Nat} {p q : Nat → Bool} (h : ∀ t, t < T → p t = q t) : bset p T = bset q T := by
  induction T with
  | zero => rfl
  | succ T ih => show bset p T ||| _ = bset q T ||| _; rw [ih (fun t ht => h t (by omega)), h T (by omega)]
theorem E_toBuy {g : Mem} (h : Inv g) (x y : Int32) : Both g (fun g => fX6_toBuy x y g) (fun g => fX7_toBuy x y g) := by
  obtain ⟨T, Q, S, tr, F, K, sh, us, C, V⟩ := Inv_cv h
  have hb := V.1
  have h8 := V.p8
  have bad : (x < 0 ∨ nI S ≤ x) → Both g (fun g => fX6_toBuy x y g) (fun g => fX7_toBuy x y g) := fun hx => by
    refine ⟨-1000001, g, g, ?_, ?_, h⟩
    · simp only [fX6_toBuy]
      rw [V.2.2.2.1.1, below_f hx, cl_s, if_pos rfl]
    · simp only [fX7_toBuy]
      rw [isS_f V hx rfl, cl_s, if_pos rfl]
  rcases pk_ix x (n := S) (by omega) with hx | hx | ⟨s, hs, rfl⟩
  · exact bad (Or.inl hx)
  · exact bad (Or.inr hx)
  have bad : (y < 0 ∨ nI 2 ≤ y) → Both g (fun g => fX6_toBuy (nI s) y g) (fun g => fX7_toBuy (nI s) y g) := fun hx => by
    refine ⟨-1000001, g, g, ?_, ?_, h⟩
    · simp only [fX6_toBuy]
      rw [V.2.2.2.1.1, below_t hs (by omega), cl_s, if_neg (by decide), show (2 : Int32) = nI 2 from rfl, below_f hx, cl_s, if_pos rfl]
    · simp only [fX7_toBuy]
      rw [isS_t V hs rfl, cl_s, if_neg (by decide), show (1 : Int32) = nI 1 from rfl, inN_f (by omega) hx, cl_s, if_pos rfl]
  rcases pk_ix y (n := 2) (by omega) with hx | hx | ⟨k, hk, rfl⟩
  · exact bad (Or.inl hx)
  · exact bad (Or.inr hx)
  obtain ⟨-, -, -, ⟨⟨pr, hpr, ep⟩, ep'⟩, -⟩ := C
  have hK := V.2.2.2.2.2.1 s hs
  have hF : ∀ i, i < Q → F i < 2 ^ T := fun i hi => (V.2.2.2.2.1 i hi).1
  have hF8 : ∀ i, i < Q → F i < 256 := fun i hi => Nat.lt_of_lt_of_le (hF i hi) h8
  have hW := want_eq (us := us) (kn := K s) hb.1 hF (by omega)
  have hcg : ∀ t, t < T → (decide (0 < cnt (fun i => !us.testBit i && (!decide (F i = 0) && decide (lsb 8 (F i) = t))) Q) && !(K s).testBit t) = (decide (0 < cnt (fun i => !us.testBit i && decide (lsI (F i) = nI t)) Q) && !(K s).testBit t) := fun t ht => by rw [cnt_ans hF8 (by omega)]
  rw [bset_congr hcg] at hW
  generalize hPP : (fun t => decide (0 < cnt (fun i => !us.testBit i && decide (lsI (F i) = nI t)) Q) && !(K s).testBit t) = P at hW
  have hlt := bset_lt P T
  have e6 : fX6_toBuy (nI s) (nI k) g = if nI k = 0 then some (nI (bset P T), g) else some (nI (csum F us pr Q P T), g) := by
    simp only [fX6_toBuy, fX3_wanted]
    rw [V.2.2.2.1.1, below_t hs (by omega), cl_s, if_neg (by decide), show (2 : Int32) = nI 2 from rfl, below_t hk (by omega), cl_s, if_neg (by decide), wanted_L V, al_nI (by omega) (by omega), hK.2.1, nand_nI (by omega), hW, cl_s, costAll6 V ep (by omega), cl_s]
    rw [csum_congr (p := fun t => (bset P T).testBit t) (q := P) (fun t ht => by show (bset P T).testBit t = P t; rw [bset_test]; simp [ht])]
  have e7 : fX7_toBuy (nI s) (nI k) g = if nI k = 0 then some (nI (bset P T), g) else some (nI (csum F us pr Q P T), g) := by
    simp only [fX7_toBuy]
    rw [isS_t V hs rfl, cl_s, if_neg (by decide), show (1 : Int32) = nI 1 from rfl, inN_t (by omega) (by omega), cl_s, if_neg (by decide), toBuy_L28 V rfl hs (by rw [ep', ep]), hPP]
  by_cases k0 : nI k = 0
  · rw [if_pos k0] at e6 e7
    exact ⟨_, g, g, e6, e7, h⟩
  · rw [if_neg k0] at e6 e7
    exact ⟨_, g, g, e6, e7, h⟩
