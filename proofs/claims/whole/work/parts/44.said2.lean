def wnt (v : Int32) : Int32 := if v = -1 then -1000000 else v
def okv (T : Nat) (v : Int32) : Prop := v = -1 ∨ ∃ t, t < T ∧ v = nI t
theorem wnt_eq {T : Nat} (hT : T ≤ 8) {a b : Int32} (ha : okv T a) (hb : okv T b) : (wnt a = wnt b) ↔ a = b := by
  have n1 : ∀ t, t < T → nI t ≠ -1 := fun t ht hc => by
    have : (nI t).toInt = (-1 : Int32).toInt := by rw [hc]
    rw [nI_toInt (by omega)] at this
    have e : (-1 : Int32).toInt = -1 := by decide
    omega
  have n2 : ∀ t, t < T → nI t ≠ -1000000 := fun t ht hc => by
    have : (nI t).toInt = (-1000000 : Int32).toInt := by rw [hc]
    rw [nI_toInt (by omega)] at this
    have e : (-1000000 : Int32).toInt = -1000000 := by decide
    omega
  constructor
  · intro h
    unfold wnt at h
    rcases ha with rfl | ⟨t, ht, rfl⟩ <;> rcases hb with rfl | ⟨u, hu, rfl⟩
    · rfl
    · rw [if_pos rfl, if_neg (n1 u hu)] at h; exact absurd h.symm (n2 u hu)
    · rw [if_pos rfl, if_neg (n1 t ht)] at h; exact absurd h (n2 t ht)
    · rw [if_neg (n1 t ht), if_neg (n1 u hu)] at h; exact h
  · rintro rfl; rfl
theorem okv_no {T : Nat} {v : Int32} (hT : T ≤ 8) (h1 : v ≠ -1) (h2 : v < 0 ∨ nI T ≤ v) : ¬ okv T v := by
  rintro (h | ⟨t, ht, rfl⟩)
  · exact h1 h
  · rcases h2 with h2 | h2
    · exact nI_pos (by omega) h2
    · exact nI_ge ht (by omega) h2
section SE
variable {T Q S : Nat} {F K : Nat → Nat} {sh us : Nat} {g : Mem}
theorem said6_e (V : View T Q S F K sh us g) {s : Nat} (hs : s < S) (v : Int32) : fX3_riddlesSaid (nI s) v g = some (nI (bset (fun i => decide (lsI (F i &&& K s) = wnt v)) Q), g) := by
  have hb := V.1
  have main : ∀ w : Int32, fX3_riddlesSaid_L18 (nI s) v w (fun l4 l5 g6 => some (l4, g6)) FU 0 0 g = some (nI (bset (fun i => decide (lsI (F i &&& K s) = w)) Q), g) := by
    intro w
    refine loopI (fun n i x => fX3_riddlesSaid_L18 (nI s) v w (fun l4 l5 g6 => some (l4, g6)) n x (nI i) g) _ (fun i x => x = nI (bset (fun i => decide (lsI (F i &&& K s) = w)) i)) Q ?_ ?_ Q FU 0 0 (by omega) (by rw [FU_e]; omega) rfl
    · rintro n x rfl
      show fX3_riddlesSaid_L18 (nI s) v w (fun l4 l5 g6 => some (l4, g6)) (n + 1) _ (nI Q) g = _
      rw [fX3_riddlesSaid_L18, V.2.2.1.1, if_pos (nI_le (Nat.le_refl Q) (by omega))]
    · rintro n i x hi rfl
      refine ⟨_, rfl, ?_⟩
      show fX3_riddlesSaid_L18 (nI s) v w (fun l4 l5 g6 => some (l4, g6)) (n + 1) _ (nI i) g = fX3_riddlesSaid_L18 (nI s) v w (fun l4 l5 g6 => some (l4, g6)) n (nI (bset (fun i => decide (lsI (F i &&& K s) = w)) i ||| if decide (lsI (F i &&& K s) = w) = true then 2 ^ i else 0)) (nI (i + 1)) g
      rw [fX3_riddlesSaid_L18, V.2.2.1.1, if_neg (nI_ge hi (by omega)), v_says6 V hs hi, cl_s, lt_e, one_shl i (by omega), fa_or, nI_1]
      by_cases h1 : lsI (F i &&& K s) = w
      · rw [if_pos h1, if_pos (decide_eq_true h1)]
      · rw [if_neg h1, if_neg (by simp [h1]), Nat.or_zero]
  unfold fX3_riddlesSaid wnt
  by_cases h1 : v = -1
  · rw [if_pos h1, if_pos h1]; exact main _
  · rw [if_neg h1, if_neg h1]; exact main _
theorem times6_e {p : Nat} (hp : p < 6) : fX3_timesBefore 60 6 (nI p) g = some (nI (cnt (fun q => decide (g 60 q = g 60 p)) p), g) := by
  unfold fX3_timesBefore
  refine loopI (fun n i x => fX3_timesBefore_L4 60 6 (nI p) (fun l3 l4 g5 => some (l3, g5)) n x (nI i) g) _ (fun i x => x = nI (cnt (fun q => decide (g 60 q = g 60 p)) i)) p ?_ ?_ p FU 0 0 (by omega) (by rw [FU_e]; omega) rfl
  · rintro n x rfl
    show fX3_timesBefore_L4 60 6 (nI p) (fun l3 l4 g5 => some (l3, g5)) (n + 1) _ (nI p) g = _
    rw [fX3_timesBefore_L4, if_pos (nI_le (Nat.le_refl p) (by omega))]
  · rintro n i x hi rfl
    refine ⟨_, rfl, ?_⟩
    show fX3_timesBefore_L4 60 6 (nI p) (fun l3 l4 g5 => some (l3, g5)) (n + 1) _ (nI i) g = fX3_timesBefore_L4 60 6 (nI p) (fun l3 l4 g5 => some (l3, g5)) n (nI (cnt (fun q => decide (g 60 q = g 60 p)) i + if decide (g 60 i = g 60 p) = true then 1 else 0)) (nI (i + 1)) g
    rw [fX3_timesBefore_L4, if_neg (nI_ge hi (by omega)), al_nI (by omega) (by omega), al_nI (by omega) (by omega), nI_1, nI_1]
    by_cases h1 : g 60 i = g 60 p
    · rw [if_pos h1, if_pos (decide_eq_true h1)]
    · rw [if_neg h1, if_neg (by simp [h1])]; rfl
theorem pcn_bset {p : Nat → Bool} {Q : Nat} (hQ : Q ≤ 6) : pcn (bset p Q) = cnt p Q := by
  have hl := bset_lt p Q
  have h6 : (2 : Nat) ^ Q ≤ 2 ^ 6 := Nat.pow_le_pow_right (by omega) hQ
  rw [pcn_cnt _ (by omega), cnt_more (n := Q) (by omega) (fun i h1 h2 => by rw [bset_test, decide_eq_false (by omega)]; rfl)]
  apply cnt_congr
  intro i hi
  rw [bset_test, decide_eq_true hi]; rfl
theorem mk6_succ (Q : Nat) (say h : Nat → Int32) (p : Nat) : mk6 Q say h (p + 1) = mk6 Q say h p ||| (if Rn Q say (h p) - tm h (h p) p = 1 then bset (fun i => decide (say i = h p)) Q else 0) := by
  apply Nat.eq_of_testBit_eq
  intro i
  unfold mk6
  rw [Nat.testBit_or, bset_test, bset_test]
  by_cases hx : Rn Q say (h p) - tm h (h p) p = 1
  · rw [if_pos hx, bset_test]
    by_cases hi : i < Q
    · rw [decide_eq_true hi, Bool.true_and, Bool.true_and, Bool.true_and]
      show decide (0 < cnt _ p + (if (decide (say i = h p) && decide (Rn Q say (h p) - tm h (h p) p = 1)) = true then 1 else 0)) = _
      rw [decide_eq_true hx, Bool.and_true]
      by_cases hs : say i = h p
      · rw [decide_eq_true hs, if_pos rfl, Bool.or_true]; exact decide_eq_true (by omega)
      · rw [decide_eq_false hs, if_neg Bool.false_ne_true, Bool.or_false]; rfl
    · rw [decide_eq_false hi]; rfl
  · rw [if_neg hx, Nat.zero_testBit, Bool.or_false]
    congr 1
    show decide (0 < cnt _ p + (if (decide (say i = h p) && decide (Rn Q say (h p) - tm h (h p) p = 1)) = true then 1 else 0)) = _
    rw [decide_eq_false hx, Bool.and_false, if_neg Bool.false_ne_true]; rfl
theorem heard6 (V : View T Q S F K sh us g) {s n : Nat} (hs : s < S) (hn : n ≤ 6) (hok : ∀ q, q < n → okv T (g 60 q)) (k : Int32) : fX3_riddlesHeard (nI s) 60 6 (nI n) k g = some (if k = 0 then nI (pr Q (fun i => lsI (F i &&& K s)) (fun q => wnt (g 60 q)) (fun _ => 0) n 0) else nI (if pr Q (fun i => lsI (F i &&& K s)) (fun q => wnt (g 60 q)) (fun _ => 0) n 0 = 0 then 0 else mk6 Q (fun i => lsI (F i &&& K s)) (fun q => wnt (g 60 q)) n), g) := by
  have hb := V.1
  generalize hsay : (fun i => lsI (F i &&& K s)) = say
  generalize hh : (fun q => wnt (g 60 q)) = h
  generalize hP : pr Q say h (fun _ => 0) n 0 = P
  unfold fX3_riddlesHeard
  refine loopE (fun m p (x : Int32 × Int32) => fX3_riddlesHeard_L9 60 6 (nI s) (nI n) k (fun l12 l13 l14 g15 => if k = 0 then (some (l12, g15)) else (some (l13, g15))) m x.1 x.2 (nI p) g) _ (fun p x => (∃ a, a ≠ 0 ∧ x.1 = nI a ∧ a * pr Q say h (fun _ => 0) (n - p) p = P) ∧ x.2 = nI (mk6 Q say h p)) n ?_ ?_ n FU 0 (1, 0) (by omega) (by rw [FU_e]; omega) ⟨⟨1, by decide, rfl, by rw [Nat.one_mul]; exact hP⟩, ?_⟩
  · rintro m ⟨x1, x2⟩ ⟨⟨a, a0, a1, a2⟩, e2⟩
    dsimp only at a1 e2
    subst a1 e2
    show fX3_riddlesHeard_L9 60 6 (nI s) (nI n) k (fun l12 l13 l14 g15 => if k = 0 then (some (l12, g15)) else (some (l13, g15))) (m + 1) _ _ (nI n) g = _
    rw [Nat.sub_self] at a2
    have a3 : a = P := by rw [← a2]; exact (Nat.mul_one a).symm
    rw [fX3_riddlesHeard_L9, if_pos (nI_le (Nat.le_refl n) (by omega)), ← a3, if_neg a0]
    by_cases hk : k = 0
    · rw [if_pos hk, if_pos hk]
    · rw [if_neg hk, if_neg hk]
  · rintro m p ⟨x1, x2⟩ hp ⟨⟨a, a0, a1, a2⟩, e2⟩
    dsimp only at a1 e2
    subst a1 e2
    have er : Rn Q say (h p) ≤ Q := cnt_le _ Q
    have et : tm h (h p) p ≤ p := cnt_le _ p
    have eb : bset (fun i => decide (lsI (F i &&& K s) = wnt (g 60 p))) Q = bset (fun i => decide (say i = h p)) Q := by rw [← hsay, ← hh]
    have ec : cnt (fun q => decide (g 60 q = g 60 p)) p = tm h (h p) p := by
      unfold tm
      apply cnt_congr
      intro q hq
      rw [← hh]
      exact (decide_eq_decide.mpr (wnt_eq hb.1 (hok q (by omega)) (hok p hp))).symm
    have hl := bset_lt (fun i => decide (say i = h p)) Q
    have h6 : (2 : Nat) ^ Q ≤ 2 ^ 6 := Nat.pow_le_pow_right (by omega) hb.2.1
    have en : n - p = (n - (p + 1)) + 1 := by omega
    rw [en, pr] at a2
    have estep : fX3_riddlesHeard_L9 60 6 (nI s) (nI n) k (fun l12 l13 l14 g15 => if k = 0 then (some (l12, g15)) else (some (l13, g15))) (m + 1) (nI a) (nI (mk6 Q say h p)) (nI p) g = (if 0 < nI (Rn Q say (h p)) - nI (tm h (h p) p) then (if nI (Rn Q say (h p)) - nI (tm h (h p) p) = 1 then fX3_riddlesHeard_L9 60 6 (nI s) (nI n) k (fun l12 l13 l14 g15 => if k = 0 then (some (l12, g15)) else (some (l13, g15))) m (nI a * (nI (Rn Q say (h p)) - nI (tm h (h p) p))) (nI (mk6 Q say h p ||| bset (fun i => decide (say i = h p)) Q)) (nI (p + 1)) g else fX3_riddlesHeard_L9 60 6 (nI s) (nI n) k (fun l12 l13 l14 g15 => if k = 0 then (some (l12, g15)) else (some (l13, g15))) m (nI a * (nI (Rn Q say (h p)) - nI (tm h (h p) p))) (nI (mk6 Q say h p ||| 0)) (nI (p + 1)) g) else some (0, g)) := by
      rw [fX3_riddlesHeard_L9, if_neg (nI_ge hp (by omega)), al_nI (by omega) (by omega), said6_e V hs, cl_s, eb, bc_e (by omega), cl_s, times6_e (by omega), cl_s, ec, pcn_bset hb.2.1, lt_e, lt_e, lt_e, lt_e, fa_or, show (0 : Int32) = nI 0 from rfl, fa_or, nI_1]
      rfl
    show (∃ s', _ ∧ fX3_riddlesHeard_L9 60 6 (nI s) (nI n) k (fun l12 l13 l14 g15 => if k = 0 then (some (l12, g15)) else (some (l13, g15))) (m + 1) (nI a) (nI (mk6 Q say h p)) (nI p) g = _) ∨ fX3_riddlesHeard_L9 60 6 (nI s) (nI n) k (fun l12 l13 l14 g15 => if k = 0 then (some (l12, g15)) else (some (l13, g15))) (m + 1) (nI a) (nI (mk6 Q say h p)) (nI p) g = _
    rw [estep]
    by_cases hlt : tm h (h p) p < Rn Q say (h p)
    · left
      rw [pk_sub (by omega), if_pos (show (0 : Int32) < nI (Rn Q say (h p) - tm h (h p) p) from (show nI 0 < nI _ from nI_lt (by omega) (by omega))), pk_mul]
      have e1 : (nI (Rn Q say (h p) - tm h (h p) p) = 1) ↔ Rn Q say (h p) - tm h (h p) p = 1 := nI_eq (b := 1) (by omega) (by omega)
      refine ⟨(nI (a * (Rn Q say (h p) - tm h (h p) p)), nI (mk6 Q say h (p + 1))), ⟨⟨a * (Rn Q say (h p) - tm h (h p) p), Nat.mul_ne_zero a0 (by omega), rfl, ?_⟩, rfl⟩, ?_⟩
      · rw [← a2, Nat.mul_assoc, Nat.zero_add]
      · rw [mk6_succ]
        by_cases h1 : Rn Q say (h p) - tm h (h p) p = 1
        · rw [if_pos (e1.mpr h1), if_pos h1]
        · rw [if_neg (fun hc => h1 (e1.mp hc)), if_neg h1]
    · right
      have hz : P = 0 := by rw [← a2, show Rn Q say (h p) - ((fun _ => 0) (h p) + tm h (h p) p) = 0 by show Rn Q say (h p) - (0 + tm h (h p) p) = 0; omega, Nat.zero_mul, Nat.mul_zero]
      rw [if_neg, hz, if_pos rfl]
      · by_cases hk : k = 0
        · rw [if_pos hk]; rfl
        · rw [if_neg hk]; rfl
      · intro hc
        rw [q_lt, pk_sub_toInt (by omega) (by omega)] at hc
        have e0 : (0 : Int32).toInt = 0 := rfl
        omega
  · show (0 : Int32) = nI (mk6 Q say h 0)
    have : mk6 Q say h 0 = 0 := by
      apply Nat.eq_of_testBit_eq
      intro i
      unfold mk6
      rw [bset_test, Nat.zero_testBit]
      simp [cnt]
    rw [this]; rfl
end SE
