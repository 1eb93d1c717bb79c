section TY
variable {T : Nat} {tr : Nat → Nat}
/-- a memory in which the reference can count -/
def TDp (T : Nat) (tr : Nat → Nat) (s : Mem) : Prop := T ≤ 8 ∧ s 66 3 = nI T ∧ ∀ i, i < T → tr i < 32 ∧ s 66 (8 + i) = nI (tr i)
variable {s : Mem}
theorem havers_e (h : TDp T tr s) {m t : Nat} (hm : m < 2 ^ T) (ht : t < 5) : fX7_havers (nI m) (nI t) s = some (nI (m &&& HT tr T t), s) := by
  obtain ⟨hT, e3, htr⟩ := h
  have h8 : (2 : Nat) ^ T ≤ 256 := Nat.pow_le_pow_right (n := 2) (by omega) hT
  have l3 : ∀ G, al s 66 50 (3 : Int32) G = G (s 66 3) := lit66 s 3 (by omega)
  have eb : bset (fun i => m.testBit i && (tr i).testBit t) T = m &&& HT tr T t := by
    apply Nat.eq_of_testBit_eq
    intro i
    rw [bset_test, Nat.testBit_and]
    unfold HT
    rw [bset_test]
    cases decide (i < T) <;> cases m.testBit i <;> cases (tr i).testBit t <;> rfl
  unfold fX7_havers
  rw [← eb]
  refine loopI (fun n i w => fX7_havers_L5 (nI m) (nI t) (fun l10 l11 g12 => some (l10, g12)) n w (nI i) s) _ (fun i w => w = nI (bset (fun i => m.testBit i && (tr i).testBit t) i)) T ?_ ?_ T FU 0 0 (by omega) (by rw [FU_e]; omega) rfl
  · rintro n w rfl
    show fX7_havers_L5 (nI m) (nI t) (fun l10 l11 g12 => some (l10, g12)) (n + 1) _ (nI T) s = _
    rw [fX7_havers_L5, l3, e3, if_pos (nI_le (Nat.le_refl T) (by omega))]
  · rintro n i w hi rfl
    refine ⟨_, rfl, ?_⟩
    have := (htr i hi).1
    show fX7_havers_L5 (nI m) (nI t) (fun l10 l11 g12 => some (l10, g12)) (n + 1) _ (nI i) s = fX7_havers_L5 (nI m) (nI t) (fun l10 l11 g12 => some (l10, g12)) n (nI (bset (fun i => m.testBit i && (tr i).testBit t) i ||| if (m.testBit i && (tr i).testBit t) = true then 2 ^ i else 0)) (nI (i + 1)) s
    rw [fX7_havers_L5, l3, e3, if_neg (nI_ge hi (by omega)), has_e (by omega) (by omega), cl_s, show (8 : Int32) = nI 8 from rfl, l66s s 8 i (by omega), (htr i hi).2, has_e (by omega) (by omega), cl_s, one_shl i (by omega), show (0 : Int32) = nI 0 from rfl, fa_or, fa_or, lt_e, lt_e, nI_1]
    cases m.testBit i
    · rw [if_neg Bool.false_ne_true, if_pos rfl]; rfl
    · rw [if_pos rfl, if_neg (by decide)]
      cases (tr i).testBit t
      · rw [if_neg Bool.false_ne_true, if_pos rfl]; rfl
      · rw [if_pos rfl, if_neg (by decide)]; rfl
theorem hiM_and {m h : Nat} (hm : m < 256) (hh : h < 2 ^ 32) : hiM m (m &&& h) = hiM m h := by
  have : m &&& h ≤ m := Nat.and_le_left
  apply Nat.eq_of_testBit_eq
  intro i
  rw [hiM_test (by omega) hm, hiM_test hh hm, Nat.testBit_and]
  cases m.testBit i <;> cases h.testBit i <;> rfl
theorem deep_e (h : TDp T tr s) {m t : Nat} (hm : m < 2 ^ T) (ht : t < 5) : fX7_deepBy (nI m) (nI t) s = some (byD (HT tr T) (s 72) m t, s) := by
  have h8 : (2 : Nat) ^ T ≤ 256 := Nat.pow_le_pow_right (n := 2) (by omega) h.1
  have hH := HT_lt tr h.1
  have l1 : m &&& HT tr T t ≤ m := Nat.and_le_left
  have l2 := hiM_le m (HT tr T t)
  have e : ∀ a b : Nat, m &&& (2 ^ 32 - (a + 1)) = hiM m a := fun _ _ => rfl
  unfold fX7_deepBy
  rw [havers_e h hm ht, cl_s, nand_nI (by omega), e _ 0, hiM_and (by omega) (hH t), lt_e, al_nI (by omega) (by omega)]
  simp only [al_nI (g := s) (a := 72) (n := 256) (show m &&& HT tr T t < 256 by omega) (by omega), al_nI (g := s) (a := 72) (n := 256) (show hiM m (HT tr T t) < 256 by omega) (by omega)]
  unfold byD
  by_cases h1 : m &&& HT tr T t = 0
  · rw [if_pos (by rw [h1]; rfl), if_neg (by simp [spl, h1])]
  · rw [if_neg (nI_ne0 (by omega) (by omega))]
    by_cases h2 : hiM m (HT tr T t) = 0
    · rw [if_pos (by rw [h2]; rfl), if_neg (by simp [spl, h2])]
    · rw [if_neg (nI_ne0 (by omega) (by omega)), if_pos (spl_iff.mpr ⟨h1, h2⟩)]
      by_cases a1 : s 72 (m &&& HT tr T t) < 0
      · rw [if_pos a1, if_pos a1]
      · rw [if_neg a1, if_neg a1]
        by_cases a2 : 0 ≤ s 72 (hiM m (HT tr T t))
        · rw [if_pos a2, if_pos a2]
          by_cases a3 : s 72 (m &&& HT tr T t) ≤ s 72 (hiM m (HT tr T t))
          · rw [if_pos a3, if_pos a3]
          · rw [if_neg a3, if_neg a3]
        · rw [if_neg a2, if_neg a2]
def fstD (H : Nat → Nat) (d : Nat → Int32) (m t : Nat) : Int32 := if 2 ≤ pcn m then (vf H d m t).1 else 0
def sndD (H : Nat → Nat) (d : Nat → Int32) (m t : Nat) : Int32 := if 2 ≤ pcn m then (vf H d m t).2 else -1000000
theorem inner7 {gg : Mem} {m : Nat} {d : Nat → Int32} {l1 l2 : Int32} {K : Int32 → Int32 → Mem → Option (Int32 × Mem)} (h : TDp T tr gg) (hm : m < 2 ^ T) : fX7_tree_L73 l1 l2 (nI m) K FU (-1000000) 0 (upR gg 72 (upd d m (fstD (HT tr T) d m 0))) = K (sndD (HT tr T) d m 5) (nI 5) (upR gg 72 (upd d m (fstD (HT tr T) d m 5))) := by
  have h8 : (2 : Nat) ^ T ≤ 256 := Nat.pow_le_pow_right (n := 2) (by omega) h.1
  have hH := HT_lt tr h.1
  refine loopI (fun n t (w : Int32 × Mem) => fX7_tree_L73 l1 l2 (nI m) K n w.1 (nI t) w.2) _ (fun t w => w.1 = sndD (HT tr T) d m t ∧ w.2 = upR gg 72 (upd d m (fstD (HT tr T) d m t))) 5 ?_ ?_ 5 FU 0 (-1000000, upR gg 72 (upd d m (fstD (HT tr T) d m 0))) (by omega) (by rw [FU_e]; omega) ⟨by unfold sndD vf; simp, rfl⟩
  · rintro n ⟨w1, w2⟩ ⟨rfl, rfl⟩
    show fX7_tree_L73 l1 l2 (nI m) K (n + 1) _ (nI 5) _ = _
    rw [fX7_tree_L73, if_pos (show (5 : Int32) ≤ nI 5 by decide)]
  · rintro n t ⟨w1, w2⟩ ht ⟨e1, e2⟩
    dsimp only at e1 e2
    have hTD : TDp T tr w2 := by
      refine ⟨h.1, ?_, fun i hi => ⟨(h.2.2 i hi).1, ?_⟩⟩
      · rw [e2, upR_a, if_neg (by omega)]; exact h.2.1
      · rw [e2, upR_a, if_neg (by omega)]; exact (h.2.2 i hi).2
    have e72 : w2 72 m = fstD (HT tr T) d m t := by rw [e2, upR_a, if_pos rfl, upd_a, if_pos rfl]
    have eby : byD (HT tr T) (w2 72) m t = byD (HT tr T) d m t := byD_congr (by omega) (hH t) (fun x hx => by rw [e2, upR_a, if_pos rfl, upd_a, if_neg (by omega)])
    have est : ∀ v, up w2 72 m v = upR gg 72 (upd d m v) := by
      intro v
      rw [e2, up_upR56]
      congr 1
      funext j
      simp only [upd_a]
      by_cases hj : j = m
      · rw [if_pos hj, if_pos hj]
      · rw [if_neg hj, if_neg hj, if_neg hj]
    have hp : pcn m ≤ 8 := by unfold pcn; omega
    refine ⟨(sndD (HT tr T) d m (t + 1), upR gg 72 (upd d m (fstD (HT tr T) d m (t + 1)))), ⟨rfl, rfl⟩, ?_⟩
    show fX7_tree_L73 l1 l2 (nI m) K (n + 1) w1 (nI t) w2 = fX7_tree_L73 l1 l2 (nI m) K n _ (nI (t + 1)) _
    rw [fX7_tree_L73, if_neg (show ¬ (5 : Int32) ≤ nI t from (show ¬ nI 5 ≤ nI t from nI_ge ht (by omega))), bits_e (by omega), cl_s, deep_e hTD hm ht, cl_s, nI_1]
    by_cases h2 : 2 ≤ pcn m
    · rw [if_pos (show (2 : Int32) ≤ nI (pcn m) from (show nI 2 ≤ nI (pcn m) from nI_le h2 (by omega)))]
      rw [al_nI (by omega) (by omega), al_nI (by omega) (by omega), as_nI (by omega) (by omega), e72, est, eby, e1]
      dsimp only
      unfold fstD sndD at *
      simp only [if_pos h2] at e1 e2 e72 ⊢
      rw [vf]
      by_cases b1 : byD (HT tr T) d m t < 0
      · rw [if_pos b1, if_pos b1, e2]
      · rw [if_neg b1, if_neg b1]
        by_cases b2 : (vf (HT tr T) d m t).1 < 0
        · rw [if_pos b2, if_pos b2]
        · rw [if_neg b2, if_neg b2]
          by_cases b3 : (vf (HT tr T) d m t).1 ≤ byD (HT tr T) d m t
          · rw [if_pos b3, if_pos b3, e2]
          · rw [if_neg b3, if_neg b3]
    · rw [if_neg (show ¬ (2 : Int32) ≤ nI (pcn m) from (show ¬ nI 2 ≤ nI (pcn m) from nI_ge (by omega) (by omega))), if_pos (show (-1 : Int32) < 0 by decide), e1, e2]
      unfold fstD sndD
      simp only [if_neg h2]
theorem table7 {gg : Mem} {M : Nat} {v : Int32} {K : Int32 → Int32 → Mem → Option (Int32 × Mem)} (h : TDp T tr gg) (hM : M < 2 ^ T) : ∃ d, fX7_tree_L40 (nI M) v K FU (-1000000) 0 gg = K (sndD (HT tr T) d M 5) (nI (M + 1)) (upR gg 72 d) ∧ ∀ m, m ≤ M → d m = stD (HT tr T) d m := by
  have h8 : (2 : Nat) ^ T ≤ 256 := Nat.pow_le_pow_right (n := 2) (by omega) h.1
  have hH := HT_lt tr h.1
  have main : ∀ e n m d l, m + e = M + 1 → e < n → (∀ m', m' < m → d m' = stD (HT tr T) d m') → (0 < m → l = sndD (HT tr T) d (m - 1) 5) → ∃ d', fX7_tree_L40 (nI M) v K n l (nI m) (upR gg 72 d) = K (sndD (HT tr T) d' M 5) (nI (M + 1)) (upR gg 72 d') ∧ ∀ m, m ≤ M → d' m = stD (HT tr T) d' m := by
    intro e
    induction e with
    | zero =>
      intro n m d l h1 h2 h3 h4
      obtain ⟨n, rfl⟩ : ∃ k, n = k + 1 := ⟨n - 1, by omega⟩
      have : m = M + 1 := by omega
      subst this
      refine ⟨d, ?_, fun m hm => h3 m (by omega)⟩
      rw [fX7_tree_L40, if_pos (nI_lt (by omega) (by omega)), h4 (by omega)]; rfl
    | succ e ih =>
      intro n m d l h1 h2 h3 h4
      obtain ⟨n, rfl⟩ : ∃ k, n = k + 1 := ⟨n - 1, by omega⟩
      have hTD : TDp T tr (upR gg 72 d) := ⟨h.1, by rw [upR_a, if_neg (by omega)]; exact h.2.1, fun i hi => ⟨(h.2.2 i hi).1, by rw [upR_a, if_neg (by omega)]; exact (h.2.2 i hi).2⟩⟩
      have hp : pcn m ≤ 8 := by unfold pcn; omega
      rw [fX7_tree_L40, if_neg (nI_nlt (by omega) (by omega)), bits_e (by omega), cl_s, as_nI (by omega) (by omega), as_nI (by omega) (by omega), up_upR56, up_upR56]
      have fin : ∃ d', fX7_tree_L40 (nI M) v K n (sndD (HT tr T) d m 5) (nI (m + 1)) (upR gg 72 (upd d m (fstD (HT tr T) d m 5))) = K (sndD (HT tr T) d' M 5) (nI (M + 1)) (upR gg 72 d') ∧ ∀ m, m ≤ M → d' m = stD (HT tr T) d' m := by
        have hag : ∀ x, x < m → (upd d m (fstD (HT tr T) d m 5)) x = d x := fun x hx => by rw [upd_a, if_neg (by omega)]
        refine ih n (m + 1) (upd d m (fstD (HT tr T) d m 5)) _ (by omega) (by omega) (fun m' hm' => ?_) (fun _ => ?_)
        · have hc : stD (HT tr T) (upd d m (fstD (HT tr T) d m 5)) m' = stD (HT tr T) d m' := by
            unfold stD
            rw [vf_congr (by omega) hH (fun x hx => hag x (by omega))]
          rw [hc, upd_a]
          by_cases he : m' = m
          · rw [if_pos he, he]; rfl
          · rw [if_neg he]; exact h3 m' (by omega)
        · show _ = sndD _ _ m 5
          unfold sndD
          rw [vf_congr (f := upd d m (fstD (HT tr T) d m 5)) (f' := d) (by omega) hH (fun x hx => hag x (by omega))]
      by_cases h2 : 2 ≤ pcn m
      · rw [if_pos (show (2 : Int32) ≤ nI (pcn m) from (show nI 2 ≤ nI (pcn m) from nI_le h2 (by omega)))]
        have e0 : (-1 : Int32) = fstD (HT tr T) d m 0 := by unfold fstD vf; rw [if_pos h2]
        rw [e0, inner7 h (by omega), nI_1]; exact fin
      · rw [if_neg (show ¬ (2 : Int32) ≤ nI (pcn m) from (show ¬ nI 2 ≤ nI (pcn m) from nI_ge (by omega) (by omega)))]
        have e0 : upd d m (0 : Int32) = upd d m (fstD (HT tr T) d m 0) := by unfold fstD vf; rw [if_neg h2]
        rw [e0, inner7 h (by omega), nI_1]; exact fin
  obtain ⟨d', h1, h2⟩ := main (M + 1) FU 0 (gg 72) (-1000000) (by omega) (by rw [FU_e]; omega) (fun m' h => absurd h (by omega)) (fun h => absurd h (by omega))
  refine ⟨d', ?_, h2⟩
  rw [← h1, upR_self]; rfl
end TY
