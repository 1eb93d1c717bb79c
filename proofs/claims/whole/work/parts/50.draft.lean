/-! the draft and the reference's row, emptied -/
def FC (c c' : Mem) : Prop := (∀ k, k ≠ 5 → ¬ (17 ≤ k ∧ k ≤ 26) → c' k = c k) ∧ c' 5 1 = c 5 1
def FM (m m' : Mem) : Prop := (∀ k, k ≠ 61 → k ≠ 67 → m' k = m k) ∧ (∀ j, j < 6 ∨ j = 10 ∨ 11 < j → m' 61 j = m 61 j)
theorem FC.trans {a b c : Mem} (h : FC a b) (h' : FC b c) : FC a c := ⟨fun k h1 h2 => by rw [h'.1 k h1 h2, h.1 k h1 h2], by rw [h'.2, h.2]⟩
theorem FM.trans {a b c : Mem} (h : FM a b) (h' : FM b c) : FM a c := ⟨fun k h1 h2 => by rw [h'.1 k h1 h2, h.1 k h1 h2], fun j hj => by rw [h'.2 j hj, h.2 j hj]⟩
theorem FC.rfl' {a : Mem} : FC a a := ⟨fun _ _ _ => rfl, rfl⟩
theorem FM.rfl' {a : Mem} : FM a a := ⟨fun _ _ _ => rfl, fun _ _ => rfl⟩
theorem Tp6_FC {q : Nat} {b : Nat → Nat} {c c' : Mem} (h : Tp6 q b c) (hf : FC c c') : Tp6 q b c' := ⟨h.1, by rw [hf.2]; exact h.2.1, fun j hj => by rw [hf.1 6 (by omega) (by omega)]; exact h.2.2 j hj⟩
theorem Tp7_FM {q : Nat} {b : Nat → Nat} {m m' : Mem} (h : Tp7 q b m) (hf : FM m m') : Tp7 q b m' := ⟨h.1, by rw [hf.2 4 (by omega)]; exact h.2.1, fun j hj => by rw [hf.1 65 (by omega) (by omega)]; exact h.2.2 j hj⟩
theorem St_FM {m m' : Mem} {p f v : Nat} (h : St m m' p f v) : FM m m' := ⟨fun k h1 _ => h.1 k h1, h.2.1⟩
theorem Fl_FM {m m' : Mem} {p : Nat} {w : Int32} (h : Fl m m' p w) : FM m m' := ⟨fun k h1 _ => h.1 k h1, h.2.1⟩
/-- the draft and the reference's row say the same: T things, Q riddles, S suitors -/
def DR (T Q S : Nat) (tr : Nat → Nat) (c m : Mem) : Prop :=
  (T ≤ 8 ∧ Q ≤ 6 ∧ S ≤ 4) ∧ c 17 0 = 1 ∧ (c 17 3 = nI T ∧ m 67 3 = nI T) ∧ (c 17 5 = nI Q ∧ m 67 4 = nI Q) ∧ (c 17 10 = nI S ∧ m 67 5 = nI S) ∧ (c 17 15 = 0 ∧ c 17 16 = 0 ∧ m 67 6 = 0 ∧ m 67 7 = 0) ∧
  (∀ i, i < T → tr i < 32 ∧ c 18 i = nI (tr i) ∧ m 67 (8 + i) = nI (tr i)) ∧
  (∀ i, i < Q → ∃ sk yy nn : Nat, (1 ≤ sk ∧ sk ≤ 5 ∧ yy < 32 ∧ nn < 32) ∧ c 19 i = nI sk ∧ m 67 (16 + i) = nI sk ∧ c 20 i = nI yy ∧ m 67 (22 + i) = nI yy ∧ c 21 i = nI nn ∧ m 67 (28 + i) = nI nn ∧ c 22 i = nI (fset tr sk yy nn T)) ∧
  (∀ i, i < S → ∃ x : Nat, x < 2 ^ T ∧ c 23 i = nI x ∧ m 67 (34 + i) = nI x) ∧
  (∀ i, i < 4 → c 24 i = 0 ∧ c 25 i = 0 ∧ c 26 i = 0 ∧ m 67 (38 + i) = 0 ∧ m 67 (42 + i) = 0 ∧ m 67 (46 + i) = 0)
/-- the law's two numbers -/
def DL (c m : Mem) : Prop := ∃ x y : Nat, x ≤ 255 ∧ y ≤ 99 ∧ c 17 1 = nI x ∧ m 67 1 = nI x ∧ c 17 2 = nI y ∧ m 67 2 = nI y
theorem clear17 (c : Mem) : ∃ c', fX2_clear 17 c = some (0, c') ∧ FC c c' ∧ c' 5 = c 5 ∧ c' 17 0 = 1 ∧ c' 17 3 = 0 ∧ c' 17 5 = 0 ∧ c' 17 10 = 0 ∧ c' 17 15 = 0 ∧ c' 17 16 = 0 ∧ ∀ i, i < 4 → c' 24 i = 0 ∧ c' 25 i = 0 ∧ c' 26 i = 0 := by
  unfold fX2_clear pz
  rw [if_pos (Or.inr rfl)]
  simp only [pf_e, fill2 _ _ _ _ (show 4 < 60000 by omega), cl_s]
  refine ⟨_, rfl, ⟨fun k h1 h2 => ?_, ?_⟩, ?_, ?_, ?_, ?_, ?_, ?_, ?_, fun i hi => ⟨?_, ?_, ?_⟩⟩
  · have : k ≠ 17 := by omega
    have : k ≠ 24 := by omega
    have : k ≠ 25 := by omega
    have : k ≠ 26 := by omega
    simp [upR_a, up_a, *]
  · simp [upR_a, up_a]
  · simp [upR_a, up_a]
  all_goals simp [upR_a, up_a, upd_a, *]
theorem zero67 {K : Int32 → Mem → Option (Int32 × Mem)} (m : Mem) : fX7_isRead_L7 K FU 0 m = K (nI 50) (upR m 67 (fun j => if j < 50 then 0 else m 67 j)) := by
  refine loopI (fun n i s => fX7_isRead_L7 K n (nI i) s) _ (fun i s => s = upR m 67 (fun j => if j < i then 0 else m 67 j)) 50 ?_ ?_ 50 FU 0 m (by omega) (by rw [FU_e]; omega) ?_
  · rintro n s rfl
    show fX7_isRead_L7 K (n + 1) (nI 50) _ = _
    rw [fX7_isRead_L7, if_pos (show (50 : Int32) ≤ nI 50 by decide)]
  · rintro n i s hi hs
    refine ⟨_, rfl, ?_⟩
    show fX7_isRead_L7 K (n + 1) (nI i) s = _
    rw [fX7_isRead_L7, if_neg (show ¬ (50 : Int32) ≤ nI i from (show ¬ nI 50 ≤ nI i from nI_ge hi (by omega))), as_nI (by omega) (by omega), nI_1, hs, up_upR56]
    congr 2
    funext j
    rw [upd_a]
    by_cases hj : j = i
    · rw [if_pos hj, if_pos (by omega)]
    · rw [if_neg hj]
      by_cases hji : j < i
      · rw [if_pos hji, if_pos (by omega)]
      · rw [if_neg hji, if_neg (by omega)]
  · funext a
    rw [upR_a]
    by_cases ha : a = 67
    · rw [if_pos ha, ha]; funext j; rw [if_neg (by omega)]
    · rw [if_neg ha]
