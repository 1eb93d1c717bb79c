/-! the tape, read by both -/
def isD (x : Nat) : Bool := decide (48 ≤ x) && decide (x ≤ 57)
/-- where the run of digits ends: d bytes are left -/
def rE (b : Nat → Nat) : Nat → Nat → Nat
  | 0, e => e
  | d + 1, e => if isD (b e) then rE b d (e + 1) else e
/-- its number, of the first three digits -/
def rV (b : Nat → Nat) (p : Nat) : Nat → Nat → Nat → Nat
  | 0, _, v => v
  | d + 1, e, v => if isD (b e) then rV b p d (e + 1) (if 3 ≤ e - p then v else 10 * v + b e - 48) else v
theorem rE_ge (b : Nat → Nat) : ∀ d e, e ≤ rE b d e ∧ rE b d e ≤ e + d := by
  intro d
  induction d with
  | zero => intro e; exact ⟨Nat.le_refl e, Nat.le_refl e⟩
  | succ d ih =>
    intro e
    rw [rE]
    by_cases h : isD (b e) = true
    · rw [if_pos h]; have := ih (e + 1); omega
    · rw [if_neg h]; omega
theorem rV_lt (b : Nat → Nat) (p : Nat) : ∀ d e v, p ≤ e → v < 10 ^ (min (e - p) 3) → rV b p d e v < 1000 := by
  intro d
  induction d with
  | zero => intro e v _ hv; exact Nat.lt_of_lt_of_le hv (Nat.pow_le_pow_right (n := 10) (by omega) (by omega : min (e - p) 3 ≤ 3))
  | succ d ih =>
    intro e v he hv
    rw [rV]
    by_cases h : isD (b e) = true
    · rw [if_pos h]
      apply ih (e + 1) _ (by omega)
      by_cases h3 : 3 ≤ e - p
      · rw [if_pos h3, show min (e + 1 - p) 3 = min (e - p) 3 by omega]; exact hv
      · rw [if_neg h3, show min (e + 1 - p) 3 = min (e - p) 3 + 1 by omega, Nat.pow_succ]
        unfold isD at h
        rw [Bool.and_eq_true, decide_eq_true_eq, decide_eq_true_eq] at h
        omega
    · rw [if_neg h]; exact Nat.lt_of_lt_of_le hv (Nat.pow_le_pow_right (n := 10) (by omega) (by omega : min (e - p) 3 ≤ 3))
/-- the class's tape in a memory -/
def Tp6 (q : Nat) (b : Nat → Nat) (c : Mem) : Prop := q ≤ 120 ∧ c 5 1 = nI q ∧ ∀ j, j < 120 → b j < 256 ∧ c 6 j = nI (b j)
def Tp7 (q : Nat) (b : Nat → Nat) (m : Mem) : Prop := q ≤ 120 ∧ m 61 4 = nI q ∧ ∀ j, j < 120 → b j < 256 ∧ m 65 j = nI (b j)
theorem num6_L {q : Nat} {b : Nat → Nat} {c : Mem} {p : Nat} {l1 l2 : Int32} {K : Int32 → Int32 → Mem → Option (Int32 × Mem)} (h : Tp6 q b c) (hp : c 5 2 = nI p) : ∀ d n e v, e + d = q → d < n → p ≤ e → v < 10 ^ (min (e - p) 3) → fX5_takesNumber_L8 l1 l2 K n (nI e) (nI v) c = K (nI (rE b d e)) (nI (rV b p d e v)) c := by
  obtain ⟨hq, h1, h6⟩ := h
  intro d
  induction d with
  | zero =>
    intro n e v h2 h3 h4 h5
    obtain ⟨n, rfl⟩ : ∃ k, n = k + 1 := ⟨n - 1, by omega⟩
    rw [fX5_takesNumber_L8, h1, if_pos (nI_le (by omega) (by omega))]; rfl
  | succ d ih =>
    intro n e v h2 h3 h4 h5
    obtain ⟨n, rfl⟩ : ∃ k, n = k + 1 := ⟨n - 1, by omega⟩
    have hb := h6 e (by omega)
    have hv3 : v < 1000 := Nat.lt_of_lt_of_le h5 (Nat.pow_le_pow_right (n := 10) (by omega) (by omega : min (e - p) 3 ≤ 3))
    rw [fX5_takesNumber_L8, h1, if_neg (nI_ge (by omega) (by omega)), al_nI (by omega) (by omega), al_nI (by omega) (by omega), al_nI (by omega) (by omega), hb.2, hp, pk_sub h4, show (10 : Int32) = nI 10 from rfl, show (48 : Int32) = nI 48 from rfl, show (57 : Int32) = nI 57 from rfl, show (3 : Int32) = nI 3 from rfl, lt_e, nI_1, pk_mul, nI_add, rE, rV]
    by_cases h48 : 48 ≤ b e
    rotate_left
    · rw [if_pos (nI_lt (by omega) (by omega)), if_neg (by simp [isD, h48]), if_neg (by simp [isD, h48])]
    rw [if_neg (nI_nlt h48 (by omega))]
    by_cases h57 : b e ≤ 57
    rotate_left
    · rw [if_pos (nI_lt (by omega) (by omega)), if_neg (by simp [isD, h57]), if_neg (by simp [isD, h57])]
    have hD : isD (b e) = true := by simp [isD, h48, h57]
    rw [if_neg (nI_nlt h57 (by omega)), if_pos hD, if_pos hD, pk_sub (by omega)]
    by_cases h33 : 3 ≤ e - p
    · rw [if_pos (nI_le h33 (by omega)), if_pos h33]
      exact ih n (e + 1) v (by omega) (by omega) (by omega) (by rw [show min (e + 1 - p) 3 = min (e - p) 3 by omega]; exact h5)
    · rw [if_neg (nI_ge (by omega) (by omega)), if_neg h33]
      refine ih n (e + 1) _ (by omega) (by omega) (by omega) ?_
      rw [show min (e + 1 - p) 3 = min (e - p) 3 + 1 by omega, Nat.pow_succ]
      omega
theorem in_nI {x a c : Nat} (hx : x < 2 ^ 31) (ha : a < 2 ^ 31) (hc : c < 2 ^ 31) (g : Mem) : fX7_in (nI x) (nI a) (nI c) g = some (if (decide (a ≤ x) && decide (x ≤ c)) = true then 1 else 0, g) := by
  unfold fX7_in
  by_cases h1 : a ≤ x
  · rw [if_neg (nI_nlt h1 hx)]
    by_cases h2 : x ≤ c
    · rw [if_neg (nI_nlt h2 hc)]; simp [h1, h2]
    · rw [if_pos (nI_lt (by omega) hx)]; simp [h2]
  · rw [if_pos (nI_lt (by omega) ha)]; simp [h1]
theorem num7_L {q : Nat} {b : Nat → Nat} {m0 : Mem} {p : Nat} {K : Mem → Option (Int32 × Mem)} (h : Tp7 q b m0) : ∀ d n e v (m : Mem), (∀ k, k ≠ 61 → m k = m0 k) → (∀ j, j ≠ 6 → j ≠ 9 → m 61 j = m0 61 j) → m0 61 7 = nI p → m 61 6 = nI e → m 61 9 = nI v → e + d = q → d < n → p ≤ e → v < 10 ^ (min (e - p) 3) → ∃ m' : Mem, (∀ k, k ≠ 61 → m' k = m0 k) ∧ (∀ j, j ≠ 6 → j ≠ 9 → m' 61 j = m0 61 j) ∧ m' 61 6 = nI (rE b d e) ∧ m' 61 9 = nI (rV b p d e v) ∧ fX7_nextToken_L52 K n m = K m' := by
  obtain ⟨hq, h1, h6⟩ := h
  intro d
  induction d with
  | zero =>
    intro n e v m k1 k2 k7 k3 k4 h2 h3 h4 h5
    obtain ⟨n, rfl⟩ : ∃ k, n = k + 1 := ⟨n - 1, by omega⟩
    refine ⟨m, k1, k2, k3, k4, ?_⟩
    rw [fX7_nextToken_L52, k3, k2 4 (by omega) (by omega), h1, if_pos (nI_le (by omega) (by omega))]
  | succ d ih =>
    intro n e v m k1 k2 k7 k3 k4 h2 h3 h4 h5
    obtain ⟨n, rfl⟩ : ∃ k, n = k + 1 := ⟨n - 1, by omega⟩
    have hb := h6 e (by omega)
    have hv3 : v < 1000 := Nat.lt_of_lt_of_le h5 (Nat.pow_le_pow_right (n := 10) (by omega) (by omega : min (e - p) 3 ≤ 3))
    rw [fX7_nextToken_L52, k3, k2 4 (by omega) (by omega), h1, if_neg (nI_ge (by omega) (by omega)), al_nI (by omega) (by omega), k1 65 (by omega), hb.2, show (48 : Int32) = nI 48 from rfl, show (57 : Int32) = nI 57 from rfl, in_nI (by omega) (by omega) (by omega), cl_s, rE, rV]
    have eD : (decide (48 ≤ b e) && decide (b e ≤ 57)) = isD (b e) := rfl
    rw [eD]
    by_cases hD : isD (b e) = true
    rotate_left
    · rw [if_neg hD, if_neg hD, if_neg hD, if_pos rfl]
      exact ⟨m, k1, k2, k3, k4, rfl⟩
    have hD' := hD
    unfold isD at hD'
    rw [Bool.and_eq_true, decide_eq_true_eq, decide_eq_true_eq] at hD'
    rw [if_pos hD, if_pos hD, if_pos hD, if_neg (show ¬ (1 : Int32) = 0 by decide), k3, k2 7 (by omega) (by omega), k7, pk_sub h4, show (3 : Int32) = nI 3 from rfl, k4, al_nI (by omega) (by omega), k1 65 (by omega), hb.2, show (10 : Int32) = nI 10 from rfl, pk_mul, nI_add, pk_sub (by omega)]
    by_cases h33 : 3 ≤ e - p
    · rw [if_pos (nI_le h33 (by omega)), if_pos h33, pf_e, pf_e]
      refine ih n (e + 1) v _ (fun k hk => by rw [up_a, if_neg hk, up_a, if_neg hk, k1 k hk]) (fun j j1 j2 => ?_) k7 ?_ ?_ (by omega) (by omega) (by omega) (by rw [show min (e + 1 - p) 3 = min (e - p) 3 by omega]; exact h5)
      · simp [up_a, upd_a, j1, j2, k2 j j1 j2]
      · simp only [up_a, upd_a, reduceIte]; rw [if_neg (by omega), k3, nI_1]
      · simp [up_a, upd_a]
    · rw [if_neg (nI_ge (by omega) (by omega)), if_neg h33, pf_e, pf_e]
      refine ih n (e + 1) (10 * v + b e - 48) _ (fun k hk => by rw [up_a, if_neg hk, up_a, if_neg hk, k1 k hk]) (fun j j1 j2 => ?_) k7 ?_ ?_ (by omega) (by omega) (by omega) ?_
      · simp [up_a, upd_a, j1, j2, k2 j j1 j2]
      · simp only [up_a, upd_a, reduceIte]; rw [if_neg (by omega), k3, nI_1]
      · simp [up_a, upd_a]
      · rw [show min (e + 1 - p) 3 = min (e - p) 3 + 1 by omega, Nat.pow_succ]
        omega
