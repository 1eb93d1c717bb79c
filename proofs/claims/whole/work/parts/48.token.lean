theorem rE_D {b : Nat → Nat} {d e : Nat} : rE b d e ≠ e ↔ 0 < d ∧ isD (b e) = true := by
  cases d with
  | zero => exact ⟨fun h => absurd rfl h, fun h => absurd h.1 (by omega)⟩
  | succ d =>
    rw [rE]
    by_cases h : isD (b e) = true
    · rw [if_pos h]; have := rE_ge b d (e + 1); exact ⟨fun _ => ⟨by omega, h⟩, fun _ => by omega⟩
    · rw [if_neg h]; exact ⟨fun hh => absurd rfl hh, fun hh => absurd hh.2 h⟩
/-- a sign: a small letter, a comma, a semicolon -/
def isL (x : Nat) : Bool := (decide (97 ≤ x) && decide (x ≤ 122)) || decide (x = 44) || decide (x = 59)
def tk (b : Nat → Nat) (q p : Nat) : Int32 := if p = q then -2 else if isD (b p) = true then (if rE b (q - p) p - p ≤ 3 then -1 else -3) else if isL (b p) = true then nI (b p) else -3
def te (b : Nat → Nat) (q p : Nat) : Nat := if p = q then p else if isD (b p) = true then rE b (q - p) p else p + 1
def tv (b : Nat → Nat) (q p : Nat) : Nat := if p = q then 0 else if isD (b p) = true then rV b p (q - p) p 0 else 0
theorem te_le {b : Nat → Nat} {q p : Nat} (hp : p ≤ q) : p ≤ te b q p ∧ te b q p ≤ q ∧ (p < q → p < te b q p) := by
  unfold te
  by_cases h : p = q
  · rw [if_pos h]; omega
  · rw [if_neg h]
    by_cases hD : isD (b p) = true
    · rw [if_pos hD]; have := rE_ge b (q - p) p; have := (rE_D (b := b) (d := q - p) (e := p)).mpr ⟨by omega, hD⟩; omega
    · rw [if_neg hD]; omega
theorem tv_lt {b : Nat → Nat} {q p : Nat} : tv b q p < 1000 := by
  unfold tv
  by_cases h : p = q
  · rw [if_pos h]; omega
  · rw [if_neg h]
    by_cases hD : isD (b p) = true
    · rw [if_pos hD]; exact rV_lt b p (q - p) p 0 (Nat.le_refl p) (by rw [Nat.sub_self]; decide)
    · rw [if_neg hD]; omega
def Tok (m m' : Mem) (b : Nat → Nat) (q p : Nat) : Prop := (∀ k, k ≠ 61 → m' k = m k) ∧ (∀ j, j < 6 ∨ 9 < j → m' 61 j = m 61 j) ∧ m' 61 7 = nI p ∧ m' 61 6 = nI (te b q p) ∧ m' 61 8 = tk b q p ∧ m' 61 9 = nI (tv b q p)
theorem next7_e {q : Nat} {b : Nat → Nat} {m : Mem} {p : Nat} (h : Tp7 q b m) (hp : p ≤ q) (h6 : m 61 6 = nI p) : ∃ m', fX7_nextToken m = some (0, m') ∧ Tok m m' b q p := by
  have h' := h
  obtain ⟨hq, h4, hb⟩ := h'
  unfold fX7_nextToken Tok
  rw [pf_e, pf_e, h6]
  have e6 : (up (up m 61 7 (nI p)) 61 9 0) 61 6 = nI p := by simp [up_a, upd_a, h6]
  have e4 : (up (up m 61 7 (nI p)) 61 9 0) 61 4 = nI q := by simp [up_a, upd_a, h4]
  have e7 : (up (up m 61 7 (nI p)) 61 9 0) 61 7 = nI p := by simp [up_a, upd_a]
  have e9 : (up (up m 61 7 (nI p)) 61 9 0) 61 9 = nI 0 := by simp [up_a, upd_a]; rfl
  have ek : ∀ k, k ≠ 61 → (up (up m 61 7 (nI p)) 61 9 0) k = m k := fun k hk => by simp [up_a, hk]
  have ej : ∀ j, j ≠ 7 → j ≠ 9 → (up (up m 61 7 (nI p)) 61 9 0) 61 j = m 61 j := fun j h1 h2 => by simp [up_a, upd_a, h1, h2]
  generalize up (up m 61 7 (nI p)) 61 9 0 = M at e6 e4 e7 e9 ek ej
  rw [e6, e4]
  have fin : ∀ (v : Int32) (f : Nat), ∃ m', some ((0 : Int32), up (up M 61 8 v) 61 6 (nI f)) = some (0, m') ∧ (∀ k, k ≠ 61 → m' k = m k) ∧ (∀ j, j < 6 ∨ 9 < j → m' 61 j = m 61 j) ∧ m' 61 7 = nI p ∧ m' 61 6 = nI f ∧ m' 61 8 = v ∧ m' 61 9 = nI 0 := fun v f =>
    ⟨_, rfl, fun k hk => by simp [up_a, hk, ek k hk], fun j hj => by simp only [up_a, upd_a, reduceIte]; rw [if_neg (by omega), if_neg (by omega), ej j (by omega) (by omega)], by simp [up_a, upd_a, e7], by simp [up_a, upd_a], by simp [up_a, upd_a], by simp [up_a, upd_a, e9]⟩
  by_cases hpq : p = q
  · rw [if_pos (by rw [hpq]), pf_e]
    have hte : te b q p = p := by unfold te; rw [if_pos hpq]
    have htk : tk b q p = -2 := by unfold tk; rw [if_pos hpq]
    have htv : tv b q p = 0 := by unfold tv; rw [if_pos hpq]
    rw [hte, htk, htv]
    exact ⟨_, rfl, fun k hk => by simp [up_a, hk, ek k hk], fun j hj => by simp only [up_a, upd_a, reduceIte]; rw [if_neg (by omega), ej j (by omega) (by omega)], by simp [up_a, upd_a, e7], by simp [up_a, upd_a, e6], by simp [up_a, upd_a], by simp [up_a, upd_a, e9]⟩
  have hbp := hb p (by omega)
  have e65 : M 65 p = nI (b p) := by rw [ek 65 (by omega)]; exact hbp.2
  rw [if_neg (fun hc => hpq ((nI_eq (by omega) (by omega)).mp hc)), al_nI (by omega) (by omega), e65, show (48 : Int32) = nI 48 from rfl, show (57 : Int32) = nI 57 from rfl, show (97 : Int32) = nI 97 from rfl, show (122 : Int32) = nI 122 from rfl, show (44 : Int32) = nI 44 from rfl, show (59 : Int32) = nI 59 from rfl, in_nI (by omega) (by omega) (by omega), cl_s, e6, al_nI (by omega) (by omega), e65, in_nI (by omega) (by omega) (by omega), cl_s]
  have eD : (decide (48 ≤ b p) && decide (b p ≤ 57)) = isD (b p) := rfl
  rw [eD]
  by_cases hD : isD (b p) = true
  · rw [if_pos hD, if_neg (by decide)]
    have hte : te b q p = rE b (q - p) p := by unfold te; rw [if_neg hpq, if_pos hD]
    have htk : tk b q p = if rE b (q - p) p - p ≤ 3 then -1 else -3 := by unfold tk; rw [if_neg hpq, if_pos hD]
    have htv : tv b q p = rV b p (q - p) p 0 := by unfold tv; rw [if_neg hpq, if_pos hD]
    have hge := rE_ge b (q - p) p
    obtain ⟨m', x1, x2, x3, x4, x5⟩ := num7_L (K := fun g26 => if ((g26 61 6) - (g26 61 7)) ≤ (3 : Int32) then (pf g26 61 8 (-1 : Int32) fun g27 => (some (0, g27))) else (pf g26 61 8 (-3 : Int32) fun g28 => (some (0, g28)))) (m0 := M) (q := q) (b := b) (p := p) ⟨hq, e4, fun j hj => ⟨(hb j hj).1, by rw [ek 65 (by omega)]; exact (hb j hj).2⟩⟩ (q - p) FU p 0 M (fun _ _ => rfl) (fun _ _ _ => rfl) e7 e6 e9 (by omega) (by rw [FU_e]; omega) (Nat.le_refl p) (by rw [Nat.sub_self]; decide)
    rw [x5, hte, htk, htv]
    rw [x3, x2 7 (by omega) (by omega), e7, pk_sub (by omega), show (3 : Int32) = nI 3 from rfl]
    have fin2 : ∀ v : Int32, ∃ m'', some ((0 : Int32), up m' 61 8 v) = some (0, m'') ∧ (∀ k, k ≠ 61 → m'' k = m k) ∧ (∀ j, j < 6 ∨ 9 < j → m'' 61 j = m 61 j) ∧ m'' 61 7 = nI p ∧ m'' 61 6 = nI (rE b (q - p) p) ∧ m'' 61 8 = v ∧ m'' 61 9 = nI (rV b p (q - p) p 0) := fun v =>
      ⟨_, rfl, fun k hk => by simp [up_a, hk, x1 k hk, ek k hk], fun j hj => by simp only [up_a, upd_a, reduceIte]; rw [if_neg (by omega), x2 j (by omega) (by omega), ej j (by omega) (by omega)], by simp [up_a, upd_a, x2 7, e7], by simp [up_a, upd_a, x3], by simp [up_a, upd_a], by simp [up_a, upd_a, x4]⟩
    by_cases h3 : rE b (q - p) p - p ≤ 3
    · rw [if_pos (nI_le h3 (by omega)), if_pos h3, pf_e]; exact fin2 _
    · rw [if_neg (nI_ge (by omega) (by omega)), if_neg h3, pf_e]; exact fin2 _
  · rw [if_neg hD, if_pos rfl]
    have hte : te b q p = p + 1 := by unfold te; rw [if_neg hpq, if_neg hD]
    have htk : tk b q p = if isL (b p) = true then nI (b p) else -3 := by unfold tk; rw [if_neg hpq, if_neg hD]
    have htv : tv b q p = 0 := by unfold tv; rw [if_neg hpq, if_neg hD]
    rw [hte, htk, htv]
    have e68 : ∀ v, (up M 61 8 v) 61 6 + 1 = nI (p + 1) := fun v => by simp only [up_a, upd_a, reduceIte]; rw [if_neg (by omega), e6, nI_1]
    simp only [pf_e, e68]
    have e44 : (nI (b p) = nI 44) ↔ b p = 44 := nI_eq (by omega) (by omega)
    have e59 : (nI (b p) = nI 59) ↔ b p = 59 := nI_eq (by omega) (by omega)
    by_cases hl : (decide (97 ≤ b p) && decide (b p ≤ 122)) = true
    · rw [if_pos hl, if_neg (by decide), if_pos (show isL (b p) = true by unfold isL; rw [hl]; rfl)]; exact fin _ _
    · rw [if_neg hl, if_pos rfl]
      by_cases h44 : b p = 44
      · rw [if_pos (e44.mpr h44), if_pos (show isL (b p) = true by unfold isL; simp [h44])]; exact fin _ _
      · rw [if_neg (fun hc => h44 (e44.mp hc))]
        by_cases h59 : b p = 59
        · rw [if_pos (e59.mpr h59), if_pos (show isL (b p) = true by unfold isL; simp [h59])]; exact fin _ _
        · rw [if_neg (fun hc => h59 (e59.mp hc)), if_neg (show ¬ isL (b p) = true by unfold isL; rw [show (decide (97 ≤ b p) && decide (b p ≤ 122)) = false by simpa using hl]; simp [h44, h59])]; exact fin _ _
