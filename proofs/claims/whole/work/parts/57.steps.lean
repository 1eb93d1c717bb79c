/-! the three loops of the class beside the reference's one -/
/-- the class's next sign -/
def nx (b : Nat → Nat) (q p : Nat) : Int32 := if p = q then -1 else nI (b p)
theorem nx_e {q : Nat} {b : Nat → Nat} {c : Mem} {p : Nat} (h : Tp6 q b c) (hp : p ≤ q) (h2 : c 5 2 = nI p) : fX5_next c = some (nx b q p, c) := next6_e h hp h2
theorem nx_sign {b : Nat → Nat} {q p x : Nat} (hp : p ≤ q) (hx : x < 256) (hb : p < q → b p < 256) : (nx b q p = nI x) ↔ (p < q ∧ b p = x) := by
  unfold nx
  by_cases hpq : p = q
  · rw [if_pos hpq]; exact ⟨fun hc => absurd hc (m1_ne (by omega)), fun hc => by omega⟩
  · have := hb (by omega)
    rw [if_neg hpq, nI_eq (by omega) (by omega)]; exact ⟨fun hc => ⟨by omega, hc⟩, fun hc => hc.2⟩
theorem tk_nx {b : Nat → Nat} {q p x : Nat} (hp : p ≤ q) (hx : x < 256) (hb : p < q → b p < 256) (hl : isL x = true) : (tk b q p = nI x) ↔ (nx b q p = nI x) := (tk_sign hp hx hb hl).trans (nx_sign hp hx hb).symm
theorem srt_tk {b : Nat → Nat} {q p : Nat} (hp : p ≤ q) (hb : p < q → b p < 256) : srt (tk b q p) = srt (nx b q p) := by
  have e : ∀ x, x < 256 → isL x = true → ((tk b q p = nI x) = (nx b q p = nI x)) := fun x h1 h2 => propext (tk_nx hp h1 hb h2)
  unfold srt
  rw [show (112 : Int32) = nI 112 from rfl, show (100 : Int32) = nI 100 from rfl, show (103 : Int32) = nI 103 from rfl, show (108 : Int32) = nI 108 from rfl, show (117 : Int32) = nI 117 from rfl]
  simp only [e 112 (by omega) (by decide), e 100 (by omega) (by decide), e 103 (by omega) (by decide), e 108 (by omega) (by decide), e 117 (by omega) (by decide)]
theorem srt_L : ∀ x, x < 256 → srt (nI x) ≠ 0 → isL x = true := by decide +kernel
theorem tk_L {b : Nat → Nat} {q p : Nat} (hp : p < q) (hl : isL (b p) = true) : tk b q p = nI (b p) ∧ te b q p = p + 1 := by
  have hD : ¬ isD (b p) = true := by rw [isL_D hl]; exact Bool.false_ne_true
  unfold tk te
  rw [if_neg (by omega), if_neg hD, if_pos hl, if_neg (by omega), if_neg hD]
  exact ⟨rfl, rfl⟩
theorem tk_ne2 {b : Nat → Nat} {q p : Nat} (hp : p < q) (hb : b p < 256) : tk b q p ≠ -2 := by
  unfold tk
  rw [if_neg (by omega)]
  by_cases hD : isD (b p) = true
  · rw [if_pos hD]
    by_cases h3 : rE b (q - p) p - p ≤ 3
    · rw [if_pos h3]; decide
    · rw [if_neg h3]; decide
  · rw [if_neg hD]
    by_cases hL : isL (b p) = true
    · rw [if_pos hL]
      intro hc
      have : (nI (b p)).toInt = (-2 : Int32).toInt := by rw [hc]
      rw [nI_toInt (by omega)] at this
      have e : (-2 : Int32).toInt = -2 := by decide
      omega
    · rw [if_neg hL]; decide
theorem DR.congr {T Q S : Nat} {tr : Nat → Nat} {c m m' : Mem} (h : DR T Q S tr c m) (hm : m' 67 = m 67) : DR T Q S tr c m' := by unfold DR at *; rw [hm]; exact h
theorem DL.congr {c m m' : Mem} (h : DL c m) (hm : m' 67 = m 67) : DL c m' := by unfold DL at *; rw [hm]; exact h
/-- both stand at p -/
def Rl (q : Nat) (b : Nat → Nat) (p T Q S : Nat) (tr : Nat → Nat) (c m : Mem) : Prop := Tp6 q b c ∧ Tp7 q b m ∧ p ≤ q ∧ c 5 2 = nI p ∧ DR T Q S tr c m ∧ DL c m
/-- and the reference has read what stands there -/
def Rd (q : Nat) (b : Nat → Nat) (p T Q S : Nat) (tr : Nat → Nat) (c m : Mem) : Prop := Rl q b p T Q S tr c m ∧ m 61 7 = nI p ∧ m 61 6 = nI (te b q p) ∧ m 61 8 = tk b q p
theorem next_sim {q : Nat} {b : Nat → Nat} {p T Q S : Nat} {tr : Nat → Nat} {c m : Mem} (h : Rl q b p T Q S tr c m) (h6 : m 61 6 = nI p) : ∃ m', fX7_nextToken m = some (0, m') ∧ FM m m' ∧ Rd q b p T Q S tr c m' := by
  obtain ⟨a1, a2, a3, a4, a5, a6⟩ := h
  obtain ⟨m', e1, t1, t2, t3, t4, t5, t6⟩ := next7_e a2 a3 h6
  have fm : FM m m' := ⟨fun k h1 _ => t1 k h1, fun j hj => t2 j (by omega)⟩
  exact ⟨m', e1, fm, ⟨a1, Tp7_FM a2 fm, a3, a4, a5.congr (t1 67 (by omega)), a6.congr (t1 67 (by omega))⟩, t3, t4, t5⟩
/-- how both end -/
def Out (c m : Mem) (F G : Option (Int32 × Mem)) : Prop :=
  (∃ (T Q S : Nat) (tr : Nat → Nat) (c' m' : Mem), F = some (1, c') ∧ G = some (1, m') ∧ FC c c' ∧ FM m m' ∧ DR T Q S tr c' m' ∧ ∃ x y : Nat, x ≤ 255 ∧ y ≤ 99 ∧ c' 17 1 = nI (x &&& (2 ^ T - 1)) ∧ m' 67 1 = nI x ∧ c' 17 2 = nI y ∧ m' 67 2 = nI y) ∨ (∃ c' m', F = some (0, c') ∧ G = some (0, m') ∧ Bad c m c' m')
theorem Out.pre {c m c1 m1 : Mem} {F G : Option (Int32 × Mem)} (h1 : FC c c1) (h2 : FM m m1) (h : Out c1 m1 F G) : Out c m F G := by
  rcases h with ⟨T, Q, S, tr, c', m', a1, a2, a3, a4, a5⟩ | ⟨c', m', a1, a2, a3⟩
  · left; exact ⟨T, Q, S, tr, c', m', a1, a2, h1.trans a3, h2.trans a4, a5⟩
  · right; exact ⟨c', m', a1, a2, a3.pre h1 h2⟩
/-- the reference's loop -/
def L7 (n : Nat) (l : Int32) (m : Mem) : Option (Int32 × Mem) := fX7_isRead_L41 (fun l79 g80 => rz l79 g80) n l m
def N7 (n : Nat) (r : Int32) (g : Mem) : Option (Int32 × Mem) := if r = 0 then L7 n r g else cl (fX7_nextToken g) fun _ g' => L7 n r g'
theorem fails_e (w : Int32) (m : Mem) : fX7_fails w m = some (0, up m 61 11 w) := rfl
theorem L7_end {n : Nat} {l : Int32} {m : Mem} (h : m 61 8 = -2) : L7 (n + 1) l m = rz l m := by
  unfold L7; rw [fX7_isRead_L41, if_pos h]
theorem L7_0 {n : Nat} {m : Mem} : L7 (n + 1) 0 m = some (0, m) := by
  unfold L7; rw [fX7_isRead_L41]
  by_cases h : m 61 8 = -2
  · rw [if_pos h, rz_0]
  · rw [if_neg h, if_pos rfl, rz_0]
theorem N7_0 {n : Nat} {m : Mem} : N7 (n + 1) 0 m = some (0, m) := by unfold N7; rw [if_pos rfl]; exact L7_0
theorem N7_1 {n : Nat} {m : Mem} : N7 n 1 m = cl (fX7_nextToken m) fun _ g' => L7 n 1 g' := by unfold N7; rw [if_neg (by decide)]
theorem al_67_5 (M : Mem) (G : Int32 → Option (Int32 × Mem)) : al M 67 50 (5 : Int32) G = G (M 67 5) := al_nI (i := 5) (by omega) (by omega)
theorem al_67_4 (M : Mem) (G : Int32 → Option (Int32 × Mem)) : al M 67 50 (4 : Int32) G = G (M 67 4) := al_nI (i := 4) (by omega) (by omega)
theorem L7_thing {n : Nat} {m : Mem} (h8 : m 61 8 = 116) (h5 : m 67 5 = 0) (h4 : m 67 4 = 0) : L7 (n + 1) 1 m = cl (fX7_isThing m) (N7 n) := by
  unfold L7
  rw [fX7_isRead_L41, h8, if_neg (by decide), if_neg (by decide), al_67_5, h5, if_pos rfl, if_pos rfl, al_67_4, h4, if_pos rfl]
  rfl
theorem L7_riddle {n : Nat} {m : Mem} (hv : srt (m 61 8) ≠ 0) (h5 : m 67 5 = 0) : L7 (n + 1) 1 m = cl (fX7_isRiddle m) (N7 n) := by
  unfold L7
  have hs := srt_le (m 61 8)
  rw [fX7_isRead_L41, if_neg (show ¬ m 61 8 = -2 from fun hc => hv (by rw [hc]; decide)), if_neg (by decide), al_67_5, h5, if_pos rfl, if_neg (show ¬ m 61 8 = 116 from fun hc => hv (by rw [hc]; decide)), srt7_e, cl_s, if_neg (show ¬ nI (srt (m 61 8)) ≤ (0 : Int32) from (show ¬ nI (srt (m 61 8)) ≤ nI 0 from nI_ge (by omega) (by omega)))]
  rfl
theorem L7_suitor {n : Nat} {m : Mem} (h8 : m 61 8 = 119) : L7 (n + 1) 1 m = cl (fX7_isSuitor m) (N7 n) := by
  unfold L7
  rw [fX7_isRead_L41, h8, if_neg (by decide), if_neg (by decide), al_67_5]
  by_cases h5 : m 67 5 = 0
  · rw [if_pos h5, if_neg (by decide), srt7_e, cl_s, if_pos (by decide), h8, if_pos rfl]
    rfl
  · rw [if_neg h5, if_neg (by decide), srt7_e, cl_s, if_pos (by decide), h8, if_pos rfl]
    rfl
theorem L7_bad {n : Nat} {m : Mem} (h2 : m 61 8 ≠ -2) (h9 : m 61 8 ≠ 119) (ht : ¬ (m 61 8 = 116 ∧ m 67 5 = 0 ∧ m 67 4 = 0)) (hr : ¬ (srt (m 61 8) ≠ 0 ∧ m 67 5 = 0)) : L7 (n + 2) 1 m = some (0, up m 61 11 1) := by
  have fin : ∀ g : Mem, fX7_isRead_L41 (fun l79 g80 => rz l79 g80) (n + 1) 0 g = some (0, g) := fun g => L7_0
  have hs := srt_le (m 61 8)
  unfold L7
  rw [show n + 2 = (n + 1) + 1 from rfl, fX7_isRead_L41, if_neg h2, if_neg (by decide), al_67_5]
  by_cases h5 : m 67 5 = 0
  · have hz : srt (m 61 8) = 0 := Classical.byContradiction fun hc => hr ⟨hc, h5⟩
    rw [if_pos h5]
    by_cases h6 : m 61 8 = 116
    · rw [if_pos h6, al_67_4, if_neg (show ¬ m 67 4 = 0 from fun hc => ht ⟨h6, h5, hc⟩), srt7_e, cl_s, hz, if_pos (show nI 0 ≤ (0 : Int32) by decide), if_neg h9, fails_e, cl_s, if_pos rfl, fin]
    · rw [if_neg h6, srt7_e, cl_s, hz, if_pos (show nI 0 ≤ (0 : Int32) by decide), if_neg h9, fails_e, cl_s, if_pos rfl, fin]
  · rw [if_neg h5]
    by_cases h6 : m 61 8 = 116
    · rw [if_pos h6, srt7_e, cl_s]
      by_cases hz : nI (srt (m 61 8)) ≤ 0
      · rw [if_pos hz, if_neg h9, fails_e, cl_s, if_pos rfl, fin]
      · rw [if_neg hz, if_neg h9, fails_e, cl_s, if_pos rfl, fin]
    · rw [if_neg h6, srt7_e, cl_s]
      by_cases hz : nI (srt (m 61 8)) ≤ 0
      · rw [if_pos hz, if_neg h9, fails_e, cl_s, if_pos rfl, fin]
      · rw [if_neg hz, if_neg h9, fails_e, cl_s, if_pos rfl, fin]
