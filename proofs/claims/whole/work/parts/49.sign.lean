/-! one sign, one number: both -/
theorem next6_e {q : Nat} {b : Nat → Nat} {c : Mem} {p : Nat} (h : Tp6 q b c) (hp : p ≤ q) (h2 : c 5 2 = nI p) : fX5_next c = some (if p = q then -1 else nI (b p), c) := by
  obtain ⟨hq, h1, hb⟩ := h
  unfold fX5_next
  rw [h1, h2]
  by_cases hpq : p = q
  · rw [if_pos (nI_le (by omega) (by omega)), if_pos hpq]
  · rw [if_neg (nI_ge (by omega) (by omega)), if_neg hpq, al_nI (by omega) (by omega), (hb p (by omega)).2]
theorem m1_ne {x : Nat} (hx : x < 2 ^ 31) : (-1 : Int32) ≠ nI x := fun hc => by
  have : (-1 : Int32).toInt = (nI x).toInt := by rw [hc]
  rw [nI_toInt hx] at this
  have e : (-1 : Int32).toInt = -1 := by decide
  omega
theorem takes_e {q : Nat} {b : Nat → Nat} {c : Mem} {p x : Nat} (h : Tp6 q b c) (hp : p ≤ q) (hx : x < 256) (h2 : c 5 2 = nI p) : fX5_takes (nI x) c = if p < q ∧ b p = x then some (1, up c 5 2 (nI (p + 1))) else some (0, up c 5 3 1) := by
  have hb := h.2.2
  have hq := h.1
  unfold fX5_takes fX5_faulty
  rw [next6_e h hp h2, cl_s, pf_e, pf_e, cl_s, rz_0, h2, nI_1]
  by_cases hpq : p = q
  · rw [if_pos hpq, if_neg (m1_ne (by omega)), if_neg (by omega)]
  · have := (hb p (by omega)).1
    have e : (nI (b p) = nI x) ↔ b p = x := nI_eq (by omega) (by omega)
    rw [if_neg hpq]
    by_cases hc : b p = x
    · rw [if_pos (e.mpr hc), if_pos ⟨by omega, hc⟩]
    · rw [if_neg (fun hh => hc (e.mp hh)), if_neg (fun hh => hc hh.2)]
theorem isL_D {x : Nat} (h : isL x = true) : isD x = false := by
  unfold isL at h
  unfold isD
  simp only [Bool.or_eq_true, Bool.and_eq_true, decide_eq_true_eq] at h
  simp only [Bool.and_eq_false_iff, decide_eq_false_iff_not]
  omega
theorem tk_sign {b : Nat → Nat} {q p x : Nat} (hp : p ≤ q) (hx : x < 256) (hb : p < q → b p < 256) (hl : isL x = true) : (tk b q p = nI x) ↔ (p < q ∧ b p = x) := by
  have n2 : ∀ k : Int32, k.toInt < 0 → k ≠ nI x := fun k hk hc => by rw [hc, nI_toInt (by omega)] at hk; omega
  unfold tk
  by_cases hpq : p = q
  · rw [if_pos hpq]; exact ⟨fun hc => absurd hc (n2 _ (by decide)), fun hc => by omega⟩
  · rw [if_neg hpq]
    have hb' := hb (by omega)
    by_cases hD : isD (b p) = true
    · rw [if_pos hD]
      constructor
      · intro hc
        by_cases h3 : rE b (q - p) p - p ≤ 3
        · rw [if_pos h3] at hc; exact absurd hc (n2 _ (by decide))
        · rw [if_neg h3] at hc; exact absurd hc (n2 _ (by decide))
      · rintro ⟨-, hc⟩
        rw [hc, isL_D hl] at hD; exact absurd hD Bool.false_ne_true
    · rw [if_neg hD]
      by_cases hL : isL (b p) = true
      · rw [if_pos hL, nI_eq (by omega) (by omega)]; exact ⟨fun hc => ⟨by omega, hc⟩, fun hc => hc.2⟩
      · rw [if_neg hL]
        exact ⟨fun hc => absurd hc (n2 _ (by decide)), fun hc => by rw [hc.2] at hL; exact absurd hl hL⟩
/-- the reference's step: it goes on at f, or fails -/
def St (m m' : Mem) (p f v : Nat) : Prop := (∀ k, k ≠ 61 → m' k = m k) ∧ (∀ j, j < 6 ∨ j = 10 ∨ 11 < j → m' 61 j = m 61 j) ∧ m' 61 7 = nI p ∧ m' 61 6 = nI f ∧ m' 61 9 = nI v
def Fl (m m' : Mem) (p : Nat) (w : Int32) : Prop := (∀ k, k ≠ 61 → m' k = m k) ∧ (∀ j, j < 6 ∨ j = 10 ∨ 11 < j → m' 61 j = m 61 j) ∧ m' 61 7 = nI p ∧ m' 61 11 = w
theorem tok_St {m m' : Mem} {b : Nat → Nat} {q p : Nat} (h : Tok m m' b q p) : St m m' p (te b q p) (tv b q p) := ⟨h.1, fun j hj => h.2.1 j (by omega), h.2.2.1, h.2.2.2.1, h.2.2.2.2.2⟩
theorem tok_Fl {m m' : Mem} {b : Nat → Nat} {q p : Nat} (h : Tok m m' b q p) (w : Int32) : Fl m (up m' 61 11 w) p w := by
  refine ⟨fun k hk => by rw [up_a, if_neg hk]; exact h.1 k hk, fun j hj => ?_, ?_, ?_⟩
  · rw [up_a, if_pos rfl, upd_a, if_neg (by omega)]; exact h.2.1 j (by omega)
  · rw [up_a, if_pos rfl, upd_a, if_neg (by omega)]; exact h.2.2.1
  · rw [up_a, if_pos rfl, upd_a, if_pos rfl]
theorem sign_e {q : Nat} {b : Nat → Nat} {m : Mem} {p x : Nat} (h : Tp7 q b m) (hp : p ≤ q) (hx : x < 256) (hl : isL x = true) (h6 : m 61 6 = nI p) : (p < q ∧ b p = x ∧ ∃ m', fX7_isSign (nI x) m = some (1, m') ∧ St m m' p (p + 1) 0) ∨ (¬ (p < q ∧ b p = x) ∧ ∃ m', fX7_isSign (nI x) m = some (0, m') ∧ Fl m m' p 1) := by
  obtain ⟨m', e1, e2⟩ := next7_e h hp h6
  have hq := h.1
  have ht := tk_sign (b := b) (q := q) (p := p) (x := x) hp hx (fun hh => (h.2.2 p (by omega)).1) hl
  unfold fX7_isSign fX7_fails
  rw [e1, cl_s, e2.2.2.2.2.1, pf_e, cl_s, if_pos rfl]
  by_cases hc : p < q ∧ b p = x
  · left
    rw [if_pos (ht.mpr hc)]
    refine ⟨hc.1, hc.2, m', rfl, ?_⟩
    have := tok_St e2
    have hD : ¬ isD (b p) = true := by rw [hc.2, isL_D hl]; exact Bool.false_ne_true
    unfold te tv at this
    rw [if_neg (by omega), if_neg hD, if_neg (by omega), if_neg hD] at this
    exact this
  · right
    rw [if_neg (fun hh => hc (ht.mp hh))]
    exact ⟨hc, _, rfl, tok_Fl e2 1⟩
/-- a number stands at p -/
def nmb (b : Nat → Nat) (q p : Nat) : Prop := p < q ∧ isD (b p) = true ∧ rE b (q - p) p - p ≤ 3
theorem number_e {q : Nat} {b : Nat → Nat} {m : Mem} {p mx_ : Nat} (h : Tp7 q b m) (hp : p ≤ q) (hm : mx_ < 2 ^ 31) (h6 : m 61 6 = nI p) : (nmb b q p ∧ tv b q p ≤ mx_ ∧ ∃ m', fX7_isNumber (nI mx_) m = some (1, m') ∧ St m m' p (te b q p) (tv b q p)) ∨ (nmb b q p ∧ mx_ < tv b q p ∧ ∃ m', fX7_isNumber (nI mx_) m = some (0, m') ∧ Fl m m' p 2) ∨ (¬ nmb b q p ∧ ∃ m', fX7_isNumber (nI mx_) m = some (0, m') ∧ Fl m m' p 1) := by
  obtain ⟨m', e1, e2⟩ := next7_e h hp h6
  have hq := h.1
  have hv := tv_lt (b := b) (q := q) (p := p)
  have ht : (tk b q p = -1) ↔ nmb b q p := by
    unfold tk nmb
    by_cases hpq : p = q
    · rw [if_pos hpq]; exact ⟨fun hc => absurd hc (by decide), fun hc => by omega⟩
    · rw [if_neg hpq]
      by_cases hD : isD (b p) = true
      · rw [if_pos hD]
        by_cases h3 : rE b (q - p) p - p ≤ 3
        · rw [if_pos h3]; exact ⟨fun _ => ⟨by omega, hD, h3⟩, fun _ => rfl⟩
        · rw [if_neg h3]; exact ⟨fun hc => absurd hc (by decide), fun hc => absurd hc.2.2 h3⟩
      · rw [if_neg hD]
        constructor
        · intro hc
          by_cases hL : isL (b p) = true
          · rw [if_pos hL] at hc; have := (h.2.2 p (by omega)).1; exact absurd hc.symm (m1_ne (by omega))
          · rw [if_neg hL] at hc; exact absurd hc (by decide)
        · exact fun hc => absurd hc.2.1 hD
  unfold fX7_isNumber fX7_fails
  rw [e1, cl_s, e2.2.2.2.2.1, e2.2.2.2.2.2, pf_e, cl_s, if_pos rfl, pf_e, cl_s, rz_0]
  by_cases hc : nmb b q p
  · rw [if_pos (ht.mpr hc)]
    by_cases hle : tv b q p ≤ mx_
    · left; rw [if_pos (nI_le hle hm)]; exact ⟨hc, hle, m', rfl, tok_St e2⟩
    · right; left; rw [if_neg (nI_ge (by omega) (by omega))]; exact ⟨hc, by omega, _, rfl, tok_Fl e2 2⟩
  · right; right
    rw [if_neg (fun hh => hc (ht.mp hh))]
    exact ⟨hc, _, rfl, tok_Fl e2 1⟩
theorem takesNum_e {q : Nat} {b : Nat → Nat} {c : Mem} {p mx_ mk : Nat} (h : Tp6 q b c) (hp : p ≤ q) (hm : mx_ < 2 ^ 31) (h2 : c 5 2 = nI p) : (nmb b q p → tv b q p ≤ mx_ → tv b q p &&& mk = 0 → fX5_takesNumber (nI mx_) (nI mk) c = some (1, up (up c 5 4 (nI (tv b q p))) 5 2 (nI (te b q p)))) ∧ (nmb b q p → (mx_ < tv b q p ∨ tv b q p &&& mk ≠ 0) → fX5_takesNumber (nI mx_) (nI mk) c = some (0, up c 5 3 2)) ∧ (¬ nmb b q p → fX5_takesNumber (nI mx_) (nI mk) c = some (0, up c 5 3 1)) := by
  have hq := h.1
  have hge := rE_ge b (q - p) p
  have hrv := rV_lt b p (q - p) p 0 (Nat.le_refl p) (by rw [Nat.sub_self]; decide)
  have run : fX5_takesNumber (nI mx_) (nI mk) c = (if nI (rE b (q - p) p) = nI p then some (0, up c 5 3 1) else (if nI (rE b (q - p) p - p) ≤ nI 3 then (if nI mx_ < nI (rV b p (q - p) p 0) then some (0, up c 5 3 2) else (if nI (rV b p (q - p) p 0 &&& mk) = 0 then some (1, up (up c 5 4 (nI (rV b p (q - p) p 0))) 5 2 (nI (rE b (q - p) p))) else some (0, up c 5 3 2))) else some (0, up c 5 3 1))) := by
    unfold fX5_takesNumber fX5_faulty
    rw [lt_e, h2]
    have := num6_L (K := fun l6 l7 g8 => if l6 = (g8 5 2) then (cl (pf g8 5 3 (1 : Int32) fun g1 => (some ((0 : Int32), g1))) fun r9 g10 => (rz r9 g10)) else (if (l6 - (g8 5 2)) ≤ (3 : Int32) then (if nI mx_ < l7 then (cl (pf g8 5 3 (2 : Int32) fun g1 => (some ((0 : Int32), g1))) fun r11 g12 => (rz r11 g12)) else (if (l7 &&& nI mk) = 0 then (pf g8 5 4 l7 fun g13 => (pf g13 5 2 l6 fun g14 => (some ((1 : Int32), g14)))) else (cl (pf g8 5 3 (2 : Int32) fun g1 => (some ((0 : Int32), g1))) fun r15 g16 => (rz r15 g16)))) else (cl (pf g8 5 3 (1 : Int32) fun g1 => (some ((0 : Int32), g1))) fun r17 g18 => (rz r17 g18)))) (l1 := nI mx_) (l2 := nI mk) h h2 (q - p) FU p 0 (by omega) (by rw [FU_e]; omega) (Nat.le_refl p) (by rw [Nat.sub_self]; decide)
    refine Eq.trans this ?_
    simp only [pf_e, cl_s, rz_0, h2, fa_and]
    rw [pk_sub hge.1]; rfl
  have e1 : (nI (rE b (q - p) p) = nI p) ↔ rE b (q - p) p = p := nI_eq (by omega) (by omega)
  have hn : nmb b q p ↔ (rE b (q - p) p ≠ p ∧ rE b (q - p) p - p ≤ 3) := by
    unfold nmb
    rw [rE_D]
    exact ⟨fun hc => ⟨⟨by omega, hc.2.1⟩, hc.2.2⟩, fun hc => ⟨by omega, hc.1.2, hc.2⟩⟩
  have hte : nmb b q p → te b q p = rE b (q - p) p ∧ tv b q p = rV b p (q - p) p 0 := fun hc => by
    unfold nmb at hc
    unfold te tv
    rw [if_neg (by omega), if_pos hc.2.1, if_neg (by omega), if_pos hc.2.1]; exact ⟨rfl, rfl⟩
  have hand : rV b p (q - p) p 0 &&& mk ≤ rV b p (q - p) p 0 := Nat.and_le_left
  refine ⟨fun hc h1 h3 => ?_, fun hc h1 => ?_, fun hc => ?_⟩
  · obtain ⟨t1, t2⟩ := hte hc
    rw [t1, t2]
    rw [t2] at h1 h3
    obtain ⟨n1, n2⟩ := hn.mp hc
    rw [run, if_neg (fun hh => n1 (e1.mp hh)), if_pos (nI_le n2 (by omega)), if_neg (nI_nlt h1 hm), h3, if_pos (show nI 0 = (0 : Int32) from rfl)]
  · obtain ⟨t1, t2⟩ := hte hc
    rw [t2] at h1
    obtain ⟨n1, n2⟩ := hn.mp hc
    rw [run, if_neg (fun hh => n1 (e1.mp hh)), if_pos (nI_le n2 (by omega))]
    by_cases hl : mx_ < rV b p (q - p) p 0
    · rw [if_pos (nI_lt hl (by omega))]
    · rw [if_neg (nI_nlt (by omega) hm), if_neg (nI_ne0 (by omega) (by omega))]
  · rw [run]
    by_cases n1 : rE b (q - p) p = p
    · rw [if_pos (e1.mpr n1)]
    · rw [if_neg (fun hh => n1 (e1.mp hh)), if_neg (nI_ge (by have : ¬ rE b (q - p) p - p ≤ 3 := fun hh => hc (hn.mpr ⟨n1, hh⟩); omega) (by omega))]
