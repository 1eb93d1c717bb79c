theorem takes_sign {q : Nat} {b : Nat → Nat} {c : Mem} {p x : Nat} (h : Tp6 q b c) (hx : x < 256) (h2 : c 5 2 = nI p) (hp : p < q) (hb : b p = x) : fX5_takes (nI x) c = some (1, up c 5 2 (nI (p + 1))) := by
  rw [takes_e h (by omega) hx h2, if_pos ⟨hp, hb⟩]
/-- what stands behind the class's three loops: is there one more than there is room for? -/
def KS (g13 : Mem) : Option (Int32 × Mem) := cl (fX5_next g13) fun r14 g15 => (if r14 = (119 : Int32) then (cl (fX5_faulty (3 : Int32) g15) fun r16 g17 => (if r16 = 0 then (some ((0 : Int32), g17)) else (some ((1 : Int32), g17)))) else (some ((1 : Int32), g15)))
def KR (g8 : Mem) : Option (Int32 × Mem) := cl (fX5_next g8) fun r9 g10 => (cl (fX2_sortOf r9 g10) fun r11 g12 => (if r11 = 0 then (some ((1 : Int32), g12)) else (cl (fX5_faulty (3 : Int32) g12) fun r13 g14 => (if r13 = 0 then (some ((0 : Int32), g14)) else (some ((1 : Int32), g14))))))
def KT (g11 : Mem) : Option (Int32 × Mem) := cl (fX5_next g11) fun r12 g13 => (if r12 = (116 : Int32) then (cl (fX5_faulty (3 : Int32) g13) fun r14 g15 => (if r14 = 0 then (some ((0 : Int32), g15)) else (some ((1 : Int32), g15)))) else (some ((1 : Int32), g13)))
theorem tS_e (c : Mem) : fX5_tellsSuitors c = fX5_tellsSuitors_L0 KS FU c := rfl
theorem tR_e (c : Mem) : fX5_tellsRiddles c = fX5_tellsRiddles_L0 KR FU c := rfl
theorem tT_e (c : Mem) : fX5_tellsThings c = fX5_tellsThings_L0 KT FU c := rfl
theorem KS_no {q : Nat} {b : Nat → Nat} {c : Mem} {p : Nat} (h : Tp6 q b c) (hp : p ≤ q) (h2 : c 5 2 = nI p) (h9 : ¬ nx b q p = 119) : KS c = some (1, c) := by
  unfold KS; rw [nx_e h hp h2, cl_s, if_neg h9]
theorem KS_full {q : Nat} {b : Nat → Nat} {c : Mem} {p : Nat} (h : Tp6 q b c) (hp : p ≤ q) (h2 : c 5 2 = nI p) (h9 : nx b q p = 119) : KS c = some (0, up c 5 3 3) := by
  unfold KS; rw [nx_e h hp h2, cl_s, if_pos h9]; rfl
theorem KT_no {q : Nat} {b : Nat → Nat} {c : Mem} {p : Nat} (h : Tp6 q b c) (hp : p ≤ q) (h2 : c 5 2 = nI p) (h9 : ¬ nx b q p = 116) : KT c = some (1, c) := by
  unfold KT; rw [nx_e h hp h2, cl_s, if_neg h9]
theorem KT_full {q : Nat} {b : Nat → Nat} {c : Mem} {p : Nat} (h : Tp6 q b c) (hp : p ≤ q) (h2 : c 5 2 = nI p) (h9 : nx b q p = 116) : KT c = some (0, up c 5 3 3) := by
  unfold KT; rw [nx_e h hp h2, cl_s, if_pos h9]; rfl
theorem KR_no {q : Nat} {b : Nat → Nat} {c : Mem} {p : Nat} (h : Tp6 q b c) (hp : p ≤ q) (h2 : c 5 2 = nI p) (h9 : srt (nx b q p) = 0) : KR c = some (1, c) := by
  unfold KR; rw [nx_e h hp h2, cl_s, srt6_e, cl_s, h9, if_pos (show nI 0 = (0 : Int32) from rfl)]
theorem KR_full {q : Nat} {b : Nat → Nat} {c : Mem} {p : Nat} (h : Tp6 q b c) (hp : p ≤ q) (h2 : c 5 2 = nI p) (h9 : ¬ srt (nx b q p) = 0) : KR c = some (0, up c 5 3 3) := by
  have hs5 := srt_le (nx b q p)
  unfold KR; rw [nx_e h hp h2, cl_s, srt6_e, cl_s, if_neg (show ¬ nI (srt (nx b q p)) = 0 from nI_ne0 (by omega) (by omega))]; rfl
theorem suitors_loop {q : Nat} {b : Nat → Nat} {T Q : Nat} {tr : Nat → Nat} : ∀ n k p S (c m : Mem), q - p < n → q - p + 1 < k → Rd q b p T Q S tr c m → ¬ (nx b q p = 116 ∧ S = 0 ∧ Q = 0) → ¬ (srt (nx b q p) ≠ 0 ∧ S = 0) → Out c m (cl (fX5_tellsSuitors_L0 KS n c) fun r10 g11 => (if r10 = 0 then (some ((0 : Int32), g11)) else E6 g11)) (L7 k 1 m) := by
  intro n
  induction n with
  | zero => intro k p S c m h; omega
  | succ n ih =>
    intro k p S c m hn hk hR ht hr
    obtain ⟨k, rfl⟩ : ∃ j, k = j + 2 := ⟨k - 2, by omega⟩
    have hR' := hR
    obtain ⟨⟨a1, a2, a3, a4, a5, a6⟩, b1, b2, b3⟩ := hR'
    have hq := a1.1
    have hbb : p < q → b p < 256 := fun hh => (a1.2.2 p (by omega)).1
    have hd := a5
    obtain ⟨⟨hT, hQ, hS⟩, d0, d3, d5, d10, -⟩ := hd
    rw [fX5_tellsSuitors_L0, nx_e a1 a3 a4, cl_s]
    by_cases h9 : nx b q p = 119
    rotate_left
    · rw [if_neg h9, KS_no a1 a3 a4 h9, cl_s, if_neg (by decide)]
      exact end_sim hR h9 ht hr
    obtain ⟨hpq, hbp⟩ := (nx_sign (x := 119) a3 (by omega) hbb).mp h9
    have hl : isL (b p) = true := by rw [hbp]; decide
    obtain ⟨k1, k2⟩ := tk_L hpq hl
    have e8 : m 61 8 = 119 := by rw [b3, k1, hbp]; rfl
    rw [if_pos h9, d10.1, L7_suitor e8]
    by_cases hS4 : S < 4
    rotate_left
    · have hS' : S = 4 := by omega
      right
      refine ⟨up c 5 3 3, up m 61 11 3, ?_, ?_, bad_of a4 (fl_up b1)⟩
      · rw [hS', if_pos (by decide), KS_full a1 a3 a4 h9]; rfl
      · unfold fX7_isSuitor
        rw [al_67_5, d10.2, hS', if_pos (show nI 4 = (4 : Int32) from rfl), fails_e, cl_s, rz_0, cl_s]; exact N7_0
    rw [if_neg (show ¬ (4 : Int32) ≤ nI S from nI_ge (b := 4) hS4 (by omega)), show fX5_takes (119 : Int32) c = some (1, up c 5 2 (nI (p + 1))) from takes_sign (x := 119) a1 (by omega) a4 hpq hbp, cl_s, if_neg (by decide)]
    obtain ⟨c1, hc1⟩ : ∃ x, x = up c 5 2 (nI (p + 1)) := ⟨_, rfl⟩
    rw [← hc1]
    have fc1 : FC c c1 := by rw [hc1]; exact FC_52 c _
    have f1 : c1 5 2 = nI (p + 1) := by rw [hc1]; simp [up_a, upd_a]
    have f2 : ∀ k, k ≠ 5 → c1 k = c k := fun k hk => by rw [hc1, up_a, if_neg hk]
    clear hc1
    rw [all17 (T := T) hT (by rw [f2 17 (by omega)]; exact d3.1), cl_s]
    rcases suitor_sim (p := p + 1) (T := T) (S := S) (Tp6_FC a1 fc1) a2 (by omega) hT hS4 f1 (by rw [b2, k2]) d3.2 d10.2 with ⟨p', x, c', m', g1, g2, g3, ⟨c2, g4, g5⟩, g6, g7, g8, g9, g10, g11, g12, g13⟩ | ⟨c', m', g1, g2, g3⟩
    rotate_left
    · right
      refine ⟨c', m', ?_, by rw [g2, cl_s]; exact N7_0, g3.pre fc1 FM.rfl'⟩
      rcases g1 with g1 | ⟨c2, g4, g5⟩
      · rw [g1, cl_s, if_pos rfl]; rfl
      · rw [g4, cl_s, if_neg (by decide), show fX5_takes (59 : Int32) c2 = _ from g5, cl_s, if_pos rfl]; rfl
    have cc : ∀ k, k ≠ 5 → c' k = c k := fun k hk => by rw [g9 k hk, f2 k hk]
    have w1 : c' 17 10 = nI S := by rw [cc 17 (by omega)]; exact d10.1
    have w2 : (up c' 23 S (nI x)) 17 10 = nI S := by rw [up_a, if_neg (by omega)]; exact w1
    rw [g4, cl_s, if_neg (by decide), show fX5_takes (59 : Int32) c2 = _ from g5, cl_s, if_neg (by decide), w1, g11, as_nI hS4 (by omega), pf_e, w2, nI_1, g6, cl_s, N7_1]
    have nd := DR_S a5 hS4 g3 cc g13
    have fc2 : FC c (up (up c' 23 S (nI x)) 17 10 (nI (S + 1))) := ((fc1.trans g7).trans (FC_d _ 23 S _ (by omega))).trans (FC_d _ 17 10 _ (by omega))
    have o2 : (up (up c' 23 S (nI x)) 17 10 (nI (S + 1))) 5 2 = nI p' := by rw [up_a, if_neg (by omega), up_a, if_neg (by omega)]; exact g10
    have o17 : ∀ i, i ≠ 10 → (up (up c' 23 S (nI x)) 17 10 (nI (S + 1))) 17 i = c 17 i := fun i hi => by rw [up_a, if_pos rfl, upd_a, if_neg hi, up_a, if_neg (by omega), cc 17 (by omega)]
    obtain ⟨m2, u1, u2, u3⟩ := next_sim (q := q) (b := b) (p := p') (T := T) (Q := Q) (S := S + 1) (tr := tr) (c := up (up c' 23 S (nI x)) 17 10 (nI (S + 1))) (m := m') ⟨Tp6_FC a1 fc2, Tp7_FM a2 g8, g2, o2, nd, a6.keep (o17 1 (by omega)) (o17 2 (by omega)) (by rw [g13, if_neg (by omega), if_neg (by omega)]) (by rw [g13, if_neg (by omega), if_neg (by omega)])⟩ g12
    rw [u1, cl_s]
    exact (ih (k + 1) p' (S + 1) _ m2 (by omega) (by omega) u3 (fun hc => by omega) (fun hc => by omega)).pre fc2 (g8.trans u2)
/-- suitors, then the end -/
def S6 (c : Mem) : Option (Int32 × Mem) := cl (fX5_tellsSuitors c) fun r10 g11 => (if r10 = 0 then (some ((0 : Int32), g11)) else E6 g11)
theorem riddles_loop {q : Nat} {b : Nat → Nat} {T : Nat} {tr : Nat → Nat} : ∀ n k p Q (c m : Mem), q - p < n → q - p + 1 < k → Rd q b p T Q 0 tr c m → ¬ (nx b q p = 116 ∧ Q = 0) → Out c m (cl (fX5_tellsRiddles_L0 KR n c) fun r8 g9 => (if r8 = 0 then (some ((0 : Int32), g9)) else S6 g9)) (L7 k 1 m) := by
  intro n
  induction n with
  | zero => intro k p Q c m h; omega
  | succ n ih =>
    intro k p Q c m hn hk hR ht
    have hR' := hR
    obtain ⟨⟨a1, a2, a3, a4, a5, a6⟩, b1, b2, b3⟩ := hR'
    have hq := a1.1
    have hbb : p < q → b p < 256 := fun hh => (a1.2.2 p (by omega)).1
    have hd := a5
    obtain ⟨⟨hT, hQ, hS⟩, d0, d3, d5, d10, -, d18, -⟩ := hd
    rw [fX5_tellsRiddles_L0, nx_e a1 a3 a4, cl_s, srt6_e, cl_s]
    have hs5 := srt_le (nx b q p)
    by_cases hs : srt (nx b q p) = 0
    · rw [hs, if_pos (show nI 0 = (0 : Int32) from rfl), KR_no a1 a3 a4 hs, cl_s, if_neg (by decide)]
      unfold S6; rw [tS_e]
      exact suitors_loop FU k p 0 c m (by rw [FU_e]; omega) hk hR (fun hc => ht ⟨hc.1, hc.2.2⟩) (fun hc => hc.1 hs)
    obtain ⟨k, rfl⟩ : ∃ j, k = j + 2 := ⟨k - 2, by omega⟩
    have hpq : p < q := by
      rcases Nat.lt_or_ge p q with h | h
      · exact h
      · exact absurd (show srt (nx b q p) = 0 by unfold nx; rw [if_pos (by omega)]; decide) hs
    have hb := hbb hpq
    have enx : nx b q p = nI (b p) := by unfold nx; rw [if_neg (by omega)]
    have hl : isL (b p) = true := srt_L (b p) hb (by rw [← enx]; exact hs)
    obtain ⟨k1, k2⟩ := tk_L hpq hl
    have e8 : m 61 8 = nI (b p) := by rw [b3, k1]
    rw [if_neg (show ¬ nI (srt (nx b q p)) = 0 from nI_ne0 (by omega) (by omega)), d5.1, L7_riddle (by rw [e8, ← enx]; exact hs) d10.2]
    by_cases hQ6 : Q < 6
    rotate_left
    · have hQ' : Q = 6 := by omega
      right
      refine ⟨up c 5 3 3, up m 61 11 3, ?_, ?_, bad_of a4 (fl_up b1)⟩
      · rw [hQ', if_pos (by decide), KR_full a1 a3 a4 hs]; rfl
      · unfold fX7_isRiddle
        rw [al_67_4, d5.2, hQ', if_pos (show nI 6 = (6 : Int32) from rfl), fails_e, cl_s, rz_0, cl_s]; exact N7_0
    rw [if_neg (show ¬ (6 : Int32) ≤ nI Q from nI_ge (b := 6) hQ6 (by omega))]
    rcases riddle_sim (sk := srt (nI (b p))) (tr := tr) a1 a2 hpq hT hQ6 a4 (by rw [b2, k2]) e8 rfl (by rw [← enx]; omega) d3.1 (fun i hi => ⟨(d18 i hi).1, (d18 i hi).2.1⟩) d5.2 with ⟨p', yy, nn, c', m', g1, g2, g3, g4, g5, g6, g7, g8, g9, g10, g11, g12, g13, g14, g15, g16⟩ | ⟨c', m', g1, g2, g3⟩
    rotate_left
    · right
      exact ⟨c', m', by rw [g1, cl_s, if_pos rfl]; rfl, by rw [g2, cl_s]; exact N7_0, g3⟩
    have w1 : c' 17 5 = nI Q := by rw [g11 17 (by omega) (by omega) (by omega) (by omega) (by omega)]; exact d5.1
    rw [g5, cl_s, if_neg (by decide), pf_e, w1, nI_1, g6, cl_s, N7_1]
    have nd := DR_Q a5 hQ6 ⟨by rw [← enx]; omega, by rw [← enx]; omega⟩ g3 g4 g11 g12 g13 g14 g15 g16
    have fc2 : FC c (up c' 17 5 (nI (Q + 1))) := g7.trans (FC_d _ 17 5 _ (by omega))
    have o2 : (up c' 17 5 (nI (Q + 1))) 5 2 = nI p' := by rw [up_a, if_neg (by omega)]; exact g9
    have o17 : ∀ i, i ≠ 5 → (up c' 17 5 (nI (Q + 1))) 17 i = c 17 i := fun i hi => by rw [up_a, if_pos rfl, upd_a, if_neg hi, g11 17 (by omega) (by omega) (by omega) (by omega) (by omega)]
    obtain ⟨m2, u1, u2, u3⟩ := next_sim (q := q) (b := b) (p := p') (T := T) (Q := Q + 1) (S := 0) (tr := tr) (c := up c' 17 5 (nI (Q + 1))) (m := m') ⟨Tp6_FC a1 fc2, Tp7_FM a2 g8, g2, o2, nd, a6.keep (o17 1 (by omega)) (o17 2 (by omega)) (by rw [g16, if_neg (by omega), if_neg (by omega), if_neg (by omega), if_neg (by omega)]) (by rw [g16, if_neg (by omega), if_neg (by omega), if_neg (by omega), if_neg (by omega)])⟩ g10
    rw [u1, cl_s]
    exact (ih (k + 1) p' (Q + 1) _ m2 (by omega) (by omega) u3 (fun hc => by omega)).pre fc2 (g8.trans u2)
/-- riddles, suitors, the end -/
def R6 (c : Mem) : Option (Int32 × Mem) := cl (fX5_tellsRiddles c) fun r8 g9 => (if r8 = 0 then (some ((0 : Int32), g9)) else S6 g9)
theorem things_loop {q : Nat} {b : Nat → Nat} : ∀ n k p T (tr : Nat → Nat) (c m : Mem), q - p < n → q - p + 1 < k → Rd q b p T 0 0 tr c m → Out c m (cl (fX5_tellsThings_L0 KT n c) fun r6 g7 => (if r6 = 0 then (some ((0 : Int32), g7)) else R6 g7)) (L7 k 1 m) := by
  intro n
  induction n with
  | zero => intro k p T tr c m h; omega
  | succ n ih =>
    intro k p T tr c m hn hk hR
    have hR' := hR
    obtain ⟨⟨a1, a2, a3, a4, a5, a6⟩, b1, b2, b3⟩ := hR'
    have hq := a1.1
    have hbb : p < q → b p < 256 := fun hh => (a1.2.2 p (by omega)).1
    have hd := a5
    obtain ⟨⟨hT, hQ, hS⟩, d0, d3, d5, d10, -⟩ := hd
    rw [fX5_tellsThings_L0, nx_e a1 a3 a4, cl_s]
    by_cases h9 : nx b q p = 116
    rotate_left
    · rw [if_neg h9, KT_no a1 a3 a4 h9, cl_s, if_neg (by decide)]
      unfold R6; rw [tR_e]
      exact riddles_loop FU k p 0 c m (by rw [FU_e]; omega) hk hR (fun hc => h9 hc.1)
    obtain ⟨k, rfl⟩ : ∃ j, k = j + 2 := ⟨k - 2, by omega⟩
    obtain ⟨hpq, hbp⟩ := (nx_sign (x := 116) a3 (by omega) hbb).mp h9
    have hl : isL (b p) = true := by rw [hbp]; decide
    obtain ⟨k1, k2⟩ := tk_L hpq hl
    have e8 : m 61 8 = 116 := by rw [b3, k1, hbp]; rfl
    rw [if_pos h9, d3.1, L7_thing e8 d10.2 d5.2]
    by_cases hT8 : T < 8
    rotate_left
    · have hT' : T = 8 := by omega
      right
      refine ⟨up c 5 3 3, up m 61 11 3, ?_, ?_, bad_of a4 (fl_up b1)⟩
      · rw [hT', if_pos (by decide), KT_full a1 a3 a4 h9]; rfl
      · unfold fX7_isThing
        rw [show ∀ (M : Mem) (G : Int32 → Option (Int32 × Mem)), al M 67 50 (3 : Int32) G = G (M 67 3) from fun M G => al_nI (i := 3) (by omega) (by omega), d3.2, hT', if_pos (show nI 8 = (8 : Int32) from rfl), fails_e, cl_s, rz_0, cl_s]; exact N7_0
    rw [if_neg (show ¬ (8 : Int32) ≤ nI T from nI_ge (b := 8) hT8 (by omega)), show fX5_takes (116 : Int32) c = some (1, up c 5 2 (nI (p + 1))) from takes_sign (x := 116) a1 (by omega) a4 hpq hbp, cl_s, if_neg (by decide)]
    obtain ⟨c1, hc1⟩ : ∃ x, x = up c 5 2 (nI (p + 1)) := ⟨_, rfl⟩
    rw [← hc1]
    have fc1 : FC c c1 := by rw [hc1]; exact FC_52 c _
    have f1 : c1 5 2 = nI (p + 1) := by rw [hc1]; simp [up_a, upd_a]
    have f2 : ∀ k, k ≠ 5 → c1 k = c k := fun k hk => by rw [hc1, up_a, if_neg hk]
    clear hc1
    rcases thing_sim (p := p + 1) (T := T) (Tp6_FC a1 fc1) a2 (by omega) hT8 f1 (by rw [b2, k2]) d3.2 with ⟨p', x, c', m', g1, g2, g3, ⟨c2, g4, g5⟩, g6, g7, g8, g9, g10, g11, g12, g13⟩ | ⟨c', m', g1, g2, g3⟩
    rotate_left
    · right
      refine ⟨c', m', ?_, by rw [g2, cl_s]; exact N7_0, g3.pre fc1 FM.rfl'⟩
      rcases g1 with g1 | ⟨c2, g4, g5⟩
      · rw [show fX5_takesNumber (31 : Int32) 0 c1 = _ from g1, cl_s, if_pos rfl]; rfl
      · rw [show fX5_takesNumber (31 : Int32) 0 c1 = _ from g4, cl_s, if_neg (by decide), show fX5_takes (59 : Int32) c2 = _ from g5, cl_s, if_pos rfl]; rfl
    have cc : ∀ k, k ≠ 5 → c' k = c k := fun k hk => by rw [g9 k hk, f2 k hk]
    have w1 : c' 17 3 = nI T := by rw [cc 17 (by omega)]; exact d3.1
    have w2 : (up c' 18 T (nI x)) 17 3 = nI T := by rw [up_a, if_neg (by omega)]; exact w1
    rw [show fX5_takesNumber (31 : Int32) 0 c1 = _ from g4, cl_s, if_neg (by decide), show fX5_takes (59 : Int32) c2 = _ from g5, cl_s, if_neg (by decide), w1, g11, as_nI hT8 (by omega), pf_e, w2, nI_1, g6, cl_s, N7_1]
    have nd := DR_T a5 hT8 g3 cc g13
    have fc2 : FC c (up (up c' 18 T (nI x)) 17 3 (nI (T + 1))) := ((fc1.trans g7).trans (FC_d _ 18 T _ (by omega))).trans (FC_d _ 17 3 _ (by omega))
    have o2 : (up (up c' 18 T (nI x)) 17 3 (nI (T + 1))) 5 2 = nI p' := by rw [up_a, if_neg (by omega), up_a, if_neg (by omega)]; exact g10
    have o17 : ∀ i, i ≠ 3 → (up (up c' 18 T (nI x)) 17 3 (nI (T + 1))) 17 i = c 17 i := fun i hi => by rw [up_a, if_pos rfl, upd_a, if_neg hi, up_a, if_neg (by omega), cc 17 (by omega)]
    obtain ⟨m2, u1, u2, u3⟩ := next_sim (q := q) (b := b) (p := p') (T := T + 1) (Q := 0) (S := 0) (c := up (up c' 18 T (nI x)) 17 3 (nI (T + 1))) (m := m') ⟨Tp6_FC a1 fc2, Tp7_FM a2 g8, g2, o2, nd, a6.keep (o17 1 (by omega)) (o17 2 (by omega)) (by rw [g13, if_neg (by omega), if_neg (by omega)]) (by rw [g13, if_neg (by omega), if_neg (by omega)])⟩ g12
    rw [u1, cl_s]
    exact (ih (k + 1) p' (T + 1) _ _ m2 (by omega) (by omega) u3).pre fc2 (g8.trans u2)
theorem tells_sim {q : Nat} {b : Nat → Nat} {c m : Mem} (h6 : Tp6 q b c) (h7 : Tp7 q b m) : Out c m (fX5_tells c) (fX7_isRead m) := by
  have hq := h6.1
  have t6 : fX5_tells c = cl (fX2_clear 17 (up c 5 2 0)) fun r2 g3 => (cl (fX5_tellsLaw g3) fun r4 g5 => (if r4 = 0 then (some ((0 : Int32), g5)) else (cl (fX5_tellsThings g5) fun r6 g7 => (if r6 = 0 then (some ((0 : Int32), g7)) else R6 g7)))) := by unfold fX5_tells R6 S6 E6; rw [pf_e]
  have t7 : fX7_isRead m = fX7_isRead_L7 (fun l3 g4 => cl (fX7_isLaw g4) fun r5 g6 => (if r5 = 0 then (some ((0 : Int32), g6)) else (cl (fX7_nextToken g6) fun r7 g8 => L7 FU 1 g8))) FU (0 : Int32) (up m 61 6 0) := by unfold fX7_isRead L7; rw [pf_e]
  rw [t6, t7, zero67]
  obtain ⟨c1, x1, x2, x3, x4, x5, x6, x7, x8, x9, x10⟩ := clear17 (up c 5 2 0)
  rw [x1, cl_s]
  have fc1 : FC c c1 := (FC_52 c 0).trans x2
  obtain ⟨m1, hm1⟩ : ∃ x, x = upR (up m 61 6 0) 67 (fun j => if j < 50 then 0 else (up m 61 6 0) 67 j) := ⟨_, rfl⟩
  rw [← hm1]
  have y1 : ∀ k, k ≠ 61 → k ≠ 67 → m1 k = m k := fun k k1 k2 => by rw [hm1, upR_a, if_neg k2, up_a, if_neg k1]
  have y2 : ∀ j, m1 61 j = if j = 6 then 0 else m 61 j := fun j => by rw [hm1, upR_a, if_neg (by omega), up_a, if_pos rfl, upd_a]
  have y3 : ∀ j, j < 50 → m1 67 j = 0 := fun j hj => by rw [hm1, upR_a, if_pos rfl, if_pos hj]
  have fm1 : FM m m1 := ⟨y1, fun j hj => by rw [y2, if_neg (by omega)]⟩
  have e2 : c1 5 2 = nI 0 := by rw [x3, up_a, if_pos rfl, upd_a, if_pos rfl]; rfl
  have e6 : m1 61 6 = nI 0 := by rw [y2, if_pos rfl]; rfl
  rcases law_sim (p := 0) (Tp6_FC h6 fc1) (Tp7_FM h7 fm1) (by omega) e2 e6 with ⟨p', c', m', g1, g2, g3, g4, g5, g6, g7, g8, g9, g10, g11⟩ | ⟨c', m', g2, g3, g4⟩
  rotate_left
  · right; exact ⟨c', m', by rw [g2, cl_s, if_pos rfl], by rw [g3, cl_s, if_pos rfl], g4.pre fc1 fm1⟩
  rw [g2, cl_s, if_neg (by decide), g3, cl_s, if_neg (by decide)]
  have nd : DR 0 0 0 (fun _ => 0) c' m' := by
    refine ⟨⟨by omega, by omega, by omega⟩, ?_, ⟨?_, ?_⟩, ⟨?_, ?_⟩, ⟨?_, ?_⟩, ⟨?_, ?_, ?_, ?_⟩, fun i hi => absurd hi (by omega), fun i hi => absurd hi (by omega), fun i hi => absurd hi (by omega), fun i hi => ?_⟩
    · rw [g10 0 (by omega) (by omega), x4]
    · rw [g10 3 (by omega) (by omega), x5]; rfl
    · rw [g11 3 (by omega) (by omega), y3 3 (by omega)]; rfl
    · rw [g10 5 (by omega) (by omega), x6]; rfl
    · rw [g11 4 (by omega) (by omega), y3 4 (by omega)]; rfl
    · rw [g10 10 (by omega) (by omega), x7]; rfl
    · rw [g11 5 (by omega) (by omega), y3 5 (by omega)]; rfl
    · rw [g10 15 (by omega) (by omega), x8]
    · rw [g10 16 (by omega) (by omega), x9]
    · rw [g11 6 (by omega) (by omega), y3 6 (by omega)]
    · rw [g11 7 (by omega) (by omega), y3 7 (by omega)]
    · rw [g9 24 (by omega) (by omega), g9 25 (by omega) (by omega), g9 26 (by omega) (by omega), g11 (38 + i) (by omega) (by omega), g11 (42 + i) (by omega) (by omega), g11 (46 + i) (by omega) (by omega), y3 (38 + i) (by omega), y3 (42 + i) (by omega), y3 (46 + i) (by omega)]
      obtain ⟨z1, z2, z3⟩ := x10 i hi
      exact ⟨z1, z2, z3, rfl, rfl, rfl⟩
  have fc2 : FC c c' := fc1.trans g4
  have fm2 : FM m m' := fm1.trans g5
  obtain ⟨m2, u1, u2, u3⟩ := next_sim (q := q) (b := b) (p := p') (T := 0) (Q := 0) (S := 0) (tr := fun _ => 0) (c := c') (m := m') ⟨Tp6_FC h6 fc2, Tp7_FM h7 fm2, g1, g6, nd, g8⟩ g7
  rw [u1, cl_s]
  rw [tT_e]
  exact (things_loop FU FU p' 0 _ c' m2 (by rw [FU_e]; omega) (by rw [FU_e]; omega) u3).pre fc2 (fm2.trans u2)
