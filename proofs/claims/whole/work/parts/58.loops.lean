theorem all17 {c : Mem} {T : Nat} (hT : T ≤ 8) (h : c 17 3 = nI T) : fX2_allThings 17 c = some (nI (2 ^ T - 1), c) := by
  unfold fX2_allThings
  have hTp : 0 < 2 ^ T := Nat.two_pow_pos T
  rw [h, one_shl T (by omega)]
  have : nI (2 ^ T) - 1 = nI (2 ^ T - 1) := pk_sub (b := 1) hTp
  rw [this]
/-- what the class does behind the suitors -/
def E6 (c : Mem) : Option (Int32 × Mem) := cl (fX2_allThings 17 c) fun r12 g13 => (pf g13 17 1 ((c 17 1) &&& r12) fun g14 => (cl (fX5_next g14) fun r15 g16 => (if r15 = (-1 : Int32) then (some ((1 : Int32), g16)) else (cl (fX5_faulty (1 : Int32) g16) fun r17 g18 => (if r17 = 0 then (some ((0 : Int32), g18)) else (some ((1 : Int32), g18)))))))
theorem fl_up {m : Mem} {p : Nat} {w : Int32} (h : m 61 7 = nI p) : Fl m (up m 61 11 w) p w :=
  ⟨fun k hk => by rw [up_a, if_neg hk], fun j hj => by rw [up_a, if_pos rfl, upd_a, if_neg (by omega)], by rw [up_a, if_pos rfl, upd_a, if_neg (by omega)]; exact h, by rw [up_a, if_pos rfl, upd_a, if_pos rfl]⟩
theorem DR_171 {T Q S : Nat} {tr : Nat → Nat} {c m : Mem} (v : Int32) (h : DR T Q S tr c m) : DR T Q S tr (up c 17 1 v) m := by
  obtain ⟨h1, h2, h3, h4, h5, ⟨h6, h7, h8⟩, h9, h10, h11, h12⟩ := h
  have e : ∀ k, k ≠ 17 → (up c 17 1 v) k = c k := fun k hk => by rw [up_a, if_neg hk]
  have e7 : ∀ i, i ≠ 1 → (up c 17 1 v) 17 i = c 17 i := fun i hi => by rw [up_a, if_pos rfl, upd_a, if_neg hi]
  refine ⟨h1, ?_, ?_, ?_, ?_, ⟨?_, ?_, h8⟩, fun i hi => ?_, fun i hi => ?_, fun i hi => ?_, fun i hi => ?_⟩
  · rw [e7 0 (by omega)]; exact h2
  · rw [e7 3 (by omega)]; exact h3
  · rw [e7 5 (by omega)]; exact h4
  · rw [e7 10 (by omega)]; exact h5
  · rw [e7 15 (by omega)]; exact h6
  · rw [e7 16 (by omega)]; exact h7
  · rw [e 18 (by omega)]; exact h9 i hi
  · rw [e 19 (by omega), e 20 (by omega), e 21 (by omega), e 22 (by omega)]; exact h10 i hi
  · rw [e 23 (by omega)]; exact h11 i hi
  · rw [e 24 (by omega), e 25 (by omega), e 26 (by omega)]; exact h12 i hi
theorem end_sim {q : Nat} {b : Nat → Nat} {p T Q S n : Nat} {tr : Nat → Nat} {c m : Mem} (h : Rd q b p T Q S tr c m) (h9 : nx b q p ≠ 119) (ht : ¬ (nx b q p = 116 ∧ S = 0 ∧ Q = 0)) (hr : ¬ (srt (nx b q p) ≠ 0 ∧ S = 0)) : Out c m (E6 c) (L7 (n + 2) 1 m) := by
  obtain ⟨⟨a1, a2, a3, a4, a5, x, y, x1, y1, x2, x3, y2, y3⟩, b1, b2, b3⟩ := h
  have hq := a1.1
  have hd := a5
  obtain ⟨⟨hT, hQ, hS⟩, d0, d3, d5, d10, -⟩ := hd
  have hbb : p < q → b p < 256 := fun hh => (a1.2.2 p (by omega)).1
  unfold E6
  rw [all17 hT d3.1, cl_s, pf_e, x2, fa_and]
  have fc : FC c (up c 17 1 (nI (x &&& (2 ^ T - 1)))) := FC_d c 17 1 _ (by omega)
  have e52 : (up c 17 1 (nI (x &&& (2 ^ T - 1)))) 5 2 = nI p := by rw [up_a, if_neg (by omega)]; exact a4
  rw [nx_e (Tp6_FC a1 fc) a3 e52, cl_s]
  by_cases hpq : p = q
  · left
    have e1 : nx b q p = -1 := by unfold nx; rw [if_pos hpq]
    have e2 : tk b q p = -2 := by unfold tk; rw [if_pos hpq]
    refine ⟨T, Q, S, tr, _, m, by rw [e1, if_pos rfl], by rw [L7_end (by rw [b3, e2]), rz_1], fc, FM.rfl', DR_171 _ a5, x, y, x1, y1, ?_, x3, ?_, y3⟩
    · rw [up_a, if_pos rfl, upd_a, if_pos rfl]
    · rw [up_a, if_pos rfl, upd_a, if_neg (by omega)]; exact y2
  · right
    have hb := hbb (by omega)
    have e1 : nx b q p ≠ -1 := by unfold nx; rw [if_neg hpq]; exact fun hc => m1_ne (by omega) hc.symm
    refine ⟨up (up c 17 1 (nI (x &&& (2 ^ T - 1)))) 5 3 1, up m 61 11 1, by rw [if_neg e1]; rfl, ?_, (bad_of e52 (fl_up b1)).pre fc FM.rfl'⟩
    refine L7_bad (by rw [b3]; exact tk_ne2 (by omega) hb) (by rw [b3]; exact fun hc => h9 ((tk_nx (x := 119) a3 (by omega) hbb (by decide)).mp hc)) ?_ ?_
    · rw [b3, d10.2, d5.2, nI_z (by omega), nI_z (by omega)]
      exact fun hc => ht ⟨(tk_nx (x := 116) a3 (by omega) hbb (by decide)).mp hc.1, hc.2⟩
    · rw [b3, srt_tk a3 hbb, d10.2, nI_z (by omega)]; exact hr
theorem DR_S {T Q S x : Nat} {tr : Nat → Nat} {c m c' m' : Mem} (h : DR T Q S tr c m) (hS : S < 4) (hx : x < 2 ^ T) (hc : ∀ k, k ≠ 5 → c' k = c k) (hm : ∀ j, m' 67 j = if j = 5 then nI (S + 1) else if j = 34 + S then nI x else m 67 j) : DR T Q (S + 1) tr (up (up c' 23 S (nI x)) 17 10 (nI (S + 1))) m' := by
  obtain ⟨h1, h2, h3, h4, h5, ⟨h6, h7, h8⟩, h9, h10, h11, h12⟩ := h
  have e : ∀ k, k ≠ 17 → k ≠ 23 → k ≠ 5 → (up (up c' 23 S (nI x)) 17 10 (nI (S + 1))) k = c k := fun k k1 k2 k3 => by rw [up_a, if_neg k1, up_a, if_neg k2, hc k k3]
  have e7 : ∀ i, (up (up c' 23 S (nI x)) 17 10 (nI (S + 1))) 17 i = if i = 10 then nI (S + 1) else c 17 i := fun i => by
    have inner : (up c' 23 S (nI x)) 17 = c 17 := by rw [up_a, if_neg (by omega), hc 17 (by omega)]
    rw [up_a, if_pos rfl, upd_a, inner]
  have e3 : ∀ i, (up (up c' 23 S (nI x)) 17 10 (nI (S + 1))) 23 i = if i = S then nI x else c 23 i := fun i => by rw [up_a, if_neg (by omega), up_a, if_pos rfl, upd_a, hc 23 (by omega)]
  have m0 : ∀ j, j ≠ 5 → j ≠ 34 + S → m' 67 j = m 67 j := fun j j1 j2 => by rw [hm, if_neg j1, if_neg j2]
  refine ⟨⟨h1.1, h1.2.1, by omega⟩, ?_, ?_, ?_, ?_, ⟨?_, ?_, ?_⟩, fun i hi => ?_, fun i hi => ?_, fun i hi => ?_, fun i hi => ?_⟩
  · rw [e7, if_neg (by omega)]; exact h2
  · rw [e7, if_neg (by omega), m0 3 (by omega) (by omega)]; exact h3
  · rw [e7, if_neg (by omega), m0 4 (by omega) (by omega)]; exact h4
  · rw [e7, if_pos rfl, hm, if_pos rfl]; exact ⟨rfl, rfl⟩
  · rw [e7, if_neg (by omega)]; exact h6
  · rw [e7, if_neg (by omega)]; exact h7
  · rw [m0 6 (by omega) (by omega), m0 7 (by omega) (by omega)]; exact h8
  · rw [e 18 (by omega) (by omega) (by omega), m0 (8 + i) (by omega) (by omega)]; exact h9 i hi
  · rw [e 19 (by omega) (by omega) (by omega), e 20 (by omega) (by omega) (by omega), e 21 (by omega) (by omega) (by omega), e 22 (by omega) (by omega) (by omega), m0 (16 + i) (by omega) (by omega), m0 (22 + i) (by omega) (by omega), m0 (28 + i) (by omega) (by omega)]; exact h10 i hi
  · rw [e3, hm, if_neg (show ¬ 34 + i = 5 by omega)]
    by_cases hiS : i = S
    · rw [if_pos hiS, if_pos (by omega)]; exact ⟨x, hx, rfl, rfl⟩
    · rw [if_neg hiS, if_neg (by omega)]; exact h11 i (by omega)
  · rw [e 24 (by omega) (by omega) (by omega), e 25 (by omega) (by omega) (by omega), e 26 (by omega) (by omega) (by omega), m0 (38 + i) (by omega) (by omega), m0 (42 + i) (by omega) (by omega), m0 (46 + i) (by omega) (by omega)]; exact h12 i hi
theorem DR_T {T x : Nat} {tr : Nat → Nat} {c m c' m' : Mem} (h : DR T 0 0 tr c m) (hT : T < 8) (hx : x < 32) (hc : ∀ k, k ≠ 5 → c' k = c k) (hm : ∀ j, m' 67 j = if j = 3 then nI (T + 1) else if j = 8 + T then nI x else m 67 j) : DR (T + 1) 0 0 (fun i => if i = T then x else tr i) (up (up c' 18 T (nI x)) 17 3 (nI (T + 1))) m' := by
  obtain ⟨h1, h2, h3, h4, h5, ⟨h6, h7, h8⟩, h9, h10, h11, h12⟩ := h
  have e : ∀ k, k ≠ 17 → k ≠ 18 → k ≠ 5 → (up (up c' 18 T (nI x)) 17 3 (nI (T + 1))) k = c k := fun k k1 k2 k3 => by rw [up_a, if_neg k1, up_a, if_neg k2, hc k k3]
  have e7 : ∀ i, (up (up c' 18 T (nI x)) 17 3 (nI (T + 1))) 17 i = if i = 3 then nI (T + 1) else c 17 i := fun i => by
    have inner : (up c' 18 T (nI x)) 17 = c 17 := by rw [up_a, if_neg (by omega), hc 17 (by omega)]
    rw [up_a, if_pos rfl, upd_a, inner]
  have e3 : ∀ i, (up (up c' 18 T (nI x)) 17 3 (nI (T + 1))) 18 i = if i = T then nI x else c 18 i := fun i => by rw [up_a, if_neg (by omega), up_a, if_pos rfl, upd_a, hc 18 (by omega)]
  have m0 : ∀ j, j ≠ 3 → j ≠ 8 + T → m' 67 j = m 67 j := fun j j1 j2 => by rw [hm, if_neg j1, if_neg j2]
  refine ⟨⟨by omega, h1.2.1, h1.2.2⟩, ?_, ?_, ?_, ?_, ⟨?_, ?_, ?_⟩, fun i hi => ?_, fun i hi => absurd hi (by omega), fun i hi => absurd hi (by omega), fun i hi => ?_⟩
  · rw [e7, if_neg (by omega)]; exact h2
  · rw [e7, if_pos rfl, hm, if_pos rfl]; exact ⟨rfl, rfl⟩
  · rw [e7, if_neg (by omega), m0 4 (by omega) (by omega)]; exact h4
  · rw [e7, if_neg (by omega), m0 5 (by omega) (by omega)]; exact h5
  · rw [e7, if_neg (by omega)]; exact h6
  · rw [e7, if_neg (by omega)]; exact h7
  · rw [m0 6 (by omega) (by omega), m0 7 (by omega) (by omega)]; exact h8
  · show (if i = T then x else tr i) < 32 ∧ _ = nI (if i = T then x else tr i) ∧ _ = nI (if i = T then x else tr i)
    rw [e3, hm, if_neg (show ¬ 8 + i = 3 by omega)]
    by_cases hiT : i = T
    · rw [if_pos hiT, if_pos hiT, if_pos (by omega)]; exact ⟨hx, rfl, rfl⟩
    · rw [if_neg hiT, if_neg hiT, if_neg (by omega)]; exact h9 i (by omega)
  · rw [e 24 (by omega) (by omega) (by omega), e 25 (by omega) (by omega) (by omega), e 26 (by omega) (by omega) (by omega), m0 (38 + i) (by omega) (by omega), m0 (42 + i) (by omega) (by omega), m0 (46 + i) (by omega) (by omega)]; exact h12 i hi
theorem DR_Q {T Q sk yy nn : Nat} {tr : Nat → Nat} {c m c' m' : Mem} (h : DR T Q 0 tr c m) (hQ : Q < 6) (hs : 1 ≤ sk ∧ sk ≤ 5) (hy : yy < 32) (hn : nn < 32) (hc : ∀ k, k ≠ 5 → k ≠ 19 → k ≠ 20 → k ≠ 21 → k ≠ 22 → c' k = c k) (h19 : c' 19 = upd (c 19) Q (nI sk)) (h20 : c' 20 = upd (c 20) Q (nI yy)) (h21 : c' 21 = upd (c 21) Q (nI nn)) (h22 : c' 22 = upd (c 22) Q (nI (fset tr sk yy nn T))) (hm : ∀ j, m' 67 j = if j = 4 then nI (Q + 1) else if j = 28 + Q then nI nn else if j = 22 + Q then nI yy else if j = 16 + Q then nI sk else m 67 j) : DR T (Q + 1) 0 tr (up c' 17 5 (nI (Q + 1))) m' := by
  obtain ⟨h1, h2, h3, h4, h5, ⟨h6, h7, h8⟩, h9, h10, h11, h12⟩ := h
  have e0 : ∀ k, k ≠ 17 → (up c' 17 5 (nI (Q + 1))) k = c' k := fun k k1 => by rw [up_a, if_neg k1]
  have e : ∀ k, k ≠ 17 → k ≠ 5 → k ≠ 19 → k ≠ 20 → k ≠ 21 → k ≠ 22 → (up c' 17 5 (nI (Q + 1))) k = c k := fun k k1 k2 k3 k4 k5 k6 => by rw [e0 k k1, hc k k2 k3 k4 k5 k6]
  have e7 : ∀ i, (up c' 17 5 (nI (Q + 1))) 17 i = if i = 5 then nI (Q + 1) else c 17 i := fun i => by rw [up_a, if_pos rfl, upd_a, hc 17 (by omega) (by omega) (by omega) (by omega) (by omega)]
  have m0 : ∀ j, j ≠ 4 → j ≠ 28 + Q → j ≠ 22 + Q → j ≠ 16 + Q → m' 67 j = m 67 j := fun j j1 j2 j3 j4 => by rw [hm, if_neg j1, if_neg j2, if_neg j3, if_neg j4]
  refine ⟨⟨h1.1, by omega, h1.2.2⟩, ?_, ?_, ?_, ?_, ⟨?_, ?_, ?_⟩, fun i hi => ?_, fun i hi => ?_, fun i hi => absurd hi (by omega), fun i hi => ?_⟩
  · rw [e7, if_neg (by omega)]; exact h2
  · rw [e7, if_neg (by omega), m0 3 (by omega) (by omega) (by omega) (by omega)]; exact h3
  · rw [e7, if_pos rfl, hm, if_pos rfl]; exact ⟨rfl, rfl⟩
  · rw [e7, if_neg (by omega), m0 5 (by omega) (by omega) (by omega) (by omega)]; exact h5
  · rw [e7, if_neg (by omega)]; exact h6
  · rw [e7, if_neg (by omega)]; exact h7
  · rw [m0 6 (by omega) (by omega) (by omega) (by omega), m0 7 (by omega) (by omega) (by omega) (by omega)]; exact h8
  · rw [e 18 (by omega) (by omega) (by omega) (by omega) (by omega) (by omega), m0 (8 + i) (by omega) (by omega) (by omega) (by omega)]; exact h9 i hi
  · rw [e0 19 (by omega), e0 20 (by omega), e0 21 (by omega), e0 22 (by omega), h19, h20, h21, h22, upd_a, upd_a, upd_a, upd_a]
    by_cases hiQ : i = Q
    · refine ⟨sk, yy, nn, ⟨hs.1, hs.2, hy, hn⟩, by rw [if_pos hiQ], ?_, by rw [if_pos hiQ], ?_, by rw [if_pos hiQ], ?_, by rw [if_pos hiQ]⟩
      · rw [hm, if_neg (by omega), if_neg (by omega), if_neg (by omega), if_pos (by omega)]
      · rw [hm, if_neg (by omega), if_neg (by omega), if_pos (by omega)]
      · rw [hm, if_neg (by omega), if_pos (by omega)]
    · rw [if_neg hiQ, if_neg hiQ, if_neg hiQ, if_neg hiQ, m0 (16 + i) (by omega) (by omega) (by omega) (by omega), m0 (22 + i) (by omega) (by omega) (by omega) (by omega), m0 (28 + i) (by omega) (by omega) (by omega) (by omega)]; exact h10 i (by omega)
  · rw [e 24 (by omega) (by omega) (by omega) (by omega) (by omega) (by omega), e 25 (by omega) (by omega) (by omega) (by omega) (by omega) (by omega), e 26 (by omega) (by omega) (by omega) (by omega) (by omega) (by omega), m0 (38 + i) (by omega) (by omega) (by omega) (by omega), m0 (42 + i) (by omega) (by omega) (by omega) (by omega), m0 (46 + i) (by omega) (by omega) (by omega) (by omega)]; exact h12 i hi
/-- nothing of the law is changed -/
theorem DL.keep {c m c' m' : Mem} (h : DL c m) (h1 : c' 17 1 = c 17 1) (h2 : c' 17 2 = c 17 2) (h3 : m' 67 1 = m 67 1) (h4 : m' 67 2 = m 67 2) : DL c' m' := by
  unfold DL at *; rw [h1, h2, h3, h4]; exact h
