section SG
variable {T Q S : Nat} {F K : Nat → Nat} {sh us : Nat} {g : Mem}
theorem hear6 (V : View T Q S F K sh us g) {r a n : Nat} (hr : r < 8) (hn : a + n ≤ 40) (hn6 : n ≤ 6) {l1 l5 : Int32} {KK : Int32 → Mem → Option (Int32 × Mem)} : ∀ d m p (s : Mem), p + d = n → d < m → (∀ k, k ≠ 60 → s k = g k) → (∀ q, q < p → s 60 q = g 4 (40 * r + a + q) ∧ okv T (g 4 (40 * r + a + q))) →
    ∃ s' : Mem, (∀ k, k ≠ 60 → s' k = g k) ∧ (((∀ q, q < n → s' 60 q = g 4 (40 * r + a + q) ∧ okv T (g 4 (40 * r + a + q))) ∧ fX6_said_L88 l1 (nI r) (nI a) (nI n) l5 KK m (nI p) s = KK (nI n) s') ∨ ((∃ q, q < n ∧ ¬ okv T (g 4 (40 * r + a + q))) ∧ fX6_said_L88 l1 (nI r) (nI a) (nI n) l5 KK m (nI p) s = some (-1000001, s'))) := by
  have hb := V.1
  intro d
  induction d with
  | zero =>
    intro m p s h1 h2 h3 h4
    obtain ⟨m, rfl⟩ : ∃ k, m = k + 1 := ⟨m - 1, by omega⟩
    have : p = n := by omega
    subst this
    refine ⟨s, h3, Or.inl ⟨h4, ?_⟩⟩
    rw [fX6_said_L88, if_pos (nI_le (Nat.le_refl p) (by omega))]
  | succ d ih =>
    intro m p s h1 h2 h3 h4
    obtain ⟨m, rfl⟩ : ∃ k, m = k + 1 := ⟨m - 1, by omega⟩
    have i4 : (nI r * (40 : Int32)) + (nI a + nI p) = nI (40 * r + a + p) := by rw [show (40 : Int32) = nI 40 from rfl, pk_mul, nI_add, nI_add, show r * 40 + (a + p) = 40 * r + a + p by omega]
    have est : fX6_said_L88 l1 (nI r) (nI a) (nI n) l5 KK (m + 1) (nI p) s = (if g 4 (40 * r + a + p) = (-1 : Int32) then (fX6_said_L88 l1 (nI r) (nI a) (nI n) l5 KK m (nI (p + 1)) (up s 60 p (g 4 (40 * r + a + p)))) else (cl (fX6_below (g 4 (40 * r + a + p)) (nI T) (up s 60 p (g 4 (40 * r + a + p)))) fun r18 g19 => (if r18 = 0 then (some ((-1000001 : Int32), g19)) else (fX6_said_L88 l1 (nI r) (nI a) (nI n) l5 KK m (nI (p + 1)) g19)))) := by
      rw [fX6_said_L88, if_neg (nI_ge (show p < n by omega) (by omega))]
      unfold fX4_at
      rw [i4, al_nI (by omega) (by omega), cl_s, as_nI (by omega) (by omega), al_nI (by omega) (by omega), al_nI (by omega) (by omega), h3 4 (by omega), nI_1]
      have e1 : (up s 60 p (g 4 (40 * r + a + p))) 60 p = g 4 (40 * r + a + p) := by rw [up_a, if_pos rfl, upd_a, if_pos rfl]
      have e2 : (up s 60 p (g 4 (40 * r + a + p))) 7 3 = nI T := by rw [up_a, if_neg (by omega), h3 7 (by omega)]; exact V.2.1.1
      rw [e1, e2]
    rw [est]
    have hk : ∀ k, k ≠ 60 → (up s 60 p (g 4 (40 * r + a + p))) k = g k := fun k hk => by rw [up_a, if_neg hk, h3 k hk]
    have hq : okv T (g 4 (40 * r + a + p)) → ∀ q, q < p + 1 → (up s 60 p (g 4 (40 * r + a + p))) 60 q = g 4 (40 * r + a + q) ∧ okv T (g 4 (40 * r + a + q)) := fun ho q hq => by
      rw [up_a, if_pos rfl, upd_a]
      by_cases e : q = p
      · rw [if_pos e, e]; exact ⟨rfl, ho⟩
      · rw [if_neg e]; exact h4 q (by omega)
    have go := fun (ho : okv T (g 4 (40 * r + a + p))) => ih m (p + 1) (up s 60 p (g 4 (40 * r + a + p))) (by omega) (by omega) hk (hq ho)
    by_cases h0 : g 4 (40 * r + a + p) = -1
    · rw [if_pos h0]; exact go (Or.inl h0)
    · rw [if_neg h0]
      have bad : (g 4 (40 * r + a + p) < 0 ∨ nI T ≤ g 4 (40 * r + a + p)) → ¬ okv T (g 4 (40 * r + a + p)) := okv_no hb.1 h0
      rcases pk_ix (g 4 (40 * r + a + p)) (n := T) (by omega) with hx | hx | ⟨t, ht, hx⟩
      · rw [below_f (Or.inl hx), cl_s, if_pos rfl]
        exact ⟨_, hk, Or.inr ⟨⟨p, by omega, bad (Or.inl hx)⟩, rfl⟩⟩
      · rw [below_f (Or.inr hx), cl_s, if_pos rfl]
        exact ⟨_, hk, Or.inr ⟨⟨p, by omega, bad (Or.inr hx)⟩, rfl⟩⟩
      · have go2 := go (Or.inr ⟨t, ht, hx⟩)
        have hbl : fX6_below (g 4 (40 * r + a + p)) (nI T) (up s 60 p (g 4 (40 * r + a + p))) = some (1, up s 60 p (g 4 (40 * r + a + p))) := by
          generalize up s 60 p (g 4 (40 * r + a + p)) = X
          rw [hx]; exact below_t ht (by omega) X
        rw [hbl, cl_s, if_neg (by decide)]
        exact go2
theorem hear7 (V : View T Q S F K sh us g) {r a n : Nat} (hr : r < 8) (hn : a + n ≤ 40) {l1 l5 : Int32} {KK : Int32 → Mem → Option (Int32 × Mem)} {g' : Mem} (hg : g' 66 = g 66) (hg4 : ∀ j, j < 320 → g' 64 j = g 4 j) : ∀ d m p, p + d = n → d < m → (∀ q, q < p → okv T (g 4 (40 * r + a + q))) →
    (((∀ q, q < n → okv T (g 4 (40 * r + a + q))) ∧ fX7_said_L78 l1 (nI r) (nI a) (nI n) l5 KK m (nI p) g' = KK (nI n) g') ∨ ((∃ q, q < n ∧ ¬ okv T (g 4 (40 * r + a + q))) ∧ fX7_said_L78 l1 (nI r) (nI a) (nI n) l5 KK m (nI p) g' = some (-1000001, g'))) := by
  have hb := V.1
  intro d
  induction d with
  | zero =>
    intro m p h1 h2 h4
    obtain ⟨m, rfl⟩ : ∃ k, m = k + 1 := ⟨m - 1, by omega⟩
    have : p = n := by omega
    subst this
    exact Or.inl ⟨h4, by rw [fX7_said_L78, if_pos (nI_le (Nat.le_refl p) (by omega))]⟩
  | succ d ih =>
    intro m p h1 h2 h4
    obtain ⟨m, rfl⟩ : ∃ k, m = k + 1 := ⟨m - 1, by omega⟩
    have i64 : ((40 : Int32) * nI r + nI a) + nI p = nI (40 * r + a + p) := by rw [show (40 : Int32) = nI 40 from rfl, pk_mul, nI_add, nI_add]
    rw [fX7_said_L78, if_neg (nI_ge (show p < n by omega) (by omega)), i64, al_nI (by omega) (by omega), hg4 _ (by omega), nI_1]
    have go := fun (ho : okv T (g 4 (40 * r + a + p))) => ih m (p + 1) (by omega) (by omega) (fun q hq => by
      by_cases e : q = p
      · rw [e]; exact ho
      · exact h4 q (by omega))
    by_cases h0 : g 4 (40 * r + a + p) = -1
    · rw [if_pos h0]; exact go (Or.inl h0)
    · rw [if_neg h0]
      have bad : (g 4 (40 * r + a + p) < 0 ∨ nI T ≤ g 4 (40 * r + a + p)) → ¬ okv T (g 4 (40 * r + a + p)) := okv_no hb.1 h0
      rcases pk_ix (g 4 (40 * r + a + p)) (n := T) (by omega) with hx | hx | ⟨t, ht, hx⟩
      · rw [isT_f V (Or.inl hx) hg, cl_s, if_pos rfl]
        exact Or.inr ⟨⟨p, by omega, bad (Or.inl hx)⟩, rfl⟩
      · rw [isT_f V (Or.inr hx) hg, cl_s, if_pos rfl]
        exact Or.inr ⟨⟨p, by omega, bad (Or.inr hx)⟩, rfl⟩
      · have go2 := go (Or.inr ⟨t, ht, hx⟩)
        have hbl : fX7_isThingAt (g 4 (40 * r + a + p)) g' = some (1, g') := by rw [hx]; exact isT_t V ht hg
        rw [hbl, cl_s, if_neg (by decide)]
        exact go2
theorem pow7 (V : View T Q S F K sh us g) {n : Nat} (hn : n ≤ 6) {l1 l2 l3 l5 : Int32} {KK : Int32 → Int32 → Mem → Option (Int32 × Mem)} {g' : Mem} (hg : g' 66 = g 66) : fX7_said_L131 l1 l2 l3 (nI n) l5 KK FU 1 0 g' = KK (nI (Q ^ n)) (nI n) g' := by
  have l4 : ∀ G, al g' 66 50 (4 : Int32) G = G (nI Q) := fun G => by rw [show (4 : Int32) = nI 4 from rfl, lit66 g' 4 (by omega), hg, V.2.2.1.2]
  refine loopI (fun m p x => fX7_said_L131 l1 l2 l3 (nI n) l5 KK m x (nI p) g') _ (fun p x => x = nI (Q ^ p)) n ?_ ?_ n FU 0 1 (by omega) (by rw [FU_e]; omega) rfl
  · rintro m x rfl
    show fX7_said_L131 l1 l2 l3 (nI n) l5 KK (m + 1) _ (nI n) g' = _
    rw [fX7_said_L131, if_pos (nI_le (Nat.le_refl n) (by omega))]
  · rintro m p x hp rfl
    refine ⟨_, rfl, ?_⟩
    show fX7_said_L131 l1 l2 l3 (nI n) l5 KK (m + 1) _ (nI p) g' = _
    rw [fX7_said_L131, if_neg (nI_ge hp (by omega)), l4, lt_e, pk_mul, nI_1, Nat.pow_succ]
end SG
theorem tm_congr {h h' : Nat → Int32} {v : Int32} {p : Nat} (hh : ∀ q, q < p → h q = h' q) : tm h v p = tm h' v p := cnt_congr (fun q hq => by show decide (h q = v) = decide (h' q = v); rw [hh q hq])
theorem pr_congr (Q : Nat) (say : Nat → Int32) {h h' : Nat → Int32} (o : Int32 → Nat) : ∀ n p, (∀ q, q < p + n → h q = h' q) → pr Q say h o n p = pr Q say h' o n p := by
  intro n
  induction n with
  | zero => intro p _; rfl
  | succ n ih =>
    intro p hh
    rw [pr, pr, ih (p + 1) (fun q hq => hh q (by omega)), hh p (by omega), tm_congr (fun q hq => hh q (by omega))]
theorem mk6_congr (Q : Nat) (say : Nat → Int32) {h h' : Nat → Int32} {n : Nat} (hh : ∀ q, q < n → h q = h' q) : mk6 Q say h n = mk6 Q say h' n := by
  unfold mk6
  apply bset_congr
  intro i _
  rw [cnt_congr (p := fun q => decide (say i = h q) && decide (Rn Q say (h q) - tm h (h q) q = 1)) (q := fun q => decide (say i = h' q) && decide (Rn Q say (h' q) - tm h' (h' q) q = 1)) (fun q hq => by
    show (decide (say i = h q) && decide (Rn Q say (h q) - tm h (h q) q = 1)) = (decide (say i = h' q) && decide (Rn Q say (h' q) - tm h' (h' q) q = 1))
    rw [hh q hq, tm_congr (fun j hj => hh j (by omega))])]
theorem E_said {g : Mem} (h : Inv g) (x y z u v : Int32) : Both g (fun g => fX6_said x y z u v g) (fun g => fX7_said x y z u v g) := by
  obtain ⟨T, Q, S, tr, F, K, sh, us, C, V⟩ := Inv_cv h
  have hb := V.1
  have bad : (x < 0 ∨ nI S ≤ x) → Both g (fun g => fX6_said x y z u v g) (fun g => fX7_said x y z u v g) := fun hx => by
    refine ⟨-1000001, g, g, ?_, ?_, h⟩
    · simp only [fX6_said]
      rw [V.2.2.2.1.1, below_f hx, cl_s, if_pos rfl]
    · simp only [fX7_said]
      rw [isS_f V hx rfl, cl_s, if_pos rfl]
  rcases pk_ix x (n := S) (by omega) with hx | hx | ⟨s, hs, rfl⟩
  · exact bad (Or.inl hx)
  · exact bad (Or.inr hx)
  have bad : (y < 0 ∨ nI 8 ≤ y) → Both g (fun g => fX6_said (nI s) y z u v g) (fun g => fX7_said (nI s) y z u v g) := fun hx => by
    refine ⟨-1000001, g, g, ?_, ?_, h⟩
    · simp only [fX6_said]
      rw [V.2.2.2.1.1, below_t hs (by omega), cl_s, if_neg (by decide), show (8 : Int32) = nI 8 from rfl, below_f hx, cl_s, if_pos rfl]
    · simp only [fX7_said]
      rw [isS_t V hs rfl, cl_s, if_neg (by decide), isRow_f hx, cl_s, if_pos rfl]
  rcases pk_ix y (n := 8) (by omega) with hx | hx | ⟨r, hr, rfl⟩
  · exact bad (Or.inl hx)
  · exact bad (Or.inr hx)
  by_cases u1 : u < 1
  · refine ⟨-1000001, g, g, ?_, ?_, h⟩
    · simp only [fX6_said]
      rw [V.2.2.2.1.1, below_t hs (by omega), cl_s, if_neg (by decide), show (8 : Int32) = nI 8 from rfl, below_t hr (by omega), cl_s, if_neg (by decide), if_pos u1]
    · simp only [fX7_said]
      rw [isS_t V hs rfl, cl_s, if_neg (by decide), isRow_t hr, cl_s, if_neg (by decide), in_f (Or.inl u1), cl_s, if_pos rfl]
  by_cases u6 : 6 < u
  · refine ⟨-1000001, g, g, ?_, ?_, h⟩
    · simp only [fX6_said]
      rw [V.2.2.2.1.1, below_t hs (by omega), cl_s, if_neg (by decide), show (8 : Int32) = nI 8 from rfl, below_t hr (by omega), cl_s, if_neg (by decide), if_neg u1, if_pos u6]
    · simp only [fX7_said]
      rw [isS_t V hs rfl, cl_s, if_neg (by decide), isRow_t hr, cl_s, if_neg (by decide), in_f (Or.inr u6), cl_s, if_pos rfl]
  have bad : (v < 0 ∨ nI 2 ≤ v) → Both g (fun g => fX6_said (nI s) (nI r) z u v g) (fun g => fX7_said (nI s) (nI r) z u v g) := fun hx => by
    refine ⟨-1000001, g, g, ?_, ?_, h⟩
    · simp only [fX6_said]
      rw [V.2.2.2.1.1, below_t hs (by omega), cl_s, if_neg (by decide), show (8 : Int32) = nI 8 from rfl, below_t hr (by omega), cl_s, if_neg (by decide), if_neg u1, if_neg u6, show (2 : Int32) = nI 2 from rfl, below_f hx, cl_s, if_pos rfl]
    · simp only [fX7_said]
      rw [isS_t V hs rfl, cl_s, if_neg (by decide), isRow_t hr, cl_s, if_neg (by decide), in_t u1 u6, cl_s, if_neg (by decide)]
      have e1 : fX7_in v 0 (1 : Int32) g = some (0, g) := inN_f (n := 1) (by omega) hx g
      rw [e1, cl_s, if_pos rfl]
  rcases pk_ix v (n := 2) (by omega) with hx | hx | ⟨w, hw, rfl⟩
  · exact bad (Or.inl hx)
  · exact bad (Or.inr hx)
  obtain ⟨⟨sz, hsz, s1, s2⟩, hwd⟩ := h.1.1 r hr
  have p6 : fX6_said (nI s) (nI r) z u (nI w) g = cl (fX4_isMissing (nI r) g) fun r7 g8 => (if r7 = 0 then (cl (fX4_hasPlaces (nI r) z u g8) fun r9 g10 => (if r9 = 0 then (cl (fX6_found (2 : Int32) g10) fun r11 g12 => (some (r11, g12))) else (fX6_said_L88 (nI s) (nI r) z u (nI w) (fun l20 g21 => cl (fX3_riddlesHeard (nI s) 60 6 u (nI w) g21) fun r22 g23 => (cl (fX6_clean r22 g23) fun r24 g25 => (some (r24, g25)))) FU (0 : Int32) g10))) else (cl (fX6_found (1 : Int32) g8) fun r26 g27 => (some (r26, g27)))) := by
    simp only [fX6_said]
    have e2 : fX6_below (nI w) (2 : Int32) g = some (1, g) := below_t (n := 2) hw (by omega) g
    rw [V.2.2.2.1.1, below_t hs (by omega), cl_s, if_neg (by decide), show (8 : Int32) = nI 8 from rfl, below_t hr (by omega), cl_s, if_neg (by decide), if_neg u1, if_neg u6, e2, cl_s, if_neg (by decide)]
  have p7 : ∀ g' : Mem, g' 66 = g 66 → g' 62 = g 62 → g' 63 = g 63 → fX7_said (nI s) (nI r) z u (nI w) g' = (if 0 ≤ g 62 r then (cl (fX7_isPart z u (g 63 r) g') fun r11 g12 => (if r11 = 0 then (cl (fX7_finds (2 : Int32) g12) fun r13 g14 => (some (r13, g14))) else (fX7_said_L78 (nI s) (nI r) z u (nI w) (fun l18 g19 => fX7_said_L131 (nI s) (nI r) z u (nI w) (fun l22 l23 g24 => fX7_said_L164 (nI s) (nI r) z u (nI w) l22 (fun l46 l47 l48 g49 => if nI w = 0 then (cl (fX7_done l46 g49) fun r50 g51 => (some (r50, g51))) else (cl (fX7_done l47 g49) fun r52 g53 => (some (r52, g53)))) FU (0 : Int32) (0 : Int32) (0 : Int32) g24) FU (1 : Int32) (0 : Int32) g19) FU (0 : Int32) g12))) else (cl (fX7_finds (1 : Int32) g') fun r54 g55 => (some (r54, g55)))) := by
    intro g' hg h62 h63
    simp only [fX7_said]
    have e1 : fX7_in (nI w) 0 (1 : Int32) g' = some (1, g') := inN_t (n := 1) (by omega) (by omega) g'
    rw [isS_t V hs hg, cl_s, if_neg (by decide), isRow_t hr, cl_s, if_neg (by decide), in_t u1 u6, cl_s, if_neg (by decide), e1, cl_s, if_neg (by decide), al_nI hr (by omega), al_nI hr (by omega), h62, h63]
  rcases hwd with ⟨w1, w2⟩ | ⟨k, hk, w1, w2⟩
  · refine ⟨-1000011, up g 0 10 1, up (up g 0 10 1) 61 3 1, ?_, ?_, Inv_st h 1⟩
    · show fX6_said (nI s) (nI r) z u (nI w) g = _
      rw [p6, missing_t hr w1, cl_s, if_neg (by decide), found_e, cl_s]; rfl
    · show fX7_said (nI s) (nI r) z u (nI w) _ = _
      rw [p7 _ (by rw [up_a, if_neg (by omega)]) (by rw [up_a, if_neg (by omega)]) (by rw [up_a, if_neg (by omega)]), w2, if_neg (by decide), finds_e, cl_s]; rfl
  rw [missing_f hr (by rw [w2]; exact w_ne0 hk), cl_s, if_pos rfl, places_e hr s1, cl_s] at p6
  by_cases hpl : ¬ z < 0 ∧ ¬ u < 0 ∧ ¬ nI sz < u ∧ ¬ nI sz - u < z
  rotate_left
  · rw [if_neg hpl, if_pos rfl, found_e, cl_s] at p6
    refine ⟨-1000012, up g 0 10 2, up (up g 0 10 2) 61 3 2, ?_, ?_, Inv_st h 2⟩
    · show fX6_said (nI s) (nI r) z u (nI w) g = _
      rw [p6]; rfl
    · show fX7_said (nI s) (nI r) z u (nI w) _ = _
      rw [p7 _ (by rw [up_a, if_neg (by omega)]) (by rw [up_a, if_neg (by omega)]) (by rw [up_a, if_neg (by omega)]), w1, if_pos (nI_pos' (by omega)), s2, part_e, if_neg hpl, cl_s, if_pos rfl, finds_e, cl_s]; rfl
  rw [if_pos hpl, if_neg (by decide)] at p6
  have hpl' := hpl
  obtain ⟨a, n, rfl, rfl, han⟩ := part_ok hsz hpl
  have hn1 : 1 ≤ n := by
    apply Classical.byContradiction
    intro hc
    exact u1 (show nI n < nI 1 from nI_lt (by omega) (by omega))
  have hn6 : n ≤ 6 := by
    apply Classical.byContradiction
    intro hc
    exact u6 (show nI 6 < nI n from nI_lt (by omega) (by omega))
  obtain ⟨g1, g1k, hcase⟩ := hear6 V (r := r) (a := a) (n := n) hr (by omega) hn6 (l1 := nI s) (l5 := nI w) (KK := fun l20 g21 => cl (fX3_riddlesHeard (nI s) 60 6 (nI n) (nI w) g21) fun r22 g23 => (cl (fX6_clean r22 g23) fun r24 g25 => (some (r24, g25)))) n FU 0 g (by omega) (by rw [FU_e]; omega) (fun _ _ => rfl) (fun q hq => absurd hq (by omega))
  have h7 : ∀ (g' : Mem), (∀ k, k ≠ 0 → k ≠ 60 → g' k = g k) → _ := fun g' hg' => hear7 V (r := r) (a := a) (n := n) hr (by omega) (l1 := nI s) (l5 := nI w) (KK := fun l18 g19 => fX7_said_L131 (nI s) (nI r) (nI a) (nI n) (nI w) (fun l22 l23 g24 => fX7_said_L164 (nI s) (nI r) (nI a) (nI n) (nI w) l22 (fun l46 l47 l48 g49 => if nI w = 0 then (cl (fX7_done l46 g49) fun r50 g51 => (some (r50, g51))) else (cl (fX7_done l47 g49) fun r52 g53 => (some (r52, g53)))) FU (0 : Int32) (0 : Int32) (0 : Int32) g24) FU (1 : Int32) (0 : Int32) g19) (g' := g') (hg' 66 (by omega) (by omega)) (fun j hj => by rw [hg' 64 (by omega) (by omega)]; exact h.1.2 j hj) n FU 0 (by omega) (by rw [FU_e]; omega) (fun q hq => absurd hq (by omega))
  have r7 : ∀ (g' : Mem), (∀ k, k ≠ 0 → k ≠ 60 → g' k = g k) → fX7_said (nI s) (nI r) (nI a) (nI n) (nI w) g' = fX7_said_L78 (nI s) (nI r) (nI a) (nI n) (nI w) (fun l18 g19 => fX7_said_L131 (nI s) (nI r) (nI a) (nI n) (nI w) (fun l22 l23 g24 => fX7_said_L164 (nI s) (nI r) (nI a) (nI n) (nI w) l22 (fun l46 l47 l48 g49 => if nI w = 0 then (cl (fX7_done l46 g49) fun r50 g51 => (some (r50, g51))) else (cl (fX7_done l47 g49) fun r52 g53 => (some (r52, g53)))) FU (0 : Int32) (0 : Int32) (0 : Int32) g24) FU (1 : Int32) (0 : Int32) g19) FU (0 : Int32) g' := fun g' hg' => by
    rw [p7 g' (hg' 66 (by omega) (by omega)) (hg' 62 (by omega) (by omega)) (hg' 63 (by omega) (by omega)), w1, if_pos (nI_pos' (by omega)), s2, part_e, if_pos hpl', cl_s, if_neg (by decide)]
  rcases hcase with ⟨hok, hrun⟩ | ⟨hbad, hrun⟩
  · have V1 : View T Q S F K sh us g1 := V.congr (g1k 7 (by omega)) (g1k 12 (by omega)) (g1k 13 (by omega)) (g1k 66 (by omega))
    have hh := heard6 V1 hs hn6 (fun q hq => by rw [(hok q hq).1]; exact (hok q hq).2) (nI w)
    have e60 : ∀ q, q < n → wnt (g1 60 q) = wnt (g 64 (40 * r + a + q)) := fun q hq => by rw [(hok q hq).1, h.1.2 _ (by omega)]
    have hg2 : ∀ k, k ≠ 0 → k ≠ 60 → (up g1 0 10 0) k = g k := fun k h0 h60 => by rw [up_a, if_neg h0, g1k k h60]
    have i1 : Inv g1 := Inv_same h (fun k hk => g1k k (by omega))
    have e60' : ∀ q, q < n → wnt (g1 60 q) = wnt ((up g1 0 10 0) 64 (40 * r + a + q)) := fun q hq => by rw [e60 q hq, hg2 64 (by omega) (by omega)]
    have hP := pr_congr Q (fun i => lsI (F i &&& K s)) (h := fun q => wnt (g1 60 q)) (h' := fun q => wnt ((up g1 0 10 0) 64 (40 * r + a + q))) (fun _ => 0) n 0 (fun q hq => e60' q (by omega))
    have hM := mk6_congr Q (fun i => lsI (F i &&& K s)) (h := fun q => wnt (g1 60 q)) (h' := fun q => wnt ((up g1 0 10 0) 64 (40 * r + a + q))) (n := n) (fun q hq => e60' q hq)
    rw [hP, hM] at hh
    generalize hPP : pr Q (fun i => lsI (F i &&& K s)) (fun q => wnt ((up g1 0 10 0) 64 (40 * r + a + q))) (fun _ => 0) n 0 = P at hh
    refine ⟨if nI w = 0 then nI P else nI (if P = 0 then 0 else mk6 Q (fun i => lsI (F i &&& K s)) (fun q => wnt ((up g1 0 10 0) 64 (40 * r + a + q))) n), up g1 0 10 0, up (up g1 0 10 0) 61 3 0, ?_, ?_, Inv_st i1 0⟩
    · show fX6_said (nI s) (nI r) (nI a) (nI n) (nI w) g = _
      rw [p6]
      refine Eq.trans hrun ?_
      rw [hh, cl_s, clean_e, cl_s]
    · show fX7_said (nI s) (nI r) (nI a) (nI n) (nI w) (up g1 0 10 0) = _
      rw [r7 _ hg2]
      rcases h7 _ hg2 with ⟨-, hr7⟩ | ⟨⟨q, hq, hno⟩, -⟩
      · refine Eq.trans hr7 ?_
        rw [pow7 V hn6 (hg2 66 (by omega) (by omega)), rows7_e V hs hr (by omega) hn6 hn1 (hg2 66 (by omega) (by omega)) P hPP, done_e, cl_s, done_e, cl_s]
        by_cases hw0 : nI w = 0
        · rw [if_pos hw0, if_pos hw0]
        · rw [if_neg hw0, if_neg hw0]
      · exact absurd (hok q hq).2 hno
  · refine ⟨-1000001, g1, g1, ?_, ?_, Inv_same h (fun k hk => g1k k (by omega))⟩
    · show fX6_said (nI s) (nI r) (nI a) (nI n) (nI w) g = _
      rw [p6]; exact hrun
    · show fX7_said (nI s) (nI r) (nI a) (nI n) (nI w) g1 = _
      have hg1 : ∀ k, k ≠ 0 → k ≠ 60 → g1 k = g k := fun k _ hk => g1k k hk
      rw [r7 g1 hg1]
      rcases h7 g1 hg1 with ⟨hall, -⟩ | ⟨-, hr7⟩
      · obtain ⟨q, hq, hno⟩ := hbad
        exact absurd (hall q hq) hno
      · exact hr7
