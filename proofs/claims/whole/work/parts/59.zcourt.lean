theorem E_court {g : Mem} (h : Inv g) : Both g (fun g => fX6_court g) (fun g => fX7_court g) := by
  have h' := h
  obtain ⟨-, ⟨q, hq, t1, t2, t3, t4⟩, -⟩ := h'
  obtain ⟨b, hb⟩ : ∃ b : Nat → Nat, ∀ j, j < 120 → b j < 256 ∧ g 6 j = nI (b j) := ⟨fun j => (g 6 j).toNatClampNeg, fun j hj => by
    obtain ⟨x, hx, e⟩ := t4 j hj
    show (g 6 j).toNatClampNeg < 256 ∧ g 6 j = nI (g 6 j).toNatClampNeg
    rw [e, nI_clamp (by omega)]; exact ⟨hx, rfl⟩⟩
  have T6 : Tp6 q b g := ⟨hq, t1, hb⟩
  have T7 : ∀ m : Mem, m 61 = g 61 → m 65 = g 65 → Tp7 q b m := fun m e1 e2 => ⟨hq, by rw [e1]; exact t2, fun j hj => ⟨(hb j hj).1, by rw [e2, t3 j hj]; exact (hb j hj).2⟩⟩
  rcases tells_sim T6 (T7 g rfl rfl) with ⟨T0, Q0, S0, tr0, c', m0, f1, -, fc, -, hD0, -⟩ | ⟨c', m0, f1, -, fc, -⟩
  · have d0 : (up c' 5 1 0) 17 0 = 0 ∨ (up c' 5 1 0) 17 0 = 1 := Or.inr (by rw [up_a, if_neg (by omega)]; exact hD0.2.1)
    obtain ⟨g7, hb7, B⟩ := become_7_17 d0
    have k7 : ∀ k, (k < 7 ∨ 26 < k) → k ≠ 5 → g7 k = g k := fun k a1 a2 => by rw [B.1 k (by omega), up_a, if_neg a2, fc.1 k a2 (by omega)]
    rcases tells_sim T6 (T7 (up g7 48 7 0) (by rw [up_a, if_neg (by omega), k7 61 (by omega) (by omega)]) (by rw [up_a, if_neg (by omega), k7 65 (by omega) (by omega)])) with ⟨T, Q, S, tr, c2, m', i1, i2, -, fm, hD, x, y, x1, y1, z1, z2, z3, z4⟩ | ⟨c2, m', i1, -⟩
    rotate_left
    · rw [f1] at i1
      injection i1 with i1
      injection i1 with i1 _
      exact absurd i1 (by decide)
    rw [f1] at i1
    injection i1 with i1
    injection i1 with _ i1
    subst i1
    have hd := hD
    obtain ⟨⟨hT, hQ, hS⟩, e0, e3, e5, e10, -⟩ := hd
    have hTp : 0 < 2 ^ T := Nat.two_pow_pos T
    refine ⟨nI S, up g7 48 7 0, _, ?_, ?_, court_done (x := x) h fc B fm hD y1 z1 z3 z4⟩
    · show fX6_court g = _
      unfold fX6_court fX5_clear fX0_forget
      rw [f1, cl_s, pf_e, cl_s, if_neg (by decide), hb7, cl_s, pf_e, cl_s, up_a, if_neg (by omega), B.2.1.2.2.2.2.2.1, up_a, if_neg (by omega), e10.1]
    · show fX7_court (up g7 48 7 0) = _
      unfold fX7_court
      rw [i2, cl_s, pf_e, if_neg (by decide), show fX7_lay 67 50 (0 : Int32) 66 50 (0 : Int32) (up m' 61 4 0) = _ from lay_e (a := 0) (b := 0) (by omega) (by omega) (by omega) (by omega) (by omega) (up m' 61 4 0), cl_s]
      obtain ⟨n1, hn1⟩ : ∃ x', x' = upR (up m' 61 4 0) 66 (fun j => if 0 ≤ j ∧ j < 0 + 50 then (up m' 61 4 0) 67 (0 + (j - 0)) else (up m' 61 4 0) 66 j) := ⟨_, rfl⟩
      rw [← hn1]
      have n66 : ∀ j, j < 50 → n1 66 j = m' 67 j := fun j hj => by rw [hn1, upR_a, if_pos rfl, if_pos (by omega), up_a, if_neg (by omega), Nat.zero_add, Nat.sub_zero]
      clear hn1
      have s0 : ∀ (M : Mem) v G, as_ M 66 50 (0 : Int32) v G = G (up M 66 0 v) := fun M v G => as_nI (i := 0) (by omega) (by omega)
      have s1 : ∀ (M : Mem) v G, as_ M 66 50 (1 : Int32) v G = G (up M 66 1 v) := fun M v G => as_nI (i := 1) (by omega) (by omega)
      have l1 : ∀ (M : Mem) G, al M 66 50 (1 : Int32) G = G (M 66 1) := fun M G => al_nI (i := 1) (by omega) (by omega)
      have l3 : ∀ (M : Mem) G, al M 66 50 (3 : Int32) G = G (M 66 3) := fun M G => al_nI (i := 3) (by omega) (by omega)
      have l5 : ∀ (M : Mem) G, al M 66 50 (5 : Int32) G = G (M 66 5) := fun M G => al_nI (i := 5) (by omega) (by omega)
      have v1 : (up n1 66 0 1) 66 1 = nI x := by rw [up_a, if_pos rfl, upd_a, if_neg (by omega), n66 1 (by omega), z2]
      have v3 : (up n1 66 0 1) 66 3 = nI T := by rw [up_a, if_pos rfl, upd_a, if_neg (by omega), n66 3 (by omega), e3.2]
      have ev : fX7_everything (up n1 66 0 1) = some (nI (2 ^ T - 1), up n1 66 0 1) := by
        unfold fX7_everything
        rw [l3, v3, one_shl T (by omega)]
        have : nI (2 ^ T) - 1 = nI (2 ^ T - 1) := pk_sub (b := 1) hTp
        rw [this]
      rw [s0, l1, v1, ev, cl_s, fa_and, s1, pf_e, l5]
      have v5 : (up (up (up n1 66 0 1) 66 1 (nI (x &&& (2 ^ T - 1)))) 61 17 0) 66 5 = nI S := by
        rw [up_a, if_neg (by omega), up_a, if_pos rfl, upd_a, if_neg (by omega), up_a, if_pos rfl, upd_a, if_neg (by omega), n66 5 (by omega), e10.2]
      rw [v5]
  · obtain ⟨g1, hg1⟩ : ∃ x, x = up (up c' 5 1 0) 0 9 (c' 5 3) := ⟨_, rfl⟩
    have k1 : ∀ k, 26 < k → g1 k = g k := fun k a1 => by rw [hg1, up_a, if_neg (by omega), up_a, if_neg (by omega), fc.1 k (by omega) (by omega)]
    rcases tells_sim T6 (T7 g1 (k1 61 (by omega)) (k1 65 (by omega))) with ⟨T, Q, S, tr, c2, m', i1, -⟩ | ⟨c2, m', i1, i2, -, fm, i3, i4⟩
    · rw [f1] at i1
      injection i1 with i1
      injection i1 with i1 _
      exact absurd i1 (by decide)
    rw [f1] at i1
    injection i1 with i1
    injection i1 with _ i1
    subst i1
    refine ⟨-1000100 - c' 5 2, g1, _, ?_, ?_, court_fail (q := q) h fc hg1 fm i4⟩
    · show fX6_court g = _
      unfold fX6_court fX5_clear
      rw [f1, cl_s, pf_e, cl_s, if_pos rfl, pf_e]
      have u1 : (up c' 5 1 0) 5 3 = c' 5 3 := by rw [up_a, if_pos rfl, upd_a, if_neg (by omega)]
      have u2 : g1 5 2 = c' 5 2 := by rw [hg1, up_a, if_neg (by omega), up_a, if_pos rfl, upd_a, if_neg (by omega)]
      rw [u1, ← hg1, u2]
    · show fX7_court g1 = _
      unfold fX7_court
      rw [i2, cl_s, pf_e, if_pos rfl, pf_e]
      have u1 : (up m' 61 4 0) 61 11 = m' 61 11 := by rw [up_a, if_pos rfl, upd_a, if_neg (by omega)]
      have u2 : (up (up m' 61 4 0) 61 10 (m' 61 11)) 61 7 = m' 61 7 := by rw [up_a, if_pos rfl, upd_a, if_neg (by omega), up_a, if_pos rfl, upd_a, if_neg (by omega)]
      rw [u1, u2, i3]
