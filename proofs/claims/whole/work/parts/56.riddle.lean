/-- one riddle, its sign read by the reference and not yet by the class -/
theorem riddle_sim {q : Nat} {b : Nat → Nat} {c m : Mem} {p T Q sk : Nat} {tr : Nat → Nat} (h6 : Tp6 q b c) (h7 : Tp7 q b m) (hp : p < q) (hT : T ≤ 8) (hQ : Q < 6) (e2 : c 5 2 = nI p) (e6 : m 61 6 = nI (p + 1)) (e8 : m 61 8 = nI (b p)) (hsk : sk = srt (nI (b p))) (hs : 1 ≤ sk) (hc3 : c 17 3 = nI T) (htr : ∀ i, i < T → tr i < 32 ∧ c 18 i = nI (tr i)) (eQ : m 67 4 = nI Q) :
    (∃ p' yy nn c' m', p < p' ∧ p' ≤ q ∧ yy < 32 ∧ nn < 32 ∧ fX5_tellsRiddle (nI Q) c = some (1, c') ∧ fX7_isRiddle m = some (1, m') ∧ FC c c' ∧ FM m m' ∧ c' 5 2 = nI p' ∧ m' 61 6 = nI p' ∧ (∀ k, k ≠ 5 → k ≠ 19 → k ≠ 20 → k ≠ 21 → k ≠ 22 → c' k = c k) ∧ c' 19 = upd (c 19) Q (nI sk) ∧ c' 20 = upd (c 20) Q (nI yy) ∧ c' 21 = upd (c 21) Q (nI nn) ∧ c' 22 = upd (c 22) Q (nI (fset tr sk yy nn T)) ∧ (∀ j, m' 67 j = if j = 4 then nI (Q + 1) else if j = 28 + Q then nI nn else if j = 22 + Q then nI yy else if j = 16 + Q then nI sk else m 67 j)) ∨
    (∃ c' m', fX5_tellsRiddle (nI Q) c = some (0, c') ∧ fX7_isRiddle m = some (0, m') ∧ Bad c m c' m') := by
  have hq := h6.1
  have hb := (h6.2.2 p (by omega)).1
  have hs5 : sk ≤ 5 := by rw [hsk]; exact srt_le _
  have l4 : ∀ (M : Mem) G, al M 67 50 (4 : Int32) G = G (M 67 4) := fun M G => al_nI (i := 4) (by omega) (by omega)
  have s4 : ∀ (M : Mem) v G, as_ M 67 50 (4 : Int32) v G = G (up M 67 4 v) := fun M v G => as_nI (i := 4) (by omega) (by omega)
  have n16 : (16 : Int32) + nI Q = nI (16 + Q) := nI_add 16 Q
  have n22 : (22 : Int32) + nI Q = nI (22 + Q) := nI_add 22 Q
  have n28 : (28 : Int32) + nI Q = nI (28 + Q) := nI_add 28 Q
  unfold fX5_tellsRiddle fX7_isRiddle
  rw [next6_e h6 (by omega) e2, if_neg (by omega), cl_s, srt6_e, cl_s, ← hsk, as_nI hQ (by omega), pf_e]
  have ec1 : (up c 19 Q (nI sk)) 5 2 = nI p := by rw [up_a, if_neg (by omega)]; exact e2
  rw [ec1, nI_1, l4, eQ, if_neg (show ¬ nI Q = (6 : Int32) from fun hc => by have := (nI_eq (a := Q) (b := 6) (by omega) (by omega)).mp hc; omega), e8, srt7_e, cl_s, ← hsk, n16, n22, n28, as_nI (by omega) (by omega)]
  rw [show (31 : Int32) = nI 31 from rfl, show (44 : Int32) = nI 44 from rfl, show (59 : Int32) = nI 59 from rfl]
  obtain ⟨c1, hc1⟩ : ∃ x, x = up (up c 19 Q (nI sk)) 5 2 (nI (p + 1)) := ⟨_, rfl⟩
  obtain ⟨m1, hm1⟩ : ∃ x, x = up m 67 (16 + Q) (nI sk) := ⟨_, rfl⟩
  rw [← hc1, ← hm1]
  have fc1 : FC c c1 := by rw [hc1]; exact (FC_d c 19 Q _ (by omega)).trans (FC_52 _ _)
  have fm1 : FM m m1 := by rw [hm1]; exact FM_67 m _ _
  have a1 : c1 5 2 = nI (p + 1) := by rw [hc1]; simp [up_a, upd_a]
  have a2 : c1 19 = upd (c 19) Q (nI sk) := by rw [hc1, up_a, if_neg (by omega), up_a, if_pos rfl]
  have a3 : ∀ k, k ≠ 5 → k ≠ 19 → c1 k = c k := fun k h1 h2 => by rw [hc1, up_a, if_neg h1, up_a, if_neg h2]
  have a4 : m1 61 6 = nI (p + 1) := by rw [hm1, up_a, if_neg (by omega)]; exact e6
  have a5 : ∀ j, m1 67 j = if j = 16 + Q then nI sk else m 67 j := fun j => by rw [hm1, up_a, if_pos rfl, upd_a]
  clear hc1 hm1 ec1
  rcases num_sim (p := p + 1) (mx_ := 31) (Tp6_FC h6 fc1) (Tp7_FM h7 fm1) (by omega) (by omega) a1 a4 with ⟨v1, m2, s1, s2, s3⟩ | ⟨c', m', s1, s2, s3⟩
  rotate_left
  · right; exact ⟨c', m', by rw [s1, cl_s, if_pos rfl], by rw [s2, cl_s, if_pos rfl], s3.pre fc1 fm1⟩
  have hte := te_le (b := b) (q := q) (p := p + 1) (by omega)
  rw [s1, cl_s, if_neg (by decide), s2, cl_s, if_neg (by decide), s3.2.2.2.2]
  have s34 := s3.2.2.2.1
  have w1 : (up (up c1 5 4 (nI (tv b q (p + 1)))) 5 2 (nI (te b q (p + 1)))) 5 4 = nI (tv b q (p + 1)) := by simp [up_a, upd_a]
  rw [w1]
  obtain ⟨yy, hyy⟩ : ∃ x, x = tv b q (p + 1) := ⟨_, rfl⟩
  obtain ⟨p2, hp2⟩ : ∃ x, x = te b q (p + 1) := ⟨_, rfl⟩
  rw [← hyy] at v1
  rw [← hp2] at hte s34
  rw [← hyy, ← hp2, as_nI hQ (by omega), as_nI (by omega) (by omega)]
  obtain ⟨c2, hc2⟩ : ∃ x, x = up (up (up c1 5 4 (nI yy)) 5 2 (nI p2)) 20 Q (nI yy) := ⟨_, rfl⟩
  obtain ⟨n2, hn2⟩ : ∃ x, x = up m2 67 (22 + Q) (nI yy) := ⟨_, rfl⟩
  rw [← hc2, ← hn2]
  have fc2 : FC c c2 := by rw [hc2]; exact (fc1.trans (FC_54 c1 _ _)).trans (FC_d _ 20 Q _ (by omega))
  have fm2 : FM m n2 := by rw [hn2]; exact (fm1.trans (St_FM s3)).trans (FM_67 m2 _ _)
  have i1 : c2 5 2 = nI p2 := by rw [hc2]; simp [up_a, upd_a]
  have i2 : c2 19 = upd (c 19) Q (nI sk) := by rw [hc2, up_a, if_neg (by omega), up_a, if_neg (by omega), up_a, if_neg (by omega)]; exact a2
  have i3 : c2 20 = upd (c 20) Q (nI yy) := by
    have inner : (up (up c1 5 4 (nI yy)) 5 2 (nI p2)) 20 = c 20 := by rw [up_a, if_neg (by omega), up_a, if_neg (by omega), a3 20 (by omega) (by omega)]
    rw [hc2, up_a, if_pos rfl, inner]
  have i4 : ∀ k, k ≠ 5 → k ≠ 19 → k ≠ 20 → c2 k = c k := fun k h1 h2 h3 => by rw [hc2, up_a, if_neg h3, up_a, if_neg h1, up_a, if_neg h1, a3 k h1 h2]
  have i5 : n2 61 6 = nI p2 := by rw [hn2, up_a, if_neg (by omega)]; exact s34
  have i6 : ∀ j, n2 67 j = if j = 22 + Q then nI yy else if j = 16 + Q then nI sk else m 67 j := fun j => by rw [hn2, up_a, if_pos rfl, upd_a, s3.1 67 (by omega), a5]
  clear hc2 hn2 w1 s1 s2 s3 s34 hyy hp2 a1 a2 a3 a4 a5
  rcases sign_sim (x := 44) (p := p2) (Tp6_FC h6 fc2) (Tp7_FM h7 fm2) (by omega) (by omega) (by decide) i1 i5 with ⟨q1, -, m3, s1, s2, s3⟩ | ⟨c', m', s1, s2, s3⟩
  rotate_left
  · right; exact ⟨c', m', by rw [s1, cl_s, if_pos rfl], by rw [s2, cl_s, if_pos rfl], s3.pre fc2 fm2⟩
  rw [s1, cl_s, if_neg (by decide), s2, cl_s, if_neg (by decide)]
  obtain ⟨c3, hc3'⟩ : ∃ x, x = up c2 5 2 (nI (p2 + 1)) := ⟨_, rfl⟩
  rw [← hc3']
  have fc3 : FC c c3 := by rw [hc3']; exact fc2.trans (FC_52 c2 _)
  have fm3 : FM m m3 := fm2.trans (St_FM s3)
  have j1 : c3 5 2 = nI (p2 + 1) := by rw [hc3']; simp [up_a, upd_a]
  have j2 : ∀ k, k ≠ 5 → c3 k = c2 k := fun k hk => by rw [hc3', up_a, if_neg hk]
  have j5 : m3 61 6 = nI (p2 + 1) := s3.2.2.2.1
  have j6 : ∀ j, m3 67 j = if j = 22 + Q then nI yy else if j = 16 + Q then nI sk else m 67 j := fun j => by rw [s3.1 67 (by omega), i6]
  clear hc3' s1 s2 s3
  have w20 : c3 20 Q = nI yy := by rw [j2 20 (by omega), i3, upd_a, if_pos rfl]
  rw [al_nI hQ (by omega), w20]
  obtain ⟨t1, t2, t3⟩ := takesNum_e (mk := yy) (mx_ := 31) (p := p2 + 1) (Tp6_FC h6 fc3) (by omega) (by omega) j1
  have hte2 := te_le (b := b) (q := q) (p := p2 + 1) (by omega)
  rcases number_e (p := p2 + 1) (mx_ := 31) (Tp7_FM h7 fm3) (by omega) (by omega) j5 with ⟨h1, h2, m4, s2, s3⟩ | ⟨h1, h2, m', s2, s3⟩ | ⟨h1, m', s2, s3⟩
  rotate_left
  · right; exact ⟨_, m', by rw [t2 h1 (Or.inl h2), cl_s, if_pos rfl], by rw [s2, cl_s, if_pos rfl], (bad_of j1 s3).pre fc3 fm3⟩
  · right; exact ⟨_, m', by rw [t3 h1, cl_s, if_pos rfl], by rw [s2, cl_s, if_pos rfl], (bad_of j1 s3).pre fc3 fm3⟩
  have s34 := s3.2.2.2.1
  have e22 : m4 67 (22 + Q) = nI yy := by rw [s3.1 67 (by omega), j6, if_pos rfl]
  rw [s2, cl_s, if_neg (by decide), al_nI (by omega) (by omega), e22, s3.2.2.2.2, fa_and]
  have hand : tv b q (p2 + 1) &&& yy ≤ tv b q (p2 + 1) := Nat.and_le_left
  by_cases hz : tv b q (p2 + 1) &&& yy = 0
  rotate_left
  · right
    refine ⟨_, up m4 61 11 2, by rw [t2 h1 (Or.inr hz), cl_s, if_pos rfl], ?_, (bad_of j1 (w := 2) (m := m3) ⟨fun k hk => by rw [up_a, if_neg hk]; exact s3.1 k hk, fun j hj => by rw [up_a, if_pos rfl, upd_a, if_neg (by omega)]; exact s3.2.1 j hj, by rw [up_a, if_pos rfl, upd_a, if_neg (by omega)]; exact s3.2.2.1, by rw [up_a, if_pos rfl, upd_a, if_pos rfl]⟩).pre fc3 fm3⟩
    rw [if_neg (nI_ne0 (by omega) (by omega))]
    unfold fX7_fails
    rw [pf_e, cl_s, rz_0]
  rw [hz, if_pos (show nI 0 = (0 : Int32) from rfl), t1 h1 h2 hz, cl_s, if_neg (by decide)]
  have w1 : (up (up c3 5 4 (nI (tv b q (p2 + 1)))) 5 2 (nI (te b q (p2 + 1)))) 5 4 = nI (tv b q (p2 + 1)) := by simp [up_a, upd_a]
  rw [w1]
  obtain ⟨nn, hnn⟩ : ∃ x, x = tv b q (p2 + 1) := ⟨_, rfl⟩
  obtain ⟨p4, hp4⟩ : ∃ x, x = te b q (p2 + 1) := ⟨_, rfl⟩
  rw [← hnn] at h2
  rw [← hp4] at hte2 s34
  rw [← hnn, ← hp4, as_nI hQ (by omega), as_nI (by omega) (by omega)]
  obtain ⟨c4, hc4⟩ : ∃ x, x = up (up (up c3 5 4 (nI nn)) 5 2 (nI p4)) 21 Q (nI nn) := ⟨_, rfl⟩
  rw [← hc4]
  have fc4 : FC c c4 := by rw [hc4]; exact (fc3.trans (FC_54 c3 _ _)).trans (FC_d _ 21 Q _ (by omega))
  have k1 : c4 5 2 = nI p4 := by rw [hc4]; simp [up_a, upd_a]
  have k0 : c4 5 4 = nI nn := by rw [hc4]; simp [up_a, upd_a]
  have k2 : c4 21 = upd (c 21) Q (nI nn) := by
    have inner : (up (up c3 5 4 (nI nn)) 5 2 (nI p4)) 21 = c 21 := by rw [up_a, if_neg (by omega), up_a, if_neg (by omega), j2 21 (by omega), i4 21 (by omega) (by omega) (by omega)]
    rw [hc4, up_a, if_pos rfl, inner]
  have k3 : ∀ k, k ≠ 5 → k ≠ 21 → c4 k = c2 k := fun k h1 h2 => by rw [hc4, up_a, if_neg h2, up_a, if_neg h1, up_a, if_neg h1, j2 k h1]
  clear hc4 w1
  have k19 : c4 19 Q = nI sk := by rw [k3 19 (by omega) (by omega), i2, upd_a, if_pos rfl]
  have k20 : c4 20 Q = nI yy := by rw [k3 20 (by omega) (by omega), i3, upd_a, if_pos rfl]
  rw [al_nI hQ (by omega), al_nI hQ (by omega), k19, k20, k0, tf6 (c := 17) (T := T) (tr := tr) hT (by rw [k3 17 (by omega) (by omega), i4 17 (by omega) (by omega) (by omega)]; exact hc3) (fun i hi => ⟨(htr i hi).1, by rw [k3 18 (by omega) (by omega), i4 18 (by omega) (by omega) (by omega)]; exact (htr i hi).2⟩) ⟨hs, hs5⟩ (by omega) (by omega), cl_s, as_nI hQ (by omega)]
  obtain ⟨c5, hc5⟩ : ∃ x, x = up c4 22 Q (nI (fset tr sk yy nn T)) := ⟨_, rfl⟩
  rw [← hc5]
  have fc5 : FC c c5 := by rw [hc5]; exact fc4.trans (FC_d _ 22 Q _ (by omega))
  have o1 : c5 5 2 = nI p4 := by rw [hc5, up_a, if_neg (by omega)]; exact k1
  have o2 : c5 22 = upd (c 22) Q (nI (fset tr sk yy nn T)) := by rw [hc5, up_a, if_pos rfl, k3 22 (by omega) (by omega), i4 22 (by omega) (by omega) (by omega)]
  have o3 : ∀ k, k ≠ 22 → c5 k = c4 k := fun k h1 => by rw [hc5, up_a, if_neg h1]
  clear hc5
  have x4 : (up m4 67 (28 + Q) (nI nn)) 67 4 = nI Q := by rw [up_a, if_pos rfl, upd_a, if_neg (by omega), s3.1 67 (by omega), j6, if_neg (by omega), if_neg (by omega), eQ]
  rw [l4, x4, s4, nI_1]
  obtain ⟨n5, hn5⟩ : ∃ x, x = up (up m4 67 (28 + Q) (nI nn)) 67 4 (nI (Q + 1)) := ⟨_, rfl⟩
  rw [← hn5]
  have fm5 : FM m n5 := by rw [hn5]; exact ((fm3.trans (St_FM s3)).trans (FM_67 m4 _ _)).trans (FM_67 _ _ _)
  have o5 : n5 61 6 = nI p4 := by rw [hn5, up_a, if_neg (by omega), up_a, if_neg (by omega)]; exact s34
  have o6 : ∀ j, n5 67 j = if j = 4 then nI (Q + 1) else if j = 28 + Q then nI nn else if j = 22 + Q then nI yy else if j = 16 + Q then nI sk else m 67 j := fun j => by
    rw [hn5, up_a, if_pos rfl, upd_a, up_a, if_pos rfl, upd_a, s3.1 67 (by omega), j6]
  clear hn5 x4
  rcases sign_sim (x := 59) (p := p4) (Tp6_FC h6 fc5) (Tp7_FM h7 fm5) (by omega) (by omega) (by decide) o1 o5 with ⟨r1, -, m6, u1, u2, u3⟩ | ⟨c', m', u1, u2, u3⟩
  · left
    refine ⟨p4 + 1, yy, nn, up c5 5 2 (nI (p4 + 1)), m6, by omega, by omega, by omega, by omega, by rw [u1, cl_s, rz_1], by rw [u2, cl_s, rz_1], fc5.trans (FC_52 c5 _), fm5.trans (St_FM u3), by simp [up_a, upd_a], u3.2.2.2.1, fun k h1 h2 h3 h4 h5 => ?_, ?_, ?_, ?_, ?_, fun j => ?_⟩
    · rw [up_a, if_neg h1, o3 k h5, k3 k h1 h4, i4 k h1 h2 h3]
    · rw [up_a, if_neg (by omega), o3 19 (by omega), k3 19 (by omega) (by omega), i2]
    · rw [up_a, if_neg (by omega), o3 20 (by omega), k3 20 (by omega) (by omega), i3]
    · rw [up_a, if_neg (by omega), o3 21 (by omega), k2]
    · rw [up_a, if_neg (by omega), o2]
    · rw [u3.1 67 (by omega), o6]
  · right; exact ⟨c', m', by rw [u1, cl_s, rz_0], by rw [u2, cl_s, rz_0], u3.pre fc5 fm5⟩
