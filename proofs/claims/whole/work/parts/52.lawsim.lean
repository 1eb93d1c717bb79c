theorem law_sim {q : Nat} {b : Nat → Nat} {c m : Mem} {p : Nat} (h6 : Tp6 q b c) (h7 : Tp7 q b m) (hp : p ≤ q) (e2 : c 5 2 = nI p) (e6 : m 61 6 = nI p) :
    (∃ p' c' m', p' ≤ q ∧ fX5_tellsLaw c = some (1, c') ∧ fX7_isLaw m = some (1, m') ∧ FC c c' ∧ FM m m' ∧ c' 5 2 = nI p' ∧ m' 61 6 = nI p' ∧ DL c' m' ∧ (∀ k, 18 ≤ k → k ≤ 26 → c' k = c k) ∧ (∀ i, i ≠ 1 → i ≠ 2 → c' 17 i = c 17 i) ∧ (∀ j, j ≠ 1 → j ≠ 2 → m' 67 j = m 67 j)) ∨ (∃ c' m', fX5_tellsLaw c = some (0, c') ∧ fX7_isLaw m = some (0, m') ∧ Bad c m c' m') := by
  unfold fX5_tellsLaw fX7_isLaw
  rw [show (107 : Int32) = nI 107 from rfl, show (255 : Int32) = nI 255 from rfl, show (44 : Int32) = nI 44 from rfl, show (99 : Int32) = nI 99 from rfl, show (59 : Int32) = nI 59 from rfl]
  rcases sign_sim (x := 107) h6 h7 hp (by omega) (by decide) e2 e6 with ⟨p1, -, m1, a1, a2, a3⟩ | ⟨c', m', a1, a2, a3⟩
  rotate_left
  · right; exact ⟨c', m', by rw [a1, cl_s, if_pos rfl], by rw [a2, cl_s, if_pos rfl], a3⟩
  rw [a1, cl_s, if_neg (by decide), a2, cl_s, if_neg (by decide)]
  have fc1 : FC c (up c 5 2 (nI (p + 1))) := FC_52 c _
  have fm1 : FM m m1 := St_FM a3
  have g5 : (up c 5 2 (nI (p + 1))) 5 2 = nI (p + 1) := by simp [up_a, upd_a]
  have gk : ∀ k, k ≠ 5 → (up c 5 2 (nI (p + 1))) k = c k := fun k hk => by rw [up_a, if_neg hk]
  generalize up c 5 2 (nI (p + 1)) = c1 at *
  have t6 := Tp6_FC h6 fc1
  have t7 := Tp7_FM h7 fm1
  rcases num_sim (p := p + 1) (mx_ := 255) t6 t7 (by omega) (by omega) g5 a3.2.2.2.1 with ⟨v1, m2, b1, b2, b3⟩ | ⟨c', m', b1, b2, b3⟩
  rotate_left
  · right; exact ⟨c', m', by rw [b1, cl_s, if_pos rfl], by rw [b2, cl_s, if_pos rfl], b3.pre fc1 fm1⟩
  have hte := te_le (b := b) (q := q) (p := p + 1) (by omega)
  rw [b1, cl_s, if_neg (by decide), b2, cl_s, if_neg (by decide), pf_e]
  have w1 : (up (up c1 5 4 (nI (tv b q (p + 1)))) 5 2 (nI (te b q (p + 1)))) 5 4 = nI (tv b q (p + 1)) := by simp [up_a, upd_a]
  rw [w1, show (1 : Int32) = nI 1 from rfl, as_nI (by omega) (by omega), b3.2.2.2.2]
  have fc2 : FC c (up (up (up c1 5 4 (nI (tv b q (p + 1)))) 5 2 (nI (te b q (p + 1)))) 17 1 (nI (tv b q (p + 1)))) := (fc1.trans (FC_54 c1 _ _)).trans (FC_d _ 17 1 _ (by omega))
  have fm2 : FM m (up m2 67 1 (nI (tv b q (p + 1)))) := (fm1.trans (St_FM b3)).trans (FM_67 m2 1 _)
  have k1 : ∀ k, k ≠ 5 → k ≠ 17 → (up (up (up c1 5 4 (nI (tv b q (p + 1)))) 5 2 (nI (te b q (p + 1)))) 17 1 (nI (tv b q (p + 1)))) k = c k := fun k h1 h2 => by rw [up_a, if_neg h2, up_a, if_neg h1, up_a, if_neg h1, gk k h1]
  have k2 : ∀ i, (up (up (up c1 5 4 (nI (tv b q (p + 1)))) 5 2 (nI (te b q (p + 1)))) 17 1 (nI (tv b q (p + 1)))) 17 i = if i = 1 then nI (tv b q (p + 1)) else c 17 i := fun i => by
    have inner : (up (up c1 5 4 (nI (tv b q (p + 1)))) 5 2 (nI (te b q (p + 1)))) 17 = c 17 := by rw [up_a, if_neg (by omega), up_a, if_neg (by omega), gk 17 (by omega)]
    rw [up_a, if_pos rfl, upd_a, inner]
  have k3 : (up (up (up c1 5 4 (nI (tv b q (p + 1)))) 5 2 (nI (te b q (p + 1)))) 17 1 (nI (tv b q (p + 1)))) 5 2 = nI (te b q (p + 1)) := by simp [up_a, upd_a]
  have k4 : ∀ j, (up m2 67 1 (nI (tv b q (p + 1)))) 67 j = if j = 1 then nI (tv b q (p + 1)) else m 67 j := fun j => by
    rw [up_a, if_pos rfl, upd_a, b3.1 67 (by omega), a3.1 67 (by omega)]
  have k5 : (up m2 67 1 (nI (tv b q (p + 1)))) 61 6 = nI (te b q (p + 1)) := by rw [up_a, if_neg (by omega)]; exact b3.2.2.2.1
  generalize up (up (up c1 5 4 (nI (tv b q (p + 1)))) 5 2 (nI (te b q (p + 1)))) 17 1 (nI (tv b q (p + 1))) = c2 at *
  generalize up m2 67 1 (nI (tv b q (p + 1))) = n2 at *
  generalize te b q (p + 1) = p2 at *
  generalize tv b q (p + 1) = x1 at *
  rcases sign_sim (x := 44) (p := p2) (Tp6_FC h6 fc2) (Tp7_FM h7 fm2) (by omega) (by omega) (by decide) k3 k5 with ⟨q1, -, m3, d1, d2, d3⟩ | ⟨c', m', d1, d2, d3⟩
  rotate_left
  · right; exact ⟨c', m', by rw [d1, cl_s, if_pos rfl], by rw [d2, cl_s, if_pos rfl], d3.pre fc2 fm2⟩
  rw [d1, cl_s, if_neg (by decide), d2, cl_s, if_neg (by decide)]
  have fc3 : FC c (up c2 5 2 (nI (p2 + 1))) := fc2.trans (FC_52 c2 _)
  have fm3 : FM m m3 := fm2.trans (St_FM d3)
  have g53 : (up c2 5 2 (nI (p2 + 1))) 5 2 = nI (p2 + 1) := by simp [up_a, upd_a]
  have gk3 : ∀ k, k ≠ 5 → (up c2 5 2 (nI (p2 + 1))) k = c2 k := fun k hk => by rw [up_a, if_neg hk]
  generalize up c2 5 2 (nI (p2 + 1)) = c3 at *
  rcases num_sim (p := p2 + 1) (mx_ := 99) (Tp6_FC h6 fc3) (Tp7_FM h7 fm3) (by omega) (by omega) g53 d3.2.2.2.1 with ⟨v2, m4, f1, f2, f3⟩ | ⟨c', m', f1, f2, f3⟩
  rotate_left
  · right; exact ⟨c', m', by rw [f1, cl_s, if_pos rfl], by rw [f2, cl_s, if_pos rfl], f3.pre fc3 fm3⟩
  have hte2 := te_le (b := b) (q := q) (p := p2 + 1) (by omega)
  rw [f1, cl_s, if_neg (by decide), f2, cl_s, if_neg (by decide), pf_e]
  have w2 : (up (up c3 5 4 (nI (tv b q (p2 + 1)))) 5 2 (nI (te b q (p2 + 1)))) 5 4 = nI (tv b q (p2 + 1)) := by simp [up_a, upd_a]
  rw [w2, show (2 : Int32) = nI 2 from rfl, as_nI (by omega) (by omega), f3.2.2.2.2]
  have fc4 : FC c (up (up (up c3 5 4 (nI (tv b q (p2 + 1)))) 5 2 (nI (te b q (p2 + 1)))) 17 2 (nI (tv b q (p2 + 1)))) := (fc3.trans (FC_54 c3 _ _)).trans (FC_d _ 17 2 _ (by omega))
  have fm4 : FM m (up m4 67 2 (nI (tv b q (p2 + 1)))) := (fm3.trans (St_FM f3)).trans (FM_67 m4 2 _)
  have l1 : ∀ k, k ≠ 5 → k ≠ 17 → (up (up (up c3 5 4 (nI (tv b q (p2 + 1)))) 5 2 (nI (te b q (p2 + 1)))) 17 2 (nI (tv b q (p2 + 1)))) k = c k := fun k h1 h2 => by rw [up_a, if_neg h2, up_a, if_neg h1, up_a, if_neg h1, gk3 k h1, k1 k h1 h2]
  have l2 : ∀ i, (up (up (up c3 5 4 (nI (tv b q (p2 + 1)))) 5 2 (nI (te b q (p2 + 1)))) 17 2 (nI (tv b q (p2 + 1)))) 17 i = if i = 2 then nI (tv b q (p2 + 1)) else if i = 1 then nI x1 else c 17 i := fun i => by
    have inner : (up (up c3 5 4 (nI (tv b q (p2 + 1)))) 5 2 (nI (te b q (p2 + 1)))) 17 = c2 17 := by rw [up_a, if_neg (by omega), up_a, if_neg (by omega), gk3 17 (by omega)]
    rw [up_a, if_pos rfl, upd_a, inner, k2]
  have l3 : (up (up (up c3 5 4 (nI (tv b q (p2 + 1)))) 5 2 (nI (te b q (p2 + 1)))) 17 2 (nI (tv b q (p2 + 1)))) 5 2 = nI (te b q (p2 + 1)) := by simp [up_a, upd_a]
  have l4 : ∀ j, (up m4 67 2 (nI (tv b q (p2 + 1)))) 67 j = if j = 2 then nI (tv b q (p2 + 1)) else if j = 1 then nI x1 else m 67 j := fun j => by
    rw [up_a, if_pos rfl, upd_a, f3.1 67 (by omega), d3.1 67 (by omega), k4]
  have l5 : (up m4 67 2 (nI (tv b q (p2 + 1)))) 61 6 = nI (te b q (p2 + 1)) := by rw [up_a, if_neg (by omega)]; exact f3.2.2.2.1
  generalize up (up (up c3 5 4 (nI (tv b q (p2 + 1)))) 5 2 (nI (te b q (p2 + 1)))) 17 2 (nI (tv b q (p2 + 1))) = c4 at *
  generalize up m4 67 2 (nI (tv b q (p2 + 1))) = n4 at *
  generalize te b q (p2 + 1) = p4 at *
  generalize tv b q (p2 + 1) = x2 at *
  rcases sign_sim (x := 59) (p := p4) (Tp6_FC h6 fc4) (Tp7_FM h7 fm4) (by omega) (by omega) (by decide) l3 l5 with ⟨r1, -, m5, i1, i2, i3⟩ | ⟨c', m', i1, i2, i3⟩
  · left
    refine ⟨p4 + 1, up c4 5 2 (nI (p4 + 1)), m5, by omega, by rw [i1, cl_s, rz_1]; rfl, by rw [i2, cl_s, rz_1]; rfl, fc4.trans (FC_52 c4 _), fm4.trans (St_FM i3), by simp [up_a, upd_a], i3.2.2.2.1, ⟨x1, x2, v1, v2, ?_, ?_, ?_, ?_⟩, fun k h1 h2 => ?_, fun i h1 h2 => ?_, fun j h1 h2 => ?_⟩
    · rw [up_a, if_neg (by omega), l2]; rfl
    · rw [i3.1 67 (by omega), l4]; rfl
    · rw [up_a, if_neg (by omega), l2]; rfl
    · rw [i3.1 67 (by omega), l4]; rfl
    · rw [up_a, if_neg (by omega), l1 k (by omega) (by omega)]
    · rw [up_a, if_neg (by omega), l2, if_neg h2, if_neg h1]
    · rw [i3.1 67 (by omega), l4, if_neg h2, if_neg h1]
  · right; exact ⟨c', m', by rw [i1, cl_s, rz_0], by rw [i2, cl_s, rz_0], i3.pre fc4 fm4⟩
