/-- one suitor behind his sign -/
theorem suitor_sim {q : Nat} {b : Nat → Nat} {c m : Mem} {p T S : Nat} (h6 : Tp6 q b c) (h7 : Tp7 q b m) (hp : p ≤ q) (hT : T ≤ 8) (hS : S < 4) (e2 : c 5 2 = nI p) (e6 : m 61 6 = nI p) (eT : m 67 3 = nI T) (eS : m 67 5 = nI S) :
    (∃ p' x c' m', p < p' ∧ p' ≤ q ∧ x < 2 ^ T ∧ (∃ c1, fX5_takesNumber (nI (2 ^ T - 1)) 0 c = some (1, c1) ∧ fX5_takes (nI 59) c1 = some (1, c')) ∧ fX7_isSuitor m = some (1, m') ∧ FC c c' ∧ FM m m' ∧ (∀ k, k ≠ 5 → c' k = c k) ∧ c' 5 2 = nI p' ∧ c' 5 4 = nI x ∧ m' 61 6 = nI p' ∧ (∀ j, m' 67 j = if j = 5 then nI (S + 1) else if j = 34 + S then nI x else m 67 j)) ∨
    (∃ c' m', ((fX5_takesNumber (nI (2 ^ T - 1)) 0 c = some (0, c')) ∨ (∃ c1, fX5_takesNumber (nI (2 ^ T - 1)) 0 c = some (1, c1) ∧ fX5_takes (nI 59) c1 = some (0, c'))) ∧ fX7_isSuitor m = some (0, m') ∧ Bad c m c' m') := by
  unfold fX7_isSuitor
  have l3 : ∀ (M : Mem) G, al M 67 50 (3 : Int32) G = G (M 67 3) := fun M G => al_nI (i := 3) (by omega) (by omega)
  have l5 : ∀ (M : Mem) G, al M 67 50 (5 : Int32) G = G (M 67 5) := fun M G => al_nI (i := 5) (by omega) (by omega)
  have hTp : 0 < 2 ^ T := Nat.two_pow_pos T
  have h8 : (2 : Nat) ^ T ≤ 256 := Nat.pow_le_pow_right (n := 2) (by omega) hT
  have emx : (1 : Int32) <<< (nI T &&& 31) - 1 = nI (2 ^ T - 1) := by rw [one_shl T (by omega)]; exact pk_sub (b := 1) hTp
  rw [l5, eS, if_neg (show ¬ nI S = (4 : Int32) from fun hc => by have := (nI_eq (a := S) (b := 4) (by omega) (by omega)).mp hc; omega), l3, eT, emx, show (59 : Int32) = nI 59 from rfl]
  rcases num_sim (mx_ := 2 ^ T - 1) h6 h7 hp (by omega) e2 e6 with ⟨v1, m2, b1, b2, b3⟩ | ⟨c', m', b1, b2, b3⟩
  rotate_left
  · right; exact ⟨c', m', Or.inl b1, by rw [b2, cl_s, if_pos rfl], b3⟩
  have hte := te_le (b := b) (q := q) (p := p) hp
  have e3 : m2 67 5 = nI S := by rw [b3.1 67 (by omega)]; exact eS
  have e8 : (34 : Int32) + nI S = nI (34 + S) := nI_add 34 S
  rw [b2, cl_s, if_neg (by decide), l5, e3, e8, as_nI (by omega) (by omega), b3.2.2.2.2, l5]
  have e3' : (up m2 67 (34 + S) (nI (tv b q p))) 67 5 = nI S := by rw [up_a, if_pos rfl, upd_a, if_neg (by omega), e3]
  have s3 : ∀ (M : Mem) v G, as_ M 67 50 (5 : Int32) v G = G (up M 67 5 v) := fun M v G => as_nI (i := 5) (by omega) (by omega)
  rw [e3', s3, nI_1]
  have fm : FM m (up (up m2 67 (34 + S) (nI (tv b q p))) 67 5 (nI (S + 1))) := ((St_FM b3).trans (FM_67 _ _ _)).trans (FM_67 _ _ _)
  have fc : FC c (up (up c 5 4 (nI (tv b q p))) 5 2 (nI (te b q p))) := FC_54 c _ _
  have k1 : (up (up c 5 4 (nI (tv b q p))) 5 2 (nI (te b q p))) 5 2 = nI (te b q p) := by simp [up_a, upd_a]
  have k2 : (up (up c 5 4 (nI (tv b q p))) 5 2 (nI (te b q p))) 5 4 = nI (tv b q p) := by simp [up_a, upd_a]
  have k3 : ∀ k, k ≠ 5 → (up (up c 5 4 (nI (tv b q p))) 5 2 (nI (te b q p))) k = c k := fun k hk => by rw [up_a, if_neg hk, up_a, if_neg hk]
  have k4 : (up (up m2 67 (34 + S) (nI (tv b q p))) 67 5 (nI (S + 1))) 61 6 = nI (te b q p) := by rw [up_a, if_neg (by omega), up_a, if_neg (by omega)]; exact b3.2.2.2.1
  have k5 : ∀ j, (up (up m2 67 (34 + S) (nI (tv b q p))) 67 5 (nI (S + 1))) 67 j = if j = 5 then nI (S + 1) else if j = 34 + S then nI (tv b q p) else m 67 j := fun j => by
    rw [up_a, if_pos rfl, upd_a, up_a, if_pos rfl, upd_a, b3.1 67 (by omega)]
  generalize up (up m2 67 (34 + S) (nI (tv b q p))) 67 5 (nI (S + 1)) = n2 at *
  rcases sign_sim (x := 59) (p := te b q p) (Tp6_FC h6 fc) (Tp7_FM h7 fm) (by omega) (by omega) (by decide) k1 k4 with ⟨q1, -, m3, d1, d2, d3⟩ | ⟨c', m', d1, d2, d3⟩
  · left
    refine ⟨te b q p + 1, tv b q p, _, m3, by omega, by omega, by omega, ⟨_, b1, d1⟩, by rw [d2, cl_s, rz_1], fc.trans (FC_52 _ _), fm.trans (St_FM d3), fun k hk => by rw [up_a, if_neg hk, k3 k hk], by simp [up_a, upd_a], ?_, d3.2.2.2.1, fun j => ?_⟩
    · rw [up_a, if_pos rfl, upd_a, if_neg (by omega), k2]
    · rw [d3.1 67 (by omega), k5]
  · right; exact ⟨c', m', Or.inr ⟨_, b1, d1⟩, by rw [d2, cl_s, rz_0], d3.pre fc fm⟩
