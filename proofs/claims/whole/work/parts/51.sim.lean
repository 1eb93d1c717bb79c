/-! one step of both, side by side -/
/-- both fail, with the same fault at the same place -/
def Bad (c m c' m' : Mem) : Prop := FC c c' ∧ FM m m' ∧ c' 5 2 = m' 61 7 ∧ c' 5 3 = m' 61 11
theorem bad_of {c m m' : Mem} {p : Nat} {w : Int32} (h2 : c 5 2 = nI p) (hf : Fl m m' p w) : Bad c m (up c 5 3 w) m' := by
  refine ⟨⟨fun k h1 _ => by rw [up_a, if_neg h1], by rw [up_a, if_pos rfl, upd_a, if_neg (by omega)]⟩, Fl_FM hf, ?_, ?_⟩
  · rw [up_a, if_pos rfl, upd_a, if_neg (by omega), h2, hf.2.2.1]
  · rw [up_a, if_pos rfl, upd_a, if_pos rfl, hf.2.2.2]
theorem sign_sim {q : Nat} {b : Nat → Nat} {c m : Mem} {p x : Nat} (h6 : Tp6 q b c) (h7 : Tp7 q b m) (hp : p ≤ q) (hx : x < 256) (hl : isL x = true) (e2 : c 5 2 = nI p) (e6 : m 61 6 = nI p) :
    (p < q ∧ b p = x ∧ ∃ m', fX5_takes (nI x) c = some (1, up c 5 2 (nI (p + 1))) ∧ fX7_isSign (nI x) m = some (1, m') ∧ St m m' p (p + 1) 0) ∨ (∃ c' m', fX5_takes (nI x) c = some (0, c') ∧ fX7_isSign (nI x) m = some (0, m') ∧ Bad c m c' m') := by
  rcases sign_e h7 hp hx hl e6 with ⟨h1, h2, m', h3, h4⟩ | ⟨h1, m', h3, h4⟩
  · left; exact ⟨h1, h2, m', by rw [takes_e h6 hp hx e2, if_pos ⟨h1, h2⟩], h3, h4⟩
  · right; exact ⟨_, m', by rw [takes_e h6 hp hx e2, if_neg h1], h3, bad_of e2 h4⟩
theorem num_sim {q : Nat} {b : Nat → Nat} {c m : Mem} {p mx_ : Nat} (h6 : Tp6 q b c) (h7 : Tp7 q b m) (hp : p ≤ q) (hm : mx_ < 2 ^ 31) (e2 : c 5 2 = nI p) (e6 : m 61 6 = nI p) :
    (tv b q p ≤ mx_ ∧ ∃ m', fX5_takesNumber (nI mx_) 0 c = some (1, up (up c 5 4 (nI (tv b q p))) 5 2 (nI (te b q p))) ∧ fX7_isNumber (nI mx_) m = some (1, m') ∧ St m m' p (te b q p) (tv b q p)) ∨ (∃ c' m', fX5_takesNumber (nI mx_) 0 c = some (0, c') ∧ fX7_isNumber (nI mx_) m = some (0, m') ∧ Bad c m c' m') := by
  obtain ⟨t1, t2, t3⟩ := takesNum_e (mk := 0) h6 hp hm e2
  rcases number_e h7 hp hm e6 with ⟨h1, h2, m', h3, h4⟩ | ⟨h1, h2, m', h3, h4⟩ | ⟨h1, m', h3, h4⟩
  · left; exact ⟨h2, m', t1 h1 h2 (Nat.and_zero _), h3, h4⟩
  · right; exact ⟨_, m', t2 h1 (Or.inl h2), h3, bad_of e2 h4⟩
  · right; exact ⟨_, m', t3 h1, h3, bad_of e2 h4⟩
theorem FC_52 (c : Mem) (v : Int32) : FC c (up c 5 2 v) := ⟨fun k h1 _ => by rw [up_a, if_neg h1], by rw [up_a, if_pos rfl, upd_a, if_neg (by omega)]⟩
theorem FC_54 (c : Mem) (v w : Int32) : FC c (up (up c 5 4 v) 5 2 w) := ⟨fun k h1 _ => by rw [up_a, if_neg h1, up_a, if_neg h1], by rw [up_a, if_pos rfl, upd_a, if_neg (by omega), up_a, if_pos rfl, upd_a, if_neg (by omega)]⟩
theorem FC_d (c : Mem) (k i : Nat) (v : Int32) (hk : 17 ≤ k ∧ k ≤ 26) : FC c (up c k i v) := ⟨fun a _ h2 => by rw [up_a, if_neg (by omega)], by rw [up_a, if_neg (by omega)]⟩
theorem FM_67 (m : Mem) (i : Nat) (v : Int32) : FM m (up m 67 i v) := ⟨fun a _ h2 => by rw [up_a, if_neg h2], fun j _ => by rw [up_a, if_neg (by omega)]⟩
theorem Bad.pre {c m c1 m1 c' m' : Mem} (h1 : FC c c1) (h2 : FM m m1) (h : Bad c1 m1 c' m') : Bad c m c' m' := ⟨h1.trans h.1, h2.trans h.2.1, h.2.2.1, h.2.2.2⟩
