/-! ===== the pure part: rows on numbers and memory ===== -/
theorem q_lit (n : Nat) : (OfNat.ofNat n : Int32) = nI n := rfl
theorem up_a (g : Mem) (k i : Nat) (v : Int32) (a : Nat) : up g k i v a = if a = k then upd (g k) i v else g a := rfl
theorem upR_a (g : Mem) (k : Nat) (f : Nat → Int32) (a : Nat) : upR g k f a = if a = k then f else g a := rfl
theorem upd_a (f : Nat → Int32) (i : Nat) (v : Int32) (j : Nat) : upd f i v j = if j = i then v else f j := rfl
theorem cl_s {r : Int32} {g : Mem} {K : Int32 → Mem → Option (Int32 × Mem)} : cl (some (r, g)) K = K r g := rfl
theorem lt_e {e : Int32} {G : Int32 → Option (Int32 × Mem)} : lt e G = G e := rfl
theorem pf_e {g : Mem} {k i : Nat} {x : Int32} {G : Mem → Option (Int32 × Mem)} : pf g k i x G = G (up g k i x) := rfl
theorem al_nI {g : Mem} {a n i : Nat} {G : Int32 → Option (Int32 × Mem)} (h : i < n) (hn : n < 2 ^ 31) : al g a n (nI i) G = G (g a i) := by
  unfold al; rw [if_neg (nI_in h hn), nI_clamp (by omega)]
theorem as_nI {g : Mem} {a n i : Nat} {v : Int32} {G : Mem → Option (Int32 × Mem)} (h : i < n) (hn : n < 2 ^ 31) : as_ g a n (nI i) v G = G (up g a i v) := by
  unfold as_; rw [if_neg (nI_in h hn), nI_clamp (by omega)]
theorem sl_nI {f : Nat → Int32} {n i : Nat} {G : Int32 → Option (Int32 × Mem)} (h : i < n) (hn : n < 2 ^ 31) : sl f n (nI i) G = G (f i) := by
  unfold sl; rw [if_neg (nI_in h hn), nI_clamp (by omega)]
theorem rz_0 {g : Mem} : rz 0 g = some (0, g) := by simp [rz]
theorem rz_1 {g : Mem} : rz 1 g = some (1, g) := by simp [rz]
theorem q_lt {a b : Int32} : a < b ↔ a.toInt < b.toInt := Int32.lt_iff_toInt_lt
theorem q_le {a b : Int32} : a ≤ b ↔ a.toInt ≤ b.toInt := Int32.le_iff_toInt_le
theorem q_m1 {T : Nat} (h : T < 2 ^ 30) : (nI T - 1).toInt = (T : Int) - 1 := by
  have h2 : (nI T - nI 1).toInt = (T : Int) - ((1 : Nat) : Int) := pk_sub_toInt h (by omega)
  exact h2
theorem below_t {j n : Nat} (h : j < n) (hn : n < 2 ^ 31) (g : Mem) : fX6_below (nI j) (nI n) g = some (1, g) := by
  unfold fX6_below
  rw [if_neg (nI_pos (by omega)), if_neg (nI_ge h hn)]
theorem below_f {x b : Int32} (h : x < 0 ∨ b ≤ x) (g : Mem) : fX6_below x b g = some (0, g) := by
  unfold fX6_below
  by_cases h0 : x < 0
  · rw [if_pos h0]
  · rw [if_neg h0, if_pos (h.resolve_left h0)]
theorem in_f {x a b : Int32} (h : x < a ∨ b < x) (g : Mem) : fX7_in x a b g = some (0, g) := by
  unfold fX7_in
  by_cases h0 : x < a
  · rw [if_pos h0]
  · rw [if_neg h0, if_pos (h.resolve_left h0)]
theorem in_t {x a b : Int32} (h0 : ¬ x < a) (h1 : ¬ b < x) (g : Mem) : fX7_in x a b g = some (1, g) := by
  unfold fX7_in
  rw [if_neg h0, if_neg h1]
theorem inN_t {j n : Nat} (h : j ≤ n) (hn : n < 2 ^ 31) (g : Mem) : fX7_in (nI j) 0 (nI n) g = some (1, g) := in_t (nI_pos (by omega)) (nI_nlt h hn) g
theorem inN_f {x : Int32} {n : Nat} (hn : n < 2 ^ 30) (h : x < 0 ∨ nI (n + 1) ≤ x) (g : Mem) : fX7_in x 0 (nI n) g = some (0, g) := by
  refine in_f ?_ g
  rcases h with h | h
  · exact Or.inl h
  · right
    rw [q_le, nI_toInt (by omega)] at h
    rw [q_lt, nI_toInt (by omega)]; omega
theorem inC_f {x : Int32} {T : Nat} (hT : T < 2 ^ 30) (h : x < 0 ∨ nI T ≤ x) (g : Mem) : fX7_in x 0 (nI T - 1) g = some (0, g) := by
  refine in_f ?_ g
  rcases h with h | h
  · exact Or.inl h
  · right
    rw [q_le, nI_toInt (by omega)] at h
    rw [q_lt, q_m1 hT]; omega
theorem inC_t {j T : Nat} (hT : T < 2 ^ 30) (h : j < T) (g : Mem) : fX7_in (nI j) 0 (nI T - 1) g = some (1, g) := by
  refine in_t (nI_pos (by omega)) ?_ g
  rw [q_lt, q_m1 hT, nI_toInt (by omega)]; omega
theorem isRow_f {x : Int32} (h : x < 0 ∨ nI 8 ≤ x) (g : Mem) : fX7_isRow x g = some (0, g) := by
  unfold fX7_isRow
  rw [show (7 : Int32) = nI 7 from rfl, inN_f (by omega) h, cl_s, rz_0]
theorem isRow_t {j : Nat} (h : j < 8) (g : Mem) : fX7_isRow (nI j) g = some (1, g) := by
  unfold fX7_isRow
  rw [show (7 : Int32) = nI 7 from rfl, inN_t (by omega) (by omega), cl_s, rz_1]
theorem found_e (k : Int32) (g : Mem) : fX6_found k g = some (-1000010 - k, up g 0 10 k) := rfl
theorem clean_e (k : Int32) (g : Mem) : fX6_clean k g = some (k, up g 0 10 0) := rfl
theorem finds_e (k : Int32) (g : Mem) : fX7_finds k g = some (-1000010 - k, up g 61 3 k) := rfl
theorem done_e (k : Int32) (g : Mem) : fX7_done k g = some (k, up g 61 3 0) := rfl
/-! the invariant -/
def pcn (x : Nat) : Nat := x % 2 + x / 2 % 2 + x / 4 % 2 + x / 8 % 2 + x / 16 % 2 + x / 32 % 2 + x / 64 % 2 + x / 128 % 2
def fit (k y n t : Nat) : Bool :=
  if k = 1 then decide (t &&& y = y ∧ t &&& n = 0)
  else if k = 2 then decide ((t &&& y = y ∧ t &&& n = 0) ∨ (t &&& n = n ∧ t &&& y = 0))
  else if k = 3 then decide (pcn (y &&& (31 - t)) ≤ 1 ∧ t &&& n = 0)
  else if k = 4 then !decide (t &&& y = y ∧ t &&& n = 0)
  else !decide (t &&& y = y ∧ t &&& n = 0) && decide (t &&& n = 0)
/-- which of the first T things fit -/
def fset (tr : Nat → Nat) (k y n : Nat) : Nat → Nat
  | 0 => 0
  | T + 1 => fset tr k y n T ||| (if fit k y n (tr T) then 2 ^ T else 0)
def RowsR (w s it ln ms mit : Nat → Int32) : Prop :=
  (∀ j : Nat, j < 8 → (∃ n : Nat, n ≤ 40 ∧ s j = nI n ∧ ms j = nI n) ∧ ((w j = 0 ∧ ln j = -1) ∨ ∃ k : Nat, k < 3 ∧ ln j = nI k ∧ w j = nI (8 * 2 ^ k))) ∧ ∀ j : Nat, j < 320 → mit j = it j
def TapeR (n m : Int32) (b t : Nat → Int32) : Prop := ∃ q : Nat, q ≤ 120 ∧ n = nI q ∧ m = nI q ∧ (∀ j : Nat, j < 120 → t j = b j) ∧ ∀ j : Nat, j < 120 → ∃ c : Nat, c < 256 ∧ b j = nI c
/-- a court of the class, and the same in the reference's row: T things, Q riddles, S suitors -/
def CourtN (T Q S : Nat) (tr : Nat → Nat) (o t s y n f k a r u m : Nat → Int32) : Prop :=
  (T ≤ 8 ∧ Q ≤ 6 ∧ S ≤ 4) ∧ ((o 0 = 0 ∨ o 0 = 1) ∧ m 0 = o 0) ∧ ((∃ x : Nat, x < 2 ^ T ∧ o 1 = nI x) ∧ m 1 = o 1) ∧ ((∃ x : Nat, x ≤ 99 ∧ o 2 = nI x) ∧ m 2 = o 2) ∧
  (o 3 = nI T ∧ m 3 = nI T) ∧ (o 5 = nI Q ∧ m 4 = nI Q) ∧ (o 10 = nI S ∧ m 5 = nI S) ∧ ((∃ x : Nat, x < 64 ∧ o 15 = nI x) ∧ m 6 = o 15) ∧ m 7 = o 16 ∧
  (∀ i : Nat, i < T → tr i < 32 ∧ t i = nI (tr i) ∧ m (8 + i) = nI (tr i)) ∧
  (∀ i : Nat, i < Q → ∃ sk yy nn : Nat, (1 ≤ sk ∧ sk ≤ 5 ∧ yy < 32 ∧ nn < 32) ∧ s i = nI sk ∧ m (16 + i) = nI sk ∧ y i = nI yy ∧ m (22 + i) = nI yy ∧ n i = nI nn ∧ m (28 + i) = nI nn ∧ f i = nI (fset tr sk yy nn T)) ∧
  (∀ i : Nat, i < S → (∃ x : Nat, x < 2 ^ T ∧ k i = nI x) ∧ m (34 + i) = k i ∧ (∃ x : Nat, x < 4 ∧ a i = nI x) ∧ m (38 + i) = a i ∧ (∃ x : Nat, x ≤ 3 ∧ r i = nI x) ∧ m (42 + i) = r i ∧ (u i = 0 ∨ u i = 1) ∧ m (46 + i) = u i ∧ (a i = 0 → ∃ x : Nat, x ≤ 2 ∧ r i = nI x)) ∧
  (∀ i : Nat, S ≤ i → i < 4 → m (38 + i) = 0)
def CourtR (o t s y n f k a r u m : Nat → Int32) : Prop := ∃ (T Q S : Nat) (tr : Nat → Nat), CourtN T Q S tr o t s y n f k a r u m
def ImgR (o t s y n f k a r u m : Nat → Int32) (kept : Int32) : Prop := CourtR o t s y n f k a r u m ∧ (o 0 = kept)
def AsksR (n m : Int32) (b t : Nat → Int32) : Prop := ∃ q : Nat, q ≤ 16 ∧ n = nI q ∧ m = nI q ∧ ∀ j : Nat, j < q → t j = b j
/-- one act: the row before it (σ) and behind it (τ), and what the class keeps of it -/
def ActS (σ τ : Nat → Int32) (who kn ri tu us pa : Int32) : Prop := ∃ (s S T x y z : Nat), s < S ∧ S ≤ 4 ∧ T ≤ 8 ∧ σ 5 = nI S ∧ σ 3 = nI T ∧ who = nI s ∧ (∀ j : Nat, j < 50 → j ≠ 6 → j ≠ 7 → j ≠ 34 + s → j ≠ 38 + s → j ≠ 42 + s → j ≠ 46 + s → σ j = τ j) ∧
  σ 6 = us ∧ σ 7 = pa ∧ σ (34 + s) = kn ∧ σ (38 + s) = 0 ∧ σ (42 + s) = ri ∧ σ (46 + s) = tu ∧ (x < 2 ^ T ∧ kn = nI x) ∧ (y ≤ 2 ∧ ri = nI y) ∧ (tu = 0 ∨ tu = 1) ∧ (z < 64 ∧ us = nI z)
def ActsR (nx hd ma : Int32) (w k r u us pa : Nat → Int32) (now ac : Nat → Int32) : Prop := ∃ N A : Nat, N < 24 ∧ A ≤ 24 ∧ nx = nI N ∧ hd = nI A ∧ ma = nI A ∧
  ∀ i : Nat, i < A → ActS (fun j => ac (50 * i + j)) (if i + 1 = A then now else fun j => ac (50 * (i + 1) + j)) (w ((N + 24 - A + i) % 24)) (k ((N + 24 - A + i) % 24)) (r ((N + 24 - A + i) % 24)) (u ((N + 24 - A + i) % 24)) (us ((N + 24 - A + i) % 24)) (pa ((N + 24 - A + i) % 24))
def Inv (g : Mem) : Prop :=
  RowsR (g 2) (g 3) (g 4) (g 62) (g 63) (g 64) ∧ TapeR (g 5 1) (g 61 4) (g 6) (g 65) ∧ (g 0 10 = g 61 3 ∧ g 0 9 = g 61 10) ∧
  CourtR (g 7) (g 8) (g 9) (g 10) (g 11) (g 12) (g 13) (g 14) (g 15) (g 16) (g 66) ∧
  ImgR (g 28) (g 29) (g 30) (g 31) (g 32) (g 33) (g 34) (g 35) (g 36) (g 37) (fun j => g 68 j) (g 69 0) ∧
  ImgR (g 38) (g 39) (g 40) (g 41) (g 42) (g 43) (g 44) (g 45) (g 46) (g 47) (fun j => g 68 (50 + j)) (g 69 1) ∧
  ActsR (g 48 6) (g 48 7) (g 61 17) (g 49) (g 50) (g 51) (g 52) (g 53) (g 54) (g 66) (g 70) ∧
  AsksR (g 58 1) (g 61 19) (g 59) (g 71)
/-- the two answer alike, and the invariant stands again -/
def Both (g : Mem) (F : Mem → Option (Int32 × Mem)) (G : Mem → Option (Int32 × Mem)) : Prop := ∃ (r : Int32) (g1 g2 : Mem), F g = some (r, g1) ∧ G g1 = some (r, g2) ∧ Inv g2
theorem E_status {g : Mem} (h : Inv g) : Both g (fun g => fX6_status g) (fun g => fX7_status g) := by
  refine ⟨g 0 10, g, g, rfl, ?_, h⟩
  show some (g 61 3, g) = _
  rw [h.2.2.1.1]
theorem E_fault {g : Mem} (h : Inv g) : Both g (fun g => fX6_fault g) (fun g => fX7_fault g) := by
  refine ⟨g 0 9, g, g, rfl, ?_, h⟩
  show some (g 61 10, g) = _
  rw [h.2.2.1.2]
theorem Inv_0 : Inv g0 := by
  have hc : ∀ m : Nat → Int32, (∀ j, j < 50 → m j = 0) → CourtR (fun _ => 0) (fun _ => 0) (fun _ => 0) (fun _ => 0) (fun _ => 0) (fun _ => 0) (fun _ => 0) (fun _ => 0) (fun _ => 0) (fun _ => 0) m := by
    intro m hm
    refine ⟨0, 0, 0, fun _ => 0, ⟨by omega, by omega, by omega⟩, ⟨Or.inl rfl, hm 0 (by omega)⟩, ⟨⟨0, by decide, rfl⟩, hm 1 (by omega)⟩, ⟨⟨0, by decide, rfl⟩, hm 2 (by omega)⟩, ⟨rfl, hm 3 (by omega)⟩, ⟨rfl, hm 4 (by omega)⟩, ⟨rfl, hm 5 (by omega)⟩, ⟨⟨0, by decide, rfl⟩, hm 6 (by omega)⟩, hm 7 (by omega), fun i hi => absurd hi (by omega), fun i hi => absurd hi (by omega), fun i hi => absurd hi (by omega), fun i _ hi => hm (38 + i) (by omega)⟩
  have hz : ∀ k : Nat, k ≠ 62 → g0 k = fun _ => 0 := fun k hk => by simp [g0, hk]
  refine ⟨⟨fun j hj => ⟨⟨0, by omega, rfl, rfl⟩, Or.inl ⟨rfl, ?_⟩⟩, fun j hj => rfl⟩, ⟨0, by omega, rfl, rfl, fun j hj => rfl, fun j hj => ⟨0, by omega, rfl⟩⟩, ⟨rfl, rfl⟩, hc _ (fun _ _ => rfl), ⟨hc _ (fun _ _ => rfl), rfl⟩, ⟨hc _ (fun _ _ => rfl), rfl⟩, ⟨0, 0, by omega, by omega, rfl, rfl, rfl, fun i hi => absurd hi (by omega)⟩, ⟨0, by omega, rfl, rfl, fun j hj => absurd hj (by omega)⟩⟩
  show LANE0 j = -1
  simp [LANE0, hj]
