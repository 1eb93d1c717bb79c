/-! the tree of questions: the two tables agree -/
def hiM (m h : Nat) : Nat := m &&& (2 ^ 32 - (h + 1))
theorem hiM_test {m h : Nat} (hh : h < 2 ^ 32) (hm : m < 256) (i : Nat) : (hiM m h).testBit i = (m.testBit i && !h.testBit i) := by
  unfold hiM
  rw [Nat.testBit_and, Nat.testBit_two_pow_sub_succ hh]
  by_cases hi : i < 32
  · simp [hi]
  · have : m.testBit i = false := Nat.testBit_lt_two_pow (Nat.lt_of_lt_of_le (show m < 2 ^ 8 from hm) (Nat.pow_le_pow_right (by omega) (by omega)))
    simp [this]
theorem hiM_le (m h : Nat) : hiM m h ≤ m := Nat.and_le_left
def spl (H : Nat → Nat) (m t : Nat) : Bool := !decide (m &&& H t = 0) && !decide (hiM m (H t) = 0)
theorem spl_iff {H : Nat → Nat} {m t : Nat} : spl H m t = true ↔ m &&& H t ≠ 0 ∧ hiM m (H t) ≠ 0 := by simp [spl]
theorem ne0_bit {x i : Nat} (h : x.testBit i = true) : x ≠ 0 := by rintro rfl; simp at h
theorem bit_ne0 {x : Nat} (h : x ≠ 0) : ∃ i, x.testBit i = true := Nat.exists_testBit_of_ne_zero h
theorem spl_lt {H : Nat → Nat} {m t : Nat} (hm : m < 256) (hh : H t < 2 ^ 32) (h : spl H m t = true) : m &&& H t < m ∧ hiM m (H t) < m := by
  obtain ⟨h1, h2⟩ := spl_iff.mp h
  have l1 : m &&& H t ≤ m := Nat.and_le_left
  have l2 := hiM_le m (H t)
  constructor
  · apply Nat.lt_of_le_of_ne l1
    intro he
    obtain ⟨i, hi⟩ := bit_ne0 h2
    rw [hiM_test hh hm] at hi
    have : (m &&& H t).testBit i = m.testBit i := by rw [he]
    rw [Nat.testBit_and] at this
    revert hi this
    cases m.testBit i <;> cases (H t).testBit i <;> simp
  · apply Nat.lt_of_le_of_ne l2
    intro he
    obtain ⟨i, hi⟩ := bit_ne0 h1
    rw [Nat.testBit_and] at hi
    have : (hiM m (H t)).testBit i = m.testBit i := by rw [he]
    rw [hiM_test hh hm] at this
    revert hi this
    cases m.testBit i <;> cases (H t).testBit i <;> simp
def nsp (H : Nat → Nat) (m : Nat) : Nat := cnt (fun t => spl H m t) 5
theorem cnt_lt {p q : Nat → Bool} {n t : Nat} (h : ∀ i, p i = true → q i = true) (ht : t < n) (hp : p t = false) (hq : q t = true) : cnt p n < cnt q n := by
  induction n with
  | zero => omega
  | succ n ih =>
    show cnt p n + _ < cnt q n + _
    by_cases e : t = n
    · subst e
      have := cnt_mono h t
      simp [hp, hq]; omega
    · have := ih (by omega)
      by_cases h1 : p n = true
      · simp [h1, h n h1]; omega
      · simp [h1]; omega
theorem sub_test {a b : Nat} (h : a &&& b = a) (i : Nat) (hi : a.testBit i = true) : b.testBit i = true := by
  rw [← h, Nat.testBit_and] at hi; simp at hi; exact hi.2
theorem nsp_lt {H : Nat → Nat} {m m' t : Nat} (hm : m < 256) (hm' : m' < 256) (hH : ∀ t, H t < 2 ^ 32) (ht : t < 5) (hs : spl H m t = true) (hsub : ∀ i, m'.testBit i = true → m.testBit i = true) (hn : (∀ i, m'.testBit i = true → (H t).testBit i = true) ∨ (∀ i, m'.testBit i = true → (H t).testBit i = false)) : nsp H m' < nsp H m := by
  refine cnt_lt (fun u hu => ?_) ht ?_ hs
  · obtain ⟨h1, h2⟩ := spl_iff.mp hu
    obtain ⟨i, hi⟩ := bit_ne0 h1
    obtain ⟨j, hj⟩ := bit_ne0 h2
    rw [Nat.testBit_and, Bool.and_eq_true] at hi
    rw [hiM_test (hH u) hm', Bool.and_eq_true] at hj
    refine spl_iff.mpr ⟨ne0_bit (i := i) ?_, ne0_bit (i := j) ?_⟩
    · rw [Nat.testBit_and, hsub i hi.1, hi.2]; rfl
    · rw [hiM_test (hH u) hm, hsub j hj.1, hj.2]; rfl
  · cases hc : spl H m' t
    · rfl
    · exfalso
      obtain ⟨h1, h2⟩ := spl_iff.mp hc
      obtain ⟨i, hi⟩ := bit_ne0 h1
      obtain ⟨j, hj⟩ := bit_ne0 h2
      rw [Nat.testBit_and, Bool.and_eq_true] at hi
      rw [hiM_test (hH t) hm', Bool.and_eq_true] at hj
      rcases hn with hn | hn
      · have := hn j hj.1; rw [this] at hj; simp at hj
      · have := hn i hi.1; rw [this] at hi; simp at hi
def sep (tr : Nat → Nat) (m : Nat) : Prop := ∀ i j, i < j → m.testBit i = true → m.testBit j = true → tr i ≠ tr j
theorem bits2 : ∀ m, m < 256 → 2 ≤ pcn m → ∃ i, i < 8 ∧ ∃ j, j < 8 ∧ i < j ∧ m.testBit i = true ∧ m.testBit j = true := by decide +kernel
theorem bits2b : ∀ m, m < 256 → ∀ i, i < 8 → ∀ j, j < 8 → (decide (i < j) && m.testBit i && m.testBit j) = true → 2 ≤ pcn m := by decide +kernel
theorem bits2' (m : Nat) (hm : m < 256) (i : Nat) (hi : i < 8) (j : Nat) (hj : j < 8) (hij : i < j) (bi : m.testBit i = true) (bj : m.testBit j = true) : 2 ≤ pcn m := bits2b m hm i hi j hj (by rw [bi, bj]; simp [hij])
theorem tr_ext : ∀ a, a < 32 → ∀ b, b < 32 → (∀ t, t < 5 → a.testBit t = b.testBit t) → a = b := by decide +kernel
theorem bit8 {m i : Nat} (hm : m < 256) (h : m.testBit i = true) : i < 8 := by
  apply Classical.byContradiction
  intro hc
  have : m.testBit i = false := Nat.testBit_lt_two_pow (Nat.lt_of_lt_of_le (show m < 2 ^ 8 from hm) (Nat.pow_le_pow_right (by omega) (by omega)))
  rw [this] at h; simp at h
theorem bitT {m i T : Nat} (hm : m < 2 ^ T) (h : m.testBit i = true) : i < T := by
  apply Classical.byContradiction
  intro hc
  have : m.testBit i = false := Nat.testBit_lt_two_pow (Nat.lt_of_lt_of_le hm (Nat.pow_le_pow_right (by omega) (by omega)))
  rw [this] at h; simp at h
def HT (tr : Nat → Nat) (T t : Nat) : Nat := bset (fun i => (tr i).testBit t) T
theorem HT_lt (tr : Nat → Nat) {T : Nat} (hT : T ≤ 8) (t : Nat) : HT tr T t < 2 ^ 32 := Nat.lt_of_lt_of_le (bset_lt _ T) (Nat.pow_le_pow_right (by omega) (by omega))
theorem HT_test {tr : Nat → Nat} {T t i : Nat} (hi : i < T) : (HT tr T t).testBit i = (tr i).testBit t := by
  unfold HT; rw [bset_test]; simp [hi]
theorem sep_split {tr : Nat → Nat} {T m : Nat} (hT : T ≤ 8) (htr : ∀ i, i < T → tr i < 32) (hm : m < 2 ^ T) (hs : sep tr m) (hp : 2 ≤ pcn m) : ∃ t, t < 5 ∧ spl (HT tr T) m t = true := by
  have h8 : m < 256 := Nat.lt_of_lt_of_le hm (Nat.pow_le_pow_right (n := 2) (by omega) hT)
  obtain ⟨i, hi, j, hj, hij, bi, bj⟩ := bits2 m h8 hp
  have iT := bitT hm bi
  have jT := bitT hm bj
  apply Classical.byContradiction
  intro hc
  refine hs i j hij bi bj (tr_ext _ (htr i iT) _ (htr j jT) (fun t ht => ?_))
  apply Classical.byContradiction
  intro hne
  apply hc
  refine ⟨t, ht, spl_iff.mpr ?_⟩
  cases ei : (tr i).testBit t <;> cases ej : (tr j).testBit t
  · rw [ei, ej] at hne; exact absurd rfl hne
  · exact ⟨ne0_bit (i := j) (by rw [Nat.testBit_and, bj, HT_test jT, ej]; rfl), ne0_bit (i := i) (by rw [hiM_test (HT_lt tr hT t) h8, bi, HT_test iT, ei]; rfl)⟩
  · exact ⟨ne0_bit (i := i) (by rw [Nat.testBit_and, bi, HT_test iT, ei]; rfl), ne0_bit (i := j) (by rw [hiM_test (HT_lt tr hT t) h8, bj, HT_test jT, ej]; rfl)⟩
  · rw [ei, ej] at hne; exact absurd rfl hne
theorem one_nosplit {H : Nat → Nat} {m : Nat} (hm : m < 256) (hH : ∀ t, H t < 2 ^ 32) (hp : ¬ 2 ≤ pcn m) (t : Nat) : spl H m t = false := by
  cases hc : spl H m t
  · rfl
  · exfalso
    obtain ⟨h1, h2⟩ := spl_iff.mp hc
    obtain ⟨i, hi⟩ := bit_ne0 h1
    obtain ⟨j, hj⟩ := bit_ne0 h2
    rw [Nat.testBit_and, Bool.and_eq_true] at hi
    rw [hiM_test (hH t) hm, Bool.and_eq_true] at hj
    have i8 := bit8 hm hi.1
    have j8 := bit8 hm hj.1
    have hne : i ≠ j := by rintro rfl; rw [hi.2] at hj; simp at hj
    rcases Nat.lt_or_gt_of_ne hne with h | h
    · exact hp (bits2' m hm i i8 j j8 h hi.1 hj.1)
    · exact hp (bits2' m hm j j8 i i8 h hj.1 hi.1)
/-! the two tables -/
def byF (H : Nat → Nat) (f : Nat → Int32) (m t : Nat) : Int32 := 1 + mx (f (m &&& H t)) (f (hiM m (H t)))
def wf (H : Nat → Nat) (f : Nat → Int32) (m : Nat) : Nat → Int32
  | 0 => 5
  | t + 1 => if spl H m t = true then mn (wf H f m t) (byF H f m t) else wf H f m t
def byD (H : Nat → Nat) (d : Nat → Int32) (m t : Nat) : Int32 :=
  if spl H m t = true then (if d (m &&& H t) < 0 then -1 else (if 0 ≤ d (hiM m (H t)) then (if d (m &&& H t) ≤ d (hiM m (H t)) then 1 + d (hiM m (H t)) else 1 + d (m &&& H t)) else -1)) else -1
def vf (H : Nat → Nat) (d : Nat → Int32) (m : Nat) : Nat → Int32 × Int32
  | 0 => (-1, -1000000)
  | t + 1 => if byD H d m t < 0 then vf H d m t else if (vf H d m t).1 < 0 then (byD H d m t, nI t) else if (vf H d m t).1 ≤ byD H d m t then vf H d m t else (byD H d m t, nI t)
def stF (H : Nat → Nat) (f : Nat → Int32) (m : Nat) : Int32 := if 2 ≤ pcn m then wf H f m 5 else 0
def stD (H : Nat → Nat) (d : Nat → Int32) (m : Nat) : Int32 := if 2 ≤ pcn m then (vf H d m 5).1 else 0
theorem mx_nI {a b : Nat} (ha : a < 2 ^ 31) (hb : b < 2 ^ 31) : mx (nI a) (nI b) = nI (max a b) := by
  unfold mx
  by_cases h : a < b
  · rw [if_pos (nI_lt h hb), Nat.max_eq_right (by omega)]
  · rw [if_neg (nI_nlt (by omega) ha), Nat.max_eq_left (by omega)]
theorem mn_nI {a b : Nat} (ha : a < 2 ^ 31) (hb : b < 2 ^ 31) : mn (nI a) (nI b) = nI (min a b) := by
  unfold mn
  by_cases h : b < a
  · rw [if_pos (nI_lt h ha), Nat.min_eq_right (by omega)]
  · rw [if_neg (nI_nlt (by omega) hb), Nat.min_eq_left (by omega)]
/-- two alike: no way -/
theorem tree_bad {tr : Nat → Nat} {T M : Nat} {d : Nat → Int32} (hT : T ≤ 8) (hM : M < 2 ^ T) (hd : ∀ m, m ≤ M → d m = stD (HT tr T) d m) : ∀ m, m ≤ M → ¬ sep tr m → 2 ≤ pcn m ∧ d m = -1 ∧ ∀ t, vf (HT tr T) d m t = (-1, -1000000) := by
  have h8 : (2 : Nat) ^ T ≤ 256 := Nat.pow_le_pow_right (n := 2) (by omega) hT
  intro m
  induction m using Nat.strongRecOn with
  | ind m ih =>
    intro hm hs
    have hm8 : m < 256 := by omega
    have : ∃ i j, i < j ∧ m.testBit i = true ∧ m.testBit j = true ∧ tr i = tr j := by
      apply Classical.byContradiction
      intro hc
      exact hs (fun i j h1 h2 h3 h4 => hc ⟨i, j, h1, h2, h3, h4⟩)
    obtain ⟨i, j, hij, bi, bj, he⟩ := this
    have iT := bitT (Nat.lt_of_le_of_lt hm hM) bi
    have jT := bitT (Nat.lt_of_le_of_lt hm hM) bj
    have hp := bits2' m hm8 i (by omega) j (by omega) hij bi bj
    have hby : ∀ t, byD (HT tr T) d m t = -1 := by
      intro t
      unfold byD
      by_cases hsp : spl (HT tr T) m t = true
      · rw [if_pos hsp]
        obtain ⟨l1, l2⟩ := spl_lt hm8 (HT_lt tr hT t) hsp
        cases ei : (tr i).testBit t
        · have ns : ¬ sep tr (hiM m (HT tr T t)) := fun hh => hh i j hij (by rw [hiM_test (HT_lt tr hT t) hm8, bi, HT_test iT, ei]; rfl) (by rw [hiM_test (HT_lt tr hT t) hm8, bj, HT_test jT, ← he, ei]; rfl) he
          rw [(ih _ l2 (by omega) ns).2.1]
          by_cases h0 : d (m &&& HT tr T t) < 0
          · rw [if_pos h0]
          · rw [if_neg h0, if_neg (by decide)]
        · have ns : ¬ sep tr (m &&& HT tr T t) := fun hh => hh i j hij (by rw [Nat.testBit_and, bi, HT_test iT, ei]; rfl) (by rw [Nat.testBit_and, bj, HT_test jT, ← he, ei]; rfl) he
          rw [(ih _ l1 (by omega) ns).2.1, if_pos (by decide)]
      · rw [if_neg hsp]
    have hv : ∀ t, vf (HT tr T) d m t = (-1, -1000000) := by
      intro t
      induction t with
      | zero => rfl
      | succ t iht => rw [vf, hby, if_pos (by decide), iht]
    refine ⟨hp, ?_, hv⟩
    rw [hd m hm]
    unfold stD
    rw [if_pos hp, hv]
theorem sep_sub {tr : Nat → Nat} {m m' : Nat} (h : sep tr m) (hs : ∀ i, m'.testBit i = true → m.testBit i = true) : sep tr m' := fun i j h1 h2 h3 => h i j h1 (hs i h2) (hs j h3)
/-- none alike: the tables agree, and the trait is the first -/
theorem tree_good {tr : Nat → Nat} {T M : Nat} {d f : Nat → Int32} (hT : T ≤ 8) (htr : ∀ i, i < T → tr i < 32) (hM : M < 2 ^ T) (hsM : sep tr M) (hd : ∀ m, m ≤ M → d m = stD (HT tr T) d m) (hf : ∀ m, m ≤ M → (∀ i, m.testBit i = true → M.testBit i = true) → f m = stF (HT tr T) f m) :
    ∀ m, m ≤ M → (∀ i, m.testBit i = true → M.testBit i = true) → ∃ k, k ≤ nsp (HT tr T) m ∧ d m = nI k ∧ f m = nI k ∧ (2 ≤ pcn m → ∃ l, l < 5 ∧ vf (HT tr T) d m 5 = (nI k, nI l) ∧ spl (HT tr T) m l = true ∧ byF (HT tr T) f m l = nI k ∧ ∀ t, t < l → spl (HT tr T) m t = true → ∃ b, k < b ∧ b ≤ 6 ∧ byF (HT tr T) f m t = nI b) := by
  have h8 : (2 : Nat) ^ T ≤ 256 := Nat.pow_le_pow_right (n := 2) (by omega) hT
  have hH := HT_lt tr hT
  intro m
  induction m using Nat.strongRecOn with
  | ind m ih =>
    intro hm hsub
    have hm8 : m < 256 := by omega
    have n5 : nsp (HT tr T) m ≤ 5 := cnt_le _ 5
    by_cases hp : 2 ≤ pcn m
    rotate_left
    · refine ⟨0, by omega, ?_, ?_, fun h => absurd h hp⟩
      · rw [hd m hm]; unfold stD; rw [if_neg hp]; rfl
      · rw [hf m hm hsub]; unfold stF; rw [if_neg hp]; rfl
    -- each way
    have hby : ∀ t, t < 5 → spl (HT tr T) m t = true → ∃ b, b ≤ nsp (HT tr T) m ∧ byD (HT tr T) d m t = nI b ∧ byF (HT tr T) f m t = nI b := by
      intro t ht hsp
      obtain ⟨l1, l2⟩ := spl_lt hm8 (hH t) hsp
      have s1 : ∀ i, (m &&& HT tr T t).testBit i = true → m.testBit i = true := fun i hi => by rw [Nat.testBit_and, Bool.and_eq_true] at hi; exact hi.1
      have s2 : ∀ i, (hiM m (HT tr T t)).testBit i = true → m.testBit i = true := fun i hi => by rw [hiM_test (hH t) hm8, Bool.and_eq_true] at hi; exact hi.1
      obtain ⟨a, a1, a2, a3, -⟩ := ih _ l1 (by omega) (fun i hi => hsub i (s1 i hi))
      obtain ⟨b, b1, b2, b3, -⟩ := ih _ l2 (by omega) (fun i hi => hsub i (s2 i hi))
      have m1 := nsp_lt (H := HT tr T) (m := m) (m' := m &&& HT tr T t) hm8 (by omega) hH ht hsp s1 (Or.inl (fun i hi => by rw [Nat.testBit_and, Bool.and_eq_true] at hi; exact hi.2))
      have m2 := nsp_lt (H := HT tr T) (m := m) (m' := hiM m (HT tr T t)) hm8 (by omega) hH ht hsp s2 (Or.inr (fun i hi => by rw [hiM_test (hH t) hm8, Bool.and_eq_true] at hi; simpa using hi.2))
      refine ⟨1 + max a b, by omega, ?_, ?_⟩
      · unfold byD
        rw [if_pos hsp, a2, b2, if_neg (nI_pos (by omega)), if_pos (nI_pos' (by omega))]
        by_cases hab : a ≤ b
        · rw [if_pos (nI_le hab (by omega)), Nat.max_eq_right hab]; exact nI_add 1 b
        · rw [if_neg (nI_ge (by omega) (by omega)), Nat.max_eq_left (by omega)]; exact nI_add 1 a
      · unfold byF
        rw [a3, b3, mx_nI (by omega) (by omega)]; exact nI_add 1 _
    have hno : ∀ t, ¬ spl (HT tr T) m t = true → byD (HT tr T) d m t = -1 := fun t h => by unfold byD; rw [if_neg h]
    have fold : ∀ t, t ≤ 5 → (vf (HT tr T) d m t = (-1, -1000000) ∧ wf (HT tr T) f m t = 5 ∧ ∀ u, u < t → ¬ spl (HT tr T) m u = true) ∨ (∃ k l, vf (HT tr T) d m t = (nI k, nI l) ∧ k ≤ 5 ∧ l < t ∧ spl (HT tr T) m l = true ∧ byF (HT tr T) f m l = nI k ∧ wf (HT tr T) f m t = nI k ∧ k ≤ nsp (HT tr T) m ∧ (∀ u, u < l → spl (HT tr T) m u = true → ∃ b, k < b ∧ b ≤ 6 ∧ byF (HT tr T) f m u = nI b) ∧ ∀ u, u < t → spl (HT tr T) m u = true → ∃ b, k ≤ b ∧ b ≤ 6 ∧ byF (HT tr T) f m u = nI b) := by
      intro t
      induction t with
      | zero => exact fun _ => Or.inl ⟨rfl, rfl, fun u hu => absurd hu (by omega)⟩
      | succ t iht =>
        intro ht
        by_cases hsp : spl (HT tr T) m t = true
        · obtain ⟨b, b0, b1, b2⟩ := hby t (by omega) hsp
          right
          rcases iht (by omega) with ⟨e1, e2, e3⟩ | ⟨k, l, e1, e2, e3, e4, e5, e6, e7, e8, e9⟩
          · refine ⟨b, t, ?_, by omega, by omega, hsp, b2, ?_, b0, fun u hu hs => absurd hs (e3 u hu), fun u hu hs => ?_⟩
            · rw [vf, b1, if_neg (nI_pos (by omega)), e1, if_pos (show ((-1 : Int32), (-1000000 : Int32)).1 < 0 by decide)]
            · rw [wf, if_pos hsp, e2, b2]
              show mn (nI 5) (nI b) = _
              rw [mn_nI (by omega) (by omega), Nat.min_eq_right (by omega)]
            · by_cases hut : u = t
              · rw [hut]; exact ⟨b, by omega, by omega, b2⟩
              · exact absurd hs (e3 u (by omega))
          · by_cases hkb : k ≤ b
            · refine ⟨k, l, ?_, e2, by omega, e4, e5, ?_, e7, e8, fun u hu hs => ?_⟩
              · rw [vf, b1, if_neg (nI_pos (by omega)), e1]
                show (if nI k < 0 then _ else if nI k ≤ nI b then _ else _) = _
                rw [if_neg (nI_pos (by omega)), if_pos (nI_le hkb (by omega))]
              · rw [wf, if_pos hsp, e6, b2, mn_nI (by omega) (by omega), Nat.min_eq_left hkb]
              · by_cases hut : u = t
                · rw [hut]; exact ⟨b, by omega, by omega, b2⟩
                · exact e9 u (by omega) hs
            · refine ⟨b, t, ?_, by omega, by omega, hsp, b2, ?_, b0, fun u hu hs => ?_, fun u hu hs => ?_⟩
              · rw [vf, b1, if_neg (nI_pos (by omega)), e1]
                show (if nI k < 0 then _ else if nI k ≤ nI b then _ else _) = _
                rw [if_neg (nI_pos (by omega)), if_neg (nI_ge (by omega) (by omega))]
              · rw [wf, if_pos hsp, e6, b2, mn_nI (by omega) (by omega), Nat.min_eq_right (by omega)]
              · obtain ⟨b', p1, p2, p3⟩ := e9 u hu hs
                exact ⟨b', by omega, p2, p3⟩
              · by_cases hut : u = t
                · rw [hut]; exact ⟨b, by omega, by omega, b2⟩
                · obtain ⟨b', p1, p2, p3⟩ := e9 u (by omega) hs
                  exact ⟨b', by omega, p2, p3⟩
        · rcases iht (by omega) with ⟨e1, e2, e3⟩ | ⟨k, l, e1, e2, e3, e4, e5, e6, e7, e8, e9⟩
          · refine Or.inl ⟨by rw [vf, hno t hsp, if_pos (by decide), e1], by rw [wf, if_neg hsp, e2], fun u hu => ?_⟩
            by_cases hut : u = t
            · rw [hut]; exact hsp
            · exact e3 u (by omega)
          · refine Or.inr ⟨k, l, by rw [vf, hno t hsp, if_pos (by decide), e1], e2, by omega, e4, e5, by rw [wf, if_neg hsp, e6], e7, e8, fun u hu hs => ?_⟩
            by_cases hut : u = t
            · rw [hut] at hs; exact absurd hs hsp
            · exact e9 u (by omega) hs
    obtain ⟨t0, ht0, hsp0⟩ := sep_split hT htr (Nat.lt_of_le_of_lt hm hM) (sep_sub hsM hsub) hp
    rcases fold 5 (by omega) with ⟨-, -, e3⟩ | ⟨k, l, e1, e2, e3, e4, e5, e6, e7, e8, e9⟩
    · exact absurd hsp0 (e3 t0 ht0)
    · refine ⟨k, e7, ?_, ?_, fun _ => ⟨l, e3, e1, e4, e5, e8⟩⟩
      · rw [hd m hm]; unfold stD; rw [if_pos hp, e1]
      · rw [hf m hm hsub]; unfold stF; rw [if_pos hp, e6]
