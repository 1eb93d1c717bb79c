theorem FU_e : FU = 60000 := rfl
theorem loopI {σ α : Type} (Fn : Nat → Nat → σ → α) (res : α) (I : Nat → σ → Prop) (N : Nat) (hx : ∀ n s, I N s → Fn (n + 1) N s = res) (hs : ∀ n i s, i < N → I i s → ∃ s', I (i + 1) s' ∧ Fn (n + 1) i s = Fn n (i + 1) s') : ∀ (d n i : Nat) (s : σ), i + d = N → d < n → I i s → Fn n i s = res := by
  intro d
  induction d with
  | zero =>
    intro n i s h1 h2 h3
    obtain ⟨n, rfl⟩ : ∃ k, n = k + 1 := ⟨n - 1, by omega⟩
    have : i = N := by omega
    subst this
    exact hx n s h3
  | succ d ih =>
    intro n i s h1 h2 h3
    obtain ⟨n, rfl⟩ : ∃ k, n = k + 1 := ⟨n - 1, by omega⟩
    obtain ⟨s', h4, h5⟩ := hs n i s (by omega) h3
    rw [h5]
    exact ih n (i + 1) s' (by omega) (by omega) h4
def cnt (p : Nat → Bool) : Nat → Nat
  | 0 => 0
  | n + 1 => cnt p n + if p n then 1 else 0
theorem cnt_le (p : Nat → Bool) (n : Nat) : cnt p n ≤ n := by
  induction n with
  | zero => exact Nat.le_refl 0
  | succ n ih => show cnt p n + _ ≤ n + 1; split <;> omega
theorem cnt_congr {p q : Nat → Bool} {n : Nat} (h : ∀ i, i < n → p i = q i) : cnt p n = cnt q n := by
  induction n with
  | zero => rfl
  | succ n ih => show cnt p n + _ = cnt q n + _; rw [ih (fun i hi => h i (by omega)), h n (by omega)]
theorem Inv_st {g : Mem} (h : Inv g) (v : Int32) : Inv (up (up g 0 10 v) 61 3 v) := by
  obtain ⟨h1, h2, h3, h4, h5, h6, h7, h8⟩ := h
  refine ⟨?_, ?_, ?_, ?_, ?_, ?_, ?_, ?_⟩ <;> simp [up_a, upd_a] <;> first | assumption | exact h3.2
theorem E_trace {g : Mem} (h : Inv g) (x : Int32) : Both g (fun g => fX6_trace x g) (fun g => fX7_trace x g) := by
  obtain ⟨q, hq, e1, e2, h4⟩ := h.2.2.2.2.2.2.2
  rcases pk_ix x (n := q) (by omega) with hx | hx | ⟨j, hj, rfl⟩
  · refine ⟨-1000000, g, g, ?_, ?_, h⟩
    · simp [fX6_trace, fX1_left, hx, cl_s]
    · simp only [fX7_trace, e2]
      rw [inC_f (by omega) (Or.inl hx), cl_s, if_pos rfl]
  · refine ⟨-1000000, g, g, ?_, ?_, h⟩
    · simp only [fX6_trace, fX1_left, e1, if_pos hx, cl_s]
      by_cases h0 : x < 0
      · simp [h0, cl_s]
      · simp [h0, cl_s]
    · simp only [fX7_trace, e2]
      rw [inC_f (by omega) (Or.inr hx), cl_s, if_pos rfl]
  · refine ⟨g 59 j, g, g, ?_, ?_, h⟩
    · simp only [fX6_trace, fX1_left, e1, if_neg (nI_pos (show j < 2 ^ 31 by omega)), if_neg (nI_ge hj (by omega)), al_nI (show j < 16 by omega) (by omega), cl_s]
    · simp only [fX7_trace, e2]
      rw [inC_t (by omega) hj, cl_s, if_neg (by decide), al_nI (by omega) (by omega), h4 j hj]
theorem E_feed {g : Mem} (h : Inv g) (x : Int32) : Both g (fun g => fX6_feed x g) (fun g => fX7_feed x g) := by
  obtain ⟨h1, ⟨q, hq, e1, e2, e3, e4⟩, h3⟩ := id h
  have bad : (x < 0 ∨ nI 256 ≤ x) → Both g (fun g => fX6_feed x g) (fun g => fX7_feed x g) := fun hx => by
    refine ⟨-1000001, g, g, ?_, ?_, h⟩
    · simp only [fX6_feed]
      rw [show (256 : Int32) = nI 256 from rfl, below_f hx, cl_s, if_pos rfl]
    · simp only [fX7_feed]
      rw [show (255 : Int32) = nI 255 from rfl, inN_f (by omega) hx, cl_s, if_pos rfl]
  rcases pk_ix x (n := 256) (by omega) with hx | hx | ⟨c, hc, rfl⟩
  · exact bad (Or.inl hx)
  · exact bad (Or.inr hx)
  · by_cases hf : q = 120
    · subst hf
      refine ⟨-1000003, g, g, ?_, ?_, h⟩
      · simp only [fX6_feed]
        rw [show (256 : Int32) = nI 256 from rfl, below_t hc (by omega), cl_s, if_neg (by decide)]
        simp only [fX5_add, e1]
        rw [if_neg (by decide), cl_s]
      · simp only [fX7_feed]
        rw [show (255 : Int32) = nI 255 from rfl, inN_t (by omega) (by omega), cl_s, if_neg (by decide), e2, if_pos (by decide)]
    · refine ⟨nI (q + 1), up (up g 6 q (nI c)) 5 1 (nI (q + 1)), up (up (up (up g 6 q (nI c)) 5 1 (nI (q + 1))) 65 q (nI c)) 61 4 (nI (q + 1)), ?_, ?_, ?_⟩
      · simp only [fX6_feed]
        rw [show (256 : Int32) = nI 256 from rfl, below_t hc (by omega), cl_s, if_neg (by decide)]
        simp only [fX5_add, e1]
        rw [show (120 : Int32) = nI 120 from rfl, if_pos (nI_lt (by omega) (by omega)), as_nI (by omega) (by omega)]
        simp [pf_e, up_a, upd_a, e1, nI_1, cl_s]
      · simp only [fX7_feed]
        rw [show (255 : Int32) = nI 255 from rfl, inN_t (by omega) (by omega), cl_s, if_neg (by decide)]
        have e2' : (up (up g 6 q (nI c)) 5 1 (nI (q + 1))) 61 4 = nI q := by simp [up_a, upd_a, e2]
        rw [e2', show (120 : Int32) = nI 120 from rfl, if_neg (by rw [nI_eq (by omega) (by omega)]; omega), as_nI (by omega) (by omega)]
        simp [pf_e, up_a, upd_a, e2, nI_1]
      · obtain ⟨h1, h2, h3, h4, h5, h6, h7, h8⟩ := h
        refine ⟨?_, ?_, ?_, ?_, ?_, ?_, ?_, ?_⟩ <;> simp [up_a, upd_a] <;> try assumption
        refine ⟨q + 1, by omega, rfl, rfl, fun j hj => ?_, fun j hj => ?_⟩
        · simp only [upd_a]; split
          · rfl
          · exact e3 j hj
        · simp only [upd_a]; split
          · exact ⟨c, hc, rfl⟩
          · exact e4 j hj
theorem E_drop {g : Mem} (h : Inv g) (x : Int32) : Both g (fun g => fX6_drop x g) (fun g => fX7_drop x g) := by
  have bad : (x < 0 ∨ nI 8 ≤ x) → Both g (fun g => fX6_drop x g) (fun g => fX7_drop x g) := fun hx => by
    refine ⟨-1000001, g, g, ?_, ?_, h⟩
    · simp only [fX6_drop]
      rw [show (8 : Int32) = nI 8 from rfl, below_f hx, cl_s, if_pos rfl]
    · simp only [fX7_drop]
      rw [isRow_f hx, cl_s, if_pos rfl]
  rcases pk_ix x (n := 8) (by omega) with hx | hx | ⟨j, hj, rfl⟩
  · exact bad (Or.inl hx)
  · exact bad (Or.inr hx)
  · obtain ⟨⟨n, hn, s1, s2⟩, hw⟩ := h.1.1 j hj
    rcases hw with ⟨w1, w2⟩ | ⟨k, hk, w1, w2⟩
    · refine ⟨-1000011, up g 0 10 1, up (up g 0 10 1) 61 3 1, ?_, ?_, Inv_st h 1⟩
      · simp only [fX6_drop, fX4_isMissing]
        rw [show (8 : Int32) = nI 8 from rfl, below_t hj (by omega), cl_s, if_neg (by decide), al_nI hj (by omega), w1, if_pos rfl, cl_s, if_neg (by decide), found_e, cl_s]
        rfl
      · simp only [fX7_drop]
        rw [isRow_t hj, cl_s, if_neg (by decide), al_nI hj (by omega)]
        have : (up g 0 10 1) 62 j = -1 := by simp [up_a, w2]
        rw [this, if_neg (by decide), finds_e, cl_s]
        rfl
    · have hw0 : ¬ nI (8 * 2 ^ k) = 0 := by
        rcases (show k = 0 ∨ k = 1 ∨ k = 2 by omega) with rfl | rfl | rfl <;> decide
      refine ⟨nI n, up (up g 2 j 0) 0 10 0, up (up (up (up g 2 j 0) 0 10 0) 62 j (-1)) 61 3 0, ?_, ?_, ?_⟩
      · simp only [fX6_drop, fX4_isMissing, fX4_lose]
        rw [show (8 : Int32) = nI 8 from rfl, below_t hj (by omega), cl_s, if_neg (by decide), al_nI hj (by omega), w2, if_neg hw0, cl_s, if_pos rfl, as_nI hj (by omega), al_nI hj (by omega), cl_s, clean_e, cl_s]
        simp [up_a, s1]
      · simp only [fX7_drop]
        rw [isRow_t hj, cl_s, if_neg (by decide), al_nI hj (by omega)]
        have : (up (up g 2 j 0) 0 10 0) 62 j = nI k := by simp [up_a, w1]
        rw [this, if_pos (nI_pos' (by omega)), as_nI hj (by omega), al_nI hj (by omega), done_e, cl_s]
        simp [up_a, s2]
      · obtain ⟨h1, h2, h3, h4, h5, h6, h7, h8⟩ := h
        refine ⟨?_, ?_, ?_, ?_, ?_, ?_, ?_, ?_⟩ <;> simp [up_a, upd_a] <;> try first | assumption | exact h3.2
        refine ⟨fun i hi => ⟨(h1.1 i hi).1, ?_⟩, h1.2⟩
        by_cases hij : i = j
        · left; simp [upd_a, hij]
        · simp only [upd_a, if_neg hij]; exact (h1.1 i hi).2
