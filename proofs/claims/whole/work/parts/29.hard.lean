theorem add_m1 (x : Int32) : x + (-1) = x - 1 := by rw [Int32.sub_eq_add_neg]
theorem pcn1 : ∀ x, x < 256 → pcn x = 1 → x ≠ 0 ∧ x = 2 ^ lsb 8 x ∧ lsb 8 x < 8 := by decide +kernel
theorem and_pow : ∀ k, k < 256 → ∀ t, t < 8 → ((2 ^ t &&& k = 0) ↔ k.testBit t = false) := by decide +kernel
def fsc (tr : Nat → Nat) (k T c : Nat) : Nat := fset tr k (c / 32) (c % 32) T
def okc (tr : Nat → Nat) (k T c : Nat) : Bool := decide (c / 32 &&& c % 32 = 0) && decide (pcn (fsc tr k T c) = 1)
theorem fsc_lt {tr : Nat → Nat} {k T c : Nat} (hT : T ≤ 8) : fsc tr k T c < 256 := by
  have h1 := fset_lt tr k (c / 32) (c % 32) T
  have h2 : (2 : Nat) ^ T ≤ 2 ^ 8 := Nat.pow_le_pow_right (by omega) hT
  unfold fsc; omega
def fstI (p : Nat → Bool) : Nat → Int32
  | 0 => -1000000
  | n + 1 => if cnt p n = 0 ∧ p n = true then nI n else fstI p n
def cS (p : Nat → Bool) : Nat → Nat
  | 0 => 0
  | d + 1 => cS p d + if p (1023 - d) then 1 else 0
def fS (p : Nat → Bool) : Nat → Int32
  | 0 => -1000000
  | d + 1 => if p (1023 - d) then nI (1023 - d) else fS p d
theorem both_ways (p : Nat → Bool) : ∀ d, d ≤ 1024 → cnt p (1024 - d) + cS p d = cnt p 1024 ∧ fstI p 1024 = if cnt p (1024 - d) = 0 then fS p d else fstI p (1024 - d) := by
  intro d
  induction d with
  | zero =>
    intro _
    rw [Nat.sub_zero]
    refine ⟨Nat.add_zero _, ?_⟩
    rw [show fS p 0 = -1000000 from rfl]
    by_cases h : cnt p 1024 = 0
    · rw [if_pos h]
      have : ∀ n, cnt p n = 0 → fstI p n = -1000000 := by
        intro n
        induction n with
        | zero => intro _; rfl
        | succ n ih =>
          intro hc
          have hc : cnt p n + (if p n then 1 else 0) = 0 := hc
          by_cases hp : p n = true
          · rw [if_pos hp] at hc; omega
          · show (if cnt p n = 0 ∧ p n = true then nI n else fstI p n) = _
            rw [if_neg (fun q => hp q.2)]
            exact ih (by omega)
      exact this 1024 h
    · rw [if_neg h]
  | succ d ih =>
    intro hd
    obtain ⟨h1, h2⟩ := ih (by omega)
    have e : 1024 - d = (1023 - d) + 1 := by omega
    have e' : 1024 - (d + 1) = 1023 - d := by omega
    rw [e] at h1 h2
    rw [e']
    have hc : cnt p (1023 - d + 1) = cnt p (1023 - d) + if p (1023 - d) then 1 else 0 := rfl
    have hf : fstI p (1023 - d + 1) = if cnt p (1023 - d) = 0 ∧ p (1023 - d) = true then nI (1023 - d) else fstI p (1023 - d) := rfl
    have hs : fS p (d + 1) = if p (1023 - d) then nI (1023 - d) else fS p d := rfl
    have hcs : cS p (d + 1) = cS p d + if p (1023 - d) then 1 else 0 := rfl
    refine ⟨by rw [hcs, ← h1, hc]; omega, ?_⟩
    rw [h2, hs, hf, hc]
    by_cases hp : p (1023 - d) = true
    · simp only [hp, if_true, and_true]
      rw [if_neg (by omega)]
    · simp only [hp]
      by_cases hz : cnt p (1023 - d) = 0
      · simp [hz]
      · simp [hz]
section HARD
variable {T Q S : Nat} {tr F K : Nat → Nat} {sh us : Nat} {g : Mem}
theorem only_e (C : CourtN T Q S tr (g 7) (g 8) (g 9) (g 10) (g 11) (g 12) (g 13) (g 14) (g 15) (g 16) (g 66)) {k c : Nat} (hk : 1 ≤ k ∧ k ≤ 5) (hc : c < 1024) : fX3_onlyThing (nI k) (nI c) g = some (if okc tr k T c then lsI (fsc tr k T c) else -1000000, g) := by
  obtain ⟨hb, -, -, -, h3, -, -, -, -, ht, -⟩ := C
  have hf := fsc_lt (tr := tr) (k := k) (c := c) hb.1
  have e1 : nI c >>> ((5 : Int32) &&& 31) = nI (c / 32) := shr_nI (k := 5) (by omega) (by omega)
  have e2 : nI c &&& (31 : Int32) = nI (c % 32) := by
    show nI c &&& nI 31 = _
    rw [fa_and, show (31 : Nat) = 2 ^ 5 - 1 from rfl, Nat.and_two_pow_sub_one_eq_mod]
  have a1 : c / 32 &&& c % 32 ≤ c / 32 := Nat.and_le_left
  unfold fX3_onlyThing
  rw [lt_e, lt_e, e1, e2, fa_and, tf6 (c := 7) (tr := tr) hb.1 h3.1 (fun i hi => ⟨(ht i hi).1, (ht i hi).2.1⟩) hk (by omega) (by omega), cl_s]
  show (if nI (c / 32 &&& c % 32) = 0 then cl (fJ6_bitCount_0f7a4 (nI (fsc tr k T c)) g) fun r5 g6 => (if r5 = (1 : Int32) then (cl (fX2_least (nI (fsc tr k T c)) g6) fun r7 g8 => (some (r7, g8))) else (some ((-1000000 : Int32), g6))) else _) = _
  rw [bc_e hf, cl_s, least_e hf, cl_s]
  have c1 : (nI (c / 32 &&& c % 32) = 0) ↔ (c / 32 &&& c % 32 = 0) := by rw [← nI_0, nI_eq (by omega) (by omega)]
  have c2 : (nI (pcn (fsc tr k T c)) = 1) ↔ (pcn (fsc tr k T c) = 1) := nI_eq (b := 1) (by have := @pcn_le (fsc tr k T c); omega) (by omega)
  simp only [c1, c2, okc]
  by_cases d1 : c / 32 &&& c % 32 = 0 <;> by_cases d2 : pcn (fsc tr k T c) = 1 <;> simp [d1, d2]
theorem known_e (V : View T Q S F K sh us g) {s t : Nat} (hs : s < S) (ht : t < 31) : fX2_isKnown 7 (nI s) (nI t) g = some (if (K s).testBit t then 1 else 0, g) := by
  have hb := V.1
  have h8 := V.p8
  have hK := V.2.2.2.2.2.1 s hs
  unfold fX2_isKnown
  rw [al_nI (by omega) (by omega), hK.2.1, bit_nI (by omega) (by omega)]
  by_cases h0 : (K s).testBit t <;> simp [h0]
theorem against6 (C : CourtN T Q S tr (g 7) (g 8) (g 9) (g 10) (g 11) (g 12) (g 13) (g 14) (g 15) (g 16) (g 66)) (V : View T Q S F K sh us g) {s k : Nat} (hs : s < S) (hk : 1 ≤ k ∧ k ≤ 5) (l4 : Int32) (KK : Int32 → Int32 → Int32 → Mem → Option (Int32 × Mem)) :
    fX3_riddleAgainst_L10 (nI s) (nI k) l4 KK FU (-1000000) 0 0 g = KK (fstI (fun c => okc tr k T c && !(K s).testBit (lsb 8 (fsc tr k T c))) 1024) (nI (cnt (fun c => okc tr k T c && !(K s).testBit (lsb 8 (fsc tr k T c))) 1024)) (nI 1024) g := by
  have hb := V.1
  generalize hP : (fun c => okc tr k T c && !(K s).testBit (lsb 8 (fsc tr k T c))) = P
  refine loopI (fun n i (st : Int32 × Int32) => fX3_riddleAgainst_L10 (nI s) (nI k) l4 KK n st.1 st.2 (nI i) g) _ (fun i st => st = (fstI P i, nI (cnt P i))) 1024 ?_ ?_ 1024 FU 0 (-1000000, 0) (by omega) (by rw [FU_e]; omega) rfl
  · rintro n st rfl
    show fX3_riddleAgainst_L10 (nI s) (nI k) l4 KK (n + 1) _ _ (nI 1024) g = _
    rw [fX3_riddleAgainst_L10, if_pos (by decide)]
  · rintro n i st hi rfl
    refine ⟨_, rfl, ?_⟩
    show fX3_riddleAgainst_L10 (nI s) (nI k) l4 KK (n + 1) (fstI P i) (nI (cnt P i)) (nI i) g = fX3_riddleAgainst_L10 (nI s) (nI k) l4 KK n (if cnt P i = 0 ∧ P i = true then nI i else fstI P i) (nI (cnt P i + if P i then 1 else 0)) (nI (i + 1)) g
    have hle := cnt_le P i
    have hz : (nI (cnt P i) = 0) ↔ cnt P i = 0 := by rw [← nI_0, nI_eq (by omega) (by omega)]
    have hPi : P i = (okc tr k T i && !(K s).testBit (lsb 8 (fsc tr k T i))) := by rw [← hP]
    have hf := fsc_lt (tr := tr) (k := k) (c := i) hb.1
    rw [fX3_riddleAgainst_L10, show (1024 : Int32) = nI 1024 from rfl, if_neg (nI_ge hi (by omega)), only_e C hk hi, cl_s, nI_1, nI_1]
    by_cases ho : okc tr k T i
    · have hp1 : pcn (fsc tr k T i) = 1 := by unfold okc at ho; simp at ho; exact ho.2
      obtain ⟨x0, x1, x2⟩ := pcn1 _ hf hp1
      have el : lsI (fsc tr k T i) = nI (lsb 8 (fsc tr k T i)) := by unfold lsI; rw [if_neg x0]
      rw [if_pos ho, if_neg (fun q => x0 ((none_ne hf).mp q)), el, known_e V hs (by omega), cl_s]
      by_cases hkn : (K s).testBit (lsb 8 (fsc tr k T i))
      · have : P i = false := by rw [hPi, ho, hkn]; rfl
        simp [hkn, this]
      · have : P i = true := by rw [hPi, ho]; simp [hkn]
        simp only [this, hkn, hz]
        by_cases hc : cnt P i = 0
        · simp [hc]
        · simp [hc]
    · have : P i = false := by rw [hPi]; simp [ho]
      simp [ho, this]
theorem for7 (C : CourtN T Q S tr (g 7) (g 8) (g 9) (g 10) (g 11) (g 12) (g 13) (g 14) (g 15) (g 16) (g 66)) (V : View T Q S F K sh us g) {s k : Nat} (hs : s < S) (hk : 1 ≤ k ∧ k ≤ 5) (l3 : Int32) (KK : Int32 → Int32 → Int32 → Mem → Option (Int32 × Mem)) :
    fX7_riddleFor_L41 (nI s) (nI k) l3 KK FU 0 (-1000000) 1023 g = KK (nI (cS (fun c => okc tr k T c && !(K s).testBit (lsb 8 (fsc tr k T c))) 1024)) (fS (fun c => okc tr k T c && !(K s).testBit (lsb 8 (fsc tr k T c))) 1024) (-1) g := by
  have hb := V.1
  have h8 := V.p8
  have hK := V.2.2.2.2.2.1 s hs
  obtain ⟨-, -, -, -, h3, -, -, -, -, ht, -⟩ := C
  generalize hP : (fun c => okc tr k T c && !(K s).testBit (lsb 8 (fsc tr k T c))) = P
  refine loopI (fun n i (st : Int32 × Int32) => fX7_riddleFor_L41 (nI s) (nI k) l3 KK n st.1 st.2 (nI (1024 - i) - 1) g) _ (fun i st => st = (nI (cS P i), fS P i)) 1024 ?_ ?_ 1024 FU 0 (0, -1000000) (by omega) (by rw [FU_e]; omega) rfl
  · rintro n st rfl
    show fX7_riddleFor_L41 (nI s) (nI k) l3 KK (n + 1) (nI (cS P 1024)) (fS P 1024) (nI 0 - 1) g = _
    rw [fX7_riddleFor_L41, if_pos (by decide)]
    rfl
  · rintro n i st hi rfl
    refine ⟨_, rfl, ?_⟩
    show fX7_riddleFor_L41 (nI s) (nI k) l3 KK (n + 1) (nI (cS P i)) (fS P i) (nI (1024 - i) - 1) g = fX7_riddleFor_L41 (nI s) (nI k) l3 KK n (nI (cS P i + if P (1023 - i) then 1 else 0)) (if P (1023 - i) then nI (1023 - i) else fS P i) (nI (1024 - (i + 1)) - 1) g
    have ex : nI (1024 - i) - 1 = nI (1023 - i) := by
      show nI (1024 - i) - nI 1 = _
      rw [pk_sub (by omega)]
      congr 1; omega
    rw [ex, show 1024 - (i + 1) = 1023 - i by omega, ← add_m1]
    generalize hc : 1023 - i = c
    have hc1 : c < 1024 := by omega
    have hf := fsc_lt (tr := tr) (k := k) (c := c) hb.1
    have ed : nI c / (32 : Int32) = nI (c / 32) := pk_div (d := 32) (by omega) (by omega) (by omega)
    have er : irm (nI c) (32 : Int32) = nI (c % 32) := pk_rem (d := 32) (by omega) (by omega) (by omega)
    have a1 : c / 32 &&& c % 32 ≤ c / 32 := Nat.and_le_left
    have c1 : (nI (c / 32 &&& c % 32) = 0) ↔ (c / 32 &&& c % 32 = 0) := by rw [← nI_0, nI_eq (by omega) (by omega)]
    have c2 : (nI (pcn (fsc tr k T c)) = 1) ↔ (pcn (fsc tr k T c) = 1) := nI_eq (b := 1) (by have := @pcn_le (fsc tr k T c); omega) (by omega)
    have a2 : fsc tr k T c &&& K s ≤ fsc tr k T c := Nat.and_le_left
    have c3 : (nI (fsc tr k T c &&& K s) = 0) ↔ (fsc tr k T c &&& K s = 0) := by rw [← nI_0, nI_eq (by omega) (by omega)]
    have hPc : P c = (okc tr k T c && !(K s).testBit (lsb 8 (fsc tr k T c))) := by rw [← hP]
    have e32 : ∀ X, nz (32 : Int32) X = X := fun X => by unfold nz; rw [if_neg (by decide)]
    rw [fX7_riddleFor_L41, if_neg (nI_pos (by omega)), e32, lt_e, e32, lt_e, ed, er, tf7 hb.1 h3.2 (fun j hj => ⟨(ht j hj).1, (ht j hj).2.2⟩) hk (by omega) (by omega), cl_s, show fset tr k (c / 32) (c % 32) T = fsc tr k T c from rfl, bits_e hf, cl_s, show (34 : Int32) = nI 34 from rfl, nI_add, lit66 g (34 + s) (by omega), hK.2.2, fa_and, fa_and]
    simp only [lt_e, c1, c2, c3, nI_1, show ∀ a, nI a + (0 : Int32) = nI a from fun a => nI_add a 0]
    by_cases d1 : c / 32 &&& c % 32 = 0
    · by_cases d2 : pcn (fsc tr k T c) = 1
      · obtain ⟨x0, x1, x2⟩ := pcn1 _ hf d2
        have ho : okc tr k T c = true := by unfold okc; simp [d1, d2]
        have hiff : (fsc tr k T c &&& K s = 0) ↔ (K s).testBit (lsb 8 (fsc tr k T c)) = false := by
          have := and_pow (K s) (by omega) _ x2
          rw [← x1] at this
          exact this
        by_cases d3 : (K s).testBit (lsb 8 (fsc tr k T c))
        · have hp : P c = false := by rw [hPc, ho, d3]; rfl
          simp [d1, d2, hiff, d3, hp]
        · have hp : P c = true := by rw [hPc, ho]; simp [d3]
          simp [d1, d2, hiff, d3, hp]
      · have hp : P c = false := by rw [hPc]; simp [okc, d2]
        simp [d1, d2, hp]
    · have hp : P c = false := by rw [hPc]; simp [okc, d1]
      simp [d1, hp]
end HARD
theorem sort_f {x : Int32} (h : x ≤ 0 ∨ nI 6 ≤ x) (g : Mem) : fX2_isSort x g = some (0, g) := by
  unfold fX2_isSort
  by_cases h0 : x ≤ 0
  · rw [if_pos h0]
  · rw [if_neg h0, show (6 : Int32) = nI 6 from rfl, if_pos (h.resolve_left h0)]
theorem sort_t {k : Nat} (h : 1 ≤ k ∧ k ≤ 5) (g : Mem) : fX2_isSort (nI k) g = some (1, g) := by
  unfold fX2_isSort
  rw [if_neg (nI_nle (by omega) (by omega)), show (6 : Int32) = nI 6 from rfl, if_neg (nI_ge (by omega) (by omega))]
theorem in15_f {x : Int32} (h : x ≤ 0 ∨ nI 6 ≤ x) (g : Mem) : fX7_in x 1 5 g = some (0, g) := by
  refine in_f ?_ g
  rcases h with h | h
  · left
    rw [q_le] at h; rw [q_lt]
    have e0 : (0 : Int32).toInt = 0 := by decide
    have e1 : (1 : Int32).toInt = 1 := by decide
    omega
  · right
    rw [q_le, nI_toInt (by omega)] at h; rw [q_lt]
    have e1 : (5 : Int32).toInt = 5 := by decide
    omega
theorem in15_t {k : Nat} (h : 1 ≤ k ∧ k ≤ 5) (g : Mem) : fX7_in (nI k) 1 5 g = some (1, g) := in_t (show ¬ nI k < nI 1 from nI_nlt h.1 (by omega)) (show ¬ nI 5 < nI k from nI_nlt h.2 (by omega)) g
theorem sort_ix (x : Int32) : (x ≤ 0 ∨ nI 6 ≤ x) ∨ ∃ k : Nat, (1 ≤ k ∧ k ≤ 5) ∧ x = nI k := by
  rcases pk_ix x (n := 6) (by omega) with hx | hx | ⟨k, hk, rfl⟩
  · left; left
    rw [q_lt] at hx; rw [q_le]; omega
  · left; right; exact hx
  · by_cases h0 : k = 0
    · subst h0; left; left; decide
    · right; exact ⟨k, by omega, rfl⟩
theorem E_riddleFor {g : Mem} (h : Inv g) (x y z : Int32) : Both g (fun g => fX6_riddleFor x y z g) (fun g => fX7_riddleFor x y z g) := by
  obtain ⟨T, Q, S, tr, F, K, sh, us, C, V⟩ := Inv_cv h
  have hb := V.1
  have bad : (x < 0 ∨ nI S ≤ x) → Both g (fun g => fX6_riddleFor x y z g) (fun g => fX7_riddleFor x y z g) := fun hx => by
    refine ⟨-1000001, g, g, ?_, ?_, h⟩
    · simp only [fX6_riddleFor]
      rw [V.2.2.2.1.1, below_f hx, cl_s, if_pos rfl]
    · simp only [fX7_riddleFor]
      rw [isS_f V hx rfl, cl_s, if_pos rfl]
  rcases pk_ix x (n := S) (by omega) with hx | hx | ⟨s, hs, rfl⟩
  · exact bad (Or.inl hx)
  · exact bad (Or.inr hx)
  rcases sort_ix y with hy | ⟨k, hk, rfl⟩
  · refine ⟨-1000001, g, g, ?_, ?_, h⟩
    · simp only [fX6_riddleFor]
      rw [V.2.2.2.1.1, below_t hs (by omega), cl_s, if_neg (by decide), sort_f hy, cl_s, if_pos rfl]
    · simp only [fX7_riddleFor]
      rw [isS_t V hs rfl, cl_s, if_neg (by decide), in15_f hy, cl_s, if_pos rfl]
  have bad : (z < 0 ∨ nI 2 ≤ z) → Both g (fun g => fX6_riddleFor (nI s) (nI k) z g) (fun g => fX7_riddleFor (nI s) (nI k) z g) := fun hx => by
    refine ⟨-1000001, g, g, ?_, ?_, h⟩
    · simp only [fX6_riddleFor]
      rw [V.2.2.2.1.1, below_t hs (by omega), cl_s, if_neg (by decide), sort_t hk, cl_s, if_neg (by decide), show (2 : Int32) = nI 2 from rfl, below_f hx, cl_s, if_pos rfl]
    · simp only [fX7_riddleFor]
      rw [isS_t V hs rfl, cl_s, if_neg (by decide), in15_t hk, cl_s, if_neg (by decide), show (1 : Int32) = nI 1 from rfl, inN_f (by omega) hx, cl_s, if_pos rfl]
  rcases pk_ix z (n := 2) (by omega) with hx | hx | ⟨w, hw, rfl⟩
  · exact bad (Or.inl hx)
  · exact bad (Or.inr hx)
  have hbw := both_ways (fun c => okc tr k T c && !(K s).testBit (lsb 8 (fsc tr k T c))) 1024 (by omega)
  have ec : cS (fun c => okc tr k T c && !(K s).testBit (lsb 8 (fsc tr k T c))) 1024 = cnt (fun c => okc tr k T c && !(K s).testBit (lsb 8 (fsc tr k T c))) 1024 := by
    have := hbw.1
    rw [show 1024 - 1024 = 0 from rfl] at this
    have h0 : cnt (fun c => okc tr k T c && !(K s).testBit (lsb 8 (fsc tr k T c))) 0 = 0 := rfl
    omega
  have ef : fstI (fun c => okc tr k T c && !(K s).testBit (lsb 8 (fsc tr k T c))) 1024 = fS (fun c => okc tr k T c && !(K s).testBit (lsb 8 (fsc tr k T c))) 1024 := by
    have := hbw.2
    rw [show 1024 - 1024 = 0 from rfl, if_pos (show cnt (fun c => okc tr k T c && !(K s).testBit (lsb 8 (fsc tr k T c))) 0 = 0 from rfl)] at this
    exact this
  have e6 : fX6_riddleFor (nI s) (nI k) (nI w) g = if nI w = 0 then some (fS (fun c => okc tr k T c && !(K s).testBit (lsb 8 (fsc tr k T c))) 1024, g) else some (nI (cnt (fun c => okc tr k T c && !(K s).testBit (lsb 8 (fsc tr k T c))) 1024), g) := by
    simp only [fX6_riddleFor, fX3_riddleAgainst]
    rw [V.2.2.2.1.1, below_t hs (by omega), cl_s, if_neg (by decide), sort_t hk, cl_s, if_neg (by decide), show (2 : Int32) = nI 2 from rfl, below_t hw (by omega), cl_s, if_neg (by decide), against6 C V hs hk, ef]
    by_cases w0 : nI w = 0
    · rw [if_pos w0]; rfl
    · rw [if_neg w0]; rfl
  have e7 : fX7_riddleFor (nI s) (nI k) (nI w) g = if nI w = 0 then some (fS (fun c => okc tr k T c && !(K s).testBit (lsb 8 (fsc tr k T c))) 1024, g) else some (nI (cnt (fun c => okc tr k T c && !(K s).testBit (lsb 8 (fsc tr k T c))) 1024), g) := by
    simp only [fX7_riddleFor]
    rw [isS_t V hs rfl, cl_s, if_neg (by decide), in15_t hk, cl_s, if_neg (by decide), show (1 : Int32) = nI 1 from rfl, inN_t (by omega) (by omega), cl_s, if_neg (by decide), for7 C V hs hk, ec]
  by_cases w0 : nI w = 0
  · rw [if_pos w0] at e6 e7
    exact ⟨_, g, g, e6, e7, h⟩
  · rw [if_neg w0] at e6 e7
    exact ⟨_, g, g, e6, e7, h⟩
/-! HARD -/
def hrd (ok : Nat → Bool) (w : Nat → Nat) : Nat → Int32 × Int32
  | 0 => (-1000000, -1000000)
  | n + 1 => if ok n = true ∧ ¬ nI (w n) ≤ (hrd ok w n).2 then (nI n, nI (w n)) else hrd ok w n
theorem hrd_ge (ok : Nat → Bool) (w : Nat → Nat) (hw : ∀ i, w i ≤ 4) (n : Nat) : (-1000000 : Int32) ≤ (hrd ok w n).2 := by
  induction n with
  | zero => exact (by decide : (-1000000 : Int32) ≤ -1000000)
  | succ n ih =>
    show (-1000000 : Int32) ≤ (if ok n = true ∧ ¬ nI (w n) ≤ (hrd ok w n).2 then (nI n, nI (w n)) else hrd ok w n).2
    split
    · show (-1000000 : Int32) ≤ nI (w n)
      have := hw n
      rw [q_le, nI_toInt (by omega)]
      have e : (-1000000 : Int32).toInt = -1000000 := by decide
      omega
    · exact ih
section HARD2
variable {T Q S : Nat} {tr F K : Nat → Nat} {sh us : Nat} {g : Mem}
theorem comes_e {s : Nat} (hs : s < 4) (g : Mem) : fX2_comes 7 (nI s) g = some (if g 14 s = 0 then 1 else 0, g) := by
  unfold fX2_comes
  rw [al_nI hs (by omega)]
  by_cases h0 : g 14 s = 0 <;> simp [h0]
theorem coming6 (V : View T Q S F K sh us g) {t : Nat} (ht : t < 31) : fX3_comingWithout (nI t) g = some (nI (cnt (fun s => decide (g 14 s = 0) && !(K s).testBit t) S), g) := by
  have hb := V.1
  unfold fX3_comingWithout
  refine loopI (fun n i s => fX3_comingWithout_L4 (nI t) (fun l5 l6 g7 => some (l5, g7)) n s (nI i) g) _ (fun i s => s = nI (cnt (fun s => decide (g 14 s = 0) && !(K s).testBit t) i)) S ?_ ?_ S FU 0 0 (by omega) (by rw [FU_e]; omega) rfl
  · rintro n s rfl
    show fX3_comingWithout_L4 (nI t) (fun l5 l6 g7 => some (l5, g7)) (n + 1) _ (nI S) g = _
    rw [fX3_comingWithout_L4, V.2.2.2.1.1, if_pos (nI_le (Nat.le_refl S) (by omega))]
  · rintro n i s hi rfl
    refine ⟨_, rfl, ?_⟩
    show fX3_comingWithout_L4 (nI t) (fun l5 l6 g7 => some (l5, g7)) (n + 1) _ (nI i) g = fX3_comingWithout_L4 (nI t) (fun l5 l6 g7 => some (l5, g7)) n (nI (cnt (fun s => decide (g 14 s = 0) && !(K s).testBit t) i + if (decide (g 14 i = 0) && !(K i).testBit t) then 1 else 0)) (nI (i + 1)) g
    rw [fX3_comingWithout_L4, V.2.2.2.1.1, if_neg (nI_ge hi (by omega)), comes_e (by omega), cl_s, known_e V hi ht, cl_s, nI_1, nI_1]
    by_cases h0 : g 14 i = 0 <;> by_cases h1 : (K i).testBit t <;> simp [h0, h1]
theorem hard_L97 (C : CourtN T Q S tr (g 7) (g 8) (g 9) (g 10) (g 11) (g 12) (g 13) (g 14) (g 15) (g 16) (g 66)) (V : View T Q S F K sh us g) {x : Nat} (hx : x < 256) (hx1 : pcn x = 1) (l1 l2 l3 l4 l5 l6 l7 : Int32) (KK : Int32 → Int32 → Mem → Option (Int32 × Mem)) :
    fX7_hard_L97 l1 l2 l3 l4 l5 l6 l7 (nI x) KK FU 0 0 g = KK (nI (cnt (fun s => decide (g 14 s = 0) && !(K s).testBit (lsb 8 x)) S)) (nI S) g := by
  have hb := V.1
  have h8 := V.p8
  have l5' : ∀ G, al g 66 50 (5 : Int32) G = G (g 66 5) := lit66 g 5 (by omega)
  obtain ⟨-, -, -, -, -, -, -, -, -, -, -, hS, -⟩ := C
  obtain ⟨x0, x1, x2⟩ := pcn1 x hx hx1
  refine loopI (fun n i s => fX7_hard_L97 l1 l2 l3 l4 l5 l6 l7 (nI x) KK n s (nI i) g) _ (fun i s => s = nI (cnt (fun s => decide (g 14 s = 0) && !(K s).testBit (lsb 8 x)) i)) S ?_ ?_ S FU 0 0 (by omega) (by rw [FU_e]; omega) rfl
  · rintro n s rfl
    show fX7_hard_L97 l1 l2 l3 l4 l5 l6 l7 (nI x) KK (n + 1) _ (nI S) g = _
    rw [fX7_hard_L97, l5', V.2.2.2.1.2, if_pos (nI_le (Nat.le_refl S) (by omega))]
  · rintro n i s hi rfl
    refine ⟨_, rfl, ?_⟩
    show fX7_hard_L97 l1 l2 l3 l4 l5 l6 l7 (nI x) KK (n + 1) _ (nI i) g = fX7_hard_L97 l1 l2 l3 l4 l5 l6 l7 (nI x) KK n (nI (cnt (fun s => decide (g 14 s = 0) && !(K s).testBit (lsb 8 x)) i + if (decide (g 14 i = 0) && !(K i).testBit (lsb 8 x)) then 1 else 0)) (nI (i + 1)) g
    have hK := V.2.2.2.2.2.1 i hi
    have a2 : x &&& K i ≤ x := Nat.and_le_left
    have c3 : (nI (x &&& K i) = 0) ↔ (K i).testBit (lsb 8 x) = false := by
      rw [← nI_0, nI_eq (by omega) (by omega)]
      have := and_pow (K i) (by omega) _ x2
      rw [← x1] at this
      exact this
    rw [fX7_hard_L97, l5', V.2.2.2.1.2, if_neg (nI_ge hi (by omega)), show (38 : Int32) = nI 38 from rfl, nI_add, lit66 g (38 + i) (by omega), (hS i hi).2.2.2.1, show (34 : Int32) = nI 34 from rfl, nI_add, lit66 g (34 + i) (by omega), hK.2.2, fa_and]
    simp only [lt_e, c3, nI_1, show ∀ a, nI a + (0 : Int32) = nI a from fun a => nI_add a 0]
    by_cases h0 : g 14 i = 0 <;> by_cases h1 : (K i).testBit (lsb 8 x) <;> simp [h0, h1]
theorem hard6 (C : CourtN T Q S tr (g 7) (g 8) (g 9) (g 10) (g 11) (g 12) (g 13) (g 14) (g 15) (g 16) (g 66)) (V : View T Q S F K sh us g) {k : Nat} (hk : 1 ≤ k ∧ k ≤ 5) (l3 : Int32) (KK : Int32 → Int32 → Int32 → Mem → Option (Int32 × Mem)) :
    fX3_hardest_L11 (nI k) l3 KK FU (-1000000) (-1000000) 0 g = KK (hrd (fun c => okc tr k T c) (fun c => cnt (fun s => decide (g 14 s = 0) && !(K s).testBit (lsb 8 (fsc tr k T c))) S) 1024).1 (hrd (fun c => okc tr k T c) (fun c => cnt (fun s => decide (g 14 s = 0) && !(K s).testBit (lsb 8 (fsc tr k T c))) S) 1024).2 (nI 1024) g := by
  have hb := V.1
  generalize hW : (fun c => cnt (fun s => decide (g 14 s = 0) && !(K s).testBit (lsb 8 (fsc tr k T c))) S) = w
  have hw : ∀ i, w i ≤ 4 := fun i => by rw [← hW]; exact Nat.le_trans (cnt_le _ _) hb.2.2
  generalize hO : (fun c => okc tr k T c) = ok
  refine loopI (fun n i (st : Int32 × Int32) => fX3_hardest_L11 (nI k) l3 KK n st.1 st.2 (nI i) g) _ (fun i st => st = hrd ok w i) 1024 ?_ ?_ 1024 FU 0 (-1000000, -1000000) (by omega) (by rw [FU_e]; omega) rfl
  · rintro n st rfl
    show fX3_hardest_L11 (nI k) l3 KK (n + 1) _ _ (nI 1024) g = _
    rw [fX3_hardest_L11, if_pos (by decide)]
  · rintro n i st hi rfl
    refine ⟨_, rfl, ?_⟩
    show fX3_hardest_L11 (nI k) l3 KK (n + 1) (hrd ok w i).1 (hrd ok w i).2 (nI i) g = fX3_hardest_L11 (nI k) l3 KK n (if ok i = true ∧ ¬ nI (w i) ≤ (hrd ok w i).2 then (nI i, nI (w i)) else hrd ok w i).1 (if ok i = true ∧ ¬ nI (w i) ≤ (hrd ok w i).2 then (nI i, nI (w i)) else hrd ok w i).2 (nI (i + 1)) g
    have hge := hrd_ge ok w hw i
    have hoi : ok i = okc tr k T i := by rw [← hO]
    have hwi : w i = cnt (fun s => decide (g 14 s = 0) && !(K s).testBit (lsb 8 (fsc tr k T i))) S := by rw [← hW]
    have hf := fsc_lt (tr := tr) (k := k) (c := i) hb.1
    rw [fX3_hardest_L11, show (1024 : Int32) = nI 1024 from rfl, if_neg (nI_ge hi (by omega)), only_e C hk hi, cl_s, if_pos hge, nI_1]
    by_cases ho : okc tr k T i = true
    · have hp1 : pcn (fsc tr k T i) = 1 := by unfold okc at ho; simp at ho; exact ho.2
      obtain ⟨x0, x1, x2⟩ := pcn1 _ hf hp1
      have el : lsI (fsc tr k T i) = nI (lsb 8 (fsc tr k T i)) := by unfold lsI; rw [if_neg x0]
      rw [if_pos ho, if_neg (fun q => x0 ((none_ne hf).mp q)), el, coming6 V (by omega), cl_s, ← hwi]
      by_cases hm : nI (w i) ≤ (hrd ok w i).2
      · rw [if_pos hm, if_neg (fun q => q.2 hm)]
      · rw [if_neg hm, if_pos ⟨by rw [hoi]; exact ho, hm⟩]
    · rw [if_neg ho, if_pos rfl, if_neg (fun q => ho (by rw [← hoi]; exact q.1))]
theorem hard7 (C : CourtN T Q S tr (g 7) (g 8) (g 9) (g 10) (g 11) (g 12) (g 13) (g 14) (g 15) (g 16) (g 66)) (V : View T Q S F K sh us g) {k : Nat} (hk : 1 ≤ k ∧ k ≤ 5) (l2 : Int32) (KK : Int32 → Int32 → Int32 → Mem → Option (Int32 × Mem)) :
    fX7_hard_L41 (nI k) l2 KK FU (-1000000) (-1000000) 0 g = KK (hrd (fun c => okc tr k T c) (fun c => cnt (fun s => decide (g 14 s = 0) && !(K s).testBit (lsb 8 (fsc tr k T c))) S) 1024).1 (hrd (fun c => okc tr k T c) (fun c => cnt (fun s => decide (g 14 s = 0) && !(K s).testBit (lsb 8 (fsc tr k T c))) S) 1024).2 (nI 1024) g := by
  have hb := V.1
  have h8 := V.p8
  have C' := C
  obtain ⟨-, -, -, -, h3, -, -, -, -, ht, -⟩ := C'
  generalize hW : (fun c => cnt (fun s => decide (g 14 s = 0) && !(K s).testBit (lsb 8 (fsc tr k T c))) S) = w
  generalize hO : (fun c => okc tr k T c) = ok
  refine loopI (fun n i (st : Int32 × Int32) => fX7_hard_L41 (nI k) l2 KK n st.1 st.2 (nI i) g) _ (fun i st => st = hrd ok w i) 1024 ?_ ?_ 1024 FU 0 (-1000000, -1000000) (by omega) (by rw [FU_e]; omega) rfl
  · rintro n st rfl
    show fX7_hard_L41 (nI k) l2 KK (n + 1) _ _ (nI 1024) g = _
    rw [fX7_hard_L41, if_pos (by decide)]
  · rintro n i st hi rfl
    refine ⟨_, rfl, ?_⟩
    show fX7_hard_L41 (nI k) l2 KK (n + 1) (hrd ok w i).1 (hrd ok w i).2 (nI i) g = fX7_hard_L41 (nI k) l2 KK n (if ok i = true ∧ ¬ nI (w i) ≤ (hrd ok w i).2 then (nI i, nI (w i)) else hrd ok w i).1 (if ok i = true ∧ ¬ nI (w i) ≤ (hrd ok w i).2 then (nI i, nI (w i)) else hrd ok w i).2 (nI (i + 1)) g
    have hoi : ok i = okc tr k T i := by rw [← hO]
    have hwi : w i = cnt (fun s => decide (g 14 s = 0) && !(K s).testBit (lsb 8 (fsc tr k T i))) S := by rw [← hW]
    have hf := fsc_lt (tr := tr) (k := k) (c := i) hb.1
    have ed : nI i / (32 : Int32) = nI (i / 32) := pk_div (d := 32) (by omega) (by omega) (by omega)
    have er : irm (nI i) (32 : Int32) = nI (i % 32) := pk_rem (d := 32) (by omega) (by omega) (by omega)
    have a1 : i / 32 &&& i % 32 ≤ i / 32 := Nat.and_le_left
    have c1 : (nI (i / 32 &&& i % 32) = 0) ↔ (i / 32 &&& i % 32 = 0) := by rw [← nI_0, nI_eq (by omega) (by omega)]
    have c2 : (nI (pcn (fsc tr k T i)) = 1) ↔ (pcn (fsc tr k T i) = 1) := nI_eq (b := 1) (by have := @pcn_le (fsc tr k T i); omega) (by omega)
    have e32 : ∀ X, nz (32 : Int32) X = X := fun X => by unfold nz; rw [if_neg (by decide)]
    rw [fX7_hard_L41, show (1024 : Int32) = nI 1024 from rfl, if_neg (nI_ge hi (by omega)), e32, lt_e, e32, lt_e, ed, er, tf7 hb.1 h3.2 (fun j hj => ⟨(ht j hj).1, (ht j hj).2.2⟩) hk (by omega) (by omega), cl_s, show fset tr k (i / 32) (i % 32) T = fsc tr k T i from rfl, bits_e hf, cl_s, fa_and, nI_1]
    by_cases d1 : i / 32 &&& i % 32 = 0
    · rw [if_pos (c1.mpr d1)]
      by_cases d2 : pcn (fsc tr k T i) = 1
      · have ho : okc tr k T i = true := by unfold okc; simp [d1, d2]
        rw [if_pos (c2.mpr d2), hard_L97 C V hf d2, ← hwi]
        by_cases hm : nI (w i) ≤ (hrd ok w i).2
        · rw [if_pos hm, if_pos hm, if_neg (fun q => q.2 hm)]
        · rw [if_neg hm, if_neg hm, if_pos ⟨by rw [hoi]; exact ho, hm⟩]
      · rw [if_neg (fun q => d2 (c2.mp q)), if_neg (fun q => by have := q.1; rw [hoi] at this; unfold okc at this; simp [d2] at this)]
    · rw [if_neg (fun q => d1 (c1.mp q)), if_neg (fun q => by have := q.1; rw [hoi] at this; unfold okc at this; simp [d1] at this)]
end HARD2
theorem E_hard {g : Mem} (h : Inv g) (y z : Int32) : Both g (fun g => fX6_hard y z g) (fun g => fX7_hard y z g) := by
  obtain ⟨T, Q, S, tr, F, K, sh, us, C, V⟩ := Inv_cv h
  by_cases h0 : g 7 0 = 0
  · refine ⟨-1000002, g, g, ?_, ?_, h⟩
    · simp only [fX6_hard]
      rw [if_pos h0]
    · simp only [fX7_hard]
      rw [isCourt_e h rfl, cl_s, if_pos h0]
  rcases sort_ix y with hy | ⟨k, hk, rfl⟩
  · refine ⟨-1000001, g, g, ?_, ?_, h⟩
    · simp only [fX6_hard]
      rw [if_neg h0, sort_f hy, cl_s, if_pos rfl]
    · simp only [fX7_hard]
      rw [isCourt_e h rfl, cl_s, if_neg h0, in15_f hy, cl_s, if_pos rfl]
  have bad : (z < 0 ∨ nI 2 ≤ z) → Both g (fun g => fX6_hard (nI k) z g) (fun g => fX7_hard (nI k) z g) := fun hx => by
    refine ⟨-1000001, g, g, ?_, ?_, h⟩
    · simp only [fX6_hard]
      rw [if_neg h0, sort_t hk, cl_s, if_neg (by decide), show (2 : Int32) = nI 2 from rfl, below_f hx, cl_s, if_pos rfl]
    · simp only [fX7_hard]
      rw [isCourt_e h rfl, cl_s, if_neg h0, in15_t hk, cl_s, if_neg (by decide), show (1 : Int32) = nI 1 from rfl, inN_f (by omega) hx, cl_s, if_pos rfl]
  rcases pk_ix z (n := 2) (by omega) with hx | hx | ⟨w, hw, rfl⟩
  · exact bad (Or.inl hx)
  · exact bad (Or.inr hx)
  have e6 : fX6_hard (nI k) (nI w) g = if nI w = 0 then some ((hrd (fun c => okc tr k T c) (fun c => cnt (fun s => decide (g 14 s = 0) && !(K s).testBit (lsb 8 (fsc tr k T c))) S) 1024).1, g) else some ((hrd (fun c => okc tr k T c) (fun c => cnt (fun s => decide (g 14 s = 0) && !(K s).testBit (lsb 8 (fsc tr k T c))) S) 1024).2, g) := by
    simp only [fX6_hard, fX3_hardest]
    rw [if_neg h0, sort_t hk, cl_s, if_neg (by decide), show (2 : Int32) = nI 2 from rfl, below_t hw (by omega), cl_s, if_neg (by decide), hard6 C V hk]
    by_cases w0 : nI w = 0
    · rw [if_pos w0]; rfl
    · rw [if_neg w0]; rfl
  have e7 : fX7_hard (nI k) (nI w) g = if nI w = 0 then some ((hrd (fun c => okc tr k T c) (fun c => cnt (fun s => decide (g 14 s = 0) && !(K s).testBit (lsb 8 (fsc tr k T c))) S) 1024).1, g) else some ((hrd (fun c => okc tr k T c) (fun c => cnt (fun s => decide (g 14 s = 0) && !(K s).testBit (lsb 8 (fsc tr k T c))) S) 1024).2, g) := by
    simp only [fX7_hard]
    rw [isCourt_e h rfl, cl_s, if_neg h0, in15_t hk, cl_s, if_neg (by decide), show (1 : Int32) = nI 1 from rfl, inN_t (by omega) (by omega), cl_s, if_neg (by decide), hard7 C V hk]
  by_cases w0 : nI w = 0
  · rw [if_pos w0] at e6 e7
    exact ⟨_, g, g, e6, e7, h⟩
  · rw [if_neg w0] at e6 e7
    exact ⟨_, g, g, e6, e7, h⟩
