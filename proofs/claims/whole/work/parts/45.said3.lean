section SF
variable {T Q S : Nat} {F K : Nat → Nat} {sh us : Nat} {g : Mem}
theorem fin_lt {Q : Nat} (hQ : 0 < Q) : ∀ n u c, u < 2 ^ Q → fin_ Q n u c < 2 ^ Q := by
  intro n
  induction n with
  | zero => intro u c h; exact h
  | succ n ih => intro u c h; exact ih _ _ (Nat.or_lt_two_pow h (Nat.pow_lt_pow_right (by omega) (Nat.mod_lt c hQ)))
theorem row7_e (V : View T Q S F K sh us g) {s r a n : Nat} (hs : s < S) (hr : r < 8) (hn : a + n ≤ 40) (hQ : 0 < Q) {l5 l6 l7 l8 l9 : Int32} {KK : Int32 → Int32 → Int32 → Int32 → Mem → Option (Int32 × Mem)} {g' : Mem} (hg : g' 66 = g 66) : ∀ d m p c u (o : Bool), p + d = n → d < m → c < 2 ^ 31 → u < 2 ^ Q → ∃ z, fX7_said_L184 (nI s) (nI r) (nI a) (nI n) l5 l6 l7 l8 l9 KK m (nI c) (nI u) (if o then 1 else 0) (nI p) g' = KK z (nI (fin_ Q d u c)) (if (o && Vl Q (fun i => lsI (F i &&& K s)) (fun q => wnt (g' 64 (40 * r + a + q))) d p u c) then 1 else 0) (nI n) g' := by
  have hb := V.1
  have l4 : ∀ G, al g' 66 50 (4 : Int32) G = G (nI Q) := fun G => by rw [show (4 : Int32) = nI 4 from rfl, lit66 g' 4 (by omega), hg, V.2.2.1.2]
  have h6 : (2 : Nat) ^ Q ≤ 2 ^ 6 := Nat.pow_le_pow_right (by omega) hb.2.1
  have nzQ : ∀ X, nz (nI Q) X = X := fun X => by unfold nz; rw [if_neg (nI_ne0 (by omega) (by omega))]
  intro d
  induction d with
  | zero =>
    intro m p c u o h1 h2 h3 h4
    obtain ⟨m, rfl⟩ : ∃ k, m = k + 1 := ⟨m - 1, by omega⟩
    have : p = n := by omega
    subst this
    refine ⟨nI c, ?_⟩
    rw [fX7_said_L184, if_pos (nI_le (Nat.le_refl p) (by omega)), Vl, Bool.and_true]; rfl
  | succ d ih =>
    intro m p c u o h1 h2 h3 h4
    obtain ⟨m, rfl⟩ : ∃ k, m = k + 1 := ⟨m - 1, by omega⟩
    have hm : c % Q < Q := Nat.mod_lt c hQ
    have hd : c / Q ≤ c := Nat.div_le_self c Q
    have hu2 : u ||| 2 ^ (c % Q) < 2 ^ Q := Nat.or_lt_two_pow h4 (Nat.pow_lt_pow_right (by omega) hm)
    have er : irm (nI c) (nI Q) = nI (c % Q) := pk_rem h3 hQ (by omega)
    have i64 : ((40 : Int32) * nI r + nI a) + nI p = nI (40 * r + a + p) := by rw [show (40 : Int32) = nI 40 from rfl, pk_mul, nI_add, nI_add]
    rw [fX7_said_L184, if_neg (nI_ge (show p < n by omega) (by omega)), l4, nzQ, lt_e, l4, nzQ, lt_e, er, pk_div h3 hQ (by omega), i64, al_nI (by omega) (by omega), one_shl (c % Q) (by omega), fa_or]
    simp only [lt_e]
    rw [has_e (by omega) (by omega), cl_s, v_says7 V hs hm hg, cl_s, nI_1]
    have fin1 : fin_ Q (d + 1) u c = fin_ Q d (u ||| 2 ^ (c % Q)) (c / Q) := rfl
    rw [fin1, Vl]
    have go := fun (o' : Bool) => ih m (p + 1) (c / Q) (u ||| 2 ^ (c % Q)) o' (by omega) (by omega) (by omega) hu2
    have go1 := go true
    have go0 := go false
    rw [if_pos rfl, Bool.true_and] at go1
    rw [if_neg Bool.false_ne_true, Bool.false_and, if_neg Bool.false_ne_true] at go0
    cases o
    · rw [if_neg Bool.false_ne_true, if_pos rfl, Bool.false_and, if_neg Bool.false_ne_true]; exact go0
    · rw [if_pos rfl, if_neg (by decide), Bool.true_and]
      cases hub : u.testBit (c % Q)
      · rw [if_neg Bool.false_ne_true, if_pos rfl, Bool.not_false, Bool.true_and]
        show ∃ z, (if g' 64 (40 * r + a + p) = -1 then _ else _) = _
        have ew : ∀ X Y : Option (Int32 × Mem), (if g' 64 (40 * r + a + p) = -1 then (if lsI (F (c % Q) &&& K s) = (-1000000 : Int32) then X else Y) else (if lsI (F (c % Q) &&& K s) = g' 64 (40 * r + a + p) then X else Y)) = (if lsI (F (c % Q) &&& K s) = wnt (g' 64 (40 * r + a + p)) then X else Y) := by
          intro X Y
          unfold wnt
          by_cases h1 : g' 64 (40 * r + a + p) = -1
          · rw [if_pos h1, if_pos h1]
          · rw [if_neg h1, if_neg h1]
        rw [ew]
        by_cases hw : lsI (F (c % Q) &&& K s) = wnt (g' 64 (40 * r + a + p))
        · rw [if_pos hw, decide_eq_true hw, Bool.true_and]; exact go1
        · rw [if_neg hw, decide_eq_false hw, Bool.false_and, if_neg Bool.false_ne_true]; exact go0
      · rw [if_pos rfl, if_neg (by decide), Bool.not_true, Bool.false_and, Bool.false_and, if_neg Bool.false_ne_true]; exact go0
theorem rows7_e (V : View T Q S F K sh us g) {s r a n : Nat} (hs : s < S) (hr : r < 8) (hn : a + n ≤ 40) (hn6 : n ≤ 6) (hn0 : 1 ≤ n) {l5 : Int32} {KK : Int32 → Int32 → Int32 → Mem → Option (Int32 × Mem)} {g' : Mem} (hg : g' 66 = g 66) (P : Nat) (hP : pr Q (fun i => lsI (F i &&& K s)) (fun q => wnt (g' 64 (40 * r + a + q))) (fun _ => 0) n 0 = P) : fX7_said_L164 (nI s) (nI r) (nI a) (nI n) l5 (nI (Q ^ n)) KK FU 0 0 0 g' = KK (nI P) (nI (if P = 0 then 0 else mk6 Q (fun i => lsI (F i &&& K s)) (fun q => wnt (g' 64 (40 * r + a + q))) n)) (nI (Q ^ n)) g' := by
  have hb := V.1
  generalize hsay : (fun i => lsI (F i &&& K s)) = say at *
  generalize hh : (fun q => wnt (g' 64 (40 * r + a + q))) = h at *
  have hQn : Q ^ n ≤ 6 ^ 6 := Nat.le_trans (Nat.pow_le_pow_left hb.2.1 n) (Nat.pow_le_pow_right (by omega) hn6)
  have h46 : (6 : Nat) ^ 6 = 46656 := by decide
  have h6 : (2 : Nat) ^ Q ≤ 2 ^ 6 := Nat.pow_le_pow_right (by omega) hb.2.1
  have e0 := count_0 Q say h n
  rw [hP] at e0
  refine loopI (fun m c (x : Int32 × Int32) => fX7_said_L164 (nI s) (nI r) (nI a) (nI n) l5 (nI (Q ^ n)) KK m x.1 x.2 (nI c) g') _ (fun c x => x.1 = nI (cnt (fun c => Vl Q say h n 0 0 c) c) ∧ x.2 = nI (if cnt (fun c => Vl Q say h n 0 0 c) c = 0 then 0 else mk7 Q say h n c)) (Q ^ n) ?_ ?_ (Q ^ n) FU 0 (0, 0) (by omega) (by rw [FU_e]; omega) ⟨rfl, rfl⟩
  · rintro m ⟨x1, x2⟩ ⟨e1, e2⟩
    dsimp only at e1 e2
    show fX7_said_L164 (nI s) (nI r) (nI a) (nI n) l5 (nI (Q ^ n)) KK (m + 1) x1 x2 (nI (Q ^ n)) g' = _
    rw [fX7_said_L164, if_pos (nI_le (Nat.le_refl _) (by omega)), e1, e2, e0]
    by_cases hz : P = 0
    · rw [if_pos hz, if_pos hz]
    · rw [if_neg hz, if_neg hz, mk_eq Q say h n (by rw [hP]; exact hz)]
  · rintro m c ⟨x1, x2⟩ hc ⟨e1, e2⟩
    dsimp only at e1 e2
    have hQ : 0 < Q := by
      apply Nat.pos_of_ne_zero
      rintro rfl
      rw [Nat.zero_pow (by omega)] at hc
      omega
    have hcl := cnt_le (fun c => Vl Q say h n 0 0 c) c
    have hfl := fin_lt hQ n 0 c (Nat.two_pow_pos Q)
    refine ⟨(nI (cnt (fun c => Vl Q say h n 0 0 c) (c + 1)), nI (if cnt (fun c => Vl Q say h n 0 0 c) (c + 1) = 0 then 0 else mk7 Q say h n (c + 1))), ⟨rfl, rfl⟩, ?_⟩
    show fX7_said_L164 (nI s) (nI r) (nI a) (nI n) l5 (nI (Q ^ n)) KK (m + 1) x1 x2 (nI c) g' = fX7_said_L164 (nI s) (nI r) (nI a) (nI n) l5 (nI (Q ^ n)) KK m (nI (cnt (fun c => Vl Q say h n 0 0 c) c + if Vl Q say h n 0 0 c then 1 else 0)) (nI (if (cnt (fun c => Vl Q say h n 0 0 c) c + if Vl Q say h n 0 0 c then 1 else 0) = 0 then 0 else mk7 Q say h n (c + 1))) (nI (c + 1)) g'
    rw [fX7_said_L164, if_neg (nI_ge hc (by omega))]
    have hin := row7_e V hs hr hn hQ (l5 := l5) (l6 := nI (Q ^ n)) (l7 := x1) (l8 := x2) (l9 := nI c) (KK := fun l40 l41 l42 l43 g44 => if l42 = 0 then (fX7_said_L164 (nI s) (nI r) (nI a) (nI n) l5 (nI (Q ^ n)) KK m x1 x2 (nI c + (1 : Int32)) g44) else (if x1 = 0 then (fX7_said_L164 (nI s) (nI r) (nI a) (nI n) l5 (nI (Q ^ n)) KK m (x1 + (1 : Int32)) l41 (nI c + (1 : Int32)) g44) else (lt ((x2 &&& l41)) fun x45 => (fX7_said_L164 (nI s) (nI r) (nI a) (nI n) l5 (nI (Q ^ n)) KK m (x1 + (1 : Int32)) x45 (nI c + (1 : Int32)) g44)))) (g' := g') hg n FU 0 c 0 true (by omega) (by rw [FU_e]; omega) (by omega) (Nat.two_pow_pos Q)
    rw [hsay, hh] at hin
    obtain ⟨z, hz⟩ := hin
    rw [if_pos rfl, Bool.true_and] at hz
    refine Eq.trans hz ?_
    rw [nI_1, e1, e2, lt_e, nI_1]
    have hmk : mk7 Q say h n (c + 1) = bset (fun i => decide (cnt (fun c => Vl Q say h n 0 0 c && !(fin_ Q n 0 c).testBit i) c + (if (Vl Q say h n 0 0 c && !(fin_ Q n 0 c).testBit i) then 1 else 0) = 0)) Q := rfl
    cases hV : Vl Q say h n 0 0 c
    · rw [if_neg Bool.false_ne_true, if_pos rfl, if_neg Bool.false_ne_true]
      have : mk7 Q say h n (c + 1) = mk7 Q say h n c := by
        rw [hmk, hV]; rfl
      rw [this]; rfl
    · rw [if_pos rfl, if_neg (by decide), if_pos rfl, if_neg (show ¬ cnt (fun c => Vl Q say h n 0 0 c) c + 1 = 0 by omega)]
      rw [hV] at hmk
      by_cases hz0 : cnt (fun c => Vl Q say h n 0 0 c) c = 0
      · rw [if_pos (by rw [hz0]; rfl)]
        have : mk7 Q say h n (c + 1) = fin_ Q n 0 c := by
          rw [hmk]
          apply Nat.eq_of_testBit_eq
          intro i
          rw [bset_test]
          have hle : cnt (fun c => Vl Q say h n 0 0 c && !(fin_ Q n 0 c).testBit i) c ≤ cnt (fun c => Vl Q say h n 0 0 c) c := cnt_mono (fun j hj => by rw [Bool.and_eq_true] at hj; exact hj.1) c
          rw [show cnt (fun c => Vl Q say h n 0 0 c && !(fin_ Q n 0 c).testBit i) c = 0 by omega, Bool.true_and]
          by_cases hi : i < Q
          · cases (fin_ Q n 0 c).testBit i <;> simp [hi]
          · rw [decide_eq_false hi, Nat.testBit_lt_two_pow (Nat.lt_of_lt_of_le hfl (Nat.pow_le_pow_right (by omega) (by omega)))]; rfl
        rw [this]
      · rw [if_neg (nI_ne0 (by omega) (by omega)), if_neg hz0, fa_and]
        have : mk7 Q say h n (c + 1) = mk7 Q say h n c &&& fin_ Q n 0 c := by
          rw [hmk]
          apply Nat.eq_of_testBit_eq
          intro i
          rw [bset_test, Nat.testBit_and]
          unfold mk7
          rw [bset_test, Bool.true_and]
          by_cases hi : i < Q
          · cases (fin_ Q n 0 c).testBit i <;> simp [hi]
          · rw [decide_eq_false hi]; rfl
        rw [this]
end SF
