/-! ===== the abstract machine: a fixed world of 73 cells, its numbers in one memory g; what a stretch of bytecode answers is a function F ===== -/
abbrev Mem : Type := Nat → Nat → Int32
abbrev AV : Type := Int32 ⊕ Nat
abbrev MT : Type := MethodName × ByteArray × Nat × Option FieldType × Nat × Nat
abbrev SH : Type := Nat × Nat × List (Option Nat)
def cv (ad : Nat → Nat) (v : AV) : Value := match v with
  | .inl x => .int x
  | .inr k => .ref (ad k)
theorem cv_cat (ad : Nat → Nat) (v : AV) : (cv ad v).category = 1 := by cases v <;> rfl
theorem cat_sum (ad : Nat → Nat) (st : List AV) : ((st.map (cv ad)).map fun v => v.category).sum = st.length := by
  induction st with
  | nil => rfl
  | cons a t ih =>
    show (cv ad a).category + ((t.map (cv ad)).map fun v => v.category).sum = t.length + 1
    rw [ih, cv_cat]; omega
def upR (g : Mem) (k : Nat) (f : Nat → Int32) : Mem := fun a => if a = k then f else g a
def up (g : Mem) (k i : Nat) (v : Int32) : Mem := upR g k (upd (g k) i v)
def cpy (g : Mem) (a sp b dp n : Nat) : Mem := upR g b (va_cpy (g a) (g b) sp dp n)
def ushr (x y : Int32) : Int32 := (x.toUInt32 >>> (y.toUInt32 &&& Int32.toUInt32 31)).toInt32
def irm (x y : Int32) : Int32 := x - x / y * y
def mx (x y : Int32) : Int32 := if x < y then y else x
def mn (x y : Int32) : Int32 := if y < x then y else x
/-! the words of the functions -/
def lt (e : Int32) (G : Int32 → Option (Int32 × Mem)) : Option (Int32 × Mem) := G e
def nz (y : Int32) (F : Option (Int32 × Mem)) : Option (Int32 × Mem) := if y = 0 then none else F
def rz (x : Int32) (g : Mem) : Option (Int32 × Mem) := if x = 0 ∨ x = 1 then some (x, g) else none
def pf (g : Mem) (k i : Nat) (x : Int32) (G : Mem → Option (Int32 × Mem)) : Option (Int32 × Mem) := G (up g k i x)
def pz (g : Mem) (k i : Nat) (x : Int32) (G : Mem → Option (Int32 × Mem)) : Option (Int32 × Mem) := if x = 0 ∨ x = 1 then G (up g k i x) else none
def al (g : Mem) (a n : Nat) (x : Int32) (G : Int32 → Option (Int32 × Mem)) : Option (Int32 × Mem) := if x < 0 ∨ n ≤ x.toNatClampNeg then none else G (g a x.toNatClampNeg)
def as_ (g : Mem) (a n : Nat) (x v : Int32) (G : Mem → Option (Int32 × Mem)) : Option (Int32 × Mem) := if x < 0 ∨ n ≤ x.toNatClampNeg then none else G (up g a x.toNatClampNeg v)
def sl (f : Nat → Int32) (n : Nat) (x : Int32) (G : Int32 → Option (Int32 × Mem)) : Option (Int32 × Mem) := if x < 0 ∨ n ≤ x.toNatClampNeg then none else G (f x.toNatClampNeg)
def r2 (x : Int32) (F1 F2 : Option (Int32 × Mem)) : Option (Int32 × Mem) := if x = 0 then F1 else if x = 1 then F2 else none
def cl (o : Option (Int32 × Mem)) (K : Int32 → Mem → Option (Int32 × Mem)) : Option (Int32 × Mem) := match o with
  | none => none
  | some (r, g) => K r g
def ac (g : Mem) (a n0 : Nat) (sp : Int32) (b n1 : Nat) (dp n : Int32) (G : Mem → Option (Int32 × Mem)) : Option (Int32 × Mem) :=
  if ¬ sp < 0 ∧ ¬ dp < 0 ∧ ¬ n < 0 ∧ sp.toNatClampNeg + n.toNatClampNeg ≤ n0 ∧ dp.toNatClampNeg + n.toNatClampNeg ≤ n1 then G (cpy g a sp.toNatClampNeg b dp.toNatClampNeg n.toNatClampNeg) else none
theorem nz_some {y : Int32} {F o : Option (Int32 × Mem)} (h : nz y F = o) (ho : o.isSome = true := by rfl) : ¬ y = 0 ∧ F = o := by
  unfold nz at h
  by_cases hy : y = 0
  · rw [if_pos hy] at h; subst h; cases ho
  · rw [if_neg hy] at h; exact ⟨hy, h⟩
theorem rz_some {x : Int32} {g : Mem} {q : Int32 × Mem} (h : rz x g = some q) : (x = 0 ∨ x = 1) ∧ some (x, g) = some q := by
  unfold rz at h
  by_cases hy : x = 0 ∨ x = 1
  · rw [if_pos hy] at h; exact ⟨hy, h⟩
  · rw [if_neg hy] at h; cases h
theorem rz_some' {g : Mem} {k i : Nat} {x : Int32} {G : Mem → Option (Int32 × Mem)} {q : Int32 × Mem} (h : pz g k i x G = some q) : (x = 0 ∨ x = 1) ∧ G (up g k i x) = some q := by
  unfold pz at h
  by_cases hy : x = 0 ∨ x = 1
  · rw [if_pos hy] at h; exact ⟨hy, h⟩
  · rw [if_neg hy] at h; cases h
theorem al_some {g : Mem} {a n : Nat} {x : Int32} {G : Int32 → Option (Int32 × Mem)} {q : Int32 × Mem} (h : al g a n x G = some q) : vp_in x n ∧ G (g a x.toNatClampNeg) = some q := by
  unfold al at h
  by_cases hy : x < 0 ∨ n ≤ x.toNatClampNeg
  · rw [if_pos hy] at h; cases h
  · rw [if_neg hy] at h; exact ⟨hy, h⟩
theorem as_some {g : Mem} {a n : Nat} {x v : Int32} {G : Mem → Option (Int32 × Mem)} {q : Int32 × Mem} (h : as_ g a n x v G = some q) : vp_in x n ∧ G (up g a x.toNatClampNeg v) = some q := by
  unfold as_ at h
  by_cases hy : x < 0 ∨ n ≤ x.toNatClampNeg
  · rw [if_pos hy] at h; cases h
  · rw [if_neg hy] at h; exact ⟨hy, h⟩
theorem sl_some {f : Nat → Int32} {n : Nat} {x : Int32} {G : Int32 → Option (Int32 × Mem)} {q : Int32 × Mem} (h : sl f n x G = some q) : vp_in x n ∧ G (f x.toNatClampNeg) = some q := by
  unfold sl at h
  by_cases hy : x < 0 ∨ n ≤ x.toNatClampNeg
  · rw [if_pos hy] at h; cases h
  · rw [if_neg hy] at h; exact ⟨hy, h⟩
theorem r2_some {x : Int32} {F1 F2 : Option (Int32 × Mem)} {q : Int32 × Mem} (h : r2 x F1 F2 = some q) : (x = 0 ∧ F1 = some q) ∨ (x = 1 ∧ F2 = some q) := by
  unfold r2 at h
  by_cases h0 : x = 0
  · rw [if_pos h0] at h; exact Or.inl ⟨h0, h⟩
  · rw [if_neg h0] at h
    by_cases h1 : x = 1
    · rw [if_pos h1] at h; exact Or.inr ⟨h1, h⟩
    · rw [if_neg h1] at h; cases h
theorem cl_some {o : Option (Int32 × Mem)} {K : Int32 → Mem → Option (Int32 × Mem)} {q : Int32 × Mem} (h : cl o K = some q) : ∃ r g, o = some (r, g) ∧ K r g = some q := by
  cases o with
  | none => cases h
  | some z => exact ⟨z.1, z.2, rfl, h⟩
theorem ac_some {g : Mem} {a n0 b n1 : Nat} {sp dp n : Int32} {G : Mem → Option (Int32 × Mem)} {q : Int32 × Mem} (h : ac g a n0 sp b n1 dp n G = some q) :
    (¬ sp < 0 ∧ ¬ dp < 0 ∧ ¬ n < 0 ∧ sp.toNatClampNeg + n.toNatClampNeg ≤ n0 ∧ dp.toNatClampNeg + n.toNatClampNeg ≤ n1) ∧ G (cpy g a sp.toNatClampNeg b dp.toNatClampNeg n.toNatClampNeg) = some q := by
  unfold ac at h
  by_cases hy : ¬ sp < 0 ∧ ¬ dp < 0 ∧ ¬ n < 0 ∧ sp.toNatClampNeg + n.toNatClampNeg ≤ n0 ∧ dp.toNatClampNeg + n.toNatClampNeg ≤ n1
  · rw [if_pos hy] at h; exact ⟨hy, h⟩
  · rw [if_neg hy] at h; cases h
/-! the shape of the world -/
def shCourt (b : Nat) : SH := (0, 2, [none, none, none, none, some (b + 1), none, some (b + 2), some (b + 3), some (b + 4), some (b + 5), none, some (b + 6), some (b + 7), some (b + 8), some (b + 9), none, none])
def shInts (n : Nat) : SH := (1, n, [])
def shC (b : Nat) : List SH := [shCourt b, shInts 8, shInts 6, shInts 6, shInts 6, shInts 6, shInts 4, shInts 4, shInts 4, shInts 4]
def shL : List SH :=
  [(0, 6, [some 1, some 5, some 7, some 17, some 27, some 48, some 55, some 58, some 60, none, none]),
   (0, 4, [some 2, some 3, some 4]), shInts 8, shInts 8, shInts 320,
   (0, 5, [some 6, none, none, none, none]), shInts 120] ++ shC 7 ++ shC 17 ++ [(3, 2, [some 28, some 38])] ++ shC 28 ++ shC 38 ++
  [(0, 0, [some 49, some 50, some 51, some 52, some 53, some 54, none, none]), shInts 24, shInts 24, shInts 24, shInts 24, shInts 24, shInts 24,
   (0, 3, [some 56, some 57]), shInts 256, shInts 5, (0, 1, [some 59, none]), shInts 16, shInts 6] ++
  [(0, 7, [some 62, some 63, some 64, none, none, some 65, none, none, none, none, none, none, some 66, some 67, some 68, some 69, some 70, none, some 71, none, some 72]), shInts 8, shInts 8, shInts 320, shInts 120, shInts 50, shInts 50, shInts 100, (2, 2, []), shInts 1200, shInts 16, shInts 256]
def sh (k : Nat) : SH := (shL[k]?).getD (9, 0, [])
def CE (ad : Nat → Nat) (cs : Nat → ClassId) (f : Nat → Int32) (s : SH) : va_E :=
  if s.1 = 0 then .inr (s.2.1, s.2.2.mapIdx (fun i o => match o with | some j => Value.ref (ad j) | none => Value.int (f i)))
  else if s.1 = 1 then .inl (cs 0, s.2.1, .inl f)
  else if s.1 = 2 then .inl (cs 1, s.2.1, .inl f)
  else .inl (cs 2, s.2.1, .inr (.inr (.inr (.inr (fun i => ((s.2.2[i]?).getD none).map ad)))))
abbrev TY (cs : Nat → ClassId) : List (ClassId × FieldType) := [(cs 0, .int), (cs 1, .boolean), (cs 2, .object "ThreeRiddles$Court")]
def WS (ad : Nat → Nat) (cs : Nat → ClassId) (g : Mem) : va_W := (List.range 73).map (fun k => (ad k, CE ad cs (g k) (sh k)))
def AD (A : Nat → Prop) (ad : Nat → Nat) : Prop := (∀ i j : Nat, i < 73 → j < 73 → ad i = ad j → i = j) ∧ ∀ k : Nat, k < 73 → A (ad k)
theorem WS_get {ad : Nat → Nat} {cs : Nat → ClassId} {g : Mem} {k : Nat} (h : k < 73) : (WS ad cs g)[k]? = some (ad k, CE ad cs (g k) (sh k)) := by
  unfold WS
  rw [List.getElem?_map, List.getElem?_range h]; rfl
theorem WS_inv {ad : Nat → Nat} {cs : Nat → ClassId} {g : Mem} {k : Nat} {q : Nat × va_E} (h : (WS ad cs g)[k]? = some q) : k < 73 ∧ q = (ad k, CE ad cs (g k) (sh k)) := by
  by_cases hk : k < 73
  · rw [WS_get hk] at h; exact ⟨hk, (Option.some.inj h).symm⟩
  · unfold WS at h
    rw [List.getElem?_eq_none (by simp; omega)] at h; cases h
theorem AD_D {A : Nat → Prop} {ad : Nat → Nat} (h : AD A ad) {cs : Nat → ClassId} {g : Mem} : va_D A (WS ad cs g) := by
  refine ⟨fun i j p q hp hq e => ?_, fun k q hq => ?_⟩
  · obtain ⟨hi, rfl⟩ := WS_inv hp
    obtain ⟨hj, rfl⟩ := WS_inv hq
    exact h.1 i j hi hj e
  · obtain ⟨hk, rfl⟩ := WS_inv hq
    exact h.2 k hk
theorem WS_set {ad : Nat → Nat} {cs : Nat → ClassId} {g : Mem} {k : Nat} (h : k < 73) (f : Nat → Int32) : (WS ad cs g).set k (ad k, CE ad cs f (sh k)) = WS ad cs (upR g k f) := by
  apply List.ext_getElem?
  intro j
  by_cases hj : j < 73
  · rw [WS_get hj]
    by_cases hk : k = j
    · subst hk
      rw [List.getElem?_set_self (by unfold WS; simp; exact h)]
      simp [upR]
    · rw [List.getElem?_set_ne hk, WS_get hj]
      have : ¬ j = k := fun q => hk q.symm
      simp [upR, this]
  · rw [List.getElem?_eq_none (by simp [WS]; omega), List.getElem?_eq_none (by simp [WS]; omega)]
theorem WS_obj {ad : Nat → Nat} {cs : Nat → ClassId} {g : Mem} {k ci : Nat} {rs : List (Option Nat)} (h : k < 73) (hs : sh k = (0, ci, rs)) : (WS ad cs g)[k]? = some (ad k, .inr (ci, rs.mapIdx (fun i o => match o with | some j => Value.ref (ad j) | none => Value.int (g k i)))) := by
  rw [WS_get h, hs]; rfl
theorem WS_arr {ad : Nat → Nat} {cs : Nat → ClassId} {g : Mem} {k n : Nat} {rs : List (Option Nat)} (h : k < 73) (hs : sh k = (1, n, rs)) : (WS ad cs g)[k]? = some (ad k, .inl (cs 0, n, .inl (g k))) := by
  rw [WS_get h, hs]; rfl
theorem WS_arz {ad : Nat → Nat} {cs : Nat → ClassId} {g : Mem} {k n : Nat} {rs : List (Option Nat)} (h : k < 73) (hs : sh k = (2, n, rs)) : (WS ad cs g)[k]? = some (ad k, .inl (cs 1, n, .inl (g k))) := by
  rw [WS_get h, hs]; rfl
theorem WS_arq {ad : Nat → Nat} {cs : Nat → ClassId} {g : Mem} {k n : Nat} {rs : List (Option Nat)} (h : k < 73) (hs : sh k = (3, n, rs)) : (WS ad cs g)[k]? = some (ad k, .inl (cs 2, n, .inr (.inr (.inr (.inr (fun i => ((rs[i]?).getD none).map ad)))))) := by
  rw [WS_get h, hs]; rfl
theorem WS_put {ad : Nat → Nat} {cs : Nat → ClassId} {g : Mem} {k ci i : Nat} {x : Int32} {rs : List (Option Nat)} (h : k < 73) (hs : sh k = (0, ci, rs)) (hi : rs[i]? = some none) :
    (WS ad cs g).set k (ad k, .inr (ci, (rs.mapIdx (fun i o => match o with | some j => Value.ref (ad j) | none => Value.int (g k i))).set i (.int x))) = WS ad cs (up g k i x) := by
  unfold up
  rw [← WS_set h, hs]
  show _ = (WS ad cs g).set k (ad k, .inr (ci, rs.mapIdx (fun i_1 o => match o with | some j => Value.ref (ad j) | none => Value.int (upd (g k) i x i_1))))
  congr 4
  apply List.ext_getElem?
  intro j
  by_cases hj : i = j
  · subst hj
    rw [List.getElem?_set_self (by rw [List.length_mapIdx]; exact (List.getElem?_eq_some_iff.mp hi).1), List.getElem?_mapIdx, hi]
    simp [upd]
  · rw [List.getElem?_set_ne hj, List.getElem?_mapIdx, List.getElem?_mapIdx]
    have hj' : ¬ j = i := fun q => hj q.symm
    simp [upd, hj']
theorem WS_ast {ad : Nat → Nat} {cs : Nat → ClassId} {g : Mem} {k n i : Nat} {x : Int32} {rs : List (Option Nat)} (h : k < 73) (hs : sh k = (1, n, rs)) :
    (WS ad cs g).set k (ad k, .inl (cs 0, n, .inl (upd (g k) i x))) = WS ad cs (up g k i x) := by
  unfold up
  rw [← WS_set h, hs]; rfl
theorem WS_asz {ad : Nat → Nat} {cs : Nat → ClassId} {g : Mem} {k n i : Nat} {x : Int32} {rs : List (Option Nat)} (h : k < 73) (hs : sh k = (2, n, rs)) :
    (WS ad cs g).set k (ad k, .inl (cs 1, n, .inl (upd (g k) i x))) = WS ad cs (up g k i x) := by
  unfold up
  rw [← WS_set h, hs]; rfl
theorem WS_cpy {ad : Nat → Nat} {cs : Nat → ClassId} {g : Mem} {a k n sp dp c : Nat} {rs : List (Option Nat)} (h : k < 73) (hs : sh k = (1, n, rs)) :
    (WS ad cs g).set k (ad k, .inl (cs 0, n, .inl (va_cpy (g a) (g k) sp dp c))) = WS ad cs (cpy g a sp k dp c) := by
  unfold cpy
  rw [← WS_set h, hs]; rfl
/-! locals -/
def nth : List (Option AV) → Nat → Option AV
  | [], _ => none
  | a :: _, 0 => a
  | _ :: t, n + 1 => nth t n
def setL : List (Option AV) → Nat → AV → List (Option AV)
  | [], _, _ => []
  | _ :: t, 0, v => some v :: t
  | a :: t, n + 1, v => a :: setL t n v
def msk : List Bool → List (Option AV) → List (Option AV)
  | true :: bs, a :: t => a :: msk bs t
  | false :: bs, _ :: t => none :: msk bs t
  | _, _ => []
theorem nth_lt {L : List (Option AV)} {k : Nat} {v : AV} (h : nth L k = some v) : k < L.length := by
  induction L generalizing k with
  | nil => cases h
  | cons a t ih =>
    cases k with
    | zero => simp
    | succ n => simpa using ih (k := n) h
theorem nth_setL {L : List (Option AV)} {i k : Nat} {v w : AV} (h : nth (setL L i v) k = some w) : (k = i ∧ w = v) ∨ (k ≠ i ∧ nth L k = some w) := by
  induction L generalizing i k with
  | nil => cases h
  | cons a t ih =>
    cases i with
    | zero =>
      cases k with
      | zero => left; exact ⟨rfl, (Option.some.inj h).symm⟩
      | succ n => right; exact ⟨by omega, h⟩
    | succ j =>
      cases k with
      | zero => right; exact ⟨by omega, h⟩
      | succ n =>
        rcases ih (i := j) (k := n) h with ⟨q1, q2⟩ | ⟨q1, q2⟩
        · left; exact ⟨by omega, q2⟩
        · right; exact ⟨by omega, q2⟩
theorem msk_nth (bs : List Bool) {L : List (Option AV)} {i : Nat} {w : AV} (h : nth (msk bs L) i = some w) : nth L i = some w := by
  induction L generalizing bs i with
  | nil => cases bs with
    | nil => cases h
    | cons b bs => cases b <;> cases h
  | cons a t ih =>
    cases bs with
    | nil => cases h
    | cons b bs =>
      cases b with
      | true =>
        cases i with
        | zero => exact h
        | succ n => exact ih bs (i := n) h
      | false =>
        cases i with
        | zero => cases h
        | succ n => exact ih bs (i := n) h
def LV (ad : Nat → Nat) (ls : Array Slot) (nL : Nat) (L : List (Option AV)) : Prop := ls.size = nL ∧ lv_wf ls ∧ ∀ (k : Nat) (v : AV), nth L k = some v → ls[k]? = some (.val (cv ad v))
def prs (ad : Nat → Nat) (L : List (Option AV)) : List (Nat × Value) := (List.range L.length).filterMap (fun k => (nth L k).map (fun v => (k, cv ad v)))
theorem prs_mem {ad : Nat → Nat} {L : List (Option AV)} {k : Nat} {v : AV} (h : nth L k = some v) : (k, cv ad v) ∈ prs ad L :=
  List.mem_filterMap.mpr ⟨k, List.mem_range.mpr (nth_lt h), by rw [h]; rfl⟩
theorem LV_has {ad : Nat → Nat} {ls : Array Slot} {nL : Nat} {L : List (Option AV)} (h : LV ad ls nL L) : lv_has ls nL (prs ad L) := by
  refine ⟨h.1, h.2.1, fun q hq => ?_⟩
  obtain ⟨k, -, hk⟩ := List.mem_filterMap.mp hq
  cases hv : nth L k with
  | none => rw [hv] at hk; cases hk
  | some v =>
    rw [hv] at hk
    cases hk
    exact h.2.2 k v hv
theorem LV_place {ad : Nat → Nat} {L : List (Option AV)} {k : Nat} {x : Int32} (h : nth L k = some (.inl x)) : ∃ j : Nat, (prs ad L)[j]? = some (k, .int x) := List.getElem?_of_mem (prs_mem (ad := ad) h)
theorem LV_set {ad : Nat → Nat} {ls ls' : Array Slot} {nL i : Nat} {x : Int32} {L : List (Option AV)} (h : LV ad ls nL L) (h' : lv_has ls' nL ((i, Value.int x) :: (prs ad L).filter (fun q => !(q.1 == i) && !(q.1 + 1 == i && q.2.category == 2)))) : LV ad ls' nL (setL L i (.inl x)) := by
  refine ⟨h'.1, h'.2.1, fun k v hv => ?_⟩
  rcases nth_setL hv with ⟨rfl, rfl⟩ | ⟨hk, hv⟩
  · exact h'.2.2 _ List.mem_cons_self
  · refine h'.2.2 (k, cv ad v) (List.mem_cons_of_mem _ (List.mem_filter.mpr ⟨prs_mem hv, ?_⟩))
    simp [hk, cv_cat]
theorem nar_z {x : Int32} (h : x = 0 ∨ x = 1) : narrow .boolean (.int x) = .int x := by rcases h with rfl | rfl <;> rfl
theorem fit_z {x : Int32} (h : x = 0 ∨ x = 1) : fits .boolean (.int x) = true := by rcases h with rfl | rfl <;> rfl
/-! the judgement -/
def CX (M : MT) (X : Option (Nat × (Nat → Int32))) (p : Program) (R : Room) (s : State) (m : MethodId) (args : Array Value) (c : Code) (D : va_G) (ad : Nat → Nat) (cs : Nat → ClassId) (A : Nat → Prop) (cells slots : Nat) : Prop :=
  p.tables.exec = Jvm.exec ∧ c.code = M.2.1 ∧ c.maxLocals = M.2.2.1 ∧ s.vm.findClass M.1.cls = some m.cls ∧ (∀ w ∈ TW, w.before args s = true) ∧ va_K D vwCl (TY cs) s ∧ AD A ad ∧ (∀ q : Nat, s.heap.size ≤ q → A q) ∧
  (R.frames = M.2.2.2.2.1 ∧ R.locals = M.2.2.2.2.2 ∧ cells ≤ R.cells ∧ slots ≤ R.slots) ∧ ∀ q : Nat × (Nat → Int32), X = some q → va_X (ad 73) q.1 q.2 s s.heap ∧ ad 73 < s.heap.size ∧ ¬ A (ad 73)
def EN (M : MT) (p : Program) (l : Launch) (e : Env) (R : Room) (s : State) (m : MethodId) (args : Array Value) (below : List Frame) (meth : Method) (c : Code) (D : va_G) (ad : Nat → Nat) (cs : Nat → ClassId) (A : Nat → Prop) (cells slots : Nat) (Z : State → Prop) (r : Int32) (g' : Mem) : Prop :=
  ∀ (H : Heap) (locs : List Loc) (ls : Array Slot) (pc : Nat), va_P D vwCl (WS ad cs g') H → va_S A s.heap H locs →
    (decode M.2.1 pc = .ok (.ireturn, 1) → M.2.2.2.1 ≠ none → (M.2.2.2.1 = some .boolean → r = 0 ∨ r = 1) → W p l e R s m args below meth c H locs cells slots Z (F0 m pc ls [.int r])) ∧
    (decode M.2.1 pc = .ok (.return_, 1) → M.2.2.2.1 = none → r = 0 → W p l e R s m args below meth c H locs cells slots Z (F0 m pc ls []))
def aw (M : MT) (X : Option (Nat × (Nat → Int32))) (pc : Nat) (L : List (Option AV)) (st : List AV) (g : Mem) (F : Option (Int32 × Mem)) : Prop :=
  ∀ (r : Int32) (g' : Mem), F = some (r, g') → ∀ (p : Program) (l : Launch) (e : Env) (R : Room) (s : State) (m : MethodId) (args : Array Value) (below : List Frame) (meth : Method) (c : Code) (D : va_G) (ad : Nat → Nat) (cs : Nat → ClassId) (A : Nat → Prop) (cells slots : Nat) (Z : State → Prop),
    CX M X p R s m args c D ad cs A cells slots → EN M p l e R s m args below meth c D ad cs A cells slots Z r g' →
    ∀ (H : Heap) (locs : List Loc) (ls : Array Slot), va_P D vwCl (WS ad cs g) H → va_S A s.heap H locs → LV ad ls M.2.2.1 L → W p l e R s m args below meth c H locs cells slots Z (F0 m pc ls (st.map (cv ad)))
def IN (M : MT) (pc : Nat) (i : Instr) (n pc' : Nat) : Prop := decode M.2.1 pc = .ok (i, n) ∧ pc + n = pc'
def BR (M : MT) (pc : Nat) (i : Instr) (pc' tgt : Nat) (off : Int) : Prop := decode M.2.1 pc = .ok (i, 3) ∧ pc + 3 = pc' ∧ (pc : Int) + off = (tgt : Int)
/-- a field by its link: the class's number, the slot -/
def FL (own : String) (idx ci i : Nat) : Prop := ∃ (C : String) (T : u_T) (N : Nat), vwCl[ci]? = some (C, T, N) ∧ i < N ∧ (∀ w ∈ u_ws C T N, w ∈ TW) ∧ Cond.fieldLink own idx (T i).1 (T i).2.1 (T i).2.2.1 ∈ TW
def FP (own : String) (idx ci i : Nat) (ty : FieldType) : Prop := ∃ (C : String) (T : u_T) (N : Nat) (ty0 : Nat → FieldType), vwCl[ci]? = some (C, T, N) ∧ i < N ∧ (∀ w ∈ u_ws C T N, w ∈ TW) ∧ Cond.fieldLink own idx (T i).1 (T i).2.1 (T i).2.2.1 ∈ TW ∧
  (∀ k, k < N → parseFieldDescriptor (T k).2.2.1 = some (ty0 k)) ∧ (∀ a, a < N → ∀ b, b < N → a ≠ b → (T a).2.1 ≠ (T b).2.1) ∧ (T i).2.2.2 = false ∧ parseFieldDescriptor (T i).2.2.1 = some ty
def MMx (nm : MethodName) (cd : ByteArray) (own : String) (idx : Nat) : Prop := Cond.methodLink own idx nm ∈ TW ∧ Cond.static nm ∈ TW ∧ Cond.initialized "java/lang/Math" ∈ TW ∧ Cond.code nm cd 2 (some .int) ∈ TW
def MAc (own : String) (idx : Nat) : Prop := Cond.methodLink own idx arraycopyName ∈ TW ∧ Cond.native arraycopyName ∈ TW ∧ Cond.static arraycopyName ∈ TW ∧ Cond.initialized "java/lang/System" ∈ TW
/-! contracts and calls -/
def QX (ret : Option FieldType) (r : Int32) (g' : Mem) (D : va_G) (ad : Nat → Nat) (cs : Nat → ClassId) (A : Nat → Prop) : Array Value → State → Outcome → State → Prop := match ret with
  | none => va_Qv (S := Unit) (fun _ => r = 0) (fun _ t => va_P D vwCl (WS ad cs g') t.heap) A
  | some _ => va_Qi (S := Unit) (fun r' _ => r' = r) (fun _ t => va_P D vwCl (WS ad cs g') t.heap) A
def CT (M : MT) (As : List AV) (g : Mem) (F : Option (Int32 × Mem)) : Prop :=
  ∀ (r : Int32) (g' : Mem), F = some (r, g') → ∀ (l : Launch) (D : va_G) (ad : Nat → Nat) (cs : Nat → ClassId) (sz : Nat),
    Met l M.1 (Cond.code M.1 M.2.1 M.2.2.1 M.2.2.2.1 :: TW) { frames := M.2.2.2.2.1, cells := 0, slots := 0, locals := M.2.2.2.2.2 }
      (va_Pc (As.map (cv ad)) (fun U => U.heap.size = sz ∧ va_P D vwCl (WS ad cs g) U.heap ∧ va_K D vwCl (TY cs) U ∧ AD (fun _ => True) ad))
      (QX M.2.2.2.1 r g' D ad cs (va_A (WS ad cs g) sz)) 0 0 (va_A (WS ad cs g) sz)
/-- what the tables say of a method: code, class; of an instance: its choice -/
def MC (M : MT) (n : Nat) : Prop := Cond.code M.1 M.2.1 M.2.2.1 M.2.2.2.1 ∈ TW ∧ Cond.initialized M.1.cls ∈ TW ∧ M.1.cls ≠ "java/lang/invoke/MethodHandle" ∧ M.1.cls ≠ "java/lang/invoke/VarHandle" ∧ (parseMethodDescriptor M.1.desc).map (fun d => d.parameters.length) = some n
def MV (M : MT) : Prop := Cond.instanceMethod M.1 ∈ TW ∧ Cond.selects M.1.cls M.1 M.1 ∈ TW
def RC (k : Nat) (C : String) : Prop := k < 73 ∧ ∃ (ci : Nat) (rs : List (Option Nat)) (T : u_T) (N : Nat), sh k = (0, ci, rs) ∧ vwCl[ci]? = some (C, T, N)
def pu : List AV → List AV → List AV
  | [], st => st
  | a :: t, st => pu t (a :: st)
theorem pu_eq (As st : List AV) : pu As st = As.reverse ++ st := by
  induction As generalizing st with
  | nil => rfl
  | cons a t ih => show pu t (a :: st) = _; rw [ih, List.reverse_cons, List.append_assoc]; rfl
theorem pu_map (ad : Nat → Nat) (As st : List AV) : (pu As st).map (cv ad) = (As.map (cv ad)).reverse ++ st.map (cv ad) := by
  rw [pu_eq, List.map_append, List.map_reverse]
theorem lw_goodIn {big : List Cond} (hb : ∀ w ∈ TW, w ∈ big) (ws : List Cond) (h : ∀ w ∈ ws, w ∈ TW) : GoodIn big ws := fun w hw => ⟨hb w (h w hw), good_of_word (List.mem_filter.mp (h w hw)).2⟩
theorem AD_A {A : Nat → Prop} {ad : Nat → Nat} (h : AD A ad) {cs : Nat → ClassId} {g : Mem} {H0 H : Heap} {locs : List Loc} (hS : va_S A H0 H locs) (hA : ∀ q : Nat, H0.size ≤ q → A q) : ∀ q, va_A (WS ad cs g) H.size q → A q := by
  intro q hq
  rcases hq with ⟨k, e, hk⟩ | hq
  · obtain ⟨hk73, he⟩ := WS_inv hk
    have hq : q = ad k := congrArg Prod.fst he
    rw [hq]
    exact h.2 k hk73
  · exact hA q (Nat.le_trans hS.1 hq)
section AWS
variable {M M' : MT} {X : Option (Nat × (Nat → Int32))} {pc pc' tgt : Nat} {L L' : List (Option AV)} {st : List AV} {g : Mem} {F F1 F2 : Option (Int32 × Mem)} {x y v : Int32}
theorem aw_iadd (h : IN M pc .iadd 1 pc') (k : aw M X pc' L (.inl (x + y) :: st) g F) : aw M X pc L (.inl y :: .inl x :: st) g F := by
  intro r g' hF p l e R s m args below meth c D ad cs A cells slots Z C E H locs ls hP hS hl
  obtain ⟨h1, rfl⟩ := h
  exact lv_iadd C.1 C.2.1 h1 (k r g' hF p l e R s m args below meth c D ad cs A cells slots Z C E H locs ls hP hS hl)
theorem aw_isub (h : IN M pc .isub 1 pc') (k : aw M X pc' L (.inl (x - y) :: st) g F) : aw M X pc L (.inl y :: .inl x :: st) g F := by
  intro r g' hF p l e R s m args below meth c D ad cs A cells slots Z C E H locs ls hP hS hl
  obtain ⟨h1, rfl⟩ := h
  exact lv_isub C.1 C.2.1 h1 (k r g' hF p l e R s m args below meth c D ad cs A cells slots Z C E H locs ls hP hS hl)
theorem aw_imul (h : IN M pc .imul 1 pc') (k : aw M X pc' L (.inl (x * y) :: st) g F) : aw M X pc L (.inl y :: .inl x :: st) g F := by
  intro r g' hF p l e R s m args below meth c D ad cs A cells slots Z C E H locs ls hP hS hl
  obtain ⟨h1, rfl⟩ := h
  exact lv_imul C.1 C.2.1 h1 (k r g' hF p l e R s m args below meth c D ad cs A cells slots Z C E H locs ls hP hS hl)
theorem aw_iand (h : IN M pc .iand 1 pc') (k : aw M X pc' L (.inl (x &&& y) :: st) g F) : aw M X pc L (.inl y :: .inl x :: st) g F := by
  intro r g' hF p l e R s m args below meth c D ad cs A cells slots Z C E H locs ls hP hS hl
  obtain ⟨h1, rfl⟩ := h
  exact lv_iand C.1 C.2.1 h1 (k r g' hF p l e R s m args below meth c D ad cs A cells slots Z C E H locs ls hP hS hl)
theorem aw_ior (h : IN M pc .ior 1 pc') (k : aw M X pc' L (.inl (x ||| y) :: st) g F) : aw M X pc L (.inl y :: .inl x :: st) g F := by
  intro r g' hF p l e R s m args below meth c D ad cs A cells slots Z C E H locs ls hP hS hl
  obtain ⟨h1, rfl⟩ := h
  exact lv_ior C.1 C.2.1 h1 (k r g' hF p l e R s m args below meth c D ad cs A cells slots Z C E H locs ls hP hS hl)
theorem aw_ixor (h : IN M pc .ixor 1 pc') (k : aw M X pc' L (.inl (x ^^^ y) :: st) g F) : aw M X pc L (.inl y :: .inl x :: st) g F := by
  intro r g' hF p l e R s m args below meth c D ad cs A cells slots Z C E H locs ls hP hS hl
  obtain ⟨h1, rfl⟩ := h
  exact lv_ixor C.1 C.2.1 h1 (k r g' hF p l e R s m args below meth c D ad cs A cells slots Z C E H locs ls hP hS hl)
theorem aw_ishl (h : IN M pc .ishl 1 pc') (k : aw M X pc' L (.inl (x <<< (y &&& 31)) :: st) g F) : aw M X pc L (.inl y :: .inl x :: st) g F := by
  intro r g' hF p l e R s m args below meth c D ad cs A cells slots Z C E H locs ls hP hS hl
  obtain ⟨h1, rfl⟩ := h
  exact lv_ishl C.1 C.2.1 h1 (k r g' hF p l e R s m args below meth c D ad cs A cells slots Z C E H locs ls hP hS hl)
theorem aw_ishr (h : IN M pc .ishr 1 pc') (k : aw M X pc' L (.inl (x >>> (y &&& 31)) :: st) g F) : aw M X pc L (.inl y :: .inl x :: st) g F := by
  intro r g' hF p l e R s m args below meth c D ad cs A cells slots Z C E H locs ls hP hS hl
  obtain ⟨h1, rfl⟩ := h
  exact lv_ishr C.1 C.2.1 h1 (k r g' hF p l e R s m args below meth c D ad cs A cells slots Z C E H locs ls hP hS hl)
theorem aw_iushr (h : IN M pc .iushr 1 pc') (k : aw M X pc' L (.inl (ushr x y) :: st) g F) : aw M X pc L (.inl y :: .inl x :: st) g F := by
  intro r g' hF p l e R s m args below meth c D ad cs A cells slots Z C E H locs ls hP hS hl
  obtain ⟨h1, rfl⟩ := h
  exact lv_iushr C.1 C.2.1 h1 rfl (k r g' hF p l e R s m args below meth c D ad cs A cells slots Z C E H locs ls hP hS hl)
theorem aw_ineg (h : IN M pc .ineg 1 pc') (k : aw M X pc' L (.inl (-x) :: st) g F) : aw M X pc L (.inl x :: st) g F := by
  intro r g' hF p l e R s m args below meth c D ad cs A cells slots Z C E H locs ls hP hS hl
  obtain ⟨h1, rfl⟩ := h
  exact lv_ineg C.1 C.2.1 h1 (k r g' hF p l e R s m args below meth c D ad cs A cells slots Z C E H locs ls hP hS hl)
theorem aw_i2b (h : IN M pc .i2b 1 pc') (k : aw M X pc' L (.inl (x.toInt8.toInt32) :: st) g F) : aw M X pc L (.inl x :: st) g F := by
  intro r g' hF p l e R s m args below meth c D ad cs A cells slots Z C E H locs ls hP hS hl
  obtain ⟨h1, rfl⟩ := h
  exact lv_i2b C.1 C.2.1 h1 rfl (k r g' hF p l e R s m args below meth c D ad cs A cells slots Z C E H locs ls hP hS hl)
theorem aw_i2s (h : IN M pc .i2s 1 pc') (k : aw M X pc' L (.inl (x.toInt16.toInt32) :: st) g F) : aw M X pc L (.inl x :: st) g F := by
  intro r g' hF p l e R s m args below meth c D ad cs A cells slots Z C E H locs ls hP hS hl
  obtain ⟨h1, rfl⟩ := h
  exact lv_i2s C.1 C.2.1 h1 rfl (k r g' hF p l e R s m args below meth c D ad cs A cells slots Z C E H locs ls hP hS hl)
theorem aw_idiv (h : IN M pc .idiv 1 pc') (k : aw M X pc' L (.inl (x / y) :: st) g F) : aw M X pc L (.inl y :: .inl x :: st) g (nz y F) := by
  intro r g' hF p l e R s m args below meth c D ad cs A cells slots Z C E H locs ls hP hS hl
  obtain ⟨h1, rfl⟩ := h
  obtain ⟨hne, hF⟩ := nz_some hF
  exact lv_idiv C.1 C.2.1 h1 hne (k r g' hF p l e R s m args below meth c D ad cs A cells slots Z C E H locs ls hP hS hl)
theorem aw_irem (h : IN M pc .irem 1 pc') (k : aw M X pc' L (.inl (irm x y) :: st) g F) : aw M X pc L (.inl y :: .inl x :: st) g (nz y F) := by
  intro r g' hF p l e R s m args below meth c D ad cs A cells slots Z C E H locs ls hP hS hl
  obtain ⟨h1, rfl⟩ := h
  obtain ⟨hne, hF⟩ := nz_some hF
  exact lv_irem C.1 C.2.1 h1 hne (k r g' hF p l e R s m args below meth c D ad cs A cells slots Z C E H locs ls hP hS hl)
theorem aw_iconst {n : Int} (h : IN M pc (.iconst n) 1 pc') (hv : Int32.ofInt n = v) (k : aw M X pc' L (.inl v :: st) g F) : aw M X pc L st g F := by
  intro r g' hF p l e R s m args below meth c D ad cs A cells slots Z C E H locs ls hP hS hl
  obtain ⟨h1, rfl⟩ := h
  exact lv_iconst C.1 C.2.1 h1 hv (k r g' hF p l e R s m args below meth c D ad cs A cells slots Z C E H locs ls hP hS hl)
theorem aw_bipush {n : Int} (h : IN M pc (.bipush n) 2 pc') (hv : (Int8.ofInt n).toInt32 = v) (k : aw M X pc' L (.inl v :: st) g F) : aw M X pc L st g F := by
  intro r g' hF p l e R s m args below meth c D ad cs A cells slots Z C E H locs ls hP hS hl
  obtain ⟨h1, rfl⟩ := h
  exact lv_bipush C.1 C.2.1 h1 hv (k r g' hF p l e R s m args below meth c D ad cs A cells slots Z C E H locs ls hP hS hl)
theorem aw_sipush {n : Int} (h : IN M pc (.sipush n) 3 pc') (hv : (Int16.ofInt n).toInt32 = v) (k : aw M X pc' L (.inl v :: st) g F) : aw M X pc L st g F := by
  intro r g' hF p l e R s m args below meth c D ad cs A cells slots Z C E H locs ls hP hS hl
  obtain ⟨h1, rfl⟩ := h
  exact lv_sipush C.1 C.2.1 h1 hv (k r g' hF p l e R s m args below meth c D ad cs A cells slots Z C E H locs ls hP hS hl)
theorem aw_ldc {n : Nat} (h : IN M pc (.ldc n) 2 pc') (hv : Cond.constant M.1.cls n v ∈ TW) (k : aw M X pc' L (.inl v :: st) g F) : aw M X pc L st g F := by
  intro r g' hF p l e R s m args below meth c D ad cs A cells slots Z C E H locs ls hP hS hl
  obtain ⟨h1, rfl⟩ := h
  exact lv_ldc C.1 C.2.1 C.2.2.2.1 (C.2.2.2.2.1 _ hv) h1 (k r g' hF p l e R s m args below meth c D ad cs A cells slots Z C E H locs ls hP hS hl)
theorem aw_ldcw {n : Nat} (h : IN M pc (.ldc_w n) 3 pc') (hv : Cond.constant M.1.cls n v ∈ TW) (k : aw M X pc' L (.inl v :: st) g F) : aw M X pc L st g F := by
  intro r g' hF p l e R s m args below meth c D ad cs A cells slots Z C E H locs ls hP hS hl
  obtain ⟨h1, rfl⟩ := h
  exact lv_ldcw C.1 C.2.1 C.2.2.2.1 (C.2.2.2.2.1 _ hv) h1 (k r g' hF p l e R s m args below meth c D ad cs A cells slots Z C E H locs ls hP hS hl)
theorem aw_iload_n {q : Fin 4} {i : Nat} (h : IN M pc (.iload_n q) 1 pc') (hi : (q : Nat) = i) (hv : nth L i = some (.inl x)) (k : aw M X pc' L (.inl x :: st) g F) : aw M X pc L st g F := by
  intro r g' hF p l e R s m args below meth c D ad cs A cells slots Z C E H locs ls hP hS hl
  obtain ⟨h1, rfl⟩ := h
  exact lv_iload_n C.1 C.2.1 h1 hi (hl.2.2 _ _ hv) (k r g' hF p l e R s m args below meth c D ad cs A cells slots Z C E H locs ls hP hS hl)
theorem aw_iload {i : Nat} (h : IN M pc (.iload i) 2 pc') (hv : nth L i = some (.inl x)) (k : aw M X pc' L (.inl x :: st) g F) : aw M X pc L st g F := by
  intro r g' hF p l e R s m args below meth c D ad cs A cells slots Z C E H locs ls hP hS hl
  obtain ⟨h1, rfl⟩ := h
  exact lv_iload C.1 C.2.1 h1 (hl.2.2 _ _ hv) (k r g' hF p l e R s m args below meth c D ad cs A cells slots Z C E H locs ls hP hS hl)
theorem aw_aload_n {q : Fin 4} {i a : Nat} (h : IN M pc (.aload_n q) 1 pc') (hi : (q : Nat) = i) (hv : nth L i = some (.inr a)) (k : aw M X pc' L (.inr a :: st) g F) : aw M X pc L st g F := by
  intro r g' hF p l e R s m args below meth c D ad cs A cells slots Z C E H locs ls hP hS hl
  obtain ⟨h1, rfl⟩ := h
  exact lv_aload_n C.1 C.2.1 h1 hi (hl.2.2 _ _ hv) (k r g' hF p l e R s m args below meth c D ad cs A cells slots Z C E H locs ls hP hS hl)
theorem aw_aload {i a : Nat} (h : IN M pc (.aload i) 2 pc') (hv : nth L i = some (.inr a)) (k : aw M X pc' L (.inr a :: st) g F) : aw M X pc L st g F := by
  intro r g' hF p l e R s m args below meth c D ad cs A cells slots Z C E H locs ls hP hS hl
  obtain ⟨h1, rfl⟩ := h
  exact lv_aload C.1 C.2.1 h1 (hl.2.2 _ _ hv) (k r g' hF p l e R s m args below meth c D ad cs A cells slots Z C E H locs ls hP hS hl)
theorem aw_istore_n {q : Fin 4} {i : Nat} (h : IN M pc (.istore_n q) 1 pc') (hi : (q : Nat) = i) (hn : i < M.2.2.1) (hL : setL L i (.inl x) = L') (k : aw M X pc' L' st g F) : aw M X pc L (.inl x :: st) g F := by
  intro r g' hF p l e R s m args below meth c D ad cs A cells slots Z C E H locs ls hP hS hl
  obtain ⟨h1, rfl⟩ := h
  subst hL
  exact lv_istore_n C.1 C.2.1 h1 hi (LV_has hl) hn rfl (fun ls' h' => k r g' hF p l e R s m args below meth c D ad cs A cells slots Z C E H locs ls' hP hS (LV_set hl h'))
theorem aw_istore {i : Nat} (h : IN M pc (.istore i) 2 pc') (hn : i < M.2.2.1) (hL : setL L i (.inl x) = L') (k : aw M X pc' L' st g F) : aw M X pc L (.inl x :: st) g F := by
  intro r g' hF p l e R s m args below meth c D ad cs A cells slots Z C E H locs ls hP hS hl
  obtain ⟨h1, rfl⟩ := h
  subst hL
  exact lv_istore C.1 C.2.1 h1 (LV_has hl) hn rfl (fun ls' h' => k r g' hF p l e R s m args below meth c D ad cs A cells slots Z C E H locs ls' hP hS (LV_set hl h'))
theorem aw_iinc {i : Nat} {n : Int} (h : IN M pc (.iinc i n) 3 pc') (hv : nth L i = some (.inl x)) (hx : x + Int32.ofInt n = v) (hn : i < M.2.2.1) (hL : setL L i (.inl v) = L') (k : aw M X pc' L' st g F) : aw M X pc L st g F := by
  intro r g' hF p l e R s m args below meth c D ad cs A cells slots Z C E H locs ls hP hS hl
  obtain ⟨h1, rfl⟩ := h
  subst hL
  obtain ⟨j, hj⟩ := LV_place (ad := ad) hv
  exact lv_iinc C.1 C.2.1 h1 (LV_has hl) hj hx hn rfl (fun ls' h' => k r g' hF p l e R s m args below meth c D ad cs A cells slots Z C E H locs ls' hP hS (LV_set hl h'))
theorem aw_dup {a : AV} (h : IN M pc .dup 1 pc') (k : aw M X pc' L (a :: a :: st) g F) : aw M X pc L (a :: st) g F := by
  intro r g' hF p l e R s m args below meth c D ad cs A cells slots Z C E H locs ls hP hS hl
  obtain ⟨h1, rfl⟩ := h
  exact lv_dup C.1 C.2.1 h1 (cv_cat ad a) (k r g' hF p l e R s m args below meth c D ad cs A cells slots Z C E H locs ls hP hS hl)
theorem aw_dup2 {a b : AV} (h : IN M pc .dup2 1 pc') (k : aw M X pc' L (a :: b :: a :: b :: st) g F) : aw M X pc L (a :: b :: st) g F := by
  intro r g' hF p l e R s m args below meth c D ad cs A cells slots Z C E H locs ls hP hS hl
  obtain ⟨h1, rfl⟩ := h
  exact lv_dup2_11 C.1 C.2.1 h1 (cv_cat ad a) (cv_cat ad b) (k r g' hF p l e R s m args below meth c D ad cs A cells slots Z C E H locs ls hP hS hl)
theorem aw_pop {a : AV} (h : IN M pc .pop 1 pc') (k : aw M X pc' L st g F) : aw M X pc L (a :: st) g F := by
  intro r g' hF p l e R s m args below meth c D ad cs A cells slots Z C E H locs ls hP hS hl
  obtain ⟨h1, rfl⟩ := h
  exact lv_pop C.1 C.2.1 h1 (cv_cat ad a) (k r g' hF p l e R s m args below meth c D ad cs A cells slots Z C E H locs ls hP hS hl)
theorem aw_icmp_eq {off : Int} (h : BR M pc (.if_icmp .eq off) pc' tgt off) (kt : aw M X tgt L st g F1) (kf : aw M X pc' L st g F2) : aw M X pc L (.inl y :: .inl x :: st) g (if x = y then F1 else F2) := by
  intro r g' hF p l e R s m args below meth c D ad cs A cells slots Z C E H locs ls hP hS hl
  obtain ⟨h1, rfl, h2⟩ := h
  exact lv_icmp_eq C.1 C.2.1 h1 h2 (fun hc => (kt r g' (by rw [if_pos hc] at hF; exact hF) p l e R s m args below meth c D ad cs A cells slots Z C E H locs ls hP hS hl)) (fun hc => (kf r g' (by rw [if_neg hc] at hF; exact hF) p l e R s m args below meth c D ad cs A cells slots Z C E H locs ls hP hS hl))
theorem aw_if_eq {off : Int} (h : BR M pc (.ifCond .eq off) pc' tgt off) (kt : aw M X tgt L st g F1) (kf : aw M X pc' L st g F2) : aw M X pc L (.inl x :: st) g (if x = 0 then F1 else F2) := by
  intro r g' hF p l e R s m args below meth c D ad cs A cells slots Z C E H locs ls hP hS hl
  obtain ⟨h1, rfl, h2⟩ := h
  exact lv_if_eq C.1 C.2.1 h1 h2 (fun hc => (kt r g' (by rw [if_pos hc] at hF; exact hF) p l e R s m args below meth c D ad cs A cells slots Z C E H locs ls hP hS hl)) (fun hc => (kf r g' (by rw [if_neg hc] at hF; exact hF) p l e R s m args below meth c D ad cs A cells slots Z C E H locs ls hP hS hl))
theorem aw_icmp_ne {off : Int} (h : BR M pc (.if_icmp .ne off) pc' tgt off) (kf : aw M X pc' L st g F1) (kt : aw M X tgt L st g F2) : aw M X pc L (.inl y :: .inl x :: st) g (if x = y then F1 else F2) := by
  intro r g' hF p l e R s m args below meth c D ad cs A cells slots Z C E H locs ls hP hS hl
  obtain ⟨h1, rfl, h2⟩ := h
  exact lv_icmp_ne C.1 C.2.1 h1 h2 (fun hc => (kt r g' (by rw [if_neg hc] at hF; exact hF) p l e R s m args below meth c D ad cs A cells slots Z C E H locs ls hP hS hl)) (fun hc => (kf r g' (by rw [if_pos hc] at hF; exact hF) p l e R s m args below meth c D ad cs A cells slots Z C E H locs ls hP hS hl))
theorem aw_if_ne {off : Int} (h : BR M pc (.ifCond .ne off) pc' tgt off) (kf : aw M X pc' L st g F1) (kt : aw M X tgt L st g F2) : aw M X pc L (.inl x :: st) g (if x = 0 then F1 else F2) := by
  intro r g' hF p l e R s m args below meth c D ad cs A cells slots Z C E H locs ls hP hS hl
  obtain ⟨h1, rfl, h2⟩ := h
  exact lv_if_ne C.1 C.2.1 h1 h2 (fun hc => (kt r g' (by rw [if_neg hc] at hF; exact hF) p l e R s m args below meth c D ad cs A cells slots Z C E H locs ls hP hS hl)) (fun hc => (kf r g' (by rw [if_pos hc] at hF; exact hF) p l e R s m args below meth c D ad cs A cells slots Z C E H locs ls hP hS hl))
theorem aw_icmp_lt {off : Int} (h : BR M pc (.if_icmp .lt off) pc' tgt off) (kt : aw M X tgt L st g F1) (kf : aw M X pc' L st g F2) : aw M X pc L (.inl y :: .inl x :: st) g (if x < y then F1 else F2) := by
  intro r g' hF p l e R s m args below meth c D ad cs A cells slots Z C E H locs ls hP hS hl
  obtain ⟨h1, rfl, h2⟩ := h
  exact lv_icmp_lt C.1 C.2.1 h1 h2 (fun hc => (kt r g' (by rw [if_pos hc] at hF; exact hF) p l e R s m args below meth c D ad cs A cells slots Z C E H locs ls hP hS hl)) (fun hc => (kf r g' (by rw [if_neg hc] at hF; exact hF) p l e R s m args below meth c D ad cs A cells slots Z C E H locs ls hP hS hl))
theorem aw_if_lt {off : Int} (h : BR M pc (.ifCond .lt off) pc' tgt off) (kt : aw M X tgt L st g F1) (kf : aw M X pc' L st g F2) : aw M X pc L (.inl x :: st) g (if x < 0 then F1 else F2) := by
  intro r g' hF p l e R s m args below meth c D ad cs A cells slots Z C E H locs ls hP hS hl
  obtain ⟨h1, rfl, h2⟩ := h
  exact lv_if_lt C.1 C.2.1 h1 h2 (fun hc => (kt r g' (by rw [if_pos hc] at hF; exact hF) p l e R s m args below meth c D ad cs A cells slots Z C E H locs ls hP hS hl)) (fun hc => (kf r g' (by rw [if_neg hc] at hF; exact hF) p l e R s m args below meth c D ad cs A cells slots Z C E H locs ls hP hS hl))
theorem aw_icmp_ge {off : Int} (h : BR M pc (.if_icmp .ge off) pc' tgt off) (kt : aw M X tgt L st g F1) (kf : aw M X pc' L st g F2) : aw M X pc L (.inl y :: .inl x :: st) g (if y ≤ x then F1 else F2) := by
  intro r g' hF p l e R s m args below meth c D ad cs A cells slots Z C E H locs ls hP hS hl
  obtain ⟨h1, rfl, h2⟩ := h
  exact lv_icmp_ge C.1 C.2.1 h1 h2 (fun hc => (kt r g' (by rw [if_pos hc] at hF; exact hF) p l e R s m args below meth c D ad cs A cells slots Z C E H locs ls hP hS hl)) (fun hc => (kf r g' (by rw [if_neg hc] at hF; exact hF) p l e R s m args below meth c D ad cs A cells slots Z C E H locs ls hP hS hl))
theorem aw_if_ge {off : Int} (h : BR M pc (.ifCond .ge off) pc' tgt off) (kt : aw M X tgt L st g F1) (kf : aw M X pc' L st g F2) : aw M X pc L (.inl x :: st) g (if 0 ≤ x then F1 else F2) := by
  intro r g' hF p l e R s m args below meth c D ad cs A cells slots Z C E H locs ls hP hS hl
  obtain ⟨h1, rfl, h2⟩ := h
  exact lv_if_ge C.1 C.2.1 h1 h2 (fun hc => (kt r g' (by rw [if_pos hc] at hF; exact hF) p l e R s m args below meth c D ad cs A cells slots Z C E H locs ls hP hS hl)) (fun hc => (kf r g' (by rw [if_neg hc] at hF; exact hF) p l e R s m args below meth c D ad cs A cells slots Z C E H locs ls hP hS hl))
theorem aw_icmp_gt {off : Int} (h : BR M pc (.if_icmp .gt off) pc' tgt off) (kt : aw M X tgt L st g F1) (kf : aw M X pc' L st g F2) : aw M X pc L (.inl y :: .inl x :: st) g (if y < x then F1 else F2) := by
  intro r g' hF p l e R s m args below meth c D ad cs A cells slots Z C E H locs ls hP hS hl
  obtain ⟨h1, rfl, h2⟩ := h
  exact lv_icmp_gt C.1 C.2.1 h1 h2 (fun hc => (kt r g' (by rw [if_pos hc] at hF; exact hF) p l e R s m args below meth c D ad cs A cells slots Z C E H locs ls hP hS hl)) (fun hc => (kf r g' (by rw [if_neg hc] at hF; exact hF) p l e R s m args below meth c D ad cs A cells slots Z C E H locs ls hP hS hl))
theorem aw_if_gt {off : Int} (h : BR M pc (.ifCond .gt off) pc' tgt off) (kt : aw M X tgt L st g F1) (kf : aw M X pc' L st g F2) : aw M X pc L (.inl x :: st) g (if 0 < x then F1 else F2) := by
  intro r g' hF p l e R s m args below meth c D ad cs A cells slots Z C E H locs ls hP hS hl
  obtain ⟨h1, rfl, h2⟩ := h
  exact lv_if_gt C.1 C.2.1 h1 h2 (fun hc => (kt r g' (by rw [if_pos hc] at hF; exact hF) p l e R s m args below meth c D ad cs A cells slots Z C E H locs ls hP hS hl)) (fun hc => (kf r g' (by rw [if_neg hc] at hF; exact hF) p l e R s m args below meth c D ad cs A cells slots Z C E H locs ls hP hS hl))
theorem aw_icmp_le {off : Int} (h : BR M pc (.if_icmp .le off) pc' tgt off) (kt : aw M X tgt L st g F1) (kf : aw M X pc' L st g F2) : aw M X pc L (.inl y :: .inl x :: st) g (if x ≤ y then F1 else F2) := by
  intro r g' hF p l e R s m args below meth c D ad cs A cells slots Z C E H locs ls hP hS hl
  obtain ⟨h1, rfl, h2⟩ := h
  exact lv_icmp_le C.1 C.2.1 h1 h2 (fun hc => (kt r g' (by rw [if_pos hc] at hF; exact hF) p l e R s m args below meth c D ad cs A cells slots Z C E H locs ls hP hS hl)) (fun hc => (kf r g' (by rw [if_neg hc] at hF; exact hF) p l e R s m args below meth c D ad cs A cells slots Z C E H locs ls hP hS hl))
theorem aw_if_le {off : Int} (h : BR M pc (.ifCond .le off) pc' tgt off) (kt : aw M X tgt L st g F1) (kf : aw M X pc' L st g F2) : aw M X pc L (.inl x :: st) g (if x ≤ 0 then F1 else F2) := by
  intro r g' hF p l e R s m args below meth c D ad cs A cells slots Z C E H locs ls hP hS hl
  obtain ⟨h1, rfl, h2⟩ := h
  exact lv_if_le C.1 C.2.1 h1 h2 (fun hc => (kt r g' (by rw [if_pos hc] at hF; exact hF) p l e R s m args below meth c D ad cs A cells slots Z C E H locs ls hP hS hl)) (fun hc => (kf r g' (by rw [if_neg hc] at hF; exact hF) p l e R s m args below meth c D ad cs A cells slots Z C E H locs ls hP hS hl))
theorem aw_goto {off : Int} (h : BR M pc (.goto off) pc' tgt off) (k : aw M X tgt L st g F) : aw M X pc L st g F := by
  intro r g' hF p l e R s m args below meth c D ad cs A cells slots Z C E H locs ls hP hS hl
  obtain ⟨h1, -, h2⟩ := h
  exact lv_goto C.1 C.2.1 h1 h2 (k r g' hF p l e R s m args below meth c D ad cs A cells slots Z C E H locs ls hP hS hl)
theorem aw_if_eq_T {off : Int} (h : BR M pc (.ifCond .eq off) pc' tgt off) (hc : x = 0) (kt : aw M X tgt L st g F) : aw M X pc L (.inl x :: st) g F := by
  intro r g' hF p l e R s m args below meth c D ad cs A cells slots Z C E H locs ls hP hS hl
  obtain ⟨h1, -, h2⟩ := h
  exact lv_if_eq C.1 C.2.1 h1 h2 (fun _ => (kt r g' hF p l e R s m args below meth c D ad cs A cells slots Z C E H locs ls hP hS hl)) (fun hn => absurd hc hn)
theorem aw_if_eq_F {off : Int} (h : BR M pc (.ifCond .eq off) pc' tgt off) (hc : ¬ x = 0) (kf : aw M X pc' L st g F) : aw M X pc L (.inl x :: st) g F := by
  intro r g' hF p l e R s m args below meth c D ad cs A cells slots Z C E H locs ls hP hS hl
  obtain ⟨h1, rfl, h2⟩ := h
  exact lv_if_eq C.1 C.2.1 h1 h2 (fun hn => absurd hn hc) (fun _ => (kf r g' hF p l e R s m args below meth c D ad cs A cells slots Z C E H locs ls hP hS hl))
theorem aw_if_ne_T {off : Int} (h : BR M pc (.ifCond .ne off) pc' tgt off) (hc : ¬ x = 0) (kt : aw M X tgt L st g F) : aw M X pc L (.inl x :: st) g F := by
  intro r g' hF p l e R s m args below meth c D ad cs A cells slots Z C E H locs ls hP hS hl
  obtain ⟨h1, -, h2⟩ := h
  exact lv_if_ne C.1 C.2.1 h1 h2 (fun _ => (kt r g' hF p l e R s m args below meth c D ad cs A cells slots Z C E H locs ls hP hS hl)) (fun hn => absurd hn hc)
theorem aw_if_ne_F {off : Int} (h : BR M pc (.ifCond .ne off) pc' tgt off) (hc : x = 0) (kf : aw M X pc' L st g F) : aw M X pc L (.inl x :: st) g F := by
  intro r g' hF p l e R s m args below meth c D ad cs A cells slots Z C E H locs ls hP hS hl
  obtain ⟨h1, rfl, h2⟩ := h
  exact lv_if_ne C.1 C.2.1 h1 h2 (fun hn => absurd hc hn) (fun _ => (kf r g' hF p l e R s m args below meth c D ad cs A cells slots Z C E H locs ls hP hS hl))
theorem aw_none : aw M X pc L st g none := fun r g' hF => by cases hF
theorem aw_lt {e : Int32} {G : Int32 → Option (Int32 × Mem)} (k : ∀ z : Int32, aw M X pc L (.inl z :: st) g (G z)) : aw M X pc L (.inl e :: st) g (lt e G) := k e
theorem aw_if {c : Prop} {i : Decidable c} (kt : c → aw M X pc L st g F1) (kf : ¬ c → aw M X pc L st g F2) : aw M X pc L st g (@ite _ c i F1 F2) := by
  by_cases hc : c
  · rw [if_pos hc]; exact kt hc
  · rw [if_neg hc]; exact kf hc
theorem aw_msk (bs : List Bool) (hL : msk bs L = L') (k : aw M X pc L' st g F) : aw M X pc L st g F := by
  intro r g' hF p l e R s m args below meth c D ad cs A cells slots Z C E H locs ls hP hS hl
  exact k r g' hF p l e R s m args below meth c D ad cs A cells slots Z C E H locs ls hP hS ⟨hl.1, hl.2.1, fun i w h => hl.2.2 i w (msk_nth bs (by rw [hL]; exact h))⟩
theorem aw_iret (h : IN M pc .ireturn 1 pc') (hr : M.2.2.2.1 = some .int) : aw M X pc L [.inl x] g (some (x, g)) := by
  intro r g' hF p l e R s m args below meth c D ad cs A cells slots Z C E H locs ls hP hS hl
  cases hF
  exact (E H locs ls pc hP hS).1 h.1 (by rw [hr]; exact fun q => by cases q) (fun q => by rw [hr] at q; cases q)
theorem aw_zret (h : IN M pc .ireturn 1 pc') (hr : M.2.2.2.1 = some .boolean) : aw M X pc L [.inl x] g (rz x g) := by
  intro r g' hF p l e R s m args below meth c D ad cs A cells slots Z C E H locs ls hP hS hl
  obtain ⟨hz, hF⟩ := rz_some hF
  cases hF
  exact (E H locs ls pc hP hS).1 h.1 (by rw [hr]; exact fun q => by cases q) (fun _ => hz)
theorem aw_zretK (h : IN M pc .ireturn 1 pc') (hr : M.2.2.2.1 = some .boolean) (hz : x = 0 ∨ x = 1) : aw M X pc L [.inl x] g (some (x, g)) := by
  intro r g' hF p l e R s m args below meth c D ad cs A cells slots Z C E H locs ls hP hS hl
  cases hF
  exact (E H locs ls pc hP hS).1 h.1 (by rw [hr]; exact fun q => by cases q) (fun _ => hz)
theorem aw_vret (h : IN M pc .return_ 1 pc') (hr : M.2.2.2.1 = none) : aw M X pc L [] g (some (0, g)) := by
  intro r g' hF p l e R s m args below meth c D ad cs A cells slots Z C E H locs ls hP hS hl
  cases hF
  exact (E H locs ls pc hP hS).2 h.1 hr rfl
theorem aw_getI {own : String} {idx ci i a : Nat} {rs : List (Option Nat)} (h : IN M pc (.getfield idx) 3 pc') (hf : FL M.1.cls idx ci i) (ha : a < 73) (hs : sh a = (0, ci, rs)) (hi : rs[i]? = some none) (k : aw M X pc' L (.inl (g a i) :: st) g F) : aw M X pc L (.inr a :: st) g F := by
  intro r g' hF p l e R s m args below meth c D ad cs A cells slots Z C E H locs ls hP hS hl
  obtain ⟨h1, rfl⟩ := h
  obtain ⟨C0, T, N, hc, hN, hin, hlk⟩ := hf
  exact va_get (v := .int (g a i)) C.1 C.2.1 C.2.2.2.2.1 hin C.2.2.2.1 C.2.2.2.2.2.1 hP a (WS_obj ha hs) hc i hN (C.2.2.2.2.1 _ hlk) (fun _ h9 => h9) (by rw [List.getElem?_mapIdx, hi]; rfl) h1 (k r g' hF p l e R s m args below meth c D ad cs A cells slots Z C E H locs ls hP hS hl)
theorem aw_getR {own : String} {idx ci i a b : Nat} {rs : List (Option Nat)} (h : IN M pc (.getfield idx) 3 pc') (hf : FL M.1.cls idx ci i) (ha : a < 73) (hs : sh a = (0, ci, rs)) (hi : rs[i]? = some (some b)) (k : aw M X pc' L (.inr b :: st) g F) : aw M X pc L (.inr a :: st) g F := by
  intro r g' hF p l e R s m args below meth c D ad cs A cells slots Z C E H locs ls hP hS hl
  obtain ⟨h1, rfl⟩ := h
  obtain ⟨C0, T, N, hc, hN, hin, hlk⟩ := hf
  exact va_get (v := .ref (ad b)) C.1 C.2.1 C.2.2.2.2.1 hin C.2.2.2.1 C.2.2.2.2.2.1 hP a (WS_obj ha hs) hc i hN (C.2.2.2.2.1 _ hlk) (fun _ h9 => h9) (by rw [List.getElem?_mapIdx, hi]; rfl) h1 (k r g' hF p l e R s m args below meth c D ad cs A cells slots Z C E H locs ls hP hS hl)
theorem aw_putI {idx ci i a : Nat} {rs : List (Option Nat)} {G : Mem → Option (Int32 × Mem)} (h : IN M pc (.putfield idx) 3 pc') (hf : FP M.1.cls idx ci i .int) (ha : a < 73) (hs : sh a = (0, ci, rs)) (hi : rs[i]? = some none) (k : ∀ g1, g1 = up g a i x → aw M X pc' L st g1 (G g1)) : aw M X pc L (.inl x :: .inr a :: st) g (pf g a i x G) := by
  intro r g' hF p l e R s m args below meth c D ad cs A cells slots Z C E H locs ls hP hS hl
  obtain ⟨h1, rfl⟩ := h
  obtain ⟨C0, T, N, ty0, hc, hN, hin, hlk, hty, hnm, hfin, hd⟩ := hf
  exact va_put (v := .int x) (ty := .int) C.1 C.2.1 C.2.2.2.2.1 hin ty0 hty hnm C.2.2.2.1 C.2.2.2.2.2.1 hP (AD_D C.2.2.2.2.2.2.1) hS a (WS_obj ha hs) hc i hN (C.2.2.2.2.1 _ hlk) (fun _ h9 => h9) hfin hd (rfl) (rfl) (by rw [List.length_mapIdx]; exact (List.getElem?_eq_some_iff.mp hi).1) h1 (fun H1 locs1 hP1 _ hS1 => k _ rfl r g' hF p l e R s m args below meth c D ad cs A cells slots Z C E H1 locs1 ls (by rw [WS_put ha hs hi] at hP1; exact hP1) hS1 hl)
theorem aw_putZ {idx ci i a : Nat} {rs : List (Option Nat)} {G : Mem → Option (Int32 × Mem)} (h : IN M pc (.putfield idx) 3 pc') (hf : FP M.1.cls idx ci i .boolean) (ha : a < 73) (hs : sh a = (0, ci, rs)) (hi : rs[i]? = some none) (k : ∀ g1, g1 = up g a i x → aw M X pc' L st g1 (G g1)) : aw M X pc L (.inl x :: .inr a :: st) g (pz g a i x G) := by
  intro r g' hF p l e R s m args below meth c D ad cs A cells slots Z C E H locs ls hP hS hl
  obtain ⟨hz, hF⟩ := rz_some' hF
  obtain ⟨h1, rfl⟩ := h
  obtain ⟨C0, T, N, ty0, hc, hN, hin, hlk, hty, hnm, hfin, hd⟩ := hf
  exact va_put (v := .int x) (ty := .boolean) C.1 C.2.1 C.2.2.2.2.1 hin ty0 hty hnm C.2.2.2.1 C.2.2.2.2.2.1 hP (AD_D C.2.2.2.2.2.2.1) hS a (WS_obj ha hs) hc i hN (C.2.2.2.2.1 _ hlk) (fun _ h9 => h9) hfin hd (nar_z hz) (fit_z hz) (by rw [List.length_mapIdx]; exact (List.getElem?_eq_some_iff.mp hi).1) h1 (fun H1 locs1 hP1 _ hS1 => k _ rfl r g' hF p l e R s m args below meth c D ad cs A cells slots Z C E H1 locs1 ls (by rw [WS_put ha hs hi] at hP1; exact hP1) hS1 hl)
theorem aw_iald {a n : Nat} {rs : List (Option Nat)} {G : Int32 → Option (Int32 × Mem)} (h : IN M pc .iaload 1 pc') (ha : a < 73) (hs : sh a = (1, n, rs)) (k : ∀ z : Int32, z = g a x.toNatClampNeg → aw M X pc' L (.inl z :: st) g (G z)) : aw M X pc L (.inl x :: .inr a :: st) g (al g a n x G) := by
  intro r g' hF p l e R s m args below meth c D ad cs A cells slots Z C E H locs ls hP hS hl
  obtain ⟨h1, rfl⟩ := h
  obtain ⟨hin, hF⟩ := al_some hF
  exact va_iald C.1 C.2.1 C.2.2.2.2.2.1 hP a 0 (WS_arr ha hs) rfl hin h1 (k _ rfl r g' hF p l e R s m args below meth c D ad cs A cells slots Z C E H locs ls hP hS hl)
theorem aw_iast {a n : Nat} {rs : List (Option Nat)} {G : Mem → Option (Int32 × Mem)} (h : IN M pc .iastore 1 pc') (ha : a < 73) (hs : sh a = (1, n, rs)) (k : ∀ g1, g1 = up g a x.toNatClampNeg v → aw M X pc' L st g1 (G g1)) : aw M X pc L (.inl v :: .inl x :: .inr a :: st) g (as_ g a n x v G) := by
  intro r g' hF p l e R s m args below meth c D ad cs A cells slots Z C E H locs ls hP hS hl
  obtain ⟨h1, rfl⟩ := h
  obtain ⟨hin, hF⟩ := as_some hF
  exact va_iast C.1 C.2.1 C.2.2.2.2.2.1 hP (AD_D C.2.2.2.2.2.2.1) hS a 0 (WS_arr ha hs) rfl hin h1 (fun H1 locs1 hP1 _ hS1 => k _ rfl r g' hF p l e R s m args below meth c D ad cs A cells slots Z C E H1 locs1 ls (by rw [WS_ast ha hs] at hP1; exact hP1) hS1 hl)
theorem aw_zald {a n : Nat} {rs : List (Option Nat)} {G : Int32 → Option (Int32 × Mem)} (h : IN M pc .baload 1 pc') (ha : a < 73) (hs : sh a = (2, n, rs)) (k : ∀ z : Int32, z = g a x.toNatClampNeg → aw M X pc' L (.inl z :: st) g (G z)) : aw M X pc L (.inl x :: .inr a :: st) g (al g a n x G) := by
  intro r g' hF p l e R s m args below meth c D ad cs A cells slots Z C E H locs ls hP hS hl
  obtain ⟨h1, rfl⟩ := h
  obtain ⟨hin, hF⟩ := al_some hF
  exact va_zald C.1 C.2.1 C.2.2.2.2.2.1 hP a 1 (WS_arz ha hs) rfl hin h1 (k _ rfl r g' hF p l e R s m args below meth c D ad cs A cells slots Z C E H locs ls hP hS hl)
theorem aw_zast {a n : Nat} {rs : List (Option Nat)} {G : Mem → Option (Int32 × Mem)} (h : IN M pc .bastore 1 pc') (ha : a < 73) (hs : sh a = (2, n, rs)) (hv : vp_nar .boolean v = v) (k : ∀ g1, g1 = up g a x.toNatClampNeg v → aw M X pc' L st g1 (G g1)) : aw M X pc L (.inl v :: .inl x :: .inr a :: st) g (as_ g a n x v G) := by
  intro r g' hF p l e R s m args below meth c D ad cs A cells slots Z C E H locs ls hP hS hl
  obtain ⟨h1, rfl⟩ := h
  obtain ⟨hin, hF⟩ := as_some hF
  exact va_zast C.1 C.2.1 C.2.2.2.2.2.1 hP (AD_D C.2.2.2.2.2.2.1) hS a 1 (WS_arz ha hs) rfl hin h1 (fun H1 locs1 hP1 _ hS1 => k _ rfl r g' hF p l e R s m args below meth c D ad cs A cells slots Z C E H1 locs1 ls (by rw [hv, WS_asz ha hs] at hP1; exact hP1) hS1 hl)
theorem aw_alen {a n : Nat} {rs : List (Option Nat)} (h : IN M pc .arraylength 1 pc') (ha : a < 73) (hs : sh a = (1, n, rs)) (hv : Int32.ofNat n = v) (k : aw M X pc' L (.inl v :: st) g F) : aw M X pc L (.inr a :: st) g F := by
  intro r g' hF p l e R s m args below meth c D ad cs A cells slots Z C E H locs ls hP hS hl
  obtain ⟨h1, rfl⟩ := h
  exact va_alen C.1 C.2.1 C.2.2.2.2.2.1 hP a 0 (WS_arr ha hs) rfl hv h1 (k r g' hF p l e R s m args below meth c D ad cs A cells slots Z C E H locs ls hP hS hl)
theorem aw_aald {a b0 b1 : Nat} {F1 F2 : Option (Int32 × Mem)} (h : IN M pc .aaload 1 pc') (ha : a < 73) (hs : sh a = (3, 2, [some b0, some b1])) (k0 : aw M X pc' L (.inr b0 :: st) g F1) (k1 : aw M X pc' L (.inr b1 :: st) g F2) : aw M X pc L (.inl x :: .inr a :: st) g (r2 x F1 F2) := by
  intro r g' hF p l e R s m args below meth c D ad cs A cells slots Z C E H locs ls hP hS hl
  obtain ⟨h1, rfl⟩ := h
  rcases r2_some hF with ⟨rfl, hF⟩ | ⟨rfl, hF⟩
  · exact va_aldq C.1 C.2.1 C.2.2.2.2.2.1 hP a 2 (WS_arq ha hs) rfl (by unfold vp_in; decide) h1 (k0 r g' hF p l e R s m args below meth c D ad cs A cells slots Z C E H locs ls hP hS hl)
  · exact va_aldq C.1 C.2.1 C.2.2.2.2.2.1 hP a 2 (WS_arq ha hs) rfl (by unfold vp_in; decide) h1 (k1 r g' hF p l e R s m args below meth c D ad cs A cells slots Z C E H locs ls hP hS hl)
theorem aw_sld {n : Nat} {f : Nat → Int32} {G : Int32 → Option (Int32 × Mem)} (h : IN M pc .iaload 1 pc') (hX : X = some (n, f)) (k : ∀ z : Int32, z = f x.toNatClampNeg → aw M X pc' L (.inl z :: st) g (G z)) : aw M X pc L (.inl x :: .inr 73 :: st) g (sl f n x G) := by
  intro r g' hF p l e R s m args below meth c D ad cs A cells slots Z C E H locs ls hP hS hl
  obtain ⟨h1, rfl⟩ := h
  obtain ⟨hin, hF⟩ := sl_some hF
  obtain ⟨q1, q2, q3⟩ := C.2.2.2.2.2.2.2.2.2 _ hX
  exact va_sld C.1 C.2.1 q1 q2 q3 hS hin h1 (k _ rfl r g' hF p l e R s m args below meth c D ad cs A cells slots Z C E H locs ls hP hS hl)
theorem aw_slen {n : Nat} {f : Nat → Int32} (h : IN M pc .arraylength 1 pc') (hX : X = some (n, f)) (k : aw M X pc' L (.inl (Int32.ofNat n) :: st) g F) : aw M X pc L (.inr 73 :: st) g F := by
  intro r g' hF p l e R s m args below meth c D ad cs A cells slots Z C E H locs ls hP hS hl
  obtain ⟨h1, rfl⟩ := h
  obtain ⟨q1, q2, q3⟩ := C.2.2.2.2.2.2.2.2.2 _ hX
  exact va_slen C.1 C.2.1 q1 q2 q3 hS h1 (k r g' hF p l e R s m args below meth c D ad cs A cells slots Z C E H locs ls hP hS hl)
theorem aw_mmax {idx : Nat} (h : IN M pc (.invokestatic idx) 3 pc') (hm : MMx Lib.Math.max.name Lib.Math.max.code M.1.cls idx) (hr : 1 ≤ M.2.2.2.2.1 ∧ st.length + 13 ≤ M.2.2.2.2.2) (k : aw M X pc' L (.inl (mx x y) :: st) g F) : aw M X pc L (.inl y :: .inl x :: st) g F := by
  intro r g' hF p l e R s m args below meth c D ad cs A cells slots Z C E H locs ls hP hS hl
  obtain ⟨h1, rfl⟩ := h
  obtain ⟨m1, m2, m3, m4⟩ := hm
  obtain ⟨-, -, hml, hown, hts, -, -, -, ⟨r1, r2, r3, r4⟩, -⟩ := id C
  exact va_mmax C.1 C.2.1 (hml.trans hl.1.symm) hown (hts _ m1) (hts _ m2) (hts _ m3) (hts _ m4) (by rw [r1]; exact hr.1) (by rw [r2, cat_sum]; exact hr.2) r3 r4 h1 (k r g' hF p l e R s m args below meth c D ad cs A cells slots Z C E H locs ls hP hS hl)
theorem aw_mmin {idx : Nat} (h : IN M pc (.invokestatic idx) 3 pc') (hm : MMx Lib.Math.min.name Lib.Math.min.code M.1.cls idx) (hr : 1 ≤ M.2.2.2.2.1 ∧ st.length + 13 ≤ M.2.2.2.2.2) (k : aw M X pc' L (.inl (mn x y) :: st) g F) : aw M X pc L (.inl y :: .inl x :: st) g F := by
  intro r g' hF p l e R s m args below meth c D ad cs A cells slots Z C E H locs ls hP hS hl
  obtain ⟨h1, rfl⟩ := h
  obtain ⟨m1, m2, m3, m4⟩ := hm
  obtain ⟨-, -, hml, hown, hts, -, -, -, ⟨r1, r2, r3, r4⟩, -⟩ := id C
  exact va_mmin C.1 C.2.1 (hml.trans hl.1.symm) hown (hts _ m1) (hts _ m2) (hts _ m3) (hts _ m4) (by rw [r1]; exact hr.1) (by rw [r2, cat_sum]; exact hr.2) r3 r4 h1 (k r g' hF p l e R s m args below meth c D ad cs A cells slots Z C E H locs ls hP hS hl)
theorem aw_acopy {idx a b n0 n1 : Nat} {rs rs' : List (Option Nat)} {sp dp n : Int32} {G : Mem → Option (Int32 × Mem)} (h : IN M pc (.invokestatic idx) 3 pc') (hm : MAc M.1.cls idx) (hr : 1 ≤ M.2.2.2.2.1 ∧ st.length + (nativeFrameWords "java/lang/System" "arraycopy" 5 + 11) ≤ M.2.2.2.2.2) (ha : a < 73) (hs : sh a = (1, n0, rs)) (hb : b < 73) (hsb : sh b = (1, n1, rs')) (k : ∀ g1, g1 = cpy g a sp.toNatClampNeg b dp.toNatClampNeg n.toNatClampNeg → aw M X pc' L st g1 (G g1)) : aw M X pc L (.inl n :: .inl dp :: .inr b :: .inl sp :: .inr a :: st) g (ac g a n0 sp b n1 dp n G) := by
  intro r g' hF p l e R s m args below meth c D ad cs A cells slots Z C E H locs ls hP hS hl
  obtain ⟨h1, rfl⟩ := h
  obtain ⟨⟨u1, u2, u3, u4, u5⟩, hF⟩ := ac_some hF
  obtain ⟨m1, m2, m3, m4⟩ := hm
  obtain ⟨-, -, hml, hown, hts, -, -, -, ⟨r1, r2, r3, r4⟩, -⟩ := id C
  exact va_copyi C.1 C.2.1 (hml.trans hl.1.symm) hown (hts _ m1) (hts _ m2) (hts _ m3) (hts _ m4) C.2.2.2.2.2.1 hP (AD_D C.2.2.2.2.2.2.1) hS a b 0 0 (WS_arr ha hs) (WS_arr hb hsb) rfl rfl rfl u1 u2 u3 u4 u5 (fun _ _ => rfl) (by rw [r1]; exact hr.1) (by rw [r2, cat_sum]; exact hr.2) h1 (fun H1 locs1 hP1 _ hS1 => k _ rfl r g' hF p l e R s m args below meth c D ad cs A cells slots Z C E H1 locs1 ls (by rw [WS_cpy hb hsb] at hP1; exact hP1) hS1 hl)
theorem call_pre {D : va_G} {ad : Nat → Nat} {cs : Nat → ClassId} {g : Mem} {sz : Nat} {av : List Value} : FrameBlind (va_Pc av (fun U => U.heap.size = sz ∧ va_P D vwCl (WS ad cs g) U.heap ∧ va_K D vwCl (TY cs) U ∧ AD (fun _ => True) ad)) := by
  intro a U gg mk q
  obtain ⟨q0, q1, qP, qK, qD⟩ := q
  exact ⟨q0, q1, qP, va_K.moved (u := U) (U := U.calling gg mk a) (Vm.Alike.refl U.vm) qK, qD⟩
theorem AD_true {A : Nat → Prop} {ad : Nat → Nat} (h : AD A ad) : AD (fun _ => True) ad := ⟨h.1, fun _ _ => trivial⟩
theorem aw_callV {idx n a : Nat} {As : List AV} {Fc : Option (Int32 × Mem)} {K : Int32 → Mem → Option (Int32 × Mem)} {ty : FieldType} (h : IN M pc (.invokevirtual idx) 3 pc') (hlk : Cond.methodLink M.1.cls idx M'.1 ∈ TW) (hm : MC M' n) (hv : MV M') (hty : M'.2.2.2.1 = some ty) (hk : RC a M'.1.cls) (hC : CT M' (.inr a :: As) g Fc) (hn : As.length = n) (hst : st.length ≤ 8) (hroom : M'.2.2.2.2.1 + 1 ≤ M.2.2.2.2.1 ∧ 8 + (M'.2.2.1 + 11) + M'.2.2.2.2.2 ≤ M.2.2.2.2.2) (k : ∀ (z : Int32) (g1 : Mem), aw M X pc' L (.inl z :: st) g1 (K z g1)) : aw M X pc L (pu As (.inr a :: st)) g (cl Fc K) := by
  intro r g' hF p l e R s m args below meth c D ad cs A cells slots Z C E H locs ls hP hS hl
  obtain ⟨h1, rfl⟩ := h
  obtain ⟨r1, g1, hc, hF⟩ := cl_some hF
  have hM := hC r1 g1 hc l D ad cs H.size
  obtain ⟨hx, hb, hml, hown, hts, hK, hAD, hA, ⟨R1, R2, R3, R4⟩, -⟩ := id C
  obtain ⟨c1, c2, c3, c4, c5⟩ := hm
  obtain ⟨k1, ci, rs, T, N, k2, k3⟩ := hk
  rw [hty] at hM
  have hG : GoodIn TW (wsV M.1.cls idx M'.1.cls M'.1 (Cond.code M'.1 M'.2.1 M'.2.2.1 (some ty) :: TW)) := lw_goodIn (fun _ h => h) _ (by
    intro w hw
    rw [hty] at c1
    simp only [wsV, List.mem_append, List.mem_cons, List.not_mem_nil, or_false] at hw
    rcases hw with (rfl | rfl | rfl | rfl) | rfl | hw
    · exact hlk
    · exact hv.1
    · exact hv.2
    · exact c2
    · exact c1
    · exact hw)
  rw [pu_map]
  refine va_calli (va_runV (As := As.map (cv ad)) (rest := st.map (cv ad)) ⟨hx, hb, hml, hown, hts⟩ hM (cwV n hts hG rfl rfl rfl ⟨rfl, c3, c4, c5⟩ ⟨by rw [R1]; exact hroom.1, by rw [R2]; exact hroom.2⟩) ⟨call_pre, va_recv hK hP k3 (WS_obj k1 k2), fun U hU hW => ⟨rfl, by rw [hU], by rw [hU]; exact hP, va_K.moved hW.alike hK, AD_true hAD⟩⟩ rfl (by rw [List.length_map]; exact hn) hl.1 rfl (lv_room (by rw [cat_sum]; exact hst)) h1 ⟨R3, R4⟩) hS (fun q _ h => AD_A hAD hS hA q h) (AD_A hAD hS hA) (fun r2 u t H1 locs1 ht hvm hw hB hz1 hk1 hS1 => ?_)
  subst hw
  rw [ht] at hB
  exact k r2 g1 r g' hF p l e R s m args below meth c D ad cs A cells slots Z C E H1 locs1 ls hB hS1 hl
theorem aw_callVv {idx n a : Nat} {As : List AV} {Fc : Option (Int32 × Mem)} {K : Int32 → Mem → Option (Int32 × Mem)} (h : IN M pc (.invokevirtual idx) 3 pc') (hlk : Cond.methodLink M.1.cls idx M'.1 ∈ TW) (hm : MC M' n) (hv : MV M') (hty : M'.2.2.2.1 = none) (hk : RC a M'.1.cls) (hC : CT M' (.inr a :: As) g Fc) (hn : As.length = n) (hst : st.length ≤ 8) (hroom : M'.2.2.2.2.1 + 1 ≤ M.2.2.2.2.1 ∧ 8 + (M'.2.2.1 + 11) + M'.2.2.2.2.2 ≤ M.2.2.2.2.2) (k : ∀ (z : Int32) (g1 : Mem), aw M X pc' L st g1 (K z g1)) : aw M X pc L (pu As (.inr a :: st)) g (cl Fc K) := by
  intro r g' hF p l e R s m args below meth c D ad cs A cells slots Z C E H locs ls hP hS hl
  obtain ⟨h1, rfl⟩ := h
  obtain ⟨r1, g1, hc, hF⟩ := cl_some hF
  have hM := hC r1 g1 hc l D ad cs H.size
  obtain ⟨hx, hb, hml, hown, hts, hK, hAD, hA, ⟨R1, R2, R3, R4⟩, -⟩ := id C
  obtain ⟨c1, c2, c3, c4, c5⟩ := hm
  obtain ⟨k1, ci, rs, T, N, k2, k3⟩ := hk
  rw [hty] at hM
  have hG : GoodIn TW (wsV M.1.cls idx M'.1.cls M'.1 (Cond.code M'.1 M'.2.1 M'.2.2.1 none :: TW)) := lw_goodIn (fun _ h => h) _ (by
    intro w hw
    rw [hty] at c1
    simp only [wsV, List.mem_append, List.mem_cons, List.not_mem_nil, or_false] at hw
    rcases hw with (rfl | rfl | rfl | rfl) | rfl | hw
    · exact hlk
    · exact hv.1
    · exact hv.2
    · exact c2
    · exact c1
    · exact hw)
  rw [pu_map]
  refine va_callv (va_runV (As := As.map (cv ad)) (rest := st.map (cv ad)) ⟨hx, hb, hml, hown, hts⟩ hM (cwV n hts hG rfl rfl rfl ⟨rfl, c3, c4, c5⟩ ⟨by rw [R1]; exact hroom.1, by rw [R2]; exact hroom.2⟩) ⟨call_pre, va_recv hK hP k3 (WS_obj k1 k2), fun U hU hW => ⟨rfl, by rw [hU], by rw [hU]; exact hP, va_K.moved hW.alike hK, AD_true hAD⟩⟩ rfl (by rw [List.length_map]; exact hn) hl.1 rfl (lv_room (by rw [cat_sum]; exact hst)) h1 ⟨R3, R4⟩) hS (fun q _ h => AD_A hAD hS hA q h) (AD_A hAD hS hA) (fun u t H1 locs1 ht hvm hw hB hz1 hk1 hS1 => ?_)
  rw [ht] at hB
  exact k r1 g1 r g' hF p l e R s m args below meth c D ad cs A cells slots Z C E H1 locs1 ls hB hS1 hl
theorem aw_callS {idx n : Nat} {As : List AV} {Fc : Option (Int32 × Mem)} {K : Int32 → Mem → Option (Int32 × Mem)} {ty : FieldType} (h : IN M pc (.invokestatic idx) 3 pc') (hlk : Cond.methodLink M.1.cls idx M'.1 ∈ TW) (hm : MC M' n) (hv : Cond.static M'.1 ∈ TW) (hty : M'.2.2.2.1 = some ty) (hC : CT M' As g Fc) (hn : As.length = n) (hst : st.length ≤ 8) (hroom : M'.2.2.2.2.1 + 1 ≤ M.2.2.2.2.1 ∧ 8 + (M'.2.2.1 + 11) + M'.2.2.2.2.2 ≤ M.2.2.2.2.2) (k : ∀ (z : Int32) (g1 : Mem), aw M X pc' L (.inl z :: st) g1 (K z g1)) : aw M X pc L (pu As st) g (cl Fc K) := by
  intro r g' hF p l e R s m args below meth c D ad cs A cells slots Z C E H locs ls hP hS hl
  obtain ⟨h1, rfl⟩ := h
  obtain ⟨r1, g1, hc, hF⟩ := cl_some hF
  have hM := hC r1 g1 hc l D ad cs H.size
  obtain ⟨hx, hb, hml, hown, hts, hK, hAD, hA, ⟨R1, R2, R3, R4⟩, -⟩ := id C
  obtain ⟨c1, c2, c3, c4, c5⟩ := hm
  rw [hty] at hM
  have hG : GoodIn TW (va_wsS M.1.cls idx M'.1 (Cond.code M'.1 M'.2.1 M'.2.2.1 (some ty) :: TW)) := lw_goodIn (fun _ h => h) _ (by
    intro w hw
    rw [hty] at c1
    simp only [va_wsS, List.mem_append, List.mem_cons, List.not_mem_nil, or_false] at hw
    rcases hw with (rfl | rfl | rfl) | rfl | hw
    · exact hlk
    · exact hv
    · exact c2
    · exact c1
    · exact hw)
  rw [pu_map]
  refine va_calli (va_runS (As := As.map (cv ad)) (rest := st.map (cv ad)) ⟨hx, hb, hml, hown, hts⟩ hM (va_cwS n hts hG rfl rfl rfl ⟨c3, c4, c5⟩ ⟨by rw [R1]; exact hroom.1, by rw [R2]; exact hroom.2⟩) ⟨call_pre, fun U hU hW => ⟨rfl, by rw [hU], by rw [hU]; exact hP, va_K.moved hW.alike hK, AD_true hAD⟩⟩ rfl (by rw [List.length_map]; exact hn) hl.1 rfl (lv_room (by rw [cat_sum]; exact hst)) h1 ⟨R3, R4⟩) hS (fun q _ h => AD_A hAD hS hA q h) (AD_A hAD hS hA) (fun r2 u t H1 locs1 ht hvm hw hB hz1 hk1 hS1 => ?_)
  subst hw
  rw [ht] at hB
  exact k r2 g1 r g' hF p l e R s m args below meth c D ad cs A cells slots Z C E H1 locs1 ls hB hS1 hl
theorem aw_callSv {idx n : Nat} {As : List AV} {Fc : Option (Int32 × Mem)} {K : Int32 → Mem → Option (Int32 × Mem)} (h : IN M pc (.invokestatic idx) 3 pc') (hlk : Cond.methodLink M.1.cls idx M'.1 ∈ TW) (hm : MC M' n) (hv : Cond.static M'.1 ∈ TW) (hty : M'.2.2.2.1 = none) (hC : CT M' As g Fc) (hn : As.length = n) (hst : st.length ≤ 8) (hroom : M'.2.2.2.2.1 + 1 ≤ M.2.2.2.2.1 ∧ 8 + (M'.2.2.1 + 11) + M'.2.2.2.2.2 ≤ M.2.2.2.2.2) (k : ∀ (z : Int32) (g1 : Mem), aw M X pc' L st g1 (K z g1)) : aw M X pc L (pu As st) g (cl Fc K) := by
  intro r g' hF p l e R s m args below meth c D ad cs A cells slots Z C E H locs ls hP hS hl
  obtain ⟨h1, rfl⟩ := h
  obtain ⟨r1, g1, hc, hF⟩ := cl_some hF
  have hM := hC r1 g1 hc l D ad cs H.size
  obtain ⟨hx, hb, hml, hown, hts, hK, hAD, hA, ⟨R1, R2, R3, R4⟩, -⟩ := id C
  obtain ⟨c1, c2, c3, c4, c5⟩ := hm
  rw [hty] at hM
  have hG : GoodIn TW (va_wsS M.1.cls idx M'.1 (Cond.code M'.1 M'.2.1 M'.2.2.1 none :: TW)) := lw_goodIn (fun _ h => h) _ (by
    intro w hw
    rw [hty] at c1
    simp only [va_wsS, List.mem_append, List.mem_cons, List.not_mem_nil, or_false] at hw
    rcases hw with (rfl | rfl | rfl) | rfl | hw
    · exact hlk
    · exact hv
    · exact c2
    · exact c1
    · exact hw)
  rw [pu_map]
  refine va_callv (va_runS (As := As.map (cv ad)) (rest := st.map (cv ad)) ⟨hx, hb, hml, hown, hts⟩ hM (va_cwS n hts hG rfl rfl rfl ⟨c3, c4, c5⟩ ⟨by rw [R1]; exact hroom.1, by rw [R2]; exact hroom.2⟩) ⟨call_pre, fun U hU hW => ⟨rfl, by rw [hU], by rw [hU]; exact hP, va_K.moved hW.alike hK, AD_true hAD⟩⟩ rfl (by rw [List.length_map]; exact hn) hl.1 rfl (lv_room (by rw [cat_sum]; exact hst)) h1 ⟨R3, R4⟩) hS (fun q _ h => AD_A hAD hS hA q h) (AD_A hAD hS hA) (fun u t H1 locs1 ht hvm hw hB hz1 hk1 hS1 => ?_)
  rw [ht] at hB
  exact k r1 g1 r g' hF p l e R s m args below meth c D ad cs A cells slots Z C E H1 locs1 ls hB hS1 hl
/-- a walk from the entry gives the contract -/
def lsl : List AV → Nat → List (Option AV)
  | as, 0 => as.map some
  | as, n => as.map some ++ List.replicate (n - as.length) none
theorem nth_args {As : List AV} {k : Nat} {w : AV} {n : Nat} (h : nth (As.map some ++ List.replicate n none) k = some w) : As[k]? = some w := by
  induction As generalizing k with
  | nil =>
    exfalso
    induction n generalizing k with
    | zero => cases h
    | succ n ih => cases k with
      | zero => cases h
      | succ k => exact ih h
  | cons a t ih =>
    cases k with
    | zero => exact h
    | succ k => simpa using ih h
theorem args_at (ad : Nat → Nat) (As : List AV) : ∀ (j k : Nat) (w : AV), As[k]? = some w → (j + k, cv ad w) ∈ lv_args j (As.map (cv ad)) := by
  induction As with
  | nil => intro j k w h; cases k <;> cases h
  | cons a t ih =>
    intro j k w h
    have hc : lv_args j ((a :: t).map (cv ad)) = (j, cv ad a) :: lv_args (j + 1) (t.map (cv ad)) := by
      cases a <;> rfl
    rw [hc]
    cases k with
    | zero => cases h; exact List.mem_cons_self
    | succ k =>
      refine List.mem_cons_of_mem _ ?_
      have := ih (j + 1) k w (by simpa using h)
      rw [show j + (k + 1) = j + 1 + k by omega]
      exact this
theorem sl_len (ad : Nat → Nat) (As : List AV) : (lg_sl (As.map (cv ad))).length = As.length := by
  induction As with
  | nil => rfl
  | cons a t ih =>
    have hc : lg_sl ((a :: t).map (cv ad)) = Slot.val (cv ad a) :: lg_sl (t.map (cv ad)) := by cases a <;> rfl
    rw [hc, List.length_cons, ih, List.length_cons]
theorem CT.of {As : List AV} {nr : Nat} (hy : plainName M.1.cls = true) (hnL : As.length ≤ M.2.2.1) (hret : M.2.2.2.1 = none ∨ M.2.2.2.1 = some .int ∨ M.2.2.2.1 = some .boolean) (k : aw M none 0 (As.map some ++ List.replicate nr none) [] g F) : CT M As g F := by
  intro r g' hF l D ad cs sz
  refine Met.ofW (cc := M.2.1) (maxL := M.2.2.1) (ret := M.2.2.2.1) hy rfl ?_
  intro p e s m args below meth c s₁ B hml hv
  obtain ⟨rfl, hsz, hP, hK, hD0⟩ := hv
  have hx := B.exec
  have hb := B.bytes
  have hr := B.returns
  have hts := atoms_spec (ws := Cond.code M.1 M.2.1 M.2.2.1 M.2.2.2.1 :: TW) B.pre
  have hown : s.vm.findClass M.1.cls = some m.cls := findClass_of_methodNamed B.named
  have hlocks := B.notSynchronized
  subst hsz
  have hAD : AD (va_A (WS ad cs g) s.heap.size) ad := ⟨hD0.1, fun q h => Or.inl ⟨q, _, WS_get h⟩⟩
  have hl := lv_entry (As.map (cv ad)) (n := M.2.2.1) (by rw [sl_len]; exact hnL)
  rw [lg_entry_eq]
  generalize (lg_sl (As.map (cv ad)) ++ List.replicate (M.2.2.1 - (lg_sl (As.map (cv ad))).length) Slot.unset).toArray = ls at hl ⊢
  have C : CX M none p (headSpec (Cond.code M.1 M.2.1 M.2.2.1 M.2.2.2.1 :: TW) { frames := M.2.2.2.2.1, cells := 0, slots := 0, locals := M.2.2.2.2.2 }).room s m (As.map (cv ad)).toArray c D ad cs (va_A (WS ad cs g) s.heap.size) 0 0 :=
    ⟨hx, hb, hml, hown, fun w h => hts w (List.mem_cons_of_mem _ h), hK, hAD, fun q h => Or.inr h, ⟨rfl, rfl, Nat.le_refl 0, Nat.le_refl 0⟩, fun q h => by cases h⟩
  refine k r g' hF p l e _ s m _ below meth c D ad cs _ 0 0 _ C ?_ s.heap [] ls hP va_S.rf ⟨hl.1, hl.2.1, fun i w hw => ?_⟩
  · intro H locs ls2 pc2 hP2 hS2
    refine ⟨fun hd hn hz => ?_, fun hd hn hr0 => ?_⟩
    · rcases hret with h0 | h0 | h0
      · exact absurd h0 hn
      · rw [h0]
        exact W.iret hx hb (by rw [hr, h0]) (fun t ht hW => ⟨⟨r, (), rfl, rfl, by show va_P D vwCl (WS ad cs g') t.heap; rw [ht]; exact hP2⟩, hS2.F ht⟩) hS2.2.2 hd hlocks
      · rw [h0]
        exact W.zret (ty := .boolean) hx hb (by rw [hr, h0]) (nar_z (hz h0)) (fun t ht hW => ⟨⟨r, (), rfl, rfl, by show va_P D vwCl (WS ad cs g') t.heap; rw [ht]; exact hP2⟩, hS2.F ht⟩) hS2.2.2 hd hlocks
    · rw [hn]
      exact W.vret hx hb (by rw [hr, hn]) (fun t ht hW => ⟨⟨(), rfl, hr0, by show va_P D vwCl (WS ad cs g') t.heap; rw [ht]; exact hP2⟩, hS2.F ht⟩) hS2.2.2 hd hlocks
  · have := args_at ad As 0 i w (nth_args hw)
    rw [Nat.zero_add] at this
    exact hl.2.2 _ this
def TS (M : MT) (pc : Nat) (v : Int32) (tgt : Nat) : Prop := ∃ (d lo hi : Int) (offs : Array Int) (len : Nat) (off : Int), decode M.2.1 pc = .ok (.tableswitch d lo hi offs, len) ∧ ¬ v.toInt < lo ∧ ¬ hi < v.toInt ∧ offs[(v.toInt - lo).toNat]? = some off ∧ (pc : Int) + off = (tgt : Int)
def TD (M : MT) (pc : Nat) (lo hi : Int) (tgt : Nat) : Prop := ∃ (d : Int) (offs : Array Int) (len : Nat), decode M.2.1 pc = .ok (.tableswitch d lo hi offs, len) ∧ (pc : Int) + d = (tgt : Int)
theorem aw_tsw (h : TS M pc v tgt) (hx : x = v) (k : aw M X tgt L st g F) : aw M X pc L (.inl x :: st) g F := by
  intro r g' hF p l e R s m args below meth c D ad cs A cells slots Z C E H locs ls hP hS hl
  obtain ⟨d, lo, hi, offs, len, off, h1, h2, h3, h4, h5⟩ := h
  subst hx
  exact lv_tableIn C.1 C.2.1 h1 h2 h3 h4 h5 (k r g' hF p l e R s m args below meth c D ad cs A cells slots Z C E H locs ls hP hS hl)
theorem aw_tsd {lo hi : Int} (h : TD M pc lo hi tgt) (hx : x.toInt < lo ∨ hi < x.toInt) (k : aw M X tgt L st g F) : aw M X pc L (.inl x :: st) g F := by
  intro r g' hF p l e R s m args below meth c D ad cs A cells slots Z C E H locs ls hP hS hl
  obtain ⟨d, offs, len, h1, h2⟩ := h
  exact lv_tableOut C.1 C.2.1 h1 hx h2 (k r g' hF p l e R s m args below meth c D ad cs A cells slots Z C E H locs ls hP hS hl)
theorem aw_lsw {d off : Int} {ps : Array (Int × Int)} {len : Nat} (h : decode M.2.1 pc = .ok (.lookupswitch d ps, len)) (hp : (ps.toList.zip (ps.toList.drop 1)).all (fun (a, next) => a.1 < next.1) = true) (ho : Op.lookupswitch.offset ps.toList d x.toInt = off) (ht : (pc : Int) + off = (tgt : Int)) (k : aw M X tgt L st g F) : aw M X pc L (.inl x :: st) g F := by
  intro r g' hF p l e R s m args below meth c D ad cs A cells slots Z C E H locs ls hP hS hl
  exact lv_lookup C.1 C.2.1 h hp ho ht (k r g' hF p l e R s m args below meth c D ad cs A cells slots Z C E H locs ls hP hS hl)
theorem ne_toInt {x v : Int32} {a : Int} (h : ¬ x = v) (hv : v.toInt = a) : x.toInt ≠ a := fun q => h (Int32.toInt_inj.mp (by rw [hv]; exact q))
end AWS
