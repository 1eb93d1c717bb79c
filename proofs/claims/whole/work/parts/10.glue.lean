/-! THE CLAIM OUT OF ONE WALK OF THE LAW'S BODY. Your part is whole_start (and what it stands on); all else here is the same for every law, but numbers. -/
def R_law : String := "ThreeRiddlesLaw"
def lw_P (b : Addr) (xs : List Int32) (args : Array Value) (s : State) : Prop := args = #[.ref b] ∧ s.IntsAt b xs ∧ xs.length ≤ 3072 ∧ (Jvm.Cond.and given_1 narrow_1).before args s = true
def lw_Q (_ : Array Value) (s : State) (o : Outcome) (t : State) : Prop := o = .returned (some (.int 1)) ∧ Framed s o t [] 73 3327
def lw_Z (below : List Frame) (a : Array Value) (s : State) : State → Prop := fun t => ∃ o, t.status = .running ∧ Ended t below o ∧ lw_Q a s o t
/-- the law's own end, with 1 on the stack, nothing written that was there before, its room as the claim has it -/
theorem lw_ret {p : Program} {l : Launch} {e : Env} {s : State} {m : MethodId} {below : List Frame} {meth : Method} {c : Code} {b : Nat} (hx : p.tables.exec = Jvm.exec) (hb : c.code = code) (hr : meth.sig.returnType = ret) (hlocks : meth.locks = false) {pc : Nat} {H : Heap} {ls : Array Slot} (hdg : decode code pc = .ok (.ireturn, 1)) : W p l e room_1 s m #[Value.ref b] below meth c H [] 73 3327 (lw_Z below #[Value.ref b] s) (F0 m pc ls [.int 1]) := by
  intro T hT X
  obtain ⟨fs, hret, hrun, hended, hW, hframe⟩ := X.leave (v := some (.int 1)) (hlocks := hlocks) (fun h => by rw [hr] at h; cases h)
  have hmeth' : T.vm.method? m = some meth := X.method'
  refine ⟨T.setFrames fs, ?_, .returned (some (.int 1)), hrun, hended, rfl, ⟨_, rfl⟩, hW, hframe⟩
  jvm_step X.here [X.here.top, hx, hb, hdg, hmeth', hr, ret, narrow_b1]
  (try refine ⟨rfl, ?_⟩); (try refine ⟨rfl, ?_⟩)
  first | (intro acts; rw [hret _ acts rfl rfl rfl]) | rw [hret _ _ rfl rfl rfl]
  exact Steps.refl _
/-- what holds at the law's entry: the machine, the code, the tables' words (any of lw_tbl by 'hts w (by decide +kernel)'), the script of L ints xs at the cell b, what the Statement gives of the start (any of its parts by flat_of_before) -/
def lw_At (p : Program) (s : State) (m : MethodId) (meth : Method) (c : Code) (b L : Nat) (xs : Nat → Int32) : Prop :=
  p.tables.exec = Jvm.exec ∧ c.code = code ∧ meth.sig.returnType = ret ∧ c.maxLocals = 4 ∧ s.vm.findClass R_law = some m.cls ∧ (∀ w ∈ lw_tbl, w.before #[Value.ref b] s = true) ∧ va_X b L xs s s.heap ∧ b < s.heap.size ∧ meth.locks = false ∧ (Jvm.Cond.and given_1 narrow_1).before #[Value.ref b] s = true
theorem dL_law_0 : decode cL_law 0 = .ok (.new 7, 3) := by decide +kernel
theorem dL_law_3 : decode cL_law 3 = .ok (.dup, 1) := by decide +kernel
theorem dL_law_4 : decode cL_law 4 = .ok (.invokespecial 9, 3) := by decide +kernel
theorem dL_law_7 : decode cL_law 7 = .ok (.astore_n 1, 1) := by decide +kernel
theorem dL_law_8 : decode cL_law 8 = .ok (.new 10, 3) := by decide +kernel
theorem dL_law_11 : decode cL_law 11 = .ok (.dup, 1) := by decide +kernel
theorem dL_law_12 : decode cL_law 12 = .ok (.invokespecial 12, 3) := by decide +kernel
theorem dL_law_15 : decode cL_law 15 = .ok (.astore_n 2, 1) := by decide +kernel
theorem clL_7 : Cond.classLink RL 7 RX6 ∈ TW := tw 70 (by decide +kernel) (by decide +kernel)
theorem clL_10 : Cond.classLink RL 10 RX7 ∈ TW := tw 777 (by decide +kernel) (by decide +kernel)
theorem lkL_9 : Cond.methodLink RL 9 yX6_init ∈ TW := tw 72 (by decide +kernel) (by decide +kernel)
theorem cdX6_init : Cond.code yX6_init cX6_init 1 none ∈ TW := tw 74 (by decide +kernel) (by decide +kernel)
theorem inMX6_init : Cond.instanceMethod yX6_init ∈ TW := tw 73 (by decide +kernel) (by decide +kernel)
theorem lkL_12 : Cond.methodLink RL 12 yX7_init ∈ TW := tw 779 (by decide +kernel) (by decide +kernel)
theorem cdX7_init : Cond.code yX7_init cX7_init 2 none ∈ TW := tw 781 (by decide +kernel) (by decide +kernel)
theorem inMX7_init : Cond.instanceMethod yX7_init ∈ TW := tw 780 (by decide +kernel) (by decide +kernel)
theorem isX6 : Cond.instantiable RX6 11 ∈ TW := tw 71 (by decide +kernel) (by decide +kernel)
theorem iniX6 : Cond.initialized RX6 ∈ TW := tw 58 (by decide +kernel) (by decide +kernel)
theorem isX7 : Cond.instantiable RX7 21 ∈ TW := tw 778 (by decide +kernel) (by decide +kernel)
theorem iniX7 : Cond.initialized RX7 ∈ TW := tw 65 (by decide +kernel) (by decide +kernel)
theorem aoC : Cond.arrayOver (.object "ThreeRiddles$Court") ∈ lw_tbl := List.mem_of_getElem? (i := 220) (by decide +kernel)
theorem nlX4 : Cond.methodLinkNest RX6 9 yX4_init "ThreeRiddles" ∈ lw_tbl := List.mem_of_getElem? (i := 80) (by decide +kernel)
theorem nlX5 : Cond.methodLinkNest RX6 18 yX5_init "ThreeRiddles" ∈ lw_tbl := List.mem_of_getElem? (i := 97) (by decide +kernel)
theorem nlX2 : Cond.methodLinkNest RX6 25 yX2_init "ThreeRiddles" ∈ lw_tbl := List.mem_of_getElem? (i := 122) (by decide +kernel)
theorem nlX0 : Cond.methodLinkNest RX6 39 yX0_init "ThreeRiddles" ∈ lw_tbl := List.mem_of_getElem? (i := 223) (by decide +kernel)
theorem nlX3 : Cond.methodLinkNest RX6 46 yX3_init "ThreeRiddles" ∈ lw_tbl := List.mem_of_getElem? (i := 255) (by decide +kernel)
theorem nlX1 : Cond.methodLinkNest RX6 53 yX1_init "ThreeRiddles" ∈ lw_tbl := List.mem_of_getElem? (i := 268) (by decide +kernel)
set_option maxHeartbeats 4000000 in
set_option maxRecDepth 100000 in
theorem WS_list (ad : Nat → Nat) (cs : Nat → ClassId) (g : Mem) : WS ad cs g = [(ad 0, .inr (6, [.ref (ad 1), .ref (ad 5), .ref (ad 7), .ref (ad 17), .ref (ad 27), .ref (ad 48), .ref (ad 55), .ref (ad 58), .ref (ad 60), .int (g 0 9), .int (g 0 10)])), (ad 1, .inr (4, [.ref (ad 2), .ref (ad 3), .ref (ad 4)])), (ad 2, .inl (cs 0, 8, .inl (g 2))), (ad 3, .inl (cs 0, 8, .inl (g 3))), (ad 4, .inl (cs 0, 320, .inl (g 4))), (ad 5, .inr (5, [.ref (ad 6), .int (g 5 1), .int (g 5 2), .int (g 5 3), .int (g 5 4)])), (ad 6, .inl (cs 0, 120, .inl (g 6))), (ad 7, .inr (2, [.int (g 7 0), .int (g 7 1), .int (g 7 2), .int (g 7 3), .ref (ad 8), .int (g 7 5), .ref (ad 9), .ref (ad 10), .ref (ad 11), .ref (ad 12), .int (g 7 10), .ref (ad 13), .ref (ad 14), .ref (ad 15), .ref (ad 16), .int (g 7 15), .int (g 7 16)])), (ad 8, .inl (cs 0, 8, .inl (g 8))), (ad 9, .inl (cs 0, 6, .inl (g 9))), (ad 10, .inl (cs 0, 6, .inl (g 10))), (ad 11, .inl (cs 0, 6, .inl (g 11))), (ad 12, .inl (cs 0, 6, .inl (g 12))), (ad 13, .inl (cs 0, 4, .inl (g 13))), (ad 14, .inl (cs 0, 4, .inl (g 14))), (ad 15, .inl (cs 0, 4, .inl (g 15))), (ad 16, .inl (cs 0, 4, .inl (g 16))), (ad 17, .inr (2, [.int (g 17 0), .int (g 17 1), .int (g 17 2), .int (g 17 3), .ref (ad 18), .int (g 17 5), .ref (ad 19), .ref (ad 20), .ref (ad 21), .ref (ad 22), .int (g 17 10), .ref (ad 23), .ref (ad 24), .ref (ad 25), .ref (ad 26), .int (g 17 15), .int (g 17 16)])), (ad 18, .inl (cs 0, 8, .inl (g 18))), (ad 19, .inl (cs 0, 6, .inl (g 19))), (ad 20, .inl (cs 0, 6, .inl (g 20))), (ad 21, .inl (cs 0, 6, .inl (g 21))), (ad 22, .inl (cs 0, 6, .inl (g 22))), (ad 23, .inl (cs 0, 4, .inl (g 23))), (ad 24, .inl (cs 0, 4, .inl (g 24))), (ad 25, .inl (cs 0, 4, .inl (g 25))), (ad 26, .inl (cs 0, 4, .inl (g 26))), (ad 27, .inl (cs 2, 2, .inr (.inr (.inr (.inr (fun i : Nat => ((([some 28, some 38] : List (Option Nat))[i]?).getD none).map ad)))))), (ad 28, .inr (2, [.int (g 28 0), .int (g 28 1), .int (g 28 2), .int (g 28 3), .ref (ad 29), .int (g 28 5), .ref (ad 30), .ref (ad 31), .ref (ad 32), .ref (ad 33), .int (g 28 10), .ref (ad 34), .ref (ad 35), .ref (ad 36), .ref (ad 37), .int (g 28 15), .int (g 28 16)])), (ad 29, .inl (cs 0, 8, .inl (g 29))), (ad 30, .inl (cs 0, 6, .inl (g 30))), (ad 31, .inl (cs 0, 6, .inl (g 31))), (ad 32, .inl (cs 0, 6, .inl (g 32))), (ad 33, .inl (cs 0, 6, .inl (g 33))), (ad 34, .inl (cs 0, 4, .inl (g 34))), (ad 35, .inl (cs 0, 4, .inl (g 35))), (ad 36, .inl (cs 0, 4, .inl (g 36))), (ad 37, .inl (cs 0, 4, .inl (g 37))), (ad 38, .inr (2, [.int (g 38 0), .int (g 38 1), .int (g 38 2), .int (g 38 3), .ref (ad 39), .int (g 38 5), .ref (ad 40), .ref (ad 41), .ref (ad 42), .ref (ad 43), .int (g 38 10), .ref (ad 44), .ref (ad 45), .ref (ad 46), .ref (ad 47), .int (g 38 15), .int (g 38 16)])), (ad 39, .inl (cs 0, 8, .inl (g 39))), (ad 40, .inl (cs 0, 6, .inl (g 40))), (ad 41, .inl (cs 0, 6, .inl (g 41))), (ad 42, .inl (cs 0, 6, .inl (g 42))), (ad 43, .inl (cs 0, 6, .inl (g 43))), (ad 44, .inl (cs 0, 4, .inl (g 44))), (ad 45, .inl (cs 0, 4, .inl (g 45))), (ad 46, .inl (cs 0, 4, .inl (g 46))), (ad 47, .inl (cs 0, 4, .inl (g 47))), (ad 48, .inr (0, [.ref (ad 49), .ref (ad 50), .ref (ad 51), .ref (ad 52), .ref (ad 53), .ref (ad 54), .int (g 48 6), .int (g 48 7)])), (ad 49, .inl (cs 0, 24, .inl (g 49))), (ad 50, .inl (cs 0, 24, .inl (g 50))), (ad 51, .inl (cs 0, 24, .inl (g 51))), (ad 52, .inl (cs 0, 24, .inl (g 52))), (ad 53, .inl (cs 0, 24, .inl (g 53))), (ad 54, .inl (cs 0, 24, .inl (g 54))), (ad 55, .inr (3, [.ref (ad 56), .ref (ad 57)])), (ad 56, .inl (cs 0, 256, .inl (g 56))), (ad 57, .inl (cs 0, 5, .inl (g 57))), (ad 58, .inr (1, [.ref (ad 59), .int (g 58 1)])), (ad 59, .inl (cs 0, 16, .inl (g 59))), (ad 60, .inl (cs 0, 6, .inl (g 60))), (ad 61, .inr (7, [.ref (ad 62), .ref (ad 63), .ref (ad 64), .int (g 61 3), .int (g 61 4), .ref (ad 65), .int (g 61 6), .int (g 61 7), .int (g 61 8), .int (g 61 9), .int (g 61 10), .int (g 61 11), .ref (ad 66), .ref (ad 67), .ref (ad 68), .ref (ad 69), .ref (ad 70), .int (g 61 17), .ref (ad 71), .int (g 61 19), .ref (ad 72)])), (ad 62, .inl (cs 0, 8, .inl (g 62))), (ad 63, .inl (cs 0, 8, .inl (g 63))), (ad 64, .inl (cs 0, 320, .inl (g 64))), (ad 65, .inl (cs 0, 120, .inl (g 65))), (ad 66, .inl (cs 0, 50, .inl (g 66))), (ad 67, .inl (cs 0, 50, .inl (g 67))), (ad 68, .inl (cs 0, 100, .inl (g 68))), (ad 69, .inl (cs 1, 2, .inl (g 69))), (ad 70, .inl (cs 0, 1200, .inl (g 70))), (ad 71, .inl (cs 0, 16, .inl (g 71))), (ad 72, .inl (cs 0, 256, .inl (g 72)))] := by
  apply List.ext_getElem?
  intro k
  by_cases hk : k < 73
  · rw [WS_get hk]
    match k, hk with
    | 0, _ => rw [zsh0]; rfl
    | 1, _ => rw [zsh1]; rfl
    | 2, _ => rw [zsh2]; rfl
    | 3, _ => rw [zsh3]; rfl
    | 4, _ => rw [zsh4]; rfl
    | 5, _ => rw [zsh5]; rfl
    | 6, _ => rw [zsh6]; rfl
    | 7, _ => rw [zsh7]; rfl
    | 8, _ => rw [zsh8]; rfl
    | 9, _ => rw [zsh9]; rfl
    | 10, _ => rw [zsh10]; rfl
    | 11, _ => rw [zsh11]; rfl
    | 12, _ => rw [zsh12]; rfl
    | 13, _ => rw [zsh13]; rfl
    | 14, _ => rw [zsh14]; rfl
    | 15, _ => rw [zsh15]; rfl
    | 16, _ => rw [zsh16]; rfl
    | 17, _ => rw [zsh17]; rfl
    | 18, _ => rw [zsh18]; rfl
    | 19, _ => rw [zsh19]; rfl
    | 20, _ => rw [zsh20]; rfl
    | 21, _ => rw [zsh21]; rfl
    | 22, _ => rw [zsh22]; rfl
    | 23, _ => rw [zsh23]; rfl
    | 24, _ => rw [zsh24]; rfl
    | 25, _ => rw [zsh25]; rfl
    | 26, _ => rw [zsh26]; rfl
    | 27, _ => rw [zsh27]; rfl
    | 28, _ => rw [zsh28]; rfl
    | 29, _ => rw [zsh29]; rfl
    | 30, _ => rw [zsh30]; rfl
    | 31, _ => rw [zsh31]; rfl
    | 32, _ => rw [zsh32]; rfl
    | 33, _ => rw [zsh33]; rfl
    | 34, _ => rw [zsh34]; rfl
    | 35, _ => rw [zsh35]; rfl
    | 36, _ => rw [zsh36]; rfl
    | 37, _ => rw [zsh37]; rfl
    | 38, _ => rw [zsh38]; rfl
    | 39, _ => rw [zsh39]; rfl
    | 40, _ => rw [zsh40]; rfl
    | 41, _ => rw [zsh41]; rfl
    | 42, _ => rw [zsh42]; rfl
    | 43, _ => rw [zsh43]; rfl
    | 44, _ => rw [zsh44]; rfl
    | 45, _ => rw [zsh45]; rfl
    | 46, _ => rw [zsh46]; rfl
    | 47, _ => rw [zsh47]; rfl
    | 48, _ => rw [zsh48]; rfl
    | 49, _ => rw [zsh49]; rfl
    | 50, _ => rw [zsh50]; rfl
    | 51, _ => rw [zsh51]; rfl
    | 52, _ => rw [zsh52]; rfl
    | 53, _ => rw [zsh53]; rfl
    | 54, _ => rw [zsh54]; rfl
    | 55, _ => rw [zsh55]; rfl
    | 56, _ => rw [zsh56]; rfl
    | 57, _ => rw [zsh57]; rfl
    | 58, _ => rw [zsh58]; rfl
    | 59, _ => rw [zsh59]; rfl
    | 60, _ => rw [zsh60]; rfl
    | 61, _ => rw [zsh61]; rfl
    | 62, _ => rw [zsh62]; rfl
    | 63, _ => rw [zsh63]; rfl
    | 64, _ => rw [zsh64]; rfl
    | 65, _ => rw [zsh65]; rfl
    | 66, _ => rw [zsh66]; rfl
    | 67, _ => rw [zsh67]; rfl
    | 68, _ => rw [zsh68]; rfl
    | 69, _ => rw [zsh69]; rfl
    | 70, _ => rw [zsh70]; rfl
    | 71, _ => rw [zsh71]; rfl
    | 72, _ => rw [zsh72]; rfl
    | k + 73, hk => exact absurd hk (by omega)
  · rw [List.getElem?_eq_none (by simp [WS]; omega), List.getElem?_eq_none (by show 73 ≤ k; omega)]
def g0 : Mem := fun k => if k = 62 then LANE0 else fun _ => 0
theorem nx_blind {D : va_G} {tys : List (ClassId × FieldType)} {ws : va_W} {A : Nat → Prop} {sz : Nat} {av : List Value} : FrameBlind (va_Pc av (fun U => U.heap.size = sz ∧ va_P D vwCl ws U.heap ∧ va_K D vwCl tys U ∧ va_D A ws ∧ NX U)) := by
  intro a U gg mk q
  obtain ⟨q0, q1, qP, qK, qD, n0, n1, n2, n3, n4, n5, n6⟩ := q
  exact ⟨q0, q1, qP, va_K.moved (u := U) (U := U.calling gg mk a) (Vm.Alike.refl U.vm) qK, qD, va_AO.moved (u := U) (U := U.calling gg mk a) (Vm.Alike.refl U.vm) n0, va_Nw.same rfl rfl n1, va_Nw.same rfl rfl n2, va_Nw.same rfl rfl n3, va_Nw.same rfl rfl n4, va_Nw.same rfl rfl n5, va_Nw.same rfl rfl n6⟩
set_option maxHeartbeats 4000000 in
set_option maxRecDepth 100000 in
theorem whole_of (hpure : ∀ (sn : Nat) (xs : Nat → Int32), sn ≤ 3072 → ∃ g' : Mem, fL_law sn xs g0 = some (1, g')) {p : Program} {e : Env} {s : State} {m : MethodId} {below : List Frame} {meth : Method} {c : Code} (l : Launch) {b L : Nat} {xs : Nat → Int32} (hL : L ≤ 3072) (C0 : lw_At p s m meth c b L xs) : W p l e room_1 s m #[Value.ref b] below meth c s.heap [] 0 0 (lw_Z below #[Value.ref b] s) (entryFrame m ([Value.ref b] : List Value).toArray 4) := by
  obtain ⟨hx, hb, hr, hml, hown, hts0, hX, hbl, hlocks, hgv⟩ := id C0
  have hts : ∀ w ∈ TW, w.before #[Value.ref b] s = true := fun w h => hts0 w (List.mem_filter.mp h).1
  have hA : ∀ q : Nat, s.heap.size ≤ q → (fun q : Nat => s.heap.size ≤ q) q := fun _ h => h
  have hbA : ¬ (fun q : Nat => s.heap.size ≤ q) b := Nat.not_le.mpr hbl
  obtain ⟨c0, iS0, hKn0⟩ := u_known (C := RX0) (T := TX0) (N := 8) (n := 8) hts inX0 (hts (.instantiable RX0 8) isX0)
  obtain ⟨c1, iS1, hKn1⟩ := u_known (C := RX1) (T := TX1) (N := 2) (n := 2) hts inX1 (hts (.instantiable RX1 2) isX1)
  obtain ⟨c2, iS2, hKn2⟩ := u_known (C := RX2) (T := TX2) (N := 17) (n := 17) hts inX2 (hts (.instantiable RX2 17) isX2)
  obtain ⟨c3, iS3, hKn3⟩ := u_known (C := RX3) (T := TX3) (N := 2) (n := 2) hts inX3 (hts (.instantiable RX3 2) isX3)
  obtain ⟨c4, iS4, hKn4⟩ := u_known (C := RX4) (T := TX4) (N := 3) (n := 3) hts inX4 (hts (.instantiable RX4 3) isX4)
  obtain ⟨c5, iS5, hKn5⟩ := u_known (C := RX5) (T := TX5) (N := 5) (n := 5) hts inX5 (hts (.instantiable RX5 5) isX5)
  obtain ⟨c6, iS6, hKn6⟩ := u_known (C := RX6) (T := TX6) (N := 11) (n := 11) hts inX6 (hts (.instantiable RX6 11) isX6)
  obtain ⟨c7, iS7, hKn7⟩ := u_known (C := RX7) (T := TX7) (N := 21) (n := 21) hts inX7 (hts (.instantiable RX7 21) isX7)
  obtain ⟨dC, dI, hKc⟩ : ∃ (dC : Nat → ClassId) (dI : Nat → Nat → Nat), ∀ (k : Nat) (q : vw_C), vwCl[k]? = some q → u_Kn s q.1 q.2.1 q.2.2 (dC k) (dI k) := by
    refine ⟨fun k => match k with | 0 => c0 | 1 => c1 | 2 => c2 | 3 => c3 | 4 => c4 | 5 => c5 | 6 => c6 | _ => c7, fun k => match k with | 0 => iS0 | 1 => iS1 | 2 => iS2 | 3 => iS3 | 4 => iS4 | 5 => iS5 | 6 => iS6 | _ => iS7, ?_⟩
    intro k q hq
    match k, hq with
    | 0, hq => cases hq; exact hKn0
    | 1, hq => cases hq; exact hKn1
    | 2, hq => cases hq; exact hKn2
    | 3, hq => cases hq; exact hKn3
    | 4, hq => cases hq; exact hKn4
    | 5, hq => cases hq; exact hKn5
    | 6, hq => cases hq; exact hKn6
    | 7, hq => cases hq; exact hKn7
    | k + 8, hq => simp [vwCl] at hq
  obtain ⟨cs, hcs⟩ : ∃ cs : Nat → ClassId, ∀ (k : Nat) (q : ClassId × FieldType), (TY cs)[k]? = some q → ArrOfT s q.1 q.2 ∧ va_RA s q.1 q.2 := by
    obtain ⟨cI, kI, compI, i1, i2, i3⟩ := Cond.arrayClass_spec (hts _ aclint)
    obtain ⟨cB, kB, compB, b1, b2, b3⟩ := Cond.arrayClass_spec (hts _ aclboolean)
    obtain ⟨compR, cR, kR, r1, r2, r3, r4, r5⟩ := Cond.arrayOver_spec (hts0 _ aoC)
    refine ⟨fun k => match k with | 0 => cI | 1 => cB | _ => cR, ?_⟩
    intro k q hq
    match k, hq with
    | 0, hq => cases hq; exact ⟨fun n z => ⟨fun k h => (by cases h), kI, i2, compI, i3⟩, i1⟩
    | 1, hq => cases hq; exact ⟨fun n z => ⟨fun k h => (by cases h), kB, b2, compB, b3⟩, b1⟩
    | 2, hq => cases hq; exact ⟨fun n z => ⟨fun k h => (by cases h), kR, r3, compR, r4⟩, kR, compR, r3, r4, r1, r5⟩
    | k + 3, hq => simp [TY] at hq
  have hK : va_K (dC, dI) vwCl (TY cs) s := ⟨hKc, hcs⟩
  have hAO : va_AO "ThreeRiddles$Court" s := va_AO.of (hts0 _ aoC)
  have hNX4 := va_Nw.of rfl (hts0 _ nlX4)
  have hNX5 := va_Nw.of rfl (hts0 _ nlX5)
  have hNX2 := va_Nw.of rfl (hts0 _ nlX2)
  have hNX0 := va_Nw.of rfl (hts0 _ nlX0)
  have hNX3 := va_Nw.of rfl (hts0 _ nlX3)
  have hNX1 := va_Nw.of rfl (hts0 _ nlX1)
  have hS : va_S (fun q : Nat => s.heap.size ≤ q) s.heap s.heap [] := va_S.rf
  have hP : va_P (dC, dI) vwCl [] s.heap := fun k q h => by simp at h
  have hD : va_D (fun q : Nat => s.heap.size ≤ q) [] := ⟨fun i j p q h => by simp at h, fun k q h => by simp at h⟩
  have hl := lv_entry ([.ref b]) (n := 4) (Nat.le_of_ble_eq_true rfl)
  rw [lg_entry_eq]
  generalize (lg_sl ([.ref b]) ++ List.replicate (4 - (lg_sl ([.ref b])).length) Slot.unset).toArray = ls at hl ⊢
  have hl : lv_has ls 4 [(0, .ref b)] := hl
  refine va_new (ci := 6) (fs := [.null, .null, .null, .null, .null, .null, .null, .null, .null, .int 0, .int 0]) (C := RX6) (T := TX6) (N := 11) hx hb hts inX6 tyX6 tyX6_ok hown (hts _ clL_7) (hts _ isX6) (hts _ iniX6) hK hP hD hS hA rfl (by decide +kernel) (Nat.le_of_ble_eq_true rfl) (Nat.le_of_ble_eq_true rfl) dL_law_0 (fun q0 H hP hD hS => ?_)
  have hP : va_P (dC, dI) vwCl [(q0, .inr (6, [.null, .null, .null, .null, .null, .null, .null, .null, .null, .int 0, .int 0]))] H := hP
  have hD : va_D (fun q : Nat => s.heap.size ≤ q) [(q0, .inr (6, [.null, .null, .null, .null, .null, .null, .null, .null, .null, .int 0, .int 0]))] := hD
  refine lv_dup hx hb dL_law_3 rfl ?_
  have hPc := hP.sub (ws' := [(q0, .inr (6, [.null, .null, .null, .null, .null, .null, .null, .null, .null, .int 0, .int 0]))]) [0] rfl
  have hDc := hD.sub (ws' := [(q0, .inr (6, [.null, .null, .null, .null, .null, .null, .null, .null, .null, .int 0, .int 0]))]) [0] (by decide) rfl
  have hFc := va_free (wc := [(q0, .inr (6, [.null, .null, .null, .null, .null, .null, .null, .null, .null, .int 0, .int 0]))]) hD hS hA [0] rfl
  refine va_callv (va_runI (As := []) (rest := [.ref q0]) ⟨hx, hb, hml, hown, hts⟩ (nX6_init l dC dI cs q0 H.size) (cwI 0 hts (gC cdX6_init) rfl rfl rfl (hts _ iniX6) (hts _ lkL_9) (hts _ inMX6_init) rfl (by decide +kernel) ⟨(Nat.le_of_ble_eq_true rfl), (Nat.le_of_ble_eq_true rfl)⟩) ⟨nx_blind, fun U hU hW => ⟨rfl, by rw [hU], by rw [hU]; exact hPc, va_K.moved hW.alike hK, hDc.weaken (fun _ _ _ _ => trivial), va_AO.moved hW.alike hAO, va_Nw.warmM hW hNX4, va_Nw.warmM hW hNX5, va_Nw.warmM hW hNX2, va_Nw.warmM hW hNX0, va_Nw.warmM hW hNX3, va_Nw.warmM hW hNX1⟩⟩ rfl rfl hl.1 rfl (lv_room (Nat.le_of_ble_eq_true rfl)) dL_law_4 ⟨(Nat.le_of_ble_eq_true rfl), (Nat.le_of_ble_eq_true rfl)⟩) hS (fun q _ h => hFc q h) hFc (fun u t H1 locs ht hvm hw hB hz1 hk1 hS => ?_)
  obtain ⟨hP1, hD1⟩ := hB
  rw [ht] at hP1
  obtain ⟨hP, hD⟩ := va_join (wr := []) (w1 := [(q0, .inr (6, [.ref (u 1), .ref (u 5), .ref (u 7), .ref (u 17), .ref (u 27), .ref (u 48), .ref (u 55), .ref (u 58), .ref (u 60), .int 0, .int 0])), ((u 1), .inr (4, [.ref (u 2), .ref (u 3), .ref (u 4)])), ((u 2), .inl (cs 0, 8, .inl (fun _ => 0))), ((u 3), .inl (cs 0, 8, .inl (fun _ => 0))), ((u 4), .inl (cs 0, 320, .inl (fun _ => 0))), ((u 5), .inr (5, [.ref (u 6), .int 0, .int 0, .int 0, .int 0])), ((u 6), .inl (cs 0, 120, .inl (fun _ => 0))), ((u 7), .inr (2, [.int 0, .int 0, .int 0, .int 0, .ref (u 8), .int 0, .ref (u 9), .ref (u 10), .ref (u 11), .ref (u 12), .int 0, .ref (u 13), .ref (u 14), .ref (u 15), .ref (u 16), .int 0, .int 0])), ((u 8), .inl (cs 0, 8, .inl (fun _ => 0))), ((u 9), .inl (cs 0, 6, .inl (fun _ => 0))), ((u 10), .inl (cs 0, 6, .inl (fun _ => 0))), ((u 11), .inl (cs 0, 6, .inl (fun _ => 0))), ((u 12), .inl (cs 0, 6, .inl (fun _ => 0))), ((u 13), .inl (cs 0, 4, .inl (fun _ => 0))), ((u 14), .inl (cs 0, 4, .inl (fun _ => 0))), ((u 15), .inl (cs 0, 4, .inl (fun _ => 0))), ((u 16), .inl (cs 0, 4, .inl (fun _ => 0))), ((u 17), .inr (2, [.int 0, .int 0, .int 0, .int 0, .ref (u 18), .int 0, .ref (u 19), .ref (u 20), .ref (u 21), .ref (u 22), .int 0, .ref (u 23), .ref (u 24), .ref (u 25), .ref (u 26), .int 0, .int 0])), ((u 18), .inl (cs 0, 8, .inl (fun _ => 0))), ((u 19), .inl (cs 0, 6, .inl (fun _ => 0))), ((u 20), .inl (cs 0, 6, .inl (fun _ => 0))), ((u 21), .inl (cs 0, 6, .inl (fun _ => 0))), ((u 22), .inl (cs 0, 6, .inl (fun _ => 0))), ((u 23), .inl (cs 0, 4, .inl (fun _ => 0))), ((u 24), .inl (cs 0, 4, .inl (fun _ => 0))), ((u 25), .inl (cs 0, 4, .inl (fun _ => 0))), ((u 26), .inl (cs 0, 4, .inl (fun _ => 0))), ((u 27), .inl (cs 2, 2, .inr (.inr (.inr (.inr (fun i => (([some (u 28), some (u 38)][i]?).getD none))))))), ((u 28), .inr (2, [.int 0, .int 0, .int 0, .int 0, .ref (u 29), .int 0, .ref (u 30), .ref (u 31), .ref (u 32), .ref (u 33), .int 0, .ref (u 34), .ref (u 35), .ref (u 36), .ref (u 37), .int 0, .int 0])), ((u 29), .inl (cs 0, 8, .inl (fun _ => 0))), ((u 30), .inl (cs 0, 6, .inl (fun _ => 0))), ((u 31), .inl (cs 0, 6, .inl (fun _ => 0))), ((u 32), .inl (cs 0, 6, .inl (fun _ => 0))), ((u 33), .inl (cs 0, 6, .inl (fun _ => 0))), ((u 34), .inl (cs 0, 4, .inl (fun _ => 0))), ((u 35), .inl (cs 0, 4, .inl (fun _ => 0))), ((u 36), .inl (cs 0, 4, .inl (fun _ => 0))), ((u 37), .inl (cs 0, 4, .inl (fun _ => 0))), ((u 38), .inr (2, [.int 0, .int 0, .int 0, .int 0, .ref (u 39), .int 0, .ref (u 40), .ref (u 41), .ref (u 42), .ref (u 43), .int 0, .ref (u 44), .ref (u 45), .ref (u 46), .ref (u 47), .int 0, .int 0])), ((u 39), .inl (cs 0, 8, .inl (fun _ => 0))), ((u 40), .inl (cs 0, 6, .inl (fun _ => 0))), ((u 41), .inl (cs 0, 6, .inl (fun _ => 0))), ((u 42), .inl (cs 0, 6, .inl (fun _ => 0))), ((u 43), .inl (cs 0, 6, .inl (fun _ => 0))), ((u 44), .inl (cs 0, 4, .inl (fun _ => 0))), ((u 45), .inl (cs 0, 4, .inl (fun _ => 0))), ((u 46), .inl (cs 0, 4, .inl (fun _ => 0))), ((u 47), .inl (cs 0, 4, .inl (fun _ => 0))), ((u 48), .inr (0, [.ref (u 49), .ref (u 50), .ref (u 51), .ref (u 52), .ref (u 53), .ref (u 54), .int 0, .int 0])), ((u 49), .inl (cs 0, 24, .inl (fun _ => 0))), ((u 50), .inl (cs 0, 24, .inl (fun _ => 0))), ((u 51), .inl (cs 0, 24, .inl (fun _ => 0))), ((u 52), .inl (cs 0, 24, .inl (fun _ => 0))), ((u 53), .inl (cs 0, 24, .inl (fun _ => 0))), ((u 54), .inl (cs 0, 24, .inl (fun _ => 0))), ((u 55), .inr (3, [.ref (u 56), .ref (u 57)])), ((u 56), .inl (cs 0, 256, .inl (fun _ => 0))), ((u 57), .inl (cs 0, 5, .inl (fun _ => 0))), ((u 58), .inr (1, [.ref (u 59), .int 0])), ((u 59), .inl (cs 0, 16, .inl (fun _ => 0))), ((u 60), .inl (cs 0, 6, .inl (fun _ => 0)))]) hP hD [0] [] rfl rfl (by decide) (by decide) hk1 hFc hP1 hD1
  generalize H1 = H at hP hS ⊢
  have hP : va_P (dC, dI) vwCl [(q0, .inr (6, [.ref (u 1), .ref (u 5), .ref (u 7), .ref (u 17), .ref (u 27), .ref (u 48), .ref (u 55), .ref (u 58), .ref (u 60), .int 0, .int 0])), ((u 1), .inr (4, [.ref (u 2), .ref (u 3), .ref (u 4)])), ((u 2), .inl (cs 0, 8, .inl (fun _ => 0))), ((u 3), .inl (cs 0, 8, .inl (fun _ => 0))), ((u 4), .inl (cs 0, 320, .inl (fun _ => 0))), ((u 5), .inr (5, [.ref (u 6), .int 0, .int 0, .int 0, .int 0])), ((u 6), .inl (cs 0, 120, .inl (fun _ => 0))), ((u 7), .inr (2, [.int 0, .int 0, .int 0, .int 0, .ref (u 8), .int 0, .ref (u 9), .ref (u 10), .ref (u 11), .ref (u 12), .int 0, .ref (u 13), .ref (u 14), .ref (u 15), .ref (u 16), .int 0, .int 0])), ((u 8), .inl (cs 0, 8, .inl (fun _ => 0))), ((u 9), .inl (cs 0, 6, .inl (fun _ => 0))), ((u 10), .inl (cs 0, 6, .inl (fun _ => 0))), ((u 11), .inl (cs 0, 6, .inl (fun _ => 0))), ((u 12), .inl (cs 0, 6, .inl (fun _ => 0))), ((u 13), .inl (cs 0, 4, .inl (fun _ => 0))), ((u 14), .inl (cs 0, 4, .inl (fun _ => 0))), ((u 15), .inl (cs 0, 4, .inl (fun _ => 0))), ((u 16), .inl (cs 0, 4, .inl (fun _ => 0))), ((u 17), .inr (2, [.int 0, .int 0, .int 0, .int 0, .ref (u 18), .int 0, .ref (u 19), .ref (u 20), .ref (u 21), .ref (u 22), .int 0, .ref (u 23), .ref (u 24), .ref (u 25), .ref (u 26), .int 0, .int 0])), ((u 18), .inl (cs 0, 8, .inl (fun _ => 0))), ((u 19), .inl (cs 0, 6, .inl (fun _ => 0))), ((u 20), .inl (cs 0, 6, .inl (fun _ => 0))), ((u 21), .inl (cs 0, 6, .inl (fun _ => 0))), ((u 22), .inl (cs 0, 6, .inl (fun _ => 0))), ((u 23), .inl (cs 0, 4, .inl (fun _ => 0))), ((u 24), .inl (cs 0, 4, .inl (fun _ => 0))), ((u 25), .inl (cs 0, 4, .inl (fun _ => 0))), ((u 26), .inl (cs 0, 4, .inl (fun _ => 0))), ((u 27), .inl (cs 2, 2, .inr (.inr (.inr (.inr (fun i => (([some (u 28), some (u 38)][i]?).getD none))))))), ((u 28), .inr (2, [.int 0, .int 0, .int 0, .int 0, .ref (u 29), .int 0, .ref (u 30), .ref (u 31), .ref (u 32), .ref (u 33), .int 0, .ref (u 34), .ref (u 35), .ref (u 36), .ref (u 37), .int 0, .int 0])), ((u 29), .inl (cs 0, 8, .inl (fun _ => 0))), ((u 30), .inl (cs 0, 6, .inl (fun _ => 0))), ((u 31), .inl (cs 0, 6, .inl (fun _ => 0))), ((u 32), .inl (cs 0, 6, .inl (fun _ => 0))), ((u 33), .inl (cs 0, 6, .inl (fun _ => 0))), ((u 34), .inl (cs 0, 4, .inl (fun _ => 0))), ((u 35), .inl (cs 0, 4, .inl (fun _ => 0))), ((u 36), .inl (cs 0, 4, .inl (fun _ => 0))), ((u 37), .inl (cs 0, 4, .inl (fun _ => 0))), ((u 38), .inr (2, [.int 0, .int 0, .int 0, .int 0, .ref (u 39), .int 0, .ref (u 40), .ref (u 41), .ref (u 42), .ref (u 43), .int 0, .ref (u 44), .ref (u 45), .ref (u 46), .ref (u 47), .int 0, .int 0])), ((u 39), .inl (cs 0, 8, .inl (fun _ => 0))), ((u 40), .inl (cs 0, 6, .inl (fun _ => 0))), ((u 41), .inl (cs 0, 6, .inl (fun _ => 0))), ((u 42), .inl (cs 0, 6, .inl (fun _ => 0))), ((u 43), .inl (cs 0, 6, .inl (fun _ => 0))), ((u 44), .inl (cs 0, 4, .inl (fun _ => 0))), ((u 45), .inl (cs 0, 4, .inl (fun _ => 0))), ((u 46), .inl (cs 0, 4, .inl (fun _ => 0))), ((u 47), .inl (cs 0, 4, .inl (fun _ => 0))), ((u 48), .inr (0, [.ref (u 49), .ref (u 50), .ref (u 51), .ref (u 52), .ref (u 53), .ref (u 54), .int 0, .int 0])), ((u 49), .inl (cs 0, 24, .inl (fun _ => 0))), ((u 50), .inl (cs 0, 24, .inl (fun _ => 0))), ((u 51), .inl (cs 0, 24, .inl (fun _ => 0))), ((u 52), .inl (cs 0, 24, .inl (fun _ => 0))), ((u 53), .inl (cs 0, 24, .inl (fun _ => 0))), ((u 54), .inl (cs 0, 24, .inl (fun _ => 0))), ((u 55), .inr (3, [.ref (u 56), .ref (u 57)])), ((u 56), .inl (cs 0, 256, .inl (fun _ => 0))), ((u 57), .inl (cs 0, 5, .inl (fun _ => 0))), ((u 58), .inr (1, [.ref (u 59), .int 0])), ((u 59), .inl (cs 0, 16, .inl (fun _ => 0))), ((u 60), .inl (cs 0, 6, .inl (fun _ => 0)))] H := hP
  have hD : va_D (fun q : Nat => s.heap.size ≤ q) [(q0, .inr (6, [.ref (u 1), .ref (u 5), .ref (u 7), .ref (u 17), .ref (u 27), .ref (u 48), .ref (u 55), .ref (u 58), .ref (u 60), .int 0, .int 0])), ((u 1), .inr (4, [.ref (u 2), .ref (u 3), .ref (u 4)])), ((u 2), .inl (cs 0, 8, .inl (fun _ => 0))), ((u 3), .inl (cs 0, 8, .inl (fun _ => 0))), ((u 4), .inl (cs 0, 320, .inl (fun _ => 0))), ((u 5), .inr (5, [.ref (u 6), .int 0, .int 0, .int 0, .int 0])), ((u 6), .inl (cs 0, 120, .inl (fun _ => 0))), ((u 7), .inr (2, [.int 0, .int 0, .int 0, .int 0, .ref (u 8), .int 0, .ref (u 9), .ref (u 10), .ref (u 11), .ref (u 12), .int 0, .ref (u 13), .ref (u 14), .ref (u 15), .ref (u 16), .int 0, .int 0])), ((u 8), .inl (cs 0, 8, .inl (fun _ => 0))), ((u 9), .inl (cs 0, 6, .inl (fun _ => 0))), ((u 10), .inl (cs 0, 6, .inl (fun _ => 0))), ((u 11), .inl (cs 0, 6, .inl (fun _ => 0))), ((u 12), .inl (cs 0, 6, .inl (fun _ => 0))), ((u 13), .inl (cs 0, 4, .inl (fun _ => 0))), ((u 14), .inl (cs 0, 4, .inl (fun _ => 0))), ((u 15), .inl (cs 0, 4, .inl (fun _ => 0))), ((u 16), .inl (cs 0, 4, .inl (fun _ => 0))), ((u 17), .inr (2, [.int 0, .int 0, .int 0, .int 0, .ref (u 18), .int 0, .ref (u 19), .ref (u 20), .ref (u 21), .ref (u 22), .int 0, .ref (u 23), .ref (u 24), .ref (u 25), .ref (u 26), .int 0, .int 0])), ((u 18), .inl (cs 0, 8, .inl (fun _ => 0))), ((u 19), .inl (cs 0, 6, .inl (fun _ => 0))), ((u 20), .inl (cs 0, 6, .inl (fun _ => 0))), ((u 21), .inl (cs 0, 6, .inl (fun _ => 0))), ((u 22), .inl (cs 0, 6, .inl (fun _ => 0))), ((u 23), .inl (cs 0, 4, .inl (fun _ => 0))), ((u 24), .inl (cs 0, 4, .inl (fun _ => 0))), ((u 25), .inl (cs 0, 4, .inl (fun _ => 0))), ((u 26), .inl (cs 0, 4, .inl (fun _ => 0))), ((u 27), .inl (cs 2, 2, .inr (.inr (.inr (.inr (fun i => (([some (u 28), some (u 38)][i]?).getD none))))))), ((u 28), .inr (2, [.int 0, .int 0, .int 0, .int 0, .ref (u 29), .int 0, .ref (u 30), .ref (u 31), .ref (u 32), .ref (u 33), .int 0, .ref (u 34), .ref (u 35), .ref (u 36), .ref (u 37), .int 0, .int 0])), ((u 29), .inl (cs 0, 8, .inl (fun _ => 0))), ((u 30), .inl (cs 0, 6, .inl (fun _ => 0))), ((u 31), .inl (cs 0, 6, .inl (fun _ => 0))), ((u 32), .inl (cs 0, 6, .inl (fun _ => 0))), ((u 33), .inl (cs 0, 6, .inl (fun _ => 0))), ((u 34), .inl (cs 0, 4, .inl (fun _ => 0))), ((u 35), .inl (cs 0, 4, .inl (fun _ => 0))), ((u 36), .inl (cs 0, 4, .inl (fun _ => 0))), ((u 37), .inl (cs 0, 4, .inl (fun _ => 0))), ((u 38), .inr (2, [.int 0, .int 0, .int 0, .int 0, .ref (u 39), .int 0, .ref (u 40), .ref (u 41), .ref (u 42), .ref (u 43), .int 0, .ref (u 44), .ref (u 45), .ref (u 46), .ref (u 47), .int 0, .int 0])), ((u 39), .inl (cs 0, 8, .inl (fun _ => 0))), ((u 40), .inl (cs 0, 6, .inl (fun _ => 0))), ((u 41), .inl (cs 0, 6, .inl (fun _ => 0))), ((u 42), .inl (cs 0, 6, .inl (fun _ => 0))), ((u 43), .inl (cs 0, 6, .inl (fun _ => 0))), ((u 44), .inl (cs 0, 4, .inl (fun _ => 0))), ((u 45), .inl (cs 0, 4, .inl (fun _ => 0))), ((u 46), .inl (cs 0, 4, .inl (fun _ => 0))), ((u 47), .inl (cs 0, 4, .inl (fun _ => 0))), ((u 48), .inr (0, [.ref (u 49), .ref (u 50), .ref (u 51), .ref (u 52), .ref (u 53), .ref (u 54), .int 0, .int 0])), ((u 49), .inl (cs 0, 24, .inl (fun _ => 0))), ((u 50), .inl (cs 0, 24, .inl (fun _ => 0))), ((u 51), .inl (cs 0, 24, .inl (fun _ => 0))), ((u 52), .inl (cs 0, 24, .inl (fun _ => 0))), ((u 53), .inl (cs 0, 24, .inl (fun _ => 0))), ((u 54), .inl (cs 0, 24, .inl (fun _ => 0))), ((u 55), .inr (3, [.ref (u 56), .ref (u 57)])), ((u 56), .inl (cs 0, 256, .inl (fun _ => 0))), ((u 57), .inl (cs 0, 5, .inl (fun _ => 0))), ((u 58), .inr (1, [.ref (u 59), .int 0])), ((u 59), .inl (cs 0, 16, .inl (fun _ => 0))), ((u 60), .inl (cs 0, 6, .inl (fun _ => 0)))] := hD
  refine lv_astore_n (lv' := [(1, .ref q0), (0, .ref b)]) hx hb dL_law_7 rfl hl (by decide) rfl (fun ls hl => ?_)
  refine va_new (ci := 7) (fs := [.null, .null, .null, .int 0, .int 0, .null, .int 0, .int 0, .int 0, .int 0, .int 0, .int 0, .null, .null, .null, .null, .null, .int 0, .null, .int 0, .null]) (C := RX7) (T := TX7) (N := 21) hx hb hts inX7 tyX7 tyX7_ok hown (hts _ clL_10) (hts _ isX7) (hts _ iniX7) hK hP hD hS hA rfl (by decide +kernel) (Nat.le_of_ble_eq_true rfl) (Nat.le_of_ble_eq_true rfl) dL_law_8 (fun q61 H hP hD hS => ?_)
  have hP : va_P (dC, dI) vwCl [(q0, .inr (6, [.ref (u 1), .ref (u 5), .ref (u 7), .ref (u 17), .ref (u 27), .ref (u 48), .ref (u 55), .ref (u 58), .ref (u 60), .int 0, .int 0])), ((u 1), .inr (4, [.ref (u 2), .ref (u 3), .ref (u 4)])), ((u 2), .inl (cs 0, 8, .inl (fun _ => 0))), ((u 3), .inl (cs 0, 8, .inl (fun _ => 0))), ((u 4), .inl (cs 0, 320, .inl (fun _ => 0))), ((u 5), .inr (5, [.ref (u 6), .int 0, .int 0, .int 0, .int 0])), ((u 6), .inl (cs 0, 120, .inl (fun _ => 0))), ((u 7), .inr (2, [.int 0, .int 0, .int 0, .int 0, .ref (u 8), .int 0, .ref (u 9), .ref (u 10), .ref (u 11), .ref (u 12), .int 0, .ref (u 13), .ref (u 14), .ref (u 15), .ref (u 16), .int 0, .int 0])), ((u 8), .inl (cs 0, 8, .inl (fun _ => 0))), ((u 9), .inl (cs 0, 6, .inl (fun _ => 0))), ((u 10), .inl (cs 0, 6, .inl (fun _ => 0))), ((u 11), .inl (cs 0, 6, .inl (fun _ => 0))), ((u 12), .inl (cs 0, 6, .inl (fun _ => 0))), ((u 13), .inl (cs 0, 4, .inl (fun _ => 0))), ((u 14), .inl (cs 0, 4, .inl (fun _ => 0))), ((u 15), .inl (cs 0, 4, .inl (fun _ => 0))), ((u 16), .inl (cs 0, 4, .inl (fun _ => 0))), ((u 17), .inr (2, [.int 0, .int 0, .int 0, .int 0, .ref (u 18), .int 0, .ref (u 19), .ref (u 20), .ref (u 21), .ref (u 22), .int 0, .ref (u 23), .ref (u 24), .ref (u 25), .ref (u 26), .int 0, .int 0])), ((u 18), .inl (cs 0, 8, .inl (fun _ => 0))), ((u 19), .inl (cs 0, 6, .inl (fun _ => 0))), ((u 20), .inl (cs 0, 6, .inl (fun _ => 0))), ((u 21), .inl (cs 0, 6, .inl (fun _ => 0))), ((u 22), .inl (cs 0, 6, .inl (fun _ => 0))), ((u 23), .inl (cs 0, 4, .inl (fun _ => 0))), ((u 24), .inl (cs 0, 4, .inl (fun _ => 0))), ((u 25), .inl (cs 0, 4, .inl (fun _ => 0))), ((u 26), .inl (cs 0, 4, .inl (fun _ => 0))), ((u 27), .inl (cs 2, 2, .inr (.inr (.inr (.inr (fun i => (([some (u 28), some (u 38)][i]?).getD none))))))), ((u 28), .inr (2, [.int 0, .int 0, .int 0, .int 0, .ref (u 29), .int 0, .ref (u 30), .ref (u 31), .ref (u 32), .ref (u 33), .int 0, .ref (u 34), .ref (u 35), .ref (u 36), .ref (u 37), .int 0, .int 0])), ((u 29), .inl (cs 0, 8, .inl (fun _ => 0))), ((u 30), .inl (cs 0, 6, .inl (fun _ => 0))), ((u 31), .inl (cs 0, 6, .inl (fun _ => 0))), ((u 32), .inl (cs 0, 6, .inl (fun _ => 0))), ((u 33), .inl (cs 0, 6, .inl (fun _ => 0))), ((u 34), .inl (cs 0, 4, .inl (fun _ => 0))), ((u 35), .inl (cs 0, 4, .inl (fun _ => 0))), ((u 36), .inl (cs 0, 4, .inl (fun _ => 0))), ((u 37), .inl (cs 0, 4, .inl (fun _ => 0))), ((u 38), .inr (2, [.int 0, .int 0, .int 0, .int 0, .ref (u 39), .int 0, .ref (u 40), .ref (u 41), .ref (u 42), .ref (u 43), .int 0, .ref (u 44), .ref (u 45), .ref (u 46), .ref (u 47), .int 0, .int 0])), ((u 39), .inl (cs 0, 8, .inl (fun _ => 0))), ((u 40), .inl (cs 0, 6, .inl (fun _ => 0))), ((u 41), .inl (cs 0, 6, .inl (fun _ => 0))), ((u 42), .inl (cs 0, 6, .inl (fun _ => 0))), ((u 43), .inl (cs 0, 6, .inl (fun _ => 0))), ((u 44), .inl (cs 0, 4, .inl (fun _ => 0))), ((u 45), .inl (cs 0, 4, .inl (fun _ => 0))), ((u 46), .inl (cs 0, 4, .inl (fun _ => 0))), ((u 47), .inl (cs 0, 4, .inl (fun _ => 0))), ((u 48), .inr (0, [.ref (u 49), .ref (u 50), .ref (u 51), .ref (u 52), .ref (u 53), .ref (u 54), .int 0, .int 0])), ((u 49), .inl (cs 0, 24, .inl (fun _ => 0))), ((u 50), .inl (cs 0, 24, .inl (fun _ => 0))), ((u 51), .inl (cs 0, 24, .inl (fun _ => 0))), ((u 52), .inl (cs 0, 24, .inl (fun _ => 0))), ((u 53), .inl (cs 0, 24, .inl (fun _ => 0))), ((u 54), .inl (cs 0, 24, .inl (fun _ => 0))), ((u 55), .inr (3, [.ref (u 56), .ref (u 57)])), ((u 56), .inl (cs 0, 256, .inl (fun _ => 0))), ((u 57), .inl (cs 0, 5, .inl (fun _ => 0))), ((u 58), .inr (1, [.ref (u 59), .int 0])), ((u 59), .inl (cs 0, 16, .inl (fun _ => 0))), ((u 60), .inl (cs 0, 6, .inl (fun _ => 0))), (q61, .inr (7, [.null, .null, .null, .int 0, .int 0, .null, .int 0, .int 0, .int 0, .int 0, .int 0, .int 0, .null, .null, .null, .null, .null, .int 0, .null, .int 0, .null]))] H := hP
  have hD : va_D (fun q : Nat => s.heap.size ≤ q) [(q0, .inr (6, [.ref (u 1), .ref (u 5), .ref (u 7), .ref (u 17), .ref (u 27), .ref (u 48), .ref (u 55), .ref (u 58), .ref (u 60), .int 0, .int 0])), ((u 1), .inr (4, [.ref (u 2), .ref (u 3), .ref (u 4)])), ((u 2), .inl (cs 0, 8, .inl (fun _ => 0))), ((u 3), .inl (cs 0, 8, .inl (fun _ => 0))), ((u 4), .inl (cs 0, 320, .inl (fun _ => 0))), ((u 5), .inr (5, [.ref (u 6), .int 0, .int 0, .int 0, .int 0])), ((u 6), .inl (cs 0, 120, .inl (fun _ => 0))), ((u 7), .inr (2, [.int 0, .int 0, .int 0, .int 0, .ref (u 8), .int 0, .ref (u 9), .ref (u 10), .ref (u 11), .ref (u 12), .int 0, .ref (u 13), .ref (u 14), .ref (u 15), .ref (u 16), .int 0, .int 0])), ((u 8), .inl (cs 0, 8, .inl (fun _ => 0))), ((u 9), .inl (cs 0, 6, .inl (fun _ => 0))), ((u 10), .inl (cs 0, 6, .inl (fun _ => 0))), ((u 11), .inl (cs 0, 6, .inl (fun _ => 0))), ((u 12), .inl (cs 0, 6, .inl (fun _ => 0))), ((u 13), .inl (cs 0, 4, .inl (fun _ => 0))), ((u 14), .inl (cs 0, 4, .inl (fun _ => 0))), ((u 15), .inl (cs 0, 4, .inl (fun _ => 0))), ((u 16), .inl (cs 0, 4, .inl (fun _ => 0))), ((u 17), .inr (2, [.int 0, .int 0, .int 0, .int 0, .ref (u 18), .int 0, .ref (u 19), .ref (u 20), .ref (u 21), .ref (u 22), .int 0, .ref (u 23), .ref (u 24), .ref (u 25), .ref (u 26), .int 0, .int 0])), ((u 18), .inl (cs 0, 8, .inl (fun _ => 0))), ((u 19), .inl (cs 0, 6, .inl (fun _ => 0))), ((u 20), .inl (cs 0, 6, .inl (fun _ => 0))), ((u 21), .inl (cs 0, 6, .inl (fun _ => 0))), ((u 22), .inl (cs 0, 6, .inl (fun _ => 0))), ((u 23), .inl (cs 0, 4, .inl (fun _ => 0))), ((u 24), .inl (cs 0, 4, .inl (fun _ => 0))), ((u 25), .inl (cs 0, 4, .inl (fun _ => 0))), ((u 26), .inl (cs 0, 4, .inl (fun _ => 0))), ((u 27), .inl (cs 2, 2, .inr (.inr (.inr (.inr (fun i => (([some (u 28), some (u 38)][i]?).getD none))))))), ((u 28), .inr (2, [.int 0, .int 0, .int 0, .int 0, .ref (u 29), .int 0, .ref (u 30), .ref (u 31), .ref (u 32), .ref (u 33), .int 0, .ref (u 34), .ref (u 35), .ref (u 36), .ref (u 37), .int 0, .int 0])), ((u 29), .inl (cs 0, 8, .inl (fun _ => 0))), ((u 30), .inl (cs 0, 6, .inl (fun _ => 0))), ((u 31), .inl (cs 0, 6, .inl (fun _ => 0))), ((u 32), .inl (cs 0, 6, .inl (fun _ => 0))), ((u 33), .inl (cs 0, 6, .inl (fun _ => 0))), ((u 34), .inl (cs 0, 4, .inl (fun _ => 0))), ((u 35), .inl (cs 0, 4, .inl (fun _ => 0))), ((u 36), .inl (cs 0, 4, .inl (fun _ => 0))), ((u 37), .inl (cs 0, 4, .inl (fun _ => 0))), ((u 38), .inr (2, [.int 0, .int 0, .int 0, .int 0, .ref (u 39), .int 0, .ref (u 40), .ref (u 41), .ref (u 42), .ref (u 43), .int 0, .ref (u 44), .ref (u 45), .ref (u 46), .ref (u 47), .int 0, .int 0])), ((u 39), .inl (cs 0, 8, .inl (fun _ => 0))), ((u 40), .inl (cs 0, 6, .inl (fun _ => 0))), ((u 41), .inl (cs 0, 6, .inl (fun _ => 0))), ((u 42), .inl (cs 0, 6, .inl (fun _ => 0))), ((u 43), .inl (cs 0, 6, .inl (fun _ => 0))), ((u 44), .inl (cs 0, 4, .inl (fun _ => 0))), ((u 45), .inl (cs 0, 4, .inl (fun _ => 0))), ((u 46), .inl (cs 0, 4, .inl (fun _ => 0))), ((u 47), .inl (cs 0, 4, .inl (fun _ => 0))), ((u 48), .inr (0, [.ref (u 49), .ref (u 50), .ref (u 51), .ref (u 52), .ref (u 53), .ref (u 54), .int 0, .int 0])), ((u 49), .inl (cs 0, 24, .inl (fun _ => 0))), ((u 50), .inl (cs 0, 24, .inl (fun _ => 0))), ((u 51), .inl (cs 0, 24, .inl (fun _ => 0))), ((u 52), .inl (cs 0, 24, .inl (fun _ => 0))), ((u 53), .inl (cs 0, 24, .inl (fun _ => 0))), ((u 54), .inl (cs 0, 24, .inl (fun _ => 0))), ((u 55), .inr (3, [.ref (u 56), .ref (u 57)])), ((u 56), .inl (cs 0, 256, .inl (fun _ => 0))), ((u 57), .inl (cs 0, 5, .inl (fun _ => 0))), ((u 58), .inr (1, [.ref (u 59), .int 0])), ((u 59), .inl (cs 0, 16, .inl (fun _ => 0))), ((u 60), .inl (cs 0, 6, .inl (fun _ => 0))), (q61, .inr (7, [.null, .null, .null, .int 0, .int 0, .null, .int 0, .int 0, .int 0, .int 0, .int 0, .int 0, .null, .null, .null, .null, .null, .int 0, .null, .int 0, .null]))] := hD
  refine lv_dup hx hb dL_law_11 rfl ?_
  have hPc := hP.sub (ws' := [(q61, .inr (7, [.null, .null, .null, .int 0, .int 0, .null, .int 0, .int 0, .int 0, .int 0, .int 0, .int 0, .null, .null, .null, .null, .null, .int 0, .null, .int 0, .null]))]) [61] rfl
  have hDc := hD.sub (ws' := [(q61, .inr (7, [.null, .null, .null, .int 0, .int 0, .null, .int 0, .int 0, .int 0, .int 0, .int 0, .int 0, .null, .null, .null, .null, .null, .int 0, .null, .int 0, .null]))]) [61] (by decide) rfl
  have hFc := va_free (wc := [(q61, .inr (7, [.null, .null, .null, .int 0, .int 0, .null, .int 0, .int 0, .int 0, .int 0, .int 0, .int 0, .null, .null, .null, .null, .null, .int 0, .null, .int 0, .null]))]) hD hS hA [61] rfl
  refine va_callv (va_runI (As := []) (rest := [.ref q61]) ⟨hx, hb, hml, hown, hts⟩ (nX7_init l dC dI cs q61 H.size) (cwI 0 hts (gC cdX7_init) rfl rfl rfl (hts _ iniX7) (hts _ lkL_12) (hts _ inMX7_init) rfl (by decide +kernel) ⟨(Nat.le_of_ble_eq_true rfl), (Nat.le_of_ble_eq_true rfl)⟩) ⟨pre_blind, fun U hU hW => ⟨rfl, by rw [hU], by rw [hU]; exact hPc, va_K.moved hW.alike hK, hDc.weaken (fun _ _ _ _ => trivial)⟩⟩ rfl rfl hl.1 rfl (lv_room (Nat.le_of_ble_eq_true rfl)) dL_law_12 ⟨(Nat.le_of_ble_eq_true rfl), (Nat.le_of_ble_eq_true rfl)⟩) hS (fun q _ h => hFc q h) hFc (fun v t H1 locs ht hvm hw hB hz1 hk1 hS => ?_)
  obtain ⟨hP1, hD1⟩ := hB
  rw [ht] at hP1
  obtain ⟨hP, hD⟩ := va_join (wr := [(q0, .inr (6, [.ref (u 1), .ref (u 5), .ref (u 7), .ref (u 17), .ref (u 27), .ref (u 48), .ref (u 55), .ref (u 58), .ref (u 60), .int 0, .int 0])), ((u 1), .inr (4, [.ref (u 2), .ref (u 3), .ref (u 4)])), ((u 2), .inl (cs 0, 8, .inl (fun _ => 0))), ((u 3), .inl (cs 0, 8, .inl (fun _ => 0))), ((u 4), .inl (cs 0, 320, .inl (fun _ => 0))), ((u 5), .inr (5, [.ref (u 6), .int 0, .int 0, .int 0, .int 0])), ((u 6), .inl (cs 0, 120, .inl (fun _ => 0))), ((u 7), .inr (2, [.int 0, .int 0, .int 0, .int 0, .ref (u 8), .int 0, .ref (u 9), .ref (u 10), .ref (u 11), .ref (u 12), .int 0, .ref (u 13), .ref (u 14), .ref (u 15), .ref (u 16), .int 0, .int 0])), ((u 8), .inl (cs 0, 8, .inl (fun _ => 0))), ((u 9), .inl (cs 0, 6, .inl (fun _ => 0))), ((u 10), .inl (cs 0, 6, .inl (fun _ => 0))), ((u 11), .inl (cs 0, 6, .inl (fun _ => 0))), ((u 12), .inl (cs 0, 6, .inl (fun _ => 0))), ((u 13), .inl (cs 0, 4, .inl (fun _ => 0))), ((u 14), .inl (cs 0, 4, .inl (fun _ => 0))), ((u 15), .inl (cs 0, 4, .inl (fun _ => 0))), ((u 16), .inl (cs 0, 4, .inl (fun _ => 0))), ((u 17), .inr (2, [.int 0, .int 0, .int 0, .int 0, .ref (u 18), .int 0, .ref (u 19), .ref (u 20), .ref (u 21), .ref (u 22), .int 0, .ref (u 23), .ref (u 24), .ref (u 25), .ref (u 26), .int 0, .int 0])), ((u 18), .inl (cs 0, 8, .inl (fun _ => 0))), ((u 19), .inl (cs 0, 6, .inl (fun _ => 0))), ((u 20), .inl (cs 0, 6, .inl (fun _ => 0))), ((u 21), .inl (cs 0, 6, .inl (fun _ => 0))), ((u 22), .inl (cs 0, 6, .inl (fun _ => 0))), ((u 23), .inl (cs 0, 4, .inl (fun _ => 0))), ((u 24), .inl (cs 0, 4, .inl (fun _ => 0))), ((u 25), .inl (cs 0, 4, .inl (fun _ => 0))), ((u 26), .inl (cs 0, 4, .inl (fun _ => 0))), ((u 27), .inl (cs 2, 2, .inr (.inr (.inr (.inr (fun i => (([some (u 28), some (u 38)][i]?).getD none))))))), ((u 28), .inr (2, [.int 0, .int 0, .int 0, .int 0, .ref (u 29), .int 0, .ref (u 30), .ref (u 31), .ref (u 32), .ref (u 33), .int 0, .ref (u 34), .ref (u 35), .ref (u 36), .ref (u 37), .int 0, .int 0])), ((u 29), .inl (cs 0, 8, .inl (fun _ => 0))), ((u 30), .inl (cs 0, 6, .inl (fun _ => 0))), ((u 31), .inl (cs 0, 6, .inl (fun _ => 0))), ((u 32), .inl (cs 0, 6, .inl (fun _ => 0))), ((u 33), .inl (cs 0, 6, .inl (fun _ => 0))), ((u 34), .inl (cs 0, 4, .inl (fun _ => 0))), ((u 35), .inl (cs 0, 4, .inl (fun _ => 0))), ((u 36), .inl (cs 0, 4, .inl (fun _ => 0))), ((u 37), .inl (cs 0, 4, .inl (fun _ => 0))), ((u 38), .inr (2, [.int 0, .int 0, .int 0, .int 0, .ref (u 39), .int 0, .ref (u 40), .ref (u 41), .ref (u 42), .ref (u 43), .int 0, .ref (u 44), .ref (u 45), .ref (u 46), .ref (u 47), .int 0, .int 0])), ((u 39), .inl (cs 0, 8, .inl (fun _ => 0))), ((u 40), .inl (cs 0, 6, .inl (fun _ => 0))), ((u 41), .inl (cs 0, 6, .inl (fun _ => 0))), ((u 42), .inl (cs 0, 6, .inl (fun _ => 0))), ((u 43), .inl (cs 0, 6, .inl (fun _ => 0))), ((u 44), .inl (cs 0, 4, .inl (fun _ => 0))), ((u 45), .inl (cs 0, 4, .inl (fun _ => 0))), ((u 46), .inl (cs 0, 4, .inl (fun _ => 0))), ((u 47), .inl (cs 0, 4, .inl (fun _ => 0))), ((u 48), .inr (0, [.ref (u 49), .ref (u 50), .ref (u 51), .ref (u 52), .ref (u 53), .ref (u 54), .int 0, .int 0])), ((u 49), .inl (cs 0, 24, .inl (fun _ => 0))), ((u 50), .inl (cs 0, 24, .inl (fun _ => 0))), ((u 51), .inl (cs 0, 24, .inl (fun _ => 0))), ((u 52), .inl (cs 0, 24, .inl (fun _ => 0))), ((u 53), .inl (cs 0, 24, .inl (fun _ => 0))), ((u 54), .inl (cs 0, 24, .inl (fun _ => 0))), ((u 55), .inr (3, [.ref (u 56), .ref (u 57)])), ((u 56), .inl (cs 0, 256, .inl (fun _ => 0))), ((u 57), .inl (cs 0, 5, .inl (fun _ => 0))), ((u 58), .inr (1, [.ref (u 59), .int 0])), ((u 59), .inl (cs 0, 16, .inl (fun _ => 0))), ((u 60), .inl (cs 0, 6, .inl (fun _ => 0)))]) (w1 := [(q61, .inr (7, [.ref (v 62), .ref (v 63), .ref (v 64), .int 0, .int 0, .ref (v 65), .int 0, .int 0, .int 0, .int 0, .int 0, .int 0, .ref (v 66), .ref (v 67), .ref (v 68), .ref (v 69), .ref (v 70), .int 0, .ref (v 71), .int 0, .ref (v 72)])), ((v 62), .inl (cs 0, 8, .inl LANE0)), ((v 63), .inl (cs 0, 8, .inl (fun _ => 0))), ((v 64), .inl (cs 0, 320, .inl (fun _ => 0))), ((v 65), .inl (cs 0, 120, .inl (fun _ => 0))), ((v 66), .inl (cs 0, 50, .inl (fun _ => 0))), ((v 67), .inl (cs 0, 50, .inl (fun _ => 0))), ((v 68), .inl (cs 0, 100, .inl (fun _ => 0))), ((v 69), .inl (cs 1, 2, .inl (fun _ => 0))), ((v 70), .inl (cs 0, 1200, .inl (fun _ => 0))), ((v 71), .inl (cs 0, 16, .inl (fun _ => 0))), ((v 72), .inl (cs 0, 256, .inl (fun _ => 0)))]) hP hD [61] [0, 1, 2, 3, 4, 5, 6, 7, 8, 9, 10, 11, 12, 13, 14, 15, 16, 17, 18, 19, 20, 21, 22, 23, 24, 25, 26, 27, 28, 29, 30, 31, 32, 33, 34, 35, 36, 37, 38, 39, 40, 41, 42, 43, 44, 45, 46, 47, 48, 49, 50, 51, 52, 53, 54, 55, 56, 57, 58, 59, 60] rfl rfl (by decide) (by decide) hk1 hFc hP1 hD1
  generalize H1 = H at hP hS ⊢
  refine lv_astore_n (lv' := [(2, .ref q61), (1, .ref q0), (0, .ref b)]) hx hb dL_law_15 rfl hl (by decide) rfl (fun ls hl => ?_)
  obtain ⟨ad, had⟩ : ∃ ad : Nat → Nat, ad = fun k => if k = 73 then b else if k = 0 then q0 else if k = 61 then q61 else if k < 61 then u k else v k := ⟨_, rfl⟩
  have e27 : (fun i : Nat => (([some (u 28), some (u 38)][i]?).getD none)) = (fun i : Nat => ((([some 28, some 38] : List (Option Nat))[i]?).getD none).map ad) := by
    subst had
    funext i
    match i with
    | 0 => rfl
    | 1 => rfl
    | n + 2 => rfl
  rw [e27] at hP hD
  have hP : va_P (dC, dI) vwCl (WS ad cs g0) H := by
    rw [WS_list]
    subst had
    exact hP
  have hD : va_D (fun q : Nat => s.heap.size ≤ q) (WS ad cs g0) := by
    rw [WS_list]
    subst had
    exact hD
  have hAD : AD (fun q : Nat => s.heap.size ≤ q) ad := ⟨fun i j hi hj he => hD.1 i j _ _ (WS_get hi) (WS_get hj) he, fun k hk => hD.2 k _ (WS_get hk)⟩
  obtain ⟨g', hF⟩ := hpure L xs hL
  have h73 : ad 73 = b := by rw [had]; rfl
  have h61 : ad 61 = q61 := by rw [had]; rfl
  have h00 : ad 0 = q0 := by rw [had]; rfl
  refine W.widen (k := 73) (n := 3327) (Nat.le_of_ble_eq_true rfl) (Nat.le_of_ble_eq_true rfl) ?_
  have C : CX mL_law (some (L, xs)) p room_1 s m #[Value.ref b] c (dC, dI) ad cs (fun q : Nat => s.heap.size ≤ q) 73 3327 :=
    ⟨hx, hb, hml, hown, hts, hK, hAD, hA, ⟨rfl, rfl, Nat.le_refl _, Nat.le_refl _⟩, fun q hq => by
      cases hq
      rw [h73]
      exact ⟨hX, hbl, hbA⟩⟩
  refine wL_law L xs g0 1 g' hF p l e room_1 s m #[Value.ref b] below meth c (dC, dI) ad cs _ 73 3327 _ C ?_ H _ ls hP hS ⟨hl.1, hl.2.1, fun k w hw => ?_⟩
  · intro H2 locs2 ls2 pc2 hP2 hS2
    refine ⟨fun hd _ _ => ?_, fun _ hn => by cases hn⟩
    exact va_forget (fun q hq => hS2.2.2 q hq) (lw_ret hx hb hr hlocks hd)
  · match k, hw with
    | 0, hw => cases hw; show ls[0]? = some (.val (.ref (ad 73))); rw [h73]; exact lv_at hl 2 rfl
    | 1, hw => cases hw; show ls[1]? = some (.val (.ref (ad 0))); rw [h00]; exact lv_at hl 1 rfl
    | 2, hw => cases hw; show ls[2]? = some (.val (.ref (ad 61))); rw [h61]; exact lv_at hl 0 rfl
    | 3, hw => cases hw
    | k + 4, hw => cases hw
