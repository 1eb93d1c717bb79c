/-- which sort of riddle a sign begins: 0 for none -/
def srt (v : Int32) : Nat := if v = 112 then 1 else if v = 100 then 2 else if v = 103 then 3 else if v = 108 then 4 else if v = 117 then 5 else 0
theorem srt_le (v : Int32) : srt v ≤ 5 := by
  unfold srt
  split
  · omega
  split
  · omega
  split
  · omega
  split
  · omega
  split <;> omega
theorem srt7_e (v : Int32) (g : Mem) : fX7_sortOf v g = some (nI (srt v), g) := by
  unfold fX7_sortOf srt
  split
  · rfl
  split
  · rfl
  split
  · rfl
  split
  · rfl
  split <;> rfl
theorem srt6_e (v : Int32) (g : Mem) : fX2_sortOf v g = some (nI (srt v), g) := by
  unfold fX2_sortOf srt
  by_cases h1 : v = 112
  · subst h1; rfl
  by_cases h2 : v = 100
  · subst h2; rfl
  by_cases h3 : v = 103
  · subst h3; rfl
  by_cases h4 : v = 108
  · subst h4; rfl
  by_cases h5 : v = 117
  · subst h5; rfl
  simp only [if_neg h1, if_neg h2, if_neg h3, if_neg h4, if_neg h5]; rfl
