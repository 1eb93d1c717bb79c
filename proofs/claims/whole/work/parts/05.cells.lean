theorem zlt0 : 0 < 73 := by decide
theorem zsh0 : sh 0 = (0, 6, [some 1, some 5, some 7, some 17, some 27, some 48, some 55, some 58, some 60, none, none]) := by decide
theorem zrc0 : RC 0 RX6 := ⟨zlt0, 6, _, TX6, 11, zsh0, rfl⟩
theorem zlt1 : 1 < 73 := by decide
theorem zsh1 : sh 1 = (0, 4, [some 2, some 3, some 4]) := by decide
theorem zrc1 : RC 1 RX4 := ⟨zlt1, 4, _, TX4, 3, zsh1, rfl⟩
theorem zlt2 : 2 < 73 := by decide
theorem zsh2 : sh 2 = (1, 8, []) := by decide
theorem zlt3 : 3 < 73 := by decide
theorem zsh3 : sh 3 = (1, 8, []) := by decide
theorem zlt4 : 4 < 73 := by decide
theorem zsh4 : sh 4 = (1, 320, []) := by decide
theorem zlt5 : 5 < 73 := by decide
theorem zsh5 : sh 5 = (0, 5, [some 6, none, none, none, none]) := by decide
theorem zrc5 : RC 5 RX5 := ⟨zlt5, 5, _, TX5, 5, zsh5, rfl⟩
theorem zlt6 : 6 < 73 := by decide
theorem zsh6 : sh 6 = (1, 120, []) := by decide
theorem zlt7 : 7 < 73 := by decide
theorem zsh7 : sh 7 = (0, 2, [none, none, none, none, some 8, none, some 9, some 10, some 11, some 12, none, some 13, some 14, some 15, some 16, none, none]) := by decide
theorem zrc7 : RC 7 RX2 := ⟨zlt7, 2, _, TX2, 17, zsh7, rfl⟩
theorem zlt8 : 8 < 73 := by decide
theorem zsh8 : sh 8 = (1, 8, []) := by decide
theorem zlt9 : 9 < 73 := by decide
theorem zsh9 : sh 9 = (1, 6, []) := by decide
theorem zlt10 : 10 < 73 := by decide
theorem zsh10 : sh 10 = (1, 6, []) := by decide
theorem zlt11 : 11 < 73 := by decide
theorem zsh11 : sh 11 = (1, 6, []) := by decide
theorem zlt12 : 12 < 73 := by decide
theorem zsh12 : sh 12 = (1, 6, []) := by decide
theorem zlt13 : 13 < 73 := by decide
theorem zsh13 : sh 13 = (1, 4, []) := by decide
theorem zlt14 : 14 < 73 := by decide
theorem zsh14 : sh 14 = (1, 4, []) := by decide
theorem zlt15 : 15 < 73 := by decide
theorem zsh15 : sh 15 = (1, 4, []) := by decide
theorem zlt16 : 16 < 73 := by decide
theorem zsh16 : sh 16 = (1, 4, []) := by decide
theorem zlt17 : 17 < 73 := by decide
theorem zsh17 : sh 17 = (0, 2, [none, none, none, none, some 18, none, some 19, some 20, some 21, some 22, none, some 23, some 24, some 25, some 26, none, none]) := by decide
theorem zrc17 : RC 17 RX2 := ⟨zlt17, 2, _, TX2, 17, zsh17, rfl⟩
theorem zlt18 : 18 < 73 := by decide
theorem zsh18 : sh 18 = (1, 8, []) := by decide
theorem zlt19 : 19 < 73 := by decide
theorem zsh19 : sh 19 = (1, 6, []) := by decide
theorem zlt20 : 20 < 73 := by decide
theorem zsh20 : sh 20 = (1, 6, []) := by decide
theorem zlt21 : 21 < 73 := by decide
theorem zsh21 : sh 21 = (1, 6, []) := by decide
theorem zlt22 : 22 < 73 := by decide
theorem zsh22 : sh 22 = (1, 6, []) := by decide
theorem zlt23 : 23 < 73 := by decide
theorem zsh23 : sh 23 = (1, 4, []) := by decide
theorem zlt24 : 24 < 73 := by decide
theorem zsh24 : sh 24 = (1, 4, []) := by decide
theorem zlt25 : 25 < 73 := by decide
theorem zsh25 : sh 25 = (1, 4, []) := by decide
theorem zlt26 : 26 < 73 := by decide
theorem zsh26 : sh 26 = (1, 4, []) := by decide
theorem zlt27 : 27 < 73 := by decide
theorem zsh27 : sh 27 = (3, 2, [some 28, some 38]) := by decide
theorem zlt28 : 28 < 73 := by decide
theorem zsh28 : sh 28 = (0, 2, [none, none, none, none, some 29, none, some 30, some 31, some 32, some 33, none, some 34, some 35, some 36, some 37, none, none]) := by decide
theorem zrc28 : RC 28 RX2 := ⟨zlt28, 2, _, TX2, 17, zsh28, rfl⟩
theorem zlt29 : 29 < 73 := by decide
theorem zsh29 : sh 29 = (1, 8, []) := by decide
theorem zlt30 : 30 < 73 := by decide
theorem zsh30 : sh 30 = (1, 6, []) := by decide
theorem zlt31 : 31 < 73 := by decide
theorem zsh31 : sh 31 = (1, 6, []) := by decide
theorem zlt32 : 32 < 73 := by decide
theorem zsh32 : sh 32 = (1, 6, []) := by decide
theorem zlt33 : 33 < 73 := by decide
theorem zsh33 : sh 33 = (1, 6, []) := by decide
theorem zlt34 : 34 < 73 := by decide
theorem zsh34 : sh 34 = (1, 4, []) := by decide
theorem zlt35 : 35 < 73 := by decide
theorem zsh35 : sh 35 = (1, 4, []) := by decide
theorem zlt36 : 36 < 73 := by decide
theorem zsh36 : sh 36 = (1, 4, []) := by decide
theorem zlt37 : 37 < 73 := by decide
theorem zsh37 : sh 37 = (1, 4, []) := by decide
theorem zlt38 : 38 < 73 := by decide
theorem zsh38 : sh 38 = (0, 2, [none, none, none, none, some 39, none, some 40, some 41, some 42, some 43, none, some 44, some 45, some 46, some 47, none, none]) := by decide
theorem zrc38 : RC 38 RX2 := ⟨zlt38, 2, _, TX2, 17, zsh38, rfl⟩
theorem zlt39 : 39 < 73 := by decide
theorem zsh39 : sh 39 = (1, 8, []) := by decide
theorem zlt40 : 40 < 73 := by decide
theorem zsh40 : sh 40 = (1, 6, []) := by decide
theorem zlt41 : 41 < 73 := by decide
theorem zsh41 : sh 41 = (1, 6, []) := by decide
theorem zlt42 : 42 < 73 := by decide
theorem zsh42 : sh 42 = (1, 6, []) := by decide
theorem zlt43 : 43 < 73 := by decide
theorem zsh43 : sh 43 = (1, 6, []) := by decide
theorem zlt44 : 44 < 73 := by decide
theorem zsh44 : sh 44 = (1, 4, []) := by decide
theorem zlt45 : 45 < 73 := by decide
theorem zsh45 : sh 45 = (1, 4, []) := by decide
theorem zlt46 : 46 < 73 := by decide
theorem zsh46 : sh 46 = (1, 4, []) := by decide
theorem zlt47 : 47 < 73 := by decide
theorem zsh47 : sh 47 = (1, 4, []) := by decide
theorem zlt48 : 48 < 73 := by decide
theorem zsh48 : sh 48 = (0, 0, [some 49, some 50, some 51, some 52, some 53, some 54, none, none]) := by decide
theorem zrc48 : RC 48 RX0 := ⟨zlt48, 0, _, TX0, 8, zsh48, rfl⟩
theorem zlt49 : 49 < 73 := by decide
theorem zsh49 : sh 49 = (1, 24, []) := by decide
theorem zlt50 : 50 < 73 := by decide
theorem zsh50 : sh 50 = (1, 24, []) := by decide
theorem zlt51 : 51 < 73 := by decide
theorem zsh51 : sh 51 = (1, 24, []) := by decide
theorem zlt52 : 52 < 73 := by decide
theorem zsh52 : sh 52 = (1, 24, []) := by decide
theorem zlt53 : 53 < 73 := by decide
theorem zsh53 : sh 53 = (1, 24, []) := by decide
theorem zlt54 : 54 < 73 := by decide
theorem zsh54 : sh 54 = (1, 24, []) := by decide
theorem zlt55 : 55 < 73 := by decide
theorem zsh55 : sh 55 = (0, 3, [some 56, some 57]) := by decide
theorem zrc55 : RC 55 RX3 := ⟨zlt55, 3, _, TX3, 2, zsh55, rfl⟩
theorem zlt56 : 56 < 73 := by decide
theorem zsh56 : sh 56 = (1, 256, []) := by decide
theorem zlt57 : 57 < 73 := by decide
theorem zsh57 : sh 57 = (1, 5, []) := by decide
theorem zlt58 : 58 < 73 := by decide
theorem zsh58 : sh 58 = (0, 1, [some 59, none]) := by decide
theorem zrc58 : RC 58 RX1 := ⟨zlt58, 1, _, TX1, 2, zsh58, rfl⟩
theorem zlt59 : 59 < 73 := by decide
theorem zsh59 : sh 59 = (1, 16, []) := by decide
theorem zlt60 : 60 < 73 := by decide
theorem zsh60 : sh 60 = (1, 6, []) := by decide
theorem zlt61 : 61 < 73 := by decide
theorem zsh61 : sh 61 = (0, 7, [some 62, some 63, some 64, none, none, some 65, none, none, none, none, none, none, some 66, some 67, some 68, some 69, some 70, none, some 71, none, some 72]) := by decide
theorem zrc61 : RC 61 RX7 := ⟨zlt61, 7, _, TX7, 21, zsh61, rfl⟩
theorem zlt62 : 62 < 73 := by decide
theorem zsh62 : sh 62 = (1, 8, []) := by decide
theorem zlt63 : 63 < 73 := by decide
theorem zsh63 : sh 63 = (1, 8, []) := by decide
theorem zlt64 : 64 < 73 := by decide
theorem zsh64 : sh 64 = (1, 320, []) := by decide
theorem zlt65 : 65 < 73 := by decide
theorem zsh65 : sh 65 = (1, 120, []) := by decide
theorem zlt66 : 66 < 73 := by decide
theorem zsh66 : sh 66 = (1, 50, []) := by decide
theorem zlt67 : 67 < 73 := by decide
theorem zsh67 : sh 67 = (1, 50, []) := by decide
theorem zlt68 : 68 < 73 := by decide
theorem zsh68 : sh 68 = (1, 100, []) := by decide
theorem zlt69 : 69 < 73 := by decide
theorem zsh69 : sh 69 = (2, 2, []) := by decide
theorem zlt70 : 70 < 73 := by decide
theorem zsh70 : sh 70 = (1, 1200, []) := by decide
theorem zlt71 : 71 < 73 := by decide
theorem zsh71 : sh 71 = (1, 16, []) := by decide
theorem zlt72 : 72 < 73 := by decide
theorem zsh72 : sh 72 = (1, 256, []) := by decide
def CO (c : Nat) : Prop := c = 7 ∨ c = 17 ∨ c = 28 ∨ c = 38
theorem CO_of7 : CO 7 := Or.inl rfl
theorem CO_of17 : CO 17 := Or.inr (Or.inl rfl)
theorem CO_of28 : CO 28 := Or.inr (Or.inr (Or.inl rfl))
theorem CO_of38 : CO 38 := Or.inr (Or.inr (Or.inr rfl))
theorem CO_lt0 {c : Nat} (h : CO c) : c < 73 := by rcases h with rfl | rfl | rfl | rfl <;> decide
theorem CO_sh0 {c : Nat} (h : CO c) : sh c = (0, 2, [none, none, none, none, some (c + 1), none, some (c + 2), some (c + 3), some (c + 4), some (c + 5), none, some (c + 6), some (c + 7), some (c + 8), some (c + 9), none, none]) := by rcases h with rfl | rfl | rfl | rfl <;> decide
theorem CO_lt1 {c : Nat} (h : CO c) : c + 1 < 73 := by rcases h with rfl | rfl | rfl | rfl <;> decide
theorem CO_sh1 {c : Nat} (h : CO c) : sh (c + 1) = (1, 8, []) := by rcases h with rfl | rfl | rfl | rfl <;> decide
theorem CO_lt2 {c : Nat} (h : CO c) : c + 2 < 73 := by rcases h with rfl | rfl | rfl | rfl <;> decide
theorem CO_sh2 {c : Nat} (h : CO c) : sh (c + 2) = (1, 6, []) := by rcases h with rfl | rfl | rfl | rfl <;> decide
theorem CO_lt3 {c : Nat} (h : CO c) : c + 3 < 73 := by rcases h with rfl | rfl | rfl | rfl <;> decide
theorem CO_sh3 {c : Nat} (h : CO c) : sh (c + 3) = (1, 6, []) := by rcases h with rfl | rfl | rfl | rfl <;> decide
theorem CO_lt4 {c : Nat} (h : CO c) : c + 4 < 73 := by rcases h with rfl | rfl | rfl | rfl <;> decide
theorem CO_sh4 {c : Nat} (h : CO c) : sh (c + 4) = (1, 6, []) := by rcases h with rfl | rfl | rfl | rfl <;> decide
theorem CO_lt5 {c : Nat} (h : CO c) : c + 5 < 73 := by rcases h with rfl | rfl | rfl | rfl <;> decide
theorem CO_sh5 {c : Nat} (h : CO c) : sh (c + 5) = (1, 6, []) := by rcases h with rfl | rfl | rfl | rfl <;> decide
theorem CO_lt6 {c : Nat} (h : CO c) : c + 6 < 73 := by rcases h with rfl | rfl | rfl | rfl <;> decide
theorem CO_sh6 {c : Nat} (h : CO c) : sh (c + 6) = (1, 4, []) := by rcases h with rfl | rfl | rfl | rfl <;> decide
theorem CO_lt7 {c : Nat} (h : CO c) : c + 7 < 73 := by rcases h with rfl | rfl | rfl | rfl <;> decide
theorem CO_sh7 {c : Nat} (h : CO c) : sh (c + 7) = (1, 4, []) := by rcases h with rfl | rfl | rfl | rfl <;> decide
theorem CO_lt8 {c : Nat} (h : CO c) : c + 8 < 73 := by rcases h with rfl | rfl | rfl | rfl <;> decide
theorem CO_sh8 {c : Nat} (h : CO c) : sh (c + 8) = (1, 4, []) := by rcases h with rfl | rfl | rfl | rfl <;> decide
theorem CO_lt9 {c : Nat} (h : CO c) : c + 9 < 73 := by rcases h with rfl | rfl | rfl | rfl <;> decide
theorem CO_sh9 {c : Nat} (h : CO c) : sh (c + 9) = (1, 4, []) := by rcases h with rfl | rfl | rfl | rfl <;> decide
theorem CO_rc {c : Nat} (h : CO c) : RC c RX2 := ⟨CO_lt0 h, 2, _, TX2, 17, CO_sh0 h, rfl⟩
