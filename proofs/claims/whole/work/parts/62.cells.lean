/-! THE CELLS THAT STAND FROM THE START: kinds, lengths, references -/
def kkl : List Nat := [0, 12, 14, 5, 9, 16, 14, 16, 16, 15, 15, 10, 15, 15, 15, 15, 17, 2, 15, 15, 15, 15, 10, 15, 15, 15, 15, 17, 2, 15, 15, 15, 15, 8, 15, 15, 15, 15, 15, 15, 8, 15, 15, 15, 15, 15, 15, 4, 15, 4, 15, 4, 15, 16, 18, 7, 15, 15, 15, 17, 15, 15, 19, 3, 15, 15, 15, 15, 8, 15, 15, 15, 15, 15, 15, 8, 15, 15, 15, 15, 15, 15, 8, 15, 15, 15, 15, 15, 15, 8, 15, 15, 15, 15, 15, 15, 4, 15, 4, 15, 4, 15, 13, 14, 14, 15, 15, 15, 15, 15, 15, 15, 15, 15, 15, 15, 15, 17, 17, 17, 17, 16, 16, 15, 15, 15, 15, 15, 15, 15, 15, 15, 15, 15, 15, 15, 15, 15, 15, 15, 15, 15, 17, 15, 15, 15, 15, 15, 15, 15, 15, 15, 15, 15, 15, 15, 15, 15, 17, 15, 15, 15, 15, 15, 15, 15, 15, 15, 15, 15, 15, 15, 15, 15, 15, 15, 15, 15, 15, 15, 15, 15, 15]
def kll : List Nat := [0, 0, 1600, 0, 0, 18, 0, 5, 8, 8, 5, 0, 5, 256, 256, 64, 64, 0, 512, 512, 64, 18, 0, 5, 256, 256, 64, 64, 0, 512, 512, 64, 18, 0, 5, 5, 5, 5, 32, 32, 0, 5, 5, 5, 5, 32, 32, 0, 300, 0, 12, 0, 64, 3, 3, 0, 20, 20, 20, 20, 20, 20, 4, 0, 0, 4, 4, 20, 0, 5, 5, 5, 5, 32, 32, 0, 5, 5, 5, 5, 32, 32, 0, 5, 5, 5, 5, 32, 32, 0, 5, 5, 5, 5, 32, 32, 0, 300, 0, 300, 0, 300, 0, 1620, 1600, 2, 2, 2, 2, 2, 2, 2, 10, 16, 16, 16, 128, 2, 2, 2, 128, 10, 16, 1000, 1000, 90, 90, 70, 8, 6, 8, 8, 6, 300, 300, 12, 8, 246960, 246960, 246960, 246960, 61000, 246960, 8, 6, 61000, 61000, 246960, 61000, 20, 20, 20, 20, 20, 8, 32, 24, 4, 20, 3, 3, 24, 18, 900, 900, 32, 32, 32, 32, 32, 32, 32, 32, 32, 32, 32, 32, 32, 32, 32, 32, 32, 32]
def GK (Γ : rhG) : Prop := 182 ≤ Γ.1 ∧ ∀ r, r < 183 → Γ.2.2.1 r = kkl.getD r 0 ∧ Γ.2.2.2 r = kll.getD r 0
section
variable {Γ : rhG} {M : rhM}
theorem GKk1 (h : GK Γ) : Γ.2.2.1 1 = 12 := (h.2 1 (by decide)).1
theorem GKl1 (h : GK Γ) : Γ.2.2.2 1 = 0 := (h.2 1 (by decide)).2
theorem GKk2 (h : GK Γ) : Γ.2.2.1 2 = 14 := (h.2 2 (by decide)).1
theorem GKl2 (h : GK Γ) : Γ.2.2.2 2 = 1600 := (h.2 2 (by decide)).2
theorem GKk3 (h : GK Γ) : Γ.2.2.1 3 = 5 := (h.2 3 (by decide)).1
theorem GKl3 (h : GK Γ) : Γ.2.2.2 3 = 0 := (h.2 3 (by decide)).2
theorem GKk4 (h : GK Γ) : Γ.2.2.1 4 = 9 := (h.2 4 (by decide)).1
theorem GKl4 (h : GK Γ) : Γ.2.2.2 4 = 0 := (h.2 4 (by decide)).2
theorem GKk5 (h : GK Γ) : Γ.2.2.1 5 = 16 := (h.2 5 (by decide)).1
theorem GKl5 (h : GK Γ) : Γ.2.2.2 5 = 18 := (h.2 5 (by decide)).2
theorem GKk6 (h : GK Γ) : Γ.2.2.1 6 = 14 := (h.2 6 (by decide)).1
theorem GKl6 (h : GK Γ) : Γ.2.2.2 6 = 0 := (h.2 6 (by decide)).2
theorem GKk7 (h : GK Γ) : Γ.2.2.1 7 = 16 := (h.2 7 (by decide)).1
theorem GKl7 (h : GK Γ) : Γ.2.2.2 7 = 5 := (h.2 7 (by decide)).2
theorem GKk8 (h : GK Γ) : Γ.2.2.1 8 = 16 := (h.2 8 (by decide)).1
theorem GKl8 (h : GK Γ) : Γ.2.2.2 8 = 8 := (h.2 8 (by decide)).2
theorem GKk9 (h : GK Γ) : Γ.2.2.1 9 = 15 := (h.2 9 (by decide)).1
theorem GKl9 (h : GK Γ) : Γ.2.2.2 9 = 8 := (h.2 9 (by decide)).2
theorem GKk10 (h : GK Γ) : Γ.2.2.1 10 = 15 := (h.2 10 (by decide)).1
theorem GKl10 (h : GK Γ) : Γ.2.2.2 10 = 5 := (h.2 10 (by decide)).2
theorem GKk11 (h : GK Γ) : Γ.2.2.1 11 = 10 := (h.2 11 (by decide)).1
theorem GKl11 (h : GK Γ) : Γ.2.2.2 11 = 0 := (h.2 11 (by decide)).2
theorem GKk12 (h : GK Γ) : Γ.2.2.1 12 = 15 := (h.2 12 (by decide)).1
theorem GKl12 (h : GK Γ) : Γ.2.2.2 12 = 5 := (h.2 12 (by decide)).2
theorem GKk13 (h : GK Γ) : Γ.2.2.1 13 = 15 := (h.2 13 (by decide)).1
theorem GKl13 (h : GK Γ) : Γ.2.2.2 13 = 256 := (h.2 13 (by decide)).2
theorem GKk14 (h : GK Γ) : Γ.2.2.1 14 = 15 := (h.2 14 (by decide)).1
theorem GKl14 (h : GK Γ) : Γ.2.2.2 14 = 256 := (h.2 14 (by decide)).2
theorem GKk15 (h : GK Γ) : Γ.2.2.1 15 = 15 := (h.2 15 (by decide)).1
theorem GKl15 (h : GK Γ) : Γ.2.2.2 15 = 64 := (h.2 15 (by decide)).2
theorem GKk16 (h : GK Γ) : Γ.2.2.1 16 = 17 := (h.2 16 (by decide)).1
theorem GKl16 (h : GK Γ) : Γ.2.2.2 16 = 64 := (h.2 16 (by decide)).2
theorem GKk17 (h : GK Γ) : Γ.2.2.1 17 = 2 := (h.2 17 (by decide)).1
theorem GKl17 (h : GK Γ) : Γ.2.2.2 17 = 0 := (h.2 17 (by decide)).2
theorem GKk18 (h : GK Γ) : Γ.2.2.1 18 = 15 := (h.2 18 (by decide)).1
theorem GKl18 (h : GK Γ) : Γ.2.2.2 18 = 512 := (h.2 18 (by decide)).2
theorem GKk19 (h : GK Γ) : Γ.2.2.1 19 = 15 := (h.2 19 (by decide)).1
theorem GKl19 (h : GK Γ) : Γ.2.2.2 19 = 512 := (h.2 19 (by decide)).2
theorem GKk20 (h : GK Γ) : Γ.2.2.1 20 = 15 := (h.2 20 (by decide)).1
theorem GKl20 (h : GK Γ) : Γ.2.2.2 20 = 64 := (h.2 20 (by decide)).2
theorem GKk21 (h : GK Γ) : Γ.2.2.1 21 = 15 := (h.2 21 (by decide)).1
theorem GKl21 (h : GK Γ) : Γ.2.2.2 21 = 18 := (h.2 21 (by decide)).2
theorem GKk22 (h : GK Γ) : Γ.2.2.1 22 = 10 := (h.2 22 (by decide)).1
theorem GKl22 (h : GK Γ) : Γ.2.2.2 22 = 0 := (h.2 22 (by decide)).2
theorem GKk23 (h : GK Γ) : Γ.2.2.1 23 = 15 := (h.2 23 (by decide)).1
theorem GKl23 (h : GK Γ) : Γ.2.2.2 23 = 5 := (h.2 23 (by decide)).2
theorem GKk24 (h : GK Γ) : Γ.2.2.1 24 = 15 := (h.2 24 (by decide)).1
theorem GKl24 (h : GK Γ) : Γ.2.2.2 24 = 256 := (h.2 24 (by decide)).2
theorem GKk25 (h : GK Γ) : Γ.2.2.1 25 = 15 := (h.2 25 (by decide)).1
theorem GKl25 (h : GK Γ) : Γ.2.2.2 25 = 256 := (h.2 25 (by decide)).2
theorem GKk26 (h : GK Γ) : Γ.2.2.1 26 = 15 := (h.2 26 (by decide)).1
theorem GKl26 (h : GK Γ) : Γ.2.2.2 26 = 64 := (h.2 26 (by decide)).2
theorem GKk27 (h : GK Γ) : Γ.2.2.1 27 = 17 := (h.2 27 (by decide)).1
theorem GKl27 (h : GK Γ) : Γ.2.2.2 27 = 64 := (h.2 27 (by decide)).2
theorem GKk28 (h : GK Γ) : Γ.2.2.1 28 = 2 := (h.2 28 (by decide)).1
theorem GKl28 (h : GK Γ) : Γ.2.2.2 28 = 0 := (h.2 28 (by decide)).2
theorem GKk29 (h : GK Γ) : Γ.2.2.1 29 = 15 := (h.2 29 (by decide)).1
theorem GKl29 (h : GK Γ) : Γ.2.2.2 29 = 512 := (h.2 29 (by decide)).2
theorem GKk30 (h : GK Γ) : Γ.2.2.1 30 = 15 := (h.2 30 (by decide)).1
theorem GKl30 (h : GK Γ) : Γ.2.2.2 30 = 512 := (h.2 30 (by decide)).2
theorem GKk31 (h : GK Γ) : Γ.2.2.1 31 = 15 := (h.2 31 (by decide)).1
theorem GKl31 (h : GK Γ) : Γ.2.2.2 31 = 64 := (h.2 31 (by decide)).2
theorem GKk32 (h : GK Γ) : Γ.2.2.1 32 = 15 := (h.2 32 (by decide)).1
theorem GKl32 (h : GK Γ) : Γ.2.2.2 32 = 18 := (h.2 32 (by decide)).2
theorem GKk33 (h : GK Γ) : Γ.2.2.1 33 = 8 := (h.2 33 (by decide)).1
theorem GKl33 (h : GK Γ) : Γ.2.2.2 33 = 0 := (h.2 33 (by decide)).2
theorem GKk34 (h : GK Γ) : Γ.2.2.1 34 = 15 := (h.2 34 (by decide)).1
theorem GKl34 (h : GK Γ) : Γ.2.2.2 34 = 5 := (h.2 34 (by decide)).2
theorem GKk35 (h : GK Γ) : Γ.2.2.1 35 = 15 := (h.2 35 (by decide)).1
theorem GKl35 (h : GK Γ) : Γ.2.2.2 35 = 5 := (h.2 35 (by decide)).2
theorem GKk36 (h : GK Γ) : Γ.2.2.1 36 = 15 := (h.2 36 (by decide)).1
theorem GKl36 (h : GK Γ) : Γ.2.2.2 36 = 5 := (h.2 36 (by decide)).2
theorem GKk37 (h : GK Γ) : Γ.2.2.1 37 = 15 := (h.2 37 (by decide)).1
theorem GKl37 (h : GK Γ) : Γ.2.2.2 37 = 5 := (h.2 37 (by decide)).2
theorem GKk38 (h : GK Γ) : Γ.2.2.1 38 = 15 := (h.2 38 (by decide)).1
theorem GKl38 (h : GK Γ) : Γ.2.2.2 38 = 32 := (h.2 38 (by decide)).2
theorem GKk39 (h : GK Γ) : Γ.2.2.1 39 = 15 := (h.2 39 (by decide)).1
theorem GKl39 (h : GK Γ) : Γ.2.2.2 39 = 32 := (h.2 39 (by decide)).2
theorem GKk40 (h : GK Γ) : Γ.2.2.1 40 = 8 := (h.2 40 (by decide)).1
theorem GKl40 (h : GK Γ) : Γ.2.2.2 40 = 0 := (h.2 40 (by decide)).2
theorem GKk41 (h : GK Γ) : Γ.2.2.1 41 = 15 := (h.2 41 (by decide)).1
theorem GKl41 (h : GK Γ) : Γ.2.2.2 41 = 5 := (h.2 41 (by decide)).2
theorem GKk42 (h : GK Γ) : Γ.2.2.1 42 = 15 := (h.2 42 (by decide)).1
theorem GKl42 (h : GK Γ) : Γ.2.2.2 42 = 5 := (h.2 42 (by decide)).2
theorem GKk43 (h : GK Γ) : Γ.2.2.1 43 = 15 := (h.2 43 (by decide)).1
theorem GKl43 (h : GK Γ) : Γ.2.2.2 43 = 5 := (h.2 43 (by decide)).2
theorem GKk44 (h : GK Γ) : Γ.2.2.1 44 = 15 := (h.2 44 (by decide)).1
theorem GKl44 (h : GK Γ) : Γ.2.2.2 44 = 5 := (h.2 44 (by decide)).2
theorem GKk45 (h : GK Γ) : Γ.2.2.1 45 = 15 := (h.2 45 (by decide)).1
theorem GKl45 (h : GK Γ) : Γ.2.2.2 45 = 32 := (h.2 45 (by decide)).2
theorem GKk46 (h : GK Γ) : Γ.2.2.1 46 = 15 := (h.2 46 (by decide)).1
theorem GKl46 (h : GK Γ) : Γ.2.2.2 46 = 32 := (h.2 46 (by decide)).2
theorem GKk47 (h : GK Γ) : Γ.2.2.1 47 = 4 := (h.2 47 (by decide)).1
theorem GKl47 (h : GK Γ) : Γ.2.2.2 47 = 0 := (h.2 47 (by decide)).2
theorem GKk48 (h : GK Γ) : Γ.2.2.1 48 = 15 := (h.2 48 (by decide)).1
theorem GKl48 (h : GK Γ) : Γ.2.2.2 48 = 300 := (h.2 48 (by decide)).2
theorem GKk49 (h : GK Γ) : Γ.2.2.1 49 = 4 := (h.2 49 (by decide)).1
theorem GKl49 (h : GK Γ) : Γ.2.2.2 49 = 0 := (h.2 49 (by decide)).2
theorem GKk50 (h : GK Γ) : Γ.2.2.1 50 = 15 := (h.2 50 (by decide)).1
theorem GKl50 (h : GK Γ) : Γ.2.2.2 50 = 12 := (h.2 50 (by decide)).2
theorem GKk51 (h : GK Γ) : Γ.2.2.1 51 = 4 := (h.2 51 (by decide)).1
theorem GKl51 (h : GK Γ) : Γ.2.2.2 51 = 0 := (h.2 51 (by decide)).2
theorem GKk52 (h : GK Γ) : Γ.2.2.1 52 = 15 := (h.2 52 (by decide)).1
theorem GKl52 (h : GK Γ) : Γ.2.2.2 52 = 64 := (h.2 52 (by decide)).2
theorem GKk53 (h : GK Γ) : Γ.2.2.1 53 = 16 := (h.2 53 (by decide)).1
theorem GKl53 (h : GK Γ) : Γ.2.2.2 53 = 3 := (h.2 53 (by decide)).2
theorem GKk54 (h : GK Γ) : Γ.2.2.1 54 = 18 := (h.2 54 (by decide)).1
theorem GKl54 (h : GK Γ) : Γ.2.2.2 54 = 3 := (h.2 54 (by decide)).2
theorem GKk55 (h : GK Γ) : Γ.2.2.1 55 = 7 := (h.2 55 (by decide)).1
theorem GKl55 (h : GK Γ) : Γ.2.2.2 55 = 0 := (h.2 55 (by decide)).2
theorem GKk56 (h : GK Γ) : Γ.2.2.1 56 = 15 := (h.2 56 (by decide)).1
theorem GKl56 (h : GK Γ) : Γ.2.2.2 56 = 20 := (h.2 56 (by decide)).2
theorem GKk57 (h : GK Γ) : Γ.2.2.1 57 = 15 := (h.2 57 (by decide)).1
theorem GKl57 (h : GK Γ) : Γ.2.2.2 57 = 20 := (h.2 57 (by decide)).2
theorem GKk58 (h : GK Γ) : Γ.2.2.1 58 = 15 := (h.2 58 (by decide)).1
theorem GKl58 (h : GK Γ) : Γ.2.2.2 58 = 20 := (h.2 58 (by decide)).2
theorem GKk59 (h : GK Γ) : Γ.2.2.1 59 = 17 := (h.2 59 (by decide)).1
theorem GKl59 (h : GK Γ) : Γ.2.2.2 59 = 20 := (h.2 59 (by decide)).2
theorem GKk60 (h : GK Γ) : Γ.2.2.1 60 = 15 := (h.2 60 (by decide)).1
theorem GKl60 (h : GK Γ) : Γ.2.2.2 60 = 20 := (h.2 60 (by decide)).2
theorem GKk61 (h : GK Γ) : Γ.2.2.1 61 = 15 := (h.2 61 (by decide)).1
theorem GKl61 (h : GK Γ) : Γ.2.2.2 61 = 20 := (h.2 61 (by decide)).2
theorem GKk62 (h : GK Γ) : Γ.2.2.1 62 = 19 := (h.2 62 (by decide)).1
theorem GKl62 (h : GK Γ) : Γ.2.2.2 62 = 4 := (h.2 62 (by decide)).2
theorem GKk63 (h : GK Γ) : Γ.2.2.1 63 = 3 := (h.2 63 (by decide)).1
theorem GKl63 (h : GK Γ) : Γ.2.2.2 63 = 0 := (h.2 63 (by decide)).2
theorem GKk64 (h : GK Γ) : Γ.2.2.1 64 = 15 := (h.2 64 (by decide)).1
theorem GKl64 (h : GK Γ) : Γ.2.2.2 64 = 0 := (h.2 64 (by decide)).2
theorem GKk65 (h : GK Γ) : Γ.2.2.1 65 = 15 := (h.2 65 (by decide)).1
theorem GKl65 (h : GK Γ) : Γ.2.2.2 65 = 4 := (h.2 65 (by decide)).2
theorem GKk66 (h : GK Γ) : Γ.2.2.1 66 = 15 := (h.2 66 (by decide)).1
theorem GKl66 (h : GK Γ) : Γ.2.2.2 66 = 4 := (h.2 66 (by decide)).2
theorem GKk67 (h : GK Γ) : Γ.2.2.1 67 = 15 := (h.2 67 (by decide)).1
theorem GKl67 (h : GK Γ) : Γ.2.2.2 67 = 20 := (h.2 67 (by decide)).2
theorem GKk68 (h : GK Γ) : Γ.2.2.1 68 = 8 := (h.2 68 (by decide)).1
theorem GKl68 (h : GK Γ) : Γ.2.2.2 68 = 0 := (h.2 68 (by decide)).2
theorem GKk69 (h : GK Γ) : Γ.2.2.1 69 = 15 := (h.2 69 (by decide)).1
theorem GKl69 (h : GK Γ) : Γ.2.2.2 69 = 5 := (h.2 69 (by decide)).2
theorem GKk70 (h : GK Γ) : Γ.2.2.1 70 = 15 := (h.2 70 (by decide)).1
theorem GKl70 (h : GK Γ) : Γ.2.2.2 70 = 5 := (h.2 70 (by decide)).2
theorem GKk71 (h : GK Γ) : Γ.2.2.1 71 = 15 := (h.2 71 (by decide)).1
theorem GKl71 (h : GK Γ) : Γ.2.2.2 71 = 5 := (h.2 71 (by decide)).2
theorem GKk72 (h : GK Γ) : Γ.2.2.1 72 = 15 := (h.2 72 (by decide)).1
theorem GKl72 (h : GK Γ) : Γ.2.2.2 72 = 5 := (h.2 72 (by decide)).2
theorem GKk73 (h : GK Γ) : Γ.2.2.1 73 = 15 := (h.2 73 (by decide)).1
theorem GKl73 (h : GK Γ) : Γ.2.2.2 73 = 32 := (h.2 73 (by decide)).2
theorem GKk74 (h : GK Γ) : Γ.2.2.1 74 = 15 := (h.2 74 (by decide)).1
theorem GKl74 (h : GK Γ) : Γ.2.2.2 74 = 32 := (h.2 74 (by decide)).2
theorem GKk75 (h : GK Γ) : Γ.2.2.1 75 = 8 := (h.2 75 (by decide)).1
theorem GKl75 (h : GK Γ) : Γ.2.2.2 75 = 0 := (h.2 75 (by decide)).2
theorem GKk76 (h : GK Γ) : Γ.2.2.1 76 = 15 := (h.2 76 (by decide)).1
theorem GKl76 (h : GK Γ) : Γ.2.2.2 76 = 5 := (h.2 76 (by decide)).2
theorem GKk77 (h : GK Γ) : Γ.2.2.1 77 = 15 := (h.2 77 (by decide)).1
theorem GKl77 (h : GK Γ) : Γ.2.2.2 77 = 5 := (h.2 77 (by decide)).2
theorem GKk78 (h : GK Γ) : Γ.2.2.1 78 = 15 := (h.2 78 (by decide)).1
theorem GKl78 (h : GK Γ) : Γ.2.2.2 78 = 5 := (h.2 78 (by decide)).2
theorem GKk79 (h : GK Γ) : Γ.2.2.1 79 = 15 := (h.2 79 (by decide)).1
theorem GKl79 (h : GK Γ) : Γ.2.2.2 79 = 5 := (h.2 79 (by decide)).2
theorem GKk80 (h : GK Γ) : Γ.2.2.1 80 = 15 := (h.2 80 (by decide)).1
theorem GKl80 (h : GK Γ) : Γ.2.2.2 80 = 32 := (h.2 80 (by decide)).2
theorem GKk81 (h : GK Γ) : Γ.2.2.1 81 = 15 := (h.2 81 (by decide)).1
theorem GKl81 (h : GK Γ) : Γ.2.2.2 81 = 32 := (h.2 81 (by decide)).2
theorem GKk82 (h : GK Γ) : Γ.2.2.1 82 = 8 := (h.2 82 (by decide)).1
theorem GKl82 (h : GK Γ) : Γ.2.2.2 82 = 0 := (h.2 82 (by decide)).2
theorem GKk83 (h : GK Γ) : Γ.2.2.1 83 = 15 := (h.2 83 (by decide)).1
theorem GKl83 (h : GK Γ) : Γ.2.2.2 83 = 5 := (h.2 83 (by decide)).2
theorem GKk84 (h : GK Γ) : Γ.2.2.1 84 = 15 := (h.2 84 (by decide)).1
theorem GKl84 (h : GK Γ) : Γ.2.2.2 84 = 5 := (h.2 84 (by decide)).2
theorem GKk85 (h : GK Γ) : Γ.2.2.1 85 = 15 := (h.2 85 (by decide)).1
theorem GKl85 (h : GK Γ) : Γ.2.2.2 85 = 5 := (h.2 85 (by decide)).2
theorem GKk86 (h : GK Γ) : Γ.2.2.1 86 = 15 := (h.2 86 (by decide)).1
theorem GKl86 (h : GK Γ) : Γ.2.2.2 86 = 5 := (h.2 86 (by decide)).2
theorem GKk87 (h : GK Γ) : Γ.2.2.1 87 = 15 := (h.2 87 (by decide)).1
theorem GKl87 (h : GK Γ) : Γ.2.2.2 87 = 32 := (h.2 87 (by decide)).2
theorem GKk88 (h : GK Γ) : Γ.2.2.1 88 = 15 := (h.2 88 (by decide)).1
theorem GKl88 (h : GK Γ) : Γ.2.2.2 88 = 32 := (h.2 88 (by decide)).2
theorem GKk89 (h : GK Γ) : Γ.2.2.1 89 = 8 := (h.2 89 (by decide)).1
theorem GKl89 (h : GK Γ) : Γ.2.2.2 89 = 0 := (h.2 89 (by decide)).2
theorem GKk90 (h : GK Γ) : Γ.2.2.1 90 = 15 := (h.2 90 (by decide)).1
theorem GKl90 (h : GK Γ) : Γ.2.2.2 90 = 5 := (h.2 90 (by decide)).2
theorem GKk91 (h : GK Γ) : Γ.2.2.1 91 = 15 := (h.2 91 (by decide)).1
theorem GKl91 (h : GK Γ) : Γ.2.2.2 91 = 5 := (h.2 91 (by decide)).2
theorem GKk92 (h : GK Γ) : Γ.2.2.1 92 = 15 := (h.2 92 (by decide)).1
theorem GKl92 (h : GK Γ) : Γ.2.2.2 92 = 5 := (h.2 92 (by decide)).2
theorem GKk93 (h : GK Γ) : Γ.2.2.1 93 = 15 := (h.2 93 (by decide)).1
theorem GKl93 (h : GK Γ) : Γ.2.2.2 93 = 5 := (h.2 93 (by decide)).2
theorem GKk94 (h : GK Γ) : Γ.2.2.1 94 = 15 := (h.2 94 (by decide)).1
theorem GKl94 (h : GK Γ) : Γ.2.2.2 94 = 32 := (h.2 94 (by decide)).2
theorem GKk95 (h : GK Γ) : Γ.2.2.1 95 = 15 := (h.2 95 (by decide)).1
theorem GKl95 (h : GK Γ) : Γ.2.2.2 95 = 32 := (h.2 95 (by decide)).2
theorem GKk96 (h : GK Γ) : Γ.2.2.1 96 = 4 := (h.2 96 (by decide)).1
theorem GKl96 (h : GK Γ) : Γ.2.2.2 96 = 0 := (h.2 96 (by decide)).2
theorem GKk97 (h : GK Γ) : Γ.2.2.1 97 = 15 := (h.2 97 (by decide)).1
theorem GKl97 (h : GK Γ) : Γ.2.2.2 97 = 300 := (h.2 97 (by decide)).2
theorem GKk98 (h : GK Γ) : Γ.2.2.1 98 = 4 := (h.2 98 (by decide)).1
theorem GKl98 (h : GK Γ) : Γ.2.2.2 98 = 0 := (h.2 98 (by decide)).2
theorem GKk99 (h : GK Γ) : Γ.2.2.1 99 = 15 := (h.2 99 (by decide)).1
theorem GKl99 (h : GK Γ) : Γ.2.2.2 99 = 300 := (h.2 99 (by decide)).2
theorem GKk100 (h : GK Γ) : Γ.2.2.1 100 = 4 := (h.2 100 (by decide)).1
theorem GKl100 (h : GK Γ) : Γ.2.2.2 100 = 0 := (h.2 100 (by decide)).2
theorem GKk101 (h : GK Γ) : Γ.2.2.1 101 = 15 := (h.2 101 (by decide)).1
theorem GKl101 (h : GK Γ) : Γ.2.2.2 101 = 300 := (h.2 101 (by decide)).2
theorem GKk102 (h : GK Γ) : Γ.2.2.1 102 = 13 := (h.2 102 (by decide)).1
theorem GKl102 (h : GK Γ) : Γ.2.2.2 102 = 0 := (h.2 102 (by decide)).2
theorem GKk103 (h : GK Γ) : Γ.2.2.1 103 = 14 := (h.2 103 (by decide)).1
theorem GKl103 (h : GK Γ) : Γ.2.2.2 103 = 1620 := (h.2 103 (by decide)).2
theorem GKk104 (h : GK Γ) : Γ.2.2.1 104 = 14 := (h.2 104 (by decide)).1
theorem GKl104 (h : GK Γ) : Γ.2.2.2 104 = 1600 := (h.2 104 (by decide)).2
theorem GKk105 (h : GK Γ) : Γ.2.2.1 105 = 15 := (h.2 105 (by decide)).1
theorem GKl105 (h : GK Γ) : Γ.2.2.2 105 = 2 := (h.2 105 (by decide)).2
theorem GKk106 (h : GK Γ) : Γ.2.2.1 106 = 15 := (h.2 106 (by decide)).1
theorem GKl106 (h : GK Γ) : Γ.2.2.2 106 = 2 := (h.2 106 (by decide)).2
theorem GKk107 (h : GK Γ) : Γ.2.2.1 107 = 15 := (h.2 107 (by decide)).1
theorem GKl107 (h : GK Γ) : Γ.2.2.2 107 = 2 := (h.2 107 (by decide)).2
theorem GKk108 (h : GK Γ) : Γ.2.2.1 108 = 15 := (h.2 108 (by decide)).1
theorem GKl108 (h : GK Γ) : Γ.2.2.2 108 = 2 := (h.2 108 (by decide)).2
theorem GKk109 (h : GK Γ) : Γ.2.2.1 109 = 15 := (h.2 109 (by decide)).1
theorem GKl109 (h : GK Γ) : Γ.2.2.2 109 = 2 := (h.2 109 (by decide)).2
theorem GKk110 (h : GK Γ) : Γ.2.2.1 110 = 15 := (h.2 110 (by decide)).1
theorem GKl110 (h : GK Γ) : Γ.2.2.2 110 = 2 := (h.2 110 (by decide)).2
theorem GKk111 (h : GK Γ) : Γ.2.2.1 111 = 15 := (h.2 111 (by decide)).1
theorem GKl111 (h : GK Γ) : Γ.2.2.2 111 = 2 := (h.2 111 (by decide)).2
theorem GKk112 (h : GK Γ) : Γ.2.2.1 112 = 15 := (h.2 112 (by decide)).1
theorem GKl112 (h : GK Γ) : Γ.2.2.2 112 = 10 := (h.2 112 (by decide)).2
theorem GKk113 (h : GK Γ) : Γ.2.2.1 113 = 15 := (h.2 113 (by decide)).1
theorem GKl113 (h : GK Γ) : Γ.2.2.2 113 = 16 := (h.2 113 (by decide)).2
theorem GKk114 (h : GK Γ) : Γ.2.2.1 114 = 15 := (h.2 114 (by decide)).1
theorem GKl114 (h : GK Γ) : Γ.2.2.2 114 = 16 := (h.2 114 (by decide)).2
theorem GKk115 (h : GK Γ) : Γ.2.2.1 115 = 15 := (h.2 115 (by decide)).1
theorem GKl115 (h : GK Γ) : Γ.2.2.2 115 = 16 := (h.2 115 (by decide)).2
theorem GKk116 (h : GK Γ) : Γ.2.2.1 116 = 15 := (h.2 116 (by decide)).1
theorem GKl116 (h : GK Γ) : Γ.2.2.2 116 = 128 := (h.2 116 (by decide)).2
theorem GKk117 (h : GK Γ) : Γ.2.2.1 117 = 17 := (h.2 117 (by decide)).1
theorem GKl117 (h : GK Γ) : Γ.2.2.2 117 = 2 := (h.2 117 (by decide)).2
theorem GKk118 (h : GK Γ) : Γ.2.2.1 118 = 17 := (h.2 118 (by decide)).1
theorem GKl118 (h : GK Γ) : Γ.2.2.2 118 = 2 := (h.2 118 (by decide)).2
theorem GKk119 (h : GK Γ) : Γ.2.2.1 119 = 17 := (h.2 119 (by decide)).1
theorem GKl119 (h : GK Γ) : Γ.2.2.2 119 = 2 := (h.2 119 (by decide)).2
theorem GKk120 (h : GK Γ) : Γ.2.2.1 120 = 17 := (h.2 120 (by decide)).1
theorem GKl120 (h : GK Γ) : Γ.2.2.2 120 = 128 := (h.2 120 (by decide)).2
theorem GKk121 (h : GK Γ) : Γ.2.2.1 121 = 16 := (h.2 121 (by decide)).1
theorem GKl121 (h : GK Γ) : Γ.2.2.2 121 = 10 := (h.2 121 (by decide)).2
theorem GKk122 (h : GK Γ) : Γ.2.2.1 122 = 16 := (h.2 122 (by decide)).1
theorem GKl122 (h : GK Γ) : Γ.2.2.2 122 = 16 := (h.2 122 (by decide)).2
theorem GKk123 (h : GK Γ) : Γ.2.2.1 123 = 15 := (h.2 123 (by decide)).1
theorem GKl123 (h : GK Γ) : Γ.2.2.2 123 = 1000 := (h.2 123 (by decide)).2
theorem GKk124 (h : GK Γ) : Γ.2.2.1 124 = 15 := (h.2 124 (by decide)).1
theorem GKl124 (h : GK Γ) : Γ.2.2.2 124 = 1000 := (h.2 124 (by decide)).2
theorem GKk125 (h : GK Γ) : Γ.2.2.1 125 = 15 := (h.2 125 (by decide)).1
theorem GKl125 (h : GK Γ) : Γ.2.2.2 125 = 90 := (h.2 125 (by decide)).2
theorem GKk126 (h : GK Γ) : Γ.2.2.1 126 = 15 := (h.2 126 (by decide)).1
theorem GKl126 (h : GK Γ) : Γ.2.2.2 126 = 90 := (h.2 126 (by decide)).2
theorem GKk127 (h : GK Γ) : Γ.2.2.1 127 = 15 := (h.2 127 (by decide)).1
theorem GKl127 (h : GK Γ) : Γ.2.2.2 127 = 70 := (h.2 127 (by decide)).2
theorem GKk128 (h : GK Γ) : Γ.2.2.1 128 = 15 := (h.2 128 (by decide)).1
theorem GKl128 (h : GK Γ) : Γ.2.2.2 128 = 8 := (h.2 128 (by decide)).2
theorem GKk129 (h : GK Γ) : Γ.2.2.1 129 = 15 := (h.2 129 (by decide)).1
theorem GKl129 (h : GK Γ) : Γ.2.2.2 129 = 6 := (h.2 129 (by decide)).2
theorem GKk130 (h : GK Γ) : Γ.2.2.1 130 = 15 := (h.2 130 (by decide)).1
theorem GKl130 (h : GK Γ) : Γ.2.2.2 130 = 8 := (h.2 130 (by decide)).2
theorem GKk131 (h : GK Γ) : Γ.2.2.1 131 = 15 := (h.2 131 (by decide)).1
theorem GKl131 (h : GK Γ) : Γ.2.2.2 131 = 8 := (h.2 131 (by decide)).2
theorem GKk132 (h : GK Γ) : Γ.2.2.1 132 = 15 := (h.2 132 (by decide)).1
theorem GKl132 (h : GK Γ) : Γ.2.2.2 132 = 6 := (h.2 132 (by decide)).2
theorem GKk133 (h : GK Γ) : Γ.2.2.1 133 = 15 := (h.2 133 (by decide)).1
theorem GKl133 (h : GK Γ) : Γ.2.2.2 133 = 300 := (h.2 133 (by decide)).2
theorem GKk134 (h : GK Γ) : Γ.2.2.1 134 = 15 := (h.2 134 (by decide)).1
theorem GKl134 (h : GK Γ) : Γ.2.2.2 134 = 300 := (h.2 134 (by decide)).2
theorem GKk135 (h : GK Γ) : Γ.2.2.1 135 = 15 := (h.2 135 (by decide)).1
theorem GKl135 (h : GK Γ) : Γ.2.2.2 135 = 12 := (h.2 135 (by decide)).2
theorem GKk136 (h : GK Γ) : Γ.2.2.1 136 = 15 := (h.2 136 (by decide)).1
theorem GKl136 (h : GK Γ) : Γ.2.2.2 136 = 8 := (h.2 136 (by decide)).2
theorem GKk137 (h : GK Γ) : Γ.2.2.1 137 = 15 := (h.2 137 (by decide)).1
theorem GKl137 (h : GK Γ) : Γ.2.2.2 137 = 246960 := (h.2 137 (by decide)).2
theorem GKk138 (h : GK Γ) : Γ.2.2.1 138 = 15 := (h.2 138 (by decide)).1
theorem GKl138 (h : GK Γ) : Γ.2.2.2 138 = 246960 := (h.2 138 (by decide)).2
theorem GKk139 (h : GK Γ) : Γ.2.2.1 139 = 15 := (h.2 139 (by decide)).1
theorem GKl139 (h : GK Γ) : Γ.2.2.2 139 = 246960 := (h.2 139 (by decide)).2
theorem GKk140 (h : GK Γ) : Γ.2.2.1 140 = 15 := (h.2 140 (by decide)).1
theorem GKl140 (h : GK Γ) : Γ.2.2.2 140 = 246960 := (h.2 140 (by decide)).2
theorem GKk141 (h : GK Γ) : Γ.2.2.1 141 = 15 := (h.2 141 (by decide)).1
theorem GKl141 (h : GK Γ) : Γ.2.2.2 141 = 61000 := (h.2 141 (by decide)).2
theorem GKk142 (h : GK Γ) : Γ.2.2.1 142 = 17 := (h.2 142 (by decide)).1
theorem GKl142 (h : GK Γ) : Γ.2.2.2 142 = 246960 := (h.2 142 (by decide)).2
theorem GKk143 (h : GK Γ) : Γ.2.2.1 143 = 15 := (h.2 143 (by decide)).1
theorem GKl143 (h : GK Γ) : Γ.2.2.2 143 = 8 := (h.2 143 (by decide)).2
theorem GKk144 (h : GK Γ) : Γ.2.2.1 144 = 15 := (h.2 144 (by decide)).1
theorem GKl144 (h : GK Γ) : Γ.2.2.2 144 = 6 := (h.2 144 (by decide)).2
theorem GKk145 (h : GK Γ) : Γ.2.2.1 145 = 15 := (h.2 145 (by decide)).1
theorem GKl145 (h : GK Γ) : Γ.2.2.2 145 = 61000 := (h.2 145 (by decide)).2
theorem GKk146 (h : GK Γ) : Γ.2.2.1 146 = 15 := (h.2 146 (by decide)).1
theorem GKl146 (h : GK Γ) : Γ.2.2.2 146 = 61000 := (h.2 146 (by decide)).2
theorem GKk147 (h : GK Γ) : Γ.2.2.1 147 = 15 := (h.2 147 (by decide)).1
theorem GKl147 (h : GK Γ) : Γ.2.2.2 147 = 246960 := (h.2 147 (by decide)).2
theorem GKk148 (h : GK Γ) : Γ.2.2.1 148 = 15 := (h.2 148 (by decide)).1
theorem GKl148 (h : GK Γ) : Γ.2.2.2 148 = 61000 := (h.2 148 (by decide)).2
theorem GKk149 (h : GK Γ) : Γ.2.2.1 149 = 15 := (h.2 149 (by decide)).1
theorem GKl149 (h : GK Γ) : Γ.2.2.2 149 = 20 := (h.2 149 (by decide)).2
theorem GKk150 (h : GK Γ) : Γ.2.2.1 150 = 15 := (h.2 150 (by decide)).1
theorem GKl150 (h : GK Γ) : Γ.2.2.2 150 = 20 := (h.2 150 (by decide)).2
theorem GKk151 (h : GK Γ) : Γ.2.2.1 151 = 15 := (h.2 151 (by decide)).1
theorem GKl151 (h : GK Γ) : Γ.2.2.2 151 = 20 := (h.2 151 (by decide)).2
theorem GKk152 (h : GK Γ) : Γ.2.2.1 152 = 15 := (h.2 152 (by decide)).1
theorem GKl152 (h : GK Γ) : Γ.2.2.2 152 = 20 := (h.2 152 (by decide)).2
theorem GKk153 (h : GK Γ) : Γ.2.2.1 153 = 15 := (h.2 153 (by decide)).1
theorem GKl153 (h : GK Γ) : Γ.2.2.2 153 = 20 := (h.2 153 (by decide)).2
theorem GKk154 (h : GK Γ) : Γ.2.2.1 154 = 15 := (h.2 154 (by decide)).1
theorem GKl154 (h : GK Γ) : Γ.2.2.2 154 = 8 := (h.2 154 (by decide)).2
theorem GKk155 (h : GK Γ) : Γ.2.2.1 155 = 15 := (h.2 155 (by decide)).1
theorem GKl155 (h : GK Γ) : Γ.2.2.2 155 = 32 := (h.2 155 (by decide)).2
theorem GKk156 (h : GK Γ) : Γ.2.2.1 156 = 15 := (h.2 156 (by decide)).1
theorem GKl156 (h : GK Γ) : Γ.2.2.2 156 = 24 := (h.2 156 (by decide)).2
theorem GKk157 (h : GK Γ) : Γ.2.2.1 157 = 15 := (h.2 157 (by decide)).1
theorem GKl157 (h : GK Γ) : Γ.2.2.2 157 = 4 := (h.2 157 (by decide)).2
theorem GKk158 (h : GK Γ) : Γ.2.2.1 158 = 17 := (h.2 158 (by decide)).1
theorem GKl158 (h : GK Γ) : Γ.2.2.2 158 = 20 := (h.2 158 (by decide)).2
theorem GKk159 (h : GK Γ) : Γ.2.2.1 159 = 15 := (h.2 159 (by decide)).1
theorem GKl159 (h : GK Γ) : Γ.2.2.2 159 = 3 := (h.2 159 (by decide)).2
theorem GKk160 (h : GK Γ) : Γ.2.2.1 160 = 15 := (h.2 160 (by decide)).1
theorem GKl160 (h : GK Γ) : Γ.2.2.2 160 = 3 := (h.2 160 (by decide)).2
theorem GKk161 (h : GK Γ) : Γ.2.2.1 161 = 15 := (h.2 161 (by decide)).1
theorem GKl161 (h : GK Γ) : Γ.2.2.2 161 = 24 := (h.2 161 (by decide)).2
theorem GKk162 (h : GK Γ) : Γ.2.2.1 162 = 15 := (h.2 162 (by decide)).1
theorem GKl162 (h : GK Γ) : Γ.2.2.2 162 = 18 := (h.2 162 (by decide)).2
theorem GKk163 (h : GK Γ) : Γ.2.2.1 163 = 15 := (h.2 163 (by decide)).1
theorem GKl163 (h : GK Γ) : Γ.2.2.2 163 = 900 := (h.2 163 (by decide)).2
theorem GKk164 (h : GK Γ) : Γ.2.2.1 164 = 15 := (h.2 164 (by decide)).1
theorem GKl164 (h : GK Γ) : Γ.2.2.2 164 = 900 := (h.2 164 (by decide)).2
theorem GKk165 (h : GK Γ) : Γ.2.2.1 165 = 15 := (h.2 165 (by decide)).1
theorem GKl165 (h : GK Γ) : Γ.2.2.2 165 = 32 := (h.2 165 (by decide)).2
theorem GKk166 (h : GK Γ) : Γ.2.2.1 166 = 15 := (h.2 166 (by decide)).1
theorem GKl166 (h : GK Γ) : Γ.2.2.2 166 = 32 := (h.2 166 (by decide)).2
theorem GKk167 (h : GK Γ) : Γ.2.2.1 167 = 15 := (h.2 167 (by decide)).1
theorem GKl167 (h : GK Γ) : Γ.2.2.2 167 = 32 := (h.2 167 (by decide)).2
theorem GKk168 (h : GK Γ) : Γ.2.2.1 168 = 15 := (h.2 168 (by decide)).1
theorem GKl168 (h : GK Γ) : Γ.2.2.2 168 = 32 := (h.2 168 (by decide)).2
theorem GKk169 (h : GK Γ) : Γ.2.2.1 169 = 15 := (h.2 169 (by decide)).1
theorem GKl169 (h : GK Γ) : Γ.2.2.2 169 = 32 := (h.2 169 (by decide)).2
theorem GKk170 (h : GK Γ) : Γ.2.2.1 170 = 15 := (h.2 170 (by decide)).1
theorem GKl170 (h : GK Γ) : Γ.2.2.2 170 = 32 := (h.2 170 (by decide)).2
theorem GKk171 (h : GK Γ) : Γ.2.2.1 171 = 15 := (h.2 171 (by decide)).1
theorem GKl171 (h : GK Γ) : Γ.2.2.2 171 = 32 := (h.2 171 (by decide)).2
theorem GKk172 (h : GK Γ) : Γ.2.2.1 172 = 15 := (h.2 172 (by decide)).1
theorem GKl172 (h : GK Γ) : Γ.2.2.2 172 = 32 := (h.2 172 (by decide)).2
theorem GKk173 (h : GK Γ) : Γ.2.2.1 173 = 15 := (h.2 173 (by decide)).1
theorem GKl173 (h : GK Γ) : Γ.2.2.2 173 = 32 := (h.2 173 (by decide)).2
theorem GKk174 (h : GK Γ) : Γ.2.2.1 174 = 15 := (h.2 174 (by decide)).1
theorem GKl174 (h : GK Γ) : Γ.2.2.2 174 = 32 := (h.2 174 (by decide)).2
theorem GKk175 (h : GK Γ) : Γ.2.2.1 175 = 15 := (h.2 175 (by decide)).1
theorem GKl175 (h : GK Γ) : Γ.2.2.2 175 = 32 := (h.2 175 (by decide)).2
theorem GKk176 (h : GK Γ) : Γ.2.2.1 176 = 15 := (h.2 176 (by decide)).1
theorem GKl176 (h : GK Γ) : Γ.2.2.2 176 = 32 := (h.2 176 (by decide)).2
theorem GKk177 (h : GK Γ) : Γ.2.2.1 177 = 15 := (h.2 177 (by decide)).1
theorem GKl177 (h : GK Γ) : Γ.2.2.2 177 = 32 := (h.2 177 (by decide)).2
theorem GKk178 (h : GK Γ) : Γ.2.2.1 178 = 15 := (h.2 178 (by decide)).1
theorem GKl178 (h : GK Γ) : Γ.2.2.2 178 = 32 := (h.2 178 (by decide)).2
theorem GKk179 (h : GK Γ) : Γ.2.2.1 179 = 15 := (h.2 179 (by decide)).1
theorem GKl179 (h : GK Γ) : Γ.2.2.2 179 = 32 := (h.2 179 (by decide)).2
theorem GKk180 (h : GK Γ) : Γ.2.2.1 180 = 15 := (h.2 180 (by decide)).1
theorem GKl180 (h : GK Γ) : Γ.2.2.2 180 = 32 := (h.2 180 (by decide)).2
theorem GKk181 (h : GK Γ) : Γ.2.2.1 181 = 15 := (h.2 181 (by decide)).1
theorem GKl181 (h : GK Γ) : Γ.2.2.2 181 = 32 := (h.2 181 (by decide)).2
theorem GKk182 (h : GK Γ) : Γ.2.2.1 182 = 15 := (h.2 182 (by decide)).1
theorem GKl182 (h : GK Γ) : Γ.2.2.2 182 = 32 := (h.2 182 (by decide)).2
def mrl : List Nat := [103, 104, 0, 0, 0, 0, 0, 0, 0, 0, 0, 105, 106, 107, 108, 109, 110, 111, 112, 113, 114, 115, 116, 117, 118, 119, 120, 121, 122, 123, 124, 125, 126, 127, 0, 0, 0, 0, 0, 128, 129, 130, 131, 132, 0, 0, 133, 134, 0, 0, 135, 0, 136, 0, 137, 138, 139, 140, 141, 142, 0, 0, 0, 143, 144, 145, 0, 146, 147, 148, 0, 0, 149, 150, 151, 152, 153, 154, 155, 156, 157, 158, 0, 0, 159, 160, 161, 162, 163, 164]
def MR (M : rhM) : Prop := ∀ f, f < 90 → mrl.getD f 0 ≠ 0 → M.2.2 102 f = mrl.getD f 0
theorem MRf0 (h : MR M) : M.2.2 102 0 = 103 := h 0 (by decide) (by decide)
theorem MRf1 (h : MR M) : M.2.2 102 1 = 104 := h 1 (by decide) (by decide)
theorem MRf11 (h : MR M) : M.2.2 102 11 = 105 := h 11 (by decide) (by decide)
theorem MRf12 (h : MR M) : M.2.2 102 12 = 106 := h 12 (by decide) (by decide)
theorem MRf13 (h : MR M) : M.2.2 102 13 = 107 := h 13 (by decide) (by decide)
theorem MRf14 (h : MR M) : M.2.2 102 14 = 108 := h 14 (by decide) (by decide)
theorem MRf15 (h : MR M) : M.2.2 102 15 = 109 := h 15 (by decide) (by decide)
theorem MRf16 (h : MR M) : M.2.2 102 16 = 110 := h 16 (by decide) (by decide)
theorem MRf17 (h : MR M) : M.2.2 102 17 = 111 := h 17 (by decide) (by decide)
theorem MRf18 (h : MR M) : M.2.2 102 18 = 112 := h 18 (by decide) (by decide)
theorem MRf19 (h : MR M) : M.2.2 102 19 = 113 := h 19 (by decide) (by decide)
theorem MRf20 (h : MR M) : M.2.2 102 20 = 114 := h 20 (by decide) (by decide)
theorem MRf21 (h : MR M) : M.2.2 102 21 = 115 := h 21 (by decide) (by decide)
theorem MRf22 (h : MR M) : M.2.2 102 22 = 116 := h 22 (by decide) (by decide)
theorem MRf23 (h : MR M) : M.2.2 102 23 = 117 := h 23 (by decide) (by decide)
theorem MRf24 (h : MR M) : M.2.2 102 24 = 118 := h 24 (by decide) (by decide)
theorem MRf25 (h : MR M) : M.2.2 102 25 = 119 := h 25 (by decide) (by decide)
theorem MRf26 (h : MR M) : M.2.2 102 26 = 120 := h 26 (by decide) (by decide)
theorem MRf27 (h : MR M) : M.2.2 102 27 = 121 := h 27 (by decide) (by decide)
theorem MRf28 (h : MR M) : M.2.2 102 28 = 122 := h 28 (by decide) (by decide)
theorem MRf29 (h : MR M) : M.2.2 102 29 = 123 := h 29 (by decide) (by decide)
theorem MRf30 (h : MR M) : M.2.2 102 30 = 124 := h 30 (by decide) (by decide)
theorem MRf31 (h : MR M) : M.2.2 102 31 = 125 := h 31 (by decide) (by decide)
theorem MRf32 (h : MR M) : M.2.2 102 32 = 126 := h 32 (by decide) (by decide)
theorem MRf33 (h : MR M) : M.2.2 102 33 = 127 := h 33 (by decide) (by decide)
theorem MRf39 (h : MR M) : M.2.2 102 39 = 128 := h 39 (by decide) (by decide)
theorem MRf40 (h : MR M) : M.2.2 102 40 = 129 := h 40 (by decide) (by decide)
theorem MRf41 (h : MR M) : M.2.2 102 41 = 130 := h 41 (by decide) (by decide)
theorem MRf42 (h : MR M) : M.2.2 102 42 = 131 := h 42 (by decide) (by decide)
theorem MRf43 (h : MR M) : M.2.2 102 43 = 132 := h 43 (by decide) (by decide)
theorem MRf46 (h : MR M) : M.2.2 102 46 = 133 := h 46 (by decide) (by decide)
theorem MRf47 (h : MR M) : M.2.2 102 47 = 134 := h 47 (by decide) (by decide)
theorem MRf50 (h : MR M) : M.2.2 102 50 = 135 := h 50 (by decide) (by decide)
theorem MRf52 (h : MR M) : M.2.2 102 52 = 136 := h 52 (by decide) (by decide)
theorem MRf54 (h : MR M) : M.2.2 102 54 = 137 := h 54 (by decide) (by decide)
theorem MRf55 (h : MR M) : M.2.2 102 55 = 138 := h 55 (by decide) (by decide)
theorem MRf56 (h : MR M) : M.2.2 102 56 = 139 := h 56 (by decide) (by decide)
theorem MRf57 (h : MR M) : M.2.2 102 57 = 140 := h 57 (by decide) (by decide)
theorem MRf58 (h : MR M) : M.2.2 102 58 = 141 := h 58 (by decide) (by decide)
theorem MRf59 (h : MR M) : M.2.2 102 59 = 142 := h 59 (by decide) (by decide)
theorem MRf63 (h : MR M) : M.2.2 102 63 = 143 := h 63 (by decide) (by decide)
theorem MRf64 (h : MR M) : M.2.2 102 64 = 144 := h 64 (by decide) (by decide)
theorem MRf65 (h : MR M) : M.2.2 102 65 = 145 := h 65 (by decide) (by decide)
theorem MRf67 (h : MR M) : M.2.2 102 67 = 146 := h 67 (by decide) (by decide)
theorem MRf68 (h : MR M) : M.2.2 102 68 = 147 := h 68 (by decide) (by decide)
theorem MRf69 (h : MR M) : M.2.2 102 69 = 148 := h 69 (by decide) (by decide)
theorem MRf72 (h : MR M) : M.2.2 102 72 = 149 := h 72 (by decide) (by decide)
theorem MRf73 (h : MR M) : M.2.2 102 73 = 150 := h 73 (by decide) (by decide)
theorem MRf74 (h : MR M) : M.2.2 102 74 = 151 := h 74 (by decide) (by decide)
theorem MRf75 (h : MR M) : M.2.2 102 75 = 152 := h 75 (by decide) (by decide)
theorem MRf76 (h : MR M) : M.2.2 102 76 = 153 := h 76 (by decide) (by decide)
theorem MRf77 (h : MR M) : M.2.2 102 77 = 154 := h 77 (by decide) (by decide)
theorem MRf78 (h : MR M) : M.2.2 102 78 = 155 := h 78 (by decide) (by decide)
theorem MRf79 (h : MR M) : M.2.2 102 79 = 156 := h 79 (by decide) (by decide)
theorem MRf80 (h : MR M) : M.2.2 102 80 = 157 := h 80 (by decide) (by decide)
theorem MRf81 (h : MR M) : M.2.2 102 81 = 158 := h 81 (by decide) (by decide)
theorem MRf84 (h : MR M) : M.2.2 102 84 = 159 := h 84 (by decide) (by decide)
theorem MRf85 (h : MR M) : M.2.2 102 85 = 160 := h 85 (by decide) (by decide)
theorem MRf86 (h : MR M) : M.2.2 102 86 = 161 := h 86 (by decide) (by decide)
theorem MRf87 (h : MR M) : M.2.2 102 87 = 162 := h 87 (by decide) (by decide)
theorem MRf88 (h : MR M) : M.2.2 102 88 = 163 := h 88 (by decide) (by decide)
theorem MRf89 (h : MR M) : M.2.2 102 89 = 164 := h 89 (by decide) (by decide)
def crl : List (Nat × Nat × Nat) := [(1, 0, 2), (1, 2, 3), (1, 5, 33), (1, 6, 40), (1, 7, 47), (1, 8, 49), (1, 9, 51), (1, 12, 53), (1, 13, 54), (1, 14, 55), (3, 2, 4), (3, 3, 7), (3, 4, 8), (3, 5, 9), (3, 6, 10), (4, 0, 5), (11, 6, 12), (11, 7, 13), (11, 8, 14), (11, 9, 15), (11, 10, 16), (11, 11, 17), (17, 2, 18), (17, 3, 19), (17, 4, 20), (17, 5, 21), (22, 6, 23), (22, 7, 24), (22, 8, 25), (22, 9, 26), (22, 10, 27), (22, 11, 28), (28, 2, 29), (28, 3, 30), (28, 4, 31), (28, 5, 32), (33, 2, 34), (33, 3, 35), (33, 4, 36), (33, 5, 37), (33, 7, 38), (33, 8, 39), (33, 9, 165), (33, 10, 166), (33, 11, 167), (40, 2, 41), (40, 3, 42), (40, 4, 43), (40, 5, 44), (40, 7, 45), (40, 8, 46), (40, 9, 168), (40, 10, 169), (40, 11, 170), (47, 0, 48), (49, 0, 50), (54, 0, 96), (54, 1, 98), (54, 2, 100), (55, 1, 56), (55, 2, 57), (55, 3, 58), (55, 4, 59), (55, 5, 60), (55, 6, 61), (55, 7, 62), (55, 8, 63), (55, 12, 65), (55, 13, 66), (55, 14, 67), (62, 0, 68), (62, 1, 75), (62, 2, 82), (62, 3, 89), (63, 0, 64), (68, 2, 69), (68, 3, 70), (68, 4, 71), (68, 5, 72), (68, 7, 73), (68, 8, 74), (68, 9, 171), (68, 10, 172), (68, 11, 173), (75, 2, 76), (75, 3, 77), (75, 4, 78), (75, 5, 79), (75, 7, 80), (75, 8, 81), (75, 9, 174), (75, 10, 175), (75, 11, 176), (82, 2, 83), (82, 3, 84), (82, 4, 85), (82, 5, 86), (82, 7, 87), (82, 8, 88), (82, 9, 177), (82, 10, 178), (82, 11, 179), (89, 2, 90), (89, 3, 91), (89, 4, 92), (89, 5, 93), (89, 7, 94), (89, 8, 95), (89, 9, 180), (89, 10, 181), (89, 11, 182), (96, 0, 97), (98, 0, 99), (100, 0, 101)]
def CR (M : rhM) : Prop := ∀ t ∈ crl, M.2.2 t.1 t.2.1 = t.2.2
theorem CR1_0 (h : CR M) : M.2.2 1 0 = 2 := h (1, 0, 2) (by decide)
theorem CR1_2 (h : CR M) : M.2.2 1 2 = 3 := h (1, 2, 3) (by decide)
theorem CR1_5 (h : CR M) : M.2.2 1 5 = 33 := h (1, 5, 33) (by decide)
theorem CR1_6 (h : CR M) : M.2.2 1 6 = 40 := h (1, 6, 40) (by decide)
theorem CR1_7 (h : CR M) : M.2.2 1 7 = 47 := h (1, 7, 47) (by decide)
theorem CR1_8 (h : CR M) : M.2.2 1 8 = 49 := h (1, 8, 49) (by decide)
theorem CR1_9 (h : CR M) : M.2.2 1 9 = 51 := h (1, 9, 51) (by decide)
theorem CR1_12 (h : CR M) : M.2.2 1 12 = 53 := h (1, 12, 53) (by decide)
theorem CR1_13 (h : CR M) : M.2.2 1 13 = 54 := h (1, 13, 54) (by decide)
theorem CR1_14 (h : CR M) : M.2.2 1 14 = 55 := h (1, 14, 55) (by decide)
theorem CR3_2 (h : CR M) : M.2.2 3 2 = 4 := h (3, 2, 4) (by decide)
theorem CR3_3 (h : CR M) : M.2.2 3 3 = 7 := h (3, 3, 7) (by decide)
theorem CR3_4 (h : CR M) : M.2.2 3 4 = 8 := h (3, 4, 8) (by decide)
theorem CR3_5 (h : CR M) : M.2.2 3 5 = 9 := h (3, 5, 9) (by decide)
theorem CR3_6 (h : CR M) : M.2.2 3 6 = 10 := h (3, 6, 10) (by decide)
theorem CR4_0 (h : CR M) : M.2.2 4 0 = 5 := h (4, 0, 5) (by decide)
theorem CR11_6 (h : CR M) : M.2.2 11 6 = 12 := h (11, 6, 12) (by decide)
theorem CR11_7 (h : CR M) : M.2.2 11 7 = 13 := h (11, 7, 13) (by decide)
theorem CR11_8 (h : CR M) : M.2.2 11 8 = 14 := h (11, 8, 14) (by decide)
theorem CR11_9 (h : CR M) : M.2.2 11 9 = 15 := h (11, 9, 15) (by decide)
theorem CR11_10 (h : CR M) : M.2.2 11 10 = 16 := h (11, 10, 16) (by decide)
theorem CR11_11 (h : CR M) : M.2.2 11 11 = 17 := h (11, 11, 17) (by decide)
theorem CR17_2 (h : CR M) : M.2.2 17 2 = 18 := h (17, 2, 18) (by decide)
theorem CR17_3 (h : CR M) : M.2.2 17 3 = 19 := h (17, 3, 19) (by decide)
theorem CR17_4 (h : CR M) : M.2.2 17 4 = 20 := h (17, 4, 20) (by decide)
theorem CR17_5 (h : CR M) : M.2.2 17 5 = 21 := h (17, 5, 21) (by decide)
theorem CR22_6 (h : CR M) : M.2.2 22 6 = 23 := h (22, 6, 23) (by decide)
theorem CR22_7 (h : CR M) : M.2.2 22 7 = 24 := h (22, 7, 24) (by decide)
theorem CR22_8 (h : CR M) : M.2.2 22 8 = 25 := h (22, 8, 25) (by decide)
theorem CR22_9 (h : CR M) : M.2.2 22 9 = 26 := h (22, 9, 26) (by decide)
theorem CR22_10 (h : CR M) : M.2.2 22 10 = 27 := h (22, 10, 27) (by decide)
theorem CR22_11 (h : CR M) : M.2.2 22 11 = 28 := h (22, 11, 28) (by decide)
theorem CR28_2 (h : CR M) : M.2.2 28 2 = 29 := h (28, 2, 29) (by decide)
theorem CR28_3 (h : CR M) : M.2.2 28 3 = 30 := h (28, 3, 30) (by decide)
theorem CR28_4 (h : CR M) : M.2.2 28 4 = 31 := h (28, 4, 31) (by decide)
theorem CR28_5 (h : CR M) : M.2.2 28 5 = 32 := h (28, 5, 32) (by decide)
theorem CR33_2 (h : CR M) : M.2.2 33 2 = 34 := h (33, 2, 34) (by decide)
theorem CR33_3 (h : CR M) : M.2.2 33 3 = 35 := h (33, 3, 35) (by decide)
theorem CR33_4 (h : CR M) : M.2.2 33 4 = 36 := h (33, 4, 36) (by decide)
theorem CR33_5 (h : CR M) : M.2.2 33 5 = 37 := h (33, 5, 37) (by decide)
theorem CR33_7 (h : CR M) : M.2.2 33 7 = 38 := h (33, 7, 38) (by decide)
theorem CR33_8 (h : CR M) : M.2.2 33 8 = 39 := h (33, 8, 39) (by decide)
theorem CR33_9 (h : CR M) : M.2.2 33 9 = 165 := h (33, 9, 165) (by decide)
theorem CR33_10 (h : CR M) : M.2.2 33 10 = 166 := h (33, 10, 166) (by decide)
theorem CR33_11 (h : CR M) : M.2.2 33 11 = 167 := h (33, 11, 167) (by decide)
theorem CR40_2 (h : CR M) : M.2.2 40 2 = 41 := h (40, 2, 41) (by decide)
theorem CR40_3 (h : CR M) : M.2.2 40 3 = 42 := h (40, 3, 42) (by decide)
theorem CR40_4 (h : CR M) : M.2.2 40 4 = 43 := h (40, 4, 43) (by decide)
theorem CR40_5 (h : CR M) : M.2.2 40 5 = 44 := h (40, 5, 44) (by decide)
theorem CR40_7 (h : CR M) : M.2.2 40 7 = 45 := h (40, 7, 45) (by decide)
theorem CR40_8 (h : CR M) : M.2.2 40 8 = 46 := h (40, 8, 46) (by decide)
theorem CR40_9 (h : CR M) : M.2.2 40 9 = 168 := h (40, 9, 168) (by decide)
theorem CR40_10 (h : CR M) : M.2.2 40 10 = 169 := h (40, 10, 169) (by decide)
theorem CR40_11 (h : CR M) : M.2.2 40 11 = 170 := h (40, 11, 170) (by decide)
theorem CR47_0 (h : CR M) : M.2.2 47 0 = 48 := h (47, 0, 48) (by decide)
theorem CR49_0 (h : CR M) : M.2.2 49 0 = 50 := h (49, 0, 50) (by decide)
theorem CR54_0 (h : CR M) : M.2.2 54 0 = 96 := h (54, 0, 96) (by decide)
theorem CR54_1 (h : CR M) : M.2.2 54 1 = 98 := h (54, 1, 98) (by decide)
theorem CR54_2 (h : CR M) : M.2.2 54 2 = 100 := h (54, 2, 100) (by decide)
theorem CR55_1 (h : CR M) : M.2.2 55 1 = 56 := h (55, 1, 56) (by decide)
theorem CR55_2 (h : CR M) : M.2.2 55 2 = 57 := h (55, 2, 57) (by decide)
theorem CR55_3 (h : CR M) : M.2.2 55 3 = 58 := h (55, 3, 58) (by decide)
theorem CR55_4 (h : CR M) : M.2.2 55 4 = 59 := h (55, 4, 59) (by decide)
theorem CR55_5 (h : CR M) : M.2.2 55 5 = 60 := h (55, 5, 60) (by decide)
theorem CR55_6 (h : CR M) : M.2.2 55 6 = 61 := h (55, 6, 61) (by decide)
theorem CR55_7 (h : CR M) : M.2.2 55 7 = 62 := h (55, 7, 62) (by decide)
theorem CR55_8 (h : CR M) : M.2.2 55 8 = 63 := h (55, 8, 63) (by decide)
theorem CR55_12 (h : CR M) : M.2.2 55 12 = 65 := h (55, 12, 65) (by decide)
theorem CR55_13 (h : CR M) : M.2.2 55 13 = 66 := h (55, 13, 66) (by decide)
theorem CR55_14 (h : CR M) : M.2.2 55 14 = 67 := h (55, 14, 67) (by decide)
theorem CR62_0 (h : CR M) : M.2.2 62 0 = 68 := h (62, 0, 68) (by decide)
theorem CR62_1 (h : CR M) : M.2.2 62 1 = 75 := h (62, 1, 75) (by decide)
theorem CR62_2 (h : CR M) : M.2.2 62 2 = 82 := h (62, 2, 82) (by decide)
theorem CR62_3 (h : CR M) : M.2.2 62 3 = 89 := h (62, 3, 89) (by decide)
theorem CR63_0 (h : CR M) : M.2.2 63 0 = 64 := h (63, 0, 64) (by decide)
theorem CR68_2 (h : CR M) : M.2.2 68 2 = 69 := h (68, 2, 69) (by decide)
theorem CR68_3 (h : CR M) : M.2.2 68 3 = 70 := h (68, 3, 70) (by decide)
theorem CR68_4 (h : CR M) : M.2.2 68 4 = 71 := h (68, 4, 71) (by decide)
theorem CR68_5 (h : CR M) : M.2.2 68 5 = 72 := h (68, 5, 72) (by decide)
theorem CR68_7 (h : CR M) : M.2.2 68 7 = 73 := h (68, 7, 73) (by decide)
theorem CR68_8 (h : CR M) : M.2.2 68 8 = 74 := h (68, 8, 74) (by decide)
theorem CR68_9 (h : CR M) : M.2.2 68 9 = 171 := h (68, 9, 171) (by decide)
theorem CR68_10 (h : CR M) : M.2.2 68 10 = 172 := h (68, 10, 172) (by decide)
theorem CR68_11 (h : CR M) : M.2.2 68 11 = 173 := h (68, 11, 173) (by decide)
theorem CR75_2 (h : CR M) : M.2.2 75 2 = 76 := h (75, 2, 76) (by decide)
theorem CR75_3 (h : CR M) : M.2.2 75 3 = 77 := h (75, 3, 77) (by decide)
theorem CR75_4 (h : CR M) : M.2.2 75 4 = 78 := h (75, 4, 78) (by decide)
theorem CR75_5 (h : CR M) : M.2.2 75 5 = 79 := h (75, 5, 79) (by decide)
theorem CR75_7 (h : CR M) : M.2.2 75 7 = 80 := h (75, 7, 80) (by decide)
theorem CR75_8 (h : CR M) : M.2.2 75 8 = 81 := h (75, 8, 81) (by decide)
theorem CR75_9 (h : CR M) : M.2.2 75 9 = 174 := h (75, 9, 174) (by decide)
theorem CR75_10 (h : CR M) : M.2.2 75 10 = 175 := h (75, 10, 175) (by decide)
theorem CR75_11 (h : CR M) : M.2.2 75 11 = 176 := h (75, 11, 176) (by decide)
theorem CR82_2 (h : CR M) : M.2.2 82 2 = 83 := h (82, 2, 83) (by decide)
theorem CR82_3 (h : CR M) : M.2.2 82 3 = 84 := h (82, 3, 84) (by decide)
theorem CR82_4 (h : CR M) : M.2.2 82 4 = 85 := h (82, 4, 85) (by decide)
theorem CR82_5 (h : CR M) : M.2.2 82 5 = 86 := h (82, 5, 86) (by decide)
theorem CR82_7 (h : CR M) : M.2.2 82 7 = 87 := h (82, 7, 87) (by decide)
theorem CR82_8 (h : CR M) : M.2.2 82 8 = 88 := h (82, 8, 88) (by decide)
theorem CR82_9 (h : CR M) : M.2.2 82 9 = 177 := h (82, 9, 177) (by decide)
theorem CR82_10 (h : CR M) : M.2.2 82 10 = 178 := h (82, 10, 178) (by decide)
theorem CR82_11 (h : CR M) : M.2.2 82 11 = 179 := h (82, 11, 179) (by decide)
theorem CR89_2 (h : CR M) : M.2.2 89 2 = 90 := h (89, 2, 90) (by decide)
theorem CR89_3 (h : CR M) : M.2.2 89 3 = 91 := h (89, 3, 91) (by decide)
theorem CR89_4 (h : CR M) : M.2.2 89 4 = 92 := h (89, 4, 92) (by decide)
theorem CR89_5 (h : CR M) : M.2.2 89 5 = 93 := h (89, 5, 93) (by decide)
theorem CR89_7 (h : CR M) : M.2.2 89 7 = 94 := h (89, 7, 94) (by decide)
theorem CR89_8 (h : CR M) : M.2.2 89 8 = 95 := h (89, 8, 95) (by decide)
theorem CR89_9 (h : CR M) : M.2.2 89 9 = 180 := h (89, 9, 180) (by decide)
theorem CR89_10 (h : CR M) : M.2.2 89 10 = 181 := h (89, 10, 181) (by decide)
theorem CR89_11 (h : CR M) : M.2.2 89 11 = 182 := h (89, 11, 182) (by decide)
theorem CR96_0 (h : CR M) : M.2.2 96 0 = 97 := h (96, 0, 97) (by decide)
theorem CR98_0 (h : CR M) : M.2.2 98 0 = 99 := h (98, 0, 99) (by decide)
theorem CR100_0 (h : CR M) : M.2.2 100 0 = 101 := h (100, 0, 101) (by decide)
end
