def f_X12_init_517 : Nat → rhG → rhM → Nat → Int32 → Option (rhG × rhM)
  | 0, _, _, _, _ => none
  | n + 1, Γ, M, v0, v1 =>
    if v1 < 3 then
      (rhck (Γ.2.2.1 v0 = 13) <|
      rhck (Γ.2.2.1 (M.2.2 v0 84) = 15) <|
      rhck (0 ≤ (v1).toInt ∧ (v1).toInt < (Γ.2.2.2 (M.2.2 v0 84) : Nat)) <|
      let M320 := rhsi M (M.2.2 v0 84) (v1 : Int32).toNatClampNeg ((-1))
      let x321 : Int32 := v1 + 1
      f_X12_init_517 n Γ M320 v0 x321)
    else
      some (Γ, M)
def f_X12_init (Γ : rhG) (M : rhM) (v0 : Nat) : Option (rhG × rhM) :=
  rhck (Γ.2.2.1 v0 = 13) <|
  rhck (0 ≤ (1620 : Int32).toInt ∧ (1620 : Int32).toInt ≤ 67108864) <|
  let M4 := rhmn M (Γ.1 + 1)
  let G3 := rhgn Γ 14 (1620 : Int32).toNatClampNeg (1620 : Int32).toNatClampNeg
  rhck (G3.2.2.1 v0 = 13) <|
  let M6 := rhsr M4 v0 0 ((Γ.1 + 1))
  rhck (0 ≤ (1600 : Int32).toInt ∧ (1600 : Int32).toInt ≤ 67108864) <|
  let M9 := rhmn M6 (G3.1 + 1)
  let G8 := rhgn G3 14 (1600 : Int32).toNatClampNeg (1600 : Int32).toNatClampNeg
  rhck (G8.2.2.1 v0 = 13) <|
  let M11 := rhsr M9 v0 1 ((G3.1 + 1))
  let M12 := rhsi M11 v0 5 ((-1))
  rhck (0 ≤ (2 : Int32).toInt ∧ (2 : Int32).toInt ≤ 67108864) <|
  let M15 := rhmn M12 (G8.1 + 1)
  let G14 := rhgn G8 15 (2 : Int32).toNatClampNeg (2 : Int32).toNatClampNeg
  rhck (G14.2.2.1 v0 = 13) <|
  let M17 := rhsr M15 v0 11 ((G8.1 + 1))
  rhck (0 ≤ (2 : Int32).toInt ∧ (2 : Int32).toInt ≤ 67108864) <|
  let M20 := rhmn M17 (G14.1 + 1)
  let G19 := rhgn G14 15 (2 : Int32).toNatClampNeg (2 : Int32).toNatClampNeg
  rhck (G19.2.2.1 v0 = 13) <|
  let M22 := rhsr M20 v0 12 ((G14.1 + 1))
  rhck (0 ≤ (2 : Int32).toInt ∧ (2 : Int32).toInt ≤ 67108864) <|
  let M25 := rhmn M22 (G19.1 + 1)
  let G24 := rhgn G19 15 (2 : Int32).toNatClampNeg (2 : Int32).toNatClampNeg
  rhck (G24.2.2.1 v0 = 13) <|
  let M27 := rhsr M25 v0 13 ((G19.1 + 1))
  rhck (0 ≤ (2 : Int32).toInt ∧ (2 : Int32).toInt ≤ 67108864) <|
  let M30 := rhmn M27 (G24.1 + 1)
  let G29 := rhgn G24 15 (2 : Int32).toNatClampNeg (2 : Int32).toNatClampNeg
  rhck (G29.2.2.1 v0 = 13) <|
  let M32 := rhsr M30 v0 14 ((G24.1 + 1))
  rhck (0 ≤ (2 : Int32).toInt ∧ (2 : Int32).toInt ≤ 67108864) <|
  let M35 := rhmn M32 (G29.1 + 1)
  let G34 := rhgn G29 15 (2 : Int32).toNatClampNeg (2 : Int32).toNatClampNeg
  rhck (G34.2.2.1 v0 = 13) <|
  let M37 := rhsr M35 v0 15 ((G29.1 + 1))
  rhck (0 ≤ (2 : Int32).toInt ∧ (2 : Int32).toInt ≤ 67108864) <|
  let M40 := rhmn M37 (G34.1 + 1)
  let G39 := rhgn G34 15 (2 : Int32).toNatClampNeg (2 : Int32).toNatClampNeg
  rhck (G39.2.2.1 v0 = 13) <|
  let M42 := rhsr M40 v0 16 ((G34.1 + 1))
  rhck (0 ≤ (2 : Int32).toInt ∧ (2 : Int32).toInt ≤ 67108864) <|
  let M45 := rhmn M42 (G39.1 + 1)
  let G44 := rhgn G39 15 (2 : Int32).toNatClampNeg (2 : Int32).toNatClampNeg
  rhck (G44.2.2.1 v0 = 13) <|
  let M47 := rhsr M45 v0 17 ((G39.1 + 1))
  rhck (0 ≤ (10 : Int32).toInt ∧ (10 : Int32).toInt ≤ 67108864) <|
  let M50 := rhmn M47 (G44.1 + 1)
  let G49 := rhgn G44 15 (10 : Int32).toNatClampNeg (10 : Int32).toNatClampNeg
  rhck (G49.2.2.1 v0 = 13) <|
  let M52 := rhsr M50 v0 18 ((G44.1 + 1))
  rhck (0 ≤ (16 : Int32).toInt ∧ (16 : Int32).toInt ≤ 67108864) <|
  let M55 := rhmn M52 (G49.1 + 1)
  let G54 := rhgn G49 15 (16 : Int32).toNatClampNeg (16 : Int32).toNatClampNeg
  rhck (G54.2.2.1 v0 = 13) <|
  let M57 := rhsr M55 v0 19 ((G49.1 + 1))
  rhck (0 ≤ (16 : Int32).toInt ∧ (16 : Int32).toInt ≤ 67108864) <|
  let M60 := rhmn M57 (G54.1 + 1)
  let G59 := rhgn G54 15 (16 : Int32).toNatClampNeg (16 : Int32).toNatClampNeg
  rhck (G59.2.2.1 v0 = 13) <|
  let M62 := rhsr M60 v0 20 ((G54.1 + 1))
  rhck (0 ≤ (16 : Int32).toInt ∧ (16 : Int32).toInt ≤ 67108864) <|
  let M65 := rhmn M62 (G59.1 + 1)
  let G64 := rhgn G59 15 (16 : Int32).toNatClampNeg (16 : Int32).toNatClampNeg
  rhck (G64.2.2.1 v0 = 13) <|
  let M67 := rhsr M65 v0 21 ((G59.1 + 1))
  rhck (0 ≤ (128 : Int32).toInt ∧ (128 : Int32).toInt ≤ 67108864) <|
  let M70 := rhmn M67 (G64.1 + 1)
  let G69 := rhgn G64 15 (128 : Int32).toNatClampNeg (128 : Int32).toNatClampNeg
  rhck (G69.2.2.1 v0 = 13) <|
  let M72 := rhsr M70 v0 22 ((G64.1 + 1))
  rhck (0 ≤ (2 : Int32).toInt ∧ (2 : Int32).toInt ≤ 67108864) <|
  let M75 := rhmn M72 (G69.1 + 1)
  let G74 := rhgn G69 17 (2 : Int32).toNatClampNeg (2 : Int32).toNatClampNeg
  rhck (G74.2.2.1 v0 = 13) <|
  let M77 := rhsr M75 v0 23 ((G69.1 + 1))
  rhck (0 ≤ (2 : Int32).toInt ∧ (2 : Int32).toInt ≤ 67108864) <|
  let M80 := rhmn M77 (G74.1 + 1)
  let G79 := rhgn G74 17 (2 : Int32).toNatClampNeg (2 : Int32).toNatClampNeg
  rhck (G79.2.2.1 v0 = 13) <|
  let M82 := rhsr M80 v0 24 ((G74.1 + 1))
  rhck (0 ≤ (2 : Int32).toInt ∧ (2 : Int32).toInt ≤ 67108864) <|
  let M85 := rhmn M82 (G79.1 + 1)
  let G84 := rhgn G79 17 (2 : Int32).toNatClampNeg (2 : Int32).toNatClampNeg
  rhck (G84.2.2.1 v0 = 13) <|
  let M87 := rhsr M85 v0 25 ((G79.1 + 1))
  rhck (0 ≤ (128 : Int32).toInt ∧ (128 : Int32).toInt ≤ 67108864) <|
  let M90 := rhmn M87 (G84.1 + 1)
  let G89 := rhgn G84 17 (128 : Int32).toNatClampNeg (128 : Int32).toNatClampNeg
  rhck (G89.2.2.1 v0 = 13) <|
  let M92 := rhsr M90 v0 26 ((G84.1 + 1))
  rhck (0 ≤ (10 : Int32).toInt ∧ (10 : Int32).toInt ≤ 67108864) <|
  let M95 := rhmn M92 (G89.1 + 1)
  let G94 := rhgn G89 16 (10 : Int32).toNatClampNeg (10 : Int32).toNatClampNeg
  rhck (G94.2.2.1 v0 = 13) <|
  let M97 := rhsr M95 v0 27 ((G89.1 + 1))
  rhck (0 ≤ (16 : Int32).toInt ∧ (16 : Int32).toInt ≤ 67108864) <|
  let M100 := rhmn M97 (G94.1 + 1)
  let G99 := rhgn G94 16 (16 : Int32).toNatClampNeg (16 : Int32).toNatClampNeg
  rhck (G99.2.2.1 v0 = 13) <|
  let M102 := rhsr M100 v0 28 ((G94.1 + 1))
  rhck (0 ≤ (1000 : Int32).toInt ∧ (1000 : Int32).toInt ≤ 67108864) <|
  let M105 := rhmn M102 (G99.1 + 1)
  let G104 := rhgn G99 15 (1000 : Int32).toNatClampNeg (1000 : Int32).toNatClampNeg
  rhck (G104.2.2.1 v0 = 13) <|
  let M107 := rhsr M105 v0 29 ((G99.1 + 1))
  rhck (0 ≤ (1000 : Int32).toInt ∧ (1000 : Int32).toInt ≤ 67108864) <|
  let M110 := rhmn M107 (G104.1 + 1)
  let G109 := rhgn G104 15 (1000 : Int32).toNatClampNeg (1000 : Int32).toNatClampNeg
  rhck (G109.2.2.1 v0 = 13) <|
  let M112 := rhsr M110 v0 30 ((G104.1 + 1))
  rhck (0 ≤ (90 : Int32).toInt ∧ (90 : Int32).toInt ≤ 67108864) <|
  let M115 := rhmn M112 (G109.1 + 1)
  let G114 := rhgn G109 15 (90 : Int32).toNatClampNeg (90 : Int32).toNatClampNeg
  rhck (G114.2.2.1 v0 = 13) <|
  let M117 := rhsr M115 v0 31 ((G109.1 + 1))
  rhck (0 ≤ (90 : Int32).toInt ∧ (90 : Int32).toInt ≤ 67108864) <|
  let M120 := rhmn M117 (G114.1 + 1)
  let G119 := rhgn G114 15 (90 : Int32).toNatClampNeg (90 : Int32).toNatClampNeg
  rhck (G119.2.2.1 v0 = 13) <|
  let M122 := rhsr M120 v0 32 ((G114.1 + 1))
  rhck (0 ≤ (70 : Int32).toInt ∧ (70 : Int32).toInt ≤ 67108864) <|
  let M125 := rhmn M122 (G119.1 + 1)
  let G124 := rhgn G119 15 (70 : Int32).toNatClampNeg (70 : Int32).toNatClampNeg
  rhck (G124.2.2.1 v0 = 13) <|
  let M127 := rhsr M125 v0 33 ((G119.1 + 1))
  rhck (0 ≤ (8 : Int32).toInt ∧ (8 : Int32).toInt ≤ 67108864) <|
  let M130 := rhmn M127 (G124.1 + 1)
  let G129 := rhgn G124 15 (8 : Int32).toNatClampNeg (8 : Int32).toNatClampNeg
  rhck (G129.2.2.1 v0 = 13) <|
  let M132 := rhsr M130 v0 39 ((G124.1 + 1))
  rhck (0 ≤ (6 : Int32).toInt ∧ (6 : Int32).toInt ≤ 67108864) <|
  let M135 := rhmn M132 (G129.1 + 1)
  let G134 := rhgn G129 15 (6 : Int32).toNatClampNeg (6 : Int32).toNatClampNeg
  rhck (G134.2.2.1 v0 = 13) <|
  let M137 := rhsr M135 v0 40 ((G129.1 + 1))
  rhck (0 ≤ (8 : Int32).toInt ∧ (8 : Int32).toInt ≤ 67108864) <|
  let M140 := rhmn M137 (G134.1 + 1)
  let G139 := rhgn G134 15 (8 : Int32).toNatClampNeg (8 : Int32).toNatClampNeg
  rhck (G139.2.2.1 v0 = 13) <|
  let M142 := rhsr M140 v0 41 ((G134.1 + 1))
  rhck (0 ≤ (8 : Int32).toInt ∧ (8 : Int32).toInt ≤ 67108864) <|
  let M145 := rhmn M142 (G139.1 + 1)
  let G144 := rhgn G139 15 (8 : Int32).toNatClampNeg (8 : Int32).toNatClampNeg
  rhck (G144.2.2.1 v0 = 13) <|
  let M147 := rhsr M145 v0 42 ((G139.1 + 1))
  rhck (0 ≤ (6 : Int32).toInt ∧ (6 : Int32).toInt ≤ 67108864) <|
  let M150 := rhmn M147 (G144.1 + 1)
  let G149 := rhgn G144 15 (6 : Int32).toNatClampNeg (6 : Int32).toNatClampNeg
  rhck (G149.2.2.1 v0 = 13) <|
  let M152 := rhsr M150 v0 43 ((G144.1 + 1))
  let M153 := rhsi M152 v0 44 ((-1))
  rhck (0 ≤ (300 : Int32).toInt ∧ (300 : Int32).toInt ≤ 67108864) <|
  let M156 := rhmn M153 (G149.1 + 1)
  let G155 := rhgn G149 15 (300 : Int32).toNatClampNeg (300 : Int32).toNatClampNeg
  rhck (G155.2.2.1 v0 = 13) <|
  let M158 := rhsr M156 v0 46 ((G149.1 + 1))
  rhck (0 ≤ (300 : Int32).toInt ∧ (300 : Int32).toInt ≤ 67108864) <|
  let M161 := rhmn M158 (G155.1 + 1)
  let G160 := rhgn G155 15 (300 : Int32).toNatClampNeg (300 : Int32).toNatClampNeg
  rhck (G160.2.2.1 v0 = 13) <|
  let M163 := rhsr M161 v0 47 ((G155.1 + 1))
  rhck (0 ≤ (12 : Int32).toInt ∧ (12 : Int32).toInt ≤ 67108864) <|
  let M166 := rhmn M163 (G160.1 + 1)
  let G165 := rhgn G160 15 (12 : Int32).toNatClampNeg (12 : Int32).toNatClampNeg
  rhck (G165.2.2.1 v0 = 13) <|
  let M168 := rhsr M166 v0 50 ((G160.1 + 1))
  rhck (0 ≤ (8 : Int32).toInt ∧ (8 : Int32).toInt ≤ 67108864) <|
  let M171 := rhmn M168 (G165.1 + 1)
  let G170 := rhgn G165 15 (8 : Int32).toNatClampNeg (8 : Int32).toNatClampNeg
  rhck (G170.2.2.1 v0 = 13) <|
  let M173 := rhsr M171 v0 52 ((G165.1 + 1))
  rhck (0 ≤ (246960 : Int32).toInt ∧ (246960 : Int32).toInt ≤ 67108864) <|
  let M176 := rhmn M173 (G170.1 + 1)
  let G175 := rhgn G170 15 (246960 : Int32).toNatClampNeg (246960 : Int32).toNatClampNeg
  rhck (G175.2.2.1 v0 = 13) <|
  let M178 := rhsr M176 v0 54 ((G170.1 + 1))
  rhck (0 ≤ (246960 : Int32).toInt ∧ (246960 : Int32).toInt ≤ 67108864) <|
  let M181 := rhmn M178 (G175.1 + 1)
  let G180 := rhgn G175 15 (246960 : Int32).toNatClampNeg (246960 : Int32).toNatClampNeg
  rhck (G180.2.2.1 v0 = 13) <|
  let M183 := rhsr M181 v0 55 ((G175.1 + 1))
  rhck (0 ≤ (246960 : Int32).toInt ∧ (246960 : Int32).toInt ≤ 67108864) <|
  let M186 := rhmn M183 (G180.1 + 1)
  let G185 := rhgn G180 15 (246960 : Int32).toNatClampNeg (246960 : Int32).toNatClampNeg
  rhck (G185.2.2.1 v0 = 13) <|
  let M188 := rhsr M186 v0 56 ((G180.1 + 1))
  rhck (0 ≤ (246960 : Int32).toInt ∧ (246960 : Int32).toInt ≤ 67108864) <|
  let M191 := rhmn M188 (G185.1 + 1)
  let G190 := rhgn G185 15 (246960 : Int32).toNatClampNeg (246960 : Int32).toNatClampNeg
  rhck (G190.2.2.1 v0 = 13) <|
  let M193 := rhsr M191 v0 57 ((G185.1 + 1))
  rhck (0 ≤ (61000 : Int32).toInt ∧ (61000 : Int32).toInt ≤ 67108864) <|
  let M196 := rhmn M193 (G190.1 + 1)
  let G195 := rhgn G190 15 (61000 : Int32).toNatClampNeg (61000 : Int32).toNatClampNeg
  rhck (G195.2.2.1 v0 = 13) <|
  let M198 := rhsr M196 v0 58 ((G190.1 + 1))
  rhck (0 ≤ (246960 : Int32).toInt ∧ (246960 : Int32).toInt ≤ 67108864) <|
  let M201 := rhmn M198 (G195.1 + 1)
  let G200 := rhgn G195 17 (246960 : Int32).toNatClampNeg (246960 : Int32).toNatClampNeg
  rhck (G200.2.2.1 v0 = 13) <|
  let M203 := rhsr M201 v0 59 ((G195.1 + 1))
  rhck (0 ≤ (8 : Int32).toInt ∧ (8 : Int32).toInt ≤ 67108864) <|
  let M206 := rhmn M203 (G200.1 + 1)
  let G205 := rhgn G200 15 (8 : Int32).toNatClampNeg (8 : Int32).toNatClampNeg
  rhck (G205.2.2.1 v0 = 13) <|
  let M208 := rhsr M206 v0 63 ((G200.1 + 1))
  rhck (0 ≤ (6 : Int32).toInt ∧ (6 : Int32).toInt ≤ 67108864) <|
  let M211 := rhmn M208 (G205.1 + 1)
  let G210 := rhgn G205 15 (6 : Int32).toNatClampNeg (6 : Int32).toNatClampNeg
  rhck (G210.2.2.1 v0 = 13) <|
  let M213 := rhsr M211 v0 64 ((G205.1 + 1))
  rhck (0 ≤ (61000 : Int32).toInt ∧ (61000 : Int32).toInt ≤ 67108864) <|
  let M216 := rhmn M213 (G210.1 + 1)
  let G215 := rhgn G210 15 (61000 : Int32).toNatClampNeg (61000 : Int32).toNatClampNeg
  rhck (G215.2.2.1 v0 = 13) <|
  let M218 := rhsr M216 v0 65 ((G210.1 + 1))
  rhck (0 ≤ (61000 : Int32).toInt ∧ (61000 : Int32).toInt ≤ 67108864) <|
  let M221 := rhmn M218 (G215.1 + 1)
  let G220 := rhgn G215 15 (61000 : Int32).toNatClampNeg (61000 : Int32).toNatClampNeg
  rhck (G220.2.2.1 v0 = 13) <|
  let M223 := rhsr M221 v0 67 ((G215.1 + 1))
  rhck (0 ≤ (246960 : Int32).toInt ∧ (246960 : Int32).toInt ≤ 67108864) <|
  let M226 := rhmn M223 (G220.1 + 1)
  let G225 := rhgn G220 15 (246960 : Int32).toNatClampNeg (246960 : Int32).toNatClampNeg
  rhck (G225.2.2.1 v0 = 13) <|
  let M228 := rhsr M226 v0 68 ((G220.1 + 1))
  rhck (0 ≤ (61000 : Int32).toInt ∧ (61000 : Int32).toInt ≤ 67108864) <|
  let M231 := rhmn M228 (G225.1 + 1)
  let G230 := rhgn G225 15 (61000 : Int32).toNatClampNeg (61000 : Int32).toNatClampNeg
  rhck (G230.2.2.1 v0 = 13) <|
  let M233 := rhsr M231 v0 69 ((G225.1 + 1))
  rhck (0 ≤ (20 : Int32).toInt ∧ (20 : Int32).toInt ≤ 67108864) <|
  let M236 := rhmn M233 (G230.1 + 1)
  let G235 := rhgn G230 15 (20 : Int32).toNatClampNeg (20 : Int32).toNatClampNeg
  rhck (G235.2.2.1 v0 = 13) <|
  let M238 := rhsr M236 v0 72 ((G230.1 + 1))
  rhck (0 ≤ (20 : Int32).toInt ∧ (20 : Int32).toInt ≤ 67108864) <|
  let M241 := rhmn M238 (G235.1 + 1)
  let G240 := rhgn G235 15 (20 : Int32).toNatClampNeg (20 : Int32).toNatClampNeg
  rhck (G240.2.2.1 v0 = 13) <|
  let M243 := rhsr M241 v0 73 ((G235.1 + 1))
  rhck (0 ≤ (20 : Int32).toInt ∧ (20 : Int32).toInt ≤ 67108864) <|
  let M246 := rhmn M243 (G240.1 + 1)
  let G245 := rhgn G240 15 (20 : Int32).toNatClampNeg (20 : Int32).toNatClampNeg
  rhck (G245.2.2.1 v0 = 13) <|
  let M248 := rhsr M246 v0 74 ((G240.1 + 1))
  rhck (0 ≤ (20 : Int32).toInt ∧ (20 : Int32).toInt ≤ 67108864) <|
  let M251 := rhmn M248 (G245.1 + 1)
  let G250 := rhgn G245 15 (20 : Int32).toNatClampNeg (20 : Int32).toNatClampNeg
  rhck (G250.2.2.1 v0 = 13) <|
  let M253 := rhsr M251 v0 75 ((G245.1 + 1))
  rhck (0 ≤ (20 : Int32).toInt ∧ (20 : Int32).toInt ≤ 67108864) <|
  let M256 := rhmn M253 (G250.1 + 1)
  let G255 := rhgn G250 15 (20 : Int32).toNatClampNeg (20 : Int32).toNatClampNeg
  rhck (G255.2.2.1 v0 = 13) <|
  let M258 := rhsr M256 v0 76 ((G250.1 + 1))
  rhck (0 ≤ (8 : Int32).toInt ∧ (8 : Int32).toInt ≤ 67108864) <|
  let M261 := rhmn M258 (G255.1 + 1)
  let G260 := rhgn G255 15 (8 : Int32).toNatClampNeg (8 : Int32).toNatClampNeg
  rhck (G260.2.2.1 v0 = 13) <|
  let M263 := rhsr M261 v0 77 ((G255.1 + 1))
  rhck (0 ≤ (32 : Int32).toInt ∧ (32 : Int32).toInt ≤ 67108864) <|
  let M266 := rhmn M263 (G260.1 + 1)
  let G265 := rhgn G260 15 (32 : Int32).toNatClampNeg (32 : Int32).toNatClampNeg
  rhck (G265.2.2.1 v0 = 13) <|
  let M268 := rhsr M266 v0 78 ((G260.1 + 1))
  rhck (0 ≤ (24 : Int32).toInt ∧ (24 : Int32).toInt ≤ 67108864) <|
  let M271 := rhmn M268 (G265.1 + 1)
  let G270 := rhgn G265 15 (24 : Int32).toNatClampNeg (24 : Int32).toNatClampNeg
  rhck (G270.2.2.1 v0 = 13) <|
  let M273 := rhsr M271 v0 79 ((G265.1 + 1))
  rhck (0 ≤ (4 : Int32).toInt ∧ (4 : Int32).toInt ≤ 67108864) <|
  let M276 := rhmn M273 (G270.1 + 1)
  let G275 := rhgn G270 15 (4 : Int32).toNatClampNeg (4 : Int32).toNatClampNeg
  rhck (G275.2.2.1 v0 = 13) <|
  let M278 := rhsr M276 v0 80 ((G270.1 + 1))
  rhck (0 ≤ (20 : Int32).toInt ∧ (20 : Int32).toInt ≤ 67108864) <|
  let M281 := rhmn M278 (G275.1 + 1)
  let G280 := rhgn G275 17 (20 : Int32).toNatClampNeg (20 : Int32).toNatClampNeg
  rhck (G280.2.2.1 v0 = 13) <|
  let M283 := rhsr M281 v0 81 ((G275.1 + 1))
  rhck (0 ≤ (3 : Int32).toInt ∧ (3 : Int32).toInt ≤ 67108864) <|
  let M286 := rhmn M283 (G280.1 + 1)
  let G285 := rhgn G280 15 (3 : Int32).toNatClampNeg (3 : Int32).toNatClampNeg
  rhck (G285.2.2.1 v0 = 13) <|
  let M288 := rhsr M286 v0 84 ((G280.1 + 1))
  rhck (0 ≤ (3 : Int32).toInt ∧ (3 : Int32).toInt ≤ 67108864) <|
  let M291 := rhmn M288 (G285.1 + 1)
  let G290 := rhgn G285 15 (3 : Int32).toNatClampNeg (3 : Int32).toNatClampNeg
  rhck (G290.2.2.1 v0 = 13) <|
  let M293 := rhsr M291 v0 85 ((G285.1 + 1))
  rhck (0 ≤ (24 : Int32).toInt ∧ (24 : Int32).toInt ≤ 67108864) <|
  let M296 := rhmn M293 (G290.1 + 1)
  let G295 := rhgn G290 15 (24 : Int32).toNatClampNeg (24 : Int32).toNatClampNeg
  rhck (G295.2.2.1 v0 = 13) <|
  let M298 := rhsr M296 v0 86 ((G290.1 + 1))
  rhck (0 ≤ (18 : Int32).toInt ∧ (18 : Int32).toInt ≤ 67108864) <|
  let M301 := rhmn M298 (G295.1 + 1)
  let G300 := rhgn G295 15 (18 : Int32).toNatClampNeg (18 : Int32).toNatClampNeg
  rhck (G300.2.2.1 v0 = 13) <|
  let M303 := rhsr M301 v0 87 ((G295.1 + 1))
  rhck (0 ≤ (900 : Int32).toInt ∧ (900 : Int32).toInt ≤ 67108864) <|
  let M306 := rhmn M303 (G300.1 + 1)
  let G305 := rhgn G300 15 (900 : Int32).toNatClampNeg (900 : Int32).toNatClampNeg
  rhck (G305.2.2.1 v0 = 13) <|
  let M308 := rhsr M306 v0 88 ((G300.1 + 1))
  rhck (0 ≤ (900 : Int32).toInt ∧ (900 : Int32).toInt ≤ 67108864) <|
  let M311 := rhmn M308 (G305.1 + 1)
  let G310 := rhgn G305 15 (900 : Int32).toNatClampNeg (900 : Int32).toNatClampNeg
  rhck (G310.2.2.1 v0 = 13) <|
  let M313 := rhsr M311 v0 89 ((G305.1 + 1))
  (f_X12_clearBank G310 M313 v0).bind fun r314 =>
  (f_X12_begin G310 r314 v0).bind fun r315 =>
  f_X12_init_517 rhFU G310 r315 v0 0
set_option maxHeartbeats 4000000 in
set_option maxRecDepth 100000 in
theorem b_X12_init_517 {E : rhE} {Γ0 : rhG} : ∀ (n : Nat) (Γ : rhG) (M : rhM) (v0 : Nat) (v1 : Int32), rhF E 7 2 yX12_init cX12_init none Γ0 rhe2U (f_X12_init_517 n Γ M v0 v1) 517 [(0, rhR v0), (1, rhI v1)] [] Γ M := by
  intro n
  induction n with
  | zero => intro Γ M v0 v1; rw [f_X12_init_517]; exact rhF.nope
  | succ n ih =>
    intro Γ M v0 v1
    rw [f_X12_init_517]
    refine rhF.iload_n (pc := 517) dX12_init_517 1 rfl ?_
    refine rhF.iconst (pc := 518) (v := 3) dX12_init_518 (by decide) ?_
    refine rhF.icmp_ge (pc := 519) 535 dX12_init_519 (by decide) (fun h316 => ?_) (fun h316 => ?_)
    · refine rhF.aload_n (pc := 522) dX12_init_522 0 rfl ?_
      refine rhF.ck (fun h317 => ?_)
      refine rhF.get (pc := 523) (rhR _) dX12_init_523 fl_X12_190 h317 rfl ?_
      refine rhF.iload_n (pc := 526) dX12_init_526 1 rfl ?_
      refine rhF.iconst (pc := 527) (v := (-1)) dX12_init_527 (by decide) ?_
      refine rhF.ck (fun h318 => ?_)
      refine rhF.ck (fun h319 => ?_)
      refine rhF.iast (pc := 528) dX12_init_528 h318 h319 ?_
      refine rhF.iinc (pc := 529) (L' := [(1, rhI _), (0, rhR _)]) dX12_init_529 1 rfl rfl (by decide) rfl ?_
      refine rhF.goto (pc := 532) 517 dX12_init_532 (by decide) ?_
      refine rhF.sub [1, 0] rfl ?_
      exact ih _ _ _ _
    · exact rhF.vret (pc := 535) dX12_init_535 rfl rfl
set_option maxHeartbeats 4000000 in
set_option maxRecDepth 100000 in
theorem b_X12_init {E : rhE} {Γ0 : rhG} : ∀ (Γ : rhG) (M : rhM) (v0 : Nat), rhF E 7 2 yX12_init cX12_init none Γ0 rhe2U (f_X12_init Γ M v0) 0 [(0, rhR v0)] [] Γ M := by
  intro Γ M v0
  rw [f_X12_init]
  refine rhF.aload_n (pc := 0) dX12_init_0 0 rfl ?_
  refine rhF.ck (fun h1 => ?_)
  refine rhF.objInit (pc := 1) dX12_init_1 oi_X12_1 (fun z => absurd (h1.symm.trans z) (by decide)) (by decide) (Nat.le_of_ble_eq_true rfl) ?_
  refine rhF.aload_n (pc := 4) dX12_init_4 0 rfl ?_
  refine rhF.sipush (pc := 5) (v := 1620) dX12_init_5 (by decide) ?_
  refine rhF.ck (fun h2 => ?_)
  refine rhF.newB (pc := 8) dX12_init_8 ac_byte h2 ?_
  refine rhF.ck (fun h5 => ?_)
  refine rhF.putr (pc := 10) dX12_init_10 fl_X12_7 h5 (fun q hq => by cases hq; exact Or.inr ⟨rfl, rfl, rfl⟩) (Or.inr ⟨_, rfl⟩) (fun _ => rfl) ?_
  refine rhF.aload_n (pc := 13) dX12_init_13 0 rfl ?_
  refine rhF.sipush (pc := 14) (v := 1600) dX12_init_14 (by decide) ?_
  refine rhF.ck (fun h7 => ?_)
  refine rhF.newB (pc := 17) dX12_init_17 ac_byte h7 ?_
  refine rhF.ck (fun h10 => ?_)
  refine rhF.putr (pc := 19) dX12_init_19 fl_X12_13 h10 (fun q hq => by cases hq; exact Or.inr ⟨rfl, rfl, rfl⟩) (Or.inr ⟨_, rfl⟩) (fun _ => rfl) ?_
  refine rhF.aload_n (pc := 22) dX12_init_22 0 rfl ?_
  refine rhF.iconst (pc := 23) (v := (-1)) dX12_init_23 (by decide) ?_
  refine rhF.puti (pc := 24) dX12_init_24 fl_X12_16 h10 (fun q hq => by cases hq; exact Or.inl rfl) ⟨rfl, rfl⟩ (fun _ => rfl) ?_
  refine rhF.aload_n (pc := 27) dX12_init_27 0 rfl ?_
  refine rhF.iconst (pc := 28) (v := 2) dX12_init_28 (by decide) ?_
  refine rhF.ck (fun h13 => ?_)
  refine rhF.newI (pc := 29) dX12_init_29 ac_int h13 ?_
  refine rhF.ck (fun h16 => ?_)
  refine rhF.putr (pc := 31) dX12_init_31 fl_X12_20 h16 (fun q hq => by cases hq; exact Or.inr ⟨rfl, rfl, rfl⟩) (Or.inr ⟨_, rfl⟩) (fun _ => rfl) ?_
  refine rhF.aload_n (pc := 34) dX12_init_34 0 rfl ?_
  refine rhF.iconst (pc := 35) (v := 2) dX12_init_35 (by decide) ?_
  refine rhF.ck (fun h18 => ?_)
  refine rhF.newI (pc := 36) dX12_init_36 ac_int h18 ?_
  refine rhF.ck (fun h21 => ?_)
  refine rhF.putr (pc := 38) dX12_init_38 fl_X12_24 h21 (fun q hq => by cases hq; exact Or.inr ⟨rfl, rfl, rfl⟩) (Or.inr ⟨_, rfl⟩) (fun _ => rfl) ?_
  refine rhF.aload_n (pc := 41) dX12_init_41 0 rfl ?_
  refine rhF.iconst (pc := 42) (v := 2) dX12_init_42 (by decide) ?_
  refine rhF.ck (fun h23 => ?_)
  refine rhF.newI (pc := 43) dX12_init_43 ac_int h23 ?_
  refine rhF.ck (fun h26 => ?_)
  refine rhF.putr (pc := 45) dX12_init_45 fl_X12_27 h26 (fun q hq => by cases hq; exact Or.inr ⟨rfl, rfl, rfl⟩) (Or.inr ⟨_, rfl⟩) (fun _ => rfl) ?_
  refine rhF.aload_n (pc := 48) dX12_init_48 0 rfl ?_
  refine rhF.iconst (pc := 49) (v := 2) dX12_init_49 (by decide) ?_
  refine rhF.ck (fun h28 => ?_)
  refine rhF.newI (pc := 50) dX12_init_50 ac_int h28 ?_
  refine rhF.ck (fun h31 => ?_)
  refine rhF.putr (pc := 52) dX12_init_52 fl_X12_30 h31 (fun q hq => by cases hq; exact Or.inr ⟨rfl, rfl, rfl⟩) (Or.inr ⟨_, rfl⟩) (fun _ => rfl) ?_
  refine rhF.aload_n (pc := 55) dX12_init_55 0 rfl ?_
  refine rhF.iconst (pc := 56) (v := 2) dX12_init_56 (by decide) ?_
  refine rhF.ck (fun h33 => ?_)
  refine rhF.newI (pc := 57) dX12_init_57 ac_int h33 ?_
  refine rhF.ck (fun h36 => ?_)
  refine rhF.putr (pc := 59) dX12_init_59 fl_X12_33 h36 (fun q hq => by cases hq; exact Or.inr ⟨rfl, rfl, rfl⟩) (Or.inr ⟨_, rfl⟩) (fun _ => rfl) ?_
  refine rhF.aload_n (pc := 62) dX12_init_62 0 rfl ?_
  refine rhF.iconst (pc := 63) (v := 2) dX12_init_63 (by decide) ?_
  refine rhF.ck (fun h38 => ?_)
  refine rhF.newI (pc := 64) dX12_init_64 ac_int h38 ?_
  refine rhF.ck (fun h41 => ?_)
  refine rhF.putr (pc := 66) dX12_init_66 fl_X12_36 h41 (fun q hq => by cases hq; exact Or.inr ⟨rfl, rfl, rfl⟩) (Or.inr ⟨_, rfl⟩) (fun _ => rfl) ?_
  refine rhF.aload_n (pc := 69) dX12_init_69 0 rfl ?_
  refine rhF.iconst (pc := 70) (v := 2) dX12_init_70 (by decide) ?_
  refine rhF.ck (fun h43 => ?_)
  refine rhF.newI (pc := 71) dX12_init_71 ac_int h43 ?_
  refine rhF.ck (fun h46 => ?_)
  refine rhF.putr (pc := 73) dX12_init_73 fl_X12_39 h46 (fun q hq => by cases hq; exact Or.inr ⟨rfl, rfl, rfl⟩) (Or.inr ⟨_, rfl⟩) (fun _ => rfl) ?_
  refine rhF.aload_n (pc := 76) dX12_init_76 0 rfl ?_
  refine rhF.bipush (pc := 77) (v := 10) dX12_init_77 (by decide) ?_
  refine rhF.ck (fun h48 => ?_)
  refine rhF.newI (pc := 79) dX12_init_79 ac_int h48 ?_
  refine rhF.ck (fun h51 => ?_)
  refine rhF.putr (pc := 81) dX12_init_81 fl_X12_42 h51 (fun q hq => by cases hq; exact Or.inr ⟨rfl, rfl, rfl⟩) (Or.inr ⟨_, rfl⟩) (fun _ => rfl) ?_
  refine rhF.aload_n (pc := 84) dX12_init_84 0 rfl ?_
  refine rhF.bipush (pc := 85) (v := 16) dX12_init_85 (by decide) ?_
  refine rhF.ck (fun h53 => ?_)
  refine rhF.newI (pc := 87) dX12_init_87 ac_int h53 ?_
  refine rhF.ck (fun h56 => ?_)
  refine rhF.putr (pc := 89) dX12_init_89 fl_X12_45 h56 (fun q hq => by cases hq; exact Or.inr ⟨rfl, rfl, rfl⟩) (Or.inr ⟨_, rfl⟩) (fun _ => rfl) ?_
  refine rhF.aload_n (pc := 92) dX12_init_92 0 rfl ?_
  refine rhF.bipush (pc := 93) (v := 16) dX12_init_93 (by decide) ?_
  refine rhF.ck (fun h58 => ?_)
  refine rhF.newI (pc := 95) dX12_init_95 ac_int h58 ?_
  refine rhF.ck (fun h61 => ?_)
  refine rhF.putr (pc := 97) dX12_init_97 fl_X12_48 h61 (fun q hq => by cases hq; exact Or.inr ⟨rfl, rfl, rfl⟩) (Or.inr ⟨_, rfl⟩) (fun _ => rfl) ?_
  refine rhF.aload_n (pc := 100) dX12_init_100 0 rfl ?_
  refine rhF.bipush (pc := 101) (v := 16) dX12_init_101 (by decide) ?_
  refine rhF.ck (fun h63 => ?_)
  refine rhF.newI (pc := 103) dX12_init_103 ac_int h63 ?_
  refine rhF.ck (fun h66 => ?_)
  refine rhF.putr (pc := 105) dX12_init_105 fl_X12_51 h66 (fun q hq => by cases hq; exact Or.inr ⟨rfl, rfl, rfl⟩) (Or.inr ⟨_, rfl⟩) (fun _ => rfl) ?_
  refine rhF.aload_n (pc := 108) dX12_init_108 0 rfl ?_
  refine rhF.sipush (pc := 109) (v := 128) dX12_init_109 (by decide) ?_
  refine rhF.ck (fun h68 => ?_)
  refine rhF.newI (pc := 112) dX12_init_112 ac_int h68 ?_
  refine rhF.ck (fun h71 => ?_)
  refine rhF.putr (pc := 114) dX12_init_114 fl_X12_54 h71 (fun q hq => by cases hq; exact Or.inr ⟨rfl, rfl, rfl⟩) (Or.inr ⟨_, rfl⟩) (fun _ => rfl) ?_
  refine rhF.aload_n (pc := 117) dX12_init_117 0 rfl ?_
  refine rhF.iconst (pc := 118) (v := 2) dX12_init_118 (by decide) ?_
  refine rhF.ck (fun h73 => ?_)
  refine rhF.newZ (pc := 119) dX12_init_119 ac_boolean h73 ?_
  refine rhF.ck (fun h76 => ?_)
  refine rhF.putr (pc := 121) dX12_init_121 fl_X12_57 h76 (fun q hq => by cases hq; exact Or.inr ⟨rfl, rfl, rfl⟩) (Or.inr ⟨_, rfl⟩) (fun _ => rfl) ?_
  refine rhF.aload_n (pc := 124) dX12_init_124 0 rfl ?_
  refine rhF.iconst (pc := 125) (v := 2) dX12_init_125 (by decide) ?_
  refine rhF.ck (fun h78 => ?_)
  refine rhF.newZ (pc := 126) dX12_init_126 ac_boolean h78 ?_
  refine rhF.ck (fun h81 => ?_)
  refine rhF.putr (pc := 128) dX12_init_128 fl_X12_61 h81 (fun q hq => by cases hq; exact Or.inr ⟨rfl, rfl, rfl⟩) (Or.inr ⟨_, rfl⟩) (fun _ => rfl) ?_
  refine rhF.aload_n (pc := 131) dX12_init_131 0 rfl ?_
  refine rhF.iconst (pc := 132) (v := 2) dX12_init_132 (by decide) ?_
  refine rhF.ck (fun h83 => ?_)
  refine rhF.newZ (pc := 133) dX12_init_133 ac_boolean h83 ?_
  refine rhF.ck (fun h86 => ?_)
  refine rhF.putr (pc := 135) dX12_init_135 fl_X12_64 h86 (fun q hq => by cases hq; exact Or.inr ⟨rfl, rfl, rfl⟩) (Or.inr ⟨_, rfl⟩) (fun _ => rfl) ?_
  refine rhF.aload_n (pc := 138) dX12_init_138 0 rfl ?_
  refine rhF.sipush (pc := 139) (v := 128) dX12_init_139 (by decide) ?_
  refine rhF.ck (fun h88 => ?_)
  refine rhF.newZ (pc := 142) dX12_init_142 ac_boolean h88 ?_
  refine rhF.ck (fun h91 => ?_)
  refine rhF.putr (pc := 144) dX12_init_144 fl_X12_67 h91 (fun q hq => by cases hq; exact Or.inr ⟨rfl, rfl, rfl⟩) (Or.inr ⟨_, rfl⟩) (fun _ => rfl) ?_
  refine rhF.aload_n (pc := 147) dX12_init_147 0 rfl ?_
  refine rhF.bipush (pc := 148) (v := 10) dX12_init_148 (by decide) ?_
  refine rhF.ck (fun h93 => ?_)
  refine rhF.newJ (pc := 150) dX12_init_150 ac_long h93 ?_
  refine rhF.ck (fun h96 => ?_)
  refine rhF.putr (pc := 152) dX12_init_152 fl_X12_70 h96 (fun q hq => by cases hq; exact Or.inr ⟨rfl, rfl, rfl⟩) (Or.inr ⟨_, rfl⟩) (fun _ => rfl) ?_
  refine rhF.aload_n (pc := 155) dX12_init_155 0 rfl ?_
  refine rhF.bipush (pc := 156) (v := 16) dX12_init_156 (by decide) ?_
  refine rhF.ck (fun h98 => ?_)
  refine rhF.newJ (pc := 158) dX12_init_158 ac_long h98 ?_
  refine rhF.ck (fun h101 => ?_)
  refine rhF.putr (pc := 160) dX12_init_160 fl_X12_74 h101 (fun q hq => by cases hq; exact Or.inr ⟨rfl, rfl, rfl⟩) (Or.inr ⟨_, rfl⟩) (fun _ => rfl) ?_
  refine rhF.aload_n (pc := 163) dX12_init_163 0 rfl ?_
  refine rhF.sipush (pc := 164) (v := 1000) dX12_init_164 (by decide) ?_
  refine rhF.ck (fun h103 => ?_)
  refine rhF.newI (pc := 167) dX12_init_167 ac_int h103 ?_
  refine rhF.ck (fun h106 => ?_)
  refine rhF.putr (pc := 169) dX12_init_169 fl_X12_77 h106 (fun q hq => by cases hq; exact Or.inr ⟨rfl, rfl, rfl⟩) (Or.inr ⟨_, rfl⟩) (fun _ => rfl) ?_
  refine rhF.aload_n (pc := 172) dX12_init_172 0 rfl ?_
  refine rhF.sipush (pc := 173) (v := 1000) dX12_init_173 (by decide) ?_
  refine rhF.ck (fun h108 => ?_)
  refine rhF.newI (pc := 176) dX12_init_176 ac_int h108 ?_
  refine rhF.ck (fun h111 => ?_)
  refine rhF.putr (pc := 178) dX12_init_178 fl_X12_80 h111 (fun q hq => by cases hq; exact Or.inr ⟨rfl, rfl, rfl⟩) (Or.inr ⟨_, rfl⟩) (fun _ => rfl) ?_
  refine rhF.aload_n (pc := 181) dX12_init_181 0 rfl ?_
  refine rhF.bipush (pc := 182) (v := 90) dX12_init_182 (by decide) ?_
  refine rhF.ck (fun h113 => ?_)
  refine rhF.newI (pc := 184) dX12_init_184 ac_int h113 ?_
  refine rhF.ck (fun h116 => ?_)
  refine rhF.putr (pc := 186) dX12_init_186 fl_X12_83 h116 (fun q hq => by cases hq; exact Or.inr ⟨rfl, rfl, rfl⟩) (Or.inr ⟨_, rfl⟩) (fun _ => rfl) ?_
  refine rhF.aload_n (pc := 189) dX12_init_189 0 rfl ?_
  refine rhF.bipush (pc := 190) (v := 90) dX12_init_190 (by decide) ?_
  refine rhF.ck (fun h118 => ?_)
  refine rhF.newI (pc := 192) dX12_init_192 ac_int h118 ?_
  refine rhF.ck (fun h121 => ?_)
  refine rhF.putr (pc := 194) dX12_init_194 fl_X12_86 h121 (fun q hq => by cases hq; exact Or.inr ⟨rfl, rfl, rfl⟩) (Or.inr ⟨_, rfl⟩) (fun _ => rfl) ?_
  refine rhF.aload_n (pc := 197) dX12_init_197 0 rfl ?_
  refine rhF.bipush (pc := 198) (v := 70) dX12_init_198 (by decide) ?_
  refine rhF.ck (fun h123 => ?_)
  refine rhF.newI (pc := 200) dX12_init_200 ac_int h123 ?_
  refine rhF.ck (fun h126 => ?_)
  refine rhF.putr (pc := 202) dX12_init_202 fl_X12_89 h126 (fun q hq => by cases hq; exact Or.inr ⟨rfl, rfl, rfl⟩) (Or.inr ⟨_, rfl⟩) (fun _ => rfl) ?_
  refine rhF.aload_n (pc := 205) dX12_init_205 0 rfl ?_
  refine rhF.bipush (pc := 206) (v := 8) dX12_init_206 (by decide) ?_
  refine rhF.ck (fun h128 => ?_)
  refine rhF.newI (pc := 208) dX12_init_208 ac_int h128 ?_
  refine rhF.ck (fun h131 => ?_)
  refine rhF.putr (pc := 210) dX12_init_210 fl_X12_92 h131 (fun q hq => by cases hq; exact Or.inr ⟨rfl, rfl, rfl⟩) (Or.inr ⟨_, rfl⟩) (fun _ => rfl) ?_
  refine rhF.aload_n (pc := 213) dX12_init_213 0 rfl ?_
  refine rhF.bipush (pc := 214) (v := 6) dX12_init_214 (by decide) ?_
  refine rhF.ck (fun h133 => ?_)
  refine rhF.newI (pc := 216) dX12_init_216 ac_int h133 ?_
  refine rhF.ck (fun h136 => ?_)
  refine rhF.putr (pc := 218) dX12_init_218 fl_X12_95 h136 (fun q hq => by cases hq; exact Or.inr ⟨rfl, rfl, rfl⟩) (Or.inr ⟨_, rfl⟩) (fun _ => rfl) ?_
  refine rhF.aload_n (pc := 221) dX12_init_221 0 rfl ?_
  refine rhF.bipush (pc := 222) (v := 8) dX12_init_222 (by decide) ?_
  refine rhF.ck (fun h138 => ?_)
  refine rhF.newI (pc := 224) dX12_init_224 ac_int h138 ?_
  refine rhF.ck (fun h141 => ?_)
  refine rhF.putr (pc := 226) dX12_init_226 fl_X12_98 h141 (fun q hq => by cases hq; exact Or.inr ⟨rfl, rfl, rfl⟩) (Or.inr ⟨_, rfl⟩) (fun _ => rfl) ?_
  refine rhF.aload_n (pc := 229) dX12_init_229 0 rfl ?_
  refine rhF.bipush (pc := 230) (v := 8) dX12_init_230 (by decide) ?_
  refine rhF.ck (fun h143 => ?_)
  refine rhF.newI (pc := 232) dX12_init_232 ac_int h143 ?_
  refine rhF.ck (fun h146 => ?_)
  refine rhF.putr (pc := 234) dX12_init_234 fl_X12_101 h146 (fun q hq => by cases hq; exact Or.inr ⟨rfl, rfl, rfl⟩) (Or.inr ⟨_, rfl⟩) (fun _ => rfl) ?_
  refine rhF.aload_n (pc := 237) dX12_init_237 0 rfl ?_
  refine rhF.bipush (pc := 238) (v := 6) dX12_init_238 (by decide) ?_
  refine rhF.ck (fun h148 => ?_)
  refine rhF.newI (pc := 240) dX12_init_240 ac_int h148 ?_
  refine rhF.ck (fun h151 => ?_)
  refine rhF.putr (pc := 242) dX12_init_242 fl_X12_104 h151 (fun q hq => by cases hq; exact Or.inr ⟨rfl, rfl, rfl⟩) (Or.inr ⟨_, rfl⟩) (fun _ => rfl) ?_
  refine rhF.aload_n (pc := 245) dX12_init_245 0 rfl ?_
  refine rhF.iconst (pc := 246) (v := (-1)) dX12_init_246 (by decide) ?_
  refine rhF.puti (pc := 247) dX12_init_247 fl_X12_107 h151 (fun q hq => by cases hq; exact Or.inl rfl) ⟨rfl, rfl⟩ (fun _ => rfl) ?_
  refine rhF.aload_n (pc := 250) dX12_init_250 0 rfl ?_
  refine rhF.sipush (pc := 251) (v := 300) dX12_init_251 (by decide) ?_
  refine rhF.ck (fun h154 => ?_)
  refine rhF.newI (pc := 254) dX12_init_254 ac_int h154 ?_
  refine rhF.ck (fun h157 => ?_)
  refine rhF.putr (pc := 256) dX12_init_256 fl_X12_110 h157 (fun q hq => by cases hq; exact Or.inr ⟨rfl, rfl, rfl⟩) (Or.inr ⟨_, rfl⟩) (fun _ => rfl) ?_
  refine rhF.aload_n (pc := 259) dX12_init_259 0 rfl ?_
  refine rhF.sipush (pc := 260) (v := 300) dX12_init_260 (by decide) ?_
  refine rhF.ck (fun h159 => ?_)
  refine rhF.newI (pc := 263) dX12_init_263 ac_int h159 ?_
  refine rhF.ck (fun h162 => ?_)
  refine rhF.putr (pc := 265) dX12_init_265 fl_X12_113 h162 (fun q hq => by cases hq; exact Or.inr ⟨rfl, rfl, rfl⟩) (Or.inr ⟨_, rfl⟩) (fun _ => rfl) ?_
  refine rhF.aload_n (pc := 268) dX12_init_268 0 rfl ?_
  refine rhF.bipush (pc := 269) (v := 12) dX12_init_269 (by decide) ?_
  refine rhF.ck (fun h164 => ?_)
  refine rhF.newI (pc := 271) dX12_init_271 ac_int h164 ?_
  refine rhF.ck (fun h167 => ?_)
  refine rhF.putr (pc := 273) dX12_init_273 fl_X12_116 h167 (fun q hq => by cases hq; exact Or.inr ⟨rfl, rfl, rfl⟩) (Or.inr ⟨_, rfl⟩) (fun _ => rfl) ?_
  refine rhF.aload_n (pc := 276) dX12_init_276 0 rfl ?_
  refine rhF.bipush (pc := 277) (v := 8) dX12_init_277 (by decide) ?_
  refine rhF.ck (fun h169 => ?_)
  refine rhF.newI (pc := 279) dX12_init_279 ac_int h169 ?_
  refine rhF.ck (fun h172 => ?_)
  refine rhF.putr (pc := 281) dX12_init_281 fl_X12_119 h172 (fun q hq => by cases hq; exact Or.inr ⟨rfl, rfl, rfl⟩) (Or.inr ⟨_, rfl⟩) (fun _ => rfl) ?_
  refine rhF.aload_n (pc := 284) dX12_init_284 0 rfl ?_
  refine rhF.ldc (pc := 285) dX12_init_285 k_X12_122 ?_
  refine rhF.ck (fun h174 => ?_)
  refine rhF.newI (pc := 287) dX12_init_287 ac_int h174 ?_
  refine rhF.ck (fun h177 => ?_)
  refine rhF.putr (pc := 289) dX12_init_289 fl_X12_123 h177 (fun q hq => by cases hq; exact Or.inr ⟨rfl, rfl, rfl⟩) (Or.inr ⟨_, rfl⟩) (fun _ => rfl) ?_
  refine rhF.aload_n (pc := 292) dX12_init_292 0 rfl ?_
  refine rhF.ldc (pc := 293) dX12_init_293 k_X12_122 ?_
  refine rhF.ck (fun h179 => ?_)
  refine rhF.newI (pc := 295) dX12_init_295 ac_int h179 ?_
  refine rhF.ck (fun h182 => ?_)
  refine rhF.putr (pc := 297) dX12_init_297 fl_X12_126 h182 (fun q hq => by cases hq; exact Or.inr ⟨rfl, rfl, rfl⟩) (Or.inr ⟨_, rfl⟩) (fun _ => rfl) ?_
  refine rhF.aload_n (pc := 300) dX12_init_300 0 rfl ?_
  refine rhF.ldc (pc := 301) dX12_init_301 k_X12_122 ?_
  refine rhF.ck (fun h184 => ?_)
  refine rhF.newI (pc := 303) dX12_init_303 ac_int h184 ?_
  refine rhF.ck (fun h187 => ?_)
  refine rhF.putr (pc := 305) dX12_init_305 fl_X12_129 h187 (fun q hq => by cases hq; exact Or.inr ⟨rfl, rfl, rfl⟩) (Or.inr ⟨_, rfl⟩) (fun _ => rfl) ?_
  refine rhF.aload_n (pc := 308) dX12_init_308 0 rfl ?_
  refine rhF.ldc (pc := 309) dX12_init_309 k_X12_122 ?_
  refine rhF.ck (fun h189 => ?_)
  refine rhF.newI (pc := 311) dX12_init_311 ac_int h189 ?_
  refine rhF.ck (fun h192 => ?_)
  refine rhF.putr (pc := 313) dX12_init_313 fl_X12_132 h192 (fun q hq => by cases hq; exact Or.inr ⟨rfl, rfl, rfl⟩) (Or.inr ⟨_, rfl⟩) (fun _ => rfl) ?_
  refine rhF.aload_n (pc := 316) dX12_init_316 0 rfl ?_
  refine rhF.ldc (pc := 317) dX12_init_317 k_X12_135 ?_
  refine rhF.ck (fun h194 => ?_)
  refine rhF.newI (pc := 319) dX12_init_319 ac_int h194 ?_
  refine rhF.ck (fun h197 => ?_)
  refine rhF.putr (pc := 321) dX12_init_321 fl_X12_136 h197 (fun q hq => by cases hq; exact Or.inr ⟨rfl, rfl, rfl⟩) (Or.inr ⟨_, rfl⟩) (fun _ => rfl) ?_
  refine rhF.aload_n (pc := 324) dX12_init_324 0 rfl ?_
  refine rhF.ldc (pc := 325) dX12_init_325 k_X12_122 ?_
  refine rhF.ck (fun h199 => ?_)
  refine rhF.newZ (pc := 327) dX12_init_327 ac_boolean h199 ?_
  refine rhF.ck (fun h202 => ?_)
  refine rhF.putr (pc := 329) dX12_init_329 fl_X12_139 h202 (fun q hq => by cases hq; exact Or.inr ⟨rfl, rfl, rfl⟩) (Or.inr ⟨_, rfl⟩) (fun _ => rfl) ?_
  refine rhF.aload_n (pc := 332) dX12_init_332 0 rfl ?_
  refine rhF.bipush (pc := 333) (v := 8) dX12_init_333 (by decide) ?_
  refine rhF.ck (fun h204 => ?_)
  refine rhF.newI (pc := 335) dX12_init_335 ac_int h204 ?_
  refine rhF.ck (fun h207 => ?_)
  refine rhF.putr (pc := 337) dX12_init_337 fl_X12_142 h207 (fun q hq => by cases hq; exact Or.inr ⟨rfl, rfl, rfl⟩) (Or.inr ⟨_, rfl⟩) (fun _ => rfl) ?_
  refine rhF.aload_n (pc := 340) dX12_init_340 0 rfl ?_
  refine rhF.bipush (pc := 341) (v := 6) dX12_init_341 (by decide) ?_
  refine rhF.ck (fun h209 => ?_)
  refine rhF.newI (pc := 343) dX12_init_343 ac_int h209 ?_
  refine rhF.ck (fun h212 => ?_)
  refine rhF.putr (pc := 345) dX12_init_345 fl_X12_145 h212 (fun q hq => by cases hq; exact Or.inr ⟨rfl, rfl, rfl⟩) (Or.inr ⟨_, rfl⟩) (fun _ => rfl) ?_
  refine rhF.aload_n (pc := 348) dX12_init_348 0 rfl ?_
  refine rhF.ldc (pc := 349) dX12_init_349 k_X12_135 ?_
  refine rhF.ck (fun h214 => ?_)
  refine rhF.newI (pc := 351) dX12_init_351 ac_int h214 ?_
  refine rhF.ck (fun h217 => ?_)
  refine rhF.putr (pc := 353) dX12_init_353 fl_X12_148 h217 (fun q hq => by cases hq; exact Or.inr ⟨rfl, rfl, rfl⟩) (Or.inr ⟨_, rfl⟩) (fun _ => rfl) ?_
  refine rhF.aload_n (pc := 356) dX12_init_356 0 rfl ?_
  refine rhF.ldc (pc := 357) dX12_init_357 k_X12_135 ?_
  refine rhF.ck (fun h219 => ?_)
  refine rhF.newI (pc := 359) dX12_init_359 ac_int h219 ?_
  refine rhF.ck (fun h222 => ?_)
  refine rhF.putr (pc := 361) dX12_init_361 fl_X12_151 h222 (fun q hq => by cases hq; exact Or.inr ⟨rfl, rfl, rfl⟩) (Or.inr ⟨_, rfl⟩) (fun _ => rfl) ?_
  refine rhF.aload_n (pc := 364) dX12_init_364 0 rfl ?_
  refine rhF.ldc (pc := 365) dX12_init_365 k_X12_122 ?_
  refine rhF.ck (fun h224 => ?_)
  refine rhF.newI (pc := 367) dX12_init_367 ac_int h224 ?_
  refine rhF.ck (fun h227 => ?_)
  refine rhF.putr (pc := 369) dX12_init_369 fl_X12_154 h227 (fun q hq => by cases hq; exact Or.inr ⟨rfl, rfl, rfl⟩) (Or.inr ⟨_, rfl⟩) (fun _ => rfl) ?_
  refine rhF.aload_n (pc := 372) dX12_init_372 0 rfl ?_
  refine rhF.ldc (pc := 373) dX12_init_373 k_X12_135 ?_
  refine rhF.ck (fun h229 => ?_)
  refine rhF.newI (pc := 375) dX12_init_375 ac_int h229 ?_
  refine rhF.ck (fun h232 => ?_)
  refine rhF.putr (pc := 377) dX12_init_377 fl_X12_157 h232 (fun q hq => by cases hq; exact Or.inr ⟨rfl, rfl, rfl⟩) (Or.inr ⟨_, rfl⟩) (fun _ => rfl) ?_
  refine rhF.aload_n (pc := 380) dX12_init_380 0 rfl ?_
  refine rhF.bipush (pc := 381) (v := 20) dX12_init_381 (by decide) ?_
  refine rhF.ck (fun h234 => ?_)
  refine rhF.newI (pc := 383) dX12_init_383 ac_int h234 ?_
  refine rhF.ck (fun h237 => ?_)
  refine rhF.putr (pc := 385) dX12_init_385 fl_X12_160 h237 (fun q hq => by cases hq; exact Or.inr ⟨rfl, rfl, rfl⟩) (Or.inr ⟨_, rfl⟩) (fun _ => rfl) ?_
  refine rhF.aload_n (pc := 388) dX12_init_388 0 rfl ?_
  refine rhF.bipush (pc := 389) (v := 20) dX12_init_389 (by decide) ?_
  refine rhF.ck (fun h239 => ?_)
  refine rhF.newI (pc := 391) dX12_init_391 ac_int h239 ?_
  refine rhF.ck (fun h242 => ?_)
  refine rhF.putr (pc := 393) dX12_init_393 fl_X12_163 h242 (fun q hq => by cases hq; exact Or.inr ⟨rfl, rfl, rfl⟩) (Or.inr ⟨_, rfl⟩) (fun _ => rfl) ?_
  refine rhF.aload_n (pc := 396) dX12_init_396 0 rfl ?_
  refine rhF.bipush (pc := 397) (v := 20) dX12_init_397 (by decide) ?_
  refine rhF.ck (fun h244 => ?_)
  refine rhF.newI (pc := 399) dX12_init_399 ac_int h244 ?_
  refine rhF.ck (fun h247 => ?_)
  refine rhF.putr (pc := 401) dX12_init_401 fl_X12_166 h247 (fun q hq => by cases hq; exact Or.inr ⟨rfl, rfl, rfl⟩) (Or.inr ⟨_, rfl⟩) (fun _ => rfl) ?_
  refine rhF.aload_n (pc := 404) dX12_init_404 0 rfl ?_
  refine rhF.bipush (pc := 405) (v := 20) dX12_init_405 (by decide) ?_
  refine rhF.ck (fun h249 => ?_)
  refine rhF.newI (pc := 407) dX12_init_407 ac_int h249 ?_
  refine rhF.ck (fun h252 => ?_)
  refine rhF.putr (pc := 409) dX12_init_409 fl_X12_169 h252 (fun q hq => by cases hq; exact Or.inr ⟨rfl, rfl, rfl⟩) (Or.inr ⟨_, rfl⟩) (fun _ => rfl) ?_
  refine rhF.aload_n (pc := 412) dX12_init_412 0 rfl ?_
  refine rhF.bipush (pc := 413) (v := 20) dX12_init_413 (by decide) ?_
  refine rhF.ck (fun h254 => ?_)
  refine rhF.newI (pc := 415) dX12_init_415 ac_int h254 ?_
  refine rhF.ck (fun h257 => ?_)
  refine rhF.putr (pc := 417) dX12_init_417 fl_X12_172 h257 (fun q hq => by cases hq; exact Or.inr ⟨rfl, rfl, rfl⟩) (Or.inr ⟨_, rfl⟩) (fun _ => rfl) ?_
  refine rhF.aload_n (pc := 420) dX12_init_420 0 rfl ?_
  refine rhF.bipush (pc := 421) (v := 8) dX12_init_421 (by decide) ?_
  refine rhF.ck (fun h259 => ?_)
  refine rhF.newI (pc := 423) dX12_init_423 ac_int h259 ?_
  refine rhF.ck (fun h262 => ?_)
  refine rhF.putr (pc := 425) dX12_init_425 fl_X12_175 h262 (fun q hq => by cases hq; exact Or.inr ⟨rfl, rfl, rfl⟩) (Or.inr ⟨_, rfl⟩) (fun _ => rfl) ?_
  refine rhF.aload_n (pc := 428) dX12_init_428 0 rfl ?_
  refine rhF.bipush (pc := 429) (v := 32) dX12_init_429 (by decide) ?_
  refine rhF.ck (fun h264 => ?_)
  refine rhF.newI (pc := 431) dX12_init_431 ac_int h264 ?_
  refine rhF.ck (fun h267 => ?_)
  refine rhF.putr (pc := 433) dX12_init_433 fl_X12_178 h267 (fun q hq => by cases hq; exact Or.inr ⟨rfl, rfl, rfl⟩) (Or.inr ⟨_, rfl⟩) (fun _ => rfl) ?_
  refine rhF.aload_n (pc := 436) dX12_init_436 0 rfl ?_
  refine rhF.bipush (pc := 437) (v := 24) dX12_init_437 (by decide) ?_
  refine rhF.ck (fun h269 => ?_)
  refine rhF.newI (pc := 439) dX12_init_439 ac_int h269 ?_
  refine rhF.ck (fun h272 => ?_)
  refine rhF.putr (pc := 441) dX12_init_441 fl_X12_181 h272 (fun q hq => by cases hq; exact Or.inr ⟨rfl, rfl, rfl⟩) (Or.inr ⟨_, rfl⟩) (fun _ => rfl) ?_
  refine rhF.aload_n (pc := 444) dX12_init_444 0 rfl ?_
  refine rhF.iconst (pc := 445) (v := 4) dX12_init_445 (by decide) ?_
  refine rhF.ck (fun h274 => ?_)
  refine rhF.newI (pc := 446) dX12_init_446 ac_int h274 ?_
  refine rhF.ck (fun h277 => ?_)
  refine rhF.putr (pc := 448) dX12_init_448 fl_X12_184 h277 (fun q hq => by cases hq; exact Or.inr ⟨rfl, rfl, rfl⟩) (Or.inr ⟨_, rfl⟩) (fun _ => rfl) ?_
  refine rhF.aload_n (pc := 451) dX12_init_451 0 rfl ?_
  refine rhF.bipush (pc := 452) (v := 20) dX12_init_452 (by decide) ?_
  refine rhF.ck (fun h279 => ?_)
  refine rhF.newZ (pc := 454) dX12_init_454 ac_boolean h279 ?_
  refine rhF.ck (fun h282 => ?_)
  refine rhF.putr (pc := 456) dX12_init_456 fl_X12_187 h282 (fun q hq => by cases hq; exact Or.inr ⟨rfl, rfl, rfl⟩) (Or.inr ⟨_, rfl⟩) (fun _ => rfl) ?_
  refine rhF.aload_n (pc := 459) dX12_init_459 0 rfl ?_
  refine rhF.iconst (pc := 460) (v := 3) dX12_init_460 (by decide) ?_
  refine rhF.ck (fun h284 => ?_)
  refine rhF.newI (pc := 461) dX12_init_461 ac_int h284 ?_
  refine rhF.ck (fun h287 => ?_)
  refine rhF.putr (pc := 463) dX12_init_463 fl_X12_190 h287 (fun q hq => by cases hq; exact Or.inr ⟨rfl, rfl, rfl⟩) (Or.inr ⟨_, rfl⟩) (fun _ => rfl) ?_
  refine rhF.aload_n (pc := 466) dX12_init_466 0 rfl ?_
  refine rhF.iconst (pc := 467) (v := 3) dX12_init_467 (by decide) ?_
  refine rhF.ck (fun h289 => ?_)
  refine rhF.newI (pc := 468) dX12_init_468 ac_int h289 ?_
  refine rhF.ck (fun h292 => ?_)
  refine rhF.putr (pc := 470) dX12_init_470 fl_X12_193 h292 (fun q hq => by cases hq; exact Or.inr ⟨rfl, rfl, rfl⟩) (Or.inr ⟨_, rfl⟩) (fun _ => rfl) ?_
  refine rhF.aload_n (pc := 473) dX12_init_473 0 rfl ?_
  refine rhF.bipush (pc := 474) (v := 24) dX12_init_474 (by decide) ?_
  refine rhF.ck (fun h294 => ?_)
  refine rhF.newI (pc := 476) dX12_init_476 ac_int h294 ?_
  refine rhF.ck (fun h297 => ?_)
  refine rhF.putr (pc := 478) dX12_init_478 fl_X12_196 h297 (fun q hq => by cases hq; exact Or.inr ⟨rfl, rfl, rfl⟩) (Or.inr ⟨_, rfl⟩) (fun _ => rfl) ?_
  refine rhF.aload_n (pc := 481) dX12_init_481 0 rfl ?_
  refine rhF.bipush (pc := 482) (v := 18) dX12_init_482 (by decide) ?_
  refine rhF.ck (fun h299 => ?_)
  refine rhF.newI (pc := 484) dX12_init_484 ac_int h299 ?_
  refine rhF.ck (fun h302 => ?_)
  refine rhF.putr (pc := 486) dX12_init_486 fl_X12_199 h302 (fun q hq => by cases hq; exact Or.inr ⟨rfl, rfl, rfl⟩) (Or.inr ⟨_, rfl⟩) (fun _ => rfl) ?_
  refine rhF.aload_n (pc := 489) dX12_init_489 0 rfl ?_
  refine rhF.sipush (pc := 490) (v := 900) dX12_init_490 (by decide) ?_
  refine rhF.ck (fun h304 => ?_)
  refine rhF.newI (pc := 493) dX12_init_493 ac_int h304 ?_
  refine rhF.ck (fun h307 => ?_)
  refine rhF.putr (pc := 495) dX12_init_495 fl_X12_202 h307 (fun q hq => by cases hq; exact Or.inr ⟨rfl, rfl, rfl⟩) (Or.inr ⟨_, rfl⟩) (fun _ => rfl) ?_
  refine rhF.aload_n (pc := 498) dX12_init_498 0 rfl ?_
  refine rhF.sipush (pc := 499) (v := 900) dX12_init_499 (by decide) ?_
  refine rhF.ck (fun h309 => ?_)
  refine rhF.newI (pc := 502) dX12_init_502 ac_int h309 ?_
  refine rhF.ck (fun h312 => ?_)
  refine rhF.putr (pc := 504) dX12_init_504 fl_X12_205 h312 (fun q hq => by cases hq; exact Or.inr ⟨rfl, rfl, rfl⟩) (Or.inr ⟨_, rfl⟩) (fun _ => rfl) ?_
  refine rhF.aload_n (pc := 507) dX12_init_507 0 rfl ?_
  refine rhF.callV (pc := 508) (ci := 12) (embc := rhe1U _) [] dX12_init_508 ml_X12_208 mv_X12_clearBank ⟨_, rfl, rfl⟩ h312 (c_X12_clearBank _ _ _ _) (by decide) (by decide) rfl (Nat.le_of_ble_eq_true rfl) (fun r314 _ => ?_)
  refine rhF.aload_n (pc := 511) dX12_init_511 0 rfl ?_
  refine rhF.callV (pc := 512) (ci := 12) (embc := rhe1U _) [] dX12_init_512 ml_X12_211 mv_X12_begin ⟨_, rfl, rfl⟩ h312 (c_X12_begin _ _ _ _) (by decide) (by decide) rfl (Nat.le_of_ble_eq_true rfl) (fun r315 _ => ?_)
  refine rhF.iconst (pc := 515) (v := 0) dX12_init_515 (by decide) ?_
  refine rhF.istore_n (pc := 516) (L' := [(1, rhI _), (0, rhR _)]) dX12_init_516 (by decide) rfl ?_
  refine rhF.sub [1, 0] rfl ?_
  exact (b_X12_init_517 rhFU) _ _ _ _
theorem c_X12_init (E : rhE) (Γ : rhG) (M : rhM) (v0 : Nat) : ∀ a, f_X12_init Γ M v0 = some a → rhC E 7 yX12_init cX12_init 2 none [rhR v0] Γ M (rhe2U a) := rhF.met (by decide +kernel) (Nat.le_of_ble_eq_true rfl) (b_X12_init (Γ0 := Γ) Γ M v0)
def f_X12_fits (Γ : rhG) (M : rhM) (v0 : Nat) (v1 : Int32) (v2 : Int32) : Option (Int32 × rhM) :=
  (f_X12_isIn Γ M v1 (0 : Int32) (3 : Int32)).bind fun r1 =>
  if r1 = 0 then
    (some (((-1), M)))
  else
    rhck (Γ.2.2.1 v0 = 13) <|
    (f_X12_rowsOf Γ M v0 v1 v2).bind fun r4 =>
    some ((r4.1, r4.2))
set_option maxHeartbeats 4000000 in
set_option maxRecDepth 100000 in
theorem b_X12_fits {E : rhE} {Γ : rhG} : ∀ (M : rhM) (v0 : Nat) (v1 : Int32) (v2 : Int32), rhF E 11 3 yX12_fits cX12_fits (some .int) Γ (rhe1I Γ) (f_X12_fits Γ M v0 v1 v2) 0 [(0, rhR v0), (1, rhI v1), (2, rhI v2)] [] Γ M := by
  intro M v0 v1 v2
  rw [f_X12_fits]
  refine rhF.iload_n (pc := 0) dX12_fits_0 1 rfl ?_
  refine rhF.iconst (pc := 1) (v := 0) dX12_fits_1 (by decide) ?_
  refine rhF.iconst (pc := 2) (v := 3) dX12_fits_2 (by decide) ?_
  refine rhF.callS (pc := 3) (embc := rhe0I _ _) [rhI _, rhI _, rhI _] dX12_fits_3 ml_X12_415 ms_X12_isIn (c_X12_isIn _ _ _ _ _ _) (by decide) (by decide) rfl (Nat.le_of_ble_eq_true rfl) (fun r1 _ => ?_)
  refine rhF.if_eq (pc := 6) 18 dX12_fits_6 (by decide) (fun h2 => ?_) (fun h2 => ?_)
  · refine rhF.iconst (pc := 18) (v := (-1)) dX12_fits_18 (by decide) ?_
    exact rhF.zret (pc := 19) dX12_fits_19 rfl rfl rfl
  · refine rhF.aload_n (pc := 9) dX12_fits_9 0 rfl ?_
    refine rhF.iload_n (pc := 10) dX12_fits_10 1 rfl ?_
    refine rhF.iload_n (pc := 11) dX12_fits_11 2 rfl ?_
    refine rhF.ck (fun h3 => ?_)
    refine rhF.callV (pc := 12) (ci := 12) (embc := rhe1I _) [rhI _, rhI _] dX12_fits_12 ml_X12_577 mv_X12_rowsOf ⟨_, rfl, rfl⟩ h3 (c_X12_rowsOf _ _ _ _ _ _) (by decide) (by decide) rfl (Nat.le_of_ble_eq_true rfl) (fun r4 _ => ?_)
    refine rhF.goto (pc := 15) 19 dX12_fits_15 (by decide) ?_
    exact rhF.zret (pc := 19) dX12_fits_19 rfl rfl rfl
theorem c_X12_fits (E : rhE) (Γ : rhG) (M : rhM) (v0 : Nat) (v1 : Int32) (v2 : Int32) : ∀ a, f_X12_fits Γ M v0 v1 v2 = some a → rhC E 11 yX12_fits cX12_fits 3 (some .int) [rhR v0, rhI v1, rhI v2] Γ M ((rhe1I Γ) a) := rhF.met (by decide +kernel) (Nat.le_of_ble_eq_true rfl) (b_X12_fits M v0 v1 v2)
def f_X12_lies (Γ : rhG) (M : rhM) (v0 : Nat) (v1 : Int32) : Option (Int32) :=
  rhck (Γ.2.2.1 v0 = 13) <|
  (f_X12_isIn Γ M v1 (0 : Int32) ((M.1 v0 66) - 1)).bind fun r2 =>
  if r2 = 0 then
    (some ((-1)))
  else
    rhck (Γ.2.2.1 (M.2.2 v0 65) = 15) <|
    rhck (0 ≤ (v1).toInt ∧ (v1).toInt < (Γ.2.2.2 (M.2.2 v0 65) : Nat)) <|
    some (M.1 (M.2.2 v0 65) v1.toNatClampNeg)
set_option maxHeartbeats 4000000 in
set_option maxRecDepth 100000 in
theorem b_X12_lies {E : rhE} {Γ : rhG} {M : rhM} : ∀ (v0 : Nat) (v1 : Int32), rhF E 5 2 yX12_lies cX12_lies (some .int) Γ (rhe0I Γ M) (f_X12_lies Γ M v0 v1) 0 [(0, rhR v0), (1, rhI v1)] [] Γ M := by
  intro v0 v1
  rw [f_X12_lies]
  refine rhF.iload_n (pc := 0) dX12_lies_0 1 rfl ?_
  refine rhF.iconst (pc := 1) (v := 0) dX12_lies_1 (by decide) ?_
  refine rhF.aload_n (pc := 2) dX12_lies_2 0 rfl ?_
  refine rhF.ck (fun h1 => ?_)
  refine rhF.get (pc := 3) (rhI _) dX12_lies_3 fl_X12_342 h1 rfl ?_
  refine rhF.iconst (pc := 6) (v := 1) dX12_lies_6 (by decide) ?_
  refine rhF.isub (pc := 7) dX12_lies_7 ?_
  refine rhF.callS (pc := 8) (embc := rhe0I _ _) [rhI _, rhI _, rhI _] dX12_lies_8 ml_X12_415 ms_X12_isIn (c_X12_isIn _ _ _ _ _ _) (by decide) (by decide) rfl (Nat.le_of_ble_eq_true rfl) (fun r2 _ => ?_)
  refine rhF.if_eq (pc := 11) 23 dX12_lies_11 (by decide) (fun h3 => ?_) (fun h3 => ?_)
  · refine rhF.iconst (pc := 23) (v := (-1)) dX12_lies_23 (by decide) ?_
    exact rhF.zret (pc := 24) dX12_lies_24 rfl rfl rfl
  · refine rhF.aload_n (pc := 14) dX12_lies_14 0 rfl ?_
    refine rhF.get (pc := 15) (rhR _) dX12_lies_15 fl_X12_148 h1 rfl ?_
    refine rhF.iload_n (pc := 18) dX12_lies_18 1 rfl ?_
    refine rhF.ck (fun h4 => ?_)
    refine rhF.ck (fun h5 => ?_)
    refine rhF.iald (pc := 19) dX12_lies_19 h4 h5 ?_
    refine rhF.goto (pc := 20) 24 dX12_lies_20 (by decide) ?_
    exact rhF.zret (pc := 24) dX12_lies_24 rfl rfl rfl
theorem c_X12_lies (E : rhE) (Γ : rhG) (M : rhM) (v0 : Nat) (v1 : Int32) : ∀ a, f_X12_lies Γ M v0 v1 = some a → rhC E 5 yX12_lies cX12_lies 2 (some .int) [rhR v0, rhI v1] Γ M ((rhe0I Γ M) a) := rhF.met (by decide +kernel) (Nat.le_of_ble_eq_true rfl) (b_X12_lies v0 v1)
def f_X12_end (Γ : rhG) (M : rhM) (v0 : Nat) (v1 : Int32) : Option (Int32 × rhM) :=
  if v1 < 0 then
    (some (((-1), M)))
  else
    rhck (Γ.2.2.1 v0 = 13) <|
    if (M.1 v0 2) < v1 then
      (some (((-1), M)))
    else
      let M4 := rhsi M v0 2 v1
      some ((v1, M4))
set_option maxHeartbeats 4000000 in
set_option maxRecDepth 100000 in
theorem b_X12_end {E : rhE} {Γ : rhG} : ∀ (M : rhM) (v0 : Nat) (v1 : Int32), rhF E 1 2 yX12_end cX12_end (some .int) Γ (rhe1I Γ) (f_X12_end Γ M v0 v1) 0 [(0, rhR v0), (1, rhI v1)] [] Γ M := by
  intro M v0 v1
  rw [f_X12_end]
  refine rhF.iload_n (pc := 0) dX12_end_0 1 rfl ?_
  refine rhF.if_lt (pc := 1) 12 dX12_end_1 (by decide) (fun h1 => ?_) (fun h1 => ?_)
  · refine rhF.iconst (pc := 12) (v := (-1)) dX12_end_12 (by decide) ?_
    exact rhF.zret (pc := 13) dX12_end_13 rfl rfl rfl
  · refine rhF.iload_n (pc := 4) dX12_end_4 1 rfl ?_
    refine rhF.aload_n (pc := 5) dX12_end_5 0 rfl ?_
    refine rhF.ck (fun h2 => ?_)
    refine rhF.get (pc := 6) (rhI _) dX12_end_6 fl_X12_324 h2 rfl ?_
    refine rhF.icmp_le (pc := 9) 14 dX12_end_9 (by decide) (fun h3 => ?_) (fun h3 => ?_)
    · refine rhF.iconst (pc := 12) (v := (-1)) dX12_end_12 (by decide) ?_
      exact rhF.zret (pc := 13) dX12_end_13 rfl rfl rfl
    · refine rhF.aload_n (pc := 14) dX12_end_14 0 rfl ?_
      refine rhF.iload_n (pc := 15) dX12_end_15 1 rfl ?_
      refine rhF.puti (pc := 16) dX12_end_16 fl_X12_324 h2 (fun q hq => by cases hq; exact Or.inl rfl) ⟨rfl, rfl⟩ (fun _ => rfl) ?_
      refine rhF.iload_n (pc := 19) dX12_end_19 1 rfl ?_
      exact rhF.zret (pc := 20) dX12_end_20 rfl rfl rfl
theorem c_X12_end (E : rhE) (Γ : rhG) (M : rhM) (v0 : Nat) (v1 : Int32) : ∀ a, f_X12_end Γ M v0 v1 = some a → rhC E 1 yX12_end cX12_end 2 (some .int) [rhR v0, rhI v1] Γ M ((rhe1I Γ) a) := rhF.met (by decide +kernel) (Nat.le_of_ble_eq_true rfl) (b_X12_end M v0 v1)
def f_X12_back_42 (k71 : rhM → Nat → Int32 → Option (Int32 × rhM)) (Γ : rhG) : Nat → rhM → Nat → Int32 → Int32 → Option (Int32 × rhM)
  | 0, _, _, _, _ => none
  | n + 1, M, v0, v1, v2 =>
    if v2 < 8 then
      (rhck (Γ.2.2.1 v0 = 13) <|
      rhck (Γ.2.2.1 (M.2.2 v0 86) = 15) <|
      rhck (0 ≤ ((8 * v1) + v2).toInt ∧ ((8 * v1) + v2).toInt < (Γ.2.2.2 (M.2.2 v0 86) : Nat)) <|
      rhck (Γ.2.2.1 (M.2.2 v0 42) = 15) <|
      rhck (0 ≤ (v2).toInt ∧ (v2).toInt < (Γ.2.2.2 (M.2.2 v0 42) : Nat)) <|
      let M17 := rhsi M (M.2.2 v0 42) (v2 : Int32).toNatClampNeg (M.1 (M.2.2 v0 86) ((8 * v1) + v2).toNatClampNeg)
      let x18 : Int32 := v2 + 1
      f_X12_back_42 k71 Γ n M17 v0 v1 x18)
    else
      k71 M v0 v1
def f_X12_back_73 (k101 : rhM → Nat → Int32 → Option (Int32 × rhM)) (Γ : rhG) : Nat → rhM → Nat → Int32 → Int32 → Option (Int32 × rhM)
  | 0, _, _, _, _ => none
  | n + 1, M, v0, v1, v2 =>
    if v2 < 5 then
      (rhck (Γ.2.2.1 v0 = 13) <|
      rhck (Γ.2.2.1 (M.2.2 v0 87) = 15) <|
      rhck (0 ≤ ((6 * v1) + v2).toInt ∧ ((6 * v1) + v2).toInt < (Γ.2.2.2 (M.2.2 v0 87) : Nat)) <|
      rhck (Γ.2.2.1 (M.2.2 v0 43) = 15) <|
      rhck (0 ≤ (v2).toInt ∧ (v2).toInt < (Γ.2.2.2 (M.2.2 v0 43) : Nat)) <|
      let M25 := rhsi M (M.2.2 v0 43) (v2 : Int32).toNatClampNeg (M.1 (M.2.2 v0 87) ((6 * v1) + v2).toNatClampNeg)
      let x26 : Int32 := v2 + 1
      f_X12_back_73 k101 Γ n M25 v0 v1 x26)
    else
      k101 M v0 v1
def f_X12_back_103 (Γ : rhG) : Nat → rhM → Nat → Int32 → Int32 → Option (Int32 × rhM)
  | 0, _, _, _, _ => none
  | n + 1, M, v0, v1, v2 =>
    rhck (Γ.2.2.1 v0 = 13) <|
    if v2 < (M.1 v0 48) then
      (rhck (Γ.2.2.1 (M.2.2 v0 88) = 15) <|
      rhck (0 ≤ ((300 * v1) + v2).toInt ∧ ((300 * v1) + v2).toInt < (Γ.2.2.2 (M.2.2 v0 88) : Nat)) <|
      rhck (Γ.2.2.1 (M.2.2 v0 46) = 15) <|
      rhck (0 ≤ (v2).toInt ∧ (v2).toInt < (Γ.2.2.2 (M.2.2 v0 46) : Nat)) <|
      let M33 := rhsi M (M.2.2 v0 46) (v2 : Int32).toNatClampNeg (M.1 (M.2.2 v0 88) ((300 * v1) + v2).toNatClampNeg)
      rhck (Γ.2.2.1 (M.2.2 v0 89) = 15) <|
      rhck (0 ≤ ((300 * v1) + v2).toInt ∧ ((300 * v1) + v2).toInt < (Γ.2.2.2 (M.2.2 v0 89) : Nat)) <|
      rhck (Γ.2.2.1 (M.2.2 v0 47) = 15) <|
      rhck (0 ≤ (v2).toInt ∧ (v2).toInt < (Γ.2.2.2 (M.2.2 v0 47) : Nat)) <|
      let M38 := rhsi M33 (M.2.2 v0 47) (v2 : Int32).toNatClampNeg (M33.1 (M.2.2 v0 89) ((300 * v1) + v2).toNatClampNeg)
      let x39 : Int32 := v2 + 1
      f_X12_back_103 Γ n M38 v0 v1 x39)
    else
      some ((M.1 v0 48, M))
def f_X12_back_101 (Γ : rhG) (M : rhM) (v0 : Nat) (v1 : Int32) : Option (Int32 × rhM) :=
  f_X12_back_103 Γ rhFU M v0 v1 0
def f_X12_back_71 (Γ : rhG) (M : rhM) (v0 : Nat) (v1 : Int32) : Option (Int32 × rhM) :=
  f_X12_back_73 (f_X12_back_101 Γ) Γ rhFU M v0 v1 0
def f_X12_back (Γ : rhG) (M : rhM) (v0 : Nat) (v1 : Int32) : Option (Int32 × rhM) :=
  (f_X12_isIn Γ M v1 (0 : Int32) (2 : Int32)).bind fun r1 =>
  if r1 = 0 then
    (some (((-1), M)))
  else
    rhck (Γ.2.2.1 v0 = 13) <|
    rhck (Γ.2.2.1 (M.2.2 v0 84) = 15) <|
    rhck (0 ≤ (v1).toInt ∧ (v1).toInt < (Γ.2.2.2 (M.2.2 v0 84) : Nat)) <|
    if (M.1 (M.2.2 v0 84) v1.toNatClampNeg) < 0 then
      (some (((-1), M)))
    else
      let M7 := rhsi M v0 48 (M.1 (M.2.2 v0 84) v1.toNatClampNeg)
      rhck (Γ.2.2.1 (M.2.2 v0 85) = 15) <|
      rhck (0 ≤ (v1).toInt ∧ (v1).toInt < (Γ.2.2.2 (M.2.2 v0 85) : Nat)) <|
      let M10 := rhsi M7 v0 49 (M7.1 (M.2.2 v0 85) v1.toNatClampNeg)
      f_X12_back_42 (f_X12_back_71 Γ) Γ rhFU M10 v0 v1 0
set_option maxHeartbeats 4000000 in
set_option maxRecDepth 100000 in
theorem b_X12_back_42 {E : rhE} {Γ : rhG} {k71 : rhM → Nat → Int32 → Option (Int32 × rhM)} (hk71 : ∀ (M : rhM) (v0 : Nat) (v1 : Int32), rhF E 5 3 yX12_back cX12_back (some .int) Γ (rhe1I Γ) (k71 M v0 v1) 71 [(0, rhR v0), (1, rhI v1)] [] Γ M) : ∀ (n : Nat) (M : rhM) (v0 : Nat) (v1 : Int32) (v2 : Int32), rhF E 5 3 yX12_back cX12_back (some .int) Γ (rhe1I Γ) (f_X12_back_42 k71 Γ n M v0 v1 v2) 42 [(0, rhR v0), (1, rhI v1), (2, rhI v2)] [] Γ M := by
  intro n
  induction n with
  | zero => intro M v0 v1 v2; rw [f_X12_back_42]; exact rhF.nope
  | succ n ih =>
    intro M v0 v1 v2
    rw [f_X12_back_42]
    refine rhF.iload_n (pc := 42) dX12_back_42 2 rfl ?_
    refine rhF.bipush (pc := 43) (v := 8) dX12_back_43 (by decide) ?_
    refine rhF.icmp_ge (pc := 45) 71 dX12_back_45 (by decide) (fun h11 => ?_) (fun h11 => ?_)
    · refine rhF.aload_n (pc := 48) dX12_back_48 0 rfl ?_
      refine rhF.ck (fun h12 => ?_)
      refine rhF.get (pc := 49) (rhR _) dX12_back_49 fl_X12_101 h12 rfl ?_
      refine rhF.iload_n (pc := 52) dX12_back_52 2 rfl ?_
      refine rhF.aload_n (pc := 53) dX12_back_53 0 rfl ?_
      refine rhF.get (pc := 54) (rhR _) dX12_back_54 fl_X12_196 h12 rfl ?_
      refine rhF.bipush (pc := 57) (v := 8) dX12_back_57 (by decide) ?_
      refine rhF.iload_n (pc := 59) dX12_back_59 1 rfl ?_
      refine rhF.imul (pc := 60) dX12_back_60 ?_
      refine rhF.iload_n (pc := 61) dX12_back_61 2 rfl ?_
      refine rhF.iadd (pc := 62) dX12_back_62 ?_
      refine rhF.ck (fun h13 => ?_)
      refine rhF.ck (fun h14 => ?_)
      refine rhF.iald (pc := 63) dX12_back_63 h13 h14 ?_
      refine rhF.ck (fun h15 => ?_)
      refine rhF.ck (fun h16 => ?_)
      refine rhF.iast (pc := 64) dX12_back_64 h15 h16 ?_
      refine rhF.iinc (pc := 65) (L' := [(2, rhI _), (0, rhR _), (1, rhI _)]) dX12_back_65 2 rfl rfl (by decide) rfl ?_
      refine rhF.goto (pc := 68) 42 dX12_back_68 (by decide) ?_
      refine rhF.sub [1, 2, 0] rfl ?_
      exact ih _ _ _ _
    · refine rhF.sub [0, 1] rfl ?_
      exact hk71 _ _ _
set_option maxHeartbeats 4000000 in
set_option maxRecDepth 100000 in
theorem b_X12_back_73 {E : rhE} {Γ : rhG} {k101 : rhM → Nat → Int32 → Option (Int32 × rhM)} (hk101 : ∀ (M : rhM) (v0 : Nat) (v1 : Int32), rhF E 5 3 yX12_back cX12_back (some .int) Γ (rhe1I Γ) (k101 M v0 v1) 101 [(0, rhR v0), (1, rhI v1)] [] Γ M) : ∀ (n : Nat) (M : rhM) (v0 : Nat) (v1 : Int32) (v2 : Int32), rhF E 5 3 yX12_back cX12_back (some .int) Γ (rhe1I Γ) (f_X12_back_73 k101 Γ n M v0 v1 v2) 73 [(0, rhR v0), (1, rhI v1), (2, rhI v2)] [] Γ M := by
  intro n
  induction n with
  | zero => intro M v0 v1 v2; rw [f_X12_back_73]; exact rhF.nope
  | succ n ih =>
    intro M v0 v1 v2
    rw [f_X12_back_73]
    refine rhF.iload_n (pc := 73) dX12_back_73 2 rfl ?_
    refine rhF.iconst (pc := 74) (v := 5) dX12_back_74 (by decide) ?_
    refine rhF.icmp_ge (pc := 75) 101 dX12_back_75 (by decide) (fun h19 => ?_) (fun h19 => ?_)
    · refine rhF.aload_n (pc := 78) dX12_back_78 0 rfl ?_
      refine rhF.ck (fun h20 => ?_)
      refine rhF.get (pc := 79) (rhR _) dX12_back_79 fl_X12_104 h20 rfl ?_
      refine rhF.iload_n (pc := 82) dX12_back_82 2 rfl ?_
      refine rhF.aload_n (pc := 83) dX12_back_83 0 rfl ?_
      refine rhF.get (pc := 84) (rhR _) dX12_back_84 fl_X12_199 h20 rfl ?_
      refine rhF.bipush (pc := 87) (v := 6) dX12_back_87 (by decide) ?_
      refine rhF.iload_n (pc := 89) dX12_back_89 1 rfl ?_
      refine rhF.imul (pc := 90) dX12_back_90 ?_
      refine rhF.iload_n (pc := 91) dX12_back_91 2 rfl ?_
      refine rhF.iadd (pc := 92) dX12_back_92 ?_
      refine rhF.ck (fun h21 => ?_)
      refine rhF.ck (fun h22 => ?_)
      refine rhF.iald (pc := 93) dX12_back_93 h21 h22 ?_
      refine rhF.ck (fun h23 => ?_)
      refine rhF.ck (fun h24 => ?_)
      refine rhF.iast (pc := 94) dX12_back_94 h23 h24 ?_
      refine rhF.iinc (pc := 95) (L' := [(2, rhI _), (0, rhR _), (1, rhI _)]) dX12_back_95 2 rfl rfl (by decide) rfl ?_
      refine rhF.goto (pc := 98) 73 dX12_back_98 (by decide) ?_
      refine rhF.sub [1, 2, 0] rfl ?_
      exact ih _ _ _ _
    · refine rhF.sub [0, 1] rfl ?_
      exact hk101 _ _ _
set_option maxHeartbeats 4000000 in
set_option maxRecDepth 100000 in
theorem b_X12_back_103 {E : rhE} {Γ : rhG} : ∀ (n : Nat) (M : rhM) (v0 : Nat) (v1 : Int32) (v2 : Int32), rhF E 5 3 yX12_back cX12_back (some .int) Γ (rhe1I Γ) (f_X12_back_103 Γ n M v0 v1 v2) 103 [(0, rhR v0), (1, rhI v1), (2, rhI v2)] [] Γ M := by
  intro n
  induction n with
  | zero => intro M v0 v1 v2; rw [f_X12_back_103]; exact rhF.nope
  | succ n ih =>
    intro M v0 v1 v2
    rw [f_X12_back_103]
    refine rhF.iload_n (pc := 103) dX12_back_103 2 rfl ?_
    refine rhF.aload_n (pc := 104) dX12_back_104 0 rfl ?_
    refine rhF.ck (fun h27 => ?_)
    refine rhF.get (pc := 105) (rhI _) dX12_back_105 fl_X12_458 h27 rfl ?_
    refine rhF.icmp_ge (pc := 108) 153 dX12_back_108 (by decide) (fun h28 => ?_) (fun h28 => ?_)
    · refine rhF.aload_n (pc := 111) dX12_back_111 0 rfl ?_
      refine rhF.get (pc := 112) (rhR _) dX12_back_112 fl_X12_110 h27 rfl ?_
      refine rhF.iload_n (pc := 115) dX12_back_115 2 rfl ?_
      refine rhF.aload_n (pc := 116) dX12_back_116 0 rfl ?_
      refine rhF.get (pc := 117) (rhR _) dX12_back_117 fl_X12_202 h27 rfl ?_
      refine rhF.sipush (pc := 120) (v := 300) dX12_back_120 (by decide) ?_
      refine rhF.iload_n (pc := 123) dX12_back_123 1 rfl ?_
      refine rhF.imul (pc := 124) dX12_back_124 ?_
      refine rhF.iload_n (pc := 125) dX12_back_125 2 rfl ?_
      refine rhF.iadd (pc := 126) dX12_back_126 ?_
      refine rhF.ck (fun h29 => ?_)
      refine rhF.ck (fun h30 => ?_)
      refine rhF.iald (pc := 127) dX12_back_127 h29 h30 ?_
      refine rhF.ck (fun h31 => ?_)
      refine rhF.ck (fun h32 => ?_)
      refine rhF.iast (pc := 128) dX12_back_128 h31 h32 ?_
      refine rhF.aload_n (pc := 129) dX12_back_129 0 rfl ?_
      refine rhF.get (pc := 130) (rhR _) dX12_back_130 fl_X12_113 h27 rfl ?_
      refine rhF.iload_n (pc := 133) dX12_back_133 2 rfl ?_
      refine rhF.aload_n (pc := 134) dX12_back_134 0 rfl ?_
      refine rhF.get (pc := 135) (rhR _) dX12_back_135 fl_X12_205 h27 rfl ?_
      refine rhF.sipush (pc := 138) (v := 300) dX12_back_138 (by decide) ?_
      refine rhF.iload_n (pc := 141) dX12_back_141 1 rfl ?_
      refine rhF.imul (pc := 142) dX12_back_142 ?_
      refine rhF.iload_n (pc := 143) dX12_back_143 2 rfl ?_
      refine rhF.iadd (pc := 144) dX12_back_144 ?_
      refine rhF.ck (fun h34 => ?_)
      refine rhF.ck (fun h35 => ?_)
      refine rhF.iald (pc := 145) dX12_back_145 h34 h35 ?_
      refine rhF.ck (fun h36 => ?_)
      refine rhF.ck (fun h37 => ?_)
      refine rhF.iast (pc := 146) dX12_back_146 h36 h37 ?_
      refine rhF.iinc (pc := 147) (L' := [(2, rhI _), (0, rhR _), (1, rhI _)]) dX12_back_147 2 rfl rfl (by decide) rfl ?_
      refine rhF.goto (pc := 150) 103 dX12_back_150 (by decide) ?_
      refine rhF.sub [1, 2, 0] rfl ?_
      exact ih _ _ _ _
    · refine rhF.aload_n (pc := 153) dX12_back_153 0 rfl ?_
      refine rhF.get (pc := 154) (rhI _) dX12_back_154 fl_X12_458 h27 rfl ?_
      exact rhF.zret (pc := 157) dX12_back_157 rfl rfl rfl
set_option maxHeartbeats 4000000 in
set_option maxRecDepth 100000 in
theorem b_X12_back_101 {E : rhE} {Γ : rhG} : ∀ (M : rhM) (v0 : Nat) (v1 : Int32), rhF E 5 3 yX12_back cX12_back (some .int) Γ (rhe1I Γ) (f_X12_back_101 Γ M v0 v1) 101 [(0, rhR v0), (1, rhI v1)] [] Γ M := by
  intro M v0 v1
  rw [f_X12_back_101]
  refine rhF.iconst (pc := 101) (v := 0) dX12_back_101 (by decide) ?_
  refine rhF.istore_n (pc := 102) (L' := [(2, rhI _), (0, rhR _), (1, rhI _)]) dX12_back_102 (by decide) rfl ?_
  refine rhF.sub [1, 2, 0] rfl ?_
  exact (b_X12_back_103 rhFU) _ _ _ _
set_option maxHeartbeats 4000000 in
set_option maxRecDepth 100000 in
theorem b_X12_back_71 {E : rhE} {Γ : rhG} : ∀ (M : rhM) (v0 : Nat) (v1 : Int32), rhF E 5 3 yX12_back cX12_back (some .int) Γ (rhe1I Γ) (f_X12_back_71 Γ M v0 v1) 71 [(0, rhR v0), (1, rhI v1)] [] Γ M := by
  intro M v0 v1
  rw [f_X12_back_71]
  refine rhF.iconst (pc := 71) (v := 0) dX12_back_71 (by decide) ?_
  refine rhF.istore_n (pc := 72) (L' := [(2, rhI _), (0, rhR _), (1, rhI _)]) dX12_back_72 (by decide) rfl ?_
  refine rhF.sub [1, 2, 0] rfl ?_
  exact (b_X12_back_73 (b_X12_back_101) rhFU) _ _ _ _
set_option maxHeartbeats 4000000 in
set_option maxRecDepth 100000 in
theorem b_X12_back {E : rhE} {Γ : rhG} : ∀ (M : rhM) (v0 : Nat) (v1 : Int32), rhF E 5 3 yX12_back cX12_back (some .int) Γ (rhe1I Γ) (f_X12_back Γ M v0 v1) 0 [(0, rhR v0), (1, rhI v1)] [] Γ M := by
  intro M v0 v1
  rw [f_X12_back]
  refine rhF.iload_n (pc := 0) dX12_back_0 1 rfl ?_
  refine rhF.iconst (pc := 1) (v := 0) dX12_back_1 (by decide) ?_
  refine rhF.iconst (pc := 2) (v := 2) dX12_back_2 (by decide) ?_
  refine rhF.callS (pc := 3) (embc := rhe0I _ _) [rhI _, rhI _, rhI _] dX12_back_3 ml_X12_415 ms_X12_isIn (c_X12_isIn _ _ _ _ _ _) (by decide) (by decide) rfl (Nat.le_of_ble_eq_true rfl) (fun r1 _ => ?_)
  refine rhF.if_eq (pc := 6) 18 dX12_back_6 (by decide) (fun h2 => ?_) (fun h2 => ?_)
  · refine rhF.iconst (pc := 18) (v := (-1)) dX12_back_18 (by decide) ?_
    exact rhF.zret (pc := 19) dX12_back_19 rfl rfl rfl
  · refine rhF.aload_n (pc := 9) dX12_back_9 0 rfl ?_
    refine rhF.ck (fun h3 => ?_)
    refine rhF.get (pc := 10) (rhR _) dX12_back_10 fl_X12_190 h3 rfl ?_
    refine rhF.iload_n (pc := 13) dX12_back_13 1 rfl ?_
    refine rhF.ck (fun h4 => ?_)
    refine rhF.ck (fun h5 => ?_)
    refine rhF.iald (pc := 14) dX12_back_14 h4 h5 ?_
    refine rhF.if_ge (pc := 15) 20 dX12_back_15 (by decide) (fun h6 => ?_) (fun h6 => ?_)
    · refine rhF.iconst (pc := 18) (v := (-1)) dX12_back_18 (by decide) ?_
      exact rhF.zret (pc := 19) dX12_back_19 rfl rfl rfl
    · refine rhF.aload_n (pc := 20) dX12_back_20 0 rfl ?_
      refine rhF.aload_n (pc := 21) dX12_back_21 0 rfl ?_
      refine rhF.get (pc := 22) (rhR _) dX12_back_22 fl_X12_190 h3 rfl ?_
      refine rhF.iload_n (pc := 25) dX12_back_25 1 rfl ?_
      refine rhF.iald (pc := 26) dX12_back_26 h4 h5 ?_
      refine rhF.puti (pc := 27) dX12_back_27 fl_X12_458 h3 (fun q hq => by cases hq; exact Or.inl rfl) ⟨rfl, rfl⟩ (fun _ => rfl) ?_
      refine rhF.aload_n (pc := 30) dX12_back_30 0 rfl ?_
      refine rhF.aload_n (pc := 31) dX12_back_31 0 rfl ?_
      refine rhF.get (pc := 32) (rhR _) dX12_back_32 fl_X12_193 h3 rfl ?_
      refine rhF.iload_n (pc := 35) dX12_back_35 1 rfl ?_
      refine rhF.ck (fun h8 => ?_)
      refine rhF.ck (fun h9 => ?_)
      refine rhF.iald (pc := 36) dX12_back_36 h8 h9 ?_
      refine rhF.puti (pc := 37) dX12_back_37 fl_X12_461 h3 (fun q hq => by cases hq; exact Or.inl rfl) ⟨rfl, rfl⟩ (fun _ => rfl) ?_
      refine rhF.iconst (pc := 40) (v := 0) dX12_back_40 (by decide) ?_
      refine rhF.istore_n (pc := 41) (L' := [(2, rhI _), (0, rhR _), (1, rhI _)]) dX12_back_41 (by decide) rfl ?_
      refine rhF.sub [1, 2, 0] rfl ?_
      exact (b_X12_back_42 (b_X12_back_71) rhFU) _ _ _ _
theorem c_X12_back (E : rhE) (Γ : rhG) (M : rhM) (v0 : Nat) (v1 : Int32) : ∀ a, f_X12_back Γ M v0 v1 = some a → rhC E 5 yX12_back cX12_back 3 (some .int) [rhR v0, rhI v1] Γ M ((rhe1I Γ) a) := rhF.met (by decide +kernel) (Nat.le_of_ble_eq_true rfl) (b_X12_back M v0 v1)
def f_X12_feed_71 (k18 : rhM → Nat → Int32 → Int32 → Int32 → Int32 → Int32 → Int32 → Option (Int32 × rhM)) (Γ : rhG) (M : rhM) (v0 : Nat) (v1 : Int32) (v2 : Int32) (v3 : Int32) (v4 : Int32) (v5 : Int32) (v6 : Int32) (s0 : Int32) : Option (Int32 × rhM) :=
  rhck (Γ.2.2.1 v0 = 13) <|
  rhck (Γ.2.2.1 (M.2.2 v0 0) = 14) <|
  rhck (0 ≤ ((M.1 v0 2) + v6).toInt ∧ ((M.1 v0 2) + v6).toInt < (Γ.2.2.2 (M.2.2 v0 0) : Nat)) <|
  let M8 := rhsi M (M.2.2 v0 0) ((M.1 v0 2) + v6 : Int32).toNatClampNeg (vp_nar .byte ((s0 >>> ((24 - (8 * (v6 &&& 3))) &&& 31)).toInt8.toInt32))
  let x9 : Int32 := v6 + 1
  k18 M8 v0 v1 v2 v3 v4 v5 x9
def f_X12_feed_18 (k105 : rhM → Nat → Option (Int32 × rhM)) (Γ : rhG) : Nat → rhM → Nat → Int32 → Int32 → Int32 → Int32 → Int32 → Int32 → Option (Int32 × rhM)
  | 0, _, _, _, _, _, _, _, _ => none
  | n + 1, M, v0, v1, v2, v3, v4, v5, v6 =>
    if v6 < 20 then
      (if v6 < 4 then
        (f_X12_feed_71 (f_X12_feed_18 k105 Γ n) Γ M v0 v1 v2 v3 v4 v5 v6 v1)
      else
        if v6 < 8 then
          (f_X12_feed_71 (f_X12_feed_18 k105 Γ n) Γ M v0 v1 v2 v3 v4 v5 v6 v2)
        else
          if v6 < 12 then
            (f_X12_feed_71 (f_X12_feed_18 k105 Γ n) Γ M v0 v1 v2 v3 v4 v5 v6 v3)
          else
            if v6 < 16 then
              (f_X12_feed_71 (f_X12_feed_18 k105 Γ n) Γ M v0 v1 v2 v3 v4 v5 v6 v4)
            else
              f_X12_feed_71 (f_X12_feed_18 k105 Γ n) Γ M v0 v1 v2 v3 v4 v5 v6 v5)
    else
      k105 M v0
def f_X12_feed_105 (Γ : rhG) (M : rhM) (v0 : Nat) : Option (Int32 × rhM) :=
  rhck (Γ.2.2.1 v0 = 13) <|
  let M14 := rhsi M v0 2 ((M.1 v0 2) + 20)
  some ((M14.1 v0 2, M14))
def f_X12_feed (Γ : rhG) (M : rhM) (v0 : Nat) (v1 : Int32) (v2 : Int32) (v3 : Int32) (v4 : Int32) (v5 : Int32) : Option (Int32 × rhM) :=
  rhck (Γ.2.2.1 v0 = 13) <|
  if 1600 < ((M.1 v0 2) + 20) then
    (some (((-1), M)))
  else
    f_X12_feed_18 (f_X12_feed_105 Γ) Γ rhFU M v0 v1 v2 v3 v4 v5 0
set_option maxHeartbeats 4000000 in
set_option maxRecDepth 100000 in
theorem b_X12_feed_71 {E : rhE} {Γ : rhG} {k18 : rhM → Nat → Int32 → Int32 → Int32 → Int32 → Int32 → Int32 → Option (Int32 × rhM)} (hk18 : ∀ (M : rhM) (v0 : Nat) (v1 : Int32) (v2 : Int32) (v3 : Int32) (v4 : Int32) (v5 : Int32) (v6 : Int32), rhF E 1 8 yX12_feed cX12_feed (some .int) Γ (rhe1I Γ) (k18 M v0 v1 v2 v3 v4 v5 v6) 18 [(0, rhR v0), (1, rhI v1), (2, rhI v2), (3, rhI v3), (4, rhI v4), (5, rhI v5), (6, rhI v6)] [] Γ M) : ∀ (M : rhM) (v0 : Nat) (v1 : Int32) (v2 : Int32) (v3 : Int32) (v4 : Int32) (v5 : Int32) (v6 : Int32) (s0 : Int32), rhF E 1 8 yX12_feed cX12_feed (some .int) Γ (rhe1I Γ) (f_X12_feed_71 k18 Γ M v0 v1 v2 v3 v4 v5 v6 s0) 71 [(0, rhR v0), (1, rhI v1), (2, rhI v2), (3, rhI v3), (4, rhI v4), (5, rhI v5), (6, rhI v6)] [rhI s0] Γ M := by
  intro M v0 v1 v2 v3 v4 v5 v6 s0
  rw [f_X12_feed_71]
  refine rhF.istore (pc := 71) (L' := [(7, rhI _), (0, rhR _), (1, rhI _), (2, rhI _), (3, rhI _), (4, rhI _), (5, rhI _), (6, rhI _)]) dX12_feed_71 (by decide) rfl ?_
  refine rhF.aload_n (pc := 73) dX12_feed_73 1 rfl ?_
  refine rhF.ck (fun h5 => ?_)
  refine rhF.get (pc := 74) (rhR _) dX12_feed_74 fl_X12_7 h5 rfl ?_
  refine rhF.aload_n (pc := 77) dX12_feed_77 1 rfl ?_
  refine rhF.get (pc := 78) (rhI _) dX12_feed_78 fl_X12_324 h5 rfl ?_
  refine rhF.iload (pc := 81) dX12_feed_81 7 rfl ?_
  refine rhF.iadd (pc := 83) dX12_feed_83 ?_
  refine rhF.iload (pc := 84) dX12_feed_84 0 rfl ?_
  refine rhF.bipush (pc := 86) (v := 24) dX12_feed_86 (by decide) ?_
  refine rhF.bipush (pc := 88) (v := 8) dX12_feed_88 (by decide) ?_
  refine rhF.iload (pc := 90) dX12_feed_90 7 rfl ?_
  refine rhF.iconst (pc := 92) (v := 3) dX12_feed_92 (by decide) ?_
  refine rhF.iand (pc := 93) dX12_feed_93 ?_
  refine rhF.imul (pc := 94) dX12_feed_94 ?_
  refine rhF.isub (pc := 95) dX12_feed_95 ?_
  refine rhF.ishr (pc := 96) dX12_feed_96 ?_
  refine rhF.i2b (pc := 97) dX12_feed_97 ?_
  refine rhF.ck (fun h6 => ?_)
  refine rhF.ck (fun h7 => ?_)
  refine rhF.bast (pc := 98) dX12_feed_98 h6 h7 ?_
  refine rhF.iinc (pc := 99) (L' := [(6, rhI _), (7, rhI _), (0, rhR _), (1, rhI _), (2, rhI _), (3, rhI _), (4, rhI _), (5, rhI _)]) dX12_feed_99 7 rfl rfl (by decide) rfl ?_
  refine rhF.goto (pc := 102) 18 dX12_feed_102 (by decide) ?_
  refine rhF.sub [2, 3, 4, 5, 6, 7, 0] rfl ?_
  exact hk18 _ _ _ _ _ _ _ _
set_option maxHeartbeats 4000000 in
set_option maxRecDepth 100000 in
theorem b_X12_feed_18 {E : rhE} {Γ : rhG} {k105 : rhM → Nat → Option (Int32 × rhM)} (hk105 : ∀ (M : rhM) (v0 : Nat), rhF E 1 8 yX12_feed cX12_feed (some .int) Γ (rhe1I Γ) (k105 M v0) 105 [(0, rhR v0)] [] Γ M) : ∀ (n : Nat) (M : rhM) (v0 : Nat) (v1 : Int32) (v2 : Int32) (v3 : Int32) (v4 : Int32) (v5 : Int32) (v6 : Int32), rhF E 1 8 yX12_feed cX12_feed (some .int) Γ (rhe1I Γ) (f_X12_feed_18 k105 Γ n M v0 v1 v2 v3 v4 v5 v6) 18 [(0, rhR v0), (1, rhI v1), (2, rhI v2), (3, rhI v3), (4, rhI v4), (5, rhI v5), (6, rhI v6)] [] Γ M := by
  intro n
  induction n with
  | zero => intro M v0 v1 v2 v3 v4 v5 v6; rw [f_X12_feed_18]; exact rhF.nope
  | succ n ih =>
    intro M v0 v1 v2 v3 v4 v5 v6
    rw [f_X12_feed_18]
    refine rhF.iload (pc := 18) dX12_feed_18 6 rfl ?_
    refine rhF.bipush (pc := 20) (v := 20) dX12_feed_20 (by decide) ?_
    refine rhF.icmp_ge (pc := 22) 105 dX12_feed_22 (by decide) (fun h3 => ?_) (fun h3 => ?_)
    · refine rhF.iload (pc := 25) dX12_feed_25 6 rfl ?_
      refine rhF.iconst (pc := 27) (v := 4) dX12_feed_27 (by decide) ?_
      refine rhF.icmp_ge (pc := 28) 35 dX12_feed_28 (by decide) (fun h4 => ?_) (fun h4 => ?_)
      · refine rhF.iload_n (pc := 31) dX12_feed_31 1 rfl ?_
        refine rhF.goto (pc := 32) 71 dX12_feed_32 (by decide) ?_
        exact (b_X12_feed_71 ih) _ _ _ _ _ _ _ _ _
      · refine rhF.iload (pc := 35) dX12_feed_35 6 rfl ?_
        refine rhF.bipush (pc := 37) (v := 8) dX12_feed_37 (by decide) ?_
        refine rhF.icmp_ge (pc := 39) 46 dX12_feed_39 (by decide) (fun h10 => ?_) (fun h10 => ?_)
        · refine rhF.iload_n (pc := 42) dX12_feed_42 2 rfl ?_
          refine rhF.goto (pc := 43) 71 dX12_feed_43 (by decide) ?_
          exact (b_X12_feed_71 ih) _ _ _ _ _ _ _ _ _
        · refine rhF.iload (pc := 46) dX12_feed_46 6 rfl ?_
          refine rhF.bipush (pc := 48) (v := 12) dX12_feed_48 (by decide) ?_
          refine rhF.icmp_ge (pc := 50) 57 dX12_feed_50 (by decide) (fun h11 => ?_) (fun h11 => ?_)
          · refine rhF.iload_n (pc := 53) dX12_feed_53 3 rfl ?_
            refine rhF.goto (pc := 54) 71 dX12_feed_54 (by decide) ?_
            exact (b_X12_feed_71 ih) _ _ _ _ _ _ _ _ _
          · refine rhF.iload (pc := 57) dX12_feed_57 6 rfl ?_
            refine rhF.bipush (pc := 59) (v := 16) dX12_feed_59 (by decide) ?_
            refine rhF.icmp_ge (pc := 61) 69 dX12_feed_61 (by decide) (fun h12 => ?_) (fun h12 => ?_)
            · refine rhF.iload (pc := 64) dX12_feed_64 4 rfl ?_
              refine rhF.goto (pc := 66) 71 dX12_feed_66 (by decide) ?_
              exact (b_X12_feed_71 ih) _ _ _ _ _ _ _ _ _
            · refine rhF.iload (pc := 69) dX12_feed_69 5 rfl ?_
              exact (b_X12_feed_71 ih) _ _ _ _ _ _ _ _ _
    · refine rhF.sub [0] rfl ?_
      exact hk105 _ _
set_option maxHeartbeats 4000000 in
set_option maxRecDepth 100000 in
theorem b_X12_feed_105 {E : rhE} {Γ : rhG} : ∀ (M : rhM) (v0 : Nat), rhF E 1 8 yX12_feed cX12_feed (some .int) Γ (rhe1I Γ) (f_X12_feed_105 Γ M v0) 105 [(0, rhR v0)] [] Γ M := by
  intro M v0
  rw [f_X12_feed_105]
  refine rhF.aload_n (pc := 105) dX12_feed_105 0 rfl ?_
  refine rhF.dupr (pc := 106) dX12_feed_106 ?_
  refine rhF.ck (fun h13 => ?_)
  refine rhF.get (pc := 107) (rhI _) dX12_feed_107 fl_X12_324 h13 rfl ?_
  refine rhF.bipush (pc := 110) (v := 20) dX12_feed_110 (by decide) ?_
  refine rhF.iadd (pc := 112) dX12_feed_112 ?_
  refine rhF.puti (pc := 113) dX12_feed_113 fl_X12_324 h13 (fun q hq => by cases hq; exact Or.inl rfl) ⟨rfl, rfl⟩ (fun _ => rfl) ?_
  refine rhF.aload_n (pc := 116) dX12_feed_116 0 rfl ?_
  refine rhF.get (pc := 117) (rhI _) dX12_feed_117 fl_X12_324 h13 rfl ?_
  exact rhF.zret (pc := 120) dX12_feed_120 rfl rfl rfl
set_option maxHeartbeats 4000000 in
set_option maxRecDepth 100000 in
theorem b_X12_feed {E : rhE} {Γ : rhG} : ∀ (M : rhM) (v0 : Nat) (v1 : Int32) (v2 : Int32) (v3 : Int32) (v4 : Int32) (v5 : Int32), rhF E 1 8 yX12_feed cX12_feed (some .int) Γ (rhe1I Γ) (f_X12_feed Γ M v0 v1 v2 v3 v4 v5) 0 [(0, rhR v0), (1, rhI v1), (2, rhI v2), (3, rhI v3), (4, rhI v4), (5, rhI v5)] [] Γ M := by
  intro M v0 v1 v2 v3 v4 v5
  rw [f_X12_feed]
  refine rhF.aload_n (pc := 0) dX12_feed_0 0 rfl ?_
  refine rhF.ck (fun h1 => ?_)
  refine rhF.get (pc := 1) (rhI _) dX12_feed_1 fl_X12_324 h1 rfl ?_
  refine rhF.bipush (pc := 4) (v := 20) dX12_feed_4 (by decide) ?_
  refine rhF.iadd (pc := 6) dX12_feed_6 ?_
  refine rhF.sipush (pc := 7) (v := 1600) dX12_feed_7 (by decide) ?_
  refine rhF.icmp_le (pc := 10) 15 dX12_feed_10 (by decide) (fun h2 => ?_) (fun h2 => ?_)
  · refine rhF.iconst (pc := 13) (v := (-1)) dX12_feed_13 (by decide) ?_
    exact rhF.zret (pc := 14) dX12_feed_14 rfl rfl rfl
  · refine rhF.iconst (pc := 15) (v := 0) dX12_feed_15 (by decide) ?_
    refine rhF.istore (pc := 16) (L' := [(6, rhI _), (0, rhR _), (1, rhI _), (2, rhI _), (3, rhI _), (4, rhI _), (5, rhI _)]) dX12_feed_16 (by decide) rfl ?_
    refine rhF.sub [1, 2, 3, 4, 5, 6, 0] rfl ?_
    exact (b_X12_feed_18 (b_X12_feed_105) rhFU) _ _ _ _ _ _ _ _
theorem c_X12_feed (E : rhE) (Γ : rhG) (M : rhM) (v0 : Nat) (v1 : Int32) (v2 : Int32) (v3 : Int32) (v4 : Int32) (v5 : Int32) : ∀ a, f_X12_feed Γ M v0 v1 v2 v3 v4 v5 = some a → rhC E 1 yX12_feed cX12_feed 8 (some .int) [rhR v0, rhI v1, rhI v2, rhI v3, rhI v4, rhI v5] Γ M ((rhe1I Γ) a) := rhF.met (by decide +kernel) (Nat.le_of_ble_eq_true rfl) (b_X12_feed M v0 v1 v2 v3 v4 v5)
