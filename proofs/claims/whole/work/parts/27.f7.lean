def f_X12_init_517 : Nat → rhG → rhM → Nat → Int32 → Option (rhG × rhM)
  | 0, _, _, _, _ => none
  | n + 1, Γ, M, v0, v1 =>
    if v1 < 3 then
      (rhck (Γ.2.2.1 v0 = 13) <|
      rhck (Γ.2.2.1 (M.2.2 v0 84) = 15) <|
      rhck (0 ≤ (v1).toInt ∧ (v1).toInt < (Γ.2.2.2 (M.2.2 v0 84) : Nat)) <|
      let M320 := rhsi M (M.2.2 v0 84) (v1 : Int32).toNatClampNeg ((-1))
      let x321 : Int32 := v1 + 1
      f_X12_init_517 n Γ M320 v0 x321)
    else
      some (Γ, M)
def f_X12_init (Γ : rhG) (M : rhM) (v0 : Nat) : Option (rhG × rhM) :=
  rhck (Γ.2.2.1 v0 = 13) <|
  rhck (0 ≤ (1620 : Int32).toInt ∧ (1620 : Int32).toInt ≤ 67108864) <|
  let M4 := rhmn M (nu (Γ.1 + 1))
  let G3 := rhgn Γ 14 (1620 : Int32).toNatClampNeg (1620 : Int32).toNatClampNeg
  rhck (G3.2.2.1 v0 = 13) <|
  let M6 := rhsr M4 v0 0 ((nu (Γ.1 + 1)))
  rhck (0 ≤ (1600 : Int32).toInt ∧ (1600 : Int32).toInt ≤ 67108864) <|
  let M9 := rhmn M6 (nu (G3.1 + 1))
  let G8 := rhgn G3 14 (1600 : Int32).toNatClampNeg (1600 : Int32).toNatClampNeg
  rhck (G8.2.2.1 v0 = 13) <|
  let M11 := rhsr M9 v0 1 ((nu (G3.1 + 1)))
  let M12 := rhsi M11 v0 5 ((-1))
  rhck (0 ≤ (2 : Int32).toInt ∧ (2 : Int32).toInt ≤ 67108864) <|
  let M15 := rhmn M12 (nu (G8.1 + 1))
  let G14 := rhgn G8 15 (2 : Int32).toNatClampNeg (2 : Int32).toNatClampNeg
  rhck (G14.2.2.1 v0 = 13) <|
  let M17 := rhsr M15 v0 11 ((nu (G8.1 + 1)))
  rhck (0 ≤ (2 : Int32).toInt ∧ (2 : Int32).toInt ≤ 67108864) <|
  let M20 := rhmn M17 (nu (G14.1 + 1))
  let G19 := rhgn G14 15 (2 : Int32).toNatClampNeg (2 : Int32).toNatClampNeg
  rhck (G19.2.2.1 v0 = 13) <|
  let M22 := rhsr M20 v0 12 ((nu (G14.1 + 1)))
  rhck (0 ≤ (2 : Int32).toInt ∧ (2 : Int32).toInt ≤ 67108864) <|
  let M25 := rhmn M22 (nu (G19.1 + 1))
  let G24 := rhgn G19 15 (2 : Int32).toNatClampNeg (2 : Int32).toNatClampNeg
  rhck (G24.2.2.1 v0 = 13) <|
  let M27 := rhsr M25 v0 13 ((nu (G19.1 + 1)))
  rhck (0 ≤ (2 : Int32).toInt ∧ (2 : Int32).toInt ≤ 67108864) <|
  let M30 := rhmn M27 (nu (G24.1 + 1))
  let G29 := rhgn G24 15 (2 : Int32).toNatClampNeg (2 : Int32).toNatClampNeg
  rhck (G29.2.2.1 v0 = 13) <|
  let M32 := rhsr M30 v0 14 ((nu (G24.1 + 1)))
  rhck (0 ≤ (2 : Int32).toInt ∧ (2 : Int32).toInt ≤ 67108864) <|
  let M35 := rhmn M32 (nu (G29.1 + 1))
  let G34 := rhgn G29 15 (2 : Int32).toNatClampNeg (2 : Int32).toNatClampNeg
  rhck (G34.2.2.1 v0 = 13) <|
  let M37 := rhsr M35 v0 15 ((nu (G29.1 + 1)))
  rhck (0 ≤ (2 : Int32).toInt ∧ (2 : Int32).toInt ≤ 67108864) <|
  let M40 := rhmn M37 (nu (G34.1 + 1))
  let G39 := rhgn G34 15 (2 : Int32).toNatClampNeg (2 : Int32).toNatClampNeg
  rhck (G39.2.2.1 v0 = 13) <|
  let M42 := rhsr M40 v0 16 ((nu (G34.1 + 1)))
  rhck (0 ≤ (2 : Int32).toInt ∧ (2 : Int32).toInt ≤ 67108864) <|
  let M45 := rhmn M42 (nu (G39.1 + 1))
  let G44 := rhgn G39 15 (2 : Int32).toNatClampNeg (2 : Int32).toNatClampNeg
  rhck (G44.2.2.1 v0 = 13) <|
  let M47 := rhsr M45 v0 17 ((nu (G39.1 + 1)))
  rhck (0 ≤ (10 : Int32).toInt ∧ (10 : Int32).toInt ≤ 67108864) <|
  let M50 := rhmn M47 (nu (G44.1 + 1))
  let G49 := rhgn G44 15 (10 : Int32).toNatClampNeg (10 : Int32).toNatClampNeg
  rhck (G49.2.2.1 v0 = 13) <|
  let M52 := rhsr M50 v0 18 ((nu (G44.1 + 1)))
  rhck (0 ≤ (16 : Int32).toInt ∧ (16 : Int32).toInt ≤ 67108864) <|
  let M55 := rhmn M52 (nu (G49.1 + 1))
  let G54 := rhgn G49 15 (16 : Int32).toNatClampNeg (16 : Int32).toNatClampNeg
  rhck (G54.2.2.1 v0 = 13) <|
  let M57 := rhsr M55 v0 19 ((nu (G49.1 + 1)))
  rhck (0 ≤ (16 : Int32).toInt ∧ (16 : Int32).toInt ≤ 67108864) <|
  let M60 := rhmn M57 (nu (G54.1 + 1))
  let G59 := rhgn G54 15 (16 : Int32).toNatClampNeg (16 : Int32).toNatClampNeg
  rhck (G59.2.2.1 v0 = 13) <|
  let M62 := rhsr M60 v0 20 ((nu (G54.1 + 1)))
  rhck (0 ≤ (16 : Int32).toInt ∧ (16 : Int32).toInt ≤ 67108864) <|
  let M65 := rhmn M62 (nu (G59.1 + 1))
  let G64 := rhgn G59 15 (16 : Int32).toNatClampNeg (16 : Int32).toNatClampNeg
  rhck (G64.2.2.1 v0 = 13) <|
  let M67 := rhsr M65 v0 21 ((nu (G59.1 + 1)))
  rhck (0 ≤ (128 : Int32).toInt ∧ (128 : Int32).toInt ≤ 67108864) <|
  let M70 := rhmn M67 (nu (G64.1 + 1))
  let G69 := rhgn G64 15 (128 : Int32).toNatClampNeg (128 : Int32).toNatClampNeg
  rhck (G69.2.2.1 v0 = 13) <|
  let M72 := rhsr M70 v0 22 ((nu (G64.1 + 1)))
  rhck (0 ≤ (2 : Int32).toInt ∧ (2 : Int32).toInt ≤ 67108864) <|
  let M75 := rhmn M72 (nu (G69.1 + 1))
  let G74 := rhgn G69 17 (2 : Int32).toNatClampNeg (2 : Int32).toNatClampNeg
  rhck (G74.2.2.1 v0 = 13) <|
  let M77 := rhsr M75 v0 23 ((nu (G69.1 + 1)))
  rhck (0 ≤ (2 : Int32).toInt ∧ (2 : Int32).toInt ≤ 67108864) <|
  let M80 := rhmn M77 (nu (G74.1 + 1))
  let G79 := rhgn G74 17 (2 : Int32).toNatClampNeg (2 : Int32).toNatClampNeg
  rhck (G79.2.2.1 v0 = 13) <|
  let M82 := rhsr M80 v0 24 ((nu (G74.1 + 1)))
  rhck (0 ≤ (2 : Int32).toInt ∧ (2 : Int32).toInt ≤ 67108864) <|
  let M85 := rhmn M82 (nu (G79.1 + 1))
  let G84 := rhgn G79 17 (2 : Int32).toNatClampNeg (2 : Int32).toNatClampNeg
  rhck (G84.2.2.1 v0 = 13) <|
  let M87 := rhsr M85 v0 25 ((nu (G79.1 + 1)))
  rhck (0 ≤ (128 : Int32).toInt ∧ (128 : Int32).toInt ≤ 67108864) <|
  let M90 := rhmn M87 (nu (G84.1 + 1))
  let G89 := rhgn G84 17 (128 : Int32).toNatClampNeg (128 : Int32).toNatClampNeg
  rhck (G89.2.2.1 v0 = 13) <|
  let M92 := rhsr M90 v0 26 ((nu (G84.1 + 1)))
  rhck (0 ≤ (10 : Int32).toInt ∧ (10 : Int32).toInt ≤ 67108864) <|
  let M95 := rhmn M92 (nu (G89.1 + 1))
  let G94 := rhgn G89 16 (10 : Int32).toNatClampNeg (10 : Int32).toNatClampNeg
  rhck (G94.2.2.1 v0 = 13) <|
  let M97 := rhsr M95 v0 27 ((nu (G89.1 + 1)))
  rhck (0 ≤ (16 : Int32).toInt ∧ (16 : Int32).toInt ≤ 67108864) <|
  let M100 := rhmn M97 (nu (G94.1 + 1))
  let G99 := rhgn G94 16 (16 : Int32).toNatClampNeg (16 : Int32).toNatClampNeg
  rhck (G99.2.2.1 v0 = 13) <|
  let M102 := rhsr M100 v0 28 ((nu (G94.1 + 1)))
  rhck (0 ≤ (1000 : Int32).toInt ∧ (1000 : Int32).toInt ≤ 67108864) <|
  let M105 := rhmn M102 (nu (G99.1 + 1))
  let G104 := rhgn G99 15 (1000 : Int32).toNatClampNeg (1000 : Int32).toNatClampNeg
  rhck (G104.2.2.1 v0 = 13) <|
  let M107 := rhsr M105 v0 29 ((nu (G99.1 + 1)))
  rhck (0 ≤ (1000 : Int32).toInt ∧ (1000 : Int32).toInt ≤ 67108864) <|
  let M110 := rhmn M107 (nu (G104.1 + 1))
  let G109 := rhgn G104 15 (1000 : Int32).toNatClampNeg (1000 : Int32).toNatClampNeg
  rhck (G109.2.2.1 v0 = 13) <|
  let M112 := rhsr M110 v0 30 ((nu (G104.1 + 1)))
  rhck (0 ≤ (90 : Int32).toInt ∧ (90 : Int32).toInt ≤ 67108864) <|
  let M115 := rhmn M112 (nu (G109.1 + 1))
  let G114 := rhgn G109 15 (90 : Int32).toNatClampNeg (90 : Int32).toNatClampNeg
  rhck (G114.2.2.1 v0 = 13) <|
  let M117 := rhsr M115 v0 31 ((nu (G109.1 + 1)))
  rhck (0 ≤ (90 : Int32).toInt ∧ (90 : Int32).toInt ≤ 67108864) <|
  let M120 := rhmn M117 (nu (G114.1 + 1))
  let G119 := rhgn G114 15 (90 : Int32).toNatClampNeg (90 : Int32).toNatClampNeg
  rhck (G119.2.2.1 v0 = 13) <|
  let M122 := rhsr M120 v0 32 ((nu (G114.1 + 1)))
  rhck (0 ≤ (70 : Int32).toInt ∧ (70 : Int32).toInt ≤ 67108864) <|
  let M125 := rhmn M122 (nu (G119.1 + 1))
  let G124 := rhgn G119 15 (70 : Int32).toNatClampNeg (70 : Int32).toNatClampNeg
  rhck (G124.2.2.1 v0 = 13) <|
  let M127 := rhsr M125 v0 33 ((nu (G119.1 + 1)))
  rhck (0 ≤ (8 : Int32).toInt ∧ (8 : Int32).toInt ≤ 67108864) <|
  let M130 := rhmn M127 (nu (G124.1 + 1))
  let G129 := rhgn G124 15 (8 : Int32).toNatClampNeg (8 : Int32).toNatClampNeg
  rhck (G129.2.2.1 v0 = 13) <|
  let M132 := rhsr M130 v0 39 ((nu (G124.1 + 1)))
  rhck (0 ≤ (6 : Int32).toInt ∧ (6 : Int32).toInt ≤ 67108864) <|
  let M135 := rhmn M132 (nu (G129.1 + 1))
  let G134 := rhgn G129 15 (6 : Int32).toNatClampNeg (6 : Int32).toNatClampNeg
  rhck (G134.2.2.1 v0 = 13) <|
  let M137 := rhsr M135 v0 40 ((nu (G129.1 + 1)))
  rhck (0 ≤ (8 : Int32).toInt ∧ (8 : Int32).toInt ≤ 67108864) <|
  let M140 := rhmn M137 (nu (G134.1 + 1))
  let G139 := rhgn G134 15 (8 : Int32).toNatClampNeg (8 : Int32).toNatClampNeg
  rhck (G139.2.2.1 v0 = 13) <|
  let M142 := rhsr M140 v0 41 ((nu (G134.1 + 1)))
  rhck (0 ≤ (8 : Int32).toInt ∧ (8 : Int32).toInt ≤ 67108864) <|
  let M145 := rhmn M142 (nu (G139.1 + 1))
  let G144 := rhgn G139 15 (8 : Int32).toNatClampNeg (8 : Int32).toNatClampNeg
  rhck (G144.2.2.1 v0 = 13) <|
  let M147 := rhsr M145 v0 42 ((nu (G139.1 + 1)))
  rhck (0 ≤ (6 : Int32).toInt ∧ (6 : Int32).toInt ≤ 67108864) <|
  let M150 := rhmn M147 (nu (G144.1 + 1))
  let G149 := rhgn G144 15 (6 : Int32).toNatClampNeg (6 : Int32).toNatClampNeg
  rhck (G149.2.2.1 v0 = 13) <|
  let M152 := rhsr M150 v0 43 ((nu (G144.1 + 1)))
  let M153 := rhsi M152 v0 44 ((-1))
  rhck (0 ≤ (300 : Int32).toInt ∧ (300 : Int32).toInt ≤ 67108864) <|
  let M156 := rhmn M153 (nu (G149.1 + 1))
  let G155 := rhgn G149 15 (300 : Int32).toNatClampNeg (300 : Int32).toNatClampNeg
  rhck (G155.2.2.1 v0 = 13) <|
  let M158 := rhsr M156 v0 46 ((nu (G149.1 + 1)))
  rhck (0 ≤ (300 : Int32).toInt ∧ (300 : Int32).toInt ≤ 67108864) <|
  let M161 := rhmn M158 (nu (G155.1 + 1))
  let G160 := rhgn G155 15 (300 : Int32).toNatClampNeg (300 : Int32).toNatClampNeg
  rhck (G160.2.2.1 v0 = 13) <|
  let M163 := rhsr M161 v0 47 ((nu (G155.1 + 1)))
  rhck (0 ≤ (12 : Int32).toInt ∧ (12 : Int32).toInt ≤ 67108864) <|
  let M166 := rhmn M163 (nu (G160.1 + 1))
  let G165 := rhgn G160 15 (12 : Int32).toNatClampNeg (12 : Int32).toNatClampNeg
  rhck (G165.2.2.1 v0 = 13) <|
  let M168 := rhsr M166 v0 50 ((nu (G160.1 + 1)))
  rhck (0 ≤ (8 : Int32).toInt ∧ (8 : Int32).toInt ≤ 67108864) <|
  let M171 := rhmn M168 (nu (G165.1 + 1))
  let G170 := rhgn G165 15 (8 : Int32).toNatClampNeg (8 : Int32).toNatClampNeg
  rhck (G170.2.2.1 v0 = 13) <|
  let M173 := rhsr M171 v0 52 ((nu (G165.1 + 1)))
  rhck (0 ≤ (246960 : Int32).toInt ∧ (246960 : Int32).toInt ≤ 67108864) <|
  let M176 := rhmn M173 (nu (G170.1 + 1))
  let G175 := rhgn G170 15 (246960 : Int32).toNatClampNeg (246960 : Int32).toNatClampNeg
  rhck (G175.2.2.1 v0 = 13) <|
  let M178 := rhsr M176 v0 54 ((nu (G170.1 + 1)))
  rhck (0 ≤ (246960 : Int32).toInt ∧ (246960 : Int32).toInt ≤ 67108864) <|
  let M181 := rhmn M178 (nu (G175.1 + 1))
  let G180 := rhgn G175 15 (246960 : Int32).toNatClampNeg (246960 : Int32).toNatClampNeg
  rhck (G180.2.2.1 v0 = 13) <|
  let M183 := rhsr M181 v0 55 ((nu (G175.1 + 1)))
  rhck (0 ≤ (246960 : Int32).toInt ∧ (246960 : Int32).toInt ≤ 67108864) <|
  let M186 := rhmn M183 (nu (G180.1 + 1))
  let G185 := rhgn G180 15 (246960 : Int32).toNatClampNeg (246960 : Int32).toNatClampNeg
  rhck (G185.2.2.1 v0 = 13) <|
  let M188 := rhsr M186 v0 56 ((nu (G180.1 + 1)))
  rhck (0 ≤ (246960 : Int32).toInt ∧ (246960 : Int32).toInt ≤ 67108864) <|
  let M191 := rhmn M188 (nu (G185.1 + 1))
  let G190 := rhgn G185 15 (246960 : Int32).toNatClampNeg (246960 : Int32).toNatClampNeg
  rhck (G190.2.2.1 v0 = 13) <|
  let M193 := rhsr M191 v0 57 ((nu (G185.1 + 1)))
  rhck (0 ≤ (61000 : Int32).toInt ∧ (61000 : Int32).toInt ≤ 67108864) <|
  let M196 := rhmn M193 (nu (G190.1 + 1))
  let G195 := rhgn G190 15 (61000 : Int32).toNatClampNeg (61000 : Int32).toNatClampNeg
  rhck (G195.2.2.1 v0 = 13) <|
  let M198 := rhsr M196 v0 58 ((nu (G190.1 + 1)))
  rhck (0 ≤ (246960 : Int32).toInt ∧ (246960 : Int32).toInt ≤ 67108864) <|
  let M201 := rhmn M198 (nu (G195.1 + 1))
  let G200 := rhgn G195 17 (246960 : Int32).toNatClampNeg (246960 : Int32).toNatClampNeg
  rhck (G200.2.2.1 v0 = 13) <|
  let M203 := rhsr M201 v0 59 ((nu (G195.1 + 1)))
  rhck (0 ≤ (8 : Int32).toInt ∧ (8 : Int32).toInt ≤ 67108864) <|
  let M206 := rhmn M203 (nu (G200.1 + 1))
  let G205 := rhgn G200 15 (8 : Int32).toNatClampNeg (8 : Int32).toNatClampNeg
  rhck (G205.2.2.1 v0 = 13) <|
  let M208 := rhsr M206 v0 63 ((nu (G200.1 + 1)))
  rhck (0 ≤ (6 : Int32).toInt ∧ (6 : Int32).toInt ≤ 67108864) <|
  let M211 := rhmn M208 (nu (G205.1 + 1))
  let G210 := rhgn G205 15 (6 : Int32).toNatClampNeg (6 : Int32).toNatClampNeg
  rhck (G210.2.2.1 v0 = 13) <|
  let M213 := rhsr M211 v0 64 ((nu (G205.1 + 1)))
  rhck (0 ≤ (61000 : Int32).toInt ∧ (61000 : Int32).toInt ≤ 67108864) <|
  let M216 := rhmn M213 (nu (G210.1 + 1))
  let G215 := rhgn G210 15 (61000 : Int32).toNatClampNeg (61000 : Int32).toNatClampNeg
  rhck (G215.2.2.1 v0 = 13) <|
  let M218 := rhsr M216 v0 65 ((nu (G210.1 + 1)))
  rhck (0 ≤ (61000 : Int32).toInt ∧ (61000 : Int32).toInt ≤ 67108864) <|
  let M221 := rhmn M218 (nu (G215.1 + 1))
  let G220 := rhgn G215 15 (61000 : Int32).toNatClampNeg (61000 : Int32).toNatClampNeg
  rhck (G220.2.2.1 v0 = 13) <|
  let M223 := rhsr M221 v0 67 ((nu (G215.1 + 1)))
  rhck (0 ≤ (246960 : Int32).toInt ∧ (246960 : Int32).toInt ≤ 67108864) <|
  let M226 := rhmn M223 (nu (G220.1 + 1))
  let G225 := rhgn G220 15 (246960 : Int32).toNatClampNeg (246960 : Int32).toNatClampNeg
  rhck (G225.2.2.1 v0 = 13) <|
  let M228 := rhsr M226 v0 68 ((nu (G220.1 + 1)))
  rhck (0 ≤ (61000 : Int32).toInt ∧ (61000 : Int32).toInt ≤ 67108864) <|
  let M231 := rhmn M228 (nu (G225.1 + 1))
  let G230 := rhgn G225 15 (61000 : Int32).toNatClampNeg (61000 : Int32).toNatClampNeg
  rhck (G230.2.2.1 v0 = 13) <|
  let M233 := rhsr M231 v0 69 ((nu (G225.1 + 1)))
  rhck (0 ≤ (20 : Int32).toInt ∧ (20 : Int32).toInt ≤ 67108864) <|
  let M236 := rhmn M233 (nu (G230.1 + 1))
  let G235 := rhgn G230 15 (20 : Int32).toNatClampNeg (20 : Int32).toNatClampNeg
  rhck (G235.2.2.1 v0 = 13) <|
  let M238 := rhsr M236 v0 72 ((nu (G230.1 + 1)))
  rhck (0 ≤ (20 : Int32).toInt ∧ (20 : Int32).toInt ≤ 67108864) <|
  let M241 := rhmn M238 (nu (G235.1 + 1))
  let G240 := rhgn G235 15 (20 : Int32).toNatClampNeg (20 : Int32).toNatClampNeg
  rhck (G240.2.2.1 v0 = 13) <|
  let M243 := rhsr M241 v0 73 ((nu (G235.1 + 1)))
  rhck (0 ≤ (20 : Int32).toInt ∧ (20 : Int32).toInt ≤ 67108864) <|
  let M246 := rhmn M243 (nu (G240.1 + 1))
  let G245 := rhgn G240 15 (20 : Int32).toNatClampNeg (20 : Int32).toNatClampNeg
  rhck (G245.2.2.1 v0 = 13) <|
  let M248 := rhsr M246 v0 74 ((nu (G240.1 + 1)))
  rhck (0 ≤ (20 : Int32).toInt ∧ (20 : Int32).toInt ≤ 67108864) <|
  let M251 := rhmn M248 (nu (G245.1 + 1))
  let G250 := rhgn G245 15 (20 : Int32).toNatClampNeg (20 : Int32).toNatClampNeg
  rhck (G250.2.2.1 v0 = 13) <|
  let M253 := rhsr M251 v0 75 ((nu (G245.1 + 1)))
  rhck (0 ≤ (20 : Int32).toInt ∧ (20 : Int32).toInt ≤ 67108864) <|
  let M256 := rhmn M253 (nu (G250.1 + 1))
  let G255 := rhgn G250 15 (20 : Int32).toNatClampNeg (20 : Int32).toNatClampNeg
  rhck (G255.2.2.1 v0 = 13) <|
  let M258 := rhsr M256 v0 76 ((nu (G250.1 + 1)))
  rhck (0 ≤ (8 : Int32).toInt ∧ (8 : Int32).toInt ≤ 67108864) <|
  let M261 := rhmn M258 (nu (G255.1 + 1))
  let G260 := rhgn G255 15 (8 : Int32).toNatClampNeg (8 : Int32).toNatClampNeg
  rhck (G260.2.2.1 v0 = 13) <|
  let M263 := rhsr M261 v0 77 ((nu (G255.1 + 1)))
  rhck (0 ≤ (32 : Int32).toInt ∧ (32 : Int32).toInt ≤ 67108864) <|
  let M266 := rhmn M263 (nu (G260.1 + 1))
  let G265 := rhgn G260 15 (32 : Int32).toNatClampNeg (32 : Int32).toNatClampNeg
  rhck (G265.2.2.1 v0 = 13) <|
  let M268 := rhsr M266 v0 78 ((nu (G260.1 + 1)))
  rhck (0 ≤ (24 : Int32).toInt ∧ (24 : Int32).toInt ≤ 67108864) <|
  let M271 := rhmn M268 (nu (G265.1 + 1))
  let G270 := rhgn G265 15 (24 : Int32).toNatClampNeg (24 : Int32).toNatClampNeg
  rhck (G270.2.2.1 v0 = 13) <|
  let M273 := rhsr M271 v0 79 ((nu (G265.1 + 1)))
  rhck (0 ≤ (4 : Int32).toInt ∧ (4 : Int32).toInt ≤ 67108864) <|
  let M276 := rhmn M273 (nu (G270.1 + 1))
  let G275 := rhgn G270 15 (4 : Int32).toNatClampNeg (4 : Int32).toNatClampNeg
  rhck (G275.2.2.1 v0 = 13) <|
  let M278 := rhsr M276 v0 80 ((nu (G270.1 + 1)))
  rhck (0 ≤ (20 : Int32).toInt ∧ (20 : Int32).toInt ≤ 67108864) <|
  let M281 := rhmn M278 (nu (G275.1 + 1))
  let G280 := rhgn G275 17 (20 : Int32).toNatClampNeg (20 : Int32).toNatClampNeg
  rhck (G280.2.2.1 v0 = 13) <|
  let M283 := rhsr M281 v0 81 ((nu (G275.1 + 1)))
  rhck (0 ≤ (3 : Int32).toInt ∧ (3 : Int32).toInt ≤ 67108864) <|
  let M286 := rhmn M283 (nu (G280.1 + 1))
  let G285 := rhgn G280 15 (3 : Int32).toNatClampNeg (3 : Int32).toNatClampNeg
  rhck (G285.2.2.1 v0 = 13) <|
  let M288 := rhsr M286 v0 84 ((nu (G280.1 + 1)))
  rhck (0 ≤ (3 : Int32).toInt ∧ (3 : Int32).toInt ≤ 67108864) <|
  let M291 := rhmn M288 (nu (G285.1 + 1))
  let G290 := rhgn G285 15 (3 : Int32).toNatClampNeg (3 : Int32).toNatClampNeg
  rhck (G290.2.2.1 v0 = 13) <|
  let M293 := rhsr M291 v0 85 ((nu (G285.1 + 1)))
  rhck (0 ≤ (24 : Int32).toInt ∧ (24 : Int32).toInt ≤ 67108864) <|
  let M296 := rhmn M293 (nu (G290.1 + 1))
  let G295 := rhgn G290 15 (24 : Int32).toNatClampNeg (24 : Int32).toNatClampNeg
  rhck (G295.2.2.1 v0 = 13) <|
  let M298 := rhsr M296 v0 86 ((nu (G290.1 + 1)))
  rhck (0 ≤ (18 : Int32).toInt ∧ (18 : Int32).toInt ≤ 67108864) <|
  let M301 := rhmn M298 (nu (G295.1 + 1))
  let G300 := rhgn G295 15 (18 : Int32).toNatClampNeg (18 : Int32).toNatClampNeg
  rhck (G300.2.2.1 v0 = 13) <|
  let M303 := rhsr M301 v0 87 ((nu (G295.1 + 1)))
  rhck (0 ≤ (900 : Int32).toInt ∧ (900 : Int32).toInt ≤ 67108864) <|
  let M306 := rhmn M303 (nu (G300.1 + 1))
  let G305 := rhgn G300 15 (900 : Int32).toNatClampNeg (900 : Int32).toNatClampNeg
  rhck (G305.2.2.1 v0 = 13) <|
  let M308 := rhsr M306 v0 88 ((nu (G300.1 + 1)))
  rhck (0 ≤ (900 : Int32).toInt ∧ (900 : Int32).toInt ≤ 67108864) <|
  let M311 := rhmn M308 (nu (G305.1 + 1))
  let G310 := rhgn G305 15 (900 : Int32).toNatClampNeg (900 : Int32).toNatClampNeg
  rhck (G310.2.2.1 v0 = 13) <|
  let M313 := rhsr M311 v0 89 ((nu (G305.1 + 1)))
  (f_X12_clearBank G310 M313 v0).bind fun r314 =>
  (f_X12_begin G310 r314 v0).bind fun r315 =>
  f_X12_init_517 rhFU G310 r315 v0 0
set_option maxHeartbeats 4000000 in
set_option maxRecDepth 100000 in
theorem b_X12_init_517 {E : rhE} {Γ0 : rhG} : ∀ (n : Nat) (Γ : rhG) (M : rhM) (v0 : Nat) (v1 : Int32), rhF E 7 2 yX12_init cX12_init none Γ0 rhe2U (f_X12_init_517 n Γ M v0 v1) 517 [(0, rhR v0), (1, rhI v1)] [] Γ M := by
  intro n
  induction n with
  | zero => intro Γ M v0 v1; rw [f_X12_init_517]; exact rhF.nope
  | succ n ih =>
    intro Γ M v0 v1
    rw [f_X12_init_517]
    refine rhF.iload_n (pc := 517) dX12_init_517 1 rfl ?_
    refine rhF.iconst (pc := 518) (v := 3) dX12_init_518 (by decide) ?_
    refine rhF.icmp_ge (pc := 519) 535 dX12_init_519 (by decide) (fun h316 => ?_) (fun h316 => ?_)
    · refine rhF.aload_n (pc := 522) dX12_init_522 0 rfl ?_
      refine rhF.ck (fun h317 => ?_)
      refine rhF.get (pc := 523) (rhR _) dX12_init_523 fl_X12_190 h317 rfl ?_
      refine rhF.iload_n (pc := 526) dX12_init_526 1 rfl ?_
      refine rhF.iconst (pc := 527) (v := (-1)) dX12_init_527 (by decide) ?_
      refine rhF.ck (fun h318 => ?_)
      refine rhF.ck (fun h319 => ?_)
      refine rhF.iast (pc := 528) dX12_init_528 h318 h319 ?_
      refine rhF.iinc (pc := 529) (L' := [(1, rhI _), (0, rhR _)]) dX12_init_529 1 rfl rfl (by decide) rfl ?_
      refine rhF.goto (pc := 532) 517 dX12_init_532 (by decide) ?_
      refine rhF.sub [1, 0] rfl ?_
      exact ih _ _ _ _
    · exact rhF.vret (pc := 535) dX12_init_535 rfl rfl
set_option maxHeartbeats 4000000 in
set_option maxRecDepth 100000 in
theorem b_X12_init {E : rhE} {Γ0 : rhG} : ∀ (Γ : rhG) (M : rhM) (v0 : Nat), rhF E 7 2 yX12_init cX12_init none Γ0 rhe2U (f_X12_init Γ M v0) 0 [(0, rhR v0)] [] Γ M := by
  intro Γ M v0
  rw [f_X12_init]
  refine rhF.aload_n (pc := 0) dX12_init_0 0 rfl ?_
  refine rhF.ck (fun h1 => ?_)
  refine rhF.objInit (pc := 1) dX12_init_1 oi_X12_1 (fun z => absurd (h1.symm.trans z) (by decide)) (by decide) (Nat.le_of_ble_eq_true rfl) ?_
  refine rhF.aload_n (pc := 4) dX12_init_4 0 rfl ?_
  refine rhF.sipush (pc := 5) (v := 1620) dX12_init_5 (by decide) ?_
  refine rhF.ck (fun h2 => ?_)
  refine rhF.newB (pc := 8) dX12_init_8 ac_byte h2 ?_
  refine rhF.ck (fun h5 => ?_)
  refine rhF.putr (pc := 10) dX12_init_10 fl_X12_7 h5 (fun q hq => by cases hq; exact Or.inr ⟨rfl, rfl, rfl⟩) (Or.inr ⟨_, rfl⟩) (fun _ => rfl) ?_
  refine rhF.aload_n (pc := 13) dX12_init_13 0 rfl ?_
  refine rhF.sipush (pc := 14) (v := 1600) dX12_init_14 (by decide) ?_
  refine rhF.ck (fun h7 => ?_)
  refine rhF.newB (pc := 17) dX12_init_17 ac_byte h7 ?_
  refine rhF.ck (fun h10 => ?_)
  refine rhF.putr (pc := 19) dX12_init_19 fl_X12_13 h10 (fun q hq => by cases hq; exact Or.inr ⟨rfl, rfl, rfl⟩) (Or.inr ⟨_, rfl⟩) (fun _ => rfl) ?_
  refine rhF.aload_n (pc := 22) dX12_init_22 0 rfl ?_
  refine rhF.iconst (pc := 23) (v := (-1)) dX12_init_23 (by decide) ?_
  refine rhF.puti (pc := 24) dX12_init_24 fl_X12_16 h10 (fun q hq => by cases hq; exact Or.inl rfl) ⟨rfl, rfl⟩ (fun _ => rfl) ?_
  refine rhF.aload_n (pc := 27) dX12_init_27 0 rfl ?_
  refine rhF.iconst (pc := 28) (v := 2) dX12_init_28 (by decide) ?_
  refine rhF.ck (fun h13 => ?_)
  refine rhF.newI (pc := 29) dX12_init_29 ac_int h13 ?_
  refine rhF.ck (fun h16 => ?_)
  refine rhF.putr (pc := 31) dX12_init_31 fl_X12_20 h16 (fun q hq => by cases hq; exact Or.inr ⟨rfl, rfl, rfl⟩) (Or.inr ⟨_, rfl⟩) (fun _ => rfl) ?_
  refine rhF.aload_n (pc := 34) dX12_init_34 0 rfl ?_
  refine rhF.iconst (pc := 35) (v := 2) dX12_init_35 (by decide) ?_
  refine rhF.ck (fun h18 => ?_)
  refine rhF.newI (pc := 36) dX12_init_36 ac_int h18 ?_
  refine rhF.ck (fun h21 => ?_)
  refine rhF.putr (pc := 38) dX12_init_38 fl_X12_24 h21 (fun q hq => by cases hq; exact Or.inr ⟨rfl, rfl, rfl⟩) (Or.inr ⟨_, rfl⟩) (fun _ => rfl) ?_
  refine rhF.aload_n (pc := 41) dX12_init_41 0 rfl ?_
  refine rhF.iconst (pc := 42) (v := 2) dX12_init_42 (by decide) ?_
  refine rhF.ck (fun h23 => ?_)
  refine rhF.newI (pc := 43) dX12_init_43 ac_int h23 ?_
  refine rhF.ck (fun h26 => ?_)
  refine rhF.putr (pc := 45) dX12_init_45 fl_X12_27 h26 (fun q hq => by cases hq; exact Or.inr ⟨rfl, rfl, rfl⟩) (Or.inr ⟨_, rfl⟩) (fun _ => rfl) ?_
  refine rhF.aload_n (pc := 48) dX12_init_48 0 rfl ?_
  refine rhF.iconst (pc := 49) (v := 2) dX12_init_49 (by decide) ?_
  refine rhF.ck (fun h28 => ?_)
  refine rhF.newI (pc := 50) dX12_init_50 ac_int h28 ?_
  refine rhF.ck (fun h31 => ?_)
  refine rhF.putr (pc := 52) dX12_init_52 fl_X12_30 h31 (fun q hq => by cases hq; exact Or.inr ⟨rfl, rfl, rfl⟩) (Or.inr ⟨_, rfl⟩) (fun _ => rfl) ?_
  refine rhF.aload_n (pc := 55) dX12_init_55 0 rfl ?_
  refine rhF.iconst (pc := 56) (v := 2) dX12_init_56 (by decide) ?_
  refine rhF.ck (fun h33 => ?_)
  refine rhF.newI (pc := 57) dX12_init_57 ac_int h33 ?_
  refine rhF.ck (fun h36 => ?_)
  refine rhF.putr (pc := 59) dX12_init_59 fl_X12_33 h36 (fun q hq => by cases hq; exact Or.inr ⟨rfl, rfl, rfl⟩) (Or.inr ⟨_, rfl⟩) (fun _ => rfl) ?_
  refine rhF.aload_n (pc := 62) dX12_init_62 0 rfl ?_
  refine rhF.iconst (pc := 63) (v := 2) dX12_init_63 (by decide) ?_
  refine rhF.ck (fun h38 => ?_)
  refine rhF.newI (pc := 64) dX12_init_64 ac_int h38 ?_
  refine rhF.ck (fun h41 => ?_)
  refine rhF.putr (pc := 66) dX12_init_66 fl_X12_36 h41 (fun q hq => by cases hq; exact Or.inr ⟨rfl, rfl, rfl⟩) (Or.inr ⟨_, rfl⟩) (fun _ => rfl) ?_
  refine rhF.aload_n (pc := 69) dX12_init_69 0 rfl ?_
  refine rhF.iconst (pc := 70) (v := 2) dX12_init_70 (by decide) ?_
  refine rhF.ck (fun h43 => ?_)
  refine rhF.newI (pc := 71) dX12_init_71 ac_int h43 ?_
  refine rhF.ck (fun h46 => ?_)
  refine rhF.putr (pc := 73) dX12_init_73 fl_X12_39 h46 (fun q hq => by cases hq; exact Or.inr ⟨rfl, rfl, rfl⟩) (Or.inr ⟨_, rfl⟩) (fun _ => rfl) ?_
  refine rhF.aload_n (pc := 76) dX12_init_76 0 rfl ?_
  refine rhF.bipush (pc := 77) (v := 10) dX12_init_77 (by decide) ?_
  refine rhF.ck (fun h48 => ?_)
  refine rhF.newI (pc := 79) dX12_init_79 ac_int h48 ?_
  refine rhF.ck (fun h51 => ?_)
  refine rhF.putr (pc := 81) dX12_init_81 fl_X12_42 h51 (fun q hq => by cases hq; exact Or.inr ⟨rfl, rfl, rfl⟩) (Or.inr ⟨_, rfl⟩) (fun _ => rfl) ?_
  refine rhF.aload_n (pc := 84) dX12_init_84 0 rfl ?_
  refine rhF.bipush (pc := 85) (v := 16) dX12_init_85 (by decide) ?_
  refine rhF.ck (fun h53 => ?_)
  refine rhF.newI (pc := 87) dX12_init_87 ac_int h53 ?_
  refine rhF.ck (fun h56 => ?_)
  refine rhF.putr (pc := 89) dX12_init_89 fl_X12_45 h56 (fun q hq => by cases hq; exact Or.inr ⟨rfl, rfl, rfl⟩) (Or.inr ⟨_, rfl⟩) (fun _ => rfl) ?_
  refine rhF.aload_n (pc := 92) dX12_init_92 0 rfl ?_
  refine rhF.bipush (pc := 93) (v := 16) dX12_init_93 (by decide) ?_
  refine rhF.ck (fun h58 => ?_)
  refine rhF.newI (pc := 95) dX12_init_95 ac_int h58 ?_
  refine rhF.ck (fun h61 => ?_)
  refine rhF.putr (pc := 97) dX12_init_97 fl_X12_48 h61 (fun q hq => by cases hq; exact Or.inr ⟨rfl, rfl, rfl⟩) (Or.inr ⟨_, rfl⟩) (fun _ => rfl) ?_
  refine rhF.aload_n (pc := 100) dX12_init_100 0 rfl ?_
  refine rhF.bipush (pc := 101) (v := 16) dX12_init_101 (by decide) ?_
  refine rhF.ck (fun h63 => ?_)
  refine rhF.newI (pc := 103) dX12_init_103 ac_int h63 ?_
  refine rhF.ck (fun h66 => ?_)
  refine rhF.putr (pc := 105) dX12_init_105 fl_X12_51 h66 (fun q hq => by cases hq; exact Or.inr ⟨rfl, rfl, rfl⟩) (Or.inr ⟨_, rfl⟩) (fun _ => rfl) ?_
  refine rhF.aload_n (pc := 108) dX12_init_108 0 rfl ?_
  refine rhF.sipush (pc := 109) (v := 128) dX12_init_109 (by decide) ?_
  refine rhF.ck (fun h68 => ?_)
  refine rhF.newI (pc := 112) dX12_init_112 ac_int h68 ?_
  refine rhF.ck (fun h71 => ?_)
  refine rhF.putr (pc := 114) dX12_init_114 fl_X12_54 h71 (fun q hq => by cases hq; exact Or.inr ⟨rfl, rfl, rfl⟩) (Or.inr ⟨_, rfl⟩) (fun _ => rfl) ?_
  refine rhF.aload_n (pc := 117) dX12_init_117 0 rfl ?_
  refine rhF.iconst (pc := 118) (v := 2) dX12_init_118 (by decide) ?_
  refine rhF.ck (fun h73 => ?_)
  refine rhF.newZ (pc := 119) dX12_init_119 ac_boolean h73 ?_
  refine rhF.ck (fun h76 => ?_)
  refine rhF.putr (pc := 121) dX12_init_121 fl_X12_57 h76 (fun q hq => by cases hq; exact Or.inr ⟨rfl, rfl, rfl⟩) (Or.inr ⟨_, rfl⟩) (fun _ => rfl) ?_
  refine rhF.aload_n (pc := 124) dX12_init_124 0 rfl ?_
  refine rhF.iconst (pc := 125) (v := 2) dX12_init_125 (by decide) ?_
  refine rhF.ck (fun h78 => ?_)
  refine rhF.newZ (pc := 126) dX12_init_126 ac_boolean h78 ?_
  refine rhF.ck (fun h81 => ?_)
  refine rhF.putr (pc := 128) dX12_init_128 fl_X12_61 h81 (fun q hq => by cases hq; exact Or.inr ⟨rfl, rfl, rfl⟩) (Or.inr ⟨_, rfl⟩) (fun _ => rfl) ?_
  refine rhF.aload_n (pc := 131) dX12_init_131 0 rfl ?_
  refine rhF.iconst (pc := 132) (v := 2) dX12_init_132 (by decide) ?_
  refine rhF.ck (fun h83 => ?_)
  refine rhF.newZ (pc := 133) dX12_init_133 ac_boolean h83 ?_
  refine rhF.ck (fun h86 => ?_)
  refine rhF.putr (pc := 135) dX12_init_135 fl_X12_64 h86 (fun q hq => by cases hq; exact Or.inr ⟨rfl, rfl, rfl⟩) (Or.inr ⟨_, rfl⟩) (fun _ => rfl) ?_
  refine rhF.aload_n (pc := 138) dX12_init_138 0 rfl ?_
  refine rhF.sipush (pc := 139) (v := 128) dX12_init_139 (by decide) ?_
  refine rhF.ck (fun h88 => ?_)
  refine rhF.newZ (pc := 142) dX12_init_142 ac_boolean h88 ?_
  refine rhF.ck (fun h91 => ?_)
  refine rhF.putr (pc := 144) dX12_init_144 fl_X12_67 h91 (fun q hq => by cases hq; exact Or.inr ⟨rfl, rfl, rfl⟩) (Or.inr ⟨_, rfl⟩) (fun _ => rfl) ?_
  refine rhF.aload_n (pc := 147) dX12_init_147 0 rfl ?_
  refine rhF.bipush (pc := 148) (v := 10) dX12_init_148 (by decide) ?_
  refine rhF.ck (fun h93 => ?_)
  refine rhF.newJ (pc := 150) dX12_init_150 ac_long h93 ?_
  refine rhF.ck (fun h96 => ?_)
  refine rhF.putr (pc := 152) dX12_init_152 fl_X12_70 h96 (fun q hq => by cases hq; exact Or.inr ⟨rfl, rfl, rfl⟩) (Or.inr ⟨_, rfl⟩) (fun _ => rfl) ?_
  refine rhF.aload_n (pc := 155) dX12_init_155 0 rfl ?_
  refine rhF.bipush (pc := 156) (v := 16) dX12_init_156 (by decide) ?_
  refine rhF.ck (fun h98 => ?_)
  refine rhF.newJ (pc := 158) dX12_init_158 ac_long h98 ?_
  refine rhF.ck (fun h101 => ?_)
  refine rhF.putr (pc := 160) dX12_init_160 fl_X12_74 h101 (fun q hq => by cases hq; exact Or.inr ⟨rfl, rfl, rfl⟩) (Or.inr ⟨_, rfl⟩) (fun _ => rfl) ?_
  refine rhF.aload_n (pc := 163) dX12_init_163 0 rfl ?_
  refine rhF.sipush (pc := 164) (v := 1000) dX12_init_164 (by decide) ?_
  refine rhF.ck (fun h103 => ?_)
  refine rhF.newI (pc := 167) dX12_init_167 ac_int h103 ?_
  refine rhF.ck (fun h106 => ?_)
  refine rhF.putr (pc := 169) dX12_init_169 fl_X12_77 h106 (fun q hq => by cases hq; exact Or.inr ⟨rfl, rfl, rfl⟩) (Or.inr ⟨_, rfl⟩) (fun _ => rfl) ?_
  refine rhF.aload_n (pc := 172) dX12_init_172 0 rfl ?_
  refine rhF.sipush (pc := 173) (v := 1000) dX12_init_173 (by decide) ?_
  refine rhF.ck (fun h108 => ?_)
  refine rhF.newI (pc := 176) dX12_init_176 ac_int h108 ?_
  refine rhF.ck (fun h111 => ?_)
  refine rhF.putr (pc := 178) dX12_init_178 fl_X12_80 h111 (fun q hq => by cases hq; exact Or.inr ⟨rfl, rfl, rfl⟩) (Or.inr ⟨_, rfl⟩) (fun _ => rfl) ?_
  refine rhF.aload_n (pc := 181) dX12_init_181 0 rfl ?_
  refine rhF.bipush (pc := 182) (v := 90) dX12_init_182 (by decide) ?_
  refine rhF.ck (fun h113 => ?_)
  refine rhF.newI (pc := 184) dX12_init_184 ac_int h113 ?_
  refine rhF.ck (fun h116 => ?_)
  refine rhF.putr (pc := 186) dX12_init_186 fl_X12_83 h116 (fun q hq => by cases hq; exact Or.inr ⟨rfl, rfl, rfl⟩) (Or.inr ⟨_, rfl⟩) (fun _ => rfl) ?_
  refine rhF.aload_n (pc := 189) dX12_init_189 0 rfl ?_
  refine rhF.bipush (pc := 190) (v := 90) dX12_init_190 (by decide) ?_
  refine rhF.ck (fun h118 => ?_)
  refine rhF.newI (pc := 192) dX12_init_192 ac_int h118 ?_
  refine rhF.ck (fun h121 => ?_)
  refine rhF.putr (pc := 194) dX12_init_194 fl_X12_86 h121 (fun q hq => by cases hq; exact Or.inr ⟨rfl, rfl, rfl⟩) (Or.inr ⟨_, rfl⟩) (fun _ => rfl) ?_
  refine rhF.aload_n (pc := 197) dX12_init_197 0 rfl ?_
  refine rhF.bipush (pc := 198) (v := 70) dX12_init_198 (by decide) ?_
  refine rhF.ck (fun h123 => ?_)
  refine rhF.newI (pc := 200) dX12_init_200 ac_int h123 ?_
  refine rhF.ck (fun h126 => ?_)
  refine rhF.putr (pc := 202) dX12_init_202 fl_X12_89 h126 (fun q hq => by cases hq; exact Or.inr ⟨rfl, rfl, rfl⟩) (Or.inr ⟨_, rfl⟩) (fun _ => rfl) ?_
  refine rhF.aload_n (pc := 205) dX12_init_205 0 rfl ?_
  refine rhF.bipush (pc := 206) (v := 8) dX12_init_206 (by decide) ?_
  refine rhF.ck (fun h128 => ?_)
  refine rhF.newI (pc := 208) dX12_init_208 ac_int h128 ?_
  refine rhF.ck (fun h131 => ?_)
  refine rhF.putr (pc := 210) dX12_init_210 fl_X12_92 h131 (fun q hq => by cases hq; exact Or.inr ⟨rfl, rfl, rfl⟩) (Or.inr ⟨_, rfl⟩) (fun _ => rfl) ?_
  refine rhF.aload_n (pc := 213) dX12_init_213 0 rfl ?_
  refine rhF.bipush (pc := 214) (v := 6) dX12_init_214 (by decide) ?_
  refine rhF.ck (fun h133 => ?_)
  refine rhF.newI (pc := 216) dX12_init_216 ac_int h133 ?_
  refine rhF.ck (fun h136 => ?_)
  refine rhF.putr (pc := 218) dX12_init_218 fl_X12_95 h136 (fun q hq => by cases hq; exact Or.inr ⟨rfl, rfl, rfl⟩) (Or.inr ⟨_, rfl⟩) (fun _ => rfl) ?_
  refine rhF.aload_n (pc := 221) dX12_init_221 0 rfl ?_
  refine rhF.bipush (pc := 222) (v := 8) dX12_init_222 (by decide) ?_
  refine rhF.ck (fun h138 => ?_)
  refine rhF.newI (pc := 224) dX12_init_224 ac_int h138 ?_
  refine rhF.ck (fun h141 => ?_)
  refine rhF.putr (pc := 226) dX12_init_226 fl_X12_98 h141 (fun q hq => by cases hq; exact Or.inr ⟨rfl, rfl, rfl⟩) (Or.inr ⟨_, rfl⟩) (fun _ => rfl) ?_
  refine rhF.aload_n (pc := 229) dX12_init_229 0 rfl ?_
  refine rhF.bipush (pc := 230) (v := 8) dX12_init_230 (by decide) ?_
  refine rhF.ck (fun h143 => ?_)
  refine rhF.newI (pc := 232) dX12_init_232 ac_int h143 ?_
  refine rhF.ck (fun h146 => ?_)
  refine rhF.putr (pc := 234) dX12_init_234 fl_X12_101 h146 (fun q hq => by cases hq; exact Or.inr ⟨rfl, rfl, rfl⟩) (Or.inr ⟨_, rfl⟩) (fun _ => rfl) ?_
  refine rhF.aload_n (pc := 237) dX12_init_237 0 rfl ?_
  refine rhF.bipush (pc := 238) (v := 6) dX12_init_238 (by decide) ?_
  refine rhF.ck (fun h148 => ?_)
  refine rhF.newI (pc := 240) dX12_init_240 ac_int h148 ?_
  refine rhF.ck (fun h151 => ?_)
  refine rhF.putr (pc := 242) dX12_init_242 fl_X12_104 h151 (fun q hq => by cases hq; exact Or.inr ⟨rfl, rfl, rfl⟩) (Or.inr ⟨_, rfl⟩) (fun _ => rfl) ?_
  refine rhF.aload_n (pc := 245) dX12_init_245 0 rfl ?_
  refine rhF.iconst (pc := 246) (v := (-1)) dX12_init_246 (by decide) ?_
  refine rhF.puti (pc := 247) dX12_init_247 fl_X12_107 h151 (fun q hq => by cases hq; exact Or.inl rfl) ⟨rfl, rfl⟩ (fun _ => rfl) ?_
  refine rhF.aload_n (pc := 250) dX12_init_250 0 rfl ?_
  refine rhF.sipush (pc := 251) (v := 300) dX12_init_251 (by decide) ?_
  refine rhF.ck (fun h154 => ?_)
  refine rhF.newI (pc := 254) dX12_init_254 ac_int h154 ?_
  refine rhF.ck (fun h157 => ?_)
  refine rhF.putr (pc := 256) dX12_init_256 fl_X12_110 h157 (fun q hq => by cases hq; exact Or.inr ⟨rfl, rfl, rfl⟩) (Or.inr ⟨_, rfl⟩) (fun _ => rfl) ?_
  refine rhF.aload_n (pc := 259) dX12_init_259 0 rfl ?_
  refine rhF.sipush (pc := 260) (v := 300) dX12_init_260 (by decide) ?_
  refine rhF.ck (fun h159 => ?_)
  refine rhF.newI (pc := 263) dX12_init_263 ac_int h159 ?_
  refine rhF.ck (fun h162 => ?_)
  refine rhF.putr (pc := 265) dX12_init_265 fl_X12_113 h162 (fun q hq => by cases hq; exact Or.inr ⟨rfl, rfl, rfl⟩) (Or.inr ⟨_, rfl⟩) (fun _ => rfl) ?_
  refine rhF.aload_n (pc := 268) dX12_init_268 0 rfl ?_
  refine rhF.bipush (pc := 269) (v := 12) dX12_init_269 (by decide) ?_
  refine rhF.ck (fun h164 => ?_)
  refine rhF.newI (pc := 271) dX12_init_271 ac_int h164 ?_
  refine rhF.ck (fun h167 => ?_)
  refine rhF.putr (pc := 273) dX12_init_273 fl_X12_116 h167 (fun q hq => by cases hq; exact Or.inr ⟨rfl, rfl, rfl⟩) (Or.inr ⟨_, rfl⟩) (fun _ => rfl) ?_
  refine rhF.aload_n (pc := 276) dX12_init_276 0 rfl ?_
  refine rhF.bipush (pc := 277) (v := 8) dX12_init_277 (by decide) ?_
  refine rhF.ck (fun h169 => ?_)
  refine rhF.newI (pc := 279) dX12_init_279 ac_int h169 ?_
  refine rhF.ck (fun h172 => ?_)
  refine rhF.putr (pc := 281) dX12_init_281 fl_X12_119 h172 (fun q hq => by cases hq; exact Or.inr ⟨rfl, rfl, rfl⟩) (Or.inr ⟨_, rfl⟩) (fun _ => rfl) ?_
  refine rhF.aload_n (pc := 284) dX12_init_284 0 rfl ?_
  refine rhF.ldc (pc := 285) dX12_init_285 k_X12_122 ?_
  refine rhF.ck (fun h174 => ?_)
  refine rhF.newI (pc := 287) dX12_init_287 ac_int h174 ?_
  refine rhF.ck (fun h177 => ?_)
  refine rhF.putr (pc := 289) dX12_init_289 fl_X12_123 h177 (fun q hq => by cases hq; exact Or.inr ⟨rfl, rfl, rfl⟩) (Or.inr ⟨_, rfl⟩) (fun _ => rfl) ?_
  refine rhF.aload_n (pc := 292) dX12_init_292 0 rfl ?_
  refine rhF.ldc (pc := 293) dX12_init_293 k_X12_122 ?_
  refine rhF.ck (fun h179 => ?_)
  refine rhF.newI (pc := 295) dX12_init_295 ac_int h179 ?_
  refine rhF.ck (fun h182 => ?_)
  refine rhF.putr (pc := 297) dX12_init_297 fl_X12_126 h182 (fun q hq => by cases hq; exact Or.inr ⟨rfl, rfl, rfl⟩) (Or.inr ⟨_, rfl⟩) (fun _ => rfl) ?_
  refine rhF.aload_n (pc := 300) dX12_init_300 0 rfl ?_
  refine rhF.ldc (pc := 301) dX12_init_301 k_X12_122 ?_
  refine rhF.ck (fun h184 => ?_)
  refine rhF.newI (pc := 303) dX12_init_303 ac_int h184 ?_
  refine rhF.ck (fun h187 => ?_)
  refine rhF.putr (pc := 305) dX12_init_305 fl_X12_129 h187 (fun q hq => by cases hq; exact Or.inr ⟨rfl, rfl, rfl⟩) (Or.inr ⟨_, rfl⟩) (fun _ => rfl) ?_
  refine rhF.aload_n (pc := 308) dX12_init_308 0 rfl ?_
  refine rhF.ldc (pc := 309) dX12_init_309 k_X12_122 ?_
  refine rhF.ck (fun h189 => ?_)
  refine rhF.newI (pc := 311) dX12_init_311 ac_int h189 ?_
  refine rhF.ck (fun h192 => ?_)
  refine rhF.putr (pc := 313) dX12_init_313 fl_X12_132 h192 (fun q hq => by cases hq; exact Or.inr ⟨rfl, rfl, rfl⟩) (Or.inr ⟨_, rfl⟩) (fun _ => rfl) ?_
  refine rhF.aload_n (pc := 316) dX12_init_316 0 rfl ?_
  refine rhF.ldc (pc := 317) dX12_init_317 k_X12_135 ?_
  refine rhF.ck (fun h194 => ?_)
  refine rhF.newI (pc := 319) dX12_init_319 ac_int h194 ?_
  refine rhF.ck (fun h197 => ?_)
  refine rhF.putr (pc := 321) dX12_init_321 fl_X12_136 h197 (fun q hq => by cases hq; exact Or.inr ⟨rfl, rfl, rfl⟩) (Or.inr ⟨_, rfl⟩) (fun _ => rfl) ?_
  refine rhF.aload_n (pc := 324) dX12_init_324 0 rfl ?_
  refine rhF.ldc (pc := 325) dX12_init_325 k_X12_122 ?_
  refine rhF.ck (fun h199 => ?_)
  refine rhF.newZ (pc := 327) dX12_init_327 ac_boolean h199 ?_
  refine rhF.ck (fun h202 => ?_)
  refine rhF.putr (pc := 329) dX12_init_329 fl_X12_139 h202 (fun q hq => by cases hq; exact Or.inr ⟨rfl, rfl, rfl⟩) (Or.inr ⟨_, rfl⟩) (fun _ => rfl) ?_
  refine rhF.aload_n (pc := 332) dX12_init_332 0 rfl ?_
  refine rhF.bipush (pc := 333) (v := 8) dX12_init_333 (by decide) ?_
  refine rhF.ck (fun h204 => ?_)
  refine rhF.newI (pc := 335) dX12_init_335 ac_int h204 ?_
  refine rhF.ck (fun h207 => ?_)
  refine rhF.putr (pc := 337) dX12_init_337 fl_X12_142 h207 (fun q hq => by cases hq; exact Or.inr ⟨rfl, rfl, rfl⟩) (Or.inr ⟨_, rfl⟩) (fun _ => rfl) ?_
  refine rhF.aload_n (pc := 340) dX12_init_340 0 rfl ?_
  refine rhF.bipush (pc := 341) (v := 6) dX12_init_341 (by decide) ?_
  refine rhF.ck (fun h209 => ?_)
  refine rhF.newI (pc := 343) dX12_init_343 ac_int h209 ?_
  refine rhF.ck (fun h212 => ?_)
  refine rhF.putr (pc := 345) dX12_init_345 fl_X12_145 h212 (fun q hq => by cases hq; exact Or.inr ⟨rfl, rfl, rfl⟩) (Or.inr ⟨_, rfl⟩) (fun _ => rfl) ?_
  refine rhF.aload_n (pc := 348) dX12_init_348 0 rfl ?_
  refine rhF.ldc (pc := 349) dX12_init_349 k_X12_135 ?_
  refine rhF.ck (fun h214 => ?_)
  refine rhF.newI (pc := 351) dX12_init_351 ac_int h214 ?_
  refine rhF.ck (fun h217 => ?_)
  refine rhF.putr (pc := 353) dX12_init_353 fl_X12_148 h217 (fun q hq => by cases hq; exact Or.inr ⟨rfl, rfl, rfl⟩) (Or.inr ⟨_, rfl⟩) (fun _ => rfl) ?_
  refine rhF.aload_n (pc := 356) dX12_init_356 0 rfl ?_
  refine rhF.ldc (pc := 357) dX12_init_357 k_X12_135 ?_
  refine rhF.ck (fun h219 => ?_)
  refine rhF.newI (pc := 359) dX12_init_359 ac_int h219 ?_
  refine rhF.ck (fun h222 => ?_)
  refine rhF.putr (pc := 361) dX12_init_361 fl_X12_151 h222 (fun q hq => by cases hq; exact Or.inr ⟨rfl, rfl, rfl⟩) (Or.inr ⟨_, rfl⟩) (fun _ => rfl) ?_
  refine rhF.aload_n (pc := 364) dX12_init_364 0 rfl ?_
  refine rhF.ldc (pc := 365) dX12_init_365 k_X12_122 ?_
  refine rhF.ck (fun h224 => ?_)
  refine rhF.newI (pc := 367) dX12_init_367 ac_int h224 ?_
  refine rhF.ck (fun h227 => ?_)
  refine rhF.putr (pc := 369) dX12_init_369 fl_X12_154 h227 (fun q hq => by cases hq; exact Or.inr ⟨rfl, rfl, rfl⟩) (Or.inr ⟨_, rfl⟩) (fun _ => rfl) ?_
  refine rhF.aload_n (pc := 372) dX12_init_372 0 rfl ?_
  refine rhF.ldc (pc := 373) dX12_init_373 k_X12_135 ?_
  refine rhF.ck (fun h229 => ?_)
  refine rhF.newI (pc := 375) dX12_init_375 ac_int h229 ?_
  refine rhF.ck (fun h232 => ?_)
  refine rhF.putr (pc := 377) dX12_init_377 fl_X12_157 h232 (fun q hq => by cases hq; exact Or.inr ⟨rfl, rfl, rfl⟩) (Or.inr ⟨_, rfl⟩) (fun _ => rfl) ?_
  refine rhF.aload_n (pc := 380) dX12_init_380 0 rfl ?_
  refine rhF.bipush (pc := 381) (v := 20) dX12_init_381 (by decide) ?_
  refine rhF.ck (fun h234 => ?_)
  refine rhF.newI (pc := 383) dX12_init_383 ac_int h234 ?_
  refine rhF.ck (fun h237 => ?_)
  refine rhF.putr (pc := 385) dX12_init_385 fl_X12_160 h237 (fun q hq => by cases hq; exact Or.inr ⟨rfl, rfl, rfl⟩) (Or.inr ⟨_, rfl⟩) (fun _ => rfl) ?_
  refine rhF.aload_n (pc := 388) dX12_init_388 0 rfl ?_
  refine rhF.bipush (pc := 389) (v := 20) dX12_init_389 (by decide) ?_
  refine rhF.ck (fun h239 => ?_)
  refine rhF.newI (pc := 391) dX12_init_391 ac_int h239 ?_
  refine rhF.ck (fun h242 => ?_)
  refine rhF.putr (pc := 393) dX12_init_393 fl_X12_163 h242 (fun q hq => by cases hq; exact Or.inr ⟨rfl, rfl, rfl⟩) (Or.inr ⟨_, rfl⟩) (fun _ => rfl) ?_
  refine rhF.aload_n (pc := 396) dX12_init_396 0 rfl ?_
  refine rhF.bipush (pc := 397) (v := 20) dX12_init_397 (by decide) ?_
  refine rhF.ck (fun h244 => ?_)
  refine rhF.newI (pc := 399) dX12_init_399 ac_int h244 ?_
  refine rhF.ck (fun h247 => ?_)
  refine rhF.putr (pc := 401) dX12_init_401 fl_X12_166 h247 (fun q hq => by cases hq; exact Or.inr ⟨rfl, rfl, rfl⟩) (Or.inr ⟨_, rfl⟩) (fun _ => rfl) ?_
  refine rhF.aload_n (pc := 404) dX12_init_404 0 rfl ?_
  refine rhF.bipush (pc := 405) (v := 20) dX12_init_405 (by decide) ?_
  refine rhF.ck (fun h249 => ?_)
  refine rhF.newI (pc := 407) dX12_init_407 ac_int h249 ?_
  refine rhF.ck (fun h252 => ?_)
  refine rhF.putr (pc := 409) dX12_init_409 fl_X12_169 h252 (fun q hq => by cases hq; exact Or.inr ⟨rfl, rfl, rfl⟩) (Or.inr ⟨_, rfl⟩) (fun _ => rfl) ?_
  refine rhF.aload_n (pc := 412) dX12_init_412 0 rfl ?_
  refine rhF.bipush (pc := 413) (v := 20) dX12_init_413 (by decide) ?_
  refine rhF.ck (fun h254 => ?_)
  refine rhF.newI (pc := 415) dX12_init_415 ac_int h254 ?_
  refine rhF.ck (fun h257 => ?_)
  refine rhF.putr (pc := 417) dX12_init_417 fl_X12_172 h257 (fun q hq => by cases hq; exact Or.inr ⟨rfl, rfl, rfl⟩) (Or.inr ⟨_, rfl⟩) (fun _ => rfl) ?_
  refine rhF.aload_n (pc := 420) dX12_init_420 0 rfl ?_
  refine rhF.bipush (pc := 421) (v := 8) dX12_init_421 (by decide) ?_
  refine rhF.ck (fun h259 => ?_)
  refine rhF.newI (pc := 423) dX12_init_423 ac_int h259 ?_
  refine rhF.ck (fun h262 => ?_)
  refine rhF.putr (pc := 425) dX12_init_425 fl_X12_175 h262 (fun q hq => by cases hq; exact Or.inr ⟨rfl, rfl, rfl⟩) (Or.inr ⟨_, rfl⟩) (fun _ => rfl) ?_
  refine rhF.aload_n (pc := 428) dX12_init_428 0 rfl ?_
  refine rhF.bipush (pc := 429) (v := 32) dX12_init_429 (by decide) ?_
  refine rhF.ck (fun h264 => ?_)
  refine rhF.newI (pc := 431) dX12_init_431 ac_int h264 ?_
  refine rhF.ck (fun h267 => ?_)
  refine rhF.putr (pc := 433) dX12_init_433 fl_X12_178 h267 (fun q hq => by cases hq; exact Or.inr ⟨rfl, rfl, rfl⟩) (Or.inr ⟨_, rfl⟩) (fun _ => rfl) ?_
  refine rhF.aload_n (pc := 436) dX12_init_436 0 rfl ?_
  refine rhF.bipush (pc := 437) (v := 24) dX12_init_437 (by decide) ?_
  refine rhF.ck (fun h269 => ?_)
  refine rhF.newI (pc := 439) dX12_init_439 ac_int h269 ?_
  refine rhF.ck (fun h272 => ?_)
  refine rhF.putr (pc := 441) dX12_init_441 fl_X12_181 h272 (fun q hq => by cases hq; exact Or.inr ⟨rfl, rfl, rfl⟩) (Or.inr ⟨_, rfl⟩) (fun _ => rfl) ?_
  refine rhF.aload_n (pc := 444) dX12_init_444 0 rfl ?_
  refine rhF.iconst (pc := 445) (v := 4) dX12_init_445 (by decide) ?_
  refine rhF.ck (fun h274 => ?_)
  refine rhF.newI (pc := 446) dX12_init_446 ac_int h274 ?_
  refine rhF.ck (fun h277 => ?_)
  refine rhF.putr (pc := 448) dX12_init_448 fl_X12_184 h277 (fun q hq => by cases hq; exact Or.inr ⟨rfl, rfl, rfl⟩) (Or.inr ⟨_, rfl⟩) (fun _ => rfl) ?_
  refine rhF.aload_n (pc := 451) dX12_init_451 0 rfl ?_
  refine rhF.bipush (pc := 452) (v := 20) dX12_init_452 (by decide) ?_
  refine rhF.ck (fun h279 => ?_)
  refine rhF.newZ (pc := 454) dX12_init_454 ac_boolean h279 ?_
  refine rhF.ck (fun h282 => ?_)
  refine rhF.putr (pc := 456) dX12_init_456 fl_X12_187 h282 (fun q hq => by cases hq; exact Or.inr ⟨rfl, rfl, rfl⟩) (Or.inr ⟨_, rfl⟩) (fun _ => rfl) ?_
  refine rhF.aload_n (pc := 459) dX12_init_459 0 rfl ?_
  refine rhF.iconst (pc := 460) (v := 3) dX12_init_460 (by decide) ?_
  refine rhF.ck (fun h284 => ?_)
  refine rhF.newI (pc := 461) dX12_init_461 ac_int h284 ?_
  refine rhF.ck (fun h287 => ?_)
  refine rhF.putr (pc := 463) dX12_init_463 fl_X12_190 h287 (fun q hq => by cases hq; exact Or.inr ⟨rfl, rfl, rfl⟩) (Or.inr ⟨_, rfl⟩) (fun _ => rfl) ?_
  refine rhF.aload_n (pc := 466) dX12_init_466 0 rfl ?_
  refine rhF.iconst (pc := 467) (v := 3) dX12_init_467 (by decide) ?_
  refine rhF.ck (fun h289 => ?_)
  refine rhF.newI (pc := 468) dX12_init_468 ac_int h289 ?_
  refine rhF.ck (fun h292 => ?_)
  refine rhF.putr (pc := 470) dX12_init_470 fl_X12_193 h292 (fun q hq => by cases hq; exact Or.inr ⟨rfl, rfl, rfl⟩) (Or.inr ⟨_, rfl⟩) (fun _ => rfl) ?_
  refine rhF.aload_n (pc := 473) dX12_init_473 0 rfl ?_
  refine rhF.bipush (pc := 474) (v := 24) dX12_init_474 (by decide) ?_
  refine rhF.ck (fun h294 => ?_)
  refine rhF.newI (pc := 476) dX12_init_476 ac_int h294 ?_
  refine rhF.ck (fun h297 => ?_)
  refine rhF.putr (pc := 478) dX12_init_478 fl_X12_196 h297 (fun q hq => by cases hq; exact Or.inr ⟨rfl, rfl, rfl⟩) (Or.inr ⟨_, rfl⟩) (fun _ => rfl) ?_
  refine rhF.aload_n (pc := 481) dX12_init_481 0 rfl ?_
  refine rhF.bipush (pc := 482) (v := 18) dX12_init_482 (by decide) ?_
  refine rhF.ck (fun h299 => ?_)
  refine rhF.newI (pc := 484) dX12_init_484 ac_int h299 ?_
  refine rhF.ck (fun h302 => ?_)
  refine rhF.putr (pc := 486) dX12_init_486 fl_X12_199 h302 (fun q hq => by cases hq; exact Or.inr ⟨rfl, rfl, rfl⟩) (Or.inr ⟨_, rfl⟩) (fun _ => rfl) ?_
  refine rhF.aload_n (pc := 489) dX12_init_489 0 rfl ?_
  refine rhF.sipush (pc := 490) (v := 900) dX12_init_490 (by decide) ?_
  refine rhF.ck (fun h304 => ?_)
  refine rhF.newI (pc := 493) dX12_init_493 ac_int h304 ?_
  refine rhF.ck (fun h307 => ?_)
  refine rhF.putr (pc := 495) dX12_init_495 fl_X12_202 h307 (fun q hq => by cases hq; exact Or.inr ⟨rfl, rfl, rfl⟩) (Or.inr ⟨_, rfl⟩) (fun _ => rfl) ?_
  refine rhF.aload_n (pc := 498) dX12_init_498 0 rfl ?_
  refine rhF.sipush (pc := 499) (v := 900) dX12_init_499 (by decide) ?_
  refine rhF.ck (fun h309 => ?_)
  refine rhF.newI (pc := 502) dX12_init_502 ac_int h309 ?_
  refine rhF.ck (fun h312 => ?_)
  refine rhF.putr (pc := 504) dX12_init_504 fl_X12_205 h312 (fun q hq => by cases hq; exact Or.inr ⟨rfl, rfl, rfl⟩) (Or.inr ⟨_, rfl⟩) (fun _ => rfl) ?_
  refine rhF.aload_n (pc := 507) dX12_init_507 0 rfl ?_
  refine rhF.callV (pc := 508) (ci := 12) (embc := rhe1U _) [] dX12_init_508 ml_X12_208 mv_X12_clearBank ⟨_, rfl, rfl⟩ h312 (c_X12_clearBank _ _ _ _) (by decide) (by decide) rfl (Nat.le_of_ble_eq_true rfl) (fun r314 _ => ?_)
  refine rhF.aload_n (pc := 511) dX12_init_511 0 rfl ?_
  refine rhF.callV (pc := 512) (ci := 12) (embc := rhe1U _) [] dX12_init_512 ml_X12_211 mv_X12_begin ⟨_, rfl, rfl⟩ h312 (c_X12_begin _ _ _ _) (by decide) (by decide) rfl (Nat.le_of_ble_eq_true rfl) (fun r315 _ => ?_)
  refine rhF.iconst (pc := 515) (v := 0) dX12_init_515 (by decide) ?_
  refine rhF.istore_n (pc := 516) (L' := [(1, rhI _), (0, rhR _)]) dX12_init_516 (by decide) rfl ?_
  refine rhF.sub [1, 0] rfl ?_
  exact (b_X12_init_517 rhFU) _ _ _ _
theorem c_X12_init (E : rhE) (Γ : rhG) (M : rhM) (v0 : Nat) : ∀ a, f_X12_init Γ M v0 = some a → rhC E 7 yX12_init cX12_init 2 none [rhR v0] Γ M (rhe2U a) := rhF.met (by decide +kernel) (Nat.le_of_ble_eq_true rfl) (b_X12_init (Γ0 := Γ) Γ M v0)
def f_X12_isBefore (Γ : rhG) (M : rhM) (v0 : Nat) (v1 : Int32) (v2 : Int32) : Option (Int32) :=
  rhck (Γ.2.2.1 v0 = 13) <|
  rhck (Γ.2.2.1 (M.2.2 v0 57) = 15) <|
  rhck (0 ≤ (v1).toInt ∧ (v1).toInt < (Γ.2.2.2 (M.2.2 v0 57) : Nat)) <|
  rhck (0 ≤ (v2).toInt ∧ (v2).toInt < (Γ.2.2.2 (M.2.2 v0 57) : Nat)) <|
  if (M.1 (M.2.2 v0 57) v1.toNatClampNeg) = (M.1 (M.2.2 v0 57) v2.toNatClampNeg) then
    (rhck (Γ.2.2.1 (M.2.2 v0 56) = 15) <|
    rhck (0 ≤ (v1).toInt ∧ (v1).toInt < (Γ.2.2.2 (M.2.2 v0 56) : Nat)) <|
    rhck (0 ≤ (v2).toInt ∧ (v2).toInt < (Γ.2.2.2 (M.2.2 v0 56) : Nat)) <|
    if (M.1 (M.2.2 v0 56) v1.toNatClampNeg) < (M.1 (M.2.2 v0 56) v2.toNatClampNeg) then
      (some 1)
    else
      some 0)
  else
    if (M.1 (M.2.2 v0 57) v1.toNatClampNeg) < (M.1 (M.2.2 v0 57) v2.toNatClampNeg) then
      (some 1)
    else
      some 0
set_option maxHeartbeats 4000000 in
set_option maxRecDepth 100000 in
theorem b_X12_isBefore {E : rhE} {Γ : rhG} {M : rhM} : ∀ (v0 : Nat) (v1 : Int32) (v2 : Int32), rhF E 1 3 yX12_isBefore cX12_isBefore (some .boolean) Γ (rhe0I Γ M) (f_X12_isBefore Γ M v0 v1 v2) 0 [(0, rhR v0), (1, rhI v1), (2, rhI v2)] [] Γ M := by
  intro v0 v1 v2
  rw [f_X12_isBefore]
  refine rhF.aload_n (pc := 0) dX12_isBefore_0 0 rfl ?_
  refine rhF.ck (fun h1 => ?_)
  refine rhF.get (pc := 1) (rhR _) dX12_isBefore_1 fl_X12_132 h1 rfl ?_
  refine rhF.iload_n (pc := 4) dX12_isBefore_4 1 rfl ?_
  refine rhF.ck (fun h2 => ?_)
  refine rhF.ck (fun h3 => ?_)
  refine rhF.iald (pc := 5) dX12_isBefore_5 h2 h3 ?_
  refine rhF.aload_n (pc := 6) dX12_isBefore_6 0 rfl ?_
  refine rhF.get (pc := 7) (rhR _) dX12_isBefore_7 fl_X12_132 h1 rfl ?_
  refine rhF.iload_n (pc := 10) dX12_isBefore_10 2 rfl ?_
  refine rhF.ck (fun h4 => ?_)
  refine rhF.iald (pc := 11) dX12_isBefore_11 h2 h4 ?_
  refine rhF.icmp_eq (pc := 12) 38 dX12_isBefore_12 (by decide) (fun h5 => ?_) (fun h5 => ?_)
  · refine rhF.aload_n (pc := 38) dX12_isBefore_38 0 rfl ?_
    refine rhF.get (pc := 39) (rhR _) dX12_isBefore_39 fl_X12_129 h1 rfl ?_
    refine rhF.iload_n (pc := 42) dX12_isBefore_42 1 rfl ?_
    refine rhF.ck (fun h6 => ?_)
    refine rhF.ck (fun h7 => ?_)
    refine rhF.iald (pc := 43) dX12_isBefore_43 h6 h7 ?_
    refine rhF.aload_n (pc := 44) dX12_isBefore_44 0 rfl ?_
    refine rhF.get (pc := 45) (rhR _) dX12_isBefore_45 fl_X12_129 h1 rfl ?_
    refine rhF.iload_n (pc := 48) dX12_isBefore_48 2 rfl ?_
    refine rhF.ck (fun h8 => ?_)
    refine rhF.iald (pc := 49) dX12_isBefore_49 h6 h8 ?_
    refine rhF.icmp_ge (pc := 50) 57 dX12_isBefore_50 (by decide) (fun h9 => ?_) (fun h9 => ?_)
    · refine rhF.iconst (pc := 53) (v := 1) dX12_isBefore_53 (by decide) ?_
      refine rhF.goto (pc := 54) 58 dX12_isBefore_54 (by decide) ?_
      exact rhF.zret (pc := 58) dX12_isBefore_58 rfl rfl rfl
    · refine rhF.iconst (pc := 57) (v := 0) dX12_isBefore_57 (by decide) ?_
      exact rhF.zret (pc := 58) dX12_isBefore_58 rfl rfl rfl
  · refine rhF.aload_n (pc := 15) dX12_isBefore_15 0 rfl ?_
    refine rhF.get (pc := 16) (rhR _) dX12_isBefore_16 fl_X12_132 h1 rfl ?_
    refine rhF.iload_n (pc := 19) dX12_isBefore_19 1 rfl ?_
    refine rhF.iald (pc := 20) dX12_isBefore_20 h2 h3 ?_
    refine rhF.aload_n (pc := 21) dX12_isBefore_21 0 rfl ?_
    refine rhF.get (pc := 22) (rhR _) dX12_isBefore_22 fl_X12_132 h1 rfl ?_
    refine rhF.iload_n (pc := 25) dX12_isBefore_25 2 rfl ?_
    refine rhF.iald (pc := 26) dX12_isBefore_26 h2 h4 ?_
    refine rhF.icmp_ge (pc := 27) 34 dX12_isBefore_27 (by decide) (fun h10 => ?_) (fun h10 => ?_)
    · refine rhF.iconst (pc := 30) (v := 1) dX12_isBefore_30 (by decide) ?_
      refine rhF.goto (pc := 31) 58 dX12_isBefore_31 (by decide) ?_
      exact rhF.zret (pc := 58) dX12_isBefore_58 rfl rfl rfl
    · refine rhF.iconst (pc := 34) (v := 0) dX12_isBefore_34 (by decide) ?_
      refine rhF.goto (pc := 35) 58 dX12_isBefore_35 (by decide) ?_
      exact rhF.zret (pc := 58) dX12_isBefore_58 rfl rfl rfl
theorem c_X12_isBefore (E : rhE) (Γ : rhG) (M : rhM) (v0 : Nat) (v1 : Int32) (v2 : Int32) : ∀ a, f_X12_isBefore Γ M v0 v1 v2 = some a → rhC E 1 yX12_isBefore cX12_isBefore 3 (some .boolean) [rhR v0, rhI v1, rhI v2] Γ M ((rhe0I Γ M) a) := rhF.met (by decide +kernel) (Nat.le_of_ble_eq_true rfl) (b_X12_isBefore v0 v1 v2)
def f_X12_isFull (Γ : rhG) (M : rhM) (v0 : Nat) : Option (Int32) :=
  rhck (Γ.2.2.1 v0 = 13) <|
  (f_X12_isWord Γ M v0 ((1918986604 : Int64))).bind fun r2 =>
  if r2 = 0 then
    ((f_X12_isWord Γ M v0 ((448546567013 : Int64))).bind fun r4 =>
    if r4 = 0 then
      ((f_X12_isWord Γ M v0 ((108187867505765 : Int64))).bind fun r6 =>
      if r6 = 0 then
        ((f_X12_isWord Γ M v0 ((1852138347 : Int64))).bind fun r8 =>
        if r8 = 0 then
          ((f_X12_isWord Γ M v0 ((431415719795 : Int64))).bind fun r10 =>
          if r10 = 0 then
            ((f_X12_isWord Γ M v0 ((7102839 : Int64))).bind fun r12 =>
            if r12 = 0 then
              (some 1)
            else
              rhck (Γ.2.2.1 (M.2.2 v0 25) = 17) <|
              rhck (0 ≤ (M.1 v0 35).toInt ∧ (M.1 v0 35).toInt < (Γ.2.2.2 (M.2.2 v0 25) : Nat)) <|
              if (M.1 (M.2.2 v0 25) (M.1 v0 35).toNatClampNeg) = 0 then
                (some 0)
              else
                some 1)
          else
            rhck (Γ.2.2.1 (M.2.2 v0 24) = 17) <|
            rhck (0 ≤ (M.1 v0 35).toInt ∧ (M.1 v0 35).toInt < (Γ.2.2.2 (M.2.2 v0 24) : Nat)) <|
            rhck (M.1 (M.2.2 v0 24) (M.1 v0 35).toNatClampNeg = 0 ∨ M.1 (M.2.2 v0 24) (M.1 v0 35).toNatClampNeg = 1) <|
            some (M.1 (M.2.2 v0 24) (M.1 v0 35).toNatClampNeg))
        else
          rhck (Γ.2.2.1 (M.2.2 v0 23) = 17) <|
          rhck (0 ≤ (M.1 v0 35).toInt ∧ (M.1 v0 35).toInt < (Γ.2.2.2 (M.2.2 v0 23) : Nat)) <|
          rhck (M.1 (M.2.2 v0 23) (M.1 v0 35).toNatClampNeg = 0 ∨ M.1 (M.2.2 v0 23) (M.1 v0 35).toNatClampNeg = 1) <|
          some (M.1 (M.2.2 v0 23) (M.1 v0 35).toNatClampNeg))
      else
        rhck (Γ.2.2.1 (M.2.2 v0 13) = 15) <|
        rhck (0 ≤ (M.1 v0 35).toInt ∧ (M.1 v0 35).toInt < (Γ.2.2.2 (M.2.2 v0 13) : Nat)) <|
        if (M.1 (M.2.2 v0 13) (M.1 v0 35).toNatClampNeg) = 20 then
          (some 1)
        else
          some 0)
    else
      rhck (Γ.2.2.1 (M.2.2 v0 12) = 15) <|
      rhck (0 ≤ (M.1 v0 35).toInt ∧ (M.1 v0 35).toInt < (Γ.2.2.2 (M.2.2 v0 12) : Nat)) <|
      if (M.1 (M.2.2 v0 12) (M.1 v0 35).toNatClampNeg) = 8 then
        (some 1)
      else
        some 0)
  else
    rhck (Γ.2.2.1 (M.2.2 v0 11) = 15) <|
    rhck (0 ≤ (M.1 v0 35).toInt ∧ (M.1 v0 35).toInt < (Γ.2.2.2 (M.2.2 v0 11) : Nat)) <|
    if (M.1 (M.2.2 v0 11) (M.1 v0 35).toNatClampNeg) = 5 then
      (some 1)
    else
      some 0
set_option maxHeartbeats 4000000 in
set_option maxRecDepth 100000 in
theorem b_X12_isFull {E : rhE} {Γ : rhG} {M : rhM} : ∀ (v0 : Nat), rhF E 5 1 yX12_isFull cX12_isFull (some .boolean) Γ (rhe0I Γ M) (f_X12_isFull Γ M v0) 0 [(0, rhR v0)] [] Γ M := by
  intro v0
  rw [f_X12_isFull]
  refine rhF.aload_n (pc := 0) dX12_isFull_0 0 rfl ?_
  refine rhF.ldc2 (pc := 1) dX12_isFull_1 k_X12_220 ?_
  refine rhF.ck (fun h1 => ?_)
  refine rhF.callV (pc := 4) (ci := 12) (embc := rhe0I _ _) [rhJ _] dX12_isFull_4 ml_X12_304 mv_X12_isWord ⟨_, rfl, rfl⟩ h1 (c_X12_isWord _ _ _ _ _) (by decide) (by decide) rfl (Nat.le_of_ble_eq_true rfl) (fun r2 _ => ?_)
  refine rhF.if_eq (pc := 7) 29 dX12_isFull_7 (by decide) (fun h3 => ?_) (fun h3 => ?_)
  · refine rhF.aload_n (pc := 29) dX12_isFull_29 0 rfl ?_
    refine rhF.ldc2 (pc := 30) dX12_isFull_30 k_X12_224 ?_
    refine rhF.callV (pc := 33) (ci := 12) (embc := rhe0I _ _) [rhJ _] dX12_isFull_33 ml_X12_304 mv_X12_isWord ⟨_, rfl, rfl⟩ h1 (c_X12_isWord _ _ _ _ _) (by decide) (by decide) rfl (Nat.le_of_ble_eq_true rfl) (fun r4 _ => ?_)
    refine rhF.if_eq (pc := 36) 59 dX12_isFull_36 (by decide) (fun h5 => ?_) (fun h5 => ?_)
    · refine rhF.aload_n (pc := 59) dX12_isFull_59 0 rfl ?_
      refine rhF.ldc2 (pc := 60) dX12_isFull_60 k_X12_230 ?_
      refine rhF.callV (pc := 63) (ci := 12) (embc := rhe0I _ _) [rhJ _] dX12_isFull_63 ml_X12_304 mv_X12_isWord ⟨_, rfl, rfl⟩ h1 (c_X12_isWord _ _ _ _ _) (by decide) (by decide) rfl (Nat.le_of_ble_eq_true rfl) (fun r6 _ => ?_)
      refine rhF.if_eq (pc := 66) 89 dX12_isFull_66 (by decide) (fun h7 => ?_) (fun h7 => ?_)
      · refine rhF.aload_n (pc := 89) dX12_isFull_89 0 rfl ?_
        refine rhF.ldc2 (pc := 90) dX12_isFull_90 k_X12_234 ?_
        refine rhF.callV (pc := 93) (ci := 12) (embc := rhe0I _ _) [rhJ _] dX12_isFull_93 ml_X12_304 mv_X12_isWord ⟨_, rfl, rfl⟩ h1 (c_X12_isWord _ _ _ _ _) (by decide) (by decide) rfl (Nat.le_of_ble_eq_true rfl) (fun r8 _ => ?_)
        refine rhF.if_eq (pc := 96) 109 dX12_isFull_96 (by decide) (fun h9 => ?_) (fun h9 => ?_)
        · refine rhF.aload_n (pc := 109) dX12_isFull_109 0 rfl ?_
          refine rhF.ldc2 (pc := 110) dX12_isFull_110 k_X12_236 ?_
          refine rhF.callV (pc := 113) (ci := 12) (embc := rhe0I _ _) [rhJ _] dX12_isFull_113 ml_X12_304 mv_X12_isWord ⟨_, rfl, rfl⟩ h1 (c_X12_isWord _ _ _ _ _) (by decide) (by decide) rfl (Nat.le_of_ble_eq_true rfl) (fun r10 _ => ?_)
          refine rhF.if_eq (pc := 116) 129 dX12_isFull_116 (by decide) (fun h11 => ?_) (fun h11 => ?_)
          · refine rhF.aload_n (pc := 129) dX12_isFull_129 0 rfl ?_
            refine rhF.ldc2 (pc := 130) dX12_isFull_130 k_X12_238 ?_
            refine rhF.callV (pc := 133) (ci := 12) (embc := rhe0I _ _) [rhJ _] dX12_isFull_133 ml_X12_304 mv_X12_isWord ⟨_, rfl, rfl⟩ h1 (c_X12_isWord _ _ _ _ _) (by decide) (by decide) rfl (Nat.le_of_ble_eq_true rfl) (fun r12 _ => ?_)
            refine rhF.if_eq (pc := 136) 151 dX12_isFull_136 (by decide) (fun h13 => ?_) (fun h13 => ?_)
            · refine rhF.iconst (pc := 151) (v := 1) dX12_isFull_151 (by decide) ?_
              refine rhF.goto (pc := 152) 156 dX12_isFull_152 (by decide) ?_
              exact rhF.zret (pc := 156) dX12_isFull_156 rfl rfl rfl
            · refine rhF.aload_n (pc := 139) dX12_isFull_139 0 rfl ?_
              refine rhF.get (pc := 140) (rhR _) dX12_isFull_140 fl_X12_64 h1 rfl ?_
              refine rhF.aload_n (pc := 143) dX12_isFull_143 0 rfl ?_
              refine rhF.get (pc := 144) (rhI _) dX12_isFull_144 fl_X12_318 h1 rfl ?_
              refine rhF.ck (fun h14 => ?_)
              refine rhF.ck (fun h15 => ?_)
              refine rhF.zald (pc := 147) dX12_isFull_147 h14 h15 ?_
              refine rhF.if_eq (pc := 148) 155 dX12_isFull_148 (by decide) (fun h16 => ?_) (fun h16 => ?_)
              · refine rhF.iconst (pc := 155) (v := 0) dX12_isFull_155 (by decide) ?_
                exact rhF.zret (pc := 156) dX12_isFull_156 rfl rfl rfl
              · refine rhF.iconst (pc := 151) (v := 1) dX12_isFull_151 (by decide) ?_
                refine rhF.goto (pc := 152) 156 dX12_isFull_152 (by decide) ?_
                exact rhF.zret (pc := 156) dX12_isFull_156 rfl rfl rfl
          · refine rhF.aload_n (pc := 119) dX12_isFull_119 0 rfl ?_
            refine rhF.get (pc := 120) (rhR _) dX12_isFull_120 fl_X12_61 h1 rfl ?_
            refine rhF.aload_n (pc := 123) dX12_isFull_123 0 rfl ?_
            refine rhF.get (pc := 124) (rhI _) dX12_isFull_124 fl_X12_318 h1 rfl ?_
            refine rhF.ck (fun h17 => ?_)
            refine rhF.ck (fun h18 => ?_)
            refine rhF.zald (pc := 127) dX12_isFull_127 h17 h18 ?_
            refine rhF.ck (fun h19 => ?_)
            exact rhF.zret (pc := 128) dX12_isFull_128 rfl (rhzb h19) rfl
        · refine rhF.aload_n (pc := 99) dX12_isFull_99 0 rfl ?_
          refine rhF.get (pc := 100) (rhR _) dX12_isFull_100 fl_X12_57 h1 rfl ?_
          refine rhF.aload_n (pc := 103) dX12_isFull_103 0 rfl ?_
          refine rhF.get (pc := 104) (rhI _) dX12_isFull_104 fl_X12_318 h1 rfl ?_
          refine rhF.ck (fun h20 => ?_)
          refine rhF.ck (fun h21 => ?_)
          refine rhF.zald (pc := 107) dX12_isFull_107 h20 h21 ?_
          refine rhF.ck (fun h22 => ?_)
          exact rhF.zret (pc := 108) dX12_isFull_108 rfl (rhzb h22) rfl
      · refine rhF.aload_n (pc := 69) dX12_isFull_69 0 rfl ?_
        refine rhF.get (pc := 70) (rhR _) dX12_isFull_70 fl_X12_27 h1 rfl ?_
        refine rhF.aload_n (pc := 73) dX12_isFull_73 0 rfl ?_
        refine rhF.get (pc := 74) (rhI _) dX12_isFull_74 fl_X12_318 h1 rfl ?_
        refine rhF.ck (fun h23 => ?_)
        refine rhF.ck (fun h24 => ?_)
        refine rhF.iald (pc := 77) dX12_isFull_77 h23 h24 ?_
        refine rhF.bipush (pc := 78) (v := 20) dX12_isFull_78 (by decide) ?_
        refine rhF.icmp_ne (pc := 80) 87 dX12_isFull_80 (by decide) (fun h25 => ?_) (fun h25 => ?_)
        · refine rhF.iconst (pc := 83) (v := 1) dX12_isFull_83 (by decide) ?_
          refine rhF.goto (pc := 84) 88 dX12_isFull_84 (by decide) ?_
          exact rhF.zret (pc := 88) dX12_isFull_88 rfl rfl rfl
        · refine rhF.iconst (pc := 87) (v := 0) dX12_isFull_87 (by decide) ?_
          exact rhF.zret (pc := 88) dX12_isFull_88 rfl rfl rfl
    · refine rhF.aload_n (pc := 39) dX12_isFull_39 0 rfl ?_
      refine rhF.get (pc := 40) (rhR _) dX12_isFull_40 fl_X12_24 h1 rfl ?_
      refine rhF.aload_n (pc := 43) dX12_isFull_43 0 rfl ?_
      refine rhF.get (pc := 44) (rhI _) dX12_isFull_44 fl_X12_318 h1 rfl ?_
      refine rhF.ck (fun h26 => ?_)
      refine rhF.ck (fun h27 => ?_)
      refine rhF.iald (pc := 47) dX12_isFull_47 h26 h27 ?_
      refine rhF.bipush (pc := 48) (v := 8) dX12_isFull_48 (by decide) ?_
      refine rhF.icmp_ne (pc := 50) 57 dX12_isFull_50 (by decide) (fun h28 => ?_) (fun h28 => ?_)
      · refine rhF.iconst (pc := 53) (v := 1) dX12_isFull_53 (by decide) ?_
        refine rhF.goto (pc := 54) 58 dX12_isFull_54 (by decide) ?_
        exact rhF.zret (pc := 58) dX12_isFull_58 rfl rfl rfl
      · refine rhF.iconst (pc := 57) (v := 0) dX12_isFull_57 (by decide) ?_
        exact rhF.zret (pc := 58) dX12_isFull_58 rfl rfl rfl
  · refine rhF.aload_n (pc := 10) dX12_isFull_10 0 rfl ?_
    refine rhF.get (pc := 11) (rhR _) dX12_isFull_11 fl_X12_20 h1 rfl ?_
    refine rhF.aload_n (pc := 14) dX12_isFull_14 0 rfl ?_
    refine rhF.get (pc := 15) (rhI _) dX12_isFull_15 fl_X12_318 h1 rfl ?_
    refine rhF.ck (fun h29 => ?_)
    refine rhF.ck (fun h30 => ?_)
    refine rhF.iald (pc := 18) dX12_isFull_18 h29 h30 ?_
    refine rhF.iconst (pc := 19) (v := 5) dX12_isFull_19 (by decide) ?_
    refine rhF.icmp_ne (pc := 20) 27 dX12_isFull_20 (by decide) (fun h31 => ?_) (fun h31 => ?_)
    · refine rhF.iconst (pc := 23) (v := 1) dX12_isFull_23 (by decide) ?_
      refine rhF.goto (pc := 24) 28 dX12_isFull_24 (by decide) ?_
      exact rhF.zret (pc := 28) dX12_isFull_28 rfl rfl rfl
    · refine rhF.iconst (pc := 27) (v := 0) dX12_isFull_27 (by decide) ?_
      exact rhF.zret (pc := 28) dX12_isFull_28 rfl rfl rfl
theorem c_X12_isFull (E : rhE) (Γ : rhG) (M : rhM) (v0 : Nat) : ∀ a, f_X12_isFull Γ M v0 = some a → rhC E 5 yX12_isFull cX12_isFull 1 (some .boolean) [rhR v0] Γ M ((rhe0I Γ M) a) := rhF.met (by decide +kernel) (Nat.le_of_ble_eq_true rfl) (b_X12_isFull v0)
def f_X12_worthOfRow_4 (Γ : rhG) (M : rhM) : Nat → Nat → Int32 → Int32 → Option (Int32)
  | 0, _, _, _ => none
  | n + 1, v0, v1, v2 =>
    rhck (Γ.2.2.1 v0 = 13) <|
    (f_X12_railMany Γ M v0).bind fun r2 =>
    if 0 < r2 then
      (rhck (Γ.2.2.1 (M.2.2 v0 40) = 15) <|
      rhck (0 ≤ (0 : Int32).toInt ∧ (0 : Int32).toInt < (Γ.2.2.2 (M.2.2 v0 40) : Nat)) <|
      if v2 < (M.1 (M.2.2 v0 40) (0 : Int32).toNatClampNeg) then
        (rhck (Γ.2.2.1 (M.2.2 v0 39) = 15) <|
        rhck (0 ≤ (v2 - 1).toInt ∧ (v2 - 1).toInt < (Γ.2.2.2 (M.2.2 v0 39) : Nat)) <|
        rhck (0 ≤ (v2).toInt ∧ (v2).toInt < (Γ.2.2.2 (M.2.2 v0 39) : Nat)) <|
        rhck (Γ.2.2.1 (M.2.2 v0 22) = 15) <|
        rhck (0 ≤ (((64 * (M.1 v0 34)) + (8 * (M.1 (M.2.2 v0 39) (v2 - 1).toNatClampNeg))) + (M.1 (M.2.2 v0 39) v2.toNatClampNeg)).toInt ∧ (((64 * (M.1 v0 34)) + (8 * (M.1 (M.2.2 v0 39) (v2 - 1).toNatClampNeg))) + (M.1 (M.2.2 v0 39) v2.toNatClampNeg)).toInt < (Γ.2.2.2 (M.2.2 v0 22) : Nat)) <|
        let x12 := v1 + (M.1 (M.2.2 v0 22) (((64 * (M.1 v0 34)) + (8 * (M.1 (M.2.2 v0 39) (v2 - 1).toNatClampNeg))) + (M.1 (M.2.2 v0 39) v2.toNatClampNeg)).toNatClampNeg)
        let x13 : Int32 := v2 + 1
        f_X12_worthOfRow_4 Γ M n v0 x12 x13)
      else
        some v1)
    else
      some v1
def f_X12_worthOfRow (Γ : rhG) (M : rhM) (v0 : Nat) : Option (Int32) :=
  f_X12_worthOfRow_4 Γ M rhFU v0 0 1
set_option maxHeartbeats 4000000 in
set_option maxRecDepth 100000 in
theorem b_X12_worthOfRow_4 {E : rhE} {Γ : rhG} {M : rhM} : ∀ (n : Nat) (v0 : Nat) (v1 : Int32) (v2 : Int32), rhF E 5 3 yX12_worthOfRow cX12_worthOfRow (some .int) Γ (rhe0I Γ M) (f_X12_worthOfRow_4 Γ M n v0 v1 v2) 4 [(0, rhR v0), (1, rhI v1), (2, rhI v2)] [] Γ M := by
  intro n
  induction n with
  | zero => intro v0 v1 v2; rw [f_X12_worthOfRow_4]; exact rhF.nope
  | succ n ih =>
    intro v0 v1 v2
    rw [f_X12_worthOfRow_4]
    refine rhF.aload_n (pc := 4) dX12_worthOfRow_4 0 rfl ?_
    refine rhF.ck (fun h1 => ?_)
    refine rhF.callV (pc := 5) (ci := 12) (embc := rhe0I _ _) [] dX12_worthOfRow_5 ml_X12_412 mv_X12_railMany ⟨_, rfl, rfl⟩ h1 (c_X12_railMany _ _ _ _) (by decide) (by decide) rfl (Nat.le_of_ble_eq_true rfl) (fun r2 _ => ?_)
    refine rhF.if_le (pc := 8) 61 dX12_worthOfRow_8 (by decide) (fun h3 => ?_) (fun h3 => ?_)
    · refine rhF.iload_n (pc := 11) dX12_worthOfRow_11 2 rfl ?_
      refine rhF.aload_n (pc := 12) dX12_worthOfRow_12 0 rfl ?_
      refine rhF.get (pc := 13) (rhR _) dX12_worthOfRow_13 fl_X12_95 h1 rfl ?_
      refine rhF.iconst (pc := 16) (v := 0) dX12_worthOfRow_16 (by decide) ?_
      refine rhF.ck (fun h4 => ?_)
      refine rhF.ck (fun h5 => ?_)
      refine rhF.iald (pc := 17) dX12_worthOfRow_17 h4 h5 ?_
      refine rhF.icmp_ge (pc := 18) 61 dX12_worthOfRow_18 (by decide) (fun h6 => ?_) (fun h6 => ?_)
      · refine rhF.iload_n (pc := 21) dX12_worthOfRow_21 1 rfl ?_
        refine rhF.aload_n (pc := 22) dX12_worthOfRow_22 0 rfl ?_
        refine rhF.get (pc := 23) (rhR _) dX12_worthOfRow_23 fl_X12_54 h1 rfl ?_
        refine rhF.bipush (pc := 26) (v := 64) dX12_worthOfRow_26 (by decide) ?_
        refine rhF.aload_n (pc := 28) dX12_worthOfRow_28 0 rfl ?_
        refine rhF.get (pc := 29) (rhI _) dX12_worthOfRow_29 fl_X12_327 h1 rfl ?_
        refine rhF.imul (pc := 32) dX12_worthOfRow_32 ?_
        refine rhF.bipush (pc := 33) (v := 8) dX12_worthOfRow_33 (by decide) ?_
        refine rhF.aload_n (pc := 35) dX12_worthOfRow_35 0 rfl ?_
        refine rhF.get (pc := 36) (rhR _) dX12_worthOfRow_36 fl_X12_92 h1 rfl ?_
        refine rhF.iload_n (pc := 39) dX12_worthOfRow_39 2 rfl ?_
        refine rhF.iconst (pc := 40) (v := 1) dX12_worthOfRow_40 (by decide) ?_
        refine rhF.isub (pc := 41) dX12_worthOfRow_41 ?_
        refine rhF.ck (fun h7 => ?_)
        refine rhF.ck (fun h8 => ?_)
        refine rhF.iald (pc := 42) dX12_worthOfRow_42 h7 h8 ?_
        refine rhF.imul (pc := 43) dX12_worthOfRow_43 ?_
        refine rhF.iadd (pc := 44) dX12_worthOfRow_44 ?_
        refine rhF.aload_n (pc := 45) dX12_worthOfRow_45 0 rfl ?_
        refine rhF.get (pc := 46) (rhR _) dX12_worthOfRow_46 fl_X12_92 h1 rfl ?_
        refine rhF.iload_n (pc := 49) dX12_worthOfRow_49 2 rfl ?_
        refine rhF.ck (fun h9 => ?_)
        refine rhF.iald (pc := 50) dX12_worthOfRow_50 h7 h9 ?_
        refine rhF.iadd (pc := 51) dX12_worthOfRow_51 ?_
        refine rhF.ck (fun h10 => ?_)
        refine rhF.ck (fun h11 => ?_)
        refine rhF.iald (pc := 52) dX12_worthOfRow_52 h10 h11 ?_
        refine rhF.iadd (pc := 53) dX12_worthOfRow_53 ?_
        refine rhF.istore_n (pc := 54) (L' := [(1, rhI _), (0, rhR _), (2, rhI _)]) dX12_worthOfRow_54 (by decide) rfl ?_
        refine rhF.iinc (pc := 55) (L' := [(2, rhI _), (1, rhI _), (0, rhR _)]) dX12_worthOfRow_55 2 rfl rfl (by decide) rfl ?_
        refine rhF.goto (pc := 58) 4 dX12_worthOfRow_58 (by decide) ?_
        refine rhF.sub [2, 1, 0] rfl ?_
        exact ih _ _ _
      · refine rhF.iload_n (pc := 61) dX12_worthOfRow_61 1 rfl ?_
        exact rhF.zret (pc := 62) dX12_worthOfRow_62 rfl rfl rfl
    · refine rhF.iload_n (pc := 61) dX12_worthOfRow_61 1 rfl ?_
      exact rhF.zret (pc := 62) dX12_worthOfRow_62 rfl rfl rfl
set_option maxHeartbeats 4000000 in
set_option maxRecDepth 100000 in
theorem b_X12_worthOfRow {E : rhE} {Γ : rhG} {M : rhM} : ∀ (v0 : Nat), rhF E 5 3 yX12_worthOfRow cX12_worthOfRow (some .int) Γ (rhe0I Γ M) (f_X12_worthOfRow Γ M v0) 0 [(0, rhR v0)] [] Γ M := by
  intro v0
  rw [f_X12_worthOfRow]
  refine rhF.iconst (pc := 0) (v := 0) dX12_worthOfRow_0 (by decide) ?_
  refine rhF.istore_n (pc := 1) (L' := [(1, rhI _), (0, rhR _)]) dX12_worthOfRow_1 (by decide) rfl ?_
  refine rhF.iconst (pc := 2) (v := 1) dX12_worthOfRow_2 (by decide) ?_
  refine rhF.istore_n (pc := 3) (L' := [(2, rhI _), (1, rhI _), (0, rhR _)]) dX12_worthOfRow_3 (by decide) rfl ?_
  refine rhF.sub [2, 1, 0] rfl ?_
  exact (b_X12_worthOfRow_4 rhFU) _ _ _
theorem c_X12_worthOfRow (E : rhE) (Γ : rhG) (M : rhM) (v0 : Nat) : ∀ a, f_X12_worthOfRow Γ M v0 = some a → rhC E 5 yX12_worthOfRow cX12_worthOfRow 3 (some .int) [rhR v0] Γ M ((rhe0I Γ M) a) := rhF.met (by decide +kernel) (Nat.le_of_ble_eq_true rfl) (b_X12_worthOfRow v0)
def f_X12_judge_21 (k78 : rhM → Nat → Int32 → Int32 → Int32 → Option (Int32 × rhM)) (k131 : rhM → Nat → Int32 → Int32 → Option (Int32 × rhM)) (Γ : rhG) : Nat → rhM → Nat → Int32 → Int32 → Int32 → Option (Int32 × rhM)
  | 0, _, _, _, _, _ => none
  | n + 1, M, v0, v1, v2, v3 =>
    rhck (Γ.2.2.1 v0 = 13) <|
    if v3 < (M.1 v0 51) then
      (rhck (Γ.2.2.1 (M.2.2 v0 50) = 15) <|
      rhck (0 ≤ (v3).toInt ∧ (v3).toInt < (Γ.2.2.2 (M.2.2 v0 50) : Nat)) <|
      let x9 := (M.1 (M.2.2 v0 50) v3.toNatClampNeg) / 100
      let x10 := ((M.1 (M.2.2 v0 50) v3.toNatClampNeg) / 10) - ((M.1 (M.2.2 v0 50) v3.toNatClampNeg) / 10) / 10 * 10
      let x11 := (M.1 (M.2.2 v0 50) v3.toNatClampNeg) - (M.1 (M.2.2 v0 50) v3.toNatClampNeg) / 10 * 10
      (f_X12_isLawful Γ M v0 x9 x10 x11).bind fun r12 =>
      if r12.1 = 0 then
        (k78 r12.2 v0 v1 v2 v3)
      else
        (f_X12_sumOf Γ r12.2 v0 (r12.2.2.2 v0 20) x9 x10).bind fun r14 =>
        let x15 := v2 + r14
        (f_X12_moves Γ r12.2 v0 x9 x10 x11).bind fun r16 =>
        let x17 : Int32 := v3 + 1
        f_X12_judge_21 k78 k131 Γ n r16 v0 v1 x15 x17)
    else
      k131 M v0 v1 v2
def f_X12_judge_78 (Γ : rhG) (M : rhM) (v0 : Nat) (v1 : Int32) (v2 : Int32) (v3 : Int32) : Option (Int32 × rhM) :=
  if v1 = 0 then
    (some ((v3, M)))
  else
    if v1 = 1 then
      (some ((v2, M)))
    else
      rhck (Γ.2.2.1 v0 = 13) <|
      (f_X12_worthOfRow Γ M v0).bind fun r21 =>
      some ((r21, M))
def f_X12_judge_131 (Γ : rhG) (M : rhM) (v0 : Nat) (v1 : Int32) (v2 : Int32) : Option (Int32 × rhM) :=
  if v1 = 0 then
    (some (((-1), M)))
  else
    if v1 = 1 then
      (some ((v2, M)))
    else
      rhck (Γ.2.2.1 v0 = 13) <|
      (f_X12_worthOfRow Γ M v0).bind fun r25 =>
      some ((r25, M))
def f_X12_judge (Γ : rhG) (M : rhM) (v0 : Nat) (v1 : Int32) : Option (Int32 × rhM) :=
  (f_X12_isIn Γ M v1 (0 : Int32) (2 : Int32)).bind fun r1 =>
  if r1 = 0 then
    (some (((-1000000), M)))
  else
    rhck (Γ.2.2.1 v0 = 13) <|
    (f_X12_layNow Γ M v0).bind fun r4 =>
    f_X12_judge_21 (f_X12_judge_78 Γ) (f_X12_judge_131 Γ) Γ rhFU r4 v0 v1 0 0
set_option maxHeartbeats 4000000 in
set_option maxRecDepth 100000 in
theorem b_X12_judge_21 {E : rhE} {Γ : rhG} {k78 : rhM → Nat → Int32 → Int32 → Int32 → Option (Int32 × rhM)} {k131 : rhM → Nat → Int32 → Int32 → Option (Int32 × rhM)} (hk78 : ∀ (M : rhM) (v0 : Nat) (v1 : Int32) (v2 : Int32) (v3 : Int32), rhF E 9 7 yX12_judge cX12_judge (some .int) Γ (rhe1I Γ) (k78 M v0 v1 v2 v3) 78 [(0, rhR v0), (1, rhI v1), (2, rhI v2), (3, rhI v3)] [] Γ M) (hk131 : ∀ (M : rhM) (v0 : Nat) (v1 : Int32) (v2 : Int32), rhF E 9 7 yX12_judge cX12_judge (some .int) Γ (rhe1I Γ) (k131 M v0 v1 v2) 131 [(0, rhR v0), (1, rhI v1), (2, rhI v2)] [] Γ M) : ∀ (n : Nat) (M : rhM) (v0 : Nat) (v1 : Int32) (v2 : Int32) (v3 : Int32), rhF E 9 7 yX12_judge cX12_judge (some .int) Γ (rhe1I Γ) (f_X12_judge_21 k78 k131 Γ n M v0 v1 v2 v3) 21 [(0, rhR v0), (1, rhI v1), (2, rhI v2), (3, rhI v3)] [] Γ M := by
  intro n
  induction n with
  | zero => intro M v0 v1 v2 v3; rw [f_X12_judge_21]; exact rhF.nope
  | succ n ih =>
    intro M v0 v1 v2 v3
    rw [f_X12_judge_21]
    refine rhF.iload_n (pc := 21) dX12_judge_21 3 rfl ?_
    refine rhF.aload_n (pc := 22) dX12_judge_22 0 rfl ?_
    refine rhF.ck (fun h5 => ?_)
    refine rhF.get (pc := 23) (rhI _) dX12_judge_23 fl_X12_336 h5 rfl ?_
    refine rhF.icmp_ge (pc := 26) 131 dX12_judge_26 (by decide) (fun h6 => ?_) (fun h6 => ?_)
    · refine rhF.aload_n (pc := 29) dX12_judge_29 0 rfl ?_
      refine rhF.get (pc := 30) (rhR _) dX12_judge_30 fl_X12_116 h5 rfl ?_
      refine rhF.iload_n (pc := 33) dX12_judge_33 3 rfl ?_
      refine rhF.ck (fun h7 => ?_)
      refine rhF.ck (fun h8 => ?_)
      refine rhF.iald (pc := 34) dX12_judge_34 h7 h8 ?_
      refine rhF.bipush (pc := 35) (v := 100) dX12_judge_35 (by decide) ?_
      refine rhF.idivc (pc := 37) dX12_judge_37 (by decide) ?_
      refine rhF.istore (pc := 38) (L' := [(4, rhI _), (0, rhR _), (1, rhI _), (2, rhI _), (3, rhI _)]) dX12_judge_38 (by decide) rfl ?_
      refine rhF.aload_n (pc := 40) dX12_judge_40 1 rfl ?_
      refine rhF.get (pc := 41) (rhR _) dX12_judge_41 fl_X12_116 h5 rfl ?_
      refine rhF.iload_n (pc := 44) dX12_judge_44 4 rfl ?_
      refine rhF.iald (pc := 45) dX12_judge_45 h7 h8 ?_
      refine rhF.bipush (pc := 46) (v := 10) dX12_judge_46 (by decide) ?_
      refine rhF.idivc (pc := 48) dX12_judge_48 (by decide) ?_
      refine rhF.bipush (pc := 49) (v := 10) dX12_judge_49 (by decide) ?_
      refine rhF.iremc (pc := 51) dX12_judge_51 (by decide) ?_
      refine rhF.istore (pc := 52) (L' := [(5, rhI _), (4, rhI _), (0, rhR _), (1, rhI _), (2, rhI _), (3, rhI _)]) dX12_judge_52 (by decide) rfl ?_
      refine rhF.aload_n (pc := 54) dX12_judge_54 2 rfl ?_
      refine rhF.get (pc := 55) (rhR _) dX12_judge_55 fl_X12_116 h5 rfl ?_
      refine rhF.iload_n (pc := 58) dX12_judge_58 5 rfl ?_
      refine rhF.iald (pc := 59) dX12_judge_59 h7 h8 ?_
      refine rhF.bipush (pc := 60) (v := 10) dX12_judge_60 (by decide) ?_
      refine rhF.iremc (pc := 62) dX12_judge_62 (by decide) ?_
      refine rhF.istore (pc := 63) (L' := [(6, rhI _), (5, rhI _), (4, rhI _), (0, rhR _), (1, rhI _), (2, rhI _), (3, rhI _)]) dX12_judge_63 (by decide) rfl ?_
      refine rhF.aload_n (pc := 65) dX12_judge_65 3 rfl ?_
      refine rhF.iload (pc := 66) dX12_judge_66 2 rfl ?_
      refine rhF.iload (pc := 68) dX12_judge_68 1 rfl ?_
      refine rhF.iload (pc := 70) dX12_judge_70 0 rfl ?_
      refine rhF.callV (pc := 72) (ci := 12) (embc := rhe1I _) [rhI _, rhI _, rhI _] dX12_judge_72 ml_X12_471 mv_X12_isLawful ⟨_, rfl, rfl⟩ h5 (c_X12_isLawful _ _ _ _ _ _ _) (by decide) (by decide) rfl (Nat.le_of_ble_eq_true rfl) (fun r12 _ => ?_)
      refine rhF.if_ne (pc := 75) 100 dX12_judge_75 (by decide) (fun h13 => ?_) (fun h13 => ?_)
      · refine rhF.sub [3, 4, 5, 6] rfl ?_
        exact hk78 _ _ _ _ _
      · refine rhF.iload_n (pc := 100) dX12_judge_100 5 rfl ?_
        refine rhF.aload_n (pc := 101) dX12_judge_101 3 rfl ?_
        refine rhF.aload_n (pc := 102) dX12_judge_102 3 rfl ?_
        refine rhF.get (pc := 103) (rhR _) dX12_judge_103 fl_X12_48 h5 rfl ?_
        refine rhF.iload (pc := 106) dX12_judge_106 2 rfl ?_
        refine rhF.iload (pc := 108) dX12_judge_108 1 rfl ?_
        refine rhF.callV (pc := 110) (ci := 12) (embc := rhe0I _ _) [rhR _, rhI _, rhI _] dX12_judge_110 ml_X12_431 mv_X12_sumOf ⟨_, rfl, rfl⟩ h5 (c_X12_sumOf _ _ _ _ _ _ _) (by decide) (by decide) rfl (Nat.le_of_ble_eq_true rfl) (fun r14 _ => ?_)
        refine rhF.iadd (pc := 113) dX12_judge_113 ?_
        refine rhF.istore_n (pc := 114) (L' := [(2, rhI _), (6, rhI _), (5, rhI _), (4, rhI _), (0, rhR _), (1, rhI _), (3, rhI _)]) dX12_judge_114 (by decide) rfl ?_
        refine rhF.aload_n (pc := 115) dX12_judge_115 4 rfl ?_
        refine rhF.iload (pc := 116) dX12_judge_116 3 rfl ?_
        refine rhF.iload (pc := 118) dX12_judge_118 2 rfl ?_
        refine rhF.iload (pc := 120) dX12_judge_120 1 rfl ?_
        refine rhF.callV (pc := 122) (ci := 12) (embc := rhe1U _) [rhI _, rhI _, rhI _] dX12_judge_122 ml_X12_474 mv_X12_moves ⟨_, rfl, rfl⟩ h5 (c_X12_moves _ _ _ _ _ _ _) (by decide) (by decide) rfl (Nat.le_of_ble_eq_true rfl) (fun r16 _ => ?_)
        refine rhF.iinc (pc := 125) (L' := [(3, rhI _), (2, rhI _), (6, rhI _), (5, rhI _), (4, rhI _), (0, rhR _), (1, rhI _)]) dX12_judge_125 6 rfl rfl (by decide) rfl ?_
        refine rhF.goto (pc := 128) 21 dX12_judge_128 (by decide) ?_
        refine rhF.sub [5, 6, 1, 0] rfl ?_
        exact ih _ _ _ _ _
    · refine rhF.sub [0, 1, 2] rfl ?_
      exact hk131 _ _ _ _
set_option maxHeartbeats 4000000 in
set_option maxRecDepth 100000 in
theorem b_X12_judge_78 {E : rhE} {Γ : rhG} : ∀ (M : rhM) (v0 : Nat) (v1 : Int32) (v2 : Int32) (v3 : Int32), rhF E 9 7 yX12_judge cX12_judge (some .int) Γ (rhe1I Γ) (f_X12_judge_78 Γ M v0 v1 v2 v3) 78 [(0, rhR v0), (1, rhI v1), (2, rhI v2), (3, rhI v3)] [] Γ M := by
  intro M v0 v1 v2 v3
  rw [f_X12_judge_78]
  refine rhF.iload_n (pc := 78) dX12_judge_78 1 rfl ?_
  refine rhF.if_ne (pc := 79) 86 dX12_judge_79 (by decide) (fun h18 => ?_) (fun h18 => ?_)
  · refine rhF.iload_n (pc := 82) dX12_judge_82 3 rfl ?_
    refine rhF.goto (pc := 83) 99 dX12_judge_83 (by decide) ?_
    exact rhF.zret (pc := 99) dX12_judge_99 rfl rfl rfl
  · refine rhF.iload_n (pc := 86) dX12_judge_86 1 rfl ?_
    refine rhF.iconst (pc := 87) (v := 1) dX12_judge_87 (by decide) ?_
    refine rhF.icmp_ne (pc := 88) 95 dX12_judge_88 (by decide) (fun h19 => ?_) (fun h19 => ?_)
    · refine rhF.iload_n (pc := 91) dX12_judge_91 2 rfl ?_
      refine rhF.goto (pc := 92) 99 dX12_judge_92 (by decide) ?_
      exact rhF.zret (pc := 99) dX12_judge_99 rfl rfl rfl
    · refine rhF.aload_n (pc := 95) dX12_judge_95 0 rfl ?_
      refine rhF.ck (fun h20 => ?_)
      refine rhF.callV (pc := 96) (ci := 12) (embc := rhe0I _ _) [] dX12_judge_96 ml_X12_478 mv_X12_worthOfRow ⟨_, rfl, rfl⟩ h20 (c_X12_worthOfRow _ _ _ _) (by decide) (by decide) rfl (Nat.le_of_ble_eq_true rfl) (fun r21 _ => ?_)
      exact rhF.zret (pc := 99) dX12_judge_99 rfl rfl rfl
set_option maxHeartbeats 4000000 in
set_option maxRecDepth 100000 in
theorem b_X12_judge_131 {E : rhE} {Γ : rhG} : ∀ (M : rhM) (v0 : Nat) (v1 : Int32) (v2 : Int32), rhF E 9 7 yX12_judge cX12_judge (some .int) Γ (rhe1I Γ) (f_X12_judge_131 Γ M v0 v1 v2) 131 [(0, rhR v0), (1, rhI v1), (2, rhI v2)] [] Γ M := by
  intro M v0 v1 v2
  rw [f_X12_judge_131]
  refine rhF.iload_n (pc := 131) dX12_judge_131 1 rfl ?_
  refine rhF.if_ne (pc := 132) 139 dX12_judge_132 (by decide) (fun h22 => ?_) (fun h22 => ?_)
  · refine rhF.iconst (pc := 135) (v := (-1)) dX12_judge_135 (by decide) ?_
    refine rhF.goto (pc := 136) 152 dX12_judge_136 (by decide) ?_
    exact rhF.zret (pc := 152) dX12_judge_152 rfl rfl rfl
  · refine rhF.iload_n (pc := 139) dX12_judge_139 1 rfl ?_
    refine rhF.iconst (pc := 140) (v := 1) dX12_judge_140 (by decide) ?_
    refine rhF.icmp_ne (pc := 141) 148 dX12_judge_141 (by decide) (fun h23 => ?_) (fun h23 => ?_)
    · refine rhF.iload_n (pc := 144) dX12_judge_144 2 rfl ?_
      refine rhF.goto (pc := 145) 152 dX12_judge_145 (by decide) ?_
      exact rhF.zret (pc := 152) dX12_judge_152 rfl rfl rfl
    · refine rhF.aload_n (pc := 148) dX12_judge_148 0 rfl ?_
      refine rhF.ck (fun h24 => ?_)
      refine rhF.callV (pc := 149) (ci := 12) (embc := rhe0I _ _) [] dX12_judge_149 ml_X12_478 mv_X12_worthOfRow ⟨_, rfl, rfl⟩ h24 (c_X12_worthOfRow _ _ _ _) (by decide) (by decide) rfl (Nat.le_of_ble_eq_true rfl) (fun r25 _ => ?_)
      exact rhF.zret (pc := 152) dX12_judge_152 rfl rfl rfl
set_option maxHeartbeats 4000000 in
set_option maxRecDepth 100000 in
theorem b_X12_judge {E : rhE} {Γ : rhG} : ∀ (M : rhM) (v0 : Nat) (v1 : Int32), rhF E 9 7 yX12_judge cX12_judge (some .int) Γ (rhe1I Γ) (f_X12_judge Γ M v0 v1) 0 [(0, rhR v0), (1, rhI v1)] [] Γ M := by
  intro M v0 v1
  rw [f_X12_judge]
  refine rhF.iload_n (pc := 0) dX12_judge_0 1 rfl ?_
  refine rhF.iconst (pc := 1) (v := 0) dX12_judge_1 (by decide) ?_
  refine rhF.iconst (pc := 2) (v := 2) dX12_judge_2 (by decide) ?_
  refine rhF.callS (pc := 3) (embc := rhe0I _ _) [rhI _, rhI _, rhI _] dX12_judge_3 ml_X12_415 ms_X12_isIn (c_X12_isIn _ _ _ _ _ _) (by decide) (by decide) rfl (Nat.le_of_ble_eq_true rfl) (fun r1 _ => ?_)
  refine rhF.if_ne (pc := 6) 13 dX12_judge_6 (by decide) (fun h2 => ?_) (fun h2 => ?_)
  · refine rhF.ldcw (pc := 9) dX12_judge_9 k_X12_470 ?_
    exact rhF.zret (pc := 12) dX12_judge_12 rfl rfl rfl
  · refine rhF.aload_n (pc := 13) dX12_judge_13 0 rfl ?_
    refine rhF.ck (fun h3 => ?_)
    refine rhF.callV (pc := 14) (ci := 12) (embc := rhe1U _) [] dX12_judge_14 ml_X12_467 mv_X12_layNow ⟨_, rfl, rfl⟩ h3 (c_X12_layNow _ _ _ _) (by decide) (by decide) rfl (Nat.le_of_ble_eq_true rfl) (fun r4 _ => ?_)
    refine rhF.iconst (pc := 17) (v := 0) dX12_judge_17 (by decide) ?_
    refine rhF.istore_n (pc := 18) (L' := [(2, rhI _), (0, rhR _), (1, rhI _)]) dX12_judge_18 (by decide) rfl ?_
    refine rhF.iconst (pc := 19) (v := 0) dX12_judge_19 (by decide) ?_
    refine rhF.istore_n (pc := 20) (L' := [(3, rhI _), (2, rhI _), (0, rhR _), (1, rhI _)]) dX12_judge_20 (by decide) rfl ?_
    refine rhF.sub [2, 3, 1, 0] rfl ?_
    exact (b_X12_judge_21 (b_X12_judge_78) (b_X12_judge_131) rhFU) _ _ _ _ _
theorem c_X12_judge (E : rhE) (Γ : rhG) (M : rhM) (v0 : Nat) (v1 : Int32) : ∀ a, f_X12_judge Γ M v0 v1 = some a → rhC E 9 yX12_judge cX12_judge 7 (some .int) [rhR v0, rhI v1] Γ M ((rhe1I Γ) a) := rhF.met (by decide +kernel) (Nat.le_of_ble_eq_true rfl) (b_X12_judge M v0 v1)
def f_X12_later (Γ : rhG) (M : rhM) (v0 : Nat) (v1 : Int32) : Option (Int32 × rhM) :=
  (f_X12_isIn Γ M v1 (0 : Int32) (1000 : Int32)).bind fun r1 =>
  if r1 = 0 then
    (some (((-1), M)))
  else
    rhck (Γ.2.2.1 v0 = 13) <|
    if 100000 < ((M.1 v0 83) + v1) then
      (some (((-1), M)))
    else
      let M5 := rhsi M v0 83 ((M.1 v0 83) + v1)
      some ((M5.1 v0 83, M5))
set_option maxHeartbeats 4000000 in
set_option maxRecDepth 100000 in
theorem b_X12_later {E : rhE} {Γ : rhG} : ∀ (M : rhM) (v0 : Nat) (v1 : Int32), rhF E 5 2 yX12_later cX12_later (some .int) Γ (rhe1I Γ) (f_X12_later Γ M v0 v1) 0 [(0, rhR v0), (1, rhI v1)] [] Γ M := by
  intro M v0 v1
  rw [f_X12_later]
  refine rhF.iload_n (pc := 0) dX12_later_0 1 rfl ?_
  refine rhF.iconst (pc := 1) (v := 0) dX12_later_1 (by decide) ?_
  refine rhF.sipush (pc := 2) (v := 1000) dX12_later_2 (by decide) ?_
  refine rhF.callS (pc := 5) (embc := rhe0I _ _) [rhI _, rhI _, rhI _] dX12_later_5 ml_X12_415 ms_X12_isIn (c_X12_isIn _ _ _ _ _ _) (by decide) (by decide) rfl (Nat.le_of_ble_eq_true rfl) (fun r1 _ => ?_)
  refine rhF.if_eq (pc := 8) 23 dX12_later_8 (by decide) (fun h2 => ?_) (fun h2 => ?_)
  · refine rhF.iconst (pc := 23) (v := (-1)) dX12_later_23 (by decide) ?_
    exact rhF.zret (pc := 24) dX12_later_24 rfl rfl rfl
  · refine rhF.aload_n (pc := 11) dX12_later_11 0 rfl ?_
    refine rhF.ck (fun h3 => ?_)
    refine rhF.get (pc := 12) (rhI _) dX12_later_12 fl_X12_555 h3 rfl ?_
    refine rhF.iload_n (pc := 15) dX12_later_15 1 rfl ?_
    refine rhF.iadd (pc := 16) dX12_later_16 ?_
    refine rhF.ldcw (pc := 17) dX12_later_17 k_X12_558 ?_
    refine rhF.icmp_le (pc := 20) 25 dX12_later_20 (by decide) (fun h4 => ?_) (fun h4 => ?_)
    · refine rhF.iconst (pc := 23) (v := (-1)) dX12_later_23 (by decide) ?_
      exact rhF.zret (pc := 24) dX12_later_24 rfl rfl rfl
    · refine rhF.aload_n (pc := 25) dX12_later_25 0 rfl ?_
      refine rhF.dupr (pc := 26) dX12_later_26 ?_
      refine rhF.get (pc := 27) (rhI _) dX12_later_27 fl_X12_555 h3 rfl ?_
      refine rhF.iload_n (pc := 30) dX12_later_30 1 rfl ?_
      refine rhF.iadd (pc := 31) dX12_later_31 ?_
      refine rhF.puti (pc := 32) dX12_later_32 fl_X12_555 h3 (fun q hq => by cases hq; exact Or.inl rfl) ⟨rfl, rfl⟩ (fun _ => rfl) ?_
      refine rhF.aload_n (pc := 35) dX12_later_35 0 rfl ?_
      refine rhF.get (pc := 36) (rhI _) dX12_later_36 fl_X12_555 h3 rfl ?_
      exact rhF.zret (pc := 39) dX12_later_39 rfl rfl rfl
theorem c_X12_later (E : rhE) (Γ : rhG) (M : rhM) (v0 : Nat) (v1 : Int32) : ∀ a, f_X12_later Γ M v0 v1 = some a → rhC E 5 yX12_later cX12_later 2 (some .int) [rhR v0, rhI v1] Γ M ((rhe1I Γ) a) := rhF.met (by decide +kernel) (Nat.le_of_ble_eq_true rfl) (b_X12_later M v0 v1)
def f_X12_lawful (Γ : rhG) (M : rhM) (v0 : Nat) (v1 : Int32) (v2 : Int32) (v3 : Int32) : Option (Int32 × rhM) :=
  rhck (Γ.2.2.1 v0 = 13) <|
  (f_X12_layNow Γ M v0).bind fun r2 =>
  (f_X12_isLawful Γ r2 v0 v1 v2 v3).bind fun r3 =>
  if r3.1 = 0 then
    (some ((0, r3.2)))
  else
    some ((1, r3.2))
set_option maxHeartbeats 4000000 in
set_option maxRecDepth 100000 in
theorem b_X12_lawful {E : rhE} {Γ : rhG} : ∀ (M : rhM) (v0 : Nat) (v1 : Int32) (v2 : Int32) (v3 : Int32), rhF E 9 4 yX12_lawful cX12_lawful (some .int) Γ (rhe1I Γ) (f_X12_lawful Γ M v0 v1 v2 v3) 0 [(0, rhR v0), (1, rhI v1), (2, rhI v2), (3, rhI v3)] [] Γ M := by
  intro M v0 v1 v2 v3
  rw [f_X12_lawful]
  refine rhF.aload_n (pc := 0) dX12_lawful_0 0 rfl ?_
  refine rhF.ck (fun h1 => ?_)
  refine rhF.callV (pc := 1) (ci := 12) (embc := rhe1U _) [] dX12_lawful_1 ml_X12_467 mv_X12_layNow ⟨_, rfl, rfl⟩ h1 (c_X12_layNow _ _ _ _) (by decide) (by decide) rfl (Nat.le_of_ble_eq_true rfl) (fun r2 _ => ?_)
  refine rhF.aload_n (pc := 4) dX12_lawful_4 0 rfl ?_
  refine rhF.iload_n (pc := 5) dX12_lawful_5 1 rfl ?_
  refine rhF.iload_n (pc := 6) dX12_lawful_6 2 rfl ?_
  refine rhF.iload_n (pc := 7) dX12_lawful_7 3 rfl ?_
  refine rhF.callV (pc := 8) (ci := 12) (embc := rhe1I _) [rhI _, rhI _, rhI _] dX12_lawful_8 ml_X12_471 mv_X12_isLawful ⟨_, rfl, rfl⟩ h1 (c_X12_isLawful _ _ _ _ _ _ _) (by decide) (by decide) rfl (Nat.le_of_ble_eq_true rfl) (fun r3 _ => ?_)
  refine rhF.if_eq (pc := 11) 18 dX12_lawful_11 (by decide) (fun h4 => ?_) (fun h4 => ?_)
  · refine rhF.iconst (pc := 18) (v := 0) dX12_lawful_18 (by decide) ?_
    exact rhF.zret (pc := 19) dX12_lawful_19 rfl rfl rfl
  · refine rhF.iconst (pc := 14) (v := 1) dX12_lawful_14 (by decide) ?_
    refine rhF.goto (pc := 15) 19 dX12_lawful_15 (by decide) ?_
    exact rhF.zret (pc := 19) dX12_lawful_19 rfl rfl rfl
theorem c_X12_lawful (E : rhE) (Γ : rhG) (M : rhM) (v0 : Nat) (v1 : Int32) (v2 : Int32) (v3 : Int32) : ∀ a, f_X12_lawful Γ M v0 v1 v2 v3 = some a → rhC E 9 yX12_lawful cX12_lawful 4 (some .int) [rhR v0, rhI v1, rhI v2, rhI v3] Γ M ((rhe1I Γ) a) := rhF.met (by decide +kernel) (Nat.le_of_ble_eq_true rfl) (b_X12_lawful M v0 v1 v2 v3)
def f_X12_nextTight_164 (k51 : rhM → Nat → Int32 → Int32 → Int32 → Int32 → Option (Int32 × rhM)) (Γ : rhG) (M : rhM) (v0 : Nat) (v1 : Int32) (v2 : Int32) (v3 : Int32) (v4 : Int32) : Option (Int32 × rhM) :=
  let x18 : Int32 := v4 + 1
  k51 M v0 v1 v2 v3 x18
def f_X12_nextTight_51 (k151 : rhM → Int32 → Int32 → Int32 → Option (Int32 × rhM)) (k170 : rhM → Nat → Int32 → Int32 → Int32 → Option (Int32 × rhM)) (Γ : rhG) : Nat → rhM → Nat → Int32 → Int32 → Int32 → Int32 → Option (Int32 × rhM)
  | 0, _, _, _, _, _, _ => none
  | n + 1, M, v0, v1, v2, v3, v4 =>
    rhck (Γ.2.2.1 v0 = 13) <|
    (f_X12_railMany Γ M v0).bind fun r13 =>
    if v4 < r13 then
      ((f_X12_layAt Γ M v0).bind fun r15 =>
      (f_X12_isLawful Γ r15 v0 v2 v3 v4).bind fun r16 =>
      if r16.1 = 0 then
        (f_X12_nextTight_164 (f_X12_nextTight_51 k151 k170 Γ n) Γ r16.2 v0 v1 v2 v3 v4)
      else
        (f_X12_sumOf Γ r16.2 v0 (r16.2.2.2 v0 20) v2 v3).bind fun r19 =>
        (f_X12_moves Γ r16.2 v0 v2 v3 v4).bind fun r20 =>
        (f_X12_stateOf Γ r20 v0).bind fun r21 =>
        rhck (Γ.2.2.1 (r20.2.2 v0 59) = 17) <|
        rhck (0 ≤ (r21).toInt ∧ (r21).toInt < (Γ.2.2.2 (r20.2.2 v0 59) : Nat)) <|
        if (r20.1 (r20.2.2 v0 59) r21.toNatClampNeg) = 0 then
          (f_X12_nextTight_164 (f_X12_nextTight_51 k151 k170 Γ n) Γ r20 v0 v1 v2 v3 v4)
        else
          rhck (Γ.2.2.1 (r20.2.2 v0 57) = 15) <|
          rhck (0 ≤ (r21).toInt ∧ (r21).toInt < (Γ.2.2.2 (r20.2.2 v0 57) : Nat)) <|
          rhck (0 ≤ (v1).toInt ∧ (v1).toInt < (Γ.2.2.2 (r20.2.2 v0 57) : Nat)) <|
          if (r20.1 (r20.2.2 v0 57) r21.toNatClampNeg) = ((r20.1 (r20.2.2 v0 57) v1.toNatClampNeg) + r19) then
            (rhck (Γ.2.2.1 (r20.2.2 v0 56) = 15) <|
            rhck (0 ≤ (r21).toInt ∧ (r21).toInt < (Γ.2.2.2 (r20.2.2 v0 56) : Nat)) <|
            rhck (0 ≤ (v1).toInt ∧ (v1).toInt < (Γ.2.2.2 (r20.2.2 v0 56) : Nat)) <|
            if (r20.1 (r20.2.2 v0 56) r21.toNatClampNeg) = ((r20.1 (r20.2.2 v0 56) v1.toNatClampNeg) + 1) then
              (k151 r20 v2 v3 v4)
            else
              f_X12_nextTight_164 (f_X12_nextTight_51 k151 k170 Γ n) Γ r20 v0 v1 v2 v3 v4)
          else
            f_X12_nextTight_164 (f_X12_nextTight_51 k151 k170 Γ n) Γ r20 v0 v1 v2 v3 v4)
    else
      k170 M v0 v1 v2 v3
def f_X12_nextTight_170 (k21 : rhM → Nat → Int32 → Int32 → Int32 → Option (Int32 × rhM)) (Γ : rhG) (M : rhM) (v0 : Nat) (v1 : Int32) (v2 : Int32) (v3 : Int32) : Option (Int32 × rhM) :=
  let x33 : Int32 := v3 + 1
  k21 M v0 v1 v2 x33
def f_X12_nextTight_44 (k21 : rhM → Nat → Int32 → Int32 → Int32 → Option (Int32 × rhM)) (k151 : rhM → Int32 → Int32 → Int32 → Option (Int32 × rhM)) (k176 : rhM → Nat → Int32 → Int32 → Option (Int32 × rhM)) (Γ : rhG) (M : rhM) (v0 : Nat) (v1 : Int32) (v2 : Int32) (v3 : Int32) (s0 : Int32) (s1 : Int32) (s2 : Int32) : Option (Int32 × rhM) :=
  if (s1 - s2) < s0 then
    (k176 M v0 v1 v2)
  else
    f_X12_nextTight_51 k151 (f_X12_nextTight_170 k21 Γ) Γ rhFU M v0 v1 v2 v3 0
def f_X12_nextTight_21 (k151 : rhM → Int32 → Int32 → Int32 → Option (Int32 × rhM)) (k176 : rhM → Nat → Int32 → Int32 → Option (Int32 × rhM)) (Γ : rhG) : Nat → rhM → Nat → Int32 → Int32 → Int32 → Option (Int32 × rhM)
  | 0, _, _, _, _, _ => none
  | n + 1, M, v0, v1, v2, v3 =>
    rhck (Γ.2.2.1 v0 = 13) <|
    rhck (Γ.2.2.1 (M.2.2 v0 64) = 15) <|
    rhck (0 ≤ (v2).toInt ∧ (v2).toInt < (Γ.2.2.2 (M.2.2 v0 64) : Nat)) <|
    if v2 = 0 then
      (f_X12_nextTight_44 (f_X12_nextTight_21 k151 k176 Γ n) k151 k176 Γ M v0 v1 v2 v3 v3 (M.1 (M.2.2 v0 64) v2.toNatClampNeg) 0)
    else
      rhck (0 ≤ (v2 - 1).toInt ∧ (v2 - 1).toInt < (Γ.2.2.2 (M.2.2 v0 64) : Nat)) <|
      f_X12_nextTight_44 (f_X12_nextTight_21 k151 k176 Γ n) k151 k176 Γ M v0 v1 v2 v3 v3 (M.1 (M.2.2 v0 64) v2.toNatClampNeg) (M.1 (M.2.2 v0 64) (v2 - 1).toNatClampNeg)
def f_X12_nextTight_176 (k11 : rhM → Nat → Int32 → Int32 → Option (Int32 × rhM)) (Γ : rhG) (M : rhM) (v0 : Nat) (v1 : Int32) (v2 : Int32) : Option (Int32 × rhM) :=
  let x35 : Int32 := v2 + 1
  k11 M v0 v1 x35
def f_X12_nextTight_11 (k151 : rhM → Int32 → Int32 → Int32 → Option (Int32 × rhM)) (Γ : rhG) : Nat → rhM → Nat → Int32 → Int32 → Option (Int32 × rhM)
  | 0, _, _, _, _ => none
  | n + 1, M, v0, v1, v2 =>
    rhck (Γ.2.2.1 v0 = 13) <|
    (f_X12_railMany Γ M v0).bind fun r5 =>
    if v2 < r5 then
      (f_X12_nextTight_21 k151 (f_X12_nextTight_176 (f_X12_nextTight_11 k151 Γ n) Γ) Γ rhFU M v0 v1 v2 1)
    else
      some (((-1), M))
def f_X12_nextTight_151 (Γ : rhG) (M : rhM) (v2 : Int32) (v3 : Int32) (v4 : Int32) : Option (Int32 × rhM) :=
  some ((((100 * v2) + (10 * v3)) + v4, M))
def f_X12_nextTight (Γ : rhG) (M : rhM) (v0 : Nat) (v1 : Int32) : Option (Int32 × rhM) :=
  rhck (Γ.2.2.1 v0 = 13) <|
  (f_X12_layState Γ M v0 v1).bind fun r2 =>
  (f_X12_keepAt Γ r2 v0).bind fun r3 =>
  f_X12_nextTight_11 (f_X12_nextTight_151 Γ) Γ rhFU r3 v0 v1 0
set_option maxHeartbeats 4000000 in
set_option maxRecDepth 100000 in
theorem b_X12_nextTight_164 {E : rhE} {Γ : rhG} {k51 : rhM → Nat → Int32 → Int32 → Int32 → Int32 → Option (Int32 × rhM)} (hk51 : ∀ (M : rhM) (v0 : Nat) (v1 : Int32) (v2 : Int32) (v3 : Int32) (v4 : Int32), rhF E 9 7 yX12_nextTight cX12_nextTight (some .int) Γ (rhe1I Γ) (k51 M v0 v1 v2 v3 v4) 51 [(0, rhR v0), (1, rhI v1), (2, rhI v2), (3, rhI v3), (4, rhI v4)] [] Γ M) : ∀ (M : rhM) (v0 : Nat) (v1 : Int32) (v2 : Int32) (v3 : Int32) (v4 : Int32), rhF E 9 7 yX12_nextTight cX12_nextTight (some .int) Γ (rhe1I Γ) (f_X12_nextTight_164 k51 Γ M v0 v1 v2 v3 v4) 164 [(0, rhR v0), (1, rhI v1), (2, rhI v2), (3, rhI v3), (4, rhI v4)] [] Γ M := by
  intro M v0 v1 v2 v3 v4
  rw [f_X12_nextTight_164]
  refine rhF.iinc (pc := 164) (L' := [(4, rhI _), (0, rhR _), (1, rhI _), (2, rhI _), (3, rhI _)]) dX12_nextTight_164 4 rfl rfl (by decide) rfl ?_
  refine rhF.goto (pc := 167) 51 dX12_nextTight_167 (by decide) ?_
  refine rhF.sub [1, 2, 3, 4, 0] rfl ?_
  exact hk51 _ _ _ _ _ _
set_option maxHeartbeats 4000000 in
set_option maxRecDepth 100000 in
theorem b_X12_nextTight_51 {E : rhE} {Γ : rhG} {k151 : rhM → Int32 → Int32 → Int32 → Option (Int32 × rhM)} {k170 : rhM → Nat → Int32 → Int32 → Int32 → Option (Int32 × rhM)} (hk151 : ∀ (M : rhM) (v2 : Int32) (v3 : Int32) (v4 : Int32), rhF E 9 7 yX12_nextTight cX12_nextTight (some .int) Γ (rhe1I Γ) (k151 M v2 v3 v4) 151 [(2, rhI v2), (3, rhI v3), (4, rhI v4)] [] Γ M) (hk170 : ∀ (M : rhM) (v0 : Nat) (v1 : Int32) (v2 : Int32) (v3 : Int32), rhF E 9 7 yX12_nextTight cX12_nextTight (some .int) Γ (rhe1I Γ) (k170 M v0 v1 v2 v3) 170 [(0, rhR v0), (1, rhI v1), (2, rhI v2), (3, rhI v3)] [] Γ M) : ∀ (n : Nat) (M : rhM) (v0 : Nat) (v1 : Int32) (v2 : Int32) (v3 : Int32) (v4 : Int32), rhF E 9 7 yX12_nextTight cX12_nextTight (some .int) Γ (rhe1I Γ) (f_X12_nextTight_51 k151 k170 Γ n M v0 v1 v2 v3 v4) 51 [(0, rhR v0), (1, rhI v1), (2, rhI v2), (3, rhI v3), (4, rhI v4)] [] Γ M := by
  intro n
  induction n with
  | zero => intro M v0 v1 v2 v3 v4; rw [f_X12_nextTight_51]; exact rhF.nope
  | succ n ih =>
    intro M v0 v1 v2 v3 v4
    rw [f_X12_nextTight_51]
    refine rhF.iload (pc := 51) dX12_nextTight_51 4 rfl ?_
    refine rhF.aload_n (pc := 53) dX12_nextTight_53 0 rfl ?_
    refine rhF.ck (fun h12 => ?_)
    refine rhF.callV (pc := 54) (ci := 12) (embc := rhe0I _ _) [] dX12_nextTight_54 ml_X12_412 mv_X12_railMany ⟨_, rfl, rfl⟩ h12 (c_X12_railMany _ _ _ _) (by decide) (by decide) rfl (Nat.le_of_ble_eq_true rfl) (fun r13 _ => ?_)
    refine rhF.icmp_ge (pc := 57) 170 dX12_nextTight_57 (by decide) (fun h14 => ?_) (fun h14 => ?_)
    · refine rhF.aload_n (pc := 60) dX12_nextTight_60 0 rfl ?_
      refine rhF.callV (pc := 61) (ci := 12) (embc := rhe1U _) [] dX12_nextTight_61 ml_X12_512 mv_X12_layAt ⟨_, rfl, rfl⟩ h12 (c_X12_layAt _ _ _ _) (by decide) (by decide) rfl (Nat.le_of_ble_eq_true rfl) (fun r15 _ => ?_)
      refine rhF.aload_n (pc := 64) dX12_nextTight_64 0 rfl ?_
      refine rhF.iload_n (pc := 65) dX12_nextTight_65 2 rfl ?_
      refine rhF.iload_n (pc := 66) dX12_nextTight_66 3 rfl ?_
      refine rhF.iload (pc := 67) dX12_nextTight_67 4 rfl ?_
      refine rhF.callV (pc := 69) (ci := 12) (embc := rhe1I _) [rhI _, rhI _, rhI _] dX12_nextTight_69 ml_X12_471 mv_X12_isLawful ⟨_, rfl, rfl⟩ h12 (c_X12_isLawful _ _ _ _ _ _ _) (by decide) (by decide) rfl (Nat.le_of_ble_eq_true rfl) (fun r16 _ => ?_)
      refine rhF.if_ne (pc := 72) 78 dX12_nextTight_72 (by decide) (fun h17 => ?_) (fun h17 => ?_)
      · refine rhF.goto (pc := 75) 164 dX12_nextTight_75 (by decide) ?_
        exact (b_X12_nextTight_164 ih) _ _ _ _ _ _
      · refine rhF.aload_n (pc := 78) dX12_nextTight_78 0 rfl ?_
        refine rhF.aload_n (pc := 79) dX12_nextTight_79 0 rfl ?_
        refine rhF.get (pc := 80) (rhR _) dX12_nextTight_80 fl_X12_48 h12 rfl ?_
        refine rhF.iload_n (pc := 83) dX12_nextTight_83 2 rfl ?_
        refine rhF.iload_n (pc := 84) dX12_nextTight_84 3 rfl ?_
        refine rhF.callV (pc := 85) (ci := 12) (embc := rhe0I _ _) [rhR _, rhI _, rhI _] dX12_nextTight_85 ml_X12_431 mv_X12_sumOf ⟨_, rfl, rfl⟩ h12 (c_X12_sumOf _ _ _ _ _ _ _) (by decide) (by decide) rfl (Nat.le_of_ble_eq_true rfl) (fun r19 _ => ?_)
        refine rhF.istore (pc := 88) (L' := [(5, rhI _), (0, rhR _), (1, rhI _), (2, rhI _), (3, rhI _), (4, rhI _)]) dX12_nextTight_88 (by decide) rfl ?_
        refine rhF.aload_n (pc := 90) dX12_nextTight_90 1 rfl ?_
        refine rhF.iload_n (pc := 91) dX12_nextTight_91 3 rfl ?_
        refine rhF.iload_n (pc := 92) dX12_nextTight_92 4 rfl ?_
        refine rhF.iload (pc := 93) dX12_nextTight_93 5 rfl ?_
        refine rhF.callV (pc := 95) (ci := 12) (embc := rhe1U _) [rhI _, rhI _, rhI _] dX12_nextTight_95 ml_X12_474 mv_X12_moves ⟨_, rfl, rfl⟩ h12 (c_X12_moves _ _ _ _ _ _ _) (by decide) (by decide) rfl (Nat.le_of_ble_eq_true rfl) (fun r20 _ => ?_)
        refine rhF.aload_n (pc := 98) dX12_nextTight_98 1 rfl ?_
        refine rhF.callV (pc := 99) (ci := 12) (embc := rhe0I _ _) [] dX12_nextTight_99 ml_X12_490 mv_X12_stateOf ⟨_, rfl, rfl⟩ h12 (c_X12_stateOf _ _ _ _) (by decide) (by decide) rfl (Nat.le_of_ble_eq_true rfl) (fun r21 _ => ?_)
        refine rhF.istore (pc := 102) (L' := [(6, rhI _), (5, rhI _), (0, rhR _), (1, rhI _), (2, rhI _), (3, rhI _), (4, rhI _)]) dX12_nextTight_102 (by decide) rfl ?_
        refine rhF.aload_n (pc := 104) dX12_nextTight_104 2 rfl ?_
        refine rhF.get (pc := 105) (rhR _) dX12_nextTight_105 fl_X12_139 h12 rfl ?_
        refine rhF.iload (pc := 108) dX12_nextTight_108 0 rfl ?_
        refine rhF.ck (fun h22 => ?_)
        refine rhF.ck (fun h23 => ?_)
        refine rhF.zald (pc := 110) dX12_nextTight_110 h22 h23 ?_
        refine rhF.if_eq (pc := 111) 164 dX12_nextTight_111 (by decide) (fun h24 => ?_) (fun h24 => ?_)
        · refine rhF.sub [2, 3, 4, 5, 6] rfl ?_
          exact (b_X12_nextTight_164 ih) _ _ _ _ _ _
        · refine rhF.aload_n (pc := 114) dX12_nextTight_114 2 rfl ?_
          refine rhF.get (pc := 115) (rhR _) dX12_nextTight_115 fl_X12_132 h12 rfl ?_
          refine rhF.iload (pc := 118) dX12_nextTight_118 0 rfl ?_
          refine rhF.ck (fun h25 => ?_)
          refine rhF.ck (fun h26 => ?_)
          refine rhF.iald (pc := 120) dX12_nextTight_120 h25 h26 ?_
          refine rhF.aload_n (pc := 121) dX12_nextTight_121 2 rfl ?_
          refine rhF.get (pc := 122) (rhR _) dX12_nextTight_122 fl_X12_132 h12 rfl ?_
          refine rhF.iload_n (pc := 125) dX12_nextTight_125 3 rfl ?_
          refine rhF.ck (fun h27 => ?_)
          refine rhF.iald (pc := 126) dX12_nextTight_126 h25 h27 ?_
          refine rhF.iload (pc := 127) dX12_nextTight_127 1 rfl ?_
          refine rhF.iadd (pc := 129) dX12_nextTight_129 ?_
          refine rhF.icmp_ne (pc := 130) 164 dX12_nextTight_130 (by decide) (fun h28 => ?_) (fun h28 => ?_)
          · refine rhF.aload_n (pc := 133) dX12_nextTight_133 2 rfl ?_
            refine rhF.get (pc := 134) (rhR _) dX12_nextTight_134 fl_X12_129 h12 rfl ?_
            refine rhF.iload (pc := 137) dX12_nextTight_137 0 rfl ?_
            refine rhF.ck (fun h29 => ?_)
            refine rhF.ck (fun h30 => ?_)
            refine rhF.iald (pc := 139) dX12_nextTight_139 h29 h30 ?_
            refine rhF.aload_n (pc := 140) dX12_nextTight_140 2 rfl ?_
            refine rhF.get (pc := 141) (rhR _) dX12_nextTight_141 fl_X12_129 h12 rfl ?_
            refine rhF.iload_n (pc := 144) dX12_nextTight_144 3 rfl ?_
            refine rhF.ck (fun h31 => ?_)
            refine rhF.iald (pc := 145) dX12_nextTight_145 h29 h31 ?_
            refine rhF.iconst (pc := 146) (v := 1) dX12_nextTight_146 (by decide) ?_
            refine rhF.iadd (pc := 147) dX12_nextTight_147 ?_
            refine rhF.icmp_ne (pc := 148) 164 dX12_nextTight_148 (by decide) (fun h32 => ?_) (fun h32 => ?_)
            · refine rhF.sub [4, 5, 6] rfl ?_
              exact hk151 _ _ _ _
            · refine rhF.sub [2, 3, 4, 5, 6] rfl ?_
              exact (b_X12_nextTight_164 ih) _ _ _ _ _ _
          · refine rhF.sub [2, 3, 4, 5, 6] rfl ?_
            exact (b_X12_nextTight_164 ih) _ _ _ _ _ _
    · refine rhF.sub [0, 1, 2, 3] rfl ?_
      exact hk170 _ _ _ _ _
set_option maxHeartbeats 4000000 in
set_option maxRecDepth 100000 in
theorem b_X12_nextTight_170 {E : rhE} {Γ : rhG} {k21 : rhM → Nat → Int32 → Int32 → Int32 → Option (Int32 × rhM)} (hk21 : ∀ (M : rhM) (v0 : Nat) (v1 : Int32) (v2 : Int32) (v3 : Int32), rhF E 9 7 yX12_nextTight cX12_nextTight (some .int) Γ (rhe1I Γ) (k21 M v0 v1 v2 v3) 21 [(0, rhR v0), (1, rhI v1), (2, rhI v2), (3, rhI v3)] [] Γ M) : ∀ (M : rhM) (v0 : Nat) (v1 : Int32) (v2 : Int32) (v3 : Int32), rhF E 9 7 yX12_nextTight cX12_nextTight (some .int) Γ (rhe1I Γ) (f_X12_nextTight_170 k21 Γ M v0 v1 v2 v3) 170 [(0, rhR v0), (1, rhI v1), (2, rhI v2), (3, rhI v3)] [] Γ M := by
  intro M v0 v1 v2 v3
  rw [f_X12_nextTight_170]
  refine rhF.iinc (pc := 170) (L' := [(3, rhI _), (0, rhR _), (1, rhI _), (2, rhI _)]) dX12_nextTight_170 3 rfl rfl (by decide) rfl ?_
  refine rhF.goto (pc := 173) 21 dX12_nextTight_173 (by decide) ?_
  refine rhF.sub [1, 2, 3, 0] rfl ?_
  exact hk21 _ _ _ _ _
set_option maxHeartbeats 4000000 in
set_option maxRecDepth 100000 in
theorem b_X12_nextTight_44 {E : rhE} {Γ : rhG} {k21 : rhM → Nat → Int32 → Int32 → Int32 → Option (Int32 × rhM)} {k151 : rhM → Int32 → Int32 → Int32 → Option (Int32 × rhM)} {k176 : rhM → Nat → Int32 → Int32 → Option (Int32 × rhM)} (hk21 : ∀ (M : rhM) (v0 : Nat) (v1 : Int32) (v2 : Int32) (v3 : Int32), rhF E 9 7 yX12_nextTight cX12_nextTight (some .int) Γ (rhe1I Γ) (k21 M v0 v1 v2 v3) 21 [(0, rhR v0), (1, rhI v1), (2, rhI v2), (3, rhI v3)] [] Γ M) (hk151 : ∀ (M : rhM) (v2 : Int32) (v3 : Int32) (v4 : Int32), rhF E 9 7 yX12_nextTight cX12_nextTight (some .int) Γ (rhe1I Γ) (k151 M v2 v3 v4) 151 [(2, rhI v2), (3, rhI v3), (4, rhI v4)] [] Γ M) (hk176 : ∀ (M : rhM) (v0 : Nat) (v1 : Int32) (v2 : Int32), rhF E 9 7 yX12_nextTight cX12_nextTight (some .int) Γ (rhe1I Γ) (k176 M v0 v1 v2) 176 [(0, rhR v0), (1, rhI v1), (2, rhI v2)] [] Γ M) : ∀ (M : rhM) (v0 : Nat) (v1 : Int32) (v2 : Int32) (v3 : Int32) (s0 : Int32) (s1 : Int32) (s2 : Int32), rhF E 9 7 yX12_nextTight cX12_nextTight (some .int) Γ (rhe1I Γ) (f_X12_nextTight_44 k21 k151 k176 Γ M v0 v1 v2 v3 s0 s1 s2) 44 [(0, rhR v0), (1, rhI v1), (2, rhI v2), (3, rhI v3)] [rhI s2, rhI s1, rhI s0] Γ M := by
  intro M v0 v1 v2 v3 s0 s1 s2
  rw [f_X12_nextTight_44]
  refine rhF.isub (pc := 44) dX12_nextTight_44 ?_
  refine rhF.icmp_gt (pc := 45) 176 dX12_nextTight_45 (by decide) (fun h11 => ?_) (fun h11 => ?_)
  · refine rhF.sub [0, 1, 2] rfl ?_
    exact hk176 _ _ _ _
  · refine rhF.iconst (pc := 48) (v := 0) dX12_nextTight_48 (by decide) ?_
    refine rhF.istore (pc := 49) (L' := [(4, rhI _), (0, rhR _), (1, rhI _), (2, rhI _), (3, rhI _)]) dX12_nextTight_49 (by decide) rfl ?_
    refine rhF.sub [1, 2, 3, 4, 0] rfl ?_
    exact (b_X12_nextTight_51 hk151 (b_X12_nextTight_170 hk21) rhFU) _ _ _ _ _ _
set_option maxHeartbeats 4000000 in
set_option maxRecDepth 100000 in
theorem b_X12_nextTight_21 {E : rhE} {Γ : rhG} {k151 : rhM → Int32 → Int32 → Int32 → Option (Int32 × rhM)} {k176 : rhM → Nat → Int32 → Int32 → Option (Int32 × rhM)} (hk151 : ∀ (M : rhM) (v2 : Int32) (v3 : Int32) (v4 : Int32), rhF E 9 7 yX12_nextTight cX12_nextTight (some .int) Γ (rhe1I Γ) (k151 M v2 v3 v4) 151 [(2, rhI v2), (3, rhI v3), (4, rhI v4)] [] Γ M) (hk176 : ∀ (M : rhM) (v0 : Nat) (v1 : Int32) (v2 : Int32), rhF E 9 7 yX12_nextTight cX12_nextTight (some .int) Γ (rhe1I Γ) (k176 M v0 v1 v2) 176 [(0, rhR v0), (1, rhI v1), (2, rhI v2)] [] Γ M) : ∀ (n : Nat) (M : rhM) (v0 : Nat) (v1 : Int32) (v2 : Int32) (v3 : Int32), rhF E 9 7 yX12_nextTight cX12_nextTight (some .int) Γ (rhe1I Γ) (f_X12_nextTight_21 k151 k176 Γ n M v0 v1 v2 v3) 21 [(0, rhR v0), (1, rhI v1), (2, rhI v2), (3, rhI v3)] [] Γ M := by
  intro n
  induction n with
  | zero => intro M v0 v1 v2 v3; rw [f_X12_nextTight_21]; exact rhF.nope
  | succ n ih =>
    intro M v0 v1 v2 v3
    rw [f_X12_nextTight_21]
    refine rhF.iload_n (pc := 21) dX12_nextTight_21 3 rfl ?_
    refine rhF.aload_n (pc := 22) dX12_nextTight_22 0 rfl ?_
    refine rhF.ck (fun h7 => ?_)
    refine rhF.get (pc := 23) (rhR _) dX12_nextTight_23 fl_X12_145 h7 rfl ?_
    refine rhF.iload_n (pc := 26) dX12_nextTight_26 2 rfl ?_
    refine rhF.ck (fun h8 => ?_)
    refine rhF.ck (fun h9 => ?_)
    refine rhF.iald (pc := 27) dX12_nextTight_27 h8 h9 ?_
    refine rhF.iload_n (pc := 28) dX12_nextTight_28 2 rfl ?_
    refine rhF.if_ne (pc := 29) 36 dX12_nextTight_29 (by decide) (fun h10 => ?_) (fun h10 => ?_)
    · refine rhF.iconst (pc := 32) (v := 0) dX12_nextTight_32 (by decide) ?_
      refine rhF.goto (pc := 33) 44 dX12_nextTight_33 (by decide) ?_
      exact (b_X12_nextTight_44 ih hk151 hk176) _ _ _ _ _ _ _ _
    · refine rhF.aload_n (pc := 36) dX12_nextTight_36 0 rfl ?_
      refine rhF.get (pc := 37) (rhR _) dX12_nextTight_37 fl_X12_145 h7 rfl ?_
      refine rhF.iload_n (pc := 40) dX12_nextTight_40 2 rfl ?_
      refine rhF.iconst (pc := 41) (v := 1) dX12_nextTight_41 (by decide) ?_
      refine rhF.isub (pc := 42) dX12_nextTight_42 ?_
      refine rhF.ck (fun h34 => ?_)
      refine rhF.iald (pc := 43) dX12_nextTight_43 h8 h34 ?_
      exact (b_X12_nextTight_44 ih hk151 hk176) _ _ _ _ _ _ _ _
set_option maxHeartbeats 4000000 in
set_option maxRecDepth 100000 in
theorem b_X12_nextTight_176 {E : rhE} {Γ : rhG} {k11 : rhM → Nat → Int32 → Int32 → Option (Int32 × rhM)} (hk11 : ∀ (M : rhM) (v0 : Nat) (v1 : Int32) (v2 : Int32), rhF E 9 7 yX12_nextTight cX12_nextTight (some .int) Γ (rhe1I Γ) (k11 M v0 v1 v2) 11 [(0, rhR v0), (1, rhI v1), (2, rhI v2)] [] Γ M) : ∀ (M : rhM) (v0 : Nat) (v1 : Int32) (v2 : Int32), rhF E 9 7 yX12_nextTight cX12_nextTight (some .int) Γ (rhe1I Γ) (f_X12_nextTight_176 k11 Γ M v0 v1 v2) 176 [(0, rhR v0), (1, rhI v1), (2, rhI v2)] [] Γ M := by
  intro M v0 v1 v2
  rw [f_X12_nextTight_176]
  refine rhF.iinc (pc := 176) (L' := [(2, rhI _), (0, rhR _), (1, rhI _)]) dX12_nextTight_176 2 rfl rfl (by decide) rfl ?_
  refine rhF.goto (pc := 179) 11 dX12_nextTight_179 (by decide) ?_
  refine rhF.sub [1, 2, 0] rfl ?_
  exact hk11 _ _ _ _
set_option maxHeartbeats 4000000 in
set_option maxRecDepth 100000 in
theorem b_X12_nextTight_11 {E : rhE} {Γ : rhG} {k151 : rhM → Int32 → Int32 → Int32 → Option (Int32 × rhM)} (hk151 : ∀ (M : rhM) (v2 : Int32) (v3 : Int32) (v4 : Int32), rhF E 9 7 yX12_nextTight cX12_nextTight (some .int) Γ (rhe1I Γ) (k151 M v2 v3 v4) 151 [(2, rhI v2), (3, rhI v3), (4, rhI v4)] [] Γ M) : ∀ (n : Nat) (M : rhM) (v0 : Nat) (v1 : Int32) (v2 : Int32), rhF E 9 7 yX12_nextTight cX12_nextTight (some .int) Γ (rhe1I Γ) (f_X12_nextTight_11 k151 Γ n M v0 v1 v2) 11 [(0, rhR v0), (1, rhI v1), (2, rhI v2)] [] Γ M := by
  intro n
  induction n with
  | zero => intro M v0 v1 v2; rw [f_X12_nextTight_11]; exact rhF.nope
  | succ n ih =>
    intro M v0 v1 v2
    rw [f_X12_nextTight_11]
    refine rhF.iload_n (pc := 11) dX12_nextTight_11 2 rfl ?_
    refine rhF.aload_n (pc := 12) dX12_nextTight_12 0 rfl ?_
    refine rhF.ck (fun h4 => ?_)
    refine rhF.callV (pc := 13) (ci := 12) (embc := rhe0I _ _) [] dX12_nextTight_13 ml_X12_412 mv_X12_railMany ⟨_, rfl, rfl⟩ h4 (c_X12_railMany _ _ _ _) (by decide) (by decide) rfl (Nat.le_of_ble_eq_true rfl) (fun r5 _ => ?_)
    refine rhF.icmp_ge (pc := 16) 182 dX12_nextTight_16 (by decide) (fun h6 => ?_) (fun h6 => ?_)
    · refine rhF.iconst (pc := 19) (v := 1) dX12_nextTight_19 (by decide) ?_
      refine rhF.istore_n (pc := 20) (L' := [(3, rhI _), (0, rhR _), (1, rhI _), (2, rhI _)]) dX12_nextTight_20 (by decide) rfl ?_
      refine rhF.sub [1, 2, 3, 0] rfl ?_
      exact (b_X12_nextTight_21 hk151 (b_X12_nextTight_176 ih) rhFU) _ _ _ _ _
    · refine rhF.iconst (pc := 182) (v := (-1)) dX12_nextTight_182 (by decide) ?_
      exact rhF.zret (pc := 183) dX12_nextTight_183 rfl rfl rfl
set_option maxHeartbeats 4000000 in
set_option maxRecDepth 100000 in
theorem b_X12_nextTight_151 {E : rhE} {Γ : rhG} : ∀ (M : rhM) (v2 : Int32) (v3 : Int32) (v4 : Int32), rhF E 9 7 yX12_nextTight cX12_nextTight (some .int) Γ (rhe1I Γ) (f_X12_nextTight_151 Γ M v2 v3 v4) 151 [(2, rhI v2), (3, rhI v3), (4, rhI v4)] [] Γ M := by
  intro M v2 v3 v4
  rw [f_X12_nextTight_151]
  refine rhF.bipush (pc := 151) (v := 100) dX12_nextTight_151 (by decide) ?_
  refine rhF.iload_n (pc := 153) dX12_nextTight_153 0 rfl ?_
  refine rhF.imul (pc := 154) dX12_nextTight_154 ?_
  refine rhF.bipush (pc := 155) (v := 10) dX12_nextTight_155 (by decide) ?_
  refine rhF.iload_n (pc := 157) dX12_nextTight_157 1 rfl ?_
  refine rhF.imul (pc := 158) dX12_nextTight_158 ?_
  refine rhF.iadd (pc := 159) dX12_nextTight_159 ?_
  refine rhF.iload (pc := 160) dX12_nextTight_160 2 rfl ?_
  refine rhF.iadd (pc := 162) dX12_nextTight_162 ?_
  exact rhF.zret (pc := 163) dX12_nextTight_163 rfl rfl rfl
set_option maxHeartbeats 4000000 in
set_option maxRecDepth 100000 in
theorem b_X12_nextTight {E : rhE} {Γ : rhG} : ∀ (M : rhM) (v0 : Nat) (v1 : Int32), rhF E 9 7 yX12_nextTight cX12_nextTight (some .int) Γ (rhe1I Γ) (f_X12_nextTight Γ M v0 v1) 0 [(0, rhR v0), (1, rhI v1)] [] Γ M := by
  intro M v0 v1
  rw [f_X12_nextTight]
  refine rhF.aload_n (pc := 0) dX12_nextTight_0 0 rfl ?_
  refine rhF.iload_n (pc := 1) dX12_nextTight_1 1 rfl ?_
  refine rhF.ck (fun h1 => ?_)
  refine rhF.callV (pc := 2) (ci := 12) (embc := rhe1U _) [rhI _] dX12_nextTight_2 ml_X12_499 mv_X12_layState ⟨_, rfl, rfl⟩ h1 (c_X12_layState _ _ _ _ _) (by decide) (by decide) rfl (Nat.le_of_ble_eq_true rfl) (fun r2 _ => ?_)
  refine rhF.aload_n (pc := 5) dX12_nextTight_5 0 rfl ?_
  refine rhF.callV (pc := 6) (ci := 12) (embc := rhe1U _) [] dX12_nextTight_6 ml_X12_509 mv_X12_keepAt ⟨_, rfl, rfl⟩ h1 (c_X12_keepAt _ _ _ _) (by decide) (by decide) rfl (Nat.le_of_ble_eq_true rfl) (fun r3 _ => ?_)
  refine rhF.iconst (pc := 9) (v := 0) dX12_nextTight_9 (by decide) ?_
  refine rhF.istore_n (pc := 10) (L' := [(2, rhI _), (0, rhR _), (1, rhI _)]) dX12_nextTight_10 (by decide) rfl ?_
  refine rhF.sub [1, 2, 0] rfl ?_
  exact (b_X12_nextTight_11 (b_X12_nextTight_151) rhFU) _ _ _ _
theorem c_X12_nextTight (E : rhE) (Γ : rhG) (M : rhM) (v0 : Nat) (v1 : Int32) : ∀ a, f_X12_nextTight Γ M v0 v1 = some a → rhC E 9 yX12_nextTight cX12_nextTight 7 (some .int) [rhR v0, rhI v1] Γ M ((rhe1I Γ) a) := rhF.met (by decide +kernel) (Nat.le_of_ble_eq_true rfl) (b_X12_nextTight M v0 v1)
def f_X12_layLightest_46 (k11 : rhM → Nat → Int32 → Int32 → Option (rhM)) (Γ : rhG) (M : rhM) (v0 : Nat) (v1 : Int32) (v3 : Int32) (s0 : Int32) : Option (rhM) :=
  if s0 = 0 then
    (k11 M v0 v1 s0)
  else
    rhck (Γ.2.2.1 v0 = 13) <|
    rhck (Γ.2.2.1 (M.2.2 v0 65) = 15) <|
    rhck (0 ≤ (M.1 v0 66).toInt ∧ (M.1 v0 66).toInt < (Γ.2.2.2 (M.2.2 v0 65) : Nat)) <|
    let M15 := rhsi M (M.2.2 v0 65) (M.1 v0 66 : Int32).toNatClampNeg v3
    let M16 := rhsi M15 v0 66 ((M15.1 v0 66) + 1)
    (f_X12_stateOf Γ M16 v0).bind fun r17 =>
    k11 M16 v0 r17 s0
def f_X12_layLightest_36 (k11 : rhM → Nat → Int32 → Int32 → Option (rhM)) (Γ : rhG) (M : rhM) (v0 : Nat) (v1 : Int32) (s0 : Int32) : Option (rhM) :=
  if s0 < 0 then
    (f_X12_layLightest_46 k11 Γ M v0 v1 s0 0)
  else
    f_X12_layLightest_46 k11 Γ M v0 v1 s0 1
def f_X12_layLightest_11 (Γ : rhG) : Nat → rhM → Nat → Int32 → Int32 → Option (rhM)
  | 0, _, _, _, _ => none
  | n + 1, M, v0, v1, v2 =>
    if v2 = 0 then
      (some M)
    else
      rhck (Γ.2.2.1 v0 = 13) <|
      (f_X12_layState Γ M v0 v1).bind fun r6 =>
      (f_X12_isEnd Γ r6 v0).bind fun r7 =>
      if r7 = 0 then
        ((f_X12_nextTight Γ r6 v0 v1).bind fun r9 =>
        f_X12_layLightest_36 (f_X12_layLightest_11 Γ n) Γ r9.2 v0 v1 r9.1)
      else
        f_X12_layLightest_36 (f_X12_layLightest_11 Γ n) Γ r6 v0 v1 ((-1))
def f_X12_layLightest (Γ : rhG) (M : rhM) (v0 : Nat) : Option (rhM) :=
  rhck (Γ.2.2.1 v0 = 13) <|
  (f_X12_layNow Γ M v0).bind fun r2 =>
  (f_X12_stateOf Γ r2 v0).bind fun r3 =>
  f_X12_layLightest_11 Γ rhFU r2 v0 r3 1
set_option maxHeartbeats 4000000 in
set_option maxRecDepth 100000 in
theorem b_X12_layLightest_46 {E : rhE} {Γ : rhG} {k11 : rhM → Nat → Int32 → Int32 → Option (rhM)} (hk11 : ∀ (M : rhM) (v0 : Nat) (v1 : Int32) (v2 : Int32), rhF E 10 4 yX12_layLightest cX12_layLightest none Γ (rhe1U Γ) (k11 M v0 v1 v2) 11 [(0, rhR v0), (1, rhI v1), (2, rhI v2)] [] Γ M) : ∀ (M : rhM) (v0 : Nat) (v1 : Int32) (v3 : Int32) (s0 : Int32), rhF E 10 4 yX12_layLightest cX12_layLightest none Γ (rhe1U Γ) (f_X12_layLightest_46 k11 Γ M v0 v1 v3 s0) 46 [(0, rhR v0), (1, rhI v1), (3, rhI v3)] [rhI s0] Γ M := by
  intro M v0 v1 v3 s0
  rw [f_X12_layLightest_46]
  refine rhF.istore_n (pc := 46) (L' := [(2, rhI _), (0, rhR _), (1, rhI _), (3, rhI _)]) dX12_layLightest_46 (by decide) rfl ?_
  refine rhF.iload_n (pc := 47) dX12_layLightest_47 0 rfl ?_
  refine rhF.if_ne (pc := 48) 54 dX12_layLightest_48 (by decide) (fun h11 => ?_) (fun h11 => ?_)
  · refine rhF.goto (pc := 51) 11 dX12_layLightest_51 (by decide) ?_
    refine rhF.sub [1, 2, 0] rfl ?_
    exact hk11 _ _ _ _
  · refine rhF.aload_n (pc := 54) dX12_layLightest_54 1 rfl ?_
    refine rhF.ck (fun h12 => ?_)
    refine rhF.get (pc := 55) (rhR _) dX12_layLightest_55 fl_X12_148 h12 rfl ?_
    refine rhF.aload_n (pc := 58) dX12_layLightest_58 1 rfl ?_
    refine rhF.get (pc := 59) (rhI _) dX12_layLightest_59 fl_X12_342 h12 rfl ?_
    refine rhF.iload_n (pc := 62) dX12_layLightest_62 3 rfl ?_
    refine rhF.ck (fun h13 => ?_)
    refine rhF.ck (fun h14 => ?_)
    refine rhF.iast (pc := 63) dX12_layLightest_63 h13 h14 ?_
    refine rhF.aload_n (pc := 64) dX12_layLightest_64 1 rfl ?_
    refine rhF.dupr (pc := 65) dX12_layLightest_65 ?_
    refine rhF.get (pc := 66) (rhI _) dX12_layLightest_66 fl_X12_342 h12 rfl ?_
    refine rhF.iconst (pc := 69) (v := 1) dX12_layLightest_69 (by decide) ?_
    refine rhF.iadd (pc := 70) dX12_layLightest_70 ?_
    refine rhF.puti (pc := 71) dX12_layLightest_71 fl_X12_342 h12 (fun q hq => by cases hq; exact Or.inl rfl) ⟨rfl, rfl⟩ (fun _ => rfl) ?_
    refine rhF.aload_n (pc := 74) dX12_layLightest_74 1 rfl ?_
    refine rhF.callV (pc := 75) (ci := 12) (embc := rhe0I _ _) [] dX12_layLightest_75 ml_X12_490 mv_X12_stateOf ⟨_, rfl, rfl⟩ h12 (c_X12_stateOf _ _ _ _) (by decide) (by decide) rfl (Nat.le_of_ble_eq_true rfl) (fun r17 _ => ?_)
    refine rhF.istore_n (pc := 78) (L' := [(1, rhI _), (2, rhI _), (0, rhR _), (3, rhI _)]) dX12_layLightest_78 (by decide) rfl ?_
    refine rhF.goto (pc := 79) 11 dX12_layLightest_79 (by decide) ?_
    refine rhF.sub [2, 0, 1] rfl ?_
    exact hk11 _ _ _ _
set_option maxHeartbeats 4000000 in
set_option maxRecDepth 100000 in
theorem b_X12_layLightest_36 {E : rhE} {Γ : rhG} {k11 : rhM → Nat → Int32 → Int32 → Option (rhM)} (hk11 : ∀ (M : rhM) (v0 : Nat) (v1 : Int32) (v2 : Int32), rhF E 10 4 yX12_layLightest cX12_layLightest none Γ (rhe1U Γ) (k11 M v0 v1 v2) 11 [(0, rhR v0), (1, rhI v1), (2, rhI v2)] [] Γ M) : ∀ (M : rhM) (v0 : Nat) (v1 : Int32) (s0 : Int32), rhF E 10 4 yX12_layLightest cX12_layLightest none Γ (rhe1U Γ) (f_X12_layLightest_36 k11 Γ M v0 v1 s0) 36 [(0, rhR v0), (1, rhI v1)] [rhI s0] Γ M := by
  intro M v0 v1 s0
  rw [f_X12_layLightest_36]
  refine rhF.istore_n (pc := 36) (L' := [(3, rhI _), (0, rhR _), (1, rhI _)]) dX12_layLightest_36 (by decide) rfl ?_
  refine rhF.iload_n (pc := 37) dX12_layLightest_37 0 rfl ?_
  refine rhF.if_lt (pc := 38) 45 dX12_layLightest_38 (by decide) (fun h10 => ?_) (fun h10 => ?_)
  · refine rhF.iconst (pc := 45) (v := 0) dX12_layLightest_45 (by decide) ?_
    refine rhF.sub [1, 2, 0] rfl ?_
    exact (b_X12_layLightest_46 hk11) _ _ _ _ _
  · refine rhF.iconst (pc := 41) (v := 1) dX12_layLightest_41 (by decide) ?_
    refine rhF.goto (pc := 42) 46 dX12_layLightest_42 (by decide) ?_
    refine rhF.sub [1, 2, 0] rfl ?_
    exact (b_X12_layLightest_46 hk11) _ _ _ _ _
set_option maxHeartbeats 4000000 in
set_option maxRecDepth 100000 in
theorem b_X12_layLightest_11 {E : rhE} {Γ : rhG} : ∀ (n : Nat) (M : rhM) (v0 : Nat) (v1 : Int32) (v2 : Int32), rhF E 10 4 yX12_layLightest cX12_layLightest none Γ (rhe1U Γ) (f_X12_layLightest_11 Γ n M v0 v1 v2) 11 [(0, rhR v0), (1, rhI v1), (2, rhI v2)] [] Γ M := by
  intro n
  induction n with
  | zero => intro M v0 v1 v2; rw [f_X12_layLightest_11]; exact rhF.nope
  | succ n ih =>
    intro M v0 v1 v2
    rw [f_X12_layLightest_11]
    refine rhF.iload_n (pc := 11) dX12_layLightest_11 2 rfl ?_
    refine rhF.if_eq (pc := 12) 82 dX12_layLightest_12 (by decide) (fun h4 => ?_) (fun h4 => ?_)
    · exact rhF.vret (pc := 82) dX12_layLightest_82 rfl rfl
    · refine rhF.aload_n (pc := 15) dX12_layLightest_15 0 rfl ?_
      refine rhF.iload_n (pc := 16) dX12_layLightest_16 1 rfl ?_
      refine rhF.ck (fun h5 => ?_)
      refine rhF.callV (pc := 17) (ci := 12) (embc := rhe1U _) [rhI _] dX12_layLightest_17 ml_X12_499 mv_X12_layState ⟨_, rfl, rfl⟩ h5 (c_X12_layState _ _ _ _ _) (by decide) (by decide) rfl (Nat.le_of_ble_eq_true rfl) (fun r6 _ => ?_)
      refine rhF.aload_n (pc := 20) dX12_layLightest_20 0 rfl ?_
      refine rhF.callV (pc := 21) (ci := 12) (embc := rhe0I _ _) [] dX12_layLightest_21 ml_X12_503 mv_X12_isEnd ⟨_, rfl, rfl⟩ h5 (c_X12_isEnd _ _ _ _) (by decide) (by decide) rfl (Nat.le_of_ble_eq_true rfl) (fun r7 _ => ?_)
      refine rhF.if_eq (pc := 24) 31 dX12_layLightest_24 (by decide) (fun h8 => ?_) (fun h8 => ?_)
      · refine rhF.aload_n (pc := 31) dX12_layLightest_31 0 rfl ?_
        refine rhF.iload_n (pc := 32) dX12_layLightest_32 1 rfl ?_
        refine rhF.callV (pc := 33) (ci := 12) (embc := rhe1I _) [rhI _] dX12_layLightest_33 ml_X12_549 mv_X12_nextTight ⟨_, rfl, rfl⟩ h5 (c_X12_nextTight _ _ _ _ _) (by decide) (by decide) rfl (Nat.le_of_ble_eq_true rfl) (fun r9 _ => ?_)
        refine rhF.sub [0, 1] rfl ?_
        exact (b_X12_layLightest_36 ih) _ _ _ _
      · refine rhF.iconst (pc := 27) (v := (-1)) dX12_layLightest_27 (by decide) ?_
        refine rhF.goto (pc := 28) 36 dX12_layLightest_28 (by decide) ?_
        refine rhF.sub [0, 1] rfl ?_
        exact (b_X12_layLightest_36 ih) _ _ _ _
set_option maxHeartbeats 4000000 in
set_option maxRecDepth 100000 in
theorem b_X12_layLightest {E : rhE} {Γ : rhG} : ∀ (M : rhM) (v0 : Nat), rhF E 10 4 yX12_layLightest cX12_layLightest none Γ (rhe1U Γ) (f_X12_layLightest Γ M v0) 0 [(0, rhR v0)] [] Γ M := by
  intro M v0
  rw [f_X12_layLightest]
  refine rhF.aload_n (pc := 0) dX12_layLightest_0 0 rfl ?_
  refine rhF.ck (fun h1 => ?_)
  refine rhF.callV (pc := 1) (ci := 12) (embc := rhe1U _) [] dX12_layLightest_1 ml_X12_467 mv_X12_layNow ⟨_, rfl, rfl⟩ h1 (c_X12_layNow _ _ _ _) (by decide) (by decide) rfl (Nat.le_of_ble_eq_true rfl) (fun r2 _ => ?_)
  refine rhF.aload_n (pc := 4) dX12_layLightest_4 0 rfl ?_
  refine rhF.callV (pc := 5) (ci := 12) (embc := rhe0I _ _) [] dX12_layLightest_5 ml_X12_490 mv_X12_stateOf ⟨_, rfl, rfl⟩ h1 (c_X12_stateOf _ _ _ _) (by decide) (by decide) rfl (Nat.le_of_ble_eq_true rfl) (fun r3 _ => ?_)
  refine rhF.istore_n (pc := 8) (L' := [(1, rhI _), (0, rhR _)]) dX12_layLightest_8 (by decide) rfl ?_
  refine rhF.iconst (pc := 9) (v := 1) dX12_layLightest_9 (by decide) ?_
  refine rhF.istore_n (pc := 10) (L' := [(2, rhI _), (1, rhI _), (0, rhR _)]) dX12_layLightest_10 (by decide) rfl ?_
  refine rhF.sub [2, 1, 0] rfl ?_
  exact (b_X12_layLightest_11 rhFU) _ _ _ _
theorem c_X12_layLightest (E : rhE) (Γ : rhG) (M : rhM) (v0 : Nat) : ∀ a, f_X12_layLightest Γ M v0 = some a → rhC E 10 yX12_layLightest cX12_layLightest 4 none [rhR v0] Γ M ((rhe1U Γ) a) := rhF.met (by decide +kernel) (Nat.le_of_ble_eq_true rfl) (b_X12_layLightest M v0)
def f_X12_put (Γ : rhG) (M : rhM) (v0 : Nat) (v1 : Int32) (v2 : Int32) : Option (rhM) :=
  rhck (Γ.2.2.1 v0 = 13) <|
  rhck (Γ.2.2.1 (M.2.2 v0 67) = 15) <|
  rhck (0 ≤ (v1).toInt ∧ (v1).toInt < (Γ.2.2.2 (M.2.2 v0 67) : Nat)) <|
  let M4 := rhsi M (M.2.2 v0 67) (v1 : Int32).toNatClampNeg v2
  rhck (Γ.2.2.1 (M.2.2 v0 68) = 15) <|
  rhck (0 ≤ (v2).toInt ∧ (v2).toInt < (Γ.2.2.2 (M.2.2 v0 68) : Nat)) <|
  let M7 := rhsi M4 (M.2.2 v0 68) (v2 : Int32).toNatClampNeg v1
  some M7
set_option maxHeartbeats 4000000 in
set_option maxRecDepth 100000 in
theorem b_X12_put {E : rhE} {Γ : rhG} : ∀ (M : rhM) (v0 : Nat) (v1 : Int32) (v2 : Int32), rhF E 1 3 yX12_put cX12_put none Γ (rhe1U Γ) (f_X12_put Γ M v0 v1 v2) 0 [(0, rhR v0), (1, rhI v1), (2, rhI v2)] [] Γ M := by
  intro M v0 v1 v2
  rw [f_X12_put]
  refine rhF.aload_n (pc := 0) dX12_put_0 0 rfl ?_
  refine rhF.ck (fun h1 => ?_)
  refine rhF.get (pc := 1) (rhR _) dX12_put_1 fl_X12_151 h1 rfl ?_
  refine rhF.iload_n (pc := 4) dX12_put_4 1 rfl ?_
  refine rhF.iload_n (pc := 5) dX12_put_5 2 rfl ?_
  refine rhF.ck (fun h2 => ?_)
  refine rhF.ck (fun h3 => ?_)
  refine rhF.iast (pc := 6) dX12_put_6 h2 h3 ?_
  refine rhF.aload_n (pc := 7) dX12_put_7 0 rfl ?_
  refine rhF.get (pc := 8) (rhR _) dX12_put_8 fl_X12_154 h1 rfl ?_
  refine rhF.iload_n (pc := 11) dX12_put_11 2 rfl ?_
  refine rhF.iload_n (pc := 12) dX12_put_12 1 rfl ?_
  refine rhF.ck (fun h5 => ?_)
  refine rhF.ck (fun h6 => ?_)
  refine rhF.iast (pc := 13) dX12_put_13 h5 h6 ?_
  exact rhF.vret (pc := 14) dX12_put_14 rfl rfl
theorem c_X12_put (E : rhE) (Γ : rhG) (M : rhM) (v0 : Nat) (v1 : Int32) (v2 : Int32) : ∀ a, f_X12_put Γ M v0 v1 v2 = some a → rhC E 1 yX12_put cX12_put 3 none [rhR v0, rhI v1, rhI v2] Γ M ((rhe1U Γ) a) := rhF.met (by decide +kernel) (Nat.le_of_ble_eq_true rfl) (b_X12_put M v0 v1 v2)
def f_X12_rise_7 (k53 : rhM → Nat → Int32 → Int32 → Option (rhM)) (Γ : rhG) : Nat → rhM → Nat → Int32 → Int32 → Option (rhM)
  | 0, _, _, _, _ => none
  | n + 1, M, v0, v1, v2 =>
    if 0 < v2 then
      (rhck (Γ.2.2.1 v0 = 13) <|
      rhck (Γ.2.2.1 (M.2.2 v0 67) = 15) <|
      rhck (0 ≤ ((v2 - 1) / 2).toInt ∧ ((v2 - 1) / 2).toInt < (Γ.2.2.2 (M.2.2 v0 67) : Nat)) <|
      (f_X12_isBefore Γ M v0 v1 (M.1 (M.2.2 v0 67) ((v2 - 1) / 2).toNatClampNeg)).bind fun r9 =>
      if r9 = 0 then
        (k53 M v0 v1 v2)
      else
        (f_X12_put Γ M v0 v2 (M.1 (M.2.2 v0 67) ((v2 - 1) / 2).toNatClampNeg)).bind fun r11 =>
        let x12 := (v2 - 1) / 2
        f_X12_rise_7 k53 Γ n r11 v0 v1 x12)
    else
      k53 M v0 v1 v2
def f_X12_rise_53 (Γ : rhG) (M : rhM) (v0 : Nat) (v1 : Int32) (v2 : Int32) : Option (rhM) :=
  rhck (Γ.2.2.1 v0 = 13) <|
  (f_X12_put Γ M v0 v2 v1).bind fun r14 =>
  some r14
def f_X12_rise (Γ : rhG) (M : rhM) (v0 : Nat) (v1 : Int32) : Option (rhM) :=
  rhck (Γ.2.2.1 v0 = 13) <|
  rhck (Γ.2.2.1 (M.2.2 v0 68) = 15) <|
  rhck (0 ≤ (v1).toInt ∧ (v1).toInt < (Γ.2.2.2 (M.2.2 v0 68) : Nat)) <|
  let x4 := M.1 (M.2.2 v0 68) v1.toNatClampNeg
  f_X12_rise_7 (f_X12_rise_53 Γ) Γ rhFU M v0 v1 x4
set_option maxHeartbeats 4000000 in
set_option maxRecDepth 100000 in
theorem b_X12_rise_7 {E : rhE} {Γ : rhG} {k53 : rhM → Nat → Int32 → Int32 → Option (rhM)} (hk53 : ∀ (M : rhM) (v0 : Nat) (v1 : Int32) (v2 : Int32), rhF E 5 3 yX12_rise cX12_rise none Γ (rhe1U Γ) (k53 M v0 v1 v2) 53 [(0, rhR v0), (1, rhI v1), (2, rhI v2)] [] Γ M) : ∀ (n : Nat) (M : rhM) (v0 : Nat) (v1 : Int32) (v2 : Int32), rhF E 5 3 yX12_rise cX12_rise none Γ (rhe1U Γ) (f_X12_rise_7 k53 Γ n M v0 v1 v2) 7 [(0, rhR v0), (1, rhI v1), (2, rhI v2)] [] Γ M := by
  intro n
  induction n with
  | zero => intro M v0 v1 v2; rw [f_X12_rise_7]; exact rhF.nope
  | succ n ih =>
    intro M v0 v1 v2
    rw [f_X12_rise_7]
    refine rhF.iload_n (pc := 7) dX12_rise_7 2 rfl ?_
    refine rhF.if_le (pc := 8) 53 dX12_rise_8 (by decide) (fun h5 => ?_) (fun h5 => ?_)
    · refine rhF.aload_n (pc := 11) dX12_rise_11 0 rfl ?_
      refine rhF.iload_n (pc := 12) dX12_rise_12 1 rfl ?_
      refine rhF.aload_n (pc := 13) dX12_rise_13 0 rfl ?_
      refine rhF.ck (fun h6 => ?_)
      refine rhF.get (pc := 14) (rhR _) dX12_rise_14 fl_X12_151 h6 rfl ?_
      refine rhF.iload_n (pc := 17) dX12_rise_17 2 rfl ?_
      refine rhF.iconst (pc := 18) (v := 1) dX12_rise_18 (by decide) ?_
      refine rhF.isub (pc := 19) dX12_rise_19 ?_
      refine rhF.iconst (pc := 20) (v := 2) dX12_rise_20 (by decide) ?_
      refine rhF.idivc (pc := 21) dX12_rise_21 (by decide) ?_
      refine rhF.ck (fun h7 => ?_)
      refine rhF.ck (fun h8 => ?_)
      refine rhF.iald (pc := 22) dX12_rise_22 h7 h8 ?_
      refine rhF.callV (pc := 23) (ci := 12) (embc := rhe0I _ _) [rhI _, rhI _] dX12_rise_23 ml_X12_524 mv_X12_isBefore ⟨_, rfl, rfl⟩ h6 (c_X12_isBefore _ _ _ _ _ _) (by decide) (by decide) rfl (Nat.le_of_ble_eq_true rfl) (fun r9 _ => ?_)
      refine rhF.if_eq (pc := 26) 53 dX12_rise_26 (by decide) (fun h10 => ?_) (fun h10 => ?_)
      · exact hk53 _ _ _ _
      · refine rhF.aload_n (pc := 29) dX12_rise_29 0 rfl ?_
        refine rhF.iload_n (pc := 30) dX12_rise_30 2 rfl ?_
        refine rhF.aload_n (pc := 31) dX12_rise_31 0 rfl ?_
        refine rhF.get (pc := 32) (rhR _) dX12_rise_32 fl_X12_151 h6 rfl ?_
        refine rhF.iload_n (pc := 35) dX12_rise_35 2 rfl ?_
        refine rhF.iconst (pc := 36) (v := 1) dX12_rise_36 (by decide) ?_
        refine rhF.isub (pc := 37) dX12_rise_37 ?_
        refine rhF.iconst (pc := 38) (v := 2) dX12_rise_38 (by decide) ?_
        refine rhF.idivc (pc := 39) dX12_rise_39 (by decide) ?_
        refine rhF.iald (pc := 40) dX12_rise_40 h7 h8 ?_
        refine rhF.callV (pc := 41) (ci := 12) (embc := rhe1U _) [rhI _, rhI _] dX12_rise_41 ml_X12_528 mv_X12_put ⟨_, rfl, rfl⟩ h6 (c_X12_put _ _ _ _ _ _) (by decide) (by decide) rfl (Nat.le_of_ble_eq_true rfl) (fun r11 _ => ?_)
        refine rhF.iload_n (pc := 44) dX12_rise_44 2 rfl ?_
        refine rhF.iconst (pc := 45) (v := 1) dX12_rise_45 (by decide) ?_
        refine rhF.isub (pc := 46) dX12_rise_46 ?_
        refine rhF.iconst (pc := 47) (v := 2) dX12_rise_47 (by decide) ?_
        refine rhF.idivc (pc := 48) dX12_rise_48 (by decide) ?_
        refine rhF.istore_n (pc := 49) (L' := [(2, rhI _), (0, rhR _), (1, rhI _)]) dX12_rise_49 (by decide) rfl ?_
        refine rhF.goto (pc := 50) 7 dX12_rise_50 (by decide) ?_
        refine rhF.sub [1, 2, 0] rfl ?_
        exact ih _ _ _ _
    · exact hk53 _ _ _ _
set_option maxHeartbeats 4000000 in
set_option maxRecDepth 100000 in
theorem b_X12_rise_53 {E : rhE} {Γ : rhG} : ∀ (M : rhM) (v0 : Nat) (v1 : Int32) (v2 : Int32), rhF E 5 3 yX12_rise cX12_rise none Γ (rhe1U Γ) (f_X12_rise_53 Γ M v0 v1 v2) 53 [(0, rhR v0), (1, rhI v1), (2, rhI v2)] [] Γ M := by
  intro M v0 v1 v2
  rw [f_X12_rise_53]
  refine rhF.aload_n (pc := 53) dX12_rise_53 0 rfl ?_
  refine rhF.iload_n (pc := 54) dX12_rise_54 2 rfl ?_
  refine rhF.iload_n (pc := 55) dX12_rise_55 1 rfl ?_
  refine rhF.ck (fun h13 => ?_)
  refine rhF.callV (pc := 56) (ci := 12) (embc := rhe1U _) [rhI _, rhI _] dX12_rise_56 ml_X12_528 mv_X12_put ⟨_, rfl, rfl⟩ h13 (c_X12_put _ _ _ _ _ _) (by decide) (by decide) rfl (Nat.le_of_ble_eq_true rfl) (fun r14 _ => ?_)
  exact rhF.vret (pc := 59) dX12_rise_59 rfl rfl
set_option maxHeartbeats 4000000 in
set_option maxRecDepth 100000 in
theorem b_X12_rise {E : rhE} {Γ : rhG} : ∀ (M : rhM) (v0 : Nat) (v1 : Int32), rhF E 5 3 yX12_rise cX12_rise none Γ (rhe1U Γ) (f_X12_rise Γ M v0 v1) 0 [(0, rhR v0), (1, rhI v1)] [] Γ M := by
  intro M v0 v1
  rw [f_X12_rise]
  refine rhF.aload_n (pc := 0) dX12_rise_0 0 rfl ?_
  refine rhF.ck (fun h1 => ?_)
  refine rhF.get (pc := 1) (rhR _) dX12_rise_1 fl_X12_154 h1 rfl ?_
  refine rhF.iload_n (pc := 4) dX12_rise_4 1 rfl ?_
  refine rhF.ck (fun h2 => ?_)
  refine rhF.ck (fun h3 => ?_)
  refine rhF.iald (pc := 5) dX12_rise_5 h2 h3 ?_
  refine rhF.istore_n (pc := 6) (L' := [(2, rhI _), (0, rhR _), (1, rhI _)]) dX12_rise_6 (by decide) rfl ?_
  refine rhF.sub [1, 2, 0] rfl ?_
  exact (b_X12_rise_7 (b_X12_rise_53) rhFU) _ _ _ _
theorem c_X12_rise (E : rhE) (Γ : rhG) (M : rhM) (v0 : Nat) (v1 : Int32) : ∀ a, f_X12_rise Γ M v0 v1 = some a → rhC E 5 yX12_rise cX12_rise 3 none [rhR v0, rhI v1] Γ M ((rhe1U Γ) a) := rhF.met (by decide +kernel) (Nat.le_of_ble_eq_true rfl) (b_X12_rise M v0 v1)
def f_X12_reaches_91 (Γ : rhG) (M : rhM) (v0 : Nat) (v1 : Int32) : Option (rhM) :=
  rhck (Γ.2.2.1 v0 = 13) <|
  (f_X12_rise Γ M v0 v1).bind fun r23 =>
  some r23
def f_X12_reaches_52 (Γ : rhG) (M : rhM) (v0 : Nat) (v1 : Int32) (v2 : Int32) (v3 : Int32) (v4 : Int32) : Option (rhM) :=
  rhck (Γ.2.2.1 v0 = 13) <|
  rhck (Γ.2.2.1 (M.2.2 v0 57) = 15) <|
  rhck (0 ≤ (v1).toInt ∧ (v1).toInt < (Γ.2.2.2 (M.2.2 v0 57) : Nat)) <|
  let M17 := rhsi M (M.2.2 v0 57) (v1 : Int32).toNatClampNeg v2
  rhck (Γ.2.2.1 (M.2.2 v0 56) = 15) <|
  rhck (0 ≤ (v1).toInt ∧ (v1).toInt < (Γ.2.2.2 (M.2.2 v0 56) : Nat)) <|
  let M20 := rhsi M17 (M.2.2 v0 56) (v1 : Int32).toNatClampNeg v3
  if v4 = 0 then
    (f_X12_reaches_91 Γ M20 v0 v1)
  else
    rhck (Γ.2.2.1 (M.2.2 v0 68) = 15) <|
    rhck (0 ≤ (v1).toInt ∧ (v1).toInt < (Γ.2.2.2 (M.2.2 v0 68) : Nat)) <|
    let M26 := rhsi M20 (M.2.2 v0 68) (v1 : Int32).toNatClampNeg (M20.1 v0 70)
    let M27 := rhsi M26 v0 70 ((M26.1 v0 70) + 1)
    f_X12_reaches_91 Γ M27 v0 v1
def f_X12_reaches_14 (Γ : rhG) (M : rhM) (v0 : Nat) (v1 : Int32) (v2 : Int32) (v3 : Int32) (s0 : Int32) : Option (rhM) :=
  if s0 = 0 then
    (rhck (Γ.2.2.1 v0 = 13) <|
    rhck (Γ.2.2.1 (M.2.2 v0 57) = 15) <|
    rhck (0 ≤ (v1).toInt ∧ (v1).toInt < (Γ.2.2.2 (M.2.2 v0 57) : Nat)) <|
    if (M.1 (M.2.2 v0 57) v1.toNatClampNeg) < v2 then
      (some M)
    else
      if (M.1 (M.2.2 v0 57) v1.toNatClampNeg) = v2 then
        (rhck (Γ.2.2.1 (M.2.2 v0 56) = 15) <|
        rhck (0 ≤ (v1).toInt ∧ (v1).toInt < (Γ.2.2.2 (M.2.2 v0 56) : Nat)) <|
        if v3 < (M.1 (M.2.2 v0 56) v1.toNatClampNeg) then
          (f_X12_reaches_52 Γ M v0 v1 v2 v3 s0)
        else
          some M)
      else
        f_X12_reaches_52 Γ M v0 v1 v2 v3 s0)
  else
    f_X12_reaches_52 Γ M v0 v1 v2 v3 s0
def f_X12_reaches (Γ : rhG) (M : rhM) (v0 : Nat) (v1 : Int32) (v2 : Int32) (v3 : Int32) : Option (rhM) :=
  rhck (Γ.2.2.1 v0 = 13) <|
  rhck (Γ.2.2.1 (M.2.2 v0 56) = 15) <|
  rhck (0 ≤ (v1).toInt ∧ (v1).toInt < (Γ.2.2.2 (M.2.2 v0 56) : Nat)) <|
  if (M.1 (M.2.2 v0 56) v1.toNatClampNeg) < 0 then
    (f_X12_reaches_14 Γ M v0 v1 v2 v3 1)
  else
    f_X12_reaches_14 Γ M v0 v1 v2 v3 0
set_option maxHeartbeats 4000000 in
set_option maxRecDepth 100000 in
theorem b_X12_reaches_91 {E : rhE} {Γ : rhG} : ∀ (M : rhM) (v0 : Nat) (v1 : Int32), rhF E 6 5 yX12_reaches cX12_reaches none Γ (rhe1U Γ) (f_X12_reaches_91 Γ M v0 v1) 91 [(0, rhR v0), (1, rhI v1)] [] Γ M := by
  intro M v0 v1
  rw [f_X12_reaches_91]
  refine rhF.aload_n (pc := 91) dX12_reaches_91 0 rfl ?_
  refine rhF.iload_n (pc := 92) dX12_reaches_92 1 rfl ?_
  refine rhF.ck (fun h22 => ?_)
  refine rhF.callV (pc := 93) (ci := 12) (embc := rhe1U _) [rhI _] dX12_reaches_93 ml_X12_534 mv_X12_rise ⟨_, rfl, rfl⟩ h22 (c_X12_rise _ _ _ _ _) (by decide) (by decide) rfl (Nat.le_of_ble_eq_true rfl) (fun r23 _ => ?_)
  exact rhF.vret (pc := 96) dX12_reaches_96 rfl rfl
set_option maxHeartbeats 4000000 in
set_option maxRecDepth 100000 in
theorem b_X12_reaches_52 {E : rhE} {Γ : rhG} : ∀ (M : rhM) (v0 : Nat) (v1 : Int32) (v2 : Int32) (v3 : Int32) (v4 : Int32), rhF E 6 5 yX12_reaches cX12_reaches none Γ (rhe1U Γ) (f_X12_reaches_52 Γ M v0 v1 v2 v3 v4) 52 [(0, rhR v0), (1, rhI v1), (2, rhI v2), (3, rhI v3), (4, rhI v4)] [] Γ M := by
  intro M v0 v1 v2 v3 v4
  rw [f_X12_reaches_52]
  refine rhF.aload_n (pc := 52) dX12_reaches_52 0 rfl ?_
  refine rhF.ck (fun h14 => ?_)
  refine rhF.get (pc := 53) (rhR _) dX12_reaches_53 fl_X12_132 h14 rfl ?_
  refine rhF.iload_n (pc := 56) dX12_reaches_56 1 rfl ?_
  refine rhF.iload_n (pc := 57) dX12_reaches_57 2 rfl ?_
  refine rhF.ck (fun h15 => ?_)
  refine rhF.ck (fun h16 => ?_)
  refine rhF.iast (pc := 58) dX12_reaches_58 h15 h16 ?_
  refine rhF.aload_n (pc := 59) dX12_reaches_59 0 rfl ?_
  refine rhF.get (pc := 60) (rhR _) dX12_reaches_60 fl_X12_129 h14 rfl ?_
  refine rhF.iload_n (pc := 63) dX12_reaches_63 1 rfl ?_
  refine rhF.iload_n (pc := 64) dX12_reaches_64 3 rfl ?_
  refine rhF.ck (fun h18 => ?_)
  refine rhF.ck (fun h19 => ?_)
  refine rhF.iast (pc := 65) dX12_reaches_65 h18 h19 ?_
  refine rhF.iload (pc := 66) dX12_reaches_66 4 rfl ?_
  refine rhF.if_eq (pc := 68) 91 dX12_reaches_68 (by decide) (fun h21 => ?_) (fun h21 => ?_)
  · refine rhF.sub [0, 1] rfl ?_
    exact (b_X12_reaches_91) _ _ _
  · refine rhF.aload_n (pc := 71) dX12_reaches_71 0 rfl ?_
    refine rhF.get (pc := 72) (rhR _) dX12_reaches_72 fl_X12_154 h14 rfl ?_
    refine rhF.iload_n (pc := 75) dX12_reaches_75 1 rfl ?_
    refine rhF.aload_n (pc := 76) dX12_reaches_76 0 rfl ?_
    refine rhF.get (pc := 77) (rhI _) dX12_reaches_77 fl_X12_531 h14 rfl ?_
    refine rhF.ck (fun h24 => ?_)
    refine rhF.ck (fun h25 => ?_)
    refine rhF.iast (pc := 80) dX12_reaches_80 h24 h25 ?_
    refine rhF.aload_n (pc := 81) dX12_reaches_81 0 rfl ?_
    refine rhF.dupr (pc := 82) dX12_reaches_82 ?_
    refine rhF.get (pc := 83) (rhI _) dX12_reaches_83 fl_X12_531 h14 rfl ?_
    refine rhF.iconst (pc := 86) (v := 1) dX12_reaches_86 (by decide) ?_
    refine rhF.iadd (pc := 87) dX12_reaches_87 ?_
    refine rhF.puti (pc := 88) dX12_reaches_88 fl_X12_531 h14 (fun q hq => by cases hq; exact Or.inl rfl) ⟨rfl, rfl⟩ (fun _ => rfl) ?_
    refine rhF.sub [0, 1] rfl ?_
    exact (b_X12_reaches_91) _ _ _
set_option maxHeartbeats 4000000 in
set_option maxRecDepth 100000 in
theorem b_X12_reaches_14 {E : rhE} {Γ : rhG} : ∀ (M : rhM) (v0 : Nat) (v1 : Int32) (v2 : Int32) (v3 : Int32) (s0 : Int32), rhF E 6 5 yX12_reaches cX12_reaches none Γ (rhe1U Γ) (f_X12_reaches_14 Γ M v0 v1 v2 v3 s0) 14 [(0, rhR v0), (1, rhI v1), (2, rhI v2), (3, rhI v3)] [rhI s0] Γ M := by
  intro M v0 v1 v2 v3 s0
  rw [f_X12_reaches_14]
  refine rhF.istore (pc := 14) (L' := [(4, rhI _), (0, rhR _), (1, rhI _), (2, rhI _), (3, rhI _)]) dX12_reaches_14 (by decide) rfl ?_
  refine rhF.iload (pc := 16) dX12_reaches_16 0 rfl ?_
  refine rhF.if_ne (pc := 18) 52 dX12_reaches_18 (by decide) (fun h5 => ?_) (fun h5 => ?_)
  · refine rhF.aload_n (pc := 21) dX12_reaches_21 1 rfl ?_
    refine rhF.ck (fun h6 => ?_)
    refine rhF.get (pc := 22) (rhR _) dX12_reaches_22 fl_X12_132 h6 rfl ?_
    refine rhF.iload_n (pc := 25) dX12_reaches_25 2 rfl ?_
    refine rhF.ck (fun h7 => ?_)
    refine rhF.ck (fun h8 => ?_)
    refine rhF.iald (pc := 26) dX12_reaches_26 h7 h8 ?_
    refine rhF.iload_n (pc := 27) dX12_reaches_27 3 rfl ?_
    refine rhF.icmp_lt (pc := 28) 51 dX12_reaches_28 (by decide) (fun h9 => ?_) (fun h9 => ?_)
    · exact rhF.vret (pc := 51) dX12_reaches_51 rfl rfl
    · refine rhF.aload_n (pc := 31) dX12_reaches_31 1 rfl ?_
      refine rhF.get (pc := 32) (rhR _) dX12_reaches_32 fl_X12_132 h6 rfl ?_
      refine rhF.iload_n (pc := 35) dX12_reaches_35 2 rfl ?_
      refine rhF.iald (pc := 36) dX12_reaches_36 h7 h8 ?_
      refine rhF.iload_n (pc := 37) dX12_reaches_37 3 rfl ?_
      refine rhF.icmp_ne (pc := 38) 52 dX12_reaches_38 (by decide) (fun h10 => ?_) (fun h10 => ?_)
      · refine rhF.aload_n (pc := 41) dX12_reaches_41 1 rfl ?_
        refine rhF.get (pc := 42) (rhR _) dX12_reaches_42 fl_X12_129 h6 rfl ?_
        refine rhF.iload_n (pc := 45) dX12_reaches_45 2 rfl ?_
        refine rhF.ck (fun h11 => ?_)
        refine rhF.ck (fun h12 => ?_)
        refine rhF.iald (pc := 46) dX12_reaches_46 h11 h12 ?_
        refine rhF.iload_n (pc := 47) dX12_reaches_47 4 rfl ?_
        refine rhF.icmp_gt (pc := 48) 52 dX12_reaches_48 (by decide) (fun h13 => ?_) (fun h13 => ?_)
        · refine rhF.sub [1, 2, 3, 4, 0] rfl ?_
          exact (b_X12_reaches_52) _ _ _ _ _ _
        · exact rhF.vret (pc := 51) dX12_reaches_51 rfl rfl
      · refine rhF.sub [1, 2, 3, 4, 0] rfl ?_
        exact (b_X12_reaches_52) _ _ _ _ _ _
  · refine rhF.sub [1, 2, 3, 4, 0] rfl ?_
    exact (b_X12_reaches_52) _ _ _ _ _ _
set_option maxHeartbeats 4000000 in
set_option maxRecDepth 100000 in
theorem b_X12_reaches {E : rhE} {Γ : rhG} : ∀ (M : rhM) (v0 : Nat) (v1 : Int32) (v2 : Int32) (v3 : Int32), rhF E 6 5 yX12_reaches cX12_reaches none Γ (rhe1U Γ) (f_X12_reaches Γ M v0 v1 v2 v3) 0 [(0, rhR v0), (1, rhI v1), (2, rhI v2), (3, rhI v3)] [] Γ M := by
  intro M v0 v1 v2 v3
  rw [f_X12_reaches]
  refine rhF.aload_n (pc := 0) dX12_reaches_0 0 rfl ?_
  refine rhF.ck (fun h1 => ?_)
  refine rhF.get (pc := 1) (rhR _) dX12_reaches_1 fl_X12_129 h1 rfl ?_
  refine rhF.iload_n (pc := 4) dX12_reaches_4 1 rfl ?_
  refine rhF.ck (fun h2 => ?_)
  refine rhF.ck (fun h3 => ?_)
  refine rhF.iald (pc := 5) dX12_reaches_5 h2 h3 ?_
  refine rhF.if_ge (pc := 6) 13 dX12_reaches_6 (by decide) (fun h4 => ?_) (fun h4 => ?_)
  · refine rhF.iconst (pc := 9) (v := 1) dX12_reaches_9 (by decide) ?_
    refine rhF.goto (pc := 10) 14 dX12_reaches_10 (by decide) ?_
    exact (b_X12_reaches_14) _ _ _ _ _ _
  · refine rhF.iconst (pc := 13) (v := 0) dX12_reaches_13 (by decide) ?_
    exact (b_X12_reaches_14) _ _ _ _ _ _
theorem c_X12_reaches (E : rhE) (Γ : rhG) (M : rhM) (v0 : Nat) (v1 : Int32) (v2 : Int32) (v3 : Int32) : ∀ a, f_X12_reaches Γ M v0 v1 v2 v3 = some a → rhC E 6 yX12_reaches cX12_reaches 5 none [rhR v0, rhI v1, rhI v2, rhI v3] Γ M ((rhe1U Γ) a) := rhF.met (by decide +kernel) (Nat.le_of_ble_eq_true rfl) (b_X12_reaches M v0 v1 v2 v3)
def f_X12_takeFirst_120 (k121 : rhM → Nat → Int32 → Int32 → Int32 → Int32 → Int32 → Option (Int32 × rhM)) (Γ : rhG) (M : rhM) (v0 : Nat) (v1 : Int32) (v2 : Int32) (v3 : Int32) (v5 : Int32) : Option (Int32 × rhM) :=
  k121 M v0 v1 v2 v3 v5 0
def f_X12_takeFirst_121 (k43 : rhM → Nat → Int32 → Int32 → Int32 → Int32 → Option (Int32 × rhM)) (Γ : rhG) (M : rhM) (v0 : Nat) (v1 : Int32) (v2 : Int32) (v3 : Int32) (v5 : Int32) (s0 : Int32) : Option (Int32 × rhM) :=
  if s0 = 0 then
    (k43 M v0 v1 v2 v3 s0)
  else
    rhck (Γ.2.2.1 v0 = 13) <|
    rhck (Γ.2.2.1 (M.2.2 v0 67) = 15) <|
    rhck (0 ≤ (v5).toInt ∧ (v5).toInt < (Γ.2.2.2 (M.2.2 v0 67) : Nat)) <|
    (f_X12_put Γ M v0 v3 (M.1 (M.2.2 v0 67) v5.toNatClampNeg)).bind fun r28 =>
    k43 r28 v0 v1 v2 v5 s0
def f_X12_takeFirst_92 (k43 : rhM → Nat → Int32 → Int32 → Int32 → Int32 → Option (Int32 × rhM)) (Γ : rhG) (M : rhM) (v0 : Nat) (v1 : Int32) (v2 : Int32) (v3 : Int32) (v5 : Int32) : Option (Int32 × rhM) :=
  rhck (Γ.2.2.1 v0 = 13) <|
  if v5 < (M.1 v0 70) then
    (rhck (Γ.2.2.1 (M.2.2 v0 67) = 15) <|
    rhck (0 ≤ (v5).toInt ∧ (v5).toInt < (Γ.2.2.2 (M.2.2 v0 67) : Nat)) <|
    (f_X12_isBefore Γ M v0 (M.1 (M.2.2 v0 67) v5.toNatClampNeg) v2).bind fun r22 =>
    if r22 = 0 then
      (f_X12_takeFirst_120 (f_X12_takeFirst_121 k43 Γ) Γ M v0 v1 v2 v3 v5)
    else
      f_X12_takeFirst_121 k43 Γ M v0 v1 v2 v3 v5 1)
  else
    f_X12_takeFirst_120 (f_X12_takeFirst_121 k43 Γ) Γ M v0 v1 v2 v3 v5
def f_X12_takeFirst_43 (k149 : rhM → Nat → Int32 → Int32 → Int32 → Option (Int32 × rhM)) (Γ : rhG) : Nat → rhM → Nat → Int32 → Int32 → Int32 → Int32 → Option (Int32 × rhM)
  | 0, _, _, _, _, _, _ => none
  | n + 1, M, v0, v1, v2, v3, v4 =>
    if v4 = 0 then
      (k149 M v0 v1 v2 v3)
    else
      let x10 := (2 * v3) + 1
      rhck (Γ.2.2.1 v0 = 13) <|
      if (x10 + 1) < (M.1 v0 70) then
        (rhck (Γ.2.2.1 (M.2.2 v0 67) = 15) <|
        rhck (0 ≤ (x10 + 1).toInt ∧ (x10 + 1).toInt < (Γ.2.2.2 (M.2.2 v0 67) : Nat)) <|
        rhck (0 ≤ (x10).toInt ∧ (x10).toInt < (Γ.2.2.2 (M.2.2 v0 67) : Nat)) <|
        (f_X12_isBefore Γ M v0 (M.1 (M.2.2 v0 67) (x10 + 1).toNatClampNeg) (M.1 (M.2.2 v0 67) x10.toNatClampNeg)).bind fun r16 =>
        if r16 = 0 then
          (f_X12_takeFirst_92 (f_X12_takeFirst_43 k149 Γ n) Γ M v0 v1 v2 v3 x10)
        else
          let x29 : Int32 := x10 + 1
          f_X12_takeFirst_92 (f_X12_takeFirst_43 k149 Γ n) Γ M v0 v1 v2 v3 x29)
      else
        f_X12_takeFirst_92 (f_X12_takeFirst_43 k149 Γ n) Γ M v0 v1 v2 v3 x10
def f_X12_takeFirst_162 (Γ : rhG) (M : rhM) (v0 : Nat) (v1 : Int32) : Option (Int32 × rhM) :=
  rhck (Γ.2.2.1 v0 = 13) <|
  rhck (Γ.2.2.1 (M.2.2 v0 68) = 15) <|
  rhck (0 ≤ (v1).toInt ∧ (v1).toInt < (Γ.2.2.2 (M.2.2 v0 68) : Nat)) <|
  let M36 := rhsi M (M.2.2 v0 68) (v1 : Int32).toNatClampNeg ((-1))
  some ((v1, M36))
def f_X12_takeFirst_149 (Γ : rhG) (M : rhM) (v0 : Nat) (v1 : Int32) (v2 : Int32) (v3 : Int32) : Option (Int32 × rhM) :=
  rhck (Γ.2.2.1 v0 = 13) <|
  if 0 < (M.1 v0 70) then
    ((f_X12_put Γ M v0 v3 v2).bind fun r32 =>
    f_X12_takeFirst_162 Γ r32 v0 v1)
  else
    f_X12_takeFirst_162 Γ M v0 v1
def f_X12_takeFirst_41 (Γ : rhG) (M : rhM) (v0 : Nat) (v1 : Int32) (v2 : Int32) (v3 : Int32) (s0 : Int32) : Option (Int32 × rhM) :=
  f_X12_takeFirst_43 (f_X12_takeFirst_149 Γ) Γ rhFU M v0 v1 v2 v3 s0
def f_X12_takeFirst (Γ : rhG) (M : rhM) (v0 : Nat) : Option (Int32 × rhM) :=
  rhck (Γ.2.2.1 v0 = 13) <|
  rhck (Γ.2.2.1 (M.2.2 v0 67) = 15) <|
  rhck (0 ≤ (0 : Int32).toInt ∧ (0 : Int32).toInt < (Γ.2.2.2 (M.2.2 v0 67) : Nat)) <|
  let x4 := M.1 (M.2.2 v0 67) (0 : Int32).toNatClampNeg
  let M5 := rhsi M v0 70 ((M.1 v0 70) - 1)
  rhck (0 ≤ (M5.1 v0 70).toInt ∧ (M5.1 v0 70).toInt < (Γ.2.2.2 (M.2.2 v0 67) : Nat)) <|
  let x7 := M5.1 (M.2.2 v0 67) (M5.1 v0 70).toNatClampNeg
  if 0 < (M5.1 v0 70) then
    (f_X12_takeFirst_41 Γ M5 v0 x4 x7 0 1)
  else
    f_X12_takeFirst_41 Γ M5 v0 x4 x7 0 0
set_option maxHeartbeats 4000000 in
set_option maxRecDepth 100000 in
theorem b_X12_takeFirst_120 {E : rhE} {Γ : rhG} {k121 : rhM → Nat → Int32 → Int32 → Int32 → Int32 → Int32 → Option (Int32 × rhM)} (hk121 : ∀ (M : rhM) (v0 : Nat) (v1 : Int32) (v2 : Int32) (v3 : Int32) (v5 : Int32) (s0 : Int32), rhF E 5 6 yX12_takeFirst cX12_takeFirst (some .int) Γ (rhe1I Γ) (k121 M v0 v1 v2 v3 v5 s0) 121 [(0, rhR v0), (1, rhI v1), (2, rhI v2), (3, rhI v3), (5, rhI v5)] [rhI s0] Γ M) : ∀ (M : rhM) (v0 : Nat) (v1 : Int32) (v2 : Int32) (v3 : Int32) (v5 : Int32), rhF E 5 6 yX12_takeFirst cX12_takeFirst (some .int) Γ (rhe1I Γ) (f_X12_takeFirst_120 k121 Γ M v0 v1 v2 v3 v5) 120 [(0, rhR v0), (1, rhI v1), (2, rhI v2), (3, rhI v3), (5, rhI v5)] [] Γ M := by
  intro M v0 v1 v2 v3 v5
  rw [f_X12_takeFirst_120]
  refine rhF.iconst (pc := 120) (v := 0) dX12_takeFirst_120 (by decide) ?_
  exact hk121 _ _ _ _ _ _ _
set_option maxHeartbeats 4000000 in
set_option maxRecDepth 100000 in
theorem b_X12_takeFirst_121 {E : rhE} {Γ : rhG} {k43 : rhM → Nat → Int32 → Int32 → Int32 → Int32 → Option (Int32 × rhM)} (hk43 : ∀ (M : rhM) (v0 : Nat) (v1 : Int32) (v2 : Int32) (v3 : Int32) (v4 : Int32), rhF E 5 6 yX12_takeFirst cX12_takeFirst (some .int) Γ (rhe1I Γ) (k43 M v0 v1 v2 v3 v4) 43 [(0, rhR v0), (1, rhI v1), (2, rhI v2), (3, rhI v3), (4, rhI v4)] [] Γ M) : ∀ (M : rhM) (v0 : Nat) (v1 : Int32) (v2 : Int32) (v3 : Int32) (v5 : Int32) (s0 : Int32), rhF E 5 6 yX12_takeFirst cX12_takeFirst (some .int) Γ (rhe1I Γ) (f_X12_takeFirst_121 k43 Γ M v0 v1 v2 v3 v5 s0) 121 [(0, rhR v0), (1, rhI v1), (2, rhI v2), (3, rhI v3), (5, rhI v5)] [rhI s0] Γ M := by
  intro M v0 v1 v2 v3 v5 s0
  rw [f_X12_takeFirst_121]
  refine rhF.istore (pc := 121) (L' := [(4, rhI _), (0, rhR _), (1, rhI _), (2, rhI _), (3, rhI _), (5, rhI _)]) dX12_takeFirst_121 (by decide) rfl ?_
  refine rhF.iload (pc := 123) dX12_takeFirst_123 0 rfl ?_
  refine rhF.if_ne (pc := 125) 131 dX12_takeFirst_125 (by decide) (fun h24 => ?_) (fun h24 => ?_)
  · refine rhF.goto (pc := 128) 43 dX12_takeFirst_128 (by decide) ?_
    refine rhF.sub [1, 2, 3, 4, 0] rfl ?_
    exact hk43 _ _ _ _ _ _
  · refine rhF.aload_n (pc := 131) dX12_takeFirst_131 1 rfl ?_
    refine rhF.iload_n (pc := 132) dX12_takeFirst_132 4 rfl ?_
    refine rhF.aload_n (pc := 133) dX12_takeFirst_133 1 rfl ?_
    refine rhF.ck (fun h25 => ?_)
    refine rhF.get (pc := 134) (rhR _) dX12_takeFirst_134 fl_X12_151 h25 rfl ?_
    refine rhF.iload (pc := 137) dX12_takeFirst_137 5 rfl ?_
    refine rhF.ck (fun h26 => ?_)
    refine rhF.ck (fun h27 => ?_)
    refine rhF.iald (pc := 139) dX12_takeFirst_139 h26 h27 ?_
    refine rhF.callV (pc := 140) (ci := 12) (embc := rhe1U _) [rhI _, rhI _] dX12_takeFirst_140 ml_X12_528 mv_X12_put ⟨_, rfl, rfl⟩ h25 (c_X12_put _ _ _ _ _ _) (by decide) (by decide) rfl (Nat.le_of_ble_eq_true rfl) (fun r28 _ => ?_)
    refine rhF.iload (pc := 143) dX12_takeFirst_143 5 rfl ?_
    refine rhF.istore_n (pc := 145) (L' := [(3, rhI _), (4, rhI _), (0, rhR _), (1, rhI _), (2, rhI _), (5, rhI _)]) dX12_takeFirst_145 (by decide) rfl ?_
    refine rhF.goto (pc := 146) 43 dX12_takeFirst_146 (by decide) ?_
    refine rhF.sub [2, 3, 4, 0, 1] rfl ?_
    exact hk43 _ _ _ _ _ _
set_option maxHeartbeats 4000000 in
set_option maxRecDepth 100000 in
theorem b_X12_takeFirst_92 {E : rhE} {Γ : rhG} {k43 : rhM → Nat → Int32 → Int32 → Int32 → Int32 → Option (Int32 × rhM)} (hk43 : ∀ (M : rhM) (v0 : Nat) (v1 : Int32) (v2 : Int32) (v3 : Int32) (v4 : Int32), rhF E 5 6 yX12_takeFirst cX12_takeFirst (some .int) Γ (rhe1I Γ) (k43 M v0 v1 v2 v3 v4) 43 [(0, rhR v0), (1, rhI v1), (2, rhI v2), (3, rhI v3), (4, rhI v4)] [] Γ M) : ∀ (M : rhM) (v0 : Nat) (v1 : Int32) (v2 : Int32) (v3 : Int32) (v5 : Int32), rhF E 5 6 yX12_takeFirst cX12_takeFirst (some .int) Γ (rhe1I Γ) (f_X12_takeFirst_92 k43 Γ M v0 v1 v2 v3 v5) 92 [(0, rhR v0), (1, rhI v1), (2, rhI v2), (3, rhI v3), (5, rhI v5)] [] Γ M := by
  intro M v0 v1 v2 v3 v5
  rw [f_X12_takeFirst_92]
  refine rhF.iload (pc := 92) dX12_takeFirst_92 4 rfl ?_
  refine rhF.aload_n (pc := 94) dX12_takeFirst_94 0 rfl ?_
  refine rhF.ck (fun h18 => ?_)
  refine rhF.get (pc := 95) (rhI _) dX12_takeFirst_95 fl_X12_531 h18 rfl ?_
  refine rhF.icmp_ge (pc := 98) 120 dX12_takeFirst_98 (by decide) (fun h19 => ?_) (fun h19 => ?_)
  · refine rhF.aload_n (pc := 101) dX12_takeFirst_101 0 rfl ?_
    refine rhF.aload_n (pc := 102) dX12_takeFirst_102 0 rfl ?_
    refine rhF.get (pc := 103) (rhR _) dX12_takeFirst_103 fl_X12_151 h18 rfl ?_
    refine rhF.iload (pc := 106) dX12_takeFirst_106 4 rfl ?_
    refine rhF.ck (fun h20 => ?_)
    refine rhF.ck (fun h21 => ?_)
    refine rhF.iald (pc := 108) dX12_takeFirst_108 h20 h21 ?_
    refine rhF.iload_n (pc := 109) dX12_takeFirst_109 2 rfl ?_
    refine rhF.callV (pc := 110) (ci := 12) (embc := rhe0I _ _) [rhI _, rhI _] dX12_takeFirst_110 ml_X12_524 mv_X12_isBefore ⟨_, rfl, rfl⟩ h18 (c_X12_isBefore _ _ _ _ _ _) (by decide) (by decide) rfl (Nat.le_of_ble_eq_true rfl) (fun r22 _ => ?_)
    refine rhF.if_eq (pc := 113) 120 dX12_takeFirst_113 (by decide) (fun h23 => ?_) (fun h23 => ?_)
    · exact (b_X12_takeFirst_120 (b_X12_takeFirst_121 hk43)) _ _ _ _ _ _
    · refine rhF.iconst (pc := 116) (v := 1) dX12_takeFirst_116 (by decide) ?_
      refine rhF.goto (pc := 117) 121 dX12_takeFirst_117 (by decide) ?_
      exact (b_X12_takeFirst_121 hk43) _ _ _ _ _ _ _
  · exact (b_X12_takeFirst_120 (b_X12_takeFirst_121 hk43)) _ _ _ _ _ _
set_option maxHeartbeats 4000000 in
set_option maxRecDepth 100000 in
theorem b_X12_takeFirst_43 {E : rhE} {Γ : rhG} {k149 : rhM → Nat → Int32 → Int32 → Int32 → Option (Int32 × rhM)} (hk149 : ∀ (M : rhM) (v0 : Nat) (v1 : Int32) (v2 : Int32) (v3 : Int32), rhF E 5 6 yX12_takeFirst cX12_takeFirst (some .int) Γ (rhe1I Γ) (k149 M v0 v1 v2 v3) 149 [(0, rhR v0), (1, rhI v1), (2, rhI v2), (3, rhI v3)] [] Γ M) : ∀ (n : Nat) (M : rhM) (v0 : Nat) (v1 : Int32) (v2 : Int32) (v3 : Int32) (v4 : Int32), rhF E 5 6 yX12_takeFirst cX12_takeFirst (some .int) Γ (rhe1I Γ) (f_X12_takeFirst_43 k149 Γ n M v0 v1 v2 v3 v4) 43 [(0, rhR v0), (1, rhI v1), (2, rhI v2), (3, rhI v3), (4, rhI v4)] [] Γ M := by
  intro n
  induction n with
  | zero => intro M v0 v1 v2 v3 v4; rw [f_X12_takeFirst_43]; exact rhF.nope
  | succ n ih =>
    intro M v0 v1 v2 v3 v4
    rw [f_X12_takeFirst_43]
    refine rhF.iload (pc := 43) dX12_takeFirst_43 4 rfl ?_
    refine rhF.if_eq (pc := 45) 149 dX12_takeFirst_45 (by decide) (fun h9 => ?_) (fun h9 => ?_)
    · refine rhF.sub [0, 1, 2, 3] rfl ?_
      exact hk149 _ _ _ _ _
    · refine rhF.iconst (pc := 48) (v := 2) dX12_takeFirst_48 (by decide) ?_
      refine rhF.iload_n (pc := 49) dX12_takeFirst_49 3 rfl ?_
      refine rhF.imul (pc := 50) dX12_takeFirst_50 ?_
      refine rhF.iconst (pc := 51) (v := 1) dX12_takeFirst_51 (by decide) ?_
      refine rhF.iadd (pc := 52) dX12_takeFirst_52 ?_
      refine rhF.istore (pc := 53) (L' := [(5, rhI _), (0, rhR _), (1, rhI _), (2, rhI _), (3, rhI _), (4, rhI _)]) dX12_takeFirst_53 (by decide) rfl ?_
      refine rhF.iload (pc := 55) dX12_takeFirst_55 0 rfl ?_
      refine rhF.iconst (pc := 57) (v := 1) dX12_takeFirst_57 (by decide) ?_
      refine rhF.iadd (pc := 58) dX12_takeFirst_58 ?_
      refine rhF.aload_n (pc := 59) dX12_takeFirst_59 1 rfl ?_
      refine rhF.ck (fun h11 => ?_)
      refine rhF.get (pc := 60) (rhI _) dX12_takeFirst_60 fl_X12_531 h11 rfl ?_
      refine rhF.icmp_ge (pc := 63) 92 dX12_takeFirst_63 (by decide) (fun h12 => ?_) (fun h12 => ?_)
      · refine rhF.aload_n (pc := 66) dX12_takeFirst_66 1 rfl ?_
        refine rhF.aload_n (pc := 67) dX12_takeFirst_67 1 rfl ?_
        refine rhF.get (pc := 68) (rhR _) dX12_takeFirst_68 fl_X12_151 h11 rfl ?_
        refine rhF.iload (pc := 71) dX12_takeFirst_71 0 rfl ?_
        refine rhF.iconst (pc := 73) (v := 1) dX12_takeFirst_73 (by decide) ?_
        refine rhF.iadd (pc := 74) dX12_takeFirst_74 ?_
        refine rhF.ck (fun h13 => ?_)
        refine rhF.ck (fun h14 => ?_)
        refine rhF.iald (pc := 75) dX12_takeFirst_75 h13 h14 ?_
        refine rhF.aload_n (pc := 76) dX12_takeFirst_76 1 rfl ?_
        refine rhF.get (pc := 77) (rhR _) dX12_takeFirst_77 fl_X12_151 h11 rfl ?_
        refine rhF.iload (pc := 80) dX12_takeFirst_80 0 rfl ?_
        refine rhF.ck (fun h15 => ?_)
        refine rhF.iald (pc := 82) dX12_takeFirst_82 h13 h15 ?_
        refine rhF.callV (pc := 83) (ci := 12) (embc := rhe0I _ _) [rhI _, rhI _] dX12_takeFirst_83 ml_X12_524 mv_X12_isBefore ⟨_, rfl, rfl⟩ h11 (c_X12_isBefore _ _ _ _ _ _) (by decide) (by decide) rfl (Nat.le_of_ble_eq_true rfl) (fun r16 _ => ?_)
        refine rhF.if_eq (pc := 86) 92 dX12_takeFirst_86 (by decide) (fun h17 => ?_) (fun h17 => ?_)
        · refine rhF.sub [1, 2, 3, 4, 0] rfl ?_
          exact (b_X12_takeFirst_92 ih) _ _ _ _ _ _
        · refine rhF.iinc (pc := 89) (L' := [(5, rhI _), (0, rhR _), (1, rhI _), (2, rhI _), (3, rhI _), (4, rhI _)]) dX12_takeFirst_89 0 rfl rfl (by decide) rfl ?_
          refine rhF.sub [1, 2, 3, 4, 0] rfl ?_
          exact (b_X12_takeFirst_92 ih) _ _ _ _ _ _
      · refine rhF.sub [1, 2, 3, 4, 0] rfl ?_
        exact (b_X12_takeFirst_92 ih) _ _ _ _ _ _
set_option maxHeartbeats 4000000 in
set_option maxRecDepth 100000 in
theorem b_X12_takeFirst_162 {E : rhE} {Γ : rhG} : ∀ (M : rhM) (v0 : Nat) (v1 : Int32), rhF E 5 6 yX12_takeFirst cX12_takeFirst (some .int) Γ (rhe1I Γ) (f_X12_takeFirst_162 Γ M v0 v1) 162 [(0, rhR v0), (1, rhI v1)] [] Γ M := by
  intro M v0 v1
  rw [f_X12_takeFirst_162]
  refine rhF.aload_n (pc := 162) dX12_takeFirst_162 0 rfl ?_
  refine rhF.ck (fun h33 => ?_)
  refine rhF.get (pc := 163) (rhR _) dX12_takeFirst_163 fl_X12_154 h33 rfl ?_
  refine rhF.iload_n (pc := 166) dX12_takeFirst_166 1 rfl ?_
  refine rhF.iconst (pc := 167) (v := (-1)) dX12_takeFirst_167 (by decide) ?_
  refine rhF.ck (fun h34 => ?_)
  refine rhF.ck (fun h35 => ?_)
  refine rhF.iast (pc := 168) dX12_takeFirst_168 h34 h35 ?_
  refine rhF.iload_n (pc := 169) dX12_takeFirst_169 1 rfl ?_
  exact rhF.zret (pc := 170) dX12_takeFirst_170 rfl rfl rfl
set_option maxHeartbeats 4000000 in
set_option maxRecDepth 100000 in
theorem b_X12_takeFirst_149 {E : rhE} {Γ : rhG} : ∀ (M : rhM) (v0 : Nat) (v1 : Int32) (v2 : Int32) (v3 : Int32), rhF E 5 6 yX12_takeFirst cX12_takeFirst (some .int) Γ (rhe1I Γ) (f_X12_takeFirst_149 Γ M v0 v1 v2 v3) 149 [(0, rhR v0), (1, rhI v1), (2, rhI v2), (3, rhI v3)] [] Γ M := by
  intro M v0 v1 v2 v3
  rw [f_X12_takeFirst_149]
  refine rhF.aload_n (pc := 149) dX12_takeFirst_149 0 rfl ?_
  refine rhF.ck (fun h30 => ?_)
  refine rhF.get (pc := 150) (rhI _) dX12_takeFirst_150 fl_X12_531 h30 rfl ?_
  refine rhF.if_le (pc := 153) 162 dX12_takeFirst_153 (by decide) (fun h31 => ?_) (fun h31 => ?_)
  · refine rhF.aload_n (pc := 156) dX12_takeFirst_156 0 rfl ?_
    refine rhF.iload_n (pc := 157) dX12_takeFirst_157 3 rfl ?_
    refine rhF.iload_n (pc := 158) dX12_takeFirst_158 2 rfl ?_
    refine rhF.callV (pc := 159) (ci := 12) (embc := rhe1U _) [rhI _, rhI _] dX12_takeFirst_159 ml_X12_528 mv_X12_put ⟨_, rfl, rfl⟩ h30 (c_X12_put _ _ _ _ _ _) (by decide) (by decide) rfl (Nat.le_of_ble_eq_true rfl) (fun r32 _ => ?_)
    refine rhF.sub [0, 1] rfl ?_
    exact (b_X12_takeFirst_162) _ _ _
  · refine rhF.sub [0, 1] rfl ?_
    exact (b_X12_takeFirst_162) _ _ _
set_option maxHeartbeats 4000000 in
set_option maxRecDepth 100000 in
theorem b_X12_takeFirst_41 {E : rhE} {Γ : rhG} : ∀ (M : rhM) (v0 : Nat) (v1 : Int32) (v2 : Int32) (v3 : Int32) (s0 : Int32), rhF E 5 6 yX12_takeFirst cX12_takeFirst (some .int) Γ (rhe1I Γ) (f_X12_takeFirst_41 Γ M v0 v1 v2 v3 s0) 41 [(0, rhR v0), (1, rhI v1), (2, rhI v2), (3, rhI v3)] [rhI s0] Γ M := by
  intro M v0 v1 v2 v3 s0
  rw [f_X12_takeFirst_41]
  refine rhF.istore (pc := 41) (L' := [(4, rhI _), (0, rhR _), (1, rhI _), (2, rhI _), (3, rhI _)]) dX12_takeFirst_41 (by decide) rfl ?_
  refine rhF.sub [1, 2, 3, 4, 0] rfl ?_
  exact (b_X12_takeFirst_43 (b_X12_takeFirst_149) rhFU) _ _ _ _ _ _
set_option maxHeartbeats 4000000 in
set_option maxRecDepth 100000 in
theorem b_X12_takeFirst {E : rhE} {Γ : rhG} : ∀ (M : rhM) (v0 : Nat), rhF E 5 6 yX12_takeFirst cX12_takeFirst (some .int) Γ (rhe1I Γ) (f_X12_takeFirst Γ M v0) 0 [(0, rhR v0)] [] Γ M := by
  intro M v0
  rw [f_X12_takeFirst]
  refine rhF.aload_n (pc := 0) dX12_takeFirst_0 0 rfl ?_
  refine rhF.ck (fun h1 => ?_)
  refine rhF.get (pc := 1) (rhR _) dX12_takeFirst_1 fl_X12_151 h1 rfl ?_
  refine rhF.iconst (pc := 4) (v := 0) dX12_takeFirst_4 (by decide) ?_
  refine rhF.ck (fun h2 => ?_)
  refine rhF.ck (fun h3 => ?_)
  refine rhF.iald (pc := 5) dX12_takeFirst_5 h2 h3 ?_
  refine rhF.istore_n (pc := 6) (L' := [(1, rhI _), (0, rhR _)]) dX12_takeFirst_6 (by decide) rfl ?_
  refine rhF.aload_n (pc := 7) dX12_takeFirst_7 1 rfl ?_
  refine rhF.dupr (pc := 8) dX12_takeFirst_8 ?_
  refine rhF.get (pc := 9) (rhI _) dX12_takeFirst_9 fl_X12_531 h1 rfl ?_
  refine rhF.iconst (pc := 12) (v := 1) dX12_takeFirst_12 (by decide) ?_
  refine rhF.isub (pc := 13) dX12_takeFirst_13 ?_
  refine rhF.puti (pc := 14) dX12_takeFirst_14 fl_X12_531 h1 (fun q hq => by cases hq; exact Or.inl rfl) ⟨rfl, rfl⟩ (fun _ => rfl) ?_
  refine rhF.aload_n (pc := 17) dX12_takeFirst_17 1 rfl ?_
  refine rhF.get (pc := 18) (rhR _) dX12_takeFirst_18 fl_X12_151 h1 rfl ?_
  refine rhF.aload_n (pc := 21) dX12_takeFirst_21 1 rfl ?_
  refine rhF.get (pc := 22) (rhI _) dX12_takeFirst_22 fl_X12_531 h1 rfl ?_
  refine rhF.ck (fun h6 => ?_)
  refine rhF.iald (pc := 25) dX12_takeFirst_25 h2 h6 ?_
  refine rhF.istore_n (pc := 26) (L' := [(2, rhI _), (1, rhI _), (0, rhR _)]) dX12_takeFirst_26 (by decide) rfl ?_
  refine rhF.iconst (pc := 27) (v := 0) dX12_takeFirst_27 (by decide) ?_
  refine rhF.istore_n (pc := 28) (L' := [(3, rhI _), (2, rhI _), (1, rhI _), (0, rhR _)]) dX12_takeFirst_28 (by decide) rfl ?_
  refine rhF.aload_n (pc := 29) dX12_takeFirst_29 3 rfl ?_
  refine rhF.get (pc := 30) (rhI _) dX12_takeFirst_30 fl_X12_531 h1 rfl ?_
  refine rhF.if_le (pc := 33) 40 dX12_takeFirst_33 (by decide) (fun h8 => ?_) (fun h8 => ?_)
  · refine rhF.iconst (pc := 36) (v := 1) dX12_takeFirst_36 (by decide) ?_
    refine rhF.goto (pc := 37) 41 dX12_takeFirst_37 (by decide) ?_
    refine rhF.sub [3, 2, 1, 0] rfl ?_
    exact (b_X12_takeFirst_41) _ _ _ _ _ _
  · refine rhF.iconst (pc := 40) (v := 0) dX12_takeFirst_40 (by decide) ?_
    refine rhF.sub [3, 2, 1, 0] rfl ?_
    exact (b_X12_takeFirst_41) _ _ _ _ _ _
theorem c_X12_takeFirst (E : rhE) (Γ : rhG) (M : rhM) (v0 : Nat) : ∀ a, f_X12_takeFirst Γ M v0 = some a → rhC E 5 yX12_takeFirst cX12_takeFirst 6 (some .int) [rhR v0] Γ M ((rhe1I Γ) a) := rhF.met (by decide +kernel) (Nat.le_of_ble_eq_true rfl) (b_X12_takeFirst M v0)
def f_X12_settle_2 (k21 : rhM → Nat → Option (rhM)) (Γ : rhG) : Nat → rhM → Nat → Int32 → Option (rhM)
  | 0, _, _, _ => none
  | n + 1, M, v0, v1 =>
    if v1 < 246960 then
      (rhck (Γ.2.2.1 v0 = 13) <|
      rhck (Γ.2.2.1 (M.2.2 v0 56) = 15) <|
      rhck (0 ≤ (v1).toInt ∧ (v1).toInt < (Γ.2.2.2 (M.2.2 v0 56) : Nat)) <|
      let M5 := rhsi M (M.2.2 v0 56) (v1 : Int32).toNatClampNeg ((-1))
      let x6 : Int32 := v1 + 1
      f_X12_settle_2 k21 Γ n M5 v0 x6)
    else
      k21 M v0
def f_X12_settle_200 (k128 : rhM → Nat → Int32 → Int32 → Int32 → Int32 → Option (rhM)) (Γ : rhG) (M : rhM) (v0 : Nat) (v1 : Int32) (v2 : Int32) (v3 : Int32) (v4 : Int32) : Option (rhM) :=
  let x37 : Int32 := v4 + 1
  k128 M v0 v1 v2 v3 x37
def f_X12_settle_128 (k206 : rhM → Nat → Int32 → Int32 → Int32 → Option (rhM)) (Γ : rhG) : Nat → rhM → Nat → Int32 → Int32 → Int32 → Int32 → Option (rhM)
  | 0, _, _, _, _, _, _ => none
  | n + 1, M, v0, v1, v2, v3, v4 =>
    rhck (Γ.2.2.1 v0 = 13) <|
    (f_X12_railMany Γ M v0).bind fun r32 =>
    if v4 < r32 then
      ((f_X12_layAt Γ M v0).bind fun r34 =>
      (f_X12_isLawful Γ r34 v0 v2 v3 v4).bind fun r35 =>
      if r35.1 = 0 then
        (f_X12_settle_200 (f_X12_settle_128 k206 Γ n) Γ r35.2 v0 v1 v2 v3 v4)
      else
        (f_X12_sumOf Γ r35.2 v0 (r35.2.2.2 v0 20) v2 v3).bind fun r38 =>
        (f_X12_moves Γ r35.2 v0 v2 v3 v4).bind fun r39 =>
        (f_X12_stateOf Γ r39 v0).bind fun r40 =>
        rhck (Γ.2.2.1 (r39.2.2 v0 57) = 15) <|
        rhck (0 ≤ (v1).toInt ∧ (v1).toInt < (Γ.2.2.2 (r39.2.2 v0 57) : Nat)) <|
        rhck (Γ.2.2.1 (r39.2.2 v0 56) = 15) <|
        rhck (0 ≤ (v1).toInt ∧ (v1).toInt < (Γ.2.2.2 (r39.2.2 v0 56) : Nat)) <|
        (f_X12_reaches Γ r39 v0 r40 ((r39.1 (r39.2.2 v0 57) v1.toNatClampNeg) + r38) ((r39.1 (r39.2.2 v0 56) v1.toNatClampNeg) + 1)).bind fun r45 =>
        f_X12_settle_200 (f_X12_settle_128 k206 Γ n) Γ r45 v0 v1 v2 v3 v4)
    else
      k206 M v0 v1 v2 v3
def f_X12_settle_206 (k98 : rhM → Nat → Int32 → Int32 → Int32 → Option (rhM)) (Γ : rhG) (M : rhM) (v0 : Nat) (v1 : Int32) (v2 : Int32) (v3 : Int32) : Option (rhM) :=
  let x46 : Int32 := v3 + 1
  k98 M v0 v1 v2 x46
def f_X12_settle_121 (k98 : rhM → Nat → Int32 → Int32 → Int32 → Option (rhM)) (k212 : rhM → Nat → Int32 → Int32 → Option (rhM)) (Γ : rhG) (M : rhM) (v0 : Nat) (v1 : Int32) (v2 : Int32) (v3 : Int32) (s0 : Int32) (s1 : Int32) (s2 : Int32) : Option (rhM) :=
  if (s1 - s2) < s0 then
    (k212 M v0 v1 v2)
  else
    f_X12_settle_128 (f_X12_settle_206 k98 Γ) Γ rhFU M v0 v1 v2 v3 0
def f_X12_settle_98 (k212 : rhM → Nat → Int32 → Int32 → Option (rhM)) (Γ : rhG) : Nat → rhM → Nat → Int32 → Int32 → Int32 → Option (rhM)
  | 0, _, _, _, _, _ => none
  | n + 1, M, v0, v1, v2, v3 =>
    rhck (Γ.2.2.1 v0 = 13) <|
    rhck (Γ.2.2.1 (M.2.2 v0 64) = 15) <|
    rhck (0 ≤ (v2).toInt ∧ (v2).toInt < (Γ.2.2.2 (M.2.2 v0 64) : Nat)) <|
    if v2 = 0 then
      (f_X12_settle_121 (f_X12_settle_98 k212 Γ n) k212 Γ M v0 v1 v2 v3 v3 (M.1 (M.2.2 v0 64) v2.toNatClampNeg) 0)
    else
      rhck (0 ≤ (v2 - 1).toInt ∧ (v2 - 1).toInt < (Γ.2.2.2 (M.2.2 v0 64) : Nat)) <|
      f_X12_settle_121 (f_X12_settle_98 k212 Γ n) k212 Γ M v0 v1 v2 v3 v3 (M.1 (M.2.2 v0 64) v2.toNatClampNeg) (M.1 (M.2.2 v0 64) (v2 - 1).toNatClampNeg)
def f_X12_settle_212 (k88 : rhM → Nat → Int32 → Int32 → Option (rhM)) (Γ : rhG) (M : rhM) (v0 : Nat) (v1 : Int32) (v2 : Int32) : Option (rhM) :=
  let x48 : Int32 := v2 + 1
  k88 M v0 v1 x48
def f_X12_settle_88 (k218 : rhM → Nat → Option (rhM)) (Γ : rhG) : Nat → rhM → Nat → Int32 → Int32 → Option (rhM)
  | 0, _, _, _, _ => none
  | n + 1, M, v0, v1, v2 =>
    rhck (Γ.2.2.1 v0 = 13) <|
    (f_X12_railMany Γ M v0).bind fun r24 =>
    if v2 < r24 then
      (f_X12_settle_98 (f_X12_settle_212 (f_X12_settle_88 k218 Γ n) Γ) Γ rhFU M v0 v1 v2 1)
    else
      k218 M v0
def f_X12_settle_218 (k45 : rhM → Nat → Option (rhM)) (Γ : rhG) (M : rhM) (v0 : Nat) : Option (rhM) :=
  k45 M v0
def f_X12_settle_45 (Γ : rhG) : Nat → rhM → Nat → Option (rhM)
  | 0, _, _ => none
  | n + 1, M, v0 =>
    rhck (Γ.2.2.1 v0 = 13) <|
    if 0 < (M.1 v0 70) then
      ((f_X12_takeFirst Γ M v0).bind fun r15 =>
      let x16 := r15.1
      rhck (Γ.2.2.1 (r15.2.2.2 v0 69) = 15) <|
      rhck (0 ≤ (r15.2.1 v0 71).toInt ∧ (r15.2.1 v0 71).toInt < (Γ.2.2.2 (r15.2.2.2 v0 69) : Nat)) <|
      let M19 := rhsi r15.2 (r15.2.2.2 v0 69) (r15.2.1 v0 71 : Int32).toNatClampNeg x16
      let M20 := rhsi M19 v0 71 ((M19.1 v0 71) + 1)
      (f_X12_layState Γ M20 v0 x16).bind fun r21 =>
      (f_X12_keepAt Γ r21 v0).bind fun r22 =>
      f_X12_settle_88 (f_X12_settle_218 (f_X12_settle_45 Γ n) Γ) Γ rhFU r22 v0 x16 0)
    else
      some M
def f_X12_settle_21 (Γ : rhG) (M : rhM) (v0 : Nat) : Option (rhM) :=
  rhck (Γ.2.2.1 v0 = 13) <|
  let M8 := rhsi M v0 70 0
  let M9 := rhsi M8 v0 71 0
  (f_X12_layNow Γ M9 v0).bind fun r10 =>
  (f_X12_stateOf Γ r10 v0).bind fun r11 =>
  (f_X12_reaches Γ r10 v0 r11 (0 : Int32) (0 : Int32)).bind fun r12 =>
  f_X12_settle_45 Γ rhFU r12 v0
def f_X12_settle (Γ : rhG) (M : rhM) (v0 : Nat) : Option (rhM) :=
  f_X12_settle_2 (f_X12_settle_21 Γ) Γ rhFU M v0 0
set_option maxHeartbeats 4000000 in
set_option maxRecDepth 100000 in
theorem b_X12_settle_2 {E : rhE} {Γ : rhG} {k21 : rhM → Nat → Option (rhM)} (hk21 : ∀ (M : rhM) (v0 : Nat), rhF E 9 6 yX12_settle cX12_settle none Γ (rhe1U Γ) (k21 M v0) 21 [(0, rhR v0)] [] Γ M) : ∀ (n : Nat) (M : rhM) (v0 : Nat) (v1 : Int32), rhF E 9 6 yX12_settle cX12_settle none Γ (rhe1U Γ) (f_X12_settle_2 k21 Γ n M v0 v1) 2 [(0, rhR v0), (1, rhI v1)] [] Γ M := by
  intro n
  induction n with
  | zero => intro M v0 v1; rw [f_X12_settle_2]; exact rhF.nope
  | succ n ih =>
    intro M v0 v1
    rw [f_X12_settle_2]
    refine rhF.iload_n (pc := 2) dX12_settle_2 1 rfl ?_
    refine rhF.ldc (pc := 3) dX12_settle_3 k_X12_122 ?_
    refine rhF.icmp_ge (pc := 5) 21 dX12_settle_5 (by decide) (fun h1 => ?_) (fun h1 => ?_)
    · refine rhF.aload_n (pc := 8) dX12_settle_8 0 rfl ?_
      refine rhF.ck (fun h2 => ?_)
      refine rhF.get (pc := 9) (rhR _) dX12_settle_9 fl_X12_129 h2 rfl ?_
      refine rhF.iload_n (pc := 12) dX12_settle_12 1 rfl ?_
      refine rhF.iconst (pc := 13) (v := (-1)) dX12_settle_13 (by decide) ?_
      refine rhF.ck (fun h3 => ?_)
      refine rhF.ck (fun h4 => ?_)
      refine rhF.iast (pc := 14) dX12_settle_14 h3 h4 ?_
      refine rhF.iinc (pc := 15) (L' := [(1, rhI _), (0, rhR _)]) dX12_settle_15 1 rfl rfl (by decide) rfl ?_
      refine rhF.goto (pc := 18) 2 dX12_settle_18 (by decide) ?_
      refine rhF.sub [1, 0] rfl ?_
      exact ih _ _ _
    · refine rhF.sub [0] rfl ?_
      exact hk21 _ _
set_option maxHeartbeats 4000000 in
set_option maxRecDepth 100000 in
theorem b_X12_settle_200 {E : rhE} {Γ : rhG} {k128 : rhM → Nat → Int32 → Int32 → Int32 → Int32 → Option (rhM)} (hk128 : ∀ (M : rhM) (v0 : Nat) (v1 : Int32) (v2 : Int32) (v3 : Int32) (v4 : Int32), rhF E 9 6 yX12_settle cX12_settle none Γ (rhe1U Γ) (k128 M v0 v1 v2 v3 v4) 128 [(0, rhR v0), (1, rhI v1), (2, rhI v2), (3, rhI v3), (4, rhI v4)] [] Γ M) : ∀ (M : rhM) (v0 : Nat) (v1 : Int32) (v2 : Int32) (v3 : Int32) (v4 : Int32), rhF E 9 6 yX12_settle cX12_settle none Γ (rhe1U Γ) (f_X12_settle_200 k128 Γ M v0 v1 v2 v3 v4) 200 [(0, rhR v0), (1, rhI v1), (2, rhI v2), (3, rhI v3), (4, rhI v4)] [] Γ M := by
  intro M v0 v1 v2 v3 v4
  rw [f_X12_settle_200]
  refine rhF.iinc (pc := 200) (L' := [(4, rhI _), (0, rhR _), (1, rhI _), (2, rhI _), (3, rhI _)]) dX12_settle_200 4 rfl rfl (by decide) rfl ?_
  refine rhF.goto (pc := 203) 128 dX12_settle_203 (by decide) ?_
  refine rhF.sub [1, 2, 3, 4, 0] rfl ?_
  exact hk128 _ _ _ _ _ _
set_option maxHeartbeats 4000000 in
set_option maxRecDepth 100000 in
theorem b_X12_settle_128 {E : rhE} {Γ : rhG} {k206 : rhM → Nat → Int32 → Int32 → Int32 → Option (rhM)} (hk206 : ∀ (M : rhM) (v0 : Nat) (v1 : Int32) (v2 : Int32) (v3 : Int32), rhF E 9 6 yX12_settle cX12_settle none Γ (rhe1U Γ) (k206 M v0 v1 v2 v3) 206 [(0, rhR v0), (1, rhI v1), (2, rhI v2), (3, rhI v3)] [] Γ M) : ∀ (n : Nat) (M : rhM) (v0 : Nat) (v1 : Int32) (v2 : Int32) (v3 : Int32) (v4 : Int32), rhF E 9 6 yX12_settle cX12_settle none Γ (rhe1U Γ) (f_X12_settle_128 k206 Γ n M v0 v1 v2 v3 v4) 128 [(0, rhR v0), (1, rhI v1), (2, rhI v2), (3, rhI v3), (4, rhI v4)] [] Γ M := by
  intro n
  induction n with
  | zero => intro M v0 v1 v2 v3 v4; rw [f_X12_settle_128]; exact rhF.nope
  | succ n ih =>
    intro M v0 v1 v2 v3 v4
    rw [f_X12_settle_128]
    refine rhF.iload (pc := 128) dX12_settle_128 4 rfl ?_
    refine rhF.aload_n (pc := 130) dX12_settle_130 0 rfl ?_
    refine rhF.ck (fun h31 => ?_)
    refine rhF.callV (pc := 131) (ci := 12) (embc := rhe0I _ _) [] dX12_settle_131 ml_X12_412 mv_X12_railMany ⟨_, rfl, rfl⟩ h31 (c_X12_railMany _ _ _ _) (by decide) (by decide) rfl (Nat.le_of_ble_eq_true rfl) (fun r32 _ => ?_)
    refine rhF.icmp_ge (pc := 134) 206 dX12_settle_134 (by decide) (fun h33 => ?_) (fun h33 => ?_)
    · refine rhF.aload_n (pc := 137) dX12_settle_137 0 rfl ?_
      refine rhF.callV (pc := 138) (ci := 12) (embc := rhe1U _) [] dX12_settle_138 ml_X12_512 mv_X12_layAt ⟨_, rfl, rfl⟩ h31 (c_X12_layAt _ _ _ _) (by decide) (by decide) rfl (Nat.le_of_ble_eq_true rfl) (fun r34 _ => ?_)
      refine rhF.aload_n (pc := 141) dX12_settle_141 0 rfl ?_
      refine rhF.iload_n (pc := 142) dX12_settle_142 2 rfl ?_
      refine rhF.iload_n (pc := 143) dX12_settle_143 3 rfl ?_
      refine rhF.iload (pc := 144) dX12_settle_144 4 rfl ?_
      refine rhF.callV (pc := 146) (ci := 12) (embc := rhe1I _) [rhI _, rhI _, rhI _] dX12_settle_146 ml_X12_471 mv_X12_isLawful ⟨_, rfl, rfl⟩ h31 (c_X12_isLawful _ _ _ _ _ _ _) (by decide) (by decide) rfl (Nat.le_of_ble_eq_true rfl) (fun r35 _ => ?_)
      refine rhF.if_ne (pc := 149) 155 dX12_settle_149 (by decide) (fun h36 => ?_) (fun h36 => ?_)
      · refine rhF.goto (pc := 152) 200 dX12_settle_152 (by decide) ?_
        exact (b_X12_settle_200 ih) _ _ _ _ _ _
      · refine rhF.aload_n (pc := 155) dX12_settle_155 0 rfl ?_
        refine rhF.aload_n (pc := 156) dX12_settle_156 0 rfl ?_
        refine rhF.get (pc := 157) (rhR _) dX12_settle_157 fl_X12_48 h31 rfl ?_
        refine rhF.iload_n (pc := 160) dX12_settle_160 2 rfl ?_
        refine rhF.iload_n (pc := 161) dX12_settle_161 3 rfl ?_
        refine rhF.callV (pc := 162) (ci := 12) (embc := rhe0I _ _) [rhR _, rhI _, rhI _] dX12_settle_162 ml_X12_431 mv_X12_sumOf ⟨_, rfl, rfl⟩ h31 (c_X12_sumOf _ _ _ _ _ _ _) (by decide) (by decide) rfl (Nat.le_of_ble_eq_true rfl) (fun r38 _ => ?_)
        refine rhF.istore (pc := 165) (L' := [(5, rhI _), (0, rhR _), (1, rhI _), (2, rhI _), (3, rhI _), (4, rhI _)]) dX12_settle_165 (by decide) rfl ?_
        refine rhF.aload_n (pc := 167) dX12_settle_167 1 rfl ?_
        refine rhF.iload_n (pc := 168) dX12_settle_168 3 rfl ?_
        refine rhF.iload_n (pc := 169) dX12_settle_169 4 rfl ?_
        refine rhF.iload (pc := 170) dX12_settle_170 5 rfl ?_
        refine rhF.callV (pc := 172) (ci := 12) (embc := rhe1U _) [rhI _, rhI _, rhI _] dX12_settle_172 ml_X12_474 mv_X12_moves ⟨_, rfl, rfl⟩ h31 (c_X12_moves _ _ _ _ _ _ _) (by decide) (by decide) rfl (Nat.le_of_ble_eq_true rfl) (fun r39 _ => ?_)
        refine rhF.aload_n (pc := 175) dX12_settle_175 1 rfl ?_
        refine rhF.aload_n (pc := 176) dX12_settle_176 1 rfl ?_
        refine rhF.callV (pc := 177) (ci := 12) (embc := rhe0I _ _) [] dX12_settle_177 ml_X12_490 mv_X12_stateOf ⟨_, rfl, rfl⟩ h31 (c_X12_stateOf _ _ _ _) (by decide) (by decide) rfl (Nat.le_of_ble_eq_true rfl) (fun r40 _ => ?_)
        refine rhF.aload_n (pc := 180) dX12_settle_180 1 rfl ?_
        refine rhF.get (pc := 181) (rhR _) dX12_settle_181 fl_X12_132 h31 rfl ?_
        refine rhF.iload_n (pc := 184) dX12_settle_184 2 rfl ?_
        refine rhF.ck (fun h41 => ?_)
        refine rhF.ck (fun h42 => ?_)
        refine rhF.iald (pc := 185) dX12_settle_185 h41 h42 ?_
        refine rhF.iload (pc := 186) dX12_settle_186 0 rfl ?_
        refine rhF.iadd (pc := 188) dX12_settle_188 ?_
        refine rhF.aload_n (pc := 189) dX12_settle_189 1 rfl ?_
        refine rhF.get (pc := 190) (rhR _) dX12_settle_190 fl_X12_129 h31 rfl ?_
        refine rhF.iload_n (pc := 193) dX12_settle_193 2 rfl ?_
        refine rhF.ck (fun h43 => ?_)
        refine rhF.ck (fun h44 => ?_)
        refine rhF.iald (pc := 194) dX12_settle_194 h43 h44 ?_
        refine rhF.iconst (pc := 195) (v := 1) dX12_settle_195 (by decide) ?_
        refine rhF.iadd (pc := 196) dX12_settle_196 ?_
        refine rhF.callV (pc := 197) (ci := 12) (embc := rhe1U _) [rhI _, rhI _, rhI _] dX12_settle_197 ml_X12_540 mv_X12_reaches ⟨_, rfl, rfl⟩ h31 (c_X12_reaches _ _ _ _ _ _ _) (by decide) (by decide) rfl (Nat.le_of_ble_eq_true rfl) (fun r45 _ => ?_)
        refine rhF.sub [1, 2, 3, 4, 5] rfl ?_
        exact (b_X12_settle_200 ih) _ _ _ _ _ _
    · refine rhF.sub [0, 1, 2, 3] rfl ?_
      exact hk206 _ _ _ _ _
set_option maxHeartbeats 4000000 in
set_option maxRecDepth 100000 in
theorem b_X12_settle_206 {E : rhE} {Γ : rhG} {k98 : rhM → Nat → Int32 → Int32 → Int32 → Option (rhM)} (hk98 : ∀ (M : rhM) (v0 : Nat) (v1 : Int32) (v2 : Int32) (v3 : Int32), rhF E 9 6 yX12_settle cX12_settle none Γ (rhe1U Γ) (k98 M v0 v1 v2 v3) 98 [(0, rhR v0), (1, rhI v1), (2, rhI v2), (3, rhI v3)] [] Γ M) : ∀ (M : rhM) (v0 : Nat) (v1 : Int32) (v2 : Int32) (v3 : Int32), rhF E 9 6 yX12_settle cX12_settle none Γ (rhe1U Γ) (f_X12_settle_206 k98 Γ M v0 v1 v2 v3) 206 [(0, rhR v0), (1, rhI v1), (2, rhI v2), (3, rhI v3)] [] Γ M := by
  intro M v0 v1 v2 v3
  rw [f_X12_settle_206]
  refine rhF.iinc (pc := 206) (L' := [(3, rhI _), (0, rhR _), (1, rhI _), (2, rhI _)]) dX12_settle_206 3 rfl rfl (by decide) rfl ?_
  refine rhF.goto (pc := 209) 98 dX12_settle_209 (by decide) ?_
  refine rhF.sub [1, 2, 3, 0] rfl ?_
  exact hk98 _ _ _ _ _
set_option maxHeartbeats 4000000 in
set_option maxRecDepth 100000 in
theorem b_X12_settle_121 {E : rhE} {Γ : rhG} {k98 : rhM → Nat → Int32 → Int32 → Int32 → Option (rhM)} {k212 : rhM → Nat → Int32 → Int32 → Option (rhM)} (hk98 : ∀ (M : rhM) (v0 : Nat) (v1 : Int32) (v2 : Int32) (v3 : Int32), rhF E 9 6 yX12_settle cX12_settle none Γ (rhe1U Γ) (k98 M v0 v1 v2 v3) 98 [(0, rhR v0), (1, rhI v1), (2, rhI v2), (3, rhI v3)] [] Γ M) (hk212 : ∀ (M : rhM) (v0 : Nat) (v1 : Int32) (v2 : Int32), rhF E 9 6 yX12_settle cX12_settle none Γ (rhe1U Γ) (k212 M v0 v1 v2) 212 [(0, rhR v0), (1, rhI v1), (2, rhI v2)] [] Γ M) : ∀ (M : rhM) (v0 : Nat) (v1 : Int32) (v2 : Int32) (v3 : Int32) (s0 : Int32) (s1 : Int32) (s2 : Int32), rhF E 9 6 yX12_settle cX12_settle none Γ (rhe1U Γ) (f_X12_settle_121 k98 k212 Γ M v0 v1 v2 v3 s0 s1 s2) 121 [(0, rhR v0), (1, rhI v1), (2, rhI v2), (3, rhI v3)] [rhI s2, rhI s1, rhI s0] Γ M := by
  intro M v0 v1 v2 v3 s0 s1 s2
  rw [f_X12_settle_121]
  refine rhF.isub (pc := 121) dX12_settle_121 ?_
  refine rhF.icmp_gt (pc := 122) 212 dX12_settle_122 (by decide) (fun h30 => ?_) (fun h30 => ?_)
  · refine rhF.sub [0, 1, 2] rfl ?_
    exact hk212 _ _ _ _
  · refine rhF.iconst (pc := 125) (v := 0) dX12_settle_125 (by decide) ?_
    refine rhF.istore (pc := 126) (L' := [(4, rhI _), (0, rhR _), (1, rhI _), (2, rhI _), (3, rhI _)]) dX12_settle_126 (by decide) rfl ?_
    refine rhF.sub [1, 2, 3, 4, 0] rfl ?_
    exact (b_X12_settle_128 (b_X12_settle_206 hk98) rhFU) _ _ _ _ _ _
set_option maxHeartbeats 4000000 in
set_option maxRecDepth 100000 in
theorem b_X12_settle_98 {E : rhE} {Γ : rhG} {k212 : rhM → Nat → Int32 → Int32 → Option (rhM)} (hk212 : ∀ (M : rhM) (v0 : Nat) (v1 : Int32) (v2 : Int32), rhF E 9 6 yX12_settle cX12_settle none Γ (rhe1U Γ) (k212 M v0 v1 v2) 212 [(0, rhR v0), (1, rhI v1), (2, rhI v2)] [] Γ M) : ∀ (n : Nat) (M : rhM) (v0 : Nat) (v1 : Int32) (v2 : Int32) (v3 : Int32), rhF E 9 6 yX12_settle cX12_settle none Γ (rhe1U Γ) (f_X12_settle_98 k212 Γ n M v0 v1 v2 v3) 98 [(0, rhR v0), (1, rhI v1), (2, rhI v2), (3, rhI v3)] [] Γ M := by
  intro n
  induction n with
  | zero => intro M v0 v1 v2 v3; rw [f_X12_settle_98]; exact rhF.nope
  | succ n ih =>
    intro M v0 v1 v2 v3
    rw [f_X12_settle_98]
    refine rhF.iload_n (pc := 98) dX12_settle_98 3 rfl ?_
    refine rhF.aload_n (pc := 99) dX12_settle_99 0 rfl ?_
    refine rhF.ck (fun h26 => ?_)
    refine rhF.get (pc := 100) (rhR _) dX12_settle_100 fl_X12_145 h26 rfl ?_
    refine rhF.iload_n (pc := 103) dX12_settle_103 2 rfl ?_
    refine rhF.ck (fun h27 => ?_)
    refine rhF.ck (fun h28 => ?_)
    refine rhF.iald (pc := 104) dX12_settle_104 h27 h28 ?_
    refine rhF.iload_n (pc := 105) dX12_settle_105 2 rfl ?_
    refine rhF.if_ne (pc := 106) 113 dX12_settle_106 (by decide) (fun h29 => ?_) (fun h29 => ?_)
    · refine rhF.iconst (pc := 109) (v := 0) dX12_settle_109 (by decide) ?_
      refine rhF.goto (pc := 110) 121 dX12_settle_110 (by decide) ?_
      exact (b_X12_settle_121 ih hk212) _ _ _ _ _ _ _ _
    · refine rhF.aload_n (pc := 113) dX12_settle_113 0 rfl ?_
      refine rhF.get (pc := 114) (rhR _) dX12_settle_114 fl_X12_145 h26 rfl ?_
      refine rhF.iload_n (pc := 117) dX12_settle_117 2 rfl ?_
      refine rhF.iconst (pc := 118) (v := 1) dX12_settle_118 (by decide) ?_
      refine rhF.isub (pc := 119) dX12_settle_119 ?_
      refine rhF.ck (fun h47 => ?_)
      refine rhF.iald (pc := 120) dX12_settle_120 h27 h47 ?_
      exact (b_X12_settle_121 ih hk212) _ _ _ _ _ _ _ _
set_option maxHeartbeats 4000000 in
set_option maxRecDepth 100000 in
theorem b_X12_settle_212 {E : rhE} {Γ : rhG} {k88 : rhM → Nat → Int32 → Int32 → Option (rhM)} (hk88 : ∀ (M : rhM) (v0 : Nat) (v1 : Int32) (v2 : Int32), rhF E 9 6 yX12_settle cX12_settle none Γ (rhe1U Γ) (k88 M v0 v1 v2) 88 [(0, rhR v0), (1, rhI v1), (2, rhI v2)] [] Γ M) : ∀ (M : rhM) (v0 : Nat) (v1 : Int32) (v2 : Int32), rhF E 9 6 yX12_settle cX12_settle none Γ (rhe1U Γ) (f_X12_settle_212 k88 Γ M v0 v1 v2) 212 [(0, rhR v0), (1, rhI v1), (2, rhI v2)] [] Γ M := by
  intro M v0 v1 v2
  rw [f_X12_settle_212]
  refine rhF.iinc (pc := 212) (L' := [(2, rhI _), (0, rhR _), (1, rhI _)]) dX12_settle_212 2 rfl rfl (by decide) rfl ?_
  refine rhF.goto (pc := 215) 88 dX12_settle_215 (by decide) ?_
  refine rhF.sub [1, 2, 0] rfl ?_
  exact hk88 _ _ _ _
set_option maxHeartbeats 4000000 in
set_option maxRecDepth 100000 in
theorem b_X12_settle_88 {E : rhE} {Γ : rhG} {k218 : rhM → Nat → Option (rhM)} (hk218 : ∀ (M : rhM) (v0 : Nat), rhF E 9 6 yX12_settle cX12_settle none Γ (rhe1U Γ) (k218 M v0) 218 [(0, rhR v0)] [] Γ M) : ∀ (n : Nat) (M : rhM) (v0 : Nat) (v1 : Int32) (v2 : Int32), rhF E 9 6 yX12_settle cX12_settle none Γ (rhe1U Γ) (f_X12_settle_88 k218 Γ n M v0 v1 v2) 88 [(0, rhR v0), (1, rhI v1), (2, rhI v2)] [] Γ M := by
  intro n
  induction n with
  | zero => intro M v0 v1 v2; rw [f_X12_settle_88]; exact rhF.nope
  | succ n ih =>
    intro M v0 v1 v2
    rw [f_X12_settle_88]
    refine rhF.iload_n (pc := 88) dX12_settle_88 2 rfl ?_
    refine rhF.aload_n (pc := 89) dX12_settle_89 0 rfl ?_
    refine rhF.ck (fun h23 => ?_)
    refine rhF.callV (pc := 90) (ci := 12) (embc := rhe0I _ _) [] dX12_settle_90 ml_X12_412 mv_X12_railMany ⟨_, rfl, rfl⟩ h23 (c_X12_railMany _ _ _ _) (by decide) (by decide) rfl (Nat.le_of_ble_eq_true rfl) (fun r24 _ => ?_)
    refine rhF.icmp_ge (pc := 93) 218 dX12_settle_93 (by decide) (fun h25 => ?_) (fun h25 => ?_)
    · refine rhF.iconst (pc := 96) (v := 1) dX12_settle_96 (by decide) ?_
      refine rhF.istore_n (pc := 97) (L' := [(3, rhI _), (0, rhR _), (1, rhI _), (2, rhI _)]) dX12_settle_97 (by decide) rfl ?_
      refine rhF.sub [1, 2, 3, 0] rfl ?_
      exact (b_X12_settle_98 (b_X12_settle_212 ih) rhFU) _ _ _ _ _
    · refine rhF.sub [0] rfl ?_
      exact hk218 _ _
set_option maxHeartbeats 4000000 in
set_option maxRecDepth 100000 in
theorem b_X12_settle_218 {E : rhE} {Γ : rhG} {k45 : rhM → Nat → Option (rhM)} (hk45 : ∀ (M : rhM) (v0 : Nat), rhF E 9 6 yX12_settle cX12_settle none Γ (rhe1U Γ) (k45 M v0) 45 [(0, rhR v0)] [] Γ M) : ∀ (M : rhM) (v0 : Nat), rhF E 9 6 yX12_settle cX12_settle none Γ (rhe1U Γ) (f_X12_settle_218 k45 Γ M v0) 218 [(0, rhR v0)] [] Γ M := by
  intro M v0
  rw [f_X12_settle_218]
  refine rhF.goto (pc := 218) 45 dX12_settle_218 (by decide) ?_
  exact hk45 _ _
set_option maxHeartbeats 4000000 in
set_option maxRecDepth 100000 in
theorem b_X12_settle_45 {E : rhE} {Γ : rhG} : ∀ (n : Nat) (M : rhM) (v0 : Nat), rhF E 9 6 yX12_settle cX12_settle none Γ (rhe1U Γ) (f_X12_settle_45 Γ n M v0) 45 [(0, rhR v0)] [] Γ M := by
  intro n
  induction n with
  | zero => intro M v0; rw [f_X12_settle_45]; exact rhF.nope
  | succ n ih =>
    intro M v0
    rw [f_X12_settle_45]
    refine rhF.aload_n (pc := 45) dX12_settle_45 0 rfl ?_
    refine rhF.ck (fun h13 => ?_)
    refine rhF.get (pc := 46) (rhI _) dX12_settle_46 fl_X12_531 h13 rfl ?_
    refine rhF.if_le (pc := 49) 221 dX12_settle_49 (by decide) (fun h14 => ?_) (fun h14 => ?_)
    · refine rhF.aload_n (pc := 52) dX12_settle_52 0 rfl ?_
      refine rhF.callV (pc := 53) (ci := 12) (embc := rhe1I _) [] dX12_settle_53 ml_X12_543 mv_X12_takeFirst ⟨_, rfl, rfl⟩ h13 (c_X12_takeFirst _ _ _ _) (by decide) (by decide) rfl (Nat.le_of_ble_eq_true rfl) (fun r15 _ => ?_)
      refine rhF.istore_n (pc := 56) (L' := [(1, rhI _), (0, rhR _)]) dX12_settle_56 (by decide) rfl ?_
      refine rhF.aload_n (pc := 57) dX12_settle_57 1 rfl ?_
      refine rhF.get (pc := 58) (rhR _) dX12_settle_58 fl_X12_157 h13 rfl ?_
      refine rhF.aload_n (pc := 61) dX12_settle_61 1 rfl ?_
      refine rhF.get (pc := 62) (rhI _) dX12_settle_62 fl_X12_537 h13 rfl ?_
      refine rhF.iload_n (pc := 65) dX12_settle_65 0 rfl ?_
      refine rhF.ck (fun h17 => ?_)
      refine rhF.ck (fun h18 => ?_)
      refine rhF.iast (pc := 66) dX12_settle_66 h17 h18 ?_
      refine rhF.aload_n (pc := 67) dX12_settle_67 1 rfl ?_
      refine rhF.dupr (pc := 68) dX12_settle_68 ?_
      refine rhF.get (pc := 69) (rhI _) dX12_settle_69 fl_X12_537 h13 rfl ?_
      refine rhF.iconst (pc := 72) (v := 1) dX12_settle_72 (by decide) ?_
      refine rhF.iadd (pc := 73) dX12_settle_73 ?_
      refine rhF.puti (pc := 74) dX12_settle_74 fl_X12_537 h13 (fun q hq => by cases hq; exact Or.inl rfl) ⟨rfl, rfl⟩ (fun _ => rfl) ?_
      refine rhF.aload_n (pc := 77) dX12_settle_77 1 rfl ?_
      refine rhF.iload_n (pc := 78) dX12_settle_78 0 rfl ?_
      refine rhF.callV (pc := 79) (ci := 12) (embc := rhe1U _) [rhI _] dX12_settle_79 ml_X12_499 mv_X12_layState ⟨_, rfl, rfl⟩ h13 (c_X12_layState _ _ _ _ _) (by decide) (by decide) rfl (Nat.le_of_ble_eq_true rfl) (fun r21 _ => ?_)
      refine rhF.aload_n (pc := 82) dX12_settle_82 1 rfl ?_
      refine rhF.callV (pc := 83) (ci := 12) (embc := rhe1U _) [] dX12_settle_83 ml_X12_509 mv_X12_keepAt ⟨_, rfl, rfl⟩ h13 (c_X12_keepAt _ _ _ _) (by decide) (by decide) rfl (Nat.le_of_ble_eq_true rfl) (fun r22 _ => ?_)
      refine rhF.iconst (pc := 86) (v := 0) dX12_settle_86 (by decide) ?_
      refine rhF.istore_n (pc := 87) (L' := [(2, rhI _), (1, rhI _), (0, rhR _)]) dX12_settle_87 (by decide) rfl ?_
      refine rhF.sub [2, 1, 0] rfl ?_
      exact (b_X12_settle_88 (b_X12_settle_218 ih) rhFU) _ _ _ _
    · exact rhF.vret (pc := 221) dX12_settle_221 rfl rfl
set_option maxHeartbeats 4000000 in
set_option maxRecDepth 100000 in
theorem b_X12_settle_21 {E : rhE} {Γ : rhG} : ∀ (M : rhM) (v0 : Nat), rhF E 9 6 yX12_settle cX12_settle none Γ (rhe1U Γ) (f_X12_settle_21 Γ M v0) 21 [(0, rhR v0)] [] Γ M := by
  intro M v0
  rw [f_X12_settle_21]
  refine rhF.aload_n (pc := 21) dX12_settle_21 0 rfl ?_
  refine rhF.iconst (pc := 22) (v := 0) dX12_settle_22 (by decide) ?_
  refine rhF.ck (fun h7 => ?_)
  refine rhF.puti (pc := 23) dX12_settle_23 fl_X12_531 h7 (fun q hq => by cases hq; exact Or.inl rfl) ⟨rfl, rfl⟩ (fun _ => rfl) ?_
  refine rhF.aload_n (pc := 26) dX12_settle_26 0 rfl ?_
  refine rhF.iconst (pc := 27) (v := 0) dX12_settle_27 (by decide) ?_
  refine rhF.puti (pc := 28) dX12_settle_28 fl_X12_537 h7 (fun q hq => by cases hq; exact Or.inl rfl) ⟨rfl, rfl⟩ (fun _ => rfl) ?_
  refine rhF.aload_n (pc := 31) dX12_settle_31 0 rfl ?_
  refine rhF.callV (pc := 32) (ci := 12) (embc := rhe1U _) [] dX12_settle_32 ml_X12_467 mv_X12_layNow ⟨_, rfl, rfl⟩ h7 (c_X12_layNow _ _ _ _) (by decide) (by decide) rfl (Nat.le_of_ble_eq_true rfl) (fun r10 _ => ?_)
  refine rhF.aload_n (pc := 35) dX12_settle_35 0 rfl ?_
  refine rhF.aload_n (pc := 36) dX12_settle_36 0 rfl ?_
  refine rhF.callV (pc := 37) (ci := 12) (embc := rhe0I _ _) [] dX12_settle_37 ml_X12_490 mv_X12_stateOf ⟨_, rfl, rfl⟩ h7 (c_X12_stateOf _ _ _ _) (by decide) (by decide) rfl (Nat.le_of_ble_eq_true rfl) (fun r11 _ => ?_)
  refine rhF.iconst (pc := 40) (v := 0) dX12_settle_40 (by decide) ?_
  refine rhF.iconst (pc := 41) (v := 0) dX12_settle_41 (by decide) ?_
  refine rhF.callV (pc := 42) (ci := 12) (embc := rhe1U _) [rhI _, rhI _, rhI _] dX12_settle_42 ml_X12_540 mv_X12_reaches ⟨_, rfl, rfl⟩ h7 (c_X12_reaches _ _ _ _ _ _ _) (by decide) (by decide) rfl (Nat.le_of_ble_eq_true rfl) (fun r12 _ => ?_)
  exact (b_X12_settle_45 rhFU) _ _
set_option maxHeartbeats 4000000 in
set_option maxRecDepth 100000 in
theorem b_X12_settle {E : rhE} {Γ : rhG} : ∀ (M : rhM) (v0 : Nat), rhF E 9 6 yX12_settle cX12_settle none Γ (rhe1U Γ) (f_X12_settle Γ M v0) 0 [(0, rhR v0)] [] Γ M := by
  intro M v0
  rw [f_X12_settle]
  refine rhF.iconst (pc := 0) (v := 0) dX12_settle_0 (by decide) ?_
  refine rhF.istore_n (pc := 1) (L' := [(1, rhI _), (0, rhR _)]) dX12_settle_1 (by decide) rfl ?_
  refine rhF.sub [1, 0] rfl ?_
  exact (b_X12_settle_2 (b_X12_settle_21) rhFU) _ _ _
theorem c_X12_settle (E : rhE) (Γ : rhG) (M : rhM) (v0 : Nat) : ∀ a, f_X12_settle Γ M v0 = some a → rhC E 9 yX12_settle cX12_settle 6 none [rhR v0] Γ M ((rhe1U Γ) a) := rhF.met (by decide +kernel) (Nat.le_of_ble_eq_true rfl) (b_X12_settle M v0)
def f_X12_least_64 (k28 : rhM → Nat → Int32 → Int32 → Option (Int32 × rhM)) (Γ : rhG) (M : rhM) (v0 : Nat) (v1 : Int32) (v2 : Int32) : Option (Int32 × rhM) :=
  let x15 : Int32 := v2 + 1
  k28 M v0 v1 x15
def f_X12_least_28 (k70 : rhM → Nat → Int32 → Option (Int32 × rhM)) (Γ : rhG) : Nat → rhM → Nat → Int32 → Int32 → Option (Int32 × rhM)
  | 0, _, _, _, _ => none
  | n + 1, M, v0, v1, v2 =>
    rhck (Γ.2.2.1 v0 = 13) <|
    if v2 < (M.1 v0 71) then
      (if v1 < 0 then
        (rhck (Γ.2.2.1 (M.2.2 v0 69) = 15) <|
        rhck (0 ≤ (v2).toInt ∧ (v2).toInt < (Γ.2.2.2 (M.2.2 v0 69) : Nat)) <|
        (f_X12_layState Γ M v0 (M.1 (M.2.2 v0 69) v2.toNatClampNeg)).bind fun r12 =>
        (f_X12_isEnd Γ r12 v0).bind fun r13 =>
        if r13 = 0 then
          (f_X12_least_64 (f_X12_least_28 k70 Γ n) Γ r12 v0 v1 v2)
        else
          rhck (Γ.2.2.1 (r12.2.2 v0 69) = 15) <|
          rhck (0 ≤ (v2).toInt ∧ (v2).toInt < (Γ.2.2.2 (r12.2.2 v0 69) : Nat)) <|
          let x18 := r12.1 (r12.2.2 v0 69) v2.toNatClampNeg
          f_X12_least_64 (f_X12_least_28 k70 Γ n) Γ r12 v0 x18 v2)
      else
        k70 M v0 v1)
    else
      k70 M v0 v1
def f_X12_least_78 (k104 : rhM → Nat → Int32 → Option (Int32 × rhM)) (Γ : rhG) : Nat → rhM → Nat → Int32 → Int32 → Option (Int32 × rhM)
  | 0, _, _, _, _ => none
  | n + 1, M, v0, v1, v2 =>
    rhck (Γ.2.2.1 v0 = 13) <|
    if v2 < (M.1 v0 71) then
      (rhck (Γ.2.2.1 (M.2.2 v0 69) = 15) <|
      rhck (0 ≤ (v2).toInt ∧ (v2).toInt < (Γ.2.2.2 (M.2.2 v0 69) : Nat)) <|
      rhck (Γ.2.2.1 (M.2.2 v0 59) = 17) <|
      rhck (0 ≤ (M.1 (M.2.2 v0 69) v2.toNatClampNeg).toInt ∧ (M.1 (M.2.2 v0 69) v2.toNatClampNeg).toInt < (Γ.2.2.2 (M.2.2 v0 59) : Nat)) <|
      let M26 := rhsi M (M.2.2 v0 59) (M.1 (M.2.2 v0 69) v2.toNatClampNeg : Int32).toNatClampNeg (vp_nar .boolean 0)
      let x27 : Int32 := v2 + 1
      f_X12_least_78 k104 Γ n M26 v0 v1 x27)
    else
      k104 M v0 v1
def f_X12_least_160 (k168 : rhM → Nat → Int32 → Int32 → Nat → Int32 → Option (Int32 × rhM)) (k173 : rhM → Nat → Int32 → Int32 → Nat → Int32 → Int32 → Option (Int32 × rhM)) (Γ : rhG) (M : rhM) (v0 : Nat) (v1 : Int32) (v2 : Int32) (v3 : Int32) (s0 : Nat) (s1 : Int32) : Option (Int32 × rhM) :=
  rhck (Γ.2.2.1 v0 = 13) <|
  (f_X12_nextTight Γ M v0 v3).bind fun r43 =>
  if r43.1 < 0 then
    (k173 r43.2 v0 v1 v2 s0 s1 0)
  else
    k168 r43.2 v0 v1 v2 s0 s1
def f_X12_least_168 (k173 : rhM → Nat → Int32 → Int32 → Nat → Int32 → Int32 → Option (Int32 × rhM)) (Γ : rhG) (M : rhM) (v0 : Nat) (v1 : Int32) (v2 : Int32) (s0 : Nat) (s1 : Int32) : Option (Int32 × rhM) :=
  k173 M v0 v1 v2 s0 s1 1
def f_X12_least_173 (k174 : rhM → Nat → Int32 → Int32 → Option (Int32 × rhM)) (Γ : rhG) (M : rhM) (v0 : Nat) (v1 : Int32) (v2 : Int32) (s0 : Nat) (s1 : Int32) (s2 : Int32) : Option (Int32 × rhM) :=
  rhck (Γ.2.2.1 s0 = 17) <|
  rhck (0 ≤ (s1).toInt ∧ (s1).toInt < (Γ.2.2.2 s0 : Nat)) <|
  let M47 := rhsi M s0 (s1 : Int32).toNatClampNeg (vp_nar .boolean s2)
  k174 M47 v0 v1 v2
def f_X12_least_174 (k111 : rhM → Nat → Int32 → Int32 → Option (Int32 × rhM)) (Γ : rhG) (M : rhM) (v0 : Nat) (v1 : Int32) (v2 : Int32) : Option (Int32 × rhM) :=
  let x48 : Int32 := v2 + (-1)
  k111 M v0 v1 x48
def f_X12_least_111 (k180 : rhM → Nat → Int32 → Option (Int32 × rhM)) (Γ : rhG) : Nat → rhM → Nat → Int32 → Int32 → Option (Int32 × rhM)
  | 0, _, _, _, _ => none
  | n + 1, M, v0, v1, v2 =>
    if v2 < 0 then
      (k180 M v0 v1)
    else
      rhck (Γ.2.2.1 v0 = 13) <|
      rhck (Γ.2.2.1 (M.2.2 v0 69) = 15) <|
      rhck (0 ≤ (v2).toInt ∧ (v2).toInt < (Γ.2.2.2 (M.2.2 v0 69) : Nat)) <|
      let x34 := M.1 (M.2.2 v0 69) v2.toNatClampNeg
      (f_X12_isBefore Γ M v0 v1 x34).bind fun r35 =>
      if r35 = 0 then
        ((f_X12_layState Γ M v0 x34).bind fun r37 =>
        (f_X12_isBefore Γ r37 v0 x34 v1).bind fun r38 =>
        if r38 = 0 then
          ((f_X12_isEnd Γ r37 v0).bind fun r40 =>
          if r40 = 0 then
            (f_X12_least_160 (f_X12_least_168 (f_X12_least_173 (f_X12_least_174 (f_X12_least_111 k180 Γ n) Γ) Γ) Γ) (f_X12_least_173 (f_X12_least_174 (f_X12_least_111 k180 Γ n) Γ) Γ) Γ r37 v0 v1 v2 x34 (r37.2.2 v0 59) x34)
          else
            f_X12_least_168 (f_X12_least_173 (f_X12_least_174 (f_X12_least_111 k180 Γ n) Γ) Γ) Γ r37 v0 v1 v2 (r37.2.2 v0 59) x34)
        else
          f_X12_least_160 (f_X12_least_168 (f_X12_least_173 (f_X12_least_174 (f_X12_least_111 k180 Γ n) Γ) Γ) Γ) (f_X12_least_173 (f_X12_least_174 (f_X12_least_111 k180 Γ n) Γ) Γ) Γ r37 v0 v1 v2 x34 (r37.2.2 v0 59) x34)
      else
        f_X12_least_174 (f_X12_least_111 k180 Γ n) Γ M v0 v1 v2
def f_X12_least_180 (Γ : rhG) (M : rhM) (v0 : Nat) (v1 : Int32) : Option (Int32 × rhM) :=
  rhck (Γ.2.2.1 v0 = 13) <|
  (f_X12_layLightest Γ M v0).bind fun r50 =>
  rhck (Γ.2.2.1 (r50.2.2 v0 57) = 15) <|
  rhck (0 ≤ (v1).toInt ∧ (v1).toInt < (Γ.2.2.2 (r50.2.2 v0 57) : Nat)) <|
  some ((r50.1 (r50.2.2 v0 57) v1.toNatClampNeg, r50))
def f_X12_least_104 (Γ : rhG) (M : rhM) (v0 : Nat) (v1 : Int32) : Option (Int32 × rhM) :=
  rhck (Γ.2.2.1 v0 = 13) <|
  let x29 := (M.1 v0 71) - 1
  f_X12_least_111 (f_X12_least_180 Γ) Γ rhFU M v0 v1 x29
def f_X12_least_70 (Γ : rhG) (M : rhM) (v0 : Nat) (v1 : Int32) : Option (Int32 × rhM) :=
  if v1 < 0 then
    (some (((-1), M)))
  else
    f_X12_least_78 (f_X12_least_104 Γ) Γ rhFU M v0 v1 0
def f_X12_least (Γ : rhG) (M : rhM) (v0 : Nat) : Option (Int32 × rhM) :=
  rhck (Γ.2.2.1 v0 = 13) <|
  let M2 := rhsi M v0 66 0
  (f_X12_isMany Γ M2 v0).bind fun r3 =>
  if r3 = 0 then
    ((f_X12_settle Γ M2 v0).bind fun r5 =>
    let M6 := rhsi r5 v0 61 0
    f_X12_least_28 (f_X12_least_70 Γ) Γ rhFU M6 v0 ((-1)) 0)
  else
    some (((-2), M2))
set_option maxHeartbeats 4000000 in
set_option maxRecDepth 100000 in
theorem b_X12_least_64 {E : rhE} {Γ : rhG} {k28 : rhM → Nat → Int32 → Int32 → Option (Int32 × rhM)} (hk28 : ∀ (M : rhM) (v0 : Nat) (v1 : Int32) (v2 : Int32), rhF E 11 4 yX12_least cX12_least (some .int) Γ (rhe1I Γ) (k28 M v0 v1 v2) 28 [(0, rhR v0), (1, rhI v1), (2, rhI v2)] [] Γ M) : ∀ (M : rhM) (v0 : Nat) (v1 : Int32) (v2 : Int32), rhF E 11 4 yX12_least cX12_least (some .int) Γ (rhe1I Γ) (f_X12_least_64 k28 Γ M v0 v1 v2) 64 [(0, rhR v0), (1, rhI v1), (2, rhI v2)] [] Γ M := by
  intro M v0 v1 v2
  rw [f_X12_least_64]
  refine rhF.iinc (pc := 64) (L' := [(2, rhI _), (0, rhR _), (1, rhI _)]) dX12_least_64 2 rfl rfl (by decide) rfl ?_
  refine rhF.goto (pc := 67) 28 dX12_least_67 (by decide) ?_
  refine rhF.sub [1, 2, 0] rfl ?_
  exact hk28 _ _ _ _
set_option maxHeartbeats 4000000 in
set_option maxRecDepth 100000 in
theorem b_X12_least_28 {E : rhE} {Γ : rhG} {k70 : rhM → Nat → Int32 → Option (Int32 × rhM)} (hk70 : ∀ (M : rhM) (v0 : Nat) (v1 : Int32), rhF E 11 4 yX12_least cX12_least (some .int) Γ (rhe1I Γ) (k70 M v0 v1) 70 [(0, rhR v0), (1, rhI v1)] [] Γ M) : ∀ (n : Nat) (M : rhM) (v0 : Nat) (v1 : Int32) (v2 : Int32), rhF E 11 4 yX12_least cX12_least (some .int) Γ (rhe1I Γ) (f_X12_least_28 k70 Γ n M v0 v1 v2) 28 [(0, rhR v0), (1, rhI v1), (2, rhI v2)] [] Γ M := by
  intro n
  induction n with
  | zero => intro M v0 v1 v2; rw [f_X12_least_28]; exact rhF.nope
  | succ n ih =>
    intro M v0 v1 v2
    rw [f_X12_least_28]
    refine rhF.iload_n (pc := 28) dX12_least_28 2 rfl ?_
    refine rhF.aload_n (pc := 29) dX12_least_29 0 rfl ?_
    refine rhF.ck (fun h7 => ?_)
    refine rhF.get (pc := 30) (rhI _) dX12_least_30 fl_X12_537 h7 rfl ?_
    refine rhF.icmp_ge (pc := 33) 70 dX12_least_33 (by decide) (fun h8 => ?_) (fun h8 => ?_)
    · refine rhF.iload_n (pc := 36) dX12_least_36 1 rfl ?_
      refine rhF.if_ge (pc := 37) 70 dX12_least_37 (by decide) (fun h9 => ?_) (fun h9 => ?_)
      · refine rhF.aload_n (pc := 40) dX12_least_40 0 rfl ?_
        refine rhF.aload_n (pc := 41) dX12_least_41 0 rfl ?_
        refine rhF.get (pc := 42) (rhR _) dX12_least_42 fl_X12_157 h7 rfl ?_
        refine rhF.iload_n (pc := 45) dX12_least_45 2 rfl ?_
        refine rhF.ck (fun h10 => ?_)
        refine rhF.ck (fun h11 => ?_)
        refine rhF.iald (pc := 46) dX12_least_46 h10 h11 ?_
        refine rhF.callV (pc := 47) (ci := 12) (embc := rhe1U _) [rhI _] dX12_least_47 ml_X12_499 mv_X12_layState ⟨_, rfl, rfl⟩ h7 (c_X12_layState _ _ _ _ _) (by decide) (by decide) rfl (Nat.le_of_ble_eq_true rfl) (fun r12 _ => ?_)
        refine rhF.aload_n (pc := 50) dX12_least_50 0 rfl ?_
        refine rhF.callV (pc := 51) (ci := 12) (embc := rhe0I _ _) [] dX12_least_51 ml_X12_503 mv_X12_isEnd ⟨_, rfl, rfl⟩ h7 (c_X12_isEnd _ _ _ _) (by decide) (by decide) rfl (Nat.le_of_ble_eq_true rfl) (fun r13 _ => ?_)
        refine rhF.if_eq (pc := 54) 64 dX12_least_54 (by decide) (fun h14 => ?_) (fun h14 => ?_)
        · exact (b_X12_least_64 ih) _ _ _ _
        · refine rhF.aload_n (pc := 57) dX12_least_57 0 rfl ?_
          refine rhF.get (pc := 58) (rhR _) dX12_least_58 fl_X12_157 h7 rfl ?_
          refine rhF.iload_n (pc := 61) dX12_least_61 2 rfl ?_
          refine rhF.ck (fun h16 => ?_)
          refine rhF.ck (fun h17 => ?_)
          refine rhF.iald (pc := 62) dX12_least_62 h16 h17 ?_
          refine rhF.istore_n (pc := 63) (L' := [(1, rhI _), (0, rhR _), (2, rhI _)]) dX12_least_63 (by decide) rfl ?_
          refine rhF.sub [1, 0, 2] rfl ?_
          exact (b_X12_least_64 ih) _ _ _ _
      · refine rhF.sub [0, 1] rfl ?_
        exact hk70 _ _ _
    · refine rhF.sub [0, 1] rfl ?_
      exact hk70 _ _ _
set_option maxHeartbeats 4000000 in
set_option maxRecDepth 100000 in
theorem b_X12_least_78 {E : rhE} {Γ : rhG} {k104 : rhM → Nat → Int32 → Option (Int32 × rhM)} (hk104 : ∀ (M : rhM) (v0 : Nat) (v1 : Int32), rhF E 11 4 yX12_least cX12_least (some .int) Γ (rhe1I Γ) (k104 M v0 v1) 104 [(0, rhR v0), (1, rhI v1)] [] Γ M) : ∀ (n : Nat) (M : rhM) (v0 : Nat) (v1 : Int32) (v2 : Int32), rhF E 11 4 yX12_least cX12_least (some .int) Γ (rhe1I Γ) (f_X12_least_78 k104 Γ n M v0 v1 v2) 78 [(0, rhR v0), (1, rhI v1), (2, rhI v2)] [] Γ M := by
  intro n
  induction n with
  | zero => intro M v0 v1 v2; rw [f_X12_least_78]; exact rhF.nope
  | succ n ih =>
    intro M v0 v1 v2
    rw [f_X12_least_78]
    refine rhF.iload_n (pc := 78) dX12_least_78 2 rfl ?_
    refine rhF.aload_n (pc := 79) dX12_least_79 0 rfl ?_
    refine rhF.ck (fun h20 => ?_)
    refine rhF.get (pc := 80) (rhI _) dX12_least_80 fl_X12_537 h20 rfl ?_
    refine rhF.icmp_ge (pc := 83) 104 dX12_least_83 (by decide) (fun h21 => ?_) (fun h21 => ?_)
    · refine rhF.aload_n (pc := 86) dX12_least_86 0 rfl ?_
      refine rhF.get (pc := 87) (rhR _) dX12_least_87 fl_X12_139 h20 rfl ?_
      refine rhF.aload_n (pc := 90) dX12_least_90 0 rfl ?_
      refine rhF.get (pc := 91) (rhR _) dX12_least_91 fl_X12_157 h20 rfl ?_
      refine rhF.iload_n (pc := 94) dX12_least_94 2 rfl ?_
      refine rhF.ck (fun h22 => ?_)
      refine rhF.ck (fun h23 => ?_)
      refine rhF.iald (pc := 95) dX12_least_95 h22 h23 ?_
      refine rhF.iconst (pc := 96) (v := 0) dX12_least_96 (by decide) ?_
      refine rhF.ck (fun h24 => ?_)
      refine rhF.ck (fun h25 => ?_)
      refine rhF.zast (pc := 97) dX12_least_97 h24 h25 ?_
      refine rhF.iinc (pc := 98) (L' := [(2, rhI _), (0, rhR _), (1, rhI _)]) dX12_least_98 2 rfl rfl (by decide) rfl ?_
      refine rhF.goto (pc := 101) 78 dX12_least_101 (by decide) ?_
      refine rhF.sub [1, 2, 0] rfl ?_
      exact ih _ _ _ _
    · refine rhF.sub [0, 1] rfl ?_
      exact hk104 _ _ _
set_option maxHeartbeats 4000000 in
set_option maxRecDepth 100000 in
theorem b_X12_least_160 {E : rhE} {Γ : rhG} {k168 : rhM → Nat → Int32 → Int32 → Nat → Int32 → Option (Int32 × rhM)} {k173 : rhM → Nat → Int32 → Int32 → Nat → Int32 → Int32 → Option (Int32 × rhM)} (hk168 : ∀ (M : rhM) (v0 : Nat) (v1 : Int32) (v2 : Int32) (s0 : Nat) (s1 : Int32), rhF E 11 4 yX12_least cX12_least (some .int) Γ (rhe1I Γ) (k168 M v0 v1 v2 s0 s1) 168 [(0, rhR v0), (1, rhI v1), (2, rhI v2)] [rhI s1, rhR s0] Γ M) (hk173 : ∀ (M : rhM) (v0 : Nat) (v1 : Int32) (v2 : Int32) (s0 : Nat) (s1 : Int32) (s2 : Int32), rhF E 11 4 yX12_least cX12_least (some .int) Γ (rhe1I Γ) (k173 M v0 v1 v2 s0 s1 s2) 173 [(0, rhR v0), (1, rhI v1), (2, rhI v2)] [rhI s2, rhI s1, rhR s0] Γ M) : ∀ (M : rhM) (v0 : Nat) (v1 : Int32) (v2 : Int32) (v3 : Int32) (s0 : Nat) (s1 : Int32), rhF E 11 4 yX12_least cX12_least (some .int) Γ (rhe1I Γ) (f_X12_least_160 k168 k173 Γ M v0 v1 v2 v3 s0 s1) 160 [(0, rhR v0), (1, rhI v1), (2, rhI v2), (3, rhI v3)] [rhI s1, rhR s0] Γ M := by
  intro M v0 v1 v2 v3 s0 s1
  rw [f_X12_least_160]
  refine rhF.aload_n (pc := 160) dX12_least_160 0 rfl ?_
  refine rhF.iload_n (pc := 161) dX12_least_161 3 rfl ?_
  refine rhF.ck (fun h42 => ?_)
  refine rhF.callV (pc := 162) (ci := 12) (embc := rhe1I _) [rhI _] dX12_least_162 ml_X12_549 mv_X12_nextTight ⟨_, rfl, rfl⟩ h42 (c_X12_nextTight _ _ _ _ _) (by decide) (by decide) rfl (Nat.le_of_ble_eq_true rfl) (fun r43 _ => ?_)
  refine rhF.if_lt (pc := 165) 172 dX12_least_165 (by decide) (fun h44 => ?_) (fun h44 => ?_)
  · refine rhF.iconst (pc := 172) (v := 0) dX12_least_172 (by decide) ?_
    refine rhF.sub [0, 1, 2] rfl ?_
    exact hk173 _ _ _ _ _ _ _
  · refine rhF.sub [0, 1, 2] rfl ?_
    exact hk168 _ _ _ _ _ _
set_option maxHeartbeats 4000000 in
set_option maxRecDepth 100000 in
theorem b_X12_least_168 {E : rhE} {Γ : rhG} {k173 : rhM → Nat → Int32 → Int32 → Nat → Int32 → Int32 → Option (Int32 × rhM)} (hk173 : ∀ (M : rhM) (v0 : Nat) (v1 : Int32) (v2 : Int32) (s0 : Nat) (s1 : Int32) (s2 : Int32), rhF E 11 4 yX12_least cX12_least (some .int) Γ (rhe1I Γ) (k173 M v0 v1 v2 s0 s1 s2) 173 [(0, rhR v0), (1, rhI v1), (2, rhI v2)] [rhI s2, rhI s1, rhR s0] Γ M) : ∀ (M : rhM) (v0 : Nat) (v1 : Int32) (v2 : Int32) (s0 : Nat) (s1 : Int32), rhF E 11 4 yX12_least cX12_least (some .int) Γ (rhe1I Γ) (f_X12_least_168 k173 Γ M v0 v1 v2 s0 s1) 168 [(0, rhR v0), (1, rhI v1), (2, rhI v2)] [rhI s1, rhR s0] Γ M := by
  intro M v0 v1 v2 s0 s1
  rw [f_X12_least_168]
  refine rhF.iconst (pc := 168) (v := 1) dX12_least_168 (by decide) ?_
  refine rhF.goto (pc := 169) 173 dX12_least_169 (by decide) ?_
  exact hk173 _ _ _ _ _ _ _
set_option maxHeartbeats 4000000 in
set_option maxRecDepth 100000 in
theorem b_X12_least_173 {E : rhE} {Γ : rhG} {k174 : rhM → Nat → Int32 → Int32 → Option (Int32 × rhM)} (hk174 : ∀ (M : rhM) (v0 : Nat) (v1 : Int32) (v2 : Int32), rhF E 11 4 yX12_least cX12_least (some .int) Γ (rhe1I Γ) (k174 M v0 v1 v2) 174 [(0, rhR v0), (1, rhI v1), (2, rhI v2)] [] Γ M) : ∀ (M : rhM) (v0 : Nat) (v1 : Int32) (v2 : Int32) (s0 : Nat) (s1 : Int32) (s2 : Int32), rhF E 11 4 yX12_least cX12_least (some .int) Γ (rhe1I Γ) (f_X12_least_173 k174 Γ M v0 v1 v2 s0 s1 s2) 173 [(0, rhR v0), (1, rhI v1), (2, rhI v2)] [rhI s2, rhI s1, rhR s0] Γ M := by
  intro M v0 v1 v2 s0 s1 s2
  rw [f_X12_least_173]
  refine rhF.ck (fun h45 => ?_)
  refine rhF.ck (fun h46 => ?_)
  refine rhF.zast (pc := 173) dX12_least_173 h45 h46 ?_
  exact hk174 _ _ _ _
set_option maxHeartbeats 4000000 in
set_option maxRecDepth 100000 in
theorem b_X12_least_174 {E : rhE} {Γ : rhG} {k111 : rhM → Nat → Int32 → Int32 → Option (Int32 × rhM)} (hk111 : ∀ (M : rhM) (v0 : Nat) (v1 : Int32) (v2 : Int32), rhF E 11 4 yX12_least cX12_least (some .int) Γ (rhe1I Γ) (k111 M v0 v1 v2) 111 [(0, rhR v0), (1, rhI v1), (2, rhI v2)] [] Γ M) : ∀ (M : rhM) (v0 : Nat) (v1 : Int32) (v2 : Int32), rhF E 11 4 yX12_least cX12_least (some .int) Γ (rhe1I Γ) (f_X12_least_174 k111 Γ M v0 v1 v2) 174 [(0, rhR v0), (1, rhI v1), (2, rhI v2)] [] Γ M := by
  intro M v0 v1 v2
  rw [f_X12_least_174]
  refine rhF.iinc (pc := 174) (L' := [(2, rhI _), (0, rhR _), (1, rhI _)]) dX12_least_174 2 rfl rfl (by decide) rfl ?_
  refine rhF.goto (pc := 177) 111 dX12_least_177 (by decide) ?_
  refine rhF.sub [1, 2, 0] rfl ?_
  exact hk111 _ _ _ _
set_option maxHeartbeats 4000000 in
set_option maxRecDepth 100000 in
theorem b_X12_least_111 {E : rhE} {Γ : rhG} {k180 : rhM → Nat → Int32 → Option (Int32 × rhM)} (hk180 : ∀ (M : rhM) (v0 : Nat) (v1 : Int32), rhF E 11 4 yX12_least cX12_least (some .int) Γ (rhe1I Γ) (k180 M v0 v1) 180 [(0, rhR v0), (1, rhI v1)] [] Γ M) : ∀ (n : Nat) (M : rhM) (v0 : Nat) (v1 : Int32) (v2 : Int32), rhF E 11 4 yX12_least cX12_least (some .int) Γ (rhe1I Γ) (f_X12_least_111 k180 Γ n M v0 v1 v2) 111 [(0, rhR v0), (1, rhI v1), (2, rhI v2)] [] Γ M := by
  intro n
  induction n with
  | zero => intro M v0 v1 v2; rw [f_X12_least_111]; exact rhF.nope
  | succ n ih =>
    intro M v0 v1 v2
    rw [f_X12_least_111]
    refine rhF.iload_n (pc := 111) dX12_least_111 2 rfl ?_
    refine rhF.if_lt (pc := 112) 180 dX12_least_112 (by decide) (fun h30 => ?_) (fun h30 => ?_)
    · refine rhF.sub [0, 1] rfl ?_
      exact hk180 _ _ _
    · refine rhF.aload_n (pc := 115) dX12_least_115 0 rfl ?_
      refine rhF.ck (fun h31 => ?_)
      refine rhF.get (pc := 116) (rhR _) dX12_least_116 fl_X12_157 h31 rfl ?_
      refine rhF.iload_n (pc := 119) dX12_least_119 2 rfl ?_
      refine rhF.ck (fun h32 => ?_)
      refine rhF.ck (fun h33 => ?_)
      refine rhF.iald (pc := 120) dX12_least_120 h32 h33 ?_
      refine rhF.istore_n (pc := 121) (L' := [(3, rhI _), (0, rhR _), (1, rhI _), (2, rhI _)]) dX12_least_121 (by decide) rfl ?_
      refine rhF.aload_n (pc := 122) dX12_least_122 1 rfl ?_
      refine rhF.iload_n (pc := 123) dX12_least_123 2 rfl ?_
      refine rhF.iload_n (pc := 124) dX12_least_124 0 rfl ?_
      refine rhF.callV (pc := 125) (ci := 12) (embc := rhe0I _ _) [rhI _, rhI _] dX12_least_125 ml_X12_524 mv_X12_isBefore ⟨_, rfl, rfl⟩ h31 (c_X12_isBefore _ _ _ _ _ _) (by decide) (by decide) rfl (Nat.le_of_ble_eq_true rfl) (fun r35 _ => ?_)
      refine rhF.if_eq (pc := 128) 134 dX12_least_128 (by decide) (fun h36 => ?_) (fun h36 => ?_)
      · refine rhF.aload_n (pc := 134) dX12_least_134 1 rfl ?_
        refine rhF.iload_n (pc := 135) dX12_least_135 0 rfl ?_
        refine rhF.callV (pc := 136) (ci := 12) (embc := rhe1U _) [rhI _] dX12_least_136 ml_X12_499 mv_X12_layState ⟨_, rfl, rfl⟩ h31 (c_X12_layState _ _ _ _ _) (by decide) (by decide) rfl (Nat.le_of_ble_eq_true rfl) (fun r37 _ => ?_)
        refine rhF.aload_n (pc := 139) dX12_least_139 1 rfl ?_
        refine rhF.get (pc := 140) (rhR _) dX12_least_140 fl_X12_139 h31 rfl ?_
        refine rhF.iload_n (pc := 143) dX12_least_143 0 rfl ?_
        refine rhF.aload_n (pc := 144) dX12_least_144 1 rfl ?_
        refine rhF.iload_n (pc := 145) dX12_least_145 0 rfl ?_
        refine rhF.iload_n (pc := 146) dX12_least_146 2 rfl ?_
        refine rhF.callV (pc := 147) (ci := 12) (embc := rhe0I _ _) [rhI _, rhI _] dX12_least_147 ml_X12_524 mv_X12_isBefore ⟨_, rfl, rfl⟩ h31 (c_X12_isBefore _ _ _ _ _ _) (by decide) (by decide) rfl (Nat.le_of_ble_eq_true rfl) (fun r38 _ => ?_)
        refine rhF.if_ne (pc := 150) 160 dX12_least_150 (by decide) (fun h39 => ?_) (fun h39 => ?_)
        · refine rhF.aload_n (pc := 153) dX12_least_153 1 rfl ?_
          refine rhF.callV (pc := 154) (ci := 12) (embc := rhe0I _ _) [] dX12_least_154 ml_X12_503 mv_X12_isEnd ⟨_, rfl, rfl⟩ h31 (c_X12_isEnd _ _ _ _) (by decide) (by decide) rfl (Nat.le_of_ble_eq_true rfl) (fun r40 _ => ?_)
          refine rhF.if_ne (pc := 157) 168 dX12_least_157 (by decide) (fun h41 => ?_) (fun h41 => ?_)
          · refine rhF.sub [1, 2, 3, 0] rfl ?_
            exact (b_X12_least_160 (b_X12_least_168 (b_X12_least_173 (b_X12_least_174 ih))) (b_X12_least_173 (b_X12_least_174 ih))) _ _ _ _ _ _ _
          · refine rhF.sub [1, 2, 3] rfl ?_
            exact (b_X12_least_168 (b_X12_least_173 (b_X12_least_174 ih))) _ _ _ _ _ _
        · refine rhF.sub [1, 2, 3, 0] rfl ?_
          exact (b_X12_least_160 (b_X12_least_168 (b_X12_least_173 (b_X12_least_174 ih))) (b_X12_least_173 (b_X12_least_174 ih))) _ _ _ _ _ _ _
      · refine rhF.goto (pc := 131) 174 dX12_least_131 (by decide) ?_
        refine rhF.sub [1, 2, 3] rfl ?_
        exact (b_X12_least_174 ih) _ _ _ _
set_option maxHeartbeats 4000000 in
set_option maxRecDepth 100000 in
theorem b_X12_least_180 {E : rhE} {Γ : rhG} : ∀ (M : rhM) (v0 : Nat) (v1 : Int32), rhF E 11 4 yX12_least cX12_least (some .int) Γ (rhe1I Γ) (f_X12_least_180 Γ M v0 v1) 180 [(0, rhR v0), (1, rhI v1)] [] Γ M := by
  intro M v0 v1
  rw [f_X12_least_180]
  refine rhF.aload_n (pc := 180) dX12_least_180 0 rfl ?_
  refine rhF.ck (fun h49 => ?_)
  refine rhF.callV (pc := 181) (ci := 12) (embc := rhe1U _) [] dX12_least_181 ml_X12_552 mv_X12_layLightest ⟨_, rfl, rfl⟩ h49 (c_X12_layLightest _ _ _ _) (by decide) (by decide) rfl (Nat.le_of_ble_eq_true rfl) (fun r50 _ => ?_)
  refine rhF.aload_n (pc := 184) dX12_least_184 0 rfl ?_
  refine rhF.get (pc := 185) (rhR _) dX12_least_185 fl_X12_132 h49 rfl ?_
  refine rhF.iload_n (pc := 188) dX12_least_188 1 rfl ?_
  refine rhF.ck (fun h51 => ?_)
  refine rhF.ck (fun h52 => ?_)
  refine rhF.iald (pc := 189) dX12_least_189 h51 h52 ?_
  exact rhF.zret (pc := 190) dX12_least_190 rfl rfl rfl
set_option maxHeartbeats 4000000 in
set_option maxRecDepth 100000 in
theorem b_X12_least_104 {E : rhE} {Γ : rhG} : ∀ (M : rhM) (v0 : Nat) (v1 : Int32), rhF E 11 4 yX12_least cX12_least (some .int) Γ (rhe1I Γ) (f_X12_least_104 Γ M v0 v1) 104 [(0, rhR v0), (1, rhI v1)] [] Γ M := by
  intro M v0 v1
  rw [f_X12_least_104]
  refine rhF.aload_n (pc := 104) dX12_least_104 0 rfl ?_
  refine rhF.ck (fun h28 => ?_)
  refine rhF.get (pc := 105) (rhI _) dX12_least_105 fl_X12_537 h28 rfl ?_
  refine rhF.iconst (pc := 108) (v := 1) dX12_least_108 (by decide) ?_
  refine rhF.isub (pc := 109) dX12_least_109 ?_
  refine rhF.istore_n (pc := 110) (L' := [(2, rhI _), (0, rhR _), (1, rhI _)]) dX12_least_110 (by decide) rfl ?_
  refine rhF.sub [1, 2, 0] rfl ?_
  exact (b_X12_least_111 (b_X12_least_180) rhFU) _ _ _ _
set_option maxHeartbeats 4000000 in
set_option maxRecDepth 100000 in
theorem b_X12_least_70 {E : rhE} {Γ : rhG} : ∀ (M : rhM) (v0 : Nat) (v1 : Int32), rhF E 11 4 yX12_least cX12_least (some .int) Γ (rhe1I Γ) (f_X12_least_70 Γ M v0 v1) 70 [(0, rhR v0), (1, rhI v1)] [] Γ M := by
  intro M v0 v1
  rw [f_X12_least_70]
  refine rhF.iload_n (pc := 70) dX12_least_70 1 rfl ?_
  refine rhF.if_ge (pc := 71) 76 dX12_least_71 (by decide) (fun h19 => ?_) (fun h19 => ?_)
  · refine rhF.iconst (pc := 74) (v := (-1)) dX12_least_74 (by decide) ?_
    exact rhF.zret (pc := 75) dX12_least_75 rfl rfl rfl
  · refine rhF.iconst (pc := 76) (v := 0) dX12_least_76 (by decide) ?_
    refine rhF.istore_n (pc := 77) (L' := [(2, rhI _), (0, rhR _), (1, rhI _)]) dX12_least_77 (by decide) rfl ?_
    refine rhF.sub [1, 2, 0] rfl ?_
    exact (b_X12_least_78 (b_X12_least_104) rhFU) _ _ _ _
set_option maxHeartbeats 4000000 in
set_option maxRecDepth 100000 in
theorem b_X12_least {E : rhE} {Γ : rhG} : ∀ (M : rhM) (v0 : Nat), rhF E 11 4 yX12_least cX12_least (some .int) Γ (rhe1I Γ) (f_X12_least Γ M v0) 0 [(0, rhR v0)] [] Γ M := by
  intro M v0
  rw [f_X12_least]
  refine rhF.aload_n (pc := 0) dX12_least_0 0 rfl ?_
  refine rhF.iconst (pc := 1) (v := 0) dX12_least_1 (by decide) ?_
  refine rhF.ck (fun h1 => ?_)
  refine rhF.puti (pc := 2) dX12_least_2 fl_X12_342 h1 (fun q hq => by cases hq; exact Or.inl rfl) ⟨rfl, rfl⟩ (fun _ => rfl) ?_
  refine rhF.aload_n (pc := 5) dX12_least_5 0 rfl ?_
  refine rhF.callV (pc := 6) (ci := 12) (embc := rhe0I _ _) [] dX12_least_6 ml_X12_515 mv_X12_isMany ⟨_, rfl, rfl⟩ h1 (c_X12_isMany _ _ _ _) (by decide) (by decide) rfl (Nat.le_of_ble_eq_true rfl) (fun r3 _ => ?_)
  refine rhF.if_eq (pc := 9) 15 dX12_least_9 (by decide) (fun h4 => ?_) (fun h4 => ?_)
  · refine rhF.aload_n (pc := 15) dX12_least_15 0 rfl ?_
    refine rhF.callV (pc := 16) (ci := 12) (embc := rhe1U _) [] dX12_least_16 ml_X12_546 mv_X12_settle ⟨_, rfl, rfl⟩ h1 (c_X12_settle _ _ _ _) (by decide) (by decide) rfl (Nat.le_of_ble_eq_true rfl) (fun r5 _ => ?_)
    refine rhF.aload_n (pc := 19) dX12_least_19 0 rfl ?_
    refine rhF.iconst (pc := 20) (v := 0) dX12_least_20 (by decide) ?_
    refine rhF.puti (pc := 21) dX12_least_21 fl_X12_481 h1 (fun q hq => by cases hq; exact Or.inl rfl) ⟨rfl, rfl⟩ (fun _ => rfl) ?_
    refine rhF.iconst (pc := 24) (v := (-1)) dX12_least_24 (by decide) ?_
    refine rhF.istore_n (pc := 25) (L' := [(1, rhI _), (0, rhR _)]) dX12_least_25 (by decide) rfl ?_
    refine rhF.iconst (pc := 26) (v := 0) dX12_least_26 (by decide) ?_
    refine rhF.istore_n (pc := 27) (L' := [(2, rhI _), (1, rhI _), (0, rhR _)]) dX12_least_27 (by decide) rfl ?_
    refine rhF.sub [2, 1, 0] rfl ?_
    exact (b_X12_least_28 (b_X12_least_70) rhFU) _ _ _ _
  · refine rhF.bipush (pc := 12) (v := (-2)) dX12_least_12 (by decide) ?_
    exact rhF.zret (pc := 14) dX12_least_14 rfl rfl rfl
theorem c_X12_least (E : rhE) (Γ : rhG) (M : rhM) (v0 : Nat) : ∀ a, f_X12_least Γ M v0 = some a → rhC E 11 yX12_least cX12_least 4 (some .int) [rhR v0] Γ M ((rhe1I Γ) a) := rhF.met (by decide +kernel) (Nat.le_of_ble_eq_true rfl) (b_X12_least M v0)
def f_X12_lies (Γ : rhG) (M : rhM) (v0 : Nat) (v1 : Int32) : Option (Int32) :=
  rhck (Γ.2.2.1 v0 = 13) <|
  (f_X12_isIn Γ M v1 (0 : Int32) ((M.1 v0 66) - 1)).bind fun r2 =>
  if r2 = 0 then
    (some ((-1)))
  else
    rhck (Γ.2.2.1 (M.2.2 v0 65) = 15) <|
    rhck (0 ≤ (v1).toInt ∧ (v1).toInt < (Γ.2.2.2 (M.2.2 v0 65) : Nat)) <|
    some (M.1 (M.2.2 v0 65) v1.toNatClampNeg)
set_option maxHeartbeats 4000000 in
set_option maxRecDepth 100000 in
theorem b_X12_lies {E : rhE} {Γ : rhG} {M : rhM} : ∀ (v0 : Nat) (v1 : Int32), rhF E 5 2 yX12_lies cX12_lies (some .int) Γ (rhe0I Γ M) (f_X12_lies Γ M v0 v1) 0 [(0, rhR v0), (1, rhI v1)] [] Γ M := by
  intro v0 v1
  rw [f_X12_lies]
  refine rhF.iload_n (pc := 0) dX12_lies_0 1 rfl ?_
  refine rhF.iconst (pc := 1) (v := 0) dX12_lies_1 (by decide) ?_
  refine rhF.aload_n (pc := 2) dX12_lies_2 0 rfl ?_
  refine rhF.ck (fun h1 => ?_)
  refine rhF.get (pc := 3) (rhI _) dX12_lies_3 fl_X12_342 h1 rfl ?_
  refine rhF.iconst (pc := 6) (v := 1) dX12_lies_6 (by decide) ?_
  refine rhF.isub (pc := 7) dX12_lies_7 ?_
  refine rhF.callS (pc := 8) (embc := rhe0I _ _) [rhI _, rhI _, rhI _] dX12_lies_8 ml_X12_415 ms_X12_isIn (c_X12_isIn _ _ _ _ _ _) (by decide) (by decide) rfl (Nat.le_of_ble_eq_true rfl) (fun r2 _ => ?_)
  refine rhF.if_eq (pc := 11) 23 dX12_lies_11 (by decide) (fun h3 => ?_) (fun h3 => ?_)
  · refine rhF.iconst (pc := 23) (v := (-1)) dX12_lies_23 (by decide) ?_
    exact rhF.zret (pc := 24) dX12_lies_24 rfl rfl rfl
  · refine rhF.aload_n (pc := 14) dX12_lies_14 0 rfl ?_
    refine rhF.get (pc := 15) (rhR _) dX12_lies_15 fl_X12_148 h1 rfl ?_
    refine rhF.iload_n (pc := 18) dX12_lies_18 1 rfl ?_
    refine rhF.ck (fun h4 => ?_)
    refine rhF.ck (fun h5 => ?_)
    refine rhF.iald (pc := 19) dX12_lies_19 h4 h5 ?_
    refine rhF.goto (pc := 20) 24 dX12_lies_20 (by decide) ?_
    exact rhF.zret (pc := 24) dX12_lies_24 rfl rfl rfl
theorem c_X12_lies (E : rhE) (Γ : rhG) (M : rhM) (v0 : Nat) (v1 : Int32) : ∀ a, f_X12_lies Γ M v0 v1 = some a → rhC E 5 yX12_lies cX12_lies 2 (some .int) [rhR v0, rhI v1] Γ M ((rhe0I Γ M) a) := rhF.met (by decide +kernel) (Nat.le_of_ble_eq_true rfl) (b_X12_lies v0 v1)
def f_X12_on_32 (Γ : rhG) (M : rhM) (v0 : Nat) (v1 : Int32) (v2 : Int32) (s0 : Int32) (s1 : Int32) (s2 : Int32) (s3 : Int32) : Option (Int32) :=
  (f_X12_isIn Γ M s0 s1 ((s2 - s3) - 1)).bind fun r7 =>
  if r7 = 0 then
    (some ((-1)))
  else
    rhck (Γ.2.2.1 v0 = 13) <|
    if v1 = 0 then
      (rhck (Γ.2.2.1 (M.2.2 v0 42) = 15) <|
      rhck (0 ≤ (0 + v2).toInt ∧ (0 + v2).toInt < (Γ.2.2.2 (M.2.2 v0 42) : Nat)) <|
      some (M.1 (M.2.2 v0 42) (0 + v2).toNatClampNeg))
    else
      rhck (Γ.2.2.1 (M.2.2 v0 43) = 15) <|
      rhck (0 ≤ (v1 - 1).toInt ∧ (v1 - 1).toInt < (Γ.2.2.2 (M.2.2 v0 43) : Nat)) <|
      rhck (Γ.2.2.1 (M.2.2 v0 42) = 15) <|
      rhck (0 ≤ ((M.1 (M.2.2 v0 43) (v1 - 1).toNatClampNeg) + v2).toInt ∧ ((M.1 (M.2.2 v0 43) (v1 - 1).toNatClampNeg) + v2).toInt < (Γ.2.2.2 (M.2.2 v0 42) : Nat)) <|
      some (M.1 (M.2.2 v0 42) ((M.1 (M.2.2 v0 43) (v1 - 1).toNatClampNeg) + v2).toNatClampNeg)
def f_X12_on (Γ : rhG) (M : rhM) (v0 : Nat) (v1 : Int32) (v2 : Int32) : Option (Int32) :=
  rhck (Γ.2.2.1 v0 = 13) <|
  (f_X12_isRail Γ M v0 v1).bind fun r2 =>
  if r2 = 0 then
    (some ((-1)))
  else
    rhck (Γ.2.2.1 (M.2.2 v0 43) = 15) <|
    rhck (0 ≤ (v1).toInt ∧ (v1).toInt < (Γ.2.2.2 (M.2.2 v0 43) : Nat)) <|
    if v1 = 0 then
      (f_X12_on_32 Γ M v0 v1 v2 v2 0 (M.1 (M.2.2 v0 43) v1.toNatClampNeg) 0)
    else
      rhck (0 ≤ (v1 - 1).toInt ∧ (v1 - 1).toInt < (Γ.2.2.2 (M.2.2 v0 43) : Nat)) <|
      f_X12_on_32 Γ M v0 v1 v2 v2 0 (M.1 (M.2.2 v0 43) v1.toNatClampNeg) (M.1 (M.2.2 v0 43) (v1 - 1).toNatClampNeg)
set_option maxHeartbeats 4000000 in
set_option maxRecDepth 100000 in
theorem b_X12_on_32 {E : rhE} {Γ : rhG} {M : rhM} : ∀ (v0 : Nat) (v1 : Int32) (v2 : Int32) (s0 : Int32) (s1 : Int32) (s2 : Int32) (s3 : Int32), rhF E 6 3 yX12_on cX12_on (some .int) Γ (rhe0I Γ M) (f_X12_on_32 Γ M v0 v1 v2 s0 s1 s2 s3) 32 [(0, rhR v0), (1, rhI v1), (2, rhI v2)] [rhI s3, rhI s2, rhI s1, rhI s0] Γ M := by
  intro v0 v1 v2 s0 s1 s2 s3
  rw [f_X12_on_32]
  refine rhF.isub (pc := 32) dX12_on_32 ?_
  refine rhF.iconst (pc := 33) (v := 1) dX12_on_33 (by decide) ?_
  refine rhF.isub (pc := 34) dX12_on_34 ?_
  refine rhF.callS (pc := 35) (embc := rhe0I _ _) [rhI _, rhI _, rhI _] dX12_on_35 ml_X12_415 ms_X12_isIn (c_X12_isIn _ _ _ _ _ _) (by decide) (by decide) rfl (Nat.le_of_ble_eq_true rfl) (fun r7 _ => ?_)
  refine rhF.if_eq (pc := 38) 67 dX12_on_38 (by decide) (fun h8 => ?_) (fun h8 => ?_)
  · refine rhF.iconst (pc := 67) (v := (-1)) dX12_on_67 (by decide) ?_
    exact rhF.zret (pc := 68) dX12_on_68 rfl rfl rfl
  · refine rhF.aload_n (pc := 41) dX12_on_41 0 rfl ?_
    refine rhF.ck (fun h9 => ?_)
    refine rhF.get (pc := 42) (rhR _) dX12_on_42 fl_X12_101 h9 rfl ?_
    refine rhF.iload_n (pc := 45) dX12_on_45 1 rfl ?_
    refine rhF.if_ne (pc := 46) 53 dX12_on_46 (by decide) (fun h10 => ?_) (fun h10 => ?_)
    · refine rhF.iconst (pc := 49) (v := 0) dX12_on_49 (by decide) ?_
      refine rhF.goto (pc := 50) 61 dX12_on_50 (by decide) ?_
      refine rhF.iload_n (pc := 61) dX12_on_61 2 rfl ?_
      refine rhF.iadd (pc := 62) dX12_on_62 ?_
      refine rhF.ck (fun h11 => ?_)
      refine rhF.ck (fun h12 => ?_)
      refine rhF.iald (pc := 63) dX12_on_63 h11 h12 ?_
      refine rhF.goto (pc := 64) 68 dX12_on_64 (by decide) ?_
      exact rhF.zret (pc := 68) dX12_on_68 rfl rfl rfl
    · refine rhF.aload_n (pc := 53) dX12_on_53 0 rfl ?_
      refine rhF.get (pc := 54) (rhR _) dX12_on_54 fl_X12_104 h9 rfl ?_
      refine rhF.iload_n (pc := 57) dX12_on_57 1 rfl ?_
      refine rhF.iconst (pc := 58) (v := 1) dX12_on_58 (by decide) ?_
      refine rhF.isub (pc := 59) dX12_on_59 ?_
      refine rhF.ck (fun h13 => ?_)
      refine rhF.ck (fun h14 => ?_)
      refine rhF.iald (pc := 60) dX12_on_60 h13 h14 ?_
      refine rhF.iload_n (pc := 61) dX12_on_61 2 rfl ?_
      refine rhF.iadd (pc := 62) dX12_on_62 ?_
      refine rhF.ck (fun h15 => ?_)
      refine rhF.ck (fun h16 => ?_)
      refine rhF.iald (pc := 63) dX12_on_63 h15 h16 ?_
      refine rhF.goto (pc := 64) 68 dX12_on_64 (by decide) ?_
      exact rhF.zret (pc := 68) dX12_on_68 rfl rfl rfl
set_option maxHeartbeats 4000000 in
set_option maxRecDepth 100000 in
theorem b_X12_on {E : rhE} {Γ : rhG} {M : rhM} : ∀ (v0 : Nat) (v1 : Int32) (v2 : Int32), rhF E 6 3 yX12_on cX12_on (some .int) Γ (rhe0I Γ M) (f_X12_on Γ M v0 v1 v2) 0 [(0, rhR v0), (1, rhI v1), (2, rhI v2)] [] Γ M := by
  intro v0 v1 v2
  rw [f_X12_on]
  refine rhF.aload_n (pc := 0) dX12_on_0 0 rfl ?_
  refine rhF.iload_n (pc := 1) dX12_on_1 1 rfl ?_
  refine rhF.ck (fun h1 => ?_)
  refine rhF.callV (pc := 2) (ci := 12) (embc := rhe0I _ _) [rhI _] dX12_on_2 ml_X12_428 mv_X12_isRail ⟨_, rfl, rfl⟩ h1 (c_X12_isRail _ _ _ _ _) (by decide) (by decide) rfl (Nat.le_of_ble_eq_true rfl) (fun r2 _ => ?_)
  refine rhF.if_eq (pc := 5) 67 dX12_on_5 (by decide) (fun h3 => ?_) (fun h3 => ?_)
  · refine rhF.iconst (pc := 67) (v := (-1)) dX12_on_67 (by decide) ?_
    exact rhF.zret (pc := 68) dX12_on_68 rfl rfl rfl
  · refine rhF.iload_n (pc := 8) dX12_on_8 2 rfl ?_
    refine rhF.iconst (pc := 9) (v := 0) dX12_on_9 (by decide) ?_
    refine rhF.aload_n (pc := 10) dX12_on_10 0 rfl ?_
    refine rhF.get (pc := 11) (rhR _) dX12_on_11 fl_X12_104 h1 rfl ?_
    refine rhF.iload_n (pc := 14) dX12_on_14 1 rfl ?_
    refine rhF.ck (fun h4 => ?_)
    refine rhF.ck (fun h5 => ?_)
    refine rhF.iald (pc := 15) dX12_on_15 h4 h5 ?_
    refine rhF.iload_n (pc := 16) dX12_on_16 1 rfl ?_
    refine rhF.if_ne (pc := 17) 24 dX12_on_17 (by decide) (fun h6 => ?_) (fun h6 => ?_)
    · refine rhF.iconst (pc := 20) (v := 0) dX12_on_20 (by decide) ?_
      refine rhF.goto (pc := 21) 32 dX12_on_21 (by decide) ?_
      exact (b_X12_on_32) _ _ _ _ _ _ _
    · refine rhF.aload_n (pc := 24) dX12_on_24 0 rfl ?_
      refine rhF.get (pc := 25) (rhR _) dX12_on_25 fl_X12_104 h1 rfl ?_
      refine rhF.iload_n (pc := 28) dX12_on_28 1 rfl ?_
      refine rhF.iconst (pc := 29) (v := 1) dX12_on_29 (by decide) ?_
      refine rhF.isub (pc := 30) dX12_on_30 ?_
      refine rhF.ck (fun h17 => ?_)
      refine rhF.iald (pc := 31) dX12_on_31 h4 h17 ?_
      exact (b_X12_on_32) _ _ _ _ _ _ _
theorem c_X12_on (E : rhE) (Γ : rhG) (M : rhM) (v0 : Nat) (v1 : Int32) (v2 : Int32) : ∀ a, f_X12_on Γ M v0 v1 v2 = some a → rhC E 6 yX12_on cX12_on 3 (some .int) [rhR v0, rhI v1, rhI v2] Γ M ((rhe0I Γ M) a) := rhF.met (by decide +kernel) (Nat.le_of_ble_eq_true rfl) (b_X12_on v0 v1 v2)
def f_X12_open (Γ : rhG) (M : rhM) (v0 : Nat) : Option (Int32 × rhM) :=
  rhck (Γ.2.2.1 v0 = 13) <|
  let x2 := M.1 v0 53
  let M3 := rhsi M v0 53 0
  some ((x2, M3))
set_option maxHeartbeats 4000000 in
set_option maxRecDepth 100000 in
theorem b_X12_open {E : rhE} {Γ : rhG} : ∀ (M : rhM) (v0 : Nat), rhF E 1 2 yX12_open cX12_open (some .int) Γ (rhe1I Γ) (f_X12_open Γ M v0) 0 [(0, rhR v0)] [] Γ M := by
  intro M v0
  rw [f_X12_open]
  refine rhF.aload_n (pc := 0) dX12_open_0 0 rfl ?_
  refine rhF.ck (fun h1 => ?_)
  refine rhF.get (pc := 1) (rhI _) dX12_open_1 fl_X12_339 h1 rfl ?_
  refine rhF.istore_n (pc := 4) (L' := [(1, rhI _), (0, rhR _)]) dX12_open_4 (by decide) rfl ?_
  refine rhF.aload_n (pc := 5) dX12_open_5 1 rfl ?_
  refine rhF.iconst (pc := 6) (v := 0) dX12_open_6 (by decide) ?_
  refine rhF.puti (pc := 7) dX12_open_7 fl_X12_339 h1 (fun q hq => by cases hq; exact Or.inl rfl) ⟨rfl, rfl⟩ (fun _ => rfl) ?_
  refine rhF.iload_n (pc := 10) dX12_open_10 0 rfl ?_
  exact rhF.zret (pc := 11) dX12_open_11 rfl rfl rfl
theorem c_X12_open (E : rhE) (Γ : rhG) (M : rhM) (v0 : Nat) : ∀ a, f_X12_open Γ M v0 = some a → rhC E 1 yX12_open cX12_open 2 (some .int) [rhR v0] Γ M ((rhe1I Γ) a) := rhF.met (by decide +kernel) (Nat.le_of_ble_eq_true rfl) (b_X12_open M v0)
def f_X12_pull (Γ : rhG) (M : rhM) (v0 : Nat) (v1 : Int32) (v2 : Int32) (v3 : Int32) : Option (Int32 × rhM) :=
  rhck (Γ.2.2.1 v0 = 13) <|
  (f_X12_layNow Γ M v0).bind fun r2 =>
  if (r2.1 v0 48) = 300 then
    (some (((-1), r2)))
  else
    (f_X12_isLawful Γ r2 v0 v1 v2 v3).bind fun r4 =>
    if r4.1 = 0 then
      (some (((-1), r4.2)))
    else
      (f_X12_sumOf Γ r4.2 v0 (r4.2.2.2 v0 20) v1 v2).bind fun r6 =>
      rhck (Γ.2.2.1 (r4.2.2.2 v0 47) = 15) <|
      rhck (0 ≤ (r4.2.1 v0 48).toInt ∧ (r4.2.1 v0 48).toInt < (Γ.2.2.2 (r4.2.2.2 v0 47) : Nat)) <|
      let M9 := rhsi r4.2 (r4.2.2.2 v0 47) (r4.2.1 v0 48 : Int32).toNatClampNeg r6
      rhck (0 ≤ (M9.1 v0 48).toInt ∧ (M9.1 v0 48).toInt < (Γ.2.2.2 (r4.2.2.2 v0 47) : Nat)) <|
      let M11 := rhsi M9 v0 49 ((M9.1 v0 49) + (M9.1 (r4.2.2.2 v0 47) (M9.1 v0 48).toNatClampNeg))
      rhck (Γ.2.2.1 (r4.2.2.2 v0 46) = 15) <|
      rhck (0 ≤ (M11.1 v0 48).toInt ∧ (M11.1 v0 48).toInt < (Γ.2.2.2 (r4.2.2.2 v0 46) : Nat)) <|
      let M14 := rhsi M11 (r4.2.2.2 v0 46) (M11.1 v0 48 : Int32).toNatClampNeg (((100 * v1) + (10 * v2)) + v3)
      let M15 := rhsi M14 v0 48 ((M14.1 v0 48) + 1)
      (f_X12_moves Γ M15 v0 v1 v2 v3).bind fun r16 =>
      (f_X12_keepNow Γ r16 v0).bind fun r17 =>
      rhck (Γ.2.2.1 (r17.2.2 v0 47) = 15) <|
      rhck (0 ≤ ((r17.1 v0 48) - 1).toInt ∧ ((r17.1 v0 48) - 1).toInt < (Γ.2.2.2 (r17.2.2 v0 47) : Nat)) <|
      some ((r17.1 (r17.2.2 v0 47) ((r17.1 v0 48) - 1).toNatClampNeg, r17))
set_option maxHeartbeats 4000000 in
set_option maxRecDepth 100000 in
theorem b_X12_pull {E : rhE} {Γ : rhG} : ∀ (M : rhM) (v0 : Nat) (v1 : Int32) (v2 : Int32) (v3 : Int32), rhF E 9 4 yX12_pull cX12_pull (some .int) Γ (rhe1I Γ) (f_X12_pull Γ M v0 v1 v2 v3) 0 [(0, rhR v0), (1, rhI v1), (2, rhI v2), (3, rhI v3)] [] Γ M := by
  intro M v0 v1 v2 v3
  rw [f_X12_pull]
  refine rhF.aload_n (pc := 0) dX12_pull_0 0 rfl ?_
  refine rhF.ck (fun h1 => ?_)
  refine rhF.callV (pc := 1) (ci := 12) (embc := rhe1U _) [] dX12_pull_1 ml_X12_467 mv_X12_layNow ⟨_, rfl, rfl⟩ h1 (c_X12_layNow _ _ _ _) (by decide) (by decide) rfl (Nat.le_of_ble_eq_true rfl) (fun r2 _ => ?_)
  refine rhF.aload_n (pc := 4) dX12_pull_4 0 rfl ?_
  refine rhF.get (pc := 5) (rhI _) dX12_pull_5 fl_X12_458 h1 rfl ?_
  refine rhF.sipush (pc := 8) (v := 300) dX12_pull_8 (by decide) ?_
  refine rhF.icmp_eq (pc := 11) 24 dX12_pull_11 (by decide) (fun h3 => ?_) (fun h3 => ?_)
  · refine rhF.iconst (pc := 24) (v := (-1)) dX12_pull_24 (by decide) ?_
    exact rhF.zret (pc := 25) dX12_pull_25 rfl rfl rfl
  · refine rhF.aload_n (pc := 14) dX12_pull_14 0 rfl ?_
    refine rhF.iload_n (pc := 15) dX12_pull_15 1 rfl ?_
    refine rhF.iload_n (pc := 16) dX12_pull_16 2 rfl ?_
    refine rhF.iload_n (pc := 17) dX12_pull_17 3 rfl ?_
    refine rhF.callV (pc := 18) (ci := 12) (embc := rhe1I _) [rhI _, rhI _, rhI _] dX12_pull_18 ml_X12_471 mv_X12_isLawful ⟨_, rfl, rfl⟩ h1 (c_X12_isLawful _ _ _ _ _ _ _) (by decide) (by decide) rfl (Nat.le_of_ble_eq_true rfl) (fun r4 _ => ?_)
    refine rhF.if_ne (pc := 21) 26 dX12_pull_21 (by decide) (fun h5 => ?_) (fun h5 => ?_)
    · refine rhF.iconst (pc := 24) (v := (-1)) dX12_pull_24 (by decide) ?_
      exact rhF.zret (pc := 25) dX12_pull_25 rfl rfl rfl
    · refine rhF.aload_n (pc := 26) dX12_pull_26 0 rfl ?_
      refine rhF.get (pc := 27) (rhR _) dX12_pull_27 fl_X12_113 h1 rfl ?_
      refine rhF.aload_n (pc := 30) dX12_pull_30 0 rfl ?_
      refine rhF.get (pc := 31) (rhI _) dX12_pull_31 fl_X12_458 h1 rfl ?_
      refine rhF.aload_n (pc := 34) dX12_pull_34 0 rfl ?_
      refine rhF.aload_n (pc := 35) dX12_pull_35 0 rfl ?_
      refine rhF.get (pc := 36) (rhR _) dX12_pull_36 fl_X12_48 h1 rfl ?_
      refine rhF.iload_n (pc := 39) dX12_pull_39 1 rfl ?_
      refine rhF.iload_n (pc := 40) dX12_pull_40 2 rfl ?_
      refine rhF.callV (pc := 41) (ci := 12) (embc := rhe0I _ _) [rhR _, rhI _, rhI _] dX12_pull_41 ml_X12_431 mv_X12_sumOf ⟨_, rfl, rfl⟩ h1 (c_X12_sumOf _ _ _ _ _ _ _) (by decide) (by decide) rfl (Nat.le_of_ble_eq_true rfl) (fun r6 _ => ?_)
      refine rhF.ck (fun h7 => ?_)
      refine rhF.ck (fun h8 => ?_)
      refine rhF.iast (pc := 44) dX12_pull_44 h7 h8 ?_
      refine rhF.aload_n (pc := 45) dX12_pull_45 0 rfl ?_
      refine rhF.dupr (pc := 46) dX12_pull_46 ?_
      refine rhF.get (pc := 47) (rhI _) dX12_pull_47 fl_X12_461 h1 rfl ?_
      refine rhF.aload_n (pc := 50) dX12_pull_50 0 rfl ?_
      refine rhF.get (pc := 51) (rhR _) dX12_pull_51 fl_X12_113 h1 rfl ?_
      refine rhF.aload_n (pc := 54) dX12_pull_54 0 rfl ?_
      refine rhF.get (pc := 55) (rhI _) dX12_pull_55 fl_X12_458 h1 rfl ?_
      refine rhF.ck (fun h10 => ?_)
      refine rhF.iald (pc := 58) dX12_pull_58 h7 h10 ?_
      refine rhF.iadd (pc := 59) dX12_pull_59 ?_
      refine rhF.puti (pc := 60) dX12_pull_60 fl_X12_461 h1 (fun q hq => by cases hq; exact Or.inl rfl) ⟨rfl, rfl⟩ (fun _ => rfl) ?_
      refine rhF.aload_n (pc := 63) dX12_pull_63 0 rfl ?_
      refine rhF.get (pc := 64) (rhR _) dX12_pull_64 fl_X12_110 h1 rfl ?_
      refine rhF.aload_n (pc := 67) dX12_pull_67 0 rfl ?_
      refine rhF.get (pc := 68) (rhI _) dX12_pull_68 fl_X12_458 h1 rfl ?_
      refine rhF.bipush (pc := 71) (v := 100) dX12_pull_71 (by decide) ?_
      refine rhF.iload_n (pc := 73) dX12_pull_73 1 rfl ?_
      refine rhF.imul (pc := 74) dX12_pull_74 ?_
      refine rhF.bipush (pc := 75) (v := 10) dX12_pull_75 (by decide) ?_
      refine rhF.iload_n (pc := 77) dX12_pull_77 2 rfl ?_
      refine rhF.imul (pc := 78) dX12_pull_78 ?_
      refine rhF.iadd (pc := 79) dX12_pull_79 ?_
      refine rhF.iload_n (pc := 80) dX12_pull_80 3 rfl ?_
      refine rhF.iadd (pc := 81) dX12_pull_81 ?_
      refine rhF.ck (fun h12 => ?_)
      refine rhF.ck (fun h13 => ?_)
      refine rhF.iast (pc := 82) dX12_pull_82 h12 h13 ?_
      refine rhF.aload_n (pc := 83) dX12_pull_83 0 rfl ?_
      refine rhF.dupr (pc := 84) dX12_pull_84 ?_
      refine rhF.get (pc := 85) (rhI _) dX12_pull_85 fl_X12_458 h1 rfl ?_
      refine rhF.iconst (pc := 88) (v := 1) dX12_pull_88 (by decide) ?_
      refine rhF.iadd (pc := 89) dX12_pull_89 ?_
      refine rhF.puti (pc := 90) dX12_pull_90 fl_X12_458 h1 (fun q hq => by cases hq; exact Or.inl rfl) ⟨rfl, rfl⟩ (fun _ => rfl) ?_
      refine rhF.aload_n (pc := 93) dX12_pull_93 0 rfl ?_
      refine rhF.iload_n (pc := 94) dX12_pull_94 1 rfl ?_
      refine rhF.iload_n (pc := 95) dX12_pull_95 2 rfl ?_
      refine rhF.iload_n (pc := 96) dX12_pull_96 3 rfl ?_
      refine rhF.callV (pc := 97) (ci := 12) (embc := rhe1U _) [rhI _, rhI _, rhI _] dX12_pull_97 ml_X12_474 mv_X12_moves ⟨_, rfl, rfl⟩ h1 (c_X12_moves _ _ _ _ _ _ _) (by decide) (by decide) rfl (Nat.le_of_ble_eq_true rfl) (fun r16 _ => ?_)
      refine rhF.aload_n (pc := 100) dX12_pull_100 0 rfl ?_
      refine rhF.callV (pc := 101) (ci := 12) (embc := rhe1U _) [] dX12_pull_101 ml_X12_455 mv_X12_keepNow ⟨_, rfl, rfl⟩ h1 (c_X12_keepNow _ _ _ _) (by decide) (by decide) rfl (Nat.le_of_ble_eq_true rfl) (fun r17 _ => ?_)
      refine rhF.aload_n (pc := 104) dX12_pull_104 0 rfl ?_
      refine rhF.get (pc := 105) (rhR _) dX12_pull_105 fl_X12_113 h1 rfl ?_
      refine rhF.aload_n (pc := 108) dX12_pull_108 0 rfl ?_
      refine rhF.get (pc := 109) (rhI _) dX12_pull_109 fl_X12_458 h1 rfl ?_
      refine rhF.iconst (pc := 112) (v := 1) dX12_pull_112 (by decide) ?_
      refine rhF.isub (pc := 113) dX12_pull_113 ?_
      refine rhF.ck (fun h18 => ?_)
      refine rhF.ck (fun h19 => ?_)
      refine rhF.iald (pc := 114) dX12_pull_114 h18 h19 ?_
      exact rhF.zret (pc := 115) dX12_pull_115 rfl rfl rfl
theorem c_X12_pull (E : rhE) (Γ : rhG) (M : rhM) (v0 : Nat) (v1 : Int32) (v2 : Int32) (v3 : Int32) : ∀ a, f_X12_pull Γ M v0 v1 v2 v3 = some a → rhC E 9 yX12_pull cX12_pull 4 (some .int) [rhR v0, rhI v1, rhI v2, rhI v3] Γ M ((rhe1I Γ) a) := rhF.met (by decide +kernel) (Nat.le_of_ble_eq_true rfl) (b_X12_pull M v0 v1 v2 v3)
def f_X12_railHere (Γ : rhG) (M : rhM) (v0 : Nat) : Option (Int32) :=
  rhck (Γ.2.2.1 v0 = 13) <|
  rhck (Γ.2.2.1 (M.2.2 v0 11) = 15) <|
  rhck (0 ≤ (M.1 v0 35).toInt ∧ (M.1 v0 35).toInt < (Γ.2.2.2 (M.2.2 v0 11) : Nat)) <|
  (f_X12_here Γ M v0 (M.2.2 v0 27) (5 * (M.1 v0 35)) (M.1 (M.2.2 v0 11) (M.1 v0 35).toNatClampNeg)).bind fun r4 =>
  some r4
set_option maxHeartbeats 4000000 in
set_option maxRecDepth 100000 in
theorem b_X12_railHere {E : rhE} {Γ : rhG} {M : rhM} : ∀ (v0 : Nat), rhF E 5 1 yX12_railHere cX12_railHere (some .int) Γ (rhe0I Γ M) (f_X12_railHere Γ M v0) 0 [(0, rhR v0)] [] Γ M := by
  intro v0
  rw [f_X12_railHere]
  refine rhF.aload_n (pc := 0) dX12_railHere_0 0 rfl ?_
  refine rhF.aload_n (pc := 1) dX12_railHere_1 0 rfl ?_
  refine rhF.ck (fun h1 => ?_)
  refine rhF.get (pc := 2) (rhR _) dX12_railHere_2 fl_X12_70 h1 rfl ?_
  refine rhF.iconst (pc := 5) (v := 5) dX12_railHere_5 (by decide) ?_
  refine rhF.aload_n (pc := 6) dX12_railHere_6 0 rfl ?_
  refine rhF.get (pc := 7) (rhI _) dX12_railHere_7 fl_X12_318 h1 rfl ?_
  refine rhF.imul (pc := 10) dX12_railHere_10 ?_
  refine rhF.aload_n (pc := 11) dX12_railHere_11 0 rfl ?_
  refine rhF.get (pc := 12) (rhR _) dX12_railHere_12 fl_X12_20 h1 rfl ?_
  refine rhF.aload_n (pc := 15) dX12_railHere_15 0 rfl ?_
  refine rhF.get (pc := 16) (rhI _) dX12_railHere_16 fl_X12_318 h1 rfl ?_
  refine rhF.ck (fun h2 => ?_)
  refine rhF.ck (fun h3 => ?_)
  refine rhF.iald (pc := 19) dX12_railHere_19 h2 h3 ?_
  refine rhF.callV (pc := 20) (ci := 12) (embc := rhe0I _ _) [rhR _, rhI _, rhI _] dX12_railHere_20 ml_X12_360 mv_X12_here ⟨_, rfl, rfl⟩ h1 (c_X12_here _ _ _ _ _ _ _) (by decide) (by decide) rfl (Nat.le_of_ble_eq_true rfl) (fun r4 _ => ?_)
  exact rhF.zret (pc := 23) dX12_railHere_23 rfl rfl rfl
theorem c_X12_railHere (E : rhE) (Γ : rhG) (M : rhM) (v0 : Nat) : ∀ a, f_X12_railHere Γ M v0 = some a → rhC E 5 yX12_railHere cX12_railHere 1 (some .int) [rhR v0] Γ M ((rhe0I Γ M) a) := rhF.met (by decide +kernel) (Nat.le_of_ble_eq_true rfl) (b_X12_railHere v0)
