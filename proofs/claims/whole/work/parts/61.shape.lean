def ry_rs : List (Nat × Nat × Nat) := [(1, 0, 2), (1, 2, 3), (1, 5, 33), (1, 6, 40), (1, 7, 47), (1, 8, 49), (1, 9, 51), (1, 12, 53), (1, 13, 54), (1, 14, 55), (3, 2, 4), (3, 3, 7), (3, 4, 8), (3, 5, 9), (3, 6, 10), (4, 0, 5), (11, 6, 12), (11, 7, 13), (11, 8, 14), (11, 9, 15), (11, 10, 16), (11, 11, 17), (17, 2, 18), (17, 3, 19), (17, 4, 20), (17, 5, 21), (22, 6, 23), (22, 7, 24), (22, 8, 25), (22, 9, 26), (22, 10, 27), (22, 11, 28), (28, 2, 29), (28, 3, 30), (28, 4, 31), (28, 5, 32), (33, 2, 34), (33, 3, 35), (33, 4, 36), (33, 6, 37), (33, 7, 38), (33, 8, 39), (40, 2, 41), (40, 3, 42), (40, 4, 43), (40, 6, 44), (40, 7, 45), (40, 8, 46), (47, 0, 48), (49, 0, 50), (54, 0, 96), (54, 1, 98), (54, 2, 100), (55, 1, 56), (55, 2, 57), (55, 3, 58), (55, 4, 59), (55, 5, 60), (55, 6, 61), (55, 7, 62), (55, 8, 63), (55, 12, 65), (55, 13, 66), (55, 14, 67), (62, 0, 68), (62, 1, 75), (62, 2, 82), (62, 3, 89), (63, 0, 64), (68, 2, 69), (68, 3, 70), (68, 4, 71), (68, 6, 72), (68, 7, 73), (68, 8, 74), (75, 2, 76), (75, 3, 77), (75, 4, 78), (75, 6, 79), (75, 7, 80), (75, 8, 81), (82, 2, 83), (82, 3, 84), (82, 4, 85), (82, 6, 86), (82, 7, 87), (82, 8, 88), (89, 2, 90), (89, 3, 91), (89, 4, 92), (89, 6, 93), (89, 7, 94), (89, 8, 95), (96, 0, 97), (98, 0, 99), (100, 0, 101), (102, 0, 103), (102, 1, 104), (102, 11, 105), (102, 12, 106), (102, 13, 107), (102, 14, 108), (102, 15, 109), (102, 16, 110), (102, 17, 111), (102, 18, 112), (102, 19, 113), (102, 20, 114), (102, 21, 115), (102, 22, 116), (102, 23, 117), (102, 24, 118), (102, 25, 119), (102, 26, 120), (102, 27, 121), (102, 28, 122), (102, 29, 123), (102, 30, 124), (102, 31, 125), (102, 32, 126), (102, 33, 127), (102, 39, 128), (102, 40, 129), (102, 41, 130), (102, 42, 131), (102, 43, 132), (102, 46, 133), (102, 47, 134), (102, 50, 135), (102, 52, 136), (102, 54, 137), (102, 55, 138), (102, 56, 139), (102, 57, 140), (102, 58, 141), (102, 59, 142), (102, 63, 143), (102, 64, 144), (102, 65, 145), (102, 67, 146), (102, 68, 147), (102, 69, 148), (102, 72, 149), (102, 73, 150), (102, 74, 151), (102, 75, 152), (102, 76, 153), (102, 77, 154), (102, 78, 155), (102, 79, 156), (102, 80, 157), (102, 81, 158), (102, 84, 159), (102, 85, 160), (102, 86, 161), (102, 87, 162), (102, 88, 163), (102, 89, 164)]
/-! the memory's ints and longs alone -/
abbrev ryS : Type := (Nat → Nat → Int32) × (Nat → Nat → Int64)
def ryM (s : ryS) (R : Nat → Nat → Nat) : rhM := (s.1, s.2, R)
def rysi (s : ryS) (r j : Nat) (v : Int32) : ryS := (fun a k => if a = r ∧ k = j then v else s.1 a k, s.2)
def rysl (s : ryS) (r j : Nat) (v : Int64) : ryS := (s.1, fun a k => if a = r ∧ k = j then v else s.2 a k)
theorem ryM_1 (s : ryS) (R : Nat → Nat → Nat) : (ryM s R).1 = s.1 := rfl
theorem ryM_2 (s : ryS) (R : Nat → Nat → Nat) : (ryM s R).2.1 = s.2 := rfl
theorem ryM_3 (s : ryS) (R : Nat → Nat → Nat) : (ryM s R).2.2 = R := rfl
theorem ry_si (s : ryS) (R : Nat → Nat → Nat) (r j : Nat) (v : Int32) : rhsi (ryM s R) r j v = ryM (rysi s r j v) R := rfl
theorem ry_sl (s : ryS) (R : Nat → Nat → Nat) (r j : Nat) (v : Int64) : rhsl (ryM s R) r j v = ryM (rysl s r j v) R := rfl
theorem ry_ck {α : Type} (n : Nat) (x : Option α) : (if n = n then x else none) = x := if_pos rfl
theorem ry_ite {α β : Type} (φ : α → β) (c : Prop) [Decidable c] (x y : Option α) : Option.map φ (if c then x else y) = if c then Option.map φ x else Option.map φ y := by by_cases h : c <;> simp [h]
theorem ry_bm {α β γ : Type} (φ : β → γ) (x : Option α) (k : α → Option β) : Option.map φ (x.bind k) = x.bind (fun a => Option.map φ (k a)) := by cases x <;> rfl
theorem ry_mb {α β γ : Type} (φ : α → β) (x : Option α) (k : β → Option γ) : (Option.map φ x).bind k = x.bind (fun a => k (φ a)) := by cases x <;> rfl
def Sh1 (Γ : rhG) (R : Nat → Nat → Nat) (p : Nat) : Prop := Γ.2.2.1 p = 2 ∧ R p 2 = p + 1 ∧ Γ.2.2.1 (p + 1) = 15 ∧ Γ.2.2.2 (p + 1) = 512 ∧ R p 3 = p + 2 ∧ Γ.2.2.1 (p + 2) = 15 ∧ Γ.2.2.2 (p + 2) = 512 ∧ R p 4 = p + 3 ∧ Γ.2.2.1 (p + 3) = 15 ∧ Γ.2.2.2 (p + 3) = 512 ∧ R p 5 = p + 4 ∧ Γ.2.2.1 (p + 4) = 15 ∧ Γ.2.2.2 (p + 4) = 18
def Sh7 (Γ : rhG) (R : Nat → Nat → Nat) (p : Nat) : Prop := Γ.2.2.1 p = 8 ∧ R p 2 = p + 1 ∧ Γ.2.2.1 (p + 1) = 15 ∧ Γ.2.2.2 (p + 1) = 5 ∧ R p 3 = p + 2 ∧ Γ.2.2.1 (p + 2) = 15 ∧ Γ.2.2.2 (p + 2) = 5 ∧ R p 4 = p + 3 ∧ Γ.2.2.1 (p + 3) = 15 ∧ Γ.2.2.2 (p + 3) = 5 ∧ R p 6 = p + 4 ∧ Γ.2.2.1 (p + 4) = 16 ∧ Γ.2.2.2 (p + 4) = 32 ∧ R p 7 = p + 5 ∧ Γ.2.2.1 (p + 5) = 15 ∧ Γ.2.2.2 (p + 5) = 32 ∧ R p 8 = p + 6 ∧ Γ.2.2.1 (p + 6) = 15 ∧ Γ.2.2.2 (p + 6) = 32
def Sh9 (Γ : rhG) (R : Nat → Nat → Nat) (p : Nat) : Prop := Γ.2.2.1 p = 10 ∧ R p 6 = p + 1 ∧ Γ.2.2.1 (p + 1) = 15 ∧ Γ.2.2.2 (p + 1) = 5 ∧ R p 7 = p + 2 ∧ Γ.2.2.1 (p + 2) = 15 ∧ Γ.2.2.2 (p + 2) = 256 ∧ R p 8 = p + 3 ∧ Γ.2.2.1 (p + 3) = 15 ∧ Γ.2.2.2 (p + 3) = 256 ∧ R p 9 = p + 4 ∧ Γ.2.2.1 (p + 4) = 15 ∧ Γ.2.2.2 (p + 4) = 64 ∧ R p 10 = p + 5 ∧ Γ.2.2.1 (p + 5) = 17 ∧ Γ.2.2.2 (p + 5) = 64 ∧ R p 11 = p + 6 ∧ Sh1 Γ R (p + 6)
def Sh0 (Γ : rhG) (R : Nat → Nat → Nat) (p : Nat) (n tb : Nat) : Prop := Γ.2.2.1 p = 1 ∧ R p 1 = p + 1 ∧ Γ.2.2.1 (p + 1) = 16 ∧ Γ.2.2.2 (p + 1) = n ∧ R p 2 = p + 2 ∧ Γ.2.2.1 (p + 2) = 15 ∧ Γ.2.2.2 (p + 2) = n ∧ R p 3 = p + 3 ∧ Γ.2.2.1 (p + 3) = 15 ∧ Γ.2.2.2 (p + 3) = n ∧ R p 4 = p + 4 ∧ Γ.2.2.1 (p + 4) = 15 ∧ Γ.2.2.2 (p + 4) = n ∧ R p 5 = p + 5 ∧ Γ.2.2.1 (p + 5) = 15 ∧ Γ.2.2.2 (p + 5) = tb
def Sh10 (Γ : rhG) (R : Nat → Nat → Nat) (p : Nat) (n : Nat) : Prop := Γ.2.2.1 p = 11 ∧ R p 4 = p + 1 ∧ Γ.2.2.1 (p + 1) = 15 ∧ Γ.2.2.2 (p + 1) = 1024 ∧ R p 1 = p + 2 ∧ Γ.2.2.1 (p + 2) = 15 ∧ Γ.2.2.2 (p + 2) = n ∧ R p 2 = p + 3 ∧ Γ.2.2.1 (p + 3) = 15 ∧ Γ.2.2.2 (p + 3) = n ∧ R p 3 = p + 4 ∧ Γ.2.2.1 (p + 4) = 15 ∧ Γ.2.2.2 (p + 4) = n
def Sh3 (Γ : rhG) (R : Nat → Nat → Nat) (p : Nat) (c cl : Nat) : Prop := Γ.2.2.1 p = 4 ∧ R p 0 = c ∧ Γ.2.2.1 c = 15 ∧ Γ.2.2.2 c = cl
def Sh2 (Γ : rhG) (R : Nat → Nat → Nat) (p : Nat) (t kn : Nat) : Prop := Γ.2.2.1 p = 3 ∧ R p 0 = p + 1 ∧ Γ.2.2.1 (p + 1) = 14 ∧ Γ.2.2.2 (p + 1) = kn ∧ R p 1 = t
def Sh5 (Γ : rhG) (R : Nat → Nat → Nat) (p : Nat) (t n tb kn : Nat) : Prop := Γ.2.2.1 p = 6 ∧ R p 5 = p + 1 ∧ R p 2 = p + 8 ∧ R p 3 = p + 14 ∧ R p 4 = p + 19 ∧ R p 6 = t ∧ Sh7 Γ R (p + 1) ∧ Sh0 Γ R (p + 8) n tb ∧ Sh10 Γ R (p + 14) n ∧ Sh2 Γ R (p + 19) t kn
def ShS (Γ : rhG) (R : Nat → Nat → Nat) : Prop := (∀ q ∈ ry_kt, Γ.2.2.1 q.1 = q.2.1 ∧ Γ.2.2.2 q.1 = q.2.2) ∧ ∀ q ∈ ry_rs, R q.1 q.2.1 = q.2.2
theorem sh9_1 {Γ : rhG} {R : Nat → Nat → Nat} {p : Nat} (h : Sh9 Γ R p) : Sh1 Γ R (p + 6) := h.2.2.2.2.2.2.2.2.2.2.2.2.2.2.2.2.2
theorem sh5_7 {Γ : rhG} {R : Nat → Nat → Nat} {p t n tb kn : Nat} (h : Sh5 Γ R p t n tb kn) : Sh7 Γ R (p + 1) := h.2.2.2.2.2.2.1
theorem sh5_0 {Γ : rhG} {R : Nat → Nat → Nat} {p t n tb kn : Nat} (h : Sh5 Γ R p t n tb kn) : Sh0 Γ R (p + 8) n tb := h.2.2.2.2.2.2.2.1
theorem sh5_10 {Γ : rhG} {R : Nat → Nat → Nat} {p t n tb kn : Nat} (h : Sh5 Γ R p t n tb kn) : Sh10 Γ R (p + 14) n := h.2.2.2.2.2.2.2.2.1
theorem sh5_2 {Γ : rhG} {R : Nat → Nat → Nat} {p t n tb kn : Nat} (h : Sh5 Γ R p t n tb kn) : Sh2 Γ R (p + 19) t kn := h.2.2.2.2.2.2.2.2.2
theorem ssk_3 {Γ : rhG} {R : Nat → Nat → Nat} (h : ShS Γ R) : Γ.2.2.1 3 = 5 := (h.1 (3, 5, 0) (by decide +kernel)).1
theorem ssk_4 {Γ : rhG} {R : Nat → Nat → Nat} (h : ShS Γ R) : Γ.2.2.1 4 = 9 := (h.1 (4, 9, 0) (by decide +kernel)).1
theorem ssr_3_2 {Γ : rhG} {R : Nat → Nat → Nat} (h : ShS Γ R) : R 3 2 = 4 := h.2 (3, 2, 4) (by decide +kernel)
theorem ssk_2 {Γ : rhG} {R : Nat → Nat → Nat} (h : ShS Γ R) : Γ.2.2.1 2 = 14 := (h.1 (2, 14, 1600) (by decide +kernel)).1
theorem ssl_2 {Γ : rhG} {R : Nat → Nat → Nat} (h : ShS Γ R) : Γ.2.2.2 2 = 1600 := (h.1 (2, 14, 1600) (by decide +kernel)).2
theorem ssk_5 {Γ : rhG} {R : Nat → Nat → Nat} (h : ShS Γ R) : Γ.2.2.1 5 = 16 := (h.1 (5, 16, 18) (by decide +kernel)).1
theorem ssl_5 {Γ : rhG} {R : Nat → Nat → Nat} (h : ShS Γ R) : Γ.2.2.2 5 = 18 := (h.1 (5, 16, 18) (by decide +kernel)).2
theorem ssr_4_0 {Γ : rhG} {R : Nat → Nat → Nat} (h : ShS Γ R) : R 4 0 = 5 := h.2 (4, 0, 5) (by decide +kernel)
theorem ssk_9 {Γ : rhG} {R : Nat → Nat → Nat} (h : ShS Γ R) : Γ.2.2.1 9 = 15 := (h.1 (9, 15, 8) (by decide +kernel)).1
theorem ssl_9 {Γ : rhG} {R : Nat → Nat → Nat} (h : ShS Γ R) : Γ.2.2.2 9 = 8 := (h.1 (9, 15, 8) (by decide +kernel)).2
theorem ssr_3_5 {Γ : rhG} {R : Nat → Nat → Nat} (h : ShS Γ R) : R 3 5 = 9 := h.2 (3, 5, 9) (by decide +kernel)
theorem ssk_8 {Γ : rhG} {R : Nat → Nat → Nat} (h : ShS Γ R) : Γ.2.2.1 8 = 16 := (h.1 (8, 16, 8) (by decide +kernel)).1
theorem ssl_8 {Γ : rhG} {R : Nat → Nat → Nat} (h : ShS Γ R) : Γ.2.2.2 8 = 8 := (h.1 (8, 16, 8) (by decide +kernel)).2
theorem ssr_3_4 {Γ : rhG} {R : Nat → Nat → Nat} (h : ShS Γ R) : R 3 4 = 8 := h.2 (3, 4, 8) (by decide +kernel)
theorem ssk_7 {Γ : rhG} {R : Nat → Nat → Nat} (h : ShS Γ R) : Γ.2.2.1 7 = 16 := (h.1 (7, 16, 5) (by decide +kernel)).1
theorem ssl_7 {Γ : rhG} {R : Nat → Nat → Nat} (h : ShS Γ R) : Γ.2.2.2 7 = 5 := (h.1 (7, 16, 5) (by decide +kernel)).2
theorem ssk_10 {Γ : rhG} {R : Nat → Nat → Nat} (h : ShS Γ R) : Γ.2.2.1 10 = 15 := (h.1 (10, 15, 5) (by decide +kernel)).1
theorem ssl_10 {Γ : rhG} {R : Nat → Nat → Nat} (h : ShS Γ R) : Γ.2.2.2 10 = 5 := (h.1 (10, 15, 5) (by decide +kernel)).2
theorem ssr_3_6 {Γ : rhG} {R : Nat → Nat → Nat} (h : ShS Γ R) : R 3 6 = 10 := h.2 (3, 6, 10) (by decide +kernel)
theorem ssr_3_3 {Γ : rhG} {R : Nat → Nat → Nat} (h : ShS Γ R) : R 3 3 = 7 := h.2 (3, 3, 7) (by decide +kernel)
theorem ssk_55 {Γ : rhG} {R : Nat → Nat → Nat} (h : ShS Γ R) : Γ.2.2.1 55 = 7 := (h.1 (55, 7, 0) (by decide +kernel)).1
theorem ssk_56 {Γ : rhG} {R : Nat → Nat → Nat} (h : ShS Γ R) : Γ.2.2.1 56 = 15 := (h.1 (56, 15, 20) (by decide +kernel)).1
theorem ssk_57 {Γ : rhG} {R : Nat → Nat → Nat} (h : ShS Γ R) : Γ.2.2.1 57 = 15 := (h.1 (57, 15, 20) (by decide +kernel)).1
theorem ssk_58 {Γ : rhG} {R : Nat → Nat → Nat} (h : ShS Γ R) : Γ.2.2.1 58 = 15 := (h.1 (58, 15, 20) (by decide +kernel)).1
theorem ssk_59 {Γ : rhG} {R : Nat → Nat → Nat} (h : ShS Γ R) : Γ.2.2.1 59 = 17 := (h.1 (59, 17, 20) (by decide +kernel)).1
theorem ssk_60 {Γ : rhG} {R : Nat → Nat → Nat} (h : ShS Γ R) : Γ.2.2.1 60 = 15 := (h.1 (60, 15, 20) (by decide +kernel)).1
theorem ssk_61 {Γ : rhG} {R : Nat → Nat → Nat} (h : ShS Γ R) : Γ.2.2.1 61 = 15 := (h.1 (61, 15, 20) (by decide +kernel)).1
theorem ssl_56 {Γ : rhG} {R : Nat → Nat → Nat} (h : ShS Γ R) : Γ.2.2.2 56 = 20 := (h.1 (56, 15, 20) (by decide +kernel)).2
theorem ssl_57 {Γ : rhG} {R : Nat → Nat → Nat} (h : ShS Γ R) : Γ.2.2.2 57 = 20 := (h.1 (57, 15, 20) (by decide +kernel)).2
theorem ssl_58 {Γ : rhG} {R : Nat → Nat → Nat} (h : ShS Γ R) : Γ.2.2.2 58 = 20 := (h.1 (58, 15, 20) (by decide +kernel)).2
theorem ssl_59 {Γ : rhG} {R : Nat → Nat → Nat} (h : ShS Γ R) : Γ.2.2.2 59 = 20 := (h.1 (59, 17, 20) (by decide +kernel)).2
theorem ssl_60 {Γ : rhG} {R : Nat → Nat → Nat} (h : ShS Γ R) : Γ.2.2.2 60 = 20 := (h.1 (60, 15, 20) (by decide +kernel)).2
theorem ssl_61 {Γ : rhG} {R : Nat → Nat → Nat} (h : ShS Γ R) : Γ.2.2.2 61 = 20 := (h.1 (61, 15, 20) (by decide +kernel)).2
theorem ssr_55_1 {Γ : rhG} {R : Nat → Nat → Nat} (h : ShS Γ R) : R 55 1 = 56 := h.2 (55, 1, 56) (by decide +kernel)
theorem ssr_55_2 {Γ : rhG} {R : Nat → Nat → Nat} (h : ShS Γ R) : R 55 2 = 57 := h.2 (55, 2, 57) (by decide +kernel)
theorem ssr_55_3 {Γ : rhG} {R : Nat → Nat → Nat} (h : ShS Γ R) : R 55 3 = 58 := h.2 (55, 3, 58) (by decide +kernel)
theorem ssr_55_4 {Γ : rhG} {R : Nat → Nat → Nat} (h : ShS Γ R) : R 55 4 = 59 := h.2 (55, 4, 59) (by decide +kernel)
theorem ssr_55_5 {Γ : rhG} {R : Nat → Nat → Nat} (h : ShS Γ R) : R 55 5 = 60 := h.2 (55, 5, 60) (by decide +kernel)
theorem ssr_55_6 {Γ : rhG} {R : Nat → Nat → Nat} (h : ShS Γ R) : R 55 6 = 61 := h.2 (55, 6, 61) (by decide +kernel)
theorem ssk_65 {Γ : rhG} {R : Nat → Nat → Nat} (h : ShS Γ R) : Γ.2.2.1 65 = 15 := (h.1 (65, 15, 4) (by decide +kernel)).1
theorem ssl_65 {Γ : rhG} {R : Nat → Nat → Nat} (h : ShS Γ R) : Γ.2.2.2 65 = 4 := (h.1 (65, 15, 4) (by decide +kernel)).2
theorem ssr_55_12 {Γ : rhG} {R : Nat → Nat → Nat} (h : ShS Γ R) : R 55 12 = 65 := h.2 (55, 12, 65) (by decide +kernel)
theorem ssk_67 {Γ : rhG} {R : Nat → Nat → Nat} (h : ShS Γ R) : Γ.2.2.1 67 = 15 := (h.1 (67, 15, 20) (by decide +kernel)).1
theorem ssl_67 {Γ : rhG} {R : Nat → Nat → Nat} (h : ShS Γ R) : Γ.2.2.2 67 = 20 := (h.1 (67, 15, 20) (by decide +kernel)).2
theorem ssr_55_14 {Γ : rhG} {R : Nat → Nat → Nat} (h : ShS Γ R) : R 55 14 = 67 := h.2 (55, 14, 67) (by decide +kernel)
theorem ssk_1 {Γ : rhG} {R : Nat → Nat → Nat} (h : ShS Γ R) : Γ.2.2.1 1 = 12 := (h.1 (1, 12, 0) (by decide +kernel)).1
theorem ssk_47 {Γ : rhG} {R : Nat → Nat → Nat} (h : ShS Γ R) : Γ.2.2.1 47 = 4 := (h.1 (47, 4, 0) (by decide +kernel)).1
theorem ssk_49 {Γ : rhG} {R : Nat → Nat → Nat} (h : ShS Γ R) : Γ.2.2.1 49 = 4 := (h.1 (49, 4, 0) (by decide +kernel)).1
theorem ssk_51 {Γ : rhG} {R : Nat → Nat → Nat} (h : ShS Γ R) : Γ.2.2.1 51 = 4 := (h.1 (51, 4, 0) (by decide +kernel)).1
theorem ssr_1_14 {Γ : rhG} {R : Nat → Nat → Nat} (h : ShS Γ R) : R 1 14 = 55 := h.2 (1, 14, 55) (by decide +kernel)
theorem ssr_1_7 {Γ : rhG} {R : Nat → Nat → Nat} (h : ShS Γ R) : R 1 7 = 47 := h.2 (1, 7, 47) (by decide +kernel)
theorem ssr_1_8 {Γ : rhG} {R : Nat → Nat → Nat} (h : ShS Γ R) : R 1 8 = 49 := h.2 (1, 8, 49) (by decide +kernel)
theorem ssr_1_9 {Γ : rhG} {R : Nat → Nat → Nat} (h : ShS Γ R) : R 1 9 = 51 := h.2 (1, 9, 51) (by decide +kernel)
theorem ssk_33 {Γ : rhG} {R : Nat → Nat → Nat} (h : ShS Γ R) : Γ.2.2.1 33 = 8 := (h.1 (33, 8, 0) (by decide +kernel)).1
theorem ssr_33_2 {Γ : rhG} {R : Nat → Nat → Nat} (h : ShS Γ R) : R 33 2 = 34 := h.2 (33, 2, 34) (by decide +kernel)
theorem ssk_34 {Γ : rhG} {R : Nat → Nat → Nat} (h : ShS Γ R) : Γ.2.2.1 34 = 15 := (h.1 (34, 15, 5) (by decide +kernel)).1
theorem ssl_34 {Γ : rhG} {R : Nat → Nat → Nat} (h : ShS Γ R) : Γ.2.2.2 34 = 5 := (h.1 (34, 15, 5) (by decide +kernel)).2
theorem ssr_33_3 {Γ : rhG} {R : Nat → Nat → Nat} (h : ShS Γ R) : R 33 3 = 35 := h.2 (33, 3, 35) (by decide +kernel)
theorem ssk_35 {Γ : rhG} {R : Nat → Nat → Nat} (h : ShS Γ R) : Γ.2.2.1 35 = 15 := (h.1 (35, 15, 5) (by decide +kernel)).1
theorem ssl_35 {Γ : rhG} {R : Nat → Nat → Nat} (h : ShS Γ R) : Γ.2.2.2 35 = 5 := (h.1 (35, 15, 5) (by decide +kernel)).2
theorem ssr_33_4 {Γ : rhG} {R : Nat → Nat → Nat} (h : ShS Γ R) : R 33 4 = 36 := h.2 (33, 4, 36) (by decide +kernel)
theorem ssk_36 {Γ : rhG} {R : Nat → Nat → Nat} (h : ShS Γ R) : Γ.2.2.1 36 = 15 := (h.1 (36, 15, 5) (by decide +kernel)).1
theorem ssl_36 {Γ : rhG} {R : Nat → Nat → Nat} (h : ShS Γ R) : Γ.2.2.2 36 = 5 := (h.1 (36, 15, 5) (by decide +kernel)).2
theorem ssr_33_6 {Γ : rhG} {R : Nat → Nat → Nat} (h : ShS Γ R) : R 33 6 = 37 := h.2 (33, 6, 37) (by decide +kernel)
theorem ssk_37 {Γ : rhG} {R : Nat → Nat → Nat} (h : ShS Γ R) : Γ.2.2.1 37 = 16 := (h.1 (37, 16, 32) (by decide +kernel)).1
theorem ssl_37 {Γ : rhG} {R : Nat → Nat → Nat} (h : ShS Γ R) : Γ.2.2.2 37 = 32 := (h.1 (37, 16, 32) (by decide +kernel)).2
theorem ssr_33_7 {Γ : rhG} {R : Nat → Nat → Nat} (h : ShS Γ R) : R 33 7 = 38 := h.2 (33, 7, 38) (by decide +kernel)
theorem ssk_38 {Γ : rhG} {R : Nat → Nat → Nat} (h : ShS Γ R) : Γ.2.2.1 38 = 15 := (h.1 (38, 15, 32) (by decide +kernel)).1
theorem ssl_38 {Γ : rhG} {R : Nat → Nat → Nat} (h : ShS Γ R) : Γ.2.2.2 38 = 32 := (h.1 (38, 15, 32) (by decide +kernel)).2
theorem ssr_33_8 {Γ : rhG} {R : Nat → Nat → Nat} (h : ShS Γ R) : R 33 8 = 39 := h.2 (33, 8, 39) (by decide +kernel)
theorem ssk_39 {Γ : rhG} {R : Nat → Nat → Nat} (h : ShS Γ R) : Γ.2.2.1 39 = 15 := (h.1 (39, 15, 32) (by decide +kernel)).1
theorem ssl_39 {Γ : rhG} {R : Nat → Nat → Nat} (h : ShS Γ R) : Γ.2.2.2 39 = 32 := (h.1 (39, 15, 32) (by decide +kernel)).2
theorem sh7_33 {Γ : rhG} {R : Nat → Nat → Nat} (h : ShS Γ R) : Sh7 Γ R 33 := ⟨ssk_33 h, ssr_33_2 h, ssk_34 h, ssl_34 h, ssr_33_3 h, ssk_35 h, ssl_35 h, ssr_33_4 h, ssk_36 h, ssl_36 h, ssr_33_6 h, ssk_37 h, ssl_37 h, ssr_33_7 h, ssk_38 h, ssl_38 h, ssr_33_8 h, ssk_39 h, ssl_39 h⟩
theorem ssr_1_5 {Γ : rhG} {R : Nat → Nat → Nat} (h : ShS Γ R) : R 1 5 = 33 := h.2 (1, 5, 33) (by decide +kernel)
theorem ssr_47_0 {Γ : rhG} {R : Nat → Nat → Nat} (h : ShS Γ R) : R 47 0 = 48 := h.2 (47, 0, 48) (by decide +kernel)
theorem ssk_48 {Γ : rhG} {R : Nat → Nat → Nat} (h : ShS Γ R) : Γ.2.2.1 48 = 15 := (h.1 (48, 15, 300) (by decide +kernel)).1
theorem ssl_48 {Γ : rhG} {R : Nat → Nat → Nat} (h : ShS Γ R) : Γ.2.2.2 48 = 300 := (h.1 (48, 15, 300) (by decide +kernel)).2
theorem sh3_47 {Γ : rhG} {R : Nat → Nat → Nat} (h : ShS Γ R) : Sh3 Γ R 47 48 300 := ⟨ssk_47 h, ssr_47_0 h, ssk_48 h, ssl_48 h⟩
theorem ssr_49_0 {Γ : rhG} {R : Nat → Nat → Nat} (h : ShS Γ R) : R 49 0 = 50 := h.2 (49, 0, 50) (by decide +kernel)
theorem ssk_50 {Γ : rhG} {R : Nat → Nat → Nat} (h : ShS Γ R) : Γ.2.2.1 50 = 15 := (h.1 (50, 15, 12) (by decide +kernel)).1
theorem ssl_50 {Γ : rhG} {R : Nat → Nat → Nat} (h : ShS Γ R) : Γ.2.2.2 50 = 12 := (h.1 (50, 15, 12) (by decide +kernel)).2
theorem sh3_49 {Γ : rhG} {R : Nat → Nat → Nat} (h : ShS Γ R) : Sh3 Γ R 49 50 12 := ⟨ssk_49 h, ssr_49_0 h, ssk_50 h, ssl_50 h⟩
theorem ssk_53 {Γ : rhG} {R : Nat → Nat → Nat} (h : ShS Γ R) : Γ.2.2.1 53 = 16 := (h.1 (53, 16, 3) (by decide +kernel)).1
theorem ssl_53 {Γ : rhG} {R : Nat → Nat → Nat} (h : ShS Γ R) : Γ.2.2.2 53 = 3 := (h.1 (53, 16, 3) (by decide +kernel)).2
theorem ssr_1_12 {Γ : rhG} {R : Nat → Nat → Nat} (h : ShS Γ R) : R 1 12 = 53 := h.2 (1, 12, 53) (by decide +kernel)
theorem ssr_1_2 {Γ : rhG} {R : Nat → Nat → Nat} (h : ShS Γ R) : R 1 2 = 3 := h.2 (1, 2, 3) (by decide +kernel)
theorem ssr_1_0 {Γ : rhG} {R : Nat → Nat → Nat} (h : ShS Γ R) : R 1 0 = 2 := h.2 (1, 0, 2) (by decide +kernel)
theorem ssk_40 {Γ : rhG} {R : Nat → Nat → Nat} (h : ShS Γ R) : Γ.2.2.1 40 = 8 := (h.1 (40, 8, 0) (by decide +kernel)).1
theorem ssr_40_2 {Γ : rhG} {R : Nat → Nat → Nat} (h : ShS Γ R) : R 40 2 = 41 := h.2 (40, 2, 41) (by decide +kernel)
theorem ssk_41 {Γ : rhG} {R : Nat → Nat → Nat} (h : ShS Γ R) : Γ.2.2.1 41 = 15 := (h.1 (41, 15, 5) (by decide +kernel)).1
theorem ssl_41 {Γ : rhG} {R : Nat → Nat → Nat} (h : ShS Γ R) : Γ.2.2.2 41 = 5 := (h.1 (41, 15, 5) (by decide +kernel)).2
theorem ssr_40_3 {Γ : rhG} {R : Nat → Nat → Nat} (h : ShS Γ R) : R 40 3 = 42 := h.2 (40, 3, 42) (by decide +kernel)
theorem ssk_42 {Γ : rhG} {R : Nat → Nat → Nat} (h : ShS Γ R) : Γ.2.2.1 42 = 15 := (h.1 (42, 15, 5) (by decide +kernel)).1
theorem ssl_42 {Γ : rhG} {R : Nat → Nat → Nat} (h : ShS Γ R) : Γ.2.2.2 42 = 5 := (h.1 (42, 15, 5) (by decide +kernel)).2
theorem ssr_40_4 {Γ : rhG} {R : Nat → Nat → Nat} (h : ShS Γ R) : R 40 4 = 43 := h.2 (40, 4, 43) (by decide +kernel)
theorem ssk_43 {Γ : rhG} {R : Nat → Nat → Nat} (h : ShS Γ R) : Γ.2.2.1 43 = 15 := (h.1 (43, 15, 5) (by decide +kernel)).1
theorem ssl_43 {Γ : rhG} {R : Nat → Nat → Nat} (h : ShS Γ R) : Γ.2.2.2 43 = 5 := (h.1 (43, 15, 5) (by decide +kernel)).2
theorem ssr_40_6 {Γ : rhG} {R : Nat → Nat → Nat} (h : ShS Γ R) : R 40 6 = 44 := h.2 (40, 6, 44) (by decide +kernel)
theorem ssk_44 {Γ : rhG} {R : Nat → Nat → Nat} (h : ShS Γ R) : Γ.2.2.1 44 = 16 := (h.1 (44, 16, 32) (by decide +kernel)).1
theorem ssl_44 {Γ : rhG} {R : Nat → Nat → Nat} (h : ShS Γ R) : Γ.2.2.2 44 = 32 := (h.1 (44, 16, 32) (by decide +kernel)).2
theorem ssr_40_7 {Γ : rhG} {R : Nat → Nat → Nat} (h : ShS Γ R) : R 40 7 = 45 := h.2 (40, 7, 45) (by decide +kernel)
theorem ssk_45 {Γ : rhG} {R : Nat → Nat → Nat} (h : ShS Γ R) : Γ.2.2.1 45 = 15 := (h.1 (45, 15, 32) (by decide +kernel)).1
theorem ssl_45 {Γ : rhG} {R : Nat → Nat → Nat} (h : ShS Γ R) : Γ.2.2.2 45 = 32 := (h.1 (45, 15, 32) (by decide +kernel)).2
theorem ssr_40_8 {Γ : rhG} {R : Nat → Nat → Nat} (h : ShS Γ R) : R 40 8 = 46 := h.2 (40, 8, 46) (by decide +kernel)
theorem ssk_46 {Γ : rhG} {R : Nat → Nat → Nat} (h : ShS Γ R) : Γ.2.2.1 46 = 15 := (h.1 (46, 15, 32) (by decide +kernel)).1
theorem ssl_46 {Γ : rhG} {R : Nat → Nat → Nat} (h : ShS Γ R) : Γ.2.2.2 46 = 32 := (h.1 (46, 15, 32) (by decide +kernel)).2
theorem sh7_40 {Γ : rhG} {R : Nat → Nat → Nat} (h : ShS Γ R) : Sh7 Γ R 40 := ⟨ssk_40 h, ssr_40_2 h, ssk_41 h, ssl_41 h, ssr_40_3 h, ssk_42 h, ssl_42 h, ssr_40_4 h, ssk_43 h, ssl_43 h, ssr_40_6 h, ssk_44 h, ssl_44 h, ssr_40_7 h, ssk_45 h, ssl_45 h, ssr_40_8 h, ssk_46 h, ssl_46 h⟩
theorem ssr_1_6 {Γ : rhG} {R : Nat → Nat → Nat} (h : ShS Γ R) : R 1 6 = 40 := h.2 (1, 6, 40) (by decide +kernel)
theorem ssk_102 {Γ : rhG} {R : Nat → Nat → Nat} (h : ShS Γ R) : Γ.2.2.1 102 = 13 := (h.1 (102, 13, 0) (by decide +kernel)).1
theorem ssk_106 {Γ : rhG} {R : Nat → Nat → Nat} (h : ShS Γ R) : Γ.2.2.1 106 = 15 := (h.1 (106, 15, 2) (by decide +kernel)).1
theorem ssl_106 {Γ : rhG} {R : Nat → Nat → Nat} (h : ShS Γ R) : Γ.2.2.2 106 = 2 := (h.1 (106, 15, 2) (by decide +kernel)).2
theorem ssr_102_12 {Γ : rhG} {R : Nat → Nat → Nat} (h : ShS Γ R) : R 102 12 = 106 := h.2 (102, 12, 106) (by decide +kernel)
theorem ssk_105 {Γ : rhG} {R : Nat → Nat → Nat} (h : ShS Γ R) : Γ.2.2.1 105 = 15 := (h.1 (105, 15, 2) (by decide +kernel)).1
theorem ssl_105 {Γ : rhG} {R : Nat → Nat → Nat} (h : ShS Γ R) : Γ.2.2.2 105 = 2 := (h.1 (105, 15, 2) (by decide +kernel)).2
theorem ssr_102_11 {Γ : rhG} {R : Nat → Nat → Nat} (h : ShS Γ R) : R 102 11 = 105 := h.2 (102, 11, 105) (by decide +kernel)
theorem ssk_108 {Γ : rhG} {R : Nat → Nat → Nat} (h : ShS Γ R) : Γ.2.2.1 108 = 15 := (h.1 (108, 15, 2) (by decide +kernel)).1
theorem ssl_108 {Γ : rhG} {R : Nat → Nat → Nat} (h : ShS Γ R) : Γ.2.2.2 108 = 2 := (h.1 (108, 15, 2) (by decide +kernel)).2
theorem ssr_102_14 {Γ : rhG} {R : Nat → Nat → Nat} (h : ShS Γ R) : R 102 14 = 108 := h.2 (102, 14, 108) (by decide +kernel)
theorem ssk_104 {Γ : rhG} {R : Nat → Nat → Nat} (h : ShS Γ R) : Γ.2.2.1 104 = 14 := (h.1 (104, 14, 1600) (by decide +kernel)).1
theorem ssl_104 {Γ : rhG} {R : Nat → Nat → Nat} (h : ShS Γ R) : Γ.2.2.2 104 = 1600 := (h.1 (104, 14, 1600) (by decide +kernel)).2
theorem ssr_102_1 {Γ : rhG} {R : Nat → Nat → Nat} (h : ShS Γ R) : R 102 1 = 104 := h.2 (102, 1, 104) (by decide +kernel)
theorem ssk_129 {Γ : rhG} {R : Nat → Nat → Nat} (h : ShS Γ R) : Γ.2.2.1 129 = 15 := (h.1 (129, 15, 6) (by decide +kernel)).1
theorem ssl_129 {Γ : rhG} {R : Nat → Nat → Nat} (h : ShS Γ R) : Γ.2.2.2 129 = 6 := (h.1 (129, 15, 6) (by decide +kernel)).2
theorem ssr_102_40 {Γ : rhG} {R : Nat → Nat → Nat} (h : ShS Γ R) : R 102 40 = 129 := h.2 (102, 40, 129) (by decide +kernel)
theorem ssk_113 {Γ : rhG} {R : Nat → Nat → Nat} (h : ShS Γ R) : Γ.2.2.1 113 = 15 := (h.1 (113, 15, 16) (by decide +kernel)).1
theorem ssk_128 {Γ : rhG} {R : Nat → Nat → Nat} (h : ShS Γ R) : Γ.2.2.1 128 = 15 := (h.1 (128, 15, 8) (by decide +kernel)).1
theorem ssl_113 {Γ : rhG} {R : Nat → Nat → Nat} (h : ShS Γ R) : Γ.2.2.2 113 = 16 := (h.1 (113, 15, 16) (by decide +kernel)).2
theorem ssl_128 {Γ : rhG} {R : Nat → Nat → Nat} (h : ShS Γ R) : Γ.2.2.2 128 = 8 := (h.1 (128, 15, 8) (by decide +kernel)).2
theorem ssr_102_19 {Γ : rhG} {R : Nat → Nat → Nat} (h : ShS Γ R) : R 102 19 = 113 := h.2 (102, 19, 113) (by decide +kernel)
theorem ssr_102_39 {Γ : rhG} {R : Nat → Nat → Nat} (h : ShS Γ R) : R 102 39 = 128 := h.2 (102, 39, 128) (by decide +kernel)
theorem ssk_112 {Γ : rhG} {R : Nat → Nat → Nat} (h : ShS Γ R) : Γ.2.2.1 112 = 15 := (h.1 (112, 15, 10) (by decide +kernel)).1
theorem ssl_112 {Γ : rhG} {R : Nat → Nat → Nat} (h : ShS Γ R) : Γ.2.2.2 112 = 10 := (h.1 (112, 15, 10) (by decide +kernel)).2
theorem ssr_102_18 {Γ : rhG} {R : Nat → Nat → Nat} (h : ShS Γ R) : R 102 18 = 112 := h.2 (102, 18, 112) (by decide +kernel)
theorem ssk_114 {Γ : rhG} {R : Nat → Nat → Nat} (h : ShS Γ R) : Γ.2.2.1 114 = 15 := (h.1 (114, 15, 16) (by decide +kernel)).1
theorem ssl_114 {Γ : rhG} {R : Nat → Nat → Nat} (h : ShS Γ R) : Γ.2.2.2 114 = 16 := (h.1 (114, 15, 16) (by decide +kernel)).2
theorem ssk_124 {Γ : rhG} {R : Nat → Nat → Nat} (h : ShS Γ R) : Γ.2.2.1 124 = 15 := (h.1 (124, 15, 1000) (by decide +kernel)).1
theorem ssl_124 {Γ : rhG} {R : Nat → Nat → Nat} (h : ShS Γ R) : Γ.2.2.2 124 = 1000 := (h.1 (124, 15, 1000) (by decide +kernel)).2
theorem ssr_102_30 {Γ : rhG} {R : Nat → Nat → Nat} (h : ShS Γ R) : R 102 30 = 124 := h.2 (102, 30, 124) (by decide +kernel)
theorem ssk_123 {Γ : rhG} {R : Nat → Nat → Nat} (h : ShS Γ R) : Γ.2.2.1 123 = 15 := (h.1 (123, 15, 1000) (by decide +kernel)).1
theorem ssl_123 {Γ : rhG} {R : Nat → Nat → Nat} (h : ShS Γ R) : Γ.2.2.2 123 = 1000 := (h.1 (123, 15, 1000) (by decide +kernel)).2
theorem ssr_102_20 {Γ : rhG} {R : Nat → Nat → Nat} (h : ShS Γ R) : R 102 20 = 114 := h.2 (102, 20, 114) (by decide +kernel)
theorem ssr_102_29 {Γ : rhG} {R : Nat → Nat → Nat} (h : ShS Γ R) : R 102 29 = 123 := h.2 (102, 29, 123) (by decide +kernel)
theorem ssk_127 {Γ : rhG} {R : Nat → Nat → Nat} (h : ShS Γ R) : Γ.2.2.1 127 = 15 := (h.1 (127, 15, 70) (by decide +kernel)).1
theorem ssl_127 {Γ : rhG} {R : Nat → Nat → Nat} (h : ShS Γ R) : Γ.2.2.2 127 = 70 := (h.1 (127, 15, 70) (by decide +kernel)).2
theorem ssk_111 {Γ : rhG} {R : Nat → Nat → Nat} (h : ShS Γ R) : Γ.2.2.1 111 = 15 := (h.1 (111, 15, 2) (by decide +kernel)).1
theorem ssl_111 {Γ : rhG} {R : Nat → Nat → Nat} (h : ShS Γ R) : Γ.2.2.2 111 = 2 := (h.1 (111, 15, 2) (by decide +kernel)).2
theorem ssr_102_17 {Γ : rhG} {R : Nat → Nat → Nat} (h : ShS Γ R) : R 102 17 = 111 := h.2 (102, 17, 111) (by decide +kernel)
theorem ssr_102_33 {Γ : rhG} {R : Nat → Nat → Nat} (h : ShS Γ R) : R 102 33 = 127 := h.2 (102, 33, 127) (by decide +kernel)
theorem ssk_119 {Γ : rhG} {R : Nat → Nat → Nat} (h : ShS Γ R) : Γ.2.2.1 119 = 17 := (h.1 (119, 17, 2) (by decide +kernel)).1
theorem ssl_119 {Γ : rhG} {R : Nat → Nat → Nat} (h : ShS Γ R) : Γ.2.2.2 119 = 2 := (h.1 (119, 17, 2) (by decide +kernel)).2
theorem ssr_102_25 {Γ : rhG} {R : Nat → Nat → Nat} (h : ShS Γ R) : R 102 25 = 119 := h.2 (102, 25, 119) (by decide +kernel)
theorem ssk_131 {Γ : rhG} {R : Nat → Nat → Nat} (h : ShS Γ R) : Γ.2.2.1 131 = 15 := (h.1 (131, 15, 8) (by decide +kernel)).1
theorem ssl_131 {Γ : rhG} {R : Nat → Nat → Nat} (h : ShS Γ R) : Γ.2.2.2 131 = 8 := (h.1 (131, 15, 8) (by decide +kernel)).2
theorem ssr_102_42 {Γ : rhG} {R : Nat → Nat → Nat} (h : ShS Γ R) : R 102 42 = 131 := h.2 (102, 42, 131) (by decide +kernel)
theorem ssk_132 {Γ : rhG} {R : Nat → Nat → Nat} (h : ShS Γ R) : Γ.2.2.1 132 = 15 := (h.1 (132, 15, 6) (by decide +kernel)).1
theorem ssl_132 {Γ : rhG} {R : Nat → Nat → Nat} (h : ShS Γ R) : Γ.2.2.2 132 = 6 := (h.1 (132, 15, 6) (by decide +kernel)).2
theorem ssr_102_43 {Γ : rhG} {R : Nat → Nat → Nat} (h : ShS Γ R) : R 102 43 = 132 := h.2 (102, 43, 132) (by decide +kernel)
theorem ssk_161 {Γ : rhG} {R : Nat → Nat → Nat} (h : ShS Γ R) : Γ.2.2.1 161 = 15 := (h.1 (161, 15, 24) (by decide +kernel)).1
theorem ssl_161 {Γ : rhG} {R : Nat → Nat → Nat} (h : ShS Γ R) : Γ.2.2.2 161 = 24 := (h.1 (161, 15, 24) (by decide +kernel)).2
theorem ssr_102_86 {Γ : rhG} {R : Nat → Nat → Nat} (h : ShS Γ R) : R 102 86 = 161 := h.2 (102, 86, 161) (by decide +kernel)
theorem ssk_162 {Γ : rhG} {R : Nat → Nat → Nat} (h : ShS Γ R) : Γ.2.2.1 162 = 15 := (h.1 (162, 15, 18) (by decide +kernel)).1
theorem ssl_162 {Γ : rhG} {R : Nat → Nat → Nat} (h : ShS Γ R) : Γ.2.2.2 162 = 18 := (h.1 (162, 15, 18) (by decide +kernel)).2
theorem ssr_102_87 {Γ : rhG} {R : Nat → Nat → Nat} (h : ShS Γ R) : R 102 87 = 162 := h.2 (102, 87, 162) (by decide +kernel)
theorem ssk_133 {Γ : rhG} {R : Nat → Nat → Nat} (h : ShS Γ R) : Γ.2.2.1 133 = 15 := (h.1 (133, 15, 300) (by decide +kernel)).1
theorem ssk_134 {Γ : rhG} {R : Nat → Nat → Nat} (h : ShS Γ R) : Γ.2.2.1 134 = 15 := (h.1 (134, 15, 300) (by decide +kernel)).1
theorem ssk_163 {Γ : rhG} {R : Nat → Nat → Nat} (h : ShS Γ R) : Γ.2.2.1 163 = 15 := (h.1 (163, 15, 900) (by decide +kernel)).1
theorem ssk_164 {Γ : rhG} {R : Nat → Nat → Nat} (h : ShS Γ R) : Γ.2.2.1 164 = 15 := (h.1 (164, 15, 900) (by decide +kernel)).1
theorem ssl_133 {Γ : rhG} {R : Nat → Nat → Nat} (h : ShS Γ R) : Γ.2.2.2 133 = 300 := (h.1 (133, 15, 300) (by decide +kernel)).2
theorem ssl_134 {Γ : rhG} {R : Nat → Nat → Nat} (h : ShS Γ R) : Γ.2.2.2 134 = 300 := (h.1 (134, 15, 300) (by decide +kernel)).2
theorem ssl_163 {Γ : rhG} {R : Nat → Nat → Nat} (h : ShS Γ R) : Γ.2.2.2 163 = 900 := (h.1 (163, 15, 900) (by decide +kernel)).2
theorem ssl_164 {Γ : rhG} {R : Nat → Nat → Nat} (h : ShS Γ R) : Γ.2.2.2 164 = 900 := (h.1 (164, 15, 900) (by decide +kernel)).2
theorem ssr_102_46 {Γ : rhG} {R : Nat → Nat → Nat} (h : ShS Γ R) : R 102 46 = 133 := h.2 (102, 46, 133) (by decide +kernel)
theorem ssr_102_47 {Γ : rhG} {R : Nat → Nat → Nat} (h : ShS Γ R) : R 102 47 = 134 := h.2 (102, 47, 134) (by decide +kernel)
theorem ssr_102_88 {Γ : rhG} {R : Nat → Nat → Nat} (h : ShS Γ R) : R 102 88 = 163 := h.2 (102, 88, 163) (by decide +kernel)
theorem ssr_102_89 {Γ : rhG} {R : Nat → Nat → Nat} (h : ShS Γ R) : R 102 89 = 164 := h.2 (102, 89, 164) (by decide +kernel)
theorem ssk_159 {Γ : rhG} {R : Nat → Nat → Nat} (h : ShS Γ R) : Γ.2.2.1 159 = 15 := (h.1 (159, 15, 3) (by decide +kernel)).1
theorem ssk_160 {Γ : rhG} {R : Nat → Nat → Nat} (h : ShS Γ R) : Γ.2.2.1 160 = 15 := (h.1 (160, 15, 3) (by decide +kernel)).1
theorem ssl_159 {Γ : rhG} {R : Nat → Nat → Nat} (h : ShS Γ R) : Γ.2.2.2 159 = 3 := (h.1 (159, 15, 3) (by decide +kernel)).2
theorem ssl_160 {Γ : rhG} {R : Nat → Nat → Nat} (h : ShS Γ R) : Γ.2.2.2 160 = 3 := (h.1 (160, 15, 3) (by decide +kernel)).2
theorem ssr_102_84 {Γ : rhG} {R : Nat → Nat → Nat} (h : ShS Γ R) : R 102 84 = 159 := h.2 (102, 84, 159) (by decide +kernel)
theorem ssr_102_85 {Γ : rhG} {R : Nat → Nat → Nat} (h : ShS Γ R) : R 102 85 = 160 := h.2 (102, 85, 160) (by decide +kernel)
theorem ssk_115 {Γ : rhG} {R : Nat → Nat → Nat} (h : ShS Γ R) : Γ.2.2.1 115 = 15 := (h.1 (115, 15, 16) (by decide +kernel)).1
theorem ssl_115 {Γ : rhG} {R : Nat → Nat → Nat} (h : ShS Γ R) : Γ.2.2.2 115 = 16 := (h.1 (115, 15, 16) (by decide +kernel)).2
theorem ssr_102_21 {Γ : rhG} {R : Nat → Nat → Nat} (h : ShS Γ R) : R 102 21 = 115 := h.2 (102, 21, 115) (by decide +kernel)
theorem ssk_139 {Γ : rhG} {R : Nat → Nat → Nat} (h : ShS Γ R) : Γ.2.2.1 139 = 15 := (h.1 (139, 15, 246960) (by decide +kernel)).1
theorem ssl_139 {Γ : rhG} {R : Nat → Nat → Nat} (h : ShS Γ R) : Γ.2.2.2 139 = 246960 := (h.1 (139, 15, 246960) (by decide +kernel)).2
theorem ssr_102_56 {Γ : rhG} {R : Nat → Nat → Nat} (h : ShS Γ R) : R 102 56 = 139 := h.2 (102, 56, 139) (by decide +kernel)
theorem ssk_138 {Γ : rhG} {R : Nat → Nat → Nat} (h : ShS Γ R) : Γ.2.2.1 138 = 15 := (h.1 (138, 15, 246960) (by decide +kernel)).1
theorem ssk_141 {Γ : rhG} {R : Nat → Nat → Nat} (h : ShS Γ R) : Γ.2.2.1 141 = 15 := (h.1 (141, 15, 61000) (by decide +kernel)).1
theorem ssl_138 {Γ : rhG} {R : Nat → Nat → Nat} (h : ShS Γ R) : Γ.2.2.2 138 = 246960 := (h.1 (138, 15, 246960) (by decide +kernel)).2
theorem ssl_141 {Γ : rhG} {R : Nat → Nat → Nat} (h : ShS Γ R) : Γ.2.2.2 141 = 61000 := (h.1 (141, 15, 61000) (by decide +kernel)).2
theorem ssr_102_55 {Γ : rhG} {R : Nat → Nat → Nat} (h : ShS Γ R) : R 102 55 = 138 := h.2 (102, 55, 138) (by decide +kernel)
theorem ssr_102_58 {Γ : rhG} {R : Nat → Nat → Nat} (h : ShS Γ R) : R 102 58 = 141 := h.2 (102, 58, 141) (by decide +kernel)
theorem ssk_125 {Γ : rhG} {R : Nat → Nat → Nat} (h : ShS Γ R) : Γ.2.2.1 125 = 15 := (h.1 (125, 15, 90) (by decide +kernel)).1
theorem ssl_125 {Γ : rhG} {R : Nat → Nat → Nat} (h : ShS Γ R) : Γ.2.2.2 125 = 90 := (h.1 (125, 15, 90) (by decide +kernel)).2
theorem ssr_102_31 {Γ : rhG} {R : Nat → Nat → Nat} (h : ShS Γ R) : R 102 31 = 125 := h.2 (102, 31, 125) (by decide +kernel)
theorem ssk_126 {Γ : rhG} {R : Nat → Nat → Nat} (h : ShS Γ R) : Γ.2.2.1 126 = 15 := (h.1 (126, 15, 90) (by decide +kernel)).1
theorem ssl_126 {Γ : rhG} {R : Nat → Nat → Nat} (h : ShS Γ R) : Γ.2.2.2 126 = 90 := (h.1 (126, 15, 90) (by decide +kernel)).2
theorem ssr_102_32 {Γ : rhG} {R : Nat → Nat → Nat} (h : ShS Γ R) : R 102 32 = 126 := h.2 (102, 32, 126) (by decide +kernel)
theorem ssk_158 {Γ : rhG} {R : Nat → Nat → Nat} (h : ShS Γ R) : Γ.2.2.1 158 = 17 := (h.1 (158, 17, 20) (by decide +kernel)).1
theorem ssl_158 {Γ : rhG} {R : Nat → Nat → Nat} (h : ShS Γ R) : Γ.2.2.2 158 = 20 := (h.1 (158, 17, 20) (by decide +kernel)).2
theorem ssr_102_81 {Γ : rhG} {R : Nat → Nat → Nat} (h : ShS Γ R) : R 102 81 = 158 := h.2 (102, 81, 158) (by decide +kernel)
theorem ssk_150 {Γ : rhG} {R : Nat → Nat → Nat} (h : ShS Γ R) : Γ.2.2.1 150 = 15 := (h.1 (150, 15, 20) (by decide +kernel)).1
theorem ssk_151 {Γ : rhG} {R : Nat → Nat → Nat} (h : ShS Γ R) : Γ.2.2.1 151 = 15 := (h.1 (151, 15, 20) (by decide +kernel)).1
theorem ssl_150 {Γ : rhG} {R : Nat → Nat → Nat} (h : ShS Γ R) : Γ.2.2.2 150 = 20 := (h.1 (150, 15, 20) (by decide +kernel)).2
theorem ssl_151 {Γ : rhG} {R : Nat → Nat → Nat} (h : ShS Γ R) : Γ.2.2.2 151 = 20 := (h.1 (151, 15, 20) (by decide +kernel)).2
theorem ssr_102_73 {Γ : rhG} {R : Nat → Nat → Nat} (h : ShS Γ R) : R 102 73 = 150 := h.2 (102, 73, 150) (by decide +kernel)
theorem ssr_102_74 {Γ : rhG} {R : Nat → Nat → Nat} (h : ShS Γ R) : R 102 74 = 151 := h.2 (102, 74, 151) (by decide +kernel)
theorem ssk_149 {Γ : rhG} {R : Nat → Nat → Nat} (h : ShS Γ R) : Γ.2.2.1 149 = 15 := (h.1 (149, 15, 20) (by decide +kernel)).1
theorem ssk_152 {Γ : rhG} {R : Nat → Nat → Nat} (h : ShS Γ R) : Γ.2.2.1 152 = 15 := (h.1 (152, 15, 20) (by decide +kernel)).1
theorem ssk_153 {Γ : rhG} {R : Nat → Nat → Nat} (h : ShS Γ R) : Γ.2.2.1 153 = 15 := (h.1 (153, 15, 20) (by decide +kernel)).1
theorem ssl_149 {Γ : rhG} {R : Nat → Nat → Nat} (h : ShS Γ R) : Γ.2.2.2 149 = 20 := (h.1 (149, 15, 20) (by decide +kernel)).2
theorem ssl_152 {Γ : rhG} {R : Nat → Nat → Nat} (h : ShS Γ R) : Γ.2.2.2 152 = 20 := (h.1 (152, 15, 20) (by decide +kernel)).2
theorem ssl_153 {Γ : rhG} {R : Nat → Nat → Nat} (h : ShS Γ R) : Γ.2.2.2 153 = 20 := (h.1 (153, 15, 20) (by decide +kernel)).2
theorem ssr_102_72 {Γ : rhG} {R : Nat → Nat → Nat} (h : ShS Γ R) : R 102 72 = 149 := h.2 (102, 72, 149) (by decide +kernel)
theorem ssr_102_75 {Γ : rhG} {R : Nat → Nat → Nat} (h : ShS Γ R) : R 102 75 = 152 := h.2 (102, 75, 152) (by decide +kernel)
theorem ssr_102_76 {Γ : rhG} {R : Nat → Nat → Nat} (h : ShS Γ R) : R 102 76 = 153 := h.2 (102, 76, 153) (by decide +kernel)
theorem ssk_155 {Γ : rhG} {R : Nat → Nat → Nat} (h : ShS Γ R) : Γ.2.2.1 155 = 15 := (h.1 (155, 15, 32) (by decide +kernel)).1
theorem ssl_155 {Γ : rhG} {R : Nat → Nat → Nat} (h : ShS Γ R) : Γ.2.2.2 155 = 32 := (h.1 (155, 15, 32) (by decide +kernel)).2
theorem ssr_102_78 {Γ : rhG} {R : Nat → Nat → Nat} (h : ShS Γ R) : R 102 78 = 155 := h.2 (102, 78, 155) (by decide +kernel)
theorem ssk_156 {Γ : rhG} {R : Nat → Nat → Nat} (h : ShS Γ R) : Γ.2.2.1 156 = 15 := (h.1 (156, 15, 24) (by decide +kernel)).1
theorem ssl_156 {Γ : rhG} {R : Nat → Nat → Nat} (h : ShS Γ R) : Γ.2.2.2 156 = 24 := (h.1 (156, 15, 24) (by decide +kernel)).2
theorem ssr_102_79 {Γ : rhG} {R : Nat → Nat → Nat} (h : ShS Γ R) : R 102 79 = 156 := h.2 (102, 79, 156) (by decide +kernel)
theorem ssk_154 {Γ : rhG} {R : Nat → Nat → Nat} (h : ShS Γ R) : Γ.2.2.1 154 = 15 := (h.1 (154, 15, 8) (by decide +kernel)).1
theorem ssl_154 {Γ : rhG} {R : Nat → Nat → Nat} (h : ShS Γ R) : Γ.2.2.2 154 = 8 := (h.1 (154, 15, 8) (by decide +kernel)).2
theorem ssr_102_77 {Γ : rhG} {R : Nat → Nat → Nat} (h : ShS Γ R) : R 102 77 = 154 := h.2 (102, 77, 154) (by decide +kernel)
theorem ssk_130 {Γ : rhG} {R : Nat → Nat → Nat} (h : ShS Γ R) : Γ.2.2.1 130 = 15 := (h.1 (130, 15, 8) (by decide +kernel)).1
theorem ssl_130 {Γ : rhG} {R : Nat → Nat → Nat} (h : ShS Γ R) : Γ.2.2.2 130 = 8 := (h.1 (130, 15, 8) (by decide +kernel)).2
theorem ssr_102_41 {Γ : rhG} {R : Nat → Nat → Nat} (h : ShS Γ R) : R 102 41 = 130 := h.2 (102, 41, 130) (by decide +kernel)
theorem ssk_109 {Γ : rhG} {R : Nat → Nat → Nat} (h : ShS Γ R) : Γ.2.2.1 109 = 15 := (h.1 (109, 15, 2) (by decide +kernel)).1
theorem ssk_110 {Γ : rhG} {R : Nat → Nat → Nat} (h : ShS Γ R) : Γ.2.2.1 110 = 15 := (h.1 (110, 15, 2) (by decide +kernel)).1
theorem ssl_109 {Γ : rhG} {R : Nat → Nat → Nat} (h : ShS Γ R) : Γ.2.2.2 109 = 2 := (h.1 (109, 15, 2) (by decide +kernel)).2
theorem ssl_110 {Γ : rhG} {R : Nat → Nat → Nat} (h : ShS Γ R) : Γ.2.2.2 110 = 2 := (h.1 (110, 15, 2) (by decide +kernel)).2
theorem ssr_102_15 {Γ : rhG} {R : Nat → Nat → Nat} (h : ShS Γ R) : R 102 15 = 109 := h.2 (102, 15, 109) (by decide +kernel)
theorem ssr_102_16 {Γ : rhG} {R : Nat → Nat → Nat} (h : ShS Γ R) : R 102 16 = 110 := h.2 (102, 16, 110) (by decide +kernel)
theorem ssk_157 {Γ : rhG} {R : Nat → Nat → Nat} (h : ShS Γ R) : Γ.2.2.1 157 = 15 := (h.1 (157, 15, 4) (by decide +kernel)).1
theorem ssl_157 {Γ : rhG} {R : Nat → Nat → Nat} (h : ShS Γ R) : Γ.2.2.2 157 = 4 := (h.1 (157, 15, 4) (by decide +kernel)).2
theorem ssr_102_80 {Γ : rhG} {R : Nat → Nat → Nat} (h : ShS Γ R) : R 102 80 = 157 := h.2 (102, 80, 157) (by decide +kernel)
theorem ssk_116 {Γ : rhG} {R : Nat → Nat → Nat} (h : ShS Γ R) : Γ.2.2.1 116 = 15 := (h.1 (116, 15, 128) (by decide +kernel)).1
theorem ssk_120 {Γ : rhG} {R : Nat → Nat → Nat} (h : ShS Γ R) : Γ.2.2.1 120 = 17 := (h.1 (120, 17, 128) (by decide +kernel)).1
theorem ssl_116 {Γ : rhG} {R : Nat → Nat → Nat} (h : ShS Γ R) : Γ.2.2.2 116 = 128 := (h.1 (116, 15, 128) (by decide +kernel)).2
theorem ssl_120 {Γ : rhG} {R : Nat → Nat → Nat} (h : ShS Γ R) : Γ.2.2.2 120 = 128 := (h.1 (120, 17, 128) (by decide +kernel)).2
theorem ssr_102_22 {Γ : rhG} {R : Nat → Nat → Nat} (h : ShS Γ R) : R 102 22 = 116 := h.2 (102, 22, 116) (by decide +kernel)
theorem ssr_102_26 {Γ : rhG} {R : Nat → Nat → Nat} (h : ShS Γ R) : R 102 26 = 120 := h.2 (102, 26, 120) (by decide +kernel)
theorem ssk_107 {Γ : rhG} {R : Nat → Nat → Nat} (h : ShS Γ R) : Γ.2.2.1 107 = 15 := (h.1 (107, 15, 2) (by decide +kernel)).1
theorem ssk_117 {Γ : rhG} {R : Nat → Nat → Nat} (h : ShS Γ R) : Γ.2.2.1 117 = 17 := (h.1 (117, 17, 2) (by decide +kernel)).1
theorem ssk_118 {Γ : rhG} {R : Nat → Nat → Nat} (h : ShS Γ R) : Γ.2.2.1 118 = 17 := (h.1 (118, 17, 2) (by decide +kernel)).1
theorem ssl_107 {Γ : rhG} {R : Nat → Nat → Nat} (h : ShS Γ R) : Γ.2.2.2 107 = 2 := (h.1 (107, 15, 2) (by decide +kernel)).2
theorem ssl_117 {Γ : rhG} {R : Nat → Nat → Nat} (h : ShS Γ R) : Γ.2.2.2 117 = 2 := (h.1 (117, 17, 2) (by decide +kernel)).2
theorem ssl_118 {Γ : rhG} {R : Nat → Nat → Nat} (h : ShS Γ R) : Γ.2.2.2 118 = 2 := (h.1 (118, 17, 2) (by decide +kernel)).2
theorem ssr_102_13 {Γ : rhG} {R : Nat → Nat → Nat} (h : ShS Γ R) : R 102 13 = 107 := h.2 (102, 13, 107) (by decide +kernel)
theorem ssr_102_23 {Γ : rhG} {R : Nat → Nat → Nat} (h : ShS Γ R) : R 102 23 = 117 := h.2 (102, 23, 117) (by decide +kernel)
theorem ssr_102_24 {Γ : rhG} {R : Nat → Nat → Nat} (h : ShS Γ R) : R 102 24 = 118 := h.2 (102, 24, 118) (by decide +kernel)
theorem ssk_122 {Γ : rhG} {R : Nat → Nat → Nat} (h : ShS Γ R) : Γ.2.2.1 122 = 16 := (h.1 (122, 16, 16) (by decide +kernel)).1
theorem ssl_122 {Γ : rhG} {R : Nat → Nat → Nat} (h : ShS Γ R) : Γ.2.2.2 122 = 16 := (h.1 (122, 16, 16) (by decide +kernel)).2
theorem ssr_102_28 {Γ : rhG} {R : Nat → Nat → Nat} (h : ShS Γ R) : R 102 28 = 122 := h.2 (102, 28, 122) (by decide +kernel)
theorem ssk_103 {Γ : rhG} {R : Nat → Nat → Nat} (h : ShS Γ R) : Γ.2.2.1 103 = 14 := (h.1 (103, 14, 1620) (by decide +kernel)).1
theorem ssl_103 {Γ : rhG} {R : Nat → Nat → Nat} (h : ShS Γ R) : Γ.2.2.2 103 = 1620 := (h.1 (103, 14, 1620) (by decide +kernel)).2
theorem ssr_102_0 {Γ : rhG} {R : Nat → Nat → Nat} (h : ShS Γ R) : R 102 0 = 103 := h.2 (102, 0, 103) (by decide +kernel)
theorem ssk_137 {Γ : rhG} {R : Nat → Nat → Nat} (h : ShS Γ R) : Γ.2.2.1 137 = 15 := (h.1 (137, 15, 246960) (by decide +kernel)).1
theorem ssk_145 {Γ : rhG} {R : Nat → Nat → Nat} (h : ShS Γ R) : Γ.2.2.1 145 = 15 := (h.1 (145, 15, 61000) (by decide +kernel)).1
theorem ssl_137 {Γ : rhG} {R : Nat → Nat → Nat} (h : ShS Γ R) : Γ.2.2.2 137 = 246960 := (h.1 (137, 15, 246960) (by decide +kernel)).2
theorem ssl_145 {Γ : rhG} {R : Nat → Nat → Nat} (h : ShS Γ R) : Γ.2.2.2 145 = 61000 := (h.1 (145, 15, 61000) (by decide +kernel)).2
theorem ssr_102_54 {Γ : rhG} {R : Nat → Nat → Nat} (h : ShS Γ R) : R 102 54 = 137 := h.2 (102, 54, 137) (by decide +kernel)
theorem ssr_102_65 {Γ : rhG} {R : Nat → Nat → Nat} (h : ShS Γ R) : R 102 65 = 145 := h.2 (102, 65, 145) (by decide +kernel)
theorem ssk_136 {Γ : rhG} {R : Nat → Nat → Nat} (h : ShS Γ R) : Γ.2.2.1 136 = 15 := (h.1 (136, 15, 8) (by decide +kernel)).1
theorem ssl_136 {Γ : rhG} {R : Nat → Nat → Nat} (h : ShS Γ R) : Γ.2.2.2 136 = 8 := (h.1 (136, 15, 8) (by decide +kernel)).2
theorem ssr_102_52 {Γ : rhG} {R : Nat → Nat → Nat} (h : ShS Γ R) : R 102 52 = 136 := h.2 (102, 52, 136) (by decide +kernel)
theorem ssk_143 {Γ : rhG} {R : Nat → Nat → Nat} (h : ShS Γ R) : Γ.2.2.1 143 = 15 := (h.1 (143, 15, 8) (by decide +kernel)).1
theorem ssl_143 {Γ : rhG} {R : Nat → Nat → Nat} (h : ShS Γ R) : Γ.2.2.2 143 = 8 := (h.1 (143, 15, 8) (by decide +kernel)).2
theorem ssr_102_63 {Γ : rhG} {R : Nat → Nat → Nat} (h : ShS Γ R) : R 102 63 = 143 := h.2 (102, 63, 143) (by decide +kernel)
theorem ssk_144 {Γ : rhG} {R : Nat → Nat → Nat} (h : ShS Γ R) : Γ.2.2.1 144 = 15 := (h.1 (144, 15, 6) (by decide +kernel)).1
theorem ssl_144 {Γ : rhG} {R : Nat → Nat → Nat} (h : ShS Γ R) : Γ.2.2.2 144 = 6 := (h.1 (144, 15, 6) (by decide +kernel)).2
theorem ssr_102_64 {Γ : rhG} {R : Nat → Nat → Nat} (h : ShS Γ R) : R 102 64 = 144 := h.2 (102, 64, 144) (by decide +kernel)
theorem ssk_140 {Γ : rhG} {R : Nat → Nat → Nat} (h : ShS Γ R) : Γ.2.2.1 140 = 15 := (h.1 (140, 15, 246960) (by decide +kernel)).1
theorem ssl_140 {Γ : rhG} {R : Nat → Nat → Nat} (h : ShS Γ R) : Γ.2.2.2 140 = 246960 := (h.1 (140, 15, 246960) (by decide +kernel)).2
theorem ssr_102_57 {Γ : rhG} {R : Nat → Nat → Nat} (h : ShS Γ R) : R 102 57 = 140 := h.2 (102, 57, 140) (by decide +kernel)
theorem ssk_135 {Γ : rhG} {R : Nat → Nat → Nat} (h : ShS Γ R) : Γ.2.2.1 135 = 15 := (h.1 (135, 15, 12) (by decide +kernel)).1
theorem ssl_135 {Γ : rhG} {R : Nat → Nat → Nat} (h : ShS Γ R) : Γ.2.2.2 135 = 12 := (h.1 (135, 15, 12) (by decide +kernel)).2
theorem ssr_102_50 {Γ : rhG} {R : Nat → Nat → Nat} (h : ShS Γ R) : R 102 50 = 135 := h.2 (102, 50, 135) (by decide +kernel)
theorem ssk_142 {Γ : rhG} {R : Nat → Nat → Nat} (h : ShS Γ R) : Γ.2.2.1 142 = 17 := (h.1 (142, 17, 246960) (by decide +kernel)).1
theorem ssl_142 {Γ : rhG} {R : Nat → Nat → Nat} (h : ShS Γ R) : Γ.2.2.2 142 = 246960 := (h.1 (142, 17, 246960) (by decide +kernel)).2
theorem ssr_102_59 {Γ : rhG} {R : Nat → Nat → Nat} (h : ShS Γ R) : R 102 59 = 142 := h.2 (102, 59, 142) (by decide +kernel)
theorem ssk_146 {Γ : rhG} {R : Nat → Nat → Nat} (h : ShS Γ R) : Γ.2.2.1 146 = 15 := (h.1 (146, 15, 61000) (by decide +kernel)).1
theorem ssk_147 {Γ : rhG} {R : Nat → Nat → Nat} (h : ShS Γ R) : Γ.2.2.1 147 = 15 := (h.1 (147, 15, 246960) (by decide +kernel)).1
theorem ssl_146 {Γ : rhG} {R : Nat → Nat → Nat} (h : ShS Γ R) : Γ.2.2.2 146 = 61000 := (h.1 (146, 15, 61000) (by decide +kernel)).2
theorem ssl_147 {Γ : rhG} {R : Nat → Nat → Nat} (h : ShS Γ R) : Γ.2.2.2 147 = 246960 := (h.1 (147, 15, 246960) (by decide +kernel)).2
theorem ssr_102_67 {Γ : rhG} {R : Nat → Nat → Nat} (h : ShS Γ R) : R 102 67 = 146 := h.2 (102, 67, 146) (by decide +kernel)
theorem ssr_102_68 {Γ : rhG} {R : Nat → Nat → Nat} (h : ShS Γ R) : R 102 68 = 147 := h.2 (102, 68, 147) (by decide +kernel)
theorem ssk_148 {Γ : rhG} {R : Nat → Nat → Nat} (h : ShS Γ R) : Γ.2.2.1 148 = 15 := (h.1 (148, 15, 61000) (by decide +kernel)).1
theorem ssl_148 {Γ : rhG} {R : Nat → Nat → Nat} (h : ShS Γ R) : Γ.2.2.2 148 = 61000 := (h.1 (148, 15, 61000) (by decide +kernel)).2
theorem ssr_102_69 {Γ : rhG} {R : Nat → Nat → Nat} (h : ShS Γ R) : R 102 69 = 148 := h.2 (102, 69, 148) (by decide +kernel)
theorem ssk_121 {Γ : rhG} {R : Nat → Nat → Nat} (h : ShS Γ R) : Γ.2.2.1 121 = 16 := (h.1 (121, 16, 10) (by decide +kernel)).1
theorem ssl_121 {Γ : rhG} {R : Nat → Nat → Nat} (h : ShS Γ R) : Γ.2.2.2 121 = 10 := (h.1 (121, 16, 10) (by decide +kernel)).2
theorem ssr_102_27 {Γ : rhG} {R : Nat → Nat → Nat} (h : ShS Γ R) : R 102 27 = 121 := h.2 (102, 27, 121) (by decide +kernel)
