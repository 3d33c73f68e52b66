/-! THE PARTS THAT THE REFERENCE HOLDS (R) AND THE CLASS HOLDS (C) -/
abbrev Bn : Type := List (Tr × Nat)
abbrev Bx : Type := Nat → Option (Bn × Ar)
abbrev Si : Type := (Nat × Nat × Nat) × (Nat × Nat × Int)
def wsum (bn : Bn) : Nat := (bn.map fun x => x.2).sum
def bcd (bn : Bn) : List Nat := (bn.map fun x => cdT x.1).reverse
def bwt (bn : Bn) : List Nat := (bn.map fun x => x.2).reverse
/-- pulls in earnest, the last first, from the first stand to this one -/
def BN (T : Tn) (L0 : Ar) : Bn → Ar → Prop
  | [], L => L = L0
  | a :: r, L => ∃ L', BN T L0 r L' ∧ a.1 ∈ pulls T L' ∧ L = mvA L' a.1 ∧ a.2 = wtA T L' a.1
def Bs (f : Nat → Int32) (bs : List Int32) : Prop := ∀ i b, bs[i]? = some b → f i = b
def R1 (M : rhM) (bs : List Int32) : Prop := M.1 102 2 = J bs.length ∧ Bs (M.1 103) bs
def R2 (M : rhM) (fk fp : Nat) : Prop := M.1 102 4 = J fk ∧ M.1 102 5 = if fk = 0 then J (-1) else J fp
def R3 (M : rhM) (T : Tn) : Prop := ∃ b lb, TM M b T (-1) lb
def R4 (M : rhM) (L : Ar) : Prop := RA M 131 0 132 0 L
def R5 (M : rhM) (bn : Bn) : Prop := M.1 102 48 = J bn.length ∧ M.1 102 49 = J (wsum bn) ∧ Sg (M.1 133) 0 (bcd bn) ∧ Sg (M.1 134) 0 (bwt bn)
def R6 (M : rhM) (tl : List Tr) : Prop := M.1 102 51 = J tl.length ∧ Sg (M.1 135) 0 (tl.map cdT)
def R7 (M : rhM) (gl : List Nat) : Prop := M.1 102 53 = J gl.length ∧ Sg (M.1 136) 0 gl
def R8 (M : rhM) (ly : List Nat) : Prop := M.1 102 66 = J ly.length ∧ Sg (M.1 145) 0 ly
def R9 (M : rhM) (bx : Bx) : Prop := ∀ k, k < 3 → (bx k = none → M.1 159 k = J (-1)) ∧ ∀ x, bx k = some x → M.1 159 k = J x.1.length ∧ M.1 160 k = J (wsum x.1) ∧ RA M 161 (8 * k) 162 (6 * k) x.2 ∧ Sg (M.1 163) (300 * k) (bcd x.1) ∧ Sg (M.1 164) (300 * k) (bwt x.1)
def R10 (M : rhM) (sg : List Si) : Prop := M.1 102 82 = J sg.length ∧ ∀ i s, sg[i]? = some s → M.1 149 i = J s.1.1 ∧ M.1 150 i = J s.1.2.1 ∧ M.1 151 i = J s.1.2.2 ∧ M.1 158 i = J s.2.1 ∧ M.1 152 i = J s.2.2.1 ∧ M.1 153 i = J s.2.2.2
def R11 (M : rhM) (tm : Nat) : Prop := M.1 102 83 = J tm
def C1 (M : rhM) (bs : List Int32) : Prop := M.1 1 1 = J bs.length ∧ Bs (M.1 2) bs
def C2 (M : rhM) (fk fp : Nat) : Prop := M.1 3 0 = J fk ∧ (fk ≠ 0 → M.1 3 1 = J fp)
def C3 (M : rhM) (t t' : Nat) (T : Tn) : Prop := ((t = 11 ∧ t' = 22) ∨ (t = 22 ∧ t' = 11)) ∧ M.2.2 1 3 = t ∧ M.2.2 1 4 = t' ∧ TC M t T
def C4 (M : rhM) (R : Nat) (L : Ar) : Prop := SA M 33 R L
def C5 (M : rhM) (bn : Bn) : Prop := M.1 47 1 = J bn.length ∧ M.1 47 2 = J (wsum bn) ∧ Sg (M.1 48) 0 (bcd bn)
def C6 (M : rhM) (tl : List Tr) : Prop := M.1 49 1 = J tl.length ∧ Sg (M.1 50) 0 (tl.map cdT)
def C7 (M : rhM) (gl : List Nat) : Prop := M.1 1 11 = J gl.length ∧ M.2.1 1 10 = jl (dg gl)
def C9 (M : rhM) (bx : Bx) : Prop := ∀ k, k < 3 → (bx k = none → M.2.1 53 k = -1) ∧ ∀ x, bx k = some x → M.2.1 53 k = jl (wn x.2) ∧ M.1 (96 + 2 * k) 1 = J x.1.length ∧ M.1 (96 + 2 * k) 2 = J (wsum x.1) ∧ Sg (M.1 (97 + 2 * k)) 0 (bcd x.1)
def C10 (M : rhM) (sg : List Si) : Prop := M.1 55 0 = J sg.length ∧ ∀ i s, sg[i]? = some s → M.1 56 i = J s.1.1 ∧ M.1 57 i = J s.1.2.1 ∧ M.1 58 i = J s.1.2.2 ∧ M.1 59 i = J s.2.1 ∧ M.1 60 i = J s.2.2.1 ∧ M.1 61 i = J s.2.2.2
def C11 (M : rhM) (tm : Nat) : Prop := M.1 1 16 = J tm
/-- what holds of it all, whoever holds it -/
def PZ (T : Tn) (L : Ar) (bs : List Int32) (tm : Nat) (gl ly : List Nat) (bn : Bn) (tl : List Tr) (bx : Bx) (sg : List Si) (fk fp : Nat) : Prop :=
  (TWf T ∧ (0 < tH T → 0 < tR T) ∧ ∀ r, r < tR T → tL T r ≤ 200) ∧ (bs.length ≤ 1600 ∧ ∀ b, b ∈ bs → -128 ≤ b.toInt ∧ b.toInt < 128) ∧ tm ≤ 100000 ∧ (gl.Nodup ∧ ∀ h, h ∈ gl → h < tH T) ∧ ly.length ≤ 60480 ∧
  (BN T (fst T) bn L ∧ bn.length ≤ 300) ∧ (tl.length ≤ 12 ∧ ∀ a, a ∈ tl → a.1 < tR T ∧ a.2.2 < tR T ∧ a.1 ≠ a.2.2 ∧ 1 ≤ a.2.1 ∧ a.2.1 ≤ 8) ∧ (∀ k x, bx k = some x → BN T (fst T) x.1 x.2 ∧ x.1.length ≤ 300) ∧
  (sg.length ≤ 20 ∧ ∀ s, s ∈ sg → s.1.1 ≤ 3 ∧ s.1.2.1 < tH T ∧ s.1.2.2 < tR T ∧ s.2.1 ≤ 1 ∧ s.2.2.1 ≤ tm ∧ -1 ≤ s.2.2.2 ∧ s.2.2.2 ≤ tm) ∧ fk ≤ 6 ∧ fp ≤ 1600
theorem BN_WA {T : Tn} (hw : TWf T) : ∀ {bn : Bn} {L : Ar}, BN T (fst T) bn L → WA (tR T) (tH T) L
  | [], L, h => by rw [h]; exact fst_WA T hw
  | a :: r, L, h => by
    obtain ⟨L', h1, h2, h3, -⟩ := h
    rw [h3]; exact pulls_WA (BN_WA hw h1) h2
section
variable {M M' : rhM} {ids : List Nat}
theorem R1.kp {bs : List Int32} (h : R1 M bs) (k : KP ids M M') (hn : 1 ∉ ids) : R1 M' bs := by
  obtain ⟨h1, h2⟩ := h
  exact ⟨by rw [k.1 _ _ (by exact hn)]; exact h1, by rw [k.i (by decide) (by decide) (by decide) (by exact hn)]; exact h2⟩
theorem R2.kp {fk fp : Nat} (h : R2 M fk fp) (k : KP ids M M') (hn : 2 ∉ ids) : R2 M' fk fp := by
  obtain ⟨h1, h2⟩ := h
  exact ⟨by rw [k.1 _ _ (by exact hn)]; exact h1, by rw [k.1 _ _ (by exact hn)]; exact h2⟩
theorem R3.kp {T : Tn} (h : R3 M T) (k : KP ids M M') (hn : 3 ∉ ids) : R3 M' T := by
  obtain ⟨b, lb, h⟩ := h
  refine ⟨b, lb, ?_⟩
  unfold TM at *
  rw [k.1 102 34 (by exact hn), k.1 102 44 (by exact hn), k.1 102 45 (by exact hn), k.i (r := 105) (by decide) (by decide) (by decide) (by exact hn), k.i (r := 106) (by decide) (by decide) (by decide) (by exact hn), k.i (r := 109) (by decide) (by decide) (by decide) (by exact hn), k.i (r := 110) (by decide) (by decide) (by decide) (by exact hn), k.i (r := 108) (by decide) (by decide) (by decide) (by exact hn), k.i (r := 119) (by decide) (by decide) (by decide) (by exact hn), k.i (r := 111) (by decide) (by decide) (by decide) (by exact hn), k.i (r := 112) (by decide) (by decide) (by decide) (by exact hn), k.i (r := 113) (by decide) (by decide) (by decide) (by exact hn), k.i (r := 114) (by decide) (by decide) (by decide) (by exact hn), k.i (r := 115) (by decide) (by decide) (by decide) (by exact hn), k.i (r := 116) (by decide) (by decide) (by decide) (by exact hn), k.i (r := 123) (by decide) (by decide) (by decide) (by exact hn), k.i (r := 124) (by decide) (by decide) (by decide) (by exact hn)]
  exact h
theorem R4.kp {L : Ar} (h : R4 M L) (k : KP ids M M') (hn : 4 ∉ ids) : R4 M' L := by
  unfold R4 RA at *
  rw [k.i (r := 131) (by decide) (by decide) (by decide) (by exact hn), k.i (r := 132) (by decide) (by decide) (by decide) (by exact hn)]; exact h
theorem R5.kp {bn : Bn} (h : R5 M bn) (k : KP ids M M') (hn : 5 ∉ ids) : R5 M' bn := by
  unfold R5 at *
  rw [k.1 102 48 (by exact hn), k.1 102 49 (by exact hn), k.i (r := 133) (by decide) (by decide) (by decide) (by exact hn), k.i (r := 134) (by decide) (by decide) (by decide) (by exact hn)]; exact h
theorem R6.kp {tl : List Tr} (h : R6 M tl) (k : KP ids M M') (hn : 6 ∉ ids) : R6 M' tl := by
  unfold R6 at *
  rw [k.1 102 51 (by exact hn), k.i (r := 135) (by decide) (by decide) (by decide) (by exact hn)]; exact h
theorem R7.kp {gl : List Nat} (h : R7 M gl) (k : KP ids M M') (hn : 7 ∉ ids) : R7 M' gl := by
  unfold R7 at *
  rw [k.1 102 53 (by exact hn), k.i (r := 136) (by decide) (by decide) (by decide) (by exact hn)]; exact h
theorem R8.kp {ly : List Nat} (h : R8 M ly) (k : KP ids M M') (hn : 8 ∉ ids) : R8 M' ly := by
  unfold R8 at *
  rw [k.1 102 66 (by exact hn), k.i (r := 145) (by decide) (by decide) (by decide) (by exact hn)]; exact h
theorem R9.kp {bx : Bx} (h : R9 M bx) (k : KP ids M M') (hn : 9 ∉ ids) : R9 M' bx := by
  unfold R9 RA at *
  rw [k.i (r := 159) (by decide) (by decide) (by decide) (by exact hn), k.i (r := 160) (by decide) (by decide) (by decide) (by exact hn), k.i (r := 161) (by decide) (by decide) (by decide) (by exact hn), k.i (r := 162) (by decide) (by decide) (by decide) (by exact hn), k.i (r := 163) (by decide) (by decide) (by decide) (by exact hn), k.i (r := 164) (by decide) (by decide) (by decide) (by exact hn)]; exact h
theorem R10.kp {sg : List Si} (h : R10 M sg) (k : KP ids M M') (hn : 10 ∉ ids) : R10 M' sg := by
  unfold R10 at *
  rw [k.1 102 82 (by exact hn), k.i (r := 149) (by decide) (by decide) (by decide) (by exact hn), k.i (r := 150) (by decide) (by decide) (by decide) (by exact hn), k.i (r := 151) (by decide) (by decide) (by decide) (by exact hn), k.i (r := 152) (by decide) (by decide) (by decide) (by exact hn), k.i (r := 153) (by decide) (by decide) (by decide) (by exact hn), k.i (r := 158) (by decide) (by decide) (by decide) (by exact hn)]; exact h
theorem R11.kp {tm : Nat} (h : R11 M tm) (k : KP ids M M') (hn : 11 ∉ ids) : R11 M' tm := by
  unfold R11 at *
  rw [k.1 102 83 (by exact hn)]; exact h
theorem C1.kp {bs : List Int32} (h : C1 M bs) (k : KP ids M M') (hn : 1 ∉ ids) : C1 M' bs := by
  unfold C1 at *
  rw [k.1 1 1 (by exact hn), k.i (r := 2) (by decide) (by decide) (by decide) (by exact hn)]; exact h
theorem C2.kp {fk fp : Nat} (h : C2 M fk fp) (k : KP ids M M') (hn : 2 ∉ ids) : C2 M' fk fp := by
  unfold C2 at *
  rw [k.i (r := 3) (by decide) (by decide) (by decide) (by exact hn)]; exact h
theorem C3.kp {t t' : Nat} {T : Tn} (h : C3 M t t' T) (k : KP ids M M') (hn : 3 ∉ ids) : C3 M' t t' T := by
  unfold C3 TC at *
  rw [k.2.2 1 3 (by exact hn), k.2.2 1 4 (by exact hn)]
  obtain ⟨h1, h2, h3, h4⟩ := h
  refine ⟨h1, h2, h3, ?_⟩
  rcases h1 with ⟨rfl, rfl⟩ | ⟨rfl, rfl⟩
  · rw [k.i (r := 11) (by decide) (by decide) (by decide) (by exact hn), k.l (r := 11) (by decide) (by decide) (by exact hn), k.i (r := 11 + 1) (by decide) (by decide) (by decide) (by exact hn), k.i (r := 11 + 2) (by decide) (by decide) (by decide) (by exact hn), k.i (r := 11 + 3) (by decide) (by decide) (by decide) (by exact hn), k.i (r := 11 + 4) (by decide) (by decide) (by decide) (by exact hn), k.i (r := 11 + 6) (by decide) (by decide) (by decide) (by exact hn), k.i (r := 11 + 7) (by decide) (by decide) (by decide) (by exact hn), k.i (r := 11 + 8) (by decide) (by decide) (by decide) (by exact hn)]
    exact h4
  · rw [k.i (r := 22) (by decide) (by decide) (by decide) (by exact hn), k.l (r := 22) (by decide) (by decide) (by exact hn), k.i (r := 22 + 1) (by decide) (by decide) (by decide) (by exact hn), k.i (r := 22 + 2) (by decide) (by decide) (by decide) (by exact hn), k.i (r := 22 + 3) (by decide) (by decide) (by decide) (by exact hn), k.i (r := 22 + 4) (by decide) (by decide) (by decide) (by exact hn), k.i (r := 22 + 6) (by decide) (by decide) (by decide) (by exact hn), k.i (r := 22 + 7) (by decide) (by decide) (by decide) (by exact hn), k.i (r := 22 + 8) (by decide) (by decide) (by decide) (by exact hn)]
    exact h4
theorem C4.kp {R : Nat} {L : Ar} (h : C4 M R L) (k : KP ids M M') (hn : 4 ∉ ids) : C4 M' R L := by
  unfold C4 SA at *
  rw [k.l (r := 33) (by decide) (by decide) (by exact hn), k.i (r := 33) (by decide) (by decide) (by decide) (by exact hn), k.i (r := 33 + 1) (by decide) (by decide) (by decide) (by exact hn), k.i (r := 33 + 2) (by decide) (by decide) (by decide) (by exact hn), k.i (r := 33 + 3) (by decide) (by decide) (by decide) (by exact hn)]; exact h
theorem C5.kp {bn : Bn} (h : C5 M bn) (k : KP ids M M') (hn : 5 ∉ ids) : C5 M' bn := by
  unfold C5 at *
  rw [k.i (r := 47) (by decide) (by decide) (by decide) (by exact hn), k.i (r := 48) (by decide) (by decide) (by decide) (by exact hn)]; exact h
theorem C6.kp {tl : List Tr} (h : C6 M tl) (k : KP ids M M') (hn : 6 ∉ ids) : C6 M' tl := by
  unfold C6 at *
  rw [k.i (r := 49) (by decide) (by decide) (by decide) (by exact hn), k.i (r := 50) (by decide) (by decide) (by decide) (by exact hn)]; exact h
theorem C7.kp {gl : List Nat} (h : C7 M gl) (k : KP ids M M') (hn : 7 ∉ ids) : C7 M' gl := by
  unfold C7 at *
  rw [k.1 1 11 (by exact hn), k.2.1 1 10 (by exact hn)]; exact h
theorem C9.kp {bx : Bx} (h : C9 M bx) (k : KP ids M M') (hn : 9 ∉ ids) : C9 M' bx := by
  have e53 := k.l (r := 53) (by decide) (by decide) (by exact hn)
  intro j hj
  obtain ⟨h1, h2⟩ := h j hj
  have a1 : M'.1 (96 + 2 * j) = M.1 (96 + 2 * j) := by
    have : j = 0 ∨ j = 1 ∨ j = 2 := by omega
    rcases this with rfl | rfl | rfl <;> exact k.i (by decide) (by decide) (by decide) (by exact hn)
  have a2 : M'.1 (97 + 2 * j) = M.1 (97 + 2 * j) := by
    have : j = 0 ∨ j = 1 ∨ j = 2 := by omega
    rcases this with rfl | rfl | rfl <;> exact k.i (by decide) (by decide) (by decide) (by exact hn)
  rw [e53, a1, a2]; exact ⟨h1, h2⟩
theorem C10.kp {sg : List Si} (h : C10 M sg) (k : KP ids M M') (hn : 10 ∉ ids) : C10 M' sg := by
  unfold C10 at *
  rw [k.1 55 0 (by exact hn), k.i (r := 56) (by decide) (by decide) (by decide) (by exact hn), k.i (r := 57) (by decide) (by decide) (by decide) (by exact hn), k.i (r := 58) (by decide) (by decide) (by decide) (by exact hn), k.i (r := 59) (by decide) (by decide) (by decide) (by exact hn), k.i (r := 60) (by decide) (by decide) (by decide) (by exact hn), k.i (r := 61) (by decide) (by decide) (by decide) (by exact hn)]; exact h
theorem C11.kp {tm : Nat} (h : C11 M tm) (k : KP ids M M') (hn : 11 ∉ ids) : C11 M' tm := by
  unfold C11 at *
  rw [k.1 1 16 (by exact hn)]; exact h
theorem CR.kp (h : CR M) (k : KP ids M M') (hn : 99 ∉ ids) : CR M' := by
  have hd : ∀ t, t ∈ crl → idR t.1 t.2.1 = 99 := by decide
  intro t ht
  rw [k.2.2 t.1 t.2.1 (by rw [hd t ht]; exact hn)]; exact h t ht
theorem MR.kp (h : MR M) (k : KP ids M M') (hn : 99 ∉ ids) : MR M' := by
  intro f hf hf2
  have : idR 102 f = 99 := by
    unfold idR
    rw [if_pos (by decide)]
    simp
  rw [k.2.2 102 f (by rw [this]; exact hn)]; exact h f hf hf2
end
