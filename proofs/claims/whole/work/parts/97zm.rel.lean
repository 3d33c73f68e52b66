/-! WHAT A CALL ON THE OTHER SIDE LEAVES -/
/-- a word's letters as the class's reader keeps them, and the keywords -/
def enc (l : List Nat) : Nat := l.foldl (fun a c => a * 32 + (c - 96)) 0
def kwL : List (List Nat) := [[114, 97, 105, 108], [104, 111, 117, 115, 101], [98, 101, 115, 105, 100, 101], [110, 101, 99, 107], [100, 114, 97, 119, 115], [108, 97, 119], [108, 101, 110, 103, 116, 104], [119, 101, 105, 103, 104, 116], [111, 110], [119, 111, 114, 116, 104], [111, 114], [97, 110, 100], [110, 111, 116], [109, 97, 110, 121], [102, 114, 111, 109], [116, 111], [114, 111, 111, 109], [116, 97, 107, 101, 115]]
def kwW (i : Nat) : Int64 := jl (enc (kwL.getD i []))
section
variable {Γ : rhG} {M M' : rhM}
theorem C1.kr {bs : List Int32} (h : C1 M bs) (k : KR M M') : C1 M' bs := by
  unfold C1 at *
  rw [(k 1 (Or.inl (by omega))).1, (k 2 (Or.inl (by omega))).1]
  exact h
theorem C2.kr {fk : Nat} {fp : Nat} (h : C2 M fk fp) (k : KR M M') : C2 M' fk fp := by
  unfold C2 at *
  rw [(k 3 (Or.inl (by omega))).1]
  exact h
theorem C5.kr {bn : Bn} (h : C5 M bn) (k : KR M M') : C5 M' bn := by
  unfold C5 at *
  rw [(k 47 (Or.inl (by omega))).1, (k 48 (Or.inl (by omega))).1]
  exact h
theorem C6.kr {tl : List Tr} (h : C6 M tl) (k : KR M M') : C6 M' tl := by
  unfold C6 at *
  rw [(k 49 (Or.inl (by omega))).1, (k 50 (Or.inl (by omega))).1]
  exact h
theorem C7.kr {gl : List Nat} (h : C7 M gl) (k : KR M M') : C7 M' gl := by
  unfold C7 at *
  rw [(k 1 (Or.inl (by omega))).1, (k 1 (Or.inl (by omega))).2.1]
  exact h
theorem C10.kr {sg : List Si} (h : C10 M sg) (k : KR M M') : C10 M' sg := by
  unfold C10 at *
  rw [(k 55 (Or.inl (by omega))).1, (k 56 (Or.inl (by omega))).1, (k 57 (Or.inl (by omega))).1, (k 58 (Or.inl (by omega))).1, (k 59 (Or.inl (by omega))).1, (k 60 (Or.inl (by omega))).1, (k 61 (Or.inl (by omega))).1]
  exact h
theorem C11.kr {tm : Nat} (h : C11 M tm) (k : KR M M') : C11 M' tm := by
  unfold C11 at *
  rw [(k 1 (Or.inl (by omega))).1]
  exact h
theorem R1.kc {bs : List Int32} (h : R1 M bs) (k : KC M M') : R1 M' bs := by
  unfold R1 at *
  rw [(k 102 (by omega) (by omega)).1, (k 103 (by omega) (by omega)).1]
  exact h
theorem R2.kc {fk : Nat} {fp : Nat} (h : R2 M fk fp) (k : KC M M') : R2 M' fk fp := by
  unfold R2 at *
  rw [(k 102 (by omega) (by omega)).1]
  exact h
theorem R4.kc {L : Ar} (h : R4 M L) (k : KC M M') : R4 M' L := by
  unfold R4 RA at *
  rw [(k 131 (by omega) (by omega)).1, (k 132 (by omega) (by omega)).1]
  exact h
theorem R5.kc {bn : Bn} (h : R5 M bn) (k : KC M M') : R5 M' bn := by
  unfold R5 at *
  rw [(k 102 (by omega) (by omega)).1, (k 133 (by omega) (by omega)).1, (k 134 (by omega) (by omega)).1]
  exact h
theorem R6.kc {tl : List Tr} (h : R6 M tl) (k : KC M M') : R6 M' tl := by
  unfold R6 at *
  rw [(k 102 (by omega) (by omega)).1, (k 135 (by omega) (by omega)).1]
  exact h
theorem R7.kc {gl : List Nat} (h : R7 M gl) (k : KC M M') : R7 M' gl := by
  unfold R7 at *
  rw [(k 102 (by omega) (by omega)).1, (k 136 (by omega) (by omega)).1]
  exact h
theorem R8.kc {ly : List Nat} (h : R8 M ly) (k : KC M M') : R8 M' ly := by
  unfold R8 at *
  rw [(k 102 (by omega) (by omega)).1, (k 145 (by omega) (by omega)).1]
  exact h
theorem R9.kc {bx : Bx} (h : R9 M bx) (k : KC M M') : R9 M' bx := by
  unfold R9 RA at *
  rw [(k 159 (by omega) (by omega)).1, (k 160 (by omega) (by omega)).1, (k 161 (by omega) (by omega)).1, (k 162 (by omega) (by omega)).1, (k 163 (by omega) (by omega)).1, (k 164 (by omega) (by omega)).1]
  exact h
theorem R10.kc {sg : List Si} (h : R10 M sg) (k : KC M M') : R10 M' sg := by
  unfold R10 at *
  rw [(k 102 (by omega) (by omega)).1, (k 149 (by omega) (by omega)).1, (k 150 (by omega) (by omega)).1, (k 151 (by omega) (by omega)).1, (k 152 (by omega) (by omega)).1, (k 153 (by omega) (by omega)).1, (k 158 (by omega) (by omega)).1]
  exact h
theorem R11.kc {tm : Nat} (h : R11 M tm) (k : KC M M') : R11 M' tm := by
  unfold R11 at *
  rw [(k 102 (by omega) (by omega)).1]
  exact h
theorem R3.kc {T : Tn} (h : R3 M T) (k : KC M M') : R3 M' T := by
  obtain ⟨b, lb, hT⟩ := h
  refine ⟨b, lb, ?_⟩
  unfold TM at *
  rw [(k 102 (by omega) (by omega)).1, (k 105 (by omega) (by omega)).1, (k 106 (by omega) (by omega)).1, (k 109 (by omega) (by omega)).1, (k 110 (by omega) (by omega)).1, (k 108 (by omega) (by omega)).1, (k 119 (by omega) (by omega)).1, (k 111 (by omega) (by omega)).1, (k 112 (by omega) (by omega)).1, (k 113 (by omega) (by omega)).1, (k 114 (by omega) (by omega)).1, (k 115 (by omega) (by omega)).1, (k 116 (by omega) (by omega)).1, (k 123 (by omega) (by omega)).1, (k 124 (by omega) (by omega)).1]
  exact hT
theorem MR.kc (h : MR M) (k : KC M M') : MR M' := fun f h1 h2 => by rw [(k 102 (by omega) (by omega)).2.2]; exact h f h1 h2
theorem CR.kr (h : CR M) (k : KR M M') : CR M' := fun x hx => by
  have : ∀ y ∈ crl, y.1 < 102 := by decide
  rw [(k x.1 (Or.inl (this x hx))).2.2]; exact h x hx
theorem C3.kr {t t' : Nat} {T : Tn} (h : C3 M t t' T) (k : KR M M') : C3 M' t t' T := by
  have ht : t = 11 ∨ t = 22 := h.tt
  have e : ∀ r, r < 102 → M'.1 r = M.1 r ∧ M'.2.1 r = M.2.1 r ∧ M'.2.2 r = M.2.2 r := fun r hr => k r (Or.inl hr)
  unfold C3 TC at *
  rw [(e 1 (by omega)).2.2, (e t (by omega)).1, (e t (by omega)).2.1, (e (t + 1) (by omega)).1, (e (t + 2) (by omega)).1, (e (t + 3) (by omega)).1, (e (t + 4) (by omega)).1, (e (t + 6) (by omega)).1, (e (t + 7) (by omega)).1, (e (t + 8) (by omega)).1]
  exact h
theorem C4.kr {R : Nat} {L : Ar} (h : C4 M R L) (k : KR M M') : C4 M' R L := by
  unfold C4 SA at *
  rw [(k 33 (Or.inl (by omega))).1, (k 33 (Or.inl (by omega))).2.1, (k (33 + 1) (Or.inl (by omega))).1, (k (33 + 2) (Or.inl (by omega))).1, (k (33 + 3) (Or.inl (by omega))).1]
  exact h
theorem C9.kr {bx : Bx} (h : C9 M bx) (k : KR M M') : C9 M' bx := fun j hj => by
  rw [(k 53 (Or.inl (by omega))).2.1, (k (96 + 2 * j) (Or.inl (by omega))).1, (k (97 + 2 * j) (Or.inl (by omega))).1]
  exact h j hj
theorem C13.kr {T : Tn} {sg : List Si} (h : C13 M T sg) (k : KR M M') : C13 M' T sg := by
  unfold C13 at *
  rw [(k 65 (Or.inl (by omega))).1, (k 66 (Or.inl (by omega))).1, (k 67 (Or.inl (by omega))).1]
  exact h
theorem C13.kp {ids : List Nat} {T : Tn} {sg : List Si} (h : C13 M T sg) (k : KP ids M M') (hn : 13 ∉ ids) : C13 M' T sg := by
  unfold C13 at *
  rw [k.i (r := 65) (by decide) (by decide) (by decide) hn, k.i (r := 66) (by decide) (by decide) (by decide) hn, k.i (r := 67) (by decide) (by decide) (by decide) hn]
  exact h
theorem CD0.kr {ly : List Nat} {c C cp e : Nat} (h : CD0 Γ M ly c C cp e) (k : KR M M') : CD0 Γ M' ly c C cp e := by
  have hc := h.2.1
  exact h.mv (k 51 (Or.inl (by omega))).1 (k c (by omega)).1 (by rw [(k 51 (Or.inl (by omega))).2.2])
theorem SE.kr {c S F cp Ln : Nat} (h : SE Γ M c S F cp Ln) (k : KR M M') : SE Γ M' c S F cp Ln := by
  obtain ⟨s1, s2, s3, s3', s4, s4', s5, s6, s7⟩ := h
  have hf := s5.F183
  exact ⟨by rw [(k 1 (Or.inl (by omega))).2.2]; exact s1, s2, s3, s3', s4, s4', s5.mv (fun _ _ => ⟨rfl, rfl⟩) (fun r hr => (k r (Or.inr (by omega))).2.2), by rw [(k F (Or.inr (by omega))).1]; exact s6, s7.mv (fun r r1 r2 => (k r (Or.inr (by omega))).1)⟩
theorem CD.kr {ly : List Nat} (h : CD Γ M ly) (k : KR M M') : CD Γ M' ly := by
  obtain ⟨c, C, ⟨s1, s2⟩ | ⟨S, F, cp, Ln, s1, s2⟩⟩ := h
  · exact ⟨c, C, Or.inl ⟨by rw [(k 1 (Or.inl (by omega))).2.2]; exact s1, s2.kr k⟩⟩
  · exact ⟨c, C, Or.inr ⟨S, F, cp, Ln, s1.kr k, s2.kr k⟩⟩
/-- the keywords, as words -/
def C14 (M : rhM) : Prop := ∀ i, i < 18 → M.2.1 5 i = kwW i
theorem C14.kr (h : C14 M) (k : KR M M') : C14 M' := by
  unfold C14 at *
  rw [(k 5 (Or.inl (by omega))).2.1]; exact h
theorem C14.kp {ids : List Nat} (h : C14 M) (k : KP ids M M') (hn : 14 ∉ ids) : C14 M' := by
  unfold C14 at *
  rw [k.l (r := 5) (by decide) (by decide) hn]; exact h
end
