/-! rows of one instruction: making of cells, ends, calls -/
/-- the cells, one more made: its kind, its length, its slots -/
def rhgn (Γ : rhG) (k n sl : Nat) : rhG := (Γ.1 + 1, Γ.2.1 + sl, fun r => if r = nu (Γ.1 + 1) then k else Γ.2.2.1 r, fun r => if r = nu (Γ.1 + 1) then n else Γ.2.2.2 r)
def rhmn (M : rhM) (r : Nat) : rhM := (fun a k => if a = r then 0 else M.1 a k, fun a k => if a = r then 0 else M.2.1 a k, fun a k => if a = r then 0 else M.2.2 a k)
theorem rhmn_o {E : rhE} {Γ : rhG} {M : rhM} {k n sl : Nat} : ∀ r', r' ≠ nu (Γ.1 + 1) → rhc E (rhgn Γ k n sl) (rhmn M (nu (Γ.1 + 1))) r' = rhc E Γ M r' := by
  intro r' h
  have e1 : (rhgn Γ k n sl).2.2.1 r' = Γ.2.2.1 r' := by simp [rhgn, h]
  have e2 : (rhgn Γ k n sl).2.2.2 r' = Γ.2.2.2 r' := by simp [rhgn, h]
  have e3 : (rhmn M (nu (Γ.1 + 1))).1 r' = M.1 r' := by funext j; simp [rhmn, h]
  have e4 : (rhmn M (nu (Γ.1 + 1))).2.1 r' = M.2.1 r' := by funext j; simp [rhmn, h]
  have e5 : (rhmn M (nu (Γ.1 + 1))).2.2 r' = M.2.2 r' := by funext j; simp [rhmn, h]
  simp only [rhc, e1, e2, e3, e4, e5, rhfv]
theorem rhmn_k {E : rhE} {Γ : rhG} {H : Heap} {M : rhM} {k n sl : Nat} (h : rhH E Γ M H) : ∀ r, (rhgn Γ k n sl).2.2.1 r ≠ 0 → 1 ≤ nv r ∧ nv r ≤ (rhgn Γ k n sl).1 := by
  intro r hr
  show 1 ≤ nv r ∧ nv r ≤ Γ.1 + 1
  by_cases e : r = nu (Γ.1 + 1)
  · rw [e, nv_nu]; omega
  · have hr' : Γ.2.2.1 r ≠ 0 := by
      intro z; apply hr; simp [rhgn, e, z]
    have := h.2.2 r hr'
    omega
theorem rhdef_ok : ∀ ci, ci < 13 → ∀ j, j < rhfn ci → rhty ci j ≠ .float ∧ rhty ci j ≠ .double := by decide +kernel
theorem rhdef {E : rhE} {t : FieldType} (h : t ≠ .float ∧ t ≠ .double) (M : rhM) (r j : Nat) : defaultValue t = rhfv E t (rhmn M r) r j := by
  cases t <;> first | exact absurd rfl h.1 | exact absurd rfl h.2 | simp [rhfv, rhmn, defaultValue, rhro, va_rf]
/-- where the new cell lies -/
theorem rh_new_at {E : rhE} {Γ : rhG} {M : rhM} {H1 : Heap} {q : Nat} {c : va_E} (hP : va_P E.2.1 vwCl (rhw E Γ M ++ [(q, c)]) H1) (hD : va_D (rhad E) (rhw E Γ M ++ [(q, c)])) (hz : H1.size ≤ E.1 + Γ.1 + 1) : q = E.1 + Γ.1 := by
  have hlast : (rhw E Γ M ++ [(q, c)])[Γ.1]? = some (q, c) := by
    rw [List.getElem?_append_right (by rw [rhw_len]; exact Nat.le_refl _), rhw_len, Nat.sub_self]; rfl
  have h1 := (hP _ _ hlast).lt
  have h2 : E.1 ≤ q := hD.2 _ _ hlast
  dsimp only at h1
  by_cases e : q < E.1 + Γ.1
  · exfalso
    have hk : q - E.1 < Γ.1 := by omega
    have hg : (rhw E Γ M ++ [(q, c)])[q - E.1]? = some (E.1 + (q - E.1), rhc E Γ M (nu (q - E.1 + 1))) := by
      rw [List.getElem?_append_left (by rw [rhw_len]; exact hk)]
      have := rhw_at (E := E) (Γ := Γ) (M := M) (r := nu (q - E.1 + 1)) (by rw [nv_nu]; omega) (by rw [nv_nu]; omega)
      rw [nv_nu, show q - E.1 + 1 - 1 = q - E.1 by omega] at this
      exact this
    have := hD.1 _ _ _ _ hg hlast (by show E.1 + (q - E.1) = q; omega)
    omega
  · omega
theorem rhA {E : rhE} {s : State} {Γ0 : rhG} (hA : s.heap.size = E.1 + Γ0.1) : ∀ q, s.heap.size ≤ q → rhad E q := fun q h => by show E.1 ≤ q; omega
section RHN
variable {E : rhE} {d nL : Nat} {y : MethodName} {cc : ByteArray} {rt : Option FieldType} {Γ0 : rhG} {α : Type} {emb : α → rhO} {x x1 x2 : Option α} {pc : Nat} {L L' : List (Nat × rhV)} {S S' : List rhV} {Γ : rhG} {M : rhM}

/-- what is common to all that make a cell -/
theorem rhF.stepN {pc' k n sl : Nat} (h : ∀ (p : Program) (l : Launch) (e : Env) (R : Room) (s : State) (m : MethodId) (args : Array Value) (below : List Frame) (meth : Method) (c : Code) (H : Heap) (locs : List Loc) (cells slots : Nat) (Q : State → Prop) (ls : Array Slot), rhX E nL y cc rt p s m args meth c → lv_has ls nL (rhL E L) → rhH E Γ M H → va_S (rhad E) s.heap H locs → (∀ q, s.heap.size ≤ q → rhad E q) → cells + 1 ≤ R.cells → slots + sl ≤ R.slots →
      (∀ (H1 : Heap) (q : Nat) (ce : va_E), ce = rhc E (rhgn Γ k n sl) (rhmn M (nu (Γ.1 + 1))) (nu (Γ.1 + 1)) → va_P E.2.1 vwCl (rhw E Γ M ++ [(q, ce)]) H1 → va_D (rhad E) (rhw E Γ M ++ [(q, ce)]) → va_S (rhad E) s.heap H1 locs → W p l e R s m args below meth c H1 locs (cells + 1) (slots + sl) Q (F0 m pc' ls (.ref q :: S'.map (rhv E)))) → W p l e R s m args below meth c H locs cells slots Q (F0 m pc ls (S.map (rhv E))))
    (kk : rhF E d nL y cc rt Γ0 emb x pc' L (rhR (nu (Γ.1 + 1)) :: S') (rhgn Γ k n sl) (rhmn M (nu (Γ.1 + 1)))) : rhF E d nL y cc rt Γ0 emb x pc L S Γ M := by
  intro a ha
  obtain ⟨h1, h2, kk⟩ := kk a ha
  have h1 : Γ.1 + 1 ≤ (emb a).2.1.1 := h1
  have h2 : Γ.2.1 + sl ≤ (emb a).2.1.2.1 := h2
  refine ⟨by omega, by omega, fun p l e s m args below meth c hX g1 g2 H locs ls hH hS hl hA => ?_⟩
  refine h p l e _ s m args below meth c H locs _ _ _ ls hX hl hH hS (rhA hA) (by show Γ.1 - Γ0.1 + 1 ≤ (emb a).2.1.1 - Γ0.1; omega) (by show Γ.2.1 - Γ0.2.1 + sl ≤ (emb a).2.1.2.1 - Γ0.2.1; omega) (fun H1 q ce hce hP hD hS1 => rh_sz (fun hz => ?_))
  have hz' : H1.size ≤ E.1 + Γ.1 + 1 := by omega
  have hq := rh_new_at hP hD hz'
  subst hq; subst hce
  rw [rhw_app (Γ' := rhgn Γ k n sl) (M' := rhmn M (nu (Γ.1 + 1))) rfl rfl rhmn_o] at hP
  have h4 := kk p l e s m args below meth c hX (by show Γ0.1 ≤ Γ.1 + 1; omega) (by show Γ0.2.1 ≤ Γ.2.1 + sl; omega) H1 locs ls (rhH.mk hP (rhmn_k hH) (by show 1 ≤ Γ.1 + 1; omega) (by show H1.size ≤ E.1 + (Γ.1 + 1); omega)) hS1 hl hA
  rw [List.map_cons, rhv_ref (by rw [nv_nu]; omega), nv_nu, show E.1 + (Γ.1 + 1 - 1) = E.1 + Γ.1 by omega] at h4
  exact W.widen (k := (rhgn Γ k n sl).1 - Γ0.1) (n := (rhgn Γ k n sl).2.1 - Γ0.2.1) (by show _ ≤ Γ.1 + 1 - Γ0.1; omega) (by show _ ≤ Γ.2.1 + sl - Γ0.2.1; omega) h4
/-- a class reference of a class's pool, for 'new' -/
def rhNw (own : String) (idx ci : Nat) : Prop := ∃ q : vw_C, vwCl[ci]? = some q ∧ Cond.classLink own idx q.1 ∈ rhTs ∧ Cond.instantiable q.1 q.2.2 ∈ rhTs ∧ Cond.initialized q.1 ∈ rhTs
theorem rhF.new {idx ci : Nat} (hd : decode cc pc = .ok (.new idx, 3)) (hc : rhNw y.cls idx ci) (kk : rhF E d nL y cc rt Γ0 emb x (pc + 3) L (rhR (nu (Γ.1 + 1)) :: S) (rhgn Γ (ci + 1) 0 (rhfn ci)) (rhmn M (nu (Γ.1 + 1)))) : rhF E d nL y cc rt Γ0 emb x pc L S Γ M := by
  refine rhF.stepN (fun p l e R s m args below meth c H locs cells slots Q ls hX hl hH hS hA hc1 hs1 kk => ?_) kk
  obtain ⟨q, hq, w1, w2, w3⟩ := hc
  obtain ⟨hfn, h13⟩ := rhcl_fn ci q hq
  have hts := hX.2.2.2.2.2.2.2.1
  refine va_new (C := q.1) (T := q.2.1) (N := q.2.2) hX.1 hX.2.1 (Ts := rhTs) hts (rhcl_in ci q hq) (rhty ci) (rhcl_ty ci q hq) hX.2.2.2.2.2.2.1 (hts _ w1) (hts _ w2) (hts _ w3) hX.2.2.2.2.2.2.2.2.1 hH.1 rhw_D hS hA hq (fs := (List.range q.2.2).map (fun j => rhfv E (rhty ci j) (rhmn M (nu (Γ.1 + 1))) (nu (Γ.1 + 1)) j)) (fun j hj => ?_) hc1 (by rw [← hfn]; exact hs1) hd (fun a H1 hP hD hS1 => ?_)
  · rw [vp_V, List.getD_eq_getElem?_getD, rhfs _ hj]
    exact rhdef (rhdef_ok ci h13 j (by rw [hfn]; exact hj)) M _ j
  · rw [← hfn]
    exact kk H1 a _ (by rw [rhc_obj (c := ci) (by simp [rhgn]) h13, hfn]) hP hD hS1
theorem rhcy {E : rhE} {s : State} {i : Nat} {cA cB : ClassId} {ty : FieldType} (hK : va_K E.2.1 vwCl (rhtys E) s) (hK' : va_K E.2.1 vwCl (rhtys E ++ [(cA, ty)]) s) (hi : (rhtys E)[i]? = some (cB, ty)) : cA = cB := by
  have h1 := (hK.2 i _ hi).2
  have h2 := (hK'.2 6 (cA, ty) rfl).2
  unfold va_RA at h1 h2
  cases ty with
  | object C =>
    obtain ⟨_, _, _, _, _, e1⟩ := h1
    obtain ⟨_, _, _, _, _, e2⟩ := h2
    exact Option.some.inj (e2.symm.trans e1)
  | _ => exact Option.some.inj (h2.symm.trans h1)
theorem rhbytes {n k : Nat} (h : n ≤ 67108864) (e : k ≤ 8) : n * k ≤ 536870912 := Nat.le_trans (Nat.mul_le_mul h e) (by decide)
theorem rhpos {n : Int32} (h : 0 ≤ n.toInt) : ¬ n < 0 := by
  rw [Int32.lt_iff_toInt_lt, Int32.toInt_zero]; omega
theorem rhclamp {n : Int32} (h1 : n.toInt ≤ 67108864) : n.toNatClampNeg ≤ 67108864 := by
  have : n.toNatClampNeg = n.toInt.toNat := rfl
  omega
theorem rhF.newB {n : Int32} (hd : decode cc pc = .ok (.newarray .byte, 2)) (hw : Cond.arrayClass .byte ∈ rhTs) (h0 : 0 ≤ n.toInt ∧ n.toInt ≤ 67108864) (kk : rhF E d nL y cc rt Γ0 emb x (pc + 2) L (rhR (nu (Γ.1 + 1)) :: S) (rhgn Γ 14 n.toNatClampNeg n.toNatClampNeg) (rhmn M (nu (Γ.1 + 1)))) : rhF E d nL y cc rt Γ0 emb x pc L (rhI n :: S) Γ M := by
  refine rhF.stepN (fun p l e R s m args below meth c H locs cells slots Q ls hX hl hH hS hA hc1 hs1 kk => ?_) kk
  have hts := hX.2.2.2.2.2.2.2.1
  have hK := hX.2.2.2.2.2.2.2.2.1
  have h3 := rhclamp h0.2
  refine va_newa (ty := .byte) hX.1 hX.2.1 (atype := .byte) (hts _ hw) rfl hK hH.1 rhw_D hS hA (a0 := (n.toNatClampNeg, .inl (fun _ => 0))) (fun cA => rfl) (rhpos h0.1) rfl (rhbytes h3 (by decide)) hc1 hs1 hd (fun q cA H1 hK1 hP hD hS1 => ?_)
  have e := rhcy (i := 0) hK hK1 rfl
  subst e
  refine kk H1 q _ ?_ hP hD hS1
  rw [rhc_B (by simp [rhgn])]
  simp [rhgn, rhmn]
theorem rhF.newI {n : Int32} (hd : decode cc pc = .ok (.newarray .int, 2)) (hw : Cond.arrayClass .int ∈ rhTs) (h0 : 0 ≤ n.toInt ∧ n.toInt ≤ 67108864) (kk : rhF E d nL y cc rt Γ0 emb x (pc + 2) L (rhR (nu (Γ.1 + 1)) :: S) (rhgn Γ 15 n.toNatClampNeg n.toNatClampNeg) (rhmn M (nu (Γ.1 + 1)))) : rhF E d nL y cc rt Γ0 emb x pc L (rhI n :: S) Γ M := by
  refine rhF.stepN (fun p l e R s m args below meth c H locs cells slots Q ls hX hl hH hS hA hc1 hs1 kk => ?_) kk
  have hts := hX.2.2.2.2.2.2.2.1
  have hK := hX.2.2.2.2.2.2.2.2.1
  have h3 := rhclamp h0.2
  refine va_newa (ty := .int) hX.1 hX.2.1 (atype := .int) (hts _ hw) rfl hK hH.1 rhw_D hS hA (a0 := (n.toNatClampNeg, .inl (fun _ => 0))) (fun cA => rfl) (rhpos h0.1) rfl (rhbytes h3 (by decide)) hc1 hs1 hd (fun q cA H1 hK1 hP hD hS1 => ?_)
  have e := rhcy (i := 1) hK hK1 rfl
  subst e
  refine kk H1 q _ ?_ hP hD hS1
  rw [rhc_I (by simp [rhgn])]
  simp [rhgn, rhmn]
theorem rhF.newJ {n : Int32} (hd : decode cc pc = .ok (.newarray .long, 2)) (hw : Cond.arrayClass .long ∈ rhTs) (h0 : 0 ≤ n.toInt ∧ n.toInt ≤ 67108864) (kk : rhF E d nL y cc rt Γ0 emb x (pc + 2) L (rhR (nu (Γ.1 + 1)) :: S) (rhgn Γ 16 n.toNatClampNeg n.toNatClampNeg) (rhmn M (nu (Γ.1 + 1)))) : rhF E d nL y cc rt Γ0 emb x pc L (rhI n :: S) Γ M := by
  refine rhF.stepN (fun p l e R s m args below meth c H locs cells slots Q ls hX hl hH hS hA hc1 hs1 kk => ?_) kk
  have hts := hX.2.2.2.2.2.2.2.1
  have hK := hX.2.2.2.2.2.2.2.2.1
  have h3 := rhclamp h0.2
  refine va_newa (ty := .long) hX.1 hX.2.1 (atype := .long) (hts _ hw) rfl hK hH.1 rhw_D hS hA (a0 := (n.toNatClampNeg, .inr (.inl (fun _ => 0)))) (fun cA => rfl) (rhpos h0.1) rfl (rhbytes h3 (by decide)) hc1 hs1 hd (fun q cA H1 hK1 hP hD hS1 => ?_)
  have e := rhcy (i := 2) hK hK1 rfl
  subst e
  refine kk H1 q _ ?_ hP hD hS1
  rw [rhc_J (by simp [rhgn])]
  simp [rhgn, rhmn]
theorem rhF.newZ {n : Int32} (hd : decode cc pc = .ok (.newarray .boolean, 2)) (hw : Cond.arrayClass .boolean ∈ rhTs) (h0 : 0 ≤ n.toInt ∧ n.toInt ≤ 67108864) (kk : rhF E d nL y cc rt Γ0 emb x (pc + 2) L (rhR (nu (Γ.1 + 1)) :: S) (rhgn Γ 17 n.toNatClampNeg n.toNatClampNeg) (rhmn M (nu (Γ.1 + 1)))) : rhF E d nL y cc rt Γ0 emb x pc L (rhI n :: S) Γ M := by
  refine rhF.stepN (fun p l e R s m args below meth c H locs cells slots Q ls hX hl hH hS hA hc1 hs1 kk => ?_) kk
  have hts := hX.2.2.2.2.2.2.2.1
  have hK := hX.2.2.2.2.2.2.2.2.1
  have h3 := rhclamp h0.2
  refine va_newa (ty := .boolean) hX.1 hX.2.1 (atype := .boolean) (hts _ hw) rfl hK hH.1 rhw_D hS hA (a0 := (n.toNatClampNeg, .inl (fun _ => 0))) (fun cA => rfl) (rhpos h0.1) rfl (rhbytes h3 (by decide)) hc1 hs1 hd (fun q cA H1 hK1 hP hD hS1 => ?_)
  have e := rhcy (i := 3) hK hK1 rfl
  subst e
  refine kk H1 q _ ?_ hP hD hS1
  rw [rhc_Z (by simp [rhgn])]
  simp [rhgn, rhmn]
theorem rhF.newP {n : Int32} {idx : Nat} (hd : decode cc pc = .ok (.anewarray idx, 3)) (hw : Cond.classLink y.cls idx RX3 ∈ rhTs) (h0 : 0 ≤ n.toInt ∧ n.toInt ≤ 67108864) (kk : rhF E d nL y cc rt Γ0 emb x (pc + 3) L (rhR (nu (Γ.1 + 1)) :: S) (rhgn Γ 18 n.toNatClampNeg n.toNatClampNeg) (rhmn M (nu (Γ.1 + 1)))) : rhF E d nL y cc rt Γ0 emb x pc L (rhI n :: S) Γ M := by
  refine rhF.stepN (fun p l e R s m args below meth c H locs cells slots Q ls hX hl hH hS hA hc1 hs1 kk => ?_) kk
  have hts := hX.2.2.2.2.2.2.2.1
  have hK := hX.2.2.2.2.2.2.2.2.1
  have h3 := rhclamp h0.2
  refine va_newq (C := RX3) hX.1 hX.2.1 hX.2.2.2.2.2.2.1 (hts _ hw) hX.2.2.2.2.2.2.2.2.2.2.2.2.2.2.1 hK hH.1 rhw_D hS hA (rhpos h0.1) rfl (by omega) hc1 hs1 hd (fun q cA H1 hK1 hP hD hS1 => ?_)
  have e := rhcy (i := 4) hK hK1 rfl
  subst e
  refine kk H1 q _ ?_ hP hD hS1
  rw [rhc_P (by simp [rhgn])]
  simp [rhgn, rhmn, rhro]
theorem rhF.newS {n : Int32} {idx : Nat} (hd : decode cc pc = .ok (.anewarray idx, 3)) (hw : Cond.classLink y.cls idx RX7 ∈ rhTs) (h0 : 0 ≤ n.toInt ∧ n.toInt ≤ 67108864) (kk : rhF E d nL y cc rt Γ0 emb x (pc + 3) L (rhR (nu (Γ.1 + 1)) :: S) (rhgn Γ 19 n.toNatClampNeg n.toNatClampNeg) (rhmn M (nu (Γ.1 + 1)))) : rhF E d nL y cc rt Γ0 emb x pc L (rhI n :: S) Γ M := by
  refine rhF.stepN (fun p l e R s m args below meth c H locs cells slots Q ls hX hl hH hS hA hc1 hs1 kk => ?_) kk
  have hts := hX.2.2.2.2.2.2.2.1
  have hK := hX.2.2.2.2.2.2.2.2.1
  have h3 := rhclamp h0.2
  refine va_newq (C := RX7) hX.1 hX.2.1 hX.2.2.2.2.2.2.1 (hts _ hw) hX.2.2.2.2.2.2.2.2.2.2.2.2.2.2.2.1 hK hH.1 rhw_D hS hA (rhpos h0.1) rfl (by omega) hc1 hs1 hd (fun q cA H1 hK1 hP hD hS1 => ?_)
  have e := rhcy (i := 5) hK hK1 rfl
  subst e
  refine kk H1 q _ ?_ hP hD hS1
  rw [rhc_S (by simp [rhgn])]
  simp [rhgn, rhmn, rhro]
theorem rhF.zret {a : α} {v : Int32} {ty : FieldType} (hd : decode cc pc = .ok (.ireturn, 1)) (hr : rt = some ty) (hn : narrow ty (.int v) = .int v) (he : emb a = (some (rhI v), Γ, M)) : rhF E d nL y cc rt Γ0 emb (some a) pc L [rhI v] Γ M := by
  intro a' ha
  cases ha
  rw [he]
  refine ⟨Nat.le_refl _, Nat.le_refl _, fun p l e s m args below meth c hX g1 g2 H locs ls hH hS hl hA => ?_⟩
  exact W.zret hX.1 hX.2.1 (hX.2.2.1.trans hr) hn (fun t ht _ => ⟨rfl, by rw [ht]; exact hH, hS.F ht⟩) hS.2.2 hd hX.2.2.2.2.1
theorem rhF.lret {a : α} {v : Int64} (hd : decode cc pc = .ok (.lreturn, 1)) (hr : rt = some .long) (he : emb a = (some (rhJ v), Γ, M)) : rhF E d nL y cc rt Γ0 emb (some a) pc L [rhJ v] Γ M := by
  intro a' ha
  cases ha
  rw [he]
  refine ⟨Nat.le_refl _, Nat.le_refl _, fun p l e s m args below meth c hX g1 g2 H locs ls hH hS hl hA => ?_⟩
  exact W.lret hX.1 hX.2.1 (hX.2.2.1.trans hr) (fun t ht _ => ⟨rfl, by rw [ht]; exact hH, hS.F ht⟩) hS.2.2 hd hX.2.2.2.2.1
theorem rhF.vret {a : α} (hd : decode cc pc = .ok (.return_, 1)) (hr : rt = none) (he : emb a = (none, Γ, M)) : rhF E d nL y cc rt Γ0 emb (some a) pc L [] Γ M := by
  intro a' ha
  cases ha
  rw [he]
  refine ⟨Nat.le_refl _, Nat.le_refl _, fun p l e s m args below meth c hX g1 g2 H locs ls hH hS hl hA => ?_⟩
  exact W.vret hX.1 hX.2.1 (hX.2.2.1.trans hr) (fun t ht _ => ⟨rfl, by rw [ht]; exact hH, hS.F ht⟩) hS.2.2 hd hX.2.2.2.2.1
theorem rhP_blind {E : rhE} {As : List rhV} {Γ : rhG} {M : rhM} : FrameBlind (rhP E As Γ M) := fun a U g mk h => ⟨h.1, h.2.1, va_K.moved (u := U) (U := U.calling g mk a) (Vm.Alike.refl U.vm) h.2.2.1, h.2.2.2.same rfl⟩
/-- what is common to all calls -/
theorem rhF.stepC {β : Type} {g : Option β} {kf : β → Option α} {embc : β → rhO} {d' nL' : Nat} {y' : MethodName} {cc' : ByteArray} {rt' : Option FieldType} {As : List rhV} (hC : ∀ b, g = some b → rhC E d' y' cc' nL' rt' As Γ M (embc b)) (hdd : d' + 1 ≤ d) (hnl : nL' ≤ 21)
    (h : ∀ (b : β) (p : Program) (l : Launch) (e : Env) (R : Room) (s : State) (m : MethodId) (args : Array Value) (below : List Frame) (meth : Method) (c : Code) (H : Heap) (locs : List Loc) (cells slots : Nat) (ls : Array Slot), rhX E nL y cc rt p s m args meth c → lv_has ls nL (rhL E L) → rhH E Γ M H → va_S (rhad E) s.heap H locs →
      Met l y' (Cond.code y' cc' nL' rt' :: rhTs) (rhrm d' Γ (embc b).2.1) (rhP E As Γ M) (rhQ E (embc b)) ((embc b).2.1.1 - Γ.1) ((embc b).2.1.2.1 - Γ.2.1) (rhad E) → (rhrm d' Γ (embc b).2.1).frames + 1 ≤ R.frames ∧ 8 + (nL' + 11) + (rhrm d' Γ (embc b).2.1).locals ≤ R.locals → cells + ((embc b).2.1.1 - Γ.1) ≤ R.cells ∧ slots + ((embc b).2.1.2.1 - Γ.2.1) ≤ R.slots →
      (∀ U : State, U.heap = H → s.WarmedH U.vm → rhP E As Γ M (As.map (rhv E)).toArray U) → ∃ ar, va_Run p l e R s m args below meth c H locs cells slots ((embc b).2.1.1 - Γ.1) ((embc b).2.1.2.1 - Γ.2.1) (F0 m pc ls (S.map (rhv E))) (S'.map (rhv E)) (rhQ E (embc b) ar) (rhad E))
    (kk : ∀ b, g = some b → rhF E d nL y cc rt Γ0 emb (kf b) (pc + 3) L ((embc b).1.toList ++ S') (embc b).2.1 (embc b).2.2) : rhF E d nL y cc rt Γ0 emb (g.bind kf) pc L S Γ M := by
  intro a ha
  obtain ⟨b, hb, hkb⟩ := Option.bind_eq_some_iff.mp ha
  obtain ⟨h1, h2, kk⟩ := kk b hb a hkb
  obtain ⟨c1, c2, hM⟩ := hC b hb
  refine ⟨Nat.le_trans c1 h1, Nat.le_trans c2 h2, fun p l e s m args below meth c hX g1 g2 H locs ls hH hS hl hA => ?_⟩
  obtain ⟨ar, hrun⟩ := h b p l e (rhrm d Γ0 (emb a).2.1) s m args below meth c H locs (Γ.1 - Γ0.1) (Γ.2.1 - Γ0.2.1) ls hX hl hH hS (hM l) ⟨hdd, by show 8 + (nL' + 11) + 40 * d' ≤ 40 * d; omega⟩ ⟨by show _ ≤ (emb a).2.1.1 - Γ0.1; omega, by show _ ≤ (emb a).2.1.2.1 - Γ0.2.1; omega⟩
    (fun U hU hW => ⟨rfl, by rw [hU]; exact hH, va_K.moved hW.alike hX.2.2.2.2.2.2.2.2.1, by rw [hU]; exact hX.2.2.2.2.2.2.2.2.2.go (by omega) hW hS⟩)
  intro T hT X
  obtain ⟨v, st₀, t, T', L2, e0, X', hL2, e1, e2, ⟨q1, q2, q3⟩, st⟩ := hrun T hT X
  cases q1
  have q31 := q3.1
  have q32 := q3.2
  rw [e0] at q31 q32
  have hS' : va_S (rhad E) s.heap T'.heap (locs ++ L2) := by
    refine ⟨Nat.le_trans hS.1 (by rw [e1]; exact q31), fun q z1 z2 => ?_, fun q hq => ?_⟩
    · rw [e1]
      exact (q32 q (Nat.lt_of_lt_of_le z1 hS.1) z2).trans (hS.2.1 q z1 z2)
    · rcases List.mem_append.mp hq with z | z
      · exact hS.2.2 q z
      · exact hL2 q z
  have h5 := kk p l e s m args below meth c hX (by omega) (by omega) T'.heap (locs ++ L2) ls (by rw [e1]; exact q2) hS' hl hA
  have e5 : (((embc b).1.toList ++ S').map (rhv E)) = ((embc b).1.map (rhv E)).toList ++ S'.map (rhv E) := by
    rw [List.map_append]
    cases (embc b).1 <;> rfl
  rw [e5] at h5
  obtain ⟨t2, a1, b1⟩ := h5 T' rfl (stand_widen X' (by omega) (by omega))
  exact ⟨t2, st t2 a1, b1⟩
theorem rhgood : GoodIn rhTs rhTs := fun w h => ⟨h, rhTs_good w h⟩
theorem rhgoodc {w : Cond} (h : w ∈ rhTs) : GoodIn rhTs (w :: rhTs) := fun u hu => by
  rcases List.mem_cons.mp hu with rfl | hu
  · exact ⟨h, rhTs_good _ h⟩
  · exact ⟨hu, rhTs_good _ hu⟩
/-- a method reference of a class's pool -/
def rhMl (own : String) (idx : Nat) (y' : MethodName) (cc' : ByteArray) (nL' : Nat) (rt' : Option FieldType) (n : Nat) : Prop := Cond.methodLink own idx y' ∈ rhTs ∧ Cond.initialized y'.cls ∈ rhTs ∧ Cond.code y' cc' nL' rt' ∈ rhTs ∧ (y'.cls ≠ "java/lang/invoke/MethodHandle" ∧ y'.cls ≠ "java/lang/invoke/VarHandle" ∧ (parseMethodDescriptor y'.desc).map (fun d => d.parameters.length) = some n)
theorem rhF.callV {β : Type} {g : Option β} {kf : β → Option α} {embc : β → rhO} {d' nL' idx r ci : Nat} {y' : MethodName} {cc' : ByteArray} {rt' : Option FieldType} (As : List rhV) (hd : decode cc pc = .ok (.invokevirtual idx, 3)) (hl : rhMl y.cls idx y' cc' nL' rt' As.length) (hi : Cond.instanceMethod y' ∈ rhTs ∧ Cond.selects y'.cls y' y' ∈ rhTs) (hci : ∃ q : vw_C, vwCl[ci]? = some q ∧ q.1 = y'.cls) (hr : Γ.2.2.1 r = ci + 1) (hC : ∀ b, g = some b → rhC E d' y' cc' nL' rt' (rhR r :: As) Γ M (embc b)) (hdd : d' + 1 ≤ d) (hnl : nL' ≤ 21) (hS0 : S' = As.reverse ++ rhR r :: S) (hcat : (S.map rhcat).sum ≤ 8)
    (kk : ∀ b, g = some b → rhF E d nL y cc rt Γ0 emb (kf b) (pc + 3) L ((embc b).1.toList ++ S) (embc b).2.1 (embc b).2.2) : rhF E d nL y cc rt Γ0 emb (g.bind kf) pc L S' Γ M := by
  subst hS0
  refine rhF.stepC hC hdd hnl (fun b p l e R s m args below meth c H locs cells slots ls hX hlv hH hS hM hR hf hP => ?_) kk
  have hts := hX.2.2.2.2.2.2.2.1
  have hr0 : Γ.2.2.1 r ≠ 0 := by omega
  have b1 := (hH.2.2 r hr0).1
  obtain ⟨q, hq, hqy⟩ := hci
  obtain ⟨hfn, h13⟩ := rhcl_fn ci q hq
  have hcell := hH.cell hr0
  rw [rhc_obj hr h13] at hcell
  have hrec := va_recv hX.2.2.2.2.2.2.2.2.1 hH.1 hq hcell
  rw [hqy] at hrec
  refine ⟨_, va_runV (As := As.map (rhv E)) (rest := S.map (rhv E)) ⟨hX.1, hX.2.1, hX.2.2.2.1, hX.2.2.2.2.2.2.1, hts⟩ hM ⟨callB_of As.length hts (rhgoodc hl.2.2.1) rfl rfl rfl (hts _ hl.2.1) (hts _ hl.1) hl.2.2.2 hR, hts _ hi.1, hts _ hi.2⟩ ⟨rhP_blind, hrec, fun U hU hW => ?_⟩ rfl (by rw [List.length_map]) hlv.1 (by rw [List.map_append, List.map_reverse, List.map_cons, rhv_ref b1]) (lv_room (by rw [rhcats]; exact hcat)) hd hf⟩
  have h6 := hP U hU hW
  rw [List.map_cons, rhv_ref b1] at h6
  exact h6
theorem rhF.callS {β : Type} {g : Option β} {kf : β → Option α} {embc : β → rhO} {d' nL' idx : Nat} {y' : MethodName} {cc' : ByteArray} {rt' : Option FieldType} (As : List rhV) (hd : decode cc pc = .ok (.invokestatic idx, 3)) (hl : rhMl y.cls idx y' cc' nL' rt' As.length) (hi : Cond.static y' ∈ rhTs) (hC : ∀ b, g = some b → rhC E d' y' cc' nL' rt' As Γ M (embc b)) (hdd : d' + 1 ≤ d) (hnl : nL' ≤ 21) (hS0 : S' = As.reverse ++ S) (hcat : (S.map rhcat).sum ≤ 8)
    (kk : ∀ b, g = some b → rhF E d nL y cc rt Γ0 emb (kf b) (pc + 3) L ((embc b).1.toList ++ S) (embc b).2.1 (embc b).2.2) : rhF E d nL y cc rt Γ0 emb (g.bind kf) pc L S' Γ M := by
  subst hS0
  refine rhF.stepC hC hdd hnl (fun b p l e R s m args below meth c H locs cells slots ls hX hlv hH hS hM hR hf hP => ?_) kk
  have hts := hX.2.2.2.2.2.2.2.1
  exact ⟨_, va_runS (As := As.map (rhv E)) (rest := S.map (rhv E)) ⟨hX.1, hX.2.1, hX.2.2.2.1, hX.2.2.2.2.2.2.1, hts⟩ hM ⟨callB_of As.length hts (rhgoodc hl.2.2.1) rfl rfl rfl (hts _ hl.2.1) (hts _ hl.1) hl.2.2.2 hR, hts _ hi⟩ ⟨rhP_blind, hP⟩ rfl (by rw [List.length_map]) hlv.1 (by rw [List.map_append, List.map_reverse]) (lv_room (by rw [rhcats]; exact hcat)) hd hf⟩
theorem rhF.callI {β : Type} {g : Option β} {kf : β → Option α} {embc : β → rhO} {d' nL' idx r : Nat} {y' : MethodName} {cc' : ByteArray} (As : List rhV) (hd : decode cc pc = .ok (.invokespecial idx, 3)) (hl : rhMl y.cls idx y' cc' nL' none As.length) (hi : Cond.instanceMethod y' ∈ rhTs ∧ y'.name = "<init>") (hr : Γ.2.2.1 r ≠ 0) (hC : ∀ b, g = some b → rhC E d' y' cc' nL' none (rhR r :: As) Γ M (embc b)) (hdd : d' + 1 ≤ d) (hnl : nL' ≤ 21) (hS0 : S' = As.reverse ++ rhR r :: S) (hcat : (S.map rhcat).sum ≤ 8)
    (kk : ∀ b, g = some b → rhF E d nL y cc rt Γ0 emb (kf b) (pc + 3) L ((embc b).1.toList ++ S) (embc b).2.1 (embc b).2.2) : rhF E d nL y cc rt Γ0 emb (g.bind kf) pc L S' Γ M := by
  subst hS0
  refine rhF.stepC hC hdd hnl (fun b p l e R s m args below meth c H locs cells slots ls hX hlv hH hS hM hR hf hP => ?_) kk
  have hts := hX.2.2.2.2.2.2.2.1
  have b1 := (hH.2.2 r hr).1
  refine ⟨_, va_runI (As := As.map (rhv E)) (rest := S.map (rhv E)) ⟨hX.1, hX.2.1, hX.2.2.2.1, hX.2.2.2.2.2.2.1, hts⟩ hM ⟨callB_of As.length hts (rhgoodc hl.2.2.1) rfl rfl rfl (hts _ hl.2.1) (hts _ hl.1) hl.2.2.2 hR, hi.2, hts _ hi.1⟩ ⟨rhP_blind, fun U hU hW => ?_⟩ rfl (by rw [List.length_map]) hlv.1 (by rw [List.map_append, List.map_reverse, List.map_cons, rhv_ref b1]) (lv_room (by rw [rhcats]; exact hcat)) hd hf⟩
  have h6 := hP U hU hW
  rw [List.map_cons, rhv_ref b1] at h6
  exact h6
theorem rhF.callIN {β : Type} {g : Option β} {kf : β → Option α} {embc : β → rhO} {d' nL' idx r : Nat} {y' : MethodName} {cc' : ByteArray} (host : String) (As : List rhV) (hd : decode cc pc = .ok (.invokespecial idx, 3)) (hl : (y.cls, idx, y', host) ∈ rhnl) (hl2 : Cond.initialized y'.cls ∈ rhTs ∧ Cond.code y' cc' nL' none ∈ rhTs ∧ (y'.cls ≠ "java/lang/invoke/MethodHandle" ∧ y'.cls ≠ "java/lang/invoke/VarHandle" ∧ (parseMethodDescriptor y'.desc).map (fun d => d.parameters.length) = some As.length)) (hi : Cond.instanceMethod y' ∈ rhTs ∧ y'.name = "<init>") (hr : Γ.2.2.1 r ≠ 0) (hC : ∀ b, g = some b → rhC E d' y' cc' nL' none (rhR r :: As) Γ M (embc b)) (hdd : d' + 1 ≤ d) (hnl : nL' ≤ 21) (hS0 : S' = As.reverse ++ rhR r :: S) (hcat : (S.map rhcat).sum ≤ 8)
    (kk : ∀ b, g = some b → rhF E d nL y cc rt Γ0 emb (kf b) (pc + 3) L ((embc b).1.toList ++ S) (embc b).2.1 (embc b).2.2) : rhF E d nL y cc rt Γ0 emb (g.bind kf) pc L S' Γ M := by
  subst hS0
  refine rhF.stepC hC hdd hnl (fun b p l e R s m args below meth c H locs cells slots ls hX hlv hH hS hM hR hf hP => ?_) kk
  have hts := hX.2.2.2.2.2.2.2.1
  have b1 := (hH.2.2 r hr).1
  refine ⟨_, va_runIN (As := As.map (rhv E)) (rest := S.map (rhv E)) ⟨hX.1, hX.2.1, hX.2.2.2.1, hX.2.2.2.2.2.2.1, hts⟩ hM ⟨va_cnB As.length hts (rhgoodc hl2.2.1) rfl rfl rfl (hX.2.2.2.2.2.2.2.2.2.2.2.2.2.2.2.2.1 _ hl) (hts _ hl2.1) hl2.2.2 hR, hi.2, hts _ hi.1⟩ ⟨rhP_blind, fun U hU hW => ?_⟩ rfl (by rw [List.length_map]) hlv.1 (by rw [List.map_append, List.map_reverse, List.map_cons, rhv_ref b1]) (lv_room (by rw [rhcats]; exact hcat)) hd hf⟩
  have h6 := hP U hU hW
  rw [List.map_cons, rhv_ref b1] at h6
  exact h6
/-- Object.<init> -/
theorem rhF.objInit {idx r : Nat} (hd : decode cc pc = .ok (.invokespecial idx, 3)) (hl : Cond.methodLink y.cls idx Lib.objectInit ∈ rhTs ∧ Cond.instanceMethod Lib.objectInit ∈ rhTs ∧ Cond.code Lib.objectInit ⟨#[0xb1]⟩ 1 none ∈ rhTs) (hr : Γ.2.2.1 r ≠ 0) (hd1 : 1 ≤ d) (hcat : (S.map rhcat).sum ≤ 8) (k : rhF E d nL y cc rt Γ0 emb x (pc + 3) L S Γ M) : rhF E d nL y cc rt Γ0 emb x pc L (rhR r :: S) Γ M := by
  intro a ha
  obtain ⟨h1, h2, k⟩ := k a ha
  refine ⟨h1, h2, fun p l e s m args below meth c hX g1 g2 H locs ls hH hS hl' hA => ?_⟩
  have hts := hX.2.2.2.2.2.2.2.1
  have h3 := k p l e s m args below meth c hX g1 g2 H locs ls hH hS hl' hA
  rw [List.map_cons, rhv_ref (hH.2.2 r hr).1]
  refine W.objInit hX.1 hX.2.1 hX.2.2.2.2.2.2.1 (hts _ hl.1) (hts _ hl.2.1) (hts _ hl.2.2) rfl (hl'.1.trans hX.2.2.2.1.symm) rfl hd hd1 ?_ h3
  show 2 * 0 + ((S.map (rhv E)).map fun v => v.category).sum + 12 ≤ 40 * d
  rw [rhcats]
  omega
/-- Math.max, Math.min -/
theorem rhF.mmax {idx : Nat} {v w : Int32} (hd : decode cc pc = .ok (.invokestatic idx, 3)) (hl : Cond.methodLink y.cls idx Lib.Math.max.name ∈ rhTs ∧ Cond.static Lib.Math.max.name ∈ rhTs ∧ Cond.initialized "java/lang/Math" ∈ rhTs ∧ Cond.code Lib.Math.max.name Lib.Math.max.code 2 (some .int) ∈ rhTs) (hd1 : 1 ≤ d) (hcat : (S.map rhcat).sum ≤ 8) (k : rhF E d nL y cc rt Γ0 emb x (pc + 3) L (rhI (if v < w then w else v) :: S) Γ M) : rhF E d nL y cc rt Γ0 emb x pc L (rhI w :: rhI v :: S) Γ M := by
  intro a ha
  obtain ⟨h1, h2, k⟩ := k a ha
  refine ⟨h1, h2, fun p l e s m args below meth c hX g1 g2 H locs ls hH hS hl' hA => ?_⟩
  have hts := hX.2.2.2.2.2.2.2.1
  have h3 := k p l e s m args below meth c hX g1 g2 H locs ls hH hS hl' hA
  refine va_mmax hX.1 hX.2.1 (hX.2.2.2.1.trans hl'.1.symm) hX.2.2.2.2.2.2.1 (hts _ hl.1) (hts _ hl.2.1) (hts _ hl.2.2.1) (hts _ hl.2.2.2) hd1 ?_ (by show _ ≤ (emb a).2.1.1 - Γ0.1; omega) (by show _ ≤ (emb a).2.1.2.1 - Γ0.2.1; omega) hd h3
  show ((S.map (rhv E)).map fun v => v.category).sum + 13 ≤ 40 * d
  rw [rhcats]
  omega
theorem rhF.mmin {idx : Nat} {v w : Int32} (hd : decode cc pc = .ok (.invokestatic idx, 3)) (hl : Cond.methodLink y.cls idx Lib.Math.min.name ∈ rhTs ∧ Cond.static Lib.Math.min.name ∈ rhTs ∧ Cond.initialized "java/lang/Math" ∈ rhTs ∧ Cond.code Lib.Math.min.name Lib.Math.min.code 2 (some .int) ∈ rhTs) (hd1 : 1 ≤ d) (hcat : (S.map rhcat).sum ≤ 8) (k : rhF E d nL y cc rt Γ0 emb x (pc + 3) L (rhI (if w < v then w else v) :: S) Γ M) : rhF E d nL y cc rt Γ0 emb x pc L (rhI w :: rhI v :: S) Γ M := by
  intro a ha
  obtain ⟨h1, h2, k⟩ := k a ha
  refine ⟨h1, h2, fun p l e s m args below meth c hX g1 g2 H locs ls hH hS hl' hA => ?_⟩
  have hts := hX.2.2.2.2.2.2.2.1
  have h3 := k p l e s m args below meth c hX g1 g2 H locs ls hH hS hl' hA
  refine va_mmin hX.1 hX.2.1 (hX.2.2.2.1.trans hl'.1.symm) hX.2.2.2.2.2.2.1 (hts _ hl.1) (hts _ hl.2.1) (hts _ hl.2.2.1) (hts _ hl.2.2.2) hd1 ?_ (by show _ ≤ (emb a).2.1.1 - Γ0.1; omega) (by show _ ≤ (emb a).2.1.2.1 - Γ0.2.1; omega) hd h3
  show ((S.map (rhv E)).map fun v => v.category).sum + 13 ≤ 40 * d
  rw [rhcats]
  omega
end RHN
