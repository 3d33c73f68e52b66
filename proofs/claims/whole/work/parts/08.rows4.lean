/-! entry of a method, arraycopy -/
def rhargs : Nat → List rhV → List (Nat × rhV)
  | _, [] => []
  | i, v :: vs => (i, v) :: rhargs (if rhcat v = 2 then i + 2 else i + 1) vs
theorem rhargs_eq (E : rhE) : ∀ (vs : List rhV) (i : Nat), lv_args i (vs.map (rhv E)) = rhL E (rhargs i vs)
  | [], i => rfl
  | v :: vs, i => by
    rw [List.map_cons, lv_args, rhargs, rhL, List.map_cons, rhv_cat, rhargs_eq E vs]
    rfl
theorem rhargs_len (E : rhE) : ∀ (vs : List rhV), (lg_sl (vs.map (rhv E))).length = (vs.map rhcat).sum
  | [] => rfl
  | v :: vs => by
    have ih := rhargs_len E vs
    rw [List.map_cons, List.map_cons, List.sum_cons, ← ih, lg_sl, List.flatMap_cons, List.length_append, rhv_cat]
    rcases v with x | x | r | i <;> rfl
section RHE
variable {E : rhE} {d nL : Nat} {y : MethodName} {cc : ByteArray} {rt : Option FieldType} {Γ0 : rhG} {α : Type} {emb : α → rhO} {x x1 x2 : Option α} {pc : Nat} {L L' : List (Nat × rhV)} {S S' : List rhV} {Γ : rhG} {M : rhM}
theorem rhC.of {As : List rhV} {o : rhO} (hy : plainName y.cls = true) (hlen : (As.map rhcat).sum ≤ nL) (k : rhW E d nL y cc rt Γ o 0 (rhargs 0 As) [] Γ M) : rhC E d y cc nL rt As Γ M o := by
  obtain ⟨h1, h2, k⟩ := k
  refine ⟨h1, h2, fun l => ?_⟩
  refine Met.ofW (cc := cc) (maxL := nL) (ret := rt) hy rfl ?_
  intro p e s m args below meth c s₁ B hml hv
  obtain ⟨rfl, hH, hK, hS⟩ := hv
  have hts := atoms_spec (ws := Cond.code y cc nL rt :: rhTs) B.pre
  have hX : rhX E nL y cc rt p s m (As.map (rhv E)).toArray meth c := ⟨B.exec, B.bytes, B.returns, hml, B.notSynchronized, (name_of_methodNamed B.named B.method).1, findClass_of_methodNamed B.named, fun w hw => hts w (List.mem_cons_of_mem _ hw), hK, hS⟩
  have hl := lv_entry (As.map (rhv E)) (n := nL) (by rw [rhargs_len]; exact hlen)
  rw [rhargs_eq] at hl
  rw [lg_entry_eq]
  have h3 := k p l e s m (As.map (rhv E)).toArray below meth c hX (Nat.le_refl _) (Nat.le_refl _) s.heap [] _ hH va_S.rf hl hH.2.1
  rw [Nat.sub_self, Nat.sub_self] at h3
  exact h3
theorem rhF.met {As : List rhV} (hy : plainName y.cls = true) (hlen : (As.map rhcat).sum ≤ nL) (k : rhF E d nL y cc rt Γ emb x 0 (rhargs 0 As) [] Γ M) : ∀ a, x = some a → rhC E d y cc nL rt As Γ M (emb a) := fun a ha => rhC.of hy hlen (k a ha)
def rhcp (M : rhM) (a b : Nat) (sp dp n : Nat) : rhM := (fun r k => if r = b ∧ dp ≤ k ∧ k < dp + n then M.1 a (sp + (k - dp)) else M.1 r k, M.2)
theorem rhF.copyI {idx a b : Nat} {sp dp n : Int32} (hd : decode cc pc = .ok (.invokestatic idx, 3)) (hl : Cond.methodLink y.cls idx arraycopyName ∈ rhTs ∧ Cond.native arraycopyName ∈ rhTs ∧ Cond.static arraycopyName ∈ rhTs ∧ Cond.initialized "java/lang/System" ∈ rhTs) (ha : Γ.2.2.1 a = 15) (hb : Γ.2.2.1 b = 15)
    (h : 0 ≤ sp.toInt ∧ 0 ≤ dp.toInt ∧ 0 ≤ n.toInt ∧ sp.toInt + n.toInt ≤ (Γ.2.2.2 a : Int) ∧ dp.toInt + n.toInt ≤ (Γ.2.2.2 b : Int)) (hd1 : 1 ≤ d) (hcat : (S.map rhcat).sum ≤ 8) (k : rhF E d nL y cc rt Γ0 emb x (pc + 3) L S Γ (rhcp M a b sp.toNatClampNeg dp.toNatClampNeg n.toNatClampNeg)) : rhF E d nL y cc rt Γ0 emb x pc L (rhI n :: rhI dp :: rhR b :: rhI sp :: rhR a :: S) Γ M := by
  obtain ⟨g1, g2, g3, g4, g5⟩ := h
  have hnat : ∀ z : Int32, 0 ≤ z.toInt → (z.toNatClampNeg : Int) = z.toInt := fun z hz => by
    show ((z.toInt.toNat : Nat) : Int) = z.toInt
    omega
  have q1 := hnat sp g1
  have q2 := hnat dp g2
  have q3 := hnat n g3
  intro o ho
  obtain ⟨h1, h2, k⟩ := k o ho
  refine ⟨h1, h2, fun p l e s m args below meth c hX e1 e2 H locs ls hH hS hl' hA => ?_⟩
  have hts := hX.2.2.2.2.2.2.2.1
  obtain ⟨a1, a2⟩ := hH.2.2 a (by omega)
  obtain ⟨b1, b2⟩ := hH.2.2 b (by omega)
  rw [List.map_cons, List.map_cons, List.map_cons, List.map_cons, List.map_cons, rhv_ref a1, rhv_ref b1]
  have hca := hH.cell (r := a) (by omega)
  have hcb := hH.cell (r := b) (by omega)
  rw [rhc_I ha] at hca
  rw [rhc_I hb] at hcb
  refine va_copyi hX.1 hX.2.1 (hX.2.2.2.1.trans hl'.1.symm) hX.2.2.2.2.2.2.1 (hts _ hl.1) (hts _ hl.2.1) (hts _ hl.2.2.1) (hts _ hl.2.2.2) hX.2.2.2.2.2.2.2.2.1 hH.1 rhw_D hS (nv a - 1) (nv b - 1) 1 1 hca hcb rfl rfl rfl (rhpos g1) (rhpos g2) (rhpos g3) (by omega) (by omega) (fun i _ => rfl) hd1 ?_ hd (fun H1 locs1 hP1 _ hS1 => rh_sz (fun hz => ?_))
  · show ((S.map (rhv E)).map fun v => v.category).sum + _ ≤ 40 * d
    rw [rhcats]
    have : nativeFrameWords "java/lang/System" "arraycopy" 5 + 11 ≤ 32 := by decide +kernel
    omega
  · rw [rhw_set (M := M) (M' := rhcp M a b sp.toNatClampNeg dp.toNatClampNeg n.toNatClampNeg) b1 b2 (by rw [rhc_I hb]; congr 5; funext j; simp [rhcp, va_cpy]) (fun r hr => rhc_other (by funext j; simp [rhcp, hr]) rfl rfl)] at hP1
    exact k p l e s m args below meth c hX e1 e2 H1 locs1 ls (rhH.mk hP1 hH.2.2 (by omega) (by omega)) hS1 hl' hA
end RHE
