/-! rows of one instruction: the memory, calls, ends -/
theorem rh_sz {p : Program} {l : Launch} {e : Env} {R : Room} {s : State} {m : MethodId} {args : Array Value} {below : List Frame} {meth : Method} {c : Code} {H : Heap} {locs : List Loc} {cells slots : Nat} {Q : State → Prop} {g : JFrame}
    (k : H.size ≤ s.heap.size + cells → W p l e R s m args below meth c H locs cells slots Q g) : W p l e R s m args below meth c H locs cells slots Q g := fun T hT X => k (by rw [← hT]; exact X.heapSize) T hT X
theorem rhw_len {E : rhE} {Γ : rhG} {M : rhM} : (rhw E Γ M).length = Γ.1 := by rw [rhw, List.length_map, List.length_range]
theorem rhw_set {E : rhE} {Γ : rhG} {M M' : rhM} {r : Nat} (h0 : 1 ≤ nv r) (h1 : nv r ≤ Γ.1) {q : Nat × va_E} (hq : q = (E.1 + (nv r - 1), rhc E Γ M' r)) (ho : ∀ r', r' ≠ r → rhc E Γ M' r' = rhc E Γ M r') : (rhw E Γ M).set (nv r - 1) q = rhw E Γ M' := by
  subst hq
  refine List.ext_getElem? fun k => ?_
  by_cases e : k = nv r - 1
  · subst e
    rw [List.getElem?_set_self (by rw [rhw_len]; omega), rhw_at h0 h1]
  · rw [List.getElem?_set_ne (Ne.symm e)]
    rw [rhw, rhw, List.getElem?_map, List.getElem?_map]
    cases h : (List.range Γ.1)[k]? with
    | none => rfl
    | some j =>
      obtain ⟨hj, hj2⟩ := List.getElem?_eq_some_iff.mp h
      simp only [List.getElem_range] at hj2
      subst hj2
      simp only [Option.map_some]
      rw [ho (nu (k + 1)) (fun e2 => e (by rw [← e2, nv_nu]; omega))]
theorem rhw_app {E : rhE} {Γ Γ' : rhG} {M M' : rhM} (hg : Γ'.1 = Γ.1 + 1) {q : Nat × va_E} (hq : q = (E.1 + Γ.1, rhc E Γ' M' (nu (Γ.1 + 1)))) (ho : ∀ r', r' ≠ nu (Γ.1 + 1) → rhc E Γ' M' r' = rhc E Γ M r') : rhw E Γ M ++ [q] = rhw E Γ' M' := by
  subst hq
  rw [rhw, rhw, hg, List.range_succ, List.map_append]
  congr 1
  refine List.map_congr_left fun k hk => ?_
  have := List.mem_range.mp hk
  rw [ho (nu (k + 1)) (nv_ne (by rw [nv_nu]; omega))]
theorem rhH.mk {E : rhE} {Γ : rhG} {M : rhM} {H : Heap} (hP : va_P E.2.1 vwCl (rhw E Γ M) H) (hk : ∀ r, Γ.2.2.1 r ≠ 0 → 1 ≤ nv r ∧ nv r ≤ Γ.1) (h1 : 1 ≤ Γ.1) (hu : H.size ≤ E.1 + Γ.1) : rhH E Γ M H := by
  refine ⟨hP, ?_, hk⟩
  have h2 := (hP _ _ (rhw_at (E := E) (Γ := Γ) (M := M) (r := nu Γ.1) (by rw [nv_nu]; exact h1) (by rw [nv_nu]; exact Nat.le_refl _))).lt
  rw [nv_nu] at h2
  dsimp only at h2
  omega
theorem rhfs {α : Type} {n k : Nat} (f : Nat → α) (h : k < n) : ((List.range n).map f)[k]? = some (f k) := by
  rw [List.getElem?_map, List.getElem?_range h]; rfl
theorem rhfset {α : Type} {n k : Nat} (f g : Nat → α) (v : α) (h : k < n) (h1 : g k = v) (h2 : ∀ j, j ≠ k → g j = f j) : ((List.range n).map f).set k v = (List.range n).map g := by
  refine List.ext_getElem? fun j => ?_
  by_cases e : j = k
  · subst e
    rw [List.getElem?_set_self (by simpa using h), rhfs g h, h1]
  · rw [List.getElem?_set_ne (Ne.symm e), List.getElem?_map, List.getElem?_map]
    cases hj : (List.range n)[j]? with
    | none => rfl
    | some i =>
      obtain ⟨hi, hi2⟩ := List.getElem?_eq_some_iff.mp hj
      simp only [List.getElem_range] at hi2
      subst hi2
      simp only [Option.map_some, h2 j e]
/-- a field reference of a class's pool: the class ci's field k -/
def rhFl (own : String) (idx ci k : Nat) : Prop := ∃ q : vw_C, vwCl[ci]? = some q ∧ k < q.2.2 ∧ Cond.fieldLink own idx (q.2.1 k).1 (q.2.1 k).2.1 (q.2.1 k).2.2.1 ∈ rhTs
theorem rhis (M : rhM) (r k : Nat) (v : Int32) : (rhsi M r k v).1 r k = v := by simp [rhsi]
theorem rhls (M : rhM) (r k : Nat) (v : Int64) : (rhsl M r k v).2.1 r k = v := by simp [rhsl]
theorem rhrs (M : rhM) (r k : Nat) (v : Nat) : (rhsr M r k v).2.2 r k = v := by simp [rhsr]
theorem rhin_vp {i : Int32} {n : Nat} (h : 0 ≤ i.toInt ∧ i.toInt < (n : Int)) : vp_in i n := vp_in_iff.mpr h

section RHM
variable {E : rhE} {d nL : Nat} {y : MethodName} {cc : ByteArray} {rt : Option FieldType} {Γ0 : rhG} {α : Type} {emb : α → rhO} {x x1 x2 : Option α} {pc : Nat} {L L' : List (Nat × rhV)} {S S' : List rhV} {Γ : rhG} {M : rhM}

theorem rhF.chk {c : Prop} [Decidable c] (k : c → rhF E d nL y cc rt Γ0 emb x pc L S Γ M) : rhF E d nL y cc rt Γ0 emb (if c then x else Option.none) pc L S Γ M := rhF.ite k (fun _ => rhF.nope)
/-- a step over the memory as it is -/
theorem rhF.stepH {pc' : Nat} (h : ∀ (p : Program) (l : Launch) (e : Env) (R : Room) (s : State) (m : MethodId) (args : Array Value) (below : List Frame) (meth : Method) (c : Code) (H : Heap) (locs : List Loc) (cells slots : Nat) (Q : State → Prop) (ls : Array Slot), rhX E nL y cc rt p s m args meth c → lv_has ls nL (rhL E L) → rhH E Γ M H → va_S (rhad E) s.heap H locs →
      W p l e R s m args below meth c H locs cells slots Q (F0 m pc' ls (S'.map (rhv E))) → W p l e R s m args below meth c H locs cells slots Q (F0 m pc ls (S.map (rhv E))))
    (k : rhF E d nL y cc rt Γ0 emb x pc' L S' Γ M) : rhF E d nL y cc rt Γ0 emb x pc L S Γ M := by
  intro a ha
  obtain ⟨h1, h2, k⟩ := k a ha
  exact ⟨h1, h2, fun p l e s m args below meth c hX g1 g2 H locs ls hH hS hl hA => h p l e _ s m args below meth c H locs _ _ _ ls hX hl hH hS (k p l e s m args below meth c hX g1 g2 H locs ls hH hS hl hA)⟩
/-- a step that changes the memory of cells that are there -/
theorem rhF.stepM {pc' r : Nat} {M' : rhM} (hr : Γ.2.2.1 r ≠ 0) (h : ∀ (p : Program) (l : Launch) (e : Env) (R : Room) (s : State) (m : MethodId) (args : Array Value) (below : List Frame) (meth : Method) (c : Code) (H : Heap) (locs : List Loc) (cells slots : Nat) (Q : State → Prop) (ls : Array Slot), rhX E nL y cc rt p s m args meth c → lv_has ls nL (rhL E L) → rhH E Γ M H → va_S (rhad E) s.heap H locs → 1 ≤ nv r → nv r ≤ Γ.1 →
      (∀ (H1 : Heap) (locs1 : List Loc), va_P E.2.1 vwCl (rhw E Γ M') H1 → va_S (rhad E) s.heap H1 locs1 → W p l e R s m args below meth c H1 locs1 cells slots Q (F0 m pc' ls (S'.map (rhv E)))) → W p l e R s m args below meth c H locs cells slots Q (F0 m pc ls (S.map (rhv E))))
    (k : rhF E d nL y cc rt Γ0 emb x pc' L S' Γ M') : rhF E d nL y cc rt Γ0 emb x pc L S Γ M := by
  intro a ha
  obtain ⟨h1, h2, k⟩ := k a ha
  refine ⟨h1, h2, fun p l e s m args below meth c hX g1 g2 H locs ls hH hS hl hA => ?_⟩
  obtain ⟨hr1, hr2⟩ := hH.2.2 r hr
  refine h p l e _ s m args below meth c H locs _ _ _ ls hX hl hH hS hr1 hr2 (fun H1 locs1 hP1 hS1 => rh_sz (fun hz => k p l e s m args below meth c hX g1 g2 H1 locs1 ls (rhH.mk hP1 hH.2.2 (by omega) ?_) hS1 hl hA))
  rw [hA] at hz
  omega
theorem rhF.get {r ci idx k : Nat} (v : rhV) (hd : decode cc pc = .ok (.getfield idx, 3)) (hf : rhFl y.cls idx ci k) (hr : Γ.2.2.1 r = ci + 1) (hv : rhv E v = rhfv E (rhty ci k) M r k) (kk : rhF E d nL y cc rt Γ0 emb x (pc + 3) L (v :: S) Γ M) : rhF E d nL y cc rt Γ0 emb x pc L (rhR r :: S) Γ M := by
  refine rhF.stepH (fun p l e R s m args below meth c H locs cells slots Q ls hX hl hH hS kk => ?_) kk
  obtain ⟨q, hq, hk, hlink⟩ := hf
  obtain ⟨hfn, h13⟩ := rhcl_fn ci q hq
  have hr0 : Γ.2.2.1 r ≠ 0 := by omega
  rw [List.map_cons, rhv_ref (hH.2.2 r hr0).1]
  have hcell := hH.cell hr0
  rw [rhc_obj hr h13, hfn] at hcell
  exact va_get (C := q.1) (T := q.2.1) (N := q.2.2) hX.1 hX.2.1 (Ts := rhTs) hX.2.2.2.2.2.2.2.1 (rhcl_in ci q hq) hX.2.2.2.2.2.2.1 hX.2.2.2.2.2.2.2.2.1 hH.1 (nv r - 1) hcell hq k hk (hX.2.2.2.2.2.2.2.1 _ hlink) (fun x h => h) (v := rhv E v) (by rw [hv]; exact rhfs _ hk) hd kk
theorem rhput {p : Program} {l : Launch} {e : Env} {R : Room} {s : State} {m : MethodId} {args : Array Value} {below : List Frame} {meth : Method} {c : Code} {H : Heap} {locs : List Loc} {cells slots : Nat} {Q : State → Prop} {ls : Array Slot} {r ci idx k : Nat} {v : rhV} {M' : rhM} (hX : rhX E nL y cc rt p s m args meth c) (hH : rhH E Γ M H) (hS : va_S (rhad E) s.heap H locs) (hd : decode cc pc = .ok (.putfield idx, 3)) (hf : rhFl y.cls idx ci k) (hr : Γ.2.2.1 r = ci + 1)
    (hfin : ∀ q, vwCl[ci]? = some q → (q.2.1 k).2.2.2 = false ∨ (y.name = "<init>" ∧ (q.2.1 k).2.2.2 = true ∧ (q.2.1 k).1 = y.cls)) (hn : narrow (rhty ci k) (rhv E v) = rhv E v ∧ fits (rhty ci k) (rhv E v) = true)
    (h1 : rhfv E (rhty ci k) M' r k = rhv E v) (h2 : ∀ j, j ≠ k → rhfv E (rhty ci j) M' r j = rhfv E (rhty ci j) M r j) (ho : ∀ a, a ≠ r → rhc E Γ M' a = rhc E Γ M a)
    (kk : ∀ (H1 : Heap) (locs1 : List Loc), va_P E.2.1 vwCl (rhw E Γ M') H1 → va_S (rhad E) s.heap H1 locs1 → W p l e R s m args below meth c H1 locs1 cells slots Q (F0 m (pc + 3) ls (S.map (rhv E)))) : W p l e R s m args below meth c H locs cells slots Q (F0 m pc ls ((v :: rhR r :: S).map (rhv E))) := by
  obtain ⟨q, hq, hk, hlink⟩ := hf
  obtain ⟨hfn, h13⟩ := rhcl_fn ci q hq
  have hr0 : Γ.2.2.1 r ≠ 0 := by omega
  obtain ⟨b1, b2⟩ := hH.2.2 r hr0
  rw [List.map_cons, List.map_cons, rhv_ref b1]
  have hcell := hH.cell hr0
  rw [rhc_obj hr h13, hfn] at hcell
  have e0 : (E.1 + (nv r - 1), (Sum.inr (ci, ((List.range q.2.2).map (fun j => rhfv E (rhty ci j) M r j)).set k (rhv E v)) : va_E)) = (E.1 + (nv r - 1), rhc E Γ M' r) := by
    rw [rhc_obj hr h13, hfn, rhfset _ (fun j => rhfv E (rhty ci j) M' r j) _ hk h1 h2]
  have e1 := rhw_set (E := E) (Γ := Γ) (M := M) b1 b2 e0 ho
  rcases hfin q hq with h | ⟨ha, hb, hc⟩
  · refine va_put (C := q.1) (T := q.2.1) (N := q.2.2) hX.1 hX.2.1 (Ts := rhTs) hX.2.2.2.2.2.2.2.1 (rhcl_in ci q hq) (rhty ci) (rhcl_ty ci q hq) (rhcl_nm ci q hq) hX.2.2.2.2.2.2.1 hX.2.2.2.2.2.2.2.2.1 hH.1 rhw_D hS (nv r - 1) hcell hq k hk (hX.2.2.2.2.2.2.2.1 _ hlink) (fun x h => h) h (rhcl_ty ci q hq k hk) hn.1 hn.2 (by rw [List.length_map, List.length_range]; exact hk) hd (fun H1 locs1 hP1 _ hS1 => ?_)
    rw [e1] at hP1
    exact kk H1 locs1 hP1 hS1
  · refine va_putF (C := q.1) (T := q.2.1) (N := q.2.2) hX.1 hX.2.1 (Ts := rhTs) hX.2.2.2.2.2.2.2.1 (rhcl_in ci q hq) (rhty ci) (rhcl_ty ci q hq) (rhcl_nm ci q hq) hX.2.2.2.2.2.2.1 hX.2.2.2.2.2.2.2.2.1 hH.1 rhw_D hS (nv r - 1) hcell hq k hk (hX.2.2.2.2.2.2.2.1 _ hlink) (fun x h => h) hb (by rw [hX.2.2.2.2.2.1]; exact ha) hc (rhcl_ty ci q hq k hk) hn.1 hn.2 (by rw [List.length_map, List.length_range]; exact hk) hd (fun H1 locs1 hP1 _ hS1 => ?_)
    rw [e1] at hP1
    exact kk H1 locs1 hP1 hS1
theorem rhfv_o {t : FieldType} {M' : rhM} {r j : Nat} (h1 : M'.1 r j = M.1 r j) (h2 : M'.2.1 r j = M.2.1 r j) (h3 : M'.2.2 r j = M.2.2 r j) : rhfv E t M' r j = rhfv E t M r j := by
  unfold rhfv; rw [h1, h2, h3]
theorem rhfits_ref {t : FieldType} (ht : (∃ n, t = .object n) ∨ ∃ a, t = .array a) (o : Option Nat) : narrow t (va_rf o) = va_rf o ∧ fits t (va_rf o) = true := by
  rcases ht with ⟨n, rfl⟩ | ⟨a, rfl⟩ <;> cases o <;> exact ⟨rfl, rfl⟩

theorem rhF.puti {r ci idx k : Nat} {v : Int32} (hd : decode cc pc = .ok (.putfield idx, 3)) (hf : rhFl y.cls idx ci k) (hr : Γ.2.2.1 r = ci + 1) (hfin : ∀ q, vwCl[ci]? = some q → (q.2.1 k).2.2.2 = false ∨ (y.name = "<init>" ∧ (q.2.1 k).2.2.2 = true ∧ (q.2.1 k).1 = y.cls)) (hn : narrow (rhty ci k) (.int v) = .int v ∧ fits (rhty ci k) (.int v) = true) (hty : ∀ M : rhM, rhfv E (rhty ci k) M r k = .int (M.1 r k)) (kk : rhF E d nL y cc rt Γ0 emb x (pc + 3) L S Γ (rhsi M r k v)) : rhF E d nL y cc rt Γ0 emb x pc L (rhI v :: rhR r :: S) Γ M := by
  refine rhF.stepM (r := r) (by omega) (fun p l e R s m args below meth c H locs cells slots Q ls hX hl hH hS _ _ kk => ?_) kk
  refine rhput (v := rhI v) (M' := rhsi M r k v) hX hH hS hd hf hr hfin hn (by rw [hty, rhis]; rfl) (fun j hj => ?_) rhci kk
  refine rhfv_o ?_ ?_ ?_ <;> simp [rhsi, hj]
theorem rhF.putl {r ci idx k : Nat} {v : Int64} (hd : decode cc pc = .ok (.putfield idx, 3)) (hf : rhFl y.cls idx ci k) (hr : Γ.2.2.1 r = ci + 1) (hfin : ∀ q, vwCl[ci]? = some q → (q.2.1 k).2.2.2 = false ∨ (y.name = "<init>" ∧ (q.2.1 k).2.2.2 = true ∧ (q.2.1 k).1 = y.cls)) (hn : narrow (rhty ci k) (.long v) = .long v ∧ fits (rhty ci k) (.long v) = true) (hty : ∀ M : rhM, rhfv E (rhty ci k) M r k = .long (M.2.1 r k)) (kk : rhF E d nL y cc rt Γ0 emb x (pc + 3) L S Γ (rhsl M r k v)) : rhF E d nL y cc rt Γ0 emb x pc L (rhJ v :: rhR r :: S) Γ M := by
  refine rhF.stepM (r := r) (by omega) (fun p l e R s m args below meth c H locs cells slots Q ls hX hl hH hS _ _ kk => ?_) kk
  refine rhput (v := rhJ v) (M' := rhsl M r k v) hX hH hS hd hf hr hfin hn (by rw [hty, rhls]; rfl) (fun j hj => ?_) rhcl kk
  refine rhfv_o ?_ ?_ ?_ <;> simp [rhsl, hj]
theorem rhF.putr {r ci idx k : Nat} {v : Nat} (hd : decode cc pc = .ok (.putfield idx, 3)) (hf : rhFl y.cls idx ci k) (hr : Γ.2.2.1 r = ci + 1) (hfin : ∀ q, vwCl[ci]? = some q → (q.2.1 k).2.2.2 = false ∨ (y.name = "<init>" ∧ (q.2.1 k).2.2.2 = true ∧ (q.2.1 k).1 = y.cls)) (hn : (∃ n, rhty ci k = .object n) ∨ ∃ a, rhty ci k = .array a) (hty : ∀ M : rhM, rhfv E (rhty ci k) M r k = va_rf (rhro E (M.2.2 r k))) (kk : rhF E d nL y cc rt Γ0 emb x (pc + 3) L S Γ (rhsr M r k v)) : rhF E d nL y cc rt Γ0 emb x pc L (rhR v :: rhR r :: S) Γ M := by
  refine rhF.stepM (r := r) (by omega) (fun p l e R s m args below meth c H locs cells slots Q ls hX hl hH hS _ _ kk => ?_) kk
  refine rhput (v := rhR v) (M' := rhsr M r k v) hX hH hS hd hf hr hfin (rhfits_ref hn _) (by rw [hty, rhrs]; rfl) (fun j hj => ?_) rhcr kk
  refine rhfv_o ?_ ?_ ?_ <;> simp [rhsr, hj]
theorem rhF.iald {r : Nat} {i : Int32} (hd : decode cc pc = .ok (.iaload, 1)) (hr : Γ.2.2.1 r = 15) (hi : 0 ≤ i.toInt ∧ i.toInt < (Γ.2.2.2 r : Int)) (kk : rhF E d nL y cc rt Γ0 emb x (pc + 1) L (rhI (M.1 r i.toNatClampNeg) :: S) Γ M) : rhF E d nL y cc rt Γ0 emb x pc L (rhI i :: rhR r :: S) Γ M := by
  refine rhF.stepH (fun p l e R s m args below meth c H locs cells slots Q ls hX hl hH hS kk => ?_) kk
  have hr0 : Γ.2.2.1 r ≠ 0 := by omega
  rw [List.map_cons, List.map_cons, rhv_ref (hH.2.2 r hr0).1]
  have hcell := hH.cell hr0
  rw [rhc_I hr] at hcell
  exact va_iald hX.1 hX.2.1 hX.2.2.2.2.2.2.2.2.1 hH.1 (nv r - 1) 1 hcell rfl (rhin_vp hi) hd kk
theorem rhF.bald {r : Nat} {i : Int32} (hd : decode cc pc = .ok (.baload, 1)) (hr : Γ.2.2.1 r = 14) (hi : 0 ≤ i.toInt ∧ i.toInt < (Γ.2.2.2 r : Int)) (kk : rhF E d nL y cc rt Γ0 emb x (pc + 1) L (rhI (M.1 r i.toNatClampNeg) :: S) Γ M) : rhF E d nL y cc rt Γ0 emb x pc L (rhI i :: rhR r :: S) Γ M := by
  refine rhF.stepH (fun p l e R s m args below meth c H locs cells slots Q ls hX hl hH hS kk => ?_) kk
  have hr0 : Γ.2.2.1 r ≠ 0 := by omega
  rw [List.map_cons, List.map_cons, rhv_ref (hH.2.2 r hr0).1]
  have hcell := hH.cell hr0
  rw [rhc_B hr] at hcell
  exact va_bald hX.1 hX.2.1 hX.2.2.2.2.2.2.2.2.1 hH.1 (nv r - 1) 0 hcell rfl (rhin_vp hi) hd kk
theorem rhF.zald {r : Nat} {i : Int32} (hd : decode cc pc = .ok (.baload, 1)) (hr : Γ.2.2.1 r = 17) (hi : 0 ≤ i.toInt ∧ i.toInt < (Γ.2.2.2 r : Int)) (kk : rhF E d nL y cc rt Γ0 emb x (pc + 1) L (rhI (M.1 r i.toNatClampNeg) :: S) Γ M) : rhF E d nL y cc rt Γ0 emb x pc L (rhI i :: rhR r :: S) Γ M := by
  refine rhF.stepH (fun p l e R s m args below meth c H locs cells slots Q ls hX hl hH hS kk => ?_) kk
  have hr0 : Γ.2.2.1 r ≠ 0 := by omega
  rw [List.map_cons, List.map_cons, rhv_ref (hH.2.2 r hr0).1]
  have hcell := hH.cell hr0
  rw [rhc_Z hr] at hcell
  exact va_zald hX.1 hX.2.1 hX.2.2.2.2.2.2.2.2.1 hH.1 (nv r - 1) 3 hcell rfl (rhin_vp hi) hd kk
theorem rhF.lald {r : Nat} {i : Int32} (hd : decode cc pc = .ok (.laload, 1)) (hr : Γ.2.2.1 r = 16) (hi : 0 ≤ i.toInt ∧ i.toInt < (Γ.2.2.2 r : Int)) (kk : rhF E d nL y cc rt Γ0 emb x (pc + 1) L (rhJ (M.2.1 r i.toNatClampNeg) :: S) Γ M) : rhF E d nL y cc rt Γ0 emb x pc L (rhI i :: rhR r :: S) Γ M := by
  refine rhF.stepH (fun p l e R s m args below meth c H locs cells slots Q ls hX hl hH hS kk => ?_) kk
  have hr0 : Γ.2.2.1 r ≠ 0 := by omega
  rw [List.map_cons, List.map_cons, rhv_ref (hH.2.2 r hr0).1]
  have hcell := hH.cell hr0
  rw [rhc_J hr] at hcell
  exact va_lald hX.1 hX.2.1 hX.2.2.2.2.2.2.2.2.1 hH.1 (nv r - 1) 2 hcell rfl (rhin_vp hi) hd kk
theorem rhF.aldP {r : Nat} {i : Int32} (hd : decode cc pc = .ok (.aaload, 1)) (hr : Γ.2.2.1 r = 18) (hi : 0 ≤ i.toInt ∧ i.toInt < (Γ.2.2.2 r : Int)) (kk : rhF E d nL y cc rt Γ0 emb x (pc + 1) L (rhR (M.2.2 r i.toNatClampNeg) :: S) Γ M) : rhF E d nL y cc rt Γ0 emb x pc L (rhI i :: rhR r :: S) Γ M := by
  refine rhF.stepH (fun p l e R s m args below meth c H locs cells slots Q ls hX hl hH hS kk => ?_) kk
  have hr0 : Γ.2.2.1 r ≠ 0 := by omega
  rw [List.map_cons, List.map_cons, rhv_ref (hH.2.2 r hr0).1]
  have hcell := hH.cell hr0
  rw [rhc_P hr] at hcell
  exact va_aldq hX.1 hX.2.1 hX.2.2.2.2.2.2.2.2.1 hH.1 (nv r - 1) 4 hcell rfl (rhin_vp hi) hd kk
theorem rhF.aldS {r : Nat} {i : Int32} (hd : decode cc pc = .ok (.aaload, 1)) (hr : Γ.2.2.1 r = 19) (hi : 0 ≤ i.toInt ∧ i.toInt < (Γ.2.2.2 r : Int)) (kk : rhF E d nL y cc rt Γ0 emb x (pc + 1) L (rhR (M.2.2 r i.toNatClampNeg) :: S) Γ M) : rhF E d nL y cc rt Γ0 emb x pc L (rhI i :: rhR r :: S) Γ M := by
  refine rhF.stepH (fun p l e R s m args below meth c H locs cells slots Q ls hX hl hH hS kk => ?_) kk
  have hr0 : Γ.2.2.1 r ≠ 0 := by omega
  rw [List.map_cons, List.map_cons, rhv_ref (hH.2.2 r hr0).1]
  have hcell := hH.cell hr0
  rw [rhc_S hr] at hcell
  exact va_aldq hX.1 hX.2.1 hX.2.2.2.2.2.2.2.2.1 hH.1 (nv r - 1) 5 hcell rfl (rhin_vp hi) hd kk
theorem rhF.iast {r : Nat} {i : Int32} {v : Int32} (hd : decode cc pc = .ok (.iastore, 1)) (hr : Γ.2.2.1 r = 15) (hi : 0 ≤ i.toInt ∧ i.toInt < (Γ.2.2.2 r : Int)) (kk : rhF E d nL y cc rt Γ0 emb x (pc + 1) L S Γ (rhsi M r i.toNatClampNeg v)) : rhF E d nL y cc rt Γ0 emb x pc L (rhI v :: rhI i :: rhR r :: S) Γ M := by
  refine rhF.stepM (r := r) (by omega) (fun p l e R s m args below meth c H locs cells slots Q ls hX hl hH hS b1 b2 kk => ?_) kk
  rw [List.map_cons, List.map_cons, List.map_cons, rhv_ref b1]
  have hcell := hH.cell (r := r) (by omega)
  rw [rhc_I hr] at hcell
  refine va_iast hX.1 hX.2.1 hX.2.2.2.2.2.2.2.2.1 hH.1 rhw_D hS (nv r - 1) 1 hcell rfl (rhin_vp hi) hd (fun H1 locs1 hP1 _ hS1 => kk H1 locs1 ?_ hS1)
  rw [rhw_set (M' := rhsi M r i.toNatClampNeg v) b1 b2 (by rw [rhc_I hr]; congr 5; funext j; simp [rhsi, upd, vp_updL]) rhci] at hP1
  exact hP1
theorem rhF.bast {r : Nat} {i : Int32} {v : Int32} (hd : decode cc pc = .ok (.bastore, 1)) (hr : Γ.2.2.1 r = 14) (hi : 0 ≤ i.toInt ∧ i.toInt < (Γ.2.2.2 r : Int)) (kk : rhF E d nL y cc rt Γ0 emb x (pc + 1) L S Γ (rhsi M r i.toNatClampNeg (vp_nar .byte v))) : rhF E d nL y cc rt Γ0 emb x pc L (rhI v :: rhI i :: rhR r :: S) Γ M := by
  refine rhF.stepM (r := r) (by omega) (fun p l e R s m args below meth c H locs cells slots Q ls hX hl hH hS b1 b2 kk => ?_) kk
  rw [List.map_cons, List.map_cons, List.map_cons, rhv_ref b1]
  have hcell := hH.cell (r := r) (by omega)
  rw [rhc_B hr] at hcell
  refine va_bast hX.1 hX.2.1 hX.2.2.2.2.2.2.2.2.1 hH.1 rhw_D hS (nv r - 1) 0 hcell rfl (rhin_vp hi) hd (fun H1 locs1 hP1 _ hS1 => kk H1 locs1 ?_ hS1)
  rw [rhw_set (M' := rhsi M r i.toNatClampNeg (vp_nar .byte v)) b1 b2 (by rw [rhc_B hr]; congr 5; funext j; simp [rhsi, upd, vp_updL]) rhci] at hP1
  exact hP1
theorem rhF.zast {r : Nat} {i : Int32} {v : Int32} (hd : decode cc pc = .ok (.bastore, 1)) (hr : Γ.2.2.1 r = 17) (hi : 0 ≤ i.toInt ∧ i.toInt < (Γ.2.2.2 r : Int)) (kk : rhF E d nL y cc rt Γ0 emb x (pc + 1) L S Γ (rhsi M r i.toNatClampNeg (vp_nar .boolean v))) : rhF E d nL y cc rt Γ0 emb x pc L (rhI v :: rhI i :: rhR r :: S) Γ M := by
  refine rhF.stepM (r := r) (by omega) (fun p l e R s m args below meth c H locs cells slots Q ls hX hl hH hS b1 b2 kk => ?_) kk
  rw [List.map_cons, List.map_cons, List.map_cons, rhv_ref b1]
  have hcell := hH.cell (r := r) (by omega)
  rw [rhc_Z hr] at hcell
  refine va_zast hX.1 hX.2.1 hX.2.2.2.2.2.2.2.2.1 hH.1 rhw_D hS (nv r - 1) 3 hcell rfl (rhin_vp hi) hd (fun H1 locs1 hP1 _ hS1 => kk H1 locs1 ?_ hS1)
  rw [rhw_set (M' := rhsi M r i.toNatClampNeg (vp_nar .boolean v)) b1 b2 (by rw [rhc_Z hr]; congr 5; funext j; simp [rhsi, upd, vp_updL]) rhci] at hP1
  exact hP1
theorem rhF.last {r : Nat} {i : Int32} {v : Int64} (hd : decode cc pc = .ok (.lastore, 1)) (hr : Γ.2.2.1 r = 16) (hi : 0 ≤ i.toInt ∧ i.toInt < (Γ.2.2.2 r : Int)) (kk : rhF E d nL y cc rt Γ0 emb x (pc + 1) L S Γ (rhsl M r i.toNatClampNeg v)) : rhF E d nL y cc rt Γ0 emb x pc L (rhJ v :: rhI i :: rhR r :: S) Γ M := by
  refine rhF.stepM (r := r) (by omega) (fun p l e R s m args below meth c H locs cells slots Q ls hX hl hH hS b1 b2 kk => ?_) kk
  rw [List.map_cons, List.map_cons, List.map_cons, rhv_ref b1]
  have hcell := hH.cell (r := r) (by omega)
  rw [rhc_J hr] at hcell
  refine va_last hX.1 hX.2.1 hX.2.2.2.2.2.2.2.2.1 hH.1 rhw_D hS (nv r - 1) 2 hcell rfl (rhin_vp hi) hd (fun H1 locs1 hP1 _ hS1 => kk H1 locs1 ?_ hS1)
  rw [rhw_set (M' := rhsl M r i.toNatClampNeg v) b1 b2 (by rw [rhc_J hr]; congr 6; funext j; simp [rhsl, upd, vp_updL]) rhcl] at hP1
  exact hP1
theorem rhF.astP {r w : Nat} {i : Int32} (hd : decode cc pc = .ok (.aastore, 1)) (hr : Γ.2.2.1 r = 18) (hw : Γ.2.2.1 w = 4) (hi : 0 ≤ i.toInt ∧ i.toInt < (Γ.2.2.2 r : Int)) (kk : rhF E d nL y cc rt Γ0 emb x (pc + 1) L S Γ (rhsr M r i.toNatClampNeg w)) : rhF E d nL y cc rt Γ0 emb x pc L (rhR w :: rhI i :: rhR r :: S) Γ M := by
  refine rhF.stepM (r := r) (by omega) (fun p l e R s m args below meth c H locs cells slots Q ls hX hl hH hS b1 b2 kk => ?_) kk
  have hw0 : Γ.2.2.1 w ≠ 0 := by omega
  obtain ⟨w1, w2⟩ := hH.2.2 w hw0
  rw [List.map_cons, List.map_cons, List.map_cons, rhv_ref b1, rhv_ref w1]
  have hcell := hH.cell (r := r) (by omega)
  rw [rhc_P hr] at hcell
  have hcw := hH.cell hw0
  rw [rhc_obj hw (by decide)] at hcw
  refine va_astq (r := (RX3, TX3, rhfn 3)) hX.1 hX.2.1 hX.2.2.2.2.2.2.2.2.1 hH.1 rhw_D hS (nv r - 1) 4 (nv w - 1) 3 hcell rfl hcw rfl (rhin_vp hi) hd (fun H1 locs1 hP1 _ hS1 => kk H1 locs1 ?_ hS1)
  rw [rhw_set (M' := rhsr M r i.toNatClampNeg w) b1 b2 (by rw [rhc_P hr]; congr 9; funext j; by_cases hj : j = i.toNatClampNeg <;> simp [rhsr, va_up, hj, rhro_pos w1]) rhcr] at hP1
  exact hP1
theorem rhF.astS {r w : Nat} {i : Int32} (hd : decode cc pc = .ok (.aastore, 1)) (hr : Γ.2.2.1 r = 19) (hw : Γ.2.2.1 w = 8) (hi : 0 ≤ i.toInt ∧ i.toInt < (Γ.2.2.2 r : Int)) (kk : rhF E d nL y cc rt Γ0 emb x (pc + 1) L S Γ (rhsr M r i.toNatClampNeg w)) : rhF E d nL y cc rt Γ0 emb x pc L (rhR w :: rhI i :: rhR r :: S) Γ M := by
  refine rhF.stepM (r := r) (by omega) (fun p l e R s m args below meth c H locs cells slots Q ls hX hl hH hS b1 b2 kk => ?_) kk
  have hw0 : Γ.2.2.1 w ≠ 0 := by omega
  obtain ⟨w1, w2⟩ := hH.2.2 w hw0
  rw [List.map_cons, List.map_cons, List.map_cons, rhv_ref b1, rhv_ref w1]
  have hcell := hH.cell (r := r) (by omega)
  rw [rhc_S hr] at hcell
  have hcw := hH.cell hw0
  rw [rhc_obj hw (by decide)] at hcw
  refine va_astq (r := (RX7, TX7, rhfn 7)) hX.1 hX.2.1 hX.2.2.2.2.2.2.2.2.1 hH.1 rhw_D hS (nv r - 1) 5 (nv w - 1) 7 hcell rfl hcw rfl (rhin_vp hi) hd (fun H1 locs1 hP1 _ hS1 => kk H1 locs1 ?_ hS1)
  rw [rhw_set (M' := rhsr M r i.toNatClampNeg w) b1 b2 (by rw [rhc_S hr]; congr 9; funext j; by_cases hj : j = i.toNatClampNeg <;> simp [rhsr, va_up, hj, rhro_pos w1]) rhcr] at hP1
  exact hP1
theorem rhF.alen14 {r : Nat} (hd : decode cc pc = .ok (.arraylength, 1)) (hr : Γ.2.2.1 r = 14) (kk : rhF E d nL y cc rt Γ0 emb x (pc + 1) L (rhI (Int32.ofNat (Γ.2.2.2 r)) :: S) Γ M) : rhF E d nL y cc rt Γ0 emb x pc L (rhR r :: S) Γ M := by
  refine rhF.stepH (fun p l e R s m args below meth c H locs cells slots Q ls hX hl hH hS kk => ?_) kk
  have hr0 : Γ.2.2.1 r ≠ 0 := by omega
  rw [List.map_cons, rhv_ref (hH.2.2 r hr0).1]
  have hcell := hH.cell hr0
  rw [rhc_B hr] at hcell
  exact va_alen hX.1 hX.2.1 hX.2.2.2.2.2.2.2.2.1 hH.1 (nv r - 1) 0 hcell (ty := .byte) rfl rfl hd kk
theorem rhF.alen15 {r : Nat} (hd : decode cc pc = .ok (.arraylength, 1)) (hr : Γ.2.2.1 r = 15) (kk : rhF E d nL y cc rt Γ0 emb x (pc + 1) L (rhI (Int32.ofNat (Γ.2.2.2 r)) :: S) Γ M) : rhF E d nL y cc rt Γ0 emb x pc L (rhR r :: S) Γ M := by
  refine rhF.stepH (fun p l e R s m args below meth c H locs cells slots Q ls hX hl hH hS kk => ?_) kk
  have hr0 : Γ.2.2.1 r ≠ 0 := by omega
  rw [List.map_cons, rhv_ref (hH.2.2 r hr0).1]
  have hcell := hH.cell hr0
  rw [rhc_I hr] at hcell
  exact va_alen hX.1 hX.2.1 hX.2.2.2.2.2.2.2.2.1 hH.1 (nv r - 1) 1 hcell (ty := .int) rfl rfl hd kk
theorem rhF.alen16 {r : Nat} (hd : decode cc pc = .ok (.arraylength, 1)) (hr : Γ.2.2.1 r = 16) (kk : rhF E d nL y cc rt Γ0 emb x (pc + 1) L (rhI (Int32.ofNat (Γ.2.2.2 r)) :: S) Γ M) : rhF E d nL y cc rt Γ0 emb x pc L (rhR r :: S) Γ M := by
  refine rhF.stepH (fun p l e R s m args below meth c H locs cells slots Q ls hX hl hH hS kk => ?_) kk
  have hr0 : Γ.2.2.1 r ≠ 0 := by omega
  rw [List.map_cons, rhv_ref (hH.2.2 r hr0).1]
  have hcell := hH.cell hr0
  rw [rhc_J hr] at hcell
  exact va_alen hX.1 hX.2.1 hX.2.2.2.2.2.2.2.2.1 hH.1 (nv r - 1) 2 hcell (ty := .long) rfl rfl hd kk
theorem rhF.alen17 {r : Nat} (hd : decode cc pc = .ok (.arraylength, 1)) (hr : Γ.2.2.1 r = 17) (kk : rhF E d nL y cc rt Γ0 emb x (pc + 1) L (rhI (Int32.ofNat (Γ.2.2.2 r)) :: S) Γ M) : rhF E d nL y cc rt Γ0 emb x pc L (rhR r :: S) Γ M := by
  refine rhF.stepH (fun p l e R s m args below meth c H locs cells slots Q ls hX hl hH hS kk => ?_) kk
  have hr0 : Γ.2.2.1 r ≠ 0 := by omega
  rw [List.map_cons, rhv_ref (hH.2.2 r hr0).1]
  have hcell := hH.cell hr0
  rw [rhc_Z hr] at hcell
  exact va_alen hX.1 hX.2.1 hX.2.2.2.2.2.2.2.2.1 hH.1 (nv r - 1) 3 hcell (ty := .boolean) rfl rfl hd kk
theorem rhF.alen18 {r : Nat} (hd : decode cc pc = .ok (.arraylength, 1)) (hr : Γ.2.2.1 r = 18) (kk : rhF E d nL y cc rt Γ0 emb x (pc + 1) L (rhI (Int32.ofNat (Γ.2.2.2 r)) :: S) Γ M) : rhF E d nL y cc rt Γ0 emb x pc L (rhR r :: S) Γ M := by
  refine rhF.stepH (fun p l e R s m args below meth c H locs cells slots Q ls hX hl hH hS kk => ?_) kk
  have hr0 : Γ.2.2.1 r ≠ 0 := by omega
  rw [List.map_cons, rhv_ref (hH.2.2 r hr0).1]
  have hcell := hH.cell hr0
  rw [rhc_P hr] at hcell
  exact va_alen hX.1 hX.2.1 hX.2.2.2.2.2.2.2.2.1 hH.1 (nv r - 1) 4 hcell (ty := .object RX3) rfl rfl hd kk
theorem rhF.alen19 {r : Nat} (hd : decode cc pc = .ok (.arraylength, 1)) (hr : Γ.2.2.1 r = 19) (kk : rhF E d nL y cc rt Γ0 emb x (pc + 1) L (rhI (Int32.ofNat (Γ.2.2.2 r)) :: S) Γ M) : rhF E d nL y cc rt Γ0 emb x pc L (rhR r :: S) Γ M := by
  refine rhF.stepH (fun p l e R s m args below meth c H locs cells slots Q ls hX hl hH hS kk => ?_) kk
  have hr0 : Γ.2.2.1 r ≠ 0 := by omega
  rw [List.map_cons, rhv_ref (hH.2.2 r hr0).1]
  have hcell := hH.cell hr0
  rw [rhc_S hr] at hcell
  exact va_alen hX.1 hX.2.1 hX.2.2.2.2.2.2.2.2.1 hH.1 (nv r - 1) 5 hcell (ty := .object RX7) rfl rfl hd kk
theorem rhF.ifnull {r : Nat} {off : Int} (tgt : Nat) (hd : decode cc pc = .ok (.ifnull off, 3)) (ht : (pc : Int) + off = (tgt : Int)) (kt : r = 0 → rhF E d nL y cc rt Γ0 emb x1 tgt L S Γ M) (kf : ¬ r = 0 → rhF E d nL y cc rt Γ0 emb x2 (pc + 3) L S Γ M) : rhF E d nL y cc rt Γ0 emb (if r = 0 then x1 else x2) pc L (rhR r :: S) Γ M := by
  by_cases h : r = 0
  · rw [if_pos h]
    refine rhF.step (fun p l e R s m args below meth c H locs cells slots Q ls hX hl kk => ?_) (kt h)
    subst h
    exact lv_ifnullN hX.1 hX.2.1 hd ht kk
  · rw [if_neg h]
    refine rhF.step (fun p l e R s m args below meth c H locs cells slots Q ls hX hl kk => ?_) (kf h)
    rw [List.map_cons, rhv_ref (nv_pos' h)]
    exact lv_ifnull hX.1 hX.2.1 hd kk
theorem rhF.ifnonnull {r : Nat} {off : Int} (tgt : Nat) (hd : decode cc pc = .ok (.ifnonnull off, 3)) (ht : (pc : Int) + off = (tgt : Int)) (kt : r = 0 → rhF E d nL y cc rt Γ0 emb x1 (pc + 3) L S Γ M) (kf : ¬ r = 0 → rhF E d nL y cc rt Γ0 emb x2 tgt L S Γ M) : rhF E d nL y cc rt Γ0 emb (if r = 0 then x1 else x2) pc L (rhR r :: S) Γ M := by
  by_cases h : r = 0
  · rw [if_pos h]
    refine rhF.step (fun p l e R s m args below meth c H locs cells slots Q ls hX hl kk => ?_) (kt h)
    subst h
    exact lv_ifnonnullN hX.1 hX.2.1 hd kk
  · rw [if_neg h]
    refine rhF.step (fun p l e R s m args below meth c H locs cells slots Q ls hX hl kk => ?_) (kf h)
    rw [List.map_cons, rhv_ref (nv_pos' h)]
    exact lv_ifnonnull hX.1 hX.2.1 hd ht kk
end RHM
