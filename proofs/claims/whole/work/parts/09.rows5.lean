/-! switches, comparisons of longs, guards, strings -/
/-- a guard -/
abbrev rhck {α : Type} (c : Prop) [Decidable c] (x : Option α) : Option α := if c then x else none
/-- a loop's fuel -/
def rhFU : Nat := 1000000000
def rhch (k : Nat) (i : Nat) : Int32 := (if k = 0 then rhby0 else rhby1).getD i 0
theorem rhzb {v : Int32} (h : v = 0 ∨ v = 1) : narrow .boolean (.int v) = .int v := by rcases h with h | h <;> rw [h] <;> rfl
theorem rhne {x k : Int32} {n : Int} (h : ¬ x = k) (hk : k.toInt = n) : n ≠ x.toInt := fun z => h (Int32.toInt_inj.mp (by omega))
theorem rhlkd : ∀ (ps : List (Int × Int)) (dflt k : Int), (∀ q ∈ ps, q.1 ≠ k) → Op.lookupswitch.offset ps dflt k = dflt
  | [], _, _, _ => rfl
  | (a, o) :: ps, dflt, k, h => by
    rw [Op.lookupswitch.offset_cons, if_neg (h (a, o) List.mem_cons_self)]
    exact rhlkd ps dflt k (fun q hq => h q (List.mem_cons_of_mem _ hq))
section RHQ
variable {E : rhE} {d nL : Nat} {y : MethodName} {cc : ByteArray} {rt : Option FieldType} {Γ0 : rhG} {α : Type} {emb : α → rhO} {x x1 x2 : Option α} {pc : Nat} {L L' : List (Nat × rhV)} {S S' : List rhV} {Γ : rhG} {M : rhM}
theorem rhF.ck {c : Prop} [Decidable c] (k : c → rhF E d nL y cc rt Γ0 emb x pc L S Γ M) : rhF E d nL y cc rt Γ0 emb (rhck c x) pc L S Γ M := rhF.ite k (fun _ => rhF.nope)
theorem rhF.tsIn {dflt lo hi off : Int} {offs : Array Int} {len : Nat} {v : Int32} (tgt : Nat) (n : Int) (hd : decode cc pc = .ok (.tableswitch dflt lo hi offs, len)) (hv : v.toInt = n) (h : lo ≤ n ∧ n ≤ hi) (ho : offs[(n - lo).toNat]? = some off) (ht : (pc : Int) + off = (tgt : Int)) (k : rhF E d nL y cc rt Γ0 emb x tgt L S Γ M) : rhF E d nL y cc rt Γ0 emb x pc L (rhI v :: S) Γ M :=
  rhF.step (fun p l e R s m args below meth c H locs cells slots Q ls hX hl kk => lv_tableIn (x := v) hX.1 hX.2.1 hd (by omega) (by omega) (by rw [hv]; exact ho) ht kk) k
theorem rhF.tsOut {dflt lo hi : Int} {offs : Array Int} {len : Nat} {v : Int32} (tgt : Nat) (hd : decode cc pc = .ok (.tableswitch dflt lo hi offs, len)) (h : v.toInt < lo ∨ hi < v.toInt) (ht : (pc : Int) + dflt = (tgt : Int)) (k : rhF E d nL y cc rt Γ0 emb x tgt L S Γ M) : rhF E d nL y cc rt Γ0 emb x pc L (rhI v :: S) Γ M :=
  rhF.step (fun p l e R s m args below meth c H locs cells slots Q ls hX hl kk => lv_tableOut (x := v) hX.1 hX.2.1 hd h ht kk) k
theorem rhF.ls {dflt off : Int} {ps : Array (Int × Int)} {len : Nat} {v : Int32} (tgt : Nat) (hd : decode cc pc = .ok (.lookupswitch dflt ps, len)) (hp : (ps.toList.zip (ps.toList.drop 1)).all (fun (a, next) => a.1 < next.1) = true) (ho : Op.lookupswitch.offset ps.toList dflt v.toInt = off) (ht : (pc : Int) + off = (tgt : Int)) (k : rhF E d nL y cc rt Γ0 emb x tgt L S Γ M) : rhF E d nL y cc rt Γ0 emb x pc L (rhI v :: S) Γ M :=
  rhF.step (fun p l e R s m args below meth c H locs cells slots Q ls hX hl kk => lv_lookup (x := v) hX.1 hX.2.1 hd hp ho ht kk) k
theorem rhF.lceq {v w : Int64} {off : Int} (tgt : Nat) (hd : decode cc pc = .ok (.lcmp, 1)) (hd2 : decode cc (pc + 1) = .ok (.ifCond .eq off, 3)) (ht : ((pc + 1 : Nat) : Int) + off = (tgt : Int)) (kt : v = w → rhF E d nL y cc rt Γ0 emb x1 tgt L S Γ M) (kf : ¬ v = w → rhF E d nL y cc rt Γ0 emb x2 (pc + 1 + 3) L S Γ M) : rhF E d nL y cc rt Γ0 emb (if v = w then x1 else x2) pc L (rhJ w :: rhJ v :: S) Γ M := by
  refine rhF.lcmp hd ?_
  by_cases h : v = w
  · rw [if_pos h]
    exact rhF.step (fun p l e R s m args below meth c H locs cells slots Q ls hX hl kk => lv_if_eq (tgt := tgt) hX.1 hX.2.1 hd2 ht (fun _ => kk) (fun q => absurd ((lg_cmp_eq v w).mpr h) q)) (kt h)
  · rw [if_neg h]
    exact rhF.step (fun p l e R s m args below meth c H locs cells slots Q ls hX hl kk => lv_if_eq (tgt := tgt) hX.1 hX.2.1 hd2 ht (fun q => absurd ((lg_cmp_eq v w).mp q) h) (fun _ => kk)) (kf h)
theorem rhF.lcne {v w : Int64} {off : Int} (tgt : Nat) (hd : decode cc pc = .ok (.lcmp, 1)) (hd2 : decode cc (pc + 1) = .ok (.ifCond .ne off, 3)) (ht : ((pc + 1 : Nat) : Int) + off = (tgt : Int)) (kt : v = w → rhF E d nL y cc rt Γ0 emb x1 (pc + 1 + 3) L S Γ M) (kf : ¬ v = w → rhF E d nL y cc rt Γ0 emb x2 tgt L S Γ M) : rhF E d nL y cc rt Γ0 emb (if v = w then x1 else x2) pc L (rhJ w :: rhJ v :: S) Γ M := by
  refine rhF.lcmp hd ?_
  by_cases h : v = w
  · rw [if_pos h]
    exact rhF.step (fun p l e R s m args below meth c H locs cells slots Q ls hX hl kk => lv_if_ne (tgt := tgt) hX.1 hX.2.1 hd2 ht (fun q => absurd ((lg_cmp_eq v w).mpr h) q) (fun _ => kk)) (kt h)
  · rw [if_neg h]
    exact rhF.step (fun p l e R s m args below meth c H locs cells slots Q ls hX hl kk => lv_if_ne (tgt := tgt) hX.1 hX.2.1 hd2 ht (fun _ => kk) (fun q => absurd ((lg_cmp_eq v w).mp q) h)) (kf h)
end RHQ
