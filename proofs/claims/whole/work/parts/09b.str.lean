section RHS
variable {E : rhE} {d nL : Nat} {y : MethodName} {cc : ByteArray} {rt : Option FieldType} {Γ0 : rhG} {α : Type} {emb : α → rhO} {x x1 x2 : Option α} {pc : Nat} {L L' : List (Nat × rhV)} {S S' : List rhV} {Γ : rhG} {M : rhM}

theorem rhF.strlen19 {idx : Nat} (hd : decode cc pc = .ok (.ldc 19, 2)) (hd2 : decode cc (pc + 2) = .ok (.invokevirtual idx, 3)) (hl : rhMl y.cls idx yJ0_length_8abf5 cJ0_length_8abf5 1 (some .int) 0) (k : rhF E d nL y cc rt Γ0 emb x (pc + 2 + 3) L (rhI (Int32.ofNat rhby0.length) :: S) Γ M) : rhF E d nL y cc rt Γ0 emb x pc L S Γ M := by
  sorry
theorem rhF.strchar19 {idx : Nat} {v : Int32} {n : Fin 4} (hd : decode cc pc = .ok (.ldc 19, 2)) (hd2 : decode cc (pc + 2) = .ok (.iload_n n, 1)) (g : Nat) (hk : L[g]? = some (n.val, rhI v)) (hd3 : decode cc (pc + 2 + 1) = .ok (.invokevirtual idx, 3)) (hl : rhMl y.cls idx yJ0_charAt_5068e cJ0_charAt_5068e 2 (some .char) 1) (h : 0 ≤ v.toInt ∧ v.toInt < (rhby0.length : Nat)) (k : rhF E d nL y cc rt Γ0 emb x (pc + 2 + 1 + 3) L (rhI (rhby0.getD v.toNatClampNeg 0) :: S) Γ M) : rhF E d nL y cc rt Γ0 emb x pc L S Γ M := by
  sorry
theorem rhF.strlen82 {idx : Nat} (hd : decode cc pc = .ok (.ldc 82, 2)) (hd2 : decode cc (pc + 2) = .ok (.invokevirtual idx, 3)) (hl : rhMl y.cls idx yJ0_length_8abf5 cJ0_length_8abf5 1 (some .int) 0) (k : rhF E d nL y cc rt Γ0 emb x (pc + 2 + 3) L (rhI (Int32.ofNat rhby1.length) :: S) Γ M) : rhF E d nL y cc rt Γ0 emb x pc L S Γ M := by
  sorry
theorem rhF.strchar82 {idx : Nat} {v : Int32} {n : Fin 4} (hd : decode cc pc = .ok (.ldc 82, 2)) (hd2 : decode cc (pc + 2) = .ok (.iload_n n, 1)) (g : Nat) (hk : L[g]? = some (n.val, rhI v)) (hd3 : decode cc (pc + 2 + 1) = .ok (.invokevirtual idx, 3)) (hl : rhMl y.cls idx yJ0_charAt_5068e cJ0_charAt_5068e 2 (some .char) 1) (h : 0 ≤ v.toInt ∧ v.toInt < (rhby1.length : Nat)) (k : rhF E d nL y cc rt Γ0 emb x (pc + 2 + 1 + 3) L (rhI (rhby1.getD v.toNatClampNeg 0) :: S) Γ M) : rhF E d nL y cc rt Γ0 emb x pc L S Γ M := by
  sorry
end RHS
