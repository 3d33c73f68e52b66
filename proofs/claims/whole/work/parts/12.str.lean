/-- the string k and its bytes -/
def rhby (k : Nat) : List Int32 := [rhby0, rhby1].getD k []
theorem rhby_len {k : Nat} (hk : k < 2) : [rhby0.length, rhby1.length].getD k 0 = (rhby k).length := by
  rcases (show k = 0 ∨ k = 1 by omega) with rfl | rfl <;> rfl
section RHS
variable {E : rhE} {d nL : Nat} {y : MethodName} {cc : ByteArray} {rt : Option FieldType} {Γ0 : rhG} {α : Type} {emb : α → rhO} {x x1 x2 : Option α} {pc : Nat} {L L' : List (Nat × rhV)} {S S' : List rhV} {Γ : rhG} {M : rhM}
theorem rhF.aldT {n : Fin 4} {i : Nat} (hd : decode cc pc = .ok (.aload_n n, 1)) (g : Nat) (hk : L[g]? = some (n.val, rhT i)) (k : rhF E d nL y cc rt Γ0 emb x (pc + 1) L (rhT i :: S) Γ M) : rhF E d nL y cc rt Γ0 emb x pc L S Γ M :=
  rhF.step (fun p l e R s m args below meth c H locs cells slots Q ls hX hl kk => lv_aload_n hX.1 hX.2.1 hd rfl (rhat hl hk) kk) k
theorem rhF.i2c {v : Int32} (hd : decode cc pc = .ok (.i2c, 1)) (k : rhF E d nL y cc rt Γ0 emb x (pc + 1) L (rhI (v.toUInt32 % 65536).toInt32 :: S) Γ M) : rhF E d nL y cc rt Γ0 emb x pc L (rhI v :: S) Γ M :=
  rhF.step (fun p l e R s m args below meth c H locs cells slots Q ls hX hl kk => lv_i2c hX.1 hX.2.1 hd rfl kk) k
theorem rhF.getTv {idx k : Nat} (hk : k < 2) (hd : decode cc pc = .ok (.getfield idx, 3)) (hl : Cond.fieldLink y.cls idx "java/lang/String" "value" "[B" ∈ rhTs) (kk : rhF E d nL y cc rt Γ0 emb x (pc + 3) L (rhT (2 + k) :: S) Γ M) : rhF E d nL y cc rt Γ0 emb x pc L (rhT k :: S) Γ M :=
  rhF.stepH (fun p l e R s m args below meth c H locs cells slots Q ls hX hlv hH hS kk => vk_getf hX.1 hX.2.1 (hX.2.2.2.2.2.2.2.2.2.2.2.1.1 k hk).2.2.1 hS hX.2.2.2.2.2.2.1 (hX.2.2.2.2.2.2.2.1 _ hl) (fun x h => h) hd kk) kk
theorem rhF.getTc {idx k : Nat} (hk : k < 2) (hd : decode cc pc = .ok (.getfield idx, 3)) (hl : Cond.fieldLink y.cls idx "java/lang/String" "coder" "B" ∈ rhTs) (kk : rhF E d nL y cc rt Γ0 emb x (pc + 3) L (rhI 0 :: S) Γ M) : rhF E d nL y cc rt Γ0 emb x pc L (rhT k :: S) Γ M :=
  rhF.stepH (fun p l e R s m args below meth c H locs cells slots Q ls hX hlv hH hS kk => vk_getf hX.1 hX.2.1 (hX.2.2.2.2.2.2.2.2.2.2.2.1.1 k hk).2.1 hS hX.2.2.2.2.2.2.1 (hX.2.2.2.2.2.2.2.1 _ hl) (fun x h => h) hd kk) kk
theorem rhF.alenT {k : Nat} (hk : k < 2) (hd : decode cc pc = .ok (.arraylength, 1)) (kk : rhF E d nL y cc rt Γ0 emb x (pc + 1) L (rhI (Int32.ofNat (rhby k).length) :: S) Γ M) : rhF E d nL y cc rt Γ0 emb x pc L (rhT (2 + k) :: S) Γ M :=
  rhF.stepH (fun p l e R s m args below meth c H locs cells slots Q ls hX hlv hH hS kk => va_tlen hX.1 hX.2.1 (hX.2.2.2.2.2.2.2.2.2.2.2.1.1 k hk).2.2.2 hS (by rw [rhby_len hk]) hd kk) kk
theorem rhF.baldT {k : Nat} {i : Int32} (hk : k < 2) (hd : decode cc pc = .ok (.baload, 1)) (hi : 0 ≤ i.toInt ∧ i.toInt < ((rhby k).length : Nat)) (kk : rhF E d nL y cc rt Γ0 emb x (pc + 1) L (rhI ((rhby k).getD i.toNatClampNeg 0) :: S) Γ M) : rhF E d nL y cc rt Γ0 emb x pc L (rhI i :: rhT (2 + k) :: S) Γ M :=
  rhF.stepH (fun p l e R s m args below meth c H locs cells slots Q ls hX hlv hH hS kk => va_tb hX.1 hX.2.1 (hX.2.2.2.2.2.2.2.2.2.2.2.1.1 k hk).2.2.2 hS (by rw [rhby_len hk]; exact rhin_vp hi) rfl hd kk) kk
theorem rhF.gsC {idx : Nat} (hd : decode cc pc = .ok (.getstatic idx, 3)) (hl : Cond.fieldLink y.cls idx "java/lang/String" "COMPACT_STRINGS" "Z" ∈ rhTs) (kk : rhF E d nL y cc rt Γ0 emb x (pc + 3) L (rhI 1 :: S) Γ M) : rhF E d nL y cc rt Γ0 emb x pc L S Γ M :=
  rhF.stepH (fun p l e R s m args below meth c H locs cells slots Q ls hX hlv hH hS kk => va_gets hX.1 hX.2.1 hX.2.2.2.2.2.2.2.2.2.2.2.2.1 hS hX.2.2.2.2.2.2.1 (hX.2.2.2.2.2.2.2.1 _ hl) (fun x h => h) hd kk) kk
theorem rhF.gsF {idx : Nat} (hd : decode cc pc = .ok (.getstatic idx, 3)) (hl : Cond.fieldLink y.cls idx "jdk/internal/util/Preconditions" "SIOOBE_FORMATTER" "Ljava/util/function/BiFunction;" ∈ rhTs) (k0 : rhF E d nL y cc rt Γ0 emb x (pc + 3) L (rhR 0 :: S) Γ M) (k1 : rhF E d nL y cc rt Γ0 emb x (pc + 3) L (rhT 4 :: S) Γ M) : rhF E d nL y cc rt Γ0 emb x pc L S Γ M := by
  intro a ha
  obtain ⟨h1, h2, k0⟩ := k0 a ha
  obtain ⟨-, -, k1⟩ := k1 a ha
  refine ⟨h1, h2, fun p l e s m args below meth c hX e1 e2 H locs ls hH hS hlv hA => ?_⟩
  rcases hX.2.2.2.2.2.2.2.2.2.2.2.2.2.1 with h | h
  · exact va_gets hX.1 hX.2.1 h hS hX.2.2.2.2.2.2.1 (hX.2.2.2.2.2.2.2.1 _ hl) (fun x h => h) hd (k0 p l e s m args below meth c hX e1 e2 H locs ls hH hS hlv hA)
  · exact va_gets hX.1 hX.2.1 h hS hX.2.2.2.2.2.2.1 (hX.2.2.2.2.2.2.2.1 _ hl) (fun x h => h) hd (k1 p l e s m args below meth c hX e1 e2 H locs ls hH hS hlv hA)
theorem rhF.callT {β : Type} {g : Option β} {kf : β → Option α} {embc : β → rhO} {d' nL' idx r : Nat} {y' : MethodName} {cc' : ByteArray} {rt' : Option FieldType} (As : List rhV) (hr : r < 2) (hd : decode cc pc = .ok (.invokevirtual idx, 3)) (hl : rhMl y.cls idx y' cc' nL' rt' As.length) (hi : Cond.instanceMethod y' ∈ rhTs ∧ Cond.selects y'.cls y' y' ∈ rhTs) (hc : y'.cls = "java/lang/String") (hC : ∀ b, g = some b → rhC E d' y' cc' nL' rt' (rhT r :: As) Γ M (embc b)) (hdd : d' + 1 ≤ d) (hnl : nL' ≤ 21) (hS0 : S' = As.reverse ++ rhT r :: S) (hcat : (S.map rhcat).sum ≤ 8)
    (kk : ∀ b, g = some b → rhF E d nL y cc rt Γ0 emb (kf b) (pc + 3) L ((embc b).1.toList ++ S) (embc b).2.1 (embc b).2.2) : rhF E d nL y cc rt Γ0 emb (g.bind kf) pc L S' Γ M := by
  subst hS0
  refine rhF.stepC hC hdd hnl (fun b p l e R s m args below meth c H locs cells slots ls hX hlv hH hS hM hR hf hP => ?_) kk
  have hts := hX.2.2.2.2.2.2.2.1
  have hrec := vk_recv hX.2.2.2.2.2.2.2.2.2.2.2.1 hr hS
  rw [← hc] at hrec
  exact ⟨_, va_runV (As := As.map (rhv E)) (rest := S.map (rhv E)) ⟨hX.1, hX.2.1, hX.2.2.2.1, hX.2.2.2.2.2.2.1, hts⟩ hM ⟨callB_of As.length hts (rhgoodc hl.2.2.1) rfl rfl rfl (hts _ hl.2.1) (hts _ hl.1) hl.2.2.2 hR, hts _ hi.1, hts _ hi.2⟩ ⟨rhP_blind, hrec, fun U hU hW => hP U hU hW⟩ rfl (by rw [List.length_map]) hlv.1 (by rw [List.map_append, List.map_reverse, List.map_cons]; rfl) (lv_room (by rw [rhcats]; exact hcat)) hd hf⟩
theorem rhF.slen {Lx : Nat} {xs : Nat → Int32} (hE : E.2.2.2.2 = (Lx, xs)) (hd : decode cc pc = .ok (.arraylength, 1)) (kk : rhF E d nL y cc rt Γ0 emb x (pc + 1) L (rhI (Int32.ofNat Lx) :: S) Γ M) : rhF E d nL y cc rt Γ0 emb x pc L (rhT 5 :: S) Γ M := by
  intro a ha
  obtain ⟨h1, h2, k⟩ := kk a ha
  refine ⟨h1, h2, fun p l e s m args below meth c hX e1 e2 H locs ls hH hS hl hA => ?_⟩
  have h8 := hX.2.2.2.2.2.2.2.2.2.2.2.2.2.2.2.2.2
  rw [hE] at h8
  exact va_slen hX.1 hX.2.1 h8.2 (Nat.lt_of_lt_of_le h8.1 (by omega)) (Nat.not_le.mpr h8.1) hS hd (k p l e s m args below meth c hX e1 e2 H locs ls hH hS hl hA)
theorem rhF.sld {Lx : Nat} {xs : Nat → Int32} {i : Int32} (hE : E.2.2.2.2 = (Lx, xs)) (hd : decode cc pc = .ok (.iaload, 1)) (hi : 0 ≤ i.toInt ∧ i.toInt < (Lx : Nat)) (kk : rhF E d nL y cc rt Γ0 emb x (pc + 1) L (rhI (xs i.toNatClampNeg) :: S) Γ M) : rhF E d nL y cc rt Γ0 emb x pc L (rhI i :: rhT 5 :: S) Γ M := by
  intro a ha
  obtain ⟨h1, h2, k⟩ := kk a ha
  refine ⟨h1, h2, fun p l e s m args below meth c hX e1 e2 H locs ls hH hS hl hA => ?_⟩
  have h8 := hX.2.2.2.2.2.2.2.2.2.2.2.2.2.2.2.2.2
  rw [hE] at h8
  exact va_sld hX.1 hX.2.1 h8.2 (Nat.lt_of_lt_of_le h8.1 (by omega)) (Nat.not_le.mpr h8.1) hS (rhin_vp hi) hd (k p l e s m args below meth c hX e1 e2 H locs ls hH hS hl hA)
theorem rhF.ldcT0 (hd : decode cc pc = .ok (.ldc 19, 2)) (hy : y.cls = RX8) (kk : rhF E d nL y cc rt Γ0 emb x (pc + 2) L (rhT 0 :: S) Γ M) : rhF E d nL y cc rt Γ0 emb x pc L S Γ M :=
  rhF.step (fun p l e R s m args below meth c H locs cells slots Q ls hX hl kk => va_ldcS hX.1 hX.2.1 (hy ▸ hX.2.2.2.2.2.2.1) hX.2.2.2.2.2.2.2.2.2.1 hd kk) kk
theorem rhF.ldcT1 (hd : decode cc pc = .ok (.ldc 82, 2)) (hy : y.cls = RX8) (kk : rhF E d nL y cc rt Γ0 emb x (pc + 2) L (rhT 1 :: S) Γ M) : rhF E d nL y cc rt Γ0 emb x pc L S Γ M :=
  rhF.step (fun p l e R s m args below meth c H locs cells slots Q ls hX hl kk => va_ldcS hX.1 hX.2.1 (hy ▸ hX.2.2.2.2.2.2.1) hX.2.2.2.2.2.2.2.2.2.2.1 hd kk) kk
end RHS
def sg_ok (x : Option Unit) : Option Unit := x
theorem c_coder (E : rhE) (Γ : rhG) (M : rhM) (k : Nat) (hk : k < 2) : rhC E 1 yJ0_coder_7d493 cJ0_coder_7d493 1 (some .byte) [rhT k] Γ M (some (rhI 0), Γ, M) := by
  refine rhF.met (emb := rhe0I Γ M) (x := some 0) (by decide +kernel) (Nat.le_of_ble_eq_true rfl) ?_ 0 rfl
  refine rhF.gsC (pc := 0) dJ0_coder_7d493_0 (rhTs_in 182 (by decide +kernel) (by decide +kernel)) ?_
  refine rhF.step (fun p l e R s m args below meth c H locs cells slots Q ls hX hl kk => lv_if_eq (tgt := 13) hX.1 hX.2.1 dJ0_coder_7d493_3 (by decide) (fun q => absurd q (by decide)) (fun _ => kk)) ?_
  refine rhF.aldT (pc := 6) dJ0_coder_7d493_6 0 rfl ?_
  refine rhF.getTc (pc := 7) hk dJ0_coder_7d493_7 (rhTs_in 2151 (by decide +kernel) (by decide +kernel)) ?_
  refine rhF.goto (pc := 10) 14 dJ0_coder_7d493_10 (by decide) ?_
  exact rhF.zret (pc := 14) dJ0_coder_7d493_14 rfl rfl rfl
theorem c_latin (E : rhE) (Γ : rhG) (M : rhM) (k : Nat) (hk : k < 2) : rhC E 1 yJ0_isLatin1_aae02 cJ0_isLatin1_aae02 1 (some .boolean) [rhT k] Γ M (some (rhI 1), Γ, M) := by
  refine rhF.met (emb := rhe0I Γ M) (x := some 1) (by decide +kernel) (Nat.le_of_ble_eq_true rfl) ?_ 1 rfl
  refine rhF.gsC (pc := 0) dJ0_isLatin1_aae02_0 (rhTs_in 182 (by decide +kernel) (by decide +kernel)) ?_
  refine rhF.step (fun p l e R s m args below meth c H locs cells slots Q ls hX hl kk => lv_if_eq (tgt := 17) hX.1 hX.2.1 dJ0_isLatin1_aae02_3 (by decide) (fun q => absurd q (by decide)) (fun _ => kk)) ?_
  refine rhF.aldT (pc := 6) dJ0_isLatin1_aae02_6 0 rfl ?_
  refine rhF.getTc (pc := 7) hk dJ0_isLatin1_aae02_7 (rhTs_in 2151 (by decide +kernel) (by decide +kernel)) ?_
  refine rhF.step (fun p l e R s m args below meth c H locs cells slots Q ls hX hl kk => lv_if_ne (tgt := 17) hX.1 hX.2.1 dJ0_isLatin1_aae02_10 (by decide) (fun q => absurd rfl q) (fun _ => kk)) ?_
  refine rhF.iconst (pc := 13) (v := 1) dJ0_isLatin1_aae02_13 (by decide) ?_
  refine rhF.goto (pc := 14) 18 dJ0_isLatin1_aae02_14 (by decide) ?_
  exact rhF.zret (pc := 18) dJ0_isLatin1_aae02_18 rfl rfl rfl
theorem c_slength (E : rhE) (Γ : rhG) (M : rhM) (k : Nat) (hk : k < 2) : rhC E 2 yJ0_length_8abf5 cJ0_length_8abf5 1 (some .int) [rhT k] Γ M (some (rhI (Int32.ofNat (rhby k).length)), Γ, M) := by
  refine rhF.met (emb := rhe0I Γ M) (x := (some (0 : Int32)).bind fun r => some (Int32.ofNat (rhby k).length >>> (r &&& 31))) (by decide +kernel) (Nat.le_of_ble_eq_true rfl) ?_ (Int32.ofNat (rhby k).length) ?_
  · refine rhF.aldT (pc := 0) dJ0_length_8abf5_0 0 rfl ?_
    refine rhF.getTv (pc := 1) hk dJ0_length_8abf5_1 (rhTs_in 2150 (by decide +kernel) (by decide +kernel)) ?_
    refine rhF.alenT (pc := 4) hk dJ0_length_8abf5_4 ?_
    refine rhF.aldT (pc := 5) dJ0_length_8abf5_5 0 rfl ?_
    refine rhF.callT (pc := 6) (embc := rhe0I Γ M) [] hk dJ0_length_8abf5_6 (show rhMl RJ0 335 yJ0_coder_7d493 cJ0_coder_7d493 1 (some .byte) 0 from ⟨(rhTs_in 178 (by decide +kernel) (by decide +kernel)), (rhTs_in 135 (by decide +kernel) (by decide +kernel)), (rhTs_in 181 (by decide +kernel) (by decide +kernel)), by decide +kernel⟩) (show Cond.instanceMethod yJ0_coder_7d493 ∈ rhTs ∧ Cond.selects yJ0_coder_7d493.cls yJ0_coder_7d493 yJ0_coder_7d493 ∈ rhTs from ⟨(rhTs_in 179 (by decide +kernel) (by decide +kernel)), (rhTs_in 180 (by decide +kernel) (by decide +kernel))⟩) rfl (fun b hb => by cases hb; exact c_coder E Γ M k hk) (by decide) (by decide) rfl (Nat.le_of_ble_eq_true rfl) (fun r hr => ?_)
    refine rhF.ishr (pc := 9) dJ0_length_8abf5_9 ?_
    exact rhF.zret (pc := 10) dJ0_length_8abf5_10 rfl rfl rfl
  · rcases (show k = 0 ∨ k = 1 by omega) with rfl | rfl <;> decide +kernel
theorem c_pci (E : rhE) (Γ : rhG) (M : rhM) (a b : Int32) (f : rhV) (hf : f = rhR 0 ∨ f = rhT 4) (h : ¬ a < 0) (h2 : a < b) : rhC E 1 yJ3_checkIndex_8e157 cJ3_checkIndex_8e157 3 (some .int) [rhI a, rhI b, f] Γ M (some (rhI a), Γ, M) := by
  refine rhF.met (emb := rhe0I Γ M) (x := if a < 0 then none else if a < b then some a else none) (by decide +kernel) (by rcases hf with rfl | rfl <;> exact Nat.le_of_ble_eq_true rfl) ?_ a (by rw [if_neg h, if_pos h2])
  refine rhF.sub (L' := [(0, rhI a), (1, rhI b)]) [0, 1] rfl ?_
  refine rhF.iload_n (pc := 0) dJ3_checkIndex_8e157_0 0 rfl ?_
  refine rhF.if_lt (pc := 1) 9 dJ3_checkIndex_8e157_1 (by decide) (fun _ => rhF.nope) (fun _ => ?_)
  refine rhF.iload_n (pc := 4) dJ3_checkIndex_8e157_4 0 rfl ?_
  refine rhF.iload_n (pc := 5) dJ3_checkIndex_8e157_5 1 rfl ?_
  refine rhF.icmp_lt (pc := 6) 16 dJ3_checkIndex_8e157_6 (by decide) (fun _ => ?_) (fun _ => rhF.nope)
  refine rhF.iload_n (pc := 16) dJ3_checkIndex_8e157_16 0 rfl ?_
  exact rhF.zret (pc := 17) dJ3_checkIndex_8e157_17 rfl rfl rfl
theorem c_sci (E : rhE) (Γ : rhG) (M : rhM) (a b : Int32) (h : ¬ a < 0) (h2 : a < b) : rhC E 2 yJ0_checkIndex_df160 cJ0_checkIndex_df160 2 none [rhI a, rhI b] Γ M (none, Γ, M) := by
  refine rhF.met (emb := rhe0U Γ M) (x := (some a).bind fun _ => some ()) (by decide +kernel) (Nat.le_of_ble_eq_true rfl) ?_ () rfl
  refine rhF.iload_n (pc := 0) dJ0_checkIndex_df160_0 0 rfl ?_
  refine rhF.iload_n (pc := 1) dJ0_checkIndex_df160_1 1 rfl ?_
  have key : ∀ f : rhV, f = rhR 0 ∨ f = rhT 4 → rhF E 2 2 yJ0_checkIndex_df160 cJ0_checkIndex_df160 none Γ (rhe0U Γ M) ((some a).bind fun _ => some ()) 5 [(0, rhI a), (1, rhI b)] [f, rhI b, rhI a] Γ M := by
    intro f hf
    refine rhF.callS (pc := 5) (embc := rhe0I Γ M) [rhI a, rhI b, f] dJ0_checkIndex_df160_5 (show rhMl RJ0 1059 yJ3_checkIndex_8e157 cJ3_checkIndex_8e157 3 (some .int) 3 from ⟨(rhTs_in 200 (by decide +kernel) (by decide +kernel)), (rhTs_in 137 (by decide +kernel) (by decide +kernel)), (rhTs_in 202 (by decide +kernel) (by decide +kernel)), by decide +kernel⟩) (show Cond.static yJ3_checkIndex_8e157 ∈ rhTs from (rhTs_in 201 (by decide +kernel) (by decide +kernel))) (fun q hq => by cases hq; exact c_pci E Γ M _ _ f hf h h2) (by decide) (by decide) rfl (Nat.le_of_ble_eq_true rfl) (fun r hr => ?_)
    refine rhF.pop (pc := 8) dJ0_checkIndex_df160_8 ?_
    exact rhF.vret (pc := 9) dJ0_checkIndex_df160_9 rfl rfl
  exact rhF.gsF (pc := 2) dJ0_checkIndex_df160_2 (rhTs_in 198 (by decide +kernel) (by decide +kernel)) (key _ (Or.inl rfl)) (key _ (Or.inr rfl))
theorem rhby_byte : ∀ k, k < 2 → ∀ v ∈ rhby k, ((v &&& 255).toUInt32 % 65536).toInt32 = v ∧ narrow .char (.int v) = .int v := by decide +kernel
theorem rhby_at {k : Nat} (hk : k < 2) {i : Nat} (hi : i < (rhby k).length) : (((rhby k).getD i 0 &&& 255).toUInt32 % 65536).toInt32 = (rhby k).getD i 0 ∧ narrow .char (.int ((rhby k).getD i 0)) = .int ((rhby k).getD i 0) := by
  refine rhby_byte k hk _ ?_
  rw [List.getD_eq_getElem?_getD, List.getElem?_eq_getElem hi]
  exact List.getElem_mem hi
theorem c_l1 (E : rhE) (Γ : rhG) (M : rhM) (k : Nat) (hk : k < 2) (i : Int32) (h : 0 ≤ i.toInt ∧ i.toInt < ((rhby k).length : Nat)) : rhC E 3 yJ1_charAt_3b067 cJ1_charAt_3b067 2 (some .char) [rhT (2 + k), rhI i] Γ M (some (rhI ((rhby k).getD i.toNatClampNeg 0)), Γ, M) := by
  have hlen : (rhby k).length < 1000 := by rcases (show k = 0 ∨ k = 1 by omega) with rfl | rfl <;> decide +kernel
  have hc : i.toNatClampNeg < (rhby k).length := by
    show i.toInt.toNat < _
    omega
  obtain ⟨e1, e2⟩ := rhby_at hk hc
  have hlt : i < Int32.ofNat (rhby k).length := by
    rw [Int32.lt_iff_toInt_lt, Int32.toInt_ofNat_of_lt (by omega)]
    exact h.2
  refine rhF.met (emb := rhe0I Γ M) (x := (some ()).bind fun _ => some ((rhby k).getD i.toNatClampNeg 0)) (by decide +kernel) (Nat.le_of_ble_eq_true rfl) ?_ _ rfl
  refine rhF.iload_n (pc := 0) dJ1_charAt_3b067_0 1 rfl ?_
  refine rhF.aldT (pc := 1) dJ1_charAt_3b067_1 0 rfl ?_
  refine rhF.alenT (pc := 2) hk dJ1_charAt_3b067_2 ?_
  refine rhF.callS (pc := 3) (embc := rhe0U Γ M) [rhI _, rhI _] dJ1_charAt_3b067_3 (show rhMl RJ1 9 yJ0_checkIndex_df160 cJ0_checkIndex_df160 2 none 2 from ⟨(rhTs_in 195 (by decide +kernel) (by decide +kernel)), (rhTs_in 135 (by decide +kernel) (by decide +kernel)), (rhTs_in 197 (by decide +kernel) (by decide +kernel)), by decide +kernel⟩) (show Cond.static yJ0_checkIndex_df160 ∈ rhTs from (rhTs_in 196 (by decide +kernel) (by decide +kernel))) (fun q hq => c_sci E Γ M _ _ (rhpos h.1) hlt) (by decide) (by decide) rfl (Nat.le_of_ble_eq_true rfl) (fun r hr => ?_)
  refine rhF.aldT (pc := 6) dJ1_charAt_3b067_6 0 rfl ?_
  refine rhF.iload_n (pc := 7) dJ1_charAt_3b067_7 1 rfl ?_
  refine rhF.baldT (pc := 8) hk dJ1_charAt_3b067_8 h ?_
  refine rhF.sipush (pc := 9) (v := 255) dJ1_charAt_3b067_9 (by decide) ?_
  refine rhF.iand (pc := 12) dJ1_charAt_3b067_12 ?_
  refine rhF.i2c (pc := 13) dJ1_charAt_3b067_13 ?_
  rw [e1]
  exact rhF.zret (pc := 14) dJ1_charAt_3b067_14 rfl e2 rfl
theorem c_scharAt (E : rhE) (Γ : rhG) (M : rhM) (k : Nat) (hk : k < 2) (i : Int32) (h : 0 ≤ i.toInt ∧ i.toInt < ((rhby k).length : Nat)) : rhC E 4 yJ0_charAt_5068e cJ0_charAt_5068e 2 (some .char) [rhT k, rhI i] Γ M (some (rhI ((rhby k).getD i.toNatClampNeg 0)), Γ, M) := by
  have hc : i.toNatClampNeg < (rhby k).length := by
    show i.toInt.toNat < _
    omega
  obtain ⟨e1, e2⟩ := rhby_at hk hc
  refine rhF.met (emb := rhe0I Γ M) (x := (some (1 : Int32)).bind fun r => if r = 0 then none else (some ((rhby k).getD i.toNatClampNeg 0)).bind fun q => some q) (by decide +kernel) (Nat.le_of_ble_eq_true rfl) ?_ ((rhby k).getD i.toNatClampNeg 0) rfl
  refine rhF.aldT (pc := 0) dJ0_charAt_5068e_0 0 rfl ?_
  refine rhF.callT (pc := 1) (embc := rhe0I Γ M) [] hk dJ0_charAt_5068e_1 (show rhMl RJ0 492 yJ0_isLatin1_aae02 cJ0_isLatin1_aae02 1 (some .boolean) 0 from ⟨(rhTs_in 188 (by decide +kernel) (by decide +kernel)), (rhTs_in 135 (by decide +kernel) (by decide +kernel)), (rhTs_in 191 (by decide +kernel) (by decide +kernel)), by decide +kernel⟩) (show Cond.instanceMethod yJ0_isLatin1_aae02 ∈ rhTs ∧ Cond.selects yJ0_isLatin1_aae02.cls yJ0_isLatin1_aae02 yJ0_isLatin1_aae02 ∈ rhTs from ⟨(rhTs_in 189 (by decide +kernel) (by decide +kernel)), (rhTs_in 190 (by decide +kernel) (by decide +kernel))⟩) rfl (fun b hb => by cases hb; exact c_latin E Γ M k hk) (by decide) (by decide) rfl (Nat.le_of_ble_eq_true rfl) (fun r hr => ?_)
  refine rhF.if_eq (pc := 4) 16 dJ0_charAt_5068e_4 (by decide) (fun _ => rhF.nope) (fun _ => ?_)
  refine rhF.aldT (pc := 7) dJ0_charAt_5068e_7 0 rfl ?_
  refine rhF.getTv (pc := 8) hk dJ0_charAt_5068e_8 (rhTs_in 2150 (by decide +kernel) (by decide +kernel)) ?_
  refine rhF.iload_n (pc := 11) dJ0_charAt_5068e_11 1 rfl ?_
  refine rhF.callS (pc := 12) (embc := rhe0I Γ M) [rhT _, rhI _] dJ0_charAt_5068e_12 (show rhMl RJ0 495 yJ1_charAt_3b067 cJ1_charAt_3b067 2 (some .char) 2 from ⟨(rhTs_in 192 (by decide +kernel) (by decide +kernel)), (rhTs_in 136 (by decide +kernel) (by decide +kernel)), (rhTs_in 194 (by decide +kernel) (by decide +kernel)), by decide +kernel⟩) (show Cond.static yJ1_charAt_3b067 ∈ rhTs from (rhTs_in 193 (by decide +kernel) (by decide +kernel))) (fun q hq => by cases hq; exact c_l1 E Γ M k hk _ h) (by decide) (by decide) rfl (Nat.le_of_ble_eq_true rfl) (fun q hq => ?_)
  cases hq
  exact rhF.zret (pc := 15) dJ0_charAt_5068e_15 rfl e2 rfl
section RHS2
variable {E : rhE} {d nL : Nat} {y : MethodName} {cc : ByteArray} {rt : Option FieldType} {Γ0 : rhG} {α : Type} {emb : α → rhO} {x x1 x2 : Option α} {pc : Nat} {L L' : List (Nat × rhV)} {S S' : List rhV} {Γ : rhG} {M : rhM}
theorem rhF.strlen19 {idx : Nat} (hy : y.cls = RX8) (h5 : 5 ≤ d) (hcat : (S.map rhcat).sum ≤ 8) (hd : decode cc pc = .ok (.ldc 19, 2)) (hd2 : decode cc (pc + 2) = .ok (.invokevirtual idx, 3)) (hl : rhMl y.cls idx yJ0_length_8abf5 cJ0_length_8abf5 1 (some .int) 0) (k : rhF E d nL y cc rt Γ0 emb x (pc + 2 + 3) L (rhI (Int32.ofNat rhby0.length) :: S) Γ M) : rhF E d nL y cc rt Γ0 emb x pc L S Γ M := by
  refine rhF.ldcT0 hd hy ?_
  have h1 := rhF.callT (E := E) (d := d) (Γ0 := Γ0) (emb := emb) (g := some (Int32.ofNat rhby0.length)) (kf := fun _ => x) (embc := rhe0I Γ M) (L := L) (S := S) [] (show 0 < 2 by decide) hd2 hl (show Cond.instanceMethod yJ0_length_8abf5 ∈ rhTs ∧ Cond.selects yJ0_length_8abf5.cls yJ0_length_8abf5 yJ0_length_8abf5 ∈ rhTs from ⟨(rhTs_in 175 (by decide +kernel) (by decide +kernel)), (rhTs_in 176 (by decide +kernel) (by decide +kernel))⟩) rfl (fun b hb => by cases hb; exact c_slength E Γ M 0 (by decide)) (by omega) (by decide) rfl hcat (fun b hb => by cases hb; exact k)
  exact h1
theorem rhF.strchar19 {idx : Nat} {v : Int32} {n : Fin 4} (hy : y.cls = RX8) (h5 : 5 ≤ d) (hcat : (S.map rhcat).sum ≤ 8) (hd : decode cc pc = .ok (.ldc 19, 2)) (hd2 : decode cc (pc + 2) = .ok (.iload_n n, 1)) (g : Nat) (hk : L[g]? = some (n.val, rhI v)) (hd3 : decode cc (pc + 2 + 1) = .ok (.invokevirtual idx, 3)) (hl : rhMl y.cls idx yJ0_charAt_5068e cJ0_charAt_5068e 2 (some .char) 1) (h : 0 ≤ v.toInt ∧ v.toInt < (rhby0.length : Nat)) (k : rhF E d nL y cc rt Γ0 emb x (pc + 2 + 1 + 3) L (rhI (rhby0.getD v.toNatClampNeg 0) :: S) Γ M) : rhF E d nL y cc rt Γ0 emb x pc L S Γ M := by
  refine rhF.ldcT0 hd hy ?_
  refine rhF.iload_n hd2 g hk ?_
  have h1 := rhF.callT (E := E) (d := d) (Γ0 := Γ0) (emb := emb) (g := some (rhby0.getD v.toNatClampNeg 0)) (kf := fun _ => x) (embc := rhe0I Γ M) (L := L) (S := S) [rhI v] (show 0 < 2 by decide) hd3 hl (show Cond.instanceMethod yJ0_charAt_5068e ∈ rhTs ∧ Cond.selects yJ0_charAt_5068e.cls yJ0_charAt_5068e yJ0_charAt_5068e ∈ rhTs from ⟨(rhTs_in 185 (by decide +kernel) (by decide +kernel)), (rhTs_in 186 (by decide +kernel) (by decide +kernel))⟩) rfl (fun b hb => by cases hb; exact c_scharAt E Γ M 0 (by decide) v h) (by omega) (by decide) rfl hcat (fun b hb => by cases hb; exact k)
  exact h1
theorem rhF.strlen82 {idx : Nat} (hy : y.cls = RX8) (h5 : 5 ≤ d) (hcat : (S.map rhcat).sum ≤ 8) (hd : decode cc pc = .ok (.ldc 82, 2)) (hd2 : decode cc (pc + 2) = .ok (.invokevirtual idx, 3)) (hl : rhMl y.cls idx yJ0_length_8abf5 cJ0_length_8abf5 1 (some .int) 0) (k : rhF E d nL y cc rt Γ0 emb x (pc + 2 + 3) L (rhI (Int32.ofNat rhby1.length) :: S) Γ M) : rhF E d nL y cc rt Γ0 emb x pc L S Γ M := by
  refine rhF.ldcT1 hd hy ?_
  have h1 := rhF.callT (E := E) (d := d) (Γ0 := Γ0) (emb := emb) (g := some (Int32.ofNat rhby1.length)) (kf := fun _ => x) (embc := rhe0I Γ M) (L := L) (S := S) [] (show 1 < 2 by decide) hd2 hl (show Cond.instanceMethod yJ0_length_8abf5 ∈ rhTs ∧ Cond.selects yJ0_length_8abf5.cls yJ0_length_8abf5 yJ0_length_8abf5 ∈ rhTs from ⟨(rhTs_in 175 (by decide +kernel) (by decide +kernel)), (rhTs_in 176 (by decide +kernel) (by decide +kernel))⟩) rfl (fun b hb => by cases hb; exact c_slength E Γ M 1 (by decide)) (by omega) (by decide) rfl hcat (fun b hb => by cases hb; exact k)
  exact h1
theorem rhF.strchar82 {idx : Nat} {v : Int32} {n : Fin 4} (hy : y.cls = RX8) (h5 : 5 ≤ d) (hcat : (S.map rhcat).sum ≤ 8) (hd : decode cc pc = .ok (.ldc 82, 2)) (hd2 : decode cc (pc + 2) = .ok (.iload_n n, 1)) (g : Nat) (hk : L[g]? = some (n.val, rhI v)) (hd3 : decode cc (pc + 2 + 1) = .ok (.invokevirtual idx, 3)) (hl : rhMl y.cls idx yJ0_charAt_5068e cJ0_charAt_5068e 2 (some .char) 1) (h : 0 ≤ v.toInt ∧ v.toInt < (rhby1.length : Nat)) (k : rhF E d nL y cc rt Γ0 emb x (pc + 2 + 1 + 3) L (rhI (rhby1.getD v.toNatClampNeg 0) :: S) Γ M) : rhF E d nL y cc rt Γ0 emb x pc L S Γ M := by
  refine rhF.ldcT1 hd hy ?_
  refine rhF.iload_n hd2 g hk ?_
  have h1 := rhF.callT (E := E) (d := d) (Γ0 := Γ0) (emb := emb) (g := some (rhby1.getD v.toNatClampNeg 0)) (kf := fun _ => x) (embc := rhe0I Γ M) (L := L) (S := S) [rhI v] (show 1 < 2 by decide) hd3 hl (show Cond.instanceMethod yJ0_charAt_5068e ∈ rhTs ∧ Cond.selects yJ0_charAt_5068e.cls yJ0_charAt_5068e yJ0_charAt_5068e ∈ rhTs from ⟨(rhTs_in 185 (by decide +kernel) (by decide +kernel)), (rhTs_in 186 (by decide +kernel) (by decide +kernel))⟩) rfl (fun b hb => by cases hb; exact c_scharAt E Γ M 1 (by decide) v h) (by omega) (by decide) rfl hcat (fun b hb => by cases hb; exact k)
  exact h1
end RHS2
