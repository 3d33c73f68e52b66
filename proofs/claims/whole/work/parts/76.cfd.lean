/-! A TABLE OF WORDS BY THEIR SCATTERED NUMBERS -/
theorem least_k {P : Nat → Prop} : ∀ {k : Nat}, P k → ∃ j, j ≤ k ∧ P j ∧ ∀ i, i < j → ¬ P i := by
  intro k
  induction k using Nat.strongRecOn with
  | _ k ih =>
    intro h
    by_cases c : ∃ i, i < k ∧ P i
    · obtain ⟨i, hi, hp⟩ := c
      obtain ⟨j, h1, h2, h3⟩ := ih i hi hp
      exact ⟨j, by omega, h2, h3⟩
    · exact ⟨k, Nat.le_refl _, h, fun i hi hp => c ⟨i, hi, hp⟩⟩
def HInv (Z : Nat) (h : Int64 → Nat) (ws : List Int64) (tab : Nat → Nat) : Prop := ws.length < Z ∧ (∀ w, h w < Z) ∧ (∀ q, q < Z → tab q ≤ ws.length) ∧ (∀ q q', q < Z → q' < Z → tab q ≠ 0 → tab q = tab q' → q = q') ∧
  ∀ (i : Nat) (w : Int64), ws[i]? = some w → ∃ k, k < Z ∧ tab ((h w + k) % Z) = i + 1 ∧ ∀ k', k' < k → tab ((h w + k') % Z) ≠ 0
theorem mod_add_inj {Z a k k' : Nat} (hk : k < Z) (hk' : k' < Z) (h : (a + k) % Z = (a + k') % Z) : k = k' := by
  have h1 := Nat.div_add_mod (a + k) Z
  have h2 := Nat.div_add_mod (a + k') Z
  rw [h] at h1
  generalize (a + k) / Z = x at *
  generalize (a + k') / Z = y at *
  rcases Nat.lt_trichotomy x y with c | c | c
  · have := Nat.mul_le_mul_left Z (show x + 1 ≤ y by omega)
    rw [Nat.mul_add] at this; omega
  · subst c; omega
  · have := Nat.mul_le_mul_left Z (show y + 1 ≤ x by omega)
    rw [Nat.mul_add] at this; omega
theorem HInv.free {Z : Nat} {h : Int64 → Nat} {ws : List Int64} {tab : Nat → Nat} (H : HInv Z h ws tab) (w : Int64) : ∃ k, k < Z ∧ tab ((h w + k) % Z) = 0 ∧ ∀ k', k' < k → tab ((h w + k') % Z) ≠ 0 := by
  obtain ⟨h1, h2, h3, h4, h5⟩ := H
  have key : ∃ k, k < Z ∧ tab ((h w + k) % Z) = 0 := by
    by_cases c : ∃ q, q < Z ∧ tab q = 0
    · obtain ⟨q, hq, hz⟩ := c
      have := h2 w
      by_cases c2 : h w ≤ q
      · exact ⟨q - h w, by omega, by rw [show h w + (q - h w) = q by omega, Nat.mod_eq_of_lt hq]; exact hz⟩
      · exact ⟨q + Z - h w, by omega, by rw [show h w + (q + Z - h w) = q + Z by omega, Nat.add_mod_right, Nat.mod_eq_of_lt hq]; exact hz⟩
    · exfalso
      have := fb_holes ws.length Z (fun q => tab q - 1) (fun q hq => by
        have a := h3 q hq
        have b : tab q ≠ 0 := fun e => c ⟨q, hq, e⟩
        show tab q - 1 < _; omega) (fun i j hij hj e => by
        have a : tab i ≠ 0 := fun e => c ⟨i, by omega, e⟩
        have b : tab j ≠ 0 := fun e => c ⟨j, hj, e⟩
        have a1 := h3 i (by omega)
        have := h4 i j (by omega) hj a (by omega)
        omega)
      omega
  obtain ⟨k, hk, hz⟩ := key
  obtain ⟨j, j1, j2, j3⟩ := least_k (P := fun k => tab ((h w + k) % Z) = 0) hz
  exact ⟨j, by omega, j2, j3⟩
theorem HInv.find {Z : Nat} {h : Int64 → Nat} {ws : List Int64} {tab : Nat → Nat} (H : HInv Z h ws tab) (nd : ws.Nodup) {i : Nat} {w : Int64} (hw : ws[i]? = some w) :
    ∃ k, k < Z ∧ tab ((h w + k) % Z) = i + 1 ∧ ∀ k', k' < k → tab ((h w + k') % Z) ≠ 0 ∧ ws[tab ((h w + k') % Z) - 1]? ≠ some w := by
  obtain ⟨h1, h2, h3, h4, h5⟩ := H
  obtain ⟨k, k1, k2, k3⟩ := h5 i w hw
  refine ⟨k, k1, k2, fun k' hk' => ⟨k3 k' hk', fun e => ?_⟩⟩
  have hil := (List.getElem?_eq_some_iff.mp hw).1
  have e2 : tab ((h w + k') % Z) - 1 = i := ((List.getElem?_inj hil nd).mp (hw.trans e.symm)).symm
  have hz : 0 < Z := by omega
  have := h4 _ _ (Nat.mod_lt (h w + k') hz) (Nat.mod_lt (h w + k) hz) (k3 k' hk') (by have := k3 k' hk'; omega)
  have := mod_add_inj (by omega) k1 this
  omega
theorem HInv.add {Z : Nat} {h : Int64 → Nat} {ws : List Int64} {tab : Nat → Nat} (H : HInv Z h ws tab) (hl : ws.length + 1 < Z) {w : Int64} {k : Nat} (hk : k < Z) (hz : tab ((h w + k) % Z) = 0) (hb : ∀ k', k' < k → tab ((h w + k') % Z) ≠ 0) :
    HInv Z h (ws ++ [w]) (fun q => if q = (h w + k) % Z then ws.length + 1 else tab q) := by
  obtain ⟨h1, h2, h3, h4, h5⟩ := H
  have hZ : 0 < Z := by omega
  refine ⟨by rw [List.length_append]; simpa using hl, h2, fun q hq => ?_, fun q q' hq hq' hn he => ?_, fun i v hv => ?_⟩
  · rw [List.length_append, List.length_singleton]
    dsimp only
    split
    · exact Nat.le_refl _
    · have := h3 q hq; omega
  · dsimp only at hn he
    by_cases a : q = (h w + k) % Z
    · by_cases b : q' = (h w + k) % Z
      · omega
      · rw [if_pos a, if_neg b] at he
        have := h3 q' hq'; omega
    · by_cases b : q' = (h w + k) % Z
      · rw [if_neg a, if_pos b] at he
        have := h3 q hq; omega
      · rw [if_neg a, if_neg b] at he
        rw [if_neg a] at hn
        exact h4 q q' hq hq' hn he
  · by_cases hi : i < ws.length
    · rw [List.getElem?_append_left hi] at hv
      obtain ⟨j, j1, j2, j3⟩ := h5 i v hv
      refine ⟨j, j1, ?_, fun k' hk' => ?_⟩
      · dsimp only
        rw [if_neg (fun e => by rw [e] at j2; omega)]; exact j2
      · dsimp only
        split
        · omega
        · exact j3 k' hk'
    · have hil := (List.getElem?_eq_some_iff.mp hv).1
      rw [List.length_append, List.length_singleton] at hil
      have hi2 : i = ws.length := by omega
      subst hi2
      rw [List.getElem?_append_right (Nat.le_refl _), Nat.sub_self] at hv
      cases hv
      refine ⟨k, hk, if_pos rfl, fun k' hk' => ?_⟩
      dsimp only
      split
      · omega
      · exact hb k' hk'
theorem HInv.empty {Z : Nat} {h : Int64 → Nat} (hZ : 0 < Z) (hh : ∀ w, h w < Z) : HInv Z h [] (fun _ => 0) :=
  ⟨hZ, hh, fun _ _ => Nat.le_refl _, fun _ _ _ _ h => absurd rfl h, fun i w h => by simp at h⟩
def hs (tb : Nat) (w : Int64) : Nat := (w * (-7046029254386353131 : Int64)).toBitVec.toNat >>> (64 - tb)
theorem jl_of (x : Int64) : jl x.toBitVec.toNat = x := by
  apply Int64.toBitVec_inj.mp
  rw [jl_bv, BitVec.ofNat_toNat, BitVec.setWidth_eq]
theorem hs_lt {tb : Nat} (h2 : tb ≤ 64) (w : Int64) : hs tb w < 2 ^ tb := by
  unfold hs
  rw [Nat.shiftRight_eq_div_pow, Nat.div_lt_iff_lt_mul (Nat.pow_pos (by decide)), ← Nat.pow_add, show tb + (64 - tb) = 64 by omega]
  exact BitVec.isLt _
theorem hs_ok {tb : Nat} (h1 : 1 ≤ tb) (h2 : tb ≤ 20) (w : Int64) : Int64.toInt32 (rhul (w * (-7046029254386353131 : Int64)) (J (64 - tb))) = J (hs tb w) := by
  have hl := hs_lt (tb := tb) (by omega) w
  have hp : 2 ^ tb ≤ 2 ^ 20 := pow_le h2
  rw [← jl_of (w * _), show (64 : Int) - tb = ((64 - tb : Nat) : Int) by omega, jl_shr (BitVec.isLt _) (by omega), jl_to32]
  show J ((hs tb w % 2 ^ 32 : Nat) : Int) = _
  rw [Nat.mod_eq_of_lt (by omega)]
def FSh (Γ : rhG) (M : rhM) (F cp tln : Nat) : Prop := Γ.2.2.1 F = 1 ∧ (Γ.2.2.1 (F + 1) = 16 ∧ Γ.2.2.2 (F + 1) = cp) ∧ (Γ.2.2.1 (F + 2) = 15 ∧ Γ.2.2.2 (F + 2) = cp) ∧ (Γ.2.2.1 (F + 3) = 15 ∧ Γ.2.2.2 (F + 3) = cp) ∧ (Γ.2.2.1 (F + 4) = 15 ∧ Γ.2.2.2 (F + 4) = cp) ∧ (Γ.2.2.1 (F + 5) = 15 ∧ Γ.2.2.2 (F + 5) = tln) ∧
  M.2.2 F 1 = F + 1 ∧ M.2.2 F 2 = F + 2 ∧ M.2.2 F 3 = F + 3 ∧ M.2.2 F 4 = F + 4 ∧ M.2.2 F 5 = F + 5
theorem FSh.fr {Γ : rhG} {M M' : rhM} {F cp tln : Nat} (h : FSh Γ M F cp tln) (hF : M'.2.2 = M.2.2) : FSh Γ M' F cp tln := by unfold FSh; rw [hF]; exact h
def wds (A : List Ar) : List Int64 := A.map fun L => jl (wn L)
/-- the table and the words of Found -/
def FW (M : rhM) (F tb : Nat) (A : List Ar) (tab : Nat → Nat) : Prop := M.1 F 0 = J A.length ∧ M.1 F 6 = J tb ∧ (∀ (i : Nat) (w : Int64), (wds A)[i]? = some w → M.2.1 (F + 1) i = w) ∧ (∀ q, q < 2 ^ tb → M.1 (F + 5) q = J (tab q)) ∧ HInv (2 ^ tb) (hs tb) (wds A) tab
theorem wds_len (A : List Ar) : (wds A).length = A.length := by simp [wds]
theorem wds_nd {R H : Nat} {A : List Ar} (hR : R ≤ 5) (hH : H ≤ 8) (hv : ∀ L, L ∈ A → WA R H L) (nd : A.Nodup) : (wds A).Nodup := by
  have key : ∀ B : List Ar, (∀ L, L ∈ B → WA R H L) → B.Nodup → (wds B).Nodup := by
    intro B
    induction B with
    | nil => intro _ _; simp [wds]
    | cons x B ih =>
      intro hv nd
      rw [List.nodup_cons] at nd
      show (jl (wn x) :: wds B).Nodup
      rw [List.nodup_cons]
      refine ⟨fun h => ?_, ih (fun L hL => hv L (List.mem_cons_of_mem _ hL)) nd.2⟩
      unfold wds at h
      rw [List.mem_map] at h
      obtain ⟨y, hy, e⟩ := h
      have wx := hv x List.mem_cons_self
      have wy := hv y (List.mem_cons_of_mem _ hy)
      have b1 := wn_lt wx hR hH
      have b2 := wn_lt wy hR hH
      have := (jl_inj (by omega) (by omega)).mp e
      exact nd.1 (wn_inj wy wx hH this ▸ hy)
  exact key A hv nd
theorem wds_at {R H : Nat} {A : List Ar} {L : Ar} (hR : R ≤ 5) (hH : H ≤ 8) (hv : ∀ L, L ∈ A → WA R H L) (hL : WA R H L) {i : Nat} : (wds A)[i]? = some (jl (wn L)) ↔ A[i]? = some L := by
  unfold wds
  rw [List.getElem?_map]
  constructor
  · intro h
    cases e : A[i]? with
    | none => rw [e] at h; cases h
    | some x =>
      rw [e] at h
      simp only [Option.map_some, Option.some.injEq] at h
      have wx := hv x (List.mem_of_getElem? e)
      have b1 := wn_lt wx hR hH
      have b2 := wn_lt hL hR hH
      rw [wn_inj wx hL hH ((jl_inj (by omega) (by omega)).mp h)]
  · intro h; rw [h]; rfl
section
variable {Γ : rhG} {M : rhM} {F cp tln tb : Nat} {A : List Ar} {tab : Nat → Nat} {R H : Nat}
theorem FU_big2 : 900000000 < rhFU := by decide
theorem c_num30 (hS : FSh Γ M F cp tln) (hW : FW M F tb A tab) (h1 : 1 ≤ tb) (h2 : tb ≤ 20) (htl : 2 ^ tb ≤ tln) (htl2 : tln ≤ 2 ^ 20) (hcp : A.length ≤ cp) (hcp2 : cp < 2147483648) (w : Int64) (h0 : Nat) {K : Nat} (hkK : K < 2 ^ tb)
    (hn : ∀ k', k' < K → tab ((h0 + k') % 2 ^ tb) ≠ 0 ∧ (wds A)[tab ((h0 + k') % 2 ^ tb) - 1]? ≠ some w) (Q : Int32 × rhM → Prop) : ∀ (d n : Nat) (M1 : rhM) (k : Nat), k + d = K → d < n → Fr [F] M M1 → (∀ j, j ≠ 7 → M1.1 F j = M.1 F j) → M1.1 F 7 = J ((h0 + k) % 2 ^ tb : Nat) →
    ((tab ((h0 + K) % 2 ^ tb) = 0 ∧ ∀ M', Fr [F] M M' → (∀ j, j ≠ 7 → M'.1 F j = M.1 F j) → M'.1 F 7 = J ((h0 + K) % 2 ^ tb : Nat) → Q (-1, M')) ∨
      (∃ i : Nat, tab ((h0 + K) % 2 ^ tb) = i + 1 ∧ (wds A)[i]? = some w ∧ ∀ M', Fr [F] M M' → (∀ j, j ≠ 7 → M'.1 F j = M.1 F j) → Q (J i, M'))) →
    wp (f_X0_numberOf_30 (f_X0_numberOf_89 Γ) Γ n M1 F w (J ((2 ^ tb : Nat) - 1 : Int)) (J k)) Q := by
  obtain ⟨s0, ⟨s1, n1⟩, -, -, -, ⟨s5, n5⟩, r1, r2, r3, r4, r5⟩ := hS
  have hp : 2 ^ tb ≤ 2 ^ 20 := pow_le h2
  have hp1 : 0 < 2 ^ tb := Nat.pow_pos (by decide)
  have hlen := wds_len A
  intro d
  induction d with
  | zero =>
    intro n M1 k hk hd hF hj h7 hQ
    obtain ⟨n, rfl⟩ : ∃ k, n = k + 1 := ⟨n - 1, by omega⟩
    have hk2 : k = K := by omega
    subst hk2
    have hm := Nat.mod_lt (h0 + k) hp1
    have ht := hW.2.2.2.1 _ hm
    generalize (h0 + k) % 2 ^ tb = q at *
    have r1' : M1.2.2 F 1 = F + 1 := by rw [hF.1]; exact r1
    have r5' : M1.2.2 F 5 = F + 5 := by rw [hF.1]; exact r5
    have ht' : M1.1 (F + 5) q = J (tab q) := by rw [hF.i (by simp)]; exact ht
    rw [f_X0_numberOf_30]
    rcases hQ with ⟨hz, hQ⟩ | ⟨i, hi, hw, hQ⟩
    · rw [hz] at ht'
      simp (disch := omega) only [wp_some, wp_ck_T, wp_ck_t, wp_bind, wp_ite_t, wp_ite_f, J_lit, J_neg, J_add, J_sub, J_mul, J_lt, J_le, J_eq, J_toInt, J_clamp, J_suc, si_1, si_2, sl_1, sl_2, sl_3, Int.toNat_natCast, Int.reduceToNat, Nat.add_sub_cancel, Int.toNat_add, Int.toNat_mul, Int.toNat_sub'', true_and, and_true, and_self, if_true, if_false, not_true, not_false_eq_true, s0, s5, n5, r5', h7, ht']
      exact hQ M1 hF hj h7
    · rw [hi] at ht'
      have hil := (List.getElem?_eq_some_iff.mp hw).1
      have hw2 : M1.2.1 (F + 1) i = w := by rw [hF.l (by simp)]; exact hW.2.2.1 i w hw
      simp (disch := omega) only [wp_some, wp_ck_T, wp_ck_t, wp_bind, wp_ite_t, wp_ite_f, J_lit, J_neg, J_add, J_sub, J_mul, J_lt, J_le, J_eq, J_toInt, J_clamp, J_suc, si_1, si_2, sl_1, sl_2, sl_3, Int.toNat_natCast, Int.reduceToNat, Nat.add_sub_cancel, Int.toNat_add, Int.toNat_mul, Int.toNat_sub'', true_and, and_true, and_self, if_true, if_false, not_true, not_false_eq_true, s0, s1, n1, s5, n5, r1', r5', h7, ht', show ((i + 1 : Nat) : Int) - 1 = i by omega, hw2]
      exact hQ M1 hF hj
  | succ d ih =>
    intro n M1 k hk hd hF hj h7 hQ
    obtain ⟨n, rfl⟩ : ∃ k, n = k + 1 := ⟨n - 1, by omega⟩
    have hm := Nat.mod_lt (h0 + k) hp1
    have ht := hW.2.2.2.1 _ hm
    have hnk := hn k (by omega)
    have hle := hW.2.2.2.2.2.2.1 _ hm
    have hnext : ((h0 + k) % 2 ^ tb + 1) % 2 ^ tb = (h0 + (k + 1)) % 2 ^ tb := by rw [Nat.mod_add_mod, Nat.add_assoc]
    generalize (h0 + k) % 2 ^ tb = q at *
    obtain ⟨i, hi⟩ : ∃ i, tab q = i + 1 := ⟨tab q - 1, by omega⟩
    rw [hi] at ht hnk
    rw [Nat.add_sub_cancel] at hnk
    have r1' : M1.2.2 F 1 = F + 1 := by rw [hF.1]; exact r1
    have r5' : M1.2.2 F 5 = F + 5 := by rw [hF.1]; exact r5
    have ht' : M1.1 (F + 5) q = J ((i + 1 : Nat) : Int) := by rw [hF.i (by simp)]; exact ht
    have hil : i < (wds A).length := by omega
    have hwi : M1.2.1 (F + 1) i = (wds A)[i] := by rw [hF.l (by simp)]; exact hW.2.2.1 i _ (List.getElem?_eq_getElem hil)
    have hne : ¬ (wds A)[i] = w := fun e => hnk.2 (by rw [List.getElem?_eq_getElem hil, e])
    have e3 : J ((2 ^ tb : Nat) - 1 : Int) = J ((2 ^ tb - 1 : Nat) : Int) := by congr 1; omega
    have e4 : ((q + 1 : Nat) &&& (2 ^ tb - 1)) = (h0 + (k + 1)) % 2 ^ tb := by rw [Nat.and_two_pow_sub_one_eq_mod]; exact hnext
    rw [f_X0_numberOf_30]
    simp (disch := omega) only [wp_some, wp_ck_T, wp_ck_t, wp_bind, wp_ite_t, wp_ite_f, J_lit, J_neg, J_add, J_sub, J_mul, J_lt, J_le, J_eq, J_toInt, J_clamp, J_suc, si_1, si_2, sl_1, sl_2, sl_3, Int.toNat_natCast, Int.reduceToNat, Nat.add_sub_cancel, Int.toNat_add, Int.toNat_mul, Int.toNat_sub'', true_and, and_true, and_self, if_true, if_false, not_true, not_false_eq_true, s0, s1, n1, s5, n5, r1', r5', h7, ht', show ((i + 1 : Nat) : Int) - 1 = i by omega, hwi]
    rw [e3, J_and, e4, ← e3]
    have hF1 : Fr [F] M1 (rhsi M1 F 7 (J ((h0 + (k + 1)) % 2 ^ tb : Nat))) := (Fr.refl _ _).si (by simp) _ _
    exact ih n _ (k + 1) (by omega) (by omega) (hF.trans hF1) (fun j hj7 => by rw [si_1, if_neg (by omega)]; exact hj j hj7) (by rw [si_1, if_pos ⟨rfl, rfl⟩]) hQ
/-- the free place at which a search ended -/
def SR (M : rhM) (F tb : Nat) (tab : Nat → Nat) (w : Int64) : Prop := ∃ k, k < 2 ^ tb ∧ M.1 F 7 = J ((hs tb w + k) % 2 ^ tb : Nat) ∧ tab ((hs tb w + k) % 2 ^ tb) = 0 ∧ ∀ k', k' < k → tab ((hs tb w + k') % 2 ^ tb) ≠ 0
theorem c_number (hS : FSh Γ M F cp tln) (hW : FW M F tb A tab) (h1 : 1 ≤ tb) (h2 : tb ≤ 20) (htl : 2 ^ tb ≤ tln) (htl2 : tln ≤ 2 ^ 20) (hcp : A.length ≤ cp) (hcp2 : cp < 2147483648) (nd : (wds A).Nodup) (w : Int64) :
    wp (f_X0_numberOf Γ M F w) (fun r => Fr [F] M r.2 ∧ (∀ j, j ≠ 7 → r.2.1 F j = M.1 F j) ∧ ((∃ i : Nat, (wds A)[i]? = some w ∧ r.1 = J i) ∨ (w ∉ wds A ∧ r.1 = -1 ∧ SR r.2 F tb tab w))) := by
  have hp : 2 ^ tb ≤ 2 ^ 20 := pow_le h2
  have hp1 : 0 < 2 ^ tb := Nat.pow_pos (by decide)
  have h6 := hW.2.1
  have e1 := J_shl 1 (k := tb) (by omega)
  rw [show ((1 : Nat) : Int) = 1 from rfl, Nat.one_mul, show (31 : Int32) = J 31 from rfl] at e1
  have e2 := hs_ok h1 h2 w
  have hfun : f_X0_numberOf Γ M F w = f_X0_numberOf_30 (f_X0_numberOf_89 Γ) Γ rhFU (rhsi M F 7 (J (hs tb w))) F w (J ((2 ^ tb : Nat) - 1 : Int)) (J ((0 : Nat) : Int)) := by
    rw [f_X0_numberOf, rhck_t hS.1, h6, show (64 : Int32) = J 64 from rfl, J_sub, e2, show (1 : Int32) = J 1 from rfl, show (31 : Int32) = J 31 from rfl, e1, J_sub]
    rfl
  rw [hfun]
  have hF1 : Fr [F] M (rhsi M F 7 (J (hs tb w))) := (Fr.refl _ _).si (by simp) _ _
  have hj1 : ∀ j, j ≠ 7 → (rhsi M F 7 (J (hs tb w))).1 F j = M.1 F j := fun j hj => by rw [si_1, if_neg (by omega)]
  have h71 : (rhsi M F 7 (J (hs tb w))).1 F 7 = J ((hs tb w + 0) % 2 ^ tb : Nat) := by rw [si_1, if_pos ⟨rfl, rfl⟩, Nat.add_zero, Nat.mod_eq_of_lt (hs_lt (by omega) w)]
  by_cases c : w ∈ wds A
  · obtain ⟨i, hi, hiw⟩ := List.getElem_of_mem c
    have hiw : (wds A)[i]? = some w := by rw [List.getElem?_eq_getElem hi, hiw]
    obtain ⟨k, k1, k2, k3⟩ := hW.2.2.2.2.find nd hiw
    refine c_num30 hS hW h1 h2 htl htl2 hcp hcp2 w (hs tb w) k1 k3 _ k rhFU _ 0 (by omega) (by have := FU_big2; omega) hF1 hj1 h71 (Or.inr ⟨i, k2, hiw, fun M' a b => ⟨a, b, Or.inl ⟨i, hiw, rfl⟩⟩⟩)
  · obtain ⟨k, k1, k2, k3⟩ := hW.2.2.2.2.free w
    refine c_num30 hS hW h1 h2 htl htl2 hcp hcp2 w (hs tb w) k1 (fun k' hk' => ⟨k3 k' hk', fun e => c (List.mem_of_getElem? e)⟩) _ k rhFU _ 0 (by omega) (by have := FU_big2; omega) hF1 hj1 h71 (Or.inl ⟨k2, fun M' a b d => ⟨a, b, Or.inr ⟨c, rfl, k, k1, d, k2, k3⟩⟩⟩)
theorem c_lead (hS : FSh Γ M F cp tln) (hcp2 : cp < 2147483648) {n : Nat} (hn : n < cp) {par : Int} {cd : Nat} {dv : Int} (hp : (par = -1 ∧ dv = 0) ∨ (∃ q : Nat, par = q ∧ q < cp ∧ q ≠ n ∧ M.1 (F + 4) q = J (dv - 1))) :
    wp (f_X0_lead Γ M F (J n) (J par) (J cd)) (fun M' => Fr [F + 2, F + 3, F + 4] M M' ∧ (∀ j, M'.1 (F + 2) j = if j = n then J par else M.1 (F + 2) j) ∧ (∀ j, M'.1 (F + 3) j = if j = n then J cd else M.1 (F + 3) j) ∧ (∀ j, M'.1 (F + 4) j = if j = n then J dv else M.1 (F + 4) j)) := by
  obtain ⟨s0, -, ⟨s2, n2⟩, ⟨s3, n3⟩, ⟨s4, n4⟩, -, r1, r2, r3, r4, r5⟩ := hS
  have fin : ∀ M1 : rhM, M1 = rhsi (rhsi (rhsi M (F + 2) n (J par)) (F + 3) n (J cd)) (F + 4) n (J dv) → Fr [F + 2, F + 3, F + 4] M M1 ∧ (∀ j, M1.1 (F + 2) j = if j = n then J par else M.1 (F + 2) j) ∧ (∀ j, M1.1 (F + 3) j = if j = n then J cd else M.1 (F + 3) j) ∧ (∀ j, M1.1 (F + 4) j = if j = n then J dv else M.1 (F + 4) j) := by
    intro M1 hM1
    refine ⟨by rw [hM1]; exact (((Fr.refl _ _).si (by simp) _ _).si (by simp) _ _).si (by simp) _ _, fun j => ?_, fun j => ?_, fun j => ?_⟩
    · rw [hM1, si_1, si_1, si_1, if_neg (by omega), if_neg (by omega)]
      by_cases e : j = n
      · rw [if_pos ⟨rfl, e⟩, if_pos e]
      · rw [if_neg (by omega), if_neg e]
    · rw [hM1, si_1, si_1, if_neg (by omega)]
      by_cases e : j = n
      · rw [if_pos ⟨rfl, e⟩, if_pos e]
      · rw [if_neg (by omega), if_neg e, si_1, if_neg (by omega)]
    · rw [hM1, si_1]
      by_cases e : j = n
      · rw [if_pos ⟨rfl, e⟩, if_pos e]
      · rw [if_neg (by omega), if_neg e, si_1, if_neg (by omega), si_1, if_neg (by omega)]
  refine wp.mono (P := fun M' => M' = rhsi (rhsi (rhsi M (F + 2) n (J par)) (F + 3) n (J cd)) (F + 4) n (J dv)) ?_ (fun M' h => fin M' h)
  rw [f_X0_lead]
  rcases hp with ⟨h1, h2⟩ | ⟨q, h1, h2, h3, h4⟩
  · subst h1 h2
    simp (disch := omega) only [wp_some, wp_ck_T, wp_ck_t, wp_bind, wp_ite_t, wp_ite_f, J_lit, J_neg, J_add, J_sub, J_mul, J_lt, J_le, J_eq, J_toInt, J_clamp, J_suc, si_1, si_2, sl_1, sl_2, sl_3, Int.toNat_natCast, Int.reduceToNat, Nat.add_sub_cancel, Int.toNat_add, Int.toNat_mul, Int.toNat_sub'', true_and, and_true, and_self, if_true, if_false, not_true, not_false_eq_true, f_X0_lead_36, s0, s2, n2, s3, n3, s4, n4, r2, r3, r4]
  · subst h1
    simp (disch := omega) only [wp_some, wp_ck_T, wp_ck_t, wp_bind, wp_ite_t, wp_ite_f, J_lit, J_neg, J_add, J_sub, J_mul, J_lt, J_le, J_eq, J_toInt, J_clamp, J_suc, si_1, si_2, sl_1, sl_2, sl_3, Int.toNat_natCast, Int.reduceToNat, Nat.add_sub_cancel, Int.toNat_add, Int.toNat_mul, Int.toNat_sub'', true_and, and_true, and_self, if_true, if_false, not_true, not_false_eq_true, if_neg, f_X0_lead_36, s0, s2, n2, s3, n3, s4, n4, r2, r3, r4, h4, Int.sub_add_cancel]
theorem c_add_run (hS : FSh Γ M F cp tln) (htl2 : tln ≤ 2 ^ 20) (hcp2 : cp < 2147483648) {n q : Nat} (h0 : M.1 F 0 = J n) (h7 : M.1 F 7 = J q) (hn : n < cp) (hq : q < tln) {w : Int64} {par cd : Int32} (Q : Int32 × rhM → Prop)
    (hQ : wp (f_X0_lead Γ (rhsi (rhsl (rhsi M F 0 (J ((n + 1 : Nat) : Int))) (F + 1) n w) (F + 5) q (J ((n + 1 : Nat) : Int))) F (J n) par cd) (fun M' => Q (J n, M'))) : wp (f_X0_add Γ M F w par cd) Q := by
  obtain ⟨s0, ⟨s1, n1⟩, -, -, -, ⟨s5, n5⟩, r1, r2, r3, r4, r5⟩ := hS
  rw [f_X0_add]
  simp (disch := omega) only [wp_some, wp_ck_T, wp_ck_t, wp_bind, wp_ite_t, wp_ite_f, J_lit, J_neg, J_add, J_sub, J_mul, J_lt, J_le, J_eq, J_toInt, J_clamp, J_suc, si_1, si_2, sl_1, sl_2, sl_3, Int.toNat_natCast, Int.reduceToNat, Nat.add_sub_cancel, Int.toNat_add, Int.toNat_mul, Int.toNat_sub'', true_and, and_true, and_self, if_true, if_false, not_true, not_false_eq_true, if_neg, s0, s1, n1, s5, n5, r1, r5, h0, h7, show Int32.ofNat cp = J cp from Int32.ofInt_eq_ofNat.symm, show Int32.ofNat tln = J tln from Int32.ofInt_eq_ofNat.symm]
  exact hQ
theorem c_add (hS : FSh Γ M F cp tln) (hW : FW M F tb A tab) (htl : 2 ^ tb ≤ tln) (htl2 : tln ≤ 2 ^ 20) (hcp2 : cp < 2147483648) {L : Ar} (hSR : SR M F tb tab (jl (wn L))) (hA : A.length < cp) (hA2 : A.length + 1 < 2 ^ tb) {par : Int} {cd : Nat} {dv : Int} (hp : (par = -1 ∧ dv = 0) ∨ (∃ q : Nat, par = q ∧ q < cp ∧ q ≠ A.length ∧ M.1 (F + 4) q = J (dv - 1))) :
    wp (f_X0_add Γ M F (jl (wn L)) (J par) (J cd)) (fun r => r.1 = J A.length ∧ Fr [F, F + 1, F + 2, F + 3, F + 4, F + 5] M r.2 ∧ (∃ tab', FW r.2 F tb (A ++ [L]) tab') ∧
      (∀ j, r.2.1 (F + 2) j = if j = A.length then J par else M.1 (F + 2) j) ∧ (∀ j, r.2.1 (F + 3) j = if j = A.length then J cd else M.1 (F + 3) j) ∧ (∀ j, r.2.1 (F + 4) j = if j = A.length then J dv else M.1 (F + 4) j)) := by
  have hS0 := hS
  obtain ⟨s0, ⟨s1, n1⟩, -, -, -, ⟨s5, n5⟩, r1, r2, r3, r4, r5⟩ := hS
  obtain ⟨k, k1, k2, k3, k4⟩ := hSR
  have hm : (hs tb (jl (wn L)) + k) % 2 ^ tb < 2 ^ tb := Nat.mod_lt _ (by omega)
  have hadd := hW.2.2.2.2.add (by rw [wds_len]; exact hA2) k1 k3 k4
  generalize (hs tb (jl (wn L)) + k) % 2 ^ tb = q at *
  have h0 := hW.1
  refine c_add_run hS0 htl2 hcp2 h0 k2 hA (by omega) _ ?_
  have fin : ∀ M1 : rhM, M1 = rhsi (rhsl (rhsi M F 0 (J ((A.length + 1 : Nat) : Int))) (F + 1) A.length (jl (wn L))) (F + 5) q (J ((A.length + 1 : Nat) : Int)) →
      Fr [F, F + 1, F + 5] M M1 ∧ FW M1 F tb (A ++ [L]) (fun j => if j = q then (wds A).length + 1 else tab j) := by
    intro M1 hM1
    have hF1 : Fr [F, F + 1, F + 5] M M1 := by rw [hM1]; exact (((Fr.refl _ _).si (by simp) _ _).sl (by simp) _ _).si (by simp) _ _
    refine ⟨hF1, ?_, ?_, fun i w hw => ?_, fun j hj => ?_, ?_⟩
    · rw [hM1, si_1, if_neg (by omega), sl_1, si_1, if_pos ⟨rfl, rfl⟩, List.length_append]; rfl
    · rw [hM1, si_1, if_neg (by omega), sl_1, si_1, if_neg (by omega)]; exact hW.2.1
    · have e : wds (A ++ [L]) = wds A ++ [jl (wn L)] := by simp [wds]
      rw [e] at hw
      rw [hM1, si_2, sl_2]
      by_cases hi : i < (wds A).length
      · rw [List.getElem?_append_left hi] at hw
        rw [wds_len] at hi
        rw [if_neg (by omega)]; exact hW.2.2.1 i w hw
      · have hil := (List.getElem?_eq_some_iff.mp hw).1
        rw [List.length_append, List.length_singleton] at hil
        have hi2 : i = (wds A).length := by omega
        subst hi2
        rw [List.getElem?_append_right (Nat.le_refl _), Nat.sub_self] at hw
        cases hw
        rw [if_pos ⟨rfl, wds_len A⟩]
    · rw [hM1, si_1]
      dsimp only
      by_cases e : j = q
      · rw [if_pos ⟨rfl, e⟩, if_pos e, wds_len]
      · rw [if_neg (by omega), if_neg e, sl_1, si_1, if_neg (by omega)]; exact hW.2.2.2.1 j hj
    · have e : wds (A ++ [L]) = wds A ++ [jl (wn L)] := by simp [wds]
      rw [e]; exact hadd
  have hf := fin _ rfl
  generalize rhsi (rhsl (rhsi M F 0 (J ((A.length + 1 : Nat) : Int))) (F + 1) A.length (jl (wn L))) (F + 5) q (J ((A.length + 1 : Nat) : Int)) = M1 at *
  refine (c_lead (hS0.fr hf.1.1) hcp2 hA (cd := cd) (dv := dv) (par := par) ?_).mono (fun M2 h2 => ⟨rfl, (hf.1.sub (by simp)).trans (h2.1.sub (by simp)), ⟨fun j => if j = q then (wds A).length + 1 else tab j, ?_⟩, fun j => ?_, fun j => ?_, fun j => ?_⟩)
  · rcases hp with h | ⟨q, a, b, c, d⟩
    · exact Or.inl h
    · exact Or.inr ⟨q, a, b, c, by rw [hf.1.i (by simp)]; exact d⟩
  · obtain ⟨a1, a2, a3, a4, a5⟩ := hf.2
    refine ⟨?_, ?_, ?_, ?_, a5⟩
    · rw [h2.1.i (by simp)]; exact a1
    · rw [h2.1.i (by simp)]; exact a2
    · rw [h2.1.l (by simp)]; exact a3
    · rw [h2.1.i (by simp)]; exact a4
  · rw [h2.2.1, hf.1.i (by simp)]
  · rw [h2.2.2.1, hf.1.i (by simp)]
  · rw [h2.2.2.2, hf.1.i (by simp)]
end
