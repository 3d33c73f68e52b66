/-! PERMITS, AND ALL LAWFUL PULLS IN THEIR ORDER -/
theorem J_c31 : ∀ k, k < 32 → (J (k : Nat) &&& 31) = J (k : Nat) ∧ (J (k : Nat)).toBitVec.smod 32 = BitVec.ofNat 32 k := by decide +kernel
theorem J_bv (n : Nat) : (J n).toBitVec = BitVec.ofNat 32 n := by
  show (Int32.ofInt n).toBitVec = _
  rw [Int32.ofInt_eq_ofNat]; rfl
theorem J_shl (a : Nat) {k : Nat} (hk : k < 32) : J a <<< (J k &&& 31) = J ((a * 2 ^ k : Nat) : Int) := by
  rw [(J_c31 k hk).1]
  apply Int32.toBitVec_inj.mp
  rw [Int32.toBitVec_shiftLeft, (J_c31 k hk).2, J_bv, J_bv]
  apply BitVec.eq_of_toNat_eq
  rw [BitVec.shiftLeft_eq', BitVec.toNat_shiftLeft, BitVec.toNat_ofNat, BitVec.toNat_ofNat, BitVec.toNat_ofNat, Nat.mod_eq_of_lt (show k < 2 ^ 32 by omega), Nat.shiftLeft_eq, Nat.mul_mod, Nat.mod_mod, ← Nat.mul_mod]
def plc (R H f to S S' : Nat) : Nat := ((f * R + to) * 2 ^ H + S) * 2 ^ H + S'
theorem or_add {a b k : Nat} (h : b < 2 ^ k) : a * 2 ^ k ||| b = a * 2 ^ k + b := by rw [Nat.mul_comm, Nat.two_pow_add_eq_or_of_lt h]
theorem plc_ok {R H f to S S' : Nat} (hH : H < 32) (hS : S < 2 ^ H) (hS' : S' < 2 ^ H) : ((((J f * J R + J to) <<< (J H &&& 31)) ||| J S) <<< (J H &&& 31)) ||| J S' = J (plc R H f to S S') := by
  rw [J_mul, J_add, show ((f : Int) * R + to) = ((f * R + to : Nat) : Int) by simp, J_shl _ hH, J_or, or_add hS, J_shl _ hH, J_or, or_add hS', plc]
theorem dm {a b c : Nat} (h : c < b) : (a * b + c) / b = a ∧ (a * b + c) % b = c := by
  constructor
  · rw [Nat.add_comm, Nat.add_mul_div_right _ _ (by omega), Nat.div_eq_of_lt h, Nat.zero_add]
  · rw [Nat.add_comm, Nat.add_mul_mod_self_right, Nat.mod_eq_of_lt h]
theorem plc_lt {R H f to S S' : Nat} (hf : f < R) (hto : to < R) (hS : S < 2 ^ H) (hS' : S' < 2 ^ H) : plc R H f to S S' < R * R * 2 ^ H * 2 ^ H := by
  have h1 : f * R + to < R * R := by
    have := Nat.mul_le_mul_right R (show f + 1 ≤ R by omega)
    rw [Nat.add_mul] at this; omega
  have h2 : (f * R + to) * 2 ^ H + S < R * R * 2 ^ H := by
    have := Nat.mul_le_mul_right (2 ^ H) (show f * R + to + 1 ≤ R * R by omega)
    rw [Nat.add_mul] at this; omega
  have := Nat.mul_le_mul_right (2 ^ H) (show (f * R + to) * 2 ^ H + S + 1 ≤ R * R * 2 ^ H by omega)
  rw [Nat.add_mul] at this; unfold plc; omega
def alwP (T : Tn) (pl : Nat) : Prop := alw T (pl / 2 ^ tH T / 2 ^ tH T / tR T) (cl (tH T) (pl / 2 ^ tH T % 2 ^ tH T)) (pl / 2 ^ tH T / 2 ^ tH T % tR T) (cl (tH T) (pl % 2 ^ tH T))
theorem alwP_plc {T : Tn} {f to S S' : Nat} (hto : to < tR T) (hS : S < 2 ^ tH T) (hS' : S' < 2 ^ tH T) : alwP T (plc (tR T) (tH T) f to S S') = alw T f (cl (tH T) S) to (cl (tH T) S') := by
  unfold alwP plc
  rw [(dm hS').1, (dm hS').2, (dm hS).1, (dm hS).2, (dm hto).1, (dm hto).2]
theorem J_ush2 {k j : Nat} (hk : k < 4294967296) (hj : j < 32) : rhus (J k) (J j) = J ((k / 2 ^ j : Nat) : Int) := by
  have hs : ((J j).toUInt32 &&& Int32.toUInt32 31).toBitVec.toNat % 32 = j := by
    have : ∀ j : Fin 32, ((J (j.val : Int)).toUInt32 &&& Int32.toUInt32 31).toBitVec.toNat % 32 = j.val := by decide +kernel
    exact this ⟨j, hj⟩
  have e1 : (J k).toUInt32.toNat = k := by
    show (BitVec.ofInt 32 k).toNat = k
    rw [BitVec.toNat_ofInt]; omega
  have hd := Nat.div_le_self k (2 ^ j)
  have e2 : (((J j).toUInt32 &&& Int32.toUInt32 31).toBitVec % 32).toNat = j := by
    rw [BitVec.toNat_umod]; exact hs
  have e3 : (((J k).toUInt32.toBitVec) >>> (((J j).toUInt32 &&& Int32.toUInt32 31).toBitVec % 32)).toNat = k / 2 ^ j := by
    rw [BitVec.ushiftRight_eq', BitVec.toNat_ushiftRight, e2, Nat.shiftRight_eq_div_pow]
    exact congrArg (· / 2 ^ j) e1
  generalize k / 2 ^ j = q at *
  apply Int32.toBitVec_inj.mp
  rw [J_bv, rhus]
  show ((J k).toUInt32.toBitVec) >>> (((J j).toUInt32 &&& Int32.toUInt32 31).toBitVec % 32) = _
  apply BitVec.eq_of_toNat_eq
  rw [e3, BitVec.toNat_ofNat, Nat.mod_eq_of_lt (by omega)]
theorem J_sar4 {k : Nat} (hk : k < 2147483648) : J (k : Nat) >>> (J 4 &&& J 31) = J ((k / 16 : Nat) : Int) := by
  have e4 : (J 4 &&& J 31) = J 4 := by decide
  rw [e4]
  apply Int32.toInt_inj.mp
  have hq := Nat.div_le_self k 16
  rw [J_toInt (by omega) (by omega)]
  show ((J (k : Nat)) >>> (J 4)).toBitVec.toInt = _
  rw [Int32.toBitVec_shiftRight]
  have e5 : (J 4).toBitVec.smod 32 = 4#32 := by decide
  rw [e5]
  show (BitVec.sshiftRight (J (k : Nat)).toBitVec 4).toInt = _
  rw [BitVec.toInt_sshiftRight]
  have e6 : (J (k : Nat)).toBitVec.toInt = (k : Int) := J_toInt (by omega) (by omega)
  rw [e6, Int.shiftRight_eq_div_pow]
  omega
/-- a permit, two bits of a number -/
def sl (n j : Nat) : Nat := n / 2 ^ (2 * j) % 2 ^ 2
theorem sl_or {n v : Nat} (hv : v < 2 ^ 2) (i j : Nat) : sl (n ||| v * 2 ^ (2 * j)) i = if i = j then sl n i ||| v else sl n i := by
  apply Nat.eq_of_testBit_eq
  intro k
  unfold sl
  rw [Nat.testBit_mod_two_pow, Nat.testBit_div_two_pow, Nat.testBit_or, Nat.testBit_mul_two_pow]
  by_cases e : i = j
  · subst e
    rw [if_pos rfl, Nat.testBit_or, Nat.testBit_mod_two_pow, Nat.testBit_div_two_pow, show k + 2 * i - 2 * i = k by omega]
    have e1 : decide (2 * i ≤ k + 2 * i) = true := by simp
    rw [e1, Bool.true_and]
    by_cases c : k < 2
    · have e2 : decide (k < 2) = true := by simpa using c
      rw [e2, Bool.true_and, Bool.true_and]
    · have e2 : decide (k < 2) = false := by simpa using c
      rw [e2, Bool.false_and, Bool.false_and, Bool.false_or, Nat.testBit_lt_two_pow (Nat.lt_of_lt_of_le hv (pow_le (by omega)))]
  · rw [if_neg e, Nat.testBit_mod_two_pow, Nat.testBit_div_two_pow]
    by_cases c : k < 2
    · by_cases c2 : 2 * j ≤ k + 2 * i
      · rw [Nat.testBit_lt_two_pow (x := v) (i := k + 2 * i - 2 * j) (Nat.lt_of_lt_of_le hv (pow_le (by omega))), Bool.and_false, Bool.or_false]
      · have e2 : decide (2 * j ≤ k + 2 * i) = false := by simpa using c2
        rw [e2, Bool.false_and, Bool.or_false]
    · have e2 : decide (k < 2) = false := by simpa using c
      rw [e2, Bool.false_and, Bool.false_and]
theorem sl_zero (j : Nat) : sl 0 j = 0 := by unfold sl; simp
/-- what is known of a place: nothing, or the truth -/
def PVv (T : Tn) (v pl : Nat) : Prop := v = 0 ∨ (v = 1 ∧ alwP T pl) ∨ (v = 2 ∧ ¬ alwP T pl)
def PA (Γ : rhG) (M : rhM) (p kn Ln t : Nat) (T : Tn) : Prop := Γ.2.2.1 p = 3 ∧ Γ.2.2.1 kn = 15 ∧ Γ.2.2.2 kn = Ln ∧ Ln < 900000000 ∧ M.2.2 p 0 = kn ∧ M.2.2 p 1 = t ∧
  ∀ at_, at_ < Ln → 16 * at_ < tR T * tR T * 2 ^ tH T * 2 ^ tH T → ∃ n : Nat, n < 4294967296 ∧ M.1 kn at_ = J n ∧ ∀ j, j < 16 → 16 * at_ + j < tR T * tR T * 2 ^ tH T * 2 ^ tH T → PVv T (sl n j) (16 * at_ + j)
theorem PA.fr {Γ : rhG} {M M' : rhM} {p kn Ln t : Nat} {T : Tn} {W : List Nat} (h : PA Γ M p kn Ln t T) (hF : Fr W M M') (hk : kn ∉ W) : PA Γ M' p kn Ln t T := by
  unfold PA; rw [hF.1, hF.i hk]; exact h
section
variable {Γ : rhG} {M : rhM} {T : Tn} {L : Ar} {t p kn Ln : Nat}
theorem c_permit (hs : TSh Γ M t) (hT : TC M t T) (hw : TWf T) (hP : PA Γ M p kn Ln t T) (d1 : t + 10 < kn) {f S to S' : Nat} (hf : f < tR T) (hto : to < tR T) (hS : S < 2 ^ tH T) (hS' : S' < 2 ^ tH T) :
    wp (f_X2_allows Γ M p (J f) (J S) (J to) (J S')) (fun r => r.1 = bi (alw T f (cl (tH T) S) to (cl (tH T) S')) ∧ Fr [t + 9, t + 10, kn] M r.2 ∧ PA Γ r.2 p kn Ln t T) := by
  have hA := c_allows hs hT hw (f := f) (to := to) hS hS' hto
  have hP0 := hP
  obtain ⟨k0, kk, kl, hLn, p0, p1, hI⟩ := hP
  have ht := hs.1
  have hR := hT.1
  have hH := hT.2.1
  have w1 := hw.1
  have w2 := hw.2.1
  have hpl := plc_lt hf hto hS hS'
  have hb : tR T * tR T * 2 ^ tH T * 2 ^ tH T ≤ 25 * 2 ^ 8 * 2 ^ 8 := Nat.mul_le_mul (Nat.mul_le_mul (Nat.mul_le_mul w1 w1) (pow_le w2)) (pow_le w2)
  have hx := plc_ok (R := tR T) (f := f) (to := to) (show tH T < 32 by omega) hS hS'
  have hdec := alwP_plc (f := f) hto hS hS'
  generalize hpp : plc (tR T) (tH T) f to S S' = pl at *
  generalize htt : tR T * tR T * 2 ^ tH T * 2 ^ tH T = tot at *
  have hb : tot ≤ 1638400 := hb
  have e16 := J_sar4 (k := pl) (by omega)
  have e15 : J (pl : Nat) &&& 15 = J ((pl % 16 : Nat) : Int) := by
    rw [show (15 : Int32) = J ((15 : Nat) : Int) from rfl, J_and, show (15 : Nat) = 2 ^ 4 - 1 by decide, Nat.and_two_pow_sub_one_eq_mod]
  have hd16 := Nat.div_add_mod pl 16
  have hm16 := Nat.mod_lt pl (show 0 < 16 by decide)
  rw [f_X2_allows]
  simp only [p0, p1, hR, hH, hx, kl]
  rw [wp_ck_t k0, wp_ck_t ht]
  rw [show (4 : Int32) = J 4 from rfl, show (31 : Int32) = J 31 from rfl, e16, e15]
  generalize hat : pl / 16 = at_ at *
  generalize hjj : pl % 16 = j at *
  have e54 : wp (f_X2_allows_54 Γ M p (J f) (J S) (J to) (J S')) (fun r => r.1 = bi (alw T f (cl (tH T) S) to (cl (tH T) S')) ∧ Fr [t + 9, t + 10, kn] M r.2 ∧ PA Γ r.2 p kn Ln t T) := by
    rw [f_X2_allows_54, wp_ck_t k0, p1, wp_ck_t ht, wp_bind]
    refine hA.mono (fun r hr => ?_)
    have h01 : r.1 = 0 ∨ r.1 = 1 := by
      rw [hr.1]
      by_cases c : alw T f (cl (tH T) S) to (cl (tH T) S')
      · exact Or.inr (bi_t c)
      · exact Or.inl (bi_f c)
    rw [wp_ck_t h01, wp_some]
    exact ⟨hr.1, hr.2.sub (by simp), hP0.fr hr.2 (by simp; omega)⟩
  rw [wp_ite_f (by rw [show (0 : Int32) = J 0 from rfl, J_lt (by omega) (by omega) (by omega) (by omega)]; omega), wp_ck_t kk]
  by_cases hin : at_ < Ln
  · rw [wp_ite_t (by rw [show Int32.ofNat Ln = J Ln from Int32.ofInt_eq_ofNat.symm, J_lt (by omega) (by omega) (by omega) (by omega)]; omega)]
    obtain ⟨n, hn32, hn, hsl⟩ := hI at_ hin (by omega)
    have hv := hsl j hm16 (by omega)
    have e2j : (2 : Int32) * J (j : Nat) = J ((2 * j : Nat) : Int) := by rw [show (2 : Int32) = J 2 from rfl, J_mul]; congr 1
    have e3 : J ((n / 2 ^ (2 * j) : Nat) : Int) &&& 3 = J ((sl n j : Nat) : Int) := by
      rw [show (3 : Int32) = J ((3 : Nat) : Int) from rfl, J_and, show (3 : Nat) = 2 ^ 2 - 1 by decide, Nat.and_two_pow_sub_one_eq_mod]; rfl
    rw [J_toInt (by omega) (by omega), J_clamp (by omega) (by omega), Int.toNat_natCast, wp_ck_t (by omega), hn, e2j, J_ush2 hn32 (by omega), e3]
    have hsl4 : sl n j < 4 := Nat.mod_lt _ (by decide)
    have hpt : 16 * at_ + j = pl := by omega
    rw [hpt] at hv
    have e132 : ∀ (M1 : rhM) (v : Nat) (b : Prop), v < 4 → ((v = 1 ∧ b) ∨ (v = 2 ∧ ¬ b)) → wp (f_X2_allows_132 Γ M1 (J v)) (fun r => r.1 = bi b ∧ r.2 = M1) := by
      intro M1 v b hv4 h
      rw [f_X2_allows_132]
      rcases h with ⟨rfl, h2⟩ | ⟨rfl, h2⟩
      · rw [wp_ite_t (show J ((1 : Nat) : Int) = 1 from rfl), wp_some]; exact ⟨(bi_t h2).symm, rfl⟩
      · rw [wp_ite_f (by decide), wp_some]; exact ⟨(bi_f h2).symm, rfl⟩
    by_cases hz : sl n j = 0
    · rw [hz, wp_ite_t (by rfl), wp_bind]
      refine hA.mono (fun r hr => ?_)
      have hP2 : PA Γ r.2 p kn Ln t T := hP0.fr hr.2 (by simp; omega)
      have hn2 : r.2.1 kn at_ = J n := by rw [hr.2.i (by simp; omega)]; exact hn
      have fin : ∀ v : Nat, v < 4 → ((v = 1 ∧ alw T f (cl (tH T) S) to (cl (tH T) S')) ∨ (v = 2 ∧ ¬ alw T f (cl (tH T) S) to (cl (tH T) S'))) →
          wp (f_X2_allows_115 (f_X2_allows_132 Γ) Γ r.2 p (J at_) (J ((2 * j : Nat) : Int)) (J v)) (fun r => r.1 = bi (alw T f (cl (tH T) S) to (cl (tH T) S')) ∧ Fr [t + 9, t + 10, kn] M r.2 ∧ PA Γ r.2 p kn Ln t T) := by
        intro v hv4 hz2
        have esh := J_shl v (k := 2 * j) (by omega)
        have hlt : n ||| v * 2 ^ (2 * j) < 4294967296 := by
          have h1 : v * 2 ^ (2 * j) < 2 ^ 32 := by
            have h2 : 2 ^ (2 * j) ≤ 2 ^ 30 := pow_le (by omega)
            have h3 : v * 2 ^ (2 * j) ≤ 3 * 2 ^ 30 := Nat.mul_le_mul (by omega) h2
            omega
          exact Nat.or_lt_two_pow (n := 32) hn32 h1
        rw [f_X2_allows_115, wp_ck_t k0, hP2.2.2.2.2.1, wp_ck_t kk, kl, J_toInt (by omega) (by omega), J_clamp (by omega) (by omega), Int.toNat_natCast, wp_ck_t (by omega)]
        dsimp only
        rw [hn2, esh, J_or]
        have hF : Fr [kn] r.2 (rhsi r.2 kn at_ (J ((n ||| v * 2 ^ (2 * j) : Nat) : Int))) := (Fr.refl _ _).si (by simp) _ _
        refine (e132 (rhsi r.2 kn at_ (J ((n ||| v * 2 ^ (2 * j) : Nat) : Int))) v _ hv4 hz2).mono (fun r' hr' => ⟨hr'.1, ?_, ?_⟩)
        · rw [hr'.2]; exact (hr.2.sub (by simp)).trans (hF.sub (by simp))
        · rw [hr'.2]
          obtain ⟨a1, a2, a3, a4, a5, a6, a7⟩ := hP2
          refine ⟨a1, a2, a3, a4, a5, a6, fun q hq hq2 => ?_⟩
          by_cases e : q = at_
          · subst e
            refine ⟨_, hlt, by rw [si_1, if_pos ⟨rfl, rfl⟩], fun i hi hi2 => ?_⟩
            rw [htt] at hi2
            rw [sl_or hv4]
            by_cases c : i = j
            · subst c
              rw [if_pos rfl, hz, Nat.zero_or, hpt]
              right
              rw [hdec]; exact hz2
            · rw [if_neg c]; exact hsl i hi hi2
          · obtain ⟨n', x1, x2, x3⟩ := a7 q hq hq2
            exact ⟨n', x1, by rw [si_1, if_neg (by omega)]; exact x2, x3⟩
      by_cases c : alw T f (cl (tH T) S) to (cl (tH T) S')
      · rw [wp_ite_f (by rw [hr.1, bi_t c]; decide)]
        exact fin 1 (by omega) (Or.inl ⟨rfl, c⟩)
      · rw [wp_ite_t (by rw [hr.1, bi_f c])]
        exact fin 2 (by omega) (Or.inr ⟨rfl, c⟩)
    · rw [wp_ite_f (by rw [show (0 : Int32) = J 0 from rfl, J_eq (by omega) (by omega) (by omega) (by omega)]; omega)]
      have hv2 := hv.resolve_left hz
      rw [hdec] at hv2
      refine (e132 M _ _ hsl4 hv2).mono (fun r hr => ⟨hr.1, ?_, ?_⟩)
      · rw [hr.2]; exact Fr.refl _ _
      · rw [hr.2]; exact hP0
  · rw [wp_ite_f (by rw [show Int32.ofNat Ln = J Ln from Int32.ofInt_eq_ofNat.symm, J_lt (by omega) (by omega) (by omega) (by omega)]; omega)]
    exact e54
end
noncomputable def okb (T : Tn) (L : Ar) (f m t : Nat) : Bool := @decide (okP T L f m t) (Classical.propDecidable _)
theorem okb_iff {T : Tn} {L : Ar} {f m t : Nat} : okb T L f m t = true ↔ okP T L f m t := @decide_eq_true_iff _ (Classical.propDecidable _)
theorem okb_f {T : Tn} {L : Ar} {f m t : Nat} (h : ¬ okP T L f m t) : okb T L f m t = false := by
  cases e : okb T L f m t with
  | false => rfl
  | true => exact absurd (okb_iff.mp e) h
abbrev Tr : Type := Nat × Nat × Nat
noncomputable def pulT (T : Tn) (L : Ar) (f m k d : Nat) : List Tr := ((List.range' k d).filter (okb T L f m)).map fun t => (f, m, t)
noncomputable def pulM (T : Tn) (L : Ar) (f m d : Nat) : List Tr := (List.range' m d).flatMap fun m => pulT T L f m 0 (tR T)
noncomputable def pulF (T : Tn) (L : Ar) (f d : Nat) : List Tr := (List.range' f d).flatMap fun f => pulM T L f 1 (rl L f).length
/-- all lawful pulls, in their order -/
noncomputable def pulls (T : Tn) (L : Ar) : List Tr := pulF T L 0 (tR T)
theorem pulT_s (T : Tn) (L : Ar) (f m k d : Nat) : pulT T L f m k (d + 1) = (if okb T L f m k = true then [(f, m, k)] else []) ++ pulT T L f m (k + 1) d := by
  unfold pulT
  rw [List.range'_succ, List.filter_cons]
  split <;> simp
theorem pulM_s (T : Tn) (L : Ar) (f m d : Nat) : pulM T L f m (d + 1) = pulT T L f m 0 (tR T) ++ pulM T L f (m + 1) d := by unfold pulM; rw [List.range'_succ, List.flatMap_cons]
theorem pulF_s (T : Tn) (L : Ar) (f d : Nat) : pulF T L f (d + 1) = pulM T L f 1 (rl L f).length ++ pulF T L (f + 1) d := by unfold pulF; rw [List.range'_succ, List.flatMap_cons]
def cdT (a : Tr) : Nat := 100 * a.1 + 10 * a.2.1 + a.2.2
/-- the houses on the rails up to one; those that a pull goes past -/
def up (L : Ar) (r : Nat) : List Nat := fl [] (L.take (r + 1))
def paN (L : Ar) (f m t : Nat) : Nat := (ss (up L f) ^^^ ss (up L t)) &&& (ss (sg L f m) ^^^ 4294967295)
theorem J_xor (a b : Nat) : J a ^^^ J b = J ((a ^^^ b : Nat) : Int) := by
  show Int32.ofInt _ ^^^ Int32.ofInt _ = Int32.ofInt _
  rw [Int32.ofInt_eq_ofNat, Int32.ofInt_eq_ofNat, Int32.ofInt_eq_ofNat]
  apply Int32.toBitVec_inj.mp
  apply BitVec.eq_of_getLsbD_eq
  intro i hi
  simp [BitVec.getLsbD_ofNat, hi]
theorem J_m1 : J (-1) = J ((4294967295 : Nat) : Int) := by decide
theorem J_not (a : Nat) : J a ^^^ J (-1) = J ((a ^^^ 4294967295 : Nat) : Int) := by rw [J_m1, J_xor]
def LPu (M : rhM) (s : Nat) (L : Ar) (acc : List Tr) : Prop := M.1 s 6 = J acc.length ∧ ∀ i a, acc[i]? = some a → M.1 (s + 5) i = J (cdT a) ∧ M.1 (s + 6) i = J (ss (sg L a.1 a.2.1)) ∧ M.1 (xb s) i = J (paN L a.1 a.2.1 a.2.2) ∧ M.1 (xb s + 1) i = J ((a.2.2 : Int) - a.1)
def UN (M : rhM) (s R : Nat) (L : Ar) : Prop := ∀ r, r < R → M.1 (s + 4) r = J (ss (up L r))
theorem xb_gt (s : Nat) : s + 6 < xb s := by unfold xb; repeat' (first | omega | split)
def IV (Γ : rhG) (M : rhM) (s t p kn Ln : Nat) (T : Tn) (L : Ar) : Prop := SS Γ M s ∧ SA M s (tR T) L ∧ TSh Γ M t ∧ TC M t T ∧ PA Γ M p kn Ln t T
def dis (s t p kn : Nat) : Prop := t + 10 < s ∧ t + 10 < kn ∧ t + 10 < p ∧ (kn < s ∨ s + 6 < kn) ∧ (p < s ∨ s + 6 < p) ∧ (kn < xb s ∨ xb s + 2 < kn)
section
variable {Γ : rhG} {T : Tn} {L : Ar} {s t p kn Ln : Nat}
theorem LPu_push {M M1 : rhM} {acc : List Tr} {f m k : Nat} (hL : LPu M s L acc) (hM1 : M1 = rhsi (rhsi (rhsi (rhsi (rhsi M (s + 5) acc.length (J (100 * f + 10 * m + k))) (s + 6) acc.length (J (ss (sg L f m)))) (xb s) acc.length (J (paN L f m k))) (xb s + 1) acc.length (J ((k : Int) - f))) s 6 (J ((acc.length + 1 : Nat) : Int))) :
    Fr [s, s + 5, s + 6, xb s, xb s + 1] M M1 ∧ (∀ j, j ≠ 6 → M1.1 s j = M.1 s j) ∧ M1.2.1 s = M.2.1 s ∧ LPu M1 s L (acc ++ [(f, m, k)]) := by
  have hx := xb_gt s
  unfold LPu at *
  generalize xb s = x at *
  refine ⟨?_, fun j hj => ?_, ?_, ?_, fun i a ha => ?_⟩
  · rw [hM1]; exact (((((Fr.refl _ _).si (by simp) _ _).si (by simp) _ _).si (by simp) _ _).si (by simp) _ _).si (by simp) _ _
  · rw [hM1, si_1, si_1, si_1, si_1, si_1, if_neg (by omega), if_neg (by omega), if_neg (by omega), if_neg (by omega), if_neg (by omega)]
  · rw [hM1]; rfl
  · rw [hM1, si_1, if_pos ⟨rfl, rfl⟩, List.length_append]; rfl
  · by_cases hi : i < acc.length
    · rw [List.getElem?_append_left hi] at ha
      have := hL.2 i a ha
      rw [hM1]
      simp only [si_1]
      simp (disch := omega) only [if_neg]
      exact this
    · have hlen : i < (acc ++ [(f, m, k)]).length := by
        rw [List.getElem?_eq_some_iff] at ha; exact ha.1
      rw [List.length_append, List.length_singleton] at hlen
      have hi2 : i = acc.length := by omega
      subst hi2
      rw [List.getElem?_append_right (Nat.le_refl _), Nat.sub_self] at ha
      cases ha
      rw [hM1]
      simp only [si_1]
      simp (disch := omega) only [if_neg, if_pos, cdT]
      refine ⟨by simp, by simp, by simp, by simp⟩
theorem SA.ex {M M1 : rhM} {R : Nat} (hA : SA M s R L) (h1 : M1.1 s 1 = M.1 s 1) (h2 : M1.2.1 s = M.2.1 s) (h3 : M1.1 (s + 1) = M.1 (s + 1)) (h4 : M1.1 (s + 2) = M.1 (s + 2)) (h5 : M1.1 (s + 3) = M.1 (s + 3)) : SA M1 s R L := by
  unfold SA; rw [h1, h2, h3, h4, h5]; exact hA
theorem LPu.fr {M M' : rhM} {W : List Nat} {acc : List Tr} (hL : LPu M s L acc) (hF : Fr W M M') (h0 : s ∉ W) (h5 : s + 5 ∉ W) (h6 : s + 6 ∉ W) (h7 : xb s ∉ W) (h8 : xb s + 1 ∉ W) : LPu M' s L acc := by
  unfold LPu; rw [hF.i h0, hF.i h5, hF.i h6, hF.i h7, hF.i h8]; exact hL
theorem UN.fr {M M' : rhM} {R : Nat} {W : List Nat} (h : UN M s R L) (hF : Fr W M M') (h4 : s + 4 ∉ W) : UN M' s R L := by
  unfold UN; rw [hF.i h4]; exact h
def WQ (s t kn : Nat) : List Nat := [s, s + 5, s + 6, xb s, xb s + 1, kn, t + 9, t + 10]
theorem dis_1 (hd : dis s t p kn) : kn ∉ [s, s + 5, s + 6, xb s, xb s + 1] ∧ (∀ r, r ∈ [t, t + 1, t + 2, t + 3, t + 4, t + 6, t + 7, t + 8] → r ∉ [s, s + 5, s + 6, xb s, xb s + 1] ∧ r ∉ [t + 9, t + 10, kn] ∧ r ∉ WQ s t kn) ∧
    s ∉ [t + 9, t + 10, kn] ∧ s + 1 ∉ [t + 9, t + 10, kn] ∧ s + 2 ∉ [t + 9, t + 10, kn] ∧ s + 3 ∉ [t + 9, t + 10, kn] ∧ s + 4 ∉ [t + 9, t + 10, kn] ∧ s + 5 ∉ [t + 9, t + 10, kn] ∧ s + 6 ∉ [t + 9, t + 10, kn] ∧ xb s ∉ [t + 9, t + 10, kn] ∧ xb s + 1 ∉ [t + 9, t + 10, kn] := by
  have hx := xb_gt s
  unfold dis at hd
  unfold WQ
  generalize xb s = x at *
  refine ⟨by simp; omega, fun r hr => ?_, by simp; omega, by simp; omega, by simp; omega, by simp; omega, by simp; omega, by simp; omega, by simp; omega, by simp; omega, by simp; omega⟩
  simp only [List.mem_cons, List.not_mem_nil, or_false] at hr ⊢
  omega
theorem WQ_sub1 (s t kn : Nat) : ∀ r, r ∈ [s, s + 5, s + 6, xb s, xb s + 1] → r ∈ WQ s t kn := by
  intro r hr; unfold WQ; simp only [List.mem_cons, List.not_mem_nil, or_false] at hr ⊢; omega
theorem WQ_sub2 (s t kn : Nat) : ∀ r, r ∈ [t + 9, t + 10, kn] → r ∈ WQ s t kn := by
  intro r hr; unfold WQ; simp only [List.mem_cons, List.not_mem_nil, or_false] at hr ⊢; omega
set_option maxHeartbeats 4000000 in
theorem c_list65 (hw : TWf T) (wL : WA (tR T) (tH T) L) (hd : dis s t p kn) {f m : Nat} (hf : f < tR T) (hm1 : 1 ≤ m) (hm : m ≤ (rl L f).length) {pos : Int32} (K : rhM → Nat → Nat → Int32 → Int32 → Int32 → Int32 → Option rhM) (Q : rhM → Prop) :
    ∀ (d n : Nat) (M : rhM) (k : Nat) (acc : List Tr), IV Γ M s t p kn Ln T L → UN M s (tR T) L → LPu M s L acc → k + d = tR T → acc.length + (d - if k ≤ f then 1 else 0) ≤ 32 → d < n →
    (∀ M', Fr (WQ s t kn) M M' → IV Γ M' s t p kn Ln T L → UN M' s (tR T) L → LPu M' s L (acc ++ pulT T L f m k d) → (acc ++ pulT T L f m k d).length ≤ acc.length + (d - if k ≤ f then 1 else 0) → wp (K M' s p (J f) (J (ss (sg L f m))) (J m) pos) Q) →
    wp (f_X7_listPulls_65 K Γ n M s p (J f) (J (ss (sg L f m))) (J m) pos (J k)) Q := by
  have w1 := hw.1
  have w2 := hw.2.1
  have hS : ss (sg L f m) < 2 ^ tH T := ss_lt (fun x hx => wL.lt.mp (rl_sub (List.mem_of_mem_drop hx)))
  have p8 := pow_le w2
  obtain ⟨x1, x2, x3, x4, x5, x6, x7, x8, x9, x10, x11⟩ := dis_1 hd
  have d2 : t + 10 < kn := hd.2.1
  have d1 : t + 10 < s := hd.1
  have hxs := xb_gt s
  intro d
  induction d with
  | zero =>
    intro n M k acc hI hU hL hk hc hn hK
    obtain ⟨n, rfl⟩ : ∃ k, n = k + 1 := ⟨n - 1, by omega⟩
    have hI0 := hI
    obtain ⟨hs, hA, hts, hT, hP⟩ := hI
    rw [f_X7_listPulls_65, wp_ck_t hs.1, hA.2.1, wp_ite_f (by rw [J_lt (by omega) (by omega) (by omega) (by omega)]; omega)]
    have e : acc ++ pulT T L f m k 0 = acc := by simp [pulT]
    have := hK M (Fr.refl _ _) hI0 hU (by rw [e]; exact hL) (by rw [e]; omega)
    exact this
  | succ d ih =>
    intro n M k acc hI hU hL hk hc hn hK
    obtain ⟨n, rfl⟩ : ∃ k, n = k + 1 := ⟨n - 1, by omega⟩
    have hI0 := hI
    obtain ⟨hs, hA, hts, hT, hP⟩ := hI
    have hs0 := hs
    obtain ⟨k0, ⟨k1, n1⟩, ⟨k2, n2⟩, ⟨k3, n3⟩, ⟨k4, n4⟩, ⟨k5, n5⟩, ⟨k6, n6⟩, f2, f3, f4, f5, f7, f8, ⟨k7, n7⟩, ⟨k8, n8⟩, -, f9, f10, -⟩ := hs
    rw [f_X7_listPulls_65]
    by_cases ef : k = f
    · have eo : okb T L f m k = false := okb_f (fun h => h.1.2.2.1 (by rw [ef]))
      rw [pulT_s, eo] at hK
      simp only [Bool.false_eq_true, if_false, List.nil_append] at hK
      rw [if_pos (show k ≤ f by omega)] at hc hK
      rw [wp_ck_t k0, hA.2.1, wp_ite_t (by rw [J_lt (by omega) (by omega) (by omega) (by omega)]; omega), wp_ite_t (by rw [ef]), f_X7_listPulls_184, show (1 : Int32) = J 1 from rfl, J_add, J_suc]
      refine ih n M (k + 1) acc hI0 hU hL (by omega) (by rw [if_neg (by omega)]; omega) (by omega) (fun M' a1 a2 a5 a3 a4 => hK M' a1 a2 a5 a3 ?_)
      rw [if_neg (by omega)] at a4; omega
    · have hk3 := (hA.2.2 k (by omega)).2.2
      have hS' : ss (rl L k) < 2 ^ tH T := ss_lt (fun x hx => wL.lt.mp (rl_sub hx))
      have hacc : acc.length < 32 := by
        by_cases h : k ≤ f
        · rw [if_pos h] at hc; omega
        · rw [if_neg h] at hc; omega
      have hb : d - (if k + 1 ≤ f then 1 else 0) + 1 ≤ d + 1 - (if k ≤ f then 1 else 0) := by
        by_cases h : k ≤ f
        · rw [if_pos h, if_pos (by omega)]; omega
        · rw [if_neg h, if_neg (by omega)]; omega
      have hper := c_permit hts hT hw hP (by omega) (f := f) (to := k) hf (by omega) hS hS'
      have hok : okP T L f m k ↔ alw T f (cl (tH T) (ss (sg L f m))) k (cl (tH T) (ss (rl L k))) := by
        rw [okP_alw, alw_perm T f k (cl_perm (wL.sgnd hf) (fun x hx => wL.lt.mp (rl_sub (List.mem_of_mem_drop hx)))) (cl_perm (wL.nd (by omega)) (fun x hx => wL.lt.mp (rl_sub hx)))]
        exact ⟨fun h => h.2, fun h => ⟨⟨hf, by omega, fun e => ef e.symm, hm1, hm⟩, h⟩⟩
      have hL5 := hL.1
      rw [wp_ck_t k0, hA.2.1, wp_ite_t (by rw [J_lt (by omega) (by omega) (by omega) (by omega)]; omega), wp_ite_f (by rw [J_eq (by omega) (by omega) (by omega) (by omega)]; omega), hL5, wp_ite_t (by rw [show (32 : Int32) = J 32 from rfl, J_lt (by omega) (by omega) (by omega) (by omega)]; omega), f4, wp_ck_t k3, n3, J_toInt (by omega) (by omega), wp_ck_t (by omega), wp_ck_t hP.1, J_clamp (by omega) (by omega), Int.toNat_natCast, hk3, wp_bind]
      refine hper.mono (fun r hr => ?_)
      obtain ⟨hr1, hrF, hrP⟩ := hr
      have hsr : SS Γ r.2 s := hs0.fr hrF.1
      have hAr : SA r.2 s (tR T) L := hA.ex (by rw [hrF.i x3]) (hrF.l x3) (hrF.i x4) (hrF.i x5) (hrF.i x6)
      have hTr : TC r.2 t T := hT.fr hrF (fun r hr => (x2 r hr).2.1)
      have htr : TSh Γ r.2 t := hts.fr hrF.1
      have hLr : LPu r.2 s L acc := hL.fr hrF x3 x8 x9 x10 x11
      have hUr : UN r.2 s (tR T) L := hU.fr hrF x7
      by_cases c : okP T L f m k
      · rw [hr1, bi_t (hok.mp c), wp_ite_f (show ¬ (1 : Int32) = 0 by decide), f_X3_code, wp_bind, wp_some]
        have hg5 : r.2.2.2 s 5 = s + 4 := by rw [hrF.1]; exact f5
        have hg7 : r.2.2.2 s 7 = s + 5 := by rw [hrF.1]; exact f7
        have hg8 : r.2.2.2 s 8 = s + 6 := by rw [hrF.1]; exact f8
        have hg9 : r.2.2.2 s 9 = xb s := by rw [hrF.1]; exact f9
        have hg10 : r.2.2.2 s 10 = xb s + 1 := by rw [hrF.1]; exact f10
        have hu1 := hUr f hf
        have hu2 := hUr k (by omega)
        generalize hxx : xb s = x at *
        simp (maxSteps := 2000000) (disch := omega) only [wp_some, wp_ck_T, wp_ck_t, wp_bind, wp_ite_t, wp_ite_f, J_lit, J_neg, J_add, J_sub, J_mul, J_lt, J_le, J_eq, J_toInt, J_clamp, J_suc, si_1, si_2, sl_1, sl_2, sl_3, Int.toNat_natCast, Int.reduceToNat, Nat.add_sub_cancel, Int.toNat_add, Int.toNat_mul, Int.toNat_sub'', true_and, and_true, and_self, if_true, if_false, not_true, not_false_eq_true, if_pos, if_neg, f_X7_listPulls_184, hg5, hg7, hg8, hg9, hg10, k4, n4, k5, n5, k6, n6, k7, n7, k8, n8, hLr.1, hu1, hu2, J_xor, J_not, J_and]
        have eo : okb T L f m k = true := okb_iff.mpr c
        rw [pulT_s, eo, if_pos rfl, ← List.append_assoc] at hK
        -- the memory behind
        have fin : ∀ M1 : rhM, M1 = rhsi (rhsi (rhsi (rhsi (rhsi r.2 (s + 5) acc.length (J (100 * f + 10 * m + k))) (s + 6) acc.length (J (ss (sg L f m)))) (xb s) acc.length (J (paN L f m k))) (xb s + 1) acc.length (J ((k : Int) - f))) s 6 (J ((acc.length + 1 : Nat) : Int)) →
            wp (f_X7_listPulls_65 K Γ n M1 s p (J f) (J (ss (sg L f m))) (J m) pos (J ((k + 1 : Nat) : Int))) Q := by
          intro M1 hM1
          obtain ⟨hF1, hs1, hs2, hL1⟩ := LPu_push hLr hM1
          have hFW := hF1.sub (WQ_sub1 s t kn)
          rw [hxx] at hF1
          refine ih n M1 (k + 1) (acc ++ [(f, m, k)]) ⟨hsr.fr hF1.1, hAr.ex (hs1 1 (by decide)) hs2 (hF1.i (by first | (simp; done) | (simp; omega))) (hF1.i (by first | (simp; done) | (simp; omega))) (hF1.i (by first | (simp; done) | (simp; omega))), htr.fr hF1.1, hTr.fr hF1 (fun r hr => (x2 r hr).1), hrP.fr hF1 x1⟩ (hUr.fr hF1 (by first | (simp; done) | (simp; omega))) hL1 (by omega) ?_ (by omega) (fun M' a1 a2 a5 a3 a4 => hK M' ((hrF.sub (WQ_sub2 s t kn)).trans (hFW.trans a1)) a2 a5 a3 ?_)
          · rw [List.length_append, List.length_singleton]; omega
          · rw [show (acc ++ [(f, m, k)]).length = acc.length + 1 by simp] at a4; omega
        exact fin _ (by first | (rw [hxx]; done) | (rw [hxx]; rfl))
      · rw [hr1, bi_f (fun h => c (hok.mpr h)), wp_ite_t rfl, f_X7_listPulls_184, show (1 : Int32) = J 1 from rfl, J_add, J_suc]
        have eo : okb T L f m k = false := okb_f c
        rw [pulT_s, eo] at hK
        simp only [Bool.false_eq_true, if_false, List.nil_append] at hK
        exact ih n r.2 (k + 1) acc ⟨hsr, hAr, htr, hTr, hrP⟩ hUr hLr (by omega) (by omega) (by omega) (fun M' a1 a2 a5 a3 a4 => hK M' ((hrF.sub (WQ_sub2 s t kn)).trans a1) a2 a5 a3 (by omega))
theorem sg_step {L : Ar} {f m : Nat} (hm : m < (rl L f).length) : sg L f (m + 1) = (rl L f).getD ((rl L f).length - (m + 1)) 0 :: sg L f m := by
  unfold sg
  rw [List.drop_eq_getElem_cons (show (rl L f).length - (m + 1) < (rl L f).length by omega), List.getD_eq_getElem?_getD, List.getElem?_eq_getElem (show (rl L f).length - (m + 1) < (rl L f).length by omega)]
  rw [show (rl L f).length - (m + 1) + 1 = (rl L f).length - m by omega]; rfl
set_option maxHeartbeats 4000000 in
theorem c_list34 (hw : TWf T) (wL : WA (tR T) (tH T) L) (hd : dis s t p kn) {f : Nat} (hf : f < tR T) (K : rhM → Nat → Nat → Int32 → Option rhM) (Q : rhM → Prop) (rest : Nat) :
    ∀ (d n : Nat) (M : rhM) (m : Nat) (acc : List Tr), IV Γ M s t p kn Ln T L → UN M s (tR T) L → LPu M s L acc → m + d = (rl L f).length → acc.length + (tR T - 1) * (d + rest) ≤ 32 → d < n →
    (∀ M', Fr (WQ s t kn) M M' → IV Γ M' s t p kn Ln T L → UN M' s (tR T) L → LPu M' s L (acc ++ pulM T L f (m + 1) d) → (acc ++ pulM T L f (m + 1) d).length + (tR T - 1) * rest ≤ 32 → wp (K M' s p (J f)) Q) →
    wp (f_X7_listPulls_34 K Γ n M s p (J f) (J (ss (sg L f m))) (J m) (J ((cum L (f + 1) : Int) + f - m - 1))) Q := by
  have w1 := hw.1
  have w2 := hw.2.1
  have hc1 := cum_succ L f
  have hc2 := wL.le (r := f + 1) (by omega)
  have hlen := dgs_len wL
  intro d
  induction d with
  | zero =>
    intro n M m acc hI hU hL hm hc hn hK
    obtain ⟨n, rfl⟩ : ∃ k, n = k + 1 := ⟨n - 1, by omega⟩
    have hs := hI.1
    have hA := hI.2.1
    have hb := (hA.2.2 f hf).1
    have hs0 := hs.1
    have hs1 := hs.2.1
    have hr2 := hs.2.2.2.2.2.2.2.1
    rw [f_X7_listPulls_34]
    simp (disch := omega) only [wp_some, wp_ck_T, wp_ck_t, wp_bind, wp_ite_t, wp_ite_f, J_lit, J_neg, J_add, J_sub, J_mul, J_lt, J_le, J_eq, J_toInt, J_clamp, J_suc, si_1, si_2, sl_1, sl_2, sl_3, Int.toNat_natCast, Int.reduceToNat, Nat.add_sub_cancel, Int.toNat_add, Int.toNat_mul, Int.toNat_sub'', true_and, and_true, and_self, if_true, if_false, not_true, not_false_eq_true, hs0, hs1.1, hs1.2, hr2, hb]
    have e : acc ++ pulM T L f (m + 1) 0 = acc := by simp [pulM]
    exact hK M (Fr.refl _ _) hI hU (by rw [e]; exact hL) (by rw [e]; rw [Nat.zero_add] at hc; exact hc)
  | succ d ih =>
    intro n M m acc hI hU hL hm hc hn hK
    obtain ⟨n, rfl⟩ : ∃ k, n = k + 1 := ⟨n - 1, by omega⟩
    have hs := hI.1
    have hA := hI.2.1
    have hb := (hA.2.2 f hf).1
    have hs0 := hs.1
    have hs1 := hs.2.1
    have hr2 := hs.2.2.2.2.2.2.2.1
    have h0 := hA.1
    unfold wn at h0
    have ep : (cum L (f + 1) : Int) + f - m - 1 = ((cum L (f + 1) + f - m - 1 : Nat) : Int) := by omega
    have hdg := c_digit (Γ := Γ) (M := M) (dgs_16 wL w2) (by omega) (i := cum L (f + 1) + f - m - 1) (by omega)
    have hgx := dgs_get (L := L) (r := f) (i := (rl L f).length - (m + 1)) (by omega)
    rw [show cum L f + f + ((rl L f).length - (m + 1)) = cum L (f + 1) + f - m - 1 by omega] at hgx
    rw [hgx] at hdg
    have hst := sg_step (L := L) (f := f) (m := m) (by omega)
    generalize hx : (rl L f).getD ((rl L f).length - (m + 1)) 0 = x at *
    have hx8 : x < tH T := by
      apply wL.lt.mp
      apply rl_sub (r := f)
      apply List.mem_of_mem_drop (i := (rl L f).length - (m + 1))
      show x ∈ sg L f (m + 1)
      rw [hst]; exact List.mem_cons_self
    have hss : ss (sg L f m) ||| 2 ^ x = ss (sg L f (m + 1)) := by
      rw [← ss_snoc, hst]
      exact ss_eq (fun y => by simp [or_comm])
    have e1 := J_1sh x (by omega)
    rw [show (1 : Int32) = J 1 from rfl, show (31 : Int32) = J 31 from rfl] at e1
    rw [f_X7_listPulls_34]
    rw [ep]
    simp (disch := omega) only [wp_some, wp_ck_T, wp_ck_t, wp_bind, wp_ite_t, wp_ite_f, J_lit, J_neg, J_add, J_sub, J_mul, J_lt, J_le, J_eq, J_toInt, J_clamp, J_suc, si_1, si_2, sl_1, sl_2, sl_3, Int.toNat_natCast, Int.reduceToNat, Nat.add_sub_cancel, Int.toNat_add, Int.toNat_mul, Int.toNat_sub'', true_and, and_true, and_self, if_true, if_false, not_true, not_false_eq_true, hs0, hs1.1, hs1.2, hr2, hb, h0, hdg, e1, J_or, hss]
    have hrest : acc.length + (tR T - 1) + (tR T - 1) * (d + rest) ≤ 32 := by
      have e : d + 1 + rest = d + rest + 1 := by omega
      rw [e, Nat.mul_succ] at hc; omega
    refine c_list65 hw wL hd hf (m := m + 1) (by omega) (by omega) _ _ (tR T) rhFU M 0 acc hI hU hL (by omega) (by rw [if_pos (by omega)]; omega) (by have := FU_big; omega) (fun M' a1 a2 a5 a3 a4 => ?_)
    rw [if_pos (by omega)] at a4
    rw [f_X7_listPulls_190]
    have e3 : ((cum L (f + 1) + f - m - 1 : Nat) : Int) + -1 = (cum L (f + 1) : Int) + f - (m + 1 : Nat) - 1 := by omega
    rw [show (-1 : Int32) = J (-1) from rfl, J_add, e3]
    rw [pulM_s, ← List.append_assoc] at hK
    exact ih n M' (m + 1) _ a2 a5 a3 (by omega) (by omega) (by omega) (fun M'' b1 b2 b5 b3 b4 => hK M'' (a1.trans b1) b2 b5 b3 b4)
set_option maxHeartbeats 4000000 in
theorem c_list11 (hw : TWf T) (wL : WA (tR T) (tH T) L) (hd : dis s t p kn) (Q : rhM → Prop) :
    ∀ (d n : Nat) (M : rhM) (f : Nat) (acc : List Tr), IV Γ M s t p kn Ln T L → UN M s (tR T) L → LPu M s L acc → f + d = tR T → acc.length + (tR T - 1) * (tH T - cum L f) ≤ 32 → d < n →
    (∀ M', Fr (WQ s t kn) M M' → IV Γ M' s t p kn Ln T L → UN M' s (tR T) L → LPu M' s L (acc ++ pulF T L f d) → Q M') →
    wp (f_X7_listPulls_11 Γ n M s p (J f)) Q := by
  have w1 := hw.1
  have w2 := hw.2.1
  intro d
  induction d with
  | zero =>
    intro n M f acc hI hU hL hm hc hn hK
    obtain ⟨n, rfl⟩ : ∃ k, n = k + 1 := ⟨n - 1, by omega⟩
    have hs0 := hI.1.1
    have hA1 := hI.2.1.2.1
    rw [f_X7_listPulls_11]
    simp (disch := omega) only [wp_some, wp_ck_T, wp_ck_t, wp_bind, wp_ite_t, wp_ite_f, J_lit, J_neg, J_add, J_sub, J_mul, J_lt, J_le, J_eq, J_toInt, J_clamp, J_suc, si_1, si_2, sl_1, sl_2, sl_3, Int.toNat_natCast, Int.reduceToNat, Nat.add_sub_cancel, Int.toNat_add, Int.toNat_mul, Int.toNat_sub'', true_and, and_true, and_self, if_true, if_false, not_true, not_false_eq_true, hs0, hA1]
    exact hK M (Fr.refl _ _) hI hU (by simpa [pulF] using hL)
  | succ d ih =>
    intro n M f acc hI hU hL hm hc hn hK
    obtain ⟨n, rfl⟩ : ∃ k, n = k + 1 := ⟨n - 1, by omega⟩
    have hs := hI.1
    have hA := hI.2.1
    have hs0 := hs.1
    have hA1 := hA.2.1
    have hb := (hA.2.2 f (by omega)).2.1
    have hs1 := hs.2.2.1
    have hr2 := hs.2.2.2.2.2.2.2.2.1
    have hc1 := cum_succ L f
    have hc2 := wL.le (r := f + 1) (by omega)
    rw [f_X7_listPulls_11]
    have e0 : J 0 = J (ss (sg L f 0)) := by
      unfold sg; rw [Nat.sub_zero, List.drop_length]; rfl
    have e1 : ((cum L (f + 1) + f : Nat) : Int) - 1 = (cum L (f + 1) : Int) + f - (0 : Nat) - 1 := by omega
    simp (disch := omega) only [wp_some, wp_ck_T, wp_ck_t, wp_bind, wp_ite_t, wp_ite_f, J_lit, J_neg, J_add, J_sub, J_mul, J_lt, J_le, J_eq, J_toInt, J_clamp, J_suc, si_1, si_2, sl_1, sl_2, sl_3, Int.toNat_natCast, Int.reduceToNat, Nat.add_sub_cancel, Int.toNat_add, Int.toNat_mul, Int.toNat_sub'', true_and, and_true, and_self, if_true, if_false, not_true, not_false_eq_true, hs0, hs1.1, hs1.2, hr2, hA1, hb, e1]
    have hrest : (rl L f).length + (tH T - cum L (f + 1)) = tH T - cum L f := by omega
    have := c_list34 hw wL hd (f := f) (by omega) (f_X7_listPulls_196 (f_X7_listPulls_11 Γ n) Γ) Q (tH T - cum L (f + 1)) (rl L f).length rhFU M 0 acc hI hU hL (by omega) (by rw [hrest]; exact hc) (by have := FU_big; omega) (fun M' a1 a2 a5 a3 a4 => by
      rw [f_X7_listPulls_196, show (1 : Int32) = J 1 from rfl, J_add, J_suc]
      rw [pulF_s, ← List.append_assoc] at hK
      exact ih n M' (f + 1) _ a2 a5 a3 (by omega) a4 (by omega) (fun M'' b1 b2 b5 b3 => hK M'' (a1.trans b1) b2 b5 b3))
    rw [← e0] at this
    exact this
theorem ss_app (a b : List Nat) : ss (a ++ b) = ss a ||| ss b := by
  apply Nat.eq_of_testBit_eq
  intro i
  rw [Nat.testBit_or, ss_bit, ss_bit, ss_bit]
  by_cases h : i ∈ a <;> by_cases h2 : i ∈ b <;> simp [h, h2]
theorem up_step {L : Ar} {r : Nat} (h : r < L.length) : up L r = fl [] (L.take r) ++ rl L r := by
  have e : L[r] = rl L r := by rw [rl, List.getD_eq_getElem?_getD, List.getElem?_eq_getElem h]; rfl
  unfold up
  rw [List.take_succ_eq_append_getElem h, fl_app, e]
  congr 1
  simp [fl]
theorem c_unite4 {M0 : rhM} (hs : SS Γ M0 s) {R : Nat} (hR : R ≤ 5) (hLR : L.length = R) : ∀ (d n : Nat) (M : rhM) (r : Nat), M.2.2 = M0.2.2 → M.1 s 1 = J R → (∀ r, r < R → M.1 (s + 3) r = J (ss (rl L r))) → r + d = R → d < n →
    wp (f_X7_unite_4 Γ n M s (J (ss (fl [] (L.take r)))) (J r)) (fun M' => Fr [s + 4] M M' ∧ (∀ q, r ≤ q → q < R → M'.1 (s + 4) q = J (ss (up L q))) ∧ ∀ q, q < r → M'.1 (s + 4) q = M.1 (s + 4) q) := by
  obtain ⟨k0, -, -, ⟨k3, n3⟩, ⟨k4, n4⟩, -, -, -, -, f4, f5, -⟩ := hs
  intro d
  induction d with
  | zero =>
    intro n M r hM h1 h3 hr hn
    obtain ⟨n, rfl⟩ : ∃ k, n = k + 1 := ⟨n - 1, by omega⟩
    rw [f_X7_unite_4, wp_ck_t k0, h1, wp_ite_f (by rw [J_lt (by omega) (by omega) (by omega) (by omega)]; omega), wp_some]
    exact ⟨Fr.refl _ _, fun q a b => by omega, fun _ _ => rfl⟩
  | succ d ih =>
    intro n M r hM h1 h3 hr hn
    obtain ⟨n, rfl⟩ : ∃ k, n = k + 1 := ⟨n - 1, by omega⟩
    have e3 := h3 r (by omega)
    have eu : ss (fl [] (L.take r)) ||| ss (rl L r) = ss (up L r) := by rw [up_step (by omega), ss_app]
    rw [f_X7_unite_4]
    simp (disch := omega) only [wp_some, wp_ck_T, wp_ck_t, wp_bind, wp_ite_t, wp_ite_f, J_lit, J_neg, J_add, J_sub, J_mul, J_lt, J_le, J_eq, J_toInt, J_clamp, J_suc, si_1, si_2, sl_1, sl_2, sl_3, Int.toNat_natCast, Int.reduceToNat, Nat.add_sub_cancel, Int.toNat_add, Int.toNat_mul, Int.toNat_sub'', true_and, and_true, and_self, if_true, if_false, not_true, not_false_eq_true, k0, h1, hM, f4, f5, k3, n3, k4, n4, e3, J_or, eu]
    have hF : Fr [s + 4] M (rhsi M (s + 4) r (J (ss (up L r)))) := (Fr.refl _ _).si (by simp) _ _
    refine (ih n (rhsi M (s + 4) r (J (ss (up L r)))) (r + 1) hM (by rw [hF.i (by simp)]; exact h1) (fun q hq => by rw [hF.i (by simp)]; exact h3 q hq) (by omega) (by omega)).mono (fun M' h => ⟨hF.trans h.1, fun q a b => ?_, fun q a => ?_⟩)
    · by_cases e : q = r
      · rw [h.2.2 q (by omega), si_1, if_pos ⟨rfl, e⟩, e]
      · exact h.2.1 q (by omega) b
    · rw [h.2.2 q (by omega), si_1, if_neg (by omega)]
theorem c_unite {M : rhM} (hs : SS Γ M s) {R : Nat} (hR : R ≤ 5) (hLR : L.length = R) (h1 : M.1 s 1 = J R) (h3 : ∀ r, r < R → M.1 (s + 3) r = J (ss (rl L r))) : wp (f_X7_unite Γ M s) (fun M' => Fr [s + 4] M M' ∧ UN M' s R L) := by
  rw [f_X7_unite]
  have := c_unite4 (L := L) hs hR hLR R rhFU M 0 rfl h1 h3 (by omega) (by have := FU_big; omega)
  exact this.mono (fun M' h => ⟨h.1, fun r hr => h.2.1 r (Nat.zero_le _) hr⟩)
def WP (s t kn : Nat) : List Nat := [s, s + 4, s + 5, s + 6, xb s, xb s + 1, kn, t + 9, t + 10]
theorem c_listPulls {M : rhM} (hw : TWf T) (wL : WA (tR T) (tH T) L) (hd : dis s t p kn) (hI : IV Γ M s t p kn Ln T L) :
    wp (f_X7_listPulls Γ M s p) (fun M' => Fr (WP s t kn) M M' ∧ IV Γ M' s t p kn Ln T L ∧ LPu M' s L (pulls T L)) := by
  have w1 := hw.1
  have w2 := hw.2.1
  have hxs := xb_gt s
  rw [f_X7_listPulls, wp_ck_t hI.1.1]
  dsimp only
  obtain ⟨x1, x2, x3, x4, x5, x6, x7, x8, x9, x10, x11⟩ := dis_1 hd
  have hd0 := hd
  unfold dis at hd
  have hF : Fr [s] M (rhsi M s 6 0) := (Fr.refl _ _).si (by simp) _ _
  obtain ⟨hs, hA, hts, hT, hP⟩ := hI
  rw [wp_bind]
  have hsj : ∀ j, j ≠ 6 → (rhsi M s 6 0).1 s j = M.1 s j := fun j hj => by rw [si_1, if_neg (by omega)]
  have hs6 : (rhsi M s 6 0).1 s 6 = J 0 := by rw [si_1, if_pos ⟨rfl, rfl⟩]; rfl
  have hsl : (rhsi M s 6 0).2.1 s = M.2.1 s := rfl
  generalize rhsi M s 6 0 = M1 at *
  refine (c_unite (L := L) (hs.fr hF.1) w1 wL.1 (by rw [hsj 1 (by decide)]; exact hA.2.1) (fun r hr => by rw [hF.i (by simp)]; exact (hA.2.2 r hr).2.2)).mono (fun M2 h2 => ?_)
  obtain ⟨F2, U2⟩ := h2
  have F12 : Fr [s, s + 4] M M2 := (hF.sub (by simp)).trans (F2.sub (by simp))
  have hI1 : IV Γ M2 s t p kn Ln T L := by
    refine ⟨hs.fr F12.1, hA.ex (by rw [F2.i (by simp)]; exact hsj 1 (by decide)) (by rw [F2.l (by simp)]; exact hsl) (F12.i (by simp)) (F12.i (by simp)) (F12.i (by simp)), hts.fr F12.1, hT.fr F12 (fun r hr => by simp only [List.mem_cons, List.not_mem_nil, or_false] at hr ⊢; omega), hP.fr F12 (by simp; omega)⟩
  rw [show (0 : Int32) = J ((0 : Nat) : Int) from rfl]
  refine c_list11 hw wL hd0 _ (tR T) rhFU M2 0 [] hI1 U2 ⟨by rw [F2.i (by simp)]; exact hs6, fun i a h => by simp at h⟩ (by omega) ?_ (by have := FU_big; omega) (fun M' a1 a2 a5 a3 => ⟨(F12.sub (by unfold WP; simp)).trans (a1.sub (by unfold WP WQ; simp)), a2, by rw [List.nil_append] at a3; exact a3⟩)
  have : (tR T - 1) * (tH T - cum L 0) ≤ 4 * 8 := Nat.mul_le_mul (by omega) (by omega)
  simpa using this
theorem cd_f {x : Tr} (h1 : x.1 ≤ 9) (h2 : x.2.1 ≤ 9) (h3 : x.2.2 ≤ 9) : J (cdT x) / 100 = J x.1 := by
  unfold cdT
  rw [show (100 : Int32) = J ((100 : Nat) : Int) from rfl, J_divN (by omega) (by omega) (by omega) (by omega)]
  congr 1; omega
theorem cd_m {x : Tr} (h1 : x.1 ≤ 9) (h2 : x.2.1 ≤ 9) (h3 : x.2.2 ≤ 9) : J (cdT x) / 10 - (J (cdT x) / 10) / 10 * 10 = J x.2.1 := by
  unfold cdT
  rw [show (10 : Int32) = J ((10 : Nat) : Int) from rfl, J_divN (by omega) (by omega) (by omega) (by omega), J_divN (by omega) (by omega) (by omega) (by omega), J_mul, J_sub]
  congr 1; omega
theorem cd_t {x : Tr} (h1 : x.1 ≤ 9) (h2 : x.2.1 ≤ 9) (h3 : x.2.2 ≤ 9) : J (cdT x) - J (cdT x) / 10 * 10 = J x.2.2 := by
  unfold cdT
  rw [show (10 : Int32) = J ((10 : Nat) : Int) from rfl, J_divN (by omega) (by omega) (by omega) (by omega), J_mul, J_sub]
  congr 1; omega
/-- the word that a listed pull leads to -/
theorem c_nextWord {M : rhM} (hs : SS Γ M s) {R H : Nat} (hR : R ≤ 5) (hH : H ≤ 8) (wL : WA R H L) (hA : SA M s R L) {acc : List Tr} (hL : LPu M s L acc) (h32 : acc.length ≤ 32) {i : Nat} {a : Tr} (ha : acc[i]? = some a) (ha1 : a.1 < R) (ha2 : a.2.2 < R) (ha3 : a.1 ≠ a.2.2) (ha4 : a.2.1 ≤ (rl L a.1).length) :
    f_X7_nextWord Γ M s (J i) = some (jl (wn (mv L a.1 a.2.1 a.2.2))) := by
  have hil := (List.getElem?_eq_some_iff.mp ha).1
  have hc := (hL.2 i a ha).1
  have haf := c_after hs hR hH wL hA ha1 ha2 ha3 ha4
  have hlen : (rl L a.1).length ≤ 8 := by
    have h1 := cum_succ L a.1
    have h2 := wL.le (r := a.1 + 1) (by omega)
    omega
  obtain ⟨k0, -, -, -, -, ⟨k5, n5⟩, -, -, -, -, -, f7, -⟩ := hs
  apply wp_eq
  rw [f_X7_nextWord, wp_ck_t k0, f7, wp_ck_t k5, n5, J_toInt (by omega) (by omega), wp_ck_t (by omega), J_clamp (by omega) (by omega), Int.toNat_natCast]
  dsimp only
  rw [hc, f_X3_fromOf, wp_bind, wp_some, f_X3_manyOf, wp_bind, wp_some, f_X3_toOf, wp_bind, wp_some, cd_f (by omega) (by omega) (by omega), cd_m (by omega) (by omega) (by omega), cd_t (by omega) (by omega) (by omega), haf, wp_bind, wp_some, wp_some]
end
