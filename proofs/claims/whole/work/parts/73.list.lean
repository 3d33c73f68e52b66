/-! PERMITS, AND ALL LAWFUL PULLS IN THEIR ORDER -/
theorem J_c31 : ∀ k, k < 32 → (J (k : Nat) &&& 31) = J (k : Nat) ∧ (J (k : Nat)).toBitVec.smod 32 = BitVec.ofNat 32 k := by decide +kernel
theorem J_bv (n : Nat) : (J n).toBitVec = BitVec.ofNat 32 n := by
  show (Int32.ofInt n).toBitVec = _
  rw [Int32.ofInt_eq_ofNat]; rfl
theorem J_shl (a : Nat) {k : Nat} (hk : k < 32) : J a <<< (J k &&& 31) = J ((a * 2 ^ k : Nat) : Int) := by
  rw [(J_c31 k hk).1]
  apply Int32.toBitVec_inj.mp
  rw [Int32.toBitVec_shiftLeft, (J_c31 k hk).2, J_bv, J_bv]
  apply BitVec.eq_of_toNat_eq
  rw [BitVec.shiftLeft_eq', BitVec.toNat_shiftLeft, BitVec.toNat_ofNat, BitVec.toNat_ofNat, BitVec.toNat_ofNat, Nat.mod_eq_of_lt (show k < 2 ^ 32 by omega), Nat.shiftLeft_eq, Nat.mul_mod, Nat.mod_mod, ← Nat.mul_mod]
def plc (R H f to S S' : Nat) : Nat := ((f * R + to) * 2 ^ H + S) * 2 ^ H + S'
theorem or_add {a b k : Nat} (h : b < 2 ^ k) : a * 2 ^ k ||| b = a * 2 ^ k + b := by rw [Nat.mul_comm, Nat.two_pow_add_eq_or_of_lt h]
theorem plc_ok {R H f to S S' : Nat} (hH : H < 32) (hS : S < 2 ^ H) (hS' : S' < 2 ^ H) : ((((J f * J R + J to) <<< (J H &&& 31)) ||| J S) <<< (J H &&& 31)) ||| J S' = J (plc R H f to S S') := by
  rw [J_mul, J_add, show ((f : Int) * R + to) = ((f * R + to : Nat) : Int) by simp, J_shl _ hH, J_or, or_add hS, J_shl _ hH, J_or, or_add hS', plc]
theorem dm {a b c : Nat} (h : c < b) : (a * b + c) / b = a ∧ (a * b + c) % b = c := by
  constructor
  · rw [Nat.add_comm, Nat.add_mul_div_right _ _ (by omega), Nat.div_eq_of_lt h, Nat.zero_add]
  · rw [Nat.add_comm, Nat.add_mul_mod_self_right, Nat.mod_eq_of_lt h]
theorem plc_lt {R H f to S S' : Nat} (hf : f < R) (hto : to < R) (hS : S < 2 ^ H) (hS' : S' < 2 ^ H) : plc R H f to S S' < R * R * 2 ^ H * 2 ^ H := by
  have h1 : f * R + to < R * R := by
    have := Nat.mul_le_mul_right R (show f + 1 ≤ R by omega)
    rw [Nat.add_mul] at this; omega
  have h2 : (f * R + to) * 2 ^ H + S < R * R * 2 ^ H := by
    have := Nat.mul_le_mul_right (2 ^ H) (show f * R + to + 1 ≤ R * R by omega)
    rw [Nat.add_mul] at this; omega
  have := Nat.mul_le_mul_right (2 ^ H) (show (f * R + to) * 2 ^ H + S + 1 ≤ R * R * 2 ^ H by omega)
  rw [Nat.add_mul] at this; unfold plc; omega
def alwP (T : Tn) (pl : Nat) : Prop := alw T (pl / 2 ^ tH T / 2 ^ tH T / tR T) (cl (tH T) (pl / 2 ^ tH T % 2 ^ tH T)) (pl / 2 ^ tH T / 2 ^ tH T % tR T) (cl (tH T) (pl % 2 ^ tH T))
theorem alwP_plc {T : Tn} {f to S S' : Nat} (hto : to < tR T) (hS : S < 2 ^ tH T) (hS' : S' < 2 ^ tH T) : alwP T (plc (tR T) (tH T) f to S S') = alw T f (cl (tH T) S) to (cl (tH T) S') := by
  unfold alwP plc
  rw [(dm hS').1, (dm hS').2, (dm hS).1, (dm hS).2, (dm hto).1, (dm hto).2]
def PA (Γ : rhG) (M : rhM) (p kn Ln t : Nat) (T : Tn) : Prop := Γ.2.2.1 p = 3 ∧ Γ.2.2.1 kn = 14 ∧ Γ.2.2.2 kn = Ln ∧ Ln < 2147483648 ∧ M.2.2 p 0 = kn ∧ M.2.2 p 1 = t ∧
  ∀ pl, pl < Ln → pl < tR T * tR T * 2 ^ tH T * 2 ^ tH T → M.1 kn pl = J 0 ∨ (M.1 kn pl = J 1 ∧ alwP T pl) ∨ (M.1 kn pl = J 2 ∧ ¬ alwP T pl)
theorem PA.fr {Γ : rhG} {M M' : rhM} {p kn Ln t : Nat} {T : Tn} {W : List Nat} (h : PA Γ M p kn Ln t T) (hF : Fr W M M') (hk : kn ∉ W) : PA Γ M' p kn Ln t T := by
  unfold PA; rw [hF.1, hF.i hk]; exact h
section
variable {Γ : rhG} {M : rhM} {T : Tn} {L : Ar} {t p kn Ln : Nat}
theorem c_permit (hs : TSh Γ M t) (hT : TC M t T) (hw : TWf T) (hP : PA Γ M p kn Ln t T) (d1 : t + 10 < kn) {f S to S' : Nat} (hf : f < tR T) (hto : to < tR T) (hS : S < 2 ^ tH T) (hS' : S' < 2 ^ tH T) :
    wp (f_X2_allows Γ M p (J f) (J S) (J to) (J S')) (fun r => r.1 = bi (alw T f (cl (tH T) S) to (cl (tH T) S')) ∧ Fr [t + 9, t + 10, kn] M r.2 ∧ PA Γ r.2 p kn Ln t T) := by
  have hA := c_allows hs hT hw (f := f) (to := to) hS hS' hto
  have hP0 := hP
  obtain ⟨k0, kk, kl, hLn, p0, p1, hI⟩ := hP
  have ht := hs.1
  have hR := hT.1
  have hH := hT.2.1
  have w1 := hw.1
  have w2 := hw.2.1
  have hpl := plc_lt hf hto hS hS'
  have hb : tR T * tR T * 2 ^ tH T * 2 ^ tH T ≤ 25 * 2 ^ 8 * 2 ^ 8 := Nat.mul_le_mul (Nat.mul_le_mul (Nat.mul_le_mul w1 w1) (pow_le w2)) (pow_le w2)
  have hx := plc_ok (R := tR T) (f := f) (to := to) (show tH T < 32 by omega) hS hS'
  have hdec := alwP_plc (f := f) hto hS hS'
  generalize hpp : plc (tR T) (tH T) f to S S' = pl at *
  rw [f_X2_allows]
  simp only [p0, p1, hR, hH, hx, kl]
  rw [wp_ck_t k0, wp_ck_t ht]
  have e48 : wp (f_X2_allows_48 Γ M p (J f) (J S) (J to) (J S')) (fun r => r.1 = bi (alw T f (cl (tH T) S) to (cl (tH T) S')) ∧ Fr [t + 9, t + 10, kn] M r.2 ∧ PA Γ r.2 p kn Ln t T) := by
    rw [f_X2_allows_48, wp_ck_t k0, p1, wp_ck_t ht, wp_bind]
    refine hA.mono (fun r hr => ?_)
    have h01 : r.1 = 0 ∨ r.1 = 1 := by
      rw [hr.1]
      by_cases c : alw T f (cl (tH T) S) to (cl (tH T) S')
      · exact Or.inr (bi_t c)
      · exact Or.inl (bi_f c)
    rw [wp_ck_t h01, wp_some]
    exact ⟨hr.1, hr.2.sub (by simp), hP0.fr hr.2 (by simp; omega)⟩
  rw [wp_ite_f (by rw [show (0 : Int32) = J 0 from rfl, J_lt (by omega) (by omega) (by omega) (by omega)]; omega), wp_ck_t kk]
  by_cases hin : pl < Ln
  · rw [wp_ite_t (by rw [show Int32.ofNat Ln = J Ln from Int32.ofInt_eq_ofNat.symm, J_lt (by omega) (by omega) (by omega) (by omega)]; omega)]
    rw [J_toInt (by omega) (by omega), J_clamp (by omega) (by omega), Int.toNat_natCast, wp_ck_t (by omega)]
    have e99 : ∀ (M1 : rhM) (b : Prop), M1.2.2 = M.2.2 → ((M1.1 kn pl = J 1 ∧ b) ∨ (M1.1 kn pl = J 2 ∧ ¬ b)) → wp (f_X2_allows_99 Γ M1 p (J pl)) (fun r => r.1 = bi b ∧ r.2 = M1) := by
      intro M1 b hM1 h
      rw [f_X2_allows_99, wp_ck_t k0, hM1, p0, wp_ck_t kk, kl, J_toInt (by omega) (by omega), J_clamp (by omega) (by omega), Int.toNat_natCast, wp_ck_t (by omega)]
      rcases h with ⟨h1, h2⟩ | ⟨h1, h2⟩
      · rw [wp_ite_t (show M1.1 kn pl = 1 from h1), wp_some]; exact ⟨(bi_t h2).symm, rfl⟩
      · rw [wp_ite_f (by rw [h1]; decide), wp_some]; exact ⟨(bi_f h2).symm, rfl⟩
    have hv := hI pl hin hpl
    rw [hdec] at hv
    rcases hv with h | h
    · rw [wp_ite_t (show M.1 kn pl = 0 from h), wp_bind]
      refine hA.mono (fun r hr => ?_)
      have hP2 : PA Γ r.2 p kn Ln t T := hP0.fr hr.2 (by simp; omega)
      have fin : ∀ (v : Int32) (z : Int), vp_nar .byte v.toInt8.toInt32 = J z → ((z = 1 ∧ alw T f (cl (tH T) S) to (cl (tH T) S')) ∨ (z = 2 ∧ ¬ alw T f (cl (tH T) S) to (cl (tH T) S'))) →
          wp (f_X2_allows_97 (f_X2_allows_99 Γ) Γ r.2 p (J pl) kn (J pl) v) (fun r => r.1 = bi (alw T f (cl (tH T) S) to (cl (tH T) S')) ∧ Fr [t + 9, t + 10, kn] M r.2 ∧ PA Γ r.2 p kn Ln t T) := by
        intro v z hv hz
        rw [f_X2_allows_97, wp_ck_t kk, kl, J_toInt (by omega) (by omega), J_clamp (by omega) (by omega), Int.toNat_natCast, wp_ck_t (by omega), hv]
        have hF : Fr [kn] r.2 (rhsi r.2 kn pl (J z)) := (Fr.refl _ _).si (by simp) _ _
        have hval : (rhsi r.2 kn pl (J z)).1 kn pl = J z := by rw [si_1, if_pos ⟨rfl, rfl⟩]
        refine (e99 (rhsi r.2 kn pl (J z)) _ hr.2.1 ?_).mono (fun r' hr' => ⟨hr'.1, ?_, ?_⟩)
        · rw [hval]
          rcases hz with ⟨rfl, h⟩ | ⟨rfl, h⟩
          · exact Or.inl ⟨rfl, h⟩
          · exact Or.inr ⟨rfl, h⟩
        · rw [hr'.2]; exact (hr.2.sub (by simp)).trans (hF.sub (by simp))
        · rw [hr'.2]
          obtain ⟨a1, a2, a3, a4, a5, a6, a7⟩ := hP2
          refine ⟨a1, a2, a3, a4, a5, a6, fun q hq hq2 => ?_⟩
          by_cases e : q = pl
          · subst e
            rw [hval]
            right
            rw [hdec]
            rcases hz with ⟨rfl, h⟩ | ⟨rfl, h⟩
            · exact Or.inl ⟨rfl, h⟩
            · exact Or.inr ⟨rfl, h⟩
          · rw [si_1, if_neg (by omega)]; exact a7 q hq hq2
      by_cases c : alw T f (cl (tH T) S) to (cl (tH T) S')
      · rw [wp_ite_f (by rw [hr.1, bi_t c]; decide)]
        exact fin 1 1 (by decide) (Or.inl ⟨rfl, c⟩)
      · rw [wp_ite_t (by rw [hr.1, bi_f c])]
        exact fin 2 2 (by decide) (Or.inr ⟨rfl, c⟩)
    · rw [wp_ite_f (by rcases h with h | h <;> rw [h.1] <;> decide)]
      refine (e99 M _ rfl h).mono (fun r hr => ⟨hr.1, ?_, ?_⟩)
      · rw [hr.2]; exact Fr.refl _ _
      · rw [hr.2]; exact hP0
  · rw [wp_ite_f (by rw [show Int32.ofNat Ln = J Ln from Int32.ofInt_eq_ofNat.symm, J_lt (by omega) (by omega) (by omega) (by omega)]; omega)]
    exact e48
end
noncomputable def okb (T : Tn) (L : Ar) (f m t : Nat) : Bool := @decide (okP T L f m t) (Classical.propDecidable _)
theorem okb_iff {T : Tn} {L : Ar} {f m t : Nat} : okb T L f m t = true ↔ okP T L f m t := @decide_eq_true_iff _ (Classical.propDecidable _)
theorem okb_f {T : Tn} {L : Ar} {f m t : Nat} (h : ¬ okP T L f m t) : okb T L f m t = false := by
  cases e : okb T L f m t with
  | false => rfl
  | true => exact absurd (okb_iff.mp e) h
abbrev Tr : Type := Nat × Nat × Nat
noncomputable def pulT (T : Tn) (L : Ar) (f m k d : Nat) : List Tr := ((List.range' k d).filter (okb T L f m)).map fun t => (f, m, t)
noncomputable def pulM (T : Tn) (L : Ar) (f m d : Nat) : List Tr := (List.range' m d).flatMap fun m => pulT T L f m 0 (tR T)
noncomputable def pulF (T : Tn) (L : Ar) (f d : Nat) : List Tr := (List.range' f d).flatMap fun f => pulM T L f 1 (rl L f).length
/-- all lawful pulls, in their order -/
noncomputable def pulls (T : Tn) (L : Ar) : List Tr := pulF T L 0 (tR T)
theorem pulT_s (T : Tn) (L : Ar) (f m k d : Nat) : pulT T L f m k (d + 1) = (if okb T L f m k = true then [(f, m, k)] else []) ++ pulT T L f m (k + 1) d := by
  unfold pulT
  rw [List.range'_succ, List.filter_cons]
  split <;> simp
theorem pulM_s (T : Tn) (L : Ar) (f m d : Nat) : pulM T L f m (d + 1) = pulT T L f m 0 (tR T) ++ pulM T L f (m + 1) d := by unfold pulM; rw [List.range'_succ, List.flatMap_cons]
theorem pulF_s (T : Tn) (L : Ar) (f d : Nat) : pulF T L f (d + 1) = pulM T L f 1 (rl L f).length ++ pulF T L (f + 1) d := by unfold pulF; rw [List.range'_succ, List.flatMap_cons]
def cdT (a : Tr) : Nat := 100 * a.1 + 10 * a.2.1 + a.2.2
def LPu (M : rhM) (s : Nat) (T : Tn) (L : Ar) (acc : List Tr) : Prop := M.1 s 5 = J acc.length ∧ ∀ i a, acc[i]? = some a → M.2.1 (s + 4) i = jl (wn (mv L a.1 a.2.1 a.2.2)) ∧ M.1 (s + 5) i = J (cdT a) ∧ M.1 (s + 6) i = J (sm (tw T) (sg L a.1 a.2.1))
def IV (Γ : rhG) (M : rhM) (s t p kn Ln : Nat) (T : Tn) (L : Ar) : Prop := SS Γ M s ∧ SA M s (tR T) L ∧ TSh Γ M t ∧ TC M t T ∧ PA Γ M p kn Ln t T
def dis (s t p kn : Nat) : Prop := t + 10 < s ∧ t + 10 < kn ∧ t + 10 < p ∧ (kn < s ∨ s + 6 < kn) ∧ (p < s ∨ s + 6 < p)
section
variable {Γ : rhG} {T : Tn} {L : Ar} {s t p kn Ln : Nat}
theorem LPu_push {M M1 : rhM} {acc : List Tr} {f m k : Nat} (hL : LPu M s T L acc) (hM1 : M1 = rhsi (rhsi (rhsi (rhsl M (s + 4) acc.length (jl (wn (mv L f m k)))) (s + 5) acc.length (J (100 * f + 10 * m + k))) (s + 6) acc.length (J (sm (tw T) (sg L f m)))) s 5 (J ((acc.length + 1 : Nat) : Int))) :
    Fr [s, s + 4, s + 5, s + 6] M M1 ∧ (∀ j, j ≠ 5 → M1.1 s j = M.1 s j) ∧ M1.2.1 s = M.2.1 s ∧ LPu M1 s T L (acc ++ [(f, m, k)]) := by
  refine ⟨?_, fun j hj => ?_, ?_, ?_, fun i a ha => ?_⟩
  · rw [hM1]; exact ((((Fr.refl _ _).sl (by simp) _ _).si (by simp) _ _).si (by simp) _ _).si (by simp) _ _
  · rw [hM1, si_1, si_1, si_1, sl_1, if_neg (by omega), if_neg (by omega), if_neg (by omega)]
  · rw [hM1]; funext j; simp only [si_2, sl_2]; rw [if_neg (by omega)]
  · rw [hM1, si_1, if_pos ⟨rfl, rfl⟩, List.length_append]; rfl
  · by_cases hi : i < acc.length
    · rw [List.getElem?_append_left hi] at ha
      have := hL.2 i a ha
      rw [hM1]
      simp only [si_1, si_2, sl_1, sl_2]
      simp (disch := omega) only [if_neg]
      exact this
    · have hlen : i < (acc ++ [(f, m, k)]).length := by
        rw [List.getElem?_eq_some_iff] at ha; exact ha.1
      rw [List.length_append, List.length_singleton] at hlen
      have hi2 : i = acc.length := by omega
      subst hi2
      rw [List.getElem?_append_right (Nat.le_refl _), Nat.sub_self] at ha
      cases ha
      rw [hM1]
      simp only [si_1, si_2, sl_1, sl_2]
      simp (disch := omega) only [if_neg, if_pos, cdT]
      refine ⟨by simp, ?_, by simp⟩
      simp
theorem SA.ex {M M1 : rhM} {R : Nat} (hA : SA M s R L) (h1 : M1.1 s 1 = M.1 s 1) (h2 : M1.2.1 s = M.2.1 s) (h3 : M1.1 (s + 1) = M.1 (s + 1)) (h4 : M1.1 (s + 2) = M.1 (s + 2)) (h5 : M1.1 (s + 3) = M.1 (s + 3)) : SA M1 s R L := by
  unfold SA; rw [h1, h2, h3, h4, h5]; exact hA
theorem LPu.fr {M M' : rhM} {W : List Nat} {acc : List Tr} (hL : LPu M s T L acc) (hF : Fr W M M') (h0 : s ∉ W) (h4 : s + 4 ∉ W) (h5 : s + 5 ∉ W) (h6 : s + 6 ∉ W) : LPu M' s T L acc := by
  unfold LPu; rw [hF.i h0, hF.l h4, hF.i h5, hF.i h6]; exact hL
theorem dis_1 (hd : dis s t p kn) : kn ∉ [s, s + 4, s + 5, s + 6] ∧ (∀ r, r ∈ [t, t + 1, t + 2, t + 3, t + 4, t + 6, t + 7, t + 8] → r ∉ [s, s + 4, s + 5, s + 6] ∧ r ∉ [t + 9, t + 10, kn] ∧ r ∉ [s, s + 4, s + 5, s + 6, kn, t + 9, t + 10]) ∧
    s ∉ [t + 9, t + 10, kn] ∧ s + 1 ∉ [t + 9, t + 10, kn] ∧ s + 2 ∉ [t + 9, t + 10, kn] ∧ s + 3 ∉ [t + 9, t + 10, kn] ∧ s + 4 ∉ [t + 9, t + 10, kn] ∧ s + 5 ∉ [t + 9, t + 10, kn] ∧ s + 6 ∉ [t + 9, t + 10, kn] := by
  unfold dis at hd
  refine ⟨by simp; omega, fun r hr => ?_, by simp; omega, by simp; omega, by simp; omega, by simp; omega, by simp; omega, by simp; omega, by simp; omega⟩
  simp only [List.mem_cons, List.not_mem_nil, or_false] at hr ⊢
  omega
set_option maxHeartbeats 4000000 in
theorem c_list64 (hw : TWf T) (wL : WA (tR T) (tH T) L) (hd : dis s t p kn) {f m : Nat} (hf : f < tR T) (hm1 : 1 ≤ m) (hm : m ≤ (rl L f).length) {pos : Int32} (K : rhM → Nat → Nat → Nat → Int32 → Int32 → Int32 → Int32 → Option rhM) (Q : rhM → Prop) :
    ∀ (d n : Nat) (M : rhM) (k : Nat) (acc : List Tr), IV Γ M s t p kn Ln T L → LPu M s T L acc → k + d = tR T → acc.length + (d - if k ≤ f then 1 else 0) ≤ 32 → d < n →
    (∀ M', Fr [s, s + 4, s + 5, s + 6, kn, t + 9, t + 10] M M' → IV Γ M' s t p kn Ln T L → LPu M' s T L (acc ++ pulT T L f m k d) → (acc ++ pulT T L f m k d).length ≤ acc.length + (d - if k ≤ f then 1 else 0) → wp (K M' s t p (J f) (J (ss (sg L f m))) (J m) pos) Q) →
    wp (f_X7_listPulls_64 K Γ n M s t p (J f) (J (ss (sg L f m))) (J m) pos (J k)) Q := by
  have w1 := hw.1
  have w2 := hw.2.1
  have hS : ss (sg L f m) < 2 ^ tH T := ss_lt (fun x hx => wL.lt.mp (rl_sub (List.mem_of_mem_drop hx)))
  have p8 := pow_le w2
  obtain ⟨x1, x2, x3, x4, x5, x6, x7, x8, x9⟩ := dis_1 hd
  have d2 : t + 10 < kn := hd.2.1
  have d1 : t + 10 < s := hd.1
  intro d
  induction d with
  | zero =>
    intro n M k acc hI hL hk hc hn hK
    obtain ⟨n, rfl⟩ : ∃ k, n = k + 1 := ⟨n - 1, by omega⟩
    have hI0 := hI
    obtain ⟨hs, hA, hts, hT, hP⟩ := hI
    rw [f_X7_listPulls_64]
    simp (disch := omega) only [wp_some, wp_ck_T, wp_ck_t, wp_bind, wp_ite_t, wp_ite_f, J_lit, J_neg, J_add, J_sub, J_mul, J_lt, J_le, J_eq, J_toInt, J_clamp, J_suc, si_1, si_2, sl_1, sl_2, sl_3, Int.toNat_natCast, Int.reduceToNat, Nat.add_sub_cancel, Int.toNat_add, Int.toNat_mul, Int.toNat_sub'', true_and, and_true, and_self, if_true, if_false, not_true, not_false_eq_true, hs.1, hA.2.1]
    have e : acc ++ pulT T L f m k 0 = acc := by simp [pulT]
    have := hK M (Fr.refl _ _) hI0 (by rw [e]; exact hL) (by rw [e]; omega)
    exact this
  | succ d ih =>
    intro n M k acc hI hL hk hc hn hK
    obtain ⟨n, rfl⟩ : ∃ k, n = k + 1 := ⟨n - 1, by omega⟩
    have hI0 := hI
    obtain ⟨hs, hA, hts, hT, hP⟩ := hI
    have hs0 := hs
    obtain ⟨k0, ⟨k1, n1⟩, ⟨k2, n2⟩, ⟨k3, n3⟩, ⟨k4, n4⟩, ⟨k5, n5⟩, ⟨k6, n6⟩, f2, f3, f4, f6, f7, f8⟩ := hs
    rw [f_X7_listPulls_64]
    by_cases ef : k = f
    · have eo : okb T L f m k = false := okb_f (fun h => h.1.2.2.1 (by rw [ef]))
      rw [pulT_s, eo] at hK
      simp only [Bool.false_eq_true, if_false, List.nil_append] at hK
      rw [if_pos (show k ≤ f by omega)] at hc hK
      simp (disch := omega) only [wp_some, wp_ck_T, wp_ck_t, wp_bind, wp_ite_t, wp_ite_f, J_lit, J_neg, J_add, J_sub, J_mul, J_lt, J_le, J_eq, J_toInt, J_clamp, J_suc, si_1, si_2, sl_1, sl_2, sl_3, Int.toNat_natCast, Int.reduceToNat, Nat.add_sub_cancel, Int.toNat_add, Int.toNat_mul, Int.toNat_sub'', true_and, and_true, and_self, if_true, if_false, not_true, not_false_eq_true, f_X7_listPulls_168, k0, hA.2.1]
      refine ih n M (k + 1) acc hI0 hL (by omega) (by rw [if_neg (by omega)]; omega) (by omega) (fun M' a1 a2 a3 a4 => hK M' a1 a2 a3 ?_)
      rw [if_neg (by omega)] at a4; omega
    · have hk3 := (hA.2.2 k (by omega)).2.2
      have hS' : ss (rl L k) < 2 ^ tH T := ss_lt (fun x hx => wL.lt.mp (rl_sub hx))
      have hacc : acc.length < 32 := by
        by_cases h : k ≤ f
        · rw [if_pos h] at hc; omega
        · rw [if_neg h] at hc; omega
      have hb : d - (if k + 1 ≤ f then 1 else 0) + 1 ≤ d + 1 - (if k ≤ f then 1 else 0) := by
        by_cases h : k ≤ f
        · rw [if_pos h, if_pos (by omega)]; omega
        · rw [if_neg h, if_neg (by omega)]; omega
      have hper := c_permit hts hT hw hP (by omega) (f := f) (to := k) hf (by omega) hS hS'
      have hok : okP T L f m k ↔ alw T f (cl (tH T) (ss (sg L f m))) k (cl (tH T) (ss (rl L k))) := by
        rw [okP_alw, alw_perm T f k (cl_perm (wL.sgnd hf) (fun x hx => wL.lt.mp (rl_sub (List.mem_of_mem_drop hx)))) (cl_perm (wL.nd (by omega)) (fun x hx => wL.lt.mp (rl_sub hx)))]
        exact ⟨fun h => h.2, fun h => ⟨⟨hf, by omega, fun e => ef e.symm, hm1, hm⟩, h⟩⟩
      have hL5 := hL.1
      simp (disch := omega) only [wp_some, wp_ck_T, wp_ck_t, wp_bind, wp_ite_t, wp_ite_f, J_lit, J_neg, J_add, J_sub, J_mul, J_lt, J_le, J_eq, J_toInt, J_clamp, J_suc, si_1, si_2, sl_1, sl_2, sl_3, Int.toNat_natCast, Int.reduceToNat, Nat.add_sub_cancel, Int.toNat_add, Int.toNat_mul, Int.toNat_sub'', true_and, and_true, and_self, if_true, if_false, not_true, not_false_eq_true, k0, k3, n3, f4, hA.2.1, hL5, hP.1, hk3]
      refine hper.mono (fun r hr => ?_)
      obtain ⟨hr1, hrF, hrP⟩ := hr
      have hsr : SS Γ r.2 s := hs0.fr hrF.1
      have hAr : SA r.2 s (tR T) L := hA.ex (by rw [hrF.i x3]) (hrF.l x3) (hrF.i x4) (hrF.i x5) (hrF.i x6)
      have hTr : TC r.2 t T := hT.fr hrF (fun r hr => (x2 r hr).2.1)
      have htr : TSh Γ r.2 t := hts.fr hrF.1
      have hLr : LPu r.2 s T L acc := hL.fr hrF x3 x7 x8 x9
      by_cases c : okP T L f m k
      · rw [hr1, bi_t (hok.mp c), show (1 : Int32) = J 1 from rfl]
        have haf := c_after hsr w1 w2 wL hAr hf (t := k) (by omega) (fun e => ef e.symm) hm
        have h8 := (hTr.2.2.2.2.2.2.2.1) _ hS
        rw [sm_perm _ (cl_perm (wL.sgnd hf) (fun x hx => wL.lt.mp (rl_sub (List.mem_of_mem_drop hx))))] at h8
        have hg6 : r.2.2.2 s 6 = s + 4 := by rw [hrF.1]; exact f6
        have hg7 : r.2.2.2 s 7 = s + 5 := by rw [hrF.1]; exact f7
        have hg8 : r.2.2.2 s 8 = s + 6 := by rw [hrF.1]; exact f8
        have htw : r.2.2.2 t 8 = t + 3 := htr.2.2.2.2.2.2.2.2.2.2.2.1.2.2.1
        have ht0 := htr.1
        have ht3 := htr.2.2.2.1
        simp (disch := omega) only [wp_some, wp_ck_T, wp_ck_t, wp_bind, wp_ite_t, wp_ite_f, J_lit, J_neg, J_add, J_sub, J_mul, J_lt, J_le, J_eq, J_toInt, J_clamp, J_suc, si_1, si_2, sl_1, sl_2, sl_3, Int.toNat_natCast, Int.reduceToNat, Nat.add_sub_cancel, Int.toNat_add, Int.toNat_mul, Int.toNat_sub'', true_and, and_true, and_self, if_true, if_false, not_true, not_false_eq_true, if_pos, if_neg, f_X7_listPulls_168, f_X3_code, haf, hg6, hg7, hg8, htw, k4, n4, k5, n5, k6, n6, ht0, ht3.1, ht3.2, hLr.1, h8]
        have eo : okb T L f m k = true := okb_iff.mpr c
        rw [pulT_s, eo, if_pos rfl, ← List.append_assoc] at hK
        -- the memory behind
        have fin : ∀ M1 : rhM, M1 = rhsi (rhsi (rhsi (rhsl r.2 (s + 4) acc.length (jl (wn (mv L f m k)))) (s + 5) acc.length (J (100 * f + 10 * m + k))) (s + 6) acc.length (J (sm (tw T) (sg L f m)))) s 5 (J ((acc.length + 1 : Nat) : Int)) →
            wp (f_X7_listPulls_64 K Γ n M1 s t p (J f) (J (ss (sg L f m))) (J m) pos (J ((k + 1 : Nat) : Int))) Q := by
          intro M1 hM1
          obtain ⟨hF1, hs1, hs2, hL1⟩ := LPu_push hLr hM1
          refine ih n M1 (k + 1) (acc ++ [(f, m, k)]) ⟨hsr.fr hF1.1, hAr.ex (hs1 1 (by decide)) hs2 (hF1.i (by simp)) (hF1.i (by simp)) (hF1.i (by simp)), htr.fr hF1.1, hTr.fr hF1 (fun r hr => (x2 r hr).1), hrP.fr hF1 x1⟩ hL1 (by omega) ?_ (by omega) (fun M' a1 a2 a3 a4 => hK M' ((hrF.sub (by simp)).trans ((hF1.sub (by simp)).trans a1)) a2 a3 ?_)
          · rw [List.length_append, List.length_singleton]; omega
          · rw [show (acc ++ [(f, m, k)]).length = acc.length + 1 by simp] at a4; omega
        exact fin _ (by rfl)
      · rw [hr1, bi_f (fun h => c (hok.mpr h)), show (0 : Int32) = J 0 from rfl]
        simp (disch := omega) only [wp_some, wp_ck_T, wp_ck_t, wp_bind, wp_ite_t, wp_ite_f, J_lit, J_neg, J_add, J_sub, J_mul, J_lt, J_le, J_eq, J_toInt, J_clamp, J_suc, si_1, si_2, sl_1, sl_2, sl_3, Int.toNat_natCast, Int.reduceToNat, Nat.add_sub_cancel, Int.toNat_add, Int.toNat_mul, Int.toNat_sub'', true_and, and_true, and_self, if_true, if_false, not_true, not_false_eq_true, f_X7_listPulls_168]
        have eo : okb T L f m k = false := okb_f c
        rw [pulT_s, eo] at hK
        simp only [Bool.false_eq_true, if_false, List.nil_append] at hK
        exact ih n r.2 (k + 1) acc ⟨hsr, hAr, htr, hTr, hrP⟩ hLr (by omega) (by omega) (by omega) (fun M' a1 a2 a3 a4 => hK M' ((hrF.sub (by simp)).trans a1) a2 a3 (by omega))
theorem sg_step {L : Ar} {f m : Nat} (hm : m < (rl L f).length) : sg L f (m + 1) = (rl L f).getD ((rl L f).length - (m + 1)) 0 :: sg L f m := by
  unfold sg
  rw [List.drop_eq_getElem_cons (show (rl L f).length - (m + 1) < (rl L f).length by omega), List.getD_eq_getElem?_getD, List.getElem?_eq_getElem (show (rl L f).length - (m + 1) < (rl L f).length by omega)]
  rw [show (rl L f).length - (m + 1) + 1 = (rl L f).length - m by omega]; rfl
set_option maxHeartbeats 4000000 in
theorem c_list31 (hw : TWf T) (wL : WA (tR T) (tH T) L) (hd : dis s t p kn) {f : Nat} (hf : f < tR T) (K : rhM → Nat → Nat → Nat → Int32 → Option rhM) (Q : rhM → Prop) (rest : Nat) :
    ∀ (d n : Nat) (M : rhM) (m : Nat) (acc : List Tr), IV Γ M s t p kn Ln T L → LPu M s T L acc → m + d = (rl L f).length → acc.length + (tR T - 1) * (d + rest) ≤ 32 → d < n →
    (∀ M', Fr [s, s + 4, s + 5, s + 6, kn, t + 9, t + 10] M M' → IV Γ M' s t p kn Ln T L → LPu M' s T L (acc ++ pulM T L f (m + 1) d) → (acc ++ pulM T L f (m + 1) d).length + (tR T - 1) * rest ≤ 32 → wp (K M' s t p (J f)) Q) →
    wp (f_X7_listPulls_31 K Γ n M s t p (J f) (J (ss (sg L f m))) (J m) (J ((cum L (f + 1) : Int) + f - m - 1))) Q := by
  have w1 := hw.1
  have w2 := hw.2.1
  have hc1 := cum_succ L f
  have hc2 := wL.le (r := f + 1) (by omega)
  have hlen := dgs_len wL
  intro d
  induction d with
  | zero =>
    intro n M m acc hI hL hm hc hn hK
    obtain ⟨n, rfl⟩ : ∃ k, n = k + 1 := ⟨n - 1, by omega⟩
    have hs := hI.1
    have hA := hI.2.1
    have hb := (hA.2.2 f hf).1
    have hs0 := hs.1
    have hs1 := hs.2.1
    have hr2 := hs.2.2.2.2.2.2.2.1
    rw [f_X7_listPulls_31]
    simp (disch := omega) only [wp_some, wp_ck_T, wp_ck_t, wp_bind, wp_ite_t, wp_ite_f, J_lit, J_neg, J_add, J_sub, J_mul, J_lt, J_le, J_eq, J_toInt, J_clamp, J_suc, si_1, si_2, sl_1, sl_2, sl_3, Int.toNat_natCast, Int.reduceToNat, Nat.add_sub_cancel, Int.toNat_add, Int.toNat_mul, Int.toNat_sub'', true_and, and_true, and_self, if_true, if_false, not_true, not_false_eq_true, hs0, hs1.1, hs1.2, hr2, hb]
    have e : acc ++ pulM T L f (m + 1) 0 = acc := by simp [pulM]
    exact hK M (Fr.refl _ _) hI (by rw [e]; exact hL) (by rw [e]; rw [Nat.zero_add] at hc; exact hc)
  | succ d ih =>
    intro n M m acc hI hL hm hc hn hK
    obtain ⟨n, rfl⟩ : ∃ k, n = k + 1 := ⟨n - 1, by omega⟩
    have hs := hI.1
    have hA := hI.2.1
    have hb := (hA.2.2 f hf).1
    have hs0 := hs.1
    have hs1 := hs.2.1
    have hr2 := hs.2.2.2.2.2.2.2.1
    have h0 := hA.1
    unfold wn at h0
    have ep : (cum L (f + 1) : Int) + f - m - 1 = ((cum L (f + 1) + f - m - 1 : Nat) : Int) := by omega
    have hdg := c_digit (Γ := Γ) (M := M) (dgs_16 wL w2) (by omega) (i := cum L (f + 1) + f - m - 1) (by omega)
    have hgx := dgs_get (L := L) (r := f) (i := (rl L f).length - (m + 1)) (by omega)
    rw [show cum L f + f + ((rl L f).length - (m + 1)) = cum L (f + 1) + f - m - 1 by omega] at hgx
    rw [hgx] at hdg
    have hst := sg_step (L := L) (f := f) (m := m) (by omega)
    generalize hx : (rl L f).getD ((rl L f).length - (m + 1)) 0 = x at *
    have hx8 : x < tH T := by
      apply wL.lt.mp
      apply rl_sub (r := f)
      apply List.mem_of_mem_drop (i := (rl L f).length - (m + 1))
      show x ∈ sg L f (m + 1)
      rw [hst]; exact List.mem_cons_self
    have hss : ss (sg L f m) ||| 2 ^ x = ss (sg L f (m + 1)) := by
      rw [← ss_snoc, hst]
      exact ss_eq (fun y => by simp [or_comm])
    have e1 := J_1sh x (by omega)
    rw [show (1 : Int32) = J 1 from rfl, show (31 : Int32) = J 31 from rfl] at e1
    rw [f_X7_listPulls_31]
    rw [ep]
    simp (disch := omega) only [wp_some, wp_ck_T, wp_ck_t, wp_bind, wp_ite_t, wp_ite_f, J_lit, J_neg, J_add, J_sub, J_mul, J_lt, J_le, J_eq, J_toInt, J_clamp, J_suc, si_1, si_2, sl_1, sl_2, sl_3, Int.toNat_natCast, Int.reduceToNat, Nat.add_sub_cancel, Int.toNat_add, Int.toNat_mul, Int.toNat_sub'', true_and, and_true, and_self, if_true, if_false, not_true, not_false_eq_true, hs0, hs1.1, hs1.2, hr2, hb, h0, hdg, e1, J_or, hss]
    have hrest : acc.length + (tR T - 1) + (tR T - 1) * (d + rest) ≤ 32 := by
      have e : d + 1 + rest = d + rest + 1 := by omega
      rw [e, Nat.mul_succ] at hc; omega
    refine c_list64 hw wL hd hf (m := m + 1) (by omega) (by omega) _ _ (tR T) rhFU M 0 acc hI hL (by omega) (by rw [if_pos (by omega)]; omega) (by have := FU_big; omega) (fun M' a1 a2 a3 a4 => ?_)
    rw [if_pos (by omega)] at a4
    rw [f_X7_listPulls_174]
    have e3 : ((cum L (f + 1) + f - m - 1 : Nat) : Int) + -1 = (cum L (f + 1) : Int) + f - (m + 1 : Nat) - 1 := by omega
    rw [show (-1 : Int32) = J (-1) from rfl, J_add, e3]
    rw [pulM_s, ← List.append_assoc] at hK
    exact ih n M' (m + 1) _ a2 a3 (by omega) (by omega) (by omega) (fun M'' b1 b2 b3 b4 => hK M'' (a1.trans b1) b2 b3 b4)
set_option maxHeartbeats 4000000 in
theorem c_list7 (hw : TWf T) (wL : WA (tR T) (tH T) L) (hd : dis s t p kn) (Q : rhM → Prop) :
    ∀ (d n : Nat) (M : rhM) (f : Nat) (acc : List Tr), IV Γ M s t p kn Ln T L → LPu M s T L acc → f + d = tR T → acc.length + (tR T - 1) * (tH T - cum L f) ≤ 32 → d < n →
    (∀ M', Fr [s, s + 4, s + 5, s + 6, kn, t + 9, t + 10] M M' → IV Γ M' s t p kn Ln T L → LPu M' s T L (acc ++ pulF T L f d) → Q M') →
    wp (f_X7_listPulls_7 Γ n M s t p (J f)) Q := by
  have w1 := hw.1
  have w2 := hw.2.1
  intro d
  induction d with
  | zero =>
    intro n M f acc hI hL hm hc hn hK
    obtain ⟨n, rfl⟩ : ∃ k, n = k + 1 := ⟨n - 1, by omega⟩
    have hs0 := hI.1.1
    have hA1 := hI.2.1.2.1
    rw [f_X7_listPulls_7]
    simp (disch := omega) only [wp_some, wp_ck_T, wp_ck_t, wp_bind, wp_ite_t, wp_ite_f, J_lit, J_neg, J_add, J_sub, J_mul, J_lt, J_le, J_eq, J_toInt, J_clamp, J_suc, si_1, si_2, sl_1, sl_2, sl_3, Int.toNat_natCast, Int.reduceToNat, Nat.add_sub_cancel, Int.toNat_add, Int.toNat_mul, Int.toNat_sub'', true_and, and_true, and_self, if_true, if_false, not_true, not_false_eq_true, hs0, hA1]
    exact hK M (Fr.refl _ _) hI (by simpa [pulF] using hL)
  | succ d ih =>
    intro n M f acc hI hL hm hc hn hK
    obtain ⟨n, rfl⟩ : ∃ k, n = k + 1 := ⟨n - 1, by omega⟩
    have hs := hI.1
    have hA := hI.2.1
    have hs0 := hs.1
    have hA1 := hA.2.1
    have hb := (hA.2.2 f (by omega)).2.1
    have hs1 := hs.2.2.1
    have hr2 := hs.2.2.2.2.2.2.2.2.1
    have hc1 := cum_succ L f
    have hc2 := wL.le (r := f + 1) (by omega)
    rw [f_X7_listPulls_7]
    have e0 : J 0 = J (ss (sg L f 0)) := by
      unfold sg; rw [Nat.sub_zero, List.drop_length]; rfl
    have e1 : ((cum L (f + 1) + f : Nat) : Int) - 1 = (cum L (f + 1) : Int) + f - (0 : Nat) - 1 := by omega
    simp (disch := omega) only [wp_some, wp_ck_T, wp_ck_t, wp_bind, wp_ite_t, wp_ite_f, J_lit, J_neg, J_add, J_sub, J_mul, J_lt, J_le, J_eq, J_toInt, J_clamp, J_suc, si_1, si_2, sl_1, sl_2, sl_3, Int.toNat_natCast, Int.reduceToNat, Nat.add_sub_cancel, Int.toNat_add, Int.toNat_mul, Int.toNat_sub'', true_and, and_true, and_self, if_true, if_false, not_true, not_false_eq_true, hs0, hs1.1, hs1.2, hr2, hA1, hb, e1]
    have hrest : (rl L f).length + (tH T - cum L (f + 1)) = tH T - cum L f := by omega
    have := c_list31 hw wL hd (f := f) (by omega) (f_X7_listPulls_180 (f_X7_listPulls_7 Γ n) Γ) Q (tH T - cum L (f + 1)) (rl L f).length rhFU M 0 acc hI hL (by omega) (by rw [hrest]; exact hc) (by have := FU_big; omega) (fun M' a1 a2 a3 a4 => by
      rw [f_X7_listPulls_180, show (1 : Int32) = J 1 from rfl, J_add, J_suc]
      rw [pulF_s, ← List.append_assoc] at hK
      exact ih n M' (f + 1) _ a2 a3 (by omega) a4 (by omega) (fun M'' b1 b2 b3 => hK M'' (a1.trans b1) b2 b3))
    rw [← e0] at this
    exact this
theorem c_listPulls {M : rhM} (hw : TWf T) (wL : WA (tR T) (tH T) L) (hd : dis s t p kn) (hI : IV Γ M s t p kn Ln T L) :
    wp (f_X7_listPulls Γ M s t p) (fun M' => Fr [s, s + 4, s + 5, s + 6, kn, t + 9, t + 10] M M' ∧ IV Γ M' s t p kn Ln T L ∧ LPu M' s T L (pulls T L)) := by
  have w1 := hw.1
  have w2 := hw.2.1
  rw [f_X7_listPulls, wp_ck_t hI.1.1]
  obtain ⟨x1, x2, x3, x4, x5, x6, x7, x8, x9⟩ := dis_1 hd
  have hF : Fr [s] M (rhsi M s 5 0) := (Fr.refl _ _).si (by simp) _ _
  have hF' : Fr [s, s + 4, s + 5, s + 6] M (rhsi M s 5 0) := hF.sub (by simp)
  have hI1 : IV Γ (rhsi M s 5 0) s t p kn Ln T L := by
    obtain ⟨hs, hA, hts, hT, hP⟩ := hI
    refine ⟨hs.fr rfl, hA.ex ?_ rfl (hF.i (by simp)) (hF.i (by simp)) (hF.i (by simp)), hts.fr rfl, hT.fr hF' (fun r hr => (x2 r hr).1), hP.fr hF' x1⟩
    rw [si_1, if_neg (by omega)]
  refine c_list7 hw wL hd _ (tR T) rhFU (rhsi M s 5 0) 0 [] hI1 ⟨by rw [si_1, if_pos ⟨rfl, rfl⟩]; rfl, fun i a h => by simp at h⟩ (by omega) ?_ (by have := FU_big; omega) (fun M' a1 a2 a3 => ⟨(hF.sub (by simp)).trans a1, a2, by rw [List.nil_append] at a3; exact a3⟩)
  have : (tR T - 1) * (tH T - cum L 0) ≤ 4 * 8 := Nat.mul_le_mul (by omega) (by omega)
  simpa using this
end
