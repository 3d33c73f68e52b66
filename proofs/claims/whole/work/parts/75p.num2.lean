/-! A STATE'S NUMBER, THE STATE OF A NUMBER, THE NUMBERS THAT PULLS LEAD TO -/
theorem DW.len {R H : Nat} {D : List Nat} (w : DW R H D) : D.length = H + (R - 1) := by
  have := w.length_eq
  rw [List.length_append, List.length_range, List.length_replicate] at this; exact this
theorem ways_p1 {R : Nat} (hR : 0 < R) : ∀ h, 1 ≤ ways R h
  | 0 => Nat.le_refl _
  | h + 1 => by
    have := ways_p1 hR h
    rw [ways]; exact Nat.mul_pos this (by omega)
section
variable {Γ : rhG} {M : rhM} {n R H : Nat} {D : List Nat}
theorem c_num11 (hR : R ≤ 5) (hH : H ≤ 6) (hRH : 0 < H → 0 < R) (k0 : Γ.2.2.1 n = 11) (k1 : Γ.2.2.1 (n + 1) = 15) (n1 : Γ.2.2.2 (n + 1) = 6) (r2 : M.2.2 n 2 = n + 1) (m0 : M.1 n 0 = J H) (m1 : M.1 n 1 = J R) (hu : NTu M n R H) (w : DW R H D) (h16 : ∀ x, x ∈ D → x < 16) : ∀ (S : List Nat) (f : Nat) (X : List Nat), D = X ++ S → S.length < f →
    f_X10_numberOf_11 Γ M f n (jl (dg D)) (J (sm (fun h => ways R h * ps h D) (X.filter fun x => decide (x < 8)) : Nat)) (J ((X.filter fun x => x == 8).length : Nat)) (J (ss (X.filter fun x => decide (x < 8)) : Nat)) (J X.length) = some (J (nmD R H D : Nat)) := by
  have hl := w.len
  have nd := w.nd (show H ≤ 8 by omega)
  intro S
  induction S with
  | nil =>
    intro f X hD hf
    obtain ⟨f, rfl⟩ : ∃ k, f = k + 1 := ⟨f - 1, by omega⟩
    rw [List.append_nil] at hD
    subst hD
    have e1 : sm (fun h => ways R h * ps h D) (D.filter fun x => decide (x < 8)) = nmD R H D := sm_perm _ (w.low (by omega))
    apply wp_eq
    rw [f_X10_numberOf_11, wp_ck_t k0, m0, m1, J_add, show (1 : Int32) = J 1 from rfl, J_sub, wp_ite_f (by rw [J_lt (by omega) (by omega) (by omega) (by omega)]; omega), wp_some, e1]
  | cons x S ih =>
    intro f X hD hf
    obtain ⟨f, rfl⟩ : ∃ k, f = k + 1 := ⟨f - 1, by omega⟩
    rw [List.length_cons] at hf
    have hlx := congrArg List.length hD
    rw [List.length_append, List.length_cons] at hlx
    have hdg := c_digit (Γ := Γ) (M := M) h16 (by omega) (i := X.length) (by omega)
    have hgx : D.getD X.length 0 = x := by rw [hD, gd_r _ (Nat.le_refl _), Nat.sub_self]; rfl
    rw [hgx] at hdg
    have hxD : x ∈ D := by rw [hD]; simp
    have hx := w.mem hxD
    have hD2 : D = (X ++ [x]) ++ S := by rw [hD]; simp
    have ih := ih f (X ++ [x]) hD2 (by omega)
    rw [List.filter_append, List.filter_append, List.length_append, List.length_append, List.length_singleton] at ih
    have hiR : (X.length : Int) < H + R - 1 := by omega
    apply wp_eq
    rw [f_X10_numberOf_11, wp_ck_t k0, m0, m1, J_add, show (1 : Int32) = J 1 from rfl, J_sub, wp_ite_t (by rw [J_lt (by omega) (by omega) (by omega) (by omega)]; omega), hdg, wp_bind, wp_some]
    rcases hx with hx | hx
    · have hx8 : x ≠ 8 := by omega
      have e8 : [x].filter (fun x => x == 8) = [] := by simp [hx8]
      have el : [x].filter (fun x => decide (x < 8)) = [x] := by simp; omega
      rw [e8, el, List.length_nil, Nat.add_zero, sm_app, sm_cons, sm_nil, ss_snoc] at ih
      have ndX : (X.filter fun x => decide (x < 8)).Nodup := by
        rw [hD, List.filter_append, List.nodup_append] at nd; exact nd.1
      have hxX : x ∉ X := low_not (show x < 8 by omega) (fun q => by
        rw [hD, List.filter_append, List.nodup_append] at nd
        exact nd.2.2 x q x (List.mem_filter.mpr ⟨List.mem_cons_self, by simp; omega⟩) rfl)
      have hps : ps x D = (X.filter fun x => x == 8).length + ((X.filter fun x => decide (x < 8)).filter fun y => decide (y < x)).length := by
        rw [hD, ps_mid hxX, res_len (by omega)]
      have hcl : ((cl 8 (ss (X.filter fun x => decide (x < 8)))).filter fun y => decide (y < x)).length = ((X.filter fun x => decide (x < 8)).filter fun y => decide (y < x)).length :=
        ((cl_perm ndX (fun y hy => by simpa using (List.mem_filter.mp hy).2)).filter _).length_eq
      rw [cl_low] at hcl
      have hs8 : ss (X.filter fun x => decide (x < 8)) < 2 ^ 8 := ss_lt (fun y hy => by simpa using (List.mem_filter.mp hy).2)
      generalize hsX : ss (X.filter fun x => decide (x < 8)) = sX at *
      have hmod : sX % 2 ^ x ≤ sX := Nat.mod_le _ _
      have eB := pc_ok' (Γ := Γ) (M := M) (S := sX % 2 ^ x) (by omega)
      have e1t := J_1top (p := 2 ^ x) (h := x) rfl (by omega)
      have eA : J (sX : Nat) &&& (J ((2 ^ x : Nat) : Int) - J 1) = J ((sX % 2 ^ x : Nat) : Int) := by
        have h0 : 0 < 2 ^ x := Nat.pow_pos (by decide)
        rw [J_sub, show (((2 ^ x : Nat) : Int) - 1) = ((2 ^ x - 1 : Nat) : Int) by rw [Int.ofNat_sub (by omega)]; rfl, J_and, Nat.and_two_pow_sub_one_eq_mod]
      have eu := hu x hx
      rw [wp_ite_t (by rw [J_lt (by omega) (by omega) (by omega) (by omega)]; omega), show (31 : Int32) = J 31 from rfl, e1t, eA]
      dsimp only
      rw [r2, wp_ck_t k1, n1, J_toInt (by omega) (by omega), wp_ck_t (by omega), eB, wp_bind, wp_some, J_clamp (by omega) (by omega), Int.toNat_natCast, eu, f_X10_numberOf_89, J_or, J_add, J_mul, J_add, show (1 : Int32) = J 1 from rfl, J_add, J_suc]
      rw [hcl]
      have e5 : ((sm (fun h => ways R h * ps h D) (X.filter fun x => decide (x < 8)) : Nat) : Int) + ((ways R x : Nat) : Int) * (((X.filter fun x => x == 8).length : Nat) + (((X.filter fun x => decide (x < 8)).filter fun y => decide (y < x)).length : Nat)) = ((sm (fun h => ways R h * ps h D) (X.filter fun x => decide (x < 8)) + (ways R x * ps x D + 0) : Nat) : Int) := by
        rw [hps]; simp
      rw [e5, ih, wp_some]
    · subst hx
      have e8 : [8].filter (fun x => x == 8) = [8] := rfl
      have el : [8].filter (fun x => decide (x < 8)) = [] := rfl
      rw [e8, el, List.append_nil, List.length_singleton] at ih
      rw [wp_ite_f (by rw [J_lt (by omega) (by omega) (by omega) (by omega)]; omega)]
      dsimp only
      rw [f_X10_numberOf_89, show (1 : Int32) = J 1 from rfl, J_add, J_add, J_suc, J_suc, ih, wp_some]
theorem c_stNum (hs : NSh Γ M n) (hN : NT M n R H) (hR : R ≤ 5) (hH : H ≤ 6) (hRH : 0 < H → 0 < R) {L : Ar} (wL : WA R H L) : f_X10_numberOf Γ M n (jl (wn L)) = some (J (nm R H L : Nat)) := by
  have := c_num11 (D := dgs L) hR hH hRH hs.1 hs.2.1.1 hs.2.1.2 hs.2.2.2.2.1 hN.1 hN.2.1 hN.2.2.1 (dgs_DW wL hRH) (dgs_16 wL (by omega)) (dgs L) rhFU [] rfl (by have := dgs_len wL; have := FU_big; omega)
  rw [f_X10_numberOf]; exact this
end
theorem dg_app : ∀ a b : List Nat, dg (a ++ b) = dg a + 2 ^ (4 * a.length) * dg b
  | [], b => by simp [dg]
  | x :: a, b => by
    have ih := dg_app a b
    rw [List.cons_append, dg, dg, ih, List.length_cons, show 4 * (a.length + 1) = 4 + 4 * a.length by omega, Nat.pow_add, Nat.mul_add, Nat.mul_assoc]
    rw [show (2 : Nat) ^ 4 = 16 by decide]; omega
theorem jl_xor (a b : Nat) : jl a ^^^ jl b = jl (a ^^^ b) := by
  apply Int64.toBitVec_inj.1
  show BitVec.ofNat 64 a ^^^ BitVec.ofNat 64 b = BitVec.ofNat 64 (a ^^^ b)
  apply BitVec.eq_of_getLsbD_eq
  intro i hi
  rw [BitVec.getLsbD_xor, BitVec.getLsbD_ofNat, BitVec.getLsbD_ofNat, BitVec.getLsbD_ofNat, Nat.testBit_xor]
  simp [hi]
theorem jl_small : ∀ h, h < 16 → (J (h : Nat)).toInt64 = jl h := by decide +kernel
theorem xor_low (w k : Nat) : w ^^^ (w % 2 ^ k) = w / 2 ^ k * 2 ^ k := by
  apply Nat.eq_of_testBit_eq
  intro i
  rw [Nat.testBit_xor, Nat.testBit_mod_two_pow, Nat.testBit_mul_two_pow, Nat.testBit_div_two_pow]
  by_cases c : i < k
  · have e1 : decide (i < k) = true := by simpa using c
    have e2 : decide (k ≤ i) = false := by simp; omega
    rw [e1, e2]; simp
  · have e1 : decide (i < k) = false := by simpa using c
    have e2 : decide (k ≤ i) = true := by simp; omega
    rw [e1, e2, show i - k + k = i by omega]; simp
theorem dg_split {l : List Nat} {p : Nat} (h : ∀ x, x ∈ l → x < 16) (hp : p ≤ l.length) : dg l % 2 ^ (4 * p) = dg (l.take p) ∧ dg l / 2 ^ (4 * p) = dg (l.drop p) := by
  have e : dg l = dg (l.take p) + 2 ^ (4 * p) * dg (l.drop p) := by
    have := dg_app (l.take p) (l.drop p)
    rw [List.take_append_drop, List.length_take, Nat.min_eq_left hp] at this; exact this
  have hlt : dg (l.take p) < 2 ^ (4 * p) := by
    have := dg_lt (l := l.take p) (fun x hx => h x (List.mem_of_mem_take hx))
    rwa [List.length_take, Nat.min_eq_left hp] at this
  rw [e]
  exact ⟨by rw [Nat.add_mul_mod_self_left, Nat.mod_eq_of_lt hlt], by rw [Nat.add_mul_div_left _ _ (Nat.pow_pos (by decide)), Nat.div_eq_of_lt hlt, Nat.zero_add]⟩
/-- a digit put into a word -/
theorem ins_word {l : List Nat} {p h : Nat} (h16 : ∀ x, x ∈ l → x < 16) (hp : p ≤ l.length) (hh : h < 16) :
    ((dg l ^^^ dg l % 2 ^ (4 * p)) <<< 4 ||| h <<< (4 * p)) ||| dg l % 2 ^ (4 * p) = dg (insD p h l) := by
  obtain ⟨e1, e2⟩ := dg_split h16 hp
  have hlt : dg (l.take p) < 2 ^ (4 * p) := by rw [← e1]; exact Nat.mod_lt _ (Nat.pow_pos (by decide))
  rw [xor_low, e1, e2, Nat.shiftLeft_eq, Nat.shiftLeft_eq, Nat.or_assoc, or_add hlt]
  have h2 : h * 2 ^ (4 * p) + dg (l.take p) < 2 ^ (4 * p + 4) := by
    rw [Nat.pow_add]
    have : h * 2 ^ (4 * p) ≤ 15 * 2 ^ (4 * p) := Nat.mul_le_mul_right _ (by omega)
    generalize 2 ^ (4 * p) = q at *
    omega
  rw [show dg (l.drop p) * 2 ^ (4 * p) * 2 ^ 4 = dg (l.drop p) * 2 ^ (4 * p + 4) by rw [Nat.pow_add, Nat.mul_assoc], or_add h2, insD, dg_app, List.length_take, Nat.min_eq_left hp, dg, Nat.pow_add]
  generalize 2 ^ (4 * p) = q
  generalize dg (l.drop p) = z
  rw [Nat.mul_add, Nat.mul_comm q h, show (2 : Nat) ^ 4 = 16 by decide, Nat.mul_comm z, Nat.mul_comm q 16, Nat.mul_comm q (16 * z), Nat.mul_assoc, Nat.mul_assoc, Nat.mul_comm q z]
  omega
section
variable {Γ : rhG} {M : rhM} {n R H : Nat} {D : List Nat}
theorem c_wd39 (hR : R ≤ 4) (hH : H ≤ 6) (hRH : 0 < H → 0 < R) (k0 : Γ.2.2.1 n = 11) (m0 : M.1 n 0 = J H) (m1 : M.1 n 1 = J R) (w : DW R H D) (h16 : ∀ x, x ∈ D → x < 16) : ∀ (d f h : Nat), h + d = H → d < f →
    f_X10_wordOf_39 Γ M f n (jl (dg (res h D))) (J (tlF R (fun h => ps h D) h d : Nat)) (J h) = some (jl (dg D)) := by
  intro d
  induction d with
  | zero =>
    intro f h hd hf
    obtain ⟨f, rfl⟩ : ∃ k, f = k + 1 := ⟨f - 1, by omega⟩
    have e : h = H := by omega
    subst e
    apply wp_eq
    rw [f_X10_wordOf_39, wp_ck_t k0, m0, wp_ite_f (by rw [J_lt (by omega) (by omega) (by omega) (by omega)]; omega), wp_some, w.resH]
  | succ d ih =>
    intro f h hd hf
    obtain ⟨f, rfl⟩ : ∃ k, f = k + 1 := ⟨f - 1, by omega⟩
    have hR0 := hRH (by omega)
    obtain ⟨i1, i2⟩ := w.ins (show H ≤ 8 by omega) (h := h) (by omega)
    have hlen := w.reslen (show H ≤ 8 by omega) h (by omega)
    have hpl := w.ps_lt (show H ≤ 8 by omega) hRH (h := h) (by omega)
    have htl := tlF_lt R (fun h => ps h D) (d + 1) h (fun j _ hj => w.ps_lt (by omega) hRH (by omega))
    have hwp := ways_p1 hR0 h
    have hwm := ways_max (R := R) (H := H) hR hH
    have hb : tlF R (fun h => ps h D) h (d + 1) < 60480 := by
      rw [show h + (d + 1) = H by omega] at htl
      have := Nat.le_mul_of_pos_right (tlF R (fun h => ps h D) h (d + 1) + 1) hwp
      omega
    have hdm : tlF R (fun h => ps h D) h (d + 1) / (R + h) = tlF R (fun h => ps h D) (h + 1) d := by
      rw [tlF, Nat.add_mul_div_left _ _ (by omega), Nat.div_eq_of_lt hpl, Nat.zero_add]
    have hmm : tlF R (fun h => ps h D) h (d + 1) = ps h D + tlF R (fun h => ps h D) (h + 1) d * (R + h) := by rw [tlF, Nat.mul_comm (R + h)]
    have ih := ih f (h + 1) (by omega) (by omega)
    rw [← i1] at ih
    have r16 : ∀ x, x ∈ res h D → x < 16 := fun x hx => h16 x (res_mem.mp hx).1
    have hins := ins_word r16 i2 (show h < 16 by omega)
    generalize tlF R (fun h => ps h D) h (d + 1) = rest at *
    generalize tlF R (fun h => ps h D) (h + 1) d = rest2 at *
    generalize hp : ps h D = p at *
    generalize hl : res h D = l at *
    have e8 : (if J R + J (h : Nat) < 1 then (1 : Int32) else J R + J (h : Nat)) = J ((R + h : Nat) : Int) := by
      rw [J_add, if_neg (by rw [show (1 : Int32) = J 1 from rfl, J_lt (by omega) (by omega) (by omega) (by omega)]; omega)]; rfl
    have eq1 : J (rest : Nat) / J ((R + h : Nat) : Int) = J (rest2 : Nat) := by
      rw [J_divN (by omega) (by omega) (by omega) (by omega), show ((rest : Nat) : Int) / ((R + h : Nat) : Int) = ((rest / (R + h) : Nat) : Int) by simp, hdm]
    have eq2 : (4 : Int32) * (J (rest : Nat) - J (rest2 : Nat) * J ((R + h : Nat) : Int)) = J ((4 * p : Nat) : Int) := by
      rw [J_mul, J_sub, show (4 : Int32) = J 4 from rfl, J_mul, hmm]
      congr 1
      rw [Int.natCast_add, Int.natCast_mul]; omega
    have h0 : 0 < 2 ^ (4 * p) := Nat.pow_pos (by decide)
    have hnz : ¬ J ((R + h : Nat) : Int) = 0 := by rw [show (0 : Int32) = J 0 from rfl, J_eq (by omega) (by omega) (by omega) (by omega)]; omega
    apply wp_eq
    rw [f_X10_wordOf_39, wp_ck_t k0, m0, m1, wp_ite_t (by rw [J_lt (by omega) (by omega) (by omega) (by omega)]; omega)]
    dsimp only
    rw [e8, wp_ck_t hnz, eq1, eq2, wp_ck_t hnz]
    rw [show (1 : Int64) = jl 1 from rfl, jl_shl 1 (by omega), Nat.shiftLeft_eq, Nat.one_mul, show jl (2 ^ (4 * p)) - jl 1 = jl (2 ^ (4 * p) - 1) from jl_pred h0, jl_and, Nat.and_two_pow_sub_one_eq_mod, jl_xor, show (4 : Int32) = J ((4 : Nat) : Int) from rfl, jl_shl _ (by omega), jl_small h (by omega), jl_shl _ (by omega), jl_or, jl_or, hins, show (1 : Int32) = J 1 from rfl, J_add, J_suc, ih, wp_some]
theorem c_wd5 (hR : R ≤ 4) (k33 : Nat → Int32 → Int64 → Option Int64) (k0 : Γ.2.2.1 n = 11) (m1 : M.1 n 1 = J R) {v : Int32} : ∀ (d f i : Nat), i + d = R - 1 → d < f → f_X10_wordOf_5 k33 Γ M f n v (jl (dg (List.replicate i 8))) (J i) = k33 n v (jl (dg (List.replicate (R - 1) 8))) := by
  intro d
  induction d with
  | zero =>
    intro f i hd hf
    obtain ⟨f, rfl⟩ : ∃ k, f = k + 1 := ⟨f - 1, by omega⟩
    rw [f_X10_wordOf_5, rhck_t k0, m1, show (1 : Int32) = J 1 from rfl, J_sub, if_neg (by rw [J_lt (by omega) (by omega) (by omega) (by omega)]; omega), show i = R - 1 by omega]
  | succ d ih =>
    intro f i hd hf
    obtain ⟨f, rfl⟩ : ∃ k, f = k + 1 := ⟨f - 1, by omega⟩
    have hlt : dg (List.replicate i 8) < 2 ^ (4 * i) := by
      have := dg_lt (l := List.replicate i 8) (fun x hx => by rw [(List.mem_replicate.mp hx).2]; decide)
      rwa [List.length_replicate] at this
    have e : dg (List.replicate i 8) ||| 8 <<< (4 * i) = dg (List.replicate (i + 1) 8) := by
      rw [Nat.or_comm, Nat.shiftLeft_eq, or_add hlt, List.replicate_succ', dg_app, List.length_replicate, dg, dg, Nat.mul_comm (2 ^ (4 * i))]
      omega
    rw [f_X10_wordOf_5, rhck_t k0, m1, show (1 : Int32) = J 1 from rfl, J_sub, if_pos (by rw [J_lt (by omega) (by omega) (by omega) (by omega)]; omega)]
    dsimp only
    rw [show (4 : Int32) = J 4 from rfl, J_mul, show ((4 : Int) * (i : Nat)) = ((4 * i : Nat) : Int) by omega, show (8 : Int64) = jl 8 from rfl, jl_shl 8 (by omega), jl_or, e, J_add, J_suc]
    exact ih f (i + 1) (by omega) (by omega)
theorem c_stWord (hs : NSh Γ M n) (hN : NT M n R H) (hR : R ≤ 4) (hH : H ≤ 6) (hRH : 0 < H → 0 < R) {L : Ar} (wL : WA R H L) : f_X10_wordOf Γ M n (J (nm R H L : Nat)) = some (jl (wn L)) := by
  have w := dgs_DW wL hRH
  rw [f_X10_wordOf]
  rw [show (0 : Int64) = jl (dg (List.replicate 0 8)) from rfl, show (0 : Int32) = J ((0 : Nat) : Int) from rfl, c_wd5 hR _ hs.1 hN.2.1 (R - 1) rhFU 0 (by omega) (by have := FU_big; omega), f_X10_wordOf_33, ← w.res0 (by omega)]
  have := c_wd39 hR hH hRH hs.1 hN.1 hN.2.1 w (dgs_16 wL (by omega)) H rhFU 0 (by omega) (by have := FU_big; omega)
  rw [← nm_tl] at this
  exact this
end
