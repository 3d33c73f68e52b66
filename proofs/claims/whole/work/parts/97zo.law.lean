/-! THE LAW'S LOOP -/
section
variable {Q : Int32 × rhG × rhM → Prop}
theorem REL.gk {Γ : rhG} {M : rhM} (h : REL Γ M) : GK Γ := by obtain ⟨T, L, bs, tm, gl, ly, bn, tl, bx, sg, fk, fp, t, t', h1, -⟩ := h; exact h1
theorem REL.fit {Γ : rhG} {M : rhM} (h : REL Γ M) : Γ.1 ≤ 60000 ∧ Γ.2.1 ≤ 8922250 := by
  obtain ⟨T, L, bs, tm, gl, ly, bn, tl, bx, sg, fk, fp, t, t', -, -, hc, -⟩ := h
  have := hc.2.2.2.2.2.2.2.2.2.2.2.2.2.len
  exact ⟨this.2.1, this.2.2.1⟩
theorem fin2 {Γ : rhG} (hk : Γ.2.2.1 102 = 13) {A : Option (Int32 × rhM)} {B : rhM → Option (Int32 × rhM)} {K : rhM → Option (Int32 × rhG × rhM)} (h : wp A (fun x => wp (B x.2) (fun y => x.1 = y.1 ∧ REL Γ y.2))) (hK : ∀ M, REL Γ M → wp (K M) Q) : wp (A.bind fun r => rhck (Γ.2.2.1 102 = 13) ((B r.2).bind fun s => if r.1 = s.1 then K s.2 else some (0, Γ, s.2))) Q := by
  rw [wp_bind]
  refine h.mono (fun x hx => ?_)
  rw [wp_ck_t hk, wp_bind]
  refine hx.mono (fun y hy => ?_)
  rw [wp_ite_t hy.1]
  exact hK _ hy.2
theorem fin2g {A : Option (Int32 × rhG × rhM)} {B : rhG → rhM → Option (Int32 × rhM)} {K : rhG → rhM → Option (Int32 × rhG × rhM)} (h : wp A (fun x => wp (B x.2.1 x.2.2) (fun y => x.1 = y.1 ∧ REL x.2.1 y.2))) (hK : ∀ Γ M, REL Γ M → wp (K Γ M) Q) : wp (A.bind fun r => rhck (r.2.1.2.2.1 102 = 13) ((B r.2.1 r.2.2).bind fun s => if r.1 = s.1 then K r.2.1 s.2 else some (0, r.2.1, s.2))) Q := by
  rw [wp_bind]
  refine h.mono (fun x hx => ?_)
  have hg : GK x.2.1 := by obtain ⟨y, -, -, hr⟩ := hx; exact hr.gk
  rw [wp_ck_t (GKk102 hg), wp_bind]
  refine hx.mono (fun y hy => ?_)
  rw [wp_ite_t hy.1]
  exact hK _ _ hy.2
theorem fin1 {Γ : rhG} (hk : Γ.2.2.1 102 = 13) {M : rhM} {A : Option Int32} {B : Option Int32} {K : Option (Int32 × rhG × rhM)} (h : ∃ v, A = some v ∧ B = some v) (hK : wp K Q) : wp (A.bind fun r => rhck (Γ.2.2.1 102 = 13) (B.bind fun s => if r = s then K else some (0, Γ, M))) Q := by
  obtain ⟨v, h1, h2⟩ := h
  rw [h1, wp_bind, wp_some, wp_ck_t hk, h2, wp_bind, wp_some, wp_ite_t rfl]
  exact hK
theorem fins {Γ : rhG} (hk : Γ.2.2.1 102 = 13) {A : Option Int32} {B : Option (Int32 × rhM)} {K : rhM → Option (Int32 × rhG × rhM)} (h : ∃ v, A = some v ∧ wp B (fun y => v = y.1 ∧ REL Γ y.2)) (hK : ∀ M, REL Γ M → wp (K M) Q) : wp (A.bind fun r => rhck (Γ.2.2.1 102 = 13) (B.bind fun s => if r = s.1 then K s.2 else some (0, Γ, s.2))) Q := by
  obtain ⟨v, h1, h2⟩ := h
  rw [h1, wp_bind, wp_some, wp_ck_t hk, wp_bind]
  refine h2.mono (fun y hy => ?_)
  rw [wp_ite_t hy.1]
  exact hK _ hy.2
set_option maxHeartbeats 4000000 in
theorem law_loop {Lx : Nat} (hL : Lx ≤ 3072) (xs : Nat → Int32) (hTown : ∀ Γ M, REL Γ M → wp (f_X11_town Γ M 1) (fun x => wp (f_X12_town Γ x.2 102) (fun y => x.1 = y.1 ∧ REL Γ y.2))) : ∀ (d n : Nat) (Γ : rhG) (M : rhM) (v : Nat), REL Γ M → v ≤ Lx → Lx ≤ v + 6 * d + 5 → d < n → wp (f_L_law_18 Lx xs n Γ M 1 102 (J v)) (fun r => r.1 = 1 ∧ r.2.1.1 ≤ 60000 ∧ r.2.1.2.1 ≤ 8922250) := by
  intro d
  induction d with
  | zero =>
    intro n Γ M v hr hvL hv hn
    obtain ⟨n, rfl⟩ : ∃ k, n = k + 1 := ⟨n - 1, by omega⟩
    rw [f_L_law_18, show Int32.ofNat Lx = J Lx from Int32.ofInt_eq_ofNat.symm, show (6 : Int32) = J 6 from rfl, J_sub, wp_ite_t (by rw [J_lt (by omega) (by omega) (by omega) (by omega)]; omega), wp_some]
    exact ⟨rfl, hr.fit.1, hr.fit.2⟩
  | succ d ih =>
    intro n Γ M v hr hvL hv hn
    obtain ⟨n, rfl⟩ : ∃ k, n = k + 1 := ⟨n - 1, by omega⟩
    have e6 : (J Lx : Int32) - 6 = J ((Lx : Int) - 6) := by rw [show (6 : Int32) = J 6 from rfl, J_sub]
    rw [f_L_law_18, show Int32.ofNat Lx = J Lx from Int32.ofInt_eq_ofNat.symm, e6]
    by_cases c : (Lx : Int) - 6 < v
    · rw [wp_ite_t (by rw [J_lt (by omega) (by omega) (by omega) (by omega)]; exact c), wp_some]
      exact ⟨rfl, hr.fit.1, hr.fit.2⟩
    have hnext : ∀ Γ M, REL Γ M → wp (f_L_law_1051 Lx xs (f_L_law_18 Lx xs n) Γ M 1 102 (J v)) (fun r => r.1 = 1 ∧ r.2.1.1 ≤ 60000 ∧ r.2.1.2.1 ≤ 8922250) := fun Γ M h => by
      rw [f_L_law_1051, show (6 : Int32) = J 6 from rfl, J_add, show (v : Int) + 6 = ((v + 6 : Nat) : Int) by omega]
      exact ih n Γ M (v + 6) h (by omega) (by omega) (by omega)
    have hG := hr.gk
    have k1 := GKk1 hG
    have k102 := GKk102 hG
    have cv : (J (v : Int)).toNatClampNeg = v := by rw [J_clamp (by omega) (by omega), Int.toNat_natCast]
    have rv : 0 ≤ (J (v : Int)).toInt ∧ (J (v : Int)).toInt < (Lx : Nat) := by rw [J_toInt (by omega) (by omega)]; omega
    have e1 : (J v : Int32) + 1 = J ((v + 1 : Nat) : Int) := by rw [show (1 : Int32) = J 1 from rfl, J_add]; rfl
    have e2 : (J v : Int32) + 2 = J ((v + 2 : Nat) : Int) := by rw [show (2 : Int32) = J 2 from rfl, J_add]; rfl
    have e3 : (J v : Int32) + 3 = J ((v + 3 : Nat) : Int) := by rw [show (3 : Int32) = J 3 from rfl, J_add]; rfl
    have e4 : (J v : Int32) + 4 = J ((v + 4 : Nat) : Int) := by rw [show (4 : Int32) = J 4 from rfl, J_add]; rfl
    have e5 : (J v : Int32) + 5 = J ((v + 5 : Nat) : Int) := by rw [show (5 : Int32) = J 5 from rfl, J_add]; rfl
    have q : ∀ i, i ≤ 5 → (0 ≤ (J ((v + i : Nat) : Int)).toInt ∧ (J ((v + i : Nat) : Int)).toInt < (Lx : Nat)) ∧ (J ((v + i : Nat) : Int)).toNatClampNeg = v + i := fun i hi => by rw [J_clamp (a := ((v + i : Nat) : Int)) (by omega) (by omega), Int.toNat_natCast]; exact ⟨by rw [J_toInt (by omega) (by omega)]; omega, rfl⟩
    obtain ⟨q1, d1⟩ := q 1 (by omega)
    obtain ⟨q2, d2⟩ := q 2 (by omega)
    obtain ⟨q3, d3⟩ := q 3 (by omega)
    obtain ⟨q4, d4⟩ := q 4 (by omega)
    obtain ⟨q5, d5⟩ := q 5 (by omega)
    rw [wp_ite_f (by rw [J_lt (by omega) (by omega) (by omega) (by omega)]; exact c), wp_ck_t rv, cv, e1, e2, e3, e4, e5, d1, d2, d3, d4, d5]
    obtain ⟨T, L, bs, tm, gl, ly, bn, tl, bx, sg, fk, fp, t, t', -, hP, hc, hrr⟩ := id hr
    obtain ⟨x1, hx1⟩ : ∃ x, xs (v + 1) = x := ⟨_, rfl⟩
    obtain ⟨x2, hx2⟩ : ∃ x, xs (v + 2) = x := ⟨_, rfl⟩
    obtain ⟨x3, hx3⟩ : ∃ x, xs (v + 3) = x := ⟨_, rfl⟩
    obtain ⟨x4, hx4⟩ : ∃ x, xs (v + 4) = x := ⟨_, rfl⟩
    obtain ⟨x5, hx5⟩ : ∃ x, xs (v + 5) = x := ⟨_, rfl⟩
    rw [hx1, hx2, hx3, hx4, hx5]
    by_cases o0 : xs v &&& 31 = 0
    · rw [wp_ite_t o0, wp_ck_t q1, wp_ck_t q2, wp_ck_t q3, wp_ck_t q4, wp_ck_t q5, wp_ck_t k1]
      have h := op_feed hG hP hc hrr x1 x2 x3 x4 x5
      exact fin2 (B := fun M' => f_X12_feed Γ M' 102 x1 x2 x3 x4 x5) (K := fun M' => f_L_law_1051 Lx xs (f_L_law_18 Lx xs n) Γ M' 1 102 (J v)) k102 h (hnext Γ)
    rw [wp_ite_f o0]
    by_cases o1 : xs v &&& 31 = 1
    · rw [wp_ite_t o1, wp_ck_t q1, wp_ck_t k1]
      have h := op_end hG hP hc hrr (fb_rng' x1).1 (fb_rng' x1).2
      simp only [J_of] at h
      exact fin2 (B := fun M' => f_X12_end Γ M' 102 x1) (K := fun M' => f_L_law_1051 Lx xs (f_L_law_18 Lx xs n) Γ M' 1 102 (J v)) k102 h (hnext Γ)
    rw [wp_ite_f o1]
    by_cases o2 : xs v &&& 31 = 2
    · rw [wp_ite_t o2, wp_ck_t k1]
      have h := hTown Γ M hr
      exact fin2 (B := fun M' => f_X12_town Γ M' 102 ) (K := fun M' => f_L_law_1051 Lx xs (f_L_law_18 Lx xs n) Γ M' 1 102 (J v)) k102 h (hnext Γ)
    rw [wp_ite_f o2]
    by_cases o3 : xs v &&& 31 = 3
    · rw [wp_ite_t o3, wp_ck_t q1, wp_ck_t k1]
      have h := op_fault hG hP hc hrr (fb_rng' x1).1 (fb_rng' x1).2
      simp only [J_of] at h
      exact fin1 k102 h (hnext Γ M hr)
    rw [wp_ite_f o3]
    by_cases o4 : xs v &&& 31 = 4
    · rw [wp_ite_t o4, wp_ck_t q1, wp_ck_t q2, wp_ck_t k1]
      have h := op_on hG hP hc hrr (fb_rng' x1).1 (fb_rng' x1).2 (fb_rng' x2).1 (fb_rng' x2).2
      simp only [J_of] at h
      exact fin1 k102 h (hnext Γ M hr)
    rw [wp_ite_f o4]
    by_cases o5 : xs v &&& 31 = 5
    · rw [wp_ite_t o5, wp_ck_t q1, wp_ck_t q2, wp_ck_t k1]
      have h := op_where hG hP hc hrr (fb_rng' x1).1 (fb_rng' x1).2 (fb_rng' x2).1 (fb_rng' x2).2
      simp only [J_of] at h
      exact fins (K := fun M' => f_L_law_1051 Lx xs (f_L_law_18 Lx xs n) Γ M' 1 102 (J v)) k102 h (hnext Γ)
    rw [wp_ite_f o5]
    by_cases o6 : xs v &&& 31 = 6
    · rw [wp_ite_t o6, wp_ck_t q1, wp_ck_t k1]
      have h := op_room hG hP hc hrr (fb_rng' x1).1 (fb_rng' x1).2
      simp only [J_of] at h
      exact fins (K := fun M' => f_L_law_1051 Lx xs (f_L_law_18 Lx xs n) Γ M' 1 102 (J v)) k102 h (hnext Γ)
    rw [wp_ite_f o6]
    by_cases o7 : xs v &&& 31 = 7
    · rw [wp_ite_t o7, wp_ck_t q1, wp_ck_t q2, wp_ck_t q3, wp_ck_t k1]
      have h := op_asked hG hP hc hrr (fb_rng' x1).1 (fb_rng' x1).2 (fb_rng' x2).1 (fb_rng' x2).2 (fb_rng' x3).1 (fb_rng' x3).2
      simp only [J_of] at h
      exact fin2 (B := fun M' => f_X12_asked Γ M' 102 x1 x2 x3) (K := fun M' => f_L_law_1051 Lx xs (f_L_law_18 Lx xs n) Γ M' 1 102 (J v)) k102 h (hnext Γ)
    rw [wp_ite_f o7]
    by_cases o8 : xs v &&& 31 = 8
    · rw [wp_ite_t o8, wp_ck_t q1, wp_ck_t q2, wp_ck_t q3, wp_ck_t k1]
      have h := op_lawful hG hP hc hrr (fb_rng' x1).1 (fb_rng' x1).2 (fb_rng' x2).1 (fb_rng' x2).2 (fb_rng' x3).1 (fb_rng' x3).2
      simp only [J_of] at h
      exact fin2 (B := fun M' => f_X12_lawful Γ M' 102 x1 x2 x3) (K := fun M' => f_L_law_1051 Lx xs (f_L_law_18 Lx xs n) Γ M' 1 102 (J v)) k102 h (hnext Γ)
    rw [wp_ite_f o8]
    by_cases o9 : xs v &&& 31 = 9
    · rw [wp_ite_t o9, wp_ck_t q1, wp_ck_t q2, wp_ck_t q3, wp_ck_t k1]
      have h := op_pull hG hP hc hrr (fb_rng' x1).1 (fb_rng' x1).2 (fb_rng' x2).1 (fb_rng' x2).2 (fb_rng' x3).1 (fb_rng' x3).2
      simp only [J_of] at h
      exact fin2 (B := fun M' => f_X12_pull Γ M' 102 x1 x2 x3) (K := fun M' => f_L_law_1051 Lx xs (f_L_law_18 Lx xs n) Γ M' 1 102 (J v)) k102 h (hnext Γ)
    rw [wp_ite_f o9]
    by_cases o10 : xs v &&& 31 = 10
    · rw [wp_ite_t o10, wp_ck_t q1, wp_ck_t k1]
      have h := op_undo hG hP hc hrr (fb_rng' x1).1 (fb_rng' x1).2
      simp only [J_of] at h
      exact fin2 (B := fun M' => f_X12_undo Γ M' 102 x1) (K := fun M' => f_L_law_1051 Lx xs (f_L_law_18 Lx xs n) Γ M' 1 102 (J v)) k102 h (hnext Γ)
    rw [wp_ite_f o10]
    by_cases o11 : xs v &&& 31 = 11
    · rw [wp_ite_t o11, wp_ck_t k1]
      have h := op_worth hG hP hc hrr 
      exact fins (K := fun M' => f_L_law_1051 Lx xs (f_L_law_18 Lx xs n) Γ M' 1 102 (J v)) k102 h (hnext Γ)
    rw [wp_ite_f o11]
    by_cases o12 : xs v &&& 31 = 12
    · rw [wp_ite_t o12, wp_ck_t q1, wp_ck_t q2, wp_ck_t q3, wp_ck_t k1]
      have h := op_tell hG hP hc hrr (fb_rng' x1).1 (fb_rng' x1).2 (fb_rng' x2).1 (fb_rng' x2).2 (fb_rng' x3).1 (fb_rng' x3).2
      simp only [J_of] at h
      exact fin2 (B := fun M' => f_X12_tell Γ M' 102 x1 x2 x3) (K := fun M' => f_L_law_1051 Lx xs (f_L_law_18 Lx xs n) Γ M' 1 102 (J v)) k102 h (hnext Γ)
    rw [wp_ite_f o12]
    by_cases o13 : xs v &&& 31 = 13
    · rw [wp_ite_t o13, wp_ck_t k1]
      have h := op_hush hG hP hc hrr 
      exact fin2 (B := fun M' => f_X12_hush Γ M' 102 ) (K := fun M' => f_L_law_1051 Lx xs (f_L_law_18 Lx xs n) Γ M' 1 102 (J v)) k102 h (hnext Γ)
    rw [wp_ite_f o13]
    by_cases o14 : xs v &&& 31 = 14
    · rw [wp_ite_t o14, wp_ck_t q1, wp_ck_t k1]
      have h := op_judge hG hP hc hrr (fb_rng' x1).1 (fb_rng' x1).2
      simp only [J_of] at h
      exact fin2 (B := fun M' => f_X12_judge Γ M' 102 x1) (K := fun M' => f_L_law_1051 Lx xs (f_L_law_18 Lx xs n) Γ M' 1 102 (J v)) k102 h (hnext Γ)
    rw [wp_ite_f o14]
    by_cases o15 : xs v &&& 31 = 15
    · rw [wp_ite_t o15, wp_ck_t q1, wp_ck_t k1]
      have h := op_goal hG hP hc hrr (fb_rng' x1).1 (fb_rng' x1).2
      simp only [J_of] at h
      exact fin2 (B := fun M' => f_X12_goal Γ M' 102 x1) (K := fun M' => f_L_law_1051 Lx xs (f_L_law_18 Lx xs n) Γ M' 1 102 (J v)) k102 h (hnext Γ)
    rw [wp_ite_f o15]
    by_cases o16 : xs v &&& 31 = 16
    · rw [wp_ite_t o16, wp_ck_t k1]
      have h := op_open hG hP hc hrr 
      exact fin2 (B := fun M' => f_X12_open Γ M' 102 ) (K := fun M' => f_L_law_1051 Lx xs (f_L_law_18 Lx xs n) Γ M' 1 102 (J v)) k102 h (hnext Γ)
    rw [wp_ite_f o16]
    by_cases o17 : xs v &&& 31 = 17
    · rw [wp_ite_t o17, wp_ck_t k1]
      have h := op_fewest hG hP hc hrr 
      exact fin2g (B := fun Γ' M' => f_X12_fewest Γ' M' 102 ) (K := fun Γ' M' => f_L_law_1051 Lx xs (f_L_law_18 Lx xs n) Γ' M' 1 102 (J v)) h hnext
    rw [wp_ite_f o17]
    by_cases o18 : xs v &&& 31 = 18
    · rw [wp_ite_t o18, wp_ck_t k1]
      have h := op_least hG hP hc hrr 
      exact fin2g (B := fun Γ' M' => f_X12_least Γ' M' 102 ) (K := fun Γ' M' => f_L_law_1051 Lx xs (f_L_law_18 Lx xs n) Γ' M' 1 102 (J v)) h hnext
    rw [wp_ite_f o18]
    by_cases o19 : xs v &&& 31 = 19
    · rw [wp_ite_t o19, wp_ck_t q1, wp_ck_t k1]
      have h := op_richest hG hP hc hrr (fb_rng' x1).1 (fb_rng' x1).2
      simp only [J_of] at h
      exact fin2g (B := fun Γ' M' => f_X12_richest Γ' M' 102 x1) (K := fun Γ' M' => f_L_law_1051 Lx xs (f_L_law_18 Lx xs n) Γ' M' 1 102 (J v)) h hnext
    rw [wp_ite_f o19]
    by_cases o20 : xs v &&& 31 = 20
    · rw [wp_ite_t o20, wp_ck_t q1, wp_ck_t k1]
      have h := op_free hG hP hc hrr (fb_rng' x1).1 (fb_rng' x1).2
      simp only [J_of] at h
      exact fin2g (B := fun Γ' M' => f_X12_free Γ' M' 102 x1) (K := fun Γ' M' => f_L_law_1051 Lx xs (f_L_law_18 Lx xs n) Γ' M' 1 102 (J v)) h hnext
    rw [wp_ite_f o20]
    by_cases o21 : xs v &&& 31 = 21
    · rw [wp_ite_t o21, wp_ck_t q1, wp_ck_t q2, wp_ck_t k1]
      have h := op_spare hG hP hc hrr (fb_rng' x1).1 (fb_rng' x1).2 (fb_rng' x2).1 (fb_rng' x2).2
      simp only [J_of] at h
      exact fin2g (B := fun Γ' M' => f_X12_spare Γ' M' 102 x1 x2) (K := fun Γ' M' => f_L_law_1051 Lx xs (f_L_law_18 Lx xs n) Γ' M' 1 102 (J v)) h hnext
    rw [wp_ite_f o21]
    by_cases o22 : xs v &&& 31 = 22
    · rw [wp_ite_t o22, wp_ck_t q1, wp_ck_t k1]
      have h := op_lies hG hP hc hrr (fb_rng' x1).1 (fb_rng' x1).2
      simp only [J_of] at h
      exact fin1 k102 h (hnext Γ M hr)
    rw [wp_ite_f o22]
    by_cases o23 : xs v &&& 31 = 23
    · rw [wp_ite_t o23, wp_ck_t q1, wp_ck_t q2, wp_ck_t q3, wp_ck_t q4]
      have go : ∀ u : Nat, u < 2 → (if x4 = 0 then (0 : Int32) else 1) = J u → wp (f_L_law_820 Lx xs (f_L_law_1051 Lx xs (f_L_law_18 Lx xs n)) Γ M 1 102 (J v) 1 x1 x2 x3 (J u)) (fun r => r.1 = 1 ∧ r.2.1.1 ≤ 60000 ∧ r.2.1.2.1 ≤ 8922250) := fun u hu he => by
        have h := op_sight hG hP hc hrr (fb_rng' x1).1 (fb_rng' x1).2 (fb_rng' x2).1 (fb_rng' x2).2 (fb_rng' x3).1 (fb_rng' x3).2 hu
        simp only [J_of] at h
        rw [f_L_law_820, wp_ck_t k1, wp_bind]
        refine h.mono (fun x hx => ?_)
        rw [e1, e2, e3, e4, wp_ck_t q1, wp_ck_t q2, wp_ck_t q3, wp_ck_t q4, d1, d2, d3, d4, hx1, hx2, hx3, hx4]
        have h2 : wp (f_L_law_852 Lx xs (f_L_law_1051 Lx xs (f_L_law_18 Lx xs n)) Γ x.2 1 102 (J v) x.1 102 x1 x2 x3 (J u)) (fun r => r.1 = 1 ∧ r.2.1.1 ≤ 60000 ∧ r.2.1.2.1 ≤ 8922250) := by
          rw [f_L_law_852, wp_ck_t k102, wp_bind]
          refine hx.mono (fun y hy => ?_)
          rw [wp_ite_t hy.1]
          exact hnext Γ _ hy.2
        by_cases c4 : x4 = 0
        · rw [if_pos c4] at he
          rw [wp_ite_t c4]; rw [← he] at h2; exact h2
        · rw [if_neg c4] at he
          rw [wp_ite_f c4]; rw [← he] at h2; exact h2
      by_cases c4 : x4 = 0
      · rw [wp_ite_t c4]; exact go 0 (by omega) (by rw [if_pos c4]; rfl)
      · rw [wp_ite_f c4]; exact go 1 (by omega) (by rw [if_neg c4]; rfl)
    rw [wp_ite_f o23]
    by_cases o24 : xs v &&& 31 = 24
    · rw [wp_ite_t o24, wp_ck_t q1, wp_ck_t k1]
      have h := op_untell hG hP hc hrr (fb_rng' x1).1 (fb_rng' x1).2
      simp only [J_of] at h
      exact fin2 (B := fun M' => f_X12_untell Γ M' 102 x1) (K := fun M' => f_L_law_1051 Lx xs (f_L_law_18 Lx xs n) Γ M' 1 102 (J v)) k102 h (hnext Γ)
    rw [wp_ite_f o24]
    by_cases o25 : xs v &&& 31 = 25
    · rw [wp_ite_t o25, wp_ck_t q1, wp_ck_t k1]
      have h := op_later hG hP hc hrr (fb_rng' x1).1 (fb_rng' x1).2
      simp only [J_of] at h
      exact fin2 (B := fun M' => f_X12_later Γ M' 102 x1) (K := fun M' => f_L_law_1051 Lx xs (f_L_law_18 Lx xs n) Γ M' 1 102 (J v)) k102 h (hnext Γ)
    rw [wp_ite_f o25]
    by_cases o26 : xs v &&& 31 = 26
    · rw [wp_ite_t o26, wp_ck_t q1, wp_ck_t q2, wp_ck_t k1]
      have h := op_fits hG hP hc hrr (fb_rng' x1).1 (fb_rng' x1).2 (fb_rng' x2).1 (fb_rng' x2).2
      simp only [J_of] at h
      exact fin2 (B := fun M' => f_X12_fits Γ M' 102 x1 x2) (K := fun M' => f_L_law_1051 Lx xs (f_L_law_18 Lx xs n) Γ M' 1 102 (J v)) k102 h (hnext Γ)
    rw [wp_ite_f o26]
    by_cases o27 : xs v &&& 31 = 27
    · rw [wp_ite_t o27, wp_ck_t q1, wp_ck_t q2, wp_ck_t q3, wp_ck_t k1]
      have h := op_can hG hP hc hrr (fb_rng' x1).1 (fb_rng' x1).2 (fb_rng' x2).1 (fb_rng' x2).2 (fb_rng' x3).1 (fb_rng' x3).2
      simp only [J_of] at h
      exact fin2 (B := fun M' => f_X12_can Γ M' 102 x1 x2 x3) (K := fun M' => f_L_law_1051 Lx xs (f_L_law_18 Lx xs n) Γ M' 1 102 (J v)) k102 h (hnext Γ)
    rw [wp_ite_f o27]
    by_cases o28 : xs v &&& 31 = 28
    · rw [wp_ite_t o28, wp_ck_t q1, wp_ck_t k1]
      have h := op_image hG hP hc hrr (fb_rng' x1).1 (fb_rng' x1).2
      simp only [J_of] at h
      exact fin2g (B := fun Γ' M' => f_X12_image Γ' M' 102 x1) (K := fun Γ' M' => f_L_law_1051 Lx xs (f_L_law_18 Lx xs n) Γ' M' 1 102 (J v)) h hnext
    rw [wp_ite_f o28]
    by_cases o29 : xs v &&& 31 = 29
    · rw [wp_ite_t o29, wp_ck_t q1, wp_ck_t k1]
      have h := op_back hG hP hc hrr (fb_rng' x1).1 (fb_rng' x1).2
      simp only [J_of] at h
      exact fin2g (B := fun Γ' M' => f_X12_back Γ' M' 102 x1) (K := fun Γ' M' => f_L_law_1051 Lx xs (f_L_law_18 Lx xs n) Γ' M' 1 102 (J v)) h hnext
    rw [wp_ite_f o29]
    by_cases o30 : xs v &&& 31 = 30
    · rw [wp_ite_t o30, wp_ck_t q1, wp_ck_t k1]
      have h := op_about hG hP hc hrr (fb_rng' x1).1 (fb_rng' x1).2
      simp only [J_of] at h
      exact fin1 k102 h (hnext Γ M hr)
    rw [wp_ite_f o30]
    exact hnext Γ M hr
end
