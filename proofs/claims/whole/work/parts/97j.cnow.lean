/-! CLASS: CALLS ON THE STAND -/
theorem gd_el {α : Type} {a : List α} {n : Nat} (d : α) (h : n < a.length) : a.getD n d = a[n] := by simp [List.getD, h]
def canZ (T : Tn) (L : Ar) (a m b : Int) : Prop := 0 ≤ a ∧ 0 ≤ b ∧ 1 ≤ m ∧ canB T L a.toNat m.toNat b.toNat
def okZ (T : Tn) (L : Ar) (a m b : Int) : Prop := 0 ≤ a ∧ 0 ≤ b ∧ 1 ≤ m ∧ okP T L a.toNat m.toNat b.toNat
noncomputable def pick {α : Type} (p : Prop) (x y : α) : α := @ite α p (Classical.propDecidable p) x y
theorem pick_t {α : Type} {p : Prop} {x y : α} (h : p) : pick p x y = x := if_pos h
theorem pick_f {α : Type} {p : Prop} {x y : α} (h : ¬ p) : pick p x y = y := if_neg h
def onV (L : Ar) (a i : Int) : Int := if 0 ≤ a ∧ a < L.length ∧ 0 ≤ i ∧ i < (rl L a.toNat).length then ((rl L a.toNat).getD i.toNat 0 : Nat) else -1
def rlO (L : Ar) (h : Nat) : Nat := L.findIdx (fun x => decide (h ∈ x))
def ixO (L : Ar) (h : Nat) : Nat := (rl L (rlO L h)).idxOf h
def whV (L : Ar) (H : Nat) (h w : Int) : Int := if 0 ≤ h ∧ h < H ∧ (w = 0 ∨ w = 1) then (if w = 0 then rlO L h.toNat else ixO L h.toNat) else -1
def roomV (T : Tn) (L : Ar) (z : Int) : Int := if 0 ≤ z ∧ z < tR T then room T L z.toNat else -1
noncomputable def askV (T : Tn) (L : Ar) (a m b : Int) : Int32 := pick (canZ T L a m b) (comes T L a.toNat m.toNat b.toNat) (J (-1000000))
theorem rlO_eq {R H : Nat} {L : Ar} (wL : WA R H L) {q i h : Nat} (hq : q < R) (hi : i < (rl L q).length) (e : (rl L q).getD i 0 = h) : rlO L h = q ∧ ixO L h = i := by
  have hin : h ∈ rl L q := by rw [← e]; exact gd_mem 0 hi
  have hlen := wL.1
  have e1 : rlO L h = q := by
    unfold rlO
    have hlt : L.findIdx (fun x => decide (h ∈ x)) < L.length := by
      rw [List.findIdx_lt_length]
      exact ⟨rl L q, by rw [rl]; exact gd_mem [] (by omega), by simp [hin]⟩
    have h2 := List.findIdx_getElem (p := fun x => decide (h ∈ x)) (w := hlt)
    refine wL.uniq (h := h) (by omega) hq ?_ hin
    rw [rl, gd_el _ hlt]
    simpa using h2
  refine ⟨e1, ?_⟩
  unfold ixO
  rw [e1]
  have nd := wL.nd hq
  rw [← e, gd_el _ hi]
  exact nd.idxOf_getElem i hi
theorem rlO_ex {R H : Nat} {L : Ar} (wL : WA R H L) {h : Nat} (hh : h < H) : ∃ q i, q < R ∧ i < (rl L q).length ∧ (rl L q).getD i 0 = h ∧ rlO L h = q ∧ ixO L h = i := by
  have h1 : h ∈ fl [] L := wL.lt.mpr hh
  obtain ⟨x, hx, hx2⟩ := List.mem_flatMap.mp h1
  rw [List.nil_append] at hx2
  obtain ⟨q, hq, rfl⟩ := List.getElem_of_mem hx
  obtain ⟨i, hi, e⟩ := List.getElem_of_mem hx2
  have eq : rl L q = L[q] := by rw [rl, gd_el _ hq]
  have e2 : (rl L q).getD i 0 = h := by rw [eq, gd_el _ hi, e]
  have hi2 : i < (rl L q).length := by rw [eq]; exact hi
  have := rlO_eq wL (by rw [← wL.1]; exact hq) hi2 e2
  exact ⟨q, i, by rw [← wL.1]; exact hq, hi2, e2, this.1, this.2⟩
section
variable {Γ : rhG} {M : rhM} {t t' : Nat} {T : Tn} {L : Ar}
theorem SX33 (hG : GK Γ) (hC : CR M) : SX Γ M 33 := by
  unfold SX
  rw [show xb 33 = 165 from rfl]
  exact ⟨⟨GKk165 hG, GKl165 hG⟩, ⟨GKk166 hG, GKl166 hG⟩, ⟨GKk167 hG, GKl167 hG⟩, CR33_9 hC, CR33_10 hC, CR33_11 hC⟩
theorem SS33 (hG : GK Γ) (hC : CR M) : SS Γ M 33 := ⟨GKk33 hG, ⟨GKk34 hG, GKl34 hG⟩, ⟨GKk35 hG, GKl35 hG⟩, ⟨GKk36 hG, GKl36 hG⟩, ⟨GKk37 hG, GKl37 hG⟩, ⟨GKk38 hG, GKl38 hG⟩, ⟨GKk39 hG, GKl39 hG⟩, CR33_2 hC, CR33_3 hC, CR33_4 hC, CR33_5 hC, CR33_7 hC, CR33_8 hC, SX33 hG hC⟩
theorem SX40 (hG : GK Γ) (hC : CR M) : SX Γ M 40 := by
  unfold SX
  rw [show xb 40 = 168 from rfl]
  exact ⟨⟨GKk168 hG, GKl168 hG⟩, ⟨GKk169 hG, GKl169 hG⟩, ⟨GKk170 hG, GKl170 hG⟩, CR40_9 hC, CR40_10 hC, CR40_11 hC⟩
theorem SS40 (hG : GK Γ) (hC : CR M) : SS Γ M 40 := ⟨GKk40 hG, ⟨GKk41 hG, GKl41 hG⟩, ⟨GKk42 hG, GKl42 hG⟩, ⟨GKk43 hG, GKl43 hG⟩, ⟨GKk44 hG, GKl44 hG⟩, ⟨GKk45 hG, GKl45 hG⟩, ⟨GKk46 hG, GKl46 hG⟩, CR40_2 hC, CR40_3 hC, CR40_4 hC, CR40_5 hC, CR40_7 hC, CR40_8 hC, SX40 hG hC⟩
theorem TS11 (hG : GK Γ) (hC : CR M) : TSh Γ M 11 := ⟨GKk11 hG, ⟨GKk12 hG, GKl12 hG⟩, ⟨GKk13 hG, GKl13 hG⟩, ⟨GKk14 hG, GKl14 hG⟩, ⟨GKk15 hG, GKl15 hG⟩, ⟨GKk16 hG, GKl16 hG⟩, GKk17 hG, ⟨GKk18 hG, GKl18 hG⟩, ⟨GKk19 hG, GKl19 hG⟩, ⟨GKk20 hG, GKl20 hG⟩, ⟨GKk21 hG, GKl21 hG⟩,
  ⟨CR11_6 hC, CR11_7 hC, CR11_8 hC, CR11_9 hC, CR11_10 hC, CR11_11 hC⟩, CR17_2 hC, CR17_3 hC, CR17_4 hC, CR17_5 hC⟩
theorem TS22 (hG : GK Γ) (hC : CR M) : TSh Γ M 22 := ⟨GKk22 hG, ⟨GKk23 hG, GKl23 hG⟩, ⟨GKk24 hG, GKl24 hG⟩, ⟨GKk25 hG, GKl25 hG⟩, ⟨GKk26 hG, GKl26 hG⟩, ⟨GKk27 hG, GKl27 hG⟩, GKk28 hG, ⟨GKk29 hG, GKl29 hG⟩, ⟨GKk30 hG, GKl30 hG⟩, ⟨GKk31 hG, GKl31 hG⟩, ⟨GKk32 hG, GKl32 hG⟩,
  ⟨CR22_6 hC, CR22_7 hC, CR22_8 hC, CR22_9 hC, CR22_10 hC, CR22_11 hC⟩, CR28_2 hC, CR28_3 hC, CR28_4 hC, CR28_5 hC⟩
theorem C3.ts (h : C3 M t t' T) (hG : GK Γ) (hC : CR M) : TSh Γ M t := by
  rcases h.1 with ⟨e, -⟩ | ⟨e, -⟩
  · rw [e]; exact TS11 hG hC
  · rw [e]; exact TS22 hG hC
theorem C3.tt (h : C3 M t t' T) : t = 11 ∨ t = 22 := by rcases h.1 with ⟨e, -⟩ | ⟨e, -⟩ <;> simp [e]
theorem c_isRail (hG : GK Γ) (hC : CR M) (hT : C3 M t t' T) (hw : TWf T) {z : Int} (z1 : -2147483648 ≤ z) (z2 : z < 2147483648) : f_X11_isRail Γ M 1 (J z) = some (bi (0 ≤ z ∧ z < tR T)) := by
  have w1 := hw.1
  have h3 := hT.2.1
  have h0 := hT.2.2.2.1
  rw [f_X11_isRail]
  by_cases c : z < 0
  · rw [if_pos (by rw [show (0 : Int32) = J 0 from rfl, J_lt (by omega) (by omega) (by omega) (by omega)]; exact c), bi_f (by omega)]
  · rw [if_neg (by rw [show (0 : Int32) = J 0 from rfl, J_lt (by omega) (by omega) (by omega) (by omega)]; exact c), rhck_t (GKk1 hG), h3, rhck_t (hT.ts hG hC).1, h0]
    by_cases c2 : z < tR T
    · rw [if_pos (by rw [J_lt (by omega) (by omega) (by omega) (by omega)]; exact c2), bi_t (by omega)]
    · rw [if_neg (by rw [J_lt (by omega) (by omega) (by omega) (by omega)]; exact c2), bi_f (by omega)]
theorem c_isHouse (hG : GK Γ) (hC : CR M) (hT : C3 M t t' T) (hw : TWf T) {z : Int} (z1 : -2147483648 ≤ z) (z2 : z < 2147483648) : f_X11_isHouse Γ M 1 (J z) = some (bi (0 ≤ z ∧ z < tH T)) := by
  have w1 := hw.2.1
  have h3 := hT.2.1
  have h0 := hT.2.2.2.2.1
  rw [f_X11_isHouse]
  by_cases c : z < 0
  · rw [if_pos (by rw [show (0 : Int32) = J 0 from rfl, J_lt (by omega) (by omega) (by omega) (by omega)]; exact c), bi_f (by omega)]
  · rw [if_neg (by rw [show (0 : Int32) = J 0 from rfl, J_lt (by omega) (by omega) (by omega) (by omega)]; exact c), rhck_t (GKk1 hG), h3, rhck_t (hT.ts hG hC).1, h0]
    by_cases c2 : z < tH T
    · rw [if_pos (by rw [J_lt (by omega) (by omega) (by omega) (by omega)]; exact c2), bi_t (by omega)]
    · rw [if_neg (by rw [J_lt (by omega) (by omega) (by omega) (by omega)]; exact c2), bi_f (by omega)]
theorem c_unlike (hG : GK Γ) (hC : CR M) (hT : C3 M t t' T) (hw : TWf T) {a : Int} (a1 : -2147483648 ≤ a) (a2 : a < 2147483648) {b : Int} (b1 : -2147483648 ≤ b) (b2 : b < 2147483648) : f_X11_areUnlikeRails Γ M 1 (J a) (J b) = some (bi (0 ≤ a ∧ a < tR T ∧ 0 ≤ b ∧ b < tR T ∧ a ≠ b)) := by
  rw [f_X11_areUnlikeRails, rhck_t (GKk1 hG), c_isRail hG hC hT hw a1 a2, Option.bind_some]
  by_cases c : 0 ≤ a ∧ a < tR T
  · rw [bi_t c, if_neg (by decide), c_isRail hG hC hT hw b1 b2, Option.bind_some]
    by_cases c2 : 0 ≤ b ∧ b < tR T
    · rw [bi_t c2, if_neg (by decide)]
      by_cases c3 : a = b
      · rw [if_pos (by rw [c3]), bi_f (by omega)]
      · rw [if_neg (by rw [J_eq (by omega) (by omega) (by omega) (by omega)]; exact c3), bi_t (by omega)]
    · rw [bi_f c2, if_pos rfl, bi_f (by omega)]
  · rw [bi_f c, if_pos rfl, bi_f (by omega)]
theorem c_canBe (hG : GK Γ) (hC : CR M) (hT : C3 M t t' T) (hw : TWf T) {s : Nat} (hs : SS Γ M s) (hA : SA M s (tR T) L) (wL : WA (tR T) (tH T) L) {a : Int} (a1 : -2147483648 ≤ a) (a2 : a < 2147483648) {m : Int} (m1 : -2147483648 ≤ m) (m2 : m < 2147483648) {b : Int} (b1 : -2147483648 ≤ b) (b2 : b < 2147483648) : f_X11_canBeFrom Γ M 1 s (J a) (J m) (J b) = some (bi (canZ T L a m b)) := by
  have w1 := hw.1
  have w2 := hw.2.1
  rw [f_X11_canBeFrom, rhck_t (GKk1 hG), c_unlike hG hC hT hw a1 a2 b1 b2, Option.bind_some]
  by_cases c : 0 ≤ a ∧ a < tR T ∧ 0 ≤ b ∧ b < tR T ∧ a ≠ b
  · rw [bi_t c, if_neg (by decide)]
    obtain ⟨n, rfl⟩ : ∃ n : Nat, a = n := ⟨a.toNat, by omega⟩
    by_cases c2 : m < 1
    · rw [if_pos (by rw [show (1 : Int32) = J 1 from rfl, J_lt (by omega) (by omega) (by omega) (by omega)]; exact c2), bi_f (by unfold canZ; omega)]
    · rw [if_neg (by rw [show (1 : Int32) = J 1 from rfl, J_lt (by omega) (by omega) (by omega) (by omega)]; exact c2), rhck_t hs.1, c_count hs w1 w2 wL hA (by omega), Option.bind_some]
      have hl := wL.rl_len (r := n) (by omega)
      by_cases c3 : ((rl L n).length : Int) < m
      · rw [if_pos (by rw [J_lt (by omega) (by omega) (by omega) (by omega)]; exact c3), bi_f (by unfold canZ canB; rw [Int.toNat_natCast]; omega)]
      · rw [if_neg (by rw [J_lt (by omega) (by omega) (by omega) (by omega)]; exact c3), bi_t (by unfold canZ canB; rw [Int.toNat_natCast]; omega)]
  · rw [bi_f c, if_pos rfl, bi_f (by unfold canZ canB; omega)]
theorem canZ_nat {a m b : Int} (h : canZ T L a m b) : ∃ a' m' b' : Nat, a = a' ∧ m = m' ∧ b = b' ∧ canB T L a' m' b' := by
  obtain ⟨h1, h2, h3, h4⟩ := h
  exact ⟨a.toNat, m.toNat, b.toNat, by omega, by omega, by omega, h4⟩
theorem canZ_of {a m b : Nat} : canZ T L (a : Int) m b ↔ canB T L a m b := by
  unfold canZ; rw [Int.toNat_natCast, Int.toNat_natCast, Int.toNat_natCast]
  exact ⟨fun h => h.2.2.2, fun h => ⟨by omega, by omega, by have := h.2.2.2.1; omega, h⟩⟩
theorem okZ_of {a m b : Nat} : okZ T L (a : Int) m b ↔ okP T L a m b := by
  unfold okZ; rw [Int.toNat_natCast, Int.toNat_natCast, Int.toNat_natCast]
  exact ⟨fun h => h.2.2.2, fun h => ⟨by omega, by omega, by have := h.1.2.2.2.1; omega, h⟩⟩
theorem okZ_can {a m b : Int} (h : okZ T L a m b) : canZ T L a m b := ⟨h.1, h.2.1, h.2.2.1, h.2.2.2.1⟩
theorem c_sets (wL : WA (tR T) (tH T) L) {f m r : Nat} (hf : f < tR T) (hr : r < tR T) : ss (sg L f m) < 2 ^ tH T ∧ ss (rl L r) < 2 ^ tH T ∧ (cl (tH T) (ss (sg L f m))).Perm (sg L f m) ∧ (cl (tH T) (ss (rl L r))).Perm (rl L r) := by
  have h1 : ∀ x, x ∈ rl L r → x < tH T := fun x hx => wL.lt.mp (rl_sub hx)
  have h2 : ∀ x, x ∈ sg L f m → x < tH T := fun x hx => wL.lt.mp (rl_sub (List.mem_of_mem_drop hx))
  exact ⟨ss_lt h2, ss_lt h1, cl_perm (wL.sgnd hf) h2, cl_perm (wL.nd hr) h1⟩
theorem c_isLaw (hG : GK Γ) (hC : CR M) (hT : C3 M t t' T) (hw : TWf T) {s : Nat} (hs : SS Γ M s) (hA : SA M s (tR T) L) (wL : WA (tR T) (tH T) L) {a : Int} (a1 : -2147483648 ≤ a) (a2 : a < 2147483648) {m : Int} (m1 : -2147483648 ≤ m) (m2 : m < 2147483648) {b : Int} (b1 : -2147483648 ≤ b) (b2 : b < 2147483648) : wp (f_X11_isLawfulFrom Γ M 1 s (J a) (J m) (J b)) (fun r => r.1 = bi (okZ T L a m b) ∧ Fr [t + 9, t + 10] M r.2) := by
  have w1 := hw.1
  have w2 := hw.2.1
  rw [f_X11_isLawfulFrom, wp_ck_t (GKk1 hG), c_canBe hG hC hT hw hs hA wL a1 a2 m1 m2 b1 b2, wp_bind, wp_some]
  by_cases c : canZ T L a m b
  · rw [bi_t c, wp_ite_f (by decide)]
    obtain ⟨f, k, q, rfl, rfl, rfl, hc⟩ := canZ_nat c
    have hts := hT.ts hG hC
    obtain ⟨s1, s2, p1, p2⟩ := c_sets wL (m := k) hc.1 hc.2.1
    rw [wp_ck_t hs.1, c_last hs w1 w2 wL hA hc.1 hc.2.2.2.2, wp_bind, wp_some, hs.2.2.2.2.2.2.2.2.2.1, wp_ck_t hs.2.2.2.1.1, wp_ck_t (by rw [hs.2.2.2.1.2, J_toInt (by omega) (by omega)]; have := hc.2.1; omega), hT.2.1, wp_ck_t hts.1, wp_bind, J_clamp (by omega) (by omega), Int.toNat_natCast, (hA.2.2 q hc.2.1).2.2]
    refine (c_allows hts hT.2.2.2 hw s1 s2 hc.2.1).mono (fun r hr => ?_)
    rw [hr.1]
    have e : alw T f (cl (tH T) (ss (sg L f k))) q (cl (tH T) (ss (rl L q))) ↔ okZ T L (f : Int) k q := by
      rw [okZ_of, okP_alw, alw_perm T f q p1 p2]
      exact ⟨fun h => ⟨hc, h⟩, fun h => h.2⟩
    by_cases c2 : okZ T L (f : Int) k q
    · rw [bi_t (e.mpr c2), wp_ite_f (by decide), wp_some, bi_t c2]
      exact ⟨rfl, hr.2⟩
    · rw [bi_f (fun h => c2 (e.mp h)), wp_ite_t rfl, wp_some, bi_f c2]
      exact ⟨rfl, hr.2⟩
  · rw [bi_f c, wp_ite_t rfl, wp_some, bi_f (fun h => c (okZ_can h))]
    exact ⟨rfl, Fr.refl _ _⟩
theorem c_on (hG : GK Γ) (hC : CR M) (hT : C3 M t t' T) (hw : TWf T) (h4 : C4 M (tR T) L) (wL : WA (tR T) (tH T) L) {a : Int} (a1 : -2147483648 ≤ a) (a2 : a < 2147483648) {i : Int} (i1 : -2147483648 ≤ i) (i2 : i < 2147483648) : f_X11_on Γ M 1 (J a) (J i) = some (J (onV L a i)) := by
  have w1 := hw.1
  have w2 := hw.2.1
  have hs := SS33 hG hC
  unfold onV
  rw [wL.1, f_X11_on, rhck_t (GKk1 hG), c_isRail hG hC hT hw a1 a2, Option.bind_some]
  by_cases c : 0 ≤ a ∧ a < tR T
  · rw [bi_t c, if_neg (by decide)]
    obtain ⟨n, rfl⟩ : ∃ n : Nat, a = n := ⟨a.toNat, by omega⟩
    rw [Int.toNat_natCast]
    have hl := wL.rl_len (r := n) (by omega)
    by_cases c2 : i < 0
    · rw [if_pos (by rw [show (0 : Int32) = J 0 from rfl, J_lt (by omega) (by omega) (by omega) (by omega)]; exact c2), if_neg (by omega)]; rfl
    · rw [if_neg (by rw [show (0 : Int32) = J 0 from rfl, J_lt (by omega) (by omega) (by omega) (by omega)]; exact c2), CR1_5 hC, rhck_t (GKk33 hG), c_count hs w1 w2 wL h4 (by omega), Option.bind_some]
      by_cases c3 : i < ((rl L n).length : Int)
      · obtain ⟨k, rfl⟩ : ∃ k : Nat, i = k := ⟨i.toNat, by omega⟩
        rw [if_pos (by rw [J_lt (by omega) (by omega) (by omega) (by omega)]; exact c3), c_houseAt hs w1 w2 wL h4 (by omega) (by omega), Option.bind_some, if_pos (by omega), Int.toNat_natCast]
      · rw [if_neg (by rw [J_lt (by omega) (by omega) (by omega) (by omega)]; exact c3), if_neg (by omega)]; rfl
  · rw [bi_f c, if_pos rfl, if_neg (by omega)]; rfl
theorem c_ahead18 {R H : Nat} (hs : SS Γ M 33) (hR : R ≤ 5) (hH : H ≤ 8) (wL : WA R H L) (h4 : SA M 33 R L) {q i h : Nat} (hq : q < R) (hi : i < (rl L q).length) (e : (rl L q).getD i 0 = h) : ∀ (d n k : Nat), k + d = i → d < n → f_X7_aheadOf_18 Γ M n 33 (J h) (J q) (J k) (J k) = some (J i) := by
  have hl := wL.rl_len (r := q) hq
  have hh : ∀ j, j < (rl L q).length → (rl L q).getD j 0 < H := fun j hj => wL.lt.mp (rl_sub (gd_mem 0 hj))
  have nd := wL.nd hq
  intro d
  induction d with
  | zero =>
    intro n k hk hn
    obtain ⟨n, rfl⟩ : ∃ k, n = k + 1 := ⟨n - 1, by omega⟩
    rw [f_X7_aheadOf_18, rhck_t hs.1, c_count hs hR hH wL h4 hq, Option.bind_some, if_pos (by rw [J_lt (by omega) (by omega) (by omega) (by omega)]; omega), c_houseAt hs hR hH wL h4 hq (by omega), Option.bind_some, show k = i by omega, e, if_pos rfl]
  | succ d ih =>
    intro n k hk hn
    obtain ⟨n, rfl⟩ : ∃ k, n = k + 1 := ⟨n - 1, by omega⟩
    have a1 := hh k (by omega)
    have a2 := hh i hi
    rw [f_X7_aheadOf_18, rhck_t hs.1, c_count hs hR hH wL h4 hq, Option.bind_some, if_pos (by rw [J_lt (by omega) (by omega) (by omega) (by omega)]; omega), c_houseAt hs hR hH wL h4 hq (by omega), Option.bind_some, if_neg (by
      rw [J_eq (by omega) (by omega) (by omega) (by omega), ← e]
      intro hx
      have hx2 : (rl L q).getD k 0 = (rl L q).getD i 0 := by omega
      rw [gd_el _ hi, gd_el _ (show k < _ by omega)] at hx2
      have := (List.getElem_inj nd).mp hx2
      omega)]
    dsimp only
    rw [show (1 : Int32) = J 1 from rfl, J_add, J_suc]
    exact ih n (k + 1) (by omega) (by omega)
theorem c_where (hG : GK Γ) (hC : CR M) (hT : C3 M t t' T) (hw : TWf T) (h4 : C4 M (tR T) L) (wL : WA (tR T) (tH T) L) {h : Int} (h1 : -2147483648 ≤ h) (h2 : h < 2147483648) {w : Int} (w1 : -2147483648 ≤ w) (w2 : w < 2147483648) : f_X11_where Γ M 1 (J h) (J w) = some (J (whV L (tH T) h w)) := by
  have w1 := hw.1
  have w2' := hw.2.1
  have hs := SS33 hG hC
  unfold whV
  rw [f_X11_where, rhck_t (GKk1 hG), c_isHouse hG hC hT hw h1 h2, Option.bind_some]
  by_cases c : 0 ≤ h ∧ h < tH T
  · rw [bi_t c, if_neg (by decide)]
    obtain ⟨n, rfl⟩ : ∃ n : Nat, h = n := ⟨h.toNat, by omega⟩
    rw [Int.toNat_natCast]
    obtain ⟨q, i, hq, hi, e, e1, e2⟩ := rlO_ex wL (h := n) (by omega)
    have hro : f_X7_railOf Γ M 33 (J n) = some (J q) := by
      rw [f_X7_railOf]
      obtain ⟨v, v1, v2⟩ := c_railOf2 hs w1 w2' wL h4 (h := n) (by omega) (tR T) rhFU 0 (by omega) (by have := FU_big; omega) (by omega)
      rw [show ((0 : Nat) : Int) = 0 from rfl] at v1
      rw [show (0 : Int32) = J 0 from rfl, v1]
      rcases v2 with ⟨q', b1, b2, b3, b4⟩ | ⟨b1, b2⟩
      · rw [b4, wL.uniq b1 hq b2 (by rw [← e]; exact gd_mem 0 hi)]
      · exact absurd (by rw [← e]; exact gd_mem 0 hi) (b1 q hq)
    rw [e1, e2, CR1_5 hC, rhck_t (GKk33 hG)]
    by_cases c2 : w = 0
    · rw [if_pos (by rw [c2]; rfl), hro, Option.bind_some, if_pos (by omega), if_pos c2]
    · rw [if_neg (by rw [show (0 : Int32) = J 0 from rfl, J_eq (by omega) (by omega) (by omega) (by omega)]; exact c2)]
      by_cases c3 : w = 1
      · rw [if_pos (by rw [c3]; rfl), f_X7_aheadOf, rhck_t (GKk33 hG), rhck_t (GKk33 hG), hro, Option.bind_some, if_neg (by rw [show (-1 : Int32) = J (-1) from rfl, J_eq (by omega) (by omega) (by omega) (by omega)]; omega), if_pos (by omega), if_neg c2]
        have := c_ahead18 hs w1 w2' wL h4 hq hi e i rhFU 0 (by omega) (by have := FU_big; have := wL.rl_len (r := q) hq; omega)
        rw [show ((0 : Nat) : Int) = 0 from rfl] at this
        rw [show (0 : Int32) = J 0 from rfl, this, Option.bind_some]
      · rw [if_neg (by rw [show (1 : Int32) = J 1 from rfl, J_eq (by omega) (by omega) (by omega) (by omega)]; exact c3), if_neg (by omega)]; rfl
  · rw [bi_f c, if_pos rfl, if_neg (by omega)]; rfl
theorem c_room (hG : GK Γ) (hC : CR M) (hT : C3 M t t' T) (hw : TWf T) (h4 : C4 M (tR T) L) (wL : WA (tR T) (tH T) L) {z : Int} (z1 : -2147483648 ≤ z) (z2 : z < 2147483648) : f_X11_room Γ M 1 (J z) = some (J (roomV T L z)) := by
  have w1 := hw.1
  have hs := SS33 hG hC
  unfold roomV
  rw [f_X11_room, rhck_t (GKk1 hG), c_isRail hG hC hT hw z1 z2, Option.bind_some]
  by_cases c : 0 ≤ z ∧ z < tR T
  · rw [bi_t c, if_neg (by decide), if_pos c]
    obtain ⟨n, rfl⟩ : ∃ n : Nat, z = n := ⟨z.toNat, by omega⟩
    have hn : n < tR T := by omega
    obtain ⟨-, s2, -, p2⟩ := c_sets wL (m := 0) hn hn
    rw [CR1_5 hC, rhck_t (GKk33 hG), CR33_4 hC, rhck_t (GKk36 hG), rhck_t (by rw [GKl36 hG, J_toInt (by omega) (by omega)]; omega), hT.2.1, rhck_t (hT.ts hG hC).1, J_clamp (by omega) (by omega), Int.toNat_natCast, show M.1 36 n = J (ss (rl L n)) from (h4.2.2 n hn).2.2, c_roomBeside (hT.ts hG hC) hT.2.2.2 hw hn s2, Option.bind_some, sm_perm _ p2]
    rfl
  · rw [bi_f c, if_pos rfl, if_neg c]; rfl
theorem c_asked (hG : GK Γ) (hC : CR M) (hT : C3 M t t' T) (hw : TWf T) (h4 : C4 M (tR T) L) (wL : WA (tR T) (tH T) L) {a : Int} (a1 : -2147483648 ≤ a) (a2 : a < 2147483648) {m : Int} (m1 : -2147483648 ≤ m) (m2 : m < 2147483648) {b : Int} (b1 : -2147483648 ≤ b) (b2 : b < 2147483648) : wp (f_X11_asked Γ M 1 (J a) (J m) (J b)) (fun r => r.1 = askV T L a m b ∧ Fr [t + 9, t + 10] M r.2) := by
  have w1 := hw.1
  have w2 := hw.2.1
  have hs := SS33 hG hC
  unfold askV
  rw [f_X11_asked, wp_ck_t (GKk1 hG), CR1_5 hC, c_canBe hG hC hT hw hs h4 wL a1 a2 m1 m2 b1 b2, wp_bind, wp_some]
  by_cases c : canZ T L a m b
  · rw [bi_t c, wp_ite_f (by decide), pick_t c]
    obtain ⟨f, k, q, rfl, rfl, rfl, hc⟩ := canZ_nat c
    have hts := hT.ts hG hC
    obtain ⟨s1, s2, p1, p2⟩ := c_sets wL (m := k) hc.1 hc.2.1
    rw [wp_ck_t hs.1, c_last hs w1 w2 wL h4 hc.1 hc.2.2.2.2, wp_bind, wp_some, CR33_4 hC, wp_ck_t (GKk36 hG), wp_ck_t (by rw [GKl36 hG, J_toInt (by omega) (by omega)]; have := hc.2.1; omega), hT.2.1, wp_ck_t hts.1, wp_bind, J_clamp (by omega) (by omega), Int.toNat_natCast, Int.toNat_natCast, Int.toNat_natCast, show M.1 36 q = J (ss (rl L q)) from (h4.2.2 q hc.2.1).2.2]
    refine (c_asks hts hT.2.2.2 hw s1 s2 hc.2.1).mono (fun r hr => ?_)
    rw [wp_some, hr.1, comes_L T hc.2.2.2.2]
    exact ⟨comL_perm T f q p1 p2, hr.2⟩
  · rw [bi_f c, wp_ite_t rfl, wp_some, pick_f c]
    exact ⟨rfl, Fr.refl _ _⟩
theorem c_lawful (hG : GK Γ) (hC : CR M) (hT : C3 M t t' T) (hw : TWf T) (h4 : C4 M (tR T) L) (wL : WA (tR T) (tH T) L) {a : Int} (a1 : -2147483648 ≤ a) (a2 : a < 2147483648) {m : Int} (m1 : -2147483648 ≤ m) (m2 : m < 2147483648) {b : Int} (b1 : -2147483648 ≤ b) (b2 : b < 2147483648) : wp (f_X11_lawful Γ M 1 (J a) (J m) (J b)) (fun r => r.1 = bi (okZ T L a m b) ∧ Fr [t + 9, t + 10] M r.2) := by
  rw [f_X11_lawful, wp_ck_t (GKk1 hG), CR1_5 hC, wp_bind]
  refine (c_isLaw hG hC hT hw (SS33 hG hC) h4 wL a1 a2 m1 m2 b1 b2).mono (fun r hr => ?_)
  rcases bi_01 (okZ T L a m b) with h | h
  · rw [wp_ite_t (by rw [hr.1, h]), wp_some, h]; exact ⟨rfl, hr.2⟩
  · rw [wp_ite_f (by rw [hr.1, h]; decide), wp_some, h]; exact ⟨rfl, hr.2⟩
theorem c_worth (hG : GK Γ) (hC : CR M) (hT : C3 M t t' T) (hw : TWf T) (hRH : 0 < tH T → 0 < tR T) (h4 : C4 M (tR T) L) (wL : WA (tR T) (tH T) L) : f_X11_worth Γ M 1 = some (J (worth T L)) := by
  rw [f_X11_worth, rhck_t (GKk1 hG), CR1_5 hC, rhck_t (GKk33 hG), hT.2.1, rhck_t (hT.ts hG hC).1, h4.1, c_worthOf (hT.ts hG hC) hT.2.2.2 hw wL hRH, Option.bind_some]
end
