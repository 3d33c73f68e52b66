/-! CLASS: THE ROW THAT LIES -/
/-- the row to the state numbered x in Found, the last pull first -/
def Pth (M : rhM) (F cp : Nat) : Nat → List Nat → Prop
  | _, [] => True
  | x, cd :: r => x < cp ∧ ∃ par : Nat, par < 65536 ∧ cd < 512 ∧ M.2.1 (F + 3) x = jl (ld (r.length + 1) par cd) ∧ Pth M F cp par r
def PD (M : rhM) (F x n : Nat) : Prop := ∃ par cd : Nat, par < 65536 ∧ cd < 512 ∧ M.2.1 (F + 3) x = jl (ld n par cd)
theorem Pth.mv {M M' : rhM} {F cp : Nat} (h : M'.2.1 (F + 3) = M.2.1 (F + 3)) : ∀ {r : List Nat} {x : Nat}, Pth M F cp x r → Pth M' F cp x r
  | [], _, _ => trivial
  | cd :: r, x, ⟨a, par, b, c, d, e⟩ => ⟨a, par, b, c, by rw [h]; exact d, Pth.mv h e⟩
theorem PD.mv {M M' : rhM} {F x n : Nat} (h : M'.2.1 (F + 3) = M.2.1 (F + 3)) (hp : PD M F x n) : PD M' F x n := by
  unfold PD at *; rw [h]; exact hp
theorem PD.pulls {Γ : rhG} {M : rhM} {F x n cp : Nat} (h : PD M F x n) (hS : FSh Γ M F cp) (hcp : cp ≤ 60480) (hx : x < cp) (hn : n ≤ 60480) : f_X0_pullsTo Γ M F (J x) = some (J n) := by
  obtain ⟨par, cd, h1, h2, h3⟩ := h
  exact c_pullsTo hS hcp hx hn h1 h2 h3
section
variable {M : rhM} {F cp : Nat} {T : Tn} {L0 : Ar}
theorem Pth_Q {Q : List Nd} (hcp : cp ≤ 60480) (h4 : tR T ≤ 4) (h6 : tH T ≤ 6) (hRH : 0 < tH T → 0 < tR T) (hcw : ways (tR T) (tH T) ≤ cp) (hQW : QW T L0 Q) (hQc : Q.length ≤ cp) (hN : FN M F (tR T) (tH T) Q) : ∀ (d j : Nat) (q : Nd), Q[j]? = some q → q.2.2.2 = d → Pth M F cp (nm (tR T) (tH T) q.1) (pathQ Q d j).reverse ∧ (pathQ Q d j).length = d
  | 0, _, _, _, _ => ⟨trivial, rfl⟩
  | d + 1, j, q, hq, hd => by
    obtain ⟨i, pq, h1, h2, h3, h4'⟩ := hQW.dep_par hq hd
    have v1 := hN j q hq
    obtain ⟨q1, q2, q3, q4⟩ := hQW.rd (by omega) h4 h6 hq
    have hqm : q.1 ∈ arrs Q := List.mem_map.mpr ⟨q, List.mem_of_getElem? hq, rfl⟩
    have hlt := nm_lt (hQW.2.1 _ hqm) (show tH T ≤ 8 by omega) hRH
    have hlp := nm_lt q4 (show tH T ≤ 8 by omega) hRH
    have hpar : (arrs Q).getD q.2.1.toNat [] = pq.1 := by rw [h3, Int.toNat_natCast, arrs_gd h2]
    have hpath : pathQ Q (d + 1) j = pathQ Q d i ++ [q.2.2.1] := by rw [pathQ, hq]; simp only; rw [h3]; rfl
    obtain ⟨y1, y2⟩ := Pth_Q hcp h4 h6 hRH hcw hQW hQc hN d i pq h2 h4'
    rw [hpar] at v1 hlp
    rw [hpath, List.reverse_append, List.length_append, y2]
    refine ⟨⟨by omega, nm (tR T) (tH T) pq.1, by omega, q2, ?_, y1⟩, rfl⟩
    rw [v1, hd]
    show jl (ld (d + 1) _ _) = jl (ld ((pathQ Q d i).reverse.length + 1) _ _)
    rw [List.length_reverse, y2]
theorem PD_Q {Q : List Nd} (hcp : cp ≤ 60480) (h4 : tR T ≤ 4) (h6 : tH T ≤ 6) (hRH : 0 < tH T → 0 < tR T) (hcw : ways (tR T) (tH T) ≤ cp) (hQW : QW T L0 Q) (hQc : Q.length ≤ cp) (hN : FN M F (tR T) (tH T) Q) {j : Nat} {q : Nd} (hq : Q[j]? = some q) : nm (tR T) (tH T) q.1 < cp ∧ q.2.2.2 ≤ 60480 ∧ PD M F (nm (tR T) (tH T) q.1) q.2.2.2 := by
  obtain ⟨q1, q2, q3, q4⟩ := hQW.rd (by omega) h4 h6 hq
  have hqm : q.1 ∈ arrs Q := List.mem_map.mpr ⟨q, List.mem_of_getElem? hq, rfl⟩
  have hlt := nm_lt (hQW.2.1 _ hqm) (show tH T ≤ 8 by omega) hRH
  have hlp := nm_lt q4 (show tH T ≤ 8 by omega) hRH
  exact ⟨by omega, q1, _, _, by omega, q2, hN j q hq⟩
theorem NI_par {N : List Wn} {dn : Nat → Prop} (hNI : NI T L0 N dn) {j : Nat} {q : Wn} (hq : N[j]? = some q) : WA (tR T) (tH T) ((arw N).getD q.2.2.1.toNat []) := by
  by_cases c : 0 < j
  · obtain ⟨i, pq, a, h1, h2, h3, h4, h5, h6, h7⟩ := hNI.2.2.2 j q hq c
    rw [h3, Int.toNat_natCast, arw_gd h1]; exact hNI.2.1 i pq h1
  · have : j = 0 := by omega
    subst this
    rw [hNI.1] at hq
    rw [← Option.some.inj hq]
    have := arw_gd hNI.1
    show WA (tR T) (tH T) ((arw N).getD 0 [])
    rw [this]; exact hNI.2.1 0 _ hNI.1
theorem Pth_W {N : List Wn} {dn : Nat → Prop} (hcp : cp ≤ 60480) (h6 : tH T ≤ 6) (hRH : 0 < tH T → 0 < tR T) (hcw : ways (tR T) (tH T) ≤ cp) (hNI : NI T L0 N dn) (hN : FNw M F (tR T) (tH T) N) : ∀ (n j : Nat) (q : Wn), N[j]? = some q → q.2.1.2.length = n → Pth M F cp (nm (tR T) (tH T) q.1) q.2.1.2
  | 0, j, q, hq, hn => by rw [List.length_eq_zero_iff.mp hn]; trivial
  | n + 1, j, q, hq, hn => by
    by_cases c : 0 < j
    · obtain ⟨i, pq, a, h1, h2, h3, h4, h5, h6', h7⟩ := hNI.2.2.2 j q hq c
      obtain ⟨v1, v2, v3⟩ := hN j q hq
      have hlt := nm_lt (hNI.2.1 j q hq) (show tH T ≤ 8 by omega) hRH
      have hlp := nm_lt (hNI.2.1 i pq h1) (show tH T ≤ 8 by omega) hRH
      rw [h3, Int.toNat_natCast, arw_gd h1] at v1
      rw [h6'] at v1 v2
      rw [h7, candK] at hn v1 ⊢
      rw [List.length_cons] at hn v1
      exact ⟨by omega, nm (tR T) (tH T) pq.1, by omega, v2, v1, Pth_W hcp h6 hRH hcw hNI hN n i pq h1 (by omega)⟩
    · have : j = 0 := by omega
      subst this
      rw [hNI.1] at hq
      rw [← Option.some.inj hq] at hn
      simp at hn
theorem PD_W {N : List Wn} {dn : Nat → Prop} (hcp : cp ≤ 60480) (h6 : tH T ≤ 6) (hRH : 0 < tH T → 0 < tR T) (hcw : ways (tR T) (tH T) ≤ cp) (hNI : NI T L0 N dn) (hN : FNw M F (tR T) (tH T) N) {j : Nat} {q : Wn} (hq : N[j]? = some q) : nm (tR T) (tH T) q.1 < cp ∧ q.2.1.2.length ≤ 60480 ∧ PD M F (nm (tR T) (tH T) q.1) q.2.1.2.length := by
  obtain ⟨v1, v2, v3⟩ := hN j q hq
  have hlt := nm_lt (hNI.2.1 j q hq) (show tH T ≤ 8 by omega) hRH
  have hlp := nm_lt (NI_par hNI hq) (show tH T ≤ 8 by omega) hRH
  exact ⟨by omega, v3, _, _, by omega, v2, v1⟩
end
def wayL : List Nat := (List.range 5).flatMap fun r => (List.range 7).map fun h => ways r h
def bud (g : Nat → Nat) (l : List Nat) (cp : Nat) : Nat := (l.map fun w => if cp < w then g w else 0).sum
theorem bud_mono (g : Nat → Nat) {cp w : Nat} (h : cp ≤ w) : ∀ l, bud g l w ≤ bud g l cp
  | [] => Nat.le_refl _
  | x :: l => by
    have ih := bud_mono g h l
    unfold bud at *
    rw [List.map_cons, List.map_cons, List.sum_cons, List.sum_cons]
    by_cases c : w < x
    · rw [if_pos c, if_pos (by omega)]; omega
    · rw [if_neg c]; omega
theorem bud_step (g : Nat → Nat) {cp w : Nat} (h : cp < w) : ∀ l, w ∈ l → bud g l w + g w ≤ bud g l cp
  | x :: l, hm => by
    have mono := bud_mono g (Nat.le_of_lt h) l
    have step := bud_step g h l
    unfold bud at *
    rw [List.map_cons, List.map_cons, List.sum_cons, List.sum_cons]
    rcases List.mem_cons.mp hm with e | e
    · subst e
      rw [if_neg (by omega), if_pos h]; omega
    · have := step e
      by_cases c : w < x
      · rw [if_pos c, if_pos (by omega)]; omega
      · rw [if_neg c]; omega
theorem ways_in {R H : Nat} (hR : R ≤ 4) (hH : H ≤ 6) : ways R H ∈ wayL :=
  List.mem_flatMap.mpr ⟨R, List.mem_range.mpr (by omega), List.mem_map.mpr ⟨H, List.mem_range.mpr (by omega), rfl⟩⟩
def bd1 (cp : Nat) : Nat := bud (fun _ => 6) wayL cp
def bd2 (cp : Nat) : Nat := bud (fun w => 3 * w + 2055) wayL cp
def SE (Γ : rhG) (M : rhM) (c S F cp Ln : Nat) : Prop := M.2.2 1 15 = S ∧ 183 ≤ S ∧ S + 22 ≤ Γ.1 ∧ F + 5 ≤ Γ.1 ∧ (c < S ∨ S + 22 < c) ∧ (c < F ∨ F + 5 < c) ∧ SSh Γ M S F cp Ln ∧ M.1 F 0 = J cp ∧ NB M (S + 7)
/-- e is 1 as long as no search was made -/
def CD0 (Γ : rhG) (M : rhM) (ly : List Nat) (c C cp e : Nat) : Prop := M.2.2 51 0 = c ∧ (c = 52 ∨ 183 ≤ c) ∧ c ≤ Γ.1 ∧ (Γ.2.2.1 c = 15 ∧ Γ.2.2.2 c = C) ∧ (64 ≤ C ∧ C ≤ 120960) ∧ M.1 51 1 = J ly.length ∧ (ly.length ≤ C ∧ ly.length ≤ 60480) ∧ Sg (M.1 c) 0 ly ∧ 64 * (Γ.1 + 23 * e + bd1 cp) + (120960 - C) ≤ 3840000 ∧ Γ.2.1 + 10527 * e + 2 * (120960 - C) + bd2 cp ≤ 8922250
def CD (Γ : rhG) (M : rhM) (ly : List Nat) : Prop := ∃ c C, (M.2.2 1 15 = 0 ∧ CD0 Γ M ly c C 0 1) ∨ ∃ S F cp Ln, CD0 Γ M ly c C cp 0 ∧ SE Γ M c S F cp Ln
theorem id_big {r : Nat} (hr : 183 ≤ r) : idl.getD r 12 = 12 := gd_big 12 (show idl.length ≤ r from by have : idl.length = 183 := rfl; omega)
theorem SSh.F183 {Γ : rhG} {M : rhM} {S F cp Ln : Nat} (h : SSh Γ M S F cp Ln) : 183 ≤ S ∧ S < F ∧ (F = S + 1 ∨ S + 22 < F) ∧ cp ≤ 60480 ∧ Ln < 900000000 := by
  obtain ⟨-, -, -, -, -, -, h1, h2, h3, h4⟩ := h
  exact ⟨h2, by omega, h1, h3, h4⟩
section
variable {Γ : rhG} {M : rhM} {t t' : Nat} {T : Tn} {L : Ar}
theorem CD0.kp {ids : List Nat} {M' : rhM} {ly : List Nat} {c C cp e : Nat} (h : CD0 Γ M ly c C cp e) (k : KP ids M M') (h8 : 8 ∉ ids) (h12 : 12 ∉ ids) : CD0 Γ M' ly c C cp e := by
  obtain ⟨a1, a2, a3, a4, a5, a6, a7, a8, a9, a10⟩ := h
  have e1 : M'.2.2 51 0 = M.2.2 51 0 := k.2.2 51 0 (by rw [show idR 51 0 = 8 from rfl]; exact h8)
  have e51 : M'.1 51 = M.1 51 := k.i (by decide) (by decide) (by decide) (by rw [show idl.getD 51 12 = 8 from rfl]; exact h8)
  have ec : M'.1 c = M.1 c := by
    rcases a2 with e | e
    · rw [e]; exact k.i (by decide) (by decide) (by decide) (by rw [show idl.getD 52 12 = 8 from rfl]; exact h8)
    · exact k.i (by omega) (by omega) (by omega) (by rw [id_big e]; exact h12)
  exact ⟨by rw [e1]; exact a1, a2, a3, a4, a5, by rw [e51]; exact a6, a7, by rw [ec]; exact a8, a9, a10⟩
theorem SE.kp {ids : List Nat} {M' : rhM} {c S F cp Ln : Nat} (h : SE Γ M c S F cp Ln) (k : KP ids M M') (h12 : 12 ∉ ids) : SE Γ M' c S F cp Ln := by
  obtain ⟨s1, s2, s3, s4, s5, s6, s7, s8, s9⟩ := h
  have hF := s7.F183
  have e2 : M'.2.2 1 15 = M.2.2 1 15 := k.2.2 1 15 (by rw [show idR 1 15 = 12 from rfl]; exact h12)
  have ei : ∀ r, 183 ≤ r → M'.1 r = M.1 r := fun r hr => k.i (by omega) (by omega) (by omega) (by rw [id_big hr]; exact h12)
  refine ⟨by rw [e2]; exact s1, s2, s3, s4, s5, s6, s7.mv (fun r _ => ⟨rfl, rfl⟩) (fun r hr => ?_), by rw [ei F (by omega)]; exact s8, s9.mv (fun r r1 r2 => ei r (by omega))⟩
  funext j
  exact k.2.2 r j (by rw [idR, if_neg (by omega)]; exact h12)
theorem CD.kp {ids : List Nat} {M' : rhM} {ly : List Nat} (h : CD Γ M ly) (k : KP ids M M') (h8 : 8 ∉ ids) (h12 : 12 ∉ ids) : CD Γ M' ly := by
  obtain ⟨c, C, hs⟩ := h
  rcases hs with ⟨s1, s2⟩ | ⟨S, F, cp, Ln, s1, s2⟩
  · exact ⟨c, C, Or.inl ⟨by rw [k.2.2 1 15 (by rw [show idR 1 15 = 12 from rfl]; exact h12)]; exact s1, s2.kp k h8 h12⟩⟩
  · exact ⟨c, C, Or.inr ⟨S, F, cp, Ln, s1.kp k h8 h12, s2.kp k h12⟩⟩
theorem KP_new {M' : rhM} (h : ∀ x, x ≤ 182 → M'.1 x = M.1 x ∧ M'.2.1 x = M.2.1 x ∧ ∀ k, ¬ (x = 1 ∧ k = 15) → M'.2.2 x k = M.2.2 x k) : KP [12] M M' := by
  refine ⟨fun r k hn => ?_, fun r k hn => ?_, fun r k hn => ?_⟩
  · by_cases c : r ≤ 182
    · rw [(h r (by omega)).1]
    · rw [idc_cell (by omega) (by omega) (by omega), id_big (by omega)] at hn; simp at hn
  · by_cases c : r ≤ 182
    · rw [(h r (by omega)).2.1]
    · rw [idL_cell (by omega) (by omega), id_big (by omega)] at hn; simp at hn
  · by_cases c : r ≤ 182
    · refine (h r (by omega)).2.2 k (fun e => hn ?_)
      rw [e.1, e.2]; decide
    · rw [idR, if_neg (by omega)] at hn; simp at hn
theorem KC_new {M' : rhM} (h : ∀ x, x ≤ 182 → M'.1 x = M.1 x ∧ M'.2.1 x = M.2.1 x ∧ ∀ k, ¬ (x = 1 ∧ k = 15) → M'.2.2 x k = M.2.2 x k) : KC M M' := by
  intro r h1 h2
  have := h r (by omega)
  exact ⟨this.1, this.2.1, by funext k; exact this.2.2 k (by omega)⟩
theorem c_ready18 (hG : GK Γ) (hC : CR M) (hT : C3 M t t' T) (h4 : tR T ≤ 4) (h6 : tH T ≤ 6) {ly : List Nat} {c C cp S F Ln : Nat} (h0 : CD0 Γ M ly c C cp 0) (hSE : SE Γ M c S F cp Ln) : wp (f_X11_readySearch_18 Γ M 1) (fun r => OldG Γ r.1 ∧ KP [12] M r.2 ∧ KC M r.2 ∧ ∃ F cp, CD0 r.1 r.2 ly c C cp 0 ∧ SE r.1 r.2 c S F cp Ln ∧ ways (tR T) (tH T) ≤ cp) := by
  have h60 := ways_max h4 h6
  have g182 := hG.1
  have hSE0 := hSE
  have h00 := h0
  obtain ⟨s1, s2, s3, s4, s5, s6, s7, s8, s9⟩ := hSE
  obtain ⟨a1, a2, a3, a4, a5, a6, a7, a8, a9, a10⟩ := h0
  have hF := s7.F183
  rw [f_X11_readySearch_18, wp_ck_t (GKk1 hG), hT.2.1, wp_ck_t (hT.ts hG hC).1, c_states (hT.ts hG hC).1 hT.2.2.2.1 hT.2.2.2.2.1 (by omega), wp_bind, wp_some, s1, wp_ck_t s7.1, wp_bind]
  by_cases c5 : cp < ways (tR T) (tH T)
  · refine (c_widenF g182 s7 s3 s8 h60 c5).mono (fun r q => ?_)
    obtain ⟨b1, b2, b3, b4, b5, b6⟩ := q
    have hold : ∀ x, x ≤ 182 → r.2.1 x = M.1 x ∧ r.2.2.1 x = M.2.1 x ∧ ∀ k, ¬ (x = 1 ∧ k = 15) → r.2.2.2 x k = M.2.2 x k := fun x hx => by
      have y := b4 x (by omega)
      exact ⟨y.1, y.2.1, fun k _ => y.2.2 k (by omega)⟩
    rw [wp_some]
    dsimp only
    have hb : bd1 (ways (tR T) (tH T)) + 6 ≤ bd1 cp := bud_step (fun _ => 6) c5 wayL (ways_in h4 h6)
    have hb2 : bd2 (ways (tR T) (tH T)) + (3 * ways (tR T) (tH T) + 2055) ≤ bd2 cp := bud_step (fun w => 3 * w + 2055) c5 wayL (ways_in h4 h6)
    refine ⟨b3, KP_new hold, KC_new hold, Γ.1 + 1, ways (tR T) (tH T), ⟨?_, a2, by have := b3.1; omega, ?_, a5, ?_, a7, ?_, by omega, by omega⟩, ⟨?_, s2, by omega, by omega, s5, Or.inl (by omega), b5, b6, s9.mv (fun x x1 x2 => (b4 x (by omega)).1)⟩, Nat.le_refl _⟩
    · rw [(b4 51 (by omega)).2.2 0 (by omega)]; exact a1
    · rw [(b3.2 c a3).1, (b3.2 c a3).2]; exact a4
    · rw [(b4 51 (by omega)).1]; exact a6
    · rw [(b4 c a3).1]; exact a8
    · rw [(b4 1 (by omega)).2.2 15 (by omega)]; exact s1
  · rw [c_widenF_no s7 s8 h60 (by omega), wp_some, wp_some]
    exact ⟨OldG.refl _, KP.refl _ _, KC.refl _, F, cp, h00, hSE0, by omega⟩
theorem c_ready (hG : GK Γ) (hC : CR M) (hT : C3 M t t' T) (hw : TWf T) (hRH : 0 < tH T → 0 < tR T) (h4 : tR T ≤ 4) (h6 : tH T ≤ 6) {ly : List Nat} (h : CD Γ M ly) : wp (f_X11_readySearch Γ M 1) (fun r => OldG Γ r.1 ∧ KP [12] M r.2 ∧ KC M r.2 ∧ ∃ c C cp S F Ln, CD0 r.1 r.2 ly c C cp 0 ∧ SE r.1 r.2 c S F cp Ln ∧ ways (tR T) (tH T) ≤ cp) := by
  obtain ⟨c, C, hs⟩ := h
  have g182 := hG.1
  rw [f_X11_readySearch, wp_ck_t (GKk1 hG)]
  rcases hs with ⟨s1, h0⟩ | ⟨S, F, cp, Ln, h0, hSE⟩
  · rw [s1, wp_ite_t rfl]
    dsimp only
    obtain ⟨a1, a2, a3, a4, a5, a6, a7, a8, a9, a10⟩ := h0
    rw [nu_big (show 183 ≤ Γ.1 + 1 by omega)]
    obtain ⟨g1, g2, g3, g4⟩ := gn_k g182 6 0 11
    have og1 := OldG.new g182 6 0 11
    obtain ⟨G3, hG3⟩ : ∃ G, G = rhgn Γ 6 0 11 := ⟨_, rfl⟩
    rw [← hG3] at g1 g2 g3 g4 og1 ⊢
    have m0 : ∀ x, x ≤ Γ.1 → (rhmn M (Γ.1 + 1)).1 x = M.1 x ∧ (rhmn M (Γ.1 + 1)).2.1 x = M.2.1 x ∧ (rhmn M (Γ.1 + 1)).2.2 x = M.2.2 x := fun x hx => mn_o M (Γ.1 + 1) (by omega)
    rw [wp_ck_t g1, wp_bind]
    refine (i_search (by omega) (by omega) g1).mono (fun r q => ?_)
    obtain ⟨b1, b2, b3, b4, b5, b6, b7⟩ := q
    have oo := og1.trans b3
    rw [wp_ck_t (GKk1 (oo.gk hG))]
    have hold : ∀ x, x ≤ Γ.1 → (rhsr r.2 1 15 (Γ.1 + 1)).1 x = M.1 x ∧ (rhsr r.2 1 15 (Γ.1 + 1)).2.1 x = M.2.1 x ∧ ∀ k, ¬ (x = 1 ∧ k = 15) → (rhsr r.2 1 15 (Γ.1 + 1)).2.2 x k = M.2.2 x k := fun x hx => by
      have y1 := b4 x (by omega)
      have y2 := m0 x hx
      exact ⟨y1.1.trans y2.1, y1.2.1.trans y2.2.1, fun k hk => by rw [sr_ne hk, y1.2.2, y2.2.2]⟩
    have hr15 : (rhsr r.2 1 15 (Γ.1 + 1)).2.2 1 15 = Γ.1 + 1 := sr_eq _ _ _ _
    have hri : (rhsr r.2 1 15 (Γ.1 + 1)).1 = r.2.1 := rfl
    have hro : ∀ x, x ≠ 1 → (rhsr r.2 1 15 (Γ.1 + 1)).2.2 x = r.2.2.2 x := fun x hx => sr_o _ _ _ _ hx
    obtain ⟨M8, hM8⟩ : ∃ N, N = rhsr r.2 1 15 (Γ.1 + 1) := ⟨_, rfl⟩
    rw [← hM8] at hold hr15 hri hro ⊢
    have k8 : KP [12] M M8 := KP_new (fun x hx => hold x (by omega))
    have kc8 : KC M M8 := KC_new (fun x hx => hold x (by omega))
    have hSE : SE r.1 M8 c (Γ.1 + 1) (Γ.1 + 1 + 1) 0 4096 := ⟨hr15, by omega, by omega, by omega, Or.inl (by omega), Or.inl (by omega), b5.mv (fun x _ => ⟨rfl, rfl⟩) (fun x hx => hro x (by omega)), by rw [hri]; exact b6, b7.mv (fun x _ _ => by rw [hri])⟩
    have h0' : CD0 r.1 M8 ly c C 0 0 := by
      refine ⟨?_, a2, by have := oo.1; omega, ?_, a5, ?_, a7, ?_, by omega, by omega⟩
      · rw [(hold 51 (by omega)).2.2 0 (by omega)]; exact a1
      · rw [(oo.2 c a3).1, (oo.2 c a3).2]; exact a4
      · rw [(hold 51 (by omega)).1]; exact a6
      · rw [(hold c a3).1]; exact a8
    refine (c_ready18 (oo.gk hG) (hC.kp k8 (by decide)) (hT.kp k8 (by decide)) h4 h6 h0' hSE).mono (fun x hx => ?_)
    obtain ⟨x1, x2, x3, F, cp, x4, x5, x6⟩ := hx
    exact ⟨oo.trans x1, k8.trans x2, kc8.trans x3, c, C, cp, _, F, _, x4, x5, x6⟩
  · obtain ⟨s1, s2, -⟩ := id hSE
    rw [s1, wp_ite_f (by omega)]
    refine (c_ready18 hG hC hT h4 h6 h0 hSE).mono (fun x hx => ?_)
    obtain ⟨x1, x2, x3, F, cp, x4, x5, x6⟩ := hx
    exact ⟨x1, x2, x3, c, C, cp, _, F, _, x4, x5, x6⟩
theorem c_copyP {F p c cp : Nat} (hcp : cp ≤ 60480) (hp : Γ.2.2.1 p = 4) (hc : Γ.2.2.1 c = 15) (hd : c ∉ [F, F + 1, F + 2, F + 3, F + 4, F + 5, p]) (hcl : Γ.2.2.2 c < 2147483648) : ∀ (r : List Nat) (n : Nat) (M : rhM) (j : Nat), FSh Γ M F cp → Pth M F cp j r → M.2.2 p 0 = c → r.length ≤ Γ.2.2.2 c → r.length ≤ 60480 → r.length < n →
    wp (f_X0_copyRow_29 n Γ M F (J j) p (J ((r.length : Int) - 1))) (fun x => x.1 = Γ ∧ Fr [c] M x.2 ∧ Sg (x.2.1 c) 0 r.reverse ∧ ∀ i, r.length ≤ i → x.2.1 c i = M.1 c i) := by
  intro r
  induction r with
  | nil =>
    intro n M j hF hP hpc hdc hd6 hn
    obtain ⟨n, rfl⟩ : ∃ k, n = k + 1 := ⟨n - 1, by omega⟩
    rw [List.length_nil, f_X0_copyRow_29, wp_ite_t (by decide), wp_some]
    exact ⟨rfl, Fr.refl _ _, trivial, fun _ _ => rfl⟩
  | cons cd r ih =>
    intro n M j hF hP hpc hdc hd6 hn
    obtain ⟨n, rfl⟩ : ∃ k, n = k + 1 := ⟨n - 1, by omega⟩
    rw [List.length_cons] at hdc hd6 hn ⊢
    obtain ⟨hj, par, hpr, hcd5, v1, hP2⟩ := hP
    have e1 : ((r.length + 1 : Nat) : Int) - 1 = r.length := by omega
    have hcd := hd
    simp only [List.mem_cons, List.not_mem_nil, or_false, not_or] at hcd
    have hFr : Fr [c] M (rhsi M c r.length (J cd)) := (Fr.refl _ _).si (by simp) _ _
    have hF2 : FSh Γ (rhsi M c r.length (J cd)) F cp := hF.fr rfl
    have hco := c_codeOf (Γ := Γ) (M := M) hF hcp hj (by omega) hpr hcd5 v1
    have hpa := c_parentOf (Γ := Γ) (M := rhsi M c r.length (J cd)) hF2 hcp hj (by omega) hpr hcd5 v1
    have hcr : (J (r.length : Int)).toNatClampNeg = r.length := by rw [J_clamp (by omega) (by omega), Int.toNat_natCast]
    rw [f_X0_copyRow_29, e1, wp_ite_f (by rw [show (0 : Int32) = J 0 from rfl, J_lt (by omega) (by omega) (by omega) (by omega)]; omega), wp_ck_t hp, wp_ck_t hF.1, hco, wp_bind, wp_some, hpc, wp_ck_t hc, wp_ck_t (by rw [J_toInt (by omega) (by omega)]; omega), hcr]
    dsimp only
    rw [hpa, wp_bind, wp_some, show (-1 : Int32) = J (-1) from rfl, J_add, show (r.length : Int) + -1 = (r.length : Int) - 1 by omega]
    have hP3 : Pth (rhsi M c r.length (J cd)) F cp par r := Pth.mv (M := M) (M' := rhsi M c r.length (J cd)) rfl hP2
    refine (ih n (rhsi M c r.length (J cd)) par hF2 hP3 hpc (by omega) (by omega) (by omega)).mono (fun x hx => ?_)
    obtain ⟨a1, a2, a3, a4⟩ := hx
    refine ⟨a1, hFr.trans a2, ?_, fun k hk => ?_⟩
    · rw [List.reverse_cons, Sg_app, List.length_reverse]
      refine ⟨a3, ?_, trivial⟩
      rw [Nat.zero_add, a4 _ (Nat.le_refl _), si_1, if_pos ⟨rfl, rfl⟩]
    · rw [a4 k (by omega), si_1, if_neg (by omega)]
theorem c_clear {p : Nat} (k : Γ.2.2.1 p = 4) : f_X3_clear Γ M p = some (rhsi (rhsi M p 1 0) p 2 0) := by
  rw [f_X3_clear, rhck_t k]
theorem c_widen1 {c C d : Nat} (h182 : 182 ≤ Γ.1) (k51 : Γ.2.2.1 51 = 4) (h51 : 51 ≤ Γ.1) (a1 : M.2.2 51 0 = c) (a3 : c ≤ Γ.1) (a4 : Γ.2.2.1 c = 15) (a4' : Γ.2.2.2 c = C) (a5 : 64 ≤ C) (a5' : C ≤ 120960) (hd : d ≤ 60480) : wp (f_X3_widen Γ M 51 (J d)) (fun x => OldG Γ x.1 ∧ ∃ c' C', x.2.2.2 51 0 = c' ∧ (c' = c ∨ c' = Γ.1 + 1) ∧ c' ≤ x.1.1 ∧ (x.1.2.2.1 c' = 15 ∧ x.1.2.2.2 c' = C') ∧ d ≤ C' ∧ (64 ≤ C' ∧ C' ≤ 120960) ∧ (∀ y, y ≤ Γ.1 → x.2.1 y = M.1 y ∧ x.2.2.1 y = M.2.1 y ∧ ∀ k, ¬ (y = 51 ∧ k = 0) → x.2.2.2 y k = M.2.2 y k) ∧ 64 * x.1.1 + (120960 - C') ≤ 64 * Γ.1 + (120960 - C) ∧ x.1.2.1 + 2 * (120960 - C') ≤ Γ.2.1 + 2 * (120960 - C)) := by
  rw [f_X3_widen, wp_ck_t k51, a1, wp_ck_t a4, a4', show Int32.ofNat C = J C from Int32.ofInt_eq_ofNat.symm]
  by_cases c1 : C < d
  · obtain ⟨n, hn, hn1, hn2⟩ : ∃ n : Nat, (if J d < 2 * J C then 2 * J C else J d) = J n ∧ n = max d (2 * C) ∧ n ≤ 120960 := by
      rw [show (2 : Int32) = J 2 from rfl, J_mul]
      by_cases c2 : d < 2 * C
      · exact ⟨2 * C, by rw [if_pos (by rw [J_lt (by omega) (by omega) (by omega) (by omega)]; omega)]; congr 1, by omega, by omega⟩
      · exact ⟨d, by rw [if_neg (by rw [J_lt (by omega) (by omega) (by omega) (by omega)]; omega)], by omega, by omega⟩
    rw [wp_ite_t (by rw [J_lt (by omega) (by omega) (by omega) (by omega)]; omega)]
    dsimp only
    rw [nu_big (show 183 ≤ Γ.1 + 1 by omega), hn, show (J (n : Int)).toNatClampNeg = n by rw [J_clamp (by omega) (by omega), Int.toNat_natCast], wp_ck_t (by rw [J_toInt (by omega) (by omega)]; omega)]
    obtain ⟨g1, g2, g3, g4⟩ := gn_k h182 15 n n
    have og := OldG.new h182 15 n n
    rw [wp_ck_t (by rw [(og.2 51 h51).1]; exact k51), wp_some]
    refine ⟨og, Γ.1 + 1, n, sr_eq _ _ _ _, Or.inr rfl, Nat.le_of_eq g3.symm, ⟨g1, g2⟩, by omega, ⟨by omega, hn2⟩, fun y hy => ?_, by rw [g3]; omega, by rw [g4]; omega⟩
    have e := mn_o M (Γ.1 + 1) (show y ≠ Γ.1 + 1 by omega)
    exact ⟨e.1, e.2.1, fun k hk => by dsimp only; rw [sr_ne hk, e.2.2]⟩
  · rw [wp_ite_f (by rw [J_lt (by omega) (by omega) (by omega) (by omega)]; omega), wp_some]
    exact ⟨OldG.refl _, c, C, a1, Or.inl rfl, a3, ⟨a4, a4'⟩, by omega, ⟨a5, a5'⟩, fun y hy => ⟨rfl, rfl, fun _ _ => rfl⟩, Nat.le_refl _, Nat.le_refl _⟩
/-- the class lays the row to the state numbered j -/
theorem c_lay (hG : GK Γ) (hC : CR M) {ly : List Nat} {c C cp S F Ln : Nat} (h0 : CD0 Γ M ly c C cp 0) (hSE : SE Γ M c S F cp Ln) {j : Nat} (hj : j < cp) {r : List Nat} (hr : r.length ≤ 60480) (hdep : PD M F j r.length) (hP : Pth M F cp j r) : wp (f_X11_lay Γ M 1 (J j)) (fun x => x.1 = J r.length ∧ OldG Γ x.2.1 ∧ KP [8, 12] M x.2.2 ∧ KC M x.2.2 ∧ (∀ y, (S ≤ y ∧ y ≤ S + 22) ∨ (F ≤ y ∧ y ≤ F + 5) → x.2.2.1 y = M.1 y ∧ x.2.2.2.2 y = M.2.2 y) ∧ ∃ c' C', CD0 x.2.1 x.2.2 r.reverse c' C' cp 0 ∧ SE x.2.1 x.2.2 c' S F cp Ln) := by
  obtain ⟨a1, a2, a3, ⟨a4, a4'⟩, ⟨a5, a5'⟩, a6, a7, a8, a9, a10⟩ := h0
  obtain ⟨s1, s2, s3, s3', s4, s4', s5, s6, s7⟩ := hSE
  have g164 := hG.1
  have hF183 := s5.F183
  have hcp := hF183.2.2.2.1
  have hF := s5.2.2.2.2.1
  have h3a : ∀ y, y ≠ 51 → (rhsi (rhsi M 51 1 0) 51 2 0).1 y = M.1 y := fun y hy => by funext k; rw [si_1, if_neg (by omega), si_1, if_neg (by omega)]
  obtain ⟨M3, hM3⟩ : ∃ N, N = rhsi (rhsi M 51 1 0) 51 2 0 := ⟨_, rfl⟩
  have h3r : M3.2 = M.2 := by rw [hM3]; rfl
  rw [← hM3] at h3a
  have hF3 : FSh Γ M3 F cp := hF.fr (by rw [h3r])
  have hd3 : PD M3 F j r.length := hdep.mv (by rw [h3r])
  rw [f_X11_lay, wp_ite_f (by rw [show (-1 : Int32) = J (-1) from rfl, J_eq (by omega) (by omega) (by omega) (by omega)]; omega), wp_ck_t (GKk1 hG), s1, wp_ck_t s5.1, CR1_9 hC, wp_bind, f_X5_copyRow, wp_ck_t s5.1, s5.2.1.1, wp_ck_t hF.1, wp_bind, f_X0_copyRow, wp_ck_t (GKk51 hG), c_clear (GKk51 hG), ← hM3, wp_bind, wp_some, wp_ck_t hF.1, hd3.pulls hF3 hcp hj hr, wp_bind, wp_some, wp_bind]
  refine (c_widen1 (c := c) (C := C) g164 (GKk51 hG) (by omega) (by rw [h3r]; exact a1) a3 a4 a4' a5 a5' hr).mono (fun x q => ?_)
  obtain ⟨q0, c', C', q1, q2, q3, ⟨q4, q4'⟩, q5, ⟨q6, q6'⟩, q7, q8, q9⟩ := q
  have old : ∀ y, 51 < y → y ≤ Γ.1 → x.2.1 y = M.1 y ∧ x.2.2.1 y = M.2.1 y ∧ x.2.2.2 y = M.2.2 y := fun y y1 y2 => by
    have e := q7 y y2
    exact ⟨by rw [e.1, h3a y (by omega)], by rw [e.2.1, h3r], by funext k; rw [e.2.2 k (by omega), h3r]⟩
  have hS' : SSh x.1 x.2 S F cp Ln := s5.mv (fun y y1 => q0.2 y (by omega)) (fun y y1 => (old y (by omega) (by omega)).2.2)
  have hF' := hS'.2.2.2.2.1
  have hdx : PD x.2 F j r.length := hdep.mv (old _ (by omega) (by omega)).2.1
  have k51' := GKk51 (q0.gk hG)
  rw [wp_ck_t hF'.1, hdx.pulls hF' hcp hj hr, wp_bind, wp_some, wp_ck_t k51']
  dsimp only
  rw [si_1, if_pos ⟨rfl, rfl⟩, show (1 : Int32) = J 1 from rfl, J_sub]
  have h11a : ∀ y, y ≠ 51 → (rhsi x.2 51 1 (J r.length)).1 y = x.2.1 y := fun y hy => by funext k; rw [si_1, if_neg (by omega)]
  have h11b : (rhsi x.2 51 1 (J r.length)).1 51 1 = J r.length := by rw [si_1, if_pos ⟨rfl, rfl⟩]
  obtain ⟨M11, hM11⟩ : ∃ N, N = rhsi x.2 51 1 (J r.length) := ⟨_, rfl⟩
  have h11r : M11.2 = x.2.2 := by rw [hM11]; rfl
  rw [← hM11] at h11a h11b ⊢
  have hcn : c' ∉ [F, F + 1, F + 2, F + 3, F + 4, F + 5, 51] := by
    simp only [List.mem_cons, List.not_mem_nil, or_false, not_or]
    rcases q2 with e | e <;> omega
  refine (c_copyP hcp k51' q4 hcn (by omega) r rhFU M11 j (hF'.fr (by rw [h11r])) (hP.mv (by rw [h11r, (old _ (by omega) (by omega)).2.1])) (by rw [h11r]; exact q1) (by omega) hr (by have := FU_big2; omega)).mono (fun z hz => ?_)
  obtain ⟨z1, z2, z3, z4⟩ := hz
  rw [wp_some, z1, wp_ck_t (GKk1 (q0.gk hG))]
  have zr : z.2.2.2 = x.2.2.2 := by rw [z2.1, h11r]
  have e19 : z.2.2.2 1 9 = 51 := by rw [zr, (q7 1 (by omega)).2.2 9 (by omega), h3r]; exact CR1_9 hC
  have c51 : c' ≠ 51 := by simp only [List.mem_cons, List.not_mem_nil, or_false, not_or] at hcn; exact hcn.2.2.2.2.2.2
  have cS : ∀ y, (S ≤ y ∧ y ≤ S + 22) ∨ (F ≤ y ∧ y ≤ F + 5) → y ≠ c' := fun y y1 => by rcases q2 with e | e <;> omega
  have zi : ∀ y, y ≠ 51 → y ≠ c' → y ≤ Γ.1 → z.2.1 y = M.1 y ∧ z.2.2.1 y = M.2.1 y := fun y y1 y2 y3 => by
    have e := z2.2 y (by simpa using y2)
    refine ⟨by rw [e.1, h11a y y1, (q7 y y3).1, h3a y y1], by rw [e.2, h11r, (q7 y y3).2.1, h3r]⟩
  have zref : ∀ y k, y ≤ Γ.1 → ¬ (y = 51 ∧ k = 0) → z.2.2.2 y k = M.2.2 y k := fun y k y1 y2 => by rw [zr, (q7 y y1).2.2 k y2, h3r]
  have i8 : idl.getD 51 12 = 8 := rfl
  have i8' : idl.getD 52 12 = 8 := rfl
  have hi : ∀ y, 183 ≤ y → idl.getD y 12 = 12 := fun y hy => id_big hy
  have cc : c' = 52 ∨ 183 ≤ c' := by rcases q2 with e | e <;> omega
  rw [e19, wp_ck_t k51', wp_some, z2.i (by simp; omega), h11b]
  refine ⟨rfl, q0, ⟨fun y k hn => ?_, fun y k hn => ?_, fun y k hn => ?_⟩, fun y y1 y2 => ?_, fun y y1 => ⟨(zi y (by omega) (cS y y1) (by omega)).1, by funext k; exact zref y k (by omega) (by omega)⟩, c', C', ⟨by dsimp only; rw [zr]; exact q1, cc, q3, ⟨q4, q4'⟩, ⟨q6, q6'⟩, ?_, ?_, z3, ?_, ?_⟩, ?_, s2, ?_, ?_, ?_, ?_, ?_, ?_, ?_⟩
  · by_cases e : y = 51 ∨ y = c' ∨ 183 ≤ y
    · refine absurd ?_ hn
      have e2 : idl.getD y 12 = 8 ∨ idl.getD y 12 = 12 := by
        rcases e with e | e | e
        · rw [e]; exact Or.inl i8
        · rcases cc with e2 | e2
          · rw [e, e2]; exact Or.inl i8'
          · rw [e]; exact Or.inr (hi _ e2)
        · exact Or.inr (hi _ e)
      rw [idc_cell (by omega) (by omega) (by omega)]
      rcases e2 with e2 | e2 <;> rw [e2] <;> simp
    · rw [(zi y (by omega) (by omega) (by omega)).1]
  · by_cases e : y = 51 ∨ y = c' ∨ 183 ≤ y
    · refine absurd ?_ hn
      have e2 : idl.getD y 12 = 8 ∨ idl.getD y 12 = 12 := by
        rcases e with e | e | e
        · rw [e]; exact Or.inl i8
        · rcases cc with e2 | e2
          · rw [e, e2]; exact Or.inl i8'
          · rw [e]; exact Or.inr (hi _ e2)
        · exact Or.inr (hi _ e)
      rw [idL_cell (by omega) (by omega)]
      rcases e2 with e2 | e2 <;> rw [e2] <;> simp
    · rw [(zi y (by omega) (by omega) (by omega)).2]
  · by_cases e : (y = 51 ∧ k = 0) ∨ 183 ≤ y
    · refine absurd ?_ hn
      rcases e with ⟨e, e2⟩ | e
      · rw [e, e2]; decide
      · rw [idR, if_neg (by omega)]; simp
    · exact zref y k (by omega) (by omega)
  · exact ⟨(zi y (by omega) (by omega) (by omega)).1, (zi y (by omega) (by omega) (by omega)).2, by funext k; exact zref y k (by omega) (by omega)⟩
  · dsimp only; rw [z2.i (by simp; omega), List.length_reverse]; exact h11b
  · rw [List.length_reverse]; exact ⟨q5, hr⟩
  · dsimp only; omega
  · dsimp only; omega
  · rw [zref 1 15 (by omega) (by omega)]; exact s1
  · have := q0.1; dsimp only; omega
  · have := q0.1; dsimp only; omega
  · rcases q2 with e | e <;> omega
  · rcases q2 with e | e <;> omega
  · exact s5.mv (fun y y1 => q0.2 y (by omega)) (fun y y1 => by funext k; exact zref y k (by omega) (by omega))
  · rw [(zi F (by omega) (cS F (by omega)) (by omega)).1]; exact s6
  · exact s7.mv (fun y y1 y2 => (zi y (by omega) (cS y (by omega)) (by omega)).1)
end
