/-! REFERENCE: SPARE -/
section
variable {Γ : rhG} {M : rhM} {T : Tn} {L : Ar}
theorem TM_sw {N N' : rhM} {b : Nat} {g lb g' lb' : Int} {f : Nat → Nat} (hT : TM N b T g lb) (hi : ∀ y, y ≠ 102 → N'.1 y = N.1 y) (h102 : ∀ k, k ≠ 44 → k ≠ 45 → N'.1 102 k = N.1 102 k) (h44 : N'.1 102 44 = J g') (h45 : N'.1 102 45 = J lb') (hg' : -1 ≤ g' ∧ g' ≤ 5) (hl' : 0 ≤ lb' ∧ lb' ≤ 99)
    (eL : ∀ r, r < tR T → (f r : Int) - (if (r : Int) = g' then lb' else 0) = tL T r - (if (r : Int) = g then lb else 0)) : TM N' b (T.1, f, T.2.2) g' lb' := by
  obtain ⟨hb, e34, e105, e106, e109, e110, e108, e119, e111, e44, e45, g1, g2, l1, l2, e112, e113, e114, e115, e116, e123, e124⟩ := hT
  refine ⟨hb, by rw [h102 34 (by omega) (by omega)]; exact e34, by rw [hi _ (by omega)]; exact e105, by rw [hi _ (by omega)]; exact e106, by rw [hi _ (by omega)]; exact e109, by rw [hi _ (by omega)]; exact e110, by rw [hi _ (by omega)]; exact e108, by rw [hi _ (by omega)]; exact e119, by rw [hi _ (by omega)]; exact e111, h44, h45, hg'.1, hg'.2, hl'.1, hl'.2,
    fun r hr => ?_, by rw [hi _ (by omega)]; exact e113, by rw [hi _ (by omega)]; exact e114, by rw [hi _ (by omega)]; exact e115, by rw [hi _ (by omega)]; exact e116, by rw [hi _ (by omega)]; exact e123, by rw [hi _ (by omega)]; exact e124⟩
  rw [hi _ (by omega), e112 r hr, ← eL r hr]
  rfl
def TMB (M : rhM) (T : Tn) : Prop := ∃ b f g lb, TM M b (T.1, f, T.2.2) g lb ∧ ∀ r, r < tR T → (f r : Int) - (if (r : Int) = g then lb else 0) = tL T r
theorem spG_none {p : Ar → Prop} {Q : List Nd} {b : Int × Nat} {r : Nat} (h : fmt p Q = none) : spG p Q b r = b := by unfold spG; rw [h]
theorem spG_some {p : Ar → Prop} {Q : List Nd} {b : Int × Nat} {r j dd : Nat} (h : fmt p Q = some j) (hd : dep Q j = dd) : spG p Q b r = if dd < b.2 then ((r : Int), dd) else b := by unfold spG; rw [h]; dsimp only; rw [hd]
theorem bq_at {T : Tn} {L : Ar} {most j : Nat} {q : Nd} (hH : tH T ≤ 8) (hRH : 0 < tH T → 0 < tR T) (h60 : ways (tR T) (tH T) ≤ 60480) (w0 : WA (tR T) (tH T) L) (hq : (bq T most L j)[j]? = some q) : dep (FQ T most L) j = q.2.2.2 ∧ q.2.2.2 ≤ 60480 ∧ WA (tR T) (tH T) q.1 := by
  have hQW := bq_QW (T := T) (most := most) w0 j
  have hjl := (List.getElem?_eq_some_iff.mp hq).1
  have hlen := hQW.len hH hRH
  have hdl := hQW.dep_le j hjl
  have hp : bq T most L j <+: FQ T most L := bq_FQ (by omega)
  have hd2 : dep (bq T most L j) j = q.2.2.2 := by unfold dep; rw [hq]
  exact ⟨by rw [pre_dep hp hjl]; exact hd2, by omega, hQW.2.1 q.1 (List.mem_map.mpr ⟨q, List.mem_of_getElem? hq, rfl⟩)⟩
theorem r_sp36 {nn : Nat} {gl : List Nat} (hG : GK Γ) (hw : TWf T) (hL2 : ∀ r, r < tR T → tL T r ≤ 200) (hRH : 0 < tH T → 0 < tR T) (hr4 : tR T ≤ 4) (hh6 : tH T ≤ 6) (wL : WA (tR T) (tH T) L) (hnn : nn ≤ 99) (hg : ∀ h, h ∈ gl → h < 8) (hl : gl.length ≤ 8) {w : Int} (w1 : -2147483648 ≤ w) (w2 : w < 2147483648) (hw01 : 0 ≤ w ∧ w ≤ 1) : ∀ (d n : Nat) (M : rhM) (r : Nat), r + d = tR T → d < n → MR M → TMB M T → R4 M L → R7 M gl →
    wp (f_X12_spare_36 (f_X12_spare_107 Γ) Γ n M 102 (J nn) (J w) (J (spF T L gl nn r).1) (J (if (spF T L gl nn r).1 = -1 then 0 else ((spF T L gl nn r).2 : Int))) (J r)) (fun x => x.1 = J (if (spF T L gl nn (tR T)).1 = -1 then -1 else if w = 0 then (spF T L gl nn (tR T)).1 else (spF T L gl nn (tR T)).2) ∧ KP [0, 3] M x.2 ∧ KR M x.2 ∧ R3 x.2 T) := by
  have w2' := hw.2.1
  have h60 := ways_max hr4 hh6
  intro d
  induction d with
  | zero =>
    intro n M r hr hn hR hB h4 h7
    obtain ⟨n, rfl⟩ : ∃ k, n = k + 1 := ⟨n - 1, by omega⟩
    have hrr : r = tR T := by omega
    subst hrr
    obtain ⟨-, s2, s3, s4⟩ := spF_rng (gl := gl) (n := nn) wL w2' hRH h60 (tR T)
    obtain ⟨b, f, g, lb, hT, hf⟩ := hB
    have eR : tR (T.1, f, T.2.2) = tR T := rfl
    rw [f_X12_spare_36, wp_ck_t (GKk102 hG), m_railMany hG hR hT, wp_bind, wp_some, eR, wp_ite_f (by rw [J_lt (by omega) (by omega) (by omega) (by omega)]; omega), f_X12_spare_107, wp_ck_t (GKk102 hG)]
    dsimp only
    have hT' := hT
    obtain ⟨hb, e34, e105, e106, e109, e110, e108, e119, e111, e44, e45, g1, g2, l1, l2, e112, e113, e114, e115, e116, e123, e124⟩ := hT
    have h3' : R3 (rhsi M 102 44 (J (-1))) T := ⟨b, lb, TM_sw (T := (T.1, f, T.2.2)) (f := T.2.1) hT' (fun y hy => by funext k; rw [si_1, if_neg (by omega)]) (fun k k1 k2 => by rw [si_1, if_neg (by omega)]) (by rw [si_1, if_pos ⟨rfl, rfl⟩]) (by rw [si_1, if_neg (by omega)]; exact e45) ⟨by decide, by decide⟩ ⟨l1, l2⟩ (fun r hr => by
      rw [if_neg (by omega)]
      have := hf r hr
      show (tL T r : Int) - 0 = (f r : Int) - _
      omega)⟩
    have kp : KP [0, 3] M (rhsi M 102 44 (J (-1))) := (KP.refl _ _).si _ (by decide)
    have kr : KR M (rhsi M 102 44 (J (-1))) := (KR.refl _).si _ (by decide)
    rw [show (-1 : Int32) = J (-1) from rfl, show (0 : Int32) = J 0 from rfl]
    by_cases c1 : (spF T L gl nn (tR T)).1 = -1
    · rw [wp_ite_t (by rw [J_lt (by omega) (by omega) (by omega) (by omega)]; omega), wp_some, if_pos c1]
      exact ⟨congrArg J c1, kp, kr, h3'⟩
    rw [wp_ite_f (by rw [J_lt (by omega) (by omega) (by omega) (by omega)]; omega), if_neg c1, if_neg c1]
    by_cases c2 : w = 0
    · rw [wp_ite_t (by rw [c2]), wp_some, if_pos c2]
      exact ⟨rfl, kp, kr, h3'⟩
    · rw [wp_ite_f (by rw [J_eq (by omega) (by omega) (by omega) (by omega)]; exact c2), wp_some, if_neg c2]
      exact ⟨rfl, kp, kr, h3'⟩
  | succ d ih =>
    intro n M r hr hn hR hB h4 h7
    obtain ⟨n, rfl⟩ : ∃ k, n = k + 1 := ⟨n - 1, by omega⟩
    have hrR : r < tR T := by omega
    obtain ⟨s1, s2, s3, s4⟩ := spF_rng (gl := gl) (n := nn) wL w2' hRH h60 r
    obtain ⟨b, f, g, lb, hT, hf⟩ := hB
    have hb1 := hT.1
    have eR : tR (T.1, f, T.2.2) = tR T := rfl
    have kp : KP [0, 3] M (rhsi (rhsi M 102 44 (J r)) 102 45 (J nn)) := ((KP.refl _ _).si _ (by decide)).si _ (by decide)
    have kp3 : KP [3] M (rhsi (rhsi M 102 44 (J r)) 102 45 (J nn)) := ((KP.refl _ _).si _ (by decide)).si _ (by decide)
    have kr : KR M (rhsi (rhsi M 102 44 (J r)) 102 45 (J nn)) := ((KR.refl _).si _ (by decide)).si _ (by decide)
    have hT12 : TM (rhsi (rhsi M 102 44 (J r)) 102 45 (J nn)) b (lng T r nn) r nn := TM_sw (T := (T.1, f, T.2.2)) (f := (lng T r nn).2.1) hT (fun y hy => by funext k; rw [si_1, if_neg (by omega), si_1, if_neg (by omega)]) (fun k k1 k2 => by rw [si_1, if_neg (by omega), si_1, if_neg (by omega)]) (by rw [si_1, if_neg (by omega), si_1, if_pos ⟨rfl, rfl⟩]) (by rw [si_1, if_pos ⟨rfl, rfl⟩]) ⟨by omega, by omega⟩ ⟨by omega, by omega⟩ (fun k hk => by
      have := hf k hk
      show (((if k = r then T.2.1 k + nn else T.2.1 k : Nat) : Int) - (if (k : Int) = r then (nn : Int) else 0)) = (f k : Int) - _
      have e : tL T k = T.2.1 k := rfl
      rw [e] at this
      by_cases c : k = r
      · rw [if_pos c, if_pos (by omega)]; omega
      · rw [if_neg c, if_neg (by omega)]; omega)
    rw [f_X12_spare_36, wp_ck_t (GKk102 hG), m_railMany hG hR hT, wp_bind, wp_some, eR, wp_ite_t (by rw [J_lt (by omega) (by omega) (by omega) (by omega)]; omega)]
    dsimp only
    obtain ⟨M12, hM12⟩ : ∃ N, N = rhsi (rhsi M 102 44 (J r)) 102 45 (J nn) := ⟨_, rfl⟩
    rw [← hM12] at kp kp3 kr hT12 ⊢
    have hR12 := hR.kp kp (by decide)
    have h412 := h4.kp kp (by decide)
    have h712 := h7.kp kp (by decide)
    have wl := lng_wf (r := r) hw hL2 hnn
    have hQb : FQ (lng T r nn) 246960 L = FA (lng T r nn) L := FA_big (T := lng T r nn) wL w2' hRH h60 (by omega)
    have hTB : ∀ M', TM M' b (lng T r nn) r nn → TMB M' T := fun M' h => ⟨b, (lng T r nn).2.1, r, nn, h, fun k hk => by
      show (((if k = r then T.2.1 k + nn else T.2.1 k : Nat) : Int) - (if (k : Int) = r then (nn : Int) else 0)) = T.2.1 k
      by_cases c : k = r
      · rw [if_pos c, if_pos (by omega)]; omega
      · rw [if_neg c, if_neg (by omega)]; omega⟩
    have hnext : ∀ bb : Int × Nat, bb = spF T L gl nn (r + 1) → ∀ M' v4, v4 = J (if bb.1 = -1 then 0 else (bb.2 : Int)) → KP [0, 3] M M' → KR M M' → MR M' → TM M' b (lng T r nn) r nn → R4 M' L → R7 M' gl → wp (f_X12_spare_101 (f_X12_spare_36 (f_X12_spare_107 Γ) Γ n) Γ M' 102 (J nn) (J w) (J bb.1) v4 (J r)) (fun x => x.1 = J (if (spF T L gl nn (tR T)).1 = -1 then -1 else if w = 0 then (spF T L gl nn (tR T)).1 else (spF T L gl nn (tR T)).2) ∧ KP [0, 3] M x.2 ∧ KR M x.2 ∧ R3 x.2 T) := fun bb hbb M' v4 hv k1 k2 g1 g2 g3 g4 => by
      rw [f_X12_spare_101, hv, hbb, show (1 : Int32) = J 1 from rfl, J_add, J_suc]
      refine (ih n M' (r + 1) (by omega) (by omega) g1 (hTB M' g2) g3 g4).mono (fun x q => ?_)
      exact ⟨q.1, k1.trans q.2.1, k2.trans q.2.2.1, q.2.2.2⟩
    rw [spF_s] at hnext
    unfold spS at hnext
    obtain ⟨B, hBB⟩ : ∃ B, spF T L gl nn r = B := ⟨_, rfl⟩
    rw [hBB] at s1 s2 s3 s4 hnext ⊢
    rw [wp_bind]
    have q1 : 0 < tH (lng T r nn) → 0 < tR (lng T r nn) := hRH
    have q2 : tR (lng T r nn) ≤ 4 := hr4
    have q3 : tH (lng T r nn) ≤ 6 := hh6
    have q4 : WA (tR (lng T r nn)) (tH (lng T r nn)) L := wL
    refine m_search (T := lng T r nn) (md := (0, gl, 0)) (most := 246960) hG hR12 hT12 wl q1 q2 q3 h412 q4 (by omega) (ME0 h712 hg hl) _ (fun M' hF hR' hT' hMQ hff hk => ?_) (fun M' j q hF hR' hT' hMQ hq hff hk => ?_)
    · obtain ⟨k1, kr1⟩ := KP_W4 hF hk
      rw [hQb] at hff
      rw [wp_ite_t (show (-1 : Int32) < 0 by decide)]
      have e : spG (pM (0, gl, 0)) (FA (lng T r nn) L) B r = B := spG_none hff
      rw [e] at hnext
      exact hnext B rfl M' _ rfl (kp.trans (k1.sub (by decide))) (kr.trans kr1) hR' hT' (h412.kp k1 (by decide)) (h712.kp k1 (by decide))
    · obtain ⟨k1, kr1⟩ := KP_W4 hF hk
      obtain ⟨hd, hd6, wq'⟩ := bq_at (T := lng T r nn) w2' hRH h60 wL hq
      have wq : WA (tR T) (tH T) q.1 := wq'
      have hst := stn_lt wq hh6
      have hv := (hMQ.2.1 j q hq).2.1
      rw [hQb] at hff hd
      obtain ⟨dd, hdd⟩ : ∃ dd, q.2.2.2 = dd := ⟨_, rfl⟩
      rw [hdd] at hd hd6 hv
      have e : spG (pM (0, gl, 0)) (FA (lng T r nn) L) B r = if dd < B.2 then ((r : Int), dd) else B := spG_some hff hd
      have eR2 : tR (lng T r nn) = tR T := rfl
      rw [eR2] at hv ⊢
      rw [e] at hnext
      dsimp only
      have h89 : dd < B.2 → wp (f_X12_spare_89 (f_X12_spare_101 (f_X12_spare_36 (f_X12_spare_107 Γ) Γ n) Γ) Γ M' 102 (J nn) (J w) (J r) (J (stn (tR T) q.1))) (fun x => x.1 = J (if (spF T L gl nn (tR T)).1 = -1 then -1 else if w = 0 then (spF T L gl nn (tR T)).1 else (spF T L gl nn (tR T)).2) ∧ KP [0, 3] M x.2 ∧ KR M x.2 ∧ R3 x.2 T) := fun hc => by
        rw [if_pos hc] at hnext
        rw [f_X12_spare_89, wp_ck_t (GKk102 hG), MRf56 hR', wp_ck_t (GKk139 hG), wp_ck_t (by rw [GKl139 hG, J_toInt (by omega) (by omega)]; omega), J_clamp (by omega) (by omega), Int.toNat_natCast, hv]
        exact hnext ((r : Int), dd) rfl M' (J dd) (by dsimp only; rw [if_neg (by omega)]) (kp.trans (k1.sub (by decide))) (kr.trans kr1) hR' hT' (h412.kp k1 (by decide)) (h712.kp k1 (by decide))
      rw [wp_ite_f (by rw [show (0 : Int32) = J 0 from rfl, J_lt (by omega) (by omega) (by omega) (by omega)]; omega)]
      by_cases c1 : B.1 = -1
      · rw [wp_ite_t (by rw [show (0 : Int32) = J 0 from rfl, J_lt (by omega) (by omega) (by omega) (by omega)]; omega)]
        exact h89 (Nat.lt_of_le_of_lt hd6 (by rw [s4.mp c1]; decide))
      · rw [wp_ite_f (by rw [show (0 : Int32) = J 0 from rfl, J_lt (by omega) (by omega) (by omega) (by omega)]; omega), MRf56 hR', wp_ck_t (GKk139 hG), wp_ck_t (by rw [GKl139 hG, J_toInt (by omega) (by omega)]; omega), J_clamp (a := (stn (tR T) q.1 : Int)) (by omega) (by omega), Int.toNat_natCast, hv, if_neg c1]
        by_cases c2 : dd < B.2
        · rw [wp_ite_t (by rw [J_lt (by omega) (by omega) (by omega) (by omega)]; omega)]
          exact h89 c2
        · rw [wp_ite_f (by rw [J_lt (by omega) (by omega) (by omega) (by omega)]; omega)]
          rw [if_neg c2] at hnext
          exact hnext B rfl M' _ (by rw [if_neg c1]) (kp.trans (k1.sub (by decide))) (kr.trans kr1) hR' hT' (h412.kp k1 (by decide)) (h712.kp k1 (by decide))
theorem r_spare (hG : GK Γ) (hR : MR M) (h3 : R3 M T) (hw : TWf T) (hL2 : ∀ r, r < tR T → tL T r ≤ 200) (hRH : 0 < tH T → 0 < tR T) (h4 : R4 M L) (wL : WA (tR T) (tH T) L) {gl : List Nat} (h7 : R7 M gl) (hnd : gl.Nodup) (hg : ∀ h, h ∈ gl → h < tH T) {n : Int} (n1 : -2147483648 ≤ n) (n2 : n < 2147483648) {w : Int} (w1 : -2147483648 ≤ w) (w2 : w < 2147483648) : wp (f_X12_spare Γ M 102 (J n) (J w)) (fun x => x.1 = J (sprV T L gl n w) ∧ KP [0, 3] M x.2 ∧ KR M x.2 ∧ R3 x.2 T) := by
  have w2' := hw.2.1
  unfold sprV
  have no : ∀ (h : ¬ (1 ≤ n ∧ n ≤ 99 ∧ 0 ≤ w ∧ w ≤ 1 ∧ ¬ manyP T)) (v : Int), ((-1 : Int32), M).1 = J (pick (1 ≤ n ∧ n ≤ 99 ∧ 0 ≤ w ∧ w ≤ 1 ∧ ¬ manyP T) v (-1)) ∧ KP [0, 3] M ((-1 : Int32), M).2 ∧ KR M ((-1 : Int32), M).2 ∧ R3 ((-1 : Int32), M).2 T := fun h v => by
    rw [pick_f h]; exact ⟨rfl, KP.refl _ _, KR.refl _, h3⟩
  rw [f_X12_spare, show f_X12_isIn Γ M (J n) 1 99 = _ from m_isInJ n1 n2 (a := 1) (b := 99) (by omega) (by omega) (by omega) (by omega), wp_bind, wp_some]
  by_cases c1 : ¬ (1 ≤ n ∧ n ≤ 99)
  · rw [bi_f c1, wp_ite_t rfl, wp_some]; exact no (by omega) _
  have c1 := Classical.not_not.mp c1
  rw [bi_t c1, wp_ite_f (by decide), show f_X12_isIn Γ M (J w) 0 1 = _ from m_isInJ w1 w2 (a := 0) (b := 1) (by omega) (by omega) (by omega) (by omega), wp_bind, wp_some]
  by_cases c2 : ¬ (0 ≤ w ∧ w ≤ 1)
  · rw [bi_f c2, wp_ite_t rfl, wp_some]; exact no (by omega) _
  have c2 := Classical.not_not.mp c2
  rw [bi_t c2, wp_ite_f (by decide), wp_ck_t (GKk102 hG), r_many hG hR h3 hw, wp_bind, wp_some]
  by_cases c : manyP T
  · rw [bi_t c, wp_ite_f (by decide), wp_some]; exact no (fun h => h.2.2.2.2 c) _
  rw [bi_f c, wp_ite_t rfl, pick_t ⟨by omega, by omega, by omega, by omega, c⟩]
  have hr4 : tR T ≤ 4 := by unfold manyP at c; omega
  have hh6 : tH T ≤ 6 := by unfold manyP at c; omega
  have hl := nd8 hnd hg
  obtain ⟨nn, rfl⟩ : ∃ k : Nat, n = k := ⟨n.toNat, by omega⟩
  rw [Int.toNat_natCast]
  obtain ⟨b, lb, hT⟩ := h3
  have hTB : TMB M T := ⟨b, T.2.1, -1, lb, hT, fun r hr => by rw [if_neg (by omega)]; show (T.2.1 r : Int) - 0 = T.2.1 r; omega⟩
  exact r_sp36 (nn := nn) hG hw hL2 hRH hr4 hh6 wL (by omega) (fun h hh => by have := hg h hh; omega) (by omega) w1 w2 c2 (tR T) rhFU M 0 (by omega) (by have := FU_big; omega) hR hTB h4 h7
end
