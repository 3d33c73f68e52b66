/-! THE REFERENCE'S QUEUE -/
def MQu (M : rhM) (R : Nat) (Q : List Nd) : Prop := M.1 102 60 = J Q.length ∧ (∀ (j : Nat) (q : Nd), Q[j]? = some q → M.1 141 j = J (stn R q.1) ∧ M.1 139 (stn R q.1) = J q.2.2.2 ∧ (0 < j → M.1 137 (stn R q.1) = J q.2.2.1 ∧ ∀ (i : Nat) (pq : Nd), i < j → q.2.1 = (i : Int) → Q[i]? = some pq → M.1 138 (stn R q.1) = J (stn R pq.1)) ∧ (j = 0 → M.1 138 (stn R q.1) = J (-1))) ∧
  ∀ s, s < 246960 → (∀ L, L ∈ arrs Q → stn R L ≠ s) → M.1 139 s = J (-1)
def W3 : List Nat := [102, 127, 128, 129, 130, 137, 138, 139, 141]
theorem MQ_push {M M1 : rhM} {R H : Nat} {Q : List Nd} (h : MQu M R Q) (hv : ∀ L, L ∈ arrs Q → WA R H L) {L : Ar} (wL : WA R H L) (hn : L ∉ arrs Q) (hinj : ∀ A B, WA R H A → WA R H B → stn R A = stn R B → A = B) {i : Nat} {q : Nd} (hq : Q[i]? = some q) {cd : Nat}
    (hM1 : M1 = rhsi (rhsi (rhsi (rhsi (rhsi M 139 (stn R L) (J ((q.2.2.2 + 1 : Nat) : Int))) 138 (stn R L) (J (stn R q.1))) 137 (stn R L) (J cd)) 141 Q.length (J (stn R L))) 102 60 (J ((Q.length + 1 : Nat) : Int))) : MQu M1 R (Q ++ [(L, (i : Int), cd, q.2.2.2 + 1)]) := by
  obtain ⟨h1, h2, h3⟩ := h
  have hil := (List.getElem?_eq_some_iff.mp hq).1
  have e141 : ∀ j, M1.1 141 j = if j = Q.length then J (stn R L) else M.1 141 j := fun j => by
    rw [hM1, si_1, if_neg (by omega), si_1]
    by_cases c : j = Q.length
    · rw [if_pos ⟨rfl, c⟩, if_pos c]
    · rw [if_neg (by omega), if_neg c, si_1, if_neg (by omega), si_1, if_neg (by omega), si_1, if_neg (by omega)]
  have e139 : ∀ j, M1.1 139 j = if j = stn R L then J ((q.2.2.2 + 1 : Nat) : Int) else M.1 139 j := fun j => by
    rw [hM1, si_1, if_neg (by omega), si_1, if_neg (by omega), si_1, if_neg (by omega), si_1, if_neg (by omega), si_1]
    by_cases c : j = stn R L
    · rw [if_pos ⟨rfl, c⟩, if_pos c]
    · rw [if_neg (by omega), if_neg c]
  have e138 : ∀ j, M1.1 138 j = if j = stn R L then J (stn R q.1) else M.1 138 j := fun j => by
    rw [hM1, si_1, if_neg (by omega), si_1, if_neg (by omega), si_1, if_neg (by omega), si_1]
    by_cases c : j = stn R L
    · rw [if_pos ⟨rfl, c⟩, if_pos c]
    · rw [if_neg (by omega), if_neg c, si_1, if_neg (by omega)]
  have e137 : ∀ j, M1.1 137 j = if j = stn R L then J cd else M.1 137 j := fun j => by
    rw [hM1, si_1, if_neg (by omega), si_1, if_neg (by omega), si_1]
    by_cases c : j = stn R L
    · rw [if_pos ⟨rfl, c⟩, if_pos c]
    · rw [if_neg (by omega), if_neg c, si_1, if_neg (by omega), si_1, if_neg (by omega)]
  have hne : ∀ (j : Nat) (x : Nd), Q[j]? = some x → stn R x.1 ≠ stn R L := fun j x hx e => by
    have hm : x.1 ∈ arrs Q := List.mem_map.mpr ⟨x, List.mem_of_getElem? hx, rfl⟩
    exact hn (hinj _ _ (hv _ hm) wL e ▸ hm)
  refine ⟨by rw [hM1, si_1, if_pos ⟨rfl, rfl⟩, List.length_append]; rfl, fun j x hx => ?_, fun s hs hall => ?_⟩
  · by_cases hj : j < Q.length
    · rw [List.getElem?_append_left hj] at hx
      obtain ⟨a1, a2, a3, a4⟩ := h2 j x hx
      have hn2 := hne j x hx
      rw [e141, e139, e138, e137, if_neg (by omega), if_neg hn2, if_neg hn2, if_neg hn2]
      refine ⟨a1, a2, fun h0 => ⟨(a3 h0).1, fun i' pq hlt hi' hpq => ?_⟩, a4⟩
      rw [List.getElem?_append_left (by omega)] at hpq
      exact (a3 h0).2 i' pq hlt hi' hpq
    · have hjl := (List.getElem?_eq_some_iff.mp hx).1
      rw [List.length_append, List.length_singleton] at hjl
      have hj2 : j = Q.length := by omega
      subst hj2
      rw [List.getElem?_append_right (Nat.le_refl _), Nat.sub_self] at hx
      cases hx
      dsimp only
      rw [e141, e139, e138, e137, if_pos rfl, if_pos rfl, if_pos rfl, if_pos rfl]
      refine ⟨rfl, rfl, fun _ => ⟨rfl, fun i' pq hlt hi' hpq => ?_⟩, fun h0 => by omega⟩
      have hii : i' = i := by omega
      subst hii
      rw [List.getElem?_append_left hil, hq] at hpq
      cases hpq; rfl
  · rw [e139]
    have hsL : s ≠ stn R L := fun e => hall L (by rw [arrs_app]; simp [arrs]) e.symm
    rw [if_neg hsL]
    exact h3 s hs (fun A hA => hall A (by rw [arrs_app]; exact List.mem_append_left _ hA))
theorem MQu.fr {M M' : rhM} {R : Nat} {Q : List Nd} (h : MQu M R Q) (h60 : M'.1 102 60 = M.1 102 60) (h7 : M'.1 137 = M.1 137) (h8 : M'.1 138 = M.1 138) (h9 : M'.1 139 = M.1 139) (h1 : M'.1 141 = M.1 141) : MQu M' R Q := by
  unfold MQu; rw [h60, h7, h8, h9, h1]; exact h
theorem ME.fr {M M' : rhM} {md : Md} (h : ME M md) (h1 : M'.1 102 61 = M.1 102 61) (h2 : M'.1 102 53 = M.1 102 53) (h3 : M'.1 102 62 = M.1 102 62) (h4 : M'.1 136 = M.1 136) : ME M' md := by
  unfold ME; rw [h1, h2, h3, h4]; exact h
section
variable {Γ : rhG} {b : Nat} {T : Tn} {g lb : Int} {L : Ar}
theorem stn_inj {M : rhM} (hG : GK Γ) (hR : MR M) (hT : TM M b T g lb) (hw : TWf T) (h4 : tR T ≤ 4) (h6 : tH T ≤ 6) : ∀ A B, WA (tR T) (tH T) A → WA (tR T) (tH T) B → stn (tR T) A = stn (tR T) B → A = B := by
  intro A B hA hB e
  obtain ⟨M1, e1, -, r1⟩ := m_layState hG hR hT hw hA h4 h6
  obtain ⟨M2, e2, -, r2⟩ := m_layState hG hR hT hw hB h4 h6
  rw [e, e2] at e1
  cases e1
  exact RA_inj hA hB hw.2.1 r1 r2
/-- what stands fast while the reference goes on from a state -/
def MI (M : rhM) (b : Nat) (T : Tn) (g lb : Int) (L : Ar) (Q : List Nd) (f61 : Nat → Int32) : Prop := MR M ∧ TM M b T g lb ∧ RA M 143 0 144 0 L ∧ MQu M (tR T) Q ∧ ∀ k, k ≠ 60 → M.1 102 k = f61 k
theorem MI.fr {M M' : rhM} {f61 : Nat → Int32} {Q : List Nd} (h : MI M b T g lb L Q f61) {W : List Nat} (hF : Fr W M M') (hW : ∀ r, r ∈ [102, 105, 106, 109, 110, 108, 119, 111, 112, 113, 114, 115, 116, 123, 124, 137, 138, 139, 141, 143, 144] → r ∉ W) : MI M' b T g lb L Q f61 := by
  obtain ⟨h1, h2, h3, h4, h5⟩ := h
  have e := hF.i (hW 102 (by decide))
  refine ⟨h1.fr hF, h2.fr hF (by rw [e]) (by rw [e]) (by rw [e]) (fun r hr => hW r ?_), h3.fr hF (hW _ (by decide)) (hW _ (by decide)), h4.fr (by rw [e]) (hF.i (hW _ (by decide))) (hF.i (hW _ (by decide))) (hF.i (hW _ (by decide))) (hF.i (hW _ (by decide))), fun k hk => by rw [e]; exact h5 k hk⟩
  simp only [List.mem_cons, List.not_mem_nil, or_false] at hr ⊢; omega
set_option maxHeartbeats 4000000 in
theorem m_sp46 (hG : GK Γ) (hw : TWf T) (hRH : 0 < tH T → 0 < tR T) (h4 : tR T ≤ 4) (h6 : tH T ≤ 6) (wL : WA (tR T) (tH T) L) {L0 : Ar} {f m : Nat} (hf : f < tR T) (hm1 : 1 ≤ m) (hm : m ≤ (rl L f).length) {i : Nat} {q : Nd} (hqL : q.1 = L) (K : rhM → Nat → Int32 → Int32 → Int32 → Option rhM) (Qp : rhM → Prop) (f61 : Nat → Int32) : ∀ (d n : Nat) (M : rhM) (k : Nat) (Q : List Nd),
    MI M b T g lb L Q f61 → QW T L0 Q → Q[i]? = some q → k + d = tR T → d < n →
    (∀ M', Fr W3 M M' → MI M' b T g lb L (putL L i q.2.2.2 (pulT T L f m k d) Q) f61 → wp (K M' 102 (J (stn (tR T) L)) (J f) (J m)) Qp) →
    wp (f_X12_spread_46 K Γ n M 102 (J (stn (tR T) L)) (J f) (J m) (J k)) Qp := by
  have w1 := hw.1
  have w2 := hw.2.1
  have hlen := wL.len
  have hrl := wL.rl_len hf
  intro d
  induction d with
  | zero =>
    intro n M k Q hI hQW hq hk hn hK
    obtain ⟨n, rfl⟩ : ∃ k, n = k + 1 := ⟨n - 1, by omega⟩
    have hRM := m_railMany hG hI.1 hI.2.1
    rw [f_X12_spread_46, wp_ck_t (GKk102 hG), hRM, wp_bind, wp_some, wp_ite_f (by rw [J_lt (by omega) (by omega) (by omega) (by omega)]; omega)]
    exact hK M (Fr.refl _ _) (by simpa [pulT, putL] using hI)
  | succ d ih =>
    intro n M k Q hI hQW hq hk hn hK
    obtain ⟨n, rfl⟩ : ∃ k, n = k + 1 := ⟨n - 1, by omega⟩
    have hI0 := hI
    obtain ⟨hR, hT, hAt, hMQ, h61⟩ := hI
    have hRM := m_railMany hG hR hT
    rw [f_X12_spread_46, wp_ck_t (GKk102 hG), hRM, wp_bind, wp_some, wp_ite_t (by rw [J_lt (by omega) (by omega) (by omega) (by omega)]; omega), wp_bind]
    refine (m_layAt hG hR hAt (by omega) (by rw [wL.1]; omega)).mono (fun M1 h1 => ?_)
    obtain ⟨F1, A1⟩ := h1
    have I1 := hI0.fr F1 (by decide)
    rw [wp_bind]
    refine (m_isLawful hG I1.1 I1.2.1 hw A1 wL (J f) (J m) (J k)).mono (fun r hr => ?_)
    obtain ⟨hr1, F2⟩ := hr
    rw [J_toInt (by omega) (by omega), J_toInt (by omega) (by omega), J_toInt (by omega) (by omega), Int.toNat_natCast, Int.toNat_natCast, Int.toNat_natCast] at hr1
    have I2 := I1.fr F2 (by decide)
    have A2 := A1.fr F2 (by decide) (by decide)
    have F12 : Fr W3 M r.2 := (F1.sub (by decide)).trans (F2.sub (by decide))
    by_cases c : okP T L f m k
    · rw [hr1, bi_t ⟨by omega, by omega, by omega, c⟩, wp_ite_f (by decide), wp_bind]
      obtain ⟨c1, c2, c3, c4, c5⟩ := c.1
      have wm := wL.mvd c3 c1 c2 c5
      refine (m_moves hG I2.1 w1 w2 A2 wL c1 c2 c3 c4 c5).mono (fun M3 h3 => ?_)
      obtain ⟨F3, A3⟩ := h3
      have I3 := I2.fr F3 (by decide)
      have F13 : Fr W3 M M3 := F12.trans (F3.sub (by decide))
      obtain ⟨hR3, hT3, hAt3, hMQ3, h613⟩ := I3
      have hst := m_stateOf hG hR3 hT3 hw A3 wm
      have hsl := stn_lt wm h6
      have hinj := stn_inj hG hR3 hT3 hw h4 h6
      have hpm : (f, m, k) ∈ pulls T L := pulls_in c
      have hQl := hQW.len (by omega) hRH
      have hwm := ways_max h4 h6
      have eput : pulT T L f m k (d + 1) = (f, m, k) :: pulT T L f m (k + 1) d := by rw [pulT_s, if_pos (okb_iff.mpr c)]; rfl
      rw [eput] at hK
      rw [hst, wp_bind, wp_some, MRf56 hR3, wp_ck_t (GKk139 hG), GKl139 hG, J_toInt (by omega) (by omega), wp_ck_t (by omega), J_clamp (by omega) (by omega), Int.toNat_natCast]
      by_cases hin : mv L f m k ∈ arrs Q
      · obtain ⟨x, hx, hxe⟩ := List.mem_map.mp hin
        obtain ⟨j, hj, hje⟩ := List.getElem_of_mem hx
        have hjq : Q[j]? = some x := by rw [List.getElem?_eq_getElem hj, hje]
        have h139 := (hMQ3.2.1 j x hjq).2.1
        rw [hxe] at h139
        have hdx : x.2.2.2 ≤ 60480 := by
          have h7 := hQW.dep_le j hj
          have e1 : dep Q j = x.2.2.2 := by unfold dep; rw [hjq]
          omega
        have e1 : put1 L i q.2.2.2 Q (f, m, k) = Q := by unfold put1; exact if_pos hin
        rw [putL, e1] at hK
        rw [h139, wp_ite_f (by rw [show (0 : Int32) = J 0 from rfl, J_lt (by omega) (by omega) (by omega) (by omega)]; omega), f_X12_spread_163, show (1 : Int32) = J 1 from rfl, J_add, J_suc]
        exact ih n M3 (k + 1) Q ⟨hR3, hT3, hAt3, hMQ3, h613⟩ hQW hq (by omega) (by omega) (fun M' x y => hK M' (F13.trans x) y)
      · have h139 := hMQ3.2.2 _ hsl (fun A hA e => hin (hinj _ _ (hQW.2.1 A hA) wm e ▸ hA))
        have hqs := hMQ3.2.1 i q hq
        have hil := (List.getElem?_eq_some_iff.mp hq).1
        have hslL := stn_lt wL h6
        rw [hqL] at hqs
        have h60 := hMQ3.1
        have e1 : put1 L i q.2.2.2 Q (f, m, k) = Q ++ [(mv L f m k, (i : Int), cdT (f, m, k), q.2.2.2 + 1)] := by unfold put1; exact if_neg hin
        rw [putL, e1] at hK
        have hQW2 : QW T L0 (Q ++ [(mv L f m k, (i : Int), cdT (f, m, k), q.2.2.2 + 1)]) := by
          rw [← e1, ← hqL]; exact hQW.put hq (by rw [hqL]; exact hpm)
        have hlen2 := hQW2.len (by omega) hRH
        rw [List.length_append, List.length_singleton] at hlen2
        have hcode : J 100 * J f + J 10 * J m + J k = J ((cdT (f, m, k) : Nat) : Int) := by
          rw [J_mul, J_mul, J_add, J_add]; unfold cdT; congr 1
        rw [h139, wp_ite_t (by decide), J_toInt (by omega) (by omega), wp_ck_t (by omega), MRf55 hR3, wp_ck_t (GKk138 hG), GKl138 hG, wp_ck_t (by omega), MRf54 hR3, wp_ck_t (GKk137 hG), GKl137 hG, wp_ck_t (by omega), MRf58 hR3, wp_ck_t (GKk141 hG), GKl141 hG, J_clamp (by omega) (by omega), Int.toNat_natCast, hqs.2.1]
        have e60 : (rhsi (rhsi (rhsi M3 139 (stn (tR T) (mv L f m k)) (J q.2.2.2 + 1)) 138 (stn (tR T) (mv L f m k)) (J (stn (tR T) L))) 137 (stn (tR T) (mv L f m k)) (100 * J f + 10 * J m + J k)).1 102 60 = J Q.length := by
          rw [si_1, if_neg (by omega), si_1, if_neg (by omega), si_1, if_neg (by omega)]; exact h60
        dsimp only
        rw [e60, J_toInt (by omega) (by omega), wp_ck_t (by omega), J_clamp (by omega) (by omega), Int.toNat_natCast]
        rw [si_1, if_neg (by omega), e60, show (1 : Int32) = J 1 from rfl, J_add, J_suc, J_add, J_suc, show (100 : Int32) = J 100 from rfl, show (10 : Int32) = J 10 from rfl, hcode]
        have hF4 : Fr [102, 137, 138, 139, 141] M3 (rhsi (rhsi (rhsi (rhsi (rhsi M3 139 (stn (tR T) (mv L f m k)) (J ((q.2.2.2 + 1 : Nat) : Int))) 138 (stn (tR T) (mv L f m k)) (J (stn (tR T) q.1))) 137 (stn (tR T) (mv L f m k)) (J (cdT (f, m, k)))) 141 Q.length (J (stn (tR T) (mv L f m k)))) 102 60 (J ((Q.length + 1 : Nat) : Int))) :=
          (((((Fr.refl _ _).si (by simp) _ _).si (by simp) _ _).si (by simp) _ _).si (by simp) _ _).si (by simp) _ _
        have hpush := MQ_push (M := M3) hMQ3 hQW.2.1 wm hin hinj hq (cd := cdT (f, m, k)) rfl
        have h102 : ∀ j, j ≠ 60 → (rhsi (rhsi (rhsi (rhsi (rhsi M3 139 (stn (tR T) (mv L f m k)) (J ((q.2.2.2 + 1 : Nat) : Int))) 138 (stn (tR T) (mv L f m k)) (J (stn (tR T) q.1))) 137 (stn (tR T) (mv L f m k)) (J (cdT (f, m, k)))) 141 Q.length (J (stn (tR T) (mv L f m k)))) 102 60 (J ((Q.length + 1 : Nat) : Int))).1 102 j = M3.1 102 j := fun j hj => by
          rw [si_1, if_neg (by omega), si_1, if_neg (by omega), si_1, if_neg (by omega), si_1, if_neg (by omega), si_1, if_neg (by omega)]
        rw [hqL] at hF4 hpush h102
        generalize rhsi (rhsi (rhsi (rhsi (rhsi M3 139 (stn (tR T) (mv L f m k)) (J ((q.2.2.2 + 1 : Nat) : Int))) 138 (stn (tR T) (mv L f m k)) (J (stn (tR T) L))) 137 (stn (tR T) (mv L f m k)) (J (cdT (f, m, k)))) 141 Q.length (J (stn (tR T) (mv L f m k)))) 102 60 (J ((Q.length + 1 : Nat) : Int)) = M4 at *
        have I4 : MI M4 b T g lb L (Q ++ [(mv L f m k, (i : Int), cdT (f, m, k), q.2.2.2 + 1)]) f61 := ⟨hR3.fr hF4, hT3.fr hF4 (h102 34 (by decide)) (h102 44 (by decide)) (h102 45 (by decide)) (by decide), hAt3.fr hF4 (by decide) (by decide), hpush, fun j hj => by rw [h102 j hj]; exact h613 j hj⟩
        rw [f_X12_spread_163, show (1 : Int32) = J 1 from rfl, J_add, J_suc]
        exact ih n M4 (k + 1) _ I4 hQW2 (pre_get (List.prefix_append _ _) hq) (by omega) (by omega) (fun M' x y => hK M' ((F13.trans (hF4.sub (by decide))).trans x) y)
    · rw [hr1, bi_f (fun h => c h.2.2.2), wp_ite_t rfl, f_X12_spread_163, show (1 : Int32) = J 1 from rfl, J_add, J_suc]
      rw [pulT_s, okb_f c] at hK
      simp only [Bool.false_eq_true, if_false, List.nil_append] at hK
      exact ih n r.2 (k + 1) Q I2 hQW hq (by omega) (by omega) (fun M' x y => hK M' (F12.trans x) y)
theorem putL_pulls {L : Ar} {i dd : Nat} {T : Tn} {f m d : Nat} {Q : List Nd} : putL L i dd (pulM T L f m (d + 1)) Q = putL L i dd (pulM T L f (m + 1) d) (putL L i dd (pulT T L f m 0 (tR T)) Q) := by rw [pulM_s, putL_app]
theorem QWputM {L0 : Ar} {i : Nat} {q : Nd} {Q : List Nd} (h : QW T L0 Q) (hq : Q[i]? = some q) (hqL : q.1 = L) (l : List Tr) (hl : ∀ a, a ∈ l → a ∈ pulls T L) : QW T L0 (putL L i q.2.2.2 l Q) := by
  rw [← hqL]; exact QW.putL l Q h hq (fun a ha => by rw [hqL]; exact hl a ha)
theorem pulT_sub {f m k d : Nat} : ∀ a, a ∈ pulT T L f m k d → a ∈ pulls T L := by
  intro a ha
  unfold pulT at ha
  rw [List.mem_map] at ha
  obtain ⟨t, h, rfl⟩ := ha
  exact pulls_in (okb_iff.mp (List.mem_filter.mp h).2)
theorem pulM_sub {f m d : Nat} : ∀ a, a ∈ pulM T L f m d → a ∈ pulls T L := by
  intro a ha
  unfold pulM at ha
  rw [List.mem_flatMap] at ha
  obtain ⟨m', -, h⟩ := ha
  exact pulT_sub a h
theorem m_sp16 (hG : GK Γ) (hw : TWf T) (hRH : 0 < tH T → 0 < tR T) (h4 : tR T ≤ 4) (h6 : tH T ≤ 6) (wL : WA (tR T) (tH T) L) {L0 : Ar} {f : Nat} (hf : f < tR T) {i : Nat} {q : Nd} (hqL : q.1 = L) (K : rhM → Nat → Int32 → Int32 → Option rhM) (Qp : rhM → Prop) (f61 : Nat → Int32) : ∀ (d n : Nat) (M : rhM) (m : Nat) (Q : List Nd),
    MI M b T g lb L Q f61 → QW T L0 Q → Q[i]? = some q → m + d = (rl L f).length → d < n →
    (∀ M', Fr W3 M M' → MI M' b T g lb L (putL L i q.2.2.2 (pulM T L f (m + 1) d) Q) f61 → wp (K M' 102 (J (stn (tR T) L)) (J f)) Qp) →
    wp (f_X12_spread_16 K Γ n M 102 (J (stn (tR T) L)) (J f) (J ((m + 1 : Nat) : Int))) Qp := by
  have w1 := hw.1
  have w2 := hw.2.1
  have hrl := wL.rl_len hf
  have hc := cum_succ L f
  have hcl := wL.le (r := f + 1) (by omega)
  intro d
  -- what the loop's head says
  have head : ∀ (n : Nat) (M : rhM) (m : Nat) (Q : List Nd), m ≤ 8 → MI M b T g lb L Q f61 → wp (f_X12_spread_39 (f_X12_spread_16 K Γ n) K Γ M 102 (J (stn (tR T) L)) (J f) (J ((m + 1 : Nat) : Int)) (J ((m + 1 : Nat) : Int)) (J (cum L (f + 1))) (J (cum L f))) Qp → wp (f_X12_spread_16 K Γ (n + 1) M 102 (J (stn (tR T) L)) (J f) (J ((m + 1 : Nat) : Int))) Qp := by
    intro n M m Q hm8 hI h
    obtain ⟨hR, hT, hAt, hMQ, h61⟩ := hI
    have e1 := hAt.2 f (by rw [wL.1]; exact hf)
    rw [Nat.zero_add] at e1
    rw [f_X12_spread_16, wp_ck_t (GKk102 hG), MRf64 hR, wp_ck_t (GKk144 hG), GKl144 hG, J_toInt (by omega) (by omega), wp_ck_t (by omega), J_clamp (by omega) (by omega), Int.toNat_natCast, e1]
    by_cases e : f = 0
    · subst e
      rw [wp_ite_t (show J ((0 : Nat) : Int) = 0 from rfl)]; exact h
    · obtain ⟨f', rfl⟩ : ∃ k, f = k + 1 := ⟨f - 1, by omega⟩
      have e2 := hAt.2 f' (by rw [wL.1]; omega)
      rw [Nat.zero_add] at e2
      rw [wp_ite_f (by rw [show (0 : Int32) = J 0 from rfl, J_eq (by omega) (by omega) (by omega) (by omega)]; omega), show (1 : Int32) = J 1 from rfl, J_sub, show ((f' + 1 : Nat) : Int) - 1 = f' by omega, J_toInt (by omega) (by omega), wp_ck_t (by omega), J_clamp (by omega) (by omega), Int.toNat_natCast, e2]
      exact h
  induction d with
  | zero =>
    intro n M m Q hI hQW hq hm hn hK
    obtain ⟨n, rfl⟩ : ∃ k, n = k + 1 := ⟨n - 1, by omega⟩
    refine head n M m Q (by omega) hI ?_
    rw [f_X12_spread_39, J_sub, wp_ite_t (by rw [J_lt (by omega) (by omega) (by omega) (by omega)]; omega)]
    exact hK M (Fr.refl _ _) (by simpa [pulM, putL] using hI)
  | succ d ih =>
    intro n M m Q hI hQW hq hm hn hK
    obtain ⟨n, rfl⟩ : ∃ k, n = k + 1 := ⟨n - 1, by omega⟩
    refine head n M m Q (by omega) hI ?_
    rw [f_X12_spread_39, J_sub, wp_ite_f (by rw [J_lt (by omega) (by omega) (by omega) (by omega)]; omega), show (0 : Int32) = J ((0 : Nat) : Int) from rfl]
    refine m_sp46 hG hw hRH h4 h6 wL (L0 := L0) hf (m := m + 1) (by omega) (by omega) hqL _ Qp f61 (tR T) rhFU M 0 Q hI hQW hq (by omega) (by have := FU_big; omega) (fun M' a1 a2 => ?_)
    rw [f_X12_spread_169, show (1 : Int32) = J 1 from rfl, J_add, J_suc]
    rw [putL_pulls] at hK
    exact ih n M' (m + 1) _ a2 (QWputM hQW hq hqL _ pulT_sub) (pre_get (putL_pre _ _ _ _ _) hq) (by omega) (by omega) (fun M'' x y => hK M'' (a1.trans x) y)
theorem m_spread (hG : GK Γ) (hw : TWf T) (hRH : 0 < tH T → 0 < tR T) (h4 : tR T ≤ 4) (h6 : tH T ≤ 6) (wL : WA (tR T) (tH T) L) {L0 : Ar} {M : rhM} (hR : MR M) (hT : TM M b T g lb) (hA : RA M 128 0 129 0 L) {Q : List Nd} (hMQ : MQu M (tR T) Q) (hQW : QW T L0 Q) {i : Nat} {q : Nd} (hq : Q[i]? = some q) (hqL : q.1 = L) (Qp : rhM → Prop)
    (hQ : ∀ M', Fr (W3 ++ [143, 144]) M M' → MR M' → TM M' b T g lb → MQu M' (tR T) (growA T Q i) → (∀ k, k ≠ 60 → M'.1 102 k = M.1 102 k) → Qp M') :
    wp (f_X12_spread Γ M 102 (J (stn (tR T) L))) Qp := by
  have w1 := hw.1
  have w2 := hw.2.1
  have hgrow : growA T Q i = putL L i q.2.2.2 (pulls T L) Q := by unfold growA; rw [hq, ← hqL]
  rw [hgrow] at hQ
  rw [f_X12_spread, wp_ck_t (GKk102 hG), wp_bind]
  refine (m_keepAt hG hR hA (by rw [wL.len]; exact w2) (by rw [wL.1]; exact w1)).mono (fun M1 h1 => ?_)
  obtain ⟨F1, A1⟩ := h1
  have e102 : M1.1 102 = M.1 102 := F1.i (by decide)
  have I1 : MI M1 b T g lb L Q (M.1 102) := ⟨hR.fr F1, hT.fr F1 (by rw [e102]) (by rw [e102]) (by rw [e102]) (by decide), A1, hMQ.fr (by rw [e102]) (F1.i (by decide)) (F1.i (by decide)) (F1.i (by decide)) (F1.i (by decide)), fun k _ => by rw [e102]⟩
  have key : ∀ (d n : Nat) (M2 : rhM) (f : Nat) (Q2 : List Nd), Fr W3 M1 M2 → MI M2 b T g lb L Q2 (M.1 102) → QW T L0 Q2 → Q2[i]? = some q → f + d = tR T → d < n → putL L i q.2.2.2 (pulF T L f d) Q2 = putL L i q.2.2.2 (pulls T L) Q → wp (f_X12_spread_6 Γ n M2 102 (J (stn (tR T) L)) (J f)) Qp := by
    intro d
    induction d with
    | zero =>
      intro n M2 f Q2 hF hI hW hq2 hf hn he
      obtain ⟨n, rfl⟩ : ∃ k, n = k + 1 := ⟨n - 1, by omega⟩
      have hRM := m_railMany hG hI.1 hI.2.1
      rw [f_X12_spread_6, wp_ck_t (GKk102 hG), hRM, wp_bind, wp_some, wp_ite_f (by rw [J_lt (by omega) (by omega) (by omega) (by omega)]; omega), wp_some]
      have he2 : Q2 = putL L i q.2.2.2 (pulls T L) Q := by simpa [pulF, putL] using he
      rw [← he2] at hQ
      exact hQ M2 ((F1.sub (by decide)).trans (hF.sub (by decide))) hI.1 hI.2.1 hI.2.2.2.1 hI.2.2.2.2
    | succ d ih =>
      intro n M2 f Q2 hF hI hW hq2 hf hn he
      obtain ⟨n, rfl⟩ : ∃ k, n = k + 1 := ⟨n - 1, by omega⟩
      have hRM := m_railMany hG hI.1 hI.2.1
      rw [pulF_s, putL_app] at he
      rw [f_X12_spread_6, wp_ck_t (GKk102 hG), hRM, wp_bind, wp_some, wp_ite_t (by rw [J_lt (by omega) (by omega) (by omega) (by omega)]; omega), show (1 : Int32) = J ((0 + 1 : Nat) : Int) from rfl]
      refine m_sp16 hG hw hRH h4 h6 wL (L0 := L0) (by omega) hqL _ Qp (M.1 102) (rl L f).length rhFU M2 0 Q2 hI hW hq2 (by omega) (by have := FU_big; have := wL.rl_len (r := f) (by omega); omega) (fun M3 a1 a2 => ?_)
      rw [f_X12_spread_175, show (1 : Int32) = J 1 from rfl, J_add, J_suc]
      exact ih n M3 (f + 1) _ (hF.trans a1) a2 (QWputM hW hq2 hqL _ pulM_sub) (pre_get (putL_pre _ _ _ _ _) hq2) (by omega) (by omega) he
  exact key (tR T) rhFU M1 0 Q (Fr.refl _ _) I1 hQW hq (by omega) (by have := FU_big; omega) rfl
end
