section
variable {Γ : rhG} {b : Nat} {T : Tn} {g lb : Int} {L0 : Ar}
def WS : List Nat := [102, 127, 128, 129, 130, 139, 140, 143, 144, 146, 147, 148]
def IvS (M0 : rhM) (b : Nat) (T : Tn) (g lb : Int) (L0 : Ar) (L : Ar) (Z : List Nat) (sn dL nL : Nat) (M : rhM) (dl : List Tr) : Prop :=
  ∃ Rs dw st hp n, MR M ∧ TM M b T g lb ∧ RA M 143 0 144 0 L ∧ Fr WS M0 M ∧ (∀ k, k ≠ 70 → k ≠ 71 → M.1 102 k = M0.1 102 k) ∧ (M.1 102 71 = J Z.length ∧ Sg (M.1 148) 0 Z) ∧ HK M Rs dw st hp n ∧ SRm T L0 Rs dw st hp n Z ∧ RXD T Rs dw st (fun s a => (s ∈ Z ∧ s ≠ sn) ∨ (s = sn ∧ a ∈ dl)) ∧ dw sn = dL ∧ st sn = nL
def MaS (M0 : rhM) (b : Nat) (T : Tn) (g lb : Int) (L0 : Ar) (Z : List Nat) (M : rhM) : Prop :=
  ∃ Rs dw st hp n, MR M ∧ TM M b T g lb ∧ Fr WS M0 M ∧ (∀ k, k ≠ 70 → k ≠ 71 → M.1 102 k = M0.1 102 k) ∧ (M.1 102 71 = J Z.length ∧ Sg (M.1 148) 0 Z) ∧ HK M Rs dw st hp n ∧ SRm T L0 Rs dw st hp n Z ∧ RXD T Rs dw st (fun s _ => s ∈ Z)
theorem IvS_i3 (hG : GK Γ) (hw : TWf T) (hRH : 0 < tH T → 0 < tR T) (h4 : tR T ≤ 4) (h6 : tH T ≤ 6) (hIJ : IJ T) {M0 : rhM} {L : Ar} (wL : WA (tR T) (tH T) L) (w0 : WA (tR T) (tH T) L0) {Z : List Nat} {sn dL nL : Nat} (hsn : stn (tR T) L = sn) (hZ : Z[Z.length - 1]? = some sn) (hZ0 : 0 < Z.length) : PI3 Γ T L (IvS M0 b T g lb L0 L Z sn dL nL) dL nL := by
  intro M dl a hI ha
  obtain ⟨Rs, dw, st, hp, n, hR, hT, hAt, hF, h102, h71, hK, hSR, hRX, rfl, rfl⟩ := hI
  have hlen := hSR.len (by omega) hRH
  have hwm := ways_max h4 h6
  have wm := pulls_WA wL ha
  have hsl := stn_lt wm h6
  have hsZ : sn ∈ Z := List.mem_of_getElem? hZ
  have hRsn : Rs sn := (hSR.1 sn).mpr (Or.inl hsZ)
  obtain ⟨L1, r, wL1, e1, hr, hrl⟩ := hSR.2.2.1 sn hRsn
  have eL : L1 = L := hIJ L1 L wL1 wL (e1.symm.trans hsn.symm)
  subst eL
  have hst := hSR.2.2.2.1 _ _ hZ
  have hw9 := RwR_w hw h6 w0 hr
  have hwt := wt_rng hw h6 wL ha
  obtain ⟨s1, hs1⟩ : ∃ s, stn (tR T) (mvA L1 a) = s := ⟨_, rfl⟩
  have hlast : ∀ z, z ∈ Z → kk dw st z ≤ kk dw st sn := fun z hz => by
    obtain ⟨p, hp1, e⟩ := List.getElem_of_mem hz
    exact hSR.2.2.2.2.2.2.1 p (Z.length - 1) z _ (by omega) (by rw [List.getElem?_eq_getElem hp1, e]) hZ
  rw [hs1] at hsl ⊢
  refine m_reaches hG hR hK hsl (b := dw sn + wtA T L1 a) (pl := st sn + 1) (by omega) (by omega) (by omega) (fun hRs hnk => ?_) _ (fun hRs hkk => ?_) (fun M' hp' n' c1 c2 c3 c4 c5 c6 c7 => ?_)
  · rcases (hSR.1 s1).mp hRs with hz | hj
    · exact absurd (kk_new (hlast _ hz)) hnk
    · exact hj
  · refine ⟨Rs, dw, st, hp, n, hR, hT, hAt, hF, h102, h71, hK, hSR, fun L' a' wL' hP ha' => ?_, rfl, rfl⟩
    by_cases c : stn (tR T) L' = sn ∧ a' = a
    · obtain ⟨c1, rfl⟩ := c
      have eL := hIJ L' L1 wL' wL (c1.trans hsn.symm)
      subst eL
      rw [hs1, hsn]
      refine ⟨hRs, ?_⟩
      rw [Nat.add_mul] at hkk
      show _ ≤ dw sn * 100000 + st sn + _ + 1
      refine Nat.le_trans hkk (Nat.le_of_eq ?_)
      rw [Nat.add_assoc, Nat.add_assoc, Nat.add_assoc]
      congr 1
      rw [← Nat.add_assoc, ← Nat.add_assoc, Nat.add_comm (st sn)]
    · refine hRX L' a' wL' ?_ ha'
      rcases hP with h | ⟨h1, h2⟩
      · exact Or.inl h
      · rw [List.mem_append, List.mem_singleton] at h2
        exact Or.inr ⟨h1, h2.resolve_right (fun e => c ⟨h1, e⟩)⟩
  · obtain ⟨d1, d2, d3⟩ := hSR.step w0 wL hsn hs1 hZ hZ0 ha hr hrl c1 c5 c4.2.2.1.2.2.1
    have R' := hR.fr c2
    have e71 : M'.1 102 71 = M.1 102 71 := c3 71 (by decide)
    refine ⟨_, _, _, hp', n', R', hT.fr c2 (c3 34 (by decide)) (c3 44 (by decide)) (c3 45 (by decide)) (by decide), hAt.fr c2 (by decide) (by decide), hF.trans (c2.sub (by decide)), fun k k1 k2 => by rw [c3 k k1]; exact h102 k k1 k2, ⟨by rw [e71]; exact h71.1, by rw [c2.i (by decide)]; exact h71.2⟩, c4, d1, fun L' a' wL' hP ha' => ?_, ?_, ?_⟩
    · by_cases c : stn (tR T) L' = sn ∧ a' = a
      · obtain ⟨c8, rfl⟩ := c
        have eL := hIJ L' L1 wL' wL (c8.trans hsn.symm)
        subst eL
        rw [hs1, hsn]
        refine ⟨Or.inr rfl, ?_⟩
        have hne : sn ≠ s1 := fun e => d2 (e ▸ hsZ)
        rw [kk_set, if_pos rfl, kk_set, if_neg hne, Nat.add_mul]
        show _ ≤ dw sn * 100000 + st sn + _ + 1
        refine Nat.le_of_eq ?_
        rw [Nat.add_assoc, Nat.add_assoc, Nat.add_assoc]
        congr 1
        rw [← Nat.add_assoc, ← Nat.add_assoc, Nat.add_comm (st sn)]
      · refine d3 _ hRX (fun s b hP => ?_) L' a' wL' ?_ ha'
        · rcases hP with h | ⟨h1, h2⟩
          · exact h.1
          · rw [h1]; exact hsZ
        · rcases hP with h | ⟨h1, h2⟩
          · exact Or.inl h
          · rw [List.mem_append, List.mem_singleton] at h2
            exact Or.inr ⟨h1, h2.resolve_right (fun e => c ⟨h1, e⟩)⟩
    · exact uN_ne _ _ (fun e => d2 (e ▸ hsZ))
    · exact uN_ne _ _ (fun e => d2 (e ▸ hsZ))
theorem m_se45 (hG : GK Γ) (hw : TWf T) (hRH : 0 < tH T → 0 < tR T) (h4 : tR T ≤ 4) (h6 : tH T ≤ 6) (hIJ : IJ T) (w0 : WA (tR T) (tH T) L0) {M0 : rhM} (Q : rhM → Prop)
    (hQ : ∀ M' dw st Z, Fr WS M0 M' → MR M' → TM M' b T g lb → (∀ k, k ≠ 70 → k ≠ 71 → M'.1 102 k = M0.1 102 k) → ST M' T L0 dw st Z → Q M') : ∀ (dd k : Nat) (M : rhM) (Z : List Nat), Z.length + dd = 60481 → dd < k → MaS M0 b T g lb L0 Z M → wp (f_X12_settle_45 Γ k M 102) Q := by
  have w1 := hw.1
  have w2 := hw.2.1
  have hwm := ways_max h4 h6
  intro dd
  induction dd with
  | zero =>
    intro k M Z hd hk hI
    obtain ⟨Rs, dw, st, hp, n, hR, hT, hF, h102, h71, hK, hSR, hRX⟩ := hI
    have := hSR.len (by omega) hRH
    omega
  | succ dd ih =>
    intro k M Z hd hk hI
    obtain ⟨k, rfl⟩ : ∃ m, k = m + 1 := ⟨k - 1, by omega⟩
    obtain ⟨Rs, dw, st, hp, n, hR, hT, hF, h102, h71, hK, hSR, hRX⟩ := hI
    have hlen := hSR.len (by omega) hRH
    rw [f_X12_settle_45, wp_ck_t (GKk102 hG), hK.2.2.1.1]
    by_cases c : n = 0
    · subst c
      rw [wp_ite_f (by rw [show (0 : Int32) = J 0 from rfl, J_lt (by omega) (by omega) (by omega) (by omega)]; omega), wp_some]
      have hz : ∀ s, s ∈ Z → Rs s := fun s hs => (hSR.1 s).mpr (Or.inl hs)
      refine hQ M dw st Z hF hR hT h102 ⟨fun s hs => hK.2.1 s (hz s hs), h71.1, h71.2, hSR.2.1.1, by omega, hSR.2.2.2.2.2.2.1, fun s hs => hSR.2.2.1 s (hz s hs), fun s hs => ?_, hSR.all (by omega) w0 hRX⟩
      obtain ⟨p, hp1, e⟩ := List.getElem_of_mem hs
      have h1 := hSR.2.2.2.1 p s (by rw [List.getElem?_eq_getElem hp1, e])
      obtain ⟨L1, r, -, -, hr, hrl⟩ := hSR.2.2.1 s (hz s hs)
      have h2 := RwR_w hw h6 w0 hr
      constructor <;> omega
    · obtain ⟨n, rfl⟩ : ∃ m, n = m + 1 := ⟨n - 1, by omega⟩
      rw [wp_ite_t (by rw [show (0 : Int32) = J 0 from rfl, J_lt (by omega) (by omega) (by omega) (by omega)]; omega), wp_bind]
      refine m_takeFirst hG hR hK.2.1 hK.2.2.1 hK.2.2.2.1 hK.2.2.2.2 _ (fun M1 hp1 F1 e1 hM1 hP1 hm1 => ?_)
      have R1 := hR.fr F1
      have T1 := hT.fr F1 (e1 34 (by decide)) (e1 44 (by decide)) (e1 45 (by decide)) (by decide)
      have hRs0 := hK.2.2.2.2 0 (by omega)
      have hmin := HP_min hK.2.2.2.1
      have h71' : M1.1 102 71 = J Z.length := by rw [e1 71 (by decide)]; exact h71.1
      have h148 : Sg (M1.1 148) 0 Z := by rw [F1.i (by decide)]; exact h71.2
      obtain ⟨sn, hsn⟩ : ∃ s, hp 0 = s := ⟨_, rfl⟩
      rw [hsn] at hm1 hRs0 hmin ⊢
      have hslt : sn < 246960 := (hK.2.1 sn hRs0).1
      obtain ⟨L, r, wL, esn, hr, hrl⟩ := hSR.2.2.1 sn hRs0
      have hnZ : sn ∉ Z := hsn ▸ hSR.2.1.2.1 0 (by omega)
      have hF2 : Fr WS M0 (rhsi (rhsi M1 148 Z.length (J sn)) 102 71 (J ((Z.length + 1 : Nat) : Int))) := (((hF.trans (F1.sub (by decide))).si (by decide) _ _).si (by decide) _ _)
      have hF12 : Fr [102, 148] M1 (rhsi (rhsi M1 148 Z.length (J sn)) 102 71 (J ((Z.length + 1 : Nat) : Int))) := (((Fr.refl _ _).si (by decide) _ _).si (by decide) _ _)
      have e2 : ∀ j, (rhsi (rhsi M1 148 Z.length (J sn)) 102 71 (J ((Z.length + 1 : Nat) : Int))).1 102 j = if j = 71 then J ((Z.length + 1 : Nat) : Int) else M1.1 102 j := fun j => by
        rw [si_1]
        by_cases c : j = 71
        · rw [if_pos ⟨rfl, c⟩, if_pos c]
        · rw [if_neg (by omega), if_neg c, si_1, if_neg (by omega)]
      have e148 : Sg ((rhsi (rhsi M1 148 Z.length (J sn)) 102 71 (J ((Z.length + 1 : Nat) : Int))).1 148) 0 (Z ++ [sn]) := by
        rw [Sg_app]
        refine ⟨Sg_cong Z 0 (fun i _ hi => by rw [si_1, if_neg (by omega), si_1, if_neg (by omega)]) h148, ?_, trivial⟩
        rw [si_1, if_neg (by omega), si_1, if_pos ⟨rfl, by omega⟩]
      have g2 : (rhsi M1 148 Z.length (J sn)).1 102 71 = J Z.length := by rw [si_1, if_neg (by omega)]; exact h71'
      dsimp only
      rw [MRf69 R1, wp_ck_t (GKk148 hG), GKl148 hG, h71', J_toInt (by omega) (by omega), wp_ck_t (by omega), J_clamp (by omega) (by omega), Int.toNat_natCast, g2, show (1 : Int32) = J 1 from rfl, J_add, J_suc]
      generalize rhsi (rhsi M1 148 Z.length (J sn)) 102 71 (J ((Z.length + 1 : Nat) : Int)) = M2 at *
      have R2 := R1.fr hF12
      have T2 := T1.fr hF12 (by rw [e2, if_neg (by decide)]) (by rw [e2, if_neg (by decide)]) (by rw [e2, if_neg (by decide)]) (by decide)
      rw [wp_bind, esn]
      refine (m_layState hG R2 T2 hw wL h4 h6).mono (fun M3 h3 => ?_)
      obtain ⟨F3, A3⟩ := h3
      have R3 := R2.fr F3
      have T3 := T2.fr F3 (by rw [F3.i (by decide)]) (by rw [F3.i (by decide)]) (by rw [F3.i (by decide)]) (by decide)
      rw [wp_bind]
      refine (m_keepAt hG R3 A3 (by rw [wL.len]; exact w2) (by rw [wL.1]; exact w1)).mono (fun M4 h4' => ?_)
      obtain ⟨F4, A4⟩ := h4'
      have R4 := R3.fr F4
      have T4 := T3.fr F4 (by rw [F4.i (by decide)]) (by rw [F4.i (by decide)]) (by rw [F4.i (by decide)]) (by decide)
      have F24 : Fr [128, 129, 130, 143, 144] M2 M4 := (F3.sub (by decide)).trans (F4.sub (by decide))
      have F14 : Fr [102, 128, 129, 130, 143, 144, 148] M1 M4 := (hF12.sub (by decide)).trans (F24.sub (by decide))
      have e4 : ∀ j, M4.1 102 j = if j = 71 then J ((Z.length + 1 : Nat) : Int) else M1.1 102 j := fun j => by rw [F24.i (by decide)]; exact e2 j
      have hK4 : HK M4 Rs dw st hp1 n := by
        refine ⟨fun s hs hn => ?_, fun s hs => ?_, ?_, hP1, fun j hj => ?_⟩
        · rw [F14.i (by decide), F1.i (by decide)]; exact hK.1 s hs hn
        · rw [F14.i (by decide), F14.i (by decide), F1.i (by decide), F1.i (by decide)]; exact hK.2.1 s hs
        · obtain ⟨x1, x2, x3, x4⟩ := hM1
          exact ⟨by rw [e4, if_neg (by decide)]; exact x1, x2, x3, fun j hj => by rw [F14.i (by decide), F14.i (by decide)]; exact x4 j hj⟩
        · obtain ⟨⟨j', hj', e⟩, -⟩ := (hm1 (hp1 j)).mp ⟨j, hj, rfl⟩
          rw [← e]; exact hK.2.2.2.2 j' hj'
      have hlastZ : (Z ++ [sn])[(Z ++ [sn]).length - 1]? = some sn := by simp
      have hSR4 : SRm T L0 Rs dw st hp1 n (Z ++ [sn]) := by
        obtain ⟨g1, ⟨g2, g2b, g2c⟩, g3, g4, g5, g6, g7, g8, g9⟩ := hSR
        refine ⟨fun s => ?_, ⟨?_, fun j hj hz => ?_, hM1.2.2.1⟩, g3, fun p s hp1' => ?_, fun j hj => ?_, fun z j hz hj => ?_, fun p q z y hpq hz hy => ?_, g8, g9⟩
        · rw [g1 s, List.mem_append, List.mem_singleton, hm1 s]
          constructor
          · rintro (h | h)
            · exact Or.inl (Or.inl h)
            · by_cases e : s = sn
              · exact Or.inl (Or.inr e)
              · exact Or.inr ⟨h, e⟩
          · rintro ((h | h) | ⟨h, -⟩)
            · exact Or.inl h
            · exact Or.inr ⟨0, by omega, hsn.trans h.symm⟩
            · exact Or.inr h
        · rw [List.nodup_append]
          exact ⟨g2, by simp, fun a ha b hb e => by rw [List.mem_singleton] at hb; exact hnZ (by rw [← hb, ← e]; exact ha)⟩
        · obtain ⟨⟨j', hj', e⟩, hne⟩ := (hm1 (hp1 j)).mp ⟨j, hj, rfl⟩
          rw [List.mem_append, List.mem_singleton] at hz
          rcases hz with hz | hz
          · rw [← e] at hz; exact g2b j' hj' hz
          · exact hne hz
        · by_cases c : p < Z.length
          · rw [List.getElem?_append_left c] at hp1'; exact g4 p s hp1'
          · rw [List.getElem?_append_right (by omega)] at hp1'
            have hp0 : p - Z.length = 0 := by have := (List.getElem?_eq_some_iff.mp hp1').1; simpa using this
            rw [hp0] at hp1'
            cases hp1'
            have := g5 0 (by omega)
            rw [hsn] at this; omega
        · obtain ⟨⟨j', hj', e⟩, -⟩ := (hm1 (hp1 j)).mp ⟨j, hj, rfl⟩
          have := g5 j' hj'
          rw [e] at this
          rw [List.length_append, List.length_singleton]; omega
        · obtain ⟨⟨j', hj', e⟩, -⟩ := (hm1 (hp1 j)).mp ⟨j, hj, rfl⟩
          rw [← e]
          rw [List.mem_append, List.mem_singleton] at hz
          rcases hz with hz | hz
          · exact g6 z j' hz hj'
          · rw [hz]; exact hmin j' hj'
        · by_cases c : q < Z.length
          · rw [List.getElem?_append_left c] at hy
            rw [List.getElem?_append_left (by omega)] at hz
            exact g7 p q z y hpq hz hy
          · rw [List.getElem?_append_right (by omega)] at hy
            have hp0 : q - Z.length = 0 := by have := (List.getElem?_eq_some_iff.mp hy).1; simpa using this
            rw [hp0] at hy
            cases hy
            by_cases c2 : p < Z.length
            · rw [List.getElem?_append_left c2] at hz
              have := g6 z 0 (List.mem_of_getElem? hz) (by omega)
              rw [hsn] at this; exact this
            · have : p = q := by omega
              subst this
              rw [List.getElem?_append_right (by omega), hp0] at hz
              cases hz
              exact Nat.le_refl _
      have hI4 : IvS M0 b T g lb L0 L (Z ++ [sn]) sn (dw sn) (st sn) M4 [] := by
        refine ⟨Rs, dw, st, hp1, n, R4, T4, A4, hF2.trans (F24.sub (by decide)), fun k k1 k2 => by rw [e4, if_neg k2, e1 k k1]; exact h102 k k1 k2, ⟨?_, ?_⟩, hK4, hSR4, fun L' a' wL' hP ha' => ?_, rfl, rfl⟩
        · rw [e4, if_pos rfl, List.length_append, List.length_singleton]
        · rw [F24.i (by decide)]; exact e148
        · refine hRX L' a' wL' ?_ ha'
          rcases hP with ⟨h1, h2⟩ | ⟨-, h2⟩
          · rw [List.mem_append, List.mem_singleton] at h1
            exact h1.resolve_right h2
          · cases h2
      rw [← esn, show (0 : Int32) = J ((0 : Nat) : Int) from rfl]
      refine m_se88 hG hw h4 h6 wL (Inv := IvS M0 b T g lb L0 L (Z ++ [sn]) sn (dw sn) (st sn)) (b := b) (g := g) (lb := lb) ?_ ?_ (IvS_i3 hG hw hRH h4 h6 hIJ wL w0 esn.symm hlastZ (by simp)) hslt _ Q (tR T) rhFU M4 0 [] hI4 (by omega) (by have := FU_big; omega) (fun M5 h5 => ?_)
      · rintro M dl ⟨Rs, dw', st', hp, n, x1, x2, x3, -, -, -, x4, x5, -, x6, x7⟩
        have hRs : Rs sn := (x5.1 sn).mpr (Or.inl (by simp))
        obtain ⟨-, y1, y2, -⟩ := x4.2.1 sn hRs
        exact ⟨x1, x2, x3, by rw [y1, x6], by rw [y2, x7]⟩
      · rintro M M' dl hF' ⟨Rs, dw', st', hp, n, x1, x2, x3, x4, x5, ⟨x6, x6b⟩, ⟨x7, x8, x9, x10, x11⟩, x12⟩
        refine ⟨Rs, dw', st', hp, n, x1.fr hF', x2.fr hF' (by rw [hF'.i (by decide)]) (by rw [hF'.i (by decide)]) (by rw [hF'.i (by decide)]) (by decide), x3.fr hF' (by decide) (by decide), x4.trans (hF'.sub (by decide)), fun k k1 k2 => by rw [hF'.i (by decide)]; exact x5 k k1 k2, ⟨by rw [hF'.i (by decide)]; exact x6, by rw [hF'.i (by decide)]; exact x6b⟩, ⟨fun s hs hn => by rw [hF'.i (by decide)]; exact x7 s hs hn, fun s hs => by rw [hF'.i (by decide), hF'.i (by decide)]; exact x8 s hs, ?_, x10, x11⟩, x12⟩
        obtain ⟨z1, z2, z3, z4⟩ := x9
        exact ⟨by rw [hF'.i (by decide)]; exact z1, z2, z3, fun j hj => by rw [hF'.i (by decide), hF'.i (by decide)]; exact z4 j hj⟩
      · rw [f_X12_settle_218]
        obtain ⟨Rs, dw', st', hp, n, x1, x2, x3, x4, x5, x6, x7, x8, x9, -⟩ := h5
        refine ih k M5 (Z ++ [sn]) (by rw [List.length_append, List.length_singleton]; omega) (by omega) ⟨Rs, dw', st', hp, n, x1, x2, x4, x5, x6, x7, x8, fun L' a' wL' hP ha' => x9 L' a' wL' ?_ ha'⟩
        by_cases c : stn (tR T) L' = sn
        · refine Or.inr ⟨c, ?_⟩
          have eL := hIJ L' L wL' wL (c.trans esn)
          rw [eL] at ha'
          exact ha'
        · exact Or.inl ⟨hP, c⟩
end
