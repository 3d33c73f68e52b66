/-! REFERENCE: LEAST, SPARE -/
theorem ST_chain {M : rhM} {T : Tn} {L0 : Ar} {dw st : Nat → Nat} {Z : List Nat} (h : ST M T L0 dw st Z) (hIJ : IJ T) (w0 : WA (tR T) (tH T) L0) : ∀ (r : List Tr) (L : Ar) (w : Nat), RwR T L0 r L w → w = dw (stn (tR T) L) → r.length = st (stn (tR T) L) → ∃ l : List Nat, l.length = r.length + 1 ∧ l.Nodup ∧ ∀ x, x ∈ l → x ∈ Z ∧ st x ≤ r.length := by
  obtain ⟨h1, h2, h3, h4, h5, h6, h7, h8, h9⟩ := h
  intro r
  induction r with
  | nil =>
    intro L w hr hw hl
    refine ⟨[stn (tR T) L], rfl, List.nodup_cons.mpr ⟨by simp, List.nodup_nil⟩, fun x hx => ?_⟩
    rw [List.mem_singleton] at hx
    rw [hx]
    exact ⟨(h9 _ _ _ hr).1, by rw [← hl]; exact Nat.le_refl _⟩
  | cons a r ih =>
    intro L w hr hw hl
    have hr0 := hr
    obtain ⟨L', w', hr', ha, hL, hww⟩ := hr
    rw [List.length_cons] at hl
    obtain ⟨z1, z2⟩ := h9 _ _ _ hr'
    obtain ⟨L1, r1, v1, v2, v3, v4⟩ := h7 _ z1
    have w1' := RwR_WA w0 hr'
    have eL := hIJ L1 L' v1 w1' v2.symm
    subst eL
    have hx := (h9 (a :: r1) L _ ⟨L1, _, v3, ha, hL, rfl⟩).2
    rw [List.length_cons, v4] at hx
    have e1 : w' = dw (stn (tR T) L1) := by omega
    have e2 : r.length = st (stn (tR T) L1) := by omega
    obtain ⟨l, y1, y2, y3⟩ := ih L1 w' hr' e1 e2
    refine ⟨stn (tR T) L :: l, by rw [List.length_cons, y1, List.length_cons], List.nodup_cons.mpr ⟨fun hm => ?_, y2⟩, fun x hx => ?_⟩
    · have := (y3 _ hm).2; omega
    · rw [List.length_cons]
      rcases List.mem_cons.mp hx with e | e
      · rw [e]; exact ⟨(h9 _ _ _ hr0).1, by omega⟩
      · exact ⟨(y3 x e).1, by have := (y3 x e).2; omega⟩
theorem nd_sub {l Z : List Nat} (hl : l.Nodup) (hs : ∀ x, x ∈ l → x ∈ Z) : l.length ≤ Z.length := hl.length_le_of_subset hs
section
variable {Γ : rhG} {M : rhM} {T : Tn} {L : Ar}
theorem R3.tm (h3 : R3 M T) : ∃ b lb, TM M b T (-1) lb := h3
theorem r_least (hG : GK Γ) (hR : MR M) (h3 : R3 M T) (hw : TWf T) (hRH : 0 < tH T → 0 < tR T) (h4 : R4 M L) (wL : WA (tR T) (tH T) L) {gl : List Nat} (h7 : R7 M gl) (hnd : gl.Nodup) (hg : ∀ h, h ∈ gl → h < tH T) : wp (f_X12_least Γ M 102) (Afr M [0, 8] (leaV T L gl).2 (J (leaV T L gl).1)) := by
  have w2 := hw.2.1
  unfold leaV
  obtain ⟨k0, kr0, h80⟩ := r_zero66 (M := M)
  rw [f_X12_least, wp_ck_t (GKk102 hG)]
  dsimp only
  obtain ⟨M2, hM2⟩ : ∃ N, N = rhsi M 102 66 0 := ⟨_, rfl⟩
  rw [← hM2] at k0 kr0 h80 ⊢
  have hR2 := hR.kp k0 (by decide)
  have h32 := h3.kp k0 (by decide)
  have h42 := h4.kp k0 (by decide)
  have h72 := h7.kp k0 (by decide)
  rw [r_many hG hR2 h32 hw, wp_bind, wp_some]
  by_cases c : manyP T
  · rw [bi_t c, wp_ite_f (by decide), wp_some, pick_t c]
    exact ⟨rfl, k0.sub (by decide), kr0, h80⟩
  rw [bi_f c, wp_ite_t rfl, pick_f c, wp_bind]
  have hr4 : tR T ≤ 4 := by unfold manyP at c; omega
  have hh6 : tH T ≤ 6 := by unfold manyP at c; omega
  have h60 := ways_max hr4 hh6
  have hl := nd8 hnd hg
  obtain ⟨bk, lb, hT2⟩ := h32
  refine m_settle hG hR2 hT2 hw hRH hr4 hh6 h42 wL _ (fun M5 dw st Z F5 R5' T5 hk5 hST5 => ?_)
  have k5 : KP [0] M2 M5 := KP.frM F5 (by decide) (fun k hk => hk5 k (fun e => hk (by rw [e]; decide)) (fun e => hk (by rw [e]; decide))) (by decide)
  have kr5 : KR M2 M5 := KR.fr F5 (by decide)
  have k6 : KP [0] M5 (rhsi M5 102 61 (J ((0, gl, 0) : Md).1)) := (KP.refl _ _).si _ (by decide)
  have kr6 : KR M5 (rhsi M5 102 61 (J ((0, gl, 0) : Md).1)) := (KR.refl _).si _ (by decide)
  have hME := ME0 (M := M5) (h72.kp k5 (by decide)) (fun h hh => by have := hg h hh; omega) (by omega)
  have hST6 : ST (rhsi M5 102 61 (J ((0, gl, 0) : Md).1)) T L dw st Z := hST5.fr (by funext k; rw [si_1, if_neg (by omega)]) (by funext k; rw [si_1, if_neg (by omega)]) (by rw [si_1, if_neg (by omega)]) (by funext k; rw [si_1, if_neg (by omega)])
  have hR6 : MR (rhsi M5 102 61 (J ((0, gl, 0) : Md).1)) := R5'.kp k6 (by decide)
  have hT6 : TM (rhsi M5 102 61 (J ((0, gl, 0) : Md).1)) bk T (-1) lb := T5.fr (W := [102]) ((Fr.refl _ _).si (by simp) _ _) (by rw [si_1, if_neg (by omega)]) (by rw [si_1, if_neg (by omega)]) (by rw [si_1, if_neg (by omega)]) (by decide)
  have h66 : (rhsi M5 102 61 (J ((0, gl, 0) : Md).1)).1 102 66 = J ((0 : Nat) : Int) := by rw [si_1, if_neg (by omega), hk5 66 (by omega) (by omega)]; exact h80.1
  have h46 : R4 (rhsi M5 102 61 (J ((0, gl, 0) : Md).1)) L := (h42.kp k5 (by decide)).kp k6 (by decide)
  rw [show (0 : Int32) = J ((0, gl, 0) : Md).1 from rfl]
  obtain ⟨M6, hM6⟩ : ∃ N, N = rhsi M5 102 61 (J ((0, gl, 0) : Md).1) := ⟨_, rfl⟩
  rw [← hM6] at k6 kr6 hME hST6 hR6 hT6 h66 h46 ⊢
  have kM6 : KP [0, 8] M M6 := ((k0.sub (by decide)).trans (k5.sub (by decide))).trans (k6.sub (by decide))
  have krM6 : KR M M6 := (kr0.trans kr5).trans kr6
  have h86 : R8 M6 [] := (h80.kp k5 (by decide)).kp k6 (by decide)
  have hIJ : IJ T := stn_inj hG hR6 hT6 hw hr4 hh6
  have hZl := hST6.2.2.2.2.1
  show wp (f_X12_least_28 (f_X12_least_70 Γ) Γ rhFU M6 102 (-1) (J ((0 : Nat) : Int))) _
  refine m_ls28 (md := (0, gl, 0)) hG hw hr4 hh6 (f_X12_least_70 Γ) _ Z.length rhFU M6 0 (by omega) (by have := FU_big; omega) hR6 hT6 hST6 hME (fun j L' hj => by omega) (fun hno M7 F7 => ?_) (fun M7 j Le F7 we hZj hpe hfirst => ?_)
  · have hno2 : ∀ r L' w, RwR T L r L' w → ¬ pM (0, gl, 0) L' := fun r L' w hr => by
      obtain ⟨p, hp, e⟩ := List.getElem_of_mem (hST6.2.2.2.2.2.2.2.2 r L' w hr).1
      exact hno p L' (by rw [← e]; exact List.getElem?_eq_getElem hp) (RwR_WA wL hr)
    rw [f_X12_least_70, wp_ite_t (by decide), wp_some, leaK_none hno2, outK]
    have k7 : KP [0] M6 M7 := KP.fr F7 (by decide)
    exact ⟨rfl, kM6.trans (k7.sub (by decide)), krM6.trans (KR.fr F7 (by decide)), h86.kp k7 (by decide)⟩
  · have hse := stn_lt we hh6
    have hR7 := hR6.fr F7
    have hT7 := hT6.fr F7 (by rw [F7.i (by decide)]) (by rw [F7.i (by decide)]) (by rw [F7.i (by decide)]) (by decide)
    have hST7 := hST6.fr (M' := M7) (F7.i (by decide)) (F7.i (by decide)) (by rw [F7.i (by decide)]) (F7.i (by decide))
    have hME7 := hME.fr (M' := M7) (by rw [F7.i (by decide)]) (by rw [F7.i (by decide)]) (by rw [F7.i (by decide)]) (F7.i (by decide))
    have heZ : stn (tR T) Le ∈ Z := List.mem_of_getElem? hZj
    obtain ⟨s1, s2, s3, s4, s5, s6, s7, s8, s9⟩ := id hST7
    have hBW : BW T L (pM (0, gl, 0)) (dw (stn (tR T) Le)) (st (stn (tR T) Le)) := fun r L' w' hr hp => by
      obtain ⟨z1, z2⟩ := s9 r L' w' hr
      obtain ⟨p, hp1, e⟩ := List.getElem_of_mem z1
      have hpj : j ≤ p := by
        by_cases c2 : p < j
        · exact absurd hp (hfirst p L' c2 (by rw [← e]; exact List.getElem?_eq_getElem hp1) (RwR_WA wL hr))
        · omega
      have hzp : Z[p]? = some (stn (tR T) L') := by rw [← e]; exact List.getElem?_eq_getElem hp1
      have hk := s6 j p _ _ hpj hZj hzp
      have b1 := s8 _ heZ
      have b2 := s8 _ z1
      have nk : ¬ kk dw st (stn (tR T) L') < kk dw st (stn (tR T) Le) := by omega
      rw [kk_lt (by omega) (by omega)] at nk
      omega
    have hk1 := s9 [] L 0 ⟨rfl, rfl⟩
    have dw0 : dw (stn (tR T) L) = 0 := by have := hk1.2; omega
    have st0 : st (stn (tR T) L) = 0 := by have := hk1.2; rw [List.length_nil] at this; omega
    obtain ⟨L1, r1, v1, v2, v3, v4⟩ := s7 _ heZ
    have eL := hIJ L1 Le v1 we v2.symm
    subst eL
    obtain ⟨ll, y1, y2, y3⟩ := ST_chain hST7 hIJ wL r1 L1 _ v3 rfl v4
    have hn6 : st (stn (tR T) L1) ≤ 60980 := by
      have := nd_sub y2 (fun x hx => (y3 x hx).1); omega
    have k7 : KP [0] M6 M7 := KP.fr F7 (by decide)
    rw [f_X12_least_70, wp_ite_f (by rw [show (0 : Int32) = J 0 from rfl, J_lt (by omega) (by omega) (by omega) (by omega)]; omega), show (0 : Int32) = J ((0 : Nat) : Int) from rfl]
    refine m_ls78 hG hh6 _ _ Z.length rhFU M7 0 (by omega) (by have := FU_big; omega) hR7 hST7 (fun j s hj => by omega) (fun M8 F8 hm8 => ?_)
    have hR8 := hR7.fr F8
    have hT8 := hT7.fr F8 (by rw [F8.i (by decide)]) (by rw [F8.i (by decide)]) (by rw [F8.i (by decide)]) (by decide)
    have hST8 := hST7.fr (M' := M8) (F8.i (by decide)) (F8.i (by decide)) (by rw [F8.i (by decide)]) (F8.i (by decide))
    have hME8 := hME7.fr (M' := M8) (by rw [F8.i (by decide)]) (by rw [F8.i (by decide)]) (by rw [F8.i (by decide)]) (F8.i (by decide))
    rw [f_X12_least_104, wp_ck_t (GKk102 hG)]
    dsimp only
    rw [hST8.2.1, show (1 : Int32) = J 1 from rfl, J_sub]
    refine m_ls111 hG hw hr4 hh6 heZ hBW (f_X12_least_180 Γ) _ Z.length rhFU M8 (Nat.le_refl _) (by have := FU_big; omega) hR8 hT8 hST8 hME8 (fun s hs => by
      rw [hm8 s hs, bi_f (fun h => by obtain ⟨-, q, hq, hq2⟩ := h; rw [List.getElem?_eq_none hq] at hq2; cases hq2)]) (fun M9 F9 hm9 => ?_)
    have hR9 := hR8.fr F9
    have hT9 := hT8.fr F9 (by rw [F9.i (by decide)]) (by rw [F9.i (by decide)]) (by rw [F9.i (by decide)]) (by decide)
    have hST9 := hST8.fr (M' := M9) (F9.i (by decide)) (F9.i (by decide)) (by rw [F9.i (by decide)]) (F9.i (by decide))
    have hME9 := hME8.fr (M' := M9) (by rw [F9.i (by decide)]) (by rw [F9.i (by decide)]) (by rw [F9.i (by decide)]) (F9.i (by decide))
    have F79 : Fr [127, 128, 129, 130, 142, 143, 144] M6 M9 := ((F7.sub (by decide)).trans (F8.sub (by decide))).trans F9
    have k9 : KP [0] M6 M9 := KP.fr F79 (by decide)
    rw [f_X12_least_180, wp_ck_t (GKk102 hG), wp_bind, f_X12_layLightest, wp_ck_t (GKk102 hG), wp_bind]
    refine (m_layNow hG hR9 (h46.kp k9 (by decide)) (by rw [wL.len]; exact w2) (by rw [wL.1]; exact hw.1)).mono (fun M10 h10 => ?_)
    obtain ⟨F10, A10⟩ := h10
    have hR10 := hR9.fr F10
    have hT10 := hT9.fr F10 (by rw [F10.i (by decide)]) (by rw [F10.i (by decide)]) (by rw [F10.i (by decide)]) (by decide)
    have hST10 := hST9.fr (M' := M10) (F10.i (by decide)) (F10.i (by decide)) (by rw [F10.i (by decide)]) (F10.i (by decide))
    have hME10 := hME9.fr (M' := M10) (by rw [F10.i (by decide)]) (by rw [F10.i (by decide)]) (by rw [F10.i (by decide)]) (F10.i (by decide))
    have F610 : Fr [127, 128, 129, 130, 142, 143, 144] M6 M10 := F79.trans (F10.sub (by decide))
    have h6610 : M10.1 102 66 = J ((0 : Nat) : Int) := by rw [F610.i (by decide)]; exact h66
    have v10 := (hST10.1 _ heZ).2.1
    rw [m_stateOf hG hR10 hT10 hw A10 wL, wp_bind, wp_some]
    refine m_ll11 (md := (0, gl, 0)) (w := dw (stn (tR T) L1)) (n := st (stn (tR T) L1)) hG hw hr4 hh6 wL hn6 hBW _ (st (stn (tR T) L1)) rhFU M10 [] L (by rw [List.length_nil]; omega) (by have := FU_big; omega) hR10 hT10 hST10 hME10 (fun s hs => by rw [F10.i (by decide)]; exact hm9 s hs) ⟨rfl, dw0⟩ (by rw [st0]; rfl) ⟨L, r1, L1, dw (stn (tR T) L1), wL, rfl, v3, hpe, by omega, by omega⟩ (fun r2 r1 Le _ _ _ hl1 hx => by rw [List.eq_nil_of_length_eq_zero hl1] at hx; exact hx) h6610 trivial (fun M11 c F11 hR11 hk11 hLe h6611 h145 hcl => ?_)
    rw [MRf57 hR11, wp_ck_t (GKk140 hG), wp_ck_t (by rw [GKl140 hG, J_toInt (by omega) (by omega)]; omega), wp_some, J_clamp (by omega) (by omega), Int.toNat_natCast, F11.i (show 140 ∉ [102, 127, 128, 129, 130, 143, 144, 145] by decide), v10, leaK_some hLe, outK]
    have k10 : KP [0] M6 M10 := KP.fr F610 (by decide)
    have k11 : KP [0, 8] M10 M11 := KP.frM F11 (by decide) (fun k hk => hk11 k (fun e => hk (by rw [e]; decide))) (by decide)
    exact ⟨rfl, (kM6.trans (k10.sub (by decide))).trans k11, (krM6.trans (KR.fr F610 (by decide))).trans (KR.fr F11 (by decide)), ⟨by rw [List.length_reverse]; exact h6611, h145⟩⟩
end
