/-! CLASS: PULL, UNDO, JUDGE, TELL -/
theorem Sg_push {f g : Nat → Int32} {l : List Nat} {c : Nat} (hs : Sg f 0 l) (hg : ∀ i, i < l.length → g i = f i) (hl : g l.length = J c) : Sg g 0 (l ++ [c]) := by
  rw [Sg_app]
  exact ⟨Sg_cong l 0 (fun i _ h => hg i (by omega)) hs, by rw [Nat.zero_add]; exact ⟨hl, trivial⟩⟩
theorem Sg_pop {f : Nat → Int32} {l : List Nat} {c : Nat} (hs : Sg f 0 (l ++ [c])) : Sg f 0 l ∧ f l.length = J c := by
  rw [Sg_app, Nat.zero_add] at hs
  exact ⟨hs.1, hs.2.1⟩
theorem c_codeE (a m b : Nat) : 100 * J a + 10 * J m + J b = J (cdT (a, m, b)) := by
  rw [show (100 : Int32) = J 100 from rfl, show (10 : Int32) = J 10 from rfl, J_mul, J_mul, J_add, J_add]
  rfl
noncomputable def jdg (T : Tn) : List Tr → Ar → Nat × Nat × Ar
  | [], L => (0, 0, L)
  | a :: r, L => pick (okP T L a.1 a.2.1 a.2.2) ((jdg T r (mvA L a)).1 + 1, (jdg T r (mvA L a)).2.1 + wtA T L a, (jdg T r (mvA L a)).2.2) (0, 0, L)
noncomputable def jdgV (T : Tn) (tl : List Tr) (L : Ar) (z : Int) : Int := if z = 0 then (if (jdg T tl L).1 = tl.length then -1 else (jdg T tl L).1) else if z = 1 then (jdg T tl L).2.1 else if z = 2 then worth T (jdg T tl L).2.2 else -1000000
theorem jdg_len (T : Tn) : ∀ (l : List Tr) (L : Ar), (jdg T l L).1 ≤ l.length
  | [], L => Nat.le_refl _
  | a :: r, L => by
    by_cases c : okP T L a.1 a.2.1 a.2.2
    · rw [jdg, pick_t c]; have := jdg_len T r (mvA L a); dsimp only; rw [List.length_cons]; omega
    · rw [jdg, pick_f c]; dsimp only; omega
def undL : Nat → Bn → Ar → Ar
  | 0, _, L => L
  | _ + 1, [], L => L
  | n + 1, a :: r, L => undL n r (mv L a.1.2.2 a.1.2.1 a.1.1)
theorem BN_head {T : Tn} (hw : TWf T) {a : Tr × Nat} {r : Bn} {L : Ar} (h : BN T (fst T) (a :: r) L) : ∃ L', BN T (fst T) r L' ∧ WA (tR T) (tH T) L' ∧ okP T L' a.1.1 a.1.2.1 a.1.2.2 ∧ L = mvA L' a.1 ∧ a.2 = wtA T L' a.1 ∧ mv L a.1.2.2 a.1.2.1 a.1.1 = L' ∧ canB T L a.1.2.2 a.1.2.1 a.1.1 ∧ sg L a.1.2.2 a.1.2.1 = sg L' a.1.1 a.1.2.1 := by
  obtain ⟨L', h1, h2, h3, h4⟩ := h
  have ok := pulls_ok h2
  have wL := BN_WA hw h1
  obtain ⟨c1, c2, c3, c4, c5⟩ := ok.1
  have lf : a.1.1 < L'.length := by rw [wL.1]; exact c1
  have lt : a.1.2.2 < L'.length := by rw [wL.1]; exact c2
  have e := mv_rl (m := a.1.2.1) lf lt a.1.2.2
  rw [if_pos rfl] at e
  have es : rl L a.1.2.2 = rl L' a.1.2.2 ++ sg L' a.1.1 a.1.2.1 := by rw [h3]; exact e
  have hl := sg_len c5
  refine ⟨L', h1, wL, ok, h3, h4, ?_, ⟨c2, c1, Ne.symm c3, c4, ?_⟩, ?_⟩
  · rw [h3]; exact mv_back c3 lf lt c5
  · rw [es, List.length_append, hl]; omega
  · rw [sg, es, List.length_append, hl, show (rl L' a.1.2.2).length + a.1.2.1 - a.1.2.1 = (rl L' a.1.2.2).length by omega, List.drop_left]
theorem BN_und {T : Tn} (hw : TWf T) : ∀ (n : Nat) {bn : Bn} {L : Ar}, BN T (fst T) bn L → BN T (fst T) (bn.drop n) (undL n bn L)
  | 0, bn, L, h => h
  | n + 1, [], L, h => h
  | n + 1, a :: r, L, h => by
    obtain ⟨L', h1, -, -, -, -, h6, -, -⟩ := BN_head hw h
    rw [List.drop_succ_cons, undL, h6]
    exact BN_und hw n h1
theorem wsum_cons (a : Tr × Nat) (r : Bn) : wsum (a :: r) = a.2 + wsum r := by simp [wsum]
theorem bcd_cons (a : Tr × Nat) (r : Bn) : bcd (a :: r) = bcd r ++ [cdT a.1] := by simp [bcd]
theorem bwt_cons (a : Tr × Nat) (r : Bn) : bwt (a :: r) = bwt r ++ [a.2] := by simp [bwt]
theorem bcd_len (r : Bn) : (bcd r).length = r.length := by simp [bcd]
theorem bwt_len (r : Bn) : (bwt r).length = r.length := by simp [bwt]
section
variable {Γ : rhG} {M : rhM} {t t' : Nat} {T : Tn} {L : Ar}
theorem KP_t {M' : rhM} (h : t = 11 ∨ t = 22) (hF : Fr [t + 9, t + 10] M M') : KP [0] M M' := by
  rcases h with rfl | rfl
  · exact KP.fr hF (by decide)
  · exact KP.fr hF (by decide)
theorem KC_t {M' : rhM} (h : t = 11 ∨ t = 22) (hF : Fr [t + 9, t + 10] M M') : KC M M' := by
  rcases h with rfl | rfl
  · exact KC.fr hF (by decide)
  · exact KC.fr hF (by decide)
theorem TSh.r8 (h : TSh Γ M t) : M.2.2 t 8 = t + 3 := h.2.2.2.2.2.2.2.2.2.2.2.1.2.2.1
theorem c_weight (hG : GK Γ) (hC : CR M) (hT : C3 M t t' T) (hw : TWf T) (wL : WA (tR T) (tH T) L) {f m : Nat} (hf : f < tR T) : Γ.2.2.1 (M.2.2 t 8) = 15 ∧ (0 ≤ (J (ss (sg L f m))).toInt ∧ (J (ss (sg L f m))).toInt < (Γ.2.2.2 (M.2.2 t 8) : Nat)) ∧ M.1 (M.2.2 t 8) (J (ss (sg L f m))).toNatClampNeg = J (sm (tw T) (sg L f m)) := by
  have hts := hT.ts hG hC
  obtain ⟨s1, -, p1, -⟩ := c_sets wL (m := m) hf hf
  have hp : 2 ^ tH T ≤ 2 ^ 8 := pow_le hw.2.1
  rw [hts.r8, hts.2.2.2.1.2]
  have s2 : ss (sg L f m) < 256 := by omega
  refine ⟨hts.2.2.2.1.1, by rw [J_toInt (by omega) (by omega)]; omega, ?_⟩
  rw [J_clamp (by omega) (by omega), Int.toNat_natCast, hT.2.2.2.2.2.2.2.2.2.2.1 _ s1, sm_perm _ p1]
theorem c_look33 (hG : GK Γ) (hC : CR M) (hT : C3 M t t' T) (hw : TWf T) (hRH : 0 < tH T → 0 < tR T) (wL : WA (tR T) (tH T) L) : wp (f_X7_look Γ M 33 t (jl (wn L))) (fun M' => KP [4] M M' ∧ KC M M' ∧ C4 M' (tR T) L) := by
  have tt := hT.tt
  refine (c_look (SS33 hG hC) hw.1 hw.2.1 wL hRH (hT.ts hG hC).1 (by rcases tt with rfl | rfl <;> decide) hT.2.2.2.1 hT.2.2.2.2.1).mono (fun M' h => ?_)
  exact ⟨KP.fr h.1 (by decide), KC.fr h.1 (by decide), h.2.1⟩
theorem c_look40 (hG : GK Γ) (hC : CR M) (hT : C3 M t t' T) (hw : TWf T) (hRH : 0 < tH T → 0 < tR T) (wL : WA (tR T) (tH T) L) : wp (f_X7_look Γ M 40 t (jl (wn L))) (fun M' => KP [0] M M' ∧ KC M M' ∧ SA M' 40 (tR T) L) := by
  have tt := hT.tt
  refine (c_look (SS40 hG hC) hw.1 hw.2.1 wL hRH (hT.ts hG hC).1 (by rcases tt with rfl | rfl <;> decide) hT.2.2.2.1 hT.2.2.2.2.1).mono (fun M' h => ?_)
  exact ⟨KP.fr h.1 (by decide), KC.fr h.1 (by decide), h.2.1⟩
theorem c_padd_t {P A C n : Nat} (k : Γ.2.2.1 P = 4) (ha : M.2.2 P 0 = A) (kA : Γ.2.2.1 A = 15) (lA : Γ.2.2.2 A = C) (hC : C < 2147483648) (hn : M.1 P 1 = J n) (hnC : n < C) (v : Int32) : f_X3_add Γ M P v = some (1, rhsi (rhsi M A n v) P 1 (J ((n + 1 : Nat) : Int))) := by
  have hne : P ≠ A := by intro h; rw [h, kA] at k; omega
  rw [f_X3_add, rhck_t k, ha, rhck_t kA, lA, show Int32.ofNat C = J C from Int32.ofInt_eq_ofNat.symm, hn, if_pos (by rw [J_lt (by omega) (by omega) (by omega) (by omega)]; omega), rhck_t (by rw [J_toInt (by omega) (by omega)]; omega), J_clamp (by omega) (by omega), Int.toNat_natCast]
  dsimp only
  rw [si_1, if_neg (by omega), hn, show (1 : Int32) = J 1 from rfl, J_add, J_suc]
theorem c_padd_f {P A C n : Nat} (k : Γ.2.2.1 P = 4) (ha : M.2.2 P 0 = A) (kA : Γ.2.2.1 A = 15) (lA : Γ.2.2.2 A = C) (hC : C < 2147483648) (hn : M.1 P 1 = J n) (hn2 : n < 2147483648) (hnC : ¬ n < C) (v : Int32) : f_X3_add Γ M P v = some (0, M) := by
  rw [f_X3_add, rhck_t k, ha, rhck_t kA, lA, show Int32.ofNat C = J C from Int32.ofInt_eq_ofNat.symm, hn, if_neg (by rw [J_lt (by omega) (by omega) (by omega) (by omega)]; omega)]
def pulOK (T : Tn) (L : Ar) (bn : Bn) (a m b : Int) : Prop := okZ T L a m b ∧ bn.length < 300
theorem c_pull (hG : GK Γ) (hC : CR M) (hT : C3 M t t' T) (hw : TWf T) (hRH : 0 < tH T → 0 < tR T) (h4 : C4 M (tR T) L) (wL : WA (tR T) (tH T) L) {bn : Bn} (h5 : C5 M bn) (hb : bn.length ≤ 300) {a : Int} (a1 : -2147483648 ≤ a) (a2 : a < 2147483648) {m : Int} (m1 : -2147483648 ≤ m) (m2 : m < 2147483648) {b : Int} (b1 : -2147483648 ≤ b) (b2 : b < 2147483648) : wp (f_X11_pull Γ M 1 (J a) (J m) (J b)) (fun r => KP [0, 4, 5] M r.2 ∧ KC M r.2 ∧
    (pulOK T L bn a m b → r.1 = J (wtA T L (a.toNat, m.toNat, b.toNat)) ∧ C4 r.2 (tR T) (mvA L (a.toNat, m.toNat, b.toNat)) ∧ C5 r.2 (((a.toNat, m.toNat, b.toNat), wtA T L (a.toNat, m.toNat, b.toNat)) :: bn)) ∧ (¬ pulOK T L bn a m b → r.1 = J (-1) ∧ C4 r.2 (tR T) L ∧ C5 r.2 bn)) := by
  have w1 := hw.1
  have w2 := hw.2.1
  rw [f_X11_pull, wp_ck_t (GKk1 hG), CR1_5 hC, wp_bind]
  refine (c_isLaw hG hC hT hw (SS33 hG hC) h4 wL a1 a2 m1 m2 b1 b2).mono (fun r hr => ?_)
  obtain ⟨v1, M1⟩ := r
  obtain ⟨hv, hF⟩ := hr
  dsimp only at hv hF ⊢
  have kp1 := KP_t hT.tt hF
  have kc1 := KC_t hT.tt hF
  have hC1 := hC.kp kp1 (by decide)
  have hT1 := hT.kp kp1 (by decide)
  have h41 := h4.kp kp1 (by decide)
  have h51 := h5.kp kp1 (by decide)
  by_cases c : okZ T L a m b
  · rw [hv, bi_t c, wp_ite_f (by decide)]
    obtain ⟨f, k, q, rfl, rfl, rfl, hc⟩ := canZ_nat (okZ_can c)
    have c' := okZ_of.mp c
    obtain ⟨g1, g2, g3⟩ := c_weight (m := k) hG hC1 hT1 hw wL hc.1
    rw [hT1.2.1, wp_ck_t (hT1.ts hG hC1).1, CR1_5 hC1, wp_ck_t (GKk33 hG), c_last (SS33 hG hC1) w1 w2 wL h41 hc.1 hc.2.2.2.2, wp_bind, wp_some, wp_ck_t g1, wp_ck_t g2, g3, f_X3_code, wp_bind, wp_some, c_codeE, CR1_7 hC1, wp_ck_t (GKk47 hG), wp_bind]
    by_cases c3 : bn.length < 300
    · obtain ⟨M12, hM12⟩ : ∃ M', M' = rhsi (rhsi M1 48 bn.length (J (cdT (f, k, q)))) 47 1 (J ((bn.length + 1 : Nat) : Int)) := ⟨_, rfl⟩
      rw [c_padd_t (GKk47 hG) (CR47_0 hC1) (GKk48 hG) (GKl48 hG) (by omega) h51.1 c3, wp_some, ← hM12]
      have k12 : KP [5] M1 M12 := by rw [hM12]; exact ((KP.refl _ _).si _ (by rw [idc_cell (by decide) (by decide) (by decide)]; decide)).si _ (by decide)
      have hC12 := hC1.kp k12 (by decide)
      have hT12 := hT1.kp k12 (by decide)
      have e472 : M12.1 47 2 = J (wsum bn) := by rw [hM12, si_1, if_neg (by omega), si_1, if_neg (by omega), h51.2.1]
      dsimp only
      rw [wp_ite_f (show ¬ (1 : Int32) = 0 by decide), CR1_7 hC12, CR1_5 hC12, wp_ck_t (GKk47 hG), wp_ck_t (GKk33 hG), e472, J_add]
      have hk : KP [5] M1 (rhsi M12 47 2 (J ((wsum bn : Int) + sm (tw T) (sg L f k)))) := k12.si _ (by decide)
      have hkc : KC M1 (rhsi M12 47 2 (J ((wsum bn : Int) + sm (tw T) (sg L f k)))) := by rw [hM12]; exact (((KC.refl _).si _ (by decide)).si _ (by decide)).si _ (by decide)
      have hn5 : C5 (rhsi M12 47 2 (J ((wsum bn : Int) + sm (tw T) (sg L f k)))) (((f, k, q), sm (tw T) (sg L f k)) :: bn) := by
        rw [hM12]
        refine ⟨by rw [si_1, if_neg (by omega), si_1, if_pos ⟨rfl, rfl⟩, List.length_cons], by rw [si_1, if_pos ⟨rfl, rfl⟩, wsum_cons]; congr 1; push_cast; omega, ?_⟩
        rw [bcd_cons]
        refine Sg_push h51.2.2 (fun i hi => ?_) ?_
        · rw [bcd_len] at hi
          rw [si_1, if_neg (by omega), si_1, if_neg (by omega), si_1, if_neg (by omega)]
        · rw [bcd_len, si_1, if_neg (by omega), si_1, if_neg (by omega), si_1, if_pos ⟨rfl, rfl⟩]
      obtain ⟨M2, hM2⟩ : ∃ M2, rhsi M12 47 2 (J ((wsum bn : Int) + sm (tw T) (sg L f k))) = M2 := ⟨_, rfl⟩
      rw [hM2] at hk hkc hn5 ⊢
      have hC2 := hC1.kp hk (by decide)
      have hT2 := hT1.kp hk (by decide)
      have h42 := h41.kp hk (by decide)
      rw [hT12.2.1, c_after (SS33 hG hC2) w1 w2 wL h42 hc.1 hc.2.1 hc.2.2.1 hc.2.2.2.2, wp_bind, wp_some, wp_bind]
      refine (c_look33 hG hC2 hT2 hw hRH (wL.mvd hc.2.2.1 hc.1 hc.2.1 hc.2.2.2.2)).mono (fun M3 h3 => ?_)
      rw [wp_some]
      dsimp only
      refine ⟨((kp1.sub (by decide)).trans (hk.sub (by decide))).trans (h3.1.sub (by decide)), (kc1.trans hkc).trans h3.2.1, fun _ => ?_, fun h => absurd ⟨c, c3⟩ h⟩
      rw [Int.toNat_natCast, Int.toNat_natCast, Int.toNat_natCast]
      exact ⟨rfl, h3.2.2, hn5.kp h3.1 (by decide)⟩
    · rw [c_padd_f (GKk47 hG) (CR47_0 hC1) (GKk48 hG) (GKl48 hG) (by omega) h51.1 (by omega) c3, wp_some, wp_ite_t rfl, wp_some]
      exact ⟨kp1.sub (by decide), kc1, fun h => absurd h.2 c3, fun _ => ⟨rfl, h41, h51⟩⟩
  · rw [hv, bi_f c, wp_ite_t rfl, wp_some]
    exact ⟨kp1.sub (by decide), kc1, fun h => absurd h.1 c, fun _ => ⟨rfl, h41, h51⟩⟩
theorem c_takeBack (hG : GK Γ) (hC : CR M) (hT : C3 M t t' T) (hw : TWf T) (hRH : 0 < tH T → 0 < tR T) {a : Tr × Nat} {r : Bn} (h4 : C4 M (tR T) L) (hB : BN T (fst T) (a :: r) L) (h5 : M.1 47 2 = J (wsum (a :: r))) : wp (f_X11_takeBack Γ M 1 (J (cdT a.1))) (fun M' => KP [4, 5] M M' ∧ KC M M' ∧ C4 M' (tR T) (mv L a.1.2.2 a.1.2.1 a.1.1) ∧ M'.1 47 2 = J (wsum r) ∧ M'.1 47 1 = M.1 47 1 ∧ M'.1 48 = M.1 48) := by
  have w1 := hw.1
  have w2 := hw.2.1
  have wL := BN_WA hw hB
  obtain ⟨L', b1, b2, b3, b4, b5, b6, b7, b8⟩ := BN_head hw hB
  have hl' := b2.rl_len (r := a.1.1) b3.1.1
  have d1 : a.1.1 ≤ 9 := by have := b3.1.1; omega
  have d2 : a.1.2.1 ≤ 9 := by have := b3.1.2.2.2.2; omega
  have d3 : a.1.2.2 ≤ 9 := by have := b3.1.2.1; omega
  rw [f_X11_takeBack, f_X3_fromOf, wp_bind, wp_some, f_X3_manyOf, wp_bind, wp_some, f_X3_toOf, wp_bind, wp_some, cd_f d1 d2 d3, cd_m d1 d2 d3, cd_t d1 d2 d3, wp_ck_t (GKk1 hG), CR1_5 hC, c_canBe hG hC hT hw (SS33 hG hC) h4 wL (by omega) (by omega) (by omega) (by omega) (by omega) (by omega), wp_bind, wp_some, bi_t (canZ_of.mpr b7), wp_ite_f (by decide), CR1_7 hC, wp_ck_t (GKk47 hG), hT.2.1, wp_ck_t (hT.ts hG hC).1, wp_ck_t (GKk33 hG), c_last (SS33 hG hC) w1 w2 wL h4 b7.1 b7.2.2.2.2, wp_bind, wp_some]
  obtain ⟨g1, g2, g3⟩ := c_weight (m := a.1.2.1) hG hC hT hw wL b7.1
  rw [wp_ck_t g1, wp_ck_t g2]
  dsimp only
  rw [g3, h5, b8, J_sub]
  have hk : KP [5] M (rhsi M 47 2 (J ((wsum (a :: r) : Int) - sm (tw T) (sg L' a.1.1 a.1.2.1)))) := (KP.refl _ _).si _ (by decide)
  have hkc : KC M (rhsi M 47 2 (J ((wsum (a :: r) : Int) - sm (tw T) (sg L' a.1.1 a.1.2.1)))) := (KC.refl _).si _ (by decide)
  have e1 : (rhsi M 47 2 (J ((wsum (a :: r) : Int) - sm (tw T) (sg L' a.1.1 a.1.2.1)))).1 47 2 = J (wsum r) := by
    rw [si_1, if_pos ⟨rfl, rfl⟩, wsum_cons, b5]
    unfold wtA
    congr 1; omega
  have e2 : (rhsi M 47 2 (J ((wsum (a :: r) : Int) - sm (tw T) (sg L' a.1.1 a.1.2.1)))).1 47 1 = M.1 47 1 := by rw [si_1, if_neg (by omega)]
  have e3 : (rhsi M 47 2 (J ((wsum (a :: r) : Int) - sm (tw T) (sg L' a.1.1 a.1.2.1)))).1 48 = M.1 48 := by funext i; rw [si_1, if_neg (by omega)]
  obtain ⟨M2, hM2⟩ : ∃ M2, rhsi M 47 2 (J ((wsum (a :: r) : Int) - sm (tw T) (sg L' a.1.1 a.1.2.1))) = M2 := ⟨_, rfl⟩
  rw [hM2] at hk hkc e1 e2 e3 ⊢
  have hC2 := hC.kp hk (by decide)
  have hT2 := hT.kp hk (by decide)
  have h42 := h4.kp hk (by decide)
  rw [c_after (SS33 hG hC2) w1 w2 wL h42 b7.1 b7.2.1 b7.2.2.1 b7.2.2.2.2, wp_bind, wp_some, wp_bind]
  refine (c_look33 hG hC2 hT2 hw hRH (wL.mvd b7.2.2.1 b7.1 b7.2.1 b7.2.2.2.2)).mono (fun M3 h3 => ?_)
  rw [wp_some]
  have i47 : M3.1 47 = M2.1 47 := h3.1.i (by decide) (by decide) (by decide) (by decide)
  have i48 : M3.1 48 = M2.1 48 := h3.1.i (by decide) (by decide) (by decide) (by decide)
  exact ⟨(hk.sub (by decide)).trans (h3.1.sub (by decide)), hkc.trans h3.2.1, h3.2.2, by rw [i47, e1], by rw [i47, e2], by rw [i48, e3]⟩
theorem c_undo27 (hG : GK Γ) (hw : TWf T) (hRH : 0 < tH T → 0 < tR T) {N : Nat} (hN : N ≤ 300) : ∀ (d n : Nat) (M : rhM) (L : Ar) (bn : Bn) (k : Nat), CR M → C3 M t t' T → C4 M (tR T) L → C5 M bn → BN T (fst T) bn L → bn.length ≤ 300 → k + d = N → d ≤ bn.length → d < n →
    wp (f_X11_undo_27 Γ n M 1 (J N) (J k)) (fun r => r.1 = J N ∧ KP [4, 5] M r.2 ∧ KC M r.2 ∧ C4 r.2 (tR T) (undL d bn L) ∧ C5 r.2 (bn.drop d)) := by
  intro d
  induction d with
  | zero =>
    intro n M L bn k hC hT h4 h5 hB hl hk hd hn
    obtain ⟨n, rfl⟩ : ∃ k, n = k + 1 := ⟨n - 1, by omega⟩
    rw [f_X11_undo_27, wp_ite_f (by rw [J_lt (by omega) (by omega) (by omega) (by omega)]; omega), wp_some]
    exact ⟨rfl, KP.refl _ _, KC.refl _, h4, h5⟩
  | succ d ih =>
    intro n M L bn k hC hT h4 h5 hB hl hk hd hn
    obtain ⟨n, rfl⟩ : ∃ k, n = k + 1 := ⟨n - 1, by omega⟩
    cases bn with
    | nil => rw [List.length_nil] at hd; omega
    | cons a r =>
      rw [List.length_cons] at hl hd
      obtain ⟨h51, h52, h53⟩ := h5
      rw [List.length_cons] at h51
      rw [bcd_cons] at h53
      obtain ⟨h53, h54⟩ := Sg_pop h53
      rw [bcd_len] at h54
      rw [f_X11_undo_27, wp_ite_t (by rw [J_lt (by omega) (by omega) (by omega) (by omega)]; omega), wp_ck_t (GKk1 hG), CR1_7 hC, wp_ck_t (GKk47 hG), CR47_0 hC, wp_ck_t (GKk48 hG), h51, show (1 : Int32) = J 1 from rfl, J_sub, show ((r.length + 1 : Nat) : Int) - 1 = (r.length : Nat) by omega, wp_ck_t (by rw [GKl48 hG, J_toInt (by omega) (by omega)]; omega), J_clamp (by omega) (by omega), Int.toNat_natCast, h54, wp_bind]
      refine (c_takeBack hG hC hT hw hRH h4 hB h52).mono (fun M1 h1 => ?_)
      obtain ⟨q1, q2, q3, q4, q5, q6⟩ := h1
      have hC1 := hC.kp q1 (by decide)
      have hT1 := hT.kp q1 (by decide)
      rw [CR1_7 hC1, wp_ck_t (GKk47 hG)]
      dsimp only
      rw [q5, h51, J_sub, J_add, J_suc, show ((r.length + 1 : Nat) : Int) - 1 = (r.length : Nat) by omega]
      have hk5 : KP [5] M1 (rhsi M1 47 1 (J (r.length : Nat))) := (KP.refl _ _).si _ (by decide)
      have hkc5 : KC M1 (rhsi M1 47 1 (J (r.length : Nat))) := (KC.refl _).si _ (by decide)
      obtain ⟨L', b1, -, -, -, -, b6, -, -⟩ := BN_head hw hB
      refine (ih n _ (mv L a.1.2.2 a.1.2.1 a.1.1) r (k + 1) (hC1.kp hk5 (by decide)) (hT1.kp hk5 (by decide)) (q3.kp hk5 (by decide)) ⟨by rw [si_1, if_pos ⟨rfl, rfl⟩], by rw [si_1, if_neg (by omega), q4], ?_⟩ (by rw [b6]; exact b1) (by omega) (by omega) (by omega) (by omega)).mono (fun r hr => ?_)
      · refine Sg_cong _ 0 (fun i _ _ => ?_) h53
        rw [si_1, if_neg (by omega), q6]
      · obtain ⟨y1, y2, y3, y4, y5⟩ := hr
        exact ⟨y1, (q1.trans (hk5.sub (by decide))).trans y2, (q2.trans hkc5).trans y3, by rw [undL]; exact y4, by rw [List.drop_succ_cons]; exact y5⟩
def undV (bn : Bn) (z : Int) : Int := if 0 ≤ z ∧ z ≤ 300 then min z bn.length else -1
def undN (bn : Bn) (z : Int) : Nat := if 0 ≤ z ∧ z ≤ 300 then min z.toNat bn.length else 0
theorem c_undo (hG : GK Γ) (hC : CR M) (hT : C3 M t t' T) (hw : TWf T) (hRH : 0 < tH T → 0 < tR T) (h4 : C4 M (tR T) L) {bn : Bn} (h5 : C5 M bn) (hB : BN T (fst T) bn L) (hb : bn.length ≤ 300) {z : Int} (z1 : -2147483648 ≤ z) (z2 : z < 2147483648) : wp (f_X11_undo Γ M 1 (J z)) (fun r => r.1 = J (undV bn z) ∧ KP [4, 5] M r.2 ∧ KC M r.2 ∧ C4 r.2 (tR T) (undL (undN bn z) bn L) ∧ C5 r.2 (bn.drop (undN bn z))) := by
  rw [f_X11_undo]
  unfold undV undN
  by_cases c : z < 0
  · rw [wp_ite_t (by rw [show (0 : Int32) = J 0 from rfl, J_lt (by omega) (by omega) (by omega) (by omega)]; omega), wp_some, if_neg (by omega), if_neg (by omega)]
    exact ⟨rfl, KP.refl _ _, KC.refl _, h4, h5⟩
  · rw [wp_ite_f (by rw [show (0 : Int32) = J 0 from rfl, J_lt (by omega) (by omega) (by omega) (by omega)]; omega)]
    by_cases c2 : 300 < z
    · rw [wp_ite_t (by rw [show (300 : Int32) = J 300 from rfl, J_lt (by omega) (by omega) (by omega) (by omega)]; omega), wp_some, if_neg (by omega), if_neg (by omega)]
      exact ⟨rfl, KP.refl _ _, KC.refl _, h4, h5⟩
    · rw [wp_ite_f (by rw [show (300 : Int32) = J 300 from rfl, J_lt (by omega) (by omega) (by omega) (by omega)]; omega), wp_ck_t (GKk1 hG), CR1_7 hC, wp_ck_t (GKk47 hG), h5.1]
      dsimp only
      have e : (if J bn.length < J z then J bn.length else J z) = J ((min z.toNat bn.length : Nat) : Int) := by
        by_cases c3 : (bn.length : Int) < z
        · rw [if_pos (by rw [J_lt (by omega) (by omega) (by omega) (by omega)]; exact c3)]; congr 1; omega
        · rw [if_neg (by rw [J_lt (by omega) (by omega) (by omega) (by omega)]; exact c3)]; congr 1; omega
      rw [e, if_pos (by omega), if_pos (by omega)]
      refine (c_undo27 (N := min z.toNat bn.length) hG hw hRH (by omega) (min z.toNat bn.length) rhFU M L bn 0 hC hT h4 h5 hB hb (by omega) (by omega) (by have := FU_big; omega)).mono (fun r hr => ?_)
      refine ⟨?_, hr.2⟩
      rw [hr.1]; congr 1; omega
theorem c_judge25 (hG : GK Γ) (hw : TWf T) (hRH : 0 < tH T → 0 < tR T) {tl : List Tr} (htl : tl.length ≤ 12) (ht9 : ∀ a, a ∈ tl → a.1 < tR T ∧ a.2.2 < tR T ∧ a.1 ≠ a.2.2 ∧ 1 ≤ a.2.1 ∧ a.2.1 ≤ 8) (z : Int32) (Q : Int32 × rhM → Prop) : ∀ (l : List Tr) (n : Nat) (M : rhM) (L : Ar) (w k : Nat), CR M → C3 M t t' T → C6 M tl → SA M 40 (tR T) L → WA (tR T) (tH T) L → tl.drop k = l → k + l.length = tl.length → l.length < n →
    (∀ M', KP [0] M M' → KC M M' → SA M' 40 (tR T) (jdg T l L).2.2 → WA (tR T) (tH T) (jdg T l L).2.2 → wp (f_X11_judge_157 Γ M' 1 z (J ((w + (jdg T l L).2.1 : Nat) : Int)) (J ((k + (jdg T l L).1 : Nat) : Int))) Q) →
    wp (f_X11_judge_25 (f_X11_judge_99 (f_X11_judge_157 Γ) Γ) (f_X11_judge_157 Γ) Γ n M 1 z (J w) (J k) (J k)) Q := by
  have w1 := hw.1
  have w2 := hw.2.1
  intro l
  induction l with
  | nil =>
    intro n M L w k hC hT h6 h4 wL hd hk hn hQ
    obtain ⟨n, rfl⟩ : ∃ k, n = k + 1 := ⟨n - 1, by omega⟩
    rw [List.length_nil] at hk
    rw [f_X11_judge_25, wp_ck_t (GKk1 hG), CR1_8 hC, wp_ck_t (GKk49 hG), h6.1, wp_ite_f (by rw [J_lt (by omega) (by omega) (by omega) (by omega)]; omega)]
    exact hQ M (KP.refl _ _) (KC.refl _) h4 wL
  | cons a l ih =>
    intro n M L w k hC hT h6 h4 wL hd hk hn hQ
    obtain ⟨n, rfl⟩ : ∃ k, n = k + 1 := ⟨n - 1, by omega⟩
    rw [List.length_cons] at hk hn
    have hkl : k < tl.length := by omega
    have hak : tl[k] = a := by
      have := List.drop_eq_getElem_cons hkl
      rw [hd] at this
      exact (List.cons.inj this).1.symm
    have hdl : tl.drop (k + 1) = l := by
      have := List.drop_eq_getElem_cons hkl
      rw [hd] at this
      exact (List.cons.inj this).2.symm
    have ha := ht9 a (by rw [← hak]; exact List.getElem_mem hkl)
    have hcd : M.1 50 k = J (cdT a) := by
      have := Sg_get h6.2 (i := k) (by rw [List.length_map]; exact hkl)
      rw [Nat.zero_add] at this
      rw [this, gd_el _ (by rw [List.length_map]; exact hkl), List.getElem_map, hak]
    have d1 : a.1 ≤ 9 := by omega
    have d2 : a.2.1 ≤ 9 := by omega
    have d3 : a.2.2 ≤ 9 := by omega
    rw [f_X11_judge_25, wp_ck_t (GKk1 hG), CR1_8 hC, wp_ck_t (GKk49 hG), h6.1, wp_ite_t (by rw [J_lt (by omega) (by omega) (by omega) (by omega)]; omega), CR49_0 hC, wp_ck_t (GKk50 hG), wp_ck_t (by rw [GKl50 hG, J_toInt (by omega) (by omega)]; omega), J_clamp (by omega) (by omega), Int.toNat_natCast, hcd, f_X3_fromOf, wp_bind, wp_some, f_X3_manyOf, wp_bind, wp_some, f_X3_toOf, wp_bind, wp_some, cd_f d1 d2 d3, cd_m d1 d2 d3, cd_t d1 d2 d3, CR1_6 hC, wp_bind]
    refine (c_isLaw hG hC hT hw (SS40 hG hC) h4 wL (by omega) (by omega) (by omega) (by omega) (by omega) (by omega)).mono (fun r hr => ?_)
    obtain ⟨v1, M1⟩ := r
    obtain ⟨hv, hF⟩ := hr
    dsimp only at hv hF ⊢
    have kp1 := KP_t hT.tt hF
    have kc1 := KC_t hT.tt hF
    have hC1 := hC.kp kp1 (by decide)
    have hT1 := hT.kp kp1 (by decide)
    have h61 := h6.kp kp1 (by decide)
    have h41 : SA M1 40 (tR T) L := by
      have e : ∀ i, 40 ≤ i → i ≤ 43 → M1.1 i = M.1 i ∧ M1.2.1 i = M.2.1 i := fun i i1 i2 => hF.2 i (by rcases hT.tt with e | e <;> simp [e] <;> omega)
      unfold SA
      rw [(e 40 (by omega) (by omega)).1, (e 40 (by omega) (by omega)).2, (e 41 (by omega) (by omega)).1, (e 42 (by omega) (by omega)).1, (e 43 (by omega) (by omega)).1]
      exact h4
    rw [jdg] at hQ
    by_cases c : okP T L a.1 a.2.1 a.2.2
    · rw [pick_t c] at hQ
      rw [hv, bi_t (okZ_of.mpr c), wp_ite_f (by decide), hT1.2.1, wp_ck_t (hT1.ts hG hC1).1, CR1_6 hC1, wp_ck_t (GKk40 hG), c_last (SS40 hG hC1) w1 w2 wL h41 c.1.1 c.1.2.2.2.2, wp_bind, wp_some]
      obtain ⟨g1, g2, g3⟩ := c_weight (m := a.2.1) hG hC1 hT1 hw wL c.1.1
      rw [wp_ck_t g1, wp_ck_t g2, g3, c_after (SS40 hG hC1) w1 w2 wL h41 c.1.1 c.1.2.1 c.1.2.2.1 c.1.2.2.2.2, wp_bind, wp_some, wp_bind]
      have wL2 := wL.mvd c.1.2.2.1 c.1.1 c.1.2.1 c.1.2.2.2.2
      refine (c_look40 hG hC1 hT1 hw hRH wL2).mono (fun M2 h2 => ?_)
      obtain ⟨q1, q2, q3⟩ := h2
      rw [J_add, show (1 : Int32) = J 1 from rfl, J_add, J_suc]
      refine ih n M2 (mvA L a) (w + wtA T L a) (k + 1) (hC1.kp q1 (by decide)) (hT1.kp q1 (by decide)) (h61.kp q1 (by decide)) q3 wL2 hdl (by omega) (by omega) (fun M' y1 y2 y3 y4 => ?_)
      have := hQ M' ((kp1.trans q1).trans y1) ((kc1.trans q2).trans y2) y3 y4
      rw [show w + wtA T L a + (jdg T l (mvA L a)).2.1 = w + ((jdg T l (mvA L a)).2.1 + wtA T L a) by omega, show k + 1 + (jdg T l (mvA L a)).1 = k + ((jdg T l (mvA L a)).1 + 1) by omega]
      exact this
    · rw [pick_f c] at hQ
      rw [hv, bi_f (fun h => c (okZ_of.mp h)), wp_ite_t rfl, f_X11_judge_99]
      exact hQ M1 kp1 kc1 h41 wL
theorem c_judge (hG : GK Γ) (hC : CR M) (hT : C3 M t t' T) (hw : TWf T) (hRH : 0 < tH T → 0 < tR T) (h4 : C4 M (tR T) L) (wL : WA (tR T) (tH T) L) {tl : List Tr} (h6 : C6 M tl) (htl : tl.length ≤ 12) (ht9 : ∀ a, a ∈ tl → a.1 < tR T ∧ a.2.2 < tR T ∧ a.1 ≠ a.2.2 ∧ 1 ≤ a.2.1 ∧ a.2.1 ≤ 8) {z : Int} (z1 : -2147483648 ≤ z) (z2 : z < 2147483648) : wp (f_X11_judge Γ M 1 (J z)) (fun r => r.1 = J (jdgV T tl L z) ∧ KP [0] M r.2 ∧ KC M r.2) := by
  rw [f_X11_judge, wp_ck_t (GKk1 hG), CR1_5 hC, wp_ck_t (GKk33 hG), CR1_6 hC, wp_ck_t (GKk40 hG), h4.1, hT.2.1, wp_bind]
  refine (c_look40 hG hC hT hw hRH wL).mono (fun M1 h1 => ?_)
  obtain ⟨q1, q2, q3⟩ := h1
  have hj := jdg_len T tl L
  refine c_judge25 hG hw hRH htl ht9 (J z) _ tl rhFU M1 L 0 0 (hC.kp q1 (by decide)) (hT.kp q1 (by decide)) (h6.kp q1 (by decide)) q3 wL rfl (by omega) (by have := FU_big; omega) (fun M2 y1 y2 y3 y4 => ?_)
  have hk := q1.trans y1
  have hC2 := hC.kp hk (by decide)
  have hT2 := hT.kp hk (by decide)
  have h62 := h6.kp hk (by decide)
  unfold jdgV
  rw [Nat.zero_add, Nat.zero_add, f_X11_judge_157]
  by_cases c : z = 0
  · rw [wp_ite_t (by rw [c]; rfl), wp_ck_t (GKk1 hG), CR1_8 hC2, wp_ck_t (GKk49 hG), h62.1, if_pos c]
    by_cases c2 : (jdg T tl L).1 = tl.length
    · rw [wp_ite_t (by rw [c2]), wp_some, if_pos c2]
      exact ⟨rfl, hk, q2.trans y2⟩
    · rw [wp_ite_f (by rw [J_eq (by omega) (by omega) (by omega) (by omega)]; omega), wp_some, if_neg c2]
      exact ⟨rfl, hk, q2.trans y2⟩
  · rw [wp_ite_f (by rw [show (0 : Int32) = J 0 from rfl, J_eq (by omega) (by omega) (by omega) (by omega)]; exact c), if_neg c]
    by_cases c2 : z = 1
    · rw [wp_ite_t (by rw [c2]; rfl), wp_some, if_pos c2]
      exact ⟨rfl, hk, q2.trans y2⟩
    · rw [wp_ite_f (by rw [show (1 : Int32) = J 1 from rfl, J_eq (by omega) (by omega) (by omega) (by omega)]; exact c2), if_neg c2]
      by_cases c3 : z = 2
      · rw [wp_ite_t (by rw [c3]; rfl), wp_ck_t (GKk1 hG), CR1_6 hC2, wp_ck_t (GKk40 hG), hT2.2.1, wp_ck_t (hT2.ts hG hC2).1, y3.1, c_worthOf (hT2.ts hG hC2) hT2.2.2.2 hw y4 hRH, wp_bind, wp_some, wp_some, if_pos c3]
        exact ⟨rfl, hk, q2.trans y2⟩
      · rw [wp_ite_f (by rw [show (2 : Int32) = J 2 from rfl, J_eq (by omega) (by omega) (by omega) (by omega)]; exact c3), wp_some, if_neg c3]
        exact ⟨rfl, hk, q2.trans y2⟩
def telOK (T : Tn) (tl : List Tr) (a m b : Int) : Prop := 0 ≤ a ∧ a < tR T ∧ 0 ≤ b ∧ b < tR T ∧ a ≠ b ∧ 1 ≤ m ∧ m ≤ 8 ∧ tl.length < 12
noncomputable def telV (T : Tn) (tl : List Tr) (a m b : Int) : Int := pick (telOK T tl a m b) ((tl.length : Int) + 1) (-1)
noncomputable def telL (T : Tn) (tl : List Tr) (a m b : Int) : List Tr := pick (telOK T tl a m b) (tl ++ [(a.toNat, m.toNat, b.toNat)]) tl
theorem c_tell (hG : GK Γ) (hC : CR M) (hT : C3 M t t' T) (hw : TWf T) {tl : List Tr} (h6 : C6 M tl) (htl : tl.length ≤ 12) {a : Int} (a1 : -2147483648 ≤ a) (a2 : a < 2147483648) {m : Int} (m1 : -2147483648 ≤ m) (m2 : m < 2147483648) {b : Int} (b1 : -2147483648 ≤ b) (b2 : b < 2147483648) : wp (f_X11_tell Γ M 1 (J a) (J m) (J b)) (fun r => r.1 = J (telV T tl a m b) ∧ KP [6] M r.2 ∧ KC M r.2 ∧ C6 r.2 (telL T tl a m b)) := by
  have w1 := hw.1
  unfold telV telL
  rw [f_X11_tell, wp_ck_t (GKk1 hG), c_unlike hG hC hT hw a1 a2 b1 b2, wp_bind, wp_some]
  by_cases c : 0 ≤ a ∧ a < tR T ∧ 0 ≤ b ∧ b < tR T ∧ a ≠ b
  · rw [bi_t c, wp_ite_f (by decide)]
    by_cases c2 : m < 1
    · rw [wp_ite_t (by rw [show (1 : Int32) = J 1 from rfl, J_lt (by omega) (by omega) (by omega) (by omega)]; exact c2), wp_some, pick_f (by unfold telOK; omega), pick_f (by unfold telOK; omega)]
      exact ⟨rfl, KP.refl _ _, KC.refl _, h6⟩
    · rw [wp_ite_f (by rw [show (1 : Int32) = J 1 from rfl, J_lt (by omega) (by omega) (by omega) (by omega)]; exact c2)]
      by_cases c3 : 8 < m
      · rw [wp_ite_t (by rw [show (8 : Int32) = J 8 from rfl, J_lt (by omega) (by omega) (by omega) (by omega)]; exact c3), wp_some, pick_f (by unfold telOK; omega), pick_f (by unfold telOK; omega)]
        exact ⟨rfl, KP.refl _ _, KC.refl _, h6⟩
      · rw [wp_ite_f (by rw [show (8 : Int32) = J 8 from rfl, J_lt (by omega) (by omega) (by omega) (by omega)]; exact c3)]
        obtain ⟨f, rfl⟩ : ∃ n : Nat, a = n := ⟨a.toNat, by omega⟩
        obtain ⟨k, rfl⟩ : ∃ n : Nat, m = n := ⟨m.toNat, by omega⟩
        obtain ⟨q, rfl⟩ : ∃ n : Nat, b = n := ⟨b.toNat, by omega⟩
        rw [f_X3_code, wp_bind, wp_some, c_codeE, CR1_8 hC, wp_ck_t (GKk49 hG), wp_bind]
        by_cases c4 : tl.length < 12
        · obtain ⟨M', hM'⟩ : ∃ M', M' = rhsi (rhsi M 50 tl.length (J (cdT (f, k, q)))) 49 1 (J ((tl.length + 1 : Nat) : Int)) := ⟨_, rfl⟩
          have hk : KP [6] M M' := by rw [hM']; exact ((KP.refl _ _).si _ (by rw [idc_cell (by decide) (by decide) (by decide)]; decide)).si _ (by decide)
          have hC' := hC.kp hk (by decide)
          rw [c_padd_t (GKk49 hG) (CR49_0 hC) (GKk50 hG) (GKl50 hG) (by omega) h6.1 c4, wp_some, ← hM']
          dsimp only
          rw [wp_ite_f (show ¬ (1 : Int32) = 0 by decide), CR1_8 hC', wp_ck_t (GKk49 hG), wp_some, pick_t (by unfold telOK; omega), pick_t (by unfold telOK; omega), Int.toNat_natCast, Int.toNat_natCast, Int.toNat_natCast]
          refine ⟨by dsimp only; rw [hM', si_1, if_pos ⟨rfl, rfl⟩]; rfl, hk, by rw [hM']; exact ((KC.refl _).si _ (by decide)).si _ (by decide), ?_, ?_⟩
          · dsimp only; rw [hM', si_1, if_pos ⟨rfl, rfl⟩, List.length_append]; rfl
          · dsimp only
            rw [List.map_append, hM']
            refine Sg_push h6.2 (fun i hi => ?_) ?_
            · rw [List.length_map] at hi
              rw [si_1, if_neg (by omega), si_1, if_neg (by omega)]
            · rw [List.length_map, si_1, if_neg (by omega), si_1, if_pos ⟨rfl, rfl⟩]
        · rw [c_padd_f (GKk49 hG) (CR49_0 hC) (GKk50 hG) (GKl50 hG) (by omega) h6.1 (by omega) c4, wp_some, wp_ite_t rfl, wp_some, pick_f (by unfold telOK; omega), pick_f (by unfold telOK; omega)]
          exact ⟨rfl, KP.refl _ _, KC.refl _, h6⟩
  · rw [bi_f c, wp_ite_t rfl, wp_some, pick_f (by unfold telOK; omega), pick_f (by unfold telOK; omega)]
    exact ⟨rfl, KP.refl _ _, KC.refl _, h6⟩
end
