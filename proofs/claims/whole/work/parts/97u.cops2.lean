/-! CLASS: FREE, RICHEST, LEAST, SPARE -/
theorem bestF_in {T : Tn} (hw : TWf T) (hRH : 0 < tH T → 0 < tR T) : ∀ (n : Nat) (l : List Ar), l.length = n → (∀ L, L ∈ l → WA (tR T) (tH T) L) → ((bestF T l).1 = -1 → l = []) ∧ ((bestF T l).1 < l.length) := by
  intro n
  induction n with
  | zero => intro l hl _; rw [List.length_eq_zero_iff.mp hl]; simp [bestF]
  | succ n ih =>
    intro l hl hv
    rcases List.eq_nil_or_concat l with rfl | ⟨l', x, rfl⟩
    · simp at hl
    · rw [List.concat_eq_append] at *
      rw [List.length_append, List.length_singleton] at *
      have hv' : ∀ L, L ∈ l' → WA (tR T) (tH T) L := fun L hL => hv L (List.mem_append_left _ hL)
      have h1 := ih l' (by omega) hv'
      have h2 := (bestF_rng hw hRH l' hv').2.2
      rw [bestF_snoc]
      unfold bestS
      split
      · dsimp only; exact ⟨fun h => by omega, by omega⟩
      · rename_i hn
        dsimp only
        exact ⟨fun h => absurd (Or.inl h) hn, by omega⟩
theorem spS_gen {Q Qm : List Nd} {p : Ar → Prop} {b : Int × Nat} {r m K : Nat} (hm : b.2 - 1 = m) (key : ∀ j, fmt p Q = some j → dep Q j ≤ K) (hbig : K ≤ m → Qm = Q) (hlim : m ≤ K → ((∀ j, fmt p Qm = some j → fmt p Q = some j ∧ dep Q j ≤ m) ∧ (fmt p Qm = none → ∀ j, fmt p Q = some j → m < dep Q j)) ∧ Qm <+: Q) :
    (∀ j, fmt p Qm = some j → spG p Q b r = (if dep Qm j < b.2 then ((r : Int), dep Qm j) else b) ∧ dep Qm j ≤ K) ∧ (fmt p Qm = none → spG p Q b r = b) := by
  unfold spG
  by_cases hb2 : K < b.2
  · rw [hbig (by omega)]
    refine ⟨fun j hj => ?_, fun hn => ?_⟩
    · rw [hj]; exact ⟨rfl, key j hj⟩
    · rw [hn]
  · obtain ⟨hl, hp⟩ := hlim (by omega)
    refine ⟨fun j hj => ?_, fun hn => ?_⟩
    · obtain ⟨a1, a2⟩ := hl.1 j hj
      obtain ⟨⟨q, hq, -⟩, -⟩ := fmt_some.mp hj
      rw [← pre_dep hp (List.getElem?_eq_some_iff.mp hq).1, a1]
      exact ⟨rfl, key j a1⟩
    · cases e : fmt p Q with
      | none => rfl
      | some j =>
        have := hl.2 hn j e
        dsimp only
        rw [if_neg (by omega)]
theorem spS_lim {T : Tn} {L : Ar} {gl : List Nat} {n r : Nat} {b : Int × Nat} (w0 : WA (tR T) (tH T) L) (hH : tH T ≤ 8) (hRH : 0 < tH T → 0 < tR T) (h60 : ways (tR T) (tH T) ≤ 60480) :
    (∀ j, fmt (pM (0, gl, 0)) (FQ (lng T r n) (b.2 - 1) L) = some j → spS T L gl n b r = (if dep (FQ (lng T r n) (b.2 - 1) L) j < b.2 then ((r : Int), dep (FQ (lng T r n) (b.2 - 1) L) j) else b) ∧ dep (FQ (lng T r n) (b.2 - 1) L) j ≤ 60480) ∧ (fmt (pM (0, gl, 0)) (FQ (lng T r n) (b.2 - 1) L) = none → spS T L gl n b r = b) := by
  have w0' : WA (tR (lng T r n)) (tH (lng T r n)) L := w0
  have hH' : tH (lng T r n) ≤ 8 := hH
  have hRH' : 0 < tH (lng T r n) → 0 < tR (lng T r n) := hRH
  have h60' : ways (tR (lng T r n)) (tH (lng T r n)) ≤ 60480 := h60
  have hQ := FA_QW w0'
  refine spS_gen (Q := FA (lng T r n) L) (Qm := FQ (lng T r n) (b.2 - 1) L) (p := pM (0, gl, 0)) (b := b) (r := r) (m := b.2 - 1) (K := 60480) rfl (fun j hj => ?_) (fun hm => FA_big w0' hH' hRH' h60' hm) (fun hm => FA_lim w0' hH' hRH' h60' hm)
  obtain ⟨⟨q, hq, -⟩, -⟩ := fmt_some.mp hj
  have hjl := (List.getElem?_eq_some_iff.mp hq).1
  have h1 := hQ.len hH' hRH'
  have h2 := hQ.dep_le j hjl
  exact Nat.le_trans h2 (Nat.le_trans (Nat.le_of_lt hjl) (Nat.le_trans h1 h60'))
theorem spF_s (T : Tn) (L : Ar) (gl : List Nat) (n k : Nat) : spF T L gl n (k + 1) = spS T L gl n (spF T L gl n k) k := by unfold spF; rw [List.range_succ, List.foldl_append, List.foldl_cons, List.foldl_nil]
theorem spS_rng {T : Tn} {L : Ar} {gl : List Nat} {n r : Nat} {b : Int × Nat} (w0 : WA (tR T) (tH T) L) (hH : tH T ≤ 8) (hRH : 0 < tH T → 0 < tR T) (h60 : ways (tR T) (tH T) ≤ 60480) (hb : b.2 = 1000000 ∨ b.2 ≤ 60480) (hb1 : -1 ≤ b.1 ∧ b.1 < r ∧ (b.1 = -1 ↔ b.2 = 1000000)) :
    ((spS T L gl n b r).2 = 1000000 ∨ (spS T L gl n b r).2 ≤ 60480) ∧ -1 ≤ (spS T L gl n b r).1 ∧ (spS T L gl n b r).1 < r + 1 ∧ ((spS T L gl n b r).1 = -1 ↔ (spS T L gl n b r).2 = 1000000) := by
  obtain ⟨k1, k2⟩ := spS_lim (T := T) (L := L) (gl := gl) (n := n) (r := r) (b := b) w0 hH hRH h60
  cases e : fmt (pM (0, gl, 0)) (FQ (lng T r n) (b.2 - 1) L) with
  | none => rw [k2 e]; exact ⟨hb, hb1.1, by omega, hb1.2.2⟩
  | some j =>
    obtain ⟨a1, a2⟩ := k1 j e
    rw [a1]
    split
    · dsimp only; exact ⟨Or.inr a2, by omega, by omega, by omega⟩
    · exact ⟨hb, hb1.1, by omega, hb1.2.2⟩
theorem spF_rng {T : Tn} {L : Ar} {gl : List Nat} {n : Nat} (w0 : WA (tR T) (tH T) L) (hH : tH T ≤ 8) (hRH : 0 < tH T → 0 < tR T) (h60 : ways (tR T) (tH T) ≤ 60480) : ∀ k, ((spF T L gl n k).2 = 1000000 ∨ (spF T L gl n k).2 ≤ 60480) ∧ -1 ≤ (spF T L gl n k).1 ∧ (spF T L gl n k).1 < k ∧ ((spF T L gl n k).1 = -1 ↔ (spF T L gl n k).2 = 1000000)
  | 0 => by
    have e : spF T L gl n 0 = (-1, 1000000) := rfl
    rw [e]
    exact ⟨Or.inl rfl, by decide, by decide, by decide⟩
  | k + 1 => by
    obtain ⟨a, b, c, d⟩ := spF_rng w0 hH hRH h60 (gl := gl) (n := n) k
    rw [spF_s]
    obtain ⟨x1, x2, x3, x4⟩ := spS_rng (gl := gl) (n := n) (r := k) w0 hH hRH h60 a ⟨b, c, d⟩
    exact ⟨x1, x2, by omega, x4⟩
section
variable {Γ : rhG} {M : rhM} {t t' : Nat} {T : Tn} {L : Ar}
theorem c_seek1 {S F c cp Ln h : Nat} (hSE : SE Γ M c S F cp Ln) (hh : h < tH T) : wp (f_X5_seekAlone Γ M S (J h)) (fun M' => KP [12] M M' ∧ KC M M' ∧ (∀ y, y ≠ S → M'.1 y = M.1 y) ∧ M'.2.2 = M.2.2 ∧ BMp M' S T (1, [], h)) := by
  obtain ⟨s1, s2, s3, s3', s4, s4', s5, s6, s7⟩ := hSE
  rw [f_X5_seekAlone, wp_ck_t s5.1]
  dsimp only
  rw [wp_some]
  refine ⟨KP_S s2 (KP_S s2 (KP.refl _ _) _) _, ((KC.refl _).si _ (by omega)).si _ (by omega), fun y hy => ?_, rfl, ?_, Nat.le_succ 1, fun h => absurd (show (1 : Nat) = 0 from h) (by decide), fun _ => ⟨?_, hh⟩⟩
  · funext k; rw [si_1, if_neg (by omega), si_1, if_neg (by omega)]
  · rw [si_1, if_neg (by omega), si_1, if_pos ⟨rfl, rfl⟩]; rfl
  · rw [si_1, if_pos ⟨rfl, rfl⟩]
theorem c_seek2 {S F c cp Ln : Nat} (hSE : SE Γ M c S F cp Ln) : wp (f_X5_seekWorth Γ M S) (fun M' => KP [12] M M' ∧ KC M M' ∧ (∀ y, y ≠ S → M'.1 y = M.1 y) ∧ M'.2.2 = M.2.2 ∧ BMp M' S T (2, [], 0)) := by
  obtain ⟨s1, s2, s3, s3', s4, s4', s5, s6, s7⟩ := hSE
  rw [f_X5_seekWorth, wp_ck_t s5.1]
  dsimp only
  rw [wp_some]
  refine ⟨KP_S s2 (KP.refl _ _) _, (KC.refl _).si _ (by omega), fun y hy => ?_, rfl, ?_, Nat.le_refl 2, fun h => absurd (show (2 : Nat) = 0 from h) (by decide), fun h => absurd (show (2 : Nat) = 1 from h) (by decide)⟩
  · funext k; rw [si_1, if_neg (by omega)]
  · rw [si_1, if_pos ⟨rfl, rfl⟩]; rfl
theorem c_free (hG : GK Γ) (hC : CR M) (hT : C3 M t t' T) (hw : TWf T) (hRH : 0 < tH T → 0 < tR T) (h4 : C4 M (tR T) L) (wL : WA (tR T) (tH T) L) {ly : List Nat} (hCD : CD Γ M ly) {z : Int} (z1 : -2147483648 ≤ z) (z2 : z < 2147483648) : wp (f_X11_free Γ M 1 (J z)) (Aft Γ M [0, 8, 12] (freV T L z).2 (J (freV T L z).1)) := by
  have w2 := hw.2.1
  have htt := hT.tt
  unfold freV
  rw [f_X11_free, wp_ck_t (GKk1 hG), CR1_9 hC, wp_ck_t (GKk51 hG), wp_bind]
  refine (c_clear51 hG hCD).mono (fun M1 q => ?_)
  obtain ⟨k1, kc1, hD1⟩ := q
  have hC1 := hC.kp k1 (by decide)
  have hT1 := hT.kp k1 (by decide)
  rw [c_isHouse hG hC1 hT1 hw z1 z2, wp_bind, wp_some]
  by_cases ch : ¬ (0 ≤ z ∧ z < tH T)
  · rw [bi_f ch, wp_ite_t rfl, wp_some, pick_f ch]
    exact ⟨rfl, OldG.refl _, k1.sub (by decide), kc1, hD1⟩
  have ch := Classical.not_not.mp ch
  rw [bi_t ch, wp_ite_f (by decide), pick_t ch, c_isSpent hG hC1 hT1 hw, wp_bind, wp_some]
  by_cases c : manyP T
  · rw [bi_t c, wp_ite_f (by decide), wp_some, pick_t c]
    exact ⟨rfl, OldG.refl _, k1.sub (by decide), kc1, hD1⟩
  obtain ⟨h, rfl⟩ : ∃ h : Nat, z = h := ⟨z.toNat, by omega⟩
  rw [Int.toNat_natCast]
  rw [bi_f c, wp_ite_t rfl, wp_bind, pick_f c]
  have hr4 : tR T ≤ 4 := by unfold manyP at c; omega
  have hh6 : tH T ≤ 6 := by unfold manyP at c; omega
  refine (c_ready hG hC1 hT1 hw hRH hr4 hh6 hD1).mono (fun r2 q => ?_)
  obtain ⟨o2, k2, kc2, cc, CC, cp, S, F, Ln, h02, hSE2, hcw⟩ := q
  have hf2 := hSE2.2.2.2.2.2.2.1.F183
  have hG2 := o2.gk hG
  have k12 := (k1.sub (ids' := [0, 8, 12]) (by decide)).trans (k2.sub (by decide))
  have hC2 := hC1.kp k2 (by decide)
  have hT2 := hT1.kp k2 (by decide)
  have h42 := (h4.kp k1 (by decide)).kp k2 (by decide)
  rw [wp_ck_t (GKk1 hG2), hSE2.1, wp_ck_t hSE2.2.2.2.2.2.2.1.1, wp_bind]
  refine (c_seek1 (T := T) hSE2 (show h < tH T by omega)).mono (fun M3 q => ?_)
  obtain ⟨k3, kc3, i3, r3, b3⟩ := q
  have hC3 := hC2.kp k3 (by decide)
  have hT3 := hT2.kp k3 (by decide)
  have h43 := h42.kp k3 (by decide)
  have h03 := h02.S hSE2 i3 r3
  have hSE3 := hSE2.S i3 r3
  rw [CR1_5 hC3, wp_ck_t (GKk33 hG2), hSE3.1, wp_ck_t hSE3.2.2.2.2.2.2.1.1, hT3.2.1, h43.1, wp_bind, show (1000000 : Int32) = J 1000000 from rfl]
  have hQb : FQ T 1000000 L = FA T L := FA_big wL w2 hRH (ways_max hr4 hh6) (by omega)
  refine c_sprd (md := (1, [], h)) (most := 1000000) htt (hT3.ts hG2 hC3) hT3.2.2.2 hw hRH hr4 hh6 wL h03 hSE3 hcw b3 rfl (by omega) (by omega) _ (fun M4 hF h04 hSE4 b4 _ hf h11 _ => ?_) (fun M4 j hF h04 hSE4 b4 hf hr => ?_)
  · obtain ⟨k4, kc4⟩ := KP_sp htt hSE3.2.1 (show 183 ≤ F by omega) W2_in hF
    rw [hQb] at hf
    unfold rowS
    have h11' : M4.1 S 10 = -1 := by rw [h11, if_neg (show ¬ ((1 : Nat), ([] : List Nat), h).1 = 2 from (by show ¬ (1 : Nat) = 2; decide))]; rfl
    rw [hf, h11']
    dsimp only
    rw [f_X11_lay, wp_bind, wp_ite_t rfl, wp_some, wp_some]
    exact ⟨rfl, o2, (k12.trans (k3.sub (by decide))).trans (k4.sub (by decide)), ((kc1.trans kc2).trans kc3).trans kc4, cc, CC, Or.inr ⟨S, F, cp, Ln, h04, hSE4⟩⟩
  · obtain ⟨k4, kc4⟩ := KP_sp htt hSE3.2.1 (show 183 ≤ F by omega) W2_in hF
    have hC4 := hC3.kp k4 (by decide)
    rw [hQb] at hf hr ⊢
    unfold rowS
    obtain ⟨Q, hQ⟩ : ∃ Q, FA T L = Q := ⟨_, rfl⟩
    rw [hQ] at hf hr ⊢
    rw [hf, wp_bind]
    have hlr : ((rowTo Q j).reverse).length = (rowTo Q j).length := List.length_reverse
    obtain ⟨e1, e2, e3, e4, e5⟩ := hr
    obtain ⟨rr, hrr⟩ : ∃ l, (rowTo Q j).reverse = l := ⟨_, rfl⟩
    rw [hrr] at e3 hlr
    rw [← hlr] at e2 e5
    refine (c_lay hG2 hC4 h04 hSE4 e1 (r := rr) e5 e2 e3).mono (fun x q => ?_)
    obtain ⟨x1, x2, x3, x4, -, c', C', x5, x6⟩ := q
    rw [wp_some]
    have kx : KP [0, 8, 12] M x.2.2 := ((k12.trans (k3.sub (by decide))).trans (k4.sub (by decide))).trans (x3.sub (by decide))
    have kcx : KC M x.2.2 := (((kc1.trans kc2).trans kc3).trans kc4).trans x4
    refine ⟨?_, o2.trans x2, kx, kcx, c', C', Or.inr ⟨S, F, cp, Ln, ?_, x6⟩⟩
    · dsimp only
      rw [x1, hlr, Option.map_some, outV]
    · rw [← hrr, List.reverse_reverse] at x5
      rw [Option.map_some, outV]
      dsimp only
      exact x5
theorem c_richest (hG : GK Γ) (hC : CR M) (hT : C3 M t t' T) (hw : TWf T) (hRH : 0 < tH T → 0 < tR T) (h4 : C4 M (tR T) L) (wL : WA (tR T) (tH T) L) {ly : List Nat} (hCD : CD Γ M ly) {z : Int} (z1 : -2147483648 ≤ z) (z2 : z < 2147483648) : wp (f_X11_richest Γ M 1 (J z)) (Aft Γ M [0, 8, 12] (ricV T L z).2 (J (ricV T L z).1)) := by
  have w2 := hw.2.1
  have htt := hT.tt
  unfold ricV
  rw [f_X11_richest, wp_ck_t (GKk1 hG), CR1_9 hC, wp_ck_t (GKk51 hG), wp_bind]
  refine (c_clear51 hG hCD).mono (fun M1 q => ?_)
  obtain ⟨k1, kc1, hD1⟩ := q
  have hC1 := hC.kp k1 (by decide)
  have hT1 := hT.kp k1 (by decide)
  by_cases c1 : z < 0
  · rw [wp_ite_t (by rw [show (0 : Int32) = J 0 from rfl, J_lt (by omega) (by omega) (by omega) (by omega)]; exact c1), wp_some, pick_f (by omega)]
    exact ⟨rfl, OldG.refl _, k1.sub (by decide), kc1, hD1⟩
  rw [wp_ite_f (by rw [show (0 : Int32) = J 0 from rfl, J_lt (by omega) (by omega) (by omega) (by omega)]; exact c1)]
  by_cases c2 : 30 < z
  · rw [wp_ite_t (by rw [show (30 : Int32) = J 30 from rfl, J_lt (by omega) (by omega) (by omega) (by omega)]; exact c2), wp_some, pick_f (by omega)]
    exact ⟨rfl, OldG.refl _, k1.sub (by decide), kc1, hD1⟩
  rw [wp_ite_f (by rw [show (30 : Int32) = J 30 from rfl, J_lt (by omega) (by omega) (by omega) (by omega)]; exact c2), c_isSpent hG hC1 hT1 hw, wp_bind, wp_some]
  by_cases c : manyP T
  · rw [bi_t c, wp_ite_f (by decide), wp_some, pick_f (fun h => h.2.2 c)]
    exact ⟨rfl, OldG.refl _, k1.sub (by decide), kc1, hD1⟩
  obtain ⟨n, rfl⟩ : ∃ n : Nat, z = n := ⟨z.toNat, by omega⟩
  rw [bi_f c, wp_ite_t rfl, wp_bind, pick_t ⟨by omega, by omega, c⟩, Int.toNat_natCast]
  have hr4 : tR T ≤ 4 := by unfold manyP at c; omega
  have hh6 : tH T ≤ 6 := by unfold manyP at c; omega
  refine (c_ready hG hC1 hT1 hw hRH hr4 hh6 hD1).mono (fun r2 q => ?_)
  obtain ⟨o2, k2, kc2, cc, CC, cp, S, F, Ln, h02, hSE2, hcw⟩ := q
  have hf2 := hSE2.2.2.2.2.2.2.1.F183
  have hG2 := o2.gk hG
  have k12 := (k1.sub (ids' := [0, 8, 12]) (by decide)).trans (k2.sub (by decide))
  have hC2 := hC1.kp k2 (by decide)
  have hT2 := hT1.kp k2 (by decide)
  have h42 := (h4.kp k1 (by decide)).kp k2 (by decide)
  rw [wp_ck_t (GKk1 hG2), hSE2.1, wp_ck_t hSE2.2.2.2.2.2.2.1.1, wp_bind]
  refine (c_seek2 (T := T) hSE2).mono (fun M3 q => ?_)
  obtain ⟨k3, kc3, i3, r3, b3⟩ := q
  have hC3 := hC2.kp k3 (by decide)
  have hT3 := hT2.kp k3 (by decide)
  have h43 := h42.kp k3 (by decide)
  have h03 := h02.S hSE2 i3 r3
  have hSE3 := hSE2.S i3 r3
  rw [CR1_5 hC3, wp_ck_t (GKk33 hG2), hSE3.1, wp_ck_t hSE3.2.2.2.2.2.2.1.1, hT3.2.1, h43.1, wp_bind]
  refine c_sprd (md := (2, [], 0)) (most := n) htt (hT3.ts hG2 hC3) hT3.2.2.2 hw hRH hr4 hh6 wL h03 hSE3 hcw b3 (Int.toNat_natCast n) (by omega) (by omega) _ (fun M4 hF h04 hSE4 b4 hrw hf h11 h01 => ?_) (fun M4 j hF h04 hSE4 b4 hf hr => ?_)
  · obtain ⟨k4, kc4⟩ := KP_sp htt hSE3.2.1 (show 183 ≤ F by omega) W2_in hF
    have hC4 := hC3.kp k4 (by decide)
    have hQW := FQ_QW (T := T) (m := n) wL
    obtain ⟨Q, hQ⟩ : ∃ Q, FQ T n L = Q := ⟨_, rfl⟩
    rw [hQ] at hf hrw h11 h01 hQW ⊢
    rw [if_pos rfl] at h11 h01
    have hb := bestF_in hw hRH _ (arrs Q) rfl hQW.2.1
    have hal : (arrs Q).length = Q.length := by unfold arrs; rw [List.length_map]
    have hb1 := (bestF_rng hw hRH (arrs Q) hQW.2.1).1.1
    have hpos := hQW.pos
    have hb0 : (bestF T (arrs Q)).1 ≠ -1 := fun h => by
      have := congrArg List.length (hb.1 h)
      rw [hal] at this
      simp at this
      rw [this] at hpos; simp at hpos
    obtain ⟨j, hj⟩ : ∃ j : Nat, (bestF T (arrs Q)).1 = j := ⟨(bestF T (arrs Q)).1.toNat, by omega⟩
    have ebst : bst T (arrs Q) = (nm (tR T) (tH T) ((arrs Q).getD j []) : Nat) := by unfold bst; rw [if_neg hb0, hj, Int.toNat_natCast]
    rw [ebst] at h11
    rw [hj] at hb
    rw [hj, Int.toNat_natCast]
    have hr := hrw j (by omega)
    rw [h11, wp_bind]
    dsimp only
    have hlr : ((rowTo Q j).reverse).length = (rowTo Q j).length := List.length_reverse
    obtain ⟨e1, e2, e3, e4, e5⟩ := hr
    obtain ⟨rr, hrr⟩ : ∃ l, (rowTo Q j).reverse = l := ⟨_, rfl⟩
    rw [hrr] at e3 hlr
    rw [← hlr] at e2 e5
    refine (c_lay hG2 hC4 h04 hSE4 e1 (r := rr) e5 e2 e3).mono (fun x q => ?_)
    obtain ⟨x1, x2, x3, x4, x7, c', C', x5, x6⟩ := q
    rw [wp_ck_t (GKk1 (x2.gk hG2)), x6.1, wp_ck_t x6.2.2.2.2.2.2.1.1, wp_some, (x7 S (by omega)).1, h01]
    have kx : KP [0, 8, 12] M x.2.2 := ((k12.trans (k3.sub (by decide))).trans (k4.sub (by decide))).trans (x3.sub (by decide))
    have kcx : KC M x.2.2 := (((kc1.trans kc2).trans kc3).trans kc4).trans x4
    refine ⟨rfl, o2.trans x2, kx, kcx, c', C', Or.inr ⟨S, F, cp, Ln, ?_, x6⟩⟩
    rw [← hrr, List.reverse_reverse] at x5
    exact x5
  · obtain ⟨⟨q, -, hp⟩, -⟩ := fmt_some.mp hf
    exact absurd hp (by unfold pM; rw [if_neg (show ¬ (2 : Nat) = 0 by decide), if_neg (show ¬ (2 : Nat) = 1 by decide)]; exact fun h => h)
end
