/-! REFERENCE: FEWEST, FREE, RICHEST, LEAST, SPARE -/
section
variable {Γ : rhG} {M : rhM} {T : Tn} {L : Ar}
/-- what a question ends with on the reference's side -/
def Afr (M : rhM) (ids : List Nat) (ly : List Nat) (v : Int32) (x : Int32 × rhM) : Prop := x.1 = v ∧ KP ids M x.2 ∧ KR M x.2 ∧ R8 x.2 ly
theorem W4_in : ∀ r, r ∈ W4 → r = 102 ∨ (r ≠ 1 ∧ r ≠ 55 ∧ r ≠ 102 ∧ idl.getD r 12 ∈ ([0] : List Nat)) := by decide
theorem KP_W4 {M' : rhM} (hF : Fr W4 M M') (h : ∀ k, k ≠ 60 → k ≠ 61 → M'.1 102 k = M.1 102 k) : KP [0] M M' ∧ KR M M' := by
  refine ⟨KP.frM hF (by decide) (fun k hk => h k (fun e => hk (by rw [e]; decide)) (fun e => hk (by rw [e]; decide))) W4_in, KR.fr hF (by decide)⟩
theorem r_out (hG : GK Γ) (h6 : tH T ≤ 6) (hRH : 0 < tH T → 0 < tR T) (h60 : ways (tR T) (tH T) ≤ 60480) (w0 : WA (tR T) (tH T) L) {most j : Nat} {q : Nd} (hR : MR M) (hMQ : MQu M (tR T) (bq T most L j)) (hq : (bq T most L j)[j]? = some q) (hj : j ≤ 61000) : wp (f_X12_layWay Γ M 102 (J (stn (tR T) q.1))) (fun M' => KP [0, 8] M M' ∧ KR M M' ∧ R8 M' (rowTo (FQ T most L) j) ∧ M'.1 102 66 = J (rowTo (FQ T most L) j).length) := by
  have hQW := bq_QW (T := T) (most := most) w0 j
  have hl := hQW.len (by omega) hRH
  have hp : bq T most L j <+: FQ T most L := bq_FQ hj
  have hjl := (List.getElem?_eq_some_iff.mp hq).1
  rw [rowTo_pre hp hQW hjl]
  refine (m_layWay hG hQW h6 (by omega) hR hMQ hq).mono (fun M' h => ?_)
  obtain ⟨h1, h2, h3, h4, h5⟩ := h
  refine ⟨KP.frM h1 (by decide) (fun k hk => h5 k (fun e => hk (by rw [e]; decide))) (by decide), KR.fr h1 (by decide), ⟨by rw [h4, h3], h2⟩, by rw [h4, h3]⟩
theorem r_many (hG : GK Γ) (hR : MR M) (h3 : R3 M T) (hw : TWf T) : f_X12_isMany Γ M 102 = some (bi (manyP T)) := by
  obtain ⟨b, lb, hT⟩ := h3
  exact m_isMany hG hR hT hw
theorem r_zero66 : KP [8] M (rhsi M 102 66 0) ∧ KR M (rhsi M 102 66 0) ∧ R8 (rhsi M 102 66 0) [] := ⟨(KP.refl _ _).si _ (by decide), (KR.refl _).si _ (by decide), by rw [si_1, if_pos ⟨rfl, rfl⟩]; rfl, trivial⟩
theorem ME0 {gl : List Nat} (h7 : R7 M gl) (hg : ∀ h, h ∈ gl → h < 8) (hl : gl.length ≤ 8) : ME (rhsi M 102 61 (J ((0, gl, 0) : Md).1)) (0, gl, 0) := by
  refine ⟨by rw [si_1, if_pos ⟨rfl, rfl⟩], Nat.zero_le _, fun _ => ⟨by rw [si_1, if_neg (by omega)]; exact h7.1, ?_, hg, hl⟩, fun h => absurd (show (0 : Nat) = 1 from h) (by decide)⟩
  exact Sg_eq (by funext k; rw [si_1, if_neg (by omega)]) h7.2
theorem r_fewest (hG : GK Γ) (hR : MR M) (h3 : R3 M T) (hw : TWf T) (hRH : 0 < tH T → 0 < tR T) (h4 : R4 M L) (wL : WA (tR T) (tH T) L) {gl : List Nat} (h7 : R7 M gl) (hnd : gl.Nodup) (hg : ∀ h, h ∈ gl → h < tH T) : wp (f_X12_fewest Γ M 102) (Afr M [0, 8] (fewV T L gl).2 (J (fewV T L gl).1)) := by
  have w2 := hw.2.1
  unfold fewV
  obtain ⟨k0, kr0, h80⟩ := r_zero66 (M := M)
  rw [f_X12_fewest, wp_ck_t (GKk102 hG)]
  dsimp only
  obtain ⟨M2, hM2⟩ : ∃ N, N = rhsi M 102 66 0 := ⟨_, rfl⟩
  rw [← hM2] at k0 kr0 h80 ⊢
  have hR2 := hR.kp k0 (by decide)
  have h32 := h3.kp k0 (by decide)
  have h42 := h4.kp k0 (by decide)
  have h72 := h7.kp k0 (by decide)
  rw [r_many hG hR2 h32 hw, wp_bind, wp_some]
  by_cases c : manyP T
  · rw [bi_t c, wp_ite_f (by decide), wp_some, pick_t c]
    exact ⟨rfl, k0.sub (by decide), kr0, h80⟩
  rw [bi_f c, wp_ite_t rfl, pick_f c, wp_bind]
  have hr4 : tR T ≤ 4 := by unfold manyP at c; omega
  have hh6 : tH T ≤ 6 := by unfold manyP at c; omega
  have h60 := ways_max hr4 hh6
  have hl := nd8 hnd hg
  obtain ⟨bk, lb, hT2⟩ := h32
  have hQb : FQ T 246960 L = FA T L := FA_big wL w2 hRH h60 (by omega)
  refine m_search (md := (0, gl, 0)) (most := 246960) hG hR2 hT2 hw hRH hr4 hh6 h42 wL (by omega) (ME0 h72 (fun h hh => by have := hg h hh; omega) (by omega)) _ (fun M' hF hR' hT' hMQ hf hk => ?_) (fun M' j q hF hR' hT' hMQ hq hf hk => ?_)
  · obtain ⟨k1, kr1⟩ := KP_W4 hF hk
    rw [hQb] at hf
    unfold rowS
    rw [hf, wp_ite_t (show (-1 : Int32) < 0 by decide), wp_some]
    exact ⟨rfl, (k0.sub (by decide)).trans (k1.sub (by decide)), kr0.trans kr1, h80.kp k1 (by decide)⟩
  · obtain ⟨k1, kr1⟩ := KP_W4 hF hk
    have hQW := bq_QW (T := T) (most := 246960) wL j
    have wq : WA (tR T) (tH T) q.1 := hQW.2.1 q.1 (List.mem_map.mpr ⟨q, List.mem_of_getElem? hq, rfl⟩)
    have hst := stn_lt wq hh6
    have hjl := (List.getElem?_eq_some_iff.mp hq).1
    have hlen := hQW.len w2 hRH
    dsimp only
    rw [wp_ite_f (by rw [show (0 : Int32) = J 0 from rfl, J_lt (by omega) (by omega) (by omega) (by omega)]; omega), wp_bind]
    have := r_out (most := 246960) hG hh6 hRH h60 wL hR' hMQ hq (by omega)
    rw [hQb] at this hf
    unfold rowS
    obtain ⟨Q, hQ⟩ : ∃ Q, FA T L = Q := ⟨_, rfl⟩
    rw [hQ] at this hf ⊢
    rw [hf]
    refine this.mono (fun M'' q2 => ?_)
    obtain ⟨y1, y2, y3, y4⟩ := q2
    rw [wp_some, y4, Option.map_some, outV]
    exact ⟨rfl, ((k0.sub (by decide)).trans (k1.sub (by decide))).trans y1, (kr0.trans kr1).trans y2, y3⟩
theorem r_free (hG : GK Γ) (hR : MR M) (h3 : R3 M T) (hw : TWf T) (hRH : 0 < tH T → 0 < tR T) (h4 : R4 M L) (wL : WA (tR T) (tH T) L) {z : Int} (z1 : -2147483648 ≤ z) (z2 : z < 2147483648) : wp (f_X12_free Γ M 102 (J z)) (Afr M [0, 8] (freV T L z).2 (J (freV T L z).1)) := by
  have w2 := hw.2.1
  unfold freV
  obtain ⟨k0, kr0, h80⟩ := r_zero66 (M := M)
  rw [f_X12_free, wp_ck_t (GKk102 hG)]
  dsimp only
  obtain ⟨M2, hM2⟩ : ∃ N, N = rhsi M 102 66 0 := ⟨_, rfl⟩
  rw [← hM2] at k0 kr0 h80 ⊢
  have hR2 := hR.kp k0 (by decide)
  have h32 := h3.kp k0 (by decide)
  have h42 := h4.kp k0 (by decide)
  obtain ⟨bk0, lb0, hT20⟩ := id h32
  rw [m_isHouseJ hG hR2 hT20 hw z1 z2, wp_bind, wp_some]
  by_cases ch : ¬ (0 ≤ z ∧ z < tH T)
  · rw [bi_f ch, wp_ite_t rfl, wp_some, pick_f ch]
    exact ⟨rfl, k0.sub (by decide), kr0, h80⟩
  have ch := Classical.not_not.mp ch
  rw [bi_t ch, wp_ite_f (by decide), pick_t ch, r_many hG hR2 h32 hw, wp_bind, wp_some]
  by_cases c : manyP T
  · rw [bi_t c, wp_ite_f (by decide), wp_some, pick_t c]
    exact ⟨rfl, k0.sub (by decide), kr0, h80⟩
  rw [bi_f c, wp_ite_t rfl, pick_f c, wp_bind]
  have hr4 : tR T ≤ 4 := by unfold manyP at c; omega
  have hh6 : tH T ≤ 6 := by unfold manyP at c; omega
  have h60 := ways_max hr4 hh6
  obtain ⟨h, rfl⟩ : ∃ h : Nat, z = h := ⟨z.toNat, by omega⟩
  rw [Int.toNat_natCast]
  have k7 : KP [0] M2 (rhsi M2 102 62 (J h)) := (KP.refl _ _).si _ (by decide)
  have kr7 : KR M2 (rhsi M2 102 62 (J h)) := (KR.refl _).si _ (by decide)
  have hME : ME (rhsi (rhsi M2 102 62 (J h)) 102 61 (J ((1, [], h) : Md).1)) (1, [], h) := ⟨by rw [si_1, if_pos ⟨rfl, rfl⟩], Nat.le_succ 1, fun h => absurd (show (1 : Nat) = 0 from h) (by decide), fun _ => ⟨by rw [si_1, if_neg (by omega), si_1, if_pos ⟨rfl, rfl⟩], (show h < 8 by omega)⟩⟩
  obtain ⟨M7, hM7⟩ : ∃ N, N = rhsi M2 102 62 (J h) := ⟨_, rfl⟩
  rw [← hM7] at k7 kr7 hME ⊢
  obtain ⟨bk, lb, hT2⟩ := h32.kp k7 (by decide)
  have hQb : FQ T 246960 L = FA T L := FA_big wL w2 hRH h60 (by omega)
  refine m_search (md := (1, [], h)) (most := 246960) hG (hR2.kp k7 (by decide)) hT2 hw hRH hr4 hh6 (h42.kp k7 (by decide)) wL (by omega) hME _ (fun M' hF hR' hT' hMQ hf hk => ?_) (fun M' j q hF hR' hT' hMQ hq hf hk => ?_)
  · obtain ⟨k1, kr1⟩ := KP_W4 hF hk
    rw [hQb] at hf
    unfold rowS
    rw [hf, wp_ite_t (show (-1 : Int32) < 0 by decide), wp_some]
    exact ⟨rfl, ((k0.sub (by decide)).trans (k7.sub (by decide))).trans (k1.sub (by decide)), (kr0.trans kr7).trans kr1, (h80.kp k7 (by decide)).kp k1 (by decide)⟩
  · obtain ⟨k1, kr1⟩ := KP_W4 hF hk
    have hQW := bq_QW (T := T) (most := 246960) wL j
    have wq : WA (tR T) (tH T) q.1 := hQW.2.1 q.1 (List.mem_map.mpr ⟨q, List.mem_of_getElem? hq, rfl⟩)
    have hst := stn_lt wq hh6
    have hjl := (List.getElem?_eq_some_iff.mp hq).1
    have hlen := hQW.len w2 hRH
    dsimp only
    rw [wp_ite_f (by rw [show (0 : Int32) = J 0 from rfl, J_lt (by omega) (by omega) (by omega) (by omega)]; omega), wp_bind]
    have := r_out (most := 246960) hG hh6 hRH h60 wL hR' hMQ hq (by omega)
    rw [hQb] at this hf
    unfold rowS
    obtain ⟨Q, hQ⟩ : ∃ Q, FA T L = Q := ⟨_, rfl⟩
    rw [hQ] at this hf ⊢
    rw [hf]
    refine this.mono (fun M'' q2 => ?_)
    obtain ⟨y1, y2, y3, y4⟩ := q2
    rw [wp_some, y4, Option.map_some, outV]
    exact ⟨rfl, (((k0.sub (by decide)).trans (k7.sub (by decide))).trans (k1.sub (by decide))).trans y1, ((kr0.trans kr7).trans kr1).trans y2, y3⟩
theorem r_ric40 {b : Nat} {lb : Int} (hG : GK Γ) (hw : TWf T) (hRH : 0 < tH T → 0 < tR T) (hr4 : tR T ≤ 4) (hh6 : tH T ≤ 6) (Q : List Nd) (hv : ∀ L, L ∈ arrs Q → WA (tR T) (tH T) L) (hQl : Q.length ≤ 60480) (K : rhM → Nat → Int32 → Int32 → Option (Int32 × rhM)) (Qp : Int32 × rhM → Prop) : ∀ (d n : Nat) (M : rhM) (i : Nat), i + d = Q.length → d < n → MR M → TM M b T (-1) lb → MQu M (tR T) Q →
    (∀ M' s, Fr [128, 129, 130] M M' → MR M' → MQu M' (tR T) Q → ((bestF T (arrs Q)).1 = -1 → s = -1) → (∀ j q, (bestF T (arrs Q)).1 = (j : Nat) → Q[j]? = some q → s = J (stn (tR T) q.1)) → wp (K M' 102 s (J (bestF T (arrs Q)).2.1)) Qp) →
    ∀ s, ((bestF T ((arrs Q).take i)).1 = -1 → s = -1) → (∀ j q, (bestF T ((arrs Q).take i)).1 = (j : Nat) → Q[j]? = some q → s = J (stn (tR T) q.1)) →
    wp (f_X12_richest_40 K Γ n M 102 s (J (bestF T ((arrs Q).take i)).2.1) (J i)) Qp := by
  have hal : (arrs Q).length = Q.length := by unfold arrs; rw [List.length_map]
  intro d
  induction d with
  | zero =>
    intro n M i hi hn hR hT hMQ hK s hs1 hs2
    obtain ⟨n, rfl⟩ : ∃ k, n = k + 1 := ⟨n - 1, by omega⟩
    rw [List.take_of_length_le (by omega)] at hs1 hs2 ⊢
    rw [f_X12_richest_40, wp_ck_t (GKk102 hG), hMQ.1, wp_ite_f (by rw [J_lt (by omega) (by omega) (by omega) (by omega)]; omega)]
    exact hK M s (Fr.refl _ _) hR hMQ hs1 hs2
  | succ d ih =>
    intro n M i hi hn hR hT hMQ hK s hs1 hs2
    obtain ⟨n, rfl⟩ : ∃ k, n = k + 1 := ⟨n - 1, by omega⟩
    have hil : i < Q.length := by omega
    obtain ⟨q, hq⟩ : ∃ q, Q[i]? = some q := ⟨Q[i], List.getElem?_eq_getElem hil⟩
    have wq : WA (tR T) (tH T) q.1 := hv q.1 (List.mem_map.mpr ⟨q, List.mem_of_getElem? hq, rfl⟩)
    have hst := stn_lt wq hh6
    have hci : (J (i : Int)).toNatClampNeg = i := by rw [J_clamp (by omega) (by omega), Int.toNat_natCast]
    have hri : 0 ≤ (J (i : Int)).toInt ∧ (J (i : Int)).toInt < ((61000 : Nat) : Int) := by rw [J_toInt (by omega) (by omega)]; omega
    have hai : (arrs Q)[i]? = some q.1 := by unfold arrs; rw [List.getElem?_map, hq]; rfl
    have htk : (arrs Q).take (i + 1) = (arrs Q).take i ++ [q.1] := by rw [List.take_add_one, hai]; rfl
    have hvt : ∀ L, L ∈ (arrs Q).take i → WA (tR T) (tH T) L := fun L hL => hv L (List.mem_of_mem_take hL)
    have hrg := bestF_rng hw hRH _ hvt
    have hin := bestF_in hw hRH _ _ rfl hvt
    have hwr := worth_rng hw wq hRH
    have htl : ((arrs Q).take i).length = i := by rw [List.length_take]; omega
    have hnx : bestF T ((arrs Q).take (i + 1)) = bestS T (bestF T ((arrs Q).take i)) q.1 := by rw [htk, bestF_snoc]
    have hcnt := hrg.2.2
    rw [htl] at hcnt hrg hin
    obtain ⟨B, hB⟩ : ∃ B, bestF T ((arrs Q).take i) = B := ⟨_, rfl⟩
    rw [hB] at hs1 hs2 hrg hin hnx hcnt ⊢
    rw [f_X12_richest_40, wp_ck_t (GKk102 hG), hMQ.1, wp_ite_t (by rw [J_lt (by omega) (by omega) (by omega) (by omega)]; omega), MRf58 hR, wp_ck_t (GKk141 hG), GKl141 hG, wp_ck_t hri, hci, (hMQ.2.1 i q hq).1, wp_bind]
    refine (m_layState hG hR hT hw wq hr4 hh6).mono (fun M1 h1 => ?_)
    obtain ⟨F1, A1⟩ := h1
    have R1 := hR.fr F1
    have T1 := hT.fr F1 (by rw [F1.i (by decide)]) (by rw [F1.i (by decide)]) (by rw [F1.i (by decide)]) (by decide)
    have Q1 : MQu M1 (tR T) Q := by
      unfold MQu at hMQ ⊢
      rw [F1.i (show 102 ∉ [128, 129, 130] by decide), F1.i (show 141 ∉ [128, 129, 130] by decide), F1.i (show 139 ∉ [128, 129, 130] by decide), F1.i (show 137 ∉ [128, 129, 130] by decide), F1.i (show 138 ∉ [128, 129, 130] by decide)]
      exact hMQ
    have hK1 : ∀ M' s, Fr [128, 129, 130] M1 M' → MR M' → MQu M' (tR T) Q → ((bestF T (arrs Q)).1 = -1 → s = -1) → (∀ j q, (bestF T (arrs Q)).1 = (j : Nat) → Q[j]? = some q → s = J (stn (tR T) q.1)) → wp (K M' 102 s (J (bestF T (arrs Q)).2.1)) Qp := fun M' s f a b c d => hK M' s (F1.trans f) a b c d
    have h75 : (B.1 = -1 ∨ B.2.1 < worth T q.1) → wp (f_X12_richest_75 (f_X12_richest_88 (f_X12_richest_40 K Γ n) Γ) Γ M1 102 (J i)) Qp := fun hc => by
      have e : bestS T B q.1 = ((B.2.2 : Int), worth T q.1, B.2.2 + 1) := by unfold bestS; rw [if_pos hc]
      rw [f_X12_richest_75, wp_ck_t (GKk102 hG), MRf58 R1, wp_ck_t (GKk141 hG), GKl141 hG, wp_ck_t hri, hci, (Q1.2.1 i q hq).1]
      rw [m_worth hG R1 T1 hw A1 wq, wp_bind, wp_some, f_X12_richest_88]
      rw [show (1 : Int32) = J 1 from rfl, J_add, J_suc]
      have := ih n M1 (i + 1) (by omega) (by omega) R1 T1 Q1 hK1 (J (stn (tR T) q.1)) (by rw [hnx, e]; intro h; dsimp only at h; omega) (by
        rw [hnx, e]
        intro j q' hj hq'
        dsimp only at hj
        have : j = i := by omega
        subst this
        rw [hq] at hq'
        rw [Option.some.inj hq'])
      rw [hnx, e] at this
      exact this
    have h88 : ¬ (B.1 = -1 ∨ B.2.1 < worth T q.1) → wp (f_X12_richest_88 (f_X12_richest_40 K Γ n) Γ M1 102 s (J B.2.1) (J i)) Qp := fun hc => by
      have e : bestS T B q.1 = (B.1, B.2.1, B.2.2 + 1) := by unfold bestS; rw [if_neg hc]
      rw [f_X12_richest_88, show (1 : Int32) = J 1 from rfl, J_add, J_suc]
      have := ih n M1 (i + 1) (by omega) (by omega) R1 T1 Q1 hK1 s (by rw [hnx, e]; exact hs1) (by rw [hnx, e]; exact hs2)
      rw [hnx, e] at this
      exact this
    by_cases c1 : B.1 = -1
    · rw [hs1 c1, wp_ite_t (by decide)]
      exact h75 (Or.inl c1)
    · obtain ⟨j, hj⟩ : ∃ j : Nat, B.1 = j := ⟨B.1.toNat, by omega⟩
      have hjl : j < Q.length := by omega
      have wj : WA (tR T) (tH T) (Q[j]).1 := hv _ (List.mem_map.mpr ⟨Q[j], List.getElem_mem hjl, rfl⟩)
      have hs := hs2 j _ hj (List.getElem?_eq_getElem hjl)
      have hstj := stn_lt wj hh6
      rw [wp_ite_f (by rw [hs, show (0 : Int32) = J 0 from rfl, J_lt (by omega) (by omega) (by omega) (by omega)]; omega), m_worth hG R1 T1 hw A1 wq, wp_bind, wp_some]
      by_cases c2 : B.2.1 < worth T q.1
      · rw [wp_ite_t (by rw [J_lt (by omega) (by omega) (by omega) (by omega)]; exact c2)]
        exact h75 (Or.inr c2)
      · rw [wp_ite_f (by rw [J_lt (by omega) (by omega) (by omega) (by omega)]; exact c2)]
        exact h88 (by omega)
theorem r_richest (hG : GK Γ) (hR : MR M) (h3 : R3 M T) (hw : TWf T) (hRH : 0 < tH T → 0 < tR T) (h4 : R4 M L) (wL : WA (tR T) (tH T) L) {z : Int} (z1 : -2147483648 ≤ z) (z2 : z < 2147483648) : wp (f_X12_richest Γ M 102 (J z)) (Afr M [0, 8] (ricV T L z).2 (J (ricV T L z).1)) := by
  have w2 := hw.2.1
  unfold ricV
  obtain ⟨k0, kr0, h80⟩ := r_zero66 (M := M)
  rw [f_X12_richest, wp_ck_t (GKk102 hG)]
  dsimp only
  obtain ⟨M2, hM2⟩ : ∃ N, N = rhsi M 102 66 0 := ⟨_, rfl⟩
  rw [← hM2] at k0 kr0 h80 ⊢
  have hR2 := hR.kp k0 (by decide)
  have h32 := h3.kp k0 (by decide)
  have h42 := h4.kp k0 (by decide)
  rw [show (0 : Int32) = J 0 from rfl, show (30 : Int32) = J 30 from rfl, m_isInJ z1 z2 (by omega) (by omega) (by omega) (by omega), wp_bind, wp_some]
  by_cases cz : ¬ (0 ≤ z ∧ z ≤ 30)
  · rw [bi_f cz, wp_ite_t (show (0 : Int32) = J 0 from rfl), wp_some, pick_f (by omega)]
    exact ⟨rfl, k0.sub (by decide), kr0, h80⟩
  have cz := Classical.not_not.mp cz
  rw [bi_t cz, wp_ite_f (by decide), r_many hG hR2 h32 hw, wp_bind, wp_some]
  by_cases c : manyP T
  · rw [bi_t c, wp_ite_f (by decide), wp_some, pick_f (fun h => h.2.2 c)]
    exact ⟨rfl, k0.sub (by decide), kr0, h80⟩
  rw [bi_f c, wp_ite_t (show (0 : Int32) = J 0 from rfl), pick_t ⟨cz.1, cz.2, c⟩, wp_bind]
  have hr4 : tR T ≤ 4 := by unfold manyP at c; omega
  have hh6 : tH T ≤ 6 := by unfold manyP at c; omega
  have h60 := ways_max hr4 hh6
  obtain ⟨n, rfl⟩ : ∃ n : Nat, z = n := ⟨z.toNat, by omega⟩
  rw [Int.toNat_natCast]
  obtain ⟨bk, lb, hT2⟩ := h32
  have hME : ME (rhsi M2 102 61 (J ((2, [], 0) : Md).1)) (2, [], 0) := ⟨by rw [si_1, if_pos ⟨rfl, rfl⟩], Nat.le_refl 2, fun h => absurd (show (2 : Nat) = 0 from h) (by decide), fun h => absurd (show (2 : Nat) = 1 from h) (by decide)⟩
  refine m_search (md := (2, [], 0)) (most := n) hG hR2 hT2 hw hRH hr4 hh6 h42 wL (by omega) hME _ (fun M' hF hR' hT' hMQ hf hk => ?_) (fun M' j q hF hR' hT' hMQ hq hf hk => ?_)
  · obtain ⟨k1, kr1⟩ := KP_W4 hF hk
    have hQW := FQ_QW (T := T) (m := n) wL
    have hlen := hQW.len w2 hRH
    obtain ⟨Q, hQ⟩ : ∃ Q, FQ T n L = Q := ⟨_, rfl⟩
    rw [hQ] at hMQ hQW hlen ⊢
    have hpos := hQW.pos
    have hal : (arrs Q).length = Q.length := by unfold arrs; rw [List.length_map]
    have hb := bestF_in hw hRH _ (arrs Q) rfl hQW.2.1
    have hb1 := (bestF_rng hw hRH (arrs Q) hQW.2.1).1.1
    have hb0 : (bestF T (arrs Q)).1 ≠ -1 := fun h => by
      have := congrArg List.length (hb.1 h)
      rw [hal] at this
      simp at this
      rw [this] at hpos; simp at hpos
    obtain ⟨j, hj⟩ : ∃ j : Nat, (bestF T (arrs Q)).1 = j := ⟨(bestF T (arrs Q)).1.toNat, by omega⟩
    have hjl : j < Q.length := by omega
    have e0 : bestF T ((arrs Q).take 0) = (-1, 0, 0) := rfl
    have := r_ric40 hG hw hRH hr4 hh6 Q hQW.2.1 (by omega) (f_X12_richest_94 Γ) (Afr M [0, 8] (rowTo Q (bestF T (arrs Q)).1.toNat) (J (bestF T (arrs Q)).2.1)) Q.length rhFU M' 0 (by omega) (by have := FU_big; omega) hR' hT' hMQ (fun M3 s F3 R3' Q3 hs1 hs2 => ?_) (-1) (fun _ => rfl) (fun j q h => by rw [e0] at h; dsimp only at h; omega)
    · rw [e0] at this; exact this
    · have hs := hs2 j _ hj (List.getElem?_eq_getElem hjl)
      rw [f_X12_richest_94, wp_ck_t (GKk102 hG), hs, wp_bind]
      refine (m_layWay hG hQW hh6 (by omega) R3' Q3 (List.getElem?_eq_getElem hjl)).mono (fun M4 h => ?_)
      obtain ⟨y1, y2, y3, y4, y5⟩ := h
      have k3 : KP [0] M' M3 := KP.fr F3 (by decide)
      have k4 : KP [0, 8] M3 M4 := KP.frM y1 (by decide) (fun k hk => y5 k (fun e => hk (by rw [e]; decide))) (by decide)
      rw [wp_some, hj, Int.toNat_natCast]
      exact ⟨rfl, (((k0.sub (by decide)).trans (k1.sub (by decide))).trans (k3.sub (by decide))).trans k4, ((kr0.trans kr1).trans (KR.fr F3 (by decide))).trans (KR.fr y1 (by decide)), ⟨by rw [y4, y3], y2⟩⟩
  · obtain ⟨⟨q, -, hp⟩, -⟩ := fmt_some.mp hf
    exact absurd hp (by unfold pM; rw [if_neg (show ¬ (2 : Nat) = 0 by decide), if_neg (show ¬ (2 : Nat) = 1 by decide)]; exact fun h => h)
end
