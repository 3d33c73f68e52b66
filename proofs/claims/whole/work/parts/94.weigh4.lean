/-- all that holds between two weights -/
def Cl (T : Tn) (N : List Wn) (dn : Nat → Prop) : Prop := ∀ (j : Nat) (x : Wn), N[j]? = some x → dn j → ∀ a, a ∈ pulls T x.1 → ∃ (i : Nat) (y : Wn), N[i]? = some y ∧ y.1 = mvA x.1 a ∧ kle y.2.1 (candK T x a)
theorem DJ_of {T : Tn} {L0 : Ar} {N : List Wn} {dn : Nat → Prop} {W : Nat} (h : NI T L0 N dn) (hW : Wd N dn W) (hC : Cl T N dn) : DJ T L0 (lbs N) dn W := by
  refine ⟨⟨(L0, 0, []), lbs_at.mpr ⟨_, h.1, rfl⟩, rfl⟩, fun j x hx => ?_, fun j x hx hd => ?_, fun j x hx hd => ?_, ?_⟩
  · obtain ⟨q, hq, rfl⟩ := lbs_at.mp hx
    exact h.row _ j q hq rfl
  · obtain ⟨q, hq, rfl⟩ := lbs_at.mp hx
    refine ⟨(hW j q hq).1 hd, fun a ha => ?_⟩
    obtain ⟨i, y, y1, y2, y3⟩ := hC j q hq hd a ha
    exact ⟨i, _, lbs_at.mpr ⟨y, y1, rfl⟩, y2, y3⟩
  · obtain ⟨q, hq, rfl⟩ := lbs_at.mp hx
    exact ((hW j q hq).2 hd).1
  · have : (lbs N).map (fun x => x.1) = N.map fun q => q.1 := by simp [lbs, Function.comp_def]
    rw [this]; exact h.2.2.1
theorem Cl_later {T : Tn} {N N' : List Wn} {dn : Nat → Prop} (h : Cl T N dn) (hl : Later dn N N') (hd : ∀ j, dn j → j < N.length) : Cl T N' dn := by
  intro j x hx hdj a ha
  have hj := List.getElem?_eq_getElem (hd j hdj)
  have := (hl j _ hj).1 hdj
  rw [hx] at this
  cases this
  obtain ⟨i, y, y1, y2, y3⟩ := h j _ hj hdj a ha
  obtain ⟨-, z, z1, z2, z3⟩ := hl i y y1
  exact ⟨i, z, z1, z2.trans y2, kle_tr z3 y3⟩
theorem NI.more {T : Tn} {L0 : Ar} {N : List Wn} {dn dn' : Nat → Prop} (h : NI T L0 N dn) (hd : ∀ j, dn j → dn' j) : NI T L0 N dn' := by
  refine ⟨h.1, h.2.1, h.2.2.1, fun j q hq hj => ?_⟩
  obtain ⟨i, pq, a, h1, h2, h3⟩ := h.2.2.2 j q hq hj
  exact ⟨i, pq, a, h1, hd i h2, h3⟩
def cntD (dn : Nat → Prop) (N : List Wn) (n : Nat) : Prop := ∃ D : List Nat, D.Nodup ∧ (∀ j, dn j ↔ j ∈ D) ∧ n + D.length = N.length
section
variable {Γ : rhG} {T : Tn} {S F t cp Ln : Nat} {L0 : Ar} {p : Ar → Prop}
/-- the lists that wait, once the weight's own one has been gone through -/
theorem c_w52 (dd : t + 10 < S) (hw : TWf T) (hRH : 0 < tH T → 0 < tR T) (hr4 : tR T ≤ 4) (h6 : tH T ≤ 6) (w0 : WA (tR T) (tH T) L0) (h60 : ways (tR T) (tH T) ≤ 60480) (hcw : ways (tR T) (tH T) ≤ cp) {W : Nat} (hW : W ≤ 40000000) (K : rhM → Nat → Int32 → Option (Int32 × rhM)) (Q : Int32 × rhM → Prop) : ∀ (m k : Nat) (M : rhM) (i : Nat) (N : List Wn) (dn : Nat → Prop) (lst : Nat → List Nat) (wt : Nat → Nat) (n : Nat),
    (lst (W % 1024)).length = m → i + m ≤ cp → GW Γ M S F t cp Ln T N dn lst wt n → NI T L0 N dn → Wd N dn W → Cl T N dn → (∀ j, dn j → j < N.length) → cntD dn N n → (∀ (j : Nat) (q : Wn), N[j]? = some q → (dn j ∨ nm (tR T) (tH T) q.1 ∈ lst (W % 1024)) → ¬ p q.1) → m < k →
    (∀ M' N' dn' lst' wt' n', Fr (W6 S F t) M M' → GW Γ M' S F t cp Ln T N' dn' lst' wt' n' → NI T L0 N' dn' → Wd N' dn' W → Cl T N' dn' → (∀ j, dn' j → j < N'.length) → cntD dn' N' n' → (∀ (j : Nat) (q : Wn), N'[j]? = some q → dn' j → ¬ p q.1) → lst' (W % 1024) = [] → wp (K M' S (J W)) Q) →
    wp (f_X5_weigh_52 K Γ k M S (J W) (J i)) Q := by
  have w2 := hw.2.1
  have hk0 := Nat.mod_lt W (show 0 < 1024 by decide)
  intro m
  induction m with
  | zero =>
    intro k M i N dn lst wt n hm him hG hNI hWd hCl hdl hcnt hno hk hQ
    obtain ⟨k, rfl⟩ : ∃ m, k = m + 1 := ⟨k - 1, by omega⟩
    obtain ⟨kS, ⟨f1, -⟩, -, -, sF, -, -, -, hcp, -⟩ := hG.1.1
    have h0 := hG.1.2.2.2.2.2.2
    have hnil := List.length_eq_zero_iff.mp hm
    have fin : wp (K M S (J W)) Q := hQ M N dn lst wt n (Fr.refl _ _) hG hNI hWd hCl hdl hcnt (fun j q hq hd => hno j q hq (Or.inl hd)) hnil
    have hh := c_head (Γ := Γ) sF hG.2.2.2.1 W
    rw [hnil] at hh
    rw [f_X5_weigh_52, wp_ck_t kS, f1, wp_ck_t sF.1, h0]
    by_cases c : i < cp
    · rw [wp_ite_t (by rw [J_lt (by omega) (by omega) (by omega) (by omega)]; omega), hh, wp_bind, wp_some, wp_ite_t (show J ((hdE [] 65535 : Nat) : Int) = 65535 from rfl)]; exact fin
    · rw [wp_ite_f (by rw [J_lt (by omega) (by omega) (by omega) (by omega)]; omega)]; exact fin
  | succ m ih =>
    intro k M i N dn lst wt n hm him hG hNI hWd hCl hdl hcnt hno hk hQ
    obtain ⟨k, rfl⟩ : ∃ m, k = m + 1 := ⟨k - 1, by omega⟩
    obtain ⟨kS, ⟨f1, -⟩, -, -, sF, -, dF, hS18, hcp, -⟩ := hG.1.1
    have h0 := hG.1.2.2.2.2.2.2
    cases hl : lst (W % 1024) with
    | nil => rw [hl] at hm; simp at hm
    | cons x B =>
      rw [hl, List.length_cons] at hm
      have hh := c_head (Γ := Γ) sF hG.2.2.2.1 W
      rw [hl, show hdE (x :: B) 65535 = x from rfl] at hh
      have hxm : x ∈ lst (W % 1024) := by rw [hl]; exact List.mem_cons_self
      obtain ⟨jx, q, hqe, hqx, hxn⟩ := hG.2.2.2.2.2 _ hk0 x hxm
      have hjN := (List.getElem?_eq_some_iff.mp hqe).1
      have hwx := ((hG.2.2.2.1.2 _ hk0).2.2.2.2 x hxm)
      have hqw3 := hG.2.2.2.2.1 jx q hqe
      rw [hqx] at hqw3
      have hqw : q.2.1.1 = W := by
        have h1 := (hWd jx q hqe).2 hxn
        omega
      have wq := hNI.2.1 jx q hqe
      have lq := nm_lt wq w2 hRH
      rw [hqx] at lq
      obtain ⟨D, D1, D2, D3⟩ := hcnt
      have hvA : ∀ A, A ∈ arw N → WA (tR T) (tH T) A := fun A hA => by
        obtain ⟨j, q, hq, rfl⟩ := arw_at hA
        exact hNI.2.1 j q hq
      have hNl : N.length ≤ ways (tR T) (tH T) := by rw [← arw_len]; exact few w2 hRH hvA hNI.2.2.1
      have hxD : jx ∉ D := fun h => hxn ((D2 jx).mpr h)
      have hD' : (jx :: D).Nodup := List.nodup_cons.mpr ⟨hxD, D1⟩
      have hn1 : 1 ≤ n := by
        have hh := nd_len (n := N.length) hD' (fun z hz => by
          rcases List.mem_cons.mp hz with rfl | hz
          · exact hjN
          · exact hdl z ((D2 z).mpr hz))
        rw [List.length_cons] at hh; omega
      obtain ⟨n', rfl⟩ : ∃ m, n = m + 1 := ⟨n - 1, by omega⟩
      have hl' : lst (wt x % 1024) = [] ++ x :: B := by rw [hwx.2.1]; exact hl
      have hndl := (hG.2.2.2.1.2 _ hk0).2.2.2.1
      rw [hl, List.nodup_cons] at hndl
      have same : ∀ (j : Nat) (r : Wn), N[j]? = some r → nm (tR T) (tH T) r.1 = x → j = jx := fun j r hr e => by
        have e1 := nm_inj (hNI.2.1 j r hr) wq w2 hRH (e.trans hqx.symm)
        have g1 : (N.map fun q => q.1)[j]? = some r.1 := by rw [List.getElem?_map, hr]; rfl
        have g2 : (N.map fun q => q.1)[jx]? = some r.1 := by rw [List.getElem?_map, hqe, e1]; rfl
        exact (List.getElem?_inj (List.getElem?_eq_some_iff.mp g1).1 hNI.2.2.1).mp (g1.trans g2.symm)
      rw [f_X5_weigh_52, wp_ck_t kS, f1, wp_ck_t sF.1, h0, wp_ite_t (by rw [J_lt (by omega) (by omega) (by omega) (by omega)]; omega), hh, wp_bind, wp_some, wp_ite_f (by rw [show (65535 : Int32) = J 65535 from rfl, J_eq (by omega) (by omega) (by omega) (by omega)]; omega), wp_bind, wp_some, wp_bind]
      refine c_wdrop sF hcp hG.2.2.2.1 (by omega) hl' _ (fun M1 F1 z1 h1 => ?_)
      have hWL1 := h1 n' rfl
      rw [hwx.2.1, List.nil_append] at hWL1
      have F15 : Fr [F, F + 1, F + 2, F + 3, F + 4, F + 5] M M1 := F1.sub (by simp)
      have hSI1 := hG.1.fr1' dd F15 z1
      -- the state is done
      have hG1 : GW Γ M1 S F t cp Ln T N (fun j => dn j ∨ j = jx) (uN lst (W % 1024) B) wt n' := by
        obtain ⟨-, g2, g3, g4⟩ := hG
        refine ⟨hSI1, ?_, ?_, hWL1, fun j r hr => ?_, fun k hk z hz => ?_⟩
        · unfold FNw; rw [F1.l (by simp)]; exact g2
        · unfold FX; rw [F1.l (by simp)]; exact g3
        · obtain ⟨z1, z2, z3⟩ := g4.2.1 j r hr
          refine ⟨by rw [F1.i (by simp)]; exact z1, z2, ?_⟩
          rcases z3 with z3 | z3
          · exact Or.inl (Or.inl z3)
          · by_cases c : j = jx
            · exact Or.inl (Or.inr c)
            · right
              by_cases c2 : r.2.1.1 % 1024 = W % 1024
              · rw [c2, uN_eq]
                rw [c2, hl] at z3
                exact (List.mem_cons.mp z3).resolve_left (fun e => c (same j r hr e))
              · rw [uN_ne _ _ c2]; exact z3
        · have old : z ∈ lst k → z ≠ x → ∃ (j : Nat) (r : Wn), N[j]? = some r ∧ nm (tR T) (tH T) r.1 = z ∧ ¬ (dn j ∨ j = jx) := fun hz hzx => by
            obtain ⟨j, r, y1, y2, y3⟩ := g4.2.2 k hk z hz
            refine ⟨j, r, y1, y2, fun h => h.elim y3 (fun e => ?_)⟩
            rw [e, hqe] at y1
            cases y1
            exact hzx (y2.symm.trans hqx)
          by_cases c : k = W % 1024
          · rw [c, uN_eq] at hz
            exact old (by rw [c, hl]; exact List.mem_cons_of_mem _ hz) (fun e => hndl.1 (e ▸ hz))
          · rw [uN_ne _ _ c] at hz
            refine old hz (fun e => ?_)
            have h4 := ((g4.1.2 k hk).2.2.2.2 z hz).2.1
            rw [e, hwx.2.1] at h4
            exact c h4.symm
      have hdl1 : ∀ j, (dn j ∨ j = jx) → j < N.length := fun j h => h.elim (hdl j) (fun e => e ▸ hjN)
      have hWd1 : Wd N (fun j => dn j ∨ j = jx) W := fun j r hr => ⟨fun h => h.elim (hWd j r hr).1 (fun e => by subst e; rw [hqe] at hr; cases hr; omega), fun h => (hWd j r hr).2 (fun h2 => h (Or.inl h2))⟩
      have hcnt1 : cntD (fun j => dn j ∨ j = jx) N n' := ⟨jx :: D, hD', fun j => by show (dn j ∨ j = jx) ↔ j ∈ jx :: D; rw [List.mem_cons, D2 j]; exact or_comm, by rw [List.length_cons]; omega⟩
      rw [wp_bind, ← hqx]
      refine c_weighOn hw hRH hr4 h6 dd w0 h60 hcw (at_ := jx) (pq := q) hqw hW _ hG1 (hNI.more (fun j h => Or.inl h)) hWd1 hqe (Or.inr rfl) hdl1 hcnt1 (fun M2 N2 lst2 wt2 n2 F2 hG2 hNI2 hWd2 hLa hle2 hn2 hcl2 hls2 => ?_)
      have hNle2 := hle2
      have hdl2 : ∀ j, (dn j ∨ j = jx) → j < N2.length := fun j h => by have := hdl1 j h; omega
      have hcnt2 : cntD (fun j => dn j ∨ j = jx) N2 n2 := ⟨jx :: D, hD', fun j => by show (dn j ∨ j = jx) ↔ j ∈ jx :: D; rw [List.mem_cons, D2 j]; exact or_comm, by rw [List.length_cons]; omega⟩
      have hCl2 : Cl T N2 (fun j => dn j ∨ j = jx) := by
        have hq2 := (hLa jx q hqe).1 (Or.inr rfl)
        have hold : Cl T N2 dn := Cl_later hCl (fun j z hz => ⟨fun hd => (hLa j z hz).1 (Or.inl hd), (hLa j z hz).2⟩) hdl
        intro j z hz hd a ha
        rcases hd with hd | rfl
        · exact hold j z hz hd a ha
        · rw [hq2] at hz
          cases hz
          exact hcl2 a ha
      have hF6 : Fr (W6 S F t) M M2 := (F15.sub (by unfold W6; simp)).trans F2
      have hno2 : ∀ (j : Nat) (r : Wn), N2[j]? = some r → ((dn j ∨ j = jx) ∨ nm (tR T) (tH T) r.1 ∈ lst2 (W % 1024)) → ¬ p r.1 := by
        intro j r hr hj
        rcases hj with hj | hj
        · have hjN2 := hdl1 j hj
          have hje := List.getElem?_eq_getElem hjN2
          obtain ⟨-, y, y1, y2, -⟩ := hLa j _ hje
          rw [hr] at y1
          cases y1
          rw [y2]
          refine hno j _ hje ?_
          rcases hj with hj | rfl
          · exact Or.inl hj
          · rw [hqe] at hje
            have hje := Option.some.inj hje
            rw [← hje, hqx]; exact Or.inr hxm
        · rw [hls2, uN_eq] at hj
          have hjm : nm (tR T) (tH T) r.1 ∈ lst (W % 1024) := by rw [hl]; exact List.mem_cons_of_mem _ hj
          obtain ⟨j', r', y1, y2, y3⟩ := hG.2.2.2.2.2 _ hk0 _ hjm
          obtain ⟨-, y, u1, u2, -⟩ := hLa j' r' y1
          have e1 := nm_inj (hNI.2.1 j' r' y1) (hNI2.2.1 j r hr) w2 hRH y2
          rw [← e1]
          exact hno j' r' y1 (Or.inr (by rw [y2]; exact hjm))
      have hlen2 : (lst2 (W % 1024)).length = m := by
        have nd1 := (hG2.2.2.2.1.2 _ hk0).2.2.2.1
        have : (lst2 (W % 1024)).Perm B := (List.perm_ext_iff_of_nodup nd1 hndl.2).mpr (fun z => by rw [hls2, uN_eq])
        rw [this.length_eq]; omega
      rw [show (1 : Int32) = J 1 from rfl, J_add, J_suc]
      exact ih k M2 (i + 1) N2 (fun j => dn j ∨ j = jx) lst2 wt2 n2 hlen2 (by omega) hG2 hNI2 hWd2 hCl2 hdl2 hcnt2 hno2 (by omega) (fun M' N' dn' lst' wt' n' a1 => hQ M' N' dn' lst' wt' n' (hF6.trans a1))
end
section
variable {Γ : rhG} {T : Tn} {S F t cp Ln : Nat} {L0 : Ar} {md : Md}
theorem N_len {N : List Wn} {dn : Nat → Prop} (hw : TWf T) (hRH : 0 < tH T → 0 < tR T) (hNI : NI T L0 N dn) : N.length ≤ ways (tR T) (tH T) := by
  rw [← arw_len]
  exact few hw.2.1 hRH (fun A hA => by
    obtain ⟨j, q, hq, rfl⟩ := arw_at hA
    exact hNI.2.1 j q hq) hNI.2.2.1
theorem c_w15 (dd : t + 10 < S) (hw : TWf T) (hRH : 0 < tH T → 0 < tR T) (hr4 : tR T ≤ 4) (h6 : tH T ≤ 6) (w0 : WA (tR T) (tH T) L0) (hcw : ways (tR T) (tH T) ≤ cp) (h60 : ways (tR T) (tH T) ≤ 60480) (hmd : md.1 ≠ 2) (Q : Int32 × rhM → Prop) : ∀ (d k : Nat) (M : rhM) (W : Nat) (N : List Wn) (dn : Nat → Prop) (lst : Nat → List Nat) (wt : Nat → Nat) (n : Nat),
    W + d = 36000001 → d < k → GW Γ M S F t cp Ln T N dn lst wt n → (∀ l, BM M S T md l) → NI T L0 N dn → Wd N dn W → Cl T N dn → (∀ j, dn j → j < N.length) → cntD dn N n → (∀ (j : Nat) (q : Wn), N[j]? = some q → dn j → ¬ pM md q.1) →
    (∀ M' N' dn' lst' wt' n', Fr (S :: W6 S F t) M M' → GW Γ M' S F t cp Ln T N' dn' lst' wt' n' → (∀ j, j ≠ 0 → j ≠ 10 → M'.1 S j = M.1 S j) → (∀ r L w, RwR T L0 r L w → ¬ pM md L) → Q (-1, M')) →
    (∀ M' N' dn' lst' wt' n' (j : Nat) (x : Wn), Fr (S :: W6 S F t) M M' → GW Γ M' S F t cp Ln T N' dn' lst' wt' n' → NI T L0 N' dn' → (∀ j, j ≠ 0 → j ≠ 10 → M'.1 S j = M.1 S j) → N'[j]? = some x → Least T L0 (pM md) x.2.1 → Q (J (nm (tR T) (tH T) x.1 : Nat), M')) →
    wp (f_X5_weigh_15 Γ k M S (J W)) Q := by
  have w1 := hw.1
  have w2 := hw.2.1
  intro d
  induction d with
  | zero =>
    intro k M W N dn lst wt n hWd0 hk hG hBM hNI hWd hCl hdl hcnt hno hN hM
    obtain ⟨k, rfl⟩ : ∃ m, k = m + 1 := ⟨k - 1, by omega⟩
    rw [f_X5_weigh_15, wp_ite_t (by rw [show (36000000 : Int32) = J 36000000 from rfl, J_lt (by omega) (by omega) (by omega) (by omega)]; omega), wp_some]
    refine hN M N dn lst wt n (Fr.refl _ _) hG (fun _ _ _ => rfl) (fun r L w hr => ?_)
    have hNl := N_len hw hRH hNI
    have hall : ∀ (j : Nat) (q : Wn), N[j]? = some q → dn j := fun j q hq => by
      by_cases c : dn j
      · exact c
      · have h1 := ((hWd j q hq).2 c).1
        have h2 := hNI.wlen hw h6 _ j q hq rfl
        have h3 := hNI.len hq
        omega
    obtain ⟨j, x, hx, rfl⟩ := DJ_none (p := pM md) (DJ_of hNI hWd hCl) (fun j x hx => by
      obtain ⟨q, hq, -⟩ := lbs_at.mp hx
      exact hall j q hq) (fun j x hx => by
      obtain ⟨q, hq, rfl⟩ := lbs_at.mp hx
      exact hno j q hq (hall j q hq)) hr
    obtain ⟨q, hq, rfl⟩ := lbs_at.mp hx
    exact hno j q hq (hall j q hq)
  | succ d ih =>
    intro k M W N dn lst wt n hWd0 hk hG hBM hNI hWd hCl hdl hcnt hno hN hM
    obtain ⟨k, rfl⟩ : ∃ m, k = m + 1 := ⟨k - 1, by omega⟩
    have hSI := hG.1
    obtain ⟨kS, ⟨f1, -⟩, -, -, sF, -, dF, hS18, hcp, -⟩ := hSI.1
    have hk0 := Nat.mod_lt W (show 0 < 1024 by decide)
    have hNl := N_len hw hRH hNI
    have hn : n ≤ N.length := by obtain ⟨D, -, -, h⟩ := hcnt; omega
    rw [f_X5_weigh_15, wp_ite_f (by rw [show (36000000 : Int32) = J 36000000 from rfl, J_lt (by omega) (by omega) (by omega) (by omega)]; omega), wp_ck_t kS, f1, wp_ck_t sF.1, hG.2.2.2.1.1]
    by_cases c0 : n = 0
    · rw [wp_ite_f (by rw [show (0 : Int32) = J 0 from rfl, J_lt (by omega) (by omega) (by omega) (by omega)]; omega), wp_some]
      refine hN M N dn lst wt n (Fr.refl _ _) hG (fun _ _ _ => rfl) (fun r L w hr => ?_)
      have hall : ∀ (j : Nat) (q : Wn), N[j]? = some q → dn j := fun j q hq => by
        by_cases c : dn j
        · exact c
        · exfalso
          obtain ⟨D, D1, D2, D3⟩ := hcnt
          have hh := nd_len (n := N.length) (l := j :: D) (List.nodup_cons.mpr ⟨fun h => c ((D2 j).mpr h), D1⟩) (fun z hz => by
            rcases List.mem_cons.mp hz with rfl | hz
            · exact (List.getElem?_eq_some_iff.mp hq).1
            · exact hdl z ((D2 z).mpr hz))
          rw [List.length_cons] at hh; omega
      obtain ⟨j, x, hx, rfl⟩ := DJ_none (p := pM md) (DJ_of hNI hWd hCl) (fun j x hx => by
        obtain ⟨q, hq, -⟩ := lbs_at.mp hx
        exact hall j q hq) (fun j x hx => by
        obtain ⟨q, hq, rfl⟩ := lbs_at.mp hx
        exact hno j q hq (hall j q hq)) hr
      obtain ⟨q, hq, rfl⟩ := lbs_at.mp hx
      exact hno j q hq (hall j q hq)
    · have hh := c_head (Γ := Γ) sF hG.2.2.2.1 W
      have hll : (lst (W % 1024)).length ≤ cp := nd_len (n := cp) ((hG.2.2.2.1.2 _ hk0).2.2.2.1) (fun z hz => ((hG.2.2.2.1.2 _ hk0).2.2.2.2 z hz).1)
      rw [wp_ite_t (by rw [show (0 : Int32) = J 0 from rfl, J_lt (by omega) (by omega) (by omega) (by omega)]; omega), wp_bind, f_X5_bestMet, wp_ck_t kS, f1, wp_ck_t sF.1, hh, wp_bind, wp_some, show (-1 : Int32) = J (-1) from rfl, show (0 : Int32) = J (([] : List Nat).length : Nat) from rfl]
      refine c_best14 dd hw hRH hr4 h6 h60 hcw hmd hNI hWd (by omega) _ (lst (W % 1024)) rhFU M [] (-1) hG hBM rfl (Or.inl ⟨rfl, fun j q hq hj => by cases hj⟩) (by simpa using hll) (by have := FU_big2; omega) (fun M1 met F1 e1 e2 hBMx hB => ?_)
      have hFS : F ≠ S := by omega
      have hSI1 := hG.1.fr1 dd (F1.sub (by unfold W1; simp)) (by rw [F1.i (by simpa using hFS)])
      have hG1 : GW Γ M1 S F t cp Ln T N dn lst wt n := hG.fr hSI1 F1 (by first | (simp; done) | (simp; omega)) (by first | (simp; done) | (simp; omega)) (by first | (simp; done) | (simp; omega)) (by first | (simp; done) | (simp; omega)) (by first | (simp; done) | (simp; omega)) (by first | (simp; done) | (simp; omega))
      have hF1 : Fr (S :: W6 S F t) M M1 := F1.sub (by simp)
      rcases hB with ⟨rfl, hnm⟩ | ⟨m, z, hz, rfl, hm, hpz, hmin⟩
      · dsimp only
        rw [wp_ite_t rfl, show J (([] : List Nat).length : Nat) = J ((0 : Nat) : Int) from rfl]
        refine c_w52 dd hw hRH hr4 h6 w0 h60 hcw (p := pM md) (by omega) _ Q (lst (W % 1024)).length rhFU M1 0 N dn lst wt n rfl (by omega) hG1 hNI hWd hCl hdl hcnt (fun j q hq hj => hj.elim (hno j q hq) (fun h => hnm j q hq h)) (by have := FU_big2; omega) (fun M2 N2 dn2 lst2 wt2 n2 F2 hG2 hNI2 hWd2 hCl2 hdl2 hcnt2 hno2 hnil2 => ?_)
        have hF2 : Fr (S :: W6 S F t) M1 M2 := F2.sub (by intro r hr; exact List.mem_cons_of_mem _ hr)
        have hSout : S ∉ W6 S F t := by
          have := hG.1.2.2.1
          unfold W6; simp; omega
        have e3 : M2.1 S = M1.1 S := F2.i hSout
        have e4 : M2.2.1 S = M1.2.1 S := F2.l hSout
        have hWd3 : Wd N2 dn2 (W + 1) := fun j q hq => ⟨fun h => by have := (hWd2 j q hq).1 h; omega, fun h => by
          have h1 := (hWd2 j q hq).2 h
          have h2 := (hG2.2.2.2.2.1 j q hq).2.2.resolve_left h
          have h3 : q.2.1.1 ≠ W := fun e => by rw [e, hnil2] at h2; cases h2
          omega⟩
        rw [f_X5_weigh_110, show (1 : Int32) = J 1 from rfl, J_add, J_suc]
        have hBM2 : ∀ l, BM M2 S T md l := fun l => (hBMx l).fr e3 e4
        exact ih k M2 (W + 1) N2 dn2 lst2 wt2 n2 (by omega) (by omega) hG2 hBM2 hNI2 hWd3 hCl2 hdl2 hcnt2 hno2
          (fun M' N' dn' lst' wt' n' b1 b2 b3 b4 => hN M' N' dn' lst' wt' n' ((hF1.trans hF2).trans b1) b2 (fun j u v => by rw [b3 j u v, e3, e1 j u v]) b4)
          (fun M' N' dn' lst' wt' n' j x b1 b2 b3 b4 b5 b6 => hM M' N' dn' lst' wt' n' j x ((hF1.trans hF2).trans b1) b2 b3 (fun j u v => by rw [b4 j u v, e3, e1 j u v]) b5 b6)
      · have lz := nm_lt (hNI.2.1 m z hz) w2 hRH
        have hndz : ¬ dn m := fun h => hno m z hz h hpz
        have hzw : z.2.1.1 = W := by
          have h1 := (hWd m z hz).2 hndz
          have h2 := ((hG.2.2.2.1.2 _ hk0).2.2.2.2 _ hm).2.1
          have h3 := (hG.2.2.2.2.1 m z hz).2.1
          omega
        dsimp only
        rw [wp_ite_f (by rw [J_eq (by omega) (by omega) (by omega) (by omega)]; omega), wp_some]
        refine hM M1 N dn lst wt n m z hF1 hG1 hNI e1 hz ?_
        refine DJ_least hw h6 w0 (DJ_of hNI hWd hCl) (fun j x hx hd => ?_) (lbs_at.mpr ⟨z, hz, rfl⟩) hzw hpz (fun i y hy hyw hpy => ?_)
        · obtain ⟨q, hq, rfl⟩ := lbs_at.mp hx
          exact hno j q hq hd
        · obtain ⟨q, hq, rfl⟩ := lbs_at.mp hy
          have hnd : ¬ dn i := fun h => hno i q hq h hpy
          have hil := (hG.2.2.2.2.1 i q hq).2.2.resolve_left hnd
          dsimp only at hyw
          rw [hyw] at hil
          exact hmin i q hq hil hpy
/-- the class's search for the least -/
theorem c_weigh (hw : TWf T) (hRH : 0 < tH T → 0 < tR T) (hr4 : tR T ≤ 4) (h6 : tH T ≤ 6) (d : t + 10 < S) (hcw : ways (tR T) (tH T) ≤ cp) (h60 : ways (tR T) (tH T) ≤ 60480) {M : rhM} (hS : SSh Γ M S F cp Ln) (hF0 : M.1 F 0 = J cp) (hNB : NB M (S + 7)) (hts : TSh Γ M t) (hT : TC M t T) (wL0 : WA (tR T) (tH T) L0) (hmd : BMp M S T md) (hm2 : md.1 ≠ 2) (Qp : Int32 × rhM → Prop)
    (hN : ∀ M' N' dn' lst' wt' n', Fr (W2 S F t) (rs2 M S t) M' → GW Γ M' S F t cp Ln T N' dn' lst' wt' n' → (∀ j, j ≠ 0 → j ≠ 10 → M'.1 S j = M.1 S j) → (∀ r L w, RwR T L0 r L w → ¬ pM md L) → Qp (-1, M'))
    (hM : ∀ M' N' dn' lst' wt' n' (j : Nat) (x : Wn), Fr (W2 S F t) (rs2 M S t) M' → GW Γ M' S F t cp Ln T N' dn' lst' wt' n' → NI T L0 N' dn' → (∀ j, j ≠ 0 → j ≠ 10 → M'.1 S j = M.1 S j) → N'[j]? = some x → Least T L0 (pM md) x.2.1 → Qp (J (nm (tR T) (tH T) x.1 : Nat), M')) :
    wp (f_X5_weigh Γ M S t (jl (wn L0))) Qp := by
  have w1 := hw.1
  have w2 := hw.2.1
  have hlt := nm_lt wL0 w2 hRH
  have hW62 : ∀ r, r ∈ S :: W6 S F t → r ∈ W2 S F t := by
    intro r hr; unfold W6 at hr; unfold W2; simp only [List.mem_cons, List.not_mem_nil, or_false] at hr ⊢; omega
  rw [f_X5_weigh, wp_ck_t hS.1, wp_bind]
  refine c_sbegin hw hr4 h6 hRH d hcw h60 hS hF0 hNB hts hT wL0 _ (fun M1 a1 a2 a3 a4 a5 a6 a7 => ?_)
  dsimp only
  rw [wp_ite_f (by rw [show (-1 : Int32) = J (-1) from rfl, J_eq (by omega) (by omega) (by omega) (by omega)]; omega), show (0 : Int32) = J ((0 : Nat) : Int) from rfl]
  obtain ⟨x1, x2, x3⟩ := a3
  have hbl : bl (tR T) (tH T) (arrs [(L0, -1, 0, 0)]) 0 = [nm (tR T) (tH T) L0] := rfl
  have hw4 := ((x3.2 0 (by decide)).2.2.2.2 (nm (tR T) (tH T) L0) (by rw [hbl]; exact List.mem_cons_self)).2.2.1
  have hG1 : GW Γ M1 S F t cp Ln T [(L0, (0, []), -1, 0)] (fun _ => False) (bl (tR T) (tH T) (arrs [(L0, -1, 0, 0)])) (fun _ => 0) 1 := by
    refine ⟨a2, fun j q hq => ?_, x2, x3, fun j q hq => ?_, fun k hk x hx => ?_⟩
    · have hj0 : j = 0 := by have := (List.getElem?_eq_some_iff.mp hq).1; simpa using this
      subst hj0
      cases hq
      exact ⟨x1 0 _ rfl, by show 0 < 512; omega, by simp⟩
    · have hj0 : j = 0 := by have := (List.getElem?_eq_some_iff.mp hq).1; simpa using this
      subst hj0
      cases hq
      refine ⟨hw4, rfl, Or.inr ?_⟩
      show nm (tR T) (tH T) L0 ∈ bl (tR T) (tH T) (arrs [(L0, -1, 0, 0)]) 0
      rw [hbl]; exact List.mem_cons_self
    · by_cases c : k = 0
      · rw [c, hbl, List.mem_singleton] at hx
        exact ⟨0, _, rfl, hx.symm, id⟩
      · unfold bl at hx
        rw [if_neg c] at hx; cases hx
  have hBM : ∀ l, BM M1 S T md l := fun l => by
    obtain ⟨b1, b2, b3, b4⟩ := hmd
    refine ⟨by rw [a6 6 (by decide) (by decide)]; exact b1, b2, by rw [a7]; exact b3, by rw [a6 9 (by decide) (by decide)]; exact b4, ?_, ?_⟩
    · rw [a4, if_neg hm2]
    · rw [a5, if_neg hm2]
  have hone : ∀ (j : Nat) (q : Wn), [(L0, ((0, []) : Ky), (-1 : Int), 0)][j]? = some q → j = 0 ∧ q = (L0, (0, []), -1, 0) := fun j q hq => by
    have hj0 : j = 0 := by have := (List.getElem?_eq_some_iff.mp hq).1; simpa using this
    subst hj0
    cases hq; exact ⟨rfl, rfl⟩
  refine c_w15 d hw hRH hr4 h6 wL0 hcw h60 hm2 Qp 36000001 rhFU M1 0 [(L0, (0, []), -1, 0)] (fun _ => False) _ _ _ (by omega) (by have := FU_big2; omega) hG1 hBM ?_ ?_ ?_ (fun j h => h.elim) ⟨[], List.nodup_nil, fun j => by simp, by simp⟩ (fun j q _ h => h.elim)
    (fun M' N' dn' lst' wt' n' b1 b2 b3 b4 => hN M' N' dn' lst' wt' n' (a1.trans (b1.sub hW62)) b2 (fun j u v => by rw [b3 j u v, a6 j u v]) b4)
    (fun M' N' dn' lst' wt' n' j x b1 b2 b3 b4 b5 b6 => hM M' N' dn' lst' wt' n' j x (a1.trans (b1.sub hW62)) b2 b3 (fun j u v => by rw [b4 j u v, a6 j u v]) b5 b6)
  · refine ⟨rfl, fun j q hq => ?_, by simp, fun j q hq hj => ?_⟩
    · rw [(hone j q hq).2]; exact wL0
    · have := (hone j q hq).1; omega
  · intro j q hq
    rw [(hone j q hq).2]
    exact ⟨fun h => h.elim, fun _ => ⟨Nat.zero_le _, by simp⟩⟩
  · intro j x _ h; exact h.elim
end
