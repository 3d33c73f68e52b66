section
variable {Γ : rhG} {b : Nat} {M M' : rhM} {bs : List Int32} {B : Bd} {s : Ps}
theorem y_rln {f : rhG → rhM → Nat → Option rhM} {g : Rs → Rs} {c : Bd → Prop} (hf : RLn Γ b bs f g c) (hE : RE Γ M b) (hQ : QS M bs (adv bs s)) (hg : s.2.1 = 0) (hK : RKB M b B) (hP : PW B) (hc : ¬ c B) {K : rhM → Option rhM} (hKe : ∀ M1, K M1 = f_X12_readLine_177 Γ M1 102) : wp ((f Γ M 102).bind K) (FQr b bs M (g (s, B))) := by
  rw [wp_bind]
  refine (hf M s B hE hQ hg hK hP hc).mono (fun M1 z => ?_)
  obtain ⟨z1, s5, z2, z3, z4⟩ := z
  rw [hKe]
  exact (y_177 (hE.yb z1) z2 z3 z4).mono (fun M' q => q.of z1)
theorem y_readLine (hE : RE Γ M b) (hQ : QS M bs s) (hg : s.2.1 = 0) (hs : s.1 ≤ bs.length) (hK : RKB M b B) (hP : PW B) : wp (f_X12_readLine Γ M 102) (FQr b bs M (lLine bs (s, B))) := by
  obtain ⟨hG, hR, hb, h35⟩ := id hE
  obtain ⟨i, t1, t2, t3⟩ := id hQ.1
  have ei := t3 hg
  rw [ei] at t1 t2
  have hk5 : qk bs s.1 ≤ 5 := by unfold qk; (repeat' split) <;> omega
  have hx := qx_rng bs s.1
  have eLL : lLine bs (s, B) = if qx bs s.1 = 0 then lRail bs (s, B) else if qx bs s.1 = 1 then lHouse bs (s, B) else if qx bs s.1 = 2 then lBeside bs (s, B) else if qx bs s.1 = 3 then lNeck bs (s, B) else if qx bs s.1 = 4 then lDraws bs (s, B) else if qx bs s.1 = 5 then lLaw bs (s, B) else (rfu bs s, B) := rfl
  obtain ⟨⟨a0, a1, a2, a3, a4, a5, a6, a7, a8⟩, d0, d1, d2, d3, d4, d5, d6, d7, d8⟩ := kwB_at
  /- misplaced -/
  have bad : ∀ (v1 : Int64), (lLine bs (s, B)).1.2 = (rfu bs s).2 → wp (f_X12_readLine_20 (f_X12_readLine_24 Γ) Γ M 102 v1) (FQr b bs M (lLine bs (s, B))) := fun v1 e => by
    have hb4 := rfu_bad (bs := bs) s
    rw [f_X12_readLine_20, wp_ck_t (GKk102 hG), wp_bind]
    refine (y_mis hG hQ).mono (fun M1 z => ?_)
    rw [f_X12_readLine_24, wp_ck_t (GKk102 hG), wp_bind, y_good hG z.2, if_neg hb4, wp_some, wp_ite_t rfl, wp_some]
    exact ⟨YB.yx hb z.1, z.2.bad hb4 e, fun q => absurd (by rw [← e]; exact q) hb4⟩
  rw [f_X12_readLine, wp_ck_t (GKk102 hG)]
  show wp (if M.1 102 8 = 3 then _ else f_X12_readLine_20 (f_X12_readLine_24 Γ) Γ M 102 (M.2.1 102 10)) _
  rw [t1.2.2.2.1]
  by_cases c3 : qk bs s.1 = 3
  · rw [wp_ite_t (by rw [c3]; rfl)]
    /- the word's number -/
    have hq0 : 0 ≤ qx bs s.1 ∧ qx bs s.1 < 18 := by
      have hm : qw bs s.1 ∈ kwL := by
        unfold qk at c3
        split at c3
        · split at c3
          · omega
          · split at c3
            · assumption
            · omega
        · split at c3
          · split at c3 <;> omega
          · split at c3
            · split at c3 <;> omega
            · omega
      have hl := List.idxOf_lt_length_of_mem hm
      have e18 : kwL.length = 18 := rfl
      unfold qx
      rw [if_pos c3]; omega
    obtain ⟨q, hq⟩ : ∃ q : Nat, qx bs s.1 = q := ⟨(qx bs s.1).toNat, by omega⟩
    have hq18 : q < 18 := by omega
    have hw := ((qx_iff hq18).mp hq).2
    have hv : M.2.1 102 10 = kwB q := by
      rw [t1.2.2.2.2.1 (Or.inr c3), hw]; rfl
    have iw : ∀ (k : Nat), k < 18 → ∀ v : Int64, v = kwB k → f_X12_isWord Γ M 102 v = some (if q = k then 1 else 0) := fun k hk v hv => by
      rw [y_isWordA hG t1 hk hv, hq]
      by_cases c : q = k
      · rw [if_pos c, if_pos (by omega)]
      · rw [if_neg c, if_neg (by omega)]
    rw [hv]
    /- behind the first word -/
    have go : ∀ (Q : rhM → Prop), (∀ M1, YX M M1 → QS M1 bs (adv bs s) → wp (if kwB q = (1918986604 : Int64) then ((f_X12_readRail Γ M1 102).bind fun r11 => f_X12_readLine_48 Γ r11 102 (kwB q)) else f_X12_readLine_48 Γ M1 102 (kwB q)) Q) → wp (f_X12_readLine_24 Γ M 102 (kwB q)) Q := fun Q h => by
      rw [f_X12_readLine_24, wp_ck_t (GKk102 hG), wp_bind, y_good hG hQ, if_pos hg, wp_some, wp_ite_f (by decide), wp_bind]
      exact (y_goOn hG hR hQ hg).mono (fun M1 z => h M1 z.1 z.2)
    have cs : ∀ (c : Prop) [Decidable c] (K : Int32 → Option Int32), (some (if c then (1 : Int32) else 0)).bind K = if c then K 1 else K 0 := fun c _ K => by split <;> rfl
    have t177 : ∀ M1 : rhM, q ≠ 5 → f_X12_readLine_142 Γ M1 102 (kwB q) = f_X12_readLine_177 Γ M1 102 := fun M1 h => by
      rw [f_X12_readLine_142, d0, if_neg (kwB_ne hq18 (by decide) h)]
    have t142 : ∀ M1 : rhM, q ≠ 4 → f_X12_readLine_107 Γ M1 102 (kwB q) = f_X12_readLine_142 Γ M1 102 (kwB q) := fun M1 h => by
      rw [f_X12_readLine_107, a8, if_neg (kwB_ne hq18 (by decide) h)]
    have t107 : ∀ M1 : rhM, q ≠ 3 → f_X12_readLine_72 Γ M1 102 (kwB q) = f_X12_readLine_107 Γ M1 102 (kwB q) := fun M1 h => by
      rw [f_X12_readLine_72, a7, if_neg (kwB_ne hq18 (by decide) h)]
    have t72 : ∀ M1 : rhM, q ≠ 2 → f_X12_readLine_60 Γ M1 102 (kwB q) = f_X12_readLine_72 Γ M1 102 (kwB q) := fun M1 h => by
      rw [f_X12_readLine_60, a5, if_neg (kwB_ne hq18 (by decide) h)]
    have t60 : ∀ M1 : rhM, q ≠ 1 → f_X12_readLine_48 Γ M1 102 (kwB q) = f_X12_readLine_60 Γ M1 102 (kwB q) := fun M1 h => by
      rw [f_X12_readLine_48, a2, if_neg (kwB_ne hq18 (by decide) h)]
    have toEv : ∀ M1, YX M M1 → RE Γ M1 b ∧ RKB M1 b B ∧ YB b M M1 := fun M1 z => ⟨z.re hE, hK.yx z, YB.yx hb z⟩
    rw [wp_bind, f_X12_isFull, rhck_t (GKk102 hG), iw 0 (by decide) _ a0, cs]
    by_cases c0 : q = 0
    · have e : lLine bs (s, B) = lRail bs (s, B) := by rw [eLL, if_pos (by omega)]
      have h5 := hP.1.1
      rw [if_pos c0, if_neg (by decide), MRf11 hR, rhck_t (GKk105 hG), h35, rhck_t (by rw [J_toInt (by omega) (by omega), GKl105 hG]; omega), J_clamp (by omega) (by omega), Int.toNat_natCast, hK.1.1]
      by_cases cf : 5 ≤ (bR B).length
      · rw [if_pos (by rw [show (bR B).length = 5 by omega]; rfl), wp_some, wp_ite_f (by decide)]
        exact bad _ (by rw [e]; exact lRail_full cf)
      · rw [if_neg (by rw [show (5 : Int32) = J 5 from rfl, J_eq (by omega) (by omega) (by omega) (by omega)]; omega), wp_some, wp_ite_t rfl]
        refine go _ (fun M1 z1 z2 => ?_)
        obtain ⟨E1, K1, Y1⟩ := toEv M1 z1
        rw [wp_ite_t (by rw [a0, c0]), e]
        exact (y_rln y_readRail E1 z2 hg K1 hP cf (fun M2 => by rw [t60 M2 (by omega), t72 M2 (by omega), t107 M2 (by omega), t142 M2 (by omega), t177 M2 (by omega)])).mono (fun M' q => q.of Y1)
    rw [if_neg c0, if_pos rfl, iw 1 (by decide) _ a2, cs]
    have g0 : ∀ M1 : rhM, (if kwB q = (1918986604 : Int64) then ((f_X12_readRail Γ M1 102).bind fun r11 => f_X12_readLine_48 Γ r11 102 (kwB q)) else f_X12_readLine_48 Γ M1 102 (kwB q)) = f_X12_readLine_48 Γ M1 102 (kwB q) := fun M1 => if_neg (by rw [a0]; exact kwB_ne hq18 (by decide) c0)
    by_cases c1 : q = 1
    · have e : lLine bs (s, B) = lHouse bs (s, B) := by rw [eLL, if_neg (by omega), if_pos (by omega)]
      have h8 := hP.1.2.1
      rw [if_pos c1, if_neg (by decide), MRf12 hR, rhck_t (GKk106 hG), h35, rhck_t (by rw [J_toInt (by omega) (by omega), GKl106 hG]; omega), J_clamp (by omega) (by omega), Int.toNat_natCast, hK.1.2.1]
      by_cases cf : 8 ≤ (bH B).length
      · rw [if_pos (by rw [show (bH B).length = 8 by omega]; rfl), wp_some, wp_ite_f (by decide)]
        exact bad _ (by rw [e]; exact lHouse_full cf)
      · rw [if_neg (by rw [show (8 : Int32) = J 8 from rfl, J_eq (by omega) (by omega) (by omega) (by omega)]; omega), wp_some, wp_ite_t rfl]
        refine go _ (fun M1 z1 z2 => ?_)
        obtain ⟨E1, K1, Y1⟩ := toEv M1 z1
        rw [g0, e, f_X12_readLine_48, wp_ite_t (by rw [a2, c1]), wp_ck_t (GKk102 hG)]
        exact (y_rln y_readHouse E1 z2 hg K1 hP cf (fun M2 => by rw [t72 M2 (by omega), t107 M2 (by omega), t142 M2 (by omega), t177 M2 (by omega)])).mono (fun M' q => q.of Y1)
    rw [if_neg c1, if_pos rfl, iw 2 (by decide) _ a5, cs]
    by_cases c2 : q = 2
    · have e : lLine bs (s, B) = lBeside bs (s, B) := by rw [eLL, if_neg (by omega), if_neg (by omega), if_pos (by omega)]
      have h20 := hP.1.2.2
      rw [if_pos c2, if_neg (by decide), MRf13 hR, rhck_t (GKk107 hG), h35, rhck_t (by rw [J_toInt (by omega) (by omega), GKl107 hG]; omega), J_clamp (by omega) (by omega), Int.toNat_natCast, hK.1.2.2.1]
      by_cases cf : 20 ≤ (bB B).length
      · rw [if_pos (by rw [show (bB B).length = 20 by omega]; rfl), wp_some, wp_ite_f (by decide)]
        exact bad _ (by rw [e]; exact lBeside_full cf)
      · rw [if_neg (by rw [show (20 : Int32) = J 20 from rfl, J_eq (by omega) (by omega) (by omega) (by omega)]; omega), wp_some, wp_ite_t rfl]
        refine go _ (fun M1 z1 z2 => ?_)
        obtain ⟨E1, K1, Y1⟩ := toEv M1 z1
        rw [g0, e, t60 M1 c1, f_X12_readLine_60, wp_ite_t (by rw [a5, c2]), wp_ck_t (GKk102 hG)]
        exact (y_rln y_readBeside E1 z2 hg K1 hP cf (fun M2 => by rw [t107 M2 (by omega), t142 M2 (by omega), t177 M2 (by omega)])).mono (fun M' q => q.of Y1)
    rw [if_neg c2, if_pos rfl, iw 3 (by decide) _ a7, cs]
    have bff : ∀ c : Bool, bf c = 0 ∨ bf c = 1 := fun c => by cases c; exact Or.inl rfl; exact Or.inr rfl
    by_cases cn : q = 3
    · have e : lLine bs (s, B) = lNeck bs (s, B) := by rw [eLL, if_neg (by omega), if_neg (by omega), if_neg (by omega), if_pos (by omega)]
      have hf := hK.2.2.2.2.2.2.1.1
      rw [if_pos cn, if_neg (by decide), MRf23 hR, rhck_t (GKk117 hG), h35, rhck_t (by rw [J_toInt (by omega) (by omega), GKl117 hG]; omega), J_clamp (by omega) (by omega), Int.toNat_natCast, hf, rhck_t (bff _), wp_some]
      by_cases cf : (bN B).isSome = true
      · rw [wp_ite_f (by rw [cf]; decide)]
        exact bad _ (by rw [e]; exact lNeck_full cf)
      · have cf' : (bN B).isSome = false := by simpa using cf
        rw [wp_ite_t (by rw [cf']; rfl)]
        refine go _ (fun M1 z1 z2 => ?_)
        obtain ⟨E1, K1, Y1⟩ := toEv M1 z1
        rw [g0, e, t60 M1 c1, t72 M1 c2, cn]
        exact (y_neck E1 z2 K1 cf).mono (fun M' q => q.of Y1)
    rw [if_neg cn, if_pos rfl, iw 4 (by decide) _ a8, cs]
    by_cases cd : q = 4
    · have e : lLine bs (s, B) = lDraws bs (s, B) := by rw [eLL, if_neg (by omega), if_neg (by omega), if_neg (by omega), if_neg (by omega), if_pos (by omega)]
      have hf := hK.2.2.2.2.2.2.1.2.1
      rw [if_pos cd, if_neg (by decide), MRf24 hR, rhck_t (GKk118 hG), h35, rhck_t (by rw [J_toInt (by omega) (by omega), GKl118 hG]; omega), J_clamp (by omega) (by omega), Int.toNat_natCast, hf, rhck_t (bff _), wp_some]
      by_cases cf : (bD B).isSome = true
      · rw [wp_ite_f (by rw [cf]; decide)]
        exact bad _ (by rw [e]; exact lDraws_full cf)
      · have cf' : (bD B).isSome = false := by simpa using cf
        rw [wp_ite_t (by rw [cf']; rfl)]
        refine go _ (fun M1 z1 z2 => ?_)
        obtain ⟨E1, K1, Y1⟩ := toEv M1 z1
        rw [g0, e, t60 M1 c1, t72 M1 c2, t107 M1 cn, cd]
        exact (y_draws E1 z2 K1 cf).mono (fun M' q => q.of Y1)
    rw [if_neg cd, if_pos rfl, iw 5 (by decide) _ d0, cs]
    by_cases cl : q = 5
    · have e : lLine bs (s, B) = lLaw bs (s, B) := by rw [eLL, if_neg (by omega), if_neg (by omega), if_neg (by omega), if_neg (by omega), if_neg (by omega), if_pos (by omega)]
      have hf := hK.2.2.2.2.2.2.1.2.2
      rw [if_pos cl, if_neg (by decide), MRf25 hR, rhck_t (GKk119 hG), h35, rhck_t (by rw [J_toInt (by omega) (by omega), GKl119 hG]; omega), J_clamp (by omega) (by omega), Int.toNat_natCast, hf]
      by_cases cf : (bL B).isSome = true
      · rw [if_neg (by rw [cf]; decide), wp_some, wp_ite_f (by decide)]
        exact bad _ (by rw [e]; exact lLaw_full cf)
      · have cf' : (bL B).isSome = false := by simpa using cf
        rw [if_pos (by rw [cf']; rfl), wp_some, wp_ite_t rfl]
        refine go _ (fun M1 z1 z2 => ?_)
        obtain ⟨E1, K1, Y1⟩ := toEv M1 z1
        rw [g0, e, t60 M1 c1, t72 M1 c2, t107 M1 cn, t142 M1 cd, cl]
        exact (y_law E1 z2 hg hs K1 hP cf).mono (fun M' q => q.of Y1)
    rw [if_neg cl, if_pos rfl, wp_some, wp_ite_f (by decide)]
    exact bad _ (by rw [eLL, if_neg (by omega), if_neg (by omega), if_neg (by omega), if_neg (by omega), if_neg (by omega), if_neg (by omega)])
  · rw [wp_ite_f (by rw [show (3 : Int32) = J 3 from rfl, J_eq (by omega) (by omega) (by omega) (by omega)]; omega)]
    have hq : qx bs s.1 = -1 := by unfold qx; rw [if_neg c3]
    exact bad _ (by rw [eLL, hq, if_neg (by decide), if_neg (by decide), if_neg (by decide), if_neg (by decide), if_neg (by decide), if_neg (by decide)])
end
