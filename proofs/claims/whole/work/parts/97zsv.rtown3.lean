section
variable {Γ : rhG} {M M' : rhM} {T : Tn} {bs : List Int32} {B : Bd} {b o0 : Nat}
def KMr : List Nat := [0, 1, 2, 3, 4, 5, 6, 7, 8, 9, 10]
/-- what the reference's town leaves -/
def TQ (bs : List Int32) (T : Tn) (M : rhM) (y : Int32 × rhM) : Prop := KP KMr M y.2 ∧ KR M y.2 ∧ R1 y.2 [] ∧ R2 y.2 (rdK bs) (rdP bs) ∧
  (rdK bs ≠ 0 → y.1 = -1 ∧ KP [0, 1, 2, 3] M y.2 ∧ R3 y.2 T) ∧
  (rdK bs = 0 → y.1 = J (tH (bT (read bs).2)) ∧ R3 y.2 (bT (read bs).2) ∧ R4 y.2 (fst (bT (read bs).2)) ∧ R5 y.2 [] ∧ R6 y.2 [] ∧ R7 y.2 [] ∧ R8 y.2 [] ∧ R9 y.2 (fun _ => none) ∧ R10 y.2 [])
theorem r_end95 (hG : GK Γ) {M0 : rhM} (kp : KP [0, 1, 2, 3] M0 M) (kr : KR M0 M) (r1 : R1 M []) (hE : RE Γ M b) (hQ : QS M bs (read bs).1) (hK : rdK bs = 0 → RKB M b (read bs).2) (r3 : rdK bs ≠ 0 → R3 M T) {lb : Int} (h44 : M.1 102 44 = J (-1)) (h45 : M.1 102 45 = J lb) (hl : 0 ≤ lb ∧ lb ≤ 99) : wp (f_X12_town_95 Γ M 102) (TQ bs T M0) := by
  obtain ⟨-, hR, hb, h35⟩ := id hE
  have r2 : R2 M (rdK bs) (rdP bs) := ⟨hQ.2.1, hQ.2.2.1⟩
  have eg : ((read bs).1.2.1 = 0) = (rdK bs = 0) := rfl
  rw [f_X12_town_95, wp_ck_t (GKk102 hG), wp_bind, y_good hG hQ, wp_some]
  by_cases g : rdK bs = 0
  · have g' : (read bs).1.2.1 = 0 := g
    have hP : PW (read bs).2 := pw_lines 1600 _ PW_0 g
    obtain ⟨hw, hRH, -⟩ := PW_T hP
    rw [if_pos g', wp_ite_f (by decide), h35]
    have hT := TM_of (lb := lb) (M := rhsi M 102 34 (J b)) (b := b) (B := (read bs).2) (by
      have h := hK g
      obtain ⟨h1, h2, h3, h4, h5, h6, h7, h8⟩ := h
      have e : ∀ r, r ≠ 102 → (rhsi M 102 34 (J b)).1 r = M.1 r := fun r hr => by funext k; rw [si_1, if_neg (fun q => hr q.1)]
      refine ⟨by rw [e 105 (by decide), e 106 (by decide), e 107 (by decide), e 109 (by decide), e 110 (by decide)]; exact h1, h2, by rw [e 112 (by decide)]; exact h3, by rw [e 113 (by decide), e 114 (by decide), e 115 (by decide)]; exact h4, by rw [e 116 (by decide), e 120 (by decide)]; exact h5, h6.eq (by rw [si_1, if_neg (by omega)]) (by rw [e 108 (by decide)]) (e 123 (by decide)) (e 124 (by decide)), by rw [e 117 (by decide), e 118 (by decide), e 119 (by decide)]; exact h7, by rw [e 111 (by decide)]; exact h8⟩) hP hb (by rw [si_1, if_pos ⟨rfl, rfl⟩]) (by rw [si_1, if_neg (by omega)]; exact h44) (by rw [si_1, if_neg (by omega)]; exact h45) hl
    have k1 : KP KMr M0 (rhsi M 102 34 (J b)) := (kp.sub (by decide)).si _ (by decide)
    have kr1 : KR M0 (rhsi M 102 34 (J b)) := kr.si _ (by decide)
    have k11 : KP [3] M (rhsi M 102 34 (J b)) := (KP.refl _ _).si _ (by decide)
    have r11 := r1.kp k11 (by decide)
    have r21 := r2.kp k11 (by decide)
    have hR1 : MR (rhsi M 102 34 (J b)) := hR
    show wp ((f_X12_begin Γ (rhsi M 102 34 (J b)) 102).bind _) _
    have h35' : (rhsi M 102 34 (J b)).1 102 34 = J b := by rw [si_1, if_pos ⟨rfl, rfl⟩]
    generalize rhsi M 102 34 (J b) = M1 at *
    rw [wp_bind, f_X12_begin, wp_ck_t (GKk102 hG), wp_bind]
    refine (m_layFirst hG hR1 hT hw).mono (fun M2 z => ?_)
    have k2 : KP [0] M1 M2 := KP.fr z.1 (by decide)
    have kr2 : KR M1 M2 := KR.fr z.1 (by decide)
    have hR2 := hR1.kp k2 (by decide)
    rw [wp_bind]
    refine (r_keep hG hR2 hw z.2 (fst_WA _ hw)).mono (fun M3 y => ?_)
    obtain ⟨k3, kr3, r4⟩ := y
    have hR3 := hR2.kp k3 (by decide)
    have r31 : R3 M1 (bT (read bs).2) := ⟨b, lb, hT⟩
    rw [wp_some]
    have k4 : KP [5, 6, 7, 8, 10] M3 (rhsi (rhsi (rhsi (rhsi (rhsi (rhsi M3 102 48 0) 102 49 0) 102 82 0) 102 51 0) 102 53 0) 102 66 0) := ((((((KP.refl _ _).si _ (by decide)).si _ (by decide)).si _ (by decide)).si _ (by decide)).si _ (by decide)).si _ (by decide)
    have kr4 : KR M3 (rhsi (rhsi (rhsi (rhsi (rhsi (rhsi M3 102 48 0) 102 49 0) 102 82 0) 102 51 0) 102 53 0) 102 66 0) := ((((((KR.refl _).si _ (by decide)).si _ (by decide)).si _ (by decide)).si _ (by decide)).si _ (by decide)).si _ (by decide)
    have v48 : (rhsi (rhsi (rhsi (rhsi (rhsi (rhsi M3 102 48 0) 102 49 0) 102 82 0) 102 51 0) 102 53 0) 102 66 0).1 102 48 = 0 := by simp [si_1]
    have v49 : (rhsi (rhsi (rhsi (rhsi (rhsi (rhsi M3 102 48 0) 102 49 0) 102 82 0) 102 51 0) 102 53 0) 102 66 0).1 102 49 = 0 := by simp [si_1]
    have v82 : (rhsi (rhsi (rhsi (rhsi (rhsi (rhsi M3 102 48 0) 102 49 0) 102 82 0) 102 51 0) 102 53 0) 102 66 0).1 102 82 = 0 := by simp [si_1]
    have v51 : (rhsi (rhsi (rhsi (rhsi (rhsi (rhsi M3 102 48 0) 102 49 0) 102 82 0) 102 51 0) 102 53 0) 102 66 0).1 102 51 = 0 := by simp [si_1]
    have v53 : (rhsi (rhsi (rhsi (rhsi (rhsi (rhsi M3 102 48 0) 102 49 0) 102 82 0) 102 51 0) 102 53 0) 102 66 0).1 102 53 = 0 := by simp [si_1]
    have v66 : (rhsi (rhsi (rhsi (rhsi (rhsi (rhsi M3 102 48 0) 102 49 0) 102 82 0) 102 51 0) 102 53 0) 102 66 0).1 102 66 = 0 := by simp [si_1]
    show wp (f_X12_town_138 Γ rhFU (rhsi (rhsi (rhsi (rhsi (rhsi (rhsi M3 102 48 0) 102 49 0) 102 82 0) 102 51 0) 102 53 0) 102 66 0) 102 (J (0 : Nat))) _
    generalize rhsi (rhsi (rhsi (rhsi (rhsi (rhsi M3 102 48 0) 102 49 0) 102 82 0) 102 51 0) 102 53 0) 102 66 0 = M4 at *
    have r34 : R3 M4 (bT (read bs).2) := ((r31.kp k2 (by decide)).kp k3 (by decide)).kp k4 (by decide)
    have h34 : M4.1 102 34 = J b := by rw [k4.1 102 34 (by decide), k3.1 102 34 (by decide), k2.1 102 34 (by decide)]; exact h35'
    have h106 : M4.1 106 b = J (tH (bT (read bs).2)) := by
      rw [k4.i (r := 106) (by decide) (by decide) (by decide) (by decide), k3.i (r := 106) (by decide) (by decide) (by decide) (by decide), k2.i (r := 106) (by decide) (by decide) (by decide) (by decide)]
      exact hT.2.2.2.1
    have hR4 := hR3.kp k4 (by decide)
    have hbig := FU_big
    refine (y_boxes hG 3 rhFU M4 0 hR4 hb h34 h106 (by omega) (by omega) (fun j hj => by omega)).mono (fun y q => ?_)
    obtain ⟨q1, q2, q3⟩ := q
    have k5 : KP [9] M4 y.2 := KP.fr q2 (by decide)
    have kr5 : KR M4 y.2 := KR.fr q2 (by decide)
    refine ⟨k1.trans ((k2.sub (by decide)).trans ((k3.sub (by decide)).trans ((k4.sub (by decide)).trans (k5.sub (by decide))))), kr1.trans (kr2.trans (kr3.trans (kr4.trans kr5))), (((r11.kp k2 (by decide)).kp k3 (by decide)).kp k4 (by decide)).kp k5 (by decide), (((r21.kp k2 (by decide)).kp k3 (by decide)).kp k4 (by decide)).kp k5 (by decide), fun h => absurd g h, fun _ => ⟨q1, r34.kp k5 (by decide), (r4.kp k4 (by decide)).kp k5 (by decide), ?_, ?_, ?_, ?_, ?_, ?_⟩⟩
    · have : R5 M4 [] := ⟨by rw [v48]; rfl, by rw [v49]; rfl, trivial, trivial⟩
      exact this.kp k5 (by decide)
    · have : R6 M4 [] := ⟨by rw [v51]; rfl, trivial⟩
      exact this.kp k5 (by decide)
    · have : R7 M4 [] := ⟨by rw [v53]; rfl, trivial⟩
      exact this.kp k5 (by decide)
    · have : R8 M4 [] := ⟨by rw [v66]; rfl, trivial⟩
      exact this.kp k5 (by decide)
    · exact fun k hk => ⟨fun _ => q3 k hk, fun x h => by cases h⟩
    · have : R10 M4 [] := ⟨by rw [v82]; rfl, fun i s h => by simp at h⟩
      exact this.kp k5 (by decide)
  · have g' : ¬ (read bs).1.2.1 = 0 := g
    rw [if_neg g', wp_ite_t rfl, wp_some]
    exact ⟨kp.sub (by decide), kr, r1, r2, fun _ => ⟨rfl, kp, r3 g⟩, fun h => absurd h g⟩
theorem r_town (hG : GK Γ) (hR : MR M) (r1 : R1 M bs) (r3 : R3 M T) (hw : TWf T) (hl : bs.length ≤ 1600) (hb : ∀ z, z ∈ bs → -128 ≤ z.toInt ∧ z.toInt < 128) : wp (f_X12_town Γ M 102) (TQ bs T M) := by
  have hbig := FU_big
  obtain ⟨o0, lb, hT⟩ := r3
  have ho1 := hT.1
  have h34 := hT.2.1
  have h44 := hT.2.2.2.2.2.2.2.2.2.1
  have h45 := hT.2.2.2.2.2.2.2.2.2.2.1
  have hlb : 0 ≤ lb ∧ lb ≤ 99 := ⟨hT.2.2.2.2.2.2.2.2.2.2.2.2.2.1, hT.2.2.2.2.2.2.2.2.2.2.2.2.2.2.1⟩
  rw [f_X12_town, wp_ck_t (GKk102 hG)]
  have e2 : (rhsi (rhsi M 102 4 0) 102 5 (-1)).1 102 2 = J bs.length := by simp [si_1]; exact r1.1
  show wp (f_X12_town_20 (f_X12_town_46 Γ) Γ rhFU (rhsi (rhsi (rhsi M 102 4 0) 102 5 (-1)) 102 3 ((rhsi (rhsi M 102 4 0) 102 5 (-1)).1 102 2)) 102 (J (0 : Nat))) _
  rw [e2]
  have kA : KP [0, 1, 2, 3] M (rhsi (rhsi (rhsi M 102 4 0) 102 5 (-1)) 102 3 (J bs.length)) := (((KP.refl _ _).si _ (by decide)).si _ (by decide)).si _ (by decide)
  have krA : KR M (rhsi (rhsi (rhsi M 102 4 0) 102 5 (-1)) 102 3 (J bs.length)) := (((KR.refl _).si _ (by decide)).si _ (by decide)).si _ (by decide)
  have a3 : (rhsi (rhsi (rhsi M 102 4 0) 102 5 (-1)) 102 3 (J bs.length)).1 102 3 = J bs.length := by simp [si_1]
  have a4 : (rhsi (rhsi (rhsi M 102 4 0) 102 5 (-1)) 102 3 (J bs.length)).1 102 4 = 0 := by simp [si_1]
  have a5 : (rhsi (rhsi (rhsi M 102 4 0) 102 5 (-1)) 102 3 (J bs.length)).1 102 5 = -1 := by simp [si_1]
  have aO : ∀ c, c ≠ 102 → (rhsi (rhsi (rhsi M 102 4 0) 102 5 (-1)) 102 3 (J bs.length)).1 c = M.1 c := fun c hc => by funext k; rw [si_1, if_neg (fun q => hc q.1), si_1, if_neg (fun q => hc q.1), si_1, if_neg (fun q => hc q.1)]
  have a34 : ∀ k, k ≠ 3 → k ≠ 4 → k ≠ 5 → (rhsi (rhsi (rhsi M 102 4 0) 102 5 (-1)) 102 3 (J bs.length)).1 102 k = M.1 102 k := fun k h1 h2 h3 => by rw [si_1, if_neg (by omega), si_1, if_neg (by omega), si_1, if_neg (by omega)]
  have hRA : MR (rhsi (rhsi (rhsi M 102 4 0) 102 5 (-1)) 102 3 (J bs.length)) := hR
  generalize rhsi (rhsi (rhsi M 102 4 0) 102 5 (-1)) 102 3 (J bs.length) = MA at *
  refine y_copy hG hl hb bs.length rhFU MA 0 hRA (by omega) (by omega) a3 (by rw [aO 103 (by decide)]; exact r1.2) (fun i z _ hi => by omega) (fun MB fB tB => ?_)
  have kB := kA.trans (KP.fr (ids := [0, 1, 2, 3]) fB (by decide))
  have krB := krA.trans (KR.fr fB (by decide))
  have hRB := hR.kp kB (by decide)
  have n104 : ∀ r, r ≠ 104 → MB.1 r = MA.1 r := fun r hr => fB.i (by simp only [List.mem_singleton]; exact hr)
  rw [f_X12_town_46, wp_ck_t (GKk102 hG)]
  have e34 : (rhsi (rhsi MB 102 2 0) 102 7 0).1 102 34 = J o0 := by
    rw [si_1, if_neg (by omega), si_1, if_neg (by omega), n104 102 (by decide), a34 34 (by decide) (by decide) (by decide)]; exact h34
  show wp ((f_X12_clearBank Γ (rhsi (rhsi (rhsi MB 102 2 0) 102 7 0) 102 35 (1 - (rhsi (rhsi MB 102 2 0) 102 7 0).1 102 34)) 102).bind _) _
  rw [e34, show (1 : Int32) - J o0 = J ((1 - o0 : Nat) : Int) by rw [show (1 : Int32) = J 1 from rfl, J_sub]; congr 1; omega]
  obtain ⟨b, hbo⟩ : ∃ b, b = 1 - o0 := ⟨_, rfl⟩
  rw [← hbo]
  have hb1 : b ≤ 1 := by omega
  have kC : KP [0, 1, 2, 3] M (rhsi (rhsi (rhsi MB 102 2 0) 102 7 0) 102 35 (J b)) := ((kB.si _ (by decide)).si _ (by decide)).si _ (by decide)
  have krC : KR M (rhsi (rhsi (rhsi MB 102 2 0) 102 7 0) 102 35 (J b)) := ((krB.si _ (by decide)).si _ (by decide)).si _ (by decide)
  have c2 : (rhsi (rhsi (rhsi MB 102 2 0) 102 7 0) 102 35 (J b)).1 102 2 = 0 := by simp [si_1]
  have c7 : (rhsi (rhsi (rhsi MB 102 2 0) 102 7 0) 102 35 (J b)).1 102 7 = 0 := by simp [si_1]
  have c35 : (rhsi (rhsi (rhsi MB 102 2 0) 102 7 0) 102 35 (J b)).1 102 35 = J b := by simp [si_1]
  have cO : ∀ c, c ≠ 102 → (rhsi (rhsi (rhsi MB 102 2 0) 102 7 0) 102 35 (J b)).1 c = MB.1 c := fun c hc => by funext k; rw [si_1, if_neg (fun q => hc q.1), si_1, if_neg (fun q => hc q.1), si_1, if_neg (fun q => hc q.1)]
  have cK : ∀ k, k ≠ 2 → k ≠ 7 → k ≠ 35 → (rhsi (rhsi (rhsi MB 102 2 0) 102 7 0) 102 35 (J b)).1 102 k = MB.1 102 k := fun k h1 h2 h3 => by rw [si_1, if_neg (by omega), si_1, if_neg (by omega), si_1, if_neg (by omega)]
  have hRC : MR (rhsi (rhsi (rhsi MB 102 2 0) 102 7 0) 102 35 (J b)) := hRB
  generalize rhsi (rhsi (rhsi MB 102 2 0) 102 7 0) 102 35 (J b) = MC at *
  have EC0 : RE Γ MC b := ⟨hG, hRC, hb1, c35⟩
  rw [wp_bind]
  refine (y_clear EC0).mono (fun MD d => ?_)
  obtain ⟨d1, d2, d3, d4⟩ := d
  have ED := EC0.yb d1
  have dO : ∀ k, k ≠ 2 → k ≠ 7 → k ≠ 35 → k ≠ 36 → MD.1 102 k = MA.1 102 k := fun k h1 h2 h3 h4 => by rw [d3 k h4, cK k h1 h2 h3, n104 102 (by decide)]
  have rb : RB MD bs := by
    refine ⟨by rw [dO 3 (by decide) (by decide) (by decide) (by decide)]; exact a3, ?_, hl, hb⟩
    rw [d1.1.i (by decide), cO 104 (by decide)]; exact tB
  rw [wp_bind]
  refine r_goOn hG (i := 0) ED.2.1 rb (by rw [d3 7 (by decide)]; exact c7) (Nat.zero_le _) (fun ME k t => ?_)
  have yx := YX.rk k
  have EE := yx.re ED
  have Q0 : QS ME bs (0, 0, 0) := ⟨⟨0, t, Nat.zero_le _, fun _ => rfl⟩, by rw [k.2 4 (by decide) (by decide) (by decide) (by decide), dO 4 (by decide) (by decide) (by decide) (by decide)]; exact a4, by rw [k.2 5 (by decide) (by decide) (by decide) (by decide), dO 5 (by decide) (by decide) (by decide) (by decide), a5]; rfl, Nat.zero_le _⟩
  refine y_lines hG 1600 rhFU ME (0, 0, 0) b0 (fun _ => by show bs.length - 0 ≤ 1600; omega) (by omega) EE Q0 ⟨Nat.zero_le _, Nat.zero_le _⟩ (fun _ => ⟨d2.yx yx, PW_0⟩) (fun MF f => ?_)
  obtain ⟨f1, f2, f3⟩ := f
  have YF : YB b MC MF := d1.trans ((YB.yx hb1 yx).trans f1)
  have EF := EC0.yb YF
  have kF := kC.trans (KP_yb YF)
  have krF := krC.trans (KR_yb YF)
  have g34 : ∀ k, (k = 34 ∨ k = 44 ∨ k = 45) → MF.1 102 k = M.1 102 k := fun k hk => by
    rw [YF.2.1 k (by omega) (by omega) (by omega) (by omega), cK k (by omega) (by omega) (by omega), n104 102 (by decide), a34 k (by omega) (by omega) (by omega)]
  refine r_end95 (b := b) (lb := lb) hG kF krF ⟨?_, fun i z h => by simp at h⟩ EF f2 f3 (fun _ => ⟨o0, lb, TM_old (b := b) hbo hT hw (g34 34 (by decide)) (g34 44 (by decide)) (g34 45 (by decide)) (fun c i hc hi => ?_)⟩) (by rw [g34 44 (by decide)]; exact h44) (by rw [g34 45 (by decide)]; exact h45) hlb
  · rw [YF.2.1 2 (by decide) (by decide) (by decide) (by decide), c2]; rfl
  · have hc102 : c ≠ 102 := fun q => by rw [q] at hc; exact hc rfl
    have hc104 : c ≠ 104 := fun q => by rw [q] at hc; exact hc rfl
    rw [YF.2.2 c i hc hi, cO c hc102, n104 c hc104, aO c hc102]
end
