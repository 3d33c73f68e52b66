section
variable {Γ : rhG} {M : rhM} {t t' : Nat} {T : Tn} {bs : List Int32}
theorem KP.sr {ids : List Nat} {M M' : rhM} (h : KP ids M M') {r j : Nat} (v : Nat) (hi : idR r j ∈ ids) : KP ids M (rhsr M' r j v) :=
  ⟨fun a k hn => h.1 a k hn, fun a k hn => h.2.1 a k hn, fun a k hn => by rw [sr_ne (fun e => hn (by rw [e.1, e.2]; exact hi))]; exact h.2.2 a k hn⟩
theorem KC.sr {M M' : rhM} (h : KC M M') {r j : Nat} (v : Nat) (hr : r < 102 ∨ 165 ≤ r) : KC M (rhsr M' r j v) := fun a h1 h2 =>
  ⟨(h a h1 h2).1, (h a h1 h2).2.1, by rw [sr_o M' r j v (by omega)]; exact (h a h1 h2).2.2⟩
theorem C3.tsh' (h : C3 M t t' T) (hG : GK Γ) (hC : CR M) : TSh Γ M t' := by
  rcases h.1 with ⟨-, e⟩ | ⟨-, e⟩
  · rw [e]; exact TS22 hG hC
  · rw [e]; exact TS11 hG hC
/-- what a text says of faults -/
def rdK (bs : List Int32) : Nat := (read bs).1.2.1
def rdP (bs : List Int32) : Nat := (read bs).1.2.2
theorem c_reads (hG : GK Γ) (hC : CR M) (hT : C3 M t t' T) (c1 : C1 M bs) (hl : bs.length ≤ 1600) (hb : ∀ z, z ∈ bs → -128 ≤ z.toInt ∧ z.toInt < 128) (c14 : C14 M) :
    wp (f_X4_reads Γ M 3 2 (J bs.length) t') (fun r => r.1 = (if rdK bs = 0 then 1 else 0) ∧ KP [0, 2, 3] M r.2 ∧ KC M r.2 ∧ C2 r.2 (rdK bs) (rdP bs) ∧ rdK bs ≤ 6 ∧ C3 r.2 t t' T ∧ (rdK bs = 0 → TC r.2 t' (bT (read bs).2) ∧ PW (read bs).2)) := by
  have hbig := FU_big
  have ht' : t' = 11 ∨ t' = 22 := by rcases hT.1 with ⟨-, e⟩ | ⟨-, e⟩ <;> simp [e]
  have hTS := hT.tsh' hG hC
  rw [f_X4_reads, wp_ck_t (GKk3 hG), wp_bind]
  refine (c_begin hG hTS ht' (CR3_6 hC)).mono (fun MA a => ?_)
  obtain ⟨FA, KA, fA⟩ := a
  have kpA : KP [0, 2, 3] M MA := (((KP.refl _ _).sr t' (r := 3) (j := 10) (by decide)).sr (t' + 6) (r := 3) (j := 11) (by decide)).trans (by rcases ht' with rfl | rfl <;> exact KP.fr FA (by decide))
  have kcA : KC M MA := (((KC.refl _).sr t' (r := 3) (j := 10) (by decide)).sr (t' + 6) (r := 3) (j := 11) (by decide)).trans (by rcases ht' with rfl | rfl <;> exact KC.fr FA (by decide))
  have hCA := hC.kp kpA (by decide)
  have c1A := c1.kp kpA (by decide)
  rw [CR3_2 hCA, wp_ck_t (GKk4 hG), wp_bind]
  refine (c_tbegin hG (CR4_0 hCA) c1A.2 hl (c14.kp kpA (by decide)) hb).mono (fun MB b => ?_)
  obtain ⟨FB, TB⟩ := b
  have kpB : KP [0, 2, 3] M MB := (kpA.sr 2 (r := 4) (j := 1) (by decide)).trans (KP.fr FB (by decide))
  have kcB : KC M MB := (kcA.sr 2 (r := 4) (j := 1) (by decide)).trans (KC.fr FB (by decide))
  have hCB := hC.kp kpB (by decide)
  have rB10 : MB.2.2 3 10 = t' := by rw [FB.1, sr_ne (by omega), FA.1, sr_ne (by omega), sr_eq]
  have rB11 : MB.2.2 3 11 = t' + 6 := by rw [FB.1, sr_ne (by omega), FA.1, sr_eq]
  have n4 : ∀ r, r ≠ 4 → r ∉ [4] := fun r hr => by simp only [List.mem_singleton]; exact hr
  have TSB : TSh Γ MB t' := by rcases ht' with rfl | rfl; exact TS11 hG hCB; exact TS22 hG hCB
  have LB1 : LF Γ MB t' := ⟨hG, TSB, ht', rB11, rB10, CR3_3 hCB, CR3_4 hCB, CR3_5 hCB, CR3_6 hCB⟩
  have KB : CK MB t' b0 := by
    refine KA.eqs (fun r hr => ?_) (fun k _ => ?_)
    · have hr4 : r ≠ 4 := by simp only [List.mem_cons, List.not_mem_nil, or_false] at hr; omega
      exact ⟨FB.i (n4 r hr4), FB.l (n4 r hr4)⟩
    · rw [FB.i (n4 3 (by decide))]; rfl
  have SB : CS MB bs (0, 0, 0) := ⟨TB, Nat.zero_le _, CR3_2 hCB, by rw [FB.i (n4 3 (by decide))]; exact fA, fun q => absurd rfl q, Nat.zero_le _⟩
  show wp (f_X4_reads_17 (f_X4_reads_140 Γ) Γ rhFU MB 3 (J (0 : Nat))) _
  refine c_reads_17 1600 0 rhFU MB (0, 0, 0) b0 (by omega) (by omega) LB1 SB (KB.cf PW_0) (fun _ => ⟨KB, PW_0⟩) (fun MC FC hCF hs hK => ?_)
  obtain ⟨s', hS, es⟩ := hs
  have es : s'.2 = (read bs).1.2 := es
  have hK : rdK bs = 0 → CK MC t' (read bs).2 := hK
  have ek : s'.2.1 = rdK bs := by rw [es]; rfl
  have kpC : KP [0, 2, 3] M MC := kpB.trans (by rcases ht' with rfl | rfl <;> exact KP.fr FC (by decide))
  have kcC : KC M MC := kcB.trans (by rcases ht' with rfl | rfl <;> exact KC.fr FC (by decide))
  have hCC := hC.kp kpC (by decide)
  have TCt : TC MC t T := by
    have h1 : TC MA t T := TC.fr (M := rhsr (rhsr M 3 10 t') 3 11 (t' + 6)) hT.2.2.2 FA (by rcases hT.1 with ⟨rfl, rfl⟩ | ⟨rfl, rfl⟩ <;> decide)
    have h2 : TC MB t T := TC.fr (M := rhsr MA 4 1 2) h1 FB (by rcases hT.1 with ⟨rfl, rfl⟩ | ⟨rfl, rfl⟩ <;> decide)
    exact h2.fr FC (by rcases hT.1 with ⟨rfl, rfl⟩ | ⟨rfl, rfl⟩ <;> decide)
  have r10 : MC.2.2 3 10 = t' := by rw [FC.1]; exact rB10
  have c2C : C2 MC (rdK bs) (rdP bs) := ⟨by rw [← ek]; exact hS.2.2.2.1, fun q => by
    have := hS.2.2.2.2.1 (by rw [ek]; exact q)
    rw [this, es]; rfl⟩
  have hle : rdK bs ≤ 6 := by rw [← ek]; exact hS.2.2.2.2.2
  have hfin : ∀ v : Int64, (rdK bs = 0 → v = jl (wn (fst (bT (read bs).2)))) → f_X4_firstWord Γ MC 3 = some v → wp (f_X4_reads_140 Γ MC 3) (fun r => r.1 = (if rdK bs = 0 then 1 else 0) ∧ KP [0, 2, 3] M r.2 ∧ KC M r.2 ∧ C2 r.2 (rdK bs) (rdP bs) ∧ rdK bs ≤ 6 ∧ C3 r.2 t t' T ∧ (rdK bs = 0 → TC r.2 t' (bT (read bs).2) ∧ PW (read bs).2)) := fun v hv ev => by
    rw [f_X4_reads_140, wp_ck_t (GKk3 hG), wp_bind, ev, wp_some, r10, wp_ck_t hTS.1]
    have kpD : KP [0, 2, 3] M (rhsl MC t' 5 v) := kpC.sl v (by rcases ht' with rfl | rfl <;> decide)
    have kcD : KC M (rhsl MC t' 5 v) := kcC.sl v (by omega)
    have hne : t ≠ t' := by rcases hT.1 with ⟨rfl, rfl⟩ | ⟨rfl, rfl⟩ <;> decide
    have Tt : TC (rhsl MC t' 5 v) t T := by
      unfold TC at TCt ⊢
      rw [sl_1, sl_2, if_neg (fun q => hne q.1)]; exact TCt
    have c3D : C3 (rhsl MC t' 5 v) t t' T := by
      refine ⟨hT.1, ?_, ?_, Tt⟩
      · show MC.2.2 1 3 = t
        rw [FC.1, FB.1, sr_ne (by omega), FA.1, sr_ne (by omega), sr_ne (by omega)]; exact hT.2.1
      · show MC.2.2 1 4 = t'
        rw [FC.1, FB.1, sr_ne (by omega), FA.1, sr_ne (by omega), sr_ne (by omega)]; exact hT.2.2.1
    have gd : rdK bs = 0 → TC (rhsl MC t' 5 v) t' (bT (read bs).2) ∧ PW (read bs).2 := fun g => by
      have hP : PW (read bs).2 := pw_lines 1600 _ PW_0 g
      obtain ⟨⟨k0, k1, k2, k3, k4⟩, ⟨kn1, kn2⟩, kl, ks, kw, kh, kr, kc, kf⟩ := hK g
      have h8 := hP.1.2.1
      refine ⟨⟨k0, k1, k2, k3, ?_, kl, fun S hS => (ks S hS).1, fun S hS => (ks S hS).2, fun x y hx hy => (kw x y (Nat.lt_of_lt_of_le hx h8) (Nat.lt_of_lt_of_le hy h8)).1, kc.1, kc.2.1, kc.2.2.1, kc.2.2.2⟩, hP⟩
      rw [sl_2, if_pos ⟨rfl, rfl⟩]; exact hv g
    have fi : (MC.1 3 0 = 0) = (rdK bs = 0) := by rw [fault_if hS, ek]
    by_cases g : rdK bs = 0
    · rw [wp_ite_t (by rw [fi]; exact g), wp_some]
      exact ⟨by rw [if_pos g], kpD, kcD, c2C, hle, c3D, gd⟩
    · rw [wp_ite_f (by rw [fi]; exact g), wp_some]
      exact ⟨by rw [if_neg g], kpD, kcD, c2C, hle, c3D, gd⟩
  by_cases g : rdK bs = 0
  · exact hfin _ (fun _ => rfl) (c_firstOk hG hTS.1 r10 (CR3_5 hCC) (hK g) (pw_lines 1600 _ PW_0 g))
  · obtain ⟨v, ev⟩ := c_firstAny hG hTS.1 r10 (CR3_5 hCC) hCF
    exact hfin v (fun q => absurd q g) ev
end
