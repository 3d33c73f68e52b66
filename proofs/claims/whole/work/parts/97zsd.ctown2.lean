section
variable {Γ : rhG} {M : rhM} {t t' : Nat} {T : Tn} {bs : List Int32}
def KA : List Nat := [0, 1, 2, 3, 4, 5, 6, 7, 8, 9, 10, 13]
theorem c_boxes (hG : GK Γ) : ∀ (d n : Nat) (M : rhM) (k : Nat), CR M → k + d = 3 → d < n → (∀ j, j < k → M.2.1 53 j = -1) → wp (f_X11_beginTown_58 Γ n M 1 (J k)) (fun M' => Fr [53] M M' ∧ ∀ j, j < 3 → M'.2.1 53 j = -1) := by
  intro d
  induction d with
  | zero =>
    intro n M k hC hk hn hz
    obtain ⟨n, rfl⟩ : ∃ k, n = k + 1 := ⟨n - 1, by omega⟩
    rw [f_X11_beginTown_58, wp_ite_f (by rw [show (3 : Int32) = J 3 from rfl, J_lt (by omega) (by omega) (by omega) (by omega)]; omega), wp_some]
    exact ⟨Fr.refl _ _, fun j hj => hz j (by omega)⟩
  | succ d ih =>
    intro n M k hC hk hn hz
    obtain ⟨n, rfl⟩ : ∃ k, n = k + 1 := ⟨n - 1, by omega⟩
    rw [f_X11_beginTown_58, wp_ite_t (by rw [show (3 : Int32) = J 3 from rfl, J_lt (by omega) (by omega) (by omega) (by omega)]; omega), wp_ck_t (GKk1 hG), CR1_12 hC, wp_ck_t (GKk53 hG), wp_ck_t (by rw [GKl53 hG, J_toInt (by omega) (by omega)]; omega), J_clamp (by omega) (by omega), Int.toNat_natCast]
    show wp (f_X11_beginTown_58 Γ n (rhsl M 53 k (-1)) 1 (J k + 1)) _
    rw [show J k + 1 = J ((k + 1 : Nat) : Int) by rw [show (1 : Int32) = J 1 from rfl, J_add, J_suc]]
    have F : Fr [53] M (rhsl M 53 k (-1)) := (Fr.refl _ _).sl (by simp) _ _
    refine (ih n (rhsl M 53 k (-1)) (k + 1) hC (by omega) (by omega) (fun j hj => ?_)).mono (fun M' z => ⟨F.trans z.1, z.2⟩)
    rw [sl_2]
    by_cases c : j = k
    · rw [if_pos ⟨rfl, c⟩]
    · rw [if_neg (fun q => c q.2)]; exact hz j (by omega)
theorem c_beginTown (hG : GK Γ) (hC : CR M) (hT : C3 M t t' T) (hw : TWf T) (hRH : 0 < tH T → 0 < tR T) {ly : List Nat} (hD : CD Γ M ly) : wp (f_X11_beginTown Γ M 1) (fun x => KP [4, 5, 6, 7, 8, 9, 10, 13] M x ∧ KC M x ∧ C4 x (tR T) (fst T) ∧ C5 x [] ∧ C6 x [] ∧ C7 x [] ∧ C9 x (fun _ => none) ∧ C10 x [] ∧ C13 x T [] ∧ CD Γ x []) := by
  have hbig := FU_big
  rw [f_X11_beginTown, wp_ck_t (GKk1 hG), hT.2.1, wp_ck_t (hT.ts hG hC).1, CR1_5 hC, wp_ck_t (GKk33 hG), show M.2.1 t 5 = jl (wn (fst T)) from hT.2.2.2.2.2.2.2.1, wp_bind]
  refine (c_look33 hG hC hT hw hRH (fst_WA T hw)).mono (fun M1 z => ?_)
  obtain ⟨k1, kc1, h4⟩ := z
  have hC1 := hC.kp k1 (by decide)
  have hD1 := hD.kp k1 (by decide) (by decide)
  rw [CR1_7 hC1, wp_ck_t (GKk47 hG), wp_bind, c_clear (GKk47 hG), wp_some]
  have k2 : KP [5] M1 (rhsi (rhsi M1 47 1 0) 47 2 0) := ((KP.refl _ _).si _ (by decide)).si _ (by decide)
  have kc2 : KC M1 (rhsi (rhsi M1 47 1 0) 47 2 0) := ((KC.refl _).si _ (by decide)).si _ (by decide)
  have h5 : C5 (rhsi (rhsi M1 47 1 0) 47 2 0) [] := ⟨by rw [si_1, if_neg (by omega), si_1, if_pos ⟨rfl, rfl⟩]; rfl, by rw [si_1, if_pos ⟨rfl, rfl⟩]; rfl, trivial⟩
  generalize rhsi (rhsi M1 47 1 0) 47 2 0 = M2 at *
  have hC2 := hC1.kp k2 (by decide)
  have hD2 := hD1.kp k2 (by decide) (by decide)
  rw [CR1_8 hC2, wp_ck_t (GKk49 hG), wp_bind, c_clear (GKk49 hG), wp_some]
  have k3 : KP [6] M2 (rhsi (rhsi M2 49 1 0) 49 2 0) := ((KP.refl _ _).si _ (by decide)).si _ (by decide)
  have kc3 : KC M2 (rhsi (rhsi M2 49 1 0) 49 2 0) := ((KC.refl _).si _ (by decide)).si _ (by decide)
  have h6 : C6 (rhsi (rhsi M2 49 1 0) 49 2 0) [] := ⟨by rw [si_1, if_neg (by omega), si_1, if_pos ⟨rfl, rfl⟩]; rfl, trivial⟩
  generalize rhsi (rhsi M2 49 1 0) 49 2 0 = M3 at *
  have hC3 := hC2.kp k3 (by decide)
  have hD3 := hD2.kp k3 (by decide) (by decide)
  rw [CR1_9 hC3, wp_ck_t (GKk51 hG), wp_bind]
  refine (c_clear51 hG hD3).mono (fun M4 z => ?_)
  obtain ⟨k4, kc4, hD4⟩ := z
  have hC4 := hC3.kp k4 (by decide)
  show wp (rhck (Γ.2.2.1 (M4.2.2 1 14) = 7) <| (f_X6_clear Γ (rhsi (rhsl M4 1 10 0) 1 11 0) (M4.2.2 1 14)).bind fun r14 => f_X11_beginTown_58 Γ rhFU r14 1 (J (0 : Nat))) _
  rw [CR1_14 hC4, wp_ck_t (GKk55 hG), wp_bind, f_X6_clear, wp_ck_t (GKk55 hG)]
  have k5 : KP [7, 10] M4 (rhsi (rhsi (rhsl M4 1 10 0) 1 11 0) 55 0 0) := (((KP.refl _ _).sl _ (by decide)).si _ (by decide)).si _ (by decide)
  have kc5 : KC M4 (rhsi (rhsi (rhsl M4 1 10 0) 1 11 0) 55 0 0) := (((KC.refl _).sl _ (by decide)).si _ (by decide)).si _ (by decide)
  have h7 : C7 (rhsi (rhsi (rhsl M4 1 10 0) 1 11 0) 55 0 0) [] := ⟨by rw [si_1, if_neg (by omega), si_1, if_pos ⟨rfl, rfl⟩]; rfl, by rw [si_2, si_2, sl_2, if_pos ⟨rfl, rfl⟩]; rfl⟩
  have h10 : (rhsi (rhsi (rhsl M4 1 10 0) 1 11 0) 55 0 0).1 55 0 = J 0 := by rw [si_1, if_pos ⟨rfl, rfl⟩]; rfl
  show wp ((f_J7_fill_53178 Γ (rhsi (rhsi (rhsl M4 1 10 0) 1 11 0) 55 0 0) ((rhsi (rhsl M4 1 10 0) 1 11 0).2.2 55 12) ((-1) : Int32)).bind _) _
  rw [show (rhsi (rhsl M4 1 10 0) 1 11 0).2.2 55 12 = 65 from CR55_12 hC4]
  generalize rhsi (rhsi (rhsl M4 1 10 0) 1 11 0) 55 0 0 = M5 at *
  have hC5 := hC4.kp k5 (by decide)
  have hD5 := hD4.kp k5 (by decide) (by decide)
  rw [wp_bind]
  refine (c_fillJ (GKk65 hG) (GKl65 hG) (by decide) (-1) M5).mono (fun M6 z => ?_)
  obtain ⟨F6, h13⟩ := z
  have k6 : KP [13] M5 M6 := KP.fr F6 (by decide)
  have kc6 : KC M5 M6 := KC.fr F6 (by decide)
  have hC6 := hC5.kp k6 (by decide)
  have hD6 := hD5.kp k6 (by decide) (by decide)
  rw [wp_some]
  refine (c_boxes hG 3 rhFU M6 0 hC6 (by omega) (by omega) (fun j hj => by omega)).mono (fun M7 z => ?_)
  obtain ⟨F7, h9⟩ := z
  have k7 : KP [9] M6 M7 := KP.fr F7 (by decide)
  have kc7 : KC M6 M7 := KC.fr F7 (by decide)
  have K : ∀ {ids : List Nat} {A B : rhM}, KP ids A B → (∀ i, i ∈ ids → i ∈ [4, 5, 6, 7, 8, 9, 10, 13]) → KP [4, 5, 6, 7, 8, 9, 10, 13] A B := fun h hs => h.sub hs
  refine ⟨(K k1 (by decide)).trans ((K k2 (by decide)).trans ((K k3 (by decide)).trans ((K k4 (by decide)).trans ((K k5 (by decide)).trans ((K k6 (by decide)).trans (K k7 (by decide))))))), kc1.trans (kc2.trans (kc3.trans (kc4.trans (kc5.trans (kc6.trans kc7))))), ?_, ?_, ?_, ?_, ?_, ?_, ?_, ?_⟩
  · exact (((((h4.kp k2 (by decide)).kp k3 (by decide)).kp k4 (by decide)).kp k5 (by decide)).kp k6 (by decide)).kp k7 (by decide)
  · exact ((((h5.kp k3 (by decide)).kp k4 (by decide)).kp k5 (by decide)).kp k6 (by decide)).kp k7 (by decide)
  · exact (((h6.kp k4 (by decide)).kp k5 (by decide)).kp k6 (by decide)).kp k7 (by decide)
  · exact (h7.kp k6 (by decide)).kp k7 (by decide)
  · exact fun k hk => ⟨fun _ => h9 k hk, fun x h => by cases h⟩
  · have h10' : C10 M5 [] := ⟨h10, fun i s h => by simp at h⟩
    exact (h10'.kp k6 (by decide)).kp k7 (by decide)
  · have h13' : C13 M6 T [] := fun n hn => Or.inl (h13 n hn)
    exact h13'.kp k7 (by decide)
  · exact hD6.kp k7 (by decide) (by decide)
theorem c_town (hG : GK Γ) (hC : CR M) (hT : C3 M t t' T) (c1 : C1 M bs) (hl : bs.length ≤ 1600) (hb : ∀ z, z ∈ bs → -128 ≤ z.toInt ∧ z.toInt < 128) (c14 : C14 M) {ly : List Nat} (hD : CD Γ M ly) :
    wp (f_X11_town Γ M 1) (fun x => rdK bs ≤ 6 ∧ KP KA M x.2 ∧ KC M x.2 ∧ C1 x.2 [] ∧ C2 x.2 (rdK bs) (rdP bs) ∧
      (rdK bs ≠ 0 → x.1 = -1 ∧ KP [0, 1, 2, 3] M x.2 ∧ C3 x.2 t t' T) ∧
      (rdK bs = 0 → PW (read bs).2 ∧ x.1 = J (tH (bT (read bs).2)) ∧ C3 x.2 t' t (bT (read bs).2) ∧ C4 x.2 (tR (bT (read bs).2)) (fst (bT (read bs).2)) ∧ C5 x.2 [] ∧ C6 x.2 [] ∧ C7 x.2 [] ∧ C9 x.2 (fun _ => none) ∧ C10 x.2 [] ∧ C13 x.2 (bT (read bs).2) [] ∧ CD Γ x.2 [])) := by
  rw [f_X11_town, wp_ck_t (GKk1 hG), CR1_2 hC, wp_ck_t (GKk3 hG), CR1_0 hC, c1.1, hT.2.2.1, wp_bind]
  refine (c_reads hG hC hT c1 hl hb c14).mono (fun r z => ?_)
  obtain ⟨z1, z2, z3, z4, z5, z6, z7⟩ := z
  have k5 : KP [0, 1, 2, 3] M (rhsi r.2 1 1 0) := (z2.sub (by decide)).si _ (by decide)
  have kc5 : KC M (rhsi r.2 1 1 0) := z3.si _ (by decide)
  have c1' : C1 (rhsi r.2 1 1 0) [] := ⟨by rw [si_1, if_pos ⟨rfl, rfl⟩]; rfl, fun i b h => by simp at h⟩
  have kk : KP [1] r.2 (rhsi r.2 1 1 0) := (KP.refl _ _).si _ (by decide)
  have c2' := z4.kp kk (by decide)
  have c3' := z6.kp kk (by decide)
  have hD' : CD Γ (rhsi r.2 1 1 0) ly := hD.kp k5 (by decide) (by decide)
  have hC' := hC.kp k5 (by decide)
  have z7' : rdK bs = 0 → TC (rhsi r.2 1 1 0) t' (bT (read bs).2) ∧ PW (read bs).2 := fun g => by
    refine ⟨?_, (z7 g).2⟩
    have ht' : t' = 11 ∨ t' = 22 := by rcases hT.1 with ⟨-, e⟩ | ⟨-, e⟩ <;> simp [e]
    exact (z7 g).1.fr ((Fr.refl [1] r.2).si (by simp) _ _) (by rcases ht' with rfl | rfl <;> decide)
  have r3 : r.2.2.2 1 3 = t := z6.2.1
  have r4 : r.2.2.2 1 4 = t' := z6.2.2.1
  show wp (if r.1 = 0 then some ((-1), rhsi r.2 1 1 0) else (f_X11_beginTown Γ (rhsr (rhsr (rhsi r.2 1 1 0) 1 3 (r.2.2.2 1 4)) 1 4 (r.2.2.2 1 3)) 1).bind fun r10 => rhck (Γ.2.2.1 (r10.2.2 1 3) = 10) <| some ((r10.1 (r10.2.2 1 3) 1, r10))) _
  rw [r3, r4]
  generalize rhsi r.2 1 1 0 = M5 at *
  by_cases g : rdK bs = 0
  · rw [wp_ite_f (by rw [z1, if_pos g]; decide), wp_bind]
    obtain ⟨hTC, hP⟩ := z7' g
    obtain ⟨hw, hRH, -⟩ := PW_T hP
    have k9 : KP [0, 1, 2, 3] M (rhsr (rhsr M5 1 3 t') 1 4 t) := (k5.sr t' (by decide)).sr t (by decide)
    have k59 : KP [3] M5 (rhsr (rhsr M5 1 3 t') 1 4 t) := ((KP.refl _ _).sr t' (by decide)).sr t (by decide)
    have kc9 : KC M (rhsr (rhsr M5 1 3 t') 1 4 t) := (kc5.sr t' (by decide)).sr t (by decide)
    have c3n : C3 (rhsr (rhsr M5 1 3 t') 1 4 t) t' t (bT (read bs).2) := ⟨by rcases hT.1 with ⟨e1, e2⟩ | ⟨e1, e2⟩ <;> simp [e1, e2], by rw [sr_ne (by omega), sr_eq], by rw [sr_eq], hTC⟩
    have hC9 := hC.kp k9 (by decide)
    have hD9 : CD Γ (rhsr (rhsr M5 1 3 t') 1 4 t) ly := hD.kp k9 (by decide) (by decide)
    have c19 := c1'.kp k59 (by decide)
    have c29 := c2'.kp k59 (by decide)
    refine (c_beginTown hG hC9 c3n hw hRH hD9).mono (fun M10 q => ?_)
    obtain ⟨q1, q2, q3, q4, q5, q6, q7, q8, q9, q10⟩ := q
    have c3f := c3n.kp q1 (by decide)
    have hC10 := hC9.kp q1 (by decide)
    rw [c3f.2.1, wp_ck_t (c3f.ts hG hC10).1, wp_some]
    refine ⟨z5, (k9.sub (by decide)).trans (q1.sub (by decide)), kc9.trans q2, c19.kp q1 (by decide), c29.kp q1 (by decide), fun h => absurd g h, fun _ => ⟨hP, c3f.2.2.2.2.1, c3f, q3, q4, q5, q6, q7, q8, q9, q10⟩⟩
  · rw [wp_ite_t (by rw [z1, if_neg g]), wp_some]
    exact ⟨z5, k5.sub (by decide), kc5, c1', c2', fun _ => ⟨rfl, k5, c3'⟩, fun h => absurd h g⟩
end
