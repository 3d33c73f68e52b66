/-! SIMPLE CALLS -/
def endV (bs : List Int32) (z : Int) : Int × List Int32 := if 0 ≤ z ∧ z ≤ bs.length then (z, bs.take z.toNat) else (-1, bs)
def latV (tm : Nat) (z : Int) : Int × Nat := if 0 ≤ z ∧ z ≤ 1000 ∧ (tm : Int) + z ≤ 100000 then (tm + z, tm + z.toNat) else (-1, tm)
def fltV (fk fp : Nat) (z : Int) : Int := if z = 0 then fk else if z = 1 then (if fk = 0 then -1 else fp) else -1
def liesV (ly : List Nat) (z : Int) : Int := if 0 ≤ z ∧ z < ly.length then ly.getD z.toNat 0 else -1
theorem Bs_take {f : Nat → Int32} {bs : List Int32} (h : Bs f bs) (n : Nat) : Bs f (bs.take n) := by
  intro i b hb
  rw [List.getElem?_take] at hb
  split at hb
  · exact h i b hb
  · cases hb
section
variable {Γ : rhG} {M : rhM}
theorem m_isInJ {z a b : Int} (z1 : -2147483648 ≤ z) (z2 : z < 2147483648) (a1 : -2147483648 ≤ a) (a2 : a < 2147483648) (b1 : -2147483648 ≤ b) (b2 : b < 2147483648) : f_X12_isIn Γ M (J z) (J a) (J b) = some (bi (a ≤ z ∧ z ≤ b)) := by
  rw [m_isIn]
  by_cases c : z < a
  · rw [if_pos (by rw [J_lt z1 z2 a1 a2]; exact c), bi_f (by omega)]
  · rw [if_neg (by rw [J_lt z1 z2 a1 a2]; exact c)]
    by_cases c2 : b < z
    · rw [if_pos (by rw [J_lt b1 b2 z1 z2]; exact c2), bi_f (by omega)]
    · rw [if_neg (by rw [J_lt b1 b2 z1 z2]; exact c2), bi_t (by omega)]
theorem c_end (hG : GK Γ) {bs : List Int32} (h : C1 M bs) (hl : bs.length ≤ 1600) {z : Int} (z1 : -2147483648 ≤ z) (z2 : z < 2147483648) : wp (f_X11_end Γ M 1 (J z)) (fun r => r.1 = J (endV bs z).1 ∧ KP [1] M r.2 ∧ KC M r.2 ∧ C1 r.2 (endV bs z).2) := by
  obtain ⟨h1, h2⟩ := h
  unfold endV
  rw [f_X11_end]
  by_cases c : z < 0
  · rw [wp_ite_t (by rw [show (0 : Int32) = J 0 from rfl, J_lt (by omega) (by omega) (by omega) (by omega)]; omega), wp_some, if_neg (by omega)]
    exact ⟨rfl, KP.refl _ _, KC.refl _, h1, h2⟩
  · rw [wp_ite_f (by rw [show (0 : Int32) = J 0 from rfl, J_lt (by omega) (by omega) (by omega) (by omega)]; omega), wp_ck_t (GKk1 hG), h1]
    by_cases c2 : (bs.length : Int) < z
    · rw [wp_ite_t (by rw [J_lt (by omega) (by omega) (by omega) (by omega)]; omega), wp_some, if_neg (by omega)]
      exact ⟨rfl, KP.refl _ _, KC.refl _, h1, h2⟩
    · rw [wp_ite_f (by rw [J_lt (by omega) (by omega) (by omega) (by omega)]; omega), wp_some, if_pos (by omega)]
      refine ⟨rfl, (KP.refl _ _).si _ (by decide), (KC.refl _).si _ (by decide), ?_, ?_⟩
      · rw [si_1, if_pos ⟨rfl, rfl⟩, List.length_take]
        congr 1; omega
      · have : (rhsi M 1 1 (J z)).1 2 = M.1 2 := by funext k; rw [si_1, if_neg (by omega)]
        rw [this]; exact Bs_take h2 _
theorem r_end (hG : GK Γ) {bs : List Int32} (h : R1 M bs) (hl : bs.length ≤ 1600) {z : Int} (z1 : -2147483648 ≤ z) (z2 : z < 2147483648) : wp (f_X12_end Γ M 102 (J z)) (fun r => r.1 = J (endV bs z).1 ∧ KP [1] M r.2 ∧ KR M r.2 ∧ R1 r.2 (endV bs z).2) := by
  obtain ⟨h1, h2⟩ := h
  unfold endV
  rw [f_X12_end]
  by_cases c : z < 0
  · rw [wp_ite_t (by rw [show (0 : Int32) = J 0 from rfl, J_lt (by omega) (by omega) (by omega) (by omega)]; omega), wp_some, if_neg (by omega)]
    exact ⟨rfl, KP.refl _ _, KR.refl _, h1, h2⟩
  · rw [wp_ite_f (by rw [show (0 : Int32) = J 0 from rfl, J_lt (by omega) (by omega) (by omega) (by omega)]; omega), wp_ck_t (GKk102 hG), h1]
    by_cases c2 : (bs.length : Int) < z
    · rw [wp_ite_t (by rw [J_lt (by omega) (by omega) (by omega) (by omega)]; omega), wp_some, if_neg (by omega)]
      exact ⟨rfl, KP.refl _ _, KR.refl _, h1, h2⟩
    · rw [wp_ite_f (by rw [J_lt (by omega) (by omega) (by omega) (by omega)]; omega), wp_some, if_pos (by omega)]
      refine ⟨rfl, (KP.refl _ _).si _ (by decide), (KR.refl _).si _ (by decide), ?_, ?_⟩
      · rw [si_1, if_pos ⟨rfl, rfl⟩, List.length_take]
        congr 1; omega
      · have : (rhsi M 102 2 (J z)).1 103 = M.1 103 := by funext k; rw [si_1, if_neg (by omega)]
        rw [this]; exact Bs_take h2 _
theorem c_later (hG : GK Γ) {tm : Nat} (h : C11 M tm) (ht : tm ≤ 100000) {z : Int} (z1 : -2147483648 ≤ z) (z2 : z < 2147483648) : wp (f_X11_later Γ M 1 (J z)) (fun r => r.1 = J (latV tm z).1 ∧ KP [11] M r.2 ∧ KC M r.2 ∧ C11 r.2 (latV tm z).2) := by
  unfold C11 at h
  unfold latV
  have h0 : (J z < 0) = (z < 0) := by rw [show (0 : Int32) = J 0 from rfl, J_lt (by omega) (by omega) (by omega) (by omega)]
  have h10 : (1000 < J z) = (1000 < z) := by rw [show (1000 : Int32) = J 1000 from rfl, J_lt (by omega) (by omega) (by omega) (by omega)]
  rw [f_X11_later]
  by_cases c : z < 0
  · rw [wp_ite_t (by rw [h0]; exact c), wp_some, if_neg (by omega)]
    exact ⟨rfl, KP.refl _ _, KC.refl _, h⟩
  · rw [wp_ite_f (by rw [h0]; exact c)]
    by_cases c2 : 1000 < z
    · rw [wp_ite_t (by rw [h10]; exact c2), wp_some, if_neg (by omega)]
      exact ⟨rfl, KP.refl _ _, KC.refl _, h⟩
    · rw [wp_ite_f (by rw [h10]; exact c2), wp_ck_t (GKk1 hG), h, J_add]
      by_cases c3 : 100000 < (tm : Int) + z
      · rw [wp_ite_t (by rw [show (100000 : Int32) = J 100000 from rfl, J_lt (by omega) (by omega) (by omega) (by omega)]; omega), wp_some, if_neg (by omega)]
        exact ⟨rfl, KP.refl _ _, KC.refl _, h⟩
      · rw [wp_ite_f (by rw [show (100000 : Int32) = J 100000 from rfl, J_lt (by omega) (by omega) (by omega) (by omega)]; omega), wp_some, if_pos (by omega)]
        refine ⟨?_, (KP.refl _ _).si _ (by decide), (KC.refl _).si _ (by decide), ?_⟩
        · dsimp only; rw [si_1, if_pos ⟨rfl, rfl⟩]
        · unfold C11; dsimp only; rw [si_1, if_pos ⟨rfl, rfl⟩]; congr 1; omega
theorem r_later (hG : GK Γ) {tm : Nat} (h : R11 M tm) (ht : tm ≤ 100000) {z : Int} (z1 : -2147483648 ≤ z) (z2 : z < 2147483648) : wp (f_X12_later Γ M 102 (J z)) (fun r => r.1 = J (latV tm z).1 ∧ KP [11] M r.2 ∧ KR M r.2 ∧ R11 r.2 (latV tm z).2) := by
  unfold R11 at h
  unfold latV
  rw [f_X12_later, show (0 : Int32) = J 0 from rfl, show (1000 : Int32) = J 1000 from rfl, m_isInJ z1 z2 (by omega) (by omega) (by omega) (by omega), wp_bind, wp_some]
  by_cases c : 0 ≤ z ∧ z ≤ 1000
  · rw [bi_t c, wp_ite_f (by decide), wp_ck_t (GKk102 hG), h, J_add]
    by_cases c3 : 100000 < (tm : Int) + z
    · rw [wp_ite_t (by rw [show (100000 : Int32) = J 100000 from rfl, J_lt (by omega) (by omega) (by omega) (by omega)]; omega), wp_some, if_neg (by omega)]
      exact ⟨rfl, KP.refl _ _, KR.refl _, h⟩
    · rw [wp_ite_f (by rw [show (100000 : Int32) = J 100000 from rfl, J_lt (by omega) (by omega) (by omega) (by omega)]; omega), wp_some, if_pos (by omega)]
      refine ⟨?_, (KP.refl _ _).si _ (by decide), (KR.refl _).si _ (by decide), ?_⟩
      · dsimp only; rw [si_1, if_pos ⟨rfl, rfl⟩]
      · unfold R11; dsimp only; rw [si_1, if_pos ⟨rfl, rfl⟩]; congr 1; omega
  · rw [bi_f c, wp_ite_t (show (0 : Int32) = J 0 from rfl), wp_some, if_neg (by omega)]
    exact ⟨rfl, KP.refl _ _, KR.refl _, h⟩
theorem c_hush (hG : GK Γ) (hC : CR M) {tl : List Tr} (h : C6 M tl) : wp (f_X11_hush Γ M 1) (fun r => r.1 = J tl.length ∧ KP [6] M r.2 ∧ KC M r.2 ∧ C6 r.2 []) := by
  rw [f_X11_hush, wp_ck_t (GKk1 hG), CR1_8 hC, wp_ck_t (GKk49 hG)]
  dsimp only
  rw [f_X3_clear, wp_bind, wp_ck_t (GKk49 hG), wp_some, wp_some]
  refine ⟨h.1, ((KP.refl _ _).si _ (by decide)).si _ (by decide), ((KC.refl _).si _ (by decide)).si _ (by decide), ?_, trivial⟩
  dsimp only
  rw [si_1, if_neg (by omega), si_1, if_pos ⟨rfl, rfl⟩]; rfl
theorem r_hush (hG : GK Γ) {tl : List Tr} (h : R6 M tl) : wp (f_X12_hush Γ M 102) (fun r => r.1 = J tl.length ∧ KP [6] M r.2 ∧ KR M r.2 ∧ R6 r.2 []) := by
  rw [f_X12_hush, wp_ck_t (GKk102 hG)]
  dsimp only
  rw [wp_some]
  refine ⟨h.1, (KP.refl _ _).si _ (by decide), (KR.refl _).si _ (by decide), ?_, trivial⟩
  dsimp only
  rw [si_1, if_pos ⟨rfl, rfl⟩]; rfl
theorem c_open (hG : GK Γ) {gl : List Nat} (h : C7 M gl) : wp (f_X11_open Γ M 1) (fun r => r.1 = J gl.length ∧ KP [7] M r.2 ∧ KC M r.2 ∧ C7 r.2 []) := by
  rw [f_X11_open, wp_ck_t (GKk1 hG)]
  dsimp only
  rw [wp_some]
  refine ⟨h.1, ((KP.refl _ _).sl _ (by decide)).si _ (by decide), ((KC.refl _).sl _ (by decide)).si _ (by decide), ?_, ?_⟩
  · dsimp only; rw [si_1, if_pos ⟨rfl, rfl⟩]; rfl
  · dsimp only; rw [si_2, sl_2, if_pos ⟨rfl, rfl⟩]; rfl
theorem r_open (hG : GK Γ) {gl : List Nat} (h : R7 M gl) : wp (f_X12_open Γ M 102) (fun r => r.1 = J gl.length ∧ KP [7] M r.2 ∧ KR M r.2 ∧ R7 r.2 []) := by
  rw [f_X12_open, wp_ck_t (GKk102 hG)]
  dsimp only
  rw [wp_some]
  refine ⟨h.1, (KP.refl _ _).si _ (by decide), (KR.refl _).si _ (by decide), ?_, trivial⟩
  dsimp only
  rw [si_1, if_pos ⟨rfl, rfl⟩]; rfl
theorem J_eqc {z : Int} (z1 : -2147483648 ≤ z) (z2 : z < 2147483648) (c : Int) (c1 : -2147483648 ≤ c) (c2 : c < 2147483648) : (J z = J c) = (z = c) := J_eq z1 z2 c1 c2
theorem c_fault (hG : GK Γ) (hC : CR M) {fk fp : Nat} (h : C2 M fk fp) (hf : fk ≤ 6) {z : Int} (z1 : -2147483648 ≤ z) (z2 : z < 2147483648) : f_X11_fault Γ M 1 (J z) = some (J (fltV fk fp z)) := by
  obtain ⟨h1, h2⟩ := h
  unfold fltV
  rw [f_X11_fault, CR1_2 hC]
  by_cases c : z = 0
  · rw [if_pos (by rw [c]; rfl), rhck_t (GKk1 hG), rhck_t (GKk3 hG), h1, if_pos c]
  · rw [if_neg (by rw [show (0 : Int32) = J 0 from rfl, J_eq (by omega) (by omega) (by omega) (by omega)]; omega), if_neg c]
    by_cases c2 : z = 1
    · rw [if_pos (by rw [c2]; rfl), rhck_t (GKk1 hG), rhck_t (GKk3 hG), h1, if_pos c2]
      by_cases c3 : fk = 0
      · rw [if_pos (by rw [c3]; rfl), if_pos c3]; rfl
      · rw [if_neg (by rw [show (0 : Int32) = J 0 from rfl, J_eq (by omega) (by omega) (by omega) (by omega)]; omega), h2 c3, if_neg c3]
    · rw [if_neg (by rw [show (1 : Int32) = J 1 from rfl, J_eq (by omega) (by omega) (by omega) (by omega)]; omega), if_neg c2]; rfl
theorem r_fault (hG : GK Γ) {fk fp : Nat} (h : R2 M fk fp) (hf : fk ≤ 6) {z : Int} (z1 : -2147483648 ≤ z) (z2 : z < 2147483648) : f_X12_fault Γ M 102 (J z) = some (J (fltV fk fp z)) := by
  obtain ⟨h1, h2⟩ := h
  unfold fltV
  rw [f_X12_fault]
  by_cases c : z = 0
  · rw [if_pos (by rw [c]; rfl), rhck_t (GKk102 hG), h1, if_pos c]
  · rw [if_neg (by rw [show (0 : Int32) = J 0 from rfl, J_eq (by omega) (by omega) (by omega) (by omega)]; omega), if_neg c]
    by_cases c2 : z = 1
    · rw [if_pos (by rw [c2]; rfl), rhck_t (GKk102 hG), h2, if_pos c2]
      by_cases c3 : fk = 0
      · rw [if_pos c3, if_pos c3]
      · rw [if_neg c3, if_neg c3]
    · rw [if_neg (by rw [show (1 : Int32) = J 1 from rfl, J_eq (by omega) (by omega) (by omega) (by omega)]; omega), if_neg c2]; rfl
theorem r_lies (hG : GK Γ) (hR : MR M) {ly : List Nat} (h : R8 M ly) (hl : ly.length ≤ 60480) {z : Int} (z1 : -2147483648 ≤ z) (z2 : z < 2147483648) : f_X12_lies Γ M 102 (J z) = some (J (liesV ly z)) := by
  obtain ⟨h1, h2⟩ := h
  unfold liesV
  rw [f_X12_lies, rhck_t (GKk102 hG), h1, show (0 : Int32) = J 0 from rfl, show (1 : Int32) = J 1 from rfl, J_sub, m_isInJ z1 z2 (by omega) (by omega) (by omega) (by omega), Option.bind_some]
  by_cases c : 0 ≤ z ∧ z ≤ (ly.length : Int) - 1
  · have hg := Sg_get h2 (i := z.toNat) (by omega)
    rw [Nat.zero_add] at hg
    rw [bi_t c, if_neg (by decide), MRf65 hR, rhck_t (GKk145 hG), GKl145 hG, J_toInt (by omega) (by omega), rhck_t (by omega), J_clamp (by omega) (by omega), hg, if_pos (by omega)]
  · rw [bi_f c, if_pos (show (0 : Int32) = J 0 from rfl), if_neg (by omega)]; rfl
end
