/-! CLASS: GOAL, SIGHT, UNTELL, IMAGE, BACK, FEED, ABOUT, LIES -/
theorem dg_snoc : ∀ (l : List Nat) (h : Nat), dg (l ++ [h]) = dg l + h * 2 ^ (4 * l.length)
  | [], h => by simp [dg]
  | x :: l, h => by
    rw [List.cons_append, dg, dg, dg_snoc l h, List.length_cons, show 4 * (l.length + 1) = 4 * l.length + 4 by omega, Nat.pow_add, show (2 : Nat) ^ 4 = 16 from rfl]
    have : h * (2 ^ (4 * l.length) * 16) = 16 * (h * 2 ^ (4 * l.length)) := by rw [← Nat.mul_assoc, Nat.mul_comm]
    omega
theorem J64 : ∀ h, h < 16 → (J (h : Nat)).toInt64 = jl h := by decide +kernel
theorem nar_b1 : ∀ v, v < 2 → vp_nar .boolean (J (v : Nat)) = J (v : Nat) := by decide +kernel
def goaOK (T : Tn) (gl : List Nat) (z : Int) : Prop := 0 ≤ z ∧ z < tH T ∧ z.toNat ∉ gl
noncomputable def goaV (T : Tn) (gl : List Nat) (z : Int) : Int := pick (goaOK T gl z) ((gl.length : Int) + 1) (-1)
noncomputable def goaL (T : Tn) (gl : List Nat) (z : Int) : List Nat := pick (goaOK T gl z) (gl ++ [z.toNat]) gl
def sigOK (T : Tn) (sg : List Si) (n h r : Int) : Prop := 0 ≤ n ∧ n ≤ 3 ∧ 0 ≤ h ∧ h < tH T ∧ 0 ≤ r ∧ r < tR T ∧ sg.length < 20
noncomputable def sigV (T : Tn) (sg : List Si) (n h r : Int) : Int := pick (sigOK T sg n h r) (sg.length : Int) (-1)
noncomputable def sigL (T : Tn) (sg : List Si) (n h r : Int) (v tm : Nat) : List Si := pick (sigOK T sg n h r) (sg ++ [((n.toNat, h.toNat, r.toNat), (v, tm, -1))]) sg
def untOK (sg : List Si) (z : Int) : Prop := 0 ≤ z ∧ ∃ s, sg[z.toNat]? = some s ∧ s.2.2.2 = -1
def untS (tm : Nat) (s : Si) : Si := (s.1, s.2.1, s.2.2.1, (tm : Int))
noncomputable def untL (sg : List Si) (z : Int) (tm : Nat) : List Si := pick (untOK sg z) (sg.modify z.toNat (untS tm)) sg
def imgV (bn : Bn) (z : Int) : Int := if 0 ≤ z ∧ z < 3 then bn.length else -1
def imgB (bx : Bx) (bn : Bn) (L : Ar) (z : Int) : Bx := if 0 ≤ z ∧ z < 3 then (fun k => if k = z.toNat then some (bn, L) else bx k) else bx
def bacX (bx : Bx) (z : Int) : Option (Bn × Ar) := if 0 ≤ z ∧ z < 3 then bx z.toNat else none
def by1 (x : Int32) (s : Nat) : Int32 := vp_nar .byte ((rhus x (J s)).toInt8.toInt32)
def by4 (x : Int32) : List Int32 := [by1 x 24, by1 x 16, by1 x 8, by1 x 0]
def fedV (bs : List Int32) : Int := if 1600 < bs.length + 20 then -1 else (bs.length + 20 : Nat)
def fedL (bs : List Int32) (a b c d e : Int32) : List Int32 := if 1600 < bs.length + 20 then bs else bs ++ by4 a ++ by4 b ++ by4 c ++ by4 d ++ by4 e
def aboV (T : Tn) (bn : Bn) (tl : List Tr) (gl : List Nat) (sg : List Si) (tm : Nat) (bs : List Int32) (ly : List Nat) (z : Int) : Int :=
  if z = 0 then tH T else if z = 1 then tR T else if z = 2 then bn.length else if z = 3 then tl.length else if z = 4 then gl.length else if z = 5 then sg.length else if z = 6 then tm else if z = 7 then bs.length else if z = 8 then wsum bn else if z = 9 then tU T else if z = 10 then ly.length else -1
theorem Bs_push {f g : Nat → Int32} {bs : List Int32} {v : Int32} (h : Bs f bs) (hg : ∀ i, i < bs.length → g i = f i) (hv : g bs.length = v) : Bs g (bs ++ [v]) := by
  intro i b hb
  by_cases c : i < bs.length
  · rw [List.getElem?_append_left c] at hb
    rw [hg i c]; exact h i b hb
  · rw [List.getElem?_append_right (by omega)] at hb
    have : i - bs.length = 0 := by
      by_cases c2 : i - bs.length = 0
      · exact c2
      · rw [List.getElem?_eq_none (by simp; omega)] at hb; cases hb
    have e : i = bs.length := by omega
    rw [this] at hb
    rw [e, hv]
    exact Option.some.inj hb
theorem rhcp_1 (M : rhM) (a b sp dp n r k : Nat) : (rhcp M a b sp dp n).1 r k = if r = b ∧ dp ≤ k ∧ k < dp + n then M.1 a (sp + (k - dp)) else M.1 r k := rfl
theorem KP.cp {ids : List Nat} {M M' : rhM} (h : KP ids M M') {a b sp dp n : Nat} (h1 : b ≠ 1) (h55 : b ≠ 55) (h102 : b ≠ 102) (hi : idl.getD b 12 ∈ ids) : KP ids M (rhcp M' a b sp dp n) := by
  obtain ⟨k1, k2, k3⟩ := h
  refine ⟨fun r k hn => ?_, k2, k3⟩
  rw [rhcp_1, if_neg (fun hx => hn (by rw [hx.1, idc_cell h1 h55 h102]; exact hi)), k1 r k hn]
theorem KC.cp {M M' : rhM} (h : KC M M') {a b sp dp n : Nat} (hb : b < 102 ∨ 165 ≤ b) : KC M (rhcp M' a b sp dp n) := by
  intro r h1 h2
  obtain ⟨k1, k2, k3⟩ := h r h1 h2
  refine ⟨?_, k2, k3⟩
  rw [← k1]
  funext k
  rw [rhcp_1, if_neg (by omega)]
section
variable {Γ : rhG} {M : rhM} {t t' : Nat} {T : Tn} {L : Ar}
theorem c_isIn2 (hG : GK Γ) {gl : List Nat} (h7 : C7 M gl) (hl : gl.length ≤ 8) (hg : ∀ h, h ∈ gl → h < 8) {z : Nat} (hz : z < 8) : ∀ (l : List Nat) (n k : Nat), gl.drop k = l → k + l.length = gl.length → l.length < n → f_X11_isInGoal_2 Γ M n 1 (J z) (J k) = some (bi (z ∈ l)) := by
  intro l
  induction l with
  | nil =>
    intro n k hd hk hn
    obtain ⟨n, rfl⟩ : ∃ k, n = k + 1 := ⟨n - 1, by omega⟩
    rw [List.length_nil] at hk
    rw [f_X11_isInGoal_2, rhck_t (GKk1 hG), h7.1, if_neg (by rw [J_lt (by omega) (by omega) (by omega) (by omega)]; omega), bi_f (by simp)]
  | cons x l ih =>
    intro n k hd hk hn
    obtain ⟨n, rfl⟩ : ∃ k, n = k + 1 := ⟨n - 1, by omega⟩
    rw [List.length_cons] at hk hn
    have hkl : k < gl.length := by omega
    have hdr := List.drop_eq_getElem_cons hkl
    rw [hd] at hdr
    have hx := (List.cons.inj hdr).1.symm
    have hx8 := hg x (by rw [← hx]; exact List.getElem_mem hkl)
    rw [f_X11_isInGoal_2, rhck_t (GKk1 hG), h7.1, if_pos (by rw [J_lt (by omega) (by omega) (by omega) (by omega)]; omega), h7.2, c_digit (fun x hx => by have := hg x hx; omega) (by omega) (by omega), Option.bind_some, gd_el _ hkl, hx]
    by_cases c : x = z
    · rw [if_pos (by rw [c]), bi_t (by simp [c])]
    · rw [if_neg (by rw [J_eq (by omega) (by omega) (by omega) (by omega)]; omega)]
      dsimp only
      rw [show (1 : Int32) = J 1 from rfl, J_add, J_suc, ih n (k + 1) (List.cons.inj hdr).2.symm (by omega) (by omega)]
      by_cases c2 : z ∈ l
      · rw [bi_t c2, bi_t (List.mem_cons_of_mem _ c2)]
      · rw [bi_f c2, bi_f (fun h => (List.mem_cons.mp h).elim (fun e => c e.symm) c2)]
theorem nd8 {gl : List Nat} {H : Nat} (hn : gl.Nodup) (hg : ∀ h, h ∈ gl → h < H) : gl.length ≤ H := by
  have := hn.length_le_of_subset (l₂ := List.range H) (fun x hx => List.mem_range.mpr (hg x hx))
  rw [List.length_range] at this; exact this
theorem nd8s {gl : List Nat} {H z : Nat} (hn : gl.Nodup) (hg : ∀ h, h ∈ gl → h < H) (hz : z < H) (hzg : z ∉ gl) : gl.length + 1 ≤ H := by
  have := nd8 (gl := z :: gl) (H := H) (List.nodup_cons.mpr ⟨hzg, hn⟩) (fun x hx => (List.mem_cons.mp hx).elim (fun e => by omega) (hg x))
  rw [List.length_cons] at this; exact this
theorem c_goal (hG : GK Γ) (hC : CR M) (hT : C3 M t t' T) (hw : TWf T) {gl : List Nat} (h7 : C7 M gl) (hnd : gl.Nodup) (hg : ∀ h, h ∈ gl → h < tH T) {z : Int} (z1 : -2147483648 ≤ z) (z2 : z < 2147483648) : wp (f_X11_goal Γ M 1 (J z)) (fun r => r.1 = J (goaV T gl z) ∧ KP [7] M r.2 ∧ KC M r.2 ∧ C7 r.2 (goaL T gl z)) := by
  have w2 := hw.2.1
  have hl := nd8 hnd hg
  unfold goaV goaL
  rw [f_X11_goal, wp_ck_t (GKk1 hG), c_isHouse hG hC hT hw z1 z2, wp_bind, wp_some]
  by_cases c : 0 ≤ z ∧ z < tH T
  · rw [bi_t c, wp_ite_f (by decide)]
    obtain ⟨n, rfl⟩ : ∃ n : Nat, z = n := ⟨z.toNat, by omega⟩
    rw [Int.toNat_natCast, f_X11_isInGoal]
    have hi := c_isIn2 (z := n) hG h7 (by omega) (fun h hh => by have := hg h hh; omega) (by omega) gl rhFU 0 rfl (by omega) (by have := FU_big; omega)
    rw [show ((0 : Nat) : Int) = 0 from rfl] at hi
    rw [show (0 : Int32) = J 0 from rfl, hi, wp_bind, wp_some]
    by_cases c2 : n ∈ gl
    · rw [bi_t c2, wp_ite_f (by decide), wp_some, pick_f (by unfold goaOK; rw [Int.toNat_natCast]; exact fun h => h.2.2 c2), pick_f (by unfold goaOK; rw [Int.toNat_natCast]; exact fun h => h.2.2 c2)]
      exact ⟨rfl, KP.refl _ _, KC.refl _, h7⟩
    · have hs := nd8s hnd hg (by omega) c2
      have hok : goaOK T gl (n : Int) := by unfold goaOK; rw [Int.toNat_natCast]; exact ⟨c.1, c.2, c2⟩
      rw [bi_f c2, wp_ite_t (show (0 : Int32) = J 0 from rfl), h7.1, wp_ite_t (by rw [show (8 : Int32) = J 8 from rfl, J_lt (by omega) (by omega) (by omega) (by omega)]; omega), pick_t hok, pick_t hok]
      dsimp only
      rw [h7.2, J64 n (by omega), show (4 : Int32) = J 4 from rfl, J_mul, show (4 : Int) * (gl.length : Int) = ((4 * gl.length : Nat) : Int) by omega, jl_shl n (by omega), jl_or, Nat.shiftLeft_eq, wp_some]
      have hb : dg gl < 2 ^ (4 * gl.length) := dg_lt (fun x hx => by have := hg x hx; omega)
      have e : dg gl ||| n * 2 ^ (4 * gl.length) = dg (gl ++ [n]) := by
        rw [dg_snoc, Nat.or_comm, Nat.mul_comm n, ← Nat.two_pow_add_eq_or_of_lt hb]; omega
      rw [e]
      refine ⟨?_, ((KP.refl _ _).sl _ (by decide)).si _ (by decide), ((KC.refl _).sl _ (by decide)).si _ (by decide), ?_, ?_⟩
      · dsimp only; rw [si_1, if_pos ⟨rfl, rfl⟩, show (1 : Int32) = J 1 from rfl, J_add]
      · dsimp only; rw [si_1, if_pos ⟨rfl, rfl⟩, show (1 : Int32) = J 1 from rfl, J_add, List.length_append]; rfl
      · dsimp only; rw [si_2, sl_2, if_pos ⟨rfl, rfl⟩]
  · rw [bi_f c, wp_ite_t rfl, wp_some, pick_f (by unfold goaOK; omega), pick_f (by unfold goaOK; omega)]
    exact ⟨rfl, KP.refl _ _, KC.refl _, h7⟩
theorem c_sight (hG : GK Γ) (hC : CR M) (hT : C3 M t t' T) (hw : TWf T) {sg : List Si} (h10 : C10 M sg) (hl : sg.length ≤ 20) {tm : Nat} (h11 : C11 M tm) {n : Int} (n1 : -2147483648 ≤ n) (n2 : n < 2147483648) {h : Int} (h1 : -2147483648 ≤ h) (h2 : h < 2147483648) {r : Int} (r1 : -2147483648 ≤ r) (r2 : r < 2147483648) {v : Nat} (hv : v < 2) : wp (f_X11_sight Γ M 1 (J n) (J h) (J r) (J v)) (fun x => x.1 = J (sigV T sg n h r) ∧ KP [10] M x.2 ∧ KC M x.2 ∧ C10 x.2 (sigL T sg n h r v tm)) := by
  unfold sigV sigL
  rw [f_X11_sight]
  by_cases c : n < 0
  · rw [wp_ite_t (by rw [show (0 : Int32) = J 0 from rfl, J_lt (by omega) (by omega) (by omega) (by omega)]; exact c), wp_some, pick_f (by unfold sigOK; omega), pick_f (by unfold sigOK; omega)]
    exact ⟨rfl, KP.refl _ _, KC.refl _, h10⟩
  rw [wp_ite_f (by rw [show (0 : Int32) = J 0 from rfl, J_lt (by omega) (by omega) (by omega) (by omega)]; exact c)]
  by_cases c2 : 3 < n
  · rw [wp_ite_t (by rw [show (3 : Int32) = J 3 from rfl, J_lt (by omega) (by omega) (by omega) (by omega)]; exact c2), wp_some, pick_f (by unfold sigOK; omega), pick_f (by unfold sigOK; omega)]
    exact ⟨rfl, KP.refl _ _, KC.refl _, h10⟩
  rw [wp_ite_f (by rw [show (3 : Int32) = J 3 from rfl, J_lt (by omega) (by omega) (by omega) (by omega)]; exact c2), wp_ck_t (GKk1 hG), c_isHouse hG hC hT hw h1 h2, wp_bind, wp_some]
  by_cases c3 : 0 ≤ h ∧ h < tH T
  · rw [bi_t c3, wp_ite_f (by decide), c_isRail hG hC hT hw r1 r2, wp_bind, wp_some]
    by_cases c4 : 0 ≤ r ∧ r < tR T
    · rw [bi_t c4, wp_ite_f (by decide), CR1_14 hC, wp_ck_t (GKk55 hG), wp_bind, f_X6_add, wp_ck_t (GKk55 hG), h10.1, show M.1 1 16 = J tm from h11]
      by_cases c5 : sg.length < 20
      · obtain ⟨n, rfl⟩ : ∃ k : Nat, n = k := ⟨n.toNat, by omega⟩
        obtain ⟨h, rfl⟩ : ∃ k : Nat, h = k := ⟨h.toNat, by omega⟩
        obtain ⟨r, rfl⟩ : ∃ k : Nat, r = k := ⟨r.toNat, by omega⟩
        have hok : sigOK T sg (n : Int) h r := by unfold sigOK; omega
        rw [wp_ite_t (by rw [show (20 : Int32) = J 20 from rfl, J_lt (by omega) (by omega) (by omega) (by omega)]; omega), CR55_1 hC, CR55_2 hC, CR55_3 hC, CR55_4 hC, CR55_5 hC, CR55_6 hC, wp_ck_t (GKk56 hG), pick_t hok, pick_t hok, Int.toNat_natCast, Int.toNat_natCast, Int.toNat_natCast]
        have hk : (J sg.length).toNatClampNeg = sg.length := by rw [J_clamp (by omega) (by omega), Int.toNat_natCast]
        have hr : 0 ≤ (J sg.length).toInt ∧ (J sg.length).toInt < ((20 : Nat) : Int) := by rw [J_toInt (by omega) (by omega)]; omega
        rw [GKl56 hG, wp_ck_t hr, hk]
        simp only [si_1, Nat.reduceEqDiff, false_and, if_false, h10.1, GKl57 hG, GKl58 hG, GKl59 hG, GKl60 hG, GKl61 hG, wp_ck_t (GKk57 hG), wp_ck_t (GKk58 hG), wp_ck_t (GKk59 hG), wp_ck_t (GKk60 hG), wp_ck_t (GKk61 hG), wp_ck_t hr, hk, wp_some, and_self, if_true]
        rw [nar_b1 v hv]
        refine ⟨by rw [show (1 : Int32) = J 1 from rfl, J_add, J_sub]; congr 1; omega, (((((((KP.refl _ _).si _ (by rw [idc_cell (by decide) (by decide) (by decide)]; decide)).si _ (by rw [idc_cell (by decide) (by decide) (by decide)]; decide)).si _ (by rw [idc_cell (by decide) (by decide) (by decide)]; decide)).si _ (by rw [idc_cell (by decide) (by decide) (by decide)]; decide)).si _ (by rw [idc_cell (by decide) (by decide) (by decide)]; decide)).si _ (by rw [idc_cell (by decide) (by decide) (by decide)]; decide)).si _ (by decide), (((((((KC.refl _).si _ (by decide)).si _ (by decide)).si _ (by decide)).si _ (by decide)).si _ (by decide)).si _ (by decide)).si _ (by decide), ?_, fun i s hs => ?_⟩
        · rw [si_1, if_pos ⟨rfl, rfl⟩, show (1 : Int32) = J 1 from rfl, J_add, List.length_append]; rfl
        · by_cases ci : i < sg.length
          · rw [List.getElem?_append_left ci] at hs
            have hne : ¬ i = sg.length := by omega
            simp only [si_1, Nat.reduceEqDiff, false_and, if_false, true_and, hne]
            exact h10.2 i s hs
          · have e : i = sg.length := by
              by_cases c6 : i - sg.length = 0
              · omega
              · rw [List.getElem?_append_right (by omega), List.getElem?_eq_none (by simp; omega)] at hs; cases hs
            rw [e, List.getElem?_append_right (by omega), Nat.sub_self] at hs
            have hs2 := Option.some.inj hs
            rw [e, ← hs2]
            simp only [si_1, Nat.reduceEqDiff, false_and, if_false, true_and, if_true]
            exact rfl
      · rw [wp_ite_f (by rw [show (20 : Int32) = J 20 from rfl, J_lt (by omega) (by omega) (by omega) (by omega)]; omega), wp_some, wp_some, pick_f (by unfold sigOK; omega), pick_f (by unfold sigOK; omega)]
        exact ⟨rfl, KP.refl _ _, KC.refl _, h10⟩
    · rw [bi_f c4, wp_ite_t rfl, wp_some, pick_f (by unfold sigOK; omega), pick_f (by unfold sigOK; omega)]
      exact ⟨rfl, KP.refl _ _, KC.refl _, h10⟩
  · rw [bi_f c3, wp_ite_t rfl, wp_some, pick_f (by unfold sigOK; omega), pick_f (by unfold sigOK; omega)]
    exact ⟨rfl, KP.refl _ _, KC.refl _, h10⟩
theorem C10.unt {sg : List Si} (h10 : C10 M sg) {z tm : Nat} {s : Si} (hs : sg[z]? = some s) {M' : rhM} (h0 : M'.1 55 0 = M.1 55 0) (h5 : ∀ r, 56 ≤ r → r ≤ 60 → M'.1 r = M.1 r) (h6 : ∀ i, M'.1 61 i = if i = z then J tm else M.1 61 i) : C10 M' (sg.modify z (untS tm)) := by
  refine ⟨by rw [h0, h10.1, List.length_modify], fun i x hx => ?_⟩
  rw [h5 56 (by omega) (by omega), h5 57 (by omega) (by omega), h5 58 (by omega) (by omega), h5 59 (by omega) (by omega), h5 60 (by omega) (by omega), h6]
  rw [List.getElem?_modify] at hx
  by_cases c : z = i
  · subst c
    rw [hs] at hx
    simp at hx
    rw [← hx, if_pos rfl]
    have := h10.2 z s hs
    exact ⟨this.1, this.2.1, this.2.2.1, this.2.2.2.1, this.2.2.2.2.1, rfl⟩
  · simp [c] at hx
    rw [if_neg (fun e => c e.symm)]
    exact h10.2 i x hx
theorem c_untell (hG : GK Γ) (hC : CR M) {sg : List Si} (h10 : C10 M sg) (hl : sg.length ≤ 20) {tm : Nat} (h11 : C11 M tm) (hsg : ∀ s, s ∈ sg → -1 ≤ s.2.2.2 ∧ s.2.2.2 ≤ 100000) {z : Int} (z1 : -2147483648 ≤ z) (z2 : z < 2147483648) : wp (f_X11_untell Γ M 1 (J z)) (fun x => x.1 = bi (untOK sg z) ∧ KP [10] M x.2 ∧ KC M x.2 ∧ C10 x.2 (untL sg z tm)) := by
  unfold untL
  rw [f_X11_untell, wp_ck_t (GKk1 hG), CR1_14 hC, wp_ck_t (GKk55 hG), wp_bind, f_X6_remove]
  have hf : ∀ (h : ¬ untOK sg z), (((0 : Int32), M).1 = bi (untOK sg z) ∧ KP [10] M ((0 : Int32), M).2 ∧ KC M ((0 : Int32), M).2 ∧ C10 ((0 : Int32), M).2 (pick (untOK sg z) (sg.modify z.toNat (untS tm)) sg)) := fun h => by
    rw [bi_f h, pick_f h]; exact ⟨rfl, KP.refl _ _, KC.refl _, h10⟩
  by_cases c : z < 0
  · rw [wp_ite_t (by rw [show (0 : Int32) = J 0 from rfl, J_lt (by omega) (by omega) (by omega) (by omega)]; exact c), wp_some, wp_ck_t (Or.inl rfl), wp_some]
    exact hf (fun h => by have := h.1; omega)
  rw [wp_ite_f (by rw [show (0 : Int32) = J 0 from rfl, J_lt (by omega) (by omega) (by omega) (by omega)]; exact c), wp_ck_t (GKk55 hG), h10.1]
  obtain ⟨n, rfl⟩ : ∃ n : Nat, z = n := ⟨z.toNat, by omega⟩
  by_cases c2 : n < sg.length
  · rw [wp_ite_t (by rw [J_lt (by omega) (by omega) (by omega) (by omega)]; omega), CR55_6 hC, wp_ck_t (GKk61 hG), wp_ck_t (by rw [GKl61 hG, J_toInt (by omega) (by omega)]; omega), J_clamp (by omega) (by omega), Int.toNat_natCast]
    have hs : sg[n]? = some sg[n] := List.getElem?_eq_getElem c2
    obtain ⟨b1, b2⟩ := hsg _ (List.getElem_mem c2)
    rw [(h10.2 n _ hs).2.2.2.2.2]
    by_cases c3 : (sg[n]).2.2.2 = -1
    · have hok : untOK sg (n : Int) := ⟨by omega, sg[n], by rw [Int.toNat_natCast]; exact hs, c3⟩
      rw [wp_ite_t (by rw [c3]; rfl), wp_some, wp_ck_t (Or.inr rfl), wp_some, bi_t hok, pick_t hok, show M.1 1 16 = J tm from h11]
      refine ⟨rfl, (KP.refl _ _).si _ (by rw [idc_cell (by decide) (by decide) (by decide)]; decide), (KC.refl _).si _ (by decide), h10.unt hs (by dsimp only; rw [si_1, if_neg (by omega)]) (fun r r1 r2 => by funext i; dsimp only; rw [si_1, if_neg (by omega)]) (fun i => ?_)⟩
      dsimp only
      rw [si_1]
      by_cases ci : i = n
      · rw [if_pos ⟨rfl, ci⟩, if_pos ci]
      · rw [if_neg (by omega), if_neg ci]
    · rw [wp_ite_f (by rw [show (-1 : Int32) = J (-1) from rfl, J_eq (by omega) (by omega) (by omega) (by omega)]; exact c3), wp_some, wp_ck_t (Or.inl rfl), wp_some]
      exact hf (fun h => by
        obtain ⟨-, s, h1, h2⟩ := h
        rw [Int.toNat_natCast, hs] at h1
        rw [← Option.some.inj h1] at h2
        exact c3 h2)
  · rw [wp_ite_f (by rw [J_lt (by omega) (by omega) (by omega) (by omega)]; omega), wp_some, wp_ck_t (Or.inl rfl), wp_some]
    exact hf (fun h => by
      obtain ⟨-, s, h1, h2⟩ := h
      rw [Int.toNat_natCast, List.getElem?_eq_none (by omega)] at h1; cases h1)
theorem c_widen0 {P A C n : Nat} (k : Γ.2.2.1 P = 4) (ha : M.2.2 P 0 = A) (kA : Γ.2.2.1 A = 15) (lA : Γ.2.2.2 A = C) (hC : C < 2147483648) (hnC : n ≤ C) : f_X3_widen Γ M P (J n) = some (Γ, M) := by
  rw [f_X3_widen, rhck_t k, ha, rhck_t kA, lA, show Int32.ofNat C = J C from Int32.ofInt_eq_ofNat.symm, if_neg (by rw [J_lt (by omega) (by omega) (by omega) (by omega)]; omega)]
theorem c_pcopy {P A C n P2 A2 C2 : Nat} (k : Γ.2.2.1 P = 4) (ha : M.2.2 P 0 = A) (kA : Γ.2.2.1 A = 15) (lA : Γ.2.2.2 A = C) (hC : C < 2147483648) (hnC : n ≤ C) (k2 : Γ.2.2.1 P2 = 4) (ha2 : M.2.2 P2 0 = A2) (kA2 : Γ.2.2.1 A2 = 15) (lA2 : Γ.2.2.2 A2 = C2) (hC2 : C2 < 2147483648) (hnC2 : n ≤ C2) (hn : M.1 P2 1 = J n) {v : Int32} (hv : M.1 P2 2 = v) : f_X3_copy Γ M P P2 = some (Γ, rhsi (rhsi (rhcp M A2 A 0 0 n) P 1 (J n)) P 2 v) := by
  have e1 : P2 ≠ A := by intro h; rw [h, kA] at k2; omega
  rw [f_X3_copy, rhck_t k2, rhck_t k, hn, c_widen0 k ha kA lA hC hnC, Option.bind_some]
  dsimp only
  rw [rhck_t k2, rhck_t k, ha, ha2, rhck_t kA2, rhck_t kA, hn, rhck_t (by rw [lA, lA2, J_toInt (by omega) (by omega)]; refine ⟨by decide, by decide, by omega, ?_, ?_⟩ <;> rw [show (0 : Int32).toInt = 0 from rfl] <;> omega), rhcp_1, if_neg (by omega), hn, si_1, if_neg (by omega), rhcp_1, if_neg (by omega), hv, J_clamp (by omega) (by omega), Int.toNat_natCast]
  rfl
theorem CR54 (hC : CR M) {k : Nat} (hk : k < 3) : M.2.2 54 k = 96 + 2 * k := by
  rcases (show k = 0 ∨ k = 1 ∨ k = 2 by omega) with rfl | rfl | rfl
  · exact CR54_0 hC
  · exact CR54_1 hC
  · exact CR54_2 hC
theorem CRbox (hC : CR M) {k : Nat} (hk : k < 3) : M.2.2 (96 + 2 * k) 0 = 97 + 2 * k := by
  rcases (show k = 0 ∨ k = 1 ∨ k = 2 by omega) with rfl | rfl | rfl
  · exact CR96_0 hC
  · exact CR98_0 hC
  · exact CR100_0 hC
theorem GKbox (hG : GK Γ) {k : Nat} (hk : k < 3) : Γ.2.2.1 (96 + 2 * k) = 4 ∧ Γ.2.2.1 (97 + 2 * k) = 15 ∧ Γ.2.2.2 (97 + 2 * k) = 300 := by
  rcases (show k = 0 ∨ k = 1 ∨ k = 2 by omega) with rfl | rfl | rfl
  · exact ⟨GKk96 hG, GKk97 hG, GKl97 hG⟩
  · exact ⟨GKk98 hG, GKk99 hG, GKl99 hG⟩
  · exact ⟨GKk100 hG, GKk101 hG, GKl101 hG⟩
theorem idl_box {k : Nat} (hk : k < 3) : idl.getD (96 + 2 * k) 12 = 9 ∧ idl.getD (97 + 2 * k) 12 = 9 := by
  rcases (show k = 0 ∨ k = 1 ∨ k = 2 by omega) with rfl | rfl | rfl <;> exact ⟨rfl, rfl⟩
theorem c_image (hG : GK Γ) (hC : CR M) (h4 : C4 M (tR T) L) {bn : Bn} (h5 : C5 M bn) (hb : bn.length ≤ 300) {bx : Bx} (h9 : C9 M bx) {z : Int} (z1 : -2147483648 ≤ z) (z2 : z < 2147483648) : wp (f_X11_image Γ M 1 (J z)) (fun r => r.1 = J (imgV bn z) ∧ r.2.1 = Γ ∧ KP [9] M r.2.2 ∧ KC M r.2.2 ∧ C9 r.2.2 (imgB bx bn L z)) := by
  unfold imgV imgB
  rw [f_X11_image]
  by_cases c : z < 0
  · rw [wp_ite_t (by rw [show (0 : Int32) = J 0 from rfl, J_lt (by omega) (by omega) (by omega) (by omega)]; exact c), wp_some, if_neg (by omega), if_neg (by omega)]
    exact ⟨rfl, rfl, KP.refl _ _, KC.refl _, h9⟩
  rw [wp_ite_f (by rw [show (0 : Int32) = J 0 from rfl, J_lt (by omega) (by omega) (by omega) (by omega)]; exact c)]
  by_cases c2 : z < 3
  · obtain ⟨k, rfl⟩ : ∃ k : Nat, z = k := ⟨z.toNat, by omega⟩
    have hk : k < 3 := by omega
    obtain ⟨b1, b2, b3⟩ := GKbox hG hk
    obtain ⟨d1, d2⟩ := idl_box hk
    rw [wp_ite_t (by rw [show (3 : Int32) = J 3 from rfl, J_lt (by omega) (by omega) (by omega) (by omega)]; exact c2), wp_ck_t (GKk1 hG), CR1_5 hC, wp_ck_t (GKk33 hG), CR1_12 hC, wp_ck_t (GKk53 hG), wp_ck_t (by rw [GKl53 hG, J_toInt (by omega) (by omega)]; omega), J_clamp (by omega) (by omega), Int.toNat_natCast, CR1_13 hC, wp_ck_t (GKk54 hG), wp_ck_t (by rw [GKl54 hG, J_toInt (by omega) (by omega)]; omega), CR54 hC hk, wp_ck_t b1, CR1_7 hC, h4.1, if_pos (by omega), if_pos (by omega), c_pcopy (v := J (wsum bn)) b1 (by rw [sl_3]; exact CRbox hC hk) b2 b3 (by omega) hb (GKk47 hG) (by rw [sl_3]; exact CR47_0 hC) (GKk48 hG) (GKl48 hG) (by omega) hb (by rw [sl_1]; exact h5.1) (by rw [sl_1]; exact h5.2.1), wp_bind, wp_some]
    have hkp : KP [9] M (rhsi (rhsi (rhcp (rhsl M 53 k (jl (wn L))) 48 (97 + 2 * k) 0 0 bn.length) (96 + 2 * k) 1 (J bn.length)) (96 + 2 * k) 2 (J (wsum bn))) := by
      refine (((KP.cp ((KP.refl _ _).sl _ (by rw [idL_cell (by decide) (by decide)]; decide)) (by omega) (by omega) (by omega) (by rw [d2]; decide))).si _ ?_).si _ ?_
      · rw [idc_cell (by omega) (by omega) (by omega), d1]; decide
      · rw [idc_cell (by omega) (by omega) (by omega), d1]; decide
    have hkc : KC M (rhsi (rhsi (rhcp (rhsl M 53 k (jl (wn L))) 48 (97 + 2 * k) 0 0 bn.length) (96 + 2 * k) 1 (J bn.length)) (96 + 2 * k) 2 (J (wsum bn))) := ((KC.cp ((KC.refl _).sl _ (by decide)) (by omega)).si _ (by omega)).si _ (by omega)
    obtain ⟨N, hN⟩ : ∃ N, N = rhsi (rhsi (rhcp (rhsl M 53 k (jl (wn L))) 48 (97 + 2 * k) 0 0 bn.length) (96 + 2 * k) 1 (J bn.length)) (96 + 2 * k) 2 (J (wsum bn)) := ⟨_, rfl⟩
    rw [← hN] at hkp hkc ⊢
    have hCN := hC.kp hkp (by decide)
    dsimp only
    rw [wp_ck_t (GKk1 hG), CR1_7 hCN, wp_ck_t (GKk47 hG), wp_some]
    refine ⟨?_, rfl, hkp, hkc, fun j hj => ?_⟩
    · dsimp only; rw [hN, si_1, if_neg (by omega), si_1, if_neg (by omega), rhcp_1, if_neg (by omega), sl_1, h5.1]
    · dsimp only
      rw [hN]
      by_cases cj : j = k
      · subst cj
        refine ⟨fun hx => ?_, fun x hx => ?_⟩
        · rw [if_pos rfl] at hx; cases hx
        · rw [if_pos rfl] at hx
          rw [← Option.some.inj hx]
          refine ⟨by rw [si_2, si_2]; show (rhsl M 53 j (jl (wn L))).2.1 53 j = _; rw [sl_2, if_pos ⟨rfl, rfl⟩], ?_, ?_, ?_⟩
          · rw [si_1, if_neg (by omega), si_1, if_pos ⟨rfl, rfl⟩]
          · rw [si_1, if_pos ⟨rfl, rfl⟩]
          · refine Sg_cong _ 0 (fun i _ hi => ?_) h5.2.2
            rw [bcd_len, Nat.zero_add] at hi
            dsimp only at hi
            rw [si_1, if_neg (by omega), si_1, if_neg (by omega), rhcp_1, if_pos ⟨rfl, by omega, by omega⟩, sl_1, Nat.zero_add, Nat.sub_zero]
      · have e53 : (rhsi (rhsi (rhcp (rhsl M 53 k (jl (wn L))) 48 (97 + 2 * k) 0 0 bn.length) (96 + 2 * k) 1 (J bn.length)) (96 + 2 * k) 2 (J (wsum bn))).2.1 53 j = M.2.1 53 j := by
          rw [si_2, si_2]; show (rhsl M 53 k (jl (wn L))).2.1 53 j = _; rw [sl_2, if_neg (by omega)]
        have eo : ∀ i, (rhsi (rhsi (rhcp (rhsl M 53 k (jl (wn L))) 48 (97 + 2 * k) 0 0 bn.length) (96 + 2 * k) 1 (J bn.length)) (96 + 2 * k) 2 (J (wsum bn))).1 (96 + 2 * j) i = M.1 (96 + 2 * j) i := fun i => by
          rw [si_1, if_neg (by omega), si_1, if_neg (by omega), rhcp_1, if_neg (by omega), sl_1]
        have ea : (rhsi (rhsi (rhcp (rhsl M 53 k (jl (wn L))) 48 (97 + 2 * k) 0 0 bn.length) (96 + 2 * k) 1 (J bn.length)) (96 + 2 * k) 2 (J (wsum bn))).1 (97 + 2 * j) = M.1 (97 + 2 * j) := by
          funext i
          rw [si_1, if_neg (by omega), si_1, if_neg (by omega), rhcp_1, if_neg (by omega), sl_1]
        rw [e53, eo, eo, ea]
        have := h9 j hj
        rw [if_neg cj]
        exact this
  · rw [wp_ite_f (by rw [show (3 : Int32) = J 3 from rfl, J_lt (by omega) (by omega) (by omega) (by omega)]; exact c2), wp_some, if_neg (by omega), if_neg (by omega)]
    exact ⟨rfl, rfl, KP.refl _ _, KC.refl _, h9⟩
theorem jl_m1 : (-1 : Int64) = jl (2 ^ 64 - 1) := by decide +kernel
theorem c_back (hG : GK Γ) (hC : CR M) (hT : C3 M t t' T) (hw : TWf T) (hRH : 0 < tH T → 0 < tR T) (h4 : C4 M (tR T) L) {bn : Bn} (h5 : C5 M bn) {bx : Bx} (h9 : C9 M bx) (hbx : ∀ k x, bx k = some x → BN T (fst T) x.1 x.2 ∧ x.1.length ≤ 300) {z : Int} (z1 : -2147483648 ≤ z) (z2 : z < 2147483648) : wp (f_X11_back Γ M 1 (J z)) (fun r => r.1 = J (match bacX bx z with | none => -1 | some x => (x.1.length : Int)) ∧ r.2.1 = Γ ∧ KP [4, 5] M r.2.2 ∧ KC M r.2.2 ∧ C4 r.2.2 (tR T) (match bacX bx z with | none => L | some x => x.2) ∧ C5 r.2.2 (match bacX bx z with | none => bn | some x => x.1)) := by
  unfold bacX
  rw [f_X11_back]
  by_cases c : z < 0
  · rw [wp_ite_t (by rw [show (0 : Int32) = J 0 from rfl, J_lt (by omega) (by omega) (by omega) (by omega)]; exact c), wp_some, if_neg (by omega)]
    exact ⟨rfl, rfl, KP.refl _ _, KC.refl _, h4, h5⟩
  rw [wp_ite_f (by rw [show (0 : Int32) = J 0 from rfl, J_lt (by omega) (by omega) (by omega) (by omega)]; exact c)]
  by_cases c2 : z < 3
  · obtain ⟨k, rfl⟩ : ∃ k : Nat, z = k := ⟨z.toNat, by omega⟩
    have hk : k < 3 := by omega
    obtain ⟨b1, b2, b3⟩ := GKbox hG hk
    have hin : 0 ≤ (k : Int) ∧ (k : Int) < 3 := by omega
    rw [wp_ite_t (by rw [show (3 : Int32) = J 3 from rfl, J_lt (by omega) (by omega) (by omega) (by omega)]; exact c2), wp_ck_t (GKk1 hG), CR1_12 hC, wp_ck_t (GKk53 hG), wp_ck_t (by rw [GKl53 hG, J_toInt (by omega) (by omega)]; omega), J_clamp (by omega) (by omega), Int.toNat_natCast, if_pos hin]
    cases hx : bx k with
    | none =>
      rw [wp_ite_t ((h9 k hk).1 hx), wp_some]
      exact ⟨rfl, rfl, KP.refl _ _, KC.refl _, h4, h5⟩
    | some x =>
      obtain ⟨e1, e2, e3, e4⟩ := (h9 k hk).2 x hx
      obtain ⟨hB, hl⟩ := hbx k x hx
      have wX := BN_WA hw hB
      have hwn := wn_lt wX hw.1 hw.2.1
      rw [e1, wp_ite_f (by rw [jl_m1, jl_inj (by omega) (by omega)]; omega), CR1_5 hC, wp_ck_t (GKk33 hG), hT.2.1, wp_bind]
      refine (c_look33 hG hC hT hw hRH wX).mono (fun M1 h1 => ?_)
      obtain ⟨q1, q2, q3⟩ := h1
      have hC1 := hC.kp q1 (by decide)
      have h91 := h9.kp q1 (by decide)
      obtain ⟨e1', e2', e3', e4'⟩ := (h91 k hk).2 x hx
      rw [CR1_13 hC1, wp_ck_t (GKk54 hG), wp_ck_t (by rw [GKl54 hG, J_toInt (by omega) (by omega)]; omega), CR1_7 hC1, wp_ck_t (GKk47 hG), CR54 hC1 hk, c_pcopy (GKk47 hG) (CR47_0 hC1) (GKk48 hG) (GKl48 hG) (by omega) hl b1 (CRbox hC1 hk) b2 b3 (by omega) hl e2' e3', wp_bind, wp_some]
      have hkp : KP [5] M1 (rhsi (rhsi (rhcp M1 (97 + 2 * k) 48 0 0 x.1.length) 47 1 (J x.1.length)) 47 2 (J (wsum x.1))) := ((KP.cp (KP.refl _ _) (by omega) (by omega) (by omega) (by decide)).si _ (by decide)).si _ (by decide)
      have hkc : KC M1 (rhsi (rhsi (rhcp M1 (97 + 2 * k) 48 0 0 x.1.length) 47 1 (J x.1.length)) 47 2 (J (wsum x.1))) := ((KC.cp (KC.refl _) (by omega)).si _ (by omega)).si _ (by omega)
      obtain ⟨N, hN⟩ : ∃ N, N = rhsi (rhsi (rhcp M1 (97 + 2 * k) 48 0 0 x.1.length) 47 1 (J x.1.length)) 47 2 (J (wsum x.1)) := ⟨_, rfl⟩
      rw [← hN] at hkp hkc ⊢
      have hCN := hC1.kp hkp (by decide)
      dsimp only
      rw [wp_ck_t (GKk1 hG), CR1_7 hCN, wp_ck_t (GKk47 hG), wp_some]
      refine ⟨?_, rfl, (q1.sub (by decide)).trans (hkp.sub (by decide)), q2.trans hkc, q3.kp hkp (by decide), ?_, ?_, ?_⟩
      · dsimp only; rw [hN, si_1, if_neg (by omega), si_1, if_pos ⟨rfl, rfl⟩]
      · dsimp only; rw [hN, si_1, if_neg (by omega), si_1, if_pos ⟨rfl, rfl⟩]
      · dsimp only; rw [hN, si_1, if_pos ⟨rfl, rfl⟩]
      · refine Sg_cong _ 0 (fun i _ hi => ?_) e4'
        rw [bcd_len, Nat.zero_add] at hi
        dsimp only; rw [hN, si_1, if_neg (by omega), si_1, if_neg (by omega), rhcp_1, if_pos ⟨rfl, by omega, by omega⟩, Nat.zero_add, Nat.sub_zero]
  · rw [wp_ite_f (by rw [show (3 : Int32) = J 3 from rfl, J_lt (by omega) (by omega) (by omega) (by omega)]; exact c2), wp_some, if_neg (by omega)]
    exact ⟨rfl, rfl, KP.refl _ _, KC.refl _, h4, h5⟩
theorem c_put1 (hG : GK Γ) {x : Int32} (m : Nat) {M : rhM} (hC : CR M) {n k : Nat} (hn : M.1 1 1 = J n) (hn2 : n < 1600) (hk : k < 32) : f_X11_putBytes_3 Γ (m + 1) M 1 x (J k) = f_X11_putBytes_3 Γ m (rhsi (rhsi M 2 n (by1 x k)) 1 1 (J ((n + 1 : Nat) : Int))) 1 x (J ((k : Int) - 8)) := by
  rw [f_X11_putBytes_3, if_neg (by rw [show (0 : Int32) = J 0 from rfl, J_lt (by omega) (by omega) (by omega) (by omega)]; omega), rhck_t (GKk1 hG), CR1_0 hC, rhck_t (GKk2 hG), hn, GKl2 hG, if_pos (by rw [show Int32.ofNat 1600 = J 1600 from rfl, J_lt (by omega) (by omega) (by omega) (by omega)]; omega), rhck_t (by rw [J_toInt (by omega) (by omega)]; omega), J_clamp (by omega) (by omega), Int.toNat_natCast]
  dsimp only
  rw [si_1, if_neg (by omega), hn, show (1 : Int32) = J 1 from rfl, J_add, J_suc, show (-8 : Int32) = J (-8) from rfl, J_add]
  rfl
theorem C1.push {bs : List Int32} (h : C1 M bs) (v : Int32) : C1 (rhsi (rhsi M 2 bs.length v) 1 1 (J ((bs.length + 1 : Nat) : Int))) (bs ++ [v]) := by
  refine ⟨by rw [si_1, if_pos ⟨rfl, rfl⟩, List.length_append]; rfl, Bs_push h.2 (fun i hi => ?_) ?_⟩
  · rw [si_1, if_neg (by omega), si_1, if_neg (by omega)]
  · rw [si_1, if_neg (by omega), si_1, if_pos ⟨rfl, rfl⟩]
theorem c_put4 (hG : GK Γ) (x : Int32) {M : rhM} (hC : CR M) {bs : List Int32} (h : C1 M bs) (hl : bs.length + 4 ≤ 1600) : wp (f_X11_putBytes Γ M 1 x) (fun M' => KP [1] M M' ∧ KC M M' ∧ C1 M' (bs ++ by4 x)) := by
  obtain ⟨m, hm⟩ : ∃ m, rhFU = m + 1 + 1 + 1 + 1 + 1 := ⟨rhFU - 5, by have := FU_big; omega⟩
  have go : ∀ {M : rhM} {bs : List Int32} (v : Int32), CR M → C1 M bs → CR (rhsi (rhsi M 2 bs.length v) 1 1 (J ((bs.length + 1 : Nat) : Int))) ∧ C1 (rhsi (rhsi M 2 bs.length v) 1 1 (J ((bs.length + 1 : Nat) : Int))) (bs ++ [v]) ∧ KP [1] M (rhsi (rhsi M 2 bs.length v) 1 1 (J ((bs.length + 1 : Nat) : Int))) ∧ KC M (rhsi (rhsi M 2 bs.length v) 1 1 (J ((bs.length + 1 : Nat) : Int))) := fun v a b => ⟨a, b.push v, ((KP.refl _ _).si _ (by rw [idc_cell (by decide) (by decide) (by decide)]; decide)).si _ (by decide), ((KC.refl _).si _ (by decide)).si _ (by decide)⟩
  obtain ⟨a1, a2, a3, a4⟩ := go (by1 x 24) hC h
  obtain ⟨b1, b2, b3, b4⟩ := go (by1 x 16) a1 a2
  obtain ⟨c1, c2, c3, c4⟩ := go (by1 x 8) b1 b2
  obtain ⟨d1, d2, d3, d4⟩ := go (by1 x 0) c1 c2
  have l1 : (bs ++ [by1 x 24]).length = bs.length + 1 := by rw [List.length_append]; rfl
  have l2 : (bs ++ [by1 x 24] ++ [by1 x 16]).length = bs.length + 2 := by rw [List.length_append, l1]; rfl
  have l3 : (bs ++ [by1 x 24] ++ [by1 x 16] ++ [by1 x 8]).length = bs.length + 3 := by rw [List.length_append, l2]; rfl
  rw [f_X11_putBytes, hm, show (24 : Int32) = J ((24 : Nat) : Int) from rfl, c_put1 hG _ hC h.1 (by omega) (by omega), show ((24 : Nat) : Int) - 8 = ((16 : Nat) : Int) from rfl, c_put1 hG _ a1 a2.1 (by omega) (by omega), show ((16 : Nat) : Int) - 8 = ((8 : Nat) : Int) from rfl, c_put1 hG _ b1 b2.1 (by omega) (by omega), show ((8 : Nat) : Int) - 8 = ((0 : Nat) : Int) from rfl, c_put1 hG _ c1 c2.1 (by omega) (by omega), f_X11_putBytes_3, wp_ite_t (by decide), wp_some]
  refine ⟨((a3.trans b3).trans c3).trans d3, ((a4.trans b4).trans c4).trans d4, ?_⟩
  have : bs ++ by4 x = bs ++ [by1 x 24] ++ [by1 x 16] ++ [by1 x 8] ++ [by1 x 0] := by simp [by4]
  rw [this]; exact d2
theorem by4_len (x : Int32) : (by4 x).length = 4 := rfl
theorem c_feed (hG : GK Γ) (hC : CR M) {bs : List Int32} (h : C1 M bs) (hl : bs.length ≤ 1600) (a b c d e : Int32) : wp (f_X11_feed Γ M 1 a b c d e) (fun r => r.1 = J (fedV bs) ∧ KP [1] M r.2 ∧ KC M r.2 ∧ C1 r.2 (fedL bs a b c d e)) := by
  unfold fedV fedL
  rw [f_X11_feed, wp_ck_t (GKk1 hG), h.1, show (20 : Int32) = J 20 from rfl, J_add]
  by_cases c0 : 1600 < bs.length + 20
  · rw [wp_ite_t (by rw [show (1600 : Int32) = J 1600 from rfl, J_lt (by omega) (by omega) (by omega) (by omega)]; omega), wp_some, if_pos c0, if_pos c0]
    exact ⟨rfl, KP.refl _ _, KC.refl _, h⟩
  rw [wp_ite_f (by rw [show (1600 : Int32) = J 1600 from rfl, J_lt (by omega) (by omega) (by omega) (by omega)]; omega), if_neg c0, if_neg c0, wp_bind]
  refine (c_put4 hG a hC h (by omega)).mono (fun M1 h1 => ?_)
  obtain ⟨p1, p2, p3⟩ := h1
  have hC1 := hC.kp p1 (by decide)
  rw [wp_bind]
  refine (c_put4 hG b hC1 p3 (by rw [List.length_append, by4_len]; omega)).mono (fun M2 h2 => ?_)
  obtain ⟨q1, q2, q3⟩ := h2
  have hC2 := hC1.kp q1 (by decide)
  rw [wp_bind]
  refine (c_put4 hG c hC2 q3 (by simp only [List.length_append, by4_len]; omega)).mono (fun M3 h3 => ?_)
  obtain ⟨r1, r2, r3⟩ := h3
  have hC3 := hC2.kp r1 (by decide)
  rw [wp_bind]
  refine (c_put4 hG d hC3 r3 (by simp only [List.length_append, by4_len]; omega)).mono (fun M4 h4 => ?_)
  obtain ⟨s1, s2, s3⟩ := h4
  have hC4 := hC3.kp s1 (by decide)
  rw [wp_bind]
  refine (c_put4 hG e hC4 s3 (by simp only [List.length_append, by4_len]; omega)).mono (fun M5 h5 => ?_)
  obtain ⟨t1, t2, t3⟩ := h5
  rw [wp_some]
  refine ⟨?_, (((p1.trans q1).trans r1).trans s1).trans t1, (((p2.trans q2).trans r2).trans s2).trans t2, t3⟩
  dsimp only
  rw [t3.1]; simp only [List.length_append, by4_len]
theorem c_about (hG : GK Γ) (hC : CR M) (hT : C3 M t t' T) (hw : TWf T) {bn : Bn} (h5 : C5 M bn) {tl : List Tr} (h6 : C6 M tl) {gl : List Nat} (h7 : C7 M gl) {sg : List Si} (h10 : C10 M sg) {tm : Nat} (h11 : C11 M tm) {bs : List Int32} (h1 : C1 M bs) {ly : List Nat} (h8 : M.1 51 1 = J ly.length) {z : Int} (z1 : -2147483648 ≤ z) (z2 : z < 2147483648) : f_X11_about Γ M 1 (J z) = some (J (aboV T bn tl gl sg tm bs ly z)) := by
  have hts := hT.ts hG hC
  unfold aboV
  rw [f_X11_about]
  simp only [show (0 : Int32) = J 0 from rfl, show (1 : Int32) = J 1 from rfl, show (2 : Int32) = J 2 from rfl, show (3 : Int32) = J 3 from rfl, show (4 : Int32) = J 4 from rfl, show (5 : Int32) = J 5 from rfl, show (6 : Int32) = J 6 from rfl, show (7 : Int32) = J 7 from rfl, show (8 : Int32) = J 8 from rfl, show (9 : Int32) = J 9 from rfl, show (10 : Int32) = J 10 from rfl]
  have hE : ∀ k : Int, 0 ≤ k → k ≤ 10 → (J z = J k) = (z = k) := fun k k1 k2 => by rw [J_eq (by omega) (by omega) (by omega) (by omega)]
  by_cases c : z = 0
  · rw [if_pos (congrArg J c), if_pos c, rhck_t (GKk1 hG), hT.2.1, rhck_t hts.1, hT.2.2.2.2.1]
  rw [if_neg (by rw [hE 0 (by omega) (by omega)]; exact c), if_neg c]
  by_cases c : z = 1
  · rw [if_pos (congrArg J c), if_pos c, rhck_t (GKk1 hG), hT.2.1, rhck_t hts.1, hT.2.2.2.1]
  rw [if_neg (by rw [hE 1 (by omega) (by omega)]; exact c), if_neg c]
  by_cases c : z = 2
  · rw [if_pos (congrArg J c), if_pos c, rhck_t (GKk1 hG), CR1_7 hC, rhck_t (GKk47 hG), h5.1]
  rw [if_neg (by rw [hE 2 (by omega) (by omega)]; exact c), if_neg c]
  by_cases c : z = 3
  · rw [if_pos (congrArg J c), if_pos c, rhck_t (GKk1 hG), CR1_8 hC, rhck_t (GKk49 hG), h6.1]
  rw [if_neg (by rw [hE 3 (by omega) (by omega)]; exact c), if_neg c]
  by_cases c : z = 4
  · rw [if_pos (congrArg J c), if_pos c, rhck_t (GKk1 hG), h7.1]
  rw [if_neg (by rw [hE 4 (by omega) (by omega)]; exact c), if_neg c]
  by_cases c : z = 5
  · rw [if_pos (congrArg J c), if_pos c, rhck_t (GKk1 hG), CR1_14 hC, rhck_t (GKk55 hG), h10.1]
  rw [if_neg (by rw [hE 5 (by omega) (by omega)]; exact c), if_neg c]
  by_cases c : z = 6
  · rw [if_pos (congrArg J c), if_pos c, rhck_t (GKk1 hG), show M.1 1 16 = J tm from h11]
  rw [if_neg (by rw [hE 6 (by omega) (by omega)]; exact c), if_neg c]
  by_cases c : z = 7
  · rw [if_pos (congrArg J c), if_pos c, rhck_t (GKk1 hG), h1.1]
  rw [if_neg (by rw [hE 7 (by omega) (by omega)]; exact c), if_neg c]
  by_cases c : z = 8
  · rw [if_pos (congrArg J c), if_pos c, rhck_t (GKk1 hG), CR1_7 hC, rhck_t (GKk47 hG), h5.2.1]
  rw [if_neg (by rw [hE 8 (by omega) (by omega)]; exact c), if_neg c]
  by_cases c : z = 9
  · rw [if_pos (congrArg J c), if_pos c, rhck_t (GKk1 hG), hT.2.1, rhck_t hts.1, hts.2.2.2.2.2.2.2.2.2.2.2.1.2.2.2.2.2, rhck_t hts.2.2.2.2.2.2.1, hT.2.2.2.2.2.2.2.2.2.2.2.2.1]
  rw [if_neg (by rw [hE 9 (by omega) (by omega)]; exact c), if_neg c]
  by_cases c : z = 10
  · rw [if_pos (congrArg J c), if_pos c, rhck_t (GKk1 hG), CR1_9 hC, rhck_t (GKk51 hG), h8]
  rw [if_neg (by rw [hE 10 (by omega) (by omega)]; exact c), if_neg c]
  rfl
end
