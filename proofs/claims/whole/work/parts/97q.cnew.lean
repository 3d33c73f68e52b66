/-! CLASS: A NEW SEARCH -/
def OldG (Γ Γ' : rhG) : Prop := Γ.1 ≤ Γ'.1 ∧ ∀ r, r ≤ Γ.1 → Γ'.2.2.1 r = Γ.2.2.1 r ∧ Γ'.2.2.2 r = Γ.2.2.2 r
def OldM (g v : Nat) (M M' : rhM) : Prop := ∀ r, r ≤ g → M'.1 r = M.1 r ∧ M'.2.1 r = M.2.1 r ∧ (r ≠ v → M'.2.2 r = M.2.2 r)
theorem OldG.refl (Γ : rhG) : OldG Γ Γ := ⟨Nat.le_refl _, fun _ _ => ⟨rfl, rfl⟩⟩
theorem OldG.trans {Γ Γ' Γ'' : rhG} (h : OldG Γ Γ') (h2 : OldG Γ' Γ'') : OldG Γ Γ'' := ⟨Nat.le_trans h.1 h2.1, fun r hr => ⟨((h2.2 r (Nat.le_trans hr h.1)).1).trans (h.2 r hr).1, ((h2.2 r (Nat.le_trans hr h.1)).2).trans (h.2 r hr).2⟩⟩
theorem OldG.gk {Γ Γ' : rhG} (h : OldG Γ Γ') (hG : GK Γ) : GK Γ' := ⟨Nat.le_trans hG.1 h.1, fun r hr => by
  have := h.2 r (by have := hG.1; omega)
  rw [this.1, this.2]; exact hG.2 r hr⟩
theorem OldG.new {Γ : rhG} (hg : 182 ≤ Γ.1) (k n sl : Nat) : OldG Γ (rhgn Γ k n sl) := ⟨Nat.le_succ _, fun r hr => by
  have : r ≠ Γ.1 + 1 := by omega
  simp [rhgn, nu_big (show 183 ≤ Γ.1 + 1 by omega), this]⟩
theorem gn_k {Γ : rhG} (hg : 182 ≤ Γ.1) (k n sl : Nat) : (rhgn Γ k n sl).2.2.1 (Γ.1 + 1) = k ∧ (rhgn Γ k n sl).2.2.2 (Γ.1 + 1) = n ∧ (rhgn Γ k n sl).1 = Γ.1 + 1 ∧ (rhgn Γ k n sl).2.1 = Γ.2.1 + sl := by
  refine ⟨?_, ?_, rfl, rfl⟩ <;> simp [rhgn, nu_big (show 183 ≤ Γ.1 + 1 by omega)]
theorem mn_o (M : rhM) (n : Nat) {r : Nat} (h : r ≠ n) : (rhmn M n).1 r = M.1 r ∧ (rhmn M n).2.1 r = M.2.1 r ∧ (rhmn M n).2.2 r = M.2.2 r := by
  refine ⟨?_, ?_, ?_⟩ <;> (funext k; simp [rhmn, h])
theorem mn_z (M : rhM) (n k : Nat) : (rhmn M n).1 n k = 0 := by simp [rhmn]
theorem sr_o (M : rhM) (r j v : Nat) {a : Nat} (h : a ≠ r) : (rhsr M r j v).2.2 a = M.2.2 a := by funext k; simp [rhsr, h]
/-- one array more, in a field of v -/
def al (Γ : rhG) (M : rhM) (v f kd kv : Nat) (n : Int32) : Option (rhG × rhM) := rhck (0 ≤ n.toInt ∧ n.toInt ≤ 67108864) <| rhck ((rhgn Γ kd n.toNatClampNeg n.toNatClampNeg).2.2.1 v = kv) <| some (rhgn Γ kd n.toNatClampNeg n.toNatClampNeg, rhsr (rhmn M (nu (Γ.1 + 1))) v f (nu (Γ.1 + 1)))
theorem rhck_bind {α β : Type} (c : Prop) [Decidable c] (x : Option α) (f : α → Option β) : (rhck c x).bind f = rhck c (x.bind f) := by
  unfold rhck; split <;> rfl
def ALp (Γ : rhG) (M : rhM) (v f kd n : Nat) (r : rhG × rhM) : Prop := r.1.1 = Γ.1 + 1 ∧ r.1.2.1 = Γ.2.1 + n ∧ OldG Γ r.1 ∧ (r.1.2.2.1 (Γ.1 + 1) = kd ∧ r.1.2.2.2 (Γ.1 + 1) = n) ∧ OldM Γ.1 v M r.2 ∧ (∀ k, k ≠ f → r.2.2.2 v k = M.2.2 v k) ∧ r.2.2.2 v f = Γ.1 + 1 ∧ ∀ k, r.2.1 (Γ.1 + 1) k = 0
theorem wp_al {Γ : rhG} {M : rhM} {v f kd kv m : Nat} {n : Int32} (hg : 182 ≤ Γ.1) (hv : v ≤ Γ.1) (hk : Γ.2.2.1 v = kv) (hn : 0 ≤ n.toInt ∧ n.toInt ≤ 67108864) (hm : n.toNatClampNeg = m) : wp (al Γ M v f kd kv n) (ALp Γ M v f kd m) := by
  rw [al, wp_ck_t hn, wp_ck_t (by rw [((OldG.new hg _ _ _).2 v hv).1]; exact hk), wp_some, hm, nu_big (show 183 ≤ Γ.1 + 1 by omega)]
  obtain ⟨g1, g2, g3, g4⟩ := gn_k hg kd m m
  refine ⟨g3, g4, OldG.new hg _ _ _, ⟨g1, g2⟩, fun r hr => ?_, fun k hk2 => ?_, sr_eq _ _ _ _, fun k => mn_z M (Γ.1 + 1) k⟩
  · have hne : r ≠ Γ.1 + 1 := by omega
    have e := mn_o M (Γ.1 + 1) hne
    exact ⟨e.1, e.2.1, fun hrv => by dsimp only; rw [sr_o _ _ _ _ hrv, e.2.2]⟩
  · have e := mn_o M (Γ.1 + 1) (show v ≠ Γ.1 + 1 by omega)
    dsimp only
    rw [sr_ne (by omega), e.2.2]
theorem OldM.trans {g g' v : Nat} {M M' M'' : rhM} (h : OldM g v M M') (h2 : OldM g' v M' M'') (hg : g ≤ g') : OldM g v M M'' := fun r hr => by
  have a := h r hr
  have b := h2 r (by omega)
  exact ⟨b.1.trans a.1, b.2.1.trans a.2.1, fun hv => (b.2.2 hv).trans (a.2.2 hv)⟩
theorem tn5 : (5 : Int32).toNatClampNeg = 5 ∧ (32 : Int32).toNatClampNeg = 32 ∧ (1024 : Int32).toNatClampNeg = 1024 ∧ (6 : Int32).toNatClampNeg = 6 ∧ (64 : Int32).toNatClampNeg = 64 ∧ (4096 : Int32).toNatClampNeg = 4096 := by decide
section
variable {Γ : rhG} {M : rhM}
theorem e_stand (Γ : rhG) (M : rhM) (v : Nat) : f_X7_init Γ M v = rhck (Γ.2.2.1 v = 8) ((al Γ M v 2 15 8 5).bind fun r => (al r.1 r.2 v 3 15 8 5).bind fun r => (al r.1 r.2 v 4 15 8 5).bind fun r => (al r.1 r.2 v 5 15 8 5).bind fun r => (al r.1 r.2 v 7 15 8 32).bind fun r => (al r.1 r.2 v 8 15 8 32).bind fun r => (al r.1 r.2 v 9 15 8 32).bind fun r => (al r.1 r.2 v 10 15 8 32).bind fun r => al r.1 r.2 v 11 15 8 32) := by
  rw [f_X7_init]
  simp only [al, rhck_bind, Option.bind_some]
theorem i_stand {v : Nat} (hg : 182 ≤ Γ.1) (hv : v = Γ.1) (hv9 : 90 ≤ v) (hk : Γ.2.2.1 v = 8) : wp (f_X7_init Γ M v) (fun r => r.1.1 = Γ.1 + 9 ∧ r.1.2.1 = Γ.2.1 + 180 ∧ OldG Γ r.1 ∧ OldM Γ.1 v M r.2 ∧ SS r.1 r.2 v) := by
  rw [e_stand, wp_ck_t hk]
  rw [wp_bind]
  refine (wp_al (by omega) (by omega) hk (by decide) tn5.1).mono (fun r0 h0 => ?_)
  obtain ⟨x0a, x0b, x0c, x0d, x0e, x0f, x0g, x0h⟩ := h0
  have o0 := x0c
  rw [wp_bind]
  refine (wp_al (by omega) (by omega) ((o0.2 v (by omega)).1.trans hk) (by decide) tn5.1).mono (fun r1 h1 => ?_)
  obtain ⟨x1a, x1b, x1c, x1d, x1e, x1f, x1g, x1h⟩ := h1
  have o1 := o0.trans x1c
  rw [wp_bind]
  refine (wp_al (by omega) (by omega) ((o1.2 v (by omega)).1.trans hk) (by decide) tn5.1).mono (fun r2 h2 => ?_)
  obtain ⟨x2a, x2b, x2c, x2d, x2e, x2f, x2g, x2h⟩ := h2
  have o2 := o1.trans x2c
  rw [wp_bind]
  refine (wp_al (by omega) (by omega) ((o2.2 v (by omega)).1.trans hk) (by decide) tn5.1).mono (fun r3 h3 => ?_)
  obtain ⟨x3a, x3b, x3c, x3d, x3e, x3f, x3g, x3h⟩ := h3
  have o3 := o2.trans x3c
  rw [wp_bind]
  refine (wp_al (by omega) (by omega) ((o3.2 v (by omega)).1.trans hk) (by decide) tn5.2.1).mono (fun r4 h4 => ?_)
  obtain ⟨x4a, x4b, x4c, x4d, x4e, x4f, x4g, x4h⟩ := h4
  have o4 := o3.trans x4c
  rw [wp_bind]
  refine (wp_al (by omega) (by omega) ((o4.2 v (by omega)).1.trans hk) (by decide) tn5.2.1).mono (fun r5 h5 => ?_)
  obtain ⟨x5a, x5b, x5c, x5d, x5e, x5f, x5g, x5h⟩ := h5
  have o5 := o4.trans x5c
  rw [wp_bind]
  refine (wp_al (by omega) (by omega) ((o5.2 v (by omega)).1.trans hk) (by decide) tn5.2.1).mono (fun r6 h6 => ?_)
  obtain ⟨x6a, x6b, x6c, x6d, x6e, x6f, x6g, x6h⟩ := h6
  have o6 := o5.trans x6c
  rw [wp_bind]
  refine (wp_al (by omega) (by omega) ((o6.2 v (by omega)).1.trans hk) (by decide) tn5.2.1).mono (fun r7 h7 => ?_)
  obtain ⟨x7a, x7b, x7c, x7d, x7e, x7f, x7g, x7h⟩ := h7
  have o7 := o6.trans x7c
  refine (wp_al (by omega) (by omega) ((o7.2 v (by omega)).1.trans hk) (by decide) tn5.2.1).mono (fun r8 h8 => ?_)
  obtain ⟨x8a, x8b, x8c, x8d, x8e, x8f, x8g, x8h⟩ := h8
  have o8 := o7.trans x8c
  have q7 := x8c
  have q6 := x7c.trans q7
  have q5 := x6c.trans q6
  have q4 := x5c.trans q5
  have q3 := x4c.trans q4
  have q2 := x3c.trans q3
  have q1 := x2c.trans q2
  have q0 := x1c.trans q1
  have om0 := x0e
  have om1 := om0.trans x1e (by omega)
  have om2 := om1.trans x2e (by omega)
  have om3 := om2.trans x3e (by omega)
  have om4 := om3.trans x4e (by omega)
  have om5 := om4.trans x5e (by omega)
  have om6 := om5.trans x6e (by omega)
  have om7 := om6.trans x7e (by omega)
  have om8 := om7.trans x8e (by omega)
  refine ⟨by omega, by omega, o8, om8, (o8.2 v (by omega)).1.trans hk, ?_, ?_, ?_, ?_, ?_, ?_, ?_, ?_, ?_, ?_, ?_, ?_, ?_⟩
  · have := q0.2 (v + 1) (by omega); rw [this.1, this.2, hv]; exact x0d
  · have := q1.2 (v + 2) (by omega); rw [this.1, this.2, show v + 2 = r0.1.1 + 1 by omega]; exact x1d
  · have := q2.2 (v + 3) (by omega); rw [this.1, this.2, show v + 3 = r1.1.1 + 1 by omega]; exact x2d
  · have := q3.2 (v + 4) (by omega); rw [this.1, this.2, show v + 4 = r2.1.1 + 1 by omega]; exact x3d
  · have := q4.2 (v + 5) (by omega); rw [this.1, this.2, show v + 5 = r3.1.1 + 1 by omega]; exact x4d
  · have := q5.2 (v + 6) (by omega); rw [this.1, this.2, show v + 6 = r4.1.1 + 1 by omega]; exact x5d
  · rw [x8f _ (by decide), x7f _ (by decide), x6f _ (by decide), x5f _ (by decide), x4f _ (by decide), x3f _ (by decide), x2f _ (by decide), x1f _ (by decide), x0g]; omega
  · rw [x8f _ (by decide), x7f _ (by decide), x6f _ (by decide), x5f _ (by decide), x4f _ (by decide), x3f _ (by decide), x2f _ (by decide), x1g]; omega
  · rw [x8f _ (by decide), x7f _ (by decide), x6f _ (by decide), x5f _ (by decide), x4f _ (by decide), x3f _ (by decide), x2g]; omega
  · rw [x8f _ (by decide), x7f _ (by decide), x6f _ (by decide), x5f _ (by decide), x4f _ (by decide), x3g]; omega
  · rw [x8f _ (by decide), x7f _ (by decide), x6f _ (by decide), x5f _ (by decide), x4g]; omega
  · rw [x8f _ (by decide), x7f _ (by decide), x6f _ (by decide), x5g]; omega
  · unfold SX
    rw [xb_big hv9]
    refine ⟨?_, ?_, ?_, ?_, ?_, ?_⟩
    · have := q6.2 (v + 7) (by omega); rw [this.1, this.2, show v + 7 = r5.1.1 + 1 by omega]; exact x6d
    · have := q7.2 (v + 7 + 1) (by omega); rw [this.1, this.2, show v + 7 + 1 = r6.1.1 + 1 by omega]; exact x7d
    · rw [show v + 7 + 2 = r7.1.1 + 1 by omega]; exact x8d
    · rw [x8f _ (by decide), x7f _ (by decide), x6g]; omega
    · rw [x8f _ (by decide), x7g]; omega
    · rw [x8g]; omega
theorem e_num (Γ : rhG) (M : rhM) (v : Nat) : f_X10_init Γ M v = rhck (Γ.2.2.1 v = 11) ((al Γ M v 2 15 11 6).bind fun r => (al r.1 r.2 v 3 15 11 64).bind fun r => al r.1 r.2 v 4 15 11 4096) := by
  rw [f_X10_init]
  simp only [al, rhck_bind, Option.bind_some]
theorem i_num {v : Nat} (hg : 182 ≤ Γ.1) (hv : v = Γ.1) (hk : Γ.2.2.1 v = 11) (hz : ∀ k, M.1 v k = 0) : wp (f_X10_init Γ M v) (fun r => r.1.1 = Γ.1 + 3 ∧ r.1.2.1 = Γ.2.1 + 4166 ∧ OldG Γ r.1 ∧ OldM Γ.1 v M r.2 ∧ NSh r.1 r.2 v ∧ NT r.2 v 0 0) := by
  rw [e_num, wp_ck_t hk]
  rw [wp_bind]
  refine (wp_al (by omega) (by omega) hk (by decide) tn5.2.2.2.1).mono (fun r0 h0 => ?_)
  obtain ⟨x0a, x0b, x0c, x0d, x0e, x0f, x0g, x0h⟩ := h0
  have o0 := x0c
  rw [wp_bind]
  refine (wp_al (by omega) (by omega) ((o0.2 v (by omega)).1.trans hk) (by decide) tn5.2.2.2.2.1).mono (fun r1 h1 => ?_)
  obtain ⟨x1a, x1b, x1c, x1d, x1e, x1f, x1g, x1h⟩ := h1
  have o1 := o0.trans x1c
  refine (wp_al (by omega) (by omega) ((o1.2 v (by omega)).1.trans hk) (by decide) tn5.2.2.2.2.2).mono (fun r2 h2 => ?_)
  obtain ⟨x2a, x2b, x2c, x2d, x2e, x2f, x2g, x2h⟩ := h2
  have o2 := o1.trans x2c
  have q1 := x2c
  have q0 := x1c.trans q1
  have om0 := x0e
  have om1 := om0.trans x1e (by omega)
  have om2 := om1.trans x2e (by omega)
  have z1 : ∀ k, r2.2.1 (v + 2) k = 0 := fun k => by rw [show v + 2 = r0.1.1 + 1 by omega, (x2e _ (by omega)).1]; exact x1h k
  have z2 : ∀ k, r2.2.1 (v + 3) k = 0 := fun k => by rw [show v + 3 = r1.1.1 + 1 by omega]; exact x2h k
  have z0 : ∀ k, r2.2.1 v k = 0 := fun k => by rw [(om2 v (by omega)).1]; exact hz k
  refine ⟨by omega, by omega, o2, om2, ⟨(o2.2 v (by omega)).1.trans hk, ?_, ?_, ?_, ?_, ?_, ?_⟩, z0 0, z0 1, fun j hj => absurd hj (Nat.not_lt_zero _), fun s hs => ?_, fun s x hs hx => ?_, z1 0, fun x _ => z2 x⟩
  · have := q0.2 (v + 1) (by omega); rw [this.1, this.2, hv]; exact x0d
  · have := q1.2 (v + 2) (by omega); rw [this.1, this.2, show v + 2 = r0.1.1 + 1 by omega]; exact x1d
  · rw [show v + 3 = r1.1.1 + 1 by omega]; exact x2d
  · rw [x2f _ (by decide), x1f _ (by decide), x0g]; omega
  · rw [x2f _ (by decide), x1g]; omega
  · rw [x2g]; omega
  · rw [z1, show cl 0 s = [] from rfl]; rfl
  · rw [z2, show cl 0 s = [] from rfl, tvL_nil]; rfl
theorem e_found (Γ : rhG) (M : rhM) (v : Nat) (n : Int32) : f_X0_init Γ M v n = rhck (Γ.2.2.1 v = 1) ((al Γ M v 5 15 1 1024).bind fun r => (al r.1 r.2 v 6 15 1 1024).bind fun r => (al r.1 (rhsi r.2 v 0 (if n < 0 then 0 else n)) v 2 16 1 ((rhsi r.2 v 0 (if n < 0 then 0 else n)).1 v 0)).bind fun s => (al s.1 s.2 v 3 15 1 (s.2.1 v 0)).bind fun s => al s.1 s.2 v 4 15 1 (s.2.1 v 0)) := by
  rw [f_X0_init]
  simp only [al, rhck_bind, Option.bind_some]
  rfl
theorem i_found {v cp : Nat} (hg : 182 ≤ Γ.1) (hv : v = Γ.1) (hk : Γ.2.2.1 v = 1) (hcp : cp ≤ 60480) : wp (f_X0_init Γ M v (J cp)) (fun r => r.1.1 = Γ.1 + 5 ∧ r.1.2.1 = Γ.2.1 + 2048 + 3 * cp ∧ OldG Γ r.1 ∧ (∀ x, x < v → r.2.1 x = M.1 x ∧ r.2.2.1 x = M.2.1 x ∧ r.2.2.2 x = M.2.2 x) ∧ FSh r.1 r.2 v cp ∧ r.2.1 v 0 = J cp) := by
  have tn : (J cp).toNatClampNeg = cp := by rw [J_clamp (by omega) (by omega), Int.toNat_natCast]
  have ti : 0 ≤ (J cp).toInt ∧ (J cp).toInt ≤ 67108864 := by rw [J_toInt (by omega) (by omega)]; omega
  rw [e_found, wp_ck_t hk, if_neg (by rw [show (0 : Int32) = J 0 from rfl, J_lt (by omega) (by omega) (by omega) (by omega)]; omega), wp_bind]
  refine (wp_al (by omega) (by omega) hk (by decide) tn5.2.2.1).mono (fun r0 h0 => ?_)
  obtain ⟨x0a, x0b, x0c, x0d, x0e, x0f, x0g, x0h⟩ := h0
  have o0 := x0c
  rw [wp_bind]
  refine (wp_al (by omega) (by omega) ((o0.2 v (by omega)).1.trans hk) (by decide) tn5.2.2.1).mono (fun r1 h1 => ?_)
  obtain ⟨x1a, x1b, x1c, x1d, x1e, x1f, x1g, x1h⟩ := h1
  have o1 := o0.trans x1c
  have om1 := x0e.trans x1e (by omega)
  have w0 : (rhsi r1.2 v 0 (J cp)).1 v 0 = J cp := by rw [si_1, if_pos ⟨rfl, rfl⟩]
  have w1 : ∀ x, x ≠ v → (rhsi r1.2 v 0 (J cp)).1 x = r1.2.1 x := fun x hx => by funext k; rw [si_1, if_neg (by omega)]
  have w2 : (rhsi r1.2 v 0 (J cp)).2 = r1.2.2 := rfl
  obtain ⟨N, hN⟩ : ∃ N, N = rhsi r1.2 v 0 (J cp) := ⟨_, rfl⟩
  rw [← hN] at w0 w1 w2 ⊢
  rw [w0, wp_bind]
  refine (wp_al (by omega) (by omega) ((o1.2 v (by omega)).1.trans hk) ti tn).mono (fun r2 h2 => ?_)
  obtain ⟨x2a, x2b, x2c, x2d, x2e, x2f, x2g, x2h⟩ := h2
  have o2 := o1.trans x2c
  rw [(x2e v (by omega)).1, w0, wp_bind]
  refine (wp_al (by omega) (by omega) ((o2.2 v (by omega)).1.trans hk) ti tn).mono (fun r3 h3 => ?_)
  obtain ⟨x3a, x3b, x3c, x3d, x3e, x3f, x3g, x3h⟩ := h3
  have o3 := o2.trans x3c
  have om3 := x2e.trans x3e (by omega)
  rw [(om3 v (by omega)).1, w0]
  refine (wp_al (by omega) (by omega) ((o3.2 v (by omega)).1.trans hk) ti tn).mono (fun r4 h4 => ?_)
  obtain ⟨x4a, x4b, x4c, x4d, x4e, x4f, x4g, x4h⟩ := h4
  have o4 := o3.trans x4c
  have om4 := om3.trans x4e (by omega)
  have q3 := x4c
  have q2 := x3c.trans q3
  have q1 := x2c.trans q2
  have q0 := x1c.trans q1
  refine ⟨by omega, by omega, o4, fun x hx => ?_, ⟨(o4.2 v (by omega)).1.trans hk, ?_, ?_, ?_, ?_, ?_, ?_, ?_, ?_, ?_, ?_⟩, ?_⟩
  · have a := om1 x (by omega)
    have b := om4 x (by omega)
    exact ⟨by rw [b.1, w1 x (by omega), a.1], by rw [b.2.1, w2, a.2.1], by rw [b.2.2 (by omega), w2, a.2.2 (by omega)]⟩
  · have := q0.2 (v + 1) (by omega); rw [this.1, this.2, hv]; exact x0d
  · have := q1.2 (v + 2) (by omega); rw [this.1, this.2, show v + 2 = r0.1.1 + 1 by omega]; exact x1d
  · have := q2.2 (v + 3) (by omega); rw [this.1, this.2, show v + 3 = r1.1.1 + 1 by omega]; exact x2d
  · have := q3.2 (v + 4) (by omega); rw [this.1, this.2, show v + 4 = r2.1.1 + 1 by omega]; exact x3d
  · rw [show v + 5 = r3.1.1 + 1 by omega]; exact x4d
  · rw [x4f _ (by decide), x3f _ (by decide), x2f _ (by decide), w2, x1f _ (by decide), x0g]; omega
  · rw [x4f _ (by decide), x3f _ (by decide), x2f _ (by decide), w2, x1g]; omega
  · rw [x4f _ (by decide), x3f _ (by decide), x2g]; omega
  · rw [x4f _ (by decide), x3g]; omega
  · rw [x4g]; omega
  · rw [(om4 v (by omega)).1, w0]
theorem e_perm (Γ : rhG) (M : rhM) (v : Nat) (n : Int32) : f_X2_init Γ M v n = rhck (Γ.2.2.1 v = 3) (al Γ M v 0 15 3 (if (n >>> (4 &&& 31)) < 0 then 0 else n >>> (4 &&& 31))) := by
  rw [f_X2_init]
  simp only [al]
theorem i_perm {v : Nat} (hg : 182 ≤ Γ.1) (hv : v = Γ.1) (hk : Γ.2.2.1 v = 3) : wp (f_X2_init Γ M v 65536) (fun r => r.1.1 = Γ.1 + 1 ∧ r.1.2.1 = Γ.2.1 + 4096 ∧ OldG Γ r.1 ∧ OldM Γ.1 v M r.2 ∧ r.1.2.2.1 v = 3 ∧ r.2.2.2 v 0 = v + 1 ∧ r.1.2.2.1 (v + 1) = 15 ∧ r.1.2.2.2 (v + 1) = 4096) := by
  rw [e_perm, wp_ck_t hk, show (if ((65536 : Int32) >>> (4 &&& 31)) < 0 then (0 : Int32) else (65536 : Int32) >>> (4 &&& 31)) = 4096 by decide]
  refine (wp_al (by omega) (by omega) hk (by decide) tn5.2.2.2.2.2).mono (fun r h => ?_)
  obtain ⟨a1, a2, a3, a4, a5, a6, a7, -⟩ := h
  rw [hv]
  rw [hv] at a5 a7
  exact ⟨a1, a2, a3, a5, by rw [(a3.2 Γ.1 (by omega)).1, ← hv]; exact hk, a7, a4.1, a4.2⟩
end
