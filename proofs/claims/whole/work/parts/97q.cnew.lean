/-! CLASS: A NEW SEARCH -/
def OldG (Γ Γ' : rhG) : Prop := Γ.1 ≤ Γ'.1 ∧ ∀ r, r ≤ Γ.1 → Γ'.2.2.1 r = Γ.2.2.1 r ∧ Γ'.2.2.2 r = Γ.2.2.2 r
def OldM (g v : Nat) (M M' : rhM) : Prop := ∀ r, r ≤ g → M'.1 r = M.1 r ∧ M'.2.1 r = M.2.1 r ∧ (r ≠ v → M'.2.2 r = M.2.2 r)
theorem OldG.refl (Γ : rhG) : OldG Γ Γ := ⟨Nat.le_refl _, fun _ _ => ⟨rfl, rfl⟩⟩
theorem OldG.trans {Γ Γ' Γ'' : rhG} (h : OldG Γ Γ') (h2 : OldG Γ' Γ'') : OldG Γ Γ'' := ⟨Nat.le_trans h.1 h2.1, fun r hr => ⟨((h2.2 r (Nat.le_trans hr h.1)).1).trans (h.2 r hr).1, ((h2.2 r (Nat.le_trans hr h.1)).2).trans (h.2 r hr).2⟩⟩
theorem OldG.gk {Γ Γ' : rhG} (h : OldG Γ Γ') (hG : GK Γ) : GK Γ' := ⟨Nat.le_trans hG.1 h.1, fun r hr => by
  have := h.2 r (by have := hG.1; omega)
  rw [this.1, this.2]; exact hG.2 r hr⟩
theorem OldG.new (Γ : rhG) (k n sl : Nat) : OldG Γ (rhgn Γ k n sl) := ⟨Nat.le_succ _, fun r hr => by
  have : r ≠ Γ.1 + 1 := by omega
  simp [rhgn, this]⟩
theorem gn_k (Γ : rhG) (k n sl : Nat) : (rhgn Γ k n sl).2.2.1 (Γ.1 + 1) = k ∧ (rhgn Γ k n sl).2.2.2 (Γ.1 + 1) = n ∧ (rhgn Γ k n sl).1 = Γ.1 + 1 ∧ (rhgn Γ k n sl).2.1 = Γ.2.1 + sl := ⟨by simp [rhgn], by simp [rhgn], rfl, rfl⟩
theorem mn_o (M : rhM) (n : Nat) {r : Nat} (h : r ≠ n) : (rhmn M n).1 r = M.1 r ∧ (rhmn M n).2.1 r = M.2.1 r ∧ (rhmn M n).2.2 r = M.2.2 r := by
  refine ⟨?_, ?_, ?_⟩ <;> (funext k; simp [rhmn, h])
theorem sr_o (M : rhM) (r j v : Nat) {a : Nat} (h : a ≠ r) : (rhsr M r j v).2.2 a = M.2.2 a := by funext k; simp [rhsr, h]
/-- one array more, in a field of v -/
def al (Γ : rhG) (M : rhM) (v f kd kv : Nat) (n : Int32) : Option (rhG × rhM) := rhck (0 ≤ n.toInt ∧ n.toInt ≤ 67108864) <| rhck ((rhgn Γ kd n.toNatClampNeg n.toNatClampNeg).2.2.1 v = kv) <| some (rhgn Γ kd n.toNatClampNeg n.toNatClampNeg, rhsr (rhmn M (Γ.1 + 1)) v f (Γ.1 + 1))
theorem rhck_bind {α β : Type} (c : Prop) [Decidable c] (x : Option α) (f : α → Option β) : (rhck c x).bind f = rhck c (x.bind f) := by
  unfold rhck; split <;> rfl
def ALp (Γ : rhG) (M : rhM) (v f kd n : Nat) (r : rhG × rhM) : Prop := r.1.1 = Γ.1 + 1 ∧ r.1.2.1 = Γ.2.1 + n ∧ OldG Γ r.1 ∧ (r.1.2.2.1 (Γ.1 + 1) = kd ∧ r.1.2.2.2 (Γ.1 + 1) = n) ∧ OldM Γ.1 v M r.2 ∧ (∀ k, k ≠ f → r.2.2.2 v k = M.2.2 v k) ∧ r.2.2.2 v f = Γ.1 + 1
theorem wp_al {Γ : rhG} {M : rhM} {v f kd kv m : Nat} {n : Int32} (hv : v ≤ Γ.1) (hk : Γ.2.2.1 v = kv) (hn : 0 ≤ n.toInt ∧ n.toInt ≤ 67108864) (hm : n.toNatClampNeg = m) : wp (al Γ M v f kd kv n) (ALp Γ M v f kd m) := by
  rw [al, wp_ck_t hn, wp_ck_t (by rw [((OldG.new Γ _ _ _).2 v hv).1]; exact hk), wp_some, hm]
  obtain ⟨g1, g2, g3, g4⟩ := gn_k Γ kd m m
  refine ⟨g3, g4, OldG.new _ _ _ _, ⟨g1, g2⟩, fun r hr => ?_, fun k hk2 => ?_, sr_eq _ _ _ _⟩
  · have hne : r ≠ Γ.1 + 1 := by omega
    have e := mn_o M (Γ.1 + 1) hne
    exact ⟨e.1, e.2.1, fun hrv => by dsimp only; rw [sr_o _ _ _ _ hrv, e.2.2]⟩
  · have e := mn_o M (Γ.1 + 1) (show v ≠ Γ.1 + 1 by omega)
    dsimp only
    rw [sr_ne (by omega), e.2.2]
theorem OldM.trans {g g' v : Nat} {M M' M'' : rhM} (h : OldM g v M M') (h2 : OldM g' v M' M'') (hg : g ≤ g') : OldM g v M M'' := fun r hr => by
  have a := h r hr
  have b := h2 r (by omega)
  exact ⟨b.1.trans a.1, b.2.1.trans a.2.1, fun hv => (b.2.2 hv).trans (a.2.2 hv)⟩
theorem tn5 : (5 : Int32).toNatClampNeg = 5 ∧ (32 : Int32).toNatClampNeg = 32 ∧ (1024 : Int32).toNatClampNeg = 1024 := by decide
section
variable {Γ : rhG} {M : rhM}
theorem e_stand (Γ : rhG) (M : rhM) (v : Nat) : f_X7_init Γ M v = rhck (Γ.2.2.1 v = 8) ((al Γ M v 2 15 8 5).bind fun r => (al r.1 r.2 v 3 15 8 5).bind fun r => (al r.1 r.2 v 4 15 8 5).bind fun r => (al r.1 r.2 v 6 16 8 32).bind fun r => (al r.1 r.2 v 7 15 8 32).bind fun r => al r.1 r.2 v 8 15 8 32) := by
  rw [f_X7_init]
  simp only [al, rhck_bind, Option.bind_some]
theorem i_stand {v : Nat} (hv : v = Γ.1) (hk : Γ.2.2.1 v = 8) : wp (f_X7_init Γ M v) (fun r => r.1.1 = Γ.1 + 6 ∧ r.1.2.1 = Γ.2.1 + 111 ∧ OldG Γ r.1 ∧ OldM Γ.1 v M r.2 ∧ SS r.1 r.2 v) := by
  rw [e_stand, wp_ck_t hk, wp_bind]
  refine (wp_al (by omega) hk (by decide) tn5.1).mono (fun r1 h1 => ?_)
  obtain ⟨a1, a2, a3, a4, a5, a6, a7⟩ := h1
  rw [wp_bind]
  refine (wp_al (by omega) ((a3.2 v (by omega)).1.trans hk) (by decide) tn5.1).mono (fun r2 h2 => ?_)
  obtain ⟨b1, b2, b3, b4, b5, b6, b7⟩ := h2
  have o2 := a3.trans b3
  rw [wp_bind]
  refine (wp_al (by omega) ((o2.2 v (by omega)).1.trans hk) (by decide) tn5.1).mono (fun r3 h3 => ?_)
  obtain ⟨c1, c2, c3, c4, c5, c6, c7⟩ := h3
  have o3 := o2.trans c3
  rw [wp_bind]
  refine (wp_al (by omega) ((o3.2 v (by omega)).1.trans hk) (by decide) tn5.2.1).mono (fun r4 h4 => ?_)
  obtain ⟨d1, d2, d3, d4, d5, d6, d7⟩ := h4
  have o4 := o3.trans d3
  rw [wp_bind]
  refine (wp_al (by omega) ((o4.2 v (by omega)).1.trans hk) (by decide) tn5.2.1).mono (fun r5 h5 => ?_)
  obtain ⟨e1, e2, e3, e4, e5, e6, e7⟩ := h5
  have o5 := o4.trans e3
  refine (wp_al (by omega) ((o5.2 v (by omega)).1.trans hk) (by decide) tn5.2.1).mono (fun r6 h6 => ?_)
  obtain ⟨f1, f2, f3, f4, f5, f6, f7⟩ := h6
  have o6 := o5.trans f3
  have p5 := f3
  have p4 := e3.trans p5
  have p3 := d3.trans p4
  have p2 := c3.trans p3
  have p1 := b3.trans p2
  refine ⟨by omega, by omega, o6, ((((a5.trans b5 (by omega)).trans c5 (by omega)).trans d5 (by omega)).trans e5 (by omega)).trans f5 (by omega), (o6.2 v (by omega)).1.trans hk, ?_, ?_, ?_, ?_, ?_, ?_, ?_, ?_, ?_, ?_, ?_, ?_⟩
  · have := p1.2 (v + 1) (by omega); rw [this.1, this.2, hv]; exact a4
  · have := p2.2 (v + 2) (by omega); rw [this.1, this.2, show v + 2 = r1.1.1 + 1 by omega]; exact b4
  · have := p3.2 (v + 3) (by omega); rw [this.1, this.2, show v + 3 = r2.1.1 + 1 by omega]; exact c4
  · have := p4.2 (v + 4) (by omega); rw [this.1, this.2, show v + 4 = r3.1.1 + 1 by omega]; exact d4
  · have := p5.2 (v + 5) (by omega); rw [this.1, this.2, show v + 5 = r4.1.1 + 1 by omega]; exact e4
  · rw [show v + 6 = r5.1.1 + 1 by omega]; exact f4
  · rw [f6 _ (by decide), e6 _ (by decide), d6 _ (by decide), c6 _ (by decide), b6 _ (by decide), a7]; omega
  · rw [f6 _ (by decide), e6 _ (by decide), d6 _ (by decide), c6 _ (by decide), b7]; omega
  · rw [f6 _ (by decide), e6 _ (by decide), d6 _ (by decide), c7]; omega
  · rw [f6 _ (by decide), e6 _ (by decide), d7]; omega
  · rw [f6 _ (by decide), e7]; omega
  · rw [f7]; omega
theorem e_found (Γ : rhG) (M : rhM) (v : Nat) (n : Int32) : f_X0_init Γ M v n = rhck (Γ.2.2.1 v = 1) ((al Γ M v 1 16 1 n).bind fun r => (al r.1 r.2 v 2 15 1 n).bind fun r => (al r.1 r.2 v 3 15 1 n).bind fun r => (al r.1 r.2 v 4 15 1 n).bind fun r => (f_X0_bitsFor r.1 r.2 n).bind fun b => al r.1 r.2 v 5 15 1 (1 <<< (b &&& 31))) := by
  rw [f_X0_init]
  simp only [al, rhck_bind, Option.bind_some]
  rfl
theorem i_found {v cp : Nat} (hv : v = Γ.1) (hk : Γ.2.2.1 v = 1) (hcp : cp ≤ 60480) (hc1 : 1 ≤ cp) : wp (f_X0_init Γ M v (J cp)) (fun r => ∃ tln tc, isBits cp tc ∧ tln = 2 ^ tc ∧ r.1.1 = Γ.1 + 5 ∧ r.1.2.1 = Γ.2.1 + 4 * cp + tln ∧ OldG Γ r.1 ∧ OldM Γ.1 v M r.2 ∧ FSh r.1 r.2 v cp tln) := by
  have tn : (J cp).toNatClampNeg = cp := by rw [J_clamp (by omega) (by omega), Int.toNat_natCast]
  have ti : 0 ≤ (J cp).toInt ∧ (J cp).toInt ≤ 67108864 := by rw [J_toInt (by omega) (by omega)]; omega
  rw [e_found, wp_ck_t hk, wp_bind]
  refine (wp_al (by omega) hk ti tn).mono (fun r1 h1 => ?_)
  obtain ⟨a1, a2, a3, a4, a5, a6, a7⟩ := h1
  rw [wp_bind]
  refine (wp_al (by omega) ((a3.2 v (by omega)).1.trans hk) ti tn).mono (fun r2 h2 => ?_)
  obtain ⟨b1, b2, b3, b4, b5, b6, b7⟩ := h2
  have o2 := a3.trans b3
  rw [wp_bind]
  refine (wp_al (by omega) ((o2.2 v (by omega)).1.trans hk) ti tn).mono (fun r3 h3 => ?_)
  obtain ⟨c1, c2, c3, c4, c5, c6, c7⟩ := h3
  have o3 := o2.trans c3
  rw [wp_bind]
  refine (wp_al (by omega) ((o3.2 v (by omega)).1.trans hk) ti tn).mono (fun r4 h4 => ?_)
  obtain ⟨d1, d2, d3, d4, d5, d6, d7⟩ := h4
  have o4 := o3.trans d3
  obtain ⟨tc, ht1, ht2⟩ := c_bits (Γ := r4.1) (M := r4.2) hcp
  have hb1 := ht2.1
  have hb2 := ht2.2.1
  have hpw : 2 ^ tc ≤ 2 ^ 17 := pow_le hb2
  have esh : (1 : Int32) <<< (J tc &&& 31) = J ((2 ^ tc : Nat) : Int) := J_1sh tc (by omega)
  obtain ⟨pw, hpe⟩ : ∃ pw, 2 ^ tc = pw := ⟨_, rfl⟩
  rw [hpe] at esh hpw
  rw [ht1, wp_bind, wp_some, esh]
  have tn2 : (J (pw : Int)).toNatClampNeg = pw := by rw [J_clamp (by omega) (by omega), Int.toNat_natCast]
  have ti2 : 0 ≤ (J (pw : Int)).toInt ∧ (J (pw : Int)).toInt ≤ 67108864 := by rw [J_toInt (by omega) (by omega)]; omega
  refine (wp_al (by omega) ((o4.2 v (by omega)).1.trans hk) ti2 tn2).mono (fun r5 h5 => ?_)
  obtain ⟨e1, e2, e3, e4, e5, e6, e7⟩ := h5
  have o5 := o4.trans e3
  have p4 := e3
  have p3 := d3.trans p4
  have p2 := c3.trans p3
  have p1 := b3.trans p2
  refine ⟨pw, tc, ht2, hpe.symm, by omega, by omega, o5, (((a5.trans b5 (by omega)).trans c5 (by omega)).trans d5 (by omega)).trans e5 (by omega), (o5.2 v (by omega)).1.trans hk, ?_, ?_, ?_, ?_, ?_, ?_, ?_, ?_, ?_, ?_⟩
  · have := p1.2 (v + 1) (by omega); rw [this.1, this.2, hv]; exact a4
  · have := p2.2 (v + 2) (by omega); rw [this.1, this.2, show v + 2 = r1.1.1 + 1 by omega]; exact b4
  · have := p3.2 (v + 3) (by omega); rw [this.1, this.2, show v + 3 = r2.1.1 + 1 by omega]; exact c4
  · have := p4.2 (v + 4) (by omega); rw [this.1, this.2, show v + 4 = r3.1.1 + 1 by omega]; exact d4
  · rw [show v + 5 = r4.1.1 + 1 by omega]; exact e4
  · rw [e6 _ (by decide), d6 _ (by decide), c6 _ (by decide), b6 _ (by decide), a7]; omega
  · rw [e6 _ (by decide), d6 _ (by decide), c6 _ (by decide), b7]; omega
  · rw [e6 _ (by decide), d6 _ (by decide), c7]; omega
  · rw [e6 _ (by decide), d7]; omega
  · rw [e7]; omega
theorem e_wait (Γ : rhG) (M : rhM) (v : Nat) (n : Int32) : f_X10_init Γ M v n = rhck (Γ.2.2.1 v = 11) ((al Γ M v 4 15 11 1024).bind fun r => (al r.1 r.2 v 1 15 11 n).bind fun r => (al r.1 r.2 v 2 15 11 n).bind fun r => al r.1 r.2 v 3 15 11 n) := by
  rw [f_X10_init]
  simp only [al, rhck_bind, Option.bind_some]
theorem i_wait {v cp : Nat} (hv : v = Γ.1) (hk : Γ.2.2.1 v = 11) (hcp : cp ≤ 60480) : wp (f_X10_init Γ M v (J cp)) (fun r => r.1.1 = Γ.1 + 4 ∧ r.1.2.1 = Γ.2.1 + 1024 + 3 * cp ∧ OldG Γ r.1 ∧ OldM Γ.1 v M r.2 ∧ WSh r.1 r.2 v cp) := by
  have tn : (J cp).toNatClampNeg = cp := by rw [J_clamp (by omega) (by omega), Int.toNat_natCast]
  have ti : 0 ≤ (J cp).toInt ∧ (J cp).toInt ≤ 67108864 := by rw [J_toInt (by omega) (by omega)]; omega
  rw [e_wait, wp_ck_t hk, wp_bind]
  refine (wp_al (by omega) hk (by decide) tn5.2.2).mono (fun r1 h1 => ?_)
  obtain ⟨a1, a2, a3, a4, a5, a6, a7⟩ := h1
  rw [wp_bind]
  refine (wp_al (by omega) ((a3.2 v (by omega)).1.trans hk) ti tn).mono (fun r2 h2 => ?_)
  obtain ⟨b1, b2, b3, b4, b5, b6, b7⟩ := h2
  have o2 := a3.trans b3
  rw [wp_bind]
  refine (wp_al (by omega) ((o2.2 v (by omega)).1.trans hk) ti tn).mono (fun r3 h3 => ?_)
  obtain ⟨c1, c2, c3, c4, c5, c6, c7⟩ := h3
  have o3 := o2.trans c3
  refine (wp_al (by omega) ((o3.2 v (by omega)).1.trans hk) ti tn).mono (fun r4 h4 => ?_)
  obtain ⟨d1, d2, d3, d4, d5, d6, d7⟩ := h4
  have o4 := o3.trans d3
  have p3 := d3
  have p2 := c3.trans p3
  have p1 := b3.trans p2
  refine ⟨by omega, by omega, o4, ((a5.trans b5 (by omega)).trans c5 (by omega)).trans d5 (by omega), (o4.2 v (by omega)).1.trans hk, ?_, ?_, ?_, ?_, ?_, ?_, ?_, ?_⟩
  · have := p1.2 (v + 1) (by omega); rw [this.1, this.2, hv]; exact a4
  · have := p2.2 (v + 2) (by omega); rw [this.1, this.2, show v + 2 = r1.1.1 + 1 by omega]; exact b4
  · have := p3.2 (v + 3) (by omega); rw [this.1, this.2, show v + 3 = r2.1.1 + 1 by omega]; exact c4
  · rw [show v + 4 = r3.1.1 + 1 by omega]; exact d4
  · rw [d6 _ (by decide), c6 _ (by decide), b6 _ (by decide), a7]; omega
  · rw [d6 _ (by decide), c6 _ (by decide), b7]; omega
  · rw [d6 _ (by decide), c7]; omega
  · rw [d7]; omega
theorem e_perm (Γ : rhG) (M : rhM) (v : Nat) (n : Int32) : f_X2_init Γ M v n = rhck (Γ.2.2.1 v = 3) (al Γ M v 0 14 3 (if n < 0 then 0 else n)) := by
  rw [f_X2_init]
  simp only [al]
theorem i_perm {v Ln : Nat} (hv : v = Γ.1) (hk : Γ.2.2.1 v = 3) (hL : Ln ≤ 67108864) : wp (f_X2_init Γ M v (J Ln)) (fun r => r.1.1 = Γ.1 + 1 ∧ r.1.2.1 = Γ.2.1 + Ln ∧ OldG Γ r.1 ∧ OldM Γ.1 v M r.2 ∧ r.1.2.2.1 v = 3 ∧ r.2.2.2 v 0 = v + 1 ∧ r.1.2.2.1 (v + 1) = 14 ∧ r.1.2.2.2 (v + 1) = Ln) := by
  rw [e_perm, wp_ck_t hk, if_neg (by rw [show (0 : Int32) = J 0 from rfl, J_lt (by omega) (by omega) (by omega) (by omega)]; omega)]
  refine (wp_al (by omega) hk (by rw [J_toInt (by omega) (by omega)]; omega) (show (J Ln).toNatClampNeg = Ln by rw [J_clamp (by omega) (by omega), Int.toNat_natCast])).mono (fun r h => ?_)
  obtain ⟨a1, a2, a3, a4, a5, a6, a7⟩ := h
  rw [hv]
  rw [hv] at a5 a7
  exact ⟨a1, a2, a3, a5, by rw [(a3.2 Γ.1 (by omega)).1, ← hv]; exact hk, a7, a4.1, a4.2⟩
end
