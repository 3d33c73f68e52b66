theorem rh_hasRoom {s : State} {pl : Platform} {r r' : Room} (hf : r.frames ≤ r'.frames) (hl : r.locals ≤ r'.locals) (hc : r.cells ≤ r'.cells) (hs : r.slots ≤ r'.slots) (h : s.hasRoom pl r' = true) : s.hasRoom pl r = true := by
  simp only [State.hasRoom, Bool.and_eq_true, decide_eq_true_eq] at h ⊢
  obtain ⟨⟨⟨⟨y, a, b, c, d, e⟩, f⟩, g⟩, i⟩ := h
  exact ⟨⟨⟨⟨by omega, by omega, by omega, by omega, by omega, e⟩, by omega⟩, by omega⟩, i⟩
theorem rh_wider {p : Program} {l : Launch} {e : Env} {R R' : Room} {s : State} {m : MethodId} {args : Array Value} {below : List Frame} {meth : Method} {c : Code} {H : Heap} {locs : List Loc} {cells slots : Nat} {Q Q' : State → Prop} {g : JFrame} (hf : R'.frames ≤ R.frames) (hl : R'.locals ≤ R.locals) (hc : R'.cells ≤ R.cells) (hs : R'.slots ≤ R.slots) (hQ : ∀ t, Q t → Q' t)
    (k : W p l e R' s m args below meth c H locs cells slots Q g) : W p l e R s m args below meth c H locs cells slots Q' g := by
  intro T hT X
  obtain ⟨t, a, b⟩ := k T hT { X with room := rh_hasRoom hf hl hc hs X.room }
  exact ⟨t, a, hQ t b⟩
theorem rh_tbl : ∀ {args : Array Value} {s : State}, (∀ w ∈ lw_tbl, w.before args s = true) → ∀ w ∈ rhTs, w.before args s = true := fun h w hw => h w (List.mem_filter.mp hw).1
def rhsel {α : Type} (l : List α) (d : α) (k : Nat) : α := l.getD k d
/-- the classes, as the tables have them -/
theorem rh_classes {args : Array Value} {s : State} (hts : ∀ w ∈ lw_tbl, w.before args s = true) : ∃ (dC : Nat → ClassId) (dI : Nat → Nat → Nat), ∀ (k : Nat) (q : vw_C), vwCl[k]? = some q → u_Kn s q.1 q.2.1 q.2.2 (dC k) (dI k) := by
  have ht := rh_tbl hts
  obtain ⟨c0, i0, h0⟩ := u_known (C := RX0) (T := TX0) (N := 7) (n := 7) ht rhin0 (ht _ (rhTs_in 1003 (by decide +kernel) (by decide +kernel)))
  obtain ⟨c1, i1, h1⟩ := u_known (C := RX1) (T := TX1) (N := 6) (n := 6) ht rhin1 (ht _ (rhTs_in 308 (by decide +kernel) (by decide +kernel)))
  obtain ⟨c2, i2, h2⟩ := u_known (C := RX2) (T := TX2) (N := 2) (n := 2) ht rhin2 (ht _ (rhTs_in 494 (by decide +kernel) (by decide +kernel)))
  obtain ⟨c3, i3, h3⟩ := u_known (C := RX3) (T := TX3) (N := 3) (n := 3) ht rhin3 (ht _ (rhTs_in 461 (by decide +kernel) (by decide +kernel)))
  obtain ⟨c4, i4, h4⟩ := u_known (C := RX4) (T := TX4) (N := 12) (n := 12) ht rhin4 (ht _ (rhTs_in 162 (by decide +kernel) (by decide +kernel)))
  obtain ⟨c5, i5, h5⟩ := u_known (C := RX5) (T := TX5) (N := 11) (n := 11) ht rhin5 (ht _ (rhTs_in 997 (by decide +kernel) (by decide +kernel)))
  obtain ⟨c6, i6, h6⟩ := u_known (C := RX6) (T := TX6) (N := 15) (n := 15) ht rhin6 (ht _ (rhTs_in 486 (by decide +kernel) (by decide +kernel)))
  obtain ⟨c7, i7, h7⟩ := u_known (C := RX7) (T := TX7) (N := 12) (n := 12) ht rhin7 (ht _ (rhTs_in 405 (by decide +kernel) (by decide +kernel)))
  obtain ⟨c8, i8, h8⟩ := u_known (C := RX8) (T := TX8) (N := 10) (n := 10) ht rhin8 (ht _ (rhTs_in 168 (by decide +kernel) (by decide +kernel)))
  obtain ⟨c9, i9, h9⟩ := u_known (C := RX9) (T := TX9) (N := 12) (n := 12) ht rhin9 (ht _ (rhTs_in 302 (by decide +kernel) (by decide +kernel)))
  obtain ⟨c10, i10, h10⟩ := u_known (C := RX10) (T := TX10) (N := 5) (n := 5) ht rhin10 (ht _ (rhTs_in 1034 (by decide +kernel) (by decide +kernel)))
  obtain ⟨c11, i11, h11⟩ := u_known (C := RX11) (T := TX11) (N := 17) (n := 17) ht rhin11 (ht _ (rhTs_in 154 (by decide +kernel) (by decide +kernel)))
  obtain ⟨c12, i12, h12⟩ := u_known (C := RX12) (T := TX12) (N := 90) (n := 90) ht rhin12 (ht _ (rhTs_in 1418 (by decide +kernel) (by decide +kernel)))
  refine ⟨fun k => match k with | 0 => c0 | 1 => c1 | 2 => c2 | 3 => c3 | 4 => c4 | 5 => c5 | 6 => c6 | 7 => c7 | 8 => c8 | 9 => c9 | 10 => c10 | 11 => c11 | _ => c12, fun k => match k with | 0 => i0 | 1 => i1 | 2 => i2 | 3 => i3 | 4 => i4 | 5 => i5 | 6 => i6 | 7 => i7 | 8 => i8 | 9 => i9 | 10 => i10 | 11 => i11 | _ => i12, ?_⟩
  intro k q hq
  rcases (show k = 0 ∨ k = 1 ∨ k = 2 ∨ k = 3 ∨ k = 4 ∨ k = 5 ∨ k = 6 ∨ k = 7 ∨ k = 8 ∨ k = 9 ∨ k = 10 ∨ k = 11 ∨ k = 12 ∨ 13 ≤ k by omega) with rfl | rfl | rfl | rfl | rfl | rfl | rfl | rfl | rfl | rfl | rfl | rfl | rfl | h
  · cases hq; exact h0
  · cases hq; exact h1
  · cases hq; exact h2
  · cases hq; exact h3
  · cases hq; exact h4
  · cases hq; exact h5
  · cases hq; exact h6
  · cases hq; exact h7
  · cases hq; exact h8
  · cases hq; exact h9
  · cases hq; exact h10
  · cases hq; exact h11
  · cases hq; exact h12
  · rw [List.getElem?_eq_none (by exact h)] at hq; cases hq
theorem rh_arr {args : Array Value} {s : State} {ty : FieldType} (h : (Cond.arrayClass ty).before args s = true) (hty : ∀ C, ty ≠ .object C) : ∃ cA : ClassId, ArrOfT s cA ty ∧ va_RA s cA ty := by
  obtain ⟨cA, kA, comp, h1, h2, h3⟩ := Cond.arrayClass_spec h
  refine ⟨cA, fun n z => ⟨fun k h => (by cases h), kA, h2, comp, h3⟩, ?_⟩
  unfold va_RA
  cases ty <;> first | exact absurd rfl (hty _) | exact h1
theorem rh_arrO {args : Array Value} {s : State} {C : String} (h : (Cond.arrayOver (.object C)).before args s = true) : ∃ cA : ClassId, ArrOfT s cA (.object C) ∧ va_RA s cA (.object C) := by
  obtain ⟨comp, cA, kA, h1, -, h2, h3, h4⟩ := Cond.arrayOver_spec h
  exact ⟨cA, fun n z => ⟨fun k h => (by cases h), kA, h2, comp, h3⟩, kA, comp, h2, h3, h1, h4⟩
theorem rh_flat : ∀ i, i < 2 → ∀ j, j < [rhby0.length, rhby1.length].getD i 0 → Cond.eq (.elem (.field (.string "RailHouses$Tokens" ([19, 82].getD i 0)) "java/lang/String" "value" "[B") (.int (Int32.ofNat j))) (.int (([rhby0, rhby1].getD i []).getD j 0)) ∈ flatC (Jvm.Cond.and given_1 narrow_1) := by decide +kernel
theorem rh_eqst {args : Array Value} {s : State} {C n d : String} {v : Int32} (h : (Cond.eq (.static C n d) (.int v)).before args s = true) : (Term.static C n d).eval args s none [] s = some (.int v) := by
  simp only [Cond.before, Cond.holds, Cond.value] at h
  cases hv : (Term.static C n d).eval args s none [] s with
  | none => rw [hv] at h; simp at h
  | some w =>
    rw [hv] at h
    cases w <;> simp [Term.eval] at h
    · rw [h]
theorem rh_start {s : State} {b L : Nat} {xs : Nat → Int32} (hts : ∀ w ∈ lw_tbl, w.before #[Value.ref b] s = true) (hX : va_X b L xs s s.heap) (hbl : b < s.heap.size) (hgv : (Jvm.Cond.and given_1 narrow_1).before #[Value.ref b] s = true) :
    ∃ E : rhE, E.1 = s.heap.size ∧ E.2.2.2.2 = (L, xs) ∧ E.2.2.2.1 5 = b ∧ va_K E.2.1 vwCl (rhtys E) s ∧ rhS E s s.heap := by
  obtain ⟨dC, dI, hK⟩ := rh_classes hts
  have ht := rh_tbl hts
  have hf := flat_of_before _ hgv
  obtain ⟨a0, k0, r0⟩ := rh_arr (ty := .byte) (ht _ (rhTs_in 259 (by decide +kernel) (by decide +kernel))) (fun C h => by cases h)
  obtain ⟨a1, k1, r1⟩ := rh_arr (ty := .int) (ht _ (rhTs_in 300 (by decide +kernel) (by decide +kernel))) (fun C h => by cases h)
  obtain ⟨a2, k2, r2⟩ := rh_arr (ty := .long) (ht _ (rhTs_in 260 (by decide +kernel) (by decide +kernel))) (fun C h => by cases h)
  obtain ⟨a3, k3, r3⟩ := rh_arr (ty := .boolean) (ht _ (rhTs_in 334 (by decide +kernel) (by decide +kernel))) (fun C h => by cases h)
  have o4 : (Cond.arrayOver (.object RX3)).before #[Value.ref b] s = true := hts _ (List.mem_of_getElem? (i := 484) (by decide +kernel))
  have o5 : (Cond.arrayOver (.object RX7)).before #[Value.ref b] s = true := hts _ (List.mem_of_getElem? (i := 492) (by decide +kernel))
  obtain ⟨a4, k4, r4⟩ := rh_arrO o4
  obtain ⟨a5, k5, r5⟩ := rh_arrO o5
  have hA : ∀ a : Nat, a < s.heap.size → ¬ (fun q : Nat => s.heap.size ≤ q) a := fun a h => Nat.not_le.mpr h
  obtain ⟨adK, adV, hv, he⟩ := vk_Sof (args := #[Value.ref b]) (s := s) (N := 2) (tm := fun i => .string "RailHouses$Tokens" ([19, 82].getD i 0)) (len := [rhby0.length, rhby1.length]) (byt := [rhby0, rhby1]) (A := fun q : Nat => s.heap.size ≤ q)
    (by decide +kernel)
    (fun i hi => by rcases (show i = 0 ∨ i = 1 by omega) with rfl | rfl <;> exact hf _ (by decide +kernel))
    (fun i hi => by rcases (show i = 0 ∨ i = 1 by omega) with rfl | rfl <;> exact hf _ (by decide +kernel))
    (fun i hi => by rcases (show i = 0 ∨ i = 1 by omega) with rfl | rfl <;> exact hf _ (by decide +kernel))
    (fun i hi => by rcases (show i = 0 ∨ i = 1 by omega) with rfl | rfl <;> exact hf _ (by decide +kernel))
    (fun i hi j hj => hf _ (rh_flat i hi j hj))
    (fun i j hi hj hij => by
      rcases (show i = 0 ∨ i = 1 by omega) with rfl | rfl <;> rcases (show j = 0 ∨ j = 1 by omega) with rfl | rfl
      · exact absurd rfl hij
      · exact Or.inl (hf _ (by decide +kernel))
      · exact Or.inr (hf _ (by decide +kernel))
      · exact absurd rfl hij)
    hA
  have hini : ∀ w ∈ lw_tbl, w.before #[Value.ref b] s = true := hts
  have z1 : va_Z "java/lang/String" "COMPACT_STRINGS" "Z" (.int 1) (fun q : Nat => s.heap.size ≤ q) s s.heap := by
    refine va_Zof (hts _ (List.mem_of_getElem? (i := 183) (by decide +kernel))) (ht _ (rhTs_in 135 (by decide +kernel) (by decide +kernel))) ?_ hA
    have h1 : (Cond.eq (.static "java/lang/String" "COMPACT_STRINGS" "Z") (.int 1)).before #[Value.ref b] s = true := hf _ (by decide +kernel)
    exact rh_eqst h1
  have z2 := va_Zqof (A := fun q : Nat => s.heap.size ≤ q) (hts (.laysStatic "jdk/internal/util/Preconditions" "SIOOBE_FORMATTER" "Ljava/util/function/BiFunction;") (List.mem_of_getElem? (i := 199) (by decide +kernel))) (ht _ (rhTs_in 137 (by decide +kernel) (by decide +kernel))) (hf _ (by decide +kernel)) hA
  obtain ⟨fm, hfm⟩ : ∃ fm : Nat, va_Z "jdk/internal/util/Preconditions" "SIOOBE_FORMATTER" "Ljava/util/function/BiFunction;" .null (fun q : Nat => s.heap.size ≤ q) s s.heap ∨ va_Z "jdk/internal/util/Preconditions" "SIOOBE_FORMATTER" "Ljava/util/function/BiFunction;" (.ref fm) (fun q : Nat => s.heap.size ≤ q) s s.heap := by
    rcases z2 with h | ⟨t, h⟩
    · exact ⟨0, Or.inl h⟩
    · exact ⟨t, Or.inr h⟩
  have q0 := he 0 (by decide)
  have q1 := he 1 (by decide)
  refine ⟨(s.heap.size, (dC, dI), (fun k => match k with | 0 => a0 | 1 => a1 | 2 => a2 | 3 => a3 | 4 => a4 | _ => a5), (fun k => match k with | 0 => adK 0 | 1 => adK 1 | 2 => adV 0 | 3 => adV 1 | 4 => fm | _ => b), L, xs), rfl, rfl, rfl, ⟨hK, fun k q hq => ?_⟩, ?_⟩
  · rcases (show k = 0 ∨ k = 1 ∨ k = 2 ∨ k = 3 ∨ k = 4 ∨ k = 5 ∨ 6 ≤ k by omega) with rfl | rfl | rfl | rfl | rfl | rfl | h
    · cases hq; exact ⟨k0, r0⟩
    · cases hq; exact ⟨k1, r1⟩
    · cases hq; exact ⟨k2, r2⟩
    · cases hq; exact ⟨k3, r3⟩
    · cases hq; exact ⟨k4, r4⟩
    · cases hq; exact ⟨k5, r5⟩
    · rw [List.getElem?_eq_none (by exact h)] at hq; cases hq
  · refine ⟨vk_R.of (hts _ (List.mem_of_getElem? (i := 173) (by decide +kernel))) q0, vk_R.of (hts _ (List.mem_of_getElem? (i := 687) (by decide +kernel))) q1, ?_, z1, hfm, o4, o5, ?_, hbl, hX⟩
    · refine ⟨fun i hi => ?_, fun i j hi hj => ?_⟩
      · rcases (show i = 0 ∨ i = 1 by omega) with rfl | rfl
        · exact hv.1 0 (by decide)
        · exact hv.1 1 (by decide)
      · rcases (show i = 0 ∨ i = 1 by omega) with rfl | rfl <;> rcases (show j = 0 ∨ j = 1 by omega) with rfl | rfl
        · exact fun _ => rfl
        · exact fun h => hv.2 0 1 (by decide) (by decide) h
        · exact fun h => hv.2 1 0 (by decide) (by decide) h
        · exact fun _ => rfl
    · intro q hq
      simp only [rhnl, List.mem_cons, List.not_mem_nil, or_false] at hq
      rcases hq with rfl | rfl | rfl | rfl | rfl | rfl | rfl
      · exact va_Nw.of rfl (hts _ (List.mem_of_getElem? (i := 163) (by decide +kernel)))
      · exact va_Nw.of rfl (hts _ (List.mem_of_getElem? (i := 998) (by decide +kernel)))
      · exact va_Nw.of rfl (hts _ (List.mem_of_getElem? (i := 406) (by decide +kernel)))
      · exact va_Nw.of rfl (hts _ (List.mem_of_getElem? (i := 1035) (by decide +kernel)))
      · exact va_Nw.of rfl (hts _ (List.mem_of_getElem? (i := 1061) (by decide +kernel)))
      · exact va_Nw.of rfl (hts _ (List.mem_of_getElem? (i := 507) (by decide +kernel)))
      · exact va_Nw.of rfl (hts _ (List.mem_of_getElem? (i := 309) (by decide +kernel)))
