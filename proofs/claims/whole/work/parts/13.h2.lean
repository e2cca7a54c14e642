/-! ===== steps 5 and 6 of a TURN, pure: ports given, moves; the whole TURN ===== -/
theorem bU4 {x : Int} (h : 0 ≤ x ∧ x ≤ 1) : 0 ≤ x ∧ x < 4 := by omega
theorem bL4 {x : Int} (h : 2 ≤ x ∧ x ≤ 3) : 0 ≤ x ∧ x < 4 := by omega
theorem neUL {x y : Int} (h : 0 ≤ x ∧ x ≤ 1) (h2 : 2 ≤ y ∧ y ≤ 3) : x ≠ y := by omega
theorem gsA_ok {N : NS} {O : Int → Int} {n v : Int} {s : Int → Int} (h : ORD N O n) (hc : CM3 N) (hs : SEAT N v s) : (∀ k, fly N v k → 0 ≤ gsA N O n s k ∧ gsA N O n s k < 4) ∧ (∀ k l, fly N v k → fly N v l → k ≠ l → gsA N O n s k ≠ gsA N O n s l) ∧ ∀ k, 0 ≤ k → ¬ fly N v k → gsA N O n s k = -1000000 := by
  obtain ⟨f1, f2, f3⟩ := hs
  have a0 := f1 0 (by omega) (by omega)
  have a1 := f1 1 (by omega) (by omega)
  have a2 := f1 2 (by omega) (by omega)
  have a3 := f1 3 (by omega) (by omega)
  have b01 := f2 0 1 (by omega) (by omega) (by omega)
  have b02 := f2 0 2 (by omega) (by omega) (by omega)
  have b03 := f2 0 3 (by omega) (by omega) (by omega)
  have b12 := f2 1 2 (by omega) (by omega) (by omega)
  have b13 := f2 1 3 (by omega) (by omega) (by omega)
  have b23 := f2 2 3 (by omega) (by omega) (by omega)
  have f4 : ∀ k, fly N v k → s 0 = k ∨ s 1 = k ∨ s 2 = k ∨ s 3 = k := fun k hk => by
    obtain ⟨x, hx, e⟩ := f3 k hk
    have : x = 0 ∨ x = 1 ∨ x = 2 ∨ x = 3 := by omega
    rcases this with rfl | rfl | rfl | rfl
    · exact Or.inl e
    · exact Or.inr (Or.inl e)
    · exact Or.inr (Or.inr (Or.inl e))
    · exact Or.inr (Or.inr (Or.inr e))
  have e01 := hA_c (N := N) h a0 a1
  have e23 := hA_c (N := N) h a2 a3
  unfold gsA
  generalize huA N O n (s 0) (s 1) = u0 at *
  generalize hlA N O n (s 0) (s 1) = l0 at *
  generalize huA N O n (s 2) (s 3) = u1 at *
  generalize hlA N O n (s 2) (s 3) = l1 at *
  generalize s 0 = s0 at *
  generalize s 1 = s1 at *
  generalize s 2 = s2 at *
  generalize s 3 = s3 at *
  have c01 : s1 = s0 → s1 = -1000000 := fun z => by rw [z]; exact b01 z.symm
  have c23 : s3 = s2 → s3 = -1000000 := fun z => by rw [z]; exact b23 z.symm
  have gu0 : flyN N v u0 := by rcases e01 with ⟨q, -⟩ | ⟨q, -⟩ <;> rw [q] <;> assumption
  have gl0 : flyN N v l0 := by rcases e01 with ⟨-, q⟩ | ⟨-, q⟩ <;> rw [q] <;> assumption
  have gu1 : flyN N v u1 := by rcases e23 with ⟨q, -⟩ | ⟨q, -⟩ <;> rw [q] <;> assumption
  have gl1 : flyN N v l1 := by rcases e23 with ⟨-, q⟩ | ⟨-, q⟩ <;> rw [q] <;> assumption
  have dU : u0 = u1 → u0 = -1000000 := by rcases e01 with ⟨q1, q2⟩ | ⟨q1, q2⟩ <;> rcases e23 with ⟨q3, q4⟩ | ⟨q3, q4⟩ <;> rw [q1, q3] <;> assumption
  have dL : l0 = l1 → l0 = -1000000 := by rcases e01 with ⟨q1, q2⟩ | ⟨q1, q2⟩ <;> rcases e23 with ⟨q3, q4⟩ | ⟨q3, q4⟩ <;> rw [q2, q4] <;> assumption
  have d00 : u0 = l0 → u0 = -1000000 := by rcases e01 with ⟨q1, q2⟩ | ⟨q1, q2⟩ <;> rw [q1, q2] <;> assumption
  have d01 : u0 = l1 → u0 = -1000000 := by rcases e01 with ⟨q1, q2⟩ | ⟨q1, q2⟩ <;> rcases e23 with ⟨q3, q4⟩ | ⟨q3, q4⟩ <;> rw [q1, q4] <;> assumption
  have d10 : l0 = u1 → l0 = -1000000 := by rcases e01 with ⟨q1, q2⟩ | ⟨q1, q2⟩ <;> rcases e23 with ⟨q3, q4⟩ | ⟨q3, q4⟩ <;> rw [q2, q3] <;> assumption
  have d11 : u1 = l1 → u1 = -1000000 := by rcases e23 with ⟨q1, q2⟩ | ⟨q1, q2⟩ <;> rw [q1, q2] <;> assumption
  have f5 : ∀ k, fly N v k → u0 = k ∨ l0 = k ∨ u1 = k ∨ l1 = k := fun k hk => by
    have := f4 k hk
    rcases e01 with ⟨q1, q2⟩ | ⟨q1, q2⟩ <;> rcases e23 with ⟨q3, q4⟩ | ⟨q3, q4⟩ <;> rw [q1, q2, q3, q4] <;> rcases this with q | q | q | q <;> simp [q]
  clear a0 a1 a2 a3 b01 b02 b03 b12 b13 b23 c01 c23 e01 e23 f1 f2 f3 f4
  obtain ⟨pU1, pU2, pU3, pU4⟩ := outA_c h hc gu0 gu1 (Or.inl rfl) dU
  obtain ⟨pL1, pL2, pL3, pL4⟩ := outA_c h hc gl0 gl1 (Or.inr rfl) dL
  have Z : ∀ k, 0 ≤ k → ¬ fly N v k → (if outA N O n l0 l1 1 k = -1000000 then outA N O n u0 u1 0 k else outA N O n l0 l1 1 k) = -1000000 := fun k hk hn => by
    have hq : ∀ x, flyN N v x → k ≠ x := fun x hx z => by
      rcases hx with y | y
      · rw [z, y] at hk; exact absurd hk (by decide)
      · rw [← z] at y; exact hn y
    rw [if_pos (pL1 k hk (hq _ gl0) (hq _ gl1)), pU1 k hk (hq _ gu0) (hq _ gu1)]
  clear gu0 gu1 gl0 gl1
  have A0 : 0 ≤ l0 → 2 ≤ outA N O n l0 l1 1 l0 ∧ outA N O n l0 l1 1 l0 ≤ 3 := fun q => by have := pL2 q; omega
  have A1 : 0 ≤ l1 → 2 ≤ outA N O n l0 l1 1 l1 ∧ outA N O n l0 l1 1 l1 ≤ 3 := fun q => by have := pL3 q; omega
  have B0 : 0 ≤ u0 → outA N O n l0 l1 1 u0 = -1000000 ∧ 0 ≤ outA N O n u0 u1 0 u0 ∧ outA N O n u0 u1 0 u0 ≤ 1 := fun q => by
    have := pL1 u0 q (fun z => by have := d00 z; omega) (fun z => by have := d01 z; omega)
    have := pU2 q
    omega
  have B1 : 0 ≤ u1 → outA N O n l0 l1 1 u1 = -1000000 ∧ 0 ≤ outA N O n u0 u1 0 u1 ∧ outA N O n u0 u1 0 u1 ≤ 1 := fun q => by
    have := pL1 u1 q (fun z => by have := d10 z.symm; omega) (fun z => by have := d11 z; omega)
    have := pU3 q
    omega
  have C0 : 0 ≤ l0 → (if outA N O n l0 l1 1 l0 = -1000000 then outA N O n u0 u1 0 l0 else outA N O n l0 l1 1 l0) = outA N O n l0 l1 1 l0 := fun q => if_neg (by have := A0 q; omega)
  have C1 : 0 ≤ l1 → (if outA N O n l0 l1 1 l1 = -1000000 then outA N O n u0 u1 0 l1 else outA N O n l0 l1 1 l1) = outA N O n l0 l1 1 l1 := fun q => if_neg (by have := A1 q; omega)
  have D0 : 0 ≤ u0 → (if outA N O n l0 l1 1 u0 = -1000000 then outA N O n u0 u1 0 u0 else outA N O n l0 l1 1 u0) = outA N O n u0 u1 0 u0 := fun q => if_pos (B0 q).1
  have D1 : 0 ≤ u1 → (if outA N O n l0 l1 1 u1 = -1000000 then outA N O n u0 u1 0 u1 else outA N O n l0 l1 1 u1) = outA N O n u0 u1 0 u1 := fun q => if_pos (B1 q).1
  refine ⟨fun k hk => ?_, fun k l hk hl hkl => ?_, Z⟩
  · have k0 := hk.1.1
    rcases f5 k hk with rfl | rfl | rfl | rfl
    · rw [D0 k0]; exact bU4 (B0 k0).2
    · rw [C0 k0]; exact bL4 (A0 k0)
    · rw [D1 k0]; exact bU4 (B1 k0).2
    · rw [C1 k0]; exact bL4 (A1 k0)
  · have k0 := hk.1.1
    have l00 := hl.1.1
    have fk := f5 k hk
    have fl := f5 l hl
    clear f5 hk hl Z
    rcases fk with rfl | rfl | rfl | rfl <;> rcases fl with rfl | rfl | rfl | rfl
    · exact absurd rfl hkl
    · rw [D0 k0, C0 l00]; exact neUL (B0 k0).2 (A0 l00)
    · rw [D0 k0, D1 l00]; exact pU4 k0 l00
    · rw [D0 k0, C1 l00]; exact neUL (B0 k0).2 (A1 l00)
    · rw [C0 k0, D0 l00]; exact (neUL (B0 l00).2 (A0 k0)).symm
    · exact absurd rfl hkl
    · rw [C0 k0, D1 l00]; exact (neUL (B1 l00).2 (A0 k0)).symm
    · rw [C0 k0, C1 l00]; exact pL4 k0 l00
    · rw [D1 k0, D0 l00]; exact fun z => pU4 l00 k0 z.symm
    · rw [D1 k0, C0 l00]; exact neUL (B1 k0).2 (A0 l00)
    · exact absurd rfl hkl
    · rw [D1 k0, C1 l00]; exact neUL (B1 k0).2 (A1 l00)
    · rw [C1 k0, D0 l00]; exact (neUL (B0 l00).2 (A1 k0)).symm
    · rw [C1 k0, C0 l00]; exact fun z => pL4 l00 k0 z.symm
    · rw [C1 k0, D1 l00]; exact (neUL (B1 l00).2 (A1 k0)).symm
    · exact absurd rfl hkl
/-- by which port each goes -/
abbrev swA (N : NS) (v : Int) : Prop := n_sc N 2 = 2 ∧ n_sc N (13 + v) = 15
noncomputable def goA (N : NS) (O : Int → Int) (n k : Int) : Int := if (0 ≤ k ∧ k < n_sc N 5) ∧ n_le N k 3 = 1 then (if swA N (n_le N k 4) then gsA N O n (stA N O n (n_le N k 4)) k else pkA N k (lfA N O (n_le N k 4) (psO O n k))) else -1000000
/-- what the moves need of the ports -/
def GOK (N : NS) (G : Int → Int) : Prop := (∀ k, 0 ≤ k → k < n_sc N 5 → n_le N k 3 = 1 → (0 ≤ G k ∧ G k < 4) ∧ hasB (n_sc N (13 + n_le N k 4)) (G k) = true) ∧ ∀ k l, (0 ≤ k ∧ k < n_sc N 5) → (0 ≤ l ∧ l < n_sc N 5) → k ≠ l → n_le N k 3 = 1 → n_le N l 3 = 1 → n_le N k 4 = n_le N l 4 → G k ≠ G l
def ROOM (N : NS) : Prop := ∀ v, 0 ≤ v → v < nd N → hrA N v ≤ lkA N v
theorem on_15 : onE 15 = 4 := by decide +kernel
theorem lf_sub0 {N : NS} {O : Int → Int} {n v T : Int} (h : ORD N O n) (hw : WF N T) (hv : 0 ≤ v ∧ v < nd N) (hl : hrA N v ≤ lkA N v) {q i : Int} (q0 : 0 ≤ q ∧ q < 4) (h0 : 0 ≤ i) (h1 : i ≤ n) (e : hasB (lfA N O v i) q = true) : hasB (n_sc N (13 + v)) q = true := by
  by_cases z : hasB (n_sc N (13 + v)) q = true
  · exact z
  · have z' : hasB (lfA N O v 0) q = false := by show hasB (n_sc N (13 + v)) q = false; simpa using z
    have := lfA_sub h hw hv hl q0 (i := 0) (by omega) z' i.toNat (by omega)
    rw [show (0 : Int) + (i.toNat : Int) = i by omega, e] at this
    cases this
theorem goA_ok {N : NS} {O : Int → Int} {n T : Int} (h : ORD N O n) (hw : WF N T) (hf : FCM N) (hr : ROOM N) : GOK N (goA N O n) := by
  have hat : ∀ k, 0 ≤ k → k < n_sc N 5 → 0 ≤ n_le N k 4 ∧ n_le N k 4 < nd N := fun k a b => (hw.2.2.2.2 k a b).1.2.2.2.2
  have key : ∀ k, 0 ≤ k → k < n_sc N 5 → n_le N k 3 = 1 → goA N O n k = if swA N (n_le N k 4) then gsA N O n (stA N O n (n_le N k 4)) k else pkA N k (lfA N O (n_le N k 4) (psO O n k)) := fun k a b c => by
    unfold goA
    rw [if_pos ⟨⟨a, b⟩, c⟩]
  have hst : ∀ v, 0 ≤ v → v < nd N → swA N v → SEAT N v (stA N O n v) := fun v a b c => stA_ok h hw hf (by
    have := hr v a b
    have e : lkA N v = 4 := by unfold lkA; rw [c.2]; exact on_15
    omega)
  have hps : ∀ k, 0 ≤ k → k < n_sc N 5 → n_le N k 3 = 1 → (0 ≤ psO O n k ∧ psO O n k < n) ∧ O (psO O n k) = k := fun k a b c => by
    rcases psO_c (O := O) h.1.1 k with ⟨-, q⟩ | q
    · obtain ⟨i, hi, e⟩ := h.2.2.2 k a b c
      exact absurd e (q i hi.1 hi.2)
    · exact q
  constructor
  · intro k a b c
    have hv := hat k a b
    rw [key k a b c]
    by_cases q : swA N (n_le N k 4)
    · rw [if_pos q]
      have := (gsA_ok h (WF_cm hw) (hst _ hv.1 hv.2 q)).1 k ⟨⟨a, b⟩, c, rfl⟩
      refine ⟨this, ?_⟩
      rw [q.2]
      obtain ⟨p, hp⟩ := Int.eq_ofNat_of_zero_le this.1
      rw [hp]
      exact has_15 p (by omega)
    · rw [if_neg q]
      have hp := hps k a b c
      have := lfA_pk h hw hv (hr _ hv.1 hv.2) hp.1.1 hp.1.2 (by rw [hp.2])
      rw [hp.2] at this
      exact ⟨this.1, lf_sub0 h hw hv (hr _ hv.1 hv.2) this.1 hp.1.1 (by omega) this.2⟩
  · intro k l hk hl hkl ck cl e
    have hv := hat k hk.1 hk.2
    rw [key k hk.1 hk.2 ck, key l hl.1 hl.2 cl, ← e]
    by_cases q : swA N (n_le N k 4)
    · rw [if_pos q, if_pos q]
      exact (gsA_ok h (WF_cm hw) (hst _ hv.1 hv.2 q)).2.1 k l ⟨hk, ck, rfl⟩ ⟨hl, cl, e.symm⟩ hkl
    · rw [if_neg q, if_neg q]
      have pk := hps k hk.1 hk.2 ck
      have pl := hps l hl.1 hl.2 cl
      have hne : psO O n k ≠ psO O n l := fun z => hkl (by rw [← pk.2, ← pl.2, z])
      rcases Int.lt_or_lt_of_ne hne with z | z
      · have := lfA_ne h hw hv (hr _ hv.1 hv.2) pk.1.1 z pl.1.2 (by rw [pk.2]) (by rw [pl.2, e])
        rw [pk.2, pl.2] at this
        exact this
      · have := lfA_ne h hw hv (hr _ hv.1 hv.2) pl.1.1 z pk.1.2 (by rw [pl.2, e]) (by rw [pk.2])
        rw [pk.2, pl.2] at this
        exact fun y => this y.symm
/-- the moves -/
def flP (N : NS) (k : Int) : Bool := decide ((0 ≤ k ∧ k < n_sc N 5) ∧ n_le N k 3 = 1)
def mvU (N : NS) (G : Int → Int) (k f : Int) : Int := if f = 4 then byA N (n_le N k 4) (G k) else if f = 5 then n_le N k 5 + 1 else if f = 6 then n_le N k 6 + (if dA N (byA N (n_le N k 4) (G k)) (n_le N k 2) < dA N (n_le N k 4) (n_le N k 2) then 0 else 1) else if f = 7 then (G k + 2) % 4 else n_le N k f
def mvS (N : NS) (P : Int → Bool) (G : Int → Int) (t : Int) : NS := (fun i => if i = 4 then t else n_sc N i, n_gd N, n_lg N, fun k f => if P k then mvU N G k f else n_le N k f)
def mvA (N : NS) (G : Int → Int) : NS := mvS N (flP N) G (n_sc N 4 + 1)
def YNG (N : NS) : Prop := ∀ k, 0 ≤ k → k < n_sc N 5 → n_le N k 3 = 1 → n_le N k 5 < n_sc N 3
def FC0 (N : NS) : Prop := FCM N ∧ ∀ k, 0 ≤ k → k < n_sc N 5 → n_le N k 3 = 1 → 0 ≤ n_le N k 7
theorem mvA_le {N : NS} {G : Int → Int} {k f : Int} : n_le (mvA N G) k f = if flP N k = true then mvU N G k f else n_le N k f := rfl
theorem mvA_sc {N : NS} {G : Int → Int} {i : Int} (h : i ≠ 4) : n_sc (mvA N G) i = n_sc N i := by
  show (if i = 4 then _ else n_sc N i) = _
  rw [if_neg h]
theorem mvA_4 {N : NS} {G : Int → Int} : n_sc (mvA N G) 4 = n_sc N 4 + 1 := by
  show (if (4 : Int) = 4 then n_sc N 4 + 1 else n_sc N 4) = _
  rw [if_pos rfl]
theorem mvA_3 {N : NS} {G : Int → Int} {k : Int} : n_le (mvA N G) k 3 = n_le N k 3 := by
  rw [mvA_le]
  split
  · simp [mvU]
  · rfl
theorem flP_of {N : NS} {k : Int} (h : 0 ≤ k ∧ k < n_sc N 5) (h1 : n_le N k 3 = 1) : flP N k = true := decide_eq_true ⟨h, h1⟩
theorem WF_mv {N : NS} {G : Int → Int} {T : Int} (h : WF N T) (hT : n_sc N 4 < T) (hg : GOK N G) (hy : YNG N) : WF (mvA N G) T := by
  obtain ⟨d, k, ⟨g1, g2⟩, ⟨l1, l2⟩, q⟩ := h
  have e5 : n_sc (mvA N G) 5 = n_sc N 5 := mvA_sc (by decide)
  have e0 : n_sc (mvA N G) 0 = n_sc N 0 := mvA_sc (by decide)
  have e1 : n_sc (mvA N G) 1 = n_sc N 1 := mvA_sc (by decide)
  have e2 : n_sc (mvA N G) 2 = n_sc N 2 := mvA_sc (by decide)
  have e3 : n_sc (mvA N G) 3 = n_sc N 3 := mvA_sc (by decide)
  have e4 : n_sc (mvA N G) 4 = n_sc N 4 + 1 := mvA_4
  have ed : nd (mvA N G) = nd N := by show n_sc _ 0 * n_sc _ 1 = _; rw [e0, e1]
  refine ⟨?_, fun v v0 v1 => ?_, ⟨g1, fun x hx => ?_⟩, ⟨fun x hx => ?_, fun P => ?_⟩, fun j j0 j1 => ?_⟩
  · unfold DIMS at d ⊢
    rw [e0, e1, e2, e3, e4, e5]
    omega
  · rw [ed] at v1
    have := k v v0 v1
    have b := WF_nd (T := T) (N := N) ⟨d, k, ⟨g1, g2⟩, ⟨l1, l2⟩, q⟩
    rw [mvA_sc (by omega), mvA_sc (by omega), e0, e1, e2]
    refine ⟨this.1, this.2.1, fun p p0 p1 hp => ?_⟩
    have z := this.2.2 p p0 p1 hp
    have zb := byd_f d.1 d.2.1 ⟨v0, v1⟩ ⟨p0, p1⟩
    rw [mvA_sc (by omega)]
    exact z
  · rw [mvA_3, e5]; exact g2 x hx
  · rw [mvA_3, e5]; exact l1 x hx
  · rw [e5]
    show ((List.countP P (n_lg N) : Nat) : Int) = _
    rw [l2 P]
    refine cntM_cg d.2.2.2.2.2.1 (fun k q1 q2 => ?_)
    rw [mvA_3]
  · rw [e5] at j1
    rw [ed]
    have hq := q j j0 j1
    by_cases z : flP N j = true
    · have z1 := of_decide_eq_true z
      have hgk := hg.1 j j0 j1 z1.2
      have hyk := hy j j0 j1 z1.2
      have hb := (byd_f d.1 d.2.1 hq.1.2.2.2.2 hgk.1).1
      have hl : n_sc N 3 ≤ 99 := d.2.2.2.1.2
      have e : n_le (mvA N G) j = mvU N G j := by funext f; rw [mvA_le, if_pos z]
      rw [e]
      unfold LW at hq ⊢
      have u4 : mvU N G j 4 = byA N (n_le N j 4) (G j) := rfl
      have u5 : mvU N G j 5 = n_le N j 5 + 1 := rfl
      have u6 : mvU N G j 6 = n_le N j 6 + (if dA N (byA N (n_le N j 4) (G j)) (n_le N j 2) < dA N (n_le N j 4) (n_le N j 2) then 0 else 1) := rfl
      have u7 : mvU N G j 7 = (G j + 2) % 4 := rfl
      have u0 : mvU N G j 0 = n_le N j 0 := rfl
      have u1 : mvU N G j 1 = n_le N j 1 := rfl
      have u2 : mvU N G j 2 = n_le N j 2 := rfl
      have u3 : mvU N G j 3 = n_le N j 3 := rfl
      have u8 : mvU N G j 8 = n_le N j 8 := rfl
      have u9 : mvU N G j 9 = n_le N j 9 := rfl
      have u11 : mvU N G j 11 = n_le N j 11 := rfl
      rw [u0, u1, u2, u3, u4, u5, u6, u7, u8, u9, u11]
      have hz : (if dA N (byA N (n_le N j 4) (G j)) (n_le N j 2) < dA N (n_le N j 4) (n_le N j 2) then (0 : Int) else 1) = 0 ∨ (if dA N (byA N (n_le N j 4) (G j)) (n_le N j 2) < dA N (n_le N j 4) (n_le N j 2) then (0 : Int) else 1) = 1 := by split <;> simp
      generalize (if dA N (byA N (n_le N j 4) (G j)) (n_le N j 2) < dA N (n_le N j 4) (n_le N j 2) then (0 : Int) else 1) = w at *
      have hb1 : 0 ≤ byA N (n_le N j 4) (G j) ∧ byA N (n_le N j 4) (G j) < nd N := hb
      generalize byA N (n_le N j 4) (G j) = bb at *
      omega
    · have e : n_le (mvA N G) j = n_le N j := by funext f; rw [mvA_le, if_neg z]
      rw [e]; exact hq
theorem FC0_mv {N : NS} {G : Int → Int} {T : Int} (h : WF N T) (hg : GOK N G) : FC0 (mvA N G) := by
  have e5 : n_sc (mvA N G) 5 = n_sc N 5 := mvA_sc (by decide)
  have r4 : ∀ k, 0 ≤ k ∧ k < n_sc N 5 → n_le N k 3 = 1 → n_le (mvA N G) k 4 = byA N (n_le N k 4) (G k) ∧ n_le (mvA N G) k 7 = (G k + 2) % 4 := fun k a b => by
    rw [mvA_le, mvA_le, if_pos (flP_of a b), if_pos (flP_of a b)]
    exact ⟨rfl, rfl⟩
  constructor
  · intro k l hk hl hkl ck cl e4 e7
    rw [e5] at hk hl
    rw [mvA_3] at ck cl
    have rk := r4 k hk ck
    have rl := r4 l hl cl
    have gk := hg.1 k hk.1 hk.2 ck
    have gl := hg.1 l hl.1 hl.2 cl
    rw [rk.1, rl.1] at e4
    rw [rk.2, rl.2] at e7
    have hG : G k = G l := by omega
    have bk := byd_f h.1.1 h.1.2.1 (h.2.2.2.2 k hk.1 hk.2).1.2.2.2.2 gk.1
    have bl := byd_f h.1.1 h.1.2.1 (h.2.2.2.2 l hl.1 hl.2).1.2.2.2.2 gl.1
    have e4' : byd (n_sc N 0) (n_sc N 1) (n_le N k 4) (G k) = byd (n_sc N 0) (n_sc N 1) (n_le N l 4) (G l) := e4
    have : n_le N k 4 = n_le N l 4 := by rw [← bk.2.1, ← bl.2.1, e4', hG]
    exact hg.2 k l hk hl hkl ck cl this hG
  · intro k k0 k1 ck
    rw [e5] at k1
    rw [mvA_3] at ck
    have rk := r4 k ⟨k0, k1⟩ ck
    have gk := hg.1 k k0 k1 ck
    rw [rk.2]
    omega
