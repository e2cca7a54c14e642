/-! ===== walks and distances, pure ===== -/
def wkG (E : Int → Int → Bool) (nx : Int → Int → Int) : Nat → Int → Int → Bool
  | 0, u, v => decide (u = v)
  | k + 1, u, v => (List.range 4).any (fun p => E u (p : Int) && wkG E nx k (nx u (p : Int)) v)
theorem wk_G {w h : Int} {L : Int → Int} : ∀ (k : Nat) (u v : Int), wkB w h L k u v = wkG (fun u p => hasB (L u) p) (byd w h) k u v := by
  intro k
  induction k with
  | zero => intro u v; rfl
  | succ k ih =>
    intro u v
    show (List.range 4).any (fun p => _ && wkB w h L k (byd w h u (p : Int)) v) = (List.range 4).any (fun p => _ && wkG _ _ k (byd w h u (p : Int)) v)
    congr 1
    funext p
    rw [ih]
    rfl
theorem wkG_s {E : Int → Int → Bool} {nx : Int → Int → Int} {k : Nat} {u v : Int} : wkG E nx (k + 1) u v = true ↔ ∃ p, (0 ≤ p ∧ p < 4) ∧ E u p = true ∧ wkG E nx k (nx u p) v = true := by
  show (List.range 4).any _ = true ↔ _
  rw [List.any_eq_true]
  constructor
  · rintro ⟨p, hp, h⟩
    rw [List.mem_range] at hp
    rw [Bool.and_eq_true] at h
    exact ⟨(p : Int), by omega, h⟩
  · rintro ⟨p, hp, h⟩
    obtain ⟨q, rfl⟩ := Int.eq_ofNat_of_zero_le hp.1
    exact ⟨q, List.mem_range.mpr (by omega), by rw [Bool.and_eq_true]; exact h⟩
theorem wkG_0 {E : Int → Int → Bool} {nx : Int → Int → Int} {u v : Int} : wkG E nx 0 u v = true ↔ u = v := by
  show decide (u = v) = true ↔ _
  exact decide_eq_true_iff
theorem wkG_snoc {E : Int → Int → Bool} {nx : Int → Int → Int} {p w : Int} (hp : 0 ≤ p ∧ p < 4) (he : E w p = true) : ∀ (k : Nat) (u : Int), wkG E nx k u w = true → wkG E nx (k + 1) u (nx w p) = true := by
  intro k
  induction k with
  | zero =>
    intro u h
    rw [wkG_0] at h
    subst h
    exact wkG_s.mpr ⟨p, hp, he, wkG_0.mpr rfl⟩
  | succ k ih =>
    intro u h
    obtain ⟨q, hq, h1, h2⟩ := wkG_s.mp h
    exact wkG_s.mpr ⟨q, hq, h1, ih _ h2⟩
theorem wkG_un {E : Int → Int → Bool} {nx : Int → Int → Int} {v : Int} : ∀ (k : Nat) (u : Int), wkG E nx (k + 1) u v = true → ∃ w p, (0 ≤ p ∧ p < 4) ∧ wkG E nx k u w = true ∧ E w p = true ∧ nx w p = v := by
  intro k
  induction k with
  | zero =>
    intro u h
    obtain ⟨q, hq, h1, h2⟩ := wkG_s.mp h
    rw [wkG_0] at h2
    exact ⟨u, q, hq, wkG_0.mpr rfl, h1, h2⟩
  | succ k ih =>
    intro u h
    obtain ⟨q, hq, h1, h2⟩ := wkG_s.mp h
    obtain ⟨w, p, hp, a, b, c⟩ := ih _ h2
    exact ⟨w, p, hp, wkG_s.mpr ⟨q, hq, h1, a⟩, b, c⟩
/-- a graph on 0 .. D - 1 -/
def GRC (E : Int → Int → Bool) (nx : Int → Int → Int) (D : Int) : Prop := ∀ u p, (0 ≤ u ∧ u < D) → (0 ≤ p ∧ p < 4) → E u p = true → 0 ≤ nx u p ∧ nx u p < D
def GRS (E : Int → Int → Bool) (nx : Int → Int → Int) (D : Int) : Prop := ∀ u p, (0 ≤ u ∧ u < D) → (0 ≤ p ∧ p < 4) → E u p = true → ∃ q, (0 ≤ q ∧ q < 4) ∧ E (nx u p) q = true ∧ nx (nx u p) q = u
theorem wkG_in {E : Int → Int → Bool} {nx : Int → Int → Int} {D v : Int} (hc : GRC E nx D) : ∀ (k : Nat) (u : Int), (0 ≤ u ∧ u < D) → wkG E nx k u v = true → 0 ≤ v ∧ v < D := by
  intro k
  induction k with
  | zero => intro u hu h; rw [wkG_0] at h; rw [← h]; exact hu
  | succ k ih =>
    intro u hu h
    obtain ⟨q, hq, h1, h2⟩ := wkG_s.mp h
    exact ih _ (hc u q hu hq h1) h2
theorem wkG_rev {E : Int → Int → Bool} {nx : Int → Int → Int} {D v : Int} (hc : GRC E nx D) (hs : GRS E nx D) : ∀ (k : Nat) (u : Int), (0 ≤ u ∧ u < D) → wkG E nx k u v = true → wkG E nx k v u = true := by
  intro k
  induction k with
  | zero => intro u hu h; rw [wkG_0] at h ⊢; exact h.symm
  | succ k ih =>
    intro u hu h
    obtain ⟨q, hq, h1, h2⟩ := wkG_s.mp h
    have := ih _ (hc u q hu hq h1) h2
    obtain ⟨r, hr, e1, e2⟩ := hs u q hu hq h1
    have := wkG_snoc hr e1 k v this
    rw [e2] at this
    exact this
theorem wkG_sym {E : Int → Int → Bool} {nx : Int → Int → Int} {D u v : Int} (hc : GRC E nx D) (hs : GRS E nx D) (hu : 0 ≤ u ∧ u < D) (hv : 0 ≤ v ∧ v < D) (k : Nat) : wkG E nx k u v = wkG E nx k v u := by
  cases a : wkG E nx k u v with
  | true => exact (wkG_rev hc hs k u hu a).symm
  | false =>
    cases b : wkG E nx k v u with
    | false => rfl
    | true =>
      have := wkG_rev hc hs k v hv b
      rw [a] at this
      cases this
/-- what is reached at all is reached in fewer than 16 steps -/
def RK (E : Int → Int → Bool) (nx : Int → Int → Int) (u : Int) (k : Nat) (v : Int) : Prop := ∃ j, j ≤ k ∧ wkG E nx j u v = true
theorem RK_st {E : Int → Int → Bool} {nx : Int → Int → Int} {u : Int} {j : Nat} (hst : ∀ v, RK E nx u (j + 1) v → RK E nx u j v) : ∀ (k : Nat) (v : Int), wkG E nx k u v = true → RK E nx u j v := by
  intro k
  induction k with
  | zero => intro v h; exact ⟨0, by omega, h⟩
  | succ k ih =>
    intro v h
    obtain ⟨w, p, hp, a, b, c⟩ := wkG_un k u h
    obtain ⟨i, hi, h1⟩ := ih w a
    have := wkG_snoc hp b i u h1
    rw [c] at this
    exact hst v ⟨i + 1, by omega, this⟩
theorem wkG_short {E : Int → Int → Bool} {nx : Int → Int → Int} {D u : Int} (hc : GRC E nx D) (hD : D ≤ 16) (hu : 0 ≤ u ∧ u < D) {k : Nat} {v : Int} (h : wkG E nx k u v = true) : ∃ j, j < 16 ∧ wkG E nx j u v = true := by
  have key : ∃ j, j ≤ 15 ∧ ∀ v, RK E nx u (j + 1) v → RK E nx u j v := by
    refine Classical.byContradiction (fun hn => ?_)
    have hn2 : ∀ j : Nat, j ≤ 15 → ∃ v, RK E nx u (j + 1) v ∧ ¬ RK E nx u j v := fun j hj => by
      refine Classical.byContradiction (fun q => hn ⟨j, hj, fun v hv => ?_⟩)
      refine Classical.byContradiction (fun z => q ⟨v, hv, z⟩)
    let dp : ∀ k : Nat, DecidablePred (RK E nx u k) := fun k v => Classical.propDecidable _
    have hcnt : ∀ k : Nat, k ≤ 16 → (k : Int) + 1 ≤ @cntM (RK E nx u k) (dp k) D := by
      intro k
      induction k with
      | zero =>
        intro _
        have := @cntM_pos (RK E nx u 0) (dp 0) D u hu.1 hu.2 ⟨0, by omega, wkG_0.mpr rfl⟩
        omega
      | succ k ih =>
        intro hk
        have ih := ih (by omega)
        obtain ⟨v, hv1, hv2⟩ := hn2 k (by omega)
        have hvb : 0 ≤ v ∧ v < D := by
          obtain ⟨j, -, hj⟩ := hv1
          exact wkG_in hc j u hu hj
        have e1 := @cntM_one (RK E nx u k) (fun x => RK E nx u k x ∨ x = v) (dp k) (fun x => Classical.propDecidable _) D v hvb.1 hvb.2 hv2 (fun x _ _ => Iff.rfl)
        have e2 := @cntM_mono (fun x => RK E nx u k x ∨ x = v) (RK E nx u (k + 1)) (fun x => Classical.propDecidable _) (dp (k + 1)) D (by omega) (fun x _ _ q => by
          rcases q with ⟨j, hj, q⟩ | q
          · exact ⟨j, by omega, q⟩
          · rw [q]; exact hv1)
        omega
    have := hcnt 16 (by omega)
    have b := @cntM_bd (RK E nx u 16) (dp 16) D (by omega)
    omega
  obtain ⟨j, hj, hst⟩ := key
  obtain ⟨i, hi, h1⟩ := RK_st hst k v h
  exact ⟨i, by omega, h1⟩
/-- how far -/
def dG (E : Int → Int → Bool) (nx : Int → Int → Int) (u v : Int) : Int := nthR (fun k => wkG E nx k.toNat u v = true) 16 0 0
theorem dG_c {E : Int → Int → Bool} {nx : Int → Int → Int} {u v : Int} : (dG E nx u v = -1000000 ∧ ∀ k : Nat, k < 16 → wkG E nx k u v = false) ∨ ∃ k : Nat, k < 16 ∧ dG E nx u v = (k : Int) ∧ wkG E nx k u v = true ∧ ∀ j : Nat, j < k → wkG E nx j u v = false := by
  unfold dG
  rw [nthT_R]
  rcases nthT_sp (Q := fun k => decide (wkG E nx k.toNat u v = true)) (T := fun k => k) 16 0 with ⟨a, b⟩ | ⟨j, a, b, c, e⟩
  · refine Or.inl ⟨a, fun k hk => ?_⟩
    have := of_decide_eq_false (b (k : Int) (by omega) (by omega))
    rw [Int.toNat_natCast] at this
    simpa using this
  · obtain ⟨i, rfl⟩ := Int.eq_ofNat_of_zero_le a.1
    have b := of_decide_eq_true b
    rw [Int.toNat_natCast] at b
    refine Or.inr ⟨i, by omega, c, b, fun j hj => ?_⟩
    have := of_decide_eq_false (e (j : Int) (by omega) (by omega))
    rw [Int.toNat_natCast] at this
    simpa using this
theorem dG_no {E : Int → Int → Bool} {nx : Int → Int → Int} {D u v : Int} (hc : GRC E nx D) (hD : D ≤ 16) (hu : 0 ≤ u ∧ u < D) : dG E nx u v = -1000000 ↔ ∀ k : Nat, wkG E nx k u v = false := by
  constructor
  · intro h k
    cases q : wkG E nx k u v with
    | false => rfl
    | true =>
      obtain ⟨j, hj, h1⟩ := wkG_short hc hD hu q
      rcases dG_c (E := E) (nx := nx) (u := u) (v := v) with ⟨-, b⟩ | ⟨i, a, b, -⟩
      · rw [b j hj] at h1; cases h1
      · omega
  · intro h
    rcases dG_c (E := E) (nx := nx) (u := u) (v := v) with ⟨a, -⟩ | ⟨i, -, -, b, -⟩
    · exact a
    · rw [h i] at b; cases b
theorem dG_eq {E : Int → Int → Bool} {nx : Int → Int → Int} {D u v s : Int} (hc : GRC E nx D) (hD : D ≤ 16) (hu : 0 ≤ u ∧ u < D) (h0 : 0 ≤ s) (h1 : wkG E nx s.toNat u v = true) (h2 : ∀ k : Nat, wkG E nx k u v = true → s ≤ (k : Int)) : dG E nx u v = s := by
  rcases dG_c (E := E) (nx := nx) (u := u) (v := v) with ⟨a, -⟩ | ⟨i, a, b, c, e⟩
  · have := (dG_no hc hD hu).mp a s.toNat
    rw [this] at h1; cases h1
  · have := h2 i c
    by_cases q : s.toNat < i
    · rw [e _ q] at h1; cases h1
    · omega
theorem dG_bd {E : Int → Int → Bool} {nx : Int → Int → Int} {u v : Int} : dG E nx u v = -1000000 ∨ (0 ≤ dG E nx u v ∧ dG E nx u v < 16) := by
  rcases dG_c (E := E) (nx := nx) (u := u) (v := v) with ⟨a, -⟩ | ⟨i, a, b, -⟩
  · exact Or.inl a
  · exact Or.inr (by omega)
theorem dG_sym {E : Int → Int → Bool} {nx : Int → Int → Int} {D u v : Int} (hc : GRC E nx D) (hs : GRS E nx D) (hu : 0 ≤ u ∧ u < D) (hv : 0 ≤ v ∧ v < D) : dG E nx u v = dG E nx v u := by
  unfold dG
  have : (fun k : Int => wkG E nx k.toNat u v = true) = fun k => wkG E nx k.toNat v u = true := by
    funext k
    rw [wkG_sym hc hs hu hv]
  rw [nthT_R, nthT_R]
  refine nthT_cg _ _ _ (fun j _ _ => ?_) (fun _ _ _ _ => rfl)
  rw [wkG_sym hc hs hu hv]
theorem dG_lk {E : Int → Int → Bool} {nx : Int → Int → Int} {D u p v : Int} (hc : GRC E nx D) (hs : GRS E nx D) (hD : D ≤ 16) (hu : 0 ≤ u ∧ u < D) (hp : 0 ≤ p ∧ p < 4) (he : E u p = true) : dG E nx u v = -1000000 ↔ dG E nx (nx u p) v = -1000000 := by
  rw [dG_no hc hD hu, dG_no hc hD (hc u p hu hp he)]
  constructor
  · intro h k
    cases q : wkG E nx k (nx u p) v with
    | false => rfl
    | true =>
      have := wkG_s.mpr ⟨p, hp, he, q⟩
      rw [h (k + 1)] at this
      cases this
  · intro h k
    obtain ⟨r, hr, e1, e2⟩ := hs u p hu hp he
    cases q : wkG E nx k u v with
    | false => rfl
    | true =>
      have : wkG E nx (k + 1) (nx u p) v = true := wkG_s.mpr ⟨r, hr, e1, by rw [e2]; exact q⟩
      rw [h (k + 1)] at this
      cases this
/-- the net's graph -/
abbrev eA (N : NS) (u p : Int) : Bool := hasB (n_sc N (13 + u)) p
theorem n_dst_G {N : NS} {u v : Int} : n_dst N u v = dG (eA N) (byA N) u v := by
  unfold n_dst dstF dG
  rw [nthT_R, nthT_R]
  refine nthT_cg _ _ _ (fun j _ _ => ?_) (fun _ _ _ _ => rfl)
  rw [wk_G]
theorem N_GRC {N : NS} {T : Int} (h : WF N T) : GRC (eA N) (byA N) (nd N) := fun u p hu hp _ => (byd_f h.1.1 h.1.2.1 hu hp).1
theorem N_GRS {N : NS} {T : Int} (h : WF N T) : GRS (eA N) (byA N) (nd N) := fun u p hu hp he => ⟨(p + 2) % 4, by omega, ((h.2.1 u hu.1 hu.2).2.2 p hp.1 hp.2 he).2, (byd_f h.1.1 h.1.2.1 hu hp).2.1⟩
theorem n_dst_bd {N : NS} {u v : Int} : n_dst N u v = -1000000 ∨ (0 ≤ n_dst N u v ∧ n_dst N u v < 16) := by
  rw [n_dst_G]; exact dG_bd
theorem n_dst_sym {N : NS} {T u v : Int} (h : WF N T) (hu : 0 ≤ u ∧ u < nd N) (hv : 0 ≤ v ∧ v < nd N) : n_dst N u v = n_dst N v u := by
  rw [n_dst_G, n_dst_G]
  exact dG_sym (N_GRC h) (N_GRS h) hu hv
theorem dst_lt {N : NS} {T u p t : Int} (h : WF N T) (hu : 0 ≤ u ∧ u < nd N) (hp : 0 ≤ p ∧ p < 4) (he : eA N u p = true) : n_dst N (byA N u p) t < n_dst N u t ↔ dA N (byA N u p) t < dA N u t := by
  have hnd := WF_nd h
  have := dG_lk (v := t) (N_GRC h) (N_GRS h) hnd.2 hu hp he
  rw [← n_dst_G, ← n_dst_G] at this
  unfold dA
  rcases n_dst_bd (N := N) (u := u) (v := t) with a | a
  · rw [this.mp a, a]
    exact ⟨fun z => absurd z (by decide), fun z => absurd z (by decide)⟩
  · rcases n_dst_bd (N := N) (u := byA N u p) (v := t) with b | b
    · have := this.mpr b; omega
    · rw [if_neg (by omega), if_neg (by omega)]
theorem near_eq {N : NS} {T k p : Int} (h : WF N T) (hk : 0 ≤ k ∧ k < n_sc N 5) (hp : 0 ≤ p ∧ p < 4) : (hasB (n_sc N (13 + n_le N k 4)) p && decide (n_dst N (n_le N k 2) (byA N (n_le N k 4) p) < n_dst N (n_le N k 2) (n_le N k 4))) = nrA N k p := by
  have hLW := h.2.2.2.2 k hk.1 hk.2
  have hat := hLW.1.2.2.2.2
  have hto := hLW.1.2.2.1
  unfold nrA
  cases q : hasB (n_sc N (13 + n_le N k 4)) p with
  | false => rw [Bool.false_and, Bool.false_and]
  | true =>
    rw [Bool.true_and, Bool.true_and, n_dst_sym h hto hat, n_dst_sym h hto (N_GRC h _ p hat hp q)]
    exact decide_eq_decide.mpr (dst_lt h hat hp q)
theorem dA_tr {N M : NS} (h0 : n_sc M 0 = n_sc N 0) (h1 : n_sc M 1 = n_sc N 1) (h2 : ∀ v, n_sc M (13 + v) = n_sc N (13 + v)) (u v : Int) : n_dst M u v = n_dst N u v := n_dst_cg h0 h1 (funext h2) u v
