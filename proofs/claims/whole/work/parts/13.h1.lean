/-! ===== step 5 of a TURN, pure: near ports, picks, seats, swaps ===== -/
def dA (N : NS) (u v : Int) : Int := if n_dst N u v = -1000000 then 99 else n_dst N u v
abbrev byA (N : NS) (v p : Int) : Int := byd (n_sc N 0) (n_sc N 1) v p
def nrA (N : NS) (k p : Int) : Bool := hasB (n_sc N (13 + n_le N k 4)) p && decide (dA N (byA N (n_le N k 4) p) (n_le N k 2) < dA N (n_le N k 4) (n_le N k 2))
def tsA (N : NS) (k i : Int) : Int := tstF (n_le N k 0) (n_le N k 7) i
def w0A (N : NS) (k : Int) : Int := nthT (fun i => nrA N k (tsA N k i)) (tsA N k) 4 0 0
def wsA (N : NS) (k : Int) : Int := if w0A N k = -1000000 then k % 4 else w0A N k
def p0A (N : NS) (k L : Int) : Int := nthT (fun i => hasB L (tsA N k i) && nrA N k (tsA N k i)) (tsA N k) 4 0 0
def leA (L : Int) : Int := nthT (hasB L) (fun p => p) 4 0 0
def pkA (N : NS) (k L : Int) : Int := if p0A N k L = -1000000 then leA L else p0A N k L
def clr (L p : Int) : Int := gm_and L (gm_xor (gm_shl 1 p) (-1))
theorem clr_d : ∀ L : Nat, L < 16 → ∀ p : Nat, p < 4 → (0 ≤ clr (L : Int) (p : Int) ∧ clr (L : Int) (p : Int) < 16) ∧ (hasB (L : Int) (p : Int) = true → onE (clr (L : Int) (p : Int)) + 1 = onE (L : Int)) ∧ ∀ q : Nat, q < 4 → hasB (clr (L : Int) (p : Int)) (q : Int) = (hasB (L : Int) (q : Int) && decide ((q : Int) ≠ (p : Int))) := by decide +kernel
theorem clr_f {L p : Int} (h1 : 0 ≤ L ∧ L < 16) (h2 : 0 ≤ p ∧ p < 4) : (0 ≤ clr L p ∧ clr L p < 16) ∧ (hasB L p = true → onE (clr L p) + 1 = onE L) ∧ ∀ q, 0 ≤ q → q < 4 → hasB (clr L p) q = (hasB L q && decide (q ≠ p)) := by
  obtain ⟨L, rfl⟩ := Int.eq_ofNat_of_zero_le h1.1
  obtain ⟨p, rfl⟩ := Int.eq_ofNat_of_zero_le h2.1
  have h := clr_d L (by omega) p (by omega)
  refine ⟨h.1, h.2.1, fun q q1 q2 => ?_⟩
  obtain ⟨q, rfl⟩ := Int.eq_ofNat_of_zero_le q1
  exact h.2.2 q (by omega)
theorem and_d : ∀ x : Nat, x < 16 → ∀ y : Nat, y < 16 → ∀ p : Nat, p < 4 → hasB (gm_and (x : Int) (y : Int)) (p : Int) = (hasB (x : Int) (p : Int) && hasB (y : Int) (p : Int)) := by decide +kernel
theorem and_f {x y p : Int} (h1 : 0 ≤ x ∧ x < 16) (h2 : 0 ≤ y ∧ y < 16) (h3 : 0 ≤ p ∧ p < 4) : hasB (gm_and x y) p = (hasB x p && hasB y p) := by
  obtain ⟨x, rfl⟩ := Int.eq_ofNat_of_zero_le h1.1
  obtain ⟨y, rfl⟩ := Int.eq_ofNat_of_zero_le h2.1
  obtain ⟨p, rfl⟩ := Int.eq_ofNat_of_zero_le h3.1
  exact and_d x (by omega) y (by omega) p (by omega)
theorem has_d : ∀ L : Nat, L < 16 → 0 < onE (L : Int) → ∃ p : Nat, p < 4 ∧ hasB (L : Int) (p : Int) = true := by decide +kernel
theorem has_15 : ∀ p : Nat, p < 4 → hasB 15 (p : Int) = true := by decide +kernel
theorem leA_ok {L : Int} (h1 : 0 ≤ L ∧ L < 16) (h2 : 0 < onE L) : (0 ≤ leA L ∧ leA L < 4) ∧ hasB L (leA L) = true := by
  obtain ⟨x, rfl⟩ := Int.eq_ofNat_of_zero_le h1.1
  obtain ⟨p, hp, hq⟩ := has_d x (by omega) h2
  unfold leA
  rcases nthT_sp (Q := hasB (x : Int)) (T := fun p => p) 4 0 with ⟨a, b⟩ | ⟨j, a, b, c, -⟩
  · have := b (p : Int) (by omega) (by omega)
    rw [this] at hq
    cases hq
  · rw [c]
    exact ⟨by omega, b⟩
theorem tsA_bd {N : NS} {k i : Int} (h : n_le N k 7 ≤ 3) : 0 ≤ tsA N k i ∧ tsA N k i < 4 := tstF_bd h
theorem w0A_c {N : NS} {k : Int} (h : n_le N k 7 ≤ 3) : w0A N k = -1000000 ∨ (0 ≤ w0A N k ∧ w0A N k < 4) := by
  unfold w0A
  rcases nthT_sp (Q := fun i => nrA N k (tsA N k i)) (T := tsA N k) 4 0 with ⟨a, b⟩ | ⟨j, a, b, c, -⟩
  · exact Or.inl a
  · rw [c]; exact Or.inr (tsA_bd h)
theorem wsA_bd {N : NS} {k : Int} (h : n_le N k 7 ≤ 3) : 0 ≤ wsA N k ∧ wsA N k < 4 := by
  unfold wsA
  rcases w0A_c h with q | q
  · rw [if_pos q]; omega
  · rw [if_neg (by omega)]; exact q
theorem pkA_ok {N : NS} {k L : Int} (h : n_le N k 7 ≤ 3) (h1 : 0 ≤ L ∧ L < 16) (h2 : 0 < onE L) : (0 ≤ pkA N k L ∧ pkA N k L < 4) ∧ hasB L (pkA N k L) = true := by
  unfold pkA
  by_cases q : p0A N k L = -1000000
  · rw [if_pos q]; exact leA_ok h1 h2
  · rw [if_neg q]
    unfold p0A at q ⊢
    rcases nthT_sp (Q := fun i => hasB L (tsA N k i) && nrA N k (tsA N k i)) (T := tsA N k) 4 0 with ⟨a, b⟩ | ⟨j, a, b, c, -⟩
    · exact absurd a q
    · rw [c]
      rw [Bool.and_eq_true] at b
      exact ⟨tsA_bd h, b.1⟩
/-- what is left at a node before the order's place i -/
def lfA (N : NS) (O : Int → Int) (v i : Int) : Int := fo (fun L j => if n_le N (O j) 4 = v then clr L (pkA N (O j) L) else L) (n_sc N (13 + v)) i
theorem lfA_s {N : NS} {O : Int → Int} {v i : Int} (h : 0 ≤ i) : lfA N O v (i + 1) = if n_le N (O i) 4 = v then clr (lfA N O v i) (pkA N (O i) (lfA N O v i)) else lfA N O v i := fo_s _ _ h
theorem c2A_hr {N : NS} {O : Int → Int} {n i v : Int} (h : 0 ≤ n_sc N 5) : c2A N O n i v ≤ hrA N v := cntM_mono h (fun _ _ _ q => ⟨q.1, q.2.1⟩)
def CM3 (N : NS) : Prop := ∀ k, 0 ≤ k → k < n_sc N 5 → n_le N k 7 ≤ 3
theorem WF_cm {N : NS} {T : Int} (h : WF N T) : CM3 N := fun k h0 h1 => by
  have := h.2.2.2.2 k h0 h1
  unfold LW at this
  omega
theorem lfA_ok {N : NS} {O : Int → Int} {n v T : Int} (h : ORD N O n) (hw : WF N T) (hv : 0 ≤ v ∧ v < nd N) (hl : hrA N v ≤ lkA N v) {i : Int} (h0 : 0 ≤ i) : i ≤ n → (0 ≤ lfA N O v i ∧ lfA N O v i < 16) ∧ onE (lfA N O v i) + c2A N O n i v = lkA N v := by
  refine up_ind (P := fun i => i ≤ n → (0 ≤ lfA N O v i ∧ lfA N O v i < 16) ∧ onE (lfA N O v i) + c2A N O n i v = lkA N v) ?_ ?_ h0
  · intro _
    rw [c2A_0 (ENUM_of h)]
    exact ⟨(hw.2.1 v hv.1 hv.2).1, by show onE (n_sc N (13 + v)) + 0 = lkA N v; unfold lkA; omega⟩
  · intro k hk ih hk1
    have ih := ih (by omega)
    rw [lfA_s hk, c2A_s (ENUM_of h) hk (by omega)]
    have hob := h.2.1 k hk (by omega)
    by_cases q : n_le N (O k) 4 = v
    · have hc := c2A_s (v := v) (ENUM_of h) hk (by omega)
      rw [if_pos ⟨hob.2, q⟩] at hc
      have := c2A_hr (N := N) (O := O) (n := n) (i := k + 1) (v := v) hw.1.2.2.2.2.2.1
      have hp := pkA_ok (N := N) (k := O k) (L := lfA N O v k) (WF_cm hw _ hob.1.1 hob.1.2) ih.1 (by omega)
      have hcl := clr_f ih.1 hp.1
      rw [if_pos q, if_pos ⟨hob.2, q⟩]
      refine ⟨hcl.1, ?_⟩
      have := hcl.2.1 hp.2
      omega
    · rw [if_neg q, if_neg (fun z => q z.2)]
      exact ih
theorem lfA_pk {N : NS} {O : Int → Int} {n v T : Int} (h : ORD N O n) (hw : WF N T) (hv : 0 ≤ v ∧ v < nd N) (hl : hrA N v ≤ lkA N v) {i : Int} (h0 : 0 ≤ i) (h1 : i < n) (hi : n_le N (O i) 4 = v) : (0 ≤ pkA N (O i) (lfA N O v i) ∧ pkA N (O i) (lfA N O v i) < 4) ∧ hasB (lfA N O v i) (pkA N (O i) (lfA N O v i)) = true := by
  have hob := h.2.1 i h0 h1
  have ih := lfA_ok h hw hv hl h0 (by omega)
  have hc := c2A_s (v := v) (ENUM_of h) h0 h1
  rw [if_pos ⟨hob.2, hi⟩] at hc
  have := c2A_hr (N := N) (O := O) (n := n) (i := i + 1) (v := v) hw.1.2.2.2.2.2.1
  exact pkA_ok (WF_cm hw _ hob.1.1 hob.1.2) ih.1 (by omega)
theorem lfA_sub {N : NS} {O : Int → Int} {n v T : Int} (h : ORD N O n) (hw : WF N T) (hv : 0 ≤ v ∧ v < nd N) (hl : hrA N v ≤ lkA N v) {q : Int} (q0 : 0 ≤ q ∧ q < 4) {i : Int} (h0 : 0 ≤ i) (hq : hasB (lfA N O v i) q = false) : ∀ f : Nat, i + f ≤ n → hasB (lfA N O v (i + f)) q = false := by
  intro f
  induction f with
  | zero => intro _; rw [show i + ((0 : Nat) : Int) = i by omega]; exact hq
  | succ f ih =>
    intro hf
    have ih := ih (by omega)
    rw [show i + ((f + 1 : Nat) : Int) = i + (f : Int) + 1 by omega, lfA_s (by omega)]
    by_cases z : n_le N (O (i + (f : Int))) 4 = v
    · rw [if_pos z, (clr_f (lfA_ok h hw hv hl (by omega) (by omega)).1 (lfA_pk h hw hv hl (by omega) (by omega) z).1).2.2 q q0.1 q0.2, ih]
      rfl
    · rw [if_neg z]; exact ih
theorem lfA_ne {N : NS} {O : Int → Int} {n v T : Int} (h : ORD N O n) (hw : WF N T) (hv : 0 ≤ v ∧ v < nd N) (hl : hrA N v ≤ lkA N v) {i j : Int} (h0 : 0 ≤ i) (h1 : i < j) (h2 : j < n) (hi : n_le N (O i) 4 = v) (hj : n_le N (O j) 4 = v) : pkA N (O i) (lfA N O v i) ≠ pkA N (O j) (lfA N O v j) := by
  have a := lfA_pk h hw hv hl h0 (by omega) hi
  have b := lfA_pk h hw hv hl (by omega) h2 hj
  have c : hasB (lfA N O v (i + 1)) (pkA N (O i) (lfA N O v i)) = false := by
    rw [lfA_s h0, if_pos hi, (clr_f (lfA_ok h hw hv hl h0 (by omega)).1 a.1).2.2 _ a.1.1 a.1.2, decide_eq_false (fun z => z rfl), Bool.and_false]
  have e := lfA_sub h hw hv hl a.1 (by omega) c (j - (i + 1)).toNat (by omega)
  rw [show i + 1 + (((j - (i + 1)).toNat : Nat) : Int) = j by omega] at e
  intro z
  rw [z] at e
  rw [e] at b
  exact absurd b.2 (by simp)
/-- distinct ones that P holds of are counted -/
theorem cnt_list : ∀ (l : List Int) (P : Int → Prop) [DecidablePred P] {n : Int}, 0 ≤ n → l.Nodup → (∀ x ∈ l, (0 ≤ x ∧ x < n) ∧ P x) → (l.length : Int) ≤ cntM P n := by
  intro l
  induction l with
  | nil => intro P _ n hn _ _; exact (cntM_bd P hn).1
  | cons a l ih =>
    intro P _ n hn hd hm
    rw [List.nodup_cons] at hd
    have ha := hm a (List.mem_cons_self)
    have := ih (fun x => P x ∧ x ≠ a) hn hd.2 (fun x hx => ⟨(hm x (List.mem_cons_of_mem _ hx)).1, (hm x (List.mem_cons_of_mem _ hx)).2, fun z => hd.1 (z ▸ hx)⟩)
    have e := cntM_one (P := fun x => P x ∧ x ≠ a) (Q := P) ha.1.1 ha.1.2 (fun z => z.2 rfl) (fun k _ _ => ⟨fun q => by
      by_cases z : k = a
      · exact Or.inr z
      · exact Or.inl ⟨q, z⟩, fun q => by
      rcases q with q | q
      · exact q.1
      · rw [q]; exact ha.2⟩)
    rw [e]
    have : ((a :: l).length : Int) = (l.length : Int) + 1 := by rw [List.length_cons]; omega
    omega
/-- the first by the order of two; the other one -/
def foA (O : Int → Int) (n x y : Int) : Int := nthT (fun i => decide (O i = x ∨ O i = y)) O (n - 0).toNat 0 0
def seA (O : Int → Int) (n x y : Int) : Int := if foA O n x y = x then y else x
abbrev fly (N : NS) (v k : Int) : Prop := (0 ≤ k ∧ k < n_sc N 5) ∧ n_le N k 3 = 1 ∧ n_le N k 4 = v
abbrev flyN (N : NS) (v k : Int) : Prop := k = -1000000 ∨ fly N v k
theorem foA_c {N : NS} {O : Int → Int} {n v x y : Int} (h : ORD N O n) (hx : flyN N v x) (hy : flyN N v y) : (foA O n x y = x ∧ seA O n x y = y) ∨ (foA O n x y = y ∧ seA O n x y = x) := by
  have key : foA O n x y = x ∨ foA O n x y = y := by
    unfold foA
    rcases nthT_sp (Q := fun i => decide (O i = x ∨ O i = y)) (T := O) (n - 0).toNat 0 with ⟨a, b⟩ | ⟨j, a, b, c, -⟩
    · rw [a]
      rcases hx with hx | hx
      · exact Or.inl hx.symm
      · obtain ⟨i, hi, e⟩ := h.2.2.2 x hx.1.1 hx.1.2 hx.2.1
        have := of_decide_eq_false (b i hi.1 (by have := h.1.1; omega))
        exact absurd (Or.inl e) this
    · rw [c]
      exact of_decide_eq_true b
  by_cases q : foA O n x y = x
  · exact Or.inl ⟨q, by unfold seA; rw [if_pos q]⟩
  · rcases key with z | z
    · exact absurd z q
    · exact Or.inr ⟨z, by unfold seA; rw [if_neg q]⟩
theorem foA_n {N : NS} {O : Int → Int} {n v x y : Int} (h : ORD N O n) (hx : flyN N v x) (hy : flyN N v y) (e : foA O n x y = -1000000) : x = -1000000 ∧ y = -1000000 := by
  unfold foA at e
  rcases nthT_sp (Q := fun i => decide (O i = x ∨ O i = y)) (T := O) (n - 0).toNat 0 with ⟨a, b⟩ | ⟨j, a, b, c, -⟩
  · have hn := h.1.1
    constructor
    · rcases hx with hx | hx
      · exact hx
      · obtain ⟨i, hi, e⟩ := h.2.2.2 x hx.1.1 hx.1.2 hx.2.1
        exact absurd (Or.inl e) (of_decide_eq_false (b i hi.1 (by omega)))
    · rcases hy with hy | hy
      · exact hy
      · obtain ⟨i, hi, e⟩ := h.2.2.2 y hy.1.1 hy.1.2 hy.2.1
        exact absurd (Or.inr e) (of_decide_eq_false (b i hi.1 (by omega)))
  · rw [c] at e
    have := (h.2.1 j a.1 (by omega)).1
    omega
/-- the seats: fold over the order; behind it who was put in -/
def sfA (N : NS) (O : Int → Int) (v i : Int) : (Int → Int) × Int := fo (fun s j => if n_le N (O j) 4 = v then (if n_le N (O j) 7 < 0 then (s.1, O j) else (fun x => if x = n_le N (O j) 7 then O j else s.1 x, s.2)) else s) (fun _ => -1000000, -1000000) i
theorem sfA_s {N : NS} {O : Int → Int} {v i : Int} (h : 0 ≤ i) : sfA N O v (i + 1) = if n_le N (O i) 4 = v then (if n_le N (O i) 7 < 0 then ((sfA N O v i).1, O i) else (fun x => if x = n_le N (O i) 7 then O i else (sfA N O v i).1 x, (sfA N O v i).2)) else sfA N O v i := fo_s _ _ h
/-- no two at one node came by one port -/
def FCM (N : NS) : Prop := ∀ k l, (0 ≤ k ∧ k < n_sc N 5) → (0 ≤ l ∧ l < n_sc N 5) → k ≠ l → n_le N k 3 = 1 → n_le N l 3 = 1 → n_le N k 4 = n_le N l 4 → n_le N k 7 ≠ n_le N l 7
theorem sfA_ok {N : NS} {O : Int → Int} {n v T : Int} (h : ORD N O n) (hw : WF N T) (hf : FCM N) {i : Int} (h0 : 0 ≤ i) : i ≤ n → (∀ x, 0 ≤ x → x < 4 → (sfA N O v i).1 x = -1000000 ∨ (fly N v ((sfA N O v i).1 x) ∧ n_le N ((sfA N O v i).1 x) 7 = x)) ∧ ((sfA N O v i).2 = -1000000 ∨ (fly N v (sfA N O v i).2 ∧ n_le N (sfA N O v i).2 7 = -1000000)) ∧ ∀ j, 0 ≤ j → j < i → n_le N (O j) 4 = v → (n_le N (O j) 7 < 0 → (sfA N O v i).2 = O j) ∧ (0 ≤ n_le N (O j) 7 → (sfA N O v i).1 (n_le N (O j) 7) = O j) := by
  refine up_ind (P := fun i => i ≤ n → (∀ x, 0 ≤ x → x < 4 → (sfA N O v i).1 x = -1000000 ∨ (fly N v ((sfA N O v i).1 x) ∧ n_le N ((sfA N O v i).1 x) 7 = x)) ∧ ((sfA N O v i).2 = -1000000 ∨ (fly N v (sfA N O v i).2 ∧ n_le N (sfA N O v i).2 7 = -1000000)) ∧ ∀ j, 0 ≤ j → j < i → n_le N (O j) 4 = v → (n_le N (O j) 7 < 0 → (sfA N O v i).2 = O j) ∧ (0 ≤ n_le N (O j) 7 → (sfA N O v i).1 (n_le N (O j) 7) = O j)) ?_ ?_ h0
  · intro _
    exact ⟨fun x _ _ => Or.inl rfl, Or.inl rfl, fun j a b => by omega⟩
  · intro k hk ih hk1
    obtain ⟨i1, i2, i3⟩ := ih (by omega)
    have hob := h.2.1 k hk (by omega)
    have hLW := hw.2.2.2.2 (O k) hob.1.1 hob.1.2
    rw [sfA_s hk]
    by_cases q : n_le N (O k) 4 = v
    · rw [if_pos q]
      have hfl : fly N v (O k) := ⟨hob.1, hob.2, q⟩
      have hcm : n_le N (O k) 7 = -1000000 ∨ (0 ≤ n_le N (O k) 7 ∧ n_le N (O k) 7 < 4) := hLW.2.2.1
      have hne : ∀ j, 0 ≤ j → j < k → n_le N (O j) 4 = v → n_le N (O j) 7 ≠ n_le N (O k) 7 := fun j a b c => hf _ _ (h.2.1 j a (by omega)).1 hob.1 (h.2.2.1 j k a b (by omega)) (h.2.1 j a (by omega)).2 hob.2 (by rw [c, q])
      have hcj : ∀ j, 0 ≤ j → j < k → n_le N (O j) 7 = -1000000 ∨ (0 ≤ n_le N (O j) 7 ∧ n_le N (O j) 7 < 4) := fun j a b => (hw.2.2.2.2 (O j) (h.2.1 j a (by omega)).1.1 (h.2.1 j a (by omega)).1.2).2.2.1
      by_cases z : n_le N (O k) 7 < 0
      · rw [if_pos z]
        refine ⟨i1, Or.inr ⟨hfl, by show n_le N (O k) 7 = -1000000; omega⟩, fun j a b c => ?_⟩
        by_cases y : j = k
        · subst y
          exact ⟨fun _ => rfl, fun y => by omega⟩
        · have := hne j a (by omega) c
          have := hcj j a (by omega)
          exact ⟨fun y => by omega, (i3 j a (by omega) c).2⟩
      · rw [if_neg z]
        refine ⟨fun x x0 x1 => ?_, i2, fun j a b c => ?_⟩
        · dsimp only
          by_cases y : x = n_le N (O k) 7
          · rw [if_pos y]; exact Or.inr ⟨hfl, y.symm⟩
          · rw [if_neg y]; exact i1 x x0 x1
        · dsimp only
          by_cases y : j = k
          · subst y
            exact ⟨fun y => by omega, fun _ => by rw [if_pos rfl]⟩
          · have := hne j a (by omega) c
            refine ⟨(i3 j a (by omega) c).1, fun y => ?_⟩
            rw [if_neg this]
            exact (i3 j a (by omega) c).2 y
    · rw [if_neg q]
      refine ⟨i1, i2, fun j a b c => ?_⟩
      by_cases y : j = k
      · subst y; exact absurd c q
      · exact i3 j a (by omega) c
/-- the least empty seat -/
def emA (s : Int → Int) : Int := nthT (fun x => decide (s x = -1000000)) (fun x => x) 4 0 0
def stA (N : NS) (O : Int → Int) (n v x : Int) : Int := if (sfA N O v n).2 ≠ -1000000 ∧ x = emA (sfA N O v n).1 then (sfA N O v n).2 else (sfA N O v n).1 x
theorem emA_ok {N : NS} {O : Int → Int} {n v T : Int} (h : ORD N O n) (hw : WF N T) (hf : FCM N) (hl : hrA N v ≤ 4) (hp : (sfA N O v n).2 ≠ -1000000) : (0 ≤ emA (sfA N O v n).1 ∧ emA (sfA N O v n).1 < 4) ∧ (sfA N O v n).1 (emA (sfA N O v n).1) = -1000000 ∧ ∀ x, 0 ≤ x → x < emA (sfA N O v n).1 → (sfA N O v n).1 x ≠ -1000000 := by
  obtain ⟨i1, i2, -⟩ := sfA_ok (v := v) h hw hf h.1.1 (Int.le_refl _)
  unfold emA
  rcases nthT_sp (Q := fun x => decide ((sfA N O v n).1 x = -1000000)) (T := fun x => x) 4 0 with ⟨a, b⟩ | ⟨j, a, b, c, e⟩
  · exfalso
    have k0 : fly N v ((sfA N O v n).1 0) ∧ n_le N ((sfA N O v n).1 0) 7 = 0 := (i1 0 (by omega) (by omega)).resolve_left (of_decide_eq_false (b 0 (by omega) (by omega)))
    have k1 : fly N v ((sfA N O v n).1 1) ∧ n_le N ((sfA N O v n).1 1) 7 = 1 := (i1 1 (by omega) (by omega)).resolve_left (of_decide_eq_false (b 1 (by omega) (by omega)))
    have k2 : fly N v ((sfA N O v n).1 2) ∧ n_le N ((sfA N O v n).1 2) 7 = 2 := (i1 2 (by omega) (by omega)).resolve_left (of_decide_eq_false (b 2 (by omega) (by omega)))
    have k3 : fly N v ((sfA N O v n).1 3) ∧ n_le N ((sfA N O v n).1 3) 7 = 3 := (i1 3 (by omega) (by omega)).resolve_left (of_decide_eq_false (b 3 (by omega) (by omega)))
    have k4 := i2.resolve_left hp
    have nn : ∀ x y : Int, n_le N x 7 ≠ n_le N y 7 → x ≠ y := fun x y q z => q (by rw [z])
    have := cnt_list [(sfA N O v n).1 0, (sfA N O v n).1 1, (sfA N O v n).1 2, (sfA N O v n).1 3, (sfA N O v n).2] (fun k => n_le N k 3 = 1 ∧ n_le N k 4 = v) hw.1.2.2.2.2.2.1 (by
      simp only [List.nodup_cons, List.mem_cons, List.not_mem_nil, or_false, not_or, List.nodup_nil, and_true, not_false_eq_true]
      refine ⟨⟨nn _ _ (by omega), nn _ _ (by omega), nn _ _ (by omega), nn _ _ (by omega)⟩, ⟨nn _ _ (by omega), nn _ _ (by omega), nn _ _ (by omega)⟩, ⟨nn _ _ (by omega), nn _ _ (by omega)⟩, nn _ _ (by omega)⟩) (by
      intro x hx
      simp only [List.mem_cons, List.not_mem_nil, or_false] at hx
      rcases hx with rfl | rfl | rfl | rfl | rfl
      · exact ⟨k0.1.1, k0.1.2⟩
      · exact ⟨k1.1.1, k1.1.2⟩
      · exact ⟨k2.1.1, k2.1.2⟩
      · exact ⟨k3.1.1, k3.1.2⟩
      · exact ⟨k4.1.1, k4.1.2⟩)
    have e5 : ((([(sfA N O v n).1 0, (sfA N O v n).1 1, (sfA N O v n).1 2, (sfA N O v n).1 3, (sfA N O v n).2] : List Int).length : Nat) : Int) = 5 := rfl
    rw [e5] at this
    unfold hrA at hl
    omega
  · rw [c]
    exact ⟨by omega, of_decide_eq_true b, fun x x0 x1 => of_decide_eq_false (e x x0 x1)⟩
/-- four seats hold all that fly there, each once -/
def SEAT (N : NS) (v : Int) (s : Int → Int) : Prop := (∀ x, 0 ≤ x → x < 4 → flyN N v (s x)) ∧ (∀ x y, 0 ≤ x → x < y → y < 4 → s x = s y → s x = -1000000) ∧ ∀ k, fly N v k → ∃ x, (0 ≤ x ∧ x < 4) ∧ s x = k
theorem stA_ok {N : NS} {O : Int → Int} {n v T : Int} (h : ORD N O n) (hw : WF N T) (hf : FCM N) (hl : hrA N v ≤ 4) : SEAT N v (stA N O n v) := by
  obtain ⟨i1, i2, i3⟩ := sfA_ok (v := v) h hw hf h.1.1 (Int.le_refl _)
  have hem := fun hp => emA_ok h hw hf hl hp
  refine ⟨fun x x0 x1 => ?_, fun x y x0 xy y1 e => ?_, fun k hk => ?_⟩
  · unfold stA
    split
    · rcases i2 with q | q
      · exact Or.inl q
      · exact Or.inr q.1
    · rcases i1 x x0 x1 with q | q
      · exact Or.inl q
      · exact Or.inr q.1
  · unfold stA at e ⊢
    by_cases hx : (sfA N O v n).2 ≠ -1000000 ∧ x = emA (sfA N O v n).1
    · have hy : ¬ ((sfA N O v n).2 ≠ -1000000 ∧ y = emA (sfA N O v n).1) := fun z => by omega
      rw [if_pos hx, if_neg hy] at e
      have q2 := i2.resolve_left hx.1
      rcases i1 y (by omega) y1 with q | q
      · omega
      · rw [← e] at q
        omega
    · rw [if_neg hx] at e ⊢
      rcases i1 x x0 (by omega) with q | q
      · exact q
      · by_cases hy : (sfA N O v n).2 ≠ -1000000 ∧ y = emA (sfA N O v n).1
        · rw [if_pos hy] at e
          have q2 := i2.resolve_left hy.1
          rw [e] at q
          omega
        · rw [if_neg hy] at e
          rcases i1 y (by omega) y1 with z | z
          · omega
          · rw [e] at q
            omega
  · obtain ⟨i, hi, e⟩ := h.2.2.2 k hk.1.1 hk.1.2 hk.2.1
    have hLW := hw.2.2.2.2 k hk.1.1 hk.1.2
    have hcm : n_le N k 7 = -1000000 ∨ (0 ≤ n_le N k 7 ∧ n_le N k 7 < 4) := hLW.2.2.1
    have q := i3 i hi.1 hi.2 (by rw [e]; exact hk.2.2)
    rw [e] at q
    by_cases z : n_le N k 7 < 0
    · have q1 := q.1 z
      have hp : (sfA N O v n).2 ≠ -1000000 := by omega
      refine ⟨emA (sfA N O v n).1, (hem hp).1, ?_⟩
      unfold stA
      rw [if_pos ⟨hp, rfl⟩]
      exact q1
    · have q1 := q.2 (by omega)
      refine ⟨n_le N k 7, by omega, ?_⟩
      unfold stA
      rw [if_neg]
      · exact q1
      · intro y
        have := (hem y.1).2.1
        rw [← y.2, q1] at this
        omega
/-- the swaps -/
def upA (N : NS) (O : Int → Int) (n x y : Int) : Prop := foA O n x y ≠ -1000000 ∧ wsA N (foA O n x y) < 2
noncomputable def huA (N : NS) (O : Int → Int) (n x y : Int) : Int := if foA O n x y ≠ -1000000 ∧ wsA N (foA O n x y) < 2 then foA O n x y else seA O n x y
noncomputable def hlA (N : NS) (O : Int → Int) (n x y : Int) : Int := if foA O n x y ≠ -1000000 ∧ wsA N (foA O n x y) < 2 then seA O n x y else foA O n x y
def pqA (N : NS) (f s : Int) : Int := if wsA N f / 2 = s then wsA N f else 2 * s
/-- by which port k goes out of two that have come to a side; -1000000: it is none of both -/
noncomputable def outA (N : NS) (O : Int → Int) (n x y s k : Int) : Int := if k = seA O n x y then 4 * s + 1 - pqA N (foA O n x y) s else if k = foA O n x y then pqA N (foA O n x y) s else -1000000
noncomputable def gsA (N : NS) (O : Int → Int) (n : Int) (s : Int → Int) (k : Int) : Int :=
  if outA N O n (hlA N O n (s 0) (s 1)) (hlA N O n (s 2) (s 3)) 1 k = -1000000 then outA N O n (huA N O n (s 0) (s 1)) (huA N O n (s 2) (s 3)) 0 k else outA N O n (hlA N O n (s 0) (s 1)) (hlA N O n (s 2) (s 3)) 1 k
theorem hA_c {N : NS} {O : Int → Int} {n v x y : Int} (h : ORD N O n) (hx : flyN N v x) (hy : flyN N v y) : (huA N O n x y = x ∧ hlA N O n x y = y) ∨ (huA N O n x y = y ∧ hlA N O n x y = x) := by
  unfold huA hlA
  rcases foA_c h hx hy with ⟨a, b⟩ | ⟨a, b⟩ <;> rw [a, b] <;> split <;> simp
theorem pqA_bd {N : NS} {f s : Int} (h : 0 ≤ wsA N f ∧ wsA N f < 4) (hs : s = 0 ∨ s = 1) : pqA N f s = 2 * s ∨ pqA N f s = 2 * s + 1 := by
  unfold pqA
  split <;> omega
theorem outA_c {N : NS} {O : Int → Int} {n v x y s : Int} (h : ORD N O n) (hc : CM3 N) (hx : flyN N v x) (hy : flyN N v y) (hs : s = 0 ∨ s = 1) (hxy : x = y → x = -1000000) : (∀ k, 0 ≤ k → k ≠ x → k ≠ y → outA N O n x y s k = -1000000) ∧ (0 ≤ x → 2 * s ≤ outA N O n x y s x ∧ outA N O n x y s x ≤ 2 * s + 1) ∧ (0 ≤ y → 2 * s ≤ outA N O n x y s y ∧ outA N O n x y s y ≤ 2 * s + 1) ∧ (0 ≤ x → 0 ≤ y → outA N O n x y s x ≠ outA N O n x y s y) := by
  have hp : 0 ≤ x ∨ 0 ≤ y → pqA N (foA O n x y) s = 2 * s ∨ pqA N (foA O n x y) s = 2 * s + 1 := fun q => by
    refine pqA_bd (wsA_bd ?_) hs
    have hne : foA O n x y ≠ -1000000 := fun z => by have := foA_n h hx hy z; omega
    rcases foA_c h hx hy with ⟨a, -⟩ | ⟨a, -⟩
    · rw [a] at hne ⊢
      have := hx.resolve_left hne
      exact hc x this.1.1 this.1.2
    · rw [a] at hne ⊢
      have := hy.resolve_left hne
      exact hc y this.1.1 this.1.2
  have hxb : x = -1000000 ∨ 0 ≤ x := by
    rcases hx with q | q
    · exact Or.inl q
    · exact Or.inr q.1.1
  have hyb : y = -1000000 ∨ 0 ≤ y := by
    rcases hy with q | q
    · exact Or.inl q
    · exact Or.inr q.1.1
  unfold outA
  rcases foA_c h hx hy with ⟨a, b⟩ | ⟨a, b⟩
  · rw [b]
    refine ⟨fun k k0 k1 k2 => ?_, fun q => ?_, fun q => ?_, fun q1 q2 => ?_⟩
    · rw [if_neg k2, if_neg (by rw [a]; exact k1)]
    · have := hp (Or.inl q)
      rw [if_neg (fun z => by have := hxy z; omega), if_pos a.symm]; omega
    · have := hp (Or.inr q)
      rw [if_pos rfl]; omega
    · have := hp (Or.inl q1)
      rw [if_neg (fun z => by have := hxy z; omega), if_pos a.symm, if_pos rfl]; omega
  · rw [b]
    refine ⟨fun k k0 k1 k2 => ?_, fun q => ?_, fun q => ?_, fun q1 q2 => ?_⟩
    · rw [if_neg k1, if_neg (by rw [a]; exact k2)]
    · have := hp (Or.inl q)
      rw [if_pos rfl]; omega
    · have := hp (Or.inr q)
      rw [if_neg (fun z => by have := hxy z.symm; omega), if_pos a.symm]; omega
    · have := hp (Or.inl q1)
      rw [if_pos rfl, if_neg (fun z => by have := hxy z.symm; omega), if_pos a.symm]; omega
