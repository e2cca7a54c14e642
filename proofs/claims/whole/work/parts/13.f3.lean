/-! ===== a NET that is well made ===== -/
abbrev nd (N : NS) : Int := n_sc N 0 * n_sc N 1
def LW (D T : Int) (y : Int → Int) : Prop := ((1 ≤ y 0 ∧ y 0 ≤ 5) ∧ (0 ≤ y 1 ∧ y 1 < D) ∧ (0 ≤ y 2 ∧ y 2 < D) ∧ (0 ≤ y 3 ∧ y 3 ≤ 3) ∧ (0 ≤ y 4 ∧ y 4 < D)) ∧ ((0 ≤ y 5 ∧ y 5 ≤ 99) ∧ (0 ≤ y 6 ∧ y 6 ≤ y 5)) ∧ (y 7 = -1000000 ∨ (0 ≤ y 7 ∧ y 7 < 4)) ∧ (y 3 < 2 → y 8 = -1000000) ∧ (2 ≤ y 3 → 0 ≤ y 8 ∧ y 8 < T) ∧ (y 3 = 3 → (y 9 = 2 ∨ y 9 = 3) ∧ (y 11 = -1000000 ∨ (0 ≤ y 11 ∧ y 11 < 4))) ∧ (y 3 ≠ 3 → y 9 = 0 ∧ y 11 = -1000000) ∧ (y 3 = 0 → y 4 = y 1 ∧ y 5 = 0 ∧ y 7 = -1000000)
def DIMS (N : NS) (T : Int) : Prop := (2 ≤ n_sc N 0 ∧ n_sc N 0 ≤ 4) ∧ (2 ≤ n_sc N 1 ∧ n_sc N 1 ≤ 4) ∧ (0 ≤ n_sc N 2 ∧ n_sc N 2 ≤ 2) ∧ (10 ≤ n_sc N 3 ∧ n_sc N 3 ≤ 99) ∧ (0 ≤ n_sc N 4 ∧ n_sc N 4 ≤ T) ∧ (0 ≤ n_sc N 5 ∧ n_sc N 5 ≤ 40)
def LNK (N : NS) : Prop := ∀ v, 0 ≤ v → v < nd N → (0 ≤ n_sc N (13 + v) ∧ n_sc N (13 + v) < 16) ∧ (n_sc N (29 + v) = -1000000 ∨ (0 ≤ n_sc N (29 + v) ∧ n_sc N (29 + v) < 4)) ∧ ∀ p, 0 ≤ p → p < 4 → hasB (n_sc N (13 + v)) p = true → ptB (n_sc N 0) (n_sc N 1) (n_sc N 2) v p = true ∧ hasB (n_sc N (13 + byd (n_sc N 0) (n_sc N 1) v p)) ((p + 2) % 4) = true
def GLD (N : NS) : Prop := (n_gd N).Nodup ∧ ∀ x ∈ n_gd N, (0 ≤ x ∧ x < n_sc N 5) ∧ n_le N x 3 < 2
def LGI (N : NS) : Prop := (∀ x ∈ n_lg N, (0 ≤ x ∧ x < n_sc N 5) ∧ n_le N x 3 = 2) ∧ ∀ P : Int → Bool, ((n_lg N).countP P : Int) = cntM (fun k => n_le N k 3 = 2 ∧ P k = true) (n_sc N 5)
def WF (N : NS) (T : Int) : Prop := DIMS N T ∧ LNK N ∧ GLD N ∧ LGI N ∧ ∀ k, 0 ≤ k → k < n_sc N 5 → LW (nd N) T (n_le N k)
theorem WF_nd {N : NS} {T : Int} (h : WF N T) : 4 ≤ nd N ∧ nd N ≤ 16 := by
  obtain ⟨⟨h1, h2, -⟩, -⟩ := h
  have : n_sc N 0 = 2 ∨ n_sc N 0 = 3 ∨ n_sc N 0 = 4 := by omega
  show 4 ≤ n_sc N 0 * n_sc N 1 ∧ n_sc N 0 * n_sc N 1 ≤ 16
  rcases this with e | e | e <;> rw [e] <;> omega
theorem WF_lg {N : NS} {T l : Int} (h : WF N T) (h0 : 0 ≤ l) (h1 : l < n_sc N 5) (h2 : n_le N l 3 ≠ 2) : ((n_lg N).length : Int) < 40 := by
  obtain ⟨⟨-, -, -, -, -, d⟩, -, -, g, -⟩ := h
  have e := g.2 (fun _ => true)
  rw [List.countP_true] at e
  have := cntM_lt (P := fun k => n_le N k 3 = 2 ∧ true = true) h0 h1 (fun z => h2 z.1)
  omega
theorem WF_upd {N : NS} {T l : Int} {w : Int → Int} {L' : List Int} (h : WF N T) (hl : 0 ≤ l ∧ l < n_sc N 5) (hw : LW (nd N) T w) (h2 : 2 ≤ w 3) (h1 : n_le N l 3 < 2) (hL : (w 3 = 2 ∧ L' = n_lg N ++ [l]) ∨ (w 3 ≠ 2 ∧ L' = n_lg N)) : WF (updL N l w L') T := by
  obtain ⟨d, k, ⟨g1, g2⟩, ⟨l1, l2⟩, q⟩ := h
  refine ⟨d, k, ⟨List.Pairwise.filter _ g1, fun x hx => ?_⟩, ⟨fun x hx => ?_, fun P => ?_⟩, fun j q1 q2 => ?_⟩
  · have hx : x ∈ (n_gd N).filter (fun y => decide (y ≠ l)) := hx
    rw [List.mem_filter] at hx
    obtain ⟨y1, y2⟩ := hx
    have y2 : x ≠ l := of_decide_eq_true y2
    refine ⟨(g2 x y1).1, ?_⟩
    show (if x = l then w 3 else n_le N x 3) < 2
    rw [if_neg y2]; exact (g2 x y1).2
  · have hx : x ∈ L' := hx
    show _ ∧ (if x = l then w 3 else n_le N x 3) = 2
    rcases hL with ⟨e, rfl⟩ | ⟨e, rfl⟩
    · rw [List.mem_append, List.mem_singleton] at hx
      rcases hx with hx | hx
      · have := l1 x hx
        rw [if_neg (by intro z; rw [z] at this; omega)]
        exact this
      · subst hx
        rw [if_pos rfl]; exact ⟨hl, e⟩
    · have := l1 x hx
      rw [if_neg (by intro z; rw [z] at this; omega)]
      exact this
  · show ((L'.countP P : Nat) : Int) = cntM (fun k => (if k = l then w 3 else n_le N k 3) = 2 ∧ P k = true) (n_sc N 5)
    have hd := d.2.2.2.2.2
    rcases hL with ⟨e, rfl⟩ | ⟨e, rfl⟩
    · rw [List.countP_append]
      by_cases hp : P l = true
      · have e1 : List.countP P [l] = 1 := by simp [List.countP_cons, hp]
        rw [e1, cntM_one (P := fun k => n_le N k 3 = 2 ∧ P k = true) hl.1 hl.2 (fun z => by have := z.1; omega) (fun k q1 q2 => ?_), ← l2 P]
        · omega
        · by_cases z : k = l
          · subst z; simp [e, hp]
          · simp [z]
      · have e1 : List.countP P [l] = 0 := by simp [List.countP_cons, hp]
        rw [e1, Nat.add_zero, l2 P]
        refine cntM_cg hd.1 (fun k q1 q2 => ?_)
        by_cases z : k = l
        · subst z; simp [hp]
        · simp [z]
    · rw [l2 P]
      refine cntM_cg hd.1 (fun k q1 q2 => ?_)
      by_cases z : k = l
      · subst z
        rw [if_pos rfl]
        constructor
        · intro y; have := y.1; omega
        · intro y; exact absurd y.1 e
      · rw [if_neg z]
  · by_cases z : j = l
    · have : n_le (updL N l w L') j = w := by
        funext f
        show (if j = l then w f else n_le N j f) = w f
        rw [if_pos z]
      rw [this]; exact hw
    · have : n_le (updL N l w L') j = n_le N j := by
        funext f
        show (if j = l then w f else n_le N j f) = n_le N j f
        rw [if_neg z]
      rw [this]; exact q j q1 q2
theorem WF_fin {N : NS} {T l : Int} (h : WF N T) (hl : 0 ≤ l ∧ l < n_sc N 5) (h1 : n_le N l 3 = 1) (hT : n_sc N 4 < T) : WF (updL N l (finW N l 2) (n_lg N ++ [l])) T := by
  have hq := h.2.2.2.2 l hl.1 hl.2
  have hd := h.1.2.2.2.2.1
  refine WF_upd h hl ?_ (by simp [finW]) (by omega) (Or.inl ⟨by simp [finW], rfl⟩)
  unfold LW at hq ⊢
  simp only [finW]
  simp
  omega
theorem WF_los {N : NS} {T l w : Int} (h : WF N T) (hl : 0 ≤ l ∧ l < n_sc N 5) (h1 : n_le N l 3 = 1) (hT : n_sc N 4 < T) (hw : w = 2 ∨ w = 3) : WF (updL N l (losW N l w) (n_lg N)) T := by
  have hq := h.2.2.2.2 l hl.1 hl.2
  have hd := h.1.2.2.2.2.1
  have hk := h.2.1
  have hnd := WF_nd h
  refine WF_upd h hl ?_ (by simp [losW]) (by omega) (Or.inr ⟨by simp [losW], rfl⟩)
  unfold LW at hq ⊢
  have hlk := (hk (n_le N l 4) hq.1.2.2.2.2.1 hq.1.2.2.2.2.2).2.1
  simp only [losW]
  rcases hw with rfl | rfl
  · simp
    omega
  · simp
    omega
/-! the steps of a TURN, as numbers; O and n: the order -/
def chsA (N : NS) (O : Int → Int) (n v : Int) : Int := nthT (fun i => decide (n_le N (O i) 4 = v ∧ n_le N (O i) 2 = v)) O (n - 0).toNat 0 0
def delP (N : NS) (O : Int → Int) (n k : Int) : Bool := decide ((0 ≤ k ∧ k < n_sc N 5) ∧ chsA N O n (n_le N k 4) = k)
def delL (N : NS) (O : Int → Int) (n v : Int) : List Int := fo (fun L u => if chsA N O n u = -1000000 then L else L ++ [chsA N O n u]) (n_lg N) v
def dlv (N : NS) (O : Int → Int) (n v : Int) : NS := mkL N (fun k => delP N O n k && decide (n_le N k 4 < v)) (fun k => finW N k 2) (delL N O n v)
def delA (N : NS) (O : Int → Int) (n : Int) : NS := mkL N (delP N O n) (fun k => finW N k 2) (delL N O n (nd N))
theorem chsA_c {N : NS} {O : Int → Int} {n : Int} (ho : ORD N O n) (v : Int) : (chsA N O n v = -1000000 ∧ ∀ i, 0 ≤ i → i < n → ¬ (n_le N (O i) 4 = v ∧ n_le N (O i) 2 = v)) ∨ ∃ i, (0 ≤ i ∧ i < n) ∧ chsA N O n v = O i ∧ (0 ≤ O i ∧ O i < n_sc N 5) ∧ n_le N (O i) 3 = 1 ∧ n_le N (O i) 4 = v ∧ n_le N (O i) 2 = v := by
  obtain ⟨o1, o2, -, -⟩ := ho
  rcases nthT_sp (Q := fun i => decide (n_le N (O i) 4 = v ∧ n_le N (O i) 2 = v)) (T := O) (n - 0).toNat 0 with ⟨h1, h2⟩ | ⟨j, h1, h2, h3, h4⟩
  · exact Or.inl ⟨h1, fun i a b => of_decide_eq_false (h2 i a (by omega))⟩
  · have := o2 j (by omega) (by omega)
    exact Or.inr ⟨j, by omega, h3, this.1, this.2, of_decide_eq_true h2⟩
theorem dlv_0 {N : NS} {O : Int → Int} {n T : Int} (h : WF N T) : dlv N O n 0 = N := by
  refine mkL_none (fun k => ?_)
  unfold delP
  by_cases q : (0 ≤ k ∧ k < n_sc N 5) ∧ chsA N O n (n_le N k 4) = k
  · have := (h.2.2.2.2 k q.1.1 q.1.2).1.2.2.2.2.1
    rw [decide_eq_false (p := n_le N k 4 < 0) (by omega), Bool.and_false]
  · rw [decide_eq_false q, Bool.false_and]
theorem dlv_end {N : NS} {O : Int → Int} {n T : Int} (h : WF N T) : dlv N O n (nd N) = delA N O n := by
  refine mkL_eq (fun k => ?_)
  unfold delP
  by_cases q : (0 ≤ k ∧ k < n_sc N 5) ∧ chsA N O n (n_le N k 4) = k
  · have := (h.2.2.2.2 k q.1.1 q.1.2).1.2.2.2.2.2
    rw [decide_eq_true (p := n_le N k 4 < nd N) (by omega), Bool.and_true]
  · rw [decide_eq_false q, Bool.false_and]
theorem dlv_skip {N : NS} {O : Int → Int} {n v : Int} (h0 : 0 ≤ v) (hv : chsA N O n v = -1000000) : dlv N O n (v + 1) = dlv N O n v := by
  have e1 : delL N O n (v + 1) = delL N O n v := by
    unfold delL
    rw [fo_s _ _ h0, if_pos hv]
  unfold dlv
  rw [e1]
  refine mkL_eq (fun k => ?_)
  unfold delP
  by_cases q : (0 ≤ k ∧ k < n_sc N 5) ∧ chsA N O n (n_le N k 4) = k
  · have : n_le N k 4 ≠ v := by
      intro z
      rw [z, hv] at q
      omega
    rw [show (decide (n_le N k 4 < v + 1)) = decide (n_le N k 4 < v) from decide_eq_decide.mpr (by omega)]
  · rw [decide_eq_false q, Bool.false_and, Bool.false_and]
theorem dlv_le {N : NS} {O : Int → Int} {n v k : Int} (h : v ≤ n_le N k 4) : n_le (dlv N O n v) k = n_le N k := by
  funext f
  show (if (delP N O n k && decide (n_le N k 4 < v)) = true then _ else n_le N k f) = n_le N k f
  rw [decide_eq_false (by omega), Bool.and_false, if_neg (by simp)]
theorem dlv_next {N : NS} {O : Int → Int} {n v : Int} (ho : ORD N O n) (h0 : 0 ≤ v) (hv : chsA N O n v ≠ -1000000) : updL (dlv N O n v) (chsA N O n v) (finW (dlv N O n v) (chsA N O n v) 2) (n_lg (dlv N O n v) ++ [chsA N O n v]) = dlv N O n (v + 1) := by
  have e1 : delL N O n (v + 1) = delL N O n v ++ [chsA N O n v] := by
    unfold delL
    rw [fo_s _ _ h0, if_neg hv]
  rcases chsA_c ho v with ⟨q, -⟩ | ⟨i, hi, c1, c2, c3, c4, c5⟩
  · exact absurd q hv
  · have ha : n_le N (chsA N O n v) 4 = v := by rw [c1]; exact c4
    have hle := dlv_le (N := N) (O := O) (n := n) (v := v) (k := chsA N O n v) (by omega)
    have hn : n_lg (dlv N O n v) = delL N O n v := rfl
    have hfin : ∀ f, finW (dlv N O n v) (chsA N O n v) 2 f = finW N (chsA N O n v) 2 f := by
      intro f
      unfold finW
      rw [hle]
      rfl
    rw [hn, ← e1]
    unfold dlv
    refine mkL_next (fun k => ?_) (fun f => hfin f)
    unfold delP
    by_cases z : k = chsA N O n v
    · subst z
      rw [ha, decide_eq_true (p := v < v + 1) (by omega)]
      rw [c1]
      rw [c1] at ha
      simp [c2, c1]
    · by_cases q : (0 ≤ k ∧ k < n_sc N 5) ∧ chsA N O n (n_le N k 4) = k
      · have : n_le N k 4 ≠ v := by
          intro y
          rw [y] at q
          exact z q.2.symm
        rw [show (decide (n_le N k 4 < v + 1)) = decide (n_le N k 4 < v) from decide_eq_decide.mpr (by omega), decide_eq_false z, Bool.or_false]
      · rw [decide_eq_false q, decide_eq_false z]; rfl
