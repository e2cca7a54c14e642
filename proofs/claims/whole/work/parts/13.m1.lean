/-! ===== LET GO, pure ===== -/
noncomputable def itA (N : NS) : Nat → NS
  | 0 => N
  | j + 1 => trA (itA N j)
theorem itA_wf {N : NS} {T : Int} (h : WFT N T) : ∀ j : Nat, n_sc N 4 + (j : Int) ≤ T → WFT (itA N j) T ∧ n_sc (itA N j) 4 = n_sc N 4 + (j : Int) ∧ ∀ i, i ≠ 4 → n_sc (itA N j) i = n_sc N i := by
  intro j
  induction j with
  | zero => intro _; exact ⟨h, by show n_sc N 4 = _; omega, fun i _ => rfl⟩
  | succ j ih =>
    intro hj
    have ih := ih (by omega)
    refine ⟨trA_wf ih.1 (by rw [ih.2.1]; omega), ?_, fun i hi => ?_⟩
    · show n_sc (trA (itA N j)) 4 = _
      rw [trA_4, ih.2.1]
      omega
    · show n_sc (trA (itA N j)) i = _
      rw [trA_sc hi]; exact ih.2.2 i hi
def gng (N : NS) : Prop := ∃ k, (0 ≤ k ∧ k < n_sc N 5) ∧ n_le N k 3 < 2
def stir (N : NS) : Prop := ∃ k, (0 ≤ k ∧ k < n_sc N 5) ∧ (n_le N k 3 = 1 ∨ (n_le N k 3 = 0 ∧ 0 < lkA N (n_le N k 4)))
def endL (N : NS) (l : Int) : Prop := (0 ≤ l ∧ l < n_sc N 5) ∧ 2 ≤ n_le N l 3
theorem stir_gng {N : NS} (h : stir N) : gng N := by
  obtain ⟨k, hk, h⟩ := h
  exact ⟨k, hk, by omega⟩
def stepT (N : NS) : NS := (fun i => if i = 4 then n_sc N 4 + 1 else n_sc N i, n_gd N, n_lg N, n_le N)
theorem mkS_none {N : NS} {P : Int → Bool} {u : Int → Int → Int} (h : ∀ k, P k = false) : mkS N P u = N := by
  refine NS_eta rfl rfl rfl ?_
  funext k f
  show (if P k = true then u k f else n_le N k f) = _
  rw [h k, if_neg (by simp)]
theorem delL_id {N : NS} {O : Int → Int} {n v : Int} (h0 : 0 ≤ v) (h : ∀ u, chsA N O n u = -1000000) : delL N O n v = n_lg N := by
  refine up_ind (P := fun v => delL N O n v = n_lg N) rfl ?_ h0
  intro k hk ih
  have e : delL N O n (k + 1) = if chsA N O n k = -1000000 then delL N O n k else delL N O n k ++ [chsA N O n k] := fo_s _ _ hk
  rw [e, if_pos (h k)]
  exact ih
theorem stk_tr {N : NS} {T : Int} (hw : WF N T) (h : ¬ stir N) : trA N = stepT N := by
  have h5 := hw.1.2.2.2.2.2.1
  have hnd := WF_nd hw
  have nf : ∀ k, 0 ≤ k → k < n_sc N 5 → n_le N k 3 ≠ 1 := fun k a b c => h ⟨k, ⟨a, b⟩, Or.inl c⟩
  have nw : ∀ k, 0 ≤ k → k < n_sc N 5 → n_le N k 3 = 0 → ¬ 0 < lkA N (n_le N k 4) := fun k a b c d => h ⟨k, ⟨a, b⟩, Or.inr ⟨c, d⟩⟩
  have ho := tO1_ok hw
  have hn0 : (tO1 N).2 = 0 := by
    have := ho.1
    by_cases q : 0 < (tO1 N).2
    · have z := ho.2.1 0 (Int.le_refl _) q
      exact absurd z.2 (nf _ z.1.1 z.1.2)
    · omega
  have hch : ∀ u, chsA N (tO1 N).1 (tO1 N).2 u = -1000000 := fun u => by
    rcases chsA_c ho u with ⟨z, -⟩ | ⟨i, hi, -⟩
    · exact z
    · omega
  have e1 : t1 N = N := by
    unfold t1 delA
    rw [delL_id (by omega) hch]
    refine mkL_none (fun k => decide_eq_false (fun z => ?_))
    have := hch (n_le N k 4)
    omega
  have e2 : t2 N = N := by
    unfold t2
    rw [e1]
    exact mkL_none (fun k => decide_eq_false (fun z => nf k z.1.1 z.1.2 z.2.1))
  have e3 : t3 N = N := by
    unfold t3
    rw [e2]
    exact mkL_none (fun k => decide_eq_false (fun z => nf k z.1.1 z.1.2 z.2.1))
  have e4 : t4 N = N := by
    unfold t4
    rw [e3]
    refine mkS_none (fun k => decide_eq_false (fun z => ?_))
    have y := hw.2.2.2.2 k z.1.1 z.1.2
    unfold LW at y
    have e : n_le N k 4 = n_le N k 1 := by omega
    have x := nw k z.1.1 z.1.2 z.2.1
    rw [e] at x
    have w : 0 ≤ hrA N (n_le N k 1) := (cntM_bd _ h5).1
    omega
  unfold trA
  rw [e4]
  refine NS_eta rfl rfl rfl ?_
  funext k f
  rw [mvA_le, if_neg]
  · rfl
  · intro z
    have := of_decide_eq_true z
    exact nf k this.1.1 this.1.2 this.2
theorem stk_st {N : NS} {T : Int} (hw : WF N T) (h : ¬ stir N) : ¬ stir (stepT N) := by
  rintro ⟨k, hk, z⟩
  have e5 : n_sc (stepT N) 5 = n_sc N 5 := by
    show (if (5 : Int) = 4 then n_sc N 4 + 1 else n_sc N 5) = _
    rw [if_neg (by decide)]
  rw [e5] at hk
  apply h
  refine ⟨k, hk, ?_⟩
  have hat := (hw.2.2.2.2 k hk.1 hk.2).1.2.2.2.2
  have e : lkA (stepT N) (n_le N k 4) = lkA N (n_le N k 4) := by
    unfold lkA
    show onE (if 13 + n_le N k 4 = 4 then _ else n_sc N (13 + n_le N k 4)) = _
    rw [if_neg (by omega)]
  rcases z with z | ⟨z, y⟩
  · exact Or.inl z
  · have y' : 0 < lkA (stepT N) (n_le N k 4) := y
    exact Or.inr ⟨z, by omega⟩
/-- what has ended stays as it is -/
theorem end_tr {N : NS} {T k : Int} (hw : WF N T) (hk : 0 ≤ k ∧ k < n_sc N 5) (h : 2 ≤ n_le N k 3) : n_le (trA N) k = n_le N k := by
  have ho := tO1_ok hw
  have e1 : n_le (t1 N) k = n_le N k := by
    funext f
    unfold t1 delA
    rw [mkL_le, if_neg]
    intro z
    have z := of_decide_eq_true z
    rcases chsA_c ho (n_le N k 4) with ⟨y, -⟩ | ⟨i, hi, y, -, x, -⟩
    · omega
    · rw [← y, z.2] at x
      omega
  have e2 : n_le (t2 N) k = n_le N k := by
    funext f
    unfold t2 oldA
    rw [mkL_le, if_neg, e1]
    intro z
    have z := (of_decide_eq_true z).2.1
    rw [e1] at z
    omega
  have e3 : n_le (t3 N) k = n_le N k := by
    funext f
    unfold t3 ovA
    rw [mkL_le, if_neg, e2]
    intro z
    have z := (of_decide_eq_true z).2.1
    rw [e2] at z
    omega
  have e4 : n_le (t4 N) k = n_le N k := by
    funext f
    unfold t4
    rw [puA_le, if_neg, e3]
    intro z
    have z := (of_decide_eq_true z).2.1
    rw [e3] at z
    omega
  funext f
  unfold trA
  rw [mvA_le, if_neg, e4]
  intro z
  have z := (of_decide_eq_true z).2
  rw [e4] at z
  omega
/-- one that ends in a TURN bears its number -/
theorem fin_tr {N : NS} {T k : Int} (hw : WF N T) (hk : 0 ≤ k ∧ k < n_sc N 5) (h : n_le N k 3 < 2) (h2 : 2 ≤ n_le (trA N) k 3) : n_le (trA N) k 8 = n_sc N 4 := by
  have p4 : 2 ≤ n_le (t4 N) k 3 := by
    unfold trA at h2
    rw [mvA_3] at h2
    exact h2
  have q4 : n_le (trA N) k 8 = n_le (t4 N) k 8 := by
    unfold trA
    rw [mvA_le, if_neg]
    intro z
    have z := (of_decide_eq_true z).2
    omega
  have p3 : puP (t3 N) k ≠ true := fun z => by
    unfold t4 at p4
    rw [puA_le, if_pos z] at p4
    have : puU (t3 N) k 3 = 1 := rfl
    omega
  have e4 : ∀ f, n_le (t4 N) k f = n_le (t3 N) k f := fun f => by
    unfold t4
    rw [puA_le, if_neg p3]
  rw [q4, e4]
  rw [e4] at p4
  by_cases z3 : ovP (t2 N) (tO1 N).1 (tO1 N).2 k = true
  · unfold t3 ovA
    rw [mkL_le, if_pos z3]
    rfl
  · have e3 : ∀ f, n_le (t3 N) k f = n_le (t2 N) k f := fun f => by
      unfold t3 ovA
      rw [mkL_le, if_neg z3]
    rw [e3]
    rw [e3] at p4
    by_cases z2 : oldP (t1 N) k = true
    · unfold t2 oldA
      rw [mkL_le, if_pos z2]
      rfl
    · have e2 : ∀ f, n_le (t2 N) k f = n_le (t1 N) k f := fun f => by
        unfold t2 oldA
        rw [mkL_le, if_neg z2]
      rw [e2]
      rw [e2] at p4
      by_cases z1 : delP N (tO1 N).1 (tO1 N).2 k = true
      · unfold t1 delA
        rw [mkL_le, if_pos z1]
        rfl
      · unfold t1 delA at p4
        rw [mkL_le, if_neg z1] at p4
        omega
/-- stuck: only the TURN goes on -/
theorem stk_it {N : NS} {T : Int} (h : WFT N T) {i : Nat} (hs : ¬ stir (itA N i)) : ∀ f : Nat, n_sc N 4 + ((i + f : Nat) : Int) ≤ T → n_le (itA N (i + f)) = n_le (itA N i) ∧ ¬ stir (itA N (i + f)) := by
  intro f
  induction f with
  | zero => intro _; exact ⟨rfl, hs⟩
  | succ f ih =>
    intro hf
    have ih := ih (by omega)
    have hw := itA_wf h (i + f) (by omega)
    have e : itA N (i + (f + 1)) = stepT (itA N (i + f)) := stk_tr hw.1.1 ih.2
    rw [e]
    exact ⟨ih.1, stk_st hw.1.1 ih.2⟩
theorem end_it {N : NS} {T l : Int} (h : WFT N T) {i : Nat} (hl : 0 ≤ l ∧ l < n_sc N 5) (hs : 2 ≤ n_le (itA N i) l 3) : ∀ f : Nat, n_sc N 4 + ((i + f : Nat) : Int) ≤ T → n_le (itA N (i + f)) l = n_le (itA N i) l := by
  intro f
  induction f with
  | zero => intro _; rfl
  | succ f ih =>
    intro hf
    have ih := ih (by omega)
    have hw := itA_wf h (i + f) (by omega)
    show n_le (trA (itA N (i + f))) l = _
    rw [end_tr hw.1.1 (by rw [hw.2.2 5 (by decide)]; exact hl) (by rw [ih]; exact hs), ih]
/-- how the class and the reference let go -/
def LGC (N : NS) (w : Int) (n : Nat) : Prop := n ≤ 300 ∧ (n = 300 ∨ ¬ stir (itA N n) ∨ endL (itA N n) w) ∧ ∀ j, j < n → stir (itA N j) ∧ ¬ endL (itA N j) w
def LGR (N : NS) (n : Nat) : Prop := n ≤ 300 ∧ (n = 300 ∨ ¬ gng (itA N n)) ∧ ∀ j, j < n → gng (itA N j)
def LGT (N : NS) (l : Int) (n : Nat) : Prop := n ≤ 300 ∧ (n = 300 ∨ 2 ≤ n_le (itA N n) l 3) ∧ ∀ j, j < n → n_le (itA N j) l 3 < 2
theorem LG_le {N : NS} {w : Int} {nc nr : Nat} (hc : LGC N w nc) (hr : LGR N nr) : nc ≤ nr := by
  by_cases q : nr < nc
  · rcases hr.2.1 with z | z
    · have := hc.1; omega
    · exact absurd (stir_gng (hc.2.2 nr q).1) z
  · omega
/-- nothing watched: the letters are the same in the end -/
theorem LG_eq {N : NS} {T : Int} (h : WFT N T) (hT : n_sc N 4 + 300 ≤ T) {w : Int} (hw : w < 0) {nc nr : Nat} (hc : LGC N w nc) (hr : LGR N nr) : n_le (itA N nr) = n_le (itA N nc) ∧ (¬ gng (itA N nc) → nr = nc) ∧ (gng (itA N nr) ↔ gng (itA N nc)) := by
  have hle := LG_le hc hr
  have e5 := fun (j : Nat) (hj : j ≤ 300) => (itA_wf h j (by omega)).2.2 5 (by decide)
  have same : n_le (itA N nr) = n_le (itA N nc) := by
    rcases hc.2.1 with z | z | z
    · have : nr = nc := by have := hr.1; omega
      rw [this]
    · have := (stk_it h z (nr - nc) (by have := hr.1; omega)).1
      rw [show nc + (nr - nc) = nr by omega] at this
      exact this
    · have := z.1; omega
  refine ⟨same, fun z => ?_, ?_⟩
  · by_cases q : nc < nr
    · exact absurd (hr.2.2 nc q) z
    · omega
  · unfold gng
    rw [same, e5 nr hr.1, e5 nc hc.1]
/-- one letter watched: it is the same in the end -/
theorem LG_eqw {N : NS} {T l : Int} (h : WFT N T) (hT : n_sc N 4 + 300 ≤ T) (hl : 0 ≤ l ∧ l < n_sc N 5) {nc nr : Nat} (hc : LGC N l nc) (hr : LGR N nr) : n_le (itA N nr) l = n_le (itA N nc) l := by
  have hle := LG_le hc hr
  have hr1 := hr.1
  rcases hc.2.1 with z | z | z
  · have : nr = nc := by omega
    rw [this]
  · have := (stk_it h z (nr - nc) (by omega)).1
    rw [show nc + (nr - nc) = nr by omega] at this
    rw [this]
  · have := end_it h hl z.2 (nr - nc) (by omega)
    rw [show nc + (nr - nc) = nr by omega] at this
    exact this
theorem LG_tk {N : NS} {T l : Int} (h : WFT N T) (hT : n_sc N 4 + 300 ≤ T) (hl : 0 ≤ l ∧ l < n_sc N 5) (h0 : n_le N l 3 < 2) {nc nt : Nat} (hc : LGC N l nc) (ht : LGT N l nt) : (if 2 ≤ n_le (itA N nc) l 3 then n_le (itA N nc) l 8 - n_sc N 4 else 300) = (if n_le (itA N nt) l 3 < 2 then 300 else (nt : Int) - 1) ∧ (2 ≤ n_le (itA N nc) l 3 → 0 ≤ n_le (itA N nc) l 8 - n_sc N 4 ∧ n_le (itA N nc) l 8 - n_sc N 4 < 300) := by
  have e5 := fun (j : Nat) (hj : j ≤ 300) => (itA_wf h j (by omega)).2.2 5 (by decide)
  have hc1 := hc.1
  have ht1 := ht.1
  by_cases q : 2 ≤ n_le (itA N nc) l 3
  · have hnn : nt = nc := by
      by_cases z : nt < nc
      · rcases ht.2.1 with y | y
        · omega
        · exact absurd ⟨by rw [e5 nt ht1]; exact hl, y⟩ (hc.2.2 nt z).2
      · by_cases y : nc < nt
        · have := ht.2.2 nc y
          omega
        · omega
    rw [if_pos q, hnn, if_neg (by omega)]
    cases nc with
    | zero => exact absurd q (by show ¬ 2 ≤ n_le N l 3; omega)
    | succ n =>
      have hn := ht.2.2 n (by omega)
      have hwn := itA_wf h n (by omega)
      have e : n_le (itA N (n + 1)) l 8 = n_sc (itA N n) 4 := fin_tr hwn.1.1 (by rw [hwn.2.2 5 (by decide)]; exact hl) hn q
      rw [e, hwn.2.1]
      omega
  · rw [if_neg q]
    refine ⟨?_, fun z => absurd z q⟩
    have : n_le (itA N nt) l 3 < 2 := by
      rcases hc.2.1 with z | z | z
      · by_cases y : nt < nc
        · rcases ht.2.1 with x | x
          · omega
          · exact absurd ⟨by rw [e5 nt ht1]; exact hl, x⟩ (hc.2.2 nt y).2
        · have : nt = nc := by omega
          rw [this]; omega
      · by_cases y : nt < nc
        · rcases ht.2.1 with x | x
          · omega
          · exact absurd ⟨by rw [e5 nt ht1]; exact hl, x⟩ (hc.2.2 nt y).2
        · have := (stk_it h z (nt - nc) (by omega)).1
          rw [show nc + (nt - nc) = nt by omega] at this
          rw [this]; omega
      · exact absurd z.2 q
    rw [if_pos this]
