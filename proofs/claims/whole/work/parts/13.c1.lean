/-! ===== a NET as numbers: what both sides hold ===== -/
def lof (f : Int → Int) (n : Int) : List Int := fo (fun r k => r ++ [f k]) [] n
theorem lof_0 (f : Int → Int) : lof f 0 = [] := rfl
theorem lof_s {f : Int → Int} {n : Int} (h : 0 ≤ n) : lof f (n + 1) = lof f n ++ [f n] := fo_s _ _ h
theorem up_ind {P : Int → Prop} (h0 : P 0) (hs : ∀ k, 0 ≤ k → P k → P (k + 1)) {n : Int} (h : 0 ≤ n) : P n := by
  obtain ⟨k, rfl⟩ := Int.eq_ofNat_of_zero_le h
  induction k with
  | zero => exact h0
  | succ k ih => exact hs (k : Int) (by omega) (ih (by omega))
theorem lof_mem {f : Int → Int} {x n : Int} (h : 0 ≤ n) : x ∈ lof f n ↔ ∃ j, (0 ≤ j ∧ j < n) ∧ f j = x := by
  refine up_ind (P := fun n => x ∈ lof f n ↔ ∃ j, (0 ≤ j ∧ j < n) ∧ f j = x) ?_ (fun k hk ih => ?_) h
  · rw [lof_0]
    refine ⟨fun q => absurd q (by simp), fun ⟨j, q, _⟩ => by omega⟩
  · rw [lof_s hk, List.mem_append, ih, List.mem_singleton]
    constructor
    · rintro (⟨j, q, e⟩ | e)
      · exact ⟨j, by omega, e⟩
      · exact ⟨k, by omega, e.symm⟩
    · rintro ⟨j, q, e⟩
      by_cases hj : j = k
      · rw [hj] at e; exact Or.inr e.symm
      · exact Or.inl ⟨j, by omega, e⟩
theorem lof_cg {f g : Int → Int} {n : Int} (h : 0 ≤ n) (e : ∀ j, 0 ≤ j → j < n → f j = g j) : lof f n = lof g n := by
  refine up_ind (P := fun k => k ≤ n → lof f k = lof g k) (fun _ => rfl) (fun k hk ih h2 => ?_) h (Int.le_refl _)
  rw [lof_s hk, lof_s hk, ih (by omega), e k hk (by omega)]
theorem lof_len {f : Int → Int} {n : Int} (h : 0 ≤ n) : ((lof f n).length : Int) = n := by
  refine up_ind (P := fun k => ((lof f k).length : Int) = k) rfl (fun k hk ih => ?_) h
  rw [lof_s hk, List.length_append]
  simp only [List.length_singleton]
  omega
theorem lof_nd {f : Int → Int} {n : Int} (h : 0 ≤ n) : (lof f n).Nodup ↔ ∀ i j, 0 ≤ i → i < j → j < n → f i ≠ f j := by
  refine up_ind (P := fun n => (lof f n).Nodup ↔ ∀ i j, 0 ≤ i → i < j → j < n → f i ≠ f j) ?_ (fun k hk ih => ?_) h
  · rw [lof_0]
    exact ⟨fun _ i j h1 h2 h3 => by omega, fun _ => List.nodup_nil⟩
  · rw [lof_s hk, List.nodup_append, ih]
    constructor
    · rintro ⟨h1, _, h2⟩ i j q1 q2 q3
      by_cases e : j = k
      · rw [e]
        exact h2 (f i) ((lof_mem hk).mpr ⟨i, by omega, rfl⟩) (f k) (by simp)
      · exact h1 i j q1 q2 (by omega)
    · intro q
      refine ⟨fun i j q1 q2 q3 => q i j q1 q2 (by omega), by simp, fun x hx y hy => ?_⟩
      obtain ⟨i, hi, rfl⟩ := (lof_mem hk).mp hx
      rw [List.mem_singleton] at hy
      rw [hy]
      exact q i k hi.1 hi.2 (by omega)
theorem filt_id {l : List Int} {p : Int → Bool} (h : ∀ x ∈ l, p x = true) : l.filter p = l := List.filter_eq_self.mpr h
/-- one goes, those behind it come nearer -/
theorem lof_drop {f : Int → Int} {n s x : Int} (h0 : 0 ≤ s) (h1 : s < n) (hn : (lof f n).Nodup) (e : f s = x) : lof (fun j => if s ≤ j ∧ j < n - 1 then f (j + 1) else f j) (n - 1) = (lof f n).filter (fun y => decide (y ≠ x)) := by
  have key : ∀ k, 0 ≤ k → k + 1 ≤ n → (if k < s then lof f k else lof (fun j => if s ≤ j ∧ j < n - 1 then f (j + 1) else f j) k) = (lof f (if k < s then k else k + 1)).filter (fun y => decide (y ≠ x)) := by
    intro k hk
    have nd := (lof_nd (f := f) (n := n) (by omega)).mp hn
    refine up_ind (P := fun k => k + 1 ≤ n → (if k < s then lof f k else lof (fun j => if s ≤ j ∧ j < n - 1 then f (j + 1) else f j) k) = (lof f (if k < s then k else k + 1)).filter (fun y => decide (y ≠ x))) ?_ (fun k hk ih h2 => ?_) hk
    · intro _
      by_cases q : 0 < s
      · rw [if_pos q, if_pos q]; rfl
      · have hs : s = 0 := by omega
        subst hs
        rw [if_neg q, if_neg q, lof_s (Int.le_refl _), lof_0, lof_0, List.nil_append, List.filter_cons, if_neg (by simp [e])]
        rfl
    · have ih := ih (by omega)
      by_cases q : k + 1 < s
      · rw [if_pos q, if_pos q]
        rw [if_pos (by omega), if_pos (by omega)] at ih
        rw [lof_s hk, List.filter_append, ← ih, List.filter_cons, if_pos (by simp; rw [← e]; exact nd k s hk (by omega) h1)]
        rfl
      · rw [if_neg q, if_neg q]
        by_cases q2 : k < s
        · have hs : s = k + 1 := by omega
          rw [if_pos q2, if_pos q2] at ih
          rw [lof_s (f := f) (n := k + 1) (by omega), List.filter_append, List.filter_cons, if_neg (by rw [← hs]; simp [e]), List.filter_nil, List.append_nil, lof_s (f := f) hk, List.filter_append, ← ih, List.filter_cons, if_pos (by simp; rw [← e]; exact nd k s hk (by omega) h1), List.filter_nil, lof_s hk]
          rw [if_neg (by omega)]
          congr 1
          exact lof_cg hk (fun j a b => by rw [if_neg (by omega)])
        · rw [if_neg q2, if_neg q2] at ih
          rw [lof_s (n := k + 1) (by omega), List.filter_append, ← ih, List.filter_cons, if_pos (by simp; rw [← e]; exact (nd s (k + 1) h0 (by omega) (by omega)).symm), List.filter_nil, lof_s hk]
          rw [if_pos (by omega)]
  have := key (n - 1) (by omega) (by omega)
  rw [if_neg (by omega), if_neg (by omega), show n - 1 + 1 = n by omega] at this
  exact this
/-- numbers as in the reference's row (0 to 5, links from 13, last cuts from 29); the golden ones; the log; the letters -/
abbrev NS : Type := (Int → Int) × (List Int × (List Int × (Int → Int → Int)))
abbrev n_sc (N : NS) : Int → Int := N.1
abbrev n_gd (N : NS) : List Int := N.2.1
abbrev n_lg (N : NS) : List Int := N.2.2.1
abbrev n_le (N : NS) : Int → Int → Int := N.2.2.2
def eqN (N N' : NS) : Prop := (∀ i, (0 ≤ i ∧ i < 6) ∨ (13 ≤ i ∧ i < 45) → n_sc N i = n_sc N' i) ∧ n_gd N = n_gd N' ∧ n_lg N = n_lg N' ∧ ∀ k f, 0 ≤ k → k < n_sc N 5 → 0 ≤ f → f < 12 → n_le N k f = n_le N' k f
def repB (m : gm_M) (b : Int) (N : NS) : Prop :=
  (∀ i, (0 ≤ i ∧ i < 6) ∨ (13 ≤ i ∧ i < 45) → m b i = n_sc N i) ∧ (0 ≤ m b 6 ∧ m b 6 ≤ 40 ∧ lof (fun j => m b (45 + j)) (m b 6) = n_lg N) ∧ (0 ≤ m b 7 ∧ m b 7 ≤ 5 ∧ lof (fun j => m b (8 + j)) (m b 7) = n_gd N) ∧ ∀ k f, 0 ≤ k → k < n_sc N 5 → 0 ≤ f → f < 12 → m b (85 + 12 * k + f) = n_le N k f
theorem repB_cg {m : gm_M} {b : Int} {N N' : NS} (h : repB m b N) (e : eqN N N') : repB m b N' := by
  obtain ⟨h1, h2, h3, h4⟩ := h
  obtain ⟨e1, e2, e3, e4⟩ := e
  refine ⟨fun i hi => by rw [h1 i hi, e1 i hi], ⟨h2.1, h2.2.1, by rw [h2.2.2, e3]⟩, ⟨h3.1, h3.2.1, by rw [h3.2.2, e2]⟩, fun k f q1 q2 q3 q4 => ?_⟩
  have := e1 5 (by omega)
  rw [h4 k f q1 (by omega) q3 q4, e4 k f q1 (by omega) q3 q4]
theorem repB_fr {m m' : gm_M} {b : Int} {N : NS} (h : repB m b N) (e : ∀ j, m' b j = m b j) : repB m' b N := by
  unfold repB at h ⊢
  simp only [e]
  exact h
/-- a letter of the class, and the same one of the reference -/
def ltr (x y : Int → Int) : Prop := (x 0 = y 0 ∧ x 1 = y 1 ∧ x 2 = y 2 ∧ x 3 = y 3) ∧ (x 4 = if 2 ≤ y 3 then -1000000 else y 4) ∧ (x 5 = if 2 ≤ y 3 then -1000000 else y 7) ∧ (x 6 = y 5 ∧ x 7 = y 6 ∧ x 8 = y 8) ∧ (y 3 = 3 → x 9 = y 9 ∧ (if y 9 = 2 then y 10 = y 5 else x 10 = y 10)) ∧ x 11 = y 11
/-- whether a walk of so many steps leads from u to v -/
def wkB (w h : Int) (L : Int → Int) : Nat → Int → Int → Bool
  | 0, u, v => decide (u = v)
  | k + 1, u, v => (List.range 4).any (fun p => decide (gm_and (gm_shr (L u) (p : Int)) 1 = 1) && wkB w h L k (byd w h u (p : Int)) v)
/-- how far: -1000000 if there is no way -/
def dstF (w h : Int) (L : Int → Int) (u v : Int) : Int := nthR (fun k => wkB w h L k.toNat u v = true) 16 0 0
def n_dst (N : NS) (u v : Int) : Int := dstF (n_sc N 0) (n_sc N 1) (fun x => n_sc N (13 + x)) u v
def repC (m : gm_M) (a : Int) (N : NS) : Prop :=
  (m (a + 1) 0 = n_sc N 0 * n_sc N 1 ∧ m (a + 1) 1 = n_sc N 2 ∧ m a 3 = n_sc N 3 ∧ m a 4 = n_sc N 4 ∧ m a 2 = n_sc N 5) ∧
  (∀ v, 0 ≤ v → v < n_sc N 0 * n_sc N 1 → m (a + 2) v = n_sc N (13 + v) ∧ m (a + 3) v = n_sc N (29 + v)) ∧
  (∀ v p, 0 ≤ v → v < n_sc N 0 * n_sc N 1 → 0 ≤ p → p < 4 → m (a + 4) (4 * v + p) = if n_sc N 2 > 0 ∨ ¬ ((p = 0 ∧ v / n_sc N 0 = 0) ∨ (p = 1 ∧ v % n_sc N 0 = n_sc N 0 - 1) ∨ (p = 2 ∧ v / n_sc N 0 = n_sc N 1 - 1) ∨ (p = 3 ∧ v % n_sc N 0 = 0)) then byd (n_sc N 0) (n_sc N 1) v p else -1000000) ∧
  (∀ u v, 0 ≤ u → u < n_sc N 0 * n_sc N 1 → 0 ≤ v → v < n_sc N 0 * n_sc N 1 → m (a + 5) (16 * u + v) = n_dst N u v) ∧
  (0 ≤ m a 8 ∧ m a 8 ≤ 40 ∧ lof (m (a + 10)) (m a 8) = n_lg N) ∧ (0 ≤ m a 6 ∧ m a 6 ≤ 5 ∧ lof (m (a + 9)) (m a 6) = n_gd N) ∧
  ∀ k, 0 ≤ k → k < n_sc N 5 → ltr (m (a + 11 + k)) (n_le N k)
theorem repC_fr {m m' : gm_M} {a : Int} {N : NS} (h : repC m a N) (hk : n_sc N 5 ≤ 40) (e : ∀ c, a ≤ c → c < a + 51 → ∀ j, m' c j = m c j) : repC m' a N := by
  obtain ⟨⟨h1, h2, h3, h4, h5⟩, h6, h7, h8, h9, h10, h11⟩ := h
  have e9 : m' (a + 9) = m (a + 9) := funext (e _ (by omega) (by omega))
  have e10 : m' (a + 10) = m (a + 10) := funext (e _ (by omega) (by omega))
  refine ⟨⟨?_, ?_, ?_, ?_, ?_⟩, fun v q1 q2 => ?_, fun v p q1 q2 q3 q4 => ?_, fun u v q1 q2 q3 q4 => ?_, ?_, ?_, fun k q1 q2 => ?_⟩
  · rw [e _ (by omega) (by omega)]; exact h1
  · rw [e _ (by omega) (by omega)]; exact h2
  · rw [e _ (by omega) (by omega)]; exact h3
  · rw [e _ (by omega) (by omega)]; exact h4
  · rw [e _ (by omega) (by omega)]; exact h5
  · rw [e _ (by omega) (by omega), e _ (by omega) (by omega)]; exact h6 v q1 q2
  · rw [e _ (by omega) (by omega)]; exact h7 v p q1 q2 q3 q4
  · rw [e _ (by omega) (by omega)]; exact h8 u v q1 q2 q3 q4
  · rw [e10, e a (by omega) (by omega)]; exact h9
  · rw [e9, e a (by omega) (by omega)]; exact h10
  · rw [show m' (a + 11 + k) = m (a + 11 + k) from funext (e _ (by omega) (by omega))]; exact h11 k q1 q2
theorem n_dst_cg {N N' : NS} (h0 : n_sc N 0 = n_sc N' 0) (h1 : n_sc N 1 = n_sc N' 1) (h2 : (fun x => n_sc N (13 + x)) = fun x => n_sc N' (13 + x)) (u v : Int) : n_dst N u v = n_dst N' u v := by
  unfold n_dst
  rw [h0, h1, h2]
/-- letter l now w; golden no more; the log -/
def updL (N : NS) (l : Int) (w : Int → Int) (L : List Int) : NS := (n_sc N, (n_gd N).filter (fun y => decide (y ≠ l)), L, fun k f => if k = l then w f else n_le N k f)
/-- the letters with P are now u, golden no more; the log -/
def mkL (N : NS) (P : Int → Bool) (u : Int → Int → Int) (L : List Int) : NS := (n_sc N, (n_gd N).filter (fun y => !P y), L, fun k f => if P k then u k f else n_le N k f)
theorem mkL_step {N : NS} {P D D' : Int → Bool} {u : Int → Int → Int} {L L' : List Int} {l : Int} {w : Int → Int} (hP : P l = true) (hD : ∀ k, D' k = (D k || decide (k = l))) (hw : ∀ f, w f = u l f) : updL (mkL N (fun k => P k && D k) u L) l w L' = mkL N (fun k => P k && D' k) u L' := by
  unfold updL mkL
  have e1 : (List.filter (fun y => !(P y && D y)) (n_gd N)).filter (fun y => decide (y ≠ l)) = (n_gd N).filter (fun y => !(P y && D' y)) := by
    rw [List.filter_filter]
    congr 1
    funext y
    rw [hD]
    by_cases q : y = l
    · subst q; simp [hP]
    · simp [q]
  have e2 : (fun (k f : Int) => if k = l then w f else if (P k && D k) = true then u k f else n_le N k f) = fun k f => if (P k && D' k) = true then u k f else n_le N k f := by
    funext k f
    rw [hD]
    by_cases q : k = l
    · subst q; simp [hP, hw]
    · simp [q]
  dsimp only [n_sc, n_gd, n_le] at e1 e2 ⊢
  rw [e1, e2]
theorem mkL_skip {N : NS} {P D D' : Int → Bool} {u : Int → Int → Int} {L : List Int} (hD : ∀ k, (P k && D' k) = (P k && D k)) : mkL N (fun k => P k && D' k) u L = mkL N (fun k => P k && D k) u L := by
  have : (fun k => P k && D' k) = (fun k => P k && D k) := funext hD
  rw [this]
theorem mkL_none {N : NS} {P : Int → Bool} {u : Int → Int → Int} (h : ∀ k, P k = false) : mkL N P u (n_lg N) = N := by
  unfold mkL
  have e : P = fun _ => false := funext h
  subst e
  have e1 : (n_gd N).filter (fun y => !(fun _ => false) y) = n_gd N := filt_id (fun _ _ => rfl)
  rw [e1]
  rfl
