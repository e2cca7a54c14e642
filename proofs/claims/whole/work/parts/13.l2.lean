/-! ===== acts on nets, pure and as memory ===== -/
theorem WF_T {N : NS} {T T' : Int} (h : WF N T) (ht : T ≤ T') : WF N T' := by
  obtain ⟨d, k, g, l, q⟩ := h
  refine ⟨?_, k, g, l, fun j a b => ?_⟩
  · unfold DIMS at d ⊢
    omega
  · have := q j a b
    unfold LW at this ⊢
    omega
theorem WFT_T {N : NS} {T T' : Int} (h : WFT N T) (ht : T ≤ T') : WFT N T' := ⟨WF_T h.1 ht, h.2⟩
/-- a letter written -/
def newL (kd f t g : Int) : Int := if g = 0 then kd else if g = 1 then f else if g = 2 then t else if g = 4 then f else if g = 7 ∨ g = 8 ∨ g = 11 then -1000000 else 0
def addA (N : NS) (kd f t : Int) : NS := (fun i => if i = 5 then n_sc N 5 + 1 else n_sc N i, n_gd N, n_lg N, fun k g => if k = n_sc N 5 then newL kd f t g else n_le N k g)
theorem addA_sc {N : NS} {kd f t i : Int} (h : i ≠ 5) : n_sc (addA N kd f t) i = n_sc N i := if_neg h
theorem addA_5 {N : NS} {kd f t : Int} : n_sc (addA N kd f t) 5 = n_sc N 5 + 1 := by
  show (if (5 : Int) = 5 then n_sc N 5 + 1 else n_sc N 5) = _
  rw [if_pos rfl]
theorem addA_le {N : NS} {kd f t k : Int} (h : k ≠ n_sc N 5) : n_le (addA N kd f t) k = n_le N k := by
  funext g
  show (if k = n_sc N 5 then _ else _) = _
  rw [if_neg h]
theorem addA_new {N : NS} {kd f t : Int} : n_le (addA N kd f t) (n_sc N 5) = newL kd f t := by
  funext g
  show (if n_sc N 5 = n_sc N 5 then _ else _) = _
  rw [if_pos rfl]
theorem WFT_add {N : NS} {T kd f t : Int} (h : WFT N T) (hn : n_sc N 5 < 40) (hk : 1 ≤ kd ∧ kd ≤ 5) (hf : 0 ≤ f ∧ f < nd N) (ht : 0 ≤ t ∧ t < nd N) : WFT (addA N kd f t) T := by
  obtain ⟨⟨d, k, ⟨g1, g2⟩, ⟨l1, l2⟩, q⟩, c1, c2⟩ := h
  have h5 := d.2.2.2.2.2
  have ed : nd (addA N kd f t) = nd N := by show n_sc _ 0 * n_sc _ 1 = _; rw [addA_sc (by decide), addA_sc (by decide)]
  have hl : ∀ x, 0 ≤ x → x < n_sc (addA N kd f t) 5 → x = n_sc N 5 ∨ x < n_sc N 5 := fun x a b => by rw [addA_5] at b; omega
  refine ⟨⟨?_, fun v v0 v1 => ?_, ⟨g1, fun x hx => ?_⟩, ⟨fun x hx => ?_, fun P => ?_⟩, fun j j0 j1 => ?_⟩, fun a b ha hb hab fa fb e => ?_, fun a a0 a1 fa => ?_⟩
  · unfold DIMS at d ⊢
    rw [addA_sc (by decide), addA_sc (by decide), addA_sc (by decide), addA_sc (by decide), addA_sc (by decide), addA_5]
    omega
  · rw [ed] at v1
    have := k v v0 v1
    have b := WF_nd (T := T) (N := N) ⟨d, k, ⟨g1, g2⟩, ⟨l1, l2⟩, q⟩
    rw [addA_sc (by omega), addA_sc (by omega), addA_sc (by decide), addA_sc (by decide), addA_sc (by decide)]
    refine ⟨this.1, this.2.1, fun p p0 p1 hp => ?_⟩
    have z := this.2.2 p p0 p1 hp
    have zb := byd_f d.1 d.2.1 ⟨v0, v1⟩ ⟨p0, p1⟩
    rw [addA_sc (by omega)]
    exact z
  · have := g2 x hx
    rw [addA_5, addA_le (by omega)]
    omega
  · have := l1 x hx
    rw [addA_5, addA_le (by omega)]
    omega
  · rw [addA_5]
    show ((List.countP P (n_lg N) : Nat) : Int) = _
    rw [l2 P, cntM_s _ h5.1, addA_new]
    have e : ¬ (newL kd f t 3 = 2 ∧ P (n_sc N 5) = true) := fun z => by
      have : newL kd f t 3 = 0 := rfl
      omega
    rw [if_neg e]
    refine cntM_cg h5.1 (fun k q1 q2 => ?_)
    rw [addA_le (by omega)]
  · rw [ed]
    rcases hl j j0 j1 with z | z
    · rw [z, addA_new]
      unfold LW
      have v0 : newL kd f t 0 = kd := rfl
      have v1 : newL kd f t 1 = f := rfl
      have v2 : newL kd f t 2 = t := rfl
      have v3 : newL kd f t 3 = 0 := rfl
      have v4 : newL kd f t 4 = f := rfl
      have v5 : newL kd f t 5 = 0 := rfl
      have v6 : newL kd f t 6 = 0 := rfl
      have v7 : newL kd f t 7 = -1000000 := rfl
      have v8 : newL kd f t 8 = -1000000 := rfl
      have v9 : newL kd f t 9 = 0 := rfl
      have v11 : newL kd f t 11 = -1000000 := rfl
      rw [v0, v1, v2, v3, v4, v5, v6, v7, v8, v9, v11]
      omega
    · rw [addA_le (by omega)]; exact q j j0 z
  · rcases hl a ha.1 ha.2 with z | z
    · rw [z, addA_new] at fa
      have z0 : newL kd f t 3 = 0 := rfl
      omega
    · rcases hl b hb.1 hb.2 with y | y
      · rw [y, addA_new] at fb
        have z0 : newL kd f t 3 = 0 := rfl
        omega
      · rw [addA_le (by omega)] at fa e ⊢
        rw [addA_le (by omega)] at fb e ⊢
        exact c1 a b ⟨ha.1, z⟩ ⟨hb.1, y⟩ hab fa fb e
  · rcases hl a a0 a1 with z | z
    · rw [z, addA_new] at fa
      have z0 : newL kd f t 3 = 0 := rfl
      omega
    · rw [addA_le (by omega)] at fa ⊢
      exact c2 a a0 z fa
theorem repC_add {m : gm_M} {a T kd f t : Int} {N : NS} (h : repC m a N) (hw : WF N T) : repC (adN m a kd f t) a (addA N kd f t) := by
  have hn := hw.1.2.2.2.2.2
  have hnd := WF_nd hw
  obtain ⟨⟨a1, a2, a3, a4, a5⟩, a6, a7, a8, a9, a10, a11⟩ := h
  have ed : nd (addA N kd f t) = nd N := by show n_sc _ 0 * n_sc _ 1 = _; rw [addA_sc (by decide), addA_sc (by decide)]
  have ed : n_sc (addA N kd f t) 0 * n_sc (addA N kd f t) 1 = n_sc N 0 * n_sc N 1 := ed
  have ro : ∀ c j, c ≠ a → c ≠ a + 11 + n_sc N 5 → adN m a kd f t c j = m c j := fun c j q1 q2 => by
    simp only [adN, a5, gm_up]
    rw [if_neg (by omega), if_neg (by omega), if_neg (by omega), if_neg (by omega), if_neg (by omega), if_neg (by omega), if_neg (by omega), if_neg (by omega), if_neg (by omega), if_neg (by omega), if_neg (by omega), if_neg (by omega), if_neg (by omega)]
  have ra : ∀ j, j ≠ 2 → adN m a kd f t a j = m a j := fun j q => by
    simp only [adN, a5, gm_up]
    rw [if_neg (by omega), if_neg (by omega), if_neg (by omega), if_neg (by omega), if_neg (by omega), if_neg (by omega), if_neg (by omega), if_neg (by omega), if_neg (by omega), if_neg (by omega), if_neg (by omega), if_neg (by omega), if_neg (by omega)]
  have r2 : adN m a kd f t a 2 = n_sc N 5 + 1 := by
    show gm_up _ a 2 (m a 2 + 1) a 2 = _
    rw [gm_rd_s, a5]
  have rx : ∀ j, adN m a kd f t (a + 11 + n_sc N 5) j = if j = 11 then -1000000 else if j = 10 then -1000000 else if j = 9 then -1000000 else if j = 8 then -1000000 else if j = 7 then 0 else if j = 6 then 0 else if j = 5 then -1000000 else if j = 4 then f else if j = 3 then 0 else if j = 2 then t else if j = 1 then f else if j = 0 then kd else m (a + 11 + n_sc N 5) j := fun j => by
    simp only [adN, a5, gm_up]
    rw [if_neg (by omega)]
    simp only [true_and]
  have e9 : adN m a kd f t (a + 9) = m (a + 9) := funext (fun j => ro _ j (by omega) (by omega))
  have e10 : adN m a kd f t (a + 10) = m (a + 10) := funext (fun j => ro _ j (by omega) (by omega))
  unfold repC
  rw [ed, addA_sc (i := 2) (by decide), addA_sc (i := 3) (by decide), addA_sc (i := 4) (by decide), addA_5]
  refine ⟨⟨?_, ?_, ?_, ?_, r2⟩, fun v q1 q2 => ?_, fun v p q1 q2 q3 q4 => ?_, fun u v q1 q2 q3 q4 => ?_, ?_, ?_, fun k q1 q2 => ?_⟩
  · rw [ro _ _ (by omega) (by omega)]; exact a1
  · rw [ro _ _ (by omega) (by omega)]; exact a2
  · rw [ra _ (by omega)]; exact a3
  · rw [ra _ (by omega)]; exact a4
  · rw [ro _ _ (by omega) (by omega), ro _ _ (by omega) (by omega), addA_sc (by omega), addA_sc (by omega)]; exact a6 v q1 q2
  · rw [ro _ _ (by omega) (by omega), addA_sc (i := 0) (by decide), addA_sc (i := 1) (by decide)]; exact a7 v p q1 q2 q3 q4
  · rw [ro _ _ (by omega) (by omega), a8 u v q1 q2 q3 q4]
    exact (n_dst_loc hw (addA_sc (by decide)) (addA_sc (by decide)) (fun x x0 _ => addA_sc (by omega)) ⟨q1, q2⟩).symm
  · rw [e10, ra _ (by omega)]; exact a9
  · rw [e9, ra _ (by omega)]; exact a10
  · by_cases z : k = n_sc N 5
    · rw [z, addA_new]
      have v3 : newL kd f t 3 = 0 := rfl
      unfold ltr
      rw [rx 0, rx 1, rx 2, rx 3, rx 4, rx 5, rx 6, rx 7, rx 8, rx 11, v3]
      exact ⟨⟨rfl, rfl, rfl, rfl⟩, rfl, rfl, ⟨rfl, rfl, rfl⟩, (fun y => absurd y (by decide)), rfl⟩
    · rw [addA_le z, show adN m a kd f t (a + 11 + k) = m (a + 11 + k) from funext (fun j => ro _ j (by omega) (by omega))]
      exact a11 k q1 (by omega)
theorem adN_fr {m : gm_M} {a kd f t c j : Int} (h2 : 0 ≤ m a 2 ∧ m a 2 < 40) (h : c < a ∨ a + 51 ≤ c) : adN m a kd f t c j = m c j := by
  simp only [adN, gm_up]
  rw [if_neg (by omega), if_neg (by omega), if_neg (by omega), if_neg (by omega), if_neg (by omega), if_neg (by omega), if_neg (by omega), if_neg (by omega), if_neg (by omega), if_neg (by omega), if_neg (by omega), if_neg (by omega), if_neg (by omega)]
theorem adB_f {m : gm_M} {b kd f t : Int} (h5 : 0 ≤ m b 5) : (∀ g, 0 ≤ g → g < 12 → adB m b kd f t b (85 + 12 * m b 5 + g) = newL kd f t g) ∧ adB m b kd f t b 5 = m b 5 + 1 ∧ (∀ j, j ≠ 5 → ¬ (85 + 12 * m b 5 ≤ j ∧ j < 85 + 12 * m b 5 + 12) → adB m b kd f t b j = m b j) ∧ ∀ c j, c ≠ b → adB m b kd f t c j = m c j := by
  have e2 : adB m b kd f t b 5 = m b 5 + 1 := by
    simp only [adB]
    rw [gm_rd_s]
  refine ⟨fun g g0 g1 => ?_, e2, fun j q1 q2 => ?_, fun c j q => ?_⟩
  all_goals simp only [adB, newL, zrM, gm_up, true_and]
  all_goals ((repeat' split) <;> first | rfl | (exfalso; omega) | omega)
theorem repB_add {m : gm_M} {b T kd f t : Int} {N : NS} (h : repB m b N) (hw : WF N T) : repB (adB m b kd f t) b (addA N kd f t) := by
  have hn := hw.1.2.2.2.2.2
  obtain ⟨h1, h2, h3, h4⟩ := h
  have e5 := h1 5 (by omega)
  obtain ⟨f1, f2, f3, f4⟩ := adB_f (m := m) (b := b) (kd := kd) (f := f) (t := t) (by omega)
  rw [e5] at f1 f2 f3
  refine ⟨fun i hi => ?_, ?_, ?_, fun k g k0 k1 g0 g1 => ?_⟩
  · by_cases q : i = 5
    · rw [q, f2, addA_5]
    · rw [f3 i q (by omega), addA_sc q]; exact h1 i hi
  · rw [f3 6 (by omega) (by omega)]
    exact ⟨h2.1, h2.2.1, (lof_cg h2.1 (fun j a b => f3 _ (by omega) (by omega))).trans h2.2.2⟩
  · rw [f3 7 (by omega) (by omega)]
    exact ⟨h3.1, h3.2.1, (lof_cg h3.1 (fun j a b => f3 _ (by omega) (by omega))).trans h3.2.2⟩
  · rw [addA_5] at k1
    by_cases q : k = n_sc N 5
    · rw [q, addA_new]; exact f1 g g0 g1
    · rw [f3 _ (by omega) (by omega), addA_le q]
      exact h4 k g k0 (by omega) g0 g1
/-- golden ones -/
def setG (N : NS) (L : List Int) : NS := (n_sc N, L, n_lg N, n_le N)
theorem WFT_setG {N : NS} {T : Int} {L : List Int} (h : WFT N T) (h1 : L.Nodup) (h2 : ∀ x ∈ L, (0 ≤ x ∧ x < n_sc N 5) ∧ n_le N x 3 < 2) : WFT (setG N L) T := ⟨⟨h.1.1, h.1.2.1, ⟨h1, h2⟩, h.1.2.2.2.1, h.1.2.2.2.2⟩, h.2⟩
theorem repC_setG {m m' : gm_M} {a : Int} {N : NS} {L : List Int} (h : repC m a N) (e : ∀ c j, ¬ (c = a ∧ j = 6) → c ≠ a + 9 → m' c j = m c j) (h1 : 0 ≤ m' a 6 ∧ m' a 6 ≤ 5) (h2 : lof (m' (a + 9)) (m' a 6) = L) : repC m' a (setG N L) := by
  obtain ⟨⟨a1, a2, a3, a4, a5⟩, a6, a7, a8, a9, a10, a11⟩ := h
  have e10 : m' (a + 10) = m (a + 10) := funext (fun j => e _ j (by omega) (by omega))
  refine ⟨⟨?_, ?_, ?_, ?_, ?_⟩, fun v q1 q2 => ?_, fun v p q1 q2 q3 q4 => ?_, fun u v q1 q2 q3 q4 => ?_, ?_, ⟨h1.1, h1.2, h2⟩, fun k q1 q2 => ?_⟩
  · rw [e _ _ (by omega) (by omega)]; exact a1
  · rw [e _ _ (by omega) (by omega)]; exact a2
  · rw [e _ _ (by omega) (by omega)]; exact a3
  · rw [e _ _ (by omega) (by omega)]; exact a4
  · rw [e _ _ (by omega) (by omega)]; exact a5
  · rw [e _ _ (by omega) (by omega), e _ _ (by omega) (by omega)]; exact a6 v q1 q2
  · rw [e _ _ (by omega) (by omega)]; exact a7 v p q1 q2 q3 q4
  · rw [e _ _ (by omega) (by omega)]; exact a8 u v q1 q2 q3 q4
  · rw [e10, e _ _ (by omega) (by omega)]; exact a9
  · rw [show m' (a + 11 + k) = m (a + 11 + k) from funext (fun j => e _ j (by omega) (by omega))]; exact a11 k q1 q2
theorem repB_setG {m m' : gm_M} {b : Int} {N : NS} {L : List Int} (h : repB m b N) (e : ∀ j, (j < 7 ∨ 13 ≤ j) → m' b j = m b j) (h1 : 0 ≤ m' b 7 ∧ m' b 7 ≤ 5) (h2 : lof (fun j => m' b (8 + j)) (m' b 7) = L) : repB m' b (setG N L) := by
  obtain ⟨a1, a2, a3, a4⟩ := h
  refine ⟨fun i hi => by rw [e i (by omega)]; exact a1 i hi, ?_, ⟨h1.1, h1.2, h2⟩, fun k f k0 k1 f0 f1 => by rw [e _ (by omega)]; exact a4 k f k0 k1 f0 f1⟩
  rw [e 6 (by omega)]
  exact ⟨a2.1, a2.2.1, (lof_cg a2.1 (fun j a b => e _ (by omega))).trans a2.2.2⟩
theorem lof_cons {f : Int → Int} {n x : Int} (h : 0 ≤ n) : lof (fun j => if j = 0 then x else f (j - 1)) (n + 1) = x :: lof f n := by
  refine up_ind (P := fun n => lof (fun j => if j = 0 then x else f (j - 1)) (n + 1) = x :: lof f n) ?_ ?_ h
  · rfl
  · intro k hk ih
    rw [lof_s (by omega), ih, lof_s hk, if_neg (by omega), show k + 1 - 1 = k by omega]
    rfl
