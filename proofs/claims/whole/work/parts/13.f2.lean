/-! ===== what the class's small writers do to a NET as numbers ===== -/
theorem repC_dul {m : gm_M} {a l : Int} {N : NS} (h : repC m a N) (hk : n_sc N 5 ≤ 40) (hn : (n_gd N).Nodup) : repC (dulN m a l) a (dulA N l) := by
  obtain ⟨⟨h1, h2, h3, h4, h5⟩, h6, h7, h8, h9, ⟨g1, g2, g3⟩, h11⟩ := h
  have hr : ∀ c j, ¬ (c = a ∧ j = 6) → c ≠ a + 9 → dulN m a l c j = m c j := fun c j => dulN_rd
  refine ⟨⟨?_, ?_, ?_, ?_, ?_⟩, fun v q1 q2 => ?_, fun v p q1 q2 q3 q4 => ?_, fun u v q1 q2 q3 q4 => ?_, ?_, ?_, fun k q1 q2 => ?_⟩
  · rw [hr _ _ (by omega) (by omega)]; exact h1
  · rw [hr _ _ (by omega) (by omega)]; exact h2
  · rw [hr _ _ (by omega) (by omega)]; exact h3
  · rw [hr _ _ (by omega) (by omega)]; exact h4
  · rw [hr _ _ (by omega) (by omega)]; exact h5
  · rw [hr _ _ (by omega) (by omega), hr _ _ (by omega) (by omega)]; exact h6 v q1 q2
  · rw [hr _ _ (by omega) (by omega)]; exact h7 v p q1 q2 q3 q4
  · rw [hr _ _ (by omega) (by omega)]; exact h8 u v q1 q2 q3 q4
  · rw [hr a 8 (by omega) (by omega), show dulN m a l (a + 10) = m (a + 10) from funext (fun j => hr _ _ (by omega) (by omega))]; exact h9
  · show _ ∧ _ ∧ _ = (n_gd N).filter _
    have hx := nthR_sp (fun k => m (a + 9) k = l) g1
    unfold dulN
    rcases hx with ⟨x1, x2⟩ | ⟨x1, x2⟩
    · rw [if_pos x1]
      refine ⟨g1, g2, ?_⟩
      rw [g3]
      refine (filt_id (fun y hy => ?_)).symm
      rw [← g3] at hy
      obtain ⟨j, hj, e⟩ := (lof_mem g1).mp hy
      have := x2 j hj.1 hj.2
      simp only [decide_eq_true_eq]
      intro e2
      exact this (by rw [e, e2])
    · rw [if_neg (by omega)]
      generalize nthR (fun k => m (a + 9) k = l) (m a 6 - 0).toNat 0 0 = s at x1 x2 ⊢
      have e6 : drM m a s (m a 6 - 1) a 6 = m a 6 - 1 := by unfold drM; rw [if_pos ⟨rfl, rfl⟩]
      rw [e6]
      refine ⟨by omega, by omega, ?_⟩
      rw [← g3, ← lof_drop (f := m (a + 9)) x1.1 x1.2 (by rw [g3]; exact hn) x2]
      refine lof_cg (by omega) (fun j q c => ?_)
      unfold drM
      rw [if_neg (by omega)]
      by_cases z : s ≤ j ∧ j < m a 6 - 1
      · rw [if_pos ⟨rfl, z⟩, if_pos z]
      · rw [if_neg (fun y => z y.2), if_neg z]
  · rw [show dulN m a l (a + 11 + k) = m (a + 11 + k) from funext (fun j => hr _ _ (by omega) (by omega))]; exact h11 k q1 q2
theorem repC_let {m m' : gm_M} {a l : Int} {N : NS} {w : Int → Int} (h : repC m a N) (hl : 0 ≤ l ∧ l < n_sc N 5) (e : ∀ c, c ≠ a + 11 + l → ∀ j, m' c j = m c j) (hw : ltr (m' (a + 11 + l)) w) : repC m' a (n_sc N, n_gd N, n_lg N, fun k f => if k = l then w f else n_le N k f) := by
  obtain ⟨⟨h1, h2, h3, h4, h5⟩, h6, h7, h8, h9, h10, h11⟩ := h
  refine ⟨⟨?_, ?_, ?_, ?_, ?_⟩, fun v q1 q2 => ?_, fun v p q1 q2 q3 q4 => ?_, fun u v q1 q2 q3 q4 => ?_, ?_, ?_, fun k q1 q2 => ?_⟩
  · rw [e _ (by omega)]; exact h1
  · rw [e _ (by omega)]; exact h2
  · rw [e _ (by omega)]; exact h3
  · rw [e _ (by omega)]; exact h4
  · rw [e _ (by omega)]; exact h5
  · rw [e _ (by omega), e _ (by omega)]; exact h6 v q1 q2
  · rw [e _ (by omega)]; exact h7 v p q1 q2 q3 q4
  · rw [e _ (by omega)]; exact h8 u v q1 q2 q3 q4
  · rw [e a (by omega), show m' (a + 10) = m (a + 10) from funext (e _ (by omega))]; exact h9
  · rw [e a (by omega), show m' (a + 9) = m (a + 9) from funext (e _ (by omega))]; exact h10
  · by_cases q : k = l
    · subst q
      have : n_le (n_sc N, n_gd N, n_lg N, fun k' f => if k' = k then w f else n_le N k' f) k = w := by
        funext f
        show (if k = k then w f else n_le N k f) = w f
        rw [if_pos rfl]
      rw [this]; exact hw
    · have : n_le (n_sc N, n_gd N, n_lg N, fun k' f => if k' = l then w f else n_le N k' f) k = n_le N k := by
        funext f
        show (if k = l then w f else n_le N k f) = n_le N k f
        rw [if_neg q]
      rw [this, show m' (a + 11 + k) = m (a + 11 + k) from funext (e _ (by omega))]; exact h11 k q1 q2
theorem repC_log {m : gm_M} {a l : Int} {N : NS} (h : repC m a N) (hk : n_sc N 5 ≤ 40) (hl : m a 8 < 40) : repC (gm_up (gm_up m (a + 10) (m a 8) l) a 8 (m a 8 + 1)) a (n_sc N, n_gd N, n_lg N ++ [l], n_le N) := by
  obtain ⟨⟨h1, h2, h3, h4, h5⟩, h6, h7, h8, ⟨l1, l2, l3⟩, h10, h11⟩ := h
  have hr : ∀ c j, ¬ (c = a ∧ j = 8) → c ≠ a + 10 → gm_up (gm_up m (a + 10) (m a 8) l) a 8 (m a 8 + 1) c j = m c j := fun c j q1 q2 => by
    unfold gm_up
    rw [if_neg q1, if_neg (fun z => q2 z.1)]
  refine ⟨⟨?_, ?_, ?_, ?_, ?_⟩, fun v q1 q2 => ?_, fun v p q1 q2 q3 q4 => ?_, fun u v q1 q2 q3 q4 => ?_, ?_, ?_, fun k q1 q2 => ?_⟩
  · rw [hr _ _ (by omega) (by omega)]; exact h1
  · rw [hr _ _ (by omega) (by omega)]; exact h2
  · rw [hr _ _ (by omega) (by omega)]; exact h3
  · rw [hr _ _ (by omega) (by omega)]; exact h4
  · rw [hr _ _ (by omega) (by omega)]; exact h5
  · rw [hr _ _ (by omega) (by omega), hr _ _ (by omega) (by omega)]; exact h6 v q1 q2
  · rw [hr _ _ (by omega) (by omega)]; exact h7 v p q1 q2 q3 q4
  · rw [hr _ _ (by omega) (by omega)]; exact h8 u v q1 q2 q3 q4
  · rw [gm_rd_s]
    refine ⟨by omega, by omega, ?_⟩
    show _ = n_lg N ++ [l]
    rw [lof_s l1, ← l3]
    congr 1
    · refine lof_cg l1 (fun j q1 q2 => ?_)
      rw [gm_rd_a (by omega), gm_rd_i (by omega)]
    · rw [gm_rd_a (by omega), gm_rd_s]
  · rw [hr a 6 (by omega) (by omega), show gm_up (gm_up m (a + 10) (m a 8) l) a 8 (m a 8 + 1) (a + 9) = m (a + 9) from funext (fun j => hr _ _ (by omega) (by omega))]; exact h10
  · rw [show gm_up (gm_up m (a + 10) (m a 8) l) a 8 (m a 8 + 1) (a + 11 + k) = m (a + 11 + k) from funext (fun j => hr _ _ (by omega) (by omega))]; exact h11 k q1 q2
theorem endN_o {m : gm_M} {x s t c : Int} (h : c ≠ x) (j : Int) : endN m x s t c j = m c j := by
  unfold endN
  rw [gm_rd_a h, gm_rd_a h, gm_rd_a h, gm_rd_a h]
theorem endN_x {m : gm_M} {x s t j : Int} : endN m x s t x j = if j = 8 then t else if j = 5 then -1000000 else if j = 4 then -1000000 else if j = 3 then s else m x j := by
  unfold endN gm_up
  simp only [true_and]
theorem repC_del {m : gm_M} {a l : Int} {N : NS} (h : repC m a N) (hk : n_sc N 5 ≤ 40) (hn : (n_gd N).Nodup) (hl : 0 ≤ l ∧ l < n_sc N 5) (h8 : m a 8 < 40) : repC (delN m a l) a (updL N l (finW N l 2) (n_lg N ++ [l])) := by
  have hlt := h.2.2.2.2.2.2 l hl.1 hl.2
  have h4 := h.1.2.2.2.1
  have e1 := repC_dul (l := l) (repC_log (l := l) h hk h8) hk hn
  refine repC_let e1 hl (fun c hc j => endN_o hc j) ?_
  have ex : ∀ f, dulN (gm_up (gm_up m (a + 10) (m a 8) l) a 8 (m a 8 + 1)) a l (a + 11 + l) f = m (a + 11 + l) f := fun f => by
    rw [dulN_rd (by omega) (by omega), gm_rd_a (by omega), gm_rd_a (by omega)]
  obtain ⟨⟨x0, x1, x2, x3⟩, x4, x5, ⟨x6, x7, x8⟩, x9, x10⟩ := hlt
  unfold ltr delN finW
  simp [endN_x, ex, h4, x0, x1, x2, x6, x7, x10]
theorem repC_old {m : gm_M} {a l : Int} {N : NS} (h : repC m a N) (hk : n_sc N 5 ≤ 40) (hn : (n_gd N).Nodup) (hl : 0 ≤ l ∧ l < n_sc N 5) (h11 : n_le N l 11 = -1000000) : repC (oldN m a l) a (updL N l (losW N l 2) (n_lg N)) := by
  have hlt := h.2.2.2.2.2.2 l hl.1 hl.2
  have h4 := h.1.2.2.2.1
  have e1 := repC_dul (l := l) h hk hn
  refine repC_let e1 hl (fun c hc j => ?_) ?_
  · unfold oldN
    rw [endN_o hc, gm_rd_a hc]
  have ex : ∀ f, dulN m a l (a + 11 + l) f = m (a + 11 + l) f := fun f => dulN_rd (by omega) (by omega)
  obtain ⟨⟨x0, x1, x2, x3⟩, x4, x5, ⟨x6, x7, x8⟩, x9, x10⟩ := hlt
  unfold ltr oldN losW
  simp [endN_x, gm_up, ex, h4, x0, x1, x2, x6, x7, x10, h11]
theorem repC_ovr {m : gm_M} {a l : Int} {N : NS} (h : repC m a N) (hk : n_sc N 5 ≤ 40) (hn : (n_gd N).Nodup) (hl : 0 ≤ l ∧ l < n_sc N 5) (h3 : n_le N l 3 < 2) (h5 : 0 ≤ n_le N l 4 ∧ n_le N l 4 < n_sc N 0 * n_sc N 1) : repC (ovrN m a l) a (updL N l (losW N l 3) (n_lg N)) := by
  have hlt := h.2.2.2.2.2.2 l hl.1 hl.2
  have h4 := h.1.2.2.2.1
  have h0 := h.1.1
  have h6 := (h.2.1 _ h5.1 h5.2).2
  have e1 := repC_dul (l := l) h hk hn
  refine repC_let e1 hl (fun c hc j => ?_) ?_
  · unfold ovrN
    rw [endN_o hc, gm_rd_a hc, gm_rd_a hc, gm_rd_a hc]
  have ex : ∀ f, dulN m a l (a + 11 + l) f = m (a + 11 + l) f := fun f => dulN_rd (by omega) (by omega)
  obtain ⟨⟨x0, x1, x2, x3⟩, x4, x5, ⟨x6, x7, x8⟩, x9, x10⟩ := hlt
  rw [if_neg (by omega)] at x4
  have e2 : (if 0 ≤ m (a + 11 + l) 4 ∧ m (a + 11 + l) 4 < m (a + 1) 0 then m (a + 3) (m (a + 11 + l) 4) else -1000000) = n_sc N (29 + n_le N l 4) := by
    rw [x4, h0, if_pos h5, h6]
  unfold ltr ovrN losW
  rw [e2]
  simp [endN_x, gm_up, ex, h4, x0, x1, x2, x4, x6, x7]
