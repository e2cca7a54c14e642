/-! ===== what the small writers do to a NET as numbers ===== -/
theorem lstM_sp (P : Int → Prop) [DecidablePred P] {n : Int} (h : 0 ≤ n) : (lstM P n = -1000000 ∧ ∀ k, 0 ≤ k → k < n → ¬ P k) ∨ ((0 ≤ lstM P n ∧ lstM P n < n) ∧ P (lstM P n)) := by
  refine up_ind (P := fun n => (lstM P n = -1000000 ∧ ∀ k, 0 ≤ k → k < n → ¬ P k) ∨ ((0 ≤ lstM P n ∧ lstM P n < n) ∧ P (lstM P n))) (Or.inl ⟨rfl, fun k a b => by omega⟩) (fun k hk ih => ?_) h
  rw [lstM_s P hk]
  by_cases q : P k
  · rw [if_pos q]; exact Or.inr ⟨by omega, q⟩
  · rw [if_neg q]
    rcases ih with ⟨h1, h2⟩ | ⟨h1, h2⟩
    · refine Or.inl ⟨h1, fun j a b => ?_⟩
      by_cases e : j = k
      · rw [e]; exact q
      · exact h2 j a (by omega)
    · exact Or.inr ⟨by omega, h2⟩
theorem nthR_sp (Q : Int → Prop) [DecidablePred Q] {n : Int} (hn : 0 ≤ n) : (nthR Q (n - 0).toNat 0 0 = -1000000 ∧ ∀ k, 0 ≤ k → k < n → ¬ Q k) ∨ ((0 ≤ nthR Q (n - 0).toNat 0 0 ∧ nthR Q (n - 0).toNat 0 0 < n) ∧ Q (nthR Q (n - 0).toNat 0 0)) := by
  rw [nthT_R]
  rcases nthT_sp (Q := fun k => decide (Q k)) (T := fun k => k) (n - 0).toNat 0 with ⟨h1, h2⟩ | ⟨j, h1, h2, h3, h4⟩
  · exact Or.inl ⟨h1, fun k a b => by simpa using h2 k a (by omega)⟩
  · rw [h3]
    exact Or.inr ⟨by omega, by simpa using h2⟩
def dulA (N : NS) (l : Int) : NS := (n_sc N, (n_gd N).filter (fun y => decide (y ≠ l)), n_lg N, n_le N)
def setL (N : NS) (l f0 v : Int) : NS := (n_sc N, n_gd N, n_lg N, fun k f => if k = l ∧ f = f0 then v else n_le N k f)
theorem dulB_rd {m : gm_M} {b l c j : Int} (h : c ≠ b ∨ j < 7 ∨ 13 ≤ j) (hg : m b 7 ≤ 5) : dulB m b l c j = m c j := by
  unfold dulB
  split
  · rfl
  · unfold drB
    rw [if_neg (by omega), if_neg (by omega)]
theorem repB_dul {m : gm_M} {b l : Int} {N : NS} (h : repB m b N) (hn : (n_gd N).Nodup) : repB (dulB m b l) b (dulA N l) := by
  obtain ⟨h1, ⟨h2, h3, h4⟩, ⟨h5, h6, h7⟩, h8⟩ := h
  have hr : ∀ j, j < 7 ∨ 13 ≤ j → dulB m b l b j = m b j := fun j hj => dulB_rd (Or.inr hj) h6
  refine ⟨fun i hi => ?_, ⟨?_, ?_, ?_⟩, ?_, fun k f q1 q2 q3 q4 => ?_⟩
  · rw [hr i (by omega)]; exact h1 i hi
  · rw [hr 6 (by omega)]; exact h2
  · rw [hr 6 (by omega)]; exact h3
  · rw [hr 6 (by omega)]
    show _ = n_lg N
    rw [← h4]
    exact lof_cg h2 (fun j a b => hr _ (by omega))
  · show _ ∧ _ ∧ _ = (n_gd N).filter _
    have hx := lstM_sp (fun k => m b (8 + k) = l) h5
    unfold dulB
    rcases hx with ⟨x1, x2⟩ | ⟨x1, x2⟩
    · rw [if_pos (by omega)]
      refine ⟨h5, h6, ?_⟩
      rw [h7]
      refine (filt_id (fun y hy => ?_)).symm
      rw [← h7] at hy
      obtain ⟨j, hj, e⟩ := (lof_mem h5).mp hy
      have := x2 j hj.1 hj.2
      simp only [decide_eq_true_eq]
      intro e2
      exact this (by rw [e, e2])
    · rw [if_neg (by omega)]
      generalize lstM (fun k => m b (8 + k) = l) (m b 7) = s at x1 x2
      have e7 : drB m b s (m b 7 - 1) b 7 = m b 7 - 1 := by unfold drB; rw [if_pos ⟨rfl, rfl⟩]
      rw [e7]
      refine ⟨by omega, by omega, ?_⟩
      rw [← h7, ← lof_drop (f := fun j => m b (8 + j)) x1.1 x1.2 (by rw [h7]; exact hn) x2]
      refine lof_cg (by omega) (fun j a c => ?_)
      unfold drB
      rw [if_neg (by omega)]
      by_cases q : s ≤ j ∧ j < m b 7 - 1
      · rw [if_pos (by omega), if_pos q]; congr 1; omega
      · rw [if_neg (by omega), if_neg q]
  · rw [hr _ (by omega)]; exact h8 k f q1 q2 q3 q4
theorem repB_set {m : gm_M} {b l f0 v : Int} {N : NS} (h : repB m b N) (hl : 0 ≤ l) (hf : 0 ≤ f0 ∧ f0 < 12) : repB (gm_up m b (85 + 12 * l + f0) v) b (setL N l f0 v) := by
  obtain ⟨h1, ⟨h2, h3, h4⟩, ⟨h5, h6, h7⟩, h8⟩ := h
  have hr : ∀ j, j < 85 → gm_up m b (85 + 12 * l + f0) v b j = m b j := fun j hj => gm_rd_i (by omega)
  refine ⟨fun i hi => ?_, ⟨?_, ?_, ?_⟩, ⟨?_, ?_, ?_⟩, fun k f q1 q2 q3 q4 => ?_⟩
  · rw [hr i (by omega)]; exact h1 i hi
  · rw [hr 6 (by omega)]; exact h2
  · rw [hr 6 (by omega)]; exact h3
  · rw [hr 6 (by omega)]
    show _ = n_lg N
    rw [← h4]
    exact lof_cg h2 (fun j a b => hr _ (by omega))
  · rw [hr 7 (by omega)]; exact h5
  · rw [hr 7 (by omega)]; exact h6
  · rw [hr 7 (by omega)]
    show _ = n_gd N
    rw [← h7]
    exact lof_cg h5 (fun j a b => hr _ (by omega))
  · show _ = if k = l ∧ f = f0 then v else n_le N k f
    by_cases q : k = l ∧ f = f0
    · rw [if_pos q, q.1, q.2, gm_rd_s]
    · rw [if_neg q, gm_rd_i (by omega)]
      exact h8 k f q1 q2 q3 q4
theorem repB_log {m : gm_M} {b l : Int} {N : NS} (h : repB m b N) (hl : m b 6 < 40) : repB (gm_up (gm_up m b (45 + m b 6) l) b 6 (m b 6 + 1)) b (n_sc N, n_gd N, n_lg N ++ [l], n_le N) := by
  obtain ⟨h1, ⟨h2, h3, h4⟩, ⟨h5, h6, h7⟩, h8⟩ := h
  have hr : ∀ j, j ≠ 6 → j ≠ 45 + m b 6 → gm_up (gm_up m b (45 + m b 6) l) b 6 (m b 6 + 1) b j = m b j := fun j hj hj2 => by rw [gm_rd_i hj, gm_rd_i hj2]
  refine ⟨fun i hi => ?_, ?_, ⟨?_, ?_, ?_⟩, fun k f q1 q2 q3 q4 => ?_⟩
  · rw [hr i (by omega) (by omega)]; exact h1 i hi
  · rw [gm_rd_s]
    refine ⟨by omega, by omega, ?_⟩
    show _ = n_lg N ++ [l]
    rw [lof_s h2, ← h4]
    congr 1
    · exact lof_cg h2 (fun j a b => hr _ (by omega) (by omega))
    · rw [gm_rd_i (by omega), gm_rd_s]
  · rw [hr 7 (by omega) (by omega)]; exact h5
  · rw [hr 7 (by omega) (by omega)]; exact h6
  · rw [hr 7 (by omega) (by omega)]
    show _ = n_gd N
    rw [← h7]
    exact lof_cg h5 (fun j a b => hr _ (by omega) (by omega))
  · rw [hr _ (by omega) (by omega)]; exact h8 k f q1 q2 q3 q4
/-- a letter that is finished so, and one that is lost -/
def finW (N : NS) (l s : Int) : Int → Int := fun f => if f = 3 then s else if f = 8 then n_sc N 4 else n_le N l f
def losW (N : NS) (l w : Int) : Int → Int := fun f => if f = 3 then 3 else if f = 8 then n_sc N 4 else if f = 9 then w else if f = 10 then (if w = 2 then n_le N l 5 else n_le N l 4) else if f = 11 then (if w = 2 then -1000000 else n_sc N (29 + n_le N l 4)) else n_le N l f
theorem repB_fin {m : gm_M} {b l s : Int} {N : NS} (h : repB m b N) (hn : (n_gd N).Nodup) (hl : 0 ≤ l) : repB (finB m b l s) b (updL N l (finW N l s) (n_lg N)) := by
  have h4 := h.1 4 (by omega)
  have e := repB_dul (l := l) (repB_set (f0 := 8) (v := m b 4) (repB_set (f0 := 3) (v := s) h hl (by omega)) hl (by omega)) hn
  refine repB_cg e ⟨fun i _ => rfl, rfl, rfl, fun k f q1 q2 q3 q4 => ?_⟩
  show (if k = l ∧ f = 8 then m b 4 else if k = l ∧ f = 3 then s else n_le N k f) = if k = l then finW N l s f else n_le N k f
  unfold finW
  by_cases ek : k = l
  · subst ek
    by_cases e3 : f = 3
    · simp [e3]
    · by_cases e8 : f = 8
      · simp [e8, h4]
      · simp [e3, e8]
  · simp [ek]
theorem repB_los {m : gm_M} {b l w : Int} {N : NS} (h : repB m b N) (hn : (n_gd N).Nodup) (hl : 0 ≤ l) (hl2 : l < n_sc N 5) (hat : 0 ≤ n_le N l 4 ∧ n_le N l 4 < 16) : repB (losB m b l w) b (updL N l (losW N l w) (n_lg N)) := by
  have h4 := h.1 4 (by omega)
  have h5 := h.2.2.2 l 5 hl hl2 (by omega) (by omega)
  have hA := h.2.2.2 l 4 hl hl2 (by omega) (by omega)
  have hL := h.1 (29 + n_le N l 4) (by omega)
  have e := repB_fin (l := l) (s := 3) (repB_set (f0 := 11) (v := if w = 2 then -1000000 else m b (29 + m b (85 + 12 * l + 4))) (repB_set (f0 := 10) (v := if w = 2 then m b (85 + 12 * l + 5) else m b (85 + 12 * l + 4)) (repB_set (f0 := 9) (v := w) h hl (by omega)) hl (by omega)) hl (by omega)) hn hl
  refine repB_cg e ⟨fun i _ => rfl, rfl, rfl, fun k f q1 q2 q3 q4 => ?_⟩
  show (if k = l then _ else _) = if k = l then losW N l w f else n_le N k f
  by_cases ek : k = l
  · subst ek
    rw [if_pos rfl, if_pos rfl]
    unfold finW losW setL
    rw [h5, hA, hL]
    dsimp only [n_sc, n_le]
    have hf : f = 0 ∨ f = 1 ∨ f = 2 ∨ f = 3 ∨ f = 4 ∨ f = 5 ∨ f = 6 ∨ f = 7 ∨ f = 8 ∨ f = 9 ∨ f = 10 ∨ f = 11 := by omega
    rcases hf with rfl | rfl | rfl | rfl | rfl | rfl | rfl | rfl | rfl | rfl | rfl | rfl <;> simp
  · rw [if_neg ek, if_neg ek]
    show (if k = l ∧ f = 11 then _ else if k = l ∧ f = 10 then _ else if k = l ∧ f = 9 then w else n_le N k f) = n_le N k f
    simp [ek]
