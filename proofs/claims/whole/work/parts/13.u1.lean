/-! ===== every call has an answer ===== -/
theorem NQ_ex {Z : ZS} {b : Int} {P : NS → Int → Prop} (h : ∀ N, Z.1 = some N → ∃ r, P N r) : ∃ r, NQ Z b (fun N => P N r) r := by
  cases ez : Z.1 with
  | none => exact ⟨b, Or.inl ⟨ez, rfl⟩⟩
  | some N =>
    obtain ⟨r, hr⟩ := h N ez
    exact ⟨r, Or.inr ⟨N, ez, hr⟩⟩
theorem or_ex {A : Prop} {b : Int} {P : Int → Prop} (h : A → ∃ r, P r) : ∃ r, (¬ A ∧ r = b) ∨ (A ∧ P r) := by
  by_cases qz : A
  · obtain ⟨r, hr⟩ := h qz
    exact ⟨r, Or.inr ⟨qz, hr⟩⟩
  · exact ⟨b, Or.inl ⟨qz, rfl⟩⟩
theorem gd_ex {Z : ZS} {i : Int} : ∃ r, NQ Z (-1000002) (fun N => (i < 0 ∧ r = -1000001) ∨ (0 ≤ i ∧ r = gi (n_gd N) i)) r := NQ_ex (P := fun N r => (i < 0 ∧ r = -1000001) ∨ (0 ≤ i ∧ r = gi (n_gd N) i)) (fun N _ => by
  by_cases q : i < 0
  · exact ⟨_, Or.inl ⟨q, rfl⟩⟩
  · exact ⟨_, Or.inr ⟨by omega, rfl⟩⟩)
theorem lg_ex {Z : ZS} {i : Int} : ∃ r, NQ Z (-1000002) (fun N => (i < 0 ∧ r = -1000001) ∨ (0 ≤ i ∧ r = gi (n_lg N) i)) r := NQ_ex (P := fun N r => (i < 0 ∧ r = -1000001) ∨ (0 ≤ i ∧ r = gi (n_lg N) i)) (fun N _ => by
  by_cases q : i < 0
  · exact ⟨_, Or.inl ⟨q, rfl⟩⟩
  · exact ⟨_, Or.inr ⟨by omega, rfl⟩⟩)
theorem OLE_ex {Z : ZS} {l w : Int} : ∃ r, OLE Z l w r := NQ_ex (P := fun N r => (¬ (0 ≤ l ∧ l < n_sc N 5) ∧ r = -1000001) ∨ ((0 ≤ l ∧ l < n_sc N 5) ∧ leQ N l w r)) (fun N _ => or_ex (fun _ => by
  unfold leQ
  have hw : (0 ≤ w ∧ w ≤ 3) ∨ w = 4 ∨ w = 5 ∨ w = 6 ∨ w = 7 ∨ w = 8 ∨ w = 9 ∨ w = 10 ∨ (w < 0 ∨ 10 < w) := by omega
  rcases hw with q | q | q | q | q | q | q | q | q
  · exact ⟨_, Or.inl ⟨q, rfl⟩⟩
  · exact ⟨_, Or.inr (Or.inl ⟨q, rfl⟩)⟩
  · exact ⟨_, Or.inr (Or.inr (Or.inl ⟨q, rfl⟩))⟩
  · exact ⟨_, Or.inr (Or.inr (Or.inr (Or.inl ⟨q, rfl⟩)))⟩
  · exact ⟨_, Or.inr (Or.inr (Or.inr (Or.inr (Or.inl ⟨q, rfl⟩))))⟩
  · exact ⟨_, Or.inr (Or.inr (Or.inr (Or.inr (Or.inr (Or.inl ⟨q, rfl⟩)))))⟩
  · exact ⟨_, Or.inr (Or.inr (Or.inr (Or.inr (Or.inr (Or.inr (Or.inl ⟨q, rfl⟩))))))⟩
  · by_cases y : l ∈ n_gd N
    · exact ⟨1, Or.inr (Or.inr (Or.inr (Or.inr (Or.inr (Or.inr (Or.inr (Or.inl ⟨q, Or.inl ⟨y, rfl⟩⟩)))))))⟩
    · exact ⟨0, Or.inr (Or.inr (Or.inr (Or.inr (Or.inr (Or.inr (Or.inr (Or.inl ⟨q, Or.inr ⟨y, rfl⟩⟩)))))))⟩
  · exact ⟨_, Or.inr (Or.inr (Or.inr (Or.inr (Or.inr (Or.inr (Or.inr (Or.inr ⟨q, rfl⟩)))))))⟩))
theorem OWH_ex {Z : ZS} {l i w : Int} : ∃ r, OWH Z l i w r := NQ_ex (P := fun N r => (¬ ((0 ≤ l ∧ l < n_sc N 5) ∧ 0 ≤ i ∧ (0 ≤ w ∧ w ≤ 1)) ∧ r = -1000001) ∨ (((0 ≤ l ∧ l < n_sc N 5) ∧ 0 ≤ i ∧ (0 ≤ w ∧ w ≤ 1)) ∧ whQ N l i w r)) (fun N _ => or_ex (fun _ => by
  unfold whQ
  by_cases q : n_le N l 3 ≠ 3 ∨ 2 < i ∨ (i = 2 ∧ n_le N l 11 < 0)
  · exact ⟨_, Or.inl ⟨q, rfl⟩⟩
  · exact ⟨_, Or.inr ⟨by omega, rfl⟩⟩))
theorem OBX_ex {Z : ZS} {v i : Int} : ∃ r, OBX Z v i r := NQ_ex (P := fun N r => (¬ ((0 ≤ v ∧ v < nd N) ∧ 0 ≤ i) ∧ r = -1000001) ∨ (((0 ≤ v ∧ v < nd N) ∧ 0 ≤ i) ∧ r = bxQ N v i)) (fun N _ => or_ex (fun _ => ⟨_, rfl⟩))
theorem OFA_ex {Z : ZS} {x y : Int} : ∃ r, OFA Z x y r := NQ_ex (P := fun N r => (¬ ((0 ≤ x ∧ x < nd N) ∧ (0 ≤ y ∧ y < nd N)) ∧ r = -1000001) ∨ (((0 ≤ x ∧ x < nd N) ∧ (0 ≤ y ∧ y < nd N)) ∧ r = n_dst N x y)) (fun N _ => or_ex (fun _ => ⟨_, rfl⟩))
theorem OQR_ex {Z : ZS} {i : Int} : ∃ r, OQR Z i r := NQ_ex (P := fun N r => (i < 0 ∧ r = -1000001) ∨ (0 ≤ i ∧ r = if i < (tO1 N).2 then (tO1 N).1 i else -1000000)) (fun N _ => by
  by_cases q : i < 0
  · exact ⟨_, Or.inl ⟨q, rfl⟩⟩
  · exact ⟨_, Or.inr ⟨by omega, rfl⟩⟩)
theorem OQA_ex {Z : ZS} {v i : Int} : ∃ r, OQA Z v i r := NQ_ex (P := fun N r => (¬ ((0 ≤ v ∧ v < nd N) ∧ 0 ≤ i) ∧ r = -1000001) ∨ (((0 ≤ v ∧ v < nd N) ∧ 0 ≤ i) ∧ r = atQ N v i)) (fun N _ => or_ex (fun _ => ⟨_, rfl⟩))
theorem OSM_ex {Z : ZS} {w : Int} : ∃ r, OSM Z w r := NQ_ex (P := fun N r => smQ N w r) (fun N _ => by
  unfold smQ
  have hw : w = 0 ∨ w = 1 ∨ w = 2 ∨ w = 3 ∨ w = 4 ∨ w = 5 ∨ (w < 0 ∨ 5 < w) := by omega
  rcases hw with q | q | q | q | q | q | q
  · exact ⟨_, Or.inl ⟨q, rfl⟩⟩
  · exact ⟨_, Or.inr (Or.inl ⟨q, rfl⟩)⟩
  · exact ⟨_, Or.inr (Or.inr (Or.inl ⟨q, rfl⟩))⟩
  · exact ⟨_, Or.inr (Or.inr (Or.inr (Or.inl ⟨q, rfl⟩)))⟩
  · exact ⟨_, Or.inr (Or.inr (Or.inr (Or.inr (Or.inl ⟨q, rfl⟩))))⟩
  · exact ⟨_, Or.inr (Or.inr (Or.inr (Or.inr (Or.inr (Or.inl ⟨q, rfl⟩)))))⟩
  · exact ⟨_, Or.inr (Or.inr (Or.inr (Or.inr (Or.inr (Or.inr ⟨q, rfl⟩)))))⟩)
theorem OND_ex {Z : ZS} {v w : Int} : ∃ r, OND Z v w r := NQ_ex (P := fun N r => (¬ (0 ≤ v ∧ v < nd N) ∧ r = -1000001) ∨ ((0 ≤ v ∧ v < nd N) ∧ ndQ N v w r)) (fun N _ => or_ex (fun _ => by
  unfold ndQ
  have hw : w = 0 ∨ w = 1 ∨ w = 2 ∨ w = 3 ∨ w = 4 ∨ (w < 0 ∨ 4 < w) := by omega
  rcases hw with q | q | q | q | q | q
  · exact ⟨_, Or.inl ⟨q, rfl⟩⟩
  · exact ⟨_, Or.inr (Or.inl ⟨q, rfl⟩)⟩
  · exact ⟨_, Or.inr (Or.inr (Or.inl ⟨q, rfl⟩))⟩
  · exact ⟨_, Or.inr (Or.inr (Or.inr (Or.inl ⟨q, rfl⟩)))⟩
  · exact ⟨_, Or.inr (Or.inr (Or.inr (Or.inr (Or.inl ⟨q, rfl⟩))))⟩
  · exact ⟨_, Or.inr (Or.inr (Or.inr (Or.inr (Or.inr ⟨q, rfl⟩))))⟩))
theorem OCT_ex {Z : ZS} {w : Int} : ∃ r, OCT Z w r := by
  unfold OCT
  have hw : (0 ≤ w ∧ w ≤ 4) ∨ w = 5 ∨ w = 6 ∨ (w < 0 ∨ 6 < w) := by omega
  rcases hw with qz | qz | qz | qz
  · cases ez : Z.1 with
    | none => exact ⟨0, Or.inl ⟨qz, Or.inl ⟨rfl, rfl⟩⟩⟩
    | some N => exact ⟨_, Or.inl ⟨qz, Or.inr ⟨N, rfl, rfl⟩⟩⟩
  · exact ⟨_, Or.inr (Or.inl ⟨qz, rfl⟩)⟩
  · exact ⟨_, Or.inr (Or.inr (Or.inl ⟨qz, rfl⟩))⟩
  · exact ⟨_, Or.inr (Or.inr (Or.inr ⟨qz, rfl⟩))⟩
theorem ONR_ex {Z : ZS} {l i : Int} : ∃ r, ONR Z l i r := NQ_ex (P := fun N r => (¬ ((0 ≤ l ∧ l < n_sc N 5) ∧ (0 ≤ i ∧ i < 4)) ∧ r = -1000001) ∨ (((0 ≤ l ∧ l < n_sc N 5) ∧ (0 ≤ i ∧ i < 4)) ∧ ((2 ≤ n_le N l 3 ∧ r = -1000000) ∨ (n_le N l 3 < 2 ∧ r = nrQ N l i)))) (fun N _ => or_ex (fun _ => by
  by_cases q : 2 ≤ n_le N l 3
  · exact ⟨_, Or.inl ⟨q, rfl⟩⟩
  · exact ⟨_, Or.inr ⟨by omega, rfl⟩⟩))
theorem ONX_ex {Z : ZS} {l : Int} : ∃ r, ONX Z l r := NQ_ex (P := fun N r => (¬ (0 ≤ l ∧ l < n_sc N 5) ∧ r = -1000001) ∨ ((0 ≤ l ∧ l < n_sc N 5) ∧ r = tG N l)) (fun N _ => or_ex (fun _ => ⟨_, rfl⟩))
theorem OAR_ex {Z : ZS} {l : Int} : ∃ r, OAR Z l r := NQ_ex (P := fun N r => (¬ (0 ≤ l ∧ l < n_sc N 5) ∧ r = -1000001) ∨ ((0 ≤ l ∧ l < n_sc N 5) ∧ ∃ n, LGR N n ∧ r = if n_le (itA N n) l 3 = 2 then n_le (itA N n) l 8 else -1000000)) (fun N _ => or_ex (fun _ => by
  obtain ⟨n, hn⟩ := LGR_ex N
  exact ⟨_, n, hn, rfl⟩))
theorem OWO_ex {Z : ZS} {T f kd w : Int} (ho : okZ Z T) : ∃ r, OWO Z f kd w r := NQ_ex (P := fun N r => (¬ ((0 ≤ f ∧ f < nd N) ∧ (1 ≤ kd ∧ kd ≤ 5) ∧ (0 ≤ w ∧ w ≤ 1)) ∧ r = -1000001) ∨ (((0 ≤ f ∧ f < nd N) ∧ (1 ≤ kd ∧ kd ≤ 5) ∧ (0 ≤ w ∧ w ≤ 1)) ∧ ((n_sc N 5 = 40 ∧ r = -1000003) ∨ (n_sc N 5 < 40 ∧ woQ N kd f w r)))) (fun N e => or_ex (fun h => by
  have h5 := okN_5 (ho.1 N e)
  by_cases q : n_sc N 5 = 40
  · exact ⟨_, Or.inl ⟨q, rfl⟩⟩
  · unfold woQ
    by_cases y : w = 0
    · exact ⟨_, Or.inr ⟨by omega, Or.inl ⟨y, rfl⟩⟩⟩
    · exact ⟨_, Or.inr ⟨by omega, Or.inr ⟨by omega, rfl⟩⟩⟩))
theorem OEN_ex {Z : ZS} {w : Int} : ∃ r, OEN Z w r := NQ_ex (P := fun N r => (¬ (0 ≤ w ∧ w ≤ 3) ∧ r = -1000001) ∨ ((0 ≤ w ∧ w ≤ 3) ∧ ∃ n, LGR N n ∧ ((gng (itA N n) ∧ r = -1000000) ∨ (¬ gng (itA N n) ∧ enQ N (itA N n) n w r)))) (fun N _ => or_ex (fun h => by
  obtain ⟨n, hn⟩ := LGR_ex N
  by_cases q : gng (itA N n)
  · exact ⟨_, n, hn, Or.inl ⟨q, rfl⟩⟩
  · unfold enQ
    have hw : w = 0 ∨ w = 1 ∨ w = 2 ∨ w = 3 := by omega
    rcases hw with y | y | y | y
    · exact ⟨_, n, hn, Or.inr ⟨q, Or.inl ⟨y, rfl⟩⟩⟩
    · exact ⟨_, n, hn, Or.inr ⟨q, Or.inr (Or.inl ⟨y, rfl⟩)⟩⟩
    · exact ⟨_, n, hn, Or.inr ⟨q, Or.inr (Or.inr (Or.inl ⟨y, rfl⟩))⟩⟩
    · exact ⟨_, n, hn, Or.inr ⟨q, Or.inr (Or.inr (Or.inr ⟨y, rfl⟩))⟩⟩))
theorem OHE_ex {Z : ZS} : ∃ r, OHE Z r := NQ_ex (P := fun N r => r = (heA N (n_sc N 5)).2) (fun N _ => ⟨_, rfl⟩)
theorem ODR_ex {Z : ZS} {n s w : Int} : ∃ r, ODR Z n s w r := NQ_ex (P := fun N r => (¬ ((0 ≤ n ∧ n ≤ 10) ∧ (1 ≤ s ∧ s ≤ 999999) ∧ (0 ≤ w ∧ w ≤ 2)) ∧ r = -1000001) ∨ (((0 ≤ n ∧ n ≤ 10) ∧ (1 ≤ s ∧ s ≤ 999999) ∧ (0 ≤ w ∧ w ≤ 2)) ∧ ∃ k, LGR (yrA N s n).1 k ∧ drQ (itA (yrA N s n).1 k) (yrA N s n).1 k w r)) (fun N _ => or_ex (fun h => by
  obtain ⟨k, hk⟩ := LGR_ex (yrA N s n).1
  unfold drQ
  have hw : w = 0 ∨ w = 1 ∨ w = 2 := by omega
  rcases hw with y | y | y
  · by_cases q : gng (itA (yrA N s n).1 k)
    · exact ⟨_, k, hk, Or.inl ⟨y, Or.inl ⟨q, rfl⟩⟩⟩
    · exact ⟨_, k, hk, Or.inl ⟨y, Or.inr ⟨q, rfl⟩⟩⟩
  · exact ⟨_, k, hk, Or.inr (Or.inl ⟨y, rfl⟩)⟩
  · exact ⟨_, k, hk, Or.inr (Or.inr ⟨y, rfl⟩)⟩))
theorem OBR_ex {Z : ZS} {w : Int} : ∃ r, OBR Z w r := NQ_ex (P := fun N r => (¬ (0 ≤ w ∧ w ≤ 1) ∧ r = -1000001) ∨ ((w = 0 ∧ r = (brA N (4 * nd N)).1) ∨ (w = 1 ∧ r = (brA N (4 * nd N)).2))) (fun N _ => by
  have hw : w = 0 ∨ w = 1 ∨ ¬ (0 ≤ w ∧ w ≤ 1) := by omega
  rcases hw with y | y | y
  · exact ⟨_, Or.inr (Or.inl ⟨y, rfl⟩)⟩
  · exact ⟨_, Or.inr (Or.inr ⟨y, rfl⟩)⟩
  · exact ⟨_, Or.inl ⟨y, rfl⟩⟩)
theorem OOD_ex {Z : ZS} {l v p w : Int} : ∃ r, OOD Z l v p w r := NQ_ex (P := fun N r => (¬ OODv N l v p w ∧ r = -1000001) ∨ (OODv N l v p w ∧ ((w = 0 ∧ r = odT N l v p 16 / ogA N l v p) ∨ (w = 1 ∧ r = odB (n_sc N (13 + v)) p 16 / ogA N l v p)))) (fun N _ => or_ex (fun h => by
  have hw := h.2.2
  by_cases y : w = 0
  · exact ⟨_, Or.inl ⟨y, rfl⟩⟩
  · exact ⟨_, Or.inr ⟨by omega, rfl⟩⟩))
/-! the acts: the state behind them is well made -/
theorem okZ_up {Z : ZS} {T T' : Int} {N M : NS} (ho : okZ Z T) (e : Z.1 = some N) (ht : T ≤ T') (hM : okN M T') : okZ (upN Z N M) T' := by
  have h2 := okZ_T ho ht
  exact ⟨fun K hKz => by have : M = K := Option.some.inj hKz; rw [← this]; exact hM, pushA_ok h2.2.1 (h2.1 N e), h2.2.2.1, h2.2.2.2.1, h2.2.2.2.2⟩
theorem OW_ex {Z : ZS} {T kd f t : Int} (ho : okZ Z T) : ∃ r Z', OW Z kd f t r Z' ∧ okZ Z' (T + 50) := by
  have h2 := okZ_T ho (show T ≤ T + 50 by omega)
  cases ez : Z.1 with
  | none => exact ⟨_, _, Or.inl ⟨ez, rfl, rfl⟩, h2⟩
  | some N =>
    have hNz := ho.1 N ez
    have h5 := okN_5 hNz
    by_cases qz : (1 ≤ kd ∧ kd ≤ 5) ∧ (0 ≤ f ∧ f < nd N) ∧ (0 ≤ t ∧ t < nd N) ∧ f ≠ t
    · by_cases yz : n_sc N 5 = 40
      · exact ⟨_, _, Or.inr ⟨N, ez, Or.inr ⟨qz, Or.inl ⟨yz, rfl, rfl⟩⟩⟩, h2⟩
      · refine ⟨_, _, Or.inr ⟨N, ez, Or.inr ⟨qz, Or.inr ⟨by omega, rfl, rfl⟩⟩⟩, okZ_up ho ez (by omega) ⟨WFT_T (WFT_add hNz.1 (by omega) qz.1 qz.2.1 qz.2.2.1) (by omega), hNz.2.1, ?_⟩⟩
        rw [addA_sc (by decide)]
        exact WFT_add hNz.2.2 (by omega) qz.1 qz.2.1 qz.2.2.1
    · exact ⟨_, _, Or.inr ⟨N, ez, Or.inl ⟨qz, rfl, rfl⟩⟩, h2⟩
theorem OBL_ex {Z : ZS} {T l : Int} (ho : okZ Z T) : ∃ r Z', OBL Z l r Z' ∧ okZ Z' (T + 50) := by
  have h2 := okZ_T ho (show T ≤ T + 50 by omega)
  cases ez : Z.1 with
  | none => exact ⟨_, _, Or.inl ⟨ez, rfl, rfl⟩, h2⟩
  | some N =>
    have hNz := ho.1 N ez
    by_cases qz : 0 ≤ l ∧ l < n_sc N 5
    · by_cases yz : l ∈ n_gd N ∨ 2 ≤ n_le N l 3
      · exact ⟨_, _, Or.inr ⟨N, ez, Or.inr ⟨qz, Or.inl ⟨yz, rfl, rfl⟩⟩⟩, h2⟩
      · by_cases zz : (n_gd N).length = 4
        · exact ⟨_, _, Or.inr ⟨N, ez, Or.inr ⟨qz, Or.inr ⟨yz, Or.inl ⟨zz, rfl, rfl⟩⟩⟩⟩, h2⟩
        · have hl := hNz.2.1
          have hnd : (n_gd N ++ [l]).Nodup := by
            rw [List.nodup_append]
            refine ⟨hNz.1.1.2.2.1.1, by simp, fun az haz bz hbz => ?_⟩
            rw [List.mem_singleton] at hbz
            rw [hbz]
            intro cz
            rw [cz] at haz
            exact yz (Or.inl haz)
          have hmem : ∀ xz ∈ n_gd N ++ [l], (0 ≤ xz ∧ xz < n_sc N 5) ∧ n_le N xz 3 < 2 := fun xz hx => by
            rcases List.mem_append.mp hx with cz | cz
            · exact hNz.1.1.2.2.1.2 xz cz
            · rw [List.mem_singleton.mp cz]
              refine ⟨qz, ?_⟩
              by_cases c2z : 2 ≤ n_le N l 3
              · exact absurd (Or.inr c2z) yz
              · omega
          exact ⟨_, _, Or.inr ⟨N, ez, Or.inr ⟨qz, Or.inr ⟨yz, Or.inr ⟨by omega, rfl, rfl⟩⟩⟩⟩, okZ_up ho ez (by omega) ⟨WFT_T (WFT_setG hNz.1 hnd hmem) (by omega), by show (n_gd N ++ [l]).length ≤ 4; rw [List.length_append]; simp; omega, WFT_setG hNz.2.2 hnd hmem⟩⟩
    · exact ⟨_, _, Or.inr ⟨N, ez, Or.inl ⟨qz, rfl, rfl⟩⟩, h2⟩
theorem WFT_dul {N : NS} {T l : Int} (h : WFT N T) : WFT (dulA N l) T := WFT_setG (L := (n_gd N).filter (fun y => decide (y ≠ l))) h (List.Nodup.sublist List.filter_sublist h.1.2.2.1.1) (fun x hx => h.1.2.2.1.2 x (List.mem_filter.mp hx).1)
theorem OUB_ex {Z : ZS} {T l : Int} (ho : okZ Z T) : ∃ r Z', OUB Z l r Z' ∧ okZ Z' (T + 50) := by
  have h2 := okZ_T ho (show T ≤ T + 50 by omega)
  cases ez : Z.1 with
  | none => exact ⟨_, _, Or.inl ⟨ez, rfl, rfl⟩, h2⟩
  | some N =>
    have hNz := ho.1 N ez
    by_cases qz : 0 ≤ l ∧ l < n_sc N 5
    · by_cases yz : l ∈ n_gd N
      · exact ⟨_, _, Or.inr ⟨N, ez, Or.inr ⟨qz, Or.inr ⟨yz, rfl, rfl⟩⟩⟩, okZ_up ho ez (by omega) ⟨WFT_T (WFT_dul hNz.1) (by omega), Nat.le_trans filt_len hNz.2.1, WFT_dul hNz.2.2⟩⟩
      · exact ⟨_, _, Or.inr ⟨N, ez, Or.inr ⟨qz, Or.inl ⟨yz, rfl, rfl⟩⟩⟩, h2⟩
    · exact ⟨_, _, Or.inr ⟨N, ez, Or.inl ⟨qz, rfl, rfl⟩⟩, h2⟩
theorem OCU_ex {Z : ZS} {T v p : Int} (ho : okZ Z T) : ∃ r Z', OCU Z v p r Z' ∧ okZ Z' (T + 50) := by
  have h2 := okZ_T ho (show T ≤ T + 50 by omega)
  cases ez : Z.1 with
  | none => exact ⟨_, _, Or.inl ⟨ez, rfl, rfl⟩, h2⟩
  | some N =>
    have hNz := ho.1 N ez
    by_cases qz : (0 ≤ v ∧ v < nd N) ∧ (0 ≤ p ∧ p < 4) ∧ ptB (n_sc N 0) (n_sc N 1) (n_sc N 2) v p = true
    · cases yz : eA N v p with
      | false => exact ⟨_, _, Or.inr ⟨N, ez, Or.inr ⟨qz, Or.inl ⟨yz, rfl, rfl⟩⟩⟩, h2⟩
      | true =>
        have hbz := by_16 hNz.1.1 qz.1 qz.2.1
        refine ⟨_, _, Or.inr ⟨N, ez, Or.inr ⟨qz, Or.inr ⟨yz, rfl, rfl⟩⟩⟩, okZ_up ho ez (by omega) ⟨WFT_T (WFT_cut hNz.1 qz.1 qz.2.1) (by omega), hNz.2.1, ?_⟩⟩
        rw [cutA_sc hbz.1 hbz.2.1 (by decide)]
        exact WFT_cut hNz.2.2 qz.1 qz.2.1
    · exact ⟨_, _, Or.inr ⟨N, ez, Or.inl ⟨qz, rfl, rfl⟩⟩, h2⟩
theorem OME_ex {Z : ZS} {T v p : Int} (ho : okZ Z T) : ∃ r Z', OME Z v p r Z' ∧ okZ Z' (T + 50) := by
  have h2 := okZ_T ho (show T ≤ T + 50 by omega)
  cases ez : Z.1 with
  | none => exact ⟨_, _, Or.inl ⟨ez, rfl, rfl⟩, h2⟩
  | some N =>
    have hNz := ho.1 N ez
    by_cases qz : (0 ≤ v ∧ v < nd N) ∧ (0 ≤ p ∧ p < 4) ∧ ptB (n_sc N 0) (n_sc N 1) (n_sc N 2) v p = true
    · cases yz : eA N v p with
      | true => exact ⟨_, _, Or.inr ⟨N, ez, Or.inr ⟨qz, Or.inl ⟨yz, rfl, rfl⟩⟩⟩, h2⟩
      | false =>
        have hbz := by_16 hNz.1.1 qz.1 qz.2.1
        refine ⟨_, _, Or.inr ⟨N, ez, Or.inr ⟨qz, Or.inr ⟨yz, rfl, rfl⟩⟩⟩, okZ_up ho ez (by omega) ⟨WFT_T (WFT_men hNz.1 qz.1 qz.2.1 qz.2.2) (by omega), hNz.2.1, ?_⟩⟩
        rw [menA_sc hbz.1 hbz.2.1 (by decide)]
        exact WFT_men hNz.2.2 qz.1 qz.2.1 qz.2.2
    · exact ⟨_, _, Or.inr ⟨N, ez, Or.inl ⟨qz, rfl, rfl⟩⟩, h2⟩
theorem trA_gd (N : NS) : (n_gd (trA N)).length ≤ (n_gd N).length := by
  have ez : n_gd (trA N) = ((((n_gd N).filter (fun yz => !delP N (tO1 N).1 (tO1 N).2 yz)).filter (fun yz => !oldP (t1 N) yz)).filter (fun yz => !ovP (t2 N) (tO1 N).1 (tO1 N).2 yz)) := rfl
  rw [ez]
  exact Nat.le_trans (List.length_filter_le _ _) (Nat.le_trans (List.length_filter_le _ _) (List.length_filter_le _ _))
theorem itA_gd (N : NS) : ∀ n : Nat, (n_gd (itA N n)).length ≤ (n_gd N).length := by
  intro n
  induction n with
  | zero => exact Nat.le_refl _
  | succ n ih => exact Nat.le_trans (trA_gd (itA N n)) ih
theorem OTU_ex {Z : ZS} {T n : Int} (ho : okZ Z T) : ∃ r Z', OTU Z n r Z' ∧ okZ Z' (T + 50) := by
  have h2 := okZ_T ho (show T ≤ T + 50 by omega)
  cases ez : Z.1 with
  | none => exact ⟨_, _, Or.inl ⟨ez, rfl, rfl⟩, h2⟩
  | some N =>
    have hNz := ho.1 N ez
    have hTz := sc_T hNz.1.1
    by_cases qz : 1 ≤ n ∧ n ≤ 50
    · have a1z := itA_wf (WFT_T hNz.1 (show T ≤ T + 50 by omega)) n.toNat (by omega)
      have a2 := itA_wf (WFT_T hNz.2.2 (show n_sc N 4 ≤ n_sc N 4 + n by omega)) n.toNat (by omega)
      have e4z : n_sc (itA N n.toNat) 4 = n_sc N 4 + n := by rw [a1z.2.1]; omega
      refine ⟨_, _, Or.inr ⟨N, ez, Or.inr ⟨qz, rfl, rfl⟩⟩, okZ_up ho ez (by omega) ⟨a1z.1, Nat.le_trans (itA_gd N _) hNz.2.1, ?_⟩⟩
      rw [e4z]
      exact a2.1
    · exact ⟨_, _, Or.inr ⟨N, ez, Or.inl ⟨qz, rfl, rfl⟩⟩, h2⟩
theorem OUN_ex {Z : ZS} {T : Int} (ho : okZ Z T) : ∃ r Z', OUN Z r Z' ∧ okZ Z' (T + 50) := by
  have h2 := okZ_T ho (show T ≤ T + 50 by omega)
  rcases List.eq_nil_or_concat Z.2.1 with ez | ⟨L, N, ez⟩
  · exact ⟨_, _, Or.inl ⟨ez, rfl, rfl⟩, h2⟩
  · have ez : Z.2.1 = L ++ [N] := by rw [ez]; simp
    have h3 := h2.2.1
    rw [ez] at h3
    refine ⟨_, _, Or.inr ⟨L, N, ez, rfl, rfl⟩, ⟨fun K hKz => ?_, ⟨?_, fun K hKz => h3.2 K (List.mem_append.mpr (Or.inl hKz))⟩, h2.2.2⟩⟩
    · have : N = K := Option.some.inj hKz
      rw [← this]
      exact h3.2 N (by simp)
    · have := h3.1
      rw [List.length_append] at this
      simp at this
      show L.length ≤ 8
      omega
theorem OIM_ex {Z : ZS} {T k : Int} (ho : okZ Z T) : ∃ r Z', OIM Z k r Z' ∧ okZ Z' (T + 50) := by
  have h2 := okZ_T ho (show T ≤ T + 50 by omega)
  by_cases qz : 0 ≤ k ∧ k < 2
  · cases ez : Z.1 with
    | none => exact ⟨_, _, Or.inr ⟨qz, Or.inl ⟨ez, rfl, rfl⟩⟩, h2⟩
    | some N =>
      refine ⟨_, _, Or.inr ⟨qz, Or.inr ⟨N, ez, rfl, rfl⟩⟩, ?_⟩
      have hNz := h2.1 N ez
      unfold setI
      split
      · exact ⟨h2.1, h2.2.1, fun K hKz => by have : N = K := Option.some.inj hKz; rw [← this]; exact hNz, h2.2.2.2⟩
      · exact ⟨h2.1, h2.2.1, h2.2.2.1, fun K hKz => by have : N = K := Option.some.inj hKz; rw [← this]; exact hNz, h2.2.2.2.2⟩
  · exact ⟨_, _, Or.inl ⟨qz, rfl, rfl⟩, h2⟩
theorem ORE_ex {Z : ZS} {T k : Int} (ho : okZ Z T) : ∃ r Z', ORE Z k r Z' ∧ okZ Z' (T + 50) := by
  have h2 := okZ_T ho (show T ≤ T + 50 by omega)
  by_cases qz : 0 ≤ k ∧ k < 2
  · cases ez : getI Z k with
    | none => exact ⟨_, _, Or.inr ⟨qz, Or.inl ⟨ez, rfl, rfl⟩⟩, h2⟩
    | some N =>
      refine ⟨_, _, Or.inr ⟨qz, Or.inr ⟨N, ez, rfl, rfl⟩⟩, ⟨fun K hKz => ?_, ⟨Nat.zero_le _, fun K hKz => absurd hKz (by show ¬ K ∈ ([] : List NS); simp)⟩, h2.2.2⟩⟩
      have : N = K := Option.some.inj hKz
      rw [← this]
      unfold getI at ez
      split at ez
      · exact h2.2.2.1 N ez
      · exact h2.2.2.2.1 N ez
  · exact ⟨_, _, Or.inl ⟨qz, rfl, rfl⟩, h2⟩
theorem OFE_ex {Z : ZS} {T x : Int} (ho : okZ Z T) : ∃ r Z', OFE Z x r Z' ∧ okZ Z' (T + 50) := by
  have h2 := okZ_T ho (show T ≤ T + 50 by omega)
  have hl := h2.2.2.2.2
  by_cases qz : 0 ≤ x ∧ x ≤ 255
  · by_cases yz : Z.2.2.2.2.1.length = 140
    · exact ⟨_, _, Or.inr ⟨qz, Or.inl ⟨yz, rfl, rfl⟩⟩, h2⟩
    · refine ⟨_, _, Or.inr ⟨qz, Or.inr ⟨by omega, rfl, rfl⟩⟩, ⟨h2.1, h2.2.1, h2.2.2.1, h2.2.2.2.1, ?_, fun zz hz => ?_⟩⟩
      · show (Z.2.2.2.2.1 ++ [x]).length ≤ 140
        rw [List.length_append]
        simp
        omega
      · rcases List.mem_append.mp hz with cz | cz
        · exact hl.2 zz cz
        · rw [List.mem_singleton.mp cz]; exact qz
  · exact ⟨_, _, Or.inl ⟨qz, rfl, rfl⟩, h2⟩
theorem ONE_ex {Z : ZS} {m : gm_M} {T : Int} (hI : IC m Z) (ho : okZ Z T) (hT : 0 ≤ T) : ∃ r Z', ONE Z r Z' ∧ okZ Z' (T + 50) := by
  have h2 := okZ_T ho (show T ≤ T + 50 by omega)
  have tp := TPC_of hI.2.2.2.2 ho.2.2.2.2
  obtain ⟨r1z, m1z, _, hQ⟩ := sp_X4_readInto (ro := fun _ => (0, fun _ => 0)) (d := 0) (S := S0) rfl tp
  have h0 : ([] : List Int).length ≤ 140 ∧ ∀ xz ∈ ([] : List Int), 0 ≤ xz ∧ xz ≤ 255 := ⟨Nat.zero_le _, fun xz hx => absurd hx (by simp)⟩
  rcases hQ with ⟨N, ez, _, hr, _⟩ | ⟨fz, kz, ez, kb, _⟩
  · exact ⟨_, _, Or.inr ⟨N, ez, rfl, rfl⟩, ⟨fun K hKz => by have : N = K := Option.some.inj hKz; rw [← this]; exact OKW_ok hr.2 (by omega), ⟨Nat.zero_le _, fun K hKz => absurd hKz (by show ¬ K ∈ ([] : List NS); simp)⟩, h2.2.2.1, h2.2.2.2.1, h0⟩⟩
  · exact ⟨_, _, Or.inl ⟨fz, kz, ez, rfl, kb, rfl⟩, ⟨h2.1, h2.2.1, h2.2.2.1, h2.2.2.2.1, h0⟩⟩
