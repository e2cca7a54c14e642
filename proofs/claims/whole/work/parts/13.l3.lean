/-! ===== ways cut and mended ===== -/
def cutS (N : NS) (v p q i : Int) : Int := if i = 29 + q then (p + 2) % 4 else if i = 29 + v then p else if i = 13 + q then clr (n_sc N (13 + q)) ((p + 2) % 4) else if i = 13 + v then clr (n_sc N (13 + v)) p else n_sc N i
def cutA (N : NS) (v p : Int) : NS := (cutS N v p (byA N v p), n_gd N, n_lg N, n_le N)
def orb (L p : Int) : Int := gm_or L (gm_shl 1 p)
def menS (N : NS) (v p q i : Int) : Int := if i = 13 + q then orb (n_sc N (13 + q)) ((p + 2) % 4) else if i = 13 + v then orb (n_sc N (13 + v)) p else n_sc N i
def menA (N : NS) (v p : Int) : NS := (menS N v p (byA N v p), n_gd N, n_lg N, n_le N)
theorem orb_d : ∀ L : Nat, L < 16 → ∀ p : Nat, p < 4 → (0 ≤ orb (L : Int) (p : Int) ∧ orb (L : Int) (p : Int) < 16) ∧ ∀ q : Nat, q < 4 → hasB (orb (L : Int) (p : Int)) (q : Int) = (hasB (L : Int) (q : Int) || decide ((q : Int) = (p : Int))) := by decide +kernel
theorem orb_f {L p : Int} (h1 : 0 ≤ L ∧ L < 16) (h2 : 0 ≤ p ∧ p < 4) : (0 ≤ orb L p ∧ orb L p < 16) ∧ ∀ q, 0 ≤ q → q < 4 → hasB (orb L p) q = (hasB L q || decide (q = p)) := by
  obtain ⟨L, rfl⟩ := Int.eq_ofNat_of_zero_le h1.1
  obtain ⟨p, rfl⟩ := Int.eq_ofNat_of_zero_le h2.1
  have h := orb_d L (by omega) p (by omega)
  refine ⟨h.1, fun q q1 q2 => ?_⟩
  obtain ⟨q, rfl⟩ := Int.eq_ofNat_of_zero_le q1
  exact h.2 q (by omega)
theorem cutA_sc {N : NS} {v p i : Int} (hv : 0 ≤ v ∧ v < 16) (hq : 0 ≤ byA N v p ∧ byA N v p < 16) (h : i < 13) : n_sc (cutA N v p) i = n_sc N i := by
  show cutS N v p (byA N v p) i = _
  unfold cutS
  rw [if_neg (by omega), if_neg (by omega), if_neg (by omega), if_neg (by omega)]
theorem cutA_l {N : NS} {v p u : Int} (hv : 0 ≤ v ∧ v < 16) (hq : 0 ≤ byA N v p ∧ byA N v p < 16) (hu : 0 ≤ u ∧ u < 16) : n_sc (cutA N v p) (13 + u) = if u = byA N v p then clr (n_sc N (13 + u)) ((p + 2) % 4) else if u = v then clr (n_sc N (13 + u)) p else n_sc N (13 + u) := by
  show cutS N v p (byA N v p) (13 + u) = _
  unfold cutS
  rw [if_neg (by omega), if_neg (by omega)]
  by_cases z : u = byA N v p
  · rw [if_pos (by omega), if_pos z, z]
  · rw [if_neg (by omega), if_neg z]
    by_cases y : u = v
    · rw [if_pos (by omega), if_pos y, y]
    · rw [if_neg (by omega), if_neg y]
theorem cutA_t {N : NS} {v p u : Int} (hv : 0 ≤ v ∧ v < 16) (hq : 0 ≤ byA N v p ∧ byA N v p < 16) (hu : 0 ≤ u ∧ u < 16) : n_sc (cutA N v p) (29 + u) = if u = byA N v p then (p + 2) % 4 else if u = v then p else n_sc N (29 + u) := by
  show cutS N v p (byA N v p) (29 + u) = _
  unfold cutS
  by_cases z : u = byA N v p
  · rw [if_pos (by omega), if_pos z]
  · rw [if_neg (by omega), if_neg z]
    by_cases y : u = v
    · rw [if_pos (by omega), if_pos y]
    · rw [if_neg (by omega), if_neg y, if_neg (by omega), if_neg (by omega)]
theorem by_16 {N : NS} {T v p : Int} (hw : WF N T) (hv : 0 ≤ v ∧ v < nd N) (hp : 0 ≤ p ∧ p < 4) : (0 ≤ v ∧ v < 16) ∧ (0 ≤ byA N v p ∧ byA N v p < 16) ∧ (0 ≤ byA N v p ∧ byA N v p < nd N) ∧ byA N v p ≠ v ∧ byA N (byA N v p) ((p + 2) % 4) = v := by
  have hnd := WF_nd hw
  have h := byd_f hw.1.1 hw.1.2.1 hv hp
  have h1 : 0 ≤ byA N v p ∧ byA N v p < nd N := h.1
  exact ⟨by omega, by omega, h1, h.2.2.1, h.2.1⟩
theorem cutA_e {N : NS} {T v p u r : Int} (hw : WF N T) (hv : 0 ≤ v ∧ v < nd N) (hp : 0 ≤ p ∧ p < 4) (hu : 0 ≤ u ∧ u < nd N) (hr : 0 ≤ r ∧ r < 4) : eA (cutA N v p) u r = (eA N u r && decide (¬ (u = byA N v p ∧ r = (p + 2) % 4) ∧ ¬ (u = v ∧ r = p))) := by
  have hb := by_16 hw hv hp
  have hnd := WF_nd hw
  show hasB (n_sc (cutA N v p) (13 + u)) r = _
  rw [cutA_l hb.1 hb.2.1 (by omega)]
  have hL := (hw.2.1 u hu.1 hu.2).1
  by_cases z : u = byA N v p
  · rw [if_pos z, (clr_f hL (by omega)).2.2 r hr.1 hr.2]
    congr 1
    exact decide_eq_decide.mpr (by omega)
  · rw [if_neg z]
    by_cases y : u = v
    · rw [if_pos y, (clr_f hL hp).2.2 r hr.1 hr.2]
      congr 1
      exact decide_eq_decide.mpr (by omega)
    · rw [if_neg y, decide_eq_true (by omega), Bool.and_true]
theorem cutA_by {N : NS} {T v p : Int} (hw : WF N T) (hv : 0 ≤ v ∧ v < nd N) (hp : 0 ≤ p ∧ p < 4) : byA (cutA N v p) = byA N ∧ nd (cutA N v p) = nd N := by
  have hb := by_16 hw hv hp
  constructor
  · funext u r
    show byd (n_sc (cutA N v p) 0) (n_sc (cutA N v p) 1) u r = _
    rw [cutA_sc hb.1 hb.2.1 (by decide), cutA_sc hb.1 hb.2.1 (by decide)]
  · show n_sc _ 0 * n_sc _ 1 = _
    rw [cutA_sc hb.1 hb.2.1 (by decide), cutA_sc hb.1 hb.2.1 (by decide)]
theorem WFT_cut {N : NS} {T v p : Int} (h : WFT N T) (hv : 0 ≤ v ∧ v < nd N) (hp : 0 ≤ p ∧ p < 4) : WFT (cutA N v p) T := by
  have hw := h.1
  have hb := by_16 hw hv hp
  have hby := cutA_by hw hv hp
  have hnd := WF_nd hw
  have sc := fun i (hi : i < 13) => cutA_sc (N := N) (i := i) hb.1 hb.2.1 hi
  obtain ⟨⟨d, k, g, l, q⟩, c1, c2⟩ := h
  have e5 := sc 5 (by decide)
  refine ⟨⟨?_, fun u u0 u1 => ?_, ?_, ?_, fun j j0 j1 => ?_⟩, ?_, ?_⟩
  · unfold DIMS at d ⊢
    rw [sc 0 (by decide), sc 1 (by decide), sc 2 (by decide), sc 3 (by decide), sc 4 (by decide), e5]
    exact d
  · rw [hby.2] at u1
    have ku := k u u0 u1
    rw [sc 0 (by decide), sc 1 (by decide), sc 2 (by decide)]
    refine ⟨?_, ?_, fun r r0 r1 hr => ?_⟩
    · rw [cutA_l hb.1 hb.2.1 (by omega)]
      split
      · exact (clr_f ku.1 (by omega)).1
      · split
        · exact (clr_f ku.1 hp).1
        · exact ku.1
    · rw [cutA_t hb.1 hb.2.1 (by omega)]
      split
      · exact Or.inr (by omega)
      · split
        · exact Or.inr (by omega)
        · exact ku.2.1
    · have he : eA (cutA N v p) u r = true := hr
      rw [cutA_e hw hv hp ⟨u0, u1⟩ ⟨r0, r1⟩, Bool.and_eq_true] at he
      have hd := of_decide_eq_true he.2
      have z := ku.2.2 r r0 r1 he.1
      have hu := by_16 hw ⟨u0, u1⟩ (p := r) ⟨r0, r1⟩
      refine ⟨z.1, ?_⟩
      show eA (cutA N v p) (byA N u r) ((r + 2) % 4) = true
      rw [cutA_e hw hv hp hu.2.2.1 (by omega), Bool.and_eq_true]
      refine ⟨z.2, decide_eq_true ⟨fun w => ?_, fun w => ?_⟩⟩
      · have : r = p := by omega
        have e1 := hu.2.2.2.2
        rw [w.1, w.2] at e1
        have e2 := hb.2.2.2.2
        rw [e1] at e2
        exact hd.2 ⟨e2, this⟩
      · have e1 := hu.2.2.2.2
        rw [w.1, w.2] at e1
        exact hd.1 ⟨e1.symm, by omega⟩
  · unfold GLD at g ⊢
    rw [e5]; exact g
  · unfold LGI at l ⊢
    rw [e5]; exact l
  · rw [e5] at j1
    rw [hby.2]
    exact q j j0 j1
  · unfold FCM at c1 ⊢
    rw [e5]; exact c1
  · rw [e5]; exact c2
theorem menA_sc {N : NS} {v p i : Int} (hv : 0 ≤ v ∧ v < 16) (hq : 0 ≤ byA N v p ∧ byA N v p < 16) (h : i < 13 ∨ 29 ≤ i) : n_sc (menA N v p) i = n_sc N i := by
  show menS N v p (byA N v p) i = _
  unfold menS
  rw [if_neg (by omega), if_neg (by omega)]
theorem menA_l {N : NS} {v p u : Int} : n_sc (menA N v p) (13 + u) = if u = byA N v p then orb (n_sc N (13 + u)) ((p + 2) % 4) else if u = v then orb (n_sc N (13 + u)) p else n_sc N (13 + u) := by
  show menS N v p (byA N v p) (13 + u) = _
  unfold menS
  by_cases z : u = byA N v p
  · rw [if_pos (by omega), if_pos z, z]
  · rw [if_neg (by omega), if_neg z]
    by_cases y : u = v
    · rw [if_pos (by omega), if_pos y, y]
    · rw [if_neg (by omega), if_neg y]
theorem menA_by {N : NS} {T v p : Int} (hw : WF N T) (hv : 0 ≤ v ∧ v < nd N) (hp : 0 ≤ p ∧ p < 4) : byA (menA N v p) = byA N ∧ nd (menA N v p) = nd N := by
  have hb := by_16 hw hv hp
  constructor
  · funext u r
    show byd (n_sc (menA N v p) 0) (n_sc (menA N v p) 1) u r = _
    rw [menA_sc hb.1 hb.2.1 (by decide), menA_sc hb.1 hb.2.1 (by decide)]
  · show n_sc _ 0 * n_sc _ 1 = _
    rw [menA_sc hb.1 hb.2.1 (by decide), menA_sc hb.1 hb.2.1 (by decide)]
theorem menA_e {N : NS} {T v p u r : Int} (hw : WF N T) (hv : 0 ≤ v ∧ v < nd N) (hp : 0 ≤ p ∧ p < 4) (hu : 0 ≤ u ∧ u < nd N) (hr : 0 ≤ r ∧ r < 4) : eA (menA N v p) u r = (eA N u r || decide ((u = byA N v p ∧ r = (p + 2) % 4) ∨ (u = v ∧ r = p))) := by
  have hb := by_16 hw hv hp
  show hasB (n_sc (menA N v p) (13 + u)) r = _
  rw [menA_l]
  have hL := (hw.2.1 u hu.1 hu.2).1
  by_cases z : u = byA N v p
  · rw [if_pos z, (orb_f hL (by omega)).2 r hr.1 hr.2]
    congr 1
    exact decide_eq_decide.mpr (by omega)
  · rw [if_neg z]
    by_cases y : u = v
    · rw [if_pos y, (orb_f hL hp).2 r hr.1 hr.2]
      congr 1
      exact decide_eq_decide.mpr (by omega)
    · rw [if_neg y, decide_eq_false (by omega), Bool.or_false]
theorem ptB_rev {N : NS} {T v p : Int} (hw : WF N T) (hv : 0 ≤ v ∧ v < nd N) (hp : 0 ≤ p ∧ p < 4) (h : ptB (n_sc N 0) (n_sc N 1) (n_sc N 2) v p = true) : ptB (n_sc N 0) (n_sc N 1) (n_sc N 2) (byA N v p) ((p + 2) % 4) = true := by
  have h2 := hw.1.2.2.1
  by_cases q : n_sc N 2 = 0
  · rw [q] at h ⊢
    exact (byd_f hw.1.1 hw.1.2.1 hv hp).2.2.2 h
  · exact decide_eq_true (Or.inl (by omega))
theorem WFT_men {N : NS} {T v p : Int} (h : WFT N T) (hv : 0 ≤ v ∧ v < nd N) (hp : 0 ≤ p ∧ p < 4) (hpt : ptB (n_sc N 0) (n_sc N 1) (n_sc N 2) v p = true) : WFT (menA N v p) T := by
  have hw := h.1
  have hb := by_16 hw hv hp
  have hby := menA_by hw hv hp
  have hnd := WF_nd hw
  have hrv := ptB_rev hw hv hp hpt
  have sc := fun i (hi : i < 13) => menA_sc (N := N) (i := i) hb.1 hb.2.1 (Or.inl hi)
  obtain ⟨⟨d, k, g, l, q⟩, c1, c2⟩ := h
  have e5 := sc 5 (by decide)
  refine ⟨⟨?_, fun u u0 u1 => ?_, ?_, ?_, fun j j0 j1 => ?_⟩, ?_, ?_⟩
  · unfold DIMS at d ⊢
    rw [sc 0 (by decide), sc 1 (by decide), sc 2 (by decide), sc 3 (by decide), sc 4 (by decide), e5]
    exact d
  · rw [hby.2] at u1
    have ku := k u u0 u1
    rw [sc 0 (by decide), sc 1 (by decide), sc 2 (by decide)]
    refine ⟨?_, ?_, fun r r0 r1 hr => ?_⟩
    · rw [menA_l]
      split
      · exact (orb_f ku.1 (by omega)).1
      · split
        · exact (orb_f ku.1 hp).1
        · exact ku.1
    · rw [menA_sc hb.1 hb.2.1 (by omega)]
      exact ku.2.1
    · have he : eA (menA N v p) u r = true := hr
      rw [menA_e hw hv hp ⟨u0, u1⟩ ⟨r0, r1⟩, Bool.or_eq_true] at he
      have hu := by_16 hw ⟨u0, u1⟩ (p := r) ⟨r0, r1⟩
      have key : eA (menA N v p) (byA N u r) ((r + 2) % 4) = true ∧ ptB (n_sc N 0) (n_sc N 1) (n_sc N 2) u r = true := by
        rw [menA_e hw hv hp hu.2.2.1 (by omega), Bool.or_eq_true]
        rcases he with w | w
        · have z := ku.2.2 r r0 r1 w
          exact ⟨Or.inl z.2, z.1⟩
        · rcases of_decide_eq_true w with ⟨w1, w2⟩ | ⟨w1, w2⟩
          · rw [w1, w2, hb.2.2.2.2]
            exact ⟨Or.inr (decide_eq_true (Or.inr ⟨rfl, by omega⟩)), hrv⟩
          · rw [w1, w2]
            exact ⟨Or.inr (decide_eq_true (Or.inl ⟨rfl, rfl⟩)), hpt⟩
      exact ⟨key.2, key.1⟩
  · unfold GLD at g ⊢
    rw [e5]; exact g
  · unfold LGI at l ⊢
    rw [e5]; exact l
  · rw [e5] at j1
    rw [hby.2]
    exact q j j0 j1
  · unfold FCM at c1 ⊢
    rw [e5]; exact c1
  · rw [e5]; exact c2
/-- the class's net but for its distances -/
def repW (m : gm_M) (a : Int) (N : NS) : Prop :=
  (m (a + 1) 0 = nd N ∧ m (a + 1) 1 = n_sc N 2 ∧ m a 3 = n_sc N 3 ∧ m a 4 = n_sc N 4 ∧ m a 2 = n_sc N 5) ∧
  (∀ v, 0 ≤ v → v < nd N → m (a + 2) v = n_sc N (13 + v) ∧ m (a + 3) v = n_sc N (29 + v)) ∧
  (∀ v p, 0 ≤ v → v < nd N → 0 ≤ p → p < 4 → m (a + 4) (4 * v + p) = if ptB (n_sc N 0) (n_sc N 1) (n_sc N 2) v p = true then byA N v p else -1000000) ∧
  (0 ≤ m a 8 ∧ m a 8 ≤ 40 ∧ lof (m (a + 10)) (m a 8) = n_lg N) ∧ (0 ≤ m a 6 ∧ m a 6 ≤ 5 ∧ lof (m (a + 9)) (m a 6) = n_gd N) ∧
  ∀ k, 0 ≤ k → k < n_sc N 5 → ltr (m (a + 11 + k)) (n_le N k)
theorem if_ptB {w h y v p A B : Int} : (if y > 0 ∨ ¬ ((p = 0 ∧ v / w = 0) ∨ (p = 1 ∧ v % w = w - 1) ∨ (p = 2 ∧ v / w = h - 1) ∨ (p = 3 ∧ v % w = 0)) then A else B) = if ptB w h y v p = true then A else B := by
  by_cases q : ptB w h y v p = true
  · rw [if_pos q, if_pos (of_decide_eq_true q)]
  · rw [if_neg q, if_neg (fun z => q (decide_eq_true z))]
theorem repW_of {m : gm_M} {a : Int} {N : NS} (h : repC m a N) : repW m a N := ⟨h.1, h.2.1, fun v p v0 v1 p0 p1 => (h.2.2.1 v p v0 v1 p0 p1).trans if_ptB, h.2.2.2.2.1, h.2.2.2.2.2.1, h.2.2.2.2.2.2⟩
theorem repC_of {m : gm_M} {a : Int} {N : NS} (h : repW m a N) (hd : ∀ u v, 0 ≤ u → u < nd N → 0 ≤ v → v < nd N → m (a + 5) (16 * u + v) = n_dst N u v) : repC m a N := ⟨h.1, h.2.1, fun v p v0 v1 p0 p1 => (h.2.2.1 v p v0 v1 p0 p1).trans if_ptB.symm, hd, h.2.2.2.1, h.2.2.2.2.1, h.2.2.2.2.2⟩
theorem repL_W {m : gm_M} {a T : Int} {N : NS} (h : repW m a N) (hw : WF N T) : repL m a N := ⟨h.1.1, fun v a b => (h.2.1 v a b).1, fun v p hv hp he => by rw [h.2.2.1 v p hv.1 hv.2 hp.1 hp.2, if_pos ((hw.2.1 v hv.1 hv.2).2.2 p hp.1 hp.2 he).1]⟩
theorem repW_fr {m m' : gm_M} {a : Int} {N : NS} (h : repW m a N) (hk : n_sc N 5 ≤ 40) (e : ∀ c, a ≤ c → c < a + 51 → c ≠ a + 5 → c ≠ a + 6 → c ≠ a + 7 → ∀ j, m' c j = m c j) : repW m' a N := by
  obtain ⟨⟨h1, h2, h3, h4, h5⟩, h6, h7, h9, h10, h11⟩ := h
  have e9 : m' (a + 9) = m (a + 9) := funext (e _ (by omega) (by omega) (by omega) (by omega) (by omega))
  have e10 : m' (a + 10) = m (a + 10) := funext (e _ (by omega) (by omega) (by omega) (by omega) (by omega))
  refine ⟨⟨?_, ?_, ?_, ?_, ?_⟩, fun v q1 q2 => ?_, fun v p q1 q2 q3 q4 => ?_, ?_, ?_, fun k q1 q2 => ?_⟩
  · rw [e _ (by omega) (by omega) (by omega) (by omega) (by omega)]; exact h1
  · rw [e _ (by omega) (by omega) (by omega) (by omega) (by omega)]; exact h2
  · rw [e _ (by omega) (by omega) (by omega) (by omega) (by omega)]; exact h3
  · rw [e _ (by omega) (by omega) (by omega) (by omega) (by omega)]; exact h4
  · rw [e _ (by omega) (by omega) (by omega) (by omega) (by omega)]; exact h5
  · rw [e _ (by omega) (by omega) (by omega) (by omega) (by omega), e _ (by omega) (by omega) (by omega) (by omega) (by omega)]; exact h6 v q1 q2
  · rw [e _ (by omega) (by omega) (by omega) (by omega) (by omega)]; exact h7 v p q1 q2 q3 q4
  · rw [e10, e a (by omega) (by omega) (by omega) (by omega) (by omega)]; exact h9
  · rw [e9, e a (by omega) (by omega) (by omega) (by omega) (by omega)]; exact h10
  · rw [show m' (a + 11 + k) = m (a + 11 + k) from funext (e _ (by omega) (by omega) (by omega) (by omega) (by omega))]; exact h11 k q1 q2
/-- measure makes the distances right -/
theorem sp_X6_measureR {ro : Nat → Nat × (Int → Int)} {d : Nat} {S : List gm_S} (hS : S = S0) {m : gm_M} {a T : Int} {N : NS} (ha : gN a) (h : repW m a N) (hw : WF N T) : gm_rel ro (d + 3) k_X6_measure [gA (a + 1)] S m (fun r1 m1 => r1 = none ∧ repC m1 a N ∧ ∀ c j, (c < a ∨ a + 51 ≤ c) → m1 c j = m c j) :=
  gm_rel_mono (Nat.le_refl _) (fun r m1 q => ⟨q.1, repC_of (repW_fr h hw.1.2.2.2.2.2.2 (fun c _ _ q1 q2 q3 j => q.2.2 c j q1 q2 q3)) q.2.1, fun c j hc => q.2.2 c j (by omega) (by omega) (by omega)⟩) (sp_X6_measure (d := d) hS ha (repL_W h hw) hw)
/-- links and last cuts changed -/
theorem repW_li {m m' : gm_M} {a : Int} {N M : NS} (h : repW m a N) (hd : nd M = nd N) (h0 : n_sc M 0 = n_sc N 0) (h1 : n_sc M 1 = n_sc N 1) (h2 : n_sc M 2 = n_sc N 2) (h3 : n_sc M 3 = n_sc N 3) (h4 : n_sc M 4 = n_sc N 4) (h5 : n_sc M 5 = n_sc N 5) (hg : n_gd M = n_gd N) (hl : n_lg M = n_lg N) (hle : n_le M = n_le N) (hk : n_sc N 5 ≤ 40) (e : ∀ c j, c ≠ a + 2 → c ≠ a + 3 → m' c j = m c j) (hL : ∀ v, 0 ≤ v → v < nd N → m' (a + 2) v = n_sc M (13 + v) ∧ m' (a + 3) v = n_sc M (29 + v)) : repW m' a M := by
  obtain ⟨⟨a1, a2, a3, a4, a5⟩, a6, a7, a9, a10, a11⟩ := h
  have e9 : m' (a + 9) = m (a + 9) := funext (fun j => e _ j (by omega) (by omega))
  have e10 : m' (a + 10) = m (a + 10) := funext (fun j => e _ j (by omega) (by omega))
  unfold repW
  rw [hd, hg, hl, hle, h2, h3, h4, h5]
  refine ⟨⟨?_, ?_, ?_, ?_, ?_⟩, hL, fun v p q1 q2 q3 q4 => ?_, ?_, ?_, fun k q1 q2 => ?_⟩
  · rw [e _ _ (by omega) (by omega)]; exact a1
  · rw [e _ _ (by omega) (by omega)]; exact a2
  · rw [e _ _ (by omega) (by omega)]; exact a3
  · rw [e _ _ (by omega) (by omega)]; exact a4
  · rw [e _ _ (by omega) (by omega)]; exact a5
  · rw [e _ _ (by omega) (by omega), h0, h1, a7 v p q1 q2 q3 q4]
    rw [show byA M = byA N from by funext u r; show byd (n_sc M 0) (n_sc M 1) u r = _; rw [h0, h1]]
  · rw [e10, e _ _ (by omega) (by omega)]; exact a9
  · rw [e9, e _ _ (by omega) (by omega)]; exact a10
  · rw [show m' (a + 11 + k) = m (a + 11 + k) from funext (fun j => e _ j (by omega) (by omega))]; exact a11 k q1 q2
theorem repW_cut {m : gm_M} {a T v p : Int} {N : NS} (h : repW m a N) (hw : WF N T) (hv : 0 ≤ v ∧ v < nd N) (hp : 0 ≤ p ∧ p < 4) (he : eA N v p = true) : repW (sevM m a v p) a (cutA N v p) := by
  have hb := by_16 hw hv hp
  have hnd := WF_nd hw
  have sc := fun i (hi : i < 13) => cutA_sc (N := N) (i := i) hb.1 hb.2.1 hi
  have eb := (repL_W h hw).2.2 v p hv hp he
  refine repW_li h (cutA_by hw hv hp).2 (sc 0 (by decide)) (sc 1 (by decide)) (sc 2 (by decide)) (sc 3 (by decide)) (sc 4 (by decide)) (sc 5 (by decide)) rfl rfl rfl hw.1.2.2.2.2.2.2 (fun c j q1 q2 => ?_) (fun u u0 u1 => ?_)
  · simp only [sevM]
    rw [gm_rd_a q2, gm_rd_a q2, gm_rd_a q1, gm_rd_a q1]
  · have hu := h.2.1 u u0 u1
    have hvv := h.2.1 v hv.1 hv.2
    have hq := h.2.1 _ hb.2.2.1.1 hb.2.2.1.2
    rw [cutA_l hb.1 hb.2.1 (by omega), cutA_t hb.1 hb.2.1 (by omega)]
    simp only [sevM]
    rw [eb, xor2I hp.1 hp.2]
    constructor
    · rw [gm_rd_a (by omega), gm_rd_a (by omega)]
      by_cases z : u = byA N v p
      · rw [if_pos z, z, gm_rd_s, gm_rd_i hb.2.2.2.1, hq.1]; rfl
      · rw [if_neg z, gm_rd_i z]
        by_cases y : u = v
        · rw [if_pos y, y, gm_rd_s, hvv.1]; rfl
        · rw [if_neg y, gm_rd_i y]; exact hu.1
    · by_cases z : u = byA N v p
      · rw [if_pos z, z, gm_rd_s]
      · rw [if_neg z, gm_rd_i z]
        by_cases y : u = v
        · rw [if_pos y, y, gm_rd_s]
        · rw [if_neg y, gm_rd_i y, gm_rd_a (by omega), gm_rd_a (by omega)]; exact hu.2
theorem repW_men {m : gm_M} {a T v p : Int} {N : NS} (h : repW m a N) (hw : WF N T) (hv : 0 ≤ v ∧ v < nd N) (hp : 0 ≤ p ∧ p < 4) (hpt : ptB (n_sc N 0) (n_sc N 1) (n_sc N 2) v p = true) : repW (rejM m a v p) a (menA N v p) := by
  have hb := by_16 hw hv hp
  have hnd := WF_nd hw
  have sc := fun i (hi : i < 13) => menA_sc (N := N) (i := i) hb.1 hb.2.1 (Or.inl hi)
  have eb : m (a + 4) (4 * v + p) = byA N v p := by rw [h.2.2.1 v p hv.1 hv.2 hp.1 hp.2, if_pos hpt]
  refine repW_li h (menA_by hw hv hp).2 (sc 0 (by decide)) (sc 1 (by decide)) (sc 2 (by decide)) (sc 3 (by decide)) (sc 4 (by decide)) (sc 5 (by decide)) rfl rfl rfl hw.1.2.2.2.2.2.2 (fun c j q1 q2 => ?_) (fun u u0 u1 => ?_)
  · simp only [rejM]
    rw [gm_rd_a q1, gm_rd_a q1]
  · have hu := h.2.1 u u0 u1
    have hvv := h.2.1 v hv.1 hv.2
    have hq := h.2.1 _ hb.2.2.1.1 hb.2.2.1.2
    rw [menA_l, menA_sc hb.1 hb.2.1 (by omega)]
    simp only [rejM]
    rw [eb, xor2I hp.1 hp.2]
    constructor
    · by_cases z : u = byA N v p
      · rw [if_pos z, z, gm_rd_s, gm_rd_i hb.2.2.2.1, hq.1]; rfl
      · rw [if_neg z, gm_rd_i z]
        by_cases y : u = v
        · rw [if_pos y, y, gm_rd_s, hvv.1]; rfl
        · rw [if_neg y, gm_rd_i y]; exact hu.1
    · rw [gm_rd_a (by omega), gm_rd_a (by omega)]; exact hu.2
/-- the reference's row, links and last cuts changed -/
theorem repB_li {m m' : gm_M} {b : Int} {N M : NS} (h : repB m b N) (h0 : ∀ i, (0 ≤ i ∧ i < 6) ∨ (13 ≤ i ∧ i < 45) → m' b i = n_sc M i) (h5 : n_sc M 5 = n_sc N 5) (hg : n_gd M = n_gd N) (hl : n_lg M = n_lg N) (hle : n_le M = n_le N) (e : ∀ j, (6 ≤ j ∧ j < 13) ∨ 45 ≤ j → m' b j = m b j) : repB m' b M := by
  obtain ⟨a1, a2, a3, a4⟩ := h
  unfold repB
  rw [hg, hl, hle, h5]
  refine ⟨h0, ?_, ?_, fun k f k0 k1 f0 f1 => by rw [e _ (by omega)]; exact a4 k f k0 k1 f0 f1⟩
  · rw [e 6 (by omega)]
    exact ⟨a2.1, a2.2.1, (lof_cg a2.1 (fun j a b => e _ (by omega))).trans a2.2.2⟩
  · rw [e 7 (by omega)]
    exact ⟨a3.1, a3.2.1, (lof_cg a3.1 (fun j a b => e _ (by omega))).trans a3.2.2⟩
theorem repB_cut {m : gm_M} {b T v p : Int} {N : NS} (h : repB m b N) (hw : WF N T) (hv : 0 ≤ v ∧ v < nd N) (hp : 0 ≤ p ∧ p < 4) : repB (cutM m b v p) b (cutA N v p) := by
  have hb := by_16 hw hv hp
  have eq : byd (m b 0) (m b 1) v p = byA N v p := by rw [h.1 0 (by omega), h.1 1 (by omega)]
  have e1 := h.1 (13 + v) (by omega)
  have e2 := h.1 (13 + byA N v p) (by omega)
  have key : ∀ i, cutM m b v p b i = if i = 29 + byA N v p then (p + 2) % 4 else if i = 29 + v then p else if i = 13 + byA N v p then clr (n_sc N (13 + byA N v p)) ((p + 2) % 4) else if i = 13 + v then clr (n_sc N (13 + v)) p else m b i := fun i => by
    simp only [cutM]
    rw [eq]
    have e3 : gm_up m b (13 + v) (gm_and (m b (13 + v)) (gm_xor (gm_shl 1 p) (-1))) b (13 + byA N v p) = n_sc N (13 + byA N v p) := by
      have := hb.2.2.2.1
      rw [gm_rd_i (by omega)]; exact e2
    rw [e3, e1]
    by_cases z1 : i = 29 + byA N v p
    · rw [if_pos z1, z1, gm_rd_s]
    · rw [if_neg z1, gm_rd_i z1]
      by_cases z2 : i = 29 + v
      · rw [if_pos z2, z2, gm_rd_s]
      · rw [if_neg z2, gm_rd_i z2]
        by_cases z3 : i = 13 + byA N v p
        · rw [if_pos z3, z3, gm_rd_s]; rfl
        · rw [if_neg z3, gm_rd_i z3]
          by_cases z4 : i = 13 + v
          · rw [if_pos z4, z4, gm_rd_s]; rfl
          · rw [if_neg z4, gm_rd_i z4]
  refine repB_li h (fun i hi => ?_) (cutA_sc hb.1 hb.2.1 (by decide)) rfl rfl rfl (fun j hj => ?_)
  · rw [key i, h.1 i hi]
    rfl
  · rw [key j, if_neg (by omega), if_neg (by omega), if_neg (by omega), if_neg (by omega)]
theorem cutM_fr {m : gm_M} {b v p c j : Int} (h : c ≠ b) : cutM m b v p c j = m c j := by
  simp only [cutM]
  rw [gm_rd_a h, gm_rd_a h, gm_rd_a h, gm_rd_a h]
