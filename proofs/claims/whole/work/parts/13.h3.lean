/-! ===== the whole TURN, pure ===== -/
theorem WF_dlv {N : NS} {O : Int → Int} {n T : Int} (h : WF N T) (hT : n_sc N 4 < T) (ho : ORD N O n) {v : Int} (h0 : 0 ≤ v) : v ≤ nd N → WF (dlv N O n v) T := by
  refine up_ind (P := fun v => v ≤ nd N → WF (dlv N O n v) T) ?_ ?_ h0
  · intro _; rw [dlv_0 h]; exact h
  · intro v hv ih hv1
    have ih := ih (by omega)
    by_cases q : chsA N O n v = -1000000
    · rw [dlv_skip hv q]; exact ih
    · rcases chsA_c ho v with ⟨z, -⟩ | ⟨i, hi, c1, c2, c3, c4, c5⟩
      · exact absurd z q
      · have hle := dlv_le (N := N) (O := O) (n := n) (v := v) (k := chsA N O n v) (by rw [c1, c4]; exact Int.le_refl _)
        rw [← dlv_next ho hv q]
        exact WF_fin ih (by rw [c1]; exact c2) (by rw [hle, c1]; exact c3) hT
theorem WF_del {N : NS} {O : Int → Int} {n T : Int} (h : WF N T) (hT : n_sc N 4 < T) (ho : ORD N O n) : WF (delA N O n) T := by
  rw [← dlv_end h]
  exact WF_dlv h hT ho (by have := WF_nd h; omega) (Int.le_refl _)
theorem WF_stI {N : NS} {P : Int → Bool} {w : Int} {e : Int → Int} {c T : Int} (h : WF N T) (hT : n_sc N 4 < T) (hw : w = 2 ∨ w = 3) (hi : ∀ i j, 0 ≤ i → i < j → j < c → e i ≠ e j) (hP : ∀ k, P k = true → (0 ≤ k ∧ k < n_sc N 5) ∧ n_le N k 3 = 1) (hc : 0 ≤ c) (hP2 : ∀ k, P k = true → ∃ i, (0 ≤ i ∧ i < c) ∧ e i = k) {i : Int} (h0 : 0 ≤ i) : i ≤ c → WF (stI N P w e c i) T := by
  refine up_ind (P := fun i => i ≤ c → WF (stI N P w e c i) T) ?_ ?_ h0
  · intro _; rw [stI_0 hc hP2]; exact h
  · intro i hi0 ih hi1
    have ih := ih (by omega)
    by_cases q : P (e i) = true
    · rw [← stI_next hi hi0 (by omega) q]
      exact WF_los ih (hP _ q).1 (by rw [stI_le hi hi0 (by omega)]; exact (hP _ q).2) hT hw
    · rw [stI_skip hi0 (by omega) (by simpa using q)]; exact ih
theorem oldP_f {N : NS} {k : Int} (h : oldP N k = true) : (0 ≤ k ∧ k < n_sc N 5) ∧ n_le N k 3 = 1 := by
  have := of_decide_eq_true h
  exact ⟨this.1, this.2.1⟩
theorem ovP_f {N : NS} {O : Int → Int} {n k : Int} (h : ovP N O n k = true) : (0 ≤ k ∧ k < n_sc N 5) ∧ n_le N k 3 = 1 := by
  have := of_decide_eq_true h
  exact ⟨this.1, this.2.1⟩
theorem WF_old {N : NS} {T : Int} (h : WF N T) (hT : n_sc N 4 < T) : WF (oldA N) T := by
  have h5 := h.1.2.2.2.2.2.1
  have he := ENUM_id h5
  have := WF_stI (P := oldP N) h hT (Or.inl rfl) he.2.2.1 (fun k => oldP_f) h5 (oldP_c he) h5 (Int.le_refl _)
  rw [stI_end h5] at this
  exact this
theorem WF_ov {N : NS} {O : Int → Int} {n T : Int} (h : WF N T) (hT : n_sc N 4 < T) (he : ENUM N O n) : WF (ovA N O n) T := by
  have := WF_stI (P := ovP N O n) h hT (Or.inr rfl) he.2.2.1 (fun k => ovP_f) he.1.1 (ovP_c he) he.1.1 (Int.le_refl _)
  rw [stI_end he.1.1] at this
  exact this
theorem mkL_le {N : NS} {P : Int → Bool} {u : Int → Int → Int} {L : List Int} {k f : Int} : n_le (mkL N P u L) k f = if P k = true then u k f else n_le N k f := rfl
theorem mkL_fl {N : NS} {P : Int → Bool} {u : Int → Int → Int} {L : List Int} {k : Int} (hu : P k = true → u k 3 ≠ 1) (h : n_le (mkL N P u L) k 3 = 1) : P k = false ∧ ∀ f, n_le (mkL N P u L) k f = n_le N k f := by
  have q : P k ≠ true := fun q => by
    rw [mkL_le, if_pos q] at h
    exact hu q h
  exact ⟨by simpa using q, fun f => by rw [mkL_le, if_neg q]⟩
theorem FC0_mk {N : NS} {P : Int → Bool} {u : Int → Int → Int} {L : List Int} (h : FC0 N) (hu : ∀ k, P k = true → u k 3 ≠ 1) : FC0 (mkL N P u L) := by
  constructor
  · intro k l hk hl hkl ck cl e4
    have fk := mkL_fl (hu k) ck
    have fl := mkL_fl (hu l) cl
    rw [fk.2, fl.2] at e4 ⊢
    rw [fk.2] at ck
    rw [fl.2] at cl
    exact h.1 k l hk hl hkl ck cl e4
  · intro k k0 k1 ck
    have fk := mkL_fl (hu k) ck
    rw [fk.2] at ck ⊢
    exact h.2 k k0 k1 ck
theorem YNG_old {N : NS} : YNG (oldA N) := by
  intro k k0 k1 ck
  have fk := mkL_fl (P := oldP N) (u := fun k => losW N k 2) (fun _ => by simp [losW]) ck
  have ck' : n_le N k 3 = 1 := by rw [← fk.2]; exact ck
  show n_le (oldA N) k 5 < n_sc N 3
  have e : n_le (oldA N) k 5 = n_le N k 5 := fk.2 5
  rw [e]
  have := of_decide_eq_false fk.1
  have k1' : k < n_sc N 5 := k1
  omega
theorem YNG_mk {N : NS} {P : Int → Bool} {u : Int → Int → Int} {L : List Int} (h : YNG N) (hu : ∀ k, P k = true → u k 3 ≠ 1) : YNG (mkL N P u L) := by
  intro k k0 k1 ck
  have fk := mkL_fl (hu k) ck
  rw [fk.2] at ck ⊢
  exact h k k0 k1 ck
theorem ROOM_ov {N : NS} {O : Int → Int} {n T : Int} (h : WF N T) (he : ENUM N O n) : ROOM (ovA N O n) := by
  intro v v0 v1
  have hl := lkA_bd h v0 v1
  rw [← cwA_n he, cwA_min he hl.1 he.1.1 (Int.le_refl _)]
  show _ ≤ lkA N v
  split <;> omega
theorem ROOM_pu {N : NS} {T : Int} (h : WF N T) (hr : ROOM N) : ROOM (puA N) := by
  intro v v0 v1
  rw [hr_put h]
  have := hr v v0 v1
  show _ ≤ lkA N v
  unfold crF
  split <;> omega
theorem YNG_pu {N : NS} {T : Int} (h : WF N T) (hy : YNG N) : YNG (puA N) := by
  intro k k0 k1 ck
  have hl : 10 ≤ n_sc N 3 := h.1.2.2.2.1.1
  show n_le (puA N) k 5 < n_sc N 3
  rw [puA_le] at ck ⊢
  by_cases q : puP N k = true
  · rw [if_pos q]
    have : puU N k 5 = 0 := rfl
    omega
  · rw [if_neg q] at ck ⊢
    exact hy k k0 k1 ck
theorem FCM_pu {N : NS} {T : Int} (h : WF N T) (hf : FC0 N) : FCM (puA N) := by
  have key : ∀ k, 0 ≤ k ∧ k < n_sc N 5 → n_le (puA N) k 3 = 1 → (puP N k = true ∧ n_le (puA N) k 7 = -1000000 ∧ n_le (puA N) k 4 = n_le N k 1 ∧ fsA N (n_le N k 1) = k) ∨ (n_le N k 3 = 1 ∧ n_le (puA N) k 7 = n_le N k 7 ∧ n_le (puA N) k 4 = n_le N k 4) := fun k hk ck => by
    rw [puA_le] at ck
    rw [puA_le, puA_le]
    by_cases q : puP N k = true
    · have z := of_decide_eq_true q
      have y := h.2.2.2.2 k hk.1 hk.2
      unfold LW at y
      rw [if_pos q, if_pos q]
      refine Or.inl ⟨q, ?_, ?_, z.2.2.1⟩
      · show n_le N k 7 = _; omega
      · show n_le N k 4 = _; omega
    · rw [if_neg q] at ck
      rw [if_neg q, if_neg q]
      exact Or.inr ⟨ck, rfl, rfl⟩
  intro k l hk hl hkl ck cl e4
  rcases key k hk ck with ⟨a1, a2, a3, a4⟩ | ⟨a1, a2, a3⟩ <;> rcases key l hl cl with ⟨b1, b2, b3, b4⟩ | ⟨b1, b2, b3⟩
  · exfalso
    apply hkl
    rw [← a4, ← b4]
    congr 1
    omega
  · have := hf.2 l hl.1 hl.2 b1
    omega
  · have := hf.2 k hk.1 hk.2 a1
    omega
  · rw [a2, b2]
    exact hf.1 k l hk hl hkl a1 b1 (by omega)
/-- the golden one of a TURN -/
def gOne (N : NS) : Int := ((n_gd N).find? (fun x => decide (n_le N x 3 = 1))).getD (-1000000)
def tO1 (N : NS) : (Int → Int) × Int := ordA N (gOne N)
def t1 (N : NS) : NS := delA N (tO1 N).1 (tO1 N).2
def t2 (N : NS) : NS := oldA (t1 N)
def t3 (N : NS) : NS := ovA (t2 N) (tO1 N).1 (tO1 N).2
def t4 (N : NS) : NS := puA (t3 N)
def tO2 (N : NS) : (Int → Int) × Int := ordA (t4 N) (gOne N)
noncomputable def tG (N : NS) : Int → Int := goA (t4 N) (tO2 N).1 (tO2 N).2
noncomputable def trA (N : NS) : NS := mvA (t4 N) (tG N)
/-- a net as it is between two TURNS -/
def WFT (N : NS) (T : Int) : Prop := WF N T ∧ FC0 N
theorem tO1_ok {N : NS} {T : Int} (h : WF N T) : ORD N (tO1 N).1 (tO1 N).2 := ordA_ORD h.1.2.2.2.2.2.1
theorem E_1 {N : NS} {T : Int} (h : WF N T) : ENUM (t1 N) (tO1 N).1 (tO1 N).2 := ENUM_mk (ENUM_of (tO1_ok h)) (fun k _ => by simp [finW])
theorem E_2 {N : NS} {T : Int} (h : WF N T) : ENUM (t2 N) (tO1 N).1 (tO1 N).2 := ENUM_mk (E_1 h) (fun k _ => by simp [losW])
theorem t1_wf {N : NS} {T : Int} (h : WF N T) (hT : n_sc N 4 < T) : WF (t1 N) T := WF_del h hT (tO1_ok h)
theorem t2_wf {N : NS} {T : Int} (h : WF N T) (hT : n_sc N 4 < T) : WF (t2 N) T := WF_old (t1_wf h hT) hT
theorem t3_wf {N : NS} {T : Int} (h : WF N T) (hT : n_sc N 4 < T) : WF (t3 N) T := WF_ov (t2_wf h hT) hT (E_2 h)
theorem t4_wf {N : NS} {T : Int} (h : WF N T) (hT : n_sc N 4 < T) : WF (t4 N) T := WF_put (t3_wf h hT)
theorem t4_sc (N : NS) : n_sc (t4 N) = n_sc N := rfl
theorem tO2_ok {N : NS} {T : Int} (h : WF N T) : ORD (t4 N) (tO2 N).1 (tO2 N).2 := ordA_ORD h.1.2.2.2.2.2.1
theorem t4_fc {N : NS} {T : Int} (h : WFT N T) (hT : n_sc N 4 < T) : FCM (t4 N) := FCM_pu (t3_wf h.1 hT) (FC0_mk (FC0_mk (FC0_mk h.2 (fun k _ => by simp [finW])) (fun k _ => by simp [losW])) (fun k _ => by simp [losW]))
theorem t4_yn {N : NS} {T : Int} (h : WF N T) (hT : n_sc N 4 < T) : YNG (t4 N) := YNG_pu (t3_wf h hT) (YNG_mk YNG_old (fun k _ => by simp [losW]))
theorem t4_rm {N : NS} {T : Int} (h : WF N T) (hT : n_sc N 4 < T) : ROOM (t4 N) := ROOM_pu (t3_wf h hT) (ROOM_ov (t2_wf h hT) (E_2 h))
theorem tG_ok {N : NS} {T : Int} (h : WFT N T) (hT : n_sc N 4 < T) : GOK (t4 N) (tG N) := goA_ok (tO2_ok h.1) (t4_wf h.1 hT) (t4_fc h hT) (t4_rm h.1 hT)
theorem trA_wf {N : NS} {T : Int} (h : WFT N T) (hT : n_sc N 4 < T) : WFT (trA N) T := ⟨WF_mv (t4_wf h.1 hT) hT (tG_ok h hT) (t4_yn h.1 hT), FC0_mv (t4_wf h.1 hT) (tG_ok h hT)⟩
theorem trA_4 {N : NS} : n_sc (trA N) 4 = n_sc N 4 + 1 := mvA_4
theorem trA_sc {N : NS} {i : Int} (h : i ≠ 4) : n_sc (trA N) i = n_sc N i := mvA_sc h
/-- the first of a list told as a row -/
theorem find_lof {P : Int → Bool} {f : Int → Int} {n : Int} (h : 0 ≤ n) : (∀ j, 0 ≤ j → j < n → f j ≠ -1000000) → nthT (fun k => P (f k)) f (n - 0).toNat 0 0 = ((lof f n).find? P).getD (-1000000) := by
  refine up_ind (P := fun n => (∀ j, 0 ≤ j → j < n → f j ≠ -1000000) → nthT (fun k => P (f k)) f (n - 0).toNat 0 0 = ((lof f n).find? P).getD (-1000000)) ?_ ?_ h
  · intro _; rfl
  · intro k hk ih hf
    have ih := ih (fun j a b => hf j a (by omega))
    have e := pfx_s (Q := fun k => P (f k)) (T := f) hk (fun j a b _ => hf j a (by omega))
    unfold pfx at e
    rw [e, ih, lof_s hk, List.find?_append]
    cases hq : (lof f k).find? P with
    | none =>
      show (if (-1000000 : Int) = -1000000 then _ else _) = _
      rw [if_pos rfl]
      show _ = ((List.find? P [f k])).getD (-1000000)
      cases hz : P (f k) with
      | true => rw [if_pos rfl]; simp [List.find?, hz]
      | false => rw [if_neg (by simp)]; simp [List.find?, hz]
    | some x =>
      have hx := List.mem_of_find?_eq_some hq
      obtain ⟨j, hj, ej⟩ := (lof_mem hk).mp hx
      have := hf j hj.1 (by omega)
      show (if x = -1000000 then _ else x) = x
      rw [if_neg (by omega)]
