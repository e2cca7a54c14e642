/-! ===== step 4: put in ===== -/
theorem fsA_c {N : NS} (h : 0 ≤ n_sc N 5) (v : Int) : (fsA N v = -1000000 ∧ ∀ k, 0 ≤ k → k < n_sc N 5 → ¬ (n_le N k 3 = 0 ∧ n_le N k 1 = v)) ∨ ((0 ≤ fsA N v ∧ fsA N v < n_sc N 5) ∧ (n_le N (fsA N v) 3 = 0 ∧ n_le N (fsA N v) 1 = v) ∧ ∀ k, 0 ≤ k → k < fsA N v → ¬ (n_le N k 3 = 0 ∧ n_le N k 1 = v)) := by
  unfold fsA
  rw [nthT_R]
  rcases nthT_sp (Q := fun k => decide (n_le N k 3 = 0 ∧ n_le N k 1 = v)) (T := fun k => k) (n_sc N 5 - 0).toNat 0 with ⟨h1, h2⟩ | ⟨j, h1, h2, h3, h4⟩
  · exact Or.inl ⟨h1, fun k a b => of_decide_eq_false (h2 k a (by omega))⟩
  · rw [h3]
    exact Or.inr ⟨by omega, of_decide_eq_true h2, fun k a b => of_decide_eq_false (h4 k a b)⟩
def pst (N : NS) (i : Int) : NS := mkS N (fun k => puP N k && decide (k < i)) (puU N)
def chF (N : NS) (i v : Int) : Int := if fsA N v < i then fsA N v else -1000000
def crF (N : NS) (i v : Int) : Int := if (0 ≤ fsA N v ∧ fsA N v < i) ∧ hrA N v < lkA N v then hrA N v + 1 else hrA N v
theorem chF_s {N : NS} {i v : Int} (h : fsA N v ≠ i) : chF N (i + 1) v = chF N i v := by
  unfold chF
  by_cases q : fsA N v < i
  · rw [if_pos q, if_pos (by omega)]
  · rw [if_neg q, if_neg (by omega)]
theorem crF_s {N : NS} {i v : Int} (h : fsA N v ≠ i) : crF N (i + 1) v = crF N i v := by
  unfold crF
  by_cases q : (0 ≤ fsA N v ∧ fsA N v < i) ∧ hrA N v < lkA N v
  · rw [if_pos q, if_pos (by omega)]
  · rw [if_neg q, if_neg (by omega)]
theorem mkS_eq {N : NS} {Q Q' : Int → Bool} {u : Int → Int → Int} (h : ∀ k, Q' k = Q k) : mkS N Q' u = mkS N Q u := by
  rw [show Q' = Q from funext h]
theorem pst_le {N : NS} {i k : Int} (h : i ≤ k) : n_le (pst N i) k = n_le N k := by
  funext f
  show (if (puP N k && decide (k < i)) = true then _ else n_le N k f) = _
  rw [decide_eq_false (by omega), Bool.and_false, if_neg (by simp)]
theorem pst_skip {N : NS} {i : Int} (h : puP N i = false) : pst N (i + 1) = pst N i := by
  refine mkS_eq (fun k => ?_)
  by_cases q : k = i
  · rw [q, h, Bool.false_and, Bool.false_and]
  · rw [show (decide (k < i + 1)) = decide (k < i) from decide_eq_decide.mpr (by omega)]
theorem pst_next {N : NS} {i : Int} (h : puP N i = true) : (n_sc (pst N i), n_gd (pst N i), n_lg (pst N i), fun k f => if k = i then puU N i f else n_le (pst N i) k f) = pst N (i + 1) := by
  unfold pst mkS
  have : (fun (k f : Int) => if k = i then puU N i f else if (puP N k && decide (k < i)) = true then puU N k f else n_le N k f) = fun k f => if (puP N k && decide (k < i + 1)) = true then puU N k f else n_le N k f := by
    funext k f
    by_cases q : k = i
    · rw [if_pos q, q, h, decide_eq_true (by omega), Bool.and_true, if_pos rfl]
    · rw [if_neg q, show (decide (k < i + 1)) = decide (k < i) from decide_eq_decide.mpr (by omega)]
  dsimp only [n_sc, n_gd, n_lg, n_le] at this ⊢
  rw [this]
theorem pst_0 {N : NS} : pst N 0 = N := by
  have : (fun (k f : Int) => if (puP N k && decide (k < 0)) = true then puU N k f else n_le N k f) = n_le N := by
    funext k f
    by_cases q : puP N k = true
    · have := of_decide_eq_true q
      rw [decide_eq_false (p := k < 0) (by omega), Bool.and_false, if_neg (by simp)]
    · rw [if_neg (by simp [q])]
  unfold pst mkS
  rw [this]
theorem pst_end {N : NS} : pst N (n_sc N 5) = puA N := by
  refine mkS_eq (fun k => ?_)
  by_cases q : puP N k = true
  · have := of_decide_eq_true q
    rw [decide_eq_true (p := k < n_sc N 5) (by omega), Bool.and_true]
  · have q : puP N k = false := by simpa using q
    rw [q, Bool.false_and]
theorem puA_le {N : NS} {k f : Int} : n_le (puA N) k f = if puP N k = true then puU N k f else n_le N k f := rfl
theorem WF_put {N : NS} {T : Int} (h : WF N T) : WF (puA N) T := by
  obtain ⟨d, k, ⟨g1, g2⟩, ⟨l1, l2⟩, q⟩ := h
  refine ⟨d, k, ⟨g1, fun x hx => ?_⟩, ⟨fun x hx => ?_, fun P => ?_⟩, fun j q1 q2 => ?_⟩
  · refine ⟨(g2 x hx).1, ?_⟩
    rw [puA_le]
    split
    · simp [puU]
    · exact (g2 x hx).2
  · refine ⟨(l1 x hx).1, ?_⟩
    rw [puA_le, if_neg]
    · exact (l1 x hx).2
    · intro z
      have := of_decide_eq_true z
      have := (l1 x hx).2
      omega
  · have := l2 P
    show ((List.countP P (n_lg N) : Nat) : Int) = _
    rw [this]
    refine cntM_cg d.2.2.2.2.2.1 (fun k q1 q2 => ?_)
    rw [puA_le]
    by_cases z : puP N k = true
    · have := of_decide_eq_true z
      rw [if_pos z]
      simp [puU]
      omega
    · rw [if_neg z]
  · have hq := q j q1 q2
    show LW (nd N) T (fun f => if puP N j = true then puU N j f else n_le N j f)
    by_cases z : puP N j = true
    · have := of_decide_eq_true z
      unfold LW at hq ⊢
      simp only [z, if_true, puU]
      simp
      omega
    · simp only [z]
      exact hq
theorem hr_put {N : NS} {T v : Int} (h : WF N T) : hrA (puA N) v = crF N (n_sc N 5) v := by
  have hd := h.1.2.2.2.2.2
  have hkey : ∀ k, 0 ≤ k → k < n_sc N 5 → puP N k = true → n_le N k 3 = 0 ∧ n_le N k 4 = n_le N k 1 ∧ fsA N (n_le N k 1) = k ∧ hrA N (n_le N k 1) < lkA N (n_le N k 1) := fun k q1 q2 q3 => by
    have z := of_decide_eq_true q3
    have y := h.2.2.2.2 k q1 q2
    unfold LW at y
    exact ⟨z.2.1, by omega, z.2.2.1, z.2.2.2⟩
  unfold crF
  by_cases q : (0 ≤ fsA N v ∧ fsA N v < n_sc N 5) ∧ hrA N v < lkA N v
  · rw [if_pos q]
    rcases fsA_c hd.1 v with ⟨z, -⟩ | ⟨z1, z2, z3⟩
    · omega
    · have hP : puP N (fsA N v) = true := decide_eq_true ⟨z1, z2.1, by rw [z2.2], by rw [z2.2]; exact q.2⟩
      refine cntM_one z1.1 z1.2 (fun y => by have := y.1; omega) (fun k q1 q2 => ?_)
      rw [puA_le, puA_le]
      by_cases p : puP N k = true
      · have hk := hkey k q1 q2 p
        rw [if_pos p, if_pos p]
        constructor
        · intro y
          have y2 : n_le N k 4 = v := y.2
          rw [hk.2.1] at y2
          rw [y2] at hk
          exact Or.inr hk.2.2.1.symm
        · rintro (y | y)
          · have := y.1; omega
          · refine ⟨rfl, ?_⟩
            show n_le N k 4 = v
            rw [hk.2.1, y]; exact z2.2
      · rw [if_neg p, if_neg p]
        constructor
        · intro y; exact Or.inl y
        · rintro (y | y)
          · exact y
          · rw [y] at p; exact absurd hP p
  · rw [if_neg q]
    refine cntM_cg hd.1 (fun k q1 q2 => ?_)
    rw [puA_le, puA_le]
    by_cases p : puP N k = true
    · have hk := hkey k q1 q2 p
      rw [if_pos p, if_pos p]
      constructor
      · intro y
        have y2 : n_le N k 4 = v := y.2
        rw [hk.2.1] at y2
        rw [y2] at hk
        have q2' : k < n_sc N 5 := q2
        exact absurd ⟨⟨by omega, by omega⟩, hk.2.2.2⟩ q
      · intro y; have := y.1; omega
    · rw [if_neg p, if_neg p]
set_option maxHeartbeats 4000000 in
theorem sp_X5_putIn {ro : Nat → Nat × (Int → Int)} {d : Nat} {S : List gm_S} (hS : S = S0) {m : gm_M} {a T : Int} {N : NS} (ha : gN a) (h : repC m a N) (hw : WF N T) (hcr : ∀ v, 0 ≤ v → v < nd N → m 59 v = hrA N v) : gm_rel ro (d + 4) k_X5_putIn [gA 54, gA a] S m (fun r1 m1 => r1 = none ∧ repC m1 a (puA N) ∧ (∀ v, 0 ≤ v → v < nd N → m1 59 v = hrA (puA N) v) ∧ (∀ c j, (c < a ∨ a + 51 ≤ c) → c ≠ 59 → c ≠ 60 → m1 c j = m c j)) := by
  refine gm_rel_of mt_X5_putIn (Nat.le_of_ble_eq_true rfl) ?_
  dsimp only [gm_en, List.length_cons, List.length_nil, List.replicate, List.cons_append, List.nil_append, Nat.reduceAdd, Nat.reduceSub]
  have hat := gN_t ha
  have h40 := hw.1.2.2.2.2.2
  have hnd := WF_nd hw
  repeat' (first
    | ((with_reducible refine gm_w0 ?_); refine gm_go rfl ?_)
    | ((with_reducible refine sw_cons (fun hc => ?_) (fun hc => ?_)) <;> try (exfalso; omega))
    | with_reducible refine sw_nil ?_
    | simp (disch := omega) only [w32_id, Int.tdiv_eq_ediv_of_nonneg, Int.tmod_eq_emod_of_nonneg, Int.add_zero]
    | ((with_reducible refine st_getI ?_ ?_); first | assumption | exact N_is' hS (by assumption) | exact N_wis' hS (by assumption) | exact C_629' hS | exact N_lis' hS (by assumption) (by omega) (by omega) | exact C_0' hS | exact C_1' hS | exact C_54' hS | exact C_64' hS | exact C_116' hS)
    | ((with_reducible apply st_getR); (first | assumption | exact N_is' hS (by assumption) | exact N_wis' hS (by assumption) | exact C_629' hS | exact N_lis' hS (by assumption) (by omega) (by omega) | exact C_0' hS | exact C_1' hS | exact C_54' hS | exact C_64' hS | exact C_116' hS); (first | assumption | exact N_web' hS (by assumption) | exact N_letters' hS (by assumption) | exact N_golden' hS (by assumption) | exact N_logged' hS (by assumption) | exact N_open' hS (by assumption) | exact N_last' hS (by assumption) | exact N_beyond' hS (by assumption) | exact N_apart' hS (by assumption) | exact N_steps' hS (by assumption) | exact N_reached' hS (by assumption) | exact F_0_0' hS | exact F_0_1' hS | exact F_0_2' hS | exact F_0_3' hS | exact F_0_4' hS | exact F_0_5' hS | exact F_1_0' hS | exact F_54_0' hS | exact F_54_1' hS | exact F_54_4' hS | exact F_54_5' hS | exact F_54_6' hS | exact F_54_7' hS | exact F_54_8' hS | exact F_54_9' hS | exact F_54_10' hS | exact F_64_0' hS | exact F_64_1' hS | exact F_116_0' hS | exact F_629_0' hS | exact F_629_1' hS | exact F_629_2' hS | exact F_629_4' hS | exact F_629_5' hS | exact F_629_6' hS | exact F_629_15' hS | exact F_629_16' hS | exact F_629_18' hS | exact F_629_19' hS))
    | ((with_reducible refine st_putI ?_ ?_); first | assumption | exact N_is' hS (by assumption) | exact N_wis' hS (by assumption) | exact C_629' hS | exact N_lis' hS (by assumption) (by omega) (by omega) | exact C_0' hS | exact C_1' hS | exact C_54' hS | exact C_64' hS | exact C_116' hS)
    | ((with_reducible refine st_iald ?_ ?_); refine in_of (by first | assumption | exact N_a2' hS (by assumption) | exact N_a3' hS (by assumption) | exact N_a4' hS (by assumption) | exact N_a5' hS (by assumption) | exact N_a6' hS (by assumption) | exact N_a7' hS (by assumption) | exact N_a9' hS (by assumption) | exact N_a10' hS (by assumption) | exact A_630' hS | exact A_631' hS | exact A_632' hS | exact A_633' hS | exact A_635' hS | exact A_636' hS | exact A_637' hS | exact A_638' hS | exact A_639' hS | exact A_2' hS | exact A_55' hS | exact A_56' hS | exact A_57' hS | exact A_58' hS | exact A_59' hS | exact A_60' hS | exact A_61' hS | exact A_62' hS | exact A_63' hS) (by omega) (by omega))
    | ((with_reducible refine st_iast ?_ ?_); refine in_of (by first | assumption | exact N_a2' hS (by assumption) | exact N_a3' hS (by assumption) | exact N_a4' hS (by assumption) | exact N_a5' hS (by assumption) | exact N_a6' hS (by assumption) | exact N_a7' hS (by assumption) | exact N_a9' hS (by assumption) | exact N_a10' hS (by assumption) | exact A_630' hS | exact A_631' hS | exact A_632' hS | exact A_633' hS | exact A_635' hS | exact A_636' hS | exact A_637' hS | exact A_638' hS | exact A_639' hS | exact A_2' hS | exact A_55' hS | exact A_56' hS | exact A_57' hS | exact A_58' hS | exact A_59' hS | exact A_60' hS | exact A_61' hS | exact A_62' hS | exact A_63' hS) (by omega) (by omega))
    | ((with_reducible apply st_aald); (exact N_lin' hS (by assumption) (by omega) (by omega)); (exact N_lrf' hS (by assumption) (by omega) (by omega)))
    | ((with_reducible refine st_icmp (fun hc => ?_) (fun hc => ?_)) <;> (try dsimp only [gm_c] at hc) <;> (try simp only [gm_cmp_lt, gm_cmp_gt, gm_cmp_le, gm_cmp_ge, ite_0, ite_1, ne_eq, Classical.not_not] at hc) <;> try (first | (exfalso; omega) | exact absurd trivial hc))
    | ((with_reducible refine st_if (fun hc => ?_) (fun hc => ?_)) <;> (try dsimp only [gm_c] at hc) <;> (try simp only [gm_cmp_lt, gm_cmp_gt, gm_cmp_le, gm_cmp_ge, ite_0, ite_1, ne_eq, Classical.not_not] at hc) <;> try (first | (exfalso; omega) | exact absurd trivial hc))
    | ((with_reducible refine st_ret ?_ ?_); first | exact Or.inl rfl | exact Or.inr (Or.inl rfl) | exact Or.inr (Or.inr rfl))
    | ((with_reducible refine is_s (p' := 998) ?_ ?_); (exact rfl); refine st_copy (by first | assumption | exact N_a2' hS (by assumption) | exact N_a3' hS (by assumption) | exact N_a4' hS (by assumption) | exact N_a5' hS (by assumption) | exact N_a6' hS (by assumption) | exact N_a7' hS (by assumption) | exact N_a9' hS (by assumption) | exact N_a10' hS (by assumption) | exact A_630' hS | exact A_631' hS | exact A_632' hS | exact A_633' hS | exact A_635' hS | exact A_636' hS | exact A_637' hS | exact A_638' hS | exact A_639' hS | exact A_2' hS | exact A_55' hS | exact A_56' hS | exact A_57' hS | exact A_58' hS | exact A_59' hS | exact A_60' hS | exact A_61' hS | exact A_62' hS | exact A_63' hS) (by first | assumption | exact N_a2' hS (by assumption) | exact N_a3' hS (by assumption) | exact N_a4' hS (by assumption) | exact N_a5' hS (by assumption) | exact N_a6' hS (by assumption) | exact N_a7' hS (by assumption) | exact N_a9' hS (by assumption) | exact N_a10' hS (by assumption) | exact A_630' hS | exact A_631' hS | exact A_632' hS | exact A_633' hS | exact A_635' hS | exact A_636' hS | exact A_637' hS | exact A_638' hS | exact A_639' hS | exact A_2' hS | exact A_55' hS | exact A_56' hS | exact A_57' hS | exact A_58' hS | exact A_59' hS | exact A_60' hS | exact A_61' hS | exact A_62' hS | exact A_63' hS) (by omega) (by omega) (by omega) (by omega) (by omega) (Nat.le_of_ble_eq_true rfl) gm_999s ?_)
    | ((with_reducible refine is_s (p' := 997) ?_ ?_); (exact rfl); refine st_max (Nat.le_of_ble_eq_true rfl) gm_999s ?_)
    | ((with_reducible refine is_s (p' := 996) ?_ ?_); (exact rfl); refine st_min (Nat.le_of_ble_eq_true rfl) gm_999s ?_)
    | ((with_reducible apply st_alen); (refine is_of_ar (by first | assumption | exact N_a2' hS (by assumption) | exact N_a3' hS (by assumption) | exact N_a4' hS (by assumption) | exact N_a5' hS (by assumption) | exact N_a6' hS (by assumption) | exact N_a7' hS (by assumption) | exact N_a9' hS (by assumption) | exact N_a10' hS (by assumption) | exact A_630' hS | exact A_631' hS | exact A_632' hS | exact A_633' hS | exact A_635' hS | exact A_636' hS | exact A_637' hS | exact A_638' hS | exact A_639' hS | exact A_2' hS | exact A_55' hS | exact A_56' hS | exact A_57' hS | exact A_58' hS | exact A_59' hS | exact A_60' hS | exact A_61' hS | exact A_62' hS | exact A_63' hS)); (exact len_of_ar (by first | assumption | exact N_a2' hS (by assumption) | exact N_a3' hS (by assumption) | exact N_a4' hS (by assumption) | exact N_a5' hS (by assumption) | exact N_a6' hS (by assumption) | exact N_a7' hS (by assumption) | exact N_a9' hS (by assumption) | exact N_a10' hS (by assumption) | exact A_630' hS | exact A_631' hS | exact A_632' hS | exact A_633' hS | exact A_635' hS | exact A_636' hS | exact A_637' hS | exact A_638' hS | exact A_639' hS | exact A_2' hS | exact A_55' hS | exact A_56' hS | exact A_57' hS | exact A_58' hS | exact A_59' hS | exact A_60' hS | exact A_61' hS | exact A_62' hS | exact A_63' hS)))
    | ((with_reducible refine st_rem ?_ ?_); first | decide | omega)
    | ((with_reducible refine st_div ?_ ?_); first | decide | omega)
    | ((with_reducible refine is_s (p' := k_J7_fill_53178) ?_ ?_); (exact rfl); refine gm_st2 (by decide) (Nat.le_of_ble_eq_true rfl) (sp_J7_fill_53178 hS (nx := 16) (by first | assumption | exact N_a2' hS (by assumption) | exact N_a3' hS (by assumption) | exact N_a4' hS (by assumption) | exact N_a5' hS (by assumption) | exact N_a6' hS (by assumption) | exact N_a7' hS (by assumption) | exact N_a9' hS (by assumption) | exact N_a10' hS (by assumption) | exact A_630' hS | exact A_631' hS | exact A_632' hS | exact A_633' hS | exact A_635' hS | exact A_636' hS | exact A_637' hS | exact A_638' hS | exact A_639' hS | exact A_2' hS | exact A_55' hS | exact A_56' hS | exact A_57' hS | exact A_58' hS | exact A_59' hS | exact A_60' hS | exact A_61' hS | exact A_62' hS | exact A_63' hS) (by decide)) ?_; dsimp only [gm_ps])
    | dsimp only [gm_step, gm_c, gm_s1, gm_s2, gm_kl, gm_ps, gm_wd, gm_w1, List.getElem?_cons_succ, List.getElem?_cons_zero, List.set_cons_succ, List.set_cons_zero, List.length_cons, List.length_nil, List.drop_succ_cons, List.drop_zero, List.take_succ_cons, List.take_zero, Nat.reduceAdd, Nat.reduceSub, Nat.reduceLeDiff])
  refine up_loop2 (α := gm_M × gm_V) (P := fun i x => repC x.1 a (pst N i) → (∀ v, 0 ≤ v → v < nd N → x.1 60 v = chF N i v) → (∀ v, 0 ≤ v → v < nd N → x.1 59 v = crF N i v) → (∀ c j, (c < a ∨ a + 51 ≤ c) → c ≠ 59 → c ≠ 60 → x.1 c j = m c j) → gm_wp (gm_sem MT ro (d + 3)) ro cd_X5_putIn (fun r1 S1 m1 => S1 = S ∧ (r1 = none ∧ repC m1 a (puA N) ∧ (∀ v, 0 ≤ v → v < nd N → m1 59 v = hrA (puA N) v) ∧ (∀ c j, (c < a ∨ a + 51 ≤ c) → c ≠ 59 → c ≠ 60 → m1 c j = m c j))) 6 [gA 54, gA a, gI i, x.2] [] S x.1) (a := 0) (N := n_sc N 5) (x := (flM m 60 (-1000000) ((16 : Nat) : Int), none)) h40.1 ?_ ?_ ?_ ?_ ?_ ?_
  · rintro ⟨mm, v3⟩ h1 hch hcw h3
    dsimp only at h1 hch hcw h3 ⊢
    have hm2 : mm a 2 = n_sc N 5 := h1.1.2.2.2.2
    rw [pst_end] at h1
    refine gm_hd rfl ?_
    repeat' (first
      | ((with_reducible refine gm_w0 ?_); refine gm_go rfl ?_)
      | ((with_reducible refine sw_cons (fun hc => ?_) (fun hc => ?_)) <;> try (exfalso; omega))
      | with_reducible refine sw_nil ?_
      | simp (disch := omega) only [w32_id, Int.tdiv_eq_ediv_of_nonneg, Int.tmod_eq_emod_of_nonneg, Int.add_zero]
      | simp only [hm2]
      | ((with_reducible refine st_getI ?_ ?_); first | assumption | exact N_is' hS (by assumption) | exact N_wis' hS (by assumption) | exact C_629' hS | exact N_lis' hS (by assumption) (by omega) (by omega) | exact C_0' hS | exact C_1' hS | exact C_54' hS | exact C_64' hS | exact C_116' hS)
      | ((with_reducible apply st_getR); (first | assumption | exact N_is' hS (by assumption) | exact N_wis' hS (by assumption) | exact C_629' hS | exact N_lis' hS (by assumption) (by omega) (by omega) | exact C_0' hS | exact C_1' hS | exact C_54' hS | exact C_64' hS | exact C_116' hS); (first | assumption | exact N_web' hS (by assumption) | exact N_letters' hS (by assumption) | exact N_golden' hS (by assumption) | exact N_logged' hS (by assumption) | exact N_open' hS (by assumption) | exact N_last' hS (by assumption) | exact N_beyond' hS (by assumption) | exact N_apart' hS (by assumption) | exact N_steps' hS (by assumption) | exact N_reached' hS (by assumption) | exact F_0_0' hS | exact F_0_1' hS | exact F_0_2' hS | exact F_0_3' hS | exact F_0_4' hS | exact F_0_5' hS | exact F_1_0' hS | exact F_54_0' hS | exact F_54_1' hS | exact F_54_4' hS | exact F_54_5' hS | exact F_54_6' hS | exact F_54_7' hS | exact F_54_8' hS | exact F_54_9' hS | exact F_54_10' hS | exact F_64_0' hS | exact F_64_1' hS | exact F_116_0' hS | exact F_629_0' hS | exact F_629_1' hS | exact F_629_2' hS | exact F_629_4' hS | exact F_629_5' hS | exact F_629_6' hS | exact F_629_15' hS | exact F_629_16' hS | exact F_629_18' hS | exact F_629_19' hS))
      | ((with_reducible refine st_putI ?_ ?_); first | assumption | exact N_is' hS (by assumption) | exact N_wis' hS (by assumption) | exact C_629' hS | exact N_lis' hS (by assumption) (by omega) (by omega) | exact C_0' hS | exact C_1' hS | exact C_54' hS | exact C_64' hS | exact C_116' hS)
      | ((with_reducible refine st_iald ?_ ?_); refine in_of (by first | assumption | exact N_a2' hS (by assumption) | exact N_a3' hS (by assumption) | exact N_a4' hS (by assumption) | exact N_a5' hS (by assumption) | exact N_a6' hS (by assumption) | exact N_a7' hS (by assumption) | exact N_a9' hS (by assumption) | exact N_a10' hS (by assumption) | exact A_630' hS | exact A_631' hS | exact A_632' hS | exact A_633' hS | exact A_635' hS | exact A_636' hS | exact A_637' hS | exact A_638' hS | exact A_639' hS | exact A_2' hS | exact A_55' hS | exact A_56' hS | exact A_57' hS | exact A_58' hS | exact A_59' hS | exact A_60' hS | exact A_61' hS | exact A_62' hS | exact A_63' hS) (by omega) (by omega))
      | ((with_reducible refine st_iast ?_ ?_); refine in_of (by first | assumption | exact N_a2' hS (by assumption) | exact N_a3' hS (by assumption) | exact N_a4' hS (by assumption) | exact N_a5' hS (by assumption) | exact N_a6' hS (by assumption) | exact N_a7' hS (by assumption) | exact N_a9' hS (by assumption) | exact N_a10' hS (by assumption) | exact A_630' hS | exact A_631' hS | exact A_632' hS | exact A_633' hS | exact A_635' hS | exact A_636' hS | exact A_637' hS | exact A_638' hS | exact A_639' hS | exact A_2' hS | exact A_55' hS | exact A_56' hS | exact A_57' hS | exact A_58' hS | exact A_59' hS | exact A_60' hS | exact A_61' hS | exact A_62' hS | exact A_63' hS) (by omega) (by omega))
      | ((with_reducible apply st_aald); (exact N_lin' hS (by assumption) (by omega) (by omega)); (exact N_lrf' hS (by assumption) (by omega) (by omega)))
      | ((with_reducible refine st_icmp (fun hc => ?_) (fun hc => ?_)) <;> (try dsimp only [gm_c] at hc) <;> (try simp only [gm_cmp_lt, gm_cmp_gt, gm_cmp_le, gm_cmp_ge, ite_0, ite_1, ne_eq, Classical.not_not] at hc) <;> try (first | (exfalso; omega) | exact absurd trivial hc))
      | ((with_reducible refine st_if (fun hc => ?_) (fun hc => ?_)) <;> (try dsimp only [gm_c] at hc) <;> (try simp only [gm_cmp_lt, gm_cmp_gt, gm_cmp_le, gm_cmp_ge, ite_0, ite_1, ne_eq, Classical.not_not] at hc) <;> try (first | (exfalso; omega) | exact absurd trivial hc))
      | ((with_reducible refine st_ret ?_ ?_); first | exact Or.inl rfl | exact Or.inr (Or.inl rfl) | exact Or.inr (Or.inr rfl))
      | ((with_reducible refine is_s (p' := 998) ?_ ?_); (exact rfl); refine st_copy (by first | assumption | exact N_a2' hS (by assumption) | exact N_a3' hS (by assumption) | exact N_a4' hS (by assumption) | exact N_a5' hS (by assumption) | exact N_a6' hS (by assumption) | exact N_a7' hS (by assumption) | exact N_a9' hS (by assumption) | exact N_a10' hS (by assumption) | exact A_630' hS | exact A_631' hS | exact A_632' hS | exact A_633' hS | exact A_635' hS | exact A_636' hS | exact A_637' hS | exact A_638' hS | exact A_639' hS | exact A_2' hS | exact A_55' hS | exact A_56' hS | exact A_57' hS | exact A_58' hS | exact A_59' hS | exact A_60' hS | exact A_61' hS | exact A_62' hS | exact A_63' hS) (by first | assumption | exact N_a2' hS (by assumption) | exact N_a3' hS (by assumption) | exact N_a4' hS (by assumption) | exact N_a5' hS (by assumption) | exact N_a6' hS (by assumption) | exact N_a7' hS (by assumption) | exact N_a9' hS (by assumption) | exact N_a10' hS (by assumption) | exact A_630' hS | exact A_631' hS | exact A_632' hS | exact A_633' hS | exact A_635' hS | exact A_636' hS | exact A_637' hS | exact A_638' hS | exact A_639' hS | exact A_2' hS | exact A_55' hS | exact A_56' hS | exact A_57' hS | exact A_58' hS | exact A_59' hS | exact A_60' hS | exact A_61' hS | exact A_62' hS | exact A_63' hS) (by omega) (by omega) (by omega) (by omega) (by omega) (Nat.le_of_ble_eq_true rfl) gm_999s ?_)
      | ((with_reducible refine is_s (p' := 997) ?_ ?_); (exact rfl); refine st_max (Nat.le_of_ble_eq_true rfl) gm_999s ?_)
      | ((with_reducible refine is_s (p' := 996) ?_ ?_); (exact rfl); refine st_min (Nat.le_of_ble_eq_true rfl) gm_999s ?_)
      | ((with_reducible apply st_alen); (refine is_of_ar (by first | assumption | exact N_a2' hS (by assumption) | exact N_a3' hS (by assumption) | exact N_a4' hS (by assumption) | exact N_a5' hS (by assumption) | exact N_a6' hS (by assumption) | exact N_a7' hS (by assumption) | exact N_a9' hS (by assumption) | exact N_a10' hS (by assumption) | exact A_630' hS | exact A_631' hS | exact A_632' hS | exact A_633' hS | exact A_635' hS | exact A_636' hS | exact A_637' hS | exact A_638' hS | exact A_639' hS | exact A_2' hS | exact A_55' hS | exact A_56' hS | exact A_57' hS | exact A_58' hS | exact A_59' hS | exact A_60' hS | exact A_61' hS | exact A_62' hS | exact A_63' hS)); (exact len_of_ar (by first | assumption | exact N_a2' hS (by assumption) | exact N_a3' hS (by assumption) | exact N_a4' hS (by assumption) | exact N_a5' hS (by assumption) | exact N_a6' hS (by assumption) | exact N_a7' hS (by assumption) | exact N_a9' hS (by assumption) | exact N_a10' hS (by assumption) | exact A_630' hS | exact A_631' hS | exact A_632' hS | exact A_633' hS | exact A_635' hS | exact A_636' hS | exact A_637' hS | exact A_638' hS | exact A_639' hS | exact A_2' hS | exact A_55' hS | exact A_56' hS | exact A_57' hS | exact A_58' hS | exact A_59' hS | exact A_60' hS | exact A_61' hS | exact A_62' hS | exact A_63' hS)))
      | ((with_reducible refine st_rem ?_ ?_); first | decide | omega)
      | ((with_reducible refine st_div ?_ ?_); first | decide | omega)
      | dsimp only [gm_step, gm_c, gm_s1, gm_s2, gm_kl, gm_ps, gm_wd, gm_w1, List.getElem?_cons_succ, List.getElem?_cons_zero, List.set_cons_succ, List.set_cons_zero, List.length_cons, List.length_nil, List.drop_succ_cons, List.drop_zero, List.take_succ_cons, List.take_zero, Nat.reduceAdd, Nat.reduceSub, Nat.reduceLeDiff])
    all_goals exact ⟨(by first | rfl | trivial), (by first | rfl | trivial), h1, fun v q1 q2 => by rw [hcw v q1 q2, hr_put hw], h3⟩
  · rintro i hi1 hi2 ih ⟨mm, v3⟩ h1 hch hcw h3
    dsimp only at h1 hch hcw h3 ⊢
    have ihg : ∀ mm' v, repC mm' a (pst N (i + 1)) → (∀ v, 0 ≤ v → v < nd N → mm' 60 v = chF N (i + 1) v) → (∀ v, 0 ≤ v → v < nd N → mm' 59 v = crF N (i + 1) v) → (∀ c j, (c < a ∨ a + 51 ≤ c) → c ≠ 59 → c ≠ 60 → mm' c j = m c j) → gm_wp (gm_sem MT ro (d + 3)) ro cd_X5_putIn (fun r1 S1 m1 => S1 = S ∧ (r1 = none ∧ repC m1 a (puA N) ∧ (∀ v, 0 ≤ v → v < nd N → m1 59 v = hrA (puA N) v) ∧ (∀ c j, (c < a ∨ a + 51 ≤ c) → c ≠ 59 → c ≠ 60 → m1 c j = m c j))) 6 [gA 54, gA a, gI (i + 1), v] [] S mm' := fun mm' v => ih (mm', v)
    clear ih
    have hm2 : mm a 2 = n_sc N 5 := h1.1.2.2.2.2
    have hlt := h1.2.2.2.2.2.2 i hi1 hi2
    rw [pst_le (Int.le_refl _)] at hlt
    have hLW := hw.2.2.2.2 i hi1 hi2
    have hsz : mm (a + 1) 0 = nd N := h1.1.1
    have e3 : mm (a + 11 + i) 3 = n_le N i 3 := hlt.1.2.2.2
    have hfr := hLW.1.2.1
    refine gm_hd rfl ?_
    by_cases hf : n_le N i 3 = 0
    · have hw4 := hLW.2.2.2.2.2.2.2 hf
      have e4 : mm (a + 11 + i) 4 = n_le N i 1 := by
        have := hlt.2.1
        rw [if_neg (by omega)] at this
        rw [this]; exact hw4.1
      have hlk : (if 0 ≤ n_le N i 1 ∧ n_le N i 1 < mm (a + 1) 0 then bcE (mm (a + 2) (n_le N i 1)) else 0) = lkA N (n_le N i 1) := by
        rw [hsz, if_pos hfr, (h1.2.1 _ hfr.1 hfr.2).1]
        have := (hw.2.1 _ hfr.1 hfr.2).1
        exact bc_onI this.1 this.2
      have hlb := lkA_bd hw hfr.1 hfr.2
      have hhb : 0 ≤ hrA N (n_le N i 1) ∧ hrA N (n_le N i 1) ≤ n_sc N 5 := cntM_bd _ h40.1
      have hc60 := hch _ hfr.1 hfr.2
      have hc59 := hcw _ hfr.1 hfr.2
      have hne : ∀ v, v ≠ n_le N i 1 → fsA N v ≠ i := fun v hv z => by
        rcases fsA_c h40.1 v with ⟨y, -⟩ | ⟨-, y, -⟩
        · omega
        · rw [z] at y; exact hv y.2.symm
      have hfs : 0 ≤ fsA N (n_le N i 1) ∧ fsA N (n_le N i 1) ≤ i := by
        rcases fsA_c h40.1 (n_le N i 1) with ⟨-, y⟩ | ⟨y1, -, y⟩
        · exact absurd ⟨hf, rfl⟩ (y i hi1 hi2)
        · refine ⟨y1.1, ?_⟩
          by_cases z : i < fsA N (n_le N i 1)
          · exact absurd ⟨hf, rfl⟩ (y i hi1 z)
          · omega
      have hcb : 0 ≤ crF N i (n_le N i 1) ∧ crF N i (n_le N i 1) ≤ 41 := by
        unfold crF
        split <;> omega
      rw [← hc59] at hcb
      by_cases hz : fsA N (n_le N i 1) = i
      · have hcz : mm 60 (n_le N i 1) = -1000000 := by rw [hc60]; unfold chF; rw [if_neg (by omega)]
        have hcz9 : mm 59 (n_le N i 1) = hrA N (n_le N i 1) := by rw [hc59]; unfold crF; rw [if_neg (by omega)]
        repeat' (first
          | ((with_reducible refine gm_w0 ?_); refine gm_go rfl ?_)
          | ((with_reducible refine sw_cons (fun hc => ?_) (fun hc => ?_)) <;> try (exfalso; omega))
          | with_reducible refine sw_nil ?_
          | simp (disch := omega) only [w32_id, Int.tdiv_eq_ediv_of_nonneg, Int.tmod_eq_emod_of_nonneg, Int.add_zero]
          | simp (disch := omega) only [hm2, e3, e4, gm_rd_a, gm_rd_i, hlk]
          | ((with_reducible refine st_getI ?_ ?_); first | assumption | exact N_is' hS (by assumption) | exact N_wis' hS (by assumption) | exact C_629' hS | exact N_lis' hS (by assumption) (by omega) (by omega) | exact C_0' hS | exact C_1' hS | exact C_54' hS | exact C_64' hS | exact C_116' hS)
          | ((with_reducible apply st_getR); (first | assumption | exact N_is' hS (by assumption) | exact N_wis' hS (by assumption) | exact C_629' hS | exact N_lis' hS (by assumption) (by omega) (by omega) | exact C_0' hS | exact C_1' hS | exact C_54' hS | exact C_64' hS | exact C_116' hS); (first | assumption | exact N_web' hS (by assumption) | exact N_letters' hS (by assumption) | exact N_golden' hS (by assumption) | exact N_logged' hS (by assumption) | exact N_open' hS (by assumption) | exact N_last' hS (by assumption) | exact N_beyond' hS (by assumption) | exact N_apart' hS (by assumption) | exact N_steps' hS (by assumption) | exact N_reached' hS (by assumption) | exact F_0_0' hS | exact F_0_1' hS | exact F_0_2' hS | exact F_0_3' hS | exact F_0_4' hS | exact F_0_5' hS | exact F_1_0' hS | exact F_54_0' hS | exact F_54_1' hS | exact F_54_4' hS | exact F_54_5' hS | exact F_54_6' hS | exact F_54_7' hS | exact F_54_8' hS | exact F_54_9' hS | exact F_54_10' hS | exact F_64_0' hS | exact F_64_1' hS | exact F_116_0' hS | exact F_629_0' hS | exact F_629_1' hS | exact F_629_2' hS | exact F_629_4' hS | exact F_629_5' hS | exact F_629_6' hS | exact F_629_15' hS | exact F_629_16' hS | exact F_629_18' hS | exact F_629_19' hS))
          | ((with_reducible refine st_putI ?_ ?_); first | assumption | exact N_is' hS (by assumption) | exact N_wis' hS (by assumption) | exact C_629' hS | exact N_lis' hS (by assumption) (by omega) (by omega) | exact C_0' hS | exact C_1' hS | exact C_54' hS | exact C_64' hS | exact C_116' hS)
          | ((with_reducible refine st_iald ?_ ?_); refine in_of (by first | assumption | exact N_a2' hS (by assumption) | exact N_a3' hS (by assumption) | exact N_a4' hS (by assumption) | exact N_a5' hS (by assumption) | exact N_a6' hS (by assumption) | exact N_a7' hS (by assumption) | exact N_a9' hS (by assumption) | exact N_a10' hS (by assumption) | exact A_630' hS | exact A_631' hS | exact A_632' hS | exact A_633' hS | exact A_635' hS | exact A_636' hS | exact A_637' hS | exact A_638' hS | exact A_639' hS | exact A_2' hS | exact A_55' hS | exact A_56' hS | exact A_57' hS | exact A_58' hS | exact A_59' hS | exact A_60' hS | exact A_61' hS | exact A_62' hS | exact A_63' hS) (by omega) (by omega))
          | ((with_reducible refine st_iast ?_ ?_); refine in_of (by first | assumption | exact N_a2' hS (by assumption) | exact N_a3' hS (by assumption) | exact N_a4' hS (by assumption) | exact N_a5' hS (by assumption) | exact N_a6' hS (by assumption) | exact N_a7' hS (by assumption) | exact N_a9' hS (by assumption) | exact N_a10' hS (by assumption) | exact A_630' hS | exact A_631' hS | exact A_632' hS | exact A_633' hS | exact A_635' hS | exact A_636' hS | exact A_637' hS | exact A_638' hS | exact A_639' hS | exact A_2' hS | exact A_55' hS | exact A_56' hS | exact A_57' hS | exact A_58' hS | exact A_59' hS | exact A_60' hS | exact A_61' hS | exact A_62' hS | exact A_63' hS) (by omega) (by omega))
          | ((with_reducible apply st_aald); (exact N_lin' hS (by assumption) (by omega) (by omega)); (exact N_lrf' hS (by assumption) (by omega) (by omega)))
          | ((with_reducible refine st_icmp (fun hc => ?_) (fun hc => ?_)) <;> (try dsimp only [gm_c] at hc) <;> (try simp only [gm_cmp_lt, gm_cmp_gt, gm_cmp_le, gm_cmp_ge, ite_0, ite_1, ne_eq, Classical.not_not] at hc) <;> try (first | (exfalso; omega) | exact absurd trivial hc))
          | ((with_reducible refine st_if (fun hc => ?_) (fun hc => ?_)) <;> (try dsimp only [gm_c] at hc) <;> (try simp only [gm_cmp_lt, gm_cmp_gt, gm_cmp_le, gm_cmp_ge, ite_0, ite_1, ne_eq, Classical.not_not] at hc) <;> try (first | (exfalso; omega) | exact absurd trivial hc))
          | ((with_reducible refine st_ret ?_ ?_); first | exact Or.inl rfl | exact Or.inr (Or.inl rfl) | exact Or.inr (Or.inr rfl))
          | ((with_reducible refine is_s (p' := 998) ?_ ?_); (exact rfl); refine st_copy (by first | assumption | exact N_a2' hS (by assumption) | exact N_a3' hS (by assumption) | exact N_a4' hS (by assumption) | exact N_a5' hS (by assumption) | exact N_a6' hS (by assumption) | exact N_a7' hS (by assumption) | exact N_a9' hS (by assumption) | exact N_a10' hS (by assumption) | exact A_630' hS | exact A_631' hS | exact A_632' hS | exact A_633' hS | exact A_635' hS | exact A_636' hS | exact A_637' hS | exact A_638' hS | exact A_639' hS | exact A_2' hS | exact A_55' hS | exact A_56' hS | exact A_57' hS | exact A_58' hS | exact A_59' hS | exact A_60' hS | exact A_61' hS | exact A_62' hS | exact A_63' hS) (by first | assumption | exact N_a2' hS (by assumption) | exact N_a3' hS (by assumption) | exact N_a4' hS (by assumption) | exact N_a5' hS (by assumption) | exact N_a6' hS (by assumption) | exact N_a7' hS (by assumption) | exact N_a9' hS (by assumption) | exact N_a10' hS (by assumption) | exact A_630' hS | exact A_631' hS | exact A_632' hS | exact A_633' hS | exact A_635' hS | exact A_636' hS | exact A_637' hS | exact A_638' hS | exact A_639' hS | exact A_2' hS | exact A_55' hS | exact A_56' hS | exact A_57' hS | exact A_58' hS | exact A_59' hS | exact A_60' hS | exact A_61' hS | exact A_62' hS | exact A_63' hS) (by omega) (by omega) (by omega) (by omega) (by omega) (Nat.le_of_ble_eq_true rfl) gm_999s ?_)
          | ((with_reducible refine is_s (p' := 997) ?_ ?_); (exact rfl); refine st_max (Nat.le_of_ble_eq_true rfl) gm_999s ?_)
          | ((with_reducible refine is_s (p' := 996) ?_ ?_); (exact rfl); refine st_min (Nat.le_of_ble_eq_true rfl) gm_999s ?_)
          | ((with_reducible apply st_alen); (refine is_of_ar (by first | assumption | exact N_a2' hS (by assumption) | exact N_a3' hS (by assumption) | exact N_a4' hS (by assumption) | exact N_a5' hS (by assumption) | exact N_a6' hS (by assumption) | exact N_a7' hS (by assumption) | exact N_a9' hS (by assumption) | exact N_a10' hS (by assumption) | exact A_630' hS | exact A_631' hS | exact A_632' hS | exact A_633' hS | exact A_635' hS | exact A_636' hS | exact A_637' hS | exact A_638' hS | exact A_639' hS | exact A_2' hS | exact A_55' hS | exact A_56' hS | exact A_57' hS | exact A_58' hS | exact A_59' hS | exact A_60' hS | exact A_61' hS | exact A_62' hS | exact A_63' hS)); (exact len_of_ar (by first | assumption | exact N_a2' hS (by assumption) | exact N_a3' hS (by assumption) | exact N_a4' hS (by assumption) | exact N_a5' hS (by assumption) | exact N_a6' hS (by assumption) | exact N_a7' hS (by assumption) | exact N_a9' hS (by assumption) | exact N_a10' hS (by assumption) | exact A_630' hS | exact A_631' hS | exact A_632' hS | exact A_633' hS | exact A_635' hS | exact A_636' hS | exact A_637' hS | exact A_638' hS | exact A_639' hS | exact A_2' hS | exact A_55' hS | exact A_56' hS | exact A_57' hS | exact A_58' hS | exact A_59' hS | exact A_60' hS | exact A_61' hS | exact A_62' hS | exact A_63' hS)))
          | ((with_reducible refine st_rem ?_ ?_); first | decide | omega)
          | ((with_reducible refine st_div ?_ ?_); first | decide | omega)
          | ((with_reducible refine is_v (p' := k_X6_linksOf) ?_ ?_); (exact rfl); refine gm_vt2 (Nat.le_of_ble_eq_true rfl) (by first | assumption | exact N_is' hS (by assumption) | exact N_wis' hS (by assumption) | exact C_629' hS | exact N_lis' hS (by assumption) (by omega) (by omega) | exact C_0' hS | exact C_1' hS | exact C_54' hS | exact C_64' hS | exact C_116' hS) (sp_X6_linksOf hS (by assumption) (by first | omega | (simp (disch := omega) only [gm_rd_a]; omega))) ?_; dsimp only [gm_ps])
          | dsimp only [gm_step, gm_c, gm_s1, gm_s2, gm_kl, gm_ps, gm_wd, gm_w1, List.getElem?_cons_succ, List.getElem?_cons_zero, List.set_cons_succ, List.set_cons_zero, List.length_cons, List.length_nil, List.drop_succ_cons, List.drop_zero, List.take_succ_cons, List.take_zero, Nat.reduceAdd, Nat.reduceSub, Nat.reduceLeDiff])
        · have hP : puP N i = false := decide_eq_false (fun z => by omega)
          rw [pst_skip hP] at ihg
          refine ihg _ _ (repC_fr h1 h40.2 (fun c q1 q2 j => gm_rd_a (by omega))) (fun v q1 q2 => ?_) (fun v q1 q2 => ?_) (fun c j q1 q2 q3 => by rw [gm_rd_a q3]; exact h3 c j q1 q2 q3)
          · by_cases hv : v = n_le N i 1
            · rw [hv, gm_rd_s]; unfold chF; rw [hz, if_pos (by omega)]
            · rw [gm_rd_i hv, chF_s (hne v hv)]; exact hch v q1 q2
          · rw [gm_rd_a (by omega)]
            by_cases hv : v = n_le N i 1
            · rw [hv, hcz9]; unfold crF; rw [if_neg (by omega)]
            · rw [crF_s (hne v hv)]; exact hcw v q1 q2
        · have hP : puP N i = true := decide_eq_true ⟨⟨hi1, hi2⟩, hf, hz, by omega⟩
          have z0 : repC (gm_up mm (a + 11 + i) 3 1) a (pst N (i + 1)) := by
            rw [← pst_next hP]
            refine repC_let h1 ⟨hi1, hi2⟩ (fun c hc j => gm_rd_a hc) ?_
            obtain ⟨⟨x0, x1, x2, x3⟩, x4, x5, ⟨x6, x7, x8⟩, x9, x10⟩ := hlt
            rw [if_neg (by omega)] at x4 x5
            unfold ltr puU
            simp [gm_up, x0, x1, x2, x4, x5, x6, x7, x8, x10, hw4.2.1]
          refine ihg _ _ (repC_fr z0 h40.2 (fun c q1 q2 j => ?_)) (fun v q1 q2 => ?_) (fun v q1 q2 => ?_) (fun c j q1 q2 q3 => ?_)
          · rw [gm_rd_a (by omega)]
            by_cases hc : c = a + 11 + i ∧ j = 3
            · rw [hc.1, hc.2, gm_rd_s, gm_rd_s]
            · unfold gm_up
              rw [if_neg hc, if_neg hc, if_neg (by omega)]
          · rw [gm_rd_a (by omega), gm_rd_a (by omega)]
            by_cases hv : v = n_le N i 1
            · rw [hv, gm_rd_s]; unfold chF; rw [hz, if_pos (by omega)]
            · rw [gm_rd_i hv, chF_s (hne v hv)]; exact hch v q1 q2
          · by_cases hv : v = n_le N i 1
            · rw [hv, gm_rd_s, hcz9]; unfold crF; rw [if_pos (by omega)]
            · rw [gm_rd_i hv, gm_rd_a (by omega), gm_rd_a (by omega), crF_s (hne v hv)]; exact hcw v q1 q2
          · rw [gm_rd_a q2, gm_rd_a (by omega), gm_rd_a q3]; exact h3 c j q1 q2 q3
      · have hcz : mm 60 (n_le N i 1) ≠ -1000000 := by rw [hc60]; unfold chF; rw [if_pos (by omega)]; omega
        have hP : puP N i = false := decide_eq_false (fun z => by omega)
        have hall : ∀ v, fsA N v ≠ i := fun v => by
          by_cases hv : v = n_le N i 1
          · rw [hv]; exact hz
          · exact hne v hv
        repeat' (first
          | ((with_reducible refine gm_w0 ?_); refine gm_go rfl ?_)
          | ((with_reducible refine sw_cons (fun hc => ?_) (fun hc => ?_)) <;> try (exfalso; omega))
          | with_reducible refine sw_nil ?_
          | simp (disch := omega) only [w32_id, Int.tdiv_eq_ediv_of_nonneg, Int.tmod_eq_emod_of_nonneg, Int.add_zero]
          | simp (disch := omega) only [hm2, e3, e4, gm_rd_a, gm_rd_i, hlk]
          | ((with_reducible refine st_getI ?_ ?_); first | assumption | exact N_is' hS (by assumption) | exact N_wis' hS (by assumption) | exact C_629' hS | exact N_lis' hS (by assumption) (by omega) (by omega) | exact C_0' hS | exact C_1' hS | exact C_54' hS | exact C_64' hS | exact C_116' hS)
          | ((with_reducible apply st_getR); (first | assumption | exact N_is' hS (by assumption) | exact N_wis' hS (by assumption) | exact C_629' hS | exact N_lis' hS (by assumption) (by omega) (by omega) | exact C_0' hS | exact C_1' hS | exact C_54' hS | exact C_64' hS | exact C_116' hS); (first | assumption | exact N_web' hS (by assumption) | exact N_letters' hS (by assumption) | exact N_golden' hS (by assumption) | exact N_logged' hS (by assumption) | exact N_open' hS (by assumption) | exact N_last' hS (by assumption) | exact N_beyond' hS (by assumption) | exact N_apart' hS (by assumption) | exact N_steps' hS (by assumption) | exact N_reached' hS (by assumption) | exact F_0_0' hS | exact F_0_1' hS | exact F_0_2' hS | exact F_0_3' hS | exact F_0_4' hS | exact F_0_5' hS | exact F_1_0' hS | exact F_54_0' hS | exact F_54_1' hS | exact F_54_4' hS | exact F_54_5' hS | exact F_54_6' hS | exact F_54_7' hS | exact F_54_8' hS | exact F_54_9' hS | exact F_54_10' hS | exact F_64_0' hS | exact F_64_1' hS | exact F_116_0' hS | exact F_629_0' hS | exact F_629_1' hS | exact F_629_2' hS | exact F_629_4' hS | exact F_629_5' hS | exact F_629_6' hS | exact F_629_15' hS | exact F_629_16' hS | exact F_629_18' hS | exact F_629_19' hS))
          | ((with_reducible refine st_putI ?_ ?_); first | assumption | exact N_is' hS (by assumption) | exact N_wis' hS (by assumption) | exact C_629' hS | exact N_lis' hS (by assumption) (by omega) (by omega) | exact C_0' hS | exact C_1' hS | exact C_54' hS | exact C_64' hS | exact C_116' hS)
          | ((with_reducible refine st_iald ?_ ?_); refine in_of (by first | assumption | exact N_a2' hS (by assumption) | exact N_a3' hS (by assumption) | exact N_a4' hS (by assumption) | exact N_a5' hS (by assumption) | exact N_a6' hS (by assumption) | exact N_a7' hS (by assumption) | exact N_a9' hS (by assumption) | exact N_a10' hS (by assumption) | exact A_630' hS | exact A_631' hS | exact A_632' hS | exact A_633' hS | exact A_635' hS | exact A_636' hS | exact A_637' hS | exact A_638' hS | exact A_639' hS | exact A_2' hS | exact A_55' hS | exact A_56' hS | exact A_57' hS | exact A_58' hS | exact A_59' hS | exact A_60' hS | exact A_61' hS | exact A_62' hS | exact A_63' hS) (by omega) (by omega))
          | ((with_reducible refine st_iast ?_ ?_); refine in_of (by first | assumption | exact N_a2' hS (by assumption) | exact N_a3' hS (by assumption) | exact N_a4' hS (by assumption) | exact N_a5' hS (by assumption) | exact N_a6' hS (by assumption) | exact N_a7' hS (by assumption) | exact N_a9' hS (by assumption) | exact N_a10' hS (by assumption) | exact A_630' hS | exact A_631' hS | exact A_632' hS | exact A_633' hS | exact A_635' hS | exact A_636' hS | exact A_637' hS | exact A_638' hS | exact A_639' hS | exact A_2' hS | exact A_55' hS | exact A_56' hS | exact A_57' hS | exact A_58' hS | exact A_59' hS | exact A_60' hS | exact A_61' hS | exact A_62' hS | exact A_63' hS) (by omega) (by omega))
          | ((with_reducible apply st_aald); (exact N_lin' hS (by assumption) (by omega) (by omega)); (exact N_lrf' hS (by assumption) (by omega) (by omega)))
          | ((with_reducible refine st_icmp (fun hc => ?_) (fun hc => ?_)) <;> (try dsimp only [gm_c] at hc) <;> (try simp only [gm_cmp_lt, gm_cmp_gt, gm_cmp_le, gm_cmp_ge, ite_0, ite_1, ne_eq, Classical.not_not] at hc) <;> try (first | (exfalso; omega) | exact absurd trivial hc))
          | ((with_reducible refine st_if (fun hc => ?_) (fun hc => ?_)) <;> (try dsimp only [gm_c] at hc) <;> (try simp only [gm_cmp_lt, gm_cmp_gt, gm_cmp_le, gm_cmp_ge, ite_0, ite_1, ne_eq, Classical.not_not] at hc) <;> try (first | (exfalso; omega) | exact absurd trivial hc))
          | ((with_reducible refine st_ret ?_ ?_); first | exact Or.inl rfl | exact Or.inr (Or.inl rfl) | exact Or.inr (Or.inr rfl))
          | ((with_reducible refine is_s (p' := 998) ?_ ?_); (exact rfl); refine st_copy (by first | assumption | exact N_a2' hS (by assumption) | exact N_a3' hS (by assumption) | exact N_a4' hS (by assumption) | exact N_a5' hS (by assumption) | exact N_a6' hS (by assumption) | exact N_a7' hS (by assumption) | exact N_a9' hS (by assumption) | exact N_a10' hS (by assumption) | exact A_630' hS | exact A_631' hS | exact A_632' hS | exact A_633' hS | exact A_635' hS | exact A_636' hS | exact A_637' hS | exact A_638' hS | exact A_639' hS | exact A_2' hS | exact A_55' hS | exact A_56' hS | exact A_57' hS | exact A_58' hS | exact A_59' hS | exact A_60' hS | exact A_61' hS | exact A_62' hS | exact A_63' hS) (by first | assumption | exact N_a2' hS (by assumption) | exact N_a3' hS (by assumption) | exact N_a4' hS (by assumption) | exact N_a5' hS (by assumption) | exact N_a6' hS (by assumption) | exact N_a7' hS (by assumption) | exact N_a9' hS (by assumption) | exact N_a10' hS (by assumption) | exact A_630' hS | exact A_631' hS | exact A_632' hS | exact A_633' hS | exact A_635' hS | exact A_636' hS | exact A_637' hS | exact A_638' hS | exact A_639' hS | exact A_2' hS | exact A_55' hS | exact A_56' hS | exact A_57' hS | exact A_58' hS | exact A_59' hS | exact A_60' hS | exact A_61' hS | exact A_62' hS | exact A_63' hS) (by omega) (by omega) (by omega) (by omega) (by omega) (Nat.le_of_ble_eq_true rfl) gm_999s ?_)
          | ((with_reducible refine is_s (p' := 997) ?_ ?_); (exact rfl); refine st_max (Nat.le_of_ble_eq_true rfl) gm_999s ?_)
          | ((with_reducible refine is_s (p' := 996) ?_ ?_); (exact rfl); refine st_min (Nat.le_of_ble_eq_true rfl) gm_999s ?_)
          | ((with_reducible apply st_alen); (refine is_of_ar (by first | assumption | exact N_a2' hS (by assumption) | exact N_a3' hS (by assumption) | exact N_a4' hS (by assumption) | exact N_a5' hS (by assumption) | exact N_a6' hS (by assumption) | exact N_a7' hS (by assumption) | exact N_a9' hS (by assumption) | exact N_a10' hS (by assumption) | exact A_630' hS | exact A_631' hS | exact A_632' hS | exact A_633' hS | exact A_635' hS | exact A_636' hS | exact A_637' hS | exact A_638' hS | exact A_639' hS | exact A_2' hS | exact A_55' hS | exact A_56' hS | exact A_57' hS | exact A_58' hS | exact A_59' hS | exact A_60' hS | exact A_61' hS | exact A_62' hS | exact A_63' hS)); (exact len_of_ar (by first | assumption | exact N_a2' hS (by assumption) | exact N_a3' hS (by assumption) | exact N_a4' hS (by assumption) | exact N_a5' hS (by assumption) | exact N_a6' hS (by assumption) | exact N_a7' hS (by assumption) | exact N_a9' hS (by assumption) | exact N_a10' hS (by assumption) | exact A_630' hS | exact A_631' hS | exact A_632' hS | exact A_633' hS | exact A_635' hS | exact A_636' hS | exact A_637' hS | exact A_638' hS | exact A_639' hS | exact A_2' hS | exact A_55' hS | exact A_56' hS | exact A_57' hS | exact A_58' hS | exact A_59' hS | exact A_60' hS | exact A_61' hS | exact A_62' hS | exact A_63' hS)))
          | ((with_reducible refine st_rem ?_ ?_); first | decide | omega)
          | ((with_reducible refine st_div ?_ ?_); first | decide | omega)
          | ((with_reducible refine is_v (p' := k_X6_linksOf) ?_ ?_); (exact rfl); refine gm_vt2 (Nat.le_of_ble_eq_true rfl) (by first | assumption | exact N_is' hS (by assumption) | exact N_wis' hS (by assumption) | exact C_629' hS | exact N_lis' hS (by assumption) (by omega) (by omega) | exact C_0' hS | exact C_1' hS | exact C_54' hS | exact C_64' hS | exact C_116' hS) (sp_X6_linksOf hS (by assumption) (by first | omega | (simp (disch := omega) only [gm_rd_a]; omega))) ?_; dsimp only [gm_ps])
          | dsimp only [gm_step, gm_c, gm_s1, gm_s2, gm_kl, gm_ps, gm_wd, gm_w1, List.getElem?_cons_succ, List.getElem?_cons_zero, List.set_cons_succ, List.set_cons_zero, List.length_cons, List.length_nil, List.drop_succ_cons, List.drop_zero, List.take_succ_cons, List.take_zero, Nat.reduceAdd, Nat.reduceSub, Nat.reduceLeDiff])
        all_goals (
          rw [pst_skip hP] at ihg
          exact ihg _ _ h1 (fun v q1 q2 => by rw [chF_s (hall v)]; exact hch v q1 q2) (fun v q1 q2 => by rw [crF_s (hall v)]; exact hcw v q1 q2) h3)
    · have hP : puP N i = false := decide_eq_false (fun z => hf z.2.1)
      have hall : ∀ v, fsA N v ≠ i := fun v z => by
        rcases fsA_c h40.1 v with ⟨y, -⟩ | ⟨-, y, -⟩
        · omega
        · rw [z] at y; exact hf y.1
      have e4 := e3
      have hlk := e3
      repeat' (first
          | ((with_reducible refine gm_w0 ?_); refine gm_go rfl ?_)
          | ((with_reducible refine sw_cons (fun hc => ?_) (fun hc => ?_)) <;> try (exfalso; omega))
          | with_reducible refine sw_nil ?_
          | simp (disch := omega) only [w32_id, Int.tdiv_eq_ediv_of_nonneg, Int.tmod_eq_emod_of_nonneg, Int.add_zero]
          | simp (disch := omega) only [hm2, e3, e4, gm_rd_a, gm_rd_i, hlk]
          | ((with_reducible refine st_getI ?_ ?_); first | assumption | exact N_is' hS (by assumption) | exact N_wis' hS (by assumption) | exact C_629' hS | exact N_lis' hS (by assumption) (by omega) (by omega) | exact C_0' hS | exact C_1' hS | exact C_54' hS | exact C_64' hS | exact C_116' hS)
          | ((with_reducible apply st_getR); (first | assumption | exact N_is' hS (by assumption) | exact N_wis' hS (by assumption) | exact C_629' hS | exact N_lis' hS (by assumption) (by omega) (by omega) | exact C_0' hS | exact C_1' hS | exact C_54' hS | exact C_64' hS | exact C_116' hS); (first | assumption | exact N_web' hS (by assumption) | exact N_letters' hS (by assumption) | exact N_golden' hS (by assumption) | exact N_logged' hS (by assumption) | exact N_open' hS (by assumption) | exact N_last' hS (by assumption) | exact N_beyond' hS (by assumption) | exact N_apart' hS (by assumption) | exact N_steps' hS (by assumption) | exact N_reached' hS (by assumption) | exact F_0_0' hS | exact F_0_1' hS | exact F_0_2' hS | exact F_0_3' hS | exact F_0_4' hS | exact F_0_5' hS | exact F_1_0' hS | exact F_54_0' hS | exact F_54_1' hS | exact F_54_4' hS | exact F_54_5' hS | exact F_54_6' hS | exact F_54_7' hS | exact F_54_8' hS | exact F_54_9' hS | exact F_54_10' hS | exact F_64_0' hS | exact F_64_1' hS | exact F_116_0' hS | exact F_629_0' hS | exact F_629_1' hS | exact F_629_2' hS | exact F_629_4' hS | exact F_629_5' hS | exact F_629_6' hS | exact F_629_15' hS | exact F_629_16' hS | exact F_629_18' hS | exact F_629_19' hS))
          | ((with_reducible refine st_putI ?_ ?_); first | assumption | exact N_is' hS (by assumption) | exact N_wis' hS (by assumption) | exact C_629' hS | exact N_lis' hS (by assumption) (by omega) (by omega) | exact C_0' hS | exact C_1' hS | exact C_54' hS | exact C_64' hS | exact C_116' hS)
          | ((with_reducible refine st_iald ?_ ?_); refine in_of (by first | assumption | exact N_a2' hS (by assumption) | exact N_a3' hS (by assumption) | exact N_a4' hS (by assumption) | exact N_a5' hS (by assumption) | exact N_a6' hS (by assumption) | exact N_a7' hS (by assumption) | exact N_a9' hS (by assumption) | exact N_a10' hS (by assumption) | exact A_630' hS | exact A_631' hS | exact A_632' hS | exact A_633' hS | exact A_635' hS | exact A_636' hS | exact A_637' hS | exact A_638' hS | exact A_639' hS | exact A_2' hS | exact A_55' hS | exact A_56' hS | exact A_57' hS | exact A_58' hS | exact A_59' hS | exact A_60' hS | exact A_61' hS | exact A_62' hS | exact A_63' hS) (by omega) (by omega))
          | ((with_reducible refine st_iast ?_ ?_); refine in_of (by first | assumption | exact N_a2' hS (by assumption) | exact N_a3' hS (by assumption) | exact N_a4' hS (by assumption) | exact N_a5' hS (by assumption) | exact N_a6' hS (by assumption) | exact N_a7' hS (by assumption) | exact N_a9' hS (by assumption) | exact N_a10' hS (by assumption) | exact A_630' hS | exact A_631' hS | exact A_632' hS | exact A_633' hS | exact A_635' hS | exact A_636' hS | exact A_637' hS | exact A_638' hS | exact A_639' hS | exact A_2' hS | exact A_55' hS | exact A_56' hS | exact A_57' hS | exact A_58' hS | exact A_59' hS | exact A_60' hS | exact A_61' hS | exact A_62' hS | exact A_63' hS) (by omega) (by omega))
          | ((with_reducible apply st_aald); (exact N_lin' hS (by assumption) (by omega) (by omega)); (exact N_lrf' hS (by assumption) (by omega) (by omega)))
          | ((with_reducible refine st_icmp (fun hc => ?_) (fun hc => ?_)) <;> (try dsimp only [gm_c] at hc) <;> (try simp only [gm_cmp_lt, gm_cmp_gt, gm_cmp_le, gm_cmp_ge, ite_0, ite_1, ne_eq, Classical.not_not] at hc) <;> try (first | (exfalso; omega) | exact absurd trivial hc))
          | ((with_reducible refine st_if (fun hc => ?_) (fun hc => ?_)) <;> (try dsimp only [gm_c] at hc) <;> (try simp only [gm_cmp_lt, gm_cmp_gt, gm_cmp_le, gm_cmp_ge, ite_0, ite_1, ne_eq, Classical.not_not] at hc) <;> try (first | (exfalso; omega) | exact absurd trivial hc))
          | ((with_reducible refine st_ret ?_ ?_); first | exact Or.inl rfl | exact Or.inr (Or.inl rfl) | exact Or.inr (Or.inr rfl))
          | ((with_reducible refine is_s (p' := 998) ?_ ?_); (exact rfl); refine st_copy (by first | assumption | exact N_a2' hS (by assumption) | exact N_a3' hS (by assumption) | exact N_a4' hS (by assumption) | exact N_a5' hS (by assumption) | exact N_a6' hS (by assumption) | exact N_a7' hS (by assumption) | exact N_a9' hS (by assumption) | exact N_a10' hS (by assumption) | exact A_630' hS | exact A_631' hS | exact A_632' hS | exact A_633' hS | exact A_635' hS | exact A_636' hS | exact A_637' hS | exact A_638' hS | exact A_639' hS | exact A_2' hS | exact A_55' hS | exact A_56' hS | exact A_57' hS | exact A_58' hS | exact A_59' hS | exact A_60' hS | exact A_61' hS | exact A_62' hS | exact A_63' hS) (by first | assumption | exact N_a2' hS (by assumption) | exact N_a3' hS (by assumption) | exact N_a4' hS (by assumption) | exact N_a5' hS (by assumption) | exact N_a6' hS (by assumption) | exact N_a7' hS (by assumption) | exact N_a9' hS (by assumption) | exact N_a10' hS (by assumption) | exact A_630' hS | exact A_631' hS | exact A_632' hS | exact A_633' hS | exact A_635' hS | exact A_636' hS | exact A_637' hS | exact A_638' hS | exact A_639' hS | exact A_2' hS | exact A_55' hS | exact A_56' hS | exact A_57' hS | exact A_58' hS | exact A_59' hS | exact A_60' hS | exact A_61' hS | exact A_62' hS | exact A_63' hS) (by omega) (by omega) (by omega) (by omega) (by omega) (Nat.le_of_ble_eq_true rfl) gm_999s ?_)
          | ((with_reducible refine is_s (p' := 997) ?_ ?_); (exact rfl); refine st_max (Nat.le_of_ble_eq_true rfl) gm_999s ?_)
          | ((with_reducible refine is_s (p' := 996) ?_ ?_); (exact rfl); refine st_min (Nat.le_of_ble_eq_true rfl) gm_999s ?_)
          | ((with_reducible apply st_alen); (refine is_of_ar (by first | assumption | exact N_a2' hS (by assumption) | exact N_a3' hS (by assumption) | exact N_a4' hS (by assumption) | exact N_a5' hS (by assumption) | exact N_a6' hS (by assumption) | exact N_a7' hS (by assumption) | exact N_a9' hS (by assumption) | exact N_a10' hS (by assumption) | exact A_630' hS | exact A_631' hS | exact A_632' hS | exact A_633' hS | exact A_635' hS | exact A_636' hS | exact A_637' hS | exact A_638' hS | exact A_639' hS | exact A_2' hS | exact A_55' hS | exact A_56' hS | exact A_57' hS | exact A_58' hS | exact A_59' hS | exact A_60' hS | exact A_61' hS | exact A_62' hS | exact A_63' hS)); (exact len_of_ar (by first | assumption | exact N_a2' hS (by assumption) | exact N_a3' hS (by assumption) | exact N_a4' hS (by assumption) | exact N_a5' hS (by assumption) | exact N_a6' hS (by assumption) | exact N_a7' hS (by assumption) | exact N_a9' hS (by assumption) | exact N_a10' hS (by assumption) | exact A_630' hS | exact A_631' hS | exact A_632' hS | exact A_633' hS | exact A_635' hS | exact A_636' hS | exact A_637' hS | exact A_638' hS | exact A_639' hS | exact A_2' hS | exact A_55' hS | exact A_56' hS | exact A_57' hS | exact A_58' hS | exact A_59' hS | exact A_60' hS | exact A_61' hS | exact A_62' hS | exact A_63' hS)))
          | ((with_reducible refine st_rem ?_ ?_); first | decide | omega)
          | ((with_reducible refine st_div ?_ ?_); first | decide | omega)
          | ((with_reducible refine is_v (p' := k_X6_linksOf) ?_ ?_); (exact rfl); refine gm_vt2 (Nat.le_of_ble_eq_true rfl) (by first | assumption | exact N_is' hS (by assumption) | exact N_wis' hS (by assumption) | exact C_629' hS | exact N_lis' hS (by assumption) (by omega) (by omega) | exact C_0' hS | exact C_1' hS | exact C_54' hS | exact C_64' hS | exact C_116' hS) (sp_X6_linksOf hS (by assumption) (by first | omega | (simp (disch := omega) only [gm_rd_a]; omega))) ?_; dsimp only [gm_ps])
          | dsimp only [gm_step, gm_c, gm_s1, gm_s2, gm_kl, gm_ps, gm_wd, gm_w1, List.getElem?_cons_succ, List.getElem?_cons_zero, List.set_cons_succ, List.set_cons_zero, List.length_cons, List.length_nil, List.drop_succ_cons, List.drop_zero, List.take_succ_cons, List.take_zero, Nat.reduceAdd, Nat.reduceSub, Nat.reduceLeDiff])
      all_goals (
        rw [pst_skip hP] at ihg
        exact ihg _ _ h1 (fun v q1 q2 => by rw [chF_s (hall v)]; exact hch v q1 q2) (fun v q1 q2 => by rw [crF_s (hall v)]; exact hcw v q1 q2) h3)
  · rw [pst_0]
    refine repC_fr h h40.2 (fun c q1 q2 j => ?_)
    show flM m 60 (-1000000) ((16 : Nat) : Int) c j = m c j
    unfold flM
    rw [if_neg (by omega)]
  · intro v q1 q2
    show flM m 60 (-1000000) ((16 : Nat) : Int) 60 v = _
    unfold flM chF
    rw [if_pos ⟨rfl, q1, by omega⟩]
    rcases fsA_c h40.1 v with ⟨y, -⟩ | ⟨y, -⟩
    · rw [y]; rfl
    · rw [if_neg (by omega)]
  · intro v q1 q2
    show flM m 60 (-1000000) ((16 : Nat) : Int) 59 v = _
    unfold flM crF
    rw [if_neg (by omega), if_neg (by omega)]
    exact hcr v q1 q2
  · intro c j q1 q2 q3
    show flM m 60 (-1000000) ((16 : Nat) : Int) c j = m c j
    unfold flM
    rw [if_neg (fun z => q3 z.1)]
