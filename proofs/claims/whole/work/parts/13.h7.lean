/-! ===== step 6 and the whole TURN, in the reference ===== -/
theorem repB_let {m m' : gm_M} {b l : Int} {N : NS} {w : Int → Int} (h : repB m b N) (hl : 0 ≤ l) (e : ∀ j, ¬ (85 + 12 * l ≤ j ∧ j < 85 + 12 * l + 12) → m' b j = m b j) (hw : ∀ f, 0 ≤ f → f < 12 → m' b (85 + 12 * l + f) = w f) : repB m' b (n_sc N, n_gd N, n_lg N, fun k f => if k = l then w f else n_le N k f) := by
  obtain ⟨h1, h2, h3, h4⟩ := h
  refine ⟨fun i hi => by rw [e i (by omega)]; exact h1 i hi, ?_, ?_, fun k f k0 k1 f0 f1 => ?_⟩
  · rw [e 6 (by omega)]
    exact ⟨h2.1, h2.2.1, (lof_cg h2.1 (fun j a b => e _ (by omega))).trans h2.2.2⟩
  · rw [e 7 (by omega)]
    exact ⟨h3.1, h3.2.1, (lof_cg h3.1 (fun j a b => e _ (by omega))).trans h3.2.2⟩
  · show _ = if k = l then w f else n_le N k f
    by_cases q : k = l
    · rw [if_pos q, q]; exact hw f f0 f1
    · rw [if_neg q, e _ (by omega)]
      exact h4 k f k0 k1 f0 f1
theorem repB_sc {m : gm_M} {b t : Int} {N : NS} (h : repB m b N) : repB (gm_up m b 4 t) b (fun i => if i = 4 then t else n_sc N i, n_gd N, n_lg N, n_le N) := by
  obtain ⟨h1, h2, h3, h4⟩ := h
  refine ⟨fun i hi => ?_, ?_, ?_, fun k f k0 k1 f0 f1 => ?_⟩
  · show _ = if i = 4 then t else n_sc N i
    by_cases q : i = 4
    · rw [if_pos q, q, gm_rd_s]
    · rw [if_neg q, gm_rd_i q]; exact h1 i hi
  · rw [gm_rd_i (by omega)]
    exact ⟨h2.1, h2.2.1, (lof_cg h2.1 (fun j a b => gm_rd_i (by omega))).trans h2.2.2⟩
  · rw [gm_rd_i (by omega)]
    exact ⟨h3.1, h3.2.1, (lof_cg h3.1 (fun j a b => gm_rd_i (by omega))).trans h3.2.2⟩
  · rw [gm_rd_i (by omega)]
    have k1' : k < n_sc N 5 := k1
    exact h4 k f k0 k1' f0 f1
def mvK (N : NS) (G : Int → Int) (k : Int) : NS := mvS N (fun j => flP N j && decide (j < k)) G (n_sc N 4)
theorem mvS_sc {N : NS} {P : Int → Bool} {G : Int → Int} : n_sc (mvS N P G (n_sc N 4)) = n_sc N := by
  funext i
  show (if i = 4 then n_sc N 4 else n_sc N i) = _
  by_cases q : i = 4
  · rw [if_pos q, q]
  · rw [if_neg q]
theorem mvK_lee {N : NS} {G : Int → Int} {k j f : Int} : n_le (mvK N G k) j f = if (flP N j && decide (j < k)) = true then mvU N G j f else n_le N j f := rfl
theorem mvK_le {N : NS} {G : Int → Int} {k j : Int} (h : k ≤ j) : n_le (mvK N G k) j = n_le N j := by
  funext f
  rw [mvK_lee, decide_eq_false (p := j < k) (by omega), Bool.and_false, if_neg (by simp)]
theorem mvS_eq {N : NS} {P P' : Int → Bool} {G : Int → Int} {t : Int} (h : ∀ k, P k = P' k) : mvS N P G t = mvS N P' G t := by
  rw [show P = P' from funext h]
theorem mvK_0 {N : NS} {G : Int → Int} : mvK N G 0 = N := by
  have e : n_le (mvK N G 0) = n_le N := by
    funext k f
    rw [mvK_lee]
    by_cases q : flP N k = true
    · have := of_decide_eq_true q
      rw [decide_eq_false (p := k < 0) (by omega), Bool.and_false, if_neg (by simp)]
    · rw [if_neg (by simp [q])]
  have e2 : n_sc (mvK N G 0) = n_sc N := mvS_sc
  show (n_sc (mvK N G 0), n_gd N, n_lg N, n_le (mvK N G 0)) = N
  rw [e, e2]
theorem mvK_skip {N : NS} {G : Int → Int} {k : Int} (h : flP N k = false) : mvK N G (k + 1) = mvK N G k := by
  refine mvS_eq (fun j => ?_)
  by_cases q : j = k
  · rw [q, h, Bool.false_and, Bool.false_and]
  · rw [show (decide (j < k + 1)) = decide (j < k) from decide_eq_decide.mpr (by omega)]
theorem mvK_next {N : NS} {G : Int → Int} {k : Int} (h : flP N k = true) : (n_sc (mvK N G k), n_gd (mvK N G k), n_lg (mvK N G k), fun j f => if j = k then mvU N G k f else n_le (mvK N G k) j f) = mvK N G (k + 1) := by
  have e : (fun (j f : Int) => if j = k then mvU N G k f else n_le (mvK N G k) j f) = n_le (mvK N G (k + 1)) := by
    funext j f
    rw [mvK_lee, mvK_lee]
    by_cases q : j = k
    · rw [if_pos q, q, h, decide_eq_true (p := k < k + 1) (by omega), Bool.and_true, if_pos rfl]
    · rw [if_neg q, show (decide (j < k + 1)) = decide (j < k) from decide_eq_decide.mpr (by omega)]
  rw [e]
  rfl
theorem mvK_end {N : NS} {G : Int → Int} : (fun i => if i = 4 then n_sc N 4 + 1 else n_sc (mvK N G (n_sc N 5)) i, n_gd (mvK N G (n_sc N 5)), n_lg (mvK N G (n_sc N 5)), n_le (mvK N G (n_sc N 5))) = mvA N G := by
  have e : n_le (mvK N G (n_sc N 5)) = n_le (mvA N G) := by
    funext j f
    rw [mvK_lee, mvA_le]
    by_cases q : flP N j = true
    · have := of_decide_eq_true q
      rw [q, decide_eq_true (p := j < n_sc N 5) (by omega), Bool.and_true]
    · rw [if_neg (by simp [q]), if_neg q]
  have e2 : n_sc (mvK N G (n_sc N 5)) = n_sc N := mvS_sc
  rw [e, e2]
  rfl
set_option maxHeartbeats 4000000 in
theorem sp_X8_moves {ro : Nat → Nat × (Int → Int)} {d : Nat} {S : List gm_S} (hS : S = S0) {m : gm_M} {b T : Int} {N : NS} {G : Int → Int} (hb2 : b = 630 ∨ b = 631) (h : repB m b N) (hw : WF N T) (hf : farR m N) (hT : n_sc N 4 < T) (hT2 : T ≤ 1000000) (hy : YNG N) (hg : GOK N G) (hm : ∀ k, 0 ≤ k → k < n_sc N 5 → n_le N k 3 = 1 → m 638 k = G k) : gm_rel ro (d + 3) k_X8_moves [gA 629, gA b] S m (fun r1 m1 => r1 = none ∧ repB m1 b (mvA N G) ∧ (∀ c j, c ≠ b → m1 c j = m c j)) := by
  refine gm_rel_of mt_X8_moves (Nat.le_of_ble_eq_true rfl) ?_
  dsimp only [gm_en, List.length_cons, List.length_nil, List.replicate, List.cons_append, List.nil_append, Nat.reduceAdd, Nat.reduceSub]
  have hb := B_ar hS hb2
  have h40 := hw.1.2.2.2.2.2
  have hnd := WF_nd hw
  repeat' (first
    | ((with_reducible refine gm_w0 ?_); refine gm_go rfl ?_)
    | ((with_reducible refine sw_cons (fun hc => ?_) (fun hc => ?_)) <;> try (exfalso; omega))
    | with_reducible refine sw_nil ?_
    | simp (disch := omega) only [w32_id, Int.tdiv_eq_ediv_of_nonneg, Int.tmod_eq_emod_of_nonneg, Int.add_zero]
    | ((with_reducible refine st_getI ?_ ?_); first | assumption | exact N_is' hS (by assumption) | exact N_wis' hS (by assumption) | exact C_629' hS | exact N_lis' hS (by assumption) (by omega) (by omega) | exact C_0' hS | exact C_1' hS | exact C_54' hS | exact C_64' hS | exact C_116' hS)
    | ((with_reducible apply st_getR); (first | assumption | exact N_is' hS (by assumption) | exact N_wis' hS (by assumption) | exact C_629' hS | exact N_lis' hS (by assumption) (by omega) (by omega) | exact C_0' hS | exact C_1' hS | exact C_54' hS | exact C_64' hS | exact C_116' hS); (first | assumption | exact N_web' hS (by assumption) | exact N_letters' hS (by assumption) | exact N_golden' hS (by assumption) | exact N_logged' hS (by assumption) | exact N_open' hS (by assumption) | exact N_last' hS (by assumption) | exact N_beyond' hS (by assumption) | exact N_apart' hS (by assumption) | exact N_steps' hS (by assumption) | exact N_reached' hS (by assumption) | exact F_0_0' hS | exact F_0_1' hS | exact F_0_2' hS | exact F_0_3' hS | exact F_0_4' hS | exact F_0_5' hS | exact F_1_0' hS | exact F_54_0' hS | exact F_54_1' hS | exact F_54_4' hS | exact F_54_5' hS | exact F_54_6' hS | exact F_54_7' hS | exact F_54_8' hS | exact F_54_9' hS | exact F_54_10' hS | exact F_64_0' hS | exact F_64_1' hS | exact F_116_0' hS | exact F_629_0' hS | exact F_629_1' hS | exact F_629_2' hS | exact F_629_4' hS | exact F_629_5' hS | exact F_629_6' hS | exact F_629_15' hS | exact F_629_16' hS | exact F_629_18' hS | exact F_629_19' hS))
    | ((with_reducible refine st_putI ?_ ?_); first | assumption | exact N_is' hS (by assumption) | exact N_wis' hS (by assumption) | exact C_629' hS | exact N_lis' hS (by assumption) (by omega) (by omega) | exact C_0' hS | exact C_1' hS | exact C_54' hS | exact C_64' hS | exact C_116' hS)
    | ((with_reducible refine st_iald ?_ ?_); refine in_of (by first | assumption | exact N_a2' hS (by assumption) | exact N_a3' hS (by assumption) | exact N_a4' hS (by assumption) | exact N_a5' hS (by assumption) | exact N_a6' hS (by assumption) | exact N_a7' hS (by assumption) | exact N_a9' hS (by assumption) | exact N_a10' hS (by assumption) | exact A_630' hS | exact A_631' hS | exact A_632' hS | exact A_633' hS | exact A_635' hS | exact A_636' hS | exact A_637' hS | exact A_638' hS | exact A_639' hS | exact A_2' hS | exact A_55' hS | exact A_56' hS | exact A_57' hS | exact A_58' hS | exact A_59' hS | exact A_60' hS | exact A_61' hS | exact A_62' hS | exact A_63' hS) (by omega) (by omega))
    | ((with_reducible refine st_iast ?_ ?_); refine in_of (by first | assumption | exact N_a2' hS (by assumption) | exact N_a3' hS (by assumption) | exact N_a4' hS (by assumption) | exact N_a5' hS (by assumption) | exact N_a6' hS (by assumption) | exact N_a7' hS (by assumption) | exact N_a9' hS (by assumption) | exact N_a10' hS (by assumption) | exact A_630' hS | exact A_631' hS | exact A_632' hS | exact A_633' hS | exact A_635' hS | exact A_636' hS | exact A_637' hS | exact A_638' hS | exact A_639' hS | exact A_2' hS | exact A_55' hS | exact A_56' hS | exact A_57' hS | exact A_58' hS | exact A_59' hS | exact A_60' hS | exact A_61' hS | exact A_62' hS | exact A_63' hS) (by omega) (by omega))
    | ((with_reducible apply st_aald); (exact N_lin' hS (by assumption) (by omega) (by omega)); (exact N_lrf' hS (by assumption) (by omega) (by omega)))
    | ((with_reducible refine st_icmp (fun hc => ?_) (fun hc => ?_)) <;> (try dsimp only [gm_c] at hc) <;> (try simp only [gm_cmp_lt, gm_cmp_gt, gm_cmp_le, gm_cmp_ge, ite_0, ite_1, ne_eq, Classical.not_not] at hc) <;> try (first | (exfalso; omega) | exact absurd trivial hc))
    | ((with_reducible refine st_if (fun hc => ?_) (fun hc => ?_)) <;> (try dsimp only [gm_c] at hc) <;> (try simp only [gm_cmp_lt, gm_cmp_gt, gm_cmp_le, gm_cmp_ge, ite_0, ite_1, ne_eq, Classical.not_not] at hc) <;> try (first | (exfalso; omega) | exact absurd trivial hc))
    | ((with_reducible refine st_ret ?_ ?_); first | exact Or.inl rfl | exact Or.inr (Or.inl rfl) | exact Or.inr (Or.inr rfl))
    | ((with_reducible refine is_s (p' := 998) ?_ ?_); (exact rfl); refine st_copy (by first | assumption | exact N_a2' hS (by assumption) | exact N_a3' hS (by assumption) | exact N_a4' hS (by assumption) | exact N_a5' hS (by assumption) | exact N_a6' hS (by assumption) | exact N_a7' hS (by assumption) | exact N_a9' hS (by assumption) | exact N_a10' hS (by assumption) | exact A_630' hS | exact A_631' hS | exact A_632' hS | exact A_633' hS | exact A_635' hS | exact A_636' hS | exact A_637' hS | exact A_638' hS | exact A_639' hS | exact A_2' hS | exact A_55' hS | exact A_56' hS | exact A_57' hS | exact A_58' hS | exact A_59' hS | exact A_60' hS | exact A_61' hS | exact A_62' hS | exact A_63' hS) (by first | assumption | exact N_a2' hS (by assumption) | exact N_a3' hS (by assumption) | exact N_a4' hS (by assumption) | exact N_a5' hS (by assumption) | exact N_a6' hS (by assumption) | exact N_a7' hS (by assumption) | exact N_a9' hS (by assumption) | exact N_a10' hS (by assumption) | exact A_630' hS | exact A_631' hS | exact A_632' hS | exact A_633' hS | exact A_635' hS | exact A_636' hS | exact A_637' hS | exact A_638' hS | exact A_639' hS | exact A_2' hS | exact A_55' hS | exact A_56' hS | exact A_57' hS | exact A_58' hS | exact A_59' hS | exact A_60' hS | exact A_61' hS | exact A_62' hS | exact A_63' hS) (by omega) (by omega) (by omega) (by omega) (by omega) (Nat.le_of_ble_eq_true rfl) gm_999s ?_)
    | ((with_reducible refine is_s (p' := 997) ?_ ?_); (exact rfl); refine st_max (Nat.le_of_ble_eq_true rfl) gm_999s ?_)
    | ((with_reducible refine is_s (p' := 996) ?_ ?_); (exact rfl); refine st_min (Nat.le_of_ble_eq_true rfl) gm_999s ?_)
    | ((with_reducible apply st_alen); (refine is_of_ar (by first | assumption | exact N_a2' hS (by assumption) | exact N_a3' hS (by assumption) | exact N_a4' hS (by assumption) | exact N_a5' hS (by assumption) | exact N_a6' hS (by assumption) | exact N_a7' hS (by assumption) | exact N_a9' hS (by assumption) | exact N_a10' hS (by assumption) | exact A_630' hS | exact A_631' hS | exact A_632' hS | exact A_633' hS | exact A_635' hS | exact A_636' hS | exact A_637' hS | exact A_638' hS | exact A_639' hS | exact A_2' hS | exact A_55' hS | exact A_56' hS | exact A_57' hS | exact A_58' hS | exact A_59' hS | exact A_60' hS | exact A_61' hS | exact A_62' hS | exact A_63' hS)); (exact len_of_ar (by first | assumption | exact N_a2' hS (by assumption) | exact N_a3' hS (by assumption) | exact N_a4' hS (by assumption) | exact N_a5' hS (by assumption) | exact N_a6' hS (by assumption) | exact N_a7' hS (by assumption) | exact N_a9' hS (by assumption) | exact N_a10' hS (by assumption) | exact A_630' hS | exact A_631' hS | exact A_632' hS | exact A_633' hS | exact A_635' hS | exact A_636' hS | exact A_637' hS | exact A_638' hS | exact A_639' hS | exact A_2' hS | exact A_55' hS | exact A_56' hS | exact A_57' hS | exact A_58' hS | exact A_59' hS | exact A_60' hS | exact A_61' hS | exact A_62' hS | exact A_63' hS)))
    | ((with_reducible refine st_rem ?_ ?_); first | decide | omega)
    | ((with_reducible refine st_div ?_ ?_); first | decide | omega)
    | dsimp only [gm_step, gm_c, gm_s1, gm_s2, gm_kl, gm_ps, gm_wd, gm_w1, List.getElem?_cons_succ, List.getElem?_cons_zero, List.set_cons_succ, List.set_cons_zero, List.length_cons, List.length_nil, List.drop_succ_cons, List.drop_zero, List.take_succ_cons, List.take_zero, Nat.reduceAdd, Nat.reduceSub, Nat.reduceLeDiff])
  refine up_loop2 (α := gm_M × gm_V × gm_V × gm_V) (P := fun k x => repB x.1 b (mvK N G k) → (∀ c j, c ≠ b → x.1 c j = m c j) → gm_wp (gm_sem MT ro (d + 2)) ro cd_X8_moves (fun r1 S1 m1 => S1 = S ∧ (r1 = none ∧ repB m1 b (mvA N G) ∧ (∀ c j, c ≠ b → m1 c j = m c j))) 2 [gA 629, gA b, gI k, x.2.1, x.2.2.1, x.2.2.2] [] S x.1) (a := 0) (N := n_sc N 5) (x := (m, none, none, none)) h40.1 ?_ ?_ ?_ (fun c j _ => rfl)
  · rintro ⟨mm, w3, w4, w5⟩ h1 h3
    dsimp only at h1 h3 ⊢
    have hsc : n_sc (mvK N G (n_sc N 5)) = n_sc N := mvS_sc
    have e5n : mm b 5 = n_sc N 5 := by rw [h1.1 5 (by omega), hsc]
    have e4n : mm b 4 = n_sc N 4 := by rw [h1.1 4 (by omega), hsc]
    have hT0 : 0 ≤ n_sc N 4 := hw.1.2.2.2.2.1.1
    refine gm_hd rfl ?_
    repeat' (first
      | ((with_reducible refine gm_w0 ?_); refine gm_go rfl ?_)
      | ((with_reducible refine sw_cons (fun hc => ?_) (fun hc => ?_)) <;> try (exfalso; omega))
      | with_reducible refine sw_nil ?_
      | simp (disch := omega) only [w32_id, Int.tdiv_eq_ediv_of_nonneg, Int.tmod_eq_emod_of_nonneg, Int.add_zero]
      | simp only [e5n]
      | ((with_reducible refine st_getI ?_ ?_); first | assumption | exact N_is' hS (by assumption) | exact N_wis' hS (by assumption) | exact C_629' hS | exact N_lis' hS (by assumption) (by omega) (by omega) | exact C_0' hS | exact C_1' hS | exact C_54' hS | exact C_64' hS | exact C_116' hS)
      | ((with_reducible apply st_getR); (first | assumption | exact N_is' hS (by assumption) | exact N_wis' hS (by assumption) | exact C_629' hS | exact N_lis' hS (by assumption) (by omega) (by omega) | exact C_0' hS | exact C_1' hS | exact C_54' hS | exact C_64' hS | exact C_116' hS); (first | assumption | exact N_web' hS (by assumption) | exact N_letters' hS (by assumption) | exact N_golden' hS (by assumption) | exact N_logged' hS (by assumption) | exact N_open' hS (by assumption) | exact N_last' hS (by assumption) | exact N_beyond' hS (by assumption) | exact N_apart' hS (by assumption) | exact N_steps' hS (by assumption) | exact N_reached' hS (by assumption) | exact F_0_0' hS | exact F_0_1' hS | exact F_0_2' hS | exact F_0_3' hS | exact F_0_4' hS | exact F_0_5' hS | exact F_1_0' hS | exact F_54_0' hS | exact F_54_1' hS | exact F_54_4' hS | exact F_54_5' hS | exact F_54_6' hS | exact F_54_7' hS | exact F_54_8' hS | exact F_54_9' hS | exact F_54_10' hS | exact F_64_0' hS | exact F_64_1' hS | exact F_116_0' hS | exact F_629_0' hS | exact F_629_1' hS | exact F_629_2' hS | exact F_629_4' hS | exact F_629_5' hS | exact F_629_6' hS | exact F_629_15' hS | exact F_629_16' hS | exact F_629_18' hS | exact F_629_19' hS))
      | ((with_reducible refine st_putI ?_ ?_); first | assumption | exact N_is' hS (by assumption) | exact N_wis' hS (by assumption) | exact C_629' hS | exact N_lis' hS (by assumption) (by omega) (by omega) | exact C_0' hS | exact C_1' hS | exact C_54' hS | exact C_64' hS | exact C_116' hS)
      | ((with_reducible refine st_iald ?_ ?_); refine in_of (by first | assumption | exact N_a2' hS (by assumption) | exact N_a3' hS (by assumption) | exact N_a4' hS (by assumption) | exact N_a5' hS (by assumption) | exact N_a6' hS (by assumption) | exact N_a7' hS (by assumption) | exact N_a9' hS (by assumption) | exact N_a10' hS (by assumption) | exact A_630' hS | exact A_631' hS | exact A_632' hS | exact A_633' hS | exact A_635' hS | exact A_636' hS | exact A_637' hS | exact A_638' hS | exact A_639' hS | exact A_2' hS | exact A_55' hS | exact A_56' hS | exact A_57' hS | exact A_58' hS | exact A_59' hS | exact A_60' hS | exact A_61' hS | exact A_62' hS | exact A_63' hS) (by omega) (by omega))
      | ((with_reducible refine st_iast ?_ ?_); refine in_of (by first | assumption | exact N_a2' hS (by assumption) | exact N_a3' hS (by assumption) | exact N_a4' hS (by assumption) | exact N_a5' hS (by assumption) | exact N_a6' hS (by assumption) | exact N_a7' hS (by assumption) | exact N_a9' hS (by assumption) | exact N_a10' hS (by assumption) | exact A_630' hS | exact A_631' hS | exact A_632' hS | exact A_633' hS | exact A_635' hS | exact A_636' hS | exact A_637' hS | exact A_638' hS | exact A_639' hS | exact A_2' hS | exact A_55' hS | exact A_56' hS | exact A_57' hS | exact A_58' hS | exact A_59' hS | exact A_60' hS | exact A_61' hS | exact A_62' hS | exact A_63' hS) (by omega) (by omega))
      | ((with_reducible apply st_aald); (exact N_lin' hS (by assumption) (by omega) (by omega)); (exact N_lrf' hS (by assumption) (by omega) (by omega)))
      | ((with_reducible refine st_icmp (fun hc => ?_) (fun hc => ?_)) <;> (try dsimp only [gm_c] at hc) <;> (try simp only [gm_cmp_lt, gm_cmp_gt, gm_cmp_le, gm_cmp_ge, ite_0, ite_1, ne_eq, Classical.not_not] at hc) <;> try (first | (exfalso; omega) | exact absurd trivial hc))
      | ((with_reducible refine st_if (fun hc => ?_) (fun hc => ?_)) <;> (try dsimp only [gm_c] at hc) <;> (try simp only [gm_cmp_lt, gm_cmp_gt, gm_cmp_le, gm_cmp_ge, ite_0, ite_1, ne_eq, Classical.not_not] at hc) <;> try (first | (exfalso; omega) | exact absurd trivial hc))
      | ((with_reducible refine st_ret ?_ ?_); first | exact Or.inl rfl | exact Or.inr (Or.inl rfl) | exact Or.inr (Or.inr rfl))
      | ((with_reducible refine is_s (p' := 998) ?_ ?_); (exact rfl); refine st_copy (by first | assumption | exact N_a2' hS (by assumption) | exact N_a3' hS (by assumption) | exact N_a4' hS (by assumption) | exact N_a5' hS (by assumption) | exact N_a6' hS (by assumption) | exact N_a7' hS (by assumption) | exact N_a9' hS (by assumption) | exact N_a10' hS (by assumption) | exact A_630' hS | exact A_631' hS | exact A_632' hS | exact A_633' hS | exact A_635' hS | exact A_636' hS | exact A_637' hS | exact A_638' hS | exact A_639' hS | exact A_2' hS | exact A_55' hS | exact A_56' hS | exact A_57' hS | exact A_58' hS | exact A_59' hS | exact A_60' hS | exact A_61' hS | exact A_62' hS | exact A_63' hS) (by first | assumption | exact N_a2' hS (by assumption) | exact N_a3' hS (by assumption) | exact N_a4' hS (by assumption) | exact N_a5' hS (by assumption) | exact N_a6' hS (by assumption) | exact N_a7' hS (by assumption) | exact N_a9' hS (by assumption) | exact N_a10' hS (by assumption) | exact A_630' hS | exact A_631' hS | exact A_632' hS | exact A_633' hS | exact A_635' hS | exact A_636' hS | exact A_637' hS | exact A_638' hS | exact A_639' hS | exact A_2' hS | exact A_55' hS | exact A_56' hS | exact A_57' hS | exact A_58' hS | exact A_59' hS | exact A_60' hS | exact A_61' hS | exact A_62' hS | exact A_63' hS) (by omega) (by omega) (by omega) (by omega) (by omega) (Nat.le_of_ble_eq_true rfl) gm_999s ?_)
      | ((with_reducible refine is_s (p' := 997) ?_ ?_); (exact rfl); refine st_max (Nat.le_of_ble_eq_true rfl) gm_999s ?_)
      | ((with_reducible refine is_s (p' := 996) ?_ ?_); (exact rfl); refine st_min (Nat.le_of_ble_eq_true rfl) gm_999s ?_)
      | ((with_reducible apply st_alen); (refine is_of_ar (by first | assumption | exact N_a2' hS (by assumption) | exact N_a3' hS (by assumption) | exact N_a4' hS (by assumption) | exact N_a5' hS (by assumption) | exact N_a6' hS (by assumption) | exact N_a7' hS (by assumption) | exact N_a9' hS (by assumption) | exact N_a10' hS (by assumption) | exact A_630' hS | exact A_631' hS | exact A_632' hS | exact A_633' hS | exact A_635' hS | exact A_636' hS | exact A_637' hS | exact A_638' hS | exact A_639' hS | exact A_2' hS | exact A_55' hS | exact A_56' hS | exact A_57' hS | exact A_58' hS | exact A_59' hS | exact A_60' hS | exact A_61' hS | exact A_62' hS | exact A_63' hS)); (exact len_of_ar (by first | assumption | exact N_a2' hS (by assumption) | exact N_a3' hS (by assumption) | exact N_a4' hS (by assumption) | exact N_a5' hS (by assumption) | exact N_a6' hS (by assumption) | exact N_a7' hS (by assumption) | exact N_a9' hS (by assumption) | exact N_a10' hS (by assumption) | exact A_630' hS | exact A_631' hS | exact A_632' hS | exact A_633' hS | exact A_635' hS | exact A_636' hS | exact A_637' hS | exact A_638' hS | exact A_639' hS | exact A_2' hS | exact A_55' hS | exact A_56' hS | exact A_57' hS | exact A_58' hS | exact A_59' hS | exact A_60' hS | exact A_61' hS | exact A_62' hS | exact A_63' hS)))
      | ((with_reducible refine st_rem ?_ ?_); first | decide | omega)
      | ((with_reducible refine st_div ?_ ?_); first | decide | omega)
      | dsimp only [gm_step, gm_c, gm_s1, gm_s2, gm_kl, gm_ps, gm_wd, gm_w1, List.getElem?_cons_succ, List.getElem?_cons_zero, List.set_cons_succ, List.set_cons_zero, List.length_cons, List.length_nil, List.drop_succ_cons, List.drop_zero, List.take_succ_cons, List.take_zero, Nat.reduceAdd, Nat.reduceSub, Nat.reduceLeDiff])
    have z := repB_sc (t := n_sc N 4 + 1) h1
    rw [mvK_end, ← e4n] at z
    all_goals exact ⟨(by first | rfl | trivial), (by first | rfl | trivial), z, fun c j q => by rw [gm_rd_a q]; exact h3 c j q⟩
  · rintro k hk1 hk2 ih ⟨mm, w3, w4, w5⟩ h1 h3
    dsimp only at h1 h3 ⊢
    have ihg : ∀ mm' x y z, repB mm' b (mvK N G (k + 1)) → (∀ c j, c ≠ b → mm' c j = m c j) → gm_wp (gm_sem MT ro (d + 2)) ro cd_X8_moves (fun r1 S1 m1 => S1 = S ∧ (r1 = none ∧ repB m1 b (mvA N G) ∧ (∀ c j, c ≠ b → m1 c j = m c j))) 2 [gA 629, gA b, gI (k + 1), x, y, z] [] S mm' := fun mm' x y z => ih (mm', x, y, z)
    clear ih
    have hsc : n_sc (mvK N G k) = n_sc N := mvS_sc
    have hrd : ∀ f, 0 ≤ f → f < 12 → mm b (85 + 12 * k + f) = n_le N k f := fun f f0 f1 => by
      rw [h1.2.2.2 k f hk1 (by rw [hsc]; exact hk2) f0 f1, mvK_le (Int.le_refl _)]
    have e5n : mm b 5 = n_sc N 5 := by rw [h1.1 5 (by omega), hsc]
    have e0n : mm b 0 = n_sc N 0 := by rw [h1.1 0 (by omega), hsc]
    have e1n : mm b 1 = n_sc N 1 := by rw [h1.1 1 (by omega), hsc]
    have e3 := hrd 3 (by omega) (by omega)
    have e4 := hrd 4 (by omega) (by omega)
    have e2 := hrd 2 (by omega) (by omega)
    have e5 := hrd 5 (by omega) (by omega)
    have e6 := hrd 6 (by omega) (by omega)
    have hLW := hw.2.2.2.2 k hk1 hk2
    have hat := hLW.1.2.2.2.2
    have hto := hLW.1.2.2.1
    have hag := hLW.2.1
    have hw1 : 2 ≤ mm b 0 ∧ mm b 0 ≤ 4 := by rw [e0n]; exact hw.1.1
    have hh1 : 2 ≤ mm b 1 ∧ mm b 1 ≤ 4 := by rw [e1n]; exact hw.1.2.1
    refine gm_hd rfl ?_
    by_cases hfl : n_le N k 3 = 1
    · have hG : mm 638 k = G k := by rw [h3 _ _ (by omega)]; exact hm k hk1 hk2 hfl
      have hgb := hg.1 k hk1 hk2 hfl
      have hgb1 := hgb.1
      have hbb := (byd_f hw.1.1 hw.1.2.1 hat hgb.1).1
      have hby : byd (mm b 0) (mm b 1) (n_le N k 4) (G k) = byA N (n_le N k 4) (G k) := by rw [e0n, e1n]
      have hbb : 0 ≤ byA N (n_le N k 4) (G k) ∧ byA N (n_le N k 4) (G k) < nd N := hbb
      have hfa : mm 636 (16 * byA N (n_le N k 4) (G k) + n_le N k 2) = dA N (byA N (n_le N k 4) (G k)) (n_le N k 2) := by rw [h3 _ _ (by omega)]; exact hf _ _ hbb.1 hbb.2 hto.1 hto.2
      have hfb : mm 636 (16 * n_le N k 4 + n_le N k 2) = dA N (n_le N k 4) (n_le N k 2) := by rw [h3 _ _ (by omega)]; exact hf _ _ hat.1 hat.2 hto.1 hto.2
      have u4 : mvU N G k 4 = byA N (n_le N k 4) (G k) := rfl
      have u5 : mvU N G k 5 = n_le N k 5 + 1 := rfl
      have u6 : mvU N G k 6 = n_le N k 6 + (if dA N (byA N (n_le N k 4) (G k)) (n_le N k 2) < dA N (n_le N k 4) (n_le N k 2) then 0 else 1) := rfl
      have u7 : mvU N G k 7 = (G k + 2) % 4 := rfl
      generalize hbg : byA N (n_le N k 4) (G k) = bb at *
      have hP := flP_of ⟨hk1, hk2⟩ hfl
      repeat' (first
        | ((with_reducible refine gm_w0 ?_); refine gm_go rfl ?_)
        | ((with_reducible refine sw_cons (fun hc => ?_) (fun hc => ?_)) <;> try (exfalso; omega))
        | with_reducible refine sw_nil ?_
        | simp (disch := omega) only [w32_id, Int.tdiv_eq_ediv_of_nonneg, Int.tmod_eq_emod_of_nonneg, Int.add_zero]
        | simp (disch := omega) only [gm_rd_i, gm_rd_a]
        | simp only [e5n, e3, e4, e2, e5, e6, hG, hby, hfa, hfb]
        | ((with_reducible refine st_getI ?_ ?_); first | assumption | exact N_is' hS (by assumption) | exact N_wis' hS (by assumption) | exact C_629' hS | exact N_lis' hS (by assumption) (by omega) (by omega) | exact C_0' hS | exact C_1' hS | exact C_54' hS | exact C_64' hS | exact C_116' hS)
        | ((with_reducible apply st_getR); (first | assumption | exact N_is' hS (by assumption) | exact N_wis' hS (by assumption) | exact C_629' hS | exact N_lis' hS (by assumption) (by omega) (by omega) | exact C_0' hS | exact C_1' hS | exact C_54' hS | exact C_64' hS | exact C_116' hS); (first | assumption | exact N_web' hS (by assumption) | exact N_letters' hS (by assumption) | exact N_golden' hS (by assumption) | exact N_logged' hS (by assumption) | exact N_open' hS (by assumption) | exact N_last' hS (by assumption) | exact N_beyond' hS (by assumption) | exact N_apart' hS (by assumption) | exact N_steps' hS (by assumption) | exact N_reached' hS (by assumption) | exact F_0_0' hS | exact F_0_1' hS | exact F_0_2' hS | exact F_0_3' hS | exact F_0_4' hS | exact F_0_5' hS | exact F_1_0' hS | exact F_54_0' hS | exact F_54_1' hS | exact F_54_4' hS | exact F_54_5' hS | exact F_54_6' hS | exact F_54_7' hS | exact F_54_8' hS | exact F_54_9' hS | exact F_54_10' hS | exact F_64_0' hS | exact F_64_1' hS | exact F_116_0' hS | exact F_629_0' hS | exact F_629_1' hS | exact F_629_2' hS | exact F_629_4' hS | exact F_629_5' hS | exact F_629_6' hS | exact F_629_15' hS | exact F_629_16' hS | exact F_629_18' hS | exact F_629_19' hS))
        | ((with_reducible refine st_putI ?_ ?_); first | assumption | exact N_is' hS (by assumption) | exact N_wis' hS (by assumption) | exact C_629' hS | exact N_lis' hS (by assumption) (by omega) (by omega) | exact C_0' hS | exact C_1' hS | exact C_54' hS | exact C_64' hS | exact C_116' hS)
        | ((with_reducible refine st_iald ?_ ?_); refine in_of (by first | assumption | exact N_a2' hS (by assumption) | exact N_a3' hS (by assumption) | exact N_a4' hS (by assumption) | exact N_a5' hS (by assumption) | exact N_a6' hS (by assumption) | exact N_a7' hS (by assumption) | exact N_a9' hS (by assumption) | exact N_a10' hS (by assumption) | exact A_630' hS | exact A_631' hS | exact A_632' hS | exact A_633' hS | exact A_635' hS | exact A_636' hS | exact A_637' hS | exact A_638' hS | exact A_639' hS | exact A_2' hS | exact A_55' hS | exact A_56' hS | exact A_57' hS | exact A_58' hS | exact A_59' hS | exact A_60' hS | exact A_61' hS | exact A_62' hS | exact A_63' hS) (by omega) (by omega))
        | ((with_reducible refine st_iast ?_ ?_); refine in_of (by first | assumption | exact N_a2' hS (by assumption) | exact N_a3' hS (by assumption) | exact N_a4' hS (by assumption) | exact N_a5' hS (by assumption) | exact N_a6' hS (by assumption) | exact N_a7' hS (by assumption) | exact N_a9' hS (by assumption) | exact N_a10' hS (by assumption) | exact A_630' hS | exact A_631' hS | exact A_632' hS | exact A_633' hS | exact A_635' hS | exact A_636' hS | exact A_637' hS | exact A_638' hS | exact A_639' hS | exact A_2' hS | exact A_55' hS | exact A_56' hS | exact A_57' hS | exact A_58' hS | exact A_59' hS | exact A_60' hS | exact A_61' hS | exact A_62' hS | exact A_63' hS) (by omega) (by omega))
        | ((with_reducible apply st_aald); (exact N_lin' hS (by assumption) (by omega) (by omega)); (exact N_lrf' hS (by assumption) (by omega) (by omega)))
        | ((with_reducible refine st_icmp (fun hc => ?_) (fun hc => ?_)) <;> (try dsimp only [gm_c] at hc) <;> (try simp only [gm_cmp_lt, gm_cmp_gt, gm_cmp_le, gm_cmp_ge, ite_0, ite_1, ne_eq, Classical.not_not] at hc) <;> try (first | (exfalso; omega) | exact absurd trivial hc))
        | ((with_reducible refine st_if (fun hc => ?_) (fun hc => ?_)) <;> (try dsimp only [gm_c] at hc) <;> (try simp only [gm_cmp_lt, gm_cmp_gt, gm_cmp_le, gm_cmp_ge, ite_0, ite_1, ne_eq, Classical.not_not] at hc) <;> try (first | (exfalso; omega) | exact absurd trivial hc))
        | ((with_reducible refine st_ret ?_ ?_); first | exact Or.inl rfl | exact Or.inr (Or.inl rfl) | exact Or.inr (Or.inr rfl))
        | ((with_reducible refine is_s (p' := 998) ?_ ?_); (exact rfl); refine st_copy (by first | assumption | exact N_a2' hS (by assumption) | exact N_a3' hS (by assumption) | exact N_a4' hS (by assumption) | exact N_a5' hS (by assumption) | exact N_a6' hS (by assumption) | exact N_a7' hS (by assumption) | exact N_a9' hS (by assumption) | exact N_a10' hS (by assumption) | exact A_630' hS | exact A_631' hS | exact A_632' hS | exact A_633' hS | exact A_635' hS | exact A_636' hS | exact A_637' hS | exact A_638' hS | exact A_639' hS | exact A_2' hS | exact A_55' hS | exact A_56' hS | exact A_57' hS | exact A_58' hS | exact A_59' hS | exact A_60' hS | exact A_61' hS | exact A_62' hS | exact A_63' hS) (by first | assumption | exact N_a2' hS (by assumption) | exact N_a3' hS (by assumption) | exact N_a4' hS (by assumption) | exact N_a5' hS (by assumption) | exact N_a6' hS (by assumption) | exact N_a7' hS (by assumption) | exact N_a9' hS (by assumption) | exact N_a10' hS (by assumption) | exact A_630' hS | exact A_631' hS | exact A_632' hS | exact A_633' hS | exact A_635' hS | exact A_636' hS | exact A_637' hS | exact A_638' hS | exact A_639' hS | exact A_2' hS | exact A_55' hS | exact A_56' hS | exact A_57' hS | exact A_58' hS | exact A_59' hS | exact A_60' hS | exact A_61' hS | exact A_62' hS | exact A_63' hS) (by omega) (by omega) (by omega) (by omega) (by omega) (Nat.le_of_ble_eq_true rfl) gm_999s ?_)
        | ((with_reducible refine is_s (p' := 997) ?_ ?_); (exact rfl); refine st_max (Nat.le_of_ble_eq_true rfl) gm_999s ?_)
        | ((with_reducible refine is_s (p' := 996) ?_ ?_); (exact rfl); refine st_min (Nat.le_of_ble_eq_true rfl) gm_999s ?_)
        | ((with_reducible apply st_alen); (refine is_of_ar (by first | assumption | exact N_a2' hS (by assumption) | exact N_a3' hS (by assumption) | exact N_a4' hS (by assumption) | exact N_a5' hS (by assumption) | exact N_a6' hS (by assumption) | exact N_a7' hS (by assumption) | exact N_a9' hS (by assumption) | exact N_a10' hS (by assumption) | exact A_630' hS | exact A_631' hS | exact A_632' hS | exact A_633' hS | exact A_635' hS | exact A_636' hS | exact A_637' hS | exact A_638' hS | exact A_639' hS | exact A_2' hS | exact A_55' hS | exact A_56' hS | exact A_57' hS | exact A_58' hS | exact A_59' hS | exact A_60' hS | exact A_61' hS | exact A_62' hS | exact A_63' hS)); (exact len_of_ar (by first | assumption | exact N_a2' hS (by assumption) | exact N_a3' hS (by assumption) | exact N_a4' hS (by assumption) | exact N_a5' hS (by assumption) | exact N_a6' hS (by assumption) | exact N_a7' hS (by assumption) | exact N_a9' hS (by assumption) | exact N_a10' hS (by assumption) | exact A_630' hS | exact A_631' hS | exact A_632' hS | exact A_633' hS | exact A_635' hS | exact A_636' hS | exact A_637' hS | exact A_638' hS | exact A_639' hS | exact A_2' hS | exact A_55' hS | exact A_56' hS | exact A_57' hS | exact A_58' hS | exact A_59' hS | exact A_60' hS | exact A_61' hS | exact A_62' hS | exact A_63' hS)))
        | ((with_reducible refine st_rem ?_ ?_); first | decide | omega)
        | ((with_reducible refine st_div ?_ ?_); first | decide | omega)
        | ((with_reducible refine is_s (p' := k_X8_of) ?_ ?_); (exact rfl); refine gm_st3 (by decide) (Nat.le_of_ble_eq_true rfl) (sp_X8_of hS hb (by omega) (by omega) (by omega) (by omega)) ?_; dsimp only [gm_ps])
        | ((with_reducible refine is_s (p' := k_X8_is) ?_ ?_); (exact rfl); refine gm_st4 (by decide) (Nat.le_of_ble_eq_true rfl) (sp_X8_is hS hb (by omega) (by omega) (by omega) (by omega)) ?_; dsimp only [gm_ps])
        | ((with_reducible refine is_s (p' := k_X8_beyond) ?_ ?_); (exact rfl); refine gm_st3 (by decide) (Nat.le_of_ble_eq_true rfl) (sp_X8_beyond' hS hb (by assumption) (by assumption) (by omega) (by assumption)) ?_; dsimp only [gm_ps])
        | ((with_reducible refine is_s (p' := k_X8_across) ?_ ?_); (exact rfl); refine gm_st1 (by decide) (Nat.le_of_ble_eq_true rfl) (sp_X8_across hS (by omega) (by omega)) ?_; dsimp only [gm_ps])
        | dsimp only [gm_step, gm_c, gm_s1, gm_s2, gm_kl, gm_ps, gm_wd, gm_w1, List.getElem?_cons_succ, List.getElem?_cons_zero, List.set_cons_succ, List.set_cons_zero, List.length_cons, List.length_nil, List.drop_succ_cons, List.drop_zero, List.take_succ_cons, List.take_zero, Nat.reduceAdd, Nat.reduceSub, Nat.reduceLeDiff])
      all_goals (
        refine ihg _ _ _ _ (by
          rw [← mvK_next hP]
          refine repB_let h1 hk1 (fun j q => by rw [gm_rd_i (by omega), gm_rd_i (by omega), gm_rd_i (by omega), gm_rd_i (by omega)]) (fun f f0 f1 => ?_)
          by_cases q7 : f = 7
          · rw [q7, gm_rd_s, u7]
          · rw [gm_rd_i (by omega)]
            by_cases q4 : f = 4
            · rw [q4, gm_rd_s, u4]
            · rw [gm_rd_i (by omega)]
              by_cases q5 : f = 5
              · rw [q5, gm_rd_s, u5]
              · rw [gm_rd_i (by omega)]
                by_cases q6 : f = 6
                · rw [q6, gm_rd_s, u6]
                  split <;> omega
                · rw [gm_rd_i (by omega), hrd f f0 f1]
                  show _ = mvU N G k f
                  unfold mvU
                  rw [if_neg q4, if_neg q5, if_neg q6, if_neg q7]) (fun c j q => by rw [gm_rd_a q, gm_rd_a q, gm_rd_a q, gm_rd_a q]; exact h3 c j q))
    · have hG : (0 : Int) = 0 := rfl
      have hby : (0 : Int) = 0 := rfl
      have hfa : (0 : Int) = 0 := rfl
      have hfb : (0 : Int) = 0 := rfl
      have hP : flP N k = false := decide_eq_false (fun z => hfl z.2)
      repeat' (first
        | ((with_reducible refine gm_w0 ?_); refine gm_go rfl ?_)
        | ((with_reducible refine sw_cons (fun hc => ?_) (fun hc => ?_)) <;> try (exfalso; omega))
        | with_reducible refine sw_nil ?_
        | simp (disch := omega) only [w32_id, Int.tdiv_eq_ediv_of_nonneg, Int.tmod_eq_emod_of_nonneg, Int.add_zero]
        | simp (disch := omega) only [gm_rd_i, gm_rd_a]
        | simp only [e5n, e3, e4, e2, e5, e6, hG, hby, hfa, hfb]
        | ((with_reducible refine st_getI ?_ ?_); first | assumption | exact N_is' hS (by assumption) | exact N_wis' hS (by assumption) | exact C_629' hS | exact N_lis' hS (by assumption) (by omega) (by omega) | exact C_0' hS | exact C_1' hS | exact C_54' hS | exact C_64' hS | exact C_116' hS)
        | ((with_reducible apply st_getR); (first | assumption | exact N_is' hS (by assumption) | exact N_wis' hS (by assumption) | exact C_629' hS | exact N_lis' hS (by assumption) (by omega) (by omega) | exact C_0' hS | exact C_1' hS | exact C_54' hS | exact C_64' hS | exact C_116' hS); (first | assumption | exact N_web' hS (by assumption) | exact N_letters' hS (by assumption) | exact N_golden' hS (by assumption) | exact N_logged' hS (by assumption) | exact N_open' hS (by assumption) | exact N_last' hS (by assumption) | exact N_beyond' hS (by assumption) | exact N_apart' hS (by assumption) | exact N_steps' hS (by assumption) | exact N_reached' hS (by assumption) | exact F_0_0' hS | exact F_0_1' hS | exact F_0_2' hS | exact F_0_3' hS | exact F_0_4' hS | exact F_0_5' hS | exact F_1_0' hS | exact F_54_0' hS | exact F_54_1' hS | exact F_54_4' hS | exact F_54_5' hS | exact F_54_6' hS | exact F_54_7' hS | exact F_54_8' hS | exact F_54_9' hS | exact F_54_10' hS | exact F_64_0' hS | exact F_64_1' hS | exact F_116_0' hS | exact F_629_0' hS | exact F_629_1' hS | exact F_629_2' hS | exact F_629_4' hS | exact F_629_5' hS | exact F_629_6' hS | exact F_629_15' hS | exact F_629_16' hS | exact F_629_18' hS | exact F_629_19' hS))
        | ((with_reducible refine st_putI ?_ ?_); first | assumption | exact N_is' hS (by assumption) | exact N_wis' hS (by assumption) | exact C_629' hS | exact N_lis' hS (by assumption) (by omega) (by omega) | exact C_0' hS | exact C_1' hS | exact C_54' hS | exact C_64' hS | exact C_116' hS)
        | ((with_reducible refine st_iald ?_ ?_); refine in_of (by first | assumption | exact N_a2' hS (by assumption) | exact N_a3' hS (by assumption) | exact N_a4' hS (by assumption) | exact N_a5' hS (by assumption) | exact N_a6' hS (by assumption) | exact N_a7' hS (by assumption) | exact N_a9' hS (by assumption) | exact N_a10' hS (by assumption) | exact A_630' hS | exact A_631' hS | exact A_632' hS | exact A_633' hS | exact A_635' hS | exact A_636' hS | exact A_637' hS | exact A_638' hS | exact A_639' hS | exact A_2' hS | exact A_55' hS | exact A_56' hS | exact A_57' hS | exact A_58' hS | exact A_59' hS | exact A_60' hS | exact A_61' hS | exact A_62' hS | exact A_63' hS) (by omega) (by omega))
        | ((with_reducible refine st_iast ?_ ?_); refine in_of (by first | assumption | exact N_a2' hS (by assumption) | exact N_a3' hS (by assumption) | exact N_a4' hS (by assumption) | exact N_a5' hS (by assumption) | exact N_a6' hS (by assumption) | exact N_a7' hS (by assumption) | exact N_a9' hS (by assumption) | exact N_a10' hS (by assumption) | exact A_630' hS | exact A_631' hS | exact A_632' hS | exact A_633' hS | exact A_635' hS | exact A_636' hS | exact A_637' hS | exact A_638' hS | exact A_639' hS | exact A_2' hS | exact A_55' hS | exact A_56' hS | exact A_57' hS | exact A_58' hS | exact A_59' hS | exact A_60' hS | exact A_61' hS | exact A_62' hS | exact A_63' hS) (by omega) (by omega))
        | ((with_reducible apply st_aald); (exact N_lin' hS (by assumption) (by omega) (by omega)); (exact N_lrf' hS (by assumption) (by omega) (by omega)))
        | ((with_reducible refine st_icmp (fun hc => ?_) (fun hc => ?_)) <;> (try dsimp only [gm_c] at hc) <;> (try simp only [gm_cmp_lt, gm_cmp_gt, gm_cmp_le, gm_cmp_ge, ite_0, ite_1, ne_eq, Classical.not_not] at hc) <;> try (first | (exfalso; omega) | exact absurd trivial hc))
        | ((with_reducible refine st_if (fun hc => ?_) (fun hc => ?_)) <;> (try dsimp only [gm_c] at hc) <;> (try simp only [gm_cmp_lt, gm_cmp_gt, gm_cmp_le, gm_cmp_ge, ite_0, ite_1, ne_eq, Classical.not_not] at hc) <;> try (first | (exfalso; omega) | exact absurd trivial hc))
        | ((with_reducible refine st_ret ?_ ?_); first | exact Or.inl rfl | exact Or.inr (Or.inl rfl) | exact Or.inr (Or.inr rfl))
        | ((with_reducible refine is_s (p' := 998) ?_ ?_); (exact rfl); refine st_copy (by first | assumption | exact N_a2' hS (by assumption) | exact N_a3' hS (by assumption) | exact N_a4' hS (by assumption) | exact N_a5' hS (by assumption) | exact N_a6' hS (by assumption) | exact N_a7' hS (by assumption) | exact N_a9' hS (by assumption) | exact N_a10' hS (by assumption) | exact A_630' hS | exact A_631' hS | exact A_632' hS | exact A_633' hS | exact A_635' hS | exact A_636' hS | exact A_637' hS | exact A_638' hS | exact A_639' hS | exact A_2' hS | exact A_55' hS | exact A_56' hS | exact A_57' hS | exact A_58' hS | exact A_59' hS | exact A_60' hS | exact A_61' hS | exact A_62' hS | exact A_63' hS) (by first | assumption | exact N_a2' hS (by assumption) | exact N_a3' hS (by assumption) | exact N_a4' hS (by assumption) | exact N_a5' hS (by assumption) | exact N_a6' hS (by assumption) | exact N_a7' hS (by assumption) | exact N_a9' hS (by assumption) | exact N_a10' hS (by assumption) | exact A_630' hS | exact A_631' hS | exact A_632' hS | exact A_633' hS | exact A_635' hS | exact A_636' hS | exact A_637' hS | exact A_638' hS | exact A_639' hS | exact A_2' hS | exact A_55' hS | exact A_56' hS | exact A_57' hS | exact A_58' hS | exact A_59' hS | exact A_60' hS | exact A_61' hS | exact A_62' hS | exact A_63' hS) (by omega) (by omega) (by omega) (by omega) (by omega) (Nat.le_of_ble_eq_true rfl) gm_999s ?_)
        | ((with_reducible refine is_s (p' := 997) ?_ ?_); (exact rfl); refine st_max (Nat.le_of_ble_eq_true rfl) gm_999s ?_)
        | ((with_reducible refine is_s (p' := 996) ?_ ?_); (exact rfl); refine st_min (Nat.le_of_ble_eq_true rfl) gm_999s ?_)
        | ((with_reducible apply st_alen); (refine is_of_ar (by first | assumption | exact N_a2' hS (by assumption) | exact N_a3' hS (by assumption) | exact N_a4' hS (by assumption) | exact N_a5' hS (by assumption) | exact N_a6' hS (by assumption) | exact N_a7' hS (by assumption) | exact N_a9' hS (by assumption) | exact N_a10' hS (by assumption) | exact A_630' hS | exact A_631' hS | exact A_632' hS | exact A_633' hS | exact A_635' hS | exact A_636' hS | exact A_637' hS | exact A_638' hS | exact A_639' hS | exact A_2' hS | exact A_55' hS | exact A_56' hS | exact A_57' hS | exact A_58' hS | exact A_59' hS | exact A_60' hS | exact A_61' hS | exact A_62' hS | exact A_63' hS)); (exact len_of_ar (by first | assumption | exact N_a2' hS (by assumption) | exact N_a3' hS (by assumption) | exact N_a4' hS (by assumption) | exact N_a5' hS (by assumption) | exact N_a6' hS (by assumption) | exact N_a7' hS (by assumption) | exact N_a9' hS (by assumption) | exact N_a10' hS (by assumption) | exact A_630' hS | exact A_631' hS | exact A_632' hS | exact A_633' hS | exact A_635' hS | exact A_636' hS | exact A_637' hS | exact A_638' hS | exact A_639' hS | exact A_2' hS | exact A_55' hS | exact A_56' hS | exact A_57' hS | exact A_58' hS | exact A_59' hS | exact A_60' hS | exact A_61' hS | exact A_62' hS | exact A_63' hS)))
        | ((with_reducible refine st_rem ?_ ?_); first | decide | omega)
        | ((with_reducible refine st_div ?_ ?_); first | decide | omega)
        | ((with_reducible refine is_s (p' := k_X8_of) ?_ ?_); (exact rfl); refine gm_st3 (by decide) (Nat.le_of_ble_eq_true rfl) (sp_X8_of hS hb (by omega) (by omega) (by omega) (by omega)) ?_; dsimp only [gm_ps])
        | ((with_reducible refine is_s (p' := k_X8_is) ?_ ?_); (exact rfl); refine gm_st4 (by decide) (Nat.le_of_ble_eq_true rfl) (sp_X8_is hS hb (by omega) (by omega) (by omega) (by omega)) ?_; dsimp only [gm_ps])
        | ((with_reducible refine is_s (p' := k_X8_beyond) ?_ ?_); (exact rfl); refine gm_st3 (by decide) (Nat.le_of_ble_eq_true rfl) (sp_X8_beyond' hS hb (by assumption) (by assumption) (by omega) (by assumption)) ?_; dsimp only [gm_ps])
        | ((with_reducible refine is_s (p' := k_X8_across) ?_ ?_); (exact rfl); refine gm_st1 (by decide) (Nat.le_of_ble_eq_true rfl) (sp_X8_across hS (by omega) (by omega)) ?_; dsimp only [gm_ps])
        | dsimp only [gm_step, gm_c, gm_s1, gm_s2, gm_kl, gm_ps, gm_wd, gm_w1, List.getElem?_cons_succ, List.getElem?_cons_zero, List.set_cons_succ, List.set_cons_zero, List.length_cons, List.length_nil, List.drop_succ_cons, List.drop_zero, List.take_succ_cons, List.take_zero, Nat.reduceAdd, Nat.reduceSub, Nat.reduceLeDiff])
      rw [mvK_skip hP] at ihg
      all_goals exact ihg _ _ _ _ h1 h3
  · rw [mvK_0]; exact h
theorem wgt_eq {m : gm_M} {b x : Int} {N : NS} (h : repB m b N) (hx : 0 ≤ x ∧ x < n_sc N 5) : wgt (m b) x = wgA N x := by
  unfold wgt wgA
  rw [h.2.2.2 x 0 hx.1 hx.2 (by omega) (by omega), h.2.2.2 x 5 hx.1 hx.2 (by omega) (by omega)]
theorem sp_X8_sortsR {ro : Nat → Nat × (Int → Int)} {d : Nat} {S : List gm_S} (hS : S = S0) {m : gm_M} {b g T : Int} {N : NS} (hb2 : b = 630 ∨ b = 631) (h : repB m b N) (hw : WF N T) : gm_rel ro (d + 4) k_X8_sorts [gA 629, gA b, gI g] S m (fun r1 m1 => r1 = none ∧ ordR m1 (ordA N g).1 (ordA N g).2 ∧ ∀ c j, c ≠ 637 → ¬ (c = 629 ∧ j = 17) → m1 c j = m c j) := by
  have e5 : m b 5 = n_sc N 5 := h.1 5 (by omega)
  have h40 := hw.1.2.2.2.2.2
  refine rel_of_sem (sp_X8_sorts hS (B_ar hS hb2) hb2 (by omega) (fun k k0 k1 => ?_)) ⟨rfl, ?_, fun c j q1 q2 => ?_⟩
  · rw [h.2.2.2 k 5 k0 (by omega) (by omega) (by omega)]
    have := (hw.2.2.2.2 k k0 (by omega)).2.1.1
    omega
  · have := srt_cg (fl := flE (m b)) (fl' := fun k => decide (n_le N k 3 = 1)) (ah := ahE (m b) g) (ah' := ahA N g) (A0 := m 637) (A0' := fun _ => 0) (k := n_sc N 5) h40.1 (fun x x0 x1 => by
      unfold flE
      rw [h.2.2.2 x 3 x0 x1 (by omega) (by omega)]) (fun x y x0 x1 y0 y1 => by
      unfold ahE ahA
      rw [wgt_eq h ⟨x0, x1⟩, wgt_eq h ⟨y0, y1⟩])
    rw [e5]
    refine ⟨?_, fun i i0 i1 => ?_⟩
    · show (if (629 : Int) = 637 then _ else if (629 : Int) = 629 ∧ (17 : Int) = 17 then _ else _) = _
      rw [if_neg (by omega), if_pos ⟨rfl, rfl⟩]
      exact this.1
    · show (if (637 : Int) = 637 then _ else _) = _
      rw [if_pos rfl]
      exact this.2 i i0 (by rw [this.1]; exact i1)
  · show (if c = 637 then _ else if c = 629 ∧ j = 17 then _ else m c j) = _
    rw [if_neg q1, if_neg q2]
theorem gOne_eq {m : gm_M} {b T : Int} {N : NS} (h : repB m b N) (hw : WF N T) : (∀ k, 0 ≤ k → k < m b 7 → 0 ≤ m b (8 + k) ∧ m b (8 + k) < n_sc N 5) ∧ nthT (fun k => decide (m b (85 + 12 * m b (8 + k) + 3) = 1)) (fun k => m b (8 + k)) (m b 7 - 0).toNat 0 0 = gOne N := by
  have h3 := h.2.2.1
  have hk : ∀ k, 0 ≤ k → k < m b 7 → 0 ≤ m b (8 + k) ∧ m b (8 + k) < n_sc N 5 := fun k k0 k1 => by
    have : m b (8 + k) ∈ n_gd N := by
      rw [← h3.2.2]
      exact (lof_mem h3.1).mpr ⟨k, ⟨k0, k1⟩, rfl⟩
    exact (hw.2.2.1.2 _ this).1
  refine ⟨hk, ?_⟩
  have := find_lof (P := fun x => decide (n_le N x 3 = 1)) (f := fun k => m b (8 + k)) h3.1 (fun j j0 j1 => by have := hk j j0 j1; omega)
  rw [h3.2.2] at this
  unfold gOne
  rw [← this]
  refine nthT_cg _ _ _ (fun j a1 a2 => ?_) (fun _ _ _ _ => rfl)
  have := hk j a1 (by omega)
  rw [h.2.2.2 (m b (8 + j)) 3 this.1 this.2 (by omega) (by omega)]
theorem n_dst_tr {N M : NS} (h : n_sc M = n_sc N) (u v : Int) : dA M u v = dA N u v := by
  unfold dA n_dst
  rw [h]
theorem n_dst_tr2 {N M : NS} (h : ∀ i, i ≠ 4 → n_sc M i = n_sc N i) {u v : Int} (hl : ∀ x, 0 ≤ x → x < 16 → True) : n_sc M 0 = n_sc N 0 ∧ n_sc M 1 = n_sc N 1 := ⟨h 0 (by decide), h 1 (by decide)⟩
set_option maxHeartbeats 4000000 in
theorem sp_X8_turns {ro : Nat → Nat × (Int → Int)} {d : Nat} {S : List gm_S} (hS : S = S0) {m : gm_M} {b T : Int} {N : NS} (hb2 : b = 630 ∨ b = 631) (h : repB m b N) (hw : WFT N T) (hf : farR m N) (hT : n_sc N 4 < T) (hT2 : T ≤ 1000000) : gm_rel ro (d + 7) k_X8_turns [gA 629, gA b] S m (fun r1 m1 => r1 = none ∧ repB m1 b (trA N) ∧ (∀ k, 0 ≤ k → k < 40 → m1 638 k = tG N k) ∧ (∀ c j, c ≠ b → c ≠ 637 → c ≠ 638 → c ≠ 639 → ¬ (c = 629 ∧ j = 17) → m1 c j = m c j)) := by
  refine gm_rel_of mt_X8_turns (Nat.le_of_ble_eq_true rfl) ?_
  dsimp only [gm_en, List.length_cons, List.length_nil, List.replicate, List.cons_append, List.nil_append, Nat.reduceAdd, Nat.reduceSub]
  have hb := B_ar hS hb2
  have h40 := hw.1.1.2.2.2.2.2
  have hnd := WF_nd hw.1
  have hg7 : 0 ≤ m b 7 ∧ m b 7 ≤ 5 := ⟨h.2.2.1.1, h.2.2.1.2.1⟩
  obtain ⟨hgl0, hgo⟩ := gOne_eq h hw.1
  have hgl : ∀ k, 0 ≤ k → k < m b 7 → 0 ≤ m b (8 + k) ∧ m b (8 + k) < 40 := fun k k0 k1 => by have := hgl0 k k0 k1; omega
  repeat' (first
    | ((with_reducible refine gm_w0 ?_); refine gm_go rfl ?_)
    | ((with_reducible refine sw_cons (fun hc => ?_) (fun hc => ?_)) <;> try (exfalso; omega))
    | with_reducible refine sw_nil ?_
    | simp (disch := omega) only [w32_id, Int.tdiv_eq_ediv_of_nonneg, Int.tmod_eq_emod_of_nonneg, Int.add_zero]
    | simp only [hgo]
    | ((with_reducible refine is_v (p' := k_X8_sorts) ?_ ?_); (exact rfl); refine gm_rv3 (Nat.le_of_ble_eq_true rfl) (by first | assumption | exact N_is' hS (by assumption) | exact N_wis' hS (by assumption) | exact C_629' hS | exact N_lis' hS (by assumption) (by omega) (by omega) | exact C_0' hS | exact C_1' hS | exact C_54' hS | exact C_64' hS | exact C_116' hS) (sp_X8_sortsR hS hb2 h4 (t4_wf hw.1 hT)) ?_; rintro r5 m5 ⟨rfl, o5, f5⟩; dsimp only [gm_ps]; (have h5 : repB m5 b (t4 N) := repB_fr h4 (fun j => f5 b j (by omega) (by omega))); (have o5 : ordR m5 (tO2 N).1 (tO2 N).2 := o5))
    | ((with_reducible refine is_v (p' := k_X8_sorts) ?_ ?_); (exact rfl); refine gm_rv3 (Nat.le_of_ble_eq_true rfl) (by first | assumption | exact N_is' hS (by assumption) | exact N_wis' hS (by assumption) | exact C_629' hS | exact N_lis' hS (by assumption) (by omega) (by omega) | exact C_0' hS | exact C_1' hS | exact C_54' hS | exact C_64' hS | exact C_116' hS) (sp_X8_sortsR hS hb2 h hw.1) ?_; rintro r1 m1 ⟨rfl, o1, f1⟩; dsimp only [gm_ps]; (have h1 : repB m1 b N := repB_fr h (fun j => f1 b j (by omega) (by omega))))
    | ((with_reducible refine is_v (p' := k_X8_delivers) ?_ ?_); (exact rfl); refine gm_rv2 (Nat.le_of_ble_eq_true rfl) (by first | assumption | exact N_is' hS (by assumption) | exact N_wis' hS (by assumption) | exact C_629' hS | exact N_lis' hS (by assumption) (by omega) (by omega) | exact C_0' hS | exact C_1' hS | exact C_54' hS | exact C_64' hS | exact C_116' hS) (sp_X8_delivers hS hb2 h1 hw.1 hT (tO1_ok hw.1) o1) ?_; rintro r2 m2 ⟨rfl, h2, f2⟩; dsimp only [gm_ps]; (have o2 : ordR m2 (tO1 N).1 (tO1 N).2 := ⟨by rw [f2 _ _ (by omega)]; exact o1.1, fun i i0 i1 => by rw [f2 _ _ (by omega)]; exact o1.2 i i0 i1⟩))
    | ((with_reducible refine is_v (p' := k_X8_wears) ?_ ?_); (exact rfl); refine gm_rv2 (Nat.le_of_ble_eq_true rfl) (by first | assumption | exact N_is' hS (by assumption) | exact N_wis' hS (by assumption) | exact C_629' hS | exact N_lis' hS (by assumption) (by omega) (by omega) | exact C_0' hS | exact C_1' hS | exact C_54' hS | exact C_64' hS | exact C_116' hS) (sp_X8_wears hS hb2 h2 (t1_wf hw.1 hT) hT (E_1 hw.1) o2) ?_; rintro r3 m3 ⟨rfl, h3, f3⟩; dsimp only [gm_ps]; (have h3 : repB m3 b (t3 N) := h3))
    | ((with_reducible refine is_s (p' := k_X8_putsIn) ?_ ?_); (exact rfl); refine gm_rt1 (by decide) (Nat.le_of_ble_eq_true rfl) (sp_X8_putsIn hS hb2 h3 (t3_wf hw.1 hT)) ?_; rintro r4 m4 ⟨rfl, h4, f4⟩; dsimp only [gm_ps]; (have h4 : repB m4 b (t4 N) := h4))
    | ((with_reducible refine st_getI ?_ ?_); first | assumption | exact N_is' hS (by assumption) | exact N_wis' hS (by assumption) | exact C_629' hS | exact N_lis' hS (by assumption) (by omega) (by omega) | exact C_0' hS | exact C_1' hS | exact C_54' hS | exact C_64' hS | exact C_116' hS)
    | ((with_reducible apply st_getR); (first | assumption | exact N_is' hS (by assumption) | exact N_wis' hS (by assumption) | exact C_629' hS | exact N_lis' hS (by assumption) (by omega) (by omega) | exact C_0' hS | exact C_1' hS | exact C_54' hS | exact C_64' hS | exact C_116' hS); (first | assumption | exact N_web' hS (by assumption) | exact N_letters' hS (by assumption) | exact N_golden' hS (by assumption) | exact N_logged' hS (by assumption) | exact N_open' hS (by assumption) | exact N_last' hS (by assumption) | exact N_beyond' hS (by assumption) | exact N_apart' hS (by assumption) | exact N_steps' hS (by assumption) | exact N_reached' hS (by assumption) | exact F_0_0' hS | exact F_0_1' hS | exact F_0_2' hS | exact F_0_3' hS | exact F_0_4' hS | exact F_0_5' hS | exact F_1_0' hS | exact F_54_0' hS | exact F_54_1' hS | exact F_54_4' hS | exact F_54_5' hS | exact F_54_6' hS | exact F_54_7' hS | exact F_54_8' hS | exact F_54_9' hS | exact F_54_10' hS | exact F_64_0' hS | exact F_64_1' hS | exact F_116_0' hS | exact F_629_0' hS | exact F_629_1' hS | exact F_629_2' hS | exact F_629_4' hS | exact F_629_5' hS | exact F_629_6' hS | exact F_629_15' hS | exact F_629_16' hS | exact F_629_18' hS | exact F_629_19' hS))
    | ((with_reducible refine st_putI ?_ ?_); first | assumption | exact N_is' hS (by assumption) | exact N_wis' hS (by assumption) | exact C_629' hS | exact N_lis' hS (by assumption) (by omega) (by omega) | exact C_0' hS | exact C_1' hS | exact C_54' hS | exact C_64' hS | exact C_116' hS)
    | ((with_reducible refine st_iald ?_ ?_); refine in_of (by first | assumption | exact N_a2' hS (by assumption) | exact N_a3' hS (by assumption) | exact N_a4' hS (by assumption) | exact N_a5' hS (by assumption) | exact N_a6' hS (by assumption) | exact N_a7' hS (by assumption) | exact N_a9' hS (by assumption) | exact N_a10' hS (by assumption) | exact A_630' hS | exact A_631' hS | exact A_632' hS | exact A_633' hS | exact A_635' hS | exact A_636' hS | exact A_637' hS | exact A_638' hS | exact A_639' hS | exact A_2' hS | exact A_55' hS | exact A_56' hS | exact A_57' hS | exact A_58' hS | exact A_59' hS | exact A_60' hS | exact A_61' hS | exact A_62' hS | exact A_63' hS) (by omega) (by omega))
    | ((with_reducible refine st_iast ?_ ?_); refine in_of (by first | assumption | exact N_a2' hS (by assumption) | exact N_a3' hS (by assumption) | exact N_a4' hS (by assumption) | exact N_a5' hS (by assumption) | exact N_a6' hS (by assumption) | exact N_a7' hS (by assumption) | exact N_a9' hS (by assumption) | exact N_a10' hS (by assumption) | exact A_630' hS | exact A_631' hS | exact A_632' hS | exact A_633' hS | exact A_635' hS | exact A_636' hS | exact A_637' hS | exact A_638' hS | exact A_639' hS | exact A_2' hS | exact A_55' hS | exact A_56' hS | exact A_57' hS | exact A_58' hS | exact A_59' hS | exact A_60' hS | exact A_61' hS | exact A_62' hS | exact A_63' hS) (by omega) (by omega))
    | ((with_reducible apply st_aald); (exact N_lin' hS (by assumption) (by omega) (by omega)); (exact N_lrf' hS (by assumption) (by omega) (by omega)))
    | ((with_reducible refine st_icmp (fun hc => ?_) (fun hc => ?_)) <;> (try dsimp only [gm_c] at hc) <;> (try simp only [gm_cmp_lt, gm_cmp_gt, gm_cmp_le, gm_cmp_ge, ite_0, ite_1, ne_eq, Classical.not_not] at hc) <;> try (first | (exfalso; omega) | exact absurd trivial hc))
    | ((with_reducible refine st_if (fun hc => ?_) (fun hc => ?_)) <;> (try dsimp only [gm_c] at hc) <;> (try simp only [gm_cmp_lt, gm_cmp_gt, gm_cmp_le, gm_cmp_ge, ite_0, ite_1, ne_eq, Classical.not_not] at hc) <;> try (first | (exfalso; omega) | exact absurd trivial hc))
    | ((with_reducible refine st_ret ?_ ?_); first | exact Or.inl rfl | exact Or.inr (Or.inl rfl) | exact Or.inr (Or.inr rfl))
    | ((with_reducible refine is_s (p' := 998) ?_ ?_); (exact rfl); refine st_copy (by first | assumption | exact N_a2' hS (by assumption) | exact N_a3' hS (by assumption) | exact N_a4' hS (by assumption) | exact N_a5' hS (by assumption) | exact N_a6' hS (by assumption) | exact N_a7' hS (by assumption) | exact N_a9' hS (by assumption) | exact N_a10' hS (by assumption) | exact A_630' hS | exact A_631' hS | exact A_632' hS | exact A_633' hS | exact A_635' hS | exact A_636' hS | exact A_637' hS | exact A_638' hS | exact A_639' hS | exact A_2' hS | exact A_55' hS | exact A_56' hS | exact A_57' hS | exact A_58' hS | exact A_59' hS | exact A_60' hS | exact A_61' hS | exact A_62' hS | exact A_63' hS) (by first | assumption | exact N_a2' hS (by assumption) | exact N_a3' hS (by assumption) | exact N_a4' hS (by assumption) | exact N_a5' hS (by assumption) | exact N_a6' hS (by assumption) | exact N_a7' hS (by assumption) | exact N_a9' hS (by assumption) | exact N_a10' hS (by assumption) | exact A_630' hS | exact A_631' hS | exact A_632' hS | exact A_633' hS | exact A_635' hS | exact A_636' hS | exact A_637' hS | exact A_638' hS | exact A_639' hS | exact A_2' hS | exact A_55' hS | exact A_56' hS | exact A_57' hS | exact A_58' hS | exact A_59' hS | exact A_60' hS | exact A_61' hS | exact A_62' hS | exact A_63' hS) (by omega) (by omega) (by omega) (by omega) (by omega) (Nat.le_of_ble_eq_true rfl) gm_999s ?_)
    | ((with_reducible refine is_s (p' := 997) ?_ ?_); (exact rfl); refine st_max (Nat.le_of_ble_eq_true rfl) gm_999s ?_)
    | ((with_reducible refine is_s (p' := 996) ?_ ?_); (exact rfl); refine st_min (Nat.le_of_ble_eq_true rfl) gm_999s ?_)
    | ((with_reducible apply st_alen); (refine is_of_ar (by first | assumption | exact N_a2' hS (by assumption) | exact N_a3' hS (by assumption) | exact N_a4' hS (by assumption) | exact N_a5' hS (by assumption) | exact N_a6' hS (by assumption) | exact N_a7' hS (by assumption) | exact N_a9' hS (by assumption) | exact N_a10' hS (by assumption) | exact A_630' hS | exact A_631' hS | exact A_632' hS | exact A_633' hS | exact A_635' hS | exact A_636' hS | exact A_637' hS | exact A_638' hS | exact A_639' hS | exact A_2' hS | exact A_55' hS | exact A_56' hS | exact A_57' hS | exact A_58' hS | exact A_59' hS | exact A_60' hS | exact A_61' hS | exact A_62' hS | exact A_63' hS)); (exact len_of_ar (by first | assumption | exact N_a2' hS (by assumption) | exact N_a3' hS (by assumption) | exact N_a4' hS (by assumption) | exact N_a5' hS (by assumption) | exact N_a6' hS (by assumption) | exact N_a7' hS (by assumption) | exact N_a9' hS (by assumption) | exact N_a10' hS (by assumption) | exact A_630' hS | exact A_631' hS | exact A_632' hS | exact A_633' hS | exact A_635' hS | exact A_636' hS | exact A_637' hS | exact A_638' hS | exact A_639' hS | exact A_2' hS | exact A_55' hS | exact A_56' hS | exact A_57' hS | exact A_58' hS | exact A_59' hS | exact A_60' hS | exact A_61' hS | exact A_62' hS | exact A_63' hS)))
    | ((with_reducible refine st_rem ?_ ?_); first | decide | omega)
    | ((with_reducible refine st_div ?_ ?_); first | decide | omega)
    | ((with_reducible refine is_s (p' := k_X8_goldenOne) ?_ ?_); (exact rfl); refine gm_st1 (by decide) (Nat.le_of_ble_eq_true rfl) (sp_X8_goldenOne hS hb hg7 hgl) ?_; dsimp only [gm_ps])
    | dsimp only [gm_step, gm_c, gm_s1, gm_s2, gm_kl, gm_ps, gm_wd, gm_w1, List.getElem?_cons_succ, List.getElem?_cons_zero, List.set_cons_succ, List.set_cons_zero, List.length_cons, List.length_nil, List.drop_succ_cons, List.drop_zero, List.take_succ_cons, List.take_zero, Nat.reduceAdd, Nat.reduceSub, Nat.reduceLeDiff])
  have ho := tO2_ok hw.1
  have hw4 := t4_wf hw.1 hT
  have hfar5 : farR m5 (t4 N) := fun u v u0 u1 v0 v1 => by
    rw [f5 _ _ (by omega) (by omega), f4 _ _ (by omega), f3 _ _ (by omega), f2 _ _ (by omega), f1 _ _ (by omega) (by omega), n_dst_tr (t4_sc N)]
    exact hf u v u0 u1 v0 v1
  have hfr5 : ∀ c j, c ≠ b → c ≠ 637 → ¬ (c = 629 ∧ j = 17) → m5 c j = m c j := fun c j q1 q2 q3 => by
    rw [f5 c j q2 q3, f4 c j q1, f3 c j q1, f2 c j q1, f1 c j q2 q3]
  clear f1 f2 f3 f4 f5 h1 h2 h3 h4 o1 o2
  refine up_loop2 (α := gm_M) (P := fun i mm => (∀ j, 0 ≤ j → j < i → mm 638 j = -1000000) → (∀ c j, c ≠ 638 → mm c j = m5 c j) → gm_wp (gm_sem MT ro (d + 6)) ro cd_X8_turns (fun r1 S1 m1 => S1 = S ∧ (r1 = none ∧ repB m1 b (trA N) ∧ (∀ k, 0 ≤ k → k < 40 → m1 638 k = tG N k) ∧ (∀ c j, c ≠ b → c ≠ 637 → c ≠ 638 → c ≠ 639 → ¬ (c = 629 ∧ j = 17) → m1 c j = m c j))) 21 [gA 629, gA b, gI (gOne N), gI i] [] S mm) (a := 0) (N := 40) (x := m5) (by omega) ?_ ?_ (fun j a1 a2 => by omega) (fun c j _ => rfl)
  · intro mm g1 g3
    refine gm_hd rfl ?_
    repeat' (first
      | ((with_reducible refine gm_w0 ?_); refine gm_go rfl ?_)
      | ((with_reducible refine sw_cons (fun hc => ?_) (fun hc => ?_)) <;> try (exfalso; omega))
      | with_reducible refine sw_nil ?_
      | simp (disch := omega) only [w32_id, Int.tdiv_eq_ediv_of_nonneg, Int.tmod_eq_emod_of_nonneg, Int.add_zero]
      | ((with_reducible refine st_getI ?_ ?_); first | assumption | exact N_is' hS (by assumption) | exact N_wis' hS (by assumption) | exact C_629' hS | exact N_lis' hS (by assumption) (by omega) (by omega) | exact C_0' hS | exact C_1' hS | exact C_54' hS | exact C_64' hS | exact C_116' hS)
      | ((with_reducible apply st_getR); (first | assumption | exact N_is' hS (by assumption) | exact N_wis' hS (by assumption) | exact C_629' hS | exact N_lis' hS (by assumption) (by omega) (by omega) | exact C_0' hS | exact C_1' hS | exact C_54' hS | exact C_64' hS | exact C_116' hS); (first | assumption | exact N_web' hS (by assumption) | exact N_letters' hS (by assumption) | exact N_golden' hS (by assumption) | exact N_logged' hS (by assumption) | exact N_open' hS (by assumption) | exact N_last' hS (by assumption) | exact N_beyond' hS (by assumption) | exact N_apart' hS (by assumption) | exact N_steps' hS (by assumption) | exact N_reached' hS (by assumption) | exact F_0_0' hS | exact F_0_1' hS | exact F_0_2' hS | exact F_0_3' hS | exact F_0_4' hS | exact F_0_5' hS | exact F_1_0' hS | exact F_54_0' hS | exact F_54_1' hS | exact F_54_4' hS | exact F_54_5' hS | exact F_54_6' hS | exact F_54_7' hS | exact F_54_8' hS | exact F_54_9' hS | exact F_54_10' hS | exact F_64_0' hS | exact F_64_1' hS | exact F_116_0' hS | exact F_629_0' hS | exact F_629_1' hS | exact F_629_2' hS | exact F_629_4' hS | exact F_629_5' hS | exact F_629_6' hS | exact F_629_15' hS | exact F_629_16' hS | exact F_629_18' hS | exact F_629_19' hS))
      | ((with_reducible refine st_putI ?_ ?_); first | assumption | exact N_is' hS (by assumption) | exact N_wis' hS (by assumption) | exact C_629' hS | exact N_lis' hS (by assumption) (by omega) (by omega) | exact C_0' hS | exact C_1' hS | exact C_54' hS | exact C_64' hS | exact C_116' hS)
      | ((with_reducible refine st_iald ?_ ?_); refine in_of (by first | assumption | exact N_a2' hS (by assumption) | exact N_a3' hS (by assumption) | exact N_a4' hS (by assumption) | exact N_a5' hS (by assumption) | exact N_a6' hS (by assumption) | exact N_a7' hS (by assumption) | exact N_a9' hS (by assumption) | exact N_a10' hS (by assumption) | exact A_630' hS | exact A_631' hS | exact A_632' hS | exact A_633' hS | exact A_635' hS | exact A_636' hS | exact A_637' hS | exact A_638' hS | exact A_639' hS | exact A_2' hS | exact A_55' hS | exact A_56' hS | exact A_57' hS | exact A_58' hS | exact A_59' hS | exact A_60' hS | exact A_61' hS | exact A_62' hS | exact A_63' hS) (by omega) (by omega))
      | ((with_reducible refine st_iast ?_ ?_); refine in_of (by first | assumption | exact N_a2' hS (by assumption) | exact N_a3' hS (by assumption) | exact N_a4' hS (by assumption) | exact N_a5' hS (by assumption) | exact N_a6' hS (by assumption) | exact N_a7' hS (by assumption) | exact N_a9' hS (by assumption) | exact N_a10' hS (by assumption) | exact A_630' hS | exact A_631' hS | exact A_632' hS | exact A_633' hS | exact A_635' hS | exact A_636' hS | exact A_637' hS | exact A_638' hS | exact A_639' hS | exact A_2' hS | exact A_55' hS | exact A_56' hS | exact A_57' hS | exact A_58' hS | exact A_59' hS | exact A_60' hS | exact A_61' hS | exact A_62' hS | exact A_63' hS) (by omega) (by omega))
      | ((with_reducible apply st_aald); (exact N_lin' hS (by assumption) (by omega) (by omega)); (exact N_lrf' hS (by assumption) (by omega) (by omega)))
      | ((with_reducible refine st_icmp (fun hc => ?_) (fun hc => ?_)) <;> (try dsimp only [gm_c] at hc) <;> (try simp only [gm_cmp_lt, gm_cmp_gt, gm_cmp_le, gm_cmp_ge, ite_0, ite_1, ne_eq, Classical.not_not] at hc) <;> try (first | (exfalso; omega) | exact absurd trivial hc))
      | ((with_reducible refine st_if (fun hc => ?_) (fun hc => ?_)) <;> (try dsimp only [gm_c] at hc) <;> (try simp only [gm_cmp_lt, gm_cmp_gt, gm_cmp_le, gm_cmp_ge, ite_0, ite_1, ne_eq, Classical.not_not] at hc) <;> try (first | (exfalso; omega) | exact absurd trivial hc))
      | ((with_reducible refine st_ret ?_ ?_); first | exact Or.inl rfl | exact Or.inr (Or.inl rfl) | exact Or.inr (Or.inr rfl))
      | ((with_reducible refine is_s (p' := 998) ?_ ?_); (exact rfl); refine st_copy (by first | assumption | exact N_a2' hS (by assumption) | exact N_a3' hS (by assumption) | exact N_a4' hS (by assumption) | exact N_a5' hS (by assumption) | exact N_a6' hS (by assumption) | exact N_a7' hS (by assumption) | exact N_a9' hS (by assumption) | exact N_a10' hS (by assumption) | exact A_630' hS | exact A_631' hS | exact A_632' hS | exact A_633' hS | exact A_635' hS | exact A_636' hS | exact A_637' hS | exact A_638' hS | exact A_639' hS | exact A_2' hS | exact A_55' hS | exact A_56' hS | exact A_57' hS | exact A_58' hS | exact A_59' hS | exact A_60' hS | exact A_61' hS | exact A_62' hS | exact A_63' hS) (by first | assumption | exact N_a2' hS (by assumption) | exact N_a3' hS (by assumption) | exact N_a4' hS (by assumption) | exact N_a5' hS (by assumption) | exact N_a6' hS (by assumption) | exact N_a7' hS (by assumption) | exact N_a9' hS (by assumption) | exact N_a10' hS (by assumption) | exact A_630' hS | exact A_631' hS | exact A_632' hS | exact A_633' hS | exact A_635' hS | exact A_636' hS | exact A_637' hS | exact A_638' hS | exact A_639' hS | exact A_2' hS | exact A_55' hS | exact A_56' hS | exact A_57' hS | exact A_58' hS | exact A_59' hS | exact A_60' hS | exact A_61' hS | exact A_62' hS | exact A_63' hS) (by omega) (by omega) (by omega) (by omega) (by omega) (Nat.le_of_ble_eq_true rfl) gm_999s ?_)
      | ((with_reducible refine is_s (p' := 997) ?_ ?_); (exact rfl); refine st_max (Nat.le_of_ble_eq_true rfl) gm_999s ?_)
      | ((with_reducible refine is_s (p' := 996) ?_ ?_); (exact rfl); refine st_min (Nat.le_of_ble_eq_true rfl) gm_999s ?_)
      | ((with_reducible apply st_alen); (refine is_of_ar (by first | assumption | exact N_a2' hS (by assumption) | exact N_a3' hS (by assumption) | exact N_a4' hS (by assumption) | exact N_a5' hS (by assumption) | exact N_a6' hS (by assumption) | exact N_a7' hS (by assumption) | exact N_a9' hS (by assumption) | exact N_a10' hS (by assumption) | exact A_630' hS | exact A_631' hS | exact A_632' hS | exact A_633' hS | exact A_635' hS | exact A_636' hS | exact A_637' hS | exact A_638' hS | exact A_639' hS | exact A_2' hS | exact A_55' hS | exact A_56' hS | exact A_57' hS | exact A_58' hS | exact A_59' hS | exact A_60' hS | exact A_61' hS | exact A_62' hS | exact A_63' hS)); (exact len_of_ar (by first | assumption | exact N_a2' hS (by assumption) | exact N_a3' hS (by assumption) | exact N_a4' hS (by assumption) | exact N_a5' hS (by assumption) | exact N_a6' hS (by assumption) | exact N_a7' hS (by assumption) | exact N_a9' hS (by assumption) | exact N_a10' hS (by assumption) | exact A_630' hS | exact A_631' hS | exact A_632' hS | exact A_633' hS | exact A_635' hS | exact A_636' hS | exact A_637' hS | exact A_638' hS | exact A_639' hS | exact A_2' hS | exact A_55' hS | exact A_56' hS | exact A_57' hS | exact A_58' hS | exact A_59' hS | exact A_60' hS | exact A_61' hS | exact A_62' hS | exact A_63' hS)))
      | ((with_reducible refine st_rem ?_ ?_); first | decide | omega)
      | ((with_reducible refine st_div ?_ ?_); first | decide | omega)
      | dsimp only [gm_step, gm_c, gm_s1, gm_s2, gm_kl, gm_ps, gm_wd, gm_w1, List.getElem?_cons_succ, List.getElem?_cons_zero, List.set_cons_succ, List.set_cons_zero, List.length_cons, List.length_nil, List.drop_succ_cons, List.drop_zero, List.take_succ_cons, List.take_zero, Nat.reduceAdd, Nat.reduceSub, Nat.reduceLeDiff])
    refine up_loop2 (α := gm_M) (P := fun v mm => (∀ k, 0 ≤ k → k < 40 → mm 638 k = if ((0 ≤ k ∧ k < n_sc N 5) ∧ n_le (t4 N) k 3 = 1) ∧ n_le (t4 N) k 4 < v then tG N k else -1000000) → (∀ c j, c ≠ 638 → c ≠ 639 → mm c j = m5 c j) → gm_wp (gm_sem MT ro (d + 6)) ro cd_X8_turns (fun r1 S1 m1 => S1 = S ∧ (r1 = none ∧ repB m1 b (trA N) ∧ (∀ k, 0 ≤ k → k < 40 → m1 638 k = tG N k) ∧ (∀ c j, c ≠ b → c ≠ 637 → c ≠ 638 → c ≠ 639 → ¬ (c = 629 ∧ j = 17) → m1 c j = m c j))) 33 [gA 629, gA b, gI (gOne N), gI v] [] S mm) (a := 0) (N := nd N) (x := mm) (by omega) ?_ ?_ (fun k k0 k1 => ?_) (fun c j q _ => g3 c j q)
    · intro mm g1 g3
      have hr : repB mm b (t4 N) := repB_fr h5 (fun j => g3 b j (by omega) (by omega))
      have hfm : farR mm (t4 N) := fun u v u0 u1 v0 v1 => by rw [g3 _ _ (by omega) (by omega)]; exact hfar5 u v u0 u1 v0 v1
      obtain ⟨hw0, hh0, hnd0⟩ := repB_nd hr hw4.1
      have hnd0 : w32 (mm b 0 * mm b 1) = nd N := hnd0
      have hgg : ∀ k, 0 ≤ k → k < 40 → mm 638 k = tG N k := fun k k0 k1 => by
        rw [g1 k k0 k1]
        by_cases q : (0 ≤ k ∧ k < n_sc N 5) ∧ n_le (t4 N) k 3 = 1
        · have := (hw4.2.2.2.2 k q.1.1 q.1.2).1.2.2.2.2
          rw [if_pos ⟨q, this.2⟩]
        · rw [if_neg (fun z => q z.1)]
          unfold tG goA
          rw [if_neg (show ¬ ((0 ≤ k ∧ k < n_sc (t4 N) 5) ∧ n_le (t4 N) k 3 = 1) from q)]
      refine gm_hd rfl ?_
      repeat' (first
        | ((with_reducible refine gm_w0 ?_); refine gm_go rfl ?_)
        | ((with_reducible refine sw_cons (fun hc => ?_) (fun hc => ?_)) <;> try (exfalso; omega))
        | with_reducible refine sw_nil ?_
        | simp (disch := omega) only [w32_id, Int.tdiv_eq_ediv_of_nonneg, Int.tmod_eq_emod_of_nonneg, Int.add_zero]
        | simp only [hnd0]
        | ((with_reducible refine is_v (p' := k_X8_moves) ?_ ?_); (exact rfl); refine gm_rv2 (Nat.le_of_ble_eq_true rfl) (by first | assumption | exact N_is' hS (by assumption) | exact N_wis' hS (by assumption) | exact C_629' hS | exact N_lis' hS (by assumption) (by omega) (by omega) | exact C_0' hS | exact C_1' hS | exact C_54' hS | exact C_64' hS | exact C_116' hS) (sp_X8_moves hS hb2 hr hw4 hfm hT hT2 (t4_yn hw.1 hT) (tG_ok hw hT) (fun k k0 k1 _ => hgg k k0 (by have : k < n_sc N 5 := k1; omega))) ?_; rintro r6 m6 ⟨rfl, h6, f6⟩; dsimp only [gm_ps])
        | ((with_reducible refine st_getI ?_ ?_); first | assumption | exact N_is' hS (by assumption) | exact N_wis' hS (by assumption) | exact C_629' hS | exact N_lis' hS (by assumption) (by omega) (by omega) | exact C_0' hS | exact C_1' hS | exact C_54' hS | exact C_64' hS | exact C_116' hS)
        | ((with_reducible apply st_getR); (first | assumption | exact N_is' hS (by assumption) | exact N_wis' hS (by assumption) | exact C_629' hS | exact N_lis' hS (by assumption) (by omega) (by omega) | exact C_0' hS | exact C_1' hS | exact C_54' hS | exact C_64' hS | exact C_116' hS); (first | assumption | exact N_web' hS (by assumption) | exact N_letters' hS (by assumption) | exact N_golden' hS (by assumption) | exact N_logged' hS (by assumption) | exact N_open' hS (by assumption) | exact N_last' hS (by assumption) | exact N_beyond' hS (by assumption) | exact N_apart' hS (by assumption) | exact N_steps' hS (by assumption) | exact N_reached' hS (by assumption) | exact F_0_0' hS | exact F_0_1' hS | exact F_0_2' hS | exact F_0_3' hS | exact F_0_4' hS | exact F_0_5' hS | exact F_1_0' hS | exact F_54_0' hS | exact F_54_1' hS | exact F_54_4' hS | exact F_54_5' hS | exact F_54_6' hS | exact F_54_7' hS | exact F_54_8' hS | exact F_54_9' hS | exact F_54_10' hS | exact F_64_0' hS | exact F_64_1' hS | exact F_116_0' hS | exact F_629_0' hS | exact F_629_1' hS | exact F_629_2' hS | exact F_629_4' hS | exact F_629_5' hS | exact F_629_6' hS | exact F_629_15' hS | exact F_629_16' hS | exact F_629_18' hS | exact F_629_19' hS))
        | ((with_reducible refine st_putI ?_ ?_); first | assumption | exact N_is' hS (by assumption) | exact N_wis' hS (by assumption) | exact C_629' hS | exact N_lis' hS (by assumption) (by omega) (by omega) | exact C_0' hS | exact C_1' hS | exact C_54' hS | exact C_64' hS | exact C_116' hS)
        | ((with_reducible refine st_iald ?_ ?_); refine in_of (by first | assumption | exact N_a2' hS (by assumption) | exact N_a3' hS (by assumption) | exact N_a4' hS (by assumption) | exact N_a5' hS (by assumption) | exact N_a6' hS (by assumption) | exact N_a7' hS (by assumption) | exact N_a9' hS (by assumption) | exact N_a10' hS (by assumption) | exact A_630' hS | exact A_631' hS | exact A_632' hS | exact A_633' hS | exact A_635' hS | exact A_636' hS | exact A_637' hS | exact A_638' hS | exact A_639' hS | exact A_2' hS | exact A_55' hS | exact A_56' hS | exact A_57' hS | exact A_58' hS | exact A_59' hS | exact A_60' hS | exact A_61' hS | exact A_62' hS | exact A_63' hS) (by omega) (by omega))
        | ((with_reducible refine st_iast ?_ ?_); refine in_of (by first | assumption | exact N_a2' hS (by assumption) | exact N_a3' hS (by assumption) | exact N_a4' hS (by assumption) | exact N_a5' hS (by assumption) | exact N_a6' hS (by assumption) | exact N_a7' hS (by assumption) | exact N_a9' hS (by assumption) | exact N_a10' hS (by assumption) | exact A_630' hS | exact A_631' hS | exact A_632' hS | exact A_633' hS | exact A_635' hS | exact A_636' hS | exact A_637' hS | exact A_638' hS | exact A_639' hS | exact A_2' hS | exact A_55' hS | exact A_56' hS | exact A_57' hS | exact A_58' hS | exact A_59' hS | exact A_60' hS | exact A_61' hS | exact A_62' hS | exact A_63' hS) (by omega) (by omega))
        | ((with_reducible apply st_aald); (exact N_lin' hS (by assumption) (by omega) (by omega)); (exact N_lrf' hS (by assumption) (by omega) (by omega)))
        | ((with_reducible refine st_icmp (fun hc => ?_) (fun hc => ?_)) <;> (try dsimp only [gm_c] at hc) <;> (try simp only [gm_cmp_lt, gm_cmp_gt, gm_cmp_le, gm_cmp_ge, ite_0, ite_1, ne_eq, Classical.not_not] at hc) <;> try (first | (exfalso; omega) | exact absurd trivial hc))
        | ((with_reducible refine st_if (fun hc => ?_) (fun hc => ?_)) <;> (try dsimp only [gm_c] at hc) <;> (try simp only [gm_cmp_lt, gm_cmp_gt, gm_cmp_le, gm_cmp_ge, ite_0, ite_1, ne_eq, Classical.not_not] at hc) <;> try (first | (exfalso; omega) | exact absurd trivial hc))
        | ((with_reducible refine st_ret ?_ ?_); first | exact Or.inl rfl | exact Or.inr (Or.inl rfl) | exact Or.inr (Or.inr rfl))
        | ((with_reducible refine is_s (p' := 998) ?_ ?_); (exact rfl); refine st_copy (by first | assumption | exact N_a2' hS (by assumption) | exact N_a3' hS (by assumption) | exact N_a4' hS (by assumption) | exact N_a5' hS (by assumption) | exact N_a6' hS (by assumption) | exact N_a7' hS (by assumption) | exact N_a9' hS (by assumption) | exact N_a10' hS (by assumption) | exact A_630' hS | exact A_631' hS | exact A_632' hS | exact A_633' hS | exact A_635' hS | exact A_636' hS | exact A_637' hS | exact A_638' hS | exact A_639' hS | exact A_2' hS | exact A_55' hS | exact A_56' hS | exact A_57' hS | exact A_58' hS | exact A_59' hS | exact A_60' hS | exact A_61' hS | exact A_62' hS | exact A_63' hS) (by first | assumption | exact N_a2' hS (by assumption) | exact N_a3' hS (by assumption) | exact N_a4' hS (by assumption) | exact N_a5' hS (by assumption) | exact N_a6' hS (by assumption) | exact N_a7' hS (by assumption) | exact N_a9' hS (by assumption) | exact N_a10' hS (by assumption) | exact A_630' hS | exact A_631' hS | exact A_632' hS | exact A_633' hS | exact A_635' hS | exact A_636' hS | exact A_637' hS | exact A_638' hS | exact A_639' hS | exact A_2' hS | exact A_55' hS | exact A_56' hS | exact A_57' hS | exact A_58' hS | exact A_59' hS | exact A_60' hS | exact A_61' hS | exact A_62' hS | exact A_63' hS) (by omega) (by omega) (by omega) (by omega) (by omega) (Nat.le_of_ble_eq_true rfl) gm_999s ?_)
        | ((with_reducible refine is_s (p' := 997) ?_ ?_); (exact rfl); refine st_max (Nat.le_of_ble_eq_true rfl) gm_999s ?_)
        | ((with_reducible refine is_s (p' := 996) ?_ ?_); (exact rfl); refine st_min (Nat.le_of_ble_eq_true rfl) gm_999s ?_)
        | ((with_reducible apply st_alen); (refine is_of_ar (by first | assumption | exact N_a2' hS (by assumption) | exact N_a3' hS (by assumption) | exact N_a4' hS (by assumption) | exact N_a5' hS (by assumption) | exact N_a6' hS (by assumption) | exact N_a7' hS (by assumption) | exact N_a9' hS (by assumption) | exact N_a10' hS (by assumption) | exact A_630' hS | exact A_631' hS | exact A_632' hS | exact A_633' hS | exact A_635' hS | exact A_636' hS | exact A_637' hS | exact A_638' hS | exact A_639' hS | exact A_2' hS | exact A_55' hS | exact A_56' hS | exact A_57' hS | exact A_58' hS | exact A_59' hS | exact A_60' hS | exact A_61' hS | exact A_62' hS | exact A_63' hS)); (exact len_of_ar (by first | assumption | exact N_a2' hS (by assumption) | exact N_a3' hS (by assumption) | exact N_a4' hS (by assumption) | exact N_a5' hS (by assumption) | exact N_a6' hS (by assumption) | exact N_a7' hS (by assumption) | exact N_a9' hS (by assumption) | exact N_a10' hS (by assumption) | exact A_630' hS | exact A_631' hS | exact A_632' hS | exact A_633' hS | exact A_635' hS | exact A_636' hS | exact A_637' hS | exact A_638' hS | exact A_639' hS | exact A_2' hS | exact A_55' hS | exact A_56' hS | exact A_57' hS | exact A_58' hS | exact A_59' hS | exact A_60' hS | exact A_61' hS | exact A_62' hS | exact A_63' hS)))
        | ((with_reducible refine st_rem ?_ ?_); first | decide | omega)
        | ((with_reducible refine st_div ?_ ?_); first | decide | omega)
        | ((with_reducible refine is_s (p' := k_X8_nodes) ?_ ?_); (exact rfl); refine gm_st1 (by decide) (Nat.le_of_ble_eq_true rfl) (sp_X8_nodes hS hb (by assumption) (by assumption)) ?_; dsimp only [gm_ps])
        | dsimp only [gm_step, gm_c, gm_s1, gm_s2, gm_kl, gm_ps, gm_wd, gm_w1, List.getElem?_cons_succ, List.getElem?_cons_zero, List.set_cons_succ, List.set_cons_zero, List.length_cons, List.length_nil, List.drop_succ_cons, List.drop_zero, List.take_succ_cons, List.take_zero, Nat.reduceAdd, Nat.reduceSub, Nat.reduceLeDiff])
      exact ⟨(by first | rfl | trivial), (by first | rfl | trivial), h6, fun k k0 k1 => by rw [f6 _ _ (by omega)]; exact hgg k k0 k1, fun c j q1 q2 q3 q4 q5 => by rw [f6 c j q1, g3 c j q3 q4]; exact hfr5 c j q1 q2 q5⟩
    · intro v hv1 hv2 ih mm g1 g3
      have hr : repB mm b (t4 N) := repB_fr h5 (fun j => g3 b j (by omega) (by omega))
      have hfm : farR mm (t4 N) := fun u v u0 u1 v0 v1 => by rw [g3 _ _ (by omega) (by omega)]; exact hfar5 u v u0 u1 v0 v1
      have hom : ordR mm (tO2 N).1 (tO2 N).2 := ⟨by rw [g3 _ _ (by omega) (by omega)]; exact o5.1, fun i i0 i1 => by rw [g3 _ _ (by omega) (by omega)]; exact o5.2 i i0 i1⟩
      obtain ⟨hw0, hh0, hnd0⟩ := repB_nd hr hw4.1
      have hnd0 : w32 (mm b 0 * mm b 1) = nd N := hnd0
      have e2 : mm b 2 = n_sc N 2 := hr.1 2 (by omega)
      have e13 : mm b (13 + v) = n_sc N (13 + v) := hr.1 (13 + v) (by omega)
      have hrm := t4_rm hw.1 hT
      have hps : ∀ k, 0 ≤ k ∧ k < n_sc N 5 → n_le (t4 N) k 3 = 1 → (0 ≤ psO (tO2 N).1 (tO2 N).2 k ∧ psO (tO2 N).1 (tO2 N).2 k < (tO2 N).2) := fun k a c => by
        rcases psO_c (O := (tO2 N).1) ho.1.1 k with ⟨-, q⟩ | q
        · obtain ⟨i, hi, e⟩ := ho.2.2.2 k a.1 a.2 c
          exact absurd e (q i hi.1 hi.2)
        · exact q.1
      have hps2 : ∀ k, (0 ≤ psO (tO2 N).1 (tO2 N).2 k ∧ psO (tO2 N).1 (tO2 N).2 k < (tO2 N).2) → (0 ≤ k ∧ k < n_sc N 5) ∧ n_le (t4 N) k 3 = 1 := fun k q => by
        rcases psO_c (O := (tO2 N).1) ho.1.1 k with ⟨y, -⟩ | y
        · omega
        · have := ho.2.1 _ y.1.1 y.1.2
          rw [y.2] at this
          exact this
      refine gm_hd rfl ?_
      by_cases hs : swA (t4 N) v
      · have hs2 : n_sc N 2 = 2 := hs.1
        have hs3 : n_sc N (13 + v) = 15 := hs.2
        have hl4 : hrA (t4 N) v ≤ 4 := by
          have := hrm v hv1 hv2
          have e : lkA (t4 N) v = 4 := by unfold lkA; rw [hs.2]; exact on_15
          omega
        have hgs := gsA_ok ho (WF_cm hw4) (stA_ok (v := v) ho hw4 (t4_fc hw hT) hl4)
        repeat' (first
          | ((with_reducible refine gm_w0 ?_); refine gm_go rfl ?_)
          | ((with_reducible refine sw_cons (fun hc => ?_) (fun hc => ?_)) <;> try (exfalso; omega))
          | with_reducible refine sw_nil ?_
          | simp (disch := omega) only [w32_id, Int.tdiv_eq_ediv_of_nonneg, Int.tmod_eq_emod_of_nonneg, Int.add_zero]
          | simp only [hnd0, e2, e13]
          | ((with_reducible refine is_v (p' := k_X8_swaps) ?_ ?_); (exact rfl); refine gm_rv3 (Nat.le_of_ble_eq_true rfl) (by first | assumption | exact N_is' hS (by assumption) | exact N_wis' hS (by assumption) | exact C_629' hS | exact N_lis' hS (by assumption) (by omega) (by omega) | exact C_0' hS | exact C_1' hS | exact C_54' hS | exact C_64' hS | exact C_116' hS) (sp_X8_swaps hS hb2 hr hw4 hfm ho hom ⟨hv1, hv2⟩ (t4_fc hw hT) hl4) ?_; rintro r6 m6 ⟨rfl, p6, f6⟩; dsimp only [gm_ps])
          | ((with_reducible refine st_getI ?_ ?_); first | assumption | exact N_is' hS (by assumption) | exact N_wis' hS (by assumption) | exact C_629' hS | exact N_lis' hS (by assumption) (by omega) (by omega) | exact C_0' hS | exact C_1' hS | exact C_54' hS | exact C_64' hS | exact C_116' hS)
          | ((with_reducible apply st_getR); (first | assumption | exact N_is' hS (by assumption) | exact N_wis' hS (by assumption) | exact C_629' hS | exact N_lis' hS (by assumption) (by omega) (by omega) | exact C_0' hS | exact C_1' hS | exact C_54' hS | exact C_64' hS | exact C_116' hS); (first | assumption | exact N_web' hS (by assumption) | exact N_letters' hS (by assumption) | exact N_golden' hS (by assumption) | exact N_logged' hS (by assumption) | exact N_open' hS (by assumption) | exact N_last' hS (by assumption) | exact N_beyond' hS (by assumption) | exact N_apart' hS (by assumption) | exact N_steps' hS (by assumption) | exact N_reached' hS (by assumption) | exact F_0_0' hS | exact F_0_1' hS | exact F_0_2' hS | exact F_0_3' hS | exact F_0_4' hS | exact F_0_5' hS | exact F_1_0' hS | exact F_54_0' hS | exact F_54_1' hS | exact F_54_4' hS | exact F_54_5' hS | exact F_54_6' hS | exact F_54_7' hS | exact F_54_8' hS | exact F_54_9' hS | exact F_54_10' hS | exact F_64_0' hS | exact F_64_1' hS | exact F_116_0' hS | exact F_629_0' hS | exact F_629_1' hS | exact F_629_2' hS | exact F_629_4' hS | exact F_629_5' hS | exact F_629_6' hS | exact F_629_15' hS | exact F_629_16' hS | exact F_629_18' hS | exact F_629_19' hS))
          | ((with_reducible refine st_putI ?_ ?_); first | assumption | exact N_is' hS (by assumption) | exact N_wis' hS (by assumption) | exact C_629' hS | exact N_lis' hS (by assumption) (by omega) (by omega) | exact C_0' hS | exact C_1' hS | exact C_54' hS | exact C_64' hS | exact C_116' hS)
          | ((with_reducible refine st_iald ?_ ?_); refine in_of (by first | assumption | exact N_a2' hS (by assumption) | exact N_a3' hS (by assumption) | exact N_a4' hS (by assumption) | exact N_a5' hS (by assumption) | exact N_a6' hS (by assumption) | exact N_a7' hS (by assumption) | exact N_a9' hS (by assumption) | exact N_a10' hS (by assumption) | exact A_630' hS | exact A_631' hS | exact A_632' hS | exact A_633' hS | exact A_635' hS | exact A_636' hS | exact A_637' hS | exact A_638' hS | exact A_639' hS | exact A_2' hS | exact A_55' hS | exact A_56' hS | exact A_57' hS | exact A_58' hS | exact A_59' hS | exact A_60' hS | exact A_61' hS | exact A_62' hS | exact A_63' hS) (by omega) (by omega))
          | ((with_reducible refine st_iast ?_ ?_); refine in_of (by first | assumption | exact N_a2' hS (by assumption) | exact N_a3' hS (by assumption) | exact N_a4' hS (by assumption) | exact N_a5' hS (by assumption) | exact N_a6' hS (by assumption) | exact N_a7' hS (by assumption) | exact N_a9' hS (by assumption) | exact N_a10' hS (by assumption) | exact A_630' hS | exact A_631' hS | exact A_632' hS | exact A_633' hS | exact A_635' hS | exact A_636' hS | exact A_637' hS | exact A_638' hS | exact A_639' hS | exact A_2' hS | exact A_55' hS | exact A_56' hS | exact A_57' hS | exact A_58' hS | exact A_59' hS | exact A_60' hS | exact A_61' hS | exact A_62' hS | exact A_63' hS) (by omega) (by omega))
          | ((with_reducible apply st_aald); (exact N_lin' hS (by assumption) (by omega) (by omega)); (exact N_lrf' hS (by assumption) (by omega) (by omega)))
          | ((with_reducible refine st_icmp (fun hc => ?_) (fun hc => ?_)) <;> (try dsimp only [gm_c] at hc) <;> (try simp only [gm_cmp_lt, gm_cmp_gt, gm_cmp_le, gm_cmp_ge, ite_0, ite_1, ne_eq, Classical.not_not] at hc) <;> try (first | (exfalso; omega) | exact absurd trivial hc))
          | ((with_reducible refine st_if (fun hc => ?_) (fun hc => ?_)) <;> (try dsimp only [gm_c] at hc) <;> (try simp only [gm_cmp_lt, gm_cmp_gt, gm_cmp_le, gm_cmp_ge, ite_0, ite_1, ne_eq, Classical.not_not] at hc) <;> try (first | (exfalso; omega) | exact absurd trivial hc))
          | ((with_reducible refine st_ret ?_ ?_); first | exact Or.inl rfl | exact Or.inr (Or.inl rfl) | exact Or.inr (Or.inr rfl))
          | ((with_reducible refine is_s (p' := 998) ?_ ?_); (exact rfl); refine st_copy (by first | assumption | exact N_a2' hS (by assumption) | exact N_a3' hS (by assumption) | exact N_a4' hS (by assumption) | exact N_a5' hS (by assumption) | exact N_a6' hS (by assumption) | exact N_a7' hS (by assumption) | exact N_a9' hS (by assumption) | exact N_a10' hS (by assumption) | exact A_630' hS | exact A_631' hS | exact A_632' hS | exact A_633' hS | exact A_635' hS | exact A_636' hS | exact A_637' hS | exact A_638' hS | exact A_639' hS | exact A_2' hS | exact A_55' hS | exact A_56' hS | exact A_57' hS | exact A_58' hS | exact A_59' hS | exact A_60' hS | exact A_61' hS | exact A_62' hS | exact A_63' hS) (by first | assumption | exact N_a2' hS (by assumption) | exact N_a3' hS (by assumption) | exact N_a4' hS (by assumption) | exact N_a5' hS (by assumption) | exact N_a6' hS (by assumption) | exact N_a7' hS (by assumption) | exact N_a9' hS (by assumption) | exact N_a10' hS (by assumption) | exact A_630' hS | exact A_631' hS | exact A_632' hS | exact A_633' hS | exact A_635' hS | exact A_636' hS | exact A_637' hS | exact A_638' hS | exact A_639' hS | exact A_2' hS | exact A_55' hS | exact A_56' hS | exact A_57' hS | exact A_58' hS | exact A_59' hS | exact A_60' hS | exact A_61' hS | exact A_62' hS | exact A_63' hS) (by omega) (by omega) (by omega) (by omega) (by omega) (Nat.le_of_ble_eq_true rfl) gm_999s ?_)
          | ((with_reducible refine is_s (p' := 997) ?_ ?_); (exact rfl); refine st_max (Nat.le_of_ble_eq_true rfl) gm_999s ?_)
          | ((with_reducible refine is_s (p' := 996) ?_ ?_); (exact rfl); refine st_min (Nat.le_of_ble_eq_true rfl) gm_999s ?_)
          | ((with_reducible apply st_alen); (refine is_of_ar (by first | assumption | exact N_a2' hS (by assumption) | exact N_a3' hS (by assumption) | exact N_a4' hS (by assumption) | exact N_a5' hS (by assumption) | exact N_a6' hS (by assumption) | exact N_a7' hS (by assumption) | exact N_a9' hS (by assumption) | exact N_a10' hS (by assumption) | exact A_630' hS | exact A_631' hS | exact A_632' hS | exact A_633' hS | exact A_635' hS | exact A_636' hS | exact A_637' hS | exact A_638' hS | exact A_639' hS | exact A_2' hS | exact A_55' hS | exact A_56' hS | exact A_57' hS | exact A_58' hS | exact A_59' hS | exact A_60' hS | exact A_61' hS | exact A_62' hS | exact A_63' hS)); (exact len_of_ar (by first | assumption | exact N_a2' hS (by assumption) | exact N_a3' hS (by assumption) | exact N_a4' hS (by assumption) | exact N_a5' hS (by assumption) | exact N_a6' hS (by assumption) | exact N_a7' hS (by assumption) | exact N_a9' hS (by assumption) | exact N_a10' hS (by assumption) | exact A_630' hS | exact A_631' hS | exact A_632' hS | exact A_633' hS | exact A_635' hS | exact A_636' hS | exact A_637' hS | exact A_638' hS | exact A_639' hS | exact A_2' hS | exact A_55' hS | exact A_56' hS | exact A_57' hS | exact A_58' hS | exact A_59' hS | exact A_60' hS | exact A_61' hS | exact A_62' hS | exact A_63' hS)))
          | ((with_reducible refine st_rem ?_ ?_); first | decide | omega)
          | ((with_reducible refine st_div ?_ ?_); first | decide | omega)
          | ((with_reducible refine is_s (p' := k_X8_nodes) ?_ ?_); (exact rfl); refine gm_st1 (by decide) (Nat.le_of_ble_eq_true rfl) (sp_X8_nodes hS hb (by assumption) (by assumption)) ?_; dsimp only [gm_ps])
          | dsimp only [gm_step, gm_c, gm_s1, gm_s2, gm_kl, gm_ps, gm_wd, gm_w1, List.getElem?_cons_succ, List.getElem?_cons_zero, List.set_cons_succ, List.set_cons_zero, List.length_cons, List.length_nil, List.drop_succ_cons, List.drop_zero, List.take_succ_cons, List.take_zero, Nat.reduceAdd, Nat.reduceSub, Nat.reduceLeDiff])
        refine ih _ (fun k k0 k1 => ?_) (fun c j q1 q2 => by rw [f6 c j q1 q2]; exact g3 c j q1 q2)
        rw [p6 k k0]
        by_cases q : fly (t4 N) v k
        · have := hgs.1 k q
          rw [if_neg (by omega), if_pos ⟨⟨q.1, q.2.1⟩, by have := q.2.2; omega⟩]
          unfold tG goA
          rw [if_pos ⟨q.1, q.2.1⟩, q.2.2, if_pos hs]
        · rw [if_pos (hgs.2.2 k k0 q), g1 k k0 k1]
          by_cases z : ((0 ≤ k ∧ k < n_sc N 5) ∧ n_le (t4 N) k 3 = 1) ∧ n_le (t4 N) k 4 < v
          · rw [if_pos z, if_pos ⟨z.1, by omega⟩]
          · rw [if_neg z, if_neg]
            intro y
            have : n_le (t4 N) k 4 ≠ v := fun x => q ⟨y.1.1, y.1.2, x⟩
            exact z ⟨y.1, by omega⟩
      · have hs2 : ¬ (n_sc N 2 = 2 ∧ n_sc N (13 + v) = 15) := hs
        repeat' (first
          | ((with_reducible refine gm_w0 ?_); refine gm_go rfl ?_)
          | ((with_reducible refine sw_cons (fun hc => ?_) (fun hc => ?_)) <;> try (exfalso; omega))
          | with_reducible refine sw_nil ?_
          | simp (disch := omega) only [w32_id, Int.tdiv_eq_ediv_of_nonneg, Int.tmod_eq_emod_of_nonneg, Int.add_zero]
          | simp only [hnd0, e2, e13]
          | ((with_reducible refine is_v (p' := k_X8_takes) ?_ ?_); (exact rfl); refine gm_rv3 (Nat.le_of_ble_eq_true rfl) (by first | assumption | exact N_is' hS (by assumption) | exact N_wis' hS (by assumption) | exact C_629' hS | exact N_lis' hS (by assumption) (by omega) (by omega) | exact C_0' hS | exact C_1' hS | exact C_54' hS | exact C_64' hS | exact C_116' hS) (sp_X8_takes hS hb2 hr hw4 hfm ho hom hrm ⟨hv1, hv2⟩) ?_; rintro r6 m6 ⟨rfl, p6, f6⟩; dsimp only [gm_ps])
          | ((with_reducible refine st_getI ?_ ?_); first | assumption | exact N_is' hS (by assumption) | exact N_wis' hS (by assumption) | exact C_629' hS | exact N_lis' hS (by assumption) (by omega) (by omega) | exact C_0' hS | exact C_1' hS | exact C_54' hS | exact C_64' hS | exact C_116' hS)
          | ((with_reducible apply st_getR); (first | assumption | exact N_is' hS (by assumption) | exact N_wis' hS (by assumption) | exact C_629' hS | exact N_lis' hS (by assumption) (by omega) (by omega) | exact C_0' hS | exact C_1' hS | exact C_54' hS | exact C_64' hS | exact C_116' hS); (first | assumption | exact N_web' hS (by assumption) | exact N_letters' hS (by assumption) | exact N_golden' hS (by assumption) | exact N_logged' hS (by assumption) | exact N_open' hS (by assumption) | exact N_last' hS (by assumption) | exact N_beyond' hS (by assumption) | exact N_apart' hS (by assumption) | exact N_steps' hS (by assumption) | exact N_reached' hS (by assumption) | exact F_0_0' hS | exact F_0_1' hS | exact F_0_2' hS | exact F_0_3' hS | exact F_0_4' hS | exact F_0_5' hS | exact F_1_0' hS | exact F_54_0' hS | exact F_54_1' hS | exact F_54_4' hS | exact F_54_5' hS | exact F_54_6' hS | exact F_54_7' hS | exact F_54_8' hS | exact F_54_9' hS | exact F_54_10' hS | exact F_64_0' hS | exact F_64_1' hS | exact F_116_0' hS | exact F_629_0' hS | exact F_629_1' hS | exact F_629_2' hS | exact F_629_4' hS | exact F_629_5' hS | exact F_629_6' hS | exact F_629_15' hS | exact F_629_16' hS | exact F_629_18' hS | exact F_629_19' hS))
          | ((with_reducible refine st_putI ?_ ?_); first | assumption | exact N_is' hS (by assumption) | exact N_wis' hS (by assumption) | exact C_629' hS | exact N_lis' hS (by assumption) (by omega) (by omega) | exact C_0' hS | exact C_1' hS | exact C_54' hS | exact C_64' hS | exact C_116' hS)
          | ((with_reducible refine st_iald ?_ ?_); refine in_of (by first | assumption | exact N_a2' hS (by assumption) | exact N_a3' hS (by assumption) | exact N_a4' hS (by assumption) | exact N_a5' hS (by assumption) | exact N_a6' hS (by assumption) | exact N_a7' hS (by assumption) | exact N_a9' hS (by assumption) | exact N_a10' hS (by assumption) | exact A_630' hS | exact A_631' hS | exact A_632' hS | exact A_633' hS | exact A_635' hS | exact A_636' hS | exact A_637' hS | exact A_638' hS | exact A_639' hS | exact A_2' hS | exact A_55' hS | exact A_56' hS | exact A_57' hS | exact A_58' hS | exact A_59' hS | exact A_60' hS | exact A_61' hS | exact A_62' hS | exact A_63' hS) (by omega) (by omega))
          | ((with_reducible refine st_iast ?_ ?_); refine in_of (by first | assumption | exact N_a2' hS (by assumption) | exact N_a3' hS (by assumption) | exact N_a4' hS (by assumption) | exact N_a5' hS (by assumption) | exact N_a6' hS (by assumption) | exact N_a7' hS (by assumption) | exact N_a9' hS (by assumption) | exact N_a10' hS (by assumption) | exact A_630' hS | exact A_631' hS | exact A_632' hS | exact A_633' hS | exact A_635' hS | exact A_636' hS | exact A_637' hS | exact A_638' hS | exact A_639' hS | exact A_2' hS | exact A_55' hS | exact A_56' hS | exact A_57' hS | exact A_58' hS | exact A_59' hS | exact A_60' hS | exact A_61' hS | exact A_62' hS | exact A_63' hS) (by omega) (by omega))
          | ((with_reducible apply st_aald); (exact N_lin' hS (by assumption) (by omega) (by omega)); (exact N_lrf' hS (by assumption) (by omega) (by omega)))
          | ((with_reducible refine st_icmp (fun hc => ?_) (fun hc => ?_)) <;> (try dsimp only [gm_c] at hc) <;> (try simp only [gm_cmp_lt, gm_cmp_gt, gm_cmp_le, gm_cmp_ge, ite_0, ite_1, ne_eq, Classical.not_not] at hc) <;> try (first | (exfalso; omega) | exact absurd trivial hc))
          | ((with_reducible refine st_if (fun hc => ?_) (fun hc => ?_)) <;> (try dsimp only [gm_c] at hc) <;> (try simp only [gm_cmp_lt, gm_cmp_gt, gm_cmp_le, gm_cmp_ge, ite_0, ite_1, ne_eq, Classical.not_not] at hc) <;> try (first | (exfalso; omega) | exact absurd trivial hc))
          | ((with_reducible refine st_ret ?_ ?_); first | exact Or.inl rfl | exact Or.inr (Or.inl rfl) | exact Or.inr (Or.inr rfl))
          | ((with_reducible refine is_s (p' := 998) ?_ ?_); (exact rfl); refine st_copy (by first | assumption | exact N_a2' hS (by assumption) | exact N_a3' hS (by assumption) | exact N_a4' hS (by assumption) | exact N_a5' hS (by assumption) | exact N_a6' hS (by assumption) | exact N_a7' hS (by assumption) | exact N_a9' hS (by assumption) | exact N_a10' hS (by assumption) | exact A_630' hS | exact A_631' hS | exact A_632' hS | exact A_633' hS | exact A_635' hS | exact A_636' hS | exact A_637' hS | exact A_638' hS | exact A_639' hS | exact A_2' hS | exact A_55' hS | exact A_56' hS | exact A_57' hS | exact A_58' hS | exact A_59' hS | exact A_60' hS | exact A_61' hS | exact A_62' hS | exact A_63' hS) (by first | assumption | exact N_a2' hS (by assumption) | exact N_a3' hS (by assumption) | exact N_a4' hS (by assumption) | exact N_a5' hS (by assumption) | exact N_a6' hS (by assumption) | exact N_a7' hS (by assumption) | exact N_a9' hS (by assumption) | exact N_a10' hS (by assumption) | exact A_630' hS | exact A_631' hS | exact A_632' hS | exact A_633' hS | exact A_635' hS | exact A_636' hS | exact A_637' hS | exact A_638' hS | exact A_639' hS | exact A_2' hS | exact A_55' hS | exact A_56' hS | exact A_57' hS | exact A_58' hS | exact A_59' hS | exact A_60' hS | exact A_61' hS | exact A_62' hS | exact A_63' hS) (by omega) (by omega) (by omega) (by omega) (by omega) (Nat.le_of_ble_eq_true rfl) gm_999s ?_)
          | ((with_reducible refine is_s (p' := 997) ?_ ?_); (exact rfl); refine st_max (Nat.le_of_ble_eq_true rfl) gm_999s ?_)
          | ((with_reducible refine is_s (p' := 996) ?_ ?_); (exact rfl); refine st_min (Nat.le_of_ble_eq_true rfl) gm_999s ?_)
          | ((with_reducible apply st_alen); (refine is_of_ar (by first | assumption | exact N_a2' hS (by assumption) | exact N_a3' hS (by assumption) | exact N_a4' hS (by assumption) | exact N_a5' hS (by assumption) | exact N_a6' hS (by assumption) | exact N_a7' hS (by assumption) | exact N_a9' hS (by assumption) | exact N_a10' hS (by assumption) | exact A_630' hS | exact A_631' hS | exact A_632' hS | exact A_633' hS | exact A_635' hS | exact A_636' hS | exact A_637' hS | exact A_638' hS | exact A_639' hS | exact A_2' hS | exact A_55' hS | exact A_56' hS | exact A_57' hS | exact A_58' hS | exact A_59' hS | exact A_60' hS | exact A_61' hS | exact A_62' hS | exact A_63' hS)); (exact len_of_ar (by first | assumption | exact N_a2' hS (by assumption) | exact N_a3' hS (by assumption) | exact N_a4' hS (by assumption) | exact N_a5' hS (by assumption) | exact N_a6' hS (by assumption) | exact N_a7' hS (by assumption) | exact N_a9' hS (by assumption) | exact N_a10' hS (by assumption) | exact A_630' hS | exact A_631' hS | exact A_632' hS | exact A_633' hS | exact A_635' hS | exact A_636' hS | exact A_637' hS | exact A_638' hS | exact A_639' hS | exact A_2' hS | exact A_55' hS | exact A_56' hS | exact A_57' hS | exact A_58' hS | exact A_59' hS | exact A_60' hS | exact A_61' hS | exact A_62' hS | exact A_63' hS)))
          | ((with_reducible refine st_rem ?_ ?_); first | decide | omega)
          | ((with_reducible refine st_div ?_ ?_); first | decide | omega)
          | ((with_reducible refine is_s (p' := k_X8_nodes) ?_ ?_); (exact rfl); refine gm_st1 (by decide) (Nat.le_of_ble_eq_true rfl) (sp_X8_nodes hS hb (by assumption) (by assumption)) ?_; dsimp only [gm_ps])
          | dsimp only [gm_step, gm_c, gm_s1, gm_s2, gm_kl, gm_ps, gm_wd, gm_w1, List.getElem?_cons_succ, List.getElem?_cons_zero, List.set_cons_succ, List.set_cons_zero, List.length_cons, List.length_nil, List.drop_succ_cons, List.drop_zero, List.take_succ_cons, List.take_zero, Nat.reduceAdd, Nat.reduceSub, Nat.reduceLeDiff])
        all_goals (
          refine ih _ (fun k k0 k1 => ?_) (fun c j q1 q2 => by rw [f6 c j q1]; exact g3 c j q1 q2)
          rw [p6 k k0]
          by_cases q : (0 ≤ psO (tO2 N).1 (tO2 N).2 k ∧ psO (tO2 N).1 (tO2 N).2 k < (tO2 N).2) ∧ n_le (t4 N) k 4 = v
          · have hk := hps2 k q.1
            rw [if_pos q, if_pos ⟨hk, by omega⟩]
            unfold tG goA
            rw [if_pos (show (0 ≤ k ∧ k < n_sc (t4 N) 5) ∧ n_le (t4 N) k 3 = 1 from hk), q.2, if_neg hs]
          · rw [if_neg q, g1 k k0 k1]
            by_cases z : ((0 ≤ k ∧ k < n_sc N 5) ∧ n_le (t4 N) k 3 = 1) ∧ n_le (t4 N) k 4 < v
            · rw [if_pos z, if_pos ⟨z.1, by omega⟩]
            · rw [if_neg z, if_neg]
              intro y
              have : n_le (t4 N) k 4 ≠ v := fun x => q ⟨hps k y.1.1 y.1.2, x⟩
              exact z ⟨y.1, by omega⟩)
    · rw [g1 k k0 k1, if_neg]
      intro z
      have := (hw4.2.2.2.2 k z.1.1.1 z.1.1.2).1.2.2.2.2
      omega
  · intro i hi1 hi2 ih mm g1 g3
    refine gm_hd rfl ?_
    repeat' (first
      | ((with_reducible refine gm_w0 ?_); refine gm_go rfl ?_)
      | ((with_reducible refine sw_cons (fun hc => ?_) (fun hc => ?_)) <;> try (exfalso; omega))
      | with_reducible refine sw_nil ?_
      | simp (disch := omega) only [w32_id, Int.tdiv_eq_ediv_of_nonneg, Int.tmod_eq_emod_of_nonneg, Int.add_zero]
      | ((with_reducible refine st_getI ?_ ?_); first | assumption | exact N_is' hS (by assumption) | exact N_wis' hS (by assumption) | exact C_629' hS | exact N_lis' hS (by assumption) (by omega) (by omega) | exact C_0' hS | exact C_1' hS | exact C_54' hS | exact C_64' hS | exact C_116' hS)
      | ((with_reducible apply st_getR); (first | assumption | exact N_is' hS (by assumption) | exact N_wis' hS (by assumption) | exact C_629' hS | exact N_lis' hS (by assumption) (by omega) (by omega) | exact C_0' hS | exact C_1' hS | exact C_54' hS | exact C_64' hS | exact C_116' hS); (first | assumption | exact N_web' hS (by assumption) | exact N_letters' hS (by assumption) | exact N_golden' hS (by assumption) | exact N_logged' hS (by assumption) | exact N_open' hS (by assumption) | exact N_last' hS (by assumption) | exact N_beyond' hS (by assumption) | exact N_apart' hS (by assumption) | exact N_steps' hS (by assumption) | exact N_reached' hS (by assumption) | exact F_0_0' hS | exact F_0_1' hS | exact F_0_2' hS | exact F_0_3' hS | exact F_0_4' hS | exact F_0_5' hS | exact F_1_0' hS | exact F_54_0' hS | exact F_54_1' hS | exact F_54_4' hS | exact F_54_5' hS | exact F_54_6' hS | exact F_54_7' hS | exact F_54_8' hS | exact F_54_9' hS | exact F_54_10' hS | exact F_64_0' hS | exact F_64_1' hS | exact F_116_0' hS | exact F_629_0' hS | exact F_629_1' hS | exact F_629_2' hS | exact F_629_4' hS | exact F_629_5' hS | exact F_629_6' hS | exact F_629_15' hS | exact F_629_16' hS | exact F_629_18' hS | exact F_629_19' hS))
      | ((with_reducible refine st_putI ?_ ?_); first | assumption | exact N_is' hS (by assumption) | exact N_wis' hS (by assumption) | exact C_629' hS | exact N_lis' hS (by assumption) (by omega) (by omega) | exact C_0' hS | exact C_1' hS | exact C_54' hS | exact C_64' hS | exact C_116' hS)
      | ((with_reducible refine st_iald ?_ ?_); refine in_of (by first | assumption | exact N_a2' hS (by assumption) | exact N_a3' hS (by assumption) | exact N_a4' hS (by assumption) | exact N_a5' hS (by assumption) | exact N_a6' hS (by assumption) | exact N_a7' hS (by assumption) | exact N_a9' hS (by assumption) | exact N_a10' hS (by assumption) | exact A_630' hS | exact A_631' hS | exact A_632' hS | exact A_633' hS | exact A_635' hS | exact A_636' hS | exact A_637' hS | exact A_638' hS | exact A_639' hS | exact A_2' hS | exact A_55' hS | exact A_56' hS | exact A_57' hS | exact A_58' hS | exact A_59' hS | exact A_60' hS | exact A_61' hS | exact A_62' hS | exact A_63' hS) (by omega) (by omega))
      | ((with_reducible refine st_iast ?_ ?_); refine in_of (by first | assumption | exact N_a2' hS (by assumption) | exact N_a3' hS (by assumption) | exact N_a4' hS (by assumption) | exact N_a5' hS (by assumption) | exact N_a6' hS (by assumption) | exact N_a7' hS (by assumption) | exact N_a9' hS (by assumption) | exact N_a10' hS (by assumption) | exact A_630' hS | exact A_631' hS | exact A_632' hS | exact A_633' hS | exact A_635' hS | exact A_636' hS | exact A_637' hS | exact A_638' hS | exact A_639' hS | exact A_2' hS | exact A_55' hS | exact A_56' hS | exact A_57' hS | exact A_58' hS | exact A_59' hS | exact A_60' hS | exact A_61' hS | exact A_62' hS | exact A_63' hS) (by omega) (by omega))
      | ((with_reducible apply st_aald); (exact N_lin' hS (by assumption) (by omega) (by omega)); (exact N_lrf' hS (by assumption) (by omega) (by omega)))
      | ((with_reducible refine st_icmp (fun hc => ?_) (fun hc => ?_)) <;> (try dsimp only [gm_c] at hc) <;> (try simp only [gm_cmp_lt, gm_cmp_gt, gm_cmp_le, gm_cmp_ge, ite_0, ite_1, ne_eq, Classical.not_not] at hc) <;> try (first | (exfalso; omega) | exact absurd trivial hc))
      | ((with_reducible refine st_if (fun hc => ?_) (fun hc => ?_)) <;> (try dsimp only [gm_c] at hc) <;> (try simp only [gm_cmp_lt, gm_cmp_gt, gm_cmp_le, gm_cmp_ge, ite_0, ite_1, ne_eq, Classical.not_not] at hc) <;> try (first | (exfalso; omega) | exact absurd trivial hc))
      | ((with_reducible refine st_ret ?_ ?_); first | exact Or.inl rfl | exact Or.inr (Or.inl rfl) | exact Or.inr (Or.inr rfl))
      | ((with_reducible refine is_s (p' := 998) ?_ ?_); (exact rfl); refine st_copy (by first | assumption | exact N_a2' hS (by assumption) | exact N_a3' hS (by assumption) | exact N_a4' hS (by assumption) | exact N_a5' hS (by assumption) | exact N_a6' hS (by assumption) | exact N_a7' hS (by assumption) | exact N_a9' hS (by assumption) | exact N_a10' hS (by assumption) | exact A_630' hS | exact A_631' hS | exact A_632' hS | exact A_633' hS | exact A_635' hS | exact A_636' hS | exact A_637' hS | exact A_638' hS | exact A_639' hS | exact A_2' hS | exact A_55' hS | exact A_56' hS | exact A_57' hS | exact A_58' hS | exact A_59' hS | exact A_60' hS | exact A_61' hS | exact A_62' hS | exact A_63' hS) (by first | assumption | exact N_a2' hS (by assumption) | exact N_a3' hS (by assumption) | exact N_a4' hS (by assumption) | exact N_a5' hS (by assumption) | exact N_a6' hS (by assumption) | exact N_a7' hS (by assumption) | exact N_a9' hS (by assumption) | exact N_a10' hS (by assumption) | exact A_630' hS | exact A_631' hS | exact A_632' hS | exact A_633' hS | exact A_635' hS | exact A_636' hS | exact A_637' hS | exact A_638' hS | exact A_639' hS | exact A_2' hS | exact A_55' hS | exact A_56' hS | exact A_57' hS | exact A_58' hS | exact A_59' hS | exact A_60' hS | exact A_61' hS | exact A_62' hS | exact A_63' hS) (by omega) (by omega) (by omega) (by omega) (by omega) (Nat.le_of_ble_eq_true rfl) gm_999s ?_)
      | ((with_reducible refine is_s (p' := 997) ?_ ?_); (exact rfl); refine st_max (Nat.le_of_ble_eq_true rfl) gm_999s ?_)
      | ((with_reducible refine is_s (p' := 996) ?_ ?_); (exact rfl); refine st_min (Nat.le_of_ble_eq_true rfl) gm_999s ?_)
      | ((with_reducible apply st_alen); (refine is_of_ar (by first | assumption | exact N_a2' hS (by assumption) | exact N_a3' hS (by assumption) | exact N_a4' hS (by assumption) | exact N_a5' hS (by assumption) | exact N_a6' hS (by assumption) | exact N_a7' hS (by assumption) | exact N_a9' hS (by assumption) | exact N_a10' hS (by assumption) | exact A_630' hS | exact A_631' hS | exact A_632' hS | exact A_633' hS | exact A_635' hS | exact A_636' hS | exact A_637' hS | exact A_638' hS | exact A_639' hS | exact A_2' hS | exact A_55' hS | exact A_56' hS | exact A_57' hS | exact A_58' hS | exact A_59' hS | exact A_60' hS | exact A_61' hS | exact A_62' hS | exact A_63' hS)); (exact len_of_ar (by first | assumption | exact N_a2' hS (by assumption) | exact N_a3' hS (by assumption) | exact N_a4' hS (by assumption) | exact N_a5' hS (by assumption) | exact N_a6' hS (by assumption) | exact N_a7' hS (by assumption) | exact N_a9' hS (by assumption) | exact N_a10' hS (by assumption) | exact A_630' hS | exact A_631' hS | exact A_632' hS | exact A_633' hS | exact A_635' hS | exact A_636' hS | exact A_637' hS | exact A_638' hS | exact A_639' hS | exact A_2' hS | exact A_55' hS | exact A_56' hS | exact A_57' hS | exact A_58' hS | exact A_59' hS | exact A_60' hS | exact A_61' hS | exact A_62' hS | exact A_63' hS)))
      | ((with_reducible refine st_rem ?_ ?_); first | decide | omega)
      | ((with_reducible refine st_div ?_ ?_); first | decide | omega)
      | dsimp only [gm_step, gm_c, gm_s1, gm_s2, gm_kl, gm_ps, gm_wd, gm_w1, List.getElem?_cons_succ, List.getElem?_cons_zero, List.set_cons_succ, List.set_cons_zero, List.length_cons, List.length_nil, List.drop_succ_cons, List.drop_zero, List.take_succ_cons, List.take_zero, Nat.reduceAdd, Nat.reduceSub, Nat.reduceLeDiff])
    refine ih _ (fun j a1 a2 => ?_) (fun c j z => by rw [gm_rd_a z]; exact g3 c j z)
    by_cases z : j = i
    · rw [z, gm_rd_s]
    · rw [gm_rd_i z]; exact g1 j a1 (by omega)
