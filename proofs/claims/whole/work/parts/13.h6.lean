/-! ===== step 5 by swaps, in the reference ===== -/
theorem foA_eq {m : gm_M} {O : Int → Int} {n x y : Int} (hn : 0 ≤ n) (h : ordR m O n) : nthT (fun k => decide (m 637 k = x ∨ m 637 k = y)) (fun k => m 637 k) (m 629 17 - 0).toNat 0 0 = foA O n x y := by
  unfold foA
  rw [h.1]
  refine nthT_cg _ _ _ (fun j a1 a2 => ?_) (fun j a1 a2 _ => h.2 j a1 (by omega))
  rw [h.2 j a1 (by omega)]
theorem wish_pre {m : gm_M} {b T k : Int} {N : NS} (h : repB m b N) (hw : WF N T) (hk : 0 ≤ k ∧ k < n_sc N 5) : (2 ≤ m b 0 ∧ m b 0 ≤ 4) ∧ (2 ≤ m b 1 ∧ m b 1 ≤ 4) ∧ (0 ≤ m b (85 + 12 * k + 4) ∧ m b (85 + 12 * k + 4) < m b 0 * m b 1) ∧ (0 ≤ m b (85 + 12 * k + 2) ∧ m b (85 + 12 * k + 2) < 16) ∧ m b (85 + 12 * k + 7) < 4 := by
  have hLW := hw.2.2.2.2 k hk.1 hk.2
  have hc := WF_cm hw k hk.1 hk.2
  have hnd := WF_nd hw
  rw [h.1 0 (by omega), h.1 1 (by omega), h.2.2.2 k 4 hk.1 hk.2 (by omega) (by omega), h.2.2.2 k 2 hk.1 hk.2 (by omega) (by omega), h.2.2.2 k 7 hk.1 hk.2 (by omega) (by omega)]
  have := hLW.1.2.2.1
  exact ⟨hw.1.1, hw.1.2.1, hLW.1.2.2.2.2, by omega, by omega⟩
set_option maxHeartbeats 4000000 in
theorem sp_X8_ports {ro : Nat → Nat × (Int → Int)} {d : Nat} {S : List gm_S} (hS : S = S0) {m : gm_M} {b n T v x y s : Int} {N : NS} {O : Int → Int} (hb2 : b = 630 ∨ b = 631) (h : repB m b N) (hw : WF N T) (hf : farR m N) (ho : ORD N O n) (hm : ordR m O n) (hx : flyN N v x) (hy : flyN N v y) (hs : s = 0 ∨ s = 1) (hxy : x = y → x = -1000000) : gm_rel ro (d + 5) k_X8_ports [gA 629, gA b, gI x, gI y, gI (2 * s)] S m (fun r1 m1 => r1 = none ∧ (∀ k, 0 ≤ k → m1 638 k = if outA N O n x y s k = -1000000 then m 638 k else outA N O n x y s k) ∧ (∀ c j, c ≠ 638 → m1 c j = m c j)) := by
  refine gm_rel_of mt_X8_ports (Nat.le_of_ble_eq_true rfl) ?_
  dsimp only [gm_en, List.length_cons, List.length_nil, List.replicate, List.cons_append, List.nil_append, Nat.reduceAdd, Nat.reduceSub]
  have hb := B_ar hS hb2
  have h40 := hw.1.2.2.2.2.2
  have hn40 := ho.1
  have hg : 0 ≤ m 629 17 ∧ m 629 17 ≤ 40 := by rw [hm.1]; omega
  have hfo := foA_eq (x := x) (y := y) ho.1.1 hm
  have hoc := outA_c (s := s) ho (WF_cm hw) hx hy hs hxy
  have hxb : x = -1000000 ∨ (0 ≤ x ∧ x < 40) := by
    rcases hx with q | q
    · exact Or.inl q
    · exact Or.inr (by omega)
  have hyb : y = -1000000 ∨ (0 ≤ y ∧ y < 40) := by
    rcases hy with q | q
    · exact Or.inl q
    · exact Or.inr (by omega)
  have hfc := foA_c ho hx hy
  by_cases hf0 : foA O n x y = -1000000
  · have hxy0 := foA_n ho hx hy hf0
    repeat' (first
      | ((with_reducible refine gm_w0 ?_); refine gm_go rfl ?_)
      | ((with_reducible refine sw_cons (fun hc => ?_) (fun hc => ?_)) <;> try (exfalso; omega))
      | with_reducible refine sw_nil ?_
      | simp (disch := omega) only [w32_id, Int.tdiv_eq_ediv_of_nonneg, Int.tmod_eq_emod_of_nonneg, Int.add_zero]
      | simp only [hfo]
      | ((with_reducible refine st_getI ?_ ?_); first | assumption | exact N_is' hS (by assumption) | exact N_wis' hS (by assumption) | exact C_629' hS | exact N_lis' hS (by assumption) (by omega) (by omega) | exact C_0' hS | exact C_1' hS | exact C_54' hS | exact C_64' hS | exact C_116' hS)
      | ((with_reducible apply st_getR); (first | assumption | exact N_is' hS (by assumption) | exact N_wis' hS (by assumption) | exact C_629' hS | exact N_lis' hS (by assumption) (by omega) (by omega) | exact C_0' hS | exact C_1' hS | exact C_54' hS | exact C_64' hS | exact C_116' hS); (first | assumption | exact N_web' hS (by assumption) | exact N_letters' hS (by assumption) | exact N_golden' hS (by assumption) | exact N_logged' hS (by assumption) | exact N_open' hS (by assumption) | exact N_last' hS (by assumption) | exact N_beyond' hS (by assumption) | exact N_apart' hS (by assumption) | exact N_steps' hS (by assumption) | exact N_reached' hS (by assumption) | exact F_0_0' hS | exact F_0_1' hS | exact F_0_2' hS | exact F_0_3' hS | exact F_0_4' hS | exact F_0_5' hS | exact F_1_0' hS | exact F_54_0' hS | exact F_54_1' hS | exact F_54_4' hS | exact F_54_5' hS | exact F_54_6' hS | exact F_54_7' hS | exact F_54_8' hS | exact F_54_9' hS | exact F_54_10' hS | exact F_64_0' hS | exact F_64_1' hS | exact F_116_0' hS | exact F_629_0' hS | exact F_629_1' hS | exact F_629_2' hS | exact F_629_4' hS | exact F_629_5' hS | exact F_629_6' hS | exact F_629_15' hS | exact F_629_16' hS | exact F_629_18' hS | exact F_629_19' hS))
      | ((with_reducible refine st_putI ?_ ?_); first | assumption | exact N_is' hS (by assumption) | exact N_wis' hS (by assumption) | exact C_629' hS | exact N_lis' hS (by assumption) (by omega) (by omega) | exact C_0' hS | exact C_1' hS | exact C_54' hS | exact C_64' hS | exact C_116' hS)
      | ((with_reducible refine st_iald ?_ ?_); refine in_of (by first | assumption | exact N_a2' hS (by assumption) | exact N_a3' hS (by assumption) | exact N_a4' hS (by assumption) | exact N_a5' hS (by assumption) | exact N_a6' hS (by assumption) | exact N_a7' hS (by assumption) | exact N_a9' hS (by assumption) | exact N_a10' hS (by assumption) | exact A_630' hS | exact A_631' hS | exact A_632' hS | exact A_633' hS | exact A_635' hS | exact A_636' hS | exact A_637' hS | exact A_638' hS | exact A_639' hS | exact A_2' hS | exact A_55' hS | exact A_56' hS | exact A_57' hS | exact A_58' hS | exact A_59' hS | exact A_60' hS | exact A_61' hS | exact A_62' hS | exact A_63' hS) (by omega) (by omega))
      | ((with_reducible refine st_iast ?_ ?_); refine in_of (by first | assumption | exact N_a2' hS (by assumption) | exact N_a3' hS (by assumption) | exact N_a4' hS (by assumption) | exact N_a5' hS (by assumption) | exact N_a6' hS (by assumption) | exact N_a7' hS (by assumption) | exact N_a9' hS (by assumption) | exact N_a10' hS (by assumption) | exact A_630' hS | exact A_631' hS | exact A_632' hS | exact A_633' hS | exact A_635' hS | exact A_636' hS | exact A_637' hS | exact A_638' hS | exact A_639' hS | exact A_2' hS | exact A_55' hS | exact A_56' hS | exact A_57' hS | exact A_58' hS | exact A_59' hS | exact A_60' hS | exact A_61' hS | exact A_62' hS | exact A_63' hS) (by omega) (by omega))
      | ((with_reducible apply st_aald); (exact N_lin' hS (by assumption) (by omega) (by omega)); (exact N_lrf' hS (by assumption) (by omega) (by omega)))
      | ((with_reducible refine st_icmp (fun hc => ?_) (fun hc => ?_)) <;> (try dsimp only [gm_c] at hc) <;> (try simp only [gm_cmp_lt, gm_cmp_gt, gm_cmp_le, gm_cmp_ge, ite_0, ite_1, ne_eq, Classical.not_not] at hc) <;> try (first | (exfalso; omega) | exact absurd trivial hc))
      | ((with_reducible refine st_if (fun hc => ?_) (fun hc => ?_)) <;> (try dsimp only [gm_c] at hc) <;> (try simp only [gm_cmp_lt, gm_cmp_gt, gm_cmp_le, gm_cmp_ge, ite_0, ite_1, ne_eq, Classical.not_not] at hc) <;> try (first | (exfalso; omega) | exact absurd trivial hc))
      | ((with_reducible refine st_ret ?_ ?_); first | exact Or.inl rfl | exact Or.inr (Or.inl rfl) | exact Or.inr (Or.inr rfl))
      | ((with_reducible refine is_s (p' := 998) ?_ ?_); (exact rfl); refine st_copy (by first | assumption | exact N_a2' hS (by assumption) | exact N_a3' hS (by assumption) | exact N_a4' hS (by assumption) | exact N_a5' hS (by assumption) | exact N_a6' hS (by assumption) | exact N_a7' hS (by assumption) | exact N_a9' hS (by assumption) | exact N_a10' hS (by assumption) | exact A_630' hS | exact A_631' hS | exact A_632' hS | exact A_633' hS | exact A_635' hS | exact A_636' hS | exact A_637' hS | exact A_638' hS | exact A_639' hS | exact A_2' hS | exact A_55' hS | exact A_56' hS | exact A_57' hS | exact A_58' hS | exact A_59' hS | exact A_60' hS | exact A_61' hS | exact A_62' hS | exact A_63' hS) (by first | assumption | exact N_a2' hS (by assumption) | exact N_a3' hS (by assumption) | exact N_a4' hS (by assumption) | exact N_a5' hS (by assumption) | exact N_a6' hS (by assumption) | exact N_a7' hS (by assumption) | exact N_a9' hS (by assumption) | exact N_a10' hS (by assumption) | exact A_630' hS | exact A_631' hS | exact A_632' hS | exact A_633' hS | exact A_635' hS | exact A_636' hS | exact A_637' hS | exact A_638' hS | exact A_639' hS | exact A_2' hS | exact A_55' hS | exact A_56' hS | exact A_57' hS | exact A_58' hS | exact A_59' hS | exact A_60' hS | exact A_61' hS | exact A_62' hS | exact A_63' hS) (by omega) (by omega) (by omega) (by omega) (by omega) (Nat.le_of_ble_eq_true rfl) gm_999s ?_)
      | ((with_reducible refine is_s (p' := 997) ?_ ?_); (exact rfl); refine st_max (Nat.le_of_ble_eq_true rfl) gm_999s ?_)
      | ((with_reducible refine is_s (p' := 996) ?_ ?_); (exact rfl); refine st_min (Nat.le_of_ble_eq_true rfl) gm_999s ?_)
      | ((with_reducible apply st_alen); (refine is_of_ar (by first | assumption | exact N_a2' hS (by assumption) | exact N_a3' hS (by assumption) | exact N_a4' hS (by assumption) | exact N_a5' hS (by assumption) | exact N_a6' hS (by assumption) | exact N_a7' hS (by assumption) | exact N_a9' hS (by assumption) | exact N_a10' hS (by assumption) | exact A_630' hS | exact A_631' hS | exact A_632' hS | exact A_633' hS | exact A_635' hS | exact A_636' hS | exact A_637' hS | exact A_638' hS | exact A_639' hS | exact A_2' hS | exact A_55' hS | exact A_56' hS | exact A_57' hS | exact A_58' hS | exact A_59' hS | exact A_60' hS | exact A_61' hS | exact A_62' hS | exact A_63' hS)); (exact len_of_ar (by first | assumption | exact N_a2' hS (by assumption) | exact N_a3' hS (by assumption) | exact N_a4' hS (by assumption) | exact N_a5' hS (by assumption) | exact N_a6' hS (by assumption) | exact N_a7' hS (by assumption) | exact N_a9' hS (by assumption) | exact N_a10' hS (by assumption) | exact A_630' hS | exact A_631' hS | exact A_632' hS | exact A_633' hS | exact A_635' hS | exact A_636' hS | exact A_637' hS | exact A_638' hS | exact A_639' hS | exact A_2' hS | exact A_55' hS | exact A_56' hS | exact A_57' hS | exact A_58' hS | exact A_59' hS | exact A_60' hS | exact A_61' hS | exact A_62' hS | exact A_63' hS)))
      | ((with_reducible refine st_rem ?_ ?_); first | decide | omega)
      | ((with_reducible refine st_div ?_ ?_); first | decide | omega)
      | ((with_reducible refine is_v (p' := k_X8_firstOf) ?_ ?_); (exact rfl); refine gm_vt3 (Nat.le_of_ble_eq_true rfl) (by first | assumption | exact N_is' hS (by assumption) | exact N_wis' hS (by assumption) | exact C_629' hS | exact N_lis' hS (by assumption) (by omega) (by omega) | exact C_0' hS | exact C_1' hS | exact C_54' hS | exact C_64' hS | exact C_116' hS) (sp_X8_firstOf hS (by assumption)) ?_; dsimp only [gm_ps])
      | dsimp only [gm_step, gm_c, gm_s1, gm_s2, gm_kl, gm_ps, gm_wd, gm_w1, List.getElem?_cons_succ, List.getElem?_cons_zero, List.set_cons_succ, List.set_cons_zero, List.length_cons, List.length_nil, List.drop_succ_cons, List.drop_zero, List.take_succ_cons, List.take_zero, Nat.reduceAdd, Nat.reduceSub, Nat.reduceLeDiff])
    all_goals exact ⟨(by first | rfl | trivial), (by first | rfl | trivial), fun k hk => by rw [if_pos (hoc.1 k hk (by omega) (by omega))], (by intro c j _; first | rfl | trivial)⟩
  · have hfb : fly N v (foA O n x y) := by
      rcases hfc with ⟨q, -⟩ | ⟨q, -⟩
      · rw [q] at hf0 ⊢; exact hx.resolve_left hf0
      · rw [q] at hf0 ⊢; exact hy.resolve_left hf0
    have f0 : 0 ≤ foA O n x y := hfb.1.1
    have f1 : foA O n x y < 40 := by have := hfb.1.2; omega
    have hp := wish_pre h hw hfb.1
    have hwi := wshE_eq h hw hf hfb.1
    have hwb := wsA_bd (WF_cm hw _ hfb.1.1 hfb.1.2)
    have hse : seA O n x y = if foA O n x y = x then y else x := rfl
    have hpq : pqA N (foA O n x y) s = if wsA N (foA O n x y) / 2 = s then wsA N (foA O n x y) else 2 * s := rfl
    repeat' (first
      | ((with_reducible refine gm_w0 ?_); refine gm_go rfl ?_)
      | ((with_reducible refine sw_cons (fun hc => ?_) (fun hc => ?_)) <;> try (exfalso; omega))
      | with_reducible refine sw_nil ?_
      | simp (disch := omega) only [w32_id, Int.tdiv_eq_ediv_of_nonneg, Int.tmod_eq_emod_of_nonneg, Int.add_zero]
      | simp only [hfo, hwi]
      | ((with_reducible refine st_getI ?_ ?_); first | assumption | exact N_is' hS (by assumption) | exact N_wis' hS (by assumption) | exact C_629' hS | exact N_lis' hS (by assumption) (by omega) (by omega) | exact C_0' hS | exact C_1' hS | exact C_54' hS | exact C_64' hS | exact C_116' hS)
      | ((with_reducible apply st_getR); (first | assumption | exact N_is' hS (by assumption) | exact N_wis' hS (by assumption) | exact C_629' hS | exact N_lis' hS (by assumption) (by omega) (by omega) | exact C_0' hS | exact C_1' hS | exact C_54' hS | exact C_64' hS | exact C_116' hS); (first | assumption | exact N_web' hS (by assumption) | exact N_letters' hS (by assumption) | exact N_golden' hS (by assumption) | exact N_logged' hS (by assumption) | exact N_open' hS (by assumption) | exact N_last' hS (by assumption) | exact N_beyond' hS (by assumption) | exact N_apart' hS (by assumption) | exact N_steps' hS (by assumption) | exact N_reached' hS (by assumption) | exact F_0_0' hS | exact F_0_1' hS | exact F_0_2' hS | exact F_0_3' hS | exact F_0_4' hS | exact F_0_5' hS | exact F_1_0' hS | exact F_54_0' hS | exact F_54_1' hS | exact F_54_4' hS | exact F_54_5' hS | exact F_54_6' hS | exact F_54_7' hS | exact F_54_8' hS | exact F_54_9' hS | exact F_54_10' hS | exact F_64_0' hS | exact F_64_1' hS | exact F_116_0' hS | exact F_629_0' hS | exact F_629_1' hS | exact F_629_2' hS | exact F_629_4' hS | exact F_629_5' hS | exact F_629_6' hS | exact F_629_15' hS | exact F_629_16' hS | exact F_629_18' hS | exact F_629_19' hS))
      | ((with_reducible refine st_putI ?_ ?_); first | assumption | exact N_is' hS (by assumption) | exact N_wis' hS (by assumption) | exact C_629' hS | exact N_lis' hS (by assumption) (by omega) (by omega) | exact C_0' hS | exact C_1' hS | exact C_54' hS | exact C_64' hS | exact C_116' hS)
      | ((with_reducible refine st_iald ?_ ?_); refine in_of (by first | assumption | exact N_a2' hS (by assumption) | exact N_a3' hS (by assumption) | exact N_a4' hS (by assumption) | exact N_a5' hS (by assumption) | exact N_a6' hS (by assumption) | exact N_a7' hS (by assumption) | exact N_a9' hS (by assumption) | exact N_a10' hS (by assumption) | exact A_630' hS | exact A_631' hS | exact A_632' hS | exact A_633' hS | exact A_635' hS | exact A_636' hS | exact A_637' hS | exact A_638' hS | exact A_639' hS | exact A_2' hS | exact A_55' hS | exact A_56' hS | exact A_57' hS | exact A_58' hS | exact A_59' hS | exact A_60' hS | exact A_61' hS | exact A_62' hS | exact A_63' hS) (by omega) (by omega))
      | ((with_reducible refine st_iast ?_ ?_); refine in_of (by first | assumption | exact N_a2' hS (by assumption) | exact N_a3' hS (by assumption) | exact N_a4' hS (by assumption) | exact N_a5' hS (by assumption) | exact N_a6' hS (by assumption) | exact N_a7' hS (by assumption) | exact N_a9' hS (by assumption) | exact N_a10' hS (by assumption) | exact A_630' hS | exact A_631' hS | exact A_632' hS | exact A_633' hS | exact A_635' hS | exact A_636' hS | exact A_637' hS | exact A_638' hS | exact A_639' hS | exact A_2' hS | exact A_55' hS | exact A_56' hS | exact A_57' hS | exact A_58' hS | exact A_59' hS | exact A_60' hS | exact A_61' hS | exact A_62' hS | exact A_63' hS) (by omega) (by omega))
      | ((with_reducible apply st_aald); (exact N_lin' hS (by assumption) (by omega) (by omega)); (exact N_lrf' hS (by assumption) (by omega) (by omega)))
      | ((with_reducible refine st_icmp (fun hc => ?_) (fun hc => ?_)) <;> (try dsimp only [gm_c] at hc) <;> (try simp only [gm_cmp_lt, gm_cmp_gt, gm_cmp_le, gm_cmp_ge, ite_0, ite_1, ne_eq, Classical.not_not] at hc) <;> try (first | (exfalso; omega) | exact absurd trivial hc))
      | ((with_reducible refine st_if (fun hc => ?_) (fun hc => ?_)) <;> (try dsimp only [gm_c] at hc) <;> (try simp only [gm_cmp_lt, gm_cmp_gt, gm_cmp_le, gm_cmp_ge, ite_0, ite_1, ne_eq, Classical.not_not] at hc) <;> try (first | (exfalso; omega) | exact absurd trivial hc))
      | ((with_reducible refine st_ret ?_ ?_); first | exact Or.inl rfl | exact Or.inr (Or.inl rfl) | exact Or.inr (Or.inr rfl))
      | ((with_reducible refine is_s (p' := 998) ?_ ?_); (exact rfl); refine st_copy (by first | assumption | exact N_a2' hS (by assumption) | exact N_a3' hS (by assumption) | exact N_a4' hS (by assumption) | exact N_a5' hS (by assumption) | exact N_a6' hS (by assumption) | exact N_a7' hS (by assumption) | exact N_a9' hS (by assumption) | exact N_a10' hS (by assumption) | exact A_630' hS | exact A_631' hS | exact A_632' hS | exact A_633' hS | exact A_635' hS | exact A_636' hS | exact A_637' hS | exact A_638' hS | exact A_639' hS | exact A_2' hS | exact A_55' hS | exact A_56' hS | exact A_57' hS | exact A_58' hS | exact A_59' hS | exact A_60' hS | exact A_61' hS | exact A_62' hS | exact A_63' hS) (by first | assumption | exact N_a2' hS (by assumption) | exact N_a3' hS (by assumption) | exact N_a4' hS (by assumption) | exact N_a5' hS (by assumption) | exact N_a6' hS (by assumption) | exact N_a7' hS (by assumption) | exact N_a9' hS (by assumption) | exact N_a10' hS (by assumption) | exact A_630' hS | exact A_631' hS | exact A_632' hS | exact A_633' hS | exact A_635' hS | exact A_636' hS | exact A_637' hS | exact A_638' hS | exact A_639' hS | exact A_2' hS | exact A_55' hS | exact A_56' hS | exact A_57' hS | exact A_58' hS | exact A_59' hS | exact A_60' hS | exact A_61' hS | exact A_62' hS | exact A_63' hS) (by omega) (by omega) (by omega) (by omega) (by omega) (Nat.le_of_ble_eq_true rfl) gm_999s ?_)
      | ((with_reducible refine is_s (p' := 997) ?_ ?_); (exact rfl); refine st_max (Nat.le_of_ble_eq_true rfl) gm_999s ?_)
      | ((with_reducible refine is_s (p' := 996) ?_ ?_); (exact rfl); refine st_min (Nat.le_of_ble_eq_true rfl) gm_999s ?_)
      | ((with_reducible apply st_alen); (refine is_of_ar (by first | assumption | exact N_a2' hS (by assumption) | exact N_a3' hS (by assumption) | exact N_a4' hS (by assumption) | exact N_a5' hS (by assumption) | exact N_a6' hS (by assumption) | exact N_a7' hS (by assumption) | exact N_a9' hS (by assumption) | exact N_a10' hS (by assumption) | exact A_630' hS | exact A_631' hS | exact A_632' hS | exact A_633' hS | exact A_635' hS | exact A_636' hS | exact A_637' hS | exact A_638' hS | exact A_639' hS | exact A_2' hS | exact A_55' hS | exact A_56' hS | exact A_57' hS | exact A_58' hS | exact A_59' hS | exact A_60' hS | exact A_61' hS | exact A_62' hS | exact A_63' hS)); (exact len_of_ar (by first | assumption | exact N_a2' hS (by assumption) | exact N_a3' hS (by assumption) | exact N_a4' hS (by assumption) | exact N_a5' hS (by assumption) | exact N_a6' hS (by assumption) | exact N_a7' hS (by assumption) | exact N_a9' hS (by assumption) | exact N_a10' hS (by assumption) | exact A_630' hS | exact A_631' hS | exact A_632' hS | exact A_633' hS | exact A_635' hS | exact A_636' hS | exact A_637' hS | exact A_638' hS | exact A_639' hS | exact A_2' hS | exact A_55' hS | exact A_56' hS | exact A_57' hS | exact A_58' hS | exact A_59' hS | exact A_60' hS | exact A_61' hS | exact A_62' hS | exact A_63' hS)))
      | ((with_reducible refine st_rem ?_ ?_); first | decide | omega)
      | ((with_reducible refine st_div ?_ ?_); first | decide | omega)
      | ((with_reducible refine is_v (p' := k_X8_firstOf) ?_ ?_); (exact rfl); refine gm_vt3 (Nat.le_of_ble_eq_true rfl) (by first | assumption | exact N_is' hS (by assumption) | exact N_wis' hS (by assumption) | exact C_629' hS | exact N_lis' hS (by assumption) (by omega) (by omega) | exact C_0' hS | exact C_1' hS | exact C_54' hS | exact C_64' hS | exact C_116' hS) (sp_X8_firstOf hS (by assumption)) ?_; dsimp only [gm_ps])
      | ((with_reducible refine is_v (p' := k_X8_wish) ?_ ?_); (exact rfl); refine gm_vt3 (Nat.le_of_ble_eq_true rfl) (by first | assumption | exact N_is' hS (by assumption) | exact N_wis' hS (by assumption) | exact C_629' hS | exact N_lis' hS (by assumption) (by omega) (by omega) | exact C_0' hS | exact C_1' hS | exact C_54' hS | exact C_64' hS | exact C_116' hS) (sp_X8_wish hS hb (by assumption) (by assumption) hp.1 hp.2.1 hp.2.2.1 hp.2.2.2.1 hp.2.2.2.2) ?_; dsimp only [gm_ps])
      | dsimp only [gm_step, gm_c, gm_s1, gm_s2, gm_kl, gm_ps, gm_wd, gm_w1, List.getElem?_cons_succ, List.getElem?_cons_zero, List.set_cons_succ, List.set_cons_zero, List.length_cons, List.length_nil, List.drop_succ_cons, List.drop_zero, List.take_succ_cons, List.take_zero, Nat.reduceAdd, Nat.reduceSub, Nat.reduceLeDiff])
    all_goals (
      refine ⟨(by first | rfl | trivial), (by first | rfl | trivial), fun k hk => ?_, fun c j q => by first | (rw [gm_rd_a q]; done) | (rw [gm_rd_a q, gm_rd_a q]; done)⟩
      unfold outA
      first
        | rw [if_pos (by omega : foA O n x y = x)] at hse
        | rw [if_neg (by omega : ¬ foA O n x y = x)] at hse
      first
        | rw [if_pos (by omega : wsA N (foA O n x y) / 2 = s)] at hpq
        | rw [if_neg (by omega : ¬ wsA N (foA O n x y) / 2 = s)] at hpq
      rw [hse, hpq]
      unfold gm_up
      (repeat' split) <;> omega)
