theorem gm_cmp_lt {a b : Int} : (gm_cmp a b < 0) = (a < b) := by
  unfold gm_cmp
  split
  · simp [*]
  · split <;> simp [*]
theorem gm_cmp_gt {a b : Int} : (gm_cmp a b > 0) = (b < a) := by
  unfold gm_cmp
  split
  · simp; omega
  · split
    · simp; omega
    · simp; omega
theorem gm_cmp_le {a b : Int} : (gm_cmp a b ≤ 0) = (a ≤ b) := by
  unfold gm_cmp
  split
  · simp; omega
  · split
    · simp; omega
    · simp; omega
theorem gm_cmp_ge {a b : Int} : (gm_cmp a b ≥ 0) = (b ≤ a) := by
  unfold gm_cmp
  split
  · simp; omega
  · split
    · simp; omega
    · simp; omega
theorem up_loop {P : Int → Prop} {a N : Int} (h : a ≤ N) (hend : P N) (hstep : ∀ k, a ≤ k → k < N → P (k + 1) → P k) : P a := by
  obtain ⟨n, hn⟩ : ∃ n : Nat, (n : Int) = N - a := ⟨(N - a).toNat, by omega⟩
  induction n generalizing a with
  | zero =>
    have : a = N := by omega
    rw [this]
    exact hend
  | succ n ih => exact hstep a (Int.le_refl _) (by omega) (ih (by omega) (fun k h1 h2 => hstep k (by omega) h2) (by omega))
theorem dn_loop {P : Int → Prop} {a : Int} (h : -1 ≤ a) (hend : P (-1)) (hstep : ∀ k, 0 ≤ k → k ≤ a → P (k - 1) → P k) : P a := by
  obtain ⟨n, hn⟩ : ∃ n : Nat, (n : Int) = a + 1 := ⟨(a + 1).toNat, by omega⟩
  induction n generalizing a with
  | zero =>
    have : a = -1 := by omega
    rw [this]
    exact hend
  | succ n ih => exact hstep a (by omega) (Int.le_refl _) (ih (by omega) (fun k h1 h2 => hstep k h1 (by omega)) (by omega))
set_option maxHeartbeats 2000000 in
theorem sp_X8_in {ro : Nat → Nat × (Int → Int)} {d : Nat} {m : gm_M} {v lo hi : Int} : gm_sem MT ro (d + 1) k_X8_in [gL v, gL lo, gL hi] S0 m (gI (if lo ≤ v ∧ v ≤ hi then 1 else 0)) S0 (m) := by
  refine gm_sem_of mt_X8_in (Nat.le_of_ble_eq_true rfl) ?_
  dsimp only [gm_en, List.length_cons, List.length_nil, List.replicate, List.cons_append, List.nil_append, Nat.reduceAdd, Nat.reduceSub]
  repeat' (first
    | refine gm_go rfl ?_
    | (refine ⟨fun hc => ?_, fun hc => ?_⟩ <;> try (exfalso; omega))
    | refine ⟨by first | assumption | exact N_is (by assumption) | exact N_wis (by assumption) | exact C_629 | exact N_lis (by assumption) (by omega) (by omega) | exact C_0 | exact C_1 | exact C_54 | exact C_64 | exact C_116 | exact is_of_ar (by assumption) | omega | decide, ?_⟩
    | refine ⟨in_of (by first | assumption | exact N_a2 (by assumption) | exact N_a3 (by assumption) | exact N_a4 (by assumption) | exact N_a5 (by assumption) | exact N_a6 (by assumption) | exact N_a7 (by assumption) | exact N_a9 (by assumption) | exact N_a10 (by assumption) | exact A_635 | exact A_636 | exact A_637 | exact A_638 | exact A_639 | exact A_630 | exact A_631 | exact A_632 | exact A_633 | exact A_2 | exact A_55 | exact A_56 | exact A_57 | exact A_58 | exact A_59 | exact A_60 | exact A_61 | exact A_62 | exact A_63) (by omega) (by omega), ?_⟩
    | refine ⟨N_lin (by assumption) (by omega) (by omega), ?_⟩
    | refine ⟨_, by first | exact N_web (by assumption) | exact N_letters (by assumption) | exact N_golden (by assumption) | exact N_logged (by assumption) | exact N_open (by assumption) | exact N_last (by assumption) | exact N_beyond (by assumption) | exact N_apart (by assumption) | exact N_steps (by assumption) | exact N_reached (by assumption) | exact N_lrf (by assumption) (by omega) (by omega) | exact F_0_0 | exact F_0_1 | exact F_0_2 | exact F_0_3 | exact F_0_4 | exact F_0_5 | exact F_1_0 | exact F_54_0 | exact F_54_1 | exact F_54_4 | exact F_54_5 | exact F_54_6 | exact F_54_7 | exact F_54_8 | exact F_54_9 | exact F_54_10 | exact F_64_0 | exact F_64_1 | exact F_116_0 | exact F_629_0 | exact F_629_1 | exact F_629_2 | exact F_629_4 | exact F_629_5 | exact F_629_6 | exact F_629_15 | exact F_629_16 | exact F_629_18 | exact F_629_19, ?_⟩
    | simp (disch := omega) only [w32_id, gm_cmp_lt, gm_cmp_gt, gm_cmp_le, gm_cmp_ge]
    | dsimp only [gm_step, gm_c, gm_s1, gm_s2, gm_kl, gm_ps, gm_wd, gm_w1, List.getElem?_cons_succ, List.getElem?_cons_zero, List.set_cons_succ, List.set_cons_zero, List.length_cons, List.length_nil, List.drop_succ_cons, List.drop_zero, List.take_succ_cons, List.take_zero, Nat.reduceAdd, Nat.reduceSub, Nat.reduceLeDiff])
  all_goals (first | exact ⟨Or.inl rfl, rfl, rfl, rfl⟩ | exact ⟨rfl, rfl, rfl⟩ | (refine ⟨by simp, ?_, rfl, rfl⟩; first | rfl | (rw [if_pos (by omega)]) | (rw [if_neg (by omega)]) | (congr 2; omega) | (congr 1; congr 1; omega)))
def hasP (s k : Int) : Prop := gm_and (gm_shr s k) 1 = 1
set_option maxHeartbeats 2000000 in
theorem sp_X8_has {ro : Nat → Nat × (Int → Int)} {d : Nat} {m : gm_M} {s k : Int} : gm_sem MT ro (d + 1) k_X8_has [gI s, gI k] S0 m (gI (if gm_and (gm_shr s k) 1 = 1 then 1 else 0)) S0 (m) := by
  refine gm_sem_of mt_X8_has (Nat.le_of_ble_eq_true rfl) ?_
  dsimp only [gm_en, List.length_cons, List.length_nil, List.replicate, List.cons_append, List.nil_append, Nat.reduceAdd, Nat.reduceSub]
  repeat' (first
    | refine gm_go rfl ?_
    | (refine ⟨fun hc => ?_, fun hc => ?_⟩ <;> try (exfalso; omega))
    | refine ⟨by first | assumption | exact N_is (by assumption) | exact N_wis (by assumption) | exact C_629 | exact N_lis (by assumption) (by omega) (by omega) | exact C_0 | exact C_1 | exact C_54 | exact C_64 | exact C_116 | exact is_of_ar (by assumption) | omega | decide, ?_⟩
    | refine ⟨in_of (by first | assumption | exact N_a2 (by assumption) | exact N_a3 (by assumption) | exact N_a4 (by assumption) | exact N_a5 (by assumption) | exact N_a6 (by assumption) | exact N_a7 (by assumption) | exact N_a9 (by assumption) | exact N_a10 (by assumption) | exact A_635 | exact A_636 | exact A_637 | exact A_638 | exact A_639 | exact A_630 | exact A_631 | exact A_632 | exact A_633 | exact A_2 | exact A_55 | exact A_56 | exact A_57 | exact A_58 | exact A_59 | exact A_60 | exact A_61 | exact A_62 | exact A_63) (by omega) (by omega), ?_⟩
    | refine ⟨N_lin (by assumption) (by omega) (by omega), ?_⟩
    | refine ⟨_, by first | exact N_web (by assumption) | exact N_letters (by assumption) | exact N_golden (by assumption) | exact N_logged (by assumption) | exact N_open (by assumption) | exact N_last (by assumption) | exact N_beyond (by assumption) | exact N_apart (by assumption) | exact N_steps (by assumption) | exact N_reached (by assumption) | exact N_lrf (by assumption) (by omega) (by omega) | exact F_0_0 | exact F_0_1 | exact F_0_2 | exact F_0_3 | exact F_0_4 | exact F_0_5 | exact F_1_0 | exact F_54_0 | exact F_54_1 | exact F_54_4 | exact F_54_5 | exact F_54_6 | exact F_54_7 | exact F_54_8 | exact F_54_9 | exact F_54_10 | exact F_64_0 | exact F_64_1 | exact F_116_0 | exact F_629_0 | exact F_629_1 | exact F_629_2 | exact F_629_4 | exact F_629_5 | exact F_629_6 | exact F_629_15 | exact F_629_16 | exact F_629_18 | exact F_629_19, ?_⟩
    | simp (disch := omega) only [w32_id, gm_cmp_lt, gm_cmp_gt, gm_cmp_le, gm_cmp_ge]
    | dsimp only [gm_step, gm_c, gm_s1, gm_s2, gm_kl, gm_ps, gm_wd, gm_w1, List.getElem?_cons_succ, List.getElem?_cons_zero, List.set_cons_succ, List.set_cons_zero, List.length_cons, List.length_nil, List.drop_succ_cons, List.drop_zero, List.take_succ_cons, List.take_zero, Nat.reduceAdd, Nat.reduceSub, Nat.reduceLeDiff])
  all_goals (refine ⟨by simp, ?_, rfl, rfl⟩; first | rw [if_pos hc] | rw [if_neg hc])
set_option maxHeartbeats 2000000 in
theorem sp_X8_of {ro : Nat → Nat × (Int → Int)} {d : Nat} {m : gm_M} {b k w : Int} (hb : gm_ar S0 b 565) (h1 : 0 ≤ k) (h2 : k < 40) (h3 : 0 ≤ w) (h4 : w < 12) : gm_sem MT ro (d + 1) k_X8_of [gA b, gI k, gI w] S0 m (gI (m b (85 + 12 * k + w))) S0 (m) := by
  refine gm_sem_of mt_X8_of (Nat.le_of_ble_eq_true rfl) ?_
  dsimp only [gm_en, List.length_cons, List.length_nil, List.replicate, List.cons_append, List.nil_append, Nat.reduceAdd, Nat.reduceSub]
  repeat' (first
    | refine gm_go rfl ?_
    | (refine ⟨fun hc => ?_, fun hc => ?_⟩ <;> try (exfalso; omega))
    | refine ⟨by first | assumption | exact N_is (by assumption) | exact N_wis (by assumption) | exact C_629 | exact N_lis (by assumption) (by omega) (by omega) | exact C_0 | exact C_1 | exact C_54 | exact C_64 | exact C_116 | exact is_of_ar (by assumption) | omega | decide, ?_⟩
    | refine ⟨in_of (by first | assumption | exact N_a2 (by assumption) | exact N_a3 (by assumption) | exact N_a4 (by assumption) | exact N_a5 (by assumption) | exact N_a6 (by assumption) | exact N_a7 (by assumption) | exact N_a9 (by assumption) | exact N_a10 (by assumption) | exact A_635 | exact A_636 | exact A_637 | exact A_638 | exact A_639 | exact A_630 | exact A_631 | exact A_632 | exact A_633 | exact A_2 | exact A_55 | exact A_56 | exact A_57 | exact A_58 | exact A_59 | exact A_60 | exact A_61 | exact A_62 | exact A_63) (by omega) (by omega), ?_⟩
    | refine ⟨N_lin (by assumption) (by omega) (by omega), ?_⟩
    | refine ⟨_, by first | exact N_web (by assumption) | exact N_letters (by assumption) | exact N_golden (by assumption) | exact N_logged (by assumption) | exact N_open (by assumption) | exact N_last (by assumption) | exact N_beyond (by assumption) | exact N_apart (by assumption) | exact N_steps (by assumption) | exact N_reached (by assumption) | exact N_lrf (by assumption) (by omega) (by omega) | exact F_0_0 | exact F_0_1 | exact F_0_2 | exact F_0_3 | exact F_0_4 | exact F_0_5 | exact F_1_0 | exact F_54_0 | exact F_54_1 | exact F_54_4 | exact F_54_5 | exact F_54_6 | exact F_54_7 | exact F_54_8 | exact F_54_9 | exact F_54_10 | exact F_64_0 | exact F_64_1 | exact F_116_0 | exact F_629_0 | exact F_629_1 | exact F_629_2 | exact F_629_4 | exact F_629_5 | exact F_629_6 | exact F_629_15 | exact F_629_16 | exact F_629_18 | exact F_629_19, ?_⟩
    | simp (disch := omega) only [w32_id, gm_cmp_lt, gm_cmp_gt, gm_cmp_le, gm_cmp_ge]
    | dsimp only [gm_step, gm_c, gm_s1, gm_s2, gm_kl, gm_ps, gm_wd, gm_w1, List.getElem?_cons_succ, List.getElem?_cons_zero, List.set_cons_succ, List.set_cons_zero, List.length_cons, List.length_nil, List.drop_succ_cons, List.drop_zero, List.take_succ_cons, List.take_zero, Nat.reduceAdd, Nat.reduceSub, Nat.reduceLeDiff])
  all_goals (first | exact ⟨Or.inl rfl, rfl, rfl, rfl⟩ | exact ⟨rfl, rfl, rfl⟩ | (refine ⟨by simp, ?_, rfl, rfl⟩; first | rfl | (rw [if_pos (by omega)]) | (rw [if_neg (by omega)]) | (congr 2; omega) | (congr 1; congr 1; omega)))
set_option maxHeartbeats 2000000 in
theorem sp_X8_is {ro : Nat → Nat × (Int → Int)} {d : Nat} {m : gm_M} {b k w v : Int} (hb : gm_ar S0 b 565) (h1 : 0 ≤ k) (h2 : k < 40) (h3 : 0 ≤ w) (h4 : w < 12) : gm_sem MT ro (d + 1) k_X8_is [gA b, gI k, gI w, gI v] S0 m (none) S0 (gm_up m b (85 + 12 * k + w) v) := by
  refine gm_sem_of mt_X8_is (Nat.le_of_ble_eq_true rfl) ?_
  dsimp only [gm_en, List.length_cons, List.length_nil, List.replicate, List.cons_append, List.nil_append, Nat.reduceAdd, Nat.reduceSub]
  repeat' (first
    | refine gm_go rfl ?_
    | (refine ⟨fun hc => ?_, fun hc => ?_⟩ <;> try (exfalso; omega))
    | refine ⟨by first | assumption | exact N_is (by assumption) | exact N_wis (by assumption) | exact C_629 | exact N_lis (by assumption) (by omega) (by omega) | exact C_0 | exact C_1 | exact C_54 | exact C_64 | exact C_116 | exact is_of_ar (by assumption) | omega | decide, ?_⟩
    | refine ⟨in_of (by first | assumption | exact N_a2 (by assumption) | exact N_a3 (by assumption) | exact N_a4 (by assumption) | exact N_a5 (by assumption) | exact N_a6 (by assumption) | exact N_a7 (by assumption) | exact N_a9 (by assumption) | exact N_a10 (by assumption) | exact A_635 | exact A_636 | exact A_637 | exact A_638 | exact A_639 | exact A_630 | exact A_631 | exact A_632 | exact A_633 | exact A_2 | exact A_55 | exact A_56 | exact A_57 | exact A_58 | exact A_59 | exact A_60 | exact A_61 | exact A_62 | exact A_63) (by omega) (by omega), ?_⟩
    | refine ⟨N_lin (by assumption) (by omega) (by omega), ?_⟩
    | refine ⟨_, by first | exact N_web (by assumption) | exact N_letters (by assumption) | exact N_golden (by assumption) | exact N_logged (by assumption) | exact N_open (by assumption) | exact N_last (by assumption) | exact N_beyond (by assumption) | exact N_apart (by assumption) | exact N_steps (by assumption) | exact N_reached (by assumption) | exact N_lrf (by assumption) (by omega) (by omega) | exact F_0_0 | exact F_0_1 | exact F_0_2 | exact F_0_3 | exact F_0_4 | exact F_0_5 | exact F_1_0 | exact F_54_0 | exact F_54_1 | exact F_54_4 | exact F_54_5 | exact F_54_6 | exact F_54_7 | exact F_54_8 | exact F_54_9 | exact F_54_10 | exact F_64_0 | exact F_64_1 | exact F_116_0 | exact F_629_0 | exact F_629_1 | exact F_629_2 | exact F_629_4 | exact F_629_5 | exact F_629_6 | exact F_629_15 | exact F_629_16 | exact F_629_18 | exact F_629_19, ?_⟩
    | simp (disch := omega) only [w32_id, gm_cmp_lt, gm_cmp_gt, gm_cmp_le, gm_cmp_ge]
    | dsimp only [gm_step, gm_c, gm_s1, gm_s2, gm_kl, gm_ps, gm_wd, gm_w1, List.getElem?_cons_succ, List.getElem?_cons_zero, List.set_cons_succ, List.set_cons_zero, List.length_cons, List.length_nil, List.drop_succ_cons, List.drop_zero, List.take_succ_cons, List.take_zero, Nat.reduceAdd, Nat.reduceSub, Nat.reduceLeDiff])
  all_goals (first | exact ⟨Or.inl rfl, rfl, rfl, rfl⟩ | exact ⟨rfl, rfl, rfl⟩ | (refine ⟨by simp, ?_, rfl, rfl⟩; first | rfl | (rw [if_pos (by omega)]) | (rw [if_neg (by omega)]) | (congr 2; omega) | (congr 1; congr 1; omega)))
set_option maxHeartbeats 2000000 in
theorem sp_X8_nodes {ro : Nat → Nat × (Int → Int)} {d : Nat} {m : gm_M} {b : Int} (hb : gm_ar S0 b 565) (hw : 0 ≤ m b 0 ∧ m b 0 ≤ 4) (hh : 0 ≤ m b 1 ∧ m b 1 ≤ 4) : gm_sem MT ro (d + 1) k_X8_nodes [gA b] S0 m (gI (w32 (m b 0 * m b 1))) S0 (m) := by
  refine gm_sem_of mt_X8_nodes (Nat.le_of_ble_eq_true rfl) ?_
  dsimp only [gm_en, List.length_cons, List.length_nil, List.replicate, List.cons_append, List.nil_append, Nat.reduceAdd, Nat.reduceSub]
  repeat' (first
    | refine gm_go rfl ?_
    | (refine ⟨fun hc => ?_, fun hc => ?_⟩ <;> try (exfalso; omega))
    | refine ⟨by first | assumption | exact N_is (by assumption) | exact N_wis (by assumption) | exact C_629 | exact N_lis (by assumption) (by omega) (by omega) | exact C_0 | exact C_1 | exact C_54 | exact C_64 | exact C_116 | exact is_of_ar (by assumption) | omega | decide, ?_⟩
    | refine ⟨in_of (by first | assumption | exact N_a2 (by assumption) | exact N_a3 (by assumption) | exact N_a4 (by assumption) | exact N_a5 (by assumption) | exact N_a6 (by assumption) | exact N_a7 (by assumption) | exact N_a9 (by assumption) | exact N_a10 (by assumption) | exact A_635 | exact A_636 | exact A_637 | exact A_638 | exact A_639 | exact A_630 | exact A_631 | exact A_632 | exact A_633 | exact A_2 | exact A_55 | exact A_56 | exact A_57 | exact A_58 | exact A_59 | exact A_60 | exact A_61 | exact A_62 | exact A_63) (by omega) (by omega), ?_⟩
    | refine ⟨N_lin (by assumption) (by omega) (by omega), ?_⟩
    | refine ⟨_, by first | exact N_web (by assumption) | exact N_letters (by assumption) | exact N_golden (by assumption) | exact N_logged (by assumption) | exact N_open (by assumption) | exact N_last (by assumption) | exact N_beyond (by assumption) | exact N_apart (by assumption) | exact N_steps (by assumption) | exact N_reached (by assumption) | exact N_lrf (by assumption) (by omega) (by omega) | exact F_0_0 | exact F_0_1 | exact F_0_2 | exact F_0_3 | exact F_0_4 | exact F_0_5 | exact F_1_0 | exact F_54_0 | exact F_54_1 | exact F_54_4 | exact F_54_5 | exact F_54_6 | exact F_54_7 | exact F_54_8 | exact F_54_9 | exact F_54_10 | exact F_64_0 | exact F_64_1 | exact F_116_0 | exact F_629_0 | exact F_629_1 | exact F_629_2 | exact F_629_4 | exact F_629_5 | exact F_629_6 | exact F_629_15 | exact F_629_16 | exact F_629_18 | exact F_629_19, ?_⟩
    | simp (disch := omega) only [w32_id, gm_cmp_lt, gm_cmp_gt, gm_cmp_le, gm_cmp_ge]
    | dsimp only [gm_step, gm_c, gm_s1, gm_s2, gm_kl, gm_ps, gm_wd, gm_w1, List.getElem?_cons_succ, List.getElem?_cons_zero, List.set_cons_succ, List.set_cons_zero, List.length_cons, List.length_nil, List.drop_succ_cons, List.drop_zero, List.take_succ_cons, List.take_zero, Nat.reduceAdd, Nat.reduceSub, Nat.reduceLeDiff])
  all_goals (first | exact ⟨Or.inl rfl, rfl, rfl, rfl⟩ | exact ⟨rfl, rfl, rfl⟩ | (refine ⟨by simp, ?_, rfl, rfl⟩; first | rfl | (rw [if_pos (by omega)]) | (rw [if_neg (by omega)]) | (congr 2; omega) | (congr 1; congr 1; omega)))
set_option maxHeartbeats 2000000 in
theorem sp_X8_across {ro : Nat → Nat × (Int → Int)} {d : Nat} {m : gm_M} {p : Int} (h0 : 0 ≤ p) (h1 : p < 4) : gm_sem MT ro (d + 1) k_X8_across [gI p] S0 m (gI ((p + 2).tmod 4)) S0 (m) := by
  refine gm_sem_of mt_X8_across (Nat.le_of_ble_eq_true rfl) ?_
  dsimp only [gm_en, List.length_cons, List.length_nil, List.replicate, List.cons_append, List.nil_append, Nat.reduceAdd, Nat.reduceSub]
  repeat' (first
    | refine gm_go rfl ?_
    | (refine ⟨fun hc => ?_, fun hc => ?_⟩ <;> try (exfalso; omega))
    | refine ⟨by first | assumption | exact N_is (by assumption) | exact N_wis (by assumption) | exact C_629 | exact N_lis (by assumption) (by omega) (by omega) | exact C_0 | exact C_1 | exact C_54 | exact C_64 | exact C_116 | exact is_of_ar (by assumption) | omega | decide, ?_⟩
    | refine ⟨in_of (by first | assumption | exact N_a2 (by assumption) | exact N_a3 (by assumption) | exact N_a4 (by assumption) | exact N_a5 (by assumption) | exact N_a6 (by assumption) | exact N_a7 (by assumption) | exact N_a9 (by assumption) | exact N_a10 (by assumption) | exact A_635 | exact A_636 | exact A_637 | exact A_638 | exact A_639 | exact A_630 | exact A_631 | exact A_632 | exact A_633 | exact A_2 | exact A_55 | exact A_56 | exact A_57 | exact A_58 | exact A_59 | exact A_60 | exact A_61 | exact A_62 | exact A_63) (by omega) (by omega), ?_⟩
    | refine ⟨N_lin (by assumption) (by omega) (by omega), ?_⟩
    | refine ⟨_, by first | exact N_web (by assumption) | exact N_letters (by assumption) | exact N_golden (by assumption) | exact N_logged (by assumption) | exact N_open (by assumption) | exact N_last (by assumption) | exact N_beyond (by assumption) | exact N_apart (by assumption) | exact N_steps (by assumption) | exact N_reached (by assumption) | exact N_lrf (by assumption) (by omega) (by omega) | exact F_0_0 | exact F_0_1 | exact F_0_2 | exact F_0_3 | exact F_0_4 | exact F_0_5 | exact F_1_0 | exact F_54_0 | exact F_54_1 | exact F_54_4 | exact F_54_5 | exact F_54_6 | exact F_54_7 | exact F_54_8 | exact F_54_9 | exact F_54_10 | exact F_64_0 | exact F_64_1 | exact F_116_0 | exact F_629_0 | exact F_629_1 | exact F_629_2 | exact F_629_4 | exact F_629_5 | exact F_629_6 | exact F_629_15 | exact F_629_16 | exact F_629_18 | exact F_629_19, ?_⟩
    | simp (disch := omega) only [w32_id, gm_cmp_lt, gm_cmp_gt, gm_cmp_le, gm_cmp_ge]
    | dsimp only [gm_step, gm_c, gm_s1, gm_s2, gm_kl, gm_ps, gm_wd, gm_w1, List.getElem?_cons_succ, List.getElem?_cons_zero, List.set_cons_succ, List.set_cons_zero, List.length_cons, List.length_nil, List.drop_succ_cons, List.drop_zero, List.take_succ_cons, List.take_zero, Nat.reduceAdd, Nat.reduceSub, Nat.reduceLeDiff])
  all_goals (first | exact ⟨Or.inl rfl, rfl, rfl, rfl⟩ | exact ⟨rfl, rfl, rfl⟩ | (refine ⟨by simp, ?_, rfl, rfl⟩; first | rfl | (rw [if_pos (by omega)]) | (rw [if_neg (by omega)]) | (congr 2; omega) | (congr 1; congr 1; omega)))
set_option maxHeartbeats 2000000 in
theorem sp_X6_isNode {ro : Nat → Nat × (Int → Int)} {d : Nat} {m : gm_M} {a n : Int} (ha : gN a) : gm_sem MT ro (d + 1) k_X6_isNode [gA (a + 1), gI n] S0 m (gI (if 0 ≤ n ∧ n < m (a + 1) 0 then 1 else 0)) S0 (m) := by
  refine gm_sem_of mt_X6_isNode (Nat.le_of_ble_eq_true rfl) ?_
  dsimp only [gm_en, List.length_cons, List.length_nil, List.replicate, List.cons_append, List.nil_append, Nat.reduceAdd, Nat.reduceSub]
  repeat' (first
    | refine gm_go rfl ?_
    | (refine ⟨fun hc => ?_, fun hc => ?_⟩ <;> try (exfalso; omega))
    | refine ⟨by first | assumption | exact N_is (by assumption) | exact N_wis (by assumption) | exact C_629 | exact N_lis (by assumption) (by omega) (by omega) | exact C_0 | exact C_1 | exact C_54 | exact C_64 | exact C_116 | exact is_of_ar (by assumption) | omega | decide, ?_⟩
    | refine ⟨in_of (by first | assumption | exact N_a2 (by assumption) | exact N_a3 (by assumption) | exact N_a4 (by assumption) | exact N_a5 (by assumption) | exact N_a6 (by assumption) | exact N_a7 (by assumption) | exact N_a9 (by assumption) | exact N_a10 (by assumption) | exact A_635 | exact A_636 | exact A_637 | exact A_638 | exact A_639 | exact A_630 | exact A_631 | exact A_632 | exact A_633 | exact A_2 | exact A_55 | exact A_56 | exact A_57 | exact A_58 | exact A_59 | exact A_60 | exact A_61 | exact A_62 | exact A_63) (by omega) (by omega), ?_⟩
    | refine ⟨N_lin (by assumption) (by omega) (by omega), ?_⟩
    | refine ⟨_, by first | exact N_web (by assumption) | exact N_letters (by assumption) | exact N_golden (by assumption) | exact N_logged (by assumption) | exact N_open (by assumption) | exact N_last (by assumption) | exact N_beyond (by assumption) | exact N_apart (by assumption) | exact N_steps (by assumption) | exact N_reached (by assumption) | exact N_lrf (by assumption) (by omega) (by omega) | exact F_0_0 | exact F_0_1 | exact F_0_2 | exact F_0_3 | exact F_0_4 | exact F_0_5 | exact F_1_0 | exact F_54_0 | exact F_54_1 | exact F_54_4 | exact F_54_5 | exact F_54_6 | exact F_54_7 | exact F_54_8 | exact F_54_9 | exact F_54_10 | exact F_64_0 | exact F_64_1 | exact F_116_0 | exact F_629_0 | exact F_629_1 | exact F_629_2 | exact F_629_4 | exact F_629_5 | exact F_629_6 | exact F_629_15 | exact F_629_16 | exact F_629_18 | exact F_629_19, ?_⟩
    | simp (disch := omega) only [w32_id, gm_cmp_lt, gm_cmp_gt, gm_cmp_le, gm_cmp_ge]
    | dsimp only [gm_step, gm_c, gm_s1, gm_s2, gm_kl, gm_ps, gm_wd, gm_w1, List.getElem?_cons_succ, List.getElem?_cons_zero, List.set_cons_succ, List.set_cons_zero, List.length_cons, List.length_nil, List.drop_succ_cons, List.drop_zero, List.take_succ_cons, List.take_zero, Nat.reduceAdd, Nat.reduceSub, Nat.reduceLeDiff])
  all_goals (first | exact ⟨Or.inl rfl, rfl, rfl, rfl⟩ | exact ⟨rfl, rfl, rfl⟩ | (refine ⟨by simp, ?_, rfl, rfl⟩; first | rfl | (rw [if_pos (by omega)]) | (rw [if_neg (by omega)]) | (congr 2; omega) | (congr 1; congr 1; omega)))
set_option maxHeartbeats 2000000 in
theorem sp_X6_portAcross {ro : Nat → Nat × (Int → Int)} {d : Nat} {m : gm_M} {p : Int} : gm_sem MT ro (d + 1) k_X6_portAcross [gI p] S0 m (gI (gm_xor p 2)) S0 (m) := by
  refine gm_sem_of mt_X6_portAcross (Nat.le_of_ble_eq_true rfl) ?_
  dsimp only [gm_en, List.length_cons, List.length_nil, List.replicate, List.cons_append, List.nil_append, Nat.reduceAdd, Nat.reduceSub]
  repeat' (first
    | refine gm_go rfl ?_
    | (refine ⟨fun hc => ?_, fun hc => ?_⟩ <;> try (exfalso; omega))
    | refine ⟨by first | assumption | exact N_is (by assumption) | exact N_wis (by assumption) | exact C_629 | exact N_lis (by assumption) (by omega) (by omega) | exact C_0 | exact C_1 | exact C_54 | exact C_64 | exact C_116 | exact is_of_ar (by assumption) | omega | decide, ?_⟩
    | refine ⟨in_of (by first | assumption | exact N_a2 (by assumption) | exact N_a3 (by assumption) | exact N_a4 (by assumption) | exact N_a5 (by assumption) | exact N_a6 (by assumption) | exact N_a7 (by assumption) | exact N_a9 (by assumption) | exact N_a10 (by assumption) | exact A_635 | exact A_636 | exact A_637 | exact A_638 | exact A_639 | exact A_630 | exact A_631 | exact A_632 | exact A_633 | exact A_2 | exact A_55 | exact A_56 | exact A_57 | exact A_58 | exact A_59 | exact A_60 | exact A_61 | exact A_62 | exact A_63) (by omega) (by omega), ?_⟩
    | refine ⟨N_lin (by assumption) (by omega) (by omega), ?_⟩
    | refine ⟨_, by first | exact N_web (by assumption) | exact N_letters (by assumption) | exact N_golden (by assumption) | exact N_logged (by assumption) | exact N_open (by assumption) | exact N_last (by assumption) | exact N_beyond (by assumption) | exact N_apart (by assumption) | exact N_steps (by assumption) | exact N_reached (by assumption) | exact N_lrf (by assumption) (by omega) (by omega) | exact F_0_0 | exact F_0_1 | exact F_0_2 | exact F_0_3 | exact F_0_4 | exact F_0_5 | exact F_1_0 | exact F_54_0 | exact F_54_1 | exact F_54_4 | exact F_54_5 | exact F_54_6 | exact F_54_7 | exact F_54_8 | exact F_54_9 | exact F_54_10 | exact F_64_0 | exact F_64_1 | exact F_116_0 | exact F_629_0 | exact F_629_1 | exact F_629_2 | exact F_629_4 | exact F_629_5 | exact F_629_6 | exact F_629_15 | exact F_629_16 | exact F_629_18 | exact F_629_19, ?_⟩
    | simp (disch := omega) only [w32_id, gm_cmp_lt, gm_cmp_gt, gm_cmp_le, gm_cmp_ge]
    | dsimp only [gm_step, gm_c, gm_s1, gm_s2, gm_kl, gm_ps, gm_wd, gm_w1, List.getElem?_cons_succ, List.getElem?_cons_zero, List.set_cons_succ, List.set_cons_zero, List.length_cons, List.length_nil, List.drop_succ_cons, List.drop_zero, List.take_succ_cons, List.take_zero, Nat.reduceAdd, Nat.reduceSub, Nat.reduceLeDiff])
  all_goals (first | exact ⟨Or.inl rfl, rfl, rfl, rfl⟩ | exact ⟨rfl, rfl, rfl⟩ | (refine ⟨by simp, ?_, rfl, rfl⟩; first | rfl | (rw [if_pos (by omega)]) | (rw [if_neg (by omega)]) | (congr 2; omega) | (congr 1; congr 1; omega)))
set_option maxHeartbeats 2000000 in
theorem sp_X1_isEnded {ro : Nat → Nat × (Int → Int)} {d : Nat} {m : gm_M} {a j : Int} (ha : gN a) (h0 : 0 ≤ j) (h1 : j < 40) : gm_sem MT ro (d + 1) k_X1_isEnded [gA (a + 11 + j)] S0 m (gI (if m (a + 11 + j) 3 = 2 ∨ m (a + 11 + j) 3 = 3 then 1 else 0)) S0 (m) := by
  refine gm_sem_of mt_X1_isEnded (Nat.le_of_ble_eq_true rfl) ?_
  dsimp only [gm_en, List.length_cons, List.length_nil, List.replicate, List.cons_append, List.nil_append, Nat.reduceAdd, Nat.reduceSub]
  repeat' (first
    | refine gm_go rfl ?_
    | (refine ⟨fun hc => ?_, fun hc => ?_⟩ <;> try (exfalso; omega))
    | refine ⟨by first | assumption | exact N_is (by assumption) | exact N_wis (by assumption) | exact C_629 | exact N_lis (by assumption) (by omega) (by omega) | exact C_0 | exact C_1 | exact C_54 | exact C_64 | exact C_116 | exact is_of_ar (by assumption) | omega | decide, ?_⟩
    | refine ⟨in_of (by first | assumption | exact N_a2 (by assumption) | exact N_a3 (by assumption) | exact N_a4 (by assumption) | exact N_a5 (by assumption) | exact N_a6 (by assumption) | exact N_a7 (by assumption) | exact N_a9 (by assumption) | exact N_a10 (by assumption) | exact A_635 | exact A_636 | exact A_637 | exact A_638 | exact A_639 | exact A_630 | exact A_631 | exact A_632 | exact A_633 | exact A_2 | exact A_55 | exact A_56 | exact A_57 | exact A_58 | exact A_59 | exact A_60 | exact A_61 | exact A_62 | exact A_63) (by omega) (by omega), ?_⟩
    | refine ⟨N_lin (by assumption) (by omega) (by omega), ?_⟩
    | refine ⟨_, by first | exact N_web (by assumption) | exact N_letters (by assumption) | exact N_golden (by assumption) | exact N_logged (by assumption) | exact N_open (by assumption) | exact N_last (by assumption) | exact N_beyond (by assumption) | exact N_apart (by assumption) | exact N_steps (by assumption) | exact N_reached (by assumption) | exact N_lrf (by assumption) (by omega) (by omega) | exact F_0_0 | exact F_0_1 | exact F_0_2 | exact F_0_3 | exact F_0_4 | exact F_0_5 | exact F_1_0 | exact F_54_0 | exact F_54_1 | exact F_54_4 | exact F_54_5 | exact F_54_6 | exact F_54_7 | exact F_54_8 | exact F_54_9 | exact F_54_10 | exact F_64_0 | exact F_64_1 | exact F_116_0 | exact F_629_0 | exact F_629_1 | exact F_629_2 | exact F_629_4 | exact F_629_5 | exact F_629_6 | exact F_629_15 | exact F_629_16 | exact F_629_18 | exact F_629_19, ?_⟩
    | simp (disch := omega) only [w32_id, gm_cmp_lt, gm_cmp_gt, gm_cmp_le, gm_cmp_ge]
    | dsimp only [gm_step, gm_c, gm_s1, gm_s2, gm_kl, gm_ps, gm_wd, gm_w1, List.getElem?_cons_succ, List.getElem?_cons_zero, List.set_cons_succ, List.set_cons_zero, List.length_cons, List.length_nil, List.drop_succ_cons, List.drop_zero, List.take_succ_cons, List.take_zero, Nat.reduceAdd, Nat.reduceSub, Nat.reduceLeDiff])
  all_goals (first | exact ⟨Or.inl rfl, rfl, rfl, rfl⟩ | exact ⟨rfl, rfl, rfl⟩ | (refine ⟨by simp, ?_, rfl, rfl⟩; first | rfl | (rw [if_pos (by omega)]) | (rw [if_neg (by omega)]) | (congr 2; omega) | (congr 1; congr 1; omega)))
set_option maxHeartbeats 2000000 in
theorem sp_X2_isLaid {ro : Nat → Nat × (Int → Int)} {d : Nat} {m : gm_M} {a : Int} (ha : gN a) : gm_sem MT ro (d + 1) k_X2_isLaid [gA a] S0 m (gI (if 0 < m (a + 1) 0 then 1 else 0)) S0 (m) := by
  refine gm_sem_of mt_X2_isLaid (Nat.le_of_ble_eq_true rfl) ?_
  dsimp only [gm_en, List.length_cons, List.length_nil, List.replicate, List.cons_append, List.nil_append, Nat.reduceAdd, Nat.reduceSub]
  repeat' (first
    | refine gm_go rfl ?_
    | (refine ⟨fun hc => ?_, fun hc => ?_⟩ <;> try (exfalso; omega))
    | refine ⟨by first | assumption | exact N_is (by assumption) | exact N_wis (by assumption) | exact C_629 | exact N_lis (by assumption) (by omega) (by omega) | exact C_0 | exact C_1 | exact C_54 | exact C_64 | exact C_116 | exact is_of_ar (by assumption) | omega | decide, ?_⟩
    | refine ⟨in_of (by first | assumption | exact N_a2 (by assumption) | exact N_a3 (by assumption) | exact N_a4 (by assumption) | exact N_a5 (by assumption) | exact N_a6 (by assumption) | exact N_a7 (by assumption) | exact N_a9 (by assumption) | exact N_a10 (by assumption) | exact A_635 | exact A_636 | exact A_637 | exact A_638 | exact A_639 | exact A_630 | exact A_631 | exact A_632 | exact A_633 | exact A_2 | exact A_55 | exact A_56 | exact A_57 | exact A_58 | exact A_59 | exact A_60 | exact A_61 | exact A_62 | exact A_63) (by omega) (by omega), ?_⟩
    | refine ⟨N_lin (by assumption) (by omega) (by omega), ?_⟩
    | refine ⟨_, by first | exact N_web (by assumption) | exact N_letters (by assumption) | exact N_golden (by assumption) | exact N_logged (by assumption) | exact N_open (by assumption) | exact N_last (by assumption) | exact N_beyond (by assumption) | exact N_apart (by assumption) | exact N_steps (by assumption) | exact N_reached (by assumption) | exact N_lrf (by assumption) (by omega) (by omega) | exact F_0_0 | exact F_0_1 | exact F_0_2 | exact F_0_3 | exact F_0_4 | exact F_0_5 | exact F_1_0 | exact F_54_0 | exact F_54_1 | exact F_54_4 | exact F_54_5 | exact F_54_6 | exact F_54_7 | exact F_54_8 | exact F_54_9 | exact F_54_10 | exact F_64_0 | exact F_64_1 | exact F_116_0 | exact F_629_0 | exact F_629_1 | exact F_629_2 | exact F_629_4 | exact F_629_5 | exact F_629_6 | exact F_629_15 | exact F_629_16 | exact F_629_18 | exact F_629_19, ?_⟩
    | simp (disch := omega) only [w32_id, gm_cmp_lt, gm_cmp_gt, gm_cmp_le, gm_cmp_ge]
    | dsimp only [gm_step, gm_c, gm_s1, gm_s2, gm_kl, gm_ps, gm_wd, gm_w1, List.getElem?_cons_succ, List.getElem?_cons_zero, List.set_cons_succ, List.set_cons_zero, List.length_cons, List.length_nil, List.drop_succ_cons, List.drop_zero, List.take_succ_cons, List.take_zero, Nat.reduceAdd, Nat.reduceSub, Nat.reduceLeDiff])
  all_goals (first | exact ⟨Or.inl rfl, rfl, rfl, rfl⟩ | exact ⟨rfl, rfl, rfl⟩ | (refine ⟨by simp, ?_, rfl, rfl⟩; first | rfl | (rw [if_pos (by omega)]) | (rw [if_neg (by omega)]) | (congr 2; omega) | (congr 1; congr 1; omega)))
set_option maxHeartbeats 2000000 in
theorem sp_X2_isLetter {ro : Nat → Nat × (Int → Int)} {d : Nat} {m : gm_M} {a n : Int} (ha : gN a) : gm_sem MT ro (d + 1) k_X2_isLetter [gA a, gI n] S0 m (gI (if 0 ≤ n ∧ n < m a 2 then 1 else 0)) S0 (m) := by
  refine gm_sem_of mt_X2_isLetter (Nat.le_of_ble_eq_true rfl) ?_
  dsimp only [gm_en, List.length_cons, List.length_nil, List.replicate, List.cons_append, List.nil_append, Nat.reduceAdd, Nat.reduceSub]
  repeat' (first
    | refine gm_go rfl ?_
    | (refine ⟨fun hc => ?_, fun hc => ?_⟩ <;> try (exfalso; omega))
    | refine ⟨by first | assumption | exact N_is (by assumption) | exact N_wis (by assumption) | exact C_629 | exact N_lis (by assumption) (by omega) (by omega) | exact C_0 | exact C_1 | exact C_54 | exact C_64 | exact C_116 | exact is_of_ar (by assumption) | omega | decide, ?_⟩
    | refine ⟨in_of (by first | assumption | exact N_a2 (by assumption) | exact N_a3 (by assumption) | exact N_a4 (by assumption) | exact N_a5 (by assumption) | exact N_a6 (by assumption) | exact N_a7 (by assumption) | exact N_a9 (by assumption) | exact N_a10 (by assumption) | exact A_635 | exact A_636 | exact A_637 | exact A_638 | exact A_639 | exact A_630 | exact A_631 | exact A_632 | exact A_633 | exact A_2 | exact A_55 | exact A_56 | exact A_57 | exact A_58 | exact A_59 | exact A_60 | exact A_61 | exact A_62 | exact A_63) (by omega) (by omega), ?_⟩
    | refine ⟨N_lin (by assumption) (by omega) (by omega), ?_⟩
    | refine ⟨_, by first | exact N_web (by assumption) | exact N_letters (by assumption) | exact N_golden (by assumption) | exact N_logged (by assumption) | exact N_open (by assumption) | exact N_last (by assumption) | exact N_beyond (by assumption) | exact N_apart (by assumption) | exact N_steps (by assumption) | exact N_reached (by assumption) | exact N_lrf (by assumption) (by omega) (by omega) | exact F_0_0 | exact F_0_1 | exact F_0_2 | exact F_0_3 | exact F_0_4 | exact F_0_5 | exact F_1_0 | exact F_54_0 | exact F_54_1 | exact F_54_4 | exact F_54_5 | exact F_54_6 | exact F_54_7 | exact F_54_8 | exact F_54_9 | exact F_54_10 | exact F_64_0 | exact F_64_1 | exact F_116_0 | exact F_629_0 | exact F_629_1 | exact F_629_2 | exact F_629_4 | exact F_629_5 | exact F_629_6 | exact F_629_15 | exact F_629_16 | exact F_629_18 | exact F_629_19, ?_⟩
    | simp (disch := omega) only [w32_id, gm_cmp_lt, gm_cmp_gt, gm_cmp_le, gm_cmp_ge]
    | dsimp only [gm_step, gm_c, gm_s1, gm_s2, gm_kl, gm_ps, gm_wd, gm_w1, List.getElem?_cons_succ, List.getElem?_cons_zero, List.set_cons_succ, List.set_cons_zero, List.length_cons, List.length_nil, List.drop_succ_cons, List.drop_zero, List.take_succ_cons, List.take_zero, Nat.reduceAdd, Nat.reduceSub, Nat.reduceLeDiff])
  all_goals (first | exact ⟨Or.inl rfl, rfl, rfl, rfl⟩ | exact ⟨rfl, rfl, rfl⟩ | (refine ⟨by simp, ?_, rfl, rfl⟩; first | rfl | (rw [if_pos (by omega)]) | (rw [if_neg (by omega)]) | (congr 2; omega) | (congr 1; congr 1; omega)))
set_option maxHeartbeats 2000000 in
theorem sp_X2_isFull {ro : Nat → Nat × (Int → Int)} {d : Nat} {m : gm_M} {a : Int} (ha : gN a) : gm_sem MT ro (d + 1) k_X2_isFull [gA a] S0 m (gI (if 40 ≤ m a 2 then 1 else 0)) S0 (m) := by
  refine gm_sem_of mt_X2_isFull (Nat.le_of_ble_eq_true rfl) ?_
  dsimp only [gm_en, List.length_cons, List.length_nil, List.replicate, List.cons_append, List.nil_append, Nat.reduceAdd, Nat.reduceSub]
  repeat' (first
    | refine gm_go rfl ?_
    | (refine ⟨fun hc => ?_, fun hc => ?_⟩ <;> try (exfalso; omega))
    | refine ⟨by first | assumption | exact N_is (by assumption) | exact N_wis (by assumption) | exact C_629 | exact N_lis (by assumption) (by omega) (by omega) | exact C_0 | exact C_1 | exact C_54 | exact C_64 | exact C_116 | exact is_of_ar (by assumption) | omega | decide, ?_⟩
    | refine ⟨in_of (by first | assumption | exact N_a2 (by assumption) | exact N_a3 (by assumption) | exact N_a4 (by assumption) | exact N_a5 (by assumption) | exact N_a6 (by assumption) | exact N_a7 (by assumption) | exact N_a9 (by assumption) | exact N_a10 (by assumption) | exact A_635 | exact A_636 | exact A_637 | exact A_638 | exact A_639 | exact A_630 | exact A_631 | exact A_632 | exact A_633 | exact A_2 | exact A_55 | exact A_56 | exact A_57 | exact A_58 | exact A_59 | exact A_60 | exact A_61 | exact A_62 | exact A_63) (by omega) (by omega), ?_⟩
    | refine ⟨N_lin (by assumption) (by omega) (by omega), ?_⟩
    | refine ⟨_, by first | exact N_web (by assumption) | exact N_letters (by assumption) | exact N_golden (by assumption) | exact N_logged (by assumption) | exact N_open (by assumption) | exact N_last (by assumption) | exact N_beyond (by assumption) | exact N_apart (by assumption) | exact N_steps (by assumption) | exact N_reached (by assumption) | exact N_lrf (by assumption) (by omega) (by omega) | exact F_0_0 | exact F_0_1 | exact F_0_2 | exact F_0_3 | exact F_0_4 | exact F_0_5 | exact F_1_0 | exact F_54_0 | exact F_54_1 | exact F_54_4 | exact F_54_5 | exact F_54_6 | exact F_54_7 | exact F_54_8 | exact F_54_9 | exact F_54_10 | exact F_64_0 | exact F_64_1 | exact F_116_0 | exact F_629_0 | exact F_629_1 | exact F_629_2 | exact F_629_4 | exact F_629_5 | exact F_629_6 | exact F_629_15 | exact F_629_16 | exact F_629_18 | exact F_629_19, ?_⟩
    | simp (disch := omega) only [w32_id, gm_cmp_lt, gm_cmp_gt, gm_cmp_le, gm_cmp_ge]
    | dsimp only [gm_step, gm_c, gm_s1, gm_s2, gm_kl, gm_ps, gm_wd, gm_w1, List.getElem?_cons_succ, List.getElem?_cons_zero, List.set_cons_succ, List.set_cons_zero, List.length_cons, List.length_nil, List.drop_succ_cons, List.drop_zero, List.take_succ_cons, List.take_zero, Nat.reduceAdd, Nat.reduceSub, Nat.reduceLeDiff])
  all_goals (first | exact ⟨Or.inl rfl, rfl, rfl, rfl⟩ | exact ⟨rfl, rfl, rfl⟩ | (refine ⟨by simp, ?_, rfl, rfl⟩; first | rfl | (rw [if_pos (by omega)]) | (rw [if_neg (by omega)]) | (congr 2; omega) | (congr 1; congr 1; omega)))
set_option maxHeartbeats 2000000 in
theorem sp_X6_linksOf {ro : Nat → Nat × (Int → Int)} {d : Nat} {m : gm_M} {a n : Int} (ha : gN a) : gm_sem MT ro (d + 3) k_X6_linksOf [gA (a + 1), gI n] S0 m (gI 0) S0 (m) := by
  refine gm_sem_of mt_X6_linksOf (Nat.le_of_ble_eq_true rfl) ?_
  dsimp only [gm_en, List.length_cons, List.length_nil, List.replicate, List.cons_append, List.nil_append, Nat.reduceAdd, Nat.reduceSub]
  repeat' (first
    | refine gm_go rfl ?_
    | refine gm_vt rfl (Nat.le_of_ble_eq_true rfl) (Nat.le_of_ble_eq_true rfl) (by first | assumption | exact N_is (by assumption) | exact N_wis (by assumption) | exact C_629 | exact N_lis (by assumption) (by omega) (by omega) | exact C_0 | exact C_1 | exact C_54 | exact C_64 | exact C_116 | exact is_of_ar (by assumption) | omega | decide) (sp_X6_isNode (by assumption)) ?_
    | (refine ⟨fun hc => ?_, fun hc => ?_⟩ <;> try (exfalso; omega))
    | refine ⟨by first | assumption | exact N_is (by assumption) | exact N_wis (by assumption) | exact C_629 | exact N_lis (by assumption) (by omega) (by omega) | exact C_0 | exact C_1 | exact C_54 | exact C_64 | exact C_116 | exact is_of_ar (by assumption) | omega | decide, ?_⟩
    | refine ⟨in_of (by first | assumption | exact N_a2 (by assumption) | exact N_a3 (by assumption) | exact N_a4 (by assumption) | exact N_a5 (by assumption) | exact N_a6 (by assumption) | exact N_a7 (by assumption) | exact N_a9 (by assumption) | exact N_a10 (by assumption) | exact A_635 | exact A_636 | exact A_637 | exact A_638 | exact A_639 | exact A_630 | exact A_631 | exact A_632 | exact A_633 | exact A_2 | exact A_55 | exact A_56 | exact A_57 | exact A_58 | exact A_59 | exact A_60 | exact A_61 | exact A_62 | exact A_63) (by omega) (by omega), ?_⟩
    | refine ⟨N_lin (by assumption) (by omega) (by omega), ?_⟩
    | refine ⟨_, by first | exact N_web (by assumption) | exact N_letters (by assumption) | exact N_golden (by assumption) | exact N_logged (by assumption) | exact N_open (by assumption) | exact N_last (by assumption) | exact N_beyond (by assumption) | exact N_apart (by assumption) | exact N_steps (by assumption) | exact N_reached (by assumption) | exact N_lrf (by assumption) (by omega) (by omega) | exact F_0_0 | exact F_0_1 | exact F_0_2 | exact F_0_3 | exact F_0_4 | exact F_0_5 | exact F_1_0 | exact F_54_0 | exact F_54_1 | exact F_54_4 | exact F_54_5 | exact F_54_6 | exact F_54_7 | exact F_54_8 | exact F_54_9 | exact F_54_10 | exact F_64_0 | exact F_64_1 | exact F_116_0 | exact F_629_0 | exact F_629_1 | exact F_629_2 | exact F_629_4 | exact F_629_5 | exact F_629_6 | exact F_629_15 | exact F_629_16 | exact F_629_18 | exact F_629_19, ?_⟩
    | simp (disch := omega) only [w32_id, gm_cmp_lt, gm_cmp_gt, gm_cmp_le, gm_cmp_ge]
    | dsimp only [gm_step, gm_c, gm_s1, gm_s2, gm_kl, gm_ps, gm_wd, gm_w1, List.getElem?_cons_succ, List.getElem?_cons_zero, List.set_cons_succ, List.set_cons_zero, List.length_cons, List.length_nil, List.drop_succ_cons, List.drop_zero, List.take_succ_cons, List.take_zero, Nat.reduceAdd, Nat.reduceSub, Nat.reduceLeDiff])
  all_goals (trace_state; sorry)
