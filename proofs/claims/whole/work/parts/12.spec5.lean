def isPt (w h way v p : Int) : Prop := way > 0 ∨ ¬ ((p = 0 ∧ v / w = 0) ∨ (p = 1 ∧ v % w = w - 1) ∨ (p = 2 ∧ v / w = h - 1) ∨ (p = 3 ∧ v % w = 0))
def byd (w h v p : Int) : Int := (if p = 0 then (v / w + h - 1) % h else if p = 2 then (v / w + 1) % h else v / w) * w + (if p = 1 then (v % w + 1) % w else if p = 3 then (v % w + w - 1) % w else v % w)
set_option maxHeartbeats 2000000 in
theorem sp_X8_isPort {ro : Nat → Nat × (Int → Int)} {d : Nat} {S : List gm_S} (hS : S = S0) {m : gm_M} {b v p : Int} (hb : gm_ar S b 565) (hw : 2 ≤ m b 0 ∧ m b 0 ≤ 4) (hh : 2 ≤ m b 1 ∧ m b 1 ≤ 4) (h0 : 0 ≤ v) (h1 : v < m b 0 * m b 1) : gm_sem MT ro (d + 1) k_X8_isPort [gA b, gI v, gI p] S m (gI (if m b 2 > 0 ∨ ¬ ((p = 0 ∧ v / m b 0 = 0) ∨ (p = 1 ∧ v % m b 0 = m b 0 - 1) ∨ (p = 2 ∧ v / m b 0 = m b 1 - 1) ∨ (p = 3 ∧ v % m b 0 = 0)) then 1 else 0)) S (m) := by
  refine gm_sem_of mt_X8_isPort (Nat.le_of_ble_eq_true rfl) ?_
  dsimp only [gm_en, List.length_cons, List.length_nil, List.replicate, List.cons_append, List.nil_append, Nat.reduceAdd, Nat.reduceSub]
  have hv1 : 0 ≤ v / m b 0 ∧ v / m b 0 < m b 1 := div_bd hw h0 h1
  have hv2 : 0 ≤ v % m b 0 ∧ v % m b 0 < m b 0 := mod_bd hw
  have hp16 : m b 0 * m b 1 ≤ 16 := (mul_bd ⟨by omega, hw.2⟩ ⟨by omega, hh.2⟩).2
  repeat' (first
    | refine gm_go rfl ?_
    | (refine sw_cons (fun hc => ?_) (fun hc => ?_) <;> try (exfalso; omega))
    | refine sw_nil ?_
    | simp (disch := omega) only [w32_id, Int.tdiv_eq_ediv_of_nonneg, Int.tmod_eq_emod_of_nonneg]
    | refine st_getI (by first | assumption | exact N_is' hS (by assumption) | exact N_wis' hS (by assumption) | exact C_629' hS | exact N_lis' hS (by assumption) (by omega) (by omega) | exact C_0' hS | exact C_1' hS | exact C_54' hS | exact C_64' hS | exact C_116' hS) ?_
    | refine st_getR (by first | assumption | exact N_is' hS (by assumption) | exact N_wis' hS (by assumption) | exact C_629' hS | exact N_lis' hS (by assumption) (by omega) (by omega) | exact C_0' hS | exact C_1' hS | exact C_54' hS | exact C_64' hS | exact C_116' hS) (by first | assumption | exact N_web' hS (by assumption) | exact N_letters' hS (by assumption) | exact N_golden' hS (by assumption) | exact N_logged' hS (by assumption) | exact N_open' hS (by assumption) | exact N_last' hS (by assumption) | exact N_beyond' hS (by assumption) | exact N_apart' hS (by assumption) | exact N_steps' hS (by assumption) | exact N_reached' hS (by assumption) | exact F_0_0' hS | exact F_0_1' hS | exact F_0_2' hS | exact F_0_3' hS | exact F_0_4' hS | exact F_0_5' hS | exact F_1_0' hS | exact F_54_0' hS | exact F_54_1' hS | exact F_54_4' hS | exact F_54_5' hS | exact F_54_6' hS | exact F_54_7' hS | exact F_54_8' hS | exact F_54_9' hS | exact F_54_10' hS | exact F_64_0' hS | exact F_64_1' hS | exact F_116_0' hS | exact F_629_0' hS | exact F_629_1' hS | exact F_629_2' hS | exact F_629_4' hS | exact F_629_5' hS | exact F_629_6' hS | exact F_629_15' hS | exact F_629_16' hS | exact F_629_18' hS | exact F_629_19' hS) ?_
    | refine st_putI (by first | assumption | exact N_is' hS (by assumption) | exact N_wis' hS (by assumption) | exact C_629' hS | exact N_lis' hS (by assumption) (by omega) (by omega) | exact C_0' hS | exact C_1' hS | exact C_54' hS | exact C_64' hS | exact C_116' hS) ?_
    | refine st_iald (in_of (by first | assumption | exact N_a2' hS (by assumption) | exact N_a3' hS (by assumption) | exact N_a4' hS (by assumption) | exact N_a5' hS (by assumption) | exact N_a6' hS (by assumption) | exact N_a7' hS (by assumption) | exact N_a9' hS (by assumption) | exact N_a10' hS (by assumption) | exact A_630' hS | exact A_631' hS | exact A_632' hS | exact A_633' hS | exact A_635' hS | exact A_636' hS | exact A_637' hS | exact A_638' hS | exact A_639' hS | exact A_2' hS | exact A_55' hS | exact A_56' hS | exact A_57' hS | exact A_58' hS | exact A_59' hS | exact A_60' hS | exact A_61' hS | exact A_62' hS | exact A_63' hS) (by omega) (by omega)) ?_
    | refine st_iast (in_of (by first | assumption | exact N_a2' hS (by assumption) | exact N_a3' hS (by assumption) | exact N_a4' hS (by assumption) | exact N_a5' hS (by assumption) | exact N_a6' hS (by assumption) | exact N_a7' hS (by assumption) | exact N_a9' hS (by assumption) | exact N_a10' hS (by assumption) | exact A_630' hS | exact A_631' hS | exact A_632' hS | exact A_633' hS | exact A_635' hS | exact A_636' hS | exact A_637' hS | exact A_638' hS | exact A_639' hS | exact A_2' hS | exact A_55' hS | exact A_56' hS | exact A_57' hS | exact A_58' hS | exact A_59' hS | exact A_60' hS | exact A_61' hS | exact A_62' hS | exact A_63' hS) (by omega) (by omega)) ?_
    | refine st_aald (N_lin' hS (by assumption) (by omega) (by omega)) (N_lrf' hS (by assumption) (by omega) (by omega)) ?_
    | (refine st_icmp (fun hc => ?_) (fun hc => ?_) <;> (try dsimp only [gm_c] at hc) <;> (try simp only [ite_0, ite_1, ne_eq, Classical.not_not] at hc) <;> try (exfalso; omega))
    | (refine st_if (fun hc => ?_) (fun hc => ?_) <;> (try dsimp only [gm_c] at hc) <;> (try simp only [gm_cmp_lt, gm_cmp_gt, gm_cmp_le, gm_cmp_ge, ite_0, ite_1, ne_eq, Classical.not_not] at hc) <;> try (exfalso; omega))
    | refine st_ret (by first | exact Or.inl rfl | exact Or.inr (Or.inl rfl) | exact Or.inr (Or.inr rfl)) ?_
    | refine st_rem (by decide) ?_
    | refine st_div (by decide) ?_
    | refine st_rem (by omega) ?_
    | refine st_div (by omega) ?_
    | dsimp only [gm_step, gm_c, gm_s1, gm_s2, gm_kl, gm_ps, gm_wd, gm_w1, List.getElem?_cons_succ, List.getElem?_cons_zero, List.set_cons_succ, List.set_cons_zero, List.length_cons, List.length_nil, List.drop_succ_cons, List.drop_zero, List.take_succ_cons, List.take_zero, Nat.reduceAdd, Nat.reduceSub, Nat.reduceLeDiff])
  all_goals (refine ⟨?_, (by first | rfl | trivial), (by first | rfl | trivial | (rw [if_pos (by omega)]; done) | (rw [if_neg (by omega)]; done) | (rw [if_neg (by omega), if_pos (by omega)]; done) | (rw [if_neg (by omega), if_neg (by omega)]; done) | (rw [if_neg (by omega), if_neg (by omega), if_pos (by omega)]; done) | (rw [if_neg (by omega), if_neg (by omega), if_neg (by omega)]; done))⟩; first | rfl | trivial | (rw [if_pos (by omega)]; done) | (rw [if_neg (by omega)]; done) | (rw [if_neg (by omega), if_pos (by omega)]; done) | (rw [if_neg (by omega), if_neg (by omega)]; done) | (rw [if_neg (by omega), if_neg (by omega), if_pos (by omega)]; done) | (rw [if_neg (by omega), if_neg (by omega), if_neg (by omega)]; done) | (congr 2; omega) | (congr 1; congr 1; omega))
set_option maxHeartbeats 2000000 in
theorem sp_X8_beyond {ro : Nat → Nat × (Int → Int)} {d : Nat} {S : List gm_S} (hS : S = S0) {m : gm_M} {b v p : Int} (hb : gm_ar S b 565) (hw : 2 ≤ m b 0 ∧ m b 0 ≤ 4) (hh : 2 ≤ m b 1 ∧ m b 1 ≤ 4) (h0 : 0 ≤ v) (h1 : v < m b 0 * m b 1) : gm_sem MT ro (d + 1) k_X8_beyond [gA b, gI v, gI p] S m (gI (byd (m b 0) (m b 1) v p)) S (m) := by
  refine gm_sem_of mt_X8_beyond (Nat.le_of_ble_eq_true rfl) ?_
  dsimp only [gm_en, List.length_cons, List.length_nil, List.replicate, List.cons_append, List.nil_append, Nat.reduceAdd, Nat.reduceSub]
  have hv1 : 0 ≤ v / m b 0 ∧ v / m b 0 < m b 1 := div_bd hw h0 h1
  have hv2 : 0 ≤ v % m b 0 ∧ v % m b 0 < m b 0 := mod_bd hw
  have hp16 : m b 0 * m b 1 ≤ 16 := (mul_bd ⟨by omega, hw.2⟩ ⟨by omega, hh.2⟩).2
  have e1 : ∀ z : Int, 0 ≤ z → z % m b 1 < m b 1 ∧ 0 ≤ z % m b 1 := fun z _ => ⟨Int.emod_lt_of_pos _ (by omega), Int.emod_nonneg _ (by omega)⟩
  have e2 : ∀ z : Int, 0 ≤ z → z < m b 1 → 0 ≤ z * m b 0 ∧ z * m b 0 ≤ 12 := fun z q1 q2 => mul_bd3 ⟨q1, by omega⟩ ⟨by omega, hw.2⟩
  have f1 := e1 (v / m b 0 + m b 1 - 1) (by omega)
  have f2 := e1 (v / m b 0 + 1) (by omega)
  have f3 := e2 _ f1.2 f1.1
  have f4 := e2 _ f2.2 f2.1
  have f5 := e2 _ hv1.1 hv1.2
  have f6 : 0 ≤ (v % m b 0 + 1) % m b 0 ∧ (v % m b 0 + 1) % m b 0 < m b 0 := mod_bd hw
  have f7 : 0 ≤ (v % m b 0 + m b 0 - 1) % m b 0 ∧ (v % m b 0 + m b 0 - 1) % m b 0 < m b 0 := mod_bd hw
  repeat' (first
    | refine gm_go rfl ?_
    | (refine sw_cons (fun hc => ?_) (fun hc => ?_) <;> try (exfalso; omega))
    | refine sw_nil ?_
    | simp (disch := omega) only [w32_id, Int.tdiv_eq_ediv_of_nonneg, Int.tmod_eq_emod_of_nonneg]
    | refine st_getI (by first | assumption | exact N_is' hS (by assumption) | exact N_wis' hS (by assumption) | exact C_629' hS | exact N_lis' hS (by assumption) (by omega) (by omega) | exact C_0' hS | exact C_1' hS | exact C_54' hS | exact C_64' hS | exact C_116' hS) ?_
    | refine st_getR (by first | assumption | exact N_is' hS (by assumption) | exact N_wis' hS (by assumption) | exact C_629' hS | exact N_lis' hS (by assumption) (by omega) (by omega) | exact C_0' hS | exact C_1' hS | exact C_54' hS | exact C_64' hS | exact C_116' hS) (by first | assumption | exact N_web' hS (by assumption) | exact N_letters' hS (by assumption) | exact N_golden' hS (by assumption) | exact N_logged' hS (by assumption) | exact N_open' hS (by assumption) | exact N_last' hS (by assumption) | exact N_beyond' hS (by assumption) | exact N_apart' hS (by assumption) | exact N_steps' hS (by assumption) | exact N_reached' hS (by assumption) | exact F_0_0' hS | exact F_0_1' hS | exact F_0_2' hS | exact F_0_3' hS | exact F_0_4' hS | exact F_0_5' hS | exact F_1_0' hS | exact F_54_0' hS | exact F_54_1' hS | exact F_54_4' hS | exact F_54_5' hS | exact F_54_6' hS | exact F_54_7' hS | exact F_54_8' hS | exact F_54_9' hS | exact F_54_10' hS | exact F_64_0' hS | exact F_64_1' hS | exact F_116_0' hS | exact F_629_0' hS | exact F_629_1' hS | exact F_629_2' hS | exact F_629_4' hS | exact F_629_5' hS | exact F_629_6' hS | exact F_629_15' hS | exact F_629_16' hS | exact F_629_18' hS | exact F_629_19' hS) ?_
    | refine st_putI (by first | assumption | exact N_is' hS (by assumption) | exact N_wis' hS (by assumption) | exact C_629' hS | exact N_lis' hS (by assumption) (by omega) (by omega) | exact C_0' hS | exact C_1' hS | exact C_54' hS | exact C_64' hS | exact C_116' hS) ?_
    | refine st_iald (in_of (by first | assumption | exact N_a2' hS (by assumption) | exact N_a3' hS (by assumption) | exact N_a4' hS (by assumption) | exact N_a5' hS (by assumption) | exact N_a6' hS (by assumption) | exact N_a7' hS (by assumption) | exact N_a9' hS (by assumption) | exact N_a10' hS (by assumption) | exact A_630' hS | exact A_631' hS | exact A_632' hS | exact A_633' hS | exact A_635' hS | exact A_636' hS | exact A_637' hS | exact A_638' hS | exact A_639' hS | exact A_2' hS | exact A_55' hS | exact A_56' hS | exact A_57' hS | exact A_58' hS | exact A_59' hS | exact A_60' hS | exact A_61' hS | exact A_62' hS | exact A_63' hS) (by omega) (by omega)) ?_
    | refine st_iast (in_of (by first | assumption | exact N_a2' hS (by assumption) | exact N_a3' hS (by assumption) | exact N_a4' hS (by assumption) | exact N_a5' hS (by assumption) | exact N_a6' hS (by assumption) | exact N_a7' hS (by assumption) | exact N_a9' hS (by assumption) | exact N_a10' hS (by assumption) | exact A_630' hS | exact A_631' hS | exact A_632' hS | exact A_633' hS | exact A_635' hS | exact A_636' hS | exact A_637' hS | exact A_638' hS | exact A_639' hS | exact A_2' hS | exact A_55' hS | exact A_56' hS | exact A_57' hS | exact A_58' hS | exact A_59' hS | exact A_60' hS | exact A_61' hS | exact A_62' hS | exact A_63' hS) (by omega) (by omega)) ?_
    | refine st_aald (N_lin' hS (by assumption) (by omega) (by omega)) (N_lrf' hS (by assumption) (by omega) (by omega)) ?_
    | (refine st_icmp (fun hc => ?_) (fun hc => ?_) <;> (try dsimp only [gm_c] at hc) <;> (try simp only [ite_0, ite_1, ne_eq, Classical.not_not] at hc) <;> try (exfalso; omega))
    | (refine st_if (fun hc => ?_) (fun hc => ?_) <;> (try dsimp only [gm_c] at hc) <;> (try simp only [gm_cmp_lt, gm_cmp_gt, gm_cmp_le, gm_cmp_ge, ite_0, ite_1, ne_eq, Classical.not_not] at hc) <;> try (exfalso; omega))
    | refine st_ret (by first | exact Or.inl rfl | exact Or.inr (Or.inl rfl) | exact Or.inr (Or.inr rfl)) ?_
    | refine st_rem (by decide) ?_
    | refine st_div (by decide) ?_
    | refine st_rem (by omega) ?_
    | refine st_div (by omega) ?_
    | dsimp only [gm_step, gm_c, gm_s1, gm_s2, gm_kl, gm_ps, gm_wd, gm_w1, List.getElem?_cons_succ, List.getElem?_cons_zero, List.set_cons_succ, List.set_cons_zero, List.length_cons, List.length_nil, List.drop_succ_cons, List.drop_zero, List.take_succ_cons, List.take_zero, Nat.reduceAdd, Nat.reduceSub, Nat.reduceLeDiff])
  all_goals (refine ⟨?_, (by first | rfl | trivial), (by first | rfl | trivial)⟩; unfold byd; simp_all)
