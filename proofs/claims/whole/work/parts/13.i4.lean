/-! ===== step 5, in the class ===== -/
theorem C_sz {m : gm_M} {a T : Int} {N : NS} (h : repC m a N) (hw : WF N T) : m (a + 1) 0 = nd N ∧ m (a + 1) 0 ≤ 16 := by
  have e : m (a + 1) 0 = nd N := h.1.1
  have := WF_nd hw
  exact ⟨e, by omega⟩
theorem C_by {m : gm_M} {a T : Int} {N : NS} (h : repC m a N) (hw : WF N T) {v p : Int} (hv : 0 ≤ v ∧ v < nd N) (hp : 0 ≤ p ∧ p < 4) (he : hasB (m (a + 2) v) p = true) : m (a + 4) (4 * v + p) = byA N v p ∧ (0 ≤ byA N v p ∧ byA N v p < nd N) ∧ eA N v p = true := by
  have e : m (a + 2) v = n_sc N (13 + v) := (h.2.1 v hv.1 hv.2).1
  rw [e] at he
  have hl := (hw.2.1 v hv.1 hv.2).2.2 p hp.1 hp.2 he
  have hb := (byd_f hw.1.1 hw.1.2.1 hv hp).1
  refine ⟨?_, hb, he⟩
  rw [h.2.2.1 v p hv.1 hv.2 hp.1 hp.2, if_pos]
  exact of_decide_eq_true hl.1
theorem nprt_eq {m : gm_M} {a k T : Int} {N : NS} (h : repC m a N) (hw : WF N T) (hk : 0 ≤ k ∧ k < n_sc N 5) (hf : n_le N k 3 < 2) : nprt m a k = nbA N k := by
  have hlt := h.2.2.2.2.2.2 k hk.1 hk.2
  have hLW := hw.2.2.2.2 k hk.1 hk.2
  obtain ⟨⟨x0, x1, x2, x3⟩, x4, x5, -⟩ := hlt
  rw [if_neg (by omega)] at x4 x5
  have hat := hLW.1.2.2.2.2
  have hto := hLW.1.2.2.1
  unfold nprt nbA
  rw [if_neg (by omega), x4, x2]
  refine bitM_cg (fun p p0 p1 => ?_)
  rw [← near_eq hw hk ⟨p0, p1⟩]
  cases q : hasB (m (a + 2) (n_le N k 4)) p with
  | false =>
    rw [(h.2.1 _ hat.1 hat.2).1] at q
    rw [q, Bool.false_and, Bool.false_and]
  | true =>
    have c := C_by h hw hat ⟨p0, p1⟩ q
    rw [(h.2.1 _ hat.1 hat.2).1] at q
    rw [q, c.1, h.2.2.2.1 _ _ hto.1 hto.2 c.2.1.1 c.2.1.2, h.2.2.2.1 _ _ hto.1 hto.2 hat.1 hat.2]
theorem sp_X2_nearPortsR {ro : Nat → Nat × (Int → Int)} {d : Nat} {S : List gm_S} (hS : S = S0) {m : gm_M} {a k T : Int} {N : NS} (ha : gN a) (h : repC m a N) (hw : WF N T) (hk : 0 ≤ k ∧ k < n_sc N 5) (hf : n_le N k 3 < 2) : gm_sem MT ro (d + 3) k_X2_nearPorts [gA a, gI k] S m (gI (nbA N k)) S m := by
  have hsz := C_sz h hw
  have hlt := h.2.2.2.2.2.2 k hk.1 hk.2
  have hLW := hw.2.2.2.2 k hk.1 hk.2
  have h40 := hw.1.2.2.2.2.2
  have hnd := WF_nd hw
  obtain ⟨⟨x0, x1, x2, x3⟩, x4, x5, -⟩ := hlt
  rw [if_neg (by omega)] at x4 x5
  rw [← nprt_eq h hw hk hf]
  refine sp_X2_nearPorts hS ha hk.1 (by omega) hsz.2 (fun _ => ?_) ?_ (fun v p v0 v1 p0 p1 e => ?_)
  · rw [x4, hsz.1]; exact hLW.1.2.2.2.2
  · rw [x2, hsz.1]; exact hLW.1.2.2.1
  · have c := C_by h hw (v := v) (p := p) ⟨v0, by omega⟩ ⟨p0, p1⟩ (decide_eq_true e)
    rw [c.1]
    have := c.2.1
    omega
theorem hr_0 {N : NS} {v k : Int} (h5 : 0 ≤ n_sc N 5) (h : hrA N v ≤ 0) : ¬ fly N v k := fun q => by
  have := cntM_pos (P := fun k => n_le N k 3 = 1 ∧ n_le N k 4 = v) q.1.1 q.1.2 q.2
  unfold hrA at h
  omega
set_option maxHeartbeats 4000000 in
theorem sp_X5_givePorts {ro : Nat → Nat × (Int → Int)} {d : Nat} {S : List gm_S} (hS : S = S0) {m : gm_M} {a g T : Int} {N : NS} (hro : gRO ro) (ha : gN a) (h : repC m a N) (hw : WF N T) (hm : ordC m (ordA N g).1 (ordA N g).2) (hcl : CLM m N g) (hfc : FCM N) (hrm : ROOM N) (hcr : ∀ v, 0 ≤ v → v < nd N → m 59 v = hrA N v) (hg0 : ∀ k, 0 ≤ k → k < 40 → m 56 k = -1000000) : gm_rel ro (d + 4) k_X5_givePorts [gA 54, gA a] S m (fun r1 m1 => r1 = none ∧ (∀ k, 0 ≤ k → k < 40 → m1 56 k = goA N (ordA N g).1 (ordA N g).2 k) ∧ (∀ c j, c ≠ 56 → c ≠ 58 → c ≠ 61 → c ≠ 62 → c ≠ 63 → m1 c j = m c j)) := by
  refine gm_rel_of mt_X5_givePorts (Nat.le_of_ble_eq_true rfl) ?_
  dsimp only [gm_en, List.length_cons, List.length_nil, List.replicate, List.cons_append, List.nil_append, Nat.reduceAdd, Nat.reduceSub]
  have hat := gN_t ha
  have h40 := hw.1.2.2.2.2.2
  have hnd := WF_nd hw
  have ho := ordA_ORD (N := N) (g := g) h40.1
  have hn40 := ho.1
  have hps : ∀ k, 0 ≤ k ∧ k < n_sc N 5 → n_le N k 3 = 1 → (0 ≤ psO (ordA N g).1 (ordA N g).2 k ∧ psO (ordA N g).1 (ordA N g).2 k < (ordA N g).2) ∧ (ordA N g).1 (psO (ordA N g).1 (ordA N g).2 k) = k := fun k a c => by
    rcases psO_c (O := (ordA N g).1) ho.1.1 k with ⟨-, q⟩ | q
    · obtain ⟨i, hi, e⟩ := ho.2.2.2 k a.1 a.2 c
      exact absurd e (q i hi.1 hi.2)
    · exact q
  have hps2 : ∀ k, (0 ≤ psO (ordA N g).1 (ordA N g).2 k ∧ psO (ordA N g).1 (ordA N g).2 k < (ordA N g).2) → (0 ≤ k ∧ k < n_sc N 5) ∧ n_le N k 3 = 1 := fun k q => by
    rcases psO_c (O := (ordA N g).1) ho.1.1 k with ⟨y, -⟩ | y
    · omega
    · have := ho.2.1 _ y.1.1 y.1.2
      rw [y.2] at this
      exact this
  repeat' (first
    | ((with_reducible refine gm_w0 ?_); refine gm_go rfl ?_)
    | ((with_reducible refine sw_cons (fun hc => ?_) (fun hc => ?_)) <;> try (exfalso; omega))
    | with_reducible refine sw_nil ?_
    | simp (disch := omega) only [w32_id, Int.tdiv_eq_ediv_of_nonneg, Int.tmod_eq_emod_of_nonneg, Int.add_zero]
    | ((with_reducible refine st_getI ?_ ?_); first | assumption | exact N_is' hS (by assumption) | exact N_wis' hS (by assumption) | exact C_629' hS | exact N_lis' hS (by assumption) (by omega) (by omega) | exact C_0' hS | exact C_1' hS | exact C_54' hS | exact C_64' hS | exact C_116' hS)
    | ((with_reducible apply st_getR); (first | assumption | exact N_is' hS (by assumption) | exact N_wis' hS (by assumption) | exact C_629' hS | exact N_lis' hS (by assumption) (by omega) (by omega) | exact C_0' hS | exact C_1' hS | exact C_54' hS | exact C_64' hS | exact C_116' hS); (first | assumption | exact N_web' hS (by assumption) | exact N_letters' hS (by assumption) | exact N_golden' hS (by assumption) | exact N_logged' hS (by assumption) | exact N_open' hS (by assumption) | exact N_last' hS (by assumption) | exact N_beyond' hS (by assumption) | exact N_apart' hS (by assumption) | exact N_steps' hS (by assumption) | exact N_reached' hS (by assumption) | exact F_0_0' hS | exact F_0_1' hS | exact F_0_2' hS | exact F_0_3' hS | exact F_0_4' hS | exact F_0_5' hS | exact F_1_0' hS | exact F_54_0' hS | exact F_54_1' hS | exact F_54_4' hS | exact F_54_5' hS | exact F_54_6' hS | exact F_54_7' hS | exact F_54_8' hS | exact F_54_9' hS | exact F_54_10' hS | exact F_64_0' hS | exact F_64_1' hS | exact F_116_0' hS | exact F_629_0' hS | exact F_629_1' hS | exact F_629_2' hS | exact F_629_4' hS | exact F_629_5' hS | exact F_629_6' hS | exact F_629_15' hS | exact F_629_16' hS | exact F_629_18' hS | exact F_629_19' hS))
    | ((with_reducible refine st_putI ?_ ?_); first | assumption | exact N_is' hS (by assumption) | exact N_wis' hS (by assumption) | exact C_629' hS | exact N_lis' hS (by assumption) (by omega) (by omega) | exact C_0' hS | exact C_1' hS | exact C_54' hS | exact C_64' hS | exact C_116' hS)
    | ((with_reducible refine st_iald ?_ ?_); refine in_of (by first | assumption | exact N_a2' hS (by assumption) | exact N_a3' hS (by assumption) | exact N_a4' hS (by assumption) | exact N_a5' hS (by assumption) | exact N_a6' hS (by assumption) | exact N_a7' hS (by assumption) | exact N_a9' hS (by assumption) | exact N_a10' hS (by assumption) | exact A_630' hS | exact A_631' hS | exact A_632' hS | exact A_633' hS | exact A_635' hS | exact A_636' hS | exact A_637' hS | exact A_638' hS | exact A_639' hS | exact A_2' hS | exact A_55' hS | exact A_56' hS | exact A_57' hS | exact A_58' hS | exact A_59' hS | exact A_60' hS | exact A_61' hS | exact A_62' hS | exact A_63' hS) (by omega) (by omega))
    | ((with_reducible refine st_iast ?_ ?_); refine in_of (by first | assumption | exact N_a2' hS (by assumption) | exact N_a3' hS (by assumption) | exact N_a4' hS (by assumption) | exact N_a5' hS (by assumption) | exact N_a6' hS (by assumption) | exact N_a7' hS (by assumption) | exact N_a9' hS (by assumption) | exact N_a10' hS (by assumption) | exact A_630' hS | exact A_631' hS | exact A_632' hS | exact A_633' hS | exact A_635' hS | exact A_636' hS | exact A_637' hS | exact A_638' hS | exact A_639' hS | exact A_2' hS | exact A_55' hS | exact A_56' hS | exact A_57' hS | exact A_58' hS | exact A_59' hS | exact A_60' hS | exact A_61' hS | exact A_62' hS | exact A_63' hS) (by omega) (by omega))
    | ((with_reducible apply st_aald); (exact N_lin' hS (by assumption) (by omega) (by omega)); (exact N_lrf' hS (by assumption) (by omega) (by omega)))
    | ((with_reducible refine st_icmp (fun hc => ?_) (fun hc => ?_)) <;> (try dsimp only [gm_c] at hc) <;> (try simp only [gm_cmp_lt, gm_cmp_gt, gm_cmp_le, gm_cmp_ge, ite_0, ite_1, ne_eq, Classical.not_not] at hc) <;> try (first | (exfalso; omega) | exact absurd trivial hc))
    | ((with_reducible refine st_if (fun hc => ?_) (fun hc => ?_)) <;> (try dsimp only [gm_c] at hc) <;> (try simp only [gm_cmp_lt, gm_cmp_gt, gm_cmp_le, gm_cmp_ge, ite_0, ite_1, ne_eq, Classical.not_not] at hc) <;> try (first | (exfalso; omega) | exact absurd trivial hc))
    | ((with_reducible refine st_ret ?_ ?_); first | exact Or.inl rfl | exact Or.inr (Or.inl rfl) | exact Or.inr (Or.inr rfl))
    | ((with_reducible refine is_s (p' := 998) ?_ ?_); (exact rfl); refine st_copy (by first | assumption | exact N_a2' hS (by assumption) | exact N_a3' hS (by assumption) | exact N_a4' hS (by assumption) | exact N_a5' hS (by assumption) | exact N_a6' hS (by assumption) | exact N_a7' hS (by assumption) | exact N_a9' hS (by assumption) | exact N_a10' hS (by assumption) | exact A_630' hS | exact A_631' hS | exact A_632' hS | exact A_633' hS | exact A_635' hS | exact A_636' hS | exact A_637' hS | exact A_638' hS | exact A_639' hS | exact A_2' hS | exact A_55' hS | exact A_56' hS | exact A_57' hS | exact A_58' hS | exact A_59' hS | exact A_60' hS | exact A_61' hS | exact A_62' hS | exact A_63' hS) (by first | assumption | exact N_a2' hS (by assumption) | exact N_a3' hS (by assumption) | exact N_a4' hS (by assumption) | exact N_a5' hS (by assumption) | exact N_a6' hS (by assumption) | exact N_a7' hS (by assumption) | exact N_a9' hS (by assumption) | exact N_a10' hS (by assumption) | exact A_630' hS | exact A_631' hS | exact A_632' hS | exact A_633' hS | exact A_635' hS | exact A_636' hS | exact A_637' hS | exact A_638' hS | exact A_639' hS | exact A_2' hS | exact A_55' hS | exact A_56' hS | exact A_57' hS | exact A_58' hS | exact A_59' hS | exact A_60' hS | exact A_61' hS | exact A_62' hS | exact A_63' hS) (by omega) (by omega) (by omega) (by omega) (by omega) (Nat.le_of_ble_eq_true rfl) gm_999s ?_)
    | ((with_reducible refine is_s (p' := 997) ?_ ?_); (exact rfl); refine st_max (Nat.le_of_ble_eq_true rfl) gm_999s ?_)
    | ((with_reducible refine is_s (p' := 996) ?_ ?_); (exact rfl); refine st_min (Nat.le_of_ble_eq_true rfl) gm_999s ?_)
    | ((with_reducible apply st_alen); (refine is_of_ar (by first | assumption | exact N_a2' hS (by assumption) | exact N_a3' hS (by assumption) | exact N_a4' hS (by assumption) | exact N_a5' hS (by assumption) | exact N_a6' hS (by assumption) | exact N_a7' hS (by assumption) | exact N_a9' hS (by assumption) | exact N_a10' hS (by assumption) | exact A_630' hS | exact A_631' hS | exact A_632' hS | exact A_633' hS | exact A_635' hS | exact A_636' hS | exact A_637' hS | exact A_638' hS | exact A_639' hS | exact A_2' hS | exact A_55' hS | exact A_56' hS | exact A_57' hS | exact A_58' hS | exact A_59' hS | exact A_60' hS | exact A_61' hS | exact A_62' hS | exact A_63' hS)); (exact len_of_ar (by first | assumption | exact N_a2' hS (by assumption) | exact N_a3' hS (by assumption) | exact N_a4' hS (by assumption) | exact N_a5' hS (by assumption) | exact N_a6' hS (by assumption) | exact N_a7' hS (by assumption) | exact N_a9' hS (by assumption) | exact N_a10' hS (by assumption) | exact A_630' hS | exact A_631' hS | exact A_632' hS | exact A_633' hS | exact A_635' hS | exact A_636' hS | exact A_637' hS | exact A_638' hS | exact A_639' hS | exact A_2' hS | exact A_55' hS | exact A_56' hS | exact A_57' hS | exact A_58' hS | exact A_59' hS | exact A_60' hS | exact A_61' hS | exact A_62' hS | exact A_63' hS)))
    | ((with_reducible refine st_rem ?_ ?_); first | decide | omega)
    | ((with_reducible refine st_div ?_ ?_); first | decide | omega)
    | dsimp only [gm_step, gm_c, gm_s1, gm_s2, gm_kl, gm_ps, gm_wd, gm_w1, List.getElem?_cons_succ, List.getElem?_cons_zero, List.set_cons_succ, List.set_cons_zero, List.length_cons, List.length_nil, List.drop_succ_cons, List.drop_zero, List.take_succ_cons, List.take_zero, Nat.reduceAdd, Nat.reduceSub, Nat.reduceLeDiff])
  refine up_loop2 (α := gm_M) (P := fun i mm => (∀ j, 0 ≤ j → j < i → mm 58 ((ordA N g).1 j) = nbA N ((ordA N g).1 j)) → (∀ v, 0 ≤ v → v < nd N → ¬ swA N v → mm 61 v = lfA N (ordA N g).1 v i) → (∀ k, 0 ≤ k → k < 40 → mm 56 k = if (0 ≤ psO (ordA N g).1 (ordA N g).2 k ∧ psO (ordA N g).1 (ordA N g).2 k < i) ∧ ¬ swA N (n_le N k 4) then goA N (ordA N g).1 (ordA N g).2 k else -1000000) → (∀ c j, c ≠ 56 → c ≠ 58 → c ≠ 61 → mm c j = m c j) → gm_wp (gm_sem MT ro (d + 3)) ro cd_X5_givePorts (fun r1 S1 m1 => S1 = S ∧ (r1 = none ∧ (∀ k, 0 ≤ k → k < 40 → m1 56 k = goA N (ordA N g).1 (ordA N g).2 k) ∧ (∀ c j, c ≠ 56 → c ≠ 58 → c ≠ 61 → c ≠ 62 → c ≠ 63 → m1 c j = m c j))) 11 [gA 54, gA a, gI i] [] S mm) (a := 0) (N := (ordA N g).2) (x := gm_cp m (a + 2) 0 61 0 16) ho.1.1 ?_ ?_ (fun j a1 a2 => by omega) ?_ ?_ ?_
  · intro mm h2 h3 h4 h5
    have hm2 : mm 54 2 = (ordA N g).2 := by rw [h5 _ _ (by omega) (by omega) (by omega)]; exact hm.1
    refine gm_hd rfl ?_
    repeat' (first
      | ((with_reducible refine gm_w0 ?_); refine gm_go rfl ?_)
      | ((with_reducible refine sw_cons (fun hc => ?_) (fun hc => ?_)) <;> try (exfalso; omega))
      | with_reducible refine sw_nil ?_
      | simp (disch := omega) only [w32_id, Int.tdiv_eq_ediv_of_nonneg, Int.tmod_eq_emod_of_nonneg, Int.add_zero]
      | simp only [hm2]
      | ((with_reducible refine st_getI ?_ ?_); first | assumption | exact N_is' hS (by assumption) | exact N_wis' hS (by assumption) | exact C_629' hS | exact N_lis' hS (by assumption) (by omega) (by omega) | exact C_0' hS | exact C_1' hS | exact C_54' hS | exact C_64' hS | exact C_116' hS)
      | ((with_reducible apply st_getR); (first | assumption | exact N_is' hS (by assumption) | exact N_wis' hS (by assumption) | exact C_629' hS | exact N_lis' hS (by assumption) (by omega) (by omega) | exact C_0' hS | exact C_1' hS | exact C_54' hS | exact C_64' hS | exact C_116' hS); (first | assumption | exact N_web' hS (by assumption) | exact N_letters' hS (by assumption) | exact N_golden' hS (by assumption) | exact N_logged' hS (by assumption) | exact N_open' hS (by assumption) | exact N_last' hS (by assumption) | exact N_beyond' hS (by assumption) | exact N_apart' hS (by assumption) | exact N_steps' hS (by assumption) | exact N_reached' hS (by assumption) | exact F_0_0' hS | exact F_0_1' hS | exact F_0_2' hS | exact F_0_3' hS | exact F_0_4' hS | exact F_0_5' hS | exact F_1_0' hS | exact F_54_0' hS | exact F_54_1' hS | exact F_54_4' hS | exact F_54_5' hS | exact F_54_6' hS | exact F_54_7' hS | exact F_54_8' hS | exact F_54_9' hS | exact F_54_10' hS | exact F_64_0' hS | exact F_64_1' hS | exact F_116_0' hS | exact F_629_0' hS | exact F_629_1' hS | exact F_629_2' hS | exact F_629_4' hS | exact F_629_5' hS | exact F_629_6' hS | exact F_629_15' hS | exact F_629_16' hS | exact F_629_18' hS | exact F_629_19' hS))
      | ((with_reducible refine st_putI ?_ ?_); first | assumption | exact N_is' hS (by assumption) | exact N_wis' hS (by assumption) | exact C_629' hS | exact N_lis' hS (by assumption) (by omega) (by omega) | exact C_0' hS | exact C_1' hS | exact C_54' hS | exact C_64' hS | exact C_116' hS)
      | ((with_reducible refine st_iald ?_ ?_); refine in_of (by first | assumption | exact N_a2' hS (by assumption) | exact N_a3' hS (by assumption) | exact N_a4' hS (by assumption) | exact N_a5' hS (by assumption) | exact N_a6' hS (by assumption) | exact N_a7' hS (by assumption) | exact N_a9' hS (by assumption) | exact N_a10' hS (by assumption) | exact A_630' hS | exact A_631' hS | exact A_632' hS | exact A_633' hS | exact A_635' hS | exact A_636' hS | exact A_637' hS | exact A_638' hS | exact A_639' hS | exact A_2' hS | exact A_55' hS | exact A_56' hS | exact A_57' hS | exact A_58' hS | exact A_59' hS | exact A_60' hS | exact A_61' hS | exact A_62' hS | exact A_63' hS) (by omega) (by omega))
      | ((with_reducible refine st_iast ?_ ?_); refine in_of (by first | assumption | exact N_a2' hS (by assumption) | exact N_a3' hS (by assumption) | exact N_a4' hS (by assumption) | exact N_a5' hS (by assumption) | exact N_a6' hS (by assumption) | exact N_a7' hS (by assumption) | exact N_a9' hS (by assumption) | exact N_a10' hS (by assumption) | exact A_630' hS | exact A_631' hS | exact A_632' hS | exact A_633' hS | exact A_635' hS | exact A_636' hS | exact A_637' hS | exact A_638' hS | exact A_639' hS | exact A_2' hS | exact A_55' hS | exact A_56' hS | exact A_57' hS | exact A_58' hS | exact A_59' hS | exact A_60' hS | exact A_61' hS | exact A_62' hS | exact A_63' hS) (by omega) (by omega))
      | ((with_reducible apply st_aald); (exact N_lin' hS (by assumption) (by omega) (by omega)); (exact N_lrf' hS (by assumption) (by omega) (by omega)))
      | ((with_reducible refine st_icmp (fun hc => ?_) (fun hc => ?_)) <;> (try dsimp only [gm_c] at hc) <;> (try simp only [gm_cmp_lt, gm_cmp_gt, gm_cmp_le, gm_cmp_ge, ite_0, ite_1, ne_eq, Classical.not_not] at hc) <;> try (first | (exfalso; omega) | exact absurd trivial hc))
      | ((with_reducible refine st_if (fun hc => ?_) (fun hc => ?_)) <;> (try dsimp only [gm_c] at hc) <;> (try simp only [gm_cmp_lt, gm_cmp_gt, gm_cmp_le, gm_cmp_ge, ite_0, ite_1, ne_eq, Classical.not_not] at hc) <;> try (first | (exfalso; omega) | exact absurd trivial hc))
      | ((with_reducible refine st_ret ?_ ?_); first | exact Or.inl rfl | exact Or.inr (Or.inl rfl) | exact Or.inr (Or.inr rfl))
      | ((with_reducible refine is_s (p' := 998) ?_ ?_); (exact rfl); refine st_copy (by first | assumption | exact N_a2' hS (by assumption) | exact N_a3' hS (by assumption) | exact N_a4' hS (by assumption) | exact N_a5' hS (by assumption) | exact N_a6' hS (by assumption) | exact N_a7' hS (by assumption) | exact N_a9' hS (by assumption) | exact N_a10' hS (by assumption) | exact A_630' hS | exact A_631' hS | exact A_632' hS | exact A_633' hS | exact A_635' hS | exact A_636' hS | exact A_637' hS | exact A_638' hS | exact A_639' hS | exact A_2' hS | exact A_55' hS | exact A_56' hS | exact A_57' hS | exact A_58' hS | exact A_59' hS | exact A_60' hS | exact A_61' hS | exact A_62' hS | exact A_63' hS) (by first | assumption | exact N_a2' hS (by assumption) | exact N_a3' hS (by assumption) | exact N_a4' hS (by assumption) | exact N_a5' hS (by assumption) | exact N_a6' hS (by assumption) | exact N_a7' hS (by assumption) | exact N_a9' hS (by assumption) | exact N_a10' hS (by assumption) | exact A_630' hS | exact A_631' hS | exact A_632' hS | exact A_633' hS | exact A_635' hS | exact A_636' hS | exact A_637' hS | exact A_638' hS | exact A_639' hS | exact A_2' hS | exact A_55' hS | exact A_56' hS | exact A_57' hS | exact A_58' hS | exact A_59' hS | exact A_60' hS | exact A_61' hS | exact A_62' hS | exact A_63' hS) (by omega) (by omega) (by omega) (by omega) (by omega) (Nat.le_of_ble_eq_true rfl) gm_999s ?_)
      | ((with_reducible refine is_s (p' := 997) ?_ ?_); (exact rfl); refine st_max (Nat.le_of_ble_eq_true rfl) gm_999s ?_)
      | ((with_reducible refine is_s (p' := 996) ?_ ?_); (exact rfl); refine st_min (Nat.le_of_ble_eq_true rfl) gm_999s ?_)
      | ((with_reducible apply st_alen); (refine is_of_ar (by first | assumption | exact N_a2' hS (by assumption) | exact N_a3' hS (by assumption) | exact N_a4' hS (by assumption) | exact N_a5' hS (by assumption) | exact N_a6' hS (by assumption) | exact N_a7' hS (by assumption) | exact N_a9' hS (by assumption) | exact N_a10' hS (by assumption) | exact A_630' hS | exact A_631' hS | exact A_632' hS | exact A_633' hS | exact A_635' hS | exact A_636' hS | exact A_637' hS | exact A_638' hS | exact A_639' hS | exact A_2' hS | exact A_55' hS | exact A_56' hS | exact A_57' hS | exact A_58' hS | exact A_59' hS | exact A_60' hS | exact A_61' hS | exact A_62' hS | exact A_63' hS)); (exact len_of_ar (by first | assumption | exact N_a2' hS (by assumption) | exact N_a3' hS (by assumption) | exact N_a4' hS (by assumption) | exact N_a5' hS (by assumption) | exact N_a6' hS (by assumption) | exact N_a7' hS (by assumption) | exact N_a9' hS (by assumption) | exact N_a10' hS (by assumption) | exact A_630' hS | exact A_631' hS | exact A_632' hS | exact A_633' hS | exact A_635' hS | exact A_636' hS | exact A_637' hS | exact A_638' hS | exact A_639' hS | exact A_2' hS | exact A_55' hS | exact A_56' hS | exact A_57' hS | exact A_58' hS | exact A_59' hS | exact A_60' hS | exact A_61' hS | exact A_62' hS | exact A_63' hS)))
      | ((with_reducible refine st_rem ?_ ?_); first | decide | omega)
      | ((with_reducible refine st_div ?_ ?_); first | decide | omega)
      | dsimp only [gm_step, gm_c, gm_s1, gm_s2, gm_kl, gm_ps, gm_wd, gm_w1, List.getElem?_cons_succ, List.getElem?_cons_zero, List.set_cons_succ, List.set_cons_zero, List.length_cons, List.length_nil, List.drop_succ_cons, List.drop_zero, List.take_succ_cons, List.take_zero, Nat.reduceAdd, Nat.reduceSub, Nat.reduceLeDiff])
    have nb2 : (∀ k, (0 ≤ k ∧ k < n_sc N 5) → n_le N k 3 = 1 → mm 58 k = nbA N k) := fun k hk hf => by
      have := hps k hk hf
      have e := h2 _ this.1.1 this.1.2
      rw [this.2] at e
      exact e
    have go2 : (∀ k, 0 ≤ k → k < 40 → mm 56 k = if ((0 ≤ k ∧ k < n_sc N 5) ∧ n_le N k 3 = 1) ∧ (¬ swA N (n_le N k 4) ∨ n_le N k 4 < 0) then goA N (ordA N g).1 (ordA N g).2 k else -1000000) := fun k k0 k1 => by
      rw [h4 k k0 k1]
      by_cases q : (0 ≤ psO (ordA N g).1 (ordA N g).2 k ∧ psO (ordA N g).1 (ordA N g).2 k < (ordA N g).2) ∧ ¬ swA N (n_le N k 4)
      · rw [if_pos q, if_pos ⟨hps2 k q.1, Or.inl q.2⟩]
      · rw [if_neg q, if_neg]
        intro z
        rcases z.2 with y | y
        · exact q ⟨(hps k z.1.1 z.1.2).1, y⟩
        · have := (hw.2.2.2.2 k z.1.1.1 z.1.1.2).1.2.2.2.2
          omega
    have fr2 : (∀ c j, c ≠ 56 → c ≠ 58 → c ≠ 61 → c ≠ 62 → c ≠ 63 → mm c j = m c j) := fun c j q1 q2 q3 _ _ => h5 c j q1 q2 q3
    clear h2 h3 h4 h5
    refine up_loop2 (α := gm_M) (P := fun v mm => (∀ k, (0 ≤ k ∧ k < n_sc N 5) → n_le N k 3 = 1 → mm 58 k = nbA N k) → (∀ k, 0 ≤ k → k < 40 → mm 56 k = if ((0 ≤ k ∧ k < n_sc N 5) ∧ n_le N k 3 = 1) ∧ (¬ swA N (n_le N k 4) ∨ n_le N k 4 < v) then goA N (ordA N g).1 (ordA N g).2 k else -1000000) → (∀ c j, c ≠ 56 → c ≠ 58 → c ≠ 61 → c ≠ 62 → c ≠ 63 → mm c j = m c j) → gm_wp (gm_sem MT ro (d + 3)) ro cd_X5_givePorts (fun r1 S1 m1 => S1 = S ∧ (r1 = none ∧ (∀ k, 0 ≤ k → k < 40 → m1 56 k = goA N (ordA N g).1 (ordA N g).2 k) ∧ (∀ c j, c ≠ 56 → c ≠ 58 → c ≠ 61 → c ≠ 62 → c ≠ 63 → m1 c j = m c j))) 51 [gA 54, gA a, gI v] [] S mm) (a := 0) (N := nd N) (x := mm) (by omega) ?_ ?_ nb2 go2 fr2
    · intro mm nb2 go2 fr2
      have hsz : mm (a + 1) 0 = nd N := by rw [fr2 _ _ (by omega) (by omega) (by omega) (by omega) (by omega)]; exact h.1.1
      refine gm_hd rfl ?_
      repeat' (first
        | ((with_reducible refine gm_w0 ?_); refine gm_go rfl ?_)
        | ((with_reducible refine sw_cons (fun hc => ?_) (fun hc => ?_)) <;> try (exfalso; omega))
        | with_reducible refine sw_nil ?_
        | simp (disch := omega) only [w32_id, Int.tdiv_eq_ediv_of_nonneg, Int.tmod_eq_emod_of_nonneg, Int.add_zero]
        | simp only [hsz]
        | ((with_reducible refine st_getI ?_ ?_); first | assumption | exact N_is' hS (by assumption) | exact N_wis' hS (by assumption) | exact C_629' hS | exact N_lis' hS (by assumption) (by omega) (by omega) | exact C_0' hS | exact C_1' hS | exact C_54' hS | exact C_64' hS | exact C_116' hS)
        | ((with_reducible apply st_getR); (first | assumption | exact N_is' hS (by assumption) | exact N_wis' hS (by assumption) | exact C_629' hS | exact N_lis' hS (by assumption) (by omega) (by omega) | exact C_0' hS | exact C_1' hS | exact C_54' hS | exact C_64' hS | exact C_116' hS); (first | assumption | exact N_web' hS (by assumption) | exact N_letters' hS (by assumption) | exact N_golden' hS (by assumption) | exact N_logged' hS (by assumption) | exact N_open' hS (by assumption) | exact N_last' hS (by assumption) | exact N_beyond' hS (by assumption) | exact N_apart' hS (by assumption) | exact N_steps' hS (by assumption) | exact N_reached' hS (by assumption) | exact F_0_0' hS | exact F_0_1' hS | exact F_0_2' hS | exact F_0_3' hS | exact F_0_4' hS | exact F_0_5' hS | exact F_1_0' hS | exact F_54_0' hS | exact F_54_1' hS | exact F_54_4' hS | exact F_54_5' hS | exact F_54_6' hS | exact F_54_7' hS | exact F_54_8' hS | exact F_54_9' hS | exact F_54_10' hS | exact F_64_0' hS | exact F_64_1' hS | exact F_116_0' hS | exact F_629_0' hS | exact F_629_1' hS | exact F_629_2' hS | exact F_629_4' hS | exact F_629_5' hS | exact F_629_6' hS | exact F_629_15' hS | exact F_629_16' hS | exact F_629_18' hS | exact F_629_19' hS))
        | ((with_reducible refine st_putI ?_ ?_); first | assumption | exact N_is' hS (by assumption) | exact N_wis' hS (by assumption) | exact C_629' hS | exact N_lis' hS (by assumption) (by omega) (by omega) | exact C_0' hS | exact C_1' hS | exact C_54' hS | exact C_64' hS | exact C_116' hS)
        | ((with_reducible refine st_iald ?_ ?_); refine in_of (by first | assumption | exact N_a2' hS (by assumption) | exact N_a3' hS (by assumption) | exact N_a4' hS (by assumption) | exact N_a5' hS (by assumption) | exact N_a6' hS (by assumption) | exact N_a7' hS (by assumption) | exact N_a9' hS (by assumption) | exact N_a10' hS (by assumption) | exact A_630' hS | exact A_631' hS | exact A_632' hS | exact A_633' hS | exact A_635' hS | exact A_636' hS | exact A_637' hS | exact A_638' hS | exact A_639' hS | exact A_2' hS | exact A_55' hS | exact A_56' hS | exact A_57' hS | exact A_58' hS | exact A_59' hS | exact A_60' hS | exact A_61' hS | exact A_62' hS | exact A_63' hS) (by omega) (by omega))
        | ((with_reducible refine st_iast ?_ ?_); refine in_of (by first | assumption | exact N_a2' hS (by assumption) | exact N_a3' hS (by assumption) | exact N_a4' hS (by assumption) | exact N_a5' hS (by assumption) | exact N_a6' hS (by assumption) | exact N_a7' hS (by assumption) | exact N_a9' hS (by assumption) | exact N_a10' hS (by assumption) | exact A_630' hS | exact A_631' hS | exact A_632' hS | exact A_633' hS | exact A_635' hS | exact A_636' hS | exact A_637' hS | exact A_638' hS | exact A_639' hS | exact A_2' hS | exact A_55' hS | exact A_56' hS | exact A_57' hS | exact A_58' hS | exact A_59' hS | exact A_60' hS | exact A_61' hS | exact A_62' hS | exact A_63' hS) (by omega) (by omega))
        | ((with_reducible apply st_aald); (exact N_lin' hS (by assumption) (by omega) (by omega)); (exact N_lrf' hS (by assumption) (by omega) (by omega)))
        | ((with_reducible refine st_icmp (fun hc => ?_) (fun hc => ?_)) <;> (try dsimp only [gm_c] at hc) <;> (try simp only [gm_cmp_lt, gm_cmp_gt, gm_cmp_le, gm_cmp_ge, ite_0, ite_1, ne_eq, Classical.not_not] at hc) <;> try (first | (exfalso; omega) | exact absurd trivial hc))
        | ((with_reducible refine st_if (fun hc => ?_) (fun hc => ?_)) <;> (try dsimp only [gm_c] at hc) <;> (try simp only [gm_cmp_lt, gm_cmp_gt, gm_cmp_le, gm_cmp_ge, ite_0, ite_1, ne_eq, Classical.not_not] at hc) <;> try (first | (exfalso; omega) | exact absurd trivial hc))
        | ((with_reducible refine st_ret ?_ ?_); first | exact Or.inl rfl | exact Or.inr (Or.inl rfl) | exact Or.inr (Or.inr rfl))
        | ((with_reducible refine is_s (p' := 998) ?_ ?_); (exact rfl); refine st_copy (by first | assumption | exact N_a2' hS (by assumption) | exact N_a3' hS (by assumption) | exact N_a4' hS (by assumption) | exact N_a5' hS (by assumption) | exact N_a6' hS (by assumption) | exact N_a7' hS (by assumption) | exact N_a9' hS (by assumption) | exact N_a10' hS (by assumption) | exact A_630' hS | exact A_631' hS | exact A_632' hS | exact A_633' hS | exact A_635' hS | exact A_636' hS | exact A_637' hS | exact A_638' hS | exact A_639' hS | exact A_2' hS | exact A_55' hS | exact A_56' hS | exact A_57' hS | exact A_58' hS | exact A_59' hS | exact A_60' hS | exact A_61' hS | exact A_62' hS | exact A_63' hS) (by first | assumption | exact N_a2' hS (by assumption) | exact N_a3' hS (by assumption) | exact N_a4' hS (by assumption) | exact N_a5' hS (by assumption) | exact N_a6' hS (by assumption) | exact N_a7' hS (by assumption) | exact N_a9' hS (by assumption) | exact N_a10' hS (by assumption) | exact A_630' hS | exact A_631' hS | exact A_632' hS | exact A_633' hS | exact A_635' hS | exact A_636' hS | exact A_637' hS | exact A_638' hS | exact A_639' hS | exact A_2' hS | exact A_55' hS | exact A_56' hS | exact A_57' hS | exact A_58' hS | exact A_59' hS | exact A_60' hS | exact A_61' hS | exact A_62' hS | exact A_63' hS) (by omega) (by omega) (by omega) (by omega) (by omega) (Nat.le_of_ble_eq_true rfl) gm_999s ?_)
        | ((with_reducible refine is_s (p' := 997) ?_ ?_); (exact rfl); refine st_max (Nat.le_of_ble_eq_true rfl) gm_999s ?_)
        | ((with_reducible refine is_s (p' := 996) ?_ ?_); (exact rfl); refine st_min (Nat.le_of_ble_eq_true rfl) gm_999s ?_)
        | ((with_reducible apply st_alen); (refine is_of_ar (by first | assumption | exact N_a2' hS (by assumption) | exact N_a3' hS (by assumption) | exact N_a4' hS (by assumption) | exact N_a5' hS (by assumption) | exact N_a6' hS (by assumption) | exact N_a7' hS (by assumption) | exact N_a9' hS (by assumption) | exact N_a10' hS (by assumption) | exact A_630' hS | exact A_631' hS | exact A_632' hS | exact A_633' hS | exact A_635' hS | exact A_636' hS | exact A_637' hS | exact A_638' hS | exact A_639' hS | exact A_2' hS | exact A_55' hS | exact A_56' hS | exact A_57' hS | exact A_58' hS | exact A_59' hS | exact A_60' hS | exact A_61' hS | exact A_62' hS | exact A_63' hS)); (exact len_of_ar (by first | assumption | exact N_a2' hS (by assumption) | exact N_a3' hS (by assumption) | exact N_a4' hS (by assumption) | exact N_a5' hS (by assumption) | exact N_a6' hS (by assumption) | exact N_a7' hS (by assumption) | exact N_a9' hS (by assumption) | exact N_a10' hS (by assumption) | exact A_630' hS | exact A_631' hS | exact A_632' hS | exact A_633' hS | exact A_635' hS | exact A_636' hS | exact A_637' hS | exact A_638' hS | exact A_639' hS | exact A_2' hS | exact A_55' hS | exact A_56' hS | exact A_57' hS | exact A_58' hS | exact A_59' hS | exact A_60' hS | exact A_61' hS | exact A_62' hS | exact A_63' hS)))
        | ((with_reducible refine st_rem ?_ ?_); first | decide | omega)
        | ((with_reducible refine st_div ?_ ?_); first | decide | omega)
        | dsimp only [gm_step, gm_c, gm_s1, gm_s2, gm_kl, gm_ps, gm_wd, gm_w1, List.getElem?_cons_succ, List.getElem?_cons_zero, List.set_cons_succ, List.set_cons_zero, List.length_cons, List.length_nil, List.drop_succ_cons, List.drop_zero, List.take_succ_cons, List.take_zero, Nat.reduceAdd, Nat.reduceSub, Nat.reduceLeDiff])
      all_goals (
        refine ⟨(by first | rfl | trivial), (by first | rfl | trivial), fun k k0 k1 => ?_, fr2⟩
        rw [go2 k k0 k1]
        by_cases q : (0 ≤ k ∧ k < n_sc N 5) ∧ n_le N k 3 = 1
        · have := (hw.2.2.2.2 k q.1.1 q.1.2).1.2.2.2.2
          rw [if_pos ⟨q, Or.inr this.2⟩]
        · rw [if_neg (fun z => q z.1)]
          unfold goA
          rw [if_neg q])
    · intro v hv1 hv2 ih mm nb2 go2 fr2
      have h1 : repC mm a N := repC_fr h h40.2 (fun c q1 q2 j => fr2 c j (by omega) (by omega) (by omega) (by omega) (by omega))
      have hsz := C_sz h1 hw
      have hsz0 := hsz.1
      have hcv : mm 59 v = hrA N v := by rw [fr2 _ _ (by omega) (by omega) (by omega) (by omega) (by omega)]; exact hcr v hv1 hv2
      have ew : mm (a + 1) 1 = n_sc N 2 := h1.1.2.1
      have el : mm (a + 2) v = n_sc N (13 + v) := (h1.2.1 v hv1 hv2).1
      have hskip : (¬ swA N v ∨ hrA N v ≤ 0) → (∀ k, 0 ≤ k → k < 40 → mm 56 k = if ((0 ≤ k ∧ k < n_sc N 5) ∧ n_le N k 3 = 1) ∧ (¬ swA N (n_le N k 4) ∨ n_le N k 4 < (v + 1)) then goA N (ordA N g).1 (ordA N g).2 k else -1000000) := fun hq k k0 k1 => by
        rw [go2 k k0 k1]
        by_cases q : ((0 ≤ k ∧ k < n_sc N 5) ∧ n_le N k 3 = 1) ∧ (¬ swA N (n_le N k 4) ∨ n_le N k 4 < v)
        · rw [if_pos q, if_pos ⟨q.1, by
            rcases q.2 with z | z
            · exact Or.inl z
            · exact Or.inr (by omega)⟩]
        · rw [if_neg q, if_neg]
          intro z
          apply q
          refine ⟨z.1, ?_⟩
          rcases z.2 with y | y
          · exact Or.inl y
          · by_cases x : n_le N k 4 = v
            · rcases hq with w | w
              · exact Or.inl (by rw [x]; exact w)
              · exact absurd ⟨z.1.1, z.1.2, x⟩ (hr_0 h40.1 w)
            · exact Or.inr (by omega)
      refine gm_hd rfl ?_
      by_cases hs : swA N v
      · have hs2 : n_sc N 2 = 2 ∧ n_sc N (13 + v) = 15 := hs
        by_cases hr0 : hrA N v ≤ 0
        · repeat' (first
            | ((with_reducible refine gm_w0 ?_); refine gm_go rfl ?_)
            | ((with_reducible refine sw_cons (fun hc => ?_) (fun hc => ?_)) <;> try (exfalso; omega))
            | with_reducible refine sw_nil ?_
            | simp (disch := omega) only [w32_id, Int.tdiv_eq_ediv_of_nonneg, Int.tmod_eq_emod_of_nonneg, Int.add_zero]
            | simp only [hcv, ew, el, hsz0]
            | ((with_reducible refine st_getI ?_ ?_); first | assumption | exact N_is' hS (by assumption) | exact N_wis' hS (by assumption) | exact C_629' hS | exact N_lis' hS (by assumption) (by omega) (by omega) | exact C_0' hS | exact C_1' hS | exact C_54' hS | exact C_64' hS | exact C_116' hS)
            | ((with_reducible apply st_getR); (first | assumption | exact N_is' hS (by assumption) | exact N_wis' hS (by assumption) | exact C_629' hS | exact N_lis' hS (by assumption) (by omega) (by omega) | exact C_0' hS | exact C_1' hS | exact C_54' hS | exact C_64' hS | exact C_116' hS); (first | assumption | exact N_web' hS (by assumption) | exact N_letters' hS (by assumption) | exact N_golden' hS (by assumption) | exact N_logged' hS (by assumption) | exact N_open' hS (by assumption) | exact N_last' hS (by assumption) | exact N_beyond' hS (by assumption) | exact N_apart' hS (by assumption) | exact N_steps' hS (by assumption) | exact N_reached' hS (by assumption) | exact F_0_0' hS | exact F_0_1' hS | exact F_0_2' hS | exact F_0_3' hS | exact F_0_4' hS | exact F_0_5' hS | exact F_1_0' hS | exact F_54_0' hS | exact F_54_1' hS | exact F_54_4' hS | exact F_54_5' hS | exact F_54_6' hS | exact F_54_7' hS | exact F_54_8' hS | exact F_54_9' hS | exact F_54_10' hS | exact F_64_0' hS | exact F_64_1' hS | exact F_116_0' hS | exact F_629_0' hS | exact F_629_1' hS | exact F_629_2' hS | exact F_629_4' hS | exact F_629_5' hS | exact F_629_6' hS | exact F_629_15' hS | exact F_629_16' hS | exact F_629_18' hS | exact F_629_19' hS))
            | ((with_reducible refine st_putI ?_ ?_); first | assumption | exact N_is' hS (by assumption) | exact N_wis' hS (by assumption) | exact C_629' hS | exact N_lis' hS (by assumption) (by omega) (by omega) | exact C_0' hS | exact C_1' hS | exact C_54' hS | exact C_64' hS | exact C_116' hS)
            | ((with_reducible refine st_iald ?_ ?_); refine in_of (by first | assumption | exact N_a2' hS (by assumption) | exact N_a3' hS (by assumption) | exact N_a4' hS (by assumption) | exact N_a5' hS (by assumption) | exact N_a6' hS (by assumption) | exact N_a7' hS (by assumption) | exact N_a9' hS (by assumption) | exact N_a10' hS (by assumption) | exact A_630' hS | exact A_631' hS | exact A_632' hS | exact A_633' hS | exact A_635' hS | exact A_636' hS | exact A_637' hS | exact A_638' hS | exact A_639' hS | exact A_2' hS | exact A_55' hS | exact A_56' hS | exact A_57' hS | exact A_58' hS | exact A_59' hS | exact A_60' hS | exact A_61' hS | exact A_62' hS | exact A_63' hS) (by omega) (by omega))
            | ((with_reducible refine st_iast ?_ ?_); refine in_of (by first | assumption | exact N_a2' hS (by assumption) | exact N_a3' hS (by assumption) | exact N_a4' hS (by assumption) | exact N_a5' hS (by assumption) | exact N_a6' hS (by assumption) | exact N_a7' hS (by assumption) | exact N_a9' hS (by assumption) | exact N_a10' hS (by assumption) | exact A_630' hS | exact A_631' hS | exact A_632' hS | exact A_633' hS | exact A_635' hS | exact A_636' hS | exact A_637' hS | exact A_638' hS | exact A_639' hS | exact A_2' hS | exact A_55' hS | exact A_56' hS | exact A_57' hS | exact A_58' hS | exact A_59' hS | exact A_60' hS | exact A_61' hS | exact A_62' hS | exact A_63' hS) (by omega) (by omega))
            | ((with_reducible apply st_aald); (exact N_lin' hS (by assumption) (by omega) (by omega)); (exact N_lrf' hS (by assumption) (by omega) (by omega)))
            | ((with_reducible refine st_icmp (fun hc => ?_) (fun hc => ?_)) <;> (try dsimp only [gm_c] at hc) <;> (try simp only [gm_cmp_lt, gm_cmp_gt, gm_cmp_le, gm_cmp_ge, ite_0, ite_1, ne_eq, Classical.not_not] at hc) <;> try (first | (exfalso; omega) | exact absurd trivial hc))
            | ((with_reducible refine st_if (fun hc => ?_) (fun hc => ?_)) <;> (try dsimp only [gm_c] at hc) <;> (try simp only [gm_cmp_lt, gm_cmp_gt, gm_cmp_le, gm_cmp_ge, ite_0, ite_1, ne_eq, Classical.not_not] at hc) <;> try (first | (exfalso; omega) | exact absurd trivial hc))
            | ((with_reducible refine st_ret ?_ ?_); first | exact Or.inl rfl | exact Or.inr (Or.inl rfl) | exact Or.inr (Or.inr rfl))
            | ((with_reducible refine is_s (p' := 998) ?_ ?_); (exact rfl); refine st_copy (by first | assumption | exact N_a2' hS (by assumption) | exact N_a3' hS (by assumption) | exact N_a4' hS (by assumption) | exact N_a5' hS (by assumption) | exact N_a6' hS (by assumption) | exact N_a7' hS (by assumption) | exact N_a9' hS (by assumption) | exact N_a10' hS (by assumption) | exact A_630' hS | exact A_631' hS | exact A_632' hS | exact A_633' hS | exact A_635' hS | exact A_636' hS | exact A_637' hS | exact A_638' hS | exact A_639' hS | exact A_2' hS | exact A_55' hS | exact A_56' hS | exact A_57' hS | exact A_58' hS | exact A_59' hS | exact A_60' hS | exact A_61' hS | exact A_62' hS | exact A_63' hS) (by first | assumption | exact N_a2' hS (by assumption) | exact N_a3' hS (by assumption) | exact N_a4' hS (by assumption) | exact N_a5' hS (by assumption) | exact N_a6' hS (by assumption) | exact N_a7' hS (by assumption) | exact N_a9' hS (by assumption) | exact N_a10' hS (by assumption) | exact A_630' hS | exact A_631' hS | exact A_632' hS | exact A_633' hS | exact A_635' hS | exact A_636' hS | exact A_637' hS | exact A_638' hS | exact A_639' hS | exact A_2' hS | exact A_55' hS | exact A_56' hS | exact A_57' hS | exact A_58' hS | exact A_59' hS | exact A_60' hS | exact A_61' hS | exact A_62' hS | exact A_63' hS) (by omega) (by omega) (by omega) (by omega) (by omega) (Nat.le_of_ble_eq_true rfl) gm_999s ?_)
            | ((with_reducible refine is_s (p' := 997) ?_ ?_); (exact rfl); refine st_max (Nat.le_of_ble_eq_true rfl) gm_999s ?_)
            | ((with_reducible refine is_s (p' := 996) ?_ ?_); (exact rfl); refine st_min (Nat.le_of_ble_eq_true rfl) gm_999s ?_)
            | ((with_reducible apply st_alen); (refine is_of_ar (by first | assumption | exact N_a2' hS (by assumption) | exact N_a3' hS (by assumption) | exact N_a4' hS (by assumption) | exact N_a5' hS (by assumption) | exact N_a6' hS (by assumption) | exact N_a7' hS (by assumption) | exact N_a9' hS (by assumption) | exact N_a10' hS (by assumption) | exact A_630' hS | exact A_631' hS | exact A_632' hS | exact A_633' hS | exact A_635' hS | exact A_636' hS | exact A_637' hS | exact A_638' hS | exact A_639' hS | exact A_2' hS | exact A_55' hS | exact A_56' hS | exact A_57' hS | exact A_58' hS | exact A_59' hS | exact A_60' hS | exact A_61' hS | exact A_62' hS | exact A_63' hS)); (exact len_of_ar (by first | assumption | exact N_a2' hS (by assumption) | exact N_a3' hS (by assumption) | exact N_a4' hS (by assumption) | exact N_a5' hS (by assumption) | exact N_a6' hS (by assumption) | exact N_a7' hS (by assumption) | exact N_a9' hS (by assumption) | exact N_a10' hS (by assumption) | exact A_630' hS | exact A_631' hS | exact A_632' hS | exact A_633' hS | exact A_635' hS | exact A_636' hS | exact A_637' hS | exact A_638' hS | exact A_639' hS | exact A_2' hS | exact A_55' hS | exact A_56' hS | exact A_57' hS | exact A_58' hS | exact A_59' hS | exact A_60' hS | exact A_61' hS | exact A_62' hS | exact A_63' hS)))
            | ((with_reducible refine st_rem ?_ ?_); first | decide | omega)
            | ((with_reducible refine st_div ?_ ?_); first | decide | omega)
            | ((with_reducible refine is_v (p' := k_X6_swapsAt) ?_ ?_); (exact rfl); refine gm_vt2 (Nat.le_of_ble_eq_true rfl) (by first | assumption | exact N_is' hS (by assumption) | exact N_wis' hS (by assumption) | exact C_629' hS | exact N_lis' hS (by assumption) (by omega) (by omega) | exact C_0' hS | exact C_1' hS | exact C_54' hS | exact C_64' hS | exact C_116' hS) (sp_X6_swapsAt hS ha (by omega)) ?_; dsimp only [gm_ps])
            | dsimp only [gm_step, gm_c, gm_s1, gm_s2, gm_kl, gm_ps, gm_wd, gm_w1, List.getElem?_cons_succ, List.getElem?_cons_zero, List.set_cons_succ, List.set_cons_zero, List.length_cons, List.length_nil, List.drop_succ_cons, List.drop_zero, List.take_succ_cons, List.take_zero, Nat.reduceAdd, Nat.reduceSub, Nat.reduceLeDiff])
          all_goals exact ih _ nb2 (hskip (Or.inr hr0)) fr2
        · have hl4 : hrA N v ≤ 4 := by
            have := hrm v hv1 hv2
            have e : lkA N v = 4 := by unfold lkA; rw [hs.2]; exact on_15
            omega
          have hom : ordC mm (ordA N g).1 (ordA N g).2 := ⟨by rw [fr2 _ _ (by omega) (by omega) (by omega) (by omega) (by omega)]; exact hm.1, fun i i0 i1 => by rw [fr2 _ _ (by omega) (by omega) (by omega) (by omega) (by omega)]; exact hm.2 i i0 i1⟩
          have hclm : CLM mm N g := fun k l a1 a2 a3 a4 a5 => by
            rw [fr2 _ _ (by omega) (by omega) (by omega) (by omega) (by omega), fr2 57 k (by omega) (by omega) (by omega) (by omega) (by omega)]
            exact hcl k l a1 a2 a3 a4 a5
          have hst := stA_ok (v := v) ho hw hfc hl4
          have hgs := gsA_ok ho (WF_cm hw) hst
          have a0 := hst.1 0 (by omega) (by omega)
          have a1 := hst.1 1 (by omega) (by omega)
          have a2 := hst.1 2 (by omega) (by omega)
          have a3 := hst.1 3 (by omega) (by omega)
          have b01 := hst.2.1 0 1 (by omega) (by omega) (by omega)
          have b02 := hst.2.1 0 2 (by omega) (by omega) (by omega)
          have b03 := hst.2.1 0 3 (by omega) (by omega) (by omega)
          have b12 := hst.2.1 1 2 (by omega) (by omega) (by omega)
          have b13 := hst.2.1 1 3 (by omega) (by omega) (by omega)
          have b23 := hst.2.1 2 3 (by omega) (by omega) (by omega)
          have e01 := hA_c (N := N) ho a0 a1
          have e23 := hA_c (N := N) ho a2 a3
          have gu0 : flyN N v (huA N (ordA N g).1 (ordA N g).2 (stA N (ordA N g).1 (ordA N g).2 v 0) (stA N (ordA N g).1 (ordA N g).2 v 1)) := by rcases e01 with ⟨q, -⟩ | ⟨q, -⟩ <;> rw [q] <;> assumption
          have gl0 : flyN N v (hlA N (ordA N g).1 (ordA N g).2 (stA N (ordA N g).1 (ordA N g).2 v 0) (stA N (ordA N g).1 (ordA N g).2 v 1)) := by rcases e01 with ⟨-, q⟩ | ⟨-, q⟩ <;> rw [q] <;> assumption
          have gu1 : flyN N v (huA N (ordA N g).1 (ordA N g).2 (stA N (ordA N g).1 (ordA N g).2 v 2) (stA N (ordA N g).1 (ordA N g).2 v 3)) := by rcases e23 with ⟨q, -⟩ | ⟨q, -⟩ <;> rw [q] <;> assumption
          have gl1 : flyN N v (hlA N (ordA N g).1 (ordA N g).2 (stA N (ordA N g).1 (ordA N g).2 v 2) (stA N (ordA N g).1 (ordA N g).2 v 3)) := by rcases e23 with ⟨-, q⟩ | ⟨-, q⟩ <;> rw [q] <;> assumption
          have dU : huA N (ordA N g).1 (ordA N g).2 (stA N (ordA N g).1 (ordA N g).2 v 0) (stA N (ordA N g).1 (ordA N g).2 v 1) = huA N (ordA N g).1 (ordA N g).2 (stA N (ordA N g).1 (ordA N g).2 v 2) (stA N (ordA N g).1 (ordA N g).2 v 3) → huA N (ordA N g).1 (ordA N g).2 (stA N (ordA N g).1 (ordA N g).2 v 0) (stA N (ordA N g).1 (ordA N g).2 v 1) = -1000000 := by rcases e01 with ⟨q1, q2⟩ | ⟨q1, q2⟩ <;> rcases e23 with ⟨q3, q4⟩ | ⟨q3, q4⟩ <;> rw [q1, q3] <;> assumption
          have dL : hlA N (ordA N g).1 (ordA N g).2 (stA N (ordA N g).1 (ordA N g).2 v 0) (stA N (ordA N g).1 (ordA N g).2 v 1) = hlA N (ordA N g).1 (ordA N g).2 (stA N (ordA N g).1 (ordA N g).2 v 2) (stA N (ordA N g).1 (ordA N g).2 v 3) → hlA N (ordA N g).1 (ordA N g).2 (stA N (ordA N g).1 (ordA N g).2 v 0) (stA N (ordA N g).1 (ordA N g).2 v 1) = -1000000 := by rcases e01 with ⟨q1, q2⟩ | ⟨q1, q2⟩ <;> rcases e23 with ⟨q3, q4⟩ | ⟨q3, q4⟩ <;> rw [q2, q4] <;> assumption
          clear a0 a1 a2 a3 b01 b02 b03 b12 b13 b23 e01 e23
          repeat' (first
            | ((with_reducible refine gm_w0 ?_); refine gm_go rfl ?_)
            | ((with_reducible refine sw_cons (fun hc => ?_) (fun hc => ?_)) <;> try (exfalso; omega))
            | with_reducible refine sw_nil ?_
            | simp (disch := omega) only [w32_id, Int.tdiv_eq_ediv_of_nonneg, Int.tmod_eq_emod_of_nonneg, Int.add_zero]
            | simp only [hcv, ew, el, hsz0]
            | ((with_reducible refine is_v (p' := k_X5_seatAll) ?_ ?_); (exact rfl); refine gm_rv3 (Nat.le_of_ble_eq_true rfl) (by first | assumption | exact N_is' hS (by assumption) | exact N_wis' hS (by assumption) | exact C_629' hS | exact N_lis' hS (by assumption) (by omega) (by omega) | exact C_0' hS | exact C_1' hS | exact C_54' hS | exact C_64' hS | exact C_116' hS) (sp_X5_seatAll hS ha h1 hw ho hom hfc hl4) ?_; rintro r6 m6 ⟨rfl, p6, f6⟩; dsimp only [gm_ps]; (have h6 : repC m6 a N := repC_fr h1 h40.2 (fun c q1 q2 j => f6 c j (by omega))); (have cl6 : CLM m6 N g := fun k l z1 z2 z3 z4 z5 => by rw [f6 _ _ (by omega), f6 57 k (by omega)]; exact hclm k l z1 z2 z3 z4 z5); (have nr6 : ∀ k, fly N v k → m6 58 k = nbA N k := fun k q => by rw [f6 _ _ (by omega)]; exact nb2 k q.1 q.2.1))
            | ((with_reducible refine is_v (p' := k_X5_goToHalls) ?_ ?_); (exact rfl); refine gm_rv2 (Nat.le_of_ble_eq_true rfl) (by first | assumption | exact N_is' hS (by assumption) | exact N_wis' hS (by assumption) | exact C_629' hS | exact N_lis' hS (by assumption) (by omega) (by omega) | exact C_0' hS | exact C_1' hS | exact C_54' hS | exact C_64' hS | exact C_116' hS) (sp_X5_goToHalls hS hro ha h6 hw cl6 hst p6 nr6) ?_; rintro r7 m7 ⟨rfl, p7, f7⟩; dsimp only [gm_ps]; (have h7 : repC m7 a N := repC_fr h6 h40.2 (fun c q1 q2 j => f7 c j (by omega))); (have cl7 : CLM m7 N g := fun k l z1 z2 z3 z4 z5 => by rw [f7 _ _ (by omega), f7 57 k (by omega)]; exact cl6 k l z1 z2 z3 z4 z5); (have nr7 : ∀ k, fly N v k → m7 58 k = nbA N k := fun k q => by rw [f7 _ _ (by omega)]; exact nr6 k q); (have z0 : m7 63 0 = huA N (ordA N g).1 (ordA N g).2 (stA N (ordA N g).1 (ordA N g).2 v 0) (stA N (ordA N g).1 (ordA N g).2 v 1) := p7 0 (by omega) (by omega)); (have z1 : m7 63 1 = huA N (ordA N g).1 (ordA N g).2 (stA N (ordA N g).1 (ordA N g).2 v 2) (stA N (ordA N g).1 (ordA N g).2 v 3) := p7 1 (by omega) (by omega)); (have z2 : m7 63 2 = hlA N (ordA N g).1 (ordA N g).2 (stA N (ordA N g).1 (ordA N g).2 v 0) (stA N (ordA N g).1 (ordA N g).2 v 1) := p7 2 (by omega) (by omega)); (have z3 : m7 63 3 = hlA N (ordA N g).1 (ordA N g).2 (stA N (ordA N g).1 (ordA N g).2 v 2) (stA N (ordA N g).1 (ordA N g).2 v 3) := p7 3 (by omega) (by omega)))
            | ((with_reducible refine is_v (p' := k_X5_leaveHalls) ?_ ?_); (exact rfl); refine gm_rv2 (Nat.le_of_ble_eq_true rfl) (by first | assumption | exact N_is' hS (by assumption) | exact N_wis' hS (by assumption) | exact C_629' hS | exact N_lis' hS (by assumption) (by omega) (by omega) | exact C_0' hS | exact C_1' hS | exact C_54' hS | exact C_64' hS | exact C_116' hS) (sp_X5_leaveHalls hS hro ha h7 hw cl7 z0 z1 z2 z3 gu0 gu1 gl0 gl1 dU dL nr7) ?_; rintro r8 m8 ⟨rfl, p8, f8⟩; dsimp only [gm_ps])
            | ((with_reducible refine st_getI ?_ ?_); first | assumption | exact N_is' hS (by assumption) | exact N_wis' hS (by assumption) | exact C_629' hS | exact N_lis' hS (by assumption) (by omega) (by omega) | exact C_0' hS | exact C_1' hS | exact C_54' hS | exact C_64' hS | exact C_116' hS)
            | ((with_reducible apply st_getR); (first | assumption | exact N_is' hS (by assumption) | exact N_wis' hS (by assumption) | exact C_629' hS | exact N_lis' hS (by assumption) (by omega) (by omega) | exact C_0' hS | exact C_1' hS | exact C_54' hS | exact C_64' hS | exact C_116' hS); (first | assumption | exact N_web' hS (by assumption) | exact N_letters' hS (by assumption) | exact N_golden' hS (by assumption) | exact N_logged' hS (by assumption) | exact N_open' hS (by assumption) | exact N_last' hS (by assumption) | exact N_beyond' hS (by assumption) | exact N_apart' hS (by assumption) | exact N_steps' hS (by assumption) | exact N_reached' hS (by assumption) | exact F_0_0' hS | exact F_0_1' hS | exact F_0_2' hS | exact F_0_3' hS | exact F_0_4' hS | exact F_0_5' hS | exact F_1_0' hS | exact F_54_0' hS | exact F_54_1' hS | exact F_54_4' hS | exact F_54_5' hS | exact F_54_6' hS | exact F_54_7' hS | exact F_54_8' hS | exact F_54_9' hS | exact F_54_10' hS | exact F_64_0' hS | exact F_64_1' hS | exact F_116_0' hS | exact F_629_0' hS | exact F_629_1' hS | exact F_629_2' hS | exact F_629_4' hS | exact F_629_5' hS | exact F_629_6' hS | exact F_629_15' hS | exact F_629_16' hS | exact F_629_18' hS | exact F_629_19' hS))
            | ((with_reducible refine st_putI ?_ ?_); first | assumption | exact N_is' hS (by assumption) | exact N_wis' hS (by assumption) | exact C_629' hS | exact N_lis' hS (by assumption) (by omega) (by omega) | exact C_0' hS | exact C_1' hS | exact C_54' hS | exact C_64' hS | exact C_116' hS)
            | ((with_reducible refine st_iald ?_ ?_); refine in_of (by first | assumption | exact N_a2' hS (by assumption) | exact N_a3' hS (by assumption) | exact N_a4' hS (by assumption) | exact N_a5' hS (by assumption) | exact N_a6' hS (by assumption) | exact N_a7' hS (by assumption) | exact N_a9' hS (by assumption) | exact N_a10' hS (by assumption) | exact A_630' hS | exact A_631' hS | exact A_632' hS | exact A_633' hS | exact A_635' hS | exact A_636' hS | exact A_637' hS | exact A_638' hS | exact A_639' hS | exact A_2' hS | exact A_55' hS | exact A_56' hS | exact A_57' hS | exact A_58' hS | exact A_59' hS | exact A_60' hS | exact A_61' hS | exact A_62' hS | exact A_63' hS) (by omega) (by omega))
            | ((with_reducible refine st_iast ?_ ?_); refine in_of (by first | assumption | exact N_a2' hS (by assumption) | exact N_a3' hS (by assumption) | exact N_a4' hS (by assumption) | exact N_a5' hS (by assumption) | exact N_a6' hS (by assumption) | exact N_a7' hS (by assumption) | exact N_a9' hS (by assumption) | exact N_a10' hS (by assumption) | exact A_630' hS | exact A_631' hS | exact A_632' hS | exact A_633' hS | exact A_635' hS | exact A_636' hS | exact A_637' hS | exact A_638' hS | exact A_639' hS | exact A_2' hS | exact A_55' hS | exact A_56' hS | exact A_57' hS | exact A_58' hS | exact A_59' hS | exact A_60' hS | exact A_61' hS | exact A_62' hS | exact A_63' hS) (by omega) (by omega))
            | ((with_reducible apply st_aald); (exact N_lin' hS (by assumption) (by omega) (by omega)); (exact N_lrf' hS (by assumption) (by omega) (by omega)))
            | ((with_reducible refine st_icmp (fun hc => ?_) (fun hc => ?_)) <;> (try dsimp only [gm_c] at hc) <;> (try simp only [gm_cmp_lt, gm_cmp_gt, gm_cmp_le, gm_cmp_ge, ite_0, ite_1, ne_eq, Classical.not_not] at hc) <;> try (first | (exfalso; omega) | exact absurd trivial hc))
            | ((with_reducible refine st_if (fun hc => ?_) (fun hc => ?_)) <;> (try dsimp only [gm_c] at hc) <;> (try simp only [gm_cmp_lt, gm_cmp_gt, gm_cmp_le, gm_cmp_ge, ite_0, ite_1, ne_eq, Classical.not_not] at hc) <;> try (first | (exfalso; omega) | exact absurd trivial hc))
            | ((with_reducible refine st_ret ?_ ?_); first | exact Or.inl rfl | exact Or.inr (Or.inl rfl) | exact Or.inr (Or.inr rfl))
            | ((with_reducible refine is_s (p' := 998) ?_ ?_); (exact rfl); refine st_copy (by first | assumption | exact N_a2' hS (by assumption) | exact N_a3' hS (by assumption) | exact N_a4' hS (by assumption) | exact N_a5' hS (by assumption) | exact N_a6' hS (by assumption) | exact N_a7' hS (by assumption) | exact N_a9' hS (by assumption) | exact N_a10' hS (by assumption) | exact A_630' hS | exact A_631' hS | exact A_632' hS | exact A_633' hS | exact A_635' hS | exact A_636' hS | exact A_637' hS | exact A_638' hS | exact A_639' hS | exact A_2' hS | exact A_55' hS | exact A_56' hS | exact A_57' hS | exact A_58' hS | exact A_59' hS | exact A_60' hS | exact A_61' hS | exact A_62' hS | exact A_63' hS) (by first | assumption | exact N_a2' hS (by assumption) | exact N_a3' hS (by assumption) | exact N_a4' hS (by assumption) | exact N_a5' hS (by assumption) | exact N_a6' hS (by assumption) | exact N_a7' hS (by assumption) | exact N_a9' hS (by assumption) | exact N_a10' hS (by assumption) | exact A_630' hS | exact A_631' hS | exact A_632' hS | exact A_633' hS | exact A_635' hS | exact A_636' hS | exact A_637' hS | exact A_638' hS | exact A_639' hS | exact A_2' hS | exact A_55' hS | exact A_56' hS | exact A_57' hS | exact A_58' hS | exact A_59' hS | exact A_60' hS | exact A_61' hS | exact A_62' hS | exact A_63' hS) (by omega) (by omega) (by omega) (by omega) (by omega) (Nat.le_of_ble_eq_true rfl) gm_999s ?_)
            | ((with_reducible refine is_s (p' := 997) ?_ ?_); (exact rfl); refine st_max (Nat.le_of_ble_eq_true rfl) gm_999s ?_)
            | ((with_reducible refine is_s (p' := 996) ?_ ?_); (exact rfl); refine st_min (Nat.le_of_ble_eq_true rfl) gm_999s ?_)
            | ((with_reducible apply st_alen); (refine is_of_ar (by first | assumption | exact N_a2' hS (by assumption) | exact N_a3' hS (by assumption) | exact N_a4' hS (by assumption) | exact N_a5' hS (by assumption) | exact N_a6' hS (by assumption) | exact N_a7' hS (by assumption) | exact N_a9' hS (by assumption) | exact N_a10' hS (by assumption) | exact A_630' hS | exact A_631' hS | exact A_632' hS | exact A_633' hS | exact A_635' hS | exact A_636' hS | exact A_637' hS | exact A_638' hS | exact A_639' hS | exact A_2' hS | exact A_55' hS | exact A_56' hS | exact A_57' hS | exact A_58' hS | exact A_59' hS | exact A_60' hS | exact A_61' hS | exact A_62' hS | exact A_63' hS)); (exact len_of_ar (by first | assumption | exact N_a2' hS (by assumption) | exact N_a3' hS (by assumption) | exact N_a4' hS (by assumption) | exact N_a5' hS (by assumption) | exact N_a6' hS (by assumption) | exact N_a7' hS (by assumption) | exact N_a9' hS (by assumption) | exact N_a10' hS (by assumption) | exact A_630' hS | exact A_631' hS | exact A_632' hS | exact A_633' hS | exact A_635' hS | exact A_636' hS | exact A_637' hS | exact A_638' hS | exact A_639' hS | exact A_2' hS | exact A_55' hS | exact A_56' hS | exact A_57' hS | exact A_58' hS | exact A_59' hS | exact A_60' hS | exact A_61' hS | exact A_62' hS | exact A_63' hS)))
            | ((with_reducible refine st_rem ?_ ?_); first | decide | omega)
            | ((with_reducible refine st_div ?_ ?_); first | decide | omega)
            | ((with_reducible refine is_v (p' := k_X6_swapsAt) ?_ ?_); (exact rfl); refine gm_vt2 (Nat.le_of_ble_eq_true rfl) (by first | assumption | exact N_is' hS (by assumption) | exact N_wis' hS (by assumption) | exact C_629' hS | exact N_lis' hS (by assumption) (by omega) (by omega) | exact C_0' hS | exact C_1' hS | exact C_54' hS | exact C_64' hS | exact C_116' hS) (sp_X6_swapsAt hS ha (by omega)) ?_; dsimp only [gm_ps])
            | dsimp only [gm_step, gm_c, gm_s1, gm_s2, gm_kl, gm_ps, gm_wd, gm_w1, List.getElem?_cons_succ, List.getElem?_cons_zero, List.set_cons_succ, List.set_cons_zero, List.length_cons, List.length_nil, List.drop_succ_cons, List.drop_zero, List.take_succ_cons, List.take_zero, Nat.reduceAdd, Nat.reduceSub, Nat.reduceLeDiff])
          all_goals (
            refine ih _ (fun k hk hf => by rw [f8 _ _ (by omega), f7 _ _ (by omega), f6 _ _ (by omega)]; exact nb2 k hk hf) (fun k k0 k1 => ?_) (fun c j q1 q2 q3 q4 q5 => by rw [f8 c j q1, f7 c j q5, f6 c j q4]; exact fr2 c j q1 q2 q3 q4 q5)
            have hgd : gsA N (ordA N g).1 (ordA N g).2 (stA N (ordA N g).1 (ordA N g).2 v) k = if outA N (ordA N g).1 (ordA N g).2 (hlA N (ordA N g).1 (ordA N g).2 (stA N (ordA N g).1 (ordA N g).2 v 0) (stA N (ordA N g).1 (ordA N g).2 v 1)) (hlA N (ordA N g).1 (ordA N g).2 (stA N (ordA N g).1 (ordA N g).2 v 2) (stA N (ordA N g).1 (ordA N g).2 v 3)) 1 k = -1000000 then outA N (ordA N g).1 (ordA N g).2 (huA N (ordA N g).1 (ordA N g).2 (stA N (ordA N g).1 (ordA N g).2 v 0) (stA N (ordA N g).1 (ordA N g).2 v 1)) (huA N (ordA N g).1 (ordA N g).2 (stA N (ordA N g).1 (ordA N g).2 v 2) (stA N (ordA N g).1 (ordA N g).2 v 3)) 0 k else outA N (ordA N g).1 (ordA N g).2 (hlA N (ordA N g).1 (ordA N g).2 (stA N (ordA N g).1 (ordA N g).2 v 0) (stA N (ordA N g).1 (ordA N g).2 v 1)) (hlA N (ordA N g).1 (ordA N g).2 (stA N (ordA N g).1 (ordA N g).2 v 2) (stA N (ordA N g).1 (ordA N g).2 v 3)) 1 k := rfl
            have hgv : m8 56 k = if gsA N (ordA N g).1 (ordA N g).2 (stA N (ordA N g).1 (ordA N g).2 v) k = -1000000 then mm 56 k else gsA N (ordA N g).1 (ordA N g).2 (stA N (ordA N g).1 (ordA N g).2 v) k := by
              rw [p8 k k0, hgd, f7 _ _ (by omega), f6 _ _ (by omega)]
              by_cases z : outA N (ordA N g).1 (ordA N g).2 (hlA N (ordA N g).1 (ordA N g).2 (stA N (ordA N g).1 (ordA N g).2 v 0) (stA N (ordA N g).1 (ordA N g).2 v 1)) (hlA N (ordA N g).1 (ordA N g).2 (stA N (ordA N g).1 (ordA N g).2 v 2) (stA N (ordA N g).1 (ordA N g).2 v 3)) 1 k = -1000000
              · rw [if_pos z, if_pos z]
              · rw [if_neg z, if_neg z, if_neg z]
            rw [hgv]
            by_cases q : fly N v k
            · have := hgs.1 k q
              rw [if_neg (by omega), if_pos ⟨⟨q.1, q.2.1⟩, Or.inr (by have := q.2.2; omega)⟩]
              unfold goA
              rw [if_pos ⟨q.1, q.2.1⟩, q.2.2, if_pos hs]
            · rw [if_pos (hgs.2.2 k k0 q), go2 k k0 k1]
              by_cases z : ((0 ≤ k ∧ k < n_sc N 5) ∧ n_le N k 3 = 1) ∧ (¬ swA N (n_le N k 4) ∨ n_le N k 4 < v)
              · rw [if_pos z, if_pos ⟨z.1, by
                  rcases z.2 with y | y
                  · exact Or.inl y
                  · exact Or.inr (by omega)⟩]
              · rw [if_neg z, if_neg]
                intro y
                apply z
                refine ⟨y.1, ?_⟩
                rcases y.2 with w | w
                · exact Or.inl w
                · have : n_le N k 4 ≠ v := fun x => q ⟨y.1.1, y.1.2, x⟩
                  exact Or.inr (by omega))
      · have hs2 : ¬ (n_sc N 2 = 2 ∧ n_sc N (13 + v) = 15) := hs
        repeat' (first
            | ((with_reducible refine gm_w0 ?_); refine gm_go rfl ?_)
            | ((with_reducible refine sw_cons (fun hc => ?_) (fun hc => ?_)) <;> try (exfalso; omega))
            | with_reducible refine sw_nil ?_
            | simp (disch := omega) only [w32_id, Int.tdiv_eq_ediv_of_nonneg, Int.tmod_eq_emod_of_nonneg, Int.add_zero]
            | simp only [hcv, ew, el, hsz0]
            | ((with_reducible refine st_getI ?_ ?_); first | assumption | exact N_is' hS (by assumption) | exact N_wis' hS (by assumption) | exact C_629' hS | exact N_lis' hS (by assumption) (by omega) (by omega) | exact C_0' hS | exact C_1' hS | exact C_54' hS | exact C_64' hS | exact C_116' hS)
            | ((with_reducible apply st_getR); (first | assumption | exact N_is' hS (by assumption) | exact N_wis' hS (by assumption) | exact C_629' hS | exact N_lis' hS (by assumption) (by omega) (by omega) | exact C_0' hS | exact C_1' hS | exact C_54' hS | exact C_64' hS | exact C_116' hS); (first | assumption | exact N_web' hS (by assumption) | exact N_letters' hS (by assumption) | exact N_golden' hS (by assumption) | exact N_logged' hS (by assumption) | exact N_open' hS (by assumption) | exact N_last' hS (by assumption) | exact N_beyond' hS (by assumption) | exact N_apart' hS (by assumption) | exact N_steps' hS (by assumption) | exact N_reached' hS (by assumption) | exact F_0_0' hS | exact F_0_1' hS | exact F_0_2' hS | exact F_0_3' hS | exact F_0_4' hS | exact F_0_5' hS | exact F_1_0' hS | exact F_54_0' hS | exact F_54_1' hS | exact F_54_4' hS | exact F_54_5' hS | exact F_54_6' hS | exact F_54_7' hS | exact F_54_8' hS | exact F_54_9' hS | exact F_54_10' hS | exact F_64_0' hS | exact F_64_1' hS | exact F_116_0' hS | exact F_629_0' hS | exact F_629_1' hS | exact F_629_2' hS | exact F_629_4' hS | exact F_629_5' hS | exact F_629_6' hS | exact F_629_15' hS | exact F_629_16' hS | exact F_629_18' hS | exact F_629_19' hS))
            | ((with_reducible refine st_putI ?_ ?_); first | assumption | exact N_is' hS (by assumption) | exact N_wis' hS (by assumption) | exact C_629' hS | exact N_lis' hS (by assumption) (by omega) (by omega) | exact C_0' hS | exact C_1' hS | exact C_54' hS | exact C_64' hS | exact C_116' hS)
            | ((with_reducible refine st_iald ?_ ?_); refine in_of (by first | assumption | exact N_a2' hS (by assumption) | exact N_a3' hS (by assumption) | exact N_a4' hS (by assumption) | exact N_a5' hS (by assumption) | exact N_a6' hS (by assumption) | exact N_a7' hS (by assumption) | exact N_a9' hS (by assumption) | exact N_a10' hS (by assumption) | exact A_630' hS | exact A_631' hS | exact A_632' hS | exact A_633' hS | exact A_635' hS | exact A_636' hS | exact A_637' hS | exact A_638' hS | exact A_639' hS | exact A_2' hS | exact A_55' hS | exact A_56' hS | exact A_57' hS | exact A_58' hS | exact A_59' hS | exact A_60' hS | exact A_61' hS | exact A_62' hS | exact A_63' hS) (by omega) (by omega))
            | ((with_reducible refine st_iast ?_ ?_); refine in_of (by first | assumption | exact N_a2' hS (by assumption) | exact N_a3' hS (by assumption) | exact N_a4' hS (by assumption) | exact N_a5' hS (by assumption) | exact N_a6' hS (by assumption) | exact N_a7' hS (by assumption) | exact N_a9' hS (by assumption) | exact N_a10' hS (by assumption) | exact A_630' hS | exact A_631' hS | exact A_632' hS | exact A_633' hS | exact A_635' hS | exact A_636' hS | exact A_637' hS | exact A_638' hS | exact A_639' hS | exact A_2' hS | exact A_55' hS | exact A_56' hS | exact A_57' hS | exact A_58' hS | exact A_59' hS | exact A_60' hS | exact A_61' hS | exact A_62' hS | exact A_63' hS) (by omega) (by omega))
            | ((with_reducible apply st_aald); (exact N_lin' hS (by assumption) (by omega) (by omega)); (exact N_lrf' hS (by assumption) (by omega) (by omega)))
            | ((with_reducible refine st_icmp (fun hc => ?_) (fun hc => ?_)) <;> (try dsimp only [gm_c] at hc) <;> (try simp only [gm_cmp_lt, gm_cmp_gt, gm_cmp_le, gm_cmp_ge, ite_0, ite_1, ne_eq, Classical.not_not] at hc) <;> try (first | (exfalso; omega) | exact absurd trivial hc))
            | ((with_reducible refine st_if (fun hc => ?_) (fun hc => ?_)) <;> (try dsimp only [gm_c] at hc) <;> (try simp only [gm_cmp_lt, gm_cmp_gt, gm_cmp_le, gm_cmp_ge, ite_0, ite_1, ne_eq, Classical.not_not] at hc) <;> try (first | (exfalso; omega) | exact absurd trivial hc))
            | ((with_reducible refine st_ret ?_ ?_); first | exact Or.inl rfl | exact Or.inr (Or.inl rfl) | exact Or.inr (Or.inr rfl))
            | ((with_reducible refine is_s (p' := 998) ?_ ?_); (exact rfl); refine st_copy (by first | assumption | exact N_a2' hS (by assumption) | exact N_a3' hS (by assumption) | exact N_a4' hS (by assumption) | exact N_a5' hS (by assumption) | exact N_a6' hS (by assumption) | exact N_a7' hS (by assumption) | exact N_a9' hS (by assumption) | exact N_a10' hS (by assumption) | exact A_630' hS | exact A_631' hS | exact A_632' hS | exact A_633' hS | exact A_635' hS | exact A_636' hS | exact A_637' hS | exact A_638' hS | exact A_639' hS | exact A_2' hS | exact A_55' hS | exact A_56' hS | exact A_57' hS | exact A_58' hS | exact A_59' hS | exact A_60' hS | exact A_61' hS | exact A_62' hS | exact A_63' hS) (by first | assumption | exact N_a2' hS (by assumption) | exact N_a3' hS (by assumption) | exact N_a4' hS (by assumption) | exact N_a5' hS (by assumption) | exact N_a6' hS (by assumption) | exact N_a7' hS (by assumption) | exact N_a9' hS (by assumption) | exact N_a10' hS (by assumption) | exact A_630' hS | exact A_631' hS | exact A_632' hS | exact A_633' hS | exact A_635' hS | exact A_636' hS | exact A_637' hS | exact A_638' hS | exact A_639' hS | exact A_2' hS | exact A_55' hS | exact A_56' hS | exact A_57' hS | exact A_58' hS | exact A_59' hS | exact A_60' hS | exact A_61' hS | exact A_62' hS | exact A_63' hS) (by omega) (by omega) (by omega) (by omega) (by omega) (Nat.le_of_ble_eq_true rfl) gm_999s ?_)
            | ((with_reducible refine is_s (p' := 997) ?_ ?_); (exact rfl); refine st_max (Nat.le_of_ble_eq_true rfl) gm_999s ?_)
            | ((with_reducible refine is_s (p' := 996) ?_ ?_); (exact rfl); refine st_min (Nat.le_of_ble_eq_true rfl) gm_999s ?_)
            | ((with_reducible apply st_alen); (refine is_of_ar (by first | assumption | exact N_a2' hS (by assumption) | exact N_a3' hS (by assumption) | exact N_a4' hS (by assumption) | exact N_a5' hS (by assumption) | exact N_a6' hS (by assumption) | exact N_a7' hS (by assumption) | exact N_a9' hS (by assumption) | exact N_a10' hS (by assumption) | exact A_630' hS | exact A_631' hS | exact A_632' hS | exact A_633' hS | exact A_635' hS | exact A_636' hS | exact A_637' hS | exact A_638' hS | exact A_639' hS | exact A_2' hS | exact A_55' hS | exact A_56' hS | exact A_57' hS | exact A_58' hS | exact A_59' hS | exact A_60' hS | exact A_61' hS | exact A_62' hS | exact A_63' hS)); (exact len_of_ar (by first | assumption | exact N_a2' hS (by assumption) | exact N_a3' hS (by assumption) | exact N_a4' hS (by assumption) | exact N_a5' hS (by assumption) | exact N_a6' hS (by assumption) | exact N_a7' hS (by assumption) | exact N_a9' hS (by assumption) | exact N_a10' hS (by assumption) | exact A_630' hS | exact A_631' hS | exact A_632' hS | exact A_633' hS | exact A_635' hS | exact A_636' hS | exact A_637' hS | exact A_638' hS | exact A_639' hS | exact A_2' hS | exact A_55' hS | exact A_56' hS | exact A_57' hS | exact A_58' hS | exact A_59' hS | exact A_60' hS | exact A_61' hS | exact A_62' hS | exact A_63' hS)))
            | ((with_reducible refine st_rem ?_ ?_); first | decide | omega)
            | ((with_reducible refine st_div ?_ ?_); first | decide | omega)
            | ((with_reducible refine is_v (p' := k_X6_swapsAt) ?_ ?_); (exact rfl); refine gm_vt2 (Nat.le_of_ble_eq_true rfl) (by first | assumption | exact N_is' hS (by assumption) | exact N_wis' hS (by assumption) | exact C_629' hS | exact N_lis' hS (by assumption) (by omega) (by omega) | exact C_0' hS | exact C_1' hS | exact C_54' hS | exact C_64' hS | exact C_116' hS) (sp_X6_swapsAt hS ha (by omega)) ?_; dsimp only [gm_ps])
            | dsimp only [gm_step, gm_c, gm_s1, gm_s2, gm_kl, gm_ps, gm_wd, gm_w1, List.getElem?_cons_succ, List.getElem?_cons_zero, List.set_cons_succ, List.set_cons_zero, List.length_cons, List.length_nil, List.drop_succ_cons, List.drop_zero, List.take_succ_cons, List.take_zero, Nat.reduceAdd, Nat.reduceSub, Nat.reduceLeDiff])
        all_goals exact ih _ nb2 (hskip (Or.inl hs)) fr2
  · intro i hi1 hi2 ih mm h2 h3 h4 h5
    have h1 : repC mm a N := repC_fr h h40.2 (fun c q1 q2 j => h5 c j (by omega) (by omega) (by omega))
    have hm2 : mm 54 2 = (ordA N g).2 := by rw [h5 _ _ (by omega) (by omega) (by omega)]; exact hm.1
    have hmo : mm 55 i = (ordA N g).1 i := by rw [h5 _ _ (by omega) (by omega) (by omega)]; exact hm.2 i hi1 hi2
    have hob := ho.2.1 i hi1 hi2
    have hpsi : psO (ordA N g).1 (ordA N g).2 ((ordA N g).1 i) = i := psO_O ho.1.1 ho.2.2.1 hi1 hi2
    have hinj : ∀ k, (0 ≤ psO (ordA N g).1 (ordA N g).2 k ∧ psO (ordA N g).1 (ordA N g).2 k < (ordA N g).2) → psO (ordA N g).1 (ordA N g).2 k = i → k = (ordA N g).1 i := fun k q z => by
      rcases psO_c (O := (ordA N g).1) ho.1.1 k with ⟨y, -⟩ | y
      · omega
      · rw [← y.2, z]
    have hinj2 : ∀ j, 0 ≤ j → j < i → (ordA N g).1 j ≠ (ordA N g).1 i := fun j j0 j1 => ho.2.2.1 j i j0 j1 hi2
    have hoi : (ordA N g).1 i < 40 := by have := hob.1.2; omega
    have hoi0 := hob.1.1
    have hC := C_fly h1 hw hob.1 hob.2
    have hsz := C_sz h1 hw
    have hsz0 := hsz.1
    have hat1 := hC.2.1
    have e4 : mm (a + 11 + (ordA N g).1 i) 4 = n_le N ((ordA N g).1 i) 4 := hC.1.2.2.2.1
    have ew : mm (a + 1) 1 = n_sc N 2 := h1.1.2.1
    have el : mm (a + 2) (n_le N ((ordA N g).1 i) 4) = n_sc N (13 + n_le N ((ordA N g).1 i) 4) := (h1.2.1 _ hat1.1 hat1.2).1
    have hcm2 : gm_up mm 58 ((ordA N g).1 i) (nbA N ((ordA N g).1 i)) (a + 11 + (ordA N g).1 i) 5 = -1000000 ∨ (0 ≤ gm_up mm 58 ((ordA N g).1 i) (nbA N ((ordA N g).1 i)) (a + 11 + (ordA N g).1 i) 5 ∧ gm_up mm 58 ((ordA N g).1 i) (nbA N ((ordA N g).1 i)) (a + 11 + (ordA N g).1 i) 5 < 4) := by
      rw [gm_rd_a (by omega)]; exact hC.2.2.2.2
    have hat2 : 0 ≤ gm_up mm 58 ((ordA N g).1 i) (nbA N ((ordA N g).1 i)) (a + 11 + (ordA N g).1 i) 4 ∧ gm_up mm 58 ((ordA N g).1 i) (nbA N ((ordA N g).1 i)) (a + 11 + (ordA N g).1 i) 4 < 16 := by
      rw [gm_rd_a (by omega), e4]; omega
    have hr58 : ∀ c j, c ≠ 58 → gm_up mm 58 ((ordA N g).1 i) (nbA N ((ordA N g).1 i)) c j = mm c j := fun c j q => gm_rd_a q
    have er4 : gm_up mm 58 ((ordA N g).1 i) (nbA N ((ordA N g).1 i)) (a + 11 + (ordA N g).1 i) 4 = n_le N ((ordA N g).1 i) 4 := by rw [hr58 _ _ (by omega)]; exact e4
    have er1 : gm_up mm 58 ((ordA N g).1 i) (nbA N ((ordA N g).1 i)) (a + 1) 1 = n_sc N 2 := by rw [hr58 _ _ (by omega)]; exact ew
    have er0 : gm_up mm 58 ((ordA N g).1 i) (nbA N ((ordA N g).1 i)) (a + 1) 0 = nd N := by rw [hr58 _ _ (by omega)]; exact hsz0
    have erl : gm_up mm 58 ((ordA N g).1 i) (nbA N ((ordA N g).1 i)) (a + 2) (n_le N ((ordA N g).1 i) 4) = n_sc N (13 + n_le N ((ordA N g).1 i) 4) := by rw [hr58 _ _ (by omega)]; exact el
    have hmo2 : gm_up mm 58 ((ordA N g).1 i) (nbA N ((ordA N g).1 i)) 55 i = (ordA N g).1 i := by rw [hr58 _ _ (by omega)]; exact hmo
    have hrep2 : repC (gm_up mm 58 ((ordA N g).1 i) (nbA N ((ordA N g).1 i))) a N := repC_fr h1 h40.2 (fun c q1 q2 j => hr58 c j (by omega))
    have hnb' : ∀ j, 0 ≤ j → j < i + 1 → gm_up mm 58 ((ordA N g).1 i) (nbA N ((ordA N g).1 i)) 58 ((ordA N g).1 j) = nbA N ((ordA N g).1 j) := fun j j0 j1 => by
      by_cases q : j = i
      · rw [q, gm_rd_s]
      · rw [gm_rd_i (hinj2 j j0 (by omega))]; exact h2 j j0 (by omega)
    refine gm_hd rfl ?_
    by_cases hs : swA N (n_le N ((ordA N g).1 i) 4)
    · have hs2 : n_sc N 2 = 2 ∧ n_sc N (13 + n_le N ((ordA N g).1 i) 4) = 15 := hs
      have hp2 : (0 : Int) = 0 := rfl
      repeat' (first
        | ((with_reducible refine gm_w0 ?_); refine gm_go rfl ?_)
        | ((with_reducible refine sw_cons (fun hc => ?_) (fun hc => ?_)) <;> try (exfalso; omega))
        | with_reducible refine sw_nil ?_
        | simp (disch := omega) only [w32_id, Int.tdiv_eq_ediv_of_nonneg, Int.tmod_eq_emod_of_nonneg, Int.add_zero]
        | simp only [hm2, hmo, hmo2, er4, er1, er0, erl]
        | ((with_reducible refine is_v (p' := k_X2_nearPorts) ?_ ?_); (exact rfl); refine gm_vt2 (Nat.le_of_ble_eq_true rfl) (by first | assumption | exact N_is' hS (by assumption) | exact N_wis' hS (by assumption) | exact C_629' hS | exact N_lis' hS (by assumption) (by omega) (by omega) | exact C_0' hS | exact C_1' hS | exact C_54' hS | exact C_64' hS | exact C_116' hS) (sp_X2_nearPortsR hS ha h1 hw hob.1 (by omega)) ?_; dsimp only [gm_ps])
        | ((with_reducible refine st_getI ?_ ?_); first | assumption | exact N_is' hS (by assumption) | exact N_wis' hS (by assumption) | exact C_629' hS | exact N_lis' hS (by assumption) (by omega) (by omega) | exact C_0' hS | exact C_1' hS | exact C_54' hS | exact C_64' hS | exact C_116' hS)
        | ((with_reducible apply st_getR); (first | assumption | exact N_is' hS (by assumption) | exact N_wis' hS (by assumption) | exact C_629' hS | exact N_lis' hS (by assumption) (by omega) (by omega) | exact C_0' hS | exact C_1' hS | exact C_54' hS | exact C_64' hS | exact C_116' hS); (first | assumption | exact N_web' hS (by assumption) | exact N_letters' hS (by assumption) | exact N_golden' hS (by assumption) | exact N_logged' hS (by assumption) | exact N_open' hS (by assumption) | exact N_last' hS (by assumption) | exact N_beyond' hS (by assumption) | exact N_apart' hS (by assumption) | exact N_steps' hS (by assumption) | exact N_reached' hS (by assumption) | exact F_0_0' hS | exact F_0_1' hS | exact F_0_2' hS | exact F_0_3' hS | exact F_0_4' hS | exact F_0_5' hS | exact F_1_0' hS | exact F_54_0' hS | exact F_54_1' hS | exact F_54_4' hS | exact F_54_5' hS | exact F_54_6' hS | exact F_54_7' hS | exact F_54_8' hS | exact F_54_9' hS | exact F_54_10' hS | exact F_64_0' hS | exact F_64_1' hS | exact F_116_0' hS | exact F_629_0' hS | exact F_629_1' hS | exact F_629_2' hS | exact F_629_4' hS | exact F_629_5' hS | exact F_629_6' hS | exact F_629_15' hS | exact F_629_16' hS | exact F_629_18' hS | exact F_629_19' hS))
        | ((with_reducible refine st_putI ?_ ?_); first | assumption | exact N_is' hS (by assumption) | exact N_wis' hS (by assumption) | exact C_629' hS | exact N_lis' hS (by assumption) (by omega) (by omega) | exact C_0' hS | exact C_1' hS | exact C_54' hS | exact C_64' hS | exact C_116' hS)
        | ((with_reducible refine st_iald ?_ ?_); refine in_of (by first | assumption | exact N_a2' hS (by assumption) | exact N_a3' hS (by assumption) | exact N_a4' hS (by assumption) | exact N_a5' hS (by assumption) | exact N_a6' hS (by assumption) | exact N_a7' hS (by assumption) | exact N_a9' hS (by assumption) | exact N_a10' hS (by assumption) | exact A_630' hS | exact A_631' hS | exact A_632' hS | exact A_633' hS | exact A_635' hS | exact A_636' hS | exact A_637' hS | exact A_638' hS | exact A_639' hS | exact A_2' hS | exact A_55' hS | exact A_56' hS | exact A_57' hS | exact A_58' hS | exact A_59' hS | exact A_60' hS | exact A_61' hS | exact A_62' hS | exact A_63' hS) (by omega) (by omega))
        | ((with_reducible refine st_iast ?_ ?_); refine in_of (by first | assumption | exact N_a2' hS (by assumption) | exact N_a3' hS (by assumption) | exact N_a4' hS (by assumption) | exact N_a5' hS (by assumption) | exact N_a6' hS (by assumption) | exact N_a7' hS (by assumption) | exact N_a9' hS (by assumption) | exact N_a10' hS (by assumption) | exact A_630' hS | exact A_631' hS | exact A_632' hS | exact A_633' hS | exact A_635' hS | exact A_636' hS | exact A_637' hS | exact A_638' hS | exact A_639' hS | exact A_2' hS | exact A_55' hS | exact A_56' hS | exact A_57' hS | exact A_58' hS | exact A_59' hS | exact A_60' hS | exact A_61' hS | exact A_62' hS | exact A_63' hS) (by omega) (by omega))
        | ((with_reducible apply st_aald); (exact N_lin' hS (by assumption) (by omega) (by omega)); (exact N_lrf' hS (by assumption) (by omega) (by omega)))
        | ((with_reducible refine st_icmp (fun hc => ?_) (fun hc => ?_)) <;> (try dsimp only [gm_c] at hc) <;> (try simp only [gm_cmp_lt, gm_cmp_gt, gm_cmp_le, gm_cmp_ge, ite_0, ite_1, ne_eq, Classical.not_not] at hc) <;> try (first | (exfalso; omega) | exact absurd trivial hc))
        | ((with_reducible refine st_if (fun hc => ?_) (fun hc => ?_)) <;> (try dsimp only [gm_c] at hc) <;> (try simp only [gm_cmp_lt, gm_cmp_gt, gm_cmp_le, gm_cmp_ge, ite_0, ite_1, ne_eq, Classical.not_not] at hc) <;> try (first | (exfalso; omega) | exact absurd trivial hc))
        | ((with_reducible refine st_ret ?_ ?_); first | exact Or.inl rfl | exact Or.inr (Or.inl rfl) | exact Or.inr (Or.inr rfl))
        | ((with_reducible refine is_s (p' := 998) ?_ ?_); (exact rfl); refine st_copy (by first | assumption | exact N_a2' hS (by assumption) | exact N_a3' hS (by assumption) | exact N_a4' hS (by assumption) | exact N_a5' hS (by assumption) | exact N_a6' hS (by assumption) | exact N_a7' hS (by assumption) | exact N_a9' hS (by assumption) | exact N_a10' hS (by assumption) | exact A_630' hS | exact A_631' hS | exact A_632' hS | exact A_633' hS | exact A_635' hS | exact A_636' hS | exact A_637' hS | exact A_638' hS | exact A_639' hS | exact A_2' hS | exact A_55' hS | exact A_56' hS | exact A_57' hS | exact A_58' hS | exact A_59' hS | exact A_60' hS | exact A_61' hS | exact A_62' hS | exact A_63' hS) (by first | assumption | exact N_a2' hS (by assumption) | exact N_a3' hS (by assumption) | exact N_a4' hS (by assumption) | exact N_a5' hS (by assumption) | exact N_a6' hS (by assumption) | exact N_a7' hS (by assumption) | exact N_a9' hS (by assumption) | exact N_a10' hS (by assumption) | exact A_630' hS | exact A_631' hS | exact A_632' hS | exact A_633' hS | exact A_635' hS | exact A_636' hS | exact A_637' hS | exact A_638' hS | exact A_639' hS | exact A_2' hS | exact A_55' hS | exact A_56' hS | exact A_57' hS | exact A_58' hS | exact A_59' hS | exact A_60' hS | exact A_61' hS | exact A_62' hS | exact A_63' hS) (by omega) (by omega) (by omega) (by omega) (by omega) (Nat.le_of_ble_eq_true rfl) gm_999s ?_)
        | ((with_reducible refine is_s (p' := 997) ?_ ?_); (exact rfl); refine st_max (Nat.le_of_ble_eq_true rfl) gm_999s ?_)
        | ((with_reducible refine is_s (p' := 996) ?_ ?_); (exact rfl); refine st_min (Nat.le_of_ble_eq_true rfl) gm_999s ?_)
        | ((with_reducible apply st_alen); (refine is_of_ar (by first | assumption | exact N_a2' hS (by assumption) | exact N_a3' hS (by assumption) | exact N_a4' hS (by assumption) | exact N_a5' hS (by assumption) | exact N_a6' hS (by assumption) | exact N_a7' hS (by assumption) | exact N_a9' hS (by assumption) | exact N_a10' hS (by assumption) | exact A_630' hS | exact A_631' hS | exact A_632' hS | exact A_633' hS | exact A_635' hS | exact A_636' hS | exact A_637' hS | exact A_638' hS | exact A_639' hS | exact A_2' hS | exact A_55' hS | exact A_56' hS | exact A_57' hS | exact A_58' hS | exact A_59' hS | exact A_60' hS | exact A_61' hS | exact A_62' hS | exact A_63' hS)); (exact len_of_ar (by first | assumption | exact N_a2' hS (by assumption) | exact N_a3' hS (by assumption) | exact N_a4' hS (by assumption) | exact N_a5' hS (by assumption) | exact N_a6' hS (by assumption) | exact N_a7' hS (by assumption) | exact N_a9' hS (by assumption) | exact N_a10' hS (by assumption) | exact A_630' hS | exact A_631' hS | exact A_632' hS | exact A_633' hS | exact A_635' hS | exact A_636' hS | exact A_637' hS | exact A_638' hS | exact A_639' hS | exact A_2' hS | exact A_55' hS | exact A_56' hS | exact A_57' hS | exact A_58' hS | exact A_59' hS | exact A_60' hS | exact A_61' hS | exact A_62' hS | exact A_63' hS)))
        | ((with_reducible refine st_rem ?_ ?_); first | decide | omega)
        | ((with_reducible refine st_div ?_ ?_); first | decide | omega)
        | ((with_reducible refine is_v (p' := k_X5_takePort) ?_ ?_); (exact rfl); refine gm_vt3 (Nat.le_of_ble_eq_true rfl) (by first | assumption | exact N_is' hS (by assumption) | exact N_wis' hS (by assumption) | exact C_629' hS | exact N_lis' hS (by assumption) (by omega) (by omega) | exact C_0' hS | exact C_1' hS | exact C_54' hS | exact C_64' hS | exact C_116' hS) (sp_X5_takePort hS hro ha (by omega) (by omega) hcm2 hat2 hp2) ?_; dsimp only [gm_ps])
        | ((with_reducible refine is_v (p' := k_X6_swapsAt) ?_ ?_); (exact rfl); refine gm_vt2 (Nat.le_of_ble_eq_true rfl) (by first | assumption | exact N_is' hS (by assumption) | exact N_wis' hS (by assumption) | exact C_629' hS | exact N_lis' hS (by assumption) (by omega) (by omega) | exact C_0' hS | exact C_1' hS | exact C_54' hS | exact C_64' hS | exact C_116' hS) (sp_X6_swapsAt hS ha (by omega)) ?_; dsimp only [gm_ps])
        | dsimp only [gm_step, gm_c, gm_s1, gm_s2, gm_kl, gm_ps, gm_wd, gm_w1, List.getElem?_cons_succ, List.getElem?_cons_zero, List.set_cons_succ, List.set_cons_zero, List.length_cons, List.length_nil, List.drop_succ_cons, List.drop_zero, List.take_succ_cons, List.take_zero, Nat.reduceAdd, Nat.reduceSub, Nat.reduceLeDiff])
      all_goals (
        refine ih _ hnb' (fun v v0 v1 hv => ?_) (fun k k0 k1 => ?_) (fun c j q1 q2 q3 => by rw [hr58 c j q2]; exact h5 c j q1 q2 q3)
        · rw [hr58 _ _ (by omega), h3 v v0 v1 hv, lfA_s hi1, if_neg (fun z => hv (by rw [← z]; exact hs))]
        · rw [hr58 _ _ (by omega), h4 k k0 k1]
          by_cases q : (0 ≤ psO (ordA N g).1 (ordA N g).2 k ∧ psO (ordA N g).1 (ordA N g).2 k < i) ∧ ¬ swA N (n_le N k 4)
          · rw [if_pos q, if_pos ⟨by omega, q.2⟩]
          · rw [if_neg q, if_neg]
            intro z
            by_cases y : psO (ordA N g).1 (ordA N g).2 k = i
            · have := hinj k (by omega) y
              rw [this] at z
              exact z.2 hs
            · exact q ⟨by omega, z.2⟩)
    · have hs2 : ¬ (n_sc N 2 = 2 ∧ n_sc N (13 + n_le N ((ordA N g).1 i) 4) = 15) := hs
      have hlf := lfA_ok ho hw hat1 (hrm _ hat1.1 hat1.2) hi1 (by omega)
      have hpa := lfA_pk ho hw hat1 (hrm _ hat1.1 hat1.2) hi1 hi2 rfl
      have hpe : tpP (gm_up mm 58 ((ordA N g).1 i) (nbA N ((ordA N g).1 i))) a ((ordA N g).1 i) = pkA N ((ordA N g).1 i) (lfA N (ordA N g).1 (n_le N ((ordA N g).1 i) 4) i) := pick_eq hrep2 hw hob.1 hob.2 gm_rd_s (by rw [hr58 _ _ (by omega)]; exact h3 _ hat1.1 hat1.2 hs) hlf.1
      have hp2 : tpP (gm_up mm 58 ((ordA N g).1 i) (nbA N ((ordA N g).1 i))) a ((ordA N g).1 i) ≠ -1000000 := by rw [hpe]; omega
      have hgo : goA N (ordA N g).1 (ordA N g).2 ((ordA N g).1 i) = pkA N ((ordA N g).1 i) (lfA N (ordA N g).1 (n_le N ((ordA N g).1 i) 4) i) := by
        unfold goA
        rw [if_pos hob, if_neg hs, hpsi]
      repeat' (first
        | ((with_reducible refine gm_w0 ?_); refine gm_go rfl ?_)
        | ((with_reducible refine sw_cons (fun hc => ?_) (fun hc => ?_)) <;> try (exfalso; omega))
        | with_reducible refine sw_nil ?_
        | simp (disch := omega) only [w32_id, Int.tdiv_eq_ediv_of_nonneg, Int.tmod_eq_emod_of_nonneg, Int.add_zero]
        | simp only [hm2, hmo, hmo2, er4, er1, er0, erl]
        | ((with_reducible refine is_v (p' := k_X2_nearPorts) ?_ ?_); (exact rfl); refine gm_vt2 (Nat.le_of_ble_eq_true rfl) (by first | assumption | exact N_is' hS (by assumption) | exact N_wis' hS (by assumption) | exact C_629' hS | exact N_lis' hS (by assumption) (by omega) (by omega) | exact C_0' hS | exact C_1' hS | exact C_54' hS | exact C_64' hS | exact C_116' hS) (sp_X2_nearPortsR hS ha h1 hw hob.1 (by omega)) ?_; dsimp only [gm_ps])
        | ((with_reducible refine st_getI ?_ ?_); first | assumption | exact N_is' hS (by assumption) | exact N_wis' hS (by assumption) | exact C_629' hS | exact N_lis' hS (by assumption) (by omega) (by omega) | exact C_0' hS | exact C_1' hS | exact C_54' hS | exact C_64' hS | exact C_116' hS)
        | ((with_reducible apply st_getR); (first | assumption | exact N_is' hS (by assumption) | exact N_wis' hS (by assumption) | exact C_629' hS | exact N_lis' hS (by assumption) (by omega) (by omega) | exact C_0' hS | exact C_1' hS | exact C_54' hS | exact C_64' hS | exact C_116' hS); (first | assumption | exact N_web' hS (by assumption) | exact N_letters' hS (by assumption) | exact N_golden' hS (by assumption) | exact N_logged' hS (by assumption) | exact N_open' hS (by assumption) | exact N_last' hS (by assumption) | exact N_beyond' hS (by assumption) | exact N_apart' hS (by assumption) | exact N_steps' hS (by assumption) | exact N_reached' hS (by assumption) | exact F_0_0' hS | exact F_0_1' hS | exact F_0_2' hS | exact F_0_3' hS | exact F_0_4' hS | exact F_0_5' hS | exact F_1_0' hS | exact F_54_0' hS | exact F_54_1' hS | exact F_54_4' hS | exact F_54_5' hS | exact F_54_6' hS | exact F_54_7' hS | exact F_54_8' hS | exact F_54_9' hS | exact F_54_10' hS | exact F_64_0' hS | exact F_64_1' hS | exact F_116_0' hS | exact F_629_0' hS | exact F_629_1' hS | exact F_629_2' hS | exact F_629_4' hS | exact F_629_5' hS | exact F_629_6' hS | exact F_629_15' hS | exact F_629_16' hS | exact F_629_18' hS | exact F_629_19' hS))
        | ((with_reducible refine st_putI ?_ ?_); first | assumption | exact N_is' hS (by assumption) | exact N_wis' hS (by assumption) | exact C_629' hS | exact N_lis' hS (by assumption) (by omega) (by omega) | exact C_0' hS | exact C_1' hS | exact C_54' hS | exact C_64' hS | exact C_116' hS)
        | ((with_reducible refine st_iald ?_ ?_); refine in_of (by first | assumption | exact N_a2' hS (by assumption) | exact N_a3' hS (by assumption) | exact N_a4' hS (by assumption) | exact N_a5' hS (by assumption) | exact N_a6' hS (by assumption) | exact N_a7' hS (by assumption) | exact N_a9' hS (by assumption) | exact N_a10' hS (by assumption) | exact A_630' hS | exact A_631' hS | exact A_632' hS | exact A_633' hS | exact A_635' hS | exact A_636' hS | exact A_637' hS | exact A_638' hS | exact A_639' hS | exact A_2' hS | exact A_55' hS | exact A_56' hS | exact A_57' hS | exact A_58' hS | exact A_59' hS | exact A_60' hS | exact A_61' hS | exact A_62' hS | exact A_63' hS) (by omega) (by omega))
        | ((with_reducible refine st_iast ?_ ?_); refine in_of (by first | assumption | exact N_a2' hS (by assumption) | exact N_a3' hS (by assumption) | exact N_a4' hS (by assumption) | exact N_a5' hS (by assumption) | exact N_a6' hS (by assumption) | exact N_a7' hS (by assumption) | exact N_a9' hS (by assumption) | exact N_a10' hS (by assumption) | exact A_630' hS | exact A_631' hS | exact A_632' hS | exact A_633' hS | exact A_635' hS | exact A_636' hS | exact A_637' hS | exact A_638' hS | exact A_639' hS | exact A_2' hS | exact A_55' hS | exact A_56' hS | exact A_57' hS | exact A_58' hS | exact A_59' hS | exact A_60' hS | exact A_61' hS | exact A_62' hS | exact A_63' hS) (by omega) (by omega))
        | ((with_reducible apply st_aald); (exact N_lin' hS (by assumption) (by omega) (by omega)); (exact N_lrf' hS (by assumption) (by omega) (by omega)))
        | ((with_reducible refine st_icmp (fun hc => ?_) (fun hc => ?_)) <;> (try dsimp only [gm_c] at hc) <;> (try simp only [gm_cmp_lt, gm_cmp_gt, gm_cmp_le, gm_cmp_ge, ite_0, ite_1, ne_eq, Classical.not_not] at hc) <;> try (first | (exfalso; omega) | exact absurd trivial hc))
        | ((with_reducible refine st_if (fun hc => ?_) (fun hc => ?_)) <;> (try dsimp only [gm_c] at hc) <;> (try simp only [gm_cmp_lt, gm_cmp_gt, gm_cmp_le, gm_cmp_ge, ite_0, ite_1, ne_eq, Classical.not_not] at hc) <;> try (first | (exfalso; omega) | exact absurd trivial hc))
        | ((with_reducible refine st_ret ?_ ?_); first | exact Or.inl rfl | exact Or.inr (Or.inl rfl) | exact Or.inr (Or.inr rfl))
        | ((with_reducible refine is_s (p' := 998) ?_ ?_); (exact rfl); refine st_copy (by first | assumption | exact N_a2' hS (by assumption) | exact N_a3' hS (by assumption) | exact N_a4' hS (by assumption) | exact N_a5' hS (by assumption) | exact N_a6' hS (by assumption) | exact N_a7' hS (by assumption) | exact N_a9' hS (by assumption) | exact N_a10' hS (by assumption) | exact A_630' hS | exact A_631' hS | exact A_632' hS | exact A_633' hS | exact A_635' hS | exact A_636' hS | exact A_637' hS | exact A_638' hS | exact A_639' hS | exact A_2' hS | exact A_55' hS | exact A_56' hS | exact A_57' hS | exact A_58' hS | exact A_59' hS | exact A_60' hS | exact A_61' hS | exact A_62' hS | exact A_63' hS) (by first | assumption | exact N_a2' hS (by assumption) | exact N_a3' hS (by assumption) | exact N_a4' hS (by assumption) | exact N_a5' hS (by assumption) | exact N_a6' hS (by assumption) | exact N_a7' hS (by assumption) | exact N_a9' hS (by assumption) | exact N_a10' hS (by assumption) | exact A_630' hS | exact A_631' hS | exact A_632' hS | exact A_633' hS | exact A_635' hS | exact A_636' hS | exact A_637' hS | exact A_638' hS | exact A_639' hS | exact A_2' hS | exact A_55' hS | exact A_56' hS | exact A_57' hS | exact A_58' hS | exact A_59' hS | exact A_60' hS | exact A_61' hS | exact A_62' hS | exact A_63' hS) (by omega) (by omega) (by omega) (by omega) (by omega) (Nat.le_of_ble_eq_true rfl) gm_999s ?_)
        | ((with_reducible refine is_s (p' := 997) ?_ ?_); (exact rfl); refine st_max (Nat.le_of_ble_eq_true rfl) gm_999s ?_)
        | ((with_reducible refine is_s (p' := 996) ?_ ?_); (exact rfl); refine st_min (Nat.le_of_ble_eq_true rfl) gm_999s ?_)
        | ((with_reducible apply st_alen); (refine is_of_ar (by first | assumption | exact N_a2' hS (by assumption) | exact N_a3' hS (by assumption) | exact N_a4' hS (by assumption) | exact N_a5' hS (by assumption) | exact N_a6' hS (by assumption) | exact N_a7' hS (by assumption) | exact N_a9' hS (by assumption) | exact N_a10' hS (by assumption) | exact A_630' hS | exact A_631' hS | exact A_632' hS | exact A_633' hS | exact A_635' hS | exact A_636' hS | exact A_637' hS | exact A_638' hS | exact A_639' hS | exact A_2' hS | exact A_55' hS | exact A_56' hS | exact A_57' hS | exact A_58' hS | exact A_59' hS | exact A_60' hS | exact A_61' hS | exact A_62' hS | exact A_63' hS)); (exact len_of_ar (by first | assumption | exact N_a2' hS (by assumption) | exact N_a3' hS (by assumption) | exact N_a4' hS (by assumption) | exact N_a5' hS (by assumption) | exact N_a6' hS (by assumption) | exact N_a7' hS (by assumption) | exact N_a9' hS (by assumption) | exact N_a10' hS (by assumption) | exact A_630' hS | exact A_631' hS | exact A_632' hS | exact A_633' hS | exact A_635' hS | exact A_636' hS | exact A_637' hS | exact A_638' hS | exact A_639' hS | exact A_2' hS | exact A_55' hS | exact A_56' hS | exact A_57' hS | exact A_58' hS | exact A_59' hS | exact A_60' hS | exact A_61' hS | exact A_62' hS | exact A_63' hS)))
        | ((with_reducible refine st_rem ?_ ?_); first | decide | omega)
        | ((with_reducible refine st_div ?_ ?_); first | decide | omega)
        | ((with_reducible refine is_v (p' := k_X5_takePort) ?_ ?_); (exact rfl); refine gm_vt3 (Nat.le_of_ble_eq_true rfl) (by first | assumption | exact N_is' hS (by assumption) | exact N_wis' hS (by assumption) | exact C_629' hS | exact N_lis' hS (by assumption) (by omega) (by omega) | exact C_0' hS | exact C_1' hS | exact C_54' hS | exact C_64' hS | exact C_116' hS) (sp_X5_takePort hS hro ha (by omega) (by omega) hcm2 hat2 hp2) ?_; dsimp only [gm_ps])
        | ((with_reducible refine is_v (p' := k_X6_swapsAt) ?_ ?_); (exact rfl); refine gm_vt2 (Nat.le_of_ble_eq_true rfl) (by first | assumption | exact N_is' hS (by assumption) | exact N_wis' hS (by assumption) | exact C_629' hS | exact N_lis' hS (by assumption) (by omega) (by omega) | exact C_0' hS | exact C_1' hS | exact C_54' hS | exact C_64' hS | exact C_116' hS) (sp_X6_swapsAt hS ha (by omega)) ?_; dsimp only [gm_ps])
        | dsimp only [gm_step, gm_c, gm_s1, gm_s2, gm_kl, gm_ps, gm_wd, gm_w1, List.getElem?_cons_succ, List.getElem?_cons_zero, List.set_cons_succ, List.set_cons_zero, List.length_cons, List.length_nil, List.drop_succ_cons, List.drop_zero, List.take_succ_cons, List.take_zero, Nat.reduceAdd, Nat.reduceSub, Nat.reduceLeDiff])
      all_goals (
        have hM : tpM (gm_up mm 58 ((ordA N g).1 i) (nbA N ((ordA N g).1 i))) a ((ordA N g).1 i) = gm_up (gm_up (gm_up mm 58 ((ordA N g).1 i) (nbA N ((ordA N g).1 i))) 56 ((ordA N g).1 i) (goA N (ordA N g).1 (ordA N g).2 ((ordA N g).1 i))) 61 (n_le N ((ordA N g).1 i) 4) (lfA N (ordA N g).1 (n_le N ((ordA N g).1 i) 4) (i + 1)) := by
          unfold tpM
          rw [hpe, er4, hgo, lfA_s hi1, if_pos rfl, hr58 _ _ (by omega), h3 _ hat1.1 hat1.2 hs]
        rw [hM]
        refine ih _ (fun j j0 j1 => by rw [gm_rd_a (by omega), gm_rd_a (by omega)]; exact hnb' j j0 j1) (fun v v0 v1 hv => ?_) (fun k k0 k1 => ?_) (fun c j q1 q2 q3 => by rw [gm_rd_a q3, gm_rd_a q1, hr58 c j q2]; exact h5 c j q1 q2 q3)
        · by_cases q : v = n_le N ((ordA N g).1 i) 4
          · rw [q, gm_rd_s]
          · rw [gm_rd_i q, gm_rd_a (by omega), hr58 _ _ (by omega), h3 v v0 v1 hv, lfA_s hi1, if_neg (fun z => q z.symm)]
        · rw [gm_rd_a (by omega)]
          by_cases y : k = (ordA N g).1 i
          · rw [y, gm_rd_s, if_pos ⟨by omega, hs⟩]
          · rw [gm_rd_i y, hr58 _ _ (by omega), h4 k k0 k1]
            by_cases q : (0 ≤ psO (ordA N g).1 (ordA N g).2 k ∧ psO (ordA N g).1 (ordA N g).2 k < i) ∧ ¬ swA N (n_le N k 4)
            · rw [if_pos q, if_pos ⟨by omega, q.2⟩]
            · rw [if_neg q, if_neg]
              intro z
              by_cases w : psO (ordA N g).1 (ordA N g).2 k = i
              · exact y (hinj k (by omega) w)
              · exact q ⟨by omega, z.2⟩)
  · intro v v0 v1 _
    show gm_cp m (a + 2) 0 61 0 16 61 v = n_sc N (13 + v)
    unfold gm_cp
    rw [if_pos ⟨rfl, v0, by omega⟩, show (0 : Int) + (v - 0) = v by omega]
    exact (h.2.1 v v0 v1).1
  · intro k k0 k1
    show gm_cp m (a + 2) 0 61 0 16 56 k = _
    unfold gm_cp
    rw [if_neg (by omega), if_neg (by omega)]
    exact hg0 k k0 k1
  · intro c j q1 q2 q3
    show gm_cp m (a + 2) 0 61 0 16 c j = _
    unfold gm_cp
    rw [if_neg (fun z => q3 z.1)]
