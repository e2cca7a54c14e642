/-! ===== step 6 and the whole TURN, in the class ===== -/
theorem wkG_cg {E E' : Int → Int → Bool} {nx : Int → Int → Int} {D v : Int} (hc : GRC E nx D) (he : ∀ u p, (0 ≤ u ∧ u < D) → (0 ≤ p ∧ p < 4) → E u p = E' u p) : ∀ (k : Nat) (u : Int), (0 ≤ u ∧ u < D) → wkG E nx k u v = wkG E' nx k u v := by
  intro k
  induction k with
  | zero => intro u _; rfl
  | succ k ih =>
    intro u hu
    have : wkG E nx (k + 1) u v = true ↔ wkG E' nx (k + 1) u v = true := by
      rw [wkG_s, wkG_s]
      constructor
      · rintro ⟨p, hp, h1, h2⟩
        exact ⟨p, hp, by rw [← he u p hu hp]; exact h1, by rw [← ih _ (hc u p hu hp h1)]; exact h2⟩
      · rintro ⟨p, hp, h1, h2⟩
        have h1 : E u p = true := by rw [he u p hu hp]; exact h1
        exact ⟨p, hp, h1, by rw [ih _ (hc u p hu hp h1)]; exact h2⟩
    cases a : wkG E nx (k + 1) u v with
    | true => exact (this.mp a).symm
    | false =>
      cases b : wkG E' nx (k + 1) u v with
      | false => rfl
      | true => rw [this.mpr b] at a; cases a
theorem dG_cg {E E' : Int → Int → Bool} {nx : Int → Int → Int} {D u v : Int} (hc : GRC E nx D) (he : ∀ u p, (0 ≤ u ∧ u < D) → (0 ≤ p ∧ p < 4) → E u p = E' u p) (hu : 0 ≤ u ∧ u < D) : dG E nx u v = dG E' nx u v := by
  unfold dG
  rw [nthT_R, nthT_R]
  refine nthT_cg _ _ _ (fun j _ _ => ?_) (fun _ _ _ _ => rfl)
  rw [wkG_cg hc he _ u hu]
theorem n_dst_loc {N M : NS} {T u v : Int} (hw : WF N T) (h0 : n_sc M 0 = n_sc N 0) (h1 : n_sc M 1 = n_sc N 1) (h2 : ∀ v, 0 ≤ v → v < nd N → n_sc M (13 + v) = n_sc N (13 + v)) (hu : 0 ≤ u ∧ u < nd N) : n_dst M u v = n_dst N u v := by
  rw [n_dst_G, n_dst_G]
  have e : byA M = byA N := by
    funext v p
    show byd (n_sc M 0) (n_sc M 1) v p = byd (n_sc N 0) (n_sc N 1) v p
    rw [h0, h1]
  rw [e]
  exact (dG_cg (N_GRC hw) (fun u p hu _ => by show hasB (n_sc N (13 + u)) p = hasB (n_sc M (13 + u)) p; rw [h2 u hu.1 hu.2]) hu).symm
theorem dA_loc {N M : NS} {T u v : Int} (hw : WF N T) (h0 : n_sc M 0 = n_sc N 0) (h1 : n_sc M 1 = n_sc N 1) (h2 : ∀ v, 0 ≤ v → v < nd N → n_sc M (13 + v) = n_sc N (13 + v)) (hu : 0 ≤ u ∧ u < nd N) : dA M u v = dA N u v := by
  unfold dA
  rw [n_dst_loc hw h0 h1 h2 hu]
theorem repC_tw {m m' : gm_M} {a : Int} {N M : NS} (h : repC m a N) (h0 : n_sc M 0 = n_sc N 0) (h1 : n_sc M 1 = n_sc N 1) (h2 : n_sc M 2 = n_sc N 2) (h3 : n_sc M 3 = n_sc N 3) (h5 : n_sc M 5 = n_sc N 5) (hL : ∀ v, 0 ≤ v → v < nd N → n_sc M (13 + v) = n_sc N (13 + v) ∧ n_sc M (29 + v) = n_sc N (29 + v)) (hd : ∀ u v, (0 ≤ u ∧ u < nd N) → n_dst M u v = n_dst N u v) (hg : n_gd M = n_gd N) (hl : n_lg M = n_lg N) (hle : n_le M = n_le N) (e4 : m' a 4 = n_sc M 4) (e : ∀ c j, ¬ (c = a ∧ j = 4) → m' c j = m c j) : repC m' a M := by
  obtain ⟨⟨a1, a2, a3, a4, a5⟩, a6, a7, a8, a9, a10, a11⟩ := h
  have e9 : m' (a + 9) = m (a + 9) := funext (fun j => e _ j (by omega))
  have e10 : m' (a + 10) = m (a + 10) := funext (fun j => e _ j (by omega))
  unfold repC
  rw [hg, hl, hle]
  refine ⟨⟨?_, ?_, ?_, ?_, ?_⟩, fun v q1 q2 => ?_, fun v p q1 q2 q3 q4 => ?_, fun u v q1 q2 q3 q4 => ?_, ?_, ?_, fun k q1 q2 => ?_⟩
  · rw [e _ _ (by omega), h0, h1]; exact a1
  · rw [e _ _ (by omega), h2]; exact a2
  · rw [e _ _ (by omega), h3]; exact a3
  · exact e4
  · rw [e _ _ (by omega), h5]; exact a5
  · rw [h0, h1] at q2
    rw [e _ _ (by omega), e _ _ (by omega), (hL v q1 q2).1, (hL v q1 q2).2]; exact a6 v q1 q2
  · rw [h0, h1] at q2
    rw [e _ _ (by omega), h0, h1, h2]; exact a7 v p q1 q2 q3 q4
  · rw [h0, h1] at q2 q4
    rw [e _ _ (by omega), a8 u v q1 q2 q3 q4, hd u v ⟨q1, q2⟩]
  · rw [e10, e _ _ (by omega)]; exact a9
  · rw [e9, e _ _ (by omega)]; exact a10
  · rw [h5] at q2
    rw [show m' (a + 11 + k) = m (a + 11 + k) from funext (fun j => e _ j (by omega))]; exact a11 k q1 q2
def mvQ (N : NS) (G O : Int → Int) (n i : Int) : NS := mvS N (fun k => flP N k && decide (psO O n k < i)) G (n_sc N 4)
theorem mvQ_sc {N : NS} {G O : Int → Int} {n i : Int} : n_sc (mvQ N G O n i) = n_sc N := mvS_sc
theorem mvQ_lee {N : NS} {G O : Int → Int} {n i k f : Int} : n_le (mvQ N G O n i) k f = if (flP N k && decide (psO O n k < i)) = true then mvU N G k f else n_le N k f := rfl
theorem fl_ps {N : NS} {O : Int → Int} {n k : Int} (h : ORD N O n) (hf : flP N k = true) : (0 ≤ psO O n k ∧ psO O n k < n) ∧ O (psO O n k) = k := by
  have q := of_decide_eq_true hf
  rcases psO_c (O := O) h.1.1 k with ⟨-, z⟩ | z
  · obtain ⟨i, hi, e⟩ := h.2.2.2 k q.1.1 q.1.2 q.2
    exact absurd e (z i hi.1 hi.2)
  · exact z
theorem NS_eta {N M : NS} (h1 : n_sc M = n_sc N) (h2 : n_gd M = n_gd N) (h3 : n_lg M = n_lg N) (h4 : n_le M = n_le N) : M = N := by
  show (n_sc M, n_gd M, n_lg M, n_le M) = N
  rw [h1, h2, h3, h4]
theorem mvQ_0 {N : NS} {G O : Int → Int} {n : Int} (h : ORD N O n) : mvQ N G O n 0 = N := by
  refine NS_eta mvQ_sc rfl rfl ?_
  funext k f
  rw [mvQ_lee, if_neg]
  rw [Bool.and_eq_true]
  rintro ⟨z1, z2⟩
  have := fl_ps h z1
  have := of_decide_eq_true z2
  omega
theorem mvQ_le {N : NS} {G O : Int → Int} {n i : Int} (h : ORD N O n) (h0 : 0 ≤ i) (h1 : i < n) : n_le (mvQ N G O n i) (O i) = n_le N (O i) := by
  funext f
  rw [mvQ_lee, psO_O h.1.1 h.2.2.1 h0 h1, decide_eq_false (p := i < i) (by omega), Bool.and_false, if_neg (by simp)]
theorem mvQ_next {N : NS} {G O : Int → Int} {n i : Int} (h : ORD N O n) (h0 : 0 ≤ i) (h1 : i < n) : (n_sc (mvQ N G O n i), n_gd (mvQ N G O n i), n_lg (mvQ N G O n i), fun j f => if j = O i then mvU N G (O i) f else n_le (mvQ N G O n i) j f) = mvQ N G O n (i + 1) := by
  have hP : flP N (O i) = true := flP_of (h.2.1 i h0 h1).1 (h.2.1 i h0 h1).2
  have e : (fun (j f : Int) => if j = O i then mvU N G (O i) f else n_le (mvQ N G O n i) j f) = n_le (mvQ N G O n (i + 1)) := by
    funext j f
    rw [mvQ_lee, mvQ_lee]
    by_cases q : j = O i
    · rw [if_pos q, q, hP, psO_O h.1.1 h.2.2.1 h0 h1, decide_eq_true (p := i < i + 1) (by omega), Bool.and_true, if_pos rfl]
    · rw [if_neg q]
      cases z : flP N j with
      | false => rw [Bool.false_and, Bool.false_and]
      | true =>
        have y := fl_ps h z
        have : psO O n j ≠ i := fun w => q (by rw [← y.2, w])
        rw [show (decide (psO O n j < i + 1)) = decide (psO O n j < i) from decide_eq_decide.mpr (by omega)]
  rw [e]
  rfl
theorem mvQ_len {N : NS} {G O : Int → Int} {n : Int} (h : ORD N O n) : n_le (mvA N G) = n_le (mvQ N G O n n) := by
  funext j f
  rw [mvQ_lee, mvA_le]
  cases z : flP N j with
  | false => rw [Bool.false_and]
  | true =>
    have y := fl_ps h z
    rw [decide_eq_true (by omega), Bool.and_true]
set_option maxHeartbeats 4000000 in
theorem sp_X5_moveAll {ro : Nat → Nat × (Int → Int)} {d : Nat} {S : List gm_S} (hS : S = S0) {m : gm_M} {a n T : Int} {N : NS} {O G : Int → Int} (ha : gN a) (h : repC m a N) (hw : WF N T) (hT : n_sc N 4 < T) (hT2 : T ≤ 1000000) (ho : ORD N O n) (hm : ordC m O n) (hg : GOK N G) (hgo : ∀ k, 0 ≤ k → k < n_sc N 5 → n_le N k 3 = 1 → m 56 k = G k) : gm_rel ro (d + 4) k_X5_moveAll [gA 54, gA a] S m (fun r1 m1 => r1 = none ∧ repC m1 a (mvA N G) ∧ (∀ c j, (c < a ∨ a + 51 ≤ c) → m1 c j = m c j)) := by
  refine gm_rel_of mt_X5_moveAll (Nat.le_of_ble_eq_true rfl) ?_
  dsimp only [gm_en, List.length_cons, List.length_nil, List.replicate, List.cons_append, List.nil_append, Nat.reduceAdd, Nat.reduceSub]
  have hat := gN_t ha
  have h40 := hw.1.2.2.2.2.2
  have hn40 := ho.1
  have hnd := WF_nd hw
  repeat' (first
    | ((with_reducible refine gm_w0 ?_); refine gm_go rfl ?_)
    | ((with_reducible refine sw_cons (fun hc => ?_) (fun hc => ?_)) <;> try (exfalso; omega))
    | with_reducible refine sw_nil ?_
    | simp (disch := omega) only [w32_id, Int.tdiv_eq_ediv_of_nonneg, Int.tmod_eq_emod_of_nonneg, Int.add_zero]
    | ((with_reducible refine st_getI ?_ ?_); first | assumption | exact N_is' hS (by assumption) | exact N_wis' hS (by assumption) | exact C_629' hS | exact N_lis' hS (by assumption) (by omega) (by omega) | exact C_0' hS | exact C_1' hS | exact C_54' hS | exact C_64' hS | exact C_116' hS)
    | ((with_reducible apply st_getR); (first | assumption | exact N_is' hS (by assumption) | exact N_wis' hS (by assumption) | exact C_629' hS | exact N_lis' hS (by assumption) (by omega) (by omega) | exact C_0' hS | exact C_1' hS | exact C_54' hS | exact C_64' hS | exact C_116' hS); (first | assumption | exact N_web' hS (by assumption) | exact N_letters' hS (by assumption) | exact N_golden' hS (by assumption) | exact N_logged' hS (by assumption) | exact N_open' hS (by assumption) | exact N_last' hS (by assumption) | exact N_beyond' hS (by assumption) | exact N_apart' hS (by assumption) | exact N_steps' hS (by assumption) | exact N_reached' hS (by assumption) | exact F_0_0' hS | exact F_0_1' hS | exact F_0_2' hS | exact F_0_3' hS | exact F_0_4' hS | exact F_0_5' hS | exact F_1_0' hS | exact F_54_0' hS | exact F_54_1' hS | exact F_54_4' hS | exact F_54_5' hS | exact F_54_6' hS | exact F_54_7' hS | exact F_54_8' hS | exact F_54_9' hS | exact F_54_10' hS | exact F_64_0' hS | exact F_64_1' hS | exact F_116_0' hS | exact F_629_0' hS | exact F_629_1' hS | exact F_629_2' hS | exact F_629_4' hS | exact F_629_5' hS | exact F_629_6' hS | exact F_629_15' hS | exact F_629_16' hS | exact F_629_18' hS | exact F_629_19' hS))
    | ((with_reducible refine st_putI ?_ ?_); first | assumption | exact N_is' hS (by assumption) | exact N_wis' hS (by assumption) | exact C_629' hS | exact N_lis' hS (by assumption) (by omega) (by omega) | exact C_0' hS | exact C_1' hS | exact C_54' hS | exact C_64' hS | exact C_116' hS)
    | ((with_reducible refine st_iald ?_ ?_); refine in_of (by first | assumption | exact N_a2' hS (by assumption) | exact N_a3' hS (by assumption) | exact N_a4' hS (by assumption) | exact N_a5' hS (by assumption) | exact N_a6' hS (by assumption) | exact N_a7' hS (by assumption) | exact N_a9' hS (by assumption) | exact N_a10' hS (by assumption) | exact A_630' hS | exact A_631' hS | exact A_632' hS | exact A_633' hS | exact A_635' hS | exact A_636' hS | exact A_637' hS | exact A_638' hS | exact A_639' hS | exact A_2' hS | exact A_55' hS | exact A_56' hS | exact A_57' hS | exact A_58' hS | exact A_59' hS | exact A_60' hS | exact A_61' hS | exact A_62' hS | exact A_63' hS) (by omega) (by omega))
    | ((with_reducible refine st_iast ?_ ?_); refine in_of (by first | assumption | exact N_a2' hS (by assumption) | exact N_a3' hS (by assumption) | exact N_a4' hS (by assumption) | exact N_a5' hS (by assumption) | exact N_a6' hS (by assumption) | exact N_a7' hS (by assumption) | exact N_a9' hS (by assumption) | exact N_a10' hS (by assumption) | exact A_630' hS | exact A_631' hS | exact A_632' hS | exact A_633' hS | exact A_635' hS | exact A_636' hS | exact A_637' hS | exact A_638' hS | exact A_639' hS | exact A_2' hS | exact A_55' hS | exact A_56' hS | exact A_57' hS | exact A_58' hS | exact A_59' hS | exact A_60' hS | exact A_61' hS | exact A_62' hS | exact A_63' hS) (by omega) (by omega))
    | ((with_reducible apply st_aald); (exact N_lin' hS (by assumption) (by omega) (by omega)); (exact N_lrf' hS (by assumption) (by omega) (by omega)))
    | ((with_reducible refine st_icmp (fun hc => ?_) (fun hc => ?_)) <;> (try dsimp only [gm_c] at hc) <;> (try simp only [gm_cmp_lt, gm_cmp_gt, gm_cmp_le, gm_cmp_ge, ite_0, ite_1, ne_eq, Classical.not_not] at hc) <;> try (first | (exfalso; omega) | exact absurd trivial hc))
    | ((with_reducible refine st_if (fun hc => ?_) (fun hc => ?_)) <;> (try dsimp only [gm_c] at hc) <;> (try simp only [gm_cmp_lt, gm_cmp_gt, gm_cmp_le, gm_cmp_ge, ite_0, ite_1, ne_eq, Classical.not_not] at hc) <;> try (first | (exfalso; omega) | exact absurd trivial hc))
    | ((with_reducible refine st_ret ?_ ?_); first | exact Or.inl rfl | exact Or.inr (Or.inl rfl) | exact Or.inr (Or.inr rfl))
    | ((with_reducible refine is_s (p' := 998) ?_ ?_); (exact rfl); refine st_copy (by first | assumption | exact N_a2' hS (by assumption) | exact N_a3' hS (by assumption) | exact N_a4' hS (by assumption) | exact N_a5' hS (by assumption) | exact N_a6' hS (by assumption) | exact N_a7' hS (by assumption) | exact N_a9' hS (by assumption) | exact N_a10' hS (by assumption) | exact A_630' hS | exact A_631' hS | exact A_632' hS | exact A_633' hS | exact A_635' hS | exact A_636' hS | exact A_637' hS | exact A_638' hS | exact A_639' hS | exact A_2' hS | exact A_55' hS | exact A_56' hS | exact A_57' hS | exact A_58' hS | exact A_59' hS | exact A_60' hS | exact A_61' hS | exact A_62' hS | exact A_63' hS) (by first | assumption | exact N_a2' hS (by assumption) | exact N_a3' hS (by assumption) | exact N_a4' hS (by assumption) | exact N_a5' hS (by assumption) | exact N_a6' hS (by assumption) | exact N_a7' hS (by assumption) | exact N_a9' hS (by assumption) | exact N_a10' hS (by assumption) | exact A_630' hS | exact A_631' hS | exact A_632' hS | exact A_633' hS | exact A_635' hS | exact A_636' hS | exact A_637' hS | exact A_638' hS | exact A_639' hS | exact A_2' hS | exact A_55' hS | exact A_56' hS | exact A_57' hS | exact A_58' hS | exact A_59' hS | exact A_60' hS | exact A_61' hS | exact A_62' hS | exact A_63' hS) (by omega) (by omega) (by omega) (by omega) (by omega) (Nat.le_of_ble_eq_true rfl) gm_999s ?_)
    | ((with_reducible refine is_s (p' := 997) ?_ ?_); (exact rfl); refine st_max (Nat.le_of_ble_eq_true rfl) gm_999s ?_)
    | ((with_reducible refine is_s (p' := 996) ?_ ?_); (exact rfl); refine st_min (Nat.le_of_ble_eq_true rfl) gm_999s ?_)
    | ((with_reducible apply st_alen); (refine is_of_ar (by first | assumption | exact N_a2' hS (by assumption) | exact N_a3' hS (by assumption) | exact N_a4' hS (by assumption) | exact N_a5' hS (by assumption) | exact N_a6' hS (by assumption) | exact N_a7' hS (by assumption) | exact N_a9' hS (by assumption) | exact N_a10' hS (by assumption) | exact A_630' hS | exact A_631' hS | exact A_632' hS | exact A_633' hS | exact A_635' hS | exact A_636' hS | exact A_637' hS | exact A_638' hS | exact A_639' hS | exact A_2' hS | exact A_55' hS | exact A_56' hS | exact A_57' hS | exact A_58' hS | exact A_59' hS | exact A_60' hS | exact A_61' hS | exact A_62' hS | exact A_63' hS)); (exact len_of_ar (by first | assumption | exact N_a2' hS (by assumption) | exact N_a3' hS (by assumption) | exact N_a4' hS (by assumption) | exact N_a5' hS (by assumption) | exact N_a6' hS (by assumption) | exact N_a7' hS (by assumption) | exact N_a9' hS (by assumption) | exact N_a10' hS (by assumption) | exact A_630' hS | exact A_631' hS | exact A_632' hS | exact A_633' hS | exact A_635' hS | exact A_636' hS | exact A_637' hS | exact A_638' hS | exact A_639' hS | exact A_2' hS | exact A_55' hS | exact A_56' hS | exact A_57' hS | exact A_58' hS | exact A_59' hS | exact A_60' hS | exact A_61' hS | exact A_62' hS | exact A_63' hS)))
    | ((with_reducible refine st_rem ?_ ?_); first | decide | omega)
    | ((with_reducible refine st_div ?_ ?_); first | decide | omega)
    | dsimp only [gm_step, gm_c, gm_s1, gm_s2, gm_kl, gm_ps, gm_wd, gm_w1, List.getElem?_cons_succ, List.getElem?_cons_zero, List.set_cons_succ, List.set_cons_zero, List.length_cons, List.length_nil, List.drop_succ_cons, List.drop_zero, List.take_succ_cons, List.take_zero, Nat.reduceAdd, Nat.reduceSub, Nat.reduceLeDiff])
  refine up_loop2 (α := gm_M × gm_V × gm_V × gm_V × gm_V) (P := fun i x => repC x.1 a (mvQ N G O n i) → (∀ c j, (c < a ∨ a + 51 ≤ c) → x.1 c j = m c j) → gm_wp (gm_sem MT ro (d + 3)) ro cd_X5_moveAll (fun r1 S1 m1 => S1 = S ∧ (r1 = none ∧ repC m1 a (mvA N G) ∧ (∀ c j, (c < a ∨ a + 51 ≤ c) → m1 c j = m c j))) 2 [gA 54, gA a, gI i, x.2.1, x.2.2.1, x.2.2.2.1, x.2.2.2.2] [] S x.1) (a := 0) (N := n) (x := (m, none, none, none, none)) ho.1.1 ?_ ?_ ?_ (fun c j _ => rfl)
  · rintro ⟨mm, w3, w4, w5, w6⟩ h1 h3
    dsimp only at h1 h3 ⊢
    have hm2 : mm 54 2 = n := by rw [h3 _ _ (by omega)]; exact hm.1
    have e4n : mm a 4 = n_sc N 4 := by
      have := h1.1.2.2.2.1
      rw [mvQ_sc] at this
      exact this
    have hT0 : 0 ≤ n_sc N 4 := hw.1.2.2.2.2.1.1
    have z : repC (gm_up mm a 4 (n_sc N 4 + 1)) a (mvA N G) := by
      have hq : ∀ u v, n_dst (mvQ N G O n n) u v = n_dst N u v := fun u v => by
        unfold n_dst
        rw [mvQ_sc]
      have hsc : ∀ i : Int, i ≠ 4 → n_sc (mvA N G) i = n_sc (mvQ N G O n n) i := fun i q => by rw [mvA_sc q, mvQ_sc]
      refine repC_tw h1 (hsc 0 (by decide)) (hsc 1 (by decide)) (hsc 2 (by decide)) (hsc 3 (by decide)) (hsc 5 (by decide)) (fun v v0 _ => ⟨hsc _ (by omega), hsc _ (by omega)⟩) (fun u v hu => ?_) rfl rfl (mvQ_len ho) ?_ (fun c j q => ?_)
      · have hu : 0 ≤ u ∧ u < nd N := by
          have : nd (mvQ N G O n n) = nd N := by show n_sc _ 0 * n_sc _ 1 = _; rw [mvQ_sc]
          rw [this] at hu
          exact hu
        rw [hq]
        exact n_dst_loc hw (mvA_sc (by decide)) (mvA_sc (by decide)) (fun x x0 _ => mvA_sc (by omega)) hu
      · rw [gm_rd_s, mvA_4]
      · unfold gm_up
        rw [if_neg q]
    refine gm_hd rfl ?_
    repeat' (first
      | ((with_reducible refine gm_w0 ?_); refine gm_go rfl ?_)
      | ((with_reducible refine sw_cons (fun hc => ?_) (fun hc => ?_)) <;> try (exfalso; omega))
      | with_reducible refine sw_nil ?_
      | simp (disch := omega) only [w32_id, Int.tdiv_eq_ediv_of_nonneg, Int.tmod_eq_emod_of_nonneg, Int.add_zero]
      | simp only [hm2, e4n]
      | ((with_reducible refine st_getI ?_ ?_); first | assumption | exact N_is' hS (by assumption) | exact N_wis' hS (by assumption) | exact C_629' hS | exact N_lis' hS (by assumption) (by omega) (by omega) | exact C_0' hS | exact C_1' hS | exact C_54' hS | exact C_64' hS | exact C_116' hS)
      | ((with_reducible apply st_getR); (first | assumption | exact N_is' hS (by assumption) | exact N_wis' hS (by assumption) | exact C_629' hS | exact N_lis' hS (by assumption) (by omega) (by omega) | exact C_0' hS | exact C_1' hS | exact C_54' hS | exact C_64' hS | exact C_116' hS); (first | assumption | exact N_web' hS (by assumption) | exact N_letters' hS (by assumption) | exact N_golden' hS (by assumption) | exact N_logged' hS (by assumption) | exact N_open' hS (by assumption) | exact N_last' hS (by assumption) | exact N_beyond' hS (by assumption) | exact N_apart' hS (by assumption) | exact N_steps' hS (by assumption) | exact N_reached' hS (by assumption) | exact F_0_0' hS | exact F_0_1' hS | exact F_0_2' hS | exact F_0_3' hS | exact F_0_4' hS | exact F_0_5' hS | exact F_1_0' hS | exact F_54_0' hS | exact F_54_1' hS | exact F_54_4' hS | exact F_54_5' hS | exact F_54_6' hS | exact F_54_7' hS | exact F_54_8' hS | exact F_54_9' hS | exact F_54_10' hS | exact F_64_0' hS | exact F_64_1' hS | exact F_116_0' hS | exact F_629_0' hS | exact F_629_1' hS | exact F_629_2' hS | exact F_629_4' hS | exact F_629_5' hS | exact F_629_6' hS | exact F_629_15' hS | exact F_629_16' hS | exact F_629_18' hS | exact F_629_19' hS))
      | ((with_reducible refine st_putI ?_ ?_); first | assumption | exact N_is' hS (by assumption) | exact N_wis' hS (by assumption) | exact C_629' hS | exact N_lis' hS (by assumption) (by omega) (by omega) | exact C_0' hS | exact C_1' hS | exact C_54' hS | exact C_64' hS | exact C_116' hS)
      | ((with_reducible refine st_iald ?_ ?_); refine in_of (by first | assumption | exact N_a2' hS (by assumption) | exact N_a3' hS (by assumption) | exact N_a4' hS (by assumption) | exact N_a5' hS (by assumption) | exact N_a6' hS (by assumption) | exact N_a7' hS (by assumption) | exact N_a9' hS (by assumption) | exact N_a10' hS (by assumption) | exact A_630' hS | exact A_631' hS | exact A_632' hS | exact A_633' hS | exact A_635' hS | exact A_636' hS | exact A_637' hS | exact A_638' hS | exact A_639' hS | exact A_2' hS | exact A_55' hS | exact A_56' hS | exact A_57' hS | exact A_58' hS | exact A_59' hS | exact A_60' hS | exact A_61' hS | exact A_62' hS | exact A_63' hS) (by omega) (by omega))
      | ((with_reducible refine st_iast ?_ ?_); refine in_of (by first | assumption | exact N_a2' hS (by assumption) | exact N_a3' hS (by assumption) | exact N_a4' hS (by assumption) | exact N_a5' hS (by assumption) | exact N_a6' hS (by assumption) | exact N_a7' hS (by assumption) | exact N_a9' hS (by assumption) | exact N_a10' hS (by assumption) | exact A_630' hS | exact A_631' hS | exact A_632' hS | exact A_633' hS | exact A_635' hS | exact A_636' hS | exact A_637' hS | exact A_638' hS | exact A_639' hS | exact A_2' hS | exact A_55' hS | exact A_56' hS | exact A_57' hS | exact A_58' hS | exact A_59' hS | exact A_60' hS | exact A_61' hS | exact A_62' hS | exact A_63' hS) (by omega) (by omega))
      | ((with_reducible apply st_aald); (exact N_lin' hS (by assumption) (by omega) (by omega)); (exact N_lrf' hS (by assumption) (by omega) (by omega)))
      | ((with_reducible refine st_icmp (fun hc => ?_) (fun hc => ?_)) <;> (try dsimp only [gm_c] at hc) <;> (try simp only [gm_cmp_lt, gm_cmp_gt, gm_cmp_le, gm_cmp_ge, ite_0, ite_1, ne_eq, Classical.not_not] at hc) <;> try (first | (exfalso; omega) | exact absurd trivial hc))
      | ((with_reducible refine st_if (fun hc => ?_) (fun hc => ?_)) <;> (try dsimp only [gm_c] at hc) <;> (try simp only [gm_cmp_lt, gm_cmp_gt, gm_cmp_le, gm_cmp_ge, ite_0, ite_1, ne_eq, Classical.not_not] at hc) <;> try (first | (exfalso; omega) | exact absurd trivial hc))
      | ((with_reducible refine st_ret ?_ ?_); first | exact Or.inl rfl | exact Or.inr (Or.inl rfl) | exact Or.inr (Or.inr rfl))
      | ((with_reducible refine is_s (p' := 998) ?_ ?_); (exact rfl); refine st_copy (by first | assumption | exact N_a2' hS (by assumption) | exact N_a3' hS (by assumption) | exact N_a4' hS (by assumption) | exact N_a5' hS (by assumption) | exact N_a6' hS (by assumption) | exact N_a7' hS (by assumption) | exact N_a9' hS (by assumption) | exact N_a10' hS (by assumption) | exact A_630' hS | exact A_631' hS | exact A_632' hS | exact A_633' hS | exact A_635' hS | exact A_636' hS | exact A_637' hS | exact A_638' hS | exact A_639' hS | exact A_2' hS | exact A_55' hS | exact A_56' hS | exact A_57' hS | exact A_58' hS | exact A_59' hS | exact A_60' hS | exact A_61' hS | exact A_62' hS | exact A_63' hS) (by first | assumption | exact N_a2' hS (by assumption) | exact N_a3' hS (by assumption) | exact N_a4' hS (by assumption) | exact N_a5' hS (by assumption) | exact N_a6' hS (by assumption) | exact N_a7' hS (by assumption) | exact N_a9' hS (by assumption) | exact N_a10' hS (by assumption) | exact A_630' hS | exact A_631' hS | exact A_632' hS | exact A_633' hS | exact A_635' hS | exact A_636' hS | exact A_637' hS | exact A_638' hS | exact A_639' hS | exact A_2' hS | exact A_55' hS | exact A_56' hS | exact A_57' hS | exact A_58' hS | exact A_59' hS | exact A_60' hS | exact A_61' hS | exact A_62' hS | exact A_63' hS) (by omega) (by omega) (by omega) (by omega) (by omega) (Nat.le_of_ble_eq_true rfl) gm_999s ?_)
      | ((with_reducible refine is_s (p' := 997) ?_ ?_); (exact rfl); refine st_max (Nat.le_of_ble_eq_true rfl) gm_999s ?_)
      | ((with_reducible refine is_s (p' := 996) ?_ ?_); (exact rfl); refine st_min (Nat.le_of_ble_eq_true rfl) gm_999s ?_)
      | ((with_reducible apply st_alen); (refine is_of_ar (by first | assumption | exact N_a2' hS (by assumption) | exact N_a3' hS (by assumption) | exact N_a4' hS (by assumption) | exact N_a5' hS (by assumption) | exact N_a6' hS (by assumption) | exact N_a7' hS (by assumption) | exact N_a9' hS (by assumption) | exact N_a10' hS (by assumption) | exact A_630' hS | exact A_631' hS | exact A_632' hS | exact A_633' hS | exact A_635' hS | exact A_636' hS | exact A_637' hS | exact A_638' hS | exact A_639' hS | exact A_2' hS | exact A_55' hS | exact A_56' hS | exact A_57' hS | exact A_58' hS | exact A_59' hS | exact A_60' hS | exact A_61' hS | exact A_62' hS | exact A_63' hS)); (exact len_of_ar (by first | assumption | exact N_a2' hS (by assumption) | exact N_a3' hS (by assumption) | exact N_a4' hS (by assumption) | exact N_a5' hS (by assumption) | exact N_a6' hS (by assumption) | exact N_a7' hS (by assumption) | exact N_a9' hS (by assumption) | exact N_a10' hS (by assumption) | exact A_630' hS | exact A_631' hS | exact A_632' hS | exact A_633' hS | exact A_635' hS | exact A_636' hS | exact A_637' hS | exact A_638' hS | exact A_639' hS | exact A_2' hS | exact A_55' hS | exact A_56' hS | exact A_57' hS | exact A_58' hS | exact A_59' hS | exact A_60' hS | exact A_61' hS | exact A_62' hS | exact A_63' hS)))
      | ((with_reducible refine st_rem ?_ ?_); first | decide | omega)
      | ((with_reducible refine st_div ?_ ?_); first | decide | omega)
      | dsimp only [gm_step, gm_c, gm_s1, gm_s2, gm_kl, gm_ps, gm_wd, gm_w1, List.getElem?_cons_succ, List.getElem?_cons_zero, List.set_cons_succ, List.set_cons_zero, List.length_cons, List.length_nil, List.drop_succ_cons, List.drop_zero, List.take_succ_cons, List.take_zero, Nat.reduceAdd, Nat.reduceSub, Nat.reduceLeDiff])
    all_goals exact ⟨(by first | rfl | trivial), (by first | rfl | trivial), z, fun c j q => by rw [gm_rd_a (by omega)]; exact h3 c j q⟩
  · rintro i hi1 hi2 ih ⟨mm, w3, w4, w5, w6⟩ h1 h3
    dsimp only at h1 h3 ⊢
    have ihg : ∀ mm' x y z w, repC mm' a (mvQ N G O n (i + 1)) → (∀ c j, (c < a ∨ a + 51 ≤ c) → mm' c j = m c j) → gm_wp (gm_sem MT ro (d + 3)) ro cd_X5_moveAll (fun r1 S1 m1 => S1 = S ∧ (r1 = none ∧ repC m1 a (mvA N G) ∧ (∀ c j, (c < a ∨ a + 51 ≤ c) → m1 c j = m c j))) 2 [gA 54, gA a, gI (i + 1), x, y, z, w] [] S mm' := fun mm' x y z w => ih (mm', x, y, z, w)
    clear ih
    have hm2 : mm 54 2 = n := by rw [h3 _ _ (by omega)]; exact hm.1
    have hmo : mm 55 i = O i := by rw [h3 _ _ (by omega)]; exact hm.2 i hi1 hi2
    have hob := ho.2.1 i hi1 hi2
    have hoi : O i < 40 := by have := hob.1.2; omega
    have hoi0 := hob.1.1
    have hG : mm 56 (O i) = G (O i) := by rw [h3 _ _ (by omega)]; exact hgo _ hob.1.1 hob.1.2 hob.2
    have hgb := hg.1 _ hob.1.1 hob.1.2 hob.2
    have hLW := hw.2.2.2.2 _ hob.1.1 hob.1.2
    have hat1 := hLW.1.2.2.2.2
    have hto := hLW.1.2.2.1
    have hag := hLW.2.1
    have hbb := N_GRC hw _ _ hat1 hgb.1 hgb.2
    have hlt := h1.2.2.2.2.2.2 (O i) hob.1.1 (by rw [mvQ_sc]; exact hob.1.2)
    rw [mvQ_le ho hi1 hi2] at hlt
    obtain ⟨⟨x0, x1, x2, x3⟩, x4, x5, ⟨x6, x7, x8⟩, x9, x11⟩ := hlt
    rw [if_neg (by omega)] at x4 x5
    have hsz : mm (a + 1) 0 = nd N := by
      have := h1.1.1
      rw [mvQ_sc] at this
      exact this
    have hpt := ((hw.2.1 _ hat1.1 hat1.2).2.2 _ hgb.1.1 hgb.1.2 hgb.2).1
    have hbe : mm (a + 4) (4 * n_le N (O i) 4 + G (O i)) = byA N (n_le N (O i) 4) (G (O i)) := by
      have := h1.2.2.1 (n_le N (O i) 4) (G (O i)) hat1.1 (by rw [mvQ_sc]; exact hat1.2) hgb.1.1 hgb.1.2
      rw [mvQ_sc, if_pos (of_decide_eq_true hpt)] at this
      exact this
    have hds : ∀ u v, 0 ≤ u → u < nd N → 0 ≤ v → v < nd N → mm (a + 5) (16 * u + v) = n_dst N u v := fun u v u0 u1 v0 v1 => by
      have := h1.2.2.2.1 u v u0 (by rw [mvQ_sc]; exact u1) v0 (by rw [mvQ_sc]; exact v1)
      unfold n_dst at this ⊢
      rw [mvQ_sc] at this
      exact this
    have hlt2 := dst_lt (t := n_le N (O i) 2) hw hat1 hgb.1 hgb.2
    have hd1 := hds _ _ hat1.1 hat1.2 hto.1 hto.2
    have hd2 := hds _ _ hbb.1 hbb.2 hto.1 hto.2
    have u4 : mvU N G (O i) 4 = byA N (n_le N (O i) 4) (G (O i)) := rfl
    have u5 : mvU N G (O i) 5 = n_le N (O i) 5 + 1 := rfl
    have u6 : mvU N G (O i) 6 = n_le N (O i) 6 + (if dA N (byA N (n_le N (O i) 4) (G (O i))) (n_le N (O i) 2) < dA N (n_le N (O i) 4) (n_le N (O i) 2) then 0 else 1) := rfl
    have u7 : mvU N G (O i) 7 = (G (O i) + 2) % 4 := rfl
    have hbb : 0 ≤ byA N (n_le N (O i) 4) (G (O i)) ∧ byA N (n_le N (O i) 4) (G (O i)) < nd N := hbb
    generalize byA N (n_le N (O i) 4) (G (O i)) = bb at *
    have hnb : (if ((0 ≤ n_le N (O i) 4 ∧ n_le N (O i) 4 < mm (a + 1) 0) ∧ 0 ≤ G (O i) ∧ G (O i) < 4) ∧ mm (a + 4) (4 * n_le N (O i) 4 + G (O i)) ≠ -1000000 then mm (a + 4) (4 * n_le N (O i) 4 + G (O i)) else -1000000) = bb := by
      rw [if_pos ⟨⟨by rw [hsz]; exact hat1, hgb.1⟩, by omega⟩, hbe]
    have hD1 : (if (0 ≤ n_le N (O i) 4 ∧ n_le N (O i) 4 < mm (a + 1) 0) ∧ 0 ≤ n_le N (O i) 2 ∧ n_le N (O i) 2 < mm (a + 1) 0 then mm (a + 5) (16 * n_le N (O i) 4 + n_le N (O i) 2) else -1000000) = n_dst N (n_le N (O i) 4) (n_le N (O i) 2) := by
      rw [hsz, if_pos ⟨hat1, hto⟩, hd1]
    have hD2 : (if (0 ≤ bb ∧ bb < mm (a + 1) 0) ∧ 0 ≤ n_le N (O i) 2 ∧ n_le N (O i) 2 < mm (a + 1) 0 then mm (a + 5) (16 * bb + n_le N (O i) 2) else -1000000) = n_dst N bb (n_le N (O i) 2) := by
      rw [hsz, if_pos ⟨hbb, hto⟩, hd2]
    have hxo := xor2I hgb.1.1 hgb.1.2
    have hsz16 : mm (a + 1) 0 ≤ 16 := by omega
    have x7' : mm (a + 11 + O i) 7 = n_le N (O i) 6 := x7
    refine gm_hd rfl ?_
    repeat' (first
      | ((with_reducible refine gm_w0 ?_); refine gm_go rfl ?_)
      | ((with_reducible refine sw_cons (fun hc => ?_) (fun hc => ?_)) <;> try (exfalso; omega))
      | with_reducible refine sw_nil ?_
      | simp (disch := omega) only [w32_id, Int.tdiv_eq_ediv_of_nonneg, Int.tmod_eq_emod_of_nonneg, Int.add_zero]
      | simp (disch := omega) only [gm_rd_i, gm_rd_a]
      | simp only [hm2, hmo, hG, x4, x2, x6, x7', hnb, hD1, hD2, hxo]
      | ((with_reducible refine st_getI ?_ ?_); first | assumption | exact N_is' hS (by assumption) | exact N_wis' hS (by assumption) | exact C_629' hS | exact N_lis' hS (by assumption) (by omega) (by omega) | exact C_0' hS | exact C_1' hS | exact C_54' hS | exact C_64' hS | exact C_116' hS)
      | ((with_reducible apply st_getR); (first | assumption | exact N_is' hS (by assumption) | exact N_wis' hS (by assumption) | exact C_629' hS | exact N_lis' hS (by assumption) (by omega) (by omega) | exact C_0' hS | exact C_1' hS | exact C_54' hS | exact C_64' hS | exact C_116' hS); (first | assumption | exact N_web' hS (by assumption) | exact N_letters' hS (by assumption) | exact N_golden' hS (by assumption) | exact N_logged' hS (by assumption) | exact N_open' hS (by assumption) | exact N_last' hS (by assumption) | exact N_beyond' hS (by assumption) | exact N_apart' hS (by assumption) | exact N_steps' hS (by assumption) | exact N_reached' hS (by assumption) | exact F_0_0' hS | exact F_0_1' hS | exact F_0_2' hS | exact F_0_3' hS | exact F_0_4' hS | exact F_0_5' hS | exact F_1_0' hS | exact F_54_0' hS | exact F_54_1' hS | exact F_54_4' hS | exact F_54_5' hS | exact F_54_6' hS | exact F_54_7' hS | exact F_54_8' hS | exact F_54_9' hS | exact F_54_10' hS | exact F_64_0' hS | exact F_64_1' hS | exact F_116_0' hS | exact F_629_0' hS | exact F_629_1' hS | exact F_629_2' hS | exact F_629_4' hS | exact F_629_5' hS | exact F_629_6' hS | exact F_629_15' hS | exact F_629_16' hS | exact F_629_18' hS | exact F_629_19' hS))
      | ((with_reducible refine st_putI ?_ ?_); first | assumption | exact N_is' hS (by assumption) | exact N_wis' hS (by assumption) | exact C_629' hS | exact N_lis' hS (by assumption) (by omega) (by omega) | exact C_0' hS | exact C_1' hS | exact C_54' hS | exact C_64' hS | exact C_116' hS)
      | ((with_reducible refine st_iald ?_ ?_); refine in_of (by first | assumption | exact N_a2' hS (by assumption) | exact N_a3' hS (by assumption) | exact N_a4' hS (by assumption) | exact N_a5' hS (by assumption) | exact N_a6' hS (by assumption) | exact N_a7' hS (by assumption) | exact N_a9' hS (by assumption) | exact N_a10' hS (by assumption) | exact A_630' hS | exact A_631' hS | exact A_632' hS | exact A_633' hS | exact A_635' hS | exact A_636' hS | exact A_637' hS | exact A_638' hS | exact A_639' hS | exact A_2' hS | exact A_55' hS | exact A_56' hS | exact A_57' hS | exact A_58' hS | exact A_59' hS | exact A_60' hS | exact A_61' hS | exact A_62' hS | exact A_63' hS) (by omega) (by omega))
      | ((with_reducible refine st_iast ?_ ?_); refine in_of (by first | assumption | exact N_a2' hS (by assumption) | exact N_a3' hS (by assumption) | exact N_a4' hS (by assumption) | exact N_a5' hS (by assumption) | exact N_a6' hS (by assumption) | exact N_a7' hS (by assumption) | exact N_a9' hS (by assumption) | exact N_a10' hS (by assumption) | exact A_630' hS | exact A_631' hS | exact A_632' hS | exact A_633' hS | exact A_635' hS | exact A_636' hS | exact A_637' hS | exact A_638' hS | exact A_639' hS | exact A_2' hS | exact A_55' hS | exact A_56' hS | exact A_57' hS | exact A_58' hS | exact A_59' hS | exact A_60' hS | exact A_61' hS | exact A_62' hS | exact A_63' hS) (by omega) (by omega))
      | ((with_reducible apply st_aald); (exact N_lin' hS (by assumption) (by omega) (by omega)); (exact N_lrf' hS (by assumption) (by omega) (by omega)))
      | ((with_reducible refine st_icmp (fun hc => ?_) (fun hc => ?_)) <;> (try dsimp only [gm_c] at hc) <;> (try simp only [gm_cmp_lt, gm_cmp_gt, gm_cmp_le, gm_cmp_ge, ite_0, ite_1, ne_eq, Classical.not_not] at hc) <;> try (first | (exfalso; omega) | exact absurd trivial hc))
      | ((with_reducible refine st_if (fun hc => ?_) (fun hc => ?_)) <;> (try dsimp only [gm_c] at hc) <;> (try simp only [gm_cmp_lt, gm_cmp_gt, gm_cmp_le, gm_cmp_ge, ite_0, ite_1, ne_eq, Classical.not_not] at hc) <;> try (first | (exfalso; omega) | exact absurd trivial hc))
      | ((with_reducible refine st_ret ?_ ?_); first | exact Or.inl rfl | exact Or.inr (Or.inl rfl) | exact Or.inr (Or.inr rfl))
      | ((with_reducible refine is_s (p' := 998) ?_ ?_); (exact rfl); refine st_copy (by first | assumption | exact N_a2' hS (by assumption) | exact N_a3' hS (by assumption) | exact N_a4' hS (by assumption) | exact N_a5' hS (by assumption) | exact N_a6' hS (by assumption) | exact N_a7' hS (by assumption) | exact N_a9' hS (by assumption) | exact N_a10' hS (by assumption) | exact A_630' hS | exact A_631' hS | exact A_632' hS | exact A_633' hS | exact A_635' hS | exact A_636' hS | exact A_637' hS | exact A_638' hS | exact A_639' hS | exact A_2' hS | exact A_55' hS | exact A_56' hS | exact A_57' hS | exact A_58' hS | exact A_59' hS | exact A_60' hS | exact A_61' hS | exact A_62' hS | exact A_63' hS) (by first | assumption | exact N_a2' hS (by assumption) | exact N_a3' hS (by assumption) | exact N_a4' hS (by assumption) | exact N_a5' hS (by assumption) | exact N_a6' hS (by assumption) | exact N_a7' hS (by assumption) | exact N_a9' hS (by assumption) | exact N_a10' hS (by assumption) | exact A_630' hS | exact A_631' hS | exact A_632' hS | exact A_633' hS | exact A_635' hS | exact A_636' hS | exact A_637' hS | exact A_638' hS | exact A_639' hS | exact A_2' hS | exact A_55' hS | exact A_56' hS | exact A_57' hS | exact A_58' hS | exact A_59' hS | exact A_60' hS | exact A_61' hS | exact A_62' hS | exact A_63' hS) (by omega) (by omega) (by omega) (by omega) (by omega) (Nat.le_of_ble_eq_true rfl) gm_999s ?_)
      | ((with_reducible refine is_s (p' := 997) ?_ ?_); (exact rfl); refine st_max (Nat.le_of_ble_eq_true rfl) gm_999s ?_)
      | ((with_reducible refine is_s (p' := 996) ?_ ?_); (exact rfl); refine st_min (Nat.le_of_ble_eq_true rfl) gm_999s ?_)
      | ((with_reducible apply st_alen); (refine is_of_ar (by first | assumption | exact N_a2' hS (by assumption) | exact N_a3' hS (by assumption) | exact N_a4' hS (by assumption) | exact N_a5' hS (by assumption) | exact N_a6' hS (by assumption) | exact N_a7' hS (by assumption) | exact N_a9' hS (by assumption) | exact N_a10' hS (by assumption) | exact A_630' hS | exact A_631' hS | exact A_632' hS | exact A_633' hS | exact A_635' hS | exact A_636' hS | exact A_637' hS | exact A_638' hS | exact A_639' hS | exact A_2' hS | exact A_55' hS | exact A_56' hS | exact A_57' hS | exact A_58' hS | exact A_59' hS | exact A_60' hS | exact A_61' hS | exact A_62' hS | exact A_63' hS)); (exact len_of_ar (by first | assumption | exact N_a2' hS (by assumption) | exact N_a3' hS (by assumption) | exact N_a4' hS (by assumption) | exact N_a5' hS (by assumption) | exact N_a6' hS (by assumption) | exact N_a7' hS (by assumption) | exact N_a9' hS (by assumption) | exact N_a10' hS (by assumption) | exact A_630' hS | exact A_631' hS | exact A_632' hS | exact A_633' hS | exact A_635' hS | exact A_636' hS | exact A_637' hS | exact A_638' hS | exact A_639' hS | exact A_2' hS | exact A_55' hS | exact A_56' hS | exact A_57' hS | exact A_58' hS | exact A_59' hS | exact A_60' hS | exact A_61' hS | exact A_62' hS | exact A_63' hS)))
      | ((with_reducible refine st_rem ?_ ?_); first | decide | omega)
      | ((with_reducible refine st_div ?_ ?_); first | decide | omega)
      | ((with_reducible refine is_v (p' := k_X6_nodeBeyond) ?_ ?_); (exact rfl); refine gm_vt3 (Nat.le_of_ble_eq_true rfl) (by first | assumption | exact N_is' hS (by assumption) | exact N_wis' hS (by assumption) | exact C_629' hS | exact N_lis' hS (by assumption) (by omega) (by omega) | exact C_0' hS | exact C_1' hS | exact C_54' hS | exact C_64' hS | exact C_116' hS) (sp_X6_nodeBeyond hS ha (by omega)) ?_; dsimp only [gm_ps])
      | ((with_reducible refine is_v (p' := k_X6_distance) ?_ ?_); (exact rfl); refine gm_vt3 (Nat.le_of_ble_eq_true rfl) (by first | assumption | exact N_is' hS (by assumption) | exact N_wis' hS (by assumption) | exact C_629' hS | exact N_lis' hS (by assumption) (by omega) (by omega) | exact C_0' hS | exact C_1' hS | exact C_54' hS | exact C_64' hS | exact C_116' hS) (sp_X6_distance hS ha (by omega)) ?_; dsimp only [gm_ps])
      | ((with_reducible refine is_s (p' := k_X6_portAcross) ?_ ?_); (exact rfl); refine gm_st1 (by decide) (Nat.le_of_ble_eq_true rfl) (sp_X6_portAcross hS) ?_; dsimp only [gm_ps])
      | dsimp only [gm_step, gm_c, gm_s1, gm_s2, gm_kl, gm_ps, gm_wd, gm_w1, List.getElem?_cons_succ, List.getElem?_cons_zero, List.set_cons_succ, List.set_cons_zero, List.length_cons, List.length_nil, List.drop_succ_cons, List.drop_zero, List.take_succ_cons, List.take_zero, Nat.reduceAdd, Nat.reduceSub, Nat.reduceLeDiff])
    all_goals (
      refine ihg _ _ _ _ _ (by
        rw [← mvQ_next ho hi1 hi2]
        refine repC_let h1 (by rw [mvQ_sc]; exact hob.1) (fun c q j => by first | (rw [gm_rd_a q, gm_rd_a q, gm_rd_a q]; done) | (rw [gm_rd_a q, gm_rd_a q, gm_rd_a q, gm_rd_a q]; done)) ?_
        unfold ltr
        rw [u4, u5, u6, u7]
        have v0 : mvU N G (O i) 0 = n_le N (O i) 0 := rfl
        have v1 : mvU N G (O i) 1 = n_le N (O i) 1 := rfl
        have v2 : mvU N G (O i) 2 = n_le N (O i) 2 := rfl
        have v3 : mvU N G (O i) 3 = n_le N (O i) 3 := rfl
        have v8 : mvU N G (O i) 8 = n_le N (O i) 8 := rfl
        have v11 : mvU N G (O i) 11 = n_le N (O i) 11 := rfl
        rw [v0, v1, v2, v3, v8, v11, if_neg (by omega), if_neg (by omega)]
        refine ⟨⟨?_, ?_, ?_, ?_⟩, ?_, ?_, ⟨?_, ?_, ?_⟩, fun z => by omega, ?_⟩
        · simp [gm_up]; exact x0
        · simp [gm_up]; exact x1
        · simp [gm_up]; exact x2
        · simp [gm_up]; exact x3
        · simp [gm_up]
        · simp [gm_up]
        · simp [gm_up]
        · first | (rw [if_pos (by omega)]; simp [gm_up]; exact x7) | (rw [if_neg (by omega)]; simp [gm_up])
        · simp [gm_up]; exact x8
        · simp [gm_up]; exact x11) (fun c j q => by first | (rw [gm_rd_a (by omega), gm_rd_a (by omega), gm_rd_a (by omega)]; exact h3 c j q) | (rw [gm_rd_a (by omega), gm_rd_a (by omega), gm_rd_a (by omega), gm_rd_a (by omega)]; exact h3 c j q)))
  · rw [mvQ_0 ho]; exact h
theorem wgtN_eq {m : gm_M} {a k : Int} {N : NS} (h : repC m a N) (hk : 0 ≤ k ∧ k < n_sc N 5) : wgtN m a k = wgA N k := by
  have hlt := h.2.2.2.2.2.2 k hk.1 hk.2
  unfold wgtN wgA
  rw [hlt.1.1, hlt.2.2.2.1.1]
theorem wgA_bd {N : NS} {T k : Int} (hw : WF N T) (hk : 0 ≤ k ∧ k < n_sc N 5) : 0 ≤ wgA N k ∧ wgA N k ≤ 198 := by
  have := (hw.2.2.2.2 k hk.1 hk.2).2.1.1
  unfold wgA
  split
  · omega
  · split
    · omega
    · omega
theorem clm_ah {m : gm_M} {a g x y T : Int} {N : NS} (h : repC m a N) (hw : WF N T) (hx : 0 ≤ x ∧ x < n_sc N 5) (hy : 0 ≤ y ∧ y < n_sc N 5) (hn : x ≠ y) : (clm m a g y < clm m a g x) ↔ ahA N g x y = true := by
  have h40 := hw.1.2.2.2.2.2
  have bx := wgA_bd hw hx
  have bY := wgA_bd hw hy
  unfold clm ahA
  rw [wgtN_eq h hx, wgtN_eq h hy, decide_eq_true_eq]
  by_cases q : x = g
  · rw [if_pos q, if_pos (Or.inl q), if_neg (by omega)]
    constructor
    · intro _; exact q
    · intro _; omega
  · by_cases z : y = g
    · rw [if_pos z, if_neg q, if_pos (Or.inr z)]
      constructor
      · intro w; omega
      · intro w; exact absurd w q
    · rw [if_neg z, if_neg q, if_neg (by omega)]
      omega
theorem sp_X5_lineUpR {ro : Nat → Nat × (Int → Int)} {d : Nat} {S : List gm_S} (hS : S = S0) {m : gm_M} {a g T : Int} {N : NS} (ha : gN a) (h : repC m a N) (hw : WF N T) (hg : m 54 3 = g) : gm_rel ro (d + 3) k_X5_lineUp [gA 54, gA a] S m (fun r1 m1 => r1 = none ∧ ordC m1 (ordA N g).1 (ordA N g).2 ∧ CLM m1 N g ∧ ∀ c j, c ≠ 55 → c ≠ 57 → ¬ (c = 54 ∧ j = 2) → m1 c j = m c j) := by
  have e5 : m a 2 = n_sc N 5 := h.1.2.2.2.2
  have h40 := hw.1.2.2.2.2.2
  have hfl : ∀ x, 0 ≤ x → x < n_sc N 5 → m (a + 11 + x) 3 = n_le N x 3 := fun x x0 x1 => (h.2.2.2.2.2.2 x x0 x1).1.2.2.2
  refine rel_of_sem (sp_X5_lineUp hS ha (by omega) (fun k k0 k1 => ?_)) ⟨rfl, ?_, ?_, fun c j q1 q2 q3 => ?_⟩
  · rw [(h.2.2.2.2.2.2 k k0 (by omega)).2.2.2.1.1]
    have := (hw.2.2.2.2 k k0 (by omega)).2.1.1
    omega
  · have := srt_cg2 (fl := flN m a) (fl' := fun k => decide (n_le N k 3 = 1)) (ah := ahN m a g) (ah' := ahA N g) (A0 := m 55) (A0' := fun _ => 0) (k := n_sc N 5) h40.1 (fun x x0 x1 => by
      unfold flN
      rw [hfl x x0 x1]) (fun x y y0 yx x1 _ _ => by
      have := clm_ah (g := g) h hw (x := x) (y := y) ⟨by omega, x1⟩ ⟨y0, by omega⟩ (by omega)
      unfold ahN
      cases q : ahA N g x y with
      | true => exact decide_eq_true (this.mpr q)
      | false => exact decide_eq_false (fun z => by rw [this.mp z] at q; cases q))
    rw [e5, hg]
    refine ⟨?_, fun i i0 i1 => ?_⟩
    · show (if (54 : Int) = 55 then _ else if (54 : Int) = 54 ∧ (2 : Int) = 2 then _ else _) = _
      rw [if_neg (by omega), if_pos ⟨rfl, rfl⟩]
      exact this.1
    · show (if (55 : Int) = 55 then _ else _) = _
      rw [if_pos rfl]
      exact this.2 i i0 (by rw [this.1]; exact i1)
  · intro k l hk hl fk fl hn
    have hr : ∀ k, 0 ≤ k ∧ k < n_sc N 5 → n_le N k 3 = 1 → lM m a (m 54 3) (srt (flN m a) (ahN m a (m 54 3)) (m 55) (m a 2)) (m a 2) 57 k = clm m a g k := fun k hk fk => by
      show (if (57 : Int) = 55 then _ else if (57 : Int) = 54 ∧ _ then _ else if (57 : Int) = 57 ∧ (0 ≤ k ∧ k < m a 2) ∧ m (a + 11 + k) 3 = 1 then clm m a (m 54 3) k else _) = _
      rw [if_neg (by omega), if_neg (by omega), if_pos ⟨rfl, by rw [e5]; exact hk, by rw [hfl k hk.1 hk.2]; exact fk⟩, hg]
    rw [hr k hk fk, hr l hl fl]
    exact clm_ah h hw hk hl hn
  · show (if c = 55 then _ else if c = 54 ∧ j = 2 then _ else if c = 57 ∧ _ then _ else m c j) = _
    rw [if_neg q1, if_neg q3, if_neg (fun z => q2 z.1)]
theorem nthT_map {Q : Int → Bool} {f : Int → Int} (F : Nat) : nthT Q f F 0 0 = if nthT Q (fun k => k) F 0 0 = -1000000 then -1000000 else f (nthT Q (fun k => k) F 0 0) := by
  rcases nthT_sp (Q := Q) (T := f) F 0 with ⟨a1, a2⟩ | ⟨j, a1, a2, a3, a4⟩ <;> rcases nthT_sp (Q := Q) (T := fun k => k) F 0 with ⟨b1, b2⟩ | ⟨i, b1, b2, b3, b4⟩
  · rw [a1, b1, if_pos rfl]
  · rw [a2 i b1.1 b1.2] at b2; cases b2
  · rw [b2 j a1.1 a1.2] at a2; cases a2
  · rw [a3, b3, if_neg (by omega)]
    by_cases q : i < j
    · rw [a4 i b1.1 q] at b2; cases b2
    · by_cases z : j < i
      · rw [b4 j a1.1 z] at a2; cases a2
      · rw [show i = j by omega]
theorem C_gd {m : gm_M} {a T : Int} {N : NS} (h : repC m a N) (hw : WF N T) : ∀ k, 0 ≤ k → k < m a 6 → 0 ≤ m (a + 9) k ∧ m (a + 9) k < n_sc N 5 := fun k k0 k1 => by
  have h3 := h.2.2.2.2.2.1
  have : m (a + 9) k ∈ n_gd N := by
    rw [← h3.2.2]
    exact (lof_mem h3.1).mpr ⟨k, ⟨k0, k1⟩, rfl⟩
  exact (hw.2.2.1.2 _ this).1
theorem sp_X2_theGoldenOneR {ro : Nat → Nat × (Int → Int)} {d : Nat} {S : List gm_S} (hS : S = S0) {m : gm_M} {a T : Int} {N : NS} (ha : gN a) (h : repC m a N) (hw : WF N T) : gm_sem MT ro (d + 1) k_X2_theGoldenOne [gA a] S m (gI (gOne N)) S m := by
  have h3 := h.2.2.2.2.2.1
  have h40 := hw.1.2.2.2.2.2
  have hk := C_gd h hw
  have e : gOne N = if (nthR (fun k => m (a + 11 + m (a + 9) k) 3 = 1) (m a 6 - 0).toNat 0 0) = -1000000 then -1000000 else m (a + 9) (nthR (fun k => m (a + 11 + m (a + 9) k) 3 = 1) (m a 6 - 0).toNat 0 0) := by
    have := find_lof (P := fun x => decide (n_le N x 3 = 1)) (f := m (a + 9)) h3.1 (fun j j0 j1 => by have := hk j j0 j1; omega)
    rw [h3.2.2] at this
    unfold gOne
    rw [← this, nthT_R, ← nthT_map]
    refine nthT_cg _ _ _ (fun j a1 a2 => ?_) (fun _ _ _ _ => rfl)
    have := hk j a1 (by omega)
    rw [(h.2.2.2.2.2.2 (m (a + 9) j) this.1 this.2).1.2.2.2]
  rw [e]
  exact sp_X2_theGoldenOne hS ha ⟨h3.1, h3.2.1⟩ (fun k k0 k1 => by have := hk k k0 k1; omega)
set_option maxHeartbeats 4000000 in
theorem sp_X5_decide {ro : Nat → Nat × (Int → Int)} {d : Nat} {S : List gm_S} (hS : S = S0) {m : gm_M} {a T : Int} {N : NS} (hro : gRO ro) (ha : gN a) (h : repC m a N) (hw : WFT N T) (hT : n_sc N 4 < T) : gm_rel ro (d + 5) k_X5_decide [gA 54, gA a] S m (fun r1 m1 => r1 = none ∧ repC m1 a (t4 N) ∧ (∀ k, 0 ≤ k → k < 40 → m1 56 k = tG N k) ∧ ordC m1 (tO2 N).1 (tO2 N).2 ∧ (∀ c j, (c < a ∨ a + 51 ≤ c) → (c < 54 ∨ 63 < c) → m1 c j = m c j)) := by
  refine gm_rel_of mt_X5_decide (Nat.le_of_ble_eq_true rfl) ?_
  dsimp only [gm_en, List.length_cons, List.length_nil, List.replicate, List.cons_append, List.nil_append, Nat.reduceAdd, Nat.reduceSub]
  have hat := gN_t ha
  have h40 := hw.1.1.2.2.2.2.2
  have hnd := WF_nd hw.1
  have hfm : ∀ c j, c ≠ 56 → ¬ (c = 54 ∧ j = 3) → flM (gm_up m 54 3 (gOne N)) 56 (-1000000) ((40 : Nat) : Int) c j = m c j := fun c j q1 q2 => by
    unfold flM
    rw [if_neg (fun z => q1 z.1)]
    unfold gm_up
    rw [if_neg q2]
  have h0 : repC (flM (gm_up m 54 3 (gOne N)) 56 (-1000000) ((40 : Nat) : Int)) a N := repC_fr h h40.2 (fun c q1 q2 j => hfm c j (by omega) (by omega))
  have hg0 : flM (gm_up m 54 3 (gOne N)) 56 (-1000000) ((40 : Nat) : Int) 54 3 = gOne N := by
    unfold flM
    rw [if_neg (by omega), gm_rd_s]
  repeat' (first
    | ((with_reducible refine gm_w0 ?_); refine gm_go rfl ?_)
    | ((with_reducible refine sw_cons (fun hc => ?_) (fun hc => ?_)) <;> try (exfalso; omega))
    | with_reducible refine sw_nil ?_
    | simp (disch := omega) only [w32_id, Int.tdiv_eq_ediv_of_nonneg, Int.tmod_eq_emod_of_nonneg, Int.add_zero]
    | ((with_reducible refine is_v (p' := k_X2_theGoldenOne) ?_ ?_); (exact rfl); refine gm_vt1 (Nat.le_of_ble_eq_true rfl) (by first | assumption | exact N_is' hS (by assumption) | exact N_wis' hS (by assumption) | exact C_629' hS | exact N_lis' hS (by assumption) (by omega) (by omega) | exact C_0' hS | exact C_1' hS | exact C_54' hS | exact C_64' hS | exact C_116' hS) (sp_X2_theGoldenOneR hS ha h hw.1) ?_; dsimp only [gm_ps])
    | ((with_reducible refine is_v (p' := k_X5_lineUp) ?_ ?_); (exact rfl); refine gm_rv2 (Nat.le_of_ble_eq_true rfl) (by first | assumption | exact N_is' hS (by assumption) | exact N_wis' hS (by assumption) | exact C_629' hS | exact N_lis' hS (by assumption) (by omega) (by omega) | exact C_0' hS | exact C_1' hS | exact C_54' hS | exact C_64' hS | exact C_116' hS) (sp_X5_lineUpR hS ha h6 (t4_wf hw.1 hT) g6) ?_; rintro r7 m7 ⟨rfl, o7, c7, f7⟩; dsimp only [gm_ps]; (have h7 : repC m7 a (t4 N) := repC_fr h6 h40.2 (fun c q1 q2 j => f7 c j (by omega) (by omega) (by omega))); (have n7 : ∀ v, 0 ≤ v → v < nd N → m7 59 v = hrA (t4 N) v := fun v v0 v1 => by rw [f7 _ _ (by omega) (by omega) (by omega)]; exact n6 v v0 v1); (have k7 : ∀ k, 0 ≤ k → k < 40 → m7 56 k = -1000000 := fun k k0 k1 => by rw [f7 _ _ (by omega) (by omega) (by omega)]; exact k6 k k0 k1))
    | ((with_reducible refine is_v (p' := k_X5_lineUp) ?_ ?_); (exact rfl); refine gm_rv2 (Nat.le_of_ble_eq_true rfl) (by first | assumption | exact N_is' hS (by assumption) | exact N_wis' hS (by assumption) | exact C_629' hS | exact N_lis' hS (by assumption) (by omega) (by omega) | exact C_0' hS | exact C_1' hS | exact C_54' hS | exact C_64' hS | exact C_116' hS) (sp_X5_lineUpR hS ha h0 hw.1 hg0) ?_; rintro r2 m2 ⟨rfl, o2, c2, f2⟩; dsimp only [gm_ps]; (have h2 : repC m2 a N := repC_fr h0 h40.2 (fun c q1 q2 j => f2 c j (by omega) (by omega) (by omega))))
    | ((with_reducible refine is_v (p' := k_X5_deliverFirsts) ?_ ?_); (exact rfl); refine gm_rv2 (Nat.le_of_ble_eq_true rfl) (by first | assumption | exact N_is' hS (by assumption) | exact N_wis' hS (by assumption) | exact C_629' hS | exact N_lis' hS (by assumption) (by omega) (by omega) | exact C_0' hS | exact C_1' hS | exact C_54' hS | exact C_64' hS | exact C_116' hS) (sp_X5_deliverFirsts hS ha h2 hw.1 hT (tO1_ok hw.1) o2) ?_; rintro r3 m3 ⟨rfl, h3, w3, f3⟩; dsimp only [gm_ps]; (have o3 : ordC m3 (tO1 N).1 (tO1 N).2 := ⟨by rw [f3 _ _ (by omega) (by omega)]; exact o2.1, fun i i0 i1 => by rw [f3 _ _ (by omega) (by omega)]; exact o2.2 i i0 i1⟩))
    | ((with_reducible refine is_v (p' := k_X5_loseOldOnes) ?_ ?_); (exact rfl); refine gm_rv2 (Nat.le_of_ble_eq_true rfl) (by first | assumption | exact N_is' hS (by assumption) | exact N_wis' hS (by assumption) | exact C_629' hS | exact N_lis' hS (by assumption) (by omega) (by omega) | exact C_0' hS | exact C_1' hS | exact C_54' hS | exact C_64' hS | exact C_116' hS) (sp_X5_loseOldOnes hS ha h3 w3 hT (E_1 hw.1) o3) ?_; rintro r4 m4 ⟨rfl, h4, w4, f4⟩; dsimp only [gm_ps]; (have o4 : ordC m4 (tO1 N).1 (tO1 N).2 := ⟨by rw [f4 _ _ (by omega)]; exact o3.1, fun i i0 i1 => by rw [f4 _ _ (by omega)]; exact o3.2 i i0 i1⟩))
    | ((with_reducible refine is_v (p' := k_X5_loseTooMany) ?_ ?_); (exact rfl); refine gm_rv2 (Nat.le_of_ble_eq_true rfl) (by first | assumption | exact N_is' hS (by assumption) | exact N_wis' hS (by assumption) | exact C_629' hS | exact N_lis' hS (by assumption) (by omega) (by omega) | exact C_0' hS | exact C_1' hS | exact C_54' hS | exact C_64' hS | exact C_116' hS) (sp_X5_loseTooMany hS ha h4 w4 hT (E_2 hw.1) o4) ?_; rintro r5 m5 ⟨rfl, h5, w5, n5, f5⟩; dsimp only [gm_ps])
    | ((with_reducible refine is_v (p' := k_X5_putIn) ?_ ?_); (exact rfl); refine gm_rv2 (Nat.le_of_ble_eq_true rfl) (by first | assumption | exact N_is' hS (by assumption) | exact N_wis' hS (by assumption) | exact C_629' hS | exact N_lis' hS (by assumption) (by omega) (by omega) | exact C_0' hS | exact C_1' hS | exact C_54' hS | exact C_64' hS | exact C_116' hS) (sp_X5_putIn hS ha h5 w5 n5) ?_; rintro r6 m6 ⟨rfl, h6, n6, f6⟩; dsimp only [gm_ps]; (have h6 : repC m6 a (t4 N) := h6); (have n6 : ∀ v, 0 ≤ v → v < nd N → m6 59 v = hrA (t4 N) v := n6); (have g6 : m6 54 3 = gOne N := by rw [f6 _ _ (by omega) (by omega) (by omega), f5 _ _ (by omega) (by omega), f4 _ _ (by omega), f3 _ _ (by omega) (by omega), f2 _ _ (by omega) (by omega) (by omega)]; exact hg0); (have k6 : ∀ k, 0 ≤ k → k < 40 → m6 56 k = -1000000 := fun k k0 k1 => by rw [f6 _ _ (by omega) (by omega) (by omega), f5 _ _ (by omega) (by omega), f4 _ _ (by omega), f3 _ _ (by omega) (by omega), f2 _ _ (by omega) (by omega) (by omega)]; unfold flM; rw [if_pos ⟨rfl, k0, k1⟩]))
    | ((with_reducible refine is_v (p' := k_X5_givePorts) ?_ ?_); (exact rfl); refine gm_rv2 (Nat.le_of_ble_eq_true rfl) (by first | assumption | exact N_is' hS (by assumption) | exact N_wis' hS (by assumption) | exact C_629' hS | exact N_lis' hS (by assumption) (by omega) (by omega) | exact C_0' hS | exact C_1' hS | exact C_54' hS | exact C_64' hS | exact C_116' hS) (sp_X5_givePorts hS hro ha h7 (t4_wf hw.1 hT) o7 c7 (t4_fc hw hT) (t4_rm hw.1 hT) n7 k7) ?_; rintro r8 m8 ⟨rfl, g8, f8⟩; dsimp only [gm_ps]; (have h8r : repC m8 a (t4 N) := repC_fr h7 h40.2 (fun c q1 q2 j => f8 c j (by omega) (by omega) (by omega) (by omega) (by omega))); (have o8 : ordC m8 (tO2 N).1 (tO2 N).2 := ⟨by rw [f8 _ _ (by omega) (by omega) (by omega) (by omega) (by omega)]; exact o7.1, fun i i0 i1 => by rw [f8 _ _ (by omega) (by omega) (by omega) (by omega) (by omega)]; exact o7.2 i i0 i1⟩))
    | ((with_reducible refine st_getI ?_ ?_); first | assumption | exact N_is' hS (by assumption) | exact N_wis' hS (by assumption) | exact C_629' hS | exact N_lis' hS (by assumption) (by omega) (by omega) | exact C_0' hS | exact C_1' hS | exact C_54' hS | exact C_64' hS | exact C_116' hS)
    | ((with_reducible apply st_getR); (first | assumption | exact N_is' hS (by assumption) | exact N_wis' hS (by assumption) | exact C_629' hS | exact N_lis' hS (by assumption) (by omega) (by omega) | exact C_0' hS | exact C_1' hS | exact C_54' hS | exact C_64' hS | exact C_116' hS); (first | assumption | exact N_web' hS (by assumption) | exact N_letters' hS (by assumption) | exact N_golden' hS (by assumption) | exact N_logged' hS (by assumption) | exact N_open' hS (by assumption) | exact N_last' hS (by assumption) | exact N_beyond' hS (by assumption) | exact N_apart' hS (by assumption) | exact N_steps' hS (by assumption) | exact N_reached' hS (by assumption) | exact F_0_0' hS | exact F_0_1' hS | exact F_0_2' hS | exact F_0_3' hS | exact F_0_4' hS | exact F_0_5' hS | exact F_1_0' hS | exact F_54_0' hS | exact F_54_1' hS | exact F_54_4' hS | exact F_54_5' hS | exact F_54_6' hS | exact F_54_7' hS | exact F_54_8' hS | exact F_54_9' hS | exact F_54_10' hS | exact F_64_0' hS | exact F_64_1' hS | exact F_116_0' hS | exact F_629_0' hS | exact F_629_1' hS | exact F_629_2' hS | exact F_629_4' hS | exact F_629_5' hS | exact F_629_6' hS | exact F_629_15' hS | exact F_629_16' hS | exact F_629_18' hS | exact F_629_19' hS))
    | ((with_reducible refine st_putI ?_ ?_); first | assumption | exact N_is' hS (by assumption) | exact N_wis' hS (by assumption) | exact C_629' hS | exact N_lis' hS (by assumption) (by omega) (by omega) | exact C_0' hS | exact C_1' hS | exact C_54' hS | exact C_64' hS | exact C_116' hS)
    | ((with_reducible refine st_iald ?_ ?_); refine in_of (by first | assumption | exact N_a2' hS (by assumption) | exact N_a3' hS (by assumption) | exact N_a4' hS (by assumption) | exact N_a5' hS (by assumption) | exact N_a6' hS (by assumption) | exact N_a7' hS (by assumption) | exact N_a9' hS (by assumption) | exact N_a10' hS (by assumption) | exact A_630' hS | exact A_631' hS | exact A_632' hS | exact A_633' hS | exact A_635' hS | exact A_636' hS | exact A_637' hS | exact A_638' hS | exact A_639' hS | exact A_2' hS | exact A_55' hS | exact A_56' hS | exact A_57' hS | exact A_58' hS | exact A_59' hS | exact A_60' hS | exact A_61' hS | exact A_62' hS | exact A_63' hS) (by omega) (by omega))
    | ((with_reducible refine st_iast ?_ ?_); refine in_of (by first | assumption | exact N_a2' hS (by assumption) | exact N_a3' hS (by assumption) | exact N_a4' hS (by assumption) | exact N_a5' hS (by assumption) | exact N_a6' hS (by assumption) | exact N_a7' hS (by assumption) | exact N_a9' hS (by assumption) | exact N_a10' hS (by assumption) | exact A_630' hS | exact A_631' hS | exact A_632' hS | exact A_633' hS | exact A_635' hS | exact A_636' hS | exact A_637' hS | exact A_638' hS | exact A_639' hS | exact A_2' hS | exact A_55' hS | exact A_56' hS | exact A_57' hS | exact A_58' hS | exact A_59' hS | exact A_60' hS | exact A_61' hS | exact A_62' hS | exact A_63' hS) (by omega) (by omega))
    | ((with_reducible apply st_aald); (exact N_lin' hS (by assumption) (by omega) (by omega)); (exact N_lrf' hS (by assumption) (by omega) (by omega)))
    | ((with_reducible refine st_icmp (fun hc => ?_) (fun hc => ?_)) <;> (try dsimp only [gm_c] at hc) <;> (try simp only [gm_cmp_lt, gm_cmp_gt, gm_cmp_le, gm_cmp_ge, ite_0, ite_1, ne_eq, Classical.not_not] at hc) <;> try (first | (exfalso; omega) | exact absurd trivial hc))
    | ((with_reducible refine st_if (fun hc => ?_) (fun hc => ?_)) <;> (try dsimp only [gm_c] at hc) <;> (try simp only [gm_cmp_lt, gm_cmp_gt, gm_cmp_le, gm_cmp_ge, ite_0, ite_1, ne_eq, Classical.not_not] at hc) <;> try (first | (exfalso; omega) | exact absurd trivial hc))
    | ((with_reducible refine st_ret ?_ ?_); first | exact Or.inl rfl | exact Or.inr (Or.inl rfl) | exact Or.inr (Or.inr rfl))
    | ((with_reducible refine is_s (p' := 998) ?_ ?_); (exact rfl); refine st_copy (by first | assumption | exact N_a2' hS (by assumption) | exact N_a3' hS (by assumption) | exact N_a4' hS (by assumption) | exact N_a5' hS (by assumption) | exact N_a6' hS (by assumption) | exact N_a7' hS (by assumption) | exact N_a9' hS (by assumption) | exact N_a10' hS (by assumption) | exact A_630' hS | exact A_631' hS | exact A_632' hS | exact A_633' hS | exact A_635' hS | exact A_636' hS | exact A_637' hS | exact A_638' hS | exact A_639' hS | exact A_2' hS | exact A_55' hS | exact A_56' hS | exact A_57' hS | exact A_58' hS | exact A_59' hS | exact A_60' hS | exact A_61' hS | exact A_62' hS | exact A_63' hS) (by first | assumption | exact N_a2' hS (by assumption) | exact N_a3' hS (by assumption) | exact N_a4' hS (by assumption) | exact N_a5' hS (by assumption) | exact N_a6' hS (by assumption) | exact N_a7' hS (by assumption) | exact N_a9' hS (by assumption) | exact N_a10' hS (by assumption) | exact A_630' hS | exact A_631' hS | exact A_632' hS | exact A_633' hS | exact A_635' hS | exact A_636' hS | exact A_637' hS | exact A_638' hS | exact A_639' hS | exact A_2' hS | exact A_55' hS | exact A_56' hS | exact A_57' hS | exact A_58' hS | exact A_59' hS | exact A_60' hS | exact A_61' hS | exact A_62' hS | exact A_63' hS) (by omega) (by omega) (by omega) (by omega) (by omega) (Nat.le_of_ble_eq_true rfl) gm_999s ?_)
    | ((with_reducible refine is_s (p' := 997) ?_ ?_); (exact rfl); refine st_max (Nat.le_of_ble_eq_true rfl) gm_999s ?_)
    | ((with_reducible refine is_s (p' := 996) ?_ ?_); (exact rfl); refine st_min (Nat.le_of_ble_eq_true rfl) gm_999s ?_)
    | ((with_reducible apply st_alen); (refine is_of_ar (by first | assumption | exact N_a2' hS (by assumption) | exact N_a3' hS (by assumption) | exact N_a4' hS (by assumption) | exact N_a5' hS (by assumption) | exact N_a6' hS (by assumption) | exact N_a7' hS (by assumption) | exact N_a9' hS (by assumption) | exact N_a10' hS (by assumption) | exact A_630' hS | exact A_631' hS | exact A_632' hS | exact A_633' hS | exact A_635' hS | exact A_636' hS | exact A_637' hS | exact A_638' hS | exact A_639' hS | exact A_2' hS | exact A_55' hS | exact A_56' hS | exact A_57' hS | exact A_58' hS | exact A_59' hS | exact A_60' hS | exact A_61' hS | exact A_62' hS | exact A_63' hS)); (exact len_of_ar (by first | assumption | exact N_a2' hS (by assumption) | exact N_a3' hS (by assumption) | exact N_a4' hS (by assumption) | exact N_a5' hS (by assumption) | exact N_a6' hS (by assumption) | exact N_a7' hS (by assumption) | exact N_a9' hS (by assumption) | exact N_a10' hS (by assumption) | exact A_630' hS | exact A_631' hS | exact A_632' hS | exact A_633' hS | exact A_635' hS | exact A_636' hS | exact A_637' hS | exact A_638' hS | exact A_639' hS | exact A_2' hS | exact A_55' hS | exact A_56' hS | exact A_57' hS | exact A_58' hS | exact A_59' hS | exact A_60' hS | exact A_61' hS | exact A_62' hS | exact A_63' hS)))
    | ((with_reducible refine st_rem ?_ ?_); first | decide | omega)
    | ((with_reducible refine st_div ?_ ?_); first | decide | omega)
    | ((with_reducible refine is_s (p' := k_J7_fill_53178) ?_ ?_); (exact rfl); refine gm_st2 (by decide) (Nat.le_of_ble_eq_true rfl) (sp_J7_fill_53178 hS (nx := 40) (by first | assumption | exact N_a2' hS (by assumption) | exact N_a3' hS (by assumption) | exact N_a4' hS (by assumption) | exact N_a5' hS (by assumption) | exact N_a6' hS (by assumption) | exact N_a7' hS (by assumption) | exact N_a9' hS (by assumption) | exact N_a10' hS (by assumption) | exact A_630' hS | exact A_631' hS | exact A_632' hS | exact A_633' hS | exact A_635' hS | exact A_636' hS | exact A_637' hS | exact A_638' hS | exact A_639' hS | exact A_2' hS | exact A_55' hS | exact A_56' hS | exact A_57' hS | exact A_58' hS | exact A_59' hS | exact A_60' hS | exact A_61' hS | exact A_62' hS | exact A_63' hS) (by decide)) ?_; dsimp only [gm_ps])
    | dsimp only [gm_step, gm_c, gm_s1, gm_s2, gm_kl, gm_ps, gm_wd, gm_w1, List.getElem?_cons_succ, List.getElem?_cons_zero, List.set_cons_succ, List.set_cons_zero, List.length_cons, List.length_nil, List.drop_succ_cons, List.drop_zero, List.take_succ_cons, List.take_zero, Nat.reduceAdd, Nat.reduceSub, Nat.reduceLeDiff])
  all_goals (
    refine ⟨(by first | rfl | trivial), (by first | rfl | trivial), h8r, g8, o8, fun c j q1 q2 => ?_⟩
    rw [f8 c j (by omega) (by omega) (by omega) (by omega) (by omega), f7 c j (by omega) (by omega) (by omega), f6 c j q1 (by omega) (by omega), f5 c j q1 (by omega), f4 c j q1, f3 c j q1 (by omega), f2 c j (by omega) (by omega) (by omega), hfm c j (by omega) (by omega)])
