/-! ===== the order by rank: both sides put each that flies in its place, from behind ===== -/
def ipos (lt : Int → Bool) : Nat → Int
  | 0 => 0
  | n + 1 => if lt (n : Int) then ipos lt n else (n : Int) + 1
theorem ipos_spec (lt : Int → Bool) : ∀ n : Nat, 0 ≤ ipos lt n ∧ ipos lt n ≤ n ∧ (∀ j, ipos lt n ≤ j → j < (n : Int) → lt j = true) ∧ (ipos lt n = 0 ∨ lt (ipos lt n - 1) = false) := by
  intro n
  induction n with
  | zero => exact ⟨Int.le_refl _, Int.le_refl _, fun j h1 h2 => absurd (Int.lt_of_le_of_lt h1 h2) (Int.lt_irrefl _), Or.inl rfl⟩
  | succ n ih =>
    unfold ipos
    split
    · rename_i h
      obtain ⟨a1, a2, a3, a4⟩ := ih
      refine ⟨a1, by omega, fun j h1 h2 => ?_, a4⟩
      by_cases e : j = (n : Int)
      · rw [e]; exact h
      · exact a3 j h1 (by omega)
    · rename_i h
      refine ⟨by omega, by omega, fun j h1 h2 => by omega, Or.inr ?_⟩
      rw [show (n : Int) + 1 - 1 = (n : Int) by omega]
      simpa using h
def insF (A : Int → Int) (p n k : Int) : Int → Int := fun i => if i < p then A i else if i = p then k else if i ≤ n then A (i - 1) else A i
/-- the row of order and how many fly, behind letters 0 .. k - 1: fl who flies, ah who is ahead -/
def srt (fl : Int → Bool) (ah : Int → Int → Bool) (A0 : Int → Int) (k : Int) : (Int → Int) × Int := fo (fun s k => if fl k then (insF s.1 (ipos (fun j => ah k (s.1 j)) s.2.toNat) s.2 k, s.2 + 1) else s) (A0, 0) k
theorem srt_0 (fl : Int → Bool) (ah : Int → Int → Bool) (A0 : Int → Int) : srt fl ah A0 0 = (A0, 0) := rfl
theorem srt_s {fl : Int → Bool} {ah : Int → Int → Bool} {A0 : Int → Int} {k : Int} (h : 0 ≤ k) : srt fl ah A0 (k + 1) = if fl k then (insF (srt fl ah A0 k).1 (ipos (fun j => ah k ((srt fl ah A0 k).1 j)) (srt fl ah A0 k).2.toNat) (srt fl ah A0 k).2 k, (srt fl ah A0 k).2 + 1) else srt fl ah A0 k := fo_s _ _ h
theorem srt_bd {fl : Int → Bool} {ah : Int → Int → Bool} {A0 : Int → Int} {k : Int} (h : 0 ≤ k) : (0 ≤ (srt fl ah A0 k).2 ∧ (srt fl ah A0 k).2 ≤ k) ∧ ∀ i, 0 ≤ i → i < (srt fl ah A0 k).2 → (0 ≤ (srt fl ah A0 k).1 i ∧ (srt fl ah A0 k).1 i < k) ∧ fl ((srt fl ah A0 k).1 i) = true := by
  refine fo_ind (α := (Int → Int) × Int) (P := fun k s => (0 ≤ s.2 ∧ s.2 ≤ k) ∧ ∀ i, 0 ≤ i → i < s.2 → (0 ≤ s.1 i ∧ s.1 i < k) ∧ fl (s.1 i) = true) ⟨⟨Int.le_refl _, Int.le_refl _⟩, fun i h1 h2 => by dsimp only at h2; omega⟩ (fun k s h1 h2 => ?_) h
  obtain ⟨⟨a1, a2⟩, a3⟩ := h2
  split
  · rename_i hf
    refine ⟨⟨by dsimp only; omega, by dsimp only; omega⟩, fun i q1 q2 => ?_⟩
    dsimp only at q2 ⊢
    obtain ⟨p1, p2, -, -⟩ := ipos_spec (fun j => ah k (s.1 j)) s.2.toNat
    unfold insF
    split
    · have := a3 i q1 (by omega); exact ⟨by omega, this.2⟩
    · split
      · exact ⟨by omega, hf⟩
      · split
        · have := a3 (i - 1) (by omega) (by omega); exact ⟨by omega, this.2⟩
        · omega
  · refine ⟨⟨a1, by omega⟩, fun i q1 q2 => ?_⟩
    have := a3 i q1 q2
    exact ⟨by omega, this.2⟩
/-- only 0 .. k - 1 matter, and the rows agree as far as letters fly -/
theorem srt_cg {fl fl' : Int → Bool} {ah ah' : Int → Int → Bool} {A0 A0' : Int → Int} {k : Int} (h : 0 ≤ k) (h1 : ∀ x, 0 ≤ x → x < k → fl x = fl' x) (h2 : ∀ x y, 0 ≤ x → x < k → 0 ≤ y → y < k → ah x y = ah' x y) : (srt fl ah A0 k).2 = (srt fl' ah' A0' k).2 ∧ ∀ i, 0 ≤ i → i < (srt fl ah A0 k).2 → (srt fl ah A0 k).1 i = (srt fl' ah' A0' k).1 i := by
  obtain ⟨n, rfl⟩ := Int.eq_ofNat_of_zero_le h
  induction n with
  | zero => exact ⟨rfl, fun i a b => by have : (srt fl ah A0 ((0 : Nat) : Int)).2 = 0 := rfl; omega⟩
  | succ n ih =>
    have ih := ih (by omega) (fun x a b => h1 x a (by omega)) (fun x y a b c d => h2 x y a (by omega) c (by omega))
    have e1 := srt_s (fl := fl) (ah := ah) (A0 := A0) (k := (n : Int)) (by omega)
    have e2 := srt_s (fl := fl') (ah := ah') (A0 := A0') (k := (n : Int)) (by omega)
    have b1 := srt_bd (fl := fl) (ah := ah) (A0 := A0) (k := (n : Int)) (by omega)
    rw [show ((n + 1 : Nat) : Int) = (n : Int) + 1 by omega, e1, e2, ← h1 (n : Int) (by omega) (by omega)]
    generalize srt fl ah A0 (n : Int) = s at ih b1 ⊢
    generalize srt fl' ah' A0' (n : Int) = s' at ih ⊢
    obtain ⟨i1, i2⟩ := ih
    split
    · refine ⟨by dsimp only; omega, ?_⟩
      have ep : ∀ q : Nat, (q : Int) ≤ s.2 → ipos (fun j => ah (n : Int) (s.1 j)) q = ipos (fun j => ah' (n : Int) (s'.1 j)) q := by
        intro q
        induction q with
        | zero => intro _; rfl
        | succ q ihq =>
          intro hq
          unfold ipos
          have e : ah (n : Int) (s.1 (q : Int)) = ah' (n : Int) (s'.1 (q : Int)) := by
            rw [← i2 (q : Int) (by omega) (by omega)]
            have := (b1.2 (q : Int) (by omega) (by omega)).1
            exact h2 _ _ (by omega) (by omega) (by omega) (by omega)
          rw [e, ihq (by omega)]
      have ep2 := ep s.2.toNat (by omega)
      intro i q1 q2
      dsimp only at q2 ⊢
      rw [← i1, ← ep2]
      have := ipos_spec (fun j => ah (n : Int) (s.1 j)) s.2.toNat
      unfold insF
      split
      · exact i2 i q1 (by omega)
      · split
        · rfl
        · split
          · exact i2 (i - 1) (by omega) (by omega)
          · omega
    · exact ⟨i1, i2⟩
abbrev ahE (B : Int → Int) (g x y : Int) : Bool := decide (if x = g ∨ y = g then x = g else wgt B x > wgt B y ∨ (wgt B x = wgt B y ∧ x < y))
abbrev flE (B : Int → Int) (k : Int) : Bool := decide (B (85 + 12 * k + 3) = 1)
def sM (m : gm_M) (s : (Int → Int) × Int) : gm_M := fun c j => if c = 637 then s.1 j else if c = 629 ∧ j = 17 then s.2 else m c j
set_option maxHeartbeats 2000000 in
theorem sp_X8_isAhead2 {ro : Nat → Nat × (Int → Int)} {d : Nat} {S : List gm_S} (hS : S = S0) {m : gm_M} {b g x y : Int} (hb : gm_ar S b 565) (h1 : 0 ≤ x) (h2 : x < 40) (h3 : 0 ≤ y) (h4 : y < 40) (h5 : 0 ≤ m b (85 + 12 * x + 5) ∧ m b (85 + 12 * x + 5) ≤ 1000) (h6 : 0 ≤ m b (85 + 12 * y + 5) ∧ m b (85 + 12 * y + 5) ≤ 1000) : gm_sem MT ro (d + 3) k_X8_isAhead [gA b, gI g, gI x, gI y] S m (gI (if (if x = g ∨ y = g then x = g else wgt (m b) x > wgt (m b) y ∨ (wgt (m b) x = wgt (m b) y ∧ x < y)) then 1 else 0)) S (m) := by
  refine gm_sem_of mt_X8_isAhead (Nat.le_of_ble_eq_true rfl) ?_
  dsimp only [gm_en, List.length_cons, List.length_nil, List.replicate, List.cons_append, List.nil_append, Nat.reduceAdd, Nat.reduceSub]
  repeat' (first
    | ((with_reducible refine gm_w0 ?_); refine gm_go rfl ?_)
    | ((with_reducible refine sw_cons (fun hc => ?_) (fun hc => ?_)) <;> try (exfalso; omega))
    | with_reducible refine sw_nil ?_
    | simp (disch := omega) only [w32_id, Int.tdiv_eq_ediv_of_nonneg, Int.tmod_eq_emod_of_nonneg, Int.add_zero]
    | ((with_reducible refine st_getI ?_ ?_); first | assumption | exact N_is' hS (by assumption) | exact N_wis' hS (by assumption) | exact C_629' hS | exact N_lis' hS (by assumption) (by omega) (by omega) | exact C_0' hS | exact C_1' hS | exact C_54' hS | exact C_64' hS | exact C_116' hS)
    | ((with_reducible apply st_getR); (first | assumption | exact N_is' hS (by assumption) | exact N_wis' hS (by assumption) | exact C_629' hS | exact N_lis' hS (by assumption) (by omega) (by omega) | exact C_0' hS | exact C_1' hS | exact C_54' hS | exact C_64' hS | exact C_116' hS); (first | assumption | exact N_web' hS (by assumption) | exact N_letters' hS (by assumption) | exact N_golden' hS (by assumption) | exact N_logged' hS (by assumption) | exact N_open' hS (by assumption) | exact N_last' hS (by assumption) | exact N_beyond' hS (by assumption) | exact N_apart' hS (by assumption) | exact N_steps' hS (by assumption) | exact N_reached' hS (by assumption) | exact F_0_0' hS | exact F_0_1' hS | exact F_0_2' hS | exact F_0_3' hS | exact F_0_4' hS | exact F_0_5' hS | exact F_1_0' hS | exact F_54_0' hS | exact F_54_1' hS | exact F_54_4' hS | exact F_54_5' hS | exact F_54_6' hS | exact F_54_7' hS | exact F_54_8' hS | exact F_54_9' hS | exact F_54_10' hS | exact F_64_0' hS | exact F_64_1' hS | exact F_116_0' hS | exact F_629_0' hS | exact F_629_1' hS | exact F_629_2' hS | exact F_629_4' hS | exact F_629_5' hS | exact F_629_6' hS | exact F_629_15' hS | exact F_629_16' hS | exact F_629_18' hS | exact F_629_19' hS))
    | ((with_reducible refine st_putI ?_ ?_); first | assumption | exact N_is' hS (by assumption) | exact N_wis' hS (by assumption) | exact C_629' hS | exact N_lis' hS (by assumption) (by omega) (by omega) | exact C_0' hS | exact C_1' hS | exact C_54' hS | exact C_64' hS | exact C_116' hS)
    | ((with_reducible refine st_iald ?_ ?_); refine in_of (by first | assumption | exact N_a2' hS (by assumption) | exact N_a3' hS (by assumption) | exact N_a4' hS (by assumption) | exact N_a5' hS (by assumption) | exact N_a6' hS (by assumption) | exact N_a7' hS (by assumption) | exact N_a9' hS (by assumption) | exact N_a10' hS (by assumption) | exact A_630' hS | exact A_631' hS | exact A_632' hS | exact A_633' hS | exact A_635' hS | exact A_636' hS | exact A_637' hS | exact A_638' hS | exact A_639' hS | exact A_2' hS | exact A_55' hS | exact A_56' hS | exact A_57' hS | exact A_58' hS | exact A_59' hS | exact A_60' hS | exact A_61' hS | exact A_62' hS | exact A_63' hS) (by omega) (by omega))
    | ((with_reducible refine st_iast ?_ ?_); refine in_of (by first | assumption | exact N_a2' hS (by assumption) | exact N_a3' hS (by assumption) | exact N_a4' hS (by assumption) | exact N_a5' hS (by assumption) | exact N_a6' hS (by assumption) | exact N_a7' hS (by assumption) | exact N_a9' hS (by assumption) | exact N_a10' hS (by assumption) | exact A_630' hS | exact A_631' hS | exact A_632' hS | exact A_633' hS | exact A_635' hS | exact A_636' hS | exact A_637' hS | exact A_638' hS | exact A_639' hS | exact A_2' hS | exact A_55' hS | exact A_56' hS | exact A_57' hS | exact A_58' hS | exact A_59' hS | exact A_60' hS | exact A_61' hS | exact A_62' hS | exact A_63' hS) (by omega) (by omega))
    | ((with_reducible apply st_aald); (exact N_lin' hS (by assumption) (by omega) (by omega)); (exact N_lrf' hS (by assumption) (by omega) (by omega)))
    | ((with_reducible refine st_icmp (fun hc => ?_) (fun hc => ?_)) <;> (try dsimp only [gm_c] at hc) <;> (try simp only [gm_cmp_lt, gm_cmp_gt, gm_cmp_le, gm_cmp_ge, ite_0, ite_1, ne_eq, Classical.not_not] at hc) <;> try (exfalso; omega))
    | ((with_reducible refine st_if (fun hc => ?_) (fun hc => ?_)) <;> (try dsimp only [gm_c] at hc) <;> (try simp only [gm_cmp_lt, gm_cmp_gt, gm_cmp_le, gm_cmp_ge, ite_0, ite_1, ne_eq, Classical.not_not] at hc) <;> try (exfalso; omega))
    | ((with_reducible refine st_ret ?_ ?_); first | exact Or.inl rfl | exact Or.inr (Or.inl rfl) | exact Or.inr (Or.inr rfl))
    | ((with_reducible refine is_s (p' := 998) ?_ ?_); (exact rfl); refine st_copy (by first | assumption | exact N_a2' hS (by assumption) | exact N_a3' hS (by assumption) | exact N_a4' hS (by assumption) | exact N_a5' hS (by assumption) | exact N_a6' hS (by assumption) | exact N_a7' hS (by assumption) | exact N_a9' hS (by assumption) | exact N_a10' hS (by assumption) | exact A_630' hS | exact A_631' hS | exact A_632' hS | exact A_633' hS | exact A_635' hS | exact A_636' hS | exact A_637' hS | exact A_638' hS | exact A_639' hS | exact A_2' hS | exact A_55' hS | exact A_56' hS | exact A_57' hS | exact A_58' hS | exact A_59' hS | exact A_60' hS | exact A_61' hS | exact A_62' hS | exact A_63' hS) (by first | assumption | exact N_a2' hS (by assumption) | exact N_a3' hS (by assumption) | exact N_a4' hS (by assumption) | exact N_a5' hS (by assumption) | exact N_a6' hS (by assumption) | exact N_a7' hS (by assumption) | exact N_a9' hS (by assumption) | exact N_a10' hS (by assumption) | exact A_630' hS | exact A_631' hS | exact A_632' hS | exact A_633' hS | exact A_635' hS | exact A_636' hS | exact A_637' hS | exact A_638' hS | exact A_639' hS | exact A_2' hS | exact A_55' hS | exact A_56' hS | exact A_57' hS | exact A_58' hS | exact A_59' hS | exact A_60' hS | exact A_61' hS | exact A_62' hS | exact A_63' hS) (by omega) (by omega) (by omega) (by omega) (by omega) (Nat.le_of_ble_eq_true rfl) gm_999s ?_)
    | ((with_reducible refine is_s (p' := 997) ?_ ?_); (exact rfl); refine st_max (Nat.le_of_ble_eq_true rfl) gm_999s ?_)
    | ((with_reducible refine is_s (p' := 996) ?_ ?_); (exact rfl); refine st_min (Nat.le_of_ble_eq_true rfl) gm_999s ?_)
    | ((with_reducible apply st_alen); (refine is_of_ar (by first | assumption | exact N_a2' hS (by assumption) | exact N_a3' hS (by assumption) | exact N_a4' hS (by assumption) | exact N_a5' hS (by assumption) | exact N_a6' hS (by assumption) | exact N_a7' hS (by assumption) | exact N_a9' hS (by assumption) | exact N_a10' hS (by assumption) | exact A_630' hS | exact A_631' hS | exact A_632' hS | exact A_633' hS | exact A_635' hS | exact A_636' hS | exact A_637' hS | exact A_638' hS | exact A_639' hS | exact A_2' hS | exact A_55' hS | exact A_56' hS | exact A_57' hS | exact A_58' hS | exact A_59' hS | exact A_60' hS | exact A_61' hS | exact A_62' hS | exact A_63' hS)); (exact len_of_ar (by first | assumption | exact N_a2' hS (by assumption) | exact N_a3' hS (by assumption) | exact N_a4' hS (by assumption) | exact N_a5' hS (by assumption) | exact N_a6' hS (by assumption) | exact N_a7' hS (by assumption) | exact N_a9' hS (by assumption) | exact N_a10' hS (by assumption) | exact A_630' hS | exact A_631' hS | exact A_632' hS | exact A_633' hS | exact A_635' hS | exact A_636' hS | exact A_637' hS | exact A_638' hS | exact A_639' hS | exact A_2' hS | exact A_55' hS | exact A_56' hS | exact A_57' hS | exact A_58' hS | exact A_59' hS | exact A_60' hS | exact A_61' hS | exact A_62' hS | exact A_63' hS)))
    | ((with_reducible refine st_rem ?_ ?_); first | decide | omega)
    | ((with_reducible refine st_div ?_ ?_); first | decide | omega)
    | ((with_reducible refine is_s (p' := k_X8_weight) ?_ ?_); (exact rfl); refine gm_st2 (by decide) (Nat.le_of_ble_eq_true rfl) (sp_X8_weight hS (by assumption) (by omega) (by omega) (by omega) (by omega)) ?_; dsimp only [gm_ps])
    | dsimp only [gm_step, gm_c, gm_s1, gm_s2, gm_kl, gm_ps, gm_wd, gm_w1, List.getElem?_cons_succ, List.getElem?_cons_zero, List.set_cons_succ, List.set_cons_zero, List.length_cons, List.length_nil, List.drop_succ_cons, List.drop_zero, List.take_succ_cons, List.take_zero, Nat.reduceAdd, Nat.reduceSub, Nat.reduceLeDiff])
  all_goals (refine ⟨?_, (by first | rfl | trivial), (by first | rfl | trivial)⟩; simp_all [wgt]; try omega)
set_option maxHeartbeats 4000000 in
theorem sp_X8_sorts {ro : Nat → Nat × (Int → Int)} {d : Nat} {S : List gm_S} (hS : S = S0) {m : gm_M} {b g : Int} (hb : gm_ar S b 565) (hb2 : b = 630 ∨ b = 631) (hn : 0 ≤ m b 5 ∧ m b 5 ≤ 40) (h5 : ∀ k, 0 ≤ k → k < m b 5 → 0 ≤ m b (85 + 12 * k + 5) ∧ m b (85 + 12 * k + 5) ≤ 1000) : gm_sem MT ro (d + 4) k_X8_sorts [gA 629, gA b, gI g] S m none S (sM m (srt (flE (m b)) (ahE (m b) g) (m 637) (m b 5))) := by
  refine gm_sem_of mt_X8_sorts (Nat.le_of_ble_eq_true rfl) ?_
  dsimp only [gm_en, List.length_cons, List.length_nil, List.replicate, List.cons_append, List.nil_append, Nat.reduceAdd, Nat.reduceSub]
  have hms : ∀ c j, c ≠ 637 → c ≠ 629 → ∀ s, sM m s c j = m c j := fun c j h1 h2 s => by unfold sM; rw [if_neg h1, if_neg (by omega)]
  repeat' (first
    | ((with_reducible refine gm_w0 ?_); refine gm_go rfl ?_)
    | ((with_reducible refine sw_cons (fun hc => ?_) (fun hc => ?_)) <;> try (exfalso; omega))
    | with_reducible refine sw_nil ?_
    | simp (disch := omega) only [w32_id, Int.tdiv_eq_ediv_of_nonneg, Int.tmod_eq_emod_of_nonneg, Int.add_zero]
    | simp (disch := omega) only [hmb, hm7, hmo]
    | ((with_reducible refine st_getI ?_ ?_); first | assumption | exact N_is' hS (by assumption) | exact N_wis' hS (by assumption) | exact C_629' hS | exact N_lis' hS (by assumption) (by omega) (by omega) | exact C_0' hS | exact C_1' hS | exact C_54' hS | exact C_64' hS | exact C_116' hS)
    | ((with_reducible apply st_getR); (first | assumption | exact N_is' hS (by assumption) | exact N_wis' hS (by assumption) | exact C_629' hS | exact N_lis' hS (by assumption) (by omega) (by omega) | exact C_0' hS | exact C_1' hS | exact C_54' hS | exact C_64' hS | exact C_116' hS); (first | assumption | exact N_web' hS (by assumption) | exact N_letters' hS (by assumption) | exact N_golden' hS (by assumption) | exact N_logged' hS (by assumption) | exact N_open' hS (by assumption) | exact N_last' hS (by assumption) | exact N_beyond' hS (by assumption) | exact N_apart' hS (by assumption) | exact N_steps' hS (by assumption) | exact N_reached' hS (by assumption) | exact F_0_0' hS | exact F_0_1' hS | exact F_0_2' hS | exact F_0_3' hS | exact F_0_4' hS | exact F_0_5' hS | exact F_1_0' hS | exact F_54_0' hS | exact F_54_1' hS | exact F_54_4' hS | exact F_54_5' hS | exact F_54_6' hS | exact F_54_7' hS | exact F_54_8' hS | exact F_54_9' hS | exact F_54_10' hS | exact F_64_0' hS | exact F_64_1' hS | exact F_116_0' hS | exact F_629_0' hS | exact F_629_1' hS | exact F_629_2' hS | exact F_629_4' hS | exact F_629_5' hS | exact F_629_6' hS | exact F_629_15' hS | exact F_629_16' hS | exact F_629_18' hS | exact F_629_19' hS))
    | ((with_reducible refine st_putI ?_ ?_); first | assumption | exact N_is' hS (by assumption) | exact N_wis' hS (by assumption) | exact C_629' hS | exact N_lis' hS (by assumption) (by omega) (by omega) | exact C_0' hS | exact C_1' hS | exact C_54' hS | exact C_64' hS | exact C_116' hS)
    | ((with_reducible refine st_iald ?_ ?_); refine in_of (by first | assumption | exact N_a2' hS (by assumption) | exact N_a3' hS (by assumption) | exact N_a4' hS (by assumption) | exact N_a5' hS (by assumption) | exact N_a6' hS (by assumption) | exact N_a7' hS (by assumption) | exact N_a9' hS (by assumption) | exact N_a10' hS (by assumption) | exact A_630' hS | exact A_631' hS | exact A_632' hS | exact A_633' hS | exact A_635' hS | exact A_636' hS | exact A_637' hS | exact A_638' hS | exact A_639' hS | exact A_2' hS | exact A_55' hS | exact A_56' hS | exact A_57' hS | exact A_58' hS | exact A_59' hS | exact A_60' hS | exact A_61' hS | exact A_62' hS | exact A_63' hS) (by omega) (by omega))
    | ((with_reducible refine st_iast ?_ ?_); refine in_of (by first | assumption | exact N_a2' hS (by assumption) | exact N_a3' hS (by assumption) | exact N_a4' hS (by assumption) | exact N_a5' hS (by assumption) | exact N_a6' hS (by assumption) | exact N_a7' hS (by assumption) | exact N_a9' hS (by assumption) | exact N_a10' hS (by assumption) | exact A_630' hS | exact A_631' hS | exact A_632' hS | exact A_633' hS | exact A_635' hS | exact A_636' hS | exact A_637' hS | exact A_638' hS | exact A_639' hS | exact A_2' hS | exact A_55' hS | exact A_56' hS | exact A_57' hS | exact A_58' hS | exact A_59' hS | exact A_60' hS | exact A_61' hS | exact A_62' hS | exact A_63' hS) (by omega) (by omega))
    | ((with_reducible apply st_aald); (exact N_lin' hS (by assumption) (by omega) (by omega)); (exact N_lrf' hS (by assumption) (by omega) (by omega)))
    | ((with_reducible refine st_icmp (fun hc => ?_) (fun hc => ?_)) <;> (try dsimp only [gm_c] at hc) <;> (try simp only [gm_cmp_lt, gm_cmp_gt, gm_cmp_le, gm_cmp_ge, ite_0, ite_1, ne_eq, Classical.not_not] at hc) <;> try (exfalso; omega))
    | ((with_reducible refine st_if (fun hc => ?_) (fun hc => ?_)) <;> (try dsimp only [gm_c] at hc) <;> (try simp only [gm_cmp_lt, gm_cmp_gt, gm_cmp_le, gm_cmp_ge, ite_0, ite_1, ne_eq, Classical.not_not] at hc) <;> try (exfalso; omega))
    | ((with_reducible refine st_ret ?_ ?_); first | exact Or.inl rfl | exact Or.inr (Or.inl rfl) | exact Or.inr (Or.inr rfl))
    | ((with_reducible refine is_s (p' := 998) ?_ ?_); (exact rfl); refine st_copy (by first | assumption | exact N_a2' hS (by assumption) | exact N_a3' hS (by assumption) | exact N_a4' hS (by assumption) | exact N_a5' hS (by assumption) | exact N_a6' hS (by assumption) | exact N_a7' hS (by assumption) | exact N_a9' hS (by assumption) | exact N_a10' hS (by assumption) | exact A_630' hS | exact A_631' hS | exact A_632' hS | exact A_633' hS | exact A_635' hS | exact A_636' hS | exact A_637' hS | exact A_638' hS | exact A_639' hS | exact A_2' hS | exact A_55' hS | exact A_56' hS | exact A_57' hS | exact A_58' hS | exact A_59' hS | exact A_60' hS | exact A_61' hS | exact A_62' hS | exact A_63' hS) (by first | assumption | exact N_a2' hS (by assumption) | exact N_a3' hS (by assumption) | exact N_a4' hS (by assumption) | exact N_a5' hS (by assumption) | exact N_a6' hS (by assumption) | exact N_a7' hS (by assumption) | exact N_a9' hS (by assumption) | exact N_a10' hS (by assumption) | exact A_630' hS | exact A_631' hS | exact A_632' hS | exact A_633' hS | exact A_635' hS | exact A_636' hS | exact A_637' hS | exact A_638' hS | exact A_639' hS | exact A_2' hS | exact A_55' hS | exact A_56' hS | exact A_57' hS | exact A_58' hS | exact A_59' hS | exact A_60' hS | exact A_61' hS | exact A_62' hS | exact A_63' hS) (by omega) (by omega) (by omega) (by omega) (by omega) (Nat.le_of_ble_eq_true rfl) gm_999s ?_)
    | ((with_reducible refine is_s (p' := 997) ?_ ?_); (exact rfl); refine st_max (Nat.le_of_ble_eq_true rfl) gm_999s ?_)
    | ((with_reducible refine is_s (p' := 996) ?_ ?_); (exact rfl); refine st_min (Nat.le_of_ble_eq_true rfl) gm_999s ?_)
    | ((with_reducible apply st_alen); (refine is_of_ar (by first | assumption | exact N_a2' hS (by assumption) | exact N_a3' hS (by assumption) | exact N_a4' hS (by assumption) | exact N_a5' hS (by assumption) | exact N_a6' hS (by assumption) | exact N_a7' hS (by assumption) | exact N_a9' hS (by assumption) | exact N_a10' hS (by assumption) | exact A_630' hS | exact A_631' hS | exact A_632' hS | exact A_633' hS | exact A_635' hS | exact A_636' hS | exact A_637' hS | exact A_638' hS | exact A_639' hS | exact A_2' hS | exact A_55' hS | exact A_56' hS | exact A_57' hS | exact A_58' hS | exact A_59' hS | exact A_60' hS | exact A_61' hS | exact A_62' hS | exact A_63' hS)); (exact len_of_ar (by first | assumption | exact N_a2' hS (by assumption) | exact N_a3' hS (by assumption) | exact N_a4' hS (by assumption) | exact N_a5' hS (by assumption) | exact N_a6' hS (by assumption) | exact N_a7' hS (by assumption) | exact N_a9' hS (by assumption) | exact N_a10' hS (by assumption) | exact A_630' hS | exact A_631' hS | exact A_632' hS | exact A_633' hS | exact A_635' hS | exact A_636' hS | exact A_637' hS | exact A_638' hS | exact A_639' hS | exact A_2' hS | exact A_55' hS | exact A_56' hS | exact A_57' hS | exact A_58' hS | exact A_59' hS | exact A_60' hS | exact A_61' hS | exact A_62' hS | exact A_63' hS)))
    | ((with_reducible refine st_rem ?_ ?_); first | decide | omega)
    | ((with_reducible refine st_div ?_ ?_); first | decide | omega)
    | ((with_reducible refine is_s (p' := k_X8_of) ?_ ?_); (exact rfl); refine gm_st3 (by decide) (Nat.le_of_ble_eq_true rfl) (sp_X8_of hS (by assumption) (by omega) (by omega) (by omega) (by omega)) ?_; dsimp only [gm_ps])
    | dsimp only [gm_step, gm_c, gm_s1, gm_s2, gm_kl, gm_ps, gm_wd, gm_w1, List.getElem?_cons_succ, List.getElem?_cons_zero, List.set_cons_succ, List.set_cons_zero, List.length_cons, List.length_nil, List.drop_succ_cons, List.drop_zero, List.take_succ_cons, List.take_zero, Nat.reduceAdd, Nat.reduceSub, Nat.reduceLeDiff])
  refine up_loop2 (α := gm_M × gm_V) (P := fun k x => x.1 = sM m (srt (flE (m b)) (ahE (m b) g) (m 637) k) → (x.2 = none ∨ ∃ z, x.2 = gI z) → gm_wp (gm_sem MT ro (d + 3)) ro cd_X8_sorts (fun r1 S1 m1 => r1 = none ∧ S1 = S ∧ m1 = sM m (srt (flE (m b)) (ahE (m b) g) (m 637) (m b 5))) 5 [gA 629, gA b, gI g, gI k, x.2] [] S x.1) (a := 0) (N := m b 5) (x := (gm_up m 629 17 0, none)) (by omega) ?_ ?_ ?_ (Or.inl rfl)
  · rintro ⟨mm, v4⟩ hm hv
    dsimp only at hm hv ⊢
    have hmb : ∀ j, mm b j = m b j := fun j => by rw [hm]; exact hms _ _ (by omega) (by omega) _
    have hm7 : mm 629 17 = mm 629 17 := rfl
    have hmo : mm 629 17 = mm 629 17 := rfl
    refine gm_hd rfl ?_
    repeat' (first
      | ((with_reducible refine gm_w0 ?_); refine gm_go rfl ?_)
      | ((with_reducible refine sw_cons (fun hc => ?_) (fun hc => ?_)) <;> try (exfalso; omega))
      | with_reducible refine sw_nil ?_
      | simp (disch := omega) only [w32_id, Int.tdiv_eq_ediv_of_nonneg, Int.tmod_eq_emod_of_nonneg, Int.add_zero]
      | simp (disch := omega) only [hmb, hm7, hmo]
      | ((with_reducible refine st_getI ?_ ?_); first | assumption | exact N_is' hS (by assumption) | exact N_wis' hS (by assumption) | exact C_629' hS | exact N_lis' hS (by assumption) (by omega) (by omega) | exact C_0' hS | exact C_1' hS | exact C_54' hS | exact C_64' hS | exact C_116' hS)
      | ((with_reducible apply st_getR); (first | assumption | exact N_is' hS (by assumption) | exact N_wis' hS (by assumption) | exact C_629' hS | exact N_lis' hS (by assumption) (by omega) (by omega) | exact C_0' hS | exact C_1' hS | exact C_54' hS | exact C_64' hS | exact C_116' hS); (first | assumption | exact N_web' hS (by assumption) | exact N_letters' hS (by assumption) | exact N_golden' hS (by assumption) | exact N_logged' hS (by assumption) | exact N_open' hS (by assumption) | exact N_last' hS (by assumption) | exact N_beyond' hS (by assumption) | exact N_apart' hS (by assumption) | exact N_steps' hS (by assumption) | exact N_reached' hS (by assumption) | exact F_0_0' hS | exact F_0_1' hS | exact F_0_2' hS | exact F_0_3' hS | exact F_0_4' hS | exact F_0_5' hS | exact F_1_0' hS | exact F_54_0' hS | exact F_54_1' hS | exact F_54_4' hS | exact F_54_5' hS | exact F_54_6' hS | exact F_54_7' hS | exact F_54_8' hS | exact F_54_9' hS | exact F_54_10' hS | exact F_64_0' hS | exact F_64_1' hS | exact F_116_0' hS | exact F_629_0' hS | exact F_629_1' hS | exact F_629_2' hS | exact F_629_4' hS | exact F_629_5' hS | exact F_629_6' hS | exact F_629_15' hS | exact F_629_16' hS | exact F_629_18' hS | exact F_629_19' hS))
      | ((with_reducible refine st_putI ?_ ?_); first | assumption | exact N_is' hS (by assumption) | exact N_wis' hS (by assumption) | exact C_629' hS | exact N_lis' hS (by assumption) (by omega) (by omega) | exact C_0' hS | exact C_1' hS | exact C_54' hS | exact C_64' hS | exact C_116' hS)
      | ((with_reducible refine st_iald ?_ ?_); refine in_of (by first | assumption | exact N_a2' hS (by assumption) | exact N_a3' hS (by assumption) | exact N_a4' hS (by assumption) | exact N_a5' hS (by assumption) | exact N_a6' hS (by assumption) | exact N_a7' hS (by assumption) | exact N_a9' hS (by assumption) | exact N_a10' hS (by assumption) | exact A_630' hS | exact A_631' hS | exact A_632' hS | exact A_633' hS | exact A_635' hS | exact A_636' hS | exact A_637' hS | exact A_638' hS | exact A_639' hS | exact A_2' hS | exact A_55' hS | exact A_56' hS | exact A_57' hS | exact A_58' hS | exact A_59' hS | exact A_60' hS | exact A_61' hS | exact A_62' hS | exact A_63' hS) (by omega) (by omega))
      | ((with_reducible refine st_iast ?_ ?_); refine in_of (by first | assumption | exact N_a2' hS (by assumption) | exact N_a3' hS (by assumption) | exact N_a4' hS (by assumption) | exact N_a5' hS (by assumption) | exact N_a6' hS (by assumption) | exact N_a7' hS (by assumption) | exact N_a9' hS (by assumption) | exact N_a10' hS (by assumption) | exact A_630' hS | exact A_631' hS | exact A_632' hS | exact A_633' hS | exact A_635' hS | exact A_636' hS | exact A_637' hS | exact A_638' hS | exact A_639' hS | exact A_2' hS | exact A_55' hS | exact A_56' hS | exact A_57' hS | exact A_58' hS | exact A_59' hS | exact A_60' hS | exact A_61' hS | exact A_62' hS | exact A_63' hS) (by omega) (by omega))
      | ((with_reducible apply st_aald); (exact N_lin' hS (by assumption) (by omega) (by omega)); (exact N_lrf' hS (by assumption) (by omega) (by omega)))
      | ((with_reducible refine st_icmp (fun hc => ?_) (fun hc => ?_)) <;> (try dsimp only [gm_c] at hc) <;> (try simp only [gm_cmp_lt, gm_cmp_gt, gm_cmp_le, gm_cmp_ge, ite_0, ite_1, ne_eq, Classical.not_not] at hc) <;> try (exfalso; omega))
      | ((with_reducible refine st_if (fun hc => ?_) (fun hc => ?_)) <;> (try dsimp only [gm_c] at hc) <;> (try simp only [gm_cmp_lt, gm_cmp_gt, gm_cmp_le, gm_cmp_ge, ite_0, ite_1, ne_eq, Classical.not_not] at hc) <;> try (exfalso; omega))
      | ((with_reducible refine st_ret ?_ ?_); first | exact Or.inl rfl | exact Or.inr (Or.inl rfl) | exact Or.inr (Or.inr rfl))
      | ((with_reducible refine is_s (p' := 998) ?_ ?_); (exact rfl); refine st_copy (by first | assumption | exact N_a2' hS (by assumption) | exact N_a3' hS (by assumption) | exact N_a4' hS (by assumption) | exact N_a5' hS (by assumption) | exact N_a6' hS (by assumption) | exact N_a7' hS (by assumption) | exact N_a9' hS (by assumption) | exact N_a10' hS (by assumption) | exact A_630' hS | exact A_631' hS | exact A_632' hS | exact A_633' hS | exact A_635' hS | exact A_636' hS | exact A_637' hS | exact A_638' hS | exact A_639' hS | exact A_2' hS | exact A_55' hS | exact A_56' hS | exact A_57' hS | exact A_58' hS | exact A_59' hS | exact A_60' hS | exact A_61' hS | exact A_62' hS | exact A_63' hS) (by first | assumption | exact N_a2' hS (by assumption) | exact N_a3' hS (by assumption) | exact N_a4' hS (by assumption) | exact N_a5' hS (by assumption) | exact N_a6' hS (by assumption) | exact N_a7' hS (by assumption) | exact N_a9' hS (by assumption) | exact N_a10' hS (by assumption) | exact A_630' hS | exact A_631' hS | exact A_632' hS | exact A_633' hS | exact A_635' hS | exact A_636' hS | exact A_637' hS | exact A_638' hS | exact A_639' hS | exact A_2' hS | exact A_55' hS | exact A_56' hS | exact A_57' hS | exact A_58' hS | exact A_59' hS | exact A_60' hS | exact A_61' hS | exact A_62' hS | exact A_63' hS) (by omega) (by omega) (by omega) (by omega) (by omega) (Nat.le_of_ble_eq_true rfl) gm_999s ?_)
      | ((with_reducible refine is_s (p' := 997) ?_ ?_); (exact rfl); refine st_max (Nat.le_of_ble_eq_true rfl) gm_999s ?_)
      | ((with_reducible refine is_s (p' := 996) ?_ ?_); (exact rfl); refine st_min (Nat.le_of_ble_eq_true rfl) gm_999s ?_)
      | ((with_reducible apply st_alen); (refine is_of_ar (by first | assumption | exact N_a2' hS (by assumption) | exact N_a3' hS (by assumption) | exact N_a4' hS (by assumption) | exact N_a5' hS (by assumption) | exact N_a6' hS (by assumption) | exact N_a7' hS (by assumption) | exact N_a9' hS (by assumption) | exact N_a10' hS (by assumption) | exact A_630' hS | exact A_631' hS | exact A_632' hS | exact A_633' hS | exact A_635' hS | exact A_636' hS | exact A_637' hS | exact A_638' hS | exact A_639' hS | exact A_2' hS | exact A_55' hS | exact A_56' hS | exact A_57' hS | exact A_58' hS | exact A_59' hS | exact A_60' hS | exact A_61' hS | exact A_62' hS | exact A_63' hS)); (exact len_of_ar (by first | assumption | exact N_a2' hS (by assumption) | exact N_a3' hS (by assumption) | exact N_a4' hS (by assumption) | exact N_a5' hS (by assumption) | exact N_a6' hS (by assumption) | exact N_a7' hS (by assumption) | exact N_a9' hS (by assumption) | exact N_a10' hS (by assumption) | exact A_630' hS | exact A_631' hS | exact A_632' hS | exact A_633' hS | exact A_635' hS | exact A_636' hS | exact A_637' hS | exact A_638' hS | exact A_639' hS | exact A_2' hS | exact A_55' hS | exact A_56' hS | exact A_57' hS | exact A_58' hS | exact A_59' hS | exact A_60' hS | exact A_61' hS | exact A_62' hS | exact A_63' hS)))
      | ((with_reducible refine st_rem ?_ ?_); first | decide | omega)
      | ((with_reducible refine st_div ?_ ?_); first | decide | omega)
      | ((with_reducible refine is_s (p' := k_X8_of) ?_ ?_); (exact rfl); refine gm_st3 (by decide) (Nat.le_of_ble_eq_true rfl) (sp_X8_of hS (by assumption) (by omega) (by omega) (by omega) (by omega)) ?_; dsimp only [gm_ps])
      | dsimp only [gm_step, gm_c, gm_s1, gm_s2, gm_kl, gm_ps, gm_wd, gm_w1, List.getElem?_cons_succ, List.getElem?_cons_zero, List.set_cons_succ, List.set_cons_zero, List.length_cons, List.length_nil, List.drop_succ_cons, List.drop_zero, List.take_succ_cons, List.take_zero, Nat.reduceAdd, Nat.reduceSub, Nat.reduceLeDiff])
    all_goals exact ⟨(by first | rfl | trivial), (by first | rfl | trivial), hm⟩
  · rintro k hk1 hk2 ih ⟨mm, v4⟩ hm hv
    dsimp only at hm hv ⊢
    obtain ⟨⟨hA0, hA2⟩, hA1⟩ := srt_bd (fl := flE (m b)) (ah := ahE (m b) g) (A0 := m 637) hk1
    have hmb : ∀ j, mm b j = m b j := fun j => by rw [hm]; exact hms _ _ (by omega) (by omega) _
    have hm7 : mm 629 17 = (srt (flE (m b)) (ahE (m b) g) (m 637) k).2 := by rw [hm]; simp [sM]
    have hmo : ∀ j, mm 637 j = (srt (flE (m b)) (ahE (m b) g) (m 637) k).1 j := fun j => by rw [hm]; simp [sM]
    have hs := srt_s (fl := flE (m b)) (ah := ahE (m b) g) (A0 := m 637) hk1
    obtain ⟨A, n, hAn⟩ : ∃ A n, srt (flE (m b)) (ahE (m b) g) (m 637) k = (A, n) := ⟨_, _, rfl⟩
    rw [hAn] at hA0 hA2 hA1 hm7 hmo hs
    dsimp only at hA0 hA2 hA1 hm7 hmo hs
    obtain ⟨p1, p2, p3, p4⟩ := ipos_spec (fun j => ahE (m b) g k (A j)) n.toNat
    have ihg : ∀ mm', mm' = sM m (srt (flE (m b)) (ahE (m b) g) (m 637) (k + 1)) → ∀ v, (v = none ∨ ∃ z, v = gI z) → gm_wp (gm_sem MT ro (d + 3)) ro cd_X8_sorts (fun r1 S1 m1 => r1 = none ∧ S1 = S ∧ m1 = sM m (srt (flE (m b)) (ahE (m b) g) (m 637) (m b 5))) 5 [gA 629, gA b, gI g, gI (k + 1), v] [] S mm' := fun mm' h1 v h2 => ih (mm', v) h1 h2
    refine gm_hd rfl ?_
    repeat' (first
      | ((with_reducible refine gm_w0 ?_); refine gm_go rfl ?_)
      | ((with_reducible refine sw_cons (fun hc => ?_) (fun hc => ?_)) <;> try (exfalso; omega))
      | with_reducible refine sw_nil ?_
      | simp (disch := omega) only [w32_id, Int.tdiv_eq_ediv_of_nonneg, Int.tmod_eq_emod_of_nonneg, Int.add_zero]
      | simp (disch := omega) only [hmb, hm7, hmo]
      | ((with_reducible refine st_getI ?_ ?_); first | assumption | exact N_is' hS (by assumption) | exact N_wis' hS (by assumption) | exact C_629' hS | exact N_lis' hS (by assumption) (by omega) (by omega) | exact C_0' hS | exact C_1' hS | exact C_54' hS | exact C_64' hS | exact C_116' hS)
      | ((with_reducible apply st_getR); (first | assumption | exact N_is' hS (by assumption) | exact N_wis' hS (by assumption) | exact C_629' hS | exact N_lis' hS (by assumption) (by omega) (by omega) | exact C_0' hS | exact C_1' hS | exact C_54' hS | exact C_64' hS | exact C_116' hS); (first | assumption | exact N_web' hS (by assumption) | exact N_letters' hS (by assumption) | exact N_golden' hS (by assumption) | exact N_logged' hS (by assumption) | exact N_open' hS (by assumption) | exact N_last' hS (by assumption) | exact N_beyond' hS (by assumption) | exact N_apart' hS (by assumption) | exact N_steps' hS (by assumption) | exact N_reached' hS (by assumption) | exact F_0_0' hS | exact F_0_1' hS | exact F_0_2' hS | exact F_0_3' hS | exact F_0_4' hS | exact F_0_5' hS | exact F_1_0' hS | exact F_54_0' hS | exact F_54_1' hS | exact F_54_4' hS | exact F_54_5' hS | exact F_54_6' hS | exact F_54_7' hS | exact F_54_8' hS | exact F_54_9' hS | exact F_54_10' hS | exact F_64_0' hS | exact F_64_1' hS | exact F_116_0' hS | exact F_629_0' hS | exact F_629_1' hS | exact F_629_2' hS | exact F_629_4' hS | exact F_629_5' hS | exact F_629_6' hS | exact F_629_15' hS | exact F_629_16' hS | exact F_629_18' hS | exact F_629_19' hS))
      | ((with_reducible refine st_putI ?_ ?_); first | assumption | exact N_is' hS (by assumption) | exact N_wis' hS (by assumption) | exact C_629' hS | exact N_lis' hS (by assumption) (by omega) (by omega) | exact C_0' hS | exact C_1' hS | exact C_54' hS | exact C_64' hS | exact C_116' hS)
      | ((with_reducible refine st_iald ?_ ?_); refine in_of (by first | assumption | exact N_a2' hS (by assumption) | exact N_a3' hS (by assumption) | exact N_a4' hS (by assumption) | exact N_a5' hS (by assumption) | exact N_a6' hS (by assumption) | exact N_a7' hS (by assumption) | exact N_a9' hS (by assumption) | exact N_a10' hS (by assumption) | exact A_630' hS | exact A_631' hS | exact A_632' hS | exact A_633' hS | exact A_635' hS | exact A_636' hS | exact A_637' hS | exact A_638' hS | exact A_639' hS | exact A_2' hS | exact A_55' hS | exact A_56' hS | exact A_57' hS | exact A_58' hS | exact A_59' hS | exact A_60' hS | exact A_61' hS | exact A_62' hS | exact A_63' hS) (by omega) (by omega))
      | ((with_reducible refine st_iast ?_ ?_); refine in_of (by first | assumption | exact N_a2' hS (by assumption) | exact N_a3' hS (by assumption) | exact N_a4' hS (by assumption) | exact N_a5' hS (by assumption) | exact N_a6' hS (by assumption) | exact N_a7' hS (by assumption) | exact N_a9' hS (by assumption) | exact N_a10' hS (by assumption) | exact A_630' hS | exact A_631' hS | exact A_632' hS | exact A_633' hS | exact A_635' hS | exact A_636' hS | exact A_637' hS | exact A_638' hS | exact A_639' hS | exact A_2' hS | exact A_55' hS | exact A_56' hS | exact A_57' hS | exact A_58' hS | exact A_59' hS | exact A_60' hS | exact A_61' hS | exact A_62' hS | exact A_63' hS) (by omega) (by omega))
      | ((with_reducible apply st_aald); (exact N_lin' hS (by assumption) (by omega) (by omega)); (exact N_lrf' hS (by assumption) (by omega) (by omega)))
      | ((with_reducible refine st_icmp (fun hc => ?_) (fun hc => ?_)) <;> (try dsimp only [gm_c] at hc) <;> (try simp only [gm_cmp_lt, gm_cmp_gt, gm_cmp_le, gm_cmp_ge, ite_0, ite_1, ne_eq, Classical.not_not] at hc) <;> try (exfalso; omega))
      | ((with_reducible refine st_if (fun hc => ?_) (fun hc => ?_)) <;> (try dsimp only [gm_c] at hc) <;> (try simp only [gm_cmp_lt, gm_cmp_gt, gm_cmp_le, gm_cmp_ge, ite_0, ite_1, ne_eq, Classical.not_not] at hc) <;> try (exfalso; omega))
      | ((with_reducible refine st_ret ?_ ?_); first | exact Or.inl rfl | exact Or.inr (Or.inl rfl) | exact Or.inr (Or.inr rfl))
      | ((with_reducible refine is_s (p' := 998) ?_ ?_); (exact rfl); refine st_copy (by first | assumption | exact N_a2' hS (by assumption) | exact N_a3' hS (by assumption) | exact N_a4' hS (by assumption) | exact N_a5' hS (by assumption) | exact N_a6' hS (by assumption) | exact N_a7' hS (by assumption) | exact N_a9' hS (by assumption) | exact N_a10' hS (by assumption) | exact A_630' hS | exact A_631' hS | exact A_632' hS | exact A_633' hS | exact A_635' hS | exact A_636' hS | exact A_637' hS | exact A_638' hS | exact A_639' hS | exact A_2' hS | exact A_55' hS | exact A_56' hS | exact A_57' hS | exact A_58' hS | exact A_59' hS | exact A_60' hS | exact A_61' hS | exact A_62' hS | exact A_63' hS) (by first | assumption | exact N_a2' hS (by assumption) | exact N_a3' hS (by assumption) | exact N_a4' hS (by assumption) | exact N_a5' hS (by assumption) | exact N_a6' hS (by assumption) | exact N_a7' hS (by assumption) | exact N_a9' hS (by assumption) | exact N_a10' hS (by assumption) | exact A_630' hS | exact A_631' hS | exact A_632' hS | exact A_633' hS | exact A_635' hS | exact A_636' hS | exact A_637' hS | exact A_638' hS | exact A_639' hS | exact A_2' hS | exact A_55' hS | exact A_56' hS | exact A_57' hS | exact A_58' hS | exact A_59' hS | exact A_60' hS | exact A_61' hS | exact A_62' hS | exact A_63' hS) (by omega) (by omega) (by omega) (by omega) (by omega) (Nat.le_of_ble_eq_true rfl) gm_999s ?_)
      | ((with_reducible refine is_s (p' := 997) ?_ ?_); (exact rfl); refine st_max (Nat.le_of_ble_eq_true rfl) gm_999s ?_)
      | ((with_reducible refine is_s (p' := 996) ?_ ?_); (exact rfl); refine st_min (Nat.le_of_ble_eq_true rfl) gm_999s ?_)
      | ((with_reducible apply st_alen); (refine is_of_ar (by first | assumption | exact N_a2' hS (by assumption) | exact N_a3' hS (by assumption) | exact N_a4' hS (by assumption) | exact N_a5' hS (by assumption) | exact N_a6' hS (by assumption) | exact N_a7' hS (by assumption) | exact N_a9' hS (by assumption) | exact N_a10' hS (by assumption) | exact A_630' hS | exact A_631' hS | exact A_632' hS | exact A_633' hS | exact A_635' hS | exact A_636' hS | exact A_637' hS | exact A_638' hS | exact A_639' hS | exact A_2' hS | exact A_55' hS | exact A_56' hS | exact A_57' hS | exact A_58' hS | exact A_59' hS | exact A_60' hS | exact A_61' hS | exact A_62' hS | exact A_63' hS)); (exact len_of_ar (by first | assumption | exact N_a2' hS (by assumption) | exact N_a3' hS (by assumption) | exact N_a4' hS (by assumption) | exact N_a5' hS (by assumption) | exact N_a6' hS (by assumption) | exact N_a7' hS (by assumption) | exact N_a9' hS (by assumption) | exact N_a10' hS (by assumption) | exact A_630' hS | exact A_631' hS | exact A_632' hS | exact A_633' hS | exact A_635' hS | exact A_636' hS | exact A_637' hS | exact A_638' hS | exact A_639' hS | exact A_2' hS | exact A_55' hS | exact A_56' hS | exact A_57' hS | exact A_58' hS | exact A_59' hS | exact A_60' hS | exact A_61' hS | exact A_62' hS | exact A_63' hS)))
      | ((with_reducible refine st_rem ?_ ?_); first | decide | omega)
      | ((with_reducible refine st_div ?_ ?_); first | decide | omega)
      | ((with_reducible refine is_s (p' := k_X8_of) ?_ ?_); (exact rfl); refine gm_st3 (by decide) (Nat.le_of_ble_eq_true rfl) (sp_X8_of hS (by assumption) (by omega) (by omega) (by omega) (by omega)) ?_; dsimp only [gm_ps])
      | dsimp only [gm_step, gm_c, gm_s1, gm_s2, gm_kl, gm_ps, gm_wd, gm_w1, List.getElem?_cons_succ, List.getElem?_cons_zero, List.set_cons_succ, List.set_cons_zero, List.length_cons, List.length_nil, List.drop_succ_cons, List.drop_zero, List.take_succ_cons, List.take_zero, Nat.reduceAdd, Nat.reduceSub, Nat.reduceLeDiff])
    · -- it does not fly
      rw [if_neg (by simp; assumption)] at hs
      refine ihg _ ?_ _ hv
      rw [hm, hs, hAn]
    · -- it flies: into its place
      rw [if_pos (by simp; assumption)] at hs
      generalize hp : ipos (fun j => ahE (m b) g k (A j)) n.toNat = p at p1 p2 p3 p4 hs
      have hnn : ((n.toNat : Nat) : Int) = n := Int.toNat_of_nonneg hA0
      rw [hnn] at p2 p3
      refine dn_loop2 (α := gm_M) (P := fun t mm' => mm' = (fun c j => if c = 637 then (if j ≤ t then A j else if j ≤ n then A (j - 1) else A j) else mm c j) → gm_wp (gm_sem MT ro (d + 3)) ro cd_X8_sorts (fun r1 S1 m1 => r1 = none ∧ S1 = S ∧ m1 = sM m (srt (flE (m b)) (ahE (m b) g) (m 637) (m b 5))) 19 [gA 629, gA b, gI g, gI k, gI t] [] S mm') (a := n) (lo := p) (x := mm) p2 ?_ ?_ ?_
      · intro mm1 hm1
        have hmb1 : ∀ j, mm1 b j = m b j := fun j => by rw [hm1]; show (if b = 637 then _ else _) = _; rw [if_neg (by omega)]; exact hmb j
        have hmbf : mm1 b = m b := funext hmb1
        have hm71 : mm1 629 17 = n := by rw [hm1]; exact hm7
        have hmo1 : ∀ j, j ≤ p → mm1 637 j = A j := fun j hj => by rw [hm1]; show (if (637 : Int) = 637 then _ else _) = _; rw [if_pos rfl, if_pos hj]
        have hA3 : 0 < p → 0 ≤ A (p - 1) ∧ A (p - 1) < k := fun q => (hA1 (p - 1) (by omega) (by omega)).1
        refine gm_hd rfl ?_
        repeat' (first
          | ((with_reducible refine gm_w0 ?_); refine gm_go rfl ?_)
          | ((with_reducible refine sw_cons (fun hc => ?_) (fun hc => ?_)) <;> try (exfalso; omega))
          | with_reducible refine sw_nil ?_
          | simp (disch := omega) only [w32_id, Int.tdiv_eq_ediv_of_nonneg, Int.tmod_eq_emod_of_nonneg, Int.add_zero]
          | simp (disch := omega) only [hmb1, hm71, hmo1, gm_rd_a, gm_rd_s, Int.add_neg_one]
          | ((with_reducible refine st_getI ?_ ?_); first | assumption | exact N_is' hS (by assumption) | exact N_wis' hS (by assumption) | exact C_629' hS | exact N_lis' hS (by assumption) (by omega) (by omega) | exact C_0' hS | exact C_1' hS | exact C_54' hS | exact C_64' hS | exact C_116' hS)
          | ((with_reducible apply st_getR); (first | assumption | exact N_is' hS (by assumption) | exact N_wis' hS (by assumption) | exact C_629' hS | exact N_lis' hS (by assumption) (by omega) (by omega) | exact C_0' hS | exact C_1' hS | exact C_54' hS | exact C_64' hS | exact C_116' hS); (first | assumption | exact N_web' hS (by assumption) | exact N_letters' hS (by assumption) | exact N_golden' hS (by assumption) | exact N_logged' hS (by assumption) | exact N_open' hS (by assumption) | exact N_last' hS (by assumption) | exact N_beyond' hS (by assumption) | exact N_apart' hS (by assumption) | exact N_steps' hS (by assumption) | exact N_reached' hS (by assumption) | exact F_0_0' hS | exact F_0_1' hS | exact F_0_2' hS | exact F_0_3' hS | exact F_0_4' hS | exact F_0_5' hS | exact F_1_0' hS | exact F_54_0' hS | exact F_54_1' hS | exact F_54_4' hS | exact F_54_5' hS | exact F_54_6' hS | exact F_54_7' hS | exact F_54_8' hS | exact F_54_9' hS | exact F_54_10' hS | exact F_64_0' hS | exact F_64_1' hS | exact F_116_0' hS | exact F_629_0' hS | exact F_629_1' hS | exact F_629_2' hS | exact F_629_4' hS | exact F_629_5' hS | exact F_629_6' hS | exact F_629_15' hS | exact F_629_16' hS | exact F_629_18' hS | exact F_629_19' hS))
          | ((with_reducible refine st_putI ?_ ?_); first | assumption | exact N_is' hS (by assumption) | exact N_wis' hS (by assumption) | exact C_629' hS | exact N_lis' hS (by assumption) (by omega) (by omega) | exact C_0' hS | exact C_1' hS | exact C_54' hS | exact C_64' hS | exact C_116' hS)
          | ((with_reducible refine st_iald ?_ ?_); refine in_of (by first | assumption | exact N_a2' hS (by assumption) | exact N_a3' hS (by assumption) | exact N_a4' hS (by assumption) | exact N_a5' hS (by assumption) | exact N_a6' hS (by assumption) | exact N_a7' hS (by assumption) | exact N_a9' hS (by assumption) | exact N_a10' hS (by assumption) | exact A_630' hS | exact A_631' hS | exact A_632' hS | exact A_633' hS | exact A_635' hS | exact A_636' hS | exact A_637' hS | exact A_638' hS | exact A_639' hS | exact A_2' hS | exact A_55' hS | exact A_56' hS | exact A_57' hS | exact A_58' hS | exact A_59' hS | exact A_60' hS | exact A_61' hS | exact A_62' hS | exact A_63' hS) (by omega) (by omega))
          | ((with_reducible refine st_iast ?_ ?_); refine in_of (by first | assumption | exact N_a2' hS (by assumption) | exact N_a3' hS (by assumption) | exact N_a4' hS (by assumption) | exact N_a5' hS (by assumption) | exact N_a6' hS (by assumption) | exact N_a7' hS (by assumption) | exact N_a9' hS (by assumption) | exact N_a10' hS (by assumption) | exact A_630' hS | exact A_631' hS | exact A_632' hS | exact A_633' hS | exact A_635' hS | exact A_636' hS | exact A_637' hS | exact A_638' hS | exact A_639' hS | exact A_2' hS | exact A_55' hS | exact A_56' hS | exact A_57' hS | exact A_58' hS | exact A_59' hS | exact A_60' hS | exact A_61' hS | exact A_62' hS | exact A_63' hS) (by omega) (by omega))
          | ((with_reducible apply st_aald); (exact N_lin' hS (by assumption) (by omega) (by omega)); (exact N_lrf' hS (by assumption) (by omega) (by omega)))
          | ((with_reducible refine st_icmp (fun hc => ?_) (fun hc => ?_)) <;> (try dsimp only [gm_c] at hc) <;> (try simp only [gm_cmp_lt, gm_cmp_gt, gm_cmp_le, gm_cmp_ge, ite_0, ite_1, ne_eq, Classical.not_not] at hc) <;> try (exfalso; omega))
          | ((with_reducible refine st_if (fun hc => ?_) (fun hc => ?_)) <;> (try dsimp only [gm_c] at hc) <;> (try simp only [gm_cmp_lt, gm_cmp_gt, gm_cmp_le, gm_cmp_ge, ite_0, ite_1, ne_eq, Classical.not_not] at hc) <;> try (exfalso; omega))
          | ((with_reducible refine st_ret ?_ ?_); first | exact Or.inl rfl | exact Or.inr (Or.inl rfl) | exact Or.inr (Or.inr rfl))
          | ((with_reducible refine is_s (p' := 998) ?_ ?_); (exact rfl); refine st_copy (by first | assumption | exact N_a2' hS (by assumption) | exact N_a3' hS (by assumption) | exact N_a4' hS (by assumption) | exact N_a5' hS (by assumption) | exact N_a6' hS (by assumption) | exact N_a7' hS (by assumption) | exact N_a9' hS (by assumption) | exact N_a10' hS (by assumption) | exact A_630' hS | exact A_631' hS | exact A_632' hS | exact A_633' hS | exact A_635' hS | exact A_636' hS | exact A_637' hS | exact A_638' hS | exact A_639' hS | exact A_2' hS | exact A_55' hS | exact A_56' hS | exact A_57' hS | exact A_58' hS | exact A_59' hS | exact A_60' hS | exact A_61' hS | exact A_62' hS | exact A_63' hS) (by first | assumption | exact N_a2' hS (by assumption) | exact N_a3' hS (by assumption) | exact N_a4' hS (by assumption) | exact N_a5' hS (by assumption) | exact N_a6' hS (by assumption) | exact N_a7' hS (by assumption) | exact N_a9' hS (by assumption) | exact N_a10' hS (by assumption) | exact A_630' hS | exact A_631' hS | exact A_632' hS | exact A_633' hS | exact A_635' hS | exact A_636' hS | exact A_637' hS | exact A_638' hS | exact A_639' hS | exact A_2' hS | exact A_55' hS | exact A_56' hS | exact A_57' hS | exact A_58' hS | exact A_59' hS | exact A_60' hS | exact A_61' hS | exact A_62' hS | exact A_63' hS) (by omega) (by omega) (by omega) (by omega) (by omega) (Nat.le_of_ble_eq_true rfl) gm_999s ?_)
          | ((with_reducible refine is_s (p' := 997) ?_ ?_); (exact rfl); refine st_max (Nat.le_of_ble_eq_true rfl) gm_999s ?_)
          | ((with_reducible refine is_s (p' := 996) ?_ ?_); (exact rfl); refine st_min (Nat.le_of_ble_eq_true rfl) gm_999s ?_)
          | ((with_reducible apply st_alen); (refine is_of_ar (by first | assumption | exact N_a2' hS (by assumption) | exact N_a3' hS (by assumption) | exact N_a4' hS (by assumption) | exact N_a5' hS (by assumption) | exact N_a6' hS (by assumption) | exact N_a7' hS (by assumption) | exact N_a9' hS (by assumption) | exact N_a10' hS (by assumption) | exact A_630' hS | exact A_631' hS | exact A_632' hS | exact A_633' hS | exact A_635' hS | exact A_636' hS | exact A_637' hS | exact A_638' hS | exact A_639' hS | exact A_2' hS | exact A_55' hS | exact A_56' hS | exact A_57' hS | exact A_58' hS | exact A_59' hS | exact A_60' hS | exact A_61' hS | exact A_62' hS | exact A_63' hS)); (exact len_of_ar (by first | assumption | exact N_a2' hS (by assumption) | exact N_a3' hS (by assumption) | exact N_a4' hS (by assumption) | exact N_a5' hS (by assumption) | exact N_a6' hS (by assumption) | exact N_a7' hS (by assumption) | exact N_a9' hS (by assumption) | exact N_a10' hS (by assumption) | exact A_630' hS | exact A_631' hS | exact A_632' hS | exact A_633' hS | exact A_635' hS | exact A_636' hS | exact A_637' hS | exact A_638' hS | exact A_639' hS | exact A_2' hS | exact A_55' hS | exact A_56' hS | exact A_57' hS | exact A_58' hS | exact A_59' hS | exact A_60' hS | exact A_61' hS | exact A_62' hS | exact A_63' hS)))
          | ((with_reducible refine st_rem ?_ ?_); first | decide | omega)
          | ((with_reducible refine st_div ?_ ?_); first | decide | omega)
          | ((with_reducible refine is_s (p' := k_X8_isAhead) ?_ ?_); (exact rfl); refine gm_st4 (by decide) (Nat.le_of_ble_eq_true rfl) (sp_X8_isAhead2 hS (by assumption) (by omega) (by omega) (hA3 (by omega)).1 (by have := (hA3 (by omega)).2; omega) (by rw [hmb1]; exact h5 _ (by omega) (by omega)) (by rw [hmb1]; exact h5 _ (by first | omega | exact (hA3 (by omega)).1) (by first | omega | (have := (hA3 (by omega)).2; omega)))) ?_; dsimp only [gm_ps])
          | dsimp only [gm_step, gm_c, gm_s1, gm_s2, gm_kl, gm_ps, gm_wd, gm_w1, List.getElem?_cons_succ, List.getElem?_cons_zero, List.set_cons_succ, List.set_cons_zero, List.length_cons, List.length_nil, List.drop_succ_cons, List.drop_zero, List.take_succ_cons, List.take_zero, Nat.reduceAdd, Nat.reduceSub, Nat.reduceLeDiff])
        all_goals first
          | (exfalso; have p5 := p4.resolve_left (by omega); rw [hmbf] at hc; have p6 := of_decide_eq_false p5; exact p6 hc)
          | (refine ihg _ ?_ _ (Or.inr ⟨_, rfl⟩)
             rw [hm1, hm, hs]
             funext c j
             simp only [gm_up, insF, sM, hAn]
             (repeat' split) <;> first | rfl | (exfalso; omega) | omega | (congr 1 <;> omega) | (simp_all; done))
      · intro t ht1 ht2 ihT mm1 hm1
        have hmb1 : ∀ j, mm1 b j = m b j := fun j => by rw [hm1]; show (if b = 637 then _ else _) = _; rw [if_neg (by omega)]; exact hmb j
        have hmbf : mm1 b = m b := funext hmb1
        have hm71 : mm1 629 17 = n := by rw [hm1]; exact hm7
        have hmo1 : ∀ j, j ≤ t → mm1 637 j = A j := fun j hj => by rw [hm1]; show (if (637 : Int) = 637 then _ else _) = _; rw [if_pos rfl, if_pos hj]
        have hA3 : 0 ≤ A (t - 1) ∧ A (t - 1) < k := (hA1 (t - 1) (by omega) (by omega)).1
        have p3t := p3 (t - 1) (by omega) (by omega)
        refine gm_hd rfl ?_
        repeat' (first
          | ((with_reducible refine gm_w0 ?_); refine gm_go rfl ?_)
          | ((with_reducible refine sw_cons (fun hc => ?_) (fun hc => ?_)) <;> try (exfalso; omega))
          | with_reducible refine sw_nil ?_
          | simp (disch := omega) only [w32_id, Int.tdiv_eq_ediv_of_nonneg, Int.tmod_eq_emod_of_nonneg, Int.add_zero]
          | simp (disch := omega) only [hmb1, hm71, hmo1, gm_rd_a, gm_rd_s, Int.add_neg_one]
          | ((with_reducible refine st_getI ?_ ?_); first | assumption | exact N_is' hS (by assumption) | exact N_wis' hS (by assumption) | exact C_629' hS | exact N_lis' hS (by assumption) (by omega) (by omega) | exact C_0' hS | exact C_1' hS | exact C_54' hS | exact C_64' hS | exact C_116' hS)
          | ((with_reducible apply st_getR); (first | assumption | exact N_is' hS (by assumption) | exact N_wis' hS (by assumption) | exact C_629' hS | exact N_lis' hS (by assumption) (by omega) (by omega) | exact C_0' hS | exact C_1' hS | exact C_54' hS | exact C_64' hS | exact C_116' hS); (first | assumption | exact N_web' hS (by assumption) | exact N_letters' hS (by assumption) | exact N_golden' hS (by assumption) | exact N_logged' hS (by assumption) | exact N_open' hS (by assumption) | exact N_last' hS (by assumption) | exact N_beyond' hS (by assumption) | exact N_apart' hS (by assumption) | exact N_steps' hS (by assumption) | exact N_reached' hS (by assumption) | exact F_0_0' hS | exact F_0_1' hS | exact F_0_2' hS | exact F_0_3' hS | exact F_0_4' hS | exact F_0_5' hS | exact F_1_0' hS | exact F_54_0' hS | exact F_54_1' hS | exact F_54_4' hS | exact F_54_5' hS | exact F_54_6' hS | exact F_54_7' hS | exact F_54_8' hS | exact F_54_9' hS | exact F_54_10' hS | exact F_64_0' hS | exact F_64_1' hS | exact F_116_0' hS | exact F_629_0' hS | exact F_629_1' hS | exact F_629_2' hS | exact F_629_4' hS | exact F_629_5' hS | exact F_629_6' hS | exact F_629_15' hS | exact F_629_16' hS | exact F_629_18' hS | exact F_629_19' hS))
          | ((with_reducible refine st_putI ?_ ?_); first | assumption | exact N_is' hS (by assumption) | exact N_wis' hS (by assumption) | exact C_629' hS | exact N_lis' hS (by assumption) (by omega) (by omega) | exact C_0' hS | exact C_1' hS | exact C_54' hS | exact C_64' hS | exact C_116' hS)
          | ((with_reducible refine st_iald ?_ ?_); refine in_of (by first | assumption | exact N_a2' hS (by assumption) | exact N_a3' hS (by assumption) | exact N_a4' hS (by assumption) | exact N_a5' hS (by assumption) | exact N_a6' hS (by assumption) | exact N_a7' hS (by assumption) | exact N_a9' hS (by assumption) | exact N_a10' hS (by assumption) | exact A_630' hS | exact A_631' hS | exact A_632' hS | exact A_633' hS | exact A_635' hS | exact A_636' hS | exact A_637' hS | exact A_638' hS | exact A_639' hS | exact A_2' hS | exact A_55' hS | exact A_56' hS | exact A_57' hS | exact A_58' hS | exact A_59' hS | exact A_60' hS | exact A_61' hS | exact A_62' hS | exact A_63' hS) (by omega) (by omega))
          | ((with_reducible refine st_iast ?_ ?_); refine in_of (by first | assumption | exact N_a2' hS (by assumption) | exact N_a3' hS (by assumption) | exact N_a4' hS (by assumption) | exact N_a5' hS (by assumption) | exact N_a6' hS (by assumption) | exact N_a7' hS (by assumption) | exact N_a9' hS (by assumption) | exact N_a10' hS (by assumption) | exact A_630' hS | exact A_631' hS | exact A_632' hS | exact A_633' hS | exact A_635' hS | exact A_636' hS | exact A_637' hS | exact A_638' hS | exact A_639' hS | exact A_2' hS | exact A_55' hS | exact A_56' hS | exact A_57' hS | exact A_58' hS | exact A_59' hS | exact A_60' hS | exact A_61' hS | exact A_62' hS | exact A_63' hS) (by omega) (by omega))
          | ((with_reducible apply st_aald); (exact N_lin' hS (by assumption) (by omega) (by omega)); (exact N_lrf' hS (by assumption) (by omega) (by omega)))
          | ((with_reducible refine st_icmp (fun hc => ?_) (fun hc => ?_)) <;> (try dsimp only [gm_c] at hc) <;> (try simp only [gm_cmp_lt, gm_cmp_gt, gm_cmp_le, gm_cmp_ge, ite_0, ite_1, ne_eq, Classical.not_not] at hc) <;> try (exfalso; omega))
          | ((with_reducible refine st_if (fun hc => ?_) (fun hc => ?_)) <;> (try dsimp only [gm_c] at hc) <;> (try simp only [gm_cmp_lt, gm_cmp_gt, gm_cmp_le, gm_cmp_ge, ite_0, ite_1, ne_eq, Classical.not_not] at hc) <;> try (exfalso; omega))
          | ((with_reducible refine st_ret ?_ ?_); first | exact Or.inl rfl | exact Or.inr (Or.inl rfl) | exact Or.inr (Or.inr rfl))
          | ((with_reducible refine is_s (p' := 998) ?_ ?_); (exact rfl); refine st_copy (by first | assumption | exact N_a2' hS (by assumption) | exact N_a3' hS (by assumption) | exact N_a4' hS (by assumption) | exact N_a5' hS (by assumption) | exact N_a6' hS (by assumption) | exact N_a7' hS (by assumption) | exact N_a9' hS (by assumption) | exact N_a10' hS (by assumption) | exact A_630' hS | exact A_631' hS | exact A_632' hS | exact A_633' hS | exact A_635' hS | exact A_636' hS | exact A_637' hS | exact A_638' hS | exact A_639' hS | exact A_2' hS | exact A_55' hS | exact A_56' hS | exact A_57' hS | exact A_58' hS | exact A_59' hS | exact A_60' hS | exact A_61' hS | exact A_62' hS | exact A_63' hS) (by first | assumption | exact N_a2' hS (by assumption) | exact N_a3' hS (by assumption) | exact N_a4' hS (by assumption) | exact N_a5' hS (by assumption) | exact N_a6' hS (by assumption) | exact N_a7' hS (by assumption) | exact N_a9' hS (by assumption) | exact N_a10' hS (by assumption) | exact A_630' hS | exact A_631' hS | exact A_632' hS | exact A_633' hS | exact A_635' hS | exact A_636' hS | exact A_637' hS | exact A_638' hS | exact A_639' hS | exact A_2' hS | exact A_55' hS | exact A_56' hS | exact A_57' hS | exact A_58' hS | exact A_59' hS | exact A_60' hS | exact A_61' hS | exact A_62' hS | exact A_63' hS) (by omega) (by omega) (by omega) (by omega) (by omega) (Nat.le_of_ble_eq_true rfl) gm_999s ?_)
          | ((with_reducible refine is_s (p' := 997) ?_ ?_); (exact rfl); refine st_max (Nat.le_of_ble_eq_true rfl) gm_999s ?_)
          | ((with_reducible refine is_s (p' := 996) ?_ ?_); (exact rfl); refine st_min (Nat.le_of_ble_eq_true rfl) gm_999s ?_)
          | ((with_reducible apply st_alen); (refine is_of_ar (by first | assumption | exact N_a2' hS (by assumption) | exact N_a3' hS (by assumption) | exact N_a4' hS (by assumption) | exact N_a5' hS (by assumption) | exact N_a6' hS (by assumption) | exact N_a7' hS (by assumption) | exact N_a9' hS (by assumption) | exact N_a10' hS (by assumption) | exact A_630' hS | exact A_631' hS | exact A_632' hS | exact A_633' hS | exact A_635' hS | exact A_636' hS | exact A_637' hS | exact A_638' hS | exact A_639' hS | exact A_2' hS | exact A_55' hS | exact A_56' hS | exact A_57' hS | exact A_58' hS | exact A_59' hS | exact A_60' hS | exact A_61' hS | exact A_62' hS | exact A_63' hS)); (exact len_of_ar (by first | assumption | exact N_a2' hS (by assumption) | exact N_a3' hS (by assumption) | exact N_a4' hS (by assumption) | exact N_a5' hS (by assumption) | exact N_a6' hS (by assumption) | exact N_a7' hS (by assumption) | exact N_a9' hS (by assumption) | exact N_a10' hS (by assumption) | exact A_630' hS | exact A_631' hS | exact A_632' hS | exact A_633' hS | exact A_635' hS | exact A_636' hS | exact A_637' hS | exact A_638' hS | exact A_639' hS | exact A_2' hS | exact A_55' hS | exact A_56' hS | exact A_57' hS | exact A_58' hS | exact A_59' hS | exact A_60' hS | exact A_61' hS | exact A_62' hS | exact A_63' hS)))
          | ((with_reducible refine st_rem ?_ ?_); first | decide | omega)
          | ((with_reducible refine st_div ?_ ?_); first | decide | omega)
          | ((with_reducible refine is_s (p' := k_X8_isAhead) ?_ ?_); (exact rfl); refine gm_st4 (by decide) (Nat.le_of_ble_eq_true rfl) (sp_X8_isAhead2 hS (by assumption) (by omega) (by omega) hA3.1 (by omega) (by rw [hmb1]; exact h5 _ (by omega) (by omega)) (by rw [hmb1]; exact h5 _ (by first | omega | exact (hA3 (by omega)).1) (by first | omega | (have := (hA3 (by omega)).2; omega)))) ?_; dsimp only [gm_ps])
          | dsimp only [gm_step, gm_c, gm_s1, gm_s2, gm_kl, gm_ps, gm_wd, gm_w1, List.getElem?_cons_succ, List.getElem?_cons_zero, List.set_cons_succ, List.set_cons_zero, List.length_cons, List.length_nil, List.drop_succ_cons, List.drop_zero, List.take_succ_cons, List.take_zero, Nat.reduceAdd, Nat.reduceSub, Nat.reduceLeDiff])
        all_goals first
          | (exfalso; rw [hmbf] at hc; exact hc (of_decide_eq_true p3t))
          | (refine ihT _ ?_
             rw [hm1]
             funext c j
             simp only [gm_up]
             (repeat' split) <;> first | rfl | (exfalso; omega) | omega | (congr 1 <;> omega) | (simp_all; done))
      · funext c j
        by_cases hc : c = 637
        · subst hc
          rw [hmo]
          simp only [if_true]
          (repeat' split) <;> first | rfl | (exfalso; omega) | omega
        · simp only [if_neg hc]
  · funext c j
    simp only [gm_up, sM, srt_0]
    (repeat' split) <;> first | rfl | (exfalso; omega) | omega | (simp_all; done)

