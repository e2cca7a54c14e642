/-! ===== THE CELLS: the class's object at 0 (tape 1, now 3, turner 54, seer 64, acts 116, images 526), the reference's at 629; a NET at a: its web a + 1, rows a + 2 to a + 10, letters from a + 11 on ===== -/
def ly_net (a : Int) : List gm_S := [(2, 9, [some (a + 1), some (a + 8), none, none, none, some (a + 9), none, some (a + 10), none]), (6, 8, [none, none, some (a + 2), some (a + 3), some (a + 4), some (a + 5), some (a + 6), some (a + 7)]), (10, 16, []), (10, 16, []), (10, 64, []), (10, 256, []), (10, 16, []), (10, 16, []), (12, 40, (List.range 40).map (fun i : Nat => some (a + 11 + (i : Int)))), (10, 5, []), (10, 40, [])] ++ List.replicate 40 (1, 12, List.replicate 12 none)
def S0 : List gm_S := [(7, 6, [some 1, some 3, some 54, some 64, some 116, some 526]), (4, 7, [some 2, none, none, none, none, none, none]), (10, 140, [])] ++ (ly_net 3 ++ ([(5, 11, [some 55, some 56, none, none, some 57, some 58, some 59, some 60, some 61, some 62, some 63]), (10, 40, []), (10, 40, []), (10, 40, []), (10, 40, []), (10, 16, []), (10, 16, []), (10, 16, []), (10, 4, []), (10, 4, []), (3, 2, [some 65, some 54])] ++ (ly_net 65 ++ ([(0, 3, [some 117, none, none]), (13, 8, [some 118, some 169, some 220, some 271, some 322, some 373, some 424, some 475])] ++ (ly_net 118 ++ (ly_net 169 ++ (ly_net 220 ++ (ly_net 271 ++ (ly_net 322 ++ (ly_net 373 ++ (ly_net 424 ++ (ly_net 475 ++ ([(13, 2, [some 527, some 578])] ++ (ly_net 527 ++ (ly_net 578 ++ ([(8, 20, [some 630, some 631, some 632, none, some 633, some 634, some 635, none, none, none, none, none, none, none, none, some 636, some 637, none, some 638, some 639]), (10, 565, []), (10, 565, []), (10, 4520, []), (10, 1130, []), (11, 2, []), (10, 140, []), (10, 256, []), (10, 40, []), (10, 40, []), (10, 4, [])]))))))))))))))))
def ly_nets : List Int := [3, 65, 118, 169, 220, 271, 322, 373, 424, 475, 527, 578]
/-- an address of a NET of the class -/
def gN (a : Int) : Prop := a ∈ ly_nets
theorem gN_lo {a : Int} (h : gN a) : 3 ≤ a ∧ a ≤ 578 := by
  have : ∀ a ∈ ly_nets, 3 ≤ a ∧ a ≤ 578 := by decide
  exact this a h
def gm_ar (S : List gm_S) (a : Int) (n : Nat) : Prop := 0 ≤ a ∧ S[a.toNat]? = some (10, n, [])
theorem in_of {S : List gm_S} {a j : Int} {n : Nat} (h : gm_ar S a n) (h0 : 0 ≤ j) (h1 : j < (n : Int)) : gm_in S a 10 j := ⟨h.1, h0, n, [], h.2, h1⟩
theorem is_of_ar {S : List gm_S} {a : Int} {n : Nat} (h : gm_ar S a n) : gm_is S a 10 := ⟨h.1, n, [], h.2⟩
theorem len_of_ar {S : List gm_S} {a : Int} {n : Nat} (h : gm_ar S a n) : gm_len S a = (n : Int) := by unfold gm_len; rw [h.2]
theorem is_of {S : List gm_S} {a : Int} {c n : Nat} {rs : List (Option Int)} (h0 : 0 ≤ a) (h : S[a.toNat]? = some (c, n, rs)) : gm_is S a c := ⟨h0, n, rs, h⟩
theorem rf_of {S : List gm_S} {a b : Int} {c n q : Nat} {rs : List (Option Int)} (h : S[a.toNat]? = some (c, n, rs)) (hq : rs[q]? = some (some b)) : gm_rf S a q = some b := by
  unfold gm_rf
  rw [h]
  simp only [hq, Option.join_some]
def ly_ck (a : Int) : Bool := decide (S0[a.toNat]? = some (2, 9, [some (a + 1), some (a + 8), none, none, none, some (a + 9), none, some (a + 10), none])) && (decide (S0[(a + 1).toNat]? = some (6, 8, [none, none, some (a + 2), some (a + 3), some (a + 4), some (a + 5), some (a + 6), some (a + 7)])) && (decide (S0[(a + 2).toNat]? = some (10, 16, [])) && (decide (S0[(a + 3).toNat]? = some (10, 16, [])) && (decide (S0[(a + 4).toNat]? = some (10, 64, [])) && (decide (S0[(a + 5).toNat]? = some (10, 256, [])) && (decide (S0[(a + 6).toNat]? = some (10, 16, [])) && (decide (S0[(a + 7).toNat]? = some (10, 16, [])) && (decide (S0[(a + 8).toNat]? = some (12, 40, (List.range 40).map (fun i : Nat => some (a + 11 + (i : Int))))) && (decide (S0[(a + 9).toNat]? = some (10, 5, [])) && decide (S0[(a + 10).toNat]? = some (10, 40, [])))))))))))
theorem ly_ck_all : ly_nets.all ly_ck = true := by decide +kernel
theorem ly_all (a : Int) (h : a ∈ ly_nets) : S0[a.toNat]? = some (2, 9, [some (a + 1), some (a + 8), none, none, none, some (a + 9), none, some (a + 10), none]) ∧ S0[(a + 1).toNat]? = some (6, 8, [none, none, some (a + 2), some (a + 3), some (a + 4), some (a + 5), some (a + 6), some (a + 7)]) ∧ S0[(a + 2).toNat]? = some (10, 16, []) ∧ S0[(a + 3).toNat]? = some (10, 16, []) ∧ S0[(a + 4).toNat]? = some (10, 64, []) ∧ S0[(a + 5).toNat]? = some (10, 256, []) ∧ S0[(a + 6).toNat]? = some (10, 16, []) ∧ S0[(a + 7).toNat]? = some (10, 16, []) ∧ S0[(a + 8).toNat]? = some (12, 40, (List.range 40).map (fun i : Nat => some (a + 11 + (i : Int)))) ∧ S0[(a + 9).toNat]? = some (10, 5, []) ∧ S0[(a + 10).toNat]? = some (10, 40, []) := by
  have h1 := List.all_eq_true.mp ly_ck_all a h
  unfold ly_ck at h1
  simp only [Bool.and_eq_true, decide_eq_true_eq] at h1
  exact h1
def ly_ck2 (a : Int) : Bool := (List.range 40).all (fun i : Nat => decide (S0[(a + 11 + (i : Int)).toNat]? = some (1, 12, List.replicate 12 none)))
theorem ly_ck2_all : ly_nets.all ly_ck2 = true := by decide +kernel
theorem ly_let (a : Int) (h : a ∈ ly_nets) (i : Nat) (hi : i < 40) : S0[(a + 11 + (i : Int)).toNat]? = some (1, 12, List.replicate 12 none) := by
  have h1 := List.all_eq_true.mp ly_ck2_all a h
  unfold ly_ck2 at h1
  exact of_decide_eq_true (List.all_eq_true.mp h1 i (List.mem_range.mpr hi))
theorem N_is {a : Int} (h : gN a) : gm_is S0 a 2 := is_of (by have := gN_lo h; omega) (ly_all a h).1
theorem N_web {a : Int} (h : gN a) : gm_rf S0 a 0 = some (a + 1) := rf_of (ly_all a h).1 rfl
theorem N_letters {a : Int} (h : gN a) : gm_rf S0 a 1 = some (a + 8) := rf_of (ly_all a h).1 rfl
theorem N_golden {a : Int} (h : gN a) : gm_rf S0 a 5 = some (a + 9) := rf_of (ly_all a h).1 rfl
theorem N_logged {a : Int} (h : gN a) : gm_rf S0 a 7 = some (a + 10) := rf_of (ly_all a h).1 rfl
theorem N_wis {a : Int} (h : gN a) : gm_is S0 (a + 1) 6 := is_of (by have := gN_lo h; omega) (ly_all a h).2.1
theorem N_open {a : Int} (h : gN a) : gm_rf S0 (a + 1) 2 = some (a + 2) := rf_of (ly_all a h).2.1 rfl
theorem N_last {a : Int} (h : gN a) : gm_rf S0 (a + 1) 3 = some (a + 3) := rf_of (ly_all a h).2.1 rfl
theorem N_beyond {a : Int} (h : gN a) : gm_rf S0 (a + 1) 4 = some (a + 4) := rf_of (ly_all a h).2.1 rfl
theorem N_apart {a : Int} (h : gN a) : gm_rf S0 (a + 1) 5 = some (a + 5) := rf_of (ly_all a h).2.1 rfl
theorem N_steps {a : Int} (h : gN a) : gm_rf S0 (a + 1) 6 = some (a + 6) := rf_of (ly_all a h).2.1 rfl
theorem N_reached {a : Int} (h : gN a) : gm_rf S0 (a + 1) 7 = some (a + 7) := rf_of (ly_all a h).2.1 rfl
theorem N_a2 {a : Int} (h : gN a) : gm_ar S0 (a + 2) 16 := ⟨by have := gN_lo h; omega, (ly_all a h).2.2.1⟩
theorem N_a3 {a : Int} (h : gN a) : gm_ar S0 (a + 3) 16 := ⟨by have := gN_lo h; omega, (ly_all a h).2.2.2.1⟩
theorem N_a4 {a : Int} (h : gN a) : gm_ar S0 (a + 4) 64 := ⟨by have := gN_lo h; omega, (ly_all a h).2.2.2.2.1⟩
theorem N_a5 {a : Int} (h : gN a) : gm_ar S0 (a + 5) 256 := ⟨by have := gN_lo h; omega, (ly_all a h).2.2.2.2.2.1⟩
theorem N_a6 {a : Int} (h : gN a) : gm_ar S0 (a + 6) 16 := ⟨by have := gN_lo h; omega, (ly_all a h).2.2.2.2.2.2.1⟩
theorem N_a7 {a : Int} (h : gN a) : gm_ar S0 (a + 7) 16 := ⟨by have := gN_lo h; omega, (ly_all a h).2.2.2.2.2.2.2.1⟩
theorem N_a9 {a : Int} (h : gN a) : gm_ar S0 (a + 9) 5 := ⟨by have := gN_lo h; omega, (ly_all a h).2.2.2.2.2.2.2.2.2.1⟩
theorem N_a10 {a : Int} (h : gN a) : gm_ar S0 (a + 10) 40 := ⟨by have := gN_lo h; omega, (ly_all a h).2.2.2.2.2.2.2.2.2.2⟩
theorem N_lin {a j : Int} (h : gN a) (h0 : 0 ≤ j) (h1 : j < 40) : gm_in S0 (a + 8) 12 j := ⟨by have := gN_lo h; omega, h0, 40, _, (ly_all a h).2.2.2.2.2.2.2.2.1, by omega⟩
theorem N_lrf {a j : Int} (h : gN a) (h0 : 0 ≤ j) (h1 : j < 40) : gm_rf S0 (a + 8) j.toNat = some (a + 11 + j) := by
  refine rf_of (ly_all a h).2.2.2.2.2.2.2.2.1 ?_
  rw [List.getElem?_map, List.getElem?_range (by omega)]
  simp only [Option.map_some, Int.toNat_of_nonneg h0]
theorem N_lis {a j : Int} (h : gN a) (h0 : 0 ≤ j) (h1 : j < 40) : gm_is S0 (a + 11 + j) 1 := by
  have := ly_let a h j.toNat (by omega)
  rw [Int.toNat_of_nonneg h0] at this
  exact is_of (by have := gN_lo h; omega) this
theorem gN_3 : gN 3 := by unfold gN; decide
theorem gN_65 : gN 65 := by unfold gN; decide
theorem gN_acts {j : Int} (h0 : 0 ≤ j) (h1 : j < 8) : gN (118 + 51 * j) := by
  have : ∀ i : Nat, i < 8 → (118 + 51 * (i : Int)) ∈ ly_nets := by decide
  have := this j.toNat (by omega)
  rw [Int.toNat_of_nonneg h0] at this
  exact this
theorem gN_imgs {j : Int} (h0 : 0 ≤ j) (h1 : j < 2) : gN (527 + 51 * j) := by
  have : ∀ i : Nat, i < 2 → (527 + 51 * (i : Int)) ∈ ly_nets := by decide
  have := this j.toNat (by omega)
  rw [Int.toNat_of_nonneg h0] at this
  exact this
theorem C_0 : gm_is S0 0 7 := is_of (by decide) (by decide +kernel : S0[(0 : Int).toNat]? = some (7, 6, [some 1, some 3, some 54, some 64, some 116, some 526]))
theorem F_0_0 : gm_rf S0 0 0 = some 1 := by decide +kernel
theorem F_0_1 : gm_rf S0 0 1 = some 3 := by decide +kernel
theorem F_0_2 : gm_rf S0 0 2 = some 54 := by decide +kernel
theorem F_0_3 : gm_rf S0 0 3 = some 64 := by decide +kernel
theorem F_0_4 : gm_rf S0 0 4 = some 116 := by decide +kernel
theorem F_0_5 : gm_rf S0 0 5 = some 526 := by decide +kernel
theorem C_1 : gm_is S0 1 4 := is_of (by decide) (by decide +kernel : S0[(1 : Int).toNat]? = some (4, 7, [some 2, none, none, none, none, none, none]))
theorem F_1_0 : gm_rf S0 1 0 = some 2 := by decide +kernel
theorem A_2 : gm_ar S0 2 140 := ⟨by decide, by decide +kernel⟩
theorem C_54 : gm_is S0 54 5 := is_of (by decide) (by decide +kernel : S0[(54 : Int).toNat]? = some (5, 11, [some 55, some 56, none, none, some 57, some 58, some 59, some 60, some 61, some 62, some 63]))
theorem F_54_0 : gm_rf S0 54 0 = some 55 := by decide +kernel
theorem F_54_1 : gm_rf S0 54 1 = some 56 := by decide +kernel
theorem F_54_4 : gm_rf S0 54 4 = some 57 := by decide +kernel
theorem F_54_5 : gm_rf S0 54 5 = some 58 := by decide +kernel
theorem F_54_6 : gm_rf S0 54 6 = some 59 := by decide +kernel
theorem F_54_7 : gm_rf S0 54 7 = some 60 := by decide +kernel
theorem F_54_8 : gm_rf S0 54 8 = some 61 := by decide +kernel
theorem F_54_9 : gm_rf S0 54 9 = some 62 := by decide +kernel
theorem F_54_10 : gm_rf S0 54 10 = some 63 := by decide +kernel
theorem A_55 : gm_ar S0 55 40 := ⟨by decide, by decide +kernel⟩
theorem A_56 : gm_ar S0 56 40 := ⟨by decide, by decide +kernel⟩
theorem A_57 : gm_ar S0 57 40 := ⟨by decide, by decide +kernel⟩
theorem A_58 : gm_ar S0 58 40 := ⟨by decide, by decide +kernel⟩
theorem A_59 : gm_ar S0 59 16 := ⟨by decide, by decide +kernel⟩
theorem A_60 : gm_ar S0 60 16 := ⟨by decide, by decide +kernel⟩
theorem A_61 : gm_ar S0 61 16 := ⟨by decide, by decide +kernel⟩
theorem A_62 : gm_ar S0 62 4 := ⟨by decide, by decide +kernel⟩
theorem A_63 : gm_ar S0 63 4 := ⟨by decide, by decide +kernel⟩
theorem C_64 : gm_is S0 64 3 := is_of (by decide) (by decide +kernel : S0[(64 : Int).toNat]? = some (3, 2, [some 65, some 54]))
theorem F_64_0 : gm_rf S0 64 0 = some 65 := by decide +kernel
theorem F_64_1 : gm_rf S0 64 1 = some 54 := by decide +kernel
theorem C_116 : gm_is S0 116 0 := is_of (by decide) (by decide +kernel : S0[(116 : Int).toNat]? = some (0, 3, [some 117, none, none]))
theorem F_116_0 : gm_rf S0 116 0 = some 117 := by decide +kernel
theorem C_629 : gm_is S0 629 8 := is_of (by decide) (by decide +kernel : S0[(629 : Int).toNat]? = some (8, 20, [some 630, some 631, some 632, none, some 633, some 634, some 635, none, none, none, none, none, none, none, none, some 636, some 637, none, some 638, some 639]))
theorem F_629_0 : gm_rf S0 629 0 = some 630 := by decide +kernel
theorem F_629_1 : gm_rf S0 629 1 = some 631 := by decide +kernel
theorem F_629_2 : gm_rf S0 629 2 = some 632 := by decide +kernel
theorem F_629_4 : gm_rf S0 629 4 = some 633 := by decide +kernel
theorem F_629_5 : gm_rf S0 629 5 = some 634 := by decide +kernel
theorem F_629_6 : gm_rf S0 629 6 = some 635 := by decide +kernel
theorem F_629_15 : gm_rf S0 629 15 = some 636 := by decide +kernel
theorem F_629_16 : gm_rf S0 629 16 = some 637 := by decide +kernel
theorem F_629_18 : gm_rf S0 629 18 = some 638 := by decide +kernel
theorem F_629_19 : gm_rf S0 629 19 = some 639 := by decide +kernel
theorem A_630 : gm_ar S0 630 565 := ⟨by decide, by decide +kernel⟩
theorem A_631 : gm_ar S0 631 565 := ⟨by decide, by decide +kernel⟩
theorem A_632 : gm_ar S0 632 4520 := ⟨by decide, by decide +kernel⟩
theorem A_633 : gm_ar S0 633 1130 := ⟨by decide, by decide +kernel⟩
theorem A_635 : gm_ar S0 635 140 := ⟨by decide, by decide +kernel⟩
theorem A_636 : gm_ar S0 636 256 := ⟨by decide, by decide +kernel⟩
theorem A_637 : gm_ar S0 637 40 := ⟨by decide, by decide +kernel⟩
theorem A_638 : gm_ar S0 638 40 := ⟨by decide, by decide +kernel⟩
theorem A_639 : gm_ar S0 639 4 := ⟨by decide, by decide +kernel⟩
theorem T_in117 {j : Int} (h0 : 0 ≤ j) (h1 : j < 8) : gm_in S0 117 13 j := ⟨by decide, h0, 8, _, (by decide +kernel : S0[(117 : Int).toNat]? = some (13, 8, [some 118, some 169, some 220, some 271, some 322, some 373, some 424, some 475])), by omega⟩
theorem T_rf117 {j : Int} (h0 : 0 ≤ j) (h1 : j < 8) : gm_rf S0 117 j.toNat = some (118 + 51 * j) := by
  have : ∀ i : Nat, i < 8 → gm_rf S0 117 i = some (118 + 51 * (i : Int)) := by decide +kernel
  have := this j.toNat (by omega)
  rw [Int.toNat_of_nonneg h0] at this
  exact this
theorem T_in526 {j : Int} (h0 : 0 ≤ j) (h1 : j < 2) : gm_in S0 526 13 j := ⟨by decide, h0, 2, _, (by decide +kernel : S0[(526 : Int).toNat]? = some (13, 2, [some 527, some 578])), by omega⟩
theorem T_rf526 {j : Int} (h0 : 0 ≤ j) (h1 : j < 2) : gm_rf S0 526 j.toNat = some (527 + 51 * j) := by
  have : ∀ i : Nat, i < 2 → gm_rf S0 526 i = some (527 + 51 * (i : Int)) := by decide +kernel
  have := this j.toNat (by omega)
  rw [Int.toNat_of_nonneg h0] at this
  exact this
theorem T_in634 {j : Int} (h0 : 0 ≤ j) (h1 : j < 2) : gm_in S0 634 11 j := ⟨by decide, h0, 2, _, (by decide +kernel : S0[(634 : Int).toNat]? = some (11, 2, [])), by omega⟩
/-! calls -/
theorem gm_sem_of {ro : Nat → Nat × (Int → Int)} {d k : Nat} {y : MethodName} {cc : ByteArray} {nL own : Nat} {ret : Option FieldType} {cd : List gm_O} (hM : MT k = some (y, cc, nL, ret, own, cd)) {args : List gm_V} {S S' : List gm_S} {m m' : gm_M} {r : gm_V} (hn : (gm_en args).length ≤ nL)
    (h : gm_wp (gm_sem MT ro d) ro cd (fun r1 S1 m1 => r1 = r ∧ S1 = S' ∧ m1 = m') 0 (gm_en args ++ List.replicate (nL - (gm_en args).length) none) [] S m) : gm_sem MT ro (d + 1) k args S m r S' m' := Or.inr ⟨_, hM, hn, h⟩
section LY
variable {C : gm_C} {ro : Nat → Nat × (Int → Int)} {p q i n : Nat} {x : Int} {ts : List (Int × Nat)} {ls st : List gm_V} {S S' : List gm_S} {m m' : gm_M} {K : gm_K} {R : gm_R} {r : gm_V}
theorem gm_st (hp : (p ≠ 998 ∧ p ≠ 997) ∧ p ≠ 996) (hq : q ≤ st.length) (hw : gm_wd (st.drop q) ≤ 8) (hC : C p (st.take q).reverse S m r S' m') (k : K (i + 1) ls (gm_ps r (st.drop q)) S' m') : gm_step C ro (.invokestatic n) p q x ts i ls st S m K R := by
  obtain ⟨⟨h1, h2⟩, h3⟩ := hp
  simp only [gm_step]
  exact ⟨hq, hw, r, S', m', hC, k⟩
theorem gm_vt {b : Int} {l : List gm_V} (hb : (st.take q).reverse = gA b :: l) (hq : q ≤ st.length) (hw : gm_wd (st.drop q) ≤ 8) (his : gm_is S b x.toNat) (hC : C p (gA b :: l) S m r S' m') (k : K (i + 1) ls (gm_ps r (st.drop q)) S' m') : gm_step C ro (.invokevirtual n) p q x ts i ls st S m K R := by
  simp only [gm_step, hb]
  exact ⟨hq, hw, his, r, S', m', hC, k⟩
end LY
theorem N_is' {a : Int} {S : List gm_S} (hS : S = S0) (h : gN a) : gm_is S a 2 := by rw [hS]; exact N_is h
theorem N_web' {a : Int} {S : List gm_S} (hS : S = S0) (h : gN a) : gm_rf S a 0 = some (a + 1) := by rw [hS]; exact N_web h
theorem N_letters' {a : Int} {S : List gm_S} (hS : S = S0) (h : gN a) : gm_rf S a 1 = some (a + 8) := by rw [hS]; exact N_letters h
theorem N_golden' {a : Int} {S : List gm_S} (hS : S = S0) (h : gN a) : gm_rf S a 5 = some (a + 9) := by rw [hS]; exact N_golden h
theorem N_logged' {a : Int} {S : List gm_S} (hS : S = S0) (h : gN a) : gm_rf S a 7 = some (a + 10) := by rw [hS]; exact N_logged h
theorem N_wis' {a : Int} {S : List gm_S} (hS : S = S0) (h : gN a) : gm_is S (a + 1) 6 := by rw [hS]; exact N_wis h
theorem N_open' {a : Int} {S : List gm_S} (hS : S = S0) (h : gN a) : gm_rf S (a + 1) 2 = some (a + 2) := by rw [hS]; exact N_open h
theorem N_last' {a : Int} {S : List gm_S} (hS : S = S0) (h : gN a) : gm_rf S (a + 1) 3 = some (a + 3) := by rw [hS]; exact N_last h
theorem N_beyond' {a : Int} {S : List gm_S} (hS : S = S0) (h : gN a) : gm_rf S (a + 1) 4 = some (a + 4) := by rw [hS]; exact N_beyond h
theorem N_apart' {a : Int} {S : List gm_S} (hS : S = S0) (h : gN a) : gm_rf S (a + 1) 5 = some (a + 5) := by rw [hS]; exact N_apart h
theorem N_steps' {a : Int} {S : List gm_S} (hS : S = S0) (h : gN a) : gm_rf S (a + 1) 6 = some (a + 6) := by rw [hS]; exact N_steps h
theorem N_reached' {a : Int} {S : List gm_S} (hS : S = S0) (h : gN a) : gm_rf S (a + 1) 7 = some (a + 7) := by rw [hS]; exact N_reached h
theorem N_a2' {a : Int} {S : List gm_S} (hS : S = S0) (h : gN a) : gm_ar S (a + 2) 16 := by rw [hS]; exact N_a2 h
theorem N_a3' {a : Int} {S : List gm_S} (hS : S = S0) (h : gN a) : gm_ar S (a + 3) 16 := by rw [hS]; exact N_a3 h
theorem N_a4' {a : Int} {S : List gm_S} (hS : S = S0) (h : gN a) : gm_ar S (a + 4) 64 := by rw [hS]; exact N_a4 h
theorem N_a5' {a : Int} {S : List gm_S} (hS : S = S0) (h : gN a) : gm_ar S (a + 5) 256 := by rw [hS]; exact N_a5 h
theorem N_a6' {a : Int} {S : List gm_S} (hS : S = S0) (h : gN a) : gm_ar S (a + 6) 16 := by rw [hS]; exact N_a6 h
theorem N_a7' {a : Int} {S : List gm_S} (hS : S = S0) (h : gN a) : gm_ar S (a + 7) 16 := by rw [hS]; exact N_a7 h
theorem N_a9' {a : Int} {S : List gm_S} (hS : S = S0) (h : gN a) : gm_ar S (a + 9) 5 := by rw [hS]; exact N_a9 h
theorem N_a10' {a : Int} {S : List gm_S} (hS : S = S0) (h : gN a) : gm_ar S (a + 10) 40 := by rw [hS]; exact N_a10 h
theorem N_lin' {a j : Int} {S : List gm_S} (hS : S = S0) (h : gN a) (h0 : 0 ≤ j) (h1 : j < 40) : gm_in S (a + 8) 12 j := by rw [hS]; exact N_lin h h0 h1
theorem N_lrf' {a j : Int} {S : List gm_S} (hS : S = S0) (h : gN a) (h0 : 0 ≤ j) (h1 : j < 40) : gm_rf S (a + 8) j.toNat = some (a + 11 + j) := by rw [hS]; exact N_lrf h h0 h1
theorem N_lis' {a j : Int} {S : List gm_S} (hS : S = S0) (h : gN a) (h0 : 0 ≤ j) (h1 : j < 40) : gm_is S (a + 11 + j) 1 := by rw [hS]; exact N_lis h h0 h1
theorem C_0' {S : List gm_S} (hS : S = S0) : gm_is S 0 7 := by rw [hS]; exact C_0 
theorem F_0_0' {S : List gm_S} (hS : S = S0) : gm_rf S 0 0 = some 1 := by rw [hS]; exact F_0_0 
theorem F_0_1' {S : List gm_S} (hS : S = S0) : gm_rf S 0 1 = some 3 := by rw [hS]; exact F_0_1 
theorem F_0_2' {S : List gm_S} (hS : S = S0) : gm_rf S 0 2 = some 54 := by rw [hS]; exact F_0_2 
theorem F_0_3' {S : List gm_S} (hS : S = S0) : gm_rf S 0 3 = some 64 := by rw [hS]; exact F_0_3 
theorem F_0_4' {S : List gm_S} (hS : S = S0) : gm_rf S 0 4 = some 116 := by rw [hS]; exact F_0_4 
theorem F_0_5' {S : List gm_S} (hS : S = S0) : gm_rf S 0 5 = some 526 := by rw [hS]; exact F_0_5 
theorem C_1' {S : List gm_S} (hS : S = S0) : gm_is S 1 4 := by rw [hS]; exact C_1 
theorem F_1_0' {S : List gm_S} (hS : S = S0) : gm_rf S 1 0 = some 2 := by rw [hS]; exact F_1_0 
theorem A_2' {S : List gm_S} (hS : S = S0) : gm_ar S 2 140 := by rw [hS]; exact A_2 
theorem C_54' {S : List gm_S} (hS : S = S0) : gm_is S 54 5 := by rw [hS]; exact C_54 
theorem F_54_0' {S : List gm_S} (hS : S = S0) : gm_rf S 54 0 = some 55 := by rw [hS]; exact F_54_0 
theorem F_54_1' {S : List gm_S} (hS : S = S0) : gm_rf S 54 1 = some 56 := by rw [hS]; exact F_54_1 
theorem F_54_4' {S : List gm_S} (hS : S = S0) : gm_rf S 54 4 = some 57 := by rw [hS]; exact F_54_4 
theorem F_54_5' {S : List gm_S} (hS : S = S0) : gm_rf S 54 5 = some 58 := by rw [hS]; exact F_54_5 
theorem F_54_6' {S : List gm_S} (hS : S = S0) : gm_rf S 54 6 = some 59 := by rw [hS]; exact F_54_6 
theorem F_54_7' {S : List gm_S} (hS : S = S0) : gm_rf S 54 7 = some 60 := by rw [hS]; exact F_54_7 
theorem F_54_8' {S : List gm_S} (hS : S = S0) : gm_rf S 54 8 = some 61 := by rw [hS]; exact F_54_8 
theorem F_54_9' {S : List gm_S} (hS : S = S0) : gm_rf S 54 9 = some 62 := by rw [hS]; exact F_54_9 
theorem F_54_10' {S : List gm_S} (hS : S = S0) : gm_rf S 54 10 = some 63 := by rw [hS]; exact F_54_10 
theorem A_55' {S : List gm_S} (hS : S = S0) : gm_ar S 55 40 := by rw [hS]; exact A_55 
theorem A_56' {S : List gm_S} (hS : S = S0) : gm_ar S 56 40 := by rw [hS]; exact A_56 
theorem A_57' {S : List gm_S} (hS : S = S0) : gm_ar S 57 40 := by rw [hS]; exact A_57 
theorem A_58' {S : List gm_S} (hS : S = S0) : gm_ar S 58 40 := by rw [hS]; exact A_58 
theorem A_59' {S : List gm_S} (hS : S = S0) : gm_ar S 59 16 := by rw [hS]; exact A_59 
theorem A_60' {S : List gm_S} (hS : S = S0) : gm_ar S 60 16 := by rw [hS]; exact A_60 
theorem A_61' {S : List gm_S} (hS : S = S0) : gm_ar S 61 16 := by rw [hS]; exact A_61 
theorem A_62' {S : List gm_S} (hS : S = S0) : gm_ar S 62 4 := by rw [hS]; exact A_62 
theorem A_63' {S : List gm_S} (hS : S = S0) : gm_ar S 63 4 := by rw [hS]; exact A_63 
theorem C_64' {S : List gm_S} (hS : S = S0) : gm_is S 64 3 := by rw [hS]; exact C_64 
theorem F_64_0' {S : List gm_S} (hS : S = S0) : gm_rf S 64 0 = some 65 := by rw [hS]; exact F_64_0 
theorem F_64_1' {S : List gm_S} (hS : S = S0) : gm_rf S 64 1 = some 54 := by rw [hS]; exact F_64_1 
theorem C_116' {S : List gm_S} (hS : S = S0) : gm_is S 116 0 := by rw [hS]; exact C_116 
theorem F_116_0' {S : List gm_S} (hS : S = S0) : gm_rf S 116 0 = some 117 := by rw [hS]; exact F_116_0 
theorem C_629' {S : List gm_S} (hS : S = S0) : gm_is S 629 8 := by rw [hS]; exact C_629 
theorem F_629_0' {S : List gm_S} (hS : S = S0) : gm_rf S 629 0 = some 630 := by rw [hS]; exact F_629_0 
theorem F_629_1' {S : List gm_S} (hS : S = S0) : gm_rf S 629 1 = some 631 := by rw [hS]; exact F_629_1 
theorem F_629_2' {S : List gm_S} (hS : S = S0) : gm_rf S 629 2 = some 632 := by rw [hS]; exact F_629_2 
theorem F_629_4' {S : List gm_S} (hS : S = S0) : gm_rf S 629 4 = some 633 := by rw [hS]; exact F_629_4 
theorem F_629_5' {S : List gm_S} (hS : S = S0) : gm_rf S 629 5 = some 634 := by rw [hS]; exact F_629_5 
theorem F_629_6' {S : List gm_S} (hS : S = S0) : gm_rf S 629 6 = some 635 := by rw [hS]; exact F_629_6 
theorem F_629_15' {S : List gm_S} (hS : S = S0) : gm_rf S 629 15 = some 636 := by rw [hS]; exact F_629_15 
theorem F_629_16' {S : List gm_S} (hS : S = S0) : gm_rf S 629 16 = some 637 := by rw [hS]; exact F_629_16 
theorem F_629_18' {S : List gm_S} (hS : S = S0) : gm_rf S 629 18 = some 638 := by rw [hS]; exact F_629_18 
theorem F_629_19' {S : List gm_S} (hS : S = S0) : gm_rf S 629 19 = some 639 := by rw [hS]; exact F_629_19 
theorem A_630' {S : List gm_S} (hS : S = S0) : gm_ar S 630 565 := by rw [hS]; exact A_630 
theorem A_631' {S : List gm_S} (hS : S = S0) : gm_ar S 631 565 := by rw [hS]; exact A_631 
theorem A_632' {S : List gm_S} (hS : S = S0) : gm_ar S 632 4520 := by rw [hS]; exact A_632 
theorem A_633' {S : List gm_S} (hS : S = S0) : gm_ar S 633 1130 := by rw [hS]; exact A_633 
theorem A_635' {S : List gm_S} (hS : S = S0) : gm_ar S 635 140 := by rw [hS]; exact A_635 
theorem A_636' {S : List gm_S} (hS : S = S0) : gm_ar S 636 256 := by rw [hS]; exact A_636 
theorem A_637' {S : List gm_S} (hS : S = S0) : gm_ar S 637 40 := by rw [hS]; exact A_637 
theorem A_638' {S : List gm_S} (hS : S = S0) : gm_ar S 638 40 := by rw [hS]; exact A_638 
theorem A_639' {S : List gm_S} (hS : S = S0) : gm_ar S 639 4 := by rw [hS]; exact A_639 
theorem T_in117' {j : Int} {S : List gm_S} (hS : S = S0) (h0 : 0 ≤ j) (h1 : j < 8) : gm_in S 117 13 j := by rw [hS]; exact T_in117 h0 h1
theorem T_rf117' {j : Int} {S : List gm_S} (hS : S = S0) (h0 : 0 ≤ j) (h1 : j < 8) : gm_rf S 117 j.toNat = some (118 + 51 * j) := by rw [hS]; exact T_rf117 h0 h1
theorem T_in526' {j : Int} {S : List gm_S} (hS : S = S0) (h0 : 0 ≤ j) (h1 : j < 2) : gm_in S 526 13 j := by rw [hS]; exact T_in526 h0 h1
theorem T_rf526' {j : Int} {S : List gm_S} (hS : S = S0) (h0 : 0 ≤ j) (h1 : j < 2) : gm_rf S 526 j.toNat = some (527 + 51 * j) := by rw [hS]; exact T_rf526 h0 h1
theorem T_in634' {j : Int} {S : List gm_S} (hS : S = S0) (h0 : 0 ≤ j) (h1 : j < 2) : gm_in S 634 11 j := by rw [hS]; exact T_in634 h0 h1
section ST
variable {C : gm_C} {ro : Nat → Nat × (Int → Int)} {p q i n : Nat} {x : Int} {ts : List (Int × Nat)} {ls t : List gm_V} {S S' : List gm_S} {m m' : gm_M} {K : gm_K} {R : gm_R} {r : gm_V} {a b j v : Int} {z : Int × Nat} {zs : List (Int × Nat)}
theorem st_getI (h : gm_is S a p) (k : K (i + 1) ls (gI (m a x) :: t) S m) : gm_step C ro (.getfield n) p q x [] i ls (gA a :: t) S m K R := ⟨h, k⟩
theorem st_getR (h : gm_is S a p) (hr : gm_rf S a q = some b) (k : K (i + 1) ls (gA b :: t) S m) : gm_step C ro (.getfield n) p q x (z :: zs) i ls (gA a :: t) S m K R := ⟨h, b, hr, k⟩
theorem st_putI (h : gm_is S a p) (k : K (i + 1) ls t S (gm_up m a x v)) : gm_step C ro (.putfield n) p q x [] i ls (gI v :: gA a :: t) S m K R := ⟨h, k⟩
theorem st_iald (h : gm_in S a 10 j) (k : K (i + 1) ls (gI (m a j) :: t) S m) : gm_step C ro .iaload p q x ts i ls (gI j :: gA a :: t) S m K R := ⟨h, k⟩
theorem st_oald {y : Nat} (h0 : 0 ≤ j) (h1 : j < ((ro y).1 : Int)) (k : K (i + 1) ls (gI ((ro y).2 j) :: t) S m) : gm_step C ro .iaload p q x ts i ls (gI j :: gO y :: t) S m K R := ⟨h0, h1, k⟩
theorem st_iast (h : gm_in S a 10 j) (k : K (i + 1) ls t S (gm_up m a j v)) : gm_step C ro .iastore p q x ts i ls (gI v :: gI j :: gA a :: t) S m K R := ⟨h, k⟩
theorem st_bald (h : gm_in S a 11 j) (k : K (i + 1) ls (gI (m a j) :: t) S m) : gm_step C ro .baload p q x ts i ls (gI j :: gA a :: t) S m K R := ⟨h, k⟩
theorem st_bast (h : gm_in S a 11 j) (hv : v = 0 ∨ v = 1) (k : K (i + 1) ls t S (gm_up m a j v)) : gm_step C ro .bastore p q x ts i ls (gI v :: gI j :: gA a :: t) S m K R := ⟨h, hv, k⟩
theorem st_aald (h : gm_in S a p j) (hr : gm_rf S a j.toNat = some b) (k : K (i + 1) ls (gA b :: t) S m) : gm_step C ro .aaload p q x ts i ls (gI j :: gA a :: t) S m K R := ⟨h, b, hr, k⟩
theorem st_alen (h : gm_is S a 10) {y : Int} (hl : gm_len S a = y) (k : K (i + 1) ls (gI y :: t) S m) : gm_step C ro .arraylength p q x ts i ls (gA a :: t) S m K R := ⟨h, by rw [hl]; exact k⟩
theorem st_div (h : b ≠ 0) (k : K (i + 1) ls (gI (w32 (a.tdiv b)) :: t) S m) : gm_step C ro .idiv p q x ts i ls (gI b :: gI a :: t) S m K R := ⟨h, k⟩
theorem st_rem (h : b ≠ 0) (k : K (i + 1) ls (gI (a.tmod b) :: t) S m) : gm_step C ro .irem p q x ts i ls (gI b :: gI a :: t) S m K R := ⟨h, k⟩
theorem st_ldiv (h : b ≠ 0) (k : K (i + 1) ls (gL (w64 (a.tdiv b)) :: t) S m) : gm_step C ro .ldiv p q x ts i ls (gL b :: gL a :: t) S m K R := ⟨h, k⟩
theorem st_lrem (h : b ≠ 0) (k : K (i + 1) ls (gL (a.tmod b) :: t) S m) : gm_step C ro .lrem p q x ts i ls (gL b :: gL a :: t) S m K R := ⟨h, k⟩
theorem st_if {c : Jvm.ClassFile.Cond} {off : Int} (k1 : gm_c c a 0 → K p ls t S m) (k2 : ¬ gm_c c a 0 → K (i + 1) ls t S m) : gm_step C ro (.ifCond c off) p q x ts i ls (gI a :: t) S m K R := ⟨k1, k2⟩
theorem st_icmp {c : Jvm.ClassFile.Cond} {off : Int} (k1 : gm_c c a b → K p ls t S m) (k2 : ¬ gm_c c a b → K (i + 1) ls t S m) : gm_step C ro (.if_icmp c off) p q x ts i ls (gI b :: gI a :: t) S m K R := ⟨k1, k2⟩
theorem st_ret (h : p = 0 ∨ v = 0 ∨ v = 1) (k : R (gI v) S m) : gm_step C ro .ireturn p q x ts i ls [gI v] S m K R := ⟨h, k⟩
theorem st_copy {sp dp y : Int} {n0 n1 : Nat} (ha : gm_ar S a n0) (hb : gm_ar S b n1) (h1 : 0 ≤ sp) (h2 : 0 ≤ dp) (h3 : 0 ≤ y) (h4 : sp + y ≤ n0) (h5 : dp + y ≤ n1) (hw : gm_wd t ≤ 8) (hC : C 999 [] S m none S m) (k : K (i + 1) ls t S (gm_cp m a sp b dp y)) : gm_step C ro (.invokestatic n) 998 q x ts i ls (gI y :: gI dp :: gA b :: gI sp :: gA a :: t) S m K R := ⟨hw, ⟨h1, h2, h3, is_of_ar ha, is_of_ar hb, by rw [len_of_ar ha]; exact h4, by rw [len_of_ar hb]; exact h5⟩, hC, k⟩
theorem st_max (hw : gm_wd t ≤ 8) (hC : C 999 [] S m none S m) (k : K (i + 1) ls (gI (if a < b then b else a) :: t) S m) : gm_step C ro (.invokestatic n) 997 q x ts i ls (gI b :: gI a :: t) S m K R := ⟨hw, hC, k⟩
theorem st_min (hw : gm_wd t ≤ 8) (hC : C 999 [] S m none S m) (k : K (i + 1) ls (gI (if b < a then b else a) :: t) S m) : gm_step C ro (.invokestatic n) 996 q x ts i ls (gI b :: gI a :: t) S m K R := ⟨hw, hC, k⟩
theorem gm_999s {MT : Nat → Option gm_Me} {d : Nat} : gm_sem MT ro (d + 1) 999 [] S m none S m := Or.inl ⟨rfl, rfl, rfl, rfl⟩
end ST
