theorem gm_rep_none {n k : Nat} {b : Int} (h : (List.replicate n (none : Option Int))[k]? = some (some b)) : False := by
  rw [List.getElem?_replicate] at h
  split at h <;> cases h
theorem gm_wd_sum (as : List Nat) (ad : Nat → Nat) (l : List gm_V) : ((l.map (gm_cv as ad)).map fun v => v.category).sum = gm_wd l := by
  induction l with
  | nil => rfl
  | cons v l ih =>
    simp only [List.map_cons, List.sum_cons, gm_wd, ih]
    congr 1
    rcases v with _ | v | v | v | v <;> rfl
section GM5
variable {p : Program} {l : Launch} {e : Env} {Rm : Room} {s : State} {mm : MethodId} {args : Array Value} {below : List Frame} {meth : Method} {c : Code} {Q : State → Prop} {D : va_G} {ci : gm_ids} {A : Nat → Prop} {ad : Nat → Nat} {S0 S' : List gm_S} {as0 : List Nat} {Fn : Prop} {nL : Nat} {code : List gm_O} {cc : ByteArray} {own : String} {ro : Nat → Nat × (Int → Int)} {ini : Bool}
variable {C : gm_C} {R : gm_R} {i a0 b0 : Nat} {x0 : Int} {ts : List (Int × Nat)} {ls st : List gm_V} {S : List gm_S} {m : gm_M}
theorem gm_c_new {n : Nat} (HR : S'.length - S0.length ≤ Rm.cells ∧ gm_sz S' - gm_sz S0 ≤ Rm.slots) (CF : gm_CF) {r : vw_C} (hr : vwCl[a0]? = some r) (hb0 : b0 = r.2.2) (hl : Cond.classLink own n r.1 ∈ gm_TW) (hd : decode cc (gm_pc code i) = .ok (.new n, 3)) (hn : gm_nx code i 3 = true) (h : gm_step C ro (.new n) a0 b0 x0 ts i ls st S m (gm_X p l e Rm s mm args below meth c Q D ci A ad S0 S' as0 Fn nL code cc own ro ini) R) : gm_X p l e Rm s mm args below meth c Q D ci A ad S0 S' as0 Fn nL code cc own ro ini i ls st S m := by
  simp only [gm_step] at h
  obtain ⟨-, hws, hini, hins, ty, hty, hnm, hall⟩ := CF a0 r hr
  subst hb0
  refine gm_make HR (fun k b hb => gm_rep_none hb) h (fun I => ⟨I.2.1, ⟨⟨by have := gm_vw_N hr; dsimp only; omega, Or.inl ⟨r, hr, rfl, by simp⟩⟩, fun k b hb => (gm_rep_none hb).elim⟩⟩) (fun E I as arr H locs cells slots hloc hP hD hS hc1 hc2 kk => ?_)
  rw [gm_eO hr, gm_nx_eq hn] at kk
  refine va_new (C := r.1) (T := r.2.1) (N := r.2.2) E.1 E.2.1 (Ts := gm_TW) E.2.2.2.2.1 hws ty hty E.2.2.2.1 (E.2.2.2.2.1 _ hl) (E.2.2.2.2.1 _ hins) (E.2.2.2.2.1 _ hini) E.2.2.2.2.2.1.1 hP hD hS E.2.2.2.2.2.1.2.1 hr (fun j hj => ?_) hc1 hc2 hd (fun q H1 c1 c2 c3 => kk q H1 locs c1 c2 c3)
  unfold vp_V
  simp only [List.getD_eq_getElem?_getD]
  rw [List.getElem?_map, List.getElem?_range hj]
  simp only [Option.map_some, Option.getD_some, gm_fv]
  obtain ⟨-, hT2, hT3⟩ := hall j hj
  cases hf : gm_fi a0 j with
  | true =>
    rw [hT2 hf, if_pos rfl, I.2.2.2.1 _ (Int.le_refl _)]
    rfl
  | false =>
    rw [if_neg (by simp), List.getElem?_replicate, if_pos hj]
    rcases hT3 hf with ⟨z, e⟩ | ⟨z, e⟩ <;> rw [e] <;> rfl
theorem gm_c_newarray {t : ArrayType} (HR : S'.length - S0.length ≤ Rm.cells ∧ gm_sz S' - gm_sz S0 ≤ Rm.slots) (ha0 : (t = .int ∧ a0 = 10) ∨ (t = .boolean ∧ a0 = 11)) (hac : Cond.arrayClass .int ∈ gm_TW) (hab : Cond.arrayClass .boolean ∈ gm_TW) (hd : decode cc (gm_pc code i) = .ok (.newarray t, 2)) (hn : gm_nx code i 2 = true) (h : gm_step C ro (.newarray t) a0 b0 x0 ts i ls st S m (gm_X p l e Rm s mm args below meth c Q D ci A ad S0 S' as0 Fn nL code cc own ro ini) R) : gm_X p l e Rm s mm args below meth c Q D ci A ad S0 S' as0 Fn nL code cc own ro ini i ls st S m := by
  simp only [gm_step] at h
  split at h
  · rename_i n t'
    obtain ⟨h0, h1, h⟩ := h
    have hnn : ∀ (k : Nat) (b : Int), ([] : List (Option Int))[k]? = some (some b) → False := fun k b hb => by simp at hb
    refine gm_make HR (by exact hnn) h (fun I => ⟨fun w hw => I.2.1 w (List.mem_cons_of_mem _ hw), ⟨⟨by dsimp only; omega, ?_⟩, fun k b hb => (hnn k b hb).elim⟩⟩) (fun E I as arr H locs cells slots hloc hP hD hS hc1 hc2 kk => ?_)
    · rcases ha0 with ⟨-, e⟩ | ⟨-, e⟩
      · exact Or.inr (Or.inl e)
      · exact Or.inr (Or.inr (Or.inl e))
    · have hni : gm_i n := I.2.1 (gI n) List.mem_cons_self
      have hm0 : m (S.length : Int) = fun _ => 0 := funext fun j => I.2.2.2.1 _ (Int.le_refl _) j
      rw [gm_nx_eq hn, hm0] at kk
      have hlt : ¬ Int32.ofInt n < 0 := by rw [← oi_0, oi_lt hni gm_i_0]; omega
      simp only [List.map_cons, gm_cv]
      rcases ha0 with ⟨rfl, rfl⟩ | ⟨rfl, rfl⟩
      · rw [gm_e10] at kk
        refine va_newa (atype := .int) (ty := .int) (a0 := (n.toNat, .inl (fun _ => Int32.ofInt 0))) E.1 E.2.1 (E.2.2.2.2.1 _ hac) rfl E.2.2.2.2.2.1.1 hP hD hS E.2.2.2.2.2.1.2.1 (fun cA => rfl) hlt (oi_nat hni) (by simp only [componentBytes]; omega) hc1 hc2 hd (fun q cA H1 hK1 c1 c2 c3 => ?_)
        have e1 := (hK1.2 4 (cA, .int) rfl).2
        have e2 := (E.2.2.2.2.2.1.1.2 0 (ci.1, .int) rfl).2
        have e3 : cA = ci.1 := Option.some.inj (e1.symm.trans e2)
        subst e3
        exact kk q H1 locs c1 c2 c3
      · rw [gm_e11] at kk
        refine va_newa (atype := .boolean) (ty := .boolean) (a0 := (n.toNat, .inl (fun _ => Int32.ofInt 0))) E.1 E.2.1 (E.2.2.2.2.1 _ hab) rfl E.2.2.2.2.2.1.1 hP hD hS E.2.2.2.2.2.1.2.1 (fun cA => rfl) hlt (oi_nat hni) (by simp only [componentBytes]; omega) hc1 hc2 hd (fun q cA H1 hK1 c1 c2 c3 => ?_)
        have e1 := (hK1.2 4 (cA, .boolean) rfl).2
        have e2 := (E.2.2.2.2.2.1.1.2 1 (ci.2.1, .boolean) rfl).2
        have e3 : cA = ci.2.1 := Option.some.inj (e1.symm.trans e2)
        subst e3
        exact kk q H1 locs c1 c2 c3
  · exact h.elim
theorem gm_c_anewarray {n : Nat} (HR : S'.length - S0.length ≤ Rm.cells ∧ gm_sz S' - gm_sz S0 ≤ Rm.slots) (ha0 : (a0 = 12 ∧ Cond.classLink own n RX1 ∈ gm_TW) ∨ (a0 = 13 ∧ Cond.classLink own n RX2 ∈ gm_TW)) (hd : decode cc (gm_pc code i) = .ok (.anewarray n, 3)) (hn : gm_nx code i 3 = true) (h : gm_step C ro (.anewarray n) a0 b0 x0 ts i ls st S m (gm_X p l e Rm s mm args below meth c Q D ci A ad S0 S' as0 Fn nL code cc own ro ini) R) : gm_X p l e Rm s mm args below meth c Q D ci A ad S0 S' as0 Fn nL code cc own ro ini i ls st S m := by
  simp only [gm_step] at h
  split at h
  · rename_i k t'
    obtain ⟨h0, h1, h⟩ := h
    refine gm_make HR (fun k b hb => gm_rep_none hb) h (fun I => ⟨fun w hw => I.2.1 w (List.mem_cons_of_mem _ hw), ⟨⟨by dsimp only; omega, Or.inr (Or.inr (Or.inr ⟨by rcases ha0 with ⟨e, -⟩ | ⟨e, -⟩ <;> simp [e], by simp⟩))⟩, fun k b hb => (gm_rep_none hb).elim⟩⟩) (fun E I as arr H locs cells slots hloc hP hD hS hc1 hc2 kk => ?_)
    have hni : gm_i k := I.2.1 (gI k) List.mem_cons_self
    have hlt : ¬ Int32.ofInt k < 0 := by rw [← oi_0, oi_lt hni gm_i_0]; omega
    have hfn : (fun i : Nat => (((List.replicate k.toNat (none : Option Int))[i]?).join).map (fun b => as.getD b.toNat 0)) = fun _ => none := by
      funext i
      rw [List.getElem?_replicate]
      split <;> rfl
    rw [gm_nx_eq hn] at kk
    simp only [List.map_cons, gm_cv]
    obtain ⟨zK, zA, -, -, -, zo1, zo2, -⟩ := E.2.2.2.2.2.1
    rcases ha0 with ⟨rfl, hl⟩ | ⟨rfl, hl⟩
    · rw [gm_e12, hfn] at kk
      refine va_newq (C := RX1) E.1 E.2.1 E.2.2.2.1 (E.2.2.2.2.1 _ hl) zo1 zK hP hD hS zA hlt (oi_nat hni) (by omega) hc1 hc2 hd (fun q cA H1 hK1 c1 c2 c3 => ?_)
      obtain ⟨_, _, -, -, -, e1⟩ := (hK1.2 4 (cA, .object RX1) rfl).2
      obtain ⟨_, _, -, -, -, e2⟩ := (zK.2 2 (ci.2.2.1, .object RX1) rfl).2
      have e3 : cA = ci.2.2.1 := Option.some.inj (e1.symm.trans e2)
      subst e3
      exact kk q H1 locs c1 c2 c3
    · rw [gm_e13, hfn] at kk
      refine va_newq (C := RX2) E.1 E.2.1 E.2.2.2.1 (E.2.2.2.2.1 _ hl) zo2 zK hP hD hS zA hlt (oi_nat hni) (by omega) hc1 hc2 hd (fun q cA H1 hK1 c1 c2 c3 => ?_)
      obtain ⟨_, _, -, -, -, e1⟩ := (hK1.2 4 (cA, .object RX2) rfl).2
      obtain ⟨_, _, -, -, -, e2⟩ := (zK.2 3 (ci.2.2.2, .object RX2) rfl).2
      have e3 : cA = ci.2.2.2 := Option.some.inj (e1.symm.trans e2)
      subst e3
      exact kk q H1 locs c1 c2 c3
  · exact h.elim
theorem gm_c_objInit {n : Nat} (HC : ∀ S m S1 m1, C 999 [] S m none S1 m1 → 1 ≤ Rm.frames ∧ 26 ≤ Rm.locals) (ha0 : a0 = 999) (h1 : Cond.methodLink own n Lib.objectInit ∈ gm_TW) (h2 : Cond.instanceMethod Lib.objectInit ∈ gm_TW) (h3 : Cond.code Lib.objectInit ⟨#[0xb1]⟩ 1 none ∈ gm_TW) (hd : decode cc (gm_pc code i) = .ok (.invokespecial n, 3)) (hn : gm_nx code i 3 = true) (h : gm_step C ro (.invokespecial n) a0 b0 x0 ts i ls st S m (gm_X p l e Rm s mm args below meth c Q D ci A ad S0 S' as0 Fn nL code cc own ro ini) R) : gm_X p l e Rm s mm args below meth c Q D ci A ad S0 S' as0 Fn nL code cc own ro ini i ls st S m := by
  subst ha0
  simp only [gm_step] at h
  split at h
  · rename_i a t
    obtain ⟨hw, hc, h⟩ := h
    obtain ⟨hf, hlo⟩ := HC _ _ _ _ hc
    refine gm_pure h (fun I hl => ⟨I.1, fun w hw => I.2.1 w (List.mem_cons_of_mem _ hw), hl⟩) (fun E I as arr H locs cells slots hloc hS hP kk => ?_)
    have kk := kk arr hloc
    simp only [List.map_cons, gm_cv]
    rw [gm_nx_eq hn] at kk
    refine W.objInit E.1 E.2.1 E.2.2.2.1 (E.2.2.2.2.1 _ h1) (E.2.2.2.2.1 _ h2) (E.2.2.2.2.1 _ h3) rfl (by rw [E.2.2.1]; exact hloc.1) rfl hd hf ?_ kk
    rw [gm_wd_sum]
    show 2 * 0 + gm_wd t + 12 ≤ Rm.locals
    omega
  · exact h.elim
theorem gm_c_copy {n : Nat} (HC : ∀ S m S1 m1, C 999 [] S m none S1 m1 → 1 ≤ Rm.frames ∧ 26 ≤ Rm.locals) (ha0 : a0 = 998) (h1 : Cond.methodLink own n arraycopyName ∈ gm_TW) (h2 : Cond.native arraycopyName ∈ gm_TW) (h3 : Cond.static arraycopyName ∈ gm_TW) (h4 : Cond.initialized "java/lang/System" ∈ gm_TW) (hd : decode cc (gm_pc code i) = .ok (.invokestatic n, 3)) (hn : gm_nx code i 3 = true) (h : gm_step C ro (.invokestatic n) a0 b0 x0 ts i ls st S m (gm_X p l e Rm s mm args below meth c Q D ci A ad S0 S' as0 Fn nL code cc own ro ini) R) : gm_X p l e Rm s mm args below meth c Q D ci A ad S0 S' as0 Fn nL code cc own ro ini i ls st S m := by
  subst ha0
  simp only [gm_step] at h
  split at h
  · rename_i k dp b sp a t
    obtain ⟨hw, ⟨g1, g2, g3, ⟨hz, n0, rs0, hsh0⟩, ⟨hz1, n1, rs1, hsh1⟩, g6, g7⟩, hc, h⟩ := h
    obtain ⟨hf, hlo⟩ := HC _ _ _ _ hc
    obtain ⟨a', rfl⟩ := Int.eq_ofNat_of_zero_le hz
    obtain ⟨b', rfl⟩ := Int.eq_ofNat_of_zero_le hz1
    rw [Int.toNat_natCast] at hsh0 hsh1
    have hl0 : gm_len S (a' : Int) = (n0 : Int) := by unfold gm_len; rw [Int.toNat_natCast, hsh0]
    have hl1 : gm_len S (b' : Int) = (n1 : Int) := by unfold gm_len; rw [Int.toNat_natCast, hsh1]
    rw [hl0] at g6
    rw [hl1] at g7
    have hbl := (List.getElem?_eq_some_iff.mp hsh1).1
    refine gm_mem h (fun I => ⟨fun w hw => I.2.1 w (by simp [hw]), fun b k => ?_, fun b hb k => ?_⟩) (fun E I as arr H locs cells slots hloc hP hD hS kk => ?_)
    · unfold gm_cp
      split
      · exact I.2.2.1 _ _
      · exact I.2.2.1 _ _
    · unfold gm_cp
      rw [if_neg (by omega)]
      exact I.2.2.2.1 b hb k
    · have hki : gm_i k := I.2.1 (gI k) (by simp)
      have hdi : gm_i dp := I.2.1 (gI dp) (by simp)
      have hsi : gm_i sp := I.2.1 (gI sp) (by simp)
      have he0 := gm_W_at (ci := ci) (as := as) (m := m) hsh0
      have he1 := gm_W_at (ci := ci) (as := as) (m := m) hsh1
      rw [gm_e10] at he0 he1
      have hwn := gm_W_set (ci := ci) (as := as) (m := m) (m' := gm_cp m (a' : Int) sp (b' : Int) dp k) hsh1 (fun q hq => by
        funext j
        unfold gm_cp
        rw [if_neg (by omega)])
      rw [gm_e10] at hwn
      have hfn : (fun q : Nat => Int32.ofInt (gm_cp m (a' : Int) sp (b' : Int) dp k (b' : Int) (q : Int))) = va_cpy (fun q : Nat => Int32.ofInt (m (a' : Int) (q : Int))) (fun q : Nat => Int32.ofInt (m (b' : Int) (q : Int))) sp.toNat dp.toNat k.toNat := by
        funext q
        unfold gm_cp va_cpy
        by_cases hq : dp ≤ (q : Int) ∧ (q : Int) < dp + k
        · rw [if_pos ⟨rfl, hq⟩, if_pos (by omega)]
          congr 2
          omega
        · rw [if_neg (fun z => hq z.2), if_neg (by omega)]
      rw [hfn] at hwn
      rw [gm_nx_eq hn, hwn] at kk
      simp only [List.map_cons, gm_cv, Int.toNat_natCast]
      have ng : ∀ {z : Int}, gm_i z → 0 ≤ z → ¬ Int32.ofInt z < 0 := fun hz h0 => by rw [← oi_0, oi_lt hz gm_i_0]; omega
      refine va_copyi (ty := .int) E.1 E.2.1 (by rw [E.2.2.1]; exact hloc.1.symm) E.2.2.2.1 (E.2.2.2.2.1 _ h1) (E.2.2.2.2.1 _ h2) (E.2.2.2.2.1 _ h3) (E.2.2.2.2.1 _ h4) E.2.2.2.2.2.1.1 hP hD hS a' b' 0 0 he0 he1 rfl rfl rfl (ng hsi g1) (ng hdi g2) (ng hki g3) (by rw [oi_nat hsi, oi_nat hki]; omega) (by rw [oi_nat hdi, oi_nat hki]; omega) (fun _ _ => rfl) hf ?_ hd (fun H1 locs1 c1 c2 c3 => ?_)
      · rw [gm_wd_sum]
        have : nativeFrameWords "java/lang/System" "arraycopy" 5 = 7 := by decide
        omega
      · rw [oi_nat hsi, oi_nat hki, oi_nat hdi] at c1 c2
        exact kk H1 locs1 c1 c2 c3
  · exact h.elim

theorem gm_c_max {n : Nat} (HR : S'.length - S0.length ≤ Rm.cells ∧ gm_sz S' - gm_sz S0 ≤ Rm.slots) (HC : ∀ S m S1 m1, C 999 [] S m none S1 m1 → 1 ≤ Rm.frames ∧ 26 ≤ Rm.locals) (ha0 : a0 = 997) (h1 : Cond.methodLink own n Lib.Math.max.name ∈ gm_TW) (h2 : Cond.static Lib.Math.max.name ∈ gm_TW) (h3 : Cond.initialized "java/lang/Math" ∈ gm_TW) (h4 : Cond.code Lib.Math.max.name Lib.Math.max.code 2 (some .int) ∈ gm_TW) (hd : decode cc (gm_pc code i) = .ok (.invokestatic n, 3)) (hn : gm_nx code i 3 = true) (h : gm_step C ro (.invokestatic n) a0 b0 x0 ts i ls st S m (gm_X p l e Rm s mm args below meth c Q D ci A ad S0 S' as0 Fn nL code cc own ro ini) R) : gm_X p l e Rm s mm args below meth c Q D ci A ad S0 S' as0 Fn nL code cc own ro ini i ls st S m := by
  subst ha0
  simp only [gm_step] at h
  split at h
  · rename_i b a t
    obtain ⟨hw, hc, x1, x2, x3⟩ := h
    obtain ⟨hf, hlo⟩ := HC _ _ _ _ hc
    refine ⟨x1, x2, fun I hl q1 q2 => ?_⟩
    have hb : gm_i b := I.2.1 (gI b) List.mem_cons_self
    have ha : gm_i a := I.2.1 (gI a) (List.mem_cons_of_mem _ List.mem_cons_self)
    obtain ⟨f, w⟩ := x3 ⟨I.1, (fun v hv => by
      rcases List.mem_cons.mp hv with rfl | hv
      · show gm_i _
        split
        · exact hb
        · exact ha
      · exact I.2.1 v (List.mem_cons_of_mem _ (List.mem_cons_of_mem _ hv))), I.2.2⟩ hl q1 q2
    refine ⟨f, fun E as arr H locs b1 b2 b3 b4 b5 b6 => ?_⟩
    have k := w E as arr H locs b1 b2 b3 b4 b5 b6
    simp only [List.map_cons, gm_cv] at k ⊢
    rw [gm_nx_eq hn] at k
    refine va_mmax E.1 E.2.1 (by rw [E.2.2.1]; exact b3.1.symm) E.2.2.2.1 (E.2.2.2.2.1 _ h1) (E.2.2.2.2.1 _ h2) (E.2.2.2.2.1 _ h3) (E.2.2.2.2.1 _ h4) hf (by rw [gm_wd_sum]; omega) (by omega) (by omega) hd ?_
    have e1 : (if Int32.ofInt a < Int32.ofInt b then Int32.ofInt b else Int32.ofInt a) = Int32.ofInt (if a < b then b else a) := by
      by_cases q : a < b
      · rw [if_pos q, if_pos ((oi_lt ha hb).mpr q)]
      · rw [if_neg q, if_neg (fun z => q ((oi_lt ha hb).mp z))]
    rw [e1]
    exact k
  · exact h.elim

theorem gm_c_min {n : Nat} (HR : S'.length - S0.length ≤ Rm.cells ∧ gm_sz S' - gm_sz S0 ≤ Rm.slots) (HC : ∀ S m S1 m1, C 999 [] S m none S1 m1 → 1 ≤ Rm.frames ∧ 26 ≤ Rm.locals) (ha0 : a0 = 996) (h1 : Cond.methodLink own n Lib.Math.min.name ∈ gm_TW) (h2 : Cond.static Lib.Math.min.name ∈ gm_TW) (h3 : Cond.initialized "java/lang/Math" ∈ gm_TW) (h4 : Cond.code Lib.Math.min.name Lib.Math.min.code 2 (some .int) ∈ gm_TW) (hd : decode cc (gm_pc code i) = .ok (.invokestatic n, 3)) (hn : gm_nx code i 3 = true) (h : gm_step C ro (.invokestatic n) a0 b0 x0 ts i ls st S m (gm_X p l e Rm s mm args below meth c Q D ci A ad S0 S' as0 Fn nL code cc own ro ini) R) : gm_X p l e Rm s mm args below meth c Q D ci A ad S0 S' as0 Fn nL code cc own ro ini i ls st S m := by
  subst ha0
  simp only [gm_step] at h
  split at h
  · rename_i b a t
    obtain ⟨hw, hc, x1, x2, x3⟩ := h
    obtain ⟨hf, hlo⟩ := HC _ _ _ _ hc
    refine ⟨x1, x2, fun I hl q1 q2 => ?_⟩
    have hb : gm_i b := I.2.1 (gI b) List.mem_cons_self
    have ha : gm_i a := I.2.1 (gI a) (List.mem_cons_of_mem _ List.mem_cons_self)
    obtain ⟨f, w⟩ := x3 ⟨I.1, (fun v hv => by
      rcases List.mem_cons.mp hv with rfl | hv
      · show gm_i _
        split
        · exact hb
        · exact ha
      · exact I.2.1 v (List.mem_cons_of_mem _ (List.mem_cons_of_mem _ hv))), I.2.2⟩ hl q1 q2
    refine ⟨f, fun E as arr H locs b1 b2 b3 b4 b5 b6 => ?_⟩
    have k := w E as arr H locs b1 b2 b3 b4 b5 b6
    simp only [List.map_cons, gm_cv] at k ⊢
    rw [gm_nx_eq hn] at k
    refine va_mmin E.1 E.2.1 (by rw [E.2.2.1]; exact b3.1.symm) E.2.2.2.1 (E.2.2.2.2.1 _ h1) (E.2.2.2.2.1 _ h2) (E.2.2.2.2.1 _ h3) (E.2.2.2.2.1 _ h4) hf (by rw [gm_wd_sum]; omega) (by omega) (by omega) hd ?_
    have e1 : (if Int32.ofInt b < Int32.ofInt a then Int32.ofInt b else Int32.ofInt a) = Int32.ofInt (if b < a then b else a) := by
      by_cases q : b < a
      · rw [if_pos q, if_pos ((oi_lt hb ha).mpr q)]
      · rw [if_neg q, if_neg (fun z => q ((oi_lt hb ha).mp z))]
    rw [e1]
    exact k
  · exact h.elim
end GM5
