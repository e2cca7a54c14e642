/-! ===== calls ===== -/
def gm_rv (as : List Nat) (ad : Nat → Nat) (r : gm_V) : Option Value := match r with
  | none => none
  | some v => some (gm_cv as ad (some v))
def gm_ws (M : gm_Me) : List Cond := Cond.code M.1 M.2.1 M.2.2.1 M.2.2.2.1 :: gm_TW
def gm_Pc (D : va_G) (ci : gm_ids) (A : Nat → Prop) (ad : Nat → Nat) (ro : Nat → Nat × (Int → Int)) (as : List Nat) (a : List gm_V) (S : List gm_S) (m : gm_M) : Array Value → State → Prop := va_Pc (a.map (gm_cv as ad)) (fun U => gm_U D ci A ad ro U ∧ va_P D vwCl (gm_W ci as S m) U.heap ∧ va_D A (gm_W ci as S m))
def gm_Qc (D : va_G) (ci : gm_ids) (A : Nat → Prop) (ad : Nat → Nat) (as : List Nat) (r : gm_V) (S : List gm_S) (m : gm_M) : Array Value → State → Outcome → State → Prop := fun _ st o t => (∃ as1, as <+: as1 ∧ as1.length = S.length ∧ o = .returned (gm_rv as1 ad r) ∧ va_P D vwCl (gm_W ci as1 S m) t.heap ∧ va_D A (gm_W ci as1 S m)) ∧ va_F A st t
/-- what a callee promises: fr frames, lo words -/
def gm_Snd (MT : Nat → Option gm_Me) (l : Launch) (D : va_G) (ci : gm_ids) (A : Nat → Prop) (ad : Nat → Nat) (ro : Nat → Nat × (Int → Int)) (C : gm_C) (fr lo : Nat) : Prop := ∀ (_ : Program) (_ : Env) (_ : Code) k M a S m r S1 m1, MT k = some M → C k a S m r S1 m1 → (S.length ≤ S1.length ∧ gm_sz S ≤ gm_sz S1) ∧ (gm_I a [] S m → (gm_ok S1.length r ∧ gm_I [] [] S1 m1) ∧ ∀ as, as.length = S.length → Met l M.1 (gm_ws M) { frames := fr, cells := S1.length - S.length, slots := gm_sz S1 - gm_sz S, locals := lo } (gm_Pc D ci A ad ro as a S m) (gm_Qc D ci A ad as r S1 m1) (S1.length - S.length) (gm_sz S1 - gm_sz S) A)
theorem gm_ro_moved {ro : Nat → Nat × (Int → Int)} {ad : Nat → Nat} {A : Nat → Prop} {u U : State} {H H1 : Heap} (hvm : u.vm.Alike U.vm) (hz : H.size ≤ H1.size) (hk : ∀ q : Nat, q < H.size → ¬ A q → H1[q]? = H[q]?) (h : gm_ro ro ad A u H) : gm_ro ro ad A U H1 := by
  intro r hr
  obtain ⟨h1, h3, h5⟩ := h r hr
  exact ⟨(h1.kept hk).moved hvm, h3, h5⟩
theorem gm_U_moved {D : va_G} {ci : gm_ids} {A : Nat → Prop} {ad : Nat → Nat} {ro : Nat → Nat × (Int → Int)} {u U : State} (h : gm_U D ci A ad ro u) (hvm : u.vm.Alike U.vm) (hz : u.heap.size ≤ U.heap.size) (hk : ∀ q : Nat, q < u.heap.size → ¬ A q → U.heap[q]? = u.heap[q]?) (hN : ∀ w ∈ lw_tbl, gm_nest w = true → va_Nw w U) : gm_U D ci A ad ro U := by
  obtain ⟨h1, h2, h3, h4, h5, h6, h7, h8⟩ := h
  exact ⟨va_K.moved hvm h1, fun q hq => h2 q (by omega), gm_ro_moved hvm hz hk h3, (h4.kept hk).moved hvm, (h5.kept hk).moved hvm, h6.moved hvm, h7.moved hvm, hN⟩
theorem gm_nest_warm {s U : State} (hW : s.WarmedH U.vm) {w : Cond} (hn : gm_nest w = true) (h : va_Nw w s) : va_Nw w U := by
  unfold gm_nest at hn
  split at hn
  · exact va_Nw.warmM hW h
  · exact va_Nw.warmF hW h
  · cases hn
theorem gm_U_call {D : va_G} {ci : gm_ids} {A : Nat → Prop} {ad : Nat → Nat} {ro : Nat → Nat × (Int → Int)} {s U : State} {H : Heap} {locs : List Loc} (h : gm_U D ci A ad ro s) (hS : va_S A s.heap H locs) (hU : U.heap = H) (hW : s.WarmedH U.vm) : gm_U D ci A ad ro U :=
  gm_U_moved h hW.alike (by rw [hU]; exact hS.1) (fun q h1 h2 => by rw [hU]; exact hS.2.1 q h1 h2) (fun w hw hn => gm_nest_warm hW hn (h.2.2.2.2.2.2.2 w hw hn))
theorem gm_blind {D : va_G} {ci : gm_ids} {A : Nat → Prop} {ad : Nat → Nat} {ro : Nat → Nat × (Int → Int)} {as : List Nat} {a : List gm_V} {S : List gm_S} {m : gm_M} : FrameBlind (gm_Pc D ci A ad ro as a S m) := by
  intro x U g mk h
  obtain ⟨h1, h2, h3, h4⟩ := h
  refine ⟨h1, gm_U_moved (U := U.calling g mk x) h2 (Vm.Alike.refl U.vm) (Nat.le_refl _) (fun _ _ _ => rfl) (fun w hw hn => ?_), h3, h4⟩
  have := h2.2.2.2.2.2.2.2 w hw hn
  unfold gm_nest at hn
  split at hn
  · exact va_Nw.same rfl (u := U) (U := U.calling g mk x) rfl this
  · exact va_Nw.same rfl (u := U) (U := U.calling g mk x) rfl this
  · cases hn
theorem gm_TW_good {w : Cond} (h : w ∈ gm_TW) : w ∈ gm_TW ∧ ((w.onTables && w.keeps) = true ∨ ∃ ty, w = .arrayClass ty) := ⟨h, good_of_word (List.mem_filter.mp h).2⟩
theorem gm_ws_good {M : gm_Me} (h : Cond.code M.1 M.2.1 M.2.2.1 M.2.2.2.1 ∈ gm_TW) : GoodIn gm_TW (gm_ws M) := by
  intro w hw
  rcases List.mem_cons.mp hw with rfl | hw
  · exact gm_TW_good h
  · exact gm_TW_good hw
section GM6
variable {p : Program} {l : Launch} {e : Env} {Rm : Room} {s : State} {mm : MethodId} {args : Array Value} {below : List Frame} {meth : Method} {c : Code} {Q : State → Prop} {D : va_G} {ci : gm_ids} {A : Nat → Prop} {ad : Nat → Nat} {S0 S' : List gm_S} {as0 : List Nat} {Fn : Prop} {nL : Nat} {code : List gm_O} {cc : ByteArray} {own : String} {ro : Nat → Nat × (Int → Int)} {ini : Bool}
variable {C : gm_C} {R : gm_R} {i a0 b0 : Nat} {x0 : Int} {ts : List (Int × Nat)} {ls st : List gm_V} {S : List gm_S} {m : gm_M} {MT : Nat → Option gm_Me} {np : List Nat} {pl : gm_P} {cp lp : gm_Q} {fr lo : Nat}
theorem gm_callgo {as : List Nat} {r : gm_V} {S1 : List gm_S} {m1 : gm_M} {x : Array Value} {H : Heap} {locs : List Loc} {cells slots mc ms pc : Nat} {arr : Array Slot} {st0 rest : List Value} (hr : va_Run p l e Rm s mm args below meth c H locs cells slots mc ms (F0 mm pc arr st0) rest (gm_Qc D ci A ad as r S1 m1 x) A) (hS : va_S A s.heap H locs)
    (kk : ∀ (as1 : List Nat) (H1 : Heap) (locs1 : List Loc), as <+: as1 → as1.length = S1.length → va_P D vwCl (gm_W ci as1 S1 m1) H1 → va_D A (gm_W ci as1 S1 m1) → va_S A s.heap H1 locs1 → W p l e Rm s mm args below meth c H1 locs1 (cells + mc) (slots + ms) Q (F0 mm (pc + 3) arr ((gm_rv as1 ad r).toList ++ rest))) : W p l e Rm s mm args below meth c H locs cells slots Q (F0 mm pc arr st0) := by
  intro T hT X
  obtain ⟨v, st₀, t, T', L, h0, X', hL, e1, e2, ⟨⟨as1, g1, g2, hv, g3, g4⟩, hz, hk⟩, sg⟩ := hr T hT X
  cases hv
  rw [h0] at hz hk
  obtain ⟨t2, a1, b1⟩ := kk as1 T'.heap (locs ++ L) g1 g2 (by rw [e1]; exact g3) g4
    ⟨Nat.le_trans hS.1 (by rw [e1]; exact hz), fun q h1 h2 => by rw [e1, hk q (Nat.lt_of_lt_of_le h1 hS.1) h2]; exact hS.2.1 q h1 h2, fun q hq => by
      rcases List.mem_append.mp hq with h | h
      · exact hS.2.2 q h
      · exact hL q h⟩ T' rfl X'
  exact ⟨t2, sg t2 a1, b1⟩
/-- a call, whichever: what the machine does with the callee's contract -/
theorem gm_call {q : Nat} {r : gm_V} {S1 : List gm_S} {m1 : gm_M} {M : gm_Me} {k : Nat} (HS : gm_Snd MT l D ci A ad ro C fr lo) (hM : MT k = some M) (hC : C k (st.take q).reverse S m r S1 m1) (hn : gm_nx code i 3 = true) (hX : gm_X p l e Rm s mm args below meth c Q D ci A ad S0 S' as0 Fn nL code cc own ro ini (i + 1) ls (gm_ps r (st.drop q)) S1 m1)
    (HR : S'.length - S0.length ≤ Rm.cells ∧ gm_sz S' - gm_sz S0 ≤ Rm.slots)
    (hrun : gm_Env p s mm meth c args cc own nL D ci A ad ro ini → gm_I ls st S m → ∀ (as : List Nat) (arr : Array Slot) (H : Heap) (locs : List Loc) (cells slots : Nat), as.length = S.length → gm_loc as ad arr nL ls → va_P D vwCl (gm_W ci as S m) H → va_D A (gm_W ci as S m) → va_S A s.heap H locs →
      Met l M.1 (gm_ws M) { frames := fr, cells := S1.length - S.length, slots := gm_sz S1 - gm_sz S, locals := lo } (gm_Pc D ci A ad ro as (st.take q).reverse S m) (gm_Qc D ci A ad as r S1 m1) (S1.length - S.length) (gm_sz S1 - gm_sz S) A → (cells + (S1.length - S.length) ≤ Rm.cells ∧ slots + (gm_sz S1 - gm_sz S) ≤ Rm.slots) →
      ∃ x, va_Run p l e Rm s mm args below meth c H locs cells slots (S1.length - S.length) (gm_sz S1 - gm_sz S) (F0 mm (gm_pc code i) arr (st.map (gm_cv as ad))) ((st.drop q).map (gm_cv as ad)) (gm_Qc D ci A ad as r S1 m1 x) A) : gm_X p l e Rm s mm args below meth c Q D ci A ad S0 S' as0 Fn nL code cc own ro ini i ls st S m := by
  obtain ⟨⟨z1, z2⟩, hs⟩ := HS p e c k M _ S m r S1 m1 hM hC
  obtain ⟨x1, x2, x3⟩ := hX
  refine ⟨by omega, by omega, fun I hl h1 h2 => ?_⟩
  have Ia : gm_I (st.take q).reverse [] S m := ⟨fun v hv => I.2.1 v (List.mem_of_mem_take (List.mem_reverse.mp hv)), (fun v hv => by cases hv), I.2.2⟩
  obtain ⟨⟨hr, hI1⟩, hMet⟩ := hs Ia
  have hd0 : ∀ v ∈ st.drop q, gm_ok S.length v := fun v hv => I.2.1 v (List.mem_of_mem_drop hv)
  obtain ⟨f, w⟩ := x3 ⟨fun v hv => gm_ok_mono z1 (I.1 v hv), (fun v hv => by
      unfold gm_ps at hv
      split at hv
      · exact gm_ok_mono z1 (hd0 v hv)
      · rcases List.mem_cons.mp hv with rfl | hv
        · exact hr
        · exact gm_ok_mono z1 (hd0 v hv)), hI1.2.2⟩ hl (by omega) (by omega)
  refine ⟨f, fun E as arr H locs b1 b2 b3 b4 b5 b6 => ?_⟩
  obtain ⟨x, hrun⟩ := hrun E I as arr H locs (S.length - S0.length) (gm_sz S - gm_sz S0) b2 b3 b4 b5 b6 (hMet as b2) ⟨by omega, by omega⟩
  refine gm_callgo hrun b6 (fun as1 H1 locs1 c1 c2 c3 c4 c5 => ?_)
  have w1 := w E as1 arr H1 locs1 (List.IsPrefix.trans b1 c1) c2 (gm_loc_mono c1 b3 (by rw [b2]; exact I.1)) c3 c4 c5
  have e1 : S1.length - S0.length = S.length - S0.length + (S1.length - S.length) := by omega
  have e2 : gm_sz S1 - gm_sz S0 = gm_sz S - gm_sz S0 + (gm_sz S1 - gm_sz S) := by omega
  rw [e1, e2, gm_nx_eq hn] at w1
  have e3 : (gm_ps r (st.drop q)).map (gm_cv as1 ad) = (gm_rv as1 ad r).toList ++ (st.drop q).map (gm_cv as ad) := by
    have e4 : (st.drop q).map (gm_cv as1 ad) = (st.drop q).map (gm_cv as ad) := List.map_congr_left (fun v hv => gm_cv_mono c1 (by rw [b2]; exact hd0 v hv))
    cases r with
    | none => exact e4
    | some v => show _ :: _ = _ :: _; rw [e4]; rfl
  rw [e3] at w1
  exact w1
theorem gm_stk {q : Nat} (hq : q ≤ st.length) (as : List Nat) : st.map (gm_cv as ad) = ((st.take q).reverse.map (gm_cv as ad)).reverse ++ (st.drop q).map (gm_cv as ad) := by
  rw [← List.map_reverse, List.reverse_reverse, ← List.map_append, List.take_append_drop]
theorem gm_c_invokevirtual {n : Nat} (HS : gm_Snd MT l D ci A ad ro C fr lo) (HF : fr + 1 ≤ Rm.frames ∧ lo + 42 ≤ Rm.locals) (HR : S'.length - S0.length ≤ Rm.cells ∧ gm_sz S' - gm_sz S0 ≤ Rm.slots) {r : vw_C} {M : gm_Me} (hr : vwCl[x0.toNat]? = some r) (hM : MT a0 = some M) (hcls : M.1.cls = r.1) (h1 : Cond.methodLink own n M.1 ∈ gm_TW) (h2 : Cond.instanceMethod M.1 ∈ gm_TW) (h3 : Cond.selects r.1 M.1 M.1 ∈ gm_TW) (mf : gm_mf np pl cp lp a0 M) (hnp : np[a0]? = some (b0 - 1)) (hb1 : 1 ≤ b0)
    (hd : decode cc (gm_pc code i) = .ok (.invokevirtual n, 3)) (hn : gm_nx code i 3 = true) (h : gm_step C ro (.invokevirtual n) a0 b0 x0 ts i ls st S m (gm_X p l e Rm s mm args below meth c Q D ci A ad S0 S' as0 Fn nL code cc own ro ini) R) : gm_X p l e Rm s mm args below meth c Q D ci A ad S0 S' as0 Fn nL code cc own ro ini i ls st S m := by
  simp only [gm_step] at h
  obtain ⟨hq, hwd, hrc, r1, S1, m1, hC, hX⟩ := h
  obtain ⟨-, -, f3, f4, f5, f6, ⟨n0, f7, f8⟩, f9, -⟩ := mf
  rw [hnp] at f7
  cases f7
  split at hrc
  · rename_i b t hb
    refine gm_call HS hM hC hn hX HR (fun E I as arr H locs cells slots hl hloc hP hD hS hMet hf => ⟨(((st.take b0).reverse).map (gm_cv as ad)).toArray, ?_⟩)
    obtain ⟨hz, n1, rs, hsh⟩ := hrc
    have he := gm_W_at (ci := ci) (as := as) (m := m) hsh
    rw [gm_eO hr] at he
    have hlen : ((st.take b0).reverse).length = b0 := by simp; omega
    rw [hb] at hMet hlen ⊢
    refine va_runV (As := t.map (gm_cv as ad)) (b := as.getD b.toNat 0) (Ts := gm_TW) (C := r.1) (bytes := M.2.1) (maxL := M.2.2.1) (ret := M.2.2.2.1) ⟨E.1, E.2.1, E.2.2.1, E.2.2.2.1, E.2.2.2.2.1⟩ hMet
      (cwV (b0 - 1) E.2.2.2.2.1 (fun w hw => ?_) rfl rfl rfl ⟨hcls, f5, f6, f8⟩ ⟨HF.1, by have := HF.2; dsimp only; omega⟩)
      ⟨gm_blind, va_recv E.2.2.2.2.2.1.1 hP hr he, fun U hU hW => ⟨rfl, gm_U_call E.2.2.2.2.2.1 hS hU hW, by rw [hU]; exact hP, hD⟩⟩ rfl (by rw [List.length_map]; rw [List.length_cons] at hlen; omega) hloc.1 ?_ ?_ hd hf
    · unfold wsV at hw
      rcases List.mem_append.mp hw with hw | hw
      · simp only [List.mem_cons, List.not_mem_nil, or_false] at hw
        rcases hw with rfl | rfl | rfl | rfl
        · exact gm_TW_good h1
        · exact gm_TW_good h2
        · exact gm_TW_good h3
        · rw [← hcls]; exact gm_TW_good f4
      · exact gm_ws_good f3 w hw
    · show st.map (gm_cv as ad) = _
      rw [gm_stk hq as, hb]
      simp [gm_cv]
    · rw [gm_wd_sum]
      show 2 * 0 + _ ≤ 8
      omega
  · exact hrc.elim
theorem gm_c_invokestatic {n : Nat} (HS : gm_Snd MT l D ci A ad ro C fr lo) (HF : fr + 1 ≤ Rm.frames ∧ lo + 42 ≤ Rm.locals) (HR : S'.length - S0.length ≤ Rm.cells ∧ gm_sz S' - gm_sz S0 ≤ Rm.slots) {M : gm_Me} (ha0 : a0 ≠ 998) (ha1 : a0 ≠ 997) (ha2 : a0 ≠ 996) (hM : MT a0 = some M) (h1 : Cond.methodLink own n M.1 ∈ gm_TW) (h2 : Cond.static M.1 ∈ gm_TW) (mf : gm_mf np pl cp lp a0 M) (hnp : np[a0]? = some b0)
    (hd : decode cc (gm_pc code i) = .ok (.invokestatic n, 3)) (hn : gm_nx code i 3 = true) (h : gm_step C ro (.invokestatic n) a0 b0 x0 ts i ls st S m (gm_X p l e Rm s mm args below meth c Q D ci A ad S0 S' as0 Fn nL code cc own ro ini) R) : gm_X p l e Rm s mm args below meth c Q D ci A ad S0 S' as0 Fn nL code cc own ro ini i ls st S m := by
  simp only [gm_step] at h
  · obtain ⟨hq, hwd, r1, S1, m1, hC, hX⟩ := h
    obtain ⟨-, -, f3, f4, f5, f6, ⟨n0, f7, f8⟩, f9, -⟩ := mf
    rw [hnp] at f7
    cases f7
    refine gm_call HS hM hC hn hX HR (fun E I as arr H locs cells slots hl hloc hP hD hS hMet hf => ⟨(((st.take b0).reverse).map (gm_cv as ad)).toArray, ?_⟩)
    have hlen : ((st.take b0).reverse).length = b0 := by simp; omega
    refine va_runS (As := ((st.take b0).reverse).map (gm_cv as ad)) (Ts := gm_TW) (bytes := M.2.1) (maxL := M.2.2.1) (ret := M.2.2.2.1) ⟨E.1, E.2.1, E.2.2.1, E.2.2.2.1, E.2.2.2.2.1⟩ hMet
      (va_cwS b0 E.2.2.2.2.1 (fun w hw => ?_) rfl rfl rfl ⟨f5, f6, f8⟩ ⟨HF.1, by have := HF.2; dsimp only; omega⟩)
      ⟨gm_blind, fun U hU hW => ⟨rfl, gm_U_call E.2.2.2.2.2.1 hS hU hW, by rw [hU]; exact hP, hD⟩⟩ rfl (by rw [List.length_map]; exact hlen) hloc.1 ?_ ?_ hd hf
    · unfold va_wsS at hw
      rcases List.mem_append.mp hw with hw | hw
      · simp only [List.mem_cons, List.not_mem_nil, or_false] at hw
        rcases hw with rfl | rfl | rfl
        · exact gm_TW_good h1
        · exact gm_TW_good h2
        · exact gm_TW_good f4
      · exact gm_ws_good f3 w hw
    · exact gm_stk hq as
    · rw [gm_wd_sum]
      show 2 * 0 + _ ≤ 8
      omega
theorem gm_c_invokespecial {n : Nat} (HS : gm_Snd MT l D ci A ad ro C fr lo) (HF : fr + 1 ≤ Rm.frames ∧ lo + 42 ≤ Rm.locals) (HR : S'.length - S0.length ≤ Rm.cells ∧ gm_sz S' - gm_sz S0 ≤ Rm.slots) {M : gm_Me} (ha0 : a0 ≠ 999) (hM : MT a0 = some M) (hnm : M.1.name = "<init>") (hret : M.2.2.2.1 = none) (h1 : Cond.methodLink own n M.1 ∈ gm_TW ∨ ∃ ho, Cond.methodLinkNest own n M.1 ho ∈ lw_tbl) (h2 : Cond.instanceMethod M.1 ∈ gm_TW) (mf : gm_mf np pl cp lp a0 M) (hnp : np[a0]? = some (b0 - 1)) (hb1 : 1 ≤ b0)
    (hd : decode cc (gm_pc code i) = .ok (.invokespecial n, 3)) (hn : gm_nx code i 3 = true) (h : gm_step C ro (.invokespecial n) a0 b0 x0 ts i ls st S m (gm_X p l e Rm s mm args below meth c Q D ci A ad S0 S' as0 Fn nL code cc own ro ini) R) : gm_X p l e Rm s mm args below meth c Q D ci A ad S0 S' as0 Fn nL code cc own ro ini i ls st S m := by
  simp only [gm_step] at h
  · obtain ⟨hq, hwd, hrc, r1, S1, m1, hC, hX⟩ := h
    obtain ⟨-, -, f3, f4, f5, f6, ⟨n0, f7, f8⟩, f9, -⟩ := mf
    rw [hnp] at f7
    cases f7
    split at hrc
    · rename_i b t hb
      refine gm_call HS hM hC hn hX HR (fun E I as arr H locs cells slots hl hloc hP hD hS hMet hf => ⟨(((st.take b0).reverse).map (gm_cv as ad)).toArray, ?_⟩)
      have hlen : ((st.take b0).reverse).length = b0 := by simp; omega
      rw [hb] at hMet hlen ⊢
      have hst : st.map (gm_cv as ad) = (t.map (gm_cv as ad)).reverse ++ .ref (as.getD b.toNat 0) :: (st.drop b0).map (gm_cv as ad) := by
        rw [gm_stk hq as, hb]
        simp [gm_cv]
      have hws0 : gm_ws M = Cond.code M.1 M.2.1 M.2.2.1 none :: gm_TW := by unfold gm_ws; rw [hret]
      have hpre : PreS s H (gm_Pc D ci A ad ro as (gA b :: t) S m) (.ref (as.getD b.toNat 0) :: t.map (gm_cv as ad)) := ⟨gm_blind, fun U hU hW => ⟨rfl, gm_U_call E.2.2.2.2.2.1 hS hU hW, by rw [hU]; exact hP, hD⟩⟩
      rcases h1 with h1 | ⟨ho, h1⟩
      · exact va_runI (As := t.map (gm_cv as ad)) (b := as.getD b.toNat 0) (Ts := gm_TW) (bytes := M.2.1) (maxL := M.2.2.1) ⟨E.1, E.2.1, E.2.2.1, E.2.2.2.1, E.2.2.2.2.1⟩ hMet
          (cwI (b0 - 1) E.2.2.2.2.1 (gm_ws_good f3) hws0 rfl rfl (E.2.2.2.2.1 _ f4) (E.2.2.2.2.1 _ h1) (E.2.2.2.2.1 _ h2) hnm ⟨f5, f6, f8⟩ ⟨HF.1, by have := HF.2; dsimp only; omega⟩)
          hpre rfl (by rw [List.length_map]; rw [List.length_cons] at hlen; omega) hloc.1 hst (by rw [gm_wd_sum]; show 2 * 0 + _ ≤ 8; omega) hd hf
      · exact va_runIN (As := t.map (gm_cv as ad)) (b := as.getD b.toNat 0) (Ts := gm_TW) (host := ho) (bytes := M.2.1) (maxL := M.2.2.1) ⟨E.1, E.2.1, E.2.2.1, E.2.2.2.1, E.2.2.2.2.1⟩ hMet
          ⟨va_cnB (b0 - 1) E.2.2.2.2.1 (gm_ws_good f3) hws0 rfl rfl (E.2.2.2.2.2.1.2.2.2.2.2.2.2 _ h1 rfl) (E.2.2.2.2.1 _ f4) ⟨f5, f6, f8⟩ ⟨HF.1, by have := HF.2; dsimp only; omega⟩, hnm, E.2.2.2.2.1 _ h2⟩
          hpre rfl (by rw [List.length_map]; rw [List.length_cons] at hlen; omega) hloc.1 hst (by rw [gm_wd_sum]; show 2 * 0 + _ ≤ 8; omega) hd hf
    · exact hrc.elim
end GM6
