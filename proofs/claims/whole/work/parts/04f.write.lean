theorem gm_fs_set {as : List Nat} {k n j : Nat} {rs : List (Option Int)} {ma : Int → Int} {v : Int} (hj : j < n) (hf : gm_fi k j = true) : (List.range n).map (gm_fv as k rs (fun x : Int => if x = (j : Int) then v else ma x)) = ((List.range n).map (gm_fv as k rs ma)).set j (.int (Int32.ofInt v)) := by
  apply List.ext_getElem?
  intro q
  by_cases hq : q = j
  · subst hq
    rw [List.getElem?_set_self (by simpa using hj), List.getElem?_map, List.getElem?_range hj]
    simp [gm_fv, hf]
  · rw [List.getElem?_set_ne (Ne.symm hq)]
    by_cases hl : q < n
    · rw [List.getElem?_map, List.getElem?_map, List.getElem?_range hl]
      have : ¬ ((q : Int) = (j : Int)) := by omega
      simp [gm_fv, this]
    · rw [List.getElem?_eq_none (by simpa using hl), List.getElem?_eq_none (by simpa using hl)]
theorem gm_fs_setr {as : List Nat} {k n j : Nat} {rs : List (Option Int)} {ma : Int → Int} {b : Int} (hj : j < n) (hr : rs.length = n) (hf : gm_fi k j = false) : (List.range n).map (gm_fv as k (rs.set j (some b)) ma) = ((List.range n).map (gm_fv as k rs ma)).set j (.ref (as.getD b.toNat 0)) := by
  apply List.ext_getElem?
  intro q
  by_cases hq : q = j
  · subst hq
    rw [List.getElem?_set_self (by simpa using hj), List.getElem?_map, List.getElem?_range hj]
    simp only [Option.map_some, gm_fv, hf, Bool.false_eq_true, if_false]
    rw [List.getElem?_set_self (by omega)]
    rfl
  · rw [List.getElem?_set_ne (Ne.symm hq)]
    by_cases hl : q < n
    · rw [List.getElem?_map, List.getElem?_map, List.getElem?_range hl]
      simp only [Option.map_some, gm_fv]
      rw [List.getElem?_set_ne (Ne.symm hq)]
    · rw [List.getElem?_eq_none (by simpa using hl), List.getElem?_eq_none (by simpa using hl)]
theorem gm_w1s_set {n : Nat} {k n1 j : Nat} {rs : List (Option Int)} {b : Int} (h : gm_w1s n (k, n1, rs)) (hb : 0 ≤ b ∧ b.toNat < n) : gm_w1s n (k, n1, rs.set j (some b)) := by
  refine ⟨⟨h.1.1, ?_⟩, fun q z hq => ?_⟩
  · rcases h.1.2 with ⟨r, e1, e2, e3⟩ | e1 | e1 | ⟨e1, e2⟩
    · exact Or.inl ⟨r, e1, e2, by rw [List.length_set]; exact e3⟩
    · exact Or.inr (Or.inl e1)
    · exact Or.inr (Or.inr (Or.inl e1))
    · exact Or.inr (Or.inr (Or.inr ⟨e1, by rw [List.length_set]; exact e2⟩))
  · by_cases e : q = j
    · subst e
      have hl := (List.getElem?_eq_some_iff.mp hq).1
      rw [List.length_set] at hl
      dsimp only at hq
      rw [List.getElem?_set_self hl] at hq
      cases hq
      exact hb
    · dsimp only at hq
      rw [List.getElem?_set_ne (Ne.symm e)] at hq
      exact h.2 q z hq
theorem gm_wf_set {S : List gm_S} {a : Nat} {k n1 j : Nat} {rs : List (Option Int)} {b : Int} (hw : gm_wf S) (h : S[a]? = some (k, n1, rs)) (hb : 0 ≤ b ∧ b.toNat < S.length) : gm_wf (S.set a (k, n1, rs.set j (some b))) := by
  intro q sh hq
  rw [List.length_set]
  by_cases e : q = a
  · subst e
    rw [List.getElem?_set_self (List.getElem?_eq_some_iff.mp h).1] at hq
    cases hq
    exact gm_w1s_set (hw q _ h) hb
  · rw [List.getElem?_set_ne (Ne.symm e)] at hq
    exact hw q sh hq
theorem gm_sz_set {S : List gm_S} {a : Nat} {sh sh' : gm_S} (h : S[a]? = some sh) (hn : sh'.2.1 = sh.2.1) : gm_sz (S.set a sh') = gm_sz S := by
  unfold gm_sz
  have : (S.set a sh').map (fun sh => sh.2.1) = S.map (fun sh => sh.2.1) := by
    apply List.ext_getElem?
    intro q
    by_cases e : q = a
    · subst e
      rw [List.getElem?_map, List.getElem?_map, List.getElem?_set_self (List.getElem?_eq_some_iff.mp h).1, h]
      simp [hn]
    · rw [List.getElem?_map, List.getElem?_map, List.getElem?_set_ne (Ne.symm e)]
  rw [this]
theorem gm_sz_app (S : List gm_S) (sh : gm_S) : gm_sz (S ++ [sh]) = gm_sz S + sh.2.1 := by simp [gm_sz]
theorem gm_wf_app {S : List gm_S} {sh : gm_S} (hw : gm_wf S) (h : gm_w1s S.length sh) : gm_wf (S ++ [sh]) := by
  intro q s' hq
  rw [List.length_append, List.length_singleton]
  by_cases e : q < S.length
  · rw [List.getElem?_append_left e] at hq
    exact gm_w1s_mono (by omega) (hw q s' hq)
  · rw [List.getElem?_append_right (by omega)] at hq
    have hz : q - S.length < 1 := (List.getElem?_eq_some_iff.mp hq).1
    rw [show q - S.length = 0 by omega] at hq
    cases hq
    exact gm_w1s_mono (by omega) h
section GM4
variable {p : Program} {l : Launch} {e : Env} {Rm : Room} {s : State} {mm : MethodId} {args : Array Value} {below : List Frame} {meth : Method} {c : Code} {Q : State → Prop} {D : va_G} {ci : gm_ids} {A : Nat → Prop} {ad : Nat → Nat} {S0 S' : List gm_S} {as0 : List Nat} {Fn : Prop} {nL : Nat} {code : List gm_O} {cc : ByteArray} {own : String} {ro : Nat → Nat × (Int → Int)} {ini : Bool}
variable {C : gm_C} {R : gm_R} {i a0 b0 : Nat} {x0 : Int} {ts : List (Int × Nat)} {ls st : List gm_V} {S : List gm_S} {m : gm_M}
/-- a step that writes memory -/
theorem gm_mem {i' : Nat} {st' : List gm_V} {m' : gm_M} (hX : gm_X p l e Rm s mm args below meth c Q D ci A ad S0 S' as0 Fn nL code cc own ro ini i' ls st' S m')
    (hI : gm_I ls st S m → (∀ v ∈ st', gm_ok S.length v) ∧ (∀ a j, gm_i (m' a j)) ∧ (∀ a : Int, (S.length : Int) ≤ a → ∀ j, m' a j = 0))
    (hW : gm_Env p s mm meth c args cc own nL D ci A ad ro ini → gm_I ls st S m → ∀ (as : List Nat) (arr : Array Slot) (H : Heap) (locs : List Loc) (cells slots : Nat), gm_loc as ad arr nL ls → va_P D vwCl (gm_W ci as S m) H → va_D A (gm_W ci as S m) → va_S A s.heap H locs → (∀ H1 locs1, va_P D vwCl (gm_W ci as S m') H1 → va_D A (gm_W ci as S m') → va_S A s.heap H1 locs1 → W p l e Rm s mm args below meth c H1 locs1 cells slots Q (F0 mm (gm_pc code i') arr (st'.map (gm_cv as ad)))) → W p l e Rm s mm args below meth c H locs cells slots Q (F0 mm (gm_pc code i) arr (st.map (gm_cv as ad)))) :
    gm_X p l e Rm s mm args below meth c Q D ci A ad S0 S' as0 Fn nL code cc own ro ini i ls st S m := by
  refine ⟨hX.1, hX.2.1, fun I hl h1 h2 => ?_⟩
  obtain ⟨a1, a2, a3⟩ := hI I
  obtain ⟨f, w⟩ := hX.2.2 ⟨I.1, a1, a2, a3, I.2.2.2.2⟩ hl h1 h2
  exact ⟨f, fun E as arr H locs b1 b2 b3 b4 b5 b6 => hW E I as arr H locs _ _ b3 b4 b5 b6 (fun H1 locs1 c1 c2 c3 => w E as arr H1 locs1 b1 b2 b3 c1 c2 c3)⟩
/-- a step that writes a cell's name -/
theorem gm_ref {i' : Nat} {st' : List gm_V} {a : Nat} {sh sh' : gm_S} (hsh : S[a]? = some sh) (hn : sh'.2.1 = sh.2.1) (hX : gm_X p l e Rm s mm args below meth c Q D ci A ad S0 S' as0 Fn nL code cc own ro ini i' ls st' (S.set a sh') m)
    (hI : gm_I ls st S m → (∀ v ∈ st', gm_ok S.length v) ∧ gm_wf (S.set a sh'))
    (hW : gm_Env p s mm meth c args cc own nL D ci A ad ro ini → gm_I ls st S m → ∀ (as : List Nat) (arr : Array Slot) (H : Heap) (locs : List Loc) (cells slots : Nat), gm_loc as ad arr nL ls → va_P D vwCl (gm_W ci as S m) H → va_D A (gm_W ci as S m) → va_S A s.heap H locs → (∀ H1 locs1, va_P D vwCl (gm_W ci as (S.set a sh') m) H1 → va_D A (gm_W ci as (S.set a sh') m) → va_S A s.heap H1 locs1 → W p l e Rm s mm args below meth c H1 locs1 cells slots Q (F0 mm (gm_pc code i') arr (st'.map (gm_cv as ad)))) → W p l e Rm s mm args below meth c H locs cells slots Q (F0 mm (gm_pc code i) arr (st.map (gm_cv as ad)))) :
    gm_X p l e Rm s mm args below meth c Q D ci A ad S0 S' as0 Fn nL code cc own ro ini i ls st S m := by
  have hz := gm_sz_set hsh hn
  obtain ⟨x1, x2, x3⟩ := hX
  rw [List.length_set] at x1 x3
  rw [hz] at x2 x3
  refine ⟨x1, x2, fun I hl h1 h2 => ?_⟩
  obtain ⟨a1, a2⟩ := hI I
  obtain ⟨f, w⟩ := x3 ⟨by rw [List.length_set]; exact I.1, by rw [List.length_set]; exact a1, I.2.2.1, by rw [List.length_set]; exact I.2.2.2.1, a2⟩ hl h1 h2
  exact ⟨f, fun E as arr H locs b1 b2 b3 b4 b5 b6 => hW E I as arr H locs _ _ b3 b4 b5 b6 (fun H1 locs1 c1 c2 c3 => w E as arr H1 locs1 b1 b2 b3 c1 c2 c3)⟩
/-- a step that makes a cell -/
theorem gm_make {i' : Nat} {st' : List gm_V} {sh : gm_S} (HR : S'.length - S0.length ≤ Rm.cells ∧ gm_sz S' - gm_sz S0 ≤ Rm.slots) (hrs : ∀ (k : Nat) (b : Int), sh.2.2[k]? = some (some b) → False) (hX : gm_X p l e Rm s mm args below meth c Q D ci A ad S0 S' as0 Fn nL code cc own ro ini i' ls (gA (S.length : Int) :: st') (S ++ [sh]) m)
    (hI : gm_I ls st S m → (∀ v ∈ st', gm_ok S.length v) ∧ gm_w1s S.length sh)
    (hW : gm_Env p s mm meth c args cc own nL D ci A ad ro ini → gm_I ls st S m → ∀ (as : List Nat) (arr : Array Slot) (H : Heap) (locs : List Loc) (cells slots : Nat), gm_loc as ad arr nL ls → va_P D vwCl (gm_W ci as S m) H → va_D A (gm_W ci as S m) → va_S A s.heap H locs → cells + 1 ≤ Rm.cells → slots + sh.2.1 ≤ Rm.slots → (∀ q H1 locs1, va_P D vwCl (gm_W ci as S m ++ [(q, gm_e ci as sh (m (S.length : Int)))]) H1 → va_D A (gm_W ci as S m ++ [(q, gm_e ci as sh (m (S.length : Int)))]) → va_S A s.heap H1 locs1 → W p l e Rm s mm args below meth c H1 locs1 (cells + 1) (slots + sh.2.1) Q (F0 mm (gm_pc code i') arr (.ref q :: st'.map (gm_cv as ad)))) → W p l e Rm s mm args below meth c H locs cells slots Q (F0 mm (gm_pc code i) arr (st.map (gm_cv as ad)))) :
    gm_X p l e Rm s mm args below meth c Q D ci A ad S0 S' as0 Fn nL code cc own ro ini i ls st S m := by
  obtain ⟨x1, x2, x3⟩ := hX
  have hsz := gm_sz_app S sh
  rw [List.length_append, List.length_singleton] at x1
  rw [hsz] at x2
  refine ⟨by omega, by omega, fun I hl h1 h2 => ?_⟩
  obtain ⟨a1, a2⟩ := hI I
  have hlen : (S ++ [sh]).length = S.length + 1 := by simp
  obtain ⟨f, w⟩ := x3 ⟨fun v hv => gm_ok_mono (by omega) (I.1 v hv), fun v hv => by
      rcases List.mem_cons.mp hv with rfl | hv
      · exact ⟨by omega, by rw [hlen]; omega⟩
      · exact gm_ok_mono (by omega) (a1 v hv), I.2.2.1, fun a ha j => I.2.2.2.1 a (by rw [hlen] at ha; omega) j, gm_wf_app I.2.2.2.2 a2⟩ hl (by omega) (by omega)
  refine ⟨f, fun E as arr H locs b1 b2 b3 b4 b5 b6 => hW E I as arr H locs _ _ b3 b4 b5 b6 (by omega) (by omega) (fun q H1 locs1 c1 c2 c3 => ?_)⟩
  have hpre : as <+: as ++ [q] := List.prefix_append _ _
  have hwp := gm_W_push (ci := ci) (m := m) (q := q) b2 I.2.2.2.2 hrs
  have w1 := w E (as ++ [q]) arr H1 locs1 (List.IsPrefix.trans b1 hpre) (by simp [b2]) (gm_loc_mono hpre b3 (by rw [b2]; exact I.1)) (by rw [hwp]; exact c1) (by rw [hwp]; exact c2) c3
  rw [hlen, hsz] at w1
  have e1 : S.length + 1 - S0.length = S.length - S0.length + 1 := by omega
  have e2 : gm_sz S + sh.2.1 - gm_sz S0 = gm_sz S - gm_sz S0 + sh.2.1 := by omega
  rw [e1, e2] at w1
  have e3 : (gA (S.length : Int) :: st').map (gm_cv (as ++ [q]) ad) = .ref q :: st'.map (gm_cv as ad) := by
    rw [List.map_cons]
    congr 1
    · show Value.ref _ = _
      congr 1
      simp only [List.getD_eq_getElem?_getD, Int.toNat_natCast]
      rw [← b2, List.getElem?_concat_length]
      rfl
    · exact List.map_congr_left (fun v hv => gm_cv_mono hpre (by rw [b2]; exact a1 v hv))
  rw [e3] at w1
  exact w1
theorem gm_c_iastore (hd : decode cc (gm_pc code i) = .ok (.iastore, 1)) (hn : gm_nx code i 1 = true) (h : gm_step C ro .iastore a0 b0 x0 ts i ls st S m (gm_X p l e Rm s mm args below meth c Q D ci A ad S0 S' as0 Fn nL code cc own ro ini) R) : gm_X p l e Rm s mm args below meth c Q D ci A ad S0 S' as0 Fn nL code cc own ro ini i ls st S m := by
  simp only [gm_step] at h
  split at h
  · rename_i v j a t
    obtain ⟨⟨hz, hj0, n1, rs, hsh, hj⟩, h⟩ := h
    obtain ⟨a', rfl⟩ := Int.eq_ofNat_of_zero_le hz
    rw [Int.toNat_natCast] at hsh
    have hal := (List.getElem?_eq_some_iff.mp hsh).1
    refine gm_mem h (fun I => ⟨fun w hw => I.2.1 w (List.mem_cons_of_mem _ (List.mem_cons_of_mem _ (List.mem_cons_of_mem _ hw))), fun b k => ?_, fun b hb k => ?_⟩) (fun E I as arr H locs cells slots hloc hP hD hS kk => ?_)
    · unfold gm_up
      split
      · exact I.2.1 (gI v) List.mem_cons_self
      · exact I.2.2.1 _ _
    · unfold gm_up
      rw [if_neg (by omega)]
      exact I.2.2.2.1 b hb k
    · have hji : gm_i j := I.2.1 (gI j) (List.mem_cons_of_mem _ List.mem_cons_self)
      have he := gm_W_at (ci := ci) (as := as) (m := m) hsh
      rw [gm_e10] at he
      have hw := gm_W_set (ci := ci) (as := as) (m := m) (m' := gm_up m (a' : Int) j v) hsh (fun b hb => gm_up_ne m (by omega))
      rw [gm_up_at, gm_e10, gm_upd hj0] at hw
      simp only [List.map_cons, gm_cv, Int.toNat_natCast] at kk ⊢
      rw [gm_nx_eq hn, hw] at kk
      refine va_iast E.1 E.2.1 E.2.2.2.2.2.1.1 hP hD hS a' 0 he rfl (vp_in_oi hji hj0 hj) hd (fun H1 locs1 c1 c2 c3 => ?_)
      rw [oi_nat hji] at c1 c2
      exact kk H1 locs1 c1 c2 c3
  · exact h.elim
theorem gm_c_bastore (hd : decode cc (gm_pc code i) = .ok (.bastore, 1)) (hn : gm_nx code i 1 = true) (h : gm_step C ro .bastore a0 b0 x0 ts i ls st S m (gm_X p l e Rm s mm args below meth c Q D ci A ad S0 S' as0 Fn nL code cc own ro ini) R) : gm_X p l e Rm s mm args below meth c Q D ci A ad S0 S' as0 Fn nL code cc own ro ini i ls st S m := by
  simp only [gm_step] at h
  split at h
  · rename_i v j a t
    obtain ⟨⟨hz, hj0, n1, rs, hsh, hj⟩, hv, h⟩ := h
    obtain ⟨a', rfl⟩ := Int.eq_ofNat_of_zero_le hz
    rw [Int.toNat_natCast] at hsh
    have hal := (List.getElem?_eq_some_iff.mp hsh).1
    refine gm_mem h (fun I => ⟨fun w hw => I.2.1 w (List.mem_cons_of_mem _ (List.mem_cons_of_mem _ (List.mem_cons_of_mem _ hw))), fun b k => ?_, fun b hb k => ?_⟩) (fun E I as arr H locs cells slots hloc hP hD hS kk => ?_)
    · unfold gm_up
      split
      · exact I.2.1 (gI v) List.mem_cons_self
      · exact I.2.2.1 _ _
    · unfold gm_up
      rw [if_neg (by omega)]
      exact I.2.2.2.1 b hb k
    · have hji : gm_i j := I.2.1 (gI j) (List.mem_cons_of_mem _ List.mem_cons_self)
      have he := gm_W_at (ci := ci) (as := as) (m := m) hsh
      rw [gm_e11] at he
      have hw := gm_W_set (ci := ci) (as := as) (m := m) (m' := gm_up m (a' : Int) j v) hsh (fun b hb => gm_up_ne m (by omega))
      rw [gm_up_at, gm_e11, gm_upd hj0] at hw
      simp only [List.map_cons, gm_cv, Int.toNat_natCast] at kk ⊢
      rw [gm_nx_eq hn, hw] at kk
      refine va_zast E.1 E.2.1 E.2.2.2.2.2.1.1 hP hD hS a' 1 he rfl (vp_in_oi hji hj0 hj) hd (fun H1 locs1 c1 c2 c3 => ?_)
      rw [oi_nat hji] at c1 c2
      have hnar : vp_nar .boolean (Int32.ofInt v) = Int32.ofInt v := by rcases hv with rfl | rfl <;> decide
      rw [hnar] at c1 c2
      exact kk H1 locs1 c1 c2 c3
  · exact h.elim
theorem gm_c_putfield {n : Nat} (CF : gm_CF) {r : vw_C} (hr : vwCl[a0]? = some r) (hb0 : b0 < r.2.2) (hl : Cond.fieldLink own n r.1 (r.2.1 b0).2.1 (r.2.1 b0).2.2.1 ∈ gm_TW) (hx0 : x0 = (b0 : Int)) (hf : gm_fi a0 b0 = ts.isEmpty) (hfin : gm_fin a0 b0 = false ∨ (ini = true ∧ own = r.1)) (hd : decode cc (gm_pc code i) = .ok (.putfield n, 3)) (hn : gm_nx code i 3 = true) (h : gm_step C ro (.putfield n) a0 b0 x0 ts i ls st S m (gm_X p l e Rm s mm args below meth c Q D ci A ad S0 S' as0 Fn nL code cc own ro ini) R) : gm_X p l e Rm s mm args below meth c Q D ci A ad S0 S' as0 Fn nL code cc own ro ini i ls st S m := by
  simp only [gm_step] at h
  obtain ⟨-, hws, -, -, ty, hty, hnm, hall⟩ := CF a0 r hr
  obtain ⟨hT1, hT2, hT3⟩ := hall b0 hb0
  have hfe : gm_fin a0 b0 = (r.2.1 b0).2.2.2 := by unfold gm_fin; rw [hr]
  have key : gm_Env p s mm meth c args cc own nL D ci A ad ro ini → ∀ {a' : Nat} {n1 : Nat} {rs : List (Option Int)} {v : Value} {rest : List Value}, S[a']? = some (a0, n1, rs) → gm_wf S → narrow (ty b0) v = v → fits (ty b0) v = true → ∀ (as : List Nat) (arr : Array Slot) (H : Heap) (locs : List Loc) (cells slots : Nat), va_P D vwCl (gm_W ci as S m) H → va_D A (gm_W ci as S m) → va_S A s.heap H locs →
      (∀ H1 locs1, va_P D vwCl ((gm_W ci as S m).set a' (as.getD a' 0, .inr (a0, ((List.range n1).map (gm_fv as a0 rs (m a'))).set b0 v))) H1 → va_D A ((gm_W ci as S m).set a' (as.getD a' 0, .inr (a0, ((List.range n1).map (gm_fv as a0 rs (m a'))).set b0 v))) → va_S A s.heap H1 locs1 → W p l e Rm s mm args below meth c H1 locs1 cells slots Q (F0 mm (gm_pc code (i + 1)) arr rest)) → W p l e Rm s mm args below meth c H locs cells slots Q (F0 mm (gm_pc code i) arr (v :: .ref (as.getD a' 0) :: rest)) := by
    intro E a' n1 rs v rest hsh hwf hnv hfv as arr H locs cells slots hP hD hS kk
    have hN : n1 = r.2.2 := by
      rcases (hwf a' _ hsh).1.2 with ⟨r', e1, e2, -⟩ | e1 | e1 | ⟨e1 | e1, -⟩
      · rw [hr] at e1; cases e1; exact e2
      all_goals (have := gm_vw_lt hr; simp only at e1; omega)
    have he := gm_W_at (ci := ci) (as := as) (m := m) hsh
    rw [gm_eO hr] at he
    rw [gm_nx_eq hn] at kk
    rcases hfin with hfin | ⟨hi1, hi2⟩
    · exact va_put (ref := r.1) (C := r.1) (T := r.2.1) (N := r.2.2) E.1 E.2.1 (Ts := gm_TW) E.2.2.2.2.1 hws ty hty hnm E.2.2.2.1 E.2.2.2.2.2.1.1 hP hD hS a' he hr b0 hb0 (E.2.2.2.2.1 _ hl) (fun x hx => by rw [hT1] at hx; exact hx) (by rw [← hfe]; exact hfin) (hty b0 hb0) hnv hfv (by simp [hN]; exact hb0) hd kk
    · cases hc : (r.2.1 b0).2.2.2 with
      | false => exact va_put (ref := r.1) (C := r.1) (T := r.2.1) (N := r.2.2) E.1 E.2.1 (Ts := gm_TW) E.2.2.2.2.1 hws ty hty hnm E.2.2.2.1 E.2.2.2.2.2.1.1 hP hD hS a' he hr b0 hb0 (E.2.2.2.2.1 _ hl) (fun x hx => by rw [hT1] at hx; exact hx) hc (hty b0 hb0) hnv hfv (by simp [hN]; exact hb0) hd kk
      | true => exact va_putF (ref := r.1) (C := r.1) (T := r.2.1) (N := r.2.2) E.1 E.2.1 (Ts := gm_TW) E.2.2.2.2.1 hws ty hty hnm E.2.2.2.1 E.2.2.2.2.2.1.1 hP hD hS a' he hr b0 hb0 (E.2.2.2.2.1 _ hl) (fun x hx => by rw [hT1] at hx; exact hx) hc (E.2.2.2.2.2.2 hi1) (by rw [hT1, hi2]) (hty b0 hb0) hnv hfv (by simp [hN]; exact hb0) hd kk
  split at h
  · rename_i v a t
    obtain ⟨⟨hz, n1, rs, hsh⟩, h⟩ := h
    obtain ⟨a', rfl⟩ := Int.eq_ofNat_of_zero_le hz
    rw [Int.toNat_natCast] at hsh
    have hal := (List.getElem?_eq_some_iff.mp hsh).1
    refine gm_mem h (fun I => ⟨fun w hw => I.2.1 w (List.mem_cons_of_mem _ (List.mem_cons_of_mem _ hw)), fun b k => ?_, fun b hb k => ?_⟩) (fun E I as arr H locs cells slots hloc hP hD hS kk => ?_)
    · unfold gm_up
      split
      · exact I.2.1 (gI v) List.mem_cons_self
      · exact I.2.2.1 _ _
    · unfold gm_up
      rw [if_neg (by omega)]
      exact I.2.2.2.1 b hb k
    · have hN : n1 = r.2.2 := by
        rcases (I.2.2.2.2 a' _ hsh).1.2 with ⟨r', e1, e2, -⟩ | e1 | e1 | ⟨e1 | e1, -⟩
        · rw [hr] at e1; cases e1; exact e2
        all_goals (have := gm_vw_lt hr; simp only at e1; omega)
      have hw := gm_W_set (ci := ci) (as := as) (m := m) (m' := gm_up m (a' : Int) x0 v) hsh (fun b hb => gm_up_ne m (by omega))
      rw [gm_up_at, gm_eO hr, hx0, gm_fs_set (by omega) hf] at hw
      simp only [List.map_cons, gm_cv, Int.toNat_natCast]
      rw [hx0, hw] at kk
      have htyi : ty b0 = .int := hT2 hf
      exact key E hsh I.2.2.2.2 (by rw [htyi]; rfl) (by rw [htyi]; rfl) as arr H locs cells slots hP hD hS kk
  · rename_i b a t
    obtain ⟨⟨hz, n1, rs, hsh⟩, h⟩ := h
    obtain ⟨a', rfl⟩ := Int.eq_ofNat_of_zero_le hz
    rw [Int.toNat_natCast] at hsh
    have hsr : gm_sr S (a' : Int) b0 b = S.set a' (a0, n1, rs.set b0 (some b)) := by unfold gm_sr; rw [Int.toNat_natCast, hsh]
    rw [hsr] at h
    refine gm_ref (sh' := (a0, n1, rs.set b0 (some b))) hsh rfl h (fun I => ⟨fun w hw => I.2.1 w (List.mem_cons_of_mem _ (List.mem_cons_of_mem _ hw)), gm_wf_set I.2.2.2.2 hsh (I.2.1 (gA b) List.mem_cons_self)⟩) (fun E I as arr H locs cells slots hloc hP hD hS kk => ?_)
    have hN : n1 = r.2.2 ∧ rs.length = n1 := by
      rcases (I.2.2.2.2 a' _ hsh).1.2 with ⟨r', e1, e2, e3⟩ | e1 | e1 | ⟨e1 | e1, -⟩
      · rw [hr] at e1; cases e1; exact ⟨e2, e3.trans e2.symm⟩
      all_goals (have := gm_vw_lt hr; simp only at e1; omega)
    have hw := gm_W_sr (ci := ci) (as := as) (m := m) (sh' := (a0, n1, rs.set b0 (some b))) hsh
    rw [gm_eO hr, gm_fs_setr (by omega) hN.2 hf] at hw
    simp only [List.map_cons, gm_cv, Int.toNat_natCast]
    rw [hw] at kk
    refine key E hsh I.2.2.2.2 ?_ ?_ as arr H locs cells slots hP hD hS kk
    · rcases hT3 hf with ⟨z, e⟩ | ⟨z, e⟩ <;> rw [e] <;> rfl
    · rcases hT3 hf with ⟨z, e⟩ | ⟨z, e⟩ <;> rw [e] <;> rfl
  · exact h.elim
theorem gm_c_aastore (ha0 : (a0 = 12 ∧ b0 = 1) ∨ (a0 = 13 ∧ b0 = 2)) (hd : decode cc (gm_pc code i) = .ok (.aastore, 1)) (hn : gm_nx code i 1 = true) (h : gm_step C ro .aastore a0 b0 x0 ts i ls st S m (gm_X p l e Rm s mm args below meth c Q D ci A ad S0 S' as0 Fn nL code cc own ro ini) R) : gm_X p l e Rm s mm args below meth c Q D ci A ad S0 S' as0 Fn nL code cc own ro ini i ls st S m := by
  simp only [gm_step] at h
  split at h
  · rename_i v j a t
    obtain ⟨⟨hz, hj0, n1, rs, hsh, hj⟩, ⟨hvz, nv, rv, hvs⟩, h⟩ := h
    obtain ⟨a', rfl⟩ := Int.eq_ofNat_of_zero_le hz
    obtain ⟨v', rfl⟩ := Int.eq_ofNat_of_zero_le hvz
    rw [Int.toNat_natCast] at hsh hvs
    have hsr : gm_sr S (a' : Int) j.toNat (v' : Int) = S.set a' (a0, n1, rs.set j.toNat (some (v' : Int))) := by unfold gm_sr; rw [Int.toNat_natCast, hsh]
    rw [hsr] at h
    refine gm_ref (sh' := (a0, n1, rs.set j.toNat (some (v' : Int)))) hsh rfl h (fun I => ⟨fun w hw => I.2.1 w (List.mem_cons_of_mem _ (List.mem_cons_of_mem _ (List.mem_cons_of_mem _ hw))), gm_wf_set I.2.2.2.2 hsh (I.2.1 (gA (v' : Int)) List.mem_cons_self)⟩) (fun E I as arr H locs cells slots hloc hP hD hS kk => ?_)
    have hji : gm_i j := I.2.1 (gI j) (List.mem_cons_of_mem _ List.mem_cons_self)
    have hlen : rs.length = n1 := by
      rcases (I.2.2.2.2 a' _ hsh).1.2 with ⟨r', e1, e2, e3⟩ | e1 | e1 | ⟨-, e2⟩
      · have := gm_vw_lt e1; simp only at this; omega
      · simp only at e1; omega
      · simp only at e1; omega
      · exact e2
    have hfn : (fun q : Nat => (((rs.set j.toNat (some (v' : Int)))[q]?).join).map (fun b => as.getD b.toNat 0)) = va_up (fun q : Nat => ((rs[q]?).join).map (fun b => as.getD b.toNat 0)) j.toNat (some (as.getD v' 0)) := by
      funext q
      unfold va_up
      by_cases hq : q = j.toNat
      · subst hq
        rw [if_pos rfl, List.getElem?_set_self (by omega)]
        simp
      · rw [if_neg hq, List.getElem?_set_ne (Ne.symm hq)]
    have he := gm_W_at (ci := ci) (as := as) (m := m) hsh
    have hev := gm_W_at (ci := ci) (as := as) (m := m) hvs
    have hw := gm_W_sr (ci := ci) (as := as) (m := m) (sh' := (a0, n1, rs.set j.toNat (some (v' : Int)))) hsh
    simp only [List.map_cons, gm_cv, Int.toNat_natCast]
    rw [gm_nx_eq hn] at kk
    rcases ha0 with ⟨rfl, rfl⟩ | ⟨rfl, rfl⟩
    · rw [gm_e12] at he
      rw [gm_eO (r := (RX1, TX1, 12)) rfl] at hev
      rw [gm_e12, hfn] at hw
      rw [hw] at kk
      refine va_astq (r := (RX1, TX1, 12)) E.1 E.2.1 E.2.2.2.2.2.1.1 hP hD hS a' 2 v' 1 he rfl hev rfl (vp_in_oi hji hj0 hj) hd (fun H1 locs1 c1 c2 c3 => ?_)
      rw [oi_nat hji] at c1 c2
      exact kk H1 locs1 c1 c2 c3
    · rw [gm_e13] at he
      rw [gm_eO (r := (RX2, TX2, 9)) rfl] at hev
      rw [gm_e13, hfn] at hw
      rw [hw] at kk
      refine va_astq (r := (RX2, TX2, 9)) E.1 E.2.1 E.2.2.2.2.2.1.1 hP hD hS a' 3 v' 2 he rfl hev rfl (vp_in_oi hji hj0 hj) hd (fun H1 locs1 c1 c2 c3 => ?_)
      rw [oi_nat hji] at c1 c2
      exact kk H1 locs1 c1 c2 c3
  · exact h.elim
end GM4
