/-! switches -/
theorem gm_lk (a : Int) : ∀ (ts : List (Int × Nat)) (lo : Int), (∀ (k : Nat) (y : Int × Nat), ts[k]? = some y → y.1 = lo + (k : Int)) → ts.lookup a = (if lo ≤ a then ts[(a - lo).toNat]? else none).map (fun y => y.2) := by
  intro ts
  induction ts with
  | nil => intro lo _; split <;> simp
  | cons y l ih =>
    intro lo h
    have h0 : y.1 = lo := by have := h 0 y rfl; omega
    obtain ⟨yk, yt⟩ := y
    simp only at h0
    subst h0
    have ih' := ih (yk + 1) (fun k z hz => by have := h (k + 1) z (by simpa using hz); omega)
    by_cases e : a = yk
    · subst e
      simp [List.lookup]
    · have e1 : (a == yk) = false := by simpa using e
      rw [show List.lookup a ((yk, yt) :: l) = List.lookup a l by simp [List.lookup, e1], ih']
      by_cases h1 : yk ≤ a
      · rw [if_pos h1, if_pos (by omega)]
        have h2 : (a - yk).toNat = (a - (yk + 1)).toNat + 1 := by omega
        rw [h2, List.getElem?_cons_succ]
      · rw [if_neg h1, if_neg (by omega)]
theorem gm_lk2 {code : List gm_O} {i p : Nat} {d a : Int} (hd : gm_tg code i d p = true) : ∀ (ps : List (Int × Int)) (ts : List (Int × Nat)), ps.map (fun y => y.1) = ts.map (fun y => y.1) → (ps.zip ts).all (fun y => gm_tg code i y.1.2 y.2.2) = true → (gm_pc code i : Int) + Op.lookupswitch.offset ps d a = (gm_pc code ((ts.lookup a).getD p) : Int) := by
  intro ps
  induction ps with
  | nil =>
    intro ts h1 _
    cases ts with
    | nil => exact of_decide_eq_true hd
    | cons y l => simp at h1
  | cons q ps ih =>
    intro ts h1 h2
    cases ts with
    | nil => simp at h1
    | cons y l =>
      obtain ⟨qk, qo⟩ := q
      obtain ⟨yk, yt⟩ := y
      simp only [List.map_cons, List.cons.injEq] at h1
      simp only [List.zip_cons_cons, List.all_cons, Bool.and_eq_true] at h2
      obtain ⟨e, h1⟩ := h1
      subst e
      rw [Op.lookupswitch.offset_cons]
      by_cases e : qk = a
      · subst e
        rw [if_pos rfl]
        simp only [List.lookup, beq_self_eq_true, Option.getD_some]
        exact of_decide_eq_true h2.1
      · rw [if_neg e]
        have e1 : (a == qk) = false := by simpa using fun z => e z.symm
        rw [show List.lookup a ((qk, yt) :: l) = List.lookup a l by simp [List.lookup, e1]]
        exact ih l h1 h2.2
theorem gm_e10 {ci : gm_ids} {as : List Nat} {n : Nat} {rs : List (Option Int)} {ma : Int → Int} : gm_e ci as (10, n, rs) ma = .inl (ci.1, n, .inl (fun i => Int32.ofInt (ma i))) := rfl
theorem gm_e11 {ci : gm_ids} {as : List Nat} {n : Nat} {rs : List (Option Int)} {ma : Int → Int} : gm_e ci as (11, n, rs) ma = .inl (ci.2.1, n, .inl (fun i => Int32.ofInt (ma i))) := rfl
theorem gm_e12 {ci : gm_ids} {as : List Nat} {n : Nat} {rs : List (Option Int)} {ma : Int → Int} : gm_e ci as (12, n, rs) ma = .inl (ci.2.2.1, n, .inr (.inr (.inr (.inr (fun i => ((rs[i]?).join).map (fun b => as.getD b.toNat 0)))))) := rfl
theorem gm_e13 {ci : gm_ids} {as : List Nat} {n : Nat} {rs : List (Option Int)} {ma : Int → Int} : gm_e ci as (13, n, rs) ma = .inl (ci.2.2.2, n, .inr (.inr (.inr (.inr (fun i => ((rs[i]?).join).map (fun b => as.getD b.toNat 0)))))) := rfl
theorem gm_vw_lt {k : Nat} {r : vw_C} (h : vwCl[k]? = some r) : k < 9 := (List.getElem?_eq_some_iff.mp h).1
theorem gm_vw_N {k : Nat} {r : vw_C} (h : vwCl[k]? = some r) : r.2.2 ≤ 20 := by
  have hk := gm_vw_lt h
  have : ∀ k, k < 9 → ∀ r, vwCl[k]? = some r → r.2.2 ≤ 20 := by
    intro k hk r h
    match k, hk with
    | 0, _ => cases h; decide
    | 1, _ => cases h; decide
    | 2, _ => cases h; decide
    | 3, _ => cases h; decide
    | 4, _ => cases h; decide
    | 5, _ => cases h; decide
    | 6, _ => cases h; decide
    | 7, _ => cases h; decide
    | 8, _ => cases h; decide
  exact this k hk r h
theorem gm_eO {ci : gm_ids} {as : List Nat} {k n : Nat} {rs : List (Option Int)} {ma : Int → Int} {r : vw_C} (h : vwCl[k]? = some r) : gm_e ci as (k, n, rs) ma = .inr (k, (List.range n).map (gm_fv as k rs ma)) := by
  have := gm_vw_lt h
  unfold gm_e
  simp only
  rw [if_neg (by omega), if_neg (by omega), if_neg (by omega), if_neg (by omega)]
theorem gm_upd {ma : Int → Int} {j v : Int} (h0 : 0 ≤ j) : (fun i : Nat => Int32.ofInt ((fun k : Int => if k = j then v else ma k) (i : Int))) = upd (fun i : Nat => Int32.ofInt (ma i)) j.toNat (Int32.ofInt v) := by
  funext i
  unfold upd
  by_cases e : (i : Int) = j
  · rw [if_pos (by omega)]; simp [e]
  · rw [if_neg (by omega)]; simp [e]
section GM3
variable {p : Program} {l : Launch} {e : Env} {Rm : Room} {s : State} {mm : MethodId} {args : Array Value} {below : List Frame} {meth : Method} {c : Code} {Q : State → Prop} {D : va_G} {ci : gm_ids} {A : Nat → Prop} {ad : Nat → Nat} {S0 S' : List gm_S} {as0 : List Nat} {Fn : Prop} {nL : Nat} {code : List gm_O} {cc : ByteArray} {own : String} {ro : Nat → Nat × (Int → Int)} {ini : Bool}
variable {C : gm_C} {R : gm_R} {i a0 b0 : Nat} {x0 : Int} {ts : List (Int × Nat)} {ls st : List gm_V} {S : List gm_S} {m : gm_M}
theorem gm_c_tableswitch {d lo hi : Int} {offs : Array Int} (hd : decode cc (gm_pc code i) = .ok (.tableswitch d lo hi offs, b0)) (ht : gm_tg code i d a0 = true) (h1 : hi + 1 = lo + (ts.length : Int)) (h2 : offs.size = ts.length)
    (h3 : (List.range ts.length).all (fun k => match ts[k]?, offs[k]? with
      | some y, some off => decide (y.1 = lo + (k : Int)) && gm_tg code i off y.2
      | _, _ => false) = true) (h : gm_step C ro (.tableswitch d lo hi offs) a0 b0 x0 ts i ls st S m (gm_X p l e Rm s mm args below meth c Q D ci A ad S0 S' as0 Fn nL code cc own ro ini) R) : gm_X p l e Rm s mm args below meth c Q D ci A ad S0 S' as0 Fn nL code cc own ro ini i ls st S m := by
  simp only [gm_step] at h
  split at h
  · rename_i a t
    refine gm_pure h (fun I hl => ⟨I.1, fun w hw => I.2.1 w (List.mem_cons_of_mem _ hw), hl⟩) (fun E I as arr H locs cells slots hloc hS hP kk => ?_)
    have ha : gm_i a := I.2.1 (gI a) List.mem_cons_self
    have kk := kk arr hloc
    have hkey : ∀ (k : Nat) (y : Int × Nat), ts[k]? = some y → y.1 = lo + (k : Int) ∧ ∃ off, offs[k]? = some off ∧ gm_tg code i off y.2 = true := by
      intro k y hy
      have hk := (List.getElem?_eq_some_iff.mp hy).1
      have h4 := List.all_eq_true.mp h3 k (List.mem_range.mpr hk)
      rw [hy] at h4
      have h5 : offs[k]? = some offs[k] := Array.getElem?_eq_getElem (by omega)
      rw [h5] at h4
      simp only [Bool.and_eq_true, decide_eq_true_eq] at h4
      exact ⟨h4.1, _, h5, h4.2⟩
    rw [gm_lk a ts lo (fun k y hy => (hkey k y hy).1)] at kk
    simp only [List.map_cons, gm_cv]
    by_cases c1 : lo ≤ a
    · rw [if_pos c1] at kk
      by_cases c2 : a ≤ hi
      · have hlt : (a - lo).toNat < ts.length := by omega
        have hg : ts[(a - lo).toNat]? = some ts[(a - lo).toNat] := List.getElem?_eq_getElem hlt
        rw [hg] at kk
        obtain ⟨-, off, q1, q2⟩ := hkey _ _ hg
        refine lv_tableIn E.1 E.2.1 hd (by rw [oi_t ha]; omega) (by rw [oi_t ha]; omega) (by rw [oi_t ha]; exact q1) (gm_tg_eq q2) kk
      · rw [List.getElem?_eq_none (by omega)] at kk
        exact lv_tableOut E.1 E.2.1 hd (Or.inr (by rw [oi_t ha]; omega)) (gm_tg_eq ht) kk
    · rw [if_neg c1] at kk
      exact lv_tableOut E.1 E.2.1 hd (Or.inl (by rw [oi_t ha]; omega)) (gm_tg_eq ht) kk
  · exact h.elim
theorem gm_c_lookupswitch {d : Int} {ps : Array (Int × Int)} (hd : decode cc (gm_pc code i) = .ok (.lookupswitch d ps, b0)) (ht : gm_tg code i d a0 = true) (h1 : (ps.toList.zip (ps.toList.drop 1)).all (fun (a, next) => a.1 < next.1) = true) (h2 : ps.toList.map (fun y => y.1) = ts.map (fun y => y.1)) (h3 : (ps.toList.zip ts).all (fun y => gm_tg code i y.1.2 y.2.2) = true) (h : gm_step C ro (.lookupswitch d ps) a0 b0 x0 ts i ls st S m (gm_X p l e Rm s mm args below meth c Q D ci A ad S0 S' as0 Fn nL code cc own ro ini) R) : gm_X p l e Rm s mm args below meth c Q D ci A ad S0 S' as0 Fn nL code cc own ro ini i ls st S m := by
  simp only [gm_step] at h
  split at h
  · rename_i a t
    refine gm_pure h (fun I hl => ⟨I.1, fun w hw => I.2.1 w (List.mem_cons_of_mem _ hw), hl⟩) (fun E I as arr H locs cells slots hloc hS hP kk => ?_)
    have ha : gm_i a := I.2.1 (gI a) List.mem_cons_self
    have kk := kk arr hloc
    simp only [List.map_cons, gm_cv]
    exact lv_lookup E.1 E.2.1 hd h1 rfl (by rw [oi_t ha]; exact gm_lk2 ht _ _ h2 h3) kk
  · exact h.elim
theorem gm_c_getfield {n : Nat} (CF : gm_CF) {r : vw_C} (hr : vwCl[a0]? = some r) (hb0 : b0 < r.2.2) (hl : Cond.fieldLink own n r.1 (r.2.1 b0).2.1 (r.2.1 b0).2.2.1 ∈ gm_TW) (hx0 : x0 = (b0 : Int)) (hf : gm_fi a0 b0 = ts.isEmpty) (hd : decode cc (gm_pc code i) = .ok (.getfield n, 3)) (hn : gm_nx code i 3 = true) (h : gm_step C ro (.getfield n) a0 b0 x0 ts i ls st S m (gm_X p l e Rm s mm args below meth c Q D ci A ad S0 S' as0 Fn nL code cc own ro ini) R) : gm_X p l e Rm s mm args below meth c Q D ci A ad S0 S' as0 Fn nL code cc own ro ini i ls st S m := by
  simp only [gm_step] at h
  split at h
  · rename_i a t
    obtain ⟨⟨hz, n1, rs, hsh⟩, h⟩ := h
    obtain ⟨-, hws, -, -, ty, hty, hnm, hall⟩ := CF a0 r hr
    obtain ⟨hT1, -, -⟩ := hall b0 hb0
    obtain ⟨a', rfl⟩ := Int.eq_ofNat_of_zero_le hz
    rw [Int.toNat_natCast] at hsh
    have key : gm_Env p s mm meth c args cc own nL D ci A ad ro ini → gm_I ls (gA (a' : Int) :: t) S m → ∀ (as : List Nat) (arr : Array Slot) (H : Heap) (locs : List Loc) (cells slots : Nat), va_P D vwCl (gm_W ci as S m) H → W p l e Rm s mm args below meth c H locs cells slots Q (F0 mm (gm_pc code (i + 1)) arr (gm_fv as a0 rs (m a') b0 :: t.map (gm_cv as ad))) → W p l e Rm s mm args below meth c H locs cells slots Q (F0 mm (gm_pc code i) arr ((gA (a' : Int) :: t).map (gm_cv as ad))) := by
      intro E I as arr H locs cells slots hP kk
      have hN : n1 = r.2.2 := by
        rcases (I.2.2.2.2 a' _ hsh).1.2 with ⟨r', e1, e2, -⟩ | e1 | e1 | ⟨e1 | e1, -⟩
        · rw [hr] at e1; cases e1; exact e2
        all_goals (have := gm_vw_lt hr; simp only at e1; omega)
      have he := gm_W_at (ci := ci) (as := as) (m := m) hsh
      rw [gm_eO hr] at he
      simp only [List.map_cons, gm_cv, Int.toNat_natCast]
      rw [gm_nx_eq hn] at kk
      refine va_get (ref := r.1) (C := r.1) (T := r.2.1) (N := r.2.2) E.1 E.2.1 (Ts := gm_TW) E.2.2.2.2.1 hws E.2.2.2.1 E.2.2.2.2.2.1.1 hP a' he hr b0 hb0 (E.2.2.2.2.1 _ hl) (fun x hx => by rw [hT1] at hx; exact hx) ?_ hd kk
      rw [List.getElem?_map, List.getElem?_range (by omega)]
      rfl
    split at h
    · rename_i hts
      refine gm_pure h (fun I hl => ⟨I.1, fun v hv => ?_, hl⟩) (fun E I as arr H locs cells slots hloc hS hP kk => ?_)
      · rcases List.mem_cons.mp hv with rfl | hv
        · exact I.2.2.1 _ _
        · exact I.2.1 v (List.mem_cons_of_mem _ hv)
      · refine key E I as arr H locs cells slots hP ?_
        have kk := kk arr hloc
        simp only [List.map_cons, gm_cv] at kk
        unfold gm_fv
        rw [if_pos (by rw [hf]; rfl), ← hx0]
        exact kk
    · rename_i hts
      obtain ⟨b, hrf, h⟩ := h
      unfold gm_rf at hrf
      rw [Int.toNat_natCast, hsh] at hrf
      dsimp only at hrf
      refine gm_pure h (fun I hl => ⟨I.1, fun v hv => ?_, hl⟩) (fun E I as arr H locs cells slots hloc hS hP kk => ?_)
      · rcases List.mem_cons.mp hv with rfl | hv
        · cases hq : rs[b0]? with
          | none => simp [hq] at hrf
          | some o =>
            simp only [hq, Option.join_some] at hrf
            subst hrf
            exact (I.2.2.2.2 a' _ hsh).2 b0 b hq
        · exact I.2.1 v (List.mem_cons_of_mem _ hv)
      · refine key E I as arr H locs cells slots hP ?_
        have kk := kk arr hloc
        simp only [List.map_cons, gm_cv] at kk
        unfold gm_fv
        rw [if_neg (by rw [hf]; cases ts with | nil => exact absurd rfl hts | cons _ _ => simp), hrf]
        exact kk
  · exact h.elim
theorem gm_c_iaload (HRO : ∀ r, r < 3 → (∀ j, gm_i ((ro r).2 j)) ∧ (ro r).1 < 2147483648) (hd : decode cc (gm_pc code i) = .ok (.iaload, 1)) (hn : gm_nx code i 1 = true) (h : gm_step C ro .iaload a0 b0 x0 ts i ls st S m (gm_X p l e Rm s mm args below meth c Q D ci A ad S0 S' as0 Fn nL code cc own ro ini) R) : gm_X p l e Rm s mm args below meth c Q D ci A ad S0 S' as0 Fn nL code cc own ro ini i ls st S m := by
  simp only [gm_step] at h
  split at h
  · rename_i j a t
    obtain ⟨⟨hz, hj0, n1, rs, hsh, hj⟩, h⟩ := h
    obtain ⟨a', rfl⟩ := Int.eq_ofNat_of_zero_le hz
    rw [Int.toNat_natCast] at hsh
    refine gm_pure h (fun I hl => ⟨I.1, fun v hv => ?_, hl⟩) (fun E I as arr H locs cells slots hloc hS hP kk => ?_)
    · rcases List.mem_cons.mp hv with rfl | hv
      · exact I.2.2.1 _ _
      · exact I.2.1 v (List.mem_cons_of_mem _ (List.mem_cons_of_mem _ hv))
    · have hji : gm_i j := I.2.1 (gI j) List.mem_cons_self
      have he := gm_W_at (ci := ci) (as := as) (m := m) hsh
      rw [gm_e10] at he
      have kk := kk arr hloc
      simp only [List.map_cons, gm_cv, Int.toNat_natCast] at kk ⊢
      rw [gm_nx_eq hn] at kk
      refine va_iald E.1 E.2.1 E.2.2.2.2.2.1.1 hP a' 0 he rfl (vp_in_oi hji hj0 hj) hd ?_
      rw [oi_nat hji, Int.toNat_of_nonneg hj0]
      exact kk
  · rename_i j r t
    obtain ⟨hj0, hj, h⟩ := h
    refine gm_pure h (fun I hl => ⟨I.1, fun v hv => ?_, hl⟩) (fun E I as arr H locs cells slots hloc hS hP kk => ?_)
    · have hr3 : r < 3 := I.2.1 (gO r) (List.mem_cons_of_mem _ List.mem_cons_self)
      rcases List.mem_cons.mp hv with rfl | hv
      · exact (HRO r hr3).1 _
      · exact I.2.1 v (List.mem_cons_of_mem _ (List.mem_cons_of_mem _ hv))
    · have hr3 : r < 3 := I.2.1 (gO r) (List.mem_cons_of_mem _ List.mem_cons_self)
      have hji : gm_i j := I.2.1 (gI j) List.mem_cons_self
      obtain ⟨x1, -, -⟩ := E.2.2.2.2.2.1.2.2.1 r hr3
      have kk := kk arr hloc
      simp only [List.map_cons, gm_cv] at kk ⊢
      rw [gm_nx_eq hn] at kk
      refine va_ti E.1 E.2.1 x1 hS (vp_in_oi hji hj0 hj) (v := .int (Int32.ofInt ((ro r).2 j))) ?_ hd kk
      rw [oi_nat hji, Int.toNat_of_nonneg hj0]
  · exact h.elim
theorem gm_c_baload (HRO : ∀ r, r < 3 → (∀ j, gm_i ((ro r).2 j)) ∧ (ro r).1 < 2147483648) (hd : decode cc (gm_pc code i) = .ok (.baload, 1)) (hn : gm_nx code i 1 = true) (h : gm_step C ro .baload a0 b0 x0 ts i ls st S m (gm_X p l e Rm s mm args below meth c Q D ci A ad S0 S' as0 Fn nL code cc own ro ini) R) : gm_X p l e Rm s mm args below meth c Q D ci A ad S0 S' as0 Fn nL code cc own ro ini i ls st S m := by
  simp only [gm_step] at h
  split at h
  · rename_i j a t
    obtain ⟨⟨hz, hj0, n1, rs, hsh, hj⟩, h⟩ := h
    obtain ⟨a', rfl⟩ := Int.eq_ofNat_of_zero_le hz
    rw [Int.toNat_natCast] at hsh
    refine gm_pure h (fun I hl => ⟨I.1, fun v hv => ?_, hl⟩) (fun E I as arr H locs cells slots hloc hS hP kk => ?_)
    · rcases List.mem_cons.mp hv with rfl | hv
      · exact I.2.2.1 _ _
      · exact I.2.1 v (List.mem_cons_of_mem _ (List.mem_cons_of_mem _ hv))
    · have hji : gm_i j := I.2.1 (gI j) List.mem_cons_self
      have he := gm_W_at (ci := ci) (as := as) (m := m) hsh
      rw [gm_e11] at he
      have kk := kk arr hloc
      simp only [List.map_cons, gm_cv, Int.toNat_natCast] at kk ⊢
      rw [gm_nx_eq hn] at kk
      refine va_zald E.1 E.2.1 E.2.2.2.2.2.1.1 hP a' 1 he rfl (vp_in_oi hji hj0 hj) hd ?_
      rw [oi_nat hji, Int.toNat_of_nonneg hj0]
      exact kk
  · exact h.elim
theorem gm_c_aaload (ha0 : a0 = 12 ∨ a0 = 13) (hd : decode cc (gm_pc code i) = .ok (.aaload, 1)) (hn : gm_nx code i 1 = true) (h : gm_step C ro .aaload a0 b0 x0 ts i ls st S m (gm_X p l e Rm s mm args below meth c Q D ci A ad S0 S' as0 Fn nL code cc own ro ini) R) : gm_X p l e Rm s mm args below meth c Q D ci A ad S0 S' as0 Fn nL code cc own ro ini i ls st S m := by
  simp only [gm_step] at h
  split at h
  · rename_i j a t
    obtain ⟨⟨hz, hj0, n1, rs, hsh, hj⟩, b, hrf, h⟩ := h
    obtain ⟨a', rfl⟩ := Int.eq_ofNat_of_zero_le hz
    rw [Int.toNat_natCast] at hsh
    unfold gm_rf at hrf
    rw [Int.toNat_natCast, hsh] at hrf
    dsimp only at hrf
    refine gm_pure h (fun I hl => ⟨I.1, fun v hv => ?_, hl⟩) (fun E I as arr H locs cells slots hloc hS hP kk => ?_)
    · rcases List.mem_cons.mp hv with rfl | hv
      · cases hq : rs[j.toNat]? with
        | none => simp [hq] at hrf
        | some o =>
          rw [hq] at hrf
          simp only [Option.join_some] at hrf
          subst hrf
          exact (I.2.2.2.2 a' _ hsh).2 j.toNat b hq
      · exact I.2.1 v (List.mem_cons_of_mem _ (List.mem_cons_of_mem _ hv))
    · have hji : gm_i j := I.2.1 (gI j) List.mem_cons_self
      have he := gm_W_at (ci := ci) (as := as) (m := m) hsh
      have kk := kk arr hloc
      simp only [List.map_cons, gm_cv, Int.toNat_natCast] at kk ⊢
      rw [gm_nx_eq hn] at kk
      rcases ha0 with rfl | rfl
      · rw [gm_e12] at he
        refine va_aldq (C := RX1) E.1 E.2.1 E.2.2.2.2.2.1.1 hP a' 2 he rfl (vp_in_oi hji hj0 hj) hd ?_
        rw [oi_nat hji, hrf]
        exact kk
      · rw [gm_e13] at he
        refine va_aldq (C := RX2) E.1 E.2.1 E.2.2.2.2.2.1.1 hP a' 3 he rfl (vp_in_oi hji hj0 hj) hd ?_
        rw [oi_nat hji, hrf]
        exact kk
  · exact h.elim
theorem gm_c_arraylength (HRO : ∀ r, r < 3 → (∀ j, gm_i ((ro r).2 j)) ∧ (ro r).1 < 2147483648) (hd : decode cc (gm_pc code i) = .ok (.arraylength, 1)) (hn : gm_nx code i 1 = true) (h : gm_step C ro .arraylength a0 b0 x0 ts i ls st S m (gm_X p l e Rm s mm args below meth c Q D ci A ad S0 S' as0 Fn nL code cc own ro ini) R) : gm_X p l e Rm s mm args below meth c Q D ci A ad S0 S' as0 Fn nL code cc own ro ini i ls st S m := by
  simp only [gm_step] at h
  split at h
  · rename_i a t
    obtain ⟨⟨hz, n1, rs, hsh⟩, h⟩ := h
    obtain ⟨a', rfl⟩ := Int.eq_ofNat_of_zero_le hz
    rw [Int.toNat_natCast] at hsh
    have hlen : gm_len S (a' : Int) = (n1 : Int) := by unfold gm_len; rw [Int.toNat_natCast, hsh]
    rw [hlen] at h
    refine gm_pure h (fun I hl => ⟨I.1, fun v hv => ?_, hl⟩) (fun E I as arr H locs cells slots hloc hS hP kk => ?_)
    · rcases List.mem_cons.mp hv with rfl | hv
      · have := (I.2.2.2.2 a' _ hsh).1.1
        simp only at this
        show gm_i _
        unfold gm_i
        omega
      · exact I.2.1 v (List.mem_cons_of_mem _ hv)
    · have he := gm_W_at (ci := ci) (as := as) (m := m) hsh
      rw [gm_e10] at he
      have kk := kk arr hloc
      simp only [List.map_cons, gm_cv, Int.toNat_natCast] at kk ⊢
      rw [gm_nx_eq hn] at kk
      exact va_alen E.1 E.2.1 E.2.2.2.2.2.1.1 hP a' 0 he rfl rfl hd kk
  · rename_i r t
    refine gm_pure h (fun I hl => ⟨I.1, fun v hv => ?_, hl⟩) (fun E I as arr H locs cells slots hloc hS hP kk => ?_)
    · have hr3 : r < 3 := I.2.1 (gO r) List.mem_cons_self
      rcases List.mem_cons.mp hv with rfl | hv
      · have := (HRO r hr3).2
        show gm_i _
        unfold gm_i
        omega
      · exact I.2.1 v (List.mem_cons_of_mem _ hv)
    · have hr3 : r < 3 := I.2.1 (gO r) List.mem_cons_self
      obtain ⟨x1, -, -⟩ := E.2.2.2.2.2.1.2.2.1 r hr3
      have kk := kk arr hloc
      simp only [List.map_cons, gm_cv] at kk ⊢
      rw [gm_nx_eq hn] at kk
      exact va_tlen E.1 E.2.1 x1 hS rfl hd kk
  · exact h.elim
theorem gm_c_getstatic {n : Nat} (hl : (a0 = 1 ∧ Cond.fieldLinkNest own n "HotLetters" "OPEN_TASTE" "[I" "HotLetters" ∈ lw_tbl) ∨ (a0 = 2 ∧ Cond.fieldLinkNest own n "HotLetters" "SEALED_TASTE" "[I" "HotLetters" ∈ lw_tbl)) (hd : decode cc (gm_pc code i) = .ok (.getstatic n, 3)) (hn : gm_nx code i 3 = true) (h : gm_step C ro (.getstatic n) a0 b0 x0 ts i ls st S m (gm_X p l e Rm s mm args below meth c Q D ci A ad S0 S' as0 Fn nL code cc own ro ini) R) : gm_X p l e Rm s mm args below meth c Q D ci A ad S0 S' as0 Fn nL code cc own ro ini i ls st S m := by
  simp only [gm_step] at h
  refine gm_pure h (fun I hl => ⟨I.1, fun v hv => ?_, hl⟩) (fun E I as arr H locs cells slots hloc hS hP kk => ?_)
  · rcases List.mem_cons.mp hv with rfl | hv
    · show a0 < 3
      rcases hl with ⟨q, -⟩ | ⟨q, -⟩ <;> omega
    · exact I.2.1 v hv
  · have kk := kk arr hloc
    simp only [List.map_cons, gm_cv] at kk
    rw [gm_nx_eq hn] at kk
    obtain ⟨-, -, -, z1, z2, -, -, zn⟩ := E.2.2.2.2.2.1
    rcases hl with ⟨rfl, q⟩ | ⟨rfl, q⟩
    · exact va_getsN E.1 E.2.1 z1 hS E.2.2.2.1 (va_Nw.use rfl (zn _ q rfl)) (fun x hx => hx) hd kk
    · exact va_getsN E.1 E.2.1 z2 hS E.2.2.2.1 (va_Nw.use rfl (zn _ q rfl)) (fun x hx => hx) hd kk
end GM3
