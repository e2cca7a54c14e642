/-! ===== the small machine's cells and the real heap's: a cell of the world lies at as[a]; an old row at ad r ===== -/
def gm_cv (as : List Nat) (ad : Nat → Nat) (v : gm_V) : Value := match v with
  | none => .null
  | some (.inl x) => .int (Int32.ofInt x)
  | some (.inr (.inl a)) => .ref (as.getD a.toNat 0)
  | some (.inr (.inr (.inl x))) => .long (Int64.ofInt x)
  | some (.inr (.inr (.inr r))) => .ref (ad r)
/-- a field of a class: an int, or a cell -/
def gm_fi (c k : Nat) : Bool := match vwCl[c]? with
  | some r => (r.2.1 k).2.2.1 == "I"
  | none => true
def gm_fv (as : List Nat) (c : Nat) (rs : List (Option Int)) (ma : Int → Int) (k : Nat) : Value :=
  if gm_fi c k = true then .int (Int32.ofInt (ma k)) else va_rf (((rs[k]?).join).map (fun b => as.getD b.toNat 0))
abbrev gm_ids : Type := ClassId × ClassId × ClassId × ClassId
def gm_e (ci : gm_ids) (as : List Nat) (sh : gm_S) (ma : Int → Int) : va_E :=
  if sh.1 = 10 then .inl (ci.1, sh.2.1, .inl (fun i => Int32.ofInt (ma i)))
  else if sh.1 = 11 then .inl (ci.2.1, sh.2.1, .inl (fun i => Int32.ofInt (ma i)))
  else if sh.1 = 12 then .inl (ci.2.2.1, sh.2.1, .inr (.inr (.inr (.inr (fun i => ((sh.2.2[i]?).join).map (fun b => as.getD b.toNat 0))))))
  else if sh.1 = 13 then .inl (ci.2.2.2, sh.2.1, .inr (.inr (.inr (.inr (fun i => ((sh.2.2[i]?).join).map (fun b => as.getD b.toNat 0))))))
  else .inr (sh.1, (List.range sh.2.1).map (gm_fv as sh.1 sh.2.2 ma))
def gm_W (ci : gm_ids) (as : List Nat) (S : List gm_S) (m : gm_M) : va_W := (List.range S.length).map (fun a => (as.getD a 0, gm_e ci as (S.getD a (0, 0, [])) (m a)))
def gm_tys (ci : gm_ids) : List (ClassId × FieldType) := [(ci.1, .int), (ci.2.1, .boolean), (ci.2.2.1, .object RX1), (ci.2.2.2, .object RX2)]
theorem gm_W_at {ci : gm_ids} {as : List Nat} {S : List gm_S} {m : gm_M} {a : Nat} {sh : gm_S} (h : S[a]? = some sh) : (gm_W ci as S m)[a]? = some (as.getD a 0, gm_e ci as sh (m a)) := by
  have hl := (List.getElem?_eq_some_iff.mp h).1
  unfold gm_W
  rw [List.getElem?_map, List.getElem?_range hl]
  simp [List.getD, h]
theorem gm_W_len {ci : gm_ids} {as : List Nat} {S : List gm_S} {m : gm_M} : (gm_W ci as S m).length = S.length := by simp [gm_W]
/-- values: ints and longs in range, cells that are there, old rows of the three -/
def gm_ok (n : Nat) (v : gm_V) : Prop := match v with
  | none => True
  | some (.inl x) => gm_i x
  | some (.inr (.inl a)) => 0 ≤ a ∧ a.toNat < n
  | some (.inr (.inr (.inl x))) => gm_l x
  | some (.inr (.inr (.inr r))) => r < 3
theorem gm_ok_mono {n k : Nat} (h : n ≤ k) {v : gm_V} (hv : gm_ok n v) : gm_ok k v := by
  unfold gm_ok at *
  split at hv <;> first | trivial | exact hv | exact ⟨hv.1, Nat.lt_of_lt_of_le hv.2 h⟩
/-- a shape: an object of its class with all fields, or a row -/
def gm_w1s (n : Nat) (sh : gm_S) : Prop := (sh.2.1 ≤ 100000 ∧ ((∃ r, vwCl[sh.1]? = some r ∧ sh.2.1 = r.2.2 ∧ sh.2.2.length = r.2.2) ∨ sh.1 = 10 ∨ sh.1 = 11 ∨ ((sh.1 = 12 ∨ sh.1 = 13) ∧ sh.2.2.length = sh.2.1))) ∧ ∀ (k : Nat) (b : Int), sh.2.2[k]? = some (some b) → 0 ≤ b ∧ b.toNat < n
def gm_wf (S : List gm_S) : Prop := ∀ (a : Nat) (sh : gm_S), S[a]? = some sh → gm_w1s S.length sh
theorem gm_w1s_mono {n k : Nat} (h : n ≤ k) {sh : gm_S} (hs : gm_w1s n sh) : gm_w1s k sh := ⟨hs.1, fun i b hb => ⟨(hs.2 i b hb).1, Nat.lt_of_lt_of_le (hs.2 i b hb).2 h⟩⟩
def gm_I (ls st : List gm_V) (S : List gm_S) (m : gm_M) : Prop := (∀ v ∈ ls, gm_ok S.length v) ∧ (∀ v ∈ st, gm_ok S.length v) ∧ (∀ a j, gm_i (m a j)) ∧ (∀ a : Int, (S.length : Int) ≤ a → ∀ j, m a j = 0) ∧ gm_wf S
/-- a value under more cells -/
theorem gm_cv_mono {as as' : List Nat} (h : as <+: as') {ad : Nat → Nat} {v : gm_V} (hv : gm_ok as.length v) : gm_cv as' ad v = gm_cv as ad v := by
  obtain ⟨t, rfl⟩ := h
  unfold gm_cv
  unfold gm_ok at hv
  split <;> (try rfl)
  rename_i a
  congr 1
  simp only [List.getD_eq_getElem?_getD]
  rw [List.getElem?_append_left hv.2]
theorem gm_gd {as t : List Nat} {b : Int} (h : b.toNat < as.length) : (as ++ t).getD b.toNat 0 = as.getD b.toNat 0 := by
  simp only [List.getD_eq_getElem?_getD]
  rw [List.getElem?_append_left h]
theorem gm_rs_mono {as t : List Nat} {rs : List (Option Int)} (h : ∀ (k : Nat) (b : Int), rs[k]? = some (some b) → 0 ≤ b ∧ b.toNat < as.length) (k : Nat) : ((rs[k]?).join).map (fun b => (as ++ t).getD b.toNat 0) = ((rs[k]?).join).map (fun b => as.getD b.toNat 0) := by
  cases hk : rs[k]? with
  | none => rfl
  | some o =>
    cases o with
    | none => rfl
    | some b =>
      show some ((as ++ t).getD b.toNat 0) = some (as.getD b.toNat 0)
      rw [gm_gd (h k b hk).2]
theorem gm_e_mono {ci : gm_ids} {as t : List Nat} {sh : gm_S} {ma : Int → Int} (h : ∀ (k : Nat) (b : Int), sh.2.2[k]? = some (some b) → 0 ≤ b ∧ b.toNat < as.length) : gm_e ci (as ++ t) sh ma = gm_e ci as sh ma := by
  unfold gm_e gm_fv
  simp only [gm_rs_mono (t := t) h]
theorem gm_W_mono {ci : gm_ids} {as t : List Nat} {S : List gm_S} {m : gm_M} (hl : as.length = S.length) (hw : gm_wf S) : gm_W ci (as ++ t) S m = gm_W ci as S m := by
  unfold gm_W
  refine List.map_congr_left fun a ha => ?_
  have ha' := List.mem_range.mp ha
  have h1 : S[a]? = some S[a] := List.getElem?_eq_getElem ha'
  have h2 : S.getD a (0, 0, []) = S[a] := by simp [List.getD, h1]
  rw [h2, gm_e_mono (fun k b hb => by rw [hl]; exact (hw a _ h1).2 k b hb)]
  congr 1
  simp only [List.getD_eq_getElem?_getD]
  rw [List.getElem?_append_left (by omega)]
/-- a new cell at the end -/
theorem gm_W_push {ci : gm_ids} {as : List Nat} {S : List gm_S} {m : gm_M} {sh : gm_S} {q : Nat} (hl : as.length = S.length) (hw : gm_wf S) (hs : ∀ (k : Nat) (b : Int), sh.2.2[k]? = some (some b) → False) : gm_W ci (as ++ [q]) (S ++ [sh]) m = gm_W ci as S m ++ [(q, gm_e ci as sh (m S.length))] := by
  rw [← gm_W_mono (t := [q]) hl hw]
  unfold gm_W
  rw [List.length_append, List.length_singleton, List.range_succ, List.map_append]
  congr 1
  · refine List.map_congr_left fun a ha => ?_
    have ha' := List.mem_range.mp ha
    congr 2
    simp only [List.getD_eq_getElem?_getD]
    rw [List.getElem?_append_left ha']
  · simp only [List.map_cons, List.map_nil, List.getD_eq_getElem?_getD]
    rw [← hl, List.getElem?_concat_length]
    rw [hl, List.getElem?_concat_length]
    simp only [Option.getD_some]
    rw [gm_e_mono (fun k b hb => (hs k b hb).elim)]
/-- an int of a row, of an object -/
theorem gm_up_at (m : gm_M) (a j v : Int) : gm_up m a j v a = fun k => if k = j then v else m a k := by
  funext k
  simp [gm_up]
theorem gm_up_ne (m : gm_M) {a b j v : Int} (h : b ≠ a) : gm_up m a j v b = m b := by
  funext k
  simp [gm_up, h]
theorem gm_W_set {ci : gm_ids} {as : List Nat} {S : List gm_S} {m m' : gm_M} {a : Nat} {sh : gm_S} (h : S[a]? = some sh) (hm : ∀ b : Nat, b ≠ a → m' b = m b) : gm_W ci as S m' = (gm_W ci as S m).set a (as.getD a 0, gm_e ci as sh (m' a)) := by
  have hl := (List.getElem?_eq_some_iff.mp h).1
  apply List.ext_getElem?
  intro k
  by_cases hk : k = a
  · subst hk
    rw [gm_W_at h, List.getElem?_set_self (by rw [gm_W_len]; exact hl)]
  · rw [List.getElem?_set_ne (Ne.symm hk)]
    by_cases hb : k < S.length
    · rw [gm_W_at (List.getElem?_eq_getElem hb), gm_W_at (List.getElem?_eq_getElem hb), hm k hk]
    · rw [List.getElem?_eq_none (by rw [gm_W_len]; omega), List.getElem?_eq_none (by rw [gm_W_len]; omega)]
theorem gm_W_sr {ci : gm_ids} {as : List Nat} {S : List gm_S} {m : gm_M} {a : Nat} {sh sh' : gm_S} (h : S[a]? = some sh) : gm_W ci as (S.set a sh') m = (gm_W ci as S m).set a (as.getD a 0, gm_e ci as sh' (m a)) := by
  have hl := (List.getElem?_eq_some_iff.mp h).1
  apply List.ext_getElem?
  intro k
  by_cases hk : k = a
  · subst hk
    rw [gm_W_at (sh := sh') (List.getElem?_set_self hl), List.getElem?_set_self (by rw [gm_W_len]; exact hl)]
  · rw [List.getElem?_set_ne (Ne.symm hk)]
    by_cases hb : k < S.length
    · rw [gm_W_at (sh := S[k]) (by rw [List.getElem?_set_ne (Ne.symm hk), List.getElem?_eq_getElem hb]), gm_W_at (List.getElem?_eq_getElem hb)]
    · rw [List.getElem?_eq_none (by rw [gm_W_len, List.length_set]; omega), List.getElem?_eq_none (by rw [gm_W_len]; omega)]
/-! the locals -/
def gm_loc (as : List Nat) (ad : Nat → Nat) (arr : Array Slot) (nL : Nat) (ls : List gm_V) : Prop := arr.size = nL ∧ lv_wf arr ∧ ∀ (k : Nat) (v : Int ⊕ (Int ⊕ (Int ⊕ Nat))), ls[k]? = some (some v) → arr[k]? = some (.val (gm_cv as ad (some v)))
def gm_prs (as : List Nat) (ad : Nat → Nat) (ls : List gm_V) : List (Nat × Value) := (List.range ls.length).filterMap (fun k => match ls[k]? with
  | some (some v) => some (k, gm_cv as ad (some v))
  | _ => none)
theorem gm_prs_mem {as : List Nat} {ad : Nat → Nat} {ls : List gm_V} {q : Nat × Value} : q ∈ gm_prs as ad ls ↔ ∃ v, ls[q.1]? = some (some v) ∧ q.2 = gm_cv as ad (some v) := by
  unfold gm_prs
  rw [List.mem_filterMap]
  constructor
  · rintro ⟨k, -, hk⟩
    split at hk
    · rename_i v hv
      cases hk
      exact ⟨v, hv, rfl⟩
    · cases hk
  · rintro ⟨v, hv, e⟩
    refine ⟨q.1, List.mem_range.mpr (List.getElem?_eq_some_iff.mp hv).1, ?_⟩
    rw [hv]
    simp only [← e]
theorem gm_loc_has {as : List Nat} {ad : Nat → Nat} {arr : Array Slot} {nL : Nat} {ls : List gm_V} : gm_loc as ad arr nL ls ↔ lv_has arr nL (gm_prs as ad ls) := by
  constructor
  · rintro ⟨h1, h2, h3⟩
    refine ⟨h1, h2, fun q hq => ?_⟩
    obtain ⟨v, hv, e⟩ := gm_prs_mem.mp hq
    rw [e]
    exact h3 _ _ hv
  · rintro ⟨h1, h2, h3⟩
    exact ⟨h1, h2, fun k v hv => h3 (k, gm_cv as ad (some v)) (gm_prs_mem.mpr ⟨v, hv, rfl⟩)⟩
theorem gm_loc_mono {as as' : List Nat} (h : as <+: as') {ad : Nat → Nat} {arr : Array Slot} {nL : Nat} {ls : List gm_V} (hl : gm_loc as ad arr nL ls) (hv : ∀ v ∈ ls, gm_ok as.length v) : gm_loc as' ad arr nL ls :=
  ⟨hl.1, hl.2.1, fun k v hk => by rw [gm_cv_mono h (hv _ (List.mem_of_getElem? hk))]; exact hl.2.2 k v hk⟩
theorem gm_cat1 {as : List Nat} {ad : Nat → Nat} {v : gm_V} (h : gm_w1 v = 1) : (gm_cv as ad v).category = 1 := by
  unfold gm_w1 at h
  unfold gm_cv
  split <;> first | rfl | simp at h
theorem gm_kl_len (ls : List gm_V) (i : Nat) : (gm_kl ls i).length = ls.length := by
  unfold gm_kl
  split
  · rfl
  · split <;> simp
theorem gm_s1_len (ls : List gm_V) (i : Nat) (v : gm_V) : (gm_s1 ls i v).length = ls.length := by simp [gm_s1, gm_kl_len]
theorem gm_s2_len (ls : List gm_V) (i : Nat) (v : gm_V) : (gm_s2 ls i v).length = ls.length := by simp [gm_s2, gm_kl_len]
/-- what is left of the locals before a store -/
theorem gm_kl_at {ls : List gm_V} {i k : Nat} {v : Int ⊕ (Int ⊕ (Int ⊕ Nat))} (hk : k ≠ i) (h : (gm_kl ls i)[k]? = some (some v)) : ls[k]? = some (some v) ∧ ¬ (k + 1 = i ∧ gm_w1 (some v) = 2) := by
  unfold gm_kl at h
  split at h
  · exact ⟨h, by omega⟩
  · rename_i j
    split at h
    · rename_i x hx
      by_cases hj : k = j
      · subst hj
        rw [List.getElem?_set_self (List.getElem?_eq_some_iff.mp hx).1] at h
        cases h
      · rw [List.getElem?_set_ne (Ne.symm hj)] at h
        exact ⟨h, by omega⟩
    · rename_i hn
      refine ⟨h, fun hc => ?_⟩
      have hj : k = j := by omega
      subst hj
      have h2 := hc.2
      unfold gm_w1 at h2
      split at h2
      · rename_i x hx
        rw [hx] at h
        exact hn _ h
      · omega
theorem gm_kl_mem {ls : List gm_V} {i : Nat} {v : gm_V} (h : v ∈ gm_kl ls i) : v ∈ ls ∨ v = none := by
  unfold gm_kl at h
  split at h
  · exact Or.inl h
  · split at h
    · exact (List.mem_or_eq_of_mem_set h).imp id id
    · exact Or.inl h
theorem gm_s1_ok {n : Nat} {ls : List gm_V} {i : Nat} {v : gm_V} (h : ∀ w ∈ ls, gm_ok n w) (hv : gm_ok n v) : ∀ w ∈ gm_s1 ls i v, gm_ok n w := by
  intro w hw
  rcases List.mem_or_eq_of_mem_set hw with h1 | h1
  · rcases gm_kl_mem h1 with h2 | h2
    · exact h w h2
    · rw [h2]; trivial
  · rw [h1]; exact hv
theorem gm_s2_ok {n : Nat} {ls : List gm_V} {i : Nat} {v : gm_V} (h : ∀ w ∈ ls, gm_ok n w) (hv : gm_ok n v) : ∀ w ∈ gm_s2 ls i v, gm_ok n w := by
  intro w hw
  rcases List.mem_or_eq_of_mem_set hw with h0 | h0
  · exact gm_s1_ok h hv w h0
  · rw [h0]; trivial
theorem gm_s1_loc {as : List Nat} {ad : Nat → Nat} {arr : Array Slot} {nL i : Nat} {ls : List gm_V} {v : gm_V} {cv : Value} (hcv : cv = gm_cv as ad v) (hs : lv_has arr nL ((i, cv) :: (gm_prs as ad ls).filter (fun q => !(q.1 == i) && !(q.1 + 1 == i && q.2.category == 2)))) : gm_loc as ad arr nL (gm_s1 ls i v) := by
  refine ⟨hs.1, hs.2.1, fun k w hk => ?_⟩
  by_cases hi : k = i
  · subst hi
    unfold gm_s1 at hk
    have hl := (List.getElem?_eq_some_iff.mp hk).1
    rw [List.length_set] at hl
    rw [List.getElem?_set_self hl] at hk
    have hvw : v = some w := Option.some.inj hk
    have h1 := hs.2.2 (k, cv) List.mem_cons_self
    rw [hcv, hvw] at h1
    exact h1
  · unfold gm_s1 at hk
    rw [List.getElem?_set_ne (Ne.symm hi)] at hk
    obtain ⟨h1, h2⟩ := gm_kl_at hi hk
    refine hs.2.2 (k, gm_cv as ad (some w)) (List.mem_cons_of_mem _ (List.mem_filter.mpr ⟨gm_prs_mem.mpr ⟨w, h1, rfl⟩, ?_⟩))
    simp only [Bool.and_eq_true, Bool.not_eq_true', beq_eq_false_iff_ne, ne_eq, Bool.and_eq_false_iff]
    refine ⟨hi, ?_⟩
    by_cases hc : k + 1 = i
    · right
      intro h3
      apply h2
      refine ⟨hc, ?_⟩
      rcases w with w | w | w | w
      · exact absurd h3 (by simp [gm_cv, Value.category])
      · exact absurd h3 (by simp [gm_cv, Value.category])
      · rfl
      · exact absurd h3 (by simp [gm_cv, Value.category])
    · left; exact hc
theorem gm_s2_loc {as : List Nat} {ad : Nat → Nat} {arr : Array Slot} {nL i : Nat} {ls : List gm_V} {v : gm_V} {cv : Value} (hcv : cv = gm_cv as ad v) (hs : lv_has arr nL ((i, cv) :: (gm_prs as ad ls).filter (fun q => !(q.1 == i) && (!(q.1 == i + 1) && !(q.1 + 1 == i && q.2.category == 2))))) : gm_loc as ad arr nL (gm_s2 ls i v) := by
  refine ⟨hs.1, hs.2.1, fun k w hk => ?_⟩
  unfold gm_s2 at hk
  by_cases hi1 : k = i + 1
  · subst hi1
    have hl := (List.getElem?_eq_some_iff.mp hk).1
    rw [List.length_set] at hl
    rw [List.getElem?_set_self hl] at hk
    cases hk
  rw [List.getElem?_set_ne (Ne.symm hi1)] at hk
  by_cases hi : k = i
  · subst hi
    have hl := (List.getElem?_eq_some_iff.mp hk).1
    rw [List.length_set] at hl
    rw [List.getElem?_set_self hl] at hk
    have hvw : v = some w := Option.some.inj hk
    have h1 := hs.2.2 (k, cv) List.mem_cons_self
    rw [hcv, hvw] at h1
    exact h1
  · rw [List.getElem?_set_ne (Ne.symm hi)] at hk
    obtain ⟨h1, h2⟩ := gm_kl_at hi hk
    refine hs.2.2 (k, gm_cv as ad (some w)) (List.mem_cons_of_mem _ (List.mem_filter.mpr ⟨gm_prs_mem.mpr ⟨w, h1, rfl⟩, ?_⟩))
    simp only [Bool.and_eq_true, Bool.not_eq_true', beq_eq_false_iff_ne, ne_eq, Bool.and_eq_false_iff]
    refine ⟨hi, hi1, ?_⟩
    by_cases hc : k + 1 = i
    · right
      intro h3
      apply h2
      refine ⟨hc, ?_⟩
      rcases w with w | w | w | w
      · exact absurd h3 (by simp [gm_cv, Value.category])
      · exact absurd h3 (by simp [gm_cv, Value.category])
      · rfl
      · exact absurd h3 (by simp [gm_cv, Value.category])
    · left; exact hc
