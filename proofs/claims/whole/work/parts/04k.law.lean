/-! THE CLAIM OUT OF ONE WALK OF THE LAW'S BODY. Your part is whole_start (and what it stands on); all else here is the same for every law, but numbers. -/
def R_law : String := "HotLettersLaw"
def lw_P (b : Addr) (xs : List Int32) (args : Array Value) (s : State) : Prop := args = #[.ref b] ∧ s.IntsAt b xs ∧ xs.length ≤ 2560 ∧ (Jvm.Cond.and given_1 narrow_1).before args s = true
def lw_Q (_ : Array Value) (s : State) (o : Outcome) (t : State) : Prop := o = .returned (some (.int 1)) ∧ Framed s o t [] 600000 7302249
def lw_Z (below : List Frame) (a : Array Value) (s : State) : State → Prop := fun t => ∃ o, t.status = .running ∧ Ended t below o ∧ lw_Q a s o t
/-- the law's own end, with 1 on the stack, nothing written that was there before, its room as the claim has it -/
theorem lw_ret {p : Program} {l : Launch} {e : Env} {s : State} {m : MethodId} {below : List Frame} {meth : Method} {c : Code} {b : Nat} (hx : p.tables.exec = Jvm.exec) (hb : c.code = code) (hr : meth.sig.returnType = ret) (hlocks : meth.locks = false) {pc : Nat} {H : Heap} {ls : Array Slot} (hdg : decode code pc = .ok (.ireturn, 1)) : W p l e room_1 s m #[Value.ref b] below meth c H [] 600000 7302249 (lw_Z below #[Value.ref b] s) (F0 m pc ls [.int 1]) := by
  intro T hT X
  obtain ⟨fs, hret, hrun, hended, hW, hframe⟩ := X.leave (v := some (.int 1)) (hlocks := hlocks) (fun h => by rw [hr] at h; cases h)
  have hmeth' : T.vm.method? m = some meth := X.method'
  refine ⟨T.setFrames fs, ?_, .returned (some (.int 1)), hrun, hended, rfl, ⟨_, rfl⟩, hW, hframe⟩
  jvm_step X.here [X.here.top, hx, hb, hdg, hmeth', hr, ret, narrow_b1]
  (try refine ⟨rfl, ?_⟩); (try refine ⟨rfl, ?_⟩)
  first | (intro acts; rw [hret _ acts rfl rfl rfl]) | rw [hret _ _ rfl rfl rfl]
  exact Steps.refl _
/-- what holds at the law's entry: the machine, the code, the tables' words (any of lw_tbl by 'hts w (by decide +kernel)'), the script of L ints xs at the cell b, what the Statement gives of the start (any of its parts by flat_of_before) -/
def lw_At (p : Program) (s : State) (m : MethodId) (meth : Method) (c : Code) (b L : Nat) (xs : Nat → Int32) : Prop :=
  p.tables.exec = Jvm.exec ∧ c.code = code ∧ meth.sig.returnType = ret ∧ c.maxLocals = 4 ∧ s.vm.findClass R_law = some m.cls ∧ (∀ w ∈ lw_tbl, w.before #[Value.ref b] s = true) ∧ va_X b L xs s s.heap ∧ b < s.heap.size ∧ meth.locks = false ∧ (Jvm.Cond.and given_1 narrow_1).before #[Value.ref b] s = true

def gm_open (j : Int) : Int := if j = 0 then 0 else if j = 1 then 2 else if j = 2 then 1 else 3
def gm_sealed (j : Int) : Int := if j = 0 then 1 else if j = 1 then 3 else if j = 2 then 0 else 2
/-- the old rows: the script, the two rows of tastes -/
def gm_rows (L : Nat) (xs : Nat → Int32) : Nat → Nat × (Int → Int) := fun r => if r = 0 then (L, fun j => (xs j.toNat).toInt) else if r = 1 then (4, gm_open) else (4, gm_sealed)
theorem gm_rows_ok {L : Nat} {xs : Nat → Int32} (hL : L ≤ 2560) : ∀ r, r < 3 → (∀ j, gm_i ((gm_rows L xs r).2 j)) ∧ (gm_rows L xs r).1 < 2147483648 := by
  intro r hr
  unfold gm_rows
  by_cases h0 : r = 0
  · rw [if_pos h0]
    exact ⟨fun j => gm_i_to _, by show L < _; omega⟩
  · rw [if_neg h0]
    by_cases h1 : r = 1
    · rw [if_pos h1]
      refine ⟨fun j => ?_, by decide⟩
      show gm_i (gm_open j)
      unfold gm_open gm_i
      split <;> (try split) <;> (try split) <;> omega
    · rw [if_neg h1]
      refine ⟨fun j => ?_, by decide⟩
      show gm_i (gm_sealed j)
      unfold gm_sealed gm_i
      split <;> (try split) <;> (try split) <;> omega
theorem gm_known {s : State} {args : Array Value} (CF : gm_CF) (hts : ∀ w ∈ gm_TW, w.before args s = true) : ∃ (dC : Nat → ClassId) (dI : Nat → Nat → Nat), ∀ (k : Nat) (r : vw_C), vwCl[k]? = some r → u_Kn s r.1 r.2.1 r.2.2 (dC k) (dI k) := by
  have h1 : ∀ k : Nat, ∃ q : ClassId × (Nat → Nat), ∀ r : vw_C, vwCl[k]? = some r → u_Kn s r.1 r.2.1 r.2.2 q.1 q.2 := by
    intro k
    cases hr : vwCl[k]? with
    | none => exact ⟨(0, fun _ => 0), fun r h => by cases h⟩
    | some r =>
      obtain ⟨-, a1, -, a2, -⟩ := CF k r hr
      obtain ⟨cC, iS, h⟩ := u_known (C := r.1) (T := r.2.1) (N := r.2.2) (n := r.2.2) hts a1 (hts _ a2)
      exact ⟨(cC, iS), fun r' h' => by cases h'; exact h⟩
  obtain ⟨f, hf⟩ := Classical.axiomOfChoice h1
  exact ⟨fun k => (f k).1, fun k => (f k).2, hf⟩
theorem gm_arr {s : State} {args : Array Value} {ty : FieldType} (h : (Cond.arrayClass ty).before args s = true) : ∃ cA : ClassId, ArrOfT s cA ty ∧ s.vm.findClass ("[" ++ ty.toString) = some cA := by
  obtain ⟨c, k, comp, h1, h2, h3⟩ := Cond.arrayClass_spec h
  exact ⟨c, fun n z => ⟨fun k h => (by cases h), k, h2, comp, h3⟩, h1⟩
theorem gm_arro {s : State} {args : Array Value} {n : String} (h : (Cond.arrayOver (.object n)).before args s = true) : ∃ cA : ClassId, ArrOfT s cA (.object n) ∧ va_RA s cA (.object n) := by
  obtain ⟨comp, c, k, h1, -, h2, h3, h4⟩ := Cond.arrayOver_spec h
  exact ⟨c, fun n z => ⟨fun k h => (by cases h), k, h2, comp, h3⟩, k, comp, h2, h3, h1, h4⟩
theorem gm_nest_on {w : Cond} (h : gm_nest w = true) : w.onTables = true := by
  unfold gm_nest at h
  split at h
  · rfl
  · rfl
  · cases h
theorem gm_lt4 {P : Nat → Prop} (h0 : P 0) (h1 : P 1) (h2 : P 2) (h3 : P 3) : ∀ j, j < 4 → P j := by
  intro j hj
  match j, hj with
  | 0, _ => exact h0
  | 1, _ => exact h1
  | 2, _ => exact h2
  | 3, _ => exact h3
set_option maxHeartbeats 4000000 in
/-- THE LAW'S WALK OUT OF THE SMALL MACHINE'S -/
theorem gm_law {p : Program} {e : Env} {s : State} {m : MethodId} {below : List Frame} {meth : Method} {c : Code} (l : Launch) {b L : Nat} {xs : Nat → Int32} (hL : L ≤ 2560) (C0 : lw_At p s m meth c b L xs)
    {MT : Nat → Option gm_Me} {np : List Nat} {pl : gm_P} {cp lp : gm_Q} {cd : List gm_O} (All : gm_All MT np pl cp lp) (h999 : MT 999 = none) (hck : gm_ck pl cp lp np 9 4 (some .boolean) false code cd) (hp0 : gm_pc cd 0 = 0)
    (ho1 : Cond.arrayOver (.object RX1) ∈ lw_tbl) (ho2 : Cond.arrayOver (.object RX2) ∈ lw_tbl) (hs1 : Cond.laysStatic "HotLetters" "OPEN_TASTE" "[I" ∈ lw_tbl) (hs2 : Cond.laysStatic "HotLetters" "SEALED_TASTE" "[I" ∈ lw_tbl) (hi0 : Cond.initialized "HotLetters" ∈ lw_tbl)
    {S' : List gm_S} {m' : gm_M} (hS1 : S'.length ≤ 600000) (hS2 : gm_sz S' ≤ 7302249)
    (hpure : gm_wp (gm_sem MT (gm_rows L xs) 11) (gm_rows L xs) cd (fun r S1 m1 => r = gI 1 ∧ S1 = S' ∧ m1 = m') 0 [gO 0, none, none, none] [] [] (fun _ _ => 0)) :
    W p l e room_1 s m #[Value.ref b] below meth c s.heap [] 0 0 (lw_Z below #[Value.ref b] s) (entryFrame m ([Value.ref b] : List Value).toArray 4) := by
  obtain ⟨hx, hb, hr, hml, hown, hts, hX, hbl, hlocks, hgv⟩ := C0
  have hTW : ∀ w ∈ gm_TW, w.before #[Value.ref b] s = true := fun w hw => hts w (List.mem_filter.mp hw).1
  obtain ⟨dC, dI, hKc⟩ := gm_known All.1 hTW
  obtain ⟨cI, hI1, hI2⟩ := gm_arr (hTW _ All.2.2.2.2.2.1)
  obtain ⟨cZ, hZ1, hZ2⟩ := gm_arr (hTW _ All.2.2.2.2.2.2)
  obtain ⟨cL, hL1, hL2⟩ := gm_arro (hts _ ho1)
  obtain ⟨cN, hN1, hN2⟩ := gm_arro (hts _ ho2)
  have hfl := flat_of_before _ hgv
  have hA : ∀ q : Nat, q < s.heap.size → ¬ (fun q : Nat => s.heap.size ≤ q) q := fun q h => Nat.not_le.mpr h
  obtain ⟨t1, ht1, hT1⟩ := va_Tof (tm := Term.static "HotLetters" "OPEN_TASTE" "[I") (ty := .int) (N := 4) (f := fun j => .int (Int32.ofInt (gm_open (j : Int)))) (A := fun q : Nat => s.heap.size ≤ q) (by decide) (hfl _ (by decide +kernel)) (va_eqt (hfl (Cond.eq (.length (.static "HotLetters" "OPEN_TASTE" "[I")) (.int 4)) (by decide +kernel)))
    (gm_lt4 (va_eqt (hfl (Cond.eq (.elem (.static "HotLetters" "OPEN_TASTE" "[I") (.int 0)) (.int 0)) (by decide +kernel))) (va_eqt (hfl (Cond.eq (.elem (.static "HotLetters" "OPEN_TASTE" "[I") (.int 1)) (.int 2)) (by decide +kernel))) (va_eqt (hfl (Cond.eq (.elem (.static "HotLetters" "OPEN_TASTE" "[I") (.int 2)) (.int 1)) (by decide +kernel))) (va_eqt (hfl (Cond.eq (.elem (.static "HotLetters" "OPEN_TASTE" "[I") (.int 3)) (.int 3)) (by decide +kernel)))) hA
  obtain ⟨t2, ht2, hT2⟩ := va_Tof (tm := Term.static "HotLetters" "SEALED_TASTE" "[I") (ty := .int) (N := 4) (f := fun j => .int (Int32.ofInt (gm_sealed (j : Int)))) (A := fun q : Nat => s.heap.size ≤ q) (by decide) (hfl _ (by decide +kernel)) (va_eqt (hfl (Cond.eq (.length (.static "HotLetters" "SEALED_TASTE" "[I")) (.int 4)) (by decide +kernel)))
    (gm_lt4 (va_eqt (hfl (Cond.eq (.elem (.static "HotLetters" "SEALED_TASTE" "[I") (.int 0)) (.int 1)) (by decide +kernel))) (va_eqt (hfl (Cond.eq (.elem (.static "HotLetters" "SEALED_TASTE" "[I") (.int 1)) (.int 3)) (by decide +kernel))) (va_eqt (hfl (Cond.eq (.elem (.static "HotLetters" "SEALED_TASTE" "[I") (.int 2)) (.int 0)) (by decide +kernel))) (va_eqt (hfl (Cond.eq (.elem (.static "HotLetters" "SEALED_TASTE" "[I") (.int 3)) (.int 2)) (by decide +kernel)))) hA
  have hU : gm_U (dC, dI) (cI, cZ, cL, cN) (fun q : Nat => s.heap.size ≤ q) (fun r => if r = 0 then b else if r = 1 then t1 else t2) (gm_rows L xs) s := by
    refine ⟨⟨hKc, fun k q hq => ?_⟩, fun q h => h, fun r hr3 => ?_, va_Zof (hts _ hs1) (hts _ hi0) ht1 hA, va_Zof (hts _ hs2) (hts _ hi0) ht2 hA, va_AO.of (hts _ ho1), va_AO.of (hts _ ho2), fun w hw hn => va_Nw.of (gm_nest_on hn) (hts w hw)⟩
    · unfold gm_tys at hq
      match k, hq with
      | 0, hq => cases hq; exact ⟨hI1, hI2⟩
      | 1, hq => cases hq; exact ⟨hZ1, hZ2⟩
      | 2, hq => cases hq; exact ⟨hL1, hL2⟩
      | 3, hq => cases hq; exact ⟨hN1, hN2⟩
      | k + 4, hq => simp at hq
    · refine ⟨?_, gm_rows_ok hL r hr3⟩
      match r, hr3 with
      | 0, _ =>
        obtain ⟨scr, g1, g2, g3, g4, g5⟩ := hX
        exact ⟨scr, g1, g2, g3, by rw [g4]; exact Nat.le_refl _, by rw [g4]; rfl, fun j hj => by
          rw [g5 j hj]
          show some (Value.int _) = some (Value.int (Int32.ofInt (xs ((j : Int).toNat)).toInt))
          rw [Int.toNat_natCast, oi_to], hA b hbl⟩
      | 1, _ => exact hT1
      | 2, _ => exact hT2
  have E : gm_Env p s m meth c #[Value.ref b] code RL 4 (dC, dI) (cI, cZ, cL, cN) (fun q : Nat => s.heap.size ≤ q) (fun r => if r = 0 then b else if r = 1 then t1 else t2) (gm_rows L xs) false := ⟨hx, hb, hml, hown, hTW, hU, fun q => by cases q⟩
  have HX := hpure _ (gm_close (p := p) (e := e) (c := c) (l := l) (Rm := room_1) (s := s) (mm := m) (args := #[Value.ref b]) (below := below) (meth := meth) (Q := lw_Z below #[Value.ref b] s) (D := (dC, dI)) (ci := (cI, cZ, cL, cN)) (A := fun q : Nat => s.heap.size ≤ q) (ad := fun r => if r = 0 then b else if r = 1 then t1 else t2) (S0 := []) (S' := S') (as0 := []) (Fn := True) (own := RL) All (gm_sound All h999 (gm_rows_ok hL) 11) (fun _ => ⟨by decide, by decide⟩) ⟨by show S'.length - 0 ≤ 600000; omega, by show gm_sz S' - 0 ≤ 7302249; omega⟩ (fun _ _ _ _ _ => ⟨by decide, by decide⟩) (gm_rows_ok hL) hck rfl (by
    intro i ins a0 b0 x0 ts ls st S2 m2 hins hd hk h
    rcases hins with rfl | rfl | rfl
    · simp only [gm_step] at h
      split at h
      · rename_i v
        obtain ⟨-, h1, rfl, rfl⟩ := h
        have h1 : v = 1 := by simpa using h1
        subst h1
        refine ⟨Nat.le_refl _, Nat.le_refl _, fun I _ _ _ => ⟨trivial, fun E as2 arr H locs b1 b2 b3 b4 b5 b6 => ?_⟩⟩
        refine va_forget b6.2.2 ?_
        refine W.widen (k := 600000) (n := 7302249) (by show S2.length - 0 ≤ _; omega) (by show gm_sz S2 - 0 ≤ _; omega) ?_
        exact lw_ret hx hb hr hlocks hd
      · exact h.elim
    · simp [gm_chk] at hk
    · simp [gm_chk] at hk))
  have w := (HX.2.2 ⟨fun v hv => by
      simp only [List.mem_cons, List.not_mem_nil, or_false] at hv
      rcases hv with rfl | rfl | rfl | rfl
      · exact (by decide : (0 : Nat) < 3)
      · trivial
      · trivial
      · trivial, (fun v hv => by cases hv), (fun _ _ => gm_i_0), (fun _ _ _ => rfl), (fun a sh h => by simp at h)⟩ rfl (Nat.le_refl _) (Nat.le_refl _)).2 E [] _ s.heap [] (List.prefix_refl _) rfl (gm_entry [] _ (a := [gO 0]) (nL := 4) (by decide)) (fun k q h => by simp [gm_W] at h) ⟨fun i j p q h => by simp [gm_W] at h, fun k q h => by simp [gm_W] at h⟩ va_S.rf
  rw [hp0] at w
  rw [lg_entry_eq]
  exact w
