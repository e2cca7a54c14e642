theorem gm_en_ok {n : Nat} : ∀ (a : List gm_V), (∀ v ∈ a, gm_ok n v) → ∀ v ∈ gm_en a, gm_ok n v := by
  intro a
  induction a with
  | nil => intro _ v hv; cases hv
  | cons w l ih =>
    intro h v hv
    have ih' := ih (fun v hv => h v (List.mem_cons_of_mem _ hv))
    have hw := h w List.mem_cons_self
    unfold gm_en at hv
    split at hv
    · rcases List.mem_cons.mp hv with rfl | hv
      · exact hw
      · rcases List.mem_cons.mp hv with rfl | hv
        · trivial
        · exact ih' v hv
    · rcases List.mem_cons.mp hv with rfl | hv
      · exact hw
      · exact ih' v hv
theorem gm_en_len (as : List Nat) (ad : Nat → Nat) : ∀ (a : List gm_V), (lg_sl (a.map (gm_cv as ad))).length = (gm_en a).length := by
  intro a
  induction a with
  | nil => rfl
  | cons w l ih =>
    have e : lg_sl ((w :: l).map (gm_cv as ad)) = (if (gm_cv as ad w).category = 2 then [.val (gm_cv as ad w), .second] else [.val (gm_cv as ad w)]) ++ lg_sl (l.map (gm_cv as ad)) := by simp [lg_sl]
    rw [e, List.length_append, ih]
    rcases w with _ | w | w | w | w <;> simp [gm_en, gm_cv, Value.category] <;> omega
theorem gm_en_at (as : List Nat) (ad : Nat → Nat) : ∀ (a : List gm_V) (o k : Nat) (v : Int ⊕ (Int ⊕ (Int ⊕ Nat))), (gm_en a)[k]? = some (some v) → (o + k, gm_cv as ad (some v)) ∈ lv_args o (a.map (gm_cv as ad)) := by
  intro a
  induction a with
  | nil => intro o k v h; simp [gm_en] at h
  | cons w l ih =>
    intro o k v h
    rw [List.map_cons, lv_args]
    by_cases hw : gm_w1 w = 2
    · obtain ⟨x, rfl⟩ : ∃ x, w = gL x := by
        rcases w with _ | w | w | w | w <;> first | exact ⟨w, rfl⟩ | (simp [gm_w1] at hw)
      have hc : (gm_cv as ad (gL x)).category = 2 := rfl
      rw [if_pos hc]
      simp only [gm_en] at h
      match k, h with
      | 0, h =>
        simp only [List.getElem?_cons_zero, Option.some.injEq] at h
        rw [← h]
        exact List.mem_cons_self
      | 1, h => simp at h
      | k + 2, h =>
        simp only [List.getElem?_cons_succ] at h
        have := ih (o + 2) k v h
        rw [show o + (k + 2) = o + 2 + k by omega]
        exact List.mem_cons_of_mem _ this
    · have hw1 : gm_w1 w = 1 := by
        rcases w with _ | w | w | w | w <;> first | rfl | (exact absurd rfl hw)
      have hc : ¬ (gm_cv as ad w).category = 2 := by rw [gm_cat1 hw1]; omega
      rw [if_neg hc]
      have he : gm_en (w :: l) = w :: gm_en l := by
        rcases w with _ | w | w | w | w <;> first | rfl | (exact absurd rfl hw)
      rw [he] at h
      match k, h with
      | 0, h =>
        simp only [List.getElem?_cons_zero, Option.some.injEq] at h
        rw [← h]
        exact List.mem_cons_self
      | k + 1, h =>
        simp only [List.getElem?_cons_succ] at h
        have := ih (o + 1) k v h
        rw [show o + (k + 1) = o + 1 + k by omega]
        exact List.mem_cons_of_mem _ this
theorem gm_entry (as : List Nat) (ad : Nat → Nat) {a : List gm_V} {nL : Nat} (h : (gm_en a).length ≤ nL) : gm_loc as ad ((lg_sl (a.map (gm_cv as ad)) ++ List.replicate (nL - (lg_sl (a.map (gm_cv as ad))).length) Slot.unset).toArray) nL (gm_en a ++ List.replicate (nL - (gm_en a).length) none) := by
  obtain ⟨h1, h2, h3⟩ := lv_entry (a.map (gm_cv as ad)) (n := nL) (by rw [gm_en_len]; exact h)
  refine ⟨h1, h2, fun k v hk => ?_⟩
  by_cases hl : k < (gm_en a).length
  · rw [List.getElem?_append_left hl] at hk
    have := h3 _ (gm_en_at as ad a 0 k v hk)
    rw [Nat.zero_add] at this
    exact this
  · rw [List.getElem?_append_right (by omega), List.getElem?_replicate] at hk
    split at hk <;> cases hk
section GM8
variable {l : Launch} {D : va_G} {ci : gm_ids} {A : Nat → Prop} {ad : Nat → Nat} {ro : Nat → Nat × (Int → Int)} {MT : Nat → Option gm_Me} {np : List Nat} {pl : gm_P} {cp lp : gm_Q}
theorem gm_en_I {a : List gm_V} {S : List gm_S} {m : gm_M} {n : Nat} (I : gm_I a [] S m) : gm_I (gm_en a ++ List.replicate n none) [] S m := by
  refine ⟨fun v hv => ?_, (fun v hv => by cases hv), I.2.2⟩
  rcases List.mem_append.mp hv with hv | hv
  · exact gm_en_ok a I.1 v hv
  · rw [List.eq_of_mem_replicate hv]; trivial
set_option maxHeartbeats 4000000 in
/-- THE SMALL MACHINE IS SOUND: what it does, the machine does -/
theorem gm_sound (All : gm_All MT np pl cp lp) (h999 : MT 999 = none) (HRO : ∀ r, r < 3 → (∀ j, gm_i ((ro r).2 j)) ∧ (ro r).1 < 2147483648) : ∀ d, gm_Snd MT l D ci A ad ro (gm_sem MT ro d) (d - 1) (42 * (d - 1)) := by
  intro d
  induction d with
  | zero =>
    intro p e c k M a S m r S1 m1 hM h
    exact h.elim
  | succ d ih =>
    intro p e c k M a S m r S1 m1 hM h
    rcases h with ⟨rfl, -⟩ | ⟨M', hM', hen, hwp⟩
    · rw [h999] at hM; cases hM
    cases hM.symm.trans hM'
    obtain ⟨f1, f2, f3, f4, f5, f6, f7, f8, f9, f10⟩ := All.2.2.2.2.1 k M hM
    have HFr : ∀ {Rm : Room}, d ≤ Rm.frames → 42 * d ≤ Rm.locals → (∃ k a S m r S1 m1, gm_sem MT ro d k a S m r S1 m1) → d - 1 + 1 ≤ Rm.frames ∧ 42 * (d - 1) + 42 ≤ Rm.locals := by
      intro Rm h1 h2 hex
      have hd : d ≠ 0 := by
        rintro rfl
        obtain ⟨_, _, _, _, _, _, _, h⟩ := hex
        exact h
      omega
    have HCr : ∀ {Rm : Room}, d ≤ Rm.frames → 42 * d ≤ Rm.locals → ∀ S m S1 m1, gm_sem MT ro d 999 [] S m none S1 m1 → 1 ≤ Rm.frames ∧ 26 ≤ Rm.locals := by
      intro Rm h1 h2 S m S1 m1 h
      have hd : d ≠ 0 := by
        rintro rfl
        exact h
      omega
    have hlenL : (gm_en a ++ List.replicate (M.2.2.1 - (gm_en a).length) none).length = M.2.2.1 := by simp; omega
    have HX := hwp _ (gm_close (p := p) (e := e) (c := c) (l := l) (Rm := { frames := d, cells := S1.length - S.length, slots := gm_sz S1 - gm_sz S, locals := 42 * d }) (s := default) (mm := default) (args := #[]) (below := []) (meth := default) (Q := fun _ => True) (D := D) (ci := ci) (A := A) (ad := ad) (S0 := S) (S' := S1) (as0 := []) (Fn := gm_ok S1.length r ∧ gm_I [] [] S1 m1) (own := M.1.cls) All ih (HFr (Nat.le_refl _) (Nat.le_refl _)) ⟨Nat.le_refl _, Nat.le_refl _⟩ (HCr (Nat.le_refl _) (Nat.le_refl _)) HRO f10 f1 (by
      intro i ins a0 b0 x0 ts ls st S2 m2 hins hd hk h
      have key : ∀ v, (∀ w ∈ st, gm_ok S2.length w) ∨ True → (v = r ∧ S2 = S1 ∧ m2 = m1) → ((∀ w ∈ st, gm_ok S2.length w) → gm_ok S2.length v) → gm_X p l e { frames := d, cells := S1.length - S.length, slots := gm_sz S1 - gm_sz S, locals := 42 * d } default default #[] [] default c (fun _ => True) D ci A ad S S1 [] (gm_ok S1.length r ∧ gm_I [] [] S1 m1) M.2.2.1 M.2.2.2.2.2 M.2.1 M.1.cls ro (decide (M.1.name = "<init>")) i ls st S2 m2 := by
        intro v _ hv hok
        obtain ⟨rfl, rfl, rfl⟩ := hv
        exact ⟨Nat.le_refl _, Nat.le_refl _, fun I _ _ _ => ⟨⟨hok I.2.1, (fun v hv => by cases hv), (fun v hv => by cases hv), I.2.2⟩, fun _ _ _ _ _ _ _ _ _ _ _ T _ _ => ⟨_, Steps.refl _, trivial⟩⟩⟩
      rcases hins with rfl | rfl | rfl
      · simp only [gm_step] at h
        split at h
        · exact key _ (Or.inr trivial) h.2 (fun q => q _ List.mem_cons_self)
        · exact h.elim
      · simp only [gm_step] at h
        split at h
        · exact key _ (Or.inr trivial) h (fun q => q _ List.mem_cons_self)
        · exact h.elim
      · simp only [gm_step] at h
        split at h
        · exact key _ (Or.inr trivial) h (fun q => trivial)
        · exact h.elim))
    refine ⟨⟨HX.1, HX.2.1⟩, fun I => ?_⟩
    have hFn := (HX.2.2 (gm_en_I I) hlenL (Nat.le_refl _) (Nat.le_refl _)).1
    refine ⟨hFn, fun as has => ?_⟩
    refine Met.ofW (cc := M.2.1) (maxL := M.2.2.1) (ret := M.2.2.2.1) f2 rfl ?_
    intro p e s mm args below meth c s₁ B hml hv
    obtain ⟨rfl, hU, hP, hD⟩ := hv
    have hts := atoms_spec (ws := gm_ws M) B.pre
    have hown : s.vm.findClass M.1.cls = some mm.cls := findClass_of_methodNamed B.named
    have hnm : meth.name = M.1.name := (name_of_methodNamed B.named B.method).1
    have hlocks := B.notSynchronized
    have E : gm_Env p s mm meth c (a.map (gm_cv as ad)).toArray M.2.1 M.1.cls M.2.2.1 D ci A ad ro (decide (M.1.name = "<init>")) := ⟨B.exec, B.bytes, hml, hown, fun w hw => hts w (List.mem_cons_of_mem _ hw), hU, fun q => by rw [hnm]; exact of_decide_eq_true q⟩
    have HY := hwp _ (gm_close (p := p) (e := e) (c := c) (l := l) (Rm := { frames := d, cells := S1.length - S.length, slots := gm_sz S1 - gm_sz S, locals := 42 * d }) (s := s) (mm := mm) (args := (a.map (gm_cv as ad)).toArray) (below := below) (meth := meth) (Q := MQ below (gm_Qc D ci A ad as r S1 m1) (a.map (gm_cv as ad)).toArray s (S1.length - S.length) (gm_sz S1 - gm_sz S) A) (D := D) (ci := ci) (A := A) (ad := ad) (S0 := S) (S' := S1) (as0 := as) (Fn := True) (own := M.1.cls) All ih (HFr (Nat.le_refl _) (Nat.le_refl _)) ⟨Nat.le_refl _, Nat.le_refl _⟩ (HCr (Nat.le_refl _) (Nat.le_refl _)) HRO f10 f1 (by
      intro i ins a0 b0 x0 ts ls st S2 m2 hins hd hk h
      have hq : ∀ {as2 : List Nat} {H : Heap} {locs : List Loc}, as <+: as2 → as2.length = S1.length → va_P D vwCl (gm_W ci as2 S1 m1) H → va_D A (gm_W ci as2 S1 m1) → va_S A s.heap H locs → ∀ t : State, t.heap = H → s.WarmedH t.vm → gm_Qc D ci A ad as r S1 m1 (a.map (gm_cv as ad)).toArray s (.returned (gm_rv as2 ad r)) t := by
        intro as2 H locs q1 q2 q3 q4 q5 t ht _
        exact ⟨⟨as2, q1, q2, rfl, by rw [ht]; exact q3, q4⟩, q5.F ht⟩
      rcases hins with rfl | rfl | rfl
      · simp only [gm_step] at h
        split at h
        · rename_i v
          obtain ⟨hb, rfl, rfl, rfl⟩ := h
          refine ⟨Nat.le_refl _, Nat.le_refl _, fun I _ _ _ => ⟨trivial, fun E as2 arr H locs b1 b2 b3 b4 b5 b6 => ?_⟩⟩
          simp only [gm_chk, Bool.or_eq_true, Bool.and_eq_true, decide_eq_true_eq] at hk
          rcases hk with ⟨hr, -⟩ | ⟨hr, hp⟩
          · exact W.iret E.1 E.2.1 (by rw [B.returns]; exact hr) (hq b1 b2 b4 b5 b6) b6.2.2 hd
          · have hp : a0 = 1 := Nat.eq_of_beq_eq_true hp
            have hv : v = 0 ∨ v = 1 := by
              rcases hb with q | q | q
              · omega
              · exact Or.inl q
              · exact Or.inr q
            exact W.zret (ty := .boolean) E.1 E.2.1 (by rw [B.returns]; exact hr) (by rcases hv with rfl | rfl <;> rfl) (hq b1 b2 b4 b5 b6) b6.2.2 hd
        · exact h.elim
      · simp only [gm_step] at h
        split at h
        · rename_i v
          obtain ⟨rfl, rfl, rfl⟩ := h
          refine ⟨Nat.le_refl _, Nat.le_refl _, fun I _ _ _ => ⟨trivial, fun E as2 arr H locs b1 b2 b3 b4 b5 b6 => ?_⟩⟩
          have hr := of_decide_eq_true hk
          exact W.lret E.1 E.2.1 (by rw [B.returns]; exact hr) (hq b1 b2 b4 b5 b6) b6.2.2 hd
        · exact h.elim
      · simp only [gm_step] at h
        split at h
        · obtain ⟨rfl, rfl, rfl⟩ := h
          refine ⟨Nat.le_refl _, Nat.le_refl _, fun I _ _ _ => ⟨trivial, fun E as2 arr H locs b1 b2 b3 b4 b5 b6 => ?_⟩⟩
          have hr := of_decide_eq_true hk
          exact W.vret E.1 E.2.1 (by rw [B.returns]; exact hr) (hq b1 b2 b4 b5 b6) b6.2.2 hd
        · exact h.elim))
    have w := (HY.2.2 (gm_en_I I) hlenL (Nat.le_refl _) (Nat.le_refl _)).2 E as _ s.heap [] (List.prefix_refl _) has (gm_entry as ad hen) hP hD va_S.rf
    rw [Nat.sub_self, Nat.sub_self, f9] at w
    rw [lg_entry_eq]
    exact w
end GM8
