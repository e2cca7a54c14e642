/-! ===== a run with a weak end has an exact end; calls of which only so much is known ===== -/
theorem ex_br {c : Prop} {R : gm_R} {A B : gm_V → List gm_S → gm_M → Prop} (h1 : c → ∃ r S' m', R r S' m' ∧ A r S' m') (h2 : ¬ c → ∃ r S' m', R r S' m' ∧ B r S' m') : ∃ r S' m', R r S' m' ∧ (c → A r S' m') ∧ (¬ c → B r S' m') := by
  by_cases hc : c
  · obtain ⟨r, S', m', a, b⟩ := h1 hc
    exact ⟨r, S', m', a, fun _ => b, fun hn => absurd hc hn⟩
  · obtain ⟨r, S', m', a, b⟩ := h2 hc
    exact ⟨r, S', m', a, fun hn => absurd hn hc, fun _ => b⟩
set_option maxHeartbeats 4000000 in
theorem gm_step_ex {C : gm_C} {ro : Nat → Nat × (Int → Int)} {ins : Instr} {p q : Nat} {x : Int} {ts : List (Int × Nat)} {i : Nat} {ls st : List gm_V} {S : List gm_S} {m : gm_M} {X : gm_V → List gm_S → gm_M → gm_K} {R : gm_R} (h : gm_step C ro ins p q x ts i ls st S m (fun i ls st S m => ∃ r S' m', R r S' m' ∧ X r S' m' i ls st S m) R) : ∃ r S' m', R r S' m' ∧ gm_step C ro ins p q x ts i ls st S m (X r S' m') (fun r1 S1 m1 => r1 = r ∧ S1 = S' ∧ m1 = m') := by
  unfold gm_step at h ⊢
  split at h <;> (try split at h) <;> (try split at h) <;> first
    | exact h.elim
    | exact h
    | exact ⟨_, _, _, h, rfl, rfl, rfl⟩
    | exact ⟨_, _, _, h.2, h.1, rfl, rfl, rfl⟩
    | (obtain ⟨h0, r, S', m', h1, h2⟩ := h; exact ⟨r, S', m', h1, h0, h2⟩)
    | (obtain ⟨h0, h01, r, S', m', h1, h2⟩ := h; exact ⟨r, S', m', h1, h0, h01, h2⟩)
    | (obtain ⟨h0, h01, h02, r, S', m', h1, h2⟩ := h; exact ⟨r, S', m', h1, h0, h01, h02, h2⟩)
    | (obtain ⟨h0, b, h01, r, S', m', h1, h2⟩ := h; exact ⟨r, S', m', h1, h0, b, h01, h2⟩)
    | (obtain ⟨h0, h01, r0, S0', m0, h02, r, S', m', h1, h2⟩ := h; exact ⟨r, S', m', h1, h0, h01, r0, S0', m0, h02, h2⟩)
    | (obtain ⟨h0, h01, h03, r0, S0', m0, h02, r, S', m', h1, h2⟩ := h; exact ⟨r, S', m', h1, h0, h01, h03, r0, S0', m0, h02, h2⟩)
    | exact ex_br h.1 h.2
    | (obtain ⟨h0, h2⟩ := h
       split at h2
       · obtain ⟨r, S', m', h1, h3⟩ := h2
         exact ⟨r, S', m', h1, h0, h3⟩
       · obtain ⟨b, h3, r, S', m', h1, h4⟩ := h2
         exact ⟨r, S', m', h1, h0, b, h3, h4⟩)
theorem gm_wp_ex {C : gm_C} {ro : Nat → Nat × (Int → Int)} {code : List gm_O} {R : gm_R} {i : Nat} {ls st : List gm_V} {S : List gm_S} {m : gm_M} (h : gm_wp C ro code R i ls st S m) : ∃ r S' m', R r S' m' ∧ gm_wp C ro code (fun r1 S1 m1 => r1 = r ∧ S1 = S' ∧ m1 = m') i ls st S m := by
  refine h (fun i ls st S m => ∃ r S' m', R r S' m' ∧ gm_wp C ro code (fun r1 S1 m1 => r1 = r ∧ S1 = S' ∧ m1 = m') i ls st S m) (fun i ls st S m ha => ?_)
  unfold gm_at at ha
  split at ha
  · rename_i o ho
    obtain ⟨r, S', m', h1, h2⟩ := gm_step_ex (X := fun r S' m' => gm_wp C ro code (fun r1 S1 m1 => r1 = r ∧ S1 = S' ∧ m1 = m')) ha
    refine ⟨r, S', m', h1, gm_fold ?_⟩
    unfold gm_at
    rw [ho]
    exact h2
  · exact ha.elim
/-- the method ends, the cells stay, and Q holds of answer and memory -/
def gm_rel (ro : Nat → Nat × (Int → Int)) (d k : Nat) (args : List gm_V) (S : List gm_S) (m : gm_M) (Q : gm_V → gm_M → Prop) : Prop := ∃ r m', gm_sem MT ro d k args S m r S m' ∧ Q r m'
theorem gm_rel_of {ro : Nat → Nat × (Int → Int)} {d k : Nat} {y : MethodName} {cc : ByteArray} {nL own : Nat} {ret : Option FieldType} {cd : List gm_O} (hM : MT k = some (y, cc, nL, ret, own, cd)) {args : List gm_V} {S : List gm_S} {m : gm_M} {Q : gm_V → gm_M → Prop} (hn : (gm_en args).length ≤ nL) (h : gm_wp (gm_sem MT ro d) ro cd (fun r1 S1 m1 => S1 = S ∧ Q r1 m1) 0 (gm_en args ++ List.replicate (nL - (gm_en args).length) none) [] S m) : gm_rel ro (d + 1) k args S m Q := by
  obtain ⟨r, S', m', ⟨hS, hQ⟩, h2⟩ := gm_wp_ex h
  subst hS
  exact ⟨r, m', gm_sem_of hM hn h2, hQ⟩
theorem gm_rel_mono {ro : Nat → Nat × (Int → Int)} {d e k : Nat} (hde : d ≤ e) {args : List gm_V} {S : List gm_S} {m : gm_M} {Q Q' : gm_V → gm_M → Prop} (hQ : ∀ r m, Q r m → Q' r m) (h : gm_rel ro d k args S m Q) : gm_rel ro e k args S m Q' := by
  obtain ⟨r, m', h1, h2⟩ := h
  exact ⟨r, m', gm_sem_le hde h1, hQ _ _ h2⟩
theorem rel_of_sem {ro : Nat → Nat × (Int → Int)} {d k : Nat} {args : List gm_V} {S : List gm_S} {m : gm_M} {r : gm_V} {m' : gm_M} {Q : gm_V → gm_M → Prop} (h : gm_sem MT ro d k args S m r S m') (hQ : Q r m') : gm_rel ro d k args S m Q := ⟨r, m', h, hQ⟩
section IDR
variable {ro : Nat → Nat × (Int → Int)} {d p i n : Nat} {x : Int} {ts : List (Int × Nat)} {ls t : List gm_V} {S : List gm_S} {m : gm_M} {K : gm_K} {R : gm_R} {Q : gm_V → gm_M → Prop}
theorem gm_rt0 (hp : (p ≠ 998 ∧ p ≠ 997) ∧ p ≠ 996) (hw : gm_wd t ≤ 8) (hC : gm_rel ro d p [] S m Q) (k : ∀ r m', Q r m' → K (i + 1) ls (gm_ps r t) S m') : gm_step (gm_sem MT ro d) ro (.invokestatic n) p 0 x ts i ls (t) S m K R := by obtain ⟨r, m', h1, h2⟩ := hC; exact gm_st0 hp hw h1 (k r m' h2)
theorem gm_rt1 {v1 : gm_V} (hp : (p ≠ 998 ∧ p ≠ 997) ∧ p ≠ 996) (hw : gm_wd t ≤ 8) (hC : gm_rel ro d p [v1] S m Q) (k : ∀ r m', Q r m' → K (i + 1) ls (gm_ps r t) S m') : gm_step (gm_sem MT ro d) ro (.invokestatic n) p 1 x ts i ls (v1 :: t) S m K R := by obtain ⟨r, m', h1, h2⟩ := hC; exact gm_st1 hp hw h1 (k r m' h2)
theorem gm_rt2 {v1 v2 : gm_V} (hp : (p ≠ 998 ∧ p ≠ 997) ∧ p ≠ 996) (hw : gm_wd t ≤ 8) (hC : gm_rel ro d p [v1, v2] S m Q) (k : ∀ r m', Q r m' → K (i + 1) ls (gm_ps r t) S m') : gm_step (gm_sem MT ro d) ro (.invokestatic n) p 2 x ts i ls (v2 :: v1 :: t) S m K R := by obtain ⟨r, m', h1, h2⟩ := hC; exact gm_st2 hp hw h1 (k r m' h2)
theorem gm_rt3 {v1 v2 v3 : gm_V} (hp : (p ≠ 998 ∧ p ≠ 997) ∧ p ≠ 996) (hw : gm_wd t ≤ 8) (hC : gm_rel ro d p [v1, v2, v3] S m Q) (k : ∀ r m', Q r m' → K (i + 1) ls (gm_ps r t) S m') : gm_step (gm_sem MT ro d) ro (.invokestatic n) p 3 x ts i ls (v3 :: v2 :: v1 :: t) S m K R := by obtain ⟨r, m', h1, h2⟩ := hC; exact gm_st3 hp hw h1 (k r m' h2)
theorem gm_rt4 {v1 v2 v3 v4 : gm_V} (hp : (p ≠ 998 ∧ p ≠ 997) ∧ p ≠ 996) (hw : gm_wd t ≤ 8) (hC : gm_rel ro d p [v1, v2, v3, v4] S m Q) (k : ∀ r m', Q r m' → K (i + 1) ls (gm_ps r t) S m') : gm_step (gm_sem MT ro d) ro (.invokestatic n) p 4 x ts i ls (v4 :: v3 :: v2 :: v1 :: t) S m K R := by obtain ⟨r, m', h1, h2⟩ := hC; exact gm_st4 hp hw h1 (k r m' h2)
theorem gm_rv1 {b : Int} (hw : gm_wd t ≤ 8) (his : gm_is S b x.toNat) (hC : gm_rel ro d p [gA b] S m Q) (k : ∀ r m', Q r m' → K (i + 1) ls (gm_ps r t) S m') : gm_step (gm_sem MT ro d) ro (.invokevirtual n) p 1 x ts i ls (gA b :: t) S m K R := by obtain ⟨r, m', h1, h2⟩ := hC; exact gm_vt1 hw his h1 (k r m' h2)
theorem gm_rv2 {v1 : gm_V} {b : Int} (hw : gm_wd t ≤ 8) (his : gm_is S b x.toNat) (hC : gm_rel ro d p [gA b, v1] S m Q) (k : ∀ r m', Q r m' → K (i + 1) ls (gm_ps r t) S m') : gm_step (gm_sem MT ro d) ro (.invokevirtual n) p 2 x ts i ls (v1 :: gA b :: t) S m K R := by obtain ⟨r, m', h1, h2⟩ := hC; exact gm_vt2 hw his h1 (k r m' h2)
theorem gm_rv3 {v1 v2 : gm_V} {b : Int} (hw : gm_wd t ≤ 8) (his : gm_is S b x.toNat) (hC : gm_rel ro d p [gA b, v1, v2] S m Q) (k : ∀ r m', Q r m' → K (i + 1) ls (gm_ps r t) S m') : gm_step (gm_sem MT ro d) ro (.invokevirtual n) p 3 x ts i ls (v2 :: v1 :: gA b :: t) S m K R := by obtain ⟨r, m', h1, h2⟩ := hC; exact gm_vt3 hw his h1 (k r m' h2)
theorem gm_rv4 {v1 v2 v3 : gm_V} {b : Int} (hw : gm_wd t ≤ 8) (his : gm_is S b x.toNat) (hC : gm_rel ro d p [gA b, v1, v2, v3] S m Q) (k : ∀ r m', Q r m' → K (i + 1) ls (gm_ps r t) S m') : gm_step (gm_sem MT ro d) ro (.invokevirtual n) p 4 x ts i ls (v3 :: v2 :: v1 :: gA b :: t) S m K R := by obtain ⟨r, m', h1, h2⟩ := hC; exact gm_vt4 hw his h1 (k r m' h2)
theorem gm_rv5 {v1 v2 v3 v4 : gm_V} {b : Int} (hw : gm_wd t ≤ 8) (his : gm_is S b x.toNat) (hC : gm_rel ro d p [gA b, v1, v2, v3, v4] S m Q) (k : ∀ r m', Q r m' → K (i + 1) ls (gm_ps r t) S m') : gm_step (gm_sem MT ro d) ro (.invokevirtual n) p 5 x ts i ls (v4 :: v3 :: v2 :: v1 :: gA b :: t) S m K R := by obtain ⟨r, m', h1, h2⟩ := hC; exact gm_vt5 hw his h1 (k r m' h2)
end IDR
