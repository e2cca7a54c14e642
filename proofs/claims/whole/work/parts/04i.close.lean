section GM7
variable {p : Program} {l : Launch} {e : Env} {Rm : Room} {s : State} {mm : MethodId} {args : Array Value} {below : List Frame} {meth : Method} {c : Code} {Q : State → Prop} {D : va_G} {ci : gm_ids} {A : Nat → Prop} {ad : Nat → Nat} {S0 S' : List gm_S} {as0 : List Nat} {Fn : Prop} {nL : Nat} {code : List gm_O} {cc : ByteArray} {own : String} {ro : Nat → Nat × (Int → Int)} {ini : Bool}
variable {C : gm_C} {R : gm_R} {MT : Nat → Option gm_Me} {np : List Nat} {pl : gm_P} {cp lp : gm_Q} {fr lo ownN : Nat} {ret : Option FieldType}
set_option maxHeartbeats 4000000 in
/-- every step -/
theorem gm_close (All : gm_All MT np pl cp lp) (HS : gm_Snd MT l D ci A ad ro C fr lo) (HF : (∃ k a S m r S1 m1, C k a S m r S1 m1) → fr + 1 ≤ Rm.frames ∧ lo + 42 ≤ Rm.locals) (HR : S'.length - S0.length ≤ Rm.cells ∧ gm_sz S' - gm_sz S0 ≤ Rm.slots) (HC : ∀ S m S1 m1, C 999 [] S m none S1 m1 → 1 ≤ Rm.frames ∧ 26 ≤ Rm.locals) (HRO : ∀ r, r < 3 → (∀ j, gm_i ((ro r).2 j)) ∧ (ro r).1 < 2147483648)
    (hck : gm_ck pl cp lp np ownN nL ret ini cc code) (hon : gm_cn[ownN]? = some own)
    (HRET : ∀ i ins a0 b0 x0 ts ls st S m, (ins = .ireturn ∨ ins = .lreturn ∨ ins = .return_) → decode cc (gm_pc code i) = .ok (ins, 1) → gm_chk pl cp lp np ownN nL ret ini code i ins a0 b0 x0 ts = true → gm_step C ro ins a0 b0 x0 ts i ls st S m (gm_X p l e Rm s mm args below meth c Q D ci A ad S0 S' as0 Fn nL code cc own ro ini) R → gm_X p l e Rm s mm args below meth c Q D ci A ad S0 S' as0 Fn nL code cc own ro ini i ls st S m) :
    ∀ i ls st S m, gm_at C ro code i ls st S m (gm_X p l e Rm s mm args below meth c Q D ci A ad S0 S' as0 Fn nL code cc own ro ini) R → gm_X p l e Rm s mm args below meth c Q D ci A ad S0 S' as0 Fn nL code cc own ro ini i ls st S m := by
  intro i ls st S m h
  unfold gm_at at h
  split at h
  · rename_i o ho
    obtain ⟨hb, pc, ins, a0, b0, x0, ts⟩ := o
    obtain ⟨hd, hk⟩ := hck i _ _ _ _ _ _ _ ho
    have hpc : gm_pc code i = pc := by unfold gm_pc; rw [ho]
    rw [← hpc] at hd
    dsimp only at h
    cases ins with
    | iload k => simp only [gm_chk, Bool.and_eq_true, decide_eq_true_eq] at hk; exact gm_c_iload (Nat.eq_of_beq_eq_true hk.1) hd hk.2 h
    | lload k => simp only [gm_chk, Bool.and_eq_true, decide_eq_true_eq] at hk; exact gm_c_lload (Nat.eq_of_beq_eq_true hk.1) hd hk.2 h
    | aload k => simp only [gm_chk, Bool.and_eq_true, decide_eq_true_eq] at hk; exact gm_c_aload (Nat.eq_of_beq_eq_true hk.1) hd hk.2 h
    | iload_n k => simp only [gm_chk, Bool.and_eq_true, decide_eq_true_eq] at hk; exact gm_c_iload_n (Nat.eq_of_beq_eq_true hk.1) hd hk.2 h
    | lload_n k => simp only [gm_chk, Bool.and_eq_true, decide_eq_true_eq] at hk; exact gm_c_lload_n (Nat.eq_of_beq_eq_true hk.1) hd hk.2 h
    | aload_n k => simp only [gm_chk, Bool.and_eq_true, decide_eq_true_eq] at hk; exact gm_c_aload_n (Nat.eq_of_beq_eq_true hk.1) hd hk.2 h
    | istore k => simp only [gm_chk, Bool.and_eq_true, decide_eq_true_eq] at hk; exact gm_c_istore (Nat.eq_of_beq_eq_true hk.1) hk.2.1 hd hk.2.2 h
    | lstore k => simp only [gm_chk, Bool.and_eq_true, decide_eq_true_eq] at hk; exact gm_c_lstore (Nat.eq_of_beq_eq_true hk.1) hk.2.1 hd hk.2.2 h
    | astore k => simp only [gm_chk, Bool.and_eq_true, decide_eq_true_eq] at hk; exact gm_c_astore (Nat.eq_of_beq_eq_true hk.1) hk.2.1 hd hk.2.2 h
    | istore_n k => simp only [gm_chk, Bool.and_eq_true, decide_eq_true_eq] at hk; exact gm_c_istore_n (Nat.eq_of_beq_eq_true hk.1) hk.2.1 hd hk.2.2 h
    | lstore_n k => simp only [gm_chk, Bool.and_eq_true, decide_eq_true_eq] at hk; exact gm_c_lstore_n (Nat.eq_of_beq_eq_true hk.1) hk.2.1 hd hk.2.2 h
    | astore_n k => simp only [gm_chk, Bool.and_eq_true, decide_eq_true_eq] at hk; exact gm_c_astore_n (Nat.eq_of_beq_eq_true hk.1) hk.2.1 hd hk.2.2 h
    | iconst n => simp only [gm_chk, Bool.and_eq_true, decide_eq_true_eq] at hk; exact gm_c_iconst hk.1 hk.2.1 hd hk.2.2 h
    | bipush n => simp only [gm_chk, Bool.and_eq_true, decide_eq_true_eq] at hk; exact gm_c_bipush hk.1 hk.2.1 hd hk.2.2 h
    | sipush n => simp only [gm_chk, Bool.and_eq_true, decide_eq_true_eq] at hk; exact gm_c_sipush hk.1 hk.2.1 hd hk.2.2 h
    | lconst n => simp only [gm_chk, Bool.and_eq_true, decide_eq_true_eq] at hk; exact gm_c_lconst hk.1 hk.2.1 hd hk.2.2 h
    | ldc n => simp only [gm_chk, Bool.and_eq_true, decide_eq_true_eq] at hk; obtain ⟨on, e1, e2⟩ := All.2.2.1 _ (List.mem_of_elem_eq_true hk.1); cases hon.symm.trans e1; exact gm_c_ldc e2 hk.2.1 hd hk.2.2 h
    | ldc_w n => simp only [gm_chk, Bool.and_eq_true, decide_eq_true_eq] at hk; obtain ⟨on, e1, e2⟩ := All.2.2.1 _ (List.mem_of_elem_eq_true hk.1); cases hon.symm.trans e1; exact gm_c_ldc_w e2 hk.2.1 hd hk.2.2 h
    | ldc2_w n => simp only [gm_chk, Bool.and_eq_true, decide_eq_true_eq] at hk; obtain ⟨on, e1, e2⟩ := All.2.2.2.1 _ (List.mem_of_elem_eq_true hk.1); cases hon.symm.trans e1; exact gm_c_ldc2_w e2 hk.2.1 hd hk.2.2 h
    | iinc k n => simp only [gm_chk, Bool.and_eq_true, decide_eq_true_eq] at hk; exact gm_c_iinc (Nat.eq_of_beq_eq_true hk.1) hk.2.1 hk.2.2.1 hk.2.2.2.1 hd hk.2.2.2.2 h
    | goto off => exact gm_c_goto hd hk h
    | ifCond c0 off => simp only [gm_chk, Bool.and_eq_true, decide_eq_true_eq] at hk; exact gm_c_ifCond hd hk.1 hk.2 h
    | if_icmp c0 off => simp only [gm_chk, Bool.and_eq_true, decide_eq_true_eq] at hk; exact gm_c_if_icmp hd hk.1 hk.2 h
    | tableswitch d lo hi offs => have hk := hk; unfold gm_chk at hk; rw [Bool.and_eq_true, Bool.and_eq_true, Bool.and_eq_true, decide_eq_true_eq, decide_eq_true_eq] at hk; exact gm_c_tableswitch hd hk.1 hk.2.1 hk.2.2.1 hk.2.2.2 h
    | lookupswitch d ps => have hk := hk; unfold gm_chk at hk; rw [Bool.and_eq_true, Bool.and_eq_true, Bool.and_eq_true, decide_eq_true_eq] at hk; exact gm_c_lookupswitch hd hk.1 hk.2.1 hk.2.2.1 hk.2.2.2 h
    | getfield n => simp only [gm_chk, Bool.and_eq_true, decide_eq_true_eq] at hk; obtain ⟨on, e1, r, e2, e3, e4⟩ := All.2.1 _ (List.mem_of_elem_eq_true hk.1); cases hon.symm.trans e1; exact gm_c_getfield All.1 e2 e3 e4 hk.2.1 (eq_of_beq hk.2.2.1) hd hk.2.2.2 h
    | putfield n => 
      simp only [gm_chk, Bool.and_eq_true, Bool.or_eq_true, decide_eq_true_eq] at hk
      obtain ⟨on, e1, r, e2, e3, e4⟩ := All.2.1 _ (List.mem_of_elem_eq_true hk.1)
      cases hon.symm.trans e1
      refine gm_c_putfield All.1 e2 e3 e4 hk.2.1 (eq_of_beq hk.2.2.1) ?_ hd hk.2.2.2.2 h
      rcases hk.2.2.2.1 with q | q
      · left; simpa using q
      · right
        refine ⟨q.1, ?_⟩
        have q2 : a0 = ownN := Nat.eq_of_beq_eq_true q.2
        subst q2
        exact Option.some.inj (hon.symm.trans (All.1 _ _ e2).1)
    | getstatic n => simp only [gm_chk, Bool.and_eq_true, decide_eq_true_eq] at hk; obtain ⟨on, e1, e2⟩ := All.2.1 _ (List.mem_of_elem_eq_true hk.1); cases hon.symm.trans e1; exact gm_c_getstatic e2 hd hk.2 h
    | aaload => simp only [gm_chk, Bool.and_eq_true, Bool.or_eq_true] at hk; exact gm_c_aaload (hk.1.imp Nat.eq_of_beq_eq_true Nat.eq_of_beq_eq_true) hd hk.2 h
    | aastore => simp only [gm_chk, Bool.and_eq_true, Bool.or_eq_true] at hk; exact gm_c_aastore (hk.1.imp (fun z => ⟨Nat.eq_of_beq_eq_true z.1, Nat.eq_of_beq_eq_true z.2⟩) (fun z => ⟨Nat.eq_of_beq_eq_true z.1, Nat.eq_of_beq_eq_true z.2⟩)) hd hk.2 h
    | new n => simp only [gm_chk, Bool.and_eq_true, decide_eq_true_eq] at hk; obtain ⟨on, e1, r, e2, e3, e4⟩ := All.2.1 _ (List.mem_of_elem_eq_true hk.1); cases hon.symm.trans e1; exact gm_c_new HR All.1 e2 e3 e4 hd hk.2 h
    | newarray t => simp only [gm_chk, Bool.and_eq_true, Bool.or_eq_true, decide_eq_true_eq] at hk; exact gm_c_newarray HR (hk.1.imp (fun z => ⟨z.1, Nat.eq_of_beq_eq_true z.2⟩) (fun z => ⟨z.1, Nat.eq_of_beq_eq_true z.2⟩)) All.2.2.2.2.2.1 All.2.2.2.2.2.2 hd hk.2 h
    | anewarray n => simp only [gm_chk, Bool.and_eq_true, decide_eq_true_eq] at hk; obtain ⟨on, e1, e2⟩ := All.2.1 _ (List.mem_of_elem_eq_true hk.1); cases hon.symm.trans e1; exact gm_c_anewarray HR e2 hd hk.2 h
    | invokevirtual n => simp only [gm_chk, Bool.and_eq_true, decide_eq_true_eq] at hk; obtain ⟨on, e1, r, M, e2, e3, e4, e5, e6, e7⟩ := All.2.1 _ (List.mem_of_elem_eq_true hk.1); cases hon.symm.trans e1; exact gm_c_invokevirtual HS (HF (by obtain ⟨-, -, -, r1, S1, m1, hC, -⟩ := h; exact ⟨_, _, _, _, _, _, _, hC⟩)) HR e2 e3 e4 e5 e6 e7 (All.2.2.2.2.1 _ _ e3) hk.2.1 hk.2.2.1 hd hk.2.2.2 h
    | invokestatic n => 
      simp only [gm_chk, Bool.and_eq_true] at hk
      by_cases h8 : a0 = 998
      · have hk2 := hk.2
        rw [if_pos h8] at hk2
        obtain ⟨on, e1, e2, e3, e4, e5⟩ := All.2.1 _ (List.mem_of_elem_eq_true hk2)
        cases hon.symm.trans e1
        exact gm_c_copy HC h8 e2 e3 e4 e5 hd hk.1 h
      by_cases h7 : a0 = 997
      · have hk2 := hk.2
        rw [if_neg h8, if_pos h7] at hk2
        obtain ⟨on, e1, e2, e3, e4, e5⟩ := All.2.1 _ (List.mem_of_elem_eq_true hk2)
        cases hon.symm.trans e1
        exact gm_c_max HR HC h7 e2 e3 e4 e5 hd hk.1 h
      by_cases h6 : a0 = 996
      · have hk2 := hk.2
        rw [if_neg h8, if_neg h7, if_pos h6] at hk2
        obtain ⟨on, e1, e2, e3, e4, e5⟩ := All.2.1 _ (List.mem_of_elem_eq_true hk2)
        cases hon.symm.trans e1
        exact gm_c_min HR HC h6 e2 e3 e4 e5 hd hk.1 h
      · have hk2 := hk.2
        rw [if_neg h8, if_neg h7, if_neg h6, Bool.and_eq_true, decide_eq_true_eq] at hk2
        obtain ⟨on, e1, M, e2, e3, e4⟩ := All.2.1 _ (List.mem_of_elem_eq_true hk2.1)
        cases hon.symm.trans e1
        have hex : ∃ k a S m r S1 m1, C k a S m r S1 m1 := by
          have h' := h
          simp only [gm_step] at h'
          obtain ⟨-, -, r1, S1, m1, hC, -⟩ := h'
          exact ⟨_, _, _, _, _, _, _, hC⟩
        exact gm_c_invokestatic HS (HF hex) HR h8 h7 h6 e2 e3 e4 (All.2.2.2.2.1 _ _ e2) hk2.2 hd hk.1 h
    | invokespecial n => 
      simp only [gm_chk, Bool.and_eq_true] at hk
      by_cases h8 : a0 = 999
      · have hk2 := hk.2
        rw [if_pos h8] at hk2
        obtain ⟨on, e1, e2, e3, e4⟩ := All.2.1 _ (List.mem_of_elem_eq_true hk2)
        cases hon.symm.trans e1
        exact gm_c_objInit HC h8 e2 e3 e4 hd hk.1 h
      · have hk2 := hk.2
        rw [if_neg h8, Bool.and_eq_true, Bool.or_eq_true, Bool.and_eq_true, decide_eq_true_eq, decide_eq_true_eq] at hk2
        have hex : ∃ k a S m r S1 m1, C k a S m r S1 m1 := by
          have h' := h
          simp only [gm_step] at h'
          obtain ⟨-, -, -, r1, S1, m1, hC, -⟩ := h'
          exact ⟨_, _, _, _, _, _, _, hC⟩
        rcases hk2.1 with q | q
        · obtain ⟨on, e1, r, M, e2, e3, e4, e5, e6, e7, e8⟩ := All.2.1 _ (List.mem_of_elem_eq_true q)
          cases hon.symm.trans e1
          exact gm_c_invokespecial HS (HF hex) HR h8 e3 e5 e6 (Or.inl e7) e8 (All.2.2.2.2.1 _ _ e3) hk2.2.1 hk2.2.2 hd hk.1 h
        · obtain ⟨on, e1, r, M, ho, e2, e3, e4, e5, e6, e7, e8⟩ := All.2.1 _ (List.mem_of_elem_eq_true q)
          cases hon.symm.trans e1
          exact gm_c_invokespecial HS (HF hex) HR h8 e3 e5 e6 (Or.inr ⟨ho, e7⟩) e8 (All.2.2.2.2.1 _ _ e3) hk2.2.1 hk2.2.2 hd hk.1 h
    | iadd => exact gm_c_iadd hd hk h
    | isub => exact gm_c_isub hd hk h
    | imul => exact gm_c_imul hd hk h
    | idiv => exact gm_c_idiv hd hk h
    | irem => exact gm_c_irem hd hk h
    | iand => exact gm_c_iand hd hk h
    | ior => exact gm_c_ior hd hk h
    | ixor => exact gm_c_ixor hd hk h
    | ishl => exact gm_c_ishl hd hk h
    | ishr => exact gm_c_ishr hd hk h
    | iushr => exact gm_c_iushr hd hk h
    | ladd => exact gm_c_ladd hd hk h
    | lmul => exact gm_c_lmul hd hk h
    | ldiv => exact gm_c_ldiv hd hk h
    | lrem => exact gm_c_lrem hd hk h
    | lcmp => exact gm_c_lcmp hd hk h
    | i2l => exact gm_c_i2l hd hk h
    | l2i => exact gm_c_l2i hd hk h
    | dup => exact gm_c_dup hd hk h
    | dup2 => exact gm_c_dup2 hd hk h
    | pop => exact gm_c_pop hd hk h
    | iastore => exact gm_c_iastore hd hk h
    | bastore => exact gm_c_bastore hd hk h
    | iaload => exact gm_c_iaload HRO hd hk h
    | baload => exact gm_c_baload HRO hd hk h
    | arraylength => exact gm_c_arraylength HRO hd hk h
    | ireturn => exact HRET i _ _ _ _ _ _ _ _ _ (Or.inl rfl) hd hk h
    | lreturn => exact HRET i _ _ _ _ _ _ _ _ _ (Or.inr (Or.inl rfl)) hd hk h
    | return_ => exact HRET i _ _ _ _ _ _ _ _ _ (Or.inr (Or.inr rfl)) hd hk h
    | _ => exact h.elim
  · exact h.elim
end GM7
