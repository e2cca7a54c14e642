section GM2
variable {p : Program} {l : Launch} {e : Env} {Rm : Room} {s : State} {mm : MethodId} {args : Array Value} {below : List Frame} {meth : Method} {c : Code} {Q : State → Prop} {D : va_G} {ci : gm_ids} {A : Nat → Prop} {ad : Nat → Nat} {S0 S' : List gm_S} {as0 : List Nat} {Fn : Prop} {nL : Nat} {code : List gm_O} {cc : ByteArray} {own : String} {ro : Nat → Nat × (Int → Int)} {ini : Bool}
variable {C : gm_C} {R : gm_R} {i a0 b0 : Nat} {x0 : Int} {ts : List (Int × Nat)} {ls st : List gm_V} {S : List gm_S} {m : gm_M}
theorem gm_c_iadd (hd : decode cc (gm_pc code i) = .ok (.iadd, 1)) (hn : gm_nx code i 1 = true) (h : gm_step C ro .iadd a0 b0 x0 ts i ls st S m (gm_X p l e Rm s mm args below meth c Q D ci A ad S0 S' as0 Fn nL code cc own ro ini) R) : gm_X p l e Rm s mm args below meth c Q D ci A ad S0 S' as0 Fn nL code cc own ro ini i ls st S m := by
  simp only [gm_step] at h
  split at h
  · rename_i b a t
    refine gm_pure h (fun I hl => ⟨I.1, fun v hv => ?_, hl⟩) (fun E I as arr H locs cells slots hloc hS hP k => ?_)
    · rcases List.mem_cons.mp hv with rfl | hv
      · exact gm_i_w _
      · exact I.2.1 v (List.mem_cons_of_mem _ (List.mem_cons_of_mem _ hv))
    · have hb : gm_i b := I.2.1 (gI b) List.mem_cons_self
      have ha : gm_i a := I.2.1 (gI a) (List.mem_cons_of_mem _ List.mem_cons_self)
      have k := k arr hloc
      simp only [List.map_cons, gm_cv] at k ⊢
      rw [gm_nx_eq hn] at k
      refine lv_iadd E.1 E.2.1 hd ?_
      rw [oi_add ha hb]
      exact k
  · exact h.elim
theorem gm_c_isub (hd : decode cc (gm_pc code i) = .ok (.isub, 1)) (hn : gm_nx code i 1 = true) (h : gm_step C ro .isub a0 b0 x0 ts i ls st S m (gm_X p l e Rm s mm args below meth c Q D ci A ad S0 S' as0 Fn nL code cc own ro ini) R) : gm_X p l e Rm s mm args below meth c Q D ci A ad S0 S' as0 Fn nL code cc own ro ini i ls st S m := by
  simp only [gm_step] at h
  split at h
  · rename_i b a t
    refine gm_pure h (fun I hl => ⟨I.1, fun v hv => ?_, hl⟩) (fun E I as arr H locs cells slots hloc hS hP k => ?_)
    · rcases List.mem_cons.mp hv with rfl | hv
      · exact gm_i_w _
      · exact I.2.1 v (List.mem_cons_of_mem _ (List.mem_cons_of_mem _ hv))
    · have hb : gm_i b := I.2.1 (gI b) List.mem_cons_self
      have ha : gm_i a := I.2.1 (gI a) (List.mem_cons_of_mem _ List.mem_cons_self)
      have k := k arr hloc
      simp only [List.map_cons, gm_cv] at k ⊢
      rw [gm_nx_eq hn] at k
      refine lv_isub E.1 E.2.1 hd ?_
      rw [oi_sub ha hb]
      exact k
  · exact h.elim
theorem gm_c_imul (hd : decode cc (gm_pc code i) = .ok (.imul, 1)) (hn : gm_nx code i 1 = true) (h : gm_step C ro .imul a0 b0 x0 ts i ls st S m (gm_X p l e Rm s mm args below meth c Q D ci A ad S0 S' as0 Fn nL code cc own ro ini) R) : gm_X p l e Rm s mm args below meth c Q D ci A ad S0 S' as0 Fn nL code cc own ro ini i ls st S m := by
  simp only [gm_step] at h
  split at h
  · rename_i b a t
    refine gm_pure h (fun I hl => ⟨I.1, fun v hv => ?_, hl⟩) (fun E I as arr H locs cells slots hloc hS hP k => ?_)
    · rcases List.mem_cons.mp hv with rfl | hv
      · exact gm_i_w _
      · exact I.2.1 v (List.mem_cons_of_mem _ (List.mem_cons_of_mem _ hv))
    · have hb : gm_i b := I.2.1 (gI b) List.mem_cons_self
      have ha : gm_i a := I.2.1 (gI a) (List.mem_cons_of_mem _ List.mem_cons_self)
      have k := k arr hloc
      simp only [List.map_cons, gm_cv] at k ⊢
      rw [gm_nx_eq hn] at k
      refine lv_imul E.1 E.2.1 hd ?_
      rw [oi_mul ha hb]
      exact k
  · exact h.elim
theorem gm_c_iand (hd : decode cc (gm_pc code i) = .ok (.iand, 1)) (hn : gm_nx code i 1 = true) (h : gm_step C ro .iand a0 b0 x0 ts i ls st S m (gm_X p l e Rm s mm args below meth c Q D ci A ad S0 S' as0 Fn nL code cc own ro ini) R) : gm_X p l e Rm s mm args below meth c Q D ci A ad S0 S' as0 Fn nL code cc own ro ini i ls st S m := by
  simp only [gm_step] at h
  split at h
  · rename_i b a t
    refine gm_pure h (fun I hl => ⟨I.1, fun v hv => ?_, hl⟩) (fun E I as arr H locs cells slots hloc hS hP k => ?_)
    · rcases List.mem_cons.mp hv with rfl | hv
      · exact gm_i_sh _ _ _
      · exact I.2.1 v (List.mem_cons_of_mem _ (List.mem_cons_of_mem _ hv))
    · have hb : gm_i b := I.2.1 (gI b) List.mem_cons_self
      have ha : gm_i a := I.2.1 (gI a) (List.mem_cons_of_mem _ List.mem_cons_self)
      have k := k arr hloc
      simp only [List.map_cons, gm_cv] at k ⊢
      rw [gm_nx_eq hn] at k
      refine lv_iand E.1 E.2.1 hd ?_
      rw [oi_sh (fun x y => x &&& y)]
      exact k
  · exact h.elim
theorem gm_c_ior (hd : decode cc (gm_pc code i) = .ok (.ior, 1)) (hn : gm_nx code i 1 = true) (h : gm_step C ro .ior a0 b0 x0 ts i ls st S m (gm_X p l e Rm s mm args below meth c Q D ci A ad S0 S' as0 Fn nL code cc own ro ini) R) : gm_X p l e Rm s mm args below meth c Q D ci A ad S0 S' as0 Fn nL code cc own ro ini i ls st S m := by
  simp only [gm_step] at h
  split at h
  · rename_i b a t
    refine gm_pure h (fun I hl => ⟨I.1, fun v hv => ?_, hl⟩) (fun E I as arr H locs cells slots hloc hS hP k => ?_)
    · rcases List.mem_cons.mp hv with rfl | hv
      · exact gm_i_sh _ _ _
      · exact I.2.1 v (List.mem_cons_of_mem _ (List.mem_cons_of_mem _ hv))
    · have hb : gm_i b := I.2.1 (gI b) List.mem_cons_self
      have ha : gm_i a := I.2.1 (gI a) (List.mem_cons_of_mem _ List.mem_cons_self)
      have k := k arr hloc
      simp only [List.map_cons, gm_cv] at k ⊢
      rw [gm_nx_eq hn] at k
      refine lv_ior E.1 E.2.1 hd ?_
      rw [oi_sh (fun x y => x ||| y)]
      exact k
  · exact h.elim
theorem gm_c_ixor (hd : decode cc (gm_pc code i) = .ok (.ixor, 1)) (hn : gm_nx code i 1 = true) (h : gm_step C ro .ixor a0 b0 x0 ts i ls st S m (gm_X p l e Rm s mm args below meth c Q D ci A ad S0 S' as0 Fn nL code cc own ro ini) R) : gm_X p l e Rm s mm args below meth c Q D ci A ad S0 S' as0 Fn nL code cc own ro ini i ls st S m := by
  simp only [gm_step] at h
  split at h
  · rename_i b a t
    refine gm_pure h (fun I hl => ⟨I.1, fun v hv => ?_, hl⟩) (fun E I as arr H locs cells slots hloc hS hP k => ?_)
    · rcases List.mem_cons.mp hv with rfl | hv
      · exact gm_i_sh _ _ _
      · exact I.2.1 v (List.mem_cons_of_mem _ (List.mem_cons_of_mem _ hv))
    · have hb : gm_i b := I.2.1 (gI b) List.mem_cons_self
      have ha : gm_i a := I.2.1 (gI a) (List.mem_cons_of_mem _ List.mem_cons_self)
      have k := k arr hloc
      simp only [List.map_cons, gm_cv] at k ⊢
      rw [gm_nx_eq hn] at k
      refine lv_ixor E.1 E.2.1 hd ?_
      rw [oi_sh (fun x y => x ^^^ y)]
      exact k
  · exact h.elim
theorem gm_c_ishl (hd : decode cc (gm_pc code i) = .ok (.ishl, 1)) (hn : gm_nx code i 1 = true) (h : gm_step C ro .ishl a0 b0 x0 ts i ls st S m (gm_X p l e Rm s mm args below meth c Q D ci A ad S0 S' as0 Fn nL code cc own ro ini) R) : gm_X p l e Rm s mm args below meth c Q D ci A ad S0 S' as0 Fn nL code cc own ro ini i ls st S m := by
  simp only [gm_step] at h
  split at h
  · rename_i b a t
    refine gm_pure h (fun I hl => ⟨I.1, fun v hv => ?_, hl⟩) (fun E I as arr H locs cells slots hloc hS hP k => ?_)
    · rcases List.mem_cons.mp hv with rfl | hv
      · exact gm_i_sh _ _ _
      · exact I.2.1 v (List.mem_cons_of_mem _ (List.mem_cons_of_mem _ hv))
    · have hb : gm_i b := I.2.1 (gI b) List.mem_cons_self
      have ha : gm_i a := I.2.1 (gI a) (List.mem_cons_of_mem _ List.mem_cons_self)
      have k := k arr hloc
      simp only [List.map_cons, gm_cv] at k ⊢
      rw [gm_nx_eq hn] at k
      refine lv_ishl E.1 E.2.1 hd ?_
      rw [oi_sh (fun x y => x <<< (y &&& 31))]
      exact k
  · exact h.elim
theorem gm_c_ishr (hd : decode cc (gm_pc code i) = .ok (.ishr, 1)) (hn : gm_nx code i 1 = true) (h : gm_step C ro .ishr a0 b0 x0 ts i ls st S m (gm_X p l e Rm s mm args below meth c Q D ci A ad S0 S' as0 Fn nL code cc own ro ini) R) : gm_X p l e Rm s mm args below meth c Q D ci A ad S0 S' as0 Fn nL code cc own ro ini i ls st S m := by
  simp only [gm_step] at h
  split at h
  · rename_i b a t
    refine gm_pure h (fun I hl => ⟨I.1, fun v hv => ?_, hl⟩) (fun E I as arr H locs cells slots hloc hS hP k => ?_)
    · rcases List.mem_cons.mp hv with rfl | hv
      · exact gm_i_sh _ _ _
      · exact I.2.1 v (List.mem_cons_of_mem _ (List.mem_cons_of_mem _ hv))
    · have hb : gm_i b := I.2.1 (gI b) List.mem_cons_self
      have ha : gm_i a := I.2.1 (gI a) (List.mem_cons_of_mem _ List.mem_cons_self)
      have k := k arr hloc
      simp only [List.map_cons, gm_cv] at k ⊢
      rw [gm_nx_eq hn] at k
      refine lv_ishr E.1 E.2.1 hd ?_
      rw [oi_sh (fun x y => x >>> (y &&& 31))]
      exact k
  · exact h.elim
theorem gm_c_iushr (hd : decode cc (gm_pc code i) = .ok (.iushr, 1)) (hn : gm_nx code i 1 = true) (h : gm_step C ro .iushr a0 b0 x0 ts i ls st S m (gm_X p l e Rm s mm args below meth c Q D ci A ad S0 S' as0 Fn nL code cc own ro ini) R) : gm_X p l e Rm s mm args below meth c Q D ci A ad S0 S' as0 Fn nL code cc own ro ini i ls st S m := by
  simp only [gm_step] at h
  split at h
  · rename_i b a t
    refine gm_pure h (fun I hl => ⟨I.1, fun v hv => ?_, hl⟩) (fun E I as arr H locs cells slots hloc hS hP k => ?_)
    · rcases List.mem_cons.mp hv with rfl | hv
      · exact gm_i_sh _ _ _
      · exact I.2.1 v (List.mem_cons_of_mem _ (List.mem_cons_of_mem _ hv))
    · have k := k arr hloc
      simp only [List.map_cons, gm_cv] at k ⊢
      rw [gm_nx_eq hn] at k
      exact lv_iushr E.1 E.2.1 hd (oi_sh (fun x y => (x.toUInt32 >>> (y.toUInt32 &&& Int32.toUInt32 31)).toInt32) a b) k
  · exact h.elim
theorem gm_c_idiv (hd : decode cc (gm_pc code i) = .ok (.idiv, 1)) (hn : gm_nx code i 1 = true) (h : gm_step C ro .idiv a0 b0 x0 ts i ls st S m (gm_X p l e Rm s mm args below meth c Q D ci A ad S0 S' as0 Fn nL code cc own ro ini) R) : gm_X p l e Rm s mm args below meth c Q D ci A ad S0 S' as0 Fn nL code cc own ro ini i ls st S m := by
  simp only [gm_step] at h
  split at h
  · rename_i b a t
    refine gm_pure h.2 (fun I hl => ⟨I.1, fun v hv => ?_, hl⟩) (fun E I as arr H locs cells slots hloc hS hP k => ?_)
    · have hb : gm_i b := I.2.1 (gI b) List.mem_cons_self
      have ha : gm_i a := I.2.1 (gI a) (List.mem_cons_of_mem _ List.mem_cons_self)
      rcases List.mem_cons.mp hv with rfl | hv
      · exact gm_i_w _
      · exact I.2.1 v (List.mem_cons_of_mem _ (List.mem_cons_of_mem _ hv))
    · have hb : gm_i b := I.2.1 (gI b) List.mem_cons_self
      have ha : gm_i a := I.2.1 (gI a) (List.mem_cons_of_mem _ List.mem_cons_self)
      have k := k arr hloc
      simp only [List.map_cons, gm_cv] at k ⊢
      rw [gm_nx_eq hn] at k
      refine lv_idiv E.1 E.2.1 hd (fun z => h.1 ((oi_inj hb gm_i_0).mp z)) ?_
      rw [oi_div ha hb]
      exact k
  · exact h.elim
theorem gm_c_irem (hd : decode cc (gm_pc code i) = .ok (.irem, 1)) (hn : gm_nx code i 1 = true) (h : gm_step C ro .irem a0 b0 x0 ts i ls st S m (gm_X p l e Rm s mm args below meth c Q D ci A ad S0 S' as0 Fn nL code cc own ro ini) R) : gm_X p l e Rm s mm args below meth c Q D ci A ad S0 S' as0 Fn nL code cc own ro ini i ls st S m := by
  simp only [gm_step] at h
  split at h
  · rename_i b a t
    refine gm_pure h.2 (fun I hl => ⟨I.1, fun v hv => ?_, hl⟩) (fun E I as arr H locs cells slots hloc hS hP k => ?_)
    · have hb : gm_i b := I.2.1 (gI b) List.mem_cons_self
      have ha : gm_i a := I.2.1 (gI a) (List.mem_cons_of_mem _ List.mem_cons_self)
      rcases List.mem_cons.mp hv with rfl | hv
      · exact gm_i_rem ha hb
      · exact I.2.1 v (List.mem_cons_of_mem _ (List.mem_cons_of_mem _ hv))
    · have hb : gm_i b := I.2.1 (gI b) List.mem_cons_self
      have ha : gm_i a := I.2.1 (gI a) (List.mem_cons_of_mem _ List.mem_cons_self)
      have k := k arr hloc
      simp only [List.map_cons, gm_cv] at k ⊢
      rw [gm_nx_eq hn] at k
      refine lv_irem E.1 E.2.1 hd (fun z => h.1 ((oi_inj hb gm_i_0).mp z)) ?_
      rw [oi_rem2 ha hb]
      exact k
  · exact h.elim
theorem gm_c_ladd (hd : decode cc (gm_pc code i) = .ok (.ladd, 1)) (hn : gm_nx code i 1 = true) (h : gm_step C ro .ladd a0 b0 x0 ts i ls st S m (gm_X p l e Rm s mm args below meth c Q D ci A ad S0 S' as0 Fn nL code cc own ro ini) R) : gm_X p l e Rm s mm args below meth c Q D ci A ad S0 S' as0 Fn nL code cc own ro ini i ls st S m := by
  simp only [gm_step] at h
  split at h
  · rename_i b a t
    refine gm_pure h (fun I hl => ⟨I.1, fun v hv => ?_, hl⟩) (fun E I as arr H locs cells slots hloc hS hP k => ?_)
    · have hb : gm_l b := I.2.1 (gL b) List.mem_cons_self
      have ha : gm_l a := I.2.1 (gL a) (List.mem_cons_of_mem _ List.mem_cons_self)
      rcases List.mem_cons.mp hv with rfl | hv
      · exact gm_l_w _
      · exact I.2.1 v (List.mem_cons_of_mem _ (List.mem_cons_of_mem _ hv))
    · have hb : gm_l b := I.2.1 (gL b) List.mem_cons_self
      have ha : gm_l a := I.2.1 (gL a) (List.mem_cons_of_mem _ List.mem_cons_self)
      have k := k arr hloc
      simp only [List.map_cons, gm_cv] at k ⊢
      rw [gm_nx_eq hn] at k
      refine lv_ladd E.1 E.2.1 hd  ?_
      rw [ol_add ha hb]
      exact k
  · exact h.elim
theorem gm_c_lmul (hd : decode cc (gm_pc code i) = .ok (.lmul, 1)) (hn : gm_nx code i 1 = true) (h : gm_step C ro .lmul a0 b0 x0 ts i ls st S m (gm_X p l e Rm s mm args below meth c Q D ci A ad S0 S' as0 Fn nL code cc own ro ini) R) : gm_X p l e Rm s mm args below meth c Q D ci A ad S0 S' as0 Fn nL code cc own ro ini i ls st S m := by
  simp only [gm_step] at h
  split at h
  · rename_i b a t
    refine gm_pure h (fun I hl => ⟨I.1, fun v hv => ?_, hl⟩) (fun E I as arr H locs cells slots hloc hS hP k => ?_)
    · have hb : gm_l b := I.2.1 (gL b) List.mem_cons_self
      have ha : gm_l a := I.2.1 (gL a) (List.mem_cons_of_mem _ List.mem_cons_self)
      rcases List.mem_cons.mp hv with rfl | hv
      · exact gm_l_w _
      · exact I.2.1 v (List.mem_cons_of_mem _ (List.mem_cons_of_mem _ hv))
    · have hb : gm_l b := I.2.1 (gL b) List.mem_cons_self
      have ha : gm_l a := I.2.1 (gL a) (List.mem_cons_of_mem _ List.mem_cons_self)
      have k := k arr hloc
      simp only [List.map_cons, gm_cv] at k ⊢
      rw [gm_nx_eq hn] at k
      refine lv_lmul E.1 E.2.1 hd  ?_
      rw [ol_mul ha hb]
      exact k
  · exact h.elim
theorem gm_c_ldiv (hd : decode cc (gm_pc code i) = .ok (.ldiv, 1)) (hn : gm_nx code i 1 = true) (h : gm_step C ro .ldiv a0 b0 x0 ts i ls st S m (gm_X p l e Rm s mm args below meth c Q D ci A ad S0 S' as0 Fn nL code cc own ro ini) R) : gm_X p l e Rm s mm args below meth c Q D ci A ad S0 S' as0 Fn nL code cc own ro ini i ls st S m := by
  simp only [gm_step] at h
  split at h
  · rename_i b a t
    refine gm_pure h.2 (fun I hl => ⟨I.1, fun v hv => ?_, hl⟩) (fun E I as arr H locs cells slots hloc hS hP k => ?_)
    · have hb : gm_l b := I.2.1 (gL b) List.mem_cons_self
      have ha : gm_l a := I.2.1 (gL a) (List.mem_cons_of_mem _ List.mem_cons_self)
      rcases List.mem_cons.mp hv with rfl | hv
      · exact gm_l_w _
      · exact I.2.1 v (List.mem_cons_of_mem _ (List.mem_cons_of_mem _ hv))
    · have hb : gm_l b := I.2.1 (gL b) List.mem_cons_self
      have ha : gm_l a := I.2.1 (gL a) (List.mem_cons_of_mem _ List.mem_cons_self)
      have k := k arr hloc
      simp only [List.map_cons, gm_cv] at k ⊢
      rw [gm_nx_eq hn] at k
      refine lv_ldiv E.1 E.2.1 hd (fun z => h.1 ((ol_0 hb).mp z)) ?_
      rw [ol_div ha hb]
      exact k
  · exact h.elim
theorem gm_c_lrem (hd : decode cc (gm_pc code i) = .ok (.lrem, 1)) (hn : gm_nx code i 1 = true) (h : gm_step C ro .lrem a0 b0 x0 ts i ls st S m (gm_X p l e Rm s mm args below meth c Q D ci A ad S0 S' as0 Fn nL code cc own ro ini) R) : gm_X p l e Rm s mm args below meth c Q D ci A ad S0 S' as0 Fn nL code cc own ro ini i ls st S m := by
  simp only [gm_step] at h
  split at h
  · rename_i b a t
    refine gm_pure h.2 (fun I hl => ⟨I.1, fun v hv => ?_, hl⟩) (fun E I as arr H locs cells slots hloc hS hP k => ?_)
    · have hb : gm_l b := I.2.1 (gL b) List.mem_cons_self
      have ha : gm_l a := I.2.1 (gL a) (List.mem_cons_of_mem _ List.mem_cons_self)
      rcases List.mem_cons.mp hv with rfl | hv
      · exact gm_l_rem ha hb
      · exact I.2.1 v (List.mem_cons_of_mem _ (List.mem_cons_of_mem _ hv))
    · have hb : gm_l b := I.2.1 (gL b) List.mem_cons_self
      have ha : gm_l a := I.2.1 (gL a) (List.mem_cons_of_mem _ List.mem_cons_self)
      have k := k arr hloc
      simp only [List.map_cons, gm_cv] at k ⊢
      rw [gm_nx_eq hn] at k
      refine lv_lrem E.1 E.2.1 hd (fun z => h.1 ((ol_0 hb).mp z)) ?_
      rw [ol_rem2 ha hb]
      exact k
  · exact h.elim
theorem gm_c_lcmp (hd : decode cc (gm_pc code i) = .ok (.lcmp, 1)) (hn : gm_nx code i 1 = true) (h : gm_step C ro .lcmp a0 b0 x0 ts i ls st S m (gm_X p l e Rm s mm args below meth c Q D ci A ad S0 S' as0 Fn nL code cc own ro ini) R) : gm_X p l e Rm s mm args below meth c Q D ci A ad S0 S' as0 Fn nL code cc own ro ini i ls st S m := by
  simp only [gm_step] at h
  split at h
  · rename_i b a t
    refine gm_pure h (fun I hl => ⟨I.1, fun v hv => ?_, hl⟩) (fun E I as arr H locs cells slots hloc hS hP k => ?_)
    · have hb : gm_l b := I.2.1 (gL b) List.mem_cons_self
      have ha : gm_l a := I.2.1 (gL a) (List.mem_cons_of_mem _ List.mem_cons_self)
      rcases List.mem_cons.mp hv with rfl | hv
      · exact gm_i_cmp _ _
      · exact I.2.1 v (List.mem_cons_of_mem _ (List.mem_cons_of_mem _ hv))
    · have hb : gm_l b := I.2.1 (gL b) List.mem_cons_self
      have ha : gm_l a := I.2.1 (gL a) (List.mem_cons_of_mem _ List.mem_cons_self)
      have k := k arr hloc
      simp only [List.map_cons, gm_cv] at k ⊢
      rw [gm_nx_eq hn] at k
      refine W.lcmp E.1 E.2.1 hd  ?_
      rw [ol_cmp ha hb]
      exact k
  · exact h.elim
theorem gm_c_i2l (hd : decode cc (gm_pc code i) = .ok (.i2l, 1)) (hn : gm_nx code i 1 = true) (h : gm_step C ro .i2l a0 b0 x0 ts i ls st S m (gm_X p l e Rm s mm args below meth c Q D ci A ad S0 S' as0 Fn nL code cc own ro ini) R) : gm_X p l e Rm s mm args below meth c Q D ci A ad S0 S' as0 Fn nL code cc own ro ini i ls st S m := by
  simp only [gm_step] at h
  split at h
  · rename_i a t
    refine gm_pure h (fun I hl => ⟨I.1, fun v hv => ?_, hl⟩) (fun E I as arr H locs cells slots hloc hS hP k => ?_)
    · rcases List.mem_cons.mp hv with rfl | hv
      · exact gm_l_i (I.2.1 (gI a) List.mem_cons_self)
      · exact I.2.1 v (List.mem_cons_of_mem _ hv)
    · have ha : gm_i a := I.2.1 (gI a) List.mem_cons_self
      have k := k arr hloc
      simp only [List.map_cons, gm_cv] at k ⊢
      rw [gm_nx_eq hn] at k
      exact lv_i2l E.1 E.2.1 hd (oi_i2l ha) k
  · exact h.elim
theorem gm_c_l2i (hd : decode cc (gm_pc code i) = .ok (.l2i, 1)) (hn : gm_nx code i 1 = true) (h : gm_step C ro .l2i a0 b0 x0 ts i ls st S m (gm_X p l e Rm s mm args below meth c Q D ci A ad S0 S' as0 Fn nL code cc own ro ini) R) : gm_X p l e Rm s mm args below meth c Q D ci A ad S0 S' as0 Fn nL code cc own ro ini i ls st S m := by
  simp only [gm_step] at h
  split at h
  · rename_i a t
    refine gm_pure h (fun I hl => ⟨I.1, fun v hv => ?_, hl⟩) (fun E I as arr H locs cells slots hloc hS hP k => ?_)
    · rcases List.mem_cons.mp hv with rfl | hv
      · exact gm_i_w _
      · exact I.2.1 v (List.mem_cons_of_mem _ hv)
    · have ha : gm_l a := I.2.1 (gL a) List.mem_cons_self
      have k := k arr hloc
      simp only [List.map_cons, gm_cv] at k ⊢
      rw [gm_nx_eq hn] at k
      exact lv_l2i E.1 E.2.1 hd (oi_l2i ha) k
  · exact h.elim
theorem gm_c_iload {k : Nat} (hk : k = a0) (hd : decode cc (gm_pc code i) = .ok (.iload k, 2)) (hn : gm_nx code i 2 = true) (h : gm_step C ro (.iload k) a0 b0 x0 ts i ls st S m (gm_X p l e Rm s mm args below meth c Q D ci A ad S0 S' as0 Fn nL code cc own ro ini) R) : gm_X p l e Rm s mm args below meth c Q D ci A ad S0 S' as0 Fn nL code cc own ro ini i ls st S m := by
  simp only [gm_step] at h
  split at h
  · rename_i v hv
    refine gm_pure h (fun I hl => ⟨I.1, fun w hw => ?_, hl⟩) (fun E I as arr H locs cells slots hloc hS hP kk => ?_)
    · rcases List.mem_cons.mp hw with rfl | hw
      · exact I.1 (gI v) (List.mem_of_getElem? hv)
      · exact I.2.1 w hw
    · have kk := kk arr hloc
      simp only [List.map_cons, gm_cv] at kk
      rw [gm_nx_eq hn] at kk
      exact lv_iload E.1 E.2.1 (hk ▸ hd) (hloc.2.2 _ _ hv) kk
  · exact h.elim
theorem gm_c_iload_n {k : Fin 4} (hk : (k : Nat) = a0) (hd : decode cc (gm_pc code i) = .ok (.iload_n k, 1)) (hn : gm_nx code i 1 = true) (h : gm_step C ro (.iload_n k) a0 b0 x0 ts i ls st S m (gm_X p l e Rm s mm args below meth c Q D ci A ad S0 S' as0 Fn nL code cc own ro ini) R) : gm_X p l e Rm s mm args below meth c Q D ci A ad S0 S' as0 Fn nL code cc own ro ini i ls st S m := by
  simp only [gm_step] at h
  split at h
  · rename_i v hv
    refine gm_pure h (fun I hl => ⟨I.1, fun w hw => ?_, hl⟩) (fun E I as arr H locs cells slots hloc hS hP kk => ?_)
    · rcases List.mem_cons.mp hw with rfl | hw
      · exact I.1 (gI v) (List.mem_of_getElem? hv)
      · exact I.2.1 w hw
    · have kk := kk arr hloc
      simp only [List.map_cons, gm_cv] at kk
      rw [gm_nx_eq hn] at kk
      exact lv_iload_n E.1 E.2.1 hd hk (hloc.2.2 _ _ hv) kk
  · exact h.elim
theorem gm_c_lload {k : Nat} (hk : k = a0) (hd : decode cc (gm_pc code i) = .ok (.lload k, 2)) (hn : gm_nx code i 2 = true) (h : gm_step C ro (.lload k) a0 b0 x0 ts i ls st S m (gm_X p l e Rm s mm args below meth c Q D ci A ad S0 S' as0 Fn nL code cc own ro ini) R) : gm_X p l e Rm s mm args below meth c Q D ci A ad S0 S' as0 Fn nL code cc own ro ini i ls st S m := by
  simp only [gm_step] at h
  split at h
  · rename_i v hv
    refine gm_pure h (fun I hl => ⟨I.1, fun w hw => ?_, hl⟩) (fun E I as arr H locs cells slots hloc hS hP kk => ?_)
    · rcases List.mem_cons.mp hw with rfl | hw
      · exact I.1 (gL v) (List.mem_of_getElem? hv)
      · exact I.2.1 w hw
    · have kk := kk arr hloc
      simp only [List.map_cons, gm_cv] at kk
      rw [gm_nx_eq hn] at kk
      exact lv_lload E.1 E.2.1 (hk ▸ hd) (hloc.2.2 _ _ hv) kk
  · exact h.elim
theorem gm_c_lload_n {k : Fin 4} (hk : (k : Nat) = a0) (hd : decode cc (gm_pc code i) = .ok (.lload_n k, 1)) (hn : gm_nx code i 1 = true) (h : gm_step C ro (.lload_n k) a0 b0 x0 ts i ls st S m (gm_X p l e Rm s mm args below meth c Q D ci A ad S0 S' as0 Fn nL code cc own ro ini) R) : gm_X p l e Rm s mm args below meth c Q D ci A ad S0 S' as0 Fn nL code cc own ro ini i ls st S m := by
  simp only [gm_step] at h
  split at h
  · rename_i v hv
    refine gm_pure h (fun I hl => ⟨I.1, fun w hw => ?_, hl⟩) (fun E I as arr H locs cells slots hloc hS hP kk => ?_)
    · rcases List.mem_cons.mp hw with rfl | hw
      · exact I.1 (gL v) (List.mem_of_getElem? hv)
      · exact I.2.1 w hw
    · have kk := kk arr hloc
      simp only [List.map_cons, gm_cv] at kk
      rw [gm_nx_eq hn] at kk
      exact lv_lload_n E.1 E.2.1 hd hk (hloc.2.2 _ _ hv) kk
  · exact h.elim
theorem gm_c_aload {k : Nat} (hk : k = a0) (hd : decode cc (gm_pc code i) = .ok (.aload k, 2)) (hn : gm_nx code i 2 = true) (h : gm_step C ro (.aload k) a0 b0 x0 ts i ls st S m (gm_X p l e Rm s mm args below meth c Q D ci A ad S0 S' as0 Fn nL code cc own ro ini) R) : gm_X p l e Rm s mm args below meth c Q D ci A ad S0 S' as0 Fn nL code cc own ro ini i ls st S m := by
  simp only [gm_step] at h
  split at h
  · rename_i v hv
    refine gm_pure h (fun I hl => ⟨I.1, fun w hw => ?_, hl⟩) (fun E I as arr H locs cells slots hloc hS hP kk => ?_)
    · rcases List.mem_cons.mp hw with rfl | hw
      · exact I.1 (gA v) (List.mem_of_getElem? hv)
      · exact I.2.1 w hw
    · have kk := kk arr hloc
      simp only [List.map_cons, gm_cv] at kk
      rw [gm_nx_eq hn] at kk
      exact lv_aload E.1 E.2.1 (hk ▸ hd) (hloc.2.2 _ _ hv) kk
  · rename_i v hv
    refine gm_pure h (fun I hl => ⟨I.1, fun w hw => ?_, hl⟩) (fun E I as arr H locs cells slots hloc hS hP kk => ?_)
    · rcases List.mem_cons.mp hw with rfl | hw
      · exact I.1 (gO v) (List.mem_of_getElem? hv)
      · exact I.2.1 w hw
    · have kk := kk arr hloc
      simp only [List.map_cons, gm_cv] at kk
      rw [gm_nx_eq hn] at kk
      exact lv_aload E.1 E.2.1 (hk ▸ hd) (hloc.2.2 _ _ hv) kk
  · exact h.elim
theorem gm_c_aload_n {k : Fin 4} (hk : (k : Nat) = a0) (hd : decode cc (gm_pc code i) = .ok (.aload_n k, 1)) (hn : gm_nx code i 1 = true) (h : gm_step C ro (.aload_n k) a0 b0 x0 ts i ls st S m (gm_X p l e Rm s mm args below meth c Q D ci A ad S0 S' as0 Fn nL code cc own ro ini) R) : gm_X p l e Rm s mm args below meth c Q D ci A ad S0 S' as0 Fn nL code cc own ro ini i ls st S m := by
  simp only [gm_step] at h
  split at h
  · rename_i v hv
    refine gm_pure h (fun I hl => ⟨I.1, fun w hw => ?_, hl⟩) (fun E I as arr H locs cells slots hloc hS hP kk => ?_)
    · rcases List.mem_cons.mp hw with rfl | hw
      · exact I.1 (gA v) (List.mem_of_getElem? hv)
      · exact I.2.1 w hw
    · have kk := kk arr hloc
      simp only [List.map_cons, gm_cv] at kk
      rw [gm_nx_eq hn] at kk
      exact lv_aload_n E.1 E.2.1 hd hk (hloc.2.2 _ _ hv) kk
  · rename_i v hv
    refine gm_pure h (fun I hl => ⟨I.1, fun w hw => ?_, hl⟩) (fun E I as arr H locs cells slots hloc hS hP kk => ?_)
    · rcases List.mem_cons.mp hw with rfl | hw
      · exact I.1 (gO v) (List.mem_of_getElem? hv)
      · exact I.2.1 w hw
    · have kk := kk arr hloc
      simp only [List.map_cons, gm_cv] at kk
      rw [gm_nx_eq hn] at kk
      exact lv_aload_n E.1 E.2.1 hd hk (hloc.2.2 _ _ hv) kk
  · exact h.elim
theorem gm_c_istore {k : Nat} (hk : k = a0) (hp : a0 < nL) (hd : decode cc (gm_pc code i) = .ok (.istore k, 2)) (hn : gm_nx code i 2 = true) (h : gm_step C ro (.istore k) a0 b0 x0 ts i ls st S m (gm_X p l e Rm s mm args below meth c Q D ci A ad S0 S' as0 Fn nL code cc own ro ini) R) : gm_X p l e Rm s mm args below meth c Q D ci A ad S0 S' as0 Fn nL code cc own ro ini i ls st S m := by
  simp only [gm_step] at h
  split at h
  · rename_i v t
    refine gm_pure h (fun I hl => ⟨gm_s1_ok I.1 (I.2.1 (gI v) List.mem_cons_self), fun w hw => I.2.1 w (List.mem_cons_of_mem _ hw), by rw [gm_s1_len]; exact hl⟩) (fun E I as arr H locs cells slots hloc hS hP kk => ?_)
    have hh := gm_loc_has.mp hloc
    simp only [List.map_cons, gm_cv]
    rw [gm_nx_eq hn] at kk
    exact lv_istore E.1 E.2.1 (hk ▸ hd) hh hp rfl (fun ls' hl' => kk ls' (gm_s1_loc rfl hl'))
  · exact h.elim
theorem gm_c_istore_n {k : Fin 4} (hk : (k : Nat) = a0) (hp : a0 < nL) (hd : decode cc (gm_pc code i) = .ok (.istore_n k, 1)) (hn : gm_nx code i 1 = true) (h : gm_step C ro (.istore_n k) a0 b0 x0 ts i ls st S m (gm_X p l e Rm s mm args below meth c Q D ci A ad S0 S' as0 Fn nL code cc own ro ini) R) : gm_X p l e Rm s mm args below meth c Q D ci A ad S0 S' as0 Fn nL code cc own ro ini i ls st S m := by
  simp only [gm_step] at h
  split at h
  · rename_i v t
    refine gm_pure h (fun I hl => ⟨gm_s1_ok I.1 (I.2.1 (gI v) List.mem_cons_self), fun w hw => I.2.1 w (List.mem_cons_of_mem _ hw), by rw [gm_s1_len]; exact hl⟩) (fun E I as arr H locs cells slots hloc hS hP kk => ?_)
    have hh := gm_loc_has.mp hloc
    simp only [List.map_cons, gm_cv]
    rw [gm_nx_eq hn] at kk
    exact lv_istore_n E.1 E.2.1 hd hk hh hp rfl (fun ls' hl' => kk ls' (gm_s1_loc rfl hl'))
  · exact h.elim
theorem gm_c_lstore {k : Nat} (hk : k = a0) (hp : a0 + 1 < nL) (hd : decode cc (gm_pc code i) = .ok (.lstore k, 2)) (hn : gm_nx code i 2 = true) (h : gm_step C ro (.lstore k) a0 b0 x0 ts i ls st S m (gm_X p l e Rm s mm args below meth c Q D ci A ad S0 S' as0 Fn nL code cc own ro ini) R) : gm_X p l e Rm s mm args below meth c Q D ci A ad S0 S' as0 Fn nL code cc own ro ini i ls st S m := by
  simp only [gm_step] at h
  split at h
  · rename_i v t
    refine gm_pure h (fun I hl => ⟨gm_s2_ok I.1 (I.2.1 (gL v) List.mem_cons_self), fun w hw => I.2.1 w (List.mem_cons_of_mem _ hw), by rw [gm_s2_len]; exact hl⟩) (fun E I as arr H locs cells slots hloc hS hP kk => ?_)
    have hh := gm_loc_has.mp hloc
    simp only [List.map_cons, gm_cv]
    rw [gm_nx_eq hn] at kk
    exact lv_lstore E.1 E.2.1 (hk ▸ hd) hh hp rfl (fun ls' hl' => kk ls' (gm_s2_loc rfl hl'))
  · exact h.elim
theorem gm_c_lstore_n {k : Fin 4} (hk : (k : Nat) = a0) (hp : a0 + 1 < nL) (hd : decode cc (gm_pc code i) = .ok (.lstore_n k, 1)) (hn : gm_nx code i 1 = true) (h : gm_step C ro (.lstore_n k) a0 b0 x0 ts i ls st S m (gm_X p l e Rm s mm args below meth c Q D ci A ad S0 S' as0 Fn nL code cc own ro ini) R) : gm_X p l e Rm s mm args below meth c Q D ci A ad S0 S' as0 Fn nL code cc own ro ini i ls st S m := by
  simp only [gm_step] at h
  split at h
  · rename_i v t
    refine gm_pure h (fun I hl => ⟨gm_s2_ok I.1 (I.2.1 (gL v) List.mem_cons_self), fun w hw => I.2.1 w (List.mem_cons_of_mem _ hw), by rw [gm_s2_len]; exact hl⟩) (fun E I as arr H locs cells slots hloc hS hP kk => ?_)
    have hh := gm_loc_has.mp hloc
    simp only [List.map_cons, gm_cv]
    rw [gm_nx_eq hn] at kk
    exact lv_lstore_n E.1 E.2.1 hd hk hh hp rfl (fun ls' hl' => kk ls' (gm_s2_loc rfl hl'))
  · exact h.elim
theorem gm_c_astore {k : Nat} (hk : k = a0) (hp : a0 < nL) (hd : decode cc (gm_pc code i) = .ok (.astore k, 2)) (hn : gm_nx code i 2 = true) (h : gm_step C ro (.astore k) a0 b0 x0 ts i ls st S m (gm_X p l e Rm s mm args below meth c Q D ci A ad S0 S' as0 Fn nL code cc own ro ini) R) : gm_X p l e Rm s mm args below meth c Q D ci A ad S0 S' as0 Fn nL code cc own ro ini i ls st S m := by
  simp only [gm_step] at h
  split at h
  · rename_i v t
    refine gm_pure h (fun I hl => ⟨gm_s1_ok I.1 (I.2.1 (gA v) List.mem_cons_self), fun w hw => I.2.1 w (List.mem_cons_of_mem _ hw), by rw [gm_s1_len]; exact hl⟩) (fun E I as arr H locs cells slots hloc hS hP kk => ?_)
    have hh := gm_loc_has.mp hloc
    simp only [List.map_cons, gm_cv]
    rw [gm_nx_eq hn] at kk
    exact lv_astore E.1 E.2.1 (hk ▸ hd) hh hp rfl (fun ls' hl' => kk ls' (gm_s1_loc rfl hl'))
  · rename_i v t
    refine gm_pure h (fun I hl => ⟨gm_s1_ok I.1 (I.2.1 (gO v) List.mem_cons_self), fun w hw => I.2.1 w (List.mem_cons_of_mem _ hw), by rw [gm_s1_len]; exact hl⟩) (fun E I as arr H locs cells slots hloc hS hP kk => ?_)
    have hh := gm_loc_has.mp hloc
    simp only [List.map_cons, gm_cv]
    rw [gm_nx_eq hn] at kk
    exact lv_astore E.1 E.2.1 (hk ▸ hd) hh hp rfl (fun ls' hl' => kk ls' (gm_s1_loc rfl hl'))
  · exact h.elim
theorem gm_c_astore_n {k : Fin 4} (hk : (k : Nat) = a0) (hp : a0 < nL) (hd : decode cc (gm_pc code i) = .ok (.astore_n k, 1)) (hn : gm_nx code i 1 = true) (h : gm_step C ro (.astore_n k) a0 b0 x0 ts i ls st S m (gm_X p l e Rm s mm args below meth c Q D ci A ad S0 S' as0 Fn nL code cc own ro ini) R) : gm_X p l e Rm s mm args below meth c Q D ci A ad S0 S' as0 Fn nL code cc own ro ini i ls st S m := by
  simp only [gm_step] at h
  split at h
  · rename_i v t
    refine gm_pure h (fun I hl => ⟨gm_s1_ok I.1 (I.2.1 (gA v) List.mem_cons_self), fun w hw => I.2.1 w (List.mem_cons_of_mem _ hw), by rw [gm_s1_len]; exact hl⟩) (fun E I as arr H locs cells slots hloc hS hP kk => ?_)
    have hh := gm_loc_has.mp hloc
    simp only [List.map_cons, gm_cv]
    rw [gm_nx_eq hn] at kk
    exact lv_astore_n E.1 E.2.1 hd hk hh hp rfl (fun ls' hl' => kk ls' (gm_s1_loc rfl hl'))
  · rename_i v t
    refine gm_pure h (fun I hl => ⟨gm_s1_ok I.1 (I.2.1 (gO v) List.mem_cons_self), fun w hw => I.2.1 w (List.mem_cons_of_mem _ hw), by rw [gm_s1_len]; exact hl⟩) (fun E I as arr H locs cells slots hloc hS hP kk => ?_)
    have hh := gm_loc_has.mp hloc
    simp only [List.map_cons, gm_cv]
    rw [gm_nx_eq hn] at kk
    exact lv_astore_n E.1 E.2.1 hd hk hh hp rfl (fun ls' hl' => kk ls' (gm_s1_loc rfl hl'))
  · exact h.elim
theorem gm_c_iconst {n : Int} (hv : Int32.ofInt n = Int32.ofInt x0) (hx : gm_rg x0 = true) (hd : decode cc (gm_pc code i) = .ok (.iconst n, 1)) (hn : gm_nx code i 1 = true) (h : gm_step C ro (.iconst n) a0 b0 x0 ts i ls st S m (gm_X p l e Rm s mm args below meth c Q D ci A ad S0 S' as0 Fn nL code cc own ro ini) R) : gm_X p l e Rm s mm args below meth c Q D ci A ad S0 S' as0 Fn nL code cc own ro ini i ls st S m := by
  simp only [gm_step] at h
  refine gm_pure h (fun I hl => ⟨I.1, fun w hw => ?_, hl⟩) (fun E I as arr H locs cells slots hloc hS hP kk => ?_)
  · rcases List.mem_cons.mp hw with rfl | hw
    · exact gm_rg_eq hx
    · exact I.2.1 w hw
  · have kk := kk arr hloc
    simp only [List.map_cons, gm_cv] at kk
    rw [gm_nx_eq hn] at kk
    exact lv_iconst E.1 E.2.1 hd hv kk
theorem gm_c_bipush {n : Int} (hv : (Int8.ofInt n).toInt32 = Int32.ofInt x0) (hx : gm_rg x0 = true) (hd : decode cc (gm_pc code i) = .ok (.bipush n, 2)) (hn : gm_nx code i 2 = true) (h : gm_step C ro (.bipush n) a0 b0 x0 ts i ls st S m (gm_X p l e Rm s mm args below meth c Q D ci A ad S0 S' as0 Fn nL code cc own ro ini) R) : gm_X p l e Rm s mm args below meth c Q D ci A ad S0 S' as0 Fn nL code cc own ro ini i ls st S m := by
  simp only [gm_step] at h
  refine gm_pure h (fun I hl => ⟨I.1, fun w hw => ?_, hl⟩) (fun E I as arr H locs cells slots hloc hS hP kk => ?_)
  · rcases List.mem_cons.mp hw with rfl | hw
    · exact gm_rg_eq hx
    · exact I.2.1 w hw
  · have kk := kk arr hloc
    simp only [List.map_cons, gm_cv] at kk
    rw [gm_nx_eq hn] at kk
    exact lv_bipush E.1 E.2.1 hd hv kk
theorem gm_c_sipush {n : Int} (hv : (Int16.ofInt n).toInt32 = Int32.ofInt x0) (hx : gm_rg x0 = true) (hd : decode cc (gm_pc code i) = .ok (.sipush n, 3)) (hn : gm_nx code i 3 = true) (h : gm_step C ro (.sipush n) a0 b0 x0 ts i ls st S m (gm_X p l e Rm s mm args below meth c Q D ci A ad S0 S' as0 Fn nL code cc own ro ini) R) : gm_X p l e Rm s mm args below meth c Q D ci A ad S0 S' as0 Fn nL code cc own ro ini i ls st S m := by
  simp only [gm_step] at h
  refine gm_pure h (fun I hl => ⟨I.1, fun w hw => ?_, hl⟩) (fun E I as arr H locs cells slots hloc hS hP kk => ?_)
  · rcases List.mem_cons.mp hw with rfl | hw
    · exact gm_rg_eq hx
    · exact I.2.1 w hw
  · have kk := kk arr hloc
    simp only [List.map_cons, gm_cv] at kk
    rw [gm_nx_eq hn] at kk
    exact lv_sipush E.1 E.2.1 hd hv kk
theorem gm_c_ldc {n : Nat} (hv : Cond.constant own n (Int32.ofInt x0) ∈ gm_TW) (hx : gm_rg x0 = true) (hd : decode cc (gm_pc code i) = .ok (.ldc n, 2)) (hn : gm_nx code i 2 = true) (h : gm_step C ro (.ldc n) a0 b0 x0 ts i ls st S m (gm_X p l e Rm s mm args below meth c Q D ci A ad S0 S' as0 Fn nL code cc own ro ini) R) : gm_X p l e Rm s mm args below meth c Q D ci A ad S0 S' as0 Fn nL code cc own ro ini i ls st S m := by
  simp only [gm_step] at h
  refine gm_pure h (fun I hl => ⟨I.1, fun w hw => ?_, hl⟩) (fun E I as arr H locs cells slots hloc hS hP kk => ?_)
  · rcases List.mem_cons.mp hw with rfl | hw
    · exact gm_rg_eq hx
    · exact I.2.1 w hw
  · have kk := kk arr hloc
    simp only [List.map_cons, gm_cv] at kk
    rw [gm_nx_eq hn] at kk
    exact lv_ldc E.1 E.2.1 E.2.2.2.1 (E.2.2.2.2.1 _ hv) hd kk
theorem gm_c_ldc_w {n : Nat} (hv : Cond.constant own n (Int32.ofInt x0) ∈ gm_TW) (hx : gm_rg x0 = true) (hd : decode cc (gm_pc code i) = .ok (.ldc_w n, 3)) (hn : gm_nx code i 3 = true) (h : gm_step C ro (.ldc_w n) a0 b0 x0 ts i ls st S m (gm_X p l e Rm s mm args below meth c Q D ci A ad S0 S' as0 Fn nL code cc own ro ini) R) : gm_X p l e Rm s mm args below meth c Q D ci A ad S0 S' as0 Fn nL code cc own ro ini i ls st S m := by
  simp only [gm_step] at h
  refine gm_pure h (fun I hl => ⟨I.1, fun w hw => ?_, hl⟩) (fun E I as arr H locs cells slots hloc hS hP kk => ?_)
  · rcases List.mem_cons.mp hw with rfl | hw
    · exact gm_rg_eq hx
    · exact I.2.1 w hw
  · have kk := kk arr hloc
    simp only [List.map_cons, gm_cv] at kk
    rw [gm_nx_eq hn] at kk
    exact lv_ldcw E.1 E.2.1 E.2.2.2.1 (E.2.2.2.2.1 _ hv) hd kk
theorem gm_c_lconst {n : Fin 2} (hv : Int64.ofNat (n : Nat) = Int64.ofInt x0) (hx : gm_rgl x0 = true) (hd : decode cc (gm_pc code i) = .ok (.lconst n, 1)) (hn : gm_nx code i 1 = true) (h : gm_step C ro (.lconst n) a0 b0 x0 ts i ls st S m (gm_X p l e Rm s mm args below meth c Q D ci A ad S0 S' as0 Fn nL code cc own ro ini) R) : gm_X p l e Rm s mm args below meth c Q D ci A ad S0 S' as0 Fn nL code cc own ro ini i ls st S m := by
  simp only [gm_step] at h
  refine gm_pure h (fun I hl => ⟨I.1, fun w hw => ?_, hl⟩) (fun E I as arr H locs cells slots hloc hS hP kk => ?_)
  · rcases List.mem_cons.mp hw with rfl | hw
    · exact gm_rgl_eq hx
    · exact I.2.1 w hw
  · have kk := kk arr hloc
    simp only [List.map_cons, gm_cv] at kk
    rw [gm_nx_eq hn] at kk
    exact lv_lconst E.1 E.2.1 hd hv kk
theorem gm_c_ldc2_w {n : Nat} (hv : Cond.constantLong own n (Int64.ofInt x0) ∈ gm_TW) (hx : gm_rgl x0 = true) (hd : decode cc (gm_pc code i) = .ok (.ldc2_w n, 3)) (hn : gm_nx code i 3 = true) (h : gm_step C ro (.ldc2_w n) a0 b0 x0 ts i ls st S m (gm_X p l e Rm s mm args below meth c Q D ci A ad S0 S' as0 Fn nL code cc own ro ini) R) : gm_X p l e Rm s mm args below meth c Q D ci A ad S0 S' as0 Fn nL code cc own ro ini i ls st S m := by
  simp only [gm_step] at h
  refine gm_pure h (fun I hl => ⟨I.1, fun w hw => ?_, hl⟩) (fun E I as arr H locs cells slots hloc hS hP kk => ?_)
  · rcases List.mem_cons.mp hw with rfl | hw
    · exact gm_rgl_eq hx
    · exact I.2.1 w hw
  · have kk := kk arr hloc
    simp only [List.map_cons, gm_cv] at kk
    rw [gm_nx_eq hn] at kk
    exact lv_ldc2 E.1 E.2.1 E.2.2.2.1 (E.2.2.2.2.1 _ hv) hd kk
theorem gm_c_iinc {k : Nat} {n : Int} (hk : k = a0) (hp : a0 < nL) (hnx : n = x0) (hx : gm_rg x0 = true) (hd : decode cc (gm_pc code i) = .ok (.iinc k n, 3)) (hn : gm_nx code i 3 = true) (h : gm_step C ro (.iinc k n) a0 b0 x0 ts i ls st S m (gm_X p l e Rm s mm args below meth c Q D ci A ad S0 S' as0 Fn nL code cc own ro ini) R) : gm_X p l e Rm s mm args below meth c Q D ci A ad S0 S' as0 Fn nL code cc own ro ini i ls st S m := by
  simp only [gm_step] at h
  split at h
  · rename_i v hv
    refine gm_pure h (fun I hl => ⟨gm_s1_ok I.1 (gm_i_w _), I.2.1, by rw [gm_s1_len]; exact hl⟩) (fun E I as arr H locs cells slots hloc hS hP kk => ?_)
    have hh := gm_loc_has.mp hloc
    have hvi : gm_i v := I.1 (gI v) (List.mem_of_getElem? hv)
    obtain ⟨j, hj⟩ := List.getElem?_of_mem (gm_prs_mem (as := as) (ad := ad) (ls := ls) (q := (a0, .int (Int32.ofInt v))).mpr ⟨_, hv, rfl⟩)
    rw [gm_nx_eq hn] at kk
    subst hk
    subst hnx
    exact lv_iinc E.1 E.2.1 hd hh (k := j) hj (oi_add hvi (gm_rg_eq hx)) hp rfl (fun ls' hl' => kk ls' (gm_s1_loc rfl hl'))
  · exact h.elim
theorem gm_c_dup (hd : decode cc (gm_pc code i) = .ok (.dup, 1)) (hn : gm_nx code i 1 = true) (h : gm_step C ro .dup a0 b0 x0 ts i ls st S m (gm_X p l e Rm s mm args below meth c Q D ci A ad S0 S' as0 Fn nL code cc own ro ini) R) : gm_X p l e Rm s mm args below meth c Q D ci A ad S0 S' as0 Fn nL code cc own ro ini i ls st S m := by
  simp only [gm_step] at h
  split at h
  · rename_i a t
    refine gm_pure h (fun I hl => ⟨I.1, fun w hw => ?_, hl⟩) (fun E I as arr H locs cells slots hloc hS hP kk => ?_)
    · rcases List.mem_cons.mp hw with rfl | hw
      · exact I.2.1 _ List.mem_cons_self
      · exact I.2.1 w hw
    · have kk := kk arr hloc
      simp only [List.map_cons, gm_cv] at kk ⊢
      rw [gm_nx_eq hn] at kk
      exact lv_dup E.1 E.2.1 hd rfl kk
  · rename_i a t
    refine gm_pure h (fun I hl => ⟨I.1, fun w hw => ?_, hl⟩) (fun E I as arr H locs cells slots hloc hS hP kk => ?_)
    · rcases List.mem_cons.mp hw with rfl | hw
      · exact I.2.1 _ List.mem_cons_self
      · exact I.2.1 w hw
    · have kk := kk arr hloc
      simp only [List.map_cons, gm_cv] at kk ⊢
      rw [gm_nx_eq hn] at kk
      exact lv_dup E.1 E.2.1 hd rfl kk
  · exact h.elim
theorem gm_c_dup2 (hd : decode cc (gm_pc code i) = .ok (.dup2, 1)) (hn : gm_nx code i 1 = true) (h : gm_step C ro .dup2 a0 b0 x0 ts i ls st S m (gm_X p l e Rm s mm args below meth c Q D ci A ad S0 S' as0 Fn nL code cc own ro ini) R) : gm_X p l e Rm s mm args below meth c Q D ci A ad S0 S' as0 Fn nL code cc own ro ini i ls st S m := by
  simp only [gm_step] at h
  split at h
  · rename_i b a t
    refine gm_pure h (fun I hl => ⟨I.1, fun w hw => ?_, hl⟩) (fun E I as arr H locs cells slots hloc hS hP kk => ?_)
    · rcases List.mem_cons.mp hw with rfl | hw
      · exact I.2.1 _ List.mem_cons_self
      · rcases List.mem_cons.mp hw with rfl | hw
        · exact I.2.1 _ (List.mem_cons_of_mem _ List.mem_cons_self)
        · exact I.2.1 w hw
    · have kk := kk arr hloc
      simp only [List.map_cons, gm_cv] at kk ⊢
      rw [gm_nx_eq hn] at kk
      exact lv_dup2_11 E.1 E.2.1 hd rfl rfl kk
  · exact h.elim
theorem gm_c_pop (hd : decode cc (gm_pc code i) = .ok (.pop, 1)) (hn : gm_nx code i 1 = true) (h : gm_step C ro .pop a0 b0 x0 ts i ls st S m (gm_X p l e Rm s mm args below meth c Q D ci A ad S0 S' as0 Fn nL code cc own ro ini) R) : gm_X p l e Rm s mm args below meth c Q D ci A ad S0 S' as0 Fn nL code cc own ro ini i ls st S m := by
  simp only [gm_step] at h
  split at h
  · rename_i a t
    refine gm_pure h (fun I hl => ⟨I.1, fun w hw => I.2.1 w (List.mem_cons_of_mem _ hw), hl⟩) (fun E I as arr H locs cells slots hloc hS hP kk => ?_)
    have kk := kk arr hloc
    simp only [List.map_cons, gm_cv] at kk ⊢
    rw [gm_nx_eq hn] at kk
    exact lv_pop E.1 E.2.1 hd rfl kk
  · exact h.elim
theorem gm_c_goto {off : Int} (hd : decode cc (gm_pc code i) = .ok (.goto off, 3)) (ht : gm_tg code i off a0 = true) (h : gm_step C ro (.goto off) a0 b0 x0 ts i ls st S m (gm_X p l e Rm s mm args below meth c Q D ci A ad S0 S' as0 Fn nL code cc own ro ini) R) : gm_X p l e Rm s mm args below meth c Q D ci A ad S0 S' as0 Fn nL code cc own ro ini i ls st S m := by
  simp only [gm_step] at h
  refine gm_pure h (fun I hl => ⟨I.1, I.2.1, hl⟩) (fun E I as arr H locs cells slots hloc hS hP kk => ?_)
  exact lv_goto E.1 E.2.1 hd (gm_tg_eq ht) (kk arr hloc)
theorem gm_two {P : Prop} {i1 i2 : Nat} {st1 : List gm_V} (h1 : P → gm_X p l e Rm s mm args below meth c Q D ci A ad S0 S' as0 Fn nL code cc own ro ini i1 ls st1 S m) (h2 : ¬ P → gm_X p l e Rm s mm args below meth c Q D ci A ad S0 S' as0 Fn nL code cc own ro ini i2 ls st1 S m) (hI : ∀ v ∈ st1, v ∈ st)
    (hW : gm_Env p s mm meth c args cc own nL D ci A ad ro ini → gm_I ls st S m → ∀ (as : List Nat) (arr : Array Slot) (H : Heap) (locs : List Loc) (cells slots : Nat), (P → W p l e Rm s mm args below meth c H locs cells slots Q (F0 mm (gm_pc code i1) arr (st1.map (gm_cv as ad)))) → (¬ P → W p l e Rm s mm args below meth c H locs cells slots Q (F0 mm (gm_pc code i2) arr (st1.map (gm_cv as ad)))) → W p l e Rm s mm args below meth c H locs cells slots Q (F0 mm (gm_pc code i) arr (st.map (gm_cv as ad)))) : gm_X p l e Rm s mm args below meth c Q D ci A ad S0 S' as0 Fn nL code cc own ro ini i ls st S m := by
  by_cases hP : P
  · exact gm_pure (h1 hP) (fun I hl => ⟨I.1, fun v hv => I.2.1 v (hI v hv), hl⟩) (fun E I as arr H locs cells slots hloc hS hP' kk => hW E I as arr H locs cells slots (fun _ => kk arr hloc) (fun z => absurd hP z))
  · exact gm_pure (h2 hP) (fun I hl => ⟨I.1, fun v hv => I.2.1 v (hI v hv), hl⟩) (fun E I as arr H locs cells slots hloc hS hP' kk => hW E I as arr H locs cells slots (fun z => absurd z hP) (fun _ => kk arr hloc))
theorem gm_c_ifCond {cd : Jvm.ClassFile.Cond} {off : Int} (hd : decode cc (gm_pc code i) = .ok (.ifCond cd off, 3)) (ht : gm_tg code i off a0 = true) (hn : gm_nx code i 3 = true) (h : gm_step C ro (.ifCond cd off) a0 b0 x0 ts i ls st S m (gm_X p l e Rm s mm args below meth c Q D ci A ad S0 S' as0 Fn nL code cc own ro ini) R) : gm_X p l e Rm s mm args below meth c Q D ci A ad S0 S' as0 Fn nL code cc own ro ini i ls st S m := by
  simp only [gm_step] at h
  split at h
  · rename_i a t
    refine gm_two (i1 := a0) (i2 := i + 1) h.1 h.2 (fun v hv => List.mem_cons_of_mem _ hv) (fun E I as arr H locs cells slots k1 k2 => ?_)
    have ha : gm_i a := I.2.1 (gI a) List.mem_cons_self
    simp only [List.map_cons, gm_cv]
    rw [gm_nx_eq hn] at k2
    have e0 : (0 : Int32) = Int32.ofInt 0 := rfl
    cases cd with
    | eq => exact lv_if_eq E.1 E.2.1 hd (gm_tg_eq ht) (fun z => k1 (by rw [e0, oi_inj ha gm_i_0] at z; exact z)) (fun z => k2 (fun w => z (by rw [e0, oi_inj ha gm_i_0]; exact w)))
    | ne => exact lv_if_ne E.1 E.2.1 hd (gm_tg_eq ht) (fun z => k1 (fun w => z (by rw [e0, oi_inj ha gm_i_0]; exact w))) (fun z => k2 (fun w => w (by rw [e0, oi_inj ha gm_i_0] at z; exact z)))
    | lt => exact lv_if_lt E.1 E.2.1 hd (gm_tg_eq ht) (fun z => k1 (by rw [e0, oi_lt ha gm_i_0] at z; exact z)) (fun z => k2 (fun w => z (by rw [e0, oi_lt ha gm_i_0]; exact w)))
    | ge => exact lv_if_ge E.1 E.2.1 hd (gm_tg_eq ht) (fun z => k1 (by rw [e0, oi_le gm_i_0 ha] at z; exact z)) (fun z => k2 (fun w => z (by rw [e0, oi_le gm_i_0 ha]; exact w)))
    | gt => exact lv_if_gt E.1 E.2.1 hd (gm_tg_eq ht) (fun z => k1 (by rw [e0, oi_lt gm_i_0 ha] at z; exact z)) (fun z => k2 (fun w => z (by rw [e0, oi_lt gm_i_0 ha]; exact w)))
    | le => exact lv_if_le E.1 E.2.1 hd (gm_tg_eq ht) (fun z => k1 (by rw [e0, oi_le ha gm_i_0] at z; exact z)) (fun z => k2 (fun w => z (by rw [e0, oi_le ha gm_i_0]; exact w)))
  · exact h.elim
theorem gm_c_if_icmp {cd : Jvm.ClassFile.Cond} {off : Int} (hd : decode cc (gm_pc code i) = .ok (.if_icmp cd off, 3)) (ht : gm_tg code i off a0 = true) (hn : gm_nx code i 3 = true) (h : gm_step C ro (.if_icmp cd off) a0 b0 x0 ts i ls st S m (gm_X p l e Rm s mm args below meth c Q D ci A ad S0 S' as0 Fn nL code cc own ro ini) R) : gm_X p l e Rm s mm args below meth c Q D ci A ad S0 S' as0 Fn nL code cc own ro ini i ls st S m := by
  simp only [gm_step] at h
  split at h
  · rename_i b a t
    refine gm_two (i1 := a0) (i2 := i + 1) h.1 h.2 (fun v hv => List.mem_cons_of_mem _ (List.mem_cons_of_mem _ hv)) (fun E I as arr H locs cells slots k1 k2 => ?_)
    have hb : gm_i b := I.2.1 (gI b) List.mem_cons_self
    have ha : gm_i a := I.2.1 (gI a) (List.mem_cons_of_mem _ List.mem_cons_self)
    simp only [List.map_cons, gm_cv]
    rw [gm_nx_eq hn] at k2
    cases cd with
    | eq => exact lv_icmp_eq E.1 E.2.1 hd (gm_tg_eq ht) (fun z => k1 (by rw [oi_inj ha hb] at z; exact z)) (fun z => k2 (fun w => z (by rw [oi_inj ha hb]; exact w)))
    | ne => exact lv_icmp_ne E.1 E.2.1 hd (gm_tg_eq ht) (fun z => k1 (fun w => z (by rw [oi_inj ha hb]; exact w))) (fun z => k2 (fun w => w (by rw [oi_inj ha hb] at z; exact z)))
    | lt => exact lv_icmp_lt E.1 E.2.1 hd (gm_tg_eq ht) (fun z => k1 (by rw [oi_lt ha hb] at z; exact z)) (fun z => k2 (fun w => z (by rw [oi_lt ha hb]; exact w)))
    | ge => exact lv_icmp_ge E.1 E.2.1 hd (gm_tg_eq ht) (fun z => k1 (by rw [oi_le hb ha] at z; exact z)) (fun z => k2 (fun w => z (by rw [oi_le hb ha]; exact w)))
    | gt => exact lv_icmp_gt E.1 E.2.1 hd (gm_tg_eq ht) (fun z => k1 (by rw [oi_lt hb ha] at z; exact z)) (fun z => k2 (fun w => z (by rw [oi_lt hb ha]; exact w)))
    | le => exact lv_icmp_le E.1 E.2.1 hd (gm_tg_eq ht) (fun z => k1 (by rw [oi_le ha hb] at z; exact z)) (fun z => k2 (fun w => z (by rw [oi_le ha hb]; exact w)))
  · exact h.elim
end GM2
