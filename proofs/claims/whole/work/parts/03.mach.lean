/-! ===== THE SMALL MACHINE: the bytecode's steps over whole numbers. A value: nothing, an int, a cell of the world, a long, one of the old rows (0 the script, 1 and 2 the class's two constant rows) ===== -/
abbrev gm_V : Type := Option (Int ⊕ (Int ⊕ (Int ⊕ Nat)))
abbrev gI (x : Int) : gm_V := some (.inl x)
abbrev gA (a : Int) : gm_V := some (.inr (.inl a))
abbrev gL (x : Int) : gm_V := some (.inr (.inr (.inl x)))
abbrev gO (j : Nat) : gm_V := some (.inr (.inr (.inr j)))
/-- what a cell is: its kind (below 10 an object of that class; 10 ints, 11 booleans, 12 letters, 13 nets), how many slots, the cells that it names -/
abbrev gm_S : Type := Nat × Nat × List (Option Int)
abbrev gm_M : Type := Int → Int → Int
/-- an instruction: a loop's head or not, its byte, itself, two numbers, an int, targets -/
abbrev gm_O : Type := Bool × Nat × Instr × Nat × Nat × Int × List (Int × Nat)
/-- what a method does: its number, arguments, cells, memory; answer, cells, memory -/
abbrev gm_C : Type := Nat → List gm_V → List gm_S → gm_M → gm_V → List gm_S → gm_M → Prop
abbrev gm_K : Type := Nat → List gm_V → List gm_V → List gm_S → gm_M → Prop
abbrev gm_R : Type := gm_V → List gm_S → gm_M → Prop
def w32 (x : Int) : Int := x.bmod 4294967296
def w64 (x : Int) : Int := x.bmod 18446744073709551616
def gm_up (m : gm_M) (a j v : Int) : gm_M := fun b k => if b = a ∧ k = j then v else m b k
def gm_cp (m : gm_M) (a sp b dp n : Int) : gm_M := fun c k => if c = b ∧ dp ≤ k ∧ k < dp + n then m a (sp + (k - dp)) else m c k
def gm_is (S : List gm_S) (a : Int) (c : Nat) : Prop := 0 ≤ a ∧ ∃ n rs, S[a.toNat]? = some (c, n, rs)
def gm_in (S : List gm_S) (a : Int) (c : Nat) (j : Int) : Prop := 0 ≤ a ∧ 0 ≤ j ∧ ∃ (n : Nat) (rs : List (Option Int)), S[a.toNat]? = some (c, n, rs) ∧ j < n
def gm_len (S : List gm_S) (a : Int) : Int := match S[a.toNat]? with
  | some s => (s.2.1 : Int)
  | none => 0
def gm_rf (S : List gm_S) (a : Int) (q : Nat) : Option Int := match S[a.toNat]? with
  | some s => (s.2.2[q]?).join
  | none => none
def gm_sr (S : List gm_S) (a : Int) (q : Nat) (b : Int) : List gm_S := match S[a.toNat]? with
  | some s => S.set a.toNat (s.1, s.2.1, s.2.2.set q (some b))
  | none => S
def gm_kl (ls : List gm_V) (i : Nat) : List gm_V := match i with
  | 0 => ls
  | j + 1 => match ls[j]? with
    | some (some (.inr (.inr (.inl _)))) => ls.set j none
    | _ => ls
def gm_s1 (ls : List gm_V) (i : Nat) (v : gm_V) : List gm_V := (gm_kl ls i).set i v
def gm_s2 (ls : List gm_V) (i : Nat) (v : gm_V) : List gm_V := ((gm_kl ls i).set i v).set (i + 1) none
def gm_c (c : Jvm.ClassFile.Cond) (a b : Int) : Prop := match c with
  | .eq => a = b
  | .ne => a ≠ b
  | .lt => a < b
  | .ge => a ≥ b
  | .gt => a > b
  | .le => a ≤ b
def gm_w1 (v : gm_V) : Nat := match v with
  | some (.inr (.inr (.inl _))) => 2
  | _ => 1
def gm_wd (l : List gm_V) : Nat := match l with
  | [] => 0
  | v :: l => gm_w1 v + gm_wd l
def gm_ps (r : gm_V) (l : List gm_V) : List gm_V := match r with
  | none => l
  | some v => some v :: l
def gm_sh (f : Int32 → Int32 → Int32) (a b : Int) : Int := (f (Int32.ofInt a) (Int32.ofInt b)).toInt
def gm_and (a b : Int) : Int := gm_sh (fun x y => x &&& y) a b
def gm_or (a b : Int) : Int := gm_sh (fun x y => x ||| y) a b
def gm_xor (a b : Int) : Int := gm_sh (fun x y => x ^^^ y) a b
def gm_shl (a b : Int) : Int := gm_sh (fun x y => x <<< (y &&& 31)) a b
def gm_shr (a b : Int) : Int := gm_sh (fun x y => x >>> (y &&& 31)) a b
def gm_ushr (a b : Int) : Int := gm_sh (fun x y => (x.toUInt32 >>> (y.toUInt32 &&& Int32.toUInt32 31)).toInt32) a b
def gm_cmp (a b : Int) : Int := if a < b then -1 else if a = b then 0 else 1
/-- one instruction -/
def gm_step (C : gm_C) (ro : Nat → Nat × (Int → Int)) (ins : Instr) (p q : Nat) (x : Int) (ts : List (Int × Nat)) (i : Nat) (ls st : List gm_V) (S : List gm_S) (m : gm_M) (K : gm_K) (R : gm_R) : Prop :=
  match ins with
  | .iload _ | .iload_n _ => match ls[p]? with
    | some (some (.inl v)) => K (i + 1) ls (gI v :: st) S m
    | _ => False
  | .lload _ | .lload_n _ => match ls[p]? with
    | some (some (.inr (.inr (.inl v)))) => K (i + 1) ls (gL v :: st) S m
    | _ => False
  | .aload _ | .aload_n _ => match ls[p]? with
    | some (some (.inr (.inl v))) => K (i + 1) ls (gA v :: st) S m
    | some (some (.inr (.inr (.inr v)))) => K (i + 1) ls (gO v :: st) S m
    | _ => False
  | .istore _ | .istore_n _ => match st with
    | some (.inl v) :: t => K (i + 1) (gm_s1 ls p (gI v)) t S m
    | _ => False
  | .lstore _ | .lstore_n _ => match st with
    | some (.inr (.inr (.inl v))) :: t => K (i + 1) (gm_s2 ls p (gL v)) t S m
    | _ => False
  | .astore _ | .astore_n _ => match st with
    | some (.inr (.inl v)) :: t => K (i + 1) (gm_s1 ls p (gA v)) t S m
    | some (.inr (.inr (.inr v))) :: t => K (i + 1) (gm_s1 ls p (gO v)) t S m
    | _ => False
  | .iconst _ | .bipush _ | .sipush _ | .ldc _ | .ldc_w _ => K (i + 1) ls (gI x :: st) S m
  | .lconst _ | .ldc2_w _ => K (i + 1) ls (gL x :: st) S m
  | .iadd => match st with
    | some (.inl b) :: some (.inl a) :: t => K (i + 1) ls (gI (w32 (a + b)) :: t) S m
    | _ => False
  | .isub => match st with
    | some (.inl b) :: some (.inl a) :: t => K (i + 1) ls (gI (w32 (a - b)) :: t) S m
    | _ => False
  | .imul => match st with
    | some (.inl b) :: some (.inl a) :: t => K (i + 1) ls (gI (w32 (a * b)) :: t) S m
    | _ => False
  | .idiv => match st with
    | some (.inl b) :: some (.inl a) :: t => b ≠ 0 ∧ K (i + 1) ls (gI (w32 (a.tdiv b)) :: t) S m
    | _ => False
  | .irem => match st with
    | some (.inl b) :: some (.inl a) :: t => b ≠ 0 ∧ K (i + 1) ls (gI (a.tmod b) :: t) S m
    | _ => False
  | .iand => match st with
    | some (.inl b) :: some (.inl a) :: t => K (i + 1) ls (gI (gm_and a b) :: t) S m
    | _ => False
  | .ior => match st with
    | some (.inl b) :: some (.inl a) :: t => K (i + 1) ls (gI (gm_or a b) :: t) S m
    | _ => False
  | .ixor => match st with
    | some (.inl b) :: some (.inl a) :: t => K (i + 1) ls (gI (gm_xor a b) :: t) S m
    | _ => False
  | .ishl => match st with
    | some (.inl b) :: some (.inl a) :: t => K (i + 1) ls (gI (gm_shl a b) :: t) S m
    | _ => False
  | .ishr => match st with
    | some (.inl b) :: some (.inl a) :: t => K (i + 1) ls (gI (gm_shr a b) :: t) S m
    | _ => False
  | .iushr => match st with
    | some (.inl b) :: some (.inl a) :: t => K (i + 1) ls (gI (gm_ushr a b) :: t) S m
    | _ => False
  | .ladd => match st with
    | some (.inr (.inr (.inl b))) :: some (.inr (.inr (.inl a))) :: t => K (i + 1) ls (gL (w64 (a + b)) :: t) S m
    | _ => False
  | .lmul => match st with
    | some (.inr (.inr (.inl b))) :: some (.inr (.inr (.inl a))) :: t => K (i + 1) ls (gL (w64 (a * b)) :: t) S m
    | _ => False
  | .ldiv => match st with
    | some (.inr (.inr (.inl b))) :: some (.inr (.inr (.inl a))) :: t => b ≠ 0 ∧ K (i + 1) ls (gL (w64 (a.tdiv b)) :: t) S m
    | _ => False
  | .lrem => match st with
    | some (.inr (.inr (.inl b))) :: some (.inr (.inr (.inl a))) :: t => b ≠ 0 ∧ K (i + 1) ls (gL (a.tmod b) :: t) S m
    | _ => False
  | .lcmp => match st with
    | some (.inr (.inr (.inl b))) :: some (.inr (.inr (.inl a))) :: t => K (i + 1) ls (gI (gm_cmp a b) :: t) S m
    | _ => False
  | .i2l => match st with
    | some (.inl a) :: t => K (i + 1) ls (gL a :: t) S m
    | _ => False
  | .l2i => match st with
    | some (.inr (.inr (.inl a))) :: t => K (i + 1) ls (gI (w32 a) :: t) S m
    | _ => False
  | .iinc _ _ => match ls[p]? with
    | some (some (.inl v)) => K (i + 1) (gm_s1 ls p (gI (w32 (v + x)))) st S m
    | _ => False
  | .goto _ => K p ls st S m
  | .ifCond c _ => match st with
    | some (.inl a) :: t => (gm_c c a 0 → K p ls t S m) ∧ (¬ gm_c c a 0 → K (i + 1) ls t S m)
    | _ => False
  | .if_icmp c _ => match st with
    | some (.inl b) :: some (.inl a) :: t => (gm_c c a b → K p ls t S m) ∧ (¬ gm_c c a b → K (i + 1) ls t S m)
    | _ => False
  | .tableswitch _ _ _ _ | .lookupswitch _ _ => match st with
    | some (.inl a) :: t => K ((ts.lookup a).getD p) ls t S m
    | _ => False
  | .dup => match st with
    | some (.inl a) :: t => K (i + 1) ls (gI a :: gI a :: t) S m
    | some (.inr (.inl a)) :: t => K (i + 1) ls (gA a :: gA a :: t) S m
    | _ => False
  | .dup2 => match st with
    | some (.inl b) :: some (.inr (.inl a)) :: t => K (i + 1) ls (gI b :: gA a :: gI b :: gA a :: t) S m
    | _ => False
  | .pop => match st with
    | some (.inl _) :: t => K (i + 1) ls t S m
    | _ => False
  | .getfield _ => match st with
    | some (.inr (.inl a)) :: t => gm_is S a p ∧ (match ts with
      | [] => K (i + 1) ls (gI (m a x) :: t) S m
      | _ => ∃ b, gm_rf S a q = some b ∧ K (i + 1) ls (gA b :: t) S m)
    | _ => False
  | .putfield _ => match ts, st with
    | [], some (.inl v) :: some (.inr (.inl a)) :: t => gm_is S a p ∧ K (i + 1) ls t S (gm_up m a x v)
    | _ :: _, some (.inr (.inl b)) :: some (.inr (.inl a)) :: t => gm_is S a p ∧ K (i + 1) ls t (gm_sr S a q b) m
    | _, _ => False
  | .getstatic _ => K (i + 1) ls (gO p :: st) S m
  | .iaload => match st with
    | some (.inl j) :: some (.inr (.inl a)) :: t => gm_in S a 10 j ∧ K (i + 1) ls (gI (m a j) :: t) S m
    | some (.inl j) :: some (.inr (.inr (.inr r))) :: t => 0 ≤ j ∧ j < ((ro r).1 : Int) ∧ K (i + 1) ls (gI ((ro r).2 j) :: t) S m
    | _ => False
  | .iastore => match st with
    | some (.inl v) :: some (.inl j) :: some (.inr (.inl a)) :: t => gm_in S a 10 j ∧ K (i + 1) ls t S (gm_up m a j v)
    | _ => False
  | .baload => match st with
    | some (.inl j) :: some (.inr (.inl a)) :: t => gm_in S a 11 j ∧ K (i + 1) ls (gI (m a j) :: t) S m
    | _ => False
  | .bastore => match st with
    | some (.inl v) :: some (.inl j) :: some (.inr (.inl a)) :: t => gm_in S a 11 j ∧ (v = 0 ∨ v = 1) ∧ K (i + 1) ls t S (gm_up m a j v)
    | _ => False
  | .aaload => match st with
    | some (.inl j) :: some (.inr (.inl a)) :: t => gm_in S a p j ∧ ∃ b, gm_rf S a j.toNat = some b ∧ K (i + 1) ls (gA b :: t) S m
    | _ => False
  | .aastore => match st with
    | some (.inr (.inl v)) :: some (.inl j) :: some (.inr (.inl a)) :: t => gm_in S a p j ∧ gm_is S v q ∧ K (i + 1) ls t (gm_sr S a j.toNat v) m
    | _ => False
  | .arraylength => match st with
    | some (.inr (.inl a)) :: t => gm_is S a 10 ∧ K (i + 1) ls (gI (gm_len S a) :: t) S m
    | some (.inr (.inr (.inr r))) :: t => K (i + 1) ls (gI ((ro r).1 : Int) :: t) S m
    | _ => False
  | .new _ => K (i + 1) ls (gA (S.length : Int) :: st) (S ++ [(p, q, List.replicate q none)]) m
  | .newarray _ => match st with
    | some (.inl n) :: t => 0 ≤ n ∧ n ≤ 100000 ∧ K (i + 1) ls (gA (S.length : Int) :: t) (S ++ [(p, n.toNat, [])]) m
    | _ => False
  | .anewarray _ => match st with
    | some (.inl n) :: t => 0 ≤ n ∧ n ≤ 100000 ∧ K (i + 1) ls (gA (S.length : Int) :: t) (S ++ [(p, n.toNat, List.replicate n.toNat none)]) m
    | _ => False
  | .invokevirtual _ => q ≤ st.length ∧ gm_wd (st.drop q) ≤ 8 ∧ (match (st.take q).reverse with
      | some (.inr (.inl b)) :: _ => gm_is S b x.toNat
      | _ => False) ∧ ∃ r S' m', C p (st.take q).reverse S m r S' m' ∧ K (i + 1) ls (gm_ps r (st.drop q)) S' m'
  | .invokespecial _ => match p with
    | 999 => match st with
      | some (.inr (.inl _)) :: t => gm_wd t ≤ 8 ∧ C 999 [] S m none S m ∧ K (i + 1) ls t S m
      | _ => False
    | _ => q ≤ st.length ∧ gm_wd (st.drop q) ≤ 8 ∧ (match (st.take q).reverse with
      | some (.inr (.inl b)) :: _ => gm_is S b x.toNat
      | _ => False) ∧ ∃ r S' m', C p (st.take q).reverse S m r S' m' ∧ K (i + 1) ls (gm_ps r (st.drop q)) S' m'
  | .invokestatic _ => match p with
    | 998 => match st with
      | some (.inl n) :: some (.inl dp) :: some (.inr (.inl b)) :: some (.inl sp) :: some (.inr (.inl a)) :: t => gm_wd t ≤ 8 ∧ (0 ≤ sp ∧ 0 ≤ dp ∧ 0 ≤ n ∧ gm_is S a 10 ∧ gm_is S b 10 ∧ sp + n ≤ gm_len S a ∧ dp + n ≤ gm_len S b) ∧ C 999 [] S m none S m ∧ K (i + 1) ls t S (gm_cp m a sp b dp n)
      | _ => False
    | 997 => match st with
      | some (.inl b) :: some (.inl a) :: t => gm_wd t ≤ 8 ∧ C 999 [] S m none S m ∧ K (i + 1) ls (gI (if a < b then b else a) :: t) S m
      | _ => False
    | 996 => match st with
      | some (.inl b) :: some (.inl a) :: t => gm_wd t ≤ 8 ∧ C 999 [] S m none S m ∧ K (i + 1) ls (gI (if b < a then b else a) :: t) S m
      | _ => False
    | _ => q ≤ st.length ∧ gm_wd (st.drop q) ≤ 8 ∧ ∃ r S' m', C p (st.take q).reverse S m r S' m' ∧ K (i + 1) ls (gm_ps r (st.drop q)) S' m'
  | .ireturn => match st with
    | [some (.inl v)] => (p = 0 ∨ v = 0 ∨ v = 1) ∧ R (gI v) S m
    | _ => False
  | .lreturn => match st with
    | [some (.inr (.inr (.inl v)))] => R (gL v) S m
    | _ => False
  | .return_ => match st with
    | [] => R none S m
    | _ => False
  | _ => False
def gm_at (C : gm_C) (ro : Nat → Nat × (Int → Int)) (code : List gm_O) (i : Nat) (ls st : List gm_V) (S : List gm_S) (m : gm_M) (K : gm_K) (R : gm_R) : Prop := match code[i]? with
  | some o => gm_step C ro o.2.2.1 o.2.2.2.1 o.2.2.2.2.1 o.2.2.2.2.2.1 o.2.2.2.2.2.2 i ls st S m K R
  | none => False
/-- the run from a place comes to its end with R: the least such -/
def gm_wp (C : gm_C) (ro : Nat → Nat × (Int → Int)) (code : List gm_O) (R : gm_R) (i : Nat) (ls st : List gm_V) (S : List gm_S) (m : gm_M) : Prop :=
  ∀ X : gm_K, (∀ i ls st S m, gm_at C ro code i ls st S m X R → X i ls st S m) → X i ls st S m
set_option maxHeartbeats 4000000 in
theorem gm_step_mono {C C' : gm_C} (hC : ∀ k a S m r S' m', C k a S m r S' m' → C' k a S m r S' m') {ro : Nat → Nat × (Int → Int)} {ins : Instr} {p q : Nat} {x : Int} {ts : List (Int × Nat)} {i : Nat} {ls st : List gm_V} {S : List gm_S} {m : gm_M} {K K' : gm_K} {R R' : gm_R} (hK : ∀ i ls st S m, K i ls st S m → K' i ls st S m) (hR : ∀ r S m, R r S m → R' r S m) (h : gm_step C ro ins p q x ts i ls st S m K R) : gm_step C' ro ins p q x ts i ls st S m K' R' := by
  unfold gm_step at h ⊢
  split at h <;> (try split at h) <;> (try split at h) <;> first
    | exact h.elim
    | exact hK _ _ _ _ _ h
    | exact hR _ _ _ h
    | exact ⟨h.1, hK _ _ _ _ _ h.2⟩
    | exact ⟨h.1, hR _ _ _ h.2⟩
    | exact ⟨h.1, h.2.1, hK _ _ _ _ _ h.2.2⟩
    | exact ⟨fun c => hK _ _ _ _ _ (h.1 c), fun c => hK _ _ _ _ _ (h.2 c)⟩
    | exact ⟨h.1, h.2.1, hC _ _ _ _ _ _ _ h.2.2.1, hK _ _ _ _ _ h.2.2.2⟩
    | exact ⟨h.1, hC _ _ _ _ _ _ _ h.2.1, hK _ _ _ _ _ h.2.2⟩
    | exact ⟨h.1, by
        obtain ⟨b, h1, h2⟩ := h.2
        exact ⟨b, h1, hK _ _ _ _ _ h2⟩⟩
    | exact ⟨h.1, h.2.1, by
        obtain ⟨r, S', m', h1, h2⟩ := h.2.2
        exact ⟨r, S', m', hC _ _ _ _ _ _ _ h1, hK _ _ _ _ _ h2⟩⟩
    | exact ⟨h.1, h.2.1, h.2.2.1, by
        obtain ⟨r, S', m', h1, h2⟩ := h.2.2.2
        exact ⟨r, S', m', hC _ _ _ _ _ _ _ h1, hK _ _ _ _ _ h2⟩⟩
    | (refine ⟨h.1, ?_⟩
       have h2 := h.2
       split at h2
       · exact hK _ _ _ _ _ h2
       · obtain ⟨b, h3, h4⟩ := h2
         exact ⟨b, h3, hK _ _ _ _ _ h4⟩)
theorem gm_at_mono {C C' : gm_C} (hC : ∀ k a S m r S' m', C k a S m r S' m' → C' k a S m r S' m') {ro : Nat → Nat × (Int → Int)} {code : List gm_O} {i : Nat} {ls st : List gm_V} {S : List gm_S} {m : gm_M} {K K' : gm_K} {R R' : gm_R} (hK : ∀ i ls st S m, K i ls st S m → K' i ls st S m) (hR : ∀ r S m, R r S m → R' r S m) (h : gm_at C ro code i ls st S m K R) : gm_at C' ro code i ls st S m K' R' := by
  unfold gm_at at h ⊢
  split at h
  · exact gm_step_mono hC hK hR h
  · exact h.elim
theorem gm_fold {C : gm_C} {ro : Nat → Nat × (Int → Int)} {code : List gm_O} {R : gm_R} {i : Nat} {ls st : List gm_V} {S : List gm_S} {m : gm_M} (h : gm_at C ro code i ls st S m (gm_wp C ro code R) R) : gm_wp C ro code R i ls st S m :=
  fun X hX => hX _ _ _ _ _ (gm_at_mono (fun _ _ _ _ _ _ _ h => h) (fun _ _ _ _ _ h => h X hX) (fun _ _ _ h => h) h)
/-- one step: the place is no loop's head -/
theorem gm_go {C : gm_C} {ro : Nat → Nat × (Int → Int)} {code : List gm_O} {R : gm_R} {i : Nat} {ls st : List gm_V} {S : List gm_S} {m : gm_M} {pc p q : Nat} {ins : Instr} {x : Int} {ts : List (Int × Nat)} (ho : code[i]? = some (false, pc, ins, p, q, x, ts)) (h : gm_step C ro ins p q x ts i ls st S m (gm_wp C ro code R) R) : gm_wp C ro code R i ls st S m := by
  refine gm_fold ?_
  unfold gm_at
  rw [ho]
  exact h
/-- one step at any place -/
theorem gm_hd {C : gm_C} {ro : Nat → Nat × (Int → Int)} {code : List gm_O} {R : gm_R} {i : Nat} {ls st : List gm_V} {S : List gm_S} {m : gm_M} {b : Bool} {pc p q : Nat} {ins : Instr} {x : Int} {ts : List (Int × Nat)} (ho : code[i]? = some (b, pc, ins, p, q, x, ts)) (h : gm_step C ro ins p q x ts i ls st S m (gm_wp C ro code R) R) : gm_wp C ro code R i ls st S m := by
  refine gm_fold ?_
  unfold gm_at
  rw [ho]
  exact h
theorem gm_wp_mono {C C' : gm_C} (hC : ∀ k a S m r S' m', C k a S m r S' m' → C' k a S m r S' m') {ro : Nat → Nat × (Int → Int)} {code : List gm_O} {R R' : gm_R} (hR : ∀ r S m, R r S m → R' r S m) {i : Nat} {ls st : List gm_V} {S : List gm_S} {m : gm_M} (h : gm_wp C ro code R i ls st S m) : gm_wp C' ro code R' i ls st S m :=
  h _ (fun _ _ _ _ _ h => gm_fold (gm_at_mono hC (fun _ _ _ _ _ h => h) hR h))
/-- a method: its name, code, locals, answer's type, its class's number, its instructions -/
abbrev gm_Me : Type := MethodName × ByteArray × Nat × Option FieldType × Nat × List gm_O
def gm_en (args : List gm_V) : List gm_V := match args with
  | [] => []
  | v :: l => match v with
    | some (.inr (.inr (.inl x))) => gL x :: none :: gm_en l
    | v => v :: gm_en l
def gm_sem (MT : Nat → Option gm_Me) (ro : Nat → Nat × (Int → Int)) : Nat → gm_C
  | 0 => fun _ _ _ _ _ _ _ => False
  | d + 1 => fun k args S m r S' m' => (k = 999 ∧ r = none ∧ S' = S ∧ m' = m) ∨ ∃ M, MT k = some M ∧ (gm_en args).length ≤ M.2.2.1 ∧ gm_wp (gm_sem MT ro d) ro M.2.2.2.2.2 (fun r1 S1 m1 => r1 = r ∧ S1 = S' ∧ m1 = m') 0 (gm_en args ++ List.replicate (M.2.2.1 - (gm_en args).length) none) [] S m
theorem gm_sem_succ (MT : Nat → Option gm_Me) (ro : Nat → Nat × (Int → Int)) : ∀ (d : Nat) k a S m r S' m', gm_sem MT ro d k a S m r S' m' → gm_sem MT ro (d + 1) k a S m r S' m' := by
  intro d
  induction d with
  | zero => intro k a S m r S' m' h; exact h.elim
  | succ d ih =>
    intro k a S m r S' m' h
    rcases h with h | ⟨M, h1, h0, h2⟩
    · exact Or.inl h
    · exact Or.inr ⟨M, h1, h0, gm_wp_mono ih (fun _ _ _ h => h) h2⟩
theorem gm_sem_le {MT : Nat → Option gm_Me} {ro : Nat → Nat × (Int → Int)} {d e : Nat} (hde : d ≤ e) {k a S m r S' m'} (h : gm_sem MT ro d k a S m r S' m') : gm_sem MT ro e k a S m r S' m' := by
  induction hde with
  | refl => exact h
  | step _ ih => exact gm_sem_succ MT ro _ _ _ _ _ _ _ _ ih
