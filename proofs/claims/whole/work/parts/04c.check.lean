/-! ===== what is checked of a method's instructions, and what the links' pool says ===== -/
def gm_cn : List String := [RX0, RX1, RX2, RX3, RX4, RX5, RX6, RX7, RX8, RL, RJ6, RJ9, RJ7]
abbrev gm_P : Type := List (Nat × Nat × Nat × Nat × Nat)
abbrev gm_Q : Type := List (Nat × Nat × Int)
def gm_pc (code : List gm_O) (i : Nat) : Nat := match code[i]? with
  | some o => o.2.1
  | none => 0
def gm_ln (ins : Instr) (q : Nat) : Nat := match ins with
  | .iload _ | .aload _ | .lload _ | .istore _ | .lstore _ | .astore _ | .bipush _ | .ldc _ | .newarray _ => 2
  | .sipush _ | .ldc_w _ | .ldc2_w _ | .iinc _ _ | .goto _ | .ifCond _ _ | .if_icmp _ _ | .getfield _ | .putfield _ | .getstatic _ | .invokevirtual _ | .invokespecial _ | .invokestatic _ | .new _ | .anewarray _ => 3
  | .tableswitch _ _ _ _ | .lookupswitch _ _ => q
  | _ => 1
def gm_nx (code : List gm_O) (i n : Nat) : Bool := Nat.beq (gm_pc code (i + 1)) (gm_pc code i + n)
def gm_tg (code : List gm_O) (i : Nat) (off : Int) (t : Nat) : Bool := decide ((gm_pc code i : Int) + off = (gm_pc code t : Int))
def gm_rg (x : Int) : Bool := decide (-2147483648 ≤ x ∧ x ≤ 2147483647)
def gm_rgl (x : Int) : Bool := decide (-9223372036854775808 ≤ x ∧ x ≤ 9223372036854775807)
def gm_fin (c k : Nat) : Bool := match vwCl[c]? with
  | some r => (r.2.1 k).2.2.2
  | none => true
/-- pl: the links; cp, lp: the constants; np: how many parameters the methods have; own: the class's number -/
def gm_chk (pl : gm_P) (cp lp : gm_Q) (np : List Nat) (own nL : Nat) (ret : Option FieldType) (ini : Bool) (code : List gm_O) (i : Nat) (ins : Instr) (p q : Nat) (x : Int) (ts : List (Int × Nat)) : Bool := match ins with
  | .iload k => Nat.beq k p && gm_nx code i 2
  | .lload k => Nat.beq k p && gm_nx code i 2
  | .aload k => Nat.beq k p && gm_nx code i 2
  | .iload_n k => Nat.beq k.val p && gm_nx code i 1
  | .lload_n k => Nat.beq k.val p && gm_nx code i 1
  | .aload_n k => Nat.beq k.val p && gm_nx code i 1
  | .istore k => Nat.beq k p && (decide (p < nL) && gm_nx code i 2)
  | .lstore k => Nat.beq k p && (decide (p + 1 < nL) && gm_nx code i 2)
  | .astore k => Nat.beq k p && (decide (p < nL) && gm_nx code i 2)
  | .istore_n k => Nat.beq k.val p && (decide (p < nL) && gm_nx code i 1)
  | .lstore_n k => Nat.beq k.val p && (decide (p + 1 < nL) && gm_nx code i 1)
  | .astore_n k => Nat.beq k.val p && (decide (p < nL) && gm_nx code i 1)
  | .iconst n => decide (Int32.ofInt n = Int32.ofInt x) && (gm_rg x && gm_nx code i 1)
  | .bipush n => decide ((Int8.ofInt n).toInt32 = Int32.ofInt x) && (gm_rg x && gm_nx code i 2)
  | .sipush n => decide ((Int16.ofInt n).toInt32 = Int32.ofInt x) && (gm_rg x && gm_nx code i 3)
  | .ldc n => cp.contains (own, n, x) && (gm_rg x && gm_nx code i 2)
  | .ldc_w n => cp.contains (own, n, x) && (gm_rg x && gm_nx code i 3)
  | .lconst n => decide (Int64.ofNat (n : Nat) = Int64.ofInt x) && (gm_rgl x && gm_nx code i 1)
  | .ldc2_w n => lp.contains (own, n, x) && (gm_rgl x && gm_nx code i 3)
  | .iinc k n => Nat.beq k p && (decide (p < nL) && (decide (n = x) && (gm_rg x && gm_nx code i 3)))
  | .goto off => gm_tg code i off p
  | .ifCond _ off => gm_tg code i off p && gm_nx code i 3
  | .if_icmp _ off => gm_tg code i off p && gm_nx code i 3
  | .tableswitch d lo hi offs => gm_tg code i d p && (decide (hi + 1 = lo + (ts.length : Int)) && (decide (offs.size = ts.length) && (List.range ts.length).all (fun k => match ts[k]?, offs[k]? with
      | some y, some off => decide (y.1 = lo + (k : Int)) && gm_tg code i off y.2
      | _, _ => false)))
  | .lookupswitch d ps => gm_tg code i d p && ((ps.toList.zip (ps.toList.drop 1)).all (fun (a, next) => a.1 < next.1) && (decide (ps.toList.map (fun y => y.1) = ts.map (fun y => y.1)) && (ps.toList.zip ts).all (fun y => gm_tg code i y.1.2 y.2.2)))
  | .getfield n => pl.contains (0, own, n, p, q) && (decide (x = (q : Int)) && ((gm_fi p q == ts.isEmpty) && gm_nx code i 3))
  | .putfield n => pl.contains (0, own, n, p, q) && (decide (x = (q : Int)) && ((gm_fi p q == ts.isEmpty) && ((!gm_fin p q || (ini && Nat.beq p own)) && gm_nx code i 3)))
  | .getstatic n => pl.contains (9, own, n, p, 0) && gm_nx code i 3
  | .aaload => (Nat.beq p 12 || Nat.beq p 13) && gm_nx code i 1
  | .aastore => ((Nat.beq p 12 && Nat.beq q 1) || (Nat.beq p 13 && Nat.beq q 2)) && gm_nx code i 1
  | .new n => pl.contains (7, own, n, p, q) && gm_nx code i 3
  | .newarray t => ((decide (t = .int) && Nat.beq p 10) || (decide (t = .boolean) && Nat.beq p 11)) && gm_nx code i 2
  | .anewarray n => pl.contains (8, own, n, p, 0) && gm_nx code i 3
  | .invokevirtual n => pl.contains (1, own, n, p, x.toNat) && (decide (np[p]? = some (q - 1)) && (decide (1 ≤ q) && gm_nx code i 3))
  | .invokestatic n => gm_nx code i 3 && (if p = 998 then pl.contains (6, own, n, 0, 0) else if p = 997 then pl.contains (10, own, n, 0, 0) else if p = 996 then pl.contains (11, own, n, 0, 0) else pl.contains (2, own, n, p, 0) && decide (np[p]? = some q))
  | .invokespecial n => gm_nx code i 3 && (if p = 999 then pl.contains (5, own, n, 0, 0) else (pl.contains (3, own, n, p, x.toNat) || pl.contains (4, own, n, p, x.toNat)) && (decide (np[p]? = some (q - 1)) && decide (1 ≤ q)))
  | .ireturn => (decide (ret = some .int) && Nat.beq p 0) || (decide (ret = some .boolean) && Nat.beq p 1)
  | .lreturn => decide (ret = some .long)
  | .return_ => decide (ret = none)
  | .iadd | .isub | .imul | .idiv | .irem | .iand | .ior | .ixor | .ishl | .ishr | .iushr | .ladd | .lmul | .ldiv | .lrem | .lcmp | .i2l | .l2i | .dup | .dup2 | .pop | .iaload | .iastore | .baload | .bastore | .arraylength => gm_nx code i 1
  | _ => false
def gm_ck (pl : gm_P) (cp lp : gm_Q) (np : List Nat) (own nL : Nat) (ret : Option FieldType) (ini : Bool) (cc : ByteArray) (code : List gm_O) : Prop :=
  ∀ (i : Nat) (h : Bool) (pc : Nat) (ins : Instr) (p q : Nat) (x : Int) (ts : List (Int × Nat)), code[i]? = some (h, pc, ins, p, q, x, ts) → decode cc pc = .ok (ins, gm_ln ins q) ∧ gm_chk pl cp lp np own nL ret ini code i ins p q x ts = true
/-- the words that every method bears -/
def gm_TW : List Cond := lw_tbl.filter goodWord
theorem gm_TW_mem {w : Cond} (h : w ∈ lw_tbl) (hg : goodWord w = true) : w ∈ gm_TW := List.mem_filter.mpr ⟨h, hg⟩
def gm_nest (w : Cond) : Bool := match w with
  | .methodLinkNest _ _ _ _ => true
  | .fieldLinkNest _ _ _ _ _ _ => true
  | _ => false
/-- the classes' fields: the tables' words of them, their types, their names apart -/
def gm_CF : Prop := ∀ (k : Nat) (r : vw_C), vwCl[k]? = some r → gm_cn[k]? = some r.1 ∧ (∀ w ∈ u_ws r.1 r.2.1 r.2.2, w ∈ gm_TW) ∧ Cond.initialized r.1 ∈ gm_TW ∧ Cond.instantiable r.1 r.2.2 ∈ gm_TW ∧ ∃ ty : Nat → FieldType, (∀ j, j < r.2.2 → parseFieldDescriptor (r.2.1 j).2.2.1 = some (ty j)) ∧ (∀ a, a < r.2.2 → ∀ b, b < r.2.2 → a ≠ b → (r.2.1 a).2.1 ≠ (r.2.1 b).2.1) ∧ ∀ j, j < r.2.2 → (r.2.1 j).1 = r.1 ∧ (gm_fi k j = true → ty j = .int) ∧ (gm_fi k j = false → (∃ n, ty j = .object n) ∨ ∃ t, ty j = .array t)
/-- the links, one by one -/
def gm_pf (MT : Nat → Option gm_Me) (o : Nat × Nat × Nat × Nat × Nat) : Prop := ∃ on, gm_cn[o.2.1]? = some on ∧ match o with
  | (0, _, n, k, j) => ∃ r, vwCl[k]? = some r ∧ j < r.2.2 ∧ Cond.fieldLink on n r.1 (r.2.1 j).2.1 (r.2.1 j).2.2.1 ∈ gm_TW
  | (1, _, n, k, j) => ∃ r M, vwCl[j]? = some r ∧ MT k = some M ∧ M.1.cls = r.1 ∧ Cond.methodLink on n M.1 ∈ gm_TW ∧ Cond.instanceMethod M.1 ∈ gm_TW ∧ Cond.selects r.1 M.1 M.1 ∈ gm_TW
  | (2, _, n, k, _) => ∃ M, MT k = some M ∧ Cond.methodLink on n M.1 ∈ gm_TW ∧ Cond.static M.1 ∈ gm_TW
  | (3, _, n, k, j) => ∃ r M, vwCl[j]? = some r ∧ MT k = some M ∧ M.1.cls = r.1 ∧ M.1.name = "<init>" ∧ M.2.2.2.1 = none ∧ Cond.methodLink on n M.1 ∈ gm_TW ∧ Cond.instanceMethod M.1 ∈ gm_TW
  | (4, _, n, k, j) => ∃ r M h, vwCl[j]? = some r ∧ MT k = some M ∧ M.1.cls = r.1 ∧ M.1.name = "<init>" ∧ M.2.2.2.1 = none ∧ Cond.methodLinkNest on n M.1 h ∈ lw_tbl ∧ Cond.instanceMethod M.1 ∈ gm_TW
  | (5, _, n, _, _) => Cond.methodLink on n Lib.objectInit ∈ gm_TW ∧ Cond.instanceMethod Lib.objectInit ∈ gm_TW ∧ Cond.code Lib.objectInit ⟨#[0xb1]⟩ 1 none ∈ gm_TW
  | (6, _, n, _, _) => Cond.methodLink on n arraycopyName ∈ gm_TW ∧ Cond.native arraycopyName ∈ gm_TW ∧ Cond.static arraycopyName ∈ gm_TW ∧ Cond.initialized "java/lang/System" ∈ gm_TW
  | (7, _, n, k, j) => ∃ r, vwCl[k]? = some r ∧ j = r.2.2 ∧ Cond.classLink on n r.1 ∈ gm_TW
  | (8, _, n, k, _) => (k = 12 ∧ Cond.classLink on n RX1 ∈ gm_TW) ∨ (k = 13 ∧ Cond.classLink on n RX2 ∈ gm_TW)
  | (9, _, n, k, _) => (k = 1 ∧ Cond.fieldLinkNest on n "HotLetters" "OPEN_TASTE" "[I" "HotLetters" ∈ lw_tbl) ∨ (k = 2 ∧ Cond.fieldLinkNest on n "HotLetters" "SEALED_TASTE" "[I" "HotLetters" ∈ lw_tbl)
  | (10, _, n, _, _) => Cond.methodLink on n Lib.Math.max.name ∈ gm_TW ∧ Cond.static Lib.Math.max.name ∈ gm_TW ∧ Cond.initialized "java/lang/Math" ∈ gm_TW ∧ Cond.code Lib.Math.max.name Lib.Math.max.code 2 (some .int) ∈ gm_TW
  | (11, _, n, _, _) => Cond.methodLink on n Lib.Math.min.name ∈ gm_TW ∧ Cond.static Lib.Math.min.name ∈ gm_TW ∧ Cond.initialized "java/lang/Math" ∈ gm_TW ∧ Cond.code Lib.Math.min.name Lib.Math.min.code 2 (some .int) ∈ gm_TW
  | _ => False
/-- a method: its code's words, its class, its parameters -/
def gm_mf (np : List Nat) (pl : gm_P) (cp lp : gm_Q) (k : Nat) (M : gm_Me) : Prop :=
  gm_cn[M.2.2.2.2.1]? = some M.1.cls ∧ plainName M.1.cls = true ∧ Cond.code M.1 M.2.1 M.2.2.1 M.2.2.2.1 ∈ gm_TW ∧ Cond.initialized M.1.cls ∈ gm_TW ∧ M.1.cls ≠ "java/lang/invoke/MethodHandle" ∧ M.1.cls ≠ "java/lang/invoke/VarHandle" ∧ (∃ n, np[k]? = some n ∧ (parseMethodDescriptor M.1.desc).map (fun d => d.parameters.length) = some n) ∧ M.2.2.1 ≤ 23 ∧ gm_pc M.2.2.2.2.2 0 = 0 ∧
  gm_ck pl cp lp np M.2.2.2.2.1 M.2.2.1 M.2.2.2.1 (decide (M.1.name = "<init>")) M.2.1 M.2.2.2.2.2
/-- all that is checked -/
def gm_All (MT : Nat → Option gm_Me) (np : List Nat) (pl : gm_P) (cp lp : gm_Q) : Prop :=
  gm_CF ∧ (∀ o ∈ pl, gm_pf MT o) ∧ (∀ o ∈ cp, ∃ on, gm_cn[o.1]? = some on ∧ Cond.constant on o.2.1 (Int32.ofInt o.2.2) ∈ gm_TW) ∧ (∀ o ∈ lp, ∃ on, gm_cn[o.1]? = some on ∧ Cond.constantLong on o.2.1 (Int64.ofInt o.2.2) ∈ gm_TW) ∧ (∀ k M, MT k = some M → gm_mf np pl cp lp k M) ∧ Cond.arrayClass .int ∈ gm_TW ∧ Cond.arrayClass .boolean ∈ gm_TW
/-! ===== the ground that a method's body stands on ===== -/
def gm_ro (ro : Nat → Nat × (Int → Int)) (ad : Nat → Nat) (A : Nat → Prop) (U : State) (H : Heap) : Prop := ∀ r, r < 3 → va_T .int (ad r) (ro r).1 (fun j => .int (Int32.ofInt ((ro r).2 (j : Int)))) A U H ∧ (∀ j, gm_i ((ro r).2 j)) ∧ (ro r).1 < 2147483648
def gm_U (D : va_G) (ci : gm_ids) (A : Nat → Prop) (ad : Nat → Nat) (ro : Nat → Nat × (Int → Int)) (U : State) : Prop :=
  va_K D vwCl (gm_tys ci) U ∧ (∀ q, U.heap.size ≤ q → A q) ∧ gm_ro ro ad A U U.heap ∧ va_Z "HotLetters" "OPEN_TASTE" "[I" (.ref (ad 1)) A U U.heap ∧ va_Z "HotLetters" "SEALED_TASTE" "[I" (.ref (ad 2)) A U U.heap ∧ va_AO RX1 U ∧ va_AO RX2 U ∧ ∀ w ∈ lw_tbl, gm_nest w = true → va_Nw w U
def gm_Env (p : Program) (s : State) (mm : MethodId) (meth : Method) (c : Code) (args : Array Value) (cc : ByteArray) (own : String) (nL : Nat) (D : va_G) (ci : gm_ids) (A : Nat → Prop) (ad : Nat → Nat) (ro : Nat → Nat × (Int → Int)) (ini : Bool) : Prop :=
  p.tables.exec = Jvm.exec ∧ c.code = cc ∧ c.maxLocals = nL ∧ s.vm.findClass own = some mm.cls ∧ (∀ w ∈ gm_TW, w.before args s = true) ∧ gm_U D ci A ad ro s ∧ (ini = true → meth.name = "<init>")
def gm_sz (S : List gm_S) : Nat := (S.map (fun sh => sh.2.1)).sum
/-- at a place: the machine comes to Q -/
def gm_X (p : Program) (l : Launch) (e : Env) (Rm : Room) (s : State) (mm : MethodId) (args : Array Value) (below : List Frame) (meth : Method) (c : Code) (Q : State → Prop) (D : va_G) (ci : gm_ids) (A : Nat → Prop) (ad : Nat → Nat) (S0 S' : List gm_S) (as0 : List Nat) (Fn : Prop) (nL : Nat) (code : List gm_O) (cc : ByteArray) (own : String) (ro : Nat → Nat × (Int → Int)) (ini : Bool) : gm_K := fun i ls st S m =>
  S.length ≤ S'.length ∧ gm_sz S ≤ gm_sz S' ∧ (gm_I ls st S m → ls.length = nL → S0.length ≤ S.length → gm_sz S0 ≤ gm_sz S → Fn ∧ (gm_Env p s mm meth c args cc own nL D ci A ad ro ini → ∀ (as : List Nat) (arr : Array Slot) (H : Heap) (locs : List Loc), as0 <+: as → as.length = S.length → gm_loc as ad arr nL ls → va_P D vwCl (gm_W ci as S m) H → va_D A (gm_W ci as S m) → va_S A s.heap H locs →
    W p l e Rm s mm args below meth c H locs (S.length - S0.length) (gm_sz S - gm_sz S0) Q (F0 mm (gm_pc code i) arr (st.map (gm_cv as ad)))))
section GM1
variable {p : Program} {l : Launch} {e : Env} {Rm : Room} {s : State} {mm : MethodId} {args : Array Value} {below : List Frame} {meth : Method} {c : Code} {Q : State → Prop} {D : va_G} {ci : gm_ids} {A : Nat → Prop} {ad : Nat → Nat} {S0 S' : List gm_S} {as0 : List Nat} {Fn : Prop} {nL : Nat} {code : List gm_O} {cc : ByteArray} {own : String} {ro : Nat → Nat × (Int → Int)} {ini : Bool}
/-- a step that leaves cells and memory as they are -/
theorem gm_pure {i i' : Nat} {ls ls' st st' : List gm_V} {S : List gm_S} {m : gm_M} (hX : gm_X p l e Rm s mm args below meth c Q D ci A ad S0 S' as0 Fn nL code cc own ro ini i' ls' st' S m)
    (hI : gm_I ls st S m → ls.length = nL → (∀ v ∈ ls', gm_ok S.length v) ∧ (∀ v ∈ st', gm_ok S.length v) ∧ ls'.length = nL)
    (hW : gm_Env p s mm meth c args cc own nL D ci A ad ro ini → gm_I ls st S m → ∀ (as : List Nat) (arr : Array Slot) (H : Heap) (locs : List Loc) (cells slots : Nat), gm_loc as ad arr nL ls → va_S A s.heap H locs → va_P D vwCl (gm_W ci as S m) H → (∀ arr', gm_loc as ad arr' nL ls' → W p l e Rm s mm args below meth c H locs cells slots Q (F0 mm (gm_pc code i') arr' (st'.map (gm_cv as ad)))) → W p l e Rm s mm args below meth c H locs cells slots Q (F0 mm (gm_pc code i) arr (st.map (gm_cv as ad)))) :
    gm_X p l e Rm s mm args below meth c Q D ci A ad S0 S' as0 Fn nL code cc own ro ini i ls st S m := by
  refine ⟨hX.1, hX.2.1, fun I hl h1 h2 => ?_⟩
  obtain ⟨a1, a2, a3⟩ := hI I hl
  obtain ⟨f, w⟩ := hX.2.2 ⟨a1, a2, I.2.2⟩ a3 h1 h2
  exact ⟨f, fun E as arr H locs b1 b2 b3 b4 b5 b6 => hW E I as arr H locs _ _ b3 b6 b4 (fun arr' b7 => w E as arr' H locs b1 b2 b7 b4 b5 b6)⟩
theorem gm_nx_eq {i n : Nat} (h : gm_nx code i n = true) : gm_pc code (i + 1) = gm_pc code i + n := Nat.eq_of_beq_eq_true h
theorem gm_tg_eq {i t : Nat} {off : Int} (h : gm_tg code i off t = true) : (gm_pc code i : Int) + off = (gm_pc code t : Int) := of_decide_eq_true h
theorem gm_rg_eq {x : Int} (h : gm_rg x = true) : gm_i x := of_decide_eq_true (p := (-2147483648 ≤ x ∧ x ≤ 2147483647)) h
theorem gm_rgl_eq {x : Int} (h : gm_rgl x = true) : gm_l x := of_decide_eq_true (p := (-9223372036854775808 ≤ x ∧ x ≤ 9223372036854775807)) h
end GM1
