/-! ===== the two makings: what they do is computed, and the computing is sound ===== -/
def cx_is (S : List gm_S) (a : Int) (c : Nat) : Bool := decide (0 ≤ a) && (match S[a.toNat]? with
  | some s => decide (s.1 = c)
  | none => false)
theorem cx_is_ok {S : List gm_S} {a : Int} {c : Nat} (h : cx_is S a c = true) : gm_is S a c := by
  unfold cx_is at h
  rw [Bool.and_eq_true] at h
  refine ⟨of_decide_eq_true h.1, ?_⟩
  have h2 := h.2
  split at h2
  · rename_i sz hs
    have ez : sz.1 = c := of_decide_eq_true h2
    exact ⟨sz.2.1, sz.2.2, by rw [hs, ← ez]⟩
  · exact absurd h2 (by decide)
def cx_in (S : List gm_S) (a : Int) (c : Nat) (j : Int) : Bool := decide (0 ≤ a) && (decide (0 ≤ j) && (match S[a.toNat]? with
  | some s => decide (s.1 = c) && decide (j < (s.2.1 : Int))
  | none => false))
theorem cx_in_ok {S : List gm_S} {a : Int} {c : Nat} {j : Int} (h : cx_in S a c j = true) : gm_in S a c j := by
  unfold cx_in at h
  rw [Bool.and_eq_true, Bool.and_eq_true] at h
  refine ⟨of_decide_eq_true h.1, of_decide_eq_true h.2.1, ?_⟩
  have h2 := h.2.2
  split at h2
  · rename_i sz hs
    rw [Bool.and_eq_true] at h2
    have ez : sz.1 = c := of_decide_eq_true h2.1
    exact ⟨sz.2.1, sz.2.2, by rw [hs, ← ez], of_decide_eq_true h2.2⟩
  · exact absurd h2 (by decide)
/-- the steps that the makings take; nothing where one isn't known -/
def cxr (call : Nat → List gm_V → List gm_S → Option (List gm_S)) (code : List gm_O) : Nat → Nat → List gm_V → List gm_V → List gm_S → Option (List gm_S)
  | 0, _, _, _, _ => none
  | f + 1, i, ls, st, S => match code[i]? with
    | none => none
    | some (_, _, ins, p, q, x, ts) => match ins with
      | .aload_n _ => match ls[p]? with
        | some (some (.inr (.inl v))) => cxr call code f (i + 1) ls (gA v :: st) S
        | _ => none
      | .iload_n _ => match ls[p]? with
        | some (some (.inl v)) => cxr call code f (i + 1) ls (gI v :: st) S
        | _ => none
      | .istore_n _ => match st with
        | some (.inl v) :: t => cxr call code f (i + 1) (gm_s1 ls p (gI v)) t S
        | _ => none
      | .iconst _ => cxr call code f (i + 1) ls (gI x :: st) S
      | .bipush _ => cxr call code f (i + 1) ls (gI x :: st) S
      | .sipush _ => cxr call code f (i + 1) ls (gI x :: st) S
      | .dup => match st with
        | some (.inr (.inl a)) :: t => cxr call code f (i + 1) ls (gA a :: gA a :: t) S
        | _ => none
      | .new _ => cxr call code f (i + 1) ls (gA (S.length : Int) :: st) (S ++ [(p, q, List.replicate q none)])
      | .newarray _ => match st with
        | some (.inl n) :: t => if 0 ≤ n ∧ n ≤ 100000 then cxr call code f (i + 1) ls (gA (S.length : Int) :: t) (S ++ [(p, n.toNat, [])]) else none
        | _ => none
      | .anewarray _ => match st with
        | some (.inl n) :: t => if 0 ≤ n ∧ n ≤ 100000 then cxr call code f (i + 1) ls (gA (S.length : Int) :: t) (S ++ [(p, n.toNat, List.replicate n.toNat none)]) else none
        | _ => none
      | .putfield _ => match ts, st with
        | _ :: _, some (.inr (.inl b)) :: some (.inr (.inl a)) :: t => if cx_is S a p = true then cxr call code f (i + 1) ls t (gm_sr S a q b) else none
        | _, _ => none
      | .getfield _ => match ts, st with
        | _ :: _, some (.inr (.inl a)) :: t => if cx_is S a p = true then (match gm_rf S a q with
          | some b => cxr call code f (i + 1) ls (gA b :: t) S
          | none => none) else none
        | _, _ => none
      | .aastore => match st with
        | some (.inr (.inl v)) :: some (.inl j) :: some (.inr (.inl a)) :: t => if cx_in S a p j = true ∧ cx_is S v q = true then cxr call code f (i + 1) ls t (gm_sr S a j.toNat v) else none
        | _ => none
      | .iinc _ _ => match ls[p]? with
        | some (some (.inl v)) => cxr call code f (i + 1) (gm_s1 ls p (gI (w32 (v + x)))) st S
        | _ => none
      | .goto _ => cxr call code f p ls st S
      | .if_icmp .ge _ => match st with
        | some (.inl b) :: some (.inl a) :: t => if a ≥ b then cxr call code f p ls t S else cxr call code f (i + 1) ls t S
        | _ => none
      | .invokespecial _ => if p = 999 then (match st with
          | some (.inr (.inl _)) :: t => if gm_wd t ≤ 8 then cxr call code f (i + 1) ls t S else none
          | _ => none) else (if q ≤ st.length ∧ gm_wd (st.drop q) ≤ 8 then (match (st.take q).reverse with
            | some (.inr (.inl b)) :: r => if cx_is S b x.toNat = true then (match call p (gA b :: r) S with
              | some S' => cxr call code f (i + 1) ls (st.drop q) S'
              | none => none) else none
            | _ => none) else none)
      | .return_ => match st with
        | [] => some S
        | _ => none
      | _ => none
set_option maxHeartbeats 4000000 in
theorem cxr_ok {C : gm_C} {ro : Nat → Nat × (Int → Int)} {m : gm_M} {call : Nat → List gm_V → List gm_S → Option (List gm_S)} {code : List gm_O} (hC : ∀ k a S S', call k a S = some S' → C k a S m none S' m) (h9 : ∀ S, C 999 [] S m none S m) : ∀ (f i : Nat) (ls st : List gm_V) (S S' : List gm_S), cxr call code f i ls st S = some S' → gm_wp C ro code (fun r S1 m1 => r = none ∧ S1 = S' ∧ m1 = m) i ls st S m := by
  intro f
  induction f with
  | zero => intro i ls st S S' hz; exact absurd hz (by simp [cxr])
  | succ f ih =>
    intro i ls st S S' hz
    unfold cxr at hz
    refine gm_fold ?_
    unfold gm_at
    split at hz
    · exact absurd hz (by simp)
    · rename_i b0 pc ins pz qz xz ts ho
      rw [ho]
      dsimp only
      unfold gm_step
      split at hz
      · split at hz
        · rename_i hv
          simp only [hv]
          exact ih _ _ _ _ _ hz
        · exact absurd hz (by simp)
      · split at hz
        · rename_i hv
          simp only [hv]
          exact ih _ _ _ _ _ hz
        · exact absurd hz (by simp)
      · split at hz
        · exact ih _ _ _ _ _ hz
        · exact absurd hz (by simp)
      · exact ih _ _ _ _ _ hz
      · exact ih _ _ _ _ _ hz
      · exact ih _ _ _ _ _ hz
      · split at hz
        · exact ih _ _ _ _ _ hz
        · exact absurd hz (by simp)
      · exact ih _ _ _ _ _ hz
      · split at hz
        · split at hz
          · rename_i hn
            exact ⟨hn.1, hn.2, ih _ _ _ _ _ hz⟩
          · exact absurd hz (by simp)
        · exact absurd hz (by simp)
      · split at hz
        · split at hz
          · rename_i hn
            exact ⟨hn.1, hn.2, ih _ _ _ _ _ hz⟩
          · exact absurd hz (by simp)
        · exact absurd hz (by simp)
      · split at hz
        · split at hz
          · rename_i hn
            exact ⟨cx_is_ok hn, ih _ _ _ _ _ hz⟩
          · exact absurd hz (by simp)
        · exact absurd hz (by simp)
      · split at hz
        · split at hz
          · rename_i hn
            split at hz
            · rename_i bz hbz
              exact ⟨cx_is_ok hn, bz, hbz, ih _ _ _ _ _ hz⟩
            · exact absurd hz (by simp)
          · exact absurd hz (by simp)
        · exact absurd hz (by simp)
      · split at hz
        · split at hz
          · rename_i hn
            exact ⟨cx_in_ok hn.1, cx_is_ok hn.2, ih _ _ _ _ _ hz⟩
          · exact absurd hz (by simp)
        · exact absurd hz (by simp)
      · split at hz
        · rename_i hv
          simp only [hv]
          exact ih _ _ _ _ _ hz
        · exact absurd hz (by simp)
      · exact ih _ _ _ _ _ hz
      · split at hz
        · split at hz
          · rename_i hn
            exact ⟨fun _ => ih _ _ _ _ _ hz, fun zz => absurd hn zz⟩
          · rename_i hn
            exact ⟨fun zz => absurd zz hn, fun _ => ih _ _ _ _ _ hz⟩
        · exact absurd hz (by simp)
      · split at hz
        · rename_i hp
          subst hp
          split at hz
          · split at hz
            · rename_i hw
              exact ⟨hw, h9 _, ih _ _ _ _ _ hz⟩
            · exact absurd hz (by simp)
          · exact absurd hz (by simp)
        · rename_i hp
          split at hz
          · rename_i hq
            split at hz
            · rename_i bz r hr
              split at hz
              · rename_i hiz
                split at hz
                · rename_i S1 h1
                  dsimp only
                  split
                  · exact absurd rfl hp
                  · refine ⟨hq.1, hq.2, ?_, none, S1, m, ?_, ih _ _ _ _ _ hz⟩
                    · rw [hr]; exact cx_is_ok hiz
                    · rw [hr]; exact hC _ _ _ _ h1
                · exact absurd hz (by simp)
              · exact absurd hz (by simp)
            · exact absurd hz (by simp)
          · exact absurd hz (by simp)
      · split at hz
        · exact ⟨rfl, Option.some.inj hz, rfl⟩
        · exact absurd hz (by simp)
      · exact absurd hz (by simp)
def cxm : Nat → Nat → List gm_V → List gm_S → Option (List gm_S)
  | 0, _, _, _ => none
  | 1, _, _, _ => none
  | d + 2, k, args, S => match MT k with
    | none => none
    | some M => if (gm_en args).length ≤ M.2.2.1 then cxr (cxm (d + 1)) M.2.2.2.2.2 2000 0 (gm_en args ++ List.replicate (M.2.2.1 - (gm_en args).length) none) [] S else none
theorem cxm_ok {ro : Nat → Nat × (Int → Int)} {m : gm_M} : ∀ (d k : Nat) (args : List gm_V) (S S' : List gm_S), cxm d k args S = some S' → gm_sem MT ro d k args S m none S' m := by
  intro d
  induction d with
  | zero => intro k args S S' hz; exact absurd hz (by simp [cxm])
  | succ d ih =>
    intro k args S S' hz
    match d, ih, hz with
    | 0, _, hz => exact absurd hz (by simp [cxm])
    | d + 1, ih, hz =>
      unfold cxm at hz
      split at hz
      · exact absurd hz (by simp)
      · rename_i M hMz
        split at hz
        · rename_i hl
          refine Or.inr ⟨M, hMz, hl, ?_⟩
          exact cxr_ok (ro := ro) (m := m) ih (fun S => Or.inl ⟨rfl, rfl, rfl, rfl⟩) _ _ _ _ _ _ hz
        · exact absurd hz (by simp)
