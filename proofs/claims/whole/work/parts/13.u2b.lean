/-! ===== the makings, at any place: what is computed at 0 holds behind any cells ===== -/
def shV (a : Int) (v : gm_V) : gm_V := match v with
  | some (.inr (.inl x)) => gA (x + a)
  | v => v
def shC (a : Int) (s : gm_S) : gm_S := (s.1, s.2.1, s.2.2.map (Option.map (fun x => x + a)))
def shF (P l : List gm_S) : List gm_S := P ++ l.map (shC (P.length : Int))
theorem shF_len (P l : List gm_S) : ((shF P l).length : Int) = (l.length : Int) + (P.length : Int) := by
  unfold shF
  rw [List.length_append, List.length_map]
  omega
theorem shF_get {P l : List gm_S} {x : Int} (h : 0 ≤ x) : (shF P l)[(x + (P.length : Int)).toNat]? = (l[x.toNat]?).map (shC (P.length : Int)) := by
  unfold shF
  rw [List.getElem?_append_right (by omega), show (x + (P.length : Int)).toNat - P.length = x.toNat by omega, List.getElem?_map]
theorem shF_new {P l : List gm_S} {p q : Nat} : shF P (l ++ [(p, q, List.replicate q none)]) = shF P l ++ [(p, q, List.replicate q none)] := by
  unfold shF
  rw [List.map_append, List.append_assoc]
  simp [shC]
theorem shF_arr {P l : List gm_S} {p q : Nat} : shF P (l ++ [(p, q, [])]) = shF P l ++ [(p, q, [])] := by
  unfold shF
  rw [List.map_append, List.append_assoc]
  simp [shC]
theorem shF_is {P l : List gm_S} {x : Int} {c : Nat} (h : cx_is l x c = true) : gm_is (shF P l) (x + (P.length : Int)) c := by
  obtain ⟨h0, nz, rs, h1⟩ := cx_is_ok h
  refine ⟨by omega, nz, rs.map (Option.map (fun x => x + (P.length : Int))), ?_⟩
  rw [shF_get h0, h1]
  rfl
theorem shF_in {P l : List gm_S} {x : Int} {c : Nat} {j : Int} (h : cx_in l x c j = true) : gm_in (shF P l) (x + (P.length : Int)) c j := by
  obtain ⟨h0, hj, nz, rs, h1, h2⟩ := cx_in_ok h
  refine ⟨by omega, hj, nz, rs.map (Option.map (fun x => x + (P.length : Int))), ?_, h2⟩
  rw [shF_get h0, h1]
  rfl
theorem cx_is_0 {S : List gm_S} {a : Int} {c : Nat} (h : cx_is S a c = true) : 0 ≤ a := (cx_is_ok h).1
theorem cx_in_0 {S : List gm_S} {a : Int} {c : Nat} {j : Int} (h : cx_in S a c j = true) : 0 ≤ a := (cx_in_ok h).1
theorem shF_rf {P l : List gm_S} {x b : Int} {q : Nat} (h0 : 0 ≤ x) (h : gm_rf l x q = some b) : gm_rf (shF P l) (x + (P.length : Int)) q = some (b + (P.length : Int)) := by
  unfold gm_rf at h ⊢
  rw [shF_get h0]
  cases ez : l[x.toNat]? with
  | none => rw [ez] at h; simp at h
  | some sz =>
    rw [ez] at h
    simp only [Option.map_some, shC, List.getElem?_map]
    have h2 : (sz.2.2[q]?).join = some b := h
    cases e2z : sz.2.2[q]? with
    | none => rw [e2z] at h2; simp at h2
    | some yz =>
      rw [e2z] at h2
      have h3 : yz = some b := by simpa using h2
      rw [h3]
      rfl
theorem shF_sr {P l : List gm_S} {x b : Int} {q : Nat} (h0 : 0 ≤ x) : shF P (gm_sr l x q b) = gm_sr (shF P l) (x + (P.length : Int)) q (b + (P.length : Int)) := by
  unfold gm_sr
  rw [shF_get h0]
  cases ez : l[x.toNat]? with
  | none => rfl
  | some sz =>
    simp only [Option.map_some]
    unfold shF
    rw [List.set_append_right _ _ (by omega), show (x + (P.length : Int)).toNat - P.length = x.toNat by omega, List.map_set]
    simp [shC, List.map_set]
theorem sh_kl {a : Int} {ls : List gm_V} {i : Nat} : (gm_kl ls i).map (shV a) = gm_kl (ls.map (shV a)) i := by
  unfold gm_kl
  cases i with
  | zero => rfl
  | succ jz =>
    simp only [List.getElem?_map]
    cases ez : ls[jz]? with
    | none => rfl
    | some vz =>
      match vz with
      | none => rfl
      | some (.inl _) => rfl
      | some (.inr (.inl _)) => rfl
      | some (.inr (.inr (.inl _))) =>
        simp only [Option.map_some, shV, List.map_set]
      | some (.inr (.inr (.inr _))) => rfl
theorem sh_s1 {a : Int} {ls : List gm_V} {i : Nat} {v : gm_V} : (gm_s1 ls i v).map (shV a) = gm_s1 (ls.map (shV a)) i (shV a v) := by
  unfold gm_s1
  rw [List.map_set, sh_kl]
theorem sh_wd {a : Int} : ∀ l : List gm_V, gm_wd (l.map (shV a)) = gm_wd l := by
  intro l
  induction l with
  | nil => rfl
  | cons vz l ih =>
    show gm_w1 (shV a vz) + gm_wd (l.map (shV a)) = gm_w1 vz + gm_wd l
    rw [ih]
    congr 1
    match vz with
    | none => rfl
    | some (.inl _) => rfl
    | some (.inr (.inl _)) => rfl
    | some (.inr (.inr (.inl _))) => rfl
    | some (.inr (.inr (.inr _))) => rfl
theorem sh_en {a : Int} : ∀ l : List gm_V, gm_en (l.map (shV a)) = (gm_en l).map (shV a) := by
  intro l
  induction l with
  | nil => rfl
  | cons vz l ih =>
    match vz with
    | none => show none :: gm_en (l.map (shV a)) = _; rw [ih]; rfl
    | some (.inl _) => show some (.inl _) :: gm_en (l.map (shV a)) = _; rw [ih]; rfl
    | some (.inr (.inl _)) => show some (.inr (.inl _)) :: gm_en (l.map (shV a)) = _; rw [ih]; rfl
    | some (.inr (.inr (.inl _))) => show some (.inr (.inr (.inl _))) :: none :: gm_en (l.map (shV a)) = _; rw [ih]; rfl
    | some (.inr (.inr (.inr _))) => show some (.inr (.inr (.inr _))) :: gm_en (l.map (shV a)) = _; rw [ih]; rfl
set_option maxHeartbeats 4000000 in
theorem cxr_sh {C : gm_C} {ro : Nat → Nat × (Int → Int)} {m : gm_M} {P : List gm_S} {call : Nat → List gm_V → List gm_S → Option (List gm_S)} {code : List gm_O} (hC : ∀ k a S S', call k a S = some S' → C k (a.map (shV (P.length : Int))) (shF P S) m none (shF P S') m) (h9 : ∀ S, C 999 [] S m none S m) : ∀ (f i : Nat) (ls st : List gm_V) (S S' : List gm_S), cxr call code f i ls st S = some S' → gm_wp C ro code (fun r S1 m1 => r = none ∧ S1 = shF P S' ∧ m1 = m) i (ls.map (shV (P.length : Int))) (st.map (shV (P.length : Int))) (shF P S) m := by
  intro f
  induction f with
  | zero => intro i ls st S S' hz; exact absurd hz (by simp [cxr])
  | succ f ih =>
    intro i ls st S S' hz
    unfold cxr at hz
    refine gm_fold ?_
    unfold gm_at
    split at hz
    · exact absurd hz (by simp)
    · rename_i b0 pc ins pz qz xz ts ho
      rw [ho]
      dsimp only
      unfold gm_step
      split at hz
      · split at hz
        · rename_i hv
          simp only [List.getElem?_map, hv, Option.map_some]
          exact ih _ _ _ _ _ hz
        · exact absurd hz (by simp)
      · split at hz
        · rename_i hv
          simp only [List.getElem?_map, hv, Option.map_some]
          exact ih _ _ _ _ _ hz
        · exact absurd hz (by simp)
      · split at hz
        · have h2 := ih _ _ _ _ _ hz
          rw [sh_s1] at h2
          exact h2
        · exact absurd hz (by simp)
      · exact ih _ _ _ _ _ hz
      · exact ih _ _ _ _ _ hz
      · exact ih _ _ _ _ _ hz
      · split at hz
        · exact ih _ _ _ _ _ hz
        · exact absurd hz (by simp)
      · have h2 := ih _ _ _ _ _ hz
        rw [shF_new] at h2
        dsimp only
        rw [shF_len]
        exact h2
      · split at hz
        · split at hz
          · rename_i hn
            have h2 := ih _ _ _ _ _ hz
            rw [shF_arr] at h2
            refine ⟨hn.1, hn.2, ?_⟩
            rw [shF_len]
            exact h2
          · exact absurd hz (by simp)
        · exact absurd hz (by simp)
      · split at hz
        · split at hz
          · rename_i hn
            have h2 := ih _ _ _ _ _ hz
            rw [shF_new] at h2
            refine ⟨hn.1, hn.2, ?_⟩
            rw [shF_len]
            exact h2
          · exact absurd hz (by simp)
        · exact absurd hz (by simp)
      · split at hz
        · split at hz
          · rename_i hn
            have h2 := ih _ _ _ _ _ hz
            rw [shF_sr (cx_is_0 hn)] at h2
            exact ⟨shF_is hn, h2⟩
          · exact absurd hz (by simp)
        · exact absurd hz (by simp)
      · split at hz
        · split at hz
          · rename_i hn
            split at hz
            · rename_i bz hbz
              exact ⟨shF_is hn, _, shF_rf (cx_is_0 hn) hbz, ih _ _ _ _ _ hz⟩
            · exact absurd hz (by simp)
          · exact absurd hz (by simp)
        · exact absurd hz (by simp)
      · split at hz
        · split at hz
          · rename_i hn
            have h2 := ih _ _ _ _ _ hz
            rw [shF_sr (cx_in_0 hn.1)] at h2
            exact ⟨shF_in hn.1, shF_is hn.2, h2⟩
          · exact absurd hz (by simp)
        · exact absurd hz (by simp)
      · split at hz
        · rename_i hv
          have h2 := ih _ _ _ _ _ hz
          rw [sh_s1] at h2
          simp only [List.getElem?_map, hv, Option.map_some]
          exact h2
        · exact absurd hz (by simp)
      · exact ih _ _ _ _ _ hz
      · split at hz
        · split at hz
          · rename_i hn
            exact ⟨fun _ => ih _ _ _ _ _ hz, fun zz => absurd hn zz⟩
          · rename_i hn
            exact ⟨fun zz => absurd zz hn, fun _ => ih _ _ _ _ _ hz⟩
        · exact absurd hz (by simp)
      · split at hz
        · rename_i hp
          subst hp
          split at hz
          · split at hz
            · rename_i hw
              exact ⟨by rw [sh_wd]; exact hw, h9 _, ih _ _ _ _ _ hz⟩
            · exact absurd hz (by simp)
          · exact absurd hz (by simp)
        · rename_i hp
          split at hz
          · rename_i hq
            split at hz
            · rename_i bz r hr
              split at hz
              · rename_i hiz
                split at hz
                · rename_i S1 h1
                  dsimp only
                  have ed : (st.map (shV (P.length : Int))).drop qz = (st.drop qz).map (shV (P.length : Int)) := List.map_drop.symm
                  have et : ((st.map (shV (P.length : Int))).take qz).reverse = ((st.take qz).reverse).map (shV (P.length : Int)) := by rw [← List.map_take, List.map_reverse]
                  split
                  · exact absurd rfl hp
                  · refine ⟨by rw [List.length_map]; exact hq.1, by rw [ed, sh_wd]; exact hq.2, ?_, none, shF P S1, m, ?_, ?_⟩
                    · rw [et, hr]; exact shF_is hiz
                    · rw [et, hr]; exact hC _ _ _ _ h1
                    · rw [ed]; exact ih _ _ _ _ _ hz
                · exact absurd hz (by simp)
              · exact absurd hz (by simp)
            · exact absurd hz (by simp)
          · exact absurd hz (by simp)
      · split at hz
        · exact ⟨rfl, by rw [Option.some.inj hz], rfl⟩
        · exact absurd hz (by simp)
      · exact absurd hz (by simp)
theorem cxm_sh {ro : Nat → Nat × (Int → Int)} {m : gm_M} {P : List gm_S} : ∀ (d k : Nat) (args : List gm_V) (S S' : List gm_S), cxm d k args S = some S' → gm_sem MT ro d k (args.map (shV (P.length : Int))) (shF P S) m none (shF P S') m := by
  intro d
  induction d with
  | zero => intro k args S S' hz; exact absurd hz (by simp [cxm])
  | succ d ih =>
    intro k args S S' hz
    match d, ih, hz with
    | 0, _, hz => exact absurd hz (by simp [cxm])
    | d + 1, ih, hz =>
      unfold cxm at hz
      split at hz
      · exact absurd hz (by simp)
      · rename_i M hMz
        split at hz
        · rename_i hl
          refine Or.inr ⟨M, hMz, by rw [sh_en, List.length_map]; exact hl, ?_⟩
          have h2 := cxr_sh (ro := ro) (m := m) (P := P) ih (fun S => Or.inl ⟨rfl, rfl, rfl, rfl⟩) _ _ _ _ _ _ hz
          rw [List.map_append, List.map_replicate, ← sh_en] at h2
          rw [show (gm_en (args.map (shV (P.length : Int)))).length = (gm_en args).length by rw [sh_en, List.length_map]]
          exact h2
        · exact absurd hz (by simp)
theorem cx_n0 : cxm 4 k_X2_init [gA 0] [(2, 9, List.replicate 9 none)] = some (ly_net 0) := by decide +kernel
theorem ly_sh (a : Int) : (ly_net 0).map (shC a) = ly_net a := by
  have e1z : ∀ kz : Int, (0 : Int) + kz + a = a + kz := fun kz => by omega
  have e2z : ((List.range 40).map (fun iz : Nat => some ((0 : Int) + 11 + (iz : Int)))).map (Option.map (fun xz => xz + a)) = (List.range 40).map (fun iz : Nat => some (a + 11 + (iz : Int))) := by
    rw [List.map_map]
    refine List.map_congr_left (fun iz _ => ?_)
    show some ((0 : Int) + 11 + (iz : Int) + a) = _
    congr 1
    omega
  unfold ly_net
  rw [List.map_append, List.map_replicate]
  simp only [List.map_cons, List.map_nil, shC, e2z, Option.map_some, Option.map_none, e1z, List.map_replicate]
theorem sp_net0 {ro : Nat → Nat × (Int → Int)} {m : gm_M} {d : Nat} (P : List gm_S) : gm_sem MT ro (d + 4) k_X2_init [gA (P.length : Int)] (P ++ [(2, 9, List.replicate 9 none)]) m none (P ++ ly_net (P.length : Int)) m := by
  have hz := cxm_sh (ro := ro) (m := m) (P := P) _ _ _ _ _ cx_n0
  have e1z : shF P [(2, 9, List.replicate 9 none)] = P ++ [(2, 9, List.replicate 9 none)] := by
    unfold shF
    simp [shC]
  have e2z : shF P (ly_net 0) = P ++ ly_net (P.length : Int) := by
    unfold shF
    rw [ly_sh]
  have e3z : ([gA 0] : List gm_V).map (shV (P.length : Int)) = [gA (P.length : Int)] := by
    show [gA (0 + (P.length : Int))] = _
    rw [Int.zero_add]
  rw [e1z, e2z, e3z] at hz
  exact gm_sem_le (by omega) hz
/-- the makings, with a NET's making known -/
def cxq : Nat → Nat → List gm_V → List gm_S → Option (List gm_S)
  | 0, _, _, _ => none
  | 1, _, _, _ => none
  | d + 2, k, args, S => if k = k_X2_init then (match args with
      | [some (.inr (.inl x))] => if 2 ≤ d ∧ (x = ((S.take x.toNat).length : Int) ∧ S = S.take x.toNat ++ [(2, 9, List.replicate 9 none)]) then some (S.take x.toNat ++ ly_net x) else none
      | _ => none) else (match MT k with
    | none => none
    | some M => if (gm_en args).length ≤ M.2.2.1 then cxr (cxq (d + 1)) M.2.2.2.2.2 2000 0 (gm_en args ++ List.replicate (M.2.2.1 - (gm_en args).length) none) [] S else none)
theorem cxq_ok {ro : Nat → Nat × (Int → Int)} {m : gm_M} : ∀ (d k : Nat) (args : List gm_V) (S S' : List gm_S), cxq d k args S = some S' → gm_sem MT ro d k args S m none S' m := by
  intro d
  induction d with
  | zero => intro k args S S' hz; exact absurd hz (by simp [cxq])
  | succ d ih =>
    intro k args S S' hz
    cases d with
    | zero => exact absurd hz (by simp [cxq])
    | succ d =>
      unfold cxq at hz
      split at hz
      · rename_i hk
        subst hk
        split at hz
        · rename_i xz
          split at hz
          · rename_i hcz
            have ez := Option.some.inj hz
            obtain ⟨d2z, rfl⟩ : ∃ d2z, d = d2z + 2 := ⟨d - 2, by omega⟩
            have h2 := sp_net0 (ro := ro) (m := m) (d := d2z) (S.take xz.toNat)
            rw [← hcz.2.1, ← hcz.2.2, ez] at h2
            exact h2
          · exact absurd hz (by simp)
        · exact absurd hz (by simp)
      · split at hz
        · exact absurd hz (by simp)
        · rename_i M hMz
          split at hz
          · rename_i hl
            refine Or.inr ⟨M, hMz, hl, ?_⟩
            exact cxr_ok (ro := ro) (m := m) ih (fun S => Or.inl ⟨rfl, rfl, rfl, rfl⟩) _ _ _ _ _ _ hz
          · exact absurd hz (by simp)
def cxA : List gm_S := [(7, 6, List.replicate 6 none)]
theorem cx_7 : cxq 11 k_X7_init [gA 0] cxA = some (S0.take 629) := by decide +kernel
theorem cx_8 : cxm 11 k_X8_init [gA 629] (S0.take 629 ++ [(8, 20, List.replicate 20 none)]) = some S0 := by decide +kernel
