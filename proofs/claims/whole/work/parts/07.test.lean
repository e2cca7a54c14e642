theorem gm_sem_of {ro : Nat → Nat × (Int → Int)} {d k : Nat} {y : MethodName} {cc : ByteArray} {nL own : Nat} {ret : Option FieldType} {cd : List gm_O} (hM : MT k = some (y, cc, nL, ret, own, cd)) {args : List gm_V} {S S' : List gm_S} {m m' : gm_M} {r : gm_V}
    (h : gm_wp (gm_sem MT ro d) ro cd (fun r1 S1 m1 => r1 = r ∧ S1 = S' ∧ m1 = m') 0 (gm_en args ++ List.replicate (nL - (gm_en args).length) none) [] S m) : gm_sem MT ro (d + 1) k args S m r S' m' := Or.inr ⟨_, hM, h⟩
set_option maxHeartbeats 4000000 in
theorem t_isNode {ro : Nat → Nat × (Int → Int)} {d : Nat} {S : List gm_S} {m : gm_M} {a n : Int} (ha : gm_is S a 6) : gm_sem MT ro (d + 1) k_X6_isNode [gA a, gI n] S m (gI (if 0 ≤ n ∧ n < m a 0 then 1 else 0)) S m := by
  refine gm_sem_of mt_X6_isNode ?_
  dsimp only [gm_en, List.length_cons, List.length_nil, List.replicate, List.cons_append, List.nil_append, Nat.reduceAdd, Nat.reduceSub]
  repeat' (first | refine gm_go rfl ?_ | (dsimp only [gm_step, gm_c, gm_s1, gm_kl, List.getElem?_cons_succ, List.getElem?_cons_zero, List.set]; trace_state))
  sorry
