/-! ===== the claim ===== -/
theorem zero_IC : IC (fun _ _ => 0) (none, [], none, none, [], 0) := ⟨⟨rfl, rfl⟩, ⟨rfl, ⟨Int.le_refl _, by decide⟩, fun i N hN => by simp at hN⟩, rfl, rfl, ⟨⟨Int.le_refl _, by decide⟩, rfl, rfl⟩⟩
theorem zero_IR : IR (fun _ _ => 0) (none, [], none, none, [], 0) := ⟨⟨rfl, rfl, rfl⟩, ⟨rfl, fun i N hN => by simp at hN⟩, rfl, rfl, ⟨⟨Int.le_refl _, by decide⟩, rfl, rfl⟩⟩
theorem zero_ok : okZ (none, [], none, none, [], 0) 0 := ⟨fun N h => by simp at h, ⟨Nat.zero_le _, fun N h => absurd h (by simp)⟩, fun N h => by simp at h, fun N h => by simp at h, ⟨Nat.zero_le _, fun x h => absurd h (by simp)⟩⟩
set_option maxHeartbeats 4000000 in
theorem L_all {ro : Nat → Nat × (Int → Int)} {Ln : Nat} {vs : Int → Int} (hro : gRO ro) (hr0 : ro 0 = (Ln, vs)) (hvs : ∀ j, -2147483648 ≤ vs j ∧ vs j ≤ 2147483647) (hln : (Ln : Int) ≤ 2560) : gm_wp (gm_sem MT ro 11) ro cd_L_law (fun r1 S1 m1 => r1 = gI 1 ∧ S1 = S0) 0 [gO 0, none, none, none] [] [] (fun _ _ => 0) := by
  have h7 := cxq_ok (ro := ro) (m := fun _ _ => 0) 11 k_X7_init [gA 0] cxA _ cx_7
  have h8 := cxm_ok (ro := ro) (m := fun _ _ => 0) 11 k_X8_init [gA 629] _ _ cx_8
  have hloop := L_loop hro hr0 hvs (S := S0) rfl zero_IC zero_IR (T0 := 0) (i0 := 0) rfl rfl zero_ok hln
  have hlen : ((S0.take 629).length : Int) = 629 := by decide +kernel
  refine gm_go rfl ?_
  show gm_wp (gm_sem MT ro 11) ro cd_L_law (fun r1 S1 m1 => r1 = gI 1 ∧ S1 = S0) 1 [gO 0, none, none, none] [gA 0] cxA (fun _ _ => 0)
  refine gm_go rfl ?_
  show gm_wp (gm_sem MT ro 11) ro cd_L_law (fun r1 S1 m1 => r1 = gI 1 ∧ S1 = S0) 2 [gO 0, none, none, none] [gA 0, gA 0] cxA (fun _ _ => 0)
  refine gm_go rfl ?_
  refine ⟨by decide, by decide, ⟨Int.le_refl _, 6, _, rfl⟩, none, _, _, h7, ?_⟩
  show gm_wp (gm_sem MT ro 11) ro cd_L_law (fun r1 S1 m1 => r1 = gI 1 ∧ S1 = S0) 3 [gO 0, none, none, none] [gA 0] (S0.take 629) (fun _ _ => 0)
  refine gm_go rfl ?_
  show gm_wp (gm_sem MT ro 11) ro cd_L_law (fun r1 S1 m1 => r1 = gI 1 ∧ S1 = S0) 4 [gO 0, gA 0, none, none] [] (S0.take 629) (fun _ _ => 0)
  refine gm_go rfl ?_
  have e4z : gm_wp (gm_sem MT ro 11) ro cd_L_law (fun r1 S1 m1 => r1 = gI 1 ∧ S1 = S0) 5 [gO 0, gA 0, none, none] [gA 629] (S0.take 629 ++ [(8, 20, List.replicate 20 none)]) (fun _ _ => 0) := by
    refine gm_go rfl ?_
    show gm_wp (gm_sem MT ro 11) ro cd_L_law (fun r1 S1 m1 => r1 = gI 1 ∧ S1 = S0) 6 [gO 0, gA 0, none, none] [gA 629, gA 629] (S0.take 629 ++ [(8, 20, List.replicate 20 none)]) (fun _ _ => 0)
    refine gm_go rfl ?_
    refine ⟨by decide, by decide, ?_, none, _, _, h8, ?_⟩
    · exact cx_is_ok (c := 8) (by decide +kernel)
    · show gm_wp (gm_sem MT ro 11) ro cd_L_law (fun r1 S1 m1 => r1 = gI 1 ∧ S1 = S0) 7 [gO 0, gA 0, none, none] [gA 629] S0 (fun _ _ => 0)
      refine gm_go rfl ?_
      show gm_wp (gm_sem MT ro 11) ro cd_L_law (fun r1 S1 m1 => r1 = gI 1 ∧ S1 = S0) 8 [gO 0, gA 0, gA 629, none] [] S0 (fun _ _ => 0)
      refine gm_go rfl ?_
      show gm_wp (gm_sem MT ro 11) ro cd_L_law (fun r1 S1 m1 => r1 = gI 1 ∧ S1 = S0) 9 [gO 0, gA 0, gA 629, none] [gI 0] S0 (fun _ _ => 0)
      refine gm_go rfl ?_
      show gm_wp (gm_sem MT ro 11) ro cd_L_law (fun r1 S1 m1 => r1 = gI 1 ∧ S1 = S0) 10 [gO 0, gA 0, gA 629, gI 0] [] S0 (fun _ _ => 0)
      exact hloop
  rw [← hlen] at e4z
  exact e4z
theorem lay_sz : S0.length ≤ 600000 ∧ gm_sz S0 ≤ 7302249 := by decide +kernel
theorem whole_start {p : Program} {e : Env} {s : State} {m : MethodId} {below : List Frame} {meth : Method} {c : Code} (l : Launch) (hflags : l.flags = flags0) {b L : Nat} {xs : Nat → Int32} (hL : L ≤ 2560) (C0 : lw_At p s m meth c b L xs) : W p l e room_1 s m #[Value.ref b] below meth c s.heap [] 0 0 (lw_Z below #[Value.ref b] s) (entryFrame m ([Value.ref b] : List Value).toArray 4) := by
  have hp := L_all (ro := gm_rows L xs) (Ln := L) (vs := fun jz => (xs jz.toNat).toInt) ⟨rfl, rfl⟩ rfl (gm_rows_v (L := L)) (by omega)
  obtain ⟨rz, S', m', ⟨hr, hSz⟩, h2⟩ := gm_wp_ex hp
  subst hr
  subst hSz
  exact gm_law l hL C0 gm_ALL gm_999 ck_L_law (by decide +kernel) (by decide +kernel) (by decide +kernel) (by decide +kernel) (by decide +kernel) (by decide +kernel) lay_sz.1 lay_sz.2 h2
