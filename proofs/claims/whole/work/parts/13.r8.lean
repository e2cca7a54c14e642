/-! ===== bridges: pure ===== -/
theorem wkG_app {E : Int → Int → Bool} {nx : Int → Int → Int} {k : Nat} {b c : Int} (h2 : wkG E nx k b c = true) : ∀ (j : Nat) (a : Int), wkG E nx j a b = true → wkG E nx (j + k) a c = true := by
  intro j
  induction j with
  | zero =>
    intro a hz
    rw [wkG_0] at hz
    rw [hz, Nat.zero_add]
    exact h2
  | succ j ih =>
    intro a hz
    obtain ⟨qz, hq, e1z, e2z⟩ := wkG_s.mp hz
    rw [Nat.add_right_comm]
    exact wkG_s.mpr ⟨qz, hq, e1z, ih _ e2z⟩
theorem wkG_mono {E E' : Int → Int → Bool} {nx : Int → Int → Int} {D b : Int} (hc : GRC E nx D) (he : ∀ u p, (0 ≤ u ∧ u < D) → (0 ≤ p ∧ p < 4) → E u p = true → E' u p = true) : ∀ (k : Nat) (a : Int), (0 ≤ a ∧ a < D) → wkG E nx k a b = true → wkG E' nx k a b = true := by
  intro k
  induction k with
  | zero => intro a _ hz; exact wkG_0.mpr (wkG_0.mp hz)
  | succ k ih =>
    intro a haz hz
    obtain ⟨qz, hq, e1z, e2z⟩ := wkG_s.mp hz
    exact wkG_s.mpr ⟨qz, hq, he a qz haz hq e1z, ih _ (hc a qz haz hq e1z) e2z⟩
section BRI
variable {N : NS} {T u p : Int}
theorem br_W (hw : WF N T) (hu : 0 ≤ u ∧ u < nd N) (hp : 0 ≤ p ∧ p < 4) (hM : WF (cutA N u p) T) : GRC (eA (cutA N u p)) (byA N) (nd N) ∧ GRS (eA (cutA N u p)) (byA N) (nd N) := by
  have hbz := cutA_by hw hu hp
  have h1 := N_GRC hM
  have h2 := N_GRS hM
  rw [hbz.1, hbz.2] at h1 h2
  exact ⟨h1, h2⟩
/-- a walk that shuns one end comes there without the link -/
theorem br_A (hw : WF N T) (hu : 0 ≤ u ∧ u < nd N) (hp : 0 ≤ p ∧ p < 4) : ∀ (k : Nat) (a : Int), (0 ≤ a ∧ a < nd N) → wkG (eS N (4 * u + p)) (byA N) k a (byA N u p) = true → ∃ j, wkG (eA (cutA N u p)) (byA N) j a (byA N u p) = true := by
  intro k
  induction k with
  | zero => intro a _ hz; exact ⟨0, wkG_0.mpr (wkG_0.mp hz)⟩
  | succ k ih =>
    intro a haz hz
    by_cases qz : a = byA N u p
    · exact ⟨0, wkG_0.mpr qz⟩
    · obtain ⟨rz, hr, e1z, e2z⟩ := wkG_s.mp hz
      have e3z := Bool.and_eq_true _ _ ▸ e1z
      have e4z : 4 * a + rz ≠ 4 * u + p := of_decide_eq_true e3z.2
      obtain ⟨j, hj⟩ := ih _ (S_GRC hw a rz haz hr e1z) e2z
      refine ⟨j + 1, wkG_s.mpr ⟨rz, hr, ?_, hj⟩⟩
      rw [cutA_e hw hu hp haz hr, e3z.1, Bool.true_and]
      exact decide_eq_true ⟨fun zz => qz zz.1, fun zz => e4z (by rw [zz.1, zz.2])⟩
theorem br_C (hw : WF N T) (hu : 0 ≤ u ∧ u < nd N) (hp : 0 ≤ p ∧ p < 4) (hM : WF (cutA N u p) T) {j0 : Nat} (h0 : wkG (eA (cutA N u p)) (byA N) j0 u (byA N u p) = true) {b : Int} : ∀ (k : Nat) (a : Int), (0 ≤ a ∧ a < nd N) → wkG (eA N) (byA N) k a b = true → ∃ j, wkG (eA (cutA N u p)) (byA N) j a b = true := by
  have hbz := by_16 hw hu hp
  have hg := br_W hw hu hp hM
  intro k
  induction k with
  | zero => intro a _ hz; exact ⟨0, wkG_0.mpr (wkG_0.mp hz)⟩
  | succ k ih =>
    intro a haz hz
    obtain ⟨rz, hr, e1z, e2z⟩ := wkG_s.mp hz
    obtain ⟨j, hj⟩ := ih _ (N_GRC hw a rz haz hr e1z) e2z
    by_cases q1z : a = u ∧ rz = p
    · rw [q1z.1, q1z.2] at hj
      rw [q1z.1]
      exact ⟨_, wkG_app hj _ _ h0⟩
    · by_cases q2z : a = byA N u p ∧ rz = (p + 2) % 4
      · rw [q2z.1, q2z.2, hbz.2.2.2.2] at hj
        rw [q2z.1]
        exact ⟨_, wkG_app hj _ _ (wkG_rev hg.1 hg.2 _ _ hu h0)⟩
      · refine ⟨j + 1, wkG_s.mpr ⟨rz, hr, ?_, hj⟩⟩
        rw [cutA_e hw hu hp haz hr, e1z, Bool.true_and]
        exact decide_eq_true ⟨q2z, q1z⟩
theorem dA_re {M : NS} (hw : WF M T) {a b : Int} (ha : 0 ≤ a ∧ a < nd M) : dA M a b < 99 ↔ ∃ k, wkG (eA M) (byA M) k a b = true := by
  have hn := WF_nd hw
  have h1 := dG_no (v := b) (N_GRC hw) hn.2 ha
  have h2 := dG_bd (E := eA M) (nx := byA M) (u := a) (v := b)
  unfold dA
  rw [n_dst_G]
  by_cases qz : dG (eA M) (byA M) a b = -1000000
  · rw [if_pos qz]
    refine ⟨fun zz => absurd zz (by decide), fun ⟨k, hk⟩ => ?_⟩
    have := h1.mp qz k
    rw [this] at hk
    exact absurd hk (by decide)
  · rw [if_neg qz]
    refine ⟨fun _ => ?_, fun _ => by omega⟩
    refine Classical.byContradiction (fun zz => qz (h1.mpr (fun k => ?_)))
    cases hk : wkG (eA M) (byA M) k a b with
    | false => rfl
    | true => exact absurd ⟨k, hk⟩ zz
end BRI
def rchF (N : NS) (f : Int → Int) : Prop := (∀ u v, (0 ≤ u ∧ u < nd N) → (0 ≤ v ∧ v < nd N) → f (16 * u + v) = dA N u v) ∧ (∀ k, 0 ≤ k → k < 256 → (nd N ≤ k / 16 ∨ nd N ≤ k % 16) → f k = if k / 16 = k % 16 then 0 else 99)
theorem br_eq {N : NS} {T u p : Int} {f g : Int → Int} (hw : WFT N T) (hu : 0 ≤ u ∧ u < nd N) (hp : 0 ≤ p ∧ p < 4) (he : eA N u p = true) (hf : rchF N f) (hg : rchF (cutA N u p) g) : (cntM (fun k => g k < 99) 256 < cntM (fun k => f k < 99) 256) ↔ dG (eS N (4 * u + p)) (byA N) u (byA N u p) = -1000000 := by
  have hMz := (WFT_cut hw hu hp).1
  have hby := cutA_by hw.1 hu hp
  have hbz := by_16 hw.1 hu hp
  have hn := WF_nd hw.1
  have hG := br_W hw.1 hu hp hMz
  have hg1 : ∀ az bz, (0 ≤ az ∧ az < nd N) → (0 ≤ bz ∧ bz < nd N) → (g (16 * az + bz) < 99 ↔ ∃ k, wkG (eA (cutA N u p)) (byA N) k az bz = true) := fun az bz haz hbz => by
    have ha' : 0 ≤ az ∧ az < nd (cutA N u p) := by rw [hby.2]; exact haz
    have := dA_re (b := bz) hMz ha'
    rw [hby.1] at this
    rw [hg.1 az bz ha' (by rw [hby.2]; exact hbz)]
    exact this
  have hf1 : ∀ az bz, (0 ≤ az ∧ az < nd N) → (0 ≤ bz ∧ bz < nd N) → (f (16 * az + bz) < 99 ↔ ∃ k, wkG (eA N) (byA N) k az bz = true) := fun az bz haz hbz => by
    rw [hf.1 az bz haz hbz]
    exact dA_re hw.1 haz
  have hsub : ∀ xz rz, (0 ≤ xz ∧ xz < nd N) → (0 ≤ rz ∧ rz < 4) → eA (cutA N u p) xz rz = true → eA N xz rz = true := fun xz rz hx hr zz => by
    rw [cutA_e hw.1 hu hp hx hr] at zz
    exact (Bool.and_eq_true _ _ ▸ zz).1
  have hsubS : ∀ xz rz, (0 ≤ xz ∧ xz < nd N) → (0 ≤ rz ∧ rz < 4) → eA (cutA N u p) xz rz = true → eS N (4 * u + p) xz rz = true := fun xz rz hx hr zz => by
    rw [cutA_e hw.1 hu hp hx hr] at zz
    have z2 := Bool.and_eq_true _ _ ▸ zz
    have z3 := of_decide_eq_true z2.2
    show (eA N xz rz && decide (4 * xz + rz ≠ 4 * u + p)) = true
    rw [z2.1, Bool.true_and]
    exact decide_eq_true (fun yz => z3.2 ⟨by omega, by omega⟩)
  have hle : ∀ k, 0 ≤ k → k < 256 → g k < 99 → f k < 99 := fun k k0z k1z zz => by
    by_cases qz : k / 16 < nd N ∧ k % 16 < nd N
    · have hk : k = 16 * (k / 16) + k % 16 := by omega
      rw [hk] at zz ⊢
      obtain ⟨jz, hj⟩ := (hg1 _ _ ⟨by omega, qz.1⟩ ⟨by omega, qz.2⟩).mp zz
      exact (hf1 _ _ ⟨by omega, qz.1⟩ ⟨by omega, qz.2⟩).mpr ⟨jz, wkG_mono hG.1 hsub _ _ ⟨by omega, qz.1⟩ hj⟩
    · rw [hf.2 k k0z k1z (by omega)]
      rw [hg.2 k k0z k1z (by rw [hby.2]; omega)] at zz
      exact zz
  have hno := dG_no (v := byA N u p) (S_GRC (sh := 4 * u + p) hw.1) hn.2 hu
  by_cases qz : dG (eS N (4 * u + p)) (byA N) u (byA N u p) = -1000000
  · refine ⟨fun _ => qz, fun _ => ?_⟩
    have hnw : ∀ jz, ¬ wkG (eA (cutA N u p)) (byA N) jz u (byA N u p) = true := fun jz zz => by
      have := wkG_mono hG.1 hsubS _ _ hu zz
      rw [hno.mp qz jz] at this
      exact absurd this (by decide)
    have hk : ¬ g (16 * u + byA N u p) < 99 := fun zz => by
      obtain ⟨jz, hj⟩ := (hg1 _ _ hu hbz.2.2.1).mp zz
      exact hnw jz hj
    have hk2 : f (16 * u + byA N u p) < 99 := (hf1 _ _ hu hbz.2.2.1).mpr ⟨1, wkG_s.mpr ⟨p, hp, he, wkG_0.mpr rfl⟩⟩
    have h1 := cntM_one (P := fun k => g k < 99) (Q := fun k => g k < 99 ∨ k = 16 * u + byA N u p) (n := 256) (l := 16 * u + byA N u p) (by omega) (by omega) hk (fun k _ _ => Iff.rfl)
    have h2 := cntM_mono (P := fun k => g k < 99 ∨ k = 16 * u + byA N u p) (Q := fun k => f k < 99) (n := 256) (by decide) (fun k k0z k1z zz => by
      rcases zz with zz | zz
      · exact hle k k0z k1z zz
      · rw [zz]; exact hk2)
    omega
  · refine ⟨fun zz => ?_, fun zz => absurd zz qz⟩
    exfalso
    have hw1 : ∃ jz, wkG (eS N (4 * u + p)) (byA N) jz u (byA N u p) = true := Classical.byContradiction (fun yz => qz (hno.mpr (fun k => by
      cases hk : wkG (eS N (4 * u + p)) (byA N) k u (byA N u p) with
      | false => rfl
      | true => exact absurd ⟨k, hk⟩ yz)))
    obtain ⟨j1, hj1⟩ := hw1
    obtain ⟨j0, hj0⟩ := br_A hw.1 hu hp j1 u hu hj1
    have heq : cntM (fun k => g k < 99) 256 = cntM (fun k => f k < 99) 256 := cntM_cg (by decide) (fun k k0z k1z => by
      refine ⟨hle k k0z k1z, fun yz => ?_⟩
      by_cases qz : k / 16 < nd N ∧ k % 16 < nd N
      · have hk : k = 16 * (k / 16) + k % 16 := by omega
        rw [hk] at yz ⊢
        obtain ⟨jz, hj⟩ := (hf1 _ _ ⟨by omega, qz.1⟩ ⟨by omega, qz.2⟩).mp yz
        exact (hg1 _ _ ⟨by omega, qz.1⟩ ⟨by omega, qz.2⟩).mpr (br_C hw.1 hu hp hMz hj0 jz _ ⟨by omega, qz.1⟩ hj)
      · rw [hf.2 k k0z k1z (by omega)] at yz
        rw [hg.2 k k0z k1z (by rw [hby.2]; omega)]
        exact yz)
    omega
def brL (N : NS) (e : Int) : Int := if eA N (e / 4) (e % 4) = true ∧ e / 4 < byA N (e / 4) (e % 4) then 1 else 0
def brD (N : NS) (e : Int) : Int := if dG (eS N e) (byA N) (e / 4) (byA N (e / 4) (e % 4)) = -1000000 then 1 else 0
theorem brL_c {N : NS} {e : Int} : (brL N e = 1 ∧ eA N (e / 4) (e % 4) = true ∧ e / 4 < byA N (e / 4) (e % 4)) ∨ (brL N e = 0 ∧ ¬ (eA N (e / 4) (e % 4) = true ∧ e / 4 < byA N (e / 4) (e % 4))) := by
  unfold brL
  by_cases qz : eA N (e / 4) (e % 4) = true ∧ e / 4 < byA N (e / 4) (e % 4)
  · exact Or.inl ⟨if_pos qz, qz⟩
  · exact Or.inr ⟨if_neg qz, qz⟩
theorem brD_c {N : NS} {e : Int} : (brD N e = 1 ∧ dG (eS N e) (byA N) (e / 4) (byA N (e / 4) (e % 4)) = -1000000) ∨ (brD N e = 0 ∧ dG (eS N e) (byA N) (e / 4) (byA N (e / 4) (e % 4)) ≠ -1000000) := by
  unfold brD
  by_cases qz : dG (eS N e) (byA N) (e / 4) (byA N (e / 4) (e % 4)) = -1000000
  · exact Or.inl ⟨if_pos qz, qz⟩
  · exact Or.inr ⟨if_neg qz, qz⟩
def brA (N : NS) (k : Int) : Int × Int := fo (fun s e => if brL N e = 1 ∧ brD N e = 1 then (s.1 + 1, if s.1 = 0 then e else s.2) else s) ((0 : Int), (-1000000 : Int)) k
theorem brA_s {N : NS} {k : Int} (h : 0 ≤ k) : brA N (k + 1) = if brL N k = 1 ∧ brD N k = 1 then ((brA N k).1 + 1, if (brA N k).1 = 0 then k else (brA N k).2) else brA N k := fo_s _ _ h
theorem brA_bd {N : NS} {k : Int} (h : 0 ≤ k) : 0 ≤ (brA N k).1 ∧ (brA N k).1 ≤ k := by
  refine up_ind (P := fun k => 0 ≤ (brA N k).1 ∧ (brA N k).1 ≤ k) ⟨Int.le_refl _, Int.le_refl _⟩ ?_ h
  intro k hk ih
  rw [brA_s hk]
  split
  · exact ⟨by show 0 ≤ (brA N k).1 + 1; omega, by show (brA N k).1 + 1 ≤ k + 1; omega⟩
  · exact ⟨ih.1, by omega⟩
def OBR (Z : ZS) (w r : Int) : Prop := NQ Z (-1000002) (fun N => (¬ (0 ≤ w ∧ w ≤ 1) ∧ r = -1000001) ∨ ((w = 0 ∧ r = (brA N (4 * nd N)).1) ∨ (w = 1 ∧ r = (brA N (4 * nd N)).2))) r
