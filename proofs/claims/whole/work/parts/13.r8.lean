/-! ===== bridges: pure ===== -/
theorem wkG_app {E : Int → Int → Bool} {nx : Int → Int → Int} {k : Nat} {b c : Int} (h2 : wkG E nx k b c = true) : ∀ (j : Nat) (a : Int), wkG E nx j a b = true → wkG E nx (j + k) a c = true := by
  intro j
  induction j with
  | zero =>
    intro a h
    rw [wkG_0] at h
    rw [h, Nat.zero_add]
    exact h2
  | succ j ih =>
    intro a h
    obtain ⟨q, hq, e1, e2⟩ := wkG_s.mp h
    rw [Nat.add_right_comm]
    exact wkG_s.mpr ⟨q, hq, e1, ih _ e2⟩
theorem wkG_mono {E E' : Int → Int → Bool} {nx : Int → Int → Int} {D b : Int} (hc : GRC E nx D) (he : ∀ u p, (0 ≤ u ∧ u < D) → (0 ≤ p ∧ p < 4) → E u p = true → E' u p = true) : ∀ (k : Nat) (a : Int), (0 ≤ a ∧ a < D) → wkG E nx k a b = true → wkG E' nx k a b = true := by
  intro k
  induction k with
  | zero => intro a _ h; exact h
  | succ k ih =>
    intro a ha h
    obtain ⟨q, hq, e1, e2⟩ := wkG_s.mp h
    exact wkG_s.mpr ⟨q, hq, he a q ha hq e1, ih _ (hc a q ha hq e1) e2⟩
section BRI
variable {N : NS} {T u p : Int}
theorem br_W (hw : WF N T) (hu : 0 ≤ u ∧ u < nd N) (hp : 0 ≤ p ∧ p < 4) (hM : WF (cutA N u p) T) : GRC (eA (cutA N u p)) (byA N) (nd N) ∧ GRS (eA (cutA N u p)) (byA N) (nd N) := by
  have hb := cutA_by hw hu hp
  have h1 := N_GRC hM
  have h2 := N_GRS hM
  rw [hb.1, hb.2] at h1 h2
  exact ⟨h1, h2⟩
/-- a walk that shuns one end comes there without the link -/
theorem br_A (hw : WF N T) (hu : 0 ≤ u ∧ u < nd N) (hp : 0 ≤ p ∧ p < 4) : ∀ (k : Nat) (a : Int), (0 ≤ a ∧ a < nd N) → wkG (eS N (4 * u + p)) (byA N) k a (byA N u p) = true → ∃ j, wkG (eA (cutA N u p)) (byA N) j a (byA N u p) = true := by
  intro k
  induction k with
  | zero => intro a _ h; exact ⟨0, h⟩
  | succ k ih =>
    intro a ha h
    by_cases q : a = byA N u p
    · exact ⟨0, wkG_0.mpr q⟩
    · obtain ⟨r, hr, e1, e2⟩ := wkG_s.mp h
      have e3 := Bool.and_eq_true _ _ ▸ e1
      have e4 : 4 * a + r ≠ 4 * u + p := of_decide_eq_true e3.2
      obtain ⟨j, hj⟩ := ih _ (S_GRC hw a r ha hr e1) e2
      refine ⟨j + 1, wkG_s.mpr ⟨r, hr, ?_, hj⟩⟩
      rw [cutA_e hw hu hp ha hr, e3.1, Bool.true_and]
      exact decide_eq_true ⟨fun z => q z.1, fun z => e4 (by rw [z.1, z.2])⟩
theorem br_C (hw : WF N T) (hu : 0 ≤ u ∧ u < nd N) (hp : 0 ≤ p ∧ p < 4) (hM : WF (cutA N u p) T) {j0 : Nat} (h0 : wkG (eA (cutA N u p)) (byA N) j0 u (byA N u p) = true) {b : Int} : ∀ (k : Nat) (a : Int), (0 ≤ a ∧ a < nd N) → wkG (eA N) (byA N) k a b = true → ∃ j, wkG (eA (cutA N u p)) (byA N) j a b = true := by
  have hb := by_16 hw hu hp
  have hg := br_W hw hu hp hM
  intro k
  induction k with
  | zero => intro a _ h; exact ⟨0, h⟩
  | succ k ih =>
    intro a ha h
    obtain ⟨r, hr, e1, e2⟩ := wkG_s.mp h
    obtain ⟨j, hj⟩ := ih _ (N_GRC hw a r ha hr e1) e2
    by_cases q1 : a = u ∧ r = p
    · rw [q1.1, q1.2] at hj
      rw [q1.1]
      exact ⟨_, wkG_app hj _ _ h0⟩
    · by_cases q2 : a = byA N u p ∧ r = (p + 2) % 4
      · rw [q2.1, q2.2, hb.2.2.2.2] at hj
        rw [q2.1]
        exact ⟨_, wkG_app hj _ _ (wkG_rev hg.1 hg.2 _ _ hu h0)⟩
      · refine ⟨j + 1, wkG_s.mpr ⟨r, hr, ?_, hj⟩⟩
        rw [cutA_e hw hu hp ha hr, e1, Bool.true_and]
        exact decide_eq_true ⟨q2, q1⟩
theorem dA_re {M : NS} (hw : WF M T) {a b : Int} (ha : 0 ≤ a ∧ a < nd M) : dA M a b < 99 ↔ ∃ k, wkG (eA M) (byA M) k a b = true := by
  have hn := WF_nd hw
  have h1 := dG_no (v := b) (N_GRC hw) hn.2 ha
  have h2 := dG_bd (E := eA M) (nx := byA M) (u := a) (v := b)
  unfold dA
  rw [n_dst_G]
  by_cases q : dG (eA M) (byA M) a b = -1000000
  · rw [if_pos q]
    refine ⟨fun z => absurd z (by decide), fun ⟨k, hk⟩ => ?_⟩
    have := h1.mp q k
    rw [this] at hk
    exact absurd hk (by decide)
  · rw [if_neg q]
    refine ⟨fun _ => ?_, fun _ => by omega⟩
    refine Classical.byContradiction (fun z => q (h1.mpr (fun k => ?_)))
    cases hk : wkG (eA M) (byA M) k a b with
    | false => rfl
    | true => exact absurd ⟨k, hk⟩ z
end BRI
def rchF (N : NS) (f : Int → Int) : Prop := (∀ u v, (0 ≤ u ∧ u < nd N) → (0 ≤ v ∧ v < nd N) → f (16 * u + v) = dA N u v) ∧ (∀ k, 0 ≤ k → k < 256 → (nd N ≤ k / 16 ∨ nd N ≤ k % 16) → f k = if k / 16 = k % 16 then 0 else 99)
theorem br_eq {N : NS} {T u p : Int} {f g : Int → Int} (hw : WFT N T) (hu : 0 ≤ u ∧ u < nd N) (hp : 0 ≤ p ∧ p < 4) (he : eA N u p = true) (hf : rchF N f) (hg : rchF (cutA N u p) g) : (cntM (fun k => g k < 99) 256 < cntM (fun k => f k < 99) 256) ↔ dG (eS N (4 * u + p)) (byA N) u (byA N u p) = -1000000 := by
  have hM := (WFT_cut hw hu hp).1
  have hby := cutA_by hw.1 hu hp
  have hb := by_16 hw.1 hu hp
  have hn := WF_nd hw.1
  have hG := br_W hw.1 hu hp hM
  have hg1 : ∀ a b, (0 ≤ a ∧ a < nd N) → (0 ≤ b ∧ b < nd N) → (g (16 * a + b) < 99 ↔ ∃ k, wkG (eA (cutA N u p)) (byA N) k a b = true) := fun a b ha hb => by
    have ha' : 0 ≤ a ∧ a < nd (cutA N u p) := by rw [hby.2]; exact ha
    have := dA_re (b := b) hM ha'
    rw [hby.1] at this
    rw [hg.1 a b ha' (by rw [hby.2]; exact hb)]
    exact this
  have hf1 : ∀ a b, (0 ≤ a ∧ a < nd N) → (0 ≤ b ∧ b < nd N) → (f (16 * a + b) < 99 ↔ ∃ k, wkG (eA N) (byA N) k a b = true) := fun a b ha hb => by
    rw [hf.1 a b ha hb]
    exact dA_re hw.1 ha
  have hsub : ∀ x r, (0 ≤ x ∧ x < nd N) → (0 ≤ r ∧ r < 4) → eA (cutA N u p) x r = true → eA N x r = true := fun x r hx hr z => by
    rw [cutA_e hw.1 hu hp hx hr] at z
    exact (Bool.and_eq_true _ _ ▸ z).1
  have hsubS : ∀ x r, (0 ≤ x ∧ x < nd N) → (0 ≤ r ∧ r < 4) → eA (cutA N u p) x r = true → eS N (4 * u + p) x r = true := fun x r hx hr z => by
    rw [cutA_e hw.1 hu hp hx hr] at z
    have z2 := Bool.and_eq_true _ _ ▸ z
    have z3 := of_decide_eq_true z2.2
    show (eA N x r && decide (4 * x + r ≠ 4 * u + p)) = true
    rw [z2.1, Bool.true_and]
    exact decide_eq_true (fun y => z3.2 ⟨by omega, by omega⟩)
  have hle : ∀ k, 0 ≤ k → k < 256 → g k < 99 → f k < 99 := fun k k0 k1 z => by
    by_cases q : k / 16 < nd N ∧ k % 16 < nd N
    · have hk : k = 16 * (k / 16) + k % 16 := by omega
      rw [hk] at z ⊢
      obtain ⟨j, hj⟩ := (hg1 _ _ ⟨by omega, q.1⟩ ⟨by omega, q.2⟩).mp z
      exact (hf1 _ _ ⟨by omega, q.1⟩ ⟨by omega, q.2⟩).mpr ⟨j, wkG_mono hG.1 hsub _ _ ⟨by omega, q.1⟩ hj⟩
    · rw [hf.2 k k0 k1 (by omega)]
      rw [hg.2 k k0 k1 (by rw [hby.2]; omega)] at z
      exact z
  have hno := dG_no (v := byA N u p) (S_GRC (sh := 4 * u + p) hw.1) hn.2 hu
  by_cases q : dG (eS N (4 * u + p)) (byA N) u (byA N u p) = -1000000
  · refine ⟨fun _ => q, fun _ => ?_⟩
    have hnw : ∀ j, ¬ wkG (eA (cutA N u p)) (byA N) j u (byA N u p) = true := fun j z => by
      have := wkG_mono hG.1 hsubS _ _ hu z
      rw [hno.mp q j] at this
      exact absurd this (by decide)
    have hk : ¬ g (16 * u + byA N u p) < 99 := fun z => by
      obtain ⟨j, hj⟩ := (hg1 _ _ hu hb.2.2.1).mp z
      exact hnw j hj
    have hk2 : f (16 * u + byA N u p) < 99 := (hf1 _ _ hu hb.2.2.1).mpr ⟨1, wkG_s.mpr ⟨p, hp, he, wkG_0.mpr rfl⟩⟩
    have h1 := cntM_one (P := fun k => g k < 99) (Q := fun k => g k < 99 ∨ k = 16 * u + byA N u p) (n := 256) (l := 16 * u + byA N u p) (by omega) (by omega) hk (fun k _ _ => Iff.rfl)
    have h2 := cntM_mono (P := fun k => g k < 99 ∨ k = 16 * u + byA N u p) (Q := fun k => f k < 99) (n := 256) (by decide) (fun k k0 k1 z => by
      rcases z with z | z
      · exact hle k k0 k1 z
      · rw [z]; exact hk2)
    omega
  · refine ⟨fun z => ?_, fun z => absurd z q⟩
    exfalso
    have hw1 : ∃ j, wkG (eS N (4 * u + p)) (byA N) j u (byA N u p) = true := Classical.byContradiction (fun y => q (hno.mpr (fun k => by
      cases hk : wkG (eS N (4 * u + p)) (byA N) k u (byA N u p) with
      | false => rfl
      | true => exact absurd ⟨k, hk⟩ y)))
    obtain ⟨j1, hj1⟩ := hw1
    obtain ⟨j0, hj0⟩ := br_A hw.1 hu hp j1 u hu hj1
    have heq : cntM (fun k => g k < 99) 256 = cntM (fun k => f k < 99) 256 := cntM_cg (by decide) (fun k k0 k1 => by
      refine ⟨hle k k0 k1, fun y => ?_⟩
      by_cases q : k / 16 < nd N ∧ k % 16 < nd N
      · have hk : k = 16 * (k / 16) + k % 16 := by omega
        rw [hk] at y ⊢
        obtain ⟨j, hj⟩ := (hf1 _ _ ⟨by omega, q.1⟩ ⟨by omega, q.2⟩).mp y
        exact (hg1 _ _ ⟨by omega, q.1⟩ ⟨by omega, q.2⟩).mpr (br_C hw.1 hu hp hM hj0 j _ ⟨by omega, q.1⟩ hj)
      · rw [hf.2 k k0 k1 (by omega)] at y
        rw [hg.2 k k0 k1 (by rw [hby.2]; omega)]
        exact y)
    omega
def brL (N : NS) (e : Int) : Int := if eA N (e / 4) (e % 4) = true ∧ e / 4 < byA N (e / 4) (e % 4) then 1 else 0
def brD (N : NS) (e : Int) : Int := if dG (eS N e) (byA N) (e / 4) (byA N (e / 4) (e % 4)) = -1000000 then 1 else 0
theorem brL_c {N : NS} {e : Int} : (brL N e = 1 ∧ eA N (e / 4) (e % 4) = true ∧ e / 4 < byA N (e / 4) (e % 4)) ∨ (brL N e = 0 ∧ ¬ (eA N (e / 4) (e % 4) = true ∧ e / 4 < byA N (e / 4) (e % 4))) := by
  unfold brL
  by_cases q : eA N (e / 4) (e % 4) = true ∧ e / 4 < byA N (e / 4) (e % 4)
  · exact Or.inl ⟨if_pos q, q⟩
  · exact Or.inr ⟨if_neg q, q⟩
theorem brD_c {N : NS} {e : Int} : (brD N e = 1 ∧ dG (eS N e) (byA N) (e / 4) (byA N (e / 4) (e % 4)) = -1000000) ∨ (brD N e = 0 ∧ dG (eS N e) (byA N) (e / 4) (byA N (e / 4) (e % 4)) ≠ -1000000) := by
  unfold brD
  by_cases q : dG (eS N e) (byA N) (e / 4) (byA N (e / 4) (e % 4)) = -1000000
  · exact Or.inl ⟨if_pos q, q⟩
  · exact Or.inr ⟨if_neg q, q⟩
def brA (N : NS) (k : Int) : Int × Int := fo (fun s e => if brL N e = 1 ∧ brD N e = 1 then (s.1 + 1, if s.1 = 0 then e else s.2) else s) ((0 : Int), (-1000000 : Int)) k
theorem brA_s {N : NS} {k : Int} (h : 0 ≤ k) : brA N (k + 1) = if brL N k = 1 ∧ brD N k = 1 then ((brA N k).1 + 1, if (brA N k).1 = 0 then k else (brA N k).2) else brA N k := fo_s _ _ h
theorem brA_bd {N : NS} {k : Int} (h : 0 ≤ k) : 0 ≤ (brA N k).1 ∧ (brA N k).1 ≤ k := by
  refine up_ind (P := fun k => 0 ≤ (brA N k).1 ∧ (brA N k).1 ≤ k) ⟨Int.le_refl _, Int.le_refl _⟩ ?_ h
  intro k hk ih
  rw [brA_s hk]
  split
  · exact ⟨by show 0 ≤ (brA N k).1 + 1; omega, by show (brA N k).1 + 1 ≤ k + 1; omega⟩
  · exact ⟨ih.1, by omega⟩
def OBR (Z : ZS) (w r : Int) : Prop := NQ Z (-1000002) (fun N => (¬ (0 ≤ w ∧ w ≤ 1) ∧ r = -1000001) ∨ ((w = 0 ∧ r = (brA N (4 * nd N)).1) ∨ (w = 1 ∧ r = (brA N (4 * nd N)).2))) r
