/-! ===== counting, the order by rank, letters changed one by one ===== -/
theorem cntM_cg {P Q : Int → Prop} [DecidablePred P] [DecidablePred Q] {n : Int} (h : 0 ≤ n) (e : ∀ k, 0 ≤ k → k < n → (P k ↔ Q k)) : cntM P n = cntM Q n := by
  refine up_ind (P := fun j => j ≤ n → cntM P j = cntM Q j) (fun _ => rfl) (fun k hk ih h2 => ?_) h (Int.le_refl _)
  rw [cntM_s P hk, cntM_s Q hk, ih (by omega)]
  by_cases q : P k
  · rw [if_pos q, if_pos ((e k hk (by omega)).mp q)]
  · rw [if_neg q, if_neg (fun z => q ((e k hk (by omega)).mpr z))]
/-- one more -/
theorem cntM_one {P Q : Int → Prop} [DecidablePred P] [DecidablePred Q] {n l : Int} (h0 : 0 ≤ l) (h1 : l < n) (hl : ¬ P l) (e : ∀ k, 0 ≤ k → k < n → (Q k ↔ (P k ∨ k = l))) : cntM Q n = cntM P n + 1 := by
  have key : ∀ j, 0 ≤ j → j ≤ n → cntM Q j = cntM P j + (if l < j then 1 else 0) := by
    intro j hj
    refine up_ind (P := fun j => j ≤ n → cntM Q j = cntM P j + (if l < j then 1 else 0)) (fun _ => ?_) (fun k hk ih h2 => ?_) hj
    · rw [if_neg (by omega)]; rfl
    · rw [cntM_s P hk, cntM_s Q hk, ih (by omega)]
      have ek := e k hk (by omega)
      by_cases q : k = l
      · subst q
        rw [if_pos (ek.mpr (Or.inr rfl)), if_neg hl, if_neg (Int.lt_irrefl _), if_pos (by omega)]
        omega
      · have ei : (if l < k then (1 : Int) else 0) = (if l < k + 1 then (1 : Int) else 0) := by
          by_cases z : l < k
          · rw [if_pos z, if_pos (by omega)]
          · rw [if_neg z, if_neg (by omega)]
        rw [ei]
        by_cases p : P k
        · rw [if_pos p, if_pos (ek.mpr (Or.inl p))]; omega
        · rw [if_neg p, if_neg (fun z => (ek.mp z).elim p q)]
  have := key n (by omega) (Int.le_refl _)
  rw [if_pos h1] at this
  exact this
theorem cntM_lt {P : Int → Prop} [DecidablePred P] {n l : Int} (h0 : 0 ≤ l) (h1 : l < n) (hl : ¬ P l) : cntM P n < n := by
  have e := cntM_one (P := P) (Q := fun k => P k ∨ k = l) h0 h1 hl (fun k _ _ => Iff.rfl)
  have b := (cntM_bd (fun k => P k ∨ k = l) (n := n) (by omega)).2
  omega
theorem cntM_pos {P : Int → Prop} [DecidablePred P] {n l : Int} (h0 : 0 ≤ l) (h1 : l < n) (hl : P l) : 0 < cntM P n := by
  have e := cntM_one (P := fun k => P k ∧ k ≠ l) (Q := P) h0 h1 (fun z => z.2 rfl) (fun k _ _ => ⟨fun z => by
    by_cases q : k = l
    · exact Or.inr q
    · exact Or.inl ⟨z, q⟩, fun z => by
    rcases z with z | z
    · exact z.1
    · rw [z]; exact hl⟩)
  have b := (cntM_bd (fun k => P k ∧ k ≠ l) (n := n) (by omega)).1
  omega
theorem cntM_zero {P : Int → Prop} [DecidablePred P] {n : Int} (h : 0 ≤ n) (e : ∀ k, 0 ≤ k → k < n → ¬ P k) : cntM P n = 0 := by
  refine up_ind (P := fun j => j ≤ n → cntM P j = 0) (fun _ => rfl) (fun k hk ih h2 => ?_) h (Int.le_refl _)
  rw [cntM_s P hk, if_neg (e k hk (by omega)), ih (by omega)]
theorem cntM_mono {P Q : Int → Prop} [DecidablePred P] [DecidablePred Q] {n : Int} (h : 0 ≤ n) (e : ∀ k, 0 ≤ k → k < n → P k → Q k) : cntM P n ≤ cntM Q n := by
  refine up_ind (P := fun j => j ≤ n → cntM P j ≤ cntM Q j) (fun _ => Int.le_refl _) (fun k hk ih h2 => ?_) h (Int.le_refl _)
  rw [cntM_s P hk, cntM_s Q hk]
  have ih := ih (by omega)
  by_cases q : P k
  · rw [if_pos q, if_pos (e k hk (by omega) q)]; omega
  · rw [if_neg q]
    split <;> omega
/-! the order -/
theorem insF_lt {A : Int → Int} {p n k i : Int} (h : i < p) : insF A p n k i = A i := by unfold insF; rw [if_pos h]
theorem insF_eq {A : Int → Int} {p n k : Int} : insF A p n k p = k := by unfold insF; rw [if_neg (Int.lt_irrefl _), if_pos rfl]
theorem insF_gt {A : Int → Int} {p n k i : Int} (h : p < i) (h2 : i ≤ n) : insF A p n k i = A (i - 1) := by unfold insF; rw [if_neg (by omega), if_neg (by omega), if_pos h2]
theorem srt_cg2 {fl fl' : Int → Bool} {ah ah' : Int → Int → Bool} {A0 A0' : Int → Int} {k : Int} (h : 0 ≤ k) (h1 : ∀ x, 0 ≤ x → x < k → fl x = fl' x) (h2 : ∀ x y, 0 ≤ y → y < x → x < k → fl x = true → fl y = true → ah x y = ah' x y) : (srt fl ah A0 k).2 = (srt fl' ah' A0' k).2 ∧ ∀ i, 0 ≤ i → i < (srt fl ah A0 k).2 → (srt fl ah A0 k).1 i = (srt fl' ah' A0' k).1 i := by
  obtain ⟨n, rfl⟩ := Int.eq_ofNat_of_zero_le h
  induction n with
  | zero => exact ⟨rfl, fun i a b => by have : (srt fl ah A0 ((0 : Nat) : Int)).2 = 0 := rfl; omega⟩
  | succ n ih =>
    have ih := ih (by omega) (fun x a b => h1 x a (by omega)) (fun x y a b c => h2 x y a b (by omega))
    have e1 := srt_s (fl := fl) (ah := ah) (A0 := A0) (k := (n : Int)) (by omega)
    have e2 := srt_s (fl := fl') (ah := ah') (A0 := A0') (k := (n : Int)) (by omega)
    have b1 := srt_bd (fl := fl) (ah := ah) (A0 := A0) (k := (n : Int)) (by omega)
    rw [show ((n + 1 : Nat) : Int) = (n : Int) + 1 by omega, e1, e2, ← h1 (n : Int) (by omega) (by omega)]
    generalize srt fl ah A0 (n : Int) = s at ih b1 ⊢
    generalize srt fl' ah' A0' (n : Int) = s' at ih ⊢
    obtain ⟨i1, i2⟩ := ih
    by_cases hf : fl (n : Int) = true
    · rw [if_pos hf, if_pos hf]
      refine ⟨by dsimp only; omega, ?_⟩
      have ep : ∀ q : Nat, (q : Int) ≤ s.2 → ipos (fun j => ah (n : Int) (s.1 j)) q = ipos (fun j => ah' (n : Int) (s'.1 j)) q := by
        intro q
        induction q with
        | zero => intro _; rfl
        | succ q ihq =>
          intro hq
          unfold ipos
          have e : ah (n : Int) (s.1 (q : Int)) = ah' (n : Int) (s'.1 (q : Int)) := by
            rw [← i2 (q : Int) (by omega) (by omega)]
            have := b1.2 (q : Int) (by omega) (by omega)
            exact h2 _ _ (by omega) (by omega) (by omega) hf this.2
          rw [e, ihq (by omega)]
      have ep2 := ep s.2.toNat (by omega)
      intro i q1 q2
      dsimp only at q2 ⊢
      rw [← i1, ← ep2]
      have := ipos_spec (fun j => ah (n : Int) (s.1 j)) s.2.toNat
      unfold insF
      split
      · exact i2 i q1 (by omega)
      · split
        · rfl
        · split
          · exact i2 (i - 1) (by omega) (by omega)
          · omega
    · rw [if_neg hf, if_neg hf]
      exact ⟨i1, i2⟩
theorem srt_ord {fl : Int → Bool} {ah : Int → Int → Bool} {A0 : Int → Int} {k : Int} (h : 0 ≤ k) (htot : ∀ x y, x ≠ y → ah x y = true ∨ ah y x = true) (htr : ∀ x y z, ah x y = true → ah y z = true → ah x z = true) : (∀ i j, 0 ≤ i → i < j → j < (srt fl ah A0 k).2 → ah ((srt fl ah A0 k).1 i) ((srt fl ah A0 k).1 j) = true ∧ (srt fl ah A0 k).1 i ≠ (srt fl ah A0 k).1 j) ∧ (∀ x, 0 ≤ x → x < k → fl x = true → ∃ i, (0 ≤ i ∧ i < (srt fl ah A0 k).2) ∧ (srt fl ah A0 k).1 i = x) := by
  refine up_ind (P := fun k => (∀ i j, 0 ≤ i → i < j → j < (srt fl ah A0 k).2 → ah ((srt fl ah A0 k).1 i) ((srt fl ah A0 k).1 j) = true ∧ (srt fl ah A0 k).1 i ≠ (srt fl ah A0 k).1 j) ∧ (∀ x, 0 ≤ x → x < k → fl x = true → ∃ i, (0 ≤ i ∧ i < (srt fl ah A0 k).2) ∧ (srt fl ah A0 k).1 i = x)) ?_ (fun k hk ih => ?_) h
  · refine ⟨fun i j q1 q2 q3 => ?_, fun x q1 q2 => by omega⟩
    have : (srt fl ah A0 0).2 = 0 := rfl
    omega
  · have hb := srt_bd (fl := fl) (ah := ah) (A0 := A0) hk
    rw [srt_s hk]
    generalize srt fl ah A0 k = s at ih hb ⊢
    obtain ⟨⟨b1, b2⟩, b3⟩ := hb
    obtain ⟨i1, i2⟩ := ih
    by_cases hf : fl k = true
    · rw [if_pos hf]
      obtain ⟨p1, p2, p3, p4⟩ := ipos_spec (fun j => ah k (s.1 j)) s.2.toNat
      generalize ipos (fun j => ah k (s.1 j)) s.2.toNat = p at p1 p2 p3 p4 ⊢
      rw [Int.toNat_of_nonneg b1] at p2 p3
      dsimp only at p3 p4 ⊢
      have pl : ∀ j, 0 ≤ j → j < p → ah (s.1 j) k = true := by
        intro j q1 q2
        rcases p4 with p4 | p4
        · omega
        · have hlast : ah (s.1 (p - 1)) k = true := by
            rcases htot k (s.1 (p - 1)) (by have := (b3 (p - 1) (by omega) (by omega)).1; omega) with z | z
            · rw [z] at p4; cases p4
            · exact z
          by_cases e : j = p - 1
          · rw [e]; exact hlast
          · exact htr _ _ _ (i1 j (p - 1) q1 (by omega) (by omega)).1 hlast
      have hlt : ∀ j, 0 ≤ j → j < s.2 → s.1 j ≠ k := fun j q1 q2 => by have := (b3 j q1 q2).1; omega
      refine ⟨fun i j q1 q2 q3 => ?_, fun x q1 q2 q3 => ?_⟩
      · by_cases c1 : j < p
        · rw [insF_lt c1, insF_lt (show i < p by omega)]
          exact i1 i j q1 q2 (by omega)
        · by_cases c2 : j = p
          · rw [c2, insF_eq, insF_lt (show i < p by omega)]
            exact ⟨pl i q1 (by omega), hlt i q1 (by omega)⟩
          · rw [insF_gt (i := j) (show p < j by omega) (by omega)]
            by_cases c3 : i < p
            · rw [insF_lt c3]
              exact i1 i (j - 1) q1 (by omega) (by omega)
            · by_cases c4 : i = p
              · rw [c4, insF_eq]
                exact ⟨p3 (j - 1) (by omega) (by omega), (hlt (j - 1) (by omega) (by omega)).symm⟩
              · rw [insF_gt (i := i) (show p < i by omega) (by omega)]
                exact i1 (i - 1) (j - 1) (by omega) (by omega) (by omega)
      · by_cases c : x = k
        · exact ⟨p, by omega, by rw [insF_eq, c]⟩
        · obtain ⟨i, hi, e⟩ := i2 x q1 (by omega) q3
          by_cases c1 : i < p
          · exact ⟨i, by omega, by rw [insF_lt c1, e]⟩
          · exact ⟨i + 1, by omega, by rw [insF_gt (by omega) (by omega), show i + 1 - 1 = i by omega, e]⟩
    · rw [if_neg hf]
      refine ⟨i1, fun x q1 q2 q3 => i2 x q1 ?_ q3⟩
      by_cases c : x = k
      · rw [c] at q3; exact absurd q3 hf
      · omega
def wgA (N : NS) (k : Int) : Int := if n_le N k 0 = 2 then 2 * n_le N k 5 else if n_le N k 0 = 5 then n_le N k 5 / 2 else n_le N k 5
def ahA (N : NS) (g x y : Int) : Bool := decide (if x = g ∨ y = g then x = g else wgA N x > wgA N y ∨ (wgA N x = wgA N y ∧ x < y))
theorem ahA_tot {N : NS} {g x y : Int} (h : x ≠ y) : ahA N g x y = true ∨ ahA N g y x = true := by
  unfold ahA
  simp only [decide_eq_true_eq]
  by_cases h1 : x = g
  · left; rw [if_pos (Or.inl h1)]; exact h1
  · by_cases h2 : y = g
    · right; rw [if_pos (Or.inl h2)]; exact h2
    · rw [if_neg (fun z => z.elim h1 h2), if_neg (fun z => z.elim h2 h1)]; omega
theorem ahA_tr {N : NS} {g x y z : Int} (h1 : ahA N g x y = true) (h2 : ahA N g y z = true) : ahA N g x z = true := by
  unfold ahA at h1 h2 ⊢
  simp only [decide_eq_true_eq] at h1 h2 ⊢
  by_cases a : x = g
  · rw [if_pos (Or.inl a)]; exact a
  · by_cases b : y = g
    · rw [if_pos (Or.inr b)] at h1; exact absurd h1 a
    · by_cases c : z = g
      · rw [if_pos (Or.inr c)] at h2; exact absurd h2 b
      · rw [if_neg (fun z => z.elim a b)] at h1
        rw [if_neg (fun z => z.elim b c)] at h2
        rw [if_neg (fun z => z.elim a c)]
        omega
def ordA (N : NS) (g : Int) : (Int → Int) × Int := srt (fun k => decide (n_le N k 3 = 1)) (ahA N g) (fun _ => 0) (n_sc N 5)
/-- a row that names each letter that flies once -/
def ORD (N : NS) (O : Int → Int) (n : Int) : Prop := (0 ≤ n ∧ n ≤ n_sc N 5) ∧ (∀ i, 0 ≤ i → i < n → (0 ≤ O i ∧ O i < n_sc N 5) ∧ n_le N (O i) 3 = 1) ∧ (∀ i j, 0 ≤ i → i < j → j < n → O i ≠ O j) ∧ (∀ k, 0 ≤ k → k < n_sc N 5 → n_le N k 3 = 1 → ∃ i, (0 ≤ i ∧ i < n) ∧ O i = k)
theorem ordA_ORD {N : NS} {g : Int} (h : 0 ≤ n_sc N 5) : ORD N (ordA N g).1 (ordA N g).2 := by
  have b := srt_bd (fl := fun k => decide (n_le N k 3 = 1)) (ah := ahA N g) (A0 := fun _ => 0) h
  have o := srt_ord (fl := fun k => decide (n_le N k 3 = 1)) (ah := ahA N g) (A0 := fun _ => 0) h (fun x y q => ahA_tot q) (fun x y z => ahA_tr)
  exact ⟨b.1, fun i q1 q2 => ⟨(b.2 i q1 q2).1, of_decide_eq_true (b.2 i q1 q2).2⟩, fun i j q1 q2 q3 => (o.1 i j q1 q2 q3).2, fun k q1 q2 q3 => o.2 k q1 q2 (decide_eq_true q3)⟩
theorem ordA_ah {N : NS} {g : Int} (h : 0 ≤ n_sc N 5) {i j : Int} (h0 : 0 ≤ i) (h1 : i < j) (h2 : j < (ordA N g).2) : ahA N g ((ordA N g).1 i) ((ordA N g).1 j) = true := (srt_ord (fl := fun k => decide (n_le N k 3 = 1)) (ah := ahA N g) (A0 := fun _ => 0) h (fun x y q => ahA_tot q) (fun x y z => ahA_tr)).1 i j h0 h1 h2 |>.1
/-- the place of a letter in a row -/
def psO (O : Int → Int) (n k : Int) : Int := nthR (fun i => O i = k) (n - 0).toNat 0 0
theorem psO_c {O : Int → Int} {n : Int} (hn : 0 ≤ n) (k : Int) : (psO O n k = -1000000 ∧ ∀ i, 0 ≤ i → i < n → O i ≠ k) ∨ ((0 ≤ psO O n k ∧ psO O n k < n) ∧ O (psO O n k) = k) := nthR_sp (fun i => O i = k) hn
theorem psO_O {O : Int → Int} {n i : Int} (hn : 0 ≤ n) (hi : ∀ i j, 0 ≤ i → i < j → j < n → O i ≠ O j) (h0 : 0 ≤ i) (h1 : i < n) : psO O n (O i) = i := by
  rcases psO_c (O := O) hn (O i) with ⟨_, h⟩ | ⟨h, e⟩
  · exact absurd rfl (h i h0 h1)
  · by_cases c : psO O n (O i) < i
    · exact absurd e (hi _ _ h.1 c h1)
    · by_cases c2 : i < psO O n (O i)
      · exact absurd e.symm (hi _ _ h0 c2 h.2)
      · omega
/-! letters changed one by one -/
theorem mkL_next {N : NS} {Q Q' : Int → Bool} {u : Int → Int → Int} {L L' : List Int} {l : Int} {w : Int → Int} (hD : ∀ k, Q' k = (Q k || decide (k = l))) (hw : ∀ f, w f = u l f) : updL (mkL N Q u L) l w L' = mkL N Q' u L' := by
  unfold updL mkL
  have e1 : (List.filter (fun y => !Q y) (n_gd N)).filter (fun y => decide (y ≠ l)) = (n_gd N).filter (fun y => !Q' y) := by
    rw [List.filter_filter]
    congr 1
    funext y
    rw [hD]
    by_cases q : y = l
    · subst q; simp
    · simp [q]
  have e2 : (fun (k f : Int) => if k = l then w f else if Q k = true then u k f else n_le N k f) = fun k f => if Q' k = true then u k f else n_le N k f := by
    funext k f
    rw [hD]
    by_cases q : k = l
    · subst q; simp [hw]
    · simp [q]
  dsimp only [n_sc, n_gd, n_le] at e1 e2 ⊢
  rw [e1, e2]
theorem mkL_eq {N : NS} {Q Q' : Int → Bool} {u : Int → Int → Int} {L : List Int} (h : ∀ k, Q' k = Q k) : mkL N Q' u L = mkL N Q u L := by
  rw [show Q' = Q from funext h]
/-- in a row e of c letters: those before place i -/
theorem mk_next {N : NS} {P : Int → Bool} {u : Int → Int → Int} {L L' : List Int} {e : Int → Int} {c i : Int} {w : Int → Int} (hi : ∀ i j, 0 ≤ i → i < j → j < c → e i ≠ e j) (h0 : 0 ≤ i) (h1 : i < c) (hP : P (e i) = true) (hw : ∀ f, w f = u (e i) f) : updL (mkL N (fun k => P k && decide (psO e c k < i)) u L) (e i) w L' = mkL N (fun k => P k && decide (psO e c k < i + 1)) u L' := by
  refine mkL_next (fun k => ?_) hw
  have hp := psO_O (by omega) hi h0 h1
  by_cases q : k = e i
  · subst q
    simp only [hP, hp, Bool.true_and, decide_true, Bool.or_true, decide_eq_true_eq]
    omega
  · have : (psO e c k < i + 1) ↔ (psO e c k < i) := by
      constructor
      · intro z
        rcases psO_c (O := e) (n := c) (by omega) k with ⟨y, _⟩ | ⟨y, y2⟩
        · omega
        · by_cases x : psO e c k = i
          · rw [x] at y2; exact absurd y2.symm q
          · omega
      · intro z; omega
    simp only [this, q, decide_false, Bool.or_false]
theorem mk_skip {N : NS} {P : Int → Bool} {u : Int → Int → Int} {L : List Int} {e : Int → Int} {c i : Int} (h0 : 0 ≤ i) (h1 : i < c) (hP : P (e i) = false) : mkL N (fun k => P k && decide (psO e c k < i + 1)) u L = mkL N (fun k => P k && decide (psO e c k < i)) u L := by
  refine mkL_eq (fun k => ?_)
  by_cases q : k = e i
  · subst q; simp [hP]
  · have : (psO e c k < i + 1) ↔ (psO e c k < i) := by
      constructor
      · intro z
        rcases psO_c (O := e) (n := c) (by omega) k with ⟨y, _⟩ | ⟨y, y2⟩
        · omega
        · by_cases x : psO e c k = i
          · rw [x] at y2; exact absurd y2.symm q
          · omega
      · intro z; omega
    simp only [this]
theorem mk_start {N : NS} {P : Int → Bool} {u : Int → Int → Int} {e : Int → Int} {c : Int} (hc : 0 ≤ c) (hP : ∀ k, P k = true → ∃ i, (0 ≤ i ∧ i < c) ∧ e i = k) : mkL N (fun k => P k && decide (psO e c k < 0)) u (n_lg N) = N := by
  refine mkL_none (fun k => ?_)
  by_cases q : P k = true
  · obtain ⟨i, hi, x⟩ := hP k q
    rcases psO_c (O := e) (n := c) hc k with ⟨_, y⟩ | ⟨y, _⟩
    · exact absurd x (y i hi.1 hi.2)
    · rw [decide_eq_false (by omega)]; simp
  · simp only [Bool.not_eq_true] at q
    rw [q]; rfl
theorem mk_end {N : NS} {P : Int → Bool} {u : Int → Int → Int} {L : List Int} {e : Int → Int} {c : Int} (hc : 0 ≤ c) : mkL N (fun k => P k && decide (psO e c k < c)) u L = mkL N P u L := by
  refine mkL_eq (fun k => ?_)
  rcases psO_c (O := e) (n := c) hc k with ⟨y, _⟩ | ⟨y, _⟩
  · rw [decide_eq_true (by omega)]; simp
  · rw [decide_eq_true (by omega)]; simp
/-- letters changed, golden ones and log as they were -/
def mkS (N : NS) (P : Int → Bool) (u : Int → Int → Int) : NS := (n_sc N, n_gd N, n_lg N, fun k f => if P k then u k f else n_le N k f)
