/-! ===== steps 2 to 4 of a TURN, as numbers ===== -/
/-- a row that names letters, each at most once, all that fly among them -/
def ENUM (N : NS) (O : Int → Int) (n : Int) : Prop := (0 ≤ n ∧ n ≤ n_sc N 5) ∧ (∀ i, 0 ≤ i → i < n → 0 ≤ O i ∧ O i < n_sc N 5) ∧ (∀ i j, 0 ≤ i → i < j → j < n → O i ≠ O j) ∧ (∀ k, 0 ≤ k → k < n_sc N 5 → n_le N k 3 = 1 → ∃ i, (0 ≤ i ∧ i < n) ∧ O i = k)
theorem ENUM_of {N : NS} {O : Int → Int} {n : Int} (h : ORD N O n) : ENUM N O n := ⟨h.1, fun i a b => (h.2.1 i a b).1, h.2.2.1, h.2.2.2⟩
theorem ENUM_mk {N : NS} {O : Int → Int} {n : Int} {P : Int → Bool} {u : Int → Int → Int} {L : List Int} (h : ENUM N O n) (hu : ∀ k, P k = true → u k 3 ≠ 1) : ENUM (mkL N P u L) O n := by
  refine ⟨h.1, h.2.1, h.2.2.1, fun k q1 q2 q3 => h.2.2.2 k q1 q2 ?_⟩
  have q3 : (if P k = true then u k 3 else n_le N k 3) = 1 := q3
  by_cases p : P k = true
  · rw [if_pos p] at q3; exact absurd q3 (hu k p)
  · rw [if_neg p] at q3; exact q3
theorem ENUM_id {N : NS} (h : 0 ≤ n_sc N 5) : ENUM N (fun i => i) (n_sc N 5) := ⟨⟨h, Int.le_refl _⟩, fun i a b => ⟨a, b⟩, fun i j a b c => by dsimp only; omega, fun k a b c => ⟨k, ⟨a, b⟩, rfl⟩⟩
def stI (N : NS) (P : Int → Bool) (w : Int) (e : Int → Int) (c i : Int) : NS := mkL N (fun k => P k && decide (psO e c k < i)) (fun k => losW N k w) (n_lg N)
theorem stI_le {N : NS} {P : Int → Bool} {w : Int} {e : Int → Int} {c i : Int} (hi : ∀ i j, 0 ≤ i → i < j → j < c → e i ≠ e j) (h0 : 0 ≤ i) (h1 : i < c) : n_le (stI N P w e c i) (e i) = n_le N (e i) := by
  funext f
  show (if (P (e i) && decide (psO e c (e i) < i)) = true then _ else n_le N (e i) f) = _
  rw [psO_O (by omega) hi h0 h1, decide_eq_false (Int.lt_irrefl _), Bool.and_false, if_neg (by simp)]
theorem stI_next {N : NS} {P : Int → Bool} {w : Int} {e : Int → Int} {c i : Int} (hi : ∀ i j, 0 ≤ i → i < j → j < c → e i ≠ e j) (h0 : 0 ≤ i) (h1 : i < c) (hP : P (e i) = true) : updL (stI N P w e c i) (e i) (losW (stI N P w e c i) (e i) w) (n_lg (stI N P w e c i)) = stI N P w e c (i + 1) := by
  refine mk_next hi h0 h1 hP (fun f => ?_)
  unfold losW
  rw [stI_le hi h0 h1]
  rfl
theorem stI_skip {N : NS} {P : Int → Bool} {w : Int} {e : Int → Int} {c i : Int} (h0 : 0 ≤ i) (h1 : i < c) (hP : P (e i) = false) : stI N P w e c (i + 1) = stI N P w e c i := mk_skip h0 h1 hP
theorem stI_0 {N : NS} {P : Int → Bool} {w : Int} {e : Int → Int} {c : Int} (hc : 0 ≤ c) (hP : ∀ k, P k = true → ∃ i, (0 ≤ i ∧ i < c) ∧ e i = k) : stI N P w e c 0 = N := mk_start hc hP
theorem stI_end {N : NS} {P : Int → Bool} {w : Int} {e : Int → Int} {c : Int} (hc : 0 ≤ c) : stI N P w e c c = mkL N P (fun k => losW N k w) (n_lg N) := mk_end hc
def oldP (N : NS) (k : Int) : Bool := decide ((0 ≤ k ∧ k < n_sc N 5) ∧ n_le N k 3 = 1 ∧ n_sc N 3 ≤ n_le N k 5)
def oldA (N : NS) : NS := mkL N (oldP N) (fun k => losW N k 2) (n_lg N)
theorem oldP_c {N : NS} {O : Int → Int} {n : Int} (h : ENUM N O n) : ∀ k, oldP N k = true → ∃ i, (0 ≤ i ∧ i < n) ∧ O i = k := fun k hk => by
  have := of_decide_eq_true hk
  exact h.2.2.2 k this.1.1 this.1.2 this.2.1
/-- how many links a NODE has -/
def lkA (N : NS) (v : Int) : Int := onE (n_sc N (13 + v))
theorem lkA_bd {N : NS} {T v : Int} (h : WF N T) (h0 : 0 ≤ v) (h1 : v < nd N) : 0 ≤ lkA N v ∧ lkA N v ≤ 4 := by
  have := (h.2.1 v h0 h1).1
  exact on_bdI this.1 this.2
/-- how many fly at v, of those before place i -/
def c2A (N : NS) (O : Int → Int) (n i v : Int) : Int := cntM (fun k => n_le N k 3 = 1 ∧ n_le N k 4 = v ∧ psO O n k < i) (n_sc N 5)
def ovP (N : NS) (O : Int → Int) (n k : Int) : Bool := decide ((0 ≤ k ∧ k < n_sc N 5) ∧ n_le N k 3 = 1 ∧ lkA N (n_le N k 4) ≤ c2A N O n (psO O n k) (n_le N k 4))
def ovA (N : NS) (O : Int → Int) (n : Int) : NS := mkL N (ovP N O n) (fun k => losW N k 3) (n_lg N)
theorem ovP_c {N : NS} {O : Int → Int} {n : Int} (h : ENUM N O n) : ∀ k, ovP N O n k = true → ∃ i, (0 ≤ i ∧ i < n) ∧ O i = k := fun k hk => by
  have := of_decide_eq_true hk
  exact h.2.2.2 k this.1.1 this.1.2 this.2.1
theorem c2A_0 {N : NS} {O : Int → Int} {n v : Int} (h : ENUM N O n) : c2A N O n 0 v = 0 := by
  refine cntM_zero (by have := h.1; omega) (fun k q1 q2 q3 => ?_)
  obtain ⟨i, hi, e⟩ := h.2.2.2 k q1 q2 q3.1
  rw [← e, psO_O h.1.1 h.2.2.1 hi.1 hi.2] at q3
  omega
theorem c2A_s {N : NS} {O : Int → Int} {n i v : Int} (h : ENUM N O n) (h0 : 0 ≤ i) (h1 : i < n) : c2A N O n (i + 1) v = if n_le N (O i) 3 = 1 ∧ n_le N (O i) 4 = v then c2A N O n i v + 1 else c2A N O n i v := by
  have hp := psO_O h.1.1 h.2.2.1 h0 h1
  have hb := h.2.1 i h0 h1
  have hk : ∀ k, k ≠ O i → ((psO O n k < i + 1) ↔ (psO O n k < i)) := by
    intro k hk
    constructor
    · intro z
      rcases psO_c (O := O) (n := n) h.1.1 k with ⟨y, _⟩ | ⟨y, y2⟩
      · omega
      · by_cases x : psO O n k = i
        · rw [x] at y2; exact absurd y2.symm hk
        · omega
    · intro z; omega
  by_cases q : n_le N (O i) 3 = 1 ∧ n_le N (O i) 4 = v
  · rw [if_pos q]
    refine cntM_one hb.1 hb.2 (fun z => by rw [hp] at z; omega) (fun k q1 q2 => ?_)
    by_cases z : k = O i
    · rw [z, hp]
      exact ⟨fun _ => Or.inr rfl, fun _ => ⟨q.1, q.2, by omega⟩⟩
    · rw [hk k z]
      exact ⟨fun y => Or.inl y, fun y => y.elim (fun x => x) (fun x => absurd x z)⟩
  · rw [if_neg q]
    refine cntM_cg (by omega) (fun k q1 q2 => ?_)
    by_cases z : k = O i
    · rw [z]
      exact ⟨fun y => absurd ⟨y.1, y.2.1⟩ q, fun y => absurd ⟨y.1, y.2.1⟩ q⟩
    · rw [hk k z]
/-- how many fly at v -/
def hrA (N : NS) (v : Int) : Int := cntM (fun k => n_le N k 3 = 1 ∧ n_le N k 4 = v) (n_sc N 5)
/-- the crowd behind i letters: those that stay -/
def cwA (N : NS) (O : Int → Int) (n i v : Int) : Int := cntM (fun k => (n_le N k 3 = 1 ∧ n_le N k 4 = v ∧ psO O n k < i) ∧ ovP N O n k = false) (n_sc N 5)
theorem cwA_s {N : NS} {O : Int → Int} {n i v : Int} (h : ENUM N O n) (h0 : 0 ≤ i) (h1 : i < n) : cwA N O n (i + 1) v = if (n_le N (O i) 3 = 1 ∧ n_le N (O i) 4 = v) ∧ ovP N O n (O i) = false then cwA N O n i v + 1 else cwA N O n i v := by
  have hp := psO_O h.1.1 h.2.2.1 h0 h1
  have hb := h.2.1 i h0 h1
  have hk : ∀ k, k ≠ O i → ((psO O n k < i + 1) ↔ (psO O n k < i)) := by
    intro k hk
    constructor
    · intro z
      rcases psO_c (O := O) (n := n) h.1.1 k with ⟨y, _⟩ | ⟨y, y2⟩
      · omega
      · by_cases x : psO O n k = i
        · rw [x] at y2; exact absurd y2.symm hk
        · omega
    · intro z; omega
  by_cases q : (n_le N (O i) 3 = 1 ∧ n_le N (O i) 4 = v) ∧ ovP N O n (O i) = false
  · rw [if_pos q]
    refine cntM_one hb.1 hb.2 (fun z => by rw [hp] at z; omega) (fun k q1 q2 => ?_)
    by_cases z : k = O i
    · rw [z, hp]
      exact ⟨fun _ => Or.inr rfl, fun _ => ⟨⟨q.1.1, q.1.2, by omega⟩, q.2⟩⟩
    · rw [hk k z]
      exact ⟨fun y => Or.inl y, fun y => y.elim (fun x => x) (fun x => absurd x z)⟩
  · rw [if_neg q]
    refine cntM_cg (by omega) (fun k q1 q2 => ?_)
    by_cases z : k = O i
    · rw [z]
      exact ⟨fun y => absurd ⟨⟨y.1.1, y.1.2.1⟩, y.2⟩ q, fun y => absurd ⟨⟨y.1.1, y.1.2.1⟩, y.2⟩ q⟩
    · rw [hk k z]
theorem cwA_0 {N : NS} {O : Int → Int} {n v : Int} (h : ENUM N O n) : cwA N O n 0 v = 0 := by
  refine cntM_zero (by have := h.1; omega) (fun k q1 q2 q3 => ?_)
  have q3 := q3.1
  obtain ⟨i, hi, e⟩ := h.2.2.2 k q1 q2 q3.1
  rw [← e, psO_O h.1.1 h.2.2.1 hi.1 hi.2] at q3
  omega
/-- those that stay: as many as there are, or as there are links -/
theorem cwA_min {N : NS} {O : Int → Int} {n i v : Int} (h : ENUM N O n) (hl : 0 ≤ lkA N v) (h0 : 0 ≤ i) (h1 : i ≤ n) : cwA N O n i v = if c2A N O n i v ≤ lkA N v then c2A N O n i v else lkA N v := by
  refine up_ind (P := fun i => i ≤ n → cwA N O n i v = if c2A N O n i v ≤ lkA N v then c2A N O n i v else lkA N v) (fun _ => ?_) (fun k hk ih h2 => ?_) h0 h1
  · rw [cwA_0 h, c2A_0 h, if_pos hl]
  · have ih := ih (by omega)
    rw [cwA_s h hk (by omega), c2A_s h hk (by omega), ih]
    by_cases q : n_le N (O k) 3 = 1 ∧ n_le N (O k) 4 = v
    · have hb := h.2.1 k hk (by omega)
      have e : ovP N O n (O k) = decide (lkA N v ≤ c2A N O n k v) := by
        unfold ovP
        rw [psO_O h.1.1 h.2.2.1 hk (by omega), q.2]
        exact decide_eq_decide.mpr ⟨fun z => z.2.2, fun z => ⟨hb, q.1, z⟩⟩
      rw [e, if_pos q]
      by_cases z : lkA N v ≤ c2A N O n k v
      · rw [decide_eq_true z, if_neg (fun y : (n_le N (O k) 3 = 1 ∧ n_le N (O k) 4 = v) ∧ true = false => by have := y.2; cases this)]
        (repeat' split) <;> omega
      · rw [decide_eq_false z, if_pos ⟨q, rfl⟩]
        (repeat' split) <;> omega
    · rw [if_neg (fun z => q z.1), if_neg q]
theorem cwA_n {N : NS} {O : Int → Int} {n v : Int} (h : ENUM N O n) : cwA N O n n v = hrA (ovA N O n) v := by
  unfold cwA hrA
  show _ = cntM _ (n_sc N 5)
  refine cntM_cg (by have := h.1; omega) (fun k q1 q2 => ?_)
  show _ ↔ (if ovP N O n k = true then losW N k 3 3 else n_le N k 3) = 1 ∧ (if ovP N O n k = true then losW N k 3 4 else n_le N k 4) = v
  by_cases z : ovP N O n k = true
  · rw [if_pos z, if_pos z]
    constructor
    · intro y; rw [z] at y; exact absurd y.2 (by simp)
    · intro y; exact absurd y.1 (by simp [losW])
  · have z2 : ovP N O n k = false := by simpa using z
    rw [if_neg z, if_neg z]
    constructor
    · intro y; exact ⟨y.1.1, y.1.2.1⟩
    · intro y
      refine ⟨⟨y.1, y.2, ?_⟩, z2⟩
      obtain ⟨i, hi, e⟩ := h.2.2.2 k q1 q2 y.1
      rw [← e, psO_O h.1.1 h.2.2.1 hi.1 hi.2]
      exact hi.2
/-! put in -/
def fsA (N : NS) (v : Int) : Int := nthR (fun k => n_le N k 3 = 0 ∧ n_le N k 1 = v) (n_sc N 5 - 0).toNat 0 0
def puP (N : NS) (k : Int) : Bool := decide ((0 ≤ k ∧ k < n_sc N 5) ∧ n_le N k 3 = 0 ∧ fsA N (n_le N k 1) = k ∧ hrA N (n_le N k 1) < lkA N (n_le N k 1))
def puU (N : NS) (k f : Int) : Int := if f = 3 then 1 else if f = 5 then 0 else n_le N k f
def puA (N : NS) : NS := mkS N (puP N) (puU N)
